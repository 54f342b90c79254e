theorem itX_ind {S : Type} {A : Nat → S → Option Nat × S} (I : Nat → S → Prop) (Q : Nat → S → Prop) : ∀ (n i : Nat) (z : S),
    (∀ j z, i ≤ j → j < i + n → I j z → (∀ z', A j z = (none, z') → I (j + 1) z') ∧ (∀ r z', A j z = (some r, z') → Q r z')) → I i z →
    (∀ z', itX A n i z = (none, z') → I (i + n) z') ∧ (∀ r z', itX A n i z = (some r, z') → Q r z')
  | 0, i, z, _, h => ⟨fun z' e => by cases e; exact h, fun r z' e => by cases e⟩
  | n + 1, i, z, hA, h => by
    have h1 := hA i z (Nat.le_refl _) (by omega) h
    rcases e : A i z with ⟨o, z1⟩
    cases o with
    | some q =>
      rw [itX_no (by omega) e]
      exact ⟨fun z' q => (by cases q), fun r z' e1 => by cases e1; exact h1.2 _ _ e⟩
    | none =>
      rw [itX_go (by omega) e]
      have := itX_ind I Q n (i + 1) z1 (fun j z h1 h2 => hA j z (by omega) (by omega)) (h1.1 _ e)
      rw [show i + 1 + n = i + (n + 1) by omega] at this
      exact this
def okWy (lk rm ar : Nat → Int32) (n fm : Nat) (rk : Nat → Nat) : Prop :=
  ∀ u, u < n → ar u ≠ -1 → u ≠ fm → ∃ k v, k < 4 ∧ v < n ∧ ar u = nI k ∧ lk (u * 4 + opp k) = nI v ∧ lk (v * 4 + k) = nI u ∧ rm (v * 4 + k) ≠ 0 ∧ ar v ≠ -1 ∧ rk v < rk u
abbrev Bf (lk rm : Nat → Int32) (n fm : Nat) (e : ES) (rk : Nat → Nat) : Prop := (okWy lk rm e.1 n fm rk) ∧ (∀ u, u < n → e.1 u ≠ -1 → ∃ j, j < e.2.2 ∧ nn (e.2.1 j) = u) ∧ (∀ u, u < n → e.1 u ≠ -1 → rk u < e.2.2) ∧ (∀ u, u < n → e.1 u ≠ -1 → fm ≤ u)
theorem Bf.way {lk rm : Nat → Int32} {n fm : Nat} {e : ES} {rk : Nat → Nat} (h9 : Bf lk rm n fm e rk) : okWy lk rm e.1 n fm rk := h9.1
theorem Bf.inq {lk rm : Nat → Int32} {n fm : Nat} {e : ES} {rk : Nat → Nat} (h9 : Bf lk rm n fm e rk) : ∀ u, u < n → e.1 u ≠ -1 → ∃ j, j < e.2.2 ∧ nn (e.2.1 j) = u := h9.2.1
theorem Bf.rkb {lk rm : Nat → Int32} {n fm : Nat} {e : ES} {rk : Nat → Nat} (h9 : Bf lk rm n fm e rk) : ∀ u, u < n → e.1 u ≠ -1 → rk u < e.2.2 := h9.2.2.1
theorem Bf.ge {lk rm : Nat → Int32} {n fm : Nat} {e : ES} {rk : Nat → Nat} (h9 : Bf lk rm n fm e rk) : ∀ u, u < n → e.1 u ≠ -1 → fm ≤ u := h9.2.2.2
theorem okWy_step {lk rm ar : Nat → Int32} {n fm ti si u q : Nat} {rk : Nat → Nat} (h : okWy lk rm ar n fm rk) (hb : ∀ u, u < n → ar u ≠ -1 → rk u < q) (hsi : si < 4) (hti : ti < n) (hta : ar ti ≠ -1) (hu : ar u = -1) (h1 : lk (ti * 4 + si) = nI u) (h2 : lk (u * 4 + opp si) = nI ti) (h3 : rm (ti * 4 + si) ≠ 0) :
    okWy lk rm (upd ar u (nI si)) n fm (fun x => if x = u then q else rk x) := by
  have hne : ti ≠ u := fun z => hta (by rw [z]; exact hu)
  intro x hx ha hf
  by_cases e : x = u
  · subst e
    refine ⟨si, ti, hsi, hti, if_pos rfl, h2, h1, h3, ?_, ?_⟩
    · rw [show upd ar x (nI si) ti = ar ti from if_neg hne]
      exact hta
    · show (if ti = x then q else rk ti) < (if x = x then q else rk x)
      rw [if_neg hne, if_pos rfl]
      exact hb ti hti hta
  · rw [show upd ar u (nI si) x = ar x from if_neg e] at ha
    obtain ⟨k, v, g1, g2, g3, g4, g5, g6, g7, g8⟩ := h x hx ha hf
    have hv : v ≠ u := fun z => g7 (by rw [z]; exact hu)
    refine ⟨k, v, g1, g2, by rw [show upd ar u (nI si) x = ar x from if_neg e]; exact g3, g4, g5, g6, ?_, ?_⟩
    · rw [show upd ar u (nI si) v = ar v from if_neg hv]
      exact g7
    · show (if v = u then q else rk v) < (if x = u then q else rk x)
      rw [if_neg hv, if_neg e]
      exact g8
def okFo (lk rm : Nat → Int32) (n fm t : Nat) (e : ES) : Prop := t < fm ∧ e.1 t ≠ -1 ∧ ∃ rk : Nat → Nat, okWy lk rm e.1 n fm rk ∧ rk t < n
def okDn (lk rm ar : Nat → Int32) (x b : Nat) : Prop := ∀ k, k < b → rm (x * 4 + k) ≠ 0 → ar (nn (lk (x * 4 + k))) ≠ -1
theorem eo_side {lk we rm : Nat → Int32} {n fm : Nat} (hL : okLk lk we n) (hR : okRm we rm n) (hn : n ≤ 120) {ti : Nat} (hti : ti < n) (e0 : ES) (I0 : (∃ rk, Bf lk rm n fm e0 rk) ∧ okQ lk we n fm e0 ∧ e0.1 ti ≠ -1) :
    (∀ z', itX (eoA lk rm fm ti) 4 0 e0 = (none, z') → (∃ rk, Bf lk rm n fm z' rk) ∧ okQ lk we n fm z' ∧ okDn lk rm z'.1 ti 4 ∧ (∀ x, e0.1 x ≠ -1 → z'.1 x ≠ -1) ∧ e0.2.2 ≤ z'.2.2 ∧ (∀ j, j < e0.2.2 → z'.2.1 j = e0.2.1 j)) ∧ (∀ r z', itX (eoA lk rm fm ti) 4 0 e0 = (some r, z') → okFo lk rm n fm r z') := by
  have main := itX_ind (A := eoA lk rm fm ti)
    (fun j z => (∃ rk, Bf lk rm n fm z rk) ∧ okQ lk we n fm z ∧ okDn lk rm z.1 ti j ∧ (∀ x, e0.1 x ≠ -1 → z.1 x ≠ -1) ∧ e0.2.2 ≤ z.2.2 ∧ (∀ j, j < e0.2.2 → z.2.1 j = e0.2.1 j))
    (fun r z => okFo lk rm n fm r z) 4 0 e0 ?_ ⟨I0.1, I0.2.1, fun k hk => by omega, fun _ h => h, Nat.le_refl _, fun _ _ => rfl⟩
  · exact main
  · intro si z h0 h4 ⟨⟨rk, B⟩, Qq, Dn, Mo, Le, Sm⟩
    have hta : z.1 ti ≠ -1 := Mo ti I0.2.2
    have next : ∀ ar : Nat → Int32, (∀ x, z.1 x ≠ -1 → ar x ≠ -1) → (rm (ti * 4 + si) ≠ 0 → ar (nn (lk (ti * 4 + si))) ≠ -1) → okDn lk rm ar ti (si + 1) := by
      intro ar m1 m2 k hk hr
      rcases Nat.lt_succ_iff_lt_or_eq.mp hk with c | c
      · exact m1 _ (Dn k c hr)
      · subst c
        exact m2 hr
    by_cases c1 : rm (ti * 4 + si) = 0
    · have e1 : eoA lk rm fm ti si z = (none, z) := by unfold eoA; rw [if_pos c1]
      rw [e1]
      exact ⟨fun z' q => by cases q; exact ⟨⟨rk, B⟩, Qq, next _ (fun _ h => h) (fun h => absurd c1 h), Mo, Le, Sm⟩, fun r z' q => by cases q⟩
    · by_cases c2 : z.1 (nn (lk (ti * 4 + si))) = -1
      · obtain ⟨u, hu, l1, l2, l3⟩ := hL ti si hti (by omega) (hR _ (by omega) c1)
        have hun : nn (lk (ti * 4 + si)) = u := by rw [l1, nn_nI (by omega)]
        rw [hun] at c2
        have W := okWy_step B.way B.rkb (by omega) hti hta c2 l1 l2 c1
        have hne : ti ≠ u := fun q => hta (by rw [q]; exact c2)
        have hs1 : nI si ≠ -1 := nI_m1 (by omega)
        have up : ∀ x, z.1 x ≠ -1 → upd z.1 u (nI si) x ≠ -1 := by
          intro x hx
          by_cases q : x = u
          · rw [show upd z.1 u (nI si) x = nI si from if_pos q]; exact hs1
          · rw [show upd z.1 u (nI si) x = z.1 x from if_neg q]; exact hx
        obtain ⟨hql, hq⟩ := okQ_step Qq (by omega) hti hta hu hn c2 l2 l3 (hR _ (by omega) c1)
        by_cases c3 : u < fm
        · have e1 : eoA lk rm fm ti si z = (some u, (upd z.1 u (nI si), z.2.1, z.2.2)) := by
            unfold eoA
            rw [if_neg c1, hun, if_pos c2, if_pos c3]
          rw [e1]
          refine ⟨fun z' q => (by cases q), fun r z' q => ?_⟩
          cases q
          refine ⟨c3, ?_, _, W, ?_⟩
          · show upd z.1 u (nI si) u ≠ -1
            rw [show upd z.1 u (nI si) u = nI si from if_pos rfl]; exact hs1
          · show (if u = u then z.2.2 else rk u) < n
            rw [if_pos rfl]
            omega
        · have e1 : eoA lk rm fm ti si z = (none, (upd z.1 u (nI si), upd z.2.1 z.2.2 (nI u), z.2.2 + 1)) := by
            unfold eoA
            rw [if_neg c1, hun, if_pos c2, if_neg c3]
          rw [e1]
          refine ⟨fun z' q => ?_, fun r z' q => by cases q⟩
          cases q
          refine ⟨⟨_, ⟨W, ?_, ?_, ?_⟩⟩, hq, next _ up (fun _ => ?_), fun x hx => up x (Mo x hx), by show e0.2.2 ≤ z.2.2 + 1; omega, fun j hj => ?_⟩
          · intro x hx ha
            by_cases q : x = u
            · refine ⟨z.2.2, Nat.lt_succ_self _, ?_⟩
              show nn (upd z.2.1 z.2.2 (nI u) z.2.2) = x
              rw [show upd z.2.1 z.2.2 (nI u) z.2.2 = nI u from if_pos rfl, nn_nI (by omega), q]
            · have ha : upd z.1 u (nI si) x ≠ -1 := ha
              rw [show upd z.1 u (nI si) x = z.1 x from if_neg q] at ha
              obtain ⟨j, hj, hx2⟩ := B.inq x hx ha
              refine ⟨j, Nat.lt_succ_of_lt hj, ?_⟩
              show nn (upd z.2.1 z.2.2 (nI u) j) = x
              rw [show upd z.2.1 z.2.2 (nI u) j = z.2.1 j from if_neg (by omega)]
              exact hx2
          · intro x hx ha
            show (if x = u then z.2.2 else rk x) < z.2.2 + 1
            by_cases q : x = u
            · rw [if_pos q]; omega
            · have ha : upd z.1 u (nI si) x ≠ -1 := ha
              rw [show upd z.1 u (nI si) x = z.1 x from if_neg q] at ha
              rw [if_neg q]
              have := B.rkb x hx ha
              omega
          · intro x hx ha
            by_cases q : x = u
            · omega
            · have ha : upd z.1 u (nI si) x ≠ -1 := ha
              rw [show upd z.1 u (nI si) x = z.1 x from if_neg q] at ha
              exact B.ge x hx ha
          · rw [hun]
            show upd z.1 u (nI si) u ≠ -1
            rw [show upd z.1 u (nI si) u = nI si from if_pos rfl]; exact hs1
          · show upd z.2.1 z.2.2 (nI u) j = e0.2.1 j
            rw [show upd z.2.1 z.2.2 (nI u) j = z.2.1 j from if_neg (by omega)]
            exact Sm j hj
      · have e1 : eoA lk rm fm ti si z = (none, z) := by unfold eoA; rw [if_neg c1, if_neg c2]
        rw [e1]
        exact ⟨fun z' q => by cases q; exact ⟨⟨rk, B⟩, Qq, next _ (fun _ h => h) (fun _ => c2), Mo, Le, Sm⟩, fun r z' q => by cases q⟩
theorem eoI_spec {lk we rm : Nat → Int32} {n fm : Nat} (hL : okLk lk we n) (hR : okRm we rm n) (hn : n ≤ 120) (hf : fm < n) (e0 : ES) (h1 : ∀ x, x < n → e0.1 x ≠ -1 → x = fm) (h2 : nn (e0.2.1 0) = fm) (h3 : e0.2.2 = 1) (hq : okQ lk we n fm e0) :
    (∀ z', itX (eoB lk rm fm) n 0 e0 = (none, z') → z'.1 fm ≠ -1 ∧ (∀ u, u < n → z'.1 u ≠ -1 → fm ≤ u) ∧ (∀ x, x < n → z'.1 x ≠ -1 → okDn lk rm z'.1 x 4) ∧ okQ lk we n fm z' ∧ ∃ rk : Nat → Nat, okWy lk rm z'.1 n fm rk ∧ ∀ u, u < n → z'.1 u ≠ -1 → rk u < n) ∧ (∀ r z', itX (eoB lk rm fm) n 0 e0 = (some r, z') → okFo lk rm n fm r z') := by
  have B0 : Bf lk rm n fm e0 (fun _ => 0) := by
    refine ⟨fun u hu ha hne => absurd (h1 u hu ha) hne, fun u hu ha => ⟨0, by omega, ?_⟩, fun u hu ha => by show 0 < e0.2.2; omega, fun u hu ha => Nat.le_of_eq (h1 u hu ha).symm⟩
    rw [h2, h1 u hu ha]
  have main := itX_ind (A := eoB lk rm fm)
    (fun j z => (∃ rk, Bf lk rm n fm z rk) ∧ okQ lk we n fm z ∧ ∀ i, i < j → i < z.2.2 → okDn lk rm z.1 (nn (z.2.1 i)) 4)
    (fun r z => okFo lk rm n fm r z) n 0 e0 ?_ ⟨⟨_, B0⟩, hq, fun i hi => by omega⟩
  · refine ⟨fun z' e => ?_, main.2⟩
    obtain ⟨⟨rk, B⟩, Qq, Dn⟩ := main.1 z' e
    have hq : z'.2.2 ≤ n := by rw [Qq.2.2.1]; exact cnA_le _ _
    refine ⟨Qq.2.2.2, B.ge, fun x hx ha => ?_, Qq, rk, B.way, fun u hu ha => Nat.lt_of_lt_of_le (B.rkb u hu ha) hq⟩
    obtain ⟨j, hj, hjx⟩ := B.inq x hx ha
    have := Dn j (by omega) hj
    rw [hjx] at this
    exact this
  · intro nk z h0 hnk ⟨⟨rk, B⟩, Qq, Dn⟩
    by_cases c : nk < z.2.2
    · have e1 : eoB lk rm fm nk z = itX (eoA lk rm fm (nn (z.2.1 nk))) 4 0 z := by unfold eoB; rw [if_pos c]
      rw [e1]
      obtain ⟨q1, q2, q3⟩ := Qq.2.1 nk c
      have S := eo_side hL hR hn q2 z ⟨⟨rk, B⟩, Qq, q3⟩
      refine ⟨fun z' e => ?_, S.2⟩
      obtain ⟨s1, s2, s3, s4, s5, s6⟩ := S.1 z' e
      refine ⟨s1, s2, fun i hi hi2 => ?_⟩
      rcases Nat.lt_succ_iff_lt_or_eq.mp hi with d | d
      · rw [s6 i (by omega)]
        intro k hk hr
        exact s4 _ (Dn i d (by omega) k hk hr)
      · subst d
        rw [s6 i c]
        exact s3
    · have e1 : eoB lk rm fm nk z = (none, z) := by unfold eoB; rw [if_neg c]
      rw [e1]
      exact ⟨fun z' e => by cases e; exact ⟨⟨rk, B⟩, Qq, fun i hi hi2 => Dn i (by omega) hi2⟩, fun r z' e => by cases e⟩
theorem eoV_spec {lk we rm ar qu : Nat → Int32} {n fm : Nat} (hL : okLk lk we n) (hR : okRm we rm n) (hn : n ≤ 120) (hf : fm < n) :
    (∀ z', eoV lk rm n fm ar qu = (none, z') → z'.1 fm ≠ -1 ∧ (∀ u, u < n → z'.1 u ≠ -1 → fm ≤ u) ∧ ∀ x, x < n → z'.1 x ≠ -1 → okDn lk rm z'.1 x 4) ∧ (∀ r z', eoV lk rm n fm ar qu = (some r, z') → okFo lk rm n fm r z') := by
  have hfl : ∀ x, x < n → upd (flI ar (-1) 120) fm (nI 0) x ≠ -1 → x = fm := by
    intro x hx h
    by_cases e : x = fm
    · exact e
    · exact absurd (show upd (flI ar (-1) 120) fm (nI 0) x = -1 by rw [show upd (flI ar (-1) 120) fm (nI 0) x = flI ar (-1) 120 x from if_neg e]; exact if_pos (by omega)) h
  have main := eoI_spec hL hR hn hf (upd (flI ar (-1) 120) fm (nI 0), upd qu 0 (nI fm), 1) hfl (by
    show nn (upd qu 0 (nI fm) 0) = fm
    rw [show upd qu 0 (nI fm) 0 = nI fm from if_pos rfl, nn_nI (by omega)]) rfl (okQ_init hf hn)
  exact ⟨fun z' e => ⟨(main.1 z' e).1, (main.1 z' e).2.1, (main.1 z' e).2.2.1⟩, main.2⟩
theorem cnA_flN (ar : Nat → Int32) (m : Nat) : ∀ n, n ≤ m → cnA (flI ar (-1) m) n = 0
  | 0, _ => rfl
  | n + 1, h => by
    rw [cnA, cnA_flN ar m n (by omega), show flI ar (-1) m n = -1 from if_pos (by omega), if_pos rfl]
theorem okQ_init2 {lk we ar qu : Nat → Int32} {n : Nat} (h0 : 0 < n) : okQ lk we n 0 (upd (flI ar (-1) n) 0 (nI 4), upd qu 0 (nI 0), 1) ∧ ∀ x, x < n → upd (flI ar (-1) n) 0 (nI 4) x ≠ -1 → x = 0 := by
  have h4 : nI 4 ≠ -1 := nI_m1 (by decide)
  have hfl : ∀ x, x < n → upd (flI ar (-1) n) 0 (nI 4) x ≠ -1 → x = 0 := by
    intro x hx h
    by_cases e : x = 0
    · exact e
    · exact absurd (show upd (flI ar (-1) n) 0 (nI 4) x = -1 by rw [show upd (flI ar (-1) n) 0 (nI 4) x = flI ar (-1) n x from if_neg e]; exact if_pos hx) h
  refine ⟨⟨fun t ht ha hne => absurd (hfl t ht ha) hne, fun j hj => ?_, ?_, ?_⟩, hfl⟩
  · have hj : j < 1 := hj
    have e : j = 0 := by omega
    subst e
    show upd qu 0 (nI 0) 0 = nI (nn (upd qu 0 (nI 0) 0)) ∧ nn (upd qu 0 (nI 0) 0) < n ∧ upd (flI ar (-1) n) 0 (nI 4) (nn (upd qu 0 (nI 0) 0)) ≠ -1
    rw [show upd qu 0 (nI 0) 0 = nI 0 from if_pos rfl, nn_nI (by decide)]
    exact ⟨rfl, h0, by rw [show upd (flI ar (-1) n) 0 (nI 4) 0 = nI 4 from if_pos rfl]; exact h4⟩
  · show 1 = cnA (upd (flI ar (-1) n) 0 (nI 4)) n
    rw [cnA_upd (show flI ar (-1) n 0 = -1 from if_pos h0) h4 h0, cnA_flN ar n n (Nat.le_refl _)]
  · show upd (flI ar (-1) n) 0 (nI 4) 0 ≠ -1
    rw [show upd (flI ar (-1) n) 0 (nI 4) 0 = nI 4 from if_pos rfl]
    exact h4
