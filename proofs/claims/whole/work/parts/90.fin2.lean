def nfL (s : Nat → Int32) : List Nat → (Nat → Int32)
  | [] => s
  | c :: l => nfL (upd s (c / 64) (nI (c % 64))) l
theorem nfL_comm {p : Nat} {x : Int32} : ∀ (l : List Nat) (s : Nat → Int32), (∀ d, d ∈ l → d / 64 ≠ p) → nfL (upd s p x) l = upd (nfL s l) p x
  | [], _, _ => rfl
  | c :: l, s, h => by
    have hc := h c List.mem_cons_self
    have e : upd (upd s p x) (c / 64) (nI (c % 64)) = upd (upd s (c / 64) (nI (c % 64))) p x := by
      funext j
      by_cases j1 : j = p
      · rw [j1, pk_un (fun z => hc z.symm), pk_us, pk_us]
      · by_cases j2 : j = c / 64
        · rw [j2, pk_us, pk_un hc, pk_us]
        · rw [pk_un j2, pk_un j1, pk_un j1, pk_un j2]
    rw [nfL, e, nfL_comm l _ (fun d hd => h d (List.mem_cons_of_mem _ hd)), nfL]
theorem nfL_ins {c : Nat} : ∀ (l : List Nat) (s : Nat → Int32), (∀ d, d ∈ l → d / 64 ≠ c / 64) → nfL s (insL c l) = upd (nfL s l) (c / 64) (nI (c % 64))
  | [], _, _ => rfl
  | v :: l, s, h => by
    rw [insL]
    have hv := h v List.mem_cons_self
    have hl := fun d hd => h d (List.mem_cons_of_mem _ hd)
    split
    · rw [nfL, nfL_comm (v :: l) s h]
    · rw [nfL, nfL_ins l _ hl, nfL]
theorem nfL_not {p : Nat} : ∀ (l : List Nat) (s : Nat → Int32), (∀ d, d ∈ l → d / 64 ≠ p) → nfL s l p = s p
  | [], _, _ => rfl
  | c :: l, s, h => by
    rw [nfL, nfL_not l _ (fun d hd => h d (List.mem_cons_of_mem _ hd)), pk_un (fun z => h c List.mem_cons_self z.symm)]
abbrev okND (s : Nat → Int32) (y : Nat) (l : List Nat) : Prop := (l.Pairwise (· < ·)) ∧ (l.Pairwise (fun a b => a / 64 ≠ b / 64)) ∧ (∀ c, c ∈ l → c / 64 < 1600 ∧ 1 ≤ c % 64 ∧ c % 64 ≤ y ∧ s (c / 64) = nI 0)
theorem okND.so {s : Nat → Int32} {y : Nat} {l : List Nat} (h9 : okND s y l) : l.Pairwise (· < ·) := h9.1
theorem okND.pl {s : Nat → Int32} {y : Nat} {l : List Nat} (h9 : okND s y l) : l.Pairwise (fun a b => a / 64 ≠ b / 64) := h9.2.1
theorem okND.in_ {s : Nat → Int32} {y : Nat} {l : List Nat} (h9 : okND s y l) : ∀ c, c ∈ l → c / 64 < 1600 ∧ 1 ≤ c % 64 ∧ c % 64 ≤ y ∧ s (c / 64) = nI 0 := h9.2.2
theorem nfL_at {s : Nat → Int32} {y c : Nat} : ∀ {l : List Nat}, okND s y l → c ∈ l → nfL s l (c / 64) = nI (c % 64)
  | [], _, h => by cases h
  | v :: l, K, h => by
    have p1 := List.pairwise_cons.mp K.pl
    have p2 := List.pairwise_cons.mp K.so
    rw [nfL]
    rcases List.mem_cons.mp h with e | e
    · subst e
      rw [nfL_not l _ (fun d hd z => p1.1 d hd z.symm), pk_us]
    · have hne : c / 64 ≠ v / 64 := fun z => p1.1 c e z.symm
      have K' : okND (upd s (v / 64) (nI (v % 64))) y l := ⟨p2.2, p1.2, fun d hd => by
        obtain ⟨a, b, e1, e2⟩ := K.in_ d (List.mem_cons_of_mem _ hd)
        exact ⟨a, b, e1, by rw [pk_un (fun z => p1.1 d hd z.symm)]; exact e2⟩⟩
      exact nfL_at K' e
theorem insL_sorted {c : Nat} : ∀ {l : List Nat}, l.Pairwise (· < ·) → c ∉ l → (insL c l).Pairwise (· < ·)
  | [], _, _ => List.pairwise_singleton _ _
  | v :: l, h, hc => by
    have p := List.pairwise_cons.mp h
    rw [insL]
    have hcv : c ≠ v := fun z => hc (by rw [z]; exact List.mem_cons_self)
    split
    · rename_i d
      refine List.pairwise_cons.mpr ⟨fun x hx => ?_, h⟩
      rcases List.mem_cons.mp hx with e | e
      · rw [e]; exact d
      · exact Nat.lt_trans d (p.1 x e)
    · refine List.pairwise_cons.mpr ⟨fun x hx => ?_, insL_sorted p.2 (fun z => hc (List.mem_cons_of_mem _ z))⟩
      rcases insL_mem.mp hx with e | e
      · rw [e]; omega
      · exact p.1 x e
theorem insL_pl {c : Nat} : ∀ {l : List Nat}, l.Pairwise (fun a b => a / 64 ≠ b / 64) → (∀ d, d ∈ l → d / 64 ≠ c / 64) → (insL c l).Pairwise (fun a b => a / 64 ≠ b / 64)
  | [], _, _ => List.pairwise_singleton _ _
  | v :: l, h, hc => by
    have p := List.pairwise_cons.mp h
    rw [insL]
    split
    · exact List.pairwise_cons.mpr ⟨fun x hx z => hc x hx z.symm, h⟩
    · refine List.pairwise_cons.mpr ⟨fun x hx => ?_, insL_pl p.2 (fun d hd => hc d (List.mem_cons_of_mem _ hd))⟩
      rcases insL_mem.mp hx with e | e
      · rw [e]; exact hc v List.mem_cons_self
      · exact p.1 x e
theorem nf_free {s : Nat → Int32} {y : Nat} {l : List Nat} (K : okND s y l) (hy : y ≤ 60) {p : Nat} (h : nfL s l p = 0) : (∀ d, d ∈ l → d / 64 ≠ p) ∧ s p = 0 := by
  have a : ∀ d, d ∈ l → d / 64 ≠ p := fun d hd z => by
    have := nfL_at K hd
    obtain ⟨-, b, c, -⟩ := K.in_ d hd
    rw [z, h] at this
    exact nI_ne0 (by omega) (by omega) this.symm
  exact ⟨a, by rw [← nfL_not l s a]; exact h⟩
theorem okND_ins {s : Nat → Int32} {y : Nat} {l : List Nat} (K : okND s y l) (hy : y ≤ 60) {p t : Nat} (hp : p < 1600) (h1 : 1 ≤ t) (h2 : t ≤ y) (h : nfL s l p = 0) : okND s y (insL (64 * p + t) l) ∧ nfL s (insL (64 * p + t) l) = upd (nfL s l) p (nI t) := by
  obtain ⟨a, b⟩ := nf_free K hy h
  have e1 : (64 * p + t) / 64 = p := by omega
  have e2 : (64 * p + t) % 64 = t := by omega
  refine ⟨⟨insL_sorted K.so (fun z => a _ z e1), insL_pl K.pl (fun d hd => by rw [e1]; exact a d hd), fun c hc => ?_⟩, ?_⟩
  · rcases insL_mem.mp hc with e | e
    · rw [e, e1, e2]
      exact ⟨hp, h1, h2, by rw [b, nI_0]⟩
    · exact K.in_ c e
  · rw [nfL_ins l s (fun d hd => by rw [e1]; exact a d hd), e1, e2]
theorem sorted_ext : ∀ {l m : List Nat}, l.Pairwise (· < ·) → m.Pairwise (· < ·) → (∀ x, x ∈ l ↔ x ∈ m) → l = m
  | [], [], _, _, _ => rfl
  | [], b :: m, _, _, h => by have := (h b).mpr List.mem_cons_self; cases this
  | a :: l, [], _, _, h => by have := (h a).mp List.mem_cons_self; cases this
  | a :: l, b :: m, h1, h2, h => by
    have p := List.pairwise_cons.mp h1
    have q := List.pairwise_cons.mp h2
    have e : a = b := by
      rcases Nat.lt_trichotomy a b with d | d | d
      · rcases List.mem_cons.mp ((h a).mp List.mem_cons_self) with z | z
        · exact z
        · have := q.1 a z; omega
      · exact d
      · rcases List.mem_cons.mp ((h b).mpr List.mem_cons_self) with z | z
        · exact z.symm
        · have := p.1 b z; omega
    subst e
    rw [sorted_ext p.2 q.2 (fun x => ⟨fun hx => ?_, fun hx => ?_⟩)]
    · rcases List.mem_cons.mp ((h x).mp (List.mem_cons_of_mem _ hx)) with z | z
      · have := p.1 x hx; omega
      · exact z
    · rcases List.mem_cons.mp ((h x).mpr (List.mem_cons_of_mem _ hx)) with z | z
      · have := q.1 x hx; omega
      · exact z
theorem nodup_of_lt {l : List Nat} (h : l.Pairwise (· < ·)) : l.Nodup := h.imp (fun hab e => by omega)
theorem sub_all {l m : List Nat} (h1 : l.Nodup) (h3 : ∀ x, x ∈ l → x ∈ m) (h4 : m.length ≤ l.length) : ∀ x, x ∈ m → x ∈ l := by
  intro x hx
  by_cases c : x ∈ l
  · exact c
  · have := sub_len (l := x :: l) (m := m) (List.nodup_cons.mpr ⟨c, h1⟩) (fun z hz => (List.mem_cons.mp hz).elim (fun e => by rw [e]; exact hx) (h3 z))
    rw [List.length_cons] at this
    omega
def pcd (c : Nat) : Nat := pm (c / 64) * 64 + c % 64
def mrk : List Nat → Int32
  | [] => nI 0
  | c :: l => scV (nI (pcd c)) + mrk l
theorem mrk_ins (c : Nat) : ∀ l : List Nat, mrk (insL c l) = mrk l + scV (nI (pcd c))
  | [] => by
    show scV (nI (pcd c)) + nI 0 = nI 0 + scV (nI (pcd c))
    rw [Int32.add_comm]
  | v :: l => by
    rw [insL]
    split
    · show scV (nI (pcd c)) + (scV (nI (pcd v)) + mrk l) = scV (nI (pcd v)) + mrk l + scV (nI (pcd c))
      rw [Int32.add_comm]
    · show scV (nI (pcd v)) + mrk (insL c l) = scV (nI (pcd v)) + mrk l + scV (nI (pcd c))
      rw [mrk_ins c l, Int32.add_assoc]
theorem pcd_inj {c d : Nat} (hc : c / 64 < 1600) (hd : d / 64 < 1600) (h : pcd c = pcd d) : c = d := by
  unfold pcd at h
  have e : pm (c / 64) = pm (d / 64) := by omega
  have e2 := pm_inj e
  omega
theorem pcd_lt {c : Nat} (hc : c / 64 < 1600) : pcd c < 2 ^ 31 ∧ pcd c / 64 = pm (c / 64) ∧ pcd c % 64 = c % 64 := by
  have := pm_in hc
  unfold pcd
  omega
abbrev KV (s : Nat → Int32) (y : Nat) (K : KS) (V : List ND) : Prop := (V.length = K.2.2.2.2.2.1) ∧ (V[0]? = some []) ∧ (V.Nodup) ∧ (∀ x, x ∈ V → okND s y x) ∧ (∀ i, 1 ≤ i → i < V.length → ∃ l c, nn (K.1 i) < i ∧ V[nn (K.1 i)]? = some l ∧ c / 64 < 1600 ∧ K.2.1 i = nI (pcd c) ∧ V[i]? = some (insL c l) ∧ K.2.2.1 i = mrk (insL c l)) ∧ (∀ i, 1 ≤ i → i < V.length → nn (K.2.2.2.1 i) < i ∧ ∀ j, nn (K.2.2.2.1 i) < j → j < i → bkN (K.2.2.1 j) ≠ bkN (K.2.2.1 i)) ∧ (∀ i, 1 ≤ i → i < V.length → nn (K.2.2.2.1 i) ≠ 0 → bkN (K.2.2.1 (nn (K.2.2.2.1 i))) = bkN (K.2.2.1 i)) ∧ (∀ b, b < 512 → nn (K.2.2.2.2.1 b) < V.length ∧ ∀ j, nn (K.2.2.2.2.1 b) < j → j < V.length → bkN (K.2.2.1 j) ≠ b) ∧ (∀ b, b < 512 → nn (K.2.2.2.2.1 b) ≠ 0 → bkN (K.2.2.1 (nn (K.2.2.2.2.1 b))) = b)
theorem KV.ln {s : Nat → Int32} {y : Nat} {K : KS} {V : List ND} (h9 : KV s y K V) : V.length = K.2.2.2.2.2.1 := h9.1
theorem KV.v0 {s : Nat → Int32} {y : Nat} {K : KS} {V : List ND} (h9 : KV s y K V) : V[0]? = some [] := h9.2.1
theorem KV.nd {s : Nat → Int32} {y : Nat} {K : KS} {V : List ND} (h9 : KV s y K V) : V.Nodup := h9.2.2.1
theorem KV.ok {s : Nat → Int32} {y : Nat} {K : KS} {V : List ND} (h9 : KV s y K V) : ∀ x, x ∈ V → okND s y x := h9.2.2.2.1
theorem KV.ch {s : Nat → Int32} {y : Nat} {K : KS} {V : List ND} (h9 : KV s y K V) : ∀ i, 1 ≤ i → i < V.length → ∃ l c, nn (K.1 i) < i ∧ V[nn (K.1 i)]? = some l ∧ c / 64 < 1600 ∧ K.2.1 i = nI (pcd c) ∧ V[i]? = some (insL c l) ∧ K.2.2.1 i = mrk (insL c l) := h9.2.2.2.2.1
theorem KV.hx {s : Nat → Int32} {y : Nat} {K : KS} {V : List ND} (h9 : KV s y K V) : ∀ i, 1 ≤ i → i < V.length → nn (K.2.2.2.1 i) < i ∧ ∀ j, nn (K.2.2.2.1 i) < j → j < i → bkN (K.2.2.1 j) ≠ bkN (K.2.2.1 i) := h9.2.2.2.2.2.1
theorem KV.hx2 {s : Nat → Int32} {y : Nat} {K : KS} {V : List ND} (h9 : KV s y K V) : ∀ i, 1 ≤ i → i < V.length → nn (K.2.2.2.1 i) ≠ 0 → bkN (K.2.2.1 (nn (K.2.2.2.1 i))) = bkN (K.2.2.1 i) := h9.2.2.2.2.2.2.1
theorem KV.hd {s : Nat → Int32} {y : Nat} {K : KS} {V : List ND} (h9 : KV s y K V) : ∀ b, b < 512 → nn (K.2.2.2.2.1 b) < V.length ∧ ∀ j, nn (K.2.2.2.2.1 b) < j → j < V.length → bkN (K.2.2.1 j) ≠ b := h9.2.2.2.2.2.2.2.1
theorem KV.hd2 {s : Nat → Int32} {y : Nat} {K : KS} {V : List ND} (h9 : KV s y K V) : ∀ b, b < 512 → nn (K.2.2.2.2.1 b) ≠ 0 → bkN (K.2.2.1 (nn (K.2.2.2.2.1 b))) = b := h9.2.2.2.2.2.2.2.2
theorem knF_iff {s : Nat → Int32} {y : Nat} {K : KS} {V : List ND} (Q : KV s y K V) {ce : Nat → Int32} {x v : Int32} {d : Nat} : ∀ (n k : Nat), k ≤ n → k < V.length → (k ≠ 0 → bkN (K.2.2.1 k) = bkN v) →
    (knF ce K.1 K.2.1 K.2.2.1 K.2.2.2.1 x d v n k ≠ 0 ↔ ∃ j, 1 ≤ j ∧ j ≤ k ∧ K.2.2.1 j = v ∧ smF ce K.1 K.2.1 x d j ≠ 0)
  | 0, k, hk, _, _ => by
    have : k = 0 := by omega
    subst this
    exact ⟨fun h => absurd rfl h, fun ⟨j, h1, h2, _⟩ => by omega⟩
  | n + 1, k, hk, hv, hb => by
    rw [knF]
    by_cases c0 : k = 0
    · rw [if_pos c0]
      exact ⟨fun h => absurd rfl h, fun ⟨j, h1, h2, _⟩ => by omega⟩
    · rw [if_neg c0]
      by_cases c1 : K.2.2.1 k = v ∧ smF ce K.1 K.2.1 x d k ≠ 0
      · rw [if_pos c1]
        exact ⟨fun _ => ⟨k, by omega, Nat.le_refl _, c1.1, c1.2⟩, fun _ => by decide⟩
      · rw [if_neg c1]
        obtain ⟨x1, x2⟩ := Q.hx k (by omega) hv
        have hbk := hb c0
        rw [hbk] at x2
        have sub : ∀ j, 1 ≤ j → K.2.2.1 j = v ∧ smF ce K.1 K.2.1 x d j ≠ 0 → j ≤ k → j ≤ nn (K.2.2.2.1 k) := by
          intro j h1 h2 h3
          rcases Nat.lt_or_ge (nn (K.2.2.2.1 k)) j with e | e
          · rcases Nat.eq_or_lt_of_le h3 with z | z
            · subst z; exact absurd h2 c1
            · exact absurd (by rw [h2.1]) (x2 j e z)
          · exact e
        have ih := knF_iff Q (ce := ce) (x := x) (v := v) (d := d) n (nn (K.2.2.2.1 k)) (by omega) (by omega) (fun z => by rw [Q.hx2 k (by omega) hv z]; exact hbk)
        rw [ih]
        exact ⟨fun ⟨j, h1, h2, h3⟩ => ⟨j, h1, by omega, h3⟩, fun ⟨j, h1, h2, h3⟩ => ⟨j, h1, sub j h1 h3 h2, h3⟩⟩
theorem smF_iff {s : Nat → Int32} {y : Nat} {K : KS} {V : List ND} (Q : KV s y K V) (hy : y ≤ 60) {ce : Nat → Int32} {l : ND} (Kl : okND s y l) (hce : ∀ p, p < 1600 → tyN (ce (pm p)) = nn (nfL s l p)) {c : Nat} (hc : c / 64 < 1600) : ∀ (d j : Nat) (m : ND), V[j]? = some m → (smF ce K.1 K.2.1 (nI (pcd c)) d j ≠ 0 ↔ m.length = d ∧ ∀ e, e ∈ m → e = c ∨ e ∈ l)
  | 0, j, m, hm => by
    rw [smF]
    by_cases c0 : j = 0
    · subst c0
      rw [if_pos rfl]
      rw [Q.v0] at hm
      cases hm
      exact ⟨fun _ => ⟨rfl, fun e h => by cases h⟩, fun _ => by decide⟩
    · rw [if_neg c0]
      refine ⟨fun h => absurd rfl h, fun ⟨h1, _⟩ => ?_⟩
      have hj : j < V.length := by
        rcases Nat.lt_or_ge j V.length with e | e
        · exact e
        · rw [List.getElem?_eq_none e] at hm; cases hm
      obtain ⟨l', c', g1, g2, g3, g4, g5, g6⟩ := Q.ch j (by omega) hj
      rw [g5] at hm
      cases hm
      rw [insL_len] at h1
      omega
  | d + 1, j, m, hm => by
    rw [smF]
    by_cases c0 : j = 0
    · subst c0
      rw [if_pos rfl]
      rw [Q.v0] at hm
      cases hm
      exact ⟨fun h => absurd rfl h, fun ⟨h1, _⟩ => by cases h1⟩
    · rw [if_neg c0]
      have hj : j < V.length := by
        rcases Nat.lt_or_ge j V.length with e | e
        · exact e
        · rw [List.getElem?_eq_none e] at hm; cases hm
      obtain ⟨l', c', g1, g2, g3, g4, g5, g6⟩ := Q.ch j (by omega) hj
      rw [g5] at hm
      cases hm
      obtain ⟨p1, p2, p3⟩ := pcd_lt g3
      have hmem : c' ∈ insL c' l' := insL_mem.mpr (Or.inl rfl)
      obtain ⟨k1, k2, k3, k4⟩ := (Q.ok _ (List.mem_of_getElem? g5)).in_ c' hmem
      have ih := smF_iff Q hy Kl hce hc d (nn (K.1 j)) l' g2
      rw [g4, nn_nI p1, p2, p3, hce _ k1]
      have cond : (nI (pcd c') = nI (pcd c) ∨ nn (nfL s l (c' / 64)) = c' % 64) ↔ (c' = c ∨ c' ∈ l) := by
        rw [nI_eq p1 (pcd_lt hc).1]
        constructor
        · rintro (h | h)
          · exact Or.inl (pcd_inj g3 hc h)
          · refine Or.inr ?_
            by_cases q : ∃ e, e ∈ l ∧ e / 64 = c' / 64
            · obtain ⟨e, e1, e2⟩ := q
              have := nfL_at Kl e1
              obtain ⟨-, f2, f3, -⟩ := Kl.in_ e e1
              rw [e2] at this
              rw [this, nn_nI (by omega)] at h
              have : e = c' := by omega
              rw [← this]; exact e1
            · rw [nfL_not l s (fun e he z => q ⟨e, he, z⟩), k4, nn_nI (by decide)] at h
              omega
        · rintro (h | h)
          · exact Or.inl (by rw [h])
          · refine Or.inr ?_
            rw [nfL_at Kl h, nn_nI (by omega)]
      by_cases q : nI (pcd c') = nI (pcd c) ∨ nn (nfL s l (c' / 64)) = c' % 64
      · rw [if_pos q, ih, insL_len]
        have q' := cond.mp q
        constructor
        · rintro ⟨h1, h2⟩
          exact ⟨by omega, fun e he => (insL_mem.mp he).elim (fun z => by rw [z]; exact q') (h2 e)⟩
        · rintro ⟨h1, h2⟩
          exact ⟨by omega, fun e he => h2 e (insL_mem.mpr (Or.inr he))⟩
      · rw [if_neg q]
        exact ⟨fun h => absurd rfl h, fun ⟨_, h2⟩ => absurd (cond.mpr (h2 c' hmem)) q⟩
theorem known_iff {s : Nat → Int32} {y : Nat} {K : KS} {V : List ND} (Q : KV s y K V) (hy : y ≤ 60) (hV : V.length ≤ 500) {ce : Nat → Int32} {l : ND} (Kl : okND s y l) (hce : ∀ p, p < 1600 → tyN (ce (pm p)) = nn (nfL s l p)) {p t : Nat} (hp : p < 1600) (h1 : 1 ≤ t) (h2 : t ≤ y) (hf : nfL s l p = 0) :
    knF ce K.1 K.2.1 K.2.2.1 K.2.2.2.1 (nI (pm p * 64 + t)) (l.length + 1) (mrk l + scV (nI (pm p * 64 + t))) 500 (nn (K.2.2.2.2.1 (bkN (mrk l + scV (nI (pm p * 64 + t)))))) ≠ 0 ↔ insL (64 * p + t) l ∈ V := by
  have e1 : (64 * p + t) / 64 = p := by omega
  have e2 : (64 * p + t) % 64 = t := by omega
  have ep : pm p * 64 + t = pcd (64 * p + t) := by unfold pcd; rw [e1, e2]
  obtain ⟨K1, -⟩ := okND_ins Kl hy hp h1 h2 hf
  rw [ep]
  have hm : mrk l + scV (nI (pcd (64 * p + t))) = mrk (insL (64 * p + t) l) := (mrk_ins _ l).symm
  rw [hm]
  have hb : bkN (mrk (insL (64 * p + t) l)) < 512 := Nat.mod_lt _ (by decide)
  obtain ⟨d1, d2⟩ := Q.hd _ hb
  rw [knF_iff Q 500 _ (by omega) d1 (fun z => Q.hd2 _ hb z)]
  constructor
  · rintro ⟨j, j1, j2, j3, j4⟩
    have hj : j < V.length := by omega
    have hg := List.getElem?_eq_getElem hj
    have hs := (smF_iff Q hy Kl hce (by rw [e1]; exact hp) (l.length + 1) j _ hg).mp j4
    have ok := Q.ok _ (List.getElem_mem hj)
    have e : V[j] = insL (64 * p + t) l := by
      refine sorted_ext ok.so K1.so ?_
      have sub : ∀ x, x ∈ V[j] → x ∈ insL (64 * p + t) l := fun x hx => insL_mem.mpr (hs.2 x hx)
      exact fun x => ⟨sub x, sub_all (nodup_of_lt ok.so) sub (by rw [insL_len, hs.1]; exact Nat.le_refl _) x⟩
    rw [← e]
    exact List.getElem_mem hj
  · intro h
    obtain ⟨j, hj, e⟩ := List.getElem_of_mem h
    have hg : V[j]? = some (insL (64 * p + t) l) := by rw [List.getElem?_eq_getElem hj, e]
    have j1 : 1 ≤ j := by
      rcases Nat.eq_zero_or_pos j with z | z
      · subst z
        rw [Q.v0] at hg
        have := congrArg List.length (Option.some.inj hg)
        rw [insL_len] at this
        cases this
      · exact z
    have hmk : K.2.2.1 j = mrk (insL (64 * p + t) l) := by
      obtain ⟨l', c', -, -, -, -, g5, g6⟩ := Q.ch j j1 hj
      rw [g5] at hg
      rw [g6, Option.some.inj hg]
    refine ⟨j, j1, ?_, hmk, (smF_iff Q hy Kl hce (by rw [e1]; exact hp) (l.length + 1) j _ hg).mpr ⟨insL_len _ _, fun x hx => insL_mem.mp hx⟩⟩
    rcases Nat.lt_or_ge (nn (K.2.2.2.2.1 (bkN (mrk (insL (64 * p + t) l))))) j with z | z
    · exact absurd (by rw [hmk]) (d2 j z hj)
    · exact z
