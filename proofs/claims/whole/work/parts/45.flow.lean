def okGr (lk we : Nat → Int32) (n : Nat) : Prop := (∀ i, i < 4 * n → we i = nI (nn (we i)) ∧ nn (we i) ≤ 2) ∧ ∀ t k, t < n → k < 4 → we (t * 4 + k) ≠ 0 → ∃ u, u < n ∧ lk (t * 4 + k) = nI u ∧ lk (u * 4 + opp k) = nI t ∧ we (u * 4 + opp k) = we (t * 4 + k)
def gC (we : Nat → Int32) (i : Nat) : Int := (we i).toInt
def gL (lk : Nat → Int32) (i : Nat) : Nat := nn (lk i)
def gR (lk : Nat → Int32) (i : Nat) : Nat := nn (lk i) * 4 + opp (i % 4)
theorem opp_l4 (k : Nat) : opp k < 4 := by
  unfold opp
  split <;> decide
theorem opp_opp {k : Nat} (h : k < 4) : opp (opp k) = k := by
  rcases (show k = 0 ∨ k = 1 ∨ k = 2 ∨ k = 3 by omega) with rfl | rfl | rfl | rfl <;> rfl
theorem toInt_0 {x : Int32} : x.toInt ≠ 0 ↔ x ≠ 0 := by
  constructor
  · intro h e
    exact h (by rw [e]; rfl)
  · intro h e
    exact h (Int32.toInt_inj.mp (by rw [e]; rfl))
theorem okGr_lk {lk we : Nat → Int32} {n : Nat} (h : okGr lk we n) : okLk lk we n := by
  intro t k ht hk hw
  obtain ⟨u, a, b, c, d⟩ := h.2 t k ht hk hw
  exact ⟨u, a, b, c, by rw [d]; exact hw⟩
theorem okGr_G {lk we : Nat → Int32} {n : Nat} (h : okGr lk we n) (hn : n ≤ 120) : Gr n (gC we) (gL lk) (gR lk) := by
  refine ⟨fun i hi => ?_, fun i hi hc => ?_⟩
  · obtain ⟨a, b⟩ := h.1 i hi
    unfold gC
    rw [a, nI_toInt (by omega)]
    omega
  · have hw : we i ≠ 0 := toInt_0.mp hc
    have e : i / 4 * 4 + i % 4 = i := by omega
    obtain ⟨u, a, b, c, d⟩ := h.2 (i / 4) (i % 4) (by omega) (by omega) (by rw [e]; exact hw)
    rw [e] at b d
    have ho := opp_l4 (i % 4)
    have e1 : gL lk i = u := by unfold gL; rw [b, nn_nI (by omega)]
    have e2 : gR lk i = u * 4 + opp (i % 4) := by unfold gR; rw [b, nn_nI (by omega)]
    rw [e1, e2]
    refine ⟨a, by omega, by omega, ?_, ?_, ?_⟩
    · unfold gL; rw [c, nn_nI (by omega)]
    · unfold gR
      rw [c, nn_nI (by omega), show (u * 4 + opp (i % 4)) % 4 = opp (i % 4) by omega, opp_opp (by omega)]
      exact e
    · unfold gC; rw [d]
theorem inc_toInt {x : Int32} (h : x.toInt ≤ 100) (h0 : 0 ≤ x.toInt) : (x + nI 1).toInt = x.toInt + 1 := by
  rw [Int32.toInt_add, show (nI 1).toInt = 1 from by decide +kernel]
  exact Int.bmod_eq_of_le (by omega) (by omega)
theorem dec_toInt {x : Int32} (h : x.toInt ≤ 100) (h0 : 0 ≤ x.toInt) : (x - nI 1).toInt = x.toInt - 1 := by
  rw [Int32.toInt_sub, show (nI 1).toInt = 1 from by decide +kernel]
  exact Int.bmod_eq_of_le (by omega) (by omega)
abbrev pvN (lk ar : Nat → Int32) (u : Nat) : Nat := nn (lk (u * 4 + opp (nn (ar u))))
abbrev edN (lk ar : Nat → Int32) (u : Nat) : Nat := pvN lk ar u * 4 + nn (ar u)
abbrev bkE (ar : Nat → Int32) (u : Nat) : Nat := u * 4 + opp (nn (ar u))
theorem Rs_le {n : Nat} {c : Nat → Int} {L R : Nat → Nat} (G : Gr n c L R) (h2 : ∀ i, i < 4 * n → c i ≤ 2) {r : Nat → Int} (h : Rs n c R r) {i : Nat} (hi : i < 4 * n) : r i ≤ 4 := by
  by_cases q : c i = 0
  · rw [h.off i hi q]; decide
  · have := h.two i hi q
    have := h.pos (R i) (G.lk i hi q).2.1
    have := h2 i hi
    omega
theorem puS_ch {lk ar r : Nat → Int32} {t : Nat} (h1 : 0 ≤ (r (bkE ar t)).toInt ∧ (r (bkE ar t)).toInt ≤ 4) (h2 : 1 ≤ (r (edN lk ar t)).toInt ∧ (r (edN lk ar t)).toInt ≤ 4) (i : Nat) : (puS lk ar t r i).toInt = chS (edN lk ar t) (bkE ar t) (fun j => (r j).toInt) i := by
  unfold puS chS
  have hs := inc_toInt (x := r (bkE ar t)) (by omega) h1.1
  by_cases e1 : i = edN lk ar t
  · subst e1
    rw [show ∀ f v, upd f (edN lk ar t) v (edN lk ar t) = v from fun f v => if_pos rfl]
    by_cases e2 : edN lk ar t = bkE ar t
    · have u2 : upd r (bkE ar t) (r (bkE ar t) + nI 1) (edN lk ar t) = r (bkE ar t) + nI 1 := if_pos e2
      rw [u2, dec_toInt (by omega) (by omega), hs, if_pos e2, if_pos rfl, e2]
      dsimp only
      omega
    · have u2 : upd r (bkE ar t) (r (bkE ar t) + nI 1) (edN lk ar t) = r (edN lk ar t) := if_neg e2
      rw [u2, dec_toInt (by omega) (by omega), if_neg e2, if_pos rfl]
      dsimp only
      omega
  · rw [show ∀ f v, upd f (edN lk ar t) v i = f i from fun f v => if_neg e1, if_neg e1]
    by_cases e2 : i = bkE ar t
    · have u2 : upd r (bkE ar t) (r (bkE ar t) + nI 1) i = r (bkE ar t) + nI 1 := if_pos e2
      rw [u2, hs, if_pos e2, e2]
      dsimp only
      omega
    · have u2 : upd r (bkE ar t) (r (bkE ar t) + nI 1) i = r i := if_neg e2
      rw [u2, if_neg e2]
      dsimp only
      omega
theorem puF_ch {n : Nat} {c : Nat → Int} {L R : Nat → Nat} (G : Gr n c L R) (hc2 : ∀ i, i < 4 * n → c i ≤ 2) {s : Nat} {A : Nat → Prop} {rk : Nat → Nat} {lk ar : Nat → Int32} (Y : Wy n c L R s A rk (pvN lk ar) (edN lk ar) (bkE ar)) :
    ∀ (f t : Nat) (r : Nat → Int32), A t → Rs n c R (fun j => (r j).toInt) → (∀ u, A u → u ≠ s → rk u ≤ rk t → 1 ≤ (r (edN lk ar u)).toInt) →
      (fun j => (puF lk ar s f t r j).toInt) = chI s (pvN lk ar) (edN lk ar) (bkE ar) f t (fun j => (r j).toInt)
  | 0, _, _, _, _, _ => rfl
  | f + 1, t, r, hA, hr, h1 => by
    by_cases e : t = s
    · rw [chI, if_pos e]
      funext j
      rw [puF, if_pos e]
    · obtain ⟨w1, w2, w3, w4, w5, w6, w7, w8⟩ := Y.w t hA e
      have hed := h1 t hA e (Nat.le_refl _)
      have hb : bkE ar t < 4 * n := by rw [w8]; exact (G.lk _ w4 w5).2.1
      have hst : (fun j => (puS lk ar t r j).toInt) = chS (edN lk ar t) (bkE ar t) (fun j => (r j).toInt) :=
        funext (puS_ch ⟨hr.pos _ hb, Rs_le G hc2 hr hb⟩ ⟨hed, Rs_le G hc2 hr w4⟩)
      rw [chI, if_neg e, ← hst]
      have ih := puF_ch G hc2 Y f (pvN lk ar t) (puS lk ar t r) w2 (by rw [hst, w8]; exact chS_rs G w4 w5 hr hed) (fun u hu us hk => ?_)
      · rw [← ih]
        funext j
        rw [puF, if_neg e]
      · obtain ⟨v1, v2, v3, v4, v5, v6, v7, v8⟩ := Y.w u hu us
        have h2 := h1 u hu us (by omega)
        have hne : edN lk ar u ≠ edN lk ar t := fun z => by
          have : u = t := by rw [← v7, ← w7, z]
          subst this
          omega
        have := congrFun hst (edN lk ar u)
        have this : (puS lk ar t r (edN lk ar u)).toInt = _ := this
        rw [this]
        show 1 ≤ (r (edN lk ar u)).toInt + _
        rw [if_neg hne]
        split <;> omega
theorem okWy_Wy {lk we rm ar : Nat → Int32} {n fm : Nat} {rk : Nat → Nat} (h : okGr lk we n) (hR : okRm we rm n) (hn : n ≤ 120) (hw : okWy lk rm ar n fm rk) : Wy n (gC we) (gL lk) (gR lk) fm (fun t => t < n ∧ ar t ≠ -1) rk (pvN lk ar) (edN lk ar) (bkE ar) ∧ ∀ u, (u < n ∧ ar u ≠ -1) → u ≠ fm → rm (edN lk ar u) ≠ 0 := by
  have key : ∀ u, (u < n ∧ ar u ≠ -1) → u ≠ fm → ∃ k v, k < 4 ∧ v < n ∧ nn (ar u) = k ∧ pvN lk ar u = v ∧ lk (v * 4 + k) = nI u ∧ rm (v * 4 + k) ≠ 0 ∧ ar v ≠ -1 ∧ rk v < rk u := by
    intro u ⟨hu, ha⟩ hf
    obtain ⟨k, v, g1, g2, g3, g4, g5, g6, g7, g8⟩ := hw u hu ha hf
    have e : nn (ar u) = k := by rw [g3, nn_nI (by omega)]
    exact ⟨k, v, g1, g2, e, by unfold pvN; rw [e, g4, nn_nI (by omega)], g5, g6, g7, g8⟩
  refine ⟨fun t hA hf => ?_, fun u hA hf => ?_⟩
  · obtain ⟨k, v, g1, g2, g3, g4, g5, g6, g7, g8⟩ := key t hA hf
    have ee : edN lk ar t = v * 4 + k := by unfold edN; rw [g4, g3]
    have hl : gL lk (v * 4 + k) = t := by unfold gL; rw [g5, nn_nI (by omega)]
    rw [ee, g4]
    refine ⟨hA.1, ⟨g2, g7⟩, g8, by omega, toInt_0.mpr (hR _ (by omega) g6), by omega, hl, ?_⟩
    show t * 4 + opp (nn (ar t)) = nn (lk (v * 4 + k)) * 4 + opp ((v * 4 + k) % 4)
    rw [g3, g5, nn_nI (by omega), show (v * 4 + k) % 4 = k by omega]
  · obtain ⟨k, v, g1, g2, g3, g4, g5, g6, g7, g8⟩ := key u hA hf
    have ee : edN lk ar u = v * 4 + k := by unfold edN; rw [g4, g3]
    rw [ee]
    exact g6
theorem Rs_okRm {lk we rm : Nat → Int32} {n : Nat} (h : Rs n (gC we) (gR lk) (fun j => (rm j).toInt)) : okRm we rm n := by
  intro i hi hr hw
  have := h.off i (by omega) (by unfold gC; rw [hw]; rfl)
  exact toInt_0.mpr hr this
theorem flF_spec {lk we : Nat → Int32} {n fm : Nat} (h : okGr lk we n) (hn : n ≤ 120) (hf : fm < n) :
    ∀ (f k : Nat) (z : T3), Fl n (gC we) (gL lk) (gR lk) fm (fun t => t < fm) (fun j => (z.1 j).toInt) k →
      (flF lk n fm f k z).1 ≤ k + f ∧ (∀ S : Nat → Bool, S fm = true → (∀ t, t < fm → S t = false) → ((flF lk n fm f k z).1 : Int) ≤ cut n (gC we) (gL lk) S) ∧
        ((flF lk n fm f k z).1 = k + f ∨ ∃ S : Nat → Bool, S fm = true ∧ (∀ t, t < fm → S t = false) ∧ ((flF lk n fm f k z).1 : Int) = cut n (gC we) (gL lk) S)
  | 0, k, z, hF => ⟨Nat.le_refl _, fun S h1 h2 => Fl_le hF h1 h2, Or.inl rfl⟩
  | f + 1, k, z, hF => by
    have G := okGr_G h hn
    have hc2 : ∀ i, i < 4 * n → gC we i ≤ 2 := fun i hi => by
      obtain ⟨a, b⟩ := h.1 i hi
      unfold gC
      rw [a, nI_toInt (by omega)]
      omega
    have hR := Rs_okRm hF.1
    have hs := eoV_spec (ar := z.2.1) (qu := z.2.2) (okGr_lk h) hR hn hf
    rcases e : eoV lk z.1 n fm z.2.1 z.2.2 with ⟨o, z'⟩
    cases o with
    | none =>
      have e1 : (flF lk n fm (f + 1) k z).1 = k := by rw [flF, e]
      rw [e1]
      refine ⟨by omega, fun S h1 h2 => Fl_le hF h1 h2, Or.inr ?_⟩
      obtain ⟨n1, n2, n3⟩ := hs.1 z' e
      have sh1 : (fun t => decide (t < n ∧ z'.1 t ≠ -1)) fm = true := decide_eq_true ⟨hf, n1⟩
      have sh2 : ∀ t, t < fm → (fun t => decide (t < n ∧ z'.1 t ≠ -1)) t = false := fun t ht => decide_eq_false (fun q => by have := n2 t q.1 q.2; omega)
      refine ⟨fun t => decide (t < n ∧ z'.1 t ≠ -1), sh1, sh2, Fl_end hF sh1 sh2 ?_⟩
      intro i hi hc hS hr
      have hS := of_decide_eq_true hS
      have hr : (z.1 i).toInt ≠ 0 := hr
      have := n3 (i / 4) hS.1 hS.2 (i % 4) (by omega) (by rw [show i / 4 * 4 + i % 4 = i by omega]; exact toInt_0.mp hr)
      rw [show i / 4 * 4 + i % 4 = i by omega] at this
      exact decide_eq_true ⟨(G.lk i hi hc).1, this⟩
    | some t =>
      obtain ⟨t1, t2, rk, t3, t4⟩ := hs.2 t z' e
      obtain ⟨Y, hroom⟩ := okWy_Wy h hR hn t3
      have hpos : ∀ u, (u < n ∧ z'.1 u ≠ -1) → u ≠ fm → 1 ≤ (z.1 (edN lk z'.1 u)).toInt := by
        intro u hu us
        have a := toInt_0.mpr (hroom u hu us)
        have b := hF.1.pos _ (Y.w u hu us).2.2.2.1
        have b : 0 ≤ (z.1 (edN lk z'.1 u)).toInt := b
        omega
      have hg := Fl_go G Y hF (show t < n ∧ z'.1 t ≠ -1 from ⟨by omega, t2⟩) t1 t4 hpos
      rw [← puF_ch G hc2 Y n t z.1 ⟨by omega, t2⟩ hF.1 (fun u hu us _ => hpos u hu us)] at hg
      have ih := flF_spec h hn hf f (k + 1) (puF lk z'.1 fm n t z.1, z'.1, z'.2.1) hg
      have e1 : flF lk n fm (f + 1) k z = flF lk n fm f (k + 1) (puF lk z'.1 fm n t z.1, z'.1, z'.2.1) := by rw [flF, e]
      rw [e1, show k + (f + 1) = k + 1 + f by omega]
      exact ih
theorem Fl_cpy {lk we : Nat → Int32} {n : Nat} (h : okGr lk we n) (hn : n ≤ 120) (fm : Nat) (r : Nat → Int32) : Fl n (gC we) (gL lk) (gR lk) fm (fun t => t < fm) (fun j => (va_cpy we r 0 0 (n * 4) j).toInt) 0 := by
  have G := okGr_G h hn
  have e : ∀ i, i < 4 * n → (va_cpy we r 0 0 (n * 4) i).toInt = gC we i := by
    intro i hi
    unfold va_cpy gC
    rw [if_pos ⟨Nat.zero_le _, by omega⟩, Nat.zero_add, Nat.sub_zero]
  have F := Fl_0 G fm (fun t => t < fm)
  refine ⟨⟨fun i hi => ?_, fun i hi hc => ?_, fun i hi hc => ?_⟩, fun S h1 h2 => ?_⟩
  · show 0 ≤ (va_cpy we r 0 0 (n * 4) i).toInt
    rw [e i hi]; exact F.1.pos i hi
  · show (va_cpy we r 0 0 (n * 4) i).toInt + (va_cpy we r 0 0 (n * 4) (gR lk i)).toInt = _
    rw [e i hi, e _ (G.lk i hi hc).2.1]; exact F.1.two i hi hc
  · show (va_cpy we r 0 0 (n * 4) i).toInt = 0
    rw [e i hi]; exact hc
  · rw [← F.2 S h1 h2]
    exact smM_eq _ (fun i hi _ => e i hi)
theorem weF_spec {lk we : Nat → Int32} {n : Nat} (h : okGr lk we n) (hn : n ≤ 120) :
    ∀ (c t b : Nat) (z : T3), 1 ≤ t → t + c ≤ n → Lc n (gC we) (gL lk) b 8 (fun S => ∃ u, 1 ≤ u ∧ u < t ∧ S u = true ∧ ∀ v, v < u → S v = false) →
      Lc n (gC we) (gL lk) (weF lk we n c t b z).1 8 (fun S => ∃ u, 1 ≤ u ∧ u < t + c ∧ S u = true ∧ ∀ v, v < u → S v = false)
  | 0, t, b, z, _, _, hb => by
    rw [weF]
    exact hb
  | c + 1, t, b, z, ht, htc, hb => by
    rw [weF]
    have G := okGr_G h hn
    by_cases e : b = 0
    · rw [if_pos e]
      refine ⟨fun S hS => ?_, hb.2.1, hb.2.2⟩
      show (b : Int) ≤ _
      rw [e]
      unfold cut
      have : smM (ctM (gC we) (gL lk) S) (fun _ => 0) (4 * n) ≤ smM (ctM (gC we) (gL lk) S) (gC we) (4 * n) := smM_le _ (fun i hi _ => G.pos i hi)
      rw [smM_0] at this
      exact this
    · rw [if_neg e]
      obtain ⟨f1, f2, f3⟩ := flF_spec h hn (show t < n by omega) b 0 (va_cpy we z.1 0 0 (n * 4), z.2) (Fl_cpy h hn t z.1)
      rw [Nat.zero_add] at f1 f3
      have := weF_spec h hn c (t + 1) (flF lk n t b 0 (va_cpy we z.1 0 0 (n * 4), z.2)).1 (flF lk n t b 0 (va_cpy we z.1 0 0 (n * 4), z.2)).2 (by omega) (by omega) ?_
      · rw [show t + (c + 1) = t + 1 + c by omega]
        exact this
      · refine ⟨fun S ⟨u, u1, u2, u3, u4⟩ => ?_, by have := hb.2.1; omega, ?_⟩
        · rcases Nat.lt_succ_iff_lt_or_eq.mp u2 with d | d
          · have := hb.1 S ⟨u, u1, d, u3, u4⟩
            omega
          · subst d
            exact f2 S u3 u4
        · rcases f3 with d | ⟨S, s1, s2, s3⟩
          · rw [d]
            exact hb.2.2
          · exact Or.inr ⟨S, ⟨t, by omega, s1⟩, ⟨0, by omega, s2 0 (by omega)⟩, s3⟩
