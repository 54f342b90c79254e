def rI (we fw : Nat → Int32) (i : Nat) : Int := if gC we i = 0 then 0 else gC we i - (fw i).toInt
theorem sub_small {a b : Int32} (ha : 0 ≤ a.toInt ∧ a.toInt ≤ 100) (hb : -100 ≤ b.toInt ∧ b.toInt ≤ 100) : (a - b).toInt = a.toInt - b.toInt := by
  rw [Int32.toInt_sub]
  exact Int.bmod_eq_of_le (by omega) (by omega)
theorem inc_sm {x : Int32} (h : -100 ≤ x.toInt ∧ x.toInt ≤ 100) : (x + nI 1).toInt = x.toInt + 1 := by
  rw [Int32.toInt_add, show (nI 1).toInt = 1 from by decide +kernel]
  exact Int.bmod_eq_of_le (by omega) (by omega)
theorem dec_sm {x : Int32} (h : -100 ≤ x.toInt ∧ x.toInt ≤ 100) : (x - nI 1).toInt = x.toInt - 1 := by
  rw [Int32.toInt_sub, show (nI 1).toInt = 1 from by decide +kernel]
  exact Int.bmod_eq_of_le (by omega) (by omega)
theorem okGr_c2 {lk we : Nat → Int32} {n : Nat} (h : okGr lk we n) : ∀ i, i < 4 * n → gC we i ≤ 2 := fun i hi => by
  obtain ⟨a, b⟩ := h.1 i hi
  unfold gC
  rw [a, nI_toInt (by omega)]
  omega
theorem rI_fw {lk we fw : Nat → Int32} {n : Nat} (h : okGr lk we n) (hn : n ≤ 120) (hr : Rs n (gC we) (gR lk) (rI we fw)) (ho : okFw we fw n) {i : Nat} (hi : i < 4 * n) : -4 ≤ (fw i).toInt ∧ (fw i).toInt ≤ 4 ∧ (gC we i ≠ 0 → (fw i).toInt = gC we i - rI we fw i) := by
  have G := okGr_G h hn
  have c2 := okGr_c2 h i hi
  have c0 := G.pos i hi
  by_cases q : gC we i = 0
  · have hw : we i = 0 := by
      by_cases z : we i = 0
      · exact z
      · exact absurd q (toInt_0.mpr z)
    rw [ho i (by omega) hw]
    exact ⟨by decide, by decide, fun z => absurd q z⟩
  · have e : rI we fw i = gC we i - (fw i).toInt := if_neg q
    have l1 := hr.pos i hi
    have l2 := Rs_le G (okGr_c2 h) hr hi
    rw [e] at l1 l2
    exact ⟨by omega, by omega, fun _ => by rw [e]; omega⟩
theorem rR_rI {sg gl fi pl fw nu : Nat → Int32} {n : Nat} (h : okGr (rgL pl nu) (rgW sg gl fi pl) n) (hn : n ≤ 120) (hr : Rs n (gC (rgW sg gl fi pl)) (gR (rgL pl nu)) (rI (rgW sg gl fi pl) fw)) (ho : okFw (rgW sg gl fi pl) fw n) {i : Nat} (hi : i < 4 * n) : (rgR sg gl fi pl fw i ≠ 0 → rgW sg gl fi pl i ≠ 0 ∧ 1 ≤ rI (rgW sg gl fi pl) fw i) ∧ (rgW sg gl fi pl i ≠ 0 → rI (rgW sg gl fi pl) fw i ≠ 0 → rgR sg gl fi pl fw i ≠ 0) := by
  have G := okGr_G h hn
  have c2 := okGr_c2 h i hi
  have c0 := G.pos i hi
  obtain ⟨f1, f2, f3⟩ := rI_fw h hn hr ho hi
  have key : rgW sg gl fi pl i ≠ 0 → rgR sg gl fi pl fw i = if 0 < rgW sg gl fi pl i - fw i then rgW sg gl fi pl i - fw i else 0 := by
    intro hw
    unfold rgW at hw
    unfold rgR rgW
    by_cases c1 : rgQ pl i < 0
    · rw [if_pos c1] at hw; exact absurd rfl hw
    · rw [if_neg c1] at hw
      by_cases d : fi (nn (rgQ pl i)) = 0
      · rw [if_pos d] at hw; exact absurd rfl hw
      · rw [if_neg c1, if_neg d, if_neg c1, if_neg d]
  have hsub : rgW sg gl fi pl i ≠ 0 → (rgW sg gl fi pl i - fw i).toInt = rI (rgW sg gl fi pl) fw i := by
    intro hw
    have := f3 (toInt_0.mpr hw)
    have e : (rgW sg gl fi pl i - fw i).toInt = (rgW sg gl fi pl i).toInt - (fw i).toInt := sub_small ⟨c0, by have : gC (rgW sg gl fi pl) i ≤ 2 := c2; unfold gC at this; omega⟩ (by omega)
    rw [e]
    unfold gC at this
    omega
  refine ⟨fun hr2 => ?_, fun hw hi2 => ?_⟩
  · have hw := okFw_Rm ho i (by omega) hr2
    refine ⟨hw, ?_⟩
    rw [key hw] at hr2
    by_cases c : 0 < rgW sg gl fi pl i - fw i
    · rw [Int32.lt_iff_toInt_lt, hsub hw, Int32.toInt_zero] at c
      omega
    · rw [if_neg c] at hr2
      exact absurd rfl hr2
  · have hp := hr.pos i hi
    rw [key hw]
    have c : 0 < rgW sg gl fi pl i - fw i := by
      rw [Int32.lt_iff_toInt_lt, hsub hw, Int32.toInt_zero]
      omega
    rw [if_pos c]
    exact i_pos c
theorem rpS_ch {lk we fw ar : Nat → Int32} {n t : Nat} (h : okGr lk we n) (hn : n ≤ 120) (hr : Rs n (gC we) (gR lk) (rI we fw)) (ho : okFw we fw n) (he : edN lk ar t < 4 * n) (hce : gC we (edN lk ar t) ≠ 0) (hb : bkE ar t < 4 * n) (hcb : gC we (bkE ar t) ≠ 0) : rI we (rpS lk ar t fw) = chS (edN lk ar t) (bkE ar t) (rI we fw) := by
  obtain ⟨e1, e2, -⟩ := rI_fw h hn hr ho he
  obtain ⟨b1, b2, -⟩ := rI_fw h hn hr ho hb
  have x1 : 4 * nn (lk (t * 4 + opp (nn (ar t)))) + nn (ar t) = edN lk ar t := by show _ = nn (lk (t * 4 + opp (nn (ar t)))) * 4 + nn (ar t); omega
  have x2 : 4 * t + opp (nn (ar t)) = bkE ar t := by show _ = t * 4 + opp (nn (ar t)); omega
  funext i
  show (if gC we i = 0 then 0 else gC we i - (rpS lk ar t fw i).toInt) = (if gC we i = 0 then 0 else gC we i - (fw i).toInt) + ((if i = bkE ar t then 1 else 0) + (if i = edN lk ar t then -1 else 0))
  unfold rpS
  rw [x1, x2]
  have hinc := inc_sm (x := fw (edN lk ar t)) (by omega)
  by_cases c2 : i = bkE ar t
  · rw [c2, pk_us]
    by_cases c1 : bkE ar t = edN lk ar t
    · rw [c1, pk_us, if_neg hce, if_neg hce, if_pos rfl, if_pos rfl, dec_sm (by omega), hinc]
      omega
    · rw [pk_un c1, if_neg hcb, if_neg hcb, if_pos rfl, if_neg c1, dec_sm (by omega)]
      omega
  · rw [pk_un c2]
    by_cases c1 : i = edN lk ar t
    · rw [c1, pk_us, if_neg hce, if_neg hce, if_neg (fun z => c2 (by rw [c1]; exact z)), if_pos rfl, hinc]
      omega
    · rw [pk_un c1, if_neg c2, if_neg c1]
      split <;> omega
theorem rpF_ch {lk we ar : Nat → Int32} {n : Nat} {A : Nat → Prop} {rk : Nat → Nat} (h : okGr lk we n) (hn : n ≤ 120) (Y : Wy n (gC we) (gL lk) (gR lk) 0 A rk (pvN lk ar) (edN lk ar) (bkE ar)) :
    ∀ (f t : Nat) (fw : Nat → Int32), A t → Rs n (gC we) (gR lk) (rI we fw) → okFw we fw n → (∀ u, A u → u ≠ 0 → rk u ≤ rk t → 1 ≤ rI we fw (edN lk ar u)) →
      rI we (rpF lk ar f t fw) = chI 0 (pvN lk ar) (edN lk ar) (bkE ar) f t (rI we fw)
  | 0, _, _, _, _, _, _ => rfl
  | f + 1, t, fw, hA, hr, ho, h1 => by
    have G := okGr_G h hn
    rw [rpF, chI]
    by_cases e : t = 0
    · rw [if_pos e, if_pos e]
    · obtain ⟨w1, w2, w3, w4, w5, w6, w7, w8⟩ := Y t hA e
      have hed := h1 t hA e (Nat.le_refl _)
      have hg := G.lk _ w4 w5
      have hb : bkE ar t < 4 * n := by rw [w8]; exact hg.2.1
      have hcb : gC we (bkE ar t) ≠ 0 := by rw [w8, hg.2.2.2.2.2]; exact w5
      have hst := rpS_ch h hn hr ho w4 w5 hb hcb
      rw [if_neg e, if_neg e, ← hst]
      refine rpF_ch h hn Y f (pvN lk ar t) (rpS lk ar t fw) w2 (by rw [hst, w8]; exact chS_rs G w4 w5 hr hed) ?_ (fun u hu us hk => ?_)
      · intro i hi hw
        have z1 : i ≠ bkE ar t := fun z => hcb (by rw [← z]; unfold gC; rw [hw]; rfl)
        have z2 : i ≠ edN lk ar t := fun z => w5 (by rw [← z]; unfold gC; rw [hw]; rfl)
        have x1 : 4 * nn (lk (t * 4 + opp (nn (ar t)))) + nn (ar t) = edN lk ar t := by show _ = nn (lk (t * 4 + opp (nn (ar t)))) * 4 + nn (ar t); omega
        have x2 : 4 * t + opp (nn (ar t)) = bkE ar t := by show _ = t * 4 + opp (nn (ar t)); omega
        unfold rpS
        rw [x1, x2, pk_un z1, pk_un z2]
        exact ho i hi hw
      · obtain ⟨v1, v2, v3, v4, v5, v6, v7, v8⟩ := Y u hu us
        have h2 := h1 u hu us (by omega)
        have hne : edN lk ar u ≠ edN lk ar t := fun z => by
          have : u = t := by rw [← v7, ← w7, z]
          subst this
          omega
        rw [hst]
        show 1 ≤ rI we fw (edN lk ar u) + _
        rw [if_neg hne]
        split <;> omega
theorem rfF_spec {sg gl fi pl nu : Nat → Int32} {n tq : Nat} (h : okGr (rgL pl nu) (rgW sg gl fi pl) n) (hn : n ≤ 120) (ht : tq < n) (ht0 : tq ≠ 0) :
    ∀ (f k : Nat) (z : T3), okFw (rgW sg gl fi pl) z.2.2 n → Fl n (gC (rgW sg gl fi pl)) (gL (rgL pl nu)) (gR (rgL pl nu)) 0 (fun t => t = tq) (rI (rgW sg gl fi pl) z.2.2) k →
      (rfF (rgL pl nu) (rgR sg gl fi pl) n tq f k z).1 ≤ k + f ∧ (∀ S : Nat → Bool, S 0 = true → S tq = false → ((rfF (rgL pl nu) (rgR sg gl fi pl) n tq f k z).1 : Int) ≤ cut n (gC (rgW sg gl fi pl)) (gL (rgL pl nu)) S) ∧
        ((rfF (rgL pl nu) (rgR sg gl fi pl) n tq f k z).1 = k + f ∨ ∃ S : Nat → Bool, S 0 = true ∧ S tq = false ∧ ((rfF (rgL pl nu) (rgR sg gl fi pl) n tq f k z).1 : Int) = cut n (gC (rgW sg gl fi pl)) (gL (rgL pl nu)) S)
  | 0, k, z, _, hF => ⟨Nat.le_refl _, fun S h1 h2 => Fl_le hF h1 (fun t e => by rw [e]; exact h2), Or.inl rfl⟩
  | f + 1, k, z, ho, hF => by
    have G := okGr_G h hn
    have hL := okGr_lk h
    have hR := okFw_Rm ho
    have q0 := okQ_init2 (lk := rgL pl nu) (we := rgW sg gl fi pl) (ar := z.1) (qu := z.2.1) (n := n) (by omega)
    have sp := eoI_spec hL hR hn (show 0 < n by omega) (e0R z.1 z.2.1 n) q0.2 (by show nn (upd z.2.1 0 (nI 0) 0) = 0; rw [pk_us, nn_nI (by decide)]) rfl q0.1
    rcases e : itX (eoB (rgL pl nu) (rgR sg gl fi pl z.2.2) 0) n 0 (e0R z.1 z.2.1 n) with ⟨o, z'⟩
    cases o with
    | some r => exact absurd (sp.2 r z' e).1 (Nat.not_lt_zero _)
    | none =>
      obtain ⟨n1, n2, n3, n4, rk, n5, n6⟩ := sp.1 z' e
      by_cases c : z'.1 tq = -1
      · rw [rfF_end (by omega) e c]
        refine ⟨by show k ≤ _; omega, fun S h1 h2 => Fl_le hF h1 (fun t e => by rw [e]; exact h2), Or.inr ?_⟩
        have sh1 : (fun t => decide (t < n ∧ z'.1 t ≠ -1)) 0 = true := decide_eq_true ⟨by omega, n1⟩
        have sh2 : (fun t => decide (t < n ∧ z'.1 t ≠ -1)) tq = false := decide_eq_false (fun q => q.2 c)
        refine ⟨fun t => decide (t < n ∧ z'.1 t ≠ -1), sh1, sh2, Fl_end hF sh1 (fun t e => by rw [e]; exact sh2) ?_⟩
        intro i hi hc hS hr
        have hS := of_decide_eq_true hS
        have hrr := (rR_rI h hn hF.1 ho hi).2 (toInt_0.mp hc) hr
        have := n3 (i / 4) hS.1 hS.2 (i % 4) (by omega) (by rw [show i / 4 * 4 + i % 4 = i by omega]; exact hrr)
        rw [show i / 4 * 4 + i % 4 = i by omega] at this
        exact decide_eq_true ⟨(G.lk i hi hc).1, this⟩
      · rw [rfF_go (by omega) e c, Nat.add_sub_cancel]
        obtain ⟨Y, hroom⟩ := okWy_Wy h hR hn n5
        have hpos : ∀ u, (u < n ∧ z'.1 u ≠ -1) → u ≠ 0 → 1 ≤ rI (rgW sg gl fi pl) z.2.2 (edN (rgL pl nu) z'.1 u) := fun u hu us => ((rR_rI h hn hF.1 ho (Y u hu us).2.2.2.1).1 (hroom u hu us)).2
        have hg := Fl_go G Y hF (show tq < n ∧ z'.1 tq ≠ -1 from ⟨ht, c⟩) rfl (n6 tq ht c) hpos
        rw [← rpF_ch h hn Y n tq z.2.2 ⟨ht, c⟩ hF.1 ho (fun u hu us _ => hpos u hu us)] at hg
        have ho2 := rpF_ok hL hR hn n5 n tq z.2.2 ht c ho
        have ih := rfF_spec h hn ht ht0 f (k + 1) (z'.1, z'.2.1, rpF (rgL pl nu) z'.1 n tq z.2.2) ho2 hg
        rw [show k + (f + 1) = k + 1 + f by omega]
        exact ih
theorem reF_spec {sg gl fi pl nu : Nat → Int32} {n : Nat} (h : okGr (rgL pl nu) (rgW sg gl fi pl) n) (hn : n ≤ 120) :
    ∀ (c t b : Nat) (z : T3), 1 ≤ t → t + c ≤ n → Lc n (gC (rgW sg gl fi pl)) (gL (rgL pl nu)) b 1000 (fun S => S 0 = true ∧ ∃ u, 1 ≤ u ∧ u < t ∧ S u = false) →
      Lc n (gC (rgW sg gl fi pl)) (gL (rgL pl nu)) (reF (rgL pl nu) (rgR sg gl fi pl) n c t b z).1 1000 (fun S => S 0 = true ∧ ∃ u, 1 ≤ u ∧ u < t + c ∧ S u = false)
  | 0, t, b, z, _, _, hb => by
    rw [reF]
    exact hb
  | c + 1, t, b, z, ht, htc, hb => by
    rw [reF]
    have G := okGr_G h hn
    have ho : okFw (rgW sg gl fi pl) (flI z.2.2 (nI 0) 480) n := fun i hi _ => (if_pos (show i < 480 by omega)).trans nI_0
    have hz : ∀ i, i < 4 * n → rI (rgW sg gl fi pl) (flI z.2.2 (nI 0) 480) i = gC (rgW sg gl fi pl) i := by
      intro i hi
      have e : flI z.2.2 (nI 0) 480 i = 0 := (if_pos (show i < 480 by omega)).trans nI_0
      unfold rI
      by_cases q : gC (rgW sg gl fi pl) i = 0
      · rw [if_pos q, q]
      · rw [if_neg q, e, Int32.toInt_zero]
        omega
    have F0 := Fl_0 G 0 (fun u => u = t)
    have hF : Fl n (gC (rgW sg gl fi pl)) (gL (rgL pl nu)) (gR (rgL pl nu)) 0 (fun u => u = t) (rI (rgW sg gl fi pl) (flI z.2.2 (nI 0) 480)) 0 := by
      refine ⟨⟨fun i hi => ?_, fun i hi hc => ?_, fun i hi hc => ?_⟩, fun S h1 h2 => ?_⟩
      · rw [hz i hi]; exact F0.1.pos i hi
      · rw [hz i hi, hz _ (G.lk i hi hc).2.1]; exact F0.1.two i hi hc
      · rw [hz i hi]; exact hc
      · rw [← F0.2 S h1 h2]
        exact smM_eq _ (fun i hi _ => hz i hi)
    obtain ⟨f1, f2, f3⟩ := rfF_spec h hn (show t < n by omega) (by omega) b 0 (z.1, z.2.1, flI z.2.2 (nI 0) 480) ho hF
    generalize rfF (rgL pl nu) (rgR sg gl fi pl) n t b 0 (z.1, z.2.1, flI z.2.2 (nI 0) 480) = q at f1 f2 f3 ⊢
    rw [Nat.zero_add] at f1 f3
    have e : (if q.1 < b then q.1 else b) = q.1 := by
      split
      · rfl
      · omega
    rw [e]
    have := reF_spec h hn c (t + 1) q.1 q.2 (by omega) (by omega) ?_
    · rw [show t + (c + 1) = t + 1 + c by omega]
      exact this
    · refine ⟨fun S ⟨s0, u, u1, u2, u3⟩ => ?_, by have := hb.2.1; omega, ?_⟩
      · rcases Nat.lt_succ_iff_lt_or_eq.mp u2 with d | d
        · have := hb.1 S ⟨s0, u, u1, d, u3⟩
          omega
        · subst d
          exact f2 S s0 u3
      · rcases f3 with d | ⟨S, s1, s2, s3⟩
        · rw [d]
          exact hb.2.2
        · exact Or.inr ⟨S, ⟨0, by omega, s1⟩, ⟨t, by omega, s2⟩, s3⟩
