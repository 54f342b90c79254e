def lowP (i : Nat) : Nat := if i ≤ 42 then 0 else if 1722 ≤ i then 1600 else 40 * (i / 42 - 1) + (if i % 42 = 0 then 0 else i % 42 - 1)
theorem lowP_w {i : Nat} (hi : i < 1764) (h : onW i) : lowP (i + 1) = lowP i := by
  unfold onW at h
  unfold lowP
  repeat' split
  all_goals omega
theorem lowP_in {p : Nat} (hp : p < 1600) : lowP (pm p) = p ∧ lowP (pm p + 1) = p + 1 := by
  have := pm_in hp
  unfold lowP
  constructor
  · rw [if_neg (by omega), if_neg (by omega), if_neg (by omega)]
    unfold pm at *
    omega
  · rw [if_neg (by omega)]
    unfold pm at *
    by_cases c : 1722 ≤ (p / 40 + 1) * 42 + p % 40 + 1 + 1
    · rw [if_pos c]; omega
    · rw [if_neg c]
      split <;> omega
theorem cnF_inj {fi : Nat → Int32} {q r : Nat} (hq : fi q ≠ 0) (hr : fi r ≠ 0) (h : cnF fi q = cnF fi r) : q = r := by
  rcases Nat.lt_trichotomy q r with d | d | d
  · have := cnF_lt hq d; omega
  · exact d
  · have := cnF_lt hr d; omega
theorem bsV_2 {p : Nat} (hp : p < 1600) (h : ¬ bsV p 2 < 0) : 40 ≤ p ∧ nn (bsV p 2) = p - 40 := by
  by_cases e : 40 ≤ p
  · refine ⟨e, ?_⟩
    show nn (if 40 ≤ p then nI (p - 40) else -1) = _
    rw [if_pos e, nn_nI (by omega)]
  · exact absurd (show bsV p 2 < 0 from by show (if 40 ≤ p then nI (p - 40) else -1) < 0; rw [if_neg e]; exact m1_lt) h
theorem bsV_3 {p : Nat} (hp : p < 1600) (h : ¬ bsV p 3 < 0) : 1 ≤ p % 40 ∧ nn (bsV p 3) = p - 1 := by
  by_cases e : 1 ≤ p % 40
  · refine ⟨e, ?_⟩
    show nn (if 1 ≤ p % 40 then nI (p - 1) else -1) = _
    rw [if_pos e, nn_nI (by omega)]
  · exact absurd (show bsV p 3 < 0 from by show (if 1 ≤ p % 40 then nI (p - 1) else -1) < 0; rw [if_neg e]; exact m1_lt) h
theorem bsV_0 {p : Nat} (hp : p < 1600) (h : ¬ bsV p 0 < 0) : p < 1560 ∧ nn (bsV p 0) = p + 40 := by
  by_cases e : p < 1560
  · refine ⟨e, ?_⟩
    show nn (if p < 1560 then nI (p + 40) else -1) = _
    rw [if_pos e, nn_nI (by omega)]
  · exact absurd (show bsV p 0 < 0 from by show (if p < 1560 then nI (p + 40) else -1) < 0; rw [if_neg e]; exact m1_lt) h
theorem bsV_1 {p : Nat} (hp : p < 1600) (h : ¬ bsV p 1 < 0) : p % 40 < 39 ∧ nn (bsV p 1) = p + 1 := by
  by_cases e : p % 40 < 39
  · refine ⟨e, ?_⟩
    show nn (if p % 40 < 39 then nI (p + 1) else -1) = _
    rw [if_pos e, nn_nI (by omega)]
  · exact absurd (show bsV p 1 < 0 from by show (if p % 40 < 39 then nI (p + 1) else -1) < 0; rw [if_neg e]; exact m1_lt) h
theorem heV_nz {sg gl fi : Nat → Int32} {p t k : Nat} (h : heV sg gl fi p t k ≠ 0) : ¬ bsV p k < 0 ∧ fi (nn (bsV p k)) ≠ 0 := by
  unfold heV at h
  by_cases c1 : bsV p k < 0
  · rw [if_pos c1, nI_0] at h; exact absurd rfl h
  · rw [if_neg c1] at h
    refine ⟨c1, fun c2 => ?_⟩
    rw [if_pos c2, nI_0] at h
    exact h rfl
def seen (fi : Nat → Int32) (p q k : Nat) : Prop := ¬ bsV q k < 0 ∧ nn (bsV q k) < p ∧ fi (nn (bsV q k)) ≠ 0
abbrev GI (sg gl fi : Nat → Int32) (g : GS) (p : Nat) : Prop := (g.2.2.2 = cnF fi p) ∧ (∀ x, x < 40 → (g.2.2.1 x = -1 ∧ ∀ q, q < p → q % 40 = x → fi q = 0) ∨ ∃ q, q < p ∧ q % 40 = x ∧ fi q ≠ 0 ∧ g.2.2.1 x = nI (cnF fi q) ∧ ∀ r, q < r → r < p → r % 40 = x → fi r = 0) ∧ (∀ q, q < p → fi q ≠ 0 → ∀ k, k < 4 → (seen fi p q k → g.2.1 (cnF fi q * 4 + k) = heV sg gl fi q (nn (fi q)) k ∧ (heV sg gl fi q (nn (fi q)) k ≠ 0 → g.1 (cnF fi q * 4 + k) = nI (cnF fi (nn (bsV q k))))) ∧ (¬ seen fi p q k → g.2.1 (cnF fi q * 4 + k) = nI 0)) ∧ (∀ i, cnF fi p * 4 ≤ i → i < 480 → g.2.1 i = nI 0)
theorem GI.cn {sg gl fi : Nat → Int32} {g : GS} {p : Nat} (h9 : GI sg gl fi g p) : g.2.2.2 = cnF fi p := h9.1
theorem GI.nw {sg gl fi : Nat → Int32} {g : GS} {p : Nat} (h9 : GI sg gl fi g p) : ∀ x, x < 40 → (g.2.2.1 x = -1 ∧ ∀ q, q < p → q % 40 = x → fi q = 0) ∨ ∃ q, q < p ∧ q % 40 = x ∧ fi q ≠ 0 ∧ g.2.2.1 x = nI (cnF fi q) ∧ ∀ r, q < r → r < p → r % 40 = x → fi r = 0 := h9.2.1
theorem GI.on {sg gl fi : Nat → Int32} {g : GS} {p : Nat} (h9 : GI sg gl fi g p) : ∀ q, q < p → fi q ≠ 0 → ∀ k, k < 4 → (seen fi p q k → g.2.1 (cnF fi q * 4 + k) = heV sg gl fi q (nn (fi q)) k ∧ (heV sg gl fi q (nn (fi q)) k ≠ 0 → g.1 (cnF fi q * 4 + k) = nI (cnF fi (nn (bsV q k))))) ∧ (¬ seen fi p q k → g.2.1 (cnF fi q * 4 + k) = nI 0) := h9.2.2.1
theorem GI.off {sg gl fi : Nat → Int32} {g : GS} {p : Nat} (h9 : GI sg gl fi g p) : ∀ i, cnF fi p * 4 ≤ i → i < 480 → g.2.1 i = nI 0 := h9.2.2.2
theorem tie_no {n k : Nat} {a w : Int32} {f : Nat → Int32} (h : w = 0) : tieL n a k w f = f ∧ tieW n a k w f = f := by
  unfold tieL tieW
  rw [if_pos (Or.inl h), if_pos (Or.inl h)]
  exact ⟨rfl, rfl⟩
theorem tie_go {n k m : Nat} {w : Int32} {f : Nat → Int32} (h : w ≠ 0) (hm : m < 2 ^ 31) : tieL n (nI m) k w f = upd (upd f (n * 4 + k) (nI m)) (m * 4 + opp k) (nI n) ∧ tieW n (nI m) k w f = upd (upd f (n * 4 + k) w) (m * 4 + opp k) w := by
  have c : ¬ (w = 0 ∨ ¬ 0 ≤ nI m) := fun q => q.elim h (fun z => z (nI_pos' hm))
  unfold tieL tieW
  rw [if_neg c, if_neg c, nn_nI hm]
  exact ⟨rfl, rfl⟩
theorem GI_tie {sg gl fi lk we : Nat → Int32} {p k r : Nat} {a : Int32} (hp : p < 1600) (hk : k = 2 ∨ k = 3) (hfp : fi p ≠ 0)
    (hr : heV sg gl fi p (nn (fi p)) k ≠ 0 → nn (bsV p k) = r ∧ r < p ∧ fi r ≠ 0 ∧ a = nI (cnF fi r)) (hw0 : we (cnF fi p * 4 + k) = nI 0) :
    (∀ i, i ≠ cnF fi p * 4 + k → (heV sg gl fi p (nn (fi p)) k ≠ 0 → i ≠ cnF fi r * 4 + opp k) → tieW (cnF fi p) a k (heV sg gl fi p (nn (fi p)) k) we i = we i ∧ tieL (cnF fi p) a k (heV sg gl fi p (nn (fi p)) k) lk i = lk i) ∧
    tieW (cnF fi p) a k (heV sg gl fi p (nn (fi p)) k) we (cnF fi p * 4 + k) = heV sg gl fi p (nn (fi p)) k ∧
    (heV sg gl fi p (nn (fi p)) k ≠ 0 → tieL (cnF fi p) a k (heV sg gl fi p (nn (fi p)) k) lk (cnF fi p * 4 + k) = nI (cnF fi r) ∧ tieW (cnF fi p) a k (heV sg gl fi p (nn (fi p)) k) we (cnF fi r * 4 + opp k) = heV sg gl fi p (nn (fi p)) k ∧ tieL (cnF fi p) a k (heV sg gl fi p (nn (fi p)) k) lk (cnF fi r * 4 + opp k) = nI (cnF fi p)) := by
  by_cases c : heV sg gl fi p (nn (fi p)) k = 0
  · obtain ⟨e1, -⟩ := tie_no (n := cnF fi p) (k := k) (a := a) (f := lk) c
    obtain ⟨-, e2⟩ := tie_no (n := cnF fi p) (k := k) (a := a) (f := we) c
    rw [e1, e2]
    refine ⟨fun i _ _ => ⟨rfl, rfl⟩, ?_, fun z => absurd c z⟩
    rw [hw0, c, nI_0]
  · obtain ⟨h1, h2, h3, h4⟩ := hr c
    have l1 := cnF_le fi r
    have l2 := cnF_lt h3 h2
    have hop : opp k < 4 := opp_lt k
    obtain ⟨e1, -⟩ := tie_go (n := cnF fi p) (k := k) (m := cnF fi r) (f := lk) c (by omega)
    obtain ⟨-, e2⟩ := tie_go (n := cnF fi p) (k := k) (m := cnF fi r) (f := we) c (by omega)
    rw [h4, e1, e2]
    refine ⟨fun i z1 z2 => ?_, ?_, fun _ => ⟨?_, pk_us, pk_us⟩⟩
    · rw [pk_un (z2 c), pk_un z1, pk_un (z2 c), pk_un z1]
      exact ⟨rfl, rfl⟩
    · rw [pk_un (by omega), pk_us]
    · rw [pk_un (by omega), pk_us]
theorem GI_step {ce fi ip se st sd sg gl : Nat → Int32} {be : Nat → Int64} {y : Nat} (C : Rc ce fi ip se) (T : Rt st sd be sg gl y) {g : GS} {p : Nat} (hp : p < 1600) (hfp : fi p ≠ 0) (hN : cnF fi p < 120) (G : GI sg gl fi g p) : GI sg gl fi (gaT ce sd st (pm p) g) (p + 1) := by
  have hpm := pm_in hp
  have hf6 := (C.fiN p hp).2
  have h2 : hoV ce sd st (pm p) (tyN (ce (pm p))) 2 = heV sg gl fi p (nn (fi p)) 2 := by rw [Rc_ty C hp]; exact ho_he C T hp hf6 (by decide)
  have h3 : hoV ce sd st (pm p) (tyN (ce (pm p))) 3 = heV sg gl fi p (nn (fi p)) 3 := by rw [Rc_ty C hp]; exact ho_he C T hp hf6 (by decide)
  have hc1 : cnF fi (p + 1) = cnF fi p + 1 := by rw [cnF, if_neg hfp]
  have hcol : pm p % 42 - 1 = p % 40 := by omega
  -- the neighbour in the south is the newest of its column
  have hs : heV sg gl fi p (nn (fi p)) 2 ≠ 0 → nn (bsV p 2) = p - 40 ∧ p - 40 < p ∧ fi (p - 40) ≠ 0 ∧ g.2.2.1 (p % 40) = nI (cnF fi (p - 40)) := by
    intro hne
    obtain ⟨z1, z2⟩ := heV_nz hne
    obtain ⟨b1, b2⟩ := bsV_2 hp z1
    rw [b2] at z2
    refine ⟨b2, by omega, z2, ?_⟩
    rcases G.nw (p % 40) (by omega) with ⟨n1, n2⟩ | ⟨q, q1, q2, q3, q4, q5⟩
    · exact absurd (n2 (p - 40) (by omega) (by omega)) z2
    · have : q = p - 40 := by
        rcases Nat.lt_trichotomy q (p - 40) with d | d | d
        · exact absurd (q5 (p - 40) d (by omega) (by omega)) z2
        · exact d
        · omega
      rw [q4, this]
  have hwst : heV sg gl fi p (nn (fi p)) 3 ≠ 0 → nn (bsV p 3) = p - 1 ∧ p - 1 < p ∧ fi (p - 1) ≠ 0 ∧ nI g.2.2.2 - nI 1 = nI (cnF fi (p - 1)) := by
    intro hne
    obtain ⟨z1, z2⟩ := heV_nz hne
    obtain ⟨b1, b2⟩ := bsV_3 hp z1
    rw [b2] at z2
    have e : cnF fi p = cnF fi (p - 1) + 1 := by
      have : cnF fi (p - 1 + 1) = cnF fi (p - 1) + 1 := by rw [cnF, if_neg z2]
      rw [show p - 1 + 1 = p by omega] at this
      exact this
    refine ⟨b2, by omega, z2, ?_⟩
    rw [G.cn, e, pk_sub (by omega), Nat.add_sub_cancel]
  have t2 := GI_tie (sg := sg) (gl := gl) (fi := fi) (lk := g.1) (we := g.2.1) (p := p) (k := 2) (r := p - 40) (a := g.2.2.1 (p % 40)) hp (Or.inl rfl) hfp hs (G.off _ (by omega) (by omega))
  -- names for the arrays between the two ties
  have key : gaT ce sd st (pm p) g = (tieL (cnF fi p) (nI g.2.2.2 - nI 1) 3 (heV sg gl fi p (nn (fi p)) 3) (tieL (cnF fi p) (g.2.2.1 (p % 40)) 2 (heV sg gl fi p (nn (fi p)) 2) g.1), tieW (cnF fi p) (nI g.2.2.2 - nI 1) 3 (heV sg gl fi p (nn (fi p)) 3) (tieW (cnF fi p) (g.2.2.1 (p % 40)) 2 (heV sg gl fi p (nn (fi p)) 2) g.2.1), upd g.2.2.1 (p % 40) (nI (cnF fi p)), cnF fi p + 1) := by
    unfold gaT
    rw [h2, h3, hcol, G.cn]
  rw [key]
  generalize hL1 : tieL (cnF fi p) (g.2.2.1 (p % 40)) 2 (heV sg gl fi p (nn (fi p)) 2) g.1 = L1 at t2
  generalize hW1 : tieW (cnF fi p) (g.2.2.1 (p % 40)) 2 (heV sg gl fi p (nn (fi p)) 2) g.2.1 = W1 at t2
  have o2 : opp 2 = 0 := rfl
  have o3 : opp 3 = 1 := rfl
  rw [o2] at t2
  have w10 : W1 (cnF fi p * 4 + 3) = nI 0 := by
    rw [(t2.1 (cnF fi p * 4 + 3) (by omega) (fun z => by have := cnF_lt (hs z).2.2.1 (hs z).2.1; omega)).1]
    exact G.off _ (by omega) (by omega)
  have t3 := GI_tie (sg := sg) (gl := gl) (fi := fi) (lk := L1) (we := W1) (p := p) (k := 3) (r := p - 1) (a := nI g.2.2.2 - nI 1) hp (Or.inr rfl) hfp hwst w10
  generalize tieL (cnF fi p) (nI g.2.2.2 - nI 1) 3 (heV sg gl fi p (nn (fi p)) 3) L1 = L2 at t3
  generalize tieW (cnF fi p) (nI g.2.2.2 - nI 1) 3 (heV sg gl fi p (nn (fi p)) 3) W1 = W2 at t3
  rw [o3] at t3
  have ls : heV sg gl fi p (nn (fi p)) 2 ≠ 0 → cnF fi (p - 40) < cnF fi p := fun z => cnF_lt (hs z).2.2.1 (hs z).2.1
  have lw : heV sg gl fi p (nn (fi p)) 3 ≠ 0 → cnF fi (p - 1) < cnF fi p := fun z => cnF_lt (hwst z).2.2.1 (hwst z).2.1
  -- an index that no tie touches
  have keep : ∀ i, i ≠ cnF fi p * 4 + 2 → i ≠ cnF fi p * 4 + 3 → (heV sg gl fi p (nn (fi p)) 2 ≠ 0 → i ≠ cnF fi (p - 40) * 4 + 0) → (heV sg gl fi p (nn (fi p)) 3 ≠ 0 → i ≠ cnF fi (p - 1) * 4 + 1) → W2 i = g.2.1 i ∧ L2 i = g.1 i := by
    intro i i2 i3 j2 j3
    obtain ⟨a1, a2⟩ := t3.1 i i3 j3
    obtain ⟨b1, b2⟩ := t2.1 i i2 j2
    exact ⟨a1.trans b1, a2.trans b2⟩
  refine ⟨hc1.symm, fun x hx => ?_, fun q hq hfq k hk => ?_, fun i hi hi2 => ?_⟩
  · show (upd g.2.2.1 (p % 40) (nI (cnF fi p)) x = -1 ∧ _) ∨ ∃ q, q < p + 1 ∧ q % 40 = x ∧ fi q ≠ 0 ∧ upd g.2.2.1 (p % 40) (nI (cnF fi p)) x = nI (cnF fi q) ∧ _
    by_cases e : x = p % 40
    · refine Or.inr ⟨p, by omega, e.symm, hfp, by rw [e, pk_us], fun r h1 h2 => by omega⟩
    · rw [pk_un e]
      rcases G.nw x hx with ⟨n1, n2⟩ | ⟨q, q1, q2, q3, q4, q5⟩
      · refine Or.inl ⟨n1, fun q hq hqx => n2 q ?_ hqx⟩
        rcases Nat.lt_succ_iff_lt_or_eq.mp hq with d | d
        · exact d
        · subst d; exact absurd hqx.symm e
      · refine Or.inr ⟨q, by omega, q2, q3, q4, fun r h1 h9 h8 => q5 r h1 ?_ h8⟩
        rcases Nat.lt_succ_iff_lt_or_eq.mp h9 with d | d
        · exact d
        · subst d; exact absurd h8.symm e
  · show (seen fi (p + 1) q k → W2 (cnF fi q * 4 + k) = _ ∧ (_ → L2 (cnF fi q * 4 + k) = _)) ∧ (¬ seen fi (p + 1) q k → W2 (cnF fi q * 4 + k) = nI 0)
    rcases Nat.lt_succ_iff_lt_or_eq.mp hq with hlt | rfl
    · have hql := cnF_lt hfq hlt
      have old := G.on q hlt hfq k hk
      by_cases cs : k = 0 ∧ q = p - 40 ∧ heV sg gl fi p (nn (fi p)) 2 ≠ 0
      · obtain ⟨rfl, rfl, hne⟩ := cs
        obtain ⟨s1, s2, s3, s4⟩ := hs hne
        have z := (heV_nz hne).1
        obtain ⟨u1, u2, u3⟩ := t2.2.2 hne
        have nb0 : nn (bsV (p - 40) 0) = p := by
          have := bsV_opp hp (show 2 < 4 by decide) z
          rw [s1] at this
          rw [show bsV (p - 40) 0 = nI p from this, nn_nI (by omega)]
        have nv0 : ¬ bsV (p - 40) 0 < 0 := by
          have := bsV_opp hp (show 2 < 4 by decide) z
          rw [s1] at this
          rw [show bsV (p - 40) 0 = nI p from this]
          exact nI_pos (by omega)
        have sym := he_sym (sg := sg) (gl := gl) hp (show 2 < 4 by decide) z hfp (by rw [s1]; exact s3)
        rw [s1] at sym
        have sym : heV sg gl fi (p - 40) (nn (fi (p - 40))) 0 = heV sg gl fi p (nn (fi p)) 2 := sym
        obtain ⟨k1, k2⟩ := t3.1 (cnF fi (p - 40) * 4 + 0) (by omega) (fun zz => by have := hwst zz; intro q; have : cnF fi (p - 40) = cnF fi (p - 1) := by omega
                                                                                   omega)
        refine ⟨fun _ => ⟨by rw [k1, u2, sym], fun _ => by rw [k2, u3, nb0]⟩, fun h => absurd ⟨nv0, by rw [nb0]; omega, by rw [nb0]; exact hfp⟩ h⟩
      · by_cases cw : k = 1 ∧ q = p - 1 ∧ heV sg gl fi p (nn (fi p)) 3 ≠ 0
        · obtain ⟨rfl, rfl, hne⟩ := cw
          obtain ⟨s1, s2, s3, s4⟩ := hwst hne
          have z := (heV_nz hne).1
          obtain ⟨u1, u2, u3⟩ := t3.2.2 hne
          have nb0 : nn (bsV (p - 1) 1) = p := by
            have := bsV_opp hp (show 3 < 4 by decide) z
            rw [s1] at this
            rw [show bsV (p - 1) 1 = nI p from this, nn_nI (by omega)]
          have nv0 : ¬ bsV (p - 1) 1 < 0 := by
            have := bsV_opp hp (show 3 < 4 by decide) z
            rw [s1] at this
            rw [show bsV (p - 1) 1 = nI p from this]
            exact nI_pos (by omega)
          have sym := he_sym (sg := sg) (gl := gl) hp (show 3 < 4 by decide) z hfp (by rw [s1]; exact s3)
          rw [s1] at sym
          have sym : heV sg gl fi (p - 1) (nn (fi (p - 1))) 1 = heV sg gl fi p (nn (fi p)) 3 := sym
          refine ⟨fun _ => ⟨by rw [u2, sym], fun _ => by rw [u3, nb0]⟩, fun h => absurd ⟨nv0, by rw [nb0]; omega, by rw [nb0]; exact hfp⟩ h⟩
        · obtain ⟨k1, k2⟩ := keep (cnF fi q * 4 + k) (by omega) (by omega) (fun z e => cs ⟨by omega, cnF_inj hfq (hs z).2.2.1 (by omega), z⟩) (fun z e => cw ⟨by omega, cnF_inj hfq (hwst z).2.2.1 (by omega), z⟩)
          rw [k1, k2]
          by_cases hnew : ¬ bsV q k < 0 ∧ nn (bsV q k) = p
          · -- its neighbour is p itself, and nothing holds them
            have hns : ¬ seen fi p q k := fun h => by have := h.2.1; omega
            have hold := old.2 hns
            have hq16 : q < 1600 := by omega
            have hz : heV sg gl fi q (nn (fi q)) k = nI 0 := by
              have hop := bsV_opp hq16 hk hnew.1
              rw [hnew.2] at hop
              have hno : ¬ bsV p (opp k) < 0 := by rw [hop]; exact nI_pos (by omega)
              have sym := he_sym (sg := sg) (gl := gl) hq16 hk hnew.1 hfq (by rw [hnew.2]; exact hfp)
              rw [hnew.2] at sym
              rw [← sym]
              have hkk : k = 0 ∨ k = 1 := by
                rcases (show k = 0 ∨ k = 1 ∨ k = 2 ∨ k = 3 by omega) with e | e | e | e
                · exact Or.inl e
                · exact Or.inr e
                · subst e; have := bsV_2 hq16 hnew.1; omega
                · subst e; have := bsV_3 hq16 hnew.1; omega
              rcases hkk with rfl | rfl
              · have hb := bsV_0 hq16 hnew.1
                by_cases ne : heV sg gl fi p (nn (fi p)) (opp 0) = 0
                · rw [ne, nI_0]
                · exact absurd ⟨rfl, by omega, ne⟩ cs
              · have hb := bsV_1 hq16 hnew.1
                by_cases ne : heV sg gl fi p (nn (fi p)) (opp 1) = 0
                · rw [ne, nI_0]
                · exact absurd ⟨rfl, by omega, ne⟩ cw
            refine ⟨fun _ => ⟨by rw [hold, hz], fun ne => absurd (by rw [hz, nI_0]) ne⟩, fun _ => hold⟩
          · have iff1 : seen fi (p + 1) q k ↔ seen fi p q k := by
              unfold seen
              constructor
              · rintro ⟨a, b, c⟩
                exact ⟨a, by rcases Nat.lt_succ_iff_lt_or_eq.mp b with d | d; exact d; exact absurd ⟨a, d⟩ hnew, c⟩
              · rintro ⟨a, b, c⟩
                exact ⟨a, by omega, c⟩
            rw [iff1]
            exact old
    · -- the tile itself
      rcases (show k = 0 ∨ k = 1 ∨ k = 2 ∨ k = 3 by omega) with rfl | rfl | rfl | rfl
      · have hns : ¬ seen fi (q + 1) q 0 := fun h => by have := bsV_0 hp h.1; have := h.2.1; omega
        refine ⟨fun h => absurd h hns, fun _ => ?_⟩
        rw [(keep (cnF fi q * 4 + 0) (by omega) (by omega) (fun z => by have := ls z; omega) (fun z => by have := lw z; omega)).1]
        exact G.off _ (by omega) (by omega)
      · have hns : ¬ seen fi (q + 1) q 1 := fun h => by have := bsV_1 hp h.1; have := h.2.1; omega
        refine ⟨fun h => absurd h hns, fun _ => ?_⟩
        rw [(keep (cnF fi q * 4 + 1) (by omega) (by omega) (fun z => by have := ls z; omega) (fun z => by have := lw z; omega)).1]
        exact G.off _ (by omega) (by omega)
      · obtain ⟨a1, a2⟩ := t3.1 (cnF fi q * 4 + 2) (by omega) (fun z => by have := lw z; omega)
        refine ⟨fun _ => ⟨by rw [a1]; exact t2.2.1, fun ne => ?_⟩, fun hns => ?_⟩
        · rw [a2, (t2.2.2 ne).1, (hs ne).1]
        · rw [a1, t2.2.1]
          by_cases ne : heV sg gl fi q (nn (fi q)) 2 = 0
          · rw [ne, nI_0]
          · obtain ⟨z1, z2⟩ := heV_nz ne
            have := bsV_2 hp z1
            exact absurd ⟨z1, by omega, z2⟩ hns
      · refine ⟨fun _ => ⟨t3.2.1, fun ne => by rw [(t3.2.2 ne).1, (hwst ne).1]⟩, fun hns => ?_⟩
        rw [t3.2.1]
        by_cases ne : heV sg gl fi q (nn (fi q)) 3 = 0
        · rw [ne, nI_0]
        · obtain ⟨z1, z2⟩ := heV_nz ne
          have := bsV_3 hp z1
          exact absurd ⟨z1, by omega, z2⟩ hns
  · show W2 i = nI 0
    rw [hc1] at hi
    rw [(keep i (by omega) (by omega) (fun z => by have := ls z; omega) (fun z => by have := lw z; omega)).1]
    exact G.off i (by omega) hi2
theorem GI_0 {sg gl fi : Nat → Int32} (lk we ne : Nat → Int32) : GI sg gl fi (lk, flI we (nI 0) 480, flI ne (-1) 40, 0) 0 :=
  ⟨rfl, fun x hx => Or.inl ⟨if_pos hx, fun q hq => absurd hq (Nat.not_lt_zero q)⟩, fun q hq => absurd hq (Nat.not_lt_zero q), fun i _ hi => if_pos hi⟩
theorem GI_all {ce fi ip se st sd sg gl : Nat → Int32} {be : Nat → Int64} {y : Nat} (C : Rc ce fi ip se) (T : Rt st sd be sg gl y) (hn : cnF fi 1600 ≤ 120) {g0 : GS} (G0 : GI sg gl fi g0 0) : ∀ i, i ≤ 1764 → GI sg gl fi (gaL ce sd st g0 i) (lowP i)
  | 0, _ => G0
  | i + 1, h => by
    have ih := GI_all C T hn G0 i (by omega)
    rw [gaL]
    by_cases w : onW i
    · rw [lowP_w (by omega) w]
      have : tyN (ce i) = 0 := by rw [C.wal i (by omega) w]; decide +kernel
      rw [if_pos this]
      split <;> exact ih
    · obtain ⟨p, hp, rfl⟩ := pm_of (by omega) w
      obtain ⟨l1, l2⟩ := lowP_in hp
      rw [l1] at ih
      rw [l2]
      by_cases c : fi p = 0
      · have t0 : tyN (ce (pm p)) = 0 := by rw [Rc_ty C hp]; exact (Rc_0 C hp).2.mp c
        rw [if_pos t0]
        have e : GI sg gl fi (gaL ce sd st g0 (pm p)) (p + 1) := by
          have hc : cnF fi (p + 1) = cnF fi p := by rw [cnF, if_pos c]; rfl
          refine ⟨by rw [hc]; exact ih.cn, fun x hx => ?_, fun q hq hfq k hk => ?_, fun j hj => ih.off j (by rw [← hc]; exact hj)⟩
          · rcases ih.nw x hx with ⟨n1, n2⟩ | ⟨q, q1, q2, q3, q4, q5⟩
            · refine Or.inl ⟨n1, fun q hq hqx => ?_⟩
              rcases Nat.lt_succ_iff_lt_or_eq.mp hq with d | d
              · exact n2 q d hqx
              · rw [d]; exact c
            · refine Or.inr ⟨q, by omega, q2, q3, q4, fun r h1 h2 h3 => ?_⟩
              rcases Nat.lt_succ_iff_lt_or_eq.mp h2 with d | d
              · exact q5 r h1 d h3
              · rw [d]; exact c
          · have hq : q < p := by
              rcases Nat.lt_succ_iff_lt_or_eq.mp hq with d | d
              · exact d
              · rw [d] at hfq; exact absurd c hfq
            have iff1 : seen fi (p + 1) q k ↔ seen fi p q k := by
              unfold seen
              constructor
              · rintro ⟨a, b, z⟩
                refine ⟨a, ?_, z⟩
                rcases Nat.lt_succ_iff_lt_or_eq.mp b with d | d
                · exact d
                · rw [d] at z; exact absurd c z
              · rintro ⟨a, b, z⟩
                exact ⟨a, by omega, z⟩
            rw [iff1]
            exact ih.on q hq hfq k hk
        split <;> exact e
      · have hlt := cnF_lt c hp
        rw [if_pos (by rw [ih.cn]; omega), if_neg (by rw [Rc_ty C hp]; exact fun q => c ((Rc_0 C hp).2.mpr q))]
        exact GI_step C T hp c (by omega) ih
theorem nmL_cn (fi nu pl : Nat → Int32) : ∀ i q, q < i → fi q ≠ 0 → (nmL fi nu pl i).1 q = nI (cnF fi q) ∧ (nmL fi nu pl i).2.1 (cnF fi q) = nI q
  | 0, q, h, _ => absurd h (Nat.not_lt_zero q)
  | i + 1, q, h, hf => by
    rw [nmL]
    by_cases c : fi i = 0
    · rw [if_pos c]
      refine nmL_cn fi nu pl i q ?_ hf
      rcases Nat.lt_succ_iff_lt_or_eq.mp h with d | d
      · exact d
      · rw [d] at hf; exact absurd c hf
    · rw [if_neg c]
      show upd (nmL fi nu pl i).1 i (nI (nmL fi nu pl i).2.2) q = _ ∧ upd (nmL fi nu pl i).2.1 (nmL fi nu pl i).2.2 (nI i) (cnF fi q) = _
      rw [nmL_n]
      rcases Nat.lt_succ_iff_lt_or_eq.mp h with d | d
      · obtain ⟨a, b⟩ := nmL_cn fi nu pl i q d hf
        have := cnF_lt hf d
        rw [pk_un (by omega), pk_un (by omega)]
        exact ⟨a, b⟩
      · subst d
        rw [pk_us, pk_us]
        exact ⟨rfl, rfl⟩
theorem ga_rg {ce fi ip se st sd sg gl : Nat → Int32} {be : Nat → Int64} {y : Nat} (C : Rc ce fi ip se) (T : Rt st sd be sg gl y) (hn : cnF fi 1600 ≤ 120) {g0 : GS} (G0 : GI sg gl fi g0 0) (nu pl : Nat → Int32) :
    (gaL ce sd st g0 1764).2.2.2 = cnF fi 1600 ∧ ∀ t k, t < cnF fi 1600 → k < 4 → (gaL ce sd st g0 1764).2.1 (t * 4 + k) = rgW sg gl fi (nmL fi nu pl 1600).2.1 (t * 4 + k) ∧ (rgW sg gl fi (nmL fi nu pl 1600).2.1 (t * 4 + k) ≠ 0 → (gaL ce sd st g0 1764).1 (t * 4 + k) = rgL (nmL fi nu pl 1600).2.1 (nmL fi nu pl 1600).1 (t * 4 + k)) := by
  have G := GI_all C T hn G0 1764 (Nat.le_refl _)
  rw [show lowP 1764 = 1600 from by decide] at G
  refine ⟨G.cn, fun t k ht hk => ?_⟩
  have ok := nmL_ok fi nu pl 1600
  rw [nmL_n] at ok
  obtain ⟨q, q1, q2, q3, q4⟩ := ok.1 t ht
  obtain ⟨c1, c2⟩ := nmL_cn fi nu pl 1600 q q1 q2
  have l1 := cnF_le fi q
  have e : cnF fi q = t := by
    rw [q4] at c1
    exact ((nI_eq (by omega) (by omega)).mp c1).symm
  have o := G.on q q1 q2 k hk
  rw [e] at o
  have pq : nn ((nmL fi nu pl 1600).2.1 t) = q := by rw [q3, nn_nI (by omega)]
  have hW : rgW sg gl fi (nmL fi nu pl 1600).2.1 (t * 4 + k) = if bsV q k < 0 then 0 else if fi (nn (bsV q k)) = 0 then 0 else heV sg gl fi q (nn (fi q)) k := by
    unfold rgW
    rw [rgQ_at hk, rgH_at hk, pq]
  rw [hW, rgL_at hk, pq]
  by_cases c : seen fi 1600 q k
  · obtain ⟨s1, s2, s3⟩ := c
    rw [if_neg s1, if_neg s3]
    obtain ⟨o1, o2⟩ := o.1 ⟨s1, s2, s3⟩
    exact ⟨o1, fun ne => by rw [o2 ne, (nmL_cn fi nu pl 1600 _ s2 s3).1]⟩
  · have z : (if bsV q k < 0 then (0 : Int32) else if fi (nn (bsV q k)) = 0 then 0 else heV sg gl fi q (nn (fi q)) k) = 0 := by
      by_cases s1 : bsV q k < 0
      · rw [if_pos s1]
      · rw [if_neg s1]
        by_cases s3 : fi (nn (bsV q k)) = 0
        · rw [if_pos s3]
        · exact absurd ⟨s1, (bsV_nn q1 s1).2, s3⟩ c
    rw [z]
    exact ⟨by rw [o.2 c, nI_0], fun ne => absurd rfl ne⟩
theorem rg_okGr {sg gl fi nu pl : Nat → Int32} {n : Nat} (hsg : ∀ i, i < 100 → sg i = nI (nn (sg i)) ∧ nn (sg i) ≤ 2) (hgl : okGl gl) (hfi : okFi fi) (hn : n ≤ 120) (h : okNm fi nu pl 1600 n) : okGr (rgL pl nu) (rgW sg gl fi pl) n := by
  refine ⟨fun i hi => ?_, fun t k ht hk hw => rg_lk hn h ht hk hw⟩
  have e : i = i / 4 * 4 + i % 4 := by omega
  have z : (0 : Int32) = nI (nn 0) ∧ nn (0 : Int32) ≤ 2 := ⟨by decide +kernel, by decide⟩
  obtain ⟨p1, p2⟩ := (okNm_pl h).1 (i / 4) (by omega)
  unfold rgW
  split
  · exact z
  · split
    · exact z
    · unfold rgH
      exact he_N hsg hgl (hfi _ p2).2 (by omega)
theorem cut_same {n : Nat} {c c' : Nat → Int} {L L' : Nat → Nat} (h : ∀ i, i < 4 * n → c i = c' i ∧ (c' i ≠ 0 → L i = L' i)) (S : Nat → Bool) : cut n c L S = cut n c' L' S := by
  have key : ∀ k, k ≤ 4 * n → smM (ctM c L S) c k = smM (ctM c' L' S) c' k := by
    intro k
    induction k with
    | zero => intro _; rfl
    | succ k ih =>
      intro hk
      obtain ⟨a, b⟩ := h k (by omega)
      have e : ctM c L S k = ctM c' L' S k := by
        by_cases q : c' k = 0
        · unfold ctM
          rw [a, q]
          simp
        · unfold ctM
          rw [a, b q]
      rw [smM, smM, ih (by omega), e, a]
  exact key _ (Nat.le_refl _)
theorem seam_core {sg gl fi pl' nu' : Nat → Int32} {n : Nat} (h2 : 2 ≤ n) (h12 : n ≤ 120) {g : GS} (g2 : ∀ t k, t < n → k < 4 → g.2.1 (t * 4 + k) = rgW sg gl fi pl' (t * 4 + k) ∧ (rgW sg gl fi pl' (t * 4 + k) ≠ 0 → g.1 (t * 4 + k) = rgL pl' nu' (t * 4 + k))) (R : okGr (rgL pl' nu') (rgW sg gl fi pl') n) (z z' : T3) :
    okLk g.1 g.2.1 n ∧ (weF g.1 g.2.1 n (n - 1) 1 8 z).1 = (reF (rgL pl' nu') (rgR sg gl fi pl') n (n - 1) 1 1000 z').1 := by
  have flat : ∀ i, i < 4 * n → g.2.1 i = rgW sg gl fi pl' i ∧ (rgW sg gl fi pl' i ≠ 0 → g.1 i = rgL pl' nu' i) := by
    intro i hi
    have := g2 (i / 4) (i % 4) (by omega) (by omega)
    rw [show i / 4 * 4 + i % 4 = i by omega] at this
    exact this
  have K : okGr g.1 g.2.1 n := by
    refine ⟨fun i hi => by rw [(flat i hi).1]; exact R.1 i hi, fun t k ht hk hw => ?_⟩
    obtain ⟨a1, a2⟩ := flat (t * 4 + k) (by omega)
    rw [a1] at hw ⊢
    obtain ⟨u, u1, u2, u3, u4⟩ := R.2 t k ht hk hw
    have hop := opp_lt k
    obtain ⟨b1, b2⟩ := flat (u * 4 + opp k) (by omega)
    exact ⟨u, u1, by rw [a2 hw]; exact u2, by rw [b2 (by rw [u4]; exact hw)]; exact u3, by rw [b1, u4]⟩
  refine ⟨okGr_lk K, ?_⟩
  have G := okGr_G R h12
  have cs : ∀ S, cut n (gC g.2.1) (gL g.1) S = cut n (gC (rgW sg gl fi pl')) (gL (rgL pl' nu')) S := cut_same (fun i hi => by
    obtain ⟨a, b⟩ := flat i hi
    refine ⟨by unfold gC; rw [a], fun q => ?_⟩
    unfold gL
    rw [b (toInt_0.mp q)])
  have A := weF_spec K h12 (n - 1) 1 8 z (Nat.le_refl _) (by omega) ⟨fun S ⟨u, u1, u2, _⟩ => by omega, Nat.le_refl _, Or.inl rfl⟩
  have B := reF_spec R h12 (n - 1) 1 1000 z' (Nat.le_refl _) (by omega) ⟨fun S ⟨_, u, u1, u2, _⟩ => by omega, Nat.le_refl _, Or.inl rfl⟩
  rw [show 1 + (n - 1) = n by omega] at A B
  have A' : Lc n (gC (rgW sg gl fi pl')) (gL (rgL pl' nu')) (weF g.1 g.2.1 n (n - 1) 1 8 z).1 8 (fun S => ∃ u, 1 ≤ u ∧ u < n ∧ S u = true ∧ ∀ v, v < u → S v = false) := by
    refine ⟨fun S hS => by rw [← cs S]; exact A.1 S hS, A.2.1, ?_⟩
    rcases A.2.2 with d | ⟨S, s1, s2, s3⟩
    · exact Or.inl d
    · exact Or.inr ⟨S, s1, s2, by rw [← cs S]; exact s3⟩
  refine Lc_uniq G h2 (okGr_c2 R) A' B (by decide) (by decide) (fun S s0 ⟨i, hi, si⟩ => ?_) (fun S s0 ⟨i, hi, si⟩ => ?_)
  · -- the least tile in S
    have least : ∀ m, (∃ i, i < m ∧ S i = true) → ∃ u, u < m ∧ S u = true ∧ ∀ v, v < u → S v = false := by
      intro m
      induction m with
      | zero => rintro ⟨i, h, _⟩; exact absurd h (Nat.not_lt_zero i)
      | succ m ih =>
        rintro ⟨i, h1, h2⟩
        by_cases c : ∃ i, i < m ∧ S i = true
        · obtain ⟨u, u1, u2, u3⟩ := ih c
          exact ⟨u, by omega, u2, u3⟩
        · have e : i = m := by
            rcases Nat.lt_succ_iff_lt_or_eq.mp h1 with d | d
            · exact absurd ⟨i, d, h2⟩ c
            · exact d
          refine ⟨m, by omega, by rw [← e]; exact h2, fun v hv => ?_⟩
          cases q : S v with
          | false => rfl
          | true => exact absurd ⟨v, hv, q⟩ c
    obtain ⟨u, u1, u2, u3⟩ := least _ ⟨i, hi, si⟩
    refine ⟨u, ?_, u1, u2, u3⟩
    rcases Nat.eq_zero_or_pos u with d | d
    · rw [d, s0] at u2; cases u2
    · exact d
  · refine ⟨s0, i, ?_, hi, si⟩
    rcases Nat.eq_zero_or_pos i with d | d
    · rw [d, s0] at si; cases si
    · exact d
theorem seam_val {ce fi ip se st sd sg gl : Nat → Int32} {be : Nat → Int64} {y : Nat} (C : Rc ce fi ip se) (T : Rt st sd be sg gl y) {n : Nat} (hn : n = cnF fi 1600) (h2 : 2 ≤ n) (h12 : n ≤ 120) {g0 : GS} (G0 : GI sg gl fi g0 0) (nu pl : Nat → Int32) (z z' : T3) :
    (gaL ce sd st g0 1764).2.2.2 = n ∧ okLk (gaL ce sd st g0 1764).1 (gaL ce sd st g0 1764).2.1 n ∧ (weF (gaL ce sd st g0 1764).1 (gaL ce sd st g0 1764).2.1 n (n - 1) 1 8 z).1 = (reF (rgL (nmL fi nu pl 1600).2.1 (nmL fi nu pl 1600).1) (rgR sg gl fi (nmL fi nu pl 1600).2.1) n (n - 1) 1 1000 z').1 := by
  obtain ⟨g1, g2⟩ := ga_rg C T (by rw [← hn]; exact h12) G0 nu pl
  have ok := nmL_ok fi nu pl 1600
  rw [nmL_n] at ok
  rw [← hn] at g1 g2 ok
  exact ⟨g1, seam_core h2 h12 g2 (rg_okGr T.sgN T.glN C.fiN h12 ok) z z'⟩
