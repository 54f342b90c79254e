theorem bl_filter : ∀ (f i v : Nat), bl f i v = (List.range' i f).filter (fun t => v.testBit (t - i))
  | 0, _, _ => rfl
  | f + 1, i, v => by
    have hb : v.testBit (i - i) = decide (v % 2 = 1) := by rw [Nat.sub_self]; exact Nat.testBit_zero v
    have hr : (List.range' (i + 1) f).filter (fun t => v.testBit (t - i)) = (List.range' (i + 1) f).filter (fun t => (v / 2).testBit (t - (i + 1))) := by
      refine List.filter_congr (fun t ht => ?_)
      rw [List.mem_range'_1] at ht
      rw [show t - i = (t - (i + 1)) + 1 by omega, Nat.testBit_add_one]
    rw [bl, List.range'_succ]
    by_cases c : v % 2 = 1
    · rw [if_pos c, List.filter_cons_of_pos (by rw [hb]; exact decide_eq_true c), hr, bl_filter f]
    · rw [if_neg c, List.filter_cons_of_neg (by rw [hb]; simpa using c), hr, bl_filter f]
theorem tyL_filter (v : Int64) : tyL v = (List.range' 1 64).filter (tb v) := bl_filter 64 1 (un v)
theorem frT_filter (sg gl fi : Nat → Int32) (te : Int32) (p : Nat) : ∀ n t, frT sg gl fi te p n t = ((List.range' t n).filter (fun t => !(myN sg gl fi te p t == 0))).map (fun t => (p, t))
  | 0, _ => rfl
  | n + 1, t => by
    rw [frT, List.range'_succ]
    by_cases c : myN sg gl fi te p t = 0
    · rw [if_pos c, List.filter_cons_of_neg (by simp [c]), frT_filter]
    · rw [if_neg c, List.filter_cons_of_pos (by simp [c]), List.map_cons, frT_filter]
theorem hbL_0 {sg gl fi : Nat → Int32} {p t : Nat} (hfi : okFi fi) (hp : p < 1600) (h : hnN fi p 4 = 0) : ∀ k, k ≤ 4 → hbL sg gl fi p t (nI 0) k = nI 0 := by
  have key : ∀ k, k < 4 → heV sg gl fi p t k = nI 0 := by
    have mono : ∀ j, hnN fi p (j + 1) = 0 → hnN fi p j = 0 ∧ (bsV p j < 0 ∨ fi (nn (bsV p j)) ≤ 0) := by
      intro j hj
      rw [hnN] at hj
      by_cases c1 : bsV p j < 0
      · rw [if_pos c1] at hj; exact ⟨hj, Or.inl c1⟩
      · rw [if_neg c1] at hj
        by_cases c2 : fi (nn (bsV p j)) ≤ 0
        · rw [if_pos c2] at hj; exact ⟨hj, Or.inr c2⟩
        · rw [if_neg c2] at hj
          exact absurd hj (by decide)
    have h3 := mono 3 h
    have h2 := mono 2 h3.1
    have h1 := mono 1 h2.1
    have h0 := mono 0 h1.1
    intro k hk
    have hc : bsV p k < 0 ∨ fi (nn (bsV p k)) ≤ 0 := by
      rcases (show k = 0 ∨ k = 1 ∨ k = 2 ∨ k = 3 by omega) with rfl | rfl | rfl | rfl
      · exact h0.2
      · exact h1.2
      · exact h2.2
      · exact h3.2
    unfold heV
    by_cases c1 : bsV p k < 0
    · rw [if_pos c1]
    · rw [if_neg c1, if_pos]
      have hq := bsV_nn hp c1
      have hf := hfi _ hq.2
      have hc := hc.resolve_left c1
      rw [hf.1, jn_le0 (by omega)] at hc
      rw [hf.1, hc]
      rfl
  intro k
  induction k with
  | zero => intro _; rfl
  | succ k ih =>
    intro hk
    rw [hbL, ih (by omega)]
    unfold hbS
    rw [key k (by omega)]
    split
    · rfl
    · rfl
theorem frP_T {sg gl fi : Nat → Int32} {y w p : Nat} (hfi : okFi fi) (hp : p < 1600) (w1 : 1 ≤ w) (w3 : w ≤ 3) : frP sg gl fi (nI w) y p = frT sg gl fi (nI w) p y 1 := by
  have z : (∀ t, myN sg gl fi (nI w) p t = 0) → frT sg gl fi (nI w) p y 1 = [] := by
    intro h
    rw [frT_filter]
    rw [List.filter_eq_nil_iff.mpr (fun t _ => by simp [h t])]
    rfl
  unfold frP
  split
  · rename_i c
    rw [z (fun t => by unfold myN; rw [if_neg (fun q => by rw [q] at c; exact absurd c (by decide))])]
  · split
    · rename_i c1 c2
      rw [z (fun t => by
        unfold myN
        split
        · rw [hbL_0 hfi hp c2 4 (Nat.le_refl _), if_pos (nI_lt (by omega) (by omega))]
        · rfl)]
    · rfl
theorem tyL_fr {ce fi ip se st sd sg gl : Nat → Int32} {be : Nat → Int64} {y w : Nat} (C : Rc ce fi ip se) (T : Rt st sd be sg gl y) (w1 : 1 ≤ w) (w3 : w ≤ 3) {p : Nat} (hp : p < 1600) : (tyL (raN ce sd st be (nI w) (pm p))).map (fun t => (p, t)) = frP sg gl fi (nI w) y p := by
  have hy := T.yN
  rw [frP_T C.fiN hp w1 w3, frT_filter, tyL_filter]
  congr 1
  have e : List.range' 1 64 = List.range' 1 y ++ List.range' (1 + y) (64 - y) := by
    rw [List.range'_append_1, show y + (64 - y) = 64 by omega]
  rw [e, List.filter_append]
  have e2 : (List.range' (1 + y) (64 - y)).filter (tb (raN ce sd st be (nI w) (pm p))) = [] := by
    refine List.filter_eq_nil_iff.mpr (fun t ht q => ?_)
    rw [List.mem_range'_1] at ht
    have := (open_may C T w1 w3 hp (show 1 ≤ t by omega) (show t ≤ 64 by omega)).mp q
    omega
  rw [e2, List.append_nil]
  refine List.filter_congr (fun t ht => ?_)
  rw [List.mem_range'_1] at ht
  have := open_may C T w1 w3 hp (show 1 ≤ t by omega) (show t ≤ 64 by omega)
  cases q : tb (raN ce sd st be (nI w) (pm p)) t with
  | true =>
    have := this.mp q
    simp [this.2]
  | false =>
    by_cases c : myN sg gl fi (nI w) p t = 0
    · simp [c]
    · exact absurd (this.mpr ⟨by omega, c⟩) (by rw [q]; decide)
def rwF (o : Nat → Int64) : Nat → Nat → List (Nat × Nat)
  | 0, _ => []
  | n + 1, q => (tyL (o q)).map (fun t => (q, t)) ++ rwF o n (q + 1)
def alF (o : Nat → Int64) : Nat → Nat → List (Nat × Nat)
  | 0, _ => []
  | n + 1, y => rwF o 40 (plN 0 y) ++ alF o n (y + 1)
theorem pnX_at {o : Nat → Int64} : ∀ (f q i : Nat), i < (rwF o (f + 1) q).length → i < 2 ^ 31 → ∃ q' i' t, pnX o f q (nI i) = (q', nI i') ∧ i' < 2 ^ 31 ∧ (tyL (o q'))[i']? = some t ∧ (rwF o (f + 1) q)[i]? = some (q', t) ∧ q ≤ q' ∧ q' ≤ q + f
  | 0, q, i, h, hb => by
    rw [rwF, rwF, List.append_nil] at h ⊢
    rw [List.length_map] at h
    refine ⟨q, i, (tyL (o q))[i], rfl, hb, List.getElem?_eq_getElem h, ?_, Nat.le_refl _, Nat.le_refl _⟩
    rw [List.getElem?_map, List.getElem?_eq_getElem h]
    rfl
  | f + 1, q, i, h, hb => by
    rw [rwF] at h ⊢
    have hl : (tyL (o q)).length ≤ 64 := lenT_le (o q)
    rw [List.length_append, List.length_map] at h
    rw [pnX, bcL_len]
    by_cases c : i < (tyL (o q)).length
    · rw [if_pos (nI_lt c (by omega))]
      refine ⟨q, i, (tyL (o q))[i], rfl, hb, List.getElem?_eq_getElem c, ?_, Nat.le_refl _, by omega⟩
      rw [List.getElem?_append_left (by rw [List.length_map]; exact c), List.getElem?_map, List.getElem?_eq_getElem c]
      rfl
    · rw [if_neg (nI_nlt (by omega) (by omega)), pk_sub (by omega)]
      obtain ⟨q', i', t, g1, g2, g3, g4, g5, g6⟩ := pnX_at (o := o) f (q + 1) (i - (tyL (o q)).length) (by omega) (by omega)
      refine ⟨q', i', t, g1, g2, g3, ?_, by omega, by omega⟩
      rw [List.getElem?_append_right (by rw [List.length_map]; omega), List.length_map]
      exact g4
theorem pnY_at {o : Nat → Int64} {rp : Nat → Int32} : ∀ (f y i : Nat), (∀ j, y ≤ j → j ≤ y + f → rp (j + 1) = nI (rwF o 40 (plN 0 j)).length ∧ (rwF o 40 (plN 0 j)).length < 2 ^ 31) → i < (alF o (f + 1) y).length → i < 2 ^ 31 → ∃ y' i', pnY rp f y (nI i) = (y', nI i') ∧ i' < (rwF o 40 (plN 0 y')).length ∧ i' < 2 ^ 31 ∧ (alF o (f + 1) y)[i]? = (rwF o 40 (plN 0 y'))[i']? ∧ y ≤ y' ∧ y' ≤ y + f
  | 0, y, i, hr, h, hb => by
    rw [alF, alF, List.append_nil] at h ⊢
    exact ⟨y, i, rfl, h, hb, rfl, Nat.le_refl _, Nat.le_refl _⟩
  | f + 1, y, i, hr, h, hb => by
    rw [alF] at h ⊢
    rw [List.length_append] at h
    obtain ⟨r1, r2⟩ := hr y (Nat.le_refl _) (by omega)
    rw [pnY, r1]
    by_cases c : i < (rwF o 40 (plN 0 y)).length
    · rw [if_pos (nI_lt c r2)]
      refine ⟨y, i, rfl, c, hb, ?_, Nat.le_refl _, by omega⟩
      rw [List.getElem?_append_left c]
    · rw [if_neg (nI_nlt (by omega) (by omega)), pk_sub (by omega)]
      obtain ⟨y', i', g1, g2, g3, g4, g5, g6⟩ := pnY_at (o := o) f (y + 1) (i - (rwF o 40 (plN 0 y)).length) (fun j h1 h2 => hr j (by omega) (by omega)) (by omega) (by omega)
      refine ⟨y', i', g1, g2, g3, ?_, by omega, by omega⟩
      rw [List.getElem?_append_right (by omega)]
      exact g4
theorem or_6 {q t : Nat} (hq : q < 2 ^ 24) (ht : t < 64) : (nI q <<< (nI 6 &&& 31)) ||| nI t = nI (q * 64 + t) := by
  rw [pk_shlN _ 6 (by decide +kernel) (by omega)]
  apply Int32.toBitVec_inj.mp
  apply BitVec.eq_of_toNat_eq
  rw [Int32.toBitVec_or, BitVec.toNat_or, pk_tn (by omega), pk_tn (by omega), pk_tn (by omega)]
  have := Nat.two_pow_add_eq_or_of_lt (i := 6) (b := t) ht q
  rw [show (2 : Nat) ^ 6 * q = q * 64 by omega, show q * 2 ^ 6 = q * 64 from rfl] at *
  exact this.symm
theorem prV_drop {o : Nat → Int64} {q i t : Nat} (hq : q < 2 ^ 24) (h : (tyL (o q))[i]? = some t) (ht4 : t < 64) : prV q (pnT i (o q)) = nI (q * 64 + t) ∧ 1 ≤ t ∧ t ≤ 64 ∧ tb (o q) t = true ∧ lsI (pnT i (o q)) = nI t := by
  have ht := List.mem_of_getElem? h
  have ht := tyL_mem.mp ht
  have hlt : i < (tyL (o q)).length := by
    rcases Nat.lt_or_ge i (tyL (o q)).length with d | d
    · exact d
    · rw [List.getElem?_eq_none d] at h
      cases h
  have hd : tyL (pnT i (o q)) = t :: (tyL (o q)).drop (i + 1) := by
    rw [tyL_pnT, List.drop_eq_getElem_cons hlt]
    congr 1
    rw [List.getElem?_eq_getElem hlt] at h
    exact Option.some.inj h
  have hs := lsI_head hd
  refine ⟨?_, ht.1, ht.2.1, ht.2.2, hs⟩
  show (nI q <<< (nI 6 &&& 31)) ||| lsI (pnT i (o q)) = _
  rw [hs]
  exact or_6 hq ht4
theorem smN_split (f : Nat → Nat) : ∀ n, smN f (n + 1) = f 0 + smN (fun i => f (i + 1)) n
  | 0 => by rw [smN, smN, smN]; omega
  | n + 1 => by rw [smN, smN_split f n, smN]; omega
theorem rwF_len {o : Nat → Int64} : ∀ (n q : Nat), (rwF o n q).length = smN (fun x => lenT (o (q + x))) n
  | 0, _ => rfl
  | n + 1, q => by
    rw [rwF, List.length_append, List.length_map, rwF_len n (q + 1), smN_split]
    congr 1
    exact smN_eq (fun i _ => by rw [show q + 1 + i = q + (i + 1) by omega])
theorem rowS_rw {o : Nat → Int64} (hw : ∀ q, q < 1764 → onW q → lenT (o q) = 0) {j : Nat} (hj : j < 40) : rowS o (j + 1) = (rwF o 40 (plN 0 j)).length := by
  rw [rwF_len]
  unfold rowS
  rw [show (42 : Nat) = 41 + 1 from rfl, smN, smN_split, hw (42 * (j + 1) + 0) (by omega) (by unfold onW; omega), hw (42 * (j + 1) + 41) (by omega) (by unfold onW; omega), Nat.zero_add, Nat.add_zero]
  refine smN_eq (fun i hi => ?_)
  show lenT (o (42 * (j + 1) + (i + 1))) = lenT (o (plN 0 j + i))
  rw [show 42 * (j + 1) + (i + 1) = plN 0 j + i by show _ = (j + 1) * 42 + 0 + 1 + i; omega]
theorem alF_len {o : Nat → Int64} : ∀ (n y : Nat), (alF o n y).length = smN (fun j => (rwF o 40 (plN 0 (y + j))).length) n
  | 0, _ => rfl
  | n + 1, y => by
    have e : smN (fun j => (rwF o 40 (plN 0 (y + 1 + j))).length) n = smN (fun j => (rwF o 40 (plN 0 (y + (j + 1)))).length) n := smN_eq (fun i _ => by
      show (rwF o 40 (plN 0 (y + 1 + i))).length = (rwF o 40 (plN 0 (y + (i + 1)))).length
      rw [show y + 1 + i = y + (i + 1) by omega])
    rw [alF, List.length_append, alF_len n (y + 1), smN_split, e]
theorem allS_al {o : Nat → Int64} (hw : ∀ q, q < 1764 → onW q → lenT (o q) = 0) : allS o = (alF o 40 0).length := by
  have z : ∀ r, r = 0 ∨ r = 41 → rowS o r = 0 := by
    intro r hr
    unfold rowS
    rw [smN_eq (g := fun _ => 0) (fun i hi => hw (42 * r + i) (by omega) (by unfold onW; omega))]
    have : ∀ n, smN (fun _ => 0) n = 0 := by
      intro n
      induction n with
      | zero => rfl
      | succ n ih => rw [smN, ih]
    exact this 42
  rw [alF_len]
  unfold allS
  rw [show (42 : Nat) = 41 + 1 from rfl, smN, smN_split, z 0 (Or.inl rfl), z 41 (Or.inr rfl), Nat.zero_add, Nat.add_zero]
  exact smN_eq (fun i hi => by rw [rowS_rw hw hi, Nat.zero_add])
theorem frL_app (sg gl fi : Nat → Int32) (te : Int32) (y : Nat) : ∀ (a b p : Nat), frL sg gl fi te y (a + b) p = frL sg gl fi te y a p ++ frL sg gl fi te y b (p + a)
  | 0, b, p => by rw [Nat.zero_add, frL, List.nil_append, Nat.add_zero]
  | a + 1, b, p => by
    rw [show a + 1 + b = (a + b) + 1 by omega, frL, frL, frL_app sg gl fi te y a b (p + 1), List.append_assoc, show p + 1 + a = p + (a + 1) by omega]
def pmq (x : Nat × Nat) : Nat × Nat := (pm x.1, x.2)
theorem fr_same {ce fi ip se st sd sg gl : Nat → Int32} {be : Nat → Int64} {y w : Nat} {o : Nat → Int64} (C : Rc ce fi ip se) (T : Rt st sd be sg gl y) (w1 : 1 ≤ w) (w3 : w ≤ 3) (ho : ∀ q, q < 1764 → o q = raN ce sd st be (nI w) q) : alF o 40 0 = (frL sg gl fi (nI w) y 1600 0).map pmq := by
  have row : ∀ (n x j : Nat), j < 40 → x + n ≤ 40 → rwF o n (plN 0 j + x) = (frL sg gl fi (nI w) y n (40 * j + x)).map pmq := by
    intro n
    induction n with
    | zero => intro x j _ _; rfl
    | succ n ih =>
      intro x j hj hx
      have e : plN 0 j + x = pm (40 * j + x) := by
        show (j + 1) * 42 + 0 + 1 + x = _
        unfold pm
        omega
      have hp := pm_in (show 40 * j + x < 1600 by omega)
      have := ih (x + 1) j hj (by omega)
      rw [rwF, frL, List.map_append, show plN 0 j + x + 1 = plN 0 j + (x + 1) by omega, this, show 40 * j + (x + 1) = 40 * j + x + 1 by omega]
      congr 1
      rw [← tyL_fr C T w1 w3 (show 40 * j + x < 1600 by omega), e, ho _ (by omega), List.map_map]
      rfl
  have all : ∀ (n j : Nat), j + n ≤ 40 → alF o n j = (frL sg gl fi (nI w) y (40 * n) (40 * j)).map pmq := by
    intro n
    induction n with
    | zero => intro j _; rfl
    | succ n ih =>
      intro j hj
      have := row 40 0 j (by omega) (by omega)
      rw [Nat.add_zero, Nat.add_zero] at this
      rw [alF, this, ih (j + 1) (by omega), show 40 * (n + 1) = 40 + 40 * n by omega, frL_app, List.map_append, show 40 * (j + 1) = 40 * j + 40 by omega]
  exact all 40 0 (by omega)
theorem wall_0 {ce fi ip se st sd : Nat → Int32} {be : Nat → Int64} {w : Nat} {o : Nat → Int64} (C : Rc ce fi ip se) (ho : ∀ q, q < 1764 → o q = raN ce sd st be (nI w) q) : ∀ q, q < 1764 → onW q → lenT (o q) = 0 := by
  intro q hq hw
  rw [ho q hq]
  unfold raN
  rw [C.wal q hq hw, if_neg (by decide +kernel)]
  decide +kernel
theorem frT_mem {sg gl fi : Nat → Int32} {te : Int32} {p : Nat} {n t : Nat} {x : Nat × Nat} (h : x ∈ frT sg gl fi te p n t) : x.1 = p ∧ t ≤ x.2 ∧ x.2 < t + n ∧ myN sg gl fi te p x.2 ≠ 0 := by
  rw [frT_filter, List.mem_map] at h
  obtain ⟨u, hu, rfl⟩ := h
  rw [List.mem_filter, List.mem_range'_1] at hu
  exact ⟨rfl, hu.1.1, hu.1.2, by simpa using hu.2⟩
theorem frL_mem {sg gl fi : Nat → Int32} {te : Int32} {y : Nat} {x : Nat × Nat} : ∀ {n p : Nat}, x ∈ frL sg gl fi te y n p → p ≤ x.1 ∧ x.1 < p + n ∧ 1 ≤ x.2 ∧ x.2 ≤ y ∧ myN sg gl fi te x.1 x.2 ≠ 0
  | 0, p, h => by cases h
  | n + 1, p, h => by
    rw [frL, List.mem_append] at h
    rcases h with h | h
    · unfold frP at h
      split at h
      · cases h
      · split at h
        · cases h
        · obtain ⟨h1, h2, h3, h4⟩ := frT_mem h
          exact ⟨by omega, by omega, h2, by omega, by rw [h1]; exact h4⟩
    · obtain ⟨h1, h2, h3⟩ := frL_mem h
      exact ⟨by omega, by omega, h3⟩
theorem pn_at {ce fi ip se st sd sg gl : Nat → Int32} {be : Nat → Int64} {y w : Nat} {r : (Nat → Int64) × (Nat → Int32) × Int32} (C : Rc ce fi ip se) (T : Rt st sd be sg gl y) (w1 : 1 ≤ w) (w3 : w ≤ 3) (O : Ro ce sd st be (nI w) r) {i : Nat} {x : Nat × Nat} (h : (frL sg gl fi (nI w) y 1600 0)[i]? = some x) : pnV r.1 r.2.1 (nI i) = nI (pm x.1 * 64 + x.2) ∧ x.1 < 1600 ∧ 1 ≤ x.2 ∧ x.2 ≤ y ∧ myN sg gl fi (nI w) x.1 x.2 ≠ 0 := by
  have hm := frL_mem (List.mem_of_getElem? h)
  have hy := T.yN
  have hf := fr_same C T w1 w3 O.op
  have hwl := wall_0 C O.op
  have hlen : i < (alF r.1 40 0).length := by
    rw [hf, List.length_map]
    rcases Nat.lt_or_ge i (frL sg gl fi (nI w) y 1600 0).length with d | d
    · exact d
    · rw [List.getElem?_eq_none d] at h
      cases h
  have hL := frL_len sg gl fi (nI w) hy 1600 0
  rw [hf, List.length_map] at hlen
  have hb : i < 2 ^ 31 := by omega
  have hrows : ∀ j, 0 ≤ j → j ≤ 0 + 39 → r.2.1 (j + 1) = nI (rwF r.1 40 (plN 0 j)).length ∧ (rwF r.1 40 (plN 0 j)).length < 2 ^ 31 := by
    intro j _ hj
    have := rowS_le r.1 (j + 1)
    rw [← rowS_rw hwl (by omega)]
    exact ⟨O.sm.1 (j + 1) (by omega), by omega⟩
  obtain ⟨y', i', a1, a2, a3, a4, a5, a6⟩ := pnY_at 39 0 i hrows (by rw [hf, List.length_map]; exact hlen) hb
  obtain ⟨q', i'', t, b1, b2, b3, b4, b5, b6⟩ := pnX_at (o := r.1) 39 (plN 0 y') i' a2 a3
  rw [hf, List.getElem?_map, h, b4] at a4
  have a4 : some (pmq x) = some (q', t) := a4
  have e := Option.some.inj a4
  have e1 : pm x.1 = q' := congrArg Prod.fst e
  have e2 : x.2 = t := congrArg Prod.snd e
  have hpm := pm_in (show x.1 < 1600 by omega)
  have pr := prV_drop (o := r.1) (q := q') (i := i'') (t := t) (by omega) b3 (by omega)
  refine ⟨?_, by omega, hm.2.2.1, hm.2.2.2.1, hm.2.2.2.2⟩
  unfold pnV
  rw [a1]
  dsimp only
  rw [b1]
  dsimp only
  rw [nn_nI b2, pr.1, e1, e2]
