def tb (v : Int64) (t : Nat) : Bool := (un v).testBit (t - 1)
theorem tyL_mem {v : Int64} {t : Nat} : t ∈ tyL v ↔ 1 ≤ t ∧ t ≤ 64 ∧ tb v t = true := by
  rw [bl_mem]
  constructor
  · rintro ⟨h1, h2, h3⟩
    exact ⟨h1, by omega, h3⟩
  · rintro ⟨h1, h2, h3⟩
    exact ⟨h1, by omega, h3⟩
theorem tb_or (a b : Int64) (t : Nat) : tb (a ||| b) t = (tb a t || tb b t) := by
  unfold tb
  rw [un_or, Nat.testBit_or]
theorem tb_and (a b : Int64) (t : Nat) : tb (a &&& b) t = (tb a t && tb b t) := by
  unfold tb
  rw [un_and, Nat.testBit_and]
theorem tb_0 (t : Nat) : tb 0 t = false := by
  unfold tb
  rw [show un (0 : Int64) = 0 from by decide +kernel, Nat.zero_testBit]
theorem un_only : ∀ u, u < 61 → 1 ≤ u → un ((1 : Int64) <<< ((nI u - nI 1).toInt64 &&& 63)) = 2 ^ (u - 1) := by decide +kernel
theorem tb_only {u t : Nat} (h1 : 1 ≤ u) (h2 : u ≤ 60) (h3 : 1 ≤ t) : tb ((1 : Int64) <<< ((nI u - nI 1).toInt64 &&& 63)) t = decide (t = u) := by
  unfold tb
  rw [un_only u (by omega) h1, Nat.testBit_two_pow]
  by_cases e : t = u
  · subst e
    simp
  · rw [decide_eq_false (by omega), decide_eq_false e]
def lv3 (b : Int64 × Int64 × Int64) (t s : Nat) : Prop := tb b.1 t = decide (1 ≤ s) ∧ tb b.2.1 t = decide (2 ≤ s) ∧ tb b.2.2 t = decide (3 ≤ s)
theorem lv3_H {b : Int64 × Int64 × Int64} {h : Int64} {t s : Nat} (H : lv3 b t s) : lv3 (fitH b h) t (s + (if tb h t = true then 1 else 0)) := by
  obtain ⟨h1, h2, h3⟩ := H
  unfold fitH lv3
  dsimp only
  rw [tb_or, tb_or, tb_or, tb_and, tb_and, h1, h2, h3]
  cases tb h t
  · simp
  · refine ⟨?_, ?_, ?_⟩
    · simp
    · simp only [Bool.and_true, if_true, ← Bool.decide_or]
      exact decide_eq_decide.mpr (by omega)
    · simp only [Bool.and_true, if_true, ← Bool.decide_or]
      exact decide_eq_decide.mpr (by omega)
theorem lv3_R {h : Int64} {t : Nat} : ∀ (n : Nat) (b : Int64 × Int64 × Int64) (s : Nat), lv3 b t s → lv3 (fitR h n b) t (s + (if tb h t = true then n else 0))
  | 0, b, s, H => by
    rw [fitR]
    cases tb h t <;> exact H
  | n + 1, b, s, H => by
    rw [fitR]
    have := lv3_R (h := h) n (fitH b h) _ (lv3_H (h := h) H)
    cases q : tb h t
    · rw [q] at this
      exact this
    · rw [q] at this
      rw [if_pos rfl, if_pos rfl, Nat.add_assoc, Nat.add_comm 1 n] at this
      rw [if_pos rfl]
      exact this
def fsN (ce sd st : Nat → Int32) (be : Nat → Int64) (p t k : Nat) : Nat :=
  if tyN (ce (nb p k)) = 0 then 0 else if tb (be (nn (sd (tyN (ce (nb p k)) * 4 + opp k)) * 4 + k)) t = true then nn (st (nn (sd (tyN (ce (nb p k)) * 4 + opp k)))) else 0
def fsS (ce sd st : Nat → Int32) (be : Nat → Int64) (p : Nat) (mask : Int32) (t : Nat) : Nat → Nat
  | 0 => 0
  | k + 1 => fsS ce sd st be p mask t k + (if (mask >>> (nI k &&& 31)) &&& nI 1 = 0 then 0 else fsN ce sd st be p t k)
theorem lv3_L (ce sd st : Nat → Int32) (be : Nat → Int64) (p : Nat) (mask : Int32) (t : Nat) : ∀ k, lv3 (fitL ce sd st be p mask k) t (fsS ce sd st be p mask t k)
  | 0 => ⟨tb_0 t, tb_0 t, tb_0 t⟩
  | k + 1 => by
    have ih := lv3_L ce sd st be p mask t k
    rw [fitL, fsS]
    unfold fitS fsN
    by_cases c1 : tyN (ce (nb p k)) = 0
    · rw [if_pos (Or.inl c1), if_pos c1]
      by_cases c2 : (mask >>> (nI k &&& 31)) &&& nI 1 = 0
      · rw [if_pos c2]; exact ih
      · rw [if_neg c2]; exact ih
    · by_cases c2 : (mask >>> (nI k &&& 31)) &&& nI 1 = 0
      · rw [if_pos (Or.inr c2), if_pos c2]; exact ih
      · rw [if_neg (fun h => h.elim c1 c2), if_neg c2, if_neg c1]
        exact lv3_R _ _ _ ih
theorem tb_fit {ce sd st : Nat → Int32} {be : Nat → Int64} {w p t : Nat} {mask : Int32} (h1 : 1 ≤ w) (h3 : w ≤ 3) : tb (fitV ce sd st be (nI w) p mask) t = decide (w ≤ fsS ce sd st be p mask t 4) := by
  obtain ⟨a, b, c⟩ := lv3_L ce sd st be p mask t 4
  unfold fitV fitO
  rcases (show w = 1 ∨ w = 2 ∨ w = 3 by omega) with rfl | rfl | rfl
  · rw [if_pos rfl]; exact a
  · rw [if_neg (by decide +kernel), if_pos rfl]; exact b
  · rw [if_neg (by decide +kernel), if_neg (by decide +kernel)]; exact c
def pm (p : Nat) : Nat := (p / 40 + 1) * 42 + p % 40 + 1
def onW (q : Nat) : Prop := q < 42 ∨ 1722 ≤ q ∨ q % 42 = 0 ∨ q % 42 = 41
theorem pm_in {p : Nat} (h : p < 1600) : 43 ≤ pm p ∧ pm p ≤ 1720 ∧ 1 ≤ pm p % 42 ∧ pm p % 42 ≤ 40 ∧ pm p / 42 = p / 40 + 1 ∧ pm p % 42 = p % 40 + 1 := by
  unfold pm
  omega
theorem pm_inj {p q : Nat} (h : pm p = pm q) : p = q := by
  unfold pm at h
  omega
theorem pm_not {p : Nat} (h : p < 1600) : ¬ onW (pm p) := by
  have := pm_in h
  unfold onW
  omega
theorem pm_of {q : Nat} (hq : q < 1764) (h : ¬ onW q) : ∃ p, p < 1600 ∧ q = pm p := by
  unfold onW at h
  refine ⟨40 * (q / 42 - 1) + (q % 42 - 1), by omega, ?_⟩
  unfold pm
  omega
theorem nbm_lt {p k : Nat} (hp : p < 1600) : nb (pm p) k < 1764 := by
  have := pm_in hp
  unfold nb
  split <;> omega
theorem nb_in {p k : Nat} (hp : p < 1600) (hk : k < 4) (h : ¬ bsV p k < 0) : nb (pm p) k = pm (nn (bsV p k)) := by
  have g : ∀ (c : Prop) [Decidable c] (q r : Nat), q < 1600 → (c → r = pm q) → ¬ (if c then nI q else -1) < 0 → r = pm (nn (if c then nI q else -1)) := by
    intro c _ q r hq hr h
    by_cases e : c
    · rw [if_pos e, nn_nI (by omega)]
      exact hr e
    · rw [if_neg e] at h
      exact absurd m1_lt h
  rcases (show k = 0 ∨ k = 1 ∨ k = 2 ∨ k = 3 by omega) with rfl | rfl | rfl | rfl
  · by_cases e : p < 1560
    · show pm p + 42 = pm (nn (if p < 1560 then nI (p + 40) else -1))
      rw [if_pos e, nn_nI (by omega)]
      unfold pm
      omega
    · exact absurd (show bsV p 0 < 0 from by show (if p < 1560 then nI (p + 40) else -1) < 0; rw [if_neg e]; exact m1_lt) h
  · by_cases e : p % 40 < 39
    · show pm p + 1 = pm (nn (if p % 40 < 39 then nI (p + 1) else -1))
      rw [if_pos e, nn_nI (by omega)]
      unfold pm
      omega
    · exact absurd (show bsV p 1 < 0 from by show (if p % 40 < 39 then nI (p + 1) else -1) < 0; rw [if_neg e]; exact m1_lt) h
  · by_cases e : 40 ≤ p
    · show pm p - 42 = pm (nn (if 40 ≤ p then nI (p - 40) else -1))
      rw [if_pos e, nn_nI (by omega)]
      unfold pm
      omega
    · exact absurd (show bsV p 2 < 0 from by show (if 40 ≤ p then nI (p - 40) else -1) < 0; rw [if_neg e]; exact m1_lt) h
  · by_cases e : 1 ≤ p % 40
    · show pm p - 1 = pm (nn (if 1 ≤ p % 40 then nI (p - 1) else -1))
      rw [if_pos e, nn_nI (by omega)]
      unfold pm
      omega
    · exact absurd (show bsV p 3 < 0 from by show (if 1 ≤ p % 40 then nI (p - 1) else -1) < 0; rw [if_neg e]; exact m1_lt) h
theorem nb_out {p k : Nat} (hp : p < 1600) (hk : k < 4) (h : bsV p k < 0) : onW (nb (pm p) k) := by
  have hl : ∀ q, q < 1600 → ¬ nI q < 0 := fun q hq => nI_pos (by omega)
  rcases (show k = 0 ∨ k = 1 ∨ k = 2 ∨ k = 3 by omega) with rfl | rfl | rfl | rfl
  · by_cases e : p < 1560
    · exact absurd h (by show ¬ (if p < 1560 then nI (p + 40) else -1) < 0; rw [if_pos e]; exact hl _ (by omega))
    · show onW (pm p + 42)
      unfold onW pm
      omega
  · by_cases e : p % 40 < 39
    · exact absurd h (by show ¬ (if p % 40 < 39 then nI (p + 1) else -1) < 0; rw [if_pos e]; exact hl _ (by omega))
    · show onW (pm p + 1)
      unfold onW pm
      omega
  · by_cases e : 40 ≤ p
    · exact absurd h (by show ¬ (if 40 ≤ p then nI (p - 40) else -1) < 0; rw [if_pos e]; exact hl _ (by omega))
    · show onW (pm p - 42)
      unfold onW pm
      omega
  · by_cases e : 1 ≤ p % 40
    · exact absurd h (by show ¬ (if 1 ≤ p % 40 then nI (p - 1) else -1) < 0; rw [if_pos e]; exact hl _ (by omega))
    · show onW (pm p - 1)
      unfold onW pm
      omega
def clV (f i s : Int32) : Int32 := if f = 0 then 0 else nI (nn f + 64 * nn i + 1024 * nn s)
abbrev Rc (ce fi ip se : Nat → Int32) : Prop := (∀ p, p < 1600 → ce (pm p) = clV (fi p) (ip p) (se p)) ∧ (∀ q, q < 1764 → onW q → ce q = nI 2048) ∧ (okFi fi) ∧ (∀ p, p < 1600 → fi p ≠ 0 → ip p = nI (nn (ip p)) ∧ nn (ip p) < 16) ∧ (∀ p, p < 1600 → fi p ≠ 0 → se p = nI (nn (se p)) ∧ nn (se p) ≤ 1)
theorem Rc.inn {ce fi ip se : Nat → Int32} (h9 : Rc ce fi ip se) : ∀ p, p < 1600 → ce (pm p) = clV (fi p) (ip p) (se p) := h9.1
theorem Rc.wal {ce fi ip se : Nat → Int32} (h9 : Rc ce fi ip se) : ∀ q, q < 1764 → onW q → ce q = nI 2048 := h9.2.1
theorem Rc.fiN {ce fi ip se : Nat → Int32} (h9 : Rc ce fi ip se) : okFi fi := h9.2.2.1
theorem Rc.ipN {ce fi ip se : Nat → Int32} (h9 : Rc ce fi ip se) : ∀ p, p < 1600 → fi p ≠ 0 → ip p = nI (nn (ip p)) ∧ nn (ip p) < 16 := h9.2.2.2.1
theorem Rc.seN {ce fi ip se : Nat → Int32} (h9 : Rc ce fi ip se) : ∀ p, p < 1600 → fi p ≠ 0 → se p = nI (nn (se p)) ∧ nn (se p) ≤ 1 := h9.2.2.2.2
theorem tyN_nI {n : Nat} (h : n < 2 ^ 32) : tyN (nI n) = n % 64 := by
  unfold tyN
  rw [pk_tn h]
theorem inN_nI {n : Nat} (h : n < 2 ^ 31) : inN (nI n) = n / 64 % 16 := by
  unfold inN
  rw [pk_shrN h _ 6 (by decide +kernel), pk_tn (by omega)]
theorem sdN_nI {n : Nat} (h : n < 2 ^ 31) : sdN (nI n) = n / 1024 % 2 := by
  have e : nI n &&& nI 1024 = nI (1024 * (n / 1024 % 2)) := by
    apply Int32.toBitVec_inj.mp
    apply BitVec.eq_of_toNat_eq
    rw [Int32.toBitVec_and, BitVec.toNat_and, pk_tn (by omega), pk_tn (by decide), pk_tn (by omega)]
    have hb : n.testBit 10 = decide (n / 1024 % 2 = 1) := Nat.testBit_eq_decide_div_mod_eq
    apply Nat.eq_of_testBit_eq
    intro i
    rw [Nat.testBit_and, show (1024 : Nat).testBit i = decide (10 = i) from Nat.testBit_two_pow (n := 10)]
    rcases Nat.mod_two_eq_zero_or_one (n / 1024) with q | q
    · rw [q, Nat.mul_zero, Nat.zero_testBit]
      by_cases c : 10 = i
      · subst c
        rw [hb, q]
        rfl
      · rw [decide_eq_false c, Bool.and_false]
    · rw [q, Nat.mul_one, show (1024 : Nat).testBit i = decide (10 = i) from Nat.testBit_two_pow (n := 10)]
      by_cases c : 10 = i
      · subst c
        rw [hb, q]
        rfl
      · rw [decide_eq_false c, Bool.and_false]
  unfold sdN
  rw [e]
  rcases Nat.mod_two_eq_zero_or_one (n / 1024) with q | q
  · rw [q]; rfl
  · rw [q, if_neg (by decide +kernel)]
theorem Rc_ty {ce fi ip se : Nat → Int32} (h : Rc ce fi ip se) {p : Nat} (hp : p < 1600) : tyN (ce (pm p)) = nn (fi p) := by
  have hf := h.fiN p hp
  rw [h.inn p hp]
  unfold clV
  by_cases e : fi p = 0
  · rw [if_pos e, e]; decide +kernel
  · have := h.ipN p hp e
    have := h.seN p hp e
    rw [if_neg e, tyN_nI (by omega)]
    omega
theorem Rc_in {ce fi ip se : Nat → Int32} (h : Rc ce fi ip se) {p : Nat} (hp : p < 1600) (e : fi p ≠ 0) : inN (ce (pm p)) = nn (ip p) ∧ sdN (ce (pm p)) = nn (se p) := by
  have hf := h.fiN p hp
  have := h.ipN p hp e
  have := h.seN p hp e
  rw [h.inn p hp]
  unfold clV
  rw [if_neg e, inN_nI (by omega), sdN_nI (by omega)]
  omega
theorem Rc_0 {ce fi ip se : Nat → Int32} (h : Rc ce fi ip se) {p : Nat} (hp : p < 1600) : (ce (pm p) = 0 ↔ fi p = 0) ∧ (fi p = 0 ↔ nn (fi p) = 0) := by
  have hf := h.fiN p hp
  have h2 : fi p = 0 ↔ nn (fi p) = 0 := by
    constructor
    · intro e; rw [e]; decide
    · intro e; rw [hf.1, e]; rfl
  refine ⟨?_, h2⟩
  rw [h.inn p hp]
  unfold clV
  by_cases e : fi p = 0
  · rw [if_pos e]; exact ⟨fun _ => e, fun _ => rfl⟩
  · rw [if_neg e]
    have := h.ipN p hp e
    have := h.seN p hp e
    refine ⟨fun q => absurd q (nI_ne0 ?_ (by omega)), fun q => absurd q e⟩
    have : nn (fi p) ≠ 0 := fun z => e (h2.mpr z)
    omega
abbrev Rt (st sd : Nat → Int32) (be : Nat → Int64) (sg gl : Nat → Int32) (y : Nat) : Prop := (∀ i, i < 100 → st i = sg i) ∧ (∀ i, i < 244 → sd i = gl i) ∧ (∀ i, i < 100 → sg i = nI (nn (sg i)) ∧ nn (sg i) ≤ 2) ∧ (sg 0 = nI 0) ∧ (okGl gl) ∧ (∀ k, k < 4 → gl k = nI 0) ∧ (y ≤ 60) ∧ (∀ g k t, g < 100 → k < 4 → 1 ≤ t → t ≤ 64 → (tb (be (g * 4 + k)) t = true ↔ t ≤ y ∧ nn (gl (4 * t + k)) = g))
theorem Rt.st {st sd : Nat → Int32} {be : Nat → Int64} {sg gl : Nat → Int32} {y : Nat} (h9 : Rt st sd be sg gl y) : ∀ i, i < 100 → st i = sg i := h9.1
theorem Rt.sd {st sd : Nat → Int32} {be : Nat → Int64} {sg gl : Nat → Int32} {y : Nat} (h9 : Rt st sd be sg gl y) : ∀ i, i < 244 → sd i = gl i := h9.2.1
theorem Rt.sgN {st sd : Nat → Int32} {be : Nat → Int64} {sg gl : Nat → Int32} {y : Nat} (h9 : Rt st sd be sg gl y) : ∀ i, i < 100 → sg i = nI (nn (sg i)) ∧ nn (sg i) ≤ 2 := h9.2.2.1
theorem Rt.sg0 {st sd : Nat → Int32} {be : Nat → Int64} {sg gl : Nat → Int32} {y : Nat} (h9 : Rt st sd be sg gl y) : sg 0 = nI 0 := h9.2.2.2.1
theorem Rt.glN {st sd : Nat → Int32} {be : Nat → Int64} {sg gl : Nat → Int32} {y : Nat} (h9 : Rt st sd be sg gl y) : okGl gl := h9.2.2.2.2.1
theorem Rt.gl0 {st sd : Nat → Int32} {be : Nat → Int64} {sg gl : Nat → Int32} {y : Nat} (h9 : Rt st sd be sg gl y) : ∀ k, k < 4 → gl k = nI 0 := h9.2.2.2.2.2.1
theorem Rt.yN {st sd : Nat → Int32} {be : Nat → Int64} {sg gl : Nat → Int32} {y : Nat} (h9 : Rt st sd be sg gl y) : y ≤ 60 := h9.2.2.2.2.2.2.1
theorem Rt.be {st sd : Nat → Int32} {be : Nat → Int64} {sg gl : Nat → Int32} {y : Nat} (h9 : Rt st sd be sg gl y) : ∀ g k t, g < 100 → k < 4 → 1 ≤ t → t ≤ 64 → (tb (be (g * 4 + k)) t = true ↔ t ≤ y ∧ nn (gl (4 * t + k)) = g) := h9.2.2.2.2.2.2.2
theorem opp_mod {k : Nat} (h : k < 4) : (k + 2) % 4 = opp k := by
  rcases (show k = 0 ∨ k = 1 ∨ k = 2 ∨ k = 3 by omega) with rfl | rfl | rfl | rfl <;> rfl
theorem okGl_le {gl : Nat → Int32} (h : okGl gl) {i : Nat} (hi : i < 244) : gl i ≤ 0 ↔ nn (gl i) = 0 := by
  obtain ⟨a, b⟩ := h i hi
  constructor
  · intro q
    rw [a, jn_le0 (by omega)] at q
    exact q
  · intro q
    rw [a, q, nI_0]
    decide
theorem fsN_he {ce fi ip se st sd sg gl : Nat → Int32} {be : Nat → Int64} {y : Nat} (C : Rc ce fi ip se) (T : Rt st sd be sg gl y) {p t k : Nat} (hp : p < 1600) (ht : 1 ≤ t) (hty : t ≤ y) (hk : k < 4) : heV sg gl fi p t k = nI (fsN ce sd st be (pm p) t k) ∧ fsN ce sd st be (pm p) t k ≤ 2 := by
  have hy := T.yN
  unfold heV fsN
  by_cases c1 : bsV p k < 0
  · rw [if_pos c1, C.wal _ (nbm_lt hp) (nb_out hp hk c1), if_pos (by decide +kernel)]
    exact ⟨rfl, by decide⟩
  · have hq := bsV_nn hp c1
    rw [if_neg c1, nb_in hp hk c1, Rc_ty C hq.2]
    by_cases c2 : fi (nn (bsV p k)) = 0
    · rw [if_pos c2, if_pos ((Rc_0 C hq.2).2.mp c2)]
      exact ⟨rfl, by decide⟩
    · have hf := C.fiN _ hq.2
      rw [if_neg c2, if_neg (fun z => c2 ((Rc_0 C hq.2).2.mpr z))]
      generalize hF : nn (fi (nn (bsV p k))) = F at hf ⊢
      have hopp := opp_lt k
      rw [T.sd (F * 4 + opp k) (by omega), opp_mod hk]
      obtain ⟨g1, g2⟩ := T.glN (F * 4 + opp k) (by omega)
      obtain ⟨o1, o2⟩ := T.glN (4 * t + k) (by omega)
      have hb := T.be (nn (gl (F * 4 + opp k))) k t g2 hk ht (by omega)
      rw [Nat.mul_comm 4 F, T.st _ g2]
      by_cases c3 : gl (4 * t + k) ≤ 0
      · rw [if_pos c3]
        have z := (okGl_le T.glN (by omega)).mp c3
        by_cases c4 : tb (be (nn (gl (F * 4 + opp k)) * 4 + k)) t = true
        · rw [if_pos c4, ← (hb.mp c4).2, z, T.sg0, nn_nI (by decide)]
          exact ⟨rfl, by decide⟩
        · rw [if_neg c4]
          exact ⟨rfl, by decide⟩
      · rw [if_neg c3]
        by_cases c4 : gl (4 * t + k) = gl (F * 4 + opp k)
        · rw [if_pos c4, if_pos (hb.mpr ⟨hty, by rw [c4]⟩), c4]
          exact ⟨(T.sgN _ g2).1, (T.sgN _ g2).2⟩
        · rw [if_neg c4, if_neg (fun q => c4 (by rw [o1, g1, (hb.mp q).2]))]
          exact ⟨rfl, by decide⟩
theorem hbL_fs {ce fi ip se st sd sg gl : Nat → Int32} {be : Nat → Int64} {y : Nat} (C : Rc ce fi ip se) (T : Rt st sd be sg gl y) {p t : Nat} {mask w : Int32} (hp : p < 1600) (ht : 1 ≤ t) (hty : t ≤ y) (hm : ∀ k, k < 4 → ((mask >>> (nI k &&& 31)) &&& nI 1 = 0 ↔ ¬ (w >>> (nI k &&& 31)) &&& nI 1 = 0)) :
    ∀ k, k ≤ 4 → hbL sg gl fi p t w k = nI (fsS ce sd st be (pm p) mask t k) ∧ fsS ce sd st be (pm p) mask t k ≤ 2 * k
  | 0, _ => ⟨rfl, Nat.le_refl _⟩
  | k + 1, h => by
    obtain ⟨a, b⟩ := hbL_fs C T hp ht hty hm k (by omega)
    obtain ⟨e, f⟩ := fsN_he C T hp ht hty (show k < 4 by omega)
    rw [hbL, fsS]
    unfold hbS
    by_cases c : (w >>> (nI k &&& 31)) &&& nI 1 = 0
    · rw [if_pos c, if_neg (fun q => (hm k (by omega)).mp q c), a, e, nI_add]
      exact ⟨rfl, by omega⟩
    · rw [if_neg c, if_pos ((hm k (by omega)).mpr c), a]
      exact ⟨rfl, by omega⟩
theorem open_may {ce fi ip se st sd sg gl : Nat → Int32} {be : Nat → Int64} {y w : Nat} (C : Rc ce fi ip se) (T : Rt st sd be sg gl y) (w1 : 1 ≤ w) (w3 : w ≤ 3) {p t : Nat} (hp : p < 1600) (ht : 1 ≤ t) (ht6 : t ≤ 64) : tb (raN ce sd st be (nI w) (pm p)) t = true ↔ t ≤ y ∧ myN sg gl fi (nI w) p t ≠ 0 := by
  have hm : ∀ k, k < 4 → ((nI 15 >>> (nI k &&& 31)) &&& nI 1 = 0 ↔ ¬ (nI 0 >>> (nI k &&& 31)) &&& nI 1 = 0) := by
    have : ∀ k, k < 4 → ¬ (nI 15 >>> (nI k &&& 31)) &&& nI 1 = 0 ∧ (nI 0 >>> (nI k &&& 31)) &&& nI 1 = 0 := by decide +kernel
    exact fun k hk => ⟨fun q => absurd q (this k hk).1, fun q => absurd (this k hk).2 q⟩
  unfold raN myN
  by_cases c : fi p = 0
  · rw [if_pos ((Rc_0 C hp).1.mpr c), if_pos c, tb_fit w1 w3, decide_eq_true_eq]
    by_cases hty : t ≤ y
    · obtain ⟨a, b⟩ := hbL_fs C T (mask := nI 15) (w := nI 0) hp ht hty hm 4 (Nat.le_refl _)
      rw [a]
      constructor
      · intro q
        refine ⟨hty, ?_⟩
        rw [if_neg (fun z => absurd ((nI_ltI (by omega) (by omega)).mp z) (by omega))]
        decide
      · rintro ⟨-, q⟩
        by_cases z : nI (fsS ce sd st be (pm p) (nI 15) t 4) < nI w
        · rw [if_pos z] at q
          exact absurd rfl q
        · rw [nI_ltI (by omega) (by omega)] at z
          omega
    · have z : ∀ k, k ≤ 4 → fsS ce sd st be (pm p) (nI 15) t k = 0 := by
        intro k
        induction k with
        | zero => intro _; rfl
        | succ k ih =>
          intro hk
          rw [fsS, ih (by omega), Nat.zero_add]
          split
          · rfl
          · unfold fsN
            split
            · rfl
            · split
              · rename_i q2 q3
                have hq : nn (sd (tyN (ce (nb (pm p) k)) * 4 + opp k)) < 100 := by
                  have hopp := opp_lt k
                  by_cases c1 : bsV p k < 0
                  · exfalso
                    rw [C.wal _ (nbm_lt hp) (nb_out hp (by omega) c1)] at q2
                    exact q2 (by decide +kernel)
                  · have hq := bsV_nn hp c1
                    rw [nb_in hp (by omega) c1, Rc_ty C hq.2]
                    have := C.fiN _ hq.2
                    rw [T.sd _ (by omega)]
                    exact (T.glN _ (by omega)).2
                exact absurd ((T.be _ k t hq (by omega) ht ht6).mp q3).1 hty
              · rfl
      rw [z 4 (Nat.le_refl _)]
      exact ⟨fun q => by omega, fun q => absurd q.1 hty⟩
  · rw [if_neg (fun q => c ((Rc_0 C hp).1.mp q)), if_neg c, tb_0]
    exact ⟨fun q => (by cases q), fun q => absurd rfl q.2⟩
