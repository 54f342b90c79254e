def pop : Nat → Nat → Nat
  | 0, _ => 0
  | f + 1, v => v % 2 + pop f (v / 2)
def mkM (c : Nat) : Nat → Nat
  | 0 => 0
  | k + 1 => 256 * mkM c k + c
theorem mkM_s (c k : Nat) : mkM c (k + 1) = 256 * mkM c k + c := rfl
theorem and_bytes {a b c d : Nat} (ha : a < 256) (hc : c < 256) : (256 * b + a) &&& (256 * d + c) = 256 * (b &&& d) + (a &&& c) := by
  have h8 : (256 : Nat) = 2 ^ 8 := by decide
  apply Nat.eq_of_testBit_eq
  intro i
  rw [Nat.testBit_and, h8, Nat.testBit_two_pow_mul_add _ (by rw [← h8]; exact ha), Nat.testBit_two_pow_mul_add _ (by rw [← h8]; exact hc), Nat.testBit_two_pow_mul_add _ (Nat.and_lt_two_pow _ (by rw [← h8]; exact hc))]
  split
  · rw [Nat.testBit_and]
  · rw [Nat.testBit_and]
def nb1 (k n : Nat) : Nat := n - ((n / 2) &&& mkM 85 k)
def nb2 (k n : Nat) : Nat := (n &&& mkM 51 k) + ((n / 4) &&& mkM 51 k)
def nb3 (k n : Nat) : Nat := (n + n / 16) &&& mkM 15 k
def by1 (b : Nat) : Nat := b - ((b / 2) &&& 85)
def by2 (b : Nat) : Nat := (b &&& 51) + ((b / 4) &&& 51)
theorem nb1_s {k b m : Nat} (hb : b < 256) : nb1 (k + 1) (256 * m + b) = 256 * nb1 k m + by1 b := by
  unfold nb1 by1
  rw [mkM_s]
  have e : (256 * m + b) / 2 = 256 * (m / 2) + (128 * (m % 2) + b / 2) := by omega
  have h2 : ∀ x, x < 2 → ∀ b, b < 256 → (128 * x + b / 2) &&& 85 = (b / 2) &&& 85 := by decide +kernel
  rw [e, and_bytes (by omega) (by omega), h2 _ (by omega) _ hb]
  have h3 : (b / 2) &&& 85 ≤ b / 2 := Nat.and_le_left
  have h4 : (m / 2) &&& mkM 85 k ≤ m / 2 := Nat.and_le_left
  omega
theorem nb2_s {k b m : Nat} (hb : b < 256) : nb2 (k + 1) (256 * m + b) = 256 * nb2 k m + by2 b := by
  unfold nb2 by2
  rw [mkM_s]
  have e : (256 * m + b) / 4 = 256 * (m / 4) + (64 * (m % 4) + b / 4) := by omega
  have h2 : ∀ x, x < 4 → ∀ b, b < 256 → (64 * x + b / 4) &&& 51 = (b / 4) &&& 51 := by decide +kernel
  rw [and_bytes hb (by omega), e, and_bytes (by omega) (by omega), h2 _ (by omega) _ hb]
  omega
theorem nb2_16 (k m : Nat) : nb2 k m % 16 ≤ 6 := by
  have h : ∀ x, (x &&& mkM 51 k) % 16 ≤ 3 := by
    intro x
    have := Nat.and_mod_two_pow (a := x) (b := mkM 51 k) (n := 4)
    rw [show (2 : Nat) ^ 4 = 16 from rfl] at this
    rw [this]
    refine Nat.le_trans Nat.and_le_right ?_
    cases k with
    | zero => decide
    | succ k => rw [mkM_s]; omega
  have h1 := h m
  have h2 := h (m / 4)
  unfold nb2
  omega
theorem nb3_s {k b m : Nat} (hb : b ≤ 102) (hm : m % 16 ≤ 6) : nb3 (k + 1) (256 * m + b) = 256 * nb3 k m + ((b + b / 16) % 16) := by
  unfold nb3
  rw [mkM_s]
  have e : 256 * m + b + (256 * m + b) / 16 = 256 * (m + m / 16) + (16 * (m % 16) + (b + b / 16)) := by omega
  have h2 : ∀ x, x < 7 → ∀ b, b < 103 → (16 * x + (b + b / 16)) &&& 15 = (b + b / 16) % 16 := by decide +kernel
  rw [e, and_bytes (by omega) (by omega), h2 _ (by omega) _ (by omega)]
theorem by_pop : ∀ b, b < 256 → by1 b < 256 ∧ by2 (by1 b) ≤ 102 ∧ (by2 (by1 b) + by2 (by1 b) / 16) % 16 = pop 8 b := by decide +kernel
def nbP : Nat → Nat → Nat
  | 0, _ => 0
  | k + 1, n => 256 * nbP k (n / 256) + pop 8 (n % 256)
theorem nb_all : ∀ (k n : Nat), n < 256 ^ k → nb3 k (nb2 k (nb1 k n)) = nbP k n
  | 0, n, h => by
    unfold nb3 mkM nbP
    exact Nat.and_zero _
  | k + 1, n, h => by
    have e : n = 256 * (n / 256) + n % 256 := by omega
    have h1 := by_pop (n % 256) (by omega)
    rw [nbP]
    conv => lhs; rw [e]
    rw [nb1_s (by omega), nb2_s h1.1, nb3_s h1.2.1 (nb2_16 _ _), h1.2.2, nb_all k (n / 256) (by rw [Nat.pow_succ] at h; omega)]
theorem pop_8 : ∀ (a f n : Nat), pop (a + f) n = pop a n + pop f (n / 2 ^ a)
  | 0, f, n => by rw [Nat.zero_add, pop, Nat.zero_add, Nat.pow_zero, Nat.div_one]
  | a + 1, f, n => by
    rw [show a + 1 + f = (a + f) + 1 by omega, pop, pop, pop_8 a f, Nat.div_div_eq_div_mul, Nat.pow_succ, Nat.mul_comm 2]
    omega
theorem pop_mod : ∀ (a n : Nat), pop a (n % 2 ^ a) = pop a n
  | 0, _ => rfl
  | a + 1, n => by
    rw [pop, pop, Nat.mod_pow_succ]
    have e1 : (n % 2 ^ a + 2 ^ a * (n / 2 ^ a % 2)) = n % 2 ^ (a + 1) := by rw [Nat.mod_pow_succ]
    rw [e1]
    have h1 : n % 2 ^ (a + 1) % 2 = n % 2 := Nat.mod_mod_of_dvd _ ⟨2 ^ a, by rw [Nat.pow_succ, Nat.mul_comm]⟩
    have h2 : n % 2 ^ (a + 1) / 2 = n / 2 % 2 ^ a := by
      rw [Nat.pow_succ, Nat.mul_comm, Nat.mod_mul_right_div_self]
    rw [h1, h2, pop_mod a]
theorem pop_le : ∀ (a n : Nat), pop a n ≤ a
  | 0, _ => Nat.le_refl _
  | a + 1, n => by
    have := pop_le a (n / 2)
    rw [pop]
    omega
theorem pop_256 (f n : Nat) : pop (8 + f) n = pop 8 (n % 256) + pop f (n / 256) := by
  rw [pop_8, show (2 : Nat) ^ 8 = 256 from rfl]
  congr 1
  exact (pop_mod 8 n).symm
theorem dv_c {c q r : Nat} (h : r < c) : (c * q + r) / c = q := by
  rw [Nat.mul_add_div (by omega), Nat.div_eq_of_lt h, Nat.add_zero]
theorem md_c {c q r : Nat} : (c * q + r) % c = r % c := Nat.mul_add_mod c q r
theorem lin2 {M M1 M2 p0 p1 : Nat} (h0 : M = 256 * M1 + p0) (h1 : M1 = 256 * M2 + p1) : M = 65536 * M2 + (256 * p1 + p0) := by omega
theorem lin4 {M M1 M2 M3 M4 p0 p1 p2 p3 : Nat} (h0 : M = 256 * M1 + p0) (h1 : M1 = 256 * M2 + p1) (h2 : M2 = 256 * M3 + p2) (h3 : M3 = 256 * M4 + p3) : M = 4294967296 * M4 + (65536 * (256 * p3 + p2) + (256 * p1 + p0)) := by
  have := lin2 h0 h1
  have := lin2 h2 h3
  omega
theorem nb_s2 {M M1 M2 M3 a b : Nat} (h0 : M = 65536 * M2 + a) (h1 : M1 = 65536 * M3 + b) (ha : a ≤ 3000) (hb : b ≤ 3000) : (M + M1) / 65536 = M2 + M3 := by
  rw [show M + M1 = 65536 * (M2 + M3) + (a + b) by omega]
  exact dv_c (by omega)
theorem nb_s4 {M M1 M2 M3 M4 M5 M6 M7 a b c d : Nat} (h0 : M = 4294967296 * M4 + a) (h1 : M1 = 4294967296 * M5 + b) (h2 : M2 = 4294967296 * M6 + c) (h3 : M3 = 4294967296 * M7 + d) (ha : a ≤ 200000000) (hb : b ≤ 200000000) (hc : c ≤ 200000000) (hd : d ≤ 200000000) : (M + M1 + (M2 + M3)) / 4294967296 = M4 + M5 + (M6 + M7) := by
  rw [show M + M1 + (M2 + M3) = 4294967296 * (M4 + M5 + (M6 + M7)) + (a + b + (c + d)) by omega]
  exact dv_c (by omega)
theorem nb_s8 {x0 x1 x2 x3 x4 x5 x6 x7 y0 y1 y2 y3 y4 y5 y6 p0 p1 p2 p3 p4 p5 p6 : Nat} (h0 : x0 = 256 * y0 + p0) (h1 : x1 = 256 * y1 + p1) (h2 : x2 = 256 * y2 + p2) (h3 : x3 = 256 * y3 + p3) (h4 : x4 = 256 * y4 + p4) (h5 : x5 = 256 * y5 + p5) (h6 : x6 = 256 * y6 + p6) :
    x0 + x1 + (x2 + x3) + (x4 + x5 + (x6 + x7)) = 128 * (2 * (y0 + y1 + (y2 + y3) + (y4 + y5 + y6))) + (p0 + (p1 + (p2 + (p3 + (p4 + (p5 + (p6 + x7))))))) := by omega
theorem nb_sw {M M1 M2 M3 M4 M5 M6 M7 p0 p1 p2 p3 p4 p5 p6 : Nat} (h0 : M = 256 * M1 + p0) (h1 : M1 = 256 * M2 + p1) (h2 : M2 = 256 * M3 + p2) (h3 : M3 = 256 * M4 + p3) (h4 : M4 = 256 * M5 + p4) (h5 : M5 = 256 * M6 + p5) (h6 : M6 = 256 * M7 + p6)
    (b0 : p0 ≤ 8) (b1 : p1 ≤ 8) (b2 : p2 ≤ 8) (b3 : p3 ≤ 8) (b4 : p4 ≤ 8) (b5 : p5 ≤ 8) (b6 : p6 ≤ 8) (b7 : M7 ≤ 8) :
    M < 2 ^ 60 ∧ ((M + M / 256) + (M + M / 256) / 65536 + ((M + M / 256) + (M + M / 256) / 65536) / 4294967296) % 128 = p0 + (p1 + (p2 + (p3 + (p4 + (p5 + (p6 + M7)))))) := by
  have e1 : M / 256 = M1 := by rw [h0]; exact dv_c (by omega)
  rw [e1, nb_s2 (lin2 h0 h1) (lin2 h1 h2) (by omega) (by omega), nb_s4 (lin4 h0 h1 h2 h3) (lin4 h1 h2 h3 h4) (lin4 h2 h3 h4 h5) (lin4 h3 h4 h5 h6) (by clear h0 h1 h2 h3 h4 h5 h6 e1; omega) (by clear h0 h1 h2 h3 h4 h5 h6 e1; omega) (by clear h0 h1 h2 h3 h4 h5 h6 e1; omega) (by clear h0 h1 h2 h3 h4 h5 h6 e1; omega)]
  have l6 : M6 < 2 ^ 12 := by clear h0 h1 h2 h3 h4 h5 e1; omega
  have l5 : M5 < 2 ^ 20 := by clear h0 h1 h2 h3 h4 h6 e1; omega
  have l4 : M4 < 2 ^ 28 := by clear h0 h1 h2 h3 h5 h6 e1; omega
  have l3 : M3 < 2 ^ 36 := by clear h0 h1 h2 h4 h5 h6 e1; omega
  have l2 : M2 < 2 ^ 44 := by clear h0 h1 h3 h4 h5 h6 e1; omega
  have l1 : M1 < 2 ^ 52 := by clear h0 h2 h3 h4 h5 h6 e1; omega
  refine ⟨by clear h1 h2 h3 h4 h5 h6 e1; omega, ?_⟩
  rw [nb_s8 h0 h1 h2 h3 h4 h5 h6, md_c, Nat.mod_eq_of_lt (by clear h0 h1 h2 h3 h4 h5 h6 e1; omega)]
theorem nbP_1 (n : Nat) : nbP 1 n = pop 8 (n % 256) := by
  show 256 * 0 + pop 8 (n % 256) = _
  omega
theorem nb_sum (n : Nat) : nbP 8 n < 2 ^ 60 ∧ ((nbP 8 n + nbP 8 n / 256) + (nbP 8 n + nbP 8 n / 256) / 65536 + ((nbP 8 n + nbP 8 n / 256) + (nbP 8 n + nbP 8 n / 256) / 65536) / 4294967296) % 128 = pop 64 n := by
  have e : pop 64 n = pop 8 (n % 256) + (pop 8 (n / 256 % 256) + (pop 8 (n / 256 / 256 % 256) + (pop 8 (n / 256 / 256 / 256 % 256) + (pop 8 (n / 256 / 256 / 256 / 256 % 256) + (pop 8 (n / 256 / 256 / 256 / 256 / 256 % 256) + (pop 8 (n / 256 / 256 / 256 / 256 / 256 / 256 % 256) + nbP 1 (n / 256 / 256 / 256 / 256 / 256 / 256 / 256))))))) := by
    rw [nbP_1, show (64 : Nat) = 8 + (8 + (8 + (8 + (8 + (8 + (8 + (8 + 0))))))) from rfl, pop_256, pop_256, pop_256, pop_256, pop_256, pop_256, pop_256, pop_256]
    rfl
  rw [e]
  exact nb_sw rfl rfl rfl rfl rfl rfl rfl (pop_le 8 _) (pop_le 8 _) (pop_le 8 _) (pop_le 8 _) (pop_le 8 _) (pop_le 8 _) (pop_le 8 _) (by rw [nbP_1]; exact pop_le 8 _)
abbrev un (x : Int64) : Nat := x.toBitVec.toNat
theorem un_ushr (x : Int64) (s : Int32) (k : Nat) (hs : ((s.toInt64.toUInt64 &&& Int64.toUInt64 63).toBitVec % 64).toNat = k) : un (x.toUInt64 >>> (s.toInt64.toUInt64 &&& Int64.toUInt64 63)).toInt64 = un x / 2 ^ k := by
  have e : (x.toUInt64 >>> (s.toInt64.toUInt64 &&& Int64.toUInt64 63)).toInt64.toBitVec = x.toBitVec >>> k := by
    rw [← hs]
    exact UInt64.toBitVec_shiftRight _ _
  show BitVec.toNat _ = _
  rw [e, BitVec.toNat_ushiftRight, Nat.shiftRight_eq_div_pow]
theorem un_lt (x : Int64) : un x < 2 ^ 64 := x.toBitVec.isLt
theorem un_and (x y : Int64) : un (x &&& y) = un x &&& un y := by
  show (x &&& y).toBitVec.toNat = _
  rw [Int64.toBitVec_and, BitVec.toNat_and]
theorem un_or (x y : Int64) : un (x ||| y) = un x ||| un y := by
  show (x ||| y).toBitVec.toNat = _
  rw [Int64.toBitVec_or, BitVec.toNat_or]
theorem un_add (x y : Int64) : un (x + y) = (un x + un y) % 2 ^ 64 := by
  show (x + y).toBitVec.toNat = _
  rw [Int64.toBitVec_add, BitVec.toNat_add]
theorem un_sub {x y : Int64} (h : un y ≤ un x) : un (x - y) = un x - un y := by
  show (x - y).toBitVec.toNat = x.toBitVec.toNat - y.toBitVec.toNat
  rw [Int64.toBitVec_sub, BitVec.toNat_sub]
  have h1 : x.toBitVec.toNat < 2 ^ 64 := un_lt x
  have h2 : y.toBitVec.toNat ≤ x.toBitVec.toNat := h
  omega
theorem bcL_pop (x : Int64) : bcL x = nI (pop 64 (un x)) := by
  have c1 : un (6148914691236517205 : Int64) = mkM 85 8 := by decide +kernel
  have c2 : un (3689348814741910323 : Int64) = mkM 51 8 := by decide +kernel
  have c3 : un (1085102592571150095 : Int64) = mkM 15 8 := by decide +kernel
  have h1 : ∀ y, un (bc1 y) = nb1 8 (un y) := by
    intro y
    unfold bc1 nb1
    have e : un ((y.toUInt64 >>> ((nI 1).toInt64.toUInt64 &&& Int64.toUInt64 63)).toInt64 &&& 6148914691236517205) = (un y / 2) &&& mkM 85 8 := by
      rw [un_and, un_ushr y (nI 1) 1 (by decide +kernel), c1]
    have l : (un y / 2) &&& mkM 85 8 ≤ un y / 2 := Nat.and_le_left
    rw [un_sub (by rw [e]; omega), e]
  have h2 : ∀ y, un (bc2 y) = nb2 8 (un y) := by
    intro y
    unfold bc2 nb2
    rw [un_add, un_and, un_and, un_ushr y (nI 2) 2 (by decide +kernel), c2, show (2 : Nat) ^ 2 = 4 from rfl]
    have l1 : un y &&& mkM 51 8 ≤ mkM 51 8 := Nat.and_le_right
    have l2 : (un y / 4) &&& mkM 51 8 ≤ mkM 51 8 := Nat.and_le_right
    have l3 : mkM 51 8 < 2 ^ 62 := by decide +kernel
    exact Nat.mod_eq_of_lt (by omega)
  have h3 : ∀ y, un y < 2 ^ 63 → un (bc3 y) = nb3 8 (un y) := by
    intro y hy
    unfold bc3 nb3
    rw [un_and, un_add, un_ushr y (nI 4) 4 (by decide +kernel), c3, show (2 : Nat) ^ 4 = 16 from rfl, Nat.mod_eq_of_lt (by omega)]
  have h4 : ∀ y, un y < 2 ^ 60 → un (bc4 y) = un y + un y / 256 := by
    intro y hy
    unfold bc4
    rw [un_add, un_ushr y (nI 8) 8 (by decide +kernel), show (2 : Nat) ^ 8 = 256 from rfl, Nat.mod_eq_of_lt (by omega)]
  have h5 : ∀ y, un y < 2 ^ 61 → un (bc5 y) = un y + un y / 65536 := by
    intro y hy
    unfold bc5
    rw [un_add, un_ushr y (nI 16) 16 (by decide +kernel), show (2 : Nat) ^ 16 = 65536 from rfl, Nat.mod_eq_of_lt (by omega)]
  have h6 : ∀ y, un y < 2 ^ 62 → un (bc6 y) = un y + un y / 4294967296 := by
    intro y hy
    unfold bc6
    rw [un_add, un_ushr y (nI 32) 32 (by decide +kernel), show (2 : Nat) ^ 32 = 4294967296 from rfl, Nat.mod_eq_of_lt (by omega)]
  have s := nb_sum (un x)
  have e2 : un (bc2 (bc1 x)) = nb2 8 (nb1 8 (un x)) := by rw [h2, h1]
  have l2 : un (bc2 (bc1 x)) < 2 ^ 63 := by
    rw [e2]
    unfold nb2
    have l1 : nb1 8 (un x) &&& mkM 51 8 ≤ mkM 51 8 := Nat.and_le_right
    have l2 : (nb1 8 (un x) / 4) &&& mkM 51 8 ≤ mkM 51 8 := Nat.and_le_right
    have l3 : mkM 51 8 < 2 ^ 62 := by decide +kernel
    omega
  have e3 : un (bc3 (bc2 (bc1 x))) = nbP 8 (un x) := by
    rw [h3 _ l2, e2, nb_all 8 _ (Nat.lt_of_lt_of_le (un_lt x) (by decide))]
  have e4 := h4 (bc3 (bc2 (bc1 x))) (by rw [e3]; exact s.1)
  rw [e3] at e4
  have e5 := h5 (bc4 (bc3 (bc2 (bc1 x)))) (by rw [e4]; omega)
  rw [e4] at e5
  have e6 := h6 (bc5 (bc4 (bc3 (bc2 (bc1 x))))) (by rw [e5]; omega)
  rw [e5] at e6
  unfold bcL
  apply Int32.toBitVec_inj.mp
  apply BitVec.eq_of_toNat_eq
  have e7 : (bc6 (bc5 (bc4 (bc3 (bc2 (bc1 x)))))).toInt32.toBitVec.toNat = un (bc6 (bc5 (bc4 (bc3 (bc2 (bc1 x)))))) % 2 ^ 32 := by
    rw [Int64.toBitVec_toInt32, BitVec.signExtend_eq_setWidth_of_le _ (by decide), BitVec.toNat_setWidth]
  rw [Int32.toBitVec_and, BitVec.toNat_and, show (nI 127).toBitVec.toNat = 2 ^ 7 - 1 from by decide +kernel, Nat.and_two_pow_sub_one_eq_mod, e7, e6, Nat.mod_mod_of_dvd _ (by decide), show (2 : Nat) ^ 7 = 128 from rfl, s.2]
  have := pop_le 64 (un x)
  exact (Nat.mod_eq_of_lt (show pop 64 (un x) < 2 ^ 32 by omega)).symm
def bl : Nat → Nat → Nat → List Nat
  | 0, _, _ => []
  | f + 1, i, v => if v % 2 = 1 then i :: bl f (i + 1) (v / 2) else bl f (i + 1) (v / 2)
theorem bl_len : ∀ (f i v : Nat), (bl f i v).length = pop f v
  | 0, _, _ => rfl
  | f + 1, i, v => by
    rw [bl, pop]
    split
    · rw [List.length_cons, bl_len f]; omega
    · rw [bl_len f]; omega
theorem bl_mem : ∀ (f i v t : Nat), t ∈ bl f i v ↔ i ≤ t ∧ t < i + f ∧ v.testBit (t - i) = true
  | 0, i, v, t => by
    rw [bl]
    exact ⟨fun h => (List.not_mem_nil h).elim, fun h => by omega⟩
  | f + 1, i, v, t => by
    have hb : v.testBit 0 = decide (v % 2 = 1) := Nat.testBit_zero v
    have hs : i < t → v.testBit (t - i) = (v / 2).testBit (t - (i + 1)) := fun h => by
      rw [show t - i = (t - (i + 1)) + 1 by omega, Nat.testBit_add_one]
    rw [bl]
    split
    · rename_i c
      rw [List.mem_cons, bl_mem f]
      constructor
      · rintro (rfl | ⟨h1, h2, h3⟩)
        · exact ⟨Nat.le_refl _, by omega, by rw [Nat.sub_self, hb]; exact decide_eq_true c⟩
        · exact ⟨by omega, by omega, by rw [hs (by omega)]; exact h3⟩
      · rintro ⟨h1, h2, h3⟩
        rcases Nat.eq_or_lt_of_le h1 with e | e
        · exact Or.inl e.symm
        · exact Or.inr ⟨e, by omega, by rw [← hs e]; exact h3⟩
    · rename_i c
      rw [bl_mem f]
      constructor
      · rintro ⟨h1, h2, h3⟩
        exact ⟨by omega, by omega, by rw [hs (by omega)]; exact h3⟩
      · rintro ⟨h1, h2, h3⟩
        rcases Nat.eq_or_lt_of_le h1 with e | e
        · rw [← e, Nat.sub_self, hb] at h3
          exact absurd (of_decide_eq_true h3) c
        · exact ⟨e, by omega, by rw [← hs e]; exact h3⟩
theorem bl_0 : ∀ (f i : Nat), bl f i 0 = []
  | 0, _ => rfl
  | f + 1, i => by
    rw [bl, if_neg (by decide)]
    exact bl_0 f (i + 1)
theorem land_2 (a b x y : Nat) (hx : x < 2) (hy : y < 2) : (2 * a + x) &&& (2 * b + y) = 2 * (a &&& b) + (x &&& y) := by
  have h : ∀ x, x < 2 → ∀ y, y < 2 → x &&& y < 2 := by decide
  apply Nat.eq_of_testBit_eq
  intro i
  have e := @Nat.testBit_two_pow_mul_add
  rw [Nat.testBit_and, show (2 : Nat) = 2 ^ 1 from rfl, e a hx, e b hy, e (a &&& b) (h x hx y hy)]
  split
  · rw [Nat.testBit_and]
  · rw [Nat.testBit_and]
def clB (v : Nat) : Nat := v &&& (v - 1)
theorem clB_odd (w : Nat) : clB (2 * w + 1) = 2 * w := by
  unfold clB
  rw [Nat.add_sub_cancel]
  have := land_2 w w 1 0 (by decide) (by decide)
  rw [Nat.and_self] at this
  exact this
theorem clB_even {w : Nat} (h : 0 < w) : clB (2 * w) = 2 * clB w := by
  unfold clB
  have := land_2 w (w - 1) 0 1 (by decide) (by decide)
  rw [show 2 * w - 1 = 2 * (w - 1) + 1 by omega]
  exact this
theorem bl_clB : ∀ (f i v : Nat), bl f i (clB v) = (bl f i v).tail
  | 0, _, _ => rfl
  | f + 1, i, v => by
    rcases Nat.mod_two_eq_zero_or_one v with c | c
    · rcases Nat.eq_zero_or_pos v with z | z
      · subst z
        rw [show clB 0 = 0 from rfl, bl_0]
        rfl
      · have e : v = 2 * (v / 2) := by omega
        have e1 : clB v = 2 * clB (v / 2) := by
          conv => lhs; rw [e]
          exact clB_even (by omega)
        rw [e1, bl, bl, if_neg (by omega), if_neg (by omega), Nat.mul_div_cancel_left _ (by decide), bl_clB f]
    · have e : v = 2 * (v / 2) + 1 := by omega
      have e1 : clB v = 2 * (v / 2) := by
        conv => lhs; rw [e]
        exact clB_odd _
      rw [e1, bl, bl, if_neg (by omega), if_pos c, Nat.mul_div_cancel_left _ (by decide), List.tail_cons]
def loB (f v : Nat) : Nat := v &&& (2 ^ f - v)
theorem and_comp {f w : Nat} (h : w < 2 ^ f) : w &&& (2 ^ f - (w + 1)) = 0 := by
  apply Nat.eq_of_testBit_eq
  intro i
  rw [Nat.testBit_and, Nat.testBit_two_pow_sub_succ h, Nat.zero_testBit]
  cases w.testBit i <;> simp
theorem loB_odd {f w : Nat} (h : 2 * w + 1 < 2 ^ (f + 1)) : loB (f + 1) (2 * w + 1) = 1 := by
  unfold loB
  rw [Nat.pow_succ] at h ⊢
  rw [show 2 ^ f * 2 - (2 * w + 1) = 2 * (2 ^ f - (w + 1)) + 1 by omega, land_2 _ _ 1 1 (by decide) (by decide), and_comp (by omega)]
  rfl
theorem loB_even {f w : Nat} : loB (f + 1) (2 * w) = 2 * loB f w := by
  unfold loB
  have := land_2 w (2 ^ f - w) 0 0 (by decide) (by decide)
  rw [Nat.pow_succ, show 2 ^ f * 2 - 2 * w = 2 * (2 ^ f - w) by omega]
  exact this
theorem pop_ones : ∀ (k f : Nat), k ≤ f → pop f (2 ^ k - 1) = k
  | 0, f, _ => by
    have : ∀ f, pop f 0 = 0 := fun f => by
      have := bl_len f 0 0
      rw [bl_0] at this
      exact this.symm
    exact this f
  | k + 1, f, h => by
    obtain ⟨g, rfl⟩ : ∃ g, f = g + 1 := ⟨f - 1, by omega⟩
    have := Nat.two_pow_pos k
    rw [pop, Nat.pow_succ, show (2 ^ k * 2 - 1) % 2 = 1 by omega, show (2 ^ k * 2 - 1) / 2 = 2 ^ k - 1 by omega, pop_ones k g (by omega)]
    omega
theorem loB_head : ∀ (f i v : Nat), v < 2 ^ f → ∀ t r, bl f i v = t :: r → i ≤ t ∧ t < i + f ∧ loB f v = 2 ^ (t - i)
  | 0, _, _, _, t, r, h => by cases h
  | f + 1, i, v, hv, t, r, h => by
    rw [bl] at h
    rcases Nat.mod_two_eq_zero_or_one v with c | c
    · rw [if_neg (by omega)] at h
      obtain ⟨h1, h2, h3⟩ := loB_head f (i + 1) (v / 2) (by rw [Nat.pow_succ] at hv; omega) t r h
      refine ⟨by omega, by omega, ?_⟩
      have e : v = 2 * (v / 2) := by omega
      have e1 : loB (f + 1) v = 2 * loB f (v / 2) := by
        conv => lhs; rw [e]
        exact loB_even
      rw [e1, h3, show t - i = (t - (i + 1)) + 1 by omega, Nat.pow_succ, Nat.mul_comm]
    · rw [if_pos c] at h
      obtain ⟨rfl, -⟩ := List.cons.inj h
      refine ⟨Nat.le_refl _, by omega, ?_⟩
      have e : v = 2 * (v / 2) + 1 := by omega
      rw [Nat.sub_self]
      rw [e] at hv
      conv => lhs; rw [e]
      exact loB_odd hv
abbrev tyL (v : Int64) : List Nat := bl 64 1 (un v)
theorem bcL_len (v : Int64) : bcL v = nI (tyL v).length := by rw [bcL_pop, bl_len]
theorem un_clB (v : Int64) : un (v &&& (v - 1)) = clB (un v) := by
  have h1 : un (1 : Int64) = 1 := by decide +kernel
  rw [un_and]
  unfold clB
  rcases Nat.eq_zero_or_pos (un v) with z | z
  · rw [z, Nat.zero_and, Nat.zero_and]
  · rw [un_sub (by rw [h1]; exact z), h1]
theorem tyL_pnT : ∀ (j : Nat) (v : Int64), tyL (pnT j v) = (tyL v).drop j
  | 0, _ => rfl
  | j + 1, v => by
    rw [pnT, tyL_pnT j]
    show (bl 64 1 (un (v &&& (v - 1)))).drop j = _
    rw [un_clB, bl_clB, List.drop_tail]
theorem lsI_head {v : Int64} {t : Nat} {r : List Nat} (h : tyL v = t :: r) : lsI v = nI t := by
  obtain ⟨h1, h2, h3⟩ := loB_head 64 1 (un v) (un_lt v) t r h
  have hp : 0 < un v := by
    rcases Nat.eq_zero_or_pos (un v) with z | z
    · rw [show tyL v = bl 64 1 (un v) from rfl, z, bl_0] at h
      cases h
    · exact z
  have e : un (v &&& -v) = 2 ^ (t - 1) := by
    rw [un_and, ← h3]
    unfold loB
    congr 1
    show (-v).toBitVec.toNat = _
    rw [Int64.toBitVec_neg, BitVec.toNat_neg]
    exact Nat.mod_eq_of_lt (by have : 0 < v.toBitVec.toNat := hp; omega)
  have h1' : un (1 : Int64) = 1 := by decide +kernel
  have hq := Nat.two_pow_pos (t - 1)
  show bcL ((v &&& -v) - 1) + nI 1 = _
  rw [bcL_pop, un_sub (by rw [h1', e]; exact hq), e, h1', pop_ones _ _ (by omega)]
  show Int32.ofNat _ + Int32.ofNat 1 = Int32.ofNat t
  rw [← Int32.ofNat_add, show t - 1 + 1 = t by omega]
