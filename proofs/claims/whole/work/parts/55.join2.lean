theorem ho_he {ce fi ip se st sd sg gl : Nat → Int32} {be : Nat → Int64} {y : Nat} (C : Rc ce fi ip se) (T : Rt st sd be sg gl y) {p t k : Nat} (hp : p < 1600) (ht : t ≤ 60) (hk : k < 4) : hoV ce sd st (pm p) t k = heV sg gl fi p t k := by
  have hopp := opp_lt k
  obtain ⟨o1, o2⟩ := T.glN (4 * t + k) (by omega)
  have zero : sd (t * 4 + k) = nI 0 → st (nn (sd (t * 4 + k))) = nI 0 := by
    intro e
    rw [e, nn_nI (by decide), T.st 0 (by decide), T.sg0]
  unfold hoV heV
  rw [T.sd (t * 4 + k) (by omega)] at zero ⊢
  rw [Nat.mul_comm t 4] at zero ⊢
  have z0 : ∀ F, F = 0 → (if gl (4 * t + k) = sd (F * 4 + opp k) then st (nn (gl (4 * t + k))) else nI 0) = nI 0 := by
    intro F hF
    rw [hF, Nat.zero_mul, Nat.zero_add, T.sd _ (by omega), T.gl0 _ hopp]
    split
    · rename_i e; exact zero e
    · rfl
  by_cases c1 : bsV p k < 0
  · rw [if_pos c1, C.wal _ (nbm_lt hp) (nb_out hp hk c1)]
    exact z0 _ (by decide +kernel)
  · have hq := bsV_nn hp c1
    rw [if_neg c1, nb_in hp hk c1, Rc_ty C hq.2]
    by_cases c2 : fi (nn (bsV p k)) = 0
    · rw [if_pos c2]
      exact z0 _ ((Rc_0 C hq.2).2.mp c2)
    · have hf := C.fiN _ hq.2
      rw [if_neg c2, T.sd _ (by omega), opp_mod hk, Nat.mul_comm 4 (nn (fi (nn (bsV p k)))), T.st _ o2]
      rw [T.st _ o2] at zero
      by_cases c3 : gl (4 * t + k) ≤ 0
      · rw [if_pos c3]
        have z := (okGl_le T.glN (by omega)).mp c3
        split
        · exact zero (by rw [o1, z])
        · rfl
      · rw [if_neg c3]
theorem he_N {fi sg gl : Nat → Int32} (hsg : ∀ i, i < 100 → sg i = nI (nn (sg i)) ∧ nn (sg i) ≤ 2) (hgl : okGl gl) {p t k : Nat} (ht : t ≤ 60) (hk : k < 4) : heV sg gl fi p t k = nI (nn (heV sg gl fi p t k)) ∧ nn (heV sg gl fi p t k) ≤ 2 := by
  have z : nI 0 = nI (nn (nI 0)) ∧ nn (nI 0) ≤ 2 := by rw [nn_nI (by decide)]; exact ⟨rfl, by decide⟩
  unfold heV
  split
  · exact z
  · split
    · exact z
    · split
      · exact z
      · split
        · exact hsg _ (hgl (4 * t + k) (by omega)).2
        · exact z
def inB (f : Nat → Int32) : Nat → Nat
  | 0 => 0
  | k + 1 => inB f k + (if f k ≤ 0 then 0 else 2 ^ k)
theorem inB_lt (f : Nat → Int32) : ∀ k, inB f k < 2 ^ k
  | 0 => Nat.zero_lt_one
  | k + 1 => by
    have := inB_lt f k
    rw [inB, Nat.pow_succ]
    split <;> omega
theorem or_bit : ∀ k, k < 4 → ∀ b, b < 2 ^ k → nI b ||| bitI k = nI (b + 2 ^ k) ∧ nI 1 <<< (nI k &&& 31) = nI (2 ^ k) := by decide +kernel
theorem ifL_in {ce sd st : Nat → Int32} {q t : Nat} {f : Nat → Int32} (h : ∀ k, k < 4 → hoV ce sd st q t k = f k) : ∀ k, k ≤ 4 → ifL ce sd st q t k = nI (inB f k)
  | 0, _ => rfl
  | k + 1, hk => by
    rw [ifL, ifL_in h k (by omega)]
    unfold ifS
    rw [h k (by omega), inB]
    split
    · rfl
    · exact (or_bit k (by omega) _ (inB_lt f k)).1
theorem puI_in {sg gl fi ip : Nat → Int32} {p t : Nat} : ∀ k, k ≤ 4 → puI sg gl fi ip p t k = upd ip p (nI (inB (heV sg gl fi p t) k))
  | 0, _ => rfl
  | k + 1, hk => by
    rw [puI, puI_in k (by omega)]
    funext j
    by_cases e : j = p
    · subst e
      rw [pk_us, pk_us, pk_us, inB]
      split
      · rw [nI_add]
      · rw [(or_bit k (by omega) 0 (Nat.two_pow_pos k)).2, nI_add]
    · rw [pk_un e, pk_un e, pk_un e]
theorem jn_cl {ce sd st : Nat → Int32} {q t b : Nat} (ht : t ≤ 60) (h1 : 1 ≤ t) (hb : b < 16) (h : ifL ce sd st q t 4 = nI b) : jnX ce sd st q t = clV (nI t) (nI b) (nI 0) := by
  unfold jnX clV
  rw [h, if_neg (nI_ne0 (by omega) (by omega)), Int32.or_comm, or_6 (by omega) (by omega), nn_nI (by omega), nn_nI (by omega), nn_nI (by decide)]
  exact congrArg nI (by omega)
theorem Rf_join {z : FS} {st sd fi ip se sg gl : Nat → Int32} {be : Nat → Int64} {w y : Nat} {nt wb : Int32} (F : Rf z st sd be w y fi ip se nt wb) (T : Rt st sd be sg gl y) {p t : Nat} (hp : p < 1600) (he : fi p = 0) (h1 : 1 ≤ t) (hy : t ≤ y) :
    Rf (fsJoin sd st be (nI w) (pm p) t z) st sd be w y (upd fi p (nI t)) (puI sg gl fi ip p t 4) (upd se p (nI 0)) (nt + nI 1) (nI 1) := by
  have hy6 := T.yN
  have hb := inB_lt (heV sg gl fi p t) 4
  have F' : Rf (z.1, z.2.1, z.2.2.1, z.2.2.2.1, z.2.2.2.2.1, z.2.2.2.2.2.1, nI 1) st sd be w y fi ip se nt (nI 1) := ⟨F.C, F.O, F.ty, F.tl, F.ns, F.nt, rfl, Or.inr rfl⟩
  have e := jn_cl (b := inB (heV sg gl fi p t) 4) (by omega) h1 hb (ifL_in (ce := z.1) (sd := sd) (st := st) (q := pm p) (t := t) (fun k hk => ho_he F.C T hp (by omega) hk) 4 (Nat.le_refl _))
  unfold fsJoin
  rw [e, puI_in 4 (Nat.le_refl _)]
  exact Rf_put F' hp he (by rw [nn_nI (by omega)]) (by rw [nn_nI (by omega)]; omega) (by rw [nn_nI (by omega)]; exact hy) (by rw [nn_nI (by omega)]; omega) (by rw [nn_nI (by omega)]) (by rw [nn_nI (by omega)]; omega) (by rw [nn_nI (by decide)]) (by rw [nn_nI (by decide)]; decide)
theorem seed_cl {t : Nat} (h1 : 1 ≤ t) (h : t ≤ 60) : nI t ||| nI 1024 = clV (nI t) (nI 0) (nI 1) := by
  have : ∀ t, t < 61 → nI t ||| nI 1024 = nI (t + 1024) := by decide +kernel
  rw [this t (by omega)]
  unfold clV
  rw [if_neg (nI_ne0 (by omega) (by omega)), nn_nI (by omega), nn_nI (by decide), nn_nI (by decide)]
theorem Rf_seed {z : FS} {st sd fi ip se : Nat → Int32} {be : Nat → Int64} {w y : Nat} {nt wb : Int32} (F : Rf z st sd be w y fi ip se nt wb) {p t : Nat} (hp : p < 1600) (he : fi p = 0) (h1 : 1 ≤ t) (hy : t ≤ y) (h60 : t ≤ 60) :
    Rf (fsPut sd st be (nI w) (pm p) (nI t ||| nI 1024) z) st sd be w y (upd fi p (nI t)) (upd ip p (nI 0)) (upd se p (nI 1)) (nt + nI 1) wb := by
  rw [seed_cl h1 h60]
  exact Rf_put F hp he (by rw [nn_nI (by omega)]) (by rw [nn_nI (by omega)]; omega) (by rw [nn_nI (by omega)]; exact hy) (by rw [nn_nI (by omega)]; omega) (by rw [nn_nI (by decide)]) (by rw [nn_nI (by decide)]; decide) (by rw [nn_nI (by decide)]) (by rw [nn_nI (by decide)]; decide)
theorem sh_bit : ∀ k, k < 4 → ∀ b, b < 16 → ((nI b >>> (nI k &&& 31)) &&& nI 1 = 0 ↔ ¬ (nI b >>> (nI k &&& 31)) &&& nI 1 = nI 1) := by decide +kernel
theorem ot_ou {ce fi ip se : Nat → Int32} (C : Rc ce fi ip se) {p : Nat} (hp : p < 1600) : ∀ k, k ≤ 4 → otL ce (pm p) k = ouL fi ip p k ∧ ∃ b, b < 2 ^ k ∧ ouL fi ip p k = nI b
  | 0, _ => ⟨rfl, 0, by decide, rfl⟩
  | k + 1, hk => by
    obtain ⟨e, b, hb, hb2⟩ := ot_ou C hp k (by omega)
    have ha0 : nI b + nI 0 = nI b := by rw [nI_add, Nat.add_zero]
    have z : ∀ x, inN x = 0 → (nI (inN x) >>> (nI (opp k) &&& 31)) &&& nI 1 = 0 := by
      intro x hx
      have : ∀ j, j < 4 → (nI 0 >>> (nI j &&& 31)) &&& nI 1 = 0 := by decide +kernel
      rw [hx]
      exact this _ (opp_lt k)
    rw [otL, ouL, e, hb2]
    unfold otS ouS
    have none_ : otS ce (pm p) k (nI b) = nI b → (otS ce (pm p) k (nI b) = nI b + nI 0) := fun h => by rw [h, ha0]
    by_cases c1 : bsV p k < 0
    · rw [if_pos c1, C.wal _ (nbm_lt hp) (nb_out hp (by omega) c1), if_pos (z _ (by decide +kernel)), ha0]
      exact ⟨rfl, b, by rw [Nat.pow_succ]; omega, rfl⟩
    · have hq := bsV_nn hp c1
      rw [if_neg c1, nb_in hp (by omega) c1]
      by_cases c2 : fi (nn (bsV p k)) ≤ 0
      · have hf := C.fiN _ hq.2
        have c3 : fi (nn (bsV p k)) = 0 := by
          rw [hf.1, jn_le0 (by omega)] at c2
          rw [hf.1, c2]; rfl
        rw [if_pos c2, (Rc_0 C hq.2).1.mpr c3, if_pos (z _ (by decide +kernel)), ha0]
        exact ⟨rfl, b, by rw [Nat.pow_succ]; omega, rfl⟩
      · have c3 : fi (nn (bsV p k)) ≠ 0 := fun q => c2 (by rw [q]; decide)
        have hi := C.ipN _ hq.2 c3
        rw [if_neg c2, (Rc_in C hq.2 c3).1, opp_mod (by omega), ← hi.1]
        have sb := sh_bit (opp k) (opp_lt k) (nn (ip (nn (bsV p k)))) hi.2
        rw [← hi.1] at sb
        by_cases c4 : (ip (nn (bsV p k)) >>> (nI (opp k) &&& 31)) &&& nI 1 = nI 1
        · rw [if_neg (fun q => sb.mp q c4), if_pos c4, (or_bit k (by omega) b hb).1, (or_bit k (by omega) 0 (Nat.two_pow_pos k)).2, nI_add]
          exact ⟨rfl, b + 2 ^ k, by rw [Nat.pow_succ]; omega, rfl⟩
        · rw [if_pos (sb.mpr c4), if_neg c4, ha0]
          exact ⟨rfl, b, by rw [Nat.pow_succ]; omega, rfl⟩
theorem is_mb {ce fi ip se st sd sg gl : Nat → Int32} {be : Nat → Int64} {y : Nat} (C : Rc ce fi ip se) (T : Rt st sd be sg gl y) {p : Nat} (hp : p < 1600) (hf : fi p ≠ 0) : ∀ k, k ≤ 4 → isL ce sd st (pm p) k = mbL sg gl fi ip p k
  | 0, _ => rfl
  | k + 1, hk => by
    have hi := C.ipN p hp hf
    have h6 := C.fiN p hp
    have g := T.glN (4 * nn (fi p) + k) (by omega)
    have sb := sh_bit k (by omega) (nn (ip p)) hi.2
    rw [isL, mbL, is_mb C T hp hf k (by omega)]
    unfold isS mbS
    rw [(Rc_in C hp hf).1, Rc_ty C hp, T.sd _ (by omega), Nat.mul_comm (nn (fi p)) 4, T.st _ g.2, ← hi.1]
    rw [← hi.1] at sb
    by_cases c : (ip p >>> (nI k &&& 31)) &&& nI 1 = nI 1
    · rw [if_neg (fun q => sb.mp q c), if_pos c]
    · rw [if_pos (sb.mpr c), if_neg c]
      have : ∀ a : Int32, a + nI 0 = a := fun a => by rw [nI_0]; exact Int32.add_zero a
      rw [this]
