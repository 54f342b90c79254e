def ozz (o : Option FS) (z : FS) : FS := (oel o (fun v7 => v7.1) z.1, oel o (fun v7 => v7.2.1) z.2.1, oel o (fun v7 => v7.2.2.1) z.2.2.1, oel o (fun v7 => v7.2.2.2.1) z.2.2.2.1, oel o (fun v7 => v7.2.2.2.2.1) z.2.2.2.2.1, oel o (fun v7 => v7.2.2.2.2.2.1) z.2.2.2.2.2.1, oel o (fun v7 => v7.2.2.2.2.2.2) z.2.2.2.2.2.2)
theorem ozz_none (z : FS) : ozz none z = z := rfl
theorem ozz_some (v z : FS) : ozz (some v) z = v := rfl
theorem cT_put {fi : Nat → Int32} {p : Nat} {v : Int32} (hp : p < 1600) (h : nn v ≠ 0) : cT (upd fi p v) 0 ≠ 0 := by
  have c := cT_upd (fi := fi) (p := p) (v := v) hp 0
  rw [if_pos (show nn v ≠ 0 ∧ ((0 : Nat) = 0 ∨ nn v = 0) from ⟨h, Or.inl rfl⟩)] at c
  by_cases d : nn (fi p) ≠ 0 ∧ ((0 : Nat) = 0 ∨ nn (fi p) = 0)
  · have u := cT_upd (fi := upd fi p v) (p := p) (v := nI 0) hp 0
    have n0 : nn (nI 0) = 0 := nn_nI (by decide)
    rw [pk_us, if_pos ⟨h, Or.inl rfl⟩, if_neg (fun q : nn (nI 0) ≠ 0 ∧ _ => q.1 n0)] at u
    omega
  · rw [if_neg d] at c
    omega
theorem seed_same {z : FS} {st sd sg gl fi ip se : Nat → Int32} {be : Nat → Int64} {w y : Nat} {nt wb x v t r : Int32} {o : Option FS} {m : MS} (I : RI z st sd be w y sg gl fi ip se nt wb)
    (hc : (∃ E, ((E = eIOB ∧ (x < 0 ∨ nI 40 ≤ x ∨ v < 0 ∨ ¬ v < nI 40)) ∨ (E = eIAE ∧ (¬ x < 0 ∧ ¬ nI 40 ≤ x ∧ ¬ v < 0 ∧ v < nI 40) ∧ (t < nI 1 ∨ ¬ t ≤ nI y)) ∨ (E = eISE ∧ (¬ x < 0 ∧ ¬ nI 40 ≤ x ∧ ¬ v < 0 ∧ v < nI 40) ∧ (¬ t < nI 1 ∧ t ≤ nI y) ∧ (tyN (z.1 (plO x v)) ≠ 0 ∨ ¬ z.2.2.2.2.2.2 = 0))) ∧ r = nI (exC [eIOB, eIAE, eISE] E) ∧ o = none) ∨ (∃ v7 : FS, ((v7 = fsPut sd st be (nI w) (plO x v) (nI (nn t) ||| nI 1024) z) ∧ ((¬ x < 0 ∧ ¬ nI 40 ≤ x ∧ ¬ v < 0 ∧ v < nI 40) ∧ (¬ t < nI 1 ∧ t ≤ nI y) ∧ tyN (z.1 (plO x v)) = 0 ∧ z.2.2.2.2.2.2 = 0)) ∧ r = nI 0 ∧ o = some v7))
    (hm : m = msV fi ip se nt wb (nI y) x v t) :
    m.2.2.2.2.2 = r ∧ RI (ozz o z) st sd be w y sg gl m.1 m.2.1 m.2.2.1 m.2.2.2.1 m.2.2.2.2.1 := by
  have hy := I.A.T.yN
  unfold msV at hm
  rcases hc with ⟨E, hE, hr, rfl⟩ | ⟨v7, ⟨h7, h1, h2, h3, h4⟩, hr, rfl⟩
  · rw [ozz_none]
    rcases hE with ⟨rfl, q⟩ | ⟨rfl, q, q2⟩ | ⟨rfl, q, q2, q3⟩
    · rw [if_pos (isP_0.mpr q)] at hm
      rw [hm, show r = nI 1 from hr]
      exact ⟨rfl, I⟩
    · rw [if_neg (isP_1 q), if_pos (wiN_0.mpr q2)] at hm
      rw [hm, show r = nI 2 from hr]
      exact ⟨rfl, I⟩
    · rw [if_neg (isP_1 q), if_neg (wiN_1 q2)] at hm
      obtain ⟨e1, e2⟩ := plO_pm (isP_1 q)
      have hf := I.A.F.C.fiN _ e2
      rw [e1, Rc_ty I.A.F.C e2, I.A.F.aw] at q3
      have e3 : m = (fi, ip, se, nt, wb, nI 3) := by
        by_cases c : 0 < fi (40 * nn v + nn x)
        · rw [if_pos c] at hm; exact hm
        · rw [if_neg c] at hm
          have c2 : nn (fi (40 * nn v + nn x)) = 0 := by
            rw [hf.1, jn_gt0 (by omega)] at c
            omega
          rw [if_neg (q3.resolve_left (fun z => z c2))] at hm
          exact hm
      rw [e3, show r = nI 3 from hr]
      exact ⟨rfl, I⟩
  · rw [ozz_some]
    obtain ⟨e1, e2⟩ := plO_pm (isP_1 h1)
    have hf := I.A.F.C.fiN _ e2
    rw [e1, Rc_ty I.A.F.C e2] at h3
    rw [I.A.F.aw] at h4
    have f0 : fi (40 * nn v + nn x) = 0 := by rw [hf.1, h3]; rfl
    rw [if_neg (isP_1 h1), if_neg (wiN_1 h2), if_neg (by rw [f0]; decide), if_pos h4] at hm
    obtain ⟨k, k1, k2, rfl⟩ := wiN_nat (wiN_1 h2) (by decide) (by omega)
    rw [nn_nI (by omega)] at h7
    rw [hm, hr, h7, e1]
    refine ⟨rfl, ⟨I.A.T, Rf_seed I.A.F e2 f0 k1 k2 (by omega), I.A.w1, I.A.w3⟩, fun q => absurd q (cT_put e2 (by rw [nn_nI (by omega)]; omega))⟩
theorem hsN_tb {v : Int64} {t : Nat} (h1 : 1 ≤ t) (h6 : t ≤ 60) : hsN v (nI t) = 0 ↔ ¬ tb v t = true := by
  unfold hsN
  constructor
  · intro h q
    by_cases c : v &&& (1 <<< ((nI t - nI 1).toInt64 &&& 63)) = 0
    · have := tb_and v (1 <<< ((nI t - nI 1).toInt64 &&& 63)) t
      rw [c, tb_0, q, tb_only h1 h6 h1, decide_eq_true rfl] at this
      cases this
    · rw [if_neg c] at h
      exact absurd h (by decide)
  · intro h
    rw [if_pos]
    apply Int64.toBitVec_inj.mp
    apply BitVec.eq_of_toNat_eq
    show un _ = 0
    rw [un_and, un_only t (by omega) h1]
    apply Nat.eq_of_testBit_eq
    intro i
    rw [Nat.testBit_and, Nat.testBit_two_pow, Nat.zero_testBit]
    by_cases c : t - 1 = i
    · subst c
      cases q : (un v).testBit (t - 1) with
      | false => rfl
      | true => exact absurd q h
    · rw [decide_eq_false c, Bool.and_false]
theorem attach_same {z : FS} {st sd sg gl fi ip se : Nat → Int32} {be : Nat → Int64} {w y : Nat} {nt wb x v t r b : Int32} {o : Option FS} {f of : Nat → Int64} {m : MS} (I : RI z st sd be w y sg gl fi ip se nt wb)
    (hc : (∃ E, ((E = eIOB ∧ (x < 0 ∨ nI 40 ≤ x ∨ v < 0 ∨ ¬ v < nI 40)) ∨ (E = eIAE ∧ (¬ x < 0 ∧ ¬ nI 40 ≤ x ∧ ¬ v < 0 ∧ v < nI 40) ∧ (t < nI 1 ∨ ¬ t ≤ nI y))) ∧ r = nI (exC [eIOB, eIAE] E) ∧ (o, f) = (none, of)) ∨ (∃ (v7 : FS) (v8 : Int32), ((v8 = nI (hsN (z.2.1 (plO x v)) t) ∧ v7 = aiF sd st be (nI w) (plO x v) (nn t) z) ∧ ((¬ x < 0 ∧ ¬ nI 40 ≤ x ∧ ¬ v < 0 ∧ v < nI 40) ∧ (¬ t < nI 1 ∧ t ≤ nI y))) ∧ r = nI 0 ∧ (o, f) = (some v7, vp_updL of 0 (if v8 = 0 then 0 else 1))))
    (hm : (b, m) = maV sg gl fi ip se nt wb (nI y) (nI w) x v t) :
    m.2.2.2.2.2 = r ∧ (r = 0 → f 0 = if b = 0 then 0 else 1) ∧ RI (ozz o z) st sd be w y sg gl m.1 m.2.1 m.2.2.1 m.2.2.2.1 m.2.2.2.2.1 := by
  have hy := I.A.T.yN
  unfold maV at hm
  rcases hc with ⟨E, hE, hr, hu⟩ | ⟨v7, v8, ⟨⟨h8, h7⟩, h1, h2⟩, hr, hu⟩
  · cases hu
    rw [ozz_none]
    rcases hE with ⟨rfl, q⟩ | ⟨rfl, q, q2⟩
    · rw [if_pos (isP_0.mpr q)] at hm
      cases hm
      rw [show r = nI 1 from hr]
      exact ⟨rfl, fun z => absurd z (by decide +kernel), I⟩
    · rw [if_neg (isP_1 q), if_pos (wiN_0.mpr q2)] at hm
      cases hm
      rw [show r = nI 2 from hr]
      exact ⟨rfl, fun z => absurd z (by decide +kernel), I⟩
  · cases hu
    rw [ozz_some]
    obtain ⟨e1, e2⟩ := plO_pm (isP_1 h1)
    obtain ⟨k, k1, k2, rfl⟩ := wiN_nat (wiN_1 h2) (by decide) (by omega)
    have hpm := pm_in e2
    rw [if_neg (isP_1 h1), if_neg (wiN_1 h2), nn_nI (by omega)] at hm
    rw [nn_nI (by omega), e1] at h7
    have ho : z.2.1 (pm (40 * nn v + nn x)) = raN z.1 sd st be (nI w) (pm (40 * nn v + nn x)) := I.A.F.O.op _ (by omega)
    have om := open_may I.A.F.C I.A.T I.A.w1 I.A.w3 e2 k1 (show k ≤ 64 by omega)
    rw [← ho] at om
    have hs := hsN_tb (v := z.2.1 (pm (40 * nn v + nn x))) k1 (show k ≤ 60 by omega)
    unfold aiF at h7
    rw [e1] at h8
    by_cases c : myN sg gl fi (nI w) (40 * nn v + nn x) k = 0
    · have c2 : hsN (z.2.1 (pm (40 * nn v + nn x))) (nI k) = 0 := hs.mpr (fun q => (om.mp q).2 c)
      rw [if_pos c2] at h7
      rw [c2] at h8
      rw [if_pos c] at hm
      cases hm
      rw [hr, h7, h8]
      exact ⟨rfl, fun _ => rfl, I⟩
    · have c2 : hsN (z.2.1 (pm (40 * nn v + nn x))) (nI k) ≠ 0 := fun q => hs.mp q (om.mpr ⟨k2, c⟩)
      have c3 : hsN (z.2.1 (pm (40 * nn v + nn x))) (nI k) = 1 := by
        unfold hsN at c2 ⊢
        split at c2
        · exact absurd rfl c2
        · rename_i q; rw [if_neg q]
      have f0 : fi (40 * nn v + nn x) = 0 := by
        unfold myN at c
        by_cases q : fi (40 * nn v + nn x) = 0
        · exact q
        · rw [if_neg q] at c; exact absurd rfl c
      rw [if_neg c2] at h7
      rw [c3] at h8
      rw [if_neg c] at hm
      cases hm
      rw [hr, h7, h8]
      refine ⟨rfl, fun _ => by rw [pk_uLs, if_neg (by decide +kernel)], ⟨I.A.T, Rf_join I.A.F I.A.T e2 f0 k1 k2, I.A.w1, I.A.w3⟩, fun q => absurd q (cT_put e2 (by rw [nn_nI (by omega)]; omega))⟩
theorem drop_same {z : FS} {st sd sg gl fi ip se : Nat → Int32} {be : Nat → Int64} {w y : Nat} {nt wb x v r b : Int32} {o : Option FS} {f of : Nat → Int64} {fi' : Nat → Int32} {nt' wb' th : Int32} (I : RI z st sd be w y sg gl fi ip se nt wb)
    (hc : (∃ E, (E = eIOB ∧ (x < 0 ∨ nI 40 ≤ x ∨ v < 0 ∨ ¬ v < nI 40)) ∧ r = nI (exC [eIOB] E) ∧ (o, f) = (none, of)) ∨ (∃ (v7 : FS) (v8 : Int32), ((v8 = nI (tyN (z.1 (plO x v))) ∧ v7 = drF sd st be (nI w) (plO x v) z) ∧ (¬ x < 0 ∧ ¬ nI 40 ≤ x ∧ ¬ v < 0 ∧ v < nI 40)) ∧ r = nI 0 ∧ (o, f) = (some v7, vp_updL of 0 v8.toInt64)))
    (hm : (b, fi', nt', wb', th) = mdV fi nt wb x v) :
    th = r ∧ (r = 0 → f 0 = b.toInt64) ∧ RI (ozz o z) st sd be w y sg gl fi' ip se nt' wb' := by
  unfold mdV at hm
  rcases hc with ⟨E, ⟨rfl, q⟩, hr, hu⟩ | ⟨v7, v8, ⟨⟨h8, h7⟩, h1⟩, hr, hu⟩
  · cases hu
    rw [if_pos (isP_0.mpr q)] at hm
    cases hm
    rw [show r = nI 1 from hr]
    exact ⟨rfl, fun z => absurd z (by decide +kernel), I⟩
  · cases hu
    rw [ozz_some]
    obtain ⟨e1, e2⟩ := plO_pm (isP_1 h1)
    have hf := I.A.F.C.fiN _ e2
    rw [if_neg (isP_1 h1)] at hm
    rw [e1, Rc_ty I.A.F.C e2, ← hf.1] at h8
    unfold drF at h7
    rw [e1, Rc_ty I.A.F.C e2] at h7
    have nsub : ∀ a : Int32, a - nI 0 = a := fun a => by rw [nI_0]; exact Int32.sub_zero a
    by_cases c : nn (fi (40 * nn v + nn x)) = 0
    · have f0 : fi (40 * nn v + nn x) = 0 := by rw [hf.1, c]; rfl
      have hu : upd fi (40 * nn v + nn x) (nI 0) = fi := by
        funext j
        by_cases e : j = 40 * nn v + nn x
        · rw [e, pk_us, f0, nI_0]
        · rw [pk_un e]
      rw [if_pos c] at h7
      rw [f0, if_pos (by decide), nsub, hu] at hm
      have hw : (if nt = 0 then nI 0 else wb) = wb := by
        by_cases e : nt = 0
        · rw [if_pos e]
          exact (I.em ((RI_tl I).2.2.mp (by rw [e]; decide))).symm
        · rw [if_neg e]
      rw [hw] at hm
      cases hm
      rw [hr, h7, h8, f0]
      exact ⟨rfl, fun _ => pk_uLs, I⟩
    · have f0 : fi (40 * nn v + nn x) ≠ 0 := fun q => c (by rw [q]; decide)
      have fl : ¬ fi (40 * nn v + nn x) ≤ 0 := fun q => c ((jn_le0 (show nn (fi (40 * nn v + nn x)) < 2 ^ 31 by omega)).mp (by rw [← hf.1]; exact q))
      rw [if_neg c] at h7
      rw [if_neg fl] at hm
      have T := Rf_take I.A.F e2 f0
      cases hm
      rw [hr, h7, h8]
      refine ⟨rfl, fun _ => pk_uLs, ⟨I.A.T, T, I.A.w1, I.A.w3⟩, fun q => ?_⟩
      rw [if_pos]
      rw [T.nt, q]
      rfl
