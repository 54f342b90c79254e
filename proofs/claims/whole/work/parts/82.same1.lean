theorem wiN_0 {x a b : Int32} : wiN x a b = 0 ↔ (x < a ∨ ¬ x ≤ b) := by
  unfold wiN
  by_cases c : x < a
  · rw [if_pos c]; exact ⟨fun _ => Or.inl c, fun _ => rfl⟩
  · rw [if_neg c]
    by_cases d : b < x
    · rw [if_pos d]
      exact ⟨fun _ => Or.inr (Int32.not_le.mpr d), fun _ => rfl⟩
    · rw [if_neg d]
      exact ⟨fun q => absurd q (by decide), fun q => q.elim (fun z => absurd z c) (fun z => absurd (Int32.not_le.mp z) d)⟩
theorem wiN_1 {x a b : Int32} (h : ¬ x < a ∧ x ≤ b) : wiN x a b ≠ 0 := fun q => (wiN_0.mp q).elim h.1 (fun z => z h.2)
theorem le_39 {x : Int32} : (¬ x ≤ nI 39) ↔ nI 40 ≤ x := by
  rw [Int32.le_iff_toInt_le, Int32.le_iff_toInt_le, nI_toInt (by decide), nI_toInt (by decide)]
  omega
theorem lt_40 {x : Int32} : (¬ x ≤ nI 39) ↔ ¬ x < nI 40 := by
  rw [Int32.le_iff_toInt_le, Int32.lt_iff_toInt_lt, nI_toInt (by decide), nI_toInt (by decide)]
  omega
theorem isP_0 {x y : Int32} : isP x y = 0 ↔ (x < 0 ∨ nI 40 ≤ x ∨ y < 0 ∨ ¬ y < nI 40) := by
  have hx : wiN x (nI 0) (nI 39) = 0 ↔ (x < 0 ∨ nI 40 ≤ x) := by rw [wiN_0, le_39, nI_0]
  have hy : wiN y (nI 0) (nI 39) = 0 ↔ (y < 0 ∨ ¬ y < nI 40) := by rw [wiN_0, lt_40, nI_0]
  unfold isP
  by_cases c : wiN x (nI 0) (nI 39) = 0
  · rw [if_pos c]
    exact ⟨fun _ => (hx.mp c).elim Or.inl (fun q => Or.inr (Or.inl q)), fun _ => rfl⟩
  · rw [if_neg c]
    have c' : ¬ (x < 0 ∨ nI 40 ≤ x) := fun q => c (hx.mpr q)
    by_cases d : wiN y (nI 0) (nI 39) = 0
    · rw [if_pos d]
      exact ⟨fun _ => Or.inr (Or.inr (hy.mp d)), fun _ => rfl⟩
    · rw [if_neg d]
      refine ⟨fun q => absurd q (by decide), fun q => ?_⟩
      rcases q with q | q | q | q
      · exact absurd (Or.inl q) c'
      · exact absurd (Or.inr q) c'
      · exact absurd (hy.mpr (Or.inl q)) d
      · exact absurd (hy.mpr (Or.inr q)) d
theorem isP_1 {x y : Int32} (h : ¬ x < 0 ∧ ¬ nI 40 ≤ x ∧ ¬ y < 0 ∧ y < nI 40) : isP x y ≠ 0 := fun q => by
  rcases isP_0.mp q with z | z | z | z
  · exact h.1 z
  · exact h.2.1 z
  · exact h.2.2.1 z
  · exact z h.2.2.2
theorem plO_pm {x y : Int32} (h : isP x y ≠ 0) : plO x y = pm (40 * nn y + nn x) ∧ 40 * nn y + nn x < 1600 := by
  obtain ⟨a, b, ha, hb, rfl, rfl⟩ := isP_nat h
  unfold plO
  rw [nn_nI (by omega), nn_nI (by omega)]
  unfold pm
  show (b + 1) * 42 + a + 1 = _ ∧ _
  omega
abbrev eISE : String := "java/lang/IllegalStateException"
abbrev eIAE : String := "java/lang/IllegalArgumentException"
abbrev eIOB : String := "java/lang/IndexOutOfBoundsException"
abbrev eUOE : String := "java/lang/UnsupportedOperationException"
abbrev RI (z : FS) (st sd : Nat → Int32) (be : Nat → Int64) (w y : Nat) (sg gl fi ip se : Nat → Int32) (nt wb : Int32) : Prop := (RA z st sd be w y sg gl fi ip se nt wb) ∧ (cT fi 0 = 0 → wb = nI 0)
theorem RI.A {z : FS} {st sd : Nat → Int32} {be : Nat → Int64} {w y : Nat} {sg gl fi ip se : Nat → Int32} {nt wb : Int32} (h9 : RI z st sd be w y sg gl fi ip se nt wb) : RA z st sd be w y sg gl fi ip se nt wb := h9.1
theorem RI.em {z : FS} {st sd : Nat → Int32} {be : Nat → Int64} {w y : Nat} {sg gl fi ip se : Nat → Int32} {nt wb : Int32} (h9 : RI z st sd be w y sg gl fi ip se nt wb) : cT fi 0 = 0 → wb = nI 0 := h9.2
theorem RI_tl {z : FS} {st sd sg gl fi ip se : Nat → Int32} {be : Nat → Int64} {w y : Nat} {nt wb : Int32} (I : RI z st sd be w y sg gl fi ip se nt wb) : z.2.2.2.1 0 = nt ∧ nt = nI (cT fi 0) ∧ (nt ≤ 0 ↔ cT fi 0 = 0) := by
  have h := cT_le fi 0
  refine ⟨by rw [I.A.F.tl 0 (by omega), I.A.F.nt], I.A.F.nt, ?_⟩
  rw [I.A.F.nt, jn_le0 (by omega)]
theorem RI_set {z : FS} {st sd sg gl fi ip se st' sd' sg' gl' : Nat → Int32} {be be' : Nat → Int64} {w y w' y' : Nat} {nt wb : Int32} (I : RI z st sd be w y sg gl fi ip se nt wb) (h : nt ≤ 0) (T : Rt st' sd' be' sg' gl' y') (w1 : 1 ≤ w') (w3 : w' ≤ 3) : RI z st' sd' be' w' y' sg' gl' fi ip se nt wb :=
  ⟨⟨T, Rf_empty I.A.F (cT_0 I.A.F.C.fiN ((RI_tl I).2.2.mp h)), w1, w3⟩, I.em⟩
theorem glue_same {z : FS} {st sd sg gl fi ip se : Nat → Int32} {be : Nat → Int64} {w y : Nat} {nt wb x v r th b : Int32} {o : Option Unit} {f of : Nat → Int64} {sg' : Nat → Int32} (I : RI z st sd be w y sg gl fi ip se nt wb)
    (hc : (∃ E, ((E = eISE ∧ ¬ z.2.2.2.1 0 ≤ 0) ∨ (E = eIAE ∧ z.2.2.2.1 0 ≤ 0 ∧ ((x < nI 1 ∨ ¬ x ≤ nI 99) ∨ (v < nI 0 ∨ ¬ v ≤ nI 2)))) ∧ r = nI (exC [eISE, eIAE] E) ∧ (o, f) = (none, of)) ∨ (∃ (v7 : Unit) (v8 : Int32), ((v8 = st (nn x)) ∧ (z.2.2.2.1 0 ≤ 0 ∧ (¬ x < nI 1 ∧ x ≤ nI 99) ∧ (¬ v < nI 0 ∧ v ≤ nI 2))) ∧ r = nI 0 ∧ (o, f) = (some v7, vp_updL of 0 v8.toInt64)))
    (hm : (b, sg', th) = mgV nt sg x v) :
    th = r ∧ (r = 0 → f 0 = b.toInt64) ∧ RI z (oel o (fun _ => upd st (nn x) v) st) sd be w y sg' gl fi ip se nt wb := by
  obtain ⟨t1, t2, t3⟩ := RI_tl I
  unfold mgV at hm
  rw [t1] at hc
  rcases hc with ⟨E, hE, hr, hu⟩ | ⟨v7, v8, ⟨h8, h1, h2, h3⟩, hr, hu⟩
  · cases hu
    rcases hE with ⟨rfl, q⟩ | ⟨rfl, q, q2⟩
    · rw [if_neg q] at hm
      cases hm
      have hr : r = nI 1 := hr
      rw [hr]
      exact ⟨rfl, fun z => absurd z (by decide +kernel), I⟩
    · have hr : r = nI 2 := hr
      rw [if_pos q] at hm
      have e : (b, sg', th) = (nI 0, sg, nI 2) := by
        rcases q2 with q2 | q2
        · rw [if_pos (wiN_0.mpr q2)] at hm; exact hm
        · rw [if_pos (wiN_0.mpr q2)] at hm
          split at hm <;> exact hm
      cases e
      rw [hr]
      exact ⟨rfl, fun z => absurd z (by decide +kernel), I⟩
  · cases hu
    rw [if_pos h1, if_neg (wiN_1 h2), if_neg (wiN_1 h3)] at hm
    cases hm
    obtain ⟨k, hk1, hk2, rfl⟩ := wiN_nat (wiN_1 h2) (by decide) (by decide)
    obtain ⟨s, hs1, hs2, rfl⟩ := wiN_nat (wiN_1 h3) (by decide) (by decide)
    refine ⟨hr.symm, fun _ => ?_, ?_⟩
    · rw [pk_uLs, h8, nn_nI (by omega), I.A.T.st k (by omega)]
    · rw [nn_nI (by omega)]
      exact RI_set I h1 (Rt_glue I.A.T hk1 hs2) I.A.w1 I.A.w3
theorem temperature_same {z : FS} {st sd sg gl fi ip se : Nat → Int32} {be : Nat → Int64} {w y : Nat} {nt wb x r th b te' : Int32} {o : Option Unit} {f of : Nat → Int64} (I : RI z st sd be w y sg gl fi ip se nt wb)
    (hc : (∃ E, ((E = eISE ∧ ¬ z.2.2.2.1 0 ≤ 0) ∨ (E = eIAE ∧ z.2.2.2.1 0 ≤ 0 ∧ (x < nI 1 ∨ ¬ x ≤ nI 3))) ∧ r = nI (exC [eISE, eIAE] E) ∧ (o, f) = (none, of)) ∨ (∃ (v7 : Unit) (v8 : Int32), ((v8 = nI w) ∧ (z.2.2.2.1 0 ≤ 0 ∧ (¬ x < nI 1 ∧ x ≤ nI 3))) ∧ r = nI 0 ∧ (o, f) = (some v7, vp_updL of 0 v8.toInt64)))
    (hm : (b, te', th) = mtV nt (nI w) x) :
    th = r ∧ (r = 0 → f 0 = b.toInt64) ∧ ∃ w', te' = nI w' ∧ oel o (fun _ => x) (nI w) = nI w' ∧ RI z st sd be w' y sg gl fi ip se nt wb := by
  obtain ⟨t1, t2, t3⟩ := RI_tl I
  unfold mtV at hm
  rw [t1] at hc
  rcases hc with ⟨E, hE, hr, hu⟩ | ⟨v7, v8, ⟨h8, h1, h2⟩, hr, hu⟩
  · cases hu
    rcases hE with ⟨rfl, q⟩ | ⟨rfl, q, q2⟩
    · rw [if_neg q] at hm
      cases hm
      have hr : r = nI 1 := hr
      rw [hr]
      exact ⟨rfl, fun z => absurd z (by decide +kernel), w, rfl, rfl, I⟩
    · have hr : r = nI 2 := hr
      rw [if_pos q, if_pos (wiN_0.mpr q2)] at hm
      cases hm
      rw [hr]
      exact ⟨rfl, fun z => absurd z (by decide +kernel), w, rfl, rfl, I⟩
  · cases hu
    rw [if_pos h1, if_neg (wiN_1 h2)] at hm
    cases hm
    obtain ⟨k, hk1, hk2, rfl⟩ := wiN_nat (wiN_1 h2) (by decide) (by decide)
    refine ⟨hr.symm, fun _ => ?_, k, rfl, rfl, RI_set I h1 I.A.T hk1 hk2⟩
    rw [pk_uLs, h8]
theorem tile_same {z : FS} {st sd sg gl fi ip se : Nat → Int32} {be : Nat → Int64} {w y y' : Nat} {nt wb x v p q r th b : Int32} {o : Option Unit} {f of : Nat → Int64} {gl' : Nat → Int32} (I : RI z st sd be w y sg gl fi ip se nt wb)
    (hc : (∃ E, ((E = eISE ∧ ¬ z.2.2.2.1 0 ≤ 0) ∨ (E = eIAE ∧ z.2.2.2.1 0 ≤ 0 ∧ ((x < nI 0 ∨ ¬ x ≤ nI 99) ∨ (v < nI 0 ∨ ¬ v ≤ nI 99) ∨ (p < nI 0 ∨ ¬ p ≤ nI 99) ∨ (q < nI 0 ∨ ¬ q ≤ nI 99))) ∨ (E = eUOE ∧ z.2.2.2.1 0 ≤ 0 ∧ ((¬ x < nI 0 ∧ x ≤ nI 99) ∧ (¬ v < nI 0 ∧ v ≤ nI 99) ∧ (¬ p < nI 0 ∧ p ≤ nI 99) ∧ (¬ q < nI 0 ∧ q ≤ nI 99)) ∧ y = 60)) ∧ r = nI (exC [eISE, eIAE, eUOE] E) ∧ (o, f) = (none, of)) ∨ (∃ (v7 : Unit) (v8 : Int32), ((v8 = nI (y + 1)) ∧ (z.2.2.2.1 0 ≤ 0 ∧ ((¬ x < nI 0 ∧ x ≤ nI 99) ∧ (¬ v < nI 0 ∧ v ≤ nI 99) ∧ (¬ p < nI 0 ∧ p ≤ nI 99) ∧ (¬ q < nI 0 ∧ q ≤ nI 99)) ∧ y ≠ 60)) ∧ r = nI 0 ∧ (o, f) = (some v7, vp_updL of 0 v8.toInt64)))
    (hm : (b, gl', y', th) = mlV nt gl y x v p q) :
    th = r ∧ (r = 0 → f 0 = b.toInt64) ∧ oel o (fun _ => nI (y + 1)) (nI y) = nI y' ∧ RI z st (oel o (fun _ => adS sd (y + 1) (nn x) (nn v) (nn p) (nn q)) sd) (oel o (fun _ => adB be (y + 1) (nn x) (nn v) (nn p) (nn q)) be) w y' sg gl' fi ip se nt wb := by
  obtain ⟨t1, t2, t3⟩ := RI_tl I
  have hy := I.A.T.yN
  unfold mlV at hm
  rw [t1] at hc
  rcases hc with ⟨E, hE, hr, hu⟩ | ⟨v7, v8, ⟨h8, h1, ⟨g1, g2, g3, g4⟩, h3⟩, hr, hu⟩
  · cases hu
    rcases hE with ⟨rfl, q9⟩ | ⟨rfl, q9, q2⟩ | ⟨rfl, q9, ⟨g1, g2, g3, g4⟩, q3⟩
    · rw [if_neg q9] at hm
      cases hm
      have hr : r = nI 1 := hr
      rw [hr]
      exact ⟨rfl, fun z => absurd z (by decide +kernel), rfl, I⟩
    · have hr : r = nI 2 := hr
      have e : rtN x v p q = 0 := by
        unfold rtN
        rcases q2 with q2 | q2 | q2 | q2
        · rw [if_pos (wiN_0.mpr q2)]
        · rw [if_pos (wiN_0.mpr q2)]; split <;> rfl
        · rw [if_pos (wiN_0.mpr q2)]; split; rfl; split <;> rfl
        · rw [if_pos (wiN_0.mpr q2)]; split; rfl; split; rfl; split <;> rfl
      rw [if_pos q9, if_pos e] at hm
      cases hm
      rw [hr]
      exact ⟨rfl, fun z => absurd z (by decide +kernel), rfl, I⟩
    · have hr : r = nI 3 := hr
      have e : rtN x v p q = 1 := by
        unfold rtN
        rw [if_neg (wiN_1 g1), if_neg (wiN_1 g2), if_neg (wiN_1 g3), if_neg (wiN_1 g4)]
      rw [if_pos q9, e, if_neg (by decide), if_pos q3] at hm
      cases hm
      rw [hr]
      exact ⟨rfl, fun z => absurd z (by decide +kernel), rfl, I⟩
  · cases hu
    have e : rtN x v p q = 1 := by
      unfold rtN
      rw [if_neg (wiN_1 g1), if_neg (wiN_1 g2), if_neg (wiN_1 g3), if_neg (wiN_1 g4)]
    rw [if_pos h1, e, if_neg (by decide), if_neg h3] at hm
    cases hm
    obtain ⟨k1, -, a1, rfl⟩ := wiN_nat (wiN_1 g1) (by decide) (by decide)
    obtain ⟨k2, -, a2, rfl⟩ := wiN_nat (wiN_1 g2) (by decide) (by decide)
    obtain ⟨k3, -, a3, rfl⟩ := wiN_nat (wiN_1 g3) (by decide) (by decide)
    obtain ⟨k4, -, a4, rfl⟩ := wiN_nat (wiN_1 g4) (by decide) (by decide)
    refine ⟨hr.symm, fun _ => by rw [pk_uLs, h8], rfl, ?_⟩
    rw [nn_nI (by omega), nn_nI (by omega), nn_nI (by omega), nn_nI (by omega)]
    exact RI_set I h1 (Rt_tile I.A.T (by omega) (by omega) (by omega) (by omega) (by omega)) I.A.w1 I.A.w3
