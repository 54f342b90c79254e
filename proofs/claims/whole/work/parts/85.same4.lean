theorem mr_S (f : Nat → Nat) (v : Int32) (z : PS) (i : Nat) : mrL f v z (i + 1) = mpP (40 * 0 + f i) (nI (1 + btN v i)) (mrL f v z i) := rfl
theorem mk_S (a : Nat) (z : PS) (j : Nat) : mkL a z (j + 1) = mpP (40 * (j + 1) + a) (nI 3) (mkL a z j) := rfl
theorem plN_pm {a b : Nat} (ha : a < 40) : plN a b = pm (40 * b + a) := by
  unfold pm
  show (b + 1) * 42 + a + 1 = _
  omega
theorem Rf_row {z : FS} {st sd fi ip se : Nat → Int32} {be : Nat → Int64} {w y : Nat} {nt wb : Int32} (F : Rf z st sd be w y fi ip se nt wb) (hy : 3 ≤ y) (h0 : ∀ p, p < 1600 → fi p = 0) (f : Nat → Nat) (v : Int32) : ∀ n, (∀ i, i < n → f i < 40) → (∀ i j, i < n → j < n → f i = f j → i = j) →
    Rf (rwL sd st be (nI w) f v z n) st sd be w y (mrL f v (fi, ip, se, nt) n).1 (mrL f v (fi, ip, se, nt) n).2.1 (mrL f v (fi, ip, se, nt) n).2.2.1 (mrL f v (fi, ip, se, nt) n).2.2.2 wb ∧ ∀ p, p < 1600 → (∀ j, j < n → p ≠ f j) → (mrL f v (fi, ip, se, nt) n).1 p = 0
  | 0, _, _ => ⟨F, fun p hp _ => h0 p hp⟩
  | n + 1, h1, h2 => by
    obtain ⟨a, b⟩ := Rf_row F hy h0 f v n (fun i hi => h1 i (by omega)) (fun i j hi hj => h2 i j (by omega) (by omega))
    have hf := h1 n (by omega)
    have hb := btN_lt v n
    have he : (mrL f v (fi, ip, se, nt) n).1 (f n) = 0 := b (f n) (by omega) (fun j hj q => by have := h2 n j (by omega) (by omega) q; omega)
    rw [mr_S]
    generalize mrL f v (fi, ip, se, nt) n = m at a b he
    have s := Rf_seed a (p := f n) (t := 1 + btN v n) (by omega) he (by omega) (by omega) (by omega)
    have e0 : 40 * 0 + f n = f n := by omega
    rw [rwL, plN_pm hf, e0]
    unfold mpP
    refine ⟨s, fun p hp hj => ?_⟩
    show upd m.1 (f n) (nI (1 + btN v n)) p = 0
    rw [pk_un (hj n (by omega))]
    exact b p hp (fun j hj2 => hj j (by omega))
theorem Rf_col {z : FS} {st sd : Nat → Int32} {be : Nat → Int64} {w y : Nat} {wb : Int32} {m : PS} (F : Rf z st sd be w y m.1 m.2.1 m.2.2.1 m.2.2.2 wb) (hy : 3 ≤ y) (hy6 : y ≤ 60) {a : Nat} (ha : a < 40) (h0 : ∀ p, p < 1600 → 40 ≤ p → m.1 p = 0) : ∀ n, n ≤ 39 →
    Rf (pcL sd st be (nI w) a z n) st sd be w y (mkL a m n).1 (mkL a m n).2.1 (mkL a m n).2.2.1 (mkL a m n).2.2.2 wb ∧ ∀ p, p < 1600 → 40 * (n + 1) ≤ p → (mkL a m n).1 p = 0
  | 0, _ => ⟨F, fun p hp h => h0 p hp (by omega)⟩
  | n + 1, h => by
    obtain ⟨q, b⟩ := Rf_col F hy hy6 ha h0 n (by omega)
    have he : (mkL a m n).1 (40 * (n + 1) + a) = 0 := b _ (by omega) (by omega)
    rw [mk_S]
    generalize mkL a m n = m2 at q b he
    have s := Rf_seed q (p := 40 * (n + 1) + a) (t := 3) (by omega) he (by omega) hy (by omega)
    rw [pcL, plN_pm ha]
    unfold mpP
    refine ⟨s, fun p hp hj => ?_⟩
    show upd m2.1 (40 * (n + 1) + a) (nI 3) p = 0
    rw [pk_un (by omega)]
    exact b p hp (by omega)
theorem shl_pow : ∀ k, k < 31 → nI 1 <<< (nI k &&& 31) = nI (2 ^ k) ∧ (2 : Nat) ^ k < 2 ^ 31 ∧ 1 ≤ (2 : Nat) ^ k := by decide +kernel
theorem top_iff {k : Nat} {v : Int32} (hk : k < 31) (h0 : ¬ v < 0) : (nI 1 <<< (nI k &&& 31) ≤ v ↔ ¬ v ≤ (nI 1 <<< (nI k &&& 31)) - nI 1) := by
  obtain ⟨e, l, o⟩ := shl_pow k hk
  obtain ⟨j, hj, rfl⟩ := nI_of h0
  rw [e, pk_sub o, nI_leI l hj, nI_leI hj (by omega)]
  omega
theorem rule_set {z : FS} {st sd sg gl fi ip se st' sd' sg' gl' : Nat → Int32} {be be' : Nat → Int64} {w y : Nat} {nt wb : Int32} (I : RI z st sd be w y sg gl fi ip se nt wb) (h : nt ≤ 0) (T : Rt st' sd' be' sg' gl' 7) (f : Nat → Nat) (v : Int32) {n a c : Nat} (hf : ∀ i, i < n → f i < 40) (hi : ∀ i j, i < n → j < n → f i = f j → i = j) (ha : a < 40) (hc : c ≤ 39) :
    RI (pcL sd' st' be' (nI 2) a (rwL sd' st' be' (nI 2) f v z n) c) st' sd' be' 2 7 sg' gl' (mkL a (mrL f v (fi, ip, se, nt) n) c).1 (mkL a (mrL f v (fi, ip, se, nt) n) c).2.1 (mkL a (mrL f v (fi, ip, se, nt) n) c).2.2.1 (mkL a (mrL f v (fi, ip, se, nt) n) c).2.2.2 wb := by
  have e0 := (RI_tl I).2.2.mp h
  have I0 := RI_set I h T (w' := 2) (by decide) (by decide)
  obtain ⟨a1, a2⟩ := Rf_row I0.A.F (by decide) (cT_0 I.A.F.C.fiN e0) f v n hf hi
  obtain ⟨b1, b2⟩ := Rf_col a1 (by decide) (by decide) ha (fun p hp h4 => a2 p hp (fun j hj q => by have := hf j hj; omega)) c hc
  exact ⟨⟨T, b1, by decide, by decide⟩, fun _ => I.em e0⟩
theorem counter_same {z : FS} {st sd sg gl fi ip se : Nat → Int32} {be : Nat → Int64} {w y y' : Nat} {nt wb x v t r b te' th : Int32} {o : Option FS} {f of : Nat → Int64} {sg' gl' : Nat → Int32} {m : PS} (I : RI z st sd be w y sg gl fi ip se nt wb)
    (hc : (∃ E, ((E = eISE ∧ ¬ z.2.2.2.1 0 ≤ 0) ∨ (E = eIAE ∧ z.2.2.2.1 0 ≤ 0 ∧ ((x < nI 1 ∨ ¬ x ≤ nI 20) ∨ (t < nI 1 ∨ ¬ t ≤ nI 40) ∨ (v < nI 0 ∨ ¬ v ≤ (nI 1 <<< (x &&& 31)) - nI 1)))) ∧ r = nI (exC [eISE, eIAE] E) ∧ (o, f) = (none, of)) ∨ (∃ (v7 : FS) (v8 : Int32), ((v8 = nI 7 ∧ v7 = pcL (ctSd sd) (bgS st) (ctBe be) (nI 2) (nn x) (rwL (ctSd sd) (bgS st) (ctBe be) (nI 2) (fun i => nn x - 1 - i) v z (nn x)) (nn t - 1)) ∧ (z.2.2.2.1 0 ≤ 0 ∧ (¬ x < nI 1 ∧ x ≤ nI 20) ∧ (¬ t < nI 1 ∧ t ≤ nI 40) ∧ (¬ v < nI 0 ∧ v ≤ (nI 1 <<< (x &&& 31)) - nI 1))) ∧ r = nI 0 ∧ (o, f) = (some v7, vp_updL of 0 v8.toInt64)))
    (hm : (b, sg', gl', y', te', m, th) = mcoV sg gl y (nI w) (fi, ip, se, nt) x v t) :
    th = r ∧ (r = 0 → f 0 = b.toInt64) ∧ ∃ w', te' = nI w' ∧ oel o (fun _ => nI 2) (nI w) = nI w' ∧ oel o (fun _ => nI 7) (nI y) = nI y' ∧ RI (ozz o z) (oel o (fun _ => bgS st) st) (oel o (fun _ => ctSd sd) sd) (oel o (fun _ => ctBe be) be) w' y' sg' gl' m.1 m.2.1 m.2.2.1 m.2.2.2 wb := by
  obtain ⟨t1, t2, t3⟩ := RI_tl I
  unfold mcoV at hm
  rw [t1] at hc
  rcases hc with ⟨E, hE, hr, hu⟩ | ⟨v7, v8, ⟨⟨h8, h7⟩, h1, h2, h3, h4⟩, hr, hu⟩
  · cases hu
    rcases hE with ⟨rfl, q⟩ | ⟨rfl, q, q2⟩
    · rw [if_neg q] at hm
      cases hm
      rw [show r = nI 1 from hr]
      exact ⟨rfl, fun z => absurd z (by decide +kernel), w, rfl, rfl, rfl, I⟩
    · have e : crN x v t = 0 := by
        unfold crN
        by_cases c1 : wiN x (nI 1) (nI 20) = 0
        · rw [if_pos c1]
        · rw [if_neg c1]
          by_cases c2 : wiN t (nI 1) (nI 40) = 0
          · rw [if_pos c2]
          · rw [if_neg c2]
            by_cases c3 : v < 0
            · rw [if_pos c3]
            · rw [if_neg c3]
              obtain ⟨k, k1, k2, rfl⟩ := wiN_nat c1 (by decide) (by decide)
              rw [if_pos]
              refine (top_iff (by omega) c3).mpr ?_
              rcases q2 with q2 | q2 | q2
              · exact absurd (wiN_0.mpr q2) c1
              · exact absurd (wiN_0.mpr q2) c2
              · exact q2.resolve_left (fun z => c3 (by rw [← nI_0]; exact z))
      rw [if_pos q, if_pos e] at hm
      cases hm
      rw [show r = nI 2 from hr]
      exact ⟨rfl, fun z => absurd z (by decide +kernel), w, rfl, rfl, rfl, I⟩
  · cases hu
    obtain ⟨k, k1, k2, rfl⟩ := wiN_nat (wiN_1 h2) (by decide) (by decide)
    obtain ⟨j, j1, j2, rfl⟩ := wiN_nat (wiN_1 h3) (by decide) (by decide)
    have hv : ¬ v < 0 := fun q => h4.1 (by rw [nI_0]; exact q)
    have e : crN (nI k) v (nI j) = 1 := by
      unfold crN
      rw [if_neg (wiN_1 h2), if_neg (wiN_1 h3), if_neg hv, if_neg (fun q => (top_iff (by omega) hv).mp q h4.2)]
    rw [if_pos h1, e, if_neg (by decide), nn_nI (show k < 2 ^ 31 by omega), nn_nI (show j < 2 ^ 31 by omega)] at hm
    rw [nn_nI (show k < 2 ^ 31 by omega), nn_nI (show j < 2 ^ 31 by omega)] at h7
    cases hm
    rw [hr, h8, ozz_some, h7]
    refine ⟨rfl, fun _ => pk_uLs, 2, rfl, rfl, rfl, ?_⟩
    exact rule_set I h1 (Rt_counter I.A.T) (fun i => k - 1 - i) v (fun i hi => by show k - 1 - i < 40; omega) (fun i j hi hj q => by have q : k - 1 - i = k - 1 - j := q; omega) (by omega) (by omega)
theorem rule_same {z : FS} {st sd sg gl fi ip se : Nat → Int32} {be : Nat → Int64} {w y y' : Nat} {nt wb x v t u r b te' th : Int32} {o : Option FS} {f of : Nat → Int64} {sg' gl' : Nat → Int32} {m : PS} (I : RI z st sd be w y sg gl fi ip se nt wb)
    (hc : (∃ E, ((E = eISE ∧ ¬ z.2.2.2.1 0 ≤ 0) ∨ (E = eIAE ∧ z.2.2.2.1 0 ≤ 0 ∧ ((x < nI 1 ∨ ¬ x ≤ nI 30) ∨ (v < nI 0 ∨ ¬ v ≤ nI 15) ∨ (t < nI 1 ∨ ¬ t ≤ nI 40) ∨ (u < nI 0 ∨ ¬ u ≤ (nI 1 <<< (x &&& 31)) - nI 1)))) ∧ r = nI (exC [eISE, eIAE] E) ∧ (o, f) = (none, of)) ∨ (∃ (v7 : FS) (v8 : Int32), ((v8 = nI 7 ∧ v7 = pcL (ruSd sd v) (bgS st) (ruBe be v) (nI 2) (0) (rwL (ruSd sd v) (bgS st) (ruBe be v) (nI 2) (fun i => i + 1) u z (nn x)) (nn t - 1)) ∧ (z.2.2.2.1 0 ≤ 0 ∧ (¬ x < nI 1 ∧ x ≤ nI 30) ∧ (¬ v < nI 0 ∧ v ≤ nI 15) ∧ (¬ t < nI 1 ∧ t ≤ nI 40) ∧ (¬ u < nI 0 ∧ u ≤ (nI 1 <<< (x &&& 31)) - nI 1))) ∧ r = nI 0 ∧ (o, f) = (some v7, vp_updL of 0 v8.toInt64)))
    (hm : (b, sg', gl', y', te', m, th) = mruV sg gl y (nI w) (fi, ip, se, nt) x v t u) :
    th = r ∧ (r = 0 → f 0 = b.toInt64) ∧ ∃ w', te' = nI w' ∧ oel o (fun _ => nI 2) (nI w) = nI w' ∧ oel o (fun _ => nI 7) (nI y) = nI y' ∧ RI (ozz o z) (oel o (fun _ => bgS st) st) (oel o (fun _ => ruSd sd v) sd) (oel o (fun _ => ruBe be v) be) w' y' sg' gl' m.1 m.2.1 m.2.2.1 m.2.2.2 wb := by
  obtain ⟨t1, t2, t3⟩ := RI_tl I
  unfold mruV at hm
  rw [t1] at hc
  rcases hc with ⟨E, hE, hr, hu⟩ | ⟨v7, v8, ⟨⟨h8, h7⟩, h1, h2, h5, h3, h4⟩, hr, hu⟩
  · cases hu
    rcases hE with ⟨rfl, q⟩ | ⟨rfl, q, q2⟩
    · rw [if_neg q] at hm
      cases hm
      rw [show r = nI 1 from hr]
      exact ⟨rfl, fun z => absurd z (by decide +kernel), w, rfl, rfl, rfl, I⟩
    · have e : rrN x v t u = 0 := by
        unfold rrN
        by_cases c1 : wiN x (nI 1) (nI 30) = 0
        · rw [if_pos c1]
        · rw [if_neg c1]
          by_cases c4 : wiN v (nI 0) (nI 15) = 0
          · rw [if_pos c4]
          · rw [if_neg c4]
            by_cases c2 : wiN t (nI 1) (nI 40) = 0
            · rw [if_pos c2]
            · rw [if_neg c2]
              by_cases c3 : u < 0
              · rw [if_pos c3]
              · rw [if_neg c3]
                obtain ⟨k, k1, k2, rfl⟩ := wiN_nat c1 (by decide) (by decide)
                rw [if_pos]
                refine (top_iff (by omega) c3).mpr ?_
                rcases q2 with q2 | q2 | q2 | q2
                · exact absurd (wiN_0.mpr q2) c1
                · exact absurd (wiN_0.mpr q2) c4
                · exact absurd (wiN_0.mpr q2) c2
                · exact q2.resolve_left (fun z => c3 (by rw [← nI_0]; exact z))
      rw [if_pos q, if_pos e] at hm
      cases hm
      rw [show r = nI 2 from hr]
      exact ⟨rfl, fun z => absurd z (by decide +kernel), w, rfl, rfl, rfl, I⟩
  · cases hu
    obtain ⟨k, k1, k2, rfl⟩ := wiN_nat (wiN_1 h2) (by decide) (by decide)
    obtain ⟨j, j1, j2, rfl⟩ := wiN_nat (wiN_1 h3) (by decide) (by decide)
    have hv : ¬ u < 0 := fun q => h4.1 (by rw [nI_0]; exact q)
    have e : rrN (nI k) v (nI j) u = 1 := by
      unfold rrN
      rw [if_neg (wiN_1 h2), if_neg (wiN_1 h5), if_neg (wiN_1 h3), if_neg hv, if_neg (fun q => (top_iff (by omega) hv).mp q h4.2)]
    rw [if_pos h1, e, if_neg (by decide), nn_nI (show k < 2 ^ 31 by omega), nn_nI (show j < 2 ^ 31 by omega)] at hm
    rw [nn_nI (show k < 2 ^ 31 by omega), nn_nI (show j < 2 ^ 31 by omega)] at h7
    cases hm
    rw [hr, h8, ozz_some, h7]
    refine ⟨rfl, fun _ => pk_uLs, 2, rfl, rfl, rfl, ?_⟩
    exact rule_set I h1 (Rt_rule v I.A.T) (fun i => i + 1) u (fun i hi => by show i + 1 < 40; omega) (fun i j hi hj q => by have q : i + 1 = j + 1 := q; omega) (by omega) (by omega)
