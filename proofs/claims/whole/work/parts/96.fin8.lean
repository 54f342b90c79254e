theorem fin_pre {z he : FS} {st sd sg gl fi ip se : Nat → Int32} {be : Nat → Int64} {w y : Nat} {nt wb : Int32} (I : RI z st sd be w y sg gl fi ip se nt wb) (h : okHe he.1) :
    okO sd st be (nI w) (GF st sd be sg gl (shV fi se) w y) ∧ GF st sd be sg gl (shV fi se) w y (csL sd st be (nI w) z.1 (fsW he) 1764) ∧ cS fi se < 2 ^ 30 ∧ okCe (wiC he.1 1764) ∧ (∀ i, i < 1764 → sdN (z.1 i) ≠ 0 → 43 ≤ i ∧ i ≤ 1720) := by
  refine ⟨okO_GF I.A.T.yN, ⟨[], ⟨List.Pairwise.nil, List.Pairwise.nil, fun c hc => by cases hc⟩, cs_node I.A h⟩, ?_, ?_, fun i hi hs => ?_⟩
  · have := plN_le I.A.F.C.fiN I.A.F.C.seN 1600 (Nat.le_refl _)
    rw [cS_pl I.A.F.C.fiN]
    omega
  · obtain ⟨fi0, ip0, se0, F0, -⟩ := he_wipe h (st := st) (sd := sd) (be := be) (w := w) (y := y)
    exact Rc_okCe F0.C
  · by_cases o : onW i
    · rw [I.A.F.C.wal i hi o] at hs
      exact absurd (by decide +kernel) hs
    · obtain ⟨p, hp, rfl⟩ := pm_of hi o
      exact ⟨(pm_in hp).1, (pm_in hp).2.1⟩
theorem cs_he {z he : FS} {st sd sg gl fi ip se : Nat → Int32} {be : Nat → Int64} {w y : Nat} {nt wb : Int32} (I : RI z st sd be w y sg gl fi ip se nt wb) (h : okHe he.1) : okHe (csL sd st be (nI w) z.1 (fsW he) 1764).1 := by
  obtain ⟨fi1, ip1, se1, nt1, A, -⟩ := cs_node I.A h
  exact ⟨fi1, ip1, se1, A.F.C⟩
theorem finals_same {z he : FS} {st sd sg gl fi ip se : Nat → Int32} {be : Nat → Int64} {w y : Nat} {nt wb x r b th : Int32} {o : Option (FS × KS)} {f of : Nat → Int64} {pa pr mk nx hd ot ro si fr : Nat → Int32} {fp ft : Int32} (I : RI z st sd be w y sg gl fi ip se nt wb) (h : okHe he.1)
    (hc : (∃ E, ((E = eISE ∧ cS fi se = 0) ∨ (E = eIAE ∧ cS fi se ≠ 0 ∧ (x < nI 1 ∨ ¬ x ≤ nI 30))) ∧ r = nI (exC [eISE, eIAE] E) ∧ (o, f) = (none, of)) ∨ (∃ (v7 : FS × KS) (v8 : Int32), ((v8 = nuV (spF sd st be (nI w) (nn x - cS fi se) (csL sd st be (nI w) z.1 (fsW he) 1764) 0 0 (nI 0) (pa, pr, mk, nx, flI hd (nI 0) 512, 1, nI 0)) ∧ v7.1 = (csL sd st be (nI w) z.1 (fsW he) 1764)) ∧ (cS fi se ≠ 0 ∧ (¬ x < nI 1 ∧ x ≤ nI 30))) ∧ r = nI 0 ∧ (o, f) = (some v7, vp_updL of 0 v8.toInt64)))
    (hm : (plN' fi se 1600 = 0 ∧ b = nI 0 ∧ th = nI 1) ∨ (plN' fi se 1600 ≠ 0 ∧ wiN x (nI 1) (nI 30) = 0 ∧ b = nI 0 ∧ th = nI 2) ∨ (plN' fi se 1600 ≠ 0 ∧ wiN x (nI 1) (nI 30) ≠ 0 ∧ th = nI 0 ∧ ((∃ u, itX (fnB sg gl fi se (nI w) y (plN' fi se 1600) (moN (nn x) (plN' fi se 1600))) 501 0 ((ro, upd si 0 (nI 0), fr, 1), ot, fp, ft, 0) = (some 0, u) ∧ b = -1) ∨ (∃ u, itX (fnB sg gl fi se (nI w) y (plN' fi se 1600) (moN (nn x) (plN' fi se 1600))) 501 0 ((ro, upd si 0 (nI 0), fr, 1), ot, fp, ft, 0) = (none, u) ∧ b = nI u.2.2.2.2)))) :
    th = r ∧ (r = 0 → f 0 = b.toInt64) ∧ okHe (oel o (fun v7 => v7.1.1) he.1) := by
  rw [cS_pl I.A.F.C.fiN] at hc
  have hw := wiN_0 (x := x) (a := nI 1) (b := nI 30)
  rcases hc with ⟨E, hE, hr, hu⟩ | ⟨v7, v8, ⟨⟨h8, h7⟩, h1, h2⟩, hr, hu⟩
  · cases hu
    rcases hE with ⟨rfl, q⟩ | ⟨rfl, q, q2⟩
    · rcases hm with ⟨-, -, e⟩ | ⟨m1, -⟩ | ⟨m1, -⟩
      · rw [e, show r = nI 1 from hr]
        exact ⟨rfl, fun z => absurd z (by decide +kernel), h⟩
      · exact absurd q m1
      · exact absurd q m1
    · rcases hm with ⟨m1, -⟩ | ⟨-, -, -, e⟩ | ⟨m1, m2, -⟩
      · exact absurd m1 q
      · rw [e, show r = nI 2 from hr]
        exact ⟨rfl, fun z => absurd z (by decide +kernel), h⟩
      · exact absurd (hw.mpr q2) m2
  · cases hu
    rcases hm with ⟨m1, -⟩ | ⟨-, m2, -⟩ | ⟨m1, m2, e2, hb⟩
    · exact absurd m1 h1
    · exact absurd m2 (wiN_1 h2)
    · obtain ⟨k, k1, k2, rfl⟩ := wiN_nat m2 (by decide) (by decide)
      have hk : nn (nI k) = k := nn_nI (by omega)
      rw [hk] at h8 hb
      by_cases c : k < plN' fi se 1600
      · have hmo : moN k (plN' fi se 1600) = plN' fi se 1600 + (k - plN' fi se 1600) := by
          unfold moN
          rw [if_pos c]
          omega
        have e := fin_val (pa := pa) (pr := pr) (mk := mk) (nx := nx) (hd := hd) I.A.T.yN (show k - plN' fi se 1600 ≤ 29 by omega) hmo (fun p _ => rfl) (cs_node I.A h) hb
        rw [e2, hr]
        refine ⟨rfl, fun _ => ?_, ?_⟩
        · rw [← e, ← h8]
          exact pk_uLs
        · show okHe v7.1.1
          rw [h7]
          exact cs_he I h
      · have hmo : moN k (plN' fi se 1600) = plN' fi se 1600 + (k - plN' fi se 1600) := by
          unfold moN
          rw [if_neg c]
          omega
        have e := fin_val (pa := pa) (pr := pr) (mk := mk) (nx := nx) (hd := hd) I.A.T.yN (show k - plN' fi se 1600 ≤ 29 by omega) hmo (fun p _ => rfl) (cs_node I.A h) hb
        rw [e2, hr]
        refine ⟨rfl, fun _ => ?_, ?_⟩
        · rw [← e, ← h8]
          exact pk_uLs
        · show okHe v7.1.1
          rw [h7]
          exact cs_he I h
