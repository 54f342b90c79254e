theorem pt_pm {p t k : Nat} (hp : p < 1600) (ht : t ≤ 60) (hk : k ≤ 2) : ptN (pm p * 64 + t) k = if k = 0 then p % 40 else if k = 1 then p / 40 else t := by
  have := pm_in hp
  unfold ptN
  rw [show (pm p * 64 + t) / 64 = pm p by omega, show (pm p * 64 + t) % 64 = t by omega, this.2.2.2.2.1, this.2.2.2.2.2, Nat.add_sub_cancel, Nat.add_sub_cancel]
theorem front_same {z : FS} {st sd sg gl fi ip se : Nat → Int32} {be : Nat → Int64} {w y : Nat} {nt wb x v r b fp ft fp' ft' th : Int32} {o : Option Unit} {f of : Nat → Int64} (I : RI z st sd be w y sg gl fi ip se nt wb)
    (hc : (∃ E, ((E = eIOB ∧ (x < 0 ∨ ¬ x < z.2.2.2.2.1)) ∨ (E = eIAE ∧ (¬ x < 0 ∧ x < z.2.2.2.2.1) ∧ (v < nI 0 ∨ ¬ v ≤ nI 2))) ∧ r = nI (exC [eIOB, eIAE] E) ∧ (o, f) = (none, of)) ∨ (∃ (v7 : Unit) (v8 : Int32), ((v8 = nI (ptN (nn (pnV z.2.1 z.2.2.1 x)) (nn v))) ∧ ((¬ x < 0 ∧ x < z.2.2.2.2.1) ∧ (¬ v < nI 0 ∧ v ≤ nI 2))) ∧ r = nI 0 ∧ (o, f) = (some v7, vp_updL of 0 v8.toInt64)))
    (hm : (x < 0 ∧ b = nI 0 ∧ (fp', ft', th) = (fp, ft, nI 1)) ∨ (¬ x < 0 ∧ ∃ (o : Option Nat) (u : FN), (o, u) = fdV sg gl fi (nI w) x y fp ft ∧ fp' = u.2.1 ∧ ft' = u.2.2 ∧ (b, th) = mfR (fdR (o, u)) (nn x) v u.2)) :
    th = r ∧ (r = 0 → f 0 = b.toInt64) := by
  obtain ⟨n1, n2⟩ := RA_np I.A
  have hy := I.A.T.yN
  by_cases cx : x < 0
  · obtain ⟨-, hb, hm⟩ := hm.resolve_right (fun q => q.1 cx)
    cases hm
    rcases hc with ⟨E, hE, hr, hu⟩ | ⟨v7, v8, ⟨h8, h1, h2⟩, hr, hu⟩
    · rcases hE with ⟨rfl, q⟩ | ⟨rfl, q, q2⟩
      · rw [show r = nI 1 from hr]
        exact ⟨rfl, fun z => absurd z (by decide +kernel)⟩
      · exact absurd cx q.1
    · exact absurd cx h1.1
  · obtain ⟨-, o', u, g1, g2, g3, g4⟩ := hm.resolve_left (fun q => cx q.1)
    obtain ⟨k, hk, rfl⟩ := nI_of cx
    rw [nn_nI hk] at g4
    rw [n1] at hc
    have hR := fdV_R g1
    rw [hR] at g4
    by_cases cl : k < (frA sg gl fi w y).length
    · obtain ⟨p, t, a1, a2, a3, a4, a5, a6, a7⟩ := RA_pair I.A cl
      have e1 := fd_at (fp := fp) (ft := ft) hy a1
      rw [← g1] at e1
      have e2 : u = (k + 1, nI p, nI t) := congrArg Prod.snd e1
      have hlt : nI k < nI (frA sg gl fi w y).length := nI_lt cl (by omega)
      rw [e2] at g4
      unfold mfR at g4
      rw [if_neg (show ¬ ((k + 1, nI p, nI t) : FN).1 ≤ k from Nat.not_succ_le_self k)] at g4
      rcases hc with ⟨E, hE, hr, hu⟩ | ⟨v7, v8, ⟨h8, h1, h2⟩, hr, hu⟩
      · rcases hE with ⟨rfl, q⟩ | ⟨rfl, q, q2⟩
        · exact absurd (q.resolve_left cx) (fun z => z hlt)
        · rw [if_pos (wiN_0.mpr q2)] at g4
          cases g4
          rw [show r = nI 2 from hr]
          exact ⟨rfl, fun z => absurd z (by decide +kernel)⟩
      · rw [if_neg (wiN_1 h2)] at g4
        cases hu
        obtain ⟨j, j1, j2, rfl⟩ := wiN_nat (wiN_1 h2) (by decide) (by decide)
        have hpm := pm_in a3
        rw [a2, nn_nI (by omega), nn_nI (by omega), pt_pm a3 (by omega) j2] at h8
        cases g4
        refine ⟨hr.symm, fun _ => ?_⟩
        rw [pk_uLs, h8]
        congr 1
        rw [nn_nI (show p < 2 ^ 31 by omega)]
        rcases (show j = 0 ∨ j = 1 ∨ j = 2 by omega) with rfl | rfl | rfl
        · rw [if_pos rfl, if_pos nI_0]
        · rw [if_neg (by decide), if_pos rfl, if_neg (by decide +kernel), if_pos rfl]
        · rw [if_neg (by decide), if_neg (by decide), if_neg (by decide +kernel), if_neg (by decide +kernel)]
    · have hnl : ¬ nI k < nI (frA sg gl fi w y).length := nI_nlt (by omega) hk
      have hu1 : u.1 ≤ k := by
        rcases Nat.lt_or_ge (k + 1) (2 ^ 31) with d | d
        · have := (fd_no (sg := sg) (gl := gl) (fi := fi) (te := nI w) (y := y) (k := k) (fp := fp) (ft := ft) hy (show (frL sg gl fi (nI w) y 1600 0).length ≤ k from Nat.le_of_not_lt cl) d).2
          rw [← g1] at this
          have this : u.1 = (frA sg gl fi w y).length := this
          omega
        · have := fdV_le (sg := sg) (gl := gl) (fi := fi) (te := nI w) (x := nI k) (y := y) (fp := fp) (ft := ft) hy
          rw [← g1] at this
          have this : u.1 ≤ 96000 := this
          omega
      unfold mfR at g4
      rw [if_pos hu1] at g4
      cases g4
      rcases hc with ⟨E, hE, hr, hu⟩ | ⟨v7, v8, ⟨h8, h1, h2⟩, hr, hu⟩
      · rcases hE with ⟨rfl, q⟩ | ⟨rfl, q, q2⟩
        · rw [show r = nI 1 from hr]
          exact ⟨rfl, fun z => absurd z (by decide +kernel)⟩
        · exact absurd q.2 hnl
      · exact absurd h1.2 hnl
theorem at_same {z : FS} {st sd sg gl fi ip se : Nat → Int32} {be : Nat → Int64} {w y : Nat} {nt wb x v t r b th : Int32} {o : Option Unit} {f of : Nat → Int64} (I : RI z st sd be w y sg gl fi ip se nt wb)
    (hc : (∃ E, ((E = eIOB ∧ (x < 0 ∨ nI 40 ≤ x ∨ v < 0 ∨ ¬ v < nI 40)) ∨ (E = eIAE ∧ (¬ x < 0 ∧ ¬ nI 40 ≤ x ∧ ¬ v < 0 ∧ v < nI 40) ∧ (t < nI 0 ∨ ¬ t ≤ nI 3))) ∧ r = nI (exC [eIOB, eIAE] E) ∧ (o, f) = (none, of)) ∨ (∃ (v7 : Unit) (v8 : Int32), ((v8 = atV z.1 (plO x v) t) ∧ ((¬ x < 0 ∧ ¬ nI 40 ≤ x ∧ ¬ v < 0 ∧ v < nI 40) ∧ (¬ t < nI 0 ∧ t ≤ nI 3))) ∧ r = nI 0 ∧ (o, f) = (some v7, vp_updL of 0 v8.toInt64)))
    (hm : (b, th) = atM fi ip se x v t) : th = r ∧ (r = 0 → f 0 = b.toInt64) := by
  unfold atM at hm
  rcases hc with ⟨E, hE, hr, hu⟩ | ⟨v7, v8, ⟨h8, h1, h2⟩, hr, hu⟩
  · rcases hE with ⟨rfl, q⟩ | ⟨rfl, q, q2⟩
    · rw [if_pos (isP_0.mpr q)] at hm
      cases hm
      rw [show r = nI 1 from hr]
      exact ⟨rfl, fun z => absurd z (by decide +kernel)⟩
    · rw [if_neg (isP_1 q), if_pos (wiN_0.mpr q2)] at hm
      cases hm
      rw [show r = nI 2 from hr]
      exact ⟨rfl, fun z => absurd z (by decide +kernel)⟩
  · cases hu
    obtain ⟨e1, e2⟩ := plO_pm (isP_1 h1)
    rw [if_neg (isP_1 h1), if_neg (wiN_1 h2)] at hm
    cases hm
    refine ⟨hr.symm, fun _ => ?_⟩
    rw [pk_uLs, h8, e1]
    congr 1
    have hf := I.A.F.C.fiN _ e2
    unfold atV atW
    rw [Rc_ty I.A.F.C e2, nI_0]
    by_cases c0 : t = 0
    · rw [if_pos c0, if_pos c0, ← hf.1]
    · rw [if_neg c0, if_neg c0]
      by_cases c1 : fi (40 * nn v + nn x) = 0
      · rw [if_pos c1, if_pos ((Rc_0 I.A.F.C e2).2.mp c1)]
      · rw [if_neg c1, if_neg (fun q => c1 ((Rc_0 I.A.F.C e2).2.mpr q))]
        have hi := I.A.F.C.ipN _ e2 c1
        have hs := I.A.F.C.seN _ e2 c1
        rw [(Rc_in I.A.F.C e2 c1).1, (Rc_in I.A.F.C e2 c1).2, ← hi.1, ← hs.1, (ot_ou I.A.F.C e2 4 (Nat.le_refl _)).1]
theorem mcL_N {fi : Nat → Int32} {k : Nat} (hfi : okFi fi) (hk : k ≤ 60) : ∀ p, p ≤ 1600 → mcL fi (nI k) p = nI (smN (fun p => if nn (fi p) ≠ 0 ∧ (k = 0 ∨ nn (fi p) = k) then 1 else 0) p)
  | 0, _ => rfl
  | p + 1, h => by
    have hf := hfi p (by omega)
    rw [mcL, mcL_N hfi hk p (by omega), smN]
    unfold mcS
    by_cases c1 : fi p ≤ 0
    · have z : nn (fi p) = 0 := (jn_le0 (show nn (fi p) < 2 ^ 31 by omega)).mp (by rw [← hf.1]; exact c1)
      rw [if_pos c1, if_neg (fun q => q.1 z), nI_add]
    · have z : nn (fi p) ≠ 0 := fun q => c1 (by rw [hf.1, q, nI_0]; decide)
      rw [if_neg c1]
      by_cases c2 : nI k = 0
      · have : k = 0 := (jn_eq0 (by omega)).mp c2
        rw [if_pos c2, if_pos ⟨z, Or.inl this⟩, nI_add]
      · rw [if_neg c2]
        have c2' : k ≠ 0 := fun q => c2 (by rw [q, nI_0])
        by_cases c3 : fi p = nI k
        · rw [if_pos c3, if_pos ⟨z, Or.inr (by rw [c3, nn_nI (by omega)])⟩, nI_add]
        · rw [if_neg c3, if_neg (fun q => q.2.elim c2' (fun e => c3 (by rw [hf.1, e]))), nI_add]
theorem count_same {z : FS} {st sd sg gl fi ip se : Nat → Int32} {be : Nat → Int64} {w y : Nat} {nt wb x r b th : Int32} {o : Option Unit} {f of : Nat → Int64} (I : RI z st sd be w y sg gl fi ip se nt wb)
    (hc : (∃ E, (E = eIAE ∧ (x < nI 0 ∨ ¬ x ≤ nI y)) ∧ r = nI (exC [eIAE] E) ∧ (o, f) = (none, of)) ∨ (∃ (v7 : Unit) (v8 : Int32), ((v8 = z.2.2.2.1 (nn x)) ∧ (¬ x < nI 0 ∧ x ≤ nI y)) ∧ r = nI 0 ∧ (o, f) = (some v7, vp_updL of 0 v8.toInt64)))
    (hm : (b, th) = mcV fi (nI y) x) : th = r ∧ (r = 0 → f 0 = b.toInt64) := by
  have hy := I.A.T.yN
  unfold mcV at hm
  rcases hc with ⟨E, ⟨rfl, q⟩, hr, hu⟩ | ⟨v7, v8, ⟨h8, h1⟩, hr, hu⟩
  · rw [if_pos (wiN_0.mpr q)] at hm
    cases hm
    rw [show r = nI 1 from hr]
    exact ⟨rfl, fun z => absurd z (by decide +kernel)⟩
  · cases hu
    rw [if_neg (wiN_1 h1)] at hm
    obtain ⟨k, k1, k2, rfl⟩ := wiN_nat (wiN_1 h1) (by decide) (by omega)
    rw [mcL_N I.A.F.C.fiN (by omega) 1600 (Nat.le_refl _)] at hm
    have hb : b = nI (cT fi k) := congrArg Prod.fst hm
    have ht : th = nI 0 := congrArg Prod.snd hm
    rw [nn_nI (by omega), I.A.F.tl k (by omega)] at h8
    rw [ht, hr, hb, h8]
    exact ⟨rfl, fun _ => pk_uLs⟩
theorem clear_same {z : FS} {st sd sg gl fi ip se : Nat → Int32} {be : Nat → Int64} {w y : Nat} {nt wb : Int32} (I : RI z st sd be w y sg gl fi ip se nt wb) : z.2.2.2.1 0 = nt ∧ RI (fsW z) st sd be w y sg gl (flI fi (nI 0) 1600) ip se (nI 0) (nI 0) :=
  ⟨(RI_tl I).1, ⟨I.A.T, Rf_wipe I.A.F, I.A.w1, I.A.w3⟩, fun _ => rfl⟩
theorem reset_same {z : FS} {st sd sg gl fi ip se : Nat → Int32} {be : Nat → Int64} {w y : Nat} {nt wb : Int32} (I : RI z st sd be w y sg gl fi ip se nt wb) : RI (fsW z) (rsF (flI st (nI 0) 100) 1) sd (flJ be 0 400) 2 0 (flI sg (nI 0) 100) gl (flI fi (nI 0) 1600) ip se (nI 0) (nI 0) := by
  have h := (clear_same I).2
  refine RI_set h (by rw [nI_0]; decide) (Rt_reset I.A.T (fun i hi => ?_)) (by decide) (by decide)
  unfold rsF
  rw [if_neg (by omega)]
  exact if_pos hi
theorem frontier_same {z : FS} {st sd sg gl fi ip se : Nat → Int32} {be : Nat → Int64} {w y : Nat} {nt wb b fp ft : Int32} {u : FN} (I : RI z st sd be w y sg gl fi ip se nt wb) (hm : ∃ o : Option Nat, b = nI (fdR (o, u)) ∧ (o, u) = fdV sg gl fi (nI w) (-1) y fp ft) : z.2.2.2.2.1 = b := by
  obtain ⟨n1, n2⟩ := RA_np I.A
  obtain ⟨o, h1, h2⟩ := hm
  have h3 := fdV_m1 sg gl fi (nI w) I.A.T.yN fp ft
  rw [← h2] at h3
  rw [n1, h1, fdV_R h2]
  exact congrArg nI h3.symm
theorem le_max {x : Int32} (h : ¬ x < nI 0) : 0 ≤ x := by
  rw [nI_0, Int32.lt_iff_toInt_lt] at h
  rw [Int32.le_iff_toInt_le]
  omega
theorem RZ_RI {z v : FS} {st sd sg gl fi ip se : Nat → Int32} {be : Nat → Int64} {w y d : Nat} {nt wb fp ft : Int32} {m : MZ} (I : RI z st sd be w y sg gl fi ip se nt wb) (h : RZ v st sd be w y sg gl m) (hd : d = 0 → m.1 = fi ∧ m.2.2.2.2.1 = wb) (hd2 : d ≠ 0 → cT m.1 0 ≠ 0) : RI v st sd be w y sg gl m.1 m.2.1 m.2.2.1 m.2.2.2.1 m.2.2.2.2.1 := by
  refine ⟨h, fun q => ?_⟩
  by_cases c : d = 0
  · obtain ⟨a, b⟩ := hd c
    rw [b]
    rw [a] at q
    exact I.em q
  · exact absurd q (hd2 c)
theorem growC_same {z : FS} {st sd sg gl fi ip se : Nat → Int32} {be : Nat → Int64} {w y : Nat} {nt wb x r b fp ft : Int32} {o : Option FS} {f of : Nat → Int64} {u : MZ × Int32} (I : RI z st sd be w y sg gl fi ip se nt wb)
    (hc : (∃ E, (E = eIAE ∧ (x < nI 0 ∨ ¬ x ≤ nI 2147483647)) ∧ r = nI (exC [eIAE] E) ∧ (o, f) = (none, of)) ∨ (∃ (v7 : FS) (v8 : Int32), ((∃ d, d ≤ min (nn x) 1764 ∧ v8 = nI d ∧ v7 = gwL sd st be (nI w) z d ∧ (∀ j, j < d → ¬ (gwL sd st be (nI w) z j).2.2.2.2.1 ≤ 0) ∧ (d = min (nn x) 1764 ∨ v7.2.2.2.2.1 ≤ 0)) ∧ (¬ x < nI 0 ∧ x ≤ nI 2147483647)) ∧ r = nI 0 ∧ (o, f) = (some v7, vp_updL of 0 v8.toInt64)))
    (hm : (¬ 0 ≤ x ∧ b = nI 0 ∧ u = ((fi, ip, se, nt, wb, fp, ft), nI 1)) ∨ (0 ≤ x ∧ u.2 = nI 0 ∧ ∃ d, d ≤ nn x ∧ b = nI d ∧ ((d = nn x ∧ u.1 = mgL sg gl (nI w) y (fi, ip, se, nt, wb, fp, ft) d) ∨ (d < nn x ∧ mzN sg gl (nI w) (nI 0) y (mgL sg gl (nI w) y (fi, ip, se, nt, wb, fp, ft) d) = 0 ∧ u.1 = mzF sg gl (nI w) (nI 0) y (mgL sg gl (nI w) y (fi, ip, se, nt, wb, fp, ft) d))) ∧ (∀ j, j < d → mzN sg gl (nI w) (nI 0) y (mgL sg gl (nI w) y (fi, ip, se, nt, wb, fp, ft) j) ≠ 0))) :
    u.2 = r ∧ (r = 0 → f 0 = b.toInt64) ∧ RI (ozz o z) st sd be w y sg gl u.1.1 u.1.2.1 u.1.2.2.1 u.1.2.2.2.1 u.1.2.2.2.2.1 := by
  have top : ∀ x : Int32, x ≤ nI 2147483647 := fun x => by
    have := x.toInt_lt
    rw [Int32.le_iff_toInt_le, nI_toInt (by decide)]
    omega
  rcases hc with ⟨E, ⟨rfl, q⟩, hr, hu⟩ | ⟨v7, v8, ⟨⟨d, d1, d2, d3, d4, d5⟩, h1⟩, hr, hu⟩
  · cases hu
    have hn : ¬ 0 ≤ x := by
      have q := q.resolve_right (fun q => q (top x))
      rw [nI_0, Int32.lt_iff_toInt_lt] at q
      rw [Int32.le_iff_toInt_le]
      omega
    obtain ⟨-, g2, g3⟩ := hm.resolve_right (fun q => hn q.1)
    rw [g3, show r = nI 1 from hr]
    exact ⟨rfl, fun z => absurd z (by decide +kernel), I⟩
  · cases hu
    rw [ozz_some]
    obtain ⟨-, g2, d', e1, e2, e3, e4⟩ := hm.resolve_left (fun q => q.1 (le_max h1.1))
    have hz : RZ z st sd be w y sg gl (fi, ip, se, nt, wb, fp, ft) := I.A
    obtain ⟨k1, k2⟩ := grow_same hz d1 d3 d4 d5 e1 e3 e4
    rw [g2, hr, e2, d2, k1]
    refine ⟨rfl, fun _ => pk_uLs, RZ_RI (d := d') (fp := fp) (ft := ft) I k2 (fun q => ?_) (fun q => ?_)⟩
    · subst q
      rcases e3 with ⟨-, c⟩ | ⟨-, -, c⟩
      · rw [c]; exact ⟨rfl, rfl⟩
      · rw [c]; exact ⟨rfl, rfl⟩
    · have a := grow_RZ hz d' (fun j hj => (mzN_0 I.A.T.yN).mp (e4 j hj))
      have e : u.1.1 = (mgL sg gl (nI w) y (fi, ip, se, nt, wb, fp, ft) d').1 := by
        rcases e3 with ⟨-, c⟩ | ⟨-, -, c⟩
        · rw [c]
        · rw [c]; rfl
      rw [e, a.2]
      omega
theorem drawnC_same {z : FS} {st sd sg gl fi ip se : Nat → Int32} {be : Nat → Int64} {w y : Nat} {nt wb x v r b fp ft : Int32} {o : Option FS} {f of : Nat → Int64} {u : MZ × Int32} (I : RI z st sd be w y sg gl fi ip se nt wb)
    (hc : (∃ E, (E = eIAE ∧ (x < nI 0 ∨ ¬ x ≤ nI 2147483647)) ∧ r = nI (exC [eIAE] E) ∧ (o, f) = (none, of)) ∨ (∃ (v7 : FS) (v8 : Int32), ((∃ d, d ≤ min (nn x) 1764 ∧ v8 = nI d ∧ v7 = (dwL sd st be (nI w) z v d).1 ∧ (∀ j, j < d → ¬ (dwL sd st be (nI w) z v j).1.2.2.2.2.1 ≤ 0) ∧ (d = min (nn x) 1764 ∨ v7.2.2.2.2.1 ≤ 0)) ∧ (¬ x < nI 0 ∧ x ≤ nI 2147483647)) ∧ r = nI 0 ∧ (o, f) = (some v7, vp_updL of 0 v8.toInt64)))
    (hm : (¬ 0 ≤ x ∧ b = nI 0 ∧ u = ((fi, ip, se, nt, wb, fp, ft), nI 1)) ∨ (0 ≤ x ∧ u.2 = nI 0 ∧ ∃ d, d ≤ nn x ∧ b = nI d ∧ u.1 = (mdL sg gl (nI w) y (fi, ip, se, nt, wb, fp, ft) v d).1 ∧ (∀ j, j < d → (mdL sg gl (nI w) y (fi, ip, se, nt, wb, fp, ft) v j).2.2 ≠ 0) ∧ (d = nn x ∨ (mdL sg gl (nI w) y (fi, ip, se, nt, wb, fp, ft) v d).2.2 = 0))) :
    u.2 = r ∧ (r = 0 → f 0 = b.toInt64) ∧ RI (ozz o z) st sd be w y sg gl u.1.1 u.1.2.1 u.1.2.2.1 u.1.2.2.2.1 u.1.2.2.2.2.1 := by
  have top : ∀ x : Int32, x ≤ nI 2147483647 := fun x => by
    have := x.toInt_lt
    rw [Int32.le_iff_toInt_le, nI_toInt (by decide)]
    omega
  rcases hc with ⟨E, ⟨rfl, q⟩, hr, hu⟩ | ⟨v7, v8, ⟨⟨d, d1, d2, d3, d4, d5⟩, h1⟩, hr, hu⟩
  · cases hu
    have hn : ¬ 0 ≤ x := by
      have q := q.resolve_right (fun q => q (top x))
      rw [nI_0, Int32.lt_iff_toInt_lt] at q
      rw [Int32.le_iff_toInt_le]
      omega
    obtain ⟨-, g2, g3⟩ := hm.resolve_right (fun q => hn q.1)
    rw [g3, show r = nI 1 from hr]
    exact ⟨rfl, fun z => absurd z (by decide +kernel), I⟩
  · cases hu
    rw [ozz_some]
    obtain ⟨-, g2, d', e1, e2, e3, e4, e5⟩ := hm.resolve_left (fun q => q.1 (le_max h1.1))
    have hz : RZ z st sd be w y sg gl (fi, ip, se, nt, wb, fp, ft) := I.A
    obtain ⟨k1, k2⟩ := drawn_same hz d1 d3 d4 d5 e1 e3 e4 e5
    rw [g2, hr, e2, d2, k1]
    refine ⟨rfl, fun _ => pk_uLs, RZ_RI (d := d') (fp := fp) (ft := ft) I k2 (fun q => ?_) (fun q => ?_)⟩
    · subst q
      rw [e3]
      exact ⟨rfl, rfl⟩
    · have a := drawn_RZ hz d' e4
      rw [e3, a.2.2]
      omega
theorem breachC_same {z : FS} {st sd sg gl fi ip se : Nat → Int32} {be : Nat → Int64} {w y : Nat} {nt wb x r b fp ft fp' ft' th : Int32} {o : Option Unit} {f of : Nat → Int64} (I : RI z st sd be w y sg gl fi ip se nt wb)
    (hc : (∃ E, (E = eIAE ∧ (x < nI 0 ∨ ¬ x ≤ nI 3)) ∧ r = nI (exC [eIAE] E) ∧ (o, f) = (none, of)) ∨ (∃ (v7 : Unit) (v8 : Int32), ((v8 = brW (brV z.1 sd st be (nI w) z.2.1 z.2.2.1 z.2.2.2.2.1) x) ∧ (¬ x < nI 0 ∧ x ≤ nI 3)) ∧ r = nI 0 ∧ (o, f) = (some v7, vp_updL of 0 v8.toInt64)))
    (hm : (wiN x (nI 0) (nI 3) = 0 ∧ b = nI 0 ∧ (fp', ft', th) = (fp, ft, nI 1)) ∨ (wiN x (nI 0) (nI 3) ≠ 0 ∧ th = nI 0 ∧ ∃ n, fbR sg gl fi ip se (nI w) y fp ft n (fp', ft') ∧ b = mbW n x (fp', ft'))) :
    th = r ∧ (r = 0 → f 0 = b.toInt64) := by
  rcases hc with ⟨E, ⟨rfl, q⟩, hr, hu⟩ | ⟨v7, v8, ⟨h8, h1⟩, hr, hu⟩
  · obtain ⟨-, g2, g3⟩ := hm.resolve_right (fun z => z.1 (wiN_0.mpr q))
    cases g3
    rw [show r = nI 1 from hr]
    exact ⟨rfl, fun z => absurd z (by decide +kernel)⟩
  · cases hu
    obtain ⟨-, g2, n, g3, g4⟩ := hm.resolve_left (fun z => wiN_1 h1 z.1)
    rw [g2, hr]
    refine ⟨rfl, fun _ => ?_⟩
    rw [pk_uLs, h8, g4]
    congr 1
    obtain ⟨k, k1, k2, rfl⟩ := wiN_nat (wiN_1 h1) (by decide) (by decide)
    unfold brW mbW
    have e0 : nI k = nI 0 ↔ nI k = 0 := by rw [nI_0]
    rcases breach_same I.A g3 with ⟨n0, hv⟩ | ⟨n1, n3, p, t, hp, ht1, ht6, hq, hv⟩
    · rw [hv, n0]
      by_cases c : nI k = 0
      · rw [if_pos (e0.mpr c), if_pos c]; decide +kernel
      · rw [if_neg (fun q => c (e0.mp q)), if_neg c, if_pos nI_0, if_pos rfl]
    · have hpm := pm_in hp
      have e1 : fp' = nI p := congrArg Prod.fst hq
      have e2 : ft' = nI t := congrArg Prod.snd hq
      rw [hv]
      unfold brC
      by_cases c : nI k = 0
      · rw [if_pos (e0.mpr c), if_pos c]
        rw [pk_andN (by omega) 2 (by decide +kernel)]
        exact congrArg nI (by omega)
      · rw [if_neg (fun q => c (e0.mp q)), if_neg c, if_neg (nI_ne0 (by omega) (by omega)), if_neg (show ¬ n = 0 by omega), nn_nI (by omega), nn_nI (by omega), show ((pm p * 64 + t) * 4 + n) / 4 = pm p * 64 + t by omega, e1, e2, nn_nI (show p < 2 ^ 31 by omega)]
        have ck : k ≠ 0 := fun q => c (by rw [q, nI_0])
        rw [pt_pm hp ht6 (by omega)]
        rcases (show k = 1 ∨ k = 2 ∨ k = 3 by omega) with rfl | rfl | rfl
        · rw [if_pos rfl, if_pos rfl]
        · rw [if_neg (by decide), if_pos rfl, if_neg (by decide +kernel), if_pos rfl]
        · rw [if_neg (by decide), if_neg (by decide), if_neg (by decide +kernel), if_neg (by decide +kernel)]
theorem okB_RA {z : FS} {st sd sg gl fi ip se : Nat → Int32} {be : Nat → Int64} {w y : Nat} {nt wb : Int32} (A : RA z st sd be w y sg gl fi ip se nt wb) : okB (brV z.1 sd st be (nI w) z.2.1 z.2.2.1 z.2.2.2.2.1) := by
  have hex : ∃ n q, fbR sg gl fi ip se (nI w) y 0 0 n q := by
    rcases e : mbV sg gl fi ip se (nI w) y 0 0 with ⟨o, q1⟩
    cases o with
    | some n => exact ⟨n, q1, Or.inl e⟩
    | none =>
      rcases e2 : fdV sg gl fi (nI w) (nI 0) y q1.1 q1.2 with ⟨o2, u⟩
      exact ⟨_, _, Or.inr ⟨q1, o2, u, e, e2.symm, rfl, rfl⟩⟩
  obtain ⟨n, q, h⟩ := hex
  rcases breach_same A h with ⟨-, hv⟩ | ⟨n1, n3, p, t, hp, ht1, ht6, hq, hv⟩
  · exact Or.inl (by rw [hv, nI_0])
  · have hpm := pm_in hp
    exact Or.inr ⟨pm p, t, n, hv, n3, hpm.1, hpm.2.1, hpm.2.2.1, ht6⟩
