theorem raL_out {ce sd st : Nat → Int32} {be : Nat → Int64} {wa : Int32} {p : Nat} {r : (Nat → Int64) × (Nat → Int32) × Int32} (hp : ∀ k, nb p k < 1764) {i : Nat} (hi : 42 ≤ i) : ∀ k, (raL ce sd st be wa p r k).2.1 i = r.2.1 i
  | 0 => rfl
  | k + 1 => by
    have := hp k
    rw [raL]
    show upd (raL ce sd st be wa p r k).2.1 (nb p k / 42) _ i = _
    rw [pk_un (by omega)]
    exact raL_out hp hi k
theorem fs_undo {z : FS} {st sd fi ip se : Nat → Int32} {be : Nat → Int64} {w y : Nat} {nt : Int32} (F : Rf z st sd be w y fi ip se nt (nI 0)) {p t : Nat} (hp : p < 1600) (he : fi p = 0) (h1 : 1 ≤ t) (h60 : t ≤ 60) : fsTake sd st be (nI w) (pm p) (fsPut sd st be (nI w) (pm p) (nI t ||| nI 1024) z) = z := by
  have hpm := pm_in hp
  have hc0 : z.1 (pm p) = 0 := (Rc_0 F.C hp).1.mpr he
  have e1 : upd (upd z.1 (pm p) (nI t ||| nI 1024)) (pm p) (nI 0) = z.1 := by
    funext j
    by_cases e : j = pm p
    · rw [e, pk_us, hc0, nI_0]
    · rw [pk_un e, pk_un e]
  have hnb : ∀ k, nb (pm p) k < 1764 := fun k => nb_lt hpm.1 hpm.2.1 k
  have ht : tyN (nI t ||| nI 1024) = t := tyN_seed (by omega)
  have hs : sdN (nI t ||| nI 1024) = 1 := by
    rw [seed_cl h1 h60]
    have := (tyN_cl (v := nI t) (i := nI 0) (s := nI 1) ⟨by rw [nn_nI (by omega)], by rw [nn_nI (by omega)]; exact h60⟩ (by rw [nn_nI (by omega)]; omega) (by rw [nn_nI (by decide)]; decide) (by rw [nn_nI (by decide)]; decide)).2.1
    rw [this, nn_nI (by decide)]
  have O1 := raL_ok3 (ce := upd z.1 (pm p) (nI t ||| nI 1024)) (sd := sd) (st := st) (be := be) (wa := nI w) hnb F.O.sm 5
  have O2 := raL_ok3 (ce := z.1) (sd := sd) (st := st) (be := be) (wa := nI w) hnb O1 5
  have eo : (raL z.1 sd st be (nI w) (pm p) (raL (upd z.1 (pm p) (nI t ||| nI 1024)) sd st be (nI w) (pm p) (z.2.1, z.2.2.1, z.2.2.2.2.1) 5) 5).1 = z.2.1 := by
    funext q
    rw [raL_open]
    by_cases c : ∃ j, j < 5 ∧ nb (pm p) j = q
    · rw [if_pos c]
      obtain ⟨j, -, e⟩ := c
      exact (F.O.op q (by rw [← e]; exact hnb j)).symm
    · rw [if_neg c, raL_open, if_neg c]
  have er : (raL z.1 sd st be (nI w) (pm p) (raL (upd z.1 (pm p) (nI t ||| nI 1024)) sd st be (nI w) (pm p) (z.2.1, z.2.2.1, z.2.2.2.2.1) 5) 5).2.1 = z.2.2.1 := by
    funext i
    rcases Nat.lt_or_ge i 42 with d | d
    · rw [O2.1 i d, eo]
      exact (F.O.sm.1 i d).symm
    · rw [raL_out hnb d, raL_out hnb d]
  have en : (raL z.1 sd st be (nI w) (pm p) (raL (upd z.1 (pm p) (nI t ||| nI 1024)) sd st be (nI w) (pm p) (z.2.1, z.2.2.1, z.2.2.2.2.1) 5) 5).2.2 = z.2.2.2.2.1 := by
    rw [O2.2, eo]
    exact F.O.sm.2.symm
  have et : tlT (tlP z.2.2.2.1 (nI t ||| nI 1024)) t = z.2.2.2.1 := by
    funext j
    have sub1 : ∀ a : Int32, a + nI 1 - nI 1 = a := fun a => by rw [Int32.add_sub_cancel]
    unfold tlT tlP
    rw [ht]
    by_cases j0 : j = 0
    · subst j0
      rw [pk_un (show (0 : Nat) ≠ t by omega), pk_us, pk_un (show (0 : Nat) ≠ t by omega), pk_us, sub1]
    · by_cases jt : j = t
      · subst jt
        rw [pk_us, pk_un j0, pk_us, pk_un j0, sub1]
      · rw [pk_un jt, pk_un j0, pk_un jt, pk_un j0]
  unfold fsTake fsPut
  dsimp only
  rw [e1, pk_us, ht, eo, er, en, et]
  have ens : nsT (nsP z.2.2.2.2.2.1 (nI t ||| nI 1024)) (nI t ||| nI 1024) = z.2.2.2.2.2.1 := by
    unfold nsT nsP
    rw [hs, if_neg (by decide), if_neg (by decide), Int32.add_sub_cancel]
  have eaw : awT z.2.2.2.2.2.2 z.2.2.2.1 = z.2.2.2.2.2.2 := by
    unfold awT
    rw [F.aw]
    split <;> rfl
  rw [ens, eaw]
theorem sh_N {fi se : Nat → Int32} (hfi : okFi fi) {p : Nat} (hp : p < 1600) : shV fi se p = nI (nn (shV fi se p)) ∧ nn (shV fi se p) ≤ 60 := by
  have := shL_ok (se := se) (ot := fi) hfi p hp
  rw [show shL fi se fi 1600 p = shV fi se p from if_pos hp] at this
  exact this
theorem cs_ok {z : FS} {gc st sd fi ip se fi0 ip0 se0 : Nat → Int32} {be : Nat → Int64} {w y : Nat} (hy6 : y ≤ 60) (C : Rc gc fi ip se) (hty : ∀ p, p < 1600 → nn (fi p) ≤ y) (F0 : Rf z st sd be w y fi0 ip0 se0 (nI 0) (nI 0)) (h0 : ∀ p, p < 1600 → fi0 p = 0) : ∀ i, i ≤ 1764 → ∃ fi' ip' se' nt', Rf (csL sd st be (nI w) gc z i) st sd be w y fi' ip' se' nt' (nI 0) ∧ ∀ p, p < 1600 → fi' p = if p < lowP i then shV fi se p else nI 0
  | 0, _ => ⟨fi0, ip0, se0, nI 0, F0, fun p hp => by rw [h0 p hp, if_neg (by unfold lowP; rw [if_pos (by decide)]; omega), nI_0]⟩
  | i + 1, h => by
    obtain ⟨fi', ip', se', nt', F, hf⟩ := cs_ok hy6 C hty F0 h0 i (by omega)
    rw [csL]
    by_cases ww : onW i
    · have : sdN (gc i) = 0 := by rw [C.wal i (by omega) ww]; decide +kernel
      rw [if_pos this, lowP_w (by omega) ww]
      exact ⟨fi', ip', se', nt', F, hf⟩
    · obtain ⟨p, hp, rfl⟩ := pm_of (by omega) ww
      obtain ⟨l1, l2⟩ := lowP_in hp
      rw [l1] at hf
      rw [l2]
      have hfp := C.fiN p hp
      by_cases c : fi p = 0
      · have e0 : sdN (gc (pm p)) = 0 := by rw [(Rc_0 C hp).1.mpr c]; decide +kernel
        rw [if_pos e0]
        refine ⟨fi', ip', se', nt', F, fun q hq => ?_⟩
        rw [hf q hq]
        by_cases e : q = p
        · subst e
          rw [if_neg (by omega), if_pos (by omega)]
          unfold shV
          rw [if_pos (by rw [c]; decide)]
        · by_cases d : q < p
          · rw [if_pos d, if_pos (by omega)]
          · rw [if_neg d, if_neg (by omega)]
      · have hn0 : nn (fi p) ≠ 0 := fun q => c ((Rc_0 C hp).2.mpr q)
        have hs := C.seN p hp c
        have hfl : ¬ fi p ≤ 0 := fun q => hn0 ((jn_le0 (show nn (fi p) < 2 ^ 31 by omega)).mp (by rw [← hfp.1]; exact q))
        rw [(Rc_in C hp c).2, Rc_ty C hp]
        by_cases d : nn (se p) = 0
        · rw [if_pos d]
          refine ⟨fi', ip', se', nt', F, fun q hq => ?_⟩
          rw [hf q hq]
          by_cases e : q = p
          · subst e
            rw [if_neg (by omega), if_pos (by omega)]
            unfold shV
            rw [if_neg hfl, if_neg (by rw [hs.1, d]; decide +kernel)]
          · by_cases d : q < p
            · rw [if_pos d, if_pos (by omega)]
            · rw [if_neg d, if_neg (by omega)]
        · rw [if_neg d]
          have hfe : fi' p = 0 := by rw [hf p hp, if_neg (by omega), nI_0]
          have s := Rf_seed F (p := p) (t := nn (fi p)) hp hfe (by omega) (hty p hp) hfp.2
          refine ⟨_, _, _, _, s, fun q hq => ?_⟩
          by_cases e : q = p
          · subst e
            rw [pk_us, if_pos (by omega)]
            unfold shV
            rw [if_neg hfl, if_pos (by rw [hs.1, show nn (se q) = 1 by omega]), ← hfp.1]
          · rw [pk_un e, hf q hq]
            by_cases d : q < p
            · rw [if_pos d, if_pos (by omega)]
            · rw [if_neg d, if_neg (by omega)]
