def cT (fi : Nat → Int32) (t : Nat) : Nat := smN (fun p => if nn (fi p) ≠ 0 ∧ (t = 0 ∨ nn (fi p) = t) then 1 else 0) 1600
def cS (fi se : Nat → Int32) : Nat := smN (fun p => if nn (fi p) ≠ 0 then nn (se p) else 0) 1600
theorem cT_le (fi : Nat → Int32) (t : Nat) : cT fi t ≤ 1600 := by
  have := smN_le (f := fun p => if nn (fi p) ≠ 0 ∧ (t = 0 ∨ nn (fi p) = t) then 1 else 0) (c := 1) (n := 1600) (fun i _ => by split <;> omega)
  unfold cT
  omega
theorem cT_upd {fi : Nat → Int32} {p : Nat} {v : Int32} (hp : p < 1600) (t : Nat) : cT (upd fi p v) t + (if nn (fi p) ≠ 0 ∧ (t = 0 ∨ nn (fi p) = t) then 1 else 0) = cT fi t + (if nn v ≠ 0 ∧ (t = 0 ∨ nn v = t) then 1 else 0) := by
  have := smN_one (f := fun p => if nn (fi p) ≠ 0 ∧ (t = 0 ∨ nn (fi p) = t) then 1 else 0) (g := fun q => if nn (upd fi p v q) ≠ 0 ∧ (t = 0 ∨ nn (upd fi p v q) = t) then 1 else 0) (j := p) (n := 1600) (fun i hi hne => by
    show (if nn (fi i) ≠ 0 ∧ (t = 0 ∨ nn (fi i) = t) then 1 else 0) = (if nn (upd fi p v i) ≠ 0 ∧ (t = 0 ∨ nn (upd fi p v i) = t) then 1 else 0)
    rw [pk_un hne]) hp
  rw [pk_us] at this
  exact this
theorem cS_upd {fi se : Nat → Int32} {p : Nat} {v s : Int32} (hp : p < 1600) : cS (upd fi p v) (upd se p s) + (if nn (fi p) ≠ 0 then nn (se p) else 0) = cS fi se + (if nn v ≠ 0 then nn s else 0) := by
  have := smN_one (f := fun p => if nn (fi p) ≠ 0 then nn (se p) else 0) (g := fun q => if nn (upd fi p v q) ≠ 0 then nn (upd se p s q) else 0) (j := p) (n := 1600) (fun i hi hne => by
    show (if nn (fi i) ≠ 0 then nn (se i) else 0) = (if nn (upd fi p v i) ≠ 0 then nn (upd se p s i) else 0)
    rw [pk_un hne, pk_un hne]) hp
  rw [pk_us, pk_us] at this
  exact this
abbrev Rf (z : FS) (st sd : Nat → Int32) (be : Nat → Int64) (w y : Nat) (fi ip se : Nat → Int32) (nt wb : Int32) : Prop := (Rc z.1 fi ip se) ∧ (Ro z.1 sd st be (nI w) (z.2.1, z.2.2.1, z.2.2.2.2.1)) ∧ (∀ p, p < 1600 → nn (fi p) ≤ y) ∧ (∀ t, t ≤ 60 → z.2.2.2.1 t = nI (cT fi t)) ∧ (z.2.2.2.2.2.1 = nI (cS fi se)) ∧ (nt = nI (cT fi 0)) ∧ (z.2.2.2.2.2.2 = wb) ∧ (wb = nI 0 ∨ wb = nI 1)
theorem Rf.C {z : FS} {st sd : Nat → Int32} {be : Nat → Int64} {w y : Nat} {fi ip se : Nat → Int32} {nt wb : Int32} (h9 : Rf z st sd be w y fi ip se nt wb) : Rc z.1 fi ip se := h9.1
theorem Rf.O {z : FS} {st sd : Nat → Int32} {be : Nat → Int64} {w y : Nat} {fi ip se : Nat → Int32} {nt wb : Int32} (h9 : Rf z st sd be w y fi ip se nt wb) : Ro z.1 sd st be (nI w) (z.2.1, z.2.2.1, z.2.2.2.2.1) := h9.2.1
theorem Rf.ty {z : FS} {st sd : Nat → Int32} {be : Nat → Int64} {w y : Nat} {fi ip se : Nat → Int32} {nt wb : Int32} (h9 : Rf z st sd be w y fi ip se nt wb) : ∀ p, p < 1600 → nn (fi p) ≤ y := h9.2.2.1
theorem Rf.tl {z : FS} {st sd : Nat → Int32} {be : Nat → Int64} {w y : Nat} {fi ip se : Nat → Int32} {nt wb : Int32} (h9 : Rf z st sd be w y fi ip se nt wb) : ∀ t, t ≤ 60 → z.2.2.2.1 t = nI (cT fi t) := h9.2.2.2.1
theorem Rf.ns {z : FS} {st sd : Nat → Int32} {be : Nat → Int64} {w y : Nat} {fi ip se : Nat → Int32} {nt wb : Int32} (h9 : Rf z st sd be w y fi ip se nt wb) : z.2.2.2.2.2.1 = nI (cS fi se) := h9.2.2.2.2.1
theorem Rf.nt {z : FS} {st sd : Nat → Int32} {be : Nat → Int64} {w y : Nat} {fi ip se : Nat → Int32} {nt wb : Int32} (h9 : Rf z st sd be w y fi ip se nt wb) : nt = nI (cT fi 0) := h9.2.2.2.2.2.1
theorem Rf.aw {z : FS} {st sd : Nat → Int32} {be : Nat → Int64} {w y : Nat} {fi ip se : Nat → Int32} {nt wb : Int32} (h9 : Rf z st sd be w y fi ip se nt wb) : z.2.2.2.2.2.2 = wb := h9.2.2.2.2.2.2.1
theorem Rf.wb {z : FS} {st sd : Nat → Int32} {be : Nat → Int64} {w y : Nat} {fi ip se : Nat → Int32} {nt wb : Int32} (h9 : Rf z st sd be w y fi ip se nt wb) : wb = nI 0 ∨ wb = nI 1 := h9.2.2.2.2.2.2.2
theorem Rc_zero {ce fi ip se : Nat → Int32} (C : Rc ce fi ip se) : ∀ q, q < 1764 → ce q = 0 → 43 ≤ q ∧ q ≤ 1720 := by
  intro q hq h
  by_cases w : onW q
  · rw [C.wal q hq w] at h
    exact absurd h (by decide +kernel)
  · obtain ⟨p, hp, rfl⟩ := pm_of hq w
    have := pm_in hp
    exact ⟨this.1, this.2.1⟩
theorem Rc_put {ce fi ip se : Nat → Int32} (C : Rc ce fi ip se) {p : Nat} {v i s : Int32} (hp : p < 1600) (hv : v = nI (nn v) ∧ nn v ≤ 60) (hi : v ≠ 0 → i = nI (nn i) ∧ nn i < 16) (hs : v ≠ 0 → s = nI (nn s) ∧ nn s ≤ 1) : Rc (upd ce (pm p) (clV v i s)) (upd fi p v) (upd ip p i) (upd se p s) := by
  refine ⟨fun q hq => ?_, fun q hq hw => ?_, fun q hq => ?_, fun q hq => ?_, fun q hq => ?_⟩
  · by_cases e : q = p
    · subst e
      rw [pk_us, pk_us, pk_us, pk_us]
    · rw [pk_un e, pk_un e, pk_un e, pk_un (fun z => e (pm_inj z)), C.inn q hq]
  · rw [pk_un (fun z => pm_not hp (by rw [← z]; exact hw)), C.wal q hq hw]
  · by_cases e : q = p
    · subst e
      rw [pk_us]; exact hv
    · rw [pk_un e]; exact C.fiN q hq
  · by_cases e : q = p
    · subst e
      rw [pk_us, pk_us]; exact hi
    · rw [pk_un e, pk_un e]; exact C.ipN q hq
  · by_cases e : q = p
    · subst e
      rw [pk_us, pk_us]; exact hs
    · rw [pk_un e, pk_un e]; exact C.seN q hq
theorem tyN_cl {v i s : Int32} (hv : v = nI (nn v) ∧ nn v ≤ 60) (h0 : nn v ≠ 0) (hi : nn i < 16) (hs : nn s ≤ 1) : tyN (clV v i s) = nn v ∧ sdN (clV v i s) = nn s ∧ clV v i s ≠ 0 := by
  have e : v ≠ 0 := fun z => h0 (by rw [z]; decide)
  unfold clV
  rw [if_neg e, tyN_nI (by omega), sdN_nI (by omega)]
  exact ⟨by omega, by omega, nI_ne0 (by omega) (by omega)⟩
theorem nI_inc (a : Nat) : nI a + nI 1 = nI (a + 1) := nI_add a 1
theorem nI_dec {a : Nat} (h : 1 ≤ a) : nI a - nI 1 = nI (a - 1) := pk_sub h
theorem Rf_put {z : FS} {st sd fi ip se : Nat → Int32} {be : Nat → Int64} {w y : Nat} {nt wb : Int32} (F : Rf z st sd be w y fi ip se nt wb) {p : Nat} {v i s : Int32} (hp : p < 1600) (he : fi p = 0) (hv : v = nI (nn v)) (h60 : nn v ≤ 60) (hy : nn v ≤ y) (h0 : nn v ≠ 0) (hi : i = nI (nn i)) (hi16 : nn i < 16) (hs : s = nI (nn s)) (hs1 : nn s ≤ 1) :
    Rf (fsPut sd st be (nI w) (pm p) (clV v i s) z) st sd be w y (upd fi p v) (upd ip p i) (upd se p s) (nt + nI 1) wb := by
  have hpm := pm_in hp
  have h00 : nn (fi p) = 0 := ((Rc_0 F.C hp).2).mp he
  obtain ⟨t1, t2, t3⟩ := tyN_cl (i := i) (s := s) ⟨hv, h60⟩ h0 hi16 hs1
  refine ⟨Rc_put F.C hp ⟨hv, h60⟩ (fun _ => ⟨hi, hi16⟩) (fun _ => ⟨hs, hs1⟩), Ro_upd (Rc_zero F.C) hpm.1 hpm.2.1 F.O, fun q hq => ?_, fun t ht => ?_, ?_, ?_, F.aw, F.wb⟩
  · by_cases e : q = p
    · subst e; rw [pk_us]; exact hy
    · rw [pk_un e]; exact F.ty q hq
  · show tlP z.2.2.2.1 (clV v i s) t = _
    unfold tlP
    rw [t1]
    have c := cT_upd (fi := fi) (p := p) (v := v) hp t
    rw [if_neg (fun q => q.1 h00)] at c
    by_cases e0 : t = 0
    · subst e0
      rw [if_pos ⟨h0, Or.inl rfl⟩] at c
      rw [pk_un (fun q => h0 q.symm), pk_us, F.tl 0 (by omega), nI_inc]
      exact congrArg nI (by omega)
    · by_cases e1 : t = nn v
      · rw [if_pos ⟨h0, Or.inr e1.symm⟩] at c
        rw [e1, pk_us, pk_un h0, ← e1, F.tl t ht, nI_inc]
        exact congrArg nI (by omega)
      · rw [if_neg (fun q => q.2.elim e0 (fun r => e1 r.symm))] at c
        rw [pk_un e1, pk_un e0, F.tl t ht]
        exact congrArg nI (by omega)
  · show nsP z.2.2.2.2.2.1 (clV v i s) = _
    unfold nsP
    rw [t2]
    have c := cS_upd (fi := fi) (se := se) (p := p) (v := v) (s := s) hp
    rw [if_neg (fun q => q h00), if_pos h0] at c
    by_cases e : nn s = 0
    · rw [if_pos e, F.ns]
      exact congrArg nI (by omega)
    · rw [if_neg e, F.ns, nI_inc]
      exact congrArg nI (by omega)
  · have c := cT_upd (fi := fi) (p := p) (v := v) hp 0
    rw [if_neg (fun q => q.1 h00), if_pos ⟨h0, Or.inl rfl⟩] at c
    rw [F.nt, nI_inc]
    exact congrArg nI (by omega)
theorem Rf_take {z : FS} {st sd fi ip se : Nat → Int32} {be : Nat → Int64} {w y : Nat} {nt wb : Int32} (F : Rf z st sd be w y fi ip se nt wb) {p : Nat} (hp : p < 1600) (he : fi p ≠ 0) :
    Rf (fsTake sd st be (nI w) (pm p) z) st sd be w y (upd fi p (nI 0)) ip se (nt - nI 1) (if nt - nI 1 = 0 then nI 0 else wb) := by
  have hpm := pm_in hp
  have h00 : nn (fi p) ≠ 0 := fun q => he ((Rc_0 F.C hp).2.mpr q)
  have hT := Rc_ty F.C hp
  have hS := Rc_in F.C hp he
  have hsN := F.C.seN p hp he
  have hf60 := F.C.fiN p hp
  have c0 := cT_upd (fi := fi) (p := p) (v := nI 0) hp 0
  have n0 : nn (nI 0) = 0 := nn_nI (by decide)
  rw [if_pos ⟨h00, Or.inl rfl⟩, if_neg (fun q => q.1 n0)] at c0
  have hupS : upd se p (se p) = se := by
    funext q
    by_cases e : q = p
    · rw [e, pk_us]
    · rw [pk_un e]
  have hupI : upd ip p (ip p) = ip := by
    funext q
    by_cases e : q = p
    · rw [e, pk_us]
    · rw [pk_un e]
  have hC := Rc_put F.C (p := p) (v := nI 0) (i := ip p) (s := se p) hp ⟨by rw [n0], by rw [n0]; decide⟩ (fun q => absurd nI_0 q) (fun q => absurd nI_0 q)
  rw [hupS, hupI, show clV (nI 0) (ip p) (se p) = nI 0 from by unfold clV; rw [if_pos nI_0, nI_0]] at hC
  have hnt : nt - nI 1 = nI (cT (upd fi p (nI 0)) 0) := by
    rw [F.nt, nI_dec (by omega)]
    exact congrArg nI (by omega)
  refine ⟨hC, Ro_upd (Rc_zero F.C) hpm.1 hpm.2.1 F.O, fun q hq => ?_, fun t ht => ?_, ?_, hnt, ?_, ?_⟩
  · by_cases e : q = p
    · subst e; rw [pk_us, n0]; exact Nat.zero_le _
    · rw [pk_un e]; exact F.ty q hq
  · show tlT z.2.2.2.1 (tyN (z.1 (pm p))) t = _
    unfold tlT
    rw [hT]
    have c := cT_upd (fi := fi) (p := p) (v := nI 0) hp t
    rw [if_neg (fun q : nn (nI 0) ≠ 0 ∧ _ => q.1 n0)] at c
    by_cases e0 : t = 0
    · subst e0
      rw [pk_un (fun q => h00 q.symm), pk_us, F.tl 0 (by omega), nI_dec (by omega)]
      exact congrArg nI (by omega)
    · by_cases e1 : t = nn (fi p)
      · rw [if_pos ⟨h00, Or.inr e1.symm⟩] at c
        rw [e1, pk_us, pk_un h00, ← e1, F.tl t ht, nI_dec (by omega)]
        exact congrArg nI (by omega)
      · rw [if_neg (fun q => q.2.elim e0 (fun r => e1 r.symm))] at c
        rw [pk_un e1, pk_un e0, F.tl t ht]
        exact congrArg nI (by omega)
  · show nsT z.2.2.2.2.2.1 (z.1 (pm p)) = _
    unfold nsT
    rw [hS.2]
    have c := cS_upd (fi := fi) (se := se) (p := p) (v := nI 0) (s := se p) hp
    rw [hupS, if_pos h00, if_neg (fun q => q n0)] at c
    by_cases e : nn (se p) = 0
    · rw [if_pos e, F.ns]
      exact congrArg nI (by omega)
    · rw [if_neg e, F.ns, nI_dec (by omega)]
      exact congrArg nI (by omega)
  · show awT z.2.2.2.2.2.2 (tlT z.2.2.2.1 (tyN (z.1 (pm p)))) = _
    have e : tlT z.2.2.2.1 (tyN (z.1 (pm p))) 0 = nt - nI 1 := by
      unfold tlT
      rw [hT, pk_un (fun q => h00 q.symm), pk_us, F.tl 0 (by omega), F.nt]
    unfold awT
    rw [e, F.aw]
  · split
    · exact Or.inl rfl
    · exact F.wb
