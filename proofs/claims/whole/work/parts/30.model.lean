theorem d_MD_init_0 : decode c_MD_init 0 = .ok (.aload_n 0, 1) := by decide +kernel
theorem d_MD_init_1 : decode c_MD_init 1 = .ok (.invokespecial 1, 3) := by decide +kernel
theorem d_MD_init_4 : decode c_MD_init 4 = .ok (.aload_n 0, 1) := by decide +kernel
theorem d_MD_init_5 : decode c_MD_init 5 = .ok (.bipush 100, 2) := by decide +kernel
theorem d_MD_init_7 : decode c_MD_init 7 = .ok (.newarray .int, 2) := by decide +kernel
theorem d_MD_init_9 : decode c_MD_init 9 = .ok (.putfield 7, 3) := by decide +kernel
theorem d_MD_init_12 : decode c_MD_init 12 = .ok (.aload_n 0, 1) := by decide +kernel
theorem d_MD_init_13 : decode c_MD_init 13 = .ok (.sipush 244, 3) := by decide +kernel
theorem d_MD_init_16 : decode c_MD_init 16 = .ok (.newarray .int, 2) := by decide +kernel
theorem d_MD_init_18 : decode c_MD_init 18 = .ok (.putfield 13, 3) := by decide +kernel
theorem d_MD_init_21 : decode c_MD_init 21 = .ok (.aload_n 0, 1) := by decide +kernel
theorem d_MD_init_22 : decode c_MD_init 22 = .ok (.iconst 2, 1) := by decide +kernel
theorem d_MD_init_23 : decode c_MD_init 23 = .ok (.putfield 16, 3) := by decide +kernel
theorem d_MD_init_26 : decode c_MD_init 26 = .ok (.aload_n 0, 1) := by decide +kernel
theorem d_MD_init_27 : decode c_MD_init 27 = .ok (.sipush 1600, 3) := by decide +kernel
theorem d_MD_init_30 : decode c_MD_init 30 = .ok (.newarray .int, 2) := by decide +kernel
theorem d_MD_init_32 : decode c_MD_init 32 = .ok (.putfield 20, 3) := by decide +kernel
theorem d_MD_init_35 : decode c_MD_init 35 = .ok (.aload_n 0, 1) := by decide +kernel
theorem d_MD_init_36 : decode c_MD_init 36 = .ok (.sipush 1600, 3) := by decide +kernel
theorem d_MD_init_39 : decode c_MD_init 39 = .ok (.newarray .int, 2) := by decide +kernel
theorem d_MD_init_41 : decode c_MD_init 41 = .ok (.putfield 23, 3) := by decide +kernel
theorem d_MD_init_44 : decode c_MD_init 44 = .ok (.aload_n 0, 1) := by decide +kernel
theorem d_MD_init_45 : decode c_MD_init 45 = .ok (.sipush 1600, 3) := by decide +kernel
theorem d_MD_init_48 : decode c_MD_init 48 = .ok (.newarray .int, 2) := by decide +kernel
theorem d_MD_init_50 : decode c_MD_init 50 = .ok (.putfield 26, 3) := by decide +kernel
theorem d_MD_init_53 : decode c_MD_init 53 = .ok (.aload_n 0, 1) := by decide +kernel
theorem d_MD_init_54 : decode c_MD_init 54 = .ok (.sipush 1600, 3) := by decide +kernel
theorem d_MD_init_57 : decode c_MD_init 57 = .ok (.newarray .int, 2) := by decide +kernel
theorem d_MD_init_59 : decode c_MD_init 59 = .ok (.putfield 29, 3) := by decide +kernel
theorem d_MD_init_62 : decode c_MD_init 62 = .ok (.aload_n 0, 1) := by decide +kernel
theorem d_MD_init_63 : decode c_MD_init 63 = .ok (.sipush 15030, 3) := by decide +kernel
theorem d_MD_init_66 : decode c_MD_init 66 = .ok (.newarray .int, 2) := by decide +kernel
theorem d_MD_init_68 : decode c_MD_init 68 = .ok (.putfield 32, 3) := by decide +kernel
theorem d_MD_init_71 : decode c_MD_init 71 = .ok (.aload_n 0, 1) := by decide +kernel
theorem d_MD_init_72 : decode c_MD_init 72 = .ok (.sipush 501, 3) := by decide +kernel
theorem d_MD_init_75 : decode c_MD_init 75 = .ok (.newarray .int, 2) := by decide +kernel
theorem d_MD_init_77 : decode c_MD_init 77 = .ok (.putfield 35, 3) := by decide +kernel
theorem d_MD_init_80 : decode c_MD_init 80 = .ok (.aload_n 0, 1) := by decide +kernel
theorem d_MD_init_81 : decode c_MD_init 81 = .ok (.bipush 30, 2) := by decide +kernel
theorem d_MD_init_83 : decode c_MD_init 83 = .ok (.newarray .int, 2) := by decide +kernel
theorem d_MD_init_85 : decode c_MD_init 85 = .ok (.putfield 38, 3) := by decide +kernel
theorem d_MD_init_88 : decode c_MD_init 88 = .ok (.aload_n 0, 1) := by decide +kernel
theorem d_MD_init_89 : decode c_MD_init 89 = .ok (.sipush 1600, 3) := by decide +kernel
theorem d_MD_init_92 : decode c_MD_init 92 = .ok (.newarray .int, 2) := by decide +kernel
theorem d_MD_init_94 : decode c_MD_init 94 = .ok (.putfield 41, 3) := by decide +kernel
theorem d_MD_init_97 : decode c_MD_init 97 = .ok (.aload_n 0, 1) := by decide +kernel
theorem d_MD_init_98 : decode c_MD_init 98 = .ok (.bipush 120, 2) := by decide +kernel
theorem d_MD_init_100 : decode c_MD_init 100 = .ok (.newarray .int, 2) := by decide +kernel
theorem d_MD_init_102 : decode c_MD_init 102 = .ok (.putfield 44, 3) := by decide +kernel
theorem d_MD_init_105 : decode c_MD_init 105 = .ok (.aload_n 0, 1) := by decide +kernel
theorem d_MD_init_106 : decode c_MD_init 106 = .ok (.sipush 480, 3) := by decide +kernel
theorem d_MD_init_109 : decode c_MD_init 109 = .ok (.newarray .int, 2) := by decide +kernel
theorem d_MD_init_111 : decode c_MD_init 111 = .ok (.putfield 47, 3) := by decide +kernel
theorem d_MD_init_114 : decode c_MD_init 114 = .ok (.aload_n 0, 1) := by decide +kernel
theorem d_MD_init_115 : decode c_MD_init 115 = .ok (.bipush 120, 2) := by decide +kernel
theorem d_MD_init_117 : decode c_MD_init 117 = .ok (.newarray .int, 2) := by decide +kernel
theorem d_MD_init_119 : decode c_MD_init 119 = .ok (.putfield 50, 3) := by decide +kernel
theorem d_MD_init_122 : decode c_MD_init 122 = .ok (.aload_n 0, 1) := by decide +kernel
theorem d_MD_init_123 : decode c_MD_init 123 = .ok (.bipush 120, 2) := by decide +kernel
theorem d_MD_init_125 : decode c_MD_init 125 = .ok (.newarray .int, 2) := by decide +kernel
theorem d_MD_init_127 : decode c_MD_init 127 = .ok (.putfield 53, 3) := by decide +kernel
theorem d_MD_init_130 : decode c_MD_init 130 = .ok (.return_, 1) := by decide +kernel
theorem d_MD_thrown_0 : decode c_MD_thrown 0 = .ok (.aload_n 0, 1) := by decide +kernel
theorem d_MD_thrown_1 : decode c_MD_thrown 1 = .ok (.getfield 56, 3) := by decide +kernel
theorem d_MD_thrown_4 : decode c_MD_thrown 4 = .ok (.ireturn, 1) := by decide +kernel
theorem d_MD_fails_0 : decode c_MD_fails 0 = .ok (.aload_n 0, 1) := by decide +kernel
theorem d_MD_fails_1 : decode c_MD_fails 1 = .ok (.iload_n 1, 1) := by decide +kernel
theorem d_MD_fails_2 : decode c_MD_fails 2 = .ok (.ifCond .eq 7, 3) := by decide +kernel
theorem d_MD_fails_5 : decode c_MD_fails 5 = .ok (.iload_n 2, 1) := by decide +kernel
theorem d_MD_fails_6 : decode c_MD_fails 6 = .ok (.goto 4, 3) := by decide +kernel
theorem d_MD_fails_9 : decode c_MD_fails 9 = .ok (.iconst 0, 1) := by decide +kernel
theorem d_MD_fails_10 : decode c_MD_fails 10 = .ok (.putfield 56, 3) := by decide +kernel
theorem d_MD_fails_13 : decode c_MD_fails 13 = .ok (.iload_n 1, 1) := by decide +kernel
theorem d_MD_fails_14 : decode c_MD_fails 14 = .ok (.ireturn, 1) := by decide +kernel
theorem d_MD_within_0 : decode c_MD_within 0 = .ok (.iload_n 0, 1) := by decide +kernel
theorem d_MD_within_1 : decode c_MD_within 1 = .ok (.iload_n 1, 1) := by decide +kernel
theorem d_MD_within_2 : decode c_MD_within 2 = .ok (.if_icmp .lt 12, 3) := by decide +kernel
theorem d_MD_within_5 : decode c_MD_within 5 = .ok (.iload_n 0, 1) := by decide +kernel
theorem d_MD_within_6 : decode c_MD_within 6 = .ok (.iload_n 2, 1) := by decide +kernel
theorem d_MD_within_7 : decode c_MD_within 7 = .ok (.if_icmp .gt 7, 3) := by decide +kernel
theorem d_MD_within_10 : decode c_MD_within 10 = .ok (.iconst 1, 1) := by decide +kernel
theorem d_MD_within_11 : decode c_MD_within 11 = .ok (.goto 4, 3) := by decide +kernel
theorem d_MD_within_14 : decode c_MD_within 14 = .ok (.iconst 0, 1) := by decide +kernel
theorem d_MD_within_15 : decode c_MD_within 15 = .ok (.ireturn, 1) := by decide +kernel
theorem d_MD_isPlace_0 : decode c_MD_isPlace 0 = .ok (.iload_n 0, 1) := by decide +kernel
theorem d_MD_isPlace_1 : decode c_MD_isPlace 1 = .ok (.iconst 0, 1) := by decide +kernel
theorem d_MD_isPlace_2 : decode c_MD_isPlace 2 = .ok (.bipush 39, 2) := by decide +kernel
theorem d_MD_isPlace_4 : decode c_MD_isPlace 4 = .ok (.invokestatic 59, 3) := by decide +kernel
theorem d_MD_isPlace_7 : decode c_MD_isPlace 7 = .ok (.ifCond .eq 17, 3) := by decide +kernel
theorem d_MD_isPlace_10 : decode c_MD_isPlace 10 = .ok (.iload_n 1, 1) := by decide +kernel
theorem d_MD_isPlace_11 : decode c_MD_isPlace 11 = .ok (.iconst 0, 1) := by decide +kernel
theorem d_MD_isPlace_12 : decode c_MD_isPlace 12 = .ok (.bipush 39, 2) := by decide +kernel
theorem d_MD_isPlace_14 : decode c_MD_isPlace 14 = .ok (.invokestatic 59, 3) := by decide +kernel
theorem d_MD_isPlace_17 : decode c_MD_isPlace 17 = .ok (.ifCond .eq 7, 3) := by decide +kernel
theorem d_MD_isPlace_20 : decode c_MD_isPlace 20 = .ok (.iconst 1, 1) := by decide +kernel
theorem d_MD_isPlace_21 : decode c_MD_isPlace 21 = .ok (.goto 4, 3) := by decide +kernel
theorem d_MD_isPlace_24 : decode c_MD_isPlace 24 = .ok (.iconst 0, 1) := by decide +kernel
theorem d_MD_isPlace_25 : decode c_MD_isPlace 25 = .ok (.ireturn, 1) := by decide +kernel
theorem d_MD_isType_0 : decode c_MD_isType 0 = .ok (.iload_n 1, 1) := by decide +kernel
theorem d_MD_isType_1 : decode c_MD_isType 1 = .ok (.iconst 1, 1) := by decide +kernel
theorem d_MD_isType_2 : decode c_MD_isType 2 = .ok (.aload_n 0, 1) := by decide +kernel
theorem d_MD_isType_3 : decode c_MD_isType 3 = .ok (.getfield 63, 3) := by decide +kernel
theorem d_MD_isType_6 : decode c_MD_isType 6 = .ok (.invokestatic 59, 3) := by decide +kernel
theorem d_MD_isType_9 : decode c_MD_isType 9 = .ok (.ireturn, 1) := by decide +kernel
theorem d_MD_glueOf_0 : decode c_MD_glueOf 0 = .ok (.aload_n 0, 1) := by decide +kernel
theorem d_MD_glueOf_1 : decode c_MD_glueOf 1 = .ok (.getfield 13, 3) := by decide +kernel
theorem d_MD_glueOf_4 : decode c_MD_glueOf 4 = .ok (.iconst 4, 1) := by decide +kernel
theorem d_MD_glueOf_5 : decode c_MD_glueOf 5 = .ok (.iload_n 1, 1) := by decide +kernel
theorem d_MD_glueOf_6 : decode c_MD_glueOf 6 = .ok (.imul, 1) := by decide +kernel
theorem d_MD_glueOf_7 : decode c_MD_glueOf 7 = .ok (.iload_n 2, 1) := by decide +kernel
theorem d_MD_glueOf_8 : decode c_MD_glueOf 8 = .ok (.iadd, 1) := by decide +kernel
theorem d_MD_glueOf_9 : decode c_MD_glueOf 9 = .ok (.iaload, 1) := by decide +kernel
theorem d_MD_glueOf_10 : decode c_MD_glueOf 10 = .ok (.ireturn, 1) := by decide +kernel
def wiN (x lo hi : Int32) : Nat := if x < lo then 0 else if hi < x then 0 else 1
theorem wiN_le (x lo hi : Int32) : wiN x lo hi ≤ 1 := by
  unfold wiN
  split
  · decide
  · split <;> decide
def isP (x y : Int32) : Nat := if wiN x (nI 0) (nI 39) = 0 then 0 else if wiN y (nI 0) (nI 39) = 0 then 0 else 1
theorem isP_le (x y : Int32) : isP x y ≤ 1 := by
  unfold isP
  split
  · decide
  · split <;> decide
def flN (b k : Nat) : Nat := if b = 0 then 0 else k
theorem nar_bool {b : Nat} (h : b ≤ 1) : narrow .boolean (.int (nI b)) = .int (nI b) := by
  rcases (show b = 0 ∨ b = 1 by omega) with rfl | rfl <;> decide +kernel
theorem isP_in {a b : Nat} (ha : a < 2 ^ 31) (hb : b < 2 ^ 31) : isP (nI a) (nI b) ≠ 0 ↔ a < 40 ∧ b < 40 := by
  have h1 : ∀ {c : Nat}, c < 2 ^ 31 → (wiN (nI c) (nI 0) (nI 39) = 0 ↔ 40 ≤ c) := fun {c} hc => by
    unfold wiN
    rw [if_neg (fun z => absurd ((nI_ltI hc (by decide)).mp z) (by omega))]
    by_cases h : nI 39 < nI c
    · rw [if_pos h]
      have := (nI_ltI (by decide) hc).mp h
      exact ⟨fun _ => by omega, fun _ => rfl⟩
    · rw [if_neg h]
      exact ⟨fun z => absurd z (by decide), fun z => absurd ((nI_ltI (by decide) hc).mpr (by omega)) h⟩
  unfold isP
  by_cases c : wiN (nI a) (nI 0) (nI 39) = 0
  · rw [if_pos c]
    have := (h1 ha).mp c
    exact ⟨fun z => absurd rfl z, fun z => absurd z.1 (by omega)⟩
  · rw [if_neg c]
    have c' : ¬ 40 ≤ a := fun z => c ((h1 ha).mpr z)
    by_cases d : wiN (nI b) (nI 0) (nI 39) = 0
    · rw [if_pos d]
      have := (h1 hb).mp d
      exact ⟨fun z => absurd rfl z, fun z => absurd z.2 (by omega)⟩
    · rw [if_neg d]
      have d' : ¬ 40 ≤ b := fun z => d ((h1 hb).mpr z)
      exact ⟨fun _ => ⟨by omega, by omega⟩, fun _ => by decide⟩
set_option maxHeartbeats 4000000 in
set_option maxRecDepth 100000 in
/-- thrown -/
theorem k_MD_thrown (l : Launch) (D : va_G) (cI cJ : ClassId) (w0 : Nat) (w1 : Nat) (w2 : Nat) (w3 : Nat) (w4 : Nat) (w5 : Nat) (w6 : Nat) (w7 : Nat) (w8 : Nat) (w9 : Nat) (w10 : Nat) (w11 : Nat) (w12 : Nat) (w13 : Nat) (w14 : Nat) (yt : Int32) (te : Int32) (nt : Int32) (wb : Int32) (rc : Int32) (fp : Int32) (ft : Int32) (th : Int32)  : Met l y_MD_thrown ws_MD_thrown ({ frames := 0, cells := 0, slots := 0, locals := 0 } : Room) (va_Pc [.ref w0] (Pp D cI cJ [(w0, .inr (5, [.ref w1, .ref w2, .int yt, .int te, .ref w3, .ref w4, .ref w5, .int nt, .int wb, .ref w6, .ref w7, .ref w8, .int rc, .ref w9, .ref w10, .ref w11, .ref w12, .ref w13, .ref w14, .int fp, .int ft, .int th]))])) (vp_Si (fun r : Int32 => r = th)) 0 0 (fun _ => False) := by
  refine Met.ofW (cc := c_MD_thrown) (maxL := 1) (ret := (some .int)) (by decide) rfl ?_
  intro p e s m args below meth c s₁ B hml hv
  obtain ⟨rfl, hE, hP, hX⟩ := hv
  have hx := B.exec
  have hb := B.bytes
  have hr := B.returns
  have hw : ∀ w ∈ gw, w.before _ s = true := fun w h => atoms_spec (ws := ws_MD_thrown) B.pre w (List.mem_cons_of_mem _ h)
  have hown : s.vm.findClass R_MD = some m.cls := findClass_of_methodNamed B.named
  have hlocks := B.notSynchronized
  have hS : va_S (fun _ => False) s.heap s.heap [] := va_S.rf
  have hl := lv_entry ([.ref w0]) (n := 1) (Nat.le_of_ble_eq_true rfl)
  rw [lg_entry_eq]
  generalize (lg_sl ([.ref w0]) ++ List.replicate (1 - (lg_sl ([.ref w0])).length) Slot.unset).toArray = ls at hl ⊢
  have hl : lv_has ls 1 [(0, .ref w0)] := hl
  refine lv_aload_n hx hb d_MD_thrown_0 rfl (lv_at hl 0 rfl) ?_
  refine va_get (D := D) (ci := 5) (v := .int th) (C := R_MD) (T := T_MD) (N := 22) hx hb hw in_MD hown hE.1 hP 0 rfl rfl 21 (by decide) (hw _ kw_782) (fun _ h9 => h9) rfl d_MD_thrown_1 ?_
  exact W.iret (v := th) hx hb hr (fun t9 ht hW => ⟨_, rfl, rfl, ht⟩) (fun q h => by cases h) d_MD_thrown_4
set_option maxHeartbeats 4000000 in
set_option maxRecDepth 100000 in
/-- within -/
theorem k_MD_within (l : Launch) (D : va_G) (cI cJ : ClassId) (x : Int32) (y : Int32) (z : Int32)  : Met l y_MD_within ws_MD_within ({ frames := 0, cells := 0, slots := 0, locals := 0 } : Room) (va_Pc [.int x, .int y, .int z] (Pp D cI cJ [])) (vp_Si (fun r : Int32 => r = nI (wiN x y z))) 0 0 (fun _ => False) := by
  refine Met.ofW (cc := c_MD_within) (maxL := 3) (ret := (some .boolean)) (by decide) rfl ?_
  intro p e s m args below meth c s₁ B hml hv
  obtain ⟨rfl, hE, hP, hX⟩ := hv
  have hx := B.exec
  have hb := B.bytes
  have hr := B.returns
  have hw : ∀ w ∈ gw, w.before _ s = true := fun w h => atoms_spec (ws := ws_MD_within) B.pre w (List.mem_cons_of_mem _ h)
  have hown : s.vm.findClass R_MD = some m.cls := findClass_of_methodNamed B.named
  have hlocks := B.notSynchronized
  have hS : va_S (fun _ => False) s.heap s.heap [] := va_S.rf
  have hl := lv_entry ([.int x, .int y, .int z]) (n := 3) (Nat.le_of_ble_eq_true rfl)
  rw [lg_entry_eq]
  generalize (lg_sl ([.int x, .int y, .int z]) ++ List.replicate (3 - (lg_sl ([.int x, .int y, .int z])).length) Slot.unset).toArray = ls at hl ⊢
  have hl : lv_has ls 3 [(0, .int x), (1, .int y), (2, .int z)] := hl
  refine lv_iload_n hx hb d_MD_within_0 rfl (lv_at hl 0 rfl) ?_
  refine lv_iload_n hx hb d_MD_within_1 rfl (lv_at hl 1 rfl) ?_
  refine lv_icmp_lt (tgt := 14) hx hb d_MD_within_2 (by decide) (fun c_2 => ?_) (fun c_2 => ?_)
  · skip
    refine lv_iconst (v := nI 0) hx hb d_MD_within_14 (by decide +kernel) ?_
    exact W.zret (v := nI 0) hx hb hr (by decide +kernel) (fun t9 ht hW => ⟨_, rfl, (by unfold wiN; rw [if_pos c_2]), ht⟩) (fun q h => by cases h) d_MD_within_15
  · skip
    refine lv_iload_n hx hb d_MD_within_5 rfl (lv_at hl 0 rfl) ?_
    refine lv_iload_n hx hb d_MD_within_6 rfl (lv_at hl 2 rfl) ?_
    refine lv_icmp_gt (tgt := 14) hx hb d_MD_within_7 (by decide) (fun c_7 => ?_) (fun c_7 => ?_)
    · skip
      refine lv_iconst (v := nI 0) hx hb d_MD_within_14 (by decide +kernel) ?_
      exact W.zret (v := nI 0) hx hb hr (by decide +kernel) (fun t9 ht hW => ⟨_, rfl, (by unfold wiN; rw [if_neg c_2, if_pos c_7]), ht⟩) (fun q h => by cases h) d_MD_within_15
    · skip
      refine lv_iconst (v := nI 1) hx hb d_MD_within_10 (by decide +kernel) ?_
      refine lv_goto (tgt := 15) hx hb d_MD_within_11 (by decide) ?_
      exact W.zret (v := nI 1) hx hb hr (by decide +kernel) (fun t9 ht hW => ⟨_, rfl, (by unfold wiN; rw [if_neg c_2, if_neg c_7]), ht⟩) (fun q h => by cases h) d_MD_within_15
set_option maxHeartbeats 4000000 in
set_option maxRecDepth 100000 in
/-- isPlace -/
theorem k_MD_isPlace (l : Launch) (D : va_G) (cI cJ : ClassId) (x : Int32) (y : Int32)  : Met l y_MD_isPlace ws_MD_isPlace ({ frames := 1, cells := 0, slots := 0, locals := 22 } : Room) (va_Pc [.int x, .int y] (Pp D cI cJ [])) (vp_Si (fun r : Int32 => r = nI (isP x y))) 0 0 (fun _ => False) := by
  refine Met.ofW (cc := c_MD_isPlace) (maxL := 2) (ret := (some .boolean)) (by decide) rfl ?_
  intro p e s m args below meth c s₁ B hml hv
  obtain ⟨rfl, hE, hP, hX⟩ := hv
  have hx := B.exec
  have hb := B.bytes
  have hr := B.returns
  have hw : ∀ w ∈ gw, w.before _ s = true := fun w h => atoms_spec (ws := ws_MD_isPlace) B.pre w (List.mem_cons_of_mem _ h)
  have hown : s.vm.findClass R_MD = some m.cls := findClass_of_methodNamed B.named
  have hlocks := B.notSynchronized
  have hS : va_S (fun _ => False) s.heap s.heap [] := va_S.rf
  have hl := lv_entry ([.int x, .int y]) (n := 2) (Nat.le_of_ble_eq_true rfl)
  rw [lg_entry_eq]
  generalize (lg_sl ([.int x, .int y]) ++ List.replicate (2 - (lg_sl ([.int x, .int y])).length) Slot.unset).toArray = ls at hl ⊢
  have hl : lv_has ls 2 [(0, .int x), (1, .int y)] := hl
  refine lv_iload_n hx hb d_MD_isPlace_0 rfl (lv_at hl 0 rfl) ?_
  refine lv_iconst (v := nI 0) hx hb d_MD_isPlace_1 (by decide +kernel) ?_
  refine lv_bipush (v := nI 39) hx hb d_MD_isPlace_2 (by decide +kernel) ?_
  refine vp_callSi (va_Run.run (va_runS (As := [.int x, .int (nI 0), .int (nI 39)]) (rest := []) ⟨hx, hb, hml, hown, hw⟩ (k_MD_within l D cI cJ x (nI 0) (nI 39)) (va_cwS 3 hw (gS kw_840 kw_841 kw_45 kw_842) rfl rfl rfl (by decide +kernel) ⟨Nat.le_of_ble_eq_true rfl, Nat.le_of_ble_eq_true rfl⟩) (pre_Sp (wc := []) hE hX hP hS [] rfl) rfl rfl hl.1 rfl (lv_room (Nat.le_of_ble_eq_true rfl)) d_MD_isPlace_4 ⟨Nat.le_of_ble_eq_true rfl, Nat.le_of_ble_eq_true rfl⟩)) (fun r_1 hr_1 => ?_)
  obtain rfl : nI (wiN x (nI 0) (nI 39)) = r_1 := hr_1.symm
  refine jn_if_eq (tgt := 24) (a := (wiN x (nI 0) (nI 39))) hx hb d_MD_isPlace_7 (by decide) (by have := wiN_le x (nI 0) (nI 39); omega) (fun c_7 => ?_) (fun c_7 => ?_)
  · skip
    refine lv_iconst (v := nI 0) hx hb d_MD_isPlace_24 (by decide +kernel) ?_
    exact W.zret (v := nI 0) hx hb hr (by decide +kernel) (fun t9 ht hW => ⟨_, rfl, (by unfold isP; rw [if_pos c_7]), ht⟩) (fun q h => by cases h) d_MD_isPlace_25
  · skip
    refine lv_iload_n hx hb d_MD_isPlace_10 rfl (lv_at hl 1 rfl) ?_
    refine lv_iconst (v := nI 0) hx hb d_MD_isPlace_11 (by decide +kernel) ?_
    refine lv_bipush (v := nI 39) hx hb d_MD_isPlace_12 (by decide +kernel) ?_
    refine vp_callSi (va_Run.run (va_runS (As := [.int y, .int (nI 0), .int (nI 39)]) (rest := []) ⟨hx, hb, hml, hown, hw⟩ (k_MD_within l D cI cJ y (nI 0) (nI 39)) (va_cwS 3 hw (gS kw_840 kw_841 kw_45 kw_842) rfl rfl rfl (by decide +kernel) ⟨Nat.le_of_ble_eq_true rfl, Nat.le_of_ble_eq_true rfl⟩) (pre_Sp (wc := []) hE hX hP hS [] rfl) rfl rfl hl.1 rfl (lv_room (Nat.le_of_ble_eq_true rfl)) d_MD_isPlace_14 ⟨Nat.le_of_ble_eq_true rfl, Nat.le_of_ble_eq_true rfl⟩)) (fun r_2 hr_2 => ?_)
    obtain rfl : nI (wiN y (nI 0) (nI 39)) = r_2 := hr_2.symm
    refine jn_if_eq (tgt := 24) (a := (wiN y (nI 0) (nI 39))) hx hb d_MD_isPlace_17 (by decide) (by have := wiN_le y (nI 0) (nI 39); omega) (fun c_17 => ?_) (fun c_17 => ?_)
    · skip
      refine lv_iconst (v := nI 0) hx hb d_MD_isPlace_24 (by decide +kernel) ?_
      exact W.zret (v := nI 0) hx hb hr (by decide +kernel) (fun t9 ht hW => ⟨_, rfl, (by unfold isP; rw [if_neg c_7, if_pos c_17]), ht⟩) (fun q h => by cases h) d_MD_isPlace_25
    · skip
      refine lv_iconst (v := nI 1) hx hb d_MD_isPlace_20 (by decide +kernel) ?_
      refine lv_goto (tgt := 25) hx hb d_MD_isPlace_21 (by decide) ?_
      exact W.zret (v := nI 1) hx hb hr (by decide +kernel) (fun t9 ht hW => ⟨_, rfl, (by unfold isP; rw [if_neg c_7, if_neg c_17]), ht⟩) (fun q h => by cases h) d_MD_isPlace_25
set_option maxHeartbeats 4000000 in
set_option maxRecDepth 100000 in
/-- isType -/
theorem k_MD_isType (l : Launch) (D : va_G) (cI cJ : ClassId) (w0 : Nat) (w1 : Nat) (w2 : Nat) (w3 : Nat) (w4 : Nat) (w5 : Nat) (w6 : Nat) (w7 : Nat) (w8 : Nat) (w9 : Nat) (w10 : Nat) (w11 : Nat) (w12 : Nat) (w13 : Nat) (w14 : Nat) (yt : Int32) (te : Int32) (nt : Int32) (wb : Int32) (rc : Int32) (fp : Int32) (ft : Int32) (th : Int32) (x : Int32)  : Met l y_MD_isType ws_MD_isType ({ frames := 1, cells := 0, slots := 0, locals := 22 } : Room) (va_Pc [.ref w0, .int x] (Pp D cI cJ [(w0, .inr (5, [.ref w1, .ref w2, .int yt, .int te, .ref w3, .ref w4, .ref w5, .int nt, .int wb, .ref w6, .ref w7, .ref w8, .int rc, .ref w9, .ref w10, .ref w11, .ref w12, .ref w13, .ref w14, .int fp, .int ft, .int th]))])) (vp_Si (fun r : Int32 => r = nI (wiN x (nI 1) yt))) 0 0 (fun _ => False) := by
  refine Met.ofW (cc := c_MD_isType) (maxL := 2) (ret := (some .boolean)) (by decide) rfl ?_
  intro p e s m args below meth c s₁ B hml hv
  obtain ⟨rfl, hE, hP, hX⟩ := hv
  have hx := B.exec
  have hb := B.bytes
  have hr := B.returns
  have hw : ∀ w ∈ gw, w.before _ s = true := fun w h => atoms_spec (ws := ws_MD_isType) B.pre w (List.mem_cons_of_mem _ h)
  have hown : s.vm.findClass R_MD = some m.cls := findClass_of_methodNamed B.named
  have hlocks := B.notSynchronized
  have hS : va_S (fun _ => False) s.heap s.heap [] := va_S.rf
  have hl := lv_entry ([.ref w0, .int x]) (n := 2) (Nat.le_of_ble_eq_true rfl)
  rw [lg_entry_eq]
  generalize (lg_sl ([.ref w0, .int x]) ++ List.replicate (2 - (lg_sl ([.ref w0, .int x])).length) Slot.unset).toArray = ls at hl ⊢
  have hl : lv_has ls 2 [(0, .ref w0), (1, .int x)] := hl
  refine lv_iload_n hx hb d_MD_isType_0 rfl (lv_at hl 1 rfl) ?_
  refine lv_iconst (v := nI 1) hx hb d_MD_isType_1 (by decide +kernel) ?_
  refine lv_aload_n hx hb d_MD_isType_2 rfl (lv_at hl 0 rfl) ?_
  refine va_get (D := D) (ci := 5) (v := .int yt) (C := R_MD) (T := T_MD) (N := 22) hx hb hw in_MD hown hE.1 hP 0 rfl rfl 2 (by decide) (hw _ kw_763) (fun _ h9 => h9) rfl d_MD_isType_3 ?_
  refine vp_callSi (va_Run.run (va_runS (As := [.int x, .int (nI 1), .int yt]) (rest := []) ⟨hx, hb, hml, hown, hw⟩ (k_MD_within l D cI cJ x (nI 1) yt) (va_cwS 3 hw (gS kw_840 kw_841 kw_45 kw_842) rfl rfl rfl (by decide +kernel) ⟨Nat.le_of_ble_eq_true rfl, Nat.le_of_ble_eq_true rfl⟩) (pre_Sp (wc := []) hE hX hP hS [] rfl) rfl rfl hl.1 rfl (lv_room (Nat.le_of_ble_eq_true rfl)) d_MD_isType_6 ⟨Nat.le_of_ble_eq_true rfl, Nat.le_of_ble_eq_true rfl⟩)) (fun r_1 hr_1 => ?_)
  obtain rfl : nI (wiN x (nI 1) yt) = r_1 := hr_1.symm
  exact W.zret (v := nI (wiN x (nI 1) yt)) hx hb hr (nar_bool (wiN_le _ _ _)) (fun t9 ht hW => ⟨_, rfl, rfl, ht⟩) (fun q h => by cases h) d_MD_isType_9
set_option maxHeartbeats 4000000 in
set_option maxRecDepth 100000 in
/-- fails -/
theorem k_MD_fails (l : Launch) (D : va_G) (cI cJ : ClassId) (w0 : Nat) (w1 : Nat) (w2 : Nat) (w3 : Nat) (w4 : Nat) (w5 : Nat) (w6 : Nat) (w7 : Nat) (w8 : Nat) (w9 : Nat) (w10 : Nat) (w11 : Nat) (w12 : Nat) (w13 : Nat) (w14 : Nat) (yt : Int32) (te : Int32) (nt : Int32) (wb : Int32) (rc : Int32) (fp : Int32) (ft : Int32) (th : Int32) (b : Nat) (k : Nat) (sz : Nat) (hb1 : b ≤ 1) : Met l y_MD_fails ws_MD_fails ({ frames := 0, cells := 0, slots := 0, locals := 0 } : Room) (va_Pc [.ref w0, .int (nI b), .int (nI k)] (Pw D cI cJ [(w0, .inr (5, [.ref w1, .ref w2, .int yt, .int te, .ref w3, .ref w4, .ref w5, .int nt, .int wb, .ref w6, .ref w7, .ref w8, .int rc, .ref w9, .ref w10, .ref w11, .ref w12, .ref w13, .ref w14, .int fp, .int ft, .int th]))] sz)) (va_Qi (fun (r : Int32) (_u : Unit) => r = nI b) (fun _u t9 => Bw D (va_A [(w0, .inr (5, [.ref w1, .ref w2, .int yt, .int te, .ref w3, .ref w4, .ref w5, .int nt, .int wb, .ref w6, .ref w7, .ref w8, .int rc, .ref w9, .ref w10, .ref w11, .ref w12, .ref w13, .ref w14, .int fp, .int ft, .int th]))] sz) [(w0, .inr (5, [.ref w1, .ref w2, .int yt, .int te, .ref w3, .ref w4, .ref w5, .int nt, .int wb, .ref w6, .ref w7, .ref w8, .int rc, .ref w9, .ref w10, .ref w11, .ref w12, .ref w13, .ref w14, .int fp, .int ft, .int (nI (flN b k))]))] t9) (va_A [(w0, .inr (5, [.ref w1, .ref w2, .int yt, .int te, .ref w3, .ref w4, .ref w5, .int nt, .int wb, .ref w6, .ref w7, .ref w8, .int rc, .ref w9, .ref w10, .ref w11, .ref w12, .ref w13, .ref w14, .int fp, .int ft, .int th]))] sz)) 0 0 (va_A [(w0, .inr (5, [.ref w1, .ref w2, .int yt, .int te, .ref w3, .ref w4, .ref w5, .int nt, .int wb, .ref w6, .ref w7, .ref w8, .int rc, .ref w9, .ref w10, .ref w11, .ref w12, .ref w13, .ref w14, .int fp, .int ft, .int th]))] sz) := by
  refine Met.ofW (cc := c_MD_fails) (maxL := 3) (ret := (some .boolean)) (by decide) rfl ?_
  intro p e s m args below meth c s₁ B hml hv
  obtain ⟨rfl, hsz, hE, hP, hD0, hX⟩ := hv
  have hx := B.exec
  have hb := B.bytes
  have hr := B.returns
  have hw : ∀ w ∈ gw, w.before _ s = true := fun w h => atoms_spec (ws := ws_MD_fails) B.pre w (List.mem_cons_of_mem _ h)
  have hown : s.vm.findClass R_MD = some m.cls := findClass_of_methodNamed B.named
  have hlocks := B.notSynchronized
  subst hsz
  have hD := hD0.self (sz := s.heap.size)
  generalize hAe : va_A [(w0, .inr (5, [.ref w1, .ref w2, .int yt, .int te, .ref w3, .ref w4, .ref w5, .int nt, .int wb, .ref w6, .ref w7, .ref w8, .int rc, .ref w9, .ref w10, .ref w11, .ref w12, .ref w13, .ref w14, .int fp, .int ft, .int th]))] s.heap.size = A at hD hX ⊢
  have hA : ∀ q : Nat, s.heap.size ≤ q → A q := fun q h => by rw [← hAe]; exact Or.inr h
  have hS : va_S A s.heap s.heap [] := va_S.rf
  have hP : va_P D vwCl [(w0, .inr (5, [.ref w1, .ref w2, .int yt, .int te, .ref w3, .ref w4, .ref w5, .int nt, .int wb, .ref w6, .ref w7, .ref w8, .int rc, .ref w9, .ref w10, .ref w11, .ref w12, .ref w13, .ref w14, .int fp, .int ft, .int th]))] s.heap := hP
  have hl := lv_entry ([.ref w0, .int (nI b), .int (nI k)]) (n := 3) (Nat.le_of_ble_eq_true rfl)
  rw [lg_entry_eq]
  generalize (lg_sl ([.ref w0, .int (nI b), .int (nI k)]) ++ List.replicate (3 - (lg_sl ([.ref w0, .int (nI b), .int (nI k)])).length) Slot.unset).toArray = ls at hl ⊢
  have hl : lv_has ls 3 [(0, .ref w0), (1, .int (nI b)), (2, .int (nI k))] := hl
  refine lv_aload_n hx hb d_MD_fails_0 rfl (lv_at hl 0 rfl) ?_
  refine lv_iload_n hx hb d_MD_fails_1 rfl (lv_at hl 1 rfl) ?_
  refine jn_if_eq (tgt := 9) (a := b) hx hb d_MD_fails_2 (by decide) (by omega) (fun c_2 => ?_) (fun c_2 => ?_)
  · skip
    refine lv_iconst (v := nI 0) hx hb d_MD_fails_9 (by decide +kernel) ?_
    refine va_put (D := D) (ci := 5) (v := .int (nI 0)) (ty := .int) (C := R_MD) (T := T_MD) (N := 22) hx hb hw in_MD ty_MD ty_MD_ok nm_MD_ok hown hE.1 hP hD hS 0 rfl rfl 21 (by decide) (hw _ kw_782) (fun _ h9 => h9) rfl (by decide +kernel) rfl rfl (Nat.le_of_ble_eq_true rfl) d_MD_fails_10 (fun H locs hP hD hS => ?_)
    have hP : va_P D vwCl [(w0, .inr (5, [.ref w1, .ref w2, .int yt, .int te, .ref w3, .ref w4, .ref w5, .int nt, .int wb, .ref w6, .ref w7, .ref w8, .int rc, .ref w9, .ref w10, .ref w11, .ref w12, .ref w13, .ref w14, .int fp, .int ft, .int (nI 0)]))] H := hP
    have hD : va_D A [(w0, .inr (5, [.ref w1, .ref w2, .int yt, .int te, .ref w3, .ref w4, .ref w5, .int nt, .int wb, .ref w6, .ref w7, .ref w8, .int rc, .ref w9, .ref w10, .ref w11, .ref w12, .ref w13, .ref w14, .int fp, .int ft, .int (nI 0)]))] := hD
    refine lv_iload_n hx hb d_MD_fails_13 rfl (lv_at hl 1 rfl) ?_
    have hP9 := hP.sub (ws' := [(w0, .inr (5, [.ref w1, .ref w2, .int yt, .int te, .ref w3, .ref w4, .ref w5, .int nt, .int wb, .ref w6, .ref w7, .ref w8, .int rc, .ref w9, .ref w10, .ref w11, .ref w12, .ref w13, .ref w14, .int fp, .int ft, .int (nI 0)]))]) [0] rfl
    have hD9 := hD.sub (ws' := [(w0, .inr (5, [.ref w1, .ref w2, .int yt, .int te, .ref w3, .ref w4, .ref w5, .int nt, .int wb, .ref w6, .ref w7, .ref w8, .int rc, .ref w9, .ref w10, .ref w11, .ref w12, .ref w13, .ref w14, .int fp, .int ft, .int (nI 0)]))]) [0] (by decide) rfl
    have hP9 : va_P D vwCl [(w0, .inr (5, [.ref w1, .ref w2, .int yt, .int te, .ref w3, .ref w4, .ref w5, .int nt, .int wb, .ref w6, .ref w7, .ref w8, .int rc, .ref w9, .ref w10, .ref w11, .ref w12, .ref w13, .ref w14, .int fp, .int ft, .int (nI (flN b k))]))] H := by rw [show flN b k = 0 from if_pos c_2]; exact hP9
    have hD9 : va_D A [(w0, .inr (5, [.ref w1, .ref w2, .int yt, .int te, .ref w3, .ref w4, .ref w5, .int nt, .int wb, .ref w6, .ref w7, .ref w8, .int rc, .ref w9, .ref w10, .ref w11, .ref w12, .ref w13, .ref w14, .int fp, .int ft, .int (nI (flN b k))]))] := by rw [show flN b k = 0 from if_pos c_2]; exact hD9
    exact W.zret (v := nI b) hx hb hr (nar_bool hb1) (fun t9 ht hW => ⟨⟨_, (), rfl, rfl, ⟨by rw [ht]; exact hP9, hD9⟩⟩, hS.F ht⟩) hS.2.2 d_MD_fails_14
  · skip
    refine lv_iload_n hx hb d_MD_fails_5 rfl (lv_at hl 2 rfl) ?_
    refine lv_goto (tgt := 10) hx hb d_MD_fails_6 (by decide) ?_
    refine va_put (D := D) (ci := 5) (v := .int (nI k)) (ty := .int) (C := R_MD) (T := T_MD) (N := 22) hx hb hw in_MD ty_MD ty_MD_ok nm_MD_ok hown hE.1 hP hD hS 0 rfl rfl 21 (by decide) (hw _ kw_782) (fun _ h9 => h9) rfl (by decide +kernel) rfl rfl (Nat.le_of_ble_eq_true rfl) d_MD_fails_10 (fun H locs hP hD hS => ?_)
    have hP : va_P D vwCl [(w0, .inr (5, [.ref w1, .ref w2, .int yt, .int te, .ref w3, .ref w4, .ref w5, .int nt, .int wb, .ref w6, .ref w7, .ref w8, .int rc, .ref w9, .ref w10, .ref w11, .ref w12, .ref w13, .ref w14, .int fp, .int ft, .int (nI k)]))] H := hP
    have hD : va_D A [(w0, .inr (5, [.ref w1, .ref w2, .int yt, .int te, .ref w3, .ref w4, .ref w5, .int nt, .int wb, .ref w6, .ref w7, .ref w8, .int rc, .ref w9, .ref w10, .ref w11, .ref w12, .ref w13, .ref w14, .int fp, .int ft, .int (nI k)]))] := hD
    refine lv_iload_n hx hb d_MD_fails_13 rfl (lv_at hl 1 rfl) ?_
    have hP9 := hP.sub (ws' := [(w0, .inr (5, [.ref w1, .ref w2, .int yt, .int te, .ref w3, .ref w4, .ref w5, .int nt, .int wb, .ref w6, .ref w7, .ref w8, .int rc, .ref w9, .ref w10, .ref w11, .ref w12, .ref w13, .ref w14, .int fp, .int ft, .int (nI k)]))]) [0] rfl
    have hD9 := hD.sub (ws' := [(w0, .inr (5, [.ref w1, .ref w2, .int yt, .int te, .ref w3, .ref w4, .ref w5, .int nt, .int wb, .ref w6, .ref w7, .ref w8, .int rc, .ref w9, .ref w10, .ref w11, .ref w12, .ref w13, .ref w14, .int fp, .int ft, .int (nI k)]))]) [0] (by decide) rfl
    have hP9 : va_P D vwCl [(w0, .inr (5, [.ref w1, .ref w2, .int yt, .int te, .ref w3, .ref w4, .ref w5, .int nt, .int wb, .ref w6, .ref w7, .ref w8, .int rc, .ref w9, .ref w10, .ref w11, .ref w12, .ref w13, .ref w14, .int fp, .int ft, .int (nI (flN b k))]))] H := by rw [show flN b k = k from if_neg c_2]; exact hP9
    have hD9 : va_D A [(w0, .inr (5, [.ref w1, .ref w2, .int yt, .int te, .ref w3, .ref w4, .ref w5, .int nt, .int wb, .ref w6, .ref w7, .ref w8, .int rc, .ref w9, .ref w10, .ref w11, .ref w12, .ref w13, .ref w14, .int fp, .int ft, .int (nI (flN b k))]))] := by rw [show flN b k = k from if_neg c_2]; exact hD9
    exact W.zret (v := nI b) hx hb hr (nar_bool hb1) (fun t9 ht hW => ⟨⟨_, (), rfl, rfl, ⟨by rw [ht]; exact hP9, hD9⟩⟩, hS.F ht⟩) hS.2.2 d_MD_fails_14
set_option maxHeartbeats 4000000 in
set_option maxRecDepth 100000 in
/-- glueOf -/
theorem k_MD_glueOf (l : Launch) (D : va_G) (cI cJ : ClassId) (w0 : Nat) (w1 : Nat) (w2 : Nat) (w3 : Nat) (w4 : Nat) (w5 : Nat) (w6 : Nat) (w7 : Nat) (w8 : Nat) (w9 : Nat) (w10 : Nat) (w11 : Nat) (w12 : Nat) (w13 : Nat) (w14 : Nat) (yt : Int32) (te : Int32) (nt : Int32) (wb : Int32) (rc : Int32) (fp : Int32) (ft : Int32) (th : Int32) (gl : Nat → Int32) (t : Nat) (k : Nat) (hk : 4 * t + k < 244) : Met l y_MD_glueOf ws_MD_glueOf ({ frames := 0, cells := 0, slots := 0, locals := 0 } : Room) (va_Pc [.ref w0, .int (nI t), .int (nI k)] (Pp D cI cJ [(w0, .inr (5, [.ref w1, .ref w2, .int yt, .int te, .ref w3, .ref w4, .ref w5, .int nt, .int wb, .ref w6, .ref w7, .ref w8, .int rc, .ref w9, .ref w10, .ref w11, .ref w12, .ref w13, .ref w14, .int fp, .int ft, .int th])), (w2, .inl (cI, 244, .inl gl))])) (vp_Si (fun r : Int32 => r = gl (4 * t + k))) 0 0 (fun _ => False) := by
  refine Met.ofW (cc := c_MD_glueOf) (maxL := 3) (ret := (some .int)) (by decide) rfl ?_
  intro p e s m args below meth c s₁ B hml hv
  obtain ⟨rfl, hE, hP, hX⟩ := hv
  have hx := B.exec
  have hb := B.bytes
  have hr := B.returns
  have hw : ∀ w ∈ gw, w.before _ s = true := fun w h => atoms_spec (ws := ws_MD_glueOf) B.pre w (List.mem_cons_of_mem _ h)
  have hown : s.vm.findClass R_MD = some m.cls := findClass_of_methodNamed B.named
  have hlocks := B.notSynchronized
  have hS : va_S (fun _ => False) s.heap s.heap [] := va_S.rf
  have hl := lv_entry ([.ref w0, .int (nI t), .int (nI k)]) (n := 3) (Nat.le_of_ble_eq_true rfl)
  rw [lg_entry_eq]
  generalize (lg_sl ([.ref w0, .int (nI t), .int (nI k)]) ++ List.replicate (3 - (lg_sl ([.ref w0, .int (nI t), .int (nI k)])).length) Slot.unset).toArray = ls at hl ⊢
  have hl : lv_has ls 3 [(0, .ref w0), (1, .int (nI t)), (2, .int (nI k))] := hl
  refine lv_aload_n hx hb d_MD_glueOf_0 rfl (lv_at hl 0 rfl) ?_
  refine va_get (D := D) (ci := 5) (v := .ref w2) (C := R_MD) (T := T_MD) (N := 22) hx hb hw in_MD hown hE.1 hP 0 rfl rfl 1 (by decide) (hw _ kw_762) (fun _ h9 => h9) rfl d_MD_glueOf_1 ?_
  refine lv_iconst (v := nI 4) hx hb d_MD_glueOf_4 (by decide +kernel) ?_
  refine lv_iload_n hx hb d_MD_glueOf_5 rfl (lv_at hl 1 rfl) ?_
  refine jn_imul (a := 4) (b := t) hx hb d_MD_glueOf_6 ?_
  refine lv_iload_n hx hb d_MD_glueOf_7 rfl (lv_at hl 2 rfl) ?_
  refine jn_iadd (a := (4 * t)) (b := k) hx hb d_MD_glueOf_8 ?_
  refine jn_iald (k := ((4 * t) + k)) hx hb hE.1 hP 1 0 rfl rfl (by omega) (by omega) d_MD_glueOf_9 ?_
  exact W.iret (v := gl ((4 * t) + k)) hx hb hr (fun t9 ht hW => ⟨_, rfl, rfl, ht⟩) (fun q h => by cases h) d_MD_glueOf_10
set_option maxHeartbeats 4000000 in
set_option maxRecDepth 100000 in
/-- TileBenchModel() -/
theorem k_MD_init (l : Launch) (D : va_G) (cI cJ : ClassId) (w0 : Nat) (sz : Nat)  : Met l y_MD_init ws_MD_init ({ frames := 1, cells := 14, slots := 24745, locals := 16 } : Room) (va_Pc [.ref w0] (Pw D cI cJ [(w0, .inr (5, [.null, .null, .int 0, .int 0, .null, .null, .null, .int 0, .int 0, .null, .null, .null, .int 0, .null, .null, .null, .null, .null, .null, .int 0, .int 0, .int 0]))] sz)) (va_Qv (fun (u9 : Nat × Nat × Nat × Nat × Nat × Nat × Nat × Nat × Nat × Nat × Nat × Nat × Nat × Nat) => True) (fun u9 t9 => Bw D (va_A [(w0, .inr (5, [.null, .null, .int 0, .int 0, .null, .null, .null, .int 0, .int 0, .null, .null, .null, .int 0, .null, .null, .null, .null, .null, .null, .int 0, .int 0, .int 0]))] sz) [(w0, .inr (5, [.ref u9.1, .ref u9.2.1, .int 0, .int (nI 2), .ref u9.2.2.1, .ref u9.2.2.2.1, .ref u9.2.2.2.2.1, .int 0, .int 0, .ref u9.2.2.2.2.2.1, .ref u9.2.2.2.2.2.2.1, .ref u9.2.2.2.2.2.2.2.1, .int 0, .ref u9.2.2.2.2.2.2.2.2.1, .ref u9.2.2.2.2.2.2.2.2.2.1, .ref u9.2.2.2.2.2.2.2.2.2.2.1, .ref u9.2.2.2.2.2.2.2.2.2.2.2.1, .ref u9.2.2.2.2.2.2.2.2.2.2.2.2.1, .ref u9.2.2.2.2.2.2.2.2.2.2.2.2.2, .int 0, .int 0, .int 0])), (u9.1, .inl (cI, 100, .inl (fun _ => 0))), (u9.2.1, .inl (cI, 244, .inl (fun _ => 0))), (u9.2.2.1, .inl (cI, 1600, .inl (fun _ => 0))), (u9.2.2.2.1, .inl (cI, 1600, .inl (fun _ => 0))), (u9.2.2.2.2.1, .inl (cI, 1600, .inl (fun _ => 0))), (u9.2.2.2.2.2.1, .inl (cI, 1600, .inl (fun _ => 0))), (u9.2.2.2.2.2.2.1, .inl (cI, 15030, .inl (fun _ => 0))), (u9.2.2.2.2.2.2.2.1, .inl (cI, 501, .inl (fun _ => 0))), (u9.2.2.2.2.2.2.2.2.1, .inl (cI, 30, .inl (fun _ => 0))), (u9.2.2.2.2.2.2.2.2.2.1, .inl (cI, 1600, .inl (fun _ => 0))), (u9.2.2.2.2.2.2.2.2.2.2.1, .inl (cI, 120, .inl (fun _ => 0))), (u9.2.2.2.2.2.2.2.2.2.2.2.1, .inl (cI, 480, .inl (fun _ => 0))), (u9.2.2.2.2.2.2.2.2.2.2.2.2.1, .inl (cI, 120, .inl (fun _ => 0))), (u9.2.2.2.2.2.2.2.2.2.2.2.2.2, .inl (cI, 120, .inl (fun _ => 0)))] t9) (va_A [(w0, .inr (5, [.null, .null, .int 0, .int 0, .null, .null, .null, .int 0, .int 0, .null, .null, .null, .int 0, .null, .null, .null, .null, .null, .null, .int 0, .int 0, .int 0]))] sz)) 14 24745 (va_A [(w0, .inr (5, [.null, .null, .int 0, .int 0, .null, .null, .null, .int 0, .int 0, .null, .null, .null, .int 0, .null, .null, .null, .null, .null, .null, .int 0, .int 0, .int 0]))] sz) := by
  refine Met.ofW (cc := c_MD_init) (maxL := 1) (ret := none) (by decide) rfl ?_
  intro p e s m args below meth c s₁ B hml hv
  obtain ⟨rfl, hsz, hE, hP, hD0, hX⟩ := hv
  have hx := B.exec
  have hb := B.bytes
  have hr := B.returns
  have hw : ∀ w ∈ gw, w.before _ s = true := fun w h => atoms_spec (ws := ws_MD_init) B.pre w (List.mem_cons_of_mem _ h)
  have hown : s.vm.findClass R_MD = some m.cls := findClass_of_methodNamed B.named
  have hlocks := B.notSynchronized
  have hin : meth.name = "<init>" := (name_of_methodNamed B.named B.method).1
  subst hsz
  have hD := hD0.self (sz := s.heap.size)
  generalize hAe : va_A [(w0, .inr (5, [.null, .null, .int 0, .int 0, .null, .null, .null, .int 0, .int 0, .null, .null, .null, .int 0, .null, .null, .null, .null, .null, .null, .int 0, .int 0, .int 0]))] s.heap.size = A at hD hX ⊢
  have hA : ∀ q : Nat, s.heap.size ≤ q → A q := fun q h => by rw [← hAe]; exact Or.inr h
  have hS : va_S A s.heap s.heap [] := va_S.rf
  have hP : va_P D vwCl [(w0, .inr (5, [.null, .null, .int 0, .int 0, .null, .null, .null, .int 0, .int 0, .null, .null, .null, .int 0, .null, .null, .null, .null, .null, .null, .int 0, .int 0, .int 0]))] s.heap := hP
  have hl := lv_entry ([.ref w0]) (n := 1) (Nat.le_of_ble_eq_true rfl)
  rw [lg_entry_eq]
  generalize (lg_sl ([.ref w0]) ++ List.replicate (1 - (lg_sl ([.ref w0])).length) Slot.unset).toArray = ls at hl ⊢
  have hl : lv_has ls 1 [(0, .ref w0)] := hl
  refine lv_aload_n hx hb d_MD_init_0 rfl (lv_at hl 0 rfl) ?_
  refine W.objInit hx hb hown (hw _ kw_760) (hw _ kw_63) (hw _ kw_64) rfl (by rw [hml]; exact hl.1) rfl d_MD_init_1 (Nat.le_of_ble_eq_true rfl) (Nat.le_of_ble_eq_true rfl) ?_
  refine W.eq (g2 := F0 m 4 ls []) rfl ?_
  refine lv_aload_n hx hb d_MD_init_4 rfl (lv_at hl 0 rfl) ?_
  refine lv_bipush (v := nI 100) hx hb d_MD_init_5 (by decide +kernel) ?_
  refine nw_I (N := 100) hx hb (hw _ kw_87) hE.1 hP hD hS hA (by decide +kernel) (by decide +kernel) (by decide) (Nat.le_of_ble_eq_true rfl) (Nat.le_of_ble_eq_true rfl) d_MD_init_7 (fun qa_1 H hP hD hS => ?_)
  have hP : va_P D vwCl [(w0, .inr (5, [.null, .null, .int 0, .int 0, .null, .null, .null, .int 0, .int 0, .null, .null, .null, .int 0, .null, .null, .null, .null, .null, .null, .int 0, .int 0, .int 0])), (qa_1, .inl (cI, 100, .inl (fun _ => 0)))] H := hP
  have hD : va_D A [(w0, .inr (5, [.null, .null, .int 0, .int 0, .null, .null, .null, .int 0, .int 0, .null, .null, .null, .int 0, .null, .null, .null, .null, .null, .null, .int 0, .int 0, .int 0])), (qa_1, .inl (cI, 100, .inl (fun _ => 0)))] := hD
  refine W.widen (k := 1) (n := 100) (by omega) (by omega) ?_
  refine va_putF (D := D) (ci := 5) (v := .ref qa_1) (ty := (.array .int)) (C := R_MD) (T := T_MD) (N := 22) hx hb hw in_MD ty_MD ty_MD_ok nm_MD_ok hown hE.1 hP hD hS 0 rfl rfl 0 (by decide) (hw _ kw_761) (fun _ h9 => h9) rfl hin rfl (by decide +kernel) rfl rfl (Nat.le_of_ble_eq_true rfl) d_MD_init_9 (fun H locs hP hD hS => ?_)
  have hP : va_P D vwCl [(w0, .inr (5, [.ref qa_1, .null, .int 0, .int 0, .null, .null, .null, .int 0, .int 0, .null, .null, .null, .int 0, .null, .null, .null, .null, .null, .null, .int 0, .int 0, .int 0])), (qa_1, .inl (cI, 100, .inl (fun _ => 0)))] H := hP
  have hD : va_D A [(w0, .inr (5, [.ref qa_1, .null, .int 0, .int 0, .null, .null, .null, .int 0, .int 0, .null, .null, .null, .int 0, .null, .null, .null, .null, .null, .null, .int 0, .int 0, .int 0])), (qa_1, .inl (cI, 100, .inl (fun _ => 0)))] := hD
  refine lv_aload_n hx hb d_MD_init_12 rfl (lv_at hl 0 rfl) ?_
  refine lv_sipush (v := nI 244) hx hb d_MD_init_13 (by decide +kernel) ?_
  refine nw_I (N := 244) hx hb (hw _ kw_87) hE.1 hP hD hS hA (by decide +kernel) (by decide +kernel) (by decide) (Nat.le_of_ble_eq_true rfl) (Nat.le_of_ble_eq_true rfl) d_MD_init_16 (fun qa_2 H hP hD hS => ?_)
  have hP : va_P D vwCl [(w0, .inr (5, [.ref qa_1, .null, .int 0, .int 0, .null, .null, .null, .int 0, .int 0, .null, .null, .null, .int 0, .null, .null, .null, .null, .null, .null, .int 0, .int 0, .int 0])), (qa_1, .inl (cI, 100, .inl (fun _ => 0))), (qa_2, .inl (cI, 244, .inl (fun _ => 0)))] H := hP
  have hD : va_D A [(w0, .inr (5, [.ref qa_1, .null, .int 0, .int 0, .null, .null, .null, .int 0, .int 0, .null, .null, .null, .int 0, .null, .null, .null, .null, .null, .null, .int 0, .int 0, .int 0])), (qa_1, .inl (cI, 100, .inl (fun _ => 0))), (qa_2, .inl (cI, 244, .inl (fun _ => 0)))] := hD
  refine W.widen (k := 2) (n := 344) (by omega) (by omega) ?_
  refine va_putF (D := D) (ci := 5) (v := .ref qa_2) (ty := (.array .int)) (C := R_MD) (T := T_MD) (N := 22) hx hb hw in_MD ty_MD ty_MD_ok nm_MD_ok hown hE.1 hP hD hS 0 rfl rfl 1 (by decide) (hw _ kw_762) (fun _ h9 => h9) rfl hin rfl (by decide +kernel) rfl rfl (Nat.le_of_ble_eq_true rfl) d_MD_init_18 (fun H locs hP hD hS => ?_)
  have hP : va_P D vwCl [(w0, .inr (5, [.ref qa_1, .ref qa_2, .int 0, .int 0, .null, .null, .null, .int 0, .int 0, .null, .null, .null, .int 0, .null, .null, .null, .null, .null, .null, .int 0, .int 0, .int 0])), (qa_1, .inl (cI, 100, .inl (fun _ => 0))), (qa_2, .inl (cI, 244, .inl (fun _ => 0)))] H := hP
  have hD : va_D A [(w0, .inr (5, [.ref qa_1, .ref qa_2, .int 0, .int 0, .null, .null, .null, .int 0, .int 0, .null, .null, .null, .int 0, .null, .null, .null, .null, .null, .null, .int 0, .int 0, .int 0])), (qa_1, .inl (cI, 100, .inl (fun _ => 0))), (qa_2, .inl (cI, 244, .inl (fun _ => 0)))] := hD
  refine lv_aload_n hx hb d_MD_init_21 rfl (lv_at hl 0 rfl) ?_
  refine lv_iconst (v := nI 2) hx hb d_MD_init_22 (by decide +kernel) ?_
  refine va_put (D := D) (ci := 5) (v := .int (nI 2)) (ty := .int) (C := R_MD) (T := T_MD) (N := 22) hx hb hw in_MD ty_MD ty_MD_ok nm_MD_ok hown hE.1 hP hD hS 0 rfl rfl 3 (by decide) (hw _ kw_764) (fun _ h9 => h9) rfl (by decide +kernel) rfl rfl (Nat.le_of_ble_eq_true rfl) d_MD_init_23 (fun H locs hP hD hS => ?_)
  have hP : va_P D vwCl [(w0, .inr (5, [.ref qa_1, .ref qa_2, .int 0, .int (nI 2), .null, .null, .null, .int 0, .int 0, .null, .null, .null, .int 0, .null, .null, .null, .null, .null, .null, .int 0, .int 0, .int 0])), (qa_1, .inl (cI, 100, .inl (fun _ => 0))), (qa_2, .inl (cI, 244, .inl (fun _ => 0)))] H := hP
  have hD : va_D A [(w0, .inr (5, [.ref qa_1, .ref qa_2, .int 0, .int (nI 2), .null, .null, .null, .int 0, .int 0, .null, .null, .null, .int 0, .null, .null, .null, .null, .null, .null, .int 0, .int 0, .int 0])), (qa_1, .inl (cI, 100, .inl (fun _ => 0))), (qa_2, .inl (cI, 244, .inl (fun _ => 0)))] := hD
  refine lv_aload_n hx hb d_MD_init_26 rfl (lv_at hl 0 rfl) ?_
  refine lv_sipush (v := nI 1600) hx hb d_MD_init_27 (by decide +kernel) ?_
  refine nw_I (N := 1600) hx hb (hw _ kw_87) hE.1 hP hD hS hA (by decide +kernel) (by decide +kernel) (by decide) (Nat.le_of_ble_eq_true rfl) (Nat.le_of_ble_eq_true rfl) d_MD_init_30 (fun qa_3 H hP hD hS => ?_)
  have hP : va_P D vwCl [(w0, .inr (5, [.ref qa_1, .ref qa_2, .int 0, .int (nI 2), .null, .null, .null, .int 0, .int 0, .null, .null, .null, .int 0, .null, .null, .null, .null, .null, .null, .int 0, .int 0, .int 0])), (qa_1, .inl (cI, 100, .inl (fun _ => 0))), (qa_2, .inl (cI, 244, .inl (fun _ => 0))), (qa_3, .inl (cI, 1600, .inl (fun _ => 0)))] H := hP
  have hD : va_D A [(w0, .inr (5, [.ref qa_1, .ref qa_2, .int 0, .int (nI 2), .null, .null, .null, .int 0, .int 0, .null, .null, .null, .int 0, .null, .null, .null, .null, .null, .null, .int 0, .int 0, .int 0])), (qa_1, .inl (cI, 100, .inl (fun _ => 0))), (qa_2, .inl (cI, 244, .inl (fun _ => 0))), (qa_3, .inl (cI, 1600, .inl (fun _ => 0)))] := hD
  refine W.widen (k := 3) (n := 1944) (by omega) (by omega) ?_
  refine va_putF (D := D) (ci := 5) (v := .ref qa_3) (ty := (.array .int)) (C := R_MD) (T := T_MD) (N := 22) hx hb hw in_MD ty_MD ty_MD_ok nm_MD_ok hown hE.1 hP hD hS 0 rfl rfl 4 (by decide) (hw _ kw_765) (fun _ h9 => h9) rfl hin rfl (by decide +kernel) rfl rfl (Nat.le_of_ble_eq_true rfl) d_MD_init_32 (fun H locs hP hD hS => ?_)
  have hP : va_P D vwCl [(w0, .inr (5, [.ref qa_1, .ref qa_2, .int 0, .int (nI 2), .ref qa_3, .null, .null, .int 0, .int 0, .null, .null, .null, .int 0, .null, .null, .null, .null, .null, .null, .int 0, .int 0, .int 0])), (qa_1, .inl (cI, 100, .inl (fun _ => 0))), (qa_2, .inl (cI, 244, .inl (fun _ => 0))), (qa_3, .inl (cI, 1600, .inl (fun _ => 0)))] H := hP
  have hD : va_D A [(w0, .inr (5, [.ref qa_1, .ref qa_2, .int 0, .int (nI 2), .ref qa_3, .null, .null, .int 0, .int 0, .null, .null, .null, .int 0, .null, .null, .null, .null, .null, .null, .int 0, .int 0, .int 0])), (qa_1, .inl (cI, 100, .inl (fun _ => 0))), (qa_2, .inl (cI, 244, .inl (fun _ => 0))), (qa_3, .inl (cI, 1600, .inl (fun _ => 0)))] := hD
  refine lv_aload_n hx hb d_MD_init_35 rfl (lv_at hl 0 rfl) ?_
  refine lv_sipush (v := nI 1600) hx hb d_MD_init_36 (by decide +kernel) ?_
  refine nw_I (N := 1600) hx hb (hw _ kw_87) hE.1 hP hD hS hA (by decide +kernel) (by decide +kernel) (by decide) (Nat.le_of_ble_eq_true rfl) (Nat.le_of_ble_eq_true rfl) d_MD_init_39 (fun qa_4 H hP hD hS => ?_)
  have hP : va_P D vwCl [(w0, .inr (5, [.ref qa_1, .ref qa_2, .int 0, .int (nI 2), .ref qa_3, .null, .null, .int 0, .int 0, .null, .null, .null, .int 0, .null, .null, .null, .null, .null, .null, .int 0, .int 0, .int 0])), (qa_1, .inl (cI, 100, .inl (fun _ => 0))), (qa_2, .inl (cI, 244, .inl (fun _ => 0))), (qa_3, .inl (cI, 1600, .inl (fun _ => 0))), (qa_4, .inl (cI, 1600, .inl (fun _ => 0)))] H := hP
  have hD : va_D A [(w0, .inr (5, [.ref qa_1, .ref qa_2, .int 0, .int (nI 2), .ref qa_3, .null, .null, .int 0, .int 0, .null, .null, .null, .int 0, .null, .null, .null, .null, .null, .null, .int 0, .int 0, .int 0])), (qa_1, .inl (cI, 100, .inl (fun _ => 0))), (qa_2, .inl (cI, 244, .inl (fun _ => 0))), (qa_3, .inl (cI, 1600, .inl (fun _ => 0))), (qa_4, .inl (cI, 1600, .inl (fun _ => 0)))] := hD
  refine W.widen (k := 4) (n := 3544) (by omega) (by omega) ?_
  refine va_putF (D := D) (ci := 5) (v := .ref qa_4) (ty := (.array .int)) (C := R_MD) (T := T_MD) (N := 22) hx hb hw in_MD ty_MD ty_MD_ok nm_MD_ok hown hE.1 hP hD hS 0 rfl rfl 5 (by decide) (hw _ kw_766) (fun _ h9 => h9) rfl hin rfl (by decide +kernel) rfl rfl (Nat.le_of_ble_eq_true rfl) d_MD_init_41 (fun H locs hP hD hS => ?_)
  have hP : va_P D vwCl [(w0, .inr (5, [.ref qa_1, .ref qa_2, .int 0, .int (nI 2), .ref qa_3, .ref qa_4, .null, .int 0, .int 0, .null, .null, .null, .int 0, .null, .null, .null, .null, .null, .null, .int 0, .int 0, .int 0])), (qa_1, .inl (cI, 100, .inl (fun _ => 0))), (qa_2, .inl (cI, 244, .inl (fun _ => 0))), (qa_3, .inl (cI, 1600, .inl (fun _ => 0))), (qa_4, .inl (cI, 1600, .inl (fun _ => 0)))] H := hP
  have hD : va_D A [(w0, .inr (5, [.ref qa_1, .ref qa_2, .int 0, .int (nI 2), .ref qa_3, .ref qa_4, .null, .int 0, .int 0, .null, .null, .null, .int 0, .null, .null, .null, .null, .null, .null, .int 0, .int 0, .int 0])), (qa_1, .inl (cI, 100, .inl (fun _ => 0))), (qa_2, .inl (cI, 244, .inl (fun _ => 0))), (qa_3, .inl (cI, 1600, .inl (fun _ => 0))), (qa_4, .inl (cI, 1600, .inl (fun _ => 0)))] := hD
  refine lv_aload_n hx hb d_MD_init_44 rfl (lv_at hl 0 rfl) ?_
  refine lv_sipush (v := nI 1600) hx hb d_MD_init_45 (by decide +kernel) ?_
  refine nw_I (N := 1600) hx hb (hw _ kw_87) hE.1 hP hD hS hA (by decide +kernel) (by decide +kernel) (by decide) (Nat.le_of_ble_eq_true rfl) (Nat.le_of_ble_eq_true rfl) d_MD_init_48 (fun qa_5 H hP hD hS => ?_)
  have hP : va_P D vwCl [(w0, .inr (5, [.ref qa_1, .ref qa_2, .int 0, .int (nI 2), .ref qa_3, .ref qa_4, .null, .int 0, .int 0, .null, .null, .null, .int 0, .null, .null, .null, .null, .null, .null, .int 0, .int 0, .int 0])), (qa_1, .inl (cI, 100, .inl (fun _ => 0))), (qa_2, .inl (cI, 244, .inl (fun _ => 0))), (qa_3, .inl (cI, 1600, .inl (fun _ => 0))), (qa_4, .inl (cI, 1600, .inl (fun _ => 0))), (qa_5, .inl (cI, 1600, .inl (fun _ => 0)))] H := hP
  have hD : va_D A [(w0, .inr (5, [.ref qa_1, .ref qa_2, .int 0, .int (nI 2), .ref qa_3, .ref qa_4, .null, .int 0, .int 0, .null, .null, .null, .int 0, .null, .null, .null, .null, .null, .null, .int 0, .int 0, .int 0])), (qa_1, .inl (cI, 100, .inl (fun _ => 0))), (qa_2, .inl (cI, 244, .inl (fun _ => 0))), (qa_3, .inl (cI, 1600, .inl (fun _ => 0))), (qa_4, .inl (cI, 1600, .inl (fun _ => 0))), (qa_5, .inl (cI, 1600, .inl (fun _ => 0)))] := hD
  refine W.widen (k := 5) (n := 5144) (by omega) (by omega) ?_
  refine va_putF (D := D) (ci := 5) (v := .ref qa_5) (ty := (.array .int)) (C := R_MD) (T := T_MD) (N := 22) hx hb hw in_MD ty_MD ty_MD_ok nm_MD_ok hown hE.1 hP hD hS 0 rfl rfl 6 (by decide) (hw _ kw_767) (fun _ h9 => h9) rfl hin rfl (by decide +kernel) rfl rfl (Nat.le_of_ble_eq_true rfl) d_MD_init_50 (fun H locs hP hD hS => ?_)
  have hP : va_P D vwCl [(w0, .inr (5, [.ref qa_1, .ref qa_2, .int 0, .int (nI 2), .ref qa_3, .ref qa_4, .ref qa_5, .int 0, .int 0, .null, .null, .null, .int 0, .null, .null, .null, .null, .null, .null, .int 0, .int 0, .int 0])), (qa_1, .inl (cI, 100, .inl (fun _ => 0))), (qa_2, .inl (cI, 244, .inl (fun _ => 0))), (qa_3, .inl (cI, 1600, .inl (fun _ => 0))), (qa_4, .inl (cI, 1600, .inl (fun _ => 0))), (qa_5, .inl (cI, 1600, .inl (fun _ => 0)))] H := hP
  have hD : va_D A [(w0, .inr (5, [.ref qa_1, .ref qa_2, .int 0, .int (nI 2), .ref qa_3, .ref qa_4, .ref qa_5, .int 0, .int 0, .null, .null, .null, .int 0, .null, .null, .null, .null, .null, .null, .int 0, .int 0, .int 0])), (qa_1, .inl (cI, 100, .inl (fun _ => 0))), (qa_2, .inl (cI, 244, .inl (fun _ => 0))), (qa_3, .inl (cI, 1600, .inl (fun _ => 0))), (qa_4, .inl (cI, 1600, .inl (fun _ => 0))), (qa_5, .inl (cI, 1600, .inl (fun _ => 0)))] := hD
  refine lv_aload_n hx hb d_MD_init_53 rfl (lv_at hl 0 rfl) ?_
  refine lv_sipush (v := nI 1600) hx hb d_MD_init_54 (by decide +kernel) ?_
  refine nw_I (N := 1600) hx hb (hw _ kw_87) hE.1 hP hD hS hA (by decide +kernel) (by decide +kernel) (by decide) (Nat.le_of_ble_eq_true rfl) (Nat.le_of_ble_eq_true rfl) d_MD_init_57 (fun qa_6 H hP hD hS => ?_)
  have hP : va_P D vwCl [(w0, .inr (5, [.ref qa_1, .ref qa_2, .int 0, .int (nI 2), .ref qa_3, .ref qa_4, .ref qa_5, .int 0, .int 0, .null, .null, .null, .int 0, .null, .null, .null, .null, .null, .null, .int 0, .int 0, .int 0])), (qa_1, .inl (cI, 100, .inl (fun _ => 0))), (qa_2, .inl (cI, 244, .inl (fun _ => 0))), (qa_3, .inl (cI, 1600, .inl (fun _ => 0))), (qa_4, .inl (cI, 1600, .inl (fun _ => 0))), (qa_5, .inl (cI, 1600, .inl (fun _ => 0))), (qa_6, .inl (cI, 1600, .inl (fun _ => 0)))] H := hP
  have hD : va_D A [(w0, .inr (5, [.ref qa_1, .ref qa_2, .int 0, .int (nI 2), .ref qa_3, .ref qa_4, .ref qa_5, .int 0, .int 0, .null, .null, .null, .int 0, .null, .null, .null, .null, .null, .null, .int 0, .int 0, .int 0])), (qa_1, .inl (cI, 100, .inl (fun _ => 0))), (qa_2, .inl (cI, 244, .inl (fun _ => 0))), (qa_3, .inl (cI, 1600, .inl (fun _ => 0))), (qa_4, .inl (cI, 1600, .inl (fun _ => 0))), (qa_5, .inl (cI, 1600, .inl (fun _ => 0))), (qa_6, .inl (cI, 1600, .inl (fun _ => 0)))] := hD
  refine W.widen (k := 6) (n := 6744) (by omega) (by omega) ?_
  refine va_putF (D := D) (ci := 5) (v := .ref qa_6) (ty := (.array .int)) (C := R_MD) (T := T_MD) (N := 22) hx hb hw in_MD ty_MD ty_MD_ok nm_MD_ok hown hE.1 hP hD hS 0 rfl rfl 9 (by decide) (hw _ kw_770) (fun _ h9 => h9) rfl hin rfl (by decide +kernel) rfl rfl (Nat.le_of_ble_eq_true rfl) d_MD_init_59 (fun H locs hP hD hS => ?_)
  have hP : va_P D vwCl [(w0, .inr (5, [.ref qa_1, .ref qa_2, .int 0, .int (nI 2), .ref qa_3, .ref qa_4, .ref qa_5, .int 0, .int 0, .ref qa_6, .null, .null, .int 0, .null, .null, .null, .null, .null, .null, .int 0, .int 0, .int 0])), (qa_1, .inl (cI, 100, .inl (fun _ => 0))), (qa_2, .inl (cI, 244, .inl (fun _ => 0))), (qa_3, .inl (cI, 1600, .inl (fun _ => 0))), (qa_4, .inl (cI, 1600, .inl (fun _ => 0))), (qa_5, .inl (cI, 1600, .inl (fun _ => 0))), (qa_6, .inl (cI, 1600, .inl (fun _ => 0)))] H := hP
  have hD : va_D A [(w0, .inr (5, [.ref qa_1, .ref qa_2, .int 0, .int (nI 2), .ref qa_3, .ref qa_4, .ref qa_5, .int 0, .int 0, .ref qa_6, .null, .null, .int 0, .null, .null, .null, .null, .null, .null, .int 0, .int 0, .int 0])), (qa_1, .inl (cI, 100, .inl (fun _ => 0))), (qa_2, .inl (cI, 244, .inl (fun _ => 0))), (qa_3, .inl (cI, 1600, .inl (fun _ => 0))), (qa_4, .inl (cI, 1600, .inl (fun _ => 0))), (qa_5, .inl (cI, 1600, .inl (fun _ => 0))), (qa_6, .inl (cI, 1600, .inl (fun _ => 0)))] := hD
  refine lv_aload_n hx hb d_MD_init_62 rfl (lv_at hl 0 rfl) ?_
  refine lv_sipush (v := nI 15030) hx hb d_MD_init_63 (by decide +kernel) ?_
  refine nw_I (N := 15030) hx hb (hw _ kw_87) hE.1 hP hD hS hA (by decide +kernel) (by decide +kernel) (by decide) (Nat.le_of_ble_eq_true rfl) (Nat.le_of_ble_eq_true rfl) d_MD_init_66 (fun qa_7 H hP hD hS => ?_)
  have hP : va_P D vwCl [(w0, .inr (5, [.ref qa_1, .ref qa_2, .int 0, .int (nI 2), .ref qa_3, .ref qa_4, .ref qa_5, .int 0, .int 0, .ref qa_6, .null, .null, .int 0, .null, .null, .null, .null, .null, .null, .int 0, .int 0, .int 0])), (qa_1, .inl (cI, 100, .inl (fun _ => 0))), (qa_2, .inl (cI, 244, .inl (fun _ => 0))), (qa_3, .inl (cI, 1600, .inl (fun _ => 0))), (qa_4, .inl (cI, 1600, .inl (fun _ => 0))), (qa_5, .inl (cI, 1600, .inl (fun _ => 0))), (qa_6, .inl (cI, 1600, .inl (fun _ => 0))), (qa_7, .inl (cI, 15030, .inl (fun _ => 0)))] H := hP
  have hD : va_D A [(w0, .inr (5, [.ref qa_1, .ref qa_2, .int 0, .int (nI 2), .ref qa_3, .ref qa_4, .ref qa_5, .int 0, .int 0, .ref qa_6, .null, .null, .int 0, .null, .null, .null, .null, .null, .null, .int 0, .int 0, .int 0])), (qa_1, .inl (cI, 100, .inl (fun _ => 0))), (qa_2, .inl (cI, 244, .inl (fun _ => 0))), (qa_3, .inl (cI, 1600, .inl (fun _ => 0))), (qa_4, .inl (cI, 1600, .inl (fun _ => 0))), (qa_5, .inl (cI, 1600, .inl (fun _ => 0))), (qa_6, .inl (cI, 1600, .inl (fun _ => 0))), (qa_7, .inl (cI, 15030, .inl (fun _ => 0)))] := hD
  refine W.widen (k := 7) (n := 21774) (by omega) (by omega) ?_
  refine va_putF (D := D) (ci := 5) (v := .ref qa_7) (ty := (.array .int)) (C := R_MD) (T := T_MD) (N := 22) hx hb hw in_MD ty_MD ty_MD_ok nm_MD_ok hown hE.1 hP hD hS 0 rfl rfl 10 (by decide) (hw _ kw_771) (fun _ h9 => h9) rfl hin rfl (by decide +kernel) rfl rfl (Nat.le_of_ble_eq_true rfl) d_MD_init_68 (fun H locs hP hD hS => ?_)
  have hP : va_P D vwCl [(w0, .inr (5, [.ref qa_1, .ref qa_2, .int 0, .int (nI 2), .ref qa_3, .ref qa_4, .ref qa_5, .int 0, .int 0, .ref qa_6, .ref qa_7, .null, .int 0, .null, .null, .null, .null, .null, .null, .int 0, .int 0, .int 0])), (qa_1, .inl (cI, 100, .inl (fun _ => 0))), (qa_2, .inl (cI, 244, .inl (fun _ => 0))), (qa_3, .inl (cI, 1600, .inl (fun _ => 0))), (qa_4, .inl (cI, 1600, .inl (fun _ => 0))), (qa_5, .inl (cI, 1600, .inl (fun _ => 0))), (qa_6, .inl (cI, 1600, .inl (fun _ => 0))), (qa_7, .inl (cI, 15030, .inl (fun _ => 0)))] H := hP
  have hD : va_D A [(w0, .inr (5, [.ref qa_1, .ref qa_2, .int 0, .int (nI 2), .ref qa_3, .ref qa_4, .ref qa_5, .int 0, .int 0, .ref qa_6, .ref qa_7, .null, .int 0, .null, .null, .null, .null, .null, .null, .int 0, .int 0, .int 0])), (qa_1, .inl (cI, 100, .inl (fun _ => 0))), (qa_2, .inl (cI, 244, .inl (fun _ => 0))), (qa_3, .inl (cI, 1600, .inl (fun _ => 0))), (qa_4, .inl (cI, 1600, .inl (fun _ => 0))), (qa_5, .inl (cI, 1600, .inl (fun _ => 0))), (qa_6, .inl (cI, 1600, .inl (fun _ => 0))), (qa_7, .inl (cI, 15030, .inl (fun _ => 0)))] := hD
  refine lv_aload_n hx hb d_MD_init_71 rfl (lv_at hl 0 rfl) ?_
  refine lv_sipush (v := nI 501) hx hb d_MD_init_72 (by decide +kernel) ?_
  refine nw_I (N := 501) hx hb (hw _ kw_87) hE.1 hP hD hS hA (by decide +kernel) (by decide +kernel) (by decide) (Nat.le_of_ble_eq_true rfl) (Nat.le_of_ble_eq_true rfl) d_MD_init_75 (fun qa_8 H hP hD hS => ?_)
  have hP : va_P D vwCl [(w0, .inr (5, [.ref qa_1, .ref qa_2, .int 0, .int (nI 2), .ref qa_3, .ref qa_4, .ref qa_5, .int 0, .int 0, .ref qa_6, .ref qa_7, .null, .int 0, .null, .null, .null, .null, .null, .null, .int 0, .int 0, .int 0])), (qa_1, .inl (cI, 100, .inl (fun _ => 0))), (qa_2, .inl (cI, 244, .inl (fun _ => 0))), (qa_3, .inl (cI, 1600, .inl (fun _ => 0))), (qa_4, .inl (cI, 1600, .inl (fun _ => 0))), (qa_5, .inl (cI, 1600, .inl (fun _ => 0))), (qa_6, .inl (cI, 1600, .inl (fun _ => 0))), (qa_7, .inl (cI, 15030, .inl (fun _ => 0))), (qa_8, .inl (cI, 501, .inl (fun _ => 0)))] H := hP
  have hD : va_D A [(w0, .inr (5, [.ref qa_1, .ref qa_2, .int 0, .int (nI 2), .ref qa_3, .ref qa_4, .ref qa_5, .int 0, .int 0, .ref qa_6, .ref qa_7, .null, .int 0, .null, .null, .null, .null, .null, .null, .int 0, .int 0, .int 0])), (qa_1, .inl (cI, 100, .inl (fun _ => 0))), (qa_2, .inl (cI, 244, .inl (fun _ => 0))), (qa_3, .inl (cI, 1600, .inl (fun _ => 0))), (qa_4, .inl (cI, 1600, .inl (fun _ => 0))), (qa_5, .inl (cI, 1600, .inl (fun _ => 0))), (qa_6, .inl (cI, 1600, .inl (fun _ => 0))), (qa_7, .inl (cI, 15030, .inl (fun _ => 0))), (qa_8, .inl (cI, 501, .inl (fun _ => 0)))] := hD
  refine W.widen (k := 8) (n := 22275) (by omega) (by omega) ?_
  refine va_putF (D := D) (ci := 5) (v := .ref qa_8) (ty := (.array .int)) (C := R_MD) (T := T_MD) (N := 22) hx hb hw in_MD ty_MD ty_MD_ok nm_MD_ok hown hE.1 hP hD hS 0 rfl rfl 11 (by decide) (hw _ kw_772) (fun _ h9 => h9) rfl hin rfl (by decide +kernel) rfl rfl (Nat.le_of_ble_eq_true rfl) d_MD_init_77 (fun H locs hP hD hS => ?_)
  have hP : va_P D vwCl [(w0, .inr (5, [.ref qa_1, .ref qa_2, .int 0, .int (nI 2), .ref qa_3, .ref qa_4, .ref qa_5, .int 0, .int 0, .ref qa_6, .ref qa_7, .ref qa_8, .int 0, .null, .null, .null, .null, .null, .null, .int 0, .int 0, .int 0])), (qa_1, .inl (cI, 100, .inl (fun _ => 0))), (qa_2, .inl (cI, 244, .inl (fun _ => 0))), (qa_3, .inl (cI, 1600, .inl (fun _ => 0))), (qa_4, .inl (cI, 1600, .inl (fun _ => 0))), (qa_5, .inl (cI, 1600, .inl (fun _ => 0))), (qa_6, .inl (cI, 1600, .inl (fun _ => 0))), (qa_7, .inl (cI, 15030, .inl (fun _ => 0))), (qa_8, .inl (cI, 501, .inl (fun _ => 0)))] H := hP
  have hD : va_D A [(w0, .inr (5, [.ref qa_1, .ref qa_2, .int 0, .int (nI 2), .ref qa_3, .ref qa_4, .ref qa_5, .int 0, .int 0, .ref qa_6, .ref qa_7, .ref qa_8, .int 0, .null, .null, .null, .null, .null, .null, .int 0, .int 0, .int 0])), (qa_1, .inl (cI, 100, .inl (fun _ => 0))), (qa_2, .inl (cI, 244, .inl (fun _ => 0))), (qa_3, .inl (cI, 1600, .inl (fun _ => 0))), (qa_4, .inl (cI, 1600, .inl (fun _ => 0))), (qa_5, .inl (cI, 1600, .inl (fun _ => 0))), (qa_6, .inl (cI, 1600, .inl (fun _ => 0))), (qa_7, .inl (cI, 15030, .inl (fun _ => 0))), (qa_8, .inl (cI, 501, .inl (fun _ => 0)))] := hD
  refine lv_aload_n hx hb d_MD_init_80 rfl (lv_at hl 0 rfl) ?_
  refine lv_bipush (v := nI 30) hx hb d_MD_init_81 (by decide +kernel) ?_
  refine nw_I (N := 30) hx hb (hw _ kw_87) hE.1 hP hD hS hA (by decide +kernel) (by decide +kernel) (by decide) (Nat.le_of_ble_eq_true rfl) (Nat.le_of_ble_eq_true rfl) d_MD_init_83 (fun qa_9 H hP hD hS => ?_)
  have hP : va_P D vwCl [(w0, .inr (5, [.ref qa_1, .ref qa_2, .int 0, .int (nI 2), .ref qa_3, .ref qa_4, .ref qa_5, .int 0, .int 0, .ref qa_6, .ref qa_7, .ref qa_8, .int 0, .null, .null, .null, .null, .null, .null, .int 0, .int 0, .int 0])), (qa_1, .inl (cI, 100, .inl (fun _ => 0))), (qa_2, .inl (cI, 244, .inl (fun _ => 0))), (qa_3, .inl (cI, 1600, .inl (fun _ => 0))), (qa_4, .inl (cI, 1600, .inl (fun _ => 0))), (qa_5, .inl (cI, 1600, .inl (fun _ => 0))), (qa_6, .inl (cI, 1600, .inl (fun _ => 0))), (qa_7, .inl (cI, 15030, .inl (fun _ => 0))), (qa_8, .inl (cI, 501, .inl (fun _ => 0))), (qa_9, .inl (cI, 30, .inl (fun _ => 0)))] H := hP
  have hD : va_D A [(w0, .inr (5, [.ref qa_1, .ref qa_2, .int 0, .int (nI 2), .ref qa_3, .ref qa_4, .ref qa_5, .int 0, .int 0, .ref qa_6, .ref qa_7, .ref qa_8, .int 0, .null, .null, .null, .null, .null, .null, .int 0, .int 0, .int 0])), (qa_1, .inl (cI, 100, .inl (fun _ => 0))), (qa_2, .inl (cI, 244, .inl (fun _ => 0))), (qa_3, .inl (cI, 1600, .inl (fun _ => 0))), (qa_4, .inl (cI, 1600, .inl (fun _ => 0))), (qa_5, .inl (cI, 1600, .inl (fun _ => 0))), (qa_6, .inl (cI, 1600, .inl (fun _ => 0))), (qa_7, .inl (cI, 15030, .inl (fun _ => 0))), (qa_8, .inl (cI, 501, .inl (fun _ => 0))), (qa_9, .inl (cI, 30, .inl (fun _ => 0)))] := hD
  refine W.widen (k := 9) (n := 22305) (by omega) (by omega) ?_
  refine va_putF (D := D) (ci := 5) (v := .ref qa_9) (ty := (.array .int)) (C := R_MD) (T := T_MD) (N := 22) hx hb hw in_MD ty_MD ty_MD_ok nm_MD_ok hown hE.1 hP hD hS 0 rfl rfl 13 (by decide) (hw _ kw_774) (fun _ h9 => h9) rfl hin rfl (by decide +kernel) rfl rfl (Nat.le_of_ble_eq_true rfl) d_MD_init_85 (fun H locs hP hD hS => ?_)
  have hP : va_P D vwCl [(w0, .inr (5, [.ref qa_1, .ref qa_2, .int 0, .int (nI 2), .ref qa_3, .ref qa_4, .ref qa_5, .int 0, .int 0, .ref qa_6, .ref qa_7, .ref qa_8, .int 0, .ref qa_9, .null, .null, .null, .null, .null, .int 0, .int 0, .int 0])), (qa_1, .inl (cI, 100, .inl (fun _ => 0))), (qa_2, .inl (cI, 244, .inl (fun _ => 0))), (qa_3, .inl (cI, 1600, .inl (fun _ => 0))), (qa_4, .inl (cI, 1600, .inl (fun _ => 0))), (qa_5, .inl (cI, 1600, .inl (fun _ => 0))), (qa_6, .inl (cI, 1600, .inl (fun _ => 0))), (qa_7, .inl (cI, 15030, .inl (fun _ => 0))), (qa_8, .inl (cI, 501, .inl (fun _ => 0))), (qa_9, .inl (cI, 30, .inl (fun _ => 0)))] H := hP
  have hD : va_D A [(w0, .inr (5, [.ref qa_1, .ref qa_2, .int 0, .int (nI 2), .ref qa_3, .ref qa_4, .ref qa_5, .int 0, .int 0, .ref qa_6, .ref qa_7, .ref qa_8, .int 0, .ref qa_9, .null, .null, .null, .null, .null, .int 0, .int 0, .int 0])), (qa_1, .inl (cI, 100, .inl (fun _ => 0))), (qa_2, .inl (cI, 244, .inl (fun _ => 0))), (qa_3, .inl (cI, 1600, .inl (fun _ => 0))), (qa_4, .inl (cI, 1600, .inl (fun _ => 0))), (qa_5, .inl (cI, 1600, .inl (fun _ => 0))), (qa_6, .inl (cI, 1600, .inl (fun _ => 0))), (qa_7, .inl (cI, 15030, .inl (fun _ => 0))), (qa_8, .inl (cI, 501, .inl (fun _ => 0))), (qa_9, .inl (cI, 30, .inl (fun _ => 0)))] := hD
  refine lv_aload_n hx hb d_MD_init_88 rfl (lv_at hl 0 rfl) ?_
  refine lv_sipush (v := nI 1600) hx hb d_MD_init_89 (by decide +kernel) ?_
  refine nw_I (N := 1600) hx hb (hw _ kw_87) hE.1 hP hD hS hA (by decide +kernel) (by decide +kernel) (by decide) (Nat.le_of_ble_eq_true rfl) (Nat.le_of_ble_eq_true rfl) d_MD_init_92 (fun qa_10 H hP hD hS => ?_)
  have hP : va_P D vwCl [(w0, .inr (5, [.ref qa_1, .ref qa_2, .int 0, .int (nI 2), .ref qa_3, .ref qa_4, .ref qa_5, .int 0, .int 0, .ref qa_6, .ref qa_7, .ref qa_8, .int 0, .ref qa_9, .null, .null, .null, .null, .null, .int 0, .int 0, .int 0])), (qa_1, .inl (cI, 100, .inl (fun _ => 0))), (qa_2, .inl (cI, 244, .inl (fun _ => 0))), (qa_3, .inl (cI, 1600, .inl (fun _ => 0))), (qa_4, .inl (cI, 1600, .inl (fun _ => 0))), (qa_5, .inl (cI, 1600, .inl (fun _ => 0))), (qa_6, .inl (cI, 1600, .inl (fun _ => 0))), (qa_7, .inl (cI, 15030, .inl (fun _ => 0))), (qa_8, .inl (cI, 501, .inl (fun _ => 0))), (qa_9, .inl (cI, 30, .inl (fun _ => 0))), (qa_10, .inl (cI, 1600, .inl (fun _ => 0)))] H := hP
  have hD : va_D A [(w0, .inr (5, [.ref qa_1, .ref qa_2, .int 0, .int (nI 2), .ref qa_3, .ref qa_4, .ref qa_5, .int 0, .int 0, .ref qa_6, .ref qa_7, .ref qa_8, .int 0, .ref qa_9, .null, .null, .null, .null, .null, .int 0, .int 0, .int 0])), (qa_1, .inl (cI, 100, .inl (fun _ => 0))), (qa_2, .inl (cI, 244, .inl (fun _ => 0))), (qa_3, .inl (cI, 1600, .inl (fun _ => 0))), (qa_4, .inl (cI, 1600, .inl (fun _ => 0))), (qa_5, .inl (cI, 1600, .inl (fun _ => 0))), (qa_6, .inl (cI, 1600, .inl (fun _ => 0))), (qa_7, .inl (cI, 15030, .inl (fun _ => 0))), (qa_8, .inl (cI, 501, .inl (fun _ => 0))), (qa_9, .inl (cI, 30, .inl (fun _ => 0))), (qa_10, .inl (cI, 1600, .inl (fun _ => 0)))] := hD
  refine W.widen (k := 10) (n := 23905) (by omega) (by omega) ?_
  refine va_putF (D := D) (ci := 5) (v := .ref qa_10) (ty := (.array .int)) (C := R_MD) (T := T_MD) (N := 22) hx hb hw in_MD ty_MD ty_MD_ok nm_MD_ok hown hE.1 hP hD hS 0 rfl rfl 14 (by decide) (hw _ kw_775) (fun _ h9 => h9) rfl hin rfl (by decide +kernel) rfl rfl (Nat.le_of_ble_eq_true rfl) d_MD_init_94 (fun H locs hP hD hS => ?_)
  have hP : va_P D vwCl [(w0, .inr (5, [.ref qa_1, .ref qa_2, .int 0, .int (nI 2), .ref qa_3, .ref qa_4, .ref qa_5, .int 0, .int 0, .ref qa_6, .ref qa_7, .ref qa_8, .int 0, .ref qa_9, .ref qa_10, .null, .null, .null, .null, .int 0, .int 0, .int 0])), (qa_1, .inl (cI, 100, .inl (fun _ => 0))), (qa_2, .inl (cI, 244, .inl (fun _ => 0))), (qa_3, .inl (cI, 1600, .inl (fun _ => 0))), (qa_4, .inl (cI, 1600, .inl (fun _ => 0))), (qa_5, .inl (cI, 1600, .inl (fun _ => 0))), (qa_6, .inl (cI, 1600, .inl (fun _ => 0))), (qa_7, .inl (cI, 15030, .inl (fun _ => 0))), (qa_8, .inl (cI, 501, .inl (fun _ => 0))), (qa_9, .inl (cI, 30, .inl (fun _ => 0))), (qa_10, .inl (cI, 1600, .inl (fun _ => 0)))] H := hP
  have hD : va_D A [(w0, .inr (5, [.ref qa_1, .ref qa_2, .int 0, .int (nI 2), .ref qa_3, .ref qa_4, .ref qa_5, .int 0, .int 0, .ref qa_6, .ref qa_7, .ref qa_8, .int 0, .ref qa_9, .ref qa_10, .null, .null, .null, .null, .int 0, .int 0, .int 0])), (qa_1, .inl (cI, 100, .inl (fun _ => 0))), (qa_2, .inl (cI, 244, .inl (fun _ => 0))), (qa_3, .inl (cI, 1600, .inl (fun _ => 0))), (qa_4, .inl (cI, 1600, .inl (fun _ => 0))), (qa_5, .inl (cI, 1600, .inl (fun _ => 0))), (qa_6, .inl (cI, 1600, .inl (fun _ => 0))), (qa_7, .inl (cI, 15030, .inl (fun _ => 0))), (qa_8, .inl (cI, 501, .inl (fun _ => 0))), (qa_9, .inl (cI, 30, .inl (fun _ => 0))), (qa_10, .inl (cI, 1600, .inl (fun _ => 0)))] := hD
  refine lv_aload_n hx hb d_MD_init_97 rfl (lv_at hl 0 rfl) ?_
  refine lv_bipush (v := nI 120) hx hb d_MD_init_98 (by decide +kernel) ?_
  refine nw_I (N := 120) hx hb (hw _ kw_87) hE.1 hP hD hS hA (by decide +kernel) (by decide +kernel) (by decide) (Nat.le_of_ble_eq_true rfl) (Nat.le_of_ble_eq_true rfl) d_MD_init_100 (fun qa_11 H hP hD hS => ?_)
  have hP : va_P D vwCl [(w0, .inr (5, [.ref qa_1, .ref qa_2, .int 0, .int (nI 2), .ref qa_3, .ref qa_4, .ref qa_5, .int 0, .int 0, .ref qa_6, .ref qa_7, .ref qa_8, .int 0, .ref qa_9, .ref qa_10, .null, .null, .null, .null, .int 0, .int 0, .int 0])), (qa_1, .inl (cI, 100, .inl (fun _ => 0))), (qa_2, .inl (cI, 244, .inl (fun _ => 0))), (qa_3, .inl (cI, 1600, .inl (fun _ => 0))), (qa_4, .inl (cI, 1600, .inl (fun _ => 0))), (qa_5, .inl (cI, 1600, .inl (fun _ => 0))), (qa_6, .inl (cI, 1600, .inl (fun _ => 0))), (qa_7, .inl (cI, 15030, .inl (fun _ => 0))), (qa_8, .inl (cI, 501, .inl (fun _ => 0))), (qa_9, .inl (cI, 30, .inl (fun _ => 0))), (qa_10, .inl (cI, 1600, .inl (fun _ => 0))), (qa_11, .inl (cI, 120, .inl (fun _ => 0)))] H := hP
  have hD : va_D A [(w0, .inr (5, [.ref qa_1, .ref qa_2, .int 0, .int (nI 2), .ref qa_3, .ref qa_4, .ref qa_5, .int 0, .int 0, .ref qa_6, .ref qa_7, .ref qa_8, .int 0, .ref qa_9, .ref qa_10, .null, .null, .null, .null, .int 0, .int 0, .int 0])), (qa_1, .inl (cI, 100, .inl (fun _ => 0))), (qa_2, .inl (cI, 244, .inl (fun _ => 0))), (qa_3, .inl (cI, 1600, .inl (fun _ => 0))), (qa_4, .inl (cI, 1600, .inl (fun _ => 0))), (qa_5, .inl (cI, 1600, .inl (fun _ => 0))), (qa_6, .inl (cI, 1600, .inl (fun _ => 0))), (qa_7, .inl (cI, 15030, .inl (fun _ => 0))), (qa_8, .inl (cI, 501, .inl (fun _ => 0))), (qa_9, .inl (cI, 30, .inl (fun _ => 0))), (qa_10, .inl (cI, 1600, .inl (fun _ => 0))), (qa_11, .inl (cI, 120, .inl (fun _ => 0)))] := hD
  refine W.widen (k := 11) (n := 24025) (by omega) (by omega) ?_
  refine va_putF (D := D) (ci := 5) (v := .ref qa_11) (ty := (.array .int)) (C := R_MD) (T := T_MD) (N := 22) hx hb hw in_MD ty_MD ty_MD_ok nm_MD_ok hown hE.1 hP hD hS 0 rfl rfl 15 (by decide) (hw _ kw_776) (fun _ h9 => h9) rfl hin rfl (by decide +kernel) rfl rfl (Nat.le_of_ble_eq_true rfl) d_MD_init_102 (fun H locs hP hD hS => ?_)
  have hP : va_P D vwCl [(w0, .inr (5, [.ref qa_1, .ref qa_2, .int 0, .int (nI 2), .ref qa_3, .ref qa_4, .ref qa_5, .int 0, .int 0, .ref qa_6, .ref qa_7, .ref qa_8, .int 0, .ref qa_9, .ref qa_10, .ref qa_11, .null, .null, .null, .int 0, .int 0, .int 0])), (qa_1, .inl (cI, 100, .inl (fun _ => 0))), (qa_2, .inl (cI, 244, .inl (fun _ => 0))), (qa_3, .inl (cI, 1600, .inl (fun _ => 0))), (qa_4, .inl (cI, 1600, .inl (fun _ => 0))), (qa_5, .inl (cI, 1600, .inl (fun _ => 0))), (qa_6, .inl (cI, 1600, .inl (fun _ => 0))), (qa_7, .inl (cI, 15030, .inl (fun _ => 0))), (qa_8, .inl (cI, 501, .inl (fun _ => 0))), (qa_9, .inl (cI, 30, .inl (fun _ => 0))), (qa_10, .inl (cI, 1600, .inl (fun _ => 0))), (qa_11, .inl (cI, 120, .inl (fun _ => 0)))] H := hP
  have hD : va_D A [(w0, .inr (5, [.ref qa_1, .ref qa_2, .int 0, .int (nI 2), .ref qa_3, .ref qa_4, .ref qa_5, .int 0, .int 0, .ref qa_6, .ref qa_7, .ref qa_8, .int 0, .ref qa_9, .ref qa_10, .ref qa_11, .null, .null, .null, .int 0, .int 0, .int 0])), (qa_1, .inl (cI, 100, .inl (fun _ => 0))), (qa_2, .inl (cI, 244, .inl (fun _ => 0))), (qa_3, .inl (cI, 1600, .inl (fun _ => 0))), (qa_4, .inl (cI, 1600, .inl (fun _ => 0))), (qa_5, .inl (cI, 1600, .inl (fun _ => 0))), (qa_6, .inl (cI, 1600, .inl (fun _ => 0))), (qa_7, .inl (cI, 15030, .inl (fun _ => 0))), (qa_8, .inl (cI, 501, .inl (fun _ => 0))), (qa_9, .inl (cI, 30, .inl (fun _ => 0))), (qa_10, .inl (cI, 1600, .inl (fun _ => 0))), (qa_11, .inl (cI, 120, .inl (fun _ => 0)))] := hD
  refine lv_aload_n hx hb d_MD_init_105 rfl (lv_at hl 0 rfl) ?_
  refine lv_sipush (v := nI 480) hx hb d_MD_init_106 (by decide +kernel) ?_
  refine nw_I (N := 480) hx hb (hw _ kw_87) hE.1 hP hD hS hA (by decide +kernel) (by decide +kernel) (by decide) (Nat.le_of_ble_eq_true rfl) (Nat.le_of_ble_eq_true rfl) d_MD_init_109 (fun qa_12 H hP hD hS => ?_)
  have hP : va_P D vwCl [(w0, .inr (5, [.ref qa_1, .ref qa_2, .int 0, .int (nI 2), .ref qa_3, .ref qa_4, .ref qa_5, .int 0, .int 0, .ref qa_6, .ref qa_7, .ref qa_8, .int 0, .ref qa_9, .ref qa_10, .ref qa_11, .null, .null, .null, .int 0, .int 0, .int 0])), (qa_1, .inl (cI, 100, .inl (fun _ => 0))), (qa_2, .inl (cI, 244, .inl (fun _ => 0))), (qa_3, .inl (cI, 1600, .inl (fun _ => 0))), (qa_4, .inl (cI, 1600, .inl (fun _ => 0))), (qa_5, .inl (cI, 1600, .inl (fun _ => 0))), (qa_6, .inl (cI, 1600, .inl (fun _ => 0))), (qa_7, .inl (cI, 15030, .inl (fun _ => 0))), (qa_8, .inl (cI, 501, .inl (fun _ => 0))), (qa_9, .inl (cI, 30, .inl (fun _ => 0))), (qa_10, .inl (cI, 1600, .inl (fun _ => 0))), (qa_11, .inl (cI, 120, .inl (fun _ => 0))), (qa_12, .inl (cI, 480, .inl (fun _ => 0)))] H := hP
  have hD : va_D A [(w0, .inr (5, [.ref qa_1, .ref qa_2, .int 0, .int (nI 2), .ref qa_3, .ref qa_4, .ref qa_5, .int 0, .int 0, .ref qa_6, .ref qa_7, .ref qa_8, .int 0, .ref qa_9, .ref qa_10, .ref qa_11, .null, .null, .null, .int 0, .int 0, .int 0])), (qa_1, .inl (cI, 100, .inl (fun _ => 0))), (qa_2, .inl (cI, 244, .inl (fun _ => 0))), (qa_3, .inl (cI, 1600, .inl (fun _ => 0))), (qa_4, .inl (cI, 1600, .inl (fun _ => 0))), (qa_5, .inl (cI, 1600, .inl (fun _ => 0))), (qa_6, .inl (cI, 1600, .inl (fun _ => 0))), (qa_7, .inl (cI, 15030, .inl (fun _ => 0))), (qa_8, .inl (cI, 501, .inl (fun _ => 0))), (qa_9, .inl (cI, 30, .inl (fun _ => 0))), (qa_10, .inl (cI, 1600, .inl (fun _ => 0))), (qa_11, .inl (cI, 120, .inl (fun _ => 0))), (qa_12, .inl (cI, 480, .inl (fun _ => 0)))] := hD
  refine W.widen (k := 12) (n := 24505) (by omega) (by omega) ?_
  refine va_putF (D := D) (ci := 5) (v := .ref qa_12) (ty := (.array .int)) (C := R_MD) (T := T_MD) (N := 22) hx hb hw in_MD ty_MD ty_MD_ok nm_MD_ok hown hE.1 hP hD hS 0 rfl rfl 16 (by decide) (hw _ kw_777) (fun _ h9 => h9) rfl hin rfl (by decide +kernel) rfl rfl (Nat.le_of_ble_eq_true rfl) d_MD_init_111 (fun H locs hP hD hS => ?_)
  have hP : va_P D vwCl [(w0, .inr (5, [.ref qa_1, .ref qa_2, .int 0, .int (nI 2), .ref qa_3, .ref qa_4, .ref qa_5, .int 0, .int 0, .ref qa_6, .ref qa_7, .ref qa_8, .int 0, .ref qa_9, .ref qa_10, .ref qa_11, .ref qa_12, .null, .null, .int 0, .int 0, .int 0])), (qa_1, .inl (cI, 100, .inl (fun _ => 0))), (qa_2, .inl (cI, 244, .inl (fun _ => 0))), (qa_3, .inl (cI, 1600, .inl (fun _ => 0))), (qa_4, .inl (cI, 1600, .inl (fun _ => 0))), (qa_5, .inl (cI, 1600, .inl (fun _ => 0))), (qa_6, .inl (cI, 1600, .inl (fun _ => 0))), (qa_7, .inl (cI, 15030, .inl (fun _ => 0))), (qa_8, .inl (cI, 501, .inl (fun _ => 0))), (qa_9, .inl (cI, 30, .inl (fun _ => 0))), (qa_10, .inl (cI, 1600, .inl (fun _ => 0))), (qa_11, .inl (cI, 120, .inl (fun _ => 0))), (qa_12, .inl (cI, 480, .inl (fun _ => 0)))] H := hP
  have hD : va_D A [(w0, .inr (5, [.ref qa_1, .ref qa_2, .int 0, .int (nI 2), .ref qa_3, .ref qa_4, .ref qa_5, .int 0, .int 0, .ref qa_6, .ref qa_7, .ref qa_8, .int 0, .ref qa_9, .ref qa_10, .ref qa_11, .ref qa_12, .null, .null, .int 0, .int 0, .int 0])), (qa_1, .inl (cI, 100, .inl (fun _ => 0))), (qa_2, .inl (cI, 244, .inl (fun _ => 0))), (qa_3, .inl (cI, 1600, .inl (fun _ => 0))), (qa_4, .inl (cI, 1600, .inl (fun _ => 0))), (qa_5, .inl (cI, 1600, .inl (fun _ => 0))), (qa_6, .inl (cI, 1600, .inl (fun _ => 0))), (qa_7, .inl (cI, 15030, .inl (fun _ => 0))), (qa_8, .inl (cI, 501, .inl (fun _ => 0))), (qa_9, .inl (cI, 30, .inl (fun _ => 0))), (qa_10, .inl (cI, 1600, .inl (fun _ => 0))), (qa_11, .inl (cI, 120, .inl (fun _ => 0))), (qa_12, .inl (cI, 480, .inl (fun _ => 0)))] := hD
  refine lv_aload_n hx hb d_MD_init_114 rfl (lv_at hl 0 rfl) ?_
  refine lv_bipush (v := nI 120) hx hb d_MD_init_115 (by decide +kernel) ?_
  refine nw_I (N := 120) hx hb (hw _ kw_87) hE.1 hP hD hS hA (by decide +kernel) (by decide +kernel) (by decide) (Nat.le_of_ble_eq_true rfl) (Nat.le_of_ble_eq_true rfl) d_MD_init_117 (fun qa_13 H hP hD hS => ?_)
  have hP : va_P D vwCl [(w0, .inr (5, [.ref qa_1, .ref qa_2, .int 0, .int (nI 2), .ref qa_3, .ref qa_4, .ref qa_5, .int 0, .int 0, .ref qa_6, .ref qa_7, .ref qa_8, .int 0, .ref qa_9, .ref qa_10, .ref qa_11, .ref qa_12, .null, .null, .int 0, .int 0, .int 0])), (qa_1, .inl (cI, 100, .inl (fun _ => 0))), (qa_2, .inl (cI, 244, .inl (fun _ => 0))), (qa_3, .inl (cI, 1600, .inl (fun _ => 0))), (qa_4, .inl (cI, 1600, .inl (fun _ => 0))), (qa_5, .inl (cI, 1600, .inl (fun _ => 0))), (qa_6, .inl (cI, 1600, .inl (fun _ => 0))), (qa_7, .inl (cI, 15030, .inl (fun _ => 0))), (qa_8, .inl (cI, 501, .inl (fun _ => 0))), (qa_9, .inl (cI, 30, .inl (fun _ => 0))), (qa_10, .inl (cI, 1600, .inl (fun _ => 0))), (qa_11, .inl (cI, 120, .inl (fun _ => 0))), (qa_12, .inl (cI, 480, .inl (fun _ => 0))), (qa_13, .inl (cI, 120, .inl (fun _ => 0)))] H := hP
  have hD : va_D A [(w0, .inr (5, [.ref qa_1, .ref qa_2, .int 0, .int (nI 2), .ref qa_3, .ref qa_4, .ref qa_5, .int 0, .int 0, .ref qa_6, .ref qa_7, .ref qa_8, .int 0, .ref qa_9, .ref qa_10, .ref qa_11, .ref qa_12, .null, .null, .int 0, .int 0, .int 0])), (qa_1, .inl (cI, 100, .inl (fun _ => 0))), (qa_2, .inl (cI, 244, .inl (fun _ => 0))), (qa_3, .inl (cI, 1600, .inl (fun _ => 0))), (qa_4, .inl (cI, 1600, .inl (fun _ => 0))), (qa_5, .inl (cI, 1600, .inl (fun _ => 0))), (qa_6, .inl (cI, 1600, .inl (fun _ => 0))), (qa_7, .inl (cI, 15030, .inl (fun _ => 0))), (qa_8, .inl (cI, 501, .inl (fun _ => 0))), (qa_9, .inl (cI, 30, .inl (fun _ => 0))), (qa_10, .inl (cI, 1600, .inl (fun _ => 0))), (qa_11, .inl (cI, 120, .inl (fun _ => 0))), (qa_12, .inl (cI, 480, .inl (fun _ => 0))), (qa_13, .inl (cI, 120, .inl (fun _ => 0)))] := hD
  refine W.widen (k := 13) (n := 24625) (by omega) (by omega) ?_
  refine va_putF (D := D) (ci := 5) (v := .ref qa_13) (ty := (.array .int)) (C := R_MD) (T := T_MD) (N := 22) hx hb hw in_MD ty_MD ty_MD_ok nm_MD_ok hown hE.1 hP hD hS 0 rfl rfl 17 (by decide) (hw _ kw_778) (fun _ h9 => h9) rfl hin rfl (by decide +kernel) rfl rfl (Nat.le_of_ble_eq_true rfl) d_MD_init_119 (fun H locs hP hD hS => ?_)
  have hP : va_P D vwCl [(w0, .inr (5, [.ref qa_1, .ref qa_2, .int 0, .int (nI 2), .ref qa_3, .ref qa_4, .ref qa_5, .int 0, .int 0, .ref qa_6, .ref qa_7, .ref qa_8, .int 0, .ref qa_9, .ref qa_10, .ref qa_11, .ref qa_12, .ref qa_13, .null, .int 0, .int 0, .int 0])), (qa_1, .inl (cI, 100, .inl (fun _ => 0))), (qa_2, .inl (cI, 244, .inl (fun _ => 0))), (qa_3, .inl (cI, 1600, .inl (fun _ => 0))), (qa_4, .inl (cI, 1600, .inl (fun _ => 0))), (qa_5, .inl (cI, 1600, .inl (fun _ => 0))), (qa_6, .inl (cI, 1600, .inl (fun _ => 0))), (qa_7, .inl (cI, 15030, .inl (fun _ => 0))), (qa_8, .inl (cI, 501, .inl (fun _ => 0))), (qa_9, .inl (cI, 30, .inl (fun _ => 0))), (qa_10, .inl (cI, 1600, .inl (fun _ => 0))), (qa_11, .inl (cI, 120, .inl (fun _ => 0))), (qa_12, .inl (cI, 480, .inl (fun _ => 0))), (qa_13, .inl (cI, 120, .inl (fun _ => 0)))] H := hP
  have hD : va_D A [(w0, .inr (5, [.ref qa_1, .ref qa_2, .int 0, .int (nI 2), .ref qa_3, .ref qa_4, .ref qa_5, .int 0, .int 0, .ref qa_6, .ref qa_7, .ref qa_8, .int 0, .ref qa_9, .ref qa_10, .ref qa_11, .ref qa_12, .ref qa_13, .null, .int 0, .int 0, .int 0])), (qa_1, .inl (cI, 100, .inl (fun _ => 0))), (qa_2, .inl (cI, 244, .inl (fun _ => 0))), (qa_3, .inl (cI, 1600, .inl (fun _ => 0))), (qa_4, .inl (cI, 1600, .inl (fun _ => 0))), (qa_5, .inl (cI, 1600, .inl (fun _ => 0))), (qa_6, .inl (cI, 1600, .inl (fun _ => 0))), (qa_7, .inl (cI, 15030, .inl (fun _ => 0))), (qa_8, .inl (cI, 501, .inl (fun _ => 0))), (qa_9, .inl (cI, 30, .inl (fun _ => 0))), (qa_10, .inl (cI, 1600, .inl (fun _ => 0))), (qa_11, .inl (cI, 120, .inl (fun _ => 0))), (qa_12, .inl (cI, 480, .inl (fun _ => 0))), (qa_13, .inl (cI, 120, .inl (fun _ => 0)))] := hD
  refine lv_aload_n hx hb d_MD_init_122 rfl (lv_at hl 0 rfl) ?_
  refine lv_bipush (v := nI 120) hx hb d_MD_init_123 (by decide +kernel) ?_
  refine nw_I (N := 120) hx hb (hw _ kw_87) hE.1 hP hD hS hA (by decide +kernel) (by decide +kernel) (by decide) (Nat.le_of_ble_eq_true rfl) (Nat.le_of_ble_eq_true rfl) d_MD_init_125 (fun qa_14 H hP hD hS => ?_)
  have hP : va_P D vwCl [(w0, .inr (5, [.ref qa_1, .ref qa_2, .int 0, .int (nI 2), .ref qa_3, .ref qa_4, .ref qa_5, .int 0, .int 0, .ref qa_6, .ref qa_7, .ref qa_8, .int 0, .ref qa_9, .ref qa_10, .ref qa_11, .ref qa_12, .ref qa_13, .null, .int 0, .int 0, .int 0])), (qa_1, .inl (cI, 100, .inl (fun _ => 0))), (qa_2, .inl (cI, 244, .inl (fun _ => 0))), (qa_3, .inl (cI, 1600, .inl (fun _ => 0))), (qa_4, .inl (cI, 1600, .inl (fun _ => 0))), (qa_5, .inl (cI, 1600, .inl (fun _ => 0))), (qa_6, .inl (cI, 1600, .inl (fun _ => 0))), (qa_7, .inl (cI, 15030, .inl (fun _ => 0))), (qa_8, .inl (cI, 501, .inl (fun _ => 0))), (qa_9, .inl (cI, 30, .inl (fun _ => 0))), (qa_10, .inl (cI, 1600, .inl (fun _ => 0))), (qa_11, .inl (cI, 120, .inl (fun _ => 0))), (qa_12, .inl (cI, 480, .inl (fun _ => 0))), (qa_13, .inl (cI, 120, .inl (fun _ => 0))), (qa_14, .inl (cI, 120, .inl (fun _ => 0)))] H := hP
  have hD : va_D A [(w0, .inr (5, [.ref qa_1, .ref qa_2, .int 0, .int (nI 2), .ref qa_3, .ref qa_4, .ref qa_5, .int 0, .int 0, .ref qa_6, .ref qa_7, .ref qa_8, .int 0, .ref qa_9, .ref qa_10, .ref qa_11, .ref qa_12, .ref qa_13, .null, .int 0, .int 0, .int 0])), (qa_1, .inl (cI, 100, .inl (fun _ => 0))), (qa_2, .inl (cI, 244, .inl (fun _ => 0))), (qa_3, .inl (cI, 1600, .inl (fun _ => 0))), (qa_4, .inl (cI, 1600, .inl (fun _ => 0))), (qa_5, .inl (cI, 1600, .inl (fun _ => 0))), (qa_6, .inl (cI, 1600, .inl (fun _ => 0))), (qa_7, .inl (cI, 15030, .inl (fun _ => 0))), (qa_8, .inl (cI, 501, .inl (fun _ => 0))), (qa_9, .inl (cI, 30, .inl (fun _ => 0))), (qa_10, .inl (cI, 1600, .inl (fun _ => 0))), (qa_11, .inl (cI, 120, .inl (fun _ => 0))), (qa_12, .inl (cI, 480, .inl (fun _ => 0))), (qa_13, .inl (cI, 120, .inl (fun _ => 0))), (qa_14, .inl (cI, 120, .inl (fun _ => 0)))] := hD
  refine W.widen (k := 14) (n := 24745) (by omega) (by omega) ?_
  refine va_putF (D := D) (ci := 5) (v := .ref qa_14) (ty := (.array .int)) (C := R_MD) (T := T_MD) (N := 22) hx hb hw in_MD ty_MD ty_MD_ok nm_MD_ok hown hE.1 hP hD hS 0 rfl rfl 18 (by decide) (hw _ kw_779) (fun _ h9 => h9) rfl hin rfl (by decide +kernel) rfl rfl (Nat.le_of_ble_eq_true rfl) d_MD_init_127 (fun H locs hP hD hS => ?_)
  have hP : va_P D vwCl [(w0, .inr (5, [.ref qa_1, .ref qa_2, .int 0, .int (nI 2), .ref qa_3, .ref qa_4, .ref qa_5, .int 0, .int 0, .ref qa_6, .ref qa_7, .ref qa_8, .int 0, .ref qa_9, .ref qa_10, .ref qa_11, .ref qa_12, .ref qa_13, .ref qa_14, .int 0, .int 0, .int 0])), (qa_1, .inl (cI, 100, .inl (fun _ => 0))), (qa_2, .inl (cI, 244, .inl (fun _ => 0))), (qa_3, .inl (cI, 1600, .inl (fun _ => 0))), (qa_4, .inl (cI, 1600, .inl (fun _ => 0))), (qa_5, .inl (cI, 1600, .inl (fun _ => 0))), (qa_6, .inl (cI, 1600, .inl (fun _ => 0))), (qa_7, .inl (cI, 15030, .inl (fun _ => 0))), (qa_8, .inl (cI, 501, .inl (fun _ => 0))), (qa_9, .inl (cI, 30, .inl (fun _ => 0))), (qa_10, .inl (cI, 1600, .inl (fun _ => 0))), (qa_11, .inl (cI, 120, .inl (fun _ => 0))), (qa_12, .inl (cI, 480, .inl (fun _ => 0))), (qa_13, .inl (cI, 120, .inl (fun _ => 0))), (qa_14, .inl (cI, 120, .inl (fun _ => 0)))] H := hP
  have hD : va_D A [(w0, .inr (5, [.ref qa_1, .ref qa_2, .int 0, .int (nI 2), .ref qa_3, .ref qa_4, .ref qa_5, .int 0, .int 0, .ref qa_6, .ref qa_7, .ref qa_8, .int 0, .ref qa_9, .ref qa_10, .ref qa_11, .ref qa_12, .ref qa_13, .ref qa_14, .int 0, .int 0, .int 0])), (qa_1, .inl (cI, 100, .inl (fun _ => 0))), (qa_2, .inl (cI, 244, .inl (fun _ => 0))), (qa_3, .inl (cI, 1600, .inl (fun _ => 0))), (qa_4, .inl (cI, 1600, .inl (fun _ => 0))), (qa_5, .inl (cI, 1600, .inl (fun _ => 0))), (qa_6, .inl (cI, 1600, .inl (fun _ => 0))), (qa_7, .inl (cI, 15030, .inl (fun _ => 0))), (qa_8, .inl (cI, 501, .inl (fun _ => 0))), (qa_9, .inl (cI, 30, .inl (fun _ => 0))), (qa_10, .inl (cI, 1600, .inl (fun _ => 0))), (qa_11, .inl (cI, 120, .inl (fun _ => 0))), (qa_12, .inl (cI, 480, .inl (fun _ => 0))), (qa_13, .inl (cI, 120, .inl (fun _ => 0))), (qa_14, .inl (cI, 120, .inl (fun _ => 0)))] := hD
  have hP9 := hP.sub (ws' := [(w0, .inr (5, [.ref qa_1, .ref qa_2, .int 0, .int (nI 2), .ref qa_3, .ref qa_4, .ref qa_5, .int 0, .int 0, .ref qa_6, .ref qa_7, .ref qa_8, .int 0, .ref qa_9, .ref qa_10, .ref qa_11, .ref qa_12, .ref qa_13, .ref qa_14, .int 0, .int 0, .int 0])), (qa_1, .inl (cI, 100, .inl (fun _ => 0))), (qa_2, .inl (cI, 244, .inl (fun _ => 0))), (qa_3, .inl (cI, 1600, .inl (fun _ => 0))), (qa_4, .inl (cI, 1600, .inl (fun _ => 0))), (qa_5, .inl (cI, 1600, .inl (fun _ => 0))), (qa_6, .inl (cI, 1600, .inl (fun _ => 0))), (qa_7, .inl (cI, 15030, .inl (fun _ => 0))), (qa_8, .inl (cI, 501, .inl (fun _ => 0))), (qa_9, .inl (cI, 30, .inl (fun _ => 0))), (qa_10, .inl (cI, 1600, .inl (fun _ => 0))), (qa_11, .inl (cI, 120, .inl (fun _ => 0))), (qa_12, .inl (cI, 480, .inl (fun _ => 0))), (qa_13, .inl (cI, 120, .inl (fun _ => 0))), (qa_14, .inl (cI, 120, .inl (fun _ => 0)))]) [0, 1, 2, 3, 4, 5, 6, 7, 8, 9, 10, 11, 12, 13, 14] rfl
  have hD9 := hD.sub (ws' := [(w0, .inr (5, [.ref qa_1, .ref qa_2, .int 0, .int (nI 2), .ref qa_3, .ref qa_4, .ref qa_5, .int 0, .int 0, .ref qa_6, .ref qa_7, .ref qa_8, .int 0, .ref qa_9, .ref qa_10, .ref qa_11, .ref qa_12, .ref qa_13, .ref qa_14, .int 0, .int 0, .int 0])), (qa_1, .inl (cI, 100, .inl (fun _ => 0))), (qa_2, .inl (cI, 244, .inl (fun _ => 0))), (qa_3, .inl (cI, 1600, .inl (fun _ => 0))), (qa_4, .inl (cI, 1600, .inl (fun _ => 0))), (qa_5, .inl (cI, 1600, .inl (fun _ => 0))), (qa_6, .inl (cI, 1600, .inl (fun _ => 0))), (qa_7, .inl (cI, 15030, .inl (fun _ => 0))), (qa_8, .inl (cI, 501, .inl (fun _ => 0))), (qa_9, .inl (cI, 30, .inl (fun _ => 0))), (qa_10, .inl (cI, 1600, .inl (fun _ => 0))), (qa_11, .inl (cI, 120, .inl (fun _ => 0))), (qa_12, .inl (cI, 480, .inl (fun _ => 0))), (qa_13, .inl (cI, 120, .inl (fun _ => 0))), (qa_14, .inl (cI, 120, .inl (fun _ => 0)))]) [0, 1, 2, 3, 4, 5, 6, 7, 8, 9, 10, 11, 12, 13, 14] (by decide) rfl
  exact W.vret hx hb hr (fun t9 ht hW => ⟨⟨(qa_1, qa_2, qa_3, qa_4, qa_5, qa_6, qa_7, qa_8, qa_9, qa_10, qa_11, qa_12, qa_13, qa_14), rfl, trivial, ⟨by rw [ht]; exact hP9, hD9⟩⟩, hS.F ht⟩) hS.2.2 d_MD_init_130
