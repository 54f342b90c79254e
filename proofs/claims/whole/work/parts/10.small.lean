theorem d_TS_strengthen_0 : decode c_TS_strengthen 0 = .ok (.aload_n 0, 1) := by decide +kernel
theorem d_TS_strengthen_1 : decode c_TS_strengthen 1 = .ok (.getfield 9, 3) := by decide +kernel
theorem d_TS_strengthen_4 : decode c_TS_strengthen 4 = .ok (.iload_n 1, 1) := by decide +kernel
theorem d_TS_strengthen_5 : decode c_TS_strengthen 5 = .ok (.iaload, 1) := by decide +kernel
theorem d_TS_strengthen_6 : decode c_TS_strengthen 6 = .ok (.istore_n 3, 1) := by decide +kernel
theorem d_TS_strengthen_7 : decode c_TS_strengthen 7 = .ok (.aload_n 0, 1) := by decide +kernel
theorem d_TS_strengthen_8 : decode c_TS_strengthen 8 = .ok (.getfield 9, 3) := by decide +kernel
theorem d_TS_strengthen_11 : decode c_TS_strengthen 11 = .ok (.iload_n 1, 1) := by decide +kernel
theorem d_TS_strengthen_12 : decode c_TS_strengthen 12 = .ok (.iload_n 2, 1) := by decide +kernel
theorem d_TS_strengthen_13 : decode c_TS_strengthen 13 = .ok (.iastore, 1) := by decide +kernel
theorem d_TS_strengthen_14 : decode c_TS_strengthen 14 = .ok (.iload_n 3, 1) := by decide +kernel
theorem d_TS_strengthen_15 : decode c_TS_strengthen 15 = .ok (.ireturn, 1) := by decide +kernel
theorem d_TS_types_0 : decode c_TS_types 0 = .ok (.aload_n 0, 1) := by decide +kernel
theorem d_TS_types_1 : decode c_TS_types 1 = .ok (.getfield 22, 3) := by decide +kernel
theorem d_TS_types_4 : decode c_TS_types 4 = .ok (.ireturn, 1) := by decide +kernel
theorem d_TS_putSide_0 : decode c_TS_putSide 0 = .ok (.aload_n 0, 1) := by decide +kernel
theorem d_TS_putSide_1 : decode c_TS_putSide 1 = .ok (.getfield 15, 3) := by decide +kernel
theorem d_TS_putSide_4 : decode c_TS_putSide 4 = .ok (.aload_n 0, 1) := by decide +kernel
theorem d_TS_putSide_5 : decode c_TS_putSide 5 = .ok (.getfield 22, 3) := by decide +kernel
theorem d_TS_putSide_8 : decode c_TS_putSide 8 = .ok (.iconst 4, 1) := by decide +kernel
theorem d_TS_putSide_9 : decode c_TS_putSide 9 = .ok (.imul, 1) := by decide +kernel
theorem d_TS_putSide_10 : decode c_TS_putSide 10 = .ok (.iload_n 1, 1) := by decide +kernel
theorem d_TS_putSide_11 : decode c_TS_putSide 11 = .ok (.iadd, 1) := by decide +kernel
theorem d_TS_putSide_12 : decode c_TS_putSide 12 = .ok (.iload_n 2, 1) := by decide +kernel
theorem d_TS_putSide_13 : decode c_TS_putSide 13 = .ok (.iastore, 1) := by decide +kernel
theorem d_TS_putSide_14 : decode c_TS_putSide 14 = .ok (.aload_n 0, 1) := by decide +kernel
theorem d_TS_putSide_15 : decode c_TS_putSide 15 = .ok (.getfield 18, 3) := by decide +kernel
theorem d_TS_putSide_18 : decode c_TS_putSide 18 = .ok (.iload_n 2, 1) := by decide +kernel
theorem d_TS_putSide_19 : decode c_TS_putSide 19 = .ok (.iconst 4, 1) := by decide +kernel
theorem d_TS_putSide_20 : decode c_TS_putSide 20 = .ok (.imul, 1) := by decide +kernel
theorem d_TS_putSide_21 : decode c_TS_putSide 21 = .ok (.iload_n 1, 1) := by decide +kernel
theorem d_TS_putSide_22 : decode c_TS_putSide 22 = .ok (.iadd, 1) := by decide +kernel
theorem d_TS_putSide_23 : decode c_TS_putSide 23 = .ok (.dup2, 1) := by decide +kernel
theorem d_TS_putSide_24 : decode c_TS_putSide 24 = .ok (.laload, 1) := by decide +kernel
theorem d_TS_putSide_25 : decode c_TS_putSide 25 = .ok (.aload_n 0, 1) := by decide +kernel
theorem d_TS_putSide_26 : decode c_TS_putSide 26 = .ok (.getfield 22, 3) := by decide +kernel
theorem d_TS_putSide_29 : decode c_TS_putSide 29 = .ok (.invokestatic 33, 3) := by decide +kernel
theorem d_TS_putSide_32 : decode c_TS_putSide 32 = .ok (.lor, 1) := by decide +kernel
theorem d_TS_putSide_33 : decode c_TS_putSide 33 = .ok (.lastore, 1) := by decide +kernel
theorem d_TS_putSide_34 : decode c_TS_putSide 34 = .ok (.return_, 1) := by decide +kernel
theorem d_TB_only_0 : decode c_TB_only 0 = .ok (.lconst 1, 1) := by decide +kernel
theorem d_TB_only_1 : decode c_TB_only 1 = .ok (.iload_n 0, 1) := by decide +kernel
theorem d_TB_only_2 : decode c_TB_only 2 = .ok (.iconst 1, 1) := by decide +kernel
theorem d_TB_only_3 : decode c_TB_only 3 = .ok (.isub, 1) := by decide +kernel
theorem d_TB_only_4 : decode c_TB_only 4 = .ok (.lshl, 1) := by decide +kernel
theorem d_TB_only_5 : decode c_TB_only 5 = .ok (.lreturn, 1) := by decide +kernel
theorem d_TS_warm_0 : decode c_TS_warm 0 = .ok (.aload_n 0, 1) := by decide +kernel
theorem d_TS_warm_1 : decode c_TS_warm 1 = .ok (.getfield 26, 3) := by decide +kernel
theorem d_TS_warm_4 : decode c_TS_warm 4 = .ok (.istore_n 2, 1) := by decide +kernel
theorem d_TS_warm_5 : decode c_TS_warm 5 = .ok (.aload_n 0, 1) := by decide +kernel
theorem d_TS_warm_6 : decode c_TS_warm 6 = .ok (.iload_n 1, 1) := by decide +kernel
theorem d_TS_warm_7 : decode c_TS_warm 7 = .ok (.putfield 26, 3) := by decide +kernel
theorem d_TS_warm_10 : decode c_TS_warm 10 = .ok (.iload_n 2, 1) := by decide +kernel
theorem d_TS_warm_11 : decode c_TS_warm 11 = .ok (.ireturn, 1) := by decide +kernel
theorem d_TB_placeOf_0 : decode c_TB_placeOf 0 = .ok (.iload_n 1, 1) := by decide +kernel
theorem d_TB_placeOf_1 : decode c_TB_placeOf 1 = .ok (.iconst 1, 1) := by decide +kernel
theorem d_TB_placeOf_2 : decode c_TB_placeOf 2 = .ok (.iadd, 1) := by decide +kernel
theorem d_TB_placeOf_3 : decode c_TB_placeOf 3 = .ok (.bipush 42, 2) := by decide +kernel
theorem d_TB_placeOf_5 : decode c_TB_placeOf 5 = .ok (.imul, 1) := by decide +kernel
theorem d_TB_placeOf_6 : decode c_TB_placeOf 6 = .ok (.iload_n 0, 1) := by decide +kernel
theorem d_TB_placeOf_7 : decode c_TB_placeOf 7 = .ok (.iadd, 1) := by decide +kernel
theorem d_TB_placeOf_8 : decode c_TB_placeOf 8 = .ok (.iconst 1, 1) := by decide +kernel
theorem d_TB_placeOf_9 : decode c_TB_placeOf 9 = .ok (.iadd, 1) := by decide +kernel
theorem d_TB_placeOf_10 : decode c_TB_placeOf 10 = .ok (.ireturn, 1) := by decide +kernel
theorem d_TB_seedOf_0 : decode c_TB_seedOf 0 = .ok (.iload_n 0, 1) := by decide +kernel
theorem d_TB_seedOf_1 : decode c_TB_seedOf 1 = .ok (.sipush 1024, 3) := by decide +kernel
theorem d_TB_seedOf_4 : decode c_TB_seedOf 4 = .ok (.ior, 1) := by decide +kernel
theorem d_TB_seedOf_5 : decode c_TB_seedOf 5 = .ok (.ireturn, 1) := by decide +kernel
theorem d_TB_opposite_0 : decode c_TB_opposite 0 = .ok (.iload_n 0, 1) := by decide +kernel
theorem d_TB_opposite_1 : decode c_TB_opposite 1 = .ok (.iconst 2, 1) := by decide +kernel
theorem d_TB_opposite_2 : decode c_TB_opposite 2 = .ok (.ixor, 1) := by decide +kernel
theorem d_TB_opposite_3 : decode c_TB_opposite 3 = .ok (.ireturn, 1) := by decide +kernel
theorem d_TS_glueAt_0 : decode c_TS_glueAt 0 = .ok (.aload_n 0, 1) := by decide +kernel
theorem d_TS_glueAt_1 : decode c_TS_glueAt 1 = .ok (.getfield 15, 3) := by decide +kernel
theorem d_TS_glueAt_4 : decode c_TS_glueAt 4 = .ok (.iload_n 1, 1) := by decide +kernel
theorem d_TS_glueAt_5 : decode c_TS_glueAt 5 = .ok (.iconst 4, 1) := by decide +kernel
theorem d_TS_glueAt_6 : decode c_TS_glueAt 6 = .ok (.imul, 1) := by decide +kernel
theorem d_TS_glueAt_7 : decode c_TS_glueAt 7 = .ok (.iload_n 2, 1) := by decide +kernel
theorem d_TS_glueAt_8 : decode c_TS_glueAt 8 = .ok (.iadd, 1) := by decide +kernel
theorem d_TS_glueAt_9 : decode c_TS_glueAt 9 = .ok (.iaload, 1) := by decide +kernel
theorem d_TS_glueAt_10 : decode c_TS_glueAt 10 = .ok (.ireturn, 1) := by decide +kernel
theorem d_TS_bearersOf_0 : decode c_TS_bearersOf 0 = .ok (.aload_n 0, 1) := by decide +kernel
theorem d_TS_bearersOf_1 : decode c_TS_bearersOf 1 = .ok (.getfield 18, 3) := by decide +kernel
theorem d_TS_bearersOf_4 : decode c_TS_bearersOf 4 = .ok (.iload_n 1, 1) := by decide +kernel
theorem d_TS_bearersOf_5 : decode c_TS_bearersOf 5 = .ok (.iconst 4, 1) := by decide +kernel
theorem d_TS_bearersOf_6 : decode c_TS_bearersOf 6 = .ok (.imul, 1) := by decide +kernel
theorem d_TS_bearersOf_7 : decode c_TS_bearersOf 7 = .ok (.iload_n 2, 1) := by decide +kernel
theorem d_TS_bearersOf_8 : decode c_TS_bearersOf 8 = .ok (.iadd, 1) := by decide +kernel
theorem d_TS_bearersOf_9 : decode c_TS_bearersOf 9 = .ok (.laload, 1) := by decide +kernel
theorem d_TS_bearersOf_10 : decode c_TS_bearersOf 10 = .ok (.lreturn, 1) := by decide +kernel
theorem d_TS_strengthOf_0 : decode c_TS_strengthOf 0 = .ok (.aload_n 0, 1) := by decide +kernel
theorem d_TS_strengthOf_1 : decode c_TS_strengthOf 1 = .ok (.getfield 9, 3) := by decide +kernel
theorem d_TS_strengthOf_4 : decode c_TS_strengthOf 4 = .ok (.iload_n 1, 1) := by decide +kernel
theorem d_TS_strengthOf_5 : decode c_TS_strengthOf 5 = .ok (.iaload, 1) := by decide +kernel
theorem d_TS_strengthOf_6 : decode c_TS_strengthOf 6 = .ok (.ireturn, 1) := by decide +kernel
theorem d_TS_warmth_0 : decode c_TS_warmth 0 = .ok (.aload_n 0, 1) := by decide +kernel
theorem d_TS_warmth_1 : decode c_TS_warmth 1 = .ok (.getfield 26, 3) := by decide +kernel
theorem d_TS_warmth_4 : decode c_TS_warmth 4 = .ok (.ireturn, 1) := by decide +kernel
set_option maxHeartbeats 4000000 in
set_option maxRecDepth 100000 in
/-- only -/
theorem k_TB_only (l : Launch) (D : va_G) (cI cJ : ClassId) (x : Int32)  : Met l y_TB_only ws_TB_only ({ frames := 0, cells := 0, slots := 0, locals := 0 } : Room) (va_Pc [.int x] (Pp D cI cJ [])) (vp_Sl (fun r : Int64 => r = 1 <<< ((x - nI 1).toInt64 &&& 63))) 0 0 (fun _ => False) := by
  refine Met.ofW (cc := c_TB_only) (maxL := 1) (ret := (some .long)) (by decide) rfl ?_
  intro p e s m args below meth c s₁ B hml hv
  obtain ⟨rfl, hE, hP, hX⟩ := hv
  have hx := B.exec
  have hb := B.bytes
  have hr := B.returns
  have hw : ∀ w ∈ gw, w.before _ s = true := fun w h => atoms_spec (ws := ws_TB_only) B.pre w (List.mem_cons_of_mem _ h)
  have hown : s.vm.findClass R_TB = some m.cls := findClass_of_methodNamed B.named
  have hlocks := B.notSynchronized
  have hS : va_S (fun _ => False) s.heap s.heap [] := va_S.rf
  have hl := lv_entry ([.int x]) (n := 1) (Nat.le_of_ble_eq_true rfl)
  rw [lg_entry_eq]
  generalize (lg_sl ([.int x]) ++ List.replicate (1 - (lg_sl ([.int x])).length) Slot.unset).toArray = ls at hl ⊢
  have hl : lv_has ls 1 [(0, .int x)] := hl
  refine lv_lconst (v := 1) hx hb d_TB_only_0 (by decide +kernel) ?_
  refine lv_iload_n hx hb d_TB_only_1 rfl (lv_at hl 0 rfl) ?_
  refine lv_iconst (v := nI 1) hx hb d_TB_only_2 (by decide +kernel) ?_
  refine lv_isub hx hb d_TB_only_3 ?_
  refine lv_lshl (v := 1 <<< ((x - (nI 1)).toInt64 &&& 63)) hx hb d_TB_only_4 rfl ?_
  exact W.lret (v := 1 <<< ((x - (nI 1)).toInt64 &&& 63)) hx hb hr (fun t9 ht hW => ⟨_, rfl, rfl, ht⟩) (fun q h => by cases h) d_TB_only_5
set_option maxHeartbeats 4000000 in
set_option maxRecDepth 100000 in
/-- placeOf -/
theorem k_TB_placeOf (l : Launch) (D : va_G) (cI cJ : ClassId) (a : Nat) (b : Nat)  : Met l y_TB_placeOf ws_TB_placeOf ({ frames := 0, cells := 0, slots := 0, locals := 0 } : Room) (va_Pc [.int (nI a), .int (nI b)] (Pp D cI cJ [])) (vp_Si (fun r : Int32 => r = nI ((b + 1) * 42 + a + 1))) 0 0 (fun _ => False) := by
  refine Met.ofW (cc := c_TB_placeOf) (maxL := 2) (ret := (some .int)) (by decide) rfl ?_
  intro p e s m args below meth c s₁ B hml hv
  obtain ⟨rfl, hE, hP, hX⟩ := hv
  have hx := B.exec
  have hb := B.bytes
  have hr := B.returns
  have hw : ∀ w ∈ gw, w.before _ s = true := fun w h => atoms_spec (ws := ws_TB_placeOf) B.pre w (List.mem_cons_of_mem _ h)
  have hown : s.vm.findClass R_TB = some m.cls := findClass_of_methodNamed B.named
  have hlocks := B.notSynchronized
  have hS : va_S (fun _ => False) s.heap s.heap [] := va_S.rf
  have hl := lv_entry ([.int (nI a), .int (nI b)]) (n := 2) (Nat.le_of_ble_eq_true rfl)
  rw [lg_entry_eq]
  generalize (lg_sl ([.int (nI a), .int (nI b)]) ++ List.replicate (2 - (lg_sl ([.int (nI a), .int (nI b)])).length) Slot.unset).toArray = ls at hl ⊢
  have hl : lv_has ls 2 [(0, .int (nI a)), (1, .int (nI b))] := hl
  refine lv_iload_n hx hb d_TB_placeOf_0 rfl (lv_at hl 1 rfl) ?_
  refine lv_iconst (v := nI 1) hx hb d_TB_placeOf_1 (by decide +kernel) ?_
  refine jn_iadd (a := b) (b := 1) hx hb d_TB_placeOf_2 ?_
  refine lv_bipush (v := nI 42) hx hb d_TB_placeOf_3 (by decide +kernel) ?_
  refine jn_imul (a := (b + 1)) (b := 42) hx hb d_TB_placeOf_5 ?_
  refine lv_iload_n hx hb d_TB_placeOf_6 rfl (lv_at hl 0 rfl) ?_
  refine jn_iadd (a := ((b + 1) * 42)) (b := a) hx hb d_TB_placeOf_7 ?_
  refine lv_iconst (v := nI 1) hx hb d_TB_placeOf_8 (by decide +kernel) ?_
  refine jn_iadd (a := (((b + 1) * 42) + a)) (b := 1) hx hb d_TB_placeOf_9 ?_
  exact W.iret (v := nI ((((b + 1) * 42) + a) + 1)) hx hb hr (fun t9 ht hW => ⟨_, rfl, rfl, ht⟩) (fun q h => by cases h) d_TB_placeOf_10
/-- the other side -/
def opp (k : Nat) : Nat := match k with | 0 => 2 | 1 => 3 | 2 => 0 | _ => 1
theorem opp_lt (k : Nat) : opp k < 4 := by
  unfold opp
  split <;> decide
theorem opp_xor {k : Nat} (h : k < 4) : nI k ^^^ nI 2 = nI (opp k) := by
  rcases (show k = 0 ∨ k = 1 ∨ k = 2 ∨ k = 3 by omega) with rfl | rfl | rfl | rfl <;> decide +kernel
set_option maxHeartbeats 4000000 in
set_option maxRecDepth 100000 in
/-- opposite -/
theorem k_TB_opposite (l : Launch) (D : va_G) (cI cJ : ClassId) (k : Nat) (hk : k < 4) : Met l y_TB_opposite ws_TB_opposite ({ frames := 0, cells := 0, slots := 0, locals := 0 } : Room) (va_Pc [.int (nI k)] (Pp D cI cJ [])) (vp_Si (fun r : Int32 => r = nI (opp k))) 0 0 (fun _ => False) := by
  refine Met.ofW (cc := c_TB_opposite) (maxL := 1) (ret := (some .int)) (by decide) rfl ?_
  intro p e s m args below meth c s₁ B hml hv
  obtain ⟨rfl, hE, hP, hX⟩ := hv
  have hx := B.exec
  have hb := B.bytes
  have hr := B.returns
  have hw : ∀ w ∈ gw, w.before _ s = true := fun w h => atoms_spec (ws := ws_TB_opposite) B.pre w (List.mem_cons_of_mem _ h)
  have hown : s.vm.findClass R_TB = some m.cls := findClass_of_methodNamed B.named
  have hlocks := B.notSynchronized
  have hS : va_S (fun _ => False) s.heap s.heap [] := va_S.rf
  have hl := lv_entry ([.int (nI k)]) (n := 1) (Nat.le_of_ble_eq_true rfl)
  rw [lg_entry_eq]
  generalize (lg_sl ([.int (nI k)]) ++ List.replicate (1 - (lg_sl ([.int (nI k)])).length) Slot.unset).toArray = ls at hl ⊢
  have hl : lv_has ls 1 [(0, .int (nI k))] := hl
  refine lv_iload_n hx hb d_TB_opposite_0 rfl (lv_at hl 0 rfl) ?_
  refine lv_iconst (v := nI 2) hx hb d_TB_opposite_1 (by decide +kernel) ?_
  refine lv_ixor hx hb d_TB_opposite_2 ?_
  exact W.iret (v := (nI k) ^^^ (nI 2)) hx hb hr (fun t9 ht hW => ⟨_, rfl, opp_xor hk, ht⟩) (fun q h => by cases h) d_TB_opposite_3
set_option maxHeartbeats 4000000 in
set_option maxRecDepth 100000 in
/-- seedOf -/
theorem k_TB_seedOf (l : Launch) (D : va_G) (cI cJ : ClassId) (x : Int32)  : Met l y_TB_seedOf ws_TB_seedOf ({ frames := 0, cells := 0, slots := 0, locals := 0 } : Room) (va_Pc [.int x] (Pp D cI cJ [])) (vp_Si (fun r : Int32 => r = x ||| nI 1024)) 0 0 (fun _ => False) := by
  refine Met.ofW (cc := c_TB_seedOf) (maxL := 1) (ret := (some .int)) (by decide) rfl ?_
  intro p e s m args below meth c s₁ B hml hv
  obtain ⟨rfl, hE, hP, hX⟩ := hv
  have hx := B.exec
  have hb := B.bytes
  have hr := B.returns
  have hw : ∀ w ∈ gw, w.before _ s = true := fun w h => atoms_spec (ws := ws_TB_seedOf) B.pre w (List.mem_cons_of_mem _ h)
  have hown : s.vm.findClass R_TB = some m.cls := findClass_of_methodNamed B.named
  have hlocks := B.notSynchronized
  have hS : va_S (fun _ => False) s.heap s.heap [] := va_S.rf
  have hl := lv_entry ([.int x]) (n := 1) (Nat.le_of_ble_eq_true rfl)
  rw [lg_entry_eq]
  generalize (lg_sl ([.int x]) ++ List.replicate (1 - (lg_sl ([.int x])).length) Slot.unset).toArray = ls at hl ⊢
  have hl : lv_has ls 1 [(0, .int x)] := hl
  refine lv_iload_n hx hb d_TB_seedOf_0 rfl (lv_at hl 0 rfl) ?_
  refine lv_sipush (v := nI 1024) hx hb d_TB_seedOf_1 (by decide +kernel) ?_
  refine lv_ior hx hb d_TB_seedOf_4 ?_
  exact W.iret (v := x ||| (nI 1024)) hx hb hr (fun t9 ht hW => ⟨_, rfl, rfl, ht⟩) (fun q h => by cases h) d_TB_seedOf_5
set_option maxHeartbeats 4000000 in
set_option maxRecDepth 100000 in
/-- types -/
theorem k_TS_types (l : Launch) (D : va_G) (cI cJ : ClassId) (o1 : Nat) (s1 : Nat) (s2 : Nat) (s3 : Nat) (ty : Int32) (wa : Int32)  : Met l y_TS_types ws_TS_types ({ frames := 0, cells := 0, slots := 0, locals := 0 } : Room) (va_Pc [.ref o1] (Pp D cI cJ [(o1, .inr (1, [.ref s1, .ref s2, .ref s3, .int ty, .int wa]))])) (vp_Si (fun r : Int32 => r = ty)) 0 0 (fun _ => False) := by
  refine Met.ofW (cc := c_TS_types) (maxL := 1) (ret := (some .int)) (by decide) rfl ?_
  intro p e s m args below meth c s₁ B hml hv
  obtain ⟨rfl, hE, hP, hX⟩ := hv
  have hx := B.exec
  have hb := B.bytes
  have hr := B.returns
  have hw : ∀ w ∈ gw, w.before _ s = true := fun w h => atoms_spec (ws := ws_TS_types) B.pre w (List.mem_cons_of_mem _ h)
  have hown : s.vm.findClass R_TS = some m.cls := findClass_of_methodNamed B.named
  have hlocks := B.notSynchronized
  have hS : va_S (fun _ => False) s.heap s.heap [] := va_S.rf
  have hl := lv_entry ([.ref o1]) (n := 1) (Nat.le_of_ble_eq_true rfl)
  rw [lg_entry_eq]
  generalize (lg_sl ([.ref o1]) ++ List.replicate (1 - (lg_sl ([.ref o1])).length) Slot.unset).toArray = ls at hl ⊢
  have hl : lv_has ls 1 [(0, .ref o1)] := hl
  refine lv_aload_n hx hb d_TS_types_0 rfl (lv_at hl 0 rfl) ?_
  refine va_get (D := D) (ci := 1) (v := .int ty) (C := R_TS) (T := T_TS) (N := 5) hx hb hw in_TS hown hE.1 hP 0 rfl rfl 3 (by decide) (hw _ kw_74) (fun _ h9 => h9) rfl d_TS_types_1 ?_
  exact W.iret (v := ty) hx hb hr (fun t9 ht hW => ⟨_, rfl, rfl, ht⟩) (fun q h => by cases h) d_TS_types_4
set_option maxHeartbeats 4000000 in
set_option maxRecDepth 100000 in
/-- warmth -/
theorem k_TS_warmth (l : Launch) (D : va_G) (cI cJ : ClassId) (o1 : Nat) (s1 : Nat) (s2 : Nat) (s3 : Nat) (ty : Int32) (wa : Int32)  : Met l y_TS_warmth ws_TS_warmth ({ frames := 0, cells := 0, slots := 0, locals := 0 } : Room) (va_Pc [.ref o1] (Pp D cI cJ [(o1, .inr (1, [.ref s1, .ref s2, .ref s3, .int ty, .int wa]))])) (vp_Si (fun r : Int32 => r = wa)) 0 0 (fun _ => False) := by
  refine Met.ofW (cc := c_TS_warmth) (maxL := 1) (ret := (some .int)) (by decide) rfl ?_
  intro p e s m args below meth c s₁ B hml hv
  obtain ⟨rfl, hE, hP, hX⟩ := hv
  have hx := B.exec
  have hb := B.bytes
  have hr := B.returns
  have hw : ∀ w ∈ gw, w.before _ s = true := fun w h => atoms_spec (ws := ws_TS_warmth) B.pre w (List.mem_cons_of_mem _ h)
  have hown : s.vm.findClass R_TS = some m.cls := findClass_of_methodNamed B.named
  have hlocks := B.notSynchronized
  have hS : va_S (fun _ => False) s.heap s.heap [] := va_S.rf
  have hl := lv_entry ([.ref o1]) (n := 1) (Nat.le_of_ble_eq_true rfl)
  rw [lg_entry_eq]
  generalize (lg_sl ([.ref o1]) ++ List.replicate (1 - (lg_sl ([.ref o1])).length) Slot.unset).toArray = ls at hl ⊢
  have hl : lv_has ls 1 [(0, .ref o1)] := hl
  refine lv_aload_n hx hb d_TS_warmth_0 rfl (lv_at hl 0 rfl) ?_
  refine va_get (D := D) (ci := 1) (v := .int wa) (C := R_TS) (T := T_TS) (N := 5) hx hb hw in_TS hown hE.1 hP 0 rfl rfl 4 (by decide) (hw _ kw_75) (fun _ h9 => h9) rfl d_TS_warmth_1 ?_
  exact W.iret (v := wa) hx hb hr (fun t9 ht hW => ⟨_, rfl, rfl, ht⟩) (fun q h => by cases h) d_TS_warmth_4
set_option maxHeartbeats 4000000 in
set_option maxRecDepth 100000 in
/-- strengthOf -/
theorem k_TS_strengthOf (l : Launch) (D : va_G) (cI cJ : ClassId) (o1 : Nat) (s1 : Nat) (s2 : Nat) (s3 : Nat) (ty : Int32) (wa : Int32) (st : Nat → Int32) (k : Nat) (hk : k < 100) : Met l y_TS_strengthOf ws_TS_strengthOf ({ frames := 0, cells := 0, slots := 0, locals := 0 } : Room) (va_Pc [.ref o1, .int (nI k)] (Pp D cI cJ [(o1, .inr (1, [.ref s1, .ref s2, .ref s3, .int ty, .int wa])), (s1, .inl (cI, 100, .inl st))])) (vp_Si (fun r : Int32 => r = st k)) 0 0 (fun _ => False) := by
  refine Met.ofW (cc := c_TS_strengthOf) (maxL := 2) (ret := (some .int)) (by decide) rfl ?_
  intro p e s m args below meth c s₁ B hml hv
  obtain ⟨rfl, hE, hP, hX⟩ := hv
  have hx := B.exec
  have hb := B.bytes
  have hr := B.returns
  have hw : ∀ w ∈ gw, w.before _ s = true := fun w h => atoms_spec (ws := ws_TS_strengthOf) B.pre w (List.mem_cons_of_mem _ h)
  have hown : s.vm.findClass R_TS = some m.cls := findClass_of_methodNamed B.named
  have hlocks := B.notSynchronized
  have hS : va_S (fun _ => False) s.heap s.heap [] := va_S.rf
  have hl := lv_entry ([.ref o1, .int (nI k)]) (n := 2) (Nat.le_of_ble_eq_true rfl)
  rw [lg_entry_eq]
  generalize (lg_sl ([.ref o1, .int (nI k)]) ++ List.replicate (2 - (lg_sl ([.ref o1, .int (nI k)])).length) Slot.unset).toArray = ls at hl ⊢
  have hl : lv_has ls 2 [(0, .ref o1), (1, .int (nI k))] := hl
  refine lv_aload_n hx hb d_TS_strengthOf_0 rfl (lv_at hl 0 rfl) ?_
  refine va_get (D := D) (ci := 1) (v := .ref s1) (C := R_TS) (T := T_TS) (N := 5) hx hb hw in_TS hown hE.1 hP 0 rfl rfl 0 (by decide) (hw _ kw_71) (fun _ h9 => h9) rfl d_TS_strengthOf_1 ?_
  refine lv_iload_n hx hb d_TS_strengthOf_4 rfl (lv_at hl 1 rfl) ?_
  refine jn_iald (k := k) hx hb hE.1 hP 1 0 rfl rfl (by omega) (by omega) d_TS_strengthOf_5 ?_
  exact W.iret (v := st k) hx hb hr (fun t9 ht hW => ⟨_, rfl, rfl, ht⟩) (fun q h => by cases h) d_TS_strengthOf_6
set_option maxHeartbeats 4000000 in
set_option maxRecDepth 100000 in
/-- glueAt -/
theorem k_TS_glueAt (l : Launch) (D : va_G) (cI cJ : ClassId) (o1 : Nat) (s1 : Nat) (s2 : Nat) (s3 : Nat) (ty : Int32) (wa : Int32) (sd : Nat → Int32) (a : Nat) (b : Nat) (hk : a * 4 + b < 244) : Met l y_TS_glueAt ws_TS_glueAt ({ frames := 0, cells := 0, slots := 0, locals := 0 } : Room) (va_Pc [.ref o1, .int (nI a), .int (nI b)] (Pp D cI cJ [(o1, .inr (1, [.ref s1, .ref s2, .ref s3, .int ty, .int wa])), (s2, .inl (cI, 244, .inl sd))])) (vp_Si (fun r : Int32 => r = sd (a * 4 + b))) 0 0 (fun _ => False) := by
  refine Met.ofW (cc := c_TS_glueAt) (maxL := 3) (ret := (some .int)) (by decide) rfl ?_
  intro p e s m args below meth c s₁ B hml hv
  obtain ⟨rfl, hE, hP, hX⟩ := hv
  have hx := B.exec
  have hb := B.bytes
  have hr := B.returns
  have hw : ∀ w ∈ gw, w.before _ s = true := fun w h => atoms_spec (ws := ws_TS_glueAt) B.pre w (List.mem_cons_of_mem _ h)
  have hown : s.vm.findClass R_TS = some m.cls := findClass_of_methodNamed B.named
  have hlocks := B.notSynchronized
  have hS : va_S (fun _ => False) s.heap s.heap [] := va_S.rf
  have hl := lv_entry ([.ref o1, .int (nI a), .int (nI b)]) (n := 3) (Nat.le_of_ble_eq_true rfl)
  rw [lg_entry_eq]
  generalize (lg_sl ([.ref o1, .int (nI a), .int (nI b)]) ++ List.replicate (3 - (lg_sl ([.ref o1, .int (nI a), .int (nI b)])).length) Slot.unset).toArray = ls at hl ⊢
  have hl : lv_has ls 3 [(0, .ref o1), (1, .int (nI a)), (2, .int (nI b))] := hl
  refine lv_aload_n hx hb d_TS_glueAt_0 rfl (lv_at hl 0 rfl) ?_
  refine va_get (D := D) (ci := 1) (v := .ref s2) (C := R_TS) (T := T_TS) (N := 5) hx hb hw in_TS hown hE.1 hP 0 rfl rfl 1 (by decide) (hw _ kw_72) (fun _ h9 => h9) rfl d_TS_glueAt_1 ?_
  refine lv_iload_n hx hb d_TS_glueAt_4 rfl (lv_at hl 1 rfl) ?_
  refine lv_iconst (v := nI 4) hx hb d_TS_glueAt_5 (by decide +kernel) ?_
  refine jn_imul (a := a) (b := 4) hx hb d_TS_glueAt_6 ?_
  refine lv_iload_n hx hb d_TS_glueAt_7 rfl (lv_at hl 2 rfl) ?_
  refine jn_iadd (a := (a * 4)) (b := b) hx hb d_TS_glueAt_8 ?_
  refine jn_iald (k := ((a * 4) + b)) hx hb hE.1 hP 1 0 rfl rfl (by omega) (by omega) d_TS_glueAt_9 ?_
  exact W.iret (v := sd ((a * 4) + b)) hx hb hr (fun t9 ht hW => ⟨_, rfl, rfl, ht⟩) (fun q h => by cases h) d_TS_glueAt_10
set_option maxHeartbeats 4000000 in
set_option maxRecDepth 100000 in
/-- bearersOf -/
theorem k_TS_bearersOf (l : Launch) (D : va_G) (cI cJ : ClassId) (o1 : Nat) (s1 : Nat) (s2 : Nat) (s3 : Nat) (ty : Int32) (wa : Int32) (be : Nat → Int64) (a : Nat) (b : Nat) (hk : a * 4 + b < 400) : Met l y_TS_bearersOf ws_TS_bearersOf ({ frames := 0, cells := 0, slots := 0, locals := 0 } : Room) (va_Pc [.ref o1, .int (nI a), .int (nI b)] (Pp D cI cJ [(o1, .inr (1, [.ref s1, .ref s2, .ref s3, .int ty, .int wa])), (s3, .inl (cJ, 400, .inr (.inl be)))])) (vp_Sl (fun r : Int64 => r = be (a * 4 + b))) 0 0 (fun _ => False) := by
  refine Met.ofW (cc := c_TS_bearersOf) (maxL := 3) (ret := (some .long)) (by decide) rfl ?_
  intro p e s m args below meth c s₁ B hml hv
  obtain ⟨rfl, hE, hP, hX⟩ := hv
  have hx := B.exec
  have hb := B.bytes
  have hr := B.returns
  have hw : ∀ w ∈ gw, w.before _ s = true := fun w h => atoms_spec (ws := ws_TS_bearersOf) B.pre w (List.mem_cons_of_mem _ h)
  have hown : s.vm.findClass R_TS = some m.cls := findClass_of_methodNamed B.named
  have hlocks := B.notSynchronized
  have hS : va_S (fun _ => False) s.heap s.heap [] := va_S.rf
  have hl := lv_entry ([.ref o1, .int (nI a), .int (nI b)]) (n := 3) (Nat.le_of_ble_eq_true rfl)
  rw [lg_entry_eq]
  generalize (lg_sl ([.ref o1, .int (nI a), .int (nI b)]) ++ List.replicate (3 - (lg_sl ([.ref o1, .int (nI a), .int (nI b)])).length) Slot.unset).toArray = ls at hl ⊢
  have hl : lv_has ls 3 [(0, .ref o1), (1, .int (nI a)), (2, .int (nI b))] := hl
  refine lv_aload_n hx hb d_TS_bearersOf_0 rfl (lv_at hl 0 rfl) ?_
  refine va_get (D := D) (ci := 1) (v := .ref s3) (C := R_TS) (T := T_TS) (N := 5) hx hb hw in_TS hown hE.1 hP 0 rfl rfl 2 (by decide) (hw _ kw_73) (fun _ h9 => h9) rfl d_TS_bearersOf_1 ?_
  refine lv_iload_n hx hb d_TS_bearersOf_4 rfl (lv_at hl 1 rfl) ?_
  refine lv_iconst (v := nI 4) hx hb d_TS_bearersOf_5 (by decide +kernel) ?_
  refine jn_imul (a := a) (b := 4) hx hb d_TS_bearersOf_6 ?_
  refine lv_iload_n hx hb d_TS_bearersOf_7 rfl (lv_at hl 2 rfl) ?_
  refine jn_iadd (a := (a * 4)) (b := b) hx hb d_TS_bearersOf_8 ?_
  refine jn_lald (k := ((a * 4) + b)) hx hb hE.1 hP 1 1 rfl rfl (by omega) (by omega) d_TS_bearersOf_9 ?_
  exact W.lret (v := be ((a * 4) + b)) hx hb hr (fun t9 ht hW => ⟨_, rfl, rfl, ht⟩) (fun q h => by cases h) d_TS_bearersOf_10
set_option maxHeartbeats 4000000 in
set_option maxRecDepth 100000 in
/-- strengthen -/
theorem k_TS_strengthen (l : Launch) (D : va_G) (cI cJ : ClassId) (o1 : Nat) (s1 : Nat) (s2 : Nat) (s3 : Nat) (ty : Int32) (wa : Int32) (st : Nat → Int32) (k : Nat) (x : Int32) (sz : Nat) (hk : k < 100) : Met l y_TS_strengthen ws_TS_strengthen ({ frames := 0, cells := 0, slots := 0, locals := 0 } : Room) (va_Pc [.ref o1, .int (nI k), .int x] (Pw D cI cJ [(o1, .inr (1, [.ref s1, .ref s2, .ref s3, .int ty, .int wa])), (s1, .inl (cI, 100, .inl st))] sz)) (va_Qi (fun (r : Int32) (_u : Unit) => r = st k) (fun _u t9 => Bw D (va_A [(o1, .inr (1, [.ref s1, .ref s2, .ref s3, .int ty, .int wa])), (s1, .inl (cI, 100, .inl st))] sz) [(o1, .inr (1, [.ref s1, .ref s2, .ref s3, .int ty, .int wa])), (s1, .inl (cI, 100, .inl (upd st k x)))] t9) (va_A [(o1, .inr (1, [.ref s1, .ref s2, .ref s3, .int ty, .int wa])), (s1, .inl (cI, 100, .inl st))] sz)) 0 0 (va_A [(o1, .inr (1, [.ref s1, .ref s2, .ref s3, .int ty, .int wa])), (s1, .inl (cI, 100, .inl st))] sz) := by
  refine Met.ofW (cc := c_TS_strengthen) (maxL := 4) (ret := (some .int)) (by decide) rfl ?_
  intro p e s m args below meth c s₁ B hml hv
  obtain ⟨rfl, hsz, hE, hP, hD0, hX⟩ := hv
  have hx := B.exec
  have hb := B.bytes
  have hr := B.returns
  have hw : ∀ w ∈ gw, w.before _ s = true := fun w h => atoms_spec (ws := ws_TS_strengthen) B.pre w (List.mem_cons_of_mem _ h)
  have hown : s.vm.findClass R_TS = some m.cls := findClass_of_methodNamed B.named
  have hlocks := B.notSynchronized
  subst hsz
  have hD := hD0.self (sz := s.heap.size)
  generalize hAe : va_A [(o1, .inr (1, [.ref s1, .ref s2, .ref s3, .int ty, .int wa])), (s1, .inl (cI, 100, .inl st))] s.heap.size = A at hD hX ⊢
  have hA : ∀ q : Nat, s.heap.size ≤ q → A q := fun q h => by rw [← hAe]; exact Or.inr h
  have hS : va_S A s.heap s.heap [] := va_S.rf
  have hP : va_P D vwCl [(o1, .inr (1, [.ref s1, .ref s2, .ref s3, .int ty, .int wa])), (s1, .inl (cI, 100, .inl st))] s.heap := hP
  have hl := lv_entry ([.ref o1, .int (nI k), .int x]) (n := 4) (Nat.le_of_ble_eq_true rfl)
  rw [lg_entry_eq]
  generalize (lg_sl ([.ref o1, .int (nI k), .int x]) ++ List.replicate (4 - (lg_sl ([.ref o1, .int (nI k), .int x])).length) Slot.unset).toArray = ls at hl ⊢
  have hl : lv_has ls 4 [(0, .ref o1), (1, .int (nI k)), (2, .int x)] := hl
  refine lv_aload_n hx hb d_TS_strengthen_0 rfl (lv_at hl 0 rfl) ?_
  refine va_get (D := D) (ci := 1) (v := .ref s1) (C := R_TS) (T := T_TS) (N := 5) hx hb hw in_TS hown hE.1 hP 0 rfl rfl 0 (by decide) (hw _ kw_71) (fun _ h9 => h9) rfl d_TS_strengthen_1 ?_
  refine lv_iload_n hx hb d_TS_strengthen_4 rfl (lv_at hl 1 rfl) ?_
  refine jn_iald (k := k) hx hb hE.1 hP 1 0 rfl rfl (by omega) (by omega) d_TS_strengthen_5 ?_
  refine lv_istore_n (lv' := [(3, .int (st k)), (0, .ref o1), (1, .int (nI k)), (2, .int x)]) hx hb d_TS_strengthen_6 rfl hl (by decide) rfl (fun ls hl => ?_)
  refine lv_aload_n hx hb d_TS_strengthen_7 rfl (lv_at hl 1 rfl) ?_
  refine va_get (D := D) (ci := 1) (v := .ref s1) (C := R_TS) (T := T_TS) (N := 5) hx hb hw in_TS hown hE.1 hP 0 rfl rfl 0 (by decide) (hw _ kw_71) (fun _ h9 => h9) rfl d_TS_strengthen_8 ?_
  refine lv_iload_n hx hb d_TS_strengthen_11 rfl (lv_at hl 2 rfl) ?_
  refine lv_iload_n hx hb d_TS_strengthen_12 rfl (lv_at hl 3 rfl) ?_
  refine jn_iast (k := k) hx hb hE.1 hP hD hS 1 0 rfl rfl (by omega) (by omega) d_TS_strengthen_13 (fun H locs hP hD hS => ?_)
  have hP : va_P D vwCl [(o1, .inr (1, [.ref s1, .ref s2, .ref s3, .int ty, .int wa])), (s1, .inl (cI, 100, .inl (upd st k x)))] H := hP
  have hD : va_D A [(o1, .inr (1, [.ref s1, .ref s2, .ref s3, .int ty, .int wa])), (s1, .inl (cI, 100, .inl (upd st k x)))] := hD
  refine lv_iload_n hx hb d_TS_strengthen_14 rfl (lv_at hl 0 rfl) ?_
  have hP9 := hP.sub (ws' := [(o1, .inr (1, [.ref s1, .ref s2, .ref s3, .int ty, .int wa])), (s1, .inl (cI, 100, .inl (upd st k x)))]) [0, 1] rfl
  have hD9 := hD.sub (ws' := [(o1, .inr (1, [.ref s1, .ref s2, .ref s3, .int ty, .int wa])), (s1, .inl (cI, 100, .inl (upd st k x)))]) [0, 1] (by decide) rfl
  exact W.iret (v := st k) hx hb hr (fun t9 ht hW => ⟨⟨_, (), rfl, rfl, ⟨by rw [ht]; exact hP9, hD9⟩⟩, hS.F ht⟩) hS.2.2 d_TS_strengthen_15
set_option maxHeartbeats 4000000 in
set_option maxRecDepth 100000 in
/-- warm -/
theorem k_TS_warm (l : Launch) (D : va_G) (cI cJ : ClassId) (o1 : Nat) (s1 : Nat) (s2 : Nat) (s3 : Nat) (ty : Int32) (wa : Int32) (x : Int32) (sz : Nat)  : Met l y_TS_warm ws_TS_warm ({ frames := 0, cells := 0, slots := 0, locals := 0 } : Room) (va_Pc [.ref o1, .int x] (Pw D cI cJ [(o1, .inr (1, [.ref s1, .ref s2, .ref s3, .int ty, .int wa]))] sz)) (va_Qi (fun (r : Int32) (_u : Unit) => r = wa) (fun _u t9 => Bw D (va_A [(o1, .inr (1, [.ref s1, .ref s2, .ref s3, .int ty, .int wa]))] sz) [(o1, .inr (1, [.ref s1, .ref s2, .ref s3, .int ty, .int x]))] t9) (va_A [(o1, .inr (1, [.ref s1, .ref s2, .ref s3, .int ty, .int wa]))] sz)) 0 0 (va_A [(o1, .inr (1, [.ref s1, .ref s2, .ref s3, .int ty, .int wa]))] sz) := by
  refine Met.ofW (cc := c_TS_warm) (maxL := 3) (ret := (some .int)) (by decide) rfl ?_
  intro p e s m args below meth c s₁ B hml hv
  obtain ⟨rfl, hsz, hE, hP, hD0, hX⟩ := hv
  have hx := B.exec
  have hb := B.bytes
  have hr := B.returns
  have hw : ∀ w ∈ gw, w.before _ s = true := fun w h => atoms_spec (ws := ws_TS_warm) B.pre w (List.mem_cons_of_mem _ h)
  have hown : s.vm.findClass R_TS = some m.cls := findClass_of_methodNamed B.named
  have hlocks := B.notSynchronized
  subst hsz
  have hD := hD0.self (sz := s.heap.size)
  generalize hAe : va_A [(o1, .inr (1, [.ref s1, .ref s2, .ref s3, .int ty, .int wa]))] s.heap.size = A at hD hX ⊢
  have hA : ∀ q : Nat, s.heap.size ≤ q → A q := fun q h => by rw [← hAe]; exact Or.inr h
  have hS : va_S A s.heap s.heap [] := va_S.rf
  have hP : va_P D vwCl [(o1, .inr (1, [.ref s1, .ref s2, .ref s3, .int ty, .int wa]))] s.heap := hP
  have hl := lv_entry ([.ref o1, .int x]) (n := 3) (Nat.le_of_ble_eq_true rfl)
  rw [lg_entry_eq]
  generalize (lg_sl ([.ref o1, .int x]) ++ List.replicate (3 - (lg_sl ([.ref o1, .int x])).length) Slot.unset).toArray = ls at hl ⊢
  have hl : lv_has ls 3 [(0, .ref o1), (1, .int x)] := hl
  refine lv_aload_n hx hb d_TS_warm_0 rfl (lv_at hl 0 rfl) ?_
  refine va_get (D := D) (ci := 1) (v := .int wa) (C := R_TS) (T := T_TS) (N := 5) hx hb hw in_TS hown hE.1 hP 0 rfl rfl 4 (by decide) (hw _ kw_75) (fun _ h9 => h9) rfl d_TS_warm_1 ?_
  refine lv_istore_n (lv' := [(2, .int wa), (0, .ref o1), (1, .int x)]) hx hb d_TS_warm_4 rfl hl (by decide) rfl (fun ls hl => ?_)
  refine lv_aload_n hx hb d_TS_warm_5 rfl (lv_at hl 1 rfl) ?_
  refine lv_iload_n hx hb d_TS_warm_6 rfl (lv_at hl 2 rfl) ?_
  refine va_put (D := D) (ci := 1) (v := .int x) (ty := .int) (C := R_TS) (T := T_TS) (N := 5) hx hb hw in_TS ty_TS ty_TS_ok nm_TS_ok hown hE.1 hP hD hS 0 rfl rfl 4 (by decide) (hw _ kw_75) (fun _ h9 => h9) rfl (by decide +kernel) rfl rfl (Nat.le_of_ble_eq_true rfl) d_TS_warm_7 (fun H locs hP hD hS => ?_)
  have hP : va_P D vwCl [(o1, .inr (1, [.ref s1, .ref s2, .ref s3, .int ty, .int x]))] H := hP
  have hD : va_D A [(o1, .inr (1, [.ref s1, .ref s2, .ref s3, .int ty, .int x]))] := hD
  refine lv_iload_n hx hb d_TS_warm_10 rfl (lv_at hl 0 rfl) ?_
  have hP9 := hP.sub (ws' := [(o1, .inr (1, [.ref s1, .ref s2, .ref s3, .int ty, .int x]))]) [0] rfl
  have hD9 := hD.sub (ws' := [(o1, .inr (1, [.ref s1, .ref s2, .ref s3, .int ty, .int x]))]) [0] (by decide) rfl
  exact W.iret (v := wa) hx hb hr (fun t9 ht hW => ⟨⟨_, (), rfl, rfl, ⟨by rw [ht]; exact hP9, hD9⟩⟩, hS.F ht⟩) hS.2.2 d_TS_warm_11
def mOnly (x : Int32) : Int64 := 1 <<< ((x - nI 1).toInt64 &&& 63)
set_option maxHeartbeats 4000000 in
set_option maxRecDepth 100000 in
/-- putSide -/
theorem k_TS_putSide (l : Launch) (D : va_G) (cI cJ : ClassId) (o1 : Nat) (s1 : Nat) (s2 : Nat) (s3 : Nat) (wa : Int32) (t : Nat) (sd : Nat → Int32) (be : Nat → Int64) (a : Nat) (b : Nat) (sz : Nat) (h1 : t * 4 + a < 244) (h2 : b * 4 + a < 400) : Met l y_TS_putSide ws_TS_putSide ({ frames := 1, cells := 0, slots := 0, locals := 20 } : Room) (va_Pc [.ref o1, .int (nI a), .int (nI b)] (Pw D cI cJ [(o1, .inr (1, [.ref s1, .ref s2, .ref s3, .int (nI t), .int wa])), (s2, .inl (cI, 244, .inl sd)), (s3, .inl (cJ, 400, .inr (.inl be)))] sz)) (va_Qv (fun (_u : Unit) => True) (fun _u t9 => Bw D (va_A [(o1, .inr (1, [.ref s1, .ref s2, .ref s3, .int (nI t), .int wa])), (s2, .inl (cI, 244, .inl sd)), (s3, .inl (cJ, 400, .inr (.inl be)))] sz) [(o1, .inr (1, [.ref s1, .ref s2, .ref s3, .int (nI t), .int wa])), (s2, .inl (cI, 244, .inl (upd sd (t * 4 + a) (nI b)))), (s3, .inl (cJ, 400, .inr (.inl (vp_updL be (b * 4 + a) (be (b * 4 + a) ||| (1 <<< ((nI t - nI 1).toInt64 &&& 63)))))))] t9) (va_A [(o1, .inr (1, [.ref s1, .ref s2, .ref s3, .int (nI t), .int wa])), (s2, .inl (cI, 244, .inl sd)), (s3, .inl (cJ, 400, .inr (.inl be)))] sz)) 0 0 (va_A [(o1, .inr (1, [.ref s1, .ref s2, .ref s3, .int (nI t), .int wa])), (s2, .inl (cI, 244, .inl sd)), (s3, .inl (cJ, 400, .inr (.inl be)))] sz) := by
  refine Met.ofW (cc := c_TS_putSide) (maxL := 3) (ret := none) (by decide) rfl ?_
  intro p e s m args below meth c s₁ B hml hv
  obtain ⟨rfl, hsz, hE, hP, hD0, hX⟩ := hv
  have hx := B.exec
  have hb := B.bytes
  have hr := B.returns
  have hw : ∀ w ∈ gw, w.before _ s = true := fun w h => atoms_spec (ws := ws_TS_putSide) B.pre w (List.mem_cons_of_mem _ h)
  have hown : s.vm.findClass R_TS = some m.cls := findClass_of_methodNamed B.named
  have hlocks := B.notSynchronized
  subst hsz
  have hD := hD0.self (sz := s.heap.size)
  generalize hAe : va_A [(o1, .inr (1, [.ref s1, .ref s2, .ref s3, .int (nI t), .int wa])), (s2, .inl (cI, 244, .inl sd)), (s3, .inl (cJ, 400, .inr (.inl be)))] s.heap.size = A at hD hX ⊢
  have hA : ∀ q : Nat, s.heap.size ≤ q → A q := fun q h => by rw [← hAe]; exact Or.inr h
  have hS : va_S A s.heap s.heap [] := va_S.rf
  have hP : va_P D vwCl [(o1, .inr (1, [.ref s1, .ref s2, .ref s3, .int (nI t), .int wa])), (s2, .inl (cI, 244, .inl sd)), (s3, .inl (cJ, 400, .inr (.inl be)))] s.heap := hP
  have hl := lv_entry ([.ref o1, .int (nI a), .int (nI b)]) (n := 3) (Nat.le_of_ble_eq_true rfl)
  rw [lg_entry_eq]
  generalize (lg_sl ([.ref o1, .int (nI a), .int (nI b)]) ++ List.replicate (3 - (lg_sl ([.ref o1, .int (nI a), .int (nI b)])).length) Slot.unset).toArray = ls at hl ⊢
  have hl : lv_has ls 3 [(0, .ref o1), (1, .int (nI a)), (2, .int (nI b))] := hl
  refine lv_aload_n hx hb d_TS_putSide_0 rfl (lv_at hl 0 rfl) ?_
  refine va_get (D := D) (ci := 1) (v := .ref s2) (C := R_TS) (T := T_TS) (N := 5) hx hb hw in_TS hown hE.1 hP 0 rfl rfl 1 (by decide) (hw _ kw_72) (fun _ h9 => h9) rfl d_TS_putSide_1 ?_
  refine lv_aload_n hx hb d_TS_putSide_4 rfl (lv_at hl 0 rfl) ?_
  refine va_get (D := D) (ci := 1) (v := .int (nI t)) (C := R_TS) (T := T_TS) (N := 5) hx hb hw in_TS hown hE.1 hP 0 rfl rfl 3 (by decide) (hw _ kw_74) (fun _ h9 => h9) rfl d_TS_putSide_5 ?_
  refine lv_iconst (v := nI 4) hx hb d_TS_putSide_8 (by decide +kernel) ?_
  refine jn_imul (a := t) (b := 4) hx hb d_TS_putSide_9 ?_
  refine lv_iload_n hx hb d_TS_putSide_10 rfl (lv_at hl 1 rfl) ?_
  refine jn_iadd (a := (t * 4)) (b := a) hx hb d_TS_putSide_11 ?_
  refine lv_iload_n hx hb d_TS_putSide_12 rfl (lv_at hl 2 rfl) ?_
  refine jn_iast (k := ((t * 4) + a)) hx hb hE.1 hP hD hS 1 0 rfl rfl (by omega) (by omega) d_TS_putSide_13 (fun H locs hP hD hS => ?_)
  have hP : va_P D vwCl [(o1, .inr (1, [.ref s1, .ref s2, .ref s3, .int (nI t), .int wa])), (s2, .inl (cI, 244, .inl (upd sd ((t * 4) + a) (nI b)))), (s3, .inl (cJ, 400, .inr (.inl be)))] H := hP
  have hD : va_D A [(o1, .inr (1, [.ref s1, .ref s2, .ref s3, .int (nI t), .int wa])), (s2, .inl (cI, 244, .inl (upd sd ((t * 4) + a) (nI b)))), (s3, .inl (cJ, 400, .inr (.inl be)))] := hD
  refine lv_aload_n hx hb d_TS_putSide_14 rfl (lv_at hl 0 rfl) ?_
  refine va_get (D := D) (ci := 1) (v := .ref s3) (C := R_TS) (T := T_TS) (N := 5) hx hb hw in_TS hown hE.1 hP 0 rfl rfl 2 (by decide) (hw _ kw_73) (fun _ h9 => h9) rfl d_TS_putSide_15 ?_
  refine lv_iload_n hx hb d_TS_putSide_18 rfl (lv_at hl 2 rfl) ?_
  refine lv_iconst (v := nI 4) hx hb d_TS_putSide_19 (by decide +kernel) ?_
  refine jn_imul (a := b) (b := 4) hx hb d_TS_putSide_20 ?_
  refine lv_iload_n hx hb d_TS_putSide_21 rfl (lv_at hl 1 rfl) ?_
  refine jn_iadd (a := (b * 4)) (b := a) hx hb d_TS_putSide_22 ?_
  refine lv_dup2_11 hx hb d_TS_putSide_23 rfl rfl ?_
  refine jn_lald (k := ((b * 4) + a)) hx hb hE.1 hP 2 1 rfl rfl (by omega) (by omega) d_TS_putSide_24 ?_
  refine lv_aload_n hx hb d_TS_putSide_25 rfl (lv_at hl 0 rfl) ?_
  refine va_get (D := D) (ci := 1) (v := .int (nI t)) (C := R_TS) (T := T_TS) (N := 5) hx hb hw in_TS hown hE.1 hP 0 rfl rfl 3 (by decide) (hw _ kw_74) (fun _ h9 => h9) rfl d_TS_putSide_26 ?_
  refine vp_callSl (va_Run.run (va_runSN (As := [.int (nI t)]) (rest := [.long (be ((b * 4) + a)), .int (nI ((b * 4) + a)), .ref s3]) ⟨hx, hb, hml, hown, hw⟩ (k_TB_only l D cI cJ (nI t)) (⟨va_cnB 1 hw (gI kw_374) rfl rfl rfl (hE.2.1 _ (List.mem_of_getElem? (i := 2) rfl)) (hw _ kw_40) (by decide +kernel) ⟨Nat.le_of_ble_eq_true rfl, Nat.le_of_ble_eq_true rfl⟩, hw _ kw_373, trivial⟩) (pre_Sp (wc := []) hE hX hP hS [] rfl) rfl rfl hl.1 rfl (lv_room (Nat.le_of_ble_eq_true rfl)) d_TS_putSide_29 ⟨Nat.le_of_ble_eq_true rfl, Nat.le_of_ble_eq_true rfl⟩)) (fun r_1 hr_1 => ?_)
  obtain rfl : r_1 = 1 <<< (((nI t) - nI 1).toInt64 &&& 63) := hr_1
  refine lv_lor hx hb d_TS_putSide_32 ?_
  refine jn_last (k := ((b * 4) + a)) hx hb hE.1 hP hD hS 2 1 rfl rfl (by omega) (by omega) d_TS_putSide_33 (fun H locs hP hD hS => ?_)
  have hP : va_P D vwCl [(o1, .inr (1, [.ref s1, .ref s2, .ref s3, .int (nI t), .int wa])), (s2, .inl (cI, 244, .inl (upd sd ((t * 4) + a) (nI b)))), (s3, .inl (cJ, 400, .inr (.inl (vp_updL be ((b * 4) + a) ((be ((b * 4) + a)) ||| (1 <<< (((nI t) - nI 1).toInt64 &&& 63)))))))] H := hP
  have hD : va_D A [(o1, .inr (1, [.ref s1, .ref s2, .ref s3, .int (nI t), .int wa])), (s2, .inl (cI, 244, .inl (upd sd ((t * 4) + a) (nI b)))), (s3, .inl (cJ, 400, .inr (.inl (vp_updL be ((b * 4) + a) ((be ((b * 4) + a)) ||| (1 <<< (((nI t) - nI 1).toInt64 &&& 63)))))))] := hD
  have hP9 := hP.sub (ws' := [(o1, .inr (1, [.ref s1, .ref s2, .ref s3, .int (nI t), .int wa])), (s2, .inl (cI, 244, .inl (upd sd ((t * 4) + a) (nI b)))), (s3, .inl (cJ, 400, .inr (.inl (vp_updL be ((b * 4) + a) ((be ((b * 4) + a)) ||| (1 <<< (((nI t) - nI 1).toInt64 &&& 63)))))))]) [0, 1, 2] rfl
  have hD9 := hD.sub (ws' := [(o1, .inr (1, [.ref s1, .ref s2, .ref s3, .int (nI t), .int wa])), (s2, .inl (cI, 244, .inl (upd sd ((t * 4) + a) (nI b)))), (s3, .inl (cJ, 400, .inr (.inl (vp_updL be ((b * 4) + a) ((be ((b * 4) + a)) ||| (1 <<< (((nI t) - nI 1).toInt64 &&& 63)))))))]) [0, 1, 2] (by decide) rfl
  exact W.vret hx hb hr (fun t9 ht hW => ⟨⟨(), rfl, trivial, ⟨by rw [ht]; exact hP9, hD9⟩⟩, hS.F ht⟩) hS.2.2 d_TS_putSide_34
