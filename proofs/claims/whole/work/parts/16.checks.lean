theorem d_TB_needEmptyField_0 : decode c_TB_needEmptyField 0 = .ok (.aload_n 0, 1) := by decide +kernel
theorem d_TB_needEmptyField_1 : decode c_TB_needEmptyField 1 = .ok (.getfield 21, 3) := by decide +kernel
theorem d_TB_needEmptyField_4 : decode c_TB_needEmptyField 4 = .ok (.iconst 0, 1) := by decide +kernel
theorem d_TB_needEmptyField_5 : decode c_TB_needEmptyField 5 = .ok (.invokevirtual 100, 3) := by decide +kernel
theorem d_TB_needEmptyField_8 : decode c_TB_needEmptyField 8 = .ok (.ifCond .le 13, 3) := by decide +kernel
theorem d_TB_needEmptyField_11 : decode c_TB_needEmptyField 11 = .ok (.new 89, 3) := by decide +kernel
theorem d_TB_needEmptyField_14 : decode c_TB_needEmptyField 14 = .ok (.dup, 1) := by decide +kernel
theorem d_TB_needEmptyField_15 : decode c_TB_needEmptyField 15 = .ok (.ldc 192, 2) := by decide +kernel
theorem d_TB_needEmptyField_17 : decode c_TB_needEmptyField 17 = .ok (.invokespecial 93, 3) := by decide +kernel
theorem d_TB_needEmptyField_20 : decode c_TB_needEmptyField 20 = .ok (.athrow, 1) := by decide +kernel
theorem d_TB_needEmptyField_21 : decode c_TB_needEmptyField 21 = .ok (.return_, 1) := by decide +kernel
theorem d_TB_needWithin_0 : decode c_TB_needWithin 0 = .ok (.iload_n 0, 1) := by decide +kernel
theorem d_TB_needWithin_1 : decode c_TB_needWithin 1 = .ok (.iload_n 1, 1) := by decide +kernel
theorem d_TB_needWithin_2 : decode c_TB_needWithin 2 = .ok (.if_icmp .lt 8, 3) := by decide +kernel
theorem d_TB_needWithin_5 : decode c_TB_needWithin 5 = .ok (.iload_n 0, 1) := by decide +kernel
theorem d_TB_needWithin_6 : decode c_TB_needWithin 6 = .ok (.iload_n 2, 1) := by decide +kernel
theorem d_TB_needWithin_7 : decode c_TB_needWithin 7 = .ok (.if_icmp .le 13, 3) := by decide +kernel
theorem d_TB_needWithin_10 : decode c_TB_needWithin 10 = .ok (.new 194, 3) := by decide +kernel
theorem d_TB_needWithin_13 : decode c_TB_needWithin 13 = .ok (.dup, 1) := by decide +kernel
theorem d_TB_needWithin_14 : decode c_TB_needWithin 14 = .ok (.ldc 201, 2) := by decide +kernel
theorem d_TB_needWithin_16 : decode c_TB_needWithin 16 = .ok (.invokespecial 198, 3) := by decide +kernel
theorem d_TB_needWithin_19 : decode c_TB_needWithin 19 = .ok (.athrow, 1) := by decide +kernel
theorem d_TB_needWithin_20 : decode c_TB_needWithin 20 = .ok (.return_, 1) := by decide +kernel
theorem d_TB_needPlace_0 : decode c_TB_needPlace 0 = .ok (.iload_n 0, 1) := by decide +kernel
theorem d_TB_needPlace_1 : decode c_TB_needPlace 1 = .ok (.ifCond .lt 19, 3) := by decide +kernel
theorem d_TB_needPlace_4 : decode c_TB_needPlace 4 = .ok (.iload_n 0, 1) := by decide +kernel
theorem d_TB_needPlace_5 : decode c_TB_needPlace 5 = .ok (.bipush 40, 2) := by decide +kernel
theorem d_TB_needPlace_7 : decode c_TB_needPlace 7 = .ok (.if_icmp .ge 13, 3) := by decide +kernel
theorem d_TB_needPlace_10 : decode c_TB_needPlace 10 = .ok (.iload_n 1, 1) := by decide +kernel
theorem d_TB_needPlace_11 : decode c_TB_needPlace 11 = .ok (.ifCond .lt 9, 3) := by decide +kernel
theorem d_TB_needPlace_14 : decode c_TB_needPlace 14 = .ok (.iload_n 1, 1) := by decide +kernel
theorem d_TB_needPlace_15 : decode c_TB_needPlace 15 = .ok (.bipush 40, 2) := by decide +kernel
theorem d_TB_needPlace_17 : decode c_TB_needPlace 17 = .ok (.if_icmp .lt 13, 3) := by decide +kernel
theorem d_TB_needPlace_20 : decode c_TB_needPlace 20 = .ok (.new 139, 3) := by decide +kernel
theorem d_TB_needPlace_23 : decode c_TB_needPlace 23 = .ok (.dup, 1) := by decide +kernel
theorem d_TB_needPlace_24 : decode c_TB_needPlace 24 = .ok (.ldc 199, 2) := by decide +kernel
theorem d_TB_needPlace_26 : decode c_TB_needPlace 26 = .ok (.invokespecial 143, 3) := by decide +kernel
theorem d_TB_needPlace_29 : decode c_TB_needPlace 29 = .ok (.athrow, 1) := by decide +kernel
theorem d_TB_needPlace_30 : decode c_TB_needPlace 30 = .ok (.return_, 1) := by decide +kernel
theorem d_TB_needType_0 : decode c_TB_needType 0 = .ok (.iload_n 1, 1) := by decide +kernel
theorem d_TB_needType_1 : decode c_TB_needType 1 = .ok (.iconst 1, 1) := by decide +kernel
theorem d_TB_needType_2 : decode c_TB_needType 2 = .ok (.if_icmp .lt 14, 3) := by decide +kernel
theorem d_TB_needType_5 : decode c_TB_needType 5 = .ok (.iload_n 1, 1) := by decide +kernel
theorem d_TB_needType_6 : decode c_TB_needType 6 = .ok (.aload_n 0, 1) := by decide +kernel
theorem d_TB_needType_7 : decode c_TB_needType 7 = .ok (.getfield 12, 3) := by decide +kernel
theorem d_TB_needType_10 : decode c_TB_needType 10 = .ok (.invokevirtual 52, 3) := by decide +kernel
theorem d_TB_needType_13 : decode c_TB_needType 13 = .ok (.if_icmp .le 13, 3) := by decide +kernel
theorem d_TB_needType_16 : decode c_TB_needType 16 = .ok (.new 194, 3) := by decide +kernel
theorem d_TB_needType_19 : decode c_TB_needType 19 = .ok (.dup, 1) := by decide +kernel
theorem d_TB_needType_20 : decode c_TB_needType 20 = .ok (.ldc 196, 2) := by decide +kernel
theorem d_TB_needType_22 : decode c_TB_needType 22 = .ok (.invokespecial 198, 3) := by decide +kernel
theorem d_TB_needType_25 : decode c_TB_needType 25 = .ok (.athrow, 1) := by decide +kernel
theorem d_TB_needType_26 : decode c_TB_needType 26 = .ok (.return_, 1) := by decide +kernel
theorem within_nat {x : Int32} {a b : Nat} (h1 : ¬ x < nI a) (h2 : x ≤ nI b) (ha : a < 2 ^ 31) (hb : b < 2 ^ 31) : ∃ k : Nat, a ≤ k ∧ k ≤ b ∧ x = nI k := by
  rw [Int32.lt_iff_toInt_lt, nI_toInt ha] at h1
  rw [Int32.le_iff_toInt_le, nI_toInt hb] at h2
  refine ⟨x.toInt.toNat, by omega, by omega, ?_⟩
  apply Int32.toInt_inj.mp
  rw [nI_toInt (by omega)]
  omega
theorem within_nat0 {x : Int32} {b : Nat} (h1 : ¬ x < 0) (h2 : ¬ nI b ≤ x) (hb : b < 2 ^ 31) : ∃ k : Nat, k < b ∧ x = nI k := by
  rw [← nI_0, Int32.lt_iff_toInt_lt, nI_toInt (by decide)] at h1
  rw [Int32.le_iff_toInt_le, nI_toInt hb] at h2
  refine ⟨x.toInt.toNat, by omega, ?_⟩
  apply Int32.toInt_inj.mp
  rw [nI_toInt (by omega)]
  omega
theorem within_nat1 {x : Int32} {b : Nat} (h1 : ¬ x < 0) (h2 : x < nI b) (hb : b < 2 ^ 31) : ∃ k : Nat, k < b ∧ x = nI k := by
  refine within_nat0 h1 (fun z => ?_) hb
  rw [Int32.lt_iff_toInt_lt] at h2
  rw [Int32.le_iff_toInt_le] at z
  omega
theorem nn_nI {k : Nat} (h : k < 2 ^ 31) : nn (nI k) = k := nI_clamp h
theorem at_TB_needWithin_10 {D : va_G} {cI cJ : ClassId} {args : Array Value} {s : State} (hw : ∀ w ∈ gw, w.before args s = true) (hE : En D cI cJ s) : ∀ w ∈ vx_atS "TileBench" 198 "java/lang/IllegalArgumentException" ["java/lang/RuntimeException", "java/lang/Exception"], w.before args s = true :=
  vx_hat (B := [.declares ⟨"java/lang/RuntimeException", "<init>", "(Ljava/lang/String;)V"⟩, .declares ⟨"java/lang/Exception", "<init>", "(Ljava/lang/String;)V"⟩, .declares ⟨"java/lang/Throwable", "<init>", "(Ljava/lang/String;)V"⟩, .castable "java/lang/IllegalArgumentException" "java/lang/IllegalArgumentException"]) (fun w h => hw w ((show ∀ w ∈ (vx_atS "TileBench" 198 "java/lang/IllegalArgumentException" ["java/lang/RuntimeException", "java/lang/Exception"]).filter goodWord, w ∈ gw from by decide +kernel) w h)) (by decide +kernel)
    (vx_c (va_Nw.use rfl (hE.2.2.2.2.1 _ (List.mem_of_getElem? (i := 1) rfl))) (vx_c (va_Nw.use rfl (hE.2.2.2.2.1 _ (List.mem_of_getElem? (i := 3) rfl))) (vx_c (va_Nw.use rfl (hE.2.2.2.2.1 _ (List.mem_of_getElem? (i := 5) rfl))) (vx_c (va_Nw.use rfl (hE.2.2.2.2.2.1 _ (List.mem_of_getElem? (i := 1) rfl))) vx_n))))
theorem at_TB_needWithin_10_ot : ∀ w ∈ Cond.classLink "TileBench" 194 "java/lang/IllegalArgumentException" :: Cond.initialized "java/lang/IllegalArgumentException" :: vx_atS "TileBench" 198 "java/lang/IllegalArgumentException" ["java/lang/RuntimeException", "java/lang/Exception"], vx_ot w = true := by decide +kernel
set_option maxHeartbeats 4000000 in
set_option maxRecDepth 100000 in
/-- needWithin -/
theorem k_TB_needWithin (l : Launch) (hfl : l.stackTraces = false) (D : va_G) (cI cJ : ClassId) (x : Int32) (lo : Int32) (hi : Int32)  : vx_Met l y_TB_needWithin ws_TB_needWithin ({ frames := 6, cells := 1, slots := 6, locals := 90 } : Room) (va_Pc [.int x, .int lo, .int hi] (Pp D cI cJ [])) (nd_Q (¬ x < lo ∧ x ≤ hi)) (nd_X (fun E => E = "java/lang/IllegalArgumentException" ∧ (x < lo ∨ ¬ x ≤ hi))) 1 6 (fun _ => False) := by
  refine vx_ofW (cc := c_TB_needWithin) (maxL := 3) (ret := none) (by decide) rfl ?_
  intro p e s m args below meth c s₁ B hml hno hv
  obtain ⟨rfl, hE, hP, hX⟩ := hv
  have hx := B.exec
  have hb := B.bytes
  have hr := B.returns
  have hw : ∀ w ∈ gw, w.before _ s = true := fun w h => atoms_spec (ws := ws_TB_needWithin) B.pre w (List.mem_cons_of_mem _ h)
  have hown : s.vm.findClass R_TB = some m.cls := findClass_of_methodNamed B.named
  have hlocks := B.notSynchronized
  have hS : va_S (fun _ => False) s.heap s.heap [] := va_S.rf
  have hl := lv_entry ([.int x, .int lo, .int hi]) (n := 3) (Nat.le_of_ble_eq_true rfl)
  rw [lg_entry_eq]
  generalize (lg_sl ([.int x, .int lo, .int hi]) ++ List.replicate (3 - (lg_sl ([.int x, .int lo, .int hi])).length) Slot.unset).toArray = ls at hl ⊢
  have hl : lv_has ls 3 [(0, .int x), (1, .int lo), (2, .int hi)] := hl
  refine lv_iload_n hx hb d_TB_needWithin_0 rfl (lv_at hl 0 rfl) ?_
  refine lv_iload_n hx hb d_TB_needWithin_1 rfl (lv_at hl 1 rfl) ?_
  refine lv_icmp_lt (tgt := 10) hx hb d_TB_needWithin_2 (by decide) (fun c_2 => ?_) (fun c_2 => ?_)
  · skip
    obtain ⟨sa, hstr⟩ := hE.2.2.2.1 _ (List.mem_of_getElem? (i := 1) rfl)
    exact vx_throwS (A := (fun _ => False)) hx hb hfl hown (by decide +kernel) (by decide +kernel) (hw _ kw_316) (hw _ kw_50) hstr (at_TB_needWithin_10 hw hE) at_TB_needWithin_10_ot hX.2.1 hX.2.2 hS (by rw [hml]; exact hl.1) d_TB_needWithin_10 d_TB_needWithin_13 d_TB_needWithin_14 d_TB_needWithin_16 d_TB_needWithin_19 (fun x hx => (hno x hx).elim) (Nat.le_of_ble_eq_true rfl) (Nat.le_of_ble_eq_true rfl) (Nat.le_of_ble_eq_true rfl) (Nat.le_of_ble_eq_true rfl) hlocks (fun t9 hal h1 h2 => ⟨⟨rfl, Or.inl c_2⟩, h1, h2⟩) (fun q h => by cases h) (Nat.le_of_ble_eq_true rfl) (Nat.le_of_ble_eq_true rfl)
  · skip
    refine lv_iload_n hx hb d_TB_needWithin_5 rfl (lv_at hl 0 rfl) ?_
    refine lv_iload_n hx hb d_TB_needWithin_6 rfl (lv_at hl 2 rfl) ?_
    refine lv_icmp_le (tgt := 20) hx hb d_TB_needWithin_7 (by decide) (fun c_7 => ?_) (fun c_7 => ?_)
    · skip
      refine W.widen (k := 1) (n := 6) (by decide) (by decide) ?_
      refine vx_ret ?_
      exact W.vret hx hb hr (fun t9 ht hW => ⟨rfl, ⟨c_2, c_7⟩, ht⟩) (fun q h => by cases h) d_TB_needWithin_20
    · skip
      obtain ⟨sa, hstr⟩ := hE.2.2.2.1 _ (List.mem_of_getElem? (i := 1) rfl)
      exact vx_throwS (A := (fun _ => False)) hx hb hfl hown (by decide +kernel) (by decide +kernel) (hw _ kw_316) (hw _ kw_50) hstr (at_TB_needWithin_10 hw hE) at_TB_needWithin_10_ot hX.2.1 hX.2.2 hS (by rw [hml]; exact hl.1) d_TB_needWithin_10 d_TB_needWithin_13 d_TB_needWithin_14 d_TB_needWithin_16 d_TB_needWithin_19 (fun x hx => (hno x hx).elim) (Nat.le_of_ble_eq_true rfl) (Nat.le_of_ble_eq_true rfl) (Nat.le_of_ble_eq_true rfl) (Nat.le_of_ble_eq_true rfl) hlocks (fun t9 hal h1 h2 => ⟨⟨rfl, Or.inr c_7⟩, h1, h2⟩) (fun q h => by cases h) (Nat.le_of_ble_eq_true rfl) (Nat.le_of_ble_eq_true rfl)
theorem at_TB_needPlace_20 {D : va_G} {cI cJ : ClassId} {args : Array Value} {s : State} (hw : ∀ w ∈ gw, w.before args s = true) (hE : En D cI cJ s) : ∀ w ∈ vx_atS "TileBench" 143 "java/lang/IndexOutOfBoundsException" ["java/lang/RuntimeException", "java/lang/Exception"], w.before args s = true :=
  vx_hat (B := [.declares ⟨"java/lang/RuntimeException", "<init>", "(Ljava/lang/String;)V"⟩, .declares ⟨"java/lang/Exception", "<init>", "(Ljava/lang/String;)V"⟩, .declares ⟨"java/lang/Throwable", "<init>", "(Ljava/lang/String;)V"⟩, .castable "java/lang/IndexOutOfBoundsException" "java/lang/IndexOutOfBoundsException"]) (fun w h => hw w ((show ∀ w ∈ (vx_atS "TileBench" 143 "java/lang/IndexOutOfBoundsException" ["java/lang/RuntimeException", "java/lang/Exception"]).filter goodWord, w ∈ gw from by decide +kernel) w h)) (by decide +kernel)
    (vx_c (va_Nw.use rfl (hE.2.2.2.2.1 _ (List.mem_of_getElem? (i := 1) rfl))) (vx_c (va_Nw.use rfl (hE.2.2.2.2.1 _ (List.mem_of_getElem? (i := 3) rfl))) (vx_c (va_Nw.use rfl (hE.2.2.2.2.1 _ (List.mem_of_getElem? (i := 5) rfl))) (vx_c (va_Nw.use rfl (hE.2.2.2.2.2.1 _ (List.mem_of_getElem? (i := 3) rfl))) vx_n))))
theorem at_TB_needPlace_20_ot : ∀ w ∈ Cond.classLink "TileBench" 139 "java/lang/IndexOutOfBoundsException" :: Cond.initialized "java/lang/IndexOutOfBoundsException" :: vx_atS "TileBench" 143 "java/lang/IndexOutOfBoundsException" ["java/lang/RuntimeException", "java/lang/Exception"], vx_ot w = true := by decide +kernel
set_option maxHeartbeats 4000000 in
set_option maxRecDepth 100000 in
/-- needPlace -/
theorem k_TB_needPlace (l : Launch) (hfl : l.stackTraces = false) (D : va_G) (cI cJ : ClassId) (x : Int32) (y : Int32)  : vx_Met l y_TB_needPlace ws_TB_needPlace ({ frames := 6, cells := 1, slots := 6, locals := 90 } : Room) (va_Pc [.int x, .int y] (Pp D cI cJ [])) (nd_Q (¬ x < 0 ∧ ¬ nI 40 ≤ x ∧ ¬ y < 0 ∧ y < nI 40)) (nd_X (fun E => E = "java/lang/IndexOutOfBoundsException" ∧ (x < 0 ∨ nI 40 ≤ x ∨ y < 0 ∨ ¬ y < nI 40))) 1 6 (fun _ => False) := by
  refine vx_ofW (cc := c_TB_needPlace) (maxL := 2) (ret := none) (by decide) rfl ?_
  intro p e s m args below meth c s₁ B hml hno hv
  obtain ⟨rfl, hE, hP, hX⟩ := hv
  have hx := B.exec
  have hb := B.bytes
  have hr := B.returns
  have hw : ∀ w ∈ gw, w.before _ s = true := fun w h => atoms_spec (ws := ws_TB_needPlace) B.pre w (List.mem_cons_of_mem _ h)
  have hown : s.vm.findClass R_TB = some m.cls := findClass_of_methodNamed B.named
  have hlocks := B.notSynchronized
  have hS : va_S (fun _ => False) s.heap s.heap [] := va_S.rf
  have hl := lv_entry ([.int x, .int y]) (n := 2) (Nat.le_of_ble_eq_true rfl)
  rw [lg_entry_eq]
  generalize (lg_sl ([.int x, .int y]) ++ List.replicate (2 - (lg_sl ([.int x, .int y])).length) Slot.unset).toArray = ls at hl ⊢
  have hl : lv_has ls 2 [(0, .int x), (1, .int y)] := hl
  refine lv_iload_n hx hb d_TB_needPlace_0 rfl (lv_at hl 0 rfl) ?_
  refine lv_if_lt (tgt := 20) hx hb d_TB_needPlace_1 (by decide) (fun c_1 => ?_) (fun c_1 => ?_)
  · skip
    obtain ⟨sa, hstr⟩ := hE.2.2.2.1 _ (List.mem_of_getElem? (i := 3) rfl)
    exact vx_throwS (A := (fun _ => False)) hx hb hfl hown (by decide +kernel) (by decide +kernel) (hw _ kw_397) (hw _ kw_52) hstr (at_TB_needPlace_20 hw hE) at_TB_needPlace_20_ot hX.2.1 hX.2.2 hS (by rw [hml]; exact hl.1) d_TB_needPlace_20 d_TB_needPlace_23 d_TB_needPlace_24 d_TB_needPlace_26 d_TB_needPlace_29 (fun x hx => (hno x hx).elim) (Nat.le_of_ble_eq_true rfl) (Nat.le_of_ble_eq_true rfl) (Nat.le_of_ble_eq_true rfl) (Nat.le_of_ble_eq_true rfl) hlocks (fun t9 hal h1 h2 => ⟨⟨rfl, Or.inl c_1⟩, h1, h2⟩) (fun q h => by cases h) (Nat.le_of_ble_eq_true rfl) (Nat.le_of_ble_eq_true rfl)
  · skip
    refine lv_iload_n hx hb d_TB_needPlace_4 rfl (lv_at hl 0 rfl) ?_
    refine lv_bipush (v := nI 40) hx hb d_TB_needPlace_5 (by decide +kernel) ?_
    refine lv_icmp_ge (tgt := 20) hx hb d_TB_needPlace_7 (by decide) (fun c_7 => ?_) (fun c_7 => ?_)
    · skip
      obtain ⟨sa, hstr⟩ := hE.2.2.2.1 _ (List.mem_of_getElem? (i := 3) rfl)
      exact vx_throwS (A := (fun _ => False)) hx hb hfl hown (by decide +kernel) (by decide +kernel) (hw _ kw_397) (hw _ kw_52) hstr (at_TB_needPlace_20 hw hE) at_TB_needPlace_20_ot hX.2.1 hX.2.2 hS (by rw [hml]; exact hl.1) d_TB_needPlace_20 d_TB_needPlace_23 d_TB_needPlace_24 d_TB_needPlace_26 d_TB_needPlace_29 (fun x hx => (hno x hx).elim) (Nat.le_of_ble_eq_true rfl) (Nat.le_of_ble_eq_true rfl) (Nat.le_of_ble_eq_true rfl) (Nat.le_of_ble_eq_true rfl) hlocks (fun t9 hal h1 h2 => ⟨⟨rfl, Or.inr (Or.inl c_7)⟩, h1, h2⟩) (fun q h => by cases h) (Nat.le_of_ble_eq_true rfl) (Nat.le_of_ble_eq_true rfl)
    · skip
      refine lv_iload_n hx hb d_TB_needPlace_10 rfl (lv_at hl 1 rfl) ?_
      refine lv_if_lt (tgt := 20) hx hb d_TB_needPlace_11 (by decide) (fun c_11 => ?_) (fun c_11 => ?_)
      · skip
        obtain ⟨sa, hstr⟩ := hE.2.2.2.1 _ (List.mem_of_getElem? (i := 3) rfl)
        exact vx_throwS (A := (fun _ => False)) hx hb hfl hown (by decide +kernel) (by decide +kernel) (hw _ kw_397) (hw _ kw_52) hstr (at_TB_needPlace_20 hw hE) at_TB_needPlace_20_ot hX.2.1 hX.2.2 hS (by rw [hml]; exact hl.1) d_TB_needPlace_20 d_TB_needPlace_23 d_TB_needPlace_24 d_TB_needPlace_26 d_TB_needPlace_29 (fun x hx => (hno x hx).elim) (Nat.le_of_ble_eq_true rfl) (Nat.le_of_ble_eq_true rfl) (Nat.le_of_ble_eq_true rfl) (Nat.le_of_ble_eq_true rfl) hlocks (fun t9 hal h1 h2 => ⟨⟨rfl, Or.inr (Or.inr (Or.inl c_11))⟩, h1, h2⟩) (fun q h => by cases h) (Nat.le_of_ble_eq_true rfl) (Nat.le_of_ble_eq_true rfl)
      · skip
        refine lv_iload_n hx hb d_TB_needPlace_14 rfl (lv_at hl 1 rfl) ?_
        refine lv_bipush (v := nI 40) hx hb d_TB_needPlace_15 (by decide +kernel) ?_
        refine lv_icmp_lt (tgt := 30) hx hb d_TB_needPlace_17 (by decide) (fun c_17 => ?_) (fun c_17 => ?_)
        · skip
          refine W.widen (k := 1) (n := 6) (by decide) (by decide) ?_
          refine vx_ret ?_
          exact W.vret hx hb hr (fun t9 ht hW => ⟨rfl, ⟨c_1, c_7, c_11, c_17⟩, ht⟩) (fun q h => by cases h) d_TB_needPlace_30
        · skip
          obtain ⟨sa, hstr⟩ := hE.2.2.2.1 _ (List.mem_of_getElem? (i := 3) rfl)
          exact vx_throwS (A := (fun _ => False)) hx hb hfl hown (by decide +kernel) (by decide +kernel) (hw _ kw_397) (hw _ kw_52) hstr (at_TB_needPlace_20 hw hE) at_TB_needPlace_20_ot hX.2.1 hX.2.2 hS (by rw [hml]; exact hl.1) d_TB_needPlace_20 d_TB_needPlace_23 d_TB_needPlace_24 d_TB_needPlace_26 d_TB_needPlace_29 (fun x hx => (hno x hx).elim) (Nat.le_of_ble_eq_true rfl) (Nat.le_of_ble_eq_true rfl) (Nat.le_of_ble_eq_true rfl) (Nat.le_of_ble_eq_true rfl) hlocks (fun t9 hal h1 h2 => ⟨⟨rfl, Or.inr (Or.inr (Or.inr c_17))⟩, h1, h2⟩) (fun q h => by cases h) (Nat.le_of_ble_eq_true rfl) (Nat.le_of_ble_eq_true rfl)
theorem at_TB_needEmptyField_11 {D : va_G} {cI cJ : ClassId} {args : Array Value} {s : State} (hw : ∀ w ∈ gw, w.before args s = true) (hE : En D cI cJ s) : ∀ w ∈ vx_atS "TileBench" 93 "java/lang/IllegalStateException" ["java/lang/RuntimeException", "java/lang/Exception"], w.before args s = true :=
  vx_hat (B := [.declares ⟨"java/lang/RuntimeException", "<init>", "(Ljava/lang/String;)V"⟩, .declares ⟨"java/lang/Exception", "<init>", "(Ljava/lang/String;)V"⟩, .declares ⟨"java/lang/Throwable", "<init>", "(Ljava/lang/String;)V"⟩, .castable "java/lang/IllegalStateException" "java/lang/IllegalStateException"]) (fun w h => hw w ((show ∀ w ∈ (vx_atS "TileBench" 93 "java/lang/IllegalStateException" ["java/lang/RuntimeException", "java/lang/Exception"]).filter goodWord, w ∈ gw from by decide +kernel) w h)) (by decide +kernel)
    (vx_c (va_Nw.use rfl (hE.2.2.2.2.1 _ (List.mem_of_getElem? (i := 1) rfl))) (vx_c (va_Nw.use rfl (hE.2.2.2.2.1 _ (List.mem_of_getElem? (i := 3) rfl))) (vx_c (va_Nw.use rfl (hE.2.2.2.2.1 _ (List.mem_of_getElem? (i := 5) rfl))) (vx_c (va_Nw.use rfl (hE.2.2.2.2.2.1 _ (List.mem_of_getElem? (i := 0) rfl))) vx_n))))
theorem at_TB_needEmptyField_11_ot : ∀ w ∈ Cond.classLink "TileBench" 89 "java/lang/IllegalStateException" :: Cond.initialized "java/lang/IllegalStateException" :: vx_atS "TileBench" 93 "java/lang/IllegalStateException" ["java/lang/RuntimeException", "java/lang/Exception"], vx_ot w = true := by decide +kernel
set_option maxHeartbeats 4000000 in
set_option maxRecDepth 100000 in
/-- needEmptyField -/
theorem k_TB_needEmptyField (l : Launch) (hfl : l.stackTraces = false) (D : va_G) (cI cJ : ClassId) (x0 : Nat) (c0 : Nat) (e0 : Nat) (f0 : Nat) (f1 : Nat) (f2 : Nat) (f3 : Nat) (f4 : Nat) (o1 : Nat) (np : Int32) (ns : Int32) (aw : Int32) (tl : Nat → Int32)  : vx_Met l y_TB_needEmptyField ws_TB_needEmptyField ({ frames := 6, cells := 1, slots := 6, locals := 90 } : Room) (va_Pc [.ref x0] (Pp D cI cJ [(x0, .inr (0, [.ref o1, .ref f0, .ref c0, .ref e0])), (f0, .inr (2, [.ref o1, .ref f1, .ref f2, .ref f3, .ref f4, .int np, .int ns, .int aw])), (f4, .inl (cI, 61, .inl tl))])) (nd_Q (tl 0 ≤ 0)) (nd_X (fun E => E = "java/lang/IllegalStateException" ∧ ¬ tl 0 ≤ 0)) 1 6 (fun _ => False) := by
  refine vx_ofW (cc := c_TB_needEmptyField) (maxL := 1) (ret := none) (by decide) rfl ?_
  intro p e s m args below meth c s₁ B hml hno hv
  obtain ⟨rfl, hE, hP, hX⟩ := hv
  have hx := B.exec
  have hb := B.bytes
  have hr := B.returns
  have hw : ∀ w ∈ gw, w.before _ s = true := fun w h => atoms_spec (ws := ws_TB_needEmptyField) B.pre w (List.mem_cons_of_mem _ h)
  have hown : s.vm.findClass R_TB = some m.cls := findClass_of_methodNamed B.named
  have hlocks := B.notSynchronized
  have hS : va_S (fun _ => False) s.heap s.heap [] := va_S.rf
  have hl := lv_entry ([.ref x0]) (n := 1) (Nat.le_of_ble_eq_true rfl)
  rw [lg_entry_eq]
  generalize (lg_sl ([.ref x0]) ++ List.replicate (1 - (lg_sl ([.ref x0])).length) Slot.unset).toArray = ls at hl ⊢
  have hl : lv_has ls 1 [(0, .ref x0)] := hl
  refine lv_aload_n hx hb d_TB_needEmptyField_0 rfl (lv_at hl 0 rfl) ?_
  refine va_get (D := D) (ci := 0) (v := .ref f0) (C := R_TB) (T := T_TB) (N := 4) hx hb hw in_TB hown hE.1 hP 0 rfl rfl 1 (by decide) (hw _ kw_183) (fun _ h9 => h9) rfl d_TB_needEmptyField_1 ?_
  refine lv_iconst (v := nI 0) hx hb d_TB_needEmptyField_4 (by decide +kernel) ?_
  refine vp_callSi (va_Run.run (va_runV (As := [.int (nI 0)]) (rest := []) ⟨hx, hb, hml, hown, hw⟩ (k_FD_tiles l D cI cJ f0 f1 f2 f3 f4 o1 np ns aw tl 0 (by omega)) (cwV 1 hw (gV kw_199 kw_200 kw_201 kw_42 kw_202) rfl rfl rfl (by decide +kernel) ⟨Nat.le_of_ble_eq_true rfl, Nat.le_of_ble_eq_true rfl⟩) (pre_Vp (wc := [(f0, .inr (2, [.ref o1, .ref f1, .ref f2, .ref f3, .ref f4, .int np, .int ns, .int aw])), (f4, .inl (cI, 61, .inl tl))]) (q0 := 0) hE hX hP hS [1, 2] rfl rfl rfl) rfl rfl hl.1 rfl (lv_room (Nat.le_of_ble_eq_true rfl)) d_TB_needEmptyField_5 ⟨Nat.le_of_ble_eq_true rfl, Nat.le_of_ble_eq_true rfl⟩)) (fun r_1 hr_1 => ?_)
  obtain rfl : tl 0 = r_1 := hr_1.symm
  refine lv_if_le (tgt := 21) hx hb d_TB_needEmptyField_8 (by decide) (fun c_8 => ?_) (fun c_8 => ?_)
  · skip
    refine W.widen (k := 1) (n := 6) (by decide) (by decide) ?_
    refine vx_ret ?_
    exact W.vret hx hb hr (fun t9 ht hW => ⟨rfl, c_8, ht⟩) (fun q h => by cases h) d_TB_needEmptyField_21
  · skip
    obtain ⟨sa, hstr⟩ := hE.2.2.2.1 _ (List.mem_of_getElem? (i := 0) rfl)
    exact vx_throwS (A := (fun _ => False)) hx hb hfl hown (by decide +kernel) (by decide +kernel) (hw _ kw_244) (hw _ kw_49) hstr (at_TB_needEmptyField_11 hw hE) at_TB_needEmptyField_11_ot hX.2.1 hX.2.2 hS (by rw [hml]; exact hl.1) d_TB_needEmptyField_11 d_TB_needEmptyField_14 d_TB_needEmptyField_15 d_TB_needEmptyField_17 d_TB_needEmptyField_20 (fun x hx => (hno x hx).elim) (Nat.le_of_ble_eq_true rfl) (Nat.le_of_ble_eq_true rfl) (Nat.le_of_ble_eq_true rfl) (Nat.le_of_ble_eq_true rfl) hlocks (fun t9 hal h1 h2 => ⟨⟨rfl, c_8⟩, h1, h2⟩) (fun q h => by cases h) (Nat.le_of_ble_eq_true rfl) (Nat.le_of_ble_eq_true rfl)
theorem at_TB_needType_16 {D : va_G} {cI cJ : ClassId} {args : Array Value} {s : State} (hw : ∀ w ∈ gw, w.before args s = true) (hE : En D cI cJ s) : ∀ w ∈ vx_atS "TileBench" 198 "java/lang/IllegalArgumentException" ["java/lang/RuntimeException", "java/lang/Exception"], w.before args s = true :=
  vx_hat (B := [.declares ⟨"java/lang/RuntimeException", "<init>", "(Ljava/lang/String;)V"⟩, .declares ⟨"java/lang/Exception", "<init>", "(Ljava/lang/String;)V"⟩, .declares ⟨"java/lang/Throwable", "<init>", "(Ljava/lang/String;)V"⟩, .castable "java/lang/IllegalArgumentException" "java/lang/IllegalArgumentException"]) (fun w h => hw w ((show ∀ w ∈ (vx_atS "TileBench" 198 "java/lang/IllegalArgumentException" ["java/lang/RuntimeException", "java/lang/Exception"]).filter goodWord, w ∈ gw from by decide +kernel) w h)) (by decide +kernel)
    (vx_c (va_Nw.use rfl (hE.2.2.2.2.1 _ (List.mem_of_getElem? (i := 1) rfl))) (vx_c (va_Nw.use rfl (hE.2.2.2.2.1 _ (List.mem_of_getElem? (i := 3) rfl))) (vx_c (va_Nw.use rfl (hE.2.2.2.2.1 _ (List.mem_of_getElem? (i := 5) rfl))) (vx_c (va_Nw.use rfl (hE.2.2.2.2.2.1 _ (List.mem_of_getElem? (i := 1) rfl))) vx_n))))
theorem at_TB_needType_16_ot : ∀ w ∈ Cond.classLink "TileBench" 194 "java/lang/IllegalArgumentException" :: Cond.initialized "java/lang/IllegalArgumentException" :: vx_atS "TileBench" 198 "java/lang/IllegalArgumentException" ["java/lang/RuntimeException", "java/lang/Exception"], vx_ot w = true := by decide +kernel
set_option maxHeartbeats 4000000 in
set_option maxRecDepth 100000 in
/-- needType -/
theorem k_TB_needType (l : Launch) (hfl : l.stackTraces = false) (D : va_G) (cI cJ : ClassId) (x0 : Nat) (c0 : Nat) (e0 : Nat) (f0 : Nat) (o1 : Nat) (s1 : Nat) (s2 : Nat) (s3 : Nat) (ty : Int32) (wa : Int32) (x : Int32)  : vx_Met l y_TB_needType ws_TB_needType ({ frames := 6, cells := 1, slots := 6, locals := 90 } : Room) (va_Pc [.ref x0, .int x] (Pp D cI cJ [(x0, .inr (0, [.ref o1, .ref f0, .ref c0, .ref e0])), (o1, .inr (1, [.ref s1, .ref s2, .ref s3, .int ty, .int wa]))])) (nd_Q (¬ x < nI 1 ∧ x ≤ ty)) (nd_X (fun E => E = "java/lang/IllegalArgumentException" ∧ (x < nI 1 ∨ ¬ x ≤ ty))) 1 6 (fun _ => False) := by
  refine vx_ofW (cc := c_TB_needType) (maxL := 2) (ret := none) (by decide) rfl ?_
  intro p e s m args below meth c s₁ B hml hno hv
  obtain ⟨rfl, hE, hP, hX⟩ := hv
  have hx := B.exec
  have hb := B.bytes
  have hr := B.returns
  have hw : ∀ w ∈ gw, w.before _ s = true := fun w h => atoms_spec (ws := ws_TB_needType) B.pre w (List.mem_cons_of_mem _ h)
  have hown : s.vm.findClass R_TB = some m.cls := findClass_of_methodNamed B.named
  have hlocks := B.notSynchronized
  have hS : va_S (fun _ => False) s.heap s.heap [] := va_S.rf
  have hl := lv_entry ([.ref x0, .int x]) (n := 2) (Nat.le_of_ble_eq_true rfl)
  rw [lg_entry_eq]
  generalize (lg_sl ([.ref x0, .int x]) ++ List.replicate (2 - (lg_sl ([.ref x0, .int x])).length) Slot.unset).toArray = ls at hl ⊢
  have hl : lv_has ls 2 [(0, .ref x0), (1, .int x)] := hl
  refine lv_iload_n hx hb d_TB_needType_0 rfl (lv_at hl 1 rfl) ?_
  refine lv_iconst (v := nI 1) hx hb d_TB_needType_1 (by decide +kernel) ?_
  refine lv_icmp_lt (tgt := 16) hx hb d_TB_needType_2 (by decide) (fun c_2 => ?_) (fun c_2 => ?_)
  · skip
    obtain ⟨sa, hstr⟩ := hE.2.2.2.1 _ (List.mem_of_getElem? (i := 4) rfl)
    exact vx_throwS (A := (fun _ => False)) hx hb hfl hown (by decide +kernel) (by decide +kernel) (hw _ kw_316) (hw _ kw_50) hstr (at_TB_needType_16 hw hE) at_TB_needType_16_ot hX.2.1 hX.2.2 hS (by rw [hml]; exact hl.1) d_TB_needType_16 d_TB_needType_19 d_TB_needType_20 d_TB_needType_22 d_TB_needType_25 (fun x hx => (hno x hx).elim) (Nat.le_of_ble_eq_true rfl) (Nat.le_of_ble_eq_true rfl) (Nat.le_of_ble_eq_true rfl) (Nat.le_of_ble_eq_true rfl) hlocks (fun t9 hal h1 h2 => ⟨⟨rfl, Or.inl c_2⟩, h1, h2⟩) (fun q h => by cases h) (Nat.le_of_ble_eq_true rfl) (Nat.le_of_ble_eq_true rfl)
  · skip
    refine lv_iload_n hx hb d_TB_needType_5 rfl (lv_at hl 1 rfl) ?_
    refine lv_aload_n hx hb d_TB_needType_6 rfl (lv_at hl 0 rfl) ?_
    refine va_get (D := D) (ci := 0) (v := .ref o1) (C := R_TB) (T := T_TB) (N := 4) hx hb hw in_TB hown hE.1 hP 0 rfl rfl 0 (by decide) (hw _ kw_182) (fun _ h9 => h9) rfl d_TB_needType_7 ?_
    refine vp_callSi (va_Run.run (va_runV (As := []) (rest := [.int x]) ⟨hx, hb, hml, hown, hw⟩ (k_TS_types l D cI cJ o1 s1 s2 s3 ty wa) (cwV 0 hw (gV kw_344 kw_345 kw_346 kw_41 kw_347) rfl rfl rfl (by decide +kernel) ⟨Nat.le_of_ble_eq_true rfl, Nat.le_of_ble_eq_true rfl⟩) (pre_Vp (wc := [(o1, .inr (1, [.ref s1, .ref s2, .ref s3, .int ty, .int wa]))]) (q0 := 0) hE hX hP hS [1] rfl rfl rfl) rfl rfl hl.1 rfl (lv_room (Nat.le_of_ble_eq_true rfl)) d_TB_needType_10 ⟨Nat.le_of_ble_eq_true rfl, Nat.le_of_ble_eq_true rfl⟩)) (fun r_1 hr_1 => ?_)
    obtain rfl : ty = r_1 := hr_1.symm
    refine lv_icmp_le (tgt := 26) hx hb d_TB_needType_13 (by decide) (fun c_13 => ?_) (fun c_13 => ?_)
    · skip
      refine W.widen (k := 1) (n := 6) (by decide) (by decide) ?_
      refine vx_ret ?_
      exact W.vret hx hb hr (fun t9 ht hW => ⟨rfl, ⟨c_2, c_13⟩, ht⟩) (fun q h => by cases h) d_TB_needType_26
    · skip
      obtain ⟨sa, hstr⟩ := hE.2.2.2.1 _ (List.mem_of_getElem? (i := 4) rfl)
      exact vx_throwS (A := (fun _ => False)) hx hb hfl hown (by decide +kernel) (by decide +kernel) (hw _ kw_316) (hw _ kw_50) hstr (at_TB_needType_16 hw hE) at_TB_needType_16_ot hX.2.1 hX.2.2 hS (by rw [hml]; exact hl.1) d_TB_needType_16 d_TB_needType_19 d_TB_needType_20 d_TB_needType_22 d_TB_needType_25 (fun x hx => (hno x hx).elim) (Nat.le_of_ble_eq_true rfl) (Nat.le_of_ble_eq_true rfl) (Nat.le_of_ble_eq_true rfl) (Nat.le_of_ble_eq_true rfl) hlocks (fun t9 hal h1 h2 => ⟨⟨rfl, Or.inr c_13⟩, h1, h2⟩) (fun q h => by cases h) (Nat.le_of_ble_eq_true rfl) (Nat.le_of_ble_eq_true rfl)
