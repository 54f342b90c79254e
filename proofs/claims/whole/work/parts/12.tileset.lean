theorem d_TS_init_0 : decode c_TS_init 0 = .ok (.aload_n 0, 1) := by decide +kernel
theorem d_TS_init_1 : decode c_TS_init 1 = .ok (.invokespecial 3, 3) := by decide +kernel
theorem d_TS_init_4 : decode c_TS_init 4 = .ok (.aload_n 0, 1) := by decide +kernel
theorem d_TS_init_5 : decode c_TS_init 5 = .ok (.bipush 100, 2) := by decide +kernel
theorem d_TS_init_7 : decode c_TS_init 7 = .ok (.newarray .int, 2) := by decide +kernel
theorem d_TS_init_9 : decode c_TS_init 9 = .ok (.putfield 9, 3) := by decide +kernel
theorem d_TS_init_12 : decode c_TS_init 12 = .ok (.aload_n 0, 1) := by decide +kernel
theorem d_TS_init_13 : decode c_TS_init 13 = .ok (.sipush 244, 3) := by decide +kernel
theorem d_TS_init_16 : decode c_TS_init 16 = .ok (.newarray .int, 2) := by decide +kernel
theorem d_TS_init_18 : decode c_TS_init 18 = .ok (.putfield 15, 3) := by decide +kernel
theorem d_TS_init_21 : decode c_TS_init 21 = .ok (.aload_n 0, 1) := by decide +kernel
theorem d_TS_init_22 : decode c_TS_init 22 = .ok (.sipush 400, 3) := by decide +kernel
theorem d_TS_init_25 : decode c_TS_init 25 = .ok (.newarray .long, 2) := by decide +kernel
theorem d_TS_init_27 : decode c_TS_init 27 = .ok (.putfield 18, 3) := by decide +kernel
theorem d_TS_init_30 : decode c_TS_init 30 = .ok (.aload_n 0, 1) := by decide +kernel
theorem d_TS_init_31 : decode c_TS_init 31 = .ok (.iconst 0, 1) := by decide +kernel
theorem d_TS_init_32 : decode c_TS_init 32 = .ok (.putfield 22, 3) := by decide +kernel
theorem d_TS_init_35 : decode c_TS_init 35 = .ok (.aload_n 0, 1) := by decide +kernel
theorem d_TS_init_36 : decode c_TS_init 36 = .ok (.iconst 2, 1) := by decide +kernel
theorem d_TS_init_37 : decode c_TS_init 37 = .ok (.putfield 26, 3) := by decide +kernel
theorem d_TS_init_40 : decode c_TS_init 40 = .ok (.return_, 1) := by decide +kernel
theorem d_TS_restart_0 : decode c_TS_restart 0 = .ok (.aload_n 0, 1) := by decide +kernel
theorem d_TS_restart_1 : decode c_TS_restart 1 = .ok (.getfield 18, 3) := by decide +kernel
theorem d_TS_restart_4 : decode c_TS_restart 4 = .ok (.lconst 0, 1) := by decide +kernel
theorem d_TS_restart_5 : decode c_TS_restart 5 = .ok (.invokestatic 37, 3) := by decide +kernel
theorem d_TS_restart_8 : decode c_TS_restart 8 = .ok (.aload_n 0, 1) := by decide +kernel
theorem d_TS_restart_9 : decode c_TS_restart 9 = .ok (.getfield 9, 3) := by decide +kernel
theorem d_TS_restart_12 : decode c_TS_restart 12 = .ok (.iconst 0, 1) := by decide +kernel
theorem d_TS_restart_13 : decode c_TS_restart 13 = .ok (.invokestatic 43, 3) := by decide +kernel
theorem d_TS_restart_16 : decode c_TS_restart 16 = .ok (.iconst 1, 1) := by decide +kernel
theorem d_TS_restart_17 : decode c_TS_restart 17 = .ok (.istore_n 2, 1) := by decide +kernel
theorem d_TS_restart_18 : decode c_TS_restart 18 = .ok (.iload_n 2, 1) := by decide +kernel
theorem d_TS_restart_19 : decode c_TS_restart 19 = .ok (.iload_n 1, 1) := by decide +kernel
theorem d_TS_restart_20 : decode c_TS_restart 20 = .ok (.if_icmp .gt 16, 3) := by decide +kernel
theorem d_TS_restart_23 : decode c_TS_restart 23 = .ok (.aload_n 0, 1) := by decide +kernel
theorem d_TS_restart_24 : decode c_TS_restart 24 = .ok (.getfield 9, 3) := by decide +kernel
theorem d_TS_restart_27 : decode c_TS_restart 27 = .ok (.iload_n 2, 1) := by decide +kernel
theorem d_TS_restart_28 : decode c_TS_restart 28 = .ok (.iconst 1, 1) := by decide +kernel
theorem d_TS_restart_29 : decode c_TS_restart 29 = .ok (.iastore, 1) := by decide +kernel
theorem d_TS_restart_30 : decode c_TS_restart 30 = .ok (.iinc 2 1, 3) := by decide +kernel
theorem d_TS_restart_33 : decode c_TS_restart 33 = .ok (.goto (-15), 3) := by decide +kernel
theorem d_TS_restart_36 : decode c_TS_restart 36 = .ok (.aload_n 0, 1) := by decide +kernel
theorem d_TS_restart_37 : decode c_TS_restart 37 = .ok (.iconst 0, 1) := by decide +kernel
theorem d_TS_restart_38 : decode c_TS_restart 38 = .ok (.putfield 22, 3) := by decide +kernel
theorem d_TS_restart_41 : decode c_TS_restart 41 = .ok (.aload_n 0, 1) := by decide +kernel
theorem d_TS_restart_42 : decode c_TS_restart 42 = .ok (.iconst 2, 1) := by decide +kernel
theorem d_TS_restart_43 : decode c_TS_restart 43 = .ok (.putfield 26, 3) := by decide +kernel
theorem d_TS_restart_46 : decode c_TS_restart 46 = .ok (.return_, 1) := by decide +kernel
theorem d_TS_addType_0 : decode c_TS_addType 0 = .ok (.aload_n 0, 1) := by decide +kernel
theorem d_TS_addType_1 : decode c_TS_addType 1 = .ok (.dup, 1) := by decide +kernel
theorem d_TS_addType_2 : decode c_TS_addType 2 = .ok (.getfield 22, 3) := by decide +kernel
theorem d_TS_addType_5 : decode c_TS_addType 5 = .ok (.iconst 1, 1) := by decide +kernel
theorem d_TS_addType_6 : decode c_TS_addType 6 = .ok (.iadd, 1) := by decide +kernel
theorem d_TS_addType_7 : decode c_TS_addType 7 = .ok (.putfield 22, 3) := by decide +kernel
theorem d_TS_addType_10 : decode c_TS_addType 10 = .ok (.aload_n 0, 1) := by decide +kernel
theorem d_TS_addType_11 : decode c_TS_addType 11 = .ok (.iconst 0, 1) := by decide +kernel
theorem d_TS_addType_12 : decode c_TS_addType 12 = .ok (.iload_n 1, 1) := by decide +kernel
theorem d_TS_addType_13 : decode c_TS_addType 13 = .ok (.invokevirtual 29, 3) := by decide +kernel
theorem d_TS_addType_16 : decode c_TS_addType 16 = .ok (.aload_n 0, 1) := by decide +kernel
theorem d_TS_addType_17 : decode c_TS_addType 17 = .ok (.iconst 1, 1) := by decide +kernel
theorem d_TS_addType_18 : decode c_TS_addType 18 = .ok (.iload_n 2, 1) := by decide +kernel
theorem d_TS_addType_19 : decode c_TS_addType 19 = .ok (.invokevirtual 29, 3) := by decide +kernel
theorem d_TS_addType_22 : decode c_TS_addType 22 = .ok (.aload_n 0, 1) := by decide +kernel
theorem d_TS_addType_23 : decode c_TS_addType 23 = .ok (.iconst 2, 1) := by decide +kernel
theorem d_TS_addType_24 : decode c_TS_addType 24 = .ok (.iload_n 3, 1) := by decide +kernel
theorem d_TS_addType_25 : decode c_TS_addType 25 = .ok (.invokevirtual 29, 3) := by decide +kernel
theorem d_TS_addType_28 : decode c_TS_addType 28 = .ok (.aload_n 0, 1) := by decide +kernel
theorem d_TS_addType_29 : decode c_TS_addType 29 = .ok (.iconst 3, 1) := by decide +kernel
theorem d_TS_addType_30 : decode c_TS_addType 30 = .ok (.iload 4, 2) := by decide +kernel
theorem d_TS_addType_32 : decode c_TS_addType 32 = .ok (.invokevirtual 29, 3) := by decide +kernel
theorem d_TS_addType_35 : decode c_TS_addType 35 = .ok (.aload_n 0, 1) := by decide +kernel
theorem d_TS_addType_36 : decode c_TS_addType 36 = .ok (.getfield 22, 3) := by decide +kernel
theorem d_TS_addType_39 : decode c_TS_addType 39 = .ok (.ireturn, 1) := by decide +kernel
theorem d_TS_beginRows_0 : decode c_TS_beginRows 0 = .ok (.aload_n 0, 1) := by decide +kernel
theorem d_TS_beginRows_1 : decode c_TS_beginRows 1 = .ok (.iconst 4, 1) := by decide +kernel
theorem d_TS_beginRows_2 : decode c_TS_beginRows 2 = .ok (.invokevirtual 46, 3) := by decide +kernel
theorem d_TS_beginRows_5 : decode c_TS_beginRows 5 = .ok (.aload_n 0, 1) := by decide +kernel
theorem d_TS_beginRows_6 : decode c_TS_beginRows 6 = .ok (.iconst 1, 1) := by decide +kernel
theorem d_TS_beginRows_7 : decode c_TS_beginRows 7 = .ok (.iconst 0, 1) := by decide +kernel
theorem d_TS_beginRows_8 : decode c_TS_beginRows 8 = .ok (.iconst 0, 1) := by decide +kernel
theorem d_TS_beginRows_9 : decode c_TS_beginRows 9 = .ok (.iconst 0, 1) := by decide +kernel
theorem d_TS_beginRows_10 : decode c_TS_beginRows 10 = .ok (.invokevirtual 50, 3) := by decide +kernel
theorem d_TS_beginRows_13 : decode c_TS_beginRows 13 = .ok (.pop, 1) := by decide +kernel
theorem d_TS_beginRows_14 : decode c_TS_beginRows 14 = .ok (.aload_n 0, 1) := by decide +kernel
theorem d_TS_beginRows_15 : decode c_TS_beginRows 15 = .ok (.iconst 2, 1) := by decide +kernel
theorem d_TS_beginRows_16 : decode c_TS_beginRows 16 = .ok (.iconst 0, 1) := by decide +kernel
theorem d_TS_beginRows_17 : decode c_TS_beginRows 17 = .ok (.iconst 0, 1) := by decide +kernel
theorem d_TS_beginRows_18 : decode c_TS_beginRows 18 = .ok (.iconst 0, 1) := by decide +kernel
theorem d_TS_beginRows_19 : decode c_TS_beginRows 19 = .ok (.invokevirtual 50, 3) := by decide +kernel
theorem d_TS_beginRows_22 : decode c_TS_beginRows 22 = .ok (.pop, 1) := by decide +kernel
theorem d_TS_beginRows_23 : decode c_TS_beginRows 23 = .ok (.aload_n 0, 1) := by decide +kernel
theorem d_TS_beginRows_24 : decode c_TS_beginRows 24 = .ok (.iconst 0, 1) := by decide +kernel
theorem d_TS_beginRows_25 : decode c_TS_beginRows 25 = .ok (.iload_n 1, 1) := by decide +kernel
theorem d_TS_beginRows_26 : decode c_TS_beginRows 26 = .ok (.iconst 0, 1) := by decide +kernel
theorem d_TS_beginRows_27 : decode c_TS_beginRows 27 = .ok (.iload_n 2, 1) := by decide +kernel
theorem d_TS_beginRows_28 : decode c_TS_beginRows 28 = .ok (.invokevirtual 50, 3) := by decide +kernel
theorem d_TS_beginRows_31 : decode c_TS_beginRows 31 = .ok (.pop, 1) := by decide +kernel
theorem d_TS_beginRows_32 : decode c_TS_beginRows 32 = .ok (.return_, 1) := by decide +kernel
def adS (sd : Nat → Int32) (t a b c d : Nat) : Nat → Int32 := upd (upd (upd (upd sd (t * 4 + 0) (nI a)) (t * 4 + 1) (nI b)) (t * 4 + 2) (nI c)) (t * 4 + 3) (nI d)
def psB (be : Nat → Int64) (t a b : Nat) : Nat → Int64 := vp_updL be (b * 4 + a) (be (b * 4 + a) ||| (1 <<< ((nI t - nI 1).toInt64 &&& 63)))
def adB (be : Nat → Int64) (t a b c d : Nat) : Nat → Int64 := psB (psB (psB (psB be t 0 a) t 1 b) t 2 c) t 3 d
/-- the glues 1 up to g (below) have strength 1 -/
def rsF (f : Nat → Int32) (g : Nat) : Nat → Int32 := fun k => if 1 ≤ k ∧ k < g then nI 1 else f k
theorem rsF_one (f : Nat → Int32) : rsF f 1 = f := by
  funext k
  unfold rsF
  rw [if_neg (by omega)]
theorem rsF_succ (f : Nat → Int32) {g : Nat} (h : 1 ≤ g) : upd (rsF f g) g (nI 1) = rsF f (g + 1) := by
  funext k
  unfold upd rsF
  by_cases e : k = g
  · subst e; rw [if_pos rfl, if_pos (by omega)]
  · rw [if_neg e]
    by_cases h2 : 1 ≤ k ∧ k < g
    · rw [if_pos h2, if_pos (by omega)]
    · rw [if_neg h2, if_neg (by omega)]
set_option maxHeartbeats 4000000 in
set_option maxRecDepth 100000 in
/-- addType -/
theorem k_TS_addType (l : Launch) (D : va_G) (cI cJ : ClassId) (o1 : Nat) (s1 : Nat) (s2 : Nat) (s3 : Nat) (wa : Int32) (t : Nat) (sd : Nat → Int32) (be : Nat → Int64) (a : Nat) (b : Nat) (c9 : Nat) (d9 : Nat) (sz : Nat) (ht : t < 60) (ha : a < 100) (hb9 : b < 100) (hc9 : c9 < 100) (hd9 : d9 < 100) : Met l y_TS_addType ws_TS_addType ({ frames := 2, cells := 0, slots := 0, locals := 42 } : Room) (va_Pc [.ref o1, .int (nI a), .int (nI b), .int (nI c9), .int (nI d9)] (Pw D cI cJ [(o1, .inr (1, [.ref s1, .ref s2, .ref s3, .int (nI t), .int wa])), (s2, .inl (cI, 244, .inl sd)), (s3, .inl (cJ, 400, .inr (.inl be)))] sz)) (va_Qi (fun (r : Int32) (_u : Unit) => r = nI (t + 1)) (fun _u t9 => Bw D (va_A [(o1, .inr (1, [.ref s1, .ref s2, .ref s3, .int (nI t), .int wa])), (s2, .inl (cI, 244, .inl sd)), (s3, .inl (cJ, 400, .inr (.inl be)))] sz) [(o1, .inr (1, [.ref s1, .ref s2, .ref s3, .int (nI (t + 1)), .int wa])), (s2, .inl (cI, 244, .inl (adS sd (t + 1) a b c9 d9))), (s3, .inl (cJ, 400, .inr (.inl (adB be (t + 1) a b c9 d9))))] t9) (va_A [(o1, .inr (1, [.ref s1, .ref s2, .ref s3, .int (nI t), .int wa])), (s2, .inl (cI, 244, .inl sd)), (s3, .inl (cJ, 400, .inr (.inl be)))] sz)) 0 0 (va_A [(o1, .inr (1, [.ref s1, .ref s2, .ref s3, .int (nI t), .int wa])), (s2, .inl (cI, 244, .inl sd)), (s3, .inl (cJ, 400, .inr (.inl be)))] sz) := by
  refine Met.ofW (cc := c_TS_addType) (maxL := 5) (ret := (some .int)) (by decide) rfl ?_
  intro p e s m args below meth c s₁ B hml hv
  obtain ⟨rfl, hsz, hE, hP, hD0, hX⟩ := hv
  have hx := B.exec
  have hb := B.bytes
  have hr := B.returns
  have hw : ∀ w ∈ gw, w.before _ s = true := fun w h => atoms_spec (ws := ws_TS_addType) B.pre w (List.mem_cons_of_mem _ h)
  have hown : s.vm.findClass R_TS = some m.cls := findClass_of_methodNamed B.named
  have hlocks := B.notSynchronized
  subst hsz
  have hD := hD0.self (sz := s.heap.size)
  generalize hAe : va_A [(o1, .inr (1, [.ref s1, .ref s2, .ref s3, .int (nI t), .int wa])), (s2, .inl (cI, 244, .inl sd)), (s3, .inl (cJ, 400, .inr (.inl be)))] s.heap.size = A at hD hX ⊢
  have hA : ∀ q : Nat, s.heap.size ≤ q → A q := fun q h => by rw [← hAe]; exact Or.inr h
  have hS : va_S A s.heap s.heap [] := va_S.rf
  have hP : va_P D vwCl [(o1, .inr (1, [.ref s1, .ref s2, .ref s3, .int (nI t), .int wa])), (s2, .inl (cI, 244, .inl sd)), (s3, .inl (cJ, 400, .inr (.inl be)))] s.heap := hP
  have hl := lv_entry ([.ref o1, .int (nI a), .int (nI b), .int (nI c9), .int (nI d9)]) (n := 5) (Nat.le_of_ble_eq_true rfl)
  rw [lg_entry_eq]
  generalize (lg_sl ([.ref o1, .int (nI a), .int (nI b), .int (nI c9), .int (nI d9)]) ++ List.replicate (5 - (lg_sl ([.ref o1, .int (nI a), .int (nI b), .int (nI c9), .int (nI d9)])).length) Slot.unset).toArray = ls at hl ⊢
  have hl : lv_has ls 5 [(0, .ref o1), (1, .int (nI a)), (2, .int (nI b)), (3, .int (nI c9)), (4, .int (nI d9))] := hl
  refine lv_aload_n hx hb d_TS_addType_0 rfl (lv_at hl 0 rfl) ?_
  refine lv_dup hx hb d_TS_addType_1 rfl ?_
  refine va_get (D := D) (ci := 1) (v := .int (nI t)) (C := R_TS) (T := T_TS) (N := 5) hx hb hw in_TS hown hE.1 hP 0 rfl rfl 3 (by decide) (hw _ kw_74) (fun _ h9 => h9) rfl d_TS_addType_2 ?_
  refine lv_iconst (v := nI 1) hx hb d_TS_addType_5 (by decide +kernel) ?_
  refine jn_iadd (a := t) (b := 1) hx hb d_TS_addType_6 ?_
  refine va_put (D := D) (ci := 1) (v := .int (nI (t + 1))) (ty := .int) (C := R_TS) (T := T_TS) (N := 5) hx hb hw in_TS ty_TS ty_TS_ok nm_TS_ok hown hE.1 hP hD hS 0 rfl rfl 3 (by decide) (hw _ kw_74) (fun _ h9 => h9) rfl (by decide +kernel) rfl rfl (Nat.le_of_ble_eq_true rfl) d_TS_addType_7 (fun H locs hP hD hS => ?_)
  have hP : va_P D vwCl [(o1, .inr (1, [.ref s1, .ref s2, .ref s3, .int (nI (t + 1)), .int wa])), (s2, .inl (cI, 244, .inl sd)), (s3, .inl (cJ, 400, .inr (.inl be)))] H := hP
  have hD : va_D A [(o1, .inr (1, [.ref s1, .ref s2, .ref s3, .int (nI (t + 1)), .int wa])), (s2, .inl (cI, 244, .inl sd)), (s3, .inl (cJ, 400, .inr (.inl be)))] := hD
  refine lv_aload_n hx hb d_TS_addType_10 rfl (lv_at hl 0 rfl) ?_
  refine lv_iconst (v := nI 0) hx hb d_TS_addType_11 (by decide +kernel) ?_
  refine lv_iload_n hx hb d_TS_addType_12 rfl (lv_at hl 1 rfl) ?_
  refine cl_v (wr := []) (va_runV (As := [.int (nI 0), .int (nI a)]) (rest := []) ⟨hx, hb, hml, hown, hw⟩ (k_TS_putSide l D cI cJ o1 s1 s2 s3 wa (t + 1) sd be 0 a _ (by omega) (by omega)) (cwV 2 hw (gV kw_368 kw_370 kw_2 kw_41 kw_371) rfl rfl rfl (by decide +kernel) ⟨Nat.le_of_ble_eq_true rfl, Nat.le_of_ble_eq_true rfl⟩) (pre_Vw (wc := [(o1, .inr (1, [.ref s1, .ref s2, .ref s3, .int (nI (t + 1)), .int wa])), (s2, .inl (cI, 244, .inl sd)), (s3, .inl (cJ, 400, .inr (.inl be)))]) (q0 := 0) hE hX hA hP hD hS [0, 1, 2] (by decide) rfl rfl rfl rfl) rfl rfl hl.1 rfl (lv_room (Nat.le_of_ble_eq_true rfl)) d_TS_addType_13 ⟨Nat.le_of_ble_eq_true rfl, Nat.le_of_ble_eq_true rfl⟩) hP hD hS hA [0, 1, 2] [] rfl rfl (by decide) (by decide) (fun u_r_1 H locs hr_1 hP hD hS => ?_)
  have hP : va_P D vwCl [(o1, .inr (1, [.ref s1, .ref s2, .ref s3, .int (nI (t + 1)), .int wa])), (s2, .inl (cI, 244, .inl (upd sd ((t + 1) * 4 + 0) (nI a)))), (s3, .inl (cJ, 400, .inr (.inl (vp_updL be (a * 4 + 0) (be (a * 4 + 0) ||| (1 <<< ((nI (t + 1) - nI 1).toInt64 &&& 63)))))))] H := hP
  have hD : va_D A [(o1, .inr (1, [.ref s1, .ref s2, .ref s3, .int (nI (t + 1)), .int wa])), (s2, .inl (cI, 244, .inl (upd sd ((t + 1) * 4 + 0) (nI a)))), (s3, .inl (cJ, 400, .inr (.inl (vp_updL be (a * 4 + 0) (be (a * 4 + 0) ||| (1 <<< ((nI (t + 1) - nI 1).toInt64 &&& 63)))))))] := hD
  refine lv_aload_n hx hb d_TS_addType_16 rfl (lv_at hl 0 rfl) ?_
  refine lv_iconst (v := nI 1) hx hb d_TS_addType_17 (by decide +kernel) ?_
  refine lv_iload_n hx hb d_TS_addType_18 rfl (lv_at hl 2 rfl) ?_
  refine cl_v (wr := []) (va_runV (As := [.int (nI 1), .int (nI b)]) (rest := []) ⟨hx, hb, hml, hown, hw⟩ (k_TS_putSide l D cI cJ o1 s1 s2 s3 wa (t + 1) (upd sd ((t + 1) * 4 + 0) (nI a)) (vp_updL be (a * 4 + 0) (be (a * 4 + 0) ||| (1 <<< ((nI (t + 1) - nI 1).toInt64 &&& 63)))) 1 b _ (by omega) (by omega)) (cwV 2 hw (gV kw_368 kw_370 kw_2 kw_41 kw_371) rfl rfl rfl (by decide +kernel) ⟨Nat.le_of_ble_eq_true rfl, Nat.le_of_ble_eq_true rfl⟩) (pre_Vw (wc := [(o1, .inr (1, [.ref s1, .ref s2, .ref s3, .int (nI (t + 1)), .int wa])), (s2, .inl (cI, 244, .inl (upd sd ((t + 1) * 4 + 0) (nI a)))), (s3, .inl (cJ, 400, .inr (.inl (vp_updL be (a * 4 + 0) (be (a * 4 + 0) ||| (1 <<< ((nI (t + 1) - nI 1).toInt64 &&& 63)))))))]) (q0 := 0) hE hX hA hP hD hS [0, 1, 2] (by decide) rfl rfl rfl rfl) rfl rfl hl.1 rfl (lv_room (Nat.le_of_ble_eq_true rfl)) d_TS_addType_19 ⟨Nat.le_of_ble_eq_true rfl, Nat.le_of_ble_eq_true rfl⟩) hP hD hS hA [0, 1, 2] [] rfl rfl (by decide) (by decide) (fun u_r_2 H locs hr_2 hP hD hS => ?_)
  have hP : va_P D vwCl [(o1, .inr (1, [.ref s1, .ref s2, .ref s3, .int (nI (t + 1)), .int wa])), (s2, .inl (cI, 244, .inl (upd (upd sd ((t + 1) * 4 + 0) (nI a)) ((t + 1) * 4 + 1) (nI b)))), (s3, .inl (cJ, 400, .inr (.inl (vp_updL (vp_updL be (a * 4 + 0) (be (a * 4 + 0) ||| (1 <<< ((nI (t + 1) - nI 1).toInt64 &&& 63)))) (b * 4 + 1) ((vp_updL be (a * 4 + 0) (be (a * 4 + 0) ||| (1 <<< ((nI (t + 1) - nI 1).toInt64 &&& 63)))) (b * 4 + 1) ||| (1 <<< ((nI (t + 1) - nI 1).toInt64 &&& 63)))))))] H := hP
  have hD : va_D A [(o1, .inr (1, [.ref s1, .ref s2, .ref s3, .int (nI (t + 1)), .int wa])), (s2, .inl (cI, 244, .inl (upd (upd sd ((t + 1) * 4 + 0) (nI a)) ((t + 1) * 4 + 1) (nI b)))), (s3, .inl (cJ, 400, .inr (.inl (vp_updL (vp_updL be (a * 4 + 0) (be (a * 4 + 0) ||| (1 <<< ((nI (t + 1) - nI 1).toInt64 &&& 63)))) (b * 4 + 1) ((vp_updL be (a * 4 + 0) (be (a * 4 + 0) ||| (1 <<< ((nI (t + 1) - nI 1).toInt64 &&& 63)))) (b * 4 + 1) ||| (1 <<< ((nI (t + 1) - nI 1).toInt64 &&& 63)))))))] := hD
  refine lv_aload_n hx hb d_TS_addType_22 rfl (lv_at hl 0 rfl) ?_
  refine lv_iconst (v := nI 2) hx hb d_TS_addType_23 (by decide +kernel) ?_
  refine lv_iload_n hx hb d_TS_addType_24 rfl (lv_at hl 3 rfl) ?_
  refine cl_v (wr := []) (va_runV (As := [.int (nI 2), .int (nI c9)]) (rest := []) ⟨hx, hb, hml, hown, hw⟩ (k_TS_putSide l D cI cJ o1 s1 s2 s3 wa (t + 1) (upd (upd sd ((t + 1) * 4 + 0) (nI a)) ((t + 1) * 4 + 1) (nI b)) (vp_updL (vp_updL be (a * 4 + 0) (be (a * 4 + 0) ||| (1 <<< ((nI (t + 1) - nI 1).toInt64 &&& 63)))) (b * 4 + 1) ((vp_updL be (a * 4 + 0) (be (a * 4 + 0) ||| (1 <<< ((nI (t + 1) - nI 1).toInt64 &&& 63)))) (b * 4 + 1) ||| (1 <<< ((nI (t + 1) - nI 1).toInt64 &&& 63)))) 2 c9 _ (by omega) (by omega)) (cwV 2 hw (gV kw_368 kw_370 kw_2 kw_41 kw_371) rfl rfl rfl (by decide +kernel) ⟨Nat.le_of_ble_eq_true rfl, Nat.le_of_ble_eq_true rfl⟩) (pre_Vw (wc := [(o1, .inr (1, [.ref s1, .ref s2, .ref s3, .int (nI (t + 1)), .int wa])), (s2, .inl (cI, 244, .inl (upd (upd sd ((t + 1) * 4 + 0) (nI a)) ((t + 1) * 4 + 1) (nI b)))), (s3, .inl (cJ, 400, .inr (.inl (vp_updL (vp_updL be (a * 4 + 0) (be (a * 4 + 0) ||| (1 <<< ((nI (t + 1) - nI 1).toInt64 &&& 63)))) (b * 4 + 1) ((vp_updL be (a * 4 + 0) (be (a * 4 + 0) ||| (1 <<< ((nI (t + 1) - nI 1).toInt64 &&& 63)))) (b * 4 + 1) ||| (1 <<< ((nI (t + 1) - nI 1).toInt64 &&& 63)))))))]) (q0 := 0) hE hX hA hP hD hS [0, 1, 2] (by decide) rfl rfl rfl rfl) rfl rfl hl.1 rfl (lv_room (Nat.le_of_ble_eq_true rfl)) d_TS_addType_25 ⟨Nat.le_of_ble_eq_true rfl, Nat.le_of_ble_eq_true rfl⟩) hP hD hS hA [0, 1, 2] [] rfl rfl (by decide) (by decide) (fun u_r_3 H locs hr_3 hP hD hS => ?_)
  have hP : va_P D vwCl [(o1, .inr (1, [.ref s1, .ref s2, .ref s3, .int (nI (t + 1)), .int wa])), (s2, .inl (cI, 244, .inl (upd (upd (upd sd ((t + 1) * 4 + 0) (nI a)) ((t + 1) * 4 + 1) (nI b)) ((t + 1) * 4 + 2) (nI c9)))), (s3, .inl (cJ, 400, .inr (.inl (vp_updL (vp_updL (vp_updL be (a * 4 + 0) (be (a * 4 + 0) ||| (1 <<< ((nI (t + 1) - nI 1).toInt64 &&& 63)))) (b * 4 + 1) ((vp_updL be (a * 4 + 0) (be (a * 4 + 0) ||| (1 <<< ((nI (t + 1) - nI 1).toInt64 &&& 63)))) (b * 4 + 1) ||| (1 <<< ((nI (t + 1) - nI 1).toInt64 &&& 63)))) (c9 * 4 + 2) ((vp_updL (vp_updL be (a * 4 + 0) (be (a * 4 + 0) ||| (1 <<< ((nI (t + 1) - nI 1).toInt64 &&& 63)))) (b * 4 + 1) ((vp_updL be (a * 4 + 0) (be (a * 4 + 0) ||| (1 <<< ((nI (t + 1) - nI 1).toInt64 &&& 63)))) (b * 4 + 1) ||| (1 <<< ((nI (t + 1) - nI 1).toInt64 &&& 63)))) (c9 * 4 + 2) ||| (1 <<< ((nI (t + 1) - nI 1).toInt64 &&& 63)))))))] H := hP
  have hD : va_D A [(o1, .inr (1, [.ref s1, .ref s2, .ref s3, .int (nI (t + 1)), .int wa])), (s2, .inl (cI, 244, .inl (upd (upd (upd sd ((t + 1) * 4 + 0) (nI a)) ((t + 1) * 4 + 1) (nI b)) ((t + 1) * 4 + 2) (nI c9)))), (s3, .inl (cJ, 400, .inr (.inl (vp_updL (vp_updL (vp_updL be (a * 4 + 0) (be (a * 4 + 0) ||| (1 <<< ((nI (t + 1) - nI 1).toInt64 &&& 63)))) (b * 4 + 1) ((vp_updL be (a * 4 + 0) (be (a * 4 + 0) ||| (1 <<< ((nI (t + 1) - nI 1).toInt64 &&& 63)))) (b * 4 + 1) ||| (1 <<< ((nI (t + 1) - nI 1).toInt64 &&& 63)))) (c9 * 4 + 2) ((vp_updL (vp_updL be (a * 4 + 0) (be (a * 4 + 0) ||| (1 <<< ((nI (t + 1) - nI 1).toInt64 &&& 63)))) (b * 4 + 1) ((vp_updL be (a * 4 + 0) (be (a * 4 + 0) ||| (1 <<< ((nI (t + 1) - nI 1).toInt64 &&& 63)))) (b * 4 + 1) ||| (1 <<< ((nI (t + 1) - nI 1).toInt64 &&& 63)))) (c9 * 4 + 2) ||| (1 <<< ((nI (t + 1) - nI 1).toInt64 &&& 63)))))))] := hD
  refine lv_aload_n hx hb d_TS_addType_28 rfl (lv_at hl 0 rfl) ?_
  refine lv_iconst (v := nI 3) hx hb d_TS_addType_29 (by decide +kernel) ?_
  refine lv_iload hx hb d_TS_addType_30 (lv_at hl 4 rfl) ?_
  refine cl_v (wr := []) (va_runV (As := [.int (nI 3), .int (nI d9)]) (rest := []) ⟨hx, hb, hml, hown, hw⟩ (k_TS_putSide l D cI cJ o1 s1 s2 s3 wa (t + 1) (upd (upd (upd sd ((t + 1) * 4 + 0) (nI a)) ((t + 1) * 4 + 1) (nI b)) ((t + 1) * 4 + 2) (nI c9)) (vp_updL (vp_updL (vp_updL be (a * 4 + 0) (be (a * 4 + 0) ||| (1 <<< ((nI (t + 1) - nI 1).toInt64 &&& 63)))) (b * 4 + 1) ((vp_updL be (a * 4 + 0) (be (a * 4 + 0) ||| (1 <<< ((nI (t + 1) - nI 1).toInt64 &&& 63)))) (b * 4 + 1) ||| (1 <<< ((nI (t + 1) - nI 1).toInt64 &&& 63)))) (c9 * 4 + 2) ((vp_updL (vp_updL be (a * 4 + 0) (be (a * 4 + 0) ||| (1 <<< ((nI (t + 1) - nI 1).toInt64 &&& 63)))) (b * 4 + 1) ((vp_updL be (a * 4 + 0) (be (a * 4 + 0) ||| (1 <<< ((nI (t + 1) - nI 1).toInt64 &&& 63)))) (b * 4 + 1) ||| (1 <<< ((nI (t + 1) - nI 1).toInt64 &&& 63)))) (c9 * 4 + 2) ||| (1 <<< ((nI (t + 1) - nI 1).toInt64 &&& 63)))) 3 d9 _ (by omega) (by omega)) (cwV 2 hw (gV kw_368 kw_370 kw_2 kw_41 kw_371) rfl rfl rfl (by decide +kernel) ⟨Nat.le_of_ble_eq_true rfl, Nat.le_of_ble_eq_true rfl⟩) (pre_Vw (wc := [(o1, .inr (1, [.ref s1, .ref s2, .ref s3, .int (nI (t + 1)), .int wa])), (s2, .inl (cI, 244, .inl (upd (upd (upd sd ((t + 1) * 4 + 0) (nI a)) ((t + 1) * 4 + 1) (nI b)) ((t + 1) * 4 + 2) (nI c9)))), (s3, .inl (cJ, 400, .inr (.inl (vp_updL (vp_updL (vp_updL be (a * 4 + 0) (be (a * 4 + 0) ||| (1 <<< ((nI (t + 1) - nI 1).toInt64 &&& 63)))) (b * 4 + 1) ((vp_updL be (a * 4 + 0) (be (a * 4 + 0) ||| (1 <<< ((nI (t + 1) - nI 1).toInt64 &&& 63)))) (b * 4 + 1) ||| (1 <<< ((nI (t + 1) - nI 1).toInt64 &&& 63)))) (c9 * 4 + 2) ((vp_updL (vp_updL be (a * 4 + 0) (be (a * 4 + 0) ||| (1 <<< ((nI (t + 1) - nI 1).toInt64 &&& 63)))) (b * 4 + 1) ((vp_updL be (a * 4 + 0) (be (a * 4 + 0) ||| (1 <<< ((nI (t + 1) - nI 1).toInt64 &&& 63)))) (b * 4 + 1) ||| (1 <<< ((nI (t + 1) - nI 1).toInt64 &&& 63)))) (c9 * 4 + 2) ||| (1 <<< ((nI (t + 1) - nI 1).toInt64 &&& 63)))))))]) (q0 := 0) hE hX hA hP hD hS [0, 1, 2] (by decide) rfl rfl rfl rfl) rfl rfl hl.1 rfl (lv_room (Nat.le_of_ble_eq_true rfl)) d_TS_addType_32 ⟨Nat.le_of_ble_eq_true rfl, Nat.le_of_ble_eq_true rfl⟩) hP hD hS hA [0, 1, 2] [] rfl rfl (by decide) (by decide) (fun u_r_4 H locs hr_4 hP hD hS => ?_)
  have hP : va_P D vwCl [(o1, .inr (1, [.ref s1, .ref s2, .ref s3, .int (nI (t + 1)), .int wa])), (s2, .inl (cI, 244, .inl (upd (upd (upd (upd sd ((t + 1) * 4 + 0) (nI a)) ((t + 1) * 4 + 1) (nI b)) ((t + 1) * 4 + 2) (nI c9)) ((t + 1) * 4 + 3) (nI d9)))), (s3, .inl (cJ, 400, .inr (.inl (vp_updL (vp_updL (vp_updL (vp_updL be (a * 4 + 0) (be (a * 4 + 0) ||| (1 <<< ((nI (t + 1) - nI 1).toInt64 &&& 63)))) (b * 4 + 1) ((vp_updL be (a * 4 + 0) (be (a * 4 + 0) ||| (1 <<< ((nI (t + 1) - nI 1).toInt64 &&& 63)))) (b * 4 + 1) ||| (1 <<< ((nI (t + 1) - nI 1).toInt64 &&& 63)))) (c9 * 4 + 2) ((vp_updL (vp_updL be (a * 4 + 0) (be (a * 4 + 0) ||| (1 <<< ((nI (t + 1) - nI 1).toInt64 &&& 63)))) (b * 4 + 1) ((vp_updL be (a * 4 + 0) (be (a * 4 + 0) ||| (1 <<< ((nI (t + 1) - nI 1).toInt64 &&& 63)))) (b * 4 + 1) ||| (1 <<< ((nI (t + 1) - nI 1).toInt64 &&& 63)))) (c9 * 4 + 2) ||| (1 <<< ((nI (t + 1) - nI 1).toInt64 &&& 63)))) (d9 * 4 + 3) ((vp_updL (vp_updL (vp_updL be (a * 4 + 0) (be (a * 4 + 0) ||| (1 <<< ((nI (t + 1) - nI 1).toInt64 &&& 63)))) (b * 4 + 1) ((vp_updL be (a * 4 + 0) (be (a * 4 + 0) ||| (1 <<< ((nI (t + 1) - nI 1).toInt64 &&& 63)))) (b * 4 + 1) ||| (1 <<< ((nI (t + 1) - nI 1).toInt64 &&& 63)))) (c9 * 4 + 2) ((vp_updL (vp_updL be (a * 4 + 0) (be (a * 4 + 0) ||| (1 <<< ((nI (t + 1) - nI 1).toInt64 &&& 63)))) (b * 4 + 1) ((vp_updL be (a * 4 + 0) (be (a * 4 + 0) ||| (1 <<< ((nI (t + 1) - nI 1).toInt64 &&& 63)))) (b * 4 + 1) ||| (1 <<< ((nI (t + 1) - nI 1).toInt64 &&& 63)))) (c9 * 4 + 2) ||| (1 <<< ((nI (t + 1) - nI 1).toInt64 &&& 63)))) (d9 * 4 + 3) ||| (1 <<< ((nI (t + 1) - nI 1).toInt64 &&& 63)))))))] H := hP
  have hD : va_D A [(o1, .inr (1, [.ref s1, .ref s2, .ref s3, .int (nI (t + 1)), .int wa])), (s2, .inl (cI, 244, .inl (upd (upd (upd (upd sd ((t + 1) * 4 + 0) (nI a)) ((t + 1) * 4 + 1) (nI b)) ((t + 1) * 4 + 2) (nI c9)) ((t + 1) * 4 + 3) (nI d9)))), (s3, .inl (cJ, 400, .inr (.inl (vp_updL (vp_updL (vp_updL (vp_updL be (a * 4 + 0) (be (a * 4 + 0) ||| (1 <<< ((nI (t + 1) - nI 1).toInt64 &&& 63)))) (b * 4 + 1) ((vp_updL be (a * 4 + 0) (be (a * 4 + 0) ||| (1 <<< ((nI (t + 1) - nI 1).toInt64 &&& 63)))) (b * 4 + 1) ||| (1 <<< ((nI (t + 1) - nI 1).toInt64 &&& 63)))) (c9 * 4 + 2) ((vp_updL (vp_updL be (a * 4 + 0) (be (a * 4 + 0) ||| (1 <<< ((nI (t + 1) - nI 1).toInt64 &&& 63)))) (b * 4 + 1) ((vp_updL be (a * 4 + 0) (be (a * 4 + 0) ||| (1 <<< ((nI (t + 1) - nI 1).toInt64 &&& 63)))) (b * 4 + 1) ||| (1 <<< ((nI (t + 1) - nI 1).toInt64 &&& 63)))) (c9 * 4 + 2) ||| (1 <<< ((nI (t + 1) - nI 1).toInt64 &&& 63)))) (d9 * 4 + 3) ((vp_updL (vp_updL (vp_updL be (a * 4 + 0) (be (a * 4 + 0) ||| (1 <<< ((nI (t + 1) - nI 1).toInt64 &&& 63)))) (b * 4 + 1) ((vp_updL be (a * 4 + 0) (be (a * 4 + 0) ||| (1 <<< ((nI (t + 1) - nI 1).toInt64 &&& 63)))) (b * 4 + 1) ||| (1 <<< ((nI (t + 1) - nI 1).toInt64 &&& 63)))) (c9 * 4 + 2) ((vp_updL (vp_updL be (a * 4 + 0) (be (a * 4 + 0) ||| (1 <<< ((nI (t + 1) - nI 1).toInt64 &&& 63)))) (b * 4 + 1) ((vp_updL be (a * 4 + 0) (be (a * 4 + 0) ||| (1 <<< ((nI (t + 1) - nI 1).toInt64 &&& 63)))) (b * 4 + 1) ||| (1 <<< ((nI (t + 1) - nI 1).toInt64 &&& 63)))) (c9 * 4 + 2) ||| (1 <<< ((nI (t + 1) - nI 1).toInt64 &&& 63)))) (d9 * 4 + 3) ||| (1 <<< ((nI (t + 1) - nI 1).toInt64 &&& 63)))))))] := hD
  refine lv_aload_n hx hb d_TS_addType_35 rfl (lv_at hl 0 rfl) ?_
  refine va_get (D := D) (ci := 1) (v := .int (nI (t + 1))) (C := R_TS) (T := T_TS) (N := 5) hx hb hw in_TS hown hE.1 hP 0 rfl rfl 3 (by decide) (hw _ kw_74) (fun _ h9 => h9) rfl d_TS_addType_36 ?_
  have hP9 := hP.sub (ws' := [(o1, .inr (1, [.ref s1, .ref s2, .ref s3, .int (nI (t + 1)), .int wa])), (s2, .inl (cI, 244, .inl (upd (upd (upd (upd sd ((t + 1) * 4 + 0) (nI a)) ((t + 1) * 4 + 1) (nI b)) ((t + 1) * 4 + 2) (nI c9)) ((t + 1) * 4 + 3) (nI d9)))), (s3, .inl (cJ, 400, .inr (.inl (vp_updL (vp_updL (vp_updL (vp_updL be (a * 4 + 0) (be (a * 4 + 0) ||| (1 <<< ((nI (t + 1) - nI 1).toInt64 &&& 63)))) (b * 4 + 1) ((vp_updL be (a * 4 + 0) (be (a * 4 + 0) ||| (1 <<< ((nI (t + 1) - nI 1).toInt64 &&& 63)))) (b * 4 + 1) ||| (1 <<< ((nI (t + 1) - nI 1).toInt64 &&& 63)))) (c9 * 4 + 2) ((vp_updL (vp_updL be (a * 4 + 0) (be (a * 4 + 0) ||| (1 <<< ((nI (t + 1) - nI 1).toInt64 &&& 63)))) (b * 4 + 1) ((vp_updL be (a * 4 + 0) (be (a * 4 + 0) ||| (1 <<< ((nI (t + 1) - nI 1).toInt64 &&& 63)))) (b * 4 + 1) ||| (1 <<< ((nI (t + 1) - nI 1).toInt64 &&& 63)))) (c9 * 4 + 2) ||| (1 <<< ((nI (t + 1) - nI 1).toInt64 &&& 63)))) (d9 * 4 + 3) ((vp_updL (vp_updL (vp_updL be (a * 4 + 0) (be (a * 4 + 0) ||| (1 <<< ((nI (t + 1) - nI 1).toInt64 &&& 63)))) (b * 4 + 1) ((vp_updL be (a * 4 + 0) (be (a * 4 + 0) ||| (1 <<< ((nI (t + 1) - nI 1).toInt64 &&& 63)))) (b * 4 + 1) ||| (1 <<< ((nI (t + 1) - nI 1).toInt64 &&& 63)))) (c9 * 4 + 2) ((vp_updL (vp_updL be (a * 4 + 0) (be (a * 4 + 0) ||| (1 <<< ((nI (t + 1) - nI 1).toInt64 &&& 63)))) (b * 4 + 1) ((vp_updL be (a * 4 + 0) (be (a * 4 + 0) ||| (1 <<< ((nI (t + 1) - nI 1).toInt64 &&& 63)))) (b * 4 + 1) ||| (1 <<< ((nI (t + 1) - nI 1).toInt64 &&& 63)))) (c9 * 4 + 2) ||| (1 <<< ((nI (t + 1) - nI 1).toInt64 &&& 63)))) (d9 * 4 + 3) ||| (1 <<< ((nI (t + 1) - nI 1).toInt64 &&& 63)))))))]) [0, 1, 2] rfl
  have hD9 := hD.sub (ws' := [(o1, .inr (1, [.ref s1, .ref s2, .ref s3, .int (nI (t + 1)), .int wa])), (s2, .inl (cI, 244, .inl (upd (upd (upd (upd sd ((t + 1) * 4 + 0) (nI a)) ((t + 1) * 4 + 1) (nI b)) ((t + 1) * 4 + 2) (nI c9)) ((t + 1) * 4 + 3) (nI d9)))), (s3, .inl (cJ, 400, .inr (.inl (vp_updL (vp_updL (vp_updL (vp_updL be (a * 4 + 0) (be (a * 4 + 0) ||| (1 <<< ((nI (t + 1) - nI 1).toInt64 &&& 63)))) (b * 4 + 1) ((vp_updL be (a * 4 + 0) (be (a * 4 + 0) ||| (1 <<< ((nI (t + 1) - nI 1).toInt64 &&& 63)))) (b * 4 + 1) ||| (1 <<< ((nI (t + 1) - nI 1).toInt64 &&& 63)))) (c9 * 4 + 2) ((vp_updL (vp_updL be (a * 4 + 0) (be (a * 4 + 0) ||| (1 <<< ((nI (t + 1) - nI 1).toInt64 &&& 63)))) (b * 4 + 1) ((vp_updL be (a * 4 + 0) (be (a * 4 + 0) ||| (1 <<< ((nI (t + 1) - nI 1).toInt64 &&& 63)))) (b * 4 + 1) ||| (1 <<< ((nI (t + 1) - nI 1).toInt64 &&& 63)))) (c9 * 4 + 2) ||| (1 <<< ((nI (t + 1) - nI 1).toInt64 &&& 63)))) (d9 * 4 + 3) ((vp_updL (vp_updL (vp_updL be (a * 4 + 0) (be (a * 4 + 0) ||| (1 <<< ((nI (t + 1) - nI 1).toInt64 &&& 63)))) (b * 4 + 1) ((vp_updL be (a * 4 + 0) (be (a * 4 + 0) ||| (1 <<< ((nI (t + 1) - nI 1).toInt64 &&& 63)))) (b * 4 + 1) ||| (1 <<< ((nI (t + 1) - nI 1).toInt64 &&& 63)))) (c9 * 4 + 2) ((vp_updL (vp_updL be (a * 4 + 0) (be (a * 4 + 0) ||| (1 <<< ((nI (t + 1) - nI 1).toInt64 &&& 63)))) (b * 4 + 1) ((vp_updL be (a * 4 + 0) (be (a * 4 + 0) ||| (1 <<< ((nI (t + 1) - nI 1).toInt64 &&& 63)))) (b * 4 + 1) ||| (1 <<< ((nI (t + 1) - nI 1).toInt64 &&& 63)))) (c9 * 4 + 2) ||| (1 <<< ((nI (t + 1) - nI 1).toInt64 &&& 63)))) (d9 * 4 + 3) ||| (1 <<< ((nI (t + 1) - nI 1).toInt64 &&& 63)))))))]) [0, 1, 2] (by decide) rfl
  exact W.iret (v := nI (t + 1)) hx hb hr (fun t9 ht hW => ⟨⟨_, (), rfl, rfl, ⟨by rw [ht]; exact hP9, hD9⟩⟩, hS.F ht⟩) hS.2.2 d_TS_addType_39
set_option maxHeartbeats 4000000 in
set_option maxRecDepth 100000 in
theorem lp_k_TS_restart_18 {p : Program} {l : Launch} {e : Env} {s : State} {m : MethodId} {args : Array Value} {below : List Frame} {meth : Method} {c : Code} {D : va_G} {cI cJ : ClassId} {Q : State → Prop} {A : Nat → Prop} (o1 : Nat) (s1 : Nat) (s2 : Nat) (s3 : Nat) (ty : Int32) (wa : Int32) (st : Nat → Int32) (be : Nat → Int64) (k : Nat) (hk : k < 100)  (hx : p.tables.exec = Jvm.exec) (hb : c.code = c_TS_restart) (hml : c.maxLocals = 3) (hown : s.vm.findClass R_TS = some m.cls) (hw : ∀ w ∈ gw, w.before args s = true) (hE : En D cI cJ s) (hX : Sx A s s.heap) (hA : ∀ q : Nat, s.heap.size ≤ q → A q)
    (kx0 : ∀ (H : Heap) (locs : List Loc) (ls : Array Slot), va_P D vwCl [(o1, .inr (1, [.ref s1, .ref s2, .ref s3, .int ty, .int wa])), (s1, .inl (cI, 100, .inl (rsF (flI st (nI 0) 100) (k + 1)))), (s3, .inl (cJ, 400, .inr (.inl (flJ be 0 400))))] H → va_D A [(o1, .inr (1, [.ref s1, .ref s2, .ref s3, .int ty, .int wa])), (s1, .inl (cI, 100, .inl (rsF (flI st (nI 0) 100) (k + 1)))), (s3, .inl (cJ, 400, .inr (.inl (flJ be 0 400))))] → va_S A s.heap H locs → lv_has ls 3 [(0, .ref o1)] → W p l e ({ frames := 1, cells := 0, slots := 0, locals := 24 } : Room) s m args below meth c H locs 0 0 Q (F0 m 36 ls [])) :
    ∀ (fu : Nat) (g : Nat), k + 1 - g < fu → (1 ≤ g) → (g ≤ k + 1) → ∀ (H : Heap) (locs : List Loc) (ls : Array Slot), va_P D vwCl [(o1, .inr (1, [.ref s1, .ref s2, .ref s3, .int ty, .int wa])), (s1, .inl (cI, 100, .inl (rsF (flI st (nI 0) 100) g))), (s3, .inl (cJ, 400, .inr (.inl (flJ be 0 400))))] H → va_D A [(o1, .inr (1, [.ref s1, .ref s2, .ref s3, .int ty, .int wa])), (s1, .inl (cI, 100, .inl (rsF (flI st (nI 0) 100) g))), (s3, .inl (cJ, 400, .inr (.inl (flJ be 0 400))))] → va_S A s.heap H locs → lv_has ls 3 [(0, .ref o1), (1, .int (nI k)), (2, .int (nI g))] → W p l e ({ frames := 1, cells := 0, slots := 0, locals := 24 } : Room) s m args below meth c H locs 0 0 Q (F0 m 18 ls []) := by
  intro fu
  induction fu with
  | zero =>
    intro g h0
    exact absurd h0 (Nat.not_lt_zero _)
  | succ fu ih =>
    intro g hmu hg1 hg2 H locs ls hP hD hS hl
    refine lv_iload_n hx hb d_TS_restart_18 rfl (lv_at hl 2 rfl) ?_
    refine lv_iload_n hx hb d_TS_restart_19 rfl (lv_at hl 1 rfl) ?_
    refine jn_icmp_gt (tgt := 36) (a := g) (b := k) hx hb d_TS_restart_20 (by decide) (by omega) (by omega) (fun c_20 => ?_) (fun c_20 => ?_)
    · skip
      obtain rfl : g = k + 1 := by omega
      exact kx0   _ _ _ (hP.sub [0, 1, 2] rfl) (hD.sub [0, 1, 2] (by decide) rfl) hS (lv_sub hl [0] rfl)
    · skip
      refine lv_aload_n hx hb d_TS_restart_23 rfl (lv_at hl 0 rfl) ?_
      refine va_get (D := D) (ci := 1) (v := .ref s1) (C := R_TS) (T := T_TS) (N := 5) hx hb hw in_TS hown hE.1 hP 0 rfl rfl 0 (by decide) (hw _ kw_71) (fun _ h9 => h9) rfl d_TS_restart_24 ?_
      refine lv_iload_n hx hb d_TS_restart_27 rfl (lv_at hl 2 rfl) ?_
      refine lv_iconst (v := nI 1) hx hb d_TS_restart_28 (by decide +kernel) ?_
      refine jn_iast (k := g) hx hb hE.1 hP hD hS 1 0 rfl rfl (by omega) (by omega) d_TS_restart_29 (fun H locs hP hD hS => ?_)
      have hP : va_P D vwCl [(o1, .inr (1, [.ref s1, .ref s2, .ref s3, .int ty, .int wa])), (s1, .inl (cI, 100, .inl (upd (rsF (flI st (nI 0) 100) g) g (nI 1)))), (s3, .inl (cJ, 400, .inr (.inl (flJ be 0 400))))] H := hP
      have hD : va_D A [(o1, .inr (1, [.ref s1, .ref s2, .ref s3, .int ty, .int wa])), (s1, .inl (cI, 100, .inl (upd (rsF (flI st (nI 0) 100) g) g (nI 1)))), (s3, .inl (cJ, 400, .inr (.inl (flJ be 0 400))))] := hD
      refine lv_iinc (v := nI (g + 1)) (lv' := [(2, .int (nI (g + 1))), (0, .ref o1), (1, .int (nI k))]) hx hb d_TS_restart_30 hl (k := 2) rfl (jn_inc g 1) (by decide) rfl (fun ls hl => ?_)
      refine lv_goto (tgt := 18) hx hb d_TS_restart_33 (by decide) ?_
      rw [rsF_succ _ hg1] at hP hD
      exact ih (g + 1) (by omega) (by omega) (by omega) _ _ _ (hP.sub [0, 1, 2] rfl) (hD.sub [0, 1, 2] (by decide) rfl) hS (lv_sub hl [1, 2, 0] rfl)
set_option maxHeartbeats 4000000 in
set_option maxRecDepth 100000 in
/-- restart -/
theorem k_TS_restart (l : Launch) (D : va_G) (cI cJ : ClassId) (o1 : Nat) (s1 : Nat) (s2 : Nat) (s3 : Nat) (ty : Int32) (wa : Int32) (st : Nat → Int32) (be : Nat → Int64) (k : Nat) (sz : Nat) (hk : k < 100) : Met l y_TS_restart ws_TS_restart ({ frames := 1, cells := 0, slots := 0, locals := 24 } : Room) (va_Pc [.ref o1, .int (nI k)] (Pw D cI cJ [(o1, .inr (1, [.ref s1, .ref s2, .ref s3, .int ty, .int wa])), (s1, .inl (cI, 100, .inl st)), (s3, .inl (cJ, 400, .inr (.inl be)))] sz)) (va_Qv (fun (_u : Unit) => True) (fun _u t9 => Bw D (va_A [(o1, .inr (1, [.ref s1, .ref s2, .ref s3, .int ty, .int wa])), (s1, .inl (cI, 100, .inl st)), (s3, .inl (cJ, 400, .inr (.inl be)))] sz) [(o1, .inr (1, [.ref s1, .ref s2, .ref s3, .int (nI 0), .int (nI 2)])), (s1, .inl (cI, 100, .inl (rsF (flI st (nI 0) 100) (k + 1)))), (s3, .inl (cJ, 400, .inr (.inl (flJ be 0 400))))] t9) (va_A [(o1, .inr (1, [.ref s1, .ref s2, .ref s3, .int ty, .int wa])), (s1, .inl (cI, 100, .inl st)), (s3, .inl (cJ, 400, .inr (.inl be)))] sz)) 0 0 (va_A [(o1, .inr (1, [.ref s1, .ref s2, .ref s3, .int ty, .int wa])), (s1, .inl (cI, 100, .inl st)), (s3, .inl (cJ, 400, .inr (.inl be)))] sz) := by
  refine Met.ofW (cc := c_TS_restart) (maxL := 3) (ret := none) (by decide) rfl ?_
  intro p e s m args below meth c s₁ B hml hv
  obtain ⟨rfl, hsz, hE, hP, hD0, hX⟩ := hv
  have hx := B.exec
  have hb := B.bytes
  have hr := B.returns
  have hw : ∀ w ∈ gw, w.before _ s = true := fun w h => atoms_spec (ws := ws_TS_restart) B.pre w (List.mem_cons_of_mem _ h)
  have hown : s.vm.findClass R_TS = some m.cls := findClass_of_methodNamed B.named
  have hlocks := B.notSynchronized
  subst hsz
  have hD := hD0.self (sz := s.heap.size)
  generalize hAe : va_A [(o1, .inr (1, [.ref s1, .ref s2, .ref s3, .int ty, .int wa])), (s1, .inl (cI, 100, .inl st)), (s3, .inl (cJ, 400, .inr (.inl be)))] s.heap.size = A at hD hX ⊢
  have hA : ∀ q : Nat, s.heap.size ≤ q → A q := fun q h => by rw [← hAe]; exact Or.inr h
  have hS : va_S A s.heap s.heap [] := va_S.rf
  have hP : va_P D vwCl [(o1, .inr (1, [.ref s1, .ref s2, .ref s3, .int ty, .int wa])), (s1, .inl (cI, 100, .inl st)), (s3, .inl (cJ, 400, .inr (.inl be)))] s.heap := hP
  have hl := lv_entry ([.ref o1, .int (nI k)]) (n := 3) (Nat.le_of_ble_eq_true rfl)
  rw [lg_entry_eq]
  generalize (lg_sl ([.ref o1, .int (nI k)]) ++ List.replicate (3 - (lg_sl ([.ref o1, .int (nI k)])).length) Slot.unset).toArray = ls at hl ⊢
  have hl : lv_has ls 3 [(0, .ref o1), (1, .int (nI k))] := hl
  refine lv_aload_n hx hb d_TS_restart_0 rfl (lv_at hl 0 rfl) ?_
  refine va_get (D := D) (ci := 1) (v := .ref s3) (C := R_TS) (T := T_TS) (N := 5) hx hb hw in_TS hown hE.1 hP 0 rfl rfl 2 (by decide) (hw _ kw_73) (fun _ h9 => h9) rfl d_TS_restart_1 ?_
  refine lv_lconst (v := 0) hx hb d_TS_restart_4 (by decide +kernel) ?_
  refine cl_v (wr := [(o1, .inr (1, [.ref s1, .ref s2, .ref s3, .int ty, .int wa])), (s1, .inl (cI, 100, .inl st))]) (va_runS (As := [.ref s3, .long 0]) (rest := []) ⟨hx, hb, hml, hown, hw⟩ (k_JA_fillJ l D cI cJ s3 400 be 0 _ (by omega)) (va_cwS 2 hw (gS kw_221 kw_208 kw_54 kw_209) rfl rfl rfl (by decide +kernel) ⟨Nat.le_of_ble_eq_true rfl, Nat.le_of_ble_eq_true rfl⟩) (pre_Sw (wc := [(s3, .inl (cJ, 400, .inr (.inl be)))]) hE hX hA hP hD hS [2] (by decide) rfl rfl) rfl rfl hl.1 rfl (lv_room (Nat.le_of_ble_eq_true rfl)) d_TS_restart_5 ⟨Nat.le_of_ble_eq_true rfl, Nat.le_of_ble_eq_true rfl⟩) hP hD hS hA [2] [0, 1] rfl rfl (by decide) (by decide) (fun u_r_1 H locs hr_1 hP hD hS => ?_)
  have hP : va_P D vwCl [(o1, .inr (1, [.ref s1, .ref s2, .ref s3, .int ty, .int wa])), (s1, .inl (cI, 100, .inl st)), (s3, .inl (cJ, 400, .inr (.inl (flJ be 0 400))))] H := hP
  have hD : va_D A [(o1, .inr (1, [.ref s1, .ref s2, .ref s3, .int ty, .int wa])), (s1, .inl (cI, 100, .inl st)), (s3, .inl (cJ, 400, .inr (.inl (flJ be 0 400))))] := hD
  refine lv_aload_n hx hb d_TS_restart_8 rfl (lv_at hl 0 rfl) ?_
  refine va_get (D := D) (ci := 1) (v := .ref s1) (C := R_TS) (T := T_TS) (N := 5) hx hb hw in_TS hown hE.1 hP 0 rfl rfl 0 (by decide) (hw _ kw_71) (fun _ h9 => h9) rfl d_TS_restart_9 ?_
  refine lv_iconst (v := nI 0) hx hb d_TS_restart_12 (by decide +kernel) ?_
  refine cl_v (wr := [(o1, .inr (1, [.ref s1, .ref s2, .ref s3, .int ty, .int wa])), (s3, .inl (cJ, 400, .inr (.inl (flJ be 0 400))))]) (va_runS (As := [.ref s1, .int (nI 0)]) (rest := []) ⟨hx, hb, hml, hown, hw⟩ (k_JA_fillI l D cI cJ s1 100 st (nI 0) _ (by omega)) (va_cwS 2 hw (gS kw_222 kw_211 kw_54 kw_212) rfl rfl rfl (by decide +kernel) ⟨Nat.le_of_ble_eq_true rfl, Nat.le_of_ble_eq_true rfl⟩) (pre_Sw (wc := [(s1, .inl (cI, 100, .inl st))]) hE hX hA hP hD hS [1] (by decide) rfl rfl) rfl rfl hl.1 rfl (lv_room (Nat.le_of_ble_eq_true rfl)) d_TS_restart_13 ⟨Nat.le_of_ble_eq_true rfl, Nat.le_of_ble_eq_true rfl⟩) hP hD hS hA [1] [0, 2] rfl rfl (by decide) (by decide) (fun u_r_2 H locs hr_2 hP hD hS => ?_)
  have hP : va_P D vwCl [(o1, .inr (1, [.ref s1, .ref s2, .ref s3, .int ty, .int wa])), (s3, .inl (cJ, 400, .inr (.inl (flJ be 0 400)))), (s1, .inl (cI, 100, .inl (flI st (nI 0) 100)))] H := hP
  have hD : va_D A [(o1, .inr (1, [.ref s1, .ref s2, .ref s3, .int ty, .int wa])), (s3, .inl (cJ, 400, .inr (.inl (flJ be 0 400)))), (s1, .inl (cI, 100, .inl (flI st (nI 0) 100)))] := hD
  refine lv_iconst (v := nI 1) hx hb d_TS_restart_16 (by decide +kernel) ?_
  refine lv_istore_n (lv' := [(2, .int (nI 1)), (0, .ref o1), (1, .int (nI k))]) hx hb d_TS_restart_17 rfl hl (by decide) rfl (fun ls hl => ?_)
  rw [← rsF_one (flI st (nI 0) 100)] at hP hD
  refine lp_k_TS_restart_18 o1 s1 s2 s3 ty wa st be k hk hx hb hml hown hw hE hX hA (fun H locs ls hP hD hS hl => ?_) ((k + 1 - 1) + 1) 1 (Nat.lt_succ_self _) (Nat.le_refl _) (by omega) _ _ _ (hP.sub [0, 2, 1] rfl) (hD.sub [0, 2, 1] (by decide) rfl) hS (lv_sub hl [1, 2, 0] rfl)
  refine lv_aload_n hx hb d_TS_restart_36 rfl (lv_at hl 0 rfl) ?_
  refine lv_iconst (v := nI 0) hx hb d_TS_restart_37 (by decide +kernel) ?_
  refine va_put (D := D) (ci := 1) (v := .int (nI 0)) (ty := .int) (C := R_TS) (T := T_TS) (N := 5) hx hb hw in_TS ty_TS ty_TS_ok nm_TS_ok hown hE.1 hP hD hS 0 rfl rfl 3 (by decide) (hw _ kw_74) (fun _ h9 => h9) rfl (by decide +kernel) rfl rfl (Nat.le_of_ble_eq_true rfl) d_TS_restart_38 (fun H locs hP hD hS => ?_)
  have hP : va_P D vwCl [(o1, .inr (1, [.ref s1, .ref s2, .ref s3, .int (nI 0), .int wa])), (s1, .inl (cI, 100, .inl (rsF (flI st (nI 0) 100) (k + 1)))), (s3, .inl (cJ, 400, .inr (.inl (flJ be 0 400))))] H := hP
  have hD : va_D A [(o1, .inr (1, [.ref s1, .ref s2, .ref s3, .int (nI 0), .int wa])), (s1, .inl (cI, 100, .inl (rsF (flI st (nI 0) 100) (k + 1)))), (s3, .inl (cJ, 400, .inr (.inl (flJ be 0 400))))] := hD
  refine lv_aload_n hx hb d_TS_restart_41 rfl (lv_at hl 0 rfl) ?_
  refine lv_iconst (v := nI 2) hx hb d_TS_restart_42 (by decide +kernel) ?_
  refine va_put (D := D) (ci := 1) (v := .int (nI 2)) (ty := .int) (C := R_TS) (T := T_TS) (N := 5) hx hb hw in_TS ty_TS ty_TS_ok nm_TS_ok hown hE.1 hP hD hS 0 rfl rfl 4 (by decide) (hw _ kw_75) (fun _ h9 => h9) rfl (by decide +kernel) rfl rfl (Nat.le_of_ble_eq_true rfl) d_TS_restart_43 (fun H locs hP hD hS => ?_)
  have hP : va_P D vwCl [(o1, .inr (1, [.ref s1, .ref s2, .ref s3, .int (nI 0), .int (nI 2)])), (s1, .inl (cI, 100, .inl (rsF (flI st (nI 0) 100) (k + 1)))), (s3, .inl (cJ, 400, .inr (.inl (flJ be 0 400))))] H := hP
  have hD : va_D A [(o1, .inr (1, [.ref s1, .ref s2, .ref s3, .int (nI 0), .int (nI 2)])), (s1, .inl (cI, 100, .inl (rsF (flI st (nI 0) 100) (k + 1)))), (s3, .inl (cJ, 400, .inr (.inl (flJ be 0 400))))] := hD
  have hP9 := hP.sub (ws' := [(o1, .inr (1, [.ref s1, .ref s2, .ref s3, .int (nI 0), .int (nI 2)])), (s1, .inl (cI, 100, .inl (rsF (flI st (nI 0) 100) (k + 1)))), (s3, .inl (cJ, 400, .inr (.inl (flJ be 0 400))))]) [0, 1, 2] rfl
  have hD9 := hD.sub (ws' := [(o1, .inr (1, [.ref s1, .ref s2, .ref s3, .int (nI 0), .int (nI 2)])), (s1, .inl (cI, 100, .inl (rsF (flI st (nI 0) 100) (k + 1)))), (s3, .inl (cJ, 400, .inr (.inl (flJ be 0 400))))]) [0, 1, 2] (by decide) rfl
  exact W.vret hx hb hr (fun t9 ht hW => ⟨⟨(), rfl, trivial, ⟨by rw [ht]; exact hP9, hD9⟩⟩, hS.F ht⟩) hS.2.2 d_TS_restart_46
set_option maxHeartbeats 4000000 in
set_option maxRecDepth 100000 in
/-- beginRows -/
theorem k_TS_beginRows (l : Launch) (D : va_G) (cI cJ : ClassId) (o1 : Nat) (s1 : Nat) (s2 : Nat) (s3 : Nat) (ty : Int32) (wa : Int32) (st : Nat → Int32) (sd : Nat → Int32) (be : Nat → Int64) (a : Nat) (b : Nat) (sz : Nat) (ha : a < 100) (hb9 : b < 100) : Met l y_TS_beginRows ws_TS_beginRows ({ frames := 3, cells := 0, slots := 0, locals := 66 } : Room) (va_Pc [.ref o1, .int (nI a), .int (nI b)] (Pw D cI cJ [(o1, .inr (1, [.ref s1, .ref s2, .ref s3, .int ty, .int wa])), (s1, .inl (cI, 100, .inl st)), (s2, .inl (cI, 244, .inl sd)), (s3, .inl (cJ, 400, .inr (.inl be)))] sz)) (va_Qv (fun (_u : Unit) => True) (fun _u t9 => Bw D (va_A [(o1, .inr (1, [.ref s1, .ref s2, .ref s3, .int ty, .int wa])), (s1, .inl (cI, 100, .inl st)), (s2, .inl (cI, 244, .inl sd)), (s3, .inl (cJ, 400, .inr (.inl be)))] sz) [(o1, .inr (1, [.ref s1, .ref s2, .ref s3, .int (nI 3), .int (nI 2)])), (s1, .inl (cI, 100, .inl (rsF (flI st (nI 0) 100) 5))), (s2, .inl (cI, 244, .inl (adS (adS (adS sd 1 1 0 0 0) 2 2 0 0 0) 3 0 a 0 b))), (s3, .inl (cJ, 400, .inr (.inl (adB (adB (adB (flJ be 0 400) 1 1 0 0 0) 2 2 0 0 0) 3 0 a 0 b))))] t9) (va_A [(o1, .inr (1, [.ref s1, .ref s2, .ref s3, .int ty, .int wa])), (s1, .inl (cI, 100, .inl st)), (s2, .inl (cI, 244, .inl sd)), (s3, .inl (cJ, 400, .inr (.inl be)))] sz)) 0 0 (va_A [(o1, .inr (1, [.ref s1, .ref s2, .ref s3, .int ty, .int wa])), (s1, .inl (cI, 100, .inl st)), (s2, .inl (cI, 244, .inl sd)), (s3, .inl (cJ, 400, .inr (.inl be)))] sz) := by
  refine Met.ofW (cc := c_TS_beginRows) (maxL := 3) (ret := none) (by decide) rfl ?_
  intro p e s m args below meth c s₁ B hml hv
  obtain ⟨rfl, hsz, hE, hP, hD0, hX⟩ := hv
  have hx := B.exec
  have hb := B.bytes
  have hr := B.returns
  have hw : ∀ w ∈ gw, w.before _ s = true := fun w h => atoms_spec (ws := ws_TS_beginRows) B.pre w (List.mem_cons_of_mem _ h)
  have hown : s.vm.findClass R_TS = some m.cls := findClass_of_methodNamed B.named
  have hlocks := B.notSynchronized
  subst hsz
  have hD := hD0.self (sz := s.heap.size)
  generalize hAe : va_A [(o1, .inr (1, [.ref s1, .ref s2, .ref s3, .int ty, .int wa])), (s1, .inl (cI, 100, .inl st)), (s2, .inl (cI, 244, .inl sd)), (s3, .inl (cJ, 400, .inr (.inl be)))] s.heap.size = A at hD hX ⊢
  have hA : ∀ q : Nat, s.heap.size ≤ q → A q := fun q h => by rw [← hAe]; exact Or.inr h
  have hS : va_S A s.heap s.heap [] := va_S.rf
  have hP : va_P D vwCl [(o1, .inr (1, [.ref s1, .ref s2, .ref s3, .int ty, .int wa])), (s1, .inl (cI, 100, .inl st)), (s2, .inl (cI, 244, .inl sd)), (s3, .inl (cJ, 400, .inr (.inl be)))] s.heap := hP
  have hl := lv_entry ([.ref o1, .int (nI a), .int (nI b)]) (n := 3) (Nat.le_of_ble_eq_true rfl)
  rw [lg_entry_eq]
  generalize (lg_sl ([.ref o1, .int (nI a), .int (nI b)]) ++ List.replicate (3 - (lg_sl ([.ref o1, .int (nI a), .int (nI b)])).length) Slot.unset).toArray = ls at hl ⊢
  have hl : lv_has ls 3 [(0, .ref o1), (1, .int (nI a)), (2, .int (nI b))] := hl
  refine lv_aload_n hx hb d_TS_beginRows_0 rfl (lv_at hl 0 rfl) ?_
  refine lv_iconst (v := nI 4) hx hb d_TS_beginRows_1 (by decide +kernel) ?_
  refine cl_v (wr := [(s2, .inl (cI, 244, .inl sd))]) (va_runV (As := [.int (nI 4)]) (rest := []) ⟨hx, hb, hml, hown, hw⟩ (k_TS_restart l D cI cJ o1 s1 s2 s3 ty wa st be 4 _ (by omega)) (cwV 1 hw (gV kw_742 kw_218 kw_219 kw_41 kw_220) rfl rfl rfl (by decide +kernel) ⟨Nat.le_of_ble_eq_true rfl, Nat.le_of_ble_eq_true rfl⟩) (pre_Vw (wc := [(o1, .inr (1, [.ref s1, .ref s2, .ref s3, .int ty, .int wa])), (s1, .inl (cI, 100, .inl st)), (s3, .inl (cJ, 400, .inr (.inl be)))]) (q0 := 0) hE hX hA hP hD hS [0, 1, 3] (by decide) rfl rfl rfl rfl) rfl rfl hl.1 rfl (lv_room (Nat.le_of_ble_eq_true rfl)) d_TS_beginRows_2 ⟨Nat.le_of_ble_eq_true rfl, Nat.le_of_ble_eq_true rfl⟩) hP hD hS hA [0, 1, 3] [2] rfl rfl (by decide) (by decide) (fun u_r_1 H locs hr_1 hP hD hS => ?_)
  have hP : va_P D vwCl [(s2, .inl (cI, 244, .inl sd)), (o1, .inr (1, [.ref s1, .ref s2, .ref s3, .int (nI 0), .int (nI 2)])), (s1, .inl (cI, 100, .inl (rsF (flI st (nI 0) 100) (4 + 1)))), (s3, .inl (cJ, 400, .inr (.inl (flJ be 0 400))))] H := hP
  have hD : va_D A [(s2, .inl (cI, 244, .inl sd)), (o1, .inr (1, [.ref s1, .ref s2, .ref s3, .int (nI 0), .int (nI 2)])), (s1, .inl (cI, 100, .inl (rsF (flI st (nI 0) 100) (4 + 1)))), (s3, .inl (cJ, 400, .inr (.inl (flJ be 0 400))))] := hD
  refine lv_aload_n hx hb d_TS_beginRows_5 rfl (lv_at hl 0 rfl) ?_
  refine lv_iconst (v := nI 1) hx hb d_TS_beginRows_6 (by decide +kernel) ?_
  refine lv_iconst (v := nI 0) hx hb d_TS_beginRows_7 (by decide +kernel) ?_
  refine lv_iconst (v := nI 0) hx hb d_TS_beginRows_8 (by decide +kernel) ?_
  refine lv_iconst (v := nI 0) hx hb d_TS_beginRows_9 (by decide +kernel) ?_
  refine cl_i (wr := [(s1, .inl (cI, 100, .inl (rsF (flI st (nI 0) 100) (4 + 1))))]) (va_runV (As := [.int (nI 1), .int (nI 0), .int (nI 0), .int (nI 0)]) (rest := []) ⟨hx, hb, hml, hown, hw⟩ (k_TS_addType l D cI cJ o1 s1 s2 s3 (nI 2) 0 sd (flJ be 0 400) 1 0 0 0 _ (by omega) (by omega) (by omega) (by omega) (by omega)) (cwV 4 hw (gV kw_743 kw_365 kw_366 kw_41 kw_367) rfl rfl rfl (by decide +kernel) ⟨Nat.le_of_ble_eq_true rfl, Nat.le_of_ble_eq_true rfl⟩) (pre_Vw (wc := [(o1, .inr (1, [.ref s1, .ref s2, .ref s3, .int (nI 0), .int (nI 2)])), (s2, .inl (cI, 244, .inl sd)), (s3, .inl (cJ, 400, .inr (.inl (flJ be 0 400))))]) (q0 := 0) hE hX hA hP hD hS [1, 0, 3] (by decide) rfl rfl rfl rfl) rfl rfl hl.1 rfl (lv_room (Nat.le_of_ble_eq_true rfl)) d_TS_beginRows_10 ⟨Nat.le_of_ble_eq_true rfl, Nat.le_of_ble_eq_true rfl⟩) hP hD hS hA [1, 0, 3] [2] rfl rfl (by decide) (by decide) (fun r_2 u_r_2 H locs hr_2 hP hD hS => ?_)
  obtain rfl : r_2 = nI (0 + 1) := hr_2
  have hP : va_P D vwCl [(s1, .inl (cI, 100, .inl (rsF (flI st (nI 0) 100) (4 + 1)))), (o1, .inr (1, [.ref s1, .ref s2, .ref s3, .int (nI (0 + 1)), .int (nI 2)])), (s2, .inl (cI, 244, .inl (adS sd (0 + 1) 1 0 0 0))), (s3, .inl (cJ, 400, .inr (.inl (adB (flJ be 0 400) (0 + 1) 1 0 0 0))))] H := hP
  have hD : va_D A [(s1, .inl (cI, 100, .inl (rsF (flI st (nI 0) 100) (4 + 1)))), (o1, .inr (1, [.ref s1, .ref s2, .ref s3, .int (nI (0 + 1)), .int (nI 2)])), (s2, .inl (cI, 244, .inl (adS sd (0 + 1) 1 0 0 0))), (s3, .inl (cJ, 400, .inr (.inl (adB (flJ be 0 400) (0 + 1) 1 0 0 0))))] := hD
  refine lv_pop hx hb d_TS_beginRows_13 rfl ?_
  refine lv_aload_n hx hb d_TS_beginRows_14 rfl (lv_at hl 0 rfl) ?_
  refine lv_iconst (v := nI 2) hx hb d_TS_beginRows_15 (by decide +kernel) ?_
  refine lv_iconst (v := nI 0) hx hb d_TS_beginRows_16 (by decide +kernel) ?_
  refine lv_iconst (v := nI 0) hx hb d_TS_beginRows_17 (by decide +kernel) ?_
  refine lv_iconst (v := nI 0) hx hb d_TS_beginRows_18 (by decide +kernel) ?_
  refine cl_i (wr := [(s1, .inl (cI, 100, .inl (rsF (flI st (nI 0) 100) (4 + 1))))]) (va_runV (As := [.int (nI 2), .int (nI 0), .int (nI 0), .int (nI 0)]) (rest := []) ⟨hx, hb, hml, hown, hw⟩ (k_TS_addType l D cI cJ o1 s1 s2 s3 (nI 2) (0 + 1) (adS sd (0 + 1) 1 0 0 0) (adB (flJ be 0 400) (0 + 1) 1 0 0 0) 2 0 0 0 _ (by omega) (by omega) (by omega) (by omega) (by omega)) (cwV 4 hw (gV kw_743 kw_365 kw_366 kw_41 kw_367) rfl rfl rfl (by decide +kernel) ⟨Nat.le_of_ble_eq_true rfl, Nat.le_of_ble_eq_true rfl⟩) (pre_Vw (wc := [(o1, .inr (1, [.ref s1, .ref s2, .ref s3, .int (nI (0 + 1)), .int (nI 2)])), (s2, .inl (cI, 244, .inl (adS sd (0 + 1) 1 0 0 0))), (s3, .inl (cJ, 400, .inr (.inl (adB (flJ be 0 400) (0 + 1) 1 0 0 0))))]) (q0 := 0) hE hX hA hP hD hS [1, 2, 3] (by decide) rfl rfl rfl rfl) rfl rfl hl.1 rfl (lv_room (Nat.le_of_ble_eq_true rfl)) d_TS_beginRows_19 ⟨Nat.le_of_ble_eq_true rfl, Nat.le_of_ble_eq_true rfl⟩) hP hD hS hA [1, 2, 3] [0] rfl rfl (by decide) (by decide) (fun r_3 u_r_3 H locs hr_3 hP hD hS => ?_)
  obtain rfl : r_3 = nI ((0 + 1) + 1) := hr_3
  have hP : va_P D vwCl [(s1, .inl (cI, 100, .inl (rsF (flI st (nI 0) 100) (4 + 1)))), (o1, .inr (1, [.ref s1, .ref s2, .ref s3, .int (nI ((0 + 1) + 1)), .int (nI 2)])), (s2, .inl (cI, 244, .inl (adS (adS sd (0 + 1) 1 0 0 0) ((0 + 1) + 1) 2 0 0 0))), (s3, .inl (cJ, 400, .inr (.inl (adB (adB (flJ be 0 400) (0 + 1) 1 0 0 0) ((0 + 1) + 1) 2 0 0 0))))] H := hP
  have hD : va_D A [(s1, .inl (cI, 100, .inl (rsF (flI st (nI 0) 100) (4 + 1)))), (o1, .inr (1, [.ref s1, .ref s2, .ref s3, .int (nI ((0 + 1) + 1)), .int (nI 2)])), (s2, .inl (cI, 244, .inl (adS (adS sd (0 + 1) 1 0 0 0) ((0 + 1) + 1) 2 0 0 0))), (s3, .inl (cJ, 400, .inr (.inl (adB (adB (flJ be 0 400) (0 + 1) 1 0 0 0) ((0 + 1) + 1) 2 0 0 0))))] := hD
  refine lv_pop hx hb d_TS_beginRows_22 rfl ?_
  refine lv_aload_n hx hb d_TS_beginRows_23 rfl (lv_at hl 0 rfl) ?_
  refine lv_iconst (v := nI 0) hx hb d_TS_beginRows_24 (by decide +kernel) ?_
  refine lv_iload_n hx hb d_TS_beginRows_25 rfl (lv_at hl 1 rfl) ?_
  refine lv_iconst (v := nI 0) hx hb d_TS_beginRows_26 (by decide +kernel) ?_
  refine lv_iload_n hx hb d_TS_beginRows_27 rfl (lv_at hl 2 rfl) ?_
  refine cl_i (wr := [(s1, .inl (cI, 100, .inl (rsF (flI st (nI 0) 100) (4 + 1))))]) (va_runV (As := [.int (nI 0), .int (nI a), .int (nI 0), .int (nI b)]) (rest := []) ⟨hx, hb, hml, hown, hw⟩ (k_TS_addType l D cI cJ o1 s1 s2 s3 (nI 2) ((0 + 1) + 1) (adS (adS sd (0 + 1) 1 0 0 0) ((0 + 1) + 1) 2 0 0 0) (adB (adB (flJ be 0 400) (0 + 1) 1 0 0 0) ((0 + 1) + 1) 2 0 0 0) 0 a 0 b _ (by omega) (by omega) (by omega) (by omega) (by omega)) (cwV 4 hw (gV kw_743 kw_365 kw_366 kw_41 kw_367) rfl rfl rfl (by decide +kernel) ⟨Nat.le_of_ble_eq_true rfl, Nat.le_of_ble_eq_true rfl⟩) (pre_Vw (wc := [(o1, .inr (1, [.ref s1, .ref s2, .ref s3, .int (nI ((0 + 1) + 1)), .int (nI 2)])), (s2, .inl (cI, 244, .inl (adS (adS sd (0 + 1) 1 0 0 0) ((0 + 1) + 1) 2 0 0 0))), (s3, .inl (cJ, 400, .inr (.inl (adB (adB (flJ be 0 400) (0 + 1) 1 0 0 0) ((0 + 1) + 1) 2 0 0 0))))]) (q0 := 0) hE hX hA hP hD hS [1, 2, 3] (by decide) rfl rfl rfl rfl) rfl rfl hl.1 rfl (lv_room (Nat.le_of_ble_eq_true rfl)) d_TS_beginRows_28 ⟨Nat.le_of_ble_eq_true rfl, Nat.le_of_ble_eq_true rfl⟩) hP hD hS hA [1, 2, 3] [0] rfl rfl (by decide) (by decide) (fun r_4 u_r_4 H locs hr_4 hP hD hS => ?_)
  obtain rfl : r_4 = nI (((0 + 1) + 1) + 1) := hr_4
  have hP : va_P D vwCl [(s1, .inl (cI, 100, .inl (rsF (flI st (nI 0) 100) (4 + 1)))), (o1, .inr (1, [.ref s1, .ref s2, .ref s3, .int (nI (((0 + 1) + 1) + 1)), .int (nI 2)])), (s2, .inl (cI, 244, .inl (adS (adS (adS sd (0 + 1) 1 0 0 0) ((0 + 1) + 1) 2 0 0 0) (((0 + 1) + 1) + 1) 0 a 0 b))), (s3, .inl (cJ, 400, .inr (.inl (adB (adB (adB (flJ be 0 400) (0 + 1) 1 0 0 0) ((0 + 1) + 1) 2 0 0 0) (((0 + 1) + 1) + 1) 0 a 0 b))))] H := hP
  have hD : va_D A [(s1, .inl (cI, 100, .inl (rsF (flI st (nI 0) 100) (4 + 1)))), (o1, .inr (1, [.ref s1, .ref s2, .ref s3, .int (nI (((0 + 1) + 1) + 1)), .int (nI 2)])), (s2, .inl (cI, 244, .inl (adS (adS (adS sd (0 + 1) 1 0 0 0) ((0 + 1) + 1) 2 0 0 0) (((0 + 1) + 1) + 1) 0 a 0 b))), (s3, .inl (cJ, 400, .inr (.inl (adB (adB (adB (flJ be 0 400) (0 + 1) 1 0 0 0) ((0 + 1) + 1) 2 0 0 0) (((0 + 1) + 1) + 1) 0 a 0 b))))] := hD
  refine lv_pop hx hb d_TS_beginRows_31 rfl ?_
  have hP9 := hP.sub (ws' := [(o1, .inr (1, [.ref s1, .ref s2, .ref s3, .int (nI (((0 + 1) + 1) + 1)), .int (nI 2)])), (s1, .inl (cI, 100, .inl (rsF (flI st (nI 0) 100) (4 + 1)))), (s2, .inl (cI, 244, .inl (adS (adS (adS sd (0 + 1) 1 0 0 0) ((0 + 1) + 1) 2 0 0 0) (((0 + 1) + 1) + 1) 0 a 0 b))), (s3, .inl (cJ, 400, .inr (.inl (adB (adB (adB (flJ be 0 400) (0 + 1) 1 0 0 0) ((0 + 1) + 1) 2 0 0 0) (((0 + 1) + 1) + 1) 0 a 0 b))))]) [1, 0, 2, 3] rfl
  have hD9 := hD.sub (ws' := [(o1, .inr (1, [.ref s1, .ref s2, .ref s3, .int (nI (((0 + 1) + 1) + 1)), .int (nI 2)])), (s1, .inl (cI, 100, .inl (rsF (flI st (nI 0) 100) (4 + 1)))), (s2, .inl (cI, 244, .inl (adS (adS (adS sd (0 + 1) 1 0 0 0) ((0 + 1) + 1) 2 0 0 0) (((0 + 1) + 1) + 1) 0 a 0 b))), (s3, .inl (cJ, 400, .inr (.inl (adB (adB (adB (flJ be 0 400) (0 + 1) 1 0 0 0) ((0 + 1) + 1) 2 0 0 0) (((0 + 1) + 1) + 1) 0 a 0 b))))]) [1, 0, 2, 3] (by decide) rfl
  exact W.vret hx hb hr (fun t9 ht hW => ⟨⟨(), rfl, trivial, ⟨by rw [ht]; exact hP9, hD9⟩⟩, hS.F ht⟩) hS.2.2 d_TS_beginRows_32
set_option maxHeartbeats 4000000 in
set_option maxRecDepth 100000 in
/-- TileSet() -/
theorem k_TS_init (l : Launch) (D : va_G) (cI cJ : ClassId) (o1 : Nat) (sz : Nat)  : Met l y_TS_init ws_TS_init ({ frames := 1, cells := 3, slots := 744, locals := 16 } : Room) (va_Pc [.ref o1] (Pw D cI cJ [(o1, .inr (1, [.null, .null, .null, .int 0, .int 0]))] sz)) (va_Qv (fun (u9 : Nat × Nat × Nat) => True) (fun u9 t9 => Bw D (va_A [(o1, .inr (1, [.null, .null, .null, .int 0, .int 0]))] sz) [(o1, .inr (1, [.ref u9.1, .ref u9.2.1, .ref u9.2.2, .int (nI 0), .int (nI 2)])), (u9.1, .inl (cI, 100, .inl (fun _ => 0))), (u9.2.1, .inl (cI, 244, .inl (fun _ => 0))), (u9.2.2, .inl (cJ, 400, .inr (.inl (fun _ => 0))))] t9) (va_A [(o1, .inr (1, [.null, .null, .null, .int 0, .int 0]))] sz)) 3 744 (va_A [(o1, .inr (1, [.null, .null, .null, .int 0, .int 0]))] sz) := by
  refine Met.ofW (cc := c_TS_init) (maxL := 1) (ret := none) (by decide) rfl ?_
  intro p e s m args below meth c s₁ B hml hv
  obtain ⟨rfl, hsz, hE, hP, hD0, hX⟩ := hv
  have hx := B.exec
  have hb := B.bytes
  have hr := B.returns
  have hw : ∀ w ∈ gw, w.before _ s = true := fun w h => atoms_spec (ws := ws_TS_init) B.pre w (List.mem_cons_of_mem _ h)
  have hown : s.vm.findClass R_TS = some m.cls := findClass_of_methodNamed B.named
  have hlocks := B.notSynchronized
  have hin : meth.name = "<init>" := (name_of_methodNamed B.named B.method).1
  subst hsz
  have hD := hD0.self (sz := s.heap.size)
  generalize hAe : va_A [(o1, .inr (1, [.null, .null, .null, .int 0, .int 0]))] s.heap.size = A at hD hX ⊢
  have hA : ∀ q : Nat, s.heap.size ≤ q → A q := fun q h => by rw [← hAe]; exact Or.inr h
  have hS : va_S A s.heap s.heap [] := va_S.rf
  have hP : va_P D vwCl [(o1, .inr (1, [.null, .null, .null, .int 0, .int 0]))] s.heap := hP
  have hl := lv_entry ([.ref o1]) (n := 1) (Nat.le_of_ble_eq_true rfl)
  rw [lg_entry_eq]
  generalize (lg_sl ([.ref o1]) ++ List.replicate (1 - (lg_sl ([.ref o1])).length) Slot.unset).toArray = ls at hl ⊢
  have hl : lv_has ls 1 [(0, .ref o1)] := hl
  refine lv_aload_n hx hb d_TS_init_0 rfl (lv_at hl 0 rfl) ?_
  refine W.objInit hx hb hown (hw _ kw_70) (hw _ kw_63) (hw _ kw_64) rfl (by rw [hml]; exact hl.1) rfl d_TS_init_1 (Nat.le_of_ble_eq_true rfl) (Nat.le_of_ble_eq_true rfl) ?_
  refine W.eq (g2 := F0 m 4 ls []) rfl ?_
  refine lv_aload_n hx hb d_TS_init_4 rfl (lv_at hl 0 rfl) ?_
  refine lv_bipush (v := nI 100) hx hb d_TS_init_5 (by decide +kernel) ?_
  refine nw_I (N := 100) hx hb (hw _ kw_87) hE.1 hP hD hS hA (by decide +kernel) (by decide +kernel) (by decide) (Nat.le_of_ble_eq_true rfl) (Nat.le_of_ble_eq_true rfl) d_TS_init_7 (fun qa_1 H hP hD hS => ?_)
  have hP : va_P D vwCl [(o1, .inr (1, [.null, .null, .null, .int 0, .int 0])), (qa_1, .inl (cI, 100, .inl (fun _ => 0)))] H := hP
  have hD : va_D A [(o1, .inr (1, [.null, .null, .null, .int 0, .int 0])), (qa_1, .inl (cI, 100, .inl (fun _ => 0)))] := hD
  refine W.widen (k := 1) (n := 100) (by omega) (by omega) ?_
  refine va_putF (D := D) (ci := 1) (v := .ref qa_1) (ty := (.array .int)) (C := R_TS) (T := T_TS) (N := 5) hx hb hw in_TS ty_TS ty_TS_ok nm_TS_ok hown hE.1 hP hD hS 0 rfl rfl 0 (by decide) (hw _ kw_71) (fun _ h9 => h9) rfl hin rfl (by decide +kernel) rfl rfl (Nat.le_of_ble_eq_true rfl) d_TS_init_9 (fun H locs hP hD hS => ?_)
  have hP : va_P D vwCl [(o1, .inr (1, [.ref qa_1, .null, .null, .int 0, .int 0])), (qa_1, .inl (cI, 100, .inl (fun _ => 0)))] H := hP
  have hD : va_D A [(o1, .inr (1, [.ref qa_1, .null, .null, .int 0, .int 0])), (qa_1, .inl (cI, 100, .inl (fun _ => 0)))] := hD
  refine lv_aload_n hx hb d_TS_init_12 rfl (lv_at hl 0 rfl) ?_
  refine lv_sipush (v := nI 244) hx hb d_TS_init_13 (by decide +kernel) ?_
  refine nw_I (N := 244) hx hb (hw _ kw_87) hE.1 hP hD hS hA (by decide +kernel) (by decide +kernel) (by decide) (Nat.le_of_ble_eq_true rfl) (Nat.le_of_ble_eq_true rfl) d_TS_init_16 (fun qa_2 H hP hD hS => ?_)
  have hP : va_P D vwCl [(o1, .inr (1, [.ref qa_1, .null, .null, .int 0, .int 0])), (qa_1, .inl (cI, 100, .inl (fun _ => 0))), (qa_2, .inl (cI, 244, .inl (fun _ => 0)))] H := hP
  have hD : va_D A [(o1, .inr (1, [.ref qa_1, .null, .null, .int 0, .int 0])), (qa_1, .inl (cI, 100, .inl (fun _ => 0))), (qa_2, .inl (cI, 244, .inl (fun _ => 0)))] := hD
  refine W.widen (k := 2) (n := 344) (by omega) (by omega) ?_
  refine va_putF (D := D) (ci := 1) (v := .ref qa_2) (ty := (.array .int)) (C := R_TS) (T := T_TS) (N := 5) hx hb hw in_TS ty_TS ty_TS_ok nm_TS_ok hown hE.1 hP hD hS 0 rfl rfl 1 (by decide) (hw _ kw_72) (fun _ h9 => h9) rfl hin rfl (by decide +kernel) rfl rfl (Nat.le_of_ble_eq_true rfl) d_TS_init_18 (fun H locs hP hD hS => ?_)
  have hP : va_P D vwCl [(o1, .inr (1, [.ref qa_1, .ref qa_2, .null, .int 0, .int 0])), (qa_1, .inl (cI, 100, .inl (fun _ => 0))), (qa_2, .inl (cI, 244, .inl (fun _ => 0)))] H := hP
  have hD : va_D A [(o1, .inr (1, [.ref qa_1, .ref qa_2, .null, .int 0, .int 0])), (qa_1, .inl (cI, 100, .inl (fun _ => 0))), (qa_2, .inl (cI, 244, .inl (fun _ => 0)))] := hD
  refine lv_aload_n hx hb d_TS_init_21 rfl (lv_at hl 0 rfl) ?_
  refine lv_sipush (v := nI 400) hx hb d_TS_init_22 (by decide +kernel) ?_
  refine nw_J (N := 400) hx hb (hw _ kw_88) hE.1 hP hD hS hA (by decide +kernel) (by decide +kernel) (by decide) (Nat.le_of_ble_eq_true rfl) (Nat.le_of_ble_eq_true rfl) d_TS_init_25 (fun qa_3 H hP hD hS => ?_)
  have hP : va_P D vwCl [(o1, .inr (1, [.ref qa_1, .ref qa_2, .null, .int 0, .int 0])), (qa_1, .inl (cI, 100, .inl (fun _ => 0))), (qa_2, .inl (cI, 244, .inl (fun _ => 0))), (qa_3, .inl (cJ, 400, .inr (.inl (fun _ => 0))))] H := hP
  have hD : va_D A [(o1, .inr (1, [.ref qa_1, .ref qa_2, .null, .int 0, .int 0])), (qa_1, .inl (cI, 100, .inl (fun _ => 0))), (qa_2, .inl (cI, 244, .inl (fun _ => 0))), (qa_3, .inl (cJ, 400, .inr (.inl (fun _ => 0))))] := hD
  refine W.widen (k := 3) (n := 744) (by omega) (by omega) ?_
  refine va_putF (D := D) (ci := 1) (v := .ref qa_3) (ty := (.array .long)) (C := R_TS) (T := T_TS) (N := 5) hx hb hw in_TS ty_TS ty_TS_ok nm_TS_ok hown hE.1 hP hD hS 0 rfl rfl 2 (by decide) (hw _ kw_73) (fun _ h9 => h9) rfl hin rfl (by decide +kernel) rfl rfl (Nat.le_of_ble_eq_true rfl) d_TS_init_27 (fun H locs hP hD hS => ?_)
  have hP : va_P D vwCl [(o1, .inr (1, [.ref qa_1, .ref qa_2, .ref qa_3, .int 0, .int 0])), (qa_1, .inl (cI, 100, .inl (fun _ => 0))), (qa_2, .inl (cI, 244, .inl (fun _ => 0))), (qa_3, .inl (cJ, 400, .inr (.inl (fun _ => 0))))] H := hP
  have hD : va_D A [(o1, .inr (1, [.ref qa_1, .ref qa_2, .ref qa_3, .int 0, .int 0])), (qa_1, .inl (cI, 100, .inl (fun _ => 0))), (qa_2, .inl (cI, 244, .inl (fun _ => 0))), (qa_3, .inl (cJ, 400, .inr (.inl (fun _ => 0))))] := hD
  refine lv_aload_n hx hb d_TS_init_30 rfl (lv_at hl 0 rfl) ?_
  refine lv_iconst (v := nI 0) hx hb d_TS_init_31 (by decide +kernel) ?_
  refine va_put (D := D) (ci := 1) (v := .int (nI 0)) (ty := .int) (C := R_TS) (T := T_TS) (N := 5) hx hb hw in_TS ty_TS ty_TS_ok nm_TS_ok hown hE.1 hP hD hS 0 rfl rfl 3 (by decide) (hw _ kw_74) (fun _ h9 => h9) rfl (by decide +kernel) rfl rfl (Nat.le_of_ble_eq_true rfl) d_TS_init_32 (fun H locs hP hD hS => ?_)
  have hP : va_P D vwCl [(o1, .inr (1, [.ref qa_1, .ref qa_2, .ref qa_3, .int (nI 0), .int 0])), (qa_1, .inl (cI, 100, .inl (fun _ => 0))), (qa_2, .inl (cI, 244, .inl (fun _ => 0))), (qa_3, .inl (cJ, 400, .inr (.inl (fun _ => 0))))] H := hP
  have hD : va_D A [(o1, .inr (1, [.ref qa_1, .ref qa_2, .ref qa_3, .int (nI 0), .int 0])), (qa_1, .inl (cI, 100, .inl (fun _ => 0))), (qa_2, .inl (cI, 244, .inl (fun _ => 0))), (qa_3, .inl (cJ, 400, .inr (.inl (fun _ => 0))))] := hD
  refine lv_aload_n hx hb d_TS_init_35 rfl (lv_at hl 0 rfl) ?_
  refine lv_iconst (v := nI 2) hx hb d_TS_init_36 (by decide +kernel) ?_
  refine va_put (D := D) (ci := 1) (v := .int (nI 2)) (ty := .int) (C := R_TS) (T := T_TS) (N := 5) hx hb hw in_TS ty_TS ty_TS_ok nm_TS_ok hown hE.1 hP hD hS 0 rfl rfl 4 (by decide) (hw _ kw_75) (fun _ h9 => h9) rfl (by decide +kernel) rfl rfl (Nat.le_of_ble_eq_true rfl) d_TS_init_37 (fun H locs hP hD hS => ?_)
  have hP : va_P D vwCl [(o1, .inr (1, [.ref qa_1, .ref qa_2, .ref qa_3, .int (nI 0), .int (nI 2)])), (qa_1, .inl (cI, 100, .inl (fun _ => 0))), (qa_2, .inl (cI, 244, .inl (fun _ => 0))), (qa_3, .inl (cJ, 400, .inr (.inl (fun _ => 0))))] H := hP
  have hD : va_D A [(o1, .inr (1, [.ref qa_1, .ref qa_2, .ref qa_3, .int (nI 0), .int (nI 2)])), (qa_1, .inl (cI, 100, .inl (fun _ => 0))), (qa_2, .inl (cI, 244, .inl (fun _ => 0))), (qa_3, .inl (cJ, 400, .inr (.inl (fun _ => 0))))] := hD
  have hP9 := hP.sub (ws' := [(o1, .inr (1, [.ref qa_1, .ref qa_2, .ref qa_3, .int (nI 0), .int (nI 2)])), (qa_1, .inl (cI, 100, .inl (fun _ => 0))), (qa_2, .inl (cI, 244, .inl (fun _ => 0))), (qa_3, .inl (cJ, 400, .inr (.inl (fun _ => 0))))]) [0, 1, 2, 3] rfl
  have hD9 := hD.sub (ws' := [(o1, .inr (1, [.ref qa_1, .ref qa_2, .ref qa_3, .int (nI 0), .int (nI 2)])), (qa_1, .inl (cI, 100, .inl (fun _ => 0))), (qa_2, .inl (cI, 244, .inl (fun _ => 0))), (qa_3, .inl (cJ, 400, .inr (.inl (fun _ => 0))))]) [0, 1, 2, 3] (by decide) rfl
  exact W.vret hx hb hr (fun t9 ht hW => ⟨⟨(qa_1, qa_2, qa_3), rfl, trivial, ⟨by rw [ht]; exact hP9, hD9⟩⟩, hS.F ht⟩) hS.2.2 d_TS_init_40
