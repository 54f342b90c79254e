theorem d_MD_frontier_0 : decode c_MD_frontier 0 = .ok (.aload_n 0, 1) := by decide +kernel
theorem d_MD_frontier_1 : decode c_MD_frontier 1 = .ok (.iconst 0, 1) := by decide +kernel
theorem d_MD_frontier_2 : decode c_MD_frontier 2 = .ok (.putfield 56, 3) := by decide +kernel
theorem d_MD_frontier_5 : decode c_MD_frontier 5 = .ok (.aload_n 0, 1) := by decide +kernel
theorem d_MD_frontier_6 : decode c_MD_frontier 6 = .ok (.aload_n 0, 1) := by decide +kernel
theorem d_MD_frontier_7 : decode c_MD_frontier 7 = .ok (.getfield 20, 3) := by decide +kernel
theorem d_MD_frontier_10 : decode c_MD_frontier 10 = .ok (.iconst (-1), 1) := by decide +kernel
theorem d_MD_frontier_11 : decode c_MD_frontier 11 = .ok (.invokevirtual 128, 3) := by decide +kernel
theorem d_MD_frontier_14 : decode c_MD_frontier 14 = .ok (.ireturn, 1) := by decide +kernel
theorem d_MD_outputs_0 : decode c_MD_outputs 0 = .ok (.iconst 0, 1) := by decide +kernel
theorem d_MD_outputs_1 : decode c_MD_outputs 1 = .ok (.istore_n 2, 1) := by decide +kernel
theorem d_MD_outputs_2 : decode c_MD_outputs 2 = .ok (.iconst 0, 1) := by decide +kernel
theorem d_MD_outputs_3 : decode c_MD_outputs 3 = .ok (.istore_n 3, 1) := by decide +kernel
theorem d_MD_outputs_4 : decode c_MD_outputs 4 = .ok (.iload_n 3, 1) := by decide +kernel
theorem d_MD_outputs_5 : decode c_MD_outputs 5 = .ok (.iconst 4, 1) := by decide +kernel
theorem d_MD_outputs_6 : decode c_MD_outputs 6 = .ok (.if_icmp .ge 60, 3) := by decide +kernel
theorem d_MD_outputs_9 : decode c_MD_outputs 9 = .ok (.iload_n 1, 1) := by decide +kernel
theorem d_MD_outputs_10 : decode c_MD_outputs 10 = .ok (.iload_n 3, 1) := by decide +kernel
theorem d_MD_outputs_11 : decode c_MD_outputs 11 = .ok (.invokestatic 70, 3) := by decide +kernel
theorem d_MD_outputs_14 : decode c_MD_outputs 14 = .ok (.istore 4, 2) := by decide +kernel
theorem d_MD_outputs_16 : decode c_MD_outputs 16 = .ok (.iload_n 2, 1) := by decide +kernel
theorem d_MD_outputs_17 : decode c_MD_outputs 17 = .ok (.iload 4, 2) := by decide +kernel
theorem d_MD_outputs_19 : decode c_MD_outputs 19 = .ok (.ifCond .lt 38, 3) := by decide +kernel
theorem d_MD_outputs_22 : decode c_MD_outputs 22 = .ok (.aload_n 0, 1) := by decide +kernel
theorem d_MD_outputs_23 : decode c_MD_outputs 23 = .ok (.getfield 20, 3) := by decide +kernel
theorem d_MD_outputs_26 : decode c_MD_outputs 26 = .ok (.iload 4, 2) := by decide +kernel
theorem d_MD_outputs_28 : decode c_MD_outputs 28 = .ok (.iaload, 1) := by decide +kernel
theorem d_MD_outputs_29 : decode c_MD_outputs 29 = .ok (.ifCond .le 28, 3) := by decide +kernel
theorem d_MD_outputs_32 : decode c_MD_outputs 32 = .ok (.aload_n 0, 1) := by decide +kernel
theorem d_MD_outputs_33 : decode c_MD_outputs 33 = .ok (.getfield 23, 3) := by decide +kernel
theorem d_MD_outputs_36 : decode c_MD_outputs 36 = .ok (.iload 4, 2) := by decide +kernel
theorem d_MD_outputs_38 : decode c_MD_outputs 38 = .ok (.iaload, 1) := by decide +kernel
theorem d_MD_outputs_39 : decode c_MD_outputs 39 = .ok (.iload_n 3, 1) := by decide +kernel
theorem d_MD_outputs_40 : decode c_MD_outputs 40 = .ok (.iconst 2, 1) := by decide +kernel
theorem d_MD_outputs_41 : decode c_MD_outputs 41 = .ok (.iadd, 1) := by decide +kernel
theorem d_MD_outputs_42 : decode c_MD_outputs 42 = .ok (.iconst 4, 1) := by decide +kernel
theorem d_MD_outputs_43 : decode c_MD_outputs 43 = .ok (.irem, 1) := by decide +kernel
theorem d_MD_outputs_44 : decode c_MD_outputs 44 = .ok (.ishr, 1) := by decide +kernel
theorem d_MD_outputs_45 : decode c_MD_outputs 45 = .ok (.iconst 1, 1) := by decide +kernel
theorem d_MD_outputs_46 : decode c_MD_outputs 46 = .ok (.iand, 1) := by decide +kernel
theorem d_MD_outputs_47 : decode c_MD_outputs 47 = .ok (.iconst 1, 1) := by decide +kernel
theorem d_MD_outputs_48 : decode c_MD_outputs 48 = .ok (.if_icmp .ne 9, 3) := by decide +kernel
theorem d_MD_outputs_51 : decode c_MD_outputs 51 = .ok (.iconst 1, 1) := by decide +kernel
theorem d_MD_outputs_52 : decode c_MD_outputs 52 = .ok (.iload_n 3, 1) := by decide +kernel
theorem d_MD_outputs_53 : decode c_MD_outputs 53 = .ok (.ishl, 1) := by decide +kernel
theorem d_MD_outputs_54 : decode c_MD_outputs 54 = .ok (.goto 4, 3) := by decide +kernel
theorem d_MD_outputs_57 : decode c_MD_outputs 57 = .ok (.iconst 0, 1) := by decide +kernel
theorem d_MD_outputs_58 : decode c_MD_outputs 58 = .ok (.iadd, 1) := by decide +kernel
theorem d_MD_outputs_59 : decode c_MD_outputs 59 = .ok (.istore_n 2, 1) := by decide +kernel
theorem d_MD_outputs_60 : decode c_MD_outputs 60 = .ok (.iinc 3 1, 3) := by decide +kernel
theorem d_MD_outputs_63 : decode c_MD_outputs 63 = .ok (.goto (-59), 3) := by decide +kernel
theorem d_MD_outputs_66 : decode c_MD_outputs 66 = .ok (.iload_n 2, 1) := by decide +kernel
theorem d_MD_outputs_67 : decode c_MD_outputs 67 = .ok (.ireturn, 1) := by decide +kernel
theorem d_MD_count_0 : decode c_MD_count 0 = .ok (.aload_n 0, 1) := by decide +kernel
theorem d_MD_count_1 : decode c_MD_count 1 = .ok (.iload_n 1, 1) := by decide +kernel
theorem d_MD_count_2 : decode c_MD_count 2 = .ok (.iconst 0, 1) := by decide +kernel
theorem d_MD_count_3 : decode c_MD_count 3 = .ok (.aload_n 0, 1) := by decide +kernel
theorem d_MD_count_4 : decode c_MD_count 4 = .ok (.getfield 63, 3) := by decide +kernel
theorem d_MD_count_7 : decode c_MD_count 7 = .ok (.invokestatic 59, 3) := by decide +kernel
theorem d_MD_count_10 : decode c_MD_count 10 = .ok (.ifCond .ne 7, 3) := by decide +kernel
theorem d_MD_count_13 : decode c_MD_count 13 = .ok (.iconst 1, 1) := by decide +kernel
theorem d_MD_count_14 : decode c_MD_count 14 = .ok (.goto 4, 3) := by decide +kernel
theorem d_MD_count_17 : decode c_MD_count 17 = .ok (.iconst 0, 1) := by decide +kernel
theorem d_MD_count_18 : decode c_MD_count 18 = .ok (.iconst 1, 1) := by decide +kernel
theorem d_MD_count_19 : decode c_MD_count 19 = .ok (.invokevirtual 105, 3) := by decide +kernel
theorem d_MD_count_22 : decode c_MD_count 22 = .ok (.ifCond .eq 5, 3) := by decide +kernel
theorem d_MD_count_25 : decode c_MD_count 25 = .ok (.iconst 0, 1) := by decide +kernel
theorem d_MD_count_26 : decode c_MD_count 26 = .ok (.ireturn, 1) := by decide +kernel
theorem d_MD_count_27 : decode c_MD_count 27 = .ok (.iconst 0, 1) := by decide +kernel
theorem d_MD_count_28 : decode c_MD_count 28 = .ok (.istore_n 2, 1) := by decide +kernel
theorem d_MD_count_29 : decode c_MD_count 29 = .ok (.iconst 0, 1) := by decide +kernel
theorem d_MD_count_30 : decode c_MD_count 30 = .ok (.istore_n 3, 1) := by decide +kernel
theorem d_MD_count_31 : decode c_MD_count 31 = .ok (.iload_n 3, 1) := by decide +kernel
theorem d_MD_count_32 : decode c_MD_count 32 = .ok (.sipush 1600, 3) := by decide +kernel
theorem d_MD_count_35 : decode c_MD_count 35 = .ok (.if_icmp .ge 40, 3) := by decide +kernel
theorem d_MD_count_38 : decode c_MD_count 38 = .ok (.iload_n 2, 1) := by decide +kernel
theorem d_MD_count_39 : decode c_MD_count 39 = .ok (.aload_n 0, 1) := by decide +kernel
theorem d_MD_count_40 : decode c_MD_count 40 = .ok (.getfield 20, 3) := by decide +kernel
theorem d_MD_count_43 : decode c_MD_count 43 = .ok (.iload_n 3, 1) := by decide +kernel
theorem d_MD_count_44 : decode c_MD_count 44 = .ok (.iaload, 1) := by decide +kernel
theorem d_MD_count_45 : decode c_MD_count 45 = .ok (.ifCond .le 21, 3) := by decide +kernel
theorem d_MD_count_48 : decode c_MD_count 48 = .ok (.iload_n 1, 1) := by decide +kernel
theorem d_MD_count_49 : decode c_MD_count 49 = .ok (.ifCond .eq 13, 3) := by decide +kernel
theorem d_MD_count_52 : decode c_MD_count 52 = .ok (.aload_n 0, 1) := by decide +kernel
theorem d_MD_count_53 : decode c_MD_count 53 = .ok (.getfield 20, 3) := by decide +kernel
theorem d_MD_count_56 : decode c_MD_count 56 = .ok (.iload_n 3, 1) := by decide +kernel
theorem d_MD_count_57 : decode c_MD_count 57 = .ok (.iaload, 1) := by decide +kernel
theorem d_MD_count_58 : decode c_MD_count 58 = .ok (.iload_n 1, 1) := by decide +kernel
theorem d_MD_count_59 : decode c_MD_count 59 = .ok (.if_icmp .ne 7, 3) := by decide +kernel
theorem d_MD_count_62 : decode c_MD_count 62 = .ok (.iconst 1, 1) := by decide +kernel
theorem d_MD_count_63 : decode c_MD_count 63 = .ok (.goto 4, 3) := by decide +kernel
theorem d_MD_count_66 : decode c_MD_count 66 = .ok (.iconst 0, 1) := by decide +kernel
theorem d_MD_count_67 : decode c_MD_count 67 = .ok (.iadd, 1) := by decide +kernel
theorem d_MD_count_68 : decode c_MD_count 68 = .ok (.istore_n 2, 1) := by decide +kernel
theorem d_MD_count_69 : decode c_MD_count 69 = .ok (.iinc 3 1, 3) := by decide +kernel
theorem d_MD_count_72 : decode c_MD_count 72 = .ok (.goto (-41), 3) := by decide +kernel
theorem d_MD_count_75 : decode c_MD_count 75 = .ok (.iload_n 2, 1) := by decide +kernel
theorem d_MD_count_76 : decode c_MD_count 76 = .ok (.ireturn, 1) := by decide +kernel
def ouS (fi ip : Nat → Int32) (p k : Nat) (a : Int32) : Int32 :=
  if bsV p k < 0 then a + nI 0 else if fi (nn (bsV p k)) ≤ 0 then a + nI 0 else if (ip (nn (bsV p k)) >>> (nI ((k + 2) % 4) &&& 31)) &&& nI 1 = nI 1 then a + (nI 1 <<< (nI k &&& 31)) else a + nI 0
def ouL (fi ip : Nat → Int32) (p : Nat) : Nat → Int32
  | 0 => nI 0
  | k + 1 => ouS fi ip p k (ouL fi ip p k)
def mcS (fi : Nat → Int32) (x : Int32) (p : Nat) (a : Int32) : Int32 := if fi p ≤ 0 then a + nI 0 else if x = 0 then a + nI 1 else if fi p = x then a + nI 1 else a + nI 0
def mcL (fi : Nat → Int32) (x : Int32) : Nat → Int32
  | 0 => nI 0
  | p + 1 => mcS fi x p (mcL fi x p)
def mcV (fi : Nat → Int32) (yt x : Int32) : Int32 × Int32 := if wiN x (nI 0) yt = 0 then (nI 0, nI 1) else (mcL fi x 1600, nI 0)
set_option maxHeartbeats 4000000 in
set_option maxRecDepth 100000 in
theorem lp_k_MD_outputs_4 {p : Program} {l : Launch} {e : Env} {s : State} {m : MethodId} {args : Array Value} {below : List Frame} {meth : Method} {c : Code} {D : va_G} {cI cJ : ClassId} {Q : State → Prop} (w0 : Nat) (w1 : Nat) (w2 : Nat) (w3 : Nat) (w4 : Nat) (w5 : Nat) (w6 : Nat) (w7 : Nat) (w8 : Nat) (w9 : Nat) (w10 : Nat) (w11 : Nat) (w12 : Nat) (w13 : Nat) (w14 : Nat) (yt : Int32) (te : Int32) (nt : Int32) (wb : Int32) (rc : Int32) (fp : Int32) (ft : Int32) (th : Int32) (fi : Nat → Int32) (ip : Nat → Int32) (pp : Nat) (hp : pp < 1600)  (hx : p.tables.exec = Jvm.exec) (hb : c.code = c_MD_outputs) (hml : c.maxLocals = 5) (hown : s.vm.findClass R_MD = some m.cls) (hw : ∀ w ∈ gw, w.before args s = true) (hE : En D cI cJ s) (hX : Sx (fun _ => False) s s.heap) (hP : va_P D vwCl [(w0, .inr (5, [.ref w1, .ref w2, .int yt, .int te, .ref w3, .ref w4, .ref w5, .int nt, .int wb, .ref w6, .ref w7, .ref w8, .int rc, .ref w9, .ref w10, .ref w11, .ref w12, .ref w13, .ref w14, .int fp, .int ft, .int th])), (w3, .inl (cI, 1600, .inl fi)), (w4, .inl (cI, 1600, .inl ip))] s.heap)
    (kx0 : ∀ (a9 : Int32), (a9 = ouL fi ip pp 4) → ∀ (ls : Array Slot), lv_has ls 5 [(2, .int a9)] → W p l e ({ frames := 3, cells := 0, slots := 0, locals := 66 } : Room) s m args below meth c s.heap [] 0 0 Q (F0 m 66 ls [])) :
    ∀ (fu : Nat) (k : Nat) (a9 : Int32), 4 - k < fu → (k ≤ 4) → (a9 = ouL fi ip pp k) → ∀ (ls : Array Slot), lv_has ls 5 [(0, .ref w0), (1, .int (nI pp)), (2, .int a9), (3, .int (nI k))] → W p l e ({ frames := 3, cells := 0, slots := 0, locals := 66 } : Room) s m args below meth c s.heap [] 0 0 Q (F0 m 4 ls []) := by
  have hS : va_S (fun _ => False) s.heap s.heap [] := va_S.rf
  intro fu
  induction fu with
  | zero =>
    intro k a9 h0
    exact absurd h0 (Nat.not_lt_zero _)
  | succ fu ih =>
    intro k a9 hmu hk ha9 ls hl
    refine lv_iload_n hx hb d_MD_outputs_4 rfl (lv_at hl 3 rfl) ?_
    refine lv_iconst (v := nI 4) hx hb d_MD_outputs_5 (by decide +kernel) ?_
    refine jn_icmp_ge (tgt := 66) (a := k) (b := 4) hx hb d_MD_outputs_6 (by decide) (by omega) (by omega) (fun c_6 => ?_) (fun c_6 => ?_)
    · skip
      exact kx0 a9 (by rw [ha9, show k = 4 by omega]) _ (lv_sub hl [2] rfl)
    · skip
      refine lv_iload_n hx hb d_MD_outputs_9 rfl (lv_at hl 1 rfl) ?_
      refine lv_iload_n hx hb d_MD_outputs_10 rfl (lv_at hl 3 rfl) ?_
      refine vp_callSi (va_Run.run (va_runS (As := [.int (nI pp), .int (nI k)]) (rest := []) ⟨hx, hb, hml, hown, hw⟩ (k_MD_beside l D cI cJ pp k hp (by omega)) (va_cwS 2 hw (gS kw_898 kw_899 kw_45 kw_900) rfl rfl rfl (by decide +kernel) ⟨Nat.le_of_ble_eq_true rfl, Nat.le_of_ble_eq_true rfl⟩) (pre_Sp (wc := []) hE hX hP hS [] rfl) rfl rfl hl.1 rfl (lv_room (Nat.le_of_ble_eq_true rfl)) d_MD_outputs_11 ⟨Nat.le_of_ble_eq_true rfl, Nat.le_of_ble_eq_true rfl⟩)) (fun r_1 hr_1 => ?_)
      obtain rfl : bsV pp k = r_1 := hr_1.symm
      refine lv_istore (lv' := [(4, .int (bsV pp k)), (0, .ref w0), (1, .int (nI pp)), (2, .int a9), (3, .int (nI k))]) hx hb d_MD_outputs_14 hl (by decide) rfl (fun ls hl => ?_)
      refine lv_iload_n hx hb d_MD_outputs_16 rfl (lv_at hl 3 rfl) ?_
      refine lv_iload hx hb d_MD_outputs_17 (lv_at hl 0 rfl) ?_
      refine lv_if_lt (tgt := 57) hx hb d_MD_outputs_19 (by decide) (fun c_19 => ?_) (fun c_19 => ?_)
      · skip
        refine lv_iconst (v := nI 0) hx hb d_MD_outputs_57 (by decide +kernel) ?_
        refine lv_iadd hx hb d_MD_outputs_58 ?_
        refine lv_istore_n (lv' := [(2, .int (a9 + (nI 0))), (4, .int (bsV pp k)), (0, .ref w0), (1, .int (nI pp)), (3, .int (nI k))]) hx hb d_MD_outputs_59 rfl hl (by decide) rfl (fun ls hl => ?_)
        refine lv_iinc (v := nI (k + 1)) (lv' := [(3, .int (nI (k + 1))), (2, .int (a9 + (nI 0))), (4, .int (bsV pp k)), (0, .ref w0), (1, .int (nI pp))]) hx hb d_MD_outputs_60 hl (k := 4) rfl (jn_inc k 1) (by decide) rfl (fun ls hl => ?_)
        refine lv_goto (tgt := 4) hx hb d_MD_outputs_63 (by decide) ?_
        exact ih (k + 1) (a9 + (nI 0)) (by omega) (by omega) (by rw [ouL, ← ha9]; unfold ouS; rw [if_pos c_19]) _ (lv_sub hl [3, 4, 1, 0] rfl)
      · skip
        have hbv := bsV_nn hp c_19
        refine lv_aload_n hx hb d_MD_outputs_22 rfl (lv_at hl 1 rfl) ?_
        refine va_get (D := D) (ci := 5) (v := .ref w3) (C := R_MD) (T := T_MD) (N := 22) hx hb hw in_MD hown hE.1 hP 0 rfl rfl 4 (by decide) (hw _ kw_765) (fun _ h9 => h9) rfl d_MD_outputs_23 ?_
        refine lv_iload hx hb d_MD_outputs_26 (lv_at hl 0 rfl) ?_
        refine W.eq (g2 := F0 m 28 ls [.int (nI (nn (bsV pp k))), .ref w3, .int a9]) (by rw [← hbv.1]) ?_
        refine jn_iald (k := (nn (bsV pp k))) hx hb hE.1 hP 1 0 rfl rfl hbv.2 (by omega) d_MD_outputs_28 ?_
        refine lv_if_le (tgt := 57) hx hb d_MD_outputs_29 (by decide) (fun c_29 => ?_) (fun c_29 => ?_)
        · skip
          refine lv_iconst (v := nI 0) hx hb d_MD_outputs_57 (by decide +kernel) ?_
          refine lv_iadd hx hb d_MD_outputs_58 ?_
          refine lv_istore_n (lv' := [(2, .int (a9 + (nI 0))), (4, .int (bsV pp k)), (0, .ref w0), (1, .int (nI pp)), (3, .int (nI k))]) hx hb d_MD_outputs_59 rfl hl (by decide) rfl (fun ls hl => ?_)
          refine lv_iinc (v := nI (k + 1)) (lv' := [(3, .int (nI (k + 1))), (2, .int (a9 + (nI 0))), (4, .int (bsV pp k)), (0, .ref w0), (1, .int (nI pp))]) hx hb d_MD_outputs_60 hl (k := 4) rfl (jn_inc k 1) (by decide) rfl (fun ls hl => ?_)
          refine lv_goto (tgt := 4) hx hb d_MD_outputs_63 (by decide) ?_
          exact ih (k + 1) (a9 + (nI 0)) (by omega) (by omega) (by rw [ouL, ← ha9]; unfold ouS; rw [if_neg c_19, if_pos c_29]) _ (lv_sub hl [3, 4, 1, 0] rfl)
        · skip
          refine lv_aload_n hx hb d_MD_outputs_32 rfl (lv_at hl 1 rfl) ?_
          refine va_get (D := D) (ci := 5) (v := .ref w4) (C := R_MD) (T := T_MD) (N := 22) hx hb hw in_MD hown hE.1 hP 0 rfl rfl 5 (by decide) (hw _ kw_766) (fun _ h9 => h9) rfl d_MD_outputs_33 ?_
          refine lv_iload hx hb d_MD_outputs_36 (lv_at hl 0 rfl) ?_
          refine W.eq (g2 := F0 m 38 ls [.int (nI (nn (bsV pp k))), .ref w4, .int a9]) (by rw [← hbv.1]) ?_
          refine jn_iald (k := (nn (bsV pp k))) hx hb hE.1 hP 2 0 rfl rfl hbv.2 (by omega) d_MD_outputs_38 ?_
          refine lv_iload_n hx hb d_MD_outputs_39 rfl (lv_at hl 4 rfl) ?_
          refine lv_iconst (v := nI 2) hx hb d_MD_outputs_40 (by decide +kernel) ?_
          refine jn_iadd (a := k) (b := 2) hx hb d_MD_outputs_41 ?_
          refine lv_iconst (v := nI 4) hx hb d_MD_outputs_42 (by decide +kernel) ?_
          refine jn_irem (a := (k + 2)) (b := 4) hx hb d_MD_outputs_43 (by omega) (by omega) (by omega) ?_
          refine lv_ishr hx hb d_MD_outputs_44 ?_
          refine lv_iconst (v := nI 1) hx hb d_MD_outputs_45 (by decide +kernel) ?_
          refine lv_iand hx hb d_MD_outputs_46 ?_
          refine lv_iconst (v := nI 1) hx hb d_MD_outputs_47 (by decide +kernel) ?_
          refine lv_icmp_ne (tgt := 57) hx hb d_MD_outputs_48 (by decide) (fun c_48 => ?_) (fun c_48 => ?_)
          · skip
            refine lv_iconst (v := nI 0) hx hb d_MD_outputs_57 (by decide +kernel) ?_
            refine lv_iadd hx hb d_MD_outputs_58 ?_
            refine lv_istore_n (lv' := [(2, .int (a9 + (nI 0))), (4, .int (bsV pp k)), (0, .ref w0), (1, .int (nI pp)), (3, .int (nI k))]) hx hb d_MD_outputs_59 rfl hl (by decide) rfl (fun ls hl => ?_)
            refine lv_iinc (v := nI (k + 1)) (lv' := [(3, .int (nI (k + 1))), (2, .int (a9 + (nI 0))), (4, .int (bsV pp k)), (0, .ref w0), (1, .int (nI pp))]) hx hb d_MD_outputs_60 hl (k := 4) rfl (jn_inc k 1) (by decide) rfl (fun ls hl => ?_)
            refine lv_goto (tgt := 4) hx hb d_MD_outputs_63 (by decide) ?_
            exact ih (k + 1) (a9 + (nI 0)) (by omega) (by omega) (by rw [ouL, ← ha9]; unfold ouS; rw [if_neg c_19, if_neg c_29, if_neg c_48]) _ (lv_sub hl [3, 4, 1, 0] rfl)
          · skip
            refine lv_iconst (v := nI 1) hx hb d_MD_outputs_51 (by decide +kernel) ?_
            refine lv_iload_n hx hb d_MD_outputs_52 rfl (lv_at hl 4 rfl) ?_
            refine lv_ishl hx hb d_MD_outputs_53 ?_
            refine lv_goto (tgt := 58) hx hb d_MD_outputs_54 (by decide) ?_
            refine lv_iadd hx hb d_MD_outputs_58 ?_
            refine lv_istore_n (lv' := [(2, .int (a9 + ((nI 1) <<< ((nI k) &&& 31)))), (4, .int (bsV pp k)), (0, .ref w0), (1, .int (nI pp)), (3, .int (nI k))]) hx hb d_MD_outputs_59 rfl hl (by decide) rfl (fun ls hl => ?_)
            refine lv_iinc (v := nI (k + 1)) (lv' := [(3, .int (nI (k + 1))), (2, .int (a9 + ((nI 1) <<< ((nI k) &&& 31)))), (4, .int (bsV pp k)), (0, .ref w0), (1, .int (nI pp))]) hx hb d_MD_outputs_60 hl (k := 4) rfl (jn_inc k 1) (by decide) rfl (fun ls hl => ?_)
            refine lv_goto (tgt := 4) hx hb d_MD_outputs_63 (by decide) ?_
            exact ih (k + 1) (a9 + ((nI 1) <<< ((nI k) &&& 31))) (by omega) (by omega) (by rw [ouL, ← ha9]; unfold ouS; rw [if_neg c_19, if_neg c_29, if_pos c_48]) _ (lv_sub hl [3, 4, 1, 0] rfl)
set_option maxHeartbeats 4000000 in
set_option maxRecDepth 100000 in
/-- outputs -/
theorem k_MD_outputs (l : Launch) (D : va_G) (cI cJ : ClassId) (w0 : Nat) (w1 : Nat) (w2 : Nat) (w3 : Nat) (w4 : Nat) (w5 : Nat) (w6 : Nat) (w7 : Nat) (w8 : Nat) (w9 : Nat) (w10 : Nat) (w11 : Nat) (w12 : Nat) (w13 : Nat) (w14 : Nat) (yt : Int32) (te : Int32) (nt : Int32) (wb : Int32) (rc : Int32) (fp : Int32) (ft : Int32) (th : Int32) (fi : Nat → Int32) (ip : Nat → Int32) (pp : Nat) (hp : pp < 1600) : Met l y_MD_outputs ws_MD_outputs ({ frames := 3, cells := 0, slots := 0, locals := 66 } : Room) (va_Pc [.ref w0, .int (nI pp)] (Pp D cI cJ [(w0, .inr (5, [.ref w1, .ref w2, .int yt, .int te, .ref w3, .ref w4, .ref w5, .int nt, .int wb, .ref w6, .ref w7, .ref w8, .int rc, .ref w9, .ref w10, .ref w11, .ref w12, .ref w13, .ref w14, .int fp, .int ft, .int th])), (w3, .inl (cI, 1600, .inl fi)), (w4, .inl (cI, 1600, .inl ip))])) (vp_Si (fun r : Int32 => r = ouL fi ip pp 4)) 0 0 (fun _ => False) := by
  refine Met.ofW (cc := c_MD_outputs) (maxL := 5) (ret := (some .int)) (by decide) rfl ?_
  intro p e s m args below meth c s₁ B hml hv
  obtain ⟨rfl, hE, hP, hX⟩ := hv
  have hx := B.exec
  have hb := B.bytes
  have hr := B.returns
  have hw : ∀ w ∈ gw, w.before _ s = true := fun w h => atoms_spec (ws := ws_MD_outputs) B.pre w (List.mem_cons_of_mem _ h)
  have hown : s.vm.findClass R_MD = some m.cls := findClass_of_methodNamed B.named
  have hlocks := B.notSynchronized
  have hS : va_S (fun _ => False) s.heap s.heap [] := va_S.rf
  have hl := lv_entry ([.ref w0, .int (nI pp)]) (n := 5) (Nat.le_of_ble_eq_true rfl)
  rw [lg_entry_eq]
  generalize (lg_sl ([.ref w0, .int (nI pp)]) ++ List.replicate (5 - (lg_sl ([.ref w0, .int (nI pp)])).length) Slot.unset).toArray = ls at hl ⊢
  have hl : lv_has ls 5 [(0, .ref w0), (1, .int (nI pp))] := hl
  refine lv_iconst (v := nI 0) hx hb d_MD_outputs_0 (by decide +kernel) ?_
  refine lv_istore_n (lv' := [(2, .int (nI 0)), (0, .ref w0), (1, .int (nI pp))]) hx hb d_MD_outputs_1 rfl hl (by decide) rfl (fun ls hl => ?_)
  refine lv_iconst (v := nI 0) hx hb d_MD_outputs_2 (by decide +kernel) ?_
  refine lv_istore_n (lv' := [(3, .int (nI 0)), (2, .int (nI 0)), (0, .ref w0), (1, .int (nI pp))]) hx hb d_MD_outputs_3 rfl hl (by decide) rfl (fun ls hl => ?_)
  refine lp_k_MD_outputs_4 w0 w1 w2 w3 w4 w5 w6 w7 w8 w9 w10 w11 w12 w13 w14 yt te nt wb rc fp ft th fi ip pp hp hx hb hml hown hw hE hX hP (fun a9 ha9 ls hl => ?_) ((4 - 0) + 1) 0 (nI 0) (Nat.lt_succ_self _) (Nat.zero_le _) rfl _ (lv_sub hl [2, 3, 1, 0] rfl)
  refine lv_iload_n hx hb d_MD_outputs_66 rfl (lv_at hl 0 rfl) ?_
  exact W.iret (v := a9) hx hb hr (fun t9 ht hW => ⟨_, rfl, ha9, ht⟩) (fun q h => by cases h) d_MD_outputs_67
set_option maxHeartbeats 4000000 in
set_option maxRecDepth 100000 in
theorem lp_k_MD_count_31 {p : Program} {l : Launch} {e : Env} {s : State} {m : MethodId} {args : Array Value} {below : List Frame} {meth : Method} {c : Code} {D : va_G} {cI cJ : ClassId} {Q : State → Prop} {A : Nat → Prop} (w0 : Nat) (w1 : Nat) (w2 : Nat) (w3 : Nat) (w4 : Nat) (w5 : Nat) (w6 : Nat) (w7 : Nat) (w8 : Nat) (w9 : Nat) (w10 : Nat) (w11 : Nat) (w12 : Nat) (w13 : Nat) (w14 : Nat) (yt : Int32) (te : Int32) (nt : Int32) (wb : Int32) (rc : Int32) (fp : Int32) (ft : Int32) (th : Int32) (fi : Nat → Int32) (x : Int32)   (hx : p.tables.exec = Jvm.exec) (hb : c.code = c_MD_count) (hml : c.maxLocals = 4) (hown : s.vm.findClass R_MD = some m.cls) (hw : ∀ w ∈ gw, w.before args s = true) (hE : En D cI cJ s) (hX : Sx A s s.heap) (hA : ∀ q : Nat, s.heap.size ≤ q → A q)
    (kx0 : ∀ (a9 : Int32), (a9 = mcL fi x 1600) → ∀ (H : Heap) (locs : List Loc) (ls : Array Slot), va_P D vwCl [(w0, .inr (5, [.ref w1, .ref w2, .int yt, .int te, .ref w3, .ref w4, .ref w5, .int nt, .int wb, .ref w6, .ref w7, .ref w8, .int rc, .ref w9, .ref w10, .ref w11, .ref w12, .ref w13, .ref w14, .int fp, .int ft, .int (nI (flN 0 1))])), (w3, .inl (cI, 1600, .inl fi))] H → va_D A [(w0, .inr (5, [.ref w1, .ref w2, .int yt, .int te, .ref w3, .ref w4, .ref w5, .int nt, .int wb, .ref w6, .ref w7, .ref w8, .int rc, .ref w9, .ref w10, .ref w11, .ref w12, .ref w13, .ref w14, .int fp, .int ft, .int (nI (flN 0 1))])), (w3, .inl (cI, 1600, .inl fi))] → va_S A s.heap H locs → lv_has ls 4 [(2, .int a9)] → W p l e ({ frames := 1, cells := 0, slots := 0, locals := 22 } : Room) s m args below meth c H locs 0 0 Q (F0 m 75 ls [])) :
    ∀ (fu : Nat) (pp : Nat) (a9 : Int32), 1600 - pp < fu → (pp ≤ 1600) → (a9 = mcL fi x pp) → ∀ (H : Heap) (locs : List Loc) (ls : Array Slot), va_P D vwCl [(w0, .inr (5, [.ref w1, .ref w2, .int yt, .int te, .ref w3, .ref w4, .ref w5, .int nt, .int wb, .ref w6, .ref w7, .ref w8, .int rc, .ref w9, .ref w10, .ref w11, .ref w12, .ref w13, .ref w14, .int fp, .int ft, .int (nI (flN 0 1))])), (w3, .inl (cI, 1600, .inl fi))] H → va_D A [(w0, .inr (5, [.ref w1, .ref w2, .int yt, .int te, .ref w3, .ref w4, .ref w5, .int nt, .int wb, .ref w6, .ref w7, .ref w8, .int rc, .ref w9, .ref w10, .ref w11, .ref w12, .ref w13, .ref w14, .int fp, .int ft, .int (nI (flN 0 1))])), (w3, .inl (cI, 1600, .inl fi))] → va_S A s.heap H locs → lv_has ls 4 [(0, .ref w0), (1, .int x), (2, .int a9), (3, .int (nI pp))] → W p l e ({ frames := 1, cells := 0, slots := 0, locals := 22 } : Room) s m args below meth c H locs 0 0 Q (F0 m 31 ls []) := by
  intro fu
  induction fu with
  | zero =>
    intro pp a9 h0
    exact absurd h0 (Nat.not_lt_zero _)
  | succ fu ih =>
    intro pp a9 hmu hpp ha9 H locs ls hP hD hS hl
    refine lv_iload_n hx hb d_MD_count_31 rfl (lv_at hl 3 rfl) ?_
    refine lv_sipush (v := nI 1600) hx hb d_MD_count_32 (by decide +kernel) ?_
    refine jn_icmp_ge (tgt := 75) (a := pp) (b := 1600) hx hb d_MD_count_35 (by decide) (by omega) (by omega) (fun c_35 => ?_) (fun c_35 => ?_)
    · skip
      exact kx0 a9 (by rw [ha9, show pp = 1600 by omega]) _ _ _ (hP.sub [0, 1] rfl) (hD.sub [0, 1] (by decide) rfl) hS (lv_sub hl [2] rfl)
    · skip
      refine lv_iload_n hx hb d_MD_count_38 rfl (lv_at hl 2 rfl) ?_
      refine lv_aload_n hx hb d_MD_count_39 rfl (lv_at hl 0 rfl) ?_
      refine va_get (D := D) (ci := 5) (v := .ref w3) (C := R_MD) (T := T_MD) (N := 22) hx hb hw in_MD hown hE.1 hP 0 rfl rfl 4 (by decide) (hw _ kw_765) (fun _ h9 => h9) rfl d_MD_count_40 ?_
      refine lv_iload_n hx hb d_MD_count_43 rfl (lv_at hl 3 rfl) ?_
      refine jn_iald (k := pp) hx hb hE.1 hP 1 0 rfl rfl (by omega) (by omega) d_MD_count_44 ?_
      refine lv_if_le (tgt := 66) hx hb d_MD_count_45 (by decide) (fun c_45 => ?_) (fun c_45 => ?_)
      · skip
        refine lv_iconst (v := nI 0) hx hb d_MD_count_66 (by decide +kernel) ?_
        refine lv_iadd hx hb d_MD_count_67 ?_
        refine lv_istore_n (lv' := [(2, .int (a9 + (nI 0))), (0, .ref w0), (1, .int x), (3, .int (nI pp))]) hx hb d_MD_count_68 rfl hl (by decide) rfl (fun ls hl => ?_)
        refine lv_iinc (v := nI (pp + 1)) (lv' := [(3, .int (nI (pp + 1))), (2, .int (a9 + (nI 0))), (0, .ref w0), (1, .int x)]) hx hb d_MD_count_69 hl (k := 3) rfl (jn_inc pp 1) (by decide) rfl (fun ls hl => ?_)
        refine lv_goto (tgt := 31) hx hb d_MD_count_72 (by decide) ?_
        exact ih (pp + 1) (a9 + (nI 0)) (by omega) (by omega) (by rw [mcL, ← ha9]; unfold mcS; rw [if_pos c_45]) _ _ _ (hP.sub [0, 1] rfl) (hD.sub [0, 1] (by decide) rfl) hS (lv_sub hl [2, 3, 1, 0] rfl)
      · skip
        refine lv_iload_n hx hb d_MD_count_48 rfl (lv_at hl 1 rfl) ?_
        refine lv_if_eq (tgt := 62) hx hb d_MD_count_49 (by decide) (fun c_49 => ?_) (fun c_49 => ?_)
        · skip
          refine lv_iconst (v := nI 1) hx hb d_MD_count_62 (by decide +kernel) ?_
          refine lv_goto (tgt := 67) hx hb d_MD_count_63 (by decide) ?_
          refine lv_iadd hx hb d_MD_count_67 ?_
          refine lv_istore_n (lv' := [(2, .int (a9 + (nI 1))), (0, .ref w0), (1, .int x), (3, .int (nI pp))]) hx hb d_MD_count_68 rfl hl (by decide) rfl (fun ls hl => ?_)
          refine lv_iinc (v := nI (pp + 1)) (lv' := [(3, .int (nI (pp + 1))), (2, .int (a9 + (nI 1))), (0, .ref w0), (1, .int x)]) hx hb d_MD_count_69 hl (k := 3) rfl (jn_inc pp 1) (by decide) rfl (fun ls hl => ?_)
          refine lv_goto (tgt := 31) hx hb d_MD_count_72 (by decide) ?_
          exact ih (pp + 1) (a9 + (nI 1)) (by omega) (by omega) (by rw [mcL, ← ha9]; unfold mcS; rw [if_neg c_45, if_pos c_49]) _ _ _ (hP.sub [0, 1] rfl) (hD.sub [0, 1] (by decide) rfl) hS (lv_sub hl [2, 3, 1, 0] rfl)
        · skip
          refine lv_aload_n hx hb d_MD_count_52 rfl (lv_at hl 0 rfl) ?_
          refine va_get (D := D) (ci := 5) (v := .ref w3) (C := R_MD) (T := T_MD) (N := 22) hx hb hw in_MD hown hE.1 hP 0 rfl rfl 4 (by decide) (hw _ kw_765) (fun _ h9 => h9) rfl d_MD_count_53 ?_
          refine lv_iload_n hx hb d_MD_count_56 rfl (lv_at hl 3 rfl) ?_
          refine jn_iald (k := pp) hx hb hE.1 hP 1 0 rfl rfl (by omega) (by omega) d_MD_count_57 ?_
          refine lv_iload_n hx hb d_MD_count_58 rfl (lv_at hl 1 rfl) ?_
          refine lv_icmp_ne (tgt := 66) hx hb d_MD_count_59 (by decide) (fun c_59 => ?_) (fun c_59 => ?_)
          · skip
            refine lv_iconst (v := nI 0) hx hb d_MD_count_66 (by decide +kernel) ?_
            refine lv_iadd hx hb d_MD_count_67 ?_
            refine lv_istore_n (lv' := [(2, .int (a9 + (nI 0))), (0, .ref w0), (1, .int x), (3, .int (nI pp))]) hx hb d_MD_count_68 rfl hl (by decide) rfl (fun ls hl => ?_)
            refine lv_iinc (v := nI (pp + 1)) (lv' := [(3, .int (nI (pp + 1))), (2, .int (a9 + (nI 0))), (0, .ref w0), (1, .int x)]) hx hb d_MD_count_69 hl (k := 3) rfl (jn_inc pp 1) (by decide) rfl (fun ls hl => ?_)
            refine lv_goto (tgt := 31) hx hb d_MD_count_72 (by decide) ?_
            exact ih (pp + 1) (a9 + (nI 0)) (by omega) (by omega) (by rw [mcL, ← ha9]; unfold mcS; rw [if_neg c_45, if_neg c_49, if_neg c_59]) _ _ _ (hP.sub [0, 1] rfl) (hD.sub [0, 1] (by decide) rfl) hS (lv_sub hl [2, 3, 1, 0] rfl)
          · skip
            refine lv_iconst (v := nI 1) hx hb d_MD_count_62 (by decide +kernel) ?_
            refine lv_goto (tgt := 67) hx hb d_MD_count_63 (by decide) ?_
            refine lv_iadd hx hb d_MD_count_67 ?_
            refine lv_istore_n (lv' := [(2, .int (a9 + (nI 1))), (0, .ref w0), (1, .int x), (3, .int (nI pp))]) hx hb d_MD_count_68 rfl hl (by decide) rfl (fun ls hl => ?_)
            refine lv_iinc (v := nI (pp + 1)) (lv' := [(3, .int (nI (pp + 1))), (2, .int (a9 + (nI 1))), (0, .ref w0), (1, .int x)]) hx hb d_MD_count_69 hl (k := 3) rfl (jn_inc pp 1) (by decide) rfl (fun ls hl => ?_)
            refine lv_goto (tgt := 31) hx hb d_MD_count_72 (by decide) ?_
            exact ih (pp + 1) (a9 + (nI 1)) (by omega) (by omega) (by rw [mcL, ← ha9]; unfold mcS; rw [if_neg c_45, if_neg c_49, if_pos c_59]) _ _ _ (hP.sub [0, 1] rfl) (hD.sub [0, 1] (by decide) rfl) hS (lv_sub hl [2, 3, 1, 0] rfl)
set_option maxHeartbeats 4000000 in
set_option maxRecDepth 100000 in
/-- count -/
theorem k_MD_count (l : Launch) (D : va_G) (cI cJ : ClassId) (w0 : Nat) (w1 : Nat) (w2 : Nat) (w3 : Nat) (w4 : Nat) (w5 : Nat) (w6 : Nat) (w7 : Nat) (w8 : Nat) (w9 : Nat) (w10 : Nat) (w11 : Nat) (w12 : Nat) (w13 : Nat) (w14 : Nat) (yt : Int32) (te : Int32) (nt : Int32) (wb : Int32) (rc : Int32) (fp : Int32) (ft : Int32) (th : Int32) (fi : Nat → Int32) (x : Int32) (sz : Nat)  : Met l y_MD_count ws_MD_count ({ frames := 1, cells := 0, slots := 0, locals := 22 } : Room) (va_Pc [.ref w0, .int x] (Pw D cI cJ [(w0, .inr (5, [.ref w1, .ref w2, .int yt, .int te, .ref w3, .ref w4, .ref w5, .int nt, .int wb, .ref w6, .ref w7, .ref w8, .int rc, .ref w9, .ref w10, .ref w11, .ref w12, .ref w13, .ref w14, .int fp, .int ft, .int th])), (w3, .inl (cI, 1600, .inl fi))] sz)) (va_Qi (fun (r : Int32) (u9 : Int32) => (r, u9) = mcV fi yt x) (fun u9 t9 => Bw D (va_A [(w0, .inr (5, [.ref w1, .ref w2, .int yt, .int te, .ref w3, .ref w4, .ref w5, .int nt, .int wb, .ref w6, .ref w7, .ref w8, .int rc, .ref w9, .ref w10, .ref w11, .ref w12, .ref w13, .ref w14, .int fp, .int ft, .int th])), (w3, .inl (cI, 1600, .inl fi))] sz) [(w0, .inr (5, [.ref w1, .ref w2, .int yt, .int te, .ref w3, .ref w4, .ref w5, .int nt, .int wb, .ref w6, .ref w7, .ref w8, .int rc, .ref w9, .ref w10, .ref w11, .ref w12, .ref w13, .ref w14, .int fp, .int ft, .int u9])), (w3, .inl (cI, 1600, .inl fi))] t9) (va_A [(w0, .inr (5, [.ref w1, .ref w2, .int yt, .int te, .ref w3, .ref w4, .ref w5, .int nt, .int wb, .ref w6, .ref w7, .ref w8, .int rc, .ref w9, .ref w10, .ref w11, .ref w12, .ref w13, .ref w14, .int fp, .int ft, .int th])), (w3, .inl (cI, 1600, .inl fi))] sz)) 0 0 (va_A [(w0, .inr (5, [.ref w1, .ref w2, .int yt, .int te, .ref w3, .ref w4, .ref w5, .int nt, .int wb, .ref w6, .ref w7, .ref w8, .int rc, .ref w9, .ref w10, .ref w11, .ref w12, .ref w13, .ref w14, .int fp, .int ft, .int th])), (w3, .inl (cI, 1600, .inl fi))] sz) := by
  refine Met.ofW (cc := c_MD_count) (maxL := 4) (ret := (some .int)) (by decide) rfl ?_
  intro p e s m args below meth c s₁ B hml hv
  obtain ⟨rfl, hsz, hE, hP, hD0, hX⟩ := hv
  have hx := B.exec
  have hb := B.bytes
  have hr := B.returns
  have hw : ∀ w ∈ gw, w.before _ s = true := fun w h => atoms_spec (ws := ws_MD_count) B.pre w (List.mem_cons_of_mem _ h)
  have hown : s.vm.findClass R_MD = some m.cls := findClass_of_methodNamed B.named
  have hlocks := B.notSynchronized
  subst hsz
  have hD := hD0.self (sz := s.heap.size)
  generalize hAe : va_A [(w0, .inr (5, [.ref w1, .ref w2, .int yt, .int te, .ref w3, .ref w4, .ref w5, .int nt, .int wb, .ref w6, .ref w7, .ref w8, .int rc, .ref w9, .ref w10, .ref w11, .ref w12, .ref w13, .ref w14, .int fp, .int ft, .int th])), (w3, .inl (cI, 1600, .inl fi))] s.heap.size = A at hD hX ⊢
  have hA : ∀ q : Nat, s.heap.size ≤ q → A q := fun q h => by rw [← hAe]; exact Or.inr h
  have hS : va_S A s.heap s.heap [] := va_S.rf
  have hP : va_P D vwCl [(w0, .inr (5, [.ref w1, .ref w2, .int yt, .int te, .ref w3, .ref w4, .ref w5, .int nt, .int wb, .ref w6, .ref w7, .ref w8, .int rc, .ref w9, .ref w10, .ref w11, .ref w12, .ref w13, .ref w14, .int fp, .int ft, .int th])), (w3, .inl (cI, 1600, .inl fi))] s.heap := hP
  have hl := lv_entry ([.ref w0, .int x]) (n := 4) (Nat.le_of_ble_eq_true rfl)
  rw [lg_entry_eq]
  generalize (lg_sl ([.ref w0, .int x]) ++ List.replicate (4 - (lg_sl ([.ref w0, .int x])).length) Slot.unset).toArray = ls at hl ⊢
  have hl : lv_has ls 4 [(0, .ref w0), (1, .int x)] := hl
  refine lv_aload_n hx hb d_MD_count_0 rfl (lv_at hl 0 rfl) ?_
  refine lv_iload_n hx hb d_MD_count_1 rfl (lv_at hl 1 rfl) ?_
  refine lv_iconst (v := nI 0) hx hb d_MD_count_2 (by decide +kernel) ?_
  refine lv_aload_n hx hb d_MD_count_3 rfl (lv_at hl 0 rfl) ?_
  refine va_get (D := D) (ci := 5) (v := .int yt) (C := R_MD) (T := T_MD) (N := 22) hx hb hw in_MD hown hE.1 hP 0 rfl rfl 2 (by decide) (hw _ kw_763) (fun _ h9 => h9) rfl d_MD_count_4 ?_
  refine vp_callSi (va_Run.run (va_runS (As := [.int x, .int (nI 0), .int yt]) (rest := [.ref w0]) ⟨hx, hb, hml, hown, hw⟩ (k_MD_within l D cI cJ x (nI 0) yt) (va_cwS 3 hw (gS kw_840 kw_841 kw_45 kw_842) rfl rfl rfl (by decide +kernel) ⟨Nat.le_of_ble_eq_true rfl, Nat.le_of_ble_eq_true rfl⟩) (pre_Sp (wc := []) hE hX hP hS [] rfl) rfl rfl hl.1 rfl (lv_room (Nat.le_of_ble_eq_true rfl)) d_MD_count_7 ⟨Nat.le_of_ble_eq_true rfl, Nat.le_of_ble_eq_true rfl⟩)) (fun r_1 hr_1 => ?_)
  obtain rfl : nI (wiN x (nI 0) yt) = r_1 := hr_1.symm
  refine jn_if_ne (tgt := 17) (a := (wiN x (nI 0) yt)) hx hb d_MD_count_10 (by decide) (by have := wiN_le x (nI 0) yt; omega) (fun c_10 => ?_) (fun c_10 => ?_)
  · skip
    refine lv_iconst (v := nI 0) hx hb d_MD_count_17 (by decide +kernel) ?_
    refine lv_iconst (v := nI 1) hx hb d_MD_count_18 (by decide +kernel) ?_
    refine cl_i (wr := [(w3, .inl (cI, 1600, .inl fi))]) (va_runV (As := [.int (nI 0), .int (nI 1)]) (rest := []) ⟨hx, hb, hml, hown, hw⟩ (k_MD_fails l D cI cJ w0 w1 w2 w3 w4 w5 w6 w7 w8 w9 w10 w11 w12 w13 w14 yt te nt wb rc fp ft th 0 1 _ (by omega)) (cwV 2 hw (gV kw_836 kw_838 kw_20 kw_45 kw_839) rfl rfl rfl (by decide +kernel) ⟨Nat.le_of_ble_eq_true rfl, Nat.le_of_ble_eq_true rfl⟩) (pre_Vw (wc := [(w0, .inr (5, [.ref w1, .ref w2, .int yt, .int te, .ref w3, .ref w4, .ref w5, .int nt, .int wb, .ref w6, .ref w7, .ref w8, .int rc, .ref w9, .ref w10, .ref w11, .ref w12, .ref w13, .ref w14, .int fp, .int ft, .int th]))]) (q0 := 0) hE hX hA hP hD hS [0] (by decide) rfl rfl rfl rfl) rfl rfl hl.1 rfl (lv_room (Nat.le_of_ble_eq_true rfl)) d_MD_count_19 ⟨Nat.le_of_ble_eq_true rfl, Nat.le_of_ble_eq_true rfl⟩) hP hD hS hA [0] [1] rfl rfl (by decide) (by decide) (fun r_2 u_r_2 H locs hr_2 hP hD hS => ?_)
    obtain rfl : nI 0 = r_2 := hr_2.symm
    have hP : va_P D vwCl [(w3, .inl (cI, 1600, .inl fi)), (w0, .inr (5, [.ref w1, .ref w2, .int yt, .int te, .ref w3, .ref w4, .ref w5, .int nt, .int wb, .ref w6, .ref w7, .ref w8, .int rc, .ref w9, .ref w10, .ref w11, .ref w12, .ref w13, .ref w14, .int fp, .int ft, .int (nI (flN 0 1))]))] H := hP
    have hD : va_D A [(w3, .inl (cI, 1600, .inl fi)), (w0, .inr (5, [.ref w1, .ref w2, .int yt, .int te, .ref w3, .ref w4, .ref w5, .int nt, .int wb, .ref w6, .ref w7, .ref w8, .int rc, .ref w9, .ref w10, .ref w11, .ref w12, .ref w13, .ref w14, .int fp, .int ft, .int (nI (flN 0 1))]))] := hD
    refine jn_if_eq (tgt := 27) (a := 0) hx hb d_MD_count_22 (by decide) (by decide) (fun _ => ?_) (fun c9 => absurd c9 (by decide))
    refine lv_iconst (v := nI 0) hx hb d_MD_count_27 (by decide +kernel) ?_
    refine lv_istore_n (lv' := [(2, .int (nI 0)), (0, .ref w0), (1, .int x)]) hx hb d_MD_count_28 rfl hl (by decide) rfl (fun ls hl => ?_)
    refine lv_iconst (v := nI 0) hx hb d_MD_count_29 (by decide +kernel) ?_
    refine lv_istore_n (lv' := [(3, .int (nI 0)), (2, .int (nI 0)), (0, .ref w0), (1, .int x)]) hx hb d_MD_count_30 rfl hl (by decide) rfl (fun ls hl => ?_)
    refine lp_k_MD_count_31 w0 w1 w2 w3 w4 w5 w6 w7 w8 w9 w10 w11 w12 w13 w14 yt te nt wb rc fp ft th fi x hx hb hml hown hw hE hX hA (fun a9 ha9 H locs ls hP hD hS hl => ?_) ((1600 - 0) + 1) 0 (nI 0) (Nat.lt_succ_self _) (Nat.zero_le _) rfl _ _ _ (hP.sub [1, 0] rfl) (hD.sub [1, 0] (by decide) rfl) hS (lv_sub hl [2, 3, 1, 0] rfl)
    refine lv_iload_n hx hb d_MD_count_75 rfl (lv_at hl 0 rfl) ?_
    have hP9 := hP.sub (ws' := [(w0, .inr (5, [.ref w1, .ref w2, .int yt, .int te, .ref w3, .ref w4, .ref w5, .int nt, .int wb, .ref w6, .ref w7, .ref w8, .int rc, .ref w9, .ref w10, .ref w11, .ref w12, .ref w13, .ref w14, .int fp, .int ft, .int (nI (flN 0 1))])), (w3, .inl (cI, 1600, .inl fi))]) [0, 1] rfl
    have hD9 := hD.sub (ws' := [(w0, .inr (5, [.ref w1, .ref w2, .int yt, .int te, .ref w3, .ref w4, .ref w5, .int nt, .int wb, .ref w6, .ref w7, .ref w8, .int rc, .ref w9, .ref w10, .ref w11, .ref w12, .ref w13, .ref w14, .int fp, .int ft, .int (nI (flN 0 1))])), (w3, .inl (cI, 1600, .inl fi))]) [0, 1] (by decide) rfl
    exact W.iret (v := a9) hx hb hr (fun t9 ht hW => ⟨⟨_, (nI 0), rfl, (by unfold mcV; rw [if_neg c_10, ha9]), ⟨by rw [ht]; exact hP9, hD9⟩⟩, hS.F ht⟩) hS.2.2 d_MD_count_76
  · skip
    refine lv_iconst (v := nI 1) hx hb d_MD_count_13 (by decide +kernel) ?_
    refine lv_goto (tgt := 18) hx hb d_MD_count_14 (by decide) ?_
    refine lv_iconst (v := nI 1) hx hb d_MD_count_18 (by decide +kernel) ?_
    refine cl_i (wr := [(w3, .inl (cI, 1600, .inl fi))]) (va_runV (As := [.int (nI 1), .int (nI 1)]) (rest := []) ⟨hx, hb, hml, hown, hw⟩ (k_MD_fails l D cI cJ w0 w1 w2 w3 w4 w5 w6 w7 w8 w9 w10 w11 w12 w13 w14 yt te nt wb rc fp ft th 1 1 _ (by omega)) (cwV 2 hw (gV kw_836 kw_838 kw_20 kw_45 kw_839) rfl rfl rfl (by decide +kernel) ⟨Nat.le_of_ble_eq_true rfl, Nat.le_of_ble_eq_true rfl⟩) (pre_Vw (wc := [(w0, .inr (5, [.ref w1, .ref w2, .int yt, .int te, .ref w3, .ref w4, .ref w5, .int nt, .int wb, .ref w6, .ref w7, .ref w8, .int rc, .ref w9, .ref w10, .ref w11, .ref w12, .ref w13, .ref w14, .int fp, .int ft, .int th]))]) (q0 := 0) hE hX hA hP hD hS [0] (by decide) rfl rfl rfl rfl) rfl rfl hl.1 rfl (lv_room (Nat.le_of_ble_eq_true rfl)) d_MD_count_19 ⟨Nat.le_of_ble_eq_true rfl, Nat.le_of_ble_eq_true rfl⟩) hP hD hS hA [0] [1] rfl rfl (by decide) (by decide) (fun r_3 u_r_3 H locs hr_3 hP hD hS => ?_)
    obtain rfl : nI 1 = r_3 := hr_3.symm
    have hP : va_P D vwCl [(w3, .inl (cI, 1600, .inl fi)), (w0, .inr (5, [.ref w1, .ref w2, .int yt, .int te, .ref w3, .ref w4, .ref w5, .int nt, .int wb, .ref w6, .ref w7, .ref w8, .int rc, .ref w9, .ref w10, .ref w11, .ref w12, .ref w13, .ref w14, .int fp, .int ft, .int (nI (flN 1 1))]))] H := hP
    have hD : va_D A [(w3, .inl (cI, 1600, .inl fi)), (w0, .inr (5, [.ref w1, .ref w2, .int yt, .int te, .ref w3, .ref w4, .ref w5, .int nt, .int wb, .ref w6, .ref w7, .ref w8, .int rc, .ref w9, .ref w10, .ref w11, .ref w12, .ref w13, .ref w14, .int fp, .int ft, .int (nI (flN 1 1))]))] := hD
    refine jn_if_eq (tgt := 27) (a := 1) hx hb d_MD_count_22 (by decide) (by decide) (fun c9 => absurd c9 (by decide)) (fun _ => ?_)
    refine lv_iconst (v := nI 0) hx hb d_MD_count_25 (by decide +kernel) ?_
    have hP9 := hP.sub (ws' := [(w0, .inr (5, [.ref w1, .ref w2, .int yt, .int te, .ref w3, .ref w4, .ref w5, .int nt, .int wb, .ref w6, .ref w7, .ref w8, .int rc, .ref w9, .ref w10, .ref w11, .ref w12, .ref w13, .ref w14, .int fp, .int ft, .int (nI (flN 1 1))])), (w3, .inl (cI, 1600, .inl fi))]) [1, 0] rfl
    have hD9 := hD.sub (ws' := [(w0, .inr (5, [.ref w1, .ref w2, .int yt, .int te, .ref w3, .ref w4, .ref w5, .int nt, .int wb, .ref w6, .ref w7, .ref w8, .int rc, .ref w9, .ref w10, .ref w11, .ref w12, .ref w13, .ref w14, .int fp, .int ft, .int (nI (flN 1 1))])), (w3, .inl (cI, 1600, .inl fi))]) [1, 0] (by decide) rfl
    exact W.iret (v := nI 0) hx hb hr (fun t9 ht hW => ⟨⟨_, (nI 1), rfl, (by unfold mcV; rw [if_pos c_10]), ⟨by rw [ht]; exact hP9, hD9⟩⟩, hS.F ht⟩) hS.2.2 d_MD_count_26
set_option maxHeartbeats 4000000 in
set_option maxRecDepth 100000 in
/-- frontier -/
theorem k_MD_frontier (l : Launch) (D : va_G) (cI cJ : ClassId) (w0 : Nat) (w1 : Nat) (w2 : Nat) (w3 : Nat) (w4 : Nat) (w5 : Nat) (w6 : Nat) (w7 : Nat) (w8 : Nat) (w9 : Nat) (w10 : Nat) (w11 : Nat) (w12 : Nat) (w13 : Nat) (w14 : Nat) (y : Nat) (te : Int32) (nt : Int32) (wb : Int32) (rc : Int32) (fp : Int32) (ft : Int32) (th : Int32) (sg : Nat → Int32) (gl : Nat → Int32) (fi : Nat → Int32) (sz : Nat) (hy : y ≤ 60) (hfi : okFi fi) (hgl : okGl gl) : Met l y_MD_frontier ws_MD_frontier ({ frames := 7, cells := 0, slots := 0, locals := 166 } : Room) (va_Pc [.ref w0] (Pw D cI cJ [(w0, .inr (5, [.ref w1, .ref w2, .int (nI y), .int te, .ref w3, .ref w4, .ref w5, .int nt, .int wb, .ref w6, .ref w7, .ref w8, .int rc, .ref w9, .ref w10, .ref w11, .ref w12, .ref w13, .ref w14, .int fp, .int ft, .int th])), (w1, .inl (cI, 100, .inl sg)), (w2, .inl (cI, 244, .inl gl)), (w3, .inl (cI, 1600, .inl fi))] sz)) (va_Qi (fun (r : Int32) (u9 : FN) => ∃ o : Option Nat, r = nI (fdR (o, u9)) ∧ (o, u9) = fdV sg gl fi te (-1) y fp ft) (fun u9 t9 => Bw D (va_A [(w0, .inr (5, [.ref w1, .ref w2, .int (nI y), .int te, .ref w3, .ref w4, .ref w5, .int nt, .int wb, .ref w6, .ref w7, .ref w8, .int rc, .ref w9, .ref w10, .ref w11, .ref w12, .ref w13, .ref w14, .int fp, .int ft, .int th])), (w1, .inl (cI, 100, .inl sg)), (w2, .inl (cI, 244, .inl gl)), (w3, .inl (cI, 1600, .inl fi))] sz) [(w0, .inr (5, [.ref w1, .ref w2, .int (nI y), .int te, .ref w3, .ref w4, .ref w5, .int nt, .int wb, .ref w6, .ref w7, .ref w8, .int rc, .ref w9, .ref w10, .ref w11, .ref w12, .ref w13, .ref w14, .int u9.2.1, .int u9.2.2, .int (nI 0)])), (w1, .inl (cI, 100, .inl sg)), (w2, .inl (cI, 244, .inl gl)), (w3, .inl (cI, 1600, .inl fi))] t9) (va_A [(w0, .inr (5, [.ref w1, .ref w2, .int (nI y), .int te, .ref w3, .ref w4, .ref w5, .int nt, .int wb, .ref w6, .ref w7, .ref w8, .int rc, .ref w9, .ref w10, .ref w11, .ref w12, .ref w13, .ref w14, .int fp, .int ft, .int th])), (w1, .inl (cI, 100, .inl sg)), (w2, .inl (cI, 244, .inl gl)), (w3, .inl (cI, 1600, .inl fi))] sz)) 0 0 (va_A [(w0, .inr (5, [.ref w1, .ref w2, .int (nI y), .int te, .ref w3, .ref w4, .ref w5, .int nt, .int wb, .ref w6, .ref w7, .ref w8, .int rc, .ref w9, .ref w10, .ref w11, .ref w12, .ref w13, .ref w14, .int fp, .int ft, .int th])), (w1, .inl (cI, 100, .inl sg)), (w2, .inl (cI, 244, .inl gl)), (w3, .inl (cI, 1600, .inl fi))] sz) := by
  refine Met.ofW (cc := c_MD_frontier) (maxL := 1) (ret := (some .int)) (by decide) rfl ?_
  intro p e s m args below meth c s₁ B hml hv
  obtain ⟨rfl, hsz, hE, hP, hD0, hX⟩ := hv
  have hx := B.exec
  have hb := B.bytes
  have hr := B.returns
  have hw : ∀ w ∈ gw, w.before _ s = true := fun w h => atoms_spec (ws := ws_MD_frontier) B.pre w (List.mem_cons_of_mem _ h)
  have hown : s.vm.findClass R_MD = some m.cls := findClass_of_methodNamed B.named
  have hlocks := B.notSynchronized
  subst hsz
  have hD := hD0.self (sz := s.heap.size)
  generalize hAe : va_A [(w0, .inr (5, [.ref w1, .ref w2, .int (nI y), .int te, .ref w3, .ref w4, .ref w5, .int nt, .int wb, .ref w6, .ref w7, .ref w8, .int rc, .ref w9, .ref w10, .ref w11, .ref w12, .ref w13, .ref w14, .int fp, .int ft, .int th])), (w1, .inl (cI, 100, .inl sg)), (w2, .inl (cI, 244, .inl gl)), (w3, .inl (cI, 1600, .inl fi))] s.heap.size = A at hD hX ⊢
  have hA : ∀ q : Nat, s.heap.size ≤ q → A q := fun q h => by rw [← hAe]; exact Or.inr h
  have hS : va_S A s.heap s.heap [] := va_S.rf
  have hP : va_P D vwCl [(w0, .inr (5, [.ref w1, .ref w2, .int (nI y), .int te, .ref w3, .ref w4, .ref w5, .int nt, .int wb, .ref w6, .ref w7, .ref w8, .int rc, .ref w9, .ref w10, .ref w11, .ref w12, .ref w13, .ref w14, .int fp, .int ft, .int th])), (w1, .inl (cI, 100, .inl sg)), (w2, .inl (cI, 244, .inl gl)), (w3, .inl (cI, 1600, .inl fi))] s.heap := hP
  have hl := lv_entry ([.ref w0]) (n := 1) (Nat.le_of_ble_eq_true rfl)
  rw [lg_entry_eq]
  generalize (lg_sl ([.ref w0]) ++ List.replicate (1 - (lg_sl ([.ref w0])).length) Slot.unset).toArray = ls at hl ⊢
  have hl : lv_has ls 1 [(0, .ref w0)] := hl
  refine lv_aload_n hx hb d_MD_frontier_0 rfl (lv_at hl 0 rfl) ?_
  refine lv_iconst (v := nI 0) hx hb d_MD_frontier_1 (by decide +kernel) ?_
  refine va_put (D := D) (ci := 5) (v := .int (nI 0)) (ty := .int) (C := R_MD) (T := T_MD) (N := 22) hx hb hw in_MD ty_MD ty_MD_ok nm_MD_ok hown hE.1 hP hD hS 0 rfl rfl 21 (by decide) (hw _ kw_782) (fun _ h9 => h9) rfl (by decide +kernel) rfl rfl (Nat.le_of_ble_eq_true rfl) d_MD_frontier_2 (fun H locs hP hD hS => ?_)
  have hP : va_P D vwCl [(w0, .inr (5, [.ref w1, .ref w2, .int (nI y), .int te, .ref w3, .ref w4, .ref w5, .int nt, .int wb, .ref w6, .ref w7, .ref w8, .int rc, .ref w9, .ref w10, .ref w11, .ref w12, .ref w13, .ref w14, .int fp, .int ft, .int (nI 0)])), (w1, .inl (cI, 100, .inl sg)), (w2, .inl (cI, 244, .inl gl)), (w3, .inl (cI, 1600, .inl fi))] H := hP
  have hD : va_D A [(w0, .inr (5, [.ref w1, .ref w2, .int (nI y), .int te, .ref w3, .ref w4, .ref w5, .int nt, .int wb, .ref w6, .ref w7, .ref w8, .int rc, .ref w9, .ref w10, .ref w11, .ref w12, .ref w13, .ref w14, .int fp, .int ft, .int (nI 0)])), (w1, .inl (cI, 100, .inl sg)), (w2, .inl (cI, 244, .inl gl)), (w3, .inl (cI, 1600, .inl fi))] := hD
  refine lv_aload_n hx hb d_MD_frontier_5 rfl (lv_at hl 0 rfl) ?_
  refine lv_aload_n hx hb d_MD_frontier_6 rfl (lv_at hl 0 rfl) ?_
  refine va_get (D := D) (ci := 5) (v := .ref w3) (C := R_MD) (T := T_MD) (N := 22) hx hb hw in_MD hown hE.1 hP 0 rfl rfl 4 (by decide) (hw _ kw_765) (fun _ h9 => h9) rfl d_MD_frontier_7 ?_
  refine lv_iconst (v := (-1)) hx hb d_MD_frontier_10 (by decide +kernel) ?_
  refine cl_i (wr := []) (va_runV (As := [.ref w3, .int (-1)]) (rest := []) ⟨hx, hb, hml, hown, hw⟩ (k_MD_find l D cI cJ w0 w1 w2 w3 w4 w5 w6 w7 w8 w9 w10 w11 w12 w13 w14 y te nt wb rc fp ft (nI 0) sg gl w3 fi (-1) _ hy hfi hgl) (cwV 2 hw (gV kw_913 kw_915 kw_30 kw_45 kw_916) rfl rfl rfl (by decide +kernel) ⟨Nat.le_of_ble_eq_true rfl, Nat.le_of_ble_eq_true rfl⟩) (pre_Vw (wc := [(w0, .inr (5, [.ref w1, .ref w2, .int (nI y), .int te, .ref w3, .ref w4, .ref w5, .int nt, .int wb, .ref w6, .ref w7, .ref w8, .int rc, .ref w9, .ref w10, .ref w11, .ref w12, .ref w13, .ref w14, .int fp, .int ft, .int (nI 0)])), (w1, .inl (cI, 100, .inl sg)), (w2, .inl (cI, 244, .inl gl)), (w3, .inl (cI, 1600, .inl fi))]) (q0 := 0) hE hX hA hP hD hS [0, 1, 2, 3] (by decide) rfl rfl rfl rfl) rfl rfl hl.1 rfl (lv_room (Nat.le_of_ble_eq_true rfl)) d_MD_frontier_11 ⟨Nat.le_of_ble_eq_true rfl, Nat.le_of_ble_eq_true rfl⟩) hP hD hS hA [0, 1, 2, 3] [] rfl rfl (by decide) (by decide) (fun r_1 u_r_1 H locs hr_1 hP hD hS => ?_)
  have hP : va_P D vwCl [(w0, .inr (5, [.ref w1, .ref w2, .int (nI y), .int te, .ref w3, .ref w4, .ref w5, .int nt, .int wb, .ref w6, .ref w7, .ref w8, .int rc, .ref w9, .ref w10, .ref w11, .ref w12, .ref w13, .ref w14, .int u_r_1.2.1, .int u_r_1.2.2, .int (nI 0)])), (w1, .inl (cI, 100, .inl sg)), (w2, .inl (cI, 244, .inl gl)), (w3, .inl (cI, 1600, .inl fi))] H := hP
  have hD : va_D A [(w0, .inr (5, [.ref w1, .ref w2, .int (nI y), .int te, .ref w3, .ref w4, .ref w5, .int nt, .int wb, .ref w6, .ref w7, .ref w8, .int rc, .ref w9, .ref w10, .ref w11, .ref w12, .ref w13, .ref w14, .int u_r_1.2.1, .int u_r_1.2.2, .int (nI 0)])), (w1, .inl (cI, 100, .inl sg)), (w2, .inl (cI, 244, .inl gl)), (w3, .inl (cI, 1600, .inl fi))] := hD
  have hP9 := hP.sub (ws' := [(w0, .inr (5, [.ref w1, .ref w2, .int (nI y), .int te, .ref w3, .ref w4, .ref w5, .int nt, .int wb, .ref w6, .ref w7, .ref w8, .int rc, .ref w9, .ref w10, .ref w11, .ref w12, .ref w13, .ref w14, .int u_r_1.2.1, .int u_r_1.2.2, .int (nI 0)])), (w1, .inl (cI, 100, .inl sg)), (w2, .inl (cI, 244, .inl gl)), (w3, .inl (cI, 1600, .inl fi))]) [0, 1, 2, 3] rfl
  have hD9 := hD.sub (ws' := [(w0, .inr (5, [.ref w1, .ref w2, .int (nI y), .int te, .ref w3, .ref w4, .ref w5, .int nt, .int wb, .ref w6, .ref w7, .ref w8, .int rc, .ref w9, .ref w10, .ref w11, .ref w12, .ref w13, .ref w14, .int u_r_1.2.1, .int u_r_1.2.2, .int (nI 0)])), (w1, .inl (cI, 100, .inl sg)), (w2, .inl (cI, 244, .inl gl)), (w3, .inl (cI, 1600, .inl fi))]) [0, 1, 2, 3] (by decide) rfl
  exact W.iret (v := r_1) hx hb hr (fun t9 ht hW => ⟨⟨_, u_r_1, rfl, hr_1, ⟨by rw [ht]; exact hP9, hD9⟩⟩, hS.F ht⟩) hS.2.2 d_MD_frontier_14
