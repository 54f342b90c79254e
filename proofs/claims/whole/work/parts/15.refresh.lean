theorem d_FD_put_0 : decode c_FD_put 0 = .ok (.aload_n 0, 1) := by decide +kernel
theorem d_FD_put_1 : decode c_FD_put 1 = .ok (.getfield 9, 3) := by decide +kernel
theorem d_FD_put_4 : decode c_FD_put 4 = .ok (.iload_n 1, 1) := by decide +kernel
theorem d_FD_put_5 : decode c_FD_put 5 = .ok (.iload_n 2, 1) := by decide +kernel
theorem d_FD_put_6 : decode c_FD_put 6 = .ok (.iastore, 1) := by decide +kernel
theorem d_FD_put_7 : decode c_FD_put 7 = .ok (.aload_n 0, 1) := by decide +kernel
theorem d_FD_put_8 : decode c_FD_put 8 = .ok (.getfield 22, 3) := by decide +kernel
theorem d_FD_put_11 : decode c_FD_put 11 = .ok (.iconst 0, 1) := by decide +kernel
theorem d_FD_put_12 : decode c_FD_put 12 = .ok (.dup2, 1) := by decide +kernel
theorem d_FD_put_13 : decode c_FD_put 13 = .ok (.iaload, 1) := by decide +kernel
theorem d_FD_put_14 : decode c_FD_put 14 = .ok (.iconst 1, 1) := by decide +kernel
theorem d_FD_put_15 : decode c_FD_put 15 = .ok (.iadd, 1) := by decide +kernel
theorem d_FD_put_16 : decode c_FD_put 16 = .ok (.iastore, 1) := by decide +kernel
theorem d_FD_put_17 : decode c_FD_put 17 = .ok (.aload_n 0, 1) := by decide +kernel
theorem d_FD_put_18 : decode c_FD_put 18 = .ok (.getfield 22, 3) := by decide +kernel
theorem d_FD_put_21 : decode c_FD_put 21 = .ok (.aload_n 0, 1) := by decide +kernel
theorem d_FD_put_22 : decode c_FD_put 22 = .ok (.iload_n 1, 1) := by decide +kernel
theorem d_FD_put_23 : decode c_FD_put 23 = .ok (.invokevirtual 67, 3) := by decide +kernel
theorem d_FD_put_26 : decode c_FD_put 26 = .ok (.dup2, 1) := by decide +kernel
theorem d_FD_put_27 : decode c_FD_put 27 = .ok (.iaload, 1) := by decide +kernel
theorem d_FD_put_28 : decode c_FD_put 28 = .ok (.iconst 1, 1) := by decide +kernel
theorem d_FD_put_29 : decode c_FD_put 29 = .ok (.iadd, 1) := by decide +kernel
theorem d_FD_put_30 : decode c_FD_put 30 = .ok (.iastore, 1) := by decide +kernel
theorem d_FD_put_31 : decode c_FD_put 31 = .ok (.aload_n 0, 1) := by decide +kernel
theorem d_FD_put_32 : decode c_FD_put 32 = .ok (.iload_n 1, 1) := by decide +kernel
theorem d_FD_put_33 : decode c_FD_put 33 = .ok (.invokevirtual 70, 3) := by decide +kernel
theorem d_FD_put_36 : decode c_FD_put 36 = .ok (.ifCond .eq 13, 3) := by decide +kernel
theorem d_FD_put_39 : decode c_FD_put 39 = .ok (.aload_n 0, 1) := by decide +kernel
theorem d_FD_put_40 : decode c_FD_put 40 = .ok (.dup, 1) := by decide +kernel
theorem d_FD_put_41 : decode c_FD_put 41 = .ok (.getfield 29, 3) := by decide +kernel
theorem d_FD_put_44 : decode c_FD_put 44 = .ok (.iconst 1, 1) := by decide +kernel
theorem d_FD_put_45 : decode c_FD_put 45 = .ok (.iadd, 1) := by decide +kernel
theorem d_FD_put_46 : decode c_FD_put 46 = .ok (.putfield 29, 3) := by decide +kernel
theorem d_FD_put_49 : decode c_FD_put 49 = .ok (.aload_n 0, 1) := by decide +kernel
theorem d_FD_put_50 : decode c_FD_put 50 = .ok (.iload_n 1, 1) := by decide +kernel
theorem d_FD_put_51 : decode c_FD_put 51 = .ok (.invokevirtual 74, 3) := by decide +kernel
theorem d_FD_put_54 : decode c_FD_put 54 = .ok (.return_, 1) := by decide +kernel
theorem d_FD_refreshAround_0 : decode c_FD_refreshAround 0 = .ok (.iconst 0, 1) := by decide +kernel
theorem d_FD_refreshAround_1 : decode c_FD_refreshAround 1 = .ok (.istore_n 2, 1) := by decide +kernel
theorem d_FD_refreshAround_2 : decode c_FD_refreshAround 2 = .ok (.iload_n 2, 1) := by decide +kernel
theorem d_FD_refreshAround_3 : decode c_FD_refreshAround 3 = .ok (.getstatic 40, 3) := by decide +kernel
theorem d_FD_refreshAround_6 : decode c_FD_refreshAround 6 = .ok (.arraylength, 1) := by decide +kernel
theorem d_FD_refreshAround_7 : decode c_FD_refreshAround 7 = .ok (.if_icmp .ge 89, 3) := by decide +kernel
theorem d_FD_refreshAround_10 : decode c_FD_refreshAround 10 = .ok (.iload_n 1, 1) := by decide +kernel
theorem d_FD_refreshAround_11 : decode c_FD_refreshAround 11 = .ok (.getstatic 40, 3) := by decide +kernel
theorem d_FD_refreshAround_14 : decode c_FD_refreshAround 14 = .ok (.iload_n 2, 1) := by decide +kernel
theorem d_FD_refreshAround_15 : decode c_FD_refreshAround 15 = .ok (.iaload, 1) := by decide +kernel
theorem d_FD_refreshAround_16 : decode c_FD_refreshAround 16 = .ok (.iadd, 1) := by decide +kernel
theorem d_FD_refreshAround_17 : decode c_FD_refreshAround 17 = .ok (.istore_n 3, 1) := by decide +kernel
theorem d_FD_refreshAround_18 : decode c_FD_refreshAround 18 = .ok (.aload_n 0, 1) := by decide +kernel
theorem d_FD_refreshAround_19 : decode c_FD_refreshAround 19 = .ok (.getfield 9, 3) := by decide +kernel
theorem d_FD_refreshAround_22 : decode c_FD_refreshAround 22 = .ok (.iload_n 3, 1) := by decide +kernel
theorem d_FD_refreshAround_23 : decode c_FD_refreshAround 23 = .ok (.iaload, 1) := by decide +kernel
theorem d_FD_refreshAround_24 : decode c_FD_refreshAround 24 = .ok (.ifCond .ne 13, 3) := by decide +kernel
theorem d_FD_refreshAround_27 : decode c_FD_refreshAround 27 = .ok (.aload_n 0, 1) := by decide +kernel
theorem d_FD_refreshAround_28 : decode c_FD_refreshAround 28 = .ok (.iload_n 3, 1) := by decide +kernel
theorem d_FD_refreshAround_29 : decode c_FD_refreshAround 29 = .ok (.bipush 15, 2) := by decide +kernel
theorem d_FD_refreshAround_31 : decode c_FD_refreshAround 31 = .ok (.invokevirtual 78, 3) := by decide +kernel
theorem d_FD_refreshAround_34 : decode c_FD_refreshAround 34 = .ok (.goto 4, 3) := by decide +kernel
theorem d_FD_refreshAround_37 : decode c_FD_refreshAround 37 = .ok (.lconst 0, 1) := by decide +kernel
theorem d_FD_refreshAround_38 : decode c_FD_refreshAround 38 = .ok (.lstore 4, 2) := by decide +kernel
theorem d_FD_refreshAround_40 : decode c_FD_refreshAround 40 = .ok (.lload 4, 2) := by decide +kernel
theorem d_FD_refreshAround_42 : decode c_FD_refreshAround 42 = .ok (.invokestatic 82, 3) := by decide +kernel
theorem d_FD_refreshAround_45 : decode c_FD_refreshAround 45 = .ok (.aload_n 0, 1) := by decide +kernel
theorem d_FD_refreshAround_46 : decode c_FD_refreshAround 46 = .ok (.getfield 15, 3) := by decide +kernel
theorem d_FD_refreshAround_49 : decode c_FD_refreshAround 49 = .ok (.iload_n 3, 1) := by decide +kernel
theorem d_FD_refreshAround_50 : decode c_FD_refreshAround 50 = .ok (.laload, 1) := by decide +kernel
theorem d_FD_refreshAround_51 : decode c_FD_refreshAround 51 = .ok (.invokestatic 82, 3) := by decide +kernel
theorem d_FD_refreshAround_54 : decode c_FD_refreshAround 54 = .ok (.isub, 1) := by decide +kernel
theorem d_FD_refreshAround_55 : decode c_FD_refreshAround 55 = .ok (.istore 6, 2) := by decide +kernel
theorem d_FD_refreshAround_57 : decode c_FD_refreshAround 57 = .ok (.aload_n 0, 1) := by decide +kernel
theorem d_FD_refreshAround_58 : decode c_FD_refreshAround 58 = .ok (.getfield 15, 3) := by decide +kernel
theorem d_FD_refreshAround_61 : decode c_FD_refreshAround 61 = .ok (.iload_n 3, 1) := by decide +kernel
theorem d_FD_refreshAround_62 : decode c_FD_refreshAround 62 = .ok (.lload 4, 2) := by decide +kernel
theorem d_FD_refreshAround_64 : decode c_FD_refreshAround 64 = .ok (.lastore, 1) := by decide +kernel
theorem d_FD_refreshAround_65 : decode c_FD_refreshAround 65 = .ok (.aload_n 0, 1) := by decide +kernel
theorem d_FD_refreshAround_66 : decode c_FD_refreshAround 66 = .ok (.getfield 19, 3) := by decide +kernel
theorem d_FD_refreshAround_69 : decode c_FD_refreshAround 69 = .ok (.iload_n 3, 1) := by decide +kernel
theorem d_FD_refreshAround_70 : decode c_FD_refreshAround 70 = .ok (.bipush 42, 2) := by decide +kernel
theorem d_FD_refreshAround_72 : decode c_FD_refreshAround 72 = .ok (.idiv, 1) := by decide +kernel
theorem d_FD_refreshAround_73 : decode c_FD_refreshAround 73 = .ok (.dup2, 1) := by decide +kernel
theorem d_FD_refreshAround_74 : decode c_FD_refreshAround 74 = .ok (.iaload, 1) := by decide +kernel
theorem d_FD_refreshAround_75 : decode c_FD_refreshAround 75 = .ok (.iload 6, 2) := by decide +kernel
theorem d_FD_refreshAround_77 : decode c_FD_refreshAround 77 = .ok (.iadd, 1) := by decide +kernel
theorem d_FD_refreshAround_78 : decode c_FD_refreshAround 78 = .ok (.iastore, 1) := by decide +kernel
theorem d_FD_refreshAround_79 : decode c_FD_refreshAround 79 = .ok (.aload_n 0, 1) := by decide +kernel
theorem d_FD_refreshAround_80 : decode c_FD_refreshAround 80 = .ok (.dup, 1) := by decide +kernel
theorem d_FD_refreshAround_81 : decode c_FD_refreshAround 81 = .ok (.getfield 25, 3) := by decide +kernel
theorem d_FD_refreshAround_84 : decode c_FD_refreshAround 84 = .ok (.iload 6, 2) := by decide +kernel
theorem d_FD_refreshAround_86 : decode c_FD_refreshAround 86 = .ok (.iadd, 1) := by decide +kernel
theorem d_FD_refreshAround_87 : decode c_FD_refreshAround 87 = .ok (.putfield 25, 3) := by decide +kernel
theorem d_FD_refreshAround_90 : decode c_FD_refreshAround 90 = .ok (.iinc 2 1, 3) := by decide +kernel
theorem d_FD_refreshAround_93 : decode c_FD_refreshAround 93 = .ok (.goto (-91), 3) := by decide +kernel
theorem d_FD_refreshAround_96 : decode c_FD_refreshAround 96 = .ok (.return_, 1) := by decide +kernel
/-- what may attach at a place now -/
def raN (ce sd st : Nat → Int32) (be : Nat → Int64) (wa : Int32) (q : Nat) : Int64 := if ce q = 0 then fitV ce sd st be wa q (nI 15) else 0
def raS (ce sd st : Nat → Int32) (be : Nat → Int64) (wa : Int32) (q : Nat) (r : (Nat → Int64) × (Nat → Int32) × Int32) : (Nat → Int64) × (Nat → Int32) × Int32 :=
  (vp_updL r.1 q (raN ce sd st be wa q), upd r.2.1 (q / 42) (r.2.1 (q / 42) + (bcL (raN ce sd st be wa q) - bcL (r.1 q))), r.2.2 + (bcL (raN ce sd st be wa q) - bcL (r.1 q)))
def raL (ce sd st : Nat → Int32) (be : Nat → Int64) (wa : Int32) (p : Nat) (r : (Nat → Int64) × (Nat → Int32) × Int32) : Nat → (Nat → Int64) × (Nat → Int32) × Int32
  | 0 => r
  | k + 1 => raS ce sd st be wa (nb p k) (raL ce sd st be wa p r k)
set_option maxHeartbeats 4000000 in
set_option maxRecDepth 100000 in
theorem lp_k_FD_refreshAround_2 {p : Program} {l : Launch} {e : Env} {s : State} {m : MethodId} {args : Array Value} {below : List Frame} {meth : Method} {c : Code} {D : va_G} {cI cJ : ClassId} {Q : State → Prop} {A : Nat → Prop} (f0 : Nat) (f1 : Nat) (f2 : Nat) (f3 : Nat) (f4 : Nat) (o1 : Nat) (np : Int32) (ns : Int32) (aw : Int32) (s1 : Nat) (s2 : Nat) (s3 : Nat) (ty : Int32) (wa : Int32) (st : Nat → Int32) (sd : Nat → Int32) (be : Nat → Int64) (ce : Nat → Int32) (oq : Nat → Int64) (rp : Nat → Int32) (pl : Nat) (hp1 : 43 ≤ pl) (hp2 : pl ≤ 1720) (hce : okCe ce) (hsd : okSd sd) (hst : okSt st)  (hx : p.tables.exec = Jvm.exec) (hb : c.code = c_FD_refreshAround) (hml : c.maxLocals = 7) (hown : s.vm.findClass R_FD = some m.cls) (hw : ∀ w ∈ gw, w.before args s = true) (hE : En D cI cJ s) (hX : Sx A s s.heap) (hA : ∀ q : Nat, s.heap.size ≤ q → A q)
    (kx0 : ∀ (o9 : Nat → Int64) (r9 : Nat → Int32) (n9 : Int32), ((o9, r9, n9) = raL ce sd st be wa pl (oq, rp, np) 5) → ∀ (H : Heap) (locs : List Loc) (ls : Array Slot), va_P D vwCl [(f0, .inr (2, [.ref o1, .ref f1, .ref f2, .ref f3, .ref f4, .int n9, .int ns, .int aw])), (f1, .inl (cI, 1764, .inl ce)), (f2, .inl (cJ, 1764, .inr (.inl o9))), (f3, .inl (cI, 42, .inl r9)), (o1, .inr (1, [.ref s1, .ref s2, .ref s3, .int ty, .int wa])), (s1, .inl (cI, 100, .inl st)), (s2, .inl (cI, 244, .inl sd)), (s3, .inl (cJ, 400, .inr (.inl be)))] H → va_D A [(f0, .inr (2, [.ref o1, .ref f1, .ref f2, .ref f3, .ref f4, .int n9, .int ns, .int aw])), (f1, .inl (cI, 1764, .inl ce)), (f2, .inl (cJ, 1764, .inr (.inl o9))), (f3, .inl (cI, 42, .inl r9)), (o1, .inr (1, [.ref s1, .ref s2, .ref s3, .int ty, .int wa])), (s1, .inl (cI, 100, .inl st)), (s2, .inl (cI, 244, .inl sd)), (s3, .inl (cJ, 400, .inr (.inl be)))] → va_S A s.heap H locs → lv_has ls 7 [(0, .ref f0)] → W p l e ({ frames := 2, cells := 0, slots := 0, locals := 56 } : Room) s m args below meth c H locs 0 0 Q (F0 m 96 ls [])) :
    ∀ (fu : Nat) (k : Nat) (o9 : Nat → Int64) (r9 : Nat → Int32) (n9 : Int32), 5 - k < fu → (k ≤ 5) → ((o9, r9, n9) = raL ce sd st be wa pl (oq, rp, np) k) → ∀ (H : Heap) (locs : List Loc) (ls : Array Slot), va_P D vwCl [(f0, .inr (2, [.ref o1, .ref f1, .ref f2, .ref f3, .ref f4, .int n9, .int ns, .int aw])), (f1, .inl (cI, 1764, .inl ce)), (f2, .inl (cJ, 1764, .inr (.inl o9))), (f3, .inl (cI, 42, .inl r9)), (o1, .inr (1, [.ref s1, .ref s2, .ref s3, .int ty, .int wa])), (s1, .inl (cI, 100, .inl st)), (s2, .inl (cI, 244, .inl sd)), (s3, .inl (cJ, 400, .inr (.inl be)))] H → va_D A [(f0, .inr (2, [.ref o1, .ref f1, .ref f2, .ref f3, .ref f4, .int n9, .int ns, .int aw])), (f1, .inl (cI, 1764, .inl ce)), (f2, .inl (cJ, 1764, .inr (.inl o9))), (f3, .inl (cI, 42, .inl r9)), (o1, .inr (1, [.ref s1, .ref s2, .ref s3, .int ty, .int wa])), (s1, .inl (cI, 100, .inl st)), (s2, .inl (cI, 244, .inl sd)), (s3, .inl (cJ, 400, .inr (.inl be)))] → va_S A s.heap H locs → lv_has ls 7 [(0, .ref f0), (1, .int (nI pl)), (2, .int (nI k))] → W p l e ({ frames := 2, cells := 0, slots := 0, locals := 56 } : Room) s m args below meth c H locs 0 0 Q (F0 m 2 ls []) := by
  obtain ⟨tS, hZ, hT⟩ := hX.1
  intro fu
  induction fu with
  | zero =>
    intro k o9 r9 n9 h0
    exact absurd h0 (Nat.not_lt_zero _)
  | succ fu ih =>
    intro k o9 r9 n9 hmu hk hr9 H locs ls hP hD hS hl
    have hq := nb_lt hp1 hp2 k
    refine lv_iload_n hx hb d_FD_refreshAround_2 rfl (lv_at hl 2 rfl) ?_
    refine va_getsN hx hb hZ hS hown (va_Nw.use rfl (hE.2.2.1 _ (List.mem_of_getElem? (i := 0) rfl))) (fun _ h9 => h9) d_FD_refreshAround_3 ?_
    refine va_tlen (v := nI 5) hx hb hT hS rfl d_FD_refreshAround_6 ?_
    refine jn_icmp_ge (tgt := 96) (a := k) (b := 5) hx hb d_FD_refreshAround_7 (by decide) (by omega) (by omega) (fun c_7 => ?_) (fun c_7 => ?_)
    · skip
      exact kx0 o9 r9 n9 (by rw [hr9, show k = 5 by omega]) _ _ _ (hP.sub [0, 1, 2, 3, 4, 5, 6, 7] rfl) (hD.sub [0, 1, 2, 3, 4, 5, 6, 7] (by decide) rfl) hS (lv_sub hl [0] rfl)
    · skip
      refine lv_iload_n hx hb d_FD_refreshAround_10 rfl (lv_at hl 1 rfl) ?_
      refine va_getsN hx hb hZ hS hown (va_Nw.use rfl (hE.2.2.1 _ (List.mem_of_getElem? (i := 0) rfl))) (fun _ h9 => h9) d_FD_refreshAround_11 ?_
      refine lv_iload_n hx hb d_FD_refreshAround_14 rfl (lv_at hl 2 rfl) ?_
      refine va_ti (v := .int (stepF k)) hx hb hT hS (vp_in_nI (n := k) (N := 5) (by omega) (by decide)) (by rw [nI_clamp (by omega)]) d_FD_refreshAround_15 ?_
      refine lv_iadd hx hb d_FD_refreshAround_16 ?_
      refine W.eq (g2 := F0 m 17 ls [.int (nI (nb pl k))]) (by rw [nb_add hp1 (show k < 5 by omega)]) ?_
      refine lv_istore_n (lv' := [(3, .int (nI (nb pl k))), (0, .ref f0), (1, .int (nI pl)), (2, .int (nI k))]) hx hb d_FD_refreshAround_17 rfl hl (by decide) rfl (fun ls hl => ?_)
      refine lv_aload_n hx hb d_FD_refreshAround_18 rfl (lv_at hl 1 rfl) ?_
      refine va_get (D := D) (ci := 2) (v := .ref f1) (C := R_FD) (T := T_FD) (N := 8) hx hb hw in_FD hown hE.1 hP 0 rfl rfl 1 (by decide) (hw _ kw_96) (fun _ h9 => h9) rfl d_FD_refreshAround_19 ?_
      refine lv_iload_n hx hb d_FD_refreshAround_22 rfl (lv_at hl 0 rfl) ?_
      refine jn_iald (k := (nb pl k)) hx hb hE.1 hP 1 0 rfl rfl (by omega) (by omega) d_FD_refreshAround_23 ?_
      refine lv_if_ne (tgt := 37) hx hb d_FD_refreshAround_24 (by decide) (fun c_24 => ?_) (fun c_24 => ?_)
      · skip
        refine lv_lconst (v := 0) hx hb d_FD_refreshAround_37 (by decide +kernel) ?_
        refine lv_lstore (lv' := [(4, .long 0), (3, .int (nI (nb pl k))), (0, .ref f0), (1, .int (nI pl)), (2, .int (nI k))]) hx hb d_FD_refreshAround_38 hl (by decide) rfl (fun ls hl => ?_)
        refine lv_lload hx hb d_FD_refreshAround_40 (lv_at hl 0 rfl) ?_
        refine vp_callSi (va_Run.run (va_runS (As := [.long 0]) (rest := []) ⟨hx, hb, hml, hown, hw⟩ (k_JL_bitCount l D cI cJ 0) (va_cwS 1 hw (gS kw_471 kw_472 kw_53 kw_473) rfl rfl rfl (by decide +kernel) ⟨Nat.le_of_ble_eq_true rfl, Nat.le_of_ble_eq_true rfl⟩) (pre_Sp (wc := []) hE hX hP hS [] rfl) rfl rfl hl.1 rfl (lv_room (Nat.le_of_ble_eq_true rfl)) d_FD_refreshAround_42 ⟨Nat.le_of_ble_eq_true rfl, Nat.le_of_ble_eq_true rfl⟩)) (fun r_1 hr_1 => ?_)
        obtain rfl : bcL 0 = r_1 := hr_1.symm
        refine lv_aload_n hx hb d_FD_refreshAround_45 rfl (lv_at hl 2 rfl) ?_
        refine va_get (D := D) (ci := 2) (v := .ref f2) (C := R_FD) (T := T_FD) (N := 8) hx hb hw in_FD hown hE.1 hP 0 rfl rfl 2 (by decide) (hw _ kw_97) (fun _ h9 => h9) rfl d_FD_refreshAround_46 ?_
        refine lv_iload_n hx hb d_FD_refreshAround_49 rfl (lv_at hl 1 rfl) ?_
        refine jn_lald (k := (nb pl k)) hx hb hE.1 hP 2 1 rfl rfl (by omega) (by omega) d_FD_refreshAround_50 ?_
        refine vp_callSi (va_Run.run (va_runS (As := [.long (o9 (nb pl k))]) (rest := [.int (bcL 0)]) ⟨hx, hb, hml, hown, hw⟩ (k_JL_bitCount l D cI cJ (o9 (nb pl k))) (va_cwS 1 hw (gS kw_471 kw_472 kw_53 kw_473) rfl rfl rfl (by decide +kernel) ⟨Nat.le_of_ble_eq_true rfl, Nat.le_of_ble_eq_true rfl⟩) (pre_Sp (wc := []) hE hX hP hS [] rfl) rfl rfl hl.1 rfl (lv_room (Nat.le_of_ble_eq_true rfl)) d_FD_refreshAround_51 ⟨Nat.le_of_ble_eq_true rfl, Nat.le_of_ble_eq_true rfl⟩)) (fun r_2 hr_2 => ?_)
        obtain rfl : bcL (o9 (nb pl k)) = r_2 := hr_2.symm
        refine lv_isub hx hb d_FD_refreshAround_54 ?_
        refine lv_istore (lv' := [(6, .int ((bcL 0) - (bcL (o9 (nb pl k))))), (4, .long 0), (3, .int (nI (nb pl k))), (0, .ref f0), (1, .int (nI pl)), (2, .int (nI k))]) hx hb d_FD_refreshAround_55 hl (by decide) rfl (fun ls hl => ?_)
        refine lv_aload_n hx hb d_FD_refreshAround_57 rfl (lv_at hl 3 rfl) ?_
        refine va_get (D := D) (ci := 2) (v := .ref f2) (C := R_FD) (T := T_FD) (N := 8) hx hb hw in_FD hown hE.1 hP 0 rfl rfl 2 (by decide) (hw _ kw_97) (fun _ h9 => h9) rfl d_FD_refreshAround_58 ?_
        refine lv_iload_n hx hb d_FD_refreshAround_61 rfl (lv_at hl 2 rfl) ?_
        refine lv_lload hx hb d_FD_refreshAround_62 (lv_at hl 1 rfl) ?_
        refine jn_last (k := (nb pl k)) hx hb hE.1 hP hD hS 2 1 rfl rfl (by omega) (by omega) d_FD_refreshAround_64 (fun H locs hP hD hS => ?_)
        have hP : va_P D vwCl [(f0, .inr (2, [.ref o1, .ref f1, .ref f2, .ref f3, .ref f4, .int n9, .int ns, .int aw])), (f1, .inl (cI, 1764, .inl ce)), (f2, .inl (cJ, 1764, .inr (.inl (vp_updL o9 (nb pl k) 0)))), (f3, .inl (cI, 42, .inl r9)), (o1, .inr (1, [.ref s1, .ref s2, .ref s3, .int ty, .int wa])), (s1, .inl (cI, 100, .inl st)), (s2, .inl (cI, 244, .inl sd)), (s3, .inl (cJ, 400, .inr (.inl be)))] H := hP
        have hD : va_D A [(f0, .inr (2, [.ref o1, .ref f1, .ref f2, .ref f3, .ref f4, .int n9, .int ns, .int aw])), (f1, .inl (cI, 1764, .inl ce)), (f2, .inl (cJ, 1764, .inr (.inl (vp_updL o9 (nb pl k) 0)))), (f3, .inl (cI, 42, .inl r9)), (o1, .inr (1, [.ref s1, .ref s2, .ref s3, .int ty, .int wa])), (s1, .inl (cI, 100, .inl st)), (s2, .inl (cI, 244, .inl sd)), (s3, .inl (cJ, 400, .inr (.inl be)))] := hD
        refine lv_aload_n hx hb d_FD_refreshAround_65 rfl (lv_at hl 3 rfl) ?_
        refine va_get (D := D) (ci := 2) (v := .ref f3) (C := R_FD) (T := T_FD) (N := 8) hx hb hw in_FD hown hE.1 hP 0 rfl rfl 3 (by decide) (hw _ kw_98) (fun _ h9 => h9) rfl d_FD_refreshAround_66 ?_
        refine lv_iload_n hx hb d_FD_refreshAround_69 rfl (lv_at hl 2 rfl) ?_
        refine lv_bipush (v := nI 42) hx hb d_FD_refreshAround_70 (by decide +kernel) ?_
        refine jn_idiv (a := (nb pl k)) (b := 42) hx hb d_FD_refreshAround_72 (by omega) (by omega) (by omega) ?_
        refine lv_dup2_11 hx hb d_FD_refreshAround_73 rfl rfl ?_
        refine jn_iald (k := ((nb pl k) / 42)) hx hb hE.1 hP 3 0 rfl rfl (by omega) (by omega) d_FD_refreshAround_74 ?_
        refine lv_iload hx hb d_FD_refreshAround_75 (lv_at hl 0 rfl) ?_
        refine lv_iadd hx hb d_FD_refreshAround_77 ?_
        refine jn_iast (k := ((nb pl k) / 42)) hx hb hE.1 hP hD hS 3 0 rfl rfl (by omega) (by omega) d_FD_refreshAround_78 (fun H locs hP hD hS => ?_)
        have hP : va_P D vwCl [(f0, .inr (2, [.ref o1, .ref f1, .ref f2, .ref f3, .ref f4, .int n9, .int ns, .int aw])), (f1, .inl (cI, 1764, .inl ce)), (f2, .inl (cJ, 1764, .inr (.inl (vp_updL o9 (nb pl k) 0)))), (f3, .inl (cI, 42, .inl (upd r9 ((nb pl k) / 42) ((r9 ((nb pl k) / 42)) + ((bcL 0) - (bcL (o9 (nb pl k)))))))), (o1, .inr (1, [.ref s1, .ref s2, .ref s3, .int ty, .int wa])), (s1, .inl (cI, 100, .inl st)), (s2, .inl (cI, 244, .inl sd)), (s3, .inl (cJ, 400, .inr (.inl be)))] H := hP
        have hD : va_D A [(f0, .inr (2, [.ref o1, .ref f1, .ref f2, .ref f3, .ref f4, .int n9, .int ns, .int aw])), (f1, .inl (cI, 1764, .inl ce)), (f2, .inl (cJ, 1764, .inr (.inl (vp_updL o9 (nb pl k) 0)))), (f3, .inl (cI, 42, .inl (upd r9 ((nb pl k) / 42) ((r9 ((nb pl k) / 42)) + ((bcL 0) - (bcL (o9 (nb pl k)))))))), (o1, .inr (1, [.ref s1, .ref s2, .ref s3, .int ty, .int wa])), (s1, .inl (cI, 100, .inl st)), (s2, .inl (cI, 244, .inl sd)), (s3, .inl (cJ, 400, .inr (.inl be)))] := hD
        refine lv_aload_n hx hb d_FD_refreshAround_79 rfl (lv_at hl 3 rfl) ?_
        refine lv_dup hx hb d_FD_refreshAround_80 rfl ?_
        refine va_get (D := D) (ci := 2) (v := .int n9) (C := R_FD) (T := T_FD) (N := 8) hx hb hw in_FD hown hE.1 hP 0 rfl rfl 5 (by decide) (hw _ kw_100) (fun _ h9 => h9) rfl d_FD_refreshAround_81 ?_
        refine lv_iload hx hb d_FD_refreshAround_84 (lv_at hl 0 rfl) ?_
        refine lv_iadd hx hb d_FD_refreshAround_86 ?_
        refine va_put (D := D) (ci := 2) (v := .int (n9 + ((bcL 0) - (bcL (o9 (nb pl k)))))) (ty := .int) (C := R_FD) (T := T_FD) (N := 8) hx hb hw in_FD ty_FD ty_FD_ok nm_FD_ok hown hE.1 hP hD hS 0 rfl rfl 5 (by decide) (hw _ kw_100) (fun _ h9 => h9) rfl (by decide +kernel) rfl rfl (Nat.le_of_ble_eq_true rfl) d_FD_refreshAround_87 (fun H locs hP hD hS => ?_)
        have hP : va_P D vwCl [(f0, .inr (2, [.ref o1, .ref f1, .ref f2, .ref f3, .ref f4, .int (n9 + ((bcL 0) - (bcL (o9 (nb pl k))))), .int ns, .int aw])), (f1, .inl (cI, 1764, .inl ce)), (f2, .inl (cJ, 1764, .inr (.inl (vp_updL o9 (nb pl k) 0)))), (f3, .inl (cI, 42, .inl (upd r9 ((nb pl k) / 42) ((r9 ((nb pl k) / 42)) + ((bcL 0) - (bcL (o9 (nb pl k)))))))), (o1, .inr (1, [.ref s1, .ref s2, .ref s3, .int ty, .int wa])), (s1, .inl (cI, 100, .inl st)), (s2, .inl (cI, 244, .inl sd)), (s3, .inl (cJ, 400, .inr (.inl be)))] H := hP
        have hD : va_D A [(f0, .inr (2, [.ref o1, .ref f1, .ref f2, .ref f3, .ref f4, .int (n9 + ((bcL 0) - (bcL (o9 (nb pl k))))), .int ns, .int aw])), (f1, .inl (cI, 1764, .inl ce)), (f2, .inl (cJ, 1764, .inr (.inl (vp_updL o9 (nb pl k) 0)))), (f3, .inl (cI, 42, .inl (upd r9 ((nb pl k) / 42) ((r9 ((nb pl k) / 42)) + ((bcL 0) - (bcL (o9 (nb pl k)))))))), (o1, .inr (1, [.ref s1, .ref s2, .ref s3, .int ty, .int wa])), (s1, .inl (cI, 100, .inl st)), (s2, .inl (cI, 244, .inl sd)), (s3, .inl (cJ, 400, .inr (.inl be)))] := hD
        refine lv_iinc (v := nI (k + 1)) (lv' := [(2, .int (nI (k + 1))), (6, .int ((bcL 0) - (bcL (o9 (nb pl k))))), (4, .long 0), (3, .int (nI (nb pl k))), (0, .ref f0), (1, .int (nI pl))]) hx hb d_FD_refreshAround_90 hl (k := 5) rfl (jn_inc k 1) (by decide) rfl (fun ls hl => ?_)
        refine lv_goto (tgt := 2) hx hb d_FD_refreshAround_93 (by decide) ?_
        exact ih (k + 1) (vp_updL o9 (nb pl k) 0) (upd r9 ((nb pl k) / 42) ((r9 ((nb pl k) / 42)) + ((bcL 0) - (bcL (o9 (nb pl k)))))) (n9 + ((bcL 0) - (bcL (o9 (nb pl k))))) (by omega) (by omega) (by rw [raL, ← hr9]; unfold raS raN; rw [if_neg c_24]) _ _ _ (hP.sub [0, 1, 2, 3, 4, 5, 6, 7] rfl) (hD.sub [0, 1, 2, 3, 4, 5, 6, 7] (by decide) rfl) hS (lv_sub hl [4, 5, 0] rfl)
      · skip
        refine lv_aload_n hx hb d_FD_refreshAround_27 rfl (lv_at hl 1 rfl) ?_
        refine lv_iload_n hx hb d_FD_refreshAround_28 rfl (lv_at hl 0 rfl) ?_
        refine lv_bipush (v := nI 15) hx hb d_FD_refreshAround_29 (by decide +kernel) ?_
        refine vp_callSl (va_Run.run (va_runV (As := [.int (nI (nb pl k)), .int (nI 15)]) (rest := []) ⟨hx, hb, hml, hown, hw⟩ (k_FD_fitting l D cI cJ f0 f1 f2 f3 f4 o1 n9 ns aw s1 s2 s3 ty wa st sd be ce (nb pl k) (nI 15) ((hce _ hq).2 c_24).1 ((hce _ hq).2 c_24).2 hce hsd hst) (cwV 2 hw (gV kw_448 kw_450 kw_5 kw_42 kw_451) rfl rfl rfl (by decide +kernel) ⟨Nat.le_of_ble_eq_true rfl, Nat.le_of_ble_eq_true rfl⟩) (pre_Vp (wc := [(f0, .inr (2, [.ref o1, .ref f1, .ref f2, .ref f3, .ref f4, .int n9, .int ns, .int aw])), (f1, .inl (cI, 1764, .inl ce)), (o1, .inr (1, [.ref s1, .ref s2, .ref s3, .int ty, .int wa])), (s1, .inl (cI, 100, .inl st)), (s2, .inl (cI, 244, .inl sd)), (s3, .inl (cJ, 400, .inr (.inl be)))]) (q0 := 0) hE hX hP hS [0, 1, 4, 5, 6, 7] rfl rfl rfl) rfl rfl hl.1 rfl (lv_room (Nat.le_of_ble_eq_true rfl)) d_FD_refreshAround_31 ⟨Nat.le_of_ble_eq_true rfl, Nat.le_of_ble_eq_true rfl⟩)) (fun r_3 hr_3 => ?_)
        obtain rfl : fitV ce sd st be wa (nb pl k) (nI 15) = r_3 := hr_3.symm
        refine lv_goto (tgt := 38) hx hb d_FD_refreshAround_34 (by decide) ?_
        refine lv_lstore (lv' := [(4, .long (fitV ce sd st be wa (nb pl k) (nI 15))), (3, .int (nI (nb pl k))), (0, .ref f0), (1, .int (nI pl)), (2, .int (nI k))]) hx hb d_FD_refreshAround_38 hl (by decide) rfl (fun ls hl => ?_)
        refine lv_lload hx hb d_FD_refreshAround_40 (lv_at hl 0 rfl) ?_
        refine vp_callSi (va_Run.run (va_runS (As := [.long (fitV ce sd st be wa (nb pl k) (nI 15))]) (rest := []) ⟨hx, hb, hml, hown, hw⟩ (k_JL_bitCount l D cI cJ (fitV ce sd st be wa (nb pl k) (nI 15))) (va_cwS 1 hw (gS kw_471 kw_472 kw_53 kw_473) rfl rfl rfl (by decide +kernel) ⟨Nat.le_of_ble_eq_true rfl, Nat.le_of_ble_eq_true rfl⟩) (pre_Sp (wc := []) hE hX hP hS [] rfl) rfl rfl hl.1 rfl (lv_room (Nat.le_of_ble_eq_true rfl)) d_FD_refreshAround_42 ⟨Nat.le_of_ble_eq_true rfl, Nat.le_of_ble_eq_true rfl⟩)) (fun r_4 hr_4 => ?_)
        obtain rfl : bcL (fitV ce sd st be wa (nb pl k) (nI 15)) = r_4 := hr_4.symm
        refine lv_aload_n hx hb d_FD_refreshAround_45 rfl (lv_at hl 2 rfl) ?_
        refine va_get (D := D) (ci := 2) (v := .ref f2) (C := R_FD) (T := T_FD) (N := 8) hx hb hw in_FD hown hE.1 hP 0 rfl rfl 2 (by decide) (hw _ kw_97) (fun _ h9 => h9) rfl d_FD_refreshAround_46 ?_
        refine lv_iload_n hx hb d_FD_refreshAround_49 rfl (lv_at hl 1 rfl) ?_
        refine jn_lald (k := (nb pl k)) hx hb hE.1 hP 2 1 rfl rfl (by omega) (by omega) d_FD_refreshAround_50 ?_
        refine vp_callSi (va_Run.run (va_runS (As := [.long (o9 (nb pl k))]) (rest := [.int (bcL (fitV ce sd st be wa (nb pl k) (nI 15)))]) ⟨hx, hb, hml, hown, hw⟩ (k_JL_bitCount l D cI cJ (o9 (nb pl k))) (va_cwS 1 hw (gS kw_471 kw_472 kw_53 kw_473) rfl rfl rfl (by decide +kernel) ⟨Nat.le_of_ble_eq_true rfl, Nat.le_of_ble_eq_true rfl⟩) (pre_Sp (wc := []) hE hX hP hS [] rfl) rfl rfl hl.1 rfl (lv_room (Nat.le_of_ble_eq_true rfl)) d_FD_refreshAround_51 ⟨Nat.le_of_ble_eq_true rfl, Nat.le_of_ble_eq_true rfl⟩)) (fun r_5 hr_5 => ?_)
        obtain rfl : bcL (o9 (nb pl k)) = r_5 := hr_5.symm
        refine lv_isub hx hb d_FD_refreshAround_54 ?_
        refine lv_istore (lv' := [(6, .int ((bcL (fitV ce sd st be wa (nb pl k) (nI 15))) - (bcL (o9 (nb pl k))))), (4, .long (fitV ce sd st be wa (nb pl k) (nI 15))), (3, .int (nI (nb pl k))), (0, .ref f0), (1, .int (nI pl)), (2, .int (nI k))]) hx hb d_FD_refreshAround_55 hl (by decide) rfl (fun ls hl => ?_)
        refine lv_aload_n hx hb d_FD_refreshAround_57 rfl (lv_at hl 3 rfl) ?_
        refine va_get (D := D) (ci := 2) (v := .ref f2) (C := R_FD) (T := T_FD) (N := 8) hx hb hw in_FD hown hE.1 hP 0 rfl rfl 2 (by decide) (hw _ kw_97) (fun _ h9 => h9) rfl d_FD_refreshAround_58 ?_
        refine lv_iload_n hx hb d_FD_refreshAround_61 rfl (lv_at hl 2 rfl) ?_
        refine lv_lload hx hb d_FD_refreshAround_62 (lv_at hl 1 rfl) ?_
        refine jn_last (k := (nb pl k)) hx hb hE.1 hP hD hS 2 1 rfl rfl (by omega) (by omega) d_FD_refreshAround_64 (fun H locs hP hD hS => ?_)
        have hP : va_P D vwCl [(f0, .inr (2, [.ref o1, .ref f1, .ref f2, .ref f3, .ref f4, .int n9, .int ns, .int aw])), (f1, .inl (cI, 1764, .inl ce)), (f2, .inl (cJ, 1764, .inr (.inl (vp_updL o9 (nb pl k) (fitV ce sd st be wa (nb pl k) (nI 15)))))), (f3, .inl (cI, 42, .inl r9)), (o1, .inr (1, [.ref s1, .ref s2, .ref s3, .int ty, .int wa])), (s1, .inl (cI, 100, .inl st)), (s2, .inl (cI, 244, .inl sd)), (s3, .inl (cJ, 400, .inr (.inl be)))] H := hP
        have hD : va_D A [(f0, .inr (2, [.ref o1, .ref f1, .ref f2, .ref f3, .ref f4, .int n9, .int ns, .int aw])), (f1, .inl (cI, 1764, .inl ce)), (f2, .inl (cJ, 1764, .inr (.inl (vp_updL o9 (nb pl k) (fitV ce sd st be wa (nb pl k) (nI 15)))))), (f3, .inl (cI, 42, .inl r9)), (o1, .inr (1, [.ref s1, .ref s2, .ref s3, .int ty, .int wa])), (s1, .inl (cI, 100, .inl st)), (s2, .inl (cI, 244, .inl sd)), (s3, .inl (cJ, 400, .inr (.inl be)))] := hD
        refine lv_aload_n hx hb d_FD_refreshAround_65 rfl (lv_at hl 3 rfl) ?_
        refine va_get (D := D) (ci := 2) (v := .ref f3) (C := R_FD) (T := T_FD) (N := 8) hx hb hw in_FD hown hE.1 hP 0 rfl rfl 3 (by decide) (hw _ kw_98) (fun _ h9 => h9) rfl d_FD_refreshAround_66 ?_
        refine lv_iload_n hx hb d_FD_refreshAround_69 rfl (lv_at hl 2 rfl) ?_
        refine lv_bipush (v := nI 42) hx hb d_FD_refreshAround_70 (by decide +kernel) ?_
        refine jn_idiv (a := (nb pl k)) (b := 42) hx hb d_FD_refreshAround_72 (by omega) (by omega) (by omega) ?_
        refine lv_dup2_11 hx hb d_FD_refreshAround_73 rfl rfl ?_
        refine jn_iald (k := ((nb pl k) / 42)) hx hb hE.1 hP 3 0 rfl rfl (by omega) (by omega) d_FD_refreshAround_74 ?_
        refine lv_iload hx hb d_FD_refreshAround_75 (lv_at hl 0 rfl) ?_
        refine lv_iadd hx hb d_FD_refreshAround_77 ?_
        refine jn_iast (k := ((nb pl k) / 42)) hx hb hE.1 hP hD hS 3 0 rfl rfl (by omega) (by omega) d_FD_refreshAround_78 (fun H locs hP hD hS => ?_)
        have hP : va_P D vwCl [(f0, .inr (2, [.ref o1, .ref f1, .ref f2, .ref f3, .ref f4, .int n9, .int ns, .int aw])), (f1, .inl (cI, 1764, .inl ce)), (f2, .inl (cJ, 1764, .inr (.inl (vp_updL o9 (nb pl k) (fitV ce sd st be wa (nb pl k) (nI 15)))))), (f3, .inl (cI, 42, .inl (upd r9 ((nb pl k) / 42) ((r9 ((nb pl k) / 42)) + ((bcL (fitV ce sd st be wa (nb pl k) (nI 15))) - (bcL (o9 (nb pl k)))))))), (o1, .inr (1, [.ref s1, .ref s2, .ref s3, .int ty, .int wa])), (s1, .inl (cI, 100, .inl st)), (s2, .inl (cI, 244, .inl sd)), (s3, .inl (cJ, 400, .inr (.inl be)))] H := hP
        have hD : va_D A [(f0, .inr (2, [.ref o1, .ref f1, .ref f2, .ref f3, .ref f4, .int n9, .int ns, .int aw])), (f1, .inl (cI, 1764, .inl ce)), (f2, .inl (cJ, 1764, .inr (.inl (vp_updL o9 (nb pl k) (fitV ce sd st be wa (nb pl k) (nI 15)))))), (f3, .inl (cI, 42, .inl (upd r9 ((nb pl k) / 42) ((r9 ((nb pl k) / 42)) + ((bcL (fitV ce sd st be wa (nb pl k) (nI 15))) - (bcL (o9 (nb pl k)))))))), (o1, .inr (1, [.ref s1, .ref s2, .ref s3, .int ty, .int wa])), (s1, .inl (cI, 100, .inl st)), (s2, .inl (cI, 244, .inl sd)), (s3, .inl (cJ, 400, .inr (.inl be)))] := hD
        refine lv_aload_n hx hb d_FD_refreshAround_79 rfl (lv_at hl 3 rfl) ?_
        refine lv_dup hx hb d_FD_refreshAround_80 rfl ?_
        refine va_get (D := D) (ci := 2) (v := .int n9) (C := R_FD) (T := T_FD) (N := 8) hx hb hw in_FD hown hE.1 hP 0 rfl rfl 5 (by decide) (hw _ kw_100) (fun _ h9 => h9) rfl d_FD_refreshAround_81 ?_
        refine lv_iload hx hb d_FD_refreshAround_84 (lv_at hl 0 rfl) ?_
        refine lv_iadd hx hb d_FD_refreshAround_86 ?_
        refine va_put (D := D) (ci := 2) (v := .int (n9 + ((bcL (fitV ce sd st be wa (nb pl k) (nI 15))) - (bcL (o9 (nb pl k)))))) (ty := .int) (C := R_FD) (T := T_FD) (N := 8) hx hb hw in_FD ty_FD ty_FD_ok nm_FD_ok hown hE.1 hP hD hS 0 rfl rfl 5 (by decide) (hw _ kw_100) (fun _ h9 => h9) rfl (by decide +kernel) rfl rfl (Nat.le_of_ble_eq_true rfl) d_FD_refreshAround_87 (fun H locs hP hD hS => ?_)
        have hP : va_P D vwCl [(f0, .inr (2, [.ref o1, .ref f1, .ref f2, .ref f3, .ref f4, .int (n9 + ((bcL (fitV ce sd st be wa (nb pl k) (nI 15))) - (bcL (o9 (nb pl k))))), .int ns, .int aw])), (f1, .inl (cI, 1764, .inl ce)), (f2, .inl (cJ, 1764, .inr (.inl (vp_updL o9 (nb pl k) (fitV ce sd st be wa (nb pl k) (nI 15)))))), (f3, .inl (cI, 42, .inl (upd r9 ((nb pl k) / 42) ((r9 ((nb pl k) / 42)) + ((bcL (fitV ce sd st be wa (nb pl k) (nI 15))) - (bcL (o9 (nb pl k)))))))), (o1, .inr (1, [.ref s1, .ref s2, .ref s3, .int ty, .int wa])), (s1, .inl (cI, 100, .inl st)), (s2, .inl (cI, 244, .inl sd)), (s3, .inl (cJ, 400, .inr (.inl be)))] H := hP
        have hD : va_D A [(f0, .inr (2, [.ref o1, .ref f1, .ref f2, .ref f3, .ref f4, .int (n9 + ((bcL (fitV ce sd st be wa (nb pl k) (nI 15))) - (bcL (o9 (nb pl k))))), .int ns, .int aw])), (f1, .inl (cI, 1764, .inl ce)), (f2, .inl (cJ, 1764, .inr (.inl (vp_updL o9 (nb pl k) (fitV ce sd st be wa (nb pl k) (nI 15)))))), (f3, .inl (cI, 42, .inl (upd r9 ((nb pl k) / 42) ((r9 ((nb pl k) / 42)) + ((bcL (fitV ce sd st be wa (nb pl k) (nI 15))) - (bcL (o9 (nb pl k)))))))), (o1, .inr (1, [.ref s1, .ref s2, .ref s3, .int ty, .int wa])), (s1, .inl (cI, 100, .inl st)), (s2, .inl (cI, 244, .inl sd)), (s3, .inl (cJ, 400, .inr (.inl be)))] := hD
        refine lv_iinc (v := nI (k + 1)) (lv' := [(2, .int (nI (k + 1))), (6, .int ((bcL (fitV ce sd st be wa (nb pl k) (nI 15))) - (bcL (o9 (nb pl k))))), (4, .long (fitV ce sd st be wa (nb pl k) (nI 15))), (3, .int (nI (nb pl k))), (0, .ref f0), (1, .int (nI pl))]) hx hb d_FD_refreshAround_90 hl (k := 5) rfl (jn_inc k 1) (by decide) rfl (fun ls hl => ?_)
        refine lv_goto (tgt := 2) hx hb d_FD_refreshAround_93 (by decide) ?_
        exact ih (k + 1) (vp_updL o9 (nb pl k) (fitV ce sd st be wa (nb pl k) (nI 15))) (upd r9 ((nb pl k) / 42) ((r9 ((nb pl k) / 42)) + ((bcL (fitV ce sd st be wa (nb pl k) (nI 15))) - (bcL (o9 (nb pl k)))))) (n9 + ((bcL (fitV ce sd st be wa (nb pl k) (nI 15))) - (bcL (o9 (nb pl k))))) (by omega) (by omega) (by rw [raL, ← hr9]; unfold raS raN; rw [if_pos c_24]) _ _ _ (hP.sub [0, 1, 2, 3, 4, 5, 6, 7] rfl) (hD.sub [0, 1, 2, 3, 4, 5, 6, 7] (by decide) rfl) hS (lv_sub hl [4, 5, 0] rfl)
set_option maxHeartbeats 4000000 in
set_option maxRecDepth 100000 in
/-- refreshAround -/
theorem k_FD_refreshAround (l : Launch) (D : va_G) (cI cJ : ClassId) (f0 : Nat) (f1 : Nat) (f2 : Nat) (f3 : Nat) (f4 : Nat) (o1 : Nat) (np : Int32) (ns : Int32) (aw : Int32) (s1 : Nat) (s2 : Nat) (s3 : Nat) (ty : Int32) (wa : Int32) (st : Nat → Int32) (sd : Nat → Int32) (be : Nat → Int64) (ce : Nat → Int32) (oq : Nat → Int64) (rp : Nat → Int32) (pl : Nat) (sz : Nat) (hp1 : 43 ≤ pl) (hp2 : pl ≤ 1720) (hce : okCe ce) (hsd : okSd sd) (hst : okSt st) : Met l y_FD_refreshAround ws_FD_refreshAround ({ frames := 2, cells := 0, slots := 0, locals := 56 } : Room) (va_Pc [.ref f0, .int (nI pl)] (Pw D cI cJ [(f0, .inr (2, [.ref o1, .ref f1, .ref f2, .ref f3, .ref f4, .int np, .int ns, .int aw])), (f1, .inl (cI, 1764, .inl ce)), (f2, .inl (cJ, 1764, .inr (.inl oq))), (f3, .inl (cI, 42, .inl rp)), (o1, .inr (1, [.ref s1, .ref s2, .ref s3, .int ty, .int wa])), (s1, .inl (cI, 100, .inl st)), (s2, .inl (cI, 244, .inl sd)), (s3, .inl (cJ, 400, .inr (.inl be)))] sz)) (va_Qv (fun (_u : Unit) => True) (fun _u t9 => Bw D (va_A [(f0, .inr (2, [.ref o1, .ref f1, .ref f2, .ref f3, .ref f4, .int np, .int ns, .int aw])), (f1, .inl (cI, 1764, .inl ce)), (f2, .inl (cJ, 1764, .inr (.inl oq))), (f3, .inl (cI, 42, .inl rp)), (o1, .inr (1, [.ref s1, .ref s2, .ref s3, .int ty, .int wa])), (s1, .inl (cI, 100, .inl st)), (s2, .inl (cI, 244, .inl sd)), (s3, .inl (cJ, 400, .inr (.inl be)))] sz) [(f0, .inr (2, [.ref o1, .ref f1, .ref f2, .ref f3, .ref f4, .int ((raL ce sd st be wa pl (oq, rp, np) 5).2.2), .int ns, .int aw])), (f1, .inl (cI, 1764, .inl ce)), (f2, .inl (cJ, 1764, .inr (.inl ((raL ce sd st be wa pl (oq, rp, np) 5).1)))), (f3, .inl (cI, 42, .inl ((raL ce sd st be wa pl (oq, rp, np) 5).2.1))), (o1, .inr (1, [.ref s1, .ref s2, .ref s3, .int ty, .int wa])), (s1, .inl (cI, 100, .inl st)), (s2, .inl (cI, 244, .inl sd)), (s3, .inl (cJ, 400, .inr (.inl be)))] t9) (va_A [(f0, .inr (2, [.ref o1, .ref f1, .ref f2, .ref f3, .ref f4, .int np, .int ns, .int aw])), (f1, .inl (cI, 1764, .inl ce)), (f2, .inl (cJ, 1764, .inr (.inl oq))), (f3, .inl (cI, 42, .inl rp)), (o1, .inr (1, [.ref s1, .ref s2, .ref s3, .int ty, .int wa])), (s1, .inl (cI, 100, .inl st)), (s2, .inl (cI, 244, .inl sd)), (s3, .inl (cJ, 400, .inr (.inl be)))] sz)) 0 0 (va_A [(f0, .inr (2, [.ref o1, .ref f1, .ref f2, .ref f3, .ref f4, .int np, .int ns, .int aw])), (f1, .inl (cI, 1764, .inl ce)), (f2, .inl (cJ, 1764, .inr (.inl oq))), (f3, .inl (cI, 42, .inl rp)), (o1, .inr (1, [.ref s1, .ref s2, .ref s3, .int ty, .int wa])), (s1, .inl (cI, 100, .inl st)), (s2, .inl (cI, 244, .inl sd)), (s3, .inl (cJ, 400, .inr (.inl be)))] sz) := by
  refine Met.ofW (cc := c_FD_refreshAround) (maxL := 7) (ret := none) (by decide) rfl ?_
  intro p e s m args below meth c s₁ B hml hv
  obtain ⟨rfl, hsz, hE, hP, hD0, hX⟩ := hv
  have hx := B.exec
  have hb := B.bytes
  have hr := B.returns
  have hw : ∀ w ∈ gw, w.before _ s = true := fun w h => atoms_spec (ws := ws_FD_refreshAround) B.pre w (List.mem_cons_of_mem _ h)
  have hown : s.vm.findClass R_FD = some m.cls := findClass_of_methodNamed B.named
  have hlocks := B.notSynchronized
  subst hsz
  have hD := hD0.self (sz := s.heap.size)
  generalize hAe : va_A [(f0, .inr (2, [.ref o1, .ref f1, .ref f2, .ref f3, .ref f4, .int np, .int ns, .int aw])), (f1, .inl (cI, 1764, .inl ce)), (f2, .inl (cJ, 1764, .inr (.inl oq))), (f3, .inl (cI, 42, .inl rp)), (o1, .inr (1, [.ref s1, .ref s2, .ref s3, .int ty, .int wa])), (s1, .inl (cI, 100, .inl st)), (s2, .inl (cI, 244, .inl sd)), (s3, .inl (cJ, 400, .inr (.inl be)))] s.heap.size = A at hD hX ⊢
  have hA : ∀ q : Nat, s.heap.size ≤ q → A q := fun q h => by rw [← hAe]; exact Or.inr h
  have hS : va_S A s.heap s.heap [] := va_S.rf
  have hP : va_P D vwCl [(f0, .inr (2, [.ref o1, .ref f1, .ref f2, .ref f3, .ref f4, .int np, .int ns, .int aw])), (f1, .inl (cI, 1764, .inl ce)), (f2, .inl (cJ, 1764, .inr (.inl oq))), (f3, .inl (cI, 42, .inl rp)), (o1, .inr (1, [.ref s1, .ref s2, .ref s3, .int ty, .int wa])), (s1, .inl (cI, 100, .inl st)), (s2, .inl (cI, 244, .inl sd)), (s3, .inl (cJ, 400, .inr (.inl be)))] s.heap := hP
  obtain ⟨tS, hZ, hT⟩ := hX.1
  have hl := lv_entry ([.ref f0, .int (nI pl)]) (n := 7) (Nat.le_of_ble_eq_true rfl)
  rw [lg_entry_eq]
  generalize (lg_sl ([.ref f0, .int (nI pl)]) ++ List.replicate (7 - (lg_sl ([.ref f0, .int (nI pl)])).length) Slot.unset).toArray = ls at hl ⊢
  have hl : lv_has ls 7 [(0, .ref f0), (1, .int (nI pl))] := hl
  refine lv_iconst (v := nI 0) hx hb d_FD_refreshAround_0 (by decide +kernel) ?_
  refine lv_istore_n (lv' := [(2, .int (nI 0)), (0, .ref f0), (1, .int (nI pl))]) hx hb d_FD_refreshAround_1 rfl hl (by decide) rfl (fun ls hl => ?_)
  refine lp_k_FD_refreshAround_2 f0 f1 f2 f3 f4 o1 np ns aw s1 s2 s3 ty wa st sd be ce oq rp pl hp1 hp2 hce hsd hst hx hb hml hown hw hE hX hA (fun o9 r9 n9 hr9 H locs ls hP hD hS hl => ?_) ((5 - 0) + 1) 0 oq rp np (Nat.lt_succ_self _) (Nat.zero_le _) rfl _ _ _ (hP.sub [0, 1, 2, 3, 4, 5, 6, 7] rfl) (hD.sub [0, 1, 2, 3, 4, 5, 6, 7] (by decide) rfl) hS (lv_sub hl [1, 2, 0] rfl)
  have e1 : o9 = (raL ce sd st be wa pl (oq, rp, np) 5).1 := congrArg (fun z => z.1) hr9
  have e2 : r9 = (raL ce sd st be wa pl (oq, rp, np) 5).2.1 := congrArg (fun z => z.2.1) hr9
  have e3 : n9 = (raL ce sd st be wa pl (oq, rp, np) 5).2.2 := congrArg (fun z => z.2.2) hr9
  rw [e1, e2, e3] at hP hD
  have hP9 := hP.sub (ws' := [(f0, .inr (2, [.ref o1, .ref f1, .ref f2, .ref f3, .ref f4, .int ((raL ce sd st be wa pl (oq, rp, np) 5).2.2), .int ns, .int aw])), (f1, .inl (cI, 1764, .inl ce)), (f2, .inl (cJ, 1764, .inr (.inl ((raL ce sd st be wa pl (oq, rp, np) 5).1)))), (f3, .inl (cI, 42, .inl ((raL ce sd st be wa pl (oq, rp, np) 5).2.1))), (o1, .inr (1, [.ref s1, .ref s2, .ref s3, .int ty, .int wa])), (s1, .inl (cI, 100, .inl st)), (s2, .inl (cI, 244, .inl sd)), (s3, .inl (cJ, 400, .inr (.inl be)))]) [0, 1, 2, 3, 4, 5, 6, 7] rfl
  have hD9 := hD.sub (ws' := [(f0, .inr (2, [.ref o1, .ref f1, .ref f2, .ref f3, .ref f4, .int ((raL ce sd st be wa pl (oq, rp, np) 5).2.2), .int ns, .int aw])), (f1, .inl (cI, 1764, .inl ce)), (f2, .inl (cJ, 1764, .inr (.inl ((raL ce sd st be wa pl (oq, rp, np) 5).1)))), (f3, .inl (cI, 42, .inl ((raL ce sd st be wa pl (oq, rp, np) 5).2.1))), (o1, .inr (1, [.ref s1, .ref s2, .ref s3, .int ty, .int wa])), (s1, .inl (cI, 100, .inl st)), (s2, .inl (cI, 244, .inl sd)), (s3, .inl (cJ, 400, .inr (.inl be)))]) [0, 1, 2, 3, 4, 5, 6, 7] (by decide) rfl
  exact W.vret hx hb hr (fun t9 ht hW => ⟨⟨(), rfl, trivial, ⟨by rw [ht]; exact hP9, hD9⟩⟩, hS.F ht⟩) hS.2.2 d_FD_refreshAround_96
/-- the counts behind a new tile -/
def tlP (tl : Nat → Int32) (x : Int32) : Nat → Int32 := upd (upd tl 0 (tl 0 + nI 1)) (tyN x) (upd tl 0 (tl 0 + nI 1) (tyN x) + nI 1)
def nsP (ns : Int32) (x : Int32) : Int32 := if sdN x = 0 then ns else ns + nI 1
theorem okCe_upd {ce : Nat → Int32} {p : Nat} {x : Int32} (h : okCe ce) (h1 : 43 ≤ p) (h2 : p ≤ 1720) (hx : tyN x ≤ 60) : okCe (upd ce p x) := by
  intro i hi
  unfold upd
  by_cases e : i = p
  · subst e
    rw [if_pos rfl]
    exact ⟨hx, fun _ => ⟨h1, h2⟩⟩
  · rw [if_neg e]
    exact h i hi
set_option maxHeartbeats 4000000 in
set_option maxRecDepth 100000 in
/-- put -/
theorem k_FD_put (l : Launch) (D : va_G) (cI cJ : ClassId) (f0 : Nat) (f1 : Nat) (f2 : Nat) (f3 : Nat) (f4 : Nat) (o1 : Nat) (np : Int32) (ns : Int32) (aw : Int32) (s1 : Nat) (s2 : Nat) (s3 : Nat) (ty : Int32) (wa : Int32) (st : Nat → Int32) (sd : Nat → Int32) (be : Nat → Int64) (ce : Nat → Int32) (oq : Nat → Int64) (rp : Nat → Int32) (pl : Nat) (tl : Nat → Int32) (x : Int32) (sz : Nat) (hp1 : 43 ≤ pl) (hp2 : pl ≤ 1720) (hce : okCe ce) (hsd : okSd sd) (hst : okSt st) (hx60 : tyN x ≤ 60) : Met l y_FD_put ws_FD_put ({ frames := 3, cells := 0, slots := 0, locals := 82 } : Room) (va_Pc [.ref f0, .int (nI pl), .int x] (Pw D cI cJ [(f0, .inr (2, [.ref o1, .ref f1, .ref f2, .ref f3, .ref f4, .int np, .int ns, .int aw])), (f1, .inl (cI, 1764, .inl ce)), (f2, .inl (cJ, 1764, .inr (.inl oq))), (f3, .inl (cI, 42, .inl rp)), (f4, .inl (cI, 61, .inl tl)), (o1, .inr (1, [.ref s1, .ref s2, .ref s3, .int ty, .int wa])), (s1, .inl (cI, 100, .inl st)), (s2, .inl (cI, 244, .inl sd)), (s3, .inl (cJ, 400, .inr (.inl be)))] sz)) (va_Qv (fun (_u : Unit) => True) (fun _u t9 => Bw D (va_A [(f0, .inr (2, [.ref o1, .ref f1, .ref f2, .ref f3, .ref f4, .int np, .int ns, .int aw])), (f1, .inl (cI, 1764, .inl ce)), (f2, .inl (cJ, 1764, .inr (.inl oq))), (f3, .inl (cI, 42, .inl rp)), (f4, .inl (cI, 61, .inl tl)), (o1, .inr (1, [.ref s1, .ref s2, .ref s3, .int ty, .int wa])), (s1, .inl (cI, 100, .inl st)), (s2, .inl (cI, 244, .inl sd)), (s3, .inl (cJ, 400, .inr (.inl be)))] sz) [(f0, .inr (2, [.ref o1, .ref f1, .ref f2, .ref f3, .ref f4, .int ((raL (upd ce pl x) sd st be wa pl (oq, rp, np) 5).2.2), .int (nsP ns x), .int aw])), (f1, .inl (cI, 1764, .inl (upd ce pl x))), (f2, .inl (cJ, 1764, .inr (.inl ((raL (upd ce pl x) sd st be wa pl (oq, rp, np) 5).1)))), (f3, .inl (cI, 42, .inl ((raL (upd ce pl x) sd st be wa pl (oq, rp, np) 5).2.1))), (f4, .inl (cI, 61, .inl (tlP tl x))), (o1, .inr (1, [.ref s1, .ref s2, .ref s3, .int ty, .int wa])), (s1, .inl (cI, 100, .inl st)), (s2, .inl (cI, 244, .inl sd)), (s3, .inl (cJ, 400, .inr (.inl be)))] t9) (va_A [(f0, .inr (2, [.ref o1, .ref f1, .ref f2, .ref f3, .ref f4, .int np, .int ns, .int aw])), (f1, .inl (cI, 1764, .inl ce)), (f2, .inl (cJ, 1764, .inr (.inl oq))), (f3, .inl (cI, 42, .inl rp)), (f4, .inl (cI, 61, .inl tl)), (o1, .inr (1, [.ref s1, .ref s2, .ref s3, .int ty, .int wa])), (s1, .inl (cI, 100, .inl st)), (s2, .inl (cI, 244, .inl sd)), (s3, .inl (cJ, 400, .inr (.inl be)))] sz)) 0 0 (va_A [(f0, .inr (2, [.ref o1, .ref f1, .ref f2, .ref f3, .ref f4, .int np, .int ns, .int aw])), (f1, .inl (cI, 1764, .inl ce)), (f2, .inl (cJ, 1764, .inr (.inl oq))), (f3, .inl (cI, 42, .inl rp)), (f4, .inl (cI, 61, .inl tl)), (o1, .inr (1, [.ref s1, .ref s2, .ref s3, .int ty, .int wa])), (s1, .inl (cI, 100, .inl st)), (s2, .inl (cI, 244, .inl sd)), (s3, .inl (cJ, 400, .inr (.inl be)))] sz) := by
  refine Met.ofW (cc := c_FD_put) (maxL := 3) (ret := none) (by decide) rfl ?_
  intro p e s m args below meth c s₁ B hml hv
  obtain ⟨rfl, hsz, hE, hP, hD0, hX⟩ := hv
  have hx := B.exec
  have hb := B.bytes
  have hr := B.returns
  have hw : ∀ w ∈ gw, w.before _ s = true := fun w h => atoms_spec (ws := ws_FD_put) B.pre w (List.mem_cons_of_mem _ h)
  have hown : s.vm.findClass R_FD = some m.cls := findClass_of_methodNamed B.named
  have hlocks := B.notSynchronized
  subst hsz
  have hD := hD0.self (sz := s.heap.size)
  generalize hAe : va_A [(f0, .inr (2, [.ref o1, .ref f1, .ref f2, .ref f3, .ref f4, .int np, .int ns, .int aw])), (f1, .inl (cI, 1764, .inl ce)), (f2, .inl (cJ, 1764, .inr (.inl oq))), (f3, .inl (cI, 42, .inl rp)), (f4, .inl (cI, 61, .inl tl)), (o1, .inr (1, [.ref s1, .ref s2, .ref s3, .int ty, .int wa])), (s1, .inl (cI, 100, .inl st)), (s2, .inl (cI, 244, .inl sd)), (s3, .inl (cJ, 400, .inr (.inl be)))] s.heap.size = A at hD hX ⊢
  have hA : ∀ q : Nat, s.heap.size ≤ q → A q := fun q h => by rw [← hAe]; exact Or.inr h
  have hS : va_S A s.heap s.heap [] := va_S.rf
  have hP : va_P D vwCl [(f0, .inr (2, [.ref o1, .ref f1, .ref f2, .ref f3, .ref f4, .int np, .int ns, .int aw])), (f1, .inl (cI, 1764, .inl ce)), (f2, .inl (cJ, 1764, .inr (.inl oq))), (f3, .inl (cI, 42, .inl rp)), (f4, .inl (cI, 61, .inl tl)), (o1, .inr (1, [.ref s1, .ref s2, .ref s3, .int ty, .int wa])), (s1, .inl (cI, 100, .inl st)), (s2, .inl (cI, 244, .inl sd)), (s3, .inl (cJ, 400, .inr (.inl be)))] s.heap := hP
  have hl := lv_entry ([.ref f0, .int (nI pl), .int x]) (n := 3) (Nat.le_of_ble_eq_true rfl)
  rw [lg_entry_eq]
  generalize (lg_sl ([.ref f0, .int (nI pl), .int x]) ++ List.replicate (3 - (lg_sl ([.ref f0, .int (nI pl), .int x])).length) Slot.unset).toArray = ls at hl ⊢
  have hl : lv_has ls 3 [(0, .ref f0), (1, .int (nI pl)), (2, .int x)] := hl
  refine lv_aload_n hx hb d_FD_put_0 rfl (lv_at hl 0 rfl) ?_
  refine va_get (D := D) (ci := 2) (v := .ref f1) (C := R_FD) (T := T_FD) (N := 8) hx hb hw in_FD hown hE.1 hP 0 rfl rfl 1 (by decide) (hw _ kw_96) (fun _ h9 => h9) rfl d_FD_put_1 ?_
  refine lv_iload_n hx hb d_FD_put_4 rfl (lv_at hl 1 rfl) ?_
  refine lv_iload_n hx hb d_FD_put_5 rfl (lv_at hl 2 rfl) ?_
  refine jn_iast (k := pl) hx hb hE.1 hP hD hS 1 0 rfl rfl (by omega) (by omega) d_FD_put_6 (fun H locs hP hD hS => ?_)
  have hP : va_P D vwCl [(f0, .inr (2, [.ref o1, .ref f1, .ref f2, .ref f3, .ref f4, .int np, .int ns, .int aw])), (f1, .inl (cI, 1764, .inl (upd ce pl x))), (f2, .inl (cJ, 1764, .inr (.inl oq))), (f3, .inl (cI, 42, .inl rp)), (f4, .inl (cI, 61, .inl tl)), (o1, .inr (1, [.ref s1, .ref s2, .ref s3, .int ty, .int wa])), (s1, .inl (cI, 100, .inl st)), (s2, .inl (cI, 244, .inl sd)), (s3, .inl (cJ, 400, .inr (.inl be)))] H := hP
  have hD : va_D A [(f0, .inr (2, [.ref o1, .ref f1, .ref f2, .ref f3, .ref f4, .int np, .int ns, .int aw])), (f1, .inl (cI, 1764, .inl (upd ce pl x))), (f2, .inl (cJ, 1764, .inr (.inl oq))), (f3, .inl (cI, 42, .inl rp)), (f4, .inl (cI, 61, .inl tl)), (o1, .inr (1, [.ref s1, .ref s2, .ref s3, .int ty, .int wa])), (s1, .inl (cI, 100, .inl st)), (s2, .inl (cI, 244, .inl sd)), (s3, .inl (cJ, 400, .inr (.inl be)))] := hD
  refine lv_aload_n hx hb d_FD_put_7 rfl (lv_at hl 0 rfl) ?_
  refine va_get (D := D) (ci := 2) (v := .ref f4) (C := R_FD) (T := T_FD) (N := 8) hx hb hw in_FD hown hE.1 hP 0 rfl rfl 4 (by decide) (hw _ kw_99) (fun _ h9 => h9) rfl d_FD_put_8 ?_
  refine lv_iconst (v := nI 0) hx hb d_FD_put_11 (by decide +kernel) ?_
  refine lv_dup2_11 hx hb d_FD_put_12 rfl rfl ?_
  refine jn_iald (k := 0) hx hb hE.1 hP 4 0 rfl rfl (by omega) (by omega) d_FD_put_13 ?_
  refine lv_iconst (v := nI 1) hx hb d_FD_put_14 (by decide +kernel) ?_
  refine lv_iadd hx hb d_FD_put_15 ?_
  refine jn_iast (k := 0) hx hb hE.1 hP hD hS 4 0 rfl rfl (by omega) (by omega) d_FD_put_16 (fun H locs hP hD hS => ?_)
  have hP : va_P D vwCl [(f0, .inr (2, [.ref o1, .ref f1, .ref f2, .ref f3, .ref f4, .int np, .int ns, .int aw])), (f1, .inl (cI, 1764, .inl (upd ce pl x))), (f2, .inl (cJ, 1764, .inr (.inl oq))), (f3, .inl (cI, 42, .inl rp)), (f4, .inl (cI, 61, .inl (upd tl 0 ((tl 0) + (nI 1))))), (o1, .inr (1, [.ref s1, .ref s2, .ref s3, .int ty, .int wa])), (s1, .inl (cI, 100, .inl st)), (s2, .inl (cI, 244, .inl sd)), (s3, .inl (cJ, 400, .inr (.inl be)))] H := hP
  have hD : va_D A [(f0, .inr (2, [.ref o1, .ref f1, .ref f2, .ref f3, .ref f4, .int np, .int ns, .int aw])), (f1, .inl (cI, 1764, .inl (upd ce pl x))), (f2, .inl (cJ, 1764, .inr (.inl oq))), (f3, .inl (cI, 42, .inl rp)), (f4, .inl (cI, 61, .inl (upd tl 0 ((tl 0) + (nI 1))))), (o1, .inr (1, [.ref s1, .ref s2, .ref s3, .int ty, .int wa])), (s1, .inl (cI, 100, .inl st)), (s2, .inl (cI, 244, .inl sd)), (s3, .inl (cJ, 400, .inr (.inl be)))] := hD
  refine lv_aload_n hx hb d_FD_put_17 rfl (lv_at hl 0 rfl) ?_
  refine va_get (D := D) (ci := 2) (v := .ref f4) (C := R_FD) (T := T_FD) (N := 8) hx hb hw in_FD hown hE.1 hP 0 rfl rfl 4 (by decide) (hw _ kw_99) (fun _ h9 => h9) rfl d_FD_put_18 ?_
  refine lv_aload_n hx hb d_FD_put_21 rfl (lv_at hl 0 rfl) ?_
  refine lv_iload_n hx hb d_FD_put_22 rfl (lv_at hl 1 rfl) ?_
  refine vp_callSi (va_Run.run (va_runV (As := [.int (nI pl)]) (rest := [.ref f4]) ⟨hx, hb, hml, hown, hw⟩ (k_FD_typeAt l D cI cJ f0 f1 f2 f3 f4 o1 np ns aw (upd ce pl x) pl (by omega)) (cwV 1 hw (gV kw_437 kw_422 kw_423 kw_42 kw_424) rfl rfl rfl (by decide +kernel) ⟨Nat.le_of_ble_eq_true rfl, Nat.le_of_ble_eq_true rfl⟩) (pre_Vp (wc := [(f0, .inr (2, [.ref o1, .ref f1, .ref f2, .ref f3, .ref f4, .int np, .int ns, .int aw])), (f1, .inl (cI, 1764, .inl (upd ce pl x)))]) (q0 := 0) hE hX hP hS [0, 1] rfl rfl rfl) rfl rfl hl.1 rfl (lv_room (Nat.le_of_ble_eq_true rfl)) d_FD_put_23 ⟨Nat.le_of_ble_eq_true rfl, Nat.le_of_ble_eq_true rfl⟩)) (fun r_1 hr_1 => ?_)
  obtain rfl : nI (tyN ((upd ce pl x) pl)) = r_1 := hr_1.symm
  refine W.eq (g2 := F0 m 26 ls [.int (nI (tyN x)), .ref f4]) (by rw [pk_us]) ?_
  refine lv_dup2_11 hx hb d_FD_put_26 rfl rfl ?_
  refine jn_iald (k := (tyN x)) hx hb hE.1 hP 4 0 rfl rfl (by omega) (by omega) d_FD_put_27 ?_
  refine lv_iconst (v := nI 1) hx hb d_FD_put_28 (by decide +kernel) ?_
  refine lv_iadd hx hb d_FD_put_29 ?_
  refine jn_iast (k := (tyN x)) hx hb hE.1 hP hD hS 4 0 rfl rfl (by omega) (by omega) d_FD_put_30 (fun H locs hP hD hS => ?_)
  have hP : va_P D vwCl [(f0, .inr (2, [.ref o1, .ref f1, .ref f2, .ref f3, .ref f4, .int np, .int ns, .int aw])), (f1, .inl (cI, 1764, .inl (upd ce pl x))), (f2, .inl (cJ, 1764, .inr (.inl oq))), (f3, .inl (cI, 42, .inl rp)), (f4, .inl (cI, 61, .inl (upd (upd tl 0 ((tl 0) + (nI 1))) (tyN x) (((upd tl 0 ((tl 0) + (nI 1))) (tyN x)) + (nI 1))))), (o1, .inr (1, [.ref s1, .ref s2, .ref s3, .int ty, .int wa])), (s1, .inl (cI, 100, .inl st)), (s2, .inl (cI, 244, .inl sd)), (s3, .inl (cJ, 400, .inr (.inl be)))] H := hP
  have hD : va_D A [(f0, .inr (2, [.ref o1, .ref f1, .ref f2, .ref f3, .ref f4, .int np, .int ns, .int aw])), (f1, .inl (cI, 1764, .inl (upd ce pl x))), (f2, .inl (cJ, 1764, .inr (.inl oq))), (f3, .inl (cI, 42, .inl rp)), (f4, .inl (cI, 61, .inl (upd (upd tl 0 ((tl 0) + (nI 1))) (tyN x) (((upd tl 0 ((tl 0) + (nI 1))) (tyN x)) + (nI 1))))), (o1, .inr (1, [.ref s1, .ref s2, .ref s3, .int ty, .int wa])), (s1, .inl (cI, 100, .inl st)), (s2, .inl (cI, 244, .inl sd)), (s3, .inl (cJ, 400, .inr (.inl be)))] := hD
  refine lv_aload_n hx hb d_FD_put_31 rfl (lv_at hl 0 rfl) ?_
  refine lv_iload_n hx hb d_FD_put_32 rfl (lv_at hl 1 rfl) ?_
  refine vp_callSi (va_Run.run (va_runV (As := [.int (nI pl)]) (rest := []) ⟨hx, hb, hml, hown, hw⟩ (k_FD_isSeed l D cI cJ f0 f1 f2 f3 f4 o1 np ns aw (upd ce pl x) pl (by omega)) (cwV 1 hw (gV kw_438 kw_439 kw_440 kw_42 kw_441) rfl rfl rfl (by decide +kernel) ⟨Nat.le_of_ble_eq_true rfl, Nat.le_of_ble_eq_true rfl⟩) (pre_Vp (wc := [(f0, .inr (2, [.ref o1, .ref f1, .ref f2, .ref f3, .ref f4, .int np, .int ns, .int aw])), (f1, .inl (cI, 1764, .inl (upd ce pl x)))]) (q0 := 0) hE hX hP hS [0, 1] rfl rfl rfl) rfl rfl hl.1 rfl (lv_room (Nat.le_of_ble_eq_true rfl)) d_FD_put_33 ⟨Nat.le_of_ble_eq_true rfl, Nat.le_of_ble_eq_true rfl⟩)) (fun r_2 hr_2 => ?_)
  obtain rfl : nI (sdN ((upd ce pl x) pl)) = r_2 := hr_2.symm
  refine W.eq (g2 := F0 m 36 ls [.int (nI (sdN x))]) (by rw [pk_us]) ?_
  refine jn_if_eq (tgt := 49) (a := (sdN x)) hx hb d_FD_put_36 (by decide) (by have := sdN_le x; omega) (fun c_36 => ?_) (fun c_36 => ?_)
  · skip
    refine lv_aload_n hx hb d_FD_put_49 rfl (lv_at hl 0 rfl) ?_
    refine lv_iload_n hx hb d_FD_put_50 rfl (lv_at hl 1 rfl) ?_
    refine cl_v (wr := [(f4, .inl (cI, 61, .inl (upd (upd tl 0 ((tl 0) + (nI 1))) (tyN x) (((upd tl 0 ((tl 0) + (nI 1))) (tyN x)) + (nI 1)))))]) (va_runV (As := [.int (nI pl)]) (rest := []) ⟨hx, hb, hml, hown, hw⟩ (k_FD_refreshAround l D cI cJ f0 f1 f2 f3 f4 o1 np ns aw s1 s2 s3 ty wa st sd be (upd ce pl x) oq rp pl _ hp1 hp2 (okCe_upd hce hp1 hp2 hx60) hsd hst) (cwV 1 hw (gV kw_442 kw_444 kw_4 kw_42 kw_445) rfl rfl rfl (by decide +kernel) ⟨Nat.le_of_ble_eq_true rfl, Nat.le_of_ble_eq_true rfl⟩) (pre_Vw (wc := [(f0, .inr (2, [.ref o1, .ref f1, .ref f2, .ref f3, .ref f4, .int np, .int ns, .int aw])), (f1, .inl (cI, 1764, .inl (upd ce pl x))), (f2, .inl (cJ, 1764, .inr (.inl oq))), (f3, .inl (cI, 42, .inl rp)), (o1, .inr (1, [.ref s1, .ref s2, .ref s3, .int ty, .int wa])), (s1, .inl (cI, 100, .inl st)), (s2, .inl (cI, 244, .inl sd)), (s3, .inl (cJ, 400, .inr (.inl be)))]) (q0 := 0) hE hX hA hP hD hS [0, 1, 2, 3, 5, 6, 7, 8] (by decide) rfl rfl rfl rfl) rfl rfl hl.1 rfl (lv_room (Nat.le_of_ble_eq_true rfl)) d_FD_put_51 ⟨Nat.le_of_ble_eq_true rfl, Nat.le_of_ble_eq_true rfl⟩) hP hD hS hA [0, 1, 2, 3, 5, 6, 7, 8] [4] rfl rfl (by decide) (by decide) (fun u_r_3 H locs hr_3 hP hD hS => ?_)
    have hP : va_P D vwCl [(f4, .inl (cI, 61, .inl (upd (upd tl 0 ((tl 0) + (nI 1))) (tyN x) (((upd tl 0 ((tl 0) + (nI 1))) (tyN x)) + (nI 1))))), (f0, .inr (2, [.ref o1, .ref f1, .ref f2, .ref f3, .ref f4, .int ((raL (upd ce pl x) sd st be wa pl (oq, rp, np) 5).2.2), .int ns, .int aw])), (f1, .inl (cI, 1764, .inl (upd ce pl x))), (f2, .inl (cJ, 1764, .inr (.inl ((raL (upd ce pl x) sd st be wa pl (oq, rp, np) 5).1)))), (f3, .inl (cI, 42, .inl ((raL (upd ce pl x) sd st be wa pl (oq, rp, np) 5).2.1))), (o1, .inr (1, [.ref s1, .ref s2, .ref s3, .int ty, .int wa])), (s1, .inl (cI, 100, .inl st)), (s2, .inl (cI, 244, .inl sd)), (s3, .inl (cJ, 400, .inr (.inl be)))] H := hP
    have hD : va_D A [(f4, .inl (cI, 61, .inl (upd (upd tl 0 ((tl 0) + (nI 1))) (tyN x) (((upd tl 0 ((tl 0) + (nI 1))) (tyN x)) + (nI 1))))), (f0, .inr (2, [.ref o1, .ref f1, .ref f2, .ref f3, .ref f4, .int ((raL (upd ce pl x) sd st be wa pl (oq, rp, np) 5).2.2), .int ns, .int aw])), (f1, .inl (cI, 1764, .inl (upd ce pl x))), (f2, .inl (cJ, 1764, .inr (.inl ((raL (upd ce pl x) sd st be wa pl (oq, rp, np) 5).1)))), (f3, .inl (cI, 42, .inl ((raL (upd ce pl x) sd st be wa pl (oq, rp, np) 5).2.1))), (o1, .inr (1, [.ref s1, .ref s2, .ref s3, .int ty, .int wa])), (s1, .inl (cI, 100, .inl st)), (s2, .inl (cI, 244, .inl sd)), (s3, .inl (cJ, 400, .inr (.inl be)))] := hD
    have hP9 := hP.sub (ws' := [(f0, .inr (2, [.ref o1, .ref f1, .ref f2, .ref f3, .ref f4, .int ((raL (upd ce pl x) sd st be wa pl (oq, rp, np) 5).2.2), .int ns, .int aw])), (f1, .inl (cI, 1764, .inl (upd ce pl x))), (f2, .inl (cJ, 1764, .inr (.inl ((raL (upd ce pl x) sd st be wa pl (oq, rp, np) 5).1)))), (f3, .inl (cI, 42, .inl ((raL (upd ce pl x) sd st be wa pl (oq, rp, np) 5).2.1))), (f4, .inl (cI, 61, .inl (upd (upd tl 0 ((tl 0) + (nI 1))) (tyN x) (((upd tl 0 ((tl 0) + (nI 1))) (tyN x)) + (nI 1))))), (o1, .inr (1, [.ref s1, .ref s2, .ref s3, .int ty, .int wa])), (s1, .inl (cI, 100, .inl st)), (s2, .inl (cI, 244, .inl sd)), (s3, .inl (cJ, 400, .inr (.inl be)))]) [1, 2, 3, 4, 0, 5, 6, 7, 8] rfl
    have hD9 := hD.sub (ws' := [(f0, .inr (2, [.ref o1, .ref f1, .ref f2, .ref f3, .ref f4, .int ((raL (upd ce pl x) sd st be wa pl (oq, rp, np) 5).2.2), .int ns, .int aw])), (f1, .inl (cI, 1764, .inl (upd ce pl x))), (f2, .inl (cJ, 1764, .inr (.inl ((raL (upd ce pl x) sd st be wa pl (oq, rp, np) 5).1)))), (f3, .inl (cI, 42, .inl ((raL (upd ce pl x) sd st be wa pl (oq, rp, np) 5).2.1))), (f4, .inl (cI, 61, .inl (upd (upd tl 0 ((tl 0) + (nI 1))) (tyN x) (((upd tl 0 ((tl 0) + (nI 1))) (tyN x)) + (nI 1))))), (o1, .inr (1, [.ref s1, .ref s2, .ref s3, .int ty, .int wa])), (s1, .inl (cI, 100, .inl st)), (s2, .inl (cI, 244, .inl sd)), (s3, .inl (cJ, 400, .inr (.inl be)))]) [1, 2, 3, 4, 0, 5, 6, 7, 8] (by decide) rfl
    have hP9 : va_P D vwCl [(f0, .inr (2, [.ref o1, .ref f1, .ref f2, .ref f3, .ref f4, .int ((raL (upd ce pl x) sd st be wa pl (oq, rp, np) 5).2.2), .int (nsP ns x), .int aw])), (f1, .inl (cI, 1764, .inl (upd ce pl x))), (f2, .inl (cJ, 1764, .inr (.inl ((raL (upd ce pl x) sd st be wa pl (oq, rp, np) 5).1)))), (f3, .inl (cI, 42, .inl ((raL (upd ce pl x) sd st be wa pl (oq, rp, np) 5).2.1))), (f4, .inl (cI, 61, .inl (upd (upd tl 0 ((tl 0) + (nI 1))) (tyN x) (((upd tl 0 ((tl 0) + (nI 1))) (tyN x)) + (nI 1))))), (o1, .inr (1, [.ref s1, .ref s2, .ref s3, .int ty, .int wa])), (s1, .inl (cI, 100, .inl st)), (s2, .inl (cI, 244, .inl sd)), (s3, .inl (cJ, 400, .inr (.inl be)))] H := by rw [show nsP ns x = ns from by unfold nsP; rw [if_pos c_36]]; exact hP9
    have hD9 : va_D A [(f0, .inr (2, [.ref o1, .ref f1, .ref f2, .ref f3, .ref f4, .int ((raL (upd ce pl x) sd st be wa pl (oq, rp, np) 5).2.2), .int (nsP ns x), .int aw])), (f1, .inl (cI, 1764, .inl (upd ce pl x))), (f2, .inl (cJ, 1764, .inr (.inl ((raL (upd ce pl x) sd st be wa pl (oq, rp, np) 5).1)))), (f3, .inl (cI, 42, .inl ((raL (upd ce pl x) sd st be wa pl (oq, rp, np) 5).2.1))), (f4, .inl (cI, 61, .inl (upd (upd tl 0 ((tl 0) + (nI 1))) (tyN x) (((upd tl 0 ((tl 0) + (nI 1))) (tyN x)) + (nI 1))))), (o1, .inr (1, [.ref s1, .ref s2, .ref s3, .int ty, .int wa])), (s1, .inl (cI, 100, .inl st)), (s2, .inl (cI, 244, .inl sd)), (s3, .inl (cJ, 400, .inr (.inl be)))] := by rw [show nsP ns x = ns from by unfold nsP; rw [if_pos c_36]]; exact hD9
    exact W.vret hx hb hr (fun t9 ht hW => ⟨⟨(), rfl, trivial, ⟨by rw [ht]; exact hP9, hD9⟩⟩, hS.F ht⟩) hS.2.2 d_FD_put_54
  · skip
    refine lv_aload_n hx hb d_FD_put_39 rfl (lv_at hl 0 rfl) ?_
    refine lv_dup hx hb d_FD_put_40 rfl ?_
    refine va_get (D := D) (ci := 2) (v := .int ns) (C := R_FD) (T := T_FD) (N := 8) hx hb hw in_FD hown hE.1 hP 0 rfl rfl 6 (by decide) (hw _ kw_101) (fun _ h9 => h9) rfl d_FD_put_41 ?_
    refine lv_iconst (v := nI 1) hx hb d_FD_put_44 (by decide +kernel) ?_
    refine lv_iadd hx hb d_FD_put_45 ?_
    refine va_put (D := D) (ci := 2) (v := .int (ns + (nI 1))) (ty := .int) (C := R_FD) (T := T_FD) (N := 8) hx hb hw in_FD ty_FD ty_FD_ok nm_FD_ok hown hE.1 hP hD hS 0 rfl rfl 6 (by decide) (hw _ kw_101) (fun _ h9 => h9) rfl (by decide +kernel) rfl rfl (Nat.le_of_ble_eq_true rfl) d_FD_put_46 (fun H locs hP hD hS => ?_)
    have hP : va_P D vwCl [(f0, .inr (2, [.ref o1, .ref f1, .ref f2, .ref f3, .ref f4, .int np, .int (ns + (nI 1)), .int aw])), (f1, .inl (cI, 1764, .inl (upd ce pl x))), (f2, .inl (cJ, 1764, .inr (.inl oq))), (f3, .inl (cI, 42, .inl rp)), (f4, .inl (cI, 61, .inl (upd (upd tl 0 ((tl 0) + (nI 1))) (tyN x) (((upd tl 0 ((tl 0) + (nI 1))) (tyN x)) + (nI 1))))), (o1, .inr (1, [.ref s1, .ref s2, .ref s3, .int ty, .int wa])), (s1, .inl (cI, 100, .inl st)), (s2, .inl (cI, 244, .inl sd)), (s3, .inl (cJ, 400, .inr (.inl be)))] H := hP
    have hD : va_D A [(f0, .inr (2, [.ref o1, .ref f1, .ref f2, .ref f3, .ref f4, .int np, .int (ns + (nI 1)), .int aw])), (f1, .inl (cI, 1764, .inl (upd ce pl x))), (f2, .inl (cJ, 1764, .inr (.inl oq))), (f3, .inl (cI, 42, .inl rp)), (f4, .inl (cI, 61, .inl (upd (upd tl 0 ((tl 0) + (nI 1))) (tyN x) (((upd tl 0 ((tl 0) + (nI 1))) (tyN x)) + (nI 1))))), (o1, .inr (1, [.ref s1, .ref s2, .ref s3, .int ty, .int wa])), (s1, .inl (cI, 100, .inl st)), (s2, .inl (cI, 244, .inl sd)), (s3, .inl (cJ, 400, .inr (.inl be)))] := hD
    refine lv_aload_n hx hb d_FD_put_49 rfl (lv_at hl 0 rfl) ?_
    refine lv_iload_n hx hb d_FD_put_50 rfl (lv_at hl 1 rfl) ?_
    refine cl_v (wr := [(f4, .inl (cI, 61, .inl (upd (upd tl 0 ((tl 0) + (nI 1))) (tyN x) (((upd tl 0 ((tl 0) + (nI 1))) (tyN x)) + (nI 1)))))]) (va_runV (As := [.int (nI pl)]) (rest := []) ⟨hx, hb, hml, hown, hw⟩ (k_FD_refreshAround l D cI cJ f0 f1 f2 f3 f4 o1 np (ns + (nI 1)) aw s1 s2 s3 ty wa st sd be (upd ce pl x) oq rp pl _ hp1 hp2 (okCe_upd hce hp1 hp2 hx60) hsd hst) (cwV 1 hw (gV kw_442 kw_444 kw_4 kw_42 kw_445) rfl rfl rfl (by decide +kernel) ⟨Nat.le_of_ble_eq_true rfl, Nat.le_of_ble_eq_true rfl⟩) (pre_Vw (wc := [(f0, .inr (2, [.ref o1, .ref f1, .ref f2, .ref f3, .ref f4, .int np, .int (ns + (nI 1)), .int aw])), (f1, .inl (cI, 1764, .inl (upd ce pl x))), (f2, .inl (cJ, 1764, .inr (.inl oq))), (f3, .inl (cI, 42, .inl rp)), (o1, .inr (1, [.ref s1, .ref s2, .ref s3, .int ty, .int wa])), (s1, .inl (cI, 100, .inl st)), (s2, .inl (cI, 244, .inl sd)), (s3, .inl (cJ, 400, .inr (.inl be)))]) (q0 := 0) hE hX hA hP hD hS [0, 1, 2, 3, 5, 6, 7, 8] (by decide) rfl rfl rfl rfl) rfl rfl hl.1 rfl (lv_room (Nat.le_of_ble_eq_true rfl)) d_FD_put_51 ⟨Nat.le_of_ble_eq_true rfl, Nat.le_of_ble_eq_true rfl⟩) hP hD hS hA [0, 1, 2, 3, 5, 6, 7, 8] [4] rfl rfl (by decide) (by decide) (fun u_r_4 H locs hr_4 hP hD hS => ?_)
    have hP : va_P D vwCl [(f4, .inl (cI, 61, .inl (upd (upd tl 0 ((tl 0) + (nI 1))) (tyN x) (((upd tl 0 ((tl 0) + (nI 1))) (tyN x)) + (nI 1))))), (f0, .inr (2, [.ref o1, .ref f1, .ref f2, .ref f3, .ref f4, .int ((raL (upd ce pl x) sd st be wa pl (oq, rp, np) 5).2.2), .int (ns + (nI 1)), .int aw])), (f1, .inl (cI, 1764, .inl (upd ce pl x))), (f2, .inl (cJ, 1764, .inr (.inl ((raL (upd ce pl x) sd st be wa pl (oq, rp, np) 5).1)))), (f3, .inl (cI, 42, .inl ((raL (upd ce pl x) sd st be wa pl (oq, rp, np) 5).2.1))), (o1, .inr (1, [.ref s1, .ref s2, .ref s3, .int ty, .int wa])), (s1, .inl (cI, 100, .inl st)), (s2, .inl (cI, 244, .inl sd)), (s3, .inl (cJ, 400, .inr (.inl be)))] H := hP
    have hD : va_D A [(f4, .inl (cI, 61, .inl (upd (upd tl 0 ((tl 0) + (nI 1))) (tyN x) (((upd tl 0 ((tl 0) + (nI 1))) (tyN x)) + (nI 1))))), (f0, .inr (2, [.ref o1, .ref f1, .ref f2, .ref f3, .ref f4, .int ((raL (upd ce pl x) sd st be wa pl (oq, rp, np) 5).2.2), .int (ns + (nI 1)), .int aw])), (f1, .inl (cI, 1764, .inl (upd ce pl x))), (f2, .inl (cJ, 1764, .inr (.inl ((raL (upd ce pl x) sd st be wa pl (oq, rp, np) 5).1)))), (f3, .inl (cI, 42, .inl ((raL (upd ce pl x) sd st be wa pl (oq, rp, np) 5).2.1))), (o1, .inr (1, [.ref s1, .ref s2, .ref s3, .int ty, .int wa])), (s1, .inl (cI, 100, .inl st)), (s2, .inl (cI, 244, .inl sd)), (s3, .inl (cJ, 400, .inr (.inl be)))] := hD
    have hP9 := hP.sub (ws' := [(f0, .inr (2, [.ref o1, .ref f1, .ref f2, .ref f3, .ref f4, .int ((raL (upd ce pl x) sd st be wa pl (oq, rp, np) 5).2.2), .int (ns + (nI 1)), .int aw])), (f1, .inl (cI, 1764, .inl (upd ce pl x))), (f2, .inl (cJ, 1764, .inr (.inl ((raL (upd ce pl x) sd st be wa pl (oq, rp, np) 5).1)))), (f3, .inl (cI, 42, .inl ((raL (upd ce pl x) sd st be wa pl (oq, rp, np) 5).2.1))), (f4, .inl (cI, 61, .inl (upd (upd tl 0 ((tl 0) + (nI 1))) (tyN x) (((upd tl 0 ((tl 0) + (nI 1))) (tyN x)) + (nI 1))))), (o1, .inr (1, [.ref s1, .ref s2, .ref s3, .int ty, .int wa])), (s1, .inl (cI, 100, .inl st)), (s2, .inl (cI, 244, .inl sd)), (s3, .inl (cJ, 400, .inr (.inl be)))]) [1, 2, 3, 4, 0, 5, 6, 7, 8] rfl
    have hD9 := hD.sub (ws' := [(f0, .inr (2, [.ref o1, .ref f1, .ref f2, .ref f3, .ref f4, .int ((raL (upd ce pl x) sd st be wa pl (oq, rp, np) 5).2.2), .int (ns + (nI 1)), .int aw])), (f1, .inl (cI, 1764, .inl (upd ce pl x))), (f2, .inl (cJ, 1764, .inr (.inl ((raL (upd ce pl x) sd st be wa pl (oq, rp, np) 5).1)))), (f3, .inl (cI, 42, .inl ((raL (upd ce pl x) sd st be wa pl (oq, rp, np) 5).2.1))), (f4, .inl (cI, 61, .inl (upd (upd tl 0 ((tl 0) + (nI 1))) (tyN x) (((upd tl 0 ((tl 0) + (nI 1))) (tyN x)) + (nI 1))))), (o1, .inr (1, [.ref s1, .ref s2, .ref s3, .int ty, .int wa])), (s1, .inl (cI, 100, .inl st)), (s2, .inl (cI, 244, .inl sd)), (s3, .inl (cJ, 400, .inr (.inl be)))]) [1, 2, 3, 4, 0, 5, 6, 7, 8] (by decide) rfl
    have hP9 : va_P D vwCl [(f0, .inr (2, [.ref o1, .ref f1, .ref f2, .ref f3, .ref f4, .int ((raL (upd ce pl x) sd st be wa pl (oq, rp, np) 5).2.2), .int (nsP ns x), .int aw])), (f1, .inl (cI, 1764, .inl (upd ce pl x))), (f2, .inl (cJ, 1764, .inr (.inl ((raL (upd ce pl x) sd st be wa pl (oq, rp, np) 5).1)))), (f3, .inl (cI, 42, .inl ((raL (upd ce pl x) sd st be wa pl (oq, rp, np) 5).2.1))), (f4, .inl (cI, 61, .inl (upd (upd tl 0 ((tl 0) + (nI 1))) (tyN x) (((upd tl 0 ((tl 0) + (nI 1))) (tyN x)) + (nI 1))))), (o1, .inr (1, [.ref s1, .ref s2, .ref s3, .int ty, .int wa])), (s1, .inl (cI, 100, .inl st)), (s2, .inl (cI, 244, .inl sd)), (s3, .inl (cJ, 400, .inr (.inl be)))] H := by rw [show nsP ns x = ns + nI 1 from by unfold nsP; rw [if_neg c_36]]; exact hP9
    have hD9 : va_D A [(f0, .inr (2, [.ref o1, .ref f1, .ref f2, .ref f3, .ref f4, .int ((raL (upd ce pl x) sd st be wa pl (oq, rp, np) 5).2.2), .int (nsP ns x), .int aw])), (f1, .inl (cI, 1764, .inl (upd ce pl x))), (f2, .inl (cJ, 1764, .inr (.inl ((raL (upd ce pl x) sd st be wa pl (oq, rp, np) 5).1)))), (f3, .inl (cI, 42, .inl ((raL (upd ce pl x) sd st be wa pl (oq, rp, np) 5).2.1))), (f4, .inl (cI, 61, .inl (upd (upd tl 0 ((tl 0) + (nI 1))) (tyN x) (((upd tl 0 ((tl 0) + (nI 1))) (tyN x)) + (nI 1))))), (o1, .inr (1, [.ref s1, .ref s2, .ref s3, .int ty, .int wa])), (s1, .inl (cI, 100, .inl st)), (s2, .inl (cI, 244, .inl sd)), (s3, .inl (cJ, 400, .inr (.inl be)))] := by rw [show nsP ns x = ns + nI 1 from by unfold nsP; rw [if_neg c_36]]; exact hD9
    exact W.vret hx hb hr (fun t9 ht hW => ⟨⟨(), rfl, trivial, ⟨by rw [ht]; exact hP9, hD9⟩⟩, hS.F ht⟩) hS.2.2 d_FD_put_54
