theorem d_TB_breach_0 : decode c_TB_breach 0 = .ok (.iload_n 1, 1) := by decide +kernel
theorem d_TB_breach_1 : decode c_TB_breach 1 = .ok (.iconst 0, 1) := by decide +kernel
theorem d_TB_breach_2 : decode c_TB_breach 2 = .ok (.iconst 3, 1) := by decide +kernel
theorem d_TB_breach_3 : decode c_TB_breach 3 = .ok (.invokestatic 44, 3) := by decide +kernel
theorem d_TB_breach_6 : decode c_TB_breach 6 = .ok (.aload_n 0, 1) := by decide +kernel
theorem d_TB_breach_7 : decode c_TB_breach 7 = .ok (.getfield 21, 3) := by decide +kernel
theorem d_TB_breach_10 : decode c_TB_breach 10 = .ok (.invokevirtual 160, 3) := by decide +kernel
theorem d_TB_breach_13 : decode c_TB_breach 13 = .ok (.istore_n 2, 1) := by decide +kernel
theorem d_TB_breach_14 : decode c_TB_breach 14 = .ok (.iload_n 1, 1) := by decide +kernel
theorem d_TB_breach_15 : decode c_TB_breach 15 = .ok (.ifCond .ne 7, 3) := by decide +kernel
theorem d_TB_breach_18 : decode c_TB_breach 18 = .ok (.iload_n 2, 1) := by decide +kernel
theorem d_TB_breach_19 : decode c_TB_breach 19 = .ok (.iconst 3, 1) := by decide +kernel
theorem d_TB_breach_20 : decode c_TB_breach 20 = .ok (.iand, 1) := by decide +kernel
theorem d_TB_breach_21 : decode c_TB_breach 21 = .ok (.ireturn, 1) := by decide +kernel
theorem d_TB_breach_22 : decode c_TB_breach 22 = .ok (.iload_n 2, 1) := by decide +kernel
theorem d_TB_breach_23 : decode c_TB_breach 23 = .ok (.ifCond .ne 5, 3) := by decide +kernel
theorem d_TB_breach_26 : decode c_TB_breach 26 = .ok (.iconst (-1), 1) := by decide +kernel
theorem d_TB_breach_27 : decode c_TB_breach 27 = .ok (.ireturn, 1) := by decide +kernel
theorem d_TB_breach_28 : decode c_TB_breach 28 = .ok (.iload_n 2, 1) := by decide +kernel
theorem d_TB_breach_29 : decode c_TB_breach 29 = .ok (.iconst 2, 1) := by decide +kernel
theorem d_TB_breach_30 : decode c_TB_breach 30 = .ok (.ishr, 1) := by decide +kernel
theorem d_TB_breach_31 : decode c_TB_breach 31 = .ok (.iload_n 1, 1) := by decide +kernel
theorem d_TB_breach_32 : decode c_TB_breach 32 = .ok (.iconst 1, 1) := by decide +kernel
theorem d_TB_breach_33 : decode c_TB_breach 33 = .ok (.isub, 1) := by decide +kernel
theorem d_TB_breach_34 : decode c_TB_breach 34 = .ok (.invokestatic 147, 3) := by decide +kernel
theorem d_TB_breach_37 : decode c_TB_breach 37 = .ok (.ireturn, 1) := by decide +kernel
theorem d_FD_firstBreach_0 : decode c_FD_firstBreach 0 = .ok (.iconst 0, 1) := by decide +kernel
theorem d_FD_firstBreach_1 : decode c_FD_firstBreach 1 = .ok (.istore_n 1, 1) := by decide +kernel
theorem d_FD_firstBreach_2 : decode c_FD_firstBreach 2 = .ok (.iload_n 1, 1) := by decide +kernel
theorem d_FD_firstBreach_3 : decode c_FD_firstBreach 3 = .ok (.sipush 1764, 3) := by decide +kernel
theorem d_FD_firstBreach_6 : decode c_FD_firstBreach 6 = .ok (.if_icmp .ge 99, 3) := by decide +kernel
theorem d_FD_firstBreach_9 : decode c_FD_firstBreach 9 = .ok (.aload_n 0, 1) := by decide +kernel
theorem d_FD_firstBreach_10 : decode c_FD_firstBreach 10 = .ok (.iload_n 1, 1) := by decide +kernel
theorem d_FD_firstBreach_11 : decode c_FD_firstBreach 11 = .ok (.invokevirtual 67, 3) := by decide +kernel
theorem d_FD_firstBreach_14 : decode c_FD_firstBreach 14 = .ok (.istore_n 2, 1) := by decide +kernel
theorem d_FD_firstBreach_15 : decode c_FD_firstBreach 15 = .ok (.iload_n 2, 1) := by decide +kernel
theorem d_FD_firstBreach_16 : decode c_FD_firstBreach 16 = .ok (.ifCond .eq 83, 3) := by decide +kernel
theorem d_FD_firstBreach_19 : decode c_FD_firstBreach 19 = .ok (.aload_n 0, 1) := by decide +kernel
theorem d_FD_firstBreach_20 : decode c_FD_firstBreach 20 = .ok (.iload_n 1, 1) := by decide +kernel
theorem d_FD_firstBreach_21 : decode c_FD_firstBreach 21 = .ok (.invokevirtual 70, 3) := by decide +kernel
theorem d_FD_firstBreach_24 : decode c_FD_firstBreach 24 = .ok (.ifCond .eq 6, 3) := by decide +kernel
theorem d_FD_firstBreach_27 : decode c_FD_firstBreach 27 = .ok (.goto 72, 3) := by decide +kernel
theorem d_FD_firstBreach_30 : decode c_FD_firstBreach 30 = .ok (.aload_n 0, 1) := by decide +kernel
theorem d_FD_firstBreach_31 : decode c_FD_firstBreach 31 = .ok (.iload_n 1, 1) := by decide +kernel
theorem d_FD_firstBreach_32 : decode c_FD_firstBreach 32 = .ok (.invokevirtual 119, 3) := by decide +kernel
theorem d_FD_firstBreach_35 : decode c_FD_firstBreach 35 = .ok (.aload_n 0, 1) := by decide +kernel
theorem d_FD_firstBreach_36 : decode c_FD_firstBreach 36 = .ok (.getfield 36, 3) := by decide +kernel
theorem d_FD_firstBreach_39 : decode c_FD_firstBreach 39 = .ok (.invokevirtual 99, 3) := by decide +kernel
theorem d_FD_firstBreach_42 : decode c_FD_firstBreach 42 = .ok (.if_icmp .eq 13, 3) := by decide +kernel
theorem d_FD_firstBreach_45 : decode c_FD_firstBreach 45 = .ok (.iload_n 1, 1) := by decide +kernel
theorem d_FD_firstBreach_46 : decode c_FD_firstBreach 46 = .ok (.iload_n 2, 1) := by decide +kernel
theorem d_FD_firstBreach_47 : decode c_FD_firstBreach 47 = .ok (.invokestatic 116, 3) := by decide +kernel
theorem d_FD_firstBreach_50 : decode c_FD_firstBreach 50 = .ok (.iconst 2, 1) := by decide +kernel
theorem d_FD_firstBreach_51 : decode c_FD_firstBreach 51 = .ok (.ishl, 1) := by decide +kernel
theorem d_FD_firstBreach_52 : decode c_FD_firstBreach 52 = .ok (.iconst 1, 1) := by decide +kernel
theorem d_FD_firstBreach_53 : decode c_FD_firstBreach 53 = .ok (.ior, 1) := by decide +kernel
theorem d_FD_firstBreach_54 : decode c_FD_firstBreach 54 = .ok (.ireturn, 1) := by decide +kernel
theorem d_FD_firstBreach_55 : decode c_FD_firstBreach 55 = .ok (.aload_n 0, 1) := by decide +kernel
theorem d_FD_firstBreach_56 : decode c_FD_firstBreach 56 = .ok (.iload_n 1, 1) := by decide +kernel
theorem d_FD_firstBreach_57 : decode c_FD_firstBreach 57 = .ok (.bipush 15, 2) := by decide +kernel
theorem d_FD_firstBreach_59 : decode c_FD_firstBreach 59 = .ok (.aload_n 0, 1) := by decide +kernel
theorem d_FD_firstBreach_60 : decode c_FD_firstBreach 60 = .ok (.iload_n 1, 1) := by decide +kernel
theorem d_FD_firstBreach_61 : decode c_FD_firstBreach 61 = .ok (.invokevirtual 122, 3) := by decide +kernel
theorem d_FD_firstBreach_64 : decode c_FD_firstBreach 64 = .ok (.iconst (-1), 1) := by decide +kernel
theorem d_FD_firstBreach_65 : decode c_FD_firstBreach 65 = .ok (.ixor, 1) := by decide +kernel
theorem d_FD_firstBreach_66 : decode c_FD_firstBreach 66 = .ok (.iand, 1) := by decide +kernel
theorem d_FD_firstBreach_67 : decode c_FD_firstBreach 67 = .ok (.invokevirtual 78, 3) := by decide +kernel
theorem d_FD_firstBreach_70 : decode c_FD_firstBreach 70 = .ok (.iload_n 2, 1) := by decide +kernel
theorem d_FD_firstBreach_71 : decode c_FD_firstBreach 71 = .ok (.invokestatic 125, 3) := by decide +kernel
theorem d_FD_firstBreach_74 : decode c_FD_firstBreach 74 = .ok (.ldc2_w 129, 3) := by decide +kernel
theorem d_FD_firstBreach_77 : decode c_FD_firstBreach 77 = .ok (.lxor, 1) := by decide +kernel
theorem d_FD_firstBreach_78 : decode c_FD_firstBreach 78 = .ok (.land, 1) := by decide +kernel
theorem d_FD_firstBreach_79 : decode c_FD_firstBreach 79 = .ok (.lstore_n 3, 1) := by decide +kernel
theorem d_FD_firstBreach_80 : decode c_FD_firstBreach 80 = .ok (.lload_n 3, 1) := by decide +kernel
theorem d_FD_firstBreach_81 : decode c_FD_firstBreach 81 = .ok (.lconst 0, 1) := by decide +kernel
theorem d_FD_firstBreach_82 : decode c_FD_firstBreach 82 = .ok (.lcmp, 1) := by decide +kernel
theorem d_FD_firstBreach_83 : decode c_FD_firstBreach 83 = .ok (.ifCond .eq 16, 3) := by decide +kernel
theorem d_FD_firstBreach_86 : decode c_FD_firstBreach 86 = .ok (.iload_n 1, 1) := by decide +kernel
theorem d_FD_firstBreach_87 : decode c_FD_firstBreach 87 = .ok (.lload_n 3, 1) := by decide +kernel
theorem d_FD_firstBreach_88 : decode c_FD_firstBreach 88 = .ok (.invokestatic 113, 3) := by decide +kernel
theorem d_FD_firstBreach_91 : decode c_FD_firstBreach 91 = .ok (.invokestatic 116, 3) := by decide +kernel
theorem d_FD_firstBreach_94 : decode c_FD_firstBreach 94 = .ok (.iconst 2, 1) := by decide +kernel
theorem d_FD_firstBreach_95 : decode c_FD_firstBreach 95 = .ok (.ishl, 1) := by decide +kernel
theorem d_FD_firstBreach_96 : decode c_FD_firstBreach 96 = .ok (.iconst 2, 1) := by decide +kernel
theorem d_FD_firstBreach_97 : decode c_FD_firstBreach 97 = .ok (.ior, 1) := by decide +kernel
theorem d_FD_firstBreach_98 : decode c_FD_firstBreach 98 = .ok (.ireturn, 1) := by decide +kernel
theorem d_FD_firstBreach_99 : decode c_FD_firstBreach 99 = .ok (.iinc 1 1, 3) := by decide +kernel
theorem d_FD_firstBreach_102 : decode c_FD_firstBreach 102 = .ok (.goto (-100), 3) := by decide +kernel
theorem d_FD_firstBreach_105 : decode c_FD_firstBreach 105 = .ok (.aload_n 0, 1) := by decide +kernel
theorem d_FD_firstBreach_106 : decode c_FD_firstBreach 106 = .ok (.getfield 25, 3) := by decide +kernel
theorem d_FD_firstBreach_109 : decode c_FD_firstBreach 109 = .ok (.ifCond .le 15, 3) := by decide +kernel
theorem d_FD_firstBreach_112 : decode c_FD_firstBreach 112 = .ok (.aload_n 0, 1) := by decide +kernel
theorem d_FD_firstBreach_113 : decode c_FD_firstBreach 113 = .ok (.iconst 0, 1) := by decide +kernel
theorem d_FD_firstBreach_114 : decode c_FD_firstBreach 114 = .ok (.invokevirtual 131, 3) := by decide +kernel
theorem d_FD_firstBreach_117 : decode c_FD_firstBreach 117 = .ok (.iconst 2, 1) := by decide +kernel
theorem d_FD_firstBreach_118 : decode c_FD_firstBreach 118 = .ok (.ishl, 1) := by decide +kernel
theorem d_FD_firstBreach_119 : decode c_FD_firstBreach 119 = .ok (.iconst 3, 1) := by decide +kernel
theorem d_FD_firstBreach_120 : decode c_FD_firstBreach 120 = .ok (.ior, 1) := by decide +kernel
theorem d_FD_firstBreach_121 : decode c_FD_firstBreach 121 = .ok (.goto 4, 3) := by decide +kernel
theorem d_FD_firstBreach_124 : decode c_FD_firstBreach 124 = .ok (.iconst 0, 1) := by decide +kernel
theorem d_FD_firstBreach_125 : decode c_FD_firstBreach 125 = .ok (.ireturn, 1) := by decide +kernel
def brO (q : Int32) (n : Nat) : Int32 := (q <<< (nI 2 &&& 31)) ||| nI n
def brX (ce sd st : Nat → Int32) (be : Nat → Int64) (wa : Int32) (j : Nat) : Int64 := fitV ce sd st be wa j (nI 15 &&& (otL ce j 4 ^^^ (-1))) &&& ((1 <<< ((nI (tyN (ce j)) - nI 1).toInt64 &&& 63)) ^^^ (-1))
def brA (ce sd st : Nat → Int32) (be : Nat → Int64) (wa : Int32) (j : Nat) : Option Int32 :=
  if tyN (ce j) = 0 then none else if sdN (ce j) = 0 then (if isL ce sd st j 4 = wa then (if brX ce sd st be wa j = 0 then none else some (brO (prV j (brX ce sd st be wa j)) 2)) else some (brO ((nI j <<< (nI 6 &&& 31)) ||| nI (tyN (ce j))) 1)) else none
def brF (A : Nat → Option Int32) : Nat → Nat → Option Int32
  | 0, _ => none
  | f + 1, j => match A j with
    | some r => some r
    | none => brF A f (j + 1)
theorem brF_go {A : Nat → Option Int32} {f j : Nat} (hf : 0 < f) (h : A j = none) : brF A f j = brF A (f - 1) (j + 1) := by
  obtain ⟨k, rfl⟩ : ∃ k, f = k + 1 := ⟨f - 1, by omega⟩
  rw [brF, h]
  rfl
theorem brF_stop {A : Nat → Option Int32} {f j : Nat} {r : Int32} (hf : 0 < f) (h : A j = some r) : brF A f j = some r := by
  obtain ⟨k, rfl⟩ : ∃ k, f = k + 1 := ⟨f - 1, by omega⟩
  rw [brF, h]
def brV (ce sd st : Nat → Int32) (be : Nat → Int64) (wa : Int32) (oq : Nat → Int64) (rp : Nat → Int32) (np : Int32) : Int32 :=
  match brF (brA ce sd st be wa) 1764 0 with
  | some r => r
  | none => if np ≤ 0 then nI 0 else brO (pnV oq rp (nI 0)) 3
def okIn (ce : Nat → Int32) : Prop := ∀ i, i < 1764 → tyN (ce i) ≠ 0 → 43 ≤ i ∧ i ≤ 1720
set_option maxHeartbeats 4000000 in
set_option maxRecDepth 100000 in
theorem lp_k_FD_firstBreach_2 {p : Program} {l : Launch} {e : Env} {s : State} {m : MethodId} {args : Array Value} {below : List Frame} {meth : Method} {c : Code} {D : va_G} {cI cJ : ClassId} {Q : State → Prop} (f0 : Nat) (f1 : Nat) (f2 : Nat) (f3 : Nat) (f4 : Nat) (o1 : Nat) (np : Int32) (ns : Int32) (aw : Int32) (s1 : Nat) (s2 : Nat) (s3 : Nat) (ty : Int32) (wa : Int32) (st : Nat → Int32) (sd : Nat → Int32) (be : Nat → Int64) (ce : Nat → Int32) (oq : Nat → Int64) (rp : Nat → Int32) (hce : okCe ce) (hsd : okSd sd) (hst : okSt st) (hin : okIn ce)  (hx : p.tables.exec = Jvm.exec) (hb : c.code = c_FD_firstBreach) (hml : c.maxLocals = 5) (hown : s.vm.findClass R_FD = some m.cls) (hw : ∀ w ∈ gw, w.before args s = true) (hE : En D cI cJ s) (hX : Sx (fun _ => False) s s.heap) (hP : va_P D vwCl [(f0, .inr (2, [.ref o1, .ref f1, .ref f2, .ref f3, .ref f4, .int np, .int ns, .int aw])), (f1, .inl (cI, 1764, .inl ce)), (f2, .inl (cJ, 1764, .inr (.inl oq))), (f3, .inl (cI, 42, .inl rp)), (o1, .inr (1, [.ref s1, .ref s2, .ref s3, .int ty, .int wa])), (s1, .inl (cI, 100, .inl st)), (s2, .inl (cI, 244, .inl sd)), (s3, .inl (cJ, 400, .inr (.inl be)))] s.heap)
    (kx0 : ∀ (k : Nat), (brF (brA ce sd st be wa) 1764 0 = some (brO ((nI k <<< (nI 6 &&& 31)) ||| nI (tyN (ce k))) 1)) → ∀ (ls : Array Slot), lv_has ls 5 [(1, .int (nI k)), (2, .int (nI (tyN (ce k))))] → W p l e ({ frames := 3, cells := 0, slots := 0, locals := 69 } : Room) s m args below meth c s.heap [] 0 0 Q (F0 m 45 ls []))
    (kx1 : ∀ (k : Nat) (o9 : Int64), (brF (brA ce sd st be wa) 1764 0 = some (brO (prV k o9) 2)) → ∀ (ls : Array Slot), lv_has ls 5 [(1, .int (nI k)), (3, .long o9)] → W p l e ({ frames := 3, cells := 0, slots := 0, locals := 69 } : Room) s m args below meth c s.heap [] 0 0 Q (F0 m 86 ls []))
    (kx2 : (brF (brA ce sd st be wa) 1764 0 = none) → ∀ (ls : Array Slot), lv_has ls 5 [(0, .ref f0)] → W p l e ({ frames := 3, cells := 0, slots := 0, locals := 69 } : Room) s m args below meth c s.heap [] 0 0 Q (F0 m 105 ls [])) :
    ∀ (fu : Nat) (k : Nat), 1764 - k < fu → (k ≤ 1764) → (brF (brA ce sd st be wa) (1764 - k) k = brF (brA ce sd st be wa) 1764 0) → ∀ (ls : Array Slot), lv_has ls 5 [(0, .ref f0), (1, .int (nI k))] → W p l e ({ frames := 3, cells := 0, slots := 0, locals := 69 } : Room) s m args below meth c s.heap [] 0 0 Q (F0 m 2 ls []) := by
  have hS : va_S (fun _ => False) s.heap s.heap [] := va_S.rf
  intro fu
  induction fu with
  | zero =>
    intro k h0
    exact absurd h0 (Nat.not_lt_zero _)
  | succ fu ih =>
    intro k hmu hk hR ls hl
    refine lv_iload_n hx hb d_FD_firstBreach_2 rfl (lv_at hl 1 rfl) ?_
    refine lv_sipush (v := nI 1764) hx hb d_FD_firstBreach_3 (by decide +kernel) ?_
    refine jn_icmp_ge (tgt := 105) (a := k) (b := 1764) hx hb d_FD_firstBreach_6 (by decide) (by omega) (by omega) (fun c_6 => ?_) (fun c_6 => ?_)
    · skip
      exact kx2  (by rw [← hR, show 1764 - k = 0 by omega]; rfl) _ (lv_sub hl [0] rfl)
    · skip
      refine lv_aload_n hx hb d_FD_firstBreach_9 rfl (lv_at hl 0 rfl) ?_
      refine lv_iload_n hx hb d_FD_firstBreach_10 rfl (lv_at hl 1 rfl) ?_
      refine vp_callSi (va_Run.run (va_runV (As := [.int (nI k)]) (rest := []) ⟨hx, hb, hml, hown, hw⟩ (k_FD_typeAt l D cI cJ f0 f1 f2 f3 f4 o1 np ns aw ce k (by omega)) (cwV 1 hw (gV kw_437 kw_422 kw_423 kw_42 kw_424) rfl rfl rfl (by decide +kernel) ⟨Nat.le_of_ble_eq_true rfl, Nat.le_of_ble_eq_true rfl⟩) (pre_Vp (wc := [(f0, .inr (2, [.ref o1, .ref f1, .ref f2, .ref f3, .ref f4, .int np, .int ns, .int aw])), (f1, .inl (cI, 1764, .inl ce))]) (q0 := 0) hE hX hP hS [0, 1] rfl rfl rfl) rfl rfl hl.1 rfl (lv_room (Nat.le_of_ble_eq_true rfl)) d_FD_firstBreach_11 ⟨Nat.le_of_ble_eq_true rfl, Nat.le_of_ble_eq_true rfl⟩)) (fun r_1 hr_1 => ?_)
      obtain rfl : nI (tyN (ce k)) = r_1 := hr_1.symm
      refine lv_istore_n (lv' := [(2, .int (nI (tyN (ce k)))), (0, .ref f0), (1, .int (nI k))]) hx hb d_FD_firstBreach_14 rfl hl (by decide) rfl (fun ls hl => ?_)
      refine lv_iload_n hx hb d_FD_firstBreach_15 rfl (lv_at hl 0 rfl) ?_
      refine jn_if_eq (tgt := 99) (a := (tyN (ce k))) hx hb d_FD_firstBreach_16 (by decide) (by have := tyN_lt (ce k); omega) (fun c_16 => ?_) (fun c_16 => ?_)
      · skip
        refine lv_iinc (v := nI (k + 1)) (lv' := [(1, .int (nI (k + 1))), (2, .int (nI (tyN (ce k)))), (0, .ref f0)]) hx hb d_FD_firstBreach_99 hl (k := 2) rfl (jn_inc k 1) (by decide) rfl (fun ls hl => ?_)
        refine lv_goto (tgt := 2) hx hb d_FD_firstBreach_102 (by decide) ?_
        exact ih (k + 1) (by omega) (by omega) (by rw [← hR, brF_go (show 0 < 1764 - k by omega) (by unfold brA; rw [if_pos c_16]), show 1764 - k - 1 = 1764 - (k + 1) by omega]) _ (lv_sub hl [2, 0] rfl)
      · skip
        refine lv_aload_n hx hb d_FD_firstBreach_19 rfl (lv_at hl 1 rfl) ?_
        refine lv_iload_n hx hb d_FD_firstBreach_20 rfl (lv_at hl 2 rfl) ?_
        refine vp_callSi (va_Run.run (va_runV (As := [.int (nI k)]) (rest := []) ⟨hx, hb, hml, hown, hw⟩ (k_FD_isSeed l D cI cJ f0 f1 f2 f3 f4 o1 np ns aw ce k (by omega)) (cwV 1 hw (gV kw_438 kw_439 kw_440 kw_42 kw_441) rfl rfl rfl (by decide +kernel) ⟨Nat.le_of_ble_eq_true rfl, Nat.le_of_ble_eq_true rfl⟩) (pre_Vp (wc := [(f0, .inr (2, [.ref o1, .ref f1, .ref f2, .ref f3, .ref f4, .int np, .int ns, .int aw])), (f1, .inl (cI, 1764, .inl ce))]) (q0 := 0) hE hX hP hS [0, 1] rfl rfl rfl) rfl rfl hl.1 rfl (lv_room (Nat.le_of_ble_eq_true rfl)) d_FD_firstBreach_21 ⟨Nat.le_of_ble_eq_true rfl, Nat.le_of_ble_eq_true rfl⟩)) (fun r_2 hr_2 => ?_)
        obtain rfl : nI (sdN (ce k)) = r_2 := hr_2.symm
        refine jn_if_eq (tgt := 30) (a := (sdN (ce k))) hx hb d_FD_firstBreach_24 (by decide) (by have := sdN_le (ce k); omega) (fun c_24 => ?_) (fun c_24 => ?_)
        · skip
          refine lv_aload_n hx hb d_FD_firstBreach_30 rfl (lv_at hl 1 rfl) ?_
          refine lv_iload_n hx hb d_FD_firstBreach_31 rfl (lv_at hl 2 rfl) ?_
          refine vp_callSi (va_Run.run (va_runV (As := [.int (nI k)]) (rest := []) ⟨hx, hb, hml, hown, hw⟩ (k_FD_inputStrength l D cI cJ f0 f1 f2 f3 f4 o1 np ns aw s1 s2 s3 ty wa st sd be ce k (by omega) hce hsd hst) (cwV 1 hw (gV kw_614 kw_616 kw_8 kw_42 kw_617) rfl rfl rfl (by decide +kernel) ⟨Nat.le_of_ble_eq_true rfl, Nat.le_of_ble_eq_true rfl⟩) (pre_Vp (wc := [(f0, .inr (2, [.ref o1, .ref f1, .ref f2, .ref f3, .ref f4, .int np, .int ns, .int aw])), (f1, .inl (cI, 1764, .inl ce)), (o1, .inr (1, [.ref s1, .ref s2, .ref s3, .int ty, .int wa])), (s1, .inl (cI, 100, .inl st)), (s2, .inl (cI, 244, .inl sd)), (s3, .inl (cJ, 400, .inr (.inl be)))]) (q0 := 0) hE hX hP hS [0, 1, 4, 5, 6, 7] rfl rfl rfl) rfl rfl hl.1 rfl (lv_room (Nat.le_of_ble_eq_true rfl)) d_FD_firstBreach_32 ⟨Nat.le_of_ble_eq_true rfl, Nat.le_of_ble_eq_true rfl⟩)) (fun r_3 hr_3 => ?_)
          obtain rfl : isL ce sd st k 4 = r_3 := hr_3.symm
          refine lv_aload_n hx hb d_FD_firstBreach_35 rfl (lv_at hl 1 rfl) ?_
          refine va_get (D := D) (ci := 2) (v := .ref o1) (C := R_FD) (T := T_FD) (N := 8) hx hb hw in_FD hown hE.1 hP 0 rfl rfl 0 (by decide) (hw _ kw_95) (fun _ h9 => h9) rfl d_FD_firstBreach_36 ?_
          refine vp_callSi (va_Run.run (va_runV (As := []) (rest := [.int (isL ce sd st k 4)]) ⟨hx, hb, hml, hown, hw⟩ (k_TS_warmth l D cI cJ o1 s1 s2 s3 ty wa) (cwV 0 hw (gV kw_467 kw_468 kw_469 kw_41 kw_470) rfl rfl rfl (by decide +kernel) ⟨Nat.le_of_ble_eq_true rfl, Nat.le_of_ble_eq_true rfl⟩) (pre_Vp (wc := [(o1, .inr (1, [.ref s1, .ref s2, .ref s3, .int ty, .int wa]))]) (q0 := 0) hE hX hP hS [4] rfl rfl rfl) rfl rfl hl.1 rfl (lv_room (Nat.le_of_ble_eq_true rfl)) d_FD_firstBreach_39 ⟨Nat.le_of_ble_eq_true rfl, Nat.le_of_ble_eq_true rfl⟩)) (fun r_4 hr_4 => ?_)
          obtain rfl : wa = r_4 := hr_4.symm
          refine lv_icmp_eq (tgt := 55) hx hb d_FD_firstBreach_42 (by decide) (fun c_42 => ?_) (fun c_42 => ?_)
          · skip
            refine lv_aload_n hx hb d_FD_firstBreach_55 rfl (lv_at hl 1 rfl) ?_
            refine lv_iload_n hx hb d_FD_firstBreach_56 rfl (lv_at hl 2 rfl) ?_
            refine lv_bipush (v := nI 15) hx hb d_FD_firstBreach_57 (by decide +kernel) ?_
            refine lv_aload_n hx hb d_FD_firstBreach_59 rfl (lv_at hl 1 rfl) ?_
            refine lv_iload_n hx hb d_FD_firstBreach_60 rfl (lv_at hl 2 rfl) ?_
            refine vp_callSi (va_Run.run (va_runV (As := [.int (nI k)]) (rest := [.int (nI 15), .int (nI k), .ref f0]) ⟨hx, hb, hml, hown, hw⟩ (k_FD_outputsAt l D cI cJ f0 f1 f2 f3 f4 o1 np ns aw ce k (hin k (by omega) c_16).1 (hin k (by omega) c_16).2) (cwV 1 hw (gV kw_618 kw_591 kw_592 kw_42 kw_593) rfl rfl rfl (by decide +kernel) ⟨Nat.le_of_ble_eq_true rfl, Nat.le_of_ble_eq_true rfl⟩) (pre_Vp (wc := [(f0, .inr (2, [.ref o1, .ref f1, .ref f2, .ref f3, .ref f4, .int np, .int ns, .int aw])), (f1, .inl (cI, 1764, .inl ce))]) (q0 := 0) hE hX hP hS [0, 1] rfl rfl rfl) rfl rfl hl.1 rfl (lv_room (Nat.le_of_ble_eq_true rfl)) d_FD_firstBreach_61 ⟨Nat.le_of_ble_eq_true rfl, Nat.le_of_ble_eq_true rfl⟩)) (fun r_5 hr_5 => ?_)
            obtain rfl : otL ce k 4 = r_5 := hr_5.symm
            refine lv_iconst (v := (-1)) hx hb d_FD_firstBreach_64 (by decide +kernel) ?_
            refine lv_ixor hx hb d_FD_firstBreach_65 ?_
            refine lv_iand hx hb d_FD_firstBreach_66 ?_
            refine vp_callSl (va_Run.run (va_runV (As := [.int (nI k), .int ((nI 15) &&& ((otL ce k 4) ^^^ (-1)))]) (rest := []) ⟨hx, hb, hml, hown, hw⟩ (k_FD_fitting l D cI cJ f0 f1 f2 f3 f4 o1 np ns aw s1 s2 s3 ty wa st sd be ce k ((nI 15) &&& ((otL ce k 4) ^^^ (-1))) (hin k (by omega) c_16).1 (hin k (by omega) c_16).2 hce hsd hst) (cwV 2 hw (gV kw_448 kw_450 kw_5 kw_42 kw_451) rfl rfl rfl (by decide +kernel) ⟨Nat.le_of_ble_eq_true rfl, Nat.le_of_ble_eq_true rfl⟩) (pre_Vp (wc := [(f0, .inr (2, [.ref o1, .ref f1, .ref f2, .ref f3, .ref f4, .int np, .int ns, .int aw])), (f1, .inl (cI, 1764, .inl ce)), (o1, .inr (1, [.ref s1, .ref s2, .ref s3, .int ty, .int wa])), (s1, .inl (cI, 100, .inl st)), (s2, .inl (cI, 244, .inl sd)), (s3, .inl (cJ, 400, .inr (.inl be)))]) (q0 := 0) hE hX hP hS [0, 1, 4, 5, 6, 7] rfl rfl rfl) rfl rfl hl.1 rfl (lv_room (Nat.le_of_ble_eq_true rfl)) d_FD_firstBreach_67 ⟨Nat.le_of_ble_eq_true rfl, Nat.le_of_ble_eq_true rfl⟩)) (fun r_6 hr_6 => ?_)
            obtain rfl : fitV ce sd st be wa k ((nI 15) &&& ((otL ce k 4) ^^^ (-1))) = r_6 := hr_6.symm
            refine lv_iload_n hx hb d_FD_firstBreach_70 rfl (lv_at hl 0 rfl) ?_
            refine vp_callSl (va_Run.run (va_runSN (As := [.int (nI (tyN (ce k)))]) (rest := [.long (fitV ce sd st be wa k ((nI 15) &&& ((otL ce k 4) ^^^ (-1))))]) ⟨hx, hb, hml, hown, hw⟩ (k_TB_only l D cI cJ (nI (tyN (ce k)))) (⟨va_cnB 1 hw (gI kw_374) rfl rfl rfl (hE.2.1 _ (List.mem_of_getElem? (i := 7) rfl)) (hw _ kw_40) (by decide +kernel) ⟨Nat.le_of_ble_eq_true rfl, Nat.le_of_ble_eq_true rfl⟩, hw _ kw_373, trivial⟩) (pre_Sp (wc := []) hE hX hP hS [] rfl) rfl rfl hl.1 rfl (lv_room (Nat.le_of_ble_eq_true rfl)) d_FD_firstBreach_71 ⟨Nat.le_of_ble_eq_true rfl, Nat.le_of_ble_eq_true rfl⟩)) (fun r_7 hr_7 => ?_)
            obtain rfl : 1 <<< (((nI (tyN (ce k))) - nI 1).toInt64 &&& 63) = r_7 := hr_7.symm
            refine lv_ldc2 (v := (-1)) hx hb hown (hw _ kw_620) d_FD_firstBreach_74 ?_
            refine lv_lxor hx hb d_FD_firstBreach_77 ?_
            refine lv_land hx hb d_FD_firstBreach_78 ?_
            refine lv_lstore_n (lv' := [(3, .long ((fitV ce sd st be wa k ((nI 15) &&& ((otL ce k 4) ^^^ (-1)))) &&& ((1 <<< (((nI (tyN (ce k))) - nI 1).toInt64 &&& 63)) ^^^ (-1)))), (2, .int (nI (tyN (ce k)))), (0, .ref f0), (1, .int (nI k))]) hx hb d_FD_firstBreach_79 rfl hl (by decide) rfl (fun ls hl => ?_)
            refine lv_lload_n hx hb d_FD_firstBreach_80 rfl (lv_at hl 0 rfl) ?_
            refine lv_lconst (v := 0) hx hb d_FD_firstBreach_81 (by decide +kernel) ?_
            refine W.lcmp hx hb d_FD_firstBreach_82 ?_
            refine lv_if_eq (tgt := 99) hx hb d_FD_firstBreach_83 (by decide) (fun c_83 => ?_) (fun c_83 => ?_)
            · skip
              refine lv_iinc (v := nI (k + 1)) (lv' := [(1, .int (nI (k + 1))), (3, .long ((fitV ce sd st be wa k ((nI 15) &&& ((otL ce k 4) ^^^ (-1)))) &&& ((1 <<< (((nI (tyN (ce k))) - nI 1).toInt64 &&& 63)) ^^^ (-1)))), (2, .int (nI (tyN (ce k)))), (0, .ref f0)]) hx hb d_FD_firstBreach_99 hl (k := 3) rfl (jn_inc k 1) (by decide) rfl (fun ls hl => ?_)
              refine lv_goto (tgt := 2) hx hb d_FD_firstBreach_102 (by decide) ?_
              exact ih (k + 1) (by omega) (by omega) (by rw [← hR, brF_go (show 0 < 1764 - k by omega) (by unfold brA brX; rw [if_neg c_16, if_pos c_24, if_pos c_42, if_pos ((lg_cmp_eq _ _).mp c_83)]), show 1764 - k - 1 = 1764 - (k + 1) by omega]) _ (lv_sub hl [3, 0] rfl)
            · skip
              exact kx1 k (brX ce sd st be wa k) (by rw [← hR]; exact brF_stop (by omega) (by unfold brA; rw [if_neg c_16, if_pos c_24, if_pos c_42, if_neg (show ¬ brX ce sd st be wa k = 0 from fun z => c_83 ((lg_cmp_eq _ _).mpr z))])) _ (lv_sub hl [3, 0] rfl)
          · skip
            exact kx0 k (by rw [← hR]; exact brF_stop (by omega) (by unfold brA; rw [if_neg c_16, if_pos c_24, if_neg c_42])) _ (lv_sub hl [2, 0] rfl)
        · skip
          refine lv_goto (tgt := 99) hx hb d_FD_firstBreach_27 (by decide) ?_
          refine lv_iinc (v := nI (k + 1)) (lv' := [(1, .int (nI (k + 1))), (2, .int (nI (tyN (ce k)))), (0, .ref f0)]) hx hb d_FD_firstBreach_99 hl (k := 2) rfl (jn_inc k 1) (by decide) rfl (fun ls hl => ?_)
          refine lv_goto (tgt := 2) hx hb d_FD_firstBreach_102 (by decide) ?_
          exact ih (k + 1) (by omega) (by omega) (by rw [← hR, brF_go (show 0 < 1764 - k by omega) (by unfold brA; rw [if_neg c_16, if_neg c_24]), show 1764 - k - 1 = 1764 - (k + 1) by omega]) _ (lv_sub hl [2, 0] rfl)
set_option maxHeartbeats 4000000 in
set_option maxRecDepth 100000 in
/-- firstBreach -/
theorem k_FD_firstBreach (l : Launch) (D : va_G) (cI cJ : ClassId) (f0 : Nat) (f1 : Nat) (f2 : Nat) (f3 : Nat) (f4 : Nat) (o1 : Nat) (np : Int32) (ns : Int32) (aw : Int32) (s1 : Nat) (s2 : Nat) (s3 : Nat) (ty : Int32) (wa : Int32) (st : Nat → Int32) (sd : Nat → Int32) (be : Nat → Int64) (ce : Nat → Int32) (oq : Nat → Int64) (rp : Nat → Int32) (hce : okCe ce) (hsd : okSd sd) (hst : okSt st) (hin : okIn ce) : Met l y_FD_firstBreach ws_FD_firstBreach ({ frames := 3, cells := 0, slots := 0, locals := 69 } : Room) (va_Pc [.ref f0] (Pp D cI cJ [(f0, .inr (2, [.ref o1, .ref f1, .ref f2, .ref f3, .ref f4, .int np, .int ns, .int aw])), (f1, .inl (cI, 1764, .inl ce)), (f2, .inl (cJ, 1764, .inr (.inl oq))), (f3, .inl (cI, 42, .inl rp)), (o1, .inr (1, [.ref s1, .ref s2, .ref s3, .int ty, .int wa])), (s1, .inl (cI, 100, .inl st)), (s2, .inl (cI, 244, .inl sd)), (s3, .inl (cJ, 400, .inr (.inl be)))])) (vp_Si (fun r : Int32 => r = brV ce sd st be wa oq rp np)) 0 0 (fun _ => False) := by
  refine Met.ofW (cc := c_FD_firstBreach) (maxL := 5) (ret := (some .int)) (by decide) rfl ?_
  intro p e s m args below meth c s₁ B hml hv
  obtain ⟨rfl, hE, hP, hX⟩ := hv
  have hx := B.exec
  have hb := B.bytes
  have hr := B.returns
  have hw : ∀ w ∈ gw, w.before _ s = true := fun w h => atoms_spec (ws := ws_FD_firstBreach) B.pre w (List.mem_cons_of_mem _ h)
  have hown : s.vm.findClass R_FD = some m.cls := findClass_of_methodNamed B.named
  have hlocks := B.notSynchronized
  have hS : va_S (fun _ => False) s.heap s.heap [] := va_S.rf
  have hl := lv_entry ([.ref f0]) (n := 5) (Nat.le_of_ble_eq_true rfl)
  rw [lg_entry_eq]
  generalize (lg_sl ([.ref f0]) ++ List.replicate (5 - (lg_sl ([.ref f0])).length) Slot.unset).toArray = ls at hl ⊢
  have hl : lv_has ls 5 [(0, .ref f0)] := hl
  refine lv_iconst (v := nI 0) hx hb d_FD_firstBreach_0 (by decide +kernel) ?_
  refine lv_istore_n (lv' := [(1, .int (nI 0)), (0, .ref f0)]) hx hb d_FD_firstBreach_1 rfl hl (by decide) rfl (fun ls hl => ?_)
  refine lp_k_FD_firstBreach_2 f0 f1 f2 f3 f4 o1 np ns aw s1 s2 s3 ty wa st sd be ce oq rp hce hsd hst hin hx hb hml hown hw hE hX hP (fun k hR ls hl => ?_) (fun k o9 hR ls hl => ?_) (fun hR ls hl => ?_) ((1764 - 0) + 1) 0 (Nat.lt_succ_self _) (Nat.zero_le _) rfl _ (lv_sub hl [1, 0] rfl)
  · skip
    refine lv_iload_n hx hb d_FD_firstBreach_45 rfl (lv_at hl 0 rfl) ?_
    refine lv_iload_n hx hb d_FD_firstBreach_46 rfl (lv_at hl 1 rfl) ?_
    refine vp_callSi (va_Run.run (va_runSN (As := [.int (nI k), .int (nI (tyN (ce k)))]) (rest := []) ⟨hx, hb, hml, hown, hw⟩ (k_TB_pairOf l D cI cJ (nI k) (nI (tyN (ce k)))) (⟨va_cnB 2 hw (gI kw_535) rfl rfl rfl (hE.2.1 _ (List.mem_of_getElem? (i := 6) rfl)) (hw _ kw_40) (by decide +kernel) ⟨Nat.le_of_ble_eq_true rfl, Nat.le_of_ble_eq_true rfl⟩, hw _ kw_534, trivial⟩) (pre_Sp (wc := []) hE hX hP hS [] rfl) rfl rfl hl.1 rfl (lv_room (Nat.le_of_ble_eq_true rfl)) d_FD_firstBreach_47 ⟨Nat.le_of_ble_eq_true rfl, Nat.le_of_ble_eq_true rfl⟩)) (fun r_1 hr_1 => ?_)
    obtain rfl : ((nI k) <<< (nI 6 &&& 31)) ||| (nI (tyN (ce k))) = r_1 := hr_1.symm
    refine lv_iconst (v := nI 2) hx hb d_FD_firstBreach_50 (by decide +kernel) ?_
    refine lv_ishl hx hb d_FD_firstBreach_51 ?_
    refine lv_iconst (v := nI 1) hx hb d_FD_firstBreach_52 (by decide +kernel) ?_
    refine lv_ior hx hb d_FD_firstBreach_53 ?_
    exact W.iret (v := ((((nI k) <<< (nI 6 &&& 31)) ||| (nI (tyN (ce k)))) <<< ((nI 2) &&& 31)) ||| (nI 1)) hx hb hr (fun t9 ht hW => ⟨_, rfl, (by unfold brV; rw [hR]; rfl), ht⟩) (fun q h => by cases h) d_FD_firstBreach_54
  · skip
    refine lv_iload_n hx hb d_FD_firstBreach_86 rfl (lv_at hl 0 rfl) ?_
    refine lv_lload_n hx hb d_FD_firstBreach_87 rfl (lv_at hl 1 rfl) ?_
    refine vp_callSi (va_Run.run (va_runSN (As := [.long o9]) (rest := [.int (nI k)]) ⟨hx, hb, hml, hown, hw⟩ (k_TB_least l D cI cJ o9) (⟨va_cnB 1 hw (gI kw_531) rfl rfl rfl (hE.2.1 _ (List.mem_of_getElem? (i := 5) rfl)) (hw _ kw_40) (by decide +kernel) ⟨Nat.le_of_ble_eq_true rfl, Nat.le_of_ble_eq_true rfl⟩, hw _ kw_530, trivial⟩) (pre_Sp (wc := []) hE hX hP hS [] rfl) rfl rfl hl.1 rfl (lv_room (Nat.le_of_ble_eq_true rfl)) d_FD_firstBreach_88 ⟨Nat.le_of_ble_eq_true rfl, Nat.le_of_ble_eq_true rfl⟩)) (fun r_2 hr_2 => ?_)
    obtain rfl : bcL ((o9 &&& -o9) - 1) + nI 1 = r_2 := hr_2.symm
    refine vp_callSi (va_Run.run (va_runSN (As := [.int (nI k), .int (bcL ((o9 &&& -o9) - 1) + nI 1)]) (rest := []) ⟨hx, hb, hml, hown, hw⟩ (k_TB_pairOf l D cI cJ (nI k) (bcL ((o9 &&& -o9) - 1) + nI 1)) (⟨va_cnB 2 hw (gI kw_535) rfl rfl rfl (hE.2.1 _ (List.mem_of_getElem? (i := 6) rfl)) (hw _ kw_40) (by decide +kernel) ⟨Nat.le_of_ble_eq_true rfl, Nat.le_of_ble_eq_true rfl⟩, hw _ kw_534, trivial⟩) (pre_Sp (wc := []) hE hX hP hS [] rfl) rfl rfl hl.1 rfl (lv_room (Nat.le_of_ble_eq_true rfl)) d_FD_firstBreach_91 ⟨Nat.le_of_ble_eq_true rfl, Nat.le_of_ble_eq_true rfl⟩)) (fun r_3 hr_3 => ?_)
    obtain rfl : ((nI k) <<< (nI 6 &&& 31)) ||| (bcL ((o9 &&& -o9) - 1) + nI 1) = r_3 := hr_3.symm
    refine lv_iconst (v := nI 2) hx hb d_FD_firstBreach_94 (by decide +kernel) ?_
    refine lv_ishl hx hb d_FD_firstBreach_95 ?_
    refine lv_iconst (v := nI 2) hx hb d_FD_firstBreach_96 (by decide +kernel) ?_
    refine lv_ior hx hb d_FD_firstBreach_97 ?_
    exact W.iret (v := ((((nI k) <<< (nI 6 &&& 31)) ||| (bcL ((o9 &&& -o9) - 1) + nI 1)) <<< ((nI 2) &&& 31)) ||| (nI 2)) hx hb hr (fun t9 ht hW => ⟨_, rfl, (by unfold brV; rw [hR]; rfl), ht⟩) (fun q h => by cases h) d_FD_firstBreach_98
  · skip
    refine lv_aload_n hx hb d_FD_firstBreach_105 rfl (lv_at hl 0 rfl) ?_
    refine va_get (D := D) (ci := 2) (v := .int np) (C := R_FD) (T := T_FD) (N := 8) hx hb hw in_FD hown hE.1 hP 0 rfl rfl 5 (by decide) (hw _ kw_100) (fun _ h9 => h9) rfl d_FD_firstBreach_106 ?_
    refine lv_if_le (tgt := 124) hx hb d_FD_firstBreach_109 (by decide) (fun c_109 => ?_) (fun c_109 => ?_)
    · skip
      refine lv_iconst (v := nI 0) hx hb d_FD_firstBreach_124 (by decide +kernel) ?_
      exact W.iret (v := nI 0) hx hb hr (fun t9 ht hW => ⟨_, rfl, (by unfold brV; rw [hR]; exact (if_pos c_109).symm), ht⟩) (fun q h => by cases h) d_FD_firstBreach_125
    · skip
      refine lv_aload_n hx hb d_FD_firstBreach_112 rfl (lv_at hl 0 rfl) ?_
      refine lv_iconst (v := nI 0) hx hb d_FD_firstBreach_113 (by decide +kernel) ?_
      refine vp_callSi (va_Run.run (va_runV (As := [.int (nI 0)]) (rest := []) ⟨hx, hb, hml, hown, hw⟩ (k_FD_pairNumber l D cI cJ f0 f1 f2 f3 f4 o1 np ns aw oq rp (nI 0)) (cwV 1 hw (gV kw_621 kw_521 kw_522 kw_42 kw_523) rfl rfl rfl (by decide +kernel) ⟨Nat.le_of_ble_eq_true rfl, Nat.le_of_ble_eq_true rfl⟩) (pre_Vp (wc := [(f0, .inr (2, [.ref o1, .ref f1, .ref f2, .ref f3, .ref f4, .int np, .int ns, .int aw])), (f2, .inl (cJ, 1764, .inr (.inl oq))), (f3, .inl (cI, 42, .inl rp))]) (q0 := 0) hE hX hP hS [0, 2, 3] rfl rfl rfl) rfl rfl hl.1 rfl (lv_room (Nat.le_of_ble_eq_true rfl)) d_FD_firstBreach_114 ⟨Nat.le_of_ble_eq_true rfl, Nat.le_of_ble_eq_true rfl⟩)) (fun r_4 hr_4 => ?_)
      obtain rfl : pnV oq rp (nI 0) = r_4 := hr_4.symm
      refine lv_iconst (v := nI 2) hx hb d_FD_firstBreach_117 (by decide +kernel) ?_
      refine lv_ishl hx hb d_FD_firstBreach_118 ?_
      refine lv_iconst (v := nI 3) hx hb d_FD_firstBreach_119 (by decide +kernel) ?_
      refine lv_ior hx hb d_FD_firstBreach_120 ?_
      refine lv_goto (tgt := 125) hx hb d_FD_firstBreach_121 (by decide) ?_
      exact W.iret (v := ((pnV oq rp (nI 0)) <<< ((nI 2) &&& 31)) ||| (nI 3)) hx hb hr (fun t9 ht hW => ⟨_, rfl, (by unfold brV; rw [hR]; exact (if_neg c_109).symm), ht⟩) (fun q h => by cases h) d_FD_firstBreach_125
def brW (v w : Int32) : Int32 := if w = nI 0 then v &&& nI 3 else if v = 0 then -1 else nI (ptN (nn v / 4) (nn w - 1))
def okB (v : Int32) : Prop := v = 0 ∨ ∃ p t n : Nat, v = nI ((p * 64 + t) * 4 + n) ∧ n ≤ 3 ∧ 43 ≤ p ∧ p ≤ 1720 ∧ 1 ≤ p % 42 ∧ t ≤ 60
set_option maxHeartbeats 4000000 in
set_option maxRecDepth 100000 in
/-- breach -/
theorem k_TB_breach (l : Launch) (hfl : l.stackTraces = false) (D : va_G) (cI cJ : ClassId) (x0 : Nat) (c0 : Nat) (e0 : Nat) (f0 : Nat) (f1 : Nat) (f2 : Nat) (f3 : Nat) (f4 : Nat) (o1 : Nat) (np : Int32) (ns : Int32) (aw : Int32) (s1 : Nat) (s2 : Nat) (s3 : Nat) (ty : Int32) (wa : Int32) (st : Nat → Int32) (sd : Nat → Int32) (be : Nat → Int64) (ce : Nat → Int32) (oq : Nat → Int64) (rp : Nat → Int32) (x : Int32) (sz : Nat) (hce : okCe ce) (hsd : okSd sd) (hst : okSt st) (hin : okIn ce) (hB : okB (brV ce sd st be wa oq rp np)) : vx_Met l y_TB_breach ws_TB_breach ({ frames := 7, cells := 1, slots := 6, locals := 112 } : Room) (va_Pc [.ref x0, .int x] (Pw D cI cJ [(x0, .inr (0, [.ref o1, .ref f0, .ref c0, .ref e0])), (f0, .inr (2, [.ref o1, .ref f1, .ref f2, .ref f3, .ref f4, .int np, .int ns, .int aw])), (f1, .inl (cI, 1764, .inl ce)), (f2, .inl (cJ, 1764, .inr (.inl oq))), (f3, .inl (cI, 42, .inl rp)), (o1, .inr (1, [.ref s1, .ref s2, .ref s3, .int ty, .int wa])), (s1, .inl (cI, 100, .inl st)), (s2, .inl (cI, 244, .inl sd)), (s3, .inl (cJ, 400, .inr (.inl be)))] sz)) (va_Qi (fun (r : Int32) (_u : Unit) => r = brW (brV ce sd st be wa oq rp np) x) (fun _u t9 => Bw D (va_A [(x0, .inr (0, [.ref o1, .ref f0, .ref c0, .ref e0])), (f0, .inr (2, [.ref o1, .ref f1, .ref f2, .ref f3, .ref f4, .int np, .int ns, .int aw])), (f1, .inl (cI, 1764, .inl ce)), (f2, .inl (cJ, 1764, .inr (.inl oq))), (f3, .inl (cI, 42, .inl rp)), (o1, .inr (1, [.ref s1, .ref s2, .ref s3, .int ty, .int wa])), (s1, .inl (cI, 100, .inl st)), (s2, .inl (cI, 244, .inl sd)), (s3, .inl (cJ, 400, .inr (.inl be)))] sz) [(x0, .inr (0, [.ref o1, .ref f0, .ref c0, .ref e0])), (f0, .inr (2, [.ref o1, .ref f1, .ref f2, .ref f3, .ref f4, .int np, .int ns, .int aw])), (f1, .inl (cI, 1764, .inl ce)), (f2, .inl (cJ, 1764, .inr (.inl oq))), (f3, .inl (cI, 42, .inl rp)), (o1, .inr (1, [.ref s1, .ref s2, .ref s3, .int ty, .int wa])), (s1, .inl (cI, 100, .inl st)), (s2, .inl (cI, 244, .inl sd)), (s3, .inl (cJ, 400, .inr (.inl be)))] t9) (va_A [(x0, .inr (0, [.ref o1, .ref f0, .ref c0, .ref e0])), (f0, .inr (2, [.ref o1, .ref f1, .ref f2, .ref f3, .ref f4, .int np, .int ns, .int aw])), (f1, .inl (cI, 1764, .inl ce)), (f2, .inl (cJ, 1764, .inr (.inl oq))), (f3, .inl (cI, 42, .inl rp)), (o1, .inr (1, [.ref s1, .ref s2, .ref s3, .int ty, .int wa])), (s1, .inl (cI, 100, .inl st)), (s2, .inl (cI, 244, .inl sd)), (s3, .inl (cJ, 400, .inr (.inl be)))] sz)) (nd_X (fun E => E = "java/lang/IllegalArgumentException" ∧ (x < nI 0 ∨ ¬ x ≤ nI 3))) 1 6 (va_A [(x0, .inr (0, [.ref o1, .ref f0, .ref c0, .ref e0])), (f0, .inr (2, [.ref o1, .ref f1, .ref f2, .ref f3, .ref f4, .int np, .int ns, .int aw])), (f1, .inl (cI, 1764, .inl ce)), (f2, .inl (cJ, 1764, .inr (.inl oq))), (f3, .inl (cI, 42, .inl rp)), (o1, .inr (1, [.ref s1, .ref s2, .ref s3, .int ty, .int wa])), (s1, .inl (cI, 100, .inl st)), (s2, .inl (cI, 244, .inl sd)), (s3, .inl (cJ, 400, .inr (.inl be)))] sz) := by
  refine vx_ofW (cc := c_TB_breach) (maxL := 3) (ret := (some .int)) (by decide) rfl ?_
  intro p e s m args below meth c s₁ B hml hno hv
  obtain ⟨rfl, hsz, hE, hP, hD0, hX⟩ := hv
  have hx := B.exec
  have hb := B.bytes
  have hr := B.returns
  have hw : ∀ w ∈ gw, w.before _ s = true := fun w h => atoms_spec (ws := ws_TB_breach) B.pre w (List.mem_cons_of_mem _ h)
  have hown : s.vm.findClass R_TB = some m.cls := findClass_of_methodNamed B.named
  have hlocks := B.notSynchronized
  subst hsz
  have hD := hD0.self (sz := s.heap.size)
  generalize hAe : va_A [(x0, .inr (0, [.ref o1, .ref f0, .ref c0, .ref e0])), (f0, .inr (2, [.ref o1, .ref f1, .ref f2, .ref f3, .ref f4, .int np, .int ns, .int aw])), (f1, .inl (cI, 1764, .inl ce)), (f2, .inl (cJ, 1764, .inr (.inl oq))), (f3, .inl (cI, 42, .inl rp)), (o1, .inr (1, [.ref s1, .ref s2, .ref s3, .int ty, .int wa])), (s1, .inl (cI, 100, .inl st)), (s2, .inl (cI, 244, .inl sd)), (s3, .inl (cJ, 400, .inr (.inl be)))] s.heap.size = A at hD hX ⊢
  have hA : ∀ q : Nat, s.heap.size ≤ q → A q := fun q h => by rw [← hAe]; exact Or.inr h
  have hS : va_S A s.heap s.heap [] := va_S.rf
  have hP : va_P D vwCl [(x0, .inr (0, [.ref o1, .ref f0, .ref c0, .ref e0])), (f0, .inr (2, [.ref o1, .ref f1, .ref f2, .ref f3, .ref f4, .int np, .int ns, .int aw])), (f1, .inl (cI, 1764, .inl ce)), (f2, .inl (cJ, 1764, .inr (.inl oq))), (f3, .inl (cI, 42, .inl rp)), (o1, .inr (1, [.ref s1, .ref s2, .ref s3, .int ty, .int wa])), (s1, .inl (cI, 100, .inl st)), (s2, .inl (cI, 244, .inl sd)), (s3, .inl (cJ, 400, .inr (.inl be)))] s.heap := hP
  have hl := lv_entry ([.ref x0, .int x]) (n := 3) (Nat.le_of_ble_eq_true rfl)
  rw [lg_entry_eq]
  generalize (lg_sl ([.ref x0, .int x]) ++ List.replicate (3 - (lg_sl ([.ref x0, .int x])).length) Slot.unset).toArray = ls at hl ⊢
  have hl : lv_has ls 3 [(0, .ref x0), (1, .int x)] := hl
  refine lv_iload_n hx hb d_TB_breach_0 rfl (lv_at hl 1 rfl) ?_
  refine lv_iconst (v := nI 0) hx hb d_TB_breach_1 (by decide +kernel) ?_
  refine lv_iconst (v := nI 3) hx hb d_TB_breach_2 (by decide +kernel) ?_
  refine nd_call (vx_runS (As := [.int x, .int (nI 0), .int (nI 3)]) (rest := []) ⟨hx, hb, hml, hown, hw⟩ (k_TB_needWithin l hfl D cI cJ x (nI 0) (nI 3)) (va_cwS 3 hw (gS kw_313 kw_314 kw_40 kw_315) rfl rfl rfl (by decide +kernel) ⟨Nat.le_of_ble_eq_true rfl, Nat.le_of_ble_eq_true rfl⟩) (pre_Sp (wc := []) hE hX hP hS [] rfl) rfl rfl hl.1 rfl (lv_room (Nat.le_of_ble_eq_true rfl)) d_TB_breach_3 ⟨Nat.le_of_ble_eq_true rfl, Nat.le_of_ble_eq_true rfl⟩) (fun E ce q9 H1 hex hc1 hc2 hc3 hc5 hc6 => ?_) (fun h_3 => ?_)
  · skip
    exact vx_out (fun x hx => (hno x hx).elim) hlocks hc1 hc2 hc3 (fun t9 ht hal => ⟨hex, by rw [ht]; exact hc5, fun q hq => by rw [ht]; exact hc6 q hq⟩) (fun q h => by cases h) (Nat.le_of_ble_eq_true rfl) (Nat.le_of_ble_eq_true rfl)
  obtain ⟨k9, hk1, hk2, rfl⟩ := within_nat h_3.1 h_3.2 (by decide) (by decide)
  refine lv_aload_n hx hb d_TB_breach_6 rfl (lv_at hl 0 rfl) ?_
  refine va_get (D := D) (ci := 0) (v := .ref f0) (C := R_TB) (T := T_TB) (N := 4) hx hb hw in_TB hown hE.1 hP 0 rfl rfl 1 (by decide) (hw _ kw_183) (fun _ h9 => h9) rfl d_TB_breach_7 ?_
  refine vp_callSi (va_Run.run (va_runV (As := []) (rest := []) ⟨hx, hb, hml, hown, hw⟩ (k_FD_firstBreach l D cI cJ f0 f1 f2 f3 f4 o1 np ns aw s1 s2 s3 ty wa st sd be ce oq rp hce hsd hst hin) (cwV 0 hw (gV kw_610 kw_611 kw_612 kw_42 kw_613) rfl rfl rfl (by decide +kernel) ⟨Nat.le_of_ble_eq_true rfl, Nat.le_of_ble_eq_true rfl⟩) (pre_Vp (wc := [(f0, .inr (2, [.ref o1, .ref f1, .ref f2, .ref f3, .ref f4, .int np, .int ns, .int aw])), (f1, .inl (cI, 1764, .inl ce)), (f2, .inl (cJ, 1764, .inr (.inl oq))), (f3, .inl (cI, 42, .inl rp)), (o1, .inr (1, [.ref s1, .ref s2, .ref s3, .int ty, .int wa])), (s1, .inl (cI, 100, .inl st)), (s2, .inl (cI, 244, .inl sd)), (s3, .inl (cJ, 400, .inr (.inl be)))]) (q0 := 0) hE hX hP hS [1, 2, 3, 4, 5, 6, 7, 8] rfl rfl rfl) rfl rfl hl.1 rfl (lv_room (Nat.le_of_ble_eq_true rfl)) d_TB_breach_10 ⟨Nat.le_of_ble_eq_true rfl, Nat.le_of_ble_eq_true rfl⟩)) (fun r_2 hr_2 => ?_)
  obtain rfl : brV ce sd st be wa oq rp np = r_2 := hr_2.symm
  refine lv_istore_n (lv' := [(2, .int (brV ce sd st be wa oq rp np)), (0, .ref x0), (1, .int (nI k9))]) hx hb d_TB_breach_13 rfl hl (by decide) rfl (fun ls hl => ?_)
  refine lv_iload_n hx hb d_TB_breach_14 rfl (lv_at hl 2 rfl) ?_
  refine jn_if_ne (tgt := 22) (a := k9) hx hb d_TB_breach_15 (by decide) (by omega) (fun c_15 => ?_) (fun c_15 => ?_)
  · skip
    refine lv_iload_n hx hb d_TB_breach_22 rfl (lv_at hl 0 rfl) ?_
    refine lv_if_ne (tgt := 28) hx hb d_TB_breach_23 (by decide) (fun c_23 => ?_) (fun c_23 => ?_)
    · skip
      obtain ⟨pl, t, n9, hv, hn9, hp1, hp2, hp3, ht⟩ := hB.resolve_left c_23
      refine lv_iload_n hx hb d_TB_breach_28 rfl (lv_at hl 0 rfl) ?_
      refine lv_iconst (v := nI 2) hx hb d_TB_breach_29 (by decide +kernel) ?_
      refine lv_ishr hx hb d_TB_breach_30 ?_
      refine W.eq (g2 := F0 m 31 ls [.int (nI (pl * 64 + t))]) (by rw [show (brV ce sd st be wa oq rp np) >>> (nI 2 &&& 31) = nI (pl * 64 + t) from by rw [hv, pk_shrN (by omega) _ 2 (by decide +kernel), show ((pl * 64 + t) * 4 + n9) / 2 ^ 2 = pl * 64 + t by omega]]) ?_
      refine lv_iload_n hx hb d_TB_breach_31 rfl (lv_at hl 2 rfl) ?_
      refine lv_iconst (v := nI 1) hx hb d_TB_breach_32 (by decide +kernel) ?_
      refine jn_isub (a := k9) (b := 1) hx hb d_TB_breach_33 (by omega) ?_
      refine vp_callSi (va_Run.run (va_runS (As := [.int (nI (pl * 64 + t)), .int (nI (k9 - 1))]) (rest := []) ⟨hx, hb, hml, hown, hw⟩ (k_TB_partOf l D cI cJ (pl * 64 + t) (k9 - 1) (by omega) (by omega) (by omega) (by omega)) (va_cwS 2 hw (gS kw_570 kw_571 kw_40 kw_572) rfl rfl rfl (by decide +kernel) ⟨Nat.le_of_ble_eq_true rfl, Nat.le_of_ble_eq_true rfl⟩) (pre_Sp (wc := []) hE hX hP hS [] rfl) rfl rfl hl.1 rfl (lv_room (Nat.le_of_ble_eq_true rfl)) d_TB_breach_34 ⟨Nat.le_of_ble_eq_true rfl, Nat.le_of_ble_eq_true rfl⟩)) (fun r_3 hr_3 => ?_)
      obtain rfl : nI (ptN (pl * 64 + t) (k9 - 1)) = r_3 := hr_3.symm
      have hP9 := hP.sub (ws' := [(x0, .inr (0, [.ref o1, .ref f0, .ref c0, .ref e0])), (f0, .inr (2, [.ref o1, .ref f1, .ref f2, .ref f3, .ref f4, .int np, .int ns, .int aw])), (f1, .inl (cI, 1764, .inl ce)), (f2, .inl (cJ, 1764, .inr (.inl oq))), (f3, .inl (cI, 42, .inl rp)), (o1, .inr (1, [.ref s1, .ref s2, .ref s3, .int ty, .int wa])), (s1, .inl (cI, 100, .inl st)), (s2, .inl (cI, 244, .inl sd)), (s3, .inl (cJ, 400, .inr (.inl be)))]) [0, 1, 2, 3, 4, 5, 6, 7, 8] rfl
      have hD9 := hD.sub (ws' := [(x0, .inr (0, [.ref o1, .ref f0, .ref c0, .ref e0])), (f0, .inr (2, [.ref o1, .ref f1, .ref f2, .ref f3, .ref f4, .int np, .int ns, .int aw])), (f1, .inl (cI, 1764, .inl ce)), (f2, .inl (cJ, 1764, .inr (.inl oq))), (f3, .inl (cI, 42, .inl rp)), (o1, .inr (1, [.ref s1, .ref s2, .ref s3, .int ty, .int wa])), (s1, .inl (cI, 100, .inl st)), (s2, .inl (cI, 244, .inl sd)), (s3, .inl (cJ, 400, .inr (.inl be)))]) [0, 1, 2, 3, 4, 5, 6, 7, 8] (by decide) rfl
      refine vx_ret ?_
      exact W.iret (v := nI (ptN (pl * 64 + t) (k9 - 1))) hx hb hr (fun t9 ht hW => ⟨⟨_, (), rfl, (by unfold brW; rw [if_neg (fun q => c_15 ((nI_eq (by omega) (by decide)).mp q)), if_neg c_23, hv, nn_nI (show (pl * 64 + t) * 4 + n9 < 2 ^ 31 by omega), nn_nI (show k9 < 2 ^ 31 by omega), show ((pl * 64 + t) * 4 + n9) / 4 = pl * 64 + t by omega]), ⟨by rw [ht]; exact hP9, hD9⟩⟩, hS.F ht⟩) hS.2.2 d_TB_breach_37
    · skip
      refine lv_iconst (v := (-1)) hx hb d_TB_breach_26 (by decide +kernel) ?_
      have hP9 := hP.sub (ws' := [(x0, .inr (0, [.ref o1, .ref f0, .ref c0, .ref e0])), (f0, .inr (2, [.ref o1, .ref f1, .ref f2, .ref f3, .ref f4, .int np, .int ns, .int aw])), (f1, .inl (cI, 1764, .inl ce)), (f2, .inl (cJ, 1764, .inr (.inl oq))), (f3, .inl (cI, 42, .inl rp)), (o1, .inr (1, [.ref s1, .ref s2, .ref s3, .int ty, .int wa])), (s1, .inl (cI, 100, .inl st)), (s2, .inl (cI, 244, .inl sd)), (s3, .inl (cJ, 400, .inr (.inl be)))]) [0, 1, 2, 3, 4, 5, 6, 7, 8] rfl
      have hD9 := hD.sub (ws' := [(x0, .inr (0, [.ref o1, .ref f0, .ref c0, .ref e0])), (f0, .inr (2, [.ref o1, .ref f1, .ref f2, .ref f3, .ref f4, .int np, .int ns, .int aw])), (f1, .inl (cI, 1764, .inl ce)), (f2, .inl (cJ, 1764, .inr (.inl oq))), (f3, .inl (cI, 42, .inl rp)), (o1, .inr (1, [.ref s1, .ref s2, .ref s3, .int ty, .int wa])), (s1, .inl (cI, 100, .inl st)), (s2, .inl (cI, 244, .inl sd)), (s3, .inl (cJ, 400, .inr (.inl be)))]) [0, 1, 2, 3, 4, 5, 6, 7, 8] (by decide) rfl
      refine vx_ret ?_
      exact W.iret (v := (-1)) hx hb hr (fun t9 ht hW => ⟨⟨_, (), rfl, (by unfold brW; rw [if_neg (fun q => c_15 ((nI_eq (by omega) (by decide)).mp q)), if_pos c_23]), ⟨by rw [ht]; exact hP9, hD9⟩⟩, hS.F ht⟩) hS.2.2 d_TB_breach_27
  · skip
    refine lv_iload_n hx hb d_TB_breach_18 rfl (lv_at hl 0 rfl) ?_
    refine lv_iconst (v := nI 3) hx hb d_TB_breach_19 (by decide +kernel) ?_
    refine lv_iand hx hb d_TB_breach_20 ?_
    have hP9 := hP.sub (ws' := [(x0, .inr (0, [.ref o1, .ref f0, .ref c0, .ref e0])), (f0, .inr (2, [.ref o1, .ref f1, .ref f2, .ref f3, .ref f4, .int np, .int ns, .int aw])), (f1, .inl (cI, 1764, .inl ce)), (f2, .inl (cJ, 1764, .inr (.inl oq))), (f3, .inl (cI, 42, .inl rp)), (o1, .inr (1, [.ref s1, .ref s2, .ref s3, .int ty, .int wa])), (s1, .inl (cI, 100, .inl st)), (s2, .inl (cI, 244, .inl sd)), (s3, .inl (cJ, 400, .inr (.inl be)))]) [0, 1, 2, 3, 4, 5, 6, 7, 8] rfl
    have hD9 := hD.sub (ws' := [(x0, .inr (0, [.ref o1, .ref f0, .ref c0, .ref e0])), (f0, .inr (2, [.ref o1, .ref f1, .ref f2, .ref f3, .ref f4, .int np, .int ns, .int aw])), (f1, .inl (cI, 1764, .inl ce)), (f2, .inl (cJ, 1764, .inr (.inl oq))), (f3, .inl (cI, 42, .inl rp)), (o1, .inr (1, [.ref s1, .ref s2, .ref s3, .int ty, .int wa])), (s1, .inl (cI, 100, .inl st)), (s2, .inl (cI, 244, .inl sd)), (s3, .inl (cJ, 400, .inr (.inl be)))]) [0, 1, 2, 3, 4, 5, 6, 7, 8] (by decide) rfl
    refine vx_ret ?_
    exact W.iret (v := (brV ce sd st be wa oq rp np) &&& (nI 3)) hx hb hr (fun t9 ht hW => ⟨⟨_, (), rfl, (by unfold brW; rw [if_pos (by rw [c_15])]), ⟨by rw [ht]; exact hP9, hD9⟩⟩, hS.F ht⟩) hS.2.2 d_TB_breach_21
