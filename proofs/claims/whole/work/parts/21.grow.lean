theorem d_TB_grow_0 : decode c_TB_grow 0 = .ok (.iload_n 1, 1) := by decide +kernel
theorem d_TB_grow_1 : decode c_TB_grow 1 = .ok (.iconst 0, 1) := by decide +kernel
theorem d_TB_grow_2 : decode c_TB_grow 2 = .ok (.ldc 122, 2) := by decide +kernel
theorem d_TB_grow_4 : decode c_TB_grow 4 = .ok (.invokestatic 44, 3) := by decide +kernel
theorem d_TB_grow_7 : decode c_TB_grow 7 = .ok (.iload_n 1, 1) := by decide +kernel
theorem d_TB_grow_8 : decode c_TB_grow 8 = .ok (.sipush 1764, 3) := by decide +kernel
theorem d_TB_grow_11 : decode c_TB_grow 11 = .ok (.invokestatic 123, 3) := by decide +kernel
theorem d_TB_grow_14 : decode c_TB_grow 14 = .ok (.istore_n 2, 1) := by decide +kernel
theorem d_TB_grow_15 : decode c_TB_grow 15 = .ok (.iconst 0, 1) := by decide +kernel
theorem d_TB_grow_16 : decode c_TB_grow 16 = .ok (.istore_n 3, 1) := by decide +kernel
theorem d_TB_grow_17 : decode c_TB_grow 17 = .ok (.iload_n 3, 1) := by decide +kernel
theorem d_TB_grow_18 : decode c_TB_grow 18 = .ok (.iload_n 2, 1) := by decide +kernel
theorem d_TB_grow_19 : decode c_TB_grow 19 = .ok (.if_icmp .ge 24, 3) := by decide +kernel
theorem d_TB_grow_22 : decode c_TB_grow 22 = .ok (.aload_n 0, 1) := by decide +kernel
theorem d_TB_grow_23 : decode c_TB_grow 23 = .ok (.getfield 21, 3) := by decide +kernel
theorem d_TB_grow_26 : decode c_TB_grow 26 = .ok (.invokevirtual 128, 3) := by decide +kernel
theorem d_TB_grow_29 : decode c_TB_grow 29 = .ok (.ifCond .le 14, 3) := by decide +kernel
theorem d_TB_grow_32 : decode c_TB_grow 32 = .ok (.aload_n 0, 1) := by decide +kernel
theorem d_TB_grow_33 : decode c_TB_grow 33 = .ok (.iconst 0, 1) := by decide +kernel
theorem d_TB_grow_34 : decode c_TB_grow 34 = .ok (.invokevirtual 131, 3) := by decide +kernel
theorem d_TB_grow_37 : decode c_TB_grow 37 = .ok (.iinc 3 1, 3) := by decide +kernel
theorem d_TB_grow_40 : decode c_TB_grow 40 = .ok (.goto (-23), 3) := by decide +kernel
theorem d_TB_grow_43 : decode c_TB_grow 43 = .ok (.iload_n 3, 1) := by decide +kernel
theorem d_TB_grow_44 : decode c_TB_grow 44 = .ok (.ireturn, 1) := by decide +kernel
theorem d_TB_drawn_0 : decode c_TB_drawn 0 = .ok (.iload_n 1, 1) := by decide +kernel
theorem d_TB_drawn_1 : decode c_TB_drawn 1 = .ok (.iconst 0, 1) := by decide +kernel
theorem d_TB_drawn_2 : decode c_TB_drawn 2 = .ok (.ldc 122, 2) := by decide +kernel
theorem d_TB_drawn_4 : decode c_TB_drawn 4 = .ok (.invokestatic 44, 3) := by decide +kernel
theorem d_TB_drawn_7 : decode c_TB_drawn 7 = .ok (.iload_n 1, 1) := by decide +kernel
theorem d_TB_drawn_8 : decode c_TB_drawn 8 = .ok (.sipush 1764, 3) := by decide +kernel
theorem d_TB_drawn_11 : decode c_TB_drawn 11 = .ok (.invokestatic 123, 3) := by decide +kernel
theorem d_TB_drawn_14 : decode c_TB_drawn 14 = .ok (.istore_n 3, 1) := by decide +kernel
theorem d_TB_drawn_15 : decode c_TB_drawn 15 = .ok (.iconst 0, 1) := by decide +kernel
theorem d_TB_drawn_16 : decode c_TB_drawn 16 = .ok (.istore 4, 2) := by decide +kernel
theorem d_TB_drawn_18 : decode c_TB_drawn 18 = .ok (.iload_n 2, 1) := by decide +kernel
theorem d_TB_drawn_19 : decode c_TB_drawn 19 = .ok (.istore 5, 2) := by decide +kernel
theorem d_TB_drawn_21 : decode c_TB_drawn 21 = .ok (.iload 4, 2) := by decide +kernel
theorem d_TB_drawn_23 : decode c_TB_drawn 23 = .ok (.iload_n 3, 1) := by decide +kernel
theorem d_TB_drawn_24 : decode c_TB_drawn 24 = .ok (.if_icmp .ge 46, 3) := by decide +kernel
theorem d_TB_drawn_27 : decode c_TB_drawn 27 = .ok (.aload_n 0, 1) := by decide +kernel
theorem d_TB_drawn_28 : decode c_TB_drawn 28 = .ok (.getfield 21, 3) := by decide +kernel
theorem d_TB_drawn_31 : decode c_TB_drawn 31 = .ok (.invokevirtual 128, 3) := by decide +kernel
theorem d_TB_drawn_34 : decode c_TB_drawn 34 = .ok (.ifCond .le 36, 3) := by decide +kernel
theorem d_TB_drawn_37 : decode c_TB_drawn 37 = .ok (.ldc 134, 2) := by decide +kernel
theorem d_TB_drawn_39 : decode c_TB_drawn 39 = .ok (.iload 5, 2) := by decide +kernel
theorem d_TB_drawn_41 : decode c_TB_drawn 41 = .ok (.imul, 1) := by decide +kernel
theorem d_TB_drawn_42 : decode c_TB_drawn 42 = .ok (.ldc 135, 2) := by decide +kernel
theorem d_TB_drawn_44 : decode c_TB_drawn 44 = .ok (.iadd, 1) := by decide +kernel
theorem d_TB_drawn_45 : decode c_TB_drawn 45 = .ok (.istore 5, 2) := by decide +kernel
theorem d_TB_drawn_47 : decode c_TB_drawn 47 = .ok (.aload_n 0, 1) := by decide +kernel
theorem d_TB_drawn_48 : decode c_TB_drawn 48 = .ok (.iload 5, 2) := by decide +kernel
theorem d_TB_drawn_50 : decode c_TB_drawn 50 = .ok (.bipush 8, 2) := by decide +kernel
theorem d_TB_drawn_52 : decode c_TB_drawn 52 = .ok (.iushr, 1) := by decide +kernel
theorem d_TB_drawn_53 : decode c_TB_drawn 53 = .ok (.aload_n 0, 1) := by decide +kernel
theorem d_TB_drawn_54 : decode c_TB_drawn 54 = .ok (.getfield 21, 3) := by decide +kernel
theorem d_TB_drawn_57 : decode c_TB_drawn 57 = .ok (.invokevirtual 128, 3) := by decide +kernel
theorem d_TB_drawn_60 : decode c_TB_drawn 60 = .ok (.irem, 1) := by decide +kernel
theorem d_TB_drawn_61 : decode c_TB_drawn 61 = .ok (.invokevirtual 131, 3) := by decide +kernel
theorem d_TB_drawn_64 : decode c_TB_drawn 64 = .ok (.iinc 4 1, 3) := by decide +kernel
theorem d_TB_drawn_67 : decode c_TB_drawn 67 = .ok (.goto (-46), 3) := by decide +kernel
theorem d_TB_drawn_70 : decode c_TB_drawn 70 = .ok (.iload 4, 2) := by decide +kernel
theorem d_TB_drawn_72 : decode c_TB_drawn 72 = .ok (.ireturn, 1) := by decide +kernel
theorem d_TB_front_0 : decode c_TB_front 0 = .ok (.iload_n 1, 1) := by decide +kernel
theorem d_TB_front_1 : decode c_TB_front 1 = .ok (.ifCond .lt 14, 3) := by decide +kernel
theorem d_TB_front_4 : decode c_TB_front 4 = .ok (.iload_n 1, 1) := by decide +kernel
theorem d_TB_front_5 : decode c_TB_front 5 = .ok (.aload_n 0, 1) := by decide +kernel
theorem d_TB_front_6 : decode c_TB_front 6 = .ok (.getfield 21, 3) := by decide +kernel
theorem d_TB_front_9 : decode c_TB_front 9 = .ok (.invokevirtual 128, 3) := by decide +kernel
theorem d_TB_front_12 : decode c_TB_front 12 = .ok (.if_icmp .lt 13, 3) := by decide +kernel
theorem d_TB_front_15 : decode c_TB_front 15 = .ok (.new 139, 3) := by decide +kernel
theorem d_TB_front_18 : decode c_TB_front 18 = .ok (.dup, 1) := by decide +kernel
theorem d_TB_front_19 : decode c_TB_front 19 = .ok (.ldc 141, 2) := by decide +kernel
theorem d_TB_front_21 : decode c_TB_front 21 = .ok (.invokespecial 143, 3) := by decide +kernel
theorem d_TB_front_24 : decode c_TB_front 24 = .ok (.athrow, 1) := by decide +kernel
theorem d_TB_front_25 : decode c_TB_front 25 = .ok (.iload_n 2, 1) := by decide +kernel
theorem d_TB_front_26 : decode c_TB_front 26 = .ok (.iconst 0, 1) := by decide +kernel
theorem d_TB_front_27 : decode c_TB_front 27 = .ok (.iconst 2, 1) := by decide +kernel
theorem d_TB_front_28 : decode c_TB_front 28 = .ok (.invokestatic 44, 3) := by decide +kernel
theorem d_TB_front_31 : decode c_TB_front 31 = .ok (.aload_n 0, 1) := by decide +kernel
theorem d_TB_front_32 : decode c_TB_front 32 = .ok (.getfield 21, 3) := by decide +kernel
theorem d_TB_front_35 : decode c_TB_front 35 = .ok (.iload_n 1, 1) := by decide +kernel
theorem d_TB_front_36 : decode c_TB_front 36 = .ok (.invokevirtual 144, 3) := by decide +kernel
theorem d_TB_front_39 : decode c_TB_front 39 = .ok (.iload_n 2, 1) := by decide +kernel
theorem d_TB_front_40 : decode c_TB_front 40 = .ok (.invokestatic 147, 3) := by decide +kernel
theorem d_TB_front_43 : decode c_TB_front 43 = .ok (.ireturn, 1) := by decide +kernel
def gstep (sd st : Nat → Int32) (be : Nat → Int64) (wa i : Int32) (z : FS) : FS := fsJoin sd st be wa (nn (pnV z.2.1 z.2.2.1 i) / 64) (nn (pnV z.2.1 z.2.2.1 i) % 64) z
theorem gstep_eq {sd st : Nat → Int32} {be : Nat → Int64} {wa i : Int32} {z : FS} {p t : Nat} (h : pnV z.2.1 z.2.2.1 i = nI (p * 64 + t)) (h1 : p ≤ 1720) (h2 : t ≤ 60) : gstep sd st be wa i z = fsJoin sd st be wa p t z := by
  unfold gstep
  rw [h, nn_nI (by omega), show (p * 64 + t) / 64 = p by omega, show (p * 64 + t) % 64 = t by omega]
def gwL (sd st : Nat → Int32) (be : Nat → Int64) (wa : Int32) (z : FS) : Nat → FS
  | 0 => z
  | d + 1 => gstep sd st be wa (nI 0) (gwL sd st be wa z d)
def dwN (w : Int32) : Int32 := (nI 1664525 * w) + nI 1013904223
def dwU (w : Int32) : Int32 := (w.toUInt32 >>> ((nI 8).toUInt32 &&& Int32.toUInt32 31)).toInt32
def dwI (w np : Int32) : Int32 := dwU w - dwU w / np * np
def dwL (sd st : Nat → Int32) (be : Nat → Int64) (wa : Int32) (z : FS) (w : Int32) : Nat → FS × Int32
  | 0 => (z, w)
  | d + 1 => (gstep sd st be wa (dwI (dwN (dwL sd st be wa z w d).2) (dwL sd st be wa z w d).1.2.2.2.2.1) (dwL sd st be wa z w d).1, dwN (dwL sd st be wa z w d).2)
theorem dwU_nat (w : Int32) : ∃ a : Nat, a < 2 ^ 24 ∧ dwU w = nI a := by
  have h : (dwU w).toBitVec.toNat = w.toBitVec.toNat / 2 ^ 8 := pk_ushr w (nI 8) 8 (by decide +kernel)
  have h2 : w.toBitVec.toNat < 2 ^ 32 := w.toBitVec.isLt
  refine ⟨w.toBitVec.toNat / 2 ^ 8, by omega, ?_⟩
  apply Int32.toBitVec_inj.mp
  apply BitVec.eq_of_toNat_eq
  rw [h, pk_tn (by omega)]
theorem dwI_in (w : Int32) {np : Int32} (h : ¬ np ≤ 0) : ¬ dwI w np < 0 ∧ dwI w np < np := by
  obtain ⟨a, ha, e⟩ := dwU_nat w
  have h0 : ¬ np < 0 := fun z => h (by
    rw [Int32.lt_iff_toInt_lt] at z
    rw [Int32.le_iff_toInt_le]
    omega)
  obtain ⟨b, hb, rfl⟩ := nI_of h0
  have hb0 : 0 < b := by
    rcases Nat.eq_zero_or_pos b with z | z
    · exact absurd (by rw [z, nI_0]; decide) h
    · exact z
  unfold dwI
  rw [e, pk_rem (by omega) hb0 hb]
  have hm := Nat.mod_lt a hb0
  exact ⟨nI_pos (by omega), nI_lt hm hb⟩
/-- what growth asks of a field: a predicate that each step keeps -/
def okG (sd st : Nat → Int32) (be : Nat → Int64) (wa : Int32) (G : FS → Prop) : Prop :=
  (∀ z, G z → okCe z.1) ∧ ∀ (z : FS) (i : Int32), G z → ¬ i < 0 → i < z.2.2.2.2.1 → ∃ p t : Nat, pnV z.2.1 z.2.2.1 i = nI (p * 64 + t) ∧ 43 ≤ p ∧ p ≤ 1720 ∧ 1 ≤ p % 42 ∧ t ≤ 60 ∧ G (fsJoin sd st be wa p t z)
set_option maxHeartbeats 4000000 in
set_option maxRecDepth 100000 in
theorem lp_k_TB_grow_17 {p : Program} {l : Launch} {e : Env} {s : State} {m : MethodId} {args : Array Value} {below : List Frame} {meth : Method} {c : Code} {D : va_G} {cI cJ : ClassId} {Q : State → Prop} {A : Nat → Prop} (x0 : Nat) (c0 : Nat) (e0 : Nat) (f0 : Nat) (f1 : Nat) (f2 : Nat) (f3 : Nat) (f4 : Nat) (o1 : Nat) (np : Int32) (ns : Int32) (aw : Int32) (s1 : Nat) (s2 : Nat) (s3 : Nat) (ty : Int32) (wa : Int32) (st : Nat → Int32) (sd : Nat → Int32) (be : Nat → Int64) (ce : Nat → Int32) (oq : Nat → Int64) (rp : Nat → Int32) (tl : Nat → Int32) (x : Int32) (hsd : okSd sd) (hst : okSt st) (G : FS → Prop) (hG0 : okG sd st be wa G) (hGz : G (ce, oq, rp, tl, np, ns, aw)) (mo : Nat) (hmo : mo ≤ 1764) (hx : p.tables.exec = Jvm.exec) (hb : c.code = c_TB_grow) (hml : c.maxLocals = 4) (hown : s.vm.findClass R_TB = some m.cls) (hw : ∀ w ∈ gw, w.before args s = true) (hE : En D cI cJ s) (hX : Sx A s s.heap) (hA : ∀ q : Nat, s.heap.size ≤ q → A q)
    (kx0 : ∀ (d : Nat) (z9 : FS), (d ≤ mo) → (z9 = gwL sd st be wa (ce, oq, rp, tl, np, ns, aw) d) → (∀ j, j < d → ¬ (gwL sd st be wa (ce, oq, rp, tl, np, ns, aw) j).2.2.2.2.1 ≤ 0) → (d = mo ∨ z9.2.2.2.2.1 ≤ 0) → ∀ (H : Heap) (locs : List Loc) (ls : Array Slot), va_P D vwCl [(x0, .inr (0, [.ref o1, .ref f0, .ref c0, .ref e0])), (f0, .inr (2, [.ref o1, .ref f1, .ref f2, .ref f3, .ref f4, .int z9.2.2.2.2.1, .int z9.2.2.2.2.2.1, .int z9.2.2.2.2.2.2])), (f1, .inl (cI, 1764, .inl z9.1)), (f2, .inl (cJ, 1764, .inr (.inl z9.2.1))), (f3, .inl (cI, 42, .inl z9.2.2.1)), (f4, .inl (cI, 61, .inl z9.2.2.2.1)), (o1, .inr (1, [.ref s1, .ref s2, .ref s3, .int ty, .int wa])), (s1, .inl (cI, 100, .inl st)), (s2, .inl (cI, 244, .inl sd)), (s3, .inl (cJ, 400, .inr (.inl be)))] H → va_D A [(x0, .inr (0, [.ref o1, .ref f0, .ref c0, .ref e0])), (f0, .inr (2, [.ref o1, .ref f1, .ref f2, .ref f3, .ref f4, .int z9.2.2.2.2.1, .int z9.2.2.2.2.2.1, .int z9.2.2.2.2.2.2])), (f1, .inl (cI, 1764, .inl z9.1)), (f2, .inl (cJ, 1764, .inr (.inl z9.2.1))), (f3, .inl (cI, 42, .inl z9.2.2.1)), (f4, .inl (cI, 61, .inl z9.2.2.2.1)), (o1, .inr (1, [.ref s1, .ref s2, .ref s3, .int ty, .int wa])), (s1, .inl (cI, 100, .inl st)), (s2, .inl (cI, 244, .inl sd)), (s3, .inl (cJ, 400, .inr (.inl be)))] → va_S A s.heap H locs → lv_has ls 4 [(3, .int (nI d))] → W p l e ({ frames := 7, cells := 1, slots := 6, locals := 148 } : Room) s m args below meth c H locs 1 6 Q (F0 m 43 ls [])) :
    ∀ (fu : Nat) (d : Nat) (z9 : FS), mo - d < fu → (d ≤ mo) → (z9 = gwL sd st be wa (ce, oq, rp, tl, np, ns, aw) d) → (G z9) → (∀ j, j < d → ¬ (gwL sd st be wa (ce, oq, rp, tl, np, ns, aw) j).2.2.2.2.1 ≤ 0) → ∀ (H : Heap) (locs : List Loc) (ls : Array Slot), va_P D vwCl [(x0, .inr (0, [.ref o1, .ref f0, .ref c0, .ref e0])), (f0, .inr (2, [.ref o1, .ref f1, .ref f2, .ref f3, .ref f4, .int z9.2.2.2.2.1, .int z9.2.2.2.2.2.1, .int z9.2.2.2.2.2.2])), (f1, .inl (cI, 1764, .inl z9.1)), (f2, .inl (cJ, 1764, .inr (.inl z9.2.1))), (f3, .inl (cI, 42, .inl z9.2.2.1)), (f4, .inl (cI, 61, .inl z9.2.2.2.1)), (o1, .inr (1, [.ref s1, .ref s2, .ref s3, .int ty, .int wa])), (s1, .inl (cI, 100, .inl st)), (s2, .inl (cI, 244, .inl sd)), (s3, .inl (cJ, 400, .inr (.inl be)))] H → va_D A [(x0, .inr (0, [.ref o1, .ref f0, .ref c0, .ref e0])), (f0, .inr (2, [.ref o1, .ref f1, .ref f2, .ref f3, .ref f4, .int z9.2.2.2.2.1, .int z9.2.2.2.2.2.1, .int z9.2.2.2.2.2.2])), (f1, .inl (cI, 1764, .inl z9.1)), (f2, .inl (cJ, 1764, .inr (.inl z9.2.1))), (f3, .inl (cI, 42, .inl z9.2.2.1)), (f4, .inl (cI, 61, .inl z9.2.2.2.1)), (o1, .inr (1, [.ref s1, .ref s2, .ref s3, .int ty, .int wa])), (s1, .inl (cI, 100, .inl st)), (s2, .inl (cI, 244, .inl sd)), (s3, .inl (cJ, 400, .inr (.inl be)))] → va_S A s.heap H locs → lv_has ls 4 [(0, .ref x0), (2, .int (nI mo)), (3, .int (nI d))] → W p l e ({ frames := 7, cells := 1, slots := 6, locals := 148 } : Room) s m args below meth c H locs 1 6 Q (F0 m 17 ls []) := by
  intro fu
  induction fu with
  | zero =>
    intro d z9 h0
    exact absurd h0 (Nat.not_lt_zero _)
  | succ fu ih =>
    intro d z9 hmu hd hz hG hall H locs ls hP hD hS hl
    refine lv_iload_n hx hb d_TB_grow_17 rfl (lv_at hl 2 rfl) ?_
    refine lv_iload_n hx hb d_TB_grow_18 rfl (lv_at hl 1 rfl) ?_
    refine jn_icmp_ge (tgt := 43) (a := d) (b := mo) hx hb d_TB_grow_19 (by decide) (by omega) (by omega) (fun c_19 => ?_) (fun c_19 => ?_)
    · skip
      exact kx0 d z9 hd hz hall (Or.inl (by omega)) _ _ _ (hP.sub [0, 1, 2, 3, 4, 5, 6, 7, 8, 9] rfl) (hD.sub [0, 1, 2, 3, 4, 5, 6, 7, 8, 9] (by decide) rfl) hS (lv_sub hl [2] rfl)
    · skip
      refine lv_aload_n hx hb d_TB_grow_22 rfl (lv_at hl 0 rfl) ?_
      refine va_get (D := D) (ci := 0) (v := .ref f0) (C := R_TB) (T := T_TB) (N := 4) hx hb hw in_TB hown hE.1 hP 0 rfl rfl 1 (by decide) (hw _ kw_183) (fun _ h9 => h9) rfl d_TB_grow_23 ?_
      refine vp_callSi (va_Run.run (va_runV (As := []) (rest := []) ⟨hx, hb, hml, hown, hw⟩ (k_FD_pairs l D cI cJ f0 f1 f2 f3 f4 o1 z9.2.2.2.2.1 z9.2.2.2.2.2.1 z9.2.2.2.2.2.2) (cwV 0 hw (gV kw_227 kw_228 kw_229 kw_42 kw_230) rfl rfl rfl (by decide +kernel) ⟨Nat.le_of_ble_eq_true rfl, Nat.le_of_ble_eq_true rfl⟩) (pre_Vp (wc := [(f0, .inr (2, [.ref o1, .ref f1, .ref f2, .ref f3, .ref f4, .int z9.2.2.2.2.1, .int z9.2.2.2.2.2.1, .int z9.2.2.2.2.2.2]))]) (q0 := 0) hE hX hP hS [1] rfl rfl rfl) rfl rfl hl.1 rfl (lv_room (Nat.le_of_ble_eq_true rfl)) d_TB_grow_26 ⟨Nat.le_of_ble_eq_true rfl, Nat.le_of_ble_eq_true rfl⟩)) (fun r_1 hr_1 => ?_)
      obtain rfl : z9.2.2.2.2.1 = r_1 := hr_1.symm
      refine lv_if_le (tgt := 43) hx hb d_TB_grow_29 (by decide) (fun c_29 => ?_) (fun c_29 => ?_)
      · skip
        exact kx0 d z9 hd hz hall (Or.inr c_29) _ _ _ (hP.sub [0, 1, 2, 3, 4, 5, 6, 7, 8, 9] rfl) (hD.sub [0, 1, 2, 3, 4, 5, 6, 7, 8, 9] (by decide) rfl) hS (lv_sub hl [2] rfl)
      · skip
        obtain ⟨pl, t, hpr, hp1, hp2, hp3, ht, hG9⟩ := hG0.2 z9 (nI 0) hG (by decide +kernel) (by rw [nI_0]; exact k2_lt c_29)
        refine lv_aload_n hx hb d_TB_grow_32 rfl (lv_at hl 0 rfl) ?_
        refine lv_iconst (v := nI 0) hx hb d_TB_grow_33 (by decide +kernel) ?_
        refine cl_v (wr := []) (va_runV (As := [.int (nI 0)]) (rest := []) ⟨hx, hb, hml, hown, hw⟩ (k_TB_joinPair l D cI cJ x0 c0 e0 f0 f1 f2 f3 f4 o1 z9.2.2.2.2.1 z9.2.2.2.2.2.1 z9.2.2.2.2.2.2 s1 s2 s3 ty wa st sd be z9.1 z9.2.1 z9.2.2.1 pl z9.2.2.2.1 t (nI 0) _ hp1 hp2 (hG0.1 z9 hG) hsd hst ht hpr) (cwV 1 hw (gV kw_516 kw_518 kw_7 kw_40 kw_519) rfl rfl rfl (by decide +kernel) ⟨Nat.le_of_ble_eq_true rfl, Nat.le_of_ble_eq_true rfl⟩) (pre_Vw (wc := [(x0, .inr (0, [.ref o1, .ref f0, .ref c0, .ref e0])), (f0, .inr (2, [.ref o1, .ref f1, .ref f2, .ref f3, .ref f4, .int z9.2.2.2.2.1, .int z9.2.2.2.2.2.1, .int z9.2.2.2.2.2.2])), (f1, .inl (cI, 1764, .inl z9.1)), (f2, .inl (cJ, 1764, .inr (.inl z9.2.1))), (f3, .inl (cI, 42, .inl z9.2.2.1)), (f4, .inl (cI, 61, .inl z9.2.2.2.1)), (o1, .inr (1, [.ref s1, .ref s2, .ref s3, .int ty, .int wa])), (s1, .inl (cI, 100, .inl st)), (s2, .inl (cI, 244, .inl sd)), (s3, .inl (cJ, 400, .inr (.inl be)))]) (q0 := 0) hE hX hA hP hD hS [0, 1, 2, 3, 4, 5, 6, 7, 8, 9] (by decide) rfl rfl rfl rfl) rfl rfl hl.1 rfl (lv_room (Nat.le_of_ble_eq_true rfl)) d_TB_grow_34 ⟨Nat.le_of_ble_eq_true rfl, Nat.le_of_ble_eq_true rfl⟩) hP hD hS hA [0, 1, 2, 3, 4, 5, 6, 7, 8, 9] [] rfl rfl (by decide) (by decide) (fun u_r_2 H locs hr_2 hP hD hS => ?_)
        have hP : va_P D vwCl [(x0, .inr (0, [.ref o1, .ref f0, .ref c0, .ref e0])), (f0, .inr (2, [.ref o1, .ref f1, .ref f2, .ref f3, .ref f4, .int ((raL (upd z9.1 pl (nI t ||| ((ifL z9.1 sd st pl t 4) <<< (nI 6 &&& 31)))) sd st be wa pl (z9.2.1, z9.2.2.1, z9.2.2.2.2.1) 5).2.2), .int (nsP z9.2.2.2.2.2.1 (nI t ||| ((ifL z9.1 sd st pl t 4) <<< (nI 6 &&& 31)))), .int (nI 1)])), (f1, .inl (cI, 1764, .inl (upd z9.1 pl (nI t ||| ((ifL z9.1 sd st pl t 4) <<< (nI 6 &&& 31)))))), (f2, .inl (cJ, 1764, .inr (.inl ((raL (upd z9.1 pl (nI t ||| ((ifL z9.1 sd st pl t 4) <<< (nI 6 &&& 31)))) sd st be wa pl (z9.2.1, z9.2.2.1, z9.2.2.2.2.1) 5).1)))), (f3, .inl (cI, 42, .inl ((raL (upd z9.1 pl (nI t ||| ((ifL z9.1 sd st pl t 4) <<< (nI 6 &&& 31)))) sd st be wa pl (z9.2.1, z9.2.2.1, z9.2.2.2.2.1) 5).2.1))), (f4, .inl (cI, 61, .inl (tlP z9.2.2.2.1 (nI t ||| ((ifL z9.1 sd st pl t 4) <<< (nI 6 &&& 31)))))), (o1, .inr (1, [.ref s1, .ref s2, .ref s3, .int ty, .int wa])), (s1, .inl (cI, 100, .inl st)), (s2, .inl (cI, 244, .inl sd)), (s3, .inl (cJ, 400, .inr (.inl be)))] H := hP
        have hD : va_D A [(x0, .inr (0, [.ref o1, .ref f0, .ref c0, .ref e0])), (f0, .inr (2, [.ref o1, .ref f1, .ref f2, .ref f3, .ref f4, .int ((raL (upd z9.1 pl (nI t ||| ((ifL z9.1 sd st pl t 4) <<< (nI 6 &&& 31)))) sd st be wa pl (z9.2.1, z9.2.2.1, z9.2.2.2.2.1) 5).2.2), .int (nsP z9.2.2.2.2.2.1 (nI t ||| ((ifL z9.1 sd st pl t 4) <<< (nI 6 &&& 31)))), .int (nI 1)])), (f1, .inl (cI, 1764, .inl (upd z9.1 pl (nI t ||| ((ifL z9.1 sd st pl t 4) <<< (nI 6 &&& 31)))))), (f2, .inl (cJ, 1764, .inr (.inl ((raL (upd z9.1 pl (nI t ||| ((ifL z9.1 sd st pl t 4) <<< (nI 6 &&& 31)))) sd st be wa pl (z9.2.1, z9.2.2.1, z9.2.2.2.2.1) 5).1)))), (f3, .inl (cI, 42, .inl ((raL (upd z9.1 pl (nI t ||| ((ifL z9.1 sd st pl t 4) <<< (nI 6 &&& 31)))) sd st be wa pl (z9.2.1, z9.2.2.1, z9.2.2.2.2.1) 5).2.1))), (f4, .inl (cI, 61, .inl (tlP z9.2.2.2.1 (nI t ||| ((ifL z9.1 sd st pl t 4) <<< (nI 6 &&& 31)))))), (o1, .inr (1, [.ref s1, .ref s2, .ref s3, .int ty, .int wa])), (s1, .inl (cI, 100, .inl st)), (s2, .inl (cI, 244, .inl sd)), (s3, .inl (cJ, 400, .inr (.inl be)))] := hD
        refine lv_iinc (v := nI (d + 1)) (lv' := [(3, .int (nI (d + 1))), (0, .ref x0), (2, .int (nI mo))]) hx hb d_TB_grow_37 hl (k := 2) rfl (jn_inc d 1) (by decide) rfl (fun ls hl => ?_)
        refine lv_goto (tgt := 17) hx hb d_TB_grow_40 (by decide) ?_
        exact ih (d + 1) (fsJoin sd st be wa pl t z9) (by omega) (by omega) (by rw [gwL, ← hz]; exact (gstep_eq hpr hp2 ht).symm) hG9 (fun j hj => by
          rcases Nat.lt_succ_iff_lt_or_eq.mp hj with h | rfl
          · exact hall j h
          · rw [← hz]; exact c_29) _ _ _ (hP.sub [0, 1, 2, 3, 4, 5, 6, 7, 8, 9] rfl) (hD.sub [0, 1, 2, 3, 4, 5, 6, 7, 8, 9] (by decide) rfl) hS (lv_sub hl [1, 2, 0] rfl)
set_option maxHeartbeats 4000000 in
set_option maxRecDepth 100000 in
/-- grow -/
theorem k_TB_grow (l : Launch) (hfl : l.stackTraces = false) (D : va_G) (cI cJ : ClassId) (x0 : Nat) (c0 : Nat) (e0 : Nat) (f0 : Nat) (f1 : Nat) (f2 : Nat) (f3 : Nat) (f4 : Nat) (o1 : Nat) (np : Int32) (ns : Int32) (aw : Int32) (s1 : Nat) (s2 : Nat) (s3 : Nat) (ty : Int32) (wa : Int32) (st : Nat → Int32) (sd : Nat → Int32) (be : Nat → Int64) (ce : Nat → Int32) (oq : Nat → Int64) (rp : Nat → Int32) (tl : Nat → Int32) (x : Int32) (sz : Nat) (hsd : okSd sd) (hst : okSt st) (G : FS → Prop) (hG0 : okG sd st be wa G) (hGz : G (ce, oq, rp, tl, np, ns, aw)) : vx_Met l y_TB_grow ws_TB_grow ({ frames := 7, cells := 1, slots := 6, locals := 148 } : Room) (va_Pc [.ref x0, .int x] (Pw D cI cJ [(x0, .inr (0, [.ref o1, .ref f0, .ref c0, .ref e0])), (f0, .inr (2, [.ref o1, .ref f1, .ref f2, .ref f3, .ref f4, .int np, .int ns, .int aw])), (f1, .inl (cI, 1764, .inl ce)), (f2, .inl (cJ, 1764, .inr (.inl oq))), (f3, .inl (cI, 42, .inl rp)), (f4, .inl (cI, 61, .inl tl)), (o1, .inr (1, [.ref s1, .ref s2, .ref s3, .int ty, .int wa])), (s1, .inl (cI, 100, .inl st)), (s2, .inl (cI, 244, .inl sd)), (s3, .inl (cJ, 400, .inr (.inl be)))] sz)) (va_Qi (fun (r : Int32) (u9 : FS) => ∃ d, d ≤ min (nn x) 1764 ∧ r = nI d ∧ u9 = gwL sd st be wa (ce, oq, rp, tl, np, ns, aw) d ∧ (∀ j, j < d → ¬ (gwL sd st be wa (ce, oq, rp, tl, np, ns, aw) j).2.2.2.2.1 ≤ 0) ∧ (d = min (nn x) 1764 ∨ u9.2.2.2.2.1 ≤ 0)) (fun u9 t9 => Bw D (va_A [(x0, .inr (0, [.ref o1, .ref f0, .ref c0, .ref e0])), (f0, .inr (2, [.ref o1, .ref f1, .ref f2, .ref f3, .ref f4, .int np, .int ns, .int aw])), (f1, .inl (cI, 1764, .inl ce)), (f2, .inl (cJ, 1764, .inr (.inl oq))), (f3, .inl (cI, 42, .inl rp)), (f4, .inl (cI, 61, .inl tl)), (o1, .inr (1, [.ref s1, .ref s2, .ref s3, .int ty, .int wa])), (s1, .inl (cI, 100, .inl st)), (s2, .inl (cI, 244, .inl sd)), (s3, .inl (cJ, 400, .inr (.inl be)))] sz) [(x0, .inr (0, [.ref o1, .ref f0, .ref c0, .ref e0])), (f0, .inr (2, [.ref o1, .ref f1, .ref f2, .ref f3, .ref f4, .int u9.2.2.2.2.1, .int u9.2.2.2.2.2.1, .int u9.2.2.2.2.2.2])), (f1, .inl (cI, 1764, .inl u9.1)), (f2, .inl (cJ, 1764, .inr (.inl u9.2.1))), (f3, .inl (cI, 42, .inl u9.2.2.1)), (f4, .inl (cI, 61, .inl u9.2.2.2.1)), (o1, .inr (1, [.ref s1, .ref s2, .ref s3, .int ty, .int wa])), (s1, .inl (cI, 100, .inl st)), (s2, .inl (cI, 244, .inl sd)), (s3, .inl (cJ, 400, .inr (.inl be)))] t9) (va_A [(x0, .inr (0, [.ref o1, .ref f0, .ref c0, .ref e0])), (f0, .inr (2, [.ref o1, .ref f1, .ref f2, .ref f3, .ref f4, .int np, .int ns, .int aw])), (f1, .inl (cI, 1764, .inl ce)), (f2, .inl (cJ, 1764, .inr (.inl oq))), (f3, .inl (cI, 42, .inl rp)), (f4, .inl (cI, 61, .inl tl)), (o1, .inr (1, [.ref s1, .ref s2, .ref s3, .int ty, .int wa])), (s1, .inl (cI, 100, .inl st)), (s2, .inl (cI, 244, .inl sd)), (s3, .inl (cJ, 400, .inr (.inl be)))] sz)) (nd_X (fun E => E = "java/lang/IllegalArgumentException" ∧ (x < nI 0 ∨ ¬ x ≤ nI 2147483647))) 1 6 (va_A [(x0, .inr (0, [.ref o1, .ref f0, .ref c0, .ref e0])), (f0, .inr (2, [.ref o1, .ref f1, .ref f2, .ref f3, .ref f4, .int np, .int ns, .int aw])), (f1, .inl (cI, 1764, .inl ce)), (f2, .inl (cJ, 1764, .inr (.inl oq))), (f3, .inl (cI, 42, .inl rp)), (f4, .inl (cI, 61, .inl tl)), (o1, .inr (1, [.ref s1, .ref s2, .ref s3, .int ty, .int wa])), (s1, .inl (cI, 100, .inl st)), (s2, .inl (cI, 244, .inl sd)), (s3, .inl (cJ, 400, .inr (.inl be)))] sz) := by
  refine vx_ofW (cc := c_TB_grow) (maxL := 4) (ret := (some .int)) (by decide) rfl ?_
  intro p e s m args below meth c s₁ B hml hno hv
  obtain ⟨rfl, hsz, hE, hP, hD0, hX⟩ := hv
  have hx := B.exec
  have hb := B.bytes
  have hr := B.returns
  have hw : ∀ w ∈ gw, w.before _ s = true := fun w h => atoms_spec (ws := ws_TB_grow) B.pre w (List.mem_cons_of_mem _ h)
  have hown : s.vm.findClass R_TB = some m.cls := findClass_of_methodNamed B.named
  have hlocks := B.notSynchronized
  subst hsz
  have hD := hD0.self (sz := s.heap.size)
  generalize hAe : va_A [(x0, .inr (0, [.ref o1, .ref f0, .ref c0, .ref e0])), (f0, .inr (2, [.ref o1, .ref f1, .ref f2, .ref f3, .ref f4, .int np, .int ns, .int aw])), (f1, .inl (cI, 1764, .inl ce)), (f2, .inl (cJ, 1764, .inr (.inl oq))), (f3, .inl (cI, 42, .inl rp)), (f4, .inl (cI, 61, .inl tl)), (o1, .inr (1, [.ref s1, .ref s2, .ref s3, .int ty, .int wa])), (s1, .inl (cI, 100, .inl st)), (s2, .inl (cI, 244, .inl sd)), (s3, .inl (cJ, 400, .inr (.inl be)))] s.heap.size = A at hD hX ⊢
  have hA : ∀ q : Nat, s.heap.size ≤ q → A q := fun q h => by rw [← hAe]; exact Or.inr h
  have hS : va_S A s.heap s.heap [] := va_S.rf
  have hP : va_P D vwCl [(x0, .inr (0, [.ref o1, .ref f0, .ref c0, .ref e0])), (f0, .inr (2, [.ref o1, .ref f1, .ref f2, .ref f3, .ref f4, .int np, .int ns, .int aw])), (f1, .inl (cI, 1764, .inl ce)), (f2, .inl (cJ, 1764, .inr (.inl oq))), (f3, .inl (cI, 42, .inl rp)), (f4, .inl (cI, 61, .inl tl)), (o1, .inr (1, [.ref s1, .ref s2, .ref s3, .int ty, .int wa])), (s1, .inl (cI, 100, .inl st)), (s2, .inl (cI, 244, .inl sd)), (s3, .inl (cJ, 400, .inr (.inl be)))] s.heap := hP
  have hl := lv_entry ([.ref x0, .int x]) (n := 4) (Nat.le_of_ble_eq_true rfl)
  rw [lg_entry_eq]
  generalize (lg_sl ([.ref x0, .int x]) ++ List.replicate (4 - (lg_sl ([.ref x0, .int x])).length) Slot.unset).toArray = ls at hl ⊢
  have hl : lv_has ls 4 [(0, .ref x0), (1, .int x)] := hl
  refine lv_iload_n hx hb d_TB_grow_0 rfl (lv_at hl 1 rfl) ?_
  refine lv_iconst (v := nI 0) hx hb d_TB_grow_1 (by decide +kernel) ?_
  refine lv_ldc (v := 2147483647) hx hb hown (hw _ kw_512) d_TB_grow_2 ?_
  refine W.eq (g2 := F0 m 4 ls (.int (nI 2147483647) :: [.int (nI 0), .int x])) (by rw [show (2147483647 : Int32) = nI 2147483647 from by decide +kernel]) ?_
  refine nd_call (vx_runS (As := [.int x, .int (nI 0), .int (nI 2147483647)]) (rest := []) ⟨hx, hb, hml, hown, hw⟩ (k_TB_needWithin l hfl D cI cJ x (nI 0) (nI 2147483647)) (va_cwS 3 hw (gS kw_313 kw_314 kw_40 kw_315) rfl rfl rfl (by decide +kernel) ⟨Nat.le_of_ble_eq_true rfl, Nat.le_of_ble_eq_true rfl⟩) (pre_Sp (wc := []) hE hX hP hS [] rfl) rfl rfl hl.1 rfl (lv_room (Nat.le_of_ble_eq_true rfl)) d_TB_grow_4 ⟨Nat.le_of_ble_eq_true rfl, Nat.le_of_ble_eq_true rfl⟩) (fun E ce q9 H1 hex hc1 hc2 hc3 hc5 hc6 => ?_) (fun h_4 => ?_)
  · skip
    exact vx_out (fun x hx => (hno x hx).elim) hlocks hc1 hc2 hc3 (fun t9 ht hal => ⟨hex, by rw [ht]; exact hc5, fun q hq => by rw [ht]; exact hc6 q hq⟩) (fun q h => by cases h) (Nat.le_of_ble_eq_true rfl) (Nat.le_of_ble_eq_true rfl)
  obtain ⟨k9, hk1, hk2, rfl⟩ := within_nat h_4.1 h_4.2 (by decide) (by decide)
  refine lv_iload_n hx hb d_TB_grow_7 rfl (lv_at hl 1 rfl) ?_
  refine lv_sipush (v := nI 1764) hx hb d_TB_grow_8 (by decide +kernel) ?_
  refine va_mmin hx hb (by rw [hml]; exact hl.1.symm) hown (hw _ kw_513) (hw _ kw_514) (hw _ kw_55) (hw _ kw_515) (Nat.le_of_ble_eq_true rfl) (Nat.le_of_ble_eq_true rfl) (Nat.le_of_ble_eq_true rfl) (Nat.le_of_ble_eq_true rfl) d_TB_grow_11 ?_
  refine W.eq (g2 := F0 m 14 ls (.int (nI (min k9 1764)) :: [])) (by rw [jn_min (by omega) (by omega)]) ?_
  refine lv_istore_n (lv' := [(2, .int (nI (min k9 1764))), (0, .ref x0), (1, .int (nI k9))]) hx hb d_TB_grow_14 rfl hl (by decide) rfl (fun ls hl => ?_)
  refine lv_iconst (v := nI 0) hx hb d_TB_grow_15 (by decide +kernel) ?_
  refine lv_istore_n (lv' := [(3, .int (nI 0)), (2, .int (nI (min k9 1764))), (0, .ref x0), (1, .int (nI k9))]) hx hb d_TB_grow_16 rfl hl (by decide) rfl (fun ls hl => ?_)
  refine lp_k_TB_grow_17 x0 c0 e0 f0 f1 f2 f3 f4 o1 np ns aw s1 s2 s3 ty wa st sd be ce oq rp tl (nI k9) hsd hst G hG0 hGz (min k9 1764) (Nat.min_le_right _ _) hx hb hml hown hw hE hX hA (fun d z9 hd hz hall hend H locs ls hP hD hS hl => ?_) (((min k9 1764) - 0) + 1) 0 (ce, oq, rp, tl, np, ns, aw) (Nat.lt_succ_self _) (Nat.zero_le _) rfl hGz (fun j hj => absurd hj (Nat.not_lt_zero j)) _ _ _ (hP.sub [0, 1, 2, 3, 4, 5, 6, 7, 8, 9] rfl) (hD.sub [0, 1, 2, 3, 4, 5, 6, 7, 8, 9] (by decide) rfl) hS (lv_sub hl [2, 1, 0] rfl)
  refine lv_iload_n hx hb d_TB_grow_43 rfl (lv_at hl 0 rfl) ?_
  have hP9 := hP.sub (ws' := [(x0, .inr (0, [.ref o1, .ref f0, .ref c0, .ref e0])), (f0, .inr (2, [.ref o1, .ref f1, .ref f2, .ref f3, .ref f4, .int z9.2.2.2.2.1, .int z9.2.2.2.2.2.1, .int z9.2.2.2.2.2.2])), (f1, .inl (cI, 1764, .inl z9.1)), (f2, .inl (cJ, 1764, .inr (.inl z9.2.1))), (f3, .inl (cI, 42, .inl z9.2.2.1)), (f4, .inl (cI, 61, .inl z9.2.2.2.1)), (o1, .inr (1, [.ref s1, .ref s2, .ref s3, .int ty, .int wa])), (s1, .inl (cI, 100, .inl st)), (s2, .inl (cI, 244, .inl sd)), (s3, .inl (cJ, 400, .inr (.inl be)))]) [0, 1, 2, 3, 4, 5, 6, 7, 8, 9] rfl
  have hD9 := hD.sub (ws' := [(x0, .inr (0, [.ref o1, .ref f0, .ref c0, .ref e0])), (f0, .inr (2, [.ref o1, .ref f1, .ref f2, .ref f3, .ref f4, .int z9.2.2.2.2.1, .int z9.2.2.2.2.2.1, .int z9.2.2.2.2.2.2])), (f1, .inl (cI, 1764, .inl z9.1)), (f2, .inl (cJ, 1764, .inr (.inl z9.2.1))), (f3, .inl (cI, 42, .inl z9.2.2.1)), (f4, .inl (cI, 61, .inl z9.2.2.2.1)), (o1, .inr (1, [.ref s1, .ref s2, .ref s3, .int ty, .int wa])), (s1, .inl (cI, 100, .inl st)), (s2, .inl (cI, 244, .inl sd)), (s3, .inl (cJ, 400, .inr (.inl be)))]) [0, 1, 2, 3, 4, 5, 6, 7, 8, 9] (by decide) rfl
  refine vx_ret ?_
  exact W.iret (v := nI d) hx hb hr (fun t9 ht hW => ⟨⟨_, z9, rfl, ⟨d, by rw [nn_nI (show k9 < 2 ^ 31 by omega)]; exact hd, rfl, hz, hall, by rw [nn_nI (show k9 < 2 ^ 31 by omega)]; exact hend⟩, ⟨by rw [ht]; exact hP9, hD9⟩⟩, hS.F ht⟩) hS.2.2 d_TB_grow_44
set_option maxHeartbeats 4000000 in
set_option maxRecDepth 100000 in
theorem lp_k_TB_drawn_21 {p : Program} {l : Launch} {e : Env} {s : State} {m : MethodId} {args : Array Value} {below : List Frame} {meth : Method} {c : Code} {D : va_G} {cI cJ : ClassId} {Q : State → Prop} {A : Nat → Prop} (x0 : Nat) (c0 : Nat) (e0 : Nat) (f0 : Nat) (f1 : Nat) (f2 : Nat) (f3 : Nat) (f4 : Nat) (o1 : Nat) (np : Int32) (ns : Int32) (aw : Int32) (s1 : Nat) (s2 : Nat) (s3 : Nat) (ty : Int32) (wa : Int32) (st : Nat → Int32) (sd : Nat → Int32) (be : Nat → Int64) (ce : Nat → Int32) (oq : Nat → Int64) (rp : Nat → Int32) (tl : Nat → Int32) (x : Int32) (y : Int32) (hsd : okSd sd) (hst : okSt st) (G : FS → Prop) (hG0 : okG sd st be wa G) (hGz : G (ce, oq, rp, tl, np, ns, aw)) (mo : Nat) (hmo : mo ≤ 1764) (hx : p.tables.exec = Jvm.exec) (hb : c.code = c_TB_drawn) (hml : c.maxLocals = 6) (hown : s.vm.findClass R_TB = some m.cls) (hw : ∀ w ∈ gw, w.before args s = true) (hE : En D cI cJ s) (hX : Sx A s s.heap) (hA : ∀ q : Nat, s.heap.size ≤ q → A q)
    (kx0 : ∀ (d : Nat) (z9 : FS) (w9 : Int32), (d ≤ mo) → ((z9, w9) = dwL sd st be wa (ce, oq, rp, tl, np, ns, aw) y d) → (∀ j, j < d → ¬ (dwL sd st be wa (ce, oq, rp, tl, np, ns, aw) y j).1.2.2.2.2.1 ≤ 0) → (d = mo ∨ z9.2.2.2.2.1 ≤ 0) → ∀ (H : Heap) (locs : List Loc) (ls : Array Slot), va_P D vwCl [(x0, .inr (0, [.ref o1, .ref f0, .ref c0, .ref e0])), (f0, .inr (2, [.ref o1, .ref f1, .ref f2, .ref f3, .ref f4, .int z9.2.2.2.2.1, .int z9.2.2.2.2.2.1, .int z9.2.2.2.2.2.2])), (f1, .inl (cI, 1764, .inl z9.1)), (f2, .inl (cJ, 1764, .inr (.inl z9.2.1))), (f3, .inl (cI, 42, .inl z9.2.2.1)), (f4, .inl (cI, 61, .inl z9.2.2.2.1)), (o1, .inr (1, [.ref s1, .ref s2, .ref s3, .int ty, .int wa])), (s1, .inl (cI, 100, .inl st)), (s2, .inl (cI, 244, .inl sd)), (s3, .inl (cJ, 400, .inr (.inl be)))] H → va_D A [(x0, .inr (0, [.ref o1, .ref f0, .ref c0, .ref e0])), (f0, .inr (2, [.ref o1, .ref f1, .ref f2, .ref f3, .ref f4, .int z9.2.2.2.2.1, .int z9.2.2.2.2.2.1, .int z9.2.2.2.2.2.2])), (f1, .inl (cI, 1764, .inl z9.1)), (f2, .inl (cJ, 1764, .inr (.inl z9.2.1))), (f3, .inl (cI, 42, .inl z9.2.2.1)), (f4, .inl (cI, 61, .inl z9.2.2.2.1)), (o1, .inr (1, [.ref s1, .ref s2, .ref s3, .int ty, .int wa])), (s1, .inl (cI, 100, .inl st)), (s2, .inl (cI, 244, .inl sd)), (s3, .inl (cJ, 400, .inr (.inl be)))] → va_S A s.heap H locs → lv_has ls 6 [(4, .int (nI d))] → W p l e ({ frames := 7, cells := 1, slots := 6, locals := 148 } : Room) s m args below meth c H locs 1 6 Q (F0 m 70 ls [])) :
    ∀ (fu : Nat) (d : Nat) (z9 : FS) (w9 : Int32), mo - d < fu → (d ≤ mo) → ((z9, w9) = dwL sd st be wa (ce, oq, rp, tl, np, ns, aw) y d) → (G z9) → (∀ j, j < d → ¬ (dwL sd st be wa (ce, oq, rp, tl, np, ns, aw) y j).1.2.2.2.2.1 ≤ 0) → ∀ (H : Heap) (locs : List Loc) (ls : Array Slot), va_P D vwCl [(x0, .inr (0, [.ref o1, .ref f0, .ref c0, .ref e0])), (f0, .inr (2, [.ref o1, .ref f1, .ref f2, .ref f3, .ref f4, .int z9.2.2.2.2.1, .int z9.2.2.2.2.2.1, .int z9.2.2.2.2.2.2])), (f1, .inl (cI, 1764, .inl z9.1)), (f2, .inl (cJ, 1764, .inr (.inl z9.2.1))), (f3, .inl (cI, 42, .inl z9.2.2.1)), (f4, .inl (cI, 61, .inl z9.2.2.2.1)), (o1, .inr (1, [.ref s1, .ref s2, .ref s3, .int ty, .int wa])), (s1, .inl (cI, 100, .inl st)), (s2, .inl (cI, 244, .inl sd)), (s3, .inl (cJ, 400, .inr (.inl be)))] H → va_D A [(x0, .inr (0, [.ref o1, .ref f0, .ref c0, .ref e0])), (f0, .inr (2, [.ref o1, .ref f1, .ref f2, .ref f3, .ref f4, .int z9.2.2.2.2.1, .int z9.2.2.2.2.2.1, .int z9.2.2.2.2.2.2])), (f1, .inl (cI, 1764, .inl z9.1)), (f2, .inl (cJ, 1764, .inr (.inl z9.2.1))), (f3, .inl (cI, 42, .inl z9.2.2.1)), (f4, .inl (cI, 61, .inl z9.2.2.2.1)), (o1, .inr (1, [.ref s1, .ref s2, .ref s3, .int ty, .int wa])), (s1, .inl (cI, 100, .inl st)), (s2, .inl (cI, 244, .inl sd)), (s3, .inl (cJ, 400, .inr (.inl be)))] → va_S A s.heap H locs → lv_has ls 6 [(0, .ref x0), (3, .int (nI mo)), (4, .int (nI d)), (5, .int w9)] → W p l e ({ frames := 7, cells := 1, slots := 6, locals := 148 } : Room) s m args below meth c H locs 1 6 Q (F0 m 21 ls []) := by
  intro fu
  induction fu with
  | zero =>
    intro d z9 w9 h0
    exact absurd h0 (Nat.not_lt_zero _)
  | succ fu ih =>
    intro d z9 w9 hmu hd hz hG hall H locs ls hP hD hS hl
    refine lv_iload hx hb d_TB_drawn_21 (lv_at hl 2 rfl) ?_
    refine lv_iload_n hx hb d_TB_drawn_23 rfl (lv_at hl 1 rfl) ?_
    refine jn_icmp_ge (tgt := 70) (a := d) (b := mo) hx hb d_TB_drawn_24 (by decide) (by omega) (by omega) (fun c_24 => ?_) (fun c_24 => ?_)
    · skip
      exact kx0 d z9 w9 hd hz hall (Or.inl (by omega)) _ _ _ (hP.sub [0, 1, 2, 3, 4, 5, 6, 7, 8, 9] rfl) (hD.sub [0, 1, 2, 3, 4, 5, 6, 7, 8, 9] (by decide) rfl) hS (lv_sub hl [2] rfl)
    · skip
      refine lv_aload_n hx hb d_TB_drawn_27 rfl (lv_at hl 0 rfl) ?_
      refine va_get (D := D) (ci := 0) (v := .ref f0) (C := R_TB) (T := T_TB) (N := 4) hx hb hw in_TB hown hE.1 hP 0 rfl rfl 1 (by decide) (hw _ kw_183) (fun _ h9 => h9) rfl d_TB_drawn_28 ?_
      refine vp_callSi (va_Run.run (va_runV (As := []) (rest := []) ⟨hx, hb, hml, hown, hw⟩ (k_FD_pairs l D cI cJ f0 f1 f2 f3 f4 o1 z9.2.2.2.2.1 z9.2.2.2.2.2.1 z9.2.2.2.2.2.2) (cwV 0 hw (gV kw_227 kw_228 kw_229 kw_42 kw_230) rfl rfl rfl (by decide +kernel) ⟨Nat.le_of_ble_eq_true rfl, Nat.le_of_ble_eq_true rfl⟩) (pre_Vp (wc := [(f0, .inr (2, [.ref o1, .ref f1, .ref f2, .ref f3, .ref f4, .int z9.2.2.2.2.1, .int z9.2.2.2.2.2.1, .int z9.2.2.2.2.2.2]))]) (q0 := 0) hE hX hP hS [1] rfl rfl rfl) rfl rfl hl.1 rfl (lv_room (Nat.le_of_ble_eq_true rfl)) d_TB_drawn_31 ⟨Nat.le_of_ble_eq_true rfl, Nat.le_of_ble_eq_true rfl⟩)) (fun r_1 hr_1 => ?_)
      obtain rfl : z9.2.2.2.2.1 = r_1 := hr_1.symm
      refine lv_if_le (tgt := 70) hx hb d_TB_drawn_34 (by decide) (fun c_34 => ?_) (fun c_34 => ?_)
      · skip
        exact kx0 d z9 w9 hd hz hall (Or.inr c_34) _ _ _ (hP.sub [0, 1, 2, 3, 4, 5, 6, 7, 8, 9] rfl) (hD.sub [0, 1, 2, 3, 4, 5, 6, 7, 8, 9] (by decide) rfl) hS (lv_sub hl [2] rfl)
      · skip
        obtain ⟨pl, t, hpr, hp1, hp2, hp3, ht, hG9⟩ := hG0.2 z9 (dwI (dwN w9) z9.2.2.2.2.1) hG (dwI_in _ c_34).1 (dwI_in _ c_34).2
        refine lv_ldc (v := 1664525) hx hb hown (hw _ kw_549) d_TB_drawn_37 ?_
        refine W.eq (g2 := F0 m 39 ls (.int (nI 1664525) :: [])) (by rw [show (1664525 : Int32) = nI 1664525 from by decide +kernel]) ?_
        refine lv_iload hx hb d_TB_drawn_39 (lv_at hl 3 rfl) ?_
        refine lv_imul hx hb d_TB_drawn_41 ?_
        refine lv_ldc (v := 1013904223) hx hb hown (hw _ kw_550) d_TB_drawn_42 ?_
        refine W.eq (g2 := F0 m 44 ls (.int (nI 1013904223) :: [.int ((nI 1664525) * w9)])) (by rw [show (1013904223 : Int32) = nI 1013904223 from by decide +kernel]) ?_
        refine lv_iadd hx hb d_TB_drawn_44 ?_
        refine lv_istore (lv' := [(5, .int (((nI 1664525) * w9) + (nI 1013904223))), (0, .ref x0), (3, .int (nI mo)), (4, .int (nI d))]) hx hb d_TB_drawn_45 hl (by decide) rfl (fun ls hl => ?_)
        refine lv_aload_n hx hb d_TB_drawn_47 rfl (lv_at hl 1 rfl) ?_
        refine lv_iload hx hb d_TB_drawn_48 (lv_at hl 0 rfl) ?_
        refine lv_bipush (v := nI 8) hx hb d_TB_drawn_50 (by decide +kernel) ?_
        refine lv_iushr (v := ((((nI 1664525) * w9) + (nI 1013904223)).toUInt32 >>> ((nI 8).toUInt32 &&& Int32.toUInt32 31)).toInt32) hx hb d_TB_drawn_52 rfl ?_
        refine lv_aload_n hx hb d_TB_drawn_53 rfl (lv_at hl 1 rfl) ?_
        refine va_get (D := D) (ci := 0) (v := .ref f0) (C := R_TB) (T := T_TB) (N := 4) hx hb hw in_TB hown hE.1 hP 0 rfl rfl 1 (by decide) (hw _ kw_183) (fun _ h9 => h9) rfl d_TB_drawn_54 ?_
        refine vp_callSi (va_Run.run (va_runV (As := []) (rest := [.int (((((nI 1664525) * w9) + (nI 1013904223)).toUInt32 >>> ((nI 8).toUInt32 &&& Int32.toUInt32 31)).toInt32), .ref x0]) ⟨hx, hb, hml, hown, hw⟩ (k_FD_pairs l D cI cJ f0 f1 f2 f3 f4 o1 z9.2.2.2.2.1 z9.2.2.2.2.2.1 z9.2.2.2.2.2.2) (cwV 0 hw (gV kw_227 kw_228 kw_229 kw_42 kw_230) rfl rfl rfl (by decide +kernel) ⟨Nat.le_of_ble_eq_true rfl, Nat.le_of_ble_eq_true rfl⟩) (pre_Vp (wc := [(f0, .inr (2, [.ref o1, .ref f1, .ref f2, .ref f3, .ref f4, .int z9.2.2.2.2.1, .int z9.2.2.2.2.2.1, .int z9.2.2.2.2.2.2]))]) (q0 := 0) hE hX hP hS [1] rfl rfl rfl) rfl rfl hl.1 rfl (lv_room (Nat.le_of_ble_eq_true rfl)) d_TB_drawn_57 ⟨Nat.le_of_ble_eq_true rfl, Nat.le_of_ble_eq_true rfl⟩)) (fun r_2 hr_2 => ?_)
        obtain rfl : z9.2.2.2.2.1 = r_2 := hr_2.symm
        refine lv_irem hx hb d_TB_drawn_60 (fun q => c_34 (by rw [q]; decide)) ?_
        refine cl_v (wr := []) (va_runV (As := [.int ((((((nI 1664525) * w9) + (nI 1013904223)).toUInt32 >>> ((nI 8).toUInt32 &&& Int32.toUInt32 31)).toInt32) - (((((nI 1664525) * w9) + (nI 1013904223)).toUInt32 >>> ((nI 8).toUInt32 &&& Int32.toUInt32 31)).toInt32) / z9.2.2.2.2.1 * z9.2.2.2.2.1)]) (rest := []) ⟨hx, hb, hml, hown, hw⟩ (k_TB_joinPair l D cI cJ x0 c0 e0 f0 f1 f2 f3 f4 o1 z9.2.2.2.2.1 z9.2.2.2.2.2.1 z9.2.2.2.2.2.2 s1 s2 s3 ty wa st sd be z9.1 z9.2.1 z9.2.2.1 pl z9.2.2.2.1 t ((((((nI 1664525) * w9) + (nI 1013904223)).toUInt32 >>> ((nI 8).toUInt32 &&& Int32.toUInt32 31)).toInt32) - (((((nI 1664525) * w9) + (nI 1013904223)).toUInt32 >>> ((nI 8).toUInt32 &&& Int32.toUInt32 31)).toInt32) / z9.2.2.2.2.1 * z9.2.2.2.2.1) _ hp1 hp2 (hG0.1 z9 hG) hsd hst ht hpr) (cwV 1 hw (gV kw_516 kw_518 kw_7 kw_40 kw_519) rfl rfl rfl (by decide +kernel) ⟨Nat.le_of_ble_eq_true rfl, Nat.le_of_ble_eq_true rfl⟩) (pre_Vw (wc := [(x0, .inr (0, [.ref o1, .ref f0, .ref c0, .ref e0])), (f0, .inr (2, [.ref o1, .ref f1, .ref f2, .ref f3, .ref f4, .int z9.2.2.2.2.1, .int z9.2.2.2.2.2.1, .int z9.2.2.2.2.2.2])), (f1, .inl (cI, 1764, .inl z9.1)), (f2, .inl (cJ, 1764, .inr (.inl z9.2.1))), (f3, .inl (cI, 42, .inl z9.2.2.1)), (f4, .inl (cI, 61, .inl z9.2.2.2.1)), (o1, .inr (1, [.ref s1, .ref s2, .ref s3, .int ty, .int wa])), (s1, .inl (cI, 100, .inl st)), (s2, .inl (cI, 244, .inl sd)), (s3, .inl (cJ, 400, .inr (.inl be)))]) (q0 := 0) hE hX hA hP hD hS [0, 1, 2, 3, 4, 5, 6, 7, 8, 9] (by decide) rfl rfl rfl rfl) rfl rfl hl.1 rfl (lv_room (Nat.le_of_ble_eq_true rfl)) d_TB_drawn_61 ⟨Nat.le_of_ble_eq_true rfl, Nat.le_of_ble_eq_true rfl⟩) hP hD hS hA [0, 1, 2, 3, 4, 5, 6, 7, 8, 9] [] rfl rfl (by decide) (by decide) (fun u_r_3 H locs hr_3 hP hD hS => ?_)
        have hP : va_P D vwCl [(x0, .inr (0, [.ref o1, .ref f0, .ref c0, .ref e0])), (f0, .inr (2, [.ref o1, .ref f1, .ref f2, .ref f3, .ref f4, .int ((raL (upd z9.1 pl (nI t ||| ((ifL z9.1 sd st pl t 4) <<< (nI 6 &&& 31)))) sd st be wa pl (z9.2.1, z9.2.2.1, z9.2.2.2.2.1) 5).2.2), .int (nsP z9.2.2.2.2.2.1 (nI t ||| ((ifL z9.1 sd st pl t 4) <<< (nI 6 &&& 31)))), .int (nI 1)])), (f1, .inl (cI, 1764, .inl (upd z9.1 pl (nI t ||| ((ifL z9.1 sd st pl t 4) <<< (nI 6 &&& 31)))))), (f2, .inl (cJ, 1764, .inr (.inl ((raL (upd z9.1 pl (nI t ||| ((ifL z9.1 sd st pl t 4) <<< (nI 6 &&& 31)))) sd st be wa pl (z9.2.1, z9.2.2.1, z9.2.2.2.2.1) 5).1)))), (f3, .inl (cI, 42, .inl ((raL (upd z9.1 pl (nI t ||| ((ifL z9.1 sd st pl t 4) <<< (nI 6 &&& 31)))) sd st be wa pl (z9.2.1, z9.2.2.1, z9.2.2.2.2.1) 5).2.1))), (f4, .inl (cI, 61, .inl (tlP z9.2.2.2.1 (nI t ||| ((ifL z9.1 sd st pl t 4) <<< (nI 6 &&& 31)))))), (o1, .inr (1, [.ref s1, .ref s2, .ref s3, .int ty, .int wa])), (s1, .inl (cI, 100, .inl st)), (s2, .inl (cI, 244, .inl sd)), (s3, .inl (cJ, 400, .inr (.inl be)))] H := hP
        have hD : va_D A [(x0, .inr (0, [.ref o1, .ref f0, .ref c0, .ref e0])), (f0, .inr (2, [.ref o1, .ref f1, .ref f2, .ref f3, .ref f4, .int ((raL (upd z9.1 pl (nI t ||| ((ifL z9.1 sd st pl t 4) <<< (nI 6 &&& 31)))) sd st be wa pl (z9.2.1, z9.2.2.1, z9.2.2.2.2.1) 5).2.2), .int (nsP z9.2.2.2.2.2.1 (nI t ||| ((ifL z9.1 sd st pl t 4) <<< (nI 6 &&& 31)))), .int (nI 1)])), (f1, .inl (cI, 1764, .inl (upd z9.1 pl (nI t ||| ((ifL z9.1 sd st pl t 4) <<< (nI 6 &&& 31)))))), (f2, .inl (cJ, 1764, .inr (.inl ((raL (upd z9.1 pl (nI t ||| ((ifL z9.1 sd st pl t 4) <<< (nI 6 &&& 31)))) sd st be wa pl (z9.2.1, z9.2.2.1, z9.2.2.2.2.1) 5).1)))), (f3, .inl (cI, 42, .inl ((raL (upd z9.1 pl (nI t ||| ((ifL z9.1 sd st pl t 4) <<< (nI 6 &&& 31)))) sd st be wa pl (z9.2.1, z9.2.2.1, z9.2.2.2.2.1) 5).2.1))), (f4, .inl (cI, 61, .inl (tlP z9.2.2.2.1 (nI t ||| ((ifL z9.1 sd st pl t 4) <<< (nI 6 &&& 31)))))), (o1, .inr (1, [.ref s1, .ref s2, .ref s3, .int ty, .int wa])), (s1, .inl (cI, 100, .inl st)), (s2, .inl (cI, 244, .inl sd)), (s3, .inl (cJ, 400, .inr (.inl be)))] := hD
        refine lv_iinc (v := nI (d + 1)) (lv' := [(4, .int (nI (d + 1))), (5, .int (((nI 1664525) * w9) + (nI 1013904223))), (0, .ref x0), (3, .int (nI mo))]) hx hb d_TB_drawn_64 hl (k := 3) rfl (jn_inc d 1) (by decide) rfl (fun ls hl => ?_)
        refine lv_goto (tgt := 21) hx hb d_TB_drawn_67 (by decide) ?_
        exact ih (d + 1) (fsJoin sd st be wa pl t z9) (dwN w9) (by omega) (by omega) (by rw [dwL, ← hz]; dsimp only; rw [gstep_eq hpr hp2 ht]) hG9 (fun j hj => by
          rcases Nat.lt_succ_iff_lt_or_eq.mp hj with h | rfl
          · exact hall j h
          · rw [← hz]; exact c_34) _ _ _ (hP.sub [0, 1, 2, 3, 4, 5, 6, 7, 8, 9] rfl) (hD.sub [0, 1, 2, 3, 4, 5, 6, 7, 8, 9] (by decide) rfl) hS (lv_sub hl [2, 3, 0, 1] rfl)
set_option maxHeartbeats 4000000 in
set_option maxRecDepth 100000 in
/-- drawn -/
theorem k_TB_drawn (l : Launch) (hfl : l.stackTraces = false) (D : va_G) (cI cJ : ClassId) (x0 : Nat) (c0 : Nat) (e0 : Nat) (f0 : Nat) (f1 : Nat) (f2 : Nat) (f3 : Nat) (f4 : Nat) (o1 : Nat) (np : Int32) (ns : Int32) (aw : Int32) (s1 : Nat) (s2 : Nat) (s3 : Nat) (ty : Int32) (wa : Int32) (st : Nat → Int32) (sd : Nat → Int32) (be : Nat → Int64) (ce : Nat → Int32) (oq : Nat → Int64) (rp : Nat → Int32) (tl : Nat → Int32) (x : Int32) (y : Int32) (sz : Nat) (hsd : okSd sd) (hst : okSt st) (G : FS → Prop) (hG0 : okG sd st be wa G) (hGz : G (ce, oq, rp, tl, np, ns, aw)) : vx_Met l y_TB_drawn ws_TB_drawn ({ frames := 7, cells := 1, slots := 6, locals := 148 } : Room) (va_Pc [.ref x0, .int x, .int y] (Pw D cI cJ [(x0, .inr (0, [.ref o1, .ref f0, .ref c0, .ref e0])), (f0, .inr (2, [.ref o1, .ref f1, .ref f2, .ref f3, .ref f4, .int np, .int ns, .int aw])), (f1, .inl (cI, 1764, .inl ce)), (f2, .inl (cJ, 1764, .inr (.inl oq))), (f3, .inl (cI, 42, .inl rp)), (f4, .inl (cI, 61, .inl tl)), (o1, .inr (1, [.ref s1, .ref s2, .ref s3, .int ty, .int wa])), (s1, .inl (cI, 100, .inl st)), (s2, .inl (cI, 244, .inl sd)), (s3, .inl (cJ, 400, .inr (.inl be)))] sz)) (va_Qi (fun (r : Int32) (u9 : FS) => ∃ d, d ≤ min (nn x) 1764 ∧ r = nI d ∧ u9 = (dwL sd st be wa (ce, oq, rp, tl, np, ns, aw) y d).1 ∧ (∀ j, j < d → ¬ (dwL sd st be wa (ce, oq, rp, tl, np, ns, aw) y j).1.2.2.2.2.1 ≤ 0) ∧ (d = min (nn x) 1764 ∨ u9.2.2.2.2.1 ≤ 0)) (fun u9 t9 => Bw D (va_A [(x0, .inr (0, [.ref o1, .ref f0, .ref c0, .ref e0])), (f0, .inr (2, [.ref o1, .ref f1, .ref f2, .ref f3, .ref f4, .int np, .int ns, .int aw])), (f1, .inl (cI, 1764, .inl ce)), (f2, .inl (cJ, 1764, .inr (.inl oq))), (f3, .inl (cI, 42, .inl rp)), (f4, .inl (cI, 61, .inl tl)), (o1, .inr (1, [.ref s1, .ref s2, .ref s3, .int ty, .int wa])), (s1, .inl (cI, 100, .inl st)), (s2, .inl (cI, 244, .inl sd)), (s3, .inl (cJ, 400, .inr (.inl be)))] sz) [(x0, .inr (0, [.ref o1, .ref f0, .ref c0, .ref e0])), (f0, .inr (2, [.ref o1, .ref f1, .ref f2, .ref f3, .ref f4, .int u9.2.2.2.2.1, .int u9.2.2.2.2.2.1, .int u9.2.2.2.2.2.2])), (f1, .inl (cI, 1764, .inl u9.1)), (f2, .inl (cJ, 1764, .inr (.inl u9.2.1))), (f3, .inl (cI, 42, .inl u9.2.2.1)), (f4, .inl (cI, 61, .inl u9.2.2.2.1)), (o1, .inr (1, [.ref s1, .ref s2, .ref s3, .int ty, .int wa])), (s1, .inl (cI, 100, .inl st)), (s2, .inl (cI, 244, .inl sd)), (s3, .inl (cJ, 400, .inr (.inl be)))] t9) (va_A [(x0, .inr (0, [.ref o1, .ref f0, .ref c0, .ref e0])), (f0, .inr (2, [.ref o1, .ref f1, .ref f2, .ref f3, .ref f4, .int np, .int ns, .int aw])), (f1, .inl (cI, 1764, .inl ce)), (f2, .inl (cJ, 1764, .inr (.inl oq))), (f3, .inl (cI, 42, .inl rp)), (f4, .inl (cI, 61, .inl tl)), (o1, .inr (1, [.ref s1, .ref s2, .ref s3, .int ty, .int wa])), (s1, .inl (cI, 100, .inl st)), (s2, .inl (cI, 244, .inl sd)), (s3, .inl (cJ, 400, .inr (.inl be)))] sz)) (nd_X (fun E => E = "java/lang/IllegalArgumentException" ∧ (x < nI 0 ∨ ¬ x ≤ nI 2147483647))) 1 6 (va_A [(x0, .inr (0, [.ref o1, .ref f0, .ref c0, .ref e0])), (f0, .inr (2, [.ref o1, .ref f1, .ref f2, .ref f3, .ref f4, .int np, .int ns, .int aw])), (f1, .inl (cI, 1764, .inl ce)), (f2, .inl (cJ, 1764, .inr (.inl oq))), (f3, .inl (cI, 42, .inl rp)), (f4, .inl (cI, 61, .inl tl)), (o1, .inr (1, [.ref s1, .ref s2, .ref s3, .int ty, .int wa])), (s1, .inl (cI, 100, .inl st)), (s2, .inl (cI, 244, .inl sd)), (s3, .inl (cJ, 400, .inr (.inl be)))] sz) := by
  refine vx_ofW (cc := c_TB_drawn) (maxL := 6) (ret := (some .int)) (by decide) rfl ?_
  intro p e s m args below meth c s₁ B hml hno hv
  obtain ⟨rfl, hsz, hE, hP, hD0, hX⟩ := hv
  have hx := B.exec
  have hb := B.bytes
  have hr := B.returns
  have hw : ∀ w ∈ gw, w.before _ s = true := fun w h => atoms_spec (ws := ws_TB_drawn) B.pre w (List.mem_cons_of_mem _ h)
  have hown : s.vm.findClass R_TB = some m.cls := findClass_of_methodNamed B.named
  have hlocks := B.notSynchronized
  subst hsz
  have hD := hD0.self (sz := s.heap.size)
  generalize hAe : va_A [(x0, .inr (0, [.ref o1, .ref f0, .ref c0, .ref e0])), (f0, .inr (2, [.ref o1, .ref f1, .ref f2, .ref f3, .ref f4, .int np, .int ns, .int aw])), (f1, .inl (cI, 1764, .inl ce)), (f2, .inl (cJ, 1764, .inr (.inl oq))), (f3, .inl (cI, 42, .inl rp)), (f4, .inl (cI, 61, .inl tl)), (o1, .inr (1, [.ref s1, .ref s2, .ref s3, .int ty, .int wa])), (s1, .inl (cI, 100, .inl st)), (s2, .inl (cI, 244, .inl sd)), (s3, .inl (cJ, 400, .inr (.inl be)))] s.heap.size = A at hD hX ⊢
  have hA : ∀ q : Nat, s.heap.size ≤ q → A q := fun q h => by rw [← hAe]; exact Or.inr h
  have hS : va_S A s.heap s.heap [] := va_S.rf
  have hP : va_P D vwCl [(x0, .inr (0, [.ref o1, .ref f0, .ref c0, .ref e0])), (f0, .inr (2, [.ref o1, .ref f1, .ref f2, .ref f3, .ref f4, .int np, .int ns, .int aw])), (f1, .inl (cI, 1764, .inl ce)), (f2, .inl (cJ, 1764, .inr (.inl oq))), (f3, .inl (cI, 42, .inl rp)), (f4, .inl (cI, 61, .inl tl)), (o1, .inr (1, [.ref s1, .ref s2, .ref s3, .int ty, .int wa])), (s1, .inl (cI, 100, .inl st)), (s2, .inl (cI, 244, .inl sd)), (s3, .inl (cJ, 400, .inr (.inl be)))] s.heap := hP
  have hl := lv_entry ([.ref x0, .int x, .int y]) (n := 6) (Nat.le_of_ble_eq_true rfl)
  rw [lg_entry_eq]
  generalize (lg_sl ([.ref x0, .int x, .int y]) ++ List.replicate (6 - (lg_sl ([.ref x0, .int x, .int y])).length) Slot.unset).toArray = ls at hl ⊢
  have hl : lv_has ls 6 [(0, .ref x0), (1, .int x), (2, .int y)] := hl
  refine lv_iload_n hx hb d_TB_drawn_0 rfl (lv_at hl 1 rfl) ?_
  refine lv_iconst (v := nI 0) hx hb d_TB_drawn_1 (by decide +kernel) ?_
  refine lv_ldc (v := 2147483647) hx hb hown (hw _ kw_512) d_TB_drawn_2 ?_
  refine W.eq (g2 := F0 m 4 ls (.int (nI 2147483647) :: [.int (nI 0), .int x])) (by rw [show (2147483647 : Int32) = nI 2147483647 from by decide +kernel]) ?_
  refine nd_call (vx_runS (As := [.int x, .int (nI 0), .int (nI 2147483647)]) (rest := []) ⟨hx, hb, hml, hown, hw⟩ (k_TB_needWithin l hfl D cI cJ x (nI 0) (nI 2147483647)) (va_cwS 3 hw (gS kw_313 kw_314 kw_40 kw_315) rfl rfl rfl (by decide +kernel) ⟨Nat.le_of_ble_eq_true rfl, Nat.le_of_ble_eq_true rfl⟩) (pre_Sp (wc := []) hE hX hP hS [] rfl) rfl rfl hl.1 rfl (lv_room (Nat.le_of_ble_eq_true rfl)) d_TB_drawn_4 ⟨Nat.le_of_ble_eq_true rfl, Nat.le_of_ble_eq_true rfl⟩) (fun E ce q9 H1 hex hc1 hc2 hc3 hc5 hc6 => ?_) (fun h_4 => ?_)
  · skip
    exact vx_out (fun x hx => (hno x hx).elim) hlocks hc1 hc2 hc3 (fun t9 ht hal => ⟨hex, by rw [ht]; exact hc5, fun q hq => by rw [ht]; exact hc6 q hq⟩) (fun q h => by cases h) (Nat.le_of_ble_eq_true rfl) (Nat.le_of_ble_eq_true rfl)
  obtain ⟨k9, hk1, hk2, rfl⟩ := within_nat h_4.1 h_4.2 (by decide) (by decide)
  refine lv_iload_n hx hb d_TB_drawn_7 rfl (lv_at hl 1 rfl) ?_
  refine lv_sipush (v := nI 1764) hx hb d_TB_drawn_8 (by decide +kernel) ?_
  refine va_mmin hx hb (by rw [hml]; exact hl.1.symm) hown (hw _ kw_513) (hw _ kw_514) (hw _ kw_55) (hw _ kw_515) (Nat.le_of_ble_eq_true rfl) (Nat.le_of_ble_eq_true rfl) (Nat.le_of_ble_eq_true rfl) (Nat.le_of_ble_eq_true rfl) d_TB_drawn_11 ?_
  refine W.eq (g2 := F0 m 14 ls (.int (nI (min k9 1764)) :: [])) (by rw [jn_min (by omega) (by omega)]) ?_
  refine lv_istore_n (lv' := [(3, .int (nI (min k9 1764))), (0, .ref x0), (1, .int (nI k9)), (2, .int y)]) hx hb d_TB_drawn_14 rfl hl (by decide) rfl (fun ls hl => ?_)
  refine lv_iconst (v := nI 0) hx hb d_TB_drawn_15 (by decide +kernel) ?_
  refine lv_istore (lv' := [(4, .int (nI 0)), (3, .int (nI (min k9 1764))), (0, .ref x0), (1, .int (nI k9)), (2, .int y)]) hx hb d_TB_drawn_16 hl (by decide) rfl (fun ls hl => ?_)
  refine lv_iload_n hx hb d_TB_drawn_18 rfl (lv_at hl 4 rfl) ?_
  refine lv_istore (lv' := [(5, .int y), (4, .int (nI 0)), (3, .int (nI (min k9 1764))), (0, .ref x0), (1, .int (nI k9)), (2, .int y)]) hx hb d_TB_drawn_19 hl (by decide) rfl (fun ls hl => ?_)
  refine lp_k_TB_drawn_21 x0 c0 e0 f0 f1 f2 f3 f4 o1 np ns aw s1 s2 s3 ty wa st sd be ce oq rp tl (nI k9) y hsd hst G hG0 hGz (min k9 1764) (Nat.min_le_right _ _) hx hb hml hown hw hE hX hA (fun d z9 w9 hd hz hall hend H locs ls hP hD hS hl => ?_) (((min k9 1764) - 0) + 1) 0 (ce, oq, rp, tl, np, ns, aw) y (Nat.lt_succ_self _) (Nat.zero_le _) rfl hGz (fun j hj => absurd hj (Nat.not_lt_zero j)) _ _ _ (hP.sub [0, 1, 2, 3, 4, 5, 6, 7, 8, 9] rfl) (hD.sub [0, 1, 2, 3, 4, 5, 6, 7, 8, 9] (by decide) rfl) hS (lv_sub hl [3, 2, 1, 0] rfl)
  refine lv_iload hx hb d_TB_drawn_70 (lv_at hl 0 rfl) ?_
  have hP9 := hP.sub (ws' := [(x0, .inr (0, [.ref o1, .ref f0, .ref c0, .ref e0])), (f0, .inr (2, [.ref o1, .ref f1, .ref f2, .ref f3, .ref f4, .int z9.2.2.2.2.1, .int z9.2.2.2.2.2.1, .int z9.2.2.2.2.2.2])), (f1, .inl (cI, 1764, .inl z9.1)), (f2, .inl (cJ, 1764, .inr (.inl z9.2.1))), (f3, .inl (cI, 42, .inl z9.2.2.1)), (f4, .inl (cI, 61, .inl z9.2.2.2.1)), (o1, .inr (1, [.ref s1, .ref s2, .ref s3, .int ty, .int wa])), (s1, .inl (cI, 100, .inl st)), (s2, .inl (cI, 244, .inl sd)), (s3, .inl (cJ, 400, .inr (.inl be)))]) [0, 1, 2, 3, 4, 5, 6, 7, 8, 9] rfl
  have hD9 := hD.sub (ws' := [(x0, .inr (0, [.ref o1, .ref f0, .ref c0, .ref e0])), (f0, .inr (2, [.ref o1, .ref f1, .ref f2, .ref f3, .ref f4, .int z9.2.2.2.2.1, .int z9.2.2.2.2.2.1, .int z9.2.2.2.2.2.2])), (f1, .inl (cI, 1764, .inl z9.1)), (f2, .inl (cJ, 1764, .inr (.inl z9.2.1))), (f3, .inl (cI, 42, .inl z9.2.2.1)), (f4, .inl (cI, 61, .inl z9.2.2.2.1)), (o1, .inr (1, [.ref s1, .ref s2, .ref s3, .int ty, .int wa])), (s1, .inl (cI, 100, .inl st)), (s2, .inl (cI, 244, .inl sd)), (s3, .inl (cJ, 400, .inr (.inl be)))]) [0, 1, 2, 3, 4, 5, 6, 7, 8, 9] (by decide) rfl
  refine vx_ret ?_
  exact W.iret (v := nI d) hx hb hr (fun t9 ht hW => ⟨⟨_, z9, rfl, ⟨d, by rw [nn_nI (show k9 < 2 ^ 31 by omega)]; exact hd, rfl, by rw [← hz], hall, by rw [nn_nI (show k9 < 2 ^ 31 by omega)]; exact hend⟩, ⟨by rw [ht]; exact hP9, hD9⟩⟩, hS.F ht⟩) hS.2.2 d_TB_drawn_72
def okF (oq : Nat → Int64) (rp : Nat → Int32) (np : Int32) : Prop := ∀ i : Int32, ¬ i < 0 → i < np → ∃ p t : Nat, pnV oq rp i = nI (p * 64 + t) ∧ 43 ≤ p ∧ p ≤ 1720 ∧ 1 ≤ p % 42 ∧ t ≤ 60
theorem at_TB_front_15 {D : va_G} {cI cJ : ClassId} {args : Array Value} {s : State} (hw : ∀ w ∈ gw, w.before args s = true) (hE : En D cI cJ s) : ∀ w ∈ vx_atS "TileBench" 143 "java/lang/IndexOutOfBoundsException" ["java/lang/RuntimeException", "java/lang/Exception"], w.before args s = true :=
  vx_hat (B := [.declares ⟨"java/lang/RuntimeException", "<init>", "(Ljava/lang/String;)V"⟩, .declares ⟨"java/lang/Exception", "<init>", "(Ljava/lang/String;)V"⟩, .declares ⟨"java/lang/Throwable", "<init>", "(Ljava/lang/String;)V"⟩, .castable "java/lang/IndexOutOfBoundsException" "java/lang/IndexOutOfBoundsException"]) (fun w h => hw w ((show ∀ w ∈ (vx_atS "TileBench" 143 "java/lang/IndexOutOfBoundsException" ["java/lang/RuntimeException", "java/lang/Exception"]).filter goodWord, w ∈ gw from by decide +kernel) w h)) (by decide +kernel)
    (vx_c (va_Nw.use rfl (hE.2.2.2.2.1 _ (List.mem_of_getElem? (i := 1) rfl))) (vx_c (va_Nw.use rfl (hE.2.2.2.2.1 _ (List.mem_of_getElem? (i := 3) rfl))) (vx_c (va_Nw.use rfl (hE.2.2.2.2.1 _ (List.mem_of_getElem? (i := 5) rfl))) (vx_c (va_Nw.use rfl (hE.2.2.2.2.2.1 _ (List.mem_of_getElem? (i := 3) rfl))) vx_n))))
theorem at_TB_front_15_ot : ∀ w ∈ Cond.classLink "TileBench" 139 "java/lang/IndexOutOfBoundsException" :: Cond.initialized "java/lang/IndexOutOfBoundsException" :: vx_atS "TileBench" 143 "java/lang/IndexOutOfBoundsException" ["java/lang/RuntimeException", "java/lang/Exception"], vx_ot w = true := by decide +kernel
set_option maxHeartbeats 4000000 in
set_option maxRecDepth 100000 in
/-- front -/
theorem k_TB_front (l : Launch) (hfl : l.stackTraces = false) (D : va_G) (cI cJ : ClassId) (x0 : Nat) (c0 : Nat) (e0 : Nat) (f0 : Nat) (f1 : Nat) (f2 : Nat) (f3 : Nat) (f4 : Nat) (o1 : Nat) (np : Int32) (ns : Int32) (aw : Int32) (oq : Nat → Int64) (rp : Nat → Int32) (x : Int32) (y : Int32) (sz : Nat) (hF : okF oq rp np) : vx_Met l y_TB_front ws_TB_front ({ frames := 7, cells := 2, slots := 12, locals := 112 } : Room) (va_Pc [.ref x0, .int x, .int y] (Pw D cI cJ [(x0, .inr (0, [.ref o1, .ref f0, .ref c0, .ref e0])), (f0, .inr (2, [.ref o1, .ref f1, .ref f2, .ref f3, .ref f4, .int np, .int ns, .int aw])), (f2, .inl (cJ, 1764, .inr (.inl oq))), (f3, .inl (cI, 42, .inl rp))] sz)) (va_Qi (fun (r : Int32) (_u : Unit) => r = nI (ptN (nn (pnV oq rp x)) (nn y))) (fun _u t9 => Bw D (va_A [(x0, .inr (0, [.ref o1, .ref f0, .ref c0, .ref e0])), (f0, .inr (2, [.ref o1, .ref f1, .ref f2, .ref f3, .ref f4, .int np, .int ns, .int aw])), (f2, .inl (cJ, 1764, .inr (.inl oq))), (f3, .inl (cI, 42, .inl rp))] sz) [(x0, .inr (0, [.ref o1, .ref f0, .ref c0, .ref e0])), (f0, .inr (2, [.ref o1, .ref f1, .ref f2, .ref f3, .ref f4, .int np, .int ns, .int aw])), (f2, .inl (cJ, 1764, .inr (.inl oq))), (f3, .inl (cI, 42, .inl rp))] t9) (va_A [(x0, .inr (0, [.ref o1, .ref f0, .ref c0, .ref e0])), (f0, .inr (2, [.ref o1, .ref f1, .ref f2, .ref f3, .ref f4, .int np, .int ns, .int aw])), (f2, .inl (cJ, 1764, .inr (.inl oq))), (f3, .inl (cI, 42, .inl rp))] sz)) (nd_X (fun E => (E = "java/lang/IndexOutOfBoundsException" ∧ (x < 0 ∨ ¬ x < np)) ∨ (E = "java/lang/IllegalArgumentException" ∧ (¬ x < 0 ∧ x < np) ∧ (y < nI 0 ∨ ¬ y ≤ nI 2)))) 2 12 (va_A [(x0, .inr (0, [.ref o1, .ref f0, .ref c0, .ref e0])), (f0, .inr (2, [.ref o1, .ref f1, .ref f2, .ref f3, .ref f4, .int np, .int ns, .int aw])), (f2, .inl (cJ, 1764, .inr (.inl oq))), (f3, .inl (cI, 42, .inl rp))] sz) := by
  refine vx_ofW (cc := c_TB_front) (maxL := 3) (ret := (some .int)) (by decide) rfl ?_
  intro p e s m args below meth c s₁ B hml hno hv
  obtain ⟨rfl, hsz, hE, hP, hD0, hX⟩ := hv
  have hx := B.exec
  have hb := B.bytes
  have hr := B.returns
  have hw : ∀ w ∈ gw, w.before _ s = true := fun w h => atoms_spec (ws := ws_TB_front) B.pre w (List.mem_cons_of_mem _ h)
  have hown : s.vm.findClass R_TB = some m.cls := findClass_of_methodNamed B.named
  have hlocks := B.notSynchronized
  subst hsz
  have hD := hD0.self (sz := s.heap.size)
  generalize hAe : va_A [(x0, .inr (0, [.ref o1, .ref f0, .ref c0, .ref e0])), (f0, .inr (2, [.ref o1, .ref f1, .ref f2, .ref f3, .ref f4, .int np, .int ns, .int aw])), (f2, .inl (cJ, 1764, .inr (.inl oq))), (f3, .inl (cI, 42, .inl rp))] s.heap.size = A at hD hX ⊢
  have hA : ∀ q : Nat, s.heap.size ≤ q → A q := fun q h => by rw [← hAe]; exact Or.inr h
  have hS : va_S A s.heap s.heap [] := va_S.rf
  have hP : va_P D vwCl [(x0, .inr (0, [.ref o1, .ref f0, .ref c0, .ref e0])), (f0, .inr (2, [.ref o1, .ref f1, .ref f2, .ref f3, .ref f4, .int np, .int ns, .int aw])), (f2, .inl (cJ, 1764, .inr (.inl oq))), (f3, .inl (cI, 42, .inl rp))] s.heap := hP
  have hl := lv_entry ([.ref x0, .int x, .int y]) (n := 3) (Nat.le_of_ble_eq_true rfl)
  rw [lg_entry_eq]
  generalize (lg_sl ([.ref x0, .int x, .int y]) ++ List.replicate (3 - (lg_sl ([.ref x0, .int x, .int y])).length) Slot.unset).toArray = ls at hl ⊢
  have hl : lv_has ls 3 [(0, .ref x0), (1, .int x), (2, .int y)] := hl
  refine lv_iload_n hx hb d_TB_front_0 rfl (lv_at hl 1 rfl) ?_
  refine lv_if_lt (tgt := 15) hx hb d_TB_front_1 (by decide) (fun c_1 => ?_) (fun c_1 => ?_)
  · skip
    obtain ⟨sa, hstr⟩ := hE.2.2.2.1 _ (List.mem_of_getElem? (i := 6) rfl)
    exact vx_throwS (A := A) hx hb hfl hown (by decide +kernel) (by decide +kernel) (hw _ kw_397) (hw _ kw_52) hstr (at_TB_front_15 hw hE) at_TB_front_15_ot hX.2.1 hX.2.2 hS (by rw [hml]; exact hl.1) d_TB_front_15 d_TB_front_18 d_TB_front_19 d_TB_front_21 d_TB_front_24 (fun x hx => (hno x hx).elim) (Nat.le_of_ble_eq_true rfl) (Nat.le_of_ble_eq_true rfl) (Nat.le_of_ble_eq_true rfl) (Nat.le_of_ble_eq_true rfl) hlocks (fun t9 hal h1 h2 => ⟨(Or.inl ⟨rfl, Or.inl c_1⟩), h1, h2⟩) (fun q h => by cases h) (Nat.le_of_ble_eq_true rfl) (Nat.le_of_ble_eq_true rfl)
  · skip
    refine lv_iload_n hx hb d_TB_front_4 rfl (lv_at hl 1 rfl) ?_
    refine lv_aload_n hx hb d_TB_front_5 rfl (lv_at hl 0 rfl) ?_
    refine va_get (D := D) (ci := 0) (v := .ref f0) (C := R_TB) (T := T_TB) (N := 4) hx hb hw in_TB hown hE.1 hP 0 rfl rfl 1 (by decide) (hw _ kw_183) (fun _ h9 => h9) rfl d_TB_front_6 ?_
    refine vp_callSi (va_Run.run (va_runV (As := []) (rest := [.int x]) ⟨hx, hb, hml, hown, hw⟩ (k_FD_pairs l D cI cJ f0 f1 f2 f3 f4 o1 np ns aw) (cwV 0 hw (gV kw_227 kw_228 kw_229 kw_42 kw_230) rfl rfl rfl (by decide +kernel) ⟨Nat.le_of_ble_eq_true rfl, Nat.le_of_ble_eq_true rfl⟩) (pre_Vp (wc := [(f0, .inr (2, [.ref o1, .ref f1, .ref f2, .ref f3, .ref f4, .int np, .int ns, .int aw]))]) (q0 := 0) hE hX hP hS [1] rfl rfl rfl) rfl rfl hl.1 rfl (lv_room (Nat.le_of_ble_eq_true rfl)) d_TB_front_9 ⟨Nat.le_of_ble_eq_true rfl, Nat.le_of_ble_eq_true rfl⟩)) (fun r_1 hr_1 => ?_)
    obtain rfl : np = r_1 := hr_1.symm
    refine lv_icmp_lt (tgt := 25) hx hb d_TB_front_12 (by decide) (fun c_12 => ?_) (fun c_12 => ?_)
    · skip
      refine lv_iload_n hx hb d_TB_front_25 rfl (lv_at hl 2 rfl) ?_
      refine lv_iconst (v := nI 0) hx hb d_TB_front_26 (by decide +kernel) ?_
      refine lv_iconst (v := nI 2) hx hb d_TB_front_27 (by decide +kernel) ?_
      refine nd_call (vx_runS (As := [.int y, .int (nI 0), .int (nI 2)]) (rest := []) ⟨hx, hb, hml, hown, hw⟩ (k_TB_needWithin l hfl D cI cJ y (nI 0) (nI 2)) (va_cwS 3 hw (gS kw_313 kw_314 kw_40 kw_315) rfl rfl rfl (by decide +kernel) ⟨Nat.le_of_ble_eq_true rfl, Nat.le_of_ble_eq_true rfl⟩) (pre_Sp (wc := []) hE hX hP hS [] rfl) rfl rfl hl.1 rfl (lv_room (Nat.le_of_ble_eq_true rfl)) d_TB_front_28 ⟨Nat.le_of_ble_eq_true rfl, Nat.le_of_ble_eq_true rfl⟩) (fun E ce q9 H1 hex hc1 hc2 hc3 hc5 hc6 => ?_) (fun h_28 => ?_)
      · skip
        exact vx_out (fun x hx => (hno x hx).elim) hlocks hc1 hc2 hc3 (fun t9 ht hal => ⟨(Or.inr ⟨hex.1, ⟨c_1, c_12⟩, hex.2⟩), by rw [ht]; exact hc5, fun q hq => by rw [ht]; exact hc6 q hq⟩) (fun q h => by cases h) (Nat.le_of_ble_eq_true rfl) (Nat.le_of_ble_eq_true rfl)
      obtain ⟨pl, t, hpr, hp1, hp2, hp3, ht⟩ := hF x c_1 c_12
      obtain ⟨k9, hk1, hk2, rfl⟩ := within_nat h_28.1 h_28.2 (by decide) (by decide)
      refine lv_aload_n hx hb d_TB_front_31 rfl (lv_at hl 0 rfl) ?_
      refine va_get (D := D) (ci := 0) (v := .ref f0) (C := R_TB) (T := T_TB) (N := 4) hx hb hw in_TB hown hE.1 hP 0 rfl rfl 1 (by decide) (hw _ kw_183) (fun _ h9 => h9) rfl d_TB_front_32 ?_
      refine lv_iload_n hx hb d_TB_front_35 rfl (lv_at hl 1 rfl) ?_
      refine vp_callSi (va_Run.run (va_runV (As := [.int x]) (rest := []) ⟨hx, hb, hml, hown, hw⟩ (k_FD_pairNumber l D cI cJ f0 f1 f2 f3 f4 o1 np ns aw oq rp x) (cwV 1 hw (gV kw_520 kw_521 kw_522 kw_42 kw_523) rfl rfl rfl (by decide +kernel) ⟨Nat.le_of_ble_eq_true rfl, Nat.le_of_ble_eq_true rfl⟩) (pre_Vp (wc := [(f0, .inr (2, [.ref o1, .ref f1, .ref f2, .ref f3, .ref f4, .int np, .int ns, .int aw])), (f2, .inl (cJ, 1764, .inr (.inl oq))), (f3, .inl (cI, 42, .inl rp))]) (q0 := 0) hE hX hP hS [1, 2, 3] rfl rfl rfl) rfl rfl hl.1 rfl (lv_room (Nat.le_of_ble_eq_true rfl)) d_TB_front_36 ⟨Nat.le_of_ble_eq_true rfl, Nat.le_of_ble_eq_true rfl⟩)) (fun r_3 hr_3 => ?_)
      obtain rfl : pnV oq rp x = r_3 := hr_3.symm
      refine W.eq (g2 := F0 m 39 ls [.int (nI (pl * 64 + t))]) (by rw [hpr]) ?_
      refine lv_iload_n hx hb d_TB_front_39 rfl (lv_at hl 2 rfl) ?_
      refine vp_callSi (va_Run.run (va_runS (As := [.int (nI (pl * 64 + t)), .int (nI k9)]) (rest := []) ⟨hx, hb, hml, hown, hw⟩ (k_TB_partOf l D cI cJ (pl * 64 + t) k9 (by omega) (by omega) (by omega) (by omega)) (va_cwS 2 hw (gS kw_570 kw_571 kw_40 kw_572) rfl rfl rfl (by decide +kernel) ⟨Nat.le_of_ble_eq_true rfl, Nat.le_of_ble_eq_true rfl⟩) (pre_Sp (wc := []) hE hX hP hS [] rfl) rfl rfl hl.1 rfl (lv_room (Nat.le_of_ble_eq_true rfl)) d_TB_front_40 ⟨Nat.le_of_ble_eq_true rfl, Nat.le_of_ble_eq_true rfl⟩)) (fun r_4 hr_4 => ?_)
      obtain rfl : nI (ptN (pl * 64 + t) k9) = r_4 := hr_4.symm
      have hP9 := hP.sub (ws' := [(x0, .inr (0, [.ref o1, .ref f0, .ref c0, .ref e0])), (f0, .inr (2, [.ref o1, .ref f1, .ref f2, .ref f3, .ref f4, .int np, .int ns, .int aw])), (f2, .inl (cJ, 1764, .inr (.inl oq))), (f3, .inl (cI, 42, .inl rp))]) [0, 1, 2, 3] rfl
      have hD9 := hD.sub (ws' := [(x0, .inr (0, [.ref o1, .ref f0, .ref c0, .ref e0])), (f0, .inr (2, [.ref o1, .ref f1, .ref f2, .ref f3, .ref f4, .int np, .int ns, .int aw])), (f2, .inl (cJ, 1764, .inr (.inl oq))), (f3, .inl (cI, 42, .inl rp))]) [0, 1, 2, 3] (by decide) rfl
      refine W.widen (k := 2) (n := 12) (Nat.le_of_ble_eq_true rfl) (Nat.le_of_ble_eq_true rfl) ?_
      refine vx_ret ?_
      exact W.iret (v := nI (ptN (pl * 64 + t) k9)) hx hb hr (fun t9 ht hW => ⟨⟨_, (), rfl, (by rw [hpr, nn_nI (show pl * 64 + t < 2 ^ 31 by omega), nn_nI (show k9 < 2 ^ 31 by omega)]), ⟨by rw [ht]; exact hP9, hD9⟩⟩, hS.F ht⟩) hS.2.2 d_TB_front_43
    · skip
      obtain ⟨sa, hstr⟩ := hE.2.2.2.1 _ (List.mem_of_getElem? (i := 6) rfl)
      exact vx_throwS (A := A) hx hb hfl hown (by decide +kernel) (by decide +kernel) (hw _ kw_397) (hw _ kw_52) hstr (at_TB_front_15 hw hE) at_TB_front_15_ot hX.2.1 hX.2.2 hS (by rw [hml]; exact hl.1) d_TB_front_15 d_TB_front_18 d_TB_front_19 d_TB_front_21 d_TB_front_24 (fun x hx => (hno x hx).elim) (Nat.le_of_ble_eq_true rfl) (Nat.le_of_ble_eq_true rfl) (Nat.le_of_ble_eq_true rfl) (Nat.le_of_ble_eq_true rfl) hlocks (fun t9 hal h1 h2 => ⟨(Or.inl ⟨rfl, Or.inr c_12⟩), h1, h2⟩) (fun q h => by cases h) (Nat.le_of_ble_eq_true rfl) (Nat.le_of_ble_eq_true rfl)
