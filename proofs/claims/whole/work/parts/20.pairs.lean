theorem d_TB_joinPair_0 : decode c_TB_joinPair 0 = .ok (.aload_n 0, 1) := by decide +kernel
theorem d_TB_joinPair_1 : decode c_TB_joinPair 1 = .ok (.getfield 21, 3) := by decide +kernel
theorem d_TB_joinPair_4 : decode c_TB_joinPair 4 = .ok (.iload_n 1, 1) := by decide +kernel
theorem d_TB_joinPair_5 : decode c_TB_joinPair 5 = .ok (.invokevirtual 144, 3) := by decide +kernel
theorem d_TB_joinPair_8 : decode c_TB_joinPair 8 = .ok (.istore_n 2, 1) := by decide +kernel
theorem d_TB_joinPair_9 : decode c_TB_joinPair 9 = .ok (.aload_n 0, 1) := by decide +kernel
theorem d_TB_joinPair_10 : decode c_TB_joinPair 10 = .ok (.getfield 21, 3) := by decide +kernel
theorem d_TB_joinPair_13 : decode c_TB_joinPair 13 = .ok (.iload_n 2, 1) := by decide +kernel
theorem d_TB_joinPair_14 : decode c_TB_joinPair 14 = .ok (.invokestatic 186, 3) := by decide +kernel
theorem d_TB_joinPair_17 : decode c_TB_joinPair 17 = .ok (.iload_n 2, 1) := by decide +kernel
theorem d_TB_joinPair_18 : decode c_TB_joinPair 18 = .ok (.invokestatic 189, 3) := by decide +kernel
theorem d_TB_joinPair_21 : decode c_TB_joinPair 21 = .ok (.invokevirtual 117, 3) := by decide +kernel
theorem d_TB_joinPair_24 : decode c_TB_joinPair 24 = .ok (.return_, 1) := by decide +kernel
theorem d_FD_pairNumber_0 : decode c_FD_pairNumber 0 = .ok (.iload_n 1, 1) := by decide +kernel
theorem d_FD_pairNumber_1 : decode c_FD_pairNumber 1 = .ok (.istore_n 2, 1) := by decide +kernel
theorem d_FD_pairNumber_2 : decode c_FD_pairNumber 2 = .ok (.iconst 0, 1) := by decide +kernel
theorem d_FD_pairNumber_3 : decode c_FD_pairNumber 3 = .ok (.istore_n 3, 1) := by decide +kernel
theorem d_FD_pairNumber_4 : decode c_FD_pairNumber 4 = .ok (.iload_n 3, 1) := by decide +kernel
theorem d_FD_pairNumber_5 : decode c_FD_pairNumber 5 = .ok (.bipush 39, 2) := by decide +kernel
theorem d_FD_pairNumber_7 : decode c_FD_pairNumber 7 = .ok (.if_icmp .ge 26, 3) := by decide +kernel
theorem d_FD_pairNumber_10 : decode c_FD_pairNumber 10 = .ok (.iload_n 2, 1) := by decide +kernel
theorem d_FD_pairNumber_11 : decode c_FD_pairNumber 11 = .ok (.aload_n 0, 1) := by decide +kernel
theorem d_FD_pairNumber_12 : decode c_FD_pairNumber 12 = .ok (.iload_n 3, 1) := by decide +kernel
theorem d_FD_pairNumber_13 : decode c_FD_pairNumber 13 = .ok (.invokevirtual 107, 3) := by decide +kernel
theorem d_FD_pairNumber_16 : decode c_FD_pairNumber 16 = .ok (.if_icmp .lt 17, 3) := by decide +kernel
theorem d_FD_pairNumber_19 : decode c_FD_pairNumber 19 = .ok (.iload_n 2, 1) := by decide +kernel
theorem d_FD_pairNumber_20 : decode c_FD_pairNumber 20 = .ok (.aload_n 0, 1) := by decide +kernel
theorem d_FD_pairNumber_21 : decode c_FD_pairNumber 21 = .ok (.iload_n 3, 1) := by decide +kernel
theorem d_FD_pairNumber_22 : decode c_FD_pairNumber 22 = .ok (.invokevirtual 107, 3) := by decide +kernel
theorem d_FD_pairNumber_25 : decode c_FD_pairNumber 25 = .ok (.isub, 1) := by decide +kernel
theorem d_FD_pairNumber_26 : decode c_FD_pairNumber 26 = .ok (.istore_n 2, 1) := by decide +kernel
theorem d_FD_pairNumber_27 : decode c_FD_pairNumber 27 = .ok (.iinc 3 1, 3) := by decide +kernel
theorem d_FD_pairNumber_30 : decode c_FD_pairNumber 30 = .ok (.goto (-26), 3) := by decide +kernel
theorem d_FD_pairNumber_33 : decode c_FD_pairNumber 33 = .ok (.iconst 0, 1) := by decide +kernel
theorem d_FD_pairNumber_34 : decode c_FD_pairNumber 34 = .ok (.iload_n 3, 1) := by decide +kernel
theorem d_FD_pairNumber_35 : decode c_FD_pairNumber 35 = .ok (.invokestatic 110, 3) := by decide +kernel
theorem d_FD_pairNumber_38 : decode c_FD_pairNumber 38 = .ok (.istore 4, 2) := by decide +kernel
theorem d_FD_pairNumber_40 : decode c_FD_pairNumber 40 = .ok (.bipush 39, 2) := by decide +kernel
theorem d_FD_pairNumber_42 : decode c_FD_pairNumber 42 = .ok (.iload_n 3, 1) := by decide +kernel
theorem d_FD_pairNumber_43 : decode c_FD_pairNumber 43 = .ok (.invokestatic 110, 3) := by decide +kernel
theorem d_FD_pairNumber_46 : decode c_FD_pairNumber 46 = .ok (.istore 5, 2) := by decide +kernel
theorem d_FD_pairNumber_48 : decode c_FD_pairNumber 48 = .ok (.iload 4, 2) := by decide +kernel
theorem d_FD_pairNumber_50 : decode c_FD_pairNumber 50 = .ok (.iload 5, 2) := by decide +kernel
theorem d_FD_pairNumber_52 : decode c_FD_pairNumber 52 = .ok (.if_icmp .ge 36, 3) := by decide +kernel
theorem d_FD_pairNumber_55 : decode c_FD_pairNumber 55 = .ok (.iload_n 2, 1) := by decide +kernel
theorem d_FD_pairNumber_56 : decode c_FD_pairNumber 56 = .ok (.aload_n 0, 1) := by decide +kernel
theorem d_FD_pairNumber_57 : decode c_FD_pairNumber 57 = .ok (.getfield 15, 3) := by decide +kernel
theorem d_FD_pairNumber_60 : decode c_FD_pairNumber 60 = .ok (.iload 4, 2) := by decide +kernel
theorem d_FD_pairNumber_62 : decode c_FD_pairNumber 62 = .ok (.laload, 1) := by decide +kernel
theorem d_FD_pairNumber_63 : decode c_FD_pairNumber 63 = .ok (.invokestatic 82, 3) := by decide +kernel
theorem d_FD_pairNumber_66 : decode c_FD_pairNumber 66 = .ok (.if_icmp .lt 22, 3) := by decide +kernel
theorem d_FD_pairNumber_69 : decode c_FD_pairNumber 69 = .ok (.iload_n 2, 1) := by decide +kernel
theorem d_FD_pairNumber_70 : decode c_FD_pairNumber 70 = .ok (.aload_n 0, 1) := by decide +kernel
theorem d_FD_pairNumber_71 : decode c_FD_pairNumber 71 = .ok (.getfield 15, 3) := by decide +kernel
theorem d_FD_pairNumber_74 : decode c_FD_pairNumber 74 = .ok (.iload 4, 2) := by decide +kernel
theorem d_FD_pairNumber_76 : decode c_FD_pairNumber 76 = .ok (.laload, 1) := by decide +kernel
theorem d_FD_pairNumber_77 : decode c_FD_pairNumber 77 = .ok (.invokestatic 82, 3) := by decide +kernel
theorem d_FD_pairNumber_80 : decode c_FD_pairNumber 80 = .ok (.isub, 1) := by decide +kernel
theorem d_FD_pairNumber_81 : decode c_FD_pairNumber 81 = .ok (.istore_n 2, 1) := by decide +kernel
theorem d_FD_pairNumber_82 : decode c_FD_pairNumber 82 = .ok (.iinc 4 1, 3) := by decide +kernel
theorem d_FD_pairNumber_85 : decode c_FD_pairNumber 85 = .ok (.goto (-37), 3) := by decide +kernel
theorem d_FD_pairNumber_88 : decode c_FD_pairNumber 88 = .ok (.aload_n 0, 1) := by decide +kernel
theorem d_FD_pairNumber_89 : decode c_FD_pairNumber 89 = .ok (.getfield 15, 3) := by decide +kernel
theorem d_FD_pairNumber_92 : decode c_FD_pairNumber 92 = .ok (.iload 4, 2) := by decide +kernel
theorem d_FD_pairNumber_94 : decode c_FD_pairNumber 94 = .ok (.laload, 1) := by decide +kernel
theorem d_FD_pairNumber_95 : decode c_FD_pairNumber 95 = .ok (.lstore 6, 2) := by decide +kernel
theorem d_FD_pairNumber_97 : decode c_FD_pairNumber 97 = .ok (.iload_n 2, 1) := by decide +kernel
theorem d_FD_pairNumber_98 : decode c_FD_pairNumber 98 = .ok (.ifCond .le 18, 3) := by decide +kernel
theorem d_FD_pairNumber_101 : decode c_FD_pairNumber 101 = .ok (.lload 6, 2) := by decide +kernel
theorem d_FD_pairNumber_103 : decode c_FD_pairNumber 103 = .ok (.lload 6, 2) := by decide +kernel
theorem d_FD_pairNumber_105 : decode c_FD_pairNumber 105 = .ok (.lconst 1, 1) := by decide +kernel
theorem d_FD_pairNumber_106 : decode c_FD_pairNumber 106 = .ok (.lsub, 1) := by decide +kernel
theorem d_FD_pairNumber_107 : decode c_FD_pairNumber 107 = .ok (.land, 1) := by decide +kernel
theorem d_FD_pairNumber_108 : decode c_FD_pairNumber 108 = .ok (.lstore 6, 2) := by decide +kernel
theorem d_FD_pairNumber_110 : decode c_FD_pairNumber 110 = .ok (.iinc 2 (-1), 3) := by decide +kernel
theorem d_FD_pairNumber_113 : decode c_FD_pairNumber 113 = .ok (.goto (-16), 3) := by decide +kernel
theorem d_FD_pairNumber_116 : decode c_FD_pairNumber 116 = .ok (.iload 4, 2) := by decide +kernel
theorem d_FD_pairNumber_118 : decode c_FD_pairNumber 118 = .ok (.lload 6, 2) := by decide +kernel
theorem d_FD_pairNumber_120 : decode c_FD_pairNumber 120 = .ok (.invokestatic 113, 3) := by decide +kernel
theorem d_FD_pairNumber_123 : decode c_FD_pairNumber 123 = .ok (.invokestatic 116, 3) := by decide +kernel
theorem d_FD_pairNumber_126 : decode c_FD_pairNumber 126 = .ok (.ireturn, 1) := by decide +kernel
theorem d_TB_pairOf_0 : decode c_TB_pairOf 0 = .ok (.iload_n 0, 1) := by decide +kernel
theorem d_TB_pairOf_1 : decode c_TB_pairOf 1 = .ok (.bipush 6, 2) := by decide +kernel
theorem d_TB_pairOf_3 : decode c_TB_pairOf 3 = .ok (.ishl, 1) := by decide +kernel
theorem d_TB_pairOf_4 : decode c_TB_pairOf 4 = .ok (.iload_n 1, 1) := by decide +kernel
theorem d_TB_pairOf_5 : decode c_TB_pairOf 5 = .ok (.ior, 1) := by decide +kernel
theorem d_TB_pairOf_6 : decode c_TB_pairOf 6 = .ok (.ireturn, 1) := by decide +kernel
def pnY (rp : Nat → Int32) : Nat → Nat → Int32 → Nat × Int32
  | 0, y, x => (y, x)
  | f + 1, y, x => if x < rp (y + 1) then (y, x) else pnY rp f (y + 1) (x - rp (y + 1))
theorem pnY_stop {rp : Nat → Int32} {f y : Nat} {x : Int32} (h : x < rp (y + 1)) : pnY rp f y x = (y, x) := by
  cases f with
  | zero => rfl
  | succ f => unfold pnY; rw [if_pos h]
theorem pnY_go {rp : Nat → Int32} {f y : Nat} {x : Int32} (hf : 0 < f) (h : ¬ x < rp (y + 1)) : pnY rp f y x = pnY rp (f - 1) (y + 1) (x - rp (y + 1)) := by
  obtain ⟨k, rfl⟩ : ∃ k, f = k + 1 := ⟨f - 1, by omega⟩
  rw [pnY, if_neg h]
  rfl
def pnX (oq : Nat → Int64) : Nat → Nat → Int32 → Nat × Int32
  | 0, q, x => (q, x)
  | f + 1, q, x => if x < bcL (oq q) then (q, x) else pnX oq f (q + 1) (x - bcL (oq q))
theorem pnX_stop {oq : Nat → Int64} {f q : Nat} {x : Int32} (h : x < bcL (oq q)) : pnX oq f q x = (q, x) := by
  cases f with
  | zero => rfl
  | succ f => unfold pnX; rw [if_pos h]
theorem pnX_go {oq : Nat → Int64} {f q : Nat} {x : Int32} (hf : 0 < f) (h : ¬ x < bcL (oq q)) : pnX oq f q x = pnX oq (f - 1) (q + 1) (x - bcL (oq q)) := by
  obtain ⟨k, rfl⟩ : ∃ k, f = k + 1 := ⟨f - 1, by omega⟩
  rw [pnX, if_neg h]
  rfl
def pnT : Nat → Int64 → Int64
  | 0, v => v
  | n + 1, v => pnT n (v &&& (v - 1))
theorem nn_dec {x : Int32} (h : ¬ x ≤ 0) : nn (x + (-1)) + 1 = nn x := by
  have h0 : ¬ x < 0 := fun z => h (by
    rw [Int32.lt_iff_toInt_lt] at z
    rw [Int32.le_iff_toInt_le]
    omega)
  obtain ⟨j, hj, rfl⟩ := nI_of h0
  have hj0 : j ≠ 0 := fun z => h (by rw [z, nI_0]; decide)
  obtain ⟨k, rfl⟩ : ∃ k, j = k + 1 := ⟨j - 1, by omega⟩
  rw [pk_m1, nn_nI (by omega), nn_nI hj]
theorem nn_le0 {x : Int32} (h : x ≤ 0) : nn x = 0 := by
  rw [Int32.le_iff_toInt_le] at h
  have : (0 : Int32).toInt = 0 := rfl
  show x.toInt.toNat = 0
  omega
theorem pnT_go {x : Int32} (h : ¬ x ≤ 0) (v : Int64) : pnT (nn x) v = pnT (nn (x + (-1))) (v &&& (v - 1)) := by
  rw [← nn_dec h, pnT]
def prV (q : Nat) (v : Int64) : Int32 := (nI q <<< (nI 6 &&& 31)) ||| (bcL ((v &&& -v) - 1) + nI 1)
/-- pair x of the frontier -/
def pnV (oq : Nat → Int64) (rp : Nat → Int32) (x : Int32) : Int32 :=
  prV (pnX oq 39 (plN 0 (pnY rp 39 0 x).1) (pnY rp 39 0 x).2).1 (pnT (nn (pnX oq 39 (plN 0 (pnY rp 39 0 x).1) (pnY rp 39 0 x).2).2) (oq (pnX oq 39 (plN 0 (pnY rp 39 0 x).1) (pnY rp 39 0 x).2).1))
set_option maxHeartbeats 4000000 in
set_option maxRecDepth 100000 in
/-- pairOf -/
theorem k_TB_pairOf (l : Launch) (D : va_G) (cI cJ : ClassId) (x : Int32) (y : Int32)  : Met l y_TB_pairOf ws_TB_pairOf ({ frames := 0, cells := 0, slots := 0, locals := 0 } : Room) (va_Pc [.int x, .int y] (Pp D cI cJ [])) (vp_Si (fun r : Int32 => r = (x <<< (nI 6 &&& 31)) ||| y)) 0 0 (fun _ => False) := by
  refine Met.ofW (cc := c_TB_pairOf) (maxL := 2) (ret := (some .int)) (by decide) rfl ?_
  intro p e s m args below meth c s₁ B hml hv
  obtain ⟨rfl, hE, hP, hX⟩ := hv
  have hx := B.exec
  have hb := B.bytes
  have hr := B.returns
  have hw : ∀ w ∈ gw, w.before _ s = true := fun w h => atoms_spec (ws := ws_TB_pairOf) B.pre w (List.mem_cons_of_mem _ h)
  have hown : s.vm.findClass R_TB = some m.cls := findClass_of_methodNamed B.named
  have hlocks := B.notSynchronized
  have hS : va_S (fun _ => False) s.heap s.heap [] := va_S.rf
  have hl := lv_entry ([.int x, .int y]) (n := 2) (Nat.le_of_ble_eq_true rfl)
  rw [lg_entry_eq]
  generalize (lg_sl ([.int x, .int y]) ++ List.replicate (2 - (lg_sl ([.int x, .int y])).length) Slot.unset).toArray = ls at hl ⊢
  have hl : lv_has ls 2 [(0, .int x), (1, .int y)] := hl
  refine lv_iload_n hx hb d_TB_pairOf_0 rfl (lv_at hl 0 rfl) ?_
  refine lv_bipush (v := nI 6) hx hb d_TB_pairOf_1 (by decide +kernel) ?_
  refine lv_ishl hx hb d_TB_pairOf_3 ?_
  refine lv_iload_n hx hb d_TB_pairOf_4 rfl (lv_at hl 1 rfl) ?_
  refine lv_ior hx hb d_TB_pairOf_5 ?_
  exact W.iret (v := (x <<< ((nI 6) &&& 31)) ||| y) hx hb hr (fun t9 ht hW => ⟨_, rfl, rfl, ht⟩) (fun q h => by cases h) d_TB_pairOf_6
set_option maxHeartbeats 4000000 in
set_option maxRecDepth 100000 in
theorem lp_k_FD_pairNumber_4 {p : Program} {l : Launch} {e : Env} {s : State} {m : MethodId} {args : Array Value} {below : List Frame} {meth : Method} {c : Code} {D : va_G} {cI cJ : ClassId} {Q : State → Prop} (f0 : Nat) (f1 : Nat) (f2 : Nat) (f3 : Nat) (f4 : Nat) (o1 : Nat) (np : Int32) (ns : Int32) (aw : Int32) (oq : Nat → Int64) (rp : Nat → Int32) (x : Int32)   (hx : p.tables.exec = Jvm.exec) (hb : c.code = c_FD_pairNumber) (hml : c.maxLocals = 8) (hown : s.vm.findClass R_FD = some m.cls) (hw : ∀ w ∈ gw, w.before args s = true) (hE : En D cI cJ s) (hX : Sx (fun _ => False) s s.heap) (hP : va_P D vwCl [(f0, .inr (2, [.ref o1, .ref f1, .ref f2, .ref f3, .ref f4, .int np, .int ns, .int aw])), (f2, .inl (cJ, 1764, .inr (.inl oq))), (f3, .inl (cI, 42, .inl rp))] s.heap)
    (kx0 : ∀ (y9 : Nat) (l9 : Int32), (y9 ≤ 39) → ((y9, l9) = pnY rp 39 0 x) → ∀ (ls : Array Slot), lv_has ls 8 [(0, .ref f0), (2, .int l9), (3, .int (nI y9))] → W p l e ({ frames := 2, cells := 0, slots := 0, locals := 42 } : Room) s m args below meth c s.heap [] 0 0 Q (F0 m 33 ls [])) :
    ∀ (fu : Nat) (y9 : Nat) (l9 : Int32), 39 - y9 < fu → (y9 ≤ 39) → (pnY rp (39 - y9) y9 l9 = pnY rp 39 0 x) → ∀ (ls : Array Slot), lv_has ls 8 [(0, .ref f0), (2, .int l9), (3, .int (nI y9))] → W p l e ({ frames := 2, cells := 0, slots := 0, locals := 42 } : Room) s m args below meth c s.heap [] 0 0 Q (F0 m 4 ls []) := by
  have hS : va_S (fun _ => False) s.heap s.heap [] := va_S.rf
  intro fu
  induction fu with
  | zero =>
    intro y9 l9 h0
    exact absurd h0 (Nat.not_lt_zero _)
  | succ fu ih =>
    intro y9 l9 hmu hy hR ls hl
    refine lv_iload_n hx hb d_FD_pairNumber_4 rfl (lv_at hl 2 rfl) ?_
    refine lv_bipush (v := nI 39) hx hb d_FD_pairNumber_5 (by decide +kernel) ?_
    refine jn_icmp_ge (tgt := 33) (a := y9) (b := 39) hx hb d_FD_pairNumber_7 (by decide) (by omega) (by omega) (fun c_7 => ?_) (fun c_7 => ?_)
    · skip
      exact kx0 y9 l9 hy (by rw [← hR, show 39 - y9 = 0 by omega]; rfl) _ (lv_sub hl [0, 1, 2] rfl)
    · skip
      refine lv_iload_n hx hb d_FD_pairNumber_10 rfl (lv_at hl 1 rfl) ?_
      refine lv_aload_n hx hb d_FD_pairNumber_11 rfl (lv_at hl 0 rfl) ?_
      refine lv_iload_n hx hb d_FD_pairNumber_12 rfl (lv_at hl 2 rfl) ?_
      refine vp_callSi (va_Run.run (va_runV (As := [.int (nI y9)]) (rest := [.int l9]) ⟨hx, hb, hml, hown, hw⟩ (k_FD_pairsInRow l D cI cJ f0 f1 f2 f3 f4 o1 np ns aw rp y9 (by omega)) (cwV 1 hw (gV kw_524 kw_525 kw_526 kw_42 kw_527) rfl rfl rfl (by decide +kernel) ⟨Nat.le_of_ble_eq_true rfl, Nat.le_of_ble_eq_true rfl⟩) (pre_Vp (wc := [(f0, .inr (2, [.ref o1, .ref f1, .ref f2, .ref f3, .ref f4, .int np, .int ns, .int aw])), (f3, .inl (cI, 42, .inl rp))]) (q0 := 0) hE hX hP hS [0, 2] rfl rfl rfl) rfl rfl hl.1 rfl (lv_room (Nat.le_of_ble_eq_true rfl)) d_FD_pairNumber_13 ⟨Nat.le_of_ble_eq_true rfl, Nat.le_of_ble_eq_true rfl⟩)) (fun r_1 hr_1 => ?_)
      obtain rfl : rp (y9 + 1) = r_1 := hr_1.symm
      refine lv_icmp_lt (tgt := 33) hx hb d_FD_pairNumber_16 (by decide) (fun c_16 => ?_) (fun c_16 => ?_)
      · skip
        exact kx0 y9 l9 hy (by rw [← hR, pnY_stop c_16]) _ (lv_sub hl [0, 1, 2] rfl)
      · skip
        refine lv_iload_n hx hb d_FD_pairNumber_19 rfl (lv_at hl 1 rfl) ?_
        refine lv_aload_n hx hb d_FD_pairNumber_20 rfl (lv_at hl 0 rfl) ?_
        refine lv_iload_n hx hb d_FD_pairNumber_21 rfl (lv_at hl 2 rfl) ?_
        refine vp_callSi (va_Run.run (va_runV (As := [.int (nI y9)]) (rest := [.int l9]) ⟨hx, hb, hml, hown, hw⟩ (k_FD_pairsInRow l D cI cJ f0 f1 f2 f3 f4 o1 np ns aw rp y9 (by omega)) (cwV 1 hw (gV kw_524 kw_525 kw_526 kw_42 kw_527) rfl rfl rfl (by decide +kernel) ⟨Nat.le_of_ble_eq_true rfl, Nat.le_of_ble_eq_true rfl⟩) (pre_Vp (wc := [(f0, .inr (2, [.ref o1, .ref f1, .ref f2, .ref f3, .ref f4, .int np, .int ns, .int aw])), (f3, .inl (cI, 42, .inl rp))]) (q0 := 0) hE hX hP hS [0, 2] rfl rfl rfl) rfl rfl hl.1 rfl (lv_room (Nat.le_of_ble_eq_true rfl)) d_FD_pairNumber_22 ⟨Nat.le_of_ble_eq_true rfl, Nat.le_of_ble_eq_true rfl⟩)) (fun r_2 hr_2 => ?_)
        obtain rfl : rp (y9 + 1) = r_2 := hr_2.symm
        refine lv_isub hx hb d_FD_pairNumber_25 ?_
        refine lv_istore_n (lv' := [(2, .int (l9 - (rp (y9 + 1)))), (0, .ref f0), (3, .int (nI y9))]) hx hb d_FD_pairNumber_26 rfl hl (by decide) rfl (fun ls hl => ?_)
        refine lv_iinc (v := nI (y9 + 1)) (lv' := [(3, .int (nI (y9 + 1))), (2, .int (l9 - (rp (y9 + 1)))), (0, .ref f0)]) hx hb d_FD_pairNumber_27 hl (k := 2) rfl (jn_inc y9 1) (by decide) rfl (fun ls hl => ?_)
        refine lv_goto (tgt := 4) hx hb d_FD_pairNumber_30 (by decide) ?_
        exact ih (y9 + 1) (l9 - rp (y9 + 1)) (by omega) (by omega) (by rw [← hR, pnY_go (show 0 < 39 - y9 by omega) c_16, show 39 - y9 - 1 = 39 - (y9 + 1) by omega]) _ (lv_sub hl [2, 1, 0] rfl)
set_option maxHeartbeats 4000000 in
set_option maxRecDepth 100000 in
theorem lp_k_FD_pairNumber_48 {p : Program} {l : Launch} {e : Env} {s : State} {m : MethodId} {args : Array Value} {below : List Frame} {meth : Method} {c : Code} {D : va_G} {cI cJ : ClassId} {Q : State → Prop} (f0 : Nat) (f1 : Nat) (f2 : Nat) (f3 : Nat) (f4 : Nat) (o1 : Nat) (np : Int32) (ns : Int32) (aw : Int32) (oq : Nat → Int64) (rp : Nat → Int32) (x : Int32)  (y9 : Nat) (hy : y9 ≤ 39) (l9 : Int32) (hx : p.tables.exec = Jvm.exec) (hb : c.code = c_FD_pairNumber) (hml : c.maxLocals = 8) (hown : s.vm.findClass R_FD = some m.cls) (hw : ∀ w ∈ gw, w.before args s = true) (hE : En D cI cJ s) (hX : Sx (fun _ => False) s s.heap) (hP : va_P D vwCl [(f0, .inr (2, [.ref o1, .ref f1, .ref f2, .ref f3, .ref f4, .int np, .int ns, .int aw])), (f2, .inl (cJ, 1764, .inr (.inl oq))), (f3, .inl (cI, 42, .inl rp))] s.heap)
    (kx0 : ∀ (q9 : Nat) (k9 : Int32), (43 ≤ q9 ∧ q9 ≤ 1720) → ((q9, k9) = pnX oq 39 (plN 0 y9) l9) → ∀ (ls : Array Slot), lv_has ls 8 [(0, .ref f0), (2, .int k9), (4, .int (nI q9))] → W p l e ({ frames := 2, cells := 0, slots := 0, locals := 42 } : Room) s m args below meth c s.heap [] 0 0 Q (F0 m 88 ls [])) :
    ∀ (fu : Nat) (q9 : Nat) (k9 : Int32), plN 39 y9 - q9 < fu → (plN 0 y9 ≤ q9) → (q9 ≤ plN 39 y9) → (pnX oq (plN 39 y9 - q9) q9 k9 = pnX oq 39 (plN 0 y9) l9) → ∀ (ls : Array Slot), lv_has ls 8 [(0, .ref f0), (2, .int k9), (4, .int (nI q9)), (5, .int (nI ((y9 + 1) * 42 + 39 + 1)))] → W p l e ({ frames := 2, cells := 0, slots := 0, locals := 42 } : Room) s m args below meth c s.heap [] 0 0 Q (F0 m 48 ls []) := by
  have hS : va_S (fun _ => False) s.heap s.heap [] := va_S.rf
  intro fu
  induction fu with
  | zero =>
    intro q9 k9 h0
    exact absurd h0 (Nat.not_lt_zero _)
  | succ fu ih =>
    intro q9 k9 hmu hq1 hq2 hR ls hl
    unfold plN at hq1 hq2 hR hmu
    refine lv_iload hx hb d_FD_pairNumber_48 (lv_at hl 2 rfl) ?_
    refine lv_iload hx hb d_FD_pairNumber_50 (lv_at hl 3 rfl) ?_
    refine jn_icmp_ge (tgt := 88) (a := q9) (b := ((y9 + 1) * 42 + 39 + 1)) hx hb d_FD_pairNumber_52 (by decide) (by omega) (by omega) (fun c_52 => ?_) (fun c_52 => ?_)
    · skip
      exact kx0 q9 k9 (by omega) (by unfold plN; rw [← hR, show (y9 + 1) * 42 + 39 + 1 - q9 = 0 by omega]; rfl) _ (lv_sub hl [0, 1, 2] rfl)
    · skip
      refine lv_iload_n hx hb d_FD_pairNumber_55 rfl (lv_at hl 1 rfl) ?_
      refine lv_aload_n hx hb d_FD_pairNumber_56 rfl (lv_at hl 0 rfl) ?_
      refine va_get (D := D) (ci := 2) (v := .ref f2) (C := R_FD) (T := T_FD) (N := 8) hx hb hw in_FD hown hE.1 hP 0 rfl rfl 2 (by decide) (hw _ kw_97) (fun _ h9 => h9) rfl d_FD_pairNumber_57 ?_
      refine lv_iload hx hb d_FD_pairNumber_60 (lv_at hl 2 rfl) ?_
      refine jn_lald (k := q9) hx hb hE.1 hP 1 1 rfl rfl (by omega) (by omega) d_FD_pairNumber_62 ?_
      refine vp_callSi (va_Run.run (va_runS (As := [.long (oq q9)]) (rest := [.int k9]) ⟨hx, hb, hml, hown, hw⟩ (k_JL_bitCount l D cI cJ (oq q9)) (va_cwS 1 hw (gS kw_471 kw_472 kw_53 kw_473) rfl rfl rfl (by decide +kernel) ⟨Nat.le_of_ble_eq_true rfl, Nat.le_of_ble_eq_true rfl⟩) (pre_Sp (wc := []) hE hX hP hS [] rfl) rfl rfl hl.1 rfl (lv_room (Nat.le_of_ble_eq_true rfl)) d_FD_pairNumber_63 ⟨Nat.le_of_ble_eq_true rfl, Nat.le_of_ble_eq_true rfl⟩)) (fun r_1 hr_1 => ?_)
      obtain rfl : bcL (oq q9) = r_1 := hr_1.symm
      refine lv_icmp_lt (tgt := 88) hx hb d_FD_pairNumber_66 (by decide) (fun c_66 => ?_) (fun c_66 => ?_)
      · skip
        exact kx0 q9 k9 (by omega) (by unfold plN; rw [← hR, pnX_stop c_66]) _ (lv_sub hl [0, 1, 2] rfl)
      · skip
        refine lv_iload_n hx hb d_FD_pairNumber_69 rfl (lv_at hl 1 rfl) ?_
        refine lv_aload_n hx hb d_FD_pairNumber_70 rfl (lv_at hl 0 rfl) ?_
        refine va_get (D := D) (ci := 2) (v := .ref f2) (C := R_FD) (T := T_FD) (N := 8) hx hb hw in_FD hown hE.1 hP 0 rfl rfl 2 (by decide) (hw _ kw_97) (fun _ h9 => h9) rfl d_FD_pairNumber_71 ?_
        refine lv_iload hx hb d_FD_pairNumber_74 (lv_at hl 2 rfl) ?_
        refine jn_lald (k := q9) hx hb hE.1 hP 1 1 rfl rfl (by omega) (by omega) d_FD_pairNumber_76 ?_
        refine vp_callSi (va_Run.run (va_runS (As := [.long (oq q9)]) (rest := [.int k9]) ⟨hx, hb, hml, hown, hw⟩ (k_JL_bitCount l D cI cJ (oq q9)) (va_cwS 1 hw (gS kw_471 kw_472 kw_53 kw_473) rfl rfl rfl (by decide +kernel) ⟨Nat.le_of_ble_eq_true rfl, Nat.le_of_ble_eq_true rfl⟩) (pre_Sp (wc := []) hE hX hP hS [] rfl) rfl rfl hl.1 rfl (lv_room (Nat.le_of_ble_eq_true rfl)) d_FD_pairNumber_77 ⟨Nat.le_of_ble_eq_true rfl, Nat.le_of_ble_eq_true rfl⟩)) (fun r_2 hr_2 => ?_)
        obtain rfl : bcL (oq q9) = r_2 := hr_2.symm
        refine lv_isub hx hb d_FD_pairNumber_80 ?_
        refine lv_istore_n (lv' := [(2, .int (k9 - (bcL (oq q9)))), (0, .ref f0), (4, .int (nI q9)), (5, .int (nI ((y9 + 1) * 42 + 39 + 1)))]) hx hb d_FD_pairNumber_81 rfl hl (by decide) rfl (fun ls hl => ?_)
        refine lv_iinc (v := nI (q9 + 1)) (lv' := [(4, .int (nI (q9 + 1))), (2, .int (k9 - (bcL (oq q9)))), (0, .ref f0), (5, .int (nI ((y9 + 1) * 42 + 39 + 1)))]) hx hb d_FD_pairNumber_82 hl (k := 2) rfl (jn_inc q9 1) (by decide) rfl (fun ls hl => ?_)
        refine lv_goto (tgt := 48) hx hb d_FD_pairNumber_85 (by decide) ?_
        exact ih (q9 + 1) (k9 - bcL (oq q9)) (by unfold plN; omega) (by unfold plN; omega) (by unfold plN; omega) (by unfold plN; rw [← hR, pnX_go (show 0 < (y9 + 1) * 42 + 39 + 1 - q9 by omega) c_66, show (y9 + 1) * 42 + 39 + 1 - q9 - 1 = (y9 + 1) * 42 + 39 + 1 - (q9 + 1) by omega]) _ (lv_sub hl [2, 1, 0, 3] rfl)
set_option maxHeartbeats 4000000 in
set_option maxRecDepth 100000 in
theorem lp_k_FD_pairNumber_97 {p : Program} {l : Launch} {e : Env} {s : State} {m : MethodId} {args : Array Value} {below : List Frame} {meth : Method} {c : Code} {D : va_G} {cI cJ : ClassId} {Q : State → Prop} (f0 : Nat) (f1 : Nat) (f2 : Nat) (f3 : Nat) (f4 : Nat) (o1 : Nat) (np : Int32) (ns : Int32) (aw : Int32) (oq : Nat → Int64) (rp : Nat → Int32) (x : Int32)  (q9 : Nat) (k9 : Int32) (w9 : Int64) (hx : p.tables.exec = Jvm.exec) (hb : c.code = c_FD_pairNumber) (hml : c.maxLocals = 8) (hown : s.vm.findClass R_FD = some m.cls) (hw : ∀ w ∈ gw, w.before args s = true) (hE : En D cI cJ s) (hX : Sx (fun _ => False) s s.heap) (hP : va_P D vwCl [(f0, .inr (2, [.ref o1, .ref f1, .ref f2, .ref f3, .ref f4, .int np, .int ns, .int aw])), (f2, .inl (cJ, 1764, .inr (.inl oq))), (f3, .inl (cI, 42, .inl rp))] s.heap)
    (kx0 : ∀ (v9 : Int64), (v9 = pnT (nn k9) w9) → ∀ (ls : Array Slot), lv_has ls 8 [(4, .int (nI q9)), (6, .long v9)] → W p l e ({ frames := 2, cells := 0, slots := 0, locals := 42 } : Room) s m args below meth c s.heap [] 0 0 Q (F0 m 116 ls [])) :
    ∀ (fu : Nat) (m9 : Int32) (v9 : Int64), nn m9 < fu → (pnT (nn m9) v9 = pnT (nn k9) w9) → ∀ (ls : Array Slot), lv_has ls 8 [(2, .int m9), (4, .int (nI q9)), (6, .long v9)] → W p l e ({ frames := 2, cells := 0, slots := 0, locals := 42 } : Room) s m args below meth c s.heap [] 0 0 Q (F0 m 97 ls []) := by
  have hS : va_S (fun _ => False) s.heap s.heap [] := va_S.rf
  intro fu
  induction fu with
  | zero =>
    intro m9 v9 h0
    exact absurd h0 (Nat.not_lt_zero _)
  | succ fu ih =>
    intro m9 v9 hmu hR ls hl
    refine lv_iload_n hx hb d_FD_pairNumber_97 rfl (lv_at hl 0 rfl) ?_
    refine lv_if_le (tgt := 116) hx hb d_FD_pairNumber_98 (by decide) (fun c_98 => ?_) (fun c_98 => ?_)
    · skip
      exact kx0 v9 (by rw [← hR, nn_le0 c_98]; rfl) _ (lv_sub hl [1, 2] rfl)
    · skip
      refine lv_lload hx hb d_FD_pairNumber_101 (lv_at hl 2 rfl) ?_
      refine lv_lload hx hb d_FD_pairNumber_103 (lv_at hl 2 rfl) ?_
      refine lv_lconst (v := 1) hx hb d_FD_pairNumber_105 (by decide +kernel) ?_
      refine lv_lsub hx hb d_FD_pairNumber_106 ?_
      refine lv_land hx hb d_FD_pairNumber_107 ?_
      refine lv_lstore (lv' := [(6, .long (v9 &&& (v9 - 1))), (2, .int m9), (4, .int (nI q9))]) hx hb d_FD_pairNumber_108 hl (by decide) rfl (fun ls hl => ?_)
      refine lv_iinc (v := m9 + (-1)) (lv' := [(2, .int (m9 + (-1))), (6, .long (v9 &&& (v9 - 1))), (4, .int (nI q9))]) hx hb d_FD_pairNumber_110 hl (k := 1) rfl (by rfl) (by decide) rfl (fun ls hl => ?_)
      refine lv_goto (tgt := 97) hx hb d_FD_pairNumber_113 (by decide) ?_
      exact ih (m9 + (-1)) (v9 &&& (v9 - 1)) (by have := nn_dec c_98; omega) (by rw [← hR, pnT_go c_98]) _ (lv_sub hl [0, 2, 1] rfl)
set_option maxHeartbeats 4000000 in
set_option maxRecDepth 100000 in
/-- pairNumber -/
theorem k_FD_pairNumber (l : Launch) (D : va_G) (cI cJ : ClassId) (f0 : Nat) (f1 : Nat) (f2 : Nat) (f3 : Nat) (f4 : Nat) (o1 : Nat) (np : Int32) (ns : Int32) (aw : Int32) (oq : Nat → Int64) (rp : Nat → Int32) (x : Int32)  : Met l y_FD_pairNumber ws_FD_pairNumber ({ frames := 2, cells := 0, slots := 0, locals := 42 } : Room) (va_Pc [.ref f0, .int x] (Pp D cI cJ [(f0, .inr (2, [.ref o1, .ref f1, .ref f2, .ref f3, .ref f4, .int np, .int ns, .int aw])), (f2, .inl (cJ, 1764, .inr (.inl oq))), (f3, .inl (cI, 42, .inl rp))])) (vp_Si (fun r : Int32 => r = pnV oq rp x)) 0 0 (fun _ => False) := by
  refine Met.ofW (cc := c_FD_pairNumber) (maxL := 8) (ret := (some .int)) (by decide) rfl ?_
  intro p e s m args below meth c s₁ B hml hv
  obtain ⟨rfl, hE, hP, hX⟩ := hv
  have hx := B.exec
  have hb := B.bytes
  have hr := B.returns
  have hw : ∀ w ∈ gw, w.before _ s = true := fun w h => atoms_spec (ws := ws_FD_pairNumber) B.pre w (List.mem_cons_of_mem _ h)
  have hown : s.vm.findClass R_FD = some m.cls := findClass_of_methodNamed B.named
  have hlocks := B.notSynchronized
  have hS : va_S (fun _ => False) s.heap s.heap [] := va_S.rf
  have hl := lv_entry ([.ref f0, .int x]) (n := 8) (Nat.le_of_ble_eq_true rfl)
  rw [lg_entry_eq]
  generalize (lg_sl ([.ref f0, .int x]) ++ List.replicate (8 - (lg_sl ([.ref f0, .int x])).length) Slot.unset).toArray = ls at hl ⊢
  have hl : lv_has ls 8 [(0, .ref f0), (1, .int x)] := hl
  refine lv_iload_n hx hb d_FD_pairNumber_0 rfl (lv_at hl 1 rfl) ?_
  refine lv_istore_n (lv' := [(2, .int x), (0, .ref f0), (1, .int x)]) hx hb d_FD_pairNumber_1 rfl hl (by decide) rfl (fun ls hl => ?_)
  refine lv_iconst (v := nI 0) hx hb d_FD_pairNumber_2 (by decide +kernel) ?_
  refine lv_istore_n (lv' := [(3, .int (nI 0)), (2, .int x), (0, .ref f0), (1, .int x)]) hx hb d_FD_pairNumber_3 rfl hl (by decide) rfl (fun ls hl => ?_)
  refine lp_k_FD_pairNumber_4 f0 f1 f2 f3 f4 o1 np ns aw oq rp x hx hb hml hown hw hE hX hP (fun y9 l9 hy hY ls hl => ?_) ((39 - 0) + 1) 0 x (Nat.lt_succ_self _) (Nat.zero_le _) rfl _ (lv_sub hl [2, 1, 0] rfl)
  refine lv_iconst (v := nI 0) hx hb d_FD_pairNumber_33 (by decide +kernel) ?_
  refine lv_iload_n hx hb d_FD_pairNumber_34 rfl (lv_at hl 2 rfl) ?_
  refine vp_callSi (va_Run.run (va_runSN (As := [.int (nI 0), .int (nI y9)]) (rest := []) ⟨hx, hb, hml, hown, hw⟩ (k_TB_placeOf l D cI cJ 0 y9) (⟨va_cnB 2 hw (gI kw_420) rfl rfl rfl (hE.2.1 _ (List.mem_of_getElem? (i := 4) rfl)) (hw _ kw_40) (by decide +kernel) ⟨Nat.le_of_ble_eq_true rfl, Nat.le_of_ble_eq_true rfl⟩, hw _ kw_419, trivial⟩) (pre_Sp (wc := []) hE hX hP hS [] rfl) rfl rfl hl.1 rfl (lv_room (Nat.le_of_ble_eq_true rfl)) d_FD_pairNumber_35 ⟨Nat.le_of_ble_eq_true rfl, Nat.le_of_ble_eq_true rfl⟩)) (fun r_1 hr_1 => ?_)
  obtain rfl : nI ((y9 + 1) * 42 + 0 + 1) = r_1 := hr_1.symm
  refine lv_istore (lv' := [(4, .int (nI ((y9 + 1) * 42 + 0 + 1))), (0, .ref f0), (2, .int l9), (3, .int (nI y9))]) hx hb d_FD_pairNumber_38 hl (by decide) rfl (fun ls hl => ?_)
  refine lv_bipush (v := nI 39) hx hb d_FD_pairNumber_40 (by decide +kernel) ?_
  refine lv_iload_n hx hb d_FD_pairNumber_42 rfl (lv_at hl 3 rfl) ?_
  refine vp_callSi (va_Run.run (va_runSN (As := [.int (nI 39), .int (nI y9)]) (rest := []) ⟨hx, hb, hml, hown, hw⟩ (k_TB_placeOf l D cI cJ 39 y9) (⟨va_cnB 2 hw (gI kw_420) rfl rfl rfl (hE.2.1 _ (List.mem_of_getElem? (i := 4) rfl)) (hw _ kw_40) (by decide +kernel) ⟨Nat.le_of_ble_eq_true rfl, Nat.le_of_ble_eq_true rfl⟩, hw _ kw_419, trivial⟩) (pre_Sp (wc := []) hE hX hP hS [] rfl) rfl rfl hl.1 rfl (lv_room (Nat.le_of_ble_eq_true rfl)) d_FD_pairNumber_43 ⟨Nat.le_of_ble_eq_true rfl, Nat.le_of_ble_eq_true rfl⟩)) (fun r_2 hr_2 => ?_)
  obtain rfl : nI ((y9 + 1) * 42 + 39 + 1) = r_2 := hr_2.symm
  refine lv_istore (lv' := [(5, .int (nI ((y9 + 1) * 42 + 39 + 1))), (4, .int (nI ((y9 + 1) * 42 + 0 + 1))), (0, .ref f0), (2, .int l9), (3, .int (nI y9))]) hx hb d_FD_pairNumber_46 hl (by decide) rfl (fun ls hl => ?_)
  refine lp_k_FD_pairNumber_48 f0 f1 f2 f3 f4 o1 np ns aw oq rp x y9 hy l9 hx hb hml hown hw hE hX hP (fun q9 k9 hq hX9 ls hl => ?_) ((plN 39 y9 - ((y9 + 1) * 42 + 0 + 1)) + 1) ((y9 + 1) * 42 + 0 + 1) l9 (Nat.lt_succ_self _) (Nat.le_refl _) (by unfold plN; omega) (by rw [show plN 39 y9 - ((y9 + 1) * 42 + 0 + 1) = 39 by unfold plN; omega]) _ (lv_sub hl [2, 3, 1, 0] rfl)
  refine lv_aload_n hx hb d_FD_pairNumber_88 rfl (lv_at hl 0 rfl) ?_
  refine va_get (D := D) (ci := 2) (v := .ref f2) (C := R_FD) (T := T_FD) (N := 8) hx hb hw in_FD hown hE.1 hP 0 rfl rfl 2 (by decide) (hw _ kw_97) (fun _ h9 => h9) rfl d_FD_pairNumber_89 ?_
  refine lv_iload hx hb d_FD_pairNumber_92 (lv_at hl 2 rfl) ?_
  refine jn_lald (k := q9) hx hb hE.1 hP 1 1 rfl rfl (by omega) (by omega) d_FD_pairNumber_94 ?_
  refine lv_lstore (lv' := [(6, .long (oq q9)), (0, .ref f0), (2, .int k9), (4, .int (nI q9))]) hx hb d_FD_pairNumber_95 hl (by decide) rfl (fun ls hl => ?_)
  refine lp_k_FD_pairNumber_97 f0 f1 f2 f3 f4 o1 np ns aw oq rp x q9 k9 (oq q9) hx hb hml hown hw hE hX hP (fun v9 hv ls hl => ?_) ((nn k9) + 1) k9 (oq q9) (Nat.lt_succ_self _) rfl _ (lv_sub hl [2, 3, 0] rfl)
  refine lv_iload hx hb d_FD_pairNumber_116 (lv_at hl 0 rfl) ?_
  refine lv_lload hx hb d_FD_pairNumber_118 (lv_at hl 1 rfl) ?_
  refine vp_callSi (va_Run.run (va_runSN (As := [.long v9]) (rest := [.int (nI q9)]) ⟨hx, hb, hml, hown, hw⟩ (k_TB_least l D cI cJ v9) (⟨va_cnB 1 hw (gI kw_531) rfl rfl rfl (hE.2.1 _ (List.mem_of_getElem? (i := 5) rfl)) (hw _ kw_40) (by decide +kernel) ⟨Nat.le_of_ble_eq_true rfl, Nat.le_of_ble_eq_true rfl⟩, hw _ kw_530, trivial⟩) (pre_Sp (wc := []) hE hX hP hS [] rfl) rfl rfl hl.1 rfl (lv_room (Nat.le_of_ble_eq_true rfl)) d_FD_pairNumber_120 ⟨Nat.le_of_ble_eq_true rfl, Nat.le_of_ble_eq_true rfl⟩)) (fun r_3 hr_3 => ?_)
  obtain rfl : bcL ((v9 &&& -v9) - 1) + nI 1 = r_3 := hr_3.symm
  refine vp_callSi (va_Run.run (va_runSN (As := [.int (nI q9), .int (bcL ((v9 &&& -v9) - 1) + nI 1)]) (rest := []) ⟨hx, hb, hml, hown, hw⟩ (k_TB_pairOf l D cI cJ (nI q9) (bcL ((v9 &&& -v9) - 1) + nI 1)) (⟨va_cnB 2 hw (gI kw_535) rfl rfl rfl (hE.2.1 _ (List.mem_of_getElem? (i := 6) rfl)) (hw _ kw_40) (by decide +kernel) ⟨Nat.le_of_ble_eq_true rfl, Nat.le_of_ble_eq_true rfl⟩, hw _ kw_534, trivial⟩) (pre_Sp (wc := []) hE hX hP hS [] rfl) rfl rfl hl.1 rfl (lv_room (Nat.le_of_ble_eq_true rfl)) d_FD_pairNumber_123 ⟨Nat.le_of_ble_eq_true rfl, Nat.le_of_ble_eq_true rfl⟩)) (fun r_4 hr_4 => ?_)
  obtain rfl : ((nI q9) <<< (nI 6 &&& 31)) ||| (bcL ((v9 &&& -v9) - 1) + nI 1) = r_4 := hr_4.symm
  exact W.iret (v := ((nI q9) <<< (nI 6 &&& 31)) ||| (bcL ((v9 &&& -v9) - 1) + nI 1)) hx hb hr (fun t9 ht hW => ⟨_, rfl, (by unfold pnV; rw [← hY]; dsimp only; rw [← hX9]; dsimp only; rw [← hv]; rfl), ht⟩) (fun q h => by cases h) d_FD_pairNumber_126
theorem jn_min {a b : Nat} (ha : a < 2 ^ 31) (hb : b < 2 ^ 31) : (if nI b < nI a then nI b else nI a) = nI (min a b) := by
  by_cases h : b < a
  · rw [if_pos ((nI_ltI hb ha).mpr h), Nat.min_eq_right (by omega)]
  · rw [if_neg (fun z => h ((nI_ltI hb ha).mp z)), Nat.min_eq_left (by omega)]
theorem jn_max {a b : Nat} (ha : a < 2 ^ 31) (hb : b < 2 ^ 31) : (if nI a < nI b then nI b else nI a) = nI (max a b) := by
  by_cases h : a < b
  · rw [if_pos ((nI_ltI ha hb).mpr h), Nat.max_eq_right (by omega)]
  · rw [if_neg (fun z => h ((nI_ltI ha hb).mp z)), Nat.max_eq_left (by omega)]
set_option maxHeartbeats 4000000 in
set_option maxRecDepth 100000 in
/-- joinPair -/
theorem k_TB_joinPair (l : Launch) (D : va_G) (cI cJ : ClassId) (x0 : Nat) (c0 : Nat) (e0 : Nat) (f0 : Nat) (f1 : Nat) (f2 : Nat) (f3 : Nat) (f4 : Nat) (o1 : Nat) (np : Int32) (ns : Int32) (aw : Int32) (s1 : Nat) (s2 : Nat) (s3 : Nat) (ty : Int32) (wa : Int32) (st : Nat → Int32) (sd : Nat → Int32) (be : Nat → Int64) (ce : Nat → Int32) (oq : Nat → Int64) (rp : Nat → Int32) (pl : Nat) (tl : Nat → Int32) (t : Nat) (x : Int32) (sz : Nat) (hp1 : 43 ≤ pl) (hp2 : pl ≤ 1720) (hce : okCe ce) (hsd : okSd sd) (hst : okSt st) (ht : t ≤ 60) (hpr : pnV oq rp x = nI (pl * 64 + t)) : Met l y_TB_joinPair ws_TB_joinPair ({ frames := 5, cells := 0, slots := 0, locals := 126 } : Room) (va_Pc [.ref x0, .int x] (Pw D cI cJ [(x0, .inr (0, [.ref o1, .ref f0, .ref c0, .ref e0])), (f0, .inr (2, [.ref o1, .ref f1, .ref f2, .ref f3, .ref f4, .int np, .int ns, .int aw])), (f1, .inl (cI, 1764, .inl ce)), (f2, .inl (cJ, 1764, .inr (.inl oq))), (f3, .inl (cI, 42, .inl rp)), (f4, .inl (cI, 61, .inl tl)), (o1, .inr (1, [.ref s1, .ref s2, .ref s3, .int ty, .int wa])), (s1, .inl (cI, 100, .inl st)), (s2, .inl (cI, 244, .inl sd)), (s3, .inl (cJ, 400, .inr (.inl be)))] sz)) (va_Qv (fun (_u : Unit) => True) (fun _u t9 => Bw D (va_A [(x0, .inr (0, [.ref o1, .ref f0, .ref c0, .ref e0])), (f0, .inr (2, [.ref o1, .ref f1, .ref f2, .ref f3, .ref f4, .int np, .int ns, .int aw])), (f1, .inl (cI, 1764, .inl ce)), (f2, .inl (cJ, 1764, .inr (.inl oq))), (f3, .inl (cI, 42, .inl rp)), (f4, .inl (cI, 61, .inl tl)), (o1, .inr (1, [.ref s1, .ref s2, .ref s3, .int ty, .int wa])), (s1, .inl (cI, 100, .inl st)), (s2, .inl (cI, 244, .inl sd)), (s3, .inl (cJ, 400, .inr (.inl be)))] sz) [(x0, .inr (0, [.ref o1, .ref f0, .ref c0, .ref e0])), (f0, .inr (2, [.ref o1, .ref f1, .ref f2, .ref f3, .ref f4, .int ((raL (upd ce pl (nI t ||| ((ifL ce sd st pl t 4) <<< (nI 6 &&& 31)))) sd st be wa pl (oq, rp, np) 5).2.2), .int (nsP ns (nI t ||| ((ifL ce sd st pl t 4) <<< (nI 6 &&& 31)))), .int (nI 1)])), (f1, .inl (cI, 1764, .inl (upd ce pl (nI t ||| ((ifL ce sd st pl t 4) <<< (nI 6 &&& 31)))))), (f2, .inl (cJ, 1764, .inr (.inl ((raL (upd ce pl (nI t ||| ((ifL ce sd st pl t 4) <<< (nI 6 &&& 31)))) sd st be wa pl (oq, rp, np) 5).1)))), (f3, .inl (cI, 42, .inl ((raL (upd ce pl (nI t ||| ((ifL ce sd st pl t 4) <<< (nI 6 &&& 31)))) sd st be wa pl (oq, rp, np) 5).2.1))), (f4, .inl (cI, 61, .inl (tlP tl (nI t ||| ((ifL ce sd st pl t 4) <<< (nI 6 &&& 31)))))), (o1, .inr (1, [.ref s1, .ref s2, .ref s3, .int ty, .int wa])), (s1, .inl (cI, 100, .inl st)), (s2, .inl (cI, 244, .inl sd)), (s3, .inl (cJ, 400, .inr (.inl be)))] t9) (va_A [(x0, .inr (0, [.ref o1, .ref f0, .ref c0, .ref e0])), (f0, .inr (2, [.ref o1, .ref f1, .ref f2, .ref f3, .ref f4, .int np, .int ns, .int aw])), (f1, .inl (cI, 1764, .inl ce)), (f2, .inl (cJ, 1764, .inr (.inl oq))), (f3, .inl (cI, 42, .inl rp)), (f4, .inl (cI, 61, .inl tl)), (o1, .inr (1, [.ref s1, .ref s2, .ref s3, .int ty, .int wa])), (s1, .inl (cI, 100, .inl st)), (s2, .inl (cI, 244, .inl sd)), (s3, .inl (cJ, 400, .inr (.inl be)))] sz)) 0 0 (va_A [(x0, .inr (0, [.ref o1, .ref f0, .ref c0, .ref e0])), (f0, .inr (2, [.ref o1, .ref f1, .ref f2, .ref f3, .ref f4, .int np, .int ns, .int aw])), (f1, .inl (cI, 1764, .inl ce)), (f2, .inl (cJ, 1764, .inr (.inl oq))), (f3, .inl (cI, 42, .inl rp)), (f4, .inl (cI, 61, .inl tl)), (o1, .inr (1, [.ref s1, .ref s2, .ref s3, .int ty, .int wa])), (s1, .inl (cI, 100, .inl st)), (s2, .inl (cI, 244, .inl sd)), (s3, .inl (cJ, 400, .inr (.inl be)))] sz) := by
  refine Met.ofW (cc := c_TB_joinPair) (maxL := 3) (ret := none) (by decide) rfl ?_
  intro p e s m args below meth c s₁ B hml hv
  obtain ⟨rfl, hsz, hE, hP, hD0, hX⟩ := hv
  have hx := B.exec
  have hb := B.bytes
  have hr := B.returns
  have hw : ∀ w ∈ gw, w.before _ s = true := fun w h => atoms_spec (ws := ws_TB_joinPair) B.pre w (List.mem_cons_of_mem _ h)
  have hown : s.vm.findClass R_TB = some m.cls := findClass_of_methodNamed B.named
  have hlocks := B.notSynchronized
  subst hsz
  have hD := hD0.self (sz := s.heap.size)
  generalize hAe : va_A [(x0, .inr (0, [.ref o1, .ref f0, .ref c0, .ref e0])), (f0, .inr (2, [.ref o1, .ref f1, .ref f2, .ref f3, .ref f4, .int np, .int ns, .int aw])), (f1, .inl (cI, 1764, .inl ce)), (f2, .inl (cJ, 1764, .inr (.inl oq))), (f3, .inl (cI, 42, .inl rp)), (f4, .inl (cI, 61, .inl tl)), (o1, .inr (1, [.ref s1, .ref s2, .ref s3, .int ty, .int wa])), (s1, .inl (cI, 100, .inl st)), (s2, .inl (cI, 244, .inl sd)), (s3, .inl (cJ, 400, .inr (.inl be)))] s.heap.size = A at hD hX ⊢
  have hA : ∀ q : Nat, s.heap.size ≤ q → A q := fun q h => by rw [← hAe]; exact Or.inr h
  have hS : va_S A s.heap s.heap [] := va_S.rf
  have hP : va_P D vwCl [(x0, .inr (0, [.ref o1, .ref f0, .ref c0, .ref e0])), (f0, .inr (2, [.ref o1, .ref f1, .ref f2, .ref f3, .ref f4, .int np, .int ns, .int aw])), (f1, .inl (cI, 1764, .inl ce)), (f2, .inl (cJ, 1764, .inr (.inl oq))), (f3, .inl (cI, 42, .inl rp)), (f4, .inl (cI, 61, .inl tl)), (o1, .inr (1, [.ref s1, .ref s2, .ref s3, .int ty, .int wa])), (s1, .inl (cI, 100, .inl st)), (s2, .inl (cI, 244, .inl sd)), (s3, .inl (cJ, 400, .inr (.inl be)))] s.heap := hP
  have hl := lv_entry ([.ref x0, .int x]) (n := 3) (Nat.le_of_ble_eq_true rfl)
  rw [lg_entry_eq]
  generalize (lg_sl ([.ref x0, .int x]) ++ List.replicate (3 - (lg_sl ([.ref x0, .int x])).length) Slot.unset).toArray = ls at hl ⊢
  have hl : lv_has ls 3 [(0, .ref x0), (1, .int x)] := hl
  refine lv_aload_n hx hb d_TB_joinPair_0 rfl (lv_at hl 0 rfl) ?_
  refine va_get (D := D) (ci := 0) (v := .ref f0) (C := R_TB) (T := T_TB) (N := 4) hx hb hw in_TB hown hE.1 hP 0 rfl rfl 1 (by decide) (hw _ kw_183) (fun _ h9 => h9) rfl d_TB_joinPair_1 ?_
  refine lv_iload_n hx hb d_TB_joinPair_4 rfl (lv_at hl 1 rfl) ?_
  refine vp_callSi (va_Run.run (va_runV (As := [.int x]) (rest := []) ⟨hx, hb, hml, hown, hw⟩ (k_FD_pairNumber l D cI cJ f0 f1 f2 f3 f4 o1 np ns aw oq rp x) (cwV 1 hw (gV kw_520 kw_521 kw_522 kw_42 kw_523) rfl rfl rfl (by decide +kernel) ⟨Nat.le_of_ble_eq_true rfl, Nat.le_of_ble_eq_true rfl⟩) (pre_Vp (wc := [(f0, .inr (2, [.ref o1, .ref f1, .ref f2, .ref f3, .ref f4, .int np, .int ns, .int aw])), (f2, .inl (cJ, 1764, .inr (.inl oq))), (f3, .inl (cI, 42, .inl rp))]) (q0 := 0) hE hX hP hS [1, 3, 4] rfl rfl rfl) rfl rfl hl.1 rfl (lv_room (Nat.le_of_ble_eq_true rfl)) d_TB_joinPair_5 ⟨Nat.le_of_ble_eq_true rfl, Nat.le_of_ble_eq_true rfl⟩)) (fun r_1 hr_1 => ?_)
  obtain rfl : pnV oq rp x = r_1 := hr_1.symm
  refine W.eq (g2 := F0 m 8 ls [.int (nI (pl * 64 + t))]) (by rw [hpr]) ?_
  refine lv_istore_n (lv' := [(2, .int (nI (pl * 64 + t))), (0, .ref x0), (1, .int x)]) hx hb d_TB_joinPair_8 rfl hl (by decide) rfl (fun ls hl => ?_)
  refine lv_aload_n hx hb d_TB_joinPair_9 rfl (lv_at hl 1 rfl) ?_
  refine va_get (D := D) (ci := 0) (v := .ref f0) (C := R_TB) (T := T_TB) (N := 4) hx hb hw in_TB hown hE.1 hP 0 rfl rfl 1 (by decide) (hw _ kw_183) (fun _ h9 => h9) rfl d_TB_joinPair_10 ?_
  refine lv_iload_n hx hb d_TB_joinPair_13 rfl (lv_at hl 0 rfl) ?_
  refine vp_callSi (va_Run.run (va_runS (As := [.int (nI (pl * 64 + t))]) (rest := [.ref f0]) ⟨hx, hb, hml, hown, hw⟩ (k_TB_placeIn l D cI cJ (pl * 64 + t) (by omega)) (va_cwS 1 hw (gS kw_536 kw_537 kw_40 kw_538) rfl rfl rfl (by decide +kernel) ⟨Nat.le_of_ble_eq_true rfl, Nat.le_of_ble_eq_true rfl⟩) (pre_Sp (wc := []) hE hX hP hS [] rfl) rfl rfl hl.1 rfl (lv_room (Nat.le_of_ble_eq_true rfl)) d_TB_joinPair_14 ⟨Nat.le_of_ble_eq_true rfl, Nat.le_of_ble_eq_true rfl⟩)) (fun r_2 hr_2 => ?_)
  obtain rfl : nI ((pl * 64 + t) / 64) = r_2 := hr_2.symm
  refine W.eq (g2 := F0 m 17 ls [.int (nI pl), .ref f0]) (by rw [show (pl * 64 + t) / 64 = pl by omega]) ?_
  refine lv_iload_n hx hb d_TB_joinPair_17 rfl (lv_at hl 0 rfl) ?_
  refine vp_callSi (va_Run.run (va_runS (As := [.int (nI (pl * 64 + t))]) (rest := [.int (nI pl), .ref f0]) ⟨hx, hb, hml, hown, hw⟩ (k_TB_typeIn l D cI cJ (pl * 64 + t) (by omega)) (va_cwS 1 hw (gS kw_539 kw_540 kw_40 kw_541) rfl rfl rfl (by decide +kernel) ⟨Nat.le_of_ble_eq_true rfl, Nat.le_of_ble_eq_true rfl⟩) (pre_Sp (wc := []) hE hX hP hS [] rfl) rfl rfl hl.1 rfl (lv_room (Nat.le_of_ble_eq_true rfl)) d_TB_joinPair_18 ⟨Nat.le_of_ble_eq_true rfl, Nat.le_of_ble_eq_true rfl⟩)) (fun r_3 hr_3 => ?_)
  obtain rfl : nI ((pl * 64 + t) % 64) = r_3 := hr_3.symm
  refine W.eq (g2 := F0 m 21 ls [.int (nI t), .int (nI pl), .ref f0]) (by rw [show (pl * 64 + t) % 64 = t by omega]) ?_
  refine cl_v (wr := [(x0, .inr (0, [.ref o1, .ref f0, .ref c0, .ref e0]))]) (va_runV (As := [.int (nI pl), .int (nI t)]) (rest := []) ⟨hx, hb, hml, hown, hw⟩ (k_FD_join l D cI cJ f0 f1 f2 f3 f4 o1 np ns aw s1 s2 s3 ty wa st sd be ce oq rp pl tl t _ hp1 hp2 hce hsd hst ht) (cwV 2 hw (gV kw_492 kw_493 kw_494 kw_42 kw_495) rfl rfl rfl (by decide +kernel) ⟨Nat.le_of_ble_eq_true rfl, Nat.le_of_ble_eq_true rfl⟩) (pre_Vw (wc := [(f0, .inr (2, [.ref o1, .ref f1, .ref f2, .ref f3, .ref f4, .int np, .int ns, .int aw])), (f1, .inl (cI, 1764, .inl ce)), (f2, .inl (cJ, 1764, .inr (.inl oq))), (f3, .inl (cI, 42, .inl rp)), (f4, .inl (cI, 61, .inl tl)), (o1, .inr (1, [.ref s1, .ref s2, .ref s3, .int ty, .int wa])), (s1, .inl (cI, 100, .inl st)), (s2, .inl (cI, 244, .inl sd)), (s3, .inl (cJ, 400, .inr (.inl be)))]) (q0 := 0) hE hX hA hP hD hS [1, 2, 3, 4, 5, 6, 7, 8, 9] (by decide) rfl rfl rfl rfl) rfl rfl hl.1 rfl (lv_room (Nat.le_of_ble_eq_true rfl)) d_TB_joinPair_21 ⟨Nat.le_of_ble_eq_true rfl, Nat.le_of_ble_eq_true rfl⟩) hP hD hS hA [1, 2, 3, 4, 5, 6, 7, 8, 9] [0] rfl rfl (by decide) (by decide) (fun u_r_4 H locs hr_4 hP hD hS => ?_)
  have hP : va_P D vwCl [(x0, .inr (0, [.ref o1, .ref f0, .ref c0, .ref e0])), (f0, .inr (2, [.ref o1, .ref f1, .ref f2, .ref f3, .ref f4, .int ((raL (upd ce pl (nI t ||| ((ifL ce sd st pl t 4) <<< (nI 6 &&& 31)))) sd st be wa pl (oq, rp, np) 5).2.2), .int (nsP ns (nI t ||| ((ifL ce sd st pl t 4) <<< (nI 6 &&& 31)))), .int (nI 1)])), (f1, .inl (cI, 1764, .inl (upd ce pl (nI t ||| ((ifL ce sd st pl t 4) <<< (nI 6 &&& 31)))))), (f2, .inl (cJ, 1764, .inr (.inl ((raL (upd ce pl (nI t ||| ((ifL ce sd st pl t 4) <<< (nI 6 &&& 31)))) sd st be wa pl (oq, rp, np) 5).1)))), (f3, .inl (cI, 42, .inl ((raL (upd ce pl (nI t ||| ((ifL ce sd st pl t 4) <<< (nI 6 &&& 31)))) sd st be wa pl (oq, rp, np) 5).2.1))), (f4, .inl (cI, 61, .inl (tlP tl (nI t ||| ((ifL ce sd st pl t 4) <<< (nI 6 &&& 31)))))), (o1, .inr (1, [.ref s1, .ref s2, .ref s3, .int ty, .int wa])), (s1, .inl (cI, 100, .inl st)), (s2, .inl (cI, 244, .inl sd)), (s3, .inl (cJ, 400, .inr (.inl be)))] H := hP
  have hD : va_D A [(x0, .inr (0, [.ref o1, .ref f0, .ref c0, .ref e0])), (f0, .inr (2, [.ref o1, .ref f1, .ref f2, .ref f3, .ref f4, .int ((raL (upd ce pl (nI t ||| ((ifL ce sd st pl t 4) <<< (nI 6 &&& 31)))) sd st be wa pl (oq, rp, np) 5).2.2), .int (nsP ns (nI t ||| ((ifL ce sd st pl t 4) <<< (nI 6 &&& 31)))), .int (nI 1)])), (f1, .inl (cI, 1764, .inl (upd ce pl (nI t ||| ((ifL ce sd st pl t 4) <<< (nI 6 &&& 31)))))), (f2, .inl (cJ, 1764, .inr (.inl ((raL (upd ce pl (nI t ||| ((ifL ce sd st pl t 4) <<< (nI 6 &&& 31)))) sd st be wa pl (oq, rp, np) 5).1)))), (f3, .inl (cI, 42, .inl ((raL (upd ce pl (nI t ||| ((ifL ce sd st pl t 4) <<< (nI 6 &&& 31)))) sd st be wa pl (oq, rp, np) 5).2.1))), (f4, .inl (cI, 61, .inl (tlP tl (nI t ||| ((ifL ce sd st pl t 4) <<< (nI 6 &&& 31)))))), (o1, .inr (1, [.ref s1, .ref s2, .ref s3, .int ty, .int wa])), (s1, .inl (cI, 100, .inl st)), (s2, .inl (cI, 244, .inl sd)), (s3, .inl (cJ, 400, .inr (.inl be)))] := hD
  have hP9 := hP.sub (ws' := [(x0, .inr (0, [.ref o1, .ref f0, .ref c0, .ref e0])), (f0, .inr (2, [.ref o1, .ref f1, .ref f2, .ref f3, .ref f4, .int ((raL (upd ce pl (nI t ||| ((ifL ce sd st pl t 4) <<< (nI 6 &&& 31)))) sd st be wa pl (oq, rp, np) 5).2.2), .int (nsP ns (nI t ||| ((ifL ce sd st pl t 4) <<< (nI 6 &&& 31)))), .int (nI 1)])), (f1, .inl (cI, 1764, .inl (upd ce pl (nI t ||| ((ifL ce sd st pl t 4) <<< (nI 6 &&& 31)))))), (f2, .inl (cJ, 1764, .inr (.inl ((raL (upd ce pl (nI t ||| ((ifL ce sd st pl t 4) <<< (nI 6 &&& 31)))) sd st be wa pl (oq, rp, np) 5).1)))), (f3, .inl (cI, 42, .inl ((raL (upd ce pl (nI t ||| ((ifL ce sd st pl t 4) <<< (nI 6 &&& 31)))) sd st be wa pl (oq, rp, np) 5).2.1))), (f4, .inl (cI, 61, .inl (tlP tl (nI t ||| ((ifL ce sd st pl t 4) <<< (nI 6 &&& 31)))))), (o1, .inr (1, [.ref s1, .ref s2, .ref s3, .int ty, .int wa])), (s1, .inl (cI, 100, .inl st)), (s2, .inl (cI, 244, .inl sd)), (s3, .inl (cJ, 400, .inr (.inl be)))]) [0, 1, 2, 3, 4, 5, 6, 7, 8, 9] rfl
  have hD9 := hD.sub (ws' := [(x0, .inr (0, [.ref o1, .ref f0, .ref c0, .ref e0])), (f0, .inr (2, [.ref o1, .ref f1, .ref f2, .ref f3, .ref f4, .int ((raL (upd ce pl (nI t ||| ((ifL ce sd st pl t 4) <<< (nI 6 &&& 31)))) sd st be wa pl (oq, rp, np) 5).2.2), .int (nsP ns (nI t ||| ((ifL ce sd st pl t 4) <<< (nI 6 &&& 31)))), .int (nI 1)])), (f1, .inl (cI, 1764, .inl (upd ce pl (nI t ||| ((ifL ce sd st pl t 4) <<< (nI 6 &&& 31)))))), (f2, .inl (cJ, 1764, .inr (.inl ((raL (upd ce pl (nI t ||| ((ifL ce sd st pl t 4) <<< (nI 6 &&& 31)))) sd st be wa pl (oq, rp, np) 5).1)))), (f3, .inl (cI, 42, .inl ((raL (upd ce pl (nI t ||| ((ifL ce sd st pl t 4) <<< (nI 6 &&& 31)))) sd st be wa pl (oq, rp, np) 5).2.1))), (f4, .inl (cI, 61, .inl (tlP tl (nI t ||| ((ifL ce sd st pl t 4) <<< (nI 6 &&& 31)))))), (o1, .inr (1, [.ref s1, .ref s2, .ref s3, .int ty, .int wa])), (s1, .inl (cI, 100, .inl st)), (s2, .inl (cI, 244, .inl sd)), (s3, .inl (cJ, 400, .inr (.inl be)))]) [0, 1, 2, 3, 4, 5, 6, 7, 8, 9] (by decide) rfl
  exact W.vret hx hb hr (fun t9 ht hW => ⟨⟨(), rfl, trivial, ⟨by rw [ht]; exact hP9, hD9⟩⟩, hS.F ht⟩) hS.2.2 d_TB_joinPair_24
