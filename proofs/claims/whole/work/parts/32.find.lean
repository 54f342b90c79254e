theorem d_MD_find_0 : decode c_MD_find 0 = .ok (.iconst 0, 1) := by decide +kernel
theorem d_MD_find_1 : decode c_MD_find 1 = .ok (.istore_n 3, 1) := by decide +kernel
theorem d_MD_find_2 : decode c_MD_find 2 = .ok (.iconst 0, 1) := by decide +kernel
theorem d_MD_find_3 : decode c_MD_find 3 = .ok (.istore 4, 2) := by decide +kernel
theorem d_MD_find_5 : decode c_MD_find 5 = .ok (.iload 4, 2) := by decide +kernel
theorem d_MD_find_7 : decode c_MD_find 7 = .ok (.sipush 1600, 3) := by decide +kernel
theorem d_MD_find_10 : decode c_MD_find 10 = .ok (.if_icmp .ge 86, 3) := by decide +kernel
theorem d_MD_find_13 : decode c_MD_find 13 = .ok (.aload_n 1, 1) := by decide +kernel
theorem d_MD_find_14 : decode c_MD_find 14 = .ok (.iload 4, 2) := by decide +kernel
theorem d_MD_find_16 : decode c_MD_find 16 = .ok (.iaload, 1) := by decide +kernel
theorem d_MD_find_17 : decode c_MD_find 17 = .ok (.ifCond .gt 73, 3) := by decide +kernel
theorem d_MD_find_20 : decode c_MD_find 20 = .ok (.aload_n 0, 1) := by decide +kernel
theorem d_MD_find_21 : decode c_MD_find 21 = .ok (.aload_n 1, 1) := by decide +kernel
theorem d_MD_find_22 : decode c_MD_find 22 = .ok (.iload 4, 2) := by decide +kernel
theorem d_MD_find_24 : decode c_MD_find 24 = .ok (.invokevirtual 84, 3) := by decide +kernel
theorem d_MD_find_27 : decode c_MD_find 27 = .ok (.ifCond .ne 6, 3) := by decide +kernel
theorem d_MD_find_30 : decode c_MD_find 30 = .ok (.goto 60, 3) := by decide +kernel
theorem d_MD_find_33 : decode c_MD_find 33 = .ok (.iconst 1, 1) := by decide +kernel
theorem d_MD_find_34 : decode c_MD_find 34 = .ok (.istore 5, 2) := by decide +kernel
theorem d_MD_find_36 : decode c_MD_find 36 = .ok (.iload 5, 2) := by decide +kernel
theorem d_MD_find_38 : decode c_MD_find 38 = .ok (.aload_n 0, 1) := by decide +kernel
theorem d_MD_find_39 : decode c_MD_find 39 = .ok (.getfield 63, 3) := by decide +kernel
theorem d_MD_find_42 : decode c_MD_find 42 = .ok (.if_icmp .gt 48, 3) := by decide +kernel
theorem d_MD_find_45 : decode c_MD_find 45 = .ok (.aload_n 0, 1) := by decide +kernel
theorem d_MD_find_46 : decode c_MD_find 46 = .ok (.aload_n 1, 1) := by decide +kernel
theorem d_MD_find_47 : decode c_MD_find 47 = .ok (.iload 4, 2) := by decide +kernel
theorem d_MD_find_49 : decode c_MD_find 49 = .ok (.iload 5, 2) := by decide +kernel
theorem d_MD_find_51 : decode c_MD_find 51 = .ok (.invokevirtual 88, 3) := by decide +kernel
theorem d_MD_find_54 : decode c_MD_find 54 = .ok (.ifCond .ne 6, 3) := by decide +kernel
theorem d_MD_find_57 : decode c_MD_find 57 = .ok (.goto 27, 3) := by decide +kernel
theorem d_MD_find_60 : decode c_MD_find 60 = .ok (.aload_n 0, 1) := by decide +kernel
theorem d_MD_find_61 : decode c_MD_find 61 = .ok (.iload 4, 2) := by decide +kernel
theorem d_MD_find_63 : decode c_MD_find 63 = .ok (.putfield 92, 3) := by decide +kernel
theorem d_MD_find_66 : decode c_MD_find 66 = .ok (.aload_n 0, 1) := by decide +kernel
theorem d_MD_find_67 : decode c_MD_find 67 = .ok (.iload 5, 2) := by decide +kernel
theorem d_MD_find_69 : decode c_MD_find 69 = .ok (.putfield 95, 3) := by decide +kernel
theorem d_MD_find_72 : decode c_MD_find 72 = .ok (.iinc 3 1, 3) := by decide +kernel
theorem d_MD_find_75 : decode c_MD_find 75 = .ok (.iload_n 3, 1) := by decide +kernel
theorem d_MD_find_76 : decode c_MD_find 76 = .ok (.iload_n 2, 1) := by decide +kernel
theorem d_MD_find_77 : decode c_MD_find 77 = .ok (.iconst 1, 1) := by decide +kernel
theorem d_MD_find_78 : decode c_MD_find 78 = .ok (.iadd, 1) := by decide +kernel
theorem d_MD_find_79 : decode c_MD_find 79 = .ok (.if_icmp .ne 5, 3) := by decide +kernel
theorem d_MD_find_82 : decode c_MD_find 82 = .ok (.iload_n 3, 1) := by decide +kernel
theorem d_MD_find_83 : decode c_MD_find 83 = .ok (.ireturn, 1) := by decide +kernel
theorem d_MD_find_84 : decode c_MD_find 84 = .ok (.iinc 5 1, 3) := by decide +kernel
theorem d_MD_find_87 : decode c_MD_find 87 = .ok (.goto (-51), 3) := by decide +kernel
theorem d_MD_find_90 : decode c_MD_find 90 = .ok (.iinc 4 1, 3) := by decide +kernel
theorem d_MD_find_93 : decode c_MD_find 93 = .ok (.goto (-88), 3) := by decide +kernel
theorem d_MD_find_96 : decode c_MD_find 96 = .ok (.iload_n 3, 1) := by decide +kernel
theorem d_MD_find_97 : decode c_MD_find 97 = .ok (.ireturn, 1) := by decide +kernel
theorem d_MD_hasNeighbour_0 : decode c_MD_hasNeighbour 0 = .ok (.iconst 0, 1) := by decide +kernel
theorem d_MD_hasNeighbour_1 : decode c_MD_hasNeighbour 1 = .ok (.istore_n 3, 1) := by decide +kernel
theorem d_MD_hasNeighbour_2 : decode c_MD_hasNeighbour 2 = .ok (.iconst 0, 1) := by decide +kernel
theorem d_MD_hasNeighbour_3 : decode c_MD_hasNeighbour 3 = .ok (.istore 4, 2) := by decide +kernel
theorem d_MD_hasNeighbour_5 : decode c_MD_hasNeighbour 5 = .ok (.iload 4, 2) := by decide +kernel
theorem d_MD_hasNeighbour_7 : decode c_MD_hasNeighbour 7 = .ok (.iconst 4, 1) := by decide +kernel
theorem d_MD_hasNeighbour_8 : decode c_MD_hasNeighbour 8 = .ok (.if_icmp .ge 37, 3) := by decide +kernel
theorem d_MD_hasNeighbour_11 : decode c_MD_hasNeighbour 11 = .ok (.iload_n 2, 1) := by decide +kernel
theorem d_MD_hasNeighbour_12 : decode c_MD_hasNeighbour 12 = .ok (.iload 4, 2) := by decide +kernel
theorem d_MD_hasNeighbour_14 : decode c_MD_hasNeighbour 14 = .ok (.invokestatic 70, 3) := by decide +kernel
theorem d_MD_hasNeighbour_17 : decode c_MD_hasNeighbour 17 = .ok (.istore 5, 2) := by decide +kernel
theorem d_MD_hasNeighbour_19 : decode c_MD_hasNeighbour 19 = .ok (.iload_n 3, 1) := by decide +kernel
theorem d_MD_hasNeighbour_20 : decode c_MD_hasNeighbour 20 = .ok (.iload 5, 2) := by decide +kernel
theorem d_MD_hasNeighbour_22 : decode c_MD_hasNeighbour 22 = .ok (.ifCond .lt 14, 3) := by decide +kernel
theorem d_MD_hasNeighbour_25 : decode c_MD_hasNeighbour 25 = .ok (.aload_n 1, 1) := by decide +kernel
theorem d_MD_hasNeighbour_26 : decode c_MD_hasNeighbour 26 = .ok (.iload 5, 2) := by decide +kernel
theorem d_MD_hasNeighbour_28 : decode c_MD_hasNeighbour 28 = .ok (.iaload, 1) := by decide +kernel
theorem d_MD_hasNeighbour_29 : decode c_MD_hasNeighbour 29 = .ok (.ifCond .le 7, 3) := by decide +kernel
theorem d_MD_hasNeighbour_32 : decode c_MD_hasNeighbour 32 = .ok (.iconst 1, 1) := by decide +kernel
theorem d_MD_hasNeighbour_33 : decode c_MD_hasNeighbour 33 = .ok (.goto 4, 3) := by decide +kernel
theorem d_MD_hasNeighbour_36 : decode c_MD_hasNeighbour 36 = .ok (.iconst 0, 1) := by decide +kernel
theorem d_MD_hasNeighbour_37 : decode c_MD_hasNeighbour 37 = .ok (.ior, 1) := by decide +kernel
theorem d_MD_hasNeighbour_38 : decode c_MD_hasNeighbour 38 = .ok (.istore_n 3, 1) := by decide +kernel
theorem d_MD_hasNeighbour_39 : decode c_MD_hasNeighbour 39 = .ok (.iinc 4 1, 3) := by decide +kernel
theorem d_MD_hasNeighbour_42 : decode c_MD_hasNeighbour 42 = .ok (.goto (-37), 3) := by decide +kernel
theorem d_MD_hasNeighbour_45 : decode c_MD_hasNeighbour 45 = .ok (.iload_n 3, 1) := by decide +kernel
theorem d_MD_hasNeighbour_46 : decode c_MD_hasNeighbour 46 = .ok (.ireturn, 1) := by decide +kernel
def hnN (fi : Nat → Int32) (p : Nat) : Nat → Nat
  | 0 => 0
  | k + 1 => if bsV p k < 0 then hnN fi p k else if fi (nn (bsV p k)) ≤ 0 then hnN fi p k else 1
theorem or_b1 {a : Nat} (h : a ≤ 1) : nI a ||| nI 1 = nI 1 := by
  rcases (show a = 0 ∨ a = 1 by omega) with rfl | rfl <;> decide +kernel
theorem or_b0 {a : Nat} (h : a ≤ 1) : nI a ||| nI 0 = nI a := by
  rcases (show a = 0 ∨ a = 1 by omega) with rfl | rfl <;> decide +kernel
abbrev FN : Type := Nat × Int32 × Int32
def faT (sg gl fi : Nat → Int32) (te x : Int32) (p t : Nat) (z : FN) : Option Nat × FN :=
  if myN sg gl fi te p t = 0 then (none, z) else if nI (z.1 + 1) = x + nI 1 then (some (z.1 + 1), (z.1 + 1, nI p, nI t)) else (none, (z.1 + 1, nI p, nI t))
def faP (sg gl fi : Nat → Int32) (te x : Int32) (y p : Nat) (z : FN) : Option Nat × FN :=
  if 0 < fi p then (none, z) else if hnN fi p 4 = 0 then (none, z) else itX (faT sg gl fi te x p) y 1 z
def fdV (sg gl fi : Nat → Int32) (te x : Int32) (y : Nat) (fp ft : Int32) : Option Nat × FN := itX (faP sg gl fi te x y) 1600 0 (0, fp, ft)
def fdR (r : Option Nat × FN) : Nat := match r.1 with | some n => n | none => r.2.1
def puI (sg gl fi ip : Nat → Int32) (p t : Nat) : Nat → (Nat → Int32)
  | 0 => upd ip p (nI 0)
  | k + 1 => upd (puI sg gl fi ip p t k) p (puI sg gl fi ip p t k p + (if heV sg gl fi p t k ≤ 0 then nI 0 else nI 1 <<< (nI k &&& 31)))
set_option maxHeartbeats 4000000 in
set_option maxRecDepth 100000 in
theorem lp_k_MD_hasNeighbour_5 {p : Program} {l : Launch} {e : Env} {s : State} {m : MethodId} {args : Array Value} {below : List Frame} {meth : Method} {c : Code} {D : va_G} {cI cJ : ClassId} {Q : State → Prop} (w0 : Nat) (w1 : Nat) (w2 : Nat) (w3 : Nat) (w4 : Nat) (w5 : Nat) (w6 : Nat) (w7 : Nat) (w8 : Nat) (w9 : Nat) (w10 : Nat) (w11 : Nat) (w12 : Nat) (w13 : Nat) (w14 : Nat) (yt : Int32) (te : Int32) (nt : Int32) (wb : Int32) (rc : Int32) (fp : Int32) (ft : Int32) (th : Int32) (a0 : Nat) (fi : Nat → Int32) (pp : Nat) (hp : pp < 1600)  (hx : p.tables.exec = Jvm.exec) (hb : c.code = c_MD_hasNeighbour) (hml : c.maxLocals = 6) (hown : s.vm.findClass R_MD = some m.cls) (hw : ∀ w ∈ gw, w.before args s = true) (hE : En D cI cJ s) (hX : Sx (fun _ => False) s s.heap) (hP : va_P D vwCl [(w0, .inr (5, [.ref w1, .ref w2, .int yt, .int te, .ref w3, .ref w4, .ref w5, .int nt, .int wb, .ref w6, .ref w7, .ref w8, .int rc, .ref w9, .ref w10, .ref w11, .ref w12, .ref w13, .ref w14, .int fp, .int ft, .int th])), (a0, .inl (cI, 1600, .inl fi))] s.heap)
    (kx0 : ∀ (a9 : Nat), (a9 = hnN fi pp 4) → (a9 ≤ 1) → ∀ (ls : Array Slot), lv_has ls 6 [(3, .int (nI a9))] → W p l e ({ frames := 3, cells := 0, slots := 0, locals := 66 } : Room) s m args below meth c s.heap [] 0 0 Q (F0 m 45 ls [])) :
    ∀ (fu : Nat) (k : Nat) (a9 : Nat), 4 - k < fu → (k ≤ 4) → (a9 = hnN fi pp k) → (a9 ≤ 1) → ∀ (ls : Array Slot), lv_has ls 6 [(0, .ref w0), (1, .ref a0), (2, .int (nI pp)), (3, .int (nI a9)), (4, .int (nI k))] → W p l e ({ frames := 3, cells := 0, slots := 0, locals := 66 } : Room) s m args below meth c s.heap [] 0 0 Q (F0 m 5 ls []) := by
  have hS : va_S (fun _ => False) s.heap s.heap [] := va_S.rf
  intro fu
  induction fu with
  | zero =>
    intro k a9 h0
    exact absurd h0 (Nat.not_lt_zero _)
  | succ fu ih =>
    intro k a9 hmu hk ha9 ha1 ls hl
    refine lv_iload hx hb d_MD_hasNeighbour_5 (lv_at hl 4 rfl) ?_
    refine lv_iconst (v := nI 4) hx hb d_MD_hasNeighbour_7 (by decide +kernel) ?_
    refine jn_icmp_ge (tgt := 45) (a := k) (b := 4) hx hb d_MD_hasNeighbour_8 (by decide) (by omega) (by omega) (fun c_8 => ?_) (fun c_8 => ?_)
    · skip
      exact kx0 a9 (by rw [ha9, show k = 4 by omega]) ha1 _ (lv_sub hl [3] rfl)
    · skip
      refine lv_iload_n hx hb d_MD_hasNeighbour_11 rfl (lv_at hl 2 rfl) ?_
      refine lv_iload hx hb d_MD_hasNeighbour_12 (lv_at hl 4 rfl) ?_
      refine vp_callSi (va_Run.run (va_runS (As := [.int (nI pp), .int (nI k)]) (rest := []) ⟨hx, hb, hml, hown, hw⟩ (k_MD_beside l D cI cJ pp k hp (by omega)) (va_cwS 2 hw (gS kw_898 kw_899 kw_45 kw_900) rfl rfl rfl (by decide +kernel) ⟨Nat.le_of_ble_eq_true rfl, Nat.le_of_ble_eq_true rfl⟩) (pre_Sp (wc := []) hE hX hP hS [] rfl) rfl rfl hl.1 rfl (lv_room (Nat.le_of_ble_eq_true rfl)) d_MD_hasNeighbour_14 ⟨Nat.le_of_ble_eq_true rfl, Nat.le_of_ble_eq_true rfl⟩)) (fun r_1 hr_1 => ?_)
      obtain rfl : bsV pp k = r_1 := hr_1.symm
      refine lv_istore (lv' := [(5, .int (bsV pp k)), (0, .ref w0), (1, .ref a0), (2, .int (nI pp)), (3, .int (nI a9)), (4, .int (nI k))]) hx hb d_MD_hasNeighbour_17 hl (by decide) rfl (fun ls hl => ?_)
      refine lv_iload_n hx hb d_MD_hasNeighbour_19 rfl (lv_at hl 4 rfl) ?_
      refine lv_iload hx hb d_MD_hasNeighbour_20 (lv_at hl 0 rfl) ?_
      refine lv_if_lt (tgt := 36) hx hb d_MD_hasNeighbour_22 (by decide) (fun c_22 => ?_) (fun c_22 => ?_)
      · skip
        refine lv_iconst (v := nI 0) hx hb d_MD_hasNeighbour_36 (by decide +kernel) ?_
        refine lv_ior hx hb d_MD_hasNeighbour_37 ?_
        refine W.eq (g2 := F0 m 38 ls [.int (nI a9)]) (by rw [or_b0 ha1]) ?_
        refine lv_istore_n (lv' := [(3, .int (nI a9)), (5, .int (bsV pp k)), (0, .ref w0), (1, .ref a0), (2, .int (nI pp)), (4, .int (nI k))]) hx hb d_MD_hasNeighbour_38 rfl hl (by decide) rfl (fun ls hl => ?_)
        refine lv_iinc (v := nI (k + 1)) (lv' := [(4, .int (nI (k + 1))), (3, .int (nI a9)), (5, .int (bsV pp k)), (0, .ref w0), (1, .ref a0), (2, .int (nI pp))]) hx hb d_MD_hasNeighbour_39 hl (k := 5) rfl (jn_inc k 1) (by decide) rfl (fun ls hl => ?_)
        refine lv_goto (tgt := 5) hx hb d_MD_hasNeighbour_42 (by decide) ?_
        exact ih (k + 1) a9 (by omega) (by omega) (by rw [hnN, if_pos c_22, ← ha9]) ha1 _ (lv_sub hl [3, 4, 5, 1, 0] rfl)
      · skip
        have hbv := bsV_nn hp c_22
        refine lv_aload_n hx hb d_MD_hasNeighbour_25 rfl (lv_at hl 2 rfl) ?_
        refine lv_iload hx hb d_MD_hasNeighbour_26 (lv_at hl 0 rfl) ?_
        refine W.eq (g2 := F0 m 28 ls [.int (nI (nn (bsV pp k))), .ref a0, .int (nI a9)]) (by rw [← hbv.1]) ?_
        refine jn_iald (k := (nn (bsV pp k))) hx hb hE.1 hP 1 0 rfl rfl hbv.2 (by omega) d_MD_hasNeighbour_28 ?_
        refine lv_if_le (tgt := 36) hx hb d_MD_hasNeighbour_29 (by decide) (fun c_29 => ?_) (fun c_29 => ?_)
        · skip
          refine lv_iconst (v := nI 0) hx hb d_MD_hasNeighbour_36 (by decide +kernel) ?_
          refine lv_ior hx hb d_MD_hasNeighbour_37 ?_
          refine W.eq (g2 := F0 m 38 ls [.int (nI a9)]) (by rw [or_b0 ha1]) ?_
          refine lv_istore_n (lv' := [(3, .int (nI a9)), (5, .int (bsV pp k)), (0, .ref w0), (1, .ref a0), (2, .int (nI pp)), (4, .int (nI k))]) hx hb d_MD_hasNeighbour_38 rfl hl (by decide) rfl (fun ls hl => ?_)
          refine lv_iinc (v := nI (k + 1)) (lv' := [(4, .int (nI (k + 1))), (3, .int (nI a9)), (5, .int (bsV pp k)), (0, .ref w0), (1, .ref a0), (2, .int (nI pp))]) hx hb d_MD_hasNeighbour_39 hl (k := 5) rfl (jn_inc k 1) (by decide) rfl (fun ls hl => ?_)
          refine lv_goto (tgt := 5) hx hb d_MD_hasNeighbour_42 (by decide) ?_
          exact ih (k + 1) a9 (by omega) (by omega) (by rw [hnN, if_neg c_22, if_pos c_29, ← ha9]) ha1 _ (lv_sub hl [3, 4, 5, 1, 0] rfl)
        · skip
          refine lv_iconst (v := nI 1) hx hb d_MD_hasNeighbour_32 (by decide +kernel) ?_
          refine lv_goto (tgt := 37) hx hb d_MD_hasNeighbour_33 (by decide) ?_
          refine lv_ior hx hb d_MD_hasNeighbour_37 ?_
          refine W.eq (g2 := F0 m 38 ls [.int (nI 1)]) (by rw [or_b1 ha1]) ?_
          refine lv_istore_n (lv' := [(3, .int (nI 1)), (5, .int (bsV pp k)), (0, .ref w0), (1, .ref a0), (2, .int (nI pp)), (4, .int (nI k))]) hx hb d_MD_hasNeighbour_38 rfl hl (by decide) rfl (fun ls hl => ?_)
          refine lv_iinc (v := nI (k + 1)) (lv' := [(4, .int (nI (k + 1))), (3, .int (nI 1)), (5, .int (bsV pp k)), (0, .ref w0), (1, .ref a0), (2, .int (nI pp))]) hx hb d_MD_hasNeighbour_39 hl (k := 5) rfl (jn_inc k 1) (by decide) rfl (fun ls hl => ?_)
          refine lv_goto (tgt := 5) hx hb d_MD_hasNeighbour_42 (by decide) ?_
          exact ih (k + 1) 1 (by omega) (by omega) (by rw [hnN, if_neg c_22, if_neg c_29]) (Nat.le_refl _) _ (lv_sub hl [3, 4, 5, 1, 0] rfl)
set_option maxHeartbeats 4000000 in
set_option maxRecDepth 100000 in
/-- hasNeighbour -/
theorem k_MD_hasNeighbour (l : Launch) (D : va_G) (cI cJ : ClassId) (w0 : Nat) (w1 : Nat) (w2 : Nat) (w3 : Nat) (w4 : Nat) (w5 : Nat) (w6 : Nat) (w7 : Nat) (w8 : Nat) (w9 : Nat) (w10 : Nat) (w11 : Nat) (w12 : Nat) (w13 : Nat) (w14 : Nat) (yt : Int32) (te : Int32) (nt : Int32) (wb : Int32) (rc : Int32) (fp : Int32) (ft : Int32) (th : Int32) (a0 : Nat) (fi : Nat → Int32) (pp : Nat) (hp : pp < 1600) : Met l y_MD_hasNeighbour ws_MD_hasNeighbour ({ frames := 3, cells := 0, slots := 0, locals := 66 } : Room) (va_Pc [.ref w0, .ref a0, .int (nI pp)] (Pp D cI cJ [(w0, .inr (5, [.ref w1, .ref w2, .int yt, .int te, .ref w3, .ref w4, .ref w5, .int nt, .int wb, .ref w6, .ref w7, .ref w8, .int rc, .ref w9, .ref w10, .ref w11, .ref w12, .ref w13, .ref w14, .int fp, .int ft, .int th])), (a0, .inl (cI, 1600, .inl fi))])) (vp_Si (fun r : Int32 => r = nI (hnN fi pp 4))) 0 0 (fun _ => False) := by
  refine Met.ofW (cc := c_MD_hasNeighbour) (maxL := 6) (ret := (some .boolean)) (by decide) rfl ?_
  intro p e s m args below meth c s₁ B hml hv
  obtain ⟨rfl, hE, hP, hX⟩ := hv
  have hx := B.exec
  have hb := B.bytes
  have hr := B.returns
  have hw : ∀ w ∈ gw, w.before _ s = true := fun w h => atoms_spec (ws := ws_MD_hasNeighbour) B.pre w (List.mem_cons_of_mem _ h)
  have hown : s.vm.findClass R_MD = some m.cls := findClass_of_methodNamed B.named
  have hlocks := B.notSynchronized
  have hS : va_S (fun _ => False) s.heap s.heap [] := va_S.rf
  have hl := lv_entry ([.ref w0, .ref a0, .int (nI pp)]) (n := 6) (Nat.le_of_ble_eq_true rfl)
  rw [lg_entry_eq]
  generalize (lg_sl ([.ref w0, .ref a0, .int (nI pp)]) ++ List.replicate (6 - (lg_sl ([.ref w0, .ref a0, .int (nI pp)])).length) Slot.unset).toArray = ls at hl ⊢
  have hl : lv_has ls 6 [(0, .ref w0), (1, .ref a0), (2, .int (nI pp))] := hl
  refine lv_iconst (v := nI 0) hx hb d_MD_hasNeighbour_0 (by decide +kernel) ?_
  refine lv_istore_n (lv' := [(3, .int (nI 0)), (0, .ref w0), (1, .ref a0), (2, .int (nI pp))]) hx hb d_MD_hasNeighbour_1 rfl hl (by decide) rfl (fun ls hl => ?_)
  refine lv_iconst (v := nI 0) hx hb d_MD_hasNeighbour_2 (by decide +kernel) ?_
  refine lv_istore (lv' := [(4, .int (nI 0)), (3, .int (nI 0)), (0, .ref w0), (1, .ref a0), (2, .int (nI pp))]) hx hb d_MD_hasNeighbour_3 hl (by decide) rfl (fun ls hl => ?_)
  refine lp_k_MD_hasNeighbour_5 w0 w1 w2 w3 w4 w5 w6 w7 w8 w9 w10 w11 w12 w13 w14 yt te nt wb rc fp ft th a0 fi pp hp hx hb hml hown hw hE hX hP (fun a9 ha9 ha1 ls hl => ?_) ((4 - 0) + 1) 0 0 (Nat.lt_succ_self _) (Nat.zero_le _) rfl (Nat.zero_le _) _ (lv_sub hl [2, 3, 4, 1, 0] rfl)
  refine lv_iload_n hx hb d_MD_hasNeighbour_45 rfl (lv_at hl 0 rfl) ?_
  exact W.zret (v := nI a9) hx hb hr (nar_bool ha1) (fun t9 ht hW => ⟨_, rfl, (by rw [ha9]), ht⟩) (fun q h => by cases h) d_MD_hasNeighbour_46
theorem hnN_le (fi : Nat → Int32) (p : Nat) : ∀ k, hnN fi p k ≤ 1
  | 0 => Nat.zero_le _
  | k + 1 => by
    unfold hnN
    have := hnN_le fi p k
    split
    · exact this
    · split
      · exact this
      · exact Nat.le_refl _
theorem myN_le (sg gl fi : Nat → Int32) (te : Int32) (p t : Nat) : myN sg gl fi te p t ≤ 1 := by
  unfold myN
  split
  · split <;> decide
  · decide
set_option maxHeartbeats 4000000 in
set_option maxRecDepth 100000 in
theorem lp_k_MD_find_36 {p : Program} {l : Launch} {e : Env} {s : State} {m : MethodId} {args : Array Value} {below : List Frame} {meth : Method} {c : Code} {D : va_G} {cI cJ : ClassId} {Q : State → Prop} {A : Nat → Prop} (w0 : Nat) (w1 : Nat) (w2 : Nat) (w3 : Nat) (w4 : Nat) (w5 : Nat) (w6 : Nat) (w7 : Nat) (w8 : Nat) (w9 : Nat) (w10 : Nat) (w11 : Nat) (w12 : Nat) (w13 : Nat) (w14 : Nat) (y : Nat) (te : Int32) (nt : Int32) (wb : Int32) (rc : Int32) (fp : Int32) (ft : Int32) (th : Int32) (sg : Nat → Int32) (gl : Nat → Int32) (a0 : Nat) (fi : Nat → Int32) (x : Int32) (hy : y ≤ 60) (hfi : okFi fi) (hgl : okGl gl) (pp : Nat) (hpp : pp < 1600) (k0 : FN) (hx : p.tables.exec = Jvm.exec) (hb : c.code = c_MD_find) (hml : c.maxLocals = 6) (hown : s.vm.findClass R_MD = some m.cls) (hw : ∀ w ∈ gw, w.before args s = true) (hE : En D cI cJ s) (hX : Sx A s s.heap) (hA : ∀ q : Nat, s.heap.size ≤ q → A q)
    (kx0 : ∀ (n8 : Nat) (z8 : FN), (itX (faT sg gl fi te x pp) y 1 k0 = (some n8, z8)) → ∀ (H : Heap) (locs : List Loc) (ls : Array Slot), va_P D vwCl [(w0, .inr (5, [.ref w1, .ref w2, .int (nI y), .int te, .ref w3, .ref w4, .ref w5, .int nt, .int wb, .ref w6, .ref w7, .ref w8, .int rc, .ref w9, .ref w10, .ref w11, .ref w12, .ref w13, .ref w14, .int z8.2.1, .int z8.2.2, .int th])), (w1, .inl (cI, 100, .inl sg)), (w2, .inl (cI, 244, .inl gl)), (a0, .inl (cI, 1600, .inl fi))] H → va_D A [(w0, .inr (5, [.ref w1, .ref w2, .int (nI y), .int te, .ref w3, .ref w4, .ref w5, .int nt, .int wb, .ref w6, .ref w7, .ref w8, .int rc, .ref w9, .ref w10, .ref w11, .ref w12, .ref w13, .ref w14, .int z8.2.1, .int z8.2.2, .int th])), (w1, .inl (cI, 100, .inl sg)), (w2, .inl (cI, 244, .inl gl)), (a0, .inl (cI, 1600, .inl fi))] → va_S A s.heap H locs → lv_has ls 6 [(3, .int (nI n8))] → W p l e ({ frames := 6, cells := 0, slots := 0, locals := 141 } : Room) s m args below meth c H locs 0 0 Q (F0 m 82 ls []))
    (kx1 : ∀ (z8 : FN), (itX (faT sg gl fi te x pp) y 1 k0 = (none, z8)) → (z8.1 ≤ pp * 60 + 60) → ∀ (H : Heap) (locs : List Loc) (ls : Array Slot), va_P D vwCl [(w0, .inr (5, [.ref w1, .ref w2, .int (nI y), .int te, .ref w3, .ref w4, .ref w5, .int nt, .int wb, .ref w6, .ref w7, .ref w8, .int rc, .ref w9, .ref w10, .ref w11, .ref w12, .ref w13, .ref w14, .int z8.2.1, .int z8.2.2, .int th])), (w1, .inl (cI, 100, .inl sg)), (w2, .inl (cI, 244, .inl gl)), (a0, .inl (cI, 1600, .inl fi))] H → va_D A [(w0, .inr (5, [.ref w1, .ref w2, .int (nI y), .int te, .ref w3, .ref w4, .ref w5, .int nt, .int wb, .ref w6, .ref w7, .ref w8, .int rc, .ref w9, .ref w10, .ref w11, .ref w12, .ref w13, .ref w14, .int z8.2.1, .int z8.2.2, .int th])), (w1, .inl (cI, 100, .inl sg)), (w2, .inl (cI, 244, .inl gl)), (a0, .inl (cI, 1600, .inl fi))] → va_S A s.heap H locs → lv_has ls 6 [(0, .ref w0), (1, .ref a0), (2, .int x), (3, .int (nI z8.1)), (4, .int (nI pp))] → W p l e ({ frames := 6, cells := 0, slots := 0, locals := 141 } : Room) s m args below meth c H locs 0 0 Q (F0 m 90 ls [])) :
    ∀ (fu : Nat) (tt : Nat) (z8 : FN), y + 1 - tt < fu → (1 ≤ tt) → (tt ≤ y + 1) → (itX (faT sg gl fi te x pp) (y + 1 - tt) tt z8 = itX (faT sg gl fi te x pp) y 1 k0) → (z8.1 ≤ pp * 60 + (tt - 1)) → ∀ (H : Heap) (locs : List Loc) (ls : Array Slot), va_P D vwCl [(w0, .inr (5, [.ref w1, .ref w2, .int (nI y), .int te, .ref w3, .ref w4, .ref w5, .int nt, .int wb, .ref w6, .ref w7, .ref w8, .int rc, .ref w9, .ref w10, .ref w11, .ref w12, .ref w13, .ref w14, .int z8.2.1, .int z8.2.2, .int th])), (w1, .inl (cI, 100, .inl sg)), (w2, .inl (cI, 244, .inl gl)), (a0, .inl (cI, 1600, .inl fi))] H → va_D A [(w0, .inr (5, [.ref w1, .ref w2, .int (nI y), .int te, .ref w3, .ref w4, .ref w5, .int nt, .int wb, .ref w6, .ref w7, .ref w8, .int rc, .ref w9, .ref w10, .ref w11, .ref w12, .ref w13, .ref w14, .int z8.2.1, .int z8.2.2, .int th])), (w1, .inl (cI, 100, .inl sg)), (w2, .inl (cI, 244, .inl gl)), (a0, .inl (cI, 1600, .inl fi))] → va_S A s.heap H locs → lv_has ls 6 [(0, .ref w0), (1, .ref a0), (2, .int x), (3, .int (nI z8.1)), (4, .int (nI pp)), (5, .int (nI tt))] → W p l e ({ frames := 6, cells := 0, slots := 0, locals := 141 } : Room) s m args below meth c H locs 0 0 Q (F0 m 36 ls []) := by
  intro fu
  induction fu with
  | zero =>
    intro tt z8 h0
    exact absurd h0 (Nat.not_lt_zero _)
  | succ fu ih =>
    intro tt z8 hmu ht1 ht2 hR8 hz8 H locs ls hP hD hS hl
    refine lv_iload hx hb d_MD_find_36 (lv_at hl 5 rfl) ?_
    refine lv_aload_n hx hb d_MD_find_38 rfl (lv_at hl 0 rfl) ?_
    refine va_get (D := D) (ci := 5) (v := .int (nI y)) (C := R_MD) (T := T_MD) (N := 22) hx hb hw in_MD hown hE.1 hP 0 rfl rfl 2 (by decide) (hw _ kw_763) (fun _ h9 => h9) rfl d_MD_find_39 ?_
    refine jn_icmp_gt (tgt := 90) (a := tt) (b := y) hx hb d_MD_find_42 (by decide) (by omega) (by omega) (fun c_42 => ?_) (fun c_42 => ?_)
    · skip
      exact kx1 z8 (by rw [← hR8, show y + 1 - tt = 0 by omega]; rfl) (by omega) _ _ _ (hP.sub [0, 1, 2, 3] rfl) (hD.sub [0, 1, 2, 3] (by decide) rfl) hS (lv_sub hl [0, 1, 2, 3, 4] rfl)
    · skip
      refine lv_aload_n hx hb d_MD_find_45 rfl (lv_at hl 0 rfl) ?_
      refine lv_aload_n hx hb d_MD_find_46 rfl (lv_at hl 1 rfl) ?_
      refine lv_iload hx hb d_MD_find_47 (lv_at hl 4 rfl) ?_
      refine lv_iload hx hb d_MD_find_49 (lv_at hl 5 rfl) ?_
      refine vp_callSi (va_Run.run (va_runV (As := [.ref a0, .int (nI pp), .int (nI tt)]) (rest := []) ⟨hx, hb, hml, hown, hw⟩ (k_MD_may l D cI cJ w0 w1 w2 w3 w4 w5 w6 w7 w8 w9 w10 w11 w12 w13 w14 (nI y) te nt wb rc z8.2.1 z8.2.2 th sg gl a0 fi pp tt hpp (by omega) hfi hgl) (cwV 3 hw (gV kw_886 kw_888 kw_25 kw_45 kw_889) rfl rfl rfl (by decide +kernel) ⟨Nat.le_of_ble_eq_true rfl, Nat.le_of_ble_eq_true rfl⟩) (pre_Vp (wc := [(w0, .inr (5, [.ref w1, .ref w2, .int (nI y), .int te, .ref w3, .ref w4, .ref w5, .int nt, .int wb, .ref w6, .ref w7, .ref w8, .int rc, .ref w9, .ref w10, .ref w11, .ref w12, .ref w13, .ref w14, .int z8.2.1, .int z8.2.2, .int th])), (w1, .inl (cI, 100, .inl sg)), (w2, .inl (cI, 244, .inl gl)), (a0, .inl (cI, 1600, .inl fi))]) (q0 := 0) hE hX hP hS [0, 1, 2, 3] rfl rfl rfl) rfl rfl hl.1 rfl (lv_room (Nat.le_of_ble_eq_true rfl)) d_MD_find_51 ⟨Nat.le_of_ble_eq_true rfl, Nat.le_of_ble_eq_true rfl⟩)) (fun r_1 hr_1 => ?_)
      obtain rfl : nI (myN sg gl fi te pp tt) = r_1 := hr_1.symm
      refine jn_if_ne (tgt := 60) (a := (myN sg gl fi te pp tt)) hx hb d_MD_find_54 (by decide) (by have := myN_le sg gl fi te pp tt; omega) (fun c_54 => ?_) (fun c_54 => ?_)
      · skip
        refine lv_aload_n hx hb d_MD_find_60 rfl (lv_at hl 0 rfl) ?_
        refine lv_iload hx hb d_MD_find_61 (lv_at hl 4 rfl) ?_
        refine va_put (D := D) (ci := 5) (v := .int (nI pp)) (ty := .int) (C := R_MD) (T := T_MD) (N := 22) hx hb hw in_MD ty_MD ty_MD_ok nm_MD_ok hown hE.1 hP hD hS 0 rfl rfl 19 (by decide) (hw _ kw_780) (fun _ h9 => h9) rfl (by decide +kernel) rfl rfl (Nat.le_of_ble_eq_true rfl) d_MD_find_63 (fun H locs hP hD hS => ?_)
        have hP : va_P D vwCl [(w0, .inr (5, [.ref w1, .ref w2, .int (nI y), .int te, .ref w3, .ref w4, .ref w5, .int nt, .int wb, .ref w6, .ref w7, .ref w8, .int rc, .ref w9, .ref w10, .ref w11, .ref w12, .ref w13, .ref w14, .int (nI pp), .int z8.2.2, .int th])), (w1, .inl (cI, 100, .inl sg)), (w2, .inl (cI, 244, .inl gl)), (a0, .inl (cI, 1600, .inl fi))] H := hP
        have hD : va_D A [(w0, .inr (5, [.ref w1, .ref w2, .int (nI y), .int te, .ref w3, .ref w4, .ref w5, .int nt, .int wb, .ref w6, .ref w7, .ref w8, .int rc, .ref w9, .ref w10, .ref w11, .ref w12, .ref w13, .ref w14, .int (nI pp), .int z8.2.2, .int th])), (w1, .inl (cI, 100, .inl sg)), (w2, .inl (cI, 244, .inl gl)), (a0, .inl (cI, 1600, .inl fi))] := hD
        refine lv_aload_n hx hb d_MD_find_66 rfl (lv_at hl 0 rfl) ?_
        refine lv_iload hx hb d_MD_find_67 (lv_at hl 5 rfl) ?_
        refine va_put (D := D) (ci := 5) (v := .int (nI tt)) (ty := .int) (C := R_MD) (T := T_MD) (N := 22) hx hb hw in_MD ty_MD ty_MD_ok nm_MD_ok hown hE.1 hP hD hS 0 rfl rfl 20 (by decide) (hw _ kw_781) (fun _ h9 => h9) rfl (by decide +kernel) rfl rfl (Nat.le_of_ble_eq_true rfl) d_MD_find_69 (fun H locs hP hD hS => ?_)
        have hP : va_P D vwCl [(w0, .inr (5, [.ref w1, .ref w2, .int (nI y), .int te, .ref w3, .ref w4, .ref w5, .int nt, .int wb, .ref w6, .ref w7, .ref w8, .int rc, .ref w9, .ref w10, .ref w11, .ref w12, .ref w13, .ref w14, .int (nI pp), .int (nI tt), .int th])), (w1, .inl (cI, 100, .inl sg)), (w2, .inl (cI, 244, .inl gl)), (a0, .inl (cI, 1600, .inl fi))] H := hP
        have hD : va_D A [(w0, .inr (5, [.ref w1, .ref w2, .int (nI y), .int te, .ref w3, .ref w4, .ref w5, .int nt, .int wb, .ref w6, .ref w7, .ref w8, .int rc, .ref w9, .ref w10, .ref w11, .ref w12, .ref w13, .ref w14, .int (nI pp), .int (nI tt), .int th])), (w1, .inl (cI, 100, .inl sg)), (w2, .inl (cI, 244, .inl gl)), (a0, .inl (cI, 1600, .inl fi))] := hD
        refine lv_iinc (v := nI (z8.1 + 1)) (lv' := [(3, .int (nI (z8.1 + 1))), (0, .ref w0), (1, .ref a0), (2, .int x), (4, .int (nI pp)), (5, .int (nI tt))]) hx hb d_MD_find_72 hl (k := 3) rfl (jn_inc z8.1 1) (by decide) rfl (fun ls hl => ?_)
        refine lv_iload_n hx hb d_MD_find_75 rfl (lv_at hl 0 rfl) ?_
        refine lv_iload_n hx hb d_MD_find_76 rfl (lv_at hl 3 rfl) ?_
        refine lv_iconst (v := nI 1) hx hb d_MD_find_77 (by decide +kernel) ?_
        refine lv_iadd hx hb d_MD_find_78 ?_
        refine lv_icmp_ne (tgt := 84) hx hb d_MD_find_79 (by decide) (fun c_79 => ?_) (fun c_79 => ?_)
        · skip
          refine lv_iinc (v := nI (tt + 1)) (lv' := [(5, .int (nI (tt + 1))), (3, .int (nI (z8.1 + 1))), (0, .ref w0), (1, .ref a0), (2, .int x), (4, .int (nI pp))]) hx hb d_MD_find_84 hl (k := 5) rfl (jn_inc tt 1) (by decide) rfl (fun ls hl => ?_)
          refine lv_goto (tgt := 36) hx hb d_MD_find_87 (by decide) ?_
          exact ih (tt + 1) (z8.1 + 1, nI pp, nI tt) (by omega) (by omega) (by omega) (by rw [← hR8, show y + 1 - (tt + 1) = y + 1 - tt - 1 by omega]; exact (itX_go (by omega) (by show faT sg gl fi te x pp tt z8 = _; unfold faT; rw [if_neg c_54, if_neg c_79])).symm) (show z8.1 + 1 ≤ pp * 60 + (tt + 1 - 1) by omega) _ _ _ (hP.sub [0, 1, 2, 3] rfl) (hD.sub [0, 1, 2, 3] (by decide) rfl) hS (lv_sub hl [2, 3, 4, 1, 5, 0] rfl)
        · skip
          exact kx0 (z8.1 + 1) (z8.1 + 1, nI pp, nI tt) (by rw [← hR8]; exact itX_no (by omega) (by show faT sg gl fi te x pp tt z8 = _; unfold faT; rw [if_neg c_54, if_pos c_79])) _ _ _ (hP.sub [0, 1, 2, 3] rfl) (hD.sub [0, 1, 2, 3] (by decide) rfl) hS (lv_sub hl [0] rfl)
      · skip
        refine lv_goto (tgt := 84) hx hb d_MD_find_57 (by decide) ?_
        refine lv_iinc (v := nI (tt + 1)) (lv' := [(5, .int (nI (tt + 1))), (0, .ref w0), (1, .ref a0), (2, .int x), (3, .int (nI z8.1)), (4, .int (nI pp))]) hx hb d_MD_find_84 hl (k := 5) rfl (jn_inc tt 1) (by decide) rfl (fun ls hl => ?_)
        refine lv_goto (tgt := 36) hx hb d_MD_find_87 (by decide) ?_
        exact ih (tt + 1) z8 (by omega) (by omega) (by omega) (by rw [← hR8, show y + 1 - (tt + 1) = y + 1 - tt - 1 by omega]; exact (itX_go (by omega) (by show faT sg gl fi te x pp tt z8 = _; unfold faT; rw [if_pos c_54])).symm) (by omega) _ _ _ (hP.sub [0, 1, 2, 3] rfl) (hD.sub [0, 1, 2, 3] (by decide) rfl) hS (lv_sub hl [1, 2, 3, 4, 5, 0] rfl)
set_option maxHeartbeats 4000000 in
set_option maxRecDepth 100000 in
theorem lp_k_MD_find_5 {p : Program} {l : Launch} {e : Env} {s : State} {m : MethodId} {args : Array Value} {below : List Frame} {meth : Method} {c : Code} {D : va_G} {cI cJ : ClassId} {Q : State → Prop} {A : Nat → Prop} (w0 : Nat) (w1 : Nat) (w2 : Nat) (w3 : Nat) (w4 : Nat) (w5 : Nat) (w6 : Nat) (w7 : Nat) (w8 : Nat) (w9 : Nat) (w10 : Nat) (w11 : Nat) (w12 : Nat) (w13 : Nat) (w14 : Nat) (y : Nat) (te : Int32) (nt : Int32) (wb : Int32) (rc : Int32) (fp : Int32) (ft : Int32) (th : Int32) (sg : Nat → Int32) (gl : Nat → Int32) (a0 : Nat) (fi : Nat → Int32) (x : Int32) (hy : y ≤ 60) (hfi : okFi fi) (hgl : okGl gl)  (hx : p.tables.exec = Jvm.exec) (hb : c.code = c_MD_find) (hml : c.maxLocals = 6) (hown : s.vm.findClass R_MD = some m.cls) (hw : ∀ w ∈ gw, w.before args s = true) (hE : En D cI cJ s) (hX : Sx A s s.heap) (hA : ∀ q : Nat, s.heap.size ≤ q → A q)
    (kx0 : ∀ (n8 : Nat) (z9 : FN), (itX (faP sg gl fi te x y) 1600 0 (0, fp, ft) = (some n8, z9)) → ∀ (H : Heap) (locs : List Loc) (ls : Array Slot), va_P D vwCl [(w0, .inr (5, [.ref w1, .ref w2, .int (nI y), .int te, .ref w3, .ref w4, .ref w5, .int nt, .int wb, .ref w6, .ref w7, .ref w8, .int rc, .ref w9, .ref w10, .ref w11, .ref w12, .ref w13, .ref w14, .int z9.2.1, .int z9.2.2, .int th])), (w1, .inl (cI, 100, .inl sg)), (w2, .inl (cI, 244, .inl gl)), (a0, .inl (cI, 1600, .inl fi))] H → va_D A [(w0, .inr (5, [.ref w1, .ref w2, .int (nI y), .int te, .ref w3, .ref w4, .ref w5, .int nt, .int wb, .ref w6, .ref w7, .ref w8, .int rc, .ref w9, .ref w10, .ref w11, .ref w12, .ref w13, .ref w14, .int z9.2.1, .int z9.2.2, .int th])), (w1, .inl (cI, 100, .inl sg)), (w2, .inl (cI, 244, .inl gl)), (a0, .inl (cI, 1600, .inl fi))] → va_S A s.heap H locs → lv_has ls 6 [(3, .int (nI n8))] → W p l e ({ frames := 6, cells := 0, slots := 0, locals := 141 } : Room) s m args below meth c H locs 0 0 Q (F0 m 82 ls []))
    (kx1 : ∀ (z9 : FN), (itX (faP sg gl fi te x y) 1600 0 (0, fp, ft) = (none, z9)) → ∀ (H : Heap) (locs : List Loc) (ls : Array Slot), va_P D vwCl [(w0, .inr (5, [.ref w1, .ref w2, .int (nI y), .int te, .ref w3, .ref w4, .ref w5, .int nt, .int wb, .ref w6, .ref w7, .ref w8, .int rc, .ref w9, .ref w10, .ref w11, .ref w12, .ref w13, .ref w14, .int z9.2.1, .int z9.2.2, .int th])), (w1, .inl (cI, 100, .inl sg)), (w2, .inl (cI, 244, .inl gl)), (a0, .inl (cI, 1600, .inl fi))] H → va_D A [(w0, .inr (5, [.ref w1, .ref w2, .int (nI y), .int te, .ref w3, .ref w4, .ref w5, .int nt, .int wb, .ref w6, .ref w7, .ref w8, .int rc, .ref w9, .ref w10, .ref w11, .ref w12, .ref w13, .ref w14, .int z9.2.1, .int z9.2.2, .int th])), (w1, .inl (cI, 100, .inl sg)), (w2, .inl (cI, 244, .inl gl)), (a0, .inl (cI, 1600, .inl fi))] → va_S A s.heap H locs → lv_has ls 6 [(3, .int (nI z9.1))] → W p l e ({ frames := 6, cells := 0, slots := 0, locals := 141 } : Room) s m args below meth c H locs 0 0 Q (F0 m 96 ls [])) :
    ∀ (fu : Nat) (pp : Nat) (z9 : FN), 1600 - pp < fu → (pp ≤ 1600) → (itX (faP sg gl fi te x y) (1600 - pp) pp z9 = itX (faP sg gl fi te x y) 1600 0 (0, fp, ft)) → (z9.1 ≤ pp * 60) → ∀ (H : Heap) (locs : List Loc) (ls : Array Slot), va_P D vwCl [(w0, .inr (5, [.ref w1, .ref w2, .int (nI y), .int te, .ref w3, .ref w4, .ref w5, .int nt, .int wb, .ref w6, .ref w7, .ref w8, .int rc, .ref w9, .ref w10, .ref w11, .ref w12, .ref w13, .ref w14, .int z9.2.1, .int z9.2.2, .int th])), (w1, .inl (cI, 100, .inl sg)), (w2, .inl (cI, 244, .inl gl)), (a0, .inl (cI, 1600, .inl fi))] H → va_D A [(w0, .inr (5, [.ref w1, .ref w2, .int (nI y), .int te, .ref w3, .ref w4, .ref w5, .int nt, .int wb, .ref w6, .ref w7, .ref w8, .int rc, .ref w9, .ref w10, .ref w11, .ref w12, .ref w13, .ref w14, .int z9.2.1, .int z9.2.2, .int th])), (w1, .inl (cI, 100, .inl sg)), (w2, .inl (cI, 244, .inl gl)), (a0, .inl (cI, 1600, .inl fi))] → va_S A s.heap H locs → lv_has ls 6 [(0, .ref w0), (1, .ref a0), (2, .int x), (3, .int (nI z9.1)), (4, .int (nI pp))] → W p l e ({ frames := 6, cells := 0, slots := 0, locals := 141 } : Room) s m args below meth c H locs 0 0 Q (F0 m 5 ls []) := by
  intro fu
  induction fu with
  | zero =>
    intro pp z9 h0
    exact absurd h0 (Nat.not_lt_zero _)
  | succ fu ih =>
    intro pp z9 hmu hpp hR hz9 H locs ls hP hD hS hl
    refine lv_iload hx hb d_MD_find_5 (lv_at hl 4 rfl) ?_
    refine lv_sipush (v := nI 1600) hx hb d_MD_find_7 (by decide +kernel) ?_
    refine jn_icmp_ge (tgt := 96) (a := pp) (b := 1600) hx hb d_MD_find_10 (by decide) (by omega) (by omega) (fun c_10 => ?_) (fun c_10 => ?_)
    · skip
      exact kx1 z9 (by rw [← hR, show 1600 - pp = 0 by omega]; rfl) _ _ _ (hP.sub [0, 1, 2, 3] rfl) (hD.sub [0, 1, 2, 3] (by decide) rfl) hS (lv_sub hl [3] rfl)
    · skip
      refine lv_aload_n hx hb d_MD_find_13 rfl (lv_at hl 1 rfl) ?_
      refine lv_iload hx hb d_MD_find_14 (lv_at hl 4 rfl) ?_
      refine jn_iald (k := pp) hx hb hE.1 hP 3 0 rfl rfl (by omega) (by omega) d_MD_find_16 ?_
      refine lv_if_gt (tgt := 90) hx hb d_MD_find_17 (by decide) (fun c_17 => ?_) (fun c_17 => ?_)
      · skip
        refine lv_iinc (v := nI (pp + 1)) (lv' := [(4, .int (nI (pp + 1))), (0, .ref w0), (1, .ref a0), (2, .int x), (3, .int (nI z9.1))]) hx hb d_MD_find_90 hl (k := 4) rfl (jn_inc pp 1) (by decide) rfl (fun ls hl => ?_)
        refine lv_goto (tgt := 5) hx hb d_MD_find_93 (by decide) ?_
        exact ih (pp + 1) z9 (by omega) (by omega) (by rw [← hR, show 1600 - (pp + 1) = 1600 - pp - 1 by omega]; exact (itX_go (by omega) (by show faP sg gl fi te x y pp z9 = _; unfold faP; rw [if_pos c_17])).symm) (by omega) _ _ _ (hP.sub [0, 1, 2, 3] rfl) (hD.sub [0, 1, 2, 3] (by decide) rfl) hS (lv_sub hl [1, 2, 3, 4, 0] rfl)
      · skip
        have c17 := c_17
        refine lv_aload_n hx hb d_MD_find_20 rfl (lv_at hl 0 rfl) ?_
        refine lv_aload_n hx hb d_MD_find_21 rfl (lv_at hl 1 rfl) ?_
        refine lv_iload hx hb d_MD_find_22 (lv_at hl 4 rfl) ?_
        refine vp_callSi (va_Run.run (va_runV (As := [.ref a0, .int (nI pp)]) (rest := []) ⟨hx, hb, hml, hown, hw⟩ (k_MD_hasNeighbour l D cI cJ w0 w1 w2 w3 w4 w5 w6 w7 w8 w9 w10 w11 w12 w13 w14 (nI y) te nt wb rc z9.2.1 z9.2.2 th a0 fi pp (by omega)) (cwV 2 hw (gV kw_917 kw_919 kw_31 kw_45 kw_920) rfl rfl rfl (by decide +kernel) ⟨Nat.le_of_ble_eq_true rfl, Nat.le_of_ble_eq_true rfl⟩) (pre_Vp (wc := [(w0, .inr (5, [.ref w1, .ref w2, .int (nI y), .int te, .ref w3, .ref w4, .ref w5, .int nt, .int wb, .ref w6, .ref w7, .ref w8, .int rc, .ref w9, .ref w10, .ref w11, .ref w12, .ref w13, .ref w14, .int z9.2.1, .int z9.2.2, .int th])), (a0, .inl (cI, 1600, .inl fi))]) (q0 := 0) hE hX hP hS [0, 3] rfl rfl rfl) rfl rfl hl.1 rfl (lv_room (Nat.le_of_ble_eq_true rfl)) d_MD_find_24 ⟨Nat.le_of_ble_eq_true rfl, Nat.le_of_ble_eq_true rfl⟩)) (fun r_1 hr_1 => ?_)
        obtain rfl : nI (hnN fi pp 4) = r_1 := hr_1.symm
        refine jn_if_ne (tgt := 33) (a := (hnN fi pp 4)) hx hb d_MD_find_27 (by decide) (by have := hnN_le fi pp 4; omega) (fun c_27 => ?_) (fun c_27 => ?_)
        · skip
          refine lv_iconst (v := nI 1) hx hb d_MD_find_33 (by decide +kernel) ?_
          refine lv_istore (lv' := [(5, .int (nI 1)), (0, .ref w0), (1, .ref a0), (2, .int x), (3, .int (nI z9.1)), (4, .int (nI pp))]) hx hb d_MD_find_34 hl (by decide) rfl (fun ls hl => ?_)
          refine lp_k_MD_find_36 w0 w1 w2 w3 w4 w5 w6 w7 w8 w9 w10 w11 w12 w13 w14 y te nt wb rc fp ft th sg gl a0 fi x hy hfi hgl pp c_10 z9 hx hb hml hown hw hE hX hA (fun n8 z8 hR8 H locs ls hP hD hS hl => ?_) (fun z8 hR8 hz8 H locs ls hP hD hS hl => ?_) ((y + 1 - 1) + 1) 1 z9 (Nat.lt_succ_self _) (Nat.le_refl _) (by omega) (by rw [Nat.add_sub_cancel]) (by omega) _ _ _ (hP.sub [0, 1, 2, 3] rfl) (hD.sub [0, 1, 2, 3] (by decide) rfl) hS (lv_sub hl [1, 2, 3, 4, 5, 0] rfl)
          · skip
            exact kx0 n8 z8 (by rw [← hR]; exact itX_no (by omega) (by show faP sg gl fi te x y pp z9 = _; unfold faP; rw [if_neg c_17, if_neg c_27]; exact hR8)) _ _ _ (hP.sub [0, 1, 2, 3] rfl) (hD.sub [0, 1, 2, 3] (by decide) rfl) hS (lv_sub hl [0] rfl)
          · skip
            refine lv_iinc (v := nI (pp + 1)) (lv' := [(4, .int (nI (pp + 1))), (0, .ref w0), (1, .ref a0), (2, .int x), (3, .int (nI z8.1))]) hx hb d_MD_find_90 hl (k := 4) rfl (jn_inc pp 1) (by decide) rfl (fun ls hl => ?_)
            refine lv_goto (tgt := 5) hx hb d_MD_find_93 (by decide) ?_
            exact ih (pp + 1) z8 (by omega) (by omega) (by rw [← hR, show 1600 - (pp + 1) = 1600 - pp - 1 by omega]; exact (itX_go (by omega) (by show faP sg gl fi te x y pp z9 = _; unfold faP; rw [if_neg c_17, if_neg c_27]; exact hR8)).symm) (by omega) _ _ _ (hP.sub [0, 1, 2, 3] rfl) (hD.sub [0, 1, 2, 3] (by decide) rfl) hS (lv_sub hl [1, 2, 3, 4, 0] rfl)
        · skip
          refine lv_goto (tgt := 90) hx hb d_MD_find_30 (by decide) ?_
          refine lv_iinc (v := nI (pp + 1)) (lv' := [(4, .int (nI (pp + 1))), (0, .ref w0), (1, .ref a0), (2, .int x), (3, .int (nI z9.1))]) hx hb d_MD_find_90 hl (k := 4) rfl (jn_inc pp 1) (by decide) rfl (fun ls hl => ?_)
          refine lv_goto (tgt := 5) hx hb d_MD_find_93 (by decide) ?_
          exact ih (pp + 1) z9 (by omega) (by omega) (by rw [← hR, show 1600 - (pp + 1) = 1600 - pp - 1 by omega]; exact (itX_go (by omega) (by show faP sg gl fi te x y pp z9 = _; unfold faP; rw [if_neg c_17, if_pos c_27])).symm) (by omega) _ _ _ (hP.sub [0, 1, 2, 3] rfl) (hD.sub [0, 1, 2, 3] (by decide) rfl) hS (lv_sub hl [1, 2, 3, 4, 0] rfl)
set_option maxHeartbeats 4000000 in
set_option maxRecDepth 100000 in
/-- find -/
theorem k_MD_find (l : Launch) (D : va_G) (cI cJ : ClassId) (w0 : Nat) (w1 : Nat) (w2 : Nat) (w3 : Nat) (w4 : Nat) (w5 : Nat) (w6 : Nat) (w7 : Nat) (w8 : Nat) (w9 : Nat) (w10 : Nat) (w11 : Nat) (w12 : Nat) (w13 : Nat) (w14 : Nat) (y : Nat) (te : Int32) (nt : Int32) (wb : Int32) (rc : Int32) (fp : Int32) (ft : Int32) (th : Int32) (sg : Nat → Int32) (gl : Nat → Int32) (a0 : Nat) (fi : Nat → Int32) (x : Int32) (sz : Nat) (hy : y ≤ 60) (hfi : okFi fi) (hgl : okGl gl) : Met l y_MD_find ws_MD_find ({ frames := 6, cells := 0, slots := 0, locals := 141 } : Room) (va_Pc [.ref w0, .ref a0, .int x] (Pw D cI cJ [(w0, .inr (5, [.ref w1, .ref w2, .int (nI y), .int te, .ref w3, .ref w4, .ref w5, .int nt, .int wb, .ref w6, .ref w7, .ref w8, .int rc, .ref w9, .ref w10, .ref w11, .ref w12, .ref w13, .ref w14, .int fp, .int ft, .int th])), (w1, .inl (cI, 100, .inl sg)), (w2, .inl (cI, 244, .inl gl)), (a0, .inl (cI, 1600, .inl fi))] sz)) (va_Qi (fun (r : Int32) (u9 : FN) => ∃ o : Option Nat, r = nI (fdR (o, u9)) ∧ (o, u9) = fdV sg gl fi te x y fp ft) (fun u9 t9 => Bw D (va_A [(w0, .inr (5, [.ref w1, .ref w2, .int (nI y), .int te, .ref w3, .ref w4, .ref w5, .int nt, .int wb, .ref w6, .ref w7, .ref w8, .int rc, .ref w9, .ref w10, .ref w11, .ref w12, .ref w13, .ref w14, .int fp, .int ft, .int th])), (w1, .inl (cI, 100, .inl sg)), (w2, .inl (cI, 244, .inl gl)), (a0, .inl (cI, 1600, .inl fi))] sz) [(w0, .inr (5, [.ref w1, .ref w2, .int (nI y), .int te, .ref w3, .ref w4, .ref w5, .int nt, .int wb, .ref w6, .ref w7, .ref w8, .int rc, .ref w9, .ref w10, .ref w11, .ref w12, .ref w13, .ref w14, .int u9.2.1, .int u9.2.2, .int th])), (w1, .inl (cI, 100, .inl sg)), (w2, .inl (cI, 244, .inl gl)), (a0, .inl (cI, 1600, .inl fi))] t9) (va_A [(w0, .inr (5, [.ref w1, .ref w2, .int (nI y), .int te, .ref w3, .ref w4, .ref w5, .int nt, .int wb, .ref w6, .ref w7, .ref w8, .int rc, .ref w9, .ref w10, .ref w11, .ref w12, .ref w13, .ref w14, .int fp, .int ft, .int th])), (w1, .inl (cI, 100, .inl sg)), (w2, .inl (cI, 244, .inl gl)), (a0, .inl (cI, 1600, .inl fi))] sz)) 0 0 (va_A [(w0, .inr (5, [.ref w1, .ref w2, .int (nI y), .int te, .ref w3, .ref w4, .ref w5, .int nt, .int wb, .ref w6, .ref w7, .ref w8, .int rc, .ref w9, .ref w10, .ref w11, .ref w12, .ref w13, .ref w14, .int fp, .int ft, .int th])), (w1, .inl (cI, 100, .inl sg)), (w2, .inl (cI, 244, .inl gl)), (a0, .inl (cI, 1600, .inl fi))] sz) := by
  refine Met.ofW (cc := c_MD_find) (maxL := 6) (ret := (some .int)) (by decide) rfl ?_
  intro p e s m args below meth c s₁ B hml hv
  obtain ⟨rfl, hsz, hE, hP, hD0, hX⟩ := hv
  have hx := B.exec
  have hb := B.bytes
  have hr := B.returns
  have hw : ∀ w ∈ gw, w.before _ s = true := fun w h => atoms_spec (ws := ws_MD_find) B.pre w (List.mem_cons_of_mem _ h)
  have hown : s.vm.findClass R_MD = some m.cls := findClass_of_methodNamed B.named
  have hlocks := B.notSynchronized
  subst hsz
  have hD := hD0.self (sz := s.heap.size)
  generalize hAe : va_A [(w0, .inr (5, [.ref w1, .ref w2, .int (nI y), .int te, .ref w3, .ref w4, .ref w5, .int nt, .int wb, .ref w6, .ref w7, .ref w8, .int rc, .ref w9, .ref w10, .ref w11, .ref w12, .ref w13, .ref w14, .int fp, .int ft, .int th])), (w1, .inl (cI, 100, .inl sg)), (w2, .inl (cI, 244, .inl gl)), (a0, .inl (cI, 1600, .inl fi))] s.heap.size = A at hD hX ⊢
  have hA : ∀ q : Nat, s.heap.size ≤ q → A q := fun q h => by rw [← hAe]; exact Or.inr h
  have hS : va_S A s.heap s.heap [] := va_S.rf
  have hP : va_P D vwCl [(w0, .inr (5, [.ref w1, .ref w2, .int (nI y), .int te, .ref w3, .ref w4, .ref w5, .int nt, .int wb, .ref w6, .ref w7, .ref w8, .int rc, .ref w9, .ref w10, .ref w11, .ref w12, .ref w13, .ref w14, .int fp, .int ft, .int th])), (w1, .inl (cI, 100, .inl sg)), (w2, .inl (cI, 244, .inl gl)), (a0, .inl (cI, 1600, .inl fi))] s.heap := hP
  have hl := lv_entry ([.ref w0, .ref a0, .int x]) (n := 6) (Nat.le_of_ble_eq_true rfl)
  rw [lg_entry_eq]
  generalize (lg_sl ([.ref w0, .ref a0, .int x]) ++ List.replicate (6 - (lg_sl ([.ref w0, .ref a0, .int x])).length) Slot.unset).toArray = ls at hl ⊢
  have hl : lv_has ls 6 [(0, .ref w0), (1, .ref a0), (2, .int x)] := hl
  refine lv_iconst (v := nI 0) hx hb d_MD_find_0 (by decide +kernel) ?_
  refine lv_istore_n (lv' := [(3, .int (nI 0)), (0, .ref w0), (1, .ref a0), (2, .int x)]) hx hb d_MD_find_1 rfl hl (by decide) rfl (fun ls hl => ?_)
  refine lv_iconst (v := nI 0) hx hb d_MD_find_2 (by decide +kernel) ?_
  refine lv_istore (lv' := [(4, .int (nI 0)), (3, .int (nI 0)), (0, .ref w0), (1, .ref a0), (2, .int x)]) hx hb d_MD_find_3 hl (by decide) rfl (fun ls hl => ?_)
  refine lp_k_MD_find_5 w0 w1 w2 w3 w4 w5 w6 w7 w8 w9 w10 w11 w12 w13 w14 y te nt wb rc fp ft th sg gl a0 fi x hy hfi hgl hx hb hml hown hw hE hX hA (fun n8 z9 hR H locs ls hP hD hS hl => ?_) (fun z9 hR H locs ls hP hD hS hl => ?_) ((1600 - 0) + 1) 0 (0, fp, ft) (Nat.lt_succ_self _) (Nat.zero_le _) rfl (Nat.zero_le _) _ _ _ (hP.sub [0, 1, 2, 3] rfl) (hD.sub [0, 1, 2, 3] (by decide) rfl) hS (lv_sub hl [2, 3, 4, 1, 0] rfl)
  · skip
    refine lv_iload_n hx hb d_MD_find_82 rfl (lv_at hl 0 rfl) ?_
    have hP9 := hP.sub (ws' := [(w0, .inr (5, [.ref w1, .ref w2, .int (nI y), .int te, .ref w3, .ref w4, .ref w5, .int nt, .int wb, .ref w6, .ref w7, .ref w8, .int rc, .ref w9, .ref w10, .ref w11, .ref w12, .ref w13, .ref w14, .int z9.2.1, .int z9.2.2, .int th])), (w1, .inl (cI, 100, .inl sg)), (w2, .inl (cI, 244, .inl gl)), (a0, .inl (cI, 1600, .inl fi))]) [0, 1, 2, 3] rfl
    have hD9 := hD.sub (ws' := [(w0, .inr (5, [.ref w1, .ref w2, .int (nI y), .int te, .ref w3, .ref w4, .ref w5, .int nt, .int wb, .ref w6, .ref w7, .ref w8, .int rc, .ref w9, .ref w10, .ref w11, .ref w12, .ref w13, .ref w14, .int z9.2.1, .int z9.2.2, .int th])), (w1, .inl (cI, 100, .inl sg)), (w2, .inl (cI, 244, .inl gl)), (a0, .inl (cI, 1600, .inl fi))]) [0, 1, 2, 3] (by decide) rfl
    exact W.iret (v := nI n8) hx hb hr (fun t9 ht hW => ⟨⟨_, z9, rfl, ⟨some n8, rfl, hR.symm⟩, ⟨by rw [ht]; exact hP9, hD9⟩⟩, hS.F ht⟩) hS.2.2 d_MD_find_83
  · skip
    refine lv_iload_n hx hb d_MD_find_96 rfl (lv_at hl 0 rfl) ?_
    have hP9 := hP.sub (ws' := [(w0, .inr (5, [.ref w1, .ref w2, .int (nI y), .int te, .ref w3, .ref w4, .ref w5, .int nt, .int wb, .ref w6, .ref w7, .ref w8, .int rc, .ref w9, .ref w10, .ref w11, .ref w12, .ref w13, .ref w14, .int z9.2.1, .int z9.2.2, .int th])), (w1, .inl (cI, 100, .inl sg)), (w2, .inl (cI, 244, .inl gl)), (a0, .inl (cI, 1600, .inl fi))]) [0, 1, 2, 3] rfl
    have hD9 := hD.sub (ws' := [(w0, .inr (5, [.ref w1, .ref w2, .int (nI y), .int te, .ref w3, .ref w4, .ref w5, .int nt, .int wb, .ref w6, .ref w7, .ref w8, .int rc, .ref w9, .ref w10, .ref w11, .ref w12, .ref w13, .ref w14, .int z9.2.1, .int z9.2.2, .int th])), (w1, .inl (cI, 100, .inl sg)), (w2, .inl (cI, 244, .inl gl)), (a0, .inl (cI, 1600, .inl fi))]) [0, 1, 2, 3] (by decide) rfl
    exact W.iret (v := nI z9.1) hx hb hr (fun t9 ht hW => ⟨⟨_, z9, rfl, ⟨none, rfl, hR.symm⟩, ⟨by rw [ht]; exact hP9, hD9⟩⟩, hS.F ht⟩) hS.2.2 d_MD_find_97
