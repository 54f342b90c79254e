theorem d_TB_seam_0 : decode c_TB_seam 0 = .ok (.aload_n 0, 1) := by decide +kernel
theorem d_TB_seam_1 : decode c_TB_seam 1 = .ok (.getfield 21, 3) := by decide +kernel
theorem d_TB_seam_4 : decode c_TB_seam 4 = .ok (.iconst 0, 1) := by decide +kernel
theorem d_TB_seam_5 : decode c_TB_seam 5 = .ok (.invokevirtual 100, 3) := by decide +kernel
theorem d_TB_seam_8 : decode c_TB_seam 8 = .ok (.istore_n 1, 1) := by decide +kernel
theorem d_TB_seam_9 : decode c_TB_seam 9 = .ok (.iload_n 1, 1) := by decide +kernel
theorem d_TB_seam_10 : decode c_TB_seam 10 = .ok (.iconst 2, 1) := by decide +kernel
theorem d_TB_seam_11 : decode c_TB_seam 11 = .ok (.if_icmp .ge 13, 3) := by decide +kernel
theorem d_TB_seam_14 : decode c_TB_seam 14 = .ok (.new 89, 3) := by decide +kernel
theorem d_TB_seam_17 : decode c_TB_seam 17 = .ok (.dup, 1) := by decide +kernel
theorem d_TB_seam_18 : decode c_TB_seam 18 = .ok (.ldc 172, 2) := by decide +kernel
theorem d_TB_seam_20 : decode c_TB_seam 20 = .ok (.invokespecial 93, 3) := by decide +kernel
theorem d_TB_seam_23 : decode c_TB_seam 23 = .ok (.athrow, 1) := by decide +kernel
theorem d_TB_seam_24 : decode c_TB_seam 24 = .ok (.iload_n 1, 1) := by decide +kernel
theorem d_TB_seam_25 : decode c_TB_seam 25 = .ok (.bipush 120, 2) := by decide +kernel
theorem d_TB_seam_27 : decode c_TB_seam 27 = .ok (.if_icmp .le 13, 3) := by decide +kernel
theorem d_TB_seam_30 : decode c_TB_seam 30 = .ok (.new 56, 3) := by decide +kernel
theorem d_TB_seam_33 : decode c_TB_seam 33 = .ok (.dup, 1) := by decide +kernel
theorem d_TB_seam_34 : decode c_TB_seam 34 = .ok (.ldc 174, 2) := by decide +kernel
theorem d_TB_seam_36 : decode c_TB_seam 36 = .ok (.invokespecial 60, 3) := by decide +kernel
theorem d_TB_seam_39 : decode c_TB_seam 39 = .ok (.athrow, 1) := by decide +kernel
theorem d_TB_seam_40 : decode c_TB_seam 40 = .ok (.aload_n 0, 1) := by decide +kernel
theorem d_TB_seam_41 : decode c_TB_seam 41 = .ok (.getfield 37, 3) := by decide +kernel
theorem d_TB_seam_44 : decode c_TB_seam 44 = .ok (.aload_n 0, 1) := by decide +kernel
theorem d_TB_seam_45 : decode c_TB_seam 45 = .ok (.getfield 21, 3) := by decide +kernel
theorem d_TB_seam_48 : decode c_TB_seam 48 = .ok (.invokevirtual 176, 3) := by decide +kernel
theorem d_TB_seam_51 : decode c_TB_seam 51 = .ok (.ireturn, 1) := by decide +kernel
theorem d_SM_weakest_0 : decode c_SM_weakest 0 = .ok (.aload_n 0, 1) := by decide +kernel
theorem d_SM_weakest_1 : decode c_SM_weakest 1 = .ok (.aload_n 1, 1) := by decide +kernel
theorem d_SM_weakest_2 : decode c_SM_weakest 2 = .ok (.invokevirtual 34, 3) := by decide +kernel
theorem d_SM_weakest_5 : decode c_SM_weakest 5 = .ok (.bipush 8, 2) := by decide +kernel
theorem d_SM_weakest_7 : decode c_SM_weakest 7 = .ok (.istore_n 2, 1) := by decide +kernel
theorem d_SM_weakest_8 : decode c_SM_weakest 8 = .ok (.iconst 1, 1) := by decide +kernel
theorem d_SM_weakest_9 : decode c_SM_weakest 9 = .ok (.istore_n 3, 1) := by decide +kernel
theorem d_SM_weakest_10 : decode c_SM_weakest 10 = .ok (.iload_n 3, 1) := by decide +kernel
theorem d_SM_weakest_11 : decode c_SM_weakest 11 = .ok (.aload_n 0, 1) := by decide +kernel
theorem d_SM_weakest_12 : decode c_SM_weakest 12 = .ok (.getfield 30, 3) := by decide +kernel
theorem d_SM_weakest_15 : decode c_SM_weakest 15 = .ok (.if_icmp .ge 20, 3) := by decide +kernel
theorem d_SM_weakest_18 : decode c_SM_weakest 18 = .ok (.iload_n 2, 1) := by decide +kernel
theorem d_SM_weakest_19 : decode c_SM_weakest 19 = .ok (.ifCond .le 16, 3) := by decide +kernel
theorem d_SM_weakest_22 : decode c_SM_weakest 22 = .ok (.aload_n 0, 1) := by decide +kernel
theorem d_SM_weakest_23 : decode c_SM_weakest 23 = .ok (.iload_n 3, 1) := by decide +kernel
theorem d_SM_weakest_24 : decode c_SM_weakest 24 = .ok (.iload_n 2, 1) := by decide +kernel
theorem d_SM_weakest_25 : decode c_SM_weakest 25 = .ok (.invokevirtual 38, 3) := by decide +kernel
theorem d_SM_weakest_28 : decode c_SM_weakest 28 = .ok (.istore_n 2, 1) := by decide +kernel
theorem d_SM_weakest_29 : decode c_SM_weakest 29 = .ok (.iinc 3 1, 3) := by decide +kernel
theorem d_SM_weakest_32 : decode c_SM_weakest 32 = .ok (.goto (-22), 3) := by decide +kernel
theorem d_SM_weakest_35 : decode c_SM_weakest 35 = .ok (.iload_n 2, 1) := by decide +kernel
theorem d_SM_weakest_36 : decode c_SM_weakest 36 = .ok (.ireturn, 1) := by decide +kernel
theorem d_SM_flow_0 : decode c_SM_flow 0 = .ok (.aload_n 0, 1) := by decide +kernel
theorem d_SM_flow_1 : decode c_SM_flow 1 = .ok (.getfield 15, 3) := by decide +kernel
theorem d_SM_flow_4 : decode c_SM_flow 4 = .ok (.iconst 0, 1) := by decide +kernel
theorem d_SM_flow_5 : decode c_SM_flow 5 = .ok (.aload_n 0, 1) := by decide +kernel
theorem d_SM_flow_6 : decode c_SM_flow 6 = .ok (.getfield 18, 3) := by decide +kernel
theorem d_SM_flow_9 : decode c_SM_flow 9 = .ok (.iconst 0, 1) := by decide +kernel
theorem d_SM_flow_10 : decode c_SM_flow 10 = .ok (.aload_n 0, 1) := by decide +kernel
theorem d_SM_flow_11 : decode c_SM_flow 11 = .ok (.getfield 30, 3) := by decide +kernel
theorem d_SM_flow_14 : decode c_SM_flow 14 = .ok (.iconst 4, 1) := by decide +kernel
theorem d_SM_flow_15 : decode c_SM_flow 15 = .ok (.imul, 1) := by decide +kernel
theorem d_SM_flow_16 : decode c_SM_flow 16 = .ok (.invokestatic 68, 3) := by decide +kernel
theorem d_SM_flow_19 : decode c_SM_flow 19 = .ok (.iconst 0, 1) := by decide +kernel
theorem d_SM_flow_20 : decode c_SM_flow 20 = .ok (.istore_n 3, 1) := by decide +kernel
theorem d_SM_flow_21 : decode c_SM_flow 21 = .ok (.iload_n 3, 1) := by decide +kernel
theorem d_SM_flow_22 : decode c_SM_flow 22 = .ok (.iload_n 2, 1) := by decide +kernel
theorem d_SM_flow_23 : decode c_SM_flow 23 = .ok (.if_icmp .ge 31, 3) := by decide +kernel
theorem d_SM_flow_26 : decode c_SM_flow 26 = .ok (.aload_n 0, 1) := by decide +kernel
theorem d_SM_flow_27 : decode c_SM_flow 27 = .ok (.iload_n 1, 1) := by decide +kernel
theorem d_SM_flow_28 : decode c_SM_flow 28 = .ok (.invokevirtual 74, 3) := by decide +kernel
theorem d_SM_flow_31 : decode c_SM_flow 31 = .ok (.istore 4, 2) := by decide +kernel
theorem d_SM_flow_33 : decode c_SM_flow 33 = .ok (.iload 4, 2) := by decide +kernel
theorem d_SM_flow_35 : decode c_SM_flow 35 = .ok (.iconst (-1), 1) := by decide +kernel
theorem d_SM_flow_36 : decode c_SM_flow 36 = .ok (.if_icmp .ne 5, 3) := by decide +kernel
theorem d_SM_flow_39 : decode c_SM_flow 39 = .ok (.iload_n 3, 1) := by decide +kernel
theorem d_SM_flow_40 : decode c_SM_flow 40 = .ok (.ireturn, 1) := by decide +kernel
theorem d_SM_flow_41 : decode c_SM_flow 41 = .ok (.aload_n 0, 1) := by decide +kernel
theorem d_SM_flow_42 : decode c_SM_flow 42 = .ok (.iload_n 1, 1) := by decide +kernel
theorem d_SM_flow_43 : decode c_SM_flow 43 = .ok (.iload 4, 2) := by decide +kernel
theorem d_SM_flow_45 : decode c_SM_flow 45 = .ok (.invokevirtual 77, 3) := by decide +kernel
theorem d_SM_flow_48 : decode c_SM_flow 48 = .ok (.iinc 3 1, 3) := by decide +kernel
theorem d_SM_flow_51 : decode c_SM_flow 51 = .ok (.goto (-30), 3) := by decide +kernel
theorem d_SM_flow_54 : decode c_SM_flow 54 = .ok (.iload_n 2, 1) := by decide +kernel
theorem d_SM_flow_55 : decode c_SM_flow 55 = .ok (.ireturn, 1) := by decide +kernel
theorem d_SM_push_0 : decode c_SM_push 0 = .ok (.iload_n 2, 1) := by decide +kernel
theorem d_SM_push_1 : decode c_SM_push 1 = .ok (.istore_n 3, 1) := by decide +kernel
theorem d_SM_push_2 : decode c_SM_push 2 = .ok (.iconst 0, 1) := by decide +kernel
theorem d_SM_push_3 : decode c_SM_push 3 = .ok (.istore 4, 2) := by decide +kernel
theorem d_SM_push_5 : decode c_SM_push 5 = .ok (.iload 4, 2) := by decide +kernel
theorem d_SM_push_7 : decode c_SM_push 7 = .ok (.aload_n 0, 1) := by decide +kernel
theorem d_SM_push_8 : decode c_SM_push 8 = .ok (.getfield 30, 3) := by decide +kernel
theorem d_SM_push_11 : decode c_SM_push 11 = .ok (.if_icmp .ge 67, 3) := by decide +kernel
theorem d_SM_push_14 : decode c_SM_push 14 = .ok (.iload_n 3, 1) := by decide +kernel
theorem d_SM_push_15 : decode c_SM_push 15 = .ok (.iload_n 1, 1) := by decide +kernel
theorem d_SM_push_16 : decode c_SM_push 16 = .ok (.if_icmp .eq 62, 3) := by decide +kernel
theorem d_SM_push_19 : decode c_SM_push 19 = .ok (.aload_n 0, 1) := by decide +kernel
theorem d_SM_push_20 : decode c_SM_push 20 = .ok (.getfield 21, 3) := by decide +kernel
theorem d_SM_push_23 : decode c_SM_push 23 = .ok (.iload_n 3, 1) := by decide +kernel
theorem d_SM_push_24 : decode c_SM_push 24 = .ok (.iaload, 1) := by decide +kernel
theorem d_SM_push_25 : decode c_SM_push 25 = .ok (.istore 5, 2) := by decide +kernel
theorem d_SM_push_27 : decode c_SM_push 27 = .ok (.iload_n 3, 1) := by decide +kernel
theorem d_SM_push_28 : decode c_SM_push 28 = .ok (.iconst 4, 1) := by decide +kernel
theorem d_SM_push_29 : decode c_SM_push 29 = .ok (.imul, 1) := by decide +kernel
theorem d_SM_push_30 : decode c_SM_push 30 = .ok (.iload 5, 2) := by decide +kernel
theorem d_SM_push_32 : decode c_SM_push 32 = .ok (.invokestatic 65, 3) := by decide +kernel
theorem d_SM_push_35 : decode c_SM_push 35 = .ok (.iadd, 1) := by decide +kernel
theorem d_SM_push_36 : decode c_SM_push 36 = .ok (.istore 6, 2) := by decide +kernel
theorem d_SM_push_38 : decode c_SM_push 38 = .ok (.aload_n 0, 1) := by decide +kernel
theorem d_SM_push_39 : decode c_SM_push 39 = .ok (.getfield 9, 3) := by decide +kernel
theorem d_SM_push_42 : decode c_SM_push 42 = .ok (.iload 6, 2) := by decide +kernel
theorem d_SM_push_44 : decode c_SM_push 44 = .ok (.iaload, 1) := by decide +kernel
theorem d_SM_push_45 : decode c_SM_push 45 = .ok (.istore_n 3, 1) := by decide +kernel
theorem d_SM_push_46 : decode c_SM_push 46 = .ok (.aload_n 0, 1) := by decide +kernel
theorem d_SM_push_47 : decode c_SM_push 47 = .ok (.getfield 18, 3) := by decide +kernel
theorem d_SM_push_50 : decode c_SM_push 50 = .ok (.iload 6, 2) := by decide +kernel
theorem d_SM_push_52 : decode c_SM_push 52 = .ok (.dup2, 1) := by decide +kernel
theorem d_SM_push_53 : decode c_SM_push 53 = .ok (.iaload, 1) := by decide +kernel
theorem d_SM_push_54 : decode c_SM_push 54 = .ok (.iconst 1, 1) := by decide +kernel
theorem d_SM_push_55 : decode c_SM_push 55 = .ok (.iadd, 1) := by decide +kernel
theorem d_SM_push_56 : decode c_SM_push 56 = .ok (.iastore, 1) := by decide +kernel
theorem d_SM_push_57 : decode c_SM_push 57 = .ok (.aload_n 0, 1) := by decide +kernel
theorem d_SM_push_58 : decode c_SM_push 58 = .ok (.getfield 18, 3) := by decide +kernel
theorem d_SM_push_61 : decode c_SM_push 61 = .ok (.iload_n 3, 1) := by decide +kernel
theorem d_SM_push_62 : decode c_SM_push 62 = .ok (.iconst 4, 1) := by decide +kernel
theorem d_SM_push_63 : decode c_SM_push 63 = .ok (.imul, 1) := by decide +kernel
theorem d_SM_push_64 : decode c_SM_push 64 = .ok (.iload 5, 2) := by decide +kernel
theorem d_SM_push_66 : decode c_SM_push 66 = .ok (.iadd, 1) := by decide +kernel
theorem d_SM_push_67 : decode c_SM_push 67 = .ok (.dup2, 1) := by decide +kernel
theorem d_SM_push_68 : decode c_SM_push 68 = .ok (.iaload, 1) := by decide +kernel
theorem d_SM_push_69 : decode c_SM_push 69 = .ok (.iconst 1, 1) := by decide +kernel
theorem d_SM_push_70 : decode c_SM_push 70 = .ok (.isub, 1) := by decide +kernel
theorem d_SM_push_71 : decode c_SM_push 71 = .ok (.iastore, 1) := by decide +kernel
theorem d_SM_push_72 : decode c_SM_push 72 = .ok (.iinc 4 1, 3) := by decide +kernel
theorem d_SM_push_75 : decode c_SM_push 75 = .ok (.goto (-70), 3) := by decide +kernel
theorem d_SM_push_78 : decode c_SM_push 78 = .ok (.return_, 1) := by decide +kernel
def puS (lk ar : Nat → Int32) (t : Nat) (r : Nat → Int32) : Nat → Int32 :=
  upd (upd r (t * 4 + opp (nn (ar t))) (r (t * 4 + opp (nn (ar t))) + nI 1)) (nn (lk (t * 4 + opp (nn (ar t)))) * 4 + nn (ar t)) (upd r (t * 4 + opp (nn (ar t))) (r (t * 4 + opp (nn (ar t))) + nI 1) (nn (lk (t * 4 + opp (nn (ar t)))) * 4 + nn (ar t)) - nI 1)
def puF (lk ar : Nat → Int32) (fm : Nat) : Nat → Nat → (Nat → Int32) → (Nat → Int32)
  | 0, _, r => r
  | f + 1, t, r => if t = fm then r else puF lk ar fm f (nn (lk (t * 4 + opp (nn (ar t))))) (puS lk ar t r)
theorem puF_end {lk ar : Nat → Int32} {fm : Nat} (f : Nat) {t : Nat} {r : Nat → Int32} (h : t = fm) : puF lk ar fm f t r = r := by
  cases f with
  | zero => rfl
  | succ f => rw [puF, if_pos h]
theorem puF_go {lk ar : Nat → Int32} {fm f t k u : Nat} {r : Nat → Int32} (hf : 0 < f) (h : t ≠ fm) (hk : k < 4) (hu : u < 120) (ha : ar t = nI k) (hl : lk (t * 4 + opp k) = nI u) :
    puF lk ar fm f t r = puF lk ar fm (f - 1) u (upd (upd r (t * 4 + opp k) (r (t * 4 + opp k) + nI 1)) (u * 4 + k) (upd r (t * 4 + opp k) (r (t * 4 + opp k) + nI 1) (u * 4 + k) - nI 1)) := by
  obtain ⟨j, rfl⟩ : ∃ j, f = j + 1 := ⟨f - 1, by omega⟩
  rw [puF, if_neg h]
  unfold puS
  rw [ha, nn_nI (show k < 2 ^ 31 by omega), hl, nn_nI (show u < 2 ^ 31 by omega)]
  rfl
theorem okRm_upd {we r : Nat → Int32} {n i : Nat} {v : Int32} (h : okRm we r n) (hw : we i ≠ 0) : okRm we (upd r i v) n := by
  intro j hj hv
  by_cases e : j = i
  · rw [e]; exact hw
  · rw [show upd r i v j = r j from if_neg e] at hv
    exact h j hj hv
theorem okRm_cpy (we r : Nat → Int32) (n : Nat) : okRm we (va_cpy we r 0 0 (n * 4)) n := by
  intro i hi h
  rw [show va_cpy we r 0 0 (n * 4) i = we (0 + (i - 0)) from if_pos ⟨by omega, by omega⟩, show 0 + (i - 0) = i by omega] at h
  exact h
abbrev T3 : Type := (Nat → Int32) × (Nat → Int32) × (Nat → Int32)
def flF (lk : Nat → Int32) (n fm : Nat) : Nat → Nat → T3 → Nat × T3
  | 0, k, z => (k, z)
  | f + 1, k, z => match eoV lk z.1 n fm z.2.1 z.2.2 with
    | (none, e) => (k, (z.1, e.1, e.2.1))
    | (some t, e) => flF lk n fm f (k + 1) (puF lk e.1 fm n t z.1, e.1, e.2.1)
theorem flF_end {lk : Nat → Int32} {n fm f k : Nat} {z : T3} {e : ES} (hf : 0 < f) (h : eoV lk z.1 n fm z.2.1 z.2.2 = (none, e)) : flF lk n fm f k z = (k, (z.1, e.1, e.2.1)) := by
  obtain ⟨j, rfl⟩ : ∃ j, f = j + 1 := ⟨f - 1, by omega⟩
  rw [flF, h]
theorem flF_go {lk : Nat → Int32} {n fm f k t : Nat} {z : T3} {e : ES} (hf : 0 < f) (h : eoV lk z.1 n fm z.2.1 z.2.2 = (some t, e)) : flF lk n fm f k z = flF lk n fm (f - 1) (k + 1) (puF lk e.1 fm n t z.1, e.1, e.2.1) := by
  obtain ⟨j, rfl⟩ : ∃ j, f = j + 1 := ⟨f - 1, by omega⟩
  rw [flF, h]
  rfl
theorem eoR_ne {o : Option Nat} (h : eoR o ≠ -1) : ∃ t, o = some t := by
  cases o with
  | none => exact absurd rfl h
  | some t => exact ⟨t, rfl⟩
theorem eoR_none {o : Option Nat} (h : eoR o = -1) (hb : ∀ t, o = some t → t < 2 ^ 31) : o = none := by
  cases o with
  | none => rfl
  | some t => exact absurd h (nI_m1 (hb t rfl))
def weF (lk we : Nat → Int32) (n : Nat) : Nat → Nat → Nat → T3 → Nat × T3
  | 0, _, b, z => (b, z)
  | c + 1, t, b, z => if b = 0 then (b, z) else weF lk we n c (t + 1) (flF lk n t b 0 (va_cpy we z.1 0 0 (n * 4), z.2)).1 (flF lk n t b 0 (va_cpy we z.1 0 0 (n * 4), z.2)).2
theorem weF_end {lk we : Nat → Int32} {n : Nat} (c : Nat) {t b : Nat} {z : T3} (h : b = 0) : weF lk we n c t b z = (b, z) := by
  cases c with
  | zero => rfl
  | succ c => rw [weF, if_pos h]
theorem weF_go {lk we : Nat → Int32} {n c t b b' : Nat} {z z' : T3} (hc : 0 < c) (hb : b ≠ 0) (h : (b', z') = flF lk n t b 0 (va_cpy we z.1 0 0 (n * 4), z.2)) : weF lk we n c t b z = weF lk we n (c - 1) (t + 1) b' z' := by
  obtain ⟨j, rfl⟩ : ∃ j, c = j + 1 := ⟨c - 1, by omega⟩
  rw [weF, if_neg hb, ← h]
  rfl
set_option maxHeartbeats 4000000 in
set_option maxRecDepth 100000 in
theorem lp_k_SM_push_5 {p : Program} {l : Launch} {e : Env} {s : State} {m : MethodId} {args : Array Value} {below : List Frame} {meth : Method} {c : Code} {D : va_G} {cI cJ : ClassId} {Q : State → Prop} {A : Nat → Prop} (e0 : Nat) (e1 : Nat) (e2 : Nat) (e3 : Nat) (e4 : Nat) (e5 : Nat) (e6 : Nat) (n : Nat) (lk : Nat → Int32) (we : Nat → Int32) (rm : Nat → Int32) (ar : Nat → Int32) (fm : Nat) (ed : Nat) (hRm : okRm we rm n) (hAr : okA lk we ar n fm) (hn : n ≤ 120) (hfm : fm < n) (hed : ed < n) (hva : ar ed ≠ -1)  (hx : p.tables.exec = Jvm.exec) (hb : c.code = c_SM_push) (hml : c.maxLocals = 7) (hown : s.vm.findClass R_SM = some m.cls) (hw : ∀ w ∈ gw, w.before args s = true) (hE : En D cI cJ s) (hX : Sx A s s.heap) (hA : ∀ q : Nat, s.heap.size ≤ q → A q)
    (kx0 : ∀ (r9 : Nat → Int32), (r9 = puF lk ar fm n ed rm) → (okRm we r9 n) → ∀ (H : Heap) (locs : List Loc) (ls : Array Slot), va_P D vwCl [(e0, .inr (4, [.ref e1, .ref e2, .ref e3, .ref e4, .ref e5, .ref e6, .int (nI n)])), (e1, .inl (cI, 480, .inl lk)), (e3, .inl (cI, 480, .inl r9)), (e4, .inl (cI, 120, .inl ar))] H → va_D A [(e0, .inr (4, [.ref e1, .ref e2, .ref e3, .ref e4, .ref e5, .ref e6, .int (nI n)])), (e1, .inl (cI, 480, .inl lk)), (e3, .inl (cI, 480, .inl r9)), (e4, .inl (cI, 120, .inl ar))] → va_S A s.heap H locs → lv_has ls 7 [(0, .ref e0)] → W p l e ({ frames := 1, cells := 0, slots := 0, locals := 20 } : Room) s m args below meth c H locs 0 0 Q (F0 m 78 ls [])) :
    ∀ (fu : Nat) (j : Nat) (tt : Nat) (r9 : Nat → Int32), n - j < fu → (j ≤ n) → (puF lk ar fm (n - j) tt r9 = puF lk ar fm n ed rm) → (okRm we r9 n) → (tt < n) → (ar tt ≠ -1) → ∀ (H : Heap) (locs : List Loc) (ls : Array Slot), va_P D vwCl [(e0, .inr (4, [.ref e1, .ref e2, .ref e3, .ref e4, .ref e5, .ref e6, .int (nI n)])), (e1, .inl (cI, 480, .inl lk)), (e3, .inl (cI, 480, .inl r9)), (e4, .inl (cI, 120, .inl ar))] H → va_D A [(e0, .inr (4, [.ref e1, .ref e2, .ref e3, .ref e4, .ref e5, .ref e6, .int (nI n)])), (e1, .inl (cI, 480, .inl lk)), (e3, .inl (cI, 480, .inl r9)), (e4, .inl (cI, 120, .inl ar))] → va_S A s.heap H locs → lv_has ls 7 [(0, .ref e0), (1, .int (nI fm)), (3, .int (nI tt)), (4, .int (nI j))] → W p l e ({ frames := 1, cells := 0, slots := 0, locals := 20 } : Room) s m args below meth c H locs 0 0 Q (F0 m 5 ls []) := by
  intro fu
  induction fu with
  | zero =>
    intro j tt r9 h0
    exact absurd h0 (Nat.not_lt_zero _)
  | succ fu ih =>
    intro j tt r9 hmu hj hR hR9 htt hav H locs ls hP hD hS hl
    refine lv_iload hx hb d_SM_push_5 (lv_at hl 3 rfl) ?_
    refine lv_aload_n hx hb d_SM_push_7 rfl (lv_at hl 0 rfl) ?_
    refine va_get (D := D) (ci := 4) (v := .int (nI n)) (C := R_SM) (T := T_SM) (N := 7) hx hb hw in_SM hown hE.1 hP 0 rfl rfl 6 (by decide) (hw _ kw_166) (fun _ h9 => h9) rfl d_SM_push_8 ?_
    refine jn_icmp_ge (tgt := 78) (a := j) (b := n) hx hb d_SM_push_11 (by decide) (by omega) (by omega) (fun c_11 => ?_) (fun c_11 => ?_)
    · skip
      exact kx0 r9 (by rw [← hR, show n - j = 0 by omega]; rfl) hR9 _ _ _ (hP.sub [0, 1, 2, 3] rfl) (hD.sub [0, 1, 2, 3] (by decide) rfl) hS (lv_sub hl [0] rfl)
    · skip
      refine lv_iload_n hx hb d_SM_push_14 rfl (lv_at hl 2 rfl) ?_
      refine lv_iload_n hx hb d_SM_push_15 rfl (lv_at hl 1 rfl) ?_
      refine jn_icmp_eq (tgt := 78) (a := tt) (b := fm) hx hb d_SM_push_16 (by decide) (by omega) (by omega) (fun c_16 => ?_) (fun c_16 => ?_)
      · skip
        exact kx0 r9 (by rw [← hR]; exact (puF_end _ c_16).symm) hR9 _ _ _ (hP.sub [0, 1, 2, 3] rfl) (hD.sub [0, 1, 2, 3] (by decide) rfl) hS (lv_sub hl [0] rfl)
      · skip
        obtain ⟨k, u, hk4, hun, hak, hlu, hw1, hw2, hau⟩ := hAr tt htt hav c_16
        have hop := opp_lt k
        refine lv_aload_n hx hb d_SM_push_19 rfl (lv_at hl 0 rfl) ?_
        refine va_get (D := D) (ci := 4) (v := .ref e4) (C := R_SM) (T := T_SM) (N := 7) hx hb hw in_SM hown hE.1 hP 0 rfl rfl 3 (by decide) (hw _ kw_163) (fun _ h9 => h9) rfl d_SM_push_20 ?_
        refine lv_iload_n hx hb d_SM_push_23 rfl (lv_at hl 2 rfl) ?_
        refine jn_iald (k := tt) hx hb hE.1 hP 3 0 rfl rfl (by omega) (by omega) d_SM_push_24 ?_
        refine W.eq (g2 := F0 m 25 ls [.int (nI k)]) (by rw [hak]) ?_
        refine lv_istore (lv' := [(5, .int (nI k)), (0, .ref e0), (1, .int (nI fm)), (3, .int (nI tt)), (4, .int (nI j))]) hx hb d_SM_push_25 hl (by decide) rfl (fun ls hl => ?_)
        refine lv_iload_n hx hb d_SM_push_27 rfl (lv_at hl 3 rfl) ?_
        refine lv_iconst (v := nI 4) hx hb d_SM_push_28 (by decide +kernel) ?_
        refine jn_imul (a := tt) (b := 4) hx hb d_SM_push_29 ?_
        refine lv_iload hx hb d_SM_push_30 (lv_at hl 0 rfl) ?_
        refine vp_callSi (va_Run.run (va_runSN (As := [.int (nI k)]) (rest := [.int (nI (tt * 4))]) ⟨hx, hb, hml, hown, hw⟩ (k_TB_opposite l D cI cJ k hk4) (⟨va_cnB 1 hw (gI kw_454) rfl rfl rfl (hE.2.1 _ (List.mem_of_getElem? (i := 16) rfl)) (hw _ kw_40) (by decide +kernel) ⟨Nat.le_of_ble_eq_true rfl, Nat.le_of_ble_eq_true rfl⟩, hw _ kw_453, trivial⟩) (pre_Sp (wc := []) hE hX hP hS [] rfl) rfl rfl hl.1 rfl (lv_room (Nat.le_of_ble_eq_true rfl)) d_SM_push_32 ⟨Nat.le_of_ble_eq_true rfl, Nat.le_of_ble_eq_true rfl⟩)) (fun r_1 hr_1 => ?_)
        obtain rfl : nI (opp k) = r_1 := hr_1.symm
        refine jn_iadd (a := (tt * 4)) (b := (opp k)) hx hb d_SM_push_35 ?_
        refine lv_istore (lv' := [(6, .int (nI ((tt * 4) + (opp k)))), (5, .int (nI k)), (0, .ref e0), (1, .int (nI fm)), (3, .int (nI tt)), (4, .int (nI j))]) hx hb d_SM_push_36 hl (by decide) rfl (fun ls hl => ?_)
        refine lv_aload_n hx hb d_SM_push_38 rfl (lv_at hl 2 rfl) ?_
        refine va_get (D := D) (ci := 4) (v := .ref e1) (C := R_SM) (T := T_SM) (N := 7) hx hb hw in_SM hown hE.1 hP 0 rfl rfl 0 (by decide) (hw _ kw_160) (fun _ h9 => h9) rfl d_SM_push_39 ?_
        refine lv_iload hx hb d_SM_push_42 (lv_at hl 0 rfl) ?_
        refine jn_iald (k := ((tt * 4) + (opp k))) hx hb hE.1 hP 1 0 rfl rfl (by omega) (by omega) d_SM_push_44 ?_
        refine W.eq (g2 := F0 m 45 ls [.int (nI u)]) (by rw [hlu]) ?_
        refine lv_istore_n (lv' := [(3, .int (nI u)), (6, .int (nI ((tt * 4) + (opp k)))), (5, .int (nI k)), (0, .ref e0), (1, .int (nI fm)), (4, .int (nI j))]) hx hb d_SM_push_45 rfl hl (by decide) rfl (fun ls hl => ?_)
        refine lv_aload_n hx hb d_SM_push_46 rfl (lv_at hl 3 rfl) ?_
        refine va_get (D := D) (ci := 4) (v := .ref e3) (C := R_SM) (T := T_SM) (N := 7) hx hb hw in_SM hown hE.1 hP 0 rfl rfl 2 (by decide) (hw _ kw_162) (fun _ h9 => h9) rfl d_SM_push_47 ?_
        refine lv_iload hx hb d_SM_push_50 (lv_at hl 1 rfl) ?_
        refine lv_dup2_11 hx hb d_SM_push_52 rfl rfl ?_
        refine jn_iald (k := ((tt * 4) + (opp k))) hx hb hE.1 hP 2 0 rfl rfl (by omega) (by omega) d_SM_push_53 ?_
        refine lv_iconst (v := nI 1) hx hb d_SM_push_54 (by decide +kernel) ?_
        refine lv_iadd hx hb d_SM_push_55 ?_
        refine jn_iast (k := ((tt * 4) + (opp k))) hx hb hE.1 hP hD hS 2 0 rfl rfl (by omega) (by omega) d_SM_push_56 (fun H locs hP hD hS => ?_)
        have hP : va_P D vwCl [(e0, .inr (4, [.ref e1, .ref e2, .ref e3, .ref e4, .ref e5, .ref e6, .int (nI n)])), (e1, .inl (cI, 480, .inl lk)), (e3, .inl (cI, 480, .inl (upd r9 ((tt * 4) + (opp k)) ((r9 ((tt * 4) + (opp k))) + (nI 1))))), (e4, .inl (cI, 120, .inl ar))] H := hP
        have hD : va_D A [(e0, .inr (4, [.ref e1, .ref e2, .ref e3, .ref e4, .ref e5, .ref e6, .int (nI n)])), (e1, .inl (cI, 480, .inl lk)), (e3, .inl (cI, 480, .inl (upd r9 ((tt * 4) + (opp k)) ((r9 ((tt * 4) + (opp k))) + (nI 1))))), (e4, .inl (cI, 120, .inl ar))] := hD
        refine lv_aload_n hx hb d_SM_push_57 rfl (lv_at hl 3 rfl) ?_
        refine va_get (D := D) (ci := 4) (v := .ref e3) (C := R_SM) (T := T_SM) (N := 7) hx hb hw in_SM hown hE.1 hP 0 rfl rfl 2 (by decide) (hw _ kw_162) (fun _ h9 => h9) rfl d_SM_push_58 ?_
        refine lv_iload_n hx hb d_SM_push_61 rfl (lv_at hl 0 rfl) ?_
        refine lv_iconst (v := nI 4) hx hb d_SM_push_62 (by decide +kernel) ?_
        refine jn_imul (a := u) (b := 4) hx hb d_SM_push_63 ?_
        refine lv_iload hx hb d_SM_push_64 (lv_at hl 2 rfl) ?_
        refine jn_iadd (a := (u * 4)) (b := k) hx hb d_SM_push_66 ?_
        refine lv_dup2_11 hx hb d_SM_push_67 rfl rfl ?_
        refine jn_iald (k := ((u * 4) + k)) hx hb hE.1 hP 2 0 rfl rfl (by omega) (by omega) d_SM_push_68 ?_
        refine lv_iconst (v := nI 1) hx hb d_SM_push_69 (by decide +kernel) ?_
        refine lv_isub hx hb d_SM_push_70 ?_
        refine jn_iast (k := ((u * 4) + k)) hx hb hE.1 hP hD hS 2 0 rfl rfl (by omega) (by omega) d_SM_push_71 (fun H locs hP hD hS => ?_)
        have hP : va_P D vwCl [(e0, .inr (4, [.ref e1, .ref e2, .ref e3, .ref e4, .ref e5, .ref e6, .int (nI n)])), (e1, .inl (cI, 480, .inl lk)), (e3, .inl (cI, 480, .inl (upd (upd r9 ((tt * 4) + (opp k)) ((r9 ((tt * 4) + (opp k))) + (nI 1))) ((u * 4) + k) (((upd r9 ((tt * 4) + (opp k)) ((r9 ((tt * 4) + (opp k))) + (nI 1))) ((u * 4) + k)) - (nI 1))))), (e4, .inl (cI, 120, .inl ar))] H := hP
        have hD : va_D A [(e0, .inr (4, [.ref e1, .ref e2, .ref e3, .ref e4, .ref e5, .ref e6, .int (nI n)])), (e1, .inl (cI, 480, .inl lk)), (e3, .inl (cI, 480, .inl (upd (upd r9 ((tt * 4) + (opp k)) ((r9 ((tt * 4) + (opp k))) + (nI 1))) ((u * 4) + k) (((upd r9 ((tt * 4) + (opp k)) ((r9 ((tt * 4) + (opp k))) + (nI 1))) ((u * 4) + k)) - (nI 1))))), (e4, .inl (cI, 120, .inl ar))] := hD
        refine lv_iinc (v := nI (j + 1)) (lv' := [(4, .int (nI (j + 1))), (3, .int (nI u)), (6, .int (nI ((tt * 4) + (opp k)))), (5, .int (nI k)), (0, .ref e0), (1, .int (nI fm))]) hx hb d_SM_push_72 hl (k := 5) rfl (jn_inc j 1) (by decide) rfl (fun ls hl => ?_)
        refine lv_goto (tgt := 5) hx hb d_SM_push_75 (by decide) ?_
        exact ih (j + 1) u (upd (upd r9 (tt * 4 + opp k) (r9 (tt * 4 + opp k) + nI 1)) (u * 4 + k) (upd r9 (tt * 4 + opp k) (r9 (tt * 4 + opp k) + nI 1) (u * 4 + k) - nI 1)) (by omega) (by omega) (by rw [← hR, show n - (j + 1) = n - j - 1 by omega]; exact (puF_go (by omega) c_16 hk4 (by omega) hak hlu).symm) (okRm_upd (okRm_upd hR9 hw1) hw2) hun hau _ _ _ (hP.sub [0, 1, 2, 3] rfl) (hD.sub [0, 1, 2, 3] (by decide) rfl) hS (lv_sub hl [4, 5, 1, 0] rfl)
set_option maxHeartbeats 4000000 in
set_option maxRecDepth 100000 in
/-- push -/
theorem k_SM_push (l : Launch) (D : va_G) (cI cJ : ClassId) (e0 : Nat) (e1 : Nat) (e2 : Nat) (e3 : Nat) (e4 : Nat) (e5 : Nat) (e6 : Nat) (n : Nat) (lk : Nat → Int32) (we : Nat → Int32) (rm : Nat → Int32) (ar : Nat → Int32) (fm : Nat) (ed : Nat) (sz : Nat) (hRm : okRm we rm n) (hAr : okA lk we ar n fm) (hn : n ≤ 120) (hfm : fm < n) (hed : ed < n) (hva : ar ed ≠ -1) : Met l y_SM_push ws_SM_push ({ frames := 1, cells := 0, slots := 0, locals := 20 } : Room) (va_Pc [.ref e0, .int (nI fm), .int (nI ed)] (Pw D cI cJ [(e0, .inr (4, [.ref e1, .ref e2, .ref e3, .ref e4, .ref e5, .ref e6, .int (nI n)])), (e1, .inl (cI, 480, .inl lk)), (e3, .inl (cI, 480, .inl rm)), (e4, .inl (cI, 120, .inl ar))] sz)) (va_Qv (fun (u9 : Nat → Int32) => u9 = puF lk ar fm n ed rm ∧ okRm we u9 n) (fun u9 t9 => Bw D (va_A [(e0, .inr (4, [.ref e1, .ref e2, .ref e3, .ref e4, .ref e5, .ref e6, .int (nI n)])), (e1, .inl (cI, 480, .inl lk)), (e3, .inl (cI, 480, .inl rm)), (e4, .inl (cI, 120, .inl ar))] sz) [(e0, .inr (4, [.ref e1, .ref e2, .ref e3, .ref e4, .ref e5, .ref e6, .int (nI n)])), (e1, .inl (cI, 480, .inl lk)), (e3, .inl (cI, 480, .inl u9)), (e4, .inl (cI, 120, .inl ar))] t9) (va_A [(e0, .inr (4, [.ref e1, .ref e2, .ref e3, .ref e4, .ref e5, .ref e6, .int (nI n)])), (e1, .inl (cI, 480, .inl lk)), (e3, .inl (cI, 480, .inl rm)), (e4, .inl (cI, 120, .inl ar))] sz)) 0 0 (va_A [(e0, .inr (4, [.ref e1, .ref e2, .ref e3, .ref e4, .ref e5, .ref e6, .int (nI n)])), (e1, .inl (cI, 480, .inl lk)), (e3, .inl (cI, 480, .inl rm)), (e4, .inl (cI, 120, .inl ar))] sz) := by
  refine Met.ofW (cc := c_SM_push) (maxL := 7) (ret := none) (by decide) rfl ?_
  intro p e s m args below meth c s₁ B hml hv
  obtain ⟨rfl, hsz, hE, hP, hD0, hX⟩ := hv
  have hx := B.exec
  have hb := B.bytes
  have hr := B.returns
  have hw : ∀ w ∈ gw, w.before _ s = true := fun w h => atoms_spec (ws := ws_SM_push) B.pre w (List.mem_cons_of_mem _ h)
  have hown : s.vm.findClass R_SM = some m.cls := findClass_of_methodNamed B.named
  have hlocks := B.notSynchronized
  subst hsz
  have hD := hD0.self (sz := s.heap.size)
  generalize hAe : va_A [(e0, .inr (4, [.ref e1, .ref e2, .ref e3, .ref e4, .ref e5, .ref e6, .int (nI n)])), (e1, .inl (cI, 480, .inl lk)), (e3, .inl (cI, 480, .inl rm)), (e4, .inl (cI, 120, .inl ar))] s.heap.size = A at hD hX ⊢
  have hA : ∀ q : Nat, s.heap.size ≤ q → A q := fun q h => by rw [← hAe]; exact Or.inr h
  have hS : va_S A s.heap s.heap [] := va_S.rf
  have hP : va_P D vwCl [(e0, .inr (4, [.ref e1, .ref e2, .ref e3, .ref e4, .ref e5, .ref e6, .int (nI n)])), (e1, .inl (cI, 480, .inl lk)), (e3, .inl (cI, 480, .inl rm)), (e4, .inl (cI, 120, .inl ar))] s.heap := hP
  have hl := lv_entry ([.ref e0, .int (nI fm), .int (nI ed)]) (n := 7) (Nat.le_of_ble_eq_true rfl)
  rw [lg_entry_eq]
  generalize (lg_sl ([.ref e0, .int (nI fm), .int (nI ed)]) ++ List.replicate (7 - (lg_sl ([.ref e0, .int (nI fm), .int (nI ed)])).length) Slot.unset).toArray = ls at hl ⊢
  have hl : lv_has ls 7 [(0, .ref e0), (1, .int (nI fm)), (2, .int (nI ed))] := hl
  refine lv_iload_n hx hb d_SM_push_0 rfl (lv_at hl 2 rfl) ?_
  refine lv_istore_n (lv' := [(3, .int (nI ed)), (0, .ref e0), (1, .int (nI fm)), (2, .int (nI ed))]) hx hb d_SM_push_1 rfl hl (by decide) rfl (fun ls hl => ?_)
  refine lv_iconst (v := nI 0) hx hb d_SM_push_2 (by decide +kernel) ?_
  refine lv_istore (lv' := [(4, .int (nI 0)), (3, .int (nI ed)), (0, .ref e0), (1, .int (nI fm)), (2, .int (nI ed))]) hx hb d_SM_push_3 hl (by decide) rfl (fun ls hl => ?_)
  refine lp_k_SM_push_5 e0 e1 e2 e3 e4 e5 e6 n lk we rm ar fm ed hRm hAr hn hfm hed hva hx hb hml hown hw hE hX hA (fun r9 hR hR9 H locs ls hP hD hS hl => ?_) ((n - 0) + 1) 0 ed rm (Nat.lt_succ_self _) (Nat.zero_le _) rfl hRm hed hva _ _ _ (hP.sub [0, 1, 2, 3] rfl) (hD.sub [0, 1, 2, 3] (by decide) rfl) hS (lv_sub hl [2, 3, 1, 0] rfl)
  have hP9 := hP.sub (ws' := [(e0, .inr (4, [.ref e1, .ref e2, .ref e3, .ref e4, .ref e5, .ref e6, .int (nI n)])), (e1, .inl (cI, 480, .inl lk)), (e3, .inl (cI, 480, .inl r9)), (e4, .inl (cI, 120, .inl ar))]) [0, 1, 2, 3] rfl
  have hD9 := hD.sub (ws' := [(e0, .inr (4, [.ref e1, .ref e2, .ref e3, .ref e4, .ref e5, .ref e6, .int (nI n)])), (e1, .inl (cI, 480, .inl lk)), (e3, .inl (cI, 480, .inl r9)), (e4, .inl (cI, 120, .inl ar))]) [0, 1, 2, 3] (by decide) rfl
  exact W.vret hx hb hr (fun t9 ht hW => ⟨⟨r9, rfl, ⟨hR, hR9⟩, ⟨by rw [ht]; exact hP9, hD9⟩⟩, hS.F ht⟩) hS.2.2 d_SM_push_78
set_option maxHeartbeats 4000000 in
set_option maxRecDepth 100000 in
theorem lp_k_SM_flow_21 {p : Program} {l : Launch} {e : Env} {s : State} {m : MethodId} {args : Array Value} {below : List Frame} {meth : Method} {c : Code} {D : va_G} {cI cJ : ClassId} {Q : State → Prop} {A : Nat → Prop} (e0 : Nat) (e1 : Nat) (e2 : Nat) (e3 : Nat) (e4 : Nat) (e5 : Nat) (e6 : Nat) (n : Nat) (lk : Nat → Int32) (we : Nat → Int32) (rm : Nat → Int32) (ar : Nat → Int32) (qu : Nat → Int32) (fm : Nat) (mo : Nat) (hL : okLk lk we n) (hfm : fm < n) (hn : n ≤ 120) (hmo : mo < 2 ^ 31)  (hx : p.tables.exec = Jvm.exec) (hb : c.code = c_SM_flow) (hml : c.maxLocals = 5) (hown : s.vm.findClass R_SM = some m.cls) (hw : ∀ w ∈ gw, w.before args s = true) (hE : En D cI cJ s) (hX : Sx A s s.heap) (hA : ∀ q : Nat, s.heap.size ≤ q → A q)
    (kx0 : ∀ (k : Nat) (z9 : T3), (k ≤ mo) → (flF lk n fm mo 0 (va_cpy we rm 0 0 (n * 4), ar, qu) = (k, z9)) → ∀ (H : Heap) (locs : List Loc) (ls : Array Slot), va_P D vwCl [(e0, .inr (4, [.ref e1, .ref e2, .ref e3, .ref e4, .ref e5, .ref e6, .int (nI n)])), (e1, .inl (cI, 480, .inl lk)), (e2, .inl (cI, 480, .inl we)), (e3, .inl (cI, 480, .inl z9.1)), (e4, .inl (cI, 120, .inl z9.2.1)), (e5, .inl (cI, 120, .inl z9.2.2))] H → va_D A [(e0, .inr (4, [.ref e1, .ref e2, .ref e3, .ref e4, .ref e5, .ref e6, .int (nI n)])), (e1, .inl (cI, 480, .inl lk)), (e2, .inl (cI, 480, .inl we)), (e3, .inl (cI, 480, .inl z9.1)), (e4, .inl (cI, 120, .inl z9.2.1)), (e5, .inl (cI, 120, .inl z9.2.2))] → va_S A s.heap H locs → lv_has ls 5 [(3, .int (nI k))] → W p l e ({ frames := 2, cells := 0, slots := 0, locals := 49 } : Room) s m args below meth c H locs 0 0 Q (F0 m 39 ls []))
    (kx1 : ∀ (z9 : T3), (flF lk n fm mo 0 (va_cpy we rm 0 0 (n * 4), ar, qu) = (mo, z9)) → ∀ (H : Heap) (locs : List Loc) (ls : Array Slot), va_P D vwCl [(e0, .inr (4, [.ref e1, .ref e2, .ref e3, .ref e4, .ref e5, .ref e6, .int (nI n)])), (e1, .inl (cI, 480, .inl lk)), (e2, .inl (cI, 480, .inl we)), (e3, .inl (cI, 480, .inl z9.1)), (e4, .inl (cI, 120, .inl z9.2.1)), (e5, .inl (cI, 120, .inl z9.2.2))] H → va_D A [(e0, .inr (4, [.ref e1, .ref e2, .ref e3, .ref e4, .ref e5, .ref e6, .int (nI n)])), (e1, .inl (cI, 480, .inl lk)), (e2, .inl (cI, 480, .inl we)), (e3, .inl (cI, 480, .inl z9.1)), (e4, .inl (cI, 120, .inl z9.2.1)), (e5, .inl (cI, 120, .inl z9.2.2))] → va_S A s.heap H locs → lv_has ls 5 [(2, .int (nI mo))] → W p l e ({ frames := 2, cells := 0, slots := 0, locals := 49 } : Room) s m args below meth c H locs 0 0 Q (F0 m 54 ls [])) :
    ∀ (fu : Nat) (k : Nat) (z9 : T3), mo - k < fu → (k ≤ mo) → (flF lk n fm (mo - k) k z9 = flF lk n fm mo 0 (va_cpy we rm 0 0 (n * 4), ar, qu)) → (okRm we z9.1 n) → ∀ (H : Heap) (locs : List Loc) (ls : Array Slot), va_P D vwCl [(e0, .inr (4, [.ref e1, .ref e2, .ref e3, .ref e4, .ref e5, .ref e6, .int (nI n)])), (e1, .inl (cI, 480, .inl lk)), (e2, .inl (cI, 480, .inl we)), (e3, .inl (cI, 480, .inl z9.1)), (e4, .inl (cI, 120, .inl z9.2.1)), (e5, .inl (cI, 120, .inl z9.2.2))] H → va_D A [(e0, .inr (4, [.ref e1, .ref e2, .ref e3, .ref e4, .ref e5, .ref e6, .int (nI n)])), (e1, .inl (cI, 480, .inl lk)), (e2, .inl (cI, 480, .inl we)), (e3, .inl (cI, 480, .inl z9.1)), (e4, .inl (cI, 120, .inl z9.2.1)), (e5, .inl (cI, 120, .inl z9.2.2))] → va_S A s.heap H locs → lv_has ls 5 [(0, .ref e0), (1, .int (nI fm)), (2, .int (nI mo)), (3, .int (nI k))] → W p l e ({ frames := 2, cells := 0, slots := 0, locals := 49 } : Room) s m args below meth c H locs 0 0 Q (F0 m 21 ls []) := by
  intro fu
  induction fu with
  | zero =>
    intro k z9 h0
    exact absurd h0 (Nat.not_lt_zero _)
  | succ fu ih =>
    intro k z9 hmu hk hR hR9 H locs ls hP hD hS hl
    refine lv_iload_n hx hb d_SM_flow_21 rfl (lv_at hl 3 rfl) ?_
    refine lv_iload_n hx hb d_SM_flow_22 rfl (lv_at hl 2 rfl) ?_
    refine jn_icmp_ge (tgt := 54) (a := k) (b := mo) hx hb d_SM_flow_23 (by decide) (by omega) (by omega) (fun c_23 => ?_) (fun c_23 => ?_)
    · skip
      exact kx1 z9 (by rw [← hR, show k = mo by omega, Nat.sub_self]; rfl) _ _ _ (hP.sub [0, 1, 2, 3, 4, 5] rfl) (hD.sub [0, 1, 2, 3, 4, 5] (by decide) rfl) hS (lv_sub hl [2] rfl)
    · skip
      refine lv_aload_n hx hb d_SM_flow_26 rfl (lv_at hl 0 rfl) ?_
      refine lv_iload_n hx hb d_SM_flow_27 rfl (lv_at hl 1 rfl) ?_
      refine cl_i (wr := [(e2, .inl (cI, 480, .inl we))]) (va_runV (As := [.int (nI fm)]) (rest := []) ⟨hx, hb, hml, hown, hw⟩ (k_SM_earlierOne l D cI cJ e0 e1 e2 e3 e4 e5 e6 n lk we z9.1 z9.2.1 z9.2.2 fm _ hL hR9 hfm hn) (cwV 1 hw (gV kw_723 kw_725 kw_17 kw_44 kw_726) rfl rfl rfl (by decide +kernel) ⟨Nat.le_of_ble_eq_true rfl, Nat.le_of_ble_eq_true rfl⟩) (pre_Vw (wc := [(e0, .inr (4, [.ref e1, .ref e2, .ref e3, .ref e4, .ref e5, .ref e6, .int (nI n)])), (e1, .inl (cI, 480, .inl lk)), (e3, .inl (cI, 480, .inl z9.1)), (e4, .inl (cI, 120, .inl z9.2.1)), (e5, .inl (cI, 120, .inl z9.2.2))]) (q0 := 0) hE hX hA hP hD hS [0, 1, 3, 4, 5] (by decide) rfl rfl rfl rfl) rfl rfl hl.1 rfl (lv_room (Nat.le_of_ble_eq_true rfl)) d_SM_flow_28 ⟨Nat.le_of_ble_eq_true rfl, Nat.le_of_ble_eq_true rfl⟩) hP hD hS hA [0, 1, 3, 4, 5] [2] rfl rfl (by decide) (by decide) (fun r_1 u_r_1 H locs hr_1 hP hD hS => ?_)
      have hP : va_P D vwCl [(e2, .inl (cI, 480, .inl we)), (e0, .inr (4, [.ref e1, .ref e2, .ref e3, .ref e4, .ref e5, .ref e6, .int (nI n)])), (e1, .inl (cI, 480, .inl lk)), (e3, .inl (cI, 480, .inl z9.1)), (e4, .inl (cI, 120, .inl u_r_1.1)), (e5, .inl (cI, 120, .inl u_r_1.2.1))] H := hP
      have hD : va_D A [(e2, .inl (cI, 480, .inl we)), (e0, .inr (4, [.ref e1, .ref e2, .ref e3, .ref e4, .ref e5, .ref e6, .int (nI n)])), (e1, .inl (cI, 480, .inl lk)), (e3, .inl (cI, 480, .inl z9.1)), (e4, .inl (cI, 120, .inl u_r_1.1)), (e5, .inl (cI, 120, .inl u_r_1.2.1))] := hD
      obtain ⟨o, rfl, hV, hA1, ho⟩ := hr_1
      refine lv_istore (lv' := [(4, .int (eoR o)), (0, .ref e0), (1, .int (nI fm)), (2, .int (nI mo)), (3, .int (nI k))]) hx hb d_SM_flow_31 hl (by decide) rfl (fun ls hl => ?_)
      refine lv_iload hx hb d_SM_flow_33 (lv_at hl 0 rfl) ?_
      refine lv_iconst (v := (-1)) hx hb d_SM_flow_35 (by decide +kernel) ?_
      refine lv_icmp_ne (tgt := 41) hx hb d_SM_flow_36 (by decide) (fun c_36 => ?_) (fun c_36 => ?_)
      · skip
        obtain ⟨tt, rfl⟩ := eoR_ne c_36
        obtain ⟨ht1, ht2⟩ := ho tt rfl
        have hl : lv_has ls 5 [(4, .int (nI tt)), (0, .ref e0), (1, .int (nI fm)), (2, .int (nI mo)), (3, .int (nI k))] := hl
        refine lv_aload_n hx hb d_SM_flow_41 rfl (lv_at hl 1 rfl) ?_
        refine lv_iload_n hx hb d_SM_flow_42 rfl (lv_at hl 2 rfl) ?_
        refine lv_iload hx hb d_SM_flow_43 (lv_at hl 0 rfl) ?_
        refine cl_v (wr := [(e2, .inl (cI, 480, .inl we)), (e5, .inl (cI, 120, .inl u_r_1.2.1))]) (va_runV (As := [.int (nI fm), .int (nI tt)]) (rest := []) ⟨hx, hb, hml, hown, hw⟩ (k_SM_push l D cI cJ e0 e1 e2 e3 e4 e5 e6 n lk we z9.1 u_r_1.1 fm tt _ hR9 hA1 hn hfm (by omega) ht2) (cwV 2 hw (gV kw_727 kw_729 kw_18 kw_44 kw_730) rfl rfl rfl (by decide +kernel) ⟨Nat.le_of_ble_eq_true rfl, Nat.le_of_ble_eq_true rfl⟩) (pre_Vw (wc := [(e0, .inr (4, [.ref e1, .ref e2, .ref e3, .ref e4, .ref e5, .ref e6, .int (nI n)])), (e1, .inl (cI, 480, .inl lk)), (e3, .inl (cI, 480, .inl z9.1)), (e4, .inl (cI, 120, .inl u_r_1.1))]) (q0 := 0) hE hX hA hP hD hS [1, 2, 3, 4] (by decide) rfl rfl rfl rfl) rfl rfl hl.1 rfl (lv_room (Nat.le_of_ble_eq_true rfl)) d_SM_flow_45 ⟨Nat.le_of_ble_eq_true rfl, Nat.le_of_ble_eq_true rfl⟩) hP hD hS hA [1, 2, 3, 4] [0, 5] rfl rfl (by decide) (by decide) (fun u_r_2 H locs hr_2 hP hD hS => ?_)
        have hP : va_P D vwCl [(e2, .inl (cI, 480, .inl we)), (e5, .inl (cI, 120, .inl u_r_1.2.1)), (e0, .inr (4, [.ref e1, .ref e2, .ref e3, .ref e4, .ref e5, .ref e6, .int (nI n)])), (e1, .inl (cI, 480, .inl lk)), (e3, .inl (cI, 480, .inl u_r_2)), (e4, .inl (cI, 120, .inl u_r_1.1))] H := hP
        have hD : va_D A [(e2, .inl (cI, 480, .inl we)), (e5, .inl (cI, 120, .inl u_r_1.2.1)), (e0, .inr (4, [.ref e1, .ref e2, .ref e3, .ref e4, .ref e5, .ref e6, .int (nI n)])), (e1, .inl (cI, 480, .inl lk)), (e3, .inl (cI, 480, .inl u_r_2)), (e4, .inl (cI, 120, .inl u_r_1.1))] := hD
        refine lv_iinc (v := nI (k + 1)) (lv' := [(3, .int (nI (k + 1))), (4, .int (nI tt)), (0, .ref e0), (1, .int (nI fm)), (2, .int (nI mo))]) hx hb d_SM_flow_48 hl (k := 4) rfl (jn_inc k 1) (by decide) rfl (fun ls hl => ?_)
        refine lv_goto (tgt := 21) hx hb d_SM_flow_51 (by decide) ?_
        exact ih (k + 1) (u_r_2, u_r_1.1, u_r_1.2.1) (by omega) (by omega) (by rw [← hR, show mo - (k + 1) = mo - k - 1 by omega, hr_2.1]; exact (flF_go (by omega) hV.symm).symm) hr_2.2 _ _ _ (hP.sub [2, 3, 0, 4, 5, 1] rfl) (hD.sub [2, 3, 0, 4, 5, 1] (by decide) rfl) hS (lv_sub hl [2, 3, 4, 0] rfl)
      · skip
        exact kx0 k (z9.1, u_r_1.1, u_r_1.2.1) hk (by rw [← hR]; exact flF_end (by omega) (by rw [← eoR_none c_36 (fun t h => by have := (ho t h).1; omega)]; exact hV.symm)) _ _ _ (hP.sub [1, 2, 0, 3, 4, 5] rfl) (hD.sub [1, 2, 0, 3, 4, 5] (by decide) rfl) hS (lv_sub hl [4] rfl)
set_option maxHeartbeats 4000000 in
set_option maxRecDepth 100000 in
/-- flow -/
theorem k_SM_flow (l : Launch) (D : va_G) (cI cJ : ClassId) (e0 : Nat) (e1 : Nat) (e2 : Nat) (e3 : Nat) (e4 : Nat) (e5 : Nat) (e6 : Nat) (n : Nat) (lk : Nat → Int32) (we : Nat → Int32) (rm : Nat → Int32) (ar : Nat → Int32) (qu : Nat → Int32) (fm : Nat) (mo : Nat) (sz : Nat) (hL : okLk lk we n) (hfm : fm < n) (hn : n ≤ 120) (hmo : mo < 2 ^ 31) : Met l y_SM_flow ws_SM_flow ({ frames := 2, cells := 0, slots := 0, locals := 49 } : Room) (va_Pc [.ref e0, .int (nI fm), .int (nI mo)] (Pw D cI cJ [(e0, .inr (4, [.ref e1, .ref e2, .ref e3, .ref e4, .ref e5, .ref e6, .int (nI n)])), (e1, .inl (cI, 480, .inl lk)), (e2, .inl (cI, 480, .inl we)), (e3, .inl (cI, 480, .inl rm)), (e4, .inl (cI, 120, .inl ar)), (e5, .inl (cI, 120, .inl qu))] sz)) (va_Qi (fun (r : Int32) (u9 : T3) => ∃ b : Nat, b ≤ mo ∧ r = nI b ∧ (b, u9) = flF lk n fm mo 0 (va_cpy we rm 0 0 (n * 4), ar, qu)) (fun u9 t9 => Bw D (va_A [(e0, .inr (4, [.ref e1, .ref e2, .ref e3, .ref e4, .ref e5, .ref e6, .int (nI n)])), (e1, .inl (cI, 480, .inl lk)), (e2, .inl (cI, 480, .inl we)), (e3, .inl (cI, 480, .inl rm)), (e4, .inl (cI, 120, .inl ar)), (e5, .inl (cI, 120, .inl qu))] sz) [(e0, .inr (4, [.ref e1, .ref e2, .ref e3, .ref e4, .ref e5, .ref e6, .int (nI n)])), (e1, .inl (cI, 480, .inl lk)), (e2, .inl (cI, 480, .inl we)), (e3, .inl (cI, 480, .inl u9.1)), (e4, .inl (cI, 120, .inl u9.2.1)), (e5, .inl (cI, 120, .inl u9.2.2))] t9) (va_A [(e0, .inr (4, [.ref e1, .ref e2, .ref e3, .ref e4, .ref e5, .ref e6, .int (nI n)])), (e1, .inl (cI, 480, .inl lk)), (e2, .inl (cI, 480, .inl we)), (e3, .inl (cI, 480, .inl rm)), (e4, .inl (cI, 120, .inl ar)), (e5, .inl (cI, 120, .inl qu))] sz)) 0 0 (va_A [(e0, .inr (4, [.ref e1, .ref e2, .ref e3, .ref e4, .ref e5, .ref e6, .int (nI n)])), (e1, .inl (cI, 480, .inl lk)), (e2, .inl (cI, 480, .inl we)), (e3, .inl (cI, 480, .inl rm)), (e4, .inl (cI, 120, .inl ar)), (e5, .inl (cI, 120, .inl qu))] sz) := by
  refine Met.ofW (cc := c_SM_flow) (maxL := 5) (ret := (some .int)) (by decide) rfl ?_
  intro p e s m args below meth c s₁ B hml hv
  obtain ⟨rfl, hsz, hE, hP, hD0, hX⟩ := hv
  have hx := B.exec
  have hb := B.bytes
  have hr := B.returns
  have hw : ∀ w ∈ gw, w.before _ s = true := fun w h => atoms_spec (ws := ws_SM_flow) B.pre w (List.mem_cons_of_mem _ h)
  have hown : s.vm.findClass R_SM = some m.cls := findClass_of_methodNamed B.named
  have hlocks := B.notSynchronized
  subst hsz
  have hD := hD0.self (sz := s.heap.size)
  generalize hAe : va_A [(e0, .inr (4, [.ref e1, .ref e2, .ref e3, .ref e4, .ref e5, .ref e6, .int (nI n)])), (e1, .inl (cI, 480, .inl lk)), (e2, .inl (cI, 480, .inl we)), (e3, .inl (cI, 480, .inl rm)), (e4, .inl (cI, 120, .inl ar)), (e5, .inl (cI, 120, .inl qu))] s.heap.size = A at hD hX ⊢
  have hA : ∀ q : Nat, s.heap.size ≤ q → A q := fun q h => by rw [← hAe]; exact Or.inr h
  have hS : va_S A s.heap s.heap [] := va_S.rf
  have hP : va_P D vwCl [(e0, .inr (4, [.ref e1, .ref e2, .ref e3, .ref e4, .ref e5, .ref e6, .int (nI n)])), (e1, .inl (cI, 480, .inl lk)), (e2, .inl (cI, 480, .inl we)), (e3, .inl (cI, 480, .inl rm)), (e4, .inl (cI, 120, .inl ar)), (e5, .inl (cI, 120, .inl qu))] s.heap := hP
  have hl := lv_entry ([.ref e0, .int (nI fm), .int (nI mo)]) (n := 5) (Nat.le_of_ble_eq_true rfl)
  rw [lg_entry_eq]
  generalize (lg_sl ([.ref e0, .int (nI fm), .int (nI mo)]) ++ List.replicate (5 - (lg_sl ([.ref e0, .int (nI fm), .int (nI mo)])).length) Slot.unset).toArray = ls at hl ⊢
  have hl : lv_has ls 5 [(0, .ref e0), (1, .int (nI fm)), (2, .int (nI mo))] := hl
  refine lv_aload_n hx hb d_SM_flow_0 rfl (lv_at hl 0 rfl) ?_
  refine va_get (D := D) (ci := 4) (v := .ref e2) (C := R_SM) (T := T_SM) (N := 7) hx hb hw in_SM hown hE.1 hP 0 rfl rfl 1 (by decide) (hw _ kw_161) (fun _ h9 => h9) rfl d_SM_flow_1 ?_
  refine lv_iconst (v := nI 0) hx hb d_SM_flow_4 (by decide +kernel) ?_
  refine lv_aload_n hx hb d_SM_flow_5 rfl (lv_at hl 0 rfl) ?_
  refine va_get (D := D) (ci := 4) (v := .ref e3) (C := R_SM) (T := T_SM) (N := 7) hx hb hw in_SM hown hE.1 hP 0 rfl rfl 2 (by decide) (hw _ kw_162) (fun _ h9 => h9) rfl d_SM_flow_6 ?_
  refine lv_iconst (v := nI 0) hx hb d_SM_flow_9 (by decide +kernel) ?_
  refine lv_aload_n hx hb d_SM_flow_10 rfl (lv_at hl 0 rfl) ?_
  refine va_get (D := D) (ci := 4) (v := .int (nI n)) (C := R_SM) (T := T_SM) (N := 7) hx hb hw in_SM hown hE.1 hP 0 rfl rfl 6 (by decide) (hw _ kw_166) (fun _ h9 => h9) rfl d_SM_flow_11 ?_
  refine lv_iconst (v := nI 4) hx hb d_SM_flow_14 (by decide +kernel) ?_
  refine jn_imul (a := n) (b := 4) hx hb d_SM_flow_15 ?_
  refine va_copyi hx hb (by rw [hml]; exact hl.1.symm) hown (hw _ kw_720) (hw _ kw_722) (hw _ kw_721) (hw _ kw_56) hE.1 hP hD hS 2 3 0 0 rfl rfl rfl rfl rfl (by decide +kernel) (by decide +kernel) (nI_pos (by omega)) (by show nn (nI 0) + nn (nI (n * 4)) ≤ _; rw [nn_nI (by decide), nn_nI (by omega)]; omega) (by show nn (nI 0) + nn (nI (n * 4)) ≤ _; rw [nn_nI (by decide), nn_nI (by omega)]; omega) (fun _ _ => rfl) (Nat.le_of_ble_eq_true rfl) (Nat.le_of_ble_eq_true rfl) d_SM_flow_16 (fun H locs hP hD hS => ?_)
  rw [show (nI 0).toNatClampNeg = 0 from nn_nI (by decide), show (nI (n * 4)).toNatClampNeg = (n * 4) from nn_nI (by omega)] at hP hD
  have hP : va_P D vwCl [(e0, .inr (4, [.ref e1, .ref e2, .ref e3, .ref e4, .ref e5, .ref e6, .int (nI n)])), (e1, .inl (cI, 480, .inl lk)), (e2, .inl (cI, 480, .inl we)), (e3, .inl (cI, 480, .inl (va_cpy we rm 0 0 (n * 4)))), (e4, .inl (cI, 120, .inl ar)), (e5, .inl (cI, 120, .inl qu))] H := hP
  have hD : va_D A [(e0, .inr (4, [.ref e1, .ref e2, .ref e3, .ref e4, .ref e5, .ref e6, .int (nI n)])), (e1, .inl (cI, 480, .inl lk)), (e2, .inl (cI, 480, .inl we)), (e3, .inl (cI, 480, .inl (va_cpy we rm 0 0 (n * 4)))), (e4, .inl (cI, 120, .inl ar)), (e5, .inl (cI, 120, .inl qu))] := hD
  refine lv_iconst (v := nI 0) hx hb d_SM_flow_19 (by decide +kernel) ?_
  refine lv_istore_n (lv' := [(3, .int (nI 0)), (0, .ref e0), (1, .int (nI fm)), (2, .int (nI mo))]) hx hb d_SM_flow_20 rfl hl (by decide) rfl (fun ls hl => ?_)
  refine lp_k_SM_flow_21 e0 e1 e2 e3 e4 e5 e6 n lk we rm ar qu fm mo hL hfm hn hmo hx hb hml hown hw hE hX hA (fun k z9 hk hR H locs ls hP hD hS hl => ?_) (fun z9 hR H locs ls hP hD hS hl => ?_) ((mo - 0) + 1) 0 (va_cpy we rm 0 0 (n * 4), ar, qu) (Nat.lt_succ_self _) (Nat.zero_le _) rfl (okRm_cpy we rm n) _ _ _ (hP.sub [0, 1, 2, 3, 4, 5] rfl) (hD.sub [0, 1, 2, 3, 4, 5] (by decide) rfl) hS (lv_sub hl [1, 2, 3, 0] rfl)
  · skip
    refine lv_iload_n hx hb d_SM_flow_39 rfl (lv_at hl 0 rfl) ?_
    have hP9 := hP.sub (ws' := [(e0, .inr (4, [.ref e1, .ref e2, .ref e3, .ref e4, .ref e5, .ref e6, .int (nI n)])), (e1, .inl (cI, 480, .inl lk)), (e2, .inl (cI, 480, .inl we)), (e3, .inl (cI, 480, .inl z9.1)), (e4, .inl (cI, 120, .inl z9.2.1)), (e5, .inl (cI, 120, .inl z9.2.2))]) [0, 1, 2, 3, 4, 5] rfl
    have hD9 := hD.sub (ws' := [(e0, .inr (4, [.ref e1, .ref e2, .ref e3, .ref e4, .ref e5, .ref e6, .int (nI n)])), (e1, .inl (cI, 480, .inl lk)), (e2, .inl (cI, 480, .inl we)), (e3, .inl (cI, 480, .inl z9.1)), (e4, .inl (cI, 120, .inl z9.2.1)), (e5, .inl (cI, 120, .inl z9.2.2))]) [0, 1, 2, 3, 4, 5] (by decide) rfl
    exact W.iret (v := nI k) hx hb hr (fun t9 ht hW => ⟨⟨_, z9, rfl, ⟨k, hk, rfl, hR.symm⟩, ⟨by rw [ht]; exact hP9, hD9⟩⟩, hS.F ht⟩) hS.2.2 d_SM_flow_40
  · skip
    refine lv_iload_n hx hb d_SM_flow_54 rfl (lv_at hl 0 rfl) ?_
    have hP9 := hP.sub (ws' := [(e0, .inr (4, [.ref e1, .ref e2, .ref e3, .ref e4, .ref e5, .ref e6, .int (nI n)])), (e1, .inl (cI, 480, .inl lk)), (e2, .inl (cI, 480, .inl we)), (e3, .inl (cI, 480, .inl z9.1)), (e4, .inl (cI, 120, .inl z9.2.1)), (e5, .inl (cI, 120, .inl z9.2.2))]) [0, 1, 2, 3, 4, 5] rfl
    have hD9 := hD.sub (ws' := [(e0, .inr (4, [.ref e1, .ref e2, .ref e3, .ref e4, .ref e5, .ref e6, .int (nI n)])), (e1, .inl (cI, 480, .inl lk)), (e2, .inl (cI, 480, .inl we)), (e3, .inl (cI, 480, .inl z9.1)), (e4, .inl (cI, 120, .inl z9.2.1)), (e5, .inl (cI, 120, .inl z9.2.2))]) [0, 1, 2, 3, 4, 5] (by decide) rfl
    exact W.iret (v := nI mo) hx hb hr (fun t9 ht hW => ⟨⟨_, z9, rfl, ⟨mo, Nat.le_refl _, rfl, hR.symm⟩, ⟨by rw [ht]; exact hP9, hD9⟩⟩, hS.F ht⟩) hS.2.2 d_SM_flow_55
set_option maxHeartbeats 4000000 in
set_option maxRecDepth 100000 in
theorem lp_k_SM_weakest_10 {p : Program} {l : Launch} {e : Env} {s : State} {m : MethodId} {args : Array Value} {below : List Frame} {meth : Method} {c : Code} {D : va_G} {cI cJ : ClassId} {Q : State → Prop} {A : Nat → Prop} (e0 : Nat) (e1 : Nat) (e2 : Nat) (e3 : Nat) (e4 : Nat) (e5 : Nat) (e6 : Nat) (f0 : Nat) (f1 : Nat) (f2 : Nat) (f3 : Nat) (f4 : Nat) (o1 : Nat) (np : Int32) (ns : Int32) (aw : Int32) (s1 : Nat) (s2 : Nat) (s3 : Nat) (ty : Int32) (wa : Int32) (st : Nat → Int32) (sd : Nat → Int32) (be : Nat → Int64) (ce : Nat → Int32) (lk : Nat → Int32) (we : Nat → Int32) (rm : Nat → Int32) (ar : Nat → Int32) (qu : Nat → Int32) (ne : Nat → Int32) (n7 : Int32) (hce : okCe ce) (hsd : okSd sd) (hst : okSt st) (hin : okIn ce) (hW9 : okW ce) (hLk : okLk (gaL ce sd st (lk, flI we (nI 0) 480, flI ne (-1) 40, 0) 1764).1 (gaL ce sd st (lk, flI we (nI 0) 480, flI ne (-1) 40, 0) 1764).2.1 (gaL ce sd st (lk, flI we (nI 0) 480, flI ne (-1) 40, 0) 1764).2.2.2) (g9 : GS) (hL9 : okLk g9.1 g9.2.1 g9.2.2.2) (hn9 : g9.2.2.2 ≤ 120) (hx : p.tables.exec = Jvm.exec) (hb : c.code = c_SM_weakest) (hml : c.maxLocals = 4) (hown : s.vm.findClass R_SM = some m.cls) (hw : ∀ w ∈ gw, w.before args s = true) (hE : En D cI cJ s) (hX : Sx A s s.heap) (hA : ∀ q : Nat, s.heap.size ≤ q → A q)
    (kx0 : ∀ (b : Nat) (z9 : T3), (weF g9.1 g9.2.1 g9.2.2.2 (g9.2.2.2 - 1) 1 8 (rm, ar, qu) = (b, z9)) → ∀ (H : Heap) (locs : List Loc) (ls : Array Slot), va_P D vwCl [(e0, .inr (4, [.ref e1, .ref e2, .ref e3, .ref e4, .ref e5, .ref e6, .int (nI g9.2.2.2)])), (e1, .inl (cI, 480, .inl g9.1)), (e2, .inl (cI, 480, .inl g9.2.1)), (e3, .inl (cI, 480, .inl z9.1)), (e4, .inl (cI, 120, .inl z9.2.1)), (e5, .inl (cI, 120, .inl z9.2.2)), (e6, .inl (cI, 40, .inl g9.2.2.1)), (f0, .inr (2, [.ref o1, .ref f1, .ref f2, .ref f3, .ref f4, .int np, .int ns, .int aw])), (f1, .inl (cI, 1764, .inl ce)), (o1, .inr (1, [.ref s1, .ref s2, .ref s3, .int ty, .int wa])), (s1, .inl (cI, 100, .inl st)), (s2, .inl (cI, 244, .inl sd)), (s3, .inl (cJ, 400, .inr (.inl be)))] H → va_D A [(e0, .inr (4, [.ref e1, .ref e2, .ref e3, .ref e4, .ref e5, .ref e6, .int (nI g9.2.2.2)])), (e1, .inl (cI, 480, .inl g9.1)), (e2, .inl (cI, 480, .inl g9.2.1)), (e3, .inl (cI, 480, .inl z9.1)), (e4, .inl (cI, 120, .inl z9.2.1)), (e5, .inl (cI, 120, .inl z9.2.2)), (e6, .inl (cI, 40, .inl g9.2.2.1)), (f0, .inr (2, [.ref o1, .ref f1, .ref f2, .ref f3, .ref f4, .int np, .int ns, .int aw])), (f1, .inl (cI, 1764, .inl ce)), (o1, .inr (1, [.ref s1, .ref s2, .ref s3, .int ty, .int wa])), (s1, .inl (cI, 100, .inl st)), (s2, .inl (cI, 244, .inl sd)), (s3, .inl (cJ, 400, .inr (.inl be)))] → va_S A s.heap H locs → lv_has ls 4 [(2, .int (nI b))] → W p l e ({ frames := 3, cells := 0, slots := 0, locals := 73 } : Room) s m args below meth c H locs 0 0 Q (F0 m 35 ls [])) :
    ∀ (fu : Nat) (tt : Nat) (b : Nat) (z9 : T3), g9.2.2.2 - tt < fu → (1 ≤ tt) → (tt ≤ 121) → (weF g9.1 g9.2.1 g9.2.2.2 (g9.2.2.2 - tt) tt b z9 = weF g9.1 g9.2.1 g9.2.2.2 (g9.2.2.2 - 1) 1 8 (rm, ar, qu)) → (b ≤ 8) → ∀ (H : Heap) (locs : List Loc) (ls : Array Slot), va_P D vwCl [(e0, .inr (4, [.ref e1, .ref e2, .ref e3, .ref e4, .ref e5, .ref e6, .int (nI g9.2.2.2)])), (e1, .inl (cI, 480, .inl g9.1)), (e2, .inl (cI, 480, .inl g9.2.1)), (e3, .inl (cI, 480, .inl z9.1)), (e4, .inl (cI, 120, .inl z9.2.1)), (e5, .inl (cI, 120, .inl z9.2.2)), (e6, .inl (cI, 40, .inl g9.2.2.1)), (f0, .inr (2, [.ref o1, .ref f1, .ref f2, .ref f3, .ref f4, .int np, .int ns, .int aw])), (f1, .inl (cI, 1764, .inl ce)), (o1, .inr (1, [.ref s1, .ref s2, .ref s3, .int ty, .int wa])), (s1, .inl (cI, 100, .inl st)), (s2, .inl (cI, 244, .inl sd)), (s3, .inl (cJ, 400, .inr (.inl be)))] H → va_D A [(e0, .inr (4, [.ref e1, .ref e2, .ref e3, .ref e4, .ref e5, .ref e6, .int (nI g9.2.2.2)])), (e1, .inl (cI, 480, .inl g9.1)), (e2, .inl (cI, 480, .inl g9.2.1)), (e3, .inl (cI, 480, .inl z9.1)), (e4, .inl (cI, 120, .inl z9.2.1)), (e5, .inl (cI, 120, .inl z9.2.2)), (e6, .inl (cI, 40, .inl g9.2.2.1)), (f0, .inr (2, [.ref o1, .ref f1, .ref f2, .ref f3, .ref f4, .int np, .int ns, .int aw])), (f1, .inl (cI, 1764, .inl ce)), (o1, .inr (1, [.ref s1, .ref s2, .ref s3, .int ty, .int wa])), (s1, .inl (cI, 100, .inl st)), (s2, .inl (cI, 244, .inl sd)), (s3, .inl (cJ, 400, .inr (.inl be)))] → va_S A s.heap H locs → lv_has ls 4 [(0, .ref e0), (2, .int (nI b)), (3, .int (nI tt))] → W p l e ({ frames := 3, cells := 0, slots := 0, locals := 73 } : Room) s m args below meth c H locs 0 0 Q (F0 m 10 ls []) := by
  intro fu
  induction fu with
  | zero =>
    intro tt b z9 h0
    exact absurd h0 (Nat.not_lt_zero _)
  | succ fu ih =>
    intro tt b z9 hmu ht1 ht2 hR hb8 H locs ls hP hD hS hl
    refine lv_iload_n hx hb d_SM_weakest_10 rfl (lv_at hl 2 rfl) ?_
    refine lv_aload_n hx hb d_SM_weakest_11 rfl (lv_at hl 0 rfl) ?_
    refine va_get (D := D) (ci := 4) (v := .int (nI g9.2.2.2)) (C := R_SM) (T := T_SM) (N := 7) hx hb hw in_SM hown hE.1 hP 0 rfl rfl 6 (by decide) (hw _ kw_166) (fun _ h9 => h9) rfl d_SM_weakest_12 ?_
    refine jn_icmp_ge (tgt := 35) (a := tt) (b := g9.2.2.2) hx hb d_SM_weakest_15 (by decide) (by omega) (by omega) (fun c_15 => ?_) (fun c_15 => ?_)
    · skip
      exact kx0 b z9 (by rw [← hR, show g9.2.2.2 - tt = 0 by omega]; rfl) _ _ _ (hP.sub [0, 1, 2, 3, 4, 5, 6, 7, 8, 9, 10, 11, 12] rfl) (hD.sub [0, 1, 2, 3, 4, 5, 6, 7, 8, 9, 10, 11, 12] (by decide) rfl) hS (lv_sub hl [1] rfl)
    · skip
      refine lv_iload_n hx hb d_SM_weakest_18 rfl (lv_at hl 1 rfl) ?_
      refine jn_if_le (tgt := 35) (a := b) hx hb d_SM_weakest_19 (by decide) (by omega) (fun c_19 => ?_) (fun c_19 => ?_)
      · skip
        exact kx0 b z9 (by rw [← hR]; exact weF_end _ c_19) _ _ _ (hP.sub [0, 1, 2, 3, 4, 5, 6, 7, 8, 9, 10, 11, 12] rfl) (hD.sub [0, 1, 2, 3, 4, 5, 6, 7, 8, 9, 10, 11, 12] (by decide) rfl) hS (lv_sub hl [1] rfl)
      · skip
        refine lv_aload_n hx hb d_SM_weakest_22 rfl (lv_at hl 0 rfl) ?_
        refine lv_iload_n hx hb d_SM_weakest_23 rfl (lv_at hl 2 rfl) ?_
        refine lv_iload_n hx hb d_SM_weakest_24 rfl (lv_at hl 1 rfl) ?_
        refine cl_i (wr := [(e6, .inl (cI, 40, .inl g9.2.2.1)), (f0, .inr (2, [.ref o1, .ref f1, .ref f2, .ref f3, .ref f4, .int np, .int ns, .int aw])), (f1, .inl (cI, 1764, .inl ce)), (o1, .inr (1, [.ref s1, .ref s2, .ref s3, .int ty, .int wa])), (s1, .inl (cI, 100, .inl st)), (s2, .inl (cI, 244, .inl sd)), (s3, .inl (cJ, 400, .inr (.inl be)))]) (va_runV (As := [.int (nI tt), .int (nI b)]) (rest := []) ⟨hx, hb, hml, hown, hw⟩ (k_SM_flow l D cI cJ e0 e1 e2 e3 e4 e5 e6 g9.2.2.2 g9.1 g9.2.1 z9.1 z9.2.1 z9.2.2 tt b _ hL9 (by omega) hn9 (by omega)) (cwV 2 hw (gV kw_716 kw_718 kw_16 kw_44 kw_719) rfl rfl rfl (by decide +kernel) ⟨Nat.le_of_ble_eq_true rfl, Nat.le_of_ble_eq_true rfl⟩) (pre_Vw (wc := [(e0, .inr (4, [.ref e1, .ref e2, .ref e3, .ref e4, .ref e5, .ref e6, .int (nI g9.2.2.2)])), (e1, .inl (cI, 480, .inl g9.1)), (e2, .inl (cI, 480, .inl g9.2.1)), (e3, .inl (cI, 480, .inl z9.1)), (e4, .inl (cI, 120, .inl z9.2.1)), (e5, .inl (cI, 120, .inl z9.2.2))]) (q0 := 0) hE hX hA hP hD hS [0, 1, 2, 3, 4, 5] (by decide) rfl rfl rfl rfl) rfl rfl hl.1 rfl (lv_room (Nat.le_of_ble_eq_true rfl)) d_SM_weakest_25 ⟨Nat.le_of_ble_eq_true rfl, Nat.le_of_ble_eq_true rfl⟩) hP hD hS hA [0, 1, 2, 3, 4, 5] [6, 7, 8, 9, 10, 11, 12] rfl rfl (by decide) (by decide) (fun r_1 u_r_1 H locs hr_1 hP hD hS => ?_)
        have hP : va_P D vwCl [(e6, .inl (cI, 40, .inl g9.2.2.1)), (f0, .inr (2, [.ref o1, .ref f1, .ref f2, .ref f3, .ref f4, .int np, .int ns, .int aw])), (f1, .inl (cI, 1764, .inl ce)), (o1, .inr (1, [.ref s1, .ref s2, .ref s3, .int ty, .int wa])), (s1, .inl (cI, 100, .inl st)), (s2, .inl (cI, 244, .inl sd)), (s3, .inl (cJ, 400, .inr (.inl be))), (e0, .inr (4, [.ref e1, .ref e2, .ref e3, .ref e4, .ref e5, .ref e6, .int (nI g9.2.2.2)])), (e1, .inl (cI, 480, .inl g9.1)), (e2, .inl (cI, 480, .inl g9.2.1)), (e3, .inl (cI, 480, .inl u_r_1.1)), (e4, .inl (cI, 120, .inl u_r_1.2.1)), (e5, .inl (cI, 120, .inl u_r_1.2.2))] H := hP
        have hD : va_D A [(e6, .inl (cI, 40, .inl g9.2.2.1)), (f0, .inr (2, [.ref o1, .ref f1, .ref f2, .ref f3, .ref f4, .int np, .int ns, .int aw])), (f1, .inl (cI, 1764, .inl ce)), (o1, .inr (1, [.ref s1, .ref s2, .ref s3, .int ty, .int wa])), (s1, .inl (cI, 100, .inl st)), (s2, .inl (cI, 244, .inl sd)), (s3, .inl (cJ, 400, .inr (.inl be))), (e0, .inr (4, [.ref e1, .ref e2, .ref e3, .ref e4, .ref e5, .ref e6, .int (nI g9.2.2.2)])), (e1, .inl (cI, 480, .inl g9.1)), (e2, .inl (cI, 480, .inl g9.2.1)), (e3, .inl (cI, 480, .inl u_r_1.1)), (e4, .inl (cI, 120, .inl u_r_1.2.1)), (e5, .inl (cI, 120, .inl u_r_1.2.2))] := hD
        obtain ⟨b9, hb9, rfl, hbX⟩ := hr_1
        refine lv_istore_n (lv' := [(2, .int (nI b9)), (0, .ref e0), (3, .int (nI tt))]) hx hb d_SM_weakest_28 rfl hl (by decide) rfl (fun ls hl => ?_)
        refine lv_iinc (v := nI (tt + 1)) (lv' := [(3, .int (nI (tt + 1))), (2, .int (nI b9)), (0, .ref e0)]) hx hb d_SM_weakest_29 hl (k := 2) rfl (jn_inc tt 1) (by decide) rfl (fun ls hl => ?_)
        refine lv_goto (tgt := 10) hx hb d_SM_weakest_32 (by decide) ?_
        exact ih (tt + 1) b9 u_r_1 (by omega) (by omega) (by omega) (by rw [← hR, show g9.2.2.2 - (tt + 1) = g9.2.2.2 - tt - 1 by omega]; exact (weF_go (by omega) (by omega) hbX).symm) (by omega) _ _ _ (hP.sub [7, 8, 9, 10, 11, 12, 0, 1, 2, 3, 4, 5, 6] rfl) (hD.sub [7, 8, 9, 10, 11, 12, 0, 1, 2, 3, 4, 5, 6] (by decide) rfl) hS (lv_sub hl [2, 1, 0] rfl)
set_option maxHeartbeats 4000000 in
set_option maxRecDepth 100000 in
/-- weakest -/
theorem k_SM_weakest (l : Launch) (D : va_G) (cI cJ : ClassId) (e0 : Nat) (e1 : Nat) (e2 : Nat) (e3 : Nat) (e4 : Nat) (e5 : Nat) (e6 : Nat) (f0 : Nat) (f1 : Nat) (f2 : Nat) (f3 : Nat) (f4 : Nat) (o1 : Nat) (np : Int32) (ns : Int32) (aw : Int32) (s1 : Nat) (s2 : Nat) (s3 : Nat) (ty : Int32) (wa : Int32) (st : Nat → Int32) (sd : Nat → Int32) (be : Nat → Int64) (ce : Nat → Int32) (lk : Nat → Int32) (we : Nat → Int32) (rm : Nat → Int32) (ar : Nat → Int32) (qu : Nat → Int32) (ne : Nat → Int32) (n7 : Int32) (sz : Nat) (hce : okCe ce) (hsd : okSd sd) (hst : okSt st) (hin : okIn ce) (hW9 : okW ce) (hLk : okLk (gaL ce sd st (lk, flI we (nI 0) 480, flI ne (-1) 40, 0) 1764).1 (gaL ce sd st (lk, flI we (nI 0) 480, flI ne (-1) 40, 0) 1764).2.1 (gaL ce sd st (lk, flI we (nI 0) 480, flI ne (-1) 40, 0) 1764).2.2.2) : Met l y_SM_weakest ws_SM_weakest ({ frames := 3, cells := 0, slots := 0, locals := 73 } : Room) (va_Pc [.ref e0, .ref f0] (Pw D cI cJ [(e0, .inr (4, [.ref e1, .ref e2, .ref e3, .ref e4, .ref e5, .ref e6, .int n7])), (e1, .inl (cI, 480, .inl lk)), (e2, .inl (cI, 480, .inl we)), (e3, .inl (cI, 480, .inl rm)), (e4, .inl (cI, 120, .inl ar)), (e5, .inl (cI, 120, .inl qu)), (e6, .inl (cI, 40, .inl ne)), (f0, .inr (2, [.ref o1, .ref f1, .ref f2, .ref f3, .ref f4, .int np, .int ns, .int aw])), (f1, .inl (cI, 1764, .inl ce)), (o1, .inr (1, [.ref s1, .ref s2, .ref s3, .int ty, .int wa])), (s1, .inl (cI, 100, .inl st)), (s2, .inl (cI, 244, .inl sd)), (s3, .inl (cJ, 400, .inr (.inl be)))] sz)) (va_Qi (fun (r : Int32) (u9 : GS × T3) => r = nI (weF (gaL ce sd st (lk, flI we (nI 0) 480, flI ne (-1) 40, 0) 1764).1 (gaL ce sd st (lk, flI we (nI 0) 480, flI ne (-1) 40, 0) 1764).2.1 (gaL ce sd st (lk, flI we (nI 0) 480, flI ne (-1) 40, 0) 1764).2.2.2 ((gaL ce sd st (lk, flI we (nI 0) 480, flI ne (-1) 40, 0) 1764).2.2.2 - 1) 1 8 (rm, ar, qu)).1 ∧ u9.1 = (gaL ce sd st (lk, flI we (nI 0) 480, flI ne (-1) 40, 0) 1764)) (fun u9 t9 => Bw D (va_A [(e0, .inr (4, [.ref e1, .ref e2, .ref e3, .ref e4, .ref e5, .ref e6, .int n7])), (e1, .inl (cI, 480, .inl lk)), (e2, .inl (cI, 480, .inl we)), (e3, .inl (cI, 480, .inl rm)), (e4, .inl (cI, 120, .inl ar)), (e5, .inl (cI, 120, .inl qu)), (e6, .inl (cI, 40, .inl ne)), (f0, .inr (2, [.ref o1, .ref f1, .ref f2, .ref f3, .ref f4, .int np, .int ns, .int aw])), (f1, .inl (cI, 1764, .inl ce)), (o1, .inr (1, [.ref s1, .ref s2, .ref s3, .int ty, .int wa])), (s1, .inl (cI, 100, .inl st)), (s2, .inl (cI, 244, .inl sd)), (s3, .inl (cJ, 400, .inr (.inl be)))] sz) [(e0, .inr (4, [.ref e1, .ref e2, .ref e3, .ref e4, .ref e5, .ref e6, .int (nI u9.1.2.2.2)])), (e1, .inl (cI, 480, .inl u9.1.1)), (e2, .inl (cI, 480, .inl u9.1.2.1)), (e3, .inl (cI, 480, .inl u9.2.1)), (e4, .inl (cI, 120, .inl u9.2.2.1)), (e5, .inl (cI, 120, .inl u9.2.2.2)), (e6, .inl (cI, 40, .inl u9.1.2.2.1)), (f0, .inr (2, [.ref o1, .ref f1, .ref f2, .ref f3, .ref f4, .int np, .int ns, .int aw])), (f1, .inl (cI, 1764, .inl ce)), (o1, .inr (1, [.ref s1, .ref s2, .ref s3, .int ty, .int wa])), (s1, .inl (cI, 100, .inl st)), (s2, .inl (cI, 244, .inl sd)), (s3, .inl (cJ, 400, .inr (.inl be)))] t9) (va_A [(e0, .inr (4, [.ref e1, .ref e2, .ref e3, .ref e4, .ref e5, .ref e6, .int n7])), (e1, .inl (cI, 480, .inl lk)), (e2, .inl (cI, 480, .inl we)), (e3, .inl (cI, 480, .inl rm)), (e4, .inl (cI, 120, .inl ar)), (e5, .inl (cI, 120, .inl qu)), (e6, .inl (cI, 40, .inl ne)), (f0, .inr (2, [.ref o1, .ref f1, .ref f2, .ref f3, .ref f4, .int np, .int ns, .int aw])), (f1, .inl (cI, 1764, .inl ce)), (o1, .inr (1, [.ref s1, .ref s2, .ref s3, .int ty, .int wa])), (s1, .inl (cI, 100, .inl st)), (s2, .inl (cI, 244, .inl sd)), (s3, .inl (cJ, 400, .inr (.inl be)))] sz)) 0 0 (va_A [(e0, .inr (4, [.ref e1, .ref e2, .ref e3, .ref e4, .ref e5, .ref e6, .int n7])), (e1, .inl (cI, 480, .inl lk)), (e2, .inl (cI, 480, .inl we)), (e3, .inl (cI, 480, .inl rm)), (e4, .inl (cI, 120, .inl ar)), (e5, .inl (cI, 120, .inl qu)), (e6, .inl (cI, 40, .inl ne)), (f0, .inr (2, [.ref o1, .ref f1, .ref f2, .ref f3, .ref f4, .int np, .int ns, .int aw])), (f1, .inl (cI, 1764, .inl ce)), (o1, .inr (1, [.ref s1, .ref s2, .ref s3, .int ty, .int wa])), (s1, .inl (cI, 100, .inl st)), (s2, .inl (cI, 244, .inl sd)), (s3, .inl (cJ, 400, .inr (.inl be)))] sz) := by
  refine Met.ofW (cc := c_SM_weakest) (maxL := 4) (ret := (some .int)) (by decide) rfl ?_
  intro p e s m args below meth c s₁ B hml hv
  obtain ⟨rfl, hsz, hE, hP, hD0, hX⟩ := hv
  have hx := B.exec
  have hb := B.bytes
  have hr := B.returns
  have hw : ∀ w ∈ gw, w.before _ s = true := fun w h => atoms_spec (ws := ws_SM_weakest) B.pre w (List.mem_cons_of_mem _ h)
  have hown : s.vm.findClass R_SM = some m.cls := findClass_of_methodNamed B.named
  have hlocks := B.notSynchronized
  subst hsz
  have hD := hD0.self (sz := s.heap.size)
  generalize hAe : va_A [(e0, .inr (4, [.ref e1, .ref e2, .ref e3, .ref e4, .ref e5, .ref e6, .int n7])), (e1, .inl (cI, 480, .inl lk)), (e2, .inl (cI, 480, .inl we)), (e3, .inl (cI, 480, .inl rm)), (e4, .inl (cI, 120, .inl ar)), (e5, .inl (cI, 120, .inl qu)), (e6, .inl (cI, 40, .inl ne)), (f0, .inr (2, [.ref o1, .ref f1, .ref f2, .ref f3, .ref f4, .int np, .int ns, .int aw])), (f1, .inl (cI, 1764, .inl ce)), (o1, .inr (1, [.ref s1, .ref s2, .ref s3, .int ty, .int wa])), (s1, .inl (cI, 100, .inl st)), (s2, .inl (cI, 244, .inl sd)), (s3, .inl (cJ, 400, .inr (.inl be)))] s.heap.size = A at hD hX ⊢
  have hA : ∀ q : Nat, s.heap.size ≤ q → A q := fun q h => by rw [← hAe]; exact Or.inr h
  have hS : va_S A s.heap s.heap [] := va_S.rf
  have hP : va_P D vwCl [(e0, .inr (4, [.ref e1, .ref e2, .ref e3, .ref e4, .ref e5, .ref e6, .int n7])), (e1, .inl (cI, 480, .inl lk)), (e2, .inl (cI, 480, .inl we)), (e3, .inl (cI, 480, .inl rm)), (e4, .inl (cI, 120, .inl ar)), (e5, .inl (cI, 120, .inl qu)), (e6, .inl (cI, 40, .inl ne)), (f0, .inr (2, [.ref o1, .ref f1, .ref f2, .ref f3, .ref f4, .int np, .int ns, .int aw])), (f1, .inl (cI, 1764, .inl ce)), (o1, .inr (1, [.ref s1, .ref s2, .ref s3, .int ty, .int wa])), (s1, .inl (cI, 100, .inl st)), (s2, .inl (cI, 244, .inl sd)), (s3, .inl (cJ, 400, .inr (.inl be)))] s.heap := hP
  have hl := lv_entry ([.ref e0, .ref f0]) (n := 4) (Nat.le_of_ble_eq_true rfl)
  rw [lg_entry_eq]
  generalize (lg_sl ([.ref e0, .ref f0]) ++ List.replicate (4 - (lg_sl ([.ref e0, .ref f0])).length) Slot.unset).toArray = ls at hl ⊢
  have hl : lv_has ls 4 [(0, .ref e0), (1, .ref f0)] := hl
  refine lv_aload_n hx hb d_SM_weakest_0 rfl (lv_at hl 0 rfl) ?_
  refine lv_aload_n hx hb d_SM_weakest_1 rfl (lv_at hl 1 rfl) ?_
  refine cl_v (wr := [(e3, .inl (cI, 480, .inl rm)), (e4, .inl (cI, 120, .inl ar)), (e5, .inl (cI, 120, .inl qu))]) (va_runV (As := [.ref f0]) (rest := []) ⟨hx, hb, hml, hown, hw⟩ (k_SM_gather l D cI cJ e0 e1 e2 e3 e4 e5 e6 f0 f1 f2 f3 f4 o1 np ns aw s1 s2 s3 ty wa st sd be ce lk we ne n7 _ hce hsd hst hin hW9) (cwV 1 hw (gV kw_703 kw_705 kw_14 kw_44 kw_706) rfl rfl rfl (by decide +kernel) ⟨Nat.le_of_ble_eq_true rfl, Nat.le_of_ble_eq_true rfl⟩) (pre_Vw (wc := [(e0, .inr (4, [.ref e1, .ref e2, .ref e3, .ref e4, .ref e5, .ref e6, .int n7])), (e1, .inl (cI, 480, .inl lk)), (e2, .inl (cI, 480, .inl we)), (e6, .inl (cI, 40, .inl ne)), (f0, .inr (2, [.ref o1, .ref f1, .ref f2, .ref f3, .ref f4, .int np, .int ns, .int aw])), (f1, .inl (cI, 1764, .inl ce)), (o1, .inr (1, [.ref s1, .ref s2, .ref s3, .int ty, .int wa])), (s1, .inl (cI, 100, .inl st)), (s2, .inl (cI, 244, .inl sd)), (s3, .inl (cJ, 400, .inr (.inl be)))]) (q0 := 0) hE hX hA hP hD hS [0, 1, 2, 6, 7, 8, 9, 10, 11, 12] (by decide) rfl rfl rfl rfl) rfl rfl hl.1 rfl (lv_room (Nat.le_of_ble_eq_true rfl)) d_SM_weakest_2 ⟨Nat.le_of_ble_eq_true rfl, Nat.le_of_ble_eq_true rfl⟩) hP hD hS hA [0, 1, 2, 6, 7, 8, 9, 10, 11, 12] [3, 4, 5] rfl rfl (by decide) (by decide) (fun u_r_1 H locs hr_1 hP hD hS => ?_)
  have hP : va_P D vwCl [(e3, .inl (cI, 480, .inl rm)), (e4, .inl (cI, 120, .inl ar)), (e5, .inl (cI, 120, .inl qu)), (e0, .inr (4, [.ref e1, .ref e2, .ref e3, .ref e4, .ref e5, .ref e6, .int (nI u_r_1.2.2.2)])), (e1, .inl (cI, 480, .inl u_r_1.1)), (e2, .inl (cI, 480, .inl u_r_1.2.1)), (e6, .inl (cI, 40, .inl u_r_1.2.2.1)), (f0, .inr (2, [.ref o1, .ref f1, .ref f2, .ref f3, .ref f4, .int np, .int ns, .int aw])), (f1, .inl (cI, 1764, .inl ce)), (o1, .inr (1, [.ref s1, .ref s2, .ref s3, .int ty, .int wa])), (s1, .inl (cI, 100, .inl st)), (s2, .inl (cI, 244, .inl sd)), (s3, .inl (cJ, 400, .inr (.inl be)))] H := hP
  have hD : va_D A [(e3, .inl (cI, 480, .inl rm)), (e4, .inl (cI, 120, .inl ar)), (e5, .inl (cI, 120, .inl qu)), (e0, .inr (4, [.ref e1, .ref e2, .ref e3, .ref e4, .ref e5, .ref e6, .int (nI u_r_1.2.2.2)])), (e1, .inl (cI, 480, .inl u_r_1.1)), (e2, .inl (cI, 480, .inl u_r_1.2.1)), (e6, .inl (cI, 40, .inl u_r_1.2.2.1)), (f0, .inr (2, [.ref o1, .ref f1, .ref f2, .ref f3, .ref f4, .int np, .int ns, .int aw])), (f1, .inl (cI, 1764, .inl ce)), (o1, .inr (1, [.ref s1, .ref s2, .ref s3, .int ty, .int wa])), (s1, .inl (cI, 100, .inl st)), (s2, .inl (cI, 244, .inl sd)), (s3, .inl (cJ, 400, .inr (.inl be)))] := hD
  refine lv_bipush (v := nI 8) hx hb d_SM_weakest_5 (by decide +kernel) ?_
  refine lv_istore_n (lv' := [(2, .int (nI 8)), (0, .ref e0), (1, .ref f0)]) hx hb d_SM_weakest_7 rfl hl (by decide) rfl (fun ls hl => ?_)
  refine lv_iconst (v := nI 1) hx hb d_SM_weakest_8 (by decide +kernel) ?_
  refine lv_istore_n (lv' := [(3, .int (nI 1)), (2, .int (nI 8)), (0, .ref e0), (1, .ref f0)]) hx hb d_SM_weakest_9 rfl hl (by decide) rfl (fun ls hl => ?_)
  refine lp_k_SM_weakest_10 e0 e1 e2 e3 e4 e5 e6 f0 f1 f2 f3 f4 o1 np ns aw s1 s2 s3 ty wa st sd be ce lk we rm ar qu ne n7 hce hsd hst hin hW9 hLk u_r_1 (by have h := hLk; rw [← hr_1.1] at h; exact h) hr_1.2 hx hb hml hown hw hE hX hA (fun b z9 hR H locs ls hP hD hS hl => ?_) ((u_r_1.2.2.2 - 1) + 1) 1 8 (rm, ar, qu) (Nat.lt_succ_self _) (Nat.le_refl _) (by decide) rfl (Nat.le_refl _) _ _ _ (hP.sub [3, 4, 5, 0, 1, 2, 6, 7, 8, 9, 10, 11, 12] rfl) (hD.sub [3, 4, 5, 0, 1, 2, 6, 7, 8, 9, 10, 11, 12] (by decide) rfl) hS (lv_sub hl [2, 1, 0] rfl)
  refine lv_iload_n hx hb d_SM_weakest_35 rfl (lv_at hl 0 rfl) ?_
  have hP9 := hP.sub (ws' := [(e0, .inr (4, [.ref e1, .ref e2, .ref e3, .ref e4, .ref e5, .ref e6, .int (nI u_r_1.2.2.2)])), (e1, .inl (cI, 480, .inl u_r_1.1)), (e2, .inl (cI, 480, .inl u_r_1.2.1)), (e3, .inl (cI, 480, .inl z9.1)), (e4, .inl (cI, 120, .inl z9.2.1)), (e5, .inl (cI, 120, .inl z9.2.2)), (e6, .inl (cI, 40, .inl u_r_1.2.2.1)), (f0, .inr (2, [.ref o1, .ref f1, .ref f2, .ref f3, .ref f4, .int np, .int ns, .int aw])), (f1, .inl (cI, 1764, .inl ce)), (o1, .inr (1, [.ref s1, .ref s2, .ref s3, .int ty, .int wa])), (s1, .inl (cI, 100, .inl st)), (s2, .inl (cI, 244, .inl sd)), (s3, .inl (cJ, 400, .inr (.inl be)))]) [0, 1, 2, 3, 4, 5, 6, 7, 8, 9, 10, 11, 12] rfl
  have hD9 := hD.sub (ws' := [(e0, .inr (4, [.ref e1, .ref e2, .ref e3, .ref e4, .ref e5, .ref e6, .int (nI u_r_1.2.2.2)])), (e1, .inl (cI, 480, .inl u_r_1.1)), (e2, .inl (cI, 480, .inl u_r_1.2.1)), (e3, .inl (cI, 480, .inl z9.1)), (e4, .inl (cI, 120, .inl z9.2.1)), (e5, .inl (cI, 120, .inl z9.2.2)), (e6, .inl (cI, 40, .inl u_r_1.2.2.1)), (f0, .inr (2, [.ref o1, .ref f1, .ref f2, .ref f3, .ref f4, .int np, .int ns, .int aw])), (f1, .inl (cI, 1764, .inl ce)), (o1, .inr (1, [.ref s1, .ref s2, .ref s3, .int ty, .int wa])), (s1, .inl (cI, 100, .inl st)), (s2, .inl (cI, 244, .inl sd)), (s3, .inl (cJ, 400, .inr (.inl be)))]) [0, 1, 2, 3, 4, 5, 6, 7, 8, 9, 10, 11, 12] (by decide) rfl
  exact W.iret (v := nI b) hx hb hr (fun t9 ht hW => ⟨⟨_, (u_r_1, z9), rfl, ⟨by rw [← hr_1.1]; exact congrArg (fun q : Nat × T3 => nI q.1) hR.symm, hr_1.1⟩, ⟨by rw [ht]; exact hP9, hD9⟩⟩, hS.F ht⟩) hS.2.2 d_SM_weakest_36
theorem at_TB_seam_30 {D : va_G} {cI cJ : ClassId} {args : Array Value} {s : State} (hw : ∀ w ∈ gw, w.before args s = true) (hE : En D cI cJ s) : ∀ w ∈ vx_atS "TileBench" 60 "java/lang/UnsupportedOperationException" ["java/lang/RuntimeException", "java/lang/Exception"], w.before args s = true :=
  vx_hat (B := [.declares ⟨"java/lang/RuntimeException", "<init>", "(Ljava/lang/String;)V"⟩, .declares ⟨"java/lang/Exception", "<init>", "(Ljava/lang/String;)V"⟩, .declares ⟨"java/lang/Throwable", "<init>", "(Ljava/lang/String;)V"⟩, .castable "java/lang/UnsupportedOperationException" "java/lang/UnsupportedOperationException"]) (fun w h => hw w ((show ∀ w ∈ (vx_atS "TileBench" 60 "java/lang/UnsupportedOperationException" ["java/lang/RuntimeException", "java/lang/Exception"]).filter goodWord, w ∈ gw from by decide +kernel) w h)) (by decide +kernel)
    (vx_c (va_Nw.use rfl (hE.2.2.2.2.1 _ (List.mem_of_getElem? (i := 1) rfl))) (vx_c (va_Nw.use rfl (hE.2.2.2.2.1 _ (List.mem_of_getElem? (i := 3) rfl))) (vx_c (va_Nw.use rfl (hE.2.2.2.2.1 _ (List.mem_of_getElem? (i := 5) rfl))) (vx_c (va_Nw.use rfl (hE.2.2.2.2.2.1 _ (List.mem_of_getElem? (i := 2) rfl))) vx_n))))
theorem at_TB_seam_30_ot : ∀ w ∈ Cond.classLink "TileBench" 56 "java/lang/UnsupportedOperationException" :: Cond.initialized "java/lang/UnsupportedOperationException" :: vx_atS "TileBench" 60 "java/lang/UnsupportedOperationException" ["java/lang/RuntimeException", "java/lang/Exception"], vx_ot w = true := by decide +kernel
theorem at_TB_seam_14 {D : va_G} {cI cJ : ClassId} {args : Array Value} {s : State} (hw : ∀ w ∈ gw, w.before args s = true) (hE : En D cI cJ s) : ∀ w ∈ vx_atS "TileBench" 93 "java/lang/IllegalStateException" ["java/lang/RuntimeException", "java/lang/Exception"], w.before args s = true :=
  vx_hat (B := [.declares ⟨"java/lang/RuntimeException", "<init>", "(Ljava/lang/String;)V"⟩, .declares ⟨"java/lang/Exception", "<init>", "(Ljava/lang/String;)V"⟩, .declares ⟨"java/lang/Throwable", "<init>", "(Ljava/lang/String;)V"⟩, .castable "java/lang/IllegalStateException" "java/lang/IllegalStateException"]) (fun w h => hw w ((show ∀ w ∈ (vx_atS "TileBench" 93 "java/lang/IllegalStateException" ["java/lang/RuntimeException", "java/lang/Exception"]).filter goodWord, w ∈ gw from by decide +kernel) w h)) (by decide +kernel)
    (vx_c (va_Nw.use rfl (hE.2.2.2.2.1 _ (List.mem_of_getElem? (i := 1) rfl))) (vx_c (va_Nw.use rfl (hE.2.2.2.2.1 _ (List.mem_of_getElem? (i := 3) rfl))) (vx_c (va_Nw.use rfl (hE.2.2.2.2.1 _ (List.mem_of_getElem? (i := 5) rfl))) (vx_c (va_Nw.use rfl (hE.2.2.2.2.2.1 _ (List.mem_of_getElem? (i := 0) rfl))) vx_n))))
theorem at_TB_seam_14_ot : ∀ w ∈ Cond.classLink "TileBench" 89 "java/lang/IllegalStateException" :: Cond.initialized "java/lang/IllegalStateException" :: vx_atS "TileBench" 93 "java/lang/IllegalStateException" ["java/lang/RuntimeException", "java/lang/Exception"], vx_ot w = true := by decide +kernel
set_option maxHeartbeats 4000000 in
set_option maxRecDepth 100000 in
/-- seam -/
theorem k_TB_seam (l : Launch) (hfl : l.stackTraces = false) (D : va_G) (cI cJ : ClassId) (x0 : Nat) (c0 : Nat) (e0 : Nat) (e1 : Nat) (e2 : Nat) (e3 : Nat) (e4 : Nat) (e5 : Nat) (e6 : Nat) (f0 : Nat) (f1 : Nat) (f2 : Nat) (f3 : Nat) (f4 : Nat) (o1 : Nat) (np : Int32) (ns : Int32) (aw : Int32) (s1 : Nat) (s2 : Nat) (s3 : Nat) (ty : Int32) (wa : Int32) (st : Nat → Int32) (sd : Nat → Int32) (be : Nat → Int64) (ce : Nat → Int32) (lk : Nat → Int32) (we : Nat → Int32) (rm : Nat → Int32) (ar : Nat → Int32) (qu : Nat → Int32) (ne : Nat → Int32) (n7 : Int32) (tl : Nat → Int32) (sz : Nat) (hce : okCe ce) (hsd : okSd sd) (hst : okSt st) (hin : okIn ce) (hW9 : okW ce) (hLk : okLk (gaL ce sd st (lk, flI we (nI 0) 480, flI ne (-1) 40, 0) 1764).1 (gaL ce sd st (lk, flI we (nI 0) 480, flI ne (-1) 40, 0) 1764).2.1 (gaL ce sd st (lk, flI we (nI 0) 480, flI ne (-1) 40, 0) 1764).2.2.2) : vx_Met l y_TB_seam ws_TB_seam ({ frames := 6, cells := 1, slots := 6, locals := 96 } : Room) (va_Pc [.ref x0] (Pw D cI cJ [(x0, .inr (0, [.ref o1, .ref f0, .ref c0, .ref e0])), (e0, .inr (4, [.ref e1, .ref e2, .ref e3, .ref e4, .ref e5, .ref e6, .int n7])), (e1, .inl (cI, 480, .inl lk)), (e2, .inl (cI, 480, .inl we)), (e3, .inl (cI, 480, .inl rm)), (e4, .inl (cI, 120, .inl ar)), (e5, .inl (cI, 120, .inl qu)), (e6, .inl (cI, 40, .inl ne)), (f0, .inr (2, [.ref o1, .ref f1, .ref f2, .ref f3, .ref f4, .int np, .int ns, .int aw])), (f1, .inl (cI, 1764, .inl ce)), (f4, .inl (cI, 61, .inl tl)), (o1, .inr (1, [.ref s1, .ref s2, .ref s3, .int ty, .int wa])), (s1, .inl (cI, 100, .inl st)), (s2, .inl (cI, 244, .inl sd)), (s3, .inl (cJ, 400, .inr (.inl be)))] sz)) (va_Qi (fun (r : Int32) (u9 : GS × T3) => r = nI (weF (gaL ce sd st (lk, flI we (nI 0) 480, flI ne (-1) 40, 0) 1764).1 (gaL ce sd st (lk, flI we (nI 0) 480, flI ne (-1) 40, 0) 1764).2.1 (gaL ce sd st (lk, flI we (nI 0) 480, flI ne (-1) 40, 0) 1764).2.2.2 ((gaL ce sd st (lk, flI we (nI 0) 480, flI ne (-1) 40, 0) 1764).2.2.2 - 1) 1 8 (rm, ar, qu)).1 ∧ u9.1 = (gaL ce sd st (lk, flI we (nI 0) 480, flI ne (-1) 40, 0) 1764)) (fun u9 t9 => Bw D (va_A [(x0, .inr (0, [.ref o1, .ref f0, .ref c0, .ref e0])), (e0, .inr (4, [.ref e1, .ref e2, .ref e3, .ref e4, .ref e5, .ref e6, .int n7])), (e1, .inl (cI, 480, .inl lk)), (e2, .inl (cI, 480, .inl we)), (e3, .inl (cI, 480, .inl rm)), (e4, .inl (cI, 120, .inl ar)), (e5, .inl (cI, 120, .inl qu)), (e6, .inl (cI, 40, .inl ne)), (f0, .inr (2, [.ref o1, .ref f1, .ref f2, .ref f3, .ref f4, .int np, .int ns, .int aw])), (f1, .inl (cI, 1764, .inl ce)), (f4, .inl (cI, 61, .inl tl)), (o1, .inr (1, [.ref s1, .ref s2, .ref s3, .int ty, .int wa])), (s1, .inl (cI, 100, .inl st)), (s2, .inl (cI, 244, .inl sd)), (s3, .inl (cJ, 400, .inr (.inl be)))] sz) [(x0, .inr (0, [.ref o1, .ref f0, .ref c0, .ref e0])), (e0, .inr (4, [.ref e1, .ref e2, .ref e3, .ref e4, .ref e5, .ref e6, .int (nI u9.1.2.2.2)])), (e1, .inl (cI, 480, .inl u9.1.1)), (e2, .inl (cI, 480, .inl u9.1.2.1)), (e3, .inl (cI, 480, .inl u9.2.1)), (e4, .inl (cI, 120, .inl u9.2.2.1)), (e5, .inl (cI, 120, .inl u9.2.2.2)), (e6, .inl (cI, 40, .inl u9.1.2.2.1)), (f0, .inr (2, [.ref o1, .ref f1, .ref f2, .ref f3, .ref f4, .int np, .int ns, .int aw])), (f1, .inl (cI, 1764, .inl ce)), (f4, .inl (cI, 61, .inl tl)), (o1, .inr (1, [.ref s1, .ref s2, .ref s3, .int ty, .int wa])), (s1, .inl (cI, 100, .inl st)), (s2, .inl (cI, 244, .inl sd)), (s3, .inl (cJ, 400, .inr (.inl be)))] t9) (va_A [(x0, .inr (0, [.ref o1, .ref f0, .ref c0, .ref e0])), (e0, .inr (4, [.ref e1, .ref e2, .ref e3, .ref e4, .ref e5, .ref e6, .int n7])), (e1, .inl (cI, 480, .inl lk)), (e2, .inl (cI, 480, .inl we)), (e3, .inl (cI, 480, .inl rm)), (e4, .inl (cI, 120, .inl ar)), (e5, .inl (cI, 120, .inl qu)), (e6, .inl (cI, 40, .inl ne)), (f0, .inr (2, [.ref o1, .ref f1, .ref f2, .ref f3, .ref f4, .int np, .int ns, .int aw])), (f1, .inl (cI, 1764, .inl ce)), (f4, .inl (cI, 61, .inl tl)), (o1, .inr (1, [.ref s1, .ref s2, .ref s3, .int ty, .int wa])), (s1, .inl (cI, 100, .inl st)), (s2, .inl (cI, 244, .inl sd)), (s3, .inl (cJ, 400, .inr (.inl be)))] sz)) (nd_X (fun E => (E = "java/lang/IllegalStateException" ∧ ¬ nI 2 ≤ tl 0) ∨ (E = "java/lang/UnsupportedOperationException" ∧ nI 2 ≤ tl 0 ∧ ¬ tl 0 ≤ nI 120))) 1 6 (va_A [(x0, .inr (0, [.ref o1, .ref f0, .ref c0, .ref e0])), (e0, .inr (4, [.ref e1, .ref e2, .ref e3, .ref e4, .ref e5, .ref e6, .int n7])), (e1, .inl (cI, 480, .inl lk)), (e2, .inl (cI, 480, .inl we)), (e3, .inl (cI, 480, .inl rm)), (e4, .inl (cI, 120, .inl ar)), (e5, .inl (cI, 120, .inl qu)), (e6, .inl (cI, 40, .inl ne)), (f0, .inr (2, [.ref o1, .ref f1, .ref f2, .ref f3, .ref f4, .int np, .int ns, .int aw])), (f1, .inl (cI, 1764, .inl ce)), (f4, .inl (cI, 61, .inl tl)), (o1, .inr (1, [.ref s1, .ref s2, .ref s3, .int ty, .int wa])), (s1, .inl (cI, 100, .inl st)), (s2, .inl (cI, 244, .inl sd)), (s3, .inl (cJ, 400, .inr (.inl be)))] sz) := by
  refine vx_ofW (cc := c_TB_seam) (maxL := 2) (ret := (some .int)) (by decide) rfl ?_
  intro p e s m args below meth c s₁ B hml hno hv
  obtain ⟨rfl, hsz, hE, hP, hD0, hX⟩ := hv
  have hx := B.exec
  have hb := B.bytes
  have hr := B.returns
  have hw : ∀ w ∈ gw, w.before _ s = true := fun w h => atoms_spec (ws := ws_TB_seam) B.pre w (List.mem_cons_of_mem _ h)
  have hown : s.vm.findClass R_TB = some m.cls := findClass_of_methodNamed B.named
  have hlocks := B.notSynchronized
  subst hsz
  have hD := hD0.self (sz := s.heap.size)
  generalize hAe : va_A [(x0, .inr (0, [.ref o1, .ref f0, .ref c0, .ref e0])), (e0, .inr (4, [.ref e1, .ref e2, .ref e3, .ref e4, .ref e5, .ref e6, .int n7])), (e1, .inl (cI, 480, .inl lk)), (e2, .inl (cI, 480, .inl we)), (e3, .inl (cI, 480, .inl rm)), (e4, .inl (cI, 120, .inl ar)), (e5, .inl (cI, 120, .inl qu)), (e6, .inl (cI, 40, .inl ne)), (f0, .inr (2, [.ref o1, .ref f1, .ref f2, .ref f3, .ref f4, .int np, .int ns, .int aw])), (f1, .inl (cI, 1764, .inl ce)), (f4, .inl (cI, 61, .inl tl)), (o1, .inr (1, [.ref s1, .ref s2, .ref s3, .int ty, .int wa])), (s1, .inl (cI, 100, .inl st)), (s2, .inl (cI, 244, .inl sd)), (s3, .inl (cJ, 400, .inr (.inl be)))] s.heap.size = A at hD hX ⊢
  have hA : ∀ q : Nat, s.heap.size ≤ q → A q := fun q h => by rw [← hAe]; exact Or.inr h
  have hS : va_S A s.heap s.heap [] := va_S.rf
  have hP : va_P D vwCl [(x0, .inr (0, [.ref o1, .ref f0, .ref c0, .ref e0])), (e0, .inr (4, [.ref e1, .ref e2, .ref e3, .ref e4, .ref e5, .ref e6, .int n7])), (e1, .inl (cI, 480, .inl lk)), (e2, .inl (cI, 480, .inl we)), (e3, .inl (cI, 480, .inl rm)), (e4, .inl (cI, 120, .inl ar)), (e5, .inl (cI, 120, .inl qu)), (e6, .inl (cI, 40, .inl ne)), (f0, .inr (2, [.ref o1, .ref f1, .ref f2, .ref f3, .ref f4, .int np, .int ns, .int aw])), (f1, .inl (cI, 1764, .inl ce)), (f4, .inl (cI, 61, .inl tl)), (o1, .inr (1, [.ref s1, .ref s2, .ref s3, .int ty, .int wa])), (s1, .inl (cI, 100, .inl st)), (s2, .inl (cI, 244, .inl sd)), (s3, .inl (cJ, 400, .inr (.inl be)))] s.heap := hP
  have hl := lv_entry ([.ref x0]) (n := 2) (Nat.le_of_ble_eq_true rfl)
  rw [lg_entry_eq]
  generalize (lg_sl ([.ref x0]) ++ List.replicate (2 - (lg_sl ([.ref x0])).length) Slot.unset).toArray = ls at hl ⊢
  have hl : lv_has ls 2 [(0, .ref x0)] := hl
  refine lv_aload_n hx hb d_TB_seam_0 rfl (lv_at hl 0 rfl) ?_
  refine va_get (D := D) (ci := 0) (v := .ref f0) (C := R_TB) (T := T_TB) (N := 4) hx hb hw in_TB hown hE.1 hP 0 rfl rfl 1 (by decide) (hw _ kw_183) (fun _ h9 => h9) rfl d_TB_seam_1 ?_
  refine lv_iconst (v := nI 0) hx hb d_TB_seam_4 (by decide +kernel) ?_
  refine vp_callSi (va_Run.run (va_runV (As := [.int (nI 0)]) (rest := []) ⟨hx, hb, hml, hown, hw⟩ (k_FD_tiles l D cI cJ f0 f1 f2 f3 f4 o1 np ns aw tl 0 (by decide)) (cwV 1 hw (gV kw_199 kw_200 kw_201 kw_42 kw_202) rfl rfl rfl (by decide +kernel) ⟨Nat.le_of_ble_eq_true rfl, Nat.le_of_ble_eq_true rfl⟩) (pre_Vp (wc := [(f0, .inr (2, [.ref o1, .ref f1, .ref f2, .ref f3, .ref f4, .int np, .int ns, .int aw])), (f4, .inl (cI, 61, .inl tl))]) (q0 := 0) hE hX hP hS [8, 10] rfl rfl rfl) rfl rfl hl.1 rfl (lv_room (Nat.le_of_ble_eq_true rfl)) d_TB_seam_5 ⟨Nat.le_of_ble_eq_true rfl, Nat.le_of_ble_eq_true rfl⟩)) (fun r_1 hr_1 => ?_)
  obtain rfl : tl 0 = r_1 := hr_1.symm
  refine lv_istore_n (lv' := [(1, .int (tl 0)), (0, .ref x0)]) hx hb d_TB_seam_8 rfl hl (by decide) rfl (fun ls hl => ?_)
  refine lv_iload_n hx hb d_TB_seam_9 rfl (lv_at hl 0 rfl) ?_
  refine lv_iconst (v := nI 2) hx hb d_TB_seam_10 (by decide +kernel) ?_
  refine lv_icmp_ge (tgt := 24) hx hb d_TB_seam_11 (by decide) (fun c_11 => ?_) (fun c_11 => ?_)
  · skip
    refine lv_iload_n hx hb d_TB_seam_24 rfl (lv_at hl 0 rfl) ?_
    refine lv_bipush (v := nI 120) hx hb d_TB_seam_25 (by decide +kernel) ?_
    refine lv_icmp_le (tgt := 40) hx hb d_TB_seam_27 (by decide) (fun c_27 => ?_) (fun c_27 => ?_)
    · skip
      refine lv_aload_n hx hb d_TB_seam_40 rfl (lv_at hl 1 rfl) ?_
      refine va_get (D := D) (ci := 0) (v := .ref e0) (C := R_TB) (T := T_TB) (N := 4) hx hb hw in_TB hown hE.1 hP 0 rfl rfl 3 (by decide) (hw _ kw_185) (fun _ h9 => h9) rfl d_TB_seam_41 ?_
      refine lv_aload_n hx hb d_TB_seam_44 rfl (lv_at hl 1 rfl) ?_
      refine va_get (D := D) (ci := 0) (v := .ref f0) (C := R_TB) (T := T_TB) (N := 4) hx hb hw in_TB hown hE.1 hP 0 rfl rfl 1 (by decide) (hw _ kw_183) (fun _ h9 => h9) rfl d_TB_seam_45 ?_
      refine cl_i (wr := [(x0, .inr (0, [.ref o1, .ref f0, .ref c0, .ref e0])), (f4, .inl (cI, 61, .inl tl))]) (va_runV (As := [.ref f0]) (rest := []) ⟨hx, hb, hml, hown, hw⟩ (k_SM_weakest l D cI cJ e0 e1 e2 e3 e4 e5 e6 f0 f1 f2 f3 f4 o1 np ns aw s1 s2 s3 ty wa st sd be ce lk we rm ar qu ne n7 _ hce hsd hst hin hW9 hLk) (cwV 1 hw (gV kw_699 kw_700 kw_701 kw_44 kw_702) rfl rfl rfl (by decide +kernel) ⟨Nat.le_of_ble_eq_true rfl, Nat.le_of_ble_eq_true rfl⟩) (pre_Vw (wc := [(e0, .inr (4, [.ref e1, .ref e2, .ref e3, .ref e4, .ref e5, .ref e6, .int n7])), (e1, .inl (cI, 480, .inl lk)), (e2, .inl (cI, 480, .inl we)), (e3, .inl (cI, 480, .inl rm)), (e4, .inl (cI, 120, .inl ar)), (e5, .inl (cI, 120, .inl qu)), (e6, .inl (cI, 40, .inl ne)), (f0, .inr (2, [.ref o1, .ref f1, .ref f2, .ref f3, .ref f4, .int np, .int ns, .int aw])), (f1, .inl (cI, 1764, .inl ce)), (o1, .inr (1, [.ref s1, .ref s2, .ref s3, .int ty, .int wa])), (s1, .inl (cI, 100, .inl st)), (s2, .inl (cI, 244, .inl sd)), (s3, .inl (cJ, 400, .inr (.inl be)))]) (q0 := 0) hE hX hA hP hD hS [1, 2, 3, 4, 5, 6, 7, 8, 9, 11, 12, 13, 14] (by decide) rfl rfl rfl rfl) rfl rfl hl.1 rfl (lv_room (Nat.le_of_ble_eq_true rfl)) d_TB_seam_48 ⟨Nat.le_of_ble_eq_true rfl, Nat.le_of_ble_eq_true rfl⟩) hP hD hS hA [1, 2, 3, 4, 5, 6, 7, 8, 9, 11, 12, 13, 14] [0, 10] rfl rfl (by decide) (by decide) (fun r_2 u_r_2 H locs hr_2 hP hD hS => ?_)
      have hP : va_P D vwCl [(x0, .inr (0, [.ref o1, .ref f0, .ref c0, .ref e0])), (f4, .inl (cI, 61, .inl tl)), (e0, .inr (4, [.ref e1, .ref e2, .ref e3, .ref e4, .ref e5, .ref e6, .int (nI u_r_2.1.2.2.2)])), (e1, .inl (cI, 480, .inl u_r_2.1.1)), (e2, .inl (cI, 480, .inl u_r_2.1.2.1)), (e3, .inl (cI, 480, .inl u_r_2.2.1)), (e4, .inl (cI, 120, .inl u_r_2.2.2.1)), (e5, .inl (cI, 120, .inl u_r_2.2.2.2)), (e6, .inl (cI, 40, .inl u_r_2.1.2.2.1)), (f0, .inr (2, [.ref o1, .ref f1, .ref f2, .ref f3, .ref f4, .int np, .int ns, .int aw])), (f1, .inl (cI, 1764, .inl ce)), (o1, .inr (1, [.ref s1, .ref s2, .ref s3, .int ty, .int wa])), (s1, .inl (cI, 100, .inl st)), (s2, .inl (cI, 244, .inl sd)), (s3, .inl (cJ, 400, .inr (.inl be)))] H := hP
      have hD : va_D A [(x0, .inr (0, [.ref o1, .ref f0, .ref c0, .ref e0])), (f4, .inl (cI, 61, .inl tl)), (e0, .inr (4, [.ref e1, .ref e2, .ref e3, .ref e4, .ref e5, .ref e6, .int (nI u_r_2.1.2.2.2)])), (e1, .inl (cI, 480, .inl u_r_2.1.1)), (e2, .inl (cI, 480, .inl u_r_2.1.2.1)), (e3, .inl (cI, 480, .inl u_r_2.2.1)), (e4, .inl (cI, 120, .inl u_r_2.2.2.1)), (e5, .inl (cI, 120, .inl u_r_2.2.2.2)), (e6, .inl (cI, 40, .inl u_r_2.1.2.2.1)), (f0, .inr (2, [.ref o1, .ref f1, .ref f2, .ref f3, .ref f4, .int np, .int ns, .int aw])), (f1, .inl (cI, 1764, .inl ce)), (o1, .inr (1, [.ref s1, .ref s2, .ref s3, .int ty, .int wa])), (s1, .inl (cI, 100, .inl st)), (s2, .inl (cI, 244, .inl sd)), (s3, .inl (cJ, 400, .inr (.inl be)))] := hD
      have hP9 := hP.sub (ws' := [(x0, .inr (0, [.ref o1, .ref f0, .ref c0, .ref e0])), (e0, .inr (4, [.ref e1, .ref e2, .ref e3, .ref e4, .ref e5, .ref e6, .int (nI u_r_2.1.2.2.2)])), (e1, .inl (cI, 480, .inl u_r_2.1.1)), (e2, .inl (cI, 480, .inl u_r_2.1.2.1)), (e3, .inl (cI, 480, .inl u_r_2.2.1)), (e4, .inl (cI, 120, .inl u_r_2.2.2.1)), (e5, .inl (cI, 120, .inl u_r_2.2.2.2)), (e6, .inl (cI, 40, .inl u_r_2.1.2.2.1)), (f0, .inr (2, [.ref o1, .ref f1, .ref f2, .ref f3, .ref f4, .int np, .int ns, .int aw])), (f1, .inl (cI, 1764, .inl ce)), (f4, .inl (cI, 61, .inl tl)), (o1, .inr (1, [.ref s1, .ref s2, .ref s3, .int ty, .int wa])), (s1, .inl (cI, 100, .inl st)), (s2, .inl (cI, 244, .inl sd)), (s3, .inl (cJ, 400, .inr (.inl be)))]) [0, 2, 3, 4, 5, 6, 7, 8, 9, 10, 1, 11, 12, 13, 14] rfl
      have hD9 := hD.sub (ws' := [(x0, .inr (0, [.ref o1, .ref f0, .ref c0, .ref e0])), (e0, .inr (4, [.ref e1, .ref e2, .ref e3, .ref e4, .ref e5, .ref e6, .int (nI u_r_2.1.2.2.2)])), (e1, .inl (cI, 480, .inl u_r_2.1.1)), (e2, .inl (cI, 480, .inl u_r_2.1.2.1)), (e3, .inl (cI, 480, .inl u_r_2.2.1)), (e4, .inl (cI, 120, .inl u_r_2.2.2.1)), (e5, .inl (cI, 120, .inl u_r_2.2.2.2)), (e6, .inl (cI, 40, .inl u_r_2.1.2.2.1)), (f0, .inr (2, [.ref o1, .ref f1, .ref f2, .ref f3, .ref f4, .int np, .int ns, .int aw])), (f1, .inl (cI, 1764, .inl ce)), (f4, .inl (cI, 61, .inl tl)), (o1, .inr (1, [.ref s1, .ref s2, .ref s3, .int ty, .int wa])), (s1, .inl (cI, 100, .inl st)), (s2, .inl (cI, 244, .inl sd)), (s3, .inl (cJ, 400, .inr (.inl be)))]) [0, 2, 3, 4, 5, 6, 7, 8, 9, 10, 1, 11, 12, 13, 14] (by decide) rfl
      refine W.widen (k := 1) (n := 6) (Nat.le_of_ble_eq_true rfl) (Nat.le_of_ble_eq_true rfl) ?_
      refine vx_ret ?_
      exact W.iret (v := r_2) hx hb hr (fun t9 ht hW => ⟨⟨_, u_r_2, rfl, hr_2, ⟨by rw [ht]; exact hP9, hD9⟩⟩, hS.F ht⟩) hS.2.2 d_TB_seam_51
    · skip
      obtain ⟨sa, hstr⟩ := hE.2.2.2.1 _ (List.mem_of_getElem? (i := 9) rfl)
      exact vx_throwS (A := A) hx hb hfl hown (by decide +kernel) (by decide +kernel) (hw _ kw_348) (hw _ kw_51) hstr (at_TB_seam_30 hw hE) at_TB_seam_30_ot hX.2.1 hX.2.2 hS (by rw [hml]; exact hl.1) d_TB_seam_30 d_TB_seam_33 d_TB_seam_34 d_TB_seam_36 d_TB_seam_39 (fun x hx => (hno x hx).elim) (Nat.le_of_ble_eq_true rfl) (Nat.le_of_ble_eq_true rfl) (Nat.le_of_ble_eq_true rfl) (Nat.le_of_ble_eq_true rfl) hlocks (fun t9 hal h1 h2 => ⟨(Or.inr ⟨rfl, c_11, c_27⟩), h1, h2⟩) (fun q h => by cases h) (Nat.le_of_ble_eq_true rfl) (Nat.le_of_ble_eq_true rfl)
  · skip
    obtain ⟨sa, hstr⟩ := hE.2.2.2.1 _ (List.mem_of_getElem? (i := 8) rfl)
    exact vx_throwS (A := A) hx hb hfl hown (by decide +kernel) (by decide +kernel) (hw _ kw_244) (hw _ kw_49) hstr (at_TB_seam_14 hw hE) at_TB_seam_14_ot hX.2.1 hX.2.2 hS (by rw [hml]; exact hl.1) d_TB_seam_14 d_TB_seam_17 d_TB_seam_18 d_TB_seam_20 d_TB_seam_23 (fun x hx => (hno x hx).elim) (Nat.le_of_ble_eq_true rfl) (Nat.le_of_ble_eq_true rfl) (Nat.le_of_ble_eq_true rfl) (Nat.le_of_ble_eq_true rfl) hlocks (fun t9 hal h1 h2 => ⟨(Or.inl ⟨rfl, c_11⟩), h1, h2⟩) (fun q h => by cases h) (Nat.le_of_ble_eq_true rfl) (Nat.le_of_ble_eq_true rfl)
