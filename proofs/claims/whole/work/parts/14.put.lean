theorem d_FD_fitting_0 : decode c_FD_fitting 0 = .ok (.lconst 0, 1) := by decide +kernel
theorem d_FD_fitting_1 : decode c_FD_fitting 1 = .ok (.lstore_n 3, 1) := by decide +kernel
theorem d_FD_fitting_2 : decode c_FD_fitting 2 = .ok (.lconst 0, 1) := by decide +kernel
theorem d_FD_fitting_3 : decode c_FD_fitting 3 = .ok (.lstore 5, 2) := by decide +kernel
theorem d_FD_fitting_5 : decode c_FD_fitting 5 = .ok (.lconst 0, 1) := by decide +kernel
theorem d_FD_fitting_6 : decode c_FD_fitting 6 = .ok (.lstore 7, 2) := by decide +kernel
theorem d_FD_fitting_8 : decode c_FD_fitting 8 = .ok (.iconst 0, 1) := by decide +kernel
theorem d_FD_fitting_9 : decode c_FD_fitting 9 = .ok (.istore 9, 2) := by decide +kernel
theorem d_FD_fitting_11 : decode c_FD_fitting 11 = .ok (.iload 9, 2) := by decide +kernel
theorem d_FD_fitting_13 : decode c_FD_fitting 13 = .ok (.iconst 4, 1) := by decide +kernel
theorem d_FD_fitting_14 : decode c_FD_fitting 14 = .ok (.if_icmp .ge 115, 3) := by decide +kernel
theorem d_FD_fitting_17 : decode c_FD_fitting 17 = .ok (.aload_n 0, 1) := by decide +kernel
theorem d_FD_fitting_18 : decode c_FD_fitting 18 = .ok (.iload_n 1, 1) := by decide +kernel
theorem d_FD_fitting_19 : decode c_FD_fitting 19 = .ok (.getstatic 40, 3) := by decide +kernel
theorem d_FD_fitting_22 : decode c_FD_fitting 22 = .ok (.iload 9, 2) := by decide +kernel
theorem d_FD_fitting_24 : decode c_FD_fitting 24 = .ok (.iaload, 1) := by decide +kernel
theorem d_FD_fitting_25 : decode c_FD_fitting 25 = .ok (.iadd, 1) := by decide +kernel
theorem d_FD_fitting_26 : decode c_FD_fitting 26 = .ok (.invokevirtual 67, 3) := by decide +kernel
theorem d_FD_fitting_29 : decode c_FD_fitting 29 = .ok (.istore 10, 2) := by decide +kernel
theorem d_FD_fitting_31 : decode c_FD_fitting 31 = .ok (.iload 10, 2) := by decide +kernel
theorem d_FD_fitting_33 : decode c_FD_fitting 33 = .ok (.ifCond .eq 90, 3) := by decide +kernel
theorem d_FD_fitting_36 : decode c_FD_fitting 36 = .ok (.iload_n 2, 1) := by decide +kernel
theorem d_FD_fitting_37 : decode c_FD_fitting 37 = .ok (.iload 9, 2) := by decide +kernel
theorem d_FD_fitting_39 : decode c_FD_fitting 39 = .ok (.ishr, 1) := by decide +kernel
theorem d_FD_fitting_40 : decode c_FD_fitting 40 = .ok (.iconst 1, 1) := by decide +kernel
theorem d_FD_fitting_41 : decode c_FD_fitting 41 = .ok (.iand, 1) := by decide +kernel
theorem d_FD_fitting_42 : decode c_FD_fitting 42 = .ok (.ifCond .ne 6, 3) := by decide +kernel
theorem d_FD_fitting_45 : decode c_FD_fitting 45 = .ok (.goto 78, 3) := by decide +kernel
theorem d_FD_fitting_48 : decode c_FD_fitting 48 = .ok (.aload_n 0, 1) := by decide +kernel
theorem d_FD_fitting_49 : decode c_FD_fitting 49 = .ok (.getfield 36, 3) := by decide +kernel
theorem d_FD_fitting_52 : decode c_FD_fitting 52 = .ok (.iload 10, 2) := by decide +kernel
theorem d_FD_fitting_54 : decode c_FD_fitting 54 = .ok (.iload 9, 2) := by decide +kernel
theorem d_FD_fitting_56 : decode c_FD_fitting 56 = .ok (.invokestatic 47, 3) := by decide +kernel
theorem d_FD_fitting_59 : decode c_FD_fitting 59 = .ok (.invokevirtual 88, 3) := by decide +kernel
theorem d_FD_fitting_62 : decode c_FD_fitting 62 = .ok (.istore 11, 2) := by decide +kernel
theorem d_FD_fitting_64 : decode c_FD_fitting 64 = .ok (.aload_n 0, 1) := by decide +kernel
theorem d_FD_fitting_65 : decode c_FD_fitting 65 = .ok (.getfield 36, 3) := by decide +kernel
theorem d_FD_fitting_68 : decode c_FD_fitting 68 = .ok (.iload 11, 2) := by decide +kernel
theorem d_FD_fitting_70 : decode c_FD_fitting 70 = .ok (.iload 9, 2) := by decide +kernel
theorem d_FD_fitting_72 : decode c_FD_fitting 72 = .ok (.invokevirtual 93, 3) := by decide +kernel
theorem d_FD_fitting_75 : decode c_FD_fitting 75 = .ok (.lstore 12, 2) := by decide +kernel
theorem d_FD_fitting_77 : decode c_FD_fitting 77 = .ok (.aload_n 0, 1) := by decide +kernel
theorem d_FD_fitting_78 : decode c_FD_fitting 78 = .ok (.getfield 36, 3) := by decide +kernel
theorem d_FD_fitting_81 : decode c_FD_fitting 81 = .ok (.iload 11, 2) := by decide +kernel
theorem d_FD_fitting_83 : decode c_FD_fitting 83 = .ok (.invokevirtual 96, 3) := by decide +kernel
theorem d_FD_fitting_86 : decode c_FD_fitting 86 = .ok (.istore 14, 2) := by decide +kernel
theorem d_FD_fitting_88 : decode c_FD_fitting 88 = .ok (.iload 14, 2) := by decide +kernel
theorem d_FD_fitting_90 : decode c_FD_fitting 90 = .ok (.ifCond .le 33, 3) := by decide +kernel
theorem d_FD_fitting_93 : decode c_FD_fitting 93 = .ok (.lload 7, 2) := by decide +kernel
theorem d_FD_fitting_95 : decode c_FD_fitting 95 = .ok (.lload 5, 2) := by decide +kernel
theorem d_FD_fitting_97 : decode c_FD_fitting 97 = .ok (.lload 12, 2) := by decide +kernel
theorem d_FD_fitting_99 : decode c_FD_fitting 99 = .ok (.land, 1) := by decide +kernel
theorem d_FD_fitting_100 : decode c_FD_fitting 100 = .ok (.lor, 1) := by decide +kernel
theorem d_FD_fitting_101 : decode c_FD_fitting 101 = .ok (.lstore 7, 2) := by decide +kernel
theorem d_FD_fitting_103 : decode c_FD_fitting 103 = .ok (.lload 5, 2) := by decide +kernel
theorem d_FD_fitting_105 : decode c_FD_fitting 105 = .ok (.lload_n 3, 1) := by decide +kernel
theorem d_FD_fitting_106 : decode c_FD_fitting 106 = .ok (.lload 12, 2) := by decide +kernel
theorem d_FD_fitting_108 : decode c_FD_fitting 108 = .ok (.land, 1) := by decide +kernel
theorem d_FD_fitting_109 : decode c_FD_fitting 109 = .ok (.lor, 1) := by decide +kernel
theorem d_FD_fitting_110 : decode c_FD_fitting 110 = .ok (.lstore 5, 2) := by decide +kernel
theorem d_FD_fitting_112 : decode c_FD_fitting 112 = .ok (.lload_n 3, 1) := by decide +kernel
theorem d_FD_fitting_113 : decode c_FD_fitting 113 = .ok (.lload 12, 2) := by decide +kernel
theorem d_FD_fitting_115 : decode c_FD_fitting 115 = .ok (.lor, 1) := by decide +kernel
theorem d_FD_fitting_116 : decode c_FD_fitting 116 = .ok (.lstore_n 3, 1) := by decide +kernel
theorem d_FD_fitting_117 : decode c_FD_fitting 117 = .ok (.iinc 14 (-1), 3) := by decide +kernel
theorem d_FD_fitting_120 : decode c_FD_fitting 120 = .ok (.goto (-32), 3) := by decide +kernel
theorem d_FD_fitting_123 : decode c_FD_fitting 123 = .ok (.iinc 9 1, 3) := by decide +kernel
theorem d_FD_fitting_126 : decode c_FD_fitting 126 = .ok (.goto (-115), 3) := by decide +kernel
theorem d_FD_fitting_129 : decode c_FD_fitting 129 = .ok (.aload_n 0, 1) := by decide +kernel
theorem d_FD_fitting_130 : decode c_FD_fitting 130 = .ok (.getfield 36, 3) := by decide +kernel
theorem d_FD_fitting_133 : decode c_FD_fitting 133 = .ok (.invokevirtual 99, 3) := by decide +kernel
theorem d_FD_fitting_136 : decode c_FD_fitting 136 = .ok (.istore 9, 2) := by decide +kernel
theorem d_FD_fitting_138 : decode c_FD_fitting 138 = .ok (.iload 9, 2) := by decide +kernel
theorem d_FD_fitting_140 : decode c_FD_fitting 140 = .ok (.iconst 1, 1) := by decide +kernel
theorem d_FD_fitting_141 : decode c_FD_fitting 141 = .ok (.if_icmp .ne 7, 3) := by decide +kernel
theorem d_FD_fitting_144 : decode c_FD_fitting 144 = .ok (.lload_n 3, 1) := by decide +kernel
theorem d_FD_fitting_145 : decode c_FD_fitting 145 = .ok (.goto 16, 3) := by decide +kernel
theorem d_FD_fitting_148 : decode c_FD_fitting 148 = .ok (.iload 9, 2) := by decide +kernel
theorem d_FD_fitting_150 : decode c_FD_fitting 150 = .ok (.iconst 2, 1) := by decide +kernel
theorem d_FD_fitting_151 : decode c_FD_fitting 151 = .ok (.if_icmp .ne 8, 3) := by decide +kernel
theorem d_FD_fitting_154 : decode c_FD_fitting 154 = .ok (.lload 5, 2) := by decide +kernel
theorem d_FD_fitting_156 : decode c_FD_fitting 156 = .ok (.goto 5, 3) := by decide +kernel
theorem d_FD_fitting_159 : decode c_FD_fitting 159 = .ok (.lload 7, 2) := by decide +kernel
theorem d_FD_fitting_161 : decode c_FD_fitting 161 = .ok (.lreturn, 1) := by decide +kernel
/-- a place's neighbour at a side; at last the place itself -/
def nb (p k : Nat) : Nat := match k with | 0 => p + 42 | 1 => p + 1 | 2 => p - 42 | 3 => p - 1 | _ => p
theorem nb_add {p k : Nat} (hp : 43 ≤ p) (hk : k < 5) : nI p + stepF k = nI (nb p k) := by
  rcases (show k = 0 ∨ k = 1 ∨ k = 2 ∨ k = 3 ∨ k = 4 by omega) with rfl | rfl | rfl | rfl | rfl
  · exact nI_add p 42
  · exact nI_add p 1
  · show nI p + stepF 2 = nI (p - 42)
    rw [show stepF 2 = -nI 42 by decide +kernel, ← Int32.sub_eq_add_neg]
    exact pk_sub (by omega)
  · show nI p + stepF 3 = nI (p - 1)
    rw [show stepF 3 = -nI 1 by decide +kernel, ← Int32.sub_eq_add_neg]
    exact pk_sub (by omega)
  · exact nI_add p 0
theorem nb_lt {p : Nat} (h1 : 43 ≤ p) (h2 : p ≤ 1720) (k : Nat) : nb p k < 1764 := by
  unfold nb
  split <;> omega
theorem jn_dec {m : Nat} (h : 0 < m) : nI m + Int32.ofInt (-1) = nI (m - 1) := by
  obtain ⟨n, rfl⟩ : ∃ n, m = n + 1 := ⟨m - 1, by omega⟩
  exact pk_m1 n
abbrev nn (x : Int32) : Nat := x.toNatClampNeg
def fitH (b : Int64 × Int64 × Int64) (h : Int64) : Int64 × Int64 × Int64 := (b.1 ||| h, b.2.1 ||| (b.1 &&& h), b.2.2 ||| (b.2.1 &&& h))
def fitR (h : Int64) : Nat → Int64 × Int64 × Int64 → Int64 × Int64 × Int64
  | 0, b => b
  | n + 1, b => fitR h n (fitH b h)
theorem fitR_pos {h : Int64} {n : Nat} (hn : 0 < n) (b : Int64 × Int64 × Int64) : fitR h n b = fitR h (n - 1) (fitH b h) := by
  obtain ⟨k, rfl⟩ : ∃ k, n = k + 1 := ⟨n - 1, by omega⟩
  rfl
def fitS (ce sd st : Nat → Int32) (be : Nat → Int64) (p : Nat) (mask : Int32) (k : Nat) (b : Int64 × Int64 × Int64) : Int64 × Int64 × Int64 :=
  if tyN (ce (nb p k)) = 0 ∨ (mask >>> (nI k &&& 31)) &&& nI 1 = 0 then b
  else fitR (be (nn (sd (tyN (ce (nb p k)) * 4 + opp k)) * 4 + k)) (nn (st (nn (sd (tyN (ce (nb p k)) * 4 + opp k))))) b
def fitL (ce sd st : Nat → Int32) (be : Nat → Int64) (p : Nat) (mask : Int32) : Nat → Int64 × Int64 × Int64
  | 0 => (0, 0, 0)
  | k + 1 => fitS ce sd st be p mask k (fitL ce sd st be p mask k)
def fitO (wa : Int32) (b : Int64 × Int64 × Int64) : Int64 := if wa = nI 1 then b.1 else if wa = nI 2 then b.2.1 else b.2.2
def fitV (ce sd st : Nat → Int32) (be : Nat → Int64) (wa : Int32) (p : Nat) (mask : Int32) : Int64 := fitO wa (fitL ce sd st be p mask 4)
/-- sides and strengths are as they may be -/
def okSd (sd : Nat → Int32) : Prop := ∀ i, i < 244 → sd i = nI (nn (sd i)) ∧ nn (sd i) < 100
def okSt (st : Nat → Int32) : Prop := ∀ i, i < 100 → st i = nI (nn (st i)) ∧ nn (st i) ≤ 2
def okCe (ce : Nat → Int32) : Prop := ∀ i, i < 1764 → tyN (ce i) ≤ 60 ∧ (ce i = 0 → 43 ≤ i ∧ i ≤ 1720)
set_option maxHeartbeats 4000000 in
set_option maxRecDepth 100000 in
theorem lp_k_FD_fitting_88 {p : Program} {l : Launch} {e : Env} {s : State} {m : MethodId} {args : Array Value} {below : List Frame} {meth : Method} {c : Code} {D : va_G} {cI cJ : ClassId} {Q : State → Prop} (f0 : Nat) (f1 : Nat) (f2 : Nat) (f3 : Nat) (f4 : Nat) (o1 : Nat) (np : Int32) (ns : Int32) (aw : Int32) (s1 : Nat) (s2 : Nat) (s3 : Nat) (ty : Int32) (wa : Int32) (st : Nat → Int32) (sd : Nat → Int32) (be : Nat → Int64) (ce : Nat → Int32) (pl : Nat) (mask : Int32) (hp1 : 43 ≤ pl) (hp2 : pl ≤ 1720) (hce : okCe ce) (hsd : okSd sd) (hst : okSt st) (k : Nat) (b1 : Int64) (b2 : Int64) (b3 : Int64) (h9 : Int64) (m0 : Nat) (hm0 : m0 ≤ 2) (g9 : Nat) (hx : p.tables.exec = Jvm.exec) (hb : c.code = c_FD_fitting) (hml : c.maxLocals = 15) (hown : s.vm.findClass R_FD = some m.cls) (hw : ∀ w ∈ gw, w.before args s = true) (hE : En D cI cJ s) (hX : Sx (fun _ => False) s s.heap) (hP : va_P D vwCl [(f0, .inr (2, [.ref o1, .ref f1, .ref f2, .ref f3, .ref f4, .int np, .int ns, .int aw])), (f1, .inl (cI, 1764, .inl ce)), (o1, .inr (1, [.ref s1, .ref s2, .ref s3, .int ty, .int wa])), (s1, .inl (cI, 100, .inl st)), (s2, .inl (cI, 244, .inl sd)), (s3, .inl (cJ, 400, .inr (.inl be)))] s.heap)
    (kx0 : ∀ (e1 : Int64) (e2 : Int64) (e3 : Int64), ((e1, e2, e3) = fitR h9 m0 (b1, b2, b3)) → ∀ (ls : Array Slot), lv_has ls 15 [(0, .ref f0), (1, .int (nI pl)), (2, .int mask), (3, .long e1), (5, .long e2), (7, .long e3), (9, .int (nI k))] → W p l e ({ frames := 1, cells := 0, slots := 0, locals := 22 } : Room) s m args below meth c s.heap [] 0 0 Q (F0 m 123 ls [])) :
    ∀ (fu : Nat) (m9 : Nat) (a1 : Int64) (a2 : Int64) (a3 : Int64), m9 < fu → (m9 ≤ 2) → (fitR h9 m9 (a1, a2, a3) = fitR h9 m0 (b1, b2, b3)) → ∀ (ls : Array Slot), lv_has ls 15 [(0, .ref f0), (1, .int (nI pl)), (2, .int mask), (3, .long a1), (5, .long a2), (7, .long a3), (9, .int (nI k)), (12, .long h9), (14, .int (nI m9))] → W p l e ({ frames := 1, cells := 0, slots := 0, locals := 22 } : Room) s m args below meth c s.heap [] 0 0 Q (F0 m 88 ls []) := by
  have hS : va_S (fun _ => False) s.heap s.heap [] := va_S.rf
  obtain ⟨tS, hZ, hT⟩ := hX.1
  intro fu
  induction fu with
  | zero =>
    intro m9 a1 a2 a3 h0
    exact absurd h0 (Nat.not_lt_zero _)
  | succ fu ih =>
    intro m9 a1 a2 a3 hmu hm9 hR ls hl
    refine lv_iload hx hb d_FD_fitting_88 (lv_at hl 8 rfl) ?_
    refine jn_if_le (tgt := 123) (a := m9) hx hb d_FD_fitting_90 (by decide) (by omega) (fun c_90 => ?_) (fun c_90 => ?_)
    · skip
      exact kx0 a1 a2 a3 (by rw [← hR, c_90]; rfl) _ (lv_sub hl [0, 1, 2, 3, 4, 5, 6] rfl)
    · skip
      refine lv_lload hx hb d_FD_fitting_93 (lv_at hl 5 rfl) ?_
      refine lv_lload hx hb d_FD_fitting_95 (lv_at hl 4 rfl) ?_
      refine lv_lload hx hb d_FD_fitting_97 (lv_at hl 7 rfl) ?_
      refine lv_land hx hb d_FD_fitting_99 ?_
      refine lv_lor hx hb d_FD_fitting_100 ?_
      refine lv_lstore (lv' := [(7, .long (a3 ||| (a2 &&& h9))), (0, .ref f0), (1, .int (nI pl)), (2, .int mask), (3, .long a1), (5, .long a2), (9, .int (nI k)), (12, .long h9), (14, .int (nI m9))]) hx hb d_FD_fitting_101 hl (by decide) rfl (fun ls hl => ?_)
      refine lv_lload hx hb d_FD_fitting_103 (lv_at hl 5 rfl) ?_
      refine lv_lload_n hx hb d_FD_fitting_105 rfl (lv_at hl 4 rfl) ?_
      refine lv_lload hx hb d_FD_fitting_106 (lv_at hl 7 rfl) ?_
      refine lv_land hx hb d_FD_fitting_108 ?_
      refine lv_lor hx hb d_FD_fitting_109 ?_
      refine lv_lstore (lv' := [(5, .long (a2 ||| (a1 &&& h9))), (7, .long (a3 ||| (a2 &&& h9))), (0, .ref f0), (1, .int (nI pl)), (2, .int mask), (3, .long a1), (9, .int (nI k)), (12, .long h9), (14, .int (nI m9))]) hx hb d_FD_fitting_110 hl (by decide) rfl (fun ls hl => ?_)
      refine lv_lload_n hx hb d_FD_fitting_112 rfl (lv_at hl 5 rfl) ?_
      refine lv_lload hx hb d_FD_fitting_113 (lv_at hl 7 rfl) ?_
      refine lv_lor hx hb d_FD_fitting_115 ?_
      refine lv_lstore_n (lv' := [(3, .long (a1 ||| h9)), (5, .long (a2 ||| (a1 &&& h9))), (7, .long (a3 ||| (a2 &&& h9))), (0, .ref f0), (1, .int (nI pl)), (2, .int mask), (9, .int (nI k)), (12, .long h9), (14, .int (nI m9))]) hx hb d_FD_fitting_116 rfl hl (by decide) rfl (fun ls hl => ?_)
      refine lv_iinc (v := nI (m9 - 1)) (lv' := [(14, .int (nI (m9 - 1))), (3, .long (a1 ||| h9)), (5, .long (a2 ||| (a1 &&& h9))), (7, .long (a3 ||| (a2 &&& h9))), (0, .ref f0), (1, .int (nI pl)), (2, .int mask), (9, .int (nI k)), (12, .long h9)]) hx hb d_FD_fitting_117 hl (k := 8) rfl (jn_dec c_90) (by decide) rfl (fun ls hl => ?_)
      refine lv_goto (tgt := 88) hx hb d_FD_fitting_120 (by decide) ?_
      exact ih (m9 - 1) (a1 ||| h9) (a2 ||| (a1 &&& h9)) (a3 ||| (a2 &&& h9)) (by omega) (by omega) (by rw [← hR, fitR_pos c_90]; rfl) _ (lv_sub hl [4, 5, 6, 1, 2, 3, 7, 8, 0] rfl)
set_option maxHeartbeats 4000000 in
set_option maxRecDepth 100000 in
theorem lp_k_FD_fitting_11 {p : Program} {l : Launch} {e : Env} {s : State} {m : MethodId} {args : Array Value} {below : List Frame} {meth : Method} {c : Code} {D : va_G} {cI cJ : ClassId} {Q : State → Prop} (f0 : Nat) (f1 : Nat) (f2 : Nat) (f3 : Nat) (f4 : Nat) (o1 : Nat) (np : Int32) (ns : Int32) (aw : Int32) (s1 : Nat) (s2 : Nat) (s3 : Nat) (ty : Int32) (wa : Int32) (st : Nat → Int32) (sd : Nat → Int32) (be : Nat → Int64) (ce : Nat → Int32) (pl : Nat) (mask : Int32) (hp1 : 43 ≤ pl) (hp2 : pl ≤ 1720) (hce : okCe ce) (hsd : okSd sd) (hst : okSt st)  (hx : p.tables.exec = Jvm.exec) (hb : c.code = c_FD_fitting) (hml : c.maxLocals = 15) (hown : s.vm.findClass R_FD = some m.cls) (hw : ∀ w ∈ gw, w.before args s = true) (hE : En D cI cJ s) (hX : Sx (fun _ => False) s s.heap) (hP : va_P D vwCl [(f0, .inr (2, [.ref o1, .ref f1, .ref f2, .ref f3, .ref f4, .int np, .int ns, .int aw])), (f1, .inl (cI, 1764, .inl ce)), (o1, .inr (1, [.ref s1, .ref s2, .ref s3, .int ty, .int wa])), (s1, .inl (cI, 100, .inl st)), (s2, .inl (cI, 244, .inl sd)), (s3, .inl (cJ, 400, .inr (.inl be)))] s.heap)
    (kx0 : ∀ (b1 : Int64) (b2 : Int64) (b3 : Int64), ((b1, b2, b3) = fitL ce sd st be pl mask 4) → ∀ (ls : Array Slot), lv_has ls 15 [(0, .ref f0), (3, .long b1), (5, .long b2), (7, .long b3)] → W p l e ({ frames := 1, cells := 0, slots := 0, locals := 22 } : Room) s m args below meth c s.heap [] 0 0 Q (F0 m 129 ls [])) :
    ∀ (fu : Nat) (k : Nat) (b1 : Int64) (b2 : Int64) (b3 : Int64), 4 - k < fu → (k ≤ 4) → ((b1, b2, b3) = fitL ce sd st be pl mask k) → ∀ (ls : Array Slot), lv_has ls 15 [(0, .ref f0), (1, .int (nI pl)), (2, .int mask), (3, .long b1), (5, .long b2), (7, .long b3), (9, .int (nI k))] → W p l e ({ frames := 1, cells := 0, slots := 0, locals := 22 } : Room) s m args below meth c s.heap [] 0 0 Q (F0 m 11 ls []) := by
  have hS : va_S (fun _ => False) s.heap s.heap [] := va_S.rf
  obtain ⟨tS, hZ, hT⟩ := hX.1
  intro fu
  induction fu with
  | zero =>
    intro k b1 b2 b3 h0
    exact absurd h0 (Nat.not_lt_zero _)
  | succ fu ih =>
    intro k b1 b2 b3 hmu hk hb9 ls hl
    refine lv_iload hx hb d_FD_fitting_11 (lv_at hl 6 rfl) ?_
    refine lv_iconst (v := nI 4) hx hb d_FD_fitting_13 (by decide +kernel) ?_
    refine jn_icmp_ge (tgt := 129) (a := k) (b := 4) hx hb d_FD_fitting_14 (by decide) (by omega) (by omega) (fun c_14 => ?_) (fun c_14 => ?_)
    · skip
      exact kx0 b1 b2 b3 (by rw [hb9, show k = 4 by omega]) _ (lv_sub hl [0, 3, 4, 5] rfl)
    · skip
      refine lv_aload_n hx hb d_FD_fitting_17 rfl (lv_at hl 0 rfl) ?_
      refine lv_iload_n hx hb d_FD_fitting_18 rfl (lv_at hl 1 rfl) ?_
      refine va_getsN hx hb hZ hS hown (va_Nw.use rfl (hE.2.2.1 _ (List.mem_of_getElem? (i := 0) rfl))) (fun _ h9 => h9) d_FD_fitting_19 ?_
      refine lv_iload hx hb d_FD_fitting_22 (lv_at hl 6 rfl) ?_
      refine va_ti (v := .int (stepF k)) hx hb hT hS (vp_in_nI (n := k) (N := 5) (by omega) (by decide)) (by rw [nI_clamp (by omega)]) d_FD_fitting_24 ?_
      refine lv_iadd hx hb d_FD_fitting_25 ?_
      refine W.eq (g2 := F0 m 26 ls [.int (nI (nb pl k)), .ref f0]) (by rw [nb_add hp1 (show k < 5 by omega)]) ?_
      refine vp_callSi (va_Run.run (va_runV (As := [.int (nI (nb pl k))]) (rest := []) ⟨hx, hb, hml, hown, hw⟩ (k_FD_typeAt l D cI cJ f0 f1 f2 f3 f4 o1 np ns aw ce (nb pl k) (nb_lt hp1 hp2 k)) (cwV 1 hw (gV kw_437 kw_422 kw_423 kw_42 kw_424) rfl rfl rfl (by decide +kernel) ⟨Nat.le_of_ble_eq_true rfl, Nat.le_of_ble_eq_true rfl⟩) (pre_Vp (wc := [(f0, .inr (2, [.ref o1, .ref f1, .ref f2, .ref f3, .ref f4, .int np, .int ns, .int aw])), (f1, .inl (cI, 1764, .inl ce))]) (q0 := 0) hE hX hP hS [0, 1] rfl rfl rfl) rfl rfl hl.1 rfl (lv_room (Nat.le_of_ble_eq_true rfl)) d_FD_fitting_26 ⟨Nat.le_of_ble_eq_true rfl, Nat.le_of_ble_eq_true rfl⟩)) (fun r_1 hr_1 => ?_)
      obtain rfl : nI (tyN (ce (nb pl k))) = r_1 := hr_1.symm
      refine lv_istore (lv' := [(10, .int (nI (tyN (ce (nb pl k))))), (0, .ref f0), (1, .int (nI pl)), (2, .int mask), (3, .long b1), (5, .long b2), (7, .long b3), (9, .int (nI k))]) hx hb d_FD_fitting_29 hl (by decide) rfl (fun ls hl => ?_)
      refine lv_iload hx hb d_FD_fitting_31 (lv_at hl 0 rfl) ?_
      refine jn_if_eq (tgt := 123) (a := (tyN (ce (nb pl k)))) hx hb d_FD_fitting_33 (by decide) (by have := tyN_lt (ce (nb pl k)); omega) (fun c_33 => ?_) (fun c_33 => ?_)
      · skip
        refine lv_iinc (v := nI (k + 1)) (lv' := [(9, .int (nI (k + 1))), (10, .int (nI (tyN (ce (nb pl k))))), (0, .ref f0), (1, .int (nI pl)), (2, .int mask), (3, .long b1), (5, .long b2), (7, .long b3)]) hx hb d_FD_fitting_123 hl (k := 7) rfl (jn_inc k 1) (by decide) rfl (fun ls hl => ?_)
        refine lv_goto (tgt := 11) hx hb d_FD_fitting_126 (by decide) ?_
        exact ih (k + 1) b1 b2 b3 (by omega) (by omega) (by rw [fitL, ← hb9]; unfold fitS; rw [if_pos (Or.inl c_33)]) _ (lv_sub hl [2, 3, 4, 5, 6, 7, 0] rfl)
      · skip
        refine lv_iload_n hx hb d_FD_fitting_36 rfl (lv_at hl 3 rfl) ?_
        refine lv_iload hx hb d_FD_fitting_37 (lv_at hl 7 rfl) ?_
        refine lv_ishr hx hb d_FD_fitting_39 ?_
        refine lv_iconst (v := nI 1) hx hb d_FD_fitting_40 (by decide +kernel) ?_
        refine lv_iand hx hb d_FD_fitting_41 ?_
        refine lv_if_ne (tgt := 48) hx hb d_FD_fitting_42 (by decide) (fun c_42 => ?_) (fun c_42 => ?_)
        · skip
          have hq := hce (nb pl k) (nb_lt hp1 hp2 k)
          refine lv_aload_n hx hb d_FD_fitting_48 rfl (lv_at hl 1 rfl) ?_
          refine va_get (D := D) (ci := 2) (v := .ref o1) (C := R_FD) (T := T_FD) (N := 8) hx hb hw in_FD hown hE.1 hP 0 rfl rfl 0 (by decide) (hw _ kw_95) (fun _ h9 => h9) rfl d_FD_fitting_49 ?_
          refine lv_iload hx hb d_FD_fitting_52 (lv_at hl 0 rfl) ?_
          refine lv_iload hx hb d_FD_fitting_54 (lv_at hl 7 rfl) ?_
          refine vp_callSi (va_Run.run (va_runSN (As := [.int (nI k)]) (rest := [.int (nI (tyN (ce (nb pl k)))), .ref o1]) ⟨hx, hb, hml, hown, hw⟩ (k_TB_opposite l D cI cJ k (by omega)) (⟨va_cnB 1 hw (gI kw_454) rfl rfl rfl (hE.2.1 _ (List.mem_of_getElem? (i := 3) rfl)) (hw _ kw_40) (by decide +kernel) ⟨Nat.le_of_ble_eq_true rfl, Nat.le_of_ble_eq_true rfl⟩, hw _ kw_453, trivial⟩) (pre_Sp (wc := []) hE hX hP hS [] rfl) rfl rfl hl.1 rfl (lv_room (Nat.le_of_ble_eq_true rfl)) d_FD_fitting_56 ⟨Nat.le_of_ble_eq_true rfl, Nat.le_of_ble_eq_true rfl⟩)) (fun r_2 hr_2 => ?_)
          obtain rfl : nI (opp k) = r_2 := hr_2.symm
          refine vp_callSi (va_Run.run (va_runV (As := [.int (nI (tyN (ce (nb pl k)))), .int (nI (opp k))]) (rest := []) ⟨hx, hb, hml, hown, hw⟩ (k_TS_glueAt l D cI cJ o1 s1 s2 s3 ty wa sd (tyN (ce (nb pl k))) (opp k) (by have := opp_lt k; omega)) (cwV 2 hw (gV kw_455 kw_456 kw_457 kw_41 kw_458) rfl rfl rfl (by decide +kernel) ⟨Nat.le_of_ble_eq_true rfl, Nat.le_of_ble_eq_true rfl⟩) (pre_Vp (wc := [(o1, .inr (1, [.ref s1, .ref s2, .ref s3, .int ty, .int wa])), (s2, .inl (cI, 244, .inl sd))]) (q0 := 0) hE hX hP hS [2, 4] rfl rfl rfl) rfl rfl hl.1 rfl (lv_room (Nat.le_of_ble_eq_true rfl)) d_FD_fitting_59 ⟨Nat.le_of_ble_eq_true rfl, Nat.le_of_ble_eq_true rfl⟩)) (fun r_3 hr_3 => ?_)
          obtain rfl : sd ((tyN (ce (nb pl k))) * 4 + (opp k)) = r_3 := hr_3.symm
          refine W.eq (g2 := F0 m 62 ls [.int (nI (nn (sd (tyN (ce (nb pl k)) * 4 + opp k))))]) (by rw [(hsd (tyN (ce (nb pl k)) * 4 + opp k) (by have := opp_lt k; omega)).1.symm]) ?_
          refine lv_istore (lv' := [(11, .int (nI (nn (sd (tyN (ce (nb pl k)) * 4 + opp k))))), (10, .int (nI (tyN (ce (nb pl k))))), (0, .ref f0), (1, .int (nI pl)), (2, .int mask), (3, .long b1), (5, .long b2), (7, .long b3), (9, .int (nI k))]) hx hb d_FD_fitting_62 hl (by decide) rfl (fun ls hl => ?_)
          refine lv_aload_n hx hb d_FD_fitting_64 rfl (lv_at hl 2 rfl) ?_
          refine va_get (D := D) (ci := 2) (v := .ref o1) (C := R_FD) (T := T_FD) (N := 8) hx hb hw in_FD hown hE.1 hP 0 rfl rfl 0 (by decide) (hw _ kw_95) (fun _ h9 => h9) rfl d_FD_fitting_65 ?_
          refine lv_iload hx hb d_FD_fitting_68 (lv_at hl 0 rfl) ?_
          refine lv_iload hx hb d_FD_fitting_70 (lv_at hl 8 rfl) ?_
          refine vp_callSl (va_Run.run (va_runV (As := [.int (nI (nn (sd (tyN (ce (nb pl k)) * 4 + opp k)))), .int (nI k)]) (rest := []) ⟨hx, hb, hml, hown, hw⟩ (k_TS_bearersOf l D cI cJ o1 s1 s2 s3 ty wa be (nn (sd (tyN (ce (nb pl k)) * 4 + opp k))) k (by have := (hsd (tyN (ce (nb pl k)) * 4 + opp k) (by have := opp_lt k; omega)).2; omega)) (cwV 2 hw (gV kw_459 kw_460 kw_461 kw_41 kw_462) rfl rfl rfl (by decide +kernel) ⟨Nat.le_of_ble_eq_true rfl, Nat.le_of_ble_eq_true rfl⟩) (pre_Vp (wc := [(o1, .inr (1, [.ref s1, .ref s2, .ref s3, .int ty, .int wa])), (s3, .inl (cJ, 400, .inr (.inl be)))]) (q0 := 0) hE hX hP hS [2, 5] rfl rfl rfl) rfl rfl hl.1 rfl (lv_room (Nat.le_of_ble_eq_true rfl)) d_FD_fitting_72 ⟨Nat.le_of_ble_eq_true rfl, Nat.le_of_ble_eq_true rfl⟩)) (fun r_4 hr_4 => ?_)
          obtain rfl : be ((nn (sd (tyN (ce (nb pl k)) * 4 + opp k))) * 4 + k) = r_4 := hr_4.symm
          refine lv_lstore (lv' := [(12, .long (be ((nn (sd (tyN (ce (nb pl k)) * 4 + opp k))) * 4 + k))), (11, .int (nI (nn (sd (tyN (ce (nb pl k)) * 4 + opp k))))), (10, .int (nI (tyN (ce (nb pl k))))), (0, .ref f0), (1, .int (nI pl)), (2, .int mask), (3, .long b1), (5, .long b2), (7, .long b3), (9, .int (nI k))]) hx hb d_FD_fitting_75 hl (by decide) rfl (fun ls hl => ?_)
          refine lv_aload_n hx hb d_FD_fitting_77 rfl (lv_at hl 3 rfl) ?_
          refine va_get (D := D) (ci := 2) (v := .ref o1) (C := R_FD) (T := T_FD) (N := 8) hx hb hw in_FD hown hE.1 hP 0 rfl rfl 0 (by decide) (hw _ kw_95) (fun _ h9 => h9) rfl d_FD_fitting_78 ?_
          refine lv_iload hx hb d_FD_fitting_81 (lv_at hl 1 rfl) ?_
          refine vp_callSi (va_Run.run (va_runV (As := [.int (nI (nn (sd (tyN (ce (nb pl k)) * 4 + opp k))))]) (rest := []) ⟨hx, hb, hml, hown, hw⟩ (k_TS_strengthOf l D cI cJ o1 s1 s2 s3 ty wa st (nn (sd (tyN (ce (nb pl k)) * 4 + opp k))) (hsd (tyN (ce (nb pl k)) * 4 + opp k) (by have := opp_lt k; omega)).2) (cwV 1 hw (gV kw_463 kw_464 kw_465 kw_41 kw_466) rfl rfl rfl (by decide +kernel) ⟨Nat.le_of_ble_eq_true rfl, Nat.le_of_ble_eq_true rfl⟩) (pre_Vp (wc := [(o1, .inr (1, [.ref s1, .ref s2, .ref s3, .int ty, .int wa])), (s1, .inl (cI, 100, .inl st))]) (q0 := 0) hE hX hP hS [2, 3] rfl rfl rfl) rfl rfl hl.1 rfl (lv_room (Nat.le_of_ble_eq_true rfl)) d_FD_fitting_83 ⟨Nat.le_of_ble_eq_true rfl, Nat.le_of_ble_eq_true rfl⟩)) (fun r_5 hr_5 => ?_)
          obtain rfl : st (nn (sd (tyN (ce (nb pl k)) * 4 + opp k))) = r_5 := hr_5.symm
          refine W.eq (g2 := F0 m 86 ls [.int (nI (nn (st (nn (sd (tyN (ce (nb pl k)) * 4 + opp k))))))]) (by rw [(hst (nn (sd (tyN (ce (nb pl k)) * 4 + opp k))) (hsd (tyN (ce (nb pl k)) * 4 + opp k) (by have := opp_lt k; omega)).2).1.symm]) ?_
          refine lv_istore (lv' := [(14, .int (nI (nn (st (nn (sd (tyN (ce (nb pl k)) * 4 + opp k))))))), (12, .long (be ((nn (sd (tyN (ce (nb pl k)) * 4 + opp k))) * 4 + k))), (11, .int (nI (nn (sd (tyN (ce (nb pl k)) * 4 + opp k))))), (10, .int (nI (tyN (ce (nb pl k))))), (0, .ref f0), (1, .int (nI pl)), (2, .int mask), (3, .long b1), (5, .long b2), (7, .long b3), (9, .int (nI k))]) hx hb d_FD_fitting_86 hl (by decide) rfl (fun ls hl => ?_)
          refine lp_k_FD_fitting_88 f0 f1 f2 f3 f4 o1 np ns aw s1 s2 s3 ty wa st sd be ce pl mask hp1 hp2 hce hsd hst k b1 b2 b3 (be (nn (sd (tyN (ce (nb pl k)) * 4 + opp k)) * 4 + k)) (nn (st (nn (sd (tyN (ce (nb pl k)) * 4 + opp k))))) (hst _ (hsd _ (by have := opp_lt k; omega)).2).2 (nn (sd (tyN (ce (nb pl k)) * 4 + opp k))) hx hb hml hown hw hE hX hP (fun e1 e2 e3 hx9 ls hl => ?_) ((nn (st (nn (sd (tyN (ce (nb pl k)) * 4 + opp k))))) + 1) (nn (st (nn (sd (tyN (ce (nb pl k)) * 4 + opp k))))) b1 b2 b3 (Nat.lt_succ_self _) (hst _ (hsd _ (by have := opp_lt k; omega)).2).2 rfl _ (lv_sub hl [4, 5, 6, 7, 8, 9, 10, 1, 0] rfl)
          refine lv_iinc (v := nI (k + 1)) (lv' := [(9, .int (nI (k + 1))), (0, .ref f0), (1, .int (nI pl)), (2, .int mask), (3, .long e1), (5, .long e2), (7, .long e3)]) hx hb d_FD_fitting_123 hl (k := 6) rfl (jn_inc k 1) (by decide) rfl (fun ls hl => ?_)
          refine lv_goto (tgt := 11) hx hb d_FD_fitting_126 (by decide) ?_
          exact ih (k + 1) e1 e2 e3 (by omega) (by omega) (by rw [fitL, ← hb9]; unfold fitS; rw [if_neg (fun z => z.elim c_33 c_42)]; exact hx9) _ (lv_sub hl [1, 2, 3, 4, 5, 6, 0] rfl)
        · skip
          refine lv_goto (tgt := 123) hx hb d_FD_fitting_45 (by decide) ?_
          refine lv_iinc (v := nI (k + 1)) (lv' := [(9, .int (nI (k + 1))), (10, .int (nI (tyN (ce (nb pl k))))), (0, .ref f0), (1, .int (nI pl)), (2, .int mask), (3, .long b1), (5, .long b2), (7, .long b3)]) hx hb d_FD_fitting_123 hl (k := 7) rfl (jn_inc k 1) (by decide) rfl (fun ls hl => ?_)
          refine lv_goto (tgt := 11) hx hb d_FD_fitting_126 (by decide) ?_
          exact ih (k + 1) b1 b2 b3 (by omega) (by omega) (by rw [fitL, ← hb9]; unfold fitS; rw [if_pos (Or.inr c_42)]) _ (lv_sub hl [2, 3, 4, 5, 6, 7, 0] rfl)
set_option maxHeartbeats 4000000 in
set_option maxRecDepth 100000 in
/-- fitting -/
theorem k_FD_fitting (l : Launch) (D : va_G) (cI cJ : ClassId) (f0 : Nat) (f1 : Nat) (f2 : Nat) (f3 : Nat) (f4 : Nat) (o1 : Nat) (np : Int32) (ns : Int32) (aw : Int32) (s1 : Nat) (s2 : Nat) (s3 : Nat) (ty : Int32) (wa : Int32) (st : Nat → Int32) (sd : Nat → Int32) (be : Nat → Int64) (ce : Nat → Int32) (pl : Nat) (mask : Int32) (hp1 : 43 ≤ pl) (hp2 : pl ≤ 1720) (hce : okCe ce) (hsd : okSd sd) (hst : okSt st) : Met l y_FD_fitting ws_FD_fitting ({ frames := 1, cells := 0, slots := 0, locals := 22 } : Room) (va_Pc [.ref f0, .int (nI pl), .int mask] (Pp D cI cJ [(f0, .inr (2, [.ref o1, .ref f1, .ref f2, .ref f3, .ref f4, .int np, .int ns, .int aw])), (f1, .inl (cI, 1764, .inl ce)), (o1, .inr (1, [.ref s1, .ref s2, .ref s3, .int ty, .int wa])), (s1, .inl (cI, 100, .inl st)), (s2, .inl (cI, 244, .inl sd)), (s3, .inl (cJ, 400, .inr (.inl be)))])) (vp_Sl (fun r : Int64 => r = fitV ce sd st be wa pl mask)) 0 0 (fun _ => False) := by
  refine Met.ofW (cc := c_FD_fitting) (maxL := 15) (ret := (some .long)) (by decide) rfl ?_
  intro p e s m args below meth c s₁ B hml hv
  obtain ⟨rfl, hE, hP, hX⟩ := hv
  have hx := B.exec
  have hb := B.bytes
  have hr := B.returns
  have hw : ∀ w ∈ gw, w.before _ s = true := fun w h => atoms_spec (ws := ws_FD_fitting) B.pre w (List.mem_cons_of_mem _ h)
  have hown : s.vm.findClass R_FD = some m.cls := findClass_of_methodNamed B.named
  have hlocks := B.notSynchronized
  obtain ⟨tS, hZ, hT⟩ := hX.1
  have hS : va_S (fun _ => False) s.heap s.heap [] := va_S.rf
  have hl := lv_entry ([.ref f0, .int (nI pl), .int mask]) (n := 15) (Nat.le_of_ble_eq_true rfl)
  rw [lg_entry_eq]
  generalize (lg_sl ([.ref f0, .int (nI pl), .int mask]) ++ List.replicate (15 - (lg_sl ([.ref f0, .int (nI pl), .int mask])).length) Slot.unset).toArray = ls at hl ⊢
  have hl : lv_has ls 15 [(0, .ref f0), (1, .int (nI pl)), (2, .int mask)] := hl
  refine lv_lconst (v := 0) hx hb d_FD_fitting_0 (by decide +kernel) ?_
  refine lv_lstore_n (lv' := [(3, .long 0), (0, .ref f0), (1, .int (nI pl)), (2, .int mask)]) hx hb d_FD_fitting_1 rfl hl (by decide) rfl (fun ls hl => ?_)
  refine lv_lconst (v := 0) hx hb d_FD_fitting_2 (by decide +kernel) ?_
  refine lv_lstore (lv' := [(5, .long 0), (3, .long 0), (0, .ref f0), (1, .int (nI pl)), (2, .int mask)]) hx hb d_FD_fitting_3 hl (by decide) rfl (fun ls hl => ?_)
  refine lv_lconst (v := 0) hx hb d_FD_fitting_5 (by decide +kernel) ?_
  refine lv_lstore (lv' := [(7, .long 0), (5, .long 0), (3, .long 0), (0, .ref f0), (1, .int (nI pl)), (2, .int mask)]) hx hb d_FD_fitting_6 hl (by decide) rfl (fun ls hl => ?_)
  refine lv_iconst (v := nI 0) hx hb d_FD_fitting_8 (by decide +kernel) ?_
  refine lv_istore (lv' := [(9, .int (nI 0)), (7, .long 0), (5, .long 0), (3, .long 0), (0, .ref f0), (1, .int (nI pl)), (2, .int mask)]) hx hb d_FD_fitting_9 hl (by decide) rfl (fun ls hl => ?_)
  refine lp_k_FD_fitting_11 f0 f1 f2 f3 f4 o1 np ns aw s1 s2 s3 ty wa st sd be ce pl mask hp1 hp2 hce hsd hst hx hb hml hown hw hE hX hP (fun b1 b2 b3 hb9 ls hl => ?_) ((4 - 0) + 1) 0 0 0 0 (Nat.lt_succ_self _) (Nat.zero_le _) rfl _ (lv_sub hl [4, 5, 6, 3, 2, 1, 0] rfl)
  refine lv_aload_n hx hb d_FD_fitting_129 rfl (lv_at hl 0 rfl) ?_
  refine va_get (D := D) (ci := 2) (v := .ref o1) (C := R_FD) (T := T_FD) (N := 8) hx hb hw in_FD hown hE.1 hP 0 rfl rfl 0 (by decide) (hw _ kw_95) (fun _ h9 => h9) rfl d_FD_fitting_130 ?_
  refine vp_callSi (va_Run.run (va_runV (As := []) (rest := []) ⟨hx, hb, hml, hown, hw⟩ (k_TS_warmth l D cI cJ o1 s1 s2 s3 ty wa) (cwV 0 hw (gV kw_467 kw_468 kw_469 kw_41 kw_470) rfl rfl rfl (by decide +kernel) ⟨Nat.le_of_ble_eq_true rfl, Nat.le_of_ble_eq_true rfl⟩) (pre_Vp (wc := [(o1, .inr (1, [.ref s1, .ref s2, .ref s3, .int ty, .int wa]))]) (q0 := 0) hE hX hP hS [2] rfl rfl rfl) rfl rfl hl.1 rfl (lv_room (Nat.le_of_ble_eq_true rfl)) d_FD_fitting_133 ⟨Nat.le_of_ble_eq_true rfl, Nat.le_of_ble_eq_true rfl⟩)) (fun r_1 hr_1 => ?_)
  obtain rfl : wa = r_1 := hr_1.symm
  refine lv_istore (lv' := [(9, .int wa), (0, .ref f0), (3, .long b1), (5, .long b2), (7, .long b3)]) hx hb d_FD_fitting_136 hl (by decide) rfl (fun ls hl => ?_)
  refine lv_iload hx hb d_FD_fitting_138 (lv_at hl 0 rfl) ?_
  refine lv_iconst (v := nI 1) hx hb d_FD_fitting_140 (by decide +kernel) ?_
  refine lv_icmp_ne (tgt := 148) hx hb d_FD_fitting_141 (by decide) (fun c_141 => ?_) (fun c_141 => ?_)
  · skip
    refine lv_iload hx hb d_FD_fitting_148 (lv_at hl 0 rfl) ?_
    refine lv_iconst (v := nI 2) hx hb d_FD_fitting_150 (by decide +kernel) ?_
    refine lv_icmp_ne (tgt := 159) hx hb d_FD_fitting_151 (by decide) (fun c_151 => ?_) (fun c_151 => ?_)
    · skip
      refine lv_lload hx hb d_FD_fitting_159 (lv_at hl 4 rfl) ?_
      exact W.lret (v := b3) hx hb hr (fun t9 ht hW => ⟨_, rfl, (by unfold fitV fitO; rw [← hb9, if_neg c_141, if_neg c_151]), ht⟩) (fun q h => by cases h) d_FD_fitting_161
    · skip
      refine lv_lload hx hb d_FD_fitting_154 (lv_at hl 3 rfl) ?_
      refine lv_goto (tgt := 161) hx hb d_FD_fitting_156 (by decide) ?_
      exact W.lret (v := b2) hx hb hr (fun t9 ht hW => ⟨_, rfl, (by unfold fitV fitO; rw [← hb9, if_neg c_141, if_pos c_151]), ht⟩) (fun q h => by cases h) d_FD_fitting_161
  · skip
    refine lv_lload_n hx hb d_FD_fitting_144 rfl (lv_at hl 2 rfl) ?_
    refine lv_goto (tgt := 161) hx hb d_FD_fitting_145 (by decide) ?_
    exact W.lret (v := b1) hx hb hr (fun t9 ht hW => ⟨_, rfl, (by unfold fitV fitO; rw [← hb9, if_pos c_141]), ht⟩) (fun q h => by cases h) d_FD_fitting_161
