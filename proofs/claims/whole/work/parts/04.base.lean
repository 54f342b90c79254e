/-! THE COMMON GROUND OF ALL CONTRACTS: tables (En), statics (Sx), a world (Pw: may change; Pp: only read), calls. -/
abbrev nwM : List (String × Nat × MethodName × String) := [("TileBench", 11, ⟨"TileBench$TileSet", "<init>", "()V"⟩, "TileBench"), ("TileBench", 36, ⟨"TileBench$Seams", "<init>", "()V"⟩, "TileBench"), ("TileBench$TileSet", 33, ⟨"TileBench", "only", "(I)J"⟩, "TileBench"), ("TileBench$Field", 47, ⟨"TileBench", "opposite", "(I)I"⟩, "TileBench"), ("TileBench$Field", 110, ⟨"TileBench", "placeOf", "(II)I"⟩, "TileBench"), ("TileBench$Field", 113, ⟨"TileBench", "least", "(J)I"⟩, "TileBench"), ("TileBench$Field", 116, ⟨"TileBench", "pairOf", "(II)I"⟩, "TileBench"), ("TileBench$Field", 125, ⟨"TileBench", "only", "(I)J"⟩, "TileBench"), ("TileBench$Field", 137, ⟨"TileBench", "seedOf", "(I)I"⟩, "TileBench"), ("TileBench$Outcomes", 73, ⟨"TileBench", "placeOf", "(II)I"⟩, "TileBench"), ("TileBench$Outcomes", 90, ⟨"TileBench", "least", "(J)I"⟩, "TileBench"), ("TileBench$Outcomes", 93, ⟨"TileBench", "pairOf", "(II)I"⟩, "TileBench"), ("TileBench$Outcomes", 123, ⟨"TileBench", "placeIn", "(I)I"⟩, "TileBench"), ("TileBench$Outcomes", 129, ⟨"TileBench", "typeIn", "(I)I"⟩, "TileBench"), ("TileBench$Outcomes", 106, ⟨"TileBench", "seedOf", "(I)I"⟩, "TileBench"), ("TileBench$Seams", 54, ⟨"TileBench", "xOf", "(I)I"⟩, "TileBench"), ("TileBench$Seams", 65, ⟨"TileBench", "opposite", "(I)I"⟩, "TileBench")]
abbrev nwF : List (String × Nat × String × String × String × String) := [("TileBench$Field", 40, "TileBench", "STEPS", "[I", "TileBench")]
abbrev nwS : List (String × Nat × String) := [("TileBench", 192, "there are tiles on the field"), ("TileBench", 201, "a number is not as it may be"), ("TileBench", 58, "there are 60 types"), ("TileBench", 199, "x or y is no place"), ("TileBench", 196, "there is no such type"), ("TileBench", 91, "a tile is there, or one has attached"), ("TileBench", 141, "the frontier has no such pair"), ("TileBench", 166, "there are no seeds"), ("TileBench", 172, "there are less than two tiles"), ("TileBench", 174, "there are more than 120 tiles")]
abbrev nwD : List MethodName := [⟨"java/lang/RuntimeException", "<init>", "()V"⟩, ⟨"java/lang/RuntimeException", "<init>", "(Ljava/lang/String;)V"⟩, ⟨"java/lang/Exception", "<init>", "()V"⟩, ⟨"java/lang/Exception", "<init>", "(Ljava/lang/String;)V"⟩, ⟨"java/lang/Throwable", "<init>", "()V"⟩, ⟨"java/lang/Throwable", "<init>", "(Ljava/lang/String;)V"⟩]
abbrev nwC : List (String × String) := [("java/lang/IllegalStateException", "java/lang/IllegalStateException"), ("java/lang/IllegalArgumentException", "java/lang/IllegalArgumentException"), ("java/lang/UnsupportedOperationException", "java/lang/UnsupportedOperationException"), ("java/lang/IndexOutOfBoundsException", "java/lang/IndexOutOfBoundsException")]
abbrev nwN : List (String × String) := [("TileBench", "java/lang/IllegalArgumentException"), ("TileBench", "java/lang/IllegalStateException"), ("TileBench", "java/lang/IndexOutOfBoundsException"), ("TileBench", "java/lang/UnsupportedOperationException"), ("TileBench$Field", "java/lang/IllegalArgumentException"), ("TileBench$Field", "java/lang/IllegalStateException"), ("TileBench$Field", "java/lang/IndexOutOfBoundsException"), ("TileBench$Field", "java/lang/UnsupportedOperationException"), ("TileBench$Outcomes", "java/lang/IllegalArgumentException"), ("TileBench$Outcomes", "java/lang/IllegalStateException"), ("TileBench$Outcomes", "java/lang/IndexOutOfBoundsException"), ("TileBench$Outcomes", "java/lang/UnsupportedOperationException"), ("TileBench$Seams", "java/lang/IllegalArgumentException"), ("TileBench$Seams", "java/lang/IllegalStateException"), ("TileBench$Seams", "java/lang/IndexOutOfBoundsException"), ("TileBench$Seams", "java/lang/UnsupportedOperationException"), ("TileBench$TileSet", "java/lang/IllegalArgumentException"), ("TileBench$TileSet", "java/lang/IllegalStateException"), ("TileBench$TileSet", "java/lang/IndexOutOfBoundsException"), ("TileBench$TileSet", "java/lang/UnsupportedOperationException"), ("TileBenchModel", "java/lang/IllegalArgumentException"), ("TileBenchModel", "java/lang/IllegalStateException"), ("TileBenchModel", "java/lang/IndexOutOfBoundsException"), ("TileBenchModel", "java/lang/UnsupportedOperationException"), ("java/lang/IllegalArgumentException", "java/lang/IllegalStateException"), ("java/lang/IllegalArgumentException", "java/lang/IndexOutOfBoundsException"), ("java/lang/IllegalArgumentException", "java/lang/UnsupportedOperationException"), ("java/lang/IllegalStateException", "java/lang/IllegalArgumentException"), ("java/lang/IllegalStateException", "java/lang/IndexOutOfBoundsException"), ("java/lang/IllegalStateException", "java/lang/UnsupportedOperationException"), ("java/lang/IndexOutOfBoundsException", "java/lang/IllegalArgumentException"), ("java/lang/IndexOutOfBoundsException", "java/lang/IllegalStateException"), ("java/lang/IndexOutOfBoundsException", "java/lang/UnsupportedOperationException"), ("java/lang/UnsupportedOperationException", "java/lang/IllegalArgumentException"), ("java/lang/UnsupportedOperationException", "java/lang/IllegalStateException"), ("java/lang/UnsupportedOperationException", "java/lang/IndexOutOfBoundsException")]
def stepF (j : Nat) : Int32 := match j with | 0 => 42 | 1 => 1 | 2 => -42 | 3 => -1 | _ => 0
abbrev tyU (cI cJ : ClassId) : List (ClassId × FieldType) := [(cI, .int), (cJ, .long)]
def En (D : va_G) (cI cJ : ClassId) (U : State) : Prop :=
  va_K D vwCl (tyU cI cJ) U ∧ (∀ t ∈ nwM, va_Nw (.methodLinkNest t.1 t.2.1 t.2.2.1 t.2.2.2) U) ∧ (∀ t ∈ nwF, va_Nw (.fieldLinkNest t.1 t.2.1 t.2.2.1 t.2.2.2.1 t.2.2.2.2.1 t.2.2.2.2.2) U) ∧ (∀ t ∈ nwS, ∃ q, vk_R t.1 t.2.1 t.2.2 q U) ∧ (∀ t ∈ nwD, va_Nw (.declares t) U) ∧ (∀ t ∈ nwC, va_Nw (.castable t.1 t.2) U) ∧ ∀ t ∈ nwN, va_Nc t.1 t.2 U
theorem En.warm {D : va_G} {cI cJ : ClassId} {s U : State} (hW : s.WarmedH U.vm) (h : En D cI cJ s) : En D cI cJ U :=
  ⟨va_K.moved hW.alike h.1, fun t ht => va_Nw.warmM hW (h.2.1 t ht), fun t ht => va_Nw.warmF hW (h.2.2.1 t ht), fun t ht => (h.2.2.2.1 t ht).imp fun _ hq => vk_R.warm hW hq, fun t ht => va_Nw.warmD hW (h.2.2.2.2.1 t ht), fun t ht => va_Nw.warmC hW (h.2.2.2.2.2.1 t ht), fun t ht => (h.2.2.2.2.2.2 t ht).moved hW.alike⟩
theorem En.calling {D : va_G} {cI cJ : ClassId} {U : State} {g : JFrame} {mk : MethodId} {a : Array Value} (h : En D cI cJ U) : En D cI cJ (U.calling g mk a) :=
  ⟨va_K.moved (u := U) (U := U.calling g mk a) (Vm.Alike.refl U.vm) h.1, fun t ht => va_Nw.same (u := U) (U := U.calling g mk a) rfl rfl (h.2.1 t ht), fun t ht => va_Nw.same (u := U) (U := U.calling g mk a) rfl rfl (h.2.2.1 t ht), fun t ht => (h.2.2.2.1 t ht).imp fun _ hq => vk_R.same (u := U) (U := U.calling g mk a) rfl hq,
    fun t ht => va_Nw.same (u := U) (U := U.calling g mk a) rfl rfl (h.2.2.2.2.1 t ht), fun t ht => va_Nw.same (u := U) (U := U.calling g mk a) rfl rfl (h.2.2.2.2.2.1 t ht), fun t ht => va_Nc.moved (u := U) (U := U.calling g mk a) (Vm.Alike.refl U.vm) (h.2.2.2.2.2.2 t ht)⟩
def Sx (A : Nat → Prop) (U : State) (H : Heap) : Prop :=
  (∃ t, va_Z "TileBench" "STEPS" "[I" (.ref t) A U H ∧ va_T .int t 5 (fun j => .int (stepF j)) A U H) ∧ vx_Zq "java/lang/Throwable" "UNASSIGNED_STACK" "[Ljava/lang/StackTraceElement;" A U H ∧ vx_Zq "java/lang/Throwable" "SUPPRESSED_SENTINEL" "Ljava/util/List;" A U H
theorem Sx.go {A B : Nat → Prop} {s U : State} {H : Heap} {locs : List Loc} (h : Sx A s s.heap) (hS : va_S A s.heap H locs) (hAB : ∀ q, B q → A q) (hvm : s.vm.Alike U.vm) (hU : U.heap = H) : Sx B U U.heap := by
  obtain ⟨⟨t, h1, h2⟩, h3, h4⟩ := h
  subst hU
  have hq : ∀ a : Nat, a < s.heap.size → ¬ A a → U.heap[a]? = s.heap[a]? := hS.2.1
  exact ⟨⟨t, ((h1.kept hq).narrow hAB).moved hvm, ((h2.kept hq).narrow hAB).moved hvm⟩, ((h3.kept hq).narrow hAB).moved hvm, ((h4.kept hq).narrow hAB).moved hvm⟩
theorem Sx.calling {A : Nat → Prop} {U : State} {g : JFrame} {mk : MethodId} {a : Array Value} (h : Sx A U U.heap) : Sx A (U.calling g mk a) (U.calling g mk a).heap := by
  obtain ⟨⟨t, h1, h2⟩, h3, h4⟩ := h
  exact ⟨⟨t, va_Z.moved (u := U) (U := U.calling g mk a) (Vm.Alike.refl U.vm) h1, va_T.moved (u := U) (U := U.calling g mk a) (Vm.Alike.refl U.vm) h2⟩, vx_Zq.moved (u := U) (U := U.calling g mk a) (Vm.Alike.refl U.vm) h3, vx_Zq.moved (u := U) (U := U.calling g mk a) (Vm.Alike.refl U.vm) h4⟩
/-- a world that a method may change -/
def Pw (D : va_G) (cI cJ : ClassId) (ws : va_W) (sz : Nat) (U : State) : Prop :=
  U.heap.size = sz ∧ En D cI cJ U ∧ va_P D vwCl ws U.heap ∧ va_D (fun _ => True) ws ∧ Sx (va_A ws sz) U U.heap
/-- a world that a method only reads -/
def Pp (D : va_G) (cI cJ : ClassId) (ws : va_W) (U : State) : Prop :=
  En D cI cJ U ∧ va_P D vwCl ws U.heap ∧ Sx (fun _ => False) U U.heap
theorem Pw.blind {D : va_G} {cI cJ : ClassId} {ws : va_W} {sz : Nat} {av : List Value} : FrameBlind (va_Pc av (Pw D cI cJ ws sz)) := by
  intro a U g mk h
  obtain ⟨h0, h1, h2, h3, h4, h5⟩ := h
  exact ⟨h0, h1, h2.calling, h3, h4, h5.calling⟩
theorem Pp.blind {D : va_G} {cI cJ : ClassId} {ws : va_W} {av : List Value} : FrameBlind (va_Pc av (Pp D cI cJ ws)) := by
  intro a U g mk h
  obtain ⟨h0, h1, h2, h3⟩ := h
  exact ⟨h0, h1.calling, h2, h3.calling⟩
section PRE
variable {D : va_G} {cI cJ : ClassId} {A : Nat → Prop} {s : State} {H : Heap} {locs : List Loc} {ws wc : va_W} {As : List Value}
theorem pre_Sw (hE : En D cI cJ s) (hX : Sx A s s.heap) (hA : ∀ q, s.heap.size ≤ q → A q) (hP : va_P D vwCl ws H) (hD : va_D A ws) (hS : va_S A s.heap H locs) (isC : List Nat) (hn : va_nd isC = true) (hC : isC.map (fun i => ws[i]?) = wc.map some) (hC1 : isC.filterMap (fun i => ws[i]?) = wc) :
    PreS s H (va_Pc As (Pw D cI cJ wc H.size)) As :=
  ⟨Pw.blind, fun U hU hW => ⟨rfl, by rw [hU], hE.warm hW, by rw [hU]; exact hP.sub isC hC1, (hD.sub isC hn hC).weaken (fun _ _ _ _ => trivial), hX.go hS (va_free hD hS hA isC hC) hW.alike hU⟩⟩
theorem pre_Vw {b ci q0 N : Nat} {C : String} {T : u_T} {fs : List Value} (hE : En D cI cJ s) (hX : Sx A s s.heap) (hA : ∀ q, s.heap.size ≤ q → A q) (hP : va_P D vwCl ws H) (hD : va_D A ws) (hS : va_S A s.heap H locs) (isC : List Nat) (hn : va_nd isC = true) (hC : isC.map (fun i => ws[i]?) = wc.map some) (hC1 : isC.filterMap (fun i => ws[i]?) = wc)
    (hc : vwCl[ci]? = some (C, T, N)) (he : wc[q0]? = some (b, .inr (ci, fs))) : PreV s H C b (va_Pc (.ref b :: As) (Pw D cI cJ wc H.size)) As :=
  ⟨Pw.blind, va_recv hE.1 (hP.sub isC hC1) hc he, (pre_Sw hE hX hA hP hD hS isC hn hC hC1).2⟩
theorem pre_Sp (hE : En D cI cJ s) (hX : Sx A s s.heap) (hP : va_P D vwCl ws H) (hS : va_S A s.heap H locs) (isC : List Nat) (hC1 : isC.filterMap (fun i => ws[i]?) = wc) : PreS s H (va_Pc As (Pp D cI cJ wc)) As :=
  ⟨Pp.blind, fun U hU hW => ⟨rfl, hE.warm hW, by rw [hU]; exact hP.sub isC hC1, hX.go hS (fun _ h => h.elim) hW.alike hU⟩⟩
theorem pre_Vp {b ci q0 N : Nat} {C : String} {T : u_T} {fs : List Value} (hE : En D cI cJ s) (hX : Sx A s s.heap) (hP : va_P D vwCl ws H) (hS : va_S A s.heap H locs) (isC : List Nat) (hC1 : isC.filterMap (fun i => ws[i]?) = wc)
    (hc : vwCl[ci]? = some (C, T, N)) (he : wc[q0]? = some (b, .inr (ci, fs))) : PreV s H C b (va_Pc (.ref b :: As) (Pp D cI cJ wc)) As :=
  ⟨Pp.blind, va_recv hE.1 (hP.sub isC hC1) hc he, (pre_Sp hE hX hP hS isC hC1).2⟩
end PRE
/-- a world's picture behind a method -/
def Bw (D : va_G) (A : Nat → Prop) (w : va_W) (t : State) : Prop := va_P D vwCl w t.heap ∧ va_D A w
section CLS
variable {p : Program} {l : Launch} {e : Env} {R : Room} {s : State} {m : MethodId} {args : Array Value} {below : List Frame} {meth : Method} {c : Code} {H : Heap} {locs : List Loc} {cells slots : Nat} {Q : State → Prop}
variable {pc mc ms : Nat} {ls : Array Slot} {st0 rest : List Value} {D : va_G} {A : Nat → Prop} {ws wc wr : va_W} {S : Type} {w1 : S → va_W} {a : Array Value}
theorem cl_v {post : S → Prop} (hr : va_Run p l e R s m args below meth c H locs cells slots mc ms (F0 m pc ls st0) rest (va_Qv post (fun u t => Bw D (va_A wc H.size) (w1 u) t) (va_A wc H.size) a) (va_A wc H.size))
    (hP : va_P D vwCl ws H) (hD : va_D A ws) (hS : va_S A s.heap H locs) (hA : ∀ q, s.heap.size ≤ q → A q) (isC isR : List Nat) (hC : isC.map (fun i => ws[i]?) = wc.map some) (hR : isR.map (fun i => ws[i]?) = wr.map some) (hn : va_nd isR = true) (hdis : ∀ i ∈ isR, i ∉ isC)
    (kk : ∀ (u : S) (H1 : Heap) (locs1 : List Loc), post u → va_P D vwCl (wr ++ w1 u) H1 → va_D A (wr ++ w1 u) → va_S A s.heap H1 locs1 → W p l e R s m args below meth c H1 locs1 (cells + mc) (slots + ms) Q (F0 m (pc + 3) ls rest)) : W p l e R s m args below meth c H locs cells slots Q (F0 m pc ls st0) := by
  have hF := va_free hD hS hA isC hC
  refine va_callv hr hS (fun q _ h => hF q h) hF (fun u t H1 locs1 ht hvm hw hB hz1 hk1 hS1 => ?_)
  obtain ⟨hP1, hD1⟩ := hB
  rw [ht] at hP1
  obtain ⟨hP', hD'⟩ := va_join hP hD isC isR hC hR hn hdis hk1 hF hP1 hD1
  exact kk u H1 locs1 hw hP' hD' hS1
theorem cl_i {post : Int32 → S → Prop} (hr : va_Run p l e R s m args below meth c H locs cells slots mc ms (F0 m pc ls st0) rest (va_Qi post (fun u t => Bw D (va_A wc H.size) (w1 u) t) (va_A wc H.size) a) (va_A wc H.size))
    (hP : va_P D vwCl ws H) (hD : va_D A ws) (hS : va_S A s.heap H locs) (hA : ∀ q, s.heap.size ≤ q → A q) (isC isR : List Nat) (hC : isC.map (fun i => ws[i]?) = wc.map some) (hR : isR.map (fun i => ws[i]?) = wr.map some) (hn : va_nd isR = true) (hdis : ∀ i ∈ isR, i ∉ isC)
    (kk : ∀ (r : Int32) (u : S) (H1 : Heap) (locs1 : List Loc), post r u → va_P D vwCl (wr ++ w1 u) H1 → va_D A (wr ++ w1 u) → va_S A s.heap H1 locs1 → W p l e R s m args below meth c H1 locs1 (cells + mc) (slots + ms) Q (F0 m (pc + 3) ls (.int r :: rest))) : W p l e R s m args below meth c H locs cells slots Q (F0 m pc ls st0) := by
  have hF := va_free hD hS hA isC hC
  refine va_calli hr hS (fun q _ h => hF q h) hF (fun r u t H1 locs1 ht hvm hw hB hz1 hk1 hS1 => ?_)
  obtain ⟨hP1, hD1⟩ := hB
  rw [ht] at hP1
  obtain ⟨hP', hD'⟩ := va_join hP hD isC isR hC hR hn hdis hk1 hF hP1 hD1
  exact kk r u H1 locs1 hw hP' hD' hS1
end CLS
-- new arrays: their class is the known one
section NEWA
variable {p : Program} {l : Launch} {e : Env} {R : Room} {s : State} {m : MethodId} {args : Array Value} {below : List Frame} {meth : Method} {c : Code} {H H0 : Heap} {locs : List Loc} {cells slots : Nat} {Q : State → Prop}
variable {cc : ByteArray} {pc : Nat} {ls : Array Slot} {rest : List Value} {D : va_G} {A : Nat → Prop} {ws : va_W} {cI cJ : ClassId}
theorem nw_I (hx : p.tables.exec = Jvm.exec) (hb : c.code = cc) (harr : (Cond.arrayClass .int).before args s = true) (hK : va_K D vwCl (tyU cI cJ) s) (hP : va_P D vwCl ws H) (hD : va_D A ws) (hS : va_S A H0 H locs) (hA : ∀ q, H0.size ≤ q → A q)
    {n : Int32} {N : Nat} (hn : ¬ n < 0) (hN : n.toNatClampNeg = N) (hbytes : N * componentBytes .int ≤ 536870912) (hcells : cells + 1 ≤ R.cells) (hslots : slots + N ≤ R.slots) (hdg : decode cc pc = .ok (.newarray .int, 2))
    (kk : ∀ (q : Nat) (H1 : Heap), va_P D vwCl (ws ++ [(q, .inl (cI, N, .inl (fun _ => 0)))]) H1 → va_D A (ws ++ [(q, .inl (cI, N, .inl (fun _ => 0)))]) → va_S A H0 H1 locs → W p l e R s m args below meth c H1 locs (cells + 1) (slots + N) Q (F0 m (pc + 2) ls (.ref q :: rest))) : W p l e R s m args below meth c H locs cells slots Q (F0 m pc ls (.int n :: rest)) := by
  refine va_newa (atype := .int) (a0 := (N, .inl (fun _ => 0))) (ty := .int) hx hb (show (Cond.arrayClass (newarray.typeOf .int)).before args s = true from harr) rfl hK hP hD hS hA (fun _ => rfl) hn hN hbytes hcells hslots hdg (fun q cA H1 hK1 hP1 hD1 hS1 => ?_)
  have e1 : s.vm.findClass ("[" ++ FieldType.int.toString) = some cA := (hK1.2 2 (cA, .int) rfl).2
  have e2 : s.vm.findClass ("[" ++ FieldType.int.toString) = some cI := (hK.2 0 (cI, .int) rfl).2
  cases Option.some.inj (e1.symm.trans e2)
  exact kk q H1 hP1 hD1 hS1
theorem nw_J (hx : p.tables.exec = Jvm.exec) (hb : c.code = cc) (harr : (Cond.arrayClass .long).before args s = true) (hK : va_K D vwCl (tyU cI cJ) s) (hP : va_P D vwCl ws H) (hD : va_D A ws) (hS : va_S A H0 H locs) (hA : ∀ q, H0.size ≤ q → A q)
    {n : Int32} {N : Nat} (hn : ¬ n < 0) (hN : n.toNatClampNeg = N) (hbytes : N * componentBytes .long ≤ 536870912) (hcells : cells + 1 ≤ R.cells) (hslots : slots + N ≤ R.slots) (hdg : decode cc pc = .ok (.newarray .long, 2))
    (kk : ∀ (q : Nat) (H1 : Heap), va_P D vwCl (ws ++ [(q, .inl (cJ, N, .inr (.inl (fun _ => 0))))]) H1 → va_D A (ws ++ [(q, .inl (cJ, N, .inr (.inl (fun _ => 0))))]) → va_S A H0 H1 locs → W p l e R s m args below meth c H1 locs (cells + 1) (slots + N) Q (F0 m (pc + 2) ls (.ref q :: rest))) : W p l e R s m args below meth c H locs cells slots Q (F0 m pc ls (.int n :: rest)) := by
  refine va_newa (atype := .long) (a0 := (N, .inr (.inl (fun _ => 0)))) (ty := .long) hx hb (show (Cond.arrayClass (newarray.typeOf .long)).before args s = true from harr) rfl hK hP hD hS hA (fun _ => rfl) hn hN hbytes hcells hslots hdg (fun q cA H1 hK1 hP1 hD1 hS1 => ?_)
  have e1 : s.vm.findClass ("[" ++ FieldType.long.toString) = some cA := (hK1.2 2 (cA, .long) rfl).2
  have e2 : s.vm.findClass ("[" ++ FieldType.long.toString) = some cJ := (hK.2 1 (cJ, .long) rfl).2
  cases Option.some.inj (e1.symm.trans e2)
  exact kk q H1 hP1 hD1 hS1
end NEWA
/-- words of a call, all out of gw -/
theorem gI {w0 : Cond} (h : w0 ∈ gw) : GoodIn gw (w0 :: gw) := fun w hw => by
  have hm : w ∈ gw := by
    rcases List.mem_cons.mp hw with rfl | hw
    · exact h
    · exact hw
  exact ⟨hm, gw_good w hm⟩
theorem gV {own C : String} {idx : Nat} {y : MethodName} {w0 : Cond} (h1 : Cond.methodLink own idx y ∈ gw) (h2 : Cond.instanceMethod y ∈ gw) (h3 : Cond.selects C y y ∈ gw) (h4 : Cond.initialized C ∈ gw) (h : w0 ∈ gw) : GoodIn gw (wsV own idx C y (w0 :: gw)) := fun w hw => by
  have hm : w ∈ gw := by
    unfold wsV at hw
    rcases List.mem_append.mp hw with hw | hw
    · rcases List.mem_cons.mp hw with rfl | hw
      · exact h1
      · rcases List.mem_cons.mp hw with rfl | hw
        · exact h2
        · rcases List.mem_cons.mp hw with rfl | hw
          · exact h3
          · rcases List.mem_cons.mp hw with rfl | hw
            · exact h4
            · cases hw
    · exact (gI h w hw).1
  exact ⟨hm, gw_good w hm⟩
theorem gS {own : String} {idx : Nat} {y : MethodName} {w0 : Cond} (h1 : Cond.methodLink own idx y ∈ gw) (h2 : Cond.static y ∈ gw) (h3 : Cond.initialized y.cls ∈ gw) (h : w0 ∈ gw) : GoodIn gw (va_wsS own idx y (w0 :: gw)) := fun w hw => by
  have hm : w ∈ gw := by
    unfold va_wsS at hw
    rcases List.mem_append.mp hw with hw | hw
    · rcases List.mem_cons.mp hw with rfl | hw
      · exact h1
      · rcases List.mem_cons.mp hw with rfl | hw
        · exact h2
        · rcases List.mem_cons.mp hw with rfl | hw
          · exact h3
          · cases hw
    · exact (gI h w hw).1
  exact ⟨hm, gw_good w hm⟩
/-- it threw, and all that was there is as it was -/
def nd_X (ex : String → Prop) : String → State → State → Prop := fun E st t => ex E ∧ st.heap.size ≤ t.heap.size ∧ ∀ q : Nat, q < st.heap.size → t.heap[q]? = st.heap[q]?
/-- a check comes back: nothing has changed -/
def nd_Q (ok : Prop) : Array Value → State → Outcome → State → Prop := fun _ st o t => o = .returned none ∧ ok ∧ t.heap = st.heap
section ND
variable {p : Program} {l : Launch} {e : Env} {R : Room} {s : State} {m : MethodId} {args : Array Value} {below : List Frame} {meth : Method} {c : Code} {H : Heap} {locs : List Loc} {cells slots : Nat} {Q : State → Prop}
variable {pc mc ms : Nat} {ls : Array Slot} {st0 rest : List Value} {D : va_G} {A : Nat → Prop} {ws wc wr : va_W} {S : Type} {w1 : S → va_W} {a : Array Value} {ex : String → Prop}
theorem nd_call {ok : Prop} (hr : vx_Run p l e R s m args below meth c H locs cells slots mc ms (F0 m pc ls st0) rest (nd_Q ok a) (nd_X ex) (fun _ => False))
    (kx : ∀ (E : String) (ce : Cell) (q9 : Addr) (H1 : Heap), ex E → H1[q9]? = some ce → ce.vm = .none → s.vm.findClass E = some ce.cls → H.size ≤ H1.size → (∀ q : Nat, q < H.size → H1[q]? = H[q]?) → vx_W p l e R s m args below meth c H1 locs (cells + mc) (slots + ms) Q (F0 m pc ls rest) q9)
    (kk : ok → W p l e R s m args below meth c H locs (cells + mc) (slots + ms) Q (F0 m (pc + 3) ls rest)) : W p l e R s m args below meth c H locs cells slots Q (F0 m pc ls st0) := by
  intro T hT X
  rcases hr T hT X with ⟨v, st₀, t, T', L, h0, X', hL, e1, e2, ⟨hv, hok, hh⟩, st⟩ | ⟨q, st₀, t, T', L, E, ce, h0, X', hL, e1, e2, ⟨hex, h5, h6⟩, hce, hcv, hcl, st⟩
  · cases hv
    obtain ⟨t2, a1, b1⟩ := kk hok T' (by rw [e1, hh, h0]) (Stand.forget X' (fun q h => (hL q h).elim))
    exact ⟨t2, st t2 a1, b1⟩
  · rw [h0] at h5 h6
    obtain ⟨t2, a1, b1⟩ := kx E ce q t.heap hex hce hcv hcl h5 h6 T' e1 (Stand.forget X' (fun q h => (hL q h).elim))
    exact ⟨t2, st.trans a1, b1⟩
theorem xc_i {post : Int32 → S → Prop} (hr : vx_Run p l e R s m args below meth c H locs cells slots mc ms (F0 m pc ls st0) rest (va_Qi post (fun u t => Bw D (va_A wc H.size) (w1 u) t) (va_A wc H.size) a) (nd_X ex) (va_A wc H.size))
    (hP : va_P D vwCl ws H) (hD : va_D A ws) (hS : va_S A s.heap H locs) (hA : ∀ q, s.heap.size ≤ q → A q) (isC isR : List Nat) (hC : isC.map (fun i => ws[i]?) = wc.map some) (hR : isR.map (fun i => ws[i]?) = wr.map some) (hn : va_nd isR = true) (hdis : ∀ i ∈ isR, i ∉ isC)
    (kx : ∀ (E : String) (ce : Cell) (q9 : Addr) (H1 : Heap) (locs1 : List Loc), ex E → H1[q9]? = some ce → ce.vm = .none → s.vm.findClass E = some ce.cls → va_P D vwCl ws H1 → va_S A s.heap H1 locs1 → vx_W p l e R s m args below meth c H1 locs1 (cells + mc) (slots + ms) Q (F0 m pc ls rest) q9)
    (kk : ∀ (r : Int32) (u : S) (H1 : Heap) (locs1 : List Loc), post r u → va_P D vwCl (wr ++ w1 u) H1 → va_D A (wr ++ w1 u) → va_S A s.heap H1 locs1 → W p l e R s m args below meth c H1 locs1 (cells + mc) (slots + ms) Q (F0 m (pc + 3) ls (.int r :: rest))) : W p l e R s m args below meth c H locs cells slots Q (F0 m pc ls st0) := by
  have hF := va_free hD hS hA isC hC
  intro T hT X
  rcases hr T hT X with ⟨v, st₀, t, T', L, h0, X', hL, e1, e2, ⟨⟨r, u, hv, hp, hP1, hD1⟩, hFr⟩, st⟩ | ⟨q, st₀, t, T', L, E, ce, h0, X', hL, e1, e2, ⟨hex, h5, h6⟩, hce, hcv, hcl, st⟩
  · cases hv
    obtain ⟨k1, k2, k3⟩ := vx_keep h0 e1 hS (fun q _ h => hF q h) hF hL hFr
    rw [← e1] at hP1
    obtain ⟨hP', hD'⟩ := va_join hP hD isC isR hC hR hn hdis k2 hF hP1 hD1
    obtain ⟨t2, a1, b1⟩ := kk r u T'.heap (locs ++ L) hp hP' hD' k3 T' rfl X'
    exact ⟨t2, st t2 a1, b1⟩
  · rw [h0] at h5 h6
    rw [← e1] at hce h5 h6
    have hS1 : va_S A s.heap T'.heap (locs ++ L) := ⟨Nat.le_trans hS.1 h5, fun q g1 g2 => (h6 q (Nat.lt_of_lt_of_le g1 hS.1)).trans (hS.2.1 q g1 g2), fun q hq => by
      rcases List.mem_append.mp hq with h | h
      · exact hS.2.2 q h
      · exact hF _ (hL q h)⟩
    obtain ⟨t2, a1, b1⟩ := kx E ce q T'.heap (locs ++ L) hex hce hcv hcl (hP.kept (fun k q hk => h6 q.1 (hP k q hk).lt)) hS1 T' rfl X'
    exact ⟨t2, st.trans a1, b1⟩
theorem xc_v {post : S → Prop} (hr : vx_Run p l e R s m args below meth c H locs cells slots mc ms (F0 m pc ls st0) rest (va_Qv post (fun u t => Bw D (va_A wc H.size) (w1 u) t) (va_A wc H.size) a) (nd_X ex) (va_A wc H.size))
    (hP : va_P D vwCl ws H) (hD : va_D A ws) (hS : va_S A s.heap H locs) (hA : ∀ q, s.heap.size ≤ q → A q) (isC isR : List Nat) (hC : isC.map (fun i => ws[i]?) = wc.map some) (hR : isR.map (fun i => ws[i]?) = wr.map some) (hn : va_nd isR = true) (hdis : ∀ i ∈ isR, i ∉ isC)
    (kx : ∀ (E : String) (ce : Cell) (q9 : Addr) (H1 : Heap) (locs1 : List Loc), ex E → H1[q9]? = some ce → ce.vm = .none → s.vm.findClass E = some ce.cls → va_P D vwCl ws H1 → va_S A s.heap H1 locs1 → vx_W p l e R s m args below meth c H1 locs1 (cells + mc) (slots + ms) Q (F0 m pc ls rest) q9)
    (kk : ∀ (u : S) (H1 : Heap) (locs1 : List Loc), post u → va_P D vwCl (wr ++ w1 u) H1 → va_D A (wr ++ w1 u) → va_S A s.heap H1 locs1 → W p l e R s m args below meth c H1 locs1 (cells + mc) (slots + ms) Q (F0 m (pc + 3) ls rest)) : W p l e R s m args below meth c H locs cells slots Q (F0 m pc ls st0) := by
  have hF := va_free hD hS hA isC hC
  intro T hT X
  rcases hr T hT X with ⟨v, st₀, t, T', L, h0, X', hL, e1, e2, ⟨⟨u, hv, hp, hP1, hD1⟩, hFr⟩, st⟩ | ⟨q, st₀, t, T', L, E, ce, h0, X', hL, e1, e2, ⟨hex, h5, h6⟩, hce, hcv, hcl, st⟩
  · cases hv
    obtain ⟨k1, k2, k3⟩ := vx_keep h0 e1 hS (fun q _ h => hF q h) hF hL hFr
    rw [← e1] at hP1
    obtain ⟨hP', hD'⟩ := va_join hP hD isC isR hC hR hn hdis k2 hF hP1 hD1
    obtain ⟨t2, a1, b1⟩ := kk u T'.heap (locs ++ L) hp hP' hD' k3 T' rfl X'
    exact ⟨t2, st t2 a1, b1⟩
  · rw [h0] at h5 h6
    rw [← e1] at hce h5 h6
    have hS1 : va_S A s.heap T'.heap (locs ++ L) := ⟨Nat.le_trans hS.1 h5, fun q g1 g2 => (h6 q (Nat.lt_of_lt_of_le g1 hS.1)).trans (hS.2.1 q g1 g2), fun q hq => by
      rcases List.mem_append.mp hq with h | h
      · exact hS.2.2 q h
      · exact hF _ (hL q h)⟩
    obtain ⟨t2, a1, b1⟩ := kx E ce q T'.heap (locs ++ L) hex hce hcv hcl (hP.kept (fun k q hk => h6 q.1 (hP k q hk).lt)) hS1 T' rfl X'
    exact ⟨t2, st.trans a1, b1⟩
end ND
