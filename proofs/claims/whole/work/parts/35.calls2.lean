theorem d_MD_tile_0 : decode c_MD_tile 0 = .ok (.iload_n 1, 1) := by decide +kernel
theorem d_MD_tile_1 : decode c_MD_tile 1 = .ok (.iconst 0, 1) := by decide +kernel
theorem d_MD_tile_2 : decode c_MD_tile 2 = .ok (.bipush 99, 2) := by decide +kernel
theorem d_MD_tile_4 : decode c_MD_tile 4 = .ok (.invokestatic 59, 3) := by decide +kernel
theorem d_MD_tile_7 : decode c_MD_tile 7 = .ok (.ifCond .eq 38, 3) := by decide +kernel
theorem d_MD_tile_10 : decode c_MD_tile 10 = .ok (.iload_n 2, 1) := by decide +kernel
theorem d_MD_tile_11 : decode c_MD_tile 11 = .ok (.iconst 0, 1) := by decide +kernel
theorem d_MD_tile_12 : decode c_MD_tile 12 = .ok (.bipush 99, 2) := by decide +kernel
theorem d_MD_tile_14 : decode c_MD_tile 14 = .ok (.invokestatic 59, 3) := by decide +kernel
theorem d_MD_tile_17 : decode c_MD_tile 17 = .ok (.ifCond .eq 28, 3) := by decide +kernel
theorem d_MD_tile_20 : decode c_MD_tile 20 = .ok (.iload_n 3, 1) := by decide +kernel
theorem d_MD_tile_21 : decode c_MD_tile 21 = .ok (.iconst 0, 1) := by decide +kernel
theorem d_MD_tile_22 : decode c_MD_tile 22 = .ok (.bipush 99, 2) := by decide +kernel
theorem d_MD_tile_24 : decode c_MD_tile 24 = .ok (.invokestatic 59, 3) := by decide +kernel
theorem d_MD_tile_27 : decode c_MD_tile 27 = .ok (.ifCond .eq 18, 3) := by decide +kernel
theorem d_MD_tile_30 : decode c_MD_tile 30 = .ok (.iload 4, 2) := by decide +kernel
theorem d_MD_tile_32 : decode c_MD_tile 32 = .ok (.iconst 0, 1) := by decide +kernel
theorem d_MD_tile_33 : decode c_MD_tile 33 = .ok (.bipush 99, 2) := by decide +kernel
theorem d_MD_tile_35 : decode c_MD_tile 35 = .ok (.invokestatic 59, 3) := by decide +kernel
theorem d_MD_tile_38 : decode c_MD_tile 38 = .ok (.ifCond .eq 7, 3) := by decide +kernel
theorem d_MD_tile_41 : decode c_MD_tile 41 = .ok (.iconst 1, 1) := by decide +kernel
theorem d_MD_tile_42 : decode c_MD_tile 42 = .ok (.goto 4, 3) := by decide +kernel
theorem d_MD_tile_45 : decode c_MD_tile 45 = .ok (.iconst 0, 1) := by decide +kernel
theorem d_MD_tile_46 : decode c_MD_tile 46 = .ok (.istore 5, 2) := by decide +kernel
theorem d_MD_tile_48 : decode c_MD_tile 48 = .ok (.aload_n 0, 1) := by decide +kernel
theorem d_MD_tile_49 : decode c_MD_tile 49 = .ok (.aload_n 0, 1) := by decide +kernel
theorem d_MD_tile_50 : decode c_MD_tile 50 = .ok (.getfield 98, 3) := by decide +kernel
theorem d_MD_tile_53 : decode c_MD_tile 53 = .ok (.ifCond .le 7, 3) := by decide +kernel
theorem d_MD_tile_56 : decode c_MD_tile 56 = .ok (.iconst 1, 1) := by decide +kernel
theorem d_MD_tile_57 : decode c_MD_tile 57 = .ok (.goto 4, 3) := by decide +kernel
theorem d_MD_tile_60 : decode c_MD_tile 60 = .ok (.iconst 0, 1) := by decide +kernel
theorem d_MD_tile_61 : decode c_MD_tile 61 = .ok (.iconst 1, 1) := by decide +kernel
theorem d_MD_tile_62 : decode c_MD_tile 62 = .ok (.invokevirtual 105, 3) := by decide +kernel
theorem d_MD_tile_65 : decode c_MD_tile 65 = .ok (.ifCond .ne 43, 3) := by decide +kernel
theorem d_MD_tile_68 : decode c_MD_tile 68 = .ok (.aload_n 0, 1) := by decide +kernel
theorem d_MD_tile_69 : decode c_MD_tile 69 = .ok (.iload 5, 2) := by decide +kernel
theorem d_MD_tile_71 : decode c_MD_tile 71 = .ok (.ifCond .ne 7, 3) := by decide +kernel
theorem d_MD_tile_74 : decode c_MD_tile 74 = .ok (.iconst 1, 1) := by decide +kernel
theorem d_MD_tile_75 : decode c_MD_tile 75 = .ok (.goto 4, 3) := by decide +kernel
theorem d_MD_tile_78 : decode c_MD_tile 78 = .ok (.iconst 0, 1) := by decide +kernel
theorem d_MD_tile_79 : decode c_MD_tile 79 = .ok (.iconst 2, 1) := by decide +kernel
theorem d_MD_tile_80 : decode c_MD_tile 80 = .ok (.invokevirtual 105, 3) := by decide +kernel
theorem d_MD_tile_83 : decode c_MD_tile 83 = .ok (.ifCond .ne 25, 3) := by decide +kernel
theorem d_MD_tile_86 : decode c_MD_tile 86 = .ok (.aload_n 0, 1) := by decide +kernel
theorem d_MD_tile_87 : decode c_MD_tile 87 = .ok (.aload_n 0, 1) := by decide +kernel
theorem d_MD_tile_88 : decode c_MD_tile 88 = .ok (.getfield 63, 3) := by decide +kernel
theorem d_MD_tile_91 : decode c_MD_tile 91 = .ok (.bipush 60, 2) := by decide +kernel
theorem d_MD_tile_93 : decode c_MD_tile 93 = .ok (.if_icmp .ne 7, 3) := by decide +kernel
theorem d_MD_tile_96 : decode c_MD_tile 96 = .ok (.iconst 1, 1) := by decide +kernel
theorem d_MD_tile_97 : decode c_MD_tile 97 = .ok (.goto 4, 3) := by decide +kernel
theorem d_MD_tile_100 : decode c_MD_tile 100 = .ok (.iconst 0, 1) := by decide +kernel
theorem d_MD_tile_101 : decode c_MD_tile 101 = .ok (.iconst 3, 1) := by decide +kernel
theorem d_MD_tile_102 : decode c_MD_tile 102 = .ok (.invokevirtual 105, 3) := by decide +kernel
theorem d_MD_tile_105 : decode c_MD_tile 105 = .ok (.ifCond .eq 5, 3) := by decide +kernel
theorem d_MD_tile_108 : decode c_MD_tile 108 = .ok (.iconst 0, 1) := by decide +kernel
theorem d_MD_tile_109 : decode c_MD_tile 109 = .ok (.ireturn, 1) := by decide +kernel
theorem d_MD_tile_110 : decode c_MD_tile 110 = .ok (.aload_n 0, 1) := by decide +kernel
theorem d_MD_tile_111 : decode c_MD_tile 111 = .ok (.iload_n 1, 1) := by decide +kernel
theorem d_MD_tile_112 : decode c_MD_tile 112 = .ok (.iload_n 2, 1) := by decide +kernel
theorem d_MD_tile_113 : decode c_MD_tile 113 = .ok (.iload_n 3, 1) := by decide +kernel
theorem d_MD_tile_114 : decode c_MD_tile 114 = .ok (.iload 4, 2) := by decide +kernel
theorem d_MD_tile_116 : decode c_MD_tile 116 = .ok (.invokevirtual 109, 3) := by decide +kernel
theorem d_MD_tile_119 : decode c_MD_tile 119 = .ok (.ireturn, 1) := by decide +kernel
theorem d_MD_attach_0 : decode c_MD_attach 0 = .ok (.aload_n 0, 1) := by decide +kernel
theorem d_MD_attach_1 : decode c_MD_attach 1 = .ok (.iload_n 1, 1) := by decide +kernel
theorem d_MD_attach_2 : decode c_MD_attach 2 = .ok (.iload_n 2, 1) := by decide +kernel
theorem d_MD_attach_3 : decode c_MD_attach 3 = .ok (.invokestatic 66, 3) := by decide +kernel
theorem d_MD_attach_6 : decode c_MD_attach 6 = .ok (.ifCond .ne 7, 3) := by decide +kernel
theorem d_MD_attach_9 : decode c_MD_attach 9 = .ok (.iconst 1, 1) := by decide +kernel
theorem d_MD_attach_10 : decode c_MD_attach 10 = .ok (.goto 4, 3) := by decide +kernel
theorem d_MD_attach_13 : decode c_MD_attach 13 = .ok (.iconst 0, 1) := by decide +kernel
theorem d_MD_attach_14 : decode c_MD_attach 14 = .ok (.iconst 1, 1) := by decide +kernel
theorem d_MD_attach_15 : decode c_MD_attach 15 = .ok (.invokevirtual 105, 3) := by decide +kernel
theorem d_MD_attach_18 : decode c_MD_attach 18 = .ok (.ifCond .ne 24, 3) := by decide +kernel
theorem d_MD_attach_21 : decode c_MD_attach 21 = .ok (.aload_n 0, 1) := by decide +kernel
theorem d_MD_attach_22 : decode c_MD_attach 22 = .ok (.aload_n 0, 1) := by decide +kernel
theorem d_MD_attach_23 : decode c_MD_attach 23 = .ok (.iload_n 3, 1) := by decide +kernel
theorem d_MD_attach_24 : decode c_MD_attach 24 = .ok (.invokevirtual 113, 3) := by decide +kernel
theorem d_MD_attach_27 : decode c_MD_attach 27 = .ok (.ifCond .ne 7, 3) := by decide +kernel
theorem d_MD_attach_30 : decode c_MD_attach 30 = .ok (.iconst 1, 1) := by decide +kernel
theorem d_MD_attach_31 : decode c_MD_attach 31 = .ok (.goto 4, 3) := by decide +kernel
theorem d_MD_attach_34 : decode c_MD_attach 34 = .ok (.iconst 0, 1) := by decide +kernel
theorem d_MD_attach_35 : decode c_MD_attach 35 = .ok (.iconst 2, 1) := by decide +kernel
theorem d_MD_attach_36 : decode c_MD_attach 36 = .ok (.invokevirtual 105, 3) := by decide +kernel
theorem d_MD_attach_39 : decode c_MD_attach 39 = .ok (.ifCond .eq 5, 3) := by decide +kernel
theorem d_MD_attach_42 : decode c_MD_attach 42 = .ok (.iconst 0, 1) := by decide +kernel
theorem d_MD_attach_43 : decode c_MD_attach 43 = .ok (.ireturn, 1) := by decide +kernel
theorem d_MD_attach_44 : decode c_MD_attach 44 = .ok (.aload_n 0, 1) := by decide +kernel
theorem d_MD_attach_45 : decode c_MD_attach 45 = .ok (.aload_n 0, 1) := by decide +kernel
theorem d_MD_attach_46 : decode c_MD_attach 46 = .ok (.getfield 20, 3) := by decide +kernel
theorem d_MD_attach_49 : decode c_MD_attach 49 = .ok (.bipush 40, 2) := by decide +kernel
theorem d_MD_attach_51 : decode c_MD_attach 51 = .ok (.iload_n 2, 1) := by decide +kernel
theorem d_MD_attach_52 : decode c_MD_attach 52 = .ok (.imul, 1) := by decide +kernel
theorem d_MD_attach_53 : decode c_MD_attach 53 = .ok (.iload_n 1, 1) := by decide +kernel
theorem d_MD_attach_54 : decode c_MD_attach 54 = .ok (.iadd, 1) := by decide +kernel
theorem d_MD_attach_55 : decode c_MD_attach 55 = .ok (.iload_n 3, 1) := by decide +kernel
theorem d_MD_attach_56 : decode c_MD_attach 56 = .ok (.invokevirtual 88, 3) := by decide +kernel
theorem d_MD_attach_59 : decode c_MD_attach 59 = .ok (.istore 4, 2) := by decide +kernel
theorem d_MD_attach_61 : decode c_MD_attach 61 = .ok (.iload 4, 2) := by decide +kernel
theorem d_MD_attach_63 : decode c_MD_attach 63 = .ok (.ifCond .eq 14, 3) := by decide +kernel
theorem d_MD_attach_66 : decode c_MD_attach 66 = .ok (.aload_n 0, 1) := by decide +kernel
theorem d_MD_attach_67 : decode c_MD_attach 67 = .ok (.bipush 40, 2) := by decide +kernel
theorem d_MD_attach_69 : decode c_MD_attach 69 = .ok (.iload_n 2, 1) := by decide +kernel
theorem d_MD_attach_70 : decode c_MD_attach 70 = .ok (.imul, 1) := by decide +kernel
theorem d_MD_attach_71 : decode c_MD_attach 71 = .ok (.iload_n 1, 1) := by decide +kernel
theorem d_MD_attach_72 : decode c_MD_attach 72 = .ok (.iadd, 1) := by decide +kernel
theorem d_MD_attach_73 : decode c_MD_attach 73 = .ok (.iload_n 3, 1) := by decide +kernel
theorem d_MD_attach_74 : decode c_MD_attach 74 = .ok (.invokevirtual 124, 3) := by decide +kernel
theorem d_MD_attach_77 : decode c_MD_attach 77 = .ok (.iload 4, 2) := by decide +kernel
theorem d_MD_attach_79 : decode c_MD_attach 79 = .ok (.ireturn, 1) := by decide +kernel
theorem d_MD_drop_0 : decode c_MD_drop 0 = .ok (.aload_n 0, 1) := by decide +kernel
theorem d_MD_drop_1 : decode c_MD_drop 1 = .ok (.iload_n 1, 1) := by decide +kernel
theorem d_MD_drop_2 : decode c_MD_drop 2 = .ok (.iload_n 2, 1) := by decide +kernel
theorem d_MD_drop_3 : decode c_MD_drop 3 = .ok (.invokestatic 66, 3) := by decide +kernel
theorem d_MD_drop_6 : decode c_MD_drop 6 = .ok (.ifCond .ne 7, 3) := by decide +kernel
theorem d_MD_drop_9 : decode c_MD_drop 9 = .ok (.iconst 1, 1) := by decide +kernel
theorem d_MD_drop_10 : decode c_MD_drop 10 = .ok (.goto 4, 3) := by decide +kernel
theorem d_MD_drop_13 : decode c_MD_drop 13 = .ok (.iconst 0, 1) := by decide +kernel
theorem d_MD_drop_14 : decode c_MD_drop 14 = .ok (.iconst 1, 1) := by decide +kernel
theorem d_MD_drop_15 : decode c_MD_drop 15 = .ok (.invokevirtual 105, 3) := by decide +kernel
theorem d_MD_drop_18 : decode c_MD_drop 18 = .ok (.ifCond .eq 5, 3) := by decide +kernel
theorem d_MD_drop_21 : decode c_MD_drop 21 = .ok (.iconst 0, 1) := by decide +kernel
theorem d_MD_drop_22 : decode c_MD_drop 22 = .ok (.ireturn, 1) := by decide +kernel
theorem d_MD_drop_23 : decode c_MD_drop 23 = .ok (.bipush 40, 2) := by decide +kernel
theorem d_MD_drop_25 : decode c_MD_drop 25 = .ok (.iload_n 2, 1) := by decide +kernel
theorem d_MD_drop_26 : decode c_MD_drop 26 = .ok (.imul, 1) := by decide +kernel
theorem d_MD_drop_27 : decode c_MD_drop 27 = .ok (.iload_n 1, 1) := by decide +kernel
theorem d_MD_drop_28 : decode c_MD_drop 28 = .ok (.iadd, 1) := by decide +kernel
theorem d_MD_drop_29 : decode c_MD_drop 29 = .ok (.istore_n 3, 1) := by decide +kernel
theorem d_MD_drop_30 : decode c_MD_drop 30 = .ok (.aload_n 0, 1) := by decide +kernel
theorem d_MD_drop_31 : decode c_MD_drop 31 = .ok (.getfield 20, 3) := by decide +kernel
theorem d_MD_drop_34 : decode c_MD_drop 34 = .ok (.iload_n 3, 1) := by decide +kernel
theorem d_MD_drop_35 : decode c_MD_drop 35 = .ok (.iaload, 1) := by decide +kernel
theorem d_MD_drop_36 : decode c_MD_drop 36 = .ok (.istore 4, 2) := by decide +kernel
theorem d_MD_drop_38 : decode c_MD_drop 38 = .ok (.aload_n 0, 1) := by decide +kernel
theorem d_MD_drop_39 : decode c_MD_drop 39 = .ok (.getfield 20, 3) := by decide +kernel
theorem d_MD_drop_42 : decode c_MD_drop 42 = .ok (.iload_n 3, 1) := by decide +kernel
theorem d_MD_drop_43 : decode c_MD_drop 43 = .ok (.iconst 0, 1) := by decide +kernel
theorem d_MD_drop_44 : decode c_MD_drop 44 = .ok (.iastore, 1) := by decide +kernel
theorem d_MD_drop_45 : decode c_MD_drop 45 = .ok (.aload_n 0, 1) := by decide +kernel
theorem d_MD_drop_46 : decode c_MD_drop 46 = .ok (.dup, 1) := by decide +kernel
theorem d_MD_drop_47 : decode c_MD_drop 47 = .ok (.getfield 98, 3) := by decide +kernel
theorem d_MD_drop_50 : decode c_MD_drop 50 = .ok (.iload 4, 2) := by decide +kernel
theorem d_MD_drop_52 : decode c_MD_drop 52 = .ok (.ifCond .le 7, 3) := by decide +kernel
theorem d_MD_drop_55 : decode c_MD_drop 55 = .ok (.iconst 1, 1) := by decide +kernel
theorem d_MD_drop_56 : decode c_MD_drop 56 = .ok (.goto 4, 3) := by decide +kernel
theorem d_MD_drop_59 : decode c_MD_drop 59 = .ok (.iconst 0, 1) := by decide +kernel
theorem d_MD_drop_60 : decode c_MD_drop 60 = .ok (.isub, 1) := by decide +kernel
theorem d_MD_drop_61 : decode c_MD_drop 61 = .ok (.putfield 98, 3) := by decide +kernel
theorem d_MD_drop_64 : decode c_MD_drop 64 = .ok (.aload_n 0, 1) := by decide +kernel
theorem d_MD_drop_65 : decode c_MD_drop 65 = .ok (.getfield 98, 3) := by decide +kernel
theorem d_MD_drop_68 : decode c_MD_drop 68 = .ok (.ifCond .ne 8, 3) := by decide +kernel
theorem d_MD_drop_71 : decode c_MD_drop 71 = .ok (.aload_n 0, 1) := by decide +kernel
theorem d_MD_drop_72 : decode c_MD_drop 72 = .ok (.iconst 0, 1) := by decide +kernel
theorem d_MD_drop_73 : decode c_MD_drop 73 = .ok (.putfield 101, 3) := by decide +kernel
theorem d_MD_drop_76 : decode c_MD_drop 76 = .ok (.iload 4, 2) := by decide +kernel
theorem d_MD_drop_78 : decode c_MD_drop 78 = .ok (.ireturn, 1) := by decide +kernel
def mdV (fi : Nat → Int32) (nt wb x y : Int32) : Int32 × (Nat → Int32) × Int32 × Int32 × Int32 :=
  if isP x y = 0 then (nI 0, fi, nt, wb, nI 1) else (fi (40 * nn y + nn x), upd fi (40 * nn y + nn x) (nI 0), nt - (if fi (40 * nn y + nn x) ≤ 0 then nI 0 else nI 1), (if nt - (if fi (40 * nn y + nn x) ≤ 0 then nI 0 else nI 1) = 0 then nI 0 else wb), nI 0)
def rtN (x z v w : Int32) : Nat := if wiN x (nI 0) (nI 99) = 0 then 0 else if wiN z (nI 0) (nI 99) = 0 then 0 else if wiN v (nI 0) (nI 99) = 0 then 0 else if wiN w (nI 0) (nI 99) = 0 then 0 else 1
def mlV (nt : Int32) (gl : Nat → Int32) (y : Nat) (x z v w : Int32) : Int32 × (Nat → Int32) × Nat × Int32 :=
  if nt ≤ 0 then (if rtN x z v w = 0 then (nI 0, gl, y, nI 2) else if y = 60 then (nI 0, gl, y, nI 3) else (nI (y + 1), agS gl (y + 1) x z v w, y + 1, nI 0)) else (nI 0, gl, y, nI 1)
set_option maxHeartbeats 4000000 in
set_option maxRecDepth 100000 in
/-- drop -/
theorem k_MD_drop (l : Launch) (D : va_G) (cI cJ : ClassId) (w0 : Nat) (w1 : Nat) (w2 : Nat) (w3 : Nat) (w4 : Nat) (w5 : Nat) (w6 : Nat) (w7 : Nat) (w8 : Nat) (w9 : Nat) (w10 : Nat) (w11 : Nat) (w12 : Nat) (w13 : Nat) (w14 : Nat) (yt : Int32) (te : Int32) (nt : Int32) (wb : Int32) (rc : Int32) (fp : Int32) (ft : Int32) (th : Int32) (fi : Nat → Int32) (x : Int32) (y : Int32) (sz : Nat)  : Met l y_MD_drop ws_MD_drop ({ frames := 2, cells := 0, slots := 0, locals := 43 } : Room) (va_Pc [.ref w0, .int x, .int y] (Pw D cI cJ [(w0, .inr (5, [.ref w1, .ref w2, .int yt, .int te, .ref w3, .ref w4, .ref w5, .int nt, .int wb, .ref w6, .ref w7, .ref w8, .int rc, .ref w9, .ref w10, .ref w11, .ref w12, .ref w13, .ref w14, .int fp, .int ft, .int th])), (w3, .inl (cI, 1600, .inl fi))] sz)) (va_Qi (fun (r : Int32) (u9 : (Nat → Int32) × Int32 × Int32 × Int32) => (r, u9) = mdV fi nt wb x y) (fun u9 t9 => Bw D (va_A [(w0, .inr (5, [.ref w1, .ref w2, .int yt, .int te, .ref w3, .ref w4, .ref w5, .int nt, .int wb, .ref w6, .ref w7, .ref w8, .int rc, .ref w9, .ref w10, .ref w11, .ref w12, .ref w13, .ref w14, .int fp, .int ft, .int th])), (w3, .inl (cI, 1600, .inl fi))] sz) [(w0, .inr (5, [.ref w1, .ref w2, .int yt, .int te, .ref w3, .ref w4, .ref w5, .int u9.2.1, .int u9.2.2.1, .ref w6, .ref w7, .ref w8, .int rc, .ref w9, .ref w10, .ref w11, .ref w12, .ref w13, .ref w14, .int fp, .int ft, .int u9.2.2.2])), (w3, .inl (cI, 1600, .inl u9.1))] t9) (va_A [(w0, .inr (5, [.ref w1, .ref w2, .int yt, .int te, .ref w3, .ref w4, .ref w5, .int nt, .int wb, .ref w6, .ref w7, .ref w8, .int rc, .ref w9, .ref w10, .ref w11, .ref w12, .ref w13, .ref w14, .int fp, .int ft, .int th])), (w3, .inl (cI, 1600, .inl fi))] sz)) 0 0 (va_A [(w0, .inr (5, [.ref w1, .ref w2, .int yt, .int te, .ref w3, .ref w4, .ref w5, .int nt, .int wb, .ref w6, .ref w7, .ref w8, .int rc, .ref w9, .ref w10, .ref w11, .ref w12, .ref w13, .ref w14, .int fp, .int ft, .int th])), (w3, .inl (cI, 1600, .inl fi))] sz) := by
  refine Met.ofW (cc := c_MD_drop) (maxL := 5) (ret := (some .int)) (by decide) rfl ?_
  intro p e s m args below meth c s₁ B hml hv
  obtain ⟨rfl, hsz, hE, hP, hD0, hX⟩ := hv
  have hx := B.exec
  have hb := B.bytes
  have hr := B.returns
  have hw : ∀ w ∈ gw, w.before _ s = true := fun w h => atoms_spec (ws := ws_MD_drop) B.pre w (List.mem_cons_of_mem _ h)
  have hown : s.vm.findClass R_MD = some m.cls := findClass_of_methodNamed B.named
  have hlocks := B.notSynchronized
  subst hsz
  have hD := hD0.self (sz := s.heap.size)
  generalize hAe : va_A [(w0, .inr (5, [.ref w1, .ref w2, .int yt, .int te, .ref w3, .ref w4, .ref w5, .int nt, .int wb, .ref w6, .ref w7, .ref w8, .int rc, .ref w9, .ref w10, .ref w11, .ref w12, .ref w13, .ref w14, .int fp, .int ft, .int th])), (w3, .inl (cI, 1600, .inl fi))] s.heap.size = A at hD hX ⊢
  have hA : ∀ q : Nat, s.heap.size ≤ q → A q := fun q h => by rw [← hAe]; exact Or.inr h
  have hS : va_S A s.heap s.heap [] := va_S.rf
  have hP : va_P D vwCl [(w0, .inr (5, [.ref w1, .ref w2, .int yt, .int te, .ref w3, .ref w4, .ref w5, .int nt, .int wb, .ref w6, .ref w7, .ref w8, .int rc, .ref w9, .ref w10, .ref w11, .ref w12, .ref w13, .ref w14, .int fp, .int ft, .int th])), (w3, .inl (cI, 1600, .inl fi))] s.heap := hP
  have hl := lv_entry ([.ref w0, .int x, .int y]) (n := 5) (Nat.le_of_ble_eq_true rfl)
  rw [lg_entry_eq]
  generalize (lg_sl ([.ref w0, .int x, .int y]) ++ List.replicate (5 - (lg_sl ([.ref w0, .int x, .int y])).length) Slot.unset).toArray = ls at hl ⊢
  have hl : lv_has ls 5 [(0, .ref w0), (1, .int x), (2, .int y)] := hl
  refine lv_aload_n hx hb d_MD_drop_0 rfl (lv_at hl 0 rfl) ?_
  refine lv_iload_n hx hb d_MD_drop_1 rfl (lv_at hl 1 rfl) ?_
  refine lv_iload_n hx hb d_MD_drop_2 rfl (lv_at hl 2 rfl) ?_
  refine vp_callSi (va_Run.run (va_runS (As := [.int x, .int y]) (rest := [.ref w0]) ⟨hx, hb, hml, hown, hw⟩ (k_MD_isPlace l D cI cJ x y) (va_cwS 2 hw (gS kw_859 kw_860 kw_45 kw_861) rfl rfl rfl (by decide +kernel) ⟨Nat.le_of_ble_eq_true rfl, Nat.le_of_ble_eq_true rfl⟩) (pre_Sp (wc := []) hE hX hP hS [] rfl) rfl rfl hl.1 rfl (lv_room (Nat.le_of_ble_eq_true rfl)) d_MD_drop_3 ⟨Nat.le_of_ble_eq_true rfl, Nat.le_of_ble_eq_true rfl⟩)) (fun r_1 hr_1 => ?_)
  obtain rfl : nI (isP x y) = r_1 := hr_1.symm
  refine jn_if_ne (tgt := 13) (a := (isP x y)) hx hb d_MD_drop_6 (by decide) (by have := isP_le x y; omega) (fun c_6 => ?_) (fun c_6 => ?_)
  · skip
    refine lv_iconst (v := nI 0) hx hb d_MD_drop_13 (by decide +kernel) ?_
    refine lv_iconst (v := nI 1) hx hb d_MD_drop_14 (by decide +kernel) ?_
    refine cl_i (wr := [(w3, .inl (cI, 1600, .inl fi))]) (va_runV (As := [.int (nI 0), .int (nI 1)]) (rest := []) ⟨hx, hb, hml, hown, hw⟩ (k_MD_fails l D cI cJ w0 w1 w2 w3 w4 w5 w6 w7 w8 w9 w10 w11 w12 w13 w14 yt te nt wb rc fp ft th 0 1 _ (by omega)) (cwV 2 hw (gV kw_836 kw_838 kw_20 kw_45 kw_839) rfl rfl rfl (by decide +kernel) ⟨Nat.le_of_ble_eq_true rfl, Nat.le_of_ble_eq_true rfl⟩) (pre_Vw (wc := [(w0, .inr (5, [.ref w1, .ref w2, .int yt, .int te, .ref w3, .ref w4, .ref w5, .int nt, .int wb, .ref w6, .ref w7, .ref w8, .int rc, .ref w9, .ref w10, .ref w11, .ref w12, .ref w13, .ref w14, .int fp, .int ft, .int th]))]) (q0 := 0) hE hX hA hP hD hS [0] (by decide) rfl rfl rfl rfl) rfl rfl hl.1 rfl (lv_room (Nat.le_of_ble_eq_true rfl)) d_MD_drop_15 ⟨Nat.le_of_ble_eq_true rfl, Nat.le_of_ble_eq_true rfl⟩) hP hD hS hA [0] [1] rfl rfl (by decide) (by decide) (fun r_2 u_r_2 H locs hr_2 hP hD hS => ?_)
    obtain rfl : nI 0 = r_2 := hr_2.symm
    have hP : va_P D vwCl [(w3, .inl (cI, 1600, .inl fi)), (w0, .inr (5, [.ref w1, .ref w2, .int yt, .int te, .ref w3, .ref w4, .ref w5, .int nt, .int wb, .ref w6, .ref w7, .ref w8, .int rc, .ref w9, .ref w10, .ref w11, .ref w12, .ref w13, .ref w14, .int fp, .int ft, .int (nI (flN 0 1))]))] H := hP
    have hD : va_D A [(w3, .inl (cI, 1600, .inl fi)), (w0, .inr (5, [.ref w1, .ref w2, .int yt, .int te, .ref w3, .ref w4, .ref w5, .int nt, .int wb, .ref w6, .ref w7, .ref w8, .int rc, .ref w9, .ref w10, .ref w11, .ref w12, .ref w13, .ref w14, .int fp, .int ft, .int (nI (flN 0 1))]))] := hD
    refine jn_if_eq (tgt := 23) (a := 0) hx hb d_MD_drop_18 (by decide) (by decide) (fun _ => ?_) (fun c9 => absurd c9 (by decide))
    obtain ⟨a9, b9, ha9, hb9, hxe, hye⟩ := isP_nat c_6
    subst hxe
    subst hye
    refine lv_bipush (v := nI 40) hx hb d_MD_drop_23 (by decide +kernel) ?_
    refine lv_iload_n hx hb d_MD_drop_25 rfl (lv_at hl 2 rfl) ?_
    refine jn_imul (a := 40) (b := b9) hx hb d_MD_drop_26 ?_
    refine lv_iload_n hx hb d_MD_drop_27 rfl (lv_at hl 1 rfl) ?_
    refine jn_iadd (a := (40 * b9)) (b := a9) hx hb d_MD_drop_28 ?_
    refine lv_istore_n (lv' := [(3, .int (nI ((40 * b9) + a9))), (0, .ref w0), (1, .int (nI a9)), (2, .int (nI b9))]) hx hb d_MD_drop_29 rfl hl (by decide) rfl (fun ls hl => ?_)
    refine lv_aload_n hx hb d_MD_drop_30 rfl (lv_at hl 1 rfl) ?_
    refine va_get (D := D) (ci := 5) (v := .ref w3) (C := R_MD) (T := T_MD) (N := 22) hx hb hw in_MD hown hE.1 hP 1 rfl rfl 4 (by decide) (hw _ kw_765) (fun _ h9 => h9) rfl d_MD_drop_31 ?_
    refine lv_iload_n hx hb d_MD_drop_34 rfl (lv_at hl 0 rfl) ?_
    refine jn_iald (k := ((40 * b9) + a9)) hx hb hE.1 hP 0 0 rfl rfl (by omega) (by omega) d_MD_drop_35 ?_
    refine lv_istore (lv' := [(4, .int (fi ((40 * b9) + a9))), (3, .int (nI ((40 * b9) + a9))), (0, .ref w0), (1, .int (nI a9)), (2, .int (nI b9))]) hx hb d_MD_drop_36 hl (by decide) rfl (fun ls hl => ?_)
    refine lv_aload_n hx hb d_MD_drop_38 rfl (lv_at hl 2 rfl) ?_
    refine va_get (D := D) (ci := 5) (v := .ref w3) (C := R_MD) (T := T_MD) (N := 22) hx hb hw in_MD hown hE.1 hP 1 rfl rfl 4 (by decide) (hw _ kw_765) (fun _ h9 => h9) rfl d_MD_drop_39 ?_
    refine lv_iload_n hx hb d_MD_drop_42 rfl (lv_at hl 1 rfl) ?_
    refine lv_iconst (v := nI 0) hx hb d_MD_drop_43 (by decide +kernel) ?_
    refine jn_iast (k := ((40 * b9) + a9)) hx hb hE.1 hP hD hS 0 0 rfl rfl (by omega) (by omega) d_MD_drop_44 (fun H locs hP hD hS => ?_)
    have hP : va_P D vwCl [(w3, .inl (cI, 1600, .inl (upd fi ((40 * b9) + a9) (nI 0)))), (w0, .inr (5, [.ref w1, .ref w2, .int yt, .int te, .ref w3, .ref w4, .ref w5, .int nt, .int wb, .ref w6, .ref w7, .ref w8, .int rc, .ref w9, .ref w10, .ref w11, .ref w12, .ref w13, .ref w14, .int fp, .int ft, .int (nI (flN 0 1))]))] H := hP
    have hD : va_D A [(w3, .inl (cI, 1600, .inl (upd fi ((40 * b9) + a9) (nI 0)))), (w0, .inr (5, [.ref w1, .ref w2, .int yt, .int te, .ref w3, .ref w4, .ref w5, .int nt, .int wb, .ref w6, .ref w7, .ref w8, .int rc, .ref w9, .ref w10, .ref w11, .ref w12, .ref w13, .ref w14, .int fp, .int ft, .int (nI (flN 0 1))]))] := hD
    refine lv_aload_n hx hb d_MD_drop_45 rfl (lv_at hl 2 rfl) ?_
    refine lv_dup hx hb d_MD_drop_46 rfl ?_
    refine va_get (D := D) (ci := 5) (v := .int nt) (C := R_MD) (T := T_MD) (N := 22) hx hb hw in_MD hown hE.1 hP 1 rfl rfl 7 (by decide) (hw _ kw_768) (fun _ h9 => h9) rfl d_MD_drop_47 ?_
    refine lv_iload hx hb d_MD_drop_50 (lv_at hl 0 rfl) ?_
    refine lv_if_le (tgt := 59) hx hb d_MD_drop_52 (by decide) (fun c_52 => ?_) (fun c_52 => ?_)
    · skip
      refine lv_iconst (v := nI 0) hx hb d_MD_drop_59 (by decide +kernel) ?_
      refine lv_isub hx hb d_MD_drop_60 ?_
      refine va_put (D := D) (ci := 5) (v := .int (nt - (nI 0))) (ty := .int) (C := R_MD) (T := T_MD) (N := 22) hx hb hw in_MD ty_MD ty_MD_ok nm_MD_ok hown hE.1 hP hD hS 1 rfl rfl 7 (by decide) (hw _ kw_768) (fun _ h9 => h9) rfl (by decide +kernel) rfl rfl (Nat.le_of_ble_eq_true rfl) d_MD_drop_61 (fun H locs hP hD hS => ?_)
      have hP : va_P D vwCl [(w3, .inl (cI, 1600, .inl (upd fi ((40 * b9) + a9) (nI 0)))), (w0, .inr (5, [.ref w1, .ref w2, .int yt, .int te, .ref w3, .ref w4, .ref w5, .int (nt - (nI 0)), .int wb, .ref w6, .ref w7, .ref w8, .int rc, .ref w9, .ref w10, .ref w11, .ref w12, .ref w13, .ref w14, .int fp, .int ft, .int (nI (flN 0 1))]))] H := hP
      have hD : va_D A [(w3, .inl (cI, 1600, .inl (upd fi ((40 * b9) + a9) (nI 0)))), (w0, .inr (5, [.ref w1, .ref w2, .int yt, .int te, .ref w3, .ref w4, .ref w5, .int (nt - (nI 0)), .int wb, .ref w6, .ref w7, .ref w8, .int rc, .ref w9, .ref w10, .ref w11, .ref w12, .ref w13, .ref w14, .int fp, .int ft, .int (nI (flN 0 1))]))] := hD
      refine lv_aload_n hx hb d_MD_drop_64 rfl (lv_at hl 2 rfl) ?_
      refine va_get (D := D) (ci := 5) (v := .int (nt - (nI 0))) (C := R_MD) (T := T_MD) (N := 22) hx hb hw in_MD hown hE.1 hP 1 rfl rfl 7 (by decide) (hw _ kw_768) (fun _ h9 => h9) rfl d_MD_drop_65 ?_
      refine lv_if_ne (tgt := 76) hx hb d_MD_drop_68 (by decide) (fun c_68 => ?_) (fun c_68 => ?_)
      · skip
        refine lv_iload hx hb d_MD_drop_76 (lv_at hl 0 rfl) ?_
        have hP9 := hP.sub (ws' := [(w0, .inr (5, [.ref w1, .ref w2, .int yt, .int te, .ref w3, .ref w4, .ref w5, .int (nt - (nI 0)), .int wb, .ref w6, .ref w7, .ref w8, .int rc, .ref w9, .ref w10, .ref w11, .ref w12, .ref w13, .ref w14, .int fp, .int ft, .int (nI (flN 0 1))])), (w3, .inl (cI, 1600, .inl (upd fi ((40 * b9) + a9) (nI 0))))]) [1, 0] rfl
        have hD9 := hD.sub (ws' := [(w0, .inr (5, [.ref w1, .ref w2, .int yt, .int te, .ref w3, .ref w4, .ref w5, .int (nt - (nI 0)), .int wb, .ref w6, .ref w7, .ref w8, .int rc, .ref w9, .ref w10, .ref w11, .ref w12, .ref w13, .ref w14, .int fp, .int ft, .int (nI (flN 0 1))])), (w3, .inl (cI, 1600, .inl (upd fi ((40 * b9) + a9) (nI 0))))]) [1, 0] (by decide) rfl
        exact W.iret (v := fi ((40 * b9) + a9)) hx hb hr (fun t9 ht hW => ⟨⟨_, (upd fi (40 * b9 + a9) (nI 0), nt - nI 0, wb, nI 0), rfl, (by unfold mdV; rw [nn_nI (show a9 < 2 ^ 31 by omega), nn_nI (show b9 < 2 ^ 31 by omega), if_neg c_6, if_pos c_52, if_neg c_68]; try rfl), ⟨by rw [ht]; exact hP9, hD9⟩⟩, hS.F ht⟩) hS.2.2 d_MD_drop_78
      · skip
        refine lv_aload_n hx hb d_MD_drop_71 rfl (lv_at hl 2 rfl) ?_
        refine lv_iconst (v := nI 0) hx hb d_MD_drop_72 (by decide +kernel) ?_
        refine va_put (D := D) (ci := 5) (v := .int (nI 0)) (ty := .boolean) (C := R_MD) (T := T_MD) (N := 22) hx hb hw in_MD ty_MD ty_MD_ok nm_MD_ok hown hE.1 hP hD hS 1 rfl rfl 8 (by decide) (hw _ kw_769) (fun _ h9 => h9) rfl (by decide +kernel) (by decide +kernel) (by decide +kernel) (Nat.le_of_ble_eq_true rfl) d_MD_drop_73 (fun H locs hP hD hS => ?_)
        have hP : va_P D vwCl [(w3, .inl (cI, 1600, .inl (upd fi ((40 * b9) + a9) (nI 0)))), (w0, .inr (5, [.ref w1, .ref w2, .int yt, .int te, .ref w3, .ref w4, .ref w5, .int (nt - (nI 0)), .int (nI 0), .ref w6, .ref w7, .ref w8, .int rc, .ref w9, .ref w10, .ref w11, .ref w12, .ref w13, .ref w14, .int fp, .int ft, .int (nI (flN 0 1))]))] H := hP
        have hD : va_D A [(w3, .inl (cI, 1600, .inl (upd fi ((40 * b9) + a9) (nI 0)))), (w0, .inr (5, [.ref w1, .ref w2, .int yt, .int te, .ref w3, .ref w4, .ref w5, .int (nt - (nI 0)), .int (nI 0), .ref w6, .ref w7, .ref w8, .int rc, .ref w9, .ref w10, .ref w11, .ref w12, .ref w13, .ref w14, .int fp, .int ft, .int (nI (flN 0 1))]))] := hD
        refine lv_iload hx hb d_MD_drop_76 (lv_at hl 0 rfl) ?_
        have hP9 := hP.sub (ws' := [(w0, .inr (5, [.ref w1, .ref w2, .int yt, .int te, .ref w3, .ref w4, .ref w5, .int (nt - (nI 0)), .int (nI 0), .ref w6, .ref w7, .ref w8, .int rc, .ref w9, .ref w10, .ref w11, .ref w12, .ref w13, .ref w14, .int fp, .int ft, .int (nI (flN 0 1))])), (w3, .inl (cI, 1600, .inl (upd fi ((40 * b9) + a9) (nI 0))))]) [1, 0] rfl
        have hD9 := hD.sub (ws' := [(w0, .inr (5, [.ref w1, .ref w2, .int yt, .int te, .ref w3, .ref w4, .ref w5, .int (nt - (nI 0)), .int (nI 0), .ref w6, .ref w7, .ref w8, .int rc, .ref w9, .ref w10, .ref w11, .ref w12, .ref w13, .ref w14, .int fp, .int ft, .int (nI (flN 0 1))])), (w3, .inl (cI, 1600, .inl (upd fi ((40 * b9) + a9) (nI 0))))]) [1, 0] (by decide) rfl
        exact W.iret (v := fi ((40 * b9) + a9)) hx hb hr (fun t9 ht hW => ⟨⟨_, (upd fi (40 * b9 + a9) (nI 0), nt - nI 0, nI 0, nI 0), rfl, (by unfold mdV; rw [nn_nI (show a9 < 2 ^ 31 by omega), nn_nI (show b9 < 2 ^ 31 by omega), if_neg c_6, if_pos c_52, if_pos c_68]; try rfl), ⟨by rw [ht]; exact hP9, hD9⟩⟩, hS.F ht⟩) hS.2.2 d_MD_drop_78
    · skip
      refine lv_iconst (v := nI 1) hx hb d_MD_drop_55 (by decide +kernel) ?_
      refine lv_goto (tgt := 60) hx hb d_MD_drop_56 (by decide) ?_
      refine lv_isub hx hb d_MD_drop_60 ?_
      refine va_put (D := D) (ci := 5) (v := .int (nt - (nI 1))) (ty := .int) (C := R_MD) (T := T_MD) (N := 22) hx hb hw in_MD ty_MD ty_MD_ok nm_MD_ok hown hE.1 hP hD hS 1 rfl rfl 7 (by decide) (hw _ kw_768) (fun _ h9 => h9) rfl (by decide +kernel) rfl rfl (Nat.le_of_ble_eq_true rfl) d_MD_drop_61 (fun H locs hP hD hS => ?_)
      have hP : va_P D vwCl [(w3, .inl (cI, 1600, .inl (upd fi ((40 * b9) + a9) (nI 0)))), (w0, .inr (5, [.ref w1, .ref w2, .int yt, .int te, .ref w3, .ref w4, .ref w5, .int (nt - (nI 1)), .int wb, .ref w6, .ref w7, .ref w8, .int rc, .ref w9, .ref w10, .ref w11, .ref w12, .ref w13, .ref w14, .int fp, .int ft, .int (nI (flN 0 1))]))] H := hP
      have hD : va_D A [(w3, .inl (cI, 1600, .inl (upd fi ((40 * b9) + a9) (nI 0)))), (w0, .inr (5, [.ref w1, .ref w2, .int yt, .int te, .ref w3, .ref w4, .ref w5, .int (nt - (nI 1)), .int wb, .ref w6, .ref w7, .ref w8, .int rc, .ref w9, .ref w10, .ref w11, .ref w12, .ref w13, .ref w14, .int fp, .int ft, .int (nI (flN 0 1))]))] := hD
      refine lv_aload_n hx hb d_MD_drop_64 rfl (lv_at hl 2 rfl) ?_
      refine va_get (D := D) (ci := 5) (v := .int (nt - (nI 1))) (C := R_MD) (T := T_MD) (N := 22) hx hb hw in_MD hown hE.1 hP 1 rfl rfl 7 (by decide) (hw _ kw_768) (fun _ h9 => h9) rfl d_MD_drop_65 ?_
      refine lv_if_ne (tgt := 76) hx hb d_MD_drop_68 (by decide) (fun c_68 => ?_) (fun c_68 => ?_)
      · skip
        refine lv_iload hx hb d_MD_drop_76 (lv_at hl 0 rfl) ?_
        have hP9 := hP.sub (ws' := [(w0, .inr (5, [.ref w1, .ref w2, .int yt, .int te, .ref w3, .ref w4, .ref w5, .int (nt - (nI 1)), .int wb, .ref w6, .ref w7, .ref w8, .int rc, .ref w9, .ref w10, .ref w11, .ref w12, .ref w13, .ref w14, .int fp, .int ft, .int (nI (flN 0 1))])), (w3, .inl (cI, 1600, .inl (upd fi ((40 * b9) + a9) (nI 0))))]) [1, 0] rfl
        have hD9 := hD.sub (ws' := [(w0, .inr (5, [.ref w1, .ref w2, .int yt, .int te, .ref w3, .ref w4, .ref w5, .int (nt - (nI 1)), .int wb, .ref w6, .ref w7, .ref w8, .int rc, .ref w9, .ref w10, .ref w11, .ref w12, .ref w13, .ref w14, .int fp, .int ft, .int (nI (flN 0 1))])), (w3, .inl (cI, 1600, .inl (upd fi ((40 * b9) + a9) (nI 0))))]) [1, 0] (by decide) rfl
        exact W.iret (v := fi ((40 * b9) + a9)) hx hb hr (fun t9 ht hW => ⟨⟨_, (upd fi (40 * b9 + a9) (nI 0), nt - nI 1, wb, nI 0), rfl, (by unfold mdV; rw [nn_nI (show a9 < 2 ^ 31 by omega), nn_nI (show b9 < 2 ^ 31 by omega), if_neg c_6, if_neg c_52, if_neg c_68]; try rfl), ⟨by rw [ht]; exact hP9, hD9⟩⟩, hS.F ht⟩) hS.2.2 d_MD_drop_78
      · skip
        refine lv_aload_n hx hb d_MD_drop_71 rfl (lv_at hl 2 rfl) ?_
        refine lv_iconst (v := nI 0) hx hb d_MD_drop_72 (by decide +kernel) ?_
        refine va_put (D := D) (ci := 5) (v := .int (nI 0)) (ty := .boolean) (C := R_MD) (T := T_MD) (N := 22) hx hb hw in_MD ty_MD ty_MD_ok nm_MD_ok hown hE.1 hP hD hS 1 rfl rfl 8 (by decide) (hw _ kw_769) (fun _ h9 => h9) rfl (by decide +kernel) (by decide +kernel) (by decide +kernel) (Nat.le_of_ble_eq_true rfl) d_MD_drop_73 (fun H locs hP hD hS => ?_)
        have hP : va_P D vwCl [(w3, .inl (cI, 1600, .inl (upd fi ((40 * b9) + a9) (nI 0)))), (w0, .inr (5, [.ref w1, .ref w2, .int yt, .int te, .ref w3, .ref w4, .ref w5, .int (nt - (nI 1)), .int (nI 0), .ref w6, .ref w7, .ref w8, .int rc, .ref w9, .ref w10, .ref w11, .ref w12, .ref w13, .ref w14, .int fp, .int ft, .int (nI (flN 0 1))]))] H := hP
        have hD : va_D A [(w3, .inl (cI, 1600, .inl (upd fi ((40 * b9) + a9) (nI 0)))), (w0, .inr (5, [.ref w1, .ref w2, .int yt, .int te, .ref w3, .ref w4, .ref w5, .int (nt - (nI 1)), .int (nI 0), .ref w6, .ref w7, .ref w8, .int rc, .ref w9, .ref w10, .ref w11, .ref w12, .ref w13, .ref w14, .int fp, .int ft, .int (nI (flN 0 1))]))] := hD
        refine lv_iload hx hb d_MD_drop_76 (lv_at hl 0 rfl) ?_
        have hP9 := hP.sub (ws' := [(w0, .inr (5, [.ref w1, .ref w2, .int yt, .int te, .ref w3, .ref w4, .ref w5, .int (nt - (nI 1)), .int (nI 0), .ref w6, .ref w7, .ref w8, .int rc, .ref w9, .ref w10, .ref w11, .ref w12, .ref w13, .ref w14, .int fp, .int ft, .int (nI (flN 0 1))])), (w3, .inl (cI, 1600, .inl (upd fi ((40 * b9) + a9) (nI 0))))]) [1, 0] rfl
        have hD9 := hD.sub (ws' := [(w0, .inr (5, [.ref w1, .ref w2, .int yt, .int te, .ref w3, .ref w4, .ref w5, .int (nt - (nI 1)), .int (nI 0), .ref w6, .ref w7, .ref w8, .int rc, .ref w9, .ref w10, .ref w11, .ref w12, .ref w13, .ref w14, .int fp, .int ft, .int (nI (flN 0 1))])), (w3, .inl (cI, 1600, .inl (upd fi ((40 * b9) + a9) (nI 0))))]) [1, 0] (by decide) rfl
        exact W.iret (v := fi ((40 * b9) + a9)) hx hb hr (fun t9 ht hW => ⟨⟨_, (upd fi (40 * b9 + a9) (nI 0), nt - nI 1, nI 0, nI 0), rfl, (by unfold mdV; rw [nn_nI (show a9 < 2 ^ 31 by omega), nn_nI (show b9 < 2 ^ 31 by omega), if_neg c_6, if_neg c_52, if_pos c_68]; try rfl), ⟨by rw [ht]; exact hP9, hD9⟩⟩, hS.F ht⟩) hS.2.2 d_MD_drop_78
  · skip
    refine lv_iconst (v := nI 1) hx hb d_MD_drop_9 (by decide +kernel) ?_
    refine lv_goto (tgt := 14) hx hb d_MD_drop_10 (by decide) ?_
    refine lv_iconst (v := nI 1) hx hb d_MD_drop_14 (by decide +kernel) ?_
    refine cl_i (wr := [(w3, .inl (cI, 1600, .inl fi))]) (va_runV (As := [.int (nI 1), .int (nI 1)]) (rest := []) ⟨hx, hb, hml, hown, hw⟩ (k_MD_fails l D cI cJ w0 w1 w2 w3 w4 w5 w6 w7 w8 w9 w10 w11 w12 w13 w14 yt te nt wb rc fp ft th 1 1 _ (by omega)) (cwV 2 hw (gV kw_836 kw_838 kw_20 kw_45 kw_839) rfl rfl rfl (by decide +kernel) ⟨Nat.le_of_ble_eq_true rfl, Nat.le_of_ble_eq_true rfl⟩) (pre_Vw (wc := [(w0, .inr (5, [.ref w1, .ref w2, .int yt, .int te, .ref w3, .ref w4, .ref w5, .int nt, .int wb, .ref w6, .ref w7, .ref w8, .int rc, .ref w9, .ref w10, .ref w11, .ref w12, .ref w13, .ref w14, .int fp, .int ft, .int th]))]) (q0 := 0) hE hX hA hP hD hS [0] (by decide) rfl rfl rfl rfl) rfl rfl hl.1 rfl (lv_room (Nat.le_of_ble_eq_true rfl)) d_MD_drop_15 ⟨Nat.le_of_ble_eq_true rfl, Nat.le_of_ble_eq_true rfl⟩) hP hD hS hA [0] [1] rfl rfl (by decide) (by decide) (fun r_3 u_r_3 H locs hr_3 hP hD hS => ?_)
    obtain rfl : nI 1 = r_3 := hr_3.symm
    have hP : va_P D vwCl [(w3, .inl (cI, 1600, .inl fi)), (w0, .inr (5, [.ref w1, .ref w2, .int yt, .int te, .ref w3, .ref w4, .ref w5, .int nt, .int wb, .ref w6, .ref w7, .ref w8, .int rc, .ref w9, .ref w10, .ref w11, .ref w12, .ref w13, .ref w14, .int fp, .int ft, .int (nI (flN 1 1))]))] H := hP
    have hD : va_D A [(w3, .inl (cI, 1600, .inl fi)), (w0, .inr (5, [.ref w1, .ref w2, .int yt, .int te, .ref w3, .ref w4, .ref w5, .int nt, .int wb, .ref w6, .ref w7, .ref w8, .int rc, .ref w9, .ref w10, .ref w11, .ref w12, .ref w13, .ref w14, .int fp, .int ft, .int (nI (flN 1 1))]))] := hD
    refine jn_if_eq (tgt := 23) (a := 1) hx hb d_MD_drop_18 (by decide) (by decide) (fun c9 => absurd c9 (by decide)) (fun _ => ?_)
    refine lv_iconst (v := nI 0) hx hb d_MD_drop_21 (by decide +kernel) ?_
    have hP9 := hP.sub (ws' := [(w0, .inr (5, [.ref w1, .ref w2, .int yt, .int te, .ref w3, .ref w4, .ref w5, .int nt, .int wb, .ref w6, .ref w7, .ref w8, .int rc, .ref w9, .ref w10, .ref w11, .ref w12, .ref w13, .ref w14, .int fp, .int ft, .int (nI (flN 1 1))])), (w3, .inl (cI, 1600, .inl fi))]) [1, 0] rfl
    have hD9 := hD.sub (ws' := [(w0, .inr (5, [.ref w1, .ref w2, .int yt, .int te, .ref w3, .ref w4, .ref w5, .int nt, .int wb, .ref w6, .ref w7, .ref w8, .int rc, .ref w9, .ref w10, .ref w11, .ref w12, .ref w13, .ref w14, .int fp, .int ft, .int (nI (flN 1 1))])), (w3, .inl (cI, 1600, .inl fi))]) [1, 0] (by decide) rfl
    exact W.iret (v := nI 0) hx hb hr (fun t9 ht hW => ⟨⟨_, (fi, nt, wb, nI 1), rfl, (by unfold mdV; rw [if_pos c_6]), ⟨by rw [ht]; exact hP9, hD9⟩⟩, hS.F ht⟩) hS.2.2 d_MD_drop_22
set_option maxHeartbeats 4000000 in
set_option maxRecDepth 100000 in
/-- tile -/
theorem k_MD_tile (l : Launch) (D : va_G) (cI cJ : ClassId) (w0 : Nat) (w1 : Nat) (w2 : Nat) (w3 : Nat) (w4 : Nat) (w5 : Nat) (w6 : Nat) (w7 : Nat) (w8 : Nat) (w9 : Nat) (w10 : Nat) (w11 : Nat) (w12 : Nat) (w13 : Nat) (w14 : Nat) (y : Nat) (te : Int32) (nt : Int32) (wb : Int32) (rc : Int32) (fp : Int32) (ft : Int32) (th : Int32) (gl : Nat → Int32) (x : Int32) (z : Int32) (v : Int32) (w : Int32) (sz : Nat) (hy : y ≤ 60) : Met l y_MD_tile ws_MD_tile ({ frames := 1, cells := 0, slots := 0, locals := 24 } : Room) (va_Pc [.ref w0, .int x, .int z, .int v, .int w] (Pw D cI cJ [(w0, .inr (5, [.ref w1, .ref w2, .int (nI y), .int te, .ref w3, .ref w4, .ref w5, .int nt, .int wb, .ref w6, .ref w7, .ref w8, .int rc, .ref w9, .ref w10, .ref w11, .ref w12, .ref w13, .ref w14, .int fp, .int ft, .int th])), (w2, .inl (cI, 244, .inl gl))] sz)) (va_Qi (fun (r : Int32) (u9 : (Nat → Int32) × Nat × Int32) => (r, u9) = mlV nt gl y x z v w) (fun u9 t9 => Bw D (va_A [(w0, .inr (5, [.ref w1, .ref w2, .int (nI y), .int te, .ref w3, .ref w4, .ref w5, .int nt, .int wb, .ref w6, .ref w7, .ref w8, .int rc, .ref w9, .ref w10, .ref w11, .ref w12, .ref w13, .ref w14, .int fp, .int ft, .int th])), (w2, .inl (cI, 244, .inl gl))] sz) [(w0, .inr (5, [.ref w1, .ref w2, .int (nI u9.2.1), .int te, .ref w3, .ref w4, .ref w5, .int nt, .int wb, .ref w6, .ref w7, .ref w8, .int rc, .ref w9, .ref w10, .ref w11, .ref w12, .ref w13, .ref w14, .int fp, .int ft, .int u9.2.2])), (w2, .inl (cI, 244, .inl u9.1))] t9) (va_A [(w0, .inr (5, [.ref w1, .ref w2, .int (nI y), .int te, .ref w3, .ref w4, .ref w5, .int nt, .int wb, .ref w6, .ref w7, .ref w8, .int rc, .ref w9, .ref w10, .ref w11, .ref w12, .ref w13, .ref w14, .int fp, .int ft, .int th])), (w2, .inl (cI, 244, .inl gl))] sz)) 0 0 (va_A [(w0, .inr (5, [.ref w1, .ref w2, .int (nI y), .int te, .ref w3, .ref w4, .ref w5, .int nt, .int wb, .ref w6, .ref w7, .ref w8, .int rc, .ref w9, .ref w10, .ref w11, .ref w12, .ref w13, .ref w14, .int fp, .int ft, .int th])), (w2, .inl (cI, 244, .inl gl))] sz) := by
  refine Met.ofW (cc := c_MD_tile) (maxL := 6) (ret := (some .int)) (by decide) rfl ?_
  intro p e s m args below meth c s₁ B hml hv
  obtain ⟨rfl, hsz, hE, hP, hD0, hX⟩ := hv
  have hx := B.exec
  have hb := B.bytes
  have hr := B.returns
  have hw : ∀ w ∈ gw, w.before _ s = true := fun w h => atoms_spec (ws := ws_MD_tile) B.pre w (List.mem_cons_of_mem _ h)
  have hown : s.vm.findClass R_MD = some m.cls := findClass_of_methodNamed B.named
  have hlocks := B.notSynchronized
  subst hsz
  have hD := hD0.self (sz := s.heap.size)
  generalize hAe : va_A [(w0, .inr (5, [.ref w1, .ref w2, .int (nI y), .int te, .ref w3, .ref w4, .ref w5, .int nt, .int wb, .ref w6, .ref w7, .ref w8, .int rc, .ref w9, .ref w10, .ref w11, .ref w12, .ref w13, .ref w14, .int fp, .int ft, .int th])), (w2, .inl (cI, 244, .inl gl))] s.heap.size = A at hD hX ⊢
  have hA : ∀ q : Nat, s.heap.size ≤ q → A q := fun q h => by rw [← hAe]; exact Or.inr h
  have hS : va_S A s.heap s.heap [] := va_S.rf
  have hP : va_P D vwCl [(w0, .inr (5, [.ref w1, .ref w2, .int (nI y), .int te, .ref w3, .ref w4, .ref w5, .int nt, .int wb, .ref w6, .ref w7, .ref w8, .int rc, .ref w9, .ref w10, .ref w11, .ref w12, .ref w13, .ref w14, .int fp, .int ft, .int th])), (w2, .inl (cI, 244, .inl gl))] s.heap := hP
  have hl := lv_entry ([.ref w0, .int x, .int z, .int v, .int w]) (n := 6) (Nat.le_of_ble_eq_true rfl)
  rw [lg_entry_eq]
  generalize (lg_sl ([.ref w0, .int x, .int z, .int v, .int w]) ++ List.replicate (6 - (lg_sl ([.ref w0, .int x, .int z, .int v, .int w])).length) Slot.unset).toArray = ls at hl ⊢
  have hl : lv_has ls 6 [(0, .ref w0), (1, .int x), (2, .int z), (3, .int v), (4, .int w)] := hl
  refine lv_iload_n hx hb d_MD_tile_0 rfl (lv_at hl 1 rfl) ?_
  refine lv_iconst (v := nI 0) hx hb d_MD_tile_1 (by decide +kernel) ?_
  refine lv_bipush (v := nI 99) hx hb d_MD_tile_2 (by decide +kernel) ?_
  refine vp_callSi (va_Run.run (va_runS (As := [.int x, .int (nI 0), .int (nI 99)]) (rest := []) ⟨hx, hb, hml, hown, hw⟩ (k_MD_within l D cI cJ x (nI 0) (nI 99)) (va_cwS 3 hw (gS kw_840 kw_841 kw_45 kw_842) rfl rfl rfl (by decide +kernel) ⟨Nat.le_of_ble_eq_true rfl, Nat.le_of_ble_eq_true rfl⟩) (pre_Sp (wc := []) hE hX hP hS [] rfl) rfl rfl hl.1 rfl (lv_room (Nat.le_of_ble_eq_true rfl)) d_MD_tile_4 ⟨Nat.le_of_ble_eq_true rfl, Nat.le_of_ble_eq_true rfl⟩)) (fun r_1 hr_1 => ?_)
  obtain rfl : nI (wiN x (nI 0) (nI 99)) = r_1 := hr_1.symm
  refine jn_if_eq (tgt := 45) (a := (wiN x (nI 0) (nI 99))) hx hb d_MD_tile_7 (by decide) (by have := wiN_le x (nI 0) (nI 99); omega) (fun c_7 => ?_) (fun c_7 => ?_)
  · skip
    refine lv_iconst (v := nI 0) hx hb d_MD_tile_45 (by decide +kernel) ?_
    refine lv_istore (lv' := [(5, .int (nI 0)), (0, .ref w0), (1, .int x), (2, .int z), (3, .int v), (4, .int w)]) hx hb d_MD_tile_46 hl (by decide) rfl (fun ls hl => ?_)
    refine lv_aload_n hx hb d_MD_tile_48 rfl (lv_at hl 1 rfl) ?_
    refine lv_aload_n hx hb d_MD_tile_49 rfl (lv_at hl 1 rfl) ?_
    refine va_get (D := D) (ci := 5) (v := .int nt) (C := R_MD) (T := T_MD) (N := 22) hx hb hw in_MD hown hE.1 hP 0 rfl rfl 7 (by decide) (hw _ kw_768) (fun _ h9 => h9) rfl d_MD_tile_50 ?_
    refine lv_if_le (tgt := 60) hx hb d_MD_tile_53 (by decide) (fun c_53 => ?_) (fun c_53 => ?_)
    · skip
      refine lv_iconst (v := nI 0) hx hb d_MD_tile_60 (by decide +kernel) ?_
      refine lv_iconst (v := nI 1) hx hb d_MD_tile_61 (by decide +kernel) ?_
      refine cl_i (wr := [(w2, .inl (cI, 244, .inl gl))]) (va_runV (As := [.int (nI 0), .int (nI 1)]) (rest := []) ⟨hx, hb, hml, hown, hw⟩ (k_MD_fails l D cI cJ w0 w1 w2 w3 w4 w5 w6 w7 w8 w9 w10 w11 w12 w13 w14 (nI y) te nt wb rc fp ft th 0 1 _ (by omega)) (cwV 2 hw (gV kw_836 kw_838 kw_20 kw_45 kw_839) rfl rfl rfl (by decide +kernel) ⟨Nat.le_of_ble_eq_true rfl, Nat.le_of_ble_eq_true rfl⟩) (pre_Vw (wc := [(w0, .inr (5, [.ref w1, .ref w2, .int (nI y), .int te, .ref w3, .ref w4, .ref w5, .int nt, .int wb, .ref w6, .ref w7, .ref w8, .int rc, .ref w9, .ref w10, .ref w11, .ref w12, .ref w13, .ref w14, .int fp, .int ft, .int th]))]) (q0 := 0) hE hX hA hP hD hS [0] (by decide) rfl rfl rfl rfl) rfl rfl hl.1 rfl (lv_room (Nat.le_of_ble_eq_true rfl)) d_MD_tile_62 ⟨Nat.le_of_ble_eq_true rfl, Nat.le_of_ble_eq_true rfl⟩) hP hD hS hA [0] [1] rfl rfl (by decide) (by decide) (fun r_2 u_r_2 H locs hr_2 hP hD hS => ?_)
      obtain rfl : nI 0 = r_2 := hr_2.symm
      have hP : va_P D vwCl [(w2, .inl (cI, 244, .inl gl)), (w0, .inr (5, [.ref w1, .ref w2, .int (nI y), .int te, .ref w3, .ref w4, .ref w5, .int nt, .int wb, .ref w6, .ref w7, .ref w8, .int rc, .ref w9, .ref w10, .ref w11, .ref w12, .ref w13, .ref w14, .int fp, .int ft, .int (nI (flN 0 1))]))] H := hP
      have hD : va_D A [(w2, .inl (cI, 244, .inl gl)), (w0, .inr (5, [.ref w1, .ref w2, .int (nI y), .int te, .ref w3, .ref w4, .ref w5, .int nt, .int wb, .ref w6, .ref w7, .ref w8, .int rc, .ref w9, .ref w10, .ref w11, .ref w12, .ref w13, .ref w14, .int fp, .int ft, .int (nI (flN 0 1))]))] := hD
      refine jn_if_ne (tgt := 108) (a := 0) hx hb d_MD_tile_65 (by decide) (by decide) (fun c9 => absurd c9 (by decide)) (fun _ => ?_)
      refine lv_aload_n hx hb d_MD_tile_68 rfl (lv_at hl 1 rfl) ?_
      refine lv_iload hx hb d_MD_tile_69 (lv_at hl 0 rfl) ?_
      refine jn_if_ne (tgt := 78) (a := 0) hx hb d_MD_tile_71 (by decide) (by decide) (fun c9 => absurd c9 (by decide)) (fun _ => ?_)
      refine lv_iconst (v := nI 1) hx hb d_MD_tile_74 (by decide +kernel) ?_
      refine lv_goto (tgt := 79) hx hb d_MD_tile_75 (by decide) ?_
      refine lv_iconst (v := nI 2) hx hb d_MD_tile_79 (by decide +kernel) ?_
      refine cl_i (wr := [(w2, .inl (cI, 244, .inl gl))]) (va_runV (As := [.int (nI 1), .int (nI 2)]) (rest := []) ⟨hx, hb, hml, hown, hw⟩ (k_MD_fails l D cI cJ w0 w1 w2 w3 w4 w5 w6 w7 w8 w9 w10 w11 w12 w13 w14 (nI y) te nt wb rc fp ft (nI (flN 0 1)) 1 2 _ (by omega)) (cwV 2 hw (gV kw_836 kw_838 kw_20 kw_45 kw_839) rfl rfl rfl (by decide +kernel) ⟨Nat.le_of_ble_eq_true rfl, Nat.le_of_ble_eq_true rfl⟩) (pre_Vw (wc := [(w0, .inr (5, [.ref w1, .ref w2, .int (nI y), .int te, .ref w3, .ref w4, .ref w5, .int nt, .int wb, .ref w6, .ref w7, .ref w8, .int rc, .ref w9, .ref w10, .ref w11, .ref w12, .ref w13, .ref w14, .int fp, .int ft, .int (nI (flN 0 1))]))]) (q0 := 0) hE hX hA hP hD hS [1] (by decide) rfl rfl rfl rfl) rfl rfl hl.1 rfl (lv_room (Nat.le_of_ble_eq_true rfl)) d_MD_tile_80 ⟨Nat.le_of_ble_eq_true rfl, Nat.le_of_ble_eq_true rfl⟩) hP hD hS hA [1] [0] rfl rfl (by decide) (by decide) (fun r_3 u_r_3 H locs hr_3 hP hD hS => ?_)
      obtain rfl : nI 1 = r_3 := hr_3.symm
      have hP : va_P D vwCl [(w2, .inl (cI, 244, .inl gl)), (w0, .inr (5, [.ref w1, .ref w2, .int (nI y), .int te, .ref w3, .ref w4, .ref w5, .int nt, .int wb, .ref w6, .ref w7, .ref w8, .int rc, .ref w9, .ref w10, .ref w11, .ref w12, .ref w13, .ref w14, .int fp, .int ft, .int (nI (flN 1 2))]))] H := hP
      have hD : va_D A [(w2, .inl (cI, 244, .inl gl)), (w0, .inr (5, [.ref w1, .ref w2, .int (nI y), .int te, .ref w3, .ref w4, .ref w5, .int nt, .int wb, .ref w6, .ref w7, .ref w8, .int rc, .ref w9, .ref w10, .ref w11, .ref w12, .ref w13, .ref w14, .int fp, .int ft, .int (nI (flN 1 2))]))] := hD
      refine jn_if_ne (tgt := 108) (a := 1) hx hb d_MD_tile_83 (by decide) (by decide) (fun _ => ?_) (fun c9 => absurd c9 (by decide))
      refine lv_iconst (v := nI 0) hx hb d_MD_tile_108 (by decide +kernel) ?_
      have hP9 := hP.sub (ws' := [(w0, .inr (5, [.ref w1, .ref w2, .int (nI y), .int te, .ref w3, .ref w4, .ref w5, .int nt, .int wb, .ref w6, .ref w7, .ref w8, .int rc, .ref w9, .ref w10, .ref w11, .ref w12, .ref w13, .ref w14, .int fp, .int ft, .int (nI (flN 1 2))])), (w2, .inl (cI, 244, .inl gl))]) [1, 0] rfl
      have hD9 := hD.sub (ws' := [(w0, .inr (5, [.ref w1, .ref w2, .int (nI y), .int te, .ref w3, .ref w4, .ref w5, .int nt, .int wb, .ref w6, .ref w7, .ref w8, .int rc, .ref w9, .ref w10, .ref w11, .ref w12, .ref w13, .ref w14, .int fp, .int ft, .int (nI (flN 1 2))])), (w2, .inl (cI, 244, .inl gl))]) [1, 0] (by decide) rfl
      exact W.iret (v := nI 0) hx hb hr (fun t9 ht hW => ⟨⟨_, (gl, y, nI 2), rfl, (by unfold mlV; rw [if_pos c_53, if_pos (show rtN x z v w = 0 from by unfold rtN; rw [if_pos c_7])]), ⟨by rw [ht]; exact hP9, hD9⟩⟩, hS.F ht⟩) hS.2.2 d_MD_tile_109
    · skip
      refine lv_iconst (v := nI 1) hx hb d_MD_tile_56 (by decide +kernel) ?_
      refine lv_goto (tgt := 61) hx hb d_MD_tile_57 (by decide) ?_
      refine lv_iconst (v := nI 1) hx hb d_MD_tile_61 (by decide +kernel) ?_
      refine cl_i (wr := [(w2, .inl (cI, 244, .inl gl))]) (va_runV (As := [.int (nI 1), .int (nI 1)]) (rest := []) ⟨hx, hb, hml, hown, hw⟩ (k_MD_fails l D cI cJ w0 w1 w2 w3 w4 w5 w6 w7 w8 w9 w10 w11 w12 w13 w14 (nI y) te nt wb rc fp ft th 1 1 _ (by omega)) (cwV 2 hw (gV kw_836 kw_838 kw_20 kw_45 kw_839) rfl rfl rfl (by decide +kernel) ⟨Nat.le_of_ble_eq_true rfl, Nat.le_of_ble_eq_true rfl⟩) (pre_Vw (wc := [(w0, .inr (5, [.ref w1, .ref w2, .int (nI y), .int te, .ref w3, .ref w4, .ref w5, .int nt, .int wb, .ref w6, .ref w7, .ref w8, .int rc, .ref w9, .ref w10, .ref w11, .ref w12, .ref w13, .ref w14, .int fp, .int ft, .int th]))]) (q0 := 0) hE hX hA hP hD hS [0] (by decide) rfl rfl rfl rfl) rfl rfl hl.1 rfl (lv_room (Nat.le_of_ble_eq_true rfl)) d_MD_tile_62 ⟨Nat.le_of_ble_eq_true rfl, Nat.le_of_ble_eq_true rfl⟩) hP hD hS hA [0] [1] rfl rfl (by decide) (by decide) (fun r_4 u_r_4 H locs hr_4 hP hD hS => ?_)
      obtain rfl : nI 1 = r_4 := hr_4.symm
      have hP : va_P D vwCl [(w2, .inl (cI, 244, .inl gl)), (w0, .inr (5, [.ref w1, .ref w2, .int (nI y), .int te, .ref w3, .ref w4, .ref w5, .int nt, .int wb, .ref w6, .ref w7, .ref w8, .int rc, .ref w9, .ref w10, .ref w11, .ref w12, .ref w13, .ref w14, .int fp, .int ft, .int (nI (flN 1 1))]))] H := hP
      have hD : va_D A [(w2, .inl (cI, 244, .inl gl)), (w0, .inr (5, [.ref w1, .ref w2, .int (nI y), .int te, .ref w3, .ref w4, .ref w5, .int nt, .int wb, .ref w6, .ref w7, .ref w8, .int rc, .ref w9, .ref w10, .ref w11, .ref w12, .ref w13, .ref w14, .int fp, .int ft, .int (nI (flN 1 1))]))] := hD
      refine jn_if_ne (tgt := 108) (a := 1) hx hb d_MD_tile_65 (by decide) (by decide) (fun _ => ?_) (fun c9 => absurd c9 (by decide))
      refine lv_iconst (v := nI 0) hx hb d_MD_tile_108 (by decide +kernel) ?_
      have hP9 := hP.sub (ws' := [(w0, .inr (5, [.ref w1, .ref w2, .int (nI y), .int te, .ref w3, .ref w4, .ref w5, .int nt, .int wb, .ref w6, .ref w7, .ref w8, .int rc, .ref w9, .ref w10, .ref w11, .ref w12, .ref w13, .ref w14, .int fp, .int ft, .int (nI (flN 1 1))])), (w2, .inl (cI, 244, .inl gl))]) [1, 0] rfl
      have hD9 := hD.sub (ws' := [(w0, .inr (5, [.ref w1, .ref w2, .int (nI y), .int te, .ref w3, .ref w4, .ref w5, .int nt, .int wb, .ref w6, .ref w7, .ref w8, .int rc, .ref w9, .ref w10, .ref w11, .ref w12, .ref w13, .ref w14, .int fp, .int ft, .int (nI (flN 1 1))])), (w2, .inl (cI, 244, .inl gl))]) [1, 0] (by decide) rfl
      exact W.iret (v := nI 0) hx hb hr (fun t9 ht hW => ⟨⟨_, (gl, y, nI 1), rfl, (by unfold mlV; rw [if_neg c_53]), ⟨by rw [ht]; exact hP9, hD9⟩⟩, hS.F ht⟩) hS.2.2 d_MD_tile_109
  · skip
    refine lv_iload_n hx hb d_MD_tile_10 rfl (lv_at hl 2 rfl) ?_
    refine lv_iconst (v := nI 0) hx hb d_MD_tile_11 (by decide +kernel) ?_
    refine lv_bipush (v := nI 99) hx hb d_MD_tile_12 (by decide +kernel) ?_
    refine vp_callSi (va_Run.run (va_runS (As := [.int z, .int (nI 0), .int (nI 99)]) (rest := []) ⟨hx, hb, hml, hown, hw⟩ (k_MD_within l D cI cJ z (nI 0) (nI 99)) (va_cwS 3 hw (gS kw_840 kw_841 kw_45 kw_842) rfl rfl rfl (by decide +kernel) ⟨Nat.le_of_ble_eq_true rfl, Nat.le_of_ble_eq_true rfl⟩) (pre_Sp (wc := []) hE hX hP hS [] rfl) rfl rfl hl.1 rfl (lv_room (Nat.le_of_ble_eq_true rfl)) d_MD_tile_14 ⟨Nat.le_of_ble_eq_true rfl, Nat.le_of_ble_eq_true rfl⟩)) (fun r_5 hr_5 => ?_)
    obtain rfl : nI (wiN z (nI 0) (nI 99)) = r_5 := hr_5.symm
    refine jn_if_eq (tgt := 45) (a := (wiN z (nI 0) (nI 99))) hx hb d_MD_tile_17 (by decide) (by have := wiN_le z (nI 0) (nI 99); omega) (fun c_17 => ?_) (fun c_17 => ?_)
    · skip
      refine lv_iconst (v := nI 0) hx hb d_MD_tile_45 (by decide +kernel) ?_
      refine lv_istore (lv' := [(5, .int (nI 0)), (0, .ref w0), (1, .int x), (2, .int z), (3, .int v), (4, .int w)]) hx hb d_MD_tile_46 hl (by decide) rfl (fun ls hl => ?_)
      refine lv_aload_n hx hb d_MD_tile_48 rfl (lv_at hl 1 rfl) ?_
      refine lv_aload_n hx hb d_MD_tile_49 rfl (lv_at hl 1 rfl) ?_
      refine va_get (D := D) (ci := 5) (v := .int nt) (C := R_MD) (T := T_MD) (N := 22) hx hb hw in_MD hown hE.1 hP 0 rfl rfl 7 (by decide) (hw _ kw_768) (fun _ h9 => h9) rfl d_MD_tile_50 ?_
      refine lv_if_le (tgt := 60) hx hb d_MD_tile_53 (by decide) (fun c_53 => ?_) (fun c_53 => ?_)
      · skip
        refine lv_iconst (v := nI 0) hx hb d_MD_tile_60 (by decide +kernel) ?_
        refine lv_iconst (v := nI 1) hx hb d_MD_tile_61 (by decide +kernel) ?_
        refine cl_i (wr := [(w2, .inl (cI, 244, .inl gl))]) (va_runV (As := [.int (nI 0), .int (nI 1)]) (rest := []) ⟨hx, hb, hml, hown, hw⟩ (k_MD_fails l D cI cJ w0 w1 w2 w3 w4 w5 w6 w7 w8 w9 w10 w11 w12 w13 w14 (nI y) te nt wb rc fp ft th 0 1 _ (by omega)) (cwV 2 hw (gV kw_836 kw_838 kw_20 kw_45 kw_839) rfl rfl rfl (by decide +kernel) ⟨Nat.le_of_ble_eq_true rfl, Nat.le_of_ble_eq_true rfl⟩) (pre_Vw (wc := [(w0, .inr (5, [.ref w1, .ref w2, .int (nI y), .int te, .ref w3, .ref w4, .ref w5, .int nt, .int wb, .ref w6, .ref w7, .ref w8, .int rc, .ref w9, .ref w10, .ref w11, .ref w12, .ref w13, .ref w14, .int fp, .int ft, .int th]))]) (q0 := 0) hE hX hA hP hD hS [0] (by decide) rfl rfl rfl rfl) rfl rfl hl.1 rfl (lv_room (Nat.le_of_ble_eq_true rfl)) d_MD_tile_62 ⟨Nat.le_of_ble_eq_true rfl, Nat.le_of_ble_eq_true rfl⟩) hP hD hS hA [0] [1] rfl rfl (by decide) (by decide) (fun r_6 u_r_6 H locs hr_6 hP hD hS => ?_)
        obtain rfl : nI 0 = r_6 := hr_6.symm
        have hP : va_P D vwCl [(w2, .inl (cI, 244, .inl gl)), (w0, .inr (5, [.ref w1, .ref w2, .int (nI y), .int te, .ref w3, .ref w4, .ref w5, .int nt, .int wb, .ref w6, .ref w7, .ref w8, .int rc, .ref w9, .ref w10, .ref w11, .ref w12, .ref w13, .ref w14, .int fp, .int ft, .int (nI (flN 0 1))]))] H := hP
        have hD : va_D A [(w2, .inl (cI, 244, .inl gl)), (w0, .inr (5, [.ref w1, .ref w2, .int (nI y), .int te, .ref w3, .ref w4, .ref w5, .int nt, .int wb, .ref w6, .ref w7, .ref w8, .int rc, .ref w9, .ref w10, .ref w11, .ref w12, .ref w13, .ref w14, .int fp, .int ft, .int (nI (flN 0 1))]))] := hD
        refine jn_if_ne (tgt := 108) (a := 0) hx hb d_MD_tile_65 (by decide) (by decide) (fun c9 => absurd c9 (by decide)) (fun _ => ?_)
        refine lv_aload_n hx hb d_MD_tile_68 rfl (lv_at hl 1 rfl) ?_
        refine lv_iload hx hb d_MD_tile_69 (lv_at hl 0 rfl) ?_
        refine jn_if_ne (tgt := 78) (a := 0) hx hb d_MD_tile_71 (by decide) (by decide) (fun c9 => absurd c9 (by decide)) (fun _ => ?_)
        refine lv_iconst (v := nI 1) hx hb d_MD_tile_74 (by decide +kernel) ?_
        refine lv_goto (tgt := 79) hx hb d_MD_tile_75 (by decide) ?_
        refine lv_iconst (v := nI 2) hx hb d_MD_tile_79 (by decide +kernel) ?_
        refine cl_i (wr := [(w2, .inl (cI, 244, .inl gl))]) (va_runV (As := [.int (nI 1), .int (nI 2)]) (rest := []) ⟨hx, hb, hml, hown, hw⟩ (k_MD_fails l D cI cJ w0 w1 w2 w3 w4 w5 w6 w7 w8 w9 w10 w11 w12 w13 w14 (nI y) te nt wb rc fp ft (nI (flN 0 1)) 1 2 _ (by omega)) (cwV 2 hw (gV kw_836 kw_838 kw_20 kw_45 kw_839) rfl rfl rfl (by decide +kernel) ⟨Nat.le_of_ble_eq_true rfl, Nat.le_of_ble_eq_true rfl⟩) (pre_Vw (wc := [(w0, .inr (5, [.ref w1, .ref w2, .int (nI y), .int te, .ref w3, .ref w4, .ref w5, .int nt, .int wb, .ref w6, .ref w7, .ref w8, .int rc, .ref w9, .ref w10, .ref w11, .ref w12, .ref w13, .ref w14, .int fp, .int ft, .int (nI (flN 0 1))]))]) (q0 := 0) hE hX hA hP hD hS [1] (by decide) rfl rfl rfl rfl) rfl rfl hl.1 rfl (lv_room (Nat.le_of_ble_eq_true rfl)) d_MD_tile_80 ⟨Nat.le_of_ble_eq_true rfl, Nat.le_of_ble_eq_true rfl⟩) hP hD hS hA [1] [0] rfl rfl (by decide) (by decide) (fun r_7 u_r_7 H locs hr_7 hP hD hS => ?_)
        obtain rfl : nI 1 = r_7 := hr_7.symm
        have hP : va_P D vwCl [(w2, .inl (cI, 244, .inl gl)), (w0, .inr (5, [.ref w1, .ref w2, .int (nI y), .int te, .ref w3, .ref w4, .ref w5, .int nt, .int wb, .ref w6, .ref w7, .ref w8, .int rc, .ref w9, .ref w10, .ref w11, .ref w12, .ref w13, .ref w14, .int fp, .int ft, .int (nI (flN 1 2))]))] H := hP
        have hD : va_D A [(w2, .inl (cI, 244, .inl gl)), (w0, .inr (5, [.ref w1, .ref w2, .int (nI y), .int te, .ref w3, .ref w4, .ref w5, .int nt, .int wb, .ref w6, .ref w7, .ref w8, .int rc, .ref w9, .ref w10, .ref w11, .ref w12, .ref w13, .ref w14, .int fp, .int ft, .int (nI (flN 1 2))]))] := hD
        refine jn_if_ne (tgt := 108) (a := 1) hx hb d_MD_tile_83 (by decide) (by decide) (fun _ => ?_) (fun c9 => absurd c9 (by decide))
        refine lv_iconst (v := nI 0) hx hb d_MD_tile_108 (by decide +kernel) ?_
        have hP9 := hP.sub (ws' := [(w0, .inr (5, [.ref w1, .ref w2, .int (nI y), .int te, .ref w3, .ref w4, .ref w5, .int nt, .int wb, .ref w6, .ref w7, .ref w8, .int rc, .ref w9, .ref w10, .ref w11, .ref w12, .ref w13, .ref w14, .int fp, .int ft, .int (nI (flN 1 2))])), (w2, .inl (cI, 244, .inl gl))]) [1, 0] rfl
        have hD9 := hD.sub (ws' := [(w0, .inr (5, [.ref w1, .ref w2, .int (nI y), .int te, .ref w3, .ref w4, .ref w5, .int nt, .int wb, .ref w6, .ref w7, .ref w8, .int rc, .ref w9, .ref w10, .ref w11, .ref w12, .ref w13, .ref w14, .int fp, .int ft, .int (nI (flN 1 2))])), (w2, .inl (cI, 244, .inl gl))]) [1, 0] (by decide) rfl
        exact W.iret (v := nI 0) hx hb hr (fun t9 ht hW => ⟨⟨_, (gl, y, nI 2), rfl, (by unfold mlV; rw [if_pos c_53, if_pos (show rtN x z v w = 0 from by unfold rtN; rw [if_neg c_7, if_pos c_17])]), ⟨by rw [ht]; exact hP9, hD9⟩⟩, hS.F ht⟩) hS.2.2 d_MD_tile_109
      · skip
        refine lv_iconst (v := nI 1) hx hb d_MD_tile_56 (by decide +kernel) ?_
        refine lv_goto (tgt := 61) hx hb d_MD_tile_57 (by decide) ?_
        refine lv_iconst (v := nI 1) hx hb d_MD_tile_61 (by decide +kernel) ?_
        refine cl_i (wr := [(w2, .inl (cI, 244, .inl gl))]) (va_runV (As := [.int (nI 1), .int (nI 1)]) (rest := []) ⟨hx, hb, hml, hown, hw⟩ (k_MD_fails l D cI cJ w0 w1 w2 w3 w4 w5 w6 w7 w8 w9 w10 w11 w12 w13 w14 (nI y) te nt wb rc fp ft th 1 1 _ (by omega)) (cwV 2 hw (gV kw_836 kw_838 kw_20 kw_45 kw_839) rfl rfl rfl (by decide +kernel) ⟨Nat.le_of_ble_eq_true rfl, Nat.le_of_ble_eq_true rfl⟩) (pre_Vw (wc := [(w0, .inr (5, [.ref w1, .ref w2, .int (nI y), .int te, .ref w3, .ref w4, .ref w5, .int nt, .int wb, .ref w6, .ref w7, .ref w8, .int rc, .ref w9, .ref w10, .ref w11, .ref w12, .ref w13, .ref w14, .int fp, .int ft, .int th]))]) (q0 := 0) hE hX hA hP hD hS [0] (by decide) rfl rfl rfl rfl) rfl rfl hl.1 rfl (lv_room (Nat.le_of_ble_eq_true rfl)) d_MD_tile_62 ⟨Nat.le_of_ble_eq_true rfl, Nat.le_of_ble_eq_true rfl⟩) hP hD hS hA [0] [1] rfl rfl (by decide) (by decide) (fun r_8 u_r_8 H locs hr_8 hP hD hS => ?_)
        obtain rfl : nI 1 = r_8 := hr_8.symm
        have hP : va_P D vwCl [(w2, .inl (cI, 244, .inl gl)), (w0, .inr (5, [.ref w1, .ref w2, .int (nI y), .int te, .ref w3, .ref w4, .ref w5, .int nt, .int wb, .ref w6, .ref w7, .ref w8, .int rc, .ref w9, .ref w10, .ref w11, .ref w12, .ref w13, .ref w14, .int fp, .int ft, .int (nI (flN 1 1))]))] H := hP
        have hD : va_D A [(w2, .inl (cI, 244, .inl gl)), (w0, .inr (5, [.ref w1, .ref w2, .int (nI y), .int te, .ref w3, .ref w4, .ref w5, .int nt, .int wb, .ref w6, .ref w7, .ref w8, .int rc, .ref w9, .ref w10, .ref w11, .ref w12, .ref w13, .ref w14, .int fp, .int ft, .int (nI (flN 1 1))]))] := hD
        refine jn_if_ne (tgt := 108) (a := 1) hx hb d_MD_tile_65 (by decide) (by decide) (fun _ => ?_) (fun c9 => absurd c9 (by decide))
        refine lv_iconst (v := nI 0) hx hb d_MD_tile_108 (by decide +kernel) ?_
        have hP9 := hP.sub (ws' := [(w0, .inr (5, [.ref w1, .ref w2, .int (nI y), .int te, .ref w3, .ref w4, .ref w5, .int nt, .int wb, .ref w6, .ref w7, .ref w8, .int rc, .ref w9, .ref w10, .ref w11, .ref w12, .ref w13, .ref w14, .int fp, .int ft, .int (nI (flN 1 1))])), (w2, .inl (cI, 244, .inl gl))]) [1, 0] rfl
        have hD9 := hD.sub (ws' := [(w0, .inr (5, [.ref w1, .ref w2, .int (nI y), .int te, .ref w3, .ref w4, .ref w5, .int nt, .int wb, .ref w6, .ref w7, .ref w8, .int rc, .ref w9, .ref w10, .ref w11, .ref w12, .ref w13, .ref w14, .int fp, .int ft, .int (nI (flN 1 1))])), (w2, .inl (cI, 244, .inl gl))]) [1, 0] (by decide) rfl
        exact W.iret (v := nI 0) hx hb hr (fun t9 ht hW => ⟨⟨_, (gl, y, nI 1), rfl, (by unfold mlV; rw [if_neg c_53]), ⟨by rw [ht]; exact hP9, hD9⟩⟩, hS.F ht⟩) hS.2.2 d_MD_tile_109
    · skip
      refine lv_iload_n hx hb d_MD_tile_20 rfl (lv_at hl 3 rfl) ?_
      refine lv_iconst (v := nI 0) hx hb d_MD_tile_21 (by decide +kernel) ?_
      refine lv_bipush (v := nI 99) hx hb d_MD_tile_22 (by decide +kernel) ?_
      refine vp_callSi (va_Run.run (va_runS (As := [.int v, .int (nI 0), .int (nI 99)]) (rest := []) ⟨hx, hb, hml, hown, hw⟩ (k_MD_within l D cI cJ v (nI 0) (nI 99)) (va_cwS 3 hw (gS kw_840 kw_841 kw_45 kw_842) rfl rfl rfl (by decide +kernel) ⟨Nat.le_of_ble_eq_true rfl, Nat.le_of_ble_eq_true rfl⟩) (pre_Sp (wc := []) hE hX hP hS [] rfl) rfl rfl hl.1 rfl (lv_room (Nat.le_of_ble_eq_true rfl)) d_MD_tile_24 ⟨Nat.le_of_ble_eq_true rfl, Nat.le_of_ble_eq_true rfl⟩)) (fun r_9 hr_9 => ?_)
      obtain rfl : nI (wiN v (nI 0) (nI 99)) = r_9 := hr_9.symm
      refine jn_if_eq (tgt := 45) (a := (wiN v (nI 0) (nI 99))) hx hb d_MD_tile_27 (by decide) (by have := wiN_le v (nI 0) (nI 99); omega) (fun c_27 => ?_) (fun c_27 => ?_)
      · skip
        refine lv_iconst (v := nI 0) hx hb d_MD_tile_45 (by decide +kernel) ?_
        refine lv_istore (lv' := [(5, .int (nI 0)), (0, .ref w0), (1, .int x), (2, .int z), (3, .int v), (4, .int w)]) hx hb d_MD_tile_46 hl (by decide) rfl (fun ls hl => ?_)
        refine lv_aload_n hx hb d_MD_tile_48 rfl (lv_at hl 1 rfl) ?_
        refine lv_aload_n hx hb d_MD_tile_49 rfl (lv_at hl 1 rfl) ?_
        refine va_get (D := D) (ci := 5) (v := .int nt) (C := R_MD) (T := T_MD) (N := 22) hx hb hw in_MD hown hE.1 hP 0 rfl rfl 7 (by decide) (hw _ kw_768) (fun _ h9 => h9) rfl d_MD_tile_50 ?_
        refine lv_if_le (tgt := 60) hx hb d_MD_tile_53 (by decide) (fun c_53 => ?_) (fun c_53 => ?_)
        · skip
          refine lv_iconst (v := nI 0) hx hb d_MD_tile_60 (by decide +kernel) ?_
          refine lv_iconst (v := nI 1) hx hb d_MD_tile_61 (by decide +kernel) ?_
          refine cl_i (wr := [(w2, .inl (cI, 244, .inl gl))]) (va_runV (As := [.int (nI 0), .int (nI 1)]) (rest := []) ⟨hx, hb, hml, hown, hw⟩ (k_MD_fails l D cI cJ w0 w1 w2 w3 w4 w5 w6 w7 w8 w9 w10 w11 w12 w13 w14 (nI y) te nt wb rc fp ft th 0 1 _ (by omega)) (cwV 2 hw (gV kw_836 kw_838 kw_20 kw_45 kw_839) rfl rfl rfl (by decide +kernel) ⟨Nat.le_of_ble_eq_true rfl, Nat.le_of_ble_eq_true rfl⟩) (pre_Vw (wc := [(w0, .inr (5, [.ref w1, .ref w2, .int (nI y), .int te, .ref w3, .ref w4, .ref w5, .int nt, .int wb, .ref w6, .ref w7, .ref w8, .int rc, .ref w9, .ref w10, .ref w11, .ref w12, .ref w13, .ref w14, .int fp, .int ft, .int th]))]) (q0 := 0) hE hX hA hP hD hS [0] (by decide) rfl rfl rfl rfl) rfl rfl hl.1 rfl (lv_room (Nat.le_of_ble_eq_true rfl)) d_MD_tile_62 ⟨Nat.le_of_ble_eq_true rfl, Nat.le_of_ble_eq_true rfl⟩) hP hD hS hA [0] [1] rfl rfl (by decide) (by decide) (fun r_10 u_r_10 H locs hr_10 hP hD hS => ?_)
          obtain rfl : nI 0 = r_10 := hr_10.symm
          have hP : va_P D vwCl [(w2, .inl (cI, 244, .inl gl)), (w0, .inr (5, [.ref w1, .ref w2, .int (nI y), .int te, .ref w3, .ref w4, .ref w5, .int nt, .int wb, .ref w6, .ref w7, .ref w8, .int rc, .ref w9, .ref w10, .ref w11, .ref w12, .ref w13, .ref w14, .int fp, .int ft, .int (nI (flN 0 1))]))] H := hP
          have hD : va_D A [(w2, .inl (cI, 244, .inl gl)), (w0, .inr (5, [.ref w1, .ref w2, .int (nI y), .int te, .ref w3, .ref w4, .ref w5, .int nt, .int wb, .ref w6, .ref w7, .ref w8, .int rc, .ref w9, .ref w10, .ref w11, .ref w12, .ref w13, .ref w14, .int fp, .int ft, .int (nI (flN 0 1))]))] := hD
          refine jn_if_ne (tgt := 108) (a := 0) hx hb d_MD_tile_65 (by decide) (by decide) (fun c9 => absurd c9 (by decide)) (fun _ => ?_)
          refine lv_aload_n hx hb d_MD_tile_68 rfl (lv_at hl 1 rfl) ?_
          refine lv_iload hx hb d_MD_tile_69 (lv_at hl 0 rfl) ?_
          refine jn_if_ne (tgt := 78) (a := 0) hx hb d_MD_tile_71 (by decide) (by decide) (fun c9 => absurd c9 (by decide)) (fun _ => ?_)
          refine lv_iconst (v := nI 1) hx hb d_MD_tile_74 (by decide +kernel) ?_
          refine lv_goto (tgt := 79) hx hb d_MD_tile_75 (by decide) ?_
          refine lv_iconst (v := nI 2) hx hb d_MD_tile_79 (by decide +kernel) ?_
          refine cl_i (wr := [(w2, .inl (cI, 244, .inl gl))]) (va_runV (As := [.int (nI 1), .int (nI 2)]) (rest := []) ⟨hx, hb, hml, hown, hw⟩ (k_MD_fails l D cI cJ w0 w1 w2 w3 w4 w5 w6 w7 w8 w9 w10 w11 w12 w13 w14 (nI y) te nt wb rc fp ft (nI (flN 0 1)) 1 2 _ (by omega)) (cwV 2 hw (gV kw_836 kw_838 kw_20 kw_45 kw_839) rfl rfl rfl (by decide +kernel) ⟨Nat.le_of_ble_eq_true rfl, Nat.le_of_ble_eq_true rfl⟩) (pre_Vw (wc := [(w0, .inr (5, [.ref w1, .ref w2, .int (nI y), .int te, .ref w3, .ref w4, .ref w5, .int nt, .int wb, .ref w6, .ref w7, .ref w8, .int rc, .ref w9, .ref w10, .ref w11, .ref w12, .ref w13, .ref w14, .int fp, .int ft, .int (nI (flN 0 1))]))]) (q0 := 0) hE hX hA hP hD hS [1] (by decide) rfl rfl rfl rfl) rfl rfl hl.1 rfl (lv_room (Nat.le_of_ble_eq_true rfl)) d_MD_tile_80 ⟨Nat.le_of_ble_eq_true rfl, Nat.le_of_ble_eq_true rfl⟩) hP hD hS hA [1] [0] rfl rfl (by decide) (by decide) (fun r_11 u_r_11 H locs hr_11 hP hD hS => ?_)
          obtain rfl : nI 1 = r_11 := hr_11.symm
          have hP : va_P D vwCl [(w2, .inl (cI, 244, .inl gl)), (w0, .inr (5, [.ref w1, .ref w2, .int (nI y), .int te, .ref w3, .ref w4, .ref w5, .int nt, .int wb, .ref w6, .ref w7, .ref w8, .int rc, .ref w9, .ref w10, .ref w11, .ref w12, .ref w13, .ref w14, .int fp, .int ft, .int (nI (flN 1 2))]))] H := hP
          have hD : va_D A [(w2, .inl (cI, 244, .inl gl)), (w0, .inr (5, [.ref w1, .ref w2, .int (nI y), .int te, .ref w3, .ref w4, .ref w5, .int nt, .int wb, .ref w6, .ref w7, .ref w8, .int rc, .ref w9, .ref w10, .ref w11, .ref w12, .ref w13, .ref w14, .int fp, .int ft, .int (nI (flN 1 2))]))] := hD
          refine jn_if_ne (tgt := 108) (a := 1) hx hb d_MD_tile_83 (by decide) (by decide) (fun _ => ?_) (fun c9 => absurd c9 (by decide))
          refine lv_iconst (v := nI 0) hx hb d_MD_tile_108 (by decide +kernel) ?_
          have hP9 := hP.sub (ws' := [(w0, .inr (5, [.ref w1, .ref w2, .int (nI y), .int te, .ref w3, .ref w4, .ref w5, .int nt, .int wb, .ref w6, .ref w7, .ref w8, .int rc, .ref w9, .ref w10, .ref w11, .ref w12, .ref w13, .ref w14, .int fp, .int ft, .int (nI (flN 1 2))])), (w2, .inl (cI, 244, .inl gl))]) [1, 0] rfl
          have hD9 := hD.sub (ws' := [(w0, .inr (5, [.ref w1, .ref w2, .int (nI y), .int te, .ref w3, .ref w4, .ref w5, .int nt, .int wb, .ref w6, .ref w7, .ref w8, .int rc, .ref w9, .ref w10, .ref w11, .ref w12, .ref w13, .ref w14, .int fp, .int ft, .int (nI (flN 1 2))])), (w2, .inl (cI, 244, .inl gl))]) [1, 0] (by decide) rfl
          exact W.iret (v := nI 0) hx hb hr (fun t9 ht hW => ⟨⟨_, (gl, y, nI 2), rfl, (by unfold mlV; rw [if_pos c_53, if_pos (show rtN x z v w = 0 from by unfold rtN; rw [if_neg c_7, if_neg c_17, if_pos c_27])]), ⟨by rw [ht]; exact hP9, hD9⟩⟩, hS.F ht⟩) hS.2.2 d_MD_tile_109
        · skip
          refine lv_iconst (v := nI 1) hx hb d_MD_tile_56 (by decide +kernel) ?_
          refine lv_goto (tgt := 61) hx hb d_MD_tile_57 (by decide) ?_
          refine lv_iconst (v := nI 1) hx hb d_MD_tile_61 (by decide +kernel) ?_
          refine cl_i (wr := [(w2, .inl (cI, 244, .inl gl))]) (va_runV (As := [.int (nI 1), .int (nI 1)]) (rest := []) ⟨hx, hb, hml, hown, hw⟩ (k_MD_fails l D cI cJ w0 w1 w2 w3 w4 w5 w6 w7 w8 w9 w10 w11 w12 w13 w14 (nI y) te nt wb rc fp ft th 1 1 _ (by omega)) (cwV 2 hw (gV kw_836 kw_838 kw_20 kw_45 kw_839) rfl rfl rfl (by decide +kernel) ⟨Nat.le_of_ble_eq_true rfl, Nat.le_of_ble_eq_true rfl⟩) (pre_Vw (wc := [(w0, .inr (5, [.ref w1, .ref w2, .int (nI y), .int te, .ref w3, .ref w4, .ref w5, .int nt, .int wb, .ref w6, .ref w7, .ref w8, .int rc, .ref w9, .ref w10, .ref w11, .ref w12, .ref w13, .ref w14, .int fp, .int ft, .int th]))]) (q0 := 0) hE hX hA hP hD hS [0] (by decide) rfl rfl rfl rfl) rfl rfl hl.1 rfl (lv_room (Nat.le_of_ble_eq_true rfl)) d_MD_tile_62 ⟨Nat.le_of_ble_eq_true rfl, Nat.le_of_ble_eq_true rfl⟩) hP hD hS hA [0] [1] rfl rfl (by decide) (by decide) (fun r_12 u_r_12 H locs hr_12 hP hD hS => ?_)
          obtain rfl : nI 1 = r_12 := hr_12.symm
          have hP : va_P D vwCl [(w2, .inl (cI, 244, .inl gl)), (w0, .inr (5, [.ref w1, .ref w2, .int (nI y), .int te, .ref w3, .ref w4, .ref w5, .int nt, .int wb, .ref w6, .ref w7, .ref w8, .int rc, .ref w9, .ref w10, .ref w11, .ref w12, .ref w13, .ref w14, .int fp, .int ft, .int (nI (flN 1 1))]))] H := hP
          have hD : va_D A [(w2, .inl (cI, 244, .inl gl)), (w0, .inr (5, [.ref w1, .ref w2, .int (nI y), .int te, .ref w3, .ref w4, .ref w5, .int nt, .int wb, .ref w6, .ref w7, .ref w8, .int rc, .ref w9, .ref w10, .ref w11, .ref w12, .ref w13, .ref w14, .int fp, .int ft, .int (nI (flN 1 1))]))] := hD
          refine jn_if_ne (tgt := 108) (a := 1) hx hb d_MD_tile_65 (by decide) (by decide) (fun _ => ?_) (fun c9 => absurd c9 (by decide))
          refine lv_iconst (v := nI 0) hx hb d_MD_tile_108 (by decide +kernel) ?_
          have hP9 := hP.sub (ws' := [(w0, .inr (5, [.ref w1, .ref w2, .int (nI y), .int te, .ref w3, .ref w4, .ref w5, .int nt, .int wb, .ref w6, .ref w7, .ref w8, .int rc, .ref w9, .ref w10, .ref w11, .ref w12, .ref w13, .ref w14, .int fp, .int ft, .int (nI (flN 1 1))])), (w2, .inl (cI, 244, .inl gl))]) [1, 0] rfl
          have hD9 := hD.sub (ws' := [(w0, .inr (5, [.ref w1, .ref w2, .int (nI y), .int te, .ref w3, .ref w4, .ref w5, .int nt, .int wb, .ref w6, .ref w7, .ref w8, .int rc, .ref w9, .ref w10, .ref w11, .ref w12, .ref w13, .ref w14, .int fp, .int ft, .int (nI (flN 1 1))])), (w2, .inl (cI, 244, .inl gl))]) [1, 0] (by decide) rfl
          exact W.iret (v := nI 0) hx hb hr (fun t9 ht hW => ⟨⟨_, (gl, y, nI 1), rfl, (by unfold mlV; rw [if_neg c_53]), ⟨by rw [ht]; exact hP9, hD9⟩⟩, hS.F ht⟩) hS.2.2 d_MD_tile_109
      · skip
        refine lv_iload hx hb d_MD_tile_30 (lv_at hl 4 rfl) ?_
        refine lv_iconst (v := nI 0) hx hb d_MD_tile_32 (by decide +kernel) ?_
        refine lv_bipush (v := nI 99) hx hb d_MD_tile_33 (by decide +kernel) ?_
        refine vp_callSi (va_Run.run (va_runS (As := [.int w, .int (nI 0), .int (nI 99)]) (rest := []) ⟨hx, hb, hml, hown, hw⟩ (k_MD_within l D cI cJ w (nI 0) (nI 99)) (va_cwS 3 hw (gS kw_840 kw_841 kw_45 kw_842) rfl rfl rfl (by decide +kernel) ⟨Nat.le_of_ble_eq_true rfl, Nat.le_of_ble_eq_true rfl⟩) (pre_Sp (wc := []) hE hX hP hS [] rfl) rfl rfl hl.1 rfl (lv_room (Nat.le_of_ble_eq_true rfl)) d_MD_tile_35 ⟨Nat.le_of_ble_eq_true rfl, Nat.le_of_ble_eq_true rfl⟩)) (fun r_13 hr_13 => ?_)
        obtain rfl : nI (wiN w (nI 0) (nI 99)) = r_13 := hr_13.symm
        refine jn_if_eq (tgt := 45) (a := (wiN w (nI 0) (nI 99))) hx hb d_MD_tile_38 (by decide) (by have := wiN_le w (nI 0) (nI 99); omega) (fun c_38 => ?_) (fun c_38 => ?_)
        · skip
          refine lv_iconst (v := nI 0) hx hb d_MD_tile_45 (by decide +kernel) ?_
          refine lv_istore (lv' := [(5, .int (nI 0)), (0, .ref w0), (1, .int x), (2, .int z), (3, .int v), (4, .int w)]) hx hb d_MD_tile_46 hl (by decide) rfl (fun ls hl => ?_)
          refine lv_aload_n hx hb d_MD_tile_48 rfl (lv_at hl 1 rfl) ?_
          refine lv_aload_n hx hb d_MD_tile_49 rfl (lv_at hl 1 rfl) ?_
          refine va_get (D := D) (ci := 5) (v := .int nt) (C := R_MD) (T := T_MD) (N := 22) hx hb hw in_MD hown hE.1 hP 0 rfl rfl 7 (by decide) (hw _ kw_768) (fun _ h9 => h9) rfl d_MD_tile_50 ?_
          refine lv_if_le (tgt := 60) hx hb d_MD_tile_53 (by decide) (fun c_53 => ?_) (fun c_53 => ?_)
          · skip
            refine lv_iconst (v := nI 0) hx hb d_MD_tile_60 (by decide +kernel) ?_
            refine lv_iconst (v := nI 1) hx hb d_MD_tile_61 (by decide +kernel) ?_
            refine cl_i (wr := [(w2, .inl (cI, 244, .inl gl))]) (va_runV (As := [.int (nI 0), .int (nI 1)]) (rest := []) ⟨hx, hb, hml, hown, hw⟩ (k_MD_fails l D cI cJ w0 w1 w2 w3 w4 w5 w6 w7 w8 w9 w10 w11 w12 w13 w14 (nI y) te nt wb rc fp ft th 0 1 _ (by omega)) (cwV 2 hw (gV kw_836 kw_838 kw_20 kw_45 kw_839) rfl rfl rfl (by decide +kernel) ⟨Nat.le_of_ble_eq_true rfl, Nat.le_of_ble_eq_true rfl⟩) (pre_Vw (wc := [(w0, .inr (5, [.ref w1, .ref w2, .int (nI y), .int te, .ref w3, .ref w4, .ref w5, .int nt, .int wb, .ref w6, .ref w7, .ref w8, .int rc, .ref w9, .ref w10, .ref w11, .ref w12, .ref w13, .ref w14, .int fp, .int ft, .int th]))]) (q0 := 0) hE hX hA hP hD hS [0] (by decide) rfl rfl rfl rfl) rfl rfl hl.1 rfl (lv_room (Nat.le_of_ble_eq_true rfl)) d_MD_tile_62 ⟨Nat.le_of_ble_eq_true rfl, Nat.le_of_ble_eq_true rfl⟩) hP hD hS hA [0] [1] rfl rfl (by decide) (by decide) (fun r_14 u_r_14 H locs hr_14 hP hD hS => ?_)
            obtain rfl : nI 0 = r_14 := hr_14.symm
            have hP : va_P D vwCl [(w2, .inl (cI, 244, .inl gl)), (w0, .inr (5, [.ref w1, .ref w2, .int (nI y), .int te, .ref w3, .ref w4, .ref w5, .int nt, .int wb, .ref w6, .ref w7, .ref w8, .int rc, .ref w9, .ref w10, .ref w11, .ref w12, .ref w13, .ref w14, .int fp, .int ft, .int (nI (flN 0 1))]))] H := hP
            have hD : va_D A [(w2, .inl (cI, 244, .inl gl)), (w0, .inr (5, [.ref w1, .ref w2, .int (nI y), .int te, .ref w3, .ref w4, .ref w5, .int nt, .int wb, .ref w6, .ref w7, .ref w8, .int rc, .ref w9, .ref w10, .ref w11, .ref w12, .ref w13, .ref w14, .int fp, .int ft, .int (nI (flN 0 1))]))] := hD
            refine jn_if_ne (tgt := 108) (a := 0) hx hb d_MD_tile_65 (by decide) (by decide) (fun c9 => absurd c9 (by decide)) (fun _ => ?_)
            refine lv_aload_n hx hb d_MD_tile_68 rfl (lv_at hl 1 rfl) ?_
            refine lv_iload hx hb d_MD_tile_69 (lv_at hl 0 rfl) ?_
            refine jn_if_ne (tgt := 78) (a := 0) hx hb d_MD_tile_71 (by decide) (by decide) (fun c9 => absurd c9 (by decide)) (fun _ => ?_)
            refine lv_iconst (v := nI 1) hx hb d_MD_tile_74 (by decide +kernel) ?_
            refine lv_goto (tgt := 79) hx hb d_MD_tile_75 (by decide) ?_
            refine lv_iconst (v := nI 2) hx hb d_MD_tile_79 (by decide +kernel) ?_
            refine cl_i (wr := [(w2, .inl (cI, 244, .inl gl))]) (va_runV (As := [.int (nI 1), .int (nI 2)]) (rest := []) ⟨hx, hb, hml, hown, hw⟩ (k_MD_fails l D cI cJ w0 w1 w2 w3 w4 w5 w6 w7 w8 w9 w10 w11 w12 w13 w14 (nI y) te nt wb rc fp ft (nI (flN 0 1)) 1 2 _ (by omega)) (cwV 2 hw (gV kw_836 kw_838 kw_20 kw_45 kw_839) rfl rfl rfl (by decide +kernel) ⟨Nat.le_of_ble_eq_true rfl, Nat.le_of_ble_eq_true rfl⟩) (pre_Vw (wc := [(w0, .inr (5, [.ref w1, .ref w2, .int (nI y), .int te, .ref w3, .ref w4, .ref w5, .int nt, .int wb, .ref w6, .ref w7, .ref w8, .int rc, .ref w9, .ref w10, .ref w11, .ref w12, .ref w13, .ref w14, .int fp, .int ft, .int (nI (flN 0 1))]))]) (q0 := 0) hE hX hA hP hD hS [1] (by decide) rfl rfl rfl rfl) rfl rfl hl.1 rfl (lv_room (Nat.le_of_ble_eq_true rfl)) d_MD_tile_80 ⟨Nat.le_of_ble_eq_true rfl, Nat.le_of_ble_eq_true rfl⟩) hP hD hS hA [1] [0] rfl rfl (by decide) (by decide) (fun r_15 u_r_15 H locs hr_15 hP hD hS => ?_)
            obtain rfl : nI 1 = r_15 := hr_15.symm
            have hP : va_P D vwCl [(w2, .inl (cI, 244, .inl gl)), (w0, .inr (5, [.ref w1, .ref w2, .int (nI y), .int te, .ref w3, .ref w4, .ref w5, .int nt, .int wb, .ref w6, .ref w7, .ref w8, .int rc, .ref w9, .ref w10, .ref w11, .ref w12, .ref w13, .ref w14, .int fp, .int ft, .int (nI (flN 1 2))]))] H := hP
            have hD : va_D A [(w2, .inl (cI, 244, .inl gl)), (w0, .inr (5, [.ref w1, .ref w2, .int (nI y), .int te, .ref w3, .ref w4, .ref w5, .int nt, .int wb, .ref w6, .ref w7, .ref w8, .int rc, .ref w9, .ref w10, .ref w11, .ref w12, .ref w13, .ref w14, .int fp, .int ft, .int (nI (flN 1 2))]))] := hD
            refine jn_if_ne (tgt := 108) (a := 1) hx hb d_MD_tile_83 (by decide) (by decide) (fun _ => ?_) (fun c9 => absurd c9 (by decide))
            refine lv_iconst (v := nI 0) hx hb d_MD_tile_108 (by decide +kernel) ?_
            have hP9 := hP.sub (ws' := [(w0, .inr (5, [.ref w1, .ref w2, .int (nI y), .int te, .ref w3, .ref w4, .ref w5, .int nt, .int wb, .ref w6, .ref w7, .ref w8, .int rc, .ref w9, .ref w10, .ref w11, .ref w12, .ref w13, .ref w14, .int fp, .int ft, .int (nI (flN 1 2))])), (w2, .inl (cI, 244, .inl gl))]) [1, 0] rfl
            have hD9 := hD.sub (ws' := [(w0, .inr (5, [.ref w1, .ref w2, .int (nI y), .int te, .ref w3, .ref w4, .ref w5, .int nt, .int wb, .ref w6, .ref w7, .ref w8, .int rc, .ref w9, .ref w10, .ref w11, .ref w12, .ref w13, .ref w14, .int fp, .int ft, .int (nI (flN 1 2))])), (w2, .inl (cI, 244, .inl gl))]) [1, 0] (by decide) rfl
            exact W.iret (v := nI 0) hx hb hr (fun t9 ht hW => ⟨⟨_, (gl, y, nI 2), rfl, (by unfold mlV; rw [if_pos c_53, if_pos (show rtN x z v w = 0 from by unfold rtN; rw [if_neg c_7, if_neg c_17, if_neg c_27, if_pos c_38])]), ⟨by rw [ht]; exact hP9, hD9⟩⟩, hS.F ht⟩) hS.2.2 d_MD_tile_109
          · skip
            refine lv_iconst (v := nI 1) hx hb d_MD_tile_56 (by decide +kernel) ?_
            refine lv_goto (tgt := 61) hx hb d_MD_tile_57 (by decide) ?_
            refine lv_iconst (v := nI 1) hx hb d_MD_tile_61 (by decide +kernel) ?_
            refine cl_i (wr := [(w2, .inl (cI, 244, .inl gl))]) (va_runV (As := [.int (nI 1), .int (nI 1)]) (rest := []) ⟨hx, hb, hml, hown, hw⟩ (k_MD_fails l D cI cJ w0 w1 w2 w3 w4 w5 w6 w7 w8 w9 w10 w11 w12 w13 w14 (nI y) te nt wb rc fp ft th 1 1 _ (by omega)) (cwV 2 hw (gV kw_836 kw_838 kw_20 kw_45 kw_839) rfl rfl rfl (by decide +kernel) ⟨Nat.le_of_ble_eq_true rfl, Nat.le_of_ble_eq_true rfl⟩) (pre_Vw (wc := [(w0, .inr (5, [.ref w1, .ref w2, .int (nI y), .int te, .ref w3, .ref w4, .ref w5, .int nt, .int wb, .ref w6, .ref w7, .ref w8, .int rc, .ref w9, .ref w10, .ref w11, .ref w12, .ref w13, .ref w14, .int fp, .int ft, .int th]))]) (q0 := 0) hE hX hA hP hD hS [0] (by decide) rfl rfl rfl rfl) rfl rfl hl.1 rfl (lv_room (Nat.le_of_ble_eq_true rfl)) d_MD_tile_62 ⟨Nat.le_of_ble_eq_true rfl, Nat.le_of_ble_eq_true rfl⟩) hP hD hS hA [0] [1] rfl rfl (by decide) (by decide) (fun r_16 u_r_16 H locs hr_16 hP hD hS => ?_)
            obtain rfl : nI 1 = r_16 := hr_16.symm
            have hP : va_P D vwCl [(w2, .inl (cI, 244, .inl gl)), (w0, .inr (5, [.ref w1, .ref w2, .int (nI y), .int te, .ref w3, .ref w4, .ref w5, .int nt, .int wb, .ref w6, .ref w7, .ref w8, .int rc, .ref w9, .ref w10, .ref w11, .ref w12, .ref w13, .ref w14, .int fp, .int ft, .int (nI (flN 1 1))]))] H := hP
            have hD : va_D A [(w2, .inl (cI, 244, .inl gl)), (w0, .inr (5, [.ref w1, .ref w2, .int (nI y), .int te, .ref w3, .ref w4, .ref w5, .int nt, .int wb, .ref w6, .ref w7, .ref w8, .int rc, .ref w9, .ref w10, .ref w11, .ref w12, .ref w13, .ref w14, .int fp, .int ft, .int (nI (flN 1 1))]))] := hD
            refine jn_if_ne (tgt := 108) (a := 1) hx hb d_MD_tile_65 (by decide) (by decide) (fun _ => ?_) (fun c9 => absurd c9 (by decide))
            refine lv_iconst (v := nI 0) hx hb d_MD_tile_108 (by decide +kernel) ?_
            have hP9 := hP.sub (ws' := [(w0, .inr (5, [.ref w1, .ref w2, .int (nI y), .int te, .ref w3, .ref w4, .ref w5, .int nt, .int wb, .ref w6, .ref w7, .ref w8, .int rc, .ref w9, .ref w10, .ref w11, .ref w12, .ref w13, .ref w14, .int fp, .int ft, .int (nI (flN 1 1))])), (w2, .inl (cI, 244, .inl gl))]) [1, 0] rfl
            have hD9 := hD.sub (ws' := [(w0, .inr (5, [.ref w1, .ref w2, .int (nI y), .int te, .ref w3, .ref w4, .ref w5, .int nt, .int wb, .ref w6, .ref w7, .ref w8, .int rc, .ref w9, .ref w10, .ref w11, .ref w12, .ref w13, .ref w14, .int fp, .int ft, .int (nI (flN 1 1))])), (w2, .inl (cI, 244, .inl gl))]) [1, 0] (by decide) rfl
            exact W.iret (v := nI 0) hx hb hr (fun t9 ht hW => ⟨⟨_, (gl, y, nI 1), rfl, (by unfold mlV; rw [if_neg c_53]), ⟨by rw [ht]; exact hP9, hD9⟩⟩, hS.F ht⟩) hS.2.2 d_MD_tile_109
        · skip
          refine lv_iconst (v := nI 1) hx hb d_MD_tile_41 (by decide +kernel) ?_
          refine lv_goto (tgt := 46) hx hb d_MD_tile_42 (by decide) ?_
          refine lv_istore (lv' := [(5, .int (nI 1)), (0, .ref w0), (1, .int x), (2, .int z), (3, .int v), (4, .int w)]) hx hb d_MD_tile_46 hl (by decide) rfl (fun ls hl => ?_)
          refine lv_aload_n hx hb d_MD_tile_48 rfl (lv_at hl 1 rfl) ?_
          refine lv_aload_n hx hb d_MD_tile_49 rfl (lv_at hl 1 rfl) ?_
          refine va_get (D := D) (ci := 5) (v := .int nt) (C := R_MD) (T := T_MD) (N := 22) hx hb hw in_MD hown hE.1 hP 0 rfl rfl 7 (by decide) (hw _ kw_768) (fun _ h9 => h9) rfl d_MD_tile_50 ?_
          refine lv_if_le (tgt := 60) hx hb d_MD_tile_53 (by decide) (fun c_53 => ?_) (fun c_53 => ?_)
          · skip
            refine lv_iconst (v := nI 0) hx hb d_MD_tile_60 (by decide +kernel) ?_
            refine lv_iconst (v := nI 1) hx hb d_MD_tile_61 (by decide +kernel) ?_
            refine cl_i (wr := [(w2, .inl (cI, 244, .inl gl))]) (va_runV (As := [.int (nI 0), .int (nI 1)]) (rest := []) ⟨hx, hb, hml, hown, hw⟩ (k_MD_fails l D cI cJ w0 w1 w2 w3 w4 w5 w6 w7 w8 w9 w10 w11 w12 w13 w14 (nI y) te nt wb rc fp ft th 0 1 _ (by omega)) (cwV 2 hw (gV kw_836 kw_838 kw_20 kw_45 kw_839) rfl rfl rfl (by decide +kernel) ⟨Nat.le_of_ble_eq_true rfl, Nat.le_of_ble_eq_true rfl⟩) (pre_Vw (wc := [(w0, .inr (5, [.ref w1, .ref w2, .int (nI y), .int te, .ref w3, .ref w4, .ref w5, .int nt, .int wb, .ref w6, .ref w7, .ref w8, .int rc, .ref w9, .ref w10, .ref w11, .ref w12, .ref w13, .ref w14, .int fp, .int ft, .int th]))]) (q0 := 0) hE hX hA hP hD hS [0] (by decide) rfl rfl rfl rfl) rfl rfl hl.1 rfl (lv_room (Nat.le_of_ble_eq_true rfl)) d_MD_tile_62 ⟨Nat.le_of_ble_eq_true rfl, Nat.le_of_ble_eq_true rfl⟩) hP hD hS hA [0] [1] rfl rfl (by decide) (by decide) (fun r_17 u_r_17 H locs hr_17 hP hD hS => ?_)
            obtain rfl : nI 0 = r_17 := hr_17.symm
            have hP : va_P D vwCl [(w2, .inl (cI, 244, .inl gl)), (w0, .inr (5, [.ref w1, .ref w2, .int (nI y), .int te, .ref w3, .ref w4, .ref w5, .int nt, .int wb, .ref w6, .ref w7, .ref w8, .int rc, .ref w9, .ref w10, .ref w11, .ref w12, .ref w13, .ref w14, .int fp, .int ft, .int (nI (flN 0 1))]))] H := hP
            have hD : va_D A [(w2, .inl (cI, 244, .inl gl)), (w0, .inr (5, [.ref w1, .ref w2, .int (nI y), .int te, .ref w3, .ref w4, .ref w5, .int nt, .int wb, .ref w6, .ref w7, .ref w8, .int rc, .ref w9, .ref w10, .ref w11, .ref w12, .ref w13, .ref w14, .int fp, .int ft, .int (nI (flN 0 1))]))] := hD
            refine jn_if_ne (tgt := 108) (a := 0) hx hb d_MD_tile_65 (by decide) (by decide) (fun c9 => absurd c9 (by decide)) (fun _ => ?_)
            refine lv_aload_n hx hb d_MD_tile_68 rfl (lv_at hl 1 rfl) ?_
            refine lv_iload hx hb d_MD_tile_69 (lv_at hl 0 rfl) ?_
            refine jn_if_ne (tgt := 78) (a := 1) hx hb d_MD_tile_71 (by decide) (by decide) (fun _ => ?_) (fun c9 => absurd c9 (by decide))
            refine lv_iconst (v := nI 0) hx hb d_MD_tile_78 (by decide +kernel) ?_
            refine lv_iconst (v := nI 2) hx hb d_MD_tile_79 (by decide +kernel) ?_
            refine cl_i (wr := [(w2, .inl (cI, 244, .inl gl))]) (va_runV (As := [.int (nI 0), .int (nI 2)]) (rest := []) ⟨hx, hb, hml, hown, hw⟩ (k_MD_fails l D cI cJ w0 w1 w2 w3 w4 w5 w6 w7 w8 w9 w10 w11 w12 w13 w14 (nI y) te nt wb rc fp ft (nI (flN 0 1)) 0 2 _ (by omega)) (cwV 2 hw (gV kw_836 kw_838 kw_20 kw_45 kw_839) rfl rfl rfl (by decide +kernel) ⟨Nat.le_of_ble_eq_true rfl, Nat.le_of_ble_eq_true rfl⟩) (pre_Vw (wc := [(w0, .inr (5, [.ref w1, .ref w2, .int (nI y), .int te, .ref w3, .ref w4, .ref w5, .int nt, .int wb, .ref w6, .ref w7, .ref w8, .int rc, .ref w9, .ref w10, .ref w11, .ref w12, .ref w13, .ref w14, .int fp, .int ft, .int (nI (flN 0 1))]))]) (q0 := 0) hE hX hA hP hD hS [1] (by decide) rfl rfl rfl rfl) rfl rfl hl.1 rfl (lv_room (Nat.le_of_ble_eq_true rfl)) d_MD_tile_80 ⟨Nat.le_of_ble_eq_true rfl, Nat.le_of_ble_eq_true rfl⟩) hP hD hS hA [1] [0] rfl rfl (by decide) (by decide) (fun r_18 u_r_18 H locs hr_18 hP hD hS => ?_)
            obtain rfl : nI 0 = r_18 := hr_18.symm
            have hP : va_P D vwCl [(w2, .inl (cI, 244, .inl gl)), (w0, .inr (5, [.ref w1, .ref w2, .int (nI y), .int te, .ref w3, .ref w4, .ref w5, .int nt, .int wb, .ref w6, .ref w7, .ref w8, .int rc, .ref w9, .ref w10, .ref w11, .ref w12, .ref w13, .ref w14, .int fp, .int ft, .int (nI (flN 0 2))]))] H := hP
            have hD : va_D A [(w2, .inl (cI, 244, .inl gl)), (w0, .inr (5, [.ref w1, .ref w2, .int (nI y), .int te, .ref w3, .ref w4, .ref w5, .int nt, .int wb, .ref w6, .ref w7, .ref w8, .int rc, .ref w9, .ref w10, .ref w11, .ref w12, .ref w13, .ref w14, .int fp, .int ft, .int (nI (flN 0 2))]))] := hD
            refine jn_if_ne (tgt := 108) (a := 0) hx hb d_MD_tile_83 (by decide) (by decide) (fun c9 => absurd c9 (by decide)) (fun _ => ?_)
            refine lv_aload_n hx hb d_MD_tile_86 rfl (lv_at hl 1 rfl) ?_
            refine lv_aload_n hx hb d_MD_tile_87 rfl (lv_at hl 1 rfl) ?_
            refine va_get (D := D) (ci := 5) (v := .int (nI y)) (C := R_MD) (T := T_MD) (N := 22) hx hb hw in_MD hown hE.1 hP 1 rfl rfl 2 (by decide) (hw _ kw_763) (fun _ h9 => h9) rfl d_MD_tile_88 ?_
            refine lv_bipush (v := nI 60) hx hb d_MD_tile_91 (by decide +kernel) ?_
            refine jn_icmp_ne (tgt := 100) (a := y) (b := 60) hx hb d_MD_tile_93 (by decide) (by omega) (by omega) (fun c_93 => ?_) (fun c_93 => ?_)
            · skip
              refine lv_iconst (v := nI 0) hx hb d_MD_tile_100 (by decide +kernel) ?_
              refine lv_iconst (v := nI 3) hx hb d_MD_tile_101 (by decide +kernel) ?_
              refine cl_i (wr := [(w2, .inl (cI, 244, .inl gl))]) (va_runV (As := [.int (nI 0), .int (nI 3)]) (rest := []) ⟨hx, hb, hml, hown, hw⟩ (k_MD_fails l D cI cJ w0 w1 w2 w3 w4 w5 w6 w7 w8 w9 w10 w11 w12 w13 w14 (nI y) te nt wb rc fp ft (nI (flN 0 2)) 0 3 _ (by omega)) (cwV 2 hw (gV kw_836 kw_838 kw_20 kw_45 kw_839) rfl rfl rfl (by decide +kernel) ⟨Nat.le_of_ble_eq_true rfl, Nat.le_of_ble_eq_true rfl⟩) (pre_Vw (wc := [(w0, .inr (5, [.ref w1, .ref w2, .int (nI y), .int te, .ref w3, .ref w4, .ref w5, .int nt, .int wb, .ref w6, .ref w7, .ref w8, .int rc, .ref w9, .ref w10, .ref w11, .ref w12, .ref w13, .ref w14, .int fp, .int ft, .int (nI (flN 0 2))]))]) (q0 := 0) hE hX hA hP hD hS [1] (by decide) rfl rfl rfl rfl) rfl rfl hl.1 rfl (lv_room (Nat.le_of_ble_eq_true rfl)) d_MD_tile_102 ⟨Nat.le_of_ble_eq_true rfl, Nat.le_of_ble_eq_true rfl⟩) hP hD hS hA [1] [0] rfl rfl (by decide) (by decide) (fun r_19 u_r_19 H locs hr_19 hP hD hS => ?_)
              obtain rfl : nI 0 = r_19 := hr_19.symm
              have hP : va_P D vwCl [(w2, .inl (cI, 244, .inl gl)), (w0, .inr (5, [.ref w1, .ref w2, .int (nI y), .int te, .ref w3, .ref w4, .ref w5, .int nt, .int wb, .ref w6, .ref w7, .ref w8, .int rc, .ref w9, .ref w10, .ref w11, .ref w12, .ref w13, .ref w14, .int fp, .int ft, .int (nI (flN 0 3))]))] H := hP
              have hD : va_D A [(w2, .inl (cI, 244, .inl gl)), (w0, .inr (5, [.ref w1, .ref w2, .int (nI y), .int te, .ref w3, .ref w4, .ref w5, .int nt, .int wb, .ref w6, .ref w7, .ref w8, .int rc, .ref w9, .ref w10, .ref w11, .ref w12, .ref w13, .ref w14, .int fp, .int ft, .int (nI (flN 0 3))]))] := hD
              refine jn_if_eq (tgt := 110) (a := 0) hx hb d_MD_tile_105 (by decide) (by decide) (fun _ => ?_) (fun c9 => absurd c9 (by decide))
              refine lv_aload_n hx hb d_MD_tile_110 rfl (lv_at hl 1 rfl) ?_
              refine lv_iload_n hx hb d_MD_tile_111 rfl (lv_at hl 2 rfl) ?_
              refine lv_iload_n hx hb d_MD_tile_112 rfl (lv_at hl 3 rfl) ?_
              refine lv_iload_n hx hb d_MD_tile_113 rfl (lv_at hl 4 rfl) ?_
              refine lv_iload hx hb d_MD_tile_114 (lv_at hl 5 rfl) ?_
              refine cl_i (wr := []) (va_runV (As := [.int x, .int z, .int v, .int w]) (rest := []) ⟨hx, hb, hml, hown, hw⟩ (k_MD_add l D cI cJ w0 w1 w2 w3 w4 w5 w6 w7 w8 w9 w10 w11 w12 w13 w14 y te nt wb rc fp ft (nI (flN 0 3)) gl x z v w _ (by omega)) (cwV 4 hw (gV kw_847 kw_849 kw_21 kw_45 kw_850) rfl rfl rfl (by decide +kernel) ⟨Nat.le_of_ble_eq_true rfl, Nat.le_of_ble_eq_true rfl⟩) (pre_Vw (wc := [(w0, .inr (5, [.ref w1, .ref w2, .int (nI y), .int te, .ref w3, .ref w4, .ref w5, .int nt, .int wb, .ref w6, .ref w7, .ref w8, .int rc, .ref w9, .ref w10, .ref w11, .ref w12, .ref w13, .ref w14, .int fp, .int ft, .int (nI (flN 0 3))])), (w2, .inl (cI, 244, .inl gl))]) (q0 := 0) hE hX hA hP hD hS [1, 0] (by decide) rfl rfl rfl rfl) rfl rfl hl.1 rfl (lv_room (Nat.le_of_ble_eq_true rfl)) d_MD_tile_116 ⟨Nat.le_of_ble_eq_true rfl, Nat.le_of_ble_eq_true rfl⟩) hP hD hS hA [1, 0] [] rfl rfl (by decide) (by decide) (fun r_20 u_r_20 H locs hr_20 hP hD hS => ?_)
              obtain rfl : nI (y + 1) = r_20 := hr_20.symm
              have hP : va_P D vwCl [(w0, .inr (5, [.ref w1, .ref w2, .int (nI (y + 1)), .int te, .ref w3, .ref w4, .ref w5, .int nt, .int wb, .ref w6, .ref w7, .ref w8, .int rc, .ref w9, .ref w10, .ref w11, .ref w12, .ref w13, .ref w14, .int fp, .int ft, .int (nI (flN 0 3))])), (w2, .inl (cI, 244, .inl (agS gl (y + 1) x z v w)))] H := hP
              have hD : va_D A [(w0, .inr (5, [.ref w1, .ref w2, .int (nI (y + 1)), .int te, .ref w3, .ref w4, .ref w5, .int nt, .int wb, .ref w6, .ref w7, .ref w8, .int rc, .ref w9, .ref w10, .ref w11, .ref w12, .ref w13, .ref w14, .int fp, .int ft, .int (nI (flN 0 3))])), (w2, .inl (cI, 244, .inl (agS gl (y + 1) x z v w)))] := hD
              have hP9 := hP.sub (ws' := [(w0, .inr (5, [.ref w1, .ref w2, .int (nI (y + 1)), .int te, .ref w3, .ref w4, .ref w5, .int nt, .int wb, .ref w6, .ref w7, .ref w8, .int rc, .ref w9, .ref w10, .ref w11, .ref w12, .ref w13, .ref w14, .int fp, .int ft, .int (nI (flN 0 3))])), (w2, .inl (cI, 244, .inl (agS gl (y + 1) x z v w)))]) [0, 1] rfl
              have hD9 := hD.sub (ws' := [(w0, .inr (5, [.ref w1, .ref w2, .int (nI (y + 1)), .int te, .ref w3, .ref w4, .ref w5, .int nt, .int wb, .ref w6, .ref w7, .ref w8, .int rc, .ref w9, .ref w10, .ref w11, .ref w12, .ref w13, .ref w14, .int fp, .int ft, .int (nI (flN 0 3))])), (w2, .inl (cI, 244, .inl (agS gl (y + 1) x z v w)))]) [0, 1] (by decide) rfl
              exact W.iret (v := nI (y + 1)) hx hb hr (fun t9 ht hW => ⟨⟨_, (agS gl (y + 1) x z v w, y + 1, nI 0), rfl, (by unfold mlV; rw [if_pos c_53, if_neg (show ¬ rtN x z v w = 0 from by unfold rtN; rw [if_neg c_7, if_neg c_17, if_neg c_27, if_neg c_38]; decide), if_neg c_93]; try rfl), ⟨by rw [ht]; exact hP9, hD9⟩⟩, hS.F ht⟩) hS.2.2 d_MD_tile_119
            · skip
              refine lv_iconst (v := nI 1) hx hb d_MD_tile_96 (by decide +kernel) ?_
              refine lv_goto (tgt := 101) hx hb d_MD_tile_97 (by decide) ?_
              refine lv_iconst (v := nI 3) hx hb d_MD_tile_101 (by decide +kernel) ?_
              refine cl_i (wr := [(w2, .inl (cI, 244, .inl gl))]) (va_runV (As := [.int (nI 1), .int (nI 3)]) (rest := []) ⟨hx, hb, hml, hown, hw⟩ (k_MD_fails l D cI cJ w0 w1 w2 w3 w4 w5 w6 w7 w8 w9 w10 w11 w12 w13 w14 (nI y) te nt wb rc fp ft (nI (flN 0 2)) 1 3 _ (by omega)) (cwV 2 hw (gV kw_836 kw_838 kw_20 kw_45 kw_839) rfl rfl rfl (by decide +kernel) ⟨Nat.le_of_ble_eq_true rfl, Nat.le_of_ble_eq_true rfl⟩) (pre_Vw (wc := [(w0, .inr (5, [.ref w1, .ref w2, .int (nI y), .int te, .ref w3, .ref w4, .ref w5, .int nt, .int wb, .ref w6, .ref w7, .ref w8, .int rc, .ref w9, .ref w10, .ref w11, .ref w12, .ref w13, .ref w14, .int fp, .int ft, .int (nI (flN 0 2))]))]) (q0 := 0) hE hX hA hP hD hS [1] (by decide) rfl rfl rfl rfl) rfl rfl hl.1 rfl (lv_room (Nat.le_of_ble_eq_true rfl)) d_MD_tile_102 ⟨Nat.le_of_ble_eq_true rfl, Nat.le_of_ble_eq_true rfl⟩) hP hD hS hA [1] [0] rfl rfl (by decide) (by decide) (fun r_21 u_r_21 H locs hr_21 hP hD hS => ?_)
              obtain rfl : nI 1 = r_21 := hr_21.symm
              have hP : va_P D vwCl [(w2, .inl (cI, 244, .inl gl)), (w0, .inr (5, [.ref w1, .ref w2, .int (nI y), .int te, .ref w3, .ref w4, .ref w5, .int nt, .int wb, .ref w6, .ref w7, .ref w8, .int rc, .ref w9, .ref w10, .ref w11, .ref w12, .ref w13, .ref w14, .int fp, .int ft, .int (nI (flN 1 3))]))] H := hP
              have hD : va_D A [(w2, .inl (cI, 244, .inl gl)), (w0, .inr (5, [.ref w1, .ref w2, .int (nI y), .int te, .ref w3, .ref w4, .ref w5, .int nt, .int wb, .ref w6, .ref w7, .ref w8, .int rc, .ref w9, .ref w10, .ref w11, .ref w12, .ref w13, .ref w14, .int fp, .int ft, .int (nI (flN 1 3))]))] := hD
              refine jn_if_eq (tgt := 110) (a := 1) hx hb d_MD_tile_105 (by decide) (by decide) (fun c9 => absurd c9 (by decide)) (fun _ => ?_)
              refine lv_iconst (v := nI 0) hx hb d_MD_tile_108 (by decide +kernel) ?_
              have hP9 := hP.sub (ws' := [(w0, .inr (5, [.ref w1, .ref w2, .int (nI y), .int te, .ref w3, .ref w4, .ref w5, .int nt, .int wb, .ref w6, .ref w7, .ref w8, .int rc, .ref w9, .ref w10, .ref w11, .ref w12, .ref w13, .ref w14, .int fp, .int ft, .int (nI (flN 1 3))])), (w2, .inl (cI, 244, .inl gl))]) [1, 0] rfl
              have hD9 := hD.sub (ws' := [(w0, .inr (5, [.ref w1, .ref w2, .int (nI y), .int te, .ref w3, .ref w4, .ref w5, .int nt, .int wb, .ref w6, .ref w7, .ref w8, .int rc, .ref w9, .ref w10, .ref w11, .ref w12, .ref w13, .ref w14, .int fp, .int ft, .int (nI (flN 1 3))])), (w2, .inl (cI, 244, .inl gl))]) [1, 0] (by decide) rfl
              exact W.iret (v := nI 0) hx hb hr (fun t9 ht hW => ⟨⟨_, (gl, y, nI 3), rfl, (by unfold mlV; rw [if_pos c_53, if_neg (show ¬ rtN x z v w = 0 from by unfold rtN; rw [if_neg c_7, if_neg c_17, if_neg c_27, if_neg c_38]; decide), if_pos c_93]; try rfl), ⟨by rw [ht]; exact hP9, hD9⟩⟩, hS.F ht⟩) hS.2.2 d_MD_tile_109
          · skip
            refine lv_iconst (v := nI 1) hx hb d_MD_tile_56 (by decide +kernel) ?_
            refine lv_goto (tgt := 61) hx hb d_MD_tile_57 (by decide) ?_
            refine lv_iconst (v := nI 1) hx hb d_MD_tile_61 (by decide +kernel) ?_
            refine cl_i (wr := [(w2, .inl (cI, 244, .inl gl))]) (va_runV (As := [.int (nI 1), .int (nI 1)]) (rest := []) ⟨hx, hb, hml, hown, hw⟩ (k_MD_fails l D cI cJ w0 w1 w2 w3 w4 w5 w6 w7 w8 w9 w10 w11 w12 w13 w14 (nI y) te nt wb rc fp ft th 1 1 _ (by omega)) (cwV 2 hw (gV kw_836 kw_838 kw_20 kw_45 kw_839) rfl rfl rfl (by decide +kernel) ⟨Nat.le_of_ble_eq_true rfl, Nat.le_of_ble_eq_true rfl⟩) (pre_Vw (wc := [(w0, .inr (5, [.ref w1, .ref w2, .int (nI y), .int te, .ref w3, .ref w4, .ref w5, .int nt, .int wb, .ref w6, .ref w7, .ref w8, .int rc, .ref w9, .ref w10, .ref w11, .ref w12, .ref w13, .ref w14, .int fp, .int ft, .int th]))]) (q0 := 0) hE hX hA hP hD hS [0] (by decide) rfl rfl rfl rfl) rfl rfl hl.1 rfl (lv_room (Nat.le_of_ble_eq_true rfl)) d_MD_tile_62 ⟨Nat.le_of_ble_eq_true rfl, Nat.le_of_ble_eq_true rfl⟩) hP hD hS hA [0] [1] rfl rfl (by decide) (by decide) (fun r_22 u_r_22 H locs hr_22 hP hD hS => ?_)
            obtain rfl : nI 1 = r_22 := hr_22.symm
            have hP : va_P D vwCl [(w2, .inl (cI, 244, .inl gl)), (w0, .inr (5, [.ref w1, .ref w2, .int (nI y), .int te, .ref w3, .ref w4, .ref w5, .int nt, .int wb, .ref w6, .ref w7, .ref w8, .int rc, .ref w9, .ref w10, .ref w11, .ref w12, .ref w13, .ref w14, .int fp, .int ft, .int (nI (flN 1 1))]))] H := hP
            have hD : va_D A [(w2, .inl (cI, 244, .inl gl)), (w0, .inr (5, [.ref w1, .ref w2, .int (nI y), .int te, .ref w3, .ref w4, .ref w5, .int nt, .int wb, .ref w6, .ref w7, .ref w8, .int rc, .ref w9, .ref w10, .ref w11, .ref w12, .ref w13, .ref w14, .int fp, .int ft, .int (nI (flN 1 1))]))] := hD
            refine jn_if_ne (tgt := 108) (a := 1) hx hb d_MD_tile_65 (by decide) (by decide) (fun _ => ?_) (fun c9 => absurd c9 (by decide))
            refine lv_iconst (v := nI 0) hx hb d_MD_tile_108 (by decide +kernel) ?_
            have hP9 := hP.sub (ws' := [(w0, .inr (5, [.ref w1, .ref w2, .int (nI y), .int te, .ref w3, .ref w4, .ref w5, .int nt, .int wb, .ref w6, .ref w7, .ref w8, .int rc, .ref w9, .ref w10, .ref w11, .ref w12, .ref w13, .ref w14, .int fp, .int ft, .int (nI (flN 1 1))])), (w2, .inl (cI, 244, .inl gl))]) [1, 0] rfl
            have hD9 := hD.sub (ws' := [(w0, .inr (5, [.ref w1, .ref w2, .int (nI y), .int te, .ref w3, .ref w4, .ref w5, .int nt, .int wb, .ref w6, .ref w7, .ref w8, .int rc, .ref w9, .ref w10, .ref w11, .ref w12, .ref w13, .ref w14, .int fp, .int ft, .int (nI (flN 1 1))])), (w2, .inl (cI, 244, .inl gl))]) [1, 0] (by decide) rfl
            exact W.iret (v := nI 0) hx hb hr (fun t9 ht hW => ⟨⟨_, (gl, y, nI 1), rfl, (by unfold mlV; rw [if_neg c_53]), ⟨by rw [ht]; exact hP9, hD9⟩⟩, hS.F ht⟩) hS.2.2 d_MD_tile_109
set_option maxHeartbeats 4000000 in
set_option maxRecDepth 100000 in
/-- attach -/
theorem k_MD_attach (l : Launch) (D : va_G) (cI cJ : ClassId) (w0 : Nat) (w1 : Nat) (w2 : Nat) (w3 : Nat) (w4 : Nat) (w5 : Nat) (w6 : Nat) (w7 : Nat) (w8 : Nat) (w9 : Nat) (w10 : Nat) (w11 : Nat) (w12 : Nat) (w13 : Nat) (w14 : Nat) (y : Nat) (te : Int32) (nt : Int32) (wb : Int32) (rc : Int32) (fp : Int32) (ft : Int32) (th : Int32) (sg : Nat → Int32) (gl : Nat → Int32) (fi : Nat → Int32) (ip : Nat → Int32) (se : Nat → Int32) (x : Int32) (v : Int32) (z : Int32) (sz : Nat) (hy : y ≤ 60) (hfi : okFi fi) (hgl : okGl gl) : Met l y_MD_attach ws_MD_attach ({ frames := 6, cells := 0, slots := 0, locals := 141 } : Room) (va_Pc [.ref w0, .int x, .int v, .int z] (Pw D cI cJ [(w0, .inr (5, [.ref w1, .ref w2, .int (nI y), .int te, .ref w3, .ref w4, .ref w5, .int nt, .int wb, .ref w6, .ref w7, .ref w8, .int rc, .ref w9, .ref w10, .ref w11, .ref w12, .ref w13, .ref w14, .int fp, .int ft, .int th])), (w1, .inl (cI, 100, .inl sg)), (w2, .inl (cI, 244, .inl gl)), (w3, .inl (cI, 1600, .inl fi)), (w4, .inl (cI, 1600, .inl ip)), (w5, .inl (cI, 1600, .inl se))] sz)) (va_Qi (fun (r : Int32) (u9 : MS) => (r, u9) = maV sg gl fi ip se nt wb (nI y) te x v z) (fun u9 t9 => Bw D (va_A [(w0, .inr (5, [.ref w1, .ref w2, .int (nI y), .int te, .ref w3, .ref w4, .ref w5, .int nt, .int wb, .ref w6, .ref w7, .ref w8, .int rc, .ref w9, .ref w10, .ref w11, .ref w12, .ref w13, .ref w14, .int fp, .int ft, .int th])), (w1, .inl (cI, 100, .inl sg)), (w2, .inl (cI, 244, .inl gl)), (w3, .inl (cI, 1600, .inl fi)), (w4, .inl (cI, 1600, .inl ip)), (w5, .inl (cI, 1600, .inl se))] sz) [(w0, .inr (5, [.ref w1, .ref w2, .int (nI y), .int te, .ref w3, .ref w4, .ref w5, .int u9.2.2.2.1, .int u9.2.2.2.2.1, .ref w6, .ref w7, .ref w8, .int rc, .ref w9, .ref w10, .ref w11, .ref w12, .ref w13, .ref w14, .int fp, .int ft, .int u9.2.2.2.2.2])), (w1, .inl (cI, 100, .inl sg)), (w2, .inl (cI, 244, .inl gl)), (w3, .inl (cI, 1600, .inl u9.1)), (w4, .inl (cI, 1600, .inl u9.2.1)), (w5, .inl (cI, 1600, .inl u9.2.2.1))] t9) (va_A [(w0, .inr (5, [.ref w1, .ref w2, .int (nI y), .int te, .ref w3, .ref w4, .ref w5, .int nt, .int wb, .ref w6, .ref w7, .ref w8, .int rc, .ref w9, .ref w10, .ref w11, .ref w12, .ref w13, .ref w14, .int fp, .int ft, .int th])), (w1, .inl (cI, 100, .inl sg)), (w2, .inl (cI, 244, .inl gl)), (w3, .inl (cI, 1600, .inl fi)), (w4, .inl (cI, 1600, .inl ip)), (w5, .inl (cI, 1600, .inl se))] sz)) 0 0 (va_A [(w0, .inr (5, [.ref w1, .ref w2, .int (nI y), .int te, .ref w3, .ref w4, .ref w5, .int nt, .int wb, .ref w6, .ref w7, .ref w8, .int rc, .ref w9, .ref w10, .ref w11, .ref w12, .ref w13, .ref w14, .int fp, .int ft, .int th])), (w1, .inl (cI, 100, .inl sg)), (w2, .inl (cI, 244, .inl gl)), (w3, .inl (cI, 1600, .inl fi)), (w4, .inl (cI, 1600, .inl ip)), (w5, .inl (cI, 1600, .inl se))] sz) := by
  refine Met.ofW (cc := c_MD_attach) (maxL := 5) (ret := (some .boolean)) (by decide) rfl ?_
  intro p e s m args below meth c s₁ B hml hv
  obtain ⟨rfl, hsz, hE, hP, hD0, hX⟩ := hv
  have hx := B.exec
  have hb := B.bytes
  have hr := B.returns
  have hw : ∀ w ∈ gw, w.before _ s = true := fun w h => atoms_spec (ws := ws_MD_attach) B.pre w (List.mem_cons_of_mem _ h)
  have hown : s.vm.findClass R_MD = some m.cls := findClass_of_methodNamed B.named
  have hlocks := B.notSynchronized
  subst hsz
  have hD := hD0.self (sz := s.heap.size)
  generalize hAe : va_A [(w0, .inr (5, [.ref w1, .ref w2, .int (nI y), .int te, .ref w3, .ref w4, .ref w5, .int nt, .int wb, .ref w6, .ref w7, .ref w8, .int rc, .ref w9, .ref w10, .ref w11, .ref w12, .ref w13, .ref w14, .int fp, .int ft, .int th])), (w1, .inl (cI, 100, .inl sg)), (w2, .inl (cI, 244, .inl gl)), (w3, .inl (cI, 1600, .inl fi)), (w4, .inl (cI, 1600, .inl ip)), (w5, .inl (cI, 1600, .inl se))] s.heap.size = A at hD hX ⊢
  have hA : ∀ q : Nat, s.heap.size ≤ q → A q := fun q h => by rw [← hAe]; exact Or.inr h
  have hS : va_S A s.heap s.heap [] := va_S.rf
  have hP : va_P D vwCl [(w0, .inr (5, [.ref w1, .ref w2, .int (nI y), .int te, .ref w3, .ref w4, .ref w5, .int nt, .int wb, .ref w6, .ref w7, .ref w8, .int rc, .ref w9, .ref w10, .ref w11, .ref w12, .ref w13, .ref w14, .int fp, .int ft, .int th])), (w1, .inl (cI, 100, .inl sg)), (w2, .inl (cI, 244, .inl gl)), (w3, .inl (cI, 1600, .inl fi)), (w4, .inl (cI, 1600, .inl ip)), (w5, .inl (cI, 1600, .inl se))] s.heap := hP
  have hl := lv_entry ([.ref w0, .int x, .int v, .int z]) (n := 5) (Nat.le_of_ble_eq_true rfl)
  rw [lg_entry_eq]
  generalize (lg_sl ([.ref w0, .int x, .int v, .int z]) ++ List.replicate (5 - (lg_sl ([.ref w0, .int x, .int v, .int z])).length) Slot.unset).toArray = ls at hl ⊢
  have hl : lv_has ls 5 [(0, .ref w0), (1, .int x), (2, .int v), (3, .int z)] := hl
  refine lv_aload_n hx hb d_MD_attach_0 rfl (lv_at hl 0 rfl) ?_
  refine lv_iload_n hx hb d_MD_attach_1 rfl (lv_at hl 1 rfl) ?_
  refine lv_iload_n hx hb d_MD_attach_2 rfl (lv_at hl 2 rfl) ?_
  refine vp_callSi (va_Run.run (va_runS (As := [.int x, .int v]) (rest := [.ref w0]) ⟨hx, hb, hml, hown, hw⟩ (k_MD_isPlace l D cI cJ x v) (va_cwS 2 hw (gS kw_859 kw_860 kw_45 kw_861) rfl rfl rfl (by decide +kernel) ⟨Nat.le_of_ble_eq_true rfl, Nat.le_of_ble_eq_true rfl⟩) (pre_Sp (wc := []) hE hX hP hS [] rfl) rfl rfl hl.1 rfl (lv_room (Nat.le_of_ble_eq_true rfl)) d_MD_attach_3 ⟨Nat.le_of_ble_eq_true rfl, Nat.le_of_ble_eq_true rfl⟩)) (fun r_1 hr_1 => ?_)
  obtain rfl : nI (isP x v) = r_1 := hr_1.symm
  refine jn_if_ne (tgt := 13) (a := (isP x v)) hx hb d_MD_attach_6 (by decide) (by have := isP_le x v; omega) (fun c_6 => ?_) (fun c_6 => ?_)
  · skip
    refine lv_iconst (v := nI 0) hx hb d_MD_attach_13 (by decide +kernel) ?_
    refine lv_iconst (v := nI 1) hx hb d_MD_attach_14 (by decide +kernel) ?_
    refine cl_i (wr := [(w1, .inl (cI, 100, .inl sg)), (w2, .inl (cI, 244, .inl gl)), (w3, .inl (cI, 1600, .inl fi)), (w4, .inl (cI, 1600, .inl ip)), (w5, .inl (cI, 1600, .inl se))]) (va_runV (As := [.int (nI 0), .int (nI 1)]) (rest := []) ⟨hx, hb, hml, hown, hw⟩ (k_MD_fails l D cI cJ w0 w1 w2 w3 w4 w5 w6 w7 w8 w9 w10 w11 w12 w13 w14 (nI y) te nt wb rc fp ft th 0 1 _ (by omega)) (cwV 2 hw (gV kw_836 kw_838 kw_20 kw_45 kw_839) rfl rfl rfl (by decide +kernel) ⟨Nat.le_of_ble_eq_true rfl, Nat.le_of_ble_eq_true rfl⟩) (pre_Vw (wc := [(w0, .inr (5, [.ref w1, .ref w2, .int (nI y), .int te, .ref w3, .ref w4, .ref w5, .int nt, .int wb, .ref w6, .ref w7, .ref w8, .int rc, .ref w9, .ref w10, .ref w11, .ref w12, .ref w13, .ref w14, .int fp, .int ft, .int th]))]) (q0 := 0) hE hX hA hP hD hS [0] (by decide) rfl rfl rfl rfl) rfl rfl hl.1 rfl (lv_room (Nat.le_of_ble_eq_true rfl)) d_MD_attach_15 ⟨Nat.le_of_ble_eq_true rfl, Nat.le_of_ble_eq_true rfl⟩) hP hD hS hA [0] [1, 2, 3, 4, 5] rfl rfl (by decide) (by decide) (fun r_2 u_r_2 H locs hr_2 hP hD hS => ?_)
    obtain rfl : nI 0 = r_2 := hr_2.symm
    have hP : va_P D vwCl [(w1, .inl (cI, 100, .inl sg)), (w2, .inl (cI, 244, .inl gl)), (w3, .inl (cI, 1600, .inl fi)), (w4, .inl (cI, 1600, .inl ip)), (w5, .inl (cI, 1600, .inl se)), (w0, .inr (5, [.ref w1, .ref w2, .int (nI y), .int te, .ref w3, .ref w4, .ref w5, .int nt, .int wb, .ref w6, .ref w7, .ref w8, .int rc, .ref w9, .ref w10, .ref w11, .ref w12, .ref w13, .ref w14, .int fp, .int ft, .int (nI (flN 0 1))]))] H := hP
    have hD : va_D A [(w1, .inl (cI, 100, .inl sg)), (w2, .inl (cI, 244, .inl gl)), (w3, .inl (cI, 1600, .inl fi)), (w4, .inl (cI, 1600, .inl ip)), (w5, .inl (cI, 1600, .inl se)), (w0, .inr (5, [.ref w1, .ref w2, .int (nI y), .int te, .ref w3, .ref w4, .ref w5, .int nt, .int wb, .ref w6, .ref w7, .ref w8, .int rc, .ref w9, .ref w10, .ref w11, .ref w12, .ref w13, .ref w14, .int fp, .int ft, .int (nI (flN 0 1))]))] := hD
    refine jn_if_ne (tgt := 42) (a := 0) hx hb d_MD_attach_18 (by decide) (by decide) (fun c9 => absurd c9 (by decide)) (fun _ => ?_)
    refine lv_aload_n hx hb d_MD_attach_21 rfl (lv_at hl 0 rfl) ?_
    refine lv_aload_n hx hb d_MD_attach_22 rfl (lv_at hl 0 rfl) ?_
    refine lv_iload_n hx hb d_MD_attach_23 rfl (lv_at hl 3 rfl) ?_
    refine vp_callSi (va_Run.run (va_runV (As := [.int z]) (rest := [.ref w0]) ⟨hx, hb, hml, hown, hw⟩ (k_MD_isType l D cI cJ w0 w1 w2 w3 w4 w5 w6 w7 w8 w9 w10 w11 w12 w13 w14 (nI y) te nt wb rc fp ft (nI (flN 0 1)) z) (cwV 1 hw (gV kw_862 kw_864 kw_22 kw_45 kw_865) rfl rfl rfl (by decide +kernel) ⟨Nat.le_of_ble_eq_true rfl, Nat.le_of_ble_eq_true rfl⟩) (pre_Vp (wc := [(w0, .inr (5, [.ref w1, .ref w2, .int (nI y), .int te, .ref w3, .ref w4, .ref w5, .int nt, .int wb, .ref w6, .ref w7, .ref w8, .int rc, .ref w9, .ref w10, .ref w11, .ref w12, .ref w13, .ref w14, .int fp, .int ft, .int (nI (flN 0 1))]))]) (q0 := 0) hE hX hP hS [5] rfl rfl rfl) rfl rfl hl.1 rfl (lv_room (Nat.le_of_ble_eq_true rfl)) d_MD_attach_24 ⟨Nat.le_of_ble_eq_true rfl, Nat.le_of_ble_eq_true rfl⟩)) (fun r_3 hr_3 => ?_)
    obtain rfl : nI (wiN z (nI 1) (nI y)) = r_3 := hr_3.symm
    refine jn_if_ne (tgt := 34) (a := (wiN z (nI 1) (nI y))) hx hb d_MD_attach_27 (by decide) (by have := wiN_le z (nI 1) (nI y); omega) (fun c_27 => ?_) (fun c_27 => ?_)
    · skip
      refine lv_iconst (v := nI 0) hx hb d_MD_attach_34 (by decide +kernel) ?_
      refine lv_iconst (v := nI 2) hx hb d_MD_attach_35 (by decide +kernel) ?_
      refine cl_i (wr := [(w1, .inl (cI, 100, .inl sg)), (w2, .inl (cI, 244, .inl gl)), (w3, .inl (cI, 1600, .inl fi)), (w4, .inl (cI, 1600, .inl ip)), (w5, .inl (cI, 1600, .inl se))]) (va_runV (As := [.int (nI 0), .int (nI 2)]) (rest := []) ⟨hx, hb, hml, hown, hw⟩ (k_MD_fails l D cI cJ w0 w1 w2 w3 w4 w5 w6 w7 w8 w9 w10 w11 w12 w13 w14 (nI y) te nt wb rc fp ft (nI (flN 0 1)) 0 2 _ (by omega)) (cwV 2 hw (gV kw_836 kw_838 kw_20 kw_45 kw_839) rfl rfl rfl (by decide +kernel) ⟨Nat.le_of_ble_eq_true rfl, Nat.le_of_ble_eq_true rfl⟩) (pre_Vw (wc := [(w0, .inr (5, [.ref w1, .ref w2, .int (nI y), .int te, .ref w3, .ref w4, .ref w5, .int nt, .int wb, .ref w6, .ref w7, .ref w8, .int rc, .ref w9, .ref w10, .ref w11, .ref w12, .ref w13, .ref w14, .int fp, .int ft, .int (nI (flN 0 1))]))]) (q0 := 0) hE hX hA hP hD hS [5] (by decide) rfl rfl rfl rfl) rfl rfl hl.1 rfl (lv_room (Nat.le_of_ble_eq_true rfl)) d_MD_attach_36 ⟨Nat.le_of_ble_eq_true rfl, Nat.le_of_ble_eq_true rfl⟩) hP hD hS hA [5] [0, 1, 2, 3, 4] rfl rfl (by decide) (by decide) (fun r_4 u_r_4 H locs hr_4 hP hD hS => ?_)
      obtain rfl : nI 0 = r_4 := hr_4.symm
      have hP : va_P D vwCl [(w1, .inl (cI, 100, .inl sg)), (w2, .inl (cI, 244, .inl gl)), (w3, .inl (cI, 1600, .inl fi)), (w4, .inl (cI, 1600, .inl ip)), (w5, .inl (cI, 1600, .inl se)), (w0, .inr (5, [.ref w1, .ref w2, .int (nI y), .int te, .ref w3, .ref w4, .ref w5, .int nt, .int wb, .ref w6, .ref w7, .ref w8, .int rc, .ref w9, .ref w10, .ref w11, .ref w12, .ref w13, .ref w14, .int fp, .int ft, .int (nI (flN 0 2))]))] H := hP
      have hD : va_D A [(w1, .inl (cI, 100, .inl sg)), (w2, .inl (cI, 244, .inl gl)), (w3, .inl (cI, 1600, .inl fi)), (w4, .inl (cI, 1600, .inl ip)), (w5, .inl (cI, 1600, .inl se)), (w0, .inr (5, [.ref w1, .ref w2, .int (nI y), .int te, .ref w3, .ref w4, .ref w5, .int nt, .int wb, .ref w6, .ref w7, .ref w8, .int rc, .ref w9, .ref w10, .ref w11, .ref w12, .ref w13, .ref w14, .int fp, .int ft, .int (nI (flN 0 2))]))] := hD
      refine jn_if_eq (tgt := 44) (a := 0) hx hb d_MD_attach_39 (by decide) (by decide) (fun _ => ?_) (fun c9 => absurd c9 (by decide))
      obtain ⟨a9, b9, ha9, hb9, hxe, hye⟩ := isP_nat c_6
      subst hxe
      subst hye
      obtain ⟨d9, hd1, hd2, rfl⟩ := wiN_nat c_27 (by decide) (by omega)
      refine lv_aload_n hx hb d_MD_attach_44 rfl (lv_at hl 0 rfl) ?_
      refine lv_aload_n hx hb d_MD_attach_45 rfl (lv_at hl 0 rfl) ?_
      refine va_get (D := D) (ci := 5) (v := .ref w3) (C := R_MD) (T := T_MD) (N := 22) hx hb hw in_MD hown hE.1 hP 5 rfl rfl 4 (by decide) (hw _ kw_765) (fun _ h9 => h9) rfl d_MD_attach_46 ?_
      refine lv_bipush (v := nI 40) hx hb d_MD_attach_49 (by decide +kernel) ?_
      refine lv_iload_n hx hb d_MD_attach_51 rfl (lv_at hl 2 rfl) ?_
      refine jn_imul (a := 40) (b := b9) hx hb d_MD_attach_52 ?_
      refine lv_iload_n hx hb d_MD_attach_53 rfl (lv_at hl 1 rfl) ?_
      refine jn_iadd (a := (40 * b9)) (b := a9) hx hb d_MD_attach_54 ?_
      refine lv_iload_n hx hb d_MD_attach_55 rfl (lv_at hl 3 rfl) ?_
      refine vp_callSi (va_Run.run (va_runV (As := [.ref w3, .int (nI ((40 * b9) + a9)), .int (nI d9)]) (rest := []) ⟨hx, hb, hml, hown, hw⟩ (k_MD_may l D cI cJ w0 w1 w2 w3 w4 w5 w6 w7 w8 w9 w10 w11 w12 w13 w14 (nI y) te nt wb rc fp ft (nI (flN 0 2)) sg gl w3 fi ((40 * b9) + a9) d9 (by omega) (by omega) hfi hgl) (cwV 3 hw (gV kw_886 kw_888 kw_25 kw_45 kw_889) rfl rfl rfl (by decide +kernel) ⟨Nat.le_of_ble_eq_true rfl, Nat.le_of_ble_eq_true rfl⟩) (pre_Vp (wc := [(w0, .inr (5, [.ref w1, .ref w2, .int (nI y), .int te, .ref w3, .ref w4, .ref w5, .int nt, .int wb, .ref w6, .ref w7, .ref w8, .int rc, .ref w9, .ref w10, .ref w11, .ref w12, .ref w13, .ref w14, .int fp, .int ft, .int (nI (flN 0 2))])), (w1, .inl (cI, 100, .inl sg)), (w2, .inl (cI, 244, .inl gl)), (w3, .inl (cI, 1600, .inl fi))]) (q0 := 0) hE hX hP hS [5, 0, 1, 2] rfl rfl rfl) rfl rfl hl.1 rfl (lv_room (Nat.le_of_ble_eq_true rfl)) d_MD_attach_56 ⟨Nat.le_of_ble_eq_true rfl, Nat.le_of_ble_eq_true rfl⟩)) (fun r_5 hr_5 => ?_)
      obtain rfl : nI (myN sg gl fi te ((40 * b9) + a9) d9) = r_5 := hr_5.symm
      refine lv_istore (lv' := [(4, .int (nI (myN sg gl fi te ((40 * b9) + a9) d9))), (0, .ref w0), (1, .int (nI a9)), (2, .int (nI b9)), (3, .int (nI d9))]) hx hb d_MD_attach_59 hl (by decide) rfl (fun ls hl => ?_)
      refine lv_iload hx hb d_MD_attach_61 (lv_at hl 0 rfl) ?_
      refine jn_if_eq (tgt := 77) (a := (myN sg gl fi te ((40 * b9) + a9) d9)) hx hb d_MD_attach_63 (by decide) (by have := myN_le sg gl fi te (40 * b9 + a9) d9; omega) (fun c_63 => ?_) (fun c_63 => ?_)
      · skip
        refine lv_iload hx hb d_MD_attach_77 (lv_at hl 0 rfl) ?_
        have hP9 := hP.sub (ws' := [(w0, .inr (5, [.ref w1, .ref w2, .int (nI y), .int te, .ref w3, .ref w4, .ref w5, .int nt, .int wb, .ref w6, .ref w7, .ref w8, .int rc, .ref w9, .ref w10, .ref w11, .ref w12, .ref w13, .ref w14, .int fp, .int ft, .int (nI (flN 0 2))])), (w1, .inl (cI, 100, .inl sg)), (w2, .inl (cI, 244, .inl gl)), (w3, .inl (cI, 1600, .inl fi)), (w4, .inl (cI, 1600, .inl ip)), (w5, .inl (cI, 1600, .inl se))]) [5, 0, 1, 2, 3, 4] rfl
        have hD9 := hD.sub (ws' := [(w0, .inr (5, [.ref w1, .ref w2, .int (nI y), .int te, .ref w3, .ref w4, .ref w5, .int nt, .int wb, .ref w6, .ref w7, .ref w8, .int rc, .ref w9, .ref w10, .ref w11, .ref w12, .ref w13, .ref w14, .int fp, .int ft, .int (nI (flN 0 2))])), (w1, .inl (cI, 100, .inl sg)), (w2, .inl (cI, 244, .inl gl)), (w3, .inl (cI, 1600, .inl fi)), (w4, .inl (cI, 1600, .inl ip)), (w5, .inl (cI, 1600, .inl se))]) [5, 0, 1, 2, 3, 4] (by decide) rfl
        exact W.zret (v := nI (myN sg gl fi te ((40 * b9) + a9) d9)) hx hb hr (nar_bool (myN_le _ _ _ _ _ _)) (fun t9 ht hW => ⟨⟨_, (fi, ip, se, nt, wb, nI 0), rfl, (by unfold maV; rw [nn_nI (show a9 < 2 ^ 31 by omega), nn_nI (show b9 < 2 ^ 31 by omega), nn_nI (show d9 < 2 ^ 31 by omega), if_neg c_6, if_neg c_27, if_pos c_63, c_63]), ⟨by rw [ht]; exact hP9, hD9⟩⟩, hS.F ht⟩) hS.2.2 d_MD_attach_79
      · skip
        refine lv_aload_n hx hb d_MD_attach_66 rfl (lv_at hl 1 rfl) ?_
        refine lv_bipush (v := nI 40) hx hb d_MD_attach_67 (by decide +kernel) ?_
        refine lv_iload_n hx hb d_MD_attach_69 rfl (lv_at hl 3 rfl) ?_
        refine jn_imul (a := 40) (b := b9) hx hb d_MD_attach_70 ?_
        refine lv_iload_n hx hb d_MD_attach_71 rfl (lv_at hl 2 rfl) ?_
        refine jn_iadd (a := (40 * b9)) (b := a9) hx hb d_MD_attach_72 ?_
        refine lv_iload_n hx hb d_MD_attach_73 rfl (lv_at hl 4 rfl) ?_
        refine cl_v (wr := []) (va_runV (As := [.int (nI ((40 * b9) + a9)), .int (nI d9)]) (rest := []) ⟨hx, hb, hml, hown, hw⟩ (k_MD_put l D cI cJ w0 w1 w2 w3 w4 w5 w6 w7 w8 w9 w10 w11 w12 w13 w14 (nI y) te nt wb rc fp ft (nI (flN 0 2)) sg gl fi ip se ((40 * b9) + a9) d9 _ (by omega) (by omega) hfi hgl) (cwV 2 hw (gV kw_905 kw_907 kw_29 kw_45 kw_908) rfl rfl rfl (by decide +kernel) ⟨Nat.le_of_ble_eq_true rfl, Nat.le_of_ble_eq_true rfl⟩) (pre_Vw (wc := [(w0, .inr (5, [.ref w1, .ref w2, .int (nI y), .int te, .ref w3, .ref w4, .ref w5, .int nt, .int wb, .ref w6, .ref w7, .ref w8, .int rc, .ref w9, .ref w10, .ref w11, .ref w12, .ref w13, .ref w14, .int fp, .int ft, .int (nI (flN 0 2))])), (w1, .inl (cI, 100, .inl sg)), (w2, .inl (cI, 244, .inl gl)), (w3, .inl (cI, 1600, .inl fi)), (w4, .inl (cI, 1600, .inl ip)), (w5, .inl (cI, 1600, .inl se))]) (q0 := 0) hE hX hA hP hD hS [5, 0, 1, 2, 3, 4] (by decide) rfl rfl rfl rfl) rfl rfl hl.1 rfl (lv_room (Nat.le_of_ble_eq_true rfl)) d_MD_attach_74 ⟨Nat.le_of_ble_eq_true rfl, Nat.le_of_ble_eq_true rfl⟩) hP hD hS hA [5, 0, 1, 2, 3, 4] [] rfl rfl (by decide) (by decide) (fun u_r_6 H locs hr_6 hP hD hS => ?_)
        have hP : va_P D vwCl [(w0, .inr (5, [.ref w1, .ref w2, .int (nI y), .int te, .ref w3, .ref w4, .ref w5, .int (nt + nI 1), .int (nI 1), .ref w6, .ref w7, .ref w8, .int rc, .ref w9, .ref w10, .ref w11, .ref w12, .ref w13, .ref w14, .int fp, .int ft, .int (nI (flN 0 2))])), (w1, .inl (cI, 100, .inl sg)), (w2, .inl (cI, 244, .inl gl)), (w3, .inl (cI, 1600, .inl (upd fi ((40 * b9) + a9) (nI d9)))), (w4, .inl (cI, 1600, .inl u_r_6)), (w5, .inl (cI, 1600, .inl (upd se ((40 * b9) + a9) (nI 0))))] H := hP
        have hD : va_D A [(w0, .inr (5, [.ref w1, .ref w2, .int (nI y), .int te, .ref w3, .ref w4, .ref w5, .int (nt + nI 1), .int (nI 1), .ref w6, .ref w7, .ref w8, .int rc, .ref w9, .ref w10, .ref w11, .ref w12, .ref w13, .ref w14, .int fp, .int ft, .int (nI (flN 0 2))])), (w1, .inl (cI, 100, .inl sg)), (w2, .inl (cI, 244, .inl gl)), (w3, .inl (cI, 1600, .inl (upd fi ((40 * b9) + a9) (nI d9)))), (w4, .inl (cI, 1600, .inl u_r_6)), (w5, .inl (cI, 1600, .inl (upd se ((40 * b9) + a9) (nI 0))))] := hD
        refine lv_iload hx hb d_MD_attach_77 (lv_at hl 0 rfl) ?_
        have hP9 := hP.sub (ws' := [(w0, .inr (5, [.ref w1, .ref w2, .int (nI y), .int te, .ref w3, .ref w4, .ref w5, .int (nt + nI 1), .int (nI 1), .ref w6, .ref w7, .ref w8, .int rc, .ref w9, .ref w10, .ref w11, .ref w12, .ref w13, .ref w14, .int fp, .int ft, .int (nI (flN 0 2))])), (w1, .inl (cI, 100, .inl sg)), (w2, .inl (cI, 244, .inl gl)), (w3, .inl (cI, 1600, .inl (upd fi ((40 * b9) + a9) (nI d9)))), (w4, .inl (cI, 1600, .inl u_r_6)), (w5, .inl (cI, 1600, .inl (upd se ((40 * b9) + a9) (nI 0))))]) [0, 1, 2, 3, 4, 5] rfl
        have hD9 := hD.sub (ws' := [(w0, .inr (5, [.ref w1, .ref w2, .int (nI y), .int te, .ref w3, .ref w4, .ref w5, .int (nt + nI 1), .int (nI 1), .ref w6, .ref w7, .ref w8, .int rc, .ref w9, .ref w10, .ref w11, .ref w12, .ref w13, .ref w14, .int fp, .int ft, .int (nI (flN 0 2))])), (w1, .inl (cI, 100, .inl sg)), (w2, .inl (cI, 244, .inl gl)), (w3, .inl (cI, 1600, .inl (upd fi ((40 * b9) + a9) (nI d9)))), (w4, .inl (cI, 1600, .inl u_r_6)), (w5, .inl (cI, 1600, .inl (upd se ((40 * b9) + a9) (nI 0))))]) [0, 1, 2, 3, 4, 5] (by decide) rfl
        exact W.zret (v := nI (myN sg gl fi te ((40 * b9) + a9) d9)) hx hb hr (nar_bool (myN_le _ _ _ _ _ _)) (fun t9 ht hW => ⟨⟨_, (upd fi (40 * b9 + a9) (nI d9), u_r_6, upd se (40 * b9 + a9) (nI 0), nt + nI 1, nI 1, nI 0), rfl, (by unfold maV; rw [nn_nI (show a9 < 2 ^ 31 by omega), nn_nI (show b9 < 2 ^ 31 by omega), nn_nI (show d9 < 2 ^ 31 by omega), if_neg c_6, if_neg c_27, if_neg c_63, show myN sg gl fi te (40 * b9 + a9) d9 = 1 by have := myN_le sg gl fi te (40 * b9 + a9) d9; omega, hr_6]), ⟨by rw [ht]; exact hP9, hD9⟩⟩, hS.F ht⟩) hS.2.2 d_MD_attach_79
    · skip
      refine lv_iconst (v := nI 1) hx hb d_MD_attach_30 (by decide +kernel) ?_
      refine lv_goto (tgt := 35) hx hb d_MD_attach_31 (by decide) ?_
      refine lv_iconst (v := nI 2) hx hb d_MD_attach_35 (by decide +kernel) ?_
      refine cl_i (wr := [(w1, .inl (cI, 100, .inl sg)), (w2, .inl (cI, 244, .inl gl)), (w3, .inl (cI, 1600, .inl fi)), (w4, .inl (cI, 1600, .inl ip)), (w5, .inl (cI, 1600, .inl se))]) (va_runV (As := [.int (nI 1), .int (nI 2)]) (rest := []) ⟨hx, hb, hml, hown, hw⟩ (k_MD_fails l D cI cJ w0 w1 w2 w3 w4 w5 w6 w7 w8 w9 w10 w11 w12 w13 w14 (nI y) te nt wb rc fp ft (nI (flN 0 1)) 1 2 _ (by omega)) (cwV 2 hw (gV kw_836 kw_838 kw_20 kw_45 kw_839) rfl rfl rfl (by decide +kernel) ⟨Nat.le_of_ble_eq_true rfl, Nat.le_of_ble_eq_true rfl⟩) (pre_Vw (wc := [(w0, .inr (5, [.ref w1, .ref w2, .int (nI y), .int te, .ref w3, .ref w4, .ref w5, .int nt, .int wb, .ref w6, .ref w7, .ref w8, .int rc, .ref w9, .ref w10, .ref w11, .ref w12, .ref w13, .ref w14, .int fp, .int ft, .int (nI (flN 0 1))]))]) (q0 := 0) hE hX hA hP hD hS [5] (by decide) rfl rfl rfl rfl) rfl rfl hl.1 rfl (lv_room (Nat.le_of_ble_eq_true rfl)) d_MD_attach_36 ⟨Nat.le_of_ble_eq_true rfl, Nat.le_of_ble_eq_true rfl⟩) hP hD hS hA [5] [0, 1, 2, 3, 4] rfl rfl (by decide) (by decide) (fun r_7 u_r_7 H locs hr_7 hP hD hS => ?_)
      obtain rfl : nI 1 = r_7 := hr_7.symm
      have hP : va_P D vwCl [(w1, .inl (cI, 100, .inl sg)), (w2, .inl (cI, 244, .inl gl)), (w3, .inl (cI, 1600, .inl fi)), (w4, .inl (cI, 1600, .inl ip)), (w5, .inl (cI, 1600, .inl se)), (w0, .inr (5, [.ref w1, .ref w2, .int (nI y), .int te, .ref w3, .ref w4, .ref w5, .int nt, .int wb, .ref w6, .ref w7, .ref w8, .int rc, .ref w9, .ref w10, .ref w11, .ref w12, .ref w13, .ref w14, .int fp, .int ft, .int (nI (flN 1 2))]))] H := hP
      have hD : va_D A [(w1, .inl (cI, 100, .inl sg)), (w2, .inl (cI, 244, .inl gl)), (w3, .inl (cI, 1600, .inl fi)), (w4, .inl (cI, 1600, .inl ip)), (w5, .inl (cI, 1600, .inl se)), (w0, .inr (5, [.ref w1, .ref w2, .int (nI y), .int te, .ref w3, .ref w4, .ref w5, .int nt, .int wb, .ref w6, .ref w7, .ref w8, .int rc, .ref w9, .ref w10, .ref w11, .ref w12, .ref w13, .ref w14, .int fp, .int ft, .int (nI (flN 1 2))]))] := hD
      refine jn_if_eq (tgt := 44) (a := 1) hx hb d_MD_attach_39 (by decide) (by decide) (fun c9 => absurd c9 (by decide)) (fun _ => ?_)
      refine lv_iconst (v := nI 0) hx hb d_MD_attach_42 (by decide +kernel) ?_
      have hP9 := hP.sub (ws' := [(w0, .inr (5, [.ref w1, .ref w2, .int (nI y), .int te, .ref w3, .ref w4, .ref w5, .int nt, .int wb, .ref w6, .ref w7, .ref w8, .int rc, .ref w9, .ref w10, .ref w11, .ref w12, .ref w13, .ref w14, .int fp, .int ft, .int (nI (flN 1 2))])), (w1, .inl (cI, 100, .inl sg)), (w2, .inl (cI, 244, .inl gl)), (w3, .inl (cI, 1600, .inl fi)), (w4, .inl (cI, 1600, .inl ip)), (w5, .inl (cI, 1600, .inl se))]) [5, 0, 1, 2, 3, 4] rfl
      have hD9 := hD.sub (ws' := [(w0, .inr (5, [.ref w1, .ref w2, .int (nI y), .int te, .ref w3, .ref w4, .ref w5, .int nt, .int wb, .ref w6, .ref w7, .ref w8, .int rc, .ref w9, .ref w10, .ref w11, .ref w12, .ref w13, .ref w14, .int fp, .int ft, .int (nI (flN 1 2))])), (w1, .inl (cI, 100, .inl sg)), (w2, .inl (cI, 244, .inl gl)), (w3, .inl (cI, 1600, .inl fi)), (w4, .inl (cI, 1600, .inl ip)), (w5, .inl (cI, 1600, .inl se))]) [5, 0, 1, 2, 3, 4] (by decide) rfl
      exact W.zret (v := nI 0) hx hb hr (by decide +kernel) (fun t9 ht hW => ⟨⟨_, (fi, ip, se, nt, wb, nI 2), rfl, (by unfold maV; rw [if_neg c_6, if_pos c_27]), ⟨by rw [ht]; exact hP9, hD9⟩⟩, hS.F ht⟩) hS.2.2 d_MD_attach_43
  · skip
    refine lv_iconst (v := nI 1) hx hb d_MD_attach_9 (by decide +kernel) ?_
    refine lv_goto (tgt := 14) hx hb d_MD_attach_10 (by decide) ?_
    refine lv_iconst (v := nI 1) hx hb d_MD_attach_14 (by decide +kernel) ?_
    refine cl_i (wr := [(w1, .inl (cI, 100, .inl sg)), (w2, .inl (cI, 244, .inl gl)), (w3, .inl (cI, 1600, .inl fi)), (w4, .inl (cI, 1600, .inl ip)), (w5, .inl (cI, 1600, .inl se))]) (va_runV (As := [.int (nI 1), .int (nI 1)]) (rest := []) ⟨hx, hb, hml, hown, hw⟩ (k_MD_fails l D cI cJ w0 w1 w2 w3 w4 w5 w6 w7 w8 w9 w10 w11 w12 w13 w14 (nI y) te nt wb rc fp ft th 1 1 _ (by omega)) (cwV 2 hw (gV kw_836 kw_838 kw_20 kw_45 kw_839) rfl rfl rfl (by decide +kernel) ⟨Nat.le_of_ble_eq_true rfl, Nat.le_of_ble_eq_true rfl⟩) (pre_Vw (wc := [(w0, .inr (5, [.ref w1, .ref w2, .int (nI y), .int te, .ref w3, .ref w4, .ref w5, .int nt, .int wb, .ref w6, .ref w7, .ref w8, .int rc, .ref w9, .ref w10, .ref w11, .ref w12, .ref w13, .ref w14, .int fp, .int ft, .int th]))]) (q0 := 0) hE hX hA hP hD hS [0] (by decide) rfl rfl rfl rfl) rfl rfl hl.1 rfl (lv_room (Nat.le_of_ble_eq_true rfl)) d_MD_attach_15 ⟨Nat.le_of_ble_eq_true rfl, Nat.le_of_ble_eq_true rfl⟩) hP hD hS hA [0] [1, 2, 3, 4, 5] rfl rfl (by decide) (by decide) (fun r_8 u_r_8 H locs hr_8 hP hD hS => ?_)
    obtain rfl : nI 1 = r_8 := hr_8.symm
    have hP : va_P D vwCl [(w1, .inl (cI, 100, .inl sg)), (w2, .inl (cI, 244, .inl gl)), (w3, .inl (cI, 1600, .inl fi)), (w4, .inl (cI, 1600, .inl ip)), (w5, .inl (cI, 1600, .inl se)), (w0, .inr (5, [.ref w1, .ref w2, .int (nI y), .int te, .ref w3, .ref w4, .ref w5, .int nt, .int wb, .ref w6, .ref w7, .ref w8, .int rc, .ref w9, .ref w10, .ref w11, .ref w12, .ref w13, .ref w14, .int fp, .int ft, .int (nI (flN 1 1))]))] H := hP
    have hD : va_D A [(w1, .inl (cI, 100, .inl sg)), (w2, .inl (cI, 244, .inl gl)), (w3, .inl (cI, 1600, .inl fi)), (w4, .inl (cI, 1600, .inl ip)), (w5, .inl (cI, 1600, .inl se)), (w0, .inr (5, [.ref w1, .ref w2, .int (nI y), .int te, .ref w3, .ref w4, .ref w5, .int nt, .int wb, .ref w6, .ref w7, .ref w8, .int rc, .ref w9, .ref w10, .ref w11, .ref w12, .ref w13, .ref w14, .int fp, .int ft, .int (nI (flN 1 1))]))] := hD
    refine jn_if_ne (tgt := 42) (a := 1) hx hb d_MD_attach_18 (by decide) (by decide) (fun _ => ?_) (fun c9 => absurd c9 (by decide))
    refine lv_iconst (v := nI 0) hx hb d_MD_attach_42 (by decide +kernel) ?_
    have hP9 := hP.sub (ws' := [(w0, .inr (5, [.ref w1, .ref w2, .int (nI y), .int te, .ref w3, .ref w4, .ref w5, .int nt, .int wb, .ref w6, .ref w7, .ref w8, .int rc, .ref w9, .ref w10, .ref w11, .ref w12, .ref w13, .ref w14, .int fp, .int ft, .int (nI (flN 1 1))])), (w1, .inl (cI, 100, .inl sg)), (w2, .inl (cI, 244, .inl gl)), (w3, .inl (cI, 1600, .inl fi)), (w4, .inl (cI, 1600, .inl ip)), (w5, .inl (cI, 1600, .inl se))]) [5, 0, 1, 2, 3, 4] rfl
    have hD9 := hD.sub (ws' := [(w0, .inr (5, [.ref w1, .ref w2, .int (nI y), .int te, .ref w3, .ref w4, .ref w5, .int nt, .int wb, .ref w6, .ref w7, .ref w8, .int rc, .ref w9, .ref w10, .ref w11, .ref w12, .ref w13, .ref w14, .int fp, .int ft, .int (nI (flN 1 1))])), (w1, .inl (cI, 100, .inl sg)), (w2, .inl (cI, 244, .inl gl)), (w3, .inl (cI, 1600, .inl fi)), (w4, .inl (cI, 1600, .inl ip)), (w5, .inl (cI, 1600, .inl se))]) [5, 0, 1, 2, 3, 4] (by decide) rfl
    exact W.zret (v := nI 0) hx hb hr (by decide +kernel) (fun t9 ht hW => ⟨⟨_, (fi, ip, se, nt, wb, nI 1), rfl, (by unfold maV; rw [if_pos c_6]), ⟨by rw [ht]; exact hP9, hD9⟩⟩, hS.F ht⟩) hS.2.2 d_MD_attach_43
