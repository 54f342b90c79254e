theorem d_MD_drawn_0 : decode c_MD_drawn 0 = .ok (.aload_n 0, 1) := by decide +kernel
theorem d_MD_drawn_1 : decode c_MD_drawn 1 = .ok (.iload_n 1, 1) := by decide +kernel
theorem d_MD_drawn_2 : decode c_MD_drawn 2 = .ok (.ifCond .ge 7, 3) := by decide +kernel
theorem d_MD_drawn_5 : decode c_MD_drawn 5 = .ok (.iconst 1, 1) := by decide +kernel
theorem d_MD_drawn_6 : decode c_MD_drawn 6 = .ok (.goto 4, 3) := by decide +kernel
theorem d_MD_drawn_9 : decode c_MD_drawn 9 = .ok (.iconst 0, 1) := by decide +kernel
theorem d_MD_drawn_10 : decode c_MD_drawn 10 = .ok (.iconst 1, 1) := by decide +kernel
theorem d_MD_drawn_11 : decode c_MD_drawn 11 = .ok (.invokevirtual 105, 3) := by decide +kernel
theorem d_MD_drawn_14 : decode c_MD_drawn 14 = .ok (.ifCond .eq 5, 3) := by decide +kernel
theorem d_MD_drawn_17 : decode c_MD_drawn 17 = .ok (.iconst 0, 1) := by decide +kernel
theorem d_MD_drawn_18 : decode c_MD_drawn 18 = .ok (.ireturn, 1) := by decide +kernel
theorem d_MD_drawn_19 : decode c_MD_drawn 19 = .ok (.iconst 0, 1) := by decide +kernel
theorem d_MD_drawn_20 : decode c_MD_drawn 20 = .ok (.istore_n 3, 1) := by decide +kernel
theorem d_MD_drawn_21 : decode c_MD_drawn 21 = .ok (.iload_n 2, 1) := by decide +kernel
theorem d_MD_drawn_22 : decode c_MD_drawn 22 = .ok (.istore 4, 2) := by decide +kernel
theorem d_MD_drawn_24 : decode c_MD_drawn 24 = .ok (.aload_n 0, 1) := by decide +kernel
theorem d_MD_drawn_25 : decode c_MD_drawn 25 = .ok (.aload_n 0, 1) := by decide +kernel
theorem d_MD_drawn_26 : decode c_MD_drawn 26 = .ok (.getfield 20, 3) := by decide +kernel
theorem d_MD_drawn_29 : decode c_MD_drawn 29 = .ok (.iconst (-1), 1) := by decide +kernel
theorem d_MD_drawn_30 : decode c_MD_drawn 30 = .ok (.invokevirtual 128, 3) := by decide +kernel
theorem d_MD_drawn_33 : decode c_MD_drawn 33 = .ok (.istore 5, 2) := by decide +kernel
theorem d_MD_drawn_35 : decode c_MD_drawn 35 = .ok (.iload_n 3, 1) := by decide +kernel
theorem d_MD_drawn_36 : decode c_MD_drawn 36 = .ok (.iload_n 1, 1) := by decide +kernel
theorem d_MD_drawn_37 : decode c_MD_drawn 37 = .ok (.if_icmp .ge 64, 3) := by decide +kernel
theorem d_MD_drawn_40 : decode c_MD_drawn 40 = .ok (.iload 5, 2) := by decide +kernel
theorem d_MD_drawn_42 : decode c_MD_drawn 42 = .ok (.ifCond .le 59, 3) := by decide +kernel
theorem d_MD_drawn_45 : decode c_MD_drawn 45 = .ok (.ldc 132, 2) := by decide +kernel
theorem d_MD_drawn_47 : decode c_MD_drawn 47 = .ok (.iload 4, 2) := by decide +kernel
theorem d_MD_drawn_49 : decode c_MD_drawn 49 = .ok (.imul, 1) := by decide +kernel
theorem d_MD_drawn_50 : decode c_MD_drawn 50 = .ok (.ldc 133, 2) := by decide +kernel
theorem d_MD_drawn_52 : decode c_MD_drawn 52 = .ok (.iadd, 1) := by decide +kernel
theorem d_MD_drawn_53 : decode c_MD_drawn 53 = .ok (.istore 4, 2) := by decide +kernel
theorem d_MD_drawn_55 : decode c_MD_drawn 55 = .ok (.aload_n 0, 1) := by decide +kernel
theorem d_MD_drawn_56 : decode c_MD_drawn 56 = .ok (.aload_n 0, 1) := by decide +kernel
theorem d_MD_drawn_57 : decode c_MD_drawn 57 = .ok (.getfield 20, 3) := by decide +kernel
theorem d_MD_drawn_60 : decode c_MD_drawn 60 = .ok (.iload 4, 2) := by decide +kernel
theorem d_MD_drawn_62 : decode c_MD_drawn 62 = .ok (.bipush 8, 2) := by decide +kernel
theorem d_MD_drawn_64 : decode c_MD_drawn 64 = .ok (.iushr, 1) := by decide +kernel
theorem d_MD_drawn_65 : decode c_MD_drawn 65 = .ok (.iload 5, 2) := by decide +kernel
theorem d_MD_drawn_67 : decode c_MD_drawn 67 = .ok (.irem, 1) := by decide +kernel
theorem d_MD_drawn_68 : decode c_MD_drawn 68 = .ok (.invokevirtual 128, 3) := by decide +kernel
theorem d_MD_drawn_71 : decode c_MD_drawn 71 = .ok (.pop, 1) := by decide +kernel
theorem d_MD_drawn_72 : decode c_MD_drawn 72 = .ok (.aload_n 0, 1) := by decide +kernel
theorem d_MD_drawn_73 : decode c_MD_drawn 73 = .ok (.aload_n 0, 1) := by decide +kernel
theorem d_MD_drawn_74 : decode c_MD_drawn 74 = .ok (.getfield 92, 3) := by decide +kernel
theorem d_MD_drawn_77 : decode c_MD_drawn 77 = .ok (.aload_n 0, 1) := by decide +kernel
theorem d_MD_drawn_78 : decode c_MD_drawn 78 = .ok (.getfield 95, 3) := by decide +kernel
theorem d_MD_drawn_81 : decode c_MD_drawn 81 = .ok (.invokevirtual 124, 3) := by decide +kernel
theorem d_MD_drawn_84 : decode c_MD_drawn 84 = .ok (.iinc 3 1, 3) := by decide +kernel
theorem d_MD_drawn_87 : decode c_MD_drawn 87 = .ok (.aload_n 0, 1) := by decide +kernel
theorem d_MD_drawn_88 : decode c_MD_drawn 88 = .ok (.aload_n 0, 1) := by decide +kernel
theorem d_MD_drawn_89 : decode c_MD_drawn 89 = .ok (.getfield 20, 3) := by decide +kernel
theorem d_MD_drawn_92 : decode c_MD_drawn 92 = .ok (.iconst (-1), 1) := by decide +kernel
theorem d_MD_drawn_93 : decode c_MD_drawn 93 = .ok (.invokevirtual 128, 3) := by decide +kernel
theorem d_MD_drawn_96 : decode c_MD_drawn 96 = .ok (.istore 5, 2) := by decide +kernel
theorem d_MD_drawn_98 : decode c_MD_drawn 98 = .ok (.goto (-63), 3) := by decide +kernel
theorem d_MD_drawn_101 : decode c_MD_drawn 101 = .ok (.iload_n 3, 1) := by decide +kernel
theorem d_MD_drawn_102 : decode c_MD_drawn 102 = .ok (.ireturn, 1) := by decide +kernel
theorem d_MD_front_0 : decode c_MD_front 0 = .ok (.aload_n 0, 1) := by decide +kernel
theorem d_MD_front_1 : decode c_MD_front 1 = .ok (.iload_n 1, 1) := by decide +kernel
theorem d_MD_front_2 : decode c_MD_front 2 = .ok (.ifCond .lt 16, 3) := by decide +kernel
theorem d_MD_front_5 : decode c_MD_front 5 = .ok (.aload_n 0, 1) := by decide +kernel
theorem d_MD_front_6 : decode c_MD_front 6 = .ok (.aload_n 0, 1) := by decide +kernel
theorem d_MD_front_7 : decode c_MD_front 7 = .ok (.getfield 20, 3) := by decide +kernel
theorem d_MD_front_10 : decode c_MD_front 10 = .ok (.iload_n 1, 1) := by decide +kernel
theorem d_MD_front_11 : decode c_MD_front 11 = .ok (.invokevirtual 128, 3) := by decide +kernel
theorem d_MD_front_14 : decode c_MD_front 14 = .ok (.iload_n 1, 1) := by decide +kernel
theorem d_MD_front_15 : decode c_MD_front 15 = .ok (.if_icmp .gt 7, 3) := by decide +kernel
theorem d_MD_front_18 : decode c_MD_front 18 = .ok (.iconst 1, 1) := by decide +kernel
theorem d_MD_front_19 : decode c_MD_front 19 = .ok (.goto 4, 3) := by decide +kernel
theorem d_MD_front_22 : decode c_MD_front 22 = .ok (.iconst 0, 1) := by decide +kernel
theorem d_MD_front_23 : decode c_MD_front 23 = .ok (.iconst 1, 1) := by decide +kernel
theorem d_MD_front_24 : decode c_MD_front 24 = .ok (.invokevirtual 105, 3) := by decide +kernel
theorem d_MD_front_27 : decode c_MD_front 27 = .ok (.ifCond .ne 25, 3) := by decide +kernel
theorem d_MD_front_30 : decode c_MD_front 30 = .ok (.aload_n 0, 1) := by decide +kernel
theorem d_MD_front_31 : decode c_MD_front 31 = .ok (.iload_n 2, 1) := by decide +kernel
theorem d_MD_front_32 : decode c_MD_front 32 = .ok (.iconst 0, 1) := by decide +kernel
theorem d_MD_front_33 : decode c_MD_front 33 = .ok (.iconst 2, 1) := by decide +kernel
theorem d_MD_front_34 : decode c_MD_front 34 = .ok (.invokestatic 59, 3) := by decide +kernel
theorem d_MD_front_37 : decode c_MD_front 37 = .ok (.ifCond .ne 7, 3) := by decide +kernel
theorem d_MD_front_40 : decode c_MD_front 40 = .ok (.iconst 1, 1) := by decide +kernel
theorem d_MD_front_41 : decode c_MD_front 41 = .ok (.goto 4, 3) := by decide +kernel
theorem d_MD_front_44 : decode c_MD_front 44 = .ok (.iconst 0, 1) := by decide +kernel
theorem d_MD_front_45 : decode c_MD_front 45 = .ok (.iconst 2, 1) := by decide +kernel
theorem d_MD_front_46 : decode c_MD_front 46 = .ok (.invokevirtual 105, 3) := by decide +kernel
theorem d_MD_front_49 : decode c_MD_front 49 = .ok (.ifCond .eq 5, 3) := by decide +kernel
theorem d_MD_front_52 : decode c_MD_front 52 = .ok (.iconst 0, 1) := by decide +kernel
theorem d_MD_front_53 : decode c_MD_front 53 = .ok (.ireturn, 1) := by decide +kernel
theorem d_MD_front_54 : decode c_MD_front 54 = .ok (.iload_n 2, 1) := by decide +kernel
theorem d_MD_front_55 : decode c_MD_front 55 = .ok (.ifCond .ne 13, 3) := by decide +kernel
theorem d_MD_front_58 : decode c_MD_front 58 = .ok (.aload_n 0, 1) := by decide +kernel
theorem d_MD_front_59 : decode c_MD_front 59 = .ok (.getfield 92, 3) := by decide +kernel
theorem d_MD_front_62 : decode c_MD_front 62 = .ok (.bipush 40, 2) := by decide +kernel
theorem d_MD_front_64 : decode c_MD_front 64 = .ok (.irem, 1) := by decide +kernel
theorem d_MD_front_65 : decode c_MD_front 65 = .ok (.goto 22, 3) := by decide +kernel
theorem d_MD_front_68 : decode c_MD_front 68 = .ok (.iload_n 2, 1) := by decide +kernel
theorem d_MD_front_69 : decode c_MD_front 69 = .ok (.iconst 1, 1) := by decide +kernel
theorem d_MD_front_70 : decode c_MD_front 70 = .ok (.if_icmp .ne 13, 3) := by decide +kernel
theorem d_MD_front_73 : decode c_MD_front 73 = .ok (.aload_n 0, 1) := by decide +kernel
theorem d_MD_front_74 : decode c_MD_front 74 = .ok (.getfield 92, 3) := by decide +kernel
theorem d_MD_front_77 : decode c_MD_front 77 = .ok (.bipush 40, 2) := by decide +kernel
theorem d_MD_front_79 : decode c_MD_front 79 = .ok (.idiv, 1) := by decide +kernel
theorem d_MD_front_80 : decode c_MD_front 80 = .ok (.goto 7, 3) := by decide +kernel
theorem d_MD_front_83 : decode c_MD_front 83 = .ok (.aload_n 0, 1) := by decide +kernel
theorem d_MD_front_84 : decode c_MD_front 84 = .ok (.getfield 95, 3) := by decide +kernel
theorem d_MD_front_87 : decode c_MD_front 87 = .ok (.ireturn, 1) := by decide +kernel
/-- the pairs that may attach, in their order -/
def frT (sg gl fi : Nat → Int32) (te : Int32) (p : Nat) : Nat → Nat → List (Nat × Nat)
  | 0, _ => []
  | n + 1, t => if myN sg gl fi te p t = 0 then frT sg gl fi te p n (t + 1) else (p, t) :: frT sg gl fi te p n (t + 1)
def frP (sg gl fi : Nat → Int32) (te : Int32) (y p : Nat) : List (Nat × Nat) := if 0 < fi p then [] else if hnN fi p 4 = 0 then [] else frT sg gl fi te p y 1
def frL (sg gl fi : Nat → Int32) (te : Int32) (y : Nat) : Nat → Nat → List (Nat × Nat)
  | 0, _ => []
  | n + 1, p => frP sg gl fi te y p ++ frL sg gl fi te y n (p + 1)
def scN (x : Int32) : List (Nat × Nat) → FN → Option Nat × FN
  | [], z => (none, z)
  | q :: l, z => if nI (z.1 + 1) = x + nI 1 then (some (z.1 + 1), (z.1 + 1, nI q.1, nI q.2)) else scN x l (z.1 + 1, nI q.1, nI q.2)
theorem scN_app (x : Int32) : ∀ (l1 l2 : List (Nat × Nat)) (z : FN), scN x (l1 ++ l2) z = match scN x l1 z with | (some r, z') => (some r, z') | (none, z') => scN x l2 z'
  | [], l2, z => rfl
  | q :: l1, l2, z => by
    rw [List.cons_append, scN, scN]
    split
    · rfl
    · exact scN_app x l1 l2 _
theorem faT_sc (sg gl fi : Nat → Int32) (te x : Int32) (p : Nat) : ∀ (n i : Nat) (z : FN), itX (faT sg gl fi te x p) n i z = scN x (frT sg gl fi te p n i) z
  | 0, _, _ => rfl
  | n + 1, i, z => by
    rw [frT]
    by_cases c : myN sg gl fi te p i = 0
    · rw [if_pos c, itX_go (s' := z) (by omega) (by unfold faT; rw [if_pos c]), Nat.add_sub_cancel, faT_sc]
    · rw [if_neg c, scN]
      by_cases d : nI (z.1 + 1) = x + nI 1
      · rw [if_pos d, itX_no (by omega) (by unfold faT; rw [if_neg c, if_pos d])]
      · rw [if_neg d, itX_go (by omega) (by unfold faT; rw [if_neg c, if_neg d]), Nat.add_sub_cancel, faT_sc]
theorem faP_sc (sg gl fi : Nat → Int32) (te x : Int32) (y : Nat) : ∀ (n i : Nat) (z : FN), itX (faP sg gl fi te x y) n i z = scN x (frL sg gl fi te y n i) z
  | 0, _, _ => rfl
  | n + 1, i, z => by
    have e : faP sg gl fi te x y i z = scN x (frP sg gl fi te y i) z := by
      unfold faP frP
      split
      · rfl
      · split
        · rfl
        · exact faT_sc sg gl fi te x i y 1 z
    rw [frL, scN_app, ← e]
    rcases q : faP sg gl fi te x y i z with ⟨o, z'⟩
    cases o with
    | some r => rw [itX_no (by omega) q]
    | none => rw [itX_go (by omega) q, Nat.add_sub_cancel, faP_sc]
theorem fdV_sc (sg gl fi : Nat → Int32) (te x : Int32) (y : Nat) (fp ft : Int32) : fdV sg gl fi te x y fp ft = scN x (frL sg gl fi te y 1600 0) (0, fp, ft) := faP_sc sg gl fi te x y 1600 0 _
theorem scN_le (x : Int32) : ∀ (l : List (Nat × Nat)) (z : FN), z.1 ≤ (scN x l z).2.1
  | [], _ => Nat.le_refl _
  | q :: l, z => by
    rw [scN]
    split
    · exact Nat.le_succ _
    · exact Nat.le_trans (Nat.le_succ _) (scN_le x l (z.1 + 1, nI q.1, nI q.2))
theorem scN_nz {x : Int32} {l : List (Nat × Nat)} {z : FN} (h : l.length ≠ 0) : (scN x l z).2.1 ≠ 0 := by
  cases l with
  | nil => exact absurd rfl h
  | cons q l =>
    rw [scN]
    split
    · exact Nat.succ_ne_zero _
    · have := scN_le x l (z.1 + 1, nI q.1, nI q.2)
      have h2 : ((z.1 + 1, nI q.1, nI q.2) : FN).1 = z.1 + 1 := rfl
      rw [h2] at this
      omega
theorem scN_m1 : ∀ (l : List (Nat × Nat)) (z : FN), z.1 + l.length < 2 ^ 31 → (scN (-1) l z).1 = none ∧ (scN (-1) l z).2.1 = z.1 + l.length
  | [], _, _ => ⟨rfl, rfl⟩
  | q :: l, z, h => by
    rw [List.length_cons] at h
    rw [scN, if_neg (fun e => by
      have h0 : (-1 : Int32) + nI 1 = nI 0 := by decide +kernel
      rw [h0, nI_eq (by omega) (by decide)] at e
      omega)]
    have := scN_m1 l (z.1 + 1, nI q.1, nI q.2) (show z.1 + 1 + l.length < 2 ^ 31 by omega)
    rw [List.length_cons]
    exact ⟨this.1, by rw [this.2]; show z.1 + 1 + l.length = z.1 + (l.length + 1); omega⟩
theorem scN_at : ∀ (l : List (Nat × Nat)) (z : FN) (i : Nat) (q : Nat × Nat), l[i]? = some q → z.1 + i + 1 < 2 ^ 31 → scN (nI (z.1 + i)) l z = (some (z.1 + i + 1), (z.1 + i + 1, nI q.1, nI q.2))
  | [], _, _, _, h, _ => by cases h
  | a :: l, z, 0, q, h, hb => by
    cases h
    rw [scN, Nat.add_zero, nI_add, if_pos rfl]
  | a :: l, z, i + 1, q, h, hb => by
    rw [scN, nI_add, if_neg (fun e => by
      rw [nI_eq (by omega) (by omega)] at e
      omega)]
    have := scN_at l (z.1 + 1, nI a.1, nI a.2) i q h (show z.1 + 1 + i + 1 < 2 ^ 31 by omega)
    rw [show ((z.1 + 1, nI a.1, nI a.2) : FN).1 = z.1 + 1 from rfl, show z.1 + 1 + i = z.1 + (i + 1) by omega] at this
    exact this
theorem scN_no : ∀ (l : List (Nat × Nat)) (z : FN) (k : Nat), z.1 + l.length ≤ k → k + 1 < 2 ^ 31 → (scN (nI k) l z).1 = none ∧ (scN (nI k) l z).2.1 = z.1 + l.length
  | [], _, _, _, _ => ⟨rfl, rfl⟩
  | q :: l, z, k, h, hk => by
    rw [List.length_cons] at h
    rw [scN, nI_add, if_neg (fun e => by
      rw [nI_eq (by omega) (by omega)] at e
      omega)]
    have := scN_no l (z.1 + 1, nI q.1, nI q.2) k (show z.1 + 1 + l.length ≤ k by omega) hk
    rw [List.length_cons]
    exact ⟨this.1, by rw [this.2]; show z.1 + 1 + l.length = z.1 + (l.length + 1); omega⟩
theorem frT_len (sg gl fi : Nat → Int32) (te : Int32) (p : Nat) : ∀ n t, (frT sg gl fi te p n t).length ≤ n
  | 0, _ => Nat.le_refl _
  | n + 1, t => by
    have := frT_len sg gl fi te p n (t + 1)
    rw [frT]
    split
    · omega
    · rw [List.length_cons]; omega
theorem frL_len (sg gl fi : Nat → Int32) (te : Int32) {y : Nat} (hy : y ≤ 60) : ∀ n p, (frL sg gl fi te y n p).length ≤ 60 * n
  | 0, _ => Nat.le_refl _
  | n + 1, p => by
    have := frL_len sg gl fi te hy n (p + 1)
    have h : (frP sg gl fi te y p).length ≤ 60 := by
      unfold frP
      split
      · exact Nat.zero_le _
      · split
        · exact Nat.zero_le _
        · have := frT_len sg gl fi te p y 1
          omega
    rw [frL, List.length_append]
    omega
theorem fdV_m1 (sg gl fi : Nat → Int32) (te : Int32) {y : Nat} (hy : y ≤ 60) (fp ft : Int32) : (fdV sg gl fi te (-1) y fp ft).2.1 = (frL sg gl fi te y 1600 0).length := by
  have := frL_len sg gl fi te hy 1600 0
  have h := (scN_m1 (frL sg gl fi te y 1600 0) (0, fp, ft) (show 0 + _ < 2 ^ 31 by omega)).2
  rw [fdV_sc, h]
  exact Nat.zero_add _
theorem fdV_nz {sg gl fi : Nat → Int32} {te x : Int32} {y : Nat} {fp ft : Int32} (h : (frL sg gl fi te y 1600 0).length ≠ 0) : (fdV sg gl fi te x y fp ft).2.1 ≠ 0 := by
  rw [fdV_sc]
  exact scN_nz h
def mdS (sg gl : Nat → Int32) (te : Int32) (y : Nat) (q : MZ × Int32 × Nat) : MZ × Int32 × Nat :=
  (mzF sg gl te (-1) y (mzP sg gl (mzF sg gl te (dwI (dwN q.2.1) (nI q.2.2)) y q.1)), dwN q.2.1, mzN sg gl te (-1) y (mzP sg gl (mzF sg gl te (dwI (dwN q.2.1) (nI q.2.2)) y q.1)))
def mdL (sg gl : Nat → Int32) (te : Int32) (y : Nat) (z : MZ) (w : Int32) : Nat → MZ × Int32 × Nat
  | 0 => (mzF sg gl te (-1) y z, w, mzN sg gl te (-1) y z)
  | d + 1 => mdS sg gl te y (mdL sg gl te y z w d)
def mfR (n k : Nat) (w : Int32) (q : Int32 × Int32) : Int32 × Int32 :=
  if n ≤ k then (nI 0, nI 1) else if wiN w (nI 0) (nI 2) = 0 then (nI 0, nI 2) else (if w = 0 then nI (nn q.1 % 40) else if w = nI 1 then nI (nn q.1 / 40) else q.2, nI 0)
set_option maxHeartbeats 4000000 in
set_option maxRecDepth 100000 in
theorem lp_k_MD_drawn_35 {p : Program} {l : Launch} {e : Env} {s : State} {m : MethodId} {args : Array Value} {below : List Frame} {meth : Method} {c : Code} {D : va_G} {cI cJ : ClassId} {Q : State → Prop} {A : Nat → Prop} (w0 : Nat) (w1 : Nat) (w2 : Nat) (w3 : Nat) (w4 : Nat) (w5 : Nat) (w6 : Nat) (w7 : Nat) (w8 : Nat) (w9 : Nat) (w10 : Nat) (w11 : Nat) (w12 : Nat) (w13 : Nat) (w14 : Nat) (y : Nat) (te : Int32) (nt : Int32) (wb : Int32) (rc : Int32) (fp : Int32) (ft : Int32) (th : Int32) (sg : Nat → Int32) (gl : Nat → Int32) (fi : Nat → Int32) (ip : Nat → Int32) (se : Nat → Int32) (x : Int32) (v : Int32) (hy : y ≤ 60) (hfi : okFi fi) (hgl : okGl gl) (k9 : Nat) (hk9 : k9 < 2 ^ 31) (hx : p.tables.exec = Jvm.exec) (hb : c.code = c_MD_drawn) (hml : c.maxLocals = 6) (hown : s.vm.findClass R_MD = some m.cls) (hw : ∀ w ∈ gw, w.before args s = true) (hE : En D cI cJ s) (hX : Sx A s s.heap) (hA : ∀ q : Nat, s.heap.size ≤ q → A q)
    (kx0 : ∀ (d : Nat) (z9 : MZ) (v9 : Int32) (a9 : Nat), (d ≤ k9) → ((z9, v9, a9) = mdL sg gl te y (fi, ip, se, nt, wb, fp, ft) v d) → (∀ j, j < d → (mdL sg gl te y (fi, ip, se, nt, wb, fp, ft) v j).2.2 ≠ 0) → (d = k9 ∨ a9 = 0) → ∀ (H : Heap) (locs : List Loc) (ls : Array Slot), va_P D vwCl [(w0, .inr (5, [.ref w1, .ref w2, .int (nI y), .int te, .ref w3, .ref w4, .ref w5, .int z9.2.2.2.1, .int z9.2.2.2.2.1, .ref w6, .ref w7, .ref w8, .int rc, .ref w9, .ref w10, .ref w11, .ref w12, .ref w13, .ref w14, .int z9.2.2.2.2.2.1, .int z9.2.2.2.2.2.2, .int (nI (flN 0 1))])), (w1, .inl (cI, 100, .inl sg)), (w2, .inl (cI, 244, .inl gl)), (w3, .inl (cI, 1600, .inl z9.1)), (w4, .inl (cI, 1600, .inl z9.2.1)), (w5, .inl (cI, 1600, .inl z9.2.2.1))] H → va_D A [(w0, .inr (5, [.ref w1, .ref w2, .int (nI y), .int te, .ref w3, .ref w4, .ref w5, .int z9.2.2.2.1, .int z9.2.2.2.2.1, .ref w6, .ref w7, .ref w8, .int rc, .ref w9, .ref w10, .ref w11, .ref w12, .ref w13, .ref w14, .int z9.2.2.2.2.2.1, .int z9.2.2.2.2.2.2, .int (nI (flN 0 1))])), (w1, .inl (cI, 100, .inl sg)), (w2, .inl (cI, 244, .inl gl)), (w3, .inl (cI, 1600, .inl z9.1)), (w4, .inl (cI, 1600, .inl z9.2.1)), (w5, .inl (cI, 1600, .inl z9.2.2.1))] → va_S A s.heap H locs → lv_has ls 6 [(3, .int (nI d))] → W p l e ({ frames := 7, cells := 0, slots := 0, locals := 166 } : Room) s m args below meth c H locs 0 0 Q (F0 m 101 ls [])) :
    ∀ (fu : Nat) (d : Nat) (z9 : MZ) (v9 : Int32) (a9 : Nat), k9 - d < fu → (d ≤ k9) → ((z9, v9, a9) = mdL sg gl te y (fi, ip, se, nt, wb, fp, ft) v d) → (okFi z9.1) → (a9 ≤ 96000) → (a9 = (frL sg gl z9.1 te y 1600 0).length) → (∀ j, j < d → (mdL sg gl te y (fi, ip, se, nt, wb, fp, ft) v j).2.2 ≠ 0) → ∀ (H : Heap) (locs : List Loc) (ls : Array Slot), va_P D vwCl [(w0, .inr (5, [.ref w1, .ref w2, .int (nI y), .int te, .ref w3, .ref w4, .ref w5, .int z9.2.2.2.1, .int z9.2.2.2.2.1, .ref w6, .ref w7, .ref w8, .int rc, .ref w9, .ref w10, .ref w11, .ref w12, .ref w13, .ref w14, .int z9.2.2.2.2.2.1, .int z9.2.2.2.2.2.2, .int (nI (flN 0 1))])), (w1, .inl (cI, 100, .inl sg)), (w2, .inl (cI, 244, .inl gl)), (w3, .inl (cI, 1600, .inl z9.1)), (w4, .inl (cI, 1600, .inl z9.2.1)), (w5, .inl (cI, 1600, .inl z9.2.2.1))] H → va_D A [(w0, .inr (5, [.ref w1, .ref w2, .int (nI y), .int te, .ref w3, .ref w4, .ref w5, .int z9.2.2.2.1, .int z9.2.2.2.2.1, .ref w6, .ref w7, .ref w8, .int rc, .ref w9, .ref w10, .ref w11, .ref w12, .ref w13, .ref w14, .int z9.2.2.2.2.2.1, .int z9.2.2.2.2.2.2, .int (nI (flN 0 1))])), (w1, .inl (cI, 100, .inl sg)), (w2, .inl (cI, 244, .inl gl)), (w3, .inl (cI, 1600, .inl z9.1)), (w4, .inl (cI, 1600, .inl z9.2.1)), (w5, .inl (cI, 1600, .inl z9.2.2.1))] → va_S A s.heap H locs → lv_has ls 6 [(0, .ref w0), (1, .int (nI k9)), (3, .int (nI d)), (4, .int v9), (5, .int (nI a9))] → W p l e ({ frames := 7, cells := 0, slots := 0, locals := 166 } : Room) s m args below meth c H locs 0 0 Q (F0 m 35 ls []) := by
  intro fu
  induction fu with
  | zero =>
    intro d z9 v9 a9 h0
    exact absurd h0 (Nat.not_lt_zero _)
  | succ fu ih =>
    intro d z9 v9 a9 hmu hd hz hok ha9 hcn hall H locs ls hP hD hS hl
    refine lv_iload_n hx hb d_MD_drawn_35 rfl (lv_at hl 2 rfl) ?_
    refine lv_iload_n hx hb d_MD_drawn_36 rfl (lv_at hl 1 rfl) ?_
    refine jn_icmp_ge (tgt := 101) (a := d) (b := k9) hx hb d_MD_drawn_37 (by decide) (by omega) (by omega) (fun c_37 => ?_) (fun c_37 => ?_)
    · skip
      exact kx0 d z9 v9 a9 hd hz hall (Or.inl (by omega)) _ _ _ (hP.sub [0, 1, 2, 3, 4, 5] rfl) (hD.sub [0, 1, 2, 3, 4, 5] (by decide) rfl) hS (lv_sub hl [2] rfl)
    · skip
      refine lv_iload hx hb d_MD_drawn_40 (lv_at hl 4 rfl) ?_
      refine jn_if_le (tgt := 101) (a := a9) hx hb d_MD_drawn_42 (by decide) (by omega) (fun c_42 => ?_) (fun c_42 => ?_)
      · skip
        exact kx0 d z9 v9 a9 hd hz hall (Or.inr (by omega)) _ _ _ (hP.sub [0, 1, 2, 3, 4, 5] rfl) (hD.sub [0, 1, 2, 3, 4, 5] (by decide) rfl) hS (lv_sub hl [2] rfl)
      · skip
        refine lv_ldc (v := 1664525) hx hb hown (hw _ kw_925) d_MD_drawn_45 ?_
        refine W.eq (g2 := F0 m 47 ls (.int (nI 1664525) :: [])) (by rw [show (1664525 : Int32) = nI 1664525 from by decide +kernel]) ?_
        refine lv_iload hx hb d_MD_drawn_47 (lv_at hl 3 rfl) ?_
        refine lv_imul hx hb d_MD_drawn_49 ?_
        refine lv_ldc (v := 1013904223) hx hb hown (hw _ kw_926) d_MD_drawn_50 ?_
        refine W.eq (g2 := F0 m 52 ls (.int (nI 1013904223) :: [.int ((nI 1664525) * v9)])) (by rw [show (1013904223 : Int32) = nI 1013904223 from by decide +kernel]) ?_
        refine lv_iadd hx hb d_MD_drawn_52 ?_
        refine lv_istore (lv' := [(4, .int (((nI 1664525) * v9) + (nI 1013904223))), (0, .ref w0), (1, .int (nI k9)), (3, .int (nI d)), (5, .int (nI a9))]) hx hb d_MD_drawn_53 hl (by decide) rfl (fun ls hl => ?_)
        refine lv_aload_n hx hb d_MD_drawn_55 rfl (lv_at hl 1 rfl) ?_
        refine lv_aload_n hx hb d_MD_drawn_56 rfl (lv_at hl 1 rfl) ?_
        refine va_get (D := D) (ci := 5) (v := .ref w3) (C := R_MD) (T := T_MD) (N := 22) hx hb hw in_MD hown hE.1 hP 0 rfl rfl 4 (by decide) (hw _ kw_765) (fun _ h9 => h9) rfl d_MD_drawn_57 ?_
        refine lv_iload hx hb d_MD_drawn_60 (lv_at hl 0 rfl) ?_
        refine lv_bipush (v := nI 8) hx hb d_MD_drawn_62 (by decide +kernel) ?_
        refine lv_iushr (v := ((((nI 1664525) * v9) + (nI 1013904223)).toUInt32 >>> ((nI 8).toUInt32 &&& Int32.toUInt32 31)).toInt32) hx hb d_MD_drawn_64 rfl ?_
        refine lv_iload hx hb d_MD_drawn_65 (lv_at hl 4 rfl) ?_
        refine lv_irem hx hb d_MD_drawn_67 (fun q => by have := (jn_eq0 (show a9 < 2 ^ 31 by omega)).mp q; omega) ?_
        refine W.eq (g2 := F0 m 68 ls [.int (dwI (dwN v9) (nI a9)), .ref w3, .ref w0]) (by rw [show (((((nI 1664525) * v9) + (nI 1013904223)).toUInt32 >>> ((nI 8).toUInt32 &&& Int32.toUInt32 31)).toInt32) - (((((nI 1664525) * v9) + (nI 1013904223)).toUInt32 >>> ((nI 8).toUInt32 &&& Int32.toUInt32 31)).toInt32) / (nI a9) * (nI a9) = dwI (dwN v9) (nI a9) from rfl]) ?_
        refine cl_i (wr := [(w4, .inl (cI, 1600, .inl z9.2.1)), (w5, .inl (cI, 1600, .inl z9.2.2.1))]) (va_runV (As := [.ref w3, .int (dwI (dwN v9) (nI a9))]) (rest := []) ⟨hx, hb, hml, hown, hw⟩ (k_MD_find l D cI cJ w0 w1 w2 w3 w4 w5 w6 w7 w8 w9 w10 w11 w12 w13 w14 y te z9.2.2.2.1 z9.2.2.2.2.1 rc z9.2.2.2.2.2.1 z9.2.2.2.2.2.2 (nI (flN 0 1)) sg gl w3 z9.1 (dwI (dwN v9) (nI a9)) _ hy hok hgl) (cwV 2 hw (gV kw_913 kw_915 kw_30 kw_45 kw_916) rfl rfl rfl (by decide +kernel) ⟨Nat.le_of_ble_eq_true rfl, Nat.le_of_ble_eq_true rfl⟩) (pre_Vw (wc := [(w0, .inr (5, [.ref w1, .ref w2, .int (nI y), .int te, .ref w3, .ref w4, .ref w5, .int z9.2.2.2.1, .int z9.2.2.2.2.1, .ref w6, .ref w7, .ref w8, .int rc, .ref w9, .ref w10, .ref w11, .ref w12, .ref w13, .ref w14, .int z9.2.2.2.2.2.1, .int z9.2.2.2.2.2.2, .int (nI (flN 0 1))])), (w1, .inl (cI, 100, .inl sg)), (w2, .inl (cI, 244, .inl gl)), (w3, .inl (cI, 1600, .inl z9.1))]) (q0 := 0) hE hX hA hP hD hS [0, 1, 2, 3] (by decide) rfl rfl rfl rfl) rfl rfl hl.1 rfl (lv_room (Nat.le_of_ble_eq_true rfl)) d_MD_drawn_68 ⟨Nat.le_of_ble_eq_true rfl, Nat.le_of_ble_eq_true rfl⟩) hP hD hS hA [0, 1, 2, 3] [4, 5] rfl rfl (by decide) (by decide) (fun r_1 u_r_1 H locs hr_1 hP hD hS => ?_)
        have hP : va_P D vwCl [(w4, .inl (cI, 1600, .inl z9.2.1)), (w5, .inl (cI, 1600, .inl z9.2.2.1)), (w0, .inr (5, [.ref w1, .ref w2, .int (nI y), .int te, .ref w3, .ref w4, .ref w5, .int z9.2.2.2.1, .int z9.2.2.2.2.1, .ref w6, .ref w7, .ref w8, .int rc, .ref w9, .ref w10, .ref w11, .ref w12, .ref w13, .ref w14, .int u_r_1.2.1, .int u_r_1.2.2, .int (nI (flN 0 1))])), (w1, .inl (cI, 100, .inl sg)), (w2, .inl (cI, 244, .inl gl)), (w3, .inl (cI, 1600, .inl z9.1))] H := hP
        have hD : va_D A [(w4, .inl (cI, 1600, .inl z9.2.1)), (w5, .inl (cI, 1600, .inl z9.2.2.1)), (w0, .inr (5, [.ref w1, .ref w2, .int (nI y), .int te, .ref w3, .ref w4, .ref w5, .int z9.2.2.2.1, .int z9.2.2.2.2.1, .ref w6, .ref w7, .ref w8, .int rc, .ref w9, .ref w10, .ref w11, .ref w12, .ref w13, .ref w14, .int u_r_1.2.1, .int u_r_1.2.2, .int (nI (flN 0 1))])), (w1, .inl (cI, 100, .inl sg)), (w2, .inl (cI, 244, .inl gl)), (w3, .inl (cI, 1600, .inl z9.1))] := hD
        obtain ⟨oB, rfl, hfdB⟩ := hr_1
        rw [fdV_R hfdB]
        have hfoB : okFd y u_r_1 := by have h := fdV_ok sg gl z9.1 te (dwI (dwN v9) (nI a9)) y z9.2.2.2.2.2.1 z9.2.2.2.2.2.2; rw [← hfdB] at h; exact h
        have hflB : u_r_1.1 ≤ 96000 := by have h := fdV_le (sg := sg) (gl := gl) (fi := z9.1) (te := te) (x := dwI (dwN v9) (nI a9)) (y := y) (fp := z9.2.2.2.2.2.1) (ft := z9.2.2.2.2.2.2) hy; rw [← hfdB] at h; exact h
        have hfnB : mzN sg gl te (dwI (dwN v9) (nI a9)) y z9 = u_r_1.1 := by show (fdV sg gl z9.1 te (dwI (dwN v9) (nI a9)) y z9.2.2.2.2.2.1 z9.2.2.2.2.2.2).2.1 = _; rw [← hfdB]
        have hffB : mzF sg gl te (dwI (dwN v9) (nI a9)) y z9 = (z9.1, z9.2.1, z9.2.2.1, z9.2.2.2.1, z9.2.2.2.2.1, u_r_1.2.1, u_r_1.2.2) := by show (_, _, _, _, _, (fdV sg gl z9.1 te (dwI (dwN v9) (nI a9)) y z9.2.2.2.2.2.1 z9.2.2.2.2.2.2).2.2.1, (fdV sg gl z9.1 te (dwI (dwN v9) (nI a9)) y z9.2.2.2.2.2.1 z9.2.2.2.2.2.2).2.2.2) = _; rw [← hfdB]
        refine lv_pop hx hb d_MD_drawn_71 rfl ?_
        have hnz : u_r_1.1 ≠ 0 := by have h := fdV_nz (sg := sg) (gl := gl) (fi := z9.1) (te := te) (x := dwI (dwN v9) (nI a9)) (y := y) (fp := z9.2.2.2.2.2.1) (ft := z9.2.2.2.2.2.2) (by omega); rw [← hfdB] at h; exact h
        obtain ⟨pp, tt, hpp, htt1, htt2, hep, het⟩ := hfoB.resolve_left hnz
        rw [hep, het] at hP hD
        have hP : va_P D vwCl [(w4, .inl (cI, 1600, .inl z9.2.1)), (w5, .inl (cI, 1600, .inl z9.2.2.1)), (w0, .inr (5, [.ref w1, .ref w2, .int (nI y), .int te, .ref w3, .ref w4, .ref w5, .int z9.2.2.2.1, .int z9.2.2.2.2.1, .ref w6, .ref w7, .ref w8, .int rc, .ref w9, .ref w10, .ref w11, .ref w12, .ref w13, .ref w14, .int (nI pp), .int (nI tt), .int (nI (flN 0 1))])), (w1, .inl (cI, 100, .inl sg)), (w2, .inl (cI, 244, .inl gl)), (w3, .inl (cI, 1600, .inl z9.1))] H := hP
        have hD : va_D A [(w4, .inl (cI, 1600, .inl z9.2.1)), (w5, .inl (cI, 1600, .inl z9.2.2.1)), (w0, .inr (5, [.ref w1, .ref w2, .int (nI y), .int te, .ref w3, .ref w4, .ref w5, .int z9.2.2.2.1, .int z9.2.2.2.2.1, .ref w6, .ref w7, .ref w8, .int rc, .ref w9, .ref w10, .ref w11, .ref w12, .ref w13, .ref w14, .int (nI pp), .int (nI tt), .int (nI (flN 0 1))])), (w1, .inl (cI, 100, .inl sg)), (w2, .inl (cI, 244, .inl gl)), (w3, .inl (cI, 1600, .inl z9.1))] := hD
        refine lv_aload_n hx hb d_MD_drawn_72 rfl (lv_at hl 1 rfl) ?_
        refine lv_aload_n hx hb d_MD_drawn_73 rfl (lv_at hl 1 rfl) ?_
        refine va_get (D := D) (ci := 5) (v := .int (nI pp)) (C := R_MD) (T := T_MD) (N := 22) hx hb hw in_MD hown hE.1 hP 2 rfl rfl 19 (by decide) (hw _ kw_780) (fun _ h9 => h9) rfl d_MD_drawn_74 ?_
        refine lv_aload_n hx hb d_MD_drawn_77 rfl (lv_at hl 1 rfl) ?_
        refine va_get (D := D) (ci := 5) (v := .int (nI tt)) (C := R_MD) (T := T_MD) (N := 22) hx hb hw in_MD hown hE.1 hP 2 rfl rfl 20 (by decide) (hw _ kw_781) (fun _ h9 => h9) rfl d_MD_drawn_78 ?_
        refine cl_v (wr := []) (va_runV (As := [.int (nI pp), .int (nI tt)]) (rest := []) ⟨hx, hb, hml, hown, hw⟩ (k_MD_put l D cI cJ w0 w1 w2 w3 w4 w5 w6 w7 w8 w9 w10 w11 w12 w13 w14 (nI y) te z9.2.2.2.1 z9.2.2.2.2.1 rc (nI pp) (nI tt) (nI (flN 0 1)) sg gl z9.1 z9.2.1 z9.2.2.1 pp tt _ hpp (by omega) hok hgl) (cwV 2 hw (gV kw_905 kw_907 kw_29 kw_45 kw_908) rfl rfl rfl (by decide +kernel) ⟨Nat.le_of_ble_eq_true rfl, Nat.le_of_ble_eq_true rfl⟩) (pre_Vw (wc := [(w0, .inr (5, [.ref w1, .ref w2, .int (nI y), .int te, .ref w3, .ref w4, .ref w5, .int z9.2.2.2.1, .int z9.2.2.2.2.1, .ref w6, .ref w7, .ref w8, .int rc, .ref w9, .ref w10, .ref w11, .ref w12, .ref w13, .ref w14, .int (nI pp), .int (nI tt), .int (nI (flN 0 1))])), (w1, .inl (cI, 100, .inl sg)), (w2, .inl (cI, 244, .inl gl)), (w3, .inl (cI, 1600, .inl z9.1)), (w4, .inl (cI, 1600, .inl z9.2.1)), (w5, .inl (cI, 1600, .inl z9.2.2.1))]) (q0 := 0) hE hX hA hP hD hS [2, 3, 4, 5, 0, 1] (by decide) rfl rfl rfl rfl) rfl rfl hl.1 rfl (lv_room (Nat.le_of_ble_eq_true rfl)) d_MD_drawn_81 ⟨Nat.le_of_ble_eq_true rfl, Nat.le_of_ble_eq_true rfl⟩) hP hD hS hA [2, 3, 4, 5, 0, 1] [] rfl rfl (by decide) (by decide) (fun u_r_2 H locs hr_2 hP hD hS => ?_)
        have hP : va_P D vwCl [(w0, .inr (5, [.ref w1, .ref w2, .int (nI y), .int te, .ref w3, .ref w4, .ref w5, .int (z9.2.2.2.1 + nI 1), .int (nI 1), .ref w6, .ref w7, .ref w8, .int rc, .ref w9, .ref w10, .ref w11, .ref w12, .ref w13, .ref w14, .int (nI pp), .int (nI tt), .int (nI (flN 0 1))])), (w1, .inl (cI, 100, .inl sg)), (w2, .inl (cI, 244, .inl gl)), (w3, .inl (cI, 1600, .inl (upd z9.1 pp (nI tt)))), (w4, .inl (cI, 1600, .inl u_r_2)), (w5, .inl (cI, 1600, .inl (upd z9.2.2.1 pp (nI 0))))] H := hP
        have hD : va_D A [(w0, .inr (5, [.ref w1, .ref w2, .int (nI y), .int te, .ref w3, .ref w4, .ref w5, .int (z9.2.2.2.1 + nI 1), .int (nI 1), .ref w6, .ref w7, .ref w8, .int rc, .ref w9, .ref w10, .ref w11, .ref w12, .ref w13, .ref w14, .int (nI pp), .int (nI tt), .int (nI (flN 0 1))])), (w1, .inl (cI, 100, .inl sg)), (w2, .inl (cI, 244, .inl gl)), (w3, .inl (cI, 1600, .inl (upd z9.1 pp (nI tt)))), (w4, .inl (cI, 1600, .inl u_r_2)), (w5, .inl (cI, 1600, .inl (upd z9.2.2.1 pp (nI 0))))] := hD
        refine lv_iinc (v := nI (d + 1)) (lv' := [(3, .int (nI (d + 1))), (4, .int (((nI 1664525) * v9) + (nI 1013904223))), (0, .ref w0), (1, .int (nI k9)), (5, .int (nI a9))]) hx hb d_MD_drawn_84 hl (k := 3) rfl (jn_inc d 1) (by decide) rfl (fun ls hl => ?_)
        refine lv_aload_n hx hb d_MD_drawn_87 rfl (lv_at hl 2 rfl) ?_
        refine lv_aload_n hx hb d_MD_drawn_88 rfl (lv_at hl 2 rfl) ?_
        refine va_get (D := D) (ci := 5) (v := .ref w3) (C := R_MD) (T := T_MD) (N := 22) hx hb hw in_MD hown hE.1 hP 0 rfl rfl 4 (by decide) (hw _ kw_765) (fun _ h9 => h9) rfl d_MD_drawn_89 ?_
        refine lv_iconst (v := (-1)) hx hb d_MD_drawn_92 (by decide +kernel) ?_
        refine cl_i (wr := [(w4, .inl (cI, 1600, .inl u_r_2)), (w5, .inl (cI, 1600, .inl (upd z9.2.2.1 pp (nI 0))))]) (va_runV (As := [.ref w3, .int (-1)]) (rest := []) ⟨hx, hb, hml, hown, hw⟩ (k_MD_find l D cI cJ w0 w1 w2 w3 w4 w5 w6 w7 w8 w9 w10 w11 w12 w13 w14 y te (z9.2.2.2.1 + nI 1) (nI 1) rc (nI pp) (nI tt) (nI (flN 0 1)) sg gl w3 (upd z9.1 pp (nI tt)) (-1) _ hy (okFi_upd hok pp (by omega)) hgl) (cwV 2 hw (gV kw_913 kw_915 kw_30 kw_45 kw_916) rfl rfl rfl (by decide +kernel) ⟨Nat.le_of_ble_eq_true rfl, Nat.le_of_ble_eq_true rfl⟩) (pre_Vw (wc := [(w0, .inr (5, [.ref w1, .ref w2, .int (nI y), .int te, .ref w3, .ref w4, .ref w5, .int (z9.2.2.2.1 + nI 1), .int (nI 1), .ref w6, .ref w7, .ref w8, .int rc, .ref w9, .ref w10, .ref w11, .ref w12, .ref w13, .ref w14, .int (nI pp), .int (nI tt), .int (nI (flN 0 1))])), (w1, .inl (cI, 100, .inl sg)), (w2, .inl (cI, 244, .inl gl)), (w3, .inl (cI, 1600, .inl (upd z9.1 pp (nI tt))))]) (q0 := 0) hE hX hA hP hD hS [0, 1, 2, 3] (by decide) rfl rfl rfl rfl) rfl rfl hl.1 rfl (lv_room (Nat.le_of_ble_eq_true rfl)) d_MD_drawn_93 ⟨Nat.le_of_ble_eq_true rfl, Nat.le_of_ble_eq_true rfl⟩) hP hD hS hA [0, 1, 2, 3] [4, 5] rfl rfl (by decide) (by decide) (fun r_3 u_r_3 H locs hr_3 hP hD hS => ?_)
        have hP : va_P D vwCl [(w4, .inl (cI, 1600, .inl u_r_2)), (w5, .inl (cI, 1600, .inl (upd z9.2.2.1 pp (nI 0)))), (w0, .inr (5, [.ref w1, .ref w2, .int (nI y), .int te, .ref w3, .ref w4, .ref w5, .int (z9.2.2.2.1 + nI 1), .int (nI 1), .ref w6, .ref w7, .ref w8, .int rc, .ref w9, .ref w10, .ref w11, .ref w12, .ref w13, .ref w14, .int u_r_3.2.1, .int u_r_3.2.2, .int (nI (flN 0 1))])), (w1, .inl (cI, 100, .inl sg)), (w2, .inl (cI, 244, .inl gl)), (w3, .inl (cI, 1600, .inl (upd z9.1 pp (nI tt))))] H := hP
        have hD : va_D A [(w4, .inl (cI, 1600, .inl u_r_2)), (w5, .inl (cI, 1600, .inl (upd z9.2.2.1 pp (nI 0)))), (w0, .inr (5, [.ref w1, .ref w2, .int (nI y), .int te, .ref w3, .ref w4, .ref w5, .int (z9.2.2.2.1 + nI 1), .int (nI 1), .ref w6, .ref w7, .ref w8, .int rc, .ref w9, .ref w10, .ref w11, .ref w12, .ref w13, .ref w14, .int u_r_3.2.1, .int u_r_3.2.2, .int (nI (flN 0 1))])), (w1, .inl (cI, 100, .inl sg)), (w2, .inl (cI, 244, .inl gl)), (w3, .inl (cI, 1600, .inl (upd z9.1 pp (nI tt))))] := hD
        obtain ⟨oC, rfl, hfdC⟩ := hr_3
        rw [fdV_R hfdC]
        have hfoC : okFd y u_r_3 := by have h := fdV_ok sg gl (upd z9.1 pp (nI tt)) te (-1) y (nI pp) (nI tt); rw [← hfdC] at h; exact h
        have hflC : u_r_3.1 ≤ 96000 := by have h := fdV_le (sg := sg) (gl := gl) (fi := upd z9.1 pp (nI tt)) (te := te) (x := -1) (y := y) (fp := nI pp) (ft := nI tt) hy; rw [← hfdC] at h; exact h
        have hfnC : mzN sg gl te (-1) y (upd z9.1 pp (nI tt), u_r_2, upd z9.2.2.1 pp (nI 0), z9.2.2.2.1 + nI 1, nI 1, nI pp, nI tt) = u_r_3.1 := by show (fdV sg gl (upd z9.1 pp (nI tt)) te (-1) y (nI pp) (nI tt)).2.1 = _; rw [← hfdC]
        have hffC : mzF sg gl te (-1) y (upd z9.1 pp (nI tt), u_r_2, upd z9.2.2.1 pp (nI 0), z9.2.2.2.1 + nI 1, nI 1, nI pp, nI tt) = (upd z9.1 pp (nI tt), u_r_2, upd z9.2.2.1 pp (nI 0), z9.2.2.2.1 + nI 1, nI 1, u_r_3.2.1, u_r_3.2.2) := by show (_, _, _, _, _, (fdV sg gl (upd z9.1 pp (nI tt)) te (-1) y (nI pp) (nI tt)).2.2.1, (fdV sg gl (upd z9.1 pp (nI tt)) te (-1) y (nI pp) (nI tt)).2.2.2) = _; rw [← hfdC]
        have hcnC : u_r_3.1 = (frL sg gl (upd z9.1 pp (nI tt)) te y 1600 0).length := by have h := fdV_m1 sg gl (upd z9.1 pp (nI tt)) te hy (nI pp) (nI tt); rw [← hfdC] at h; exact h
        refine lv_istore (lv' := [(5, .int (nI u_r_3.1)), (3, .int (nI (d + 1))), (4, .int (((nI 1664525) * v9) + (nI 1013904223))), (0, .ref w0), (1, .int (nI k9))]) hx hb d_MD_drawn_96 hl (by decide) rfl (fun ls hl => ?_)
        refine lv_goto (tgt := 35) hx hb d_MD_drawn_98 (by decide) ?_
        exact ih (d + 1) (upd z9.1 pp (nI tt), u_r_2, upd z9.2.2.1 pp (nI 0), z9.2.2.2.1 + nI 1, nI 1, u_r_3.2.1, u_r_3.2.2) (dwN v9) u_r_3.1 (by omega) (by omega) (by rw [mdL, ← hz]; unfold mdS; dsimp only; rw [hffB, mzP_eq hpp (by omega) hep het]; dsimp only; rw [← hr_2, hffC, hfnC]) (okFi_upd hok pp (by omega)) hflC hcnC (fun j hj => by
          rcases Nat.lt_succ_iff_lt_or_eq.mp hj with h | rfl
          · exact hall j h
          · rw [← hz]; show a9 ≠ 0; omega) _ _ _ (hP.sub [2, 3, 4, 5, 0, 1] rfl) (hD.sub [2, 3, 4, 5, 0, 1] (by decide) rfl) hS (lv_sub hl [3, 4, 1, 2, 0] rfl)
set_option maxHeartbeats 4000000 in
set_option maxRecDepth 100000 in
/-- drawn -/
theorem k_MD_drawn (l : Launch) (D : va_G) (cI cJ : ClassId) (w0 : Nat) (w1 : Nat) (w2 : Nat) (w3 : Nat) (w4 : Nat) (w5 : Nat) (w6 : Nat) (w7 : Nat) (w8 : Nat) (w9 : Nat) (w10 : Nat) (w11 : Nat) (w12 : Nat) (w13 : Nat) (w14 : Nat) (y : Nat) (te : Int32) (nt : Int32) (wb : Int32) (rc : Int32) (fp : Int32) (ft : Int32) (th : Int32) (sg : Nat → Int32) (gl : Nat → Int32) (fi : Nat → Int32) (ip : Nat → Int32) (se : Nat → Int32) (x : Int32) (v : Int32) (sz : Nat) (hy : y ≤ 60) (hfi : okFi fi) (hgl : okGl gl) : Met l y_MD_drawn ws_MD_drawn ({ frames := 7, cells := 0, slots := 0, locals := 166 } : Room) (va_Pc [.ref w0, .int x, .int v] (Pw D cI cJ [(w0, .inr (5, [.ref w1, .ref w2, .int (nI y), .int te, .ref w3, .ref w4, .ref w5, .int nt, .int wb, .ref w6, .ref w7, .ref w8, .int rc, .ref w9, .ref w10, .ref w11, .ref w12, .ref w13, .ref w14, .int fp, .int ft, .int th])), (w1, .inl (cI, 100, .inl sg)), (w2, .inl (cI, 244, .inl gl)), (w3, .inl (cI, 1600, .inl fi)), (w4, .inl (cI, 1600, .inl ip)), (w5, .inl (cI, 1600, .inl se))] sz)) (va_Qi (fun (r : Int32) (u9 : MZ × Int32) => (¬ 0 ≤ x ∧ r = nI 0 ∧ u9 = ((fi, ip, se, nt, wb, fp, ft), nI 1)) ∨ (0 ≤ x ∧ u9.2 = nI 0 ∧ ∃ d, d ≤ nn x ∧ r = nI d ∧ u9.1 = (mdL sg gl te y (fi, ip, se, nt, wb, fp, ft) v d).1 ∧ (∀ j, j < d → (mdL sg gl te y (fi, ip, se, nt, wb, fp, ft) v j).2.2 ≠ 0) ∧ (d = nn x ∨ (mdL sg gl te y (fi, ip, se, nt, wb, fp, ft) v d).2.2 = 0))) (fun u9 t9 => Bw D (va_A [(w0, .inr (5, [.ref w1, .ref w2, .int (nI y), .int te, .ref w3, .ref w4, .ref w5, .int nt, .int wb, .ref w6, .ref w7, .ref w8, .int rc, .ref w9, .ref w10, .ref w11, .ref w12, .ref w13, .ref w14, .int fp, .int ft, .int th])), (w1, .inl (cI, 100, .inl sg)), (w2, .inl (cI, 244, .inl gl)), (w3, .inl (cI, 1600, .inl fi)), (w4, .inl (cI, 1600, .inl ip)), (w5, .inl (cI, 1600, .inl se))] sz) [(w0, .inr (5, [.ref w1, .ref w2, .int (nI y), .int te, .ref w3, .ref w4, .ref w5, .int u9.1.2.2.2.1, .int u9.1.2.2.2.2.1, .ref w6, .ref w7, .ref w8, .int rc, .ref w9, .ref w10, .ref w11, .ref w12, .ref w13, .ref w14, .int u9.1.2.2.2.2.2.1, .int u9.1.2.2.2.2.2.2, .int u9.2])), (w1, .inl (cI, 100, .inl sg)), (w2, .inl (cI, 244, .inl gl)), (w3, .inl (cI, 1600, .inl u9.1.1)), (w4, .inl (cI, 1600, .inl u9.1.2.1)), (w5, .inl (cI, 1600, .inl u9.1.2.2.1))] t9) (va_A [(w0, .inr (5, [.ref w1, .ref w2, .int (nI y), .int te, .ref w3, .ref w4, .ref w5, .int nt, .int wb, .ref w6, .ref w7, .ref w8, .int rc, .ref w9, .ref w10, .ref w11, .ref w12, .ref w13, .ref w14, .int fp, .int ft, .int th])), (w1, .inl (cI, 100, .inl sg)), (w2, .inl (cI, 244, .inl gl)), (w3, .inl (cI, 1600, .inl fi)), (w4, .inl (cI, 1600, .inl ip)), (w5, .inl (cI, 1600, .inl se))] sz)) 0 0 (va_A [(w0, .inr (5, [.ref w1, .ref w2, .int (nI y), .int te, .ref w3, .ref w4, .ref w5, .int nt, .int wb, .ref w6, .ref w7, .ref w8, .int rc, .ref w9, .ref w10, .ref w11, .ref w12, .ref w13, .ref w14, .int fp, .int ft, .int th])), (w1, .inl (cI, 100, .inl sg)), (w2, .inl (cI, 244, .inl gl)), (w3, .inl (cI, 1600, .inl fi)), (w4, .inl (cI, 1600, .inl ip)), (w5, .inl (cI, 1600, .inl se))] sz) := by
  refine Met.ofW (cc := c_MD_drawn) (maxL := 6) (ret := (some .int)) (by decide) rfl ?_
  intro p e s m args below meth c s₁ B hml hv
  obtain ⟨rfl, hsz, hE, hP, hD0, hX⟩ := hv
  have hx := B.exec
  have hb := B.bytes
  have hr := B.returns
  have hw : ∀ w ∈ gw, w.before _ s = true := fun w h => atoms_spec (ws := ws_MD_drawn) B.pre w (List.mem_cons_of_mem _ h)
  have hown : s.vm.findClass R_MD = some m.cls := findClass_of_methodNamed B.named
  have hlocks := B.notSynchronized
  subst hsz
  have hD := hD0.self (sz := s.heap.size)
  generalize hAe : va_A [(w0, .inr (5, [.ref w1, .ref w2, .int (nI y), .int te, .ref w3, .ref w4, .ref w5, .int nt, .int wb, .ref w6, .ref w7, .ref w8, .int rc, .ref w9, .ref w10, .ref w11, .ref w12, .ref w13, .ref w14, .int fp, .int ft, .int th])), (w1, .inl (cI, 100, .inl sg)), (w2, .inl (cI, 244, .inl gl)), (w3, .inl (cI, 1600, .inl fi)), (w4, .inl (cI, 1600, .inl ip)), (w5, .inl (cI, 1600, .inl se))] s.heap.size = A at hD hX ⊢
  have hA : ∀ q : Nat, s.heap.size ≤ q → A q := fun q h => by rw [← hAe]; exact Or.inr h
  have hS : va_S A s.heap s.heap [] := va_S.rf
  have hP : va_P D vwCl [(w0, .inr (5, [.ref w1, .ref w2, .int (nI y), .int te, .ref w3, .ref w4, .ref w5, .int nt, .int wb, .ref w6, .ref w7, .ref w8, .int rc, .ref w9, .ref w10, .ref w11, .ref w12, .ref w13, .ref w14, .int fp, .int ft, .int th])), (w1, .inl (cI, 100, .inl sg)), (w2, .inl (cI, 244, .inl gl)), (w3, .inl (cI, 1600, .inl fi)), (w4, .inl (cI, 1600, .inl ip)), (w5, .inl (cI, 1600, .inl se))] s.heap := hP
  have hl := lv_entry ([.ref w0, .int x, .int v]) (n := 6) (Nat.le_of_ble_eq_true rfl)
  rw [lg_entry_eq]
  generalize (lg_sl ([.ref w0, .int x, .int v]) ++ List.replicate (6 - (lg_sl ([.ref w0, .int x, .int v])).length) Slot.unset).toArray = ls at hl ⊢
  have hl : lv_has ls 6 [(0, .ref w0), (1, .int x), (2, .int v)] := hl
  refine lv_aload_n hx hb d_MD_drawn_0 rfl (lv_at hl 0 rfl) ?_
  refine lv_iload_n hx hb d_MD_drawn_1 rfl (lv_at hl 1 rfl) ?_
  refine lv_if_ge (tgt := 9) hx hb d_MD_drawn_2 (by decide) (fun c_2 => ?_) (fun c_2 => ?_)
  · skip
    refine lv_iconst (v := nI 0) hx hb d_MD_drawn_9 (by decide +kernel) ?_
    refine lv_iconst (v := nI 1) hx hb d_MD_drawn_10 (by decide +kernel) ?_
    refine cl_i (wr := [(w1, .inl (cI, 100, .inl sg)), (w2, .inl (cI, 244, .inl gl)), (w3, .inl (cI, 1600, .inl fi)), (w4, .inl (cI, 1600, .inl ip)), (w5, .inl (cI, 1600, .inl se))]) (va_runV (As := [.int (nI 0), .int (nI 1)]) (rest := []) ⟨hx, hb, hml, hown, hw⟩ (k_MD_fails l D cI cJ w0 w1 w2 w3 w4 w5 w6 w7 w8 w9 w10 w11 w12 w13 w14 (nI y) te nt wb rc fp ft th 0 1 _ (by omega)) (cwV 2 hw (gV kw_836 kw_838 kw_20 kw_45 kw_839) rfl rfl rfl (by decide +kernel) ⟨Nat.le_of_ble_eq_true rfl, Nat.le_of_ble_eq_true rfl⟩) (pre_Vw (wc := [(w0, .inr (5, [.ref w1, .ref w2, .int (nI y), .int te, .ref w3, .ref w4, .ref w5, .int nt, .int wb, .ref w6, .ref w7, .ref w8, .int rc, .ref w9, .ref w10, .ref w11, .ref w12, .ref w13, .ref w14, .int fp, .int ft, .int th]))]) (q0 := 0) hE hX hA hP hD hS [0] (by decide) rfl rfl rfl rfl) rfl rfl hl.1 rfl (lv_room (Nat.le_of_ble_eq_true rfl)) d_MD_drawn_11 ⟨Nat.le_of_ble_eq_true rfl, Nat.le_of_ble_eq_true rfl⟩) hP hD hS hA [0] [1, 2, 3, 4, 5] rfl rfl (by decide) (by decide) (fun r_1 u_r_1 H locs hr_1 hP hD hS => ?_)
    obtain rfl : nI 0 = r_1 := hr_1.symm
    have hP : va_P D vwCl [(w1, .inl (cI, 100, .inl sg)), (w2, .inl (cI, 244, .inl gl)), (w3, .inl (cI, 1600, .inl fi)), (w4, .inl (cI, 1600, .inl ip)), (w5, .inl (cI, 1600, .inl se)), (w0, .inr (5, [.ref w1, .ref w2, .int (nI y), .int te, .ref w3, .ref w4, .ref w5, .int nt, .int wb, .ref w6, .ref w7, .ref w8, .int rc, .ref w9, .ref w10, .ref w11, .ref w12, .ref w13, .ref w14, .int fp, .int ft, .int (nI (flN 0 1))]))] H := hP
    have hD : va_D A [(w1, .inl (cI, 100, .inl sg)), (w2, .inl (cI, 244, .inl gl)), (w3, .inl (cI, 1600, .inl fi)), (w4, .inl (cI, 1600, .inl ip)), (w5, .inl (cI, 1600, .inl se)), (w0, .inr (5, [.ref w1, .ref w2, .int (nI y), .int te, .ref w3, .ref w4, .ref w5, .int nt, .int wb, .ref w6, .ref w7, .ref w8, .int rc, .ref w9, .ref w10, .ref w11, .ref w12, .ref w13, .ref w14, .int fp, .int ft, .int (nI (flN 0 1))]))] := hD
    refine jn_if_eq (tgt := 19) (a := 0) hx hb d_MD_drawn_14 (by decide) (by decide) (fun _ => ?_) (fun c9 => absurd c9 (by decide))
    obtain ⟨k9, hk9, rfl⟩ := nI_of (x := x) (fun z => absurd c_2 (by rw [Int32.lt_iff_toInt_lt] at z; rw [Int32.le_iff_toInt_le]; omega))
    refine lv_iconst (v := nI 0) hx hb d_MD_drawn_19 (by decide +kernel) ?_
    refine lv_istore_n (lv' := [(3, .int (nI 0)), (0, .ref w0), (1, .int (nI k9)), (2, .int v)]) hx hb d_MD_drawn_20 rfl hl (by decide) rfl (fun ls hl => ?_)
    refine lv_iload_n hx hb d_MD_drawn_21 rfl (lv_at hl 3 rfl) ?_
    refine lv_istore (lv' := [(4, .int v), (3, .int (nI 0)), (0, .ref w0), (1, .int (nI k9)), (2, .int v)]) hx hb d_MD_drawn_22 hl (by decide) rfl (fun ls hl => ?_)
    refine lv_aload_n hx hb d_MD_drawn_24 rfl (lv_at hl 2 rfl) ?_
    refine lv_aload_n hx hb d_MD_drawn_25 rfl (lv_at hl 2 rfl) ?_
    refine va_get (D := D) (ci := 5) (v := .ref w3) (C := R_MD) (T := T_MD) (N := 22) hx hb hw in_MD hown hE.1 hP 5 rfl rfl 4 (by decide) (hw _ kw_765) (fun _ h9 => h9) rfl d_MD_drawn_26 ?_
    refine lv_iconst (v := (-1)) hx hb d_MD_drawn_29 (by decide +kernel) ?_
    refine cl_i (wr := [(w4, .inl (cI, 1600, .inl ip)), (w5, .inl (cI, 1600, .inl se))]) (va_runV (As := [.ref w3, .int (-1)]) (rest := []) ⟨hx, hb, hml, hown, hw⟩ (k_MD_find l D cI cJ w0 w1 w2 w3 w4 w5 w6 w7 w8 w9 w10 w11 w12 w13 w14 y te nt wb rc fp ft (nI (flN 0 1)) sg gl w3 fi (-1) _ hy hfi hgl) (cwV 2 hw (gV kw_913 kw_915 kw_30 kw_45 kw_916) rfl rfl rfl (by decide +kernel) ⟨Nat.le_of_ble_eq_true rfl, Nat.le_of_ble_eq_true rfl⟩) (pre_Vw (wc := [(w0, .inr (5, [.ref w1, .ref w2, .int (nI y), .int te, .ref w3, .ref w4, .ref w5, .int nt, .int wb, .ref w6, .ref w7, .ref w8, .int rc, .ref w9, .ref w10, .ref w11, .ref w12, .ref w13, .ref w14, .int fp, .int ft, .int (nI (flN 0 1))])), (w1, .inl (cI, 100, .inl sg)), (w2, .inl (cI, 244, .inl gl)), (w3, .inl (cI, 1600, .inl fi))]) (q0 := 0) hE hX hA hP hD hS [5, 0, 1, 2] (by decide) rfl rfl rfl rfl) rfl rfl hl.1 rfl (lv_room (Nat.le_of_ble_eq_true rfl)) d_MD_drawn_30 ⟨Nat.le_of_ble_eq_true rfl, Nat.le_of_ble_eq_true rfl⟩) hP hD hS hA [5, 0, 1, 2] [3, 4] rfl rfl (by decide) (by decide) (fun r_2 u_r_2 H locs hr_2 hP hD hS => ?_)
    have hP : va_P D vwCl [(w4, .inl (cI, 1600, .inl ip)), (w5, .inl (cI, 1600, .inl se)), (w0, .inr (5, [.ref w1, .ref w2, .int (nI y), .int te, .ref w3, .ref w4, .ref w5, .int nt, .int wb, .ref w6, .ref w7, .ref w8, .int rc, .ref w9, .ref w10, .ref w11, .ref w12, .ref w13, .ref w14, .int u_r_2.2.1, .int u_r_2.2.2, .int (nI (flN 0 1))])), (w1, .inl (cI, 100, .inl sg)), (w2, .inl (cI, 244, .inl gl)), (w3, .inl (cI, 1600, .inl fi))] H := hP
    have hD : va_D A [(w4, .inl (cI, 1600, .inl ip)), (w5, .inl (cI, 1600, .inl se)), (w0, .inr (5, [.ref w1, .ref w2, .int (nI y), .int te, .ref w3, .ref w4, .ref w5, .int nt, .int wb, .ref w6, .ref w7, .ref w8, .int rc, .ref w9, .ref w10, .ref w11, .ref w12, .ref w13, .ref w14, .int u_r_2.2.1, .int u_r_2.2.2, .int (nI (flN 0 1))])), (w1, .inl (cI, 100, .inl sg)), (w2, .inl (cI, 244, .inl gl)), (w3, .inl (cI, 1600, .inl fi))] := hD
    obtain ⟨oA, rfl, hfdA⟩ := hr_2
    rw [fdV_R hfdA]
    have hfoA : okFd y u_r_2 := by have h := fdV_ok sg gl fi te (-1) y fp ft; rw [← hfdA] at h; exact h
    have hflA : u_r_2.1 ≤ 96000 := by have h := fdV_le (sg := sg) (gl := gl) (fi := fi) (te := te) (x := -1) (y := y) (fp := fp) (ft := ft) hy; rw [← hfdA] at h; exact h
    have hfnA : mzN sg gl te (-1) y (fi, ip, se, nt, wb, fp, ft) = u_r_2.1 := by show (fdV sg gl fi te (-1) y fp ft).2.1 = _; rw [← hfdA]
    have hffA : mzF sg gl te (-1) y (fi, ip, se, nt, wb, fp, ft) = (fi, ip, se, nt, wb, u_r_2.2.1, u_r_2.2.2) := by show (_, _, _, _, _, (fdV sg gl fi te (-1) y fp ft).2.2.1, (fdV sg gl fi te (-1) y fp ft).2.2.2) = _; rw [← hfdA]
    have hcnA : u_r_2.1 = (frL sg gl fi te y 1600 0).length := by have h := fdV_m1 sg gl fi te hy fp ft; rw [← hfdA] at h; exact h
    refine lv_istore (lv' := [(5, .int (nI u_r_2.1)), (4, .int v), (3, .int (nI 0)), (0, .ref w0), (1, .int (nI k9)), (2, .int v)]) hx hb d_MD_drawn_33 hl (by decide) rfl (fun ls hl => ?_)
    refine lp_k_MD_drawn_35 w0 w1 w2 w3 w4 w5 w6 w7 w8 w9 w10 w11 w12 w13 w14 y te nt wb rc fp ft th sg gl fi ip se (nI k9) v hy hfi hgl k9 hk9 hx hb hml hown hw hE hX hA (fun d z9 v9 a9 hd hz hall hend H locs ls hP hD hS hl => ?_) ((k9 - 0) + 1) 0 (fi, ip, se, nt, wb, u_r_2.2.1, u_r_2.2.2) v u_r_2.1 (Nat.lt_succ_self _) (Nat.zero_le _) (by rw [mdL, hffA, hfnA]) hfi hflA hcnA (fun j hj => absurd hj (Nat.not_lt_zero j)) _ _ _ (hP.sub [2, 3, 4, 5, 0, 1] rfl) (hD.sub [2, 3, 4, 5, 0, 1] (by decide) rfl) hS (lv_sub hl [3, 4, 2, 1, 0] rfl)
    refine lv_iload_n hx hb d_MD_drawn_101 rfl (lv_at hl 0 rfl) ?_
    have hP9 := hP.sub (ws' := [(w0, .inr (5, [.ref w1, .ref w2, .int (nI y), .int te, .ref w3, .ref w4, .ref w5, .int z9.2.2.2.1, .int z9.2.2.2.2.1, .ref w6, .ref w7, .ref w8, .int rc, .ref w9, .ref w10, .ref w11, .ref w12, .ref w13, .ref w14, .int z9.2.2.2.2.2.1, .int z9.2.2.2.2.2.2, .int (nI (flN 0 1))])), (w1, .inl (cI, 100, .inl sg)), (w2, .inl (cI, 244, .inl gl)), (w3, .inl (cI, 1600, .inl z9.1)), (w4, .inl (cI, 1600, .inl z9.2.1)), (w5, .inl (cI, 1600, .inl z9.2.2.1))]) [0, 1, 2, 3, 4, 5] rfl
    have hD9 := hD.sub (ws' := [(w0, .inr (5, [.ref w1, .ref w2, .int (nI y), .int te, .ref w3, .ref w4, .ref w5, .int z9.2.2.2.1, .int z9.2.2.2.2.1, .ref w6, .ref w7, .ref w8, .int rc, .ref w9, .ref w10, .ref w11, .ref w12, .ref w13, .ref w14, .int z9.2.2.2.2.2.1, .int z9.2.2.2.2.2.2, .int (nI (flN 0 1))])), (w1, .inl (cI, 100, .inl sg)), (w2, .inl (cI, 244, .inl gl)), (w3, .inl (cI, 1600, .inl z9.1)), (w4, .inl (cI, 1600, .inl z9.2.1)), (w5, .inl (cI, 1600, .inl z9.2.2.1))]) [0, 1, 2, 3, 4, 5] (by decide) rfl
    exact W.iret (v := nI d) hx hb hr (fun t9 ht hW => ⟨⟨_, (z9, nI 0), rfl, (Or.inr ⟨c_2, rfl, d, by rw [nn_nI hk9]; exact hd, rfl, by rw [← hz], hall, by rw [nn_nI hk9, ← hz]; exact hend⟩), ⟨by rw [ht]; exact hP9, hD9⟩⟩, hS.F ht⟩) hS.2.2 d_MD_drawn_102
  · skip
    refine lv_iconst (v := nI 1) hx hb d_MD_drawn_5 (by decide +kernel) ?_
    refine lv_goto (tgt := 10) hx hb d_MD_drawn_6 (by decide) ?_
    refine lv_iconst (v := nI 1) hx hb d_MD_drawn_10 (by decide +kernel) ?_
    refine cl_i (wr := [(w1, .inl (cI, 100, .inl sg)), (w2, .inl (cI, 244, .inl gl)), (w3, .inl (cI, 1600, .inl fi)), (w4, .inl (cI, 1600, .inl ip)), (w5, .inl (cI, 1600, .inl se))]) (va_runV (As := [.int (nI 1), .int (nI 1)]) (rest := []) ⟨hx, hb, hml, hown, hw⟩ (k_MD_fails l D cI cJ w0 w1 w2 w3 w4 w5 w6 w7 w8 w9 w10 w11 w12 w13 w14 (nI y) te nt wb rc fp ft th 1 1 _ (by omega)) (cwV 2 hw (gV kw_836 kw_838 kw_20 kw_45 kw_839) rfl rfl rfl (by decide +kernel) ⟨Nat.le_of_ble_eq_true rfl, Nat.le_of_ble_eq_true rfl⟩) (pre_Vw (wc := [(w0, .inr (5, [.ref w1, .ref w2, .int (nI y), .int te, .ref w3, .ref w4, .ref w5, .int nt, .int wb, .ref w6, .ref w7, .ref w8, .int rc, .ref w9, .ref w10, .ref w11, .ref w12, .ref w13, .ref w14, .int fp, .int ft, .int th]))]) (q0 := 0) hE hX hA hP hD hS [0] (by decide) rfl rfl rfl rfl) rfl rfl hl.1 rfl (lv_room (Nat.le_of_ble_eq_true rfl)) d_MD_drawn_11 ⟨Nat.le_of_ble_eq_true rfl, Nat.le_of_ble_eq_true rfl⟩) hP hD hS hA [0] [1, 2, 3, 4, 5] rfl rfl (by decide) (by decide) (fun r_3 u_r_3 H locs hr_3 hP hD hS => ?_)
    obtain rfl : nI 1 = r_3 := hr_3.symm
    have hP : va_P D vwCl [(w1, .inl (cI, 100, .inl sg)), (w2, .inl (cI, 244, .inl gl)), (w3, .inl (cI, 1600, .inl fi)), (w4, .inl (cI, 1600, .inl ip)), (w5, .inl (cI, 1600, .inl se)), (w0, .inr (5, [.ref w1, .ref w2, .int (nI y), .int te, .ref w3, .ref w4, .ref w5, .int nt, .int wb, .ref w6, .ref w7, .ref w8, .int rc, .ref w9, .ref w10, .ref w11, .ref w12, .ref w13, .ref w14, .int fp, .int ft, .int (nI (flN 1 1))]))] H := hP
    have hD : va_D A [(w1, .inl (cI, 100, .inl sg)), (w2, .inl (cI, 244, .inl gl)), (w3, .inl (cI, 1600, .inl fi)), (w4, .inl (cI, 1600, .inl ip)), (w5, .inl (cI, 1600, .inl se)), (w0, .inr (5, [.ref w1, .ref w2, .int (nI y), .int te, .ref w3, .ref w4, .ref w5, .int nt, .int wb, .ref w6, .ref w7, .ref w8, .int rc, .ref w9, .ref w10, .ref w11, .ref w12, .ref w13, .ref w14, .int fp, .int ft, .int (nI (flN 1 1))]))] := hD
    refine jn_if_eq (tgt := 19) (a := 1) hx hb d_MD_drawn_14 (by decide) (by decide) (fun c9 => absurd c9 (by decide)) (fun _ => ?_)
    refine lv_iconst (v := nI 0) hx hb d_MD_drawn_17 (by decide +kernel) ?_
    have hP9 := hP.sub (ws' := [(w0, .inr (5, [.ref w1, .ref w2, .int (nI y), .int te, .ref w3, .ref w4, .ref w5, .int nt, .int wb, .ref w6, .ref w7, .ref w8, .int rc, .ref w9, .ref w10, .ref w11, .ref w12, .ref w13, .ref w14, .int fp, .int ft, .int (nI (flN 1 1))])), (w1, .inl (cI, 100, .inl sg)), (w2, .inl (cI, 244, .inl gl)), (w3, .inl (cI, 1600, .inl fi)), (w4, .inl (cI, 1600, .inl ip)), (w5, .inl (cI, 1600, .inl se))]) [5, 0, 1, 2, 3, 4] rfl
    have hD9 := hD.sub (ws' := [(w0, .inr (5, [.ref w1, .ref w2, .int (nI y), .int te, .ref w3, .ref w4, .ref w5, .int nt, .int wb, .ref w6, .ref w7, .ref w8, .int rc, .ref w9, .ref w10, .ref w11, .ref w12, .ref w13, .ref w14, .int fp, .int ft, .int (nI (flN 1 1))])), (w1, .inl (cI, 100, .inl sg)), (w2, .inl (cI, 244, .inl gl)), (w3, .inl (cI, 1600, .inl fi)), (w4, .inl (cI, 1600, .inl ip)), (w5, .inl (cI, 1600, .inl se))]) [5, 0, 1, 2, 3, 4] (by decide) rfl
    exact W.iret (v := nI 0) hx hb hr (fun t9 ht hW => ⟨⟨_, ((fi, ip, se, nt, wb, fp, ft), nI 1), rfl, (Or.inl ⟨c_2, rfl, rfl⟩), ⟨by rw [ht]; exact hP9, hD9⟩⟩, hS.F ht⟩) hS.2.2 d_MD_drawn_18
set_option maxHeartbeats 4000000 in
set_option maxRecDepth 100000 in
/-- front -/
theorem k_MD_front (l : Launch) (D : va_G) (cI cJ : ClassId) (w0 : Nat) (w1 : Nat) (w2 : Nat) (w3 : Nat) (w4 : Nat) (w5 : Nat) (w6 : Nat) (w7 : Nat) (w8 : Nat) (w9 : Nat) (w10 : Nat) (w11 : Nat) (w12 : Nat) (w13 : Nat) (w14 : Nat) (y : Nat) (te : Int32) (nt : Int32) (wb : Int32) (rc : Int32) (fp : Int32) (ft : Int32) (th : Int32) (sg : Nat → Int32) (gl : Nat → Int32) (fi : Nat → Int32) (x : Int32) (w : Int32) (sz : Nat) (hy : y ≤ 60) (hfi : okFi fi) (hgl : okGl gl) : Met l y_MD_front ws_MD_front ({ frames := 7, cells := 0, slots := 0, locals := 166 } : Room) (va_Pc [.ref w0, .int x, .int w] (Pw D cI cJ [(w0, .inr (5, [.ref w1, .ref w2, .int (nI y), .int te, .ref w3, .ref w4, .ref w5, .int nt, .int wb, .ref w6, .ref w7, .ref w8, .int rc, .ref w9, .ref w10, .ref w11, .ref w12, .ref w13, .ref w14, .int fp, .int ft, .int th])), (w1, .inl (cI, 100, .inl sg)), (w2, .inl (cI, 244, .inl gl)), (w3, .inl (cI, 1600, .inl fi))] sz)) (va_Qi (fun (r : Int32) (u9 : Int32 × Int32 × Int32) => (x < 0 ∧ r = nI 0 ∧ u9 = (fp, ft, nI 1)) ∨ (¬ x < 0 ∧ ∃ (o : Option Nat) (u : FN), (o, u) = fdV sg gl fi te x y fp ft ∧ u9.1 = u.2.1 ∧ u9.2.1 = u.2.2 ∧ (r, u9.2.2) = mfR (fdR (o, u)) (nn x) w u.2)) (fun u9 t9 => Bw D (va_A [(w0, .inr (5, [.ref w1, .ref w2, .int (nI y), .int te, .ref w3, .ref w4, .ref w5, .int nt, .int wb, .ref w6, .ref w7, .ref w8, .int rc, .ref w9, .ref w10, .ref w11, .ref w12, .ref w13, .ref w14, .int fp, .int ft, .int th])), (w1, .inl (cI, 100, .inl sg)), (w2, .inl (cI, 244, .inl gl)), (w3, .inl (cI, 1600, .inl fi))] sz) [(w0, .inr (5, [.ref w1, .ref w2, .int (nI y), .int te, .ref w3, .ref w4, .ref w5, .int nt, .int wb, .ref w6, .ref w7, .ref w8, .int rc, .ref w9, .ref w10, .ref w11, .ref w12, .ref w13, .ref w14, .int u9.1, .int u9.2.1, .int u9.2.2])), (w1, .inl (cI, 100, .inl sg)), (w2, .inl (cI, 244, .inl gl)), (w3, .inl (cI, 1600, .inl fi))] t9) (va_A [(w0, .inr (5, [.ref w1, .ref w2, .int (nI y), .int te, .ref w3, .ref w4, .ref w5, .int nt, .int wb, .ref w6, .ref w7, .ref w8, .int rc, .ref w9, .ref w10, .ref w11, .ref w12, .ref w13, .ref w14, .int fp, .int ft, .int th])), (w1, .inl (cI, 100, .inl sg)), (w2, .inl (cI, 244, .inl gl)), (w3, .inl (cI, 1600, .inl fi))] sz)) 0 0 (va_A [(w0, .inr (5, [.ref w1, .ref w2, .int (nI y), .int te, .ref w3, .ref w4, .ref w5, .int nt, .int wb, .ref w6, .ref w7, .ref w8, .int rc, .ref w9, .ref w10, .ref w11, .ref w12, .ref w13, .ref w14, .int fp, .int ft, .int th])), (w1, .inl (cI, 100, .inl sg)), (w2, .inl (cI, 244, .inl gl)), (w3, .inl (cI, 1600, .inl fi))] sz) := by
  refine Met.ofW (cc := c_MD_front) (maxL := 3) (ret := (some .int)) (by decide) rfl ?_
  intro p e s m args below meth c s₁ B hml hv
  obtain ⟨rfl, hsz, hE, hP, hD0, hX⟩ := hv
  have hx := B.exec
  have hb := B.bytes
  have hr := B.returns
  have hw : ∀ w ∈ gw, w.before _ s = true := fun w h => atoms_spec (ws := ws_MD_front) B.pre w (List.mem_cons_of_mem _ h)
  have hown : s.vm.findClass R_MD = some m.cls := findClass_of_methodNamed B.named
  have hlocks := B.notSynchronized
  subst hsz
  have hD := hD0.self (sz := s.heap.size)
  generalize hAe : va_A [(w0, .inr (5, [.ref w1, .ref w2, .int (nI y), .int te, .ref w3, .ref w4, .ref w5, .int nt, .int wb, .ref w6, .ref w7, .ref w8, .int rc, .ref w9, .ref w10, .ref w11, .ref w12, .ref w13, .ref w14, .int fp, .int ft, .int th])), (w1, .inl (cI, 100, .inl sg)), (w2, .inl (cI, 244, .inl gl)), (w3, .inl (cI, 1600, .inl fi))] s.heap.size = A at hD hX ⊢
  have hA : ∀ q : Nat, s.heap.size ≤ q → A q := fun q h => by rw [← hAe]; exact Or.inr h
  have hS : va_S A s.heap s.heap [] := va_S.rf
  have hP : va_P D vwCl [(w0, .inr (5, [.ref w1, .ref w2, .int (nI y), .int te, .ref w3, .ref w4, .ref w5, .int nt, .int wb, .ref w6, .ref w7, .ref w8, .int rc, .ref w9, .ref w10, .ref w11, .ref w12, .ref w13, .ref w14, .int fp, .int ft, .int th])), (w1, .inl (cI, 100, .inl sg)), (w2, .inl (cI, 244, .inl gl)), (w3, .inl (cI, 1600, .inl fi))] s.heap := hP
  have hl := lv_entry ([.ref w0, .int x, .int w]) (n := 3) (Nat.le_of_ble_eq_true rfl)
  rw [lg_entry_eq]
  generalize (lg_sl ([.ref w0, .int x, .int w]) ++ List.replicate (3 - (lg_sl ([.ref w0, .int x, .int w])).length) Slot.unset).toArray = ls at hl ⊢
  have hl : lv_has ls 3 [(0, .ref w0), (1, .int x), (2, .int w)] := hl
  refine lv_aload_n hx hb d_MD_front_0 rfl (lv_at hl 0 rfl) ?_
  refine lv_iload_n hx hb d_MD_front_1 rfl (lv_at hl 1 rfl) ?_
  refine lv_if_lt (tgt := 18) hx hb d_MD_front_2 (by decide) (fun c_2 => ?_) (fun c_2 => ?_)
  · skip
    refine lv_iconst (v := nI 1) hx hb d_MD_front_18 (by decide +kernel) ?_
    refine lv_goto (tgt := 23) hx hb d_MD_front_19 (by decide) ?_
    refine lv_iconst (v := nI 1) hx hb d_MD_front_23 (by decide +kernel) ?_
    refine cl_i (wr := [(w1, .inl (cI, 100, .inl sg)), (w2, .inl (cI, 244, .inl gl)), (w3, .inl (cI, 1600, .inl fi))]) (va_runV (As := [.int (nI 1), .int (nI 1)]) (rest := []) ⟨hx, hb, hml, hown, hw⟩ (k_MD_fails l D cI cJ w0 w1 w2 w3 w4 w5 w6 w7 w8 w9 w10 w11 w12 w13 w14 (nI y) te nt wb rc fp ft th 1 1 _ (by omega)) (cwV 2 hw (gV kw_836 kw_838 kw_20 kw_45 kw_839) rfl rfl rfl (by decide +kernel) ⟨Nat.le_of_ble_eq_true rfl, Nat.le_of_ble_eq_true rfl⟩) (pre_Vw (wc := [(w0, .inr (5, [.ref w1, .ref w2, .int (nI y), .int te, .ref w3, .ref w4, .ref w5, .int nt, .int wb, .ref w6, .ref w7, .ref w8, .int rc, .ref w9, .ref w10, .ref w11, .ref w12, .ref w13, .ref w14, .int fp, .int ft, .int th]))]) (q0 := 0) hE hX hA hP hD hS [0] (by decide) rfl rfl rfl rfl) rfl rfl hl.1 rfl (lv_room (Nat.le_of_ble_eq_true rfl)) d_MD_front_24 ⟨Nat.le_of_ble_eq_true rfl, Nat.le_of_ble_eq_true rfl⟩) hP hD hS hA [0] [1, 2, 3] rfl rfl (by decide) (by decide) (fun r_1 u_r_1 H locs hr_1 hP hD hS => ?_)
    obtain rfl : nI 1 = r_1 := hr_1.symm
    have hP : va_P D vwCl [(w1, .inl (cI, 100, .inl sg)), (w2, .inl (cI, 244, .inl gl)), (w3, .inl (cI, 1600, .inl fi)), (w0, .inr (5, [.ref w1, .ref w2, .int (nI y), .int te, .ref w3, .ref w4, .ref w5, .int nt, .int wb, .ref w6, .ref w7, .ref w8, .int rc, .ref w9, .ref w10, .ref w11, .ref w12, .ref w13, .ref w14, .int fp, .int ft, .int (nI (flN 1 1))]))] H := hP
    have hD : va_D A [(w1, .inl (cI, 100, .inl sg)), (w2, .inl (cI, 244, .inl gl)), (w3, .inl (cI, 1600, .inl fi)), (w0, .inr (5, [.ref w1, .ref w2, .int (nI y), .int te, .ref w3, .ref w4, .ref w5, .int nt, .int wb, .ref w6, .ref w7, .ref w8, .int rc, .ref w9, .ref w10, .ref w11, .ref w12, .ref w13, .ref w14, .int fp, .int ft, .int (nI (flN 1 1))]))] := hD
    refine jn_if_ne (tgt := 52) (a := 1) hx hb d_MD_front_27 (by decide) (by decide) (fun _ => ?_) (fun c9 => absurd c9 (by decide))
    refine lv_iconst (v := nI 0) hx hb d_MD_front_52 (by decide +kernel) ?_
    have hP9 := hP.sub (ws' := [(w0, .inr (5, [.ref w1, .ref w2, .int (nI y), .int te, .ref w3, .ref w4, .ref w5, .int nt, .int wb, .ref w6, .ref w7, .ref w8, .int rc, .ref w9, .ref w10, .ref w11, .ref w12, .ref w13, .ref w14, .int fp, .int ft, .int (nI (flN 1 1))])), (w1, .inl (cI, 100, .inl sg)), (w2, .inl (cI, 244, .inl gl)), (w3, .inl (cI, 1600, .inl fi))]) [3, 0, 1, 2] rfl
    have hD9 := hD.sub (ws' := [(w0, .inr (5, [.ref w1, .ref w2, .int (nI y), .int te, .ref w3, .ref w4, .ref w5, .int nt, .int wb, .ref w6, .ref w7, .ref w8, .int rc, .ref w9, .ref w10, .ref w11, .ref w12, .ref w13, .ref w14, .int fp, .int ft, .int (nI (flN 1 1))])), (w1, .inl (cI, 100, .inl sg)), (w2, .inl (cI, 244, .inl gl)), (w3, .inl (cI, 1600, .inl fi))]) [3, 0, 1, 2] (by decide) rfl
    exact W.iret (v := nI 0) hx hb hr (fun t9 ht hW => ⟨⟨_, (fp, ft, nI 1), rfl, (Or.inl ⟨c_2, rfl, rfl⟩), ⟨by rw [ht]; exact hP9, hD9⟩⟩, hS.F ht⟩) hS.2.2 d_MD_front_53
  · skip
    obtain ⟨k9, hk9, rfl⟩ := nI_of c_2
    refine lv_aload_n hx hb d_MD_front_5 rfl (lv_at hl 0 rfl) ?_
    refine lv_aload_n hx hb d_MD_front_6 rfl (lv_at hl 0 rfl) ?_
    refine va_get (D := D) (ci := 5) (v := .ref w3) (C := R_MD) (T := T_MD) (N := 22) hx hb hw in_MD hown hE.1 hP 0 rfl rfl 4 (by decide) (hw _ kw_765) (fun _ h9 => h9) rfl d_MD_front_7 ?_
    refine lv_iload_n hx hb d_MD_front_10 rfl (lv_at hl 1 rfl) ?_
    refine cl_i (wr := []) (va_runV (As := [.ref w3, .int (nI k9)]) (rest := [.ref w0]) ⟨hx, hb, hml, hown, hw⟩ (k_MD_find l D cI cJ w0 w1 w2 w3 w4 w5 w6 w7 w8 w9 w10 w11 w12 w13 w14 y te nt wb rc fp ft th sg gl w3 fi (nI k9) _ hy hfi hgl) (cwV 2 hw (gV kw_913 kw_915 kw_30 kw_45 kw_916) rfl rfl rfl (by decide +kernel) ⟨Nat.le_of_ble_eq_true rfl, Nat.le_of_ble_eq_true rfl⟩) (pre_Vw (wc := [(w0, .inr (5, [.ref w1, .ref w2, .int (nI y), .int te, .ref w3, .ref w4, .ref w5, .int nt, .int wb, .ref w6, .ref w7, .ref w8, .int rc, .ref w9, .ref w10, .ref w11, .ref w12, .ref w13, .ref w14, .int fp, .int ft, .int th])), (w1, .inl (cI, 100, .inl sg)), (w2, .inl (cI, 244, .inl gl)), (w3, .inl (cI, 1600, .inl fi))]) (q0 := 0) hE hX hA hP hD hS [0, 1, 2, 3] (by decide) rfl rfl rfl rfl) rfl rfl hl.1 rfl (lv_room (Nat.le_of_ble_eq_true rfl)) d_MD_front_11 ⟨Nat.le_of_ble_eq_true rfl, Nat.le_of_ble_eq_true rfl⟩) hP hD hS hA [0, 1, 2, 3] [] rfl rfl (by decide) (by decide) (fun r_2 u_r_2 H locs hr_2 hP hD hS => ?_)
    have hP : va_P D vwCl [(w0, .inr (5, [.ref w1, .ref w2, .int (nI y), .int te, .ref w3, .ref w4, .ref w5, .int nt, .int wb, .ref w6, .ref w7, .ref w8, .int rc, .ref w9, .ref w10, .ref w11, .ref w12, .ref w13, .ref w14, .int u_r_2.2.1, .int u_r_2.2.2, .int th])), (w1, .inl (cI, 100, .inl sg)), (w2, .inl (cI, 244, .inl gl)), (w3, .inl (cI, 1600, .inl fi))] H := hP
    have hD : va_D A [(w0, .inr (5, [.ref w1, .ref w2, .int (nI y), .int te, .ref w3, .ref w4, .ref w5, .int nt, .int wb, .ref w6, .ref w7, .ref w8, .int rc, .ref w9, .ref w10, .ref w11, .ref w12, .ref w13, .ref w14, .int u_r_2.2.1, .int u_r_2.2.2, .int th])), (w1, .inl (cI, 100, .inl sg)), (w2, .inl (cI, 244, .inl gl)), (w3, .inl (cI, 1600, .inl fi))] := hD
    obtain ⟨o, rfl, hfd⟩ := hr_2
    have hfr := fdV_R hfd
    rw [hfr]
    have hfo : okFd y u_r_2 := by have h := fdV_ok sg gl fi te (nI k9) y fp ft; rw [← hfd] at h; exact h
    have hfl : u_r_2.1 ≤ 96000 := by have h := fdV_le (sg := sg) (gl := gl) (fi := fi) (te := te) (x := nI k9) (y := y) (fp := fp) (ft := ft) hy; rw [← hfd] at h; exact h
    refine lv_iload_n hx hb d_MD_front_14 rfl (lv_at hl 1 rfl) ?_
    refine jn_icmp_gt (tgt := 22) (a := u_r_2.1) (b := k9) hx hb d_MD_front_15 (by decide) (by omega) (by omega) (fun c_15 => ?_) (fun c_15 => ?_)
    · skip
      refine lv_iconst (v := nI 0) hx hb d_MD_front_22 (by decide +kernel) ?_
      refine lv_iconst (v := nI 1) hx hb d_MD_front_23 (by decide +kernel) ?_
      refine cl_i (wr := [(w1, .inl (cI, 100, .inl sg)), (w2, .inl (cI, 244, .inl gl)), (w3, .inl (cI, 1600, .inl fi))]) (va_runV (As := [.int (nI 0), .int (nI 1)]) (rest := []) ⟨hx, hb, hml, hown, hw⟩ (k_MD_fails l D cI cJ w0 w1 w2 w3 w4 w5 w6 w7 w8 w9 w10 w11 w12 w13 w14 (nI y) te nt wb rc u_r_2.2.1 u_r_2.2.2 th 0 1 _ (by omega)) (cwV 2 hw (gV kw_836 kw_838 kw_20 kw_45 kw_839) rfl rfl rfl (by decide +kernel) ⟨Nat.le_of_ble_eq_true rfl, Nat.le_of_ble_eq_true rfl⟩) (pre_Vw (wc := [(w0, .inr (5, [.ref w1, .ref w2, .int (nI y), .int te, .ref w3, .ref w4, .ref w5, .int nt, .int wb, .ref w6, .ref w7, .ref w8, .int rc, .ref w9, .ref w10, .ref w11, .ref w12, .ref w13, .ref w14, .int u_r_2.2.1, .int u_r_2.2.2, .int th]))]) (q0 := 0) hE hX hA hP hD hS [0] (by decide) rfl rfl rfl rfl) rfl rfl hl.1 rfl (lv_room (Nat.le_of_ble_eq_true rfl)) d_MD_front_24 ⟨Nat.le_of_ble_eq_true rfl, Nat.le_of_ble_eq_true rfl⟩) hP hD hS hA [0] [1, 2, 3] rfl rfl (by decide) (by decide) (fun r_3 u_r_3 H locs hr_3 hP hD hS => ?_)
      obtain rfl : nI 0 = r_3 := hr_3.symm
      have hP : va_P D vwCl [(w1, .inl (cI, 100, .inl sg)), (w2, .inl (cI, 244, .inl gl)), (w3, .inl (cI, 1600, .inl fi)), (w0, .inr (5, [.ref w1, .ref w2, .int (nI y), .int te, .ref w3, .ref w4, .ref w5, .int nt, .int wb, .ref w6, .ref w7, .ref w8, .int rc, .ref w9, .ref w10, .ref w11, .ref w12, .ref w13, .ref w14, .int u_r_2.2.1, .int u_r_2.2.2, .int (nI (flN 0 1))]))] H := hP
      have hD : va_D A [(w1, .inl (cI, 100, .inl sg)), (w2, .inl (cI, 244, .inl gl)), (w3, .inl (cI, 1600, .inl fi)), (w0, .inr (5, [.ref w1, .ref w2, .int (nI y), .int te, .ref w3, .ref w4, .ref w5, .int nt, .int wb, .ref w6, .ref w7, .ref w8, .int rc, .ref w9, .ref w10, .ref w11, .ref w12, .ref w13, .ref w14, .int u_r_2.2.1, .int u_r_2.2.2, .int (nI (flN 0 1))]))] := hD
      refine jn_if_ne (tgt := 52) (a := 0) hx hb d_MD_front_27 (by decide) (by decide) (fun c9 => absurd c9 (by decide)) (fun _ => ?_)
      refine lv_aload_n hx hb d_MD_front_30 rfl (lv_at hl 0 rfl) ?_
      refine lv_iload_n hx hb d_MD_front_31 rfl (lv_at hl 2 rfl) ?_
      refine lv_iconst (v := nI 0) hx hb d_MD_front_32 (by decide +kernel) ?_
      refine lv_iconst (v := nI 2) hx hb d_MD_front_33 (by decide +kernel) ?_
      refine vp_callSi (va_Run.run (va_runS (As := [.int w, .int (nI 0), .int (nI 2)]) (rest := [.ref w0]) ⟨hx, hb, hml, hown, hw⟩ (k_MD_within l D cI cJ w (nI 0) (nI 2)) (va_cwS 3 hw (gS kw_840 kw_841 kw_45 kw_842) rfl rfl rfl (by decide +kernel) ⟨Nat.le_of_ble_eq_true rfl, Nat.le_of_ble_eq_true rfl⟩) (pre_Sp (wc := []) hE hX hP hS [] rfl) rfl rfl hl.1 rfl (lv_room (Nat.le_of_ble_eq_true rfl)) d_MD_front_34 ⟨Nat.le_of_ble_eq_true rfl, Nat.le_of_ble_eq_true rfl⟩)) (fun r_4 hr_4 => ?_)
      obtain rfl : nI (wiN w (nI 0) (nI 2)) = r_4 := hr_4.symm
      refine jn_if_ne (tgt := 44) (a := (wiN w (nI 0) (nI 2))) hx hb d_MD_front_37 (by decide) (by have := wiN_le w (nI 0) (nI 2); omega) (fun c_37 => ?_) (fun c_37 => ?_)
      · skip
        refine lv_iconst (v := nI 0) hx hb d_MD_front_44 (by decide +kernel) ?_
        refine lv_iconst (v := nI 2) hx hb d_MD_front_45 (by decide +kernel) ?_
        refine cl_i (wr := [(w1, .inl (cI, 100, .inl sg)), (w2, .inl (cI, 244, .inl gl)), (w3, .inl (cI, 1600, .inl fi))]) (va_runV (As := [.int (nI 0), .int (nI 2)]) (rest := []) ⟨hx, hb, hml, hown, hw⟩ (k_MD_fails l D cI cJ w0 w1 w2 w3 w4 w5 w6 w7 w8 w9 w10 w11 w12 w13 w14 (nI y) te nt wb rc u_r_2.2.1 u_r_2.2.2 (nI (flN 0 1)) 0 2 _ (by omega)) (cwV 2 hw (gV kw_836 kw_838 kw_20 kw_45 kw_839) rfl rfl rfl (by decide +kernel) ⟨Nat.le_of_ble_eq_true rfl, Nat.le_of_ble_eq_true rfl⟩) (pre_Vw (wc := [(w0, .inr (5, [.ref w1, .ref w2, .int (nI y), .int te, .ref w3, .ref w4, .ref w5, .int nt, .int wb, .ref w6, .ref w7, .ref w8, .int rc, .ref w9, .ref w10, .ref w11, .ref w12, .ref w13, .ref w14, .int u_r_2.2.1, .int u_r_2.2.2, .int (nI (flN 0 1))]))]) (q0 := 0) hE hX hA hP hD hS [3] (by decide) rfl rfl rfl rfl) rfl rfl hl.1 rfl (lv_room (Nat.le_of_ble_eq_true rfl)) d_MD_front_46 ⟨Nat.le_of_ble_eq_true rfl, Nat.le_of_ble_eq_true rfl⟩) hP hD hS hA [3] [0, 1, 2] rfl rfl (by decide) (by decide) (fun r_5 u_r_5 H locs hr_5 hP hD hS => ?_)
        obtain rfl : nI 0 = r_5 := hr_5.symm
        have hP : va_P D vwCl [(w1, .inl (cI, 100, .inl sg)), (w2, .inl (cI, 244, .inl gl)), (w3, .inl (cI, 1600, .inl fi)), (w0, .inr (5, [.ref w1, .ref w2, .int (nI y), .int te, .ref w3, .ref w4, .ref w5, .int nt, .int wb, .ref w6, .ref w7, .ref w8, .int rc, .ref w9, .ref w10, .ref w11, .ref w12, .ref w13, .ref w14, .int u_r_2.2.1, .int u_r_2.2.2, .int (nI (flN 0 2))]))] H := hP
        have hD : va_D A [(w1, .inl (cI, 100, .inl sg)), (w2, .inl (cI, 244, .inl gl)), (w3, .inl (cI, 1600, .inl fi)), (w0, .inr (5, [.ref w1, .ref w2, .int (nI y), .int te, .ref w3, .ref w4, .ref w5, .int nt, .int wb, .ref w6, .ref w7, .ref w8, .int rc, .ref w9, .ref w10, .ref w11, .ref w12, .ref w13, .ref w14, .int u_r_2.2.1, .int u_r_2.2.2, .int (nI (flN 0 2))]))] := hD
        refine jn_if_eq (tgt := 54) (a := 0) hx hb d_MD_front_49 (by decide) (by decide) (fun _ => ?_) (fun c9 => absurd c9 (by decide))
        obtain ⟨pp, tt, hpp, htt1, htt2, hep, het⟩ := hfo.resolve_left (by omega)
        rw [hep, het] at hP hD
        have hP : va_P D vwCl [(w1, .inl (cI, 100, .inl sg)), (w2, .inl (cI, 244, .inl gl)), (w3, .inl (cI, 1600, .inl fi)), (w0, .inr (5, [.ref w1, .ref w2, .int (nI y), .int te, .ref w3, .ref w4, .ref w5, .int nt, .int wb, .ref w6, .ref w7, .ref w8, .int rc, .ref w9, .ref w10, .ref w11, .ref w12, .ref w13, .ref w14, .int (nI pp), .int (nI tt), .int (nI (flN 0 2))]))] H := hP
        have hD : va_D A [(w1, .inl (cI, 100, .inl sg)), (w2, .inl (cI, 244, .inl gl)), (w3, .inl (cI, 1600, .inl fi)), (w0, .inr (5, [.ref w1, .ref w2, .int (nI y), .int te, .ref w3, .ref w4, .ref w5, .int nt, .int wb, .ref w6, .ref w7, .ref w8, .int rc, .ref w9, .ref w10, .ref w11, .ref w12, .ref w13, .ref w14, .int (nI pp), .int (nI tt), .int (nI (flN 0 2))]))] := hD
        refine lv_iload_n hx hb d_MD_front_54 rfl (lv_at hl 2 rfl) ?_
        refine lv_if_ne (tgt := 68) hx hb d_MD_front_55 (by decide) (fun c_55 => ?_) (fun c_55 => ?_)
        · skip
          refine lv_iload_n hx hb d_MD_front_68 rfl (lv_at hl 2 rfl) ?_
          refine lv_iconst (v := nI 1) hx hb d_MD_front_69 (by decide +kernel) ?_
          refine lv_icmp_ne (tgt := 83) hx hb d_MD_front_70 (by decide) (fun c_70 => ?_) (fun c_70 => ?_)
          · skip
            refine lv_aload_n hx hb d_MD_front_83 rfl (lv_at hl 0 rfl) ?_
            refine va_get (D := D) (ci := 5) (v := .int (nI tt)) (C := R_MD) (T := T_MD) (N := 22) hx hb hw in_MD hown hE.1 hP 3 rfl rfl 20 (by decide) (hw _ kw_781) (fun _ h9 => h9) rfl d_MD_front_84 ?_
            have hP9 := hP.sub (ws' := [(w0, .inr (5, [.ref w1, .ref w2, .int (nI y), .int te, .ref w3, .ref w4, .ref w5, .int nt, .int wb, .ref w6, .ref w7, .ref w8, .int rc, .ref w9, .ref w10, .ref w11, .ref w12, .ref w13, .ref w14, .int (nI pp), .int (nI tt), .int (nI (flN 0 2))])), (w1, .inl (cI, 100, .inl sg)), (w2, .inl (cI, 244, .inl gl)), (w3, .inl (cI, 1600, .inl fi))]) [3, 0, 1, 2] rfl
            have hD9 := hD.sub (ws' := [(w0, .inr (5, [.ref w1, .ref w2, .int (nI y), .int te, .ref w3, .ref w4, .ref w5, .int nt, .int wb, .ref w6, .ref w7, .ref w8, .int rc, .ref w9, .ref w10, .ref w11, .ref w12, .ref w13, .ref w14, .int (nI pp), .int (nI tt), .int (nI (flN 0 2))])), (w1, .inl (cI, 100, .inl sg)), (w2, .inl (cI, 244, .inl gl)), (w3, .inl (cI, 1600, .inl fi))]) [3, 0, 1, 2] (by decide) rfl
            exact W.iret (v := nI tt) hx hb hr (fun t9 ht hW => ⟨⟨_, (nI pp, nI tt, nI 0), rfl, (Or.inr ⟨c_2, o, u_r_2, hfd, hep.symm, het.symm, by rw [nn_nI hk9, hfr]; unfold mfR; rw [if_neg (show ¬ u_r_2.1 ≤ k9 by omega), if_neg c_37, hep, het, nn_nI (show pp < 2 ^ 31 by omega), if_neg c_55, if_neg c_70]⟩), ⟨by rw [ht]; exact hP9, hD9⟩⟩, hS.F ht⟩) hS.2.2 d_MD_front_87
          · skip
            refine lv_aload_n hx hb d_MD_front_73 rfl (lv_at hl 0 rfl) ?_
            refine va_get (D := D) (ci := 5) (v := .int (nI pp)) (C := R_MD) (T := T_MD) (N := 22) hx hb hw in_MD hown hE.1 hP 3 rfl rfl 19 (by decide) (hw _ kw_780) (fun _ h9 => h9) rfl d_MD_front_74 ?_
            refine lv_bipush (v := nI 40) hx hb d_MD_front_77 (by decide +kernel) ?_
            refine jn_idiv (a := pp) (b := 40) hx hb d_MD_front_79 (by omega) (by omega) (by omega) ?_
            refine lv_goto (tgt := 87) hx hb d_MD_front_80 (by decide) ?_
            have hP9 := hP.sub (ws' := [(w0, .inr (5, [.ref w1, .ref w2, .int (nI y), .int te, .ref w3, .ref w4, .ref w5, .int nt, .int wb, .ref w6, .ref w7, .ref w8, .int rc, .ref w9, .ref w10, .ref w11, .ref w12, .ref w13, .ref w14, .int (nI pp), .int (nI tt), .int (nI (flN 0 2))])), (w1, .inl (cI, 100, .inl sg)), (w2, .inl (cI, 244, .inl gl)), (w3, .inl (cI, 1600, .inl fi))]) [3, 0, 1, 2] rfl
            have hD9 := hD.sub (ws' := [(w0, .inr (5, [.ref w1, .ref w2, .int (nI y), .int te, .ref w3, .ref w4, .ref w5, .int nt, .int wb, .ref w6, .ref w7, .ref w8, .int rc, .ref w9, .ref w10, .ref w11, .ref w12, .ref w13, .ref w14, .int (nI pp), .int (nI tt), .int (nI (flN 0 2))])), (w1, .inl (cI, 100, .inl sg)), (w2, .inl (cI, 244, .inl gl)), (w3, .inl (cI, 1600, .inl fi))]) [3, 0, 1, 2] (by decide) rfl
            exact W.iret (v := nI (pp / 40)) hx hb hr (fun t9 ht hW => ⟨⟨_, (nI pp, nI tt, nI 0), rfl, (Or.inr ⟨c_2, o, u_r_2, hfd, hep.symm, het.symm, by rw [nn_nI hk9, hfr]; unfold mfR; rw [if_neg (show ¬ u_r_2.1 ≤ k9 by omega), if_neg c_37, hep, het, nn_nI (show pp < 2 ^ 31 by omega), if_neg c_55, if_pos c_70]⟩), ⟨by rw [ht]; exact hP9, hD9⟩⟩, hS.F ht⟩) hS.2.2 d_MD_front_87
        · skip
          refine lv_aload_n hx hb d_MD_front_58 rfl (lv_at hl 0 rfl) ?_
          refine va_get (D := D) (ci := 5) (v := .int (nI pp)) (C := R_MD) (T := T_MD) (N := 22) hx hb hw in_MD hown hE.1 hP 3 rfl rfl 19 (by decide) (hw _ kw_780) (fun _ h9 => h9) rfl d_MD_front_59 ?_
          refine lv_bipush (v := nI 40) hx hb d_MD_front_62 (by decide +kernel) ?_
          refine jn_irem (a := pp) (b := 40) hx hb d_MD_front_64 (by omega) (by omega) (by omega) ?_
          refine lv_goto (tgt := 87) hx hb d_MD_front_65 (by decide) ?_
          have hP9 := hP.sub (ws' := [(w0, .inr (5, [.ref w1, .ref w2, .int (nI y), .int te, .ref w3, .ref w4, .ref w5, .int nt, .int wb, .ref w6, .ref w7, .ref w8, .int rc, .ref w9, .ref w10, .ref w11, .ref w12, .ref w13, .ref w14, .int (nI pp), .int (nI tt), .int (nI (flN 0 2))])), (w1, .inl (cI, 100, .inl sg)), (w2, .inl (cI, 244, .inl gl)), (w3, .inl (cI, 1600, .inl fi))]) [3, 0, 1, 2] rfl
          have hD9 := hD.sub (ws' := [(w0, .inr (5, [.ref w1, .ref w2, .int (nI y), .int te, .ref w3, .ref w4, .ref w5, .int nt, .int wb, .ref w6, .ref w7, .ref w8, .int rc, .ref w9, .ref w10, .ref w11, .ref w12, .ref w13, .ref w14, .int (nI pp), .int (nI tt), .int (nI (flN 0 2))])), (w1, .inl (cI, 100, .inl sg)), (w2, .inl (cI, 244, .inl gl)), (w3, .inl (cI, 1600, .inl fi))]) [3, 0, 1, 2] (by decide) rfl
          exact W.iret (v := nI (pp % 40)) hx hb hr (fun t9 ht hW => ⟨⟨_, (nI pp, nI tt, nI 0), rfl, (Or.inr ⟨c_2, o, u_r_2, hfd, hep.symm, het.symm, by rw [nn_nI hk9, hfr]; unfold mfR; rw [if_neg (show ¬ u_r_2.1 ≤ k9 by omega), if_neg c_37, hep, het, nn_nI (show pp < 2 ^ 31 by omega), if_pos c_55]⟩), ⟨by rw [ht]; exact hP9, hD9⟩⟩, hS.F ht⟩) hS.2.2 d_MD_front_87
      · skip
        refine lv_iconst (v := nI 1) hx hb d_MD_front_40 (by decide +kernel) ?_
        refine lv_goto (tgt := 45) hx hb d_MD_front_41 (by decide) ?_
        refine lv_iconst (v := nI 2) hx hb d_MD_front_45 (by decide +kernel) ?_
        refine cl_i (wr := [(w1, .inl (cI, 100, .inl sg)), (w2, .inl (cI, 244, .inl gl)), (w3, .inl (cI, 1600, .inl fi))]) (va_runV (As := [.int (nI 1), .int (nI 2)]) (rest := []) ⟨hx, hb, hml, hown, hw⟩ (k_MD_fails l D cI cJ w0 w1 w2 w3 w4 w5 w6 w7 w8 w9 w10 w11 w12 w13 w14 (nI y) te nt wb rc u_r_2.2.1 u_r_2.2.2 (nI (flN 0 1)) 1 2 _ (by omega)) (cwV 2 hw (gV kw_836 kw_838 kw_20 kw_45 kw_839) rfl rfl rfl (by decide +kernel) ⟨Nat.le_of_ble_eq_true rfl, Nat.le_of_ble_eq_true rfl⟩) (pre_Vw (wc := [(w0, .inr (5, [.ref w1, .ref w2, .int (nI y), .int te, .ref w3, .ref w4, .ref w5, .int nt, .int wb, .ref w6, .ref w7, .ref w8, .int rc, .ref w9, .ref w10, .ref w11, .ref w12, .ref w13, .ref w14, .int u_r_2.2.1, .int u_r_2.2.2, .int (nI (flN 0 1))]))]) (q0 := 0) hE hX hA hP hD hS [3] (by decide) rfl rfl rfl rfl) rfl rfl hl.1 rfl (lv_room (Nat.le_of_ble_eq_true rfl)) d_MD_front_46 ⟨Nat.le_of_ble_eq_true rfl, Nat.le_of_ble_eq_true rfl⟩) hP hD hS hA [3] [0, 1, 2] rfl rfl (by decide) (by decide) (fun r_6 u_r_6 H locs hr_6 hP hD hS => ?_)
        obtain rfl : nI 1 = r_6 := hr_6.symm
        have hP : va_P D vwCl [(w1, .inl (cI, 100, .inl sg)), (w2, .inl (cI, 244, .inl gl)), (w3, .inl (cI, 1600, .inl fi)), (w0, .inr (5, [.ref w1, .ref w2, .int (nI y), .int te, .ref w3, .ref w4, .ref w5, .int nt, .int wb, .ref w6, .ref w7, .ref w8, .int rc, .ref w9, .ref w10, .ref w11, .ref w12, .ref w13, .ref w14, .int u_r_2.2.1, .int u_r_2.2.2, .int (nI (flN 1 2))]))] H := hP
        have hD : va_D A [(w1, .inl (cI, 100, .inl sg)), (w2, .inl (cI, 244, .inl gl)), (w3, .inl (cI, 1600, .inl fi)), (w0, .inr (5, [.ref w1, .ref w2, .int (nI y), .int te, .ref w3, .ref w4, .ref w5, .int nt, .int wb, .ref w6, .ref w7, .ref w8, .int rc, .ref w9, .ref w10, .ref w11, .ref w12, .ref w13, .ref w14, .int u_r_2.2.1, .int u_r_2.2.2, .int (nI (flN 1 2))]))] := hD
        refine jn_if_eq (tgt := 54) (a := 1) hx hb d_MD_front_49 (by decide) (by decide) (fun c9 => absurd c9 (by decide)) (fun _ => ?_)
        refine lv_iconst (v := nI 0) hx hb d_MD_front_52 (by decide +kernel) ?_
        have hP9 := hP.sub (ws' := [(w0, .inr (5, [.ref w1, .ref w2, .int (nI y), .int te, .ref w3, .ref w4, .ref w5, .int nt, .int wb, .ref w6, .ref w7, .ref w8, .int rc, .ref w9, .ref w10, .ref w11, .ref w12, .ref w13, .ref w14, .int u_r_2.2.1, .int u_r_2.2.2, .int (nI (flN 1 2))])), (w1, .inl (cI, 100, .inl sg)), (w2, .inl (cI, 244, .inl gl)), (w3, .inl (cI, 1600, .inl fi))]) [3, 0, 1, 2] rfl
        have hD9 := hD.sub (ws' := [(w0, .inr (5, [.ref w1, .ref w2, .int (nI y), .int te, .ref w3, .ref w4, .ref w5, .int nt, .int wb, .ref w6, .ref w7, .ref w8, .int rc, .ref w9, .ref w10, .ref w11, .ref w12, .ref w13, .ref w14, .int u_r_2.2.1, .int u_r_2.2.2, .int (nI (flN 1 2))])), (w1, .inl (cI, 100, .inl sg)), (w2, .inl (cI, 244, .inl gl)), (w3, .inl (cI, 1600, .inl fi))]) [3, 0, 1, 2] (by decide) rfl
        exact W.iret (v := nI 0) hx hb hr (fun t9 ht hW => ⟨⟨_, (u_r_2.2.1, u_r_2.2.2, nI 2), rfl, (Or.inr ⟨c_2, o, u_r_2, hfd, rfl, rfl, by rw [nn_nI hk9, hfr]; unfold mfR; rw [if_neg (show ¬ u_r_2.1 ≤ k9 by omega), if_pos c_37]⟩), ⟨by rw [ht]; exact hP9, hD9⟩⟩, hS.F ht⟩) hS.2.2 d_MD_front_53
    · skip
      refine lv_iconst (v := nI 1) hx hb d_MD_front_18 (by decide +kernel) ?_
      refine lv_goto (tgt := 23) hx hb d_MD_front_19 (by decide) ?_
      refine lv_iconst (v := nI 1) hx hb d_MD_front_23 (by decide +kernel) ?_
      refine cl_i (wr := [(w1, .inl (cI, 100, .inl sg)), (w2, .inl (cI, 244, .inl gl)), (w3, .inl (cI, 1600, .inl fi))]) (va_runV (As := [.int (nI 1), .int (nI 1)]) (rest := []) ⟨hx, hb, hml, hown, hw⟩ (k_MD_fails l D cI cJ w0 w1 w2 w3 w4 w5 w6 w7 w8 w9 w10 w11 w12 w13 w14 (nI y) te nt wb rc u_r_2.2.1 u_r_2.2.2 th 1 1 _ (by omega)) (cwV 2 hw (gV kw_836 kw_838 kw_20 kw_45 kw_839) rfl rfl rfl (by decide +kernel) ⟨Nat.le_of_ble_eq_true rfl, Nat.le_of_ble_eq_true rfl⟩) (pre_Vw (wc := [(w0, .inr (5, [.ref w1, .ref w2, .int (nI y), .int te, .ref w3, .ref w4, .ref w5, .int nt, .int wb, .ref w6, .ref w7, .ref w8, .int rc, .ref w9, .ref w10, .ref w11, .ref w12, .ref w13, .ref w14, .int u_r_2.2.1, .int u_r_2.2.2, .int th]))]) (q0 := 0) hE hX hA hP hD hS [0] (by decide) rfl rfl rfl rfl) rfl rfl hl.1 rfl (lv_room (Nat.le_of_ble_eq_true rfl)) d_MD_front_24 ⟨Nat.le_of_ble_eq_true rfl, Nat.le_of_ble_eq_true rfl⟩) hP hD hS hA [0] [1, 2, 3] rfl rfl (by decide) (by decide) (fun r_7 u_r_7 H locs hr_7 hP hD hS => ?_)
      obtain rfl : nI 1 = r_7 := hr_7.symm
      have hP : va_P D vwCl [(w1, .inl (cI, 100, .inl sg)), (w2, .inl (cI, 244, .inl gl)), (w3, .inl (cI, 1600, .inl fi)), (w0, .inr (5, [.ref w1, .ref w2, .int (nI y), .int te, .ref w3, .ref w4, .ref w5, .int nt, .int wb, .ref w6, .ref w7, .ref w8, .int rc, .ref w9, .ref w10, .ref w11, .ref w12, .ref w13, .ref w14, .int u_r_2.2.1, .int u_r_2.2.2, .int (nI (flN 1 1))]))] H := hP
      have hD : va_D A [(w1, .inl (cI, 100, .inl sg)), (w2, .inl (cI, 244, .inl gl)), (w3, .inl (cI, 1600, .inl fi)), (w0, .inr (5, [.ref w1, .ref w2, .int (nI y), .int te, .ref w3, .ref w4, .ref w5, .int nt, .int wb, .ref w6, .ref w7, .ref w8, .int rc, .ref w9, .ref w10, .ref w11, .ref w12, .ref w13, .ref w14, .int u_r_2.2.1, .int u_r_2.2.2, .int (nI (flN 1 1))]))] := hD
      refine jn_if_ne (tgt := 52) (a := 1) hx hb d_MD_front_27 (by decide) (by decide) (fun _ => ?_) (fun c9 => absurd c9 (by decide))
      refine lv_iconst (v := nI 0) hx hb d_MD_front_52 (by decide +kernel) ?_
      have hP9 := hP.sub (ws' := [(w0, .inr (5, [.ref w1, .ref w2, .int (nI y), .int te, .ref w3, .ref w4, .ref w5, .int nt, .int wb, .ref w6, .ref w7, .ref w8, .int rc, .ref w9, .ref w10, .ref w11, .ref w12, .ref w13, .ref w14, .int u_r_2.2.1, .int u_r_2.2.2, .int (nI (flN 1 1))])), (w1, .inl (cI, 100, .inl sg)), (w2, .inl (cI, 244, .inl gl)), (w3, .inl (cI, 1600, .inl fi))]) [3, 0, 1, 2] rfl
      have hD9 := hD.sub (ws' := [(w0, .inr (5, [.ref w1, .ref w2, .int (nI y), .int te, .ref w3, .ref w4, .ref w5, .int nt, .int wb, .ref w6, .ref w7, .ref w8, .int rc, .ref w9, .ref w10, .ref w11, .ref w12, .ref w13, .ref w14, .int u_r_2.2.1, .int u_r_2.2.2, .int (nI (flN 1 1))])), (w1, .inl (cI, 100, .inl sg)), (w2, .inl (cI, 244, .inl gl)), (w3, .inl (cI, 1600, .inl fi))]) [3, 0, 1, 2] (by decide) rfl
      exact W.iret (v := nI 0) hx hb hr (fun t9 ht hW => ⟨⟨_, (u_r_2.2.1, u_r_2.2.2, nI 1), rfl, (Or.inr ⟨c_2, o, u_r_2, hfd, rfl, rfl, by rw [nn_nI hk9, hfr]; unfold mfR; rw [if_pos (show u_r_2.1 ≤ k9 by omega)]⟩), ⟨by rw [ht]; exact hP9, hD9⟩⟩, hS.F ht⟩) hS.2.2 d_MD_front_53
