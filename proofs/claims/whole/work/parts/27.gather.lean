theorem d_SM_gather_0 : decode c_SM_gather 0 = .ok (.aload_n 0, 1) := by decide +kernel
theorem d_SM_gather_1 : decode c_SM_gather 1 = .ok (.iconst 0, 1) := by decide +kernel
theorem d_SM_gather_2 : decode c_SM_gather 2 = .ok (.putfield 30, 3) := by decide +kernel
theorem d_SM_gather_5 : decode c_SM_gather 5 = .ok (.aload_n 0, 1) := by decide +kernel
theorem d_SM_gather_6 : decode c_SM_gather 6 = .ok (.getfield 15, 3) := by decide +kernel
theorem d_SM_gather_9 : decode c_SM_gather 9 = .ok (.iconst 0, 1) := by decide +kernel
theorem d_SM_gather_10 : decode c_SM_gather 10 = .ok (.invokestatic 42, 3) := by decide +kernel
theorem d_SM_gather_13 : decode c_SM_gather 13 = .ok (.aload_n 0, 1) := by decide +kernel
theorem d_SM_gather_14 : decode c_SM_gather 14 = .ok (.getfield 27, 3) := by decide +kernel
theorem d_SM_gather_17 : decode c_SM_gather 17 = .ok (.iconst (-1), 1) := by decide +kernel
theorem d_SM_gather_18 : decode c_SM_gather 18 = .ok (.invokestatic 42, 3) := by decide +kernel
theorem d_SM_gather_21 : decode c_SM_gather 21 = .ok (.iconst 0, 1) := by decide +kernel
theorem d_SM_gather_22 : decode c_SM_gather 22 = .ok (.istore_n 2, 1) := by decide +kernel
theorem d_SM_gather_23 : decode c_SM_gather 23 = .ok (.iload_n 2, 1) := by decide +kernel
theorem d_SM_gather_24 : decode c_SM_gather 24 = .ok (.sipush 1764, 3) := by decide +kernel
theorem d_SM_gather_27 : decode c_SM_gather 27 = .ok (.if_icmp .ge 95, 3) := by decide +kernel
theorem d_SM_gather_30 : decode c_SM_gather 30 = .ok (.aload_n 0, 1) := by decide +kernel
theorem d_SM_gather_31 : decode c_SM_gather 31 = .ok (.getfield 30, 3) := by decide +kernel
theorem d_SM_gather_34 : decode c_SM_gather 34 = .ok (.bipush 120, 2) := by decide +kernel
theorem d_SM_gather_36 : decode c_SM_gather 36 = .ok (.if_icmp .ge 86, 3) := by decide +kernel
theorem d_SM_gather_39 : decode c_SM_gather 39 = .ok (.aload_n 1, 1) := by decide +kernel
theorem d_SM_gather_40 : decode c_SM_gather 40 = .ok (.iload_n 2, 1) := by decide +kernel
theorem d_SM_gather_41 : decode c_SM_gather 41 = .ok (.invokevirtual 48, 3) := by decide +kernel
theorem d_SM_gather_44 : decode c_SM_gather 44 = .ok (.istore_n 3, 1) := by decide +kernel
theorem d_SM_gather_45 : decode c_SM_gather 45 = .ok (.iload_n 3, 1) := by decide +kernel
theorem d_SM_gather_46 : decode c_SM_gather 46 = .ok (.ifCond .ne 6, 3) := by decide +kernel
theorem d_SM_gather_49 : decode c_SM_gather 49 = .ok (.goto 67, 3) := by decide +kernel
theorem d_SM_gather_52 : decode c_SM_gather 52 = .ok (.iload_n 2, 1) := by decide +kernel
theorem d_SM_gather_53 : decode c_SM_gather 53 = .ok (.invokestatic 54, 3) := by decide +kernel
theorem d_SM_gather_56 : decode c_SM_gather 56 = .ok (.istore 4, 2) := by decide +kernel
theorem d_SM_gather_58 : decode c_SM_gather 58 = .ok (.aload_n 0, 1) := by decide +kernel
theorem d_SM_gather_59 : decode c_SM_gather 59 = .ok (.aload_n 0, 1) := by decide +kernel
theorem d_SM_gather_60 : decode c_SM_gather 60 = .ok (.getfield 27, 3) := by decide +kernel
theorem d_SM_gather_63 : decode c_SM_gather 63 = .ok (.iload 4, 2) := by decide +kernel
theorem d_SM_gather_65 : decode c_SM_gather 65 = .ok (.iaload, 1) := by decide +kernel
theorem d_SM_gather_66 : decode c_SM_gather 66 = .ok (.iconst 2, 1) := by decide +kernel
theorem d_SM_gather_67 : decode c_SM_gather 67 = .ok (.aload_n 1, 1) := by decide +kernel
theorem d_SM_gather_68 : decode c_SM_gather 68 = .ok (.iload_n 2, 1) := by decide +kernel
theorem d_SM_gather_69 : decode c_SM_gather 69 = .ok (.iload_n 3, 1) := by decide +kernel
theorem d_SM_gather_70 : decode c_SM_gather 70 = .ok (.iconst 2, 1) := by decide +kernel
theorem d_SM_gather_71 : decode c_SM_gather 71 = .ok (.invokevirtual 57, 3) := by decide +kernel
theorem d_SM_gather_74 : decode c_SM_gather 74 = .ok (.invokevirtual 61, 3) := by decide +kernel
theorem d_SM_gather_77 : decode c_SM_gather 77 = .ok (.aload_n 0, 1) := by decide +kernel
theorem d_SM_gather_78 : decode c_SM_gather 78 = .ok (.aload_n 0, 1) := by decide +kernel
theorem d_SM_gather_79 : decode c_SM_gather 79 = .ok (.getfield 30, 3) := by decide +kernel
theorem d_SM_gather_82 : decode c_SM_gather 82 = .ok (.iconst 1, 1) := by decide +kernel
theorem d_SM_gather_83 : decode c_SM_gather 83 = .ok (.isub, 1) := by decide +kernel
theorem d_SM_gather_84 : decode c_SM_gather 84 = .ok (.iconst 3, 1) := by decide +kernel
theorem d_SM_gather_85 : decode c_SM_gather 85 = .ok (.aload_n 1, 1) := by decide +kernel
theorem d_SM_gather_86 : decode c_SM_gather 86 = .ok (.iload_n 2, 1) := by decide +kernel
theorem d_SM_gather_87 : decode c_SM_gather 87 = .ok (.iload_n 3, 1) := by decide +kernel
theorem d_SM_gather_88 : decode c_SM_gather 88 = .ok (.iconst 3, 1) := by decide +kernel
theorem d_SM_gather_89 : decode c_SM_gather 89 = .ok (.invokevirtual 57, 3) := by decide +kernel
theorem d_SM_gather_92 : decode c_SM_gather 92 = .ok (.invokevirtual 61, 3) := by decide +kernel
theorem d_SM_gather_95 : decode c_SM_gather 95 = .ok (.aload_n 0, 1) := by decide +kernel
theorem d_SM_gather_96 : decode c_SM_gather 96 = .ok (.getfield 27, 3) := by decide +kernel
theorem d_SM_gather_99 : decode c_SM_gather 99 = .ok (.iload 4, 2) := by decide +kernel
theorem d_SM_gather_101 : decode c_SM_gather 101 = .ok (.aload_n 0, 1) := by decide +kernel
theorem d_SM_gather_102 : decode c_SM_gather 102 = .ok (.getfield 30, 3) := by decide +kernel
theorem d_SM_gather_105 : decode c_SM_gather 105 = .ok (.iastore, 1) := by decide +kernel
theorem d_SM_gather_106 : decode c_SM_gather 106 = .ok (.aload_n 0, 1) := by decide +kernel
theorem d_SM_gather_107 : decode c_SM_gather 107 = .ok (.dup, 1) := by decide +kernel
theorem d_SM_gather_108 : decode c_SM_gather 108 = .ok (.getfield 30, 3) := by decide +kernel
theorem d_SM_gather_111 : decode c_SM_gather 111 = .ok (.iconst 1, 1) := by decide +kernel
theorem d_SM_gather_112 : decode c_SM_gather 112 = .ok (.iadd, 1) := by decide +kernel
theorem d_SM_gather_113 : decode c_SM_gather 113 = .ok (.putfield 30, 3) := by decide +kernel
theorem d_SM_gather_116 : decode c_SM_gather 116 = .ok (.iinc 2 1, 3) := by decide +kernel
theorem d_SM_gather_119 : decode c_SM_gather 119 = .ok (.goto (-96), 3) := by decide +kernel
theorem d_SM_gather_122 : decode c_SM_gather 122 = .ok (.return_, 1) := by decide +kernel
theorem d_SM_tie_0 : decode c_SM_tie 0 = .ok (.iload_n 3, 1) := by decide +kernel
theorem d_SM_tie_1 : decode c_SM_tie 1 = .ok (.ifCond .eq 7, 3) := by decide +kernel
theorem d_SM_tie_4 : decode c_SM_tie 4 = .ok (.iload_n 1, 1) := by decide +kernel
theorem d_SM_tie_5 : decode c_SM_tie 5 = .ok (.ifCond .ge 4, 3) := by decide +kernel
theorem d_SM_tie_8 : decode c_SM_tie 8 = .ok (.return_, 1) := by decide +kernel
theorem d_SM_tie_9 : decode c_SM_tie 9 = .ok (.aload_n 0, 1) := by decide +kernel
theorem d_SM_tie_10 : decode c_SM_tie 10 = .ok (.getfield 9, 3) := by decide +kernel
theorem d_SM_tie_13 : decode c_SM_tie 13 = .ok (.aload_n 0, 1) := by decide +kernel
theorem d_SM_tie_14 : decode c_SM_tie 14 = .ok (.getfield 30, 3) := by decide +kernel
theorem d_SM_tie_17 : decode c_SM_tie 17 = .ok (.iconst 4, 1) := by decide +kernel
theorem d_SM_tie_18 : decode c_SM_tie 18 = .ok (.imul, 1) := by decide +kernel
theorem d_SM_tie_19 : decode c_SM_tie 19 = .ok (.iload_n 2, 1) := by decide +kernel
theorem d_SM_tie_20 : decode c_SM_tie 20 = .ok (.iadd, 1) := by decide +kernel
theorem d_SM_tie_21 : decode c_SM_tie 21 = .ok (.iload_n 1, 1) := by decide +kernel
theorem d_SM_tie_22 : decode c_SM_tie 22 = .ok (.iastore, 1) := by decide +kernel
theorem d_SM_tie_23 : decode c_SM_tie 23 = .ok (.aload_n 0, 1) := by decide +kernel
theorem d_SM_tie_24 : decode c_SM_tie 24 = .ok (.getfield 15, 3) := by decide +kernel
theorem d_SM_tie_27 : decode c_SM_tie 27 = .ok (.aload_n 0, 1) := by decide +kernel
theorem d_SM_tie_28 : decode c_SM_tie 28 = .ok (.getfield 30, 3) := by decide +kernel
theorem d_SM_tie_31 : decode c_SM_tie 31 = .ok (.iconst 4, 1) := by decide +kernel
theorem d_SM_tie_32 : decode c_SM_tie 32 = .ok (.imul, 1) := by decide +kernel
theorem d_SM_tie_33 : decode c_SM_tie 33 = .ok (.iload_n 2, 1) := by decide +kernel
theorem d_SM_tie_34 : decode c_SM_tie 34 = .ok (.iadd, 1) := by decide +kernel
theorem d_SM_tie_35 : decode c_SM_tie 35 = .ok (.iload_n 3, 1) := by decide +kernel
theorem d_SM_tie_36 : decode c_SM_tie 36 = .ok (.iastore, 1) := by decide +kernel
theorem d_SM_tie_37 : decode c_SM_tie 37 = .ok (.aload_n 0, 1) := by decide +kernel
theorem d_SM_tie_38 : decode c_SM_tie 38 = .ok (.getfield 9, 3) := by decide +kernel
theorem d_SM_tie_41 : decode c_SM_tie 41 = .ok (.iload_n 1, 1) := by decide +kernel
theorem d_SM_tie_42 : decode c_SM_tie 42 = .ok (.iconst 4, 1) := by decide +kernel
theorem d_SM_tie_43 : decode c_SM_tie 43 = .ok (.imul, 1) := by decide +kernel
theorem d_SM_tie_44 : decode c_SM_tie 44 = .ok (.iload_n 2, 1) := by decide +kernel
theorem d_SM_tie_45 : decode c_SM_tie 45 = .ok (.invokestatic 65, 3) := by decide +kernel
theorem d_SM_tie_48 : decode c_SM_tie 48 = .ok (.iadd, 1) := by decide +kernel
theorem d_SM_tie_49 : decode c_SM_tie 49 = .ok (.aload_n 0, 1) := by decide +kernel
theorem d_SM_tie_50 : decode c_SM_tie 50 = .ok (.getfield 30, 3) := by decide +kernel
theorem d_SM_tie_53 : decode c_SM_tie 53 = .ok (.iastore, 1) := by decide +kernel
theorem d_SM_tie_54 : decode c_SM_tie 54 = .ok (.aload_n 0, 1) := by decide +kernel
theorem d_SM_tie_55 : decode c_SM_tie 55 = .ok (.getfield 15, 3) := by decide +kernel
theorem d_SM_tie_58 : decode c_SM_tie 58 = .ok (.iload_n 1, 1) := by decide +kernel
theorem d_SM_tie_59 : decode c_SM_tie 59 = .ok (.iconst 4, 1) := by decide +kernel
theorem d_SM_tie_60 : decode c_SM_tie 60 = .ok (.imul, 1) := by decide +kernel
theorem d_SM_tie_61 : decode c_SM_tie 61 = .ok (.iload_n 2, 1) := by decide +kernel
theorem d_SM_tie_62 : decode c_SM_tie 62 = .ok (.invokestatic 65, 3) := by decide +kernel
theorem d_SM_tie_65 : decode c_SM_tie 65 = .ok (.iadd, 1) := by decide +kernel
theorem d_SM_tie_66 : decode c_SM_tie 66 = .ok (.iload_n 3, 1) := by decide +kernel
theorem d_SM_tie_67 : decode c_SM_tie 67 = .ok (.iastore, 1) := by decide +kernel
theorem d_SM_tie_68 : decode c_SM_tie 68 = .ok (.return_, 1) := by decide +kernel
def tieL (n : Nat) (a : Int32) (k : Nat) (w : Int32) (lk : Nat → Int32) : Nat → Int32 := if w = 0 ∨ ¬ 0 ≤ a then lk else upd (upd lk (n * 4 + k) a) (nn a * 4 + opp k) (nI n)
def tieW (n : Nat) (a : Int32) (k : Nat) (w : Int32) (we : Nat → Int32) : Nat → Int32 := if w = 0 ∨ ¬ 0 ≤ a then we else upd (upd we (n * 4 + k) w) (nn a * 4 + opp k) w
/-- a tile before number n, or none -/
def okE (a : Int32) (n : Nat) : Prop := ¬ 0 ≤ a ∨ (a = nI (nn a) ∧ nn a < n)
theorem okE_m1 {n : Nat} (hn : n < 2 ^ 30) : okE (nI n - nI 1) n := by
  rcases Nat.eq_zero_or_pos n with rfl | h
  · exact Or.inl (by decide +kernel)
  · rw [pk_sub h]
    refine Or.inr ?_
    rw [nn_nI (by omega)]
    exact ⟨rfl, by omega⟩
def okN (ne : Nat → Int32) (n : Nat) : Prop := ∀ x, x < 40 → okE (ne x) n
theorem okN_upd {ne : Nat → Int32} {n : Nat} (h : okN ne n) (hn : n < 2 ^ 30) (j : Nat) : okN (upd ne j (nI n)) (n + 1) := by
  intro x hx
  unfold upd
  by_cases e : x = j
  · rw [if_pos e]
    refine Or.inr ?_
    rw [nn_nI (by omega)]
    exact ⟨rfl, by omega⟩
  · rw [if_neg e]
    rcases h x hx with h | ⟨h1, h2⟩
    · exact Or.inl h
    · exact Or.inr ⟨h1, by omega⟩
abbrev GS : Type := (Nat → Int32) × (Nat → Int32) × (Nat → Int32) × Nat
def gaT (ce sd st : Nat → Int32) (i : Nat) (g : GS) : GS :=
  (tieL g.2.2.2 (nI g.2.2.2 - nI 1) 3 (hoV ce sd st i (tyN (ce i)) 3) (tieL g.2.2.2 (g.2.2.1 (i % 42 - 1)) 2 (hoV ce sd st i (tyN (ce i)) 2) g.1),
   tieW g.2.2.2 (nI g.2.2.2 - nI 1) 3 (hoV ce sd st i (tyN (ce i)) 3) (tieW g.2.2.2 (g.2.2.1 (i % 42 - 1)) 2 (hoV ce sd st i (tyN (ce i)) 2) g.2.1),
   upd g.2.2.1 (i % 42 - 1) (nI g.2.2.2), g.2.2.2 + 1)
def gaL (ce sd st : Nat → Int32) (g : GS) : Nat → GS
  | 0 => g
  | i + 1 => if (gaL ce sd st g i).2.2.2 < 120 then (if tyN (ce i) = 0 then gaL ce sd st g i else gaT ce sd st i (gaL ce sd st g i)) else gaL ce sd st g i
theorem gaL_stay {ce sd st : Nat → Int32} {g : GS} {i : Nat} (h : ¬ (gaL ce sd st g i).2.2.2 < 120) : ∀ k, gaL ce sd st g (i + k) = gaL ce sd st g i
  | 0 => rfl
  | k + 1 => by
    have e := gaL_stay h k
    rw [← Nat.add_assoc, gaL, e, if_neg h]
/-- tiles stand within the walls -/
def okW (ce : Nat → Int32) : Prop := ∀ i, i < 1764 → tyN (ce i) ≠ 0 → 1 ≤ i % 42 ∧ i % 42 ≤ 40
set_option maxHeartbeats 4000000 in
set_option maxRecDepth 100000 in
/-- tie -/
theorem k_SM_tie (l : Launch) (D : va_G) (cI cJ : ClassId) (e0 : Nat) (e1 : Nat) (e2 : Nat) (e3 : Nat) (e4 : Nat) (e5 : Nat) (e6 : Nat) (n : Nat) (lk : Nat → Int32) (we : Nat → Int32) (x : Int32) (k : Nat) (y : Int32) (sz : Nat) (hn : n < 120) (hk : k < 4) (hE9 : okE x n) : Met l y_SM_tie ws_SM_tie ({ frames := 1, cells := 0, slots := 0, locals := 20 } : Room) (va_Pc [.ref e0, .int x, .int (nI k), .int y] (Pw D cI cJ [(e0, .inr (4, [.ref e1, .ref e2, .ref e3, .ref e4, .ref e5, .ref e6, .int (nI n)])), (e1, .inl (cI, 480, .inl lk)), (e2, .inl (cI, 480, .inl we))] sz)) (va_Qv (fun (_u : Unit) => True) (fun _u t9 => Bw D (va_A [(e0, .inr (4, [.ref e1, .ref e2, .ref e3, .ref e4, .ref e5, .ref e6, .int (nI n)])), (e1, .inl (cI, 480, .inl lk)), (e2, .inl (cI, 480, .inl we))] sz) [(e0, .inr (4, [.ref e1, .ref e2, .ref e3, .ref e4, .ref e5, .ref e6, .int (nI n)])), (e1, .inl (cI, 480, .inl (tieL n x k y lk))), (e2, .inl (cI, 480, .inl (tieW n x k y we)))] t9) (va_A [(e0, .inr (4, [.ref e1, .ref e2, .ref e3, .ref e4, .ref e5, .ref e6, .int (nI n)])), (e1, .inl (cI, 480, .inl lk)), (e2, .inl (cI, 480, .inl we))] sz)) 0 0 (va_A [(e0, .inr (4, [.ref e1, .ref e2, .ref e3, .ref e4, .ref e5, .ref e6, .int (nI n)])), (e1, .inl (cI, 480, .inl lk)), (e2, .inl (cI, 480, .inl we))] sz) := by
  refine Met.ofW (cc := c_SM_tie) (maxL := 4) (ret := none) (by decide) rfl ?_
  intro p e s m args below meth c s₁ B hml hv
  obtain ⟨rfl, hsz, hE, hP, hD0, hX⟩ := hv
  have hx := B.exec
  have hb := B.bytes
  have hr := B.returns
  have hw : ∀ w ∈ gw, w.before _ s = true := fun w h => atoms_spec (ws := ws_SM_tie) B.pre w (List.mem_cons_of_mem _ h)
  have hown : s.vm.findClass R_SM = some m.cls := findClass_of_methodNamed B.named
  have hlocks := B.notSynchronized
  subst hsz
  have hD := hD0.self (sz := s.heap.size)
  generalize hAe : va_A [(e0, .inr (4, [.ref e1, .ref e2, .ref e3, .ref e4, .ref e5, .ref e6, .int (nI n)])), (e1, .inl (cI, 480, .inl lk)), (e2, .inl (cI, 480, .inl we))] s.heap.size = A at hD hX ⊢
  have hA : ∀ q : Nat, s.heap.size ≤ q → A q := fun q h => by rw [← hAe]; exact Or.inr h
  have hS : va_S A s.heap s.heap [] := va_S.rf
  have hP : va_P D vwCl [(e0, .inr (4, [.ref e1, .ref e2, .ref e3, .ref e4, .ref e5, .ref e6, .int (nI n)])), (e1, .inl (cI, 480, .inl lk)), (e2, .inl (cI, 480, .inl we))] s.heap := hP
  have hl := lv_entry ([.ref e0, .int x, .int (nI k), .int y]) (n := 4) (Nat.le_of_ble_eq_true rfl)
  rw [lg_entry_eq]
  generalize (lg_sl ([.ref e0, .int x, .int (nI k), .int y]) ++ List.replicate (4 - (lg_sl ([.ref e0, .int x, .int (nI k), .int y])).length) Slot.unset).toArray = ls at hl ⊢
  have hl : lv_has ls 4 [(0, .ref e0), (1, .int x), (2, .int (nI k)), (3, .int y)] := hl
  refine lv_iload_n hx hb d_SM_tie_0 rfl (lv_at hl 3 rfl) ?_
  refine lv_if_eq (tgt := 8) hx hb d_SM_tie_1 (by decide) (fun c_1 => ?_) (fun c_1 => ?_)
  · skip
    have hP9 := hP.sub (ws' := [(e0, .inr (4, [.ref e1, .ref e2, .ref e3, .ref e4, .ref e5, .ref e6, .int (nI n)])), (e1, .inl (cI, 480, .inl lk)), (e2, .inl (cI, 480, .inl we))]) [0, 1, 2] rfl
    have hD9 := hD.sub (ws' := [(e0, .inr (4, [.ref e1, .ref e2, .ref e3, .ref e4, .ref e5, .ref e6, .int (nI n)])), (e1, .inl (cI, 480, .inl lk)), (e2, .inl (cI, 480, .inl we))]) [0, 1, 2] (by decide) rfl
    have hP9 : va_P D vwCl [(e0, .inr (4, [.ref e1, .ref e2, .ref e3, .ref e4, .ref e5, .ref e6, .int (nI n)])), (e1, .inl (cI, 480, .inl (tieL n x k y lk))), (e2, .inl (cI, 480, .inl (tieW n x k y we)))] s.heap := by rw [show tieL n x k y lk = _ from if_pos (Or.inl c_1), show tieW n x k y we = _ from if_pos (Or.inl c_1)]; exact hP9
    have hD9 : va_D A [(e0, .inr (4, [.ref e1, .ref e2, .ref e3, .ref e4, .ref e5, .ref e6, .int (nI n)])), (e1, .inl (cI, 480, .inl (tieL n x k y lk))), (e2, .inl (cI, 480, .inl (tieW n x k y we)))] := by rw [show tieL n x k y lk = _ from if_pos (Or.inl c_1), show tieW n x k y we = _ from if_pos (Or.inl c_1)]; exact hD9
    exact W.vret hx hb hr (fun t9 ht hW => ⟨⟨(), rfl, trivial, ⟨by rw [ht]; exact hP9, hD9⟩⟩, hS.F ht⟩) hS.2.2 d_SM_tie_8
  · skip
    refine lv_iload_n hx hb d_SM_tie_4 rfl (lv_at hl 1 rfl) ?_
    refine lv_if_ge (tgt := 9) hx hb d_SM_tie_5 (by decide) (fun c_5 => ?_) (fun c_5 => ?_)
    · skip
      have hE8 := hE9.resolve_left (fun q => q c_5)
      have hop := opp_lt k
      have hE7 := hE8.2
      refine lv_aload_n hx hb d_SM_tie_9 rfl (lv_at hl 0 rfl) ?_
      refine va_get (D := D) (ci := 4) (v := .ref e1) (C := R_SM) (T := T_SM) (N := 7) hx hb hw in_SM hown hE.1 hP 0 rfl rfl 0 (by decide) (hw _ kw_160) (fun _ h9 => h9) rfl d_SM_tie_10 ?_
      refine lv_aload_n hx hb d_SM_tie_13 rfl (lv_at hl 0 rfl) ?_
      refine va_get (D := D) (ci := 4) (v := .int (nI n)) (C := R_SM) (T := T_SM) (N := 7) hx hb hw in_SM hown hE.1 hP 0 rfl rfl 6 (by decide) (hw _ kw_166) (fun _ h9 => h9) rfl d_SM_tie_14 ?_
      refine lv_iconst (v := nI 4) hx hb d_SM_tie_17 (by decide +kernel) ?_
      refine jn_imul (a := n) (b := 4) hx hb d_SM_tie_18 ?_
      refine lv_iload_n hx hb d_SM_tie_19 rfl (lv_at hl 2 rfl) ?_
      refine jn_iadd (a := (n * 4)) (b := k) hx hb d_SM_tie_20 ?_
      refine lv_iload_n hx hb d_SM_tie_21 rfl (lv_at hl 1 rfl) ?_
      refine jn_iast (k := ((n * 4) + k)) hx hb hE.1 hP hD hS 1 0 rfl rfl (by omega) (by omega) d_SM_tie_22 (fun H locs hP hD hS => ?_)
      have hP : va_P D vwCl [(e0, .inr (4, [.ref e1, .ref e2, .ref e3, .ref e4, .ref e5, .ref e6, .int (nI n)])), (e1, .inl (cI, 480, .inl (upd lk ((n * 4) + k) x))), (e2, .inl (cI, 480, .inl we))] H := hP
      have hD : va_D A [(e0, .inr (4, [.ref e1, .ref e2, .ref e3, .ref e4, .ref e5, .ref e6, .int (nI n)])), (e1, .inl (cI, 480, .inl (upd lk ((n * 4) + k) x))), (e2, .inl (cI, 480, .inl we))] := hD
      refine lv_aload_n hx hb d_SM_tie_23 rfl (lv_at hl 0 rfl) ?_
      refine va_get (D := D) (ci := 4) (v := .ref e2) (C := R_SM) (T := T_SM) (N := 7) hx hb hw in_SM hown hE.1 hP 0 rfl rfl 1 (by decide) (hw _ kw_161) (fun _ h9 => h9) rfl d_SM_tie_24 ?_
      refine lv_aload_n hx hb d_SM_tie_27 rfl (lv_at hl 0 rfl) ?_
      refine va_get (D := D) (ci := 4) (v := .int (nI n)) (C := R_SM) (T := T_SM) (N := 7) hx hb hw in_SM hown hE.1 hP 0 rfl rfl 6 (by decide) (hw _ kw_166) (fun _ h9 => h9) rfl d_SM_tie_28 ?_
      refine lv_iconst (v := nI 4) hx hb d_SM_tie_31 (by decide +kernel) ?_
      refine jn_imul (a := n) (b := 4) hx hb d_SM_tie_32 ?_
      refine lv_iload_n hx hb d_SM_tie_33 rfl (lv_at hl 2 rfl) ?_
      refine jn_iadd (a := (n * 4)) (b := k) hx hb d_SM_tie_34 ?_
      refine lv_iload_n hx hb d_SM_tie_35 rfl (lv_at hl 3 rfl) ?_
      refine jn_iast (k := ((n * 4) + k)) hx hb hE.1 hP hD hS 2 0 rfl rfl (by omega) (by omega) d_SM_tie_36 (fun H locs hP hD hS => ?_)
      have hP : va_P D vwCl [(e0, .inr (4, [.ref e1, .ref e2, .ref e3, .ref e4, .ref e5, .ref e6, .int (nI n)])), (e1, .inl (cI, 480, .inl (upd lk ((n * 4) + k) x))), (e2, .inl (cI, 480, .inl (upd we ((n * 4) + k) y)))] H := hP
      have hD : va_D A [(e0, .inr (4, [.ref e1, .ref e2, .ref e3, .ref e4, .ref e5, .ref e6, .int (nI n)])), (e1, .inl (cI, 480, .inl (upd lk ((n * 4) + k) x))), (e2, .inl (cI, 480, .inl (upd we ((n * 4) + k) y)))] := hD
      refine lv_aload_n hx hb d_SM_tie_37 rfl (lv_at hl 0 rfl) ?_
      refine va_get (D := D) (ci := 4) (v := .ref e1) (C := R_SM) (T := T_SM) (N := 7) hx hb hw in_SM hown hE.1 hP 0 rfl rfl 0 (by decide) (hw _ kw_160) (fun _ h9 => h9) rfl d_SM_tie_38 ?_
      refine lv_iload_n hx hb d_SM_tie_41 rfl (lv_at hl 1 rfl) ?_
      refine W.eq (g2 := F0 m 42 ls [.int (nI (nn x)), .ref e1]) (by rw [← hE8.1]) ?_
      refine lv_iconst (v := nI 4) hx hb d_SM_tie_42 (by decide +kernel) ?_
      refine jn_imul (a := (nn x)) (b := 4) hx hb d_SM_tie_43 ?_
      refine lv_iload_n hx hb d_SM_tie_44 rfl (lv_at hl 2 rfl) ?_
      refine vp_callSi (va_Run.run (va_runSN (As := [.int (nI k)]) (rest := [.int (nI ((nn x) * 4)), .ref e1]) ⟨hx, hb, hml, hown, hw⟩ (k_TB_opposite l D cI cJ k hk) (⟨va_cnB 1 hw (gI kw_454) rfl rfl rfl (hE.2.1 _ (List.mem_of_getElem? (i := 16) rfl)) (hw _ kw_40) (by decide +kernel) ⟨Nat.le_of_ble_eq_true rfl, Nat.le_of_ble_eq_true rfl⟩, hw _ kw_453, trivial⟩) (pre_Sp (wc := []) hE hX hP hS [] rfl) rfl rfl hl.1 rfl (lv_room (Nat.le_of_ble_eq_true rfl)) d_SM_tie_45 ⟨Nat.le_of_ble_eq_true rfl, Nat.le_of_ble_eq_true rfl⟩)) (fun r_1 hr_1 => ?_)
      obtain rfl : nI (opp k) = r_1 := hr_1.symm
      refine jn_iadd (a := ((nn x) * 4)) (b := (opp k)) hx hb d_SM_tie_48 ?_
      refine lv_aload_n hx hb d_SM_tie_49 rfl (lv_at hl 0 rfl) ?_
      refine va_get (D := D) (ci := 4) (v := .int (nI n)) (C := R_SM) (T := T_SM) (N := 7) hx hb hw in_SM hown hE.1 hP 0 rfl rfl 6 (by decide) (hw _ kw_166) (fun _ h9 => h9) rfl d_SM_tie_50 ?_
      refine jn_iast (k := (((nn x) * 4) + (opp k))) hx hb hE.1 hP hD hS 1 0 rfl rfl (by omega) (by omega) d_SM_tie_53 (fun H locs hP hD hS => ?_)
      have hP : va_P D vwCl [(e0, .inr (4, [.ref e1, .ref e2, .ref e3, .ref e4, .ref e5, .ref e6, .int (nI n)])), (e1, .inl (cI, 480, .inl (upd (upd lk ((n * 4) + k) x) (((nn x) * 4) + (opp k)) (nI n)))), (e2, .inl (cI, 480, .inl (upd we ((n * 4) + k) y)))] H := hP
      have hD : va_D A [(e0, .inr (4, [.ref e1, .ref e2, .ref e3, .ref e4, .ref e5, .ref e6, .int (nI n)])), (e1, .inl (cI, 480, .inl (upd (upd lk ((n * 4) + k) x) (((nn x) * 4) + (opp k)) (nI n)))), (e2, .inl (cI, 480, .inl (upd we ((n * 4) + k) y)))] := hD
      refine lv_aload_n hx hb d_SM_tie_54 rfl (lv_at hl 0 rfl) ?_
      refine va_get (D := D) (ci := 4) (v := .ref e2) (C := R_SM) (T := T_SM) (N := 7) hx hb hw in_SM hown hE.1 hP 0 rfl rfl 1 (by decide) (hw _ kw_161) (fun _ h9 => h9) rfl d_SM_tie_55 ?_
      refine lv_iload_n hx hb d_SM_tie_58 rfl (lv_at hl 1 rfl) ?_
      refine W.eq (g2 := F0 m 59 ls [.int (nI (nn x)), .ref e2]) (by rw [← hE8.1]) ?_
      refine lv_iconst (v := nI 4) hx hb d_SM_tie_59 (by decide +kernel) ?_
      refine jn_imul (a := (nn x)) (b := 4) hx hb d_SM_tie_60 ?_
      refine lv_iload_n hx hb d_SM_tie_61 rfl (lv_at hl 2 rfl) ?_
      refine vp_callSi (va_Run.run (va_runSN (As := [.int (nI k)]) (rest := [.int (nI ((nn x) * 4)), .ref e2]) ⟨hx, hb, hml, hown, hw⟩ (k_TB_opposite l D cI cJ k hk) (⟨va_cnB 1 hw (gI kw_454) rfl rfl rfl (hE.2.1 _ (List.mem_of_getElem? (i := 16) rfl)) (hw _ kw_40) (by decide +kernel) ⟨Nat.le_of_ble_eq_true rfl, Nat.le_of_ble_eq_true rfl⟩, hw _ kw_453, trivial⟩) (pre_Sp (wc := []) hE hX hP hS [] rfl) rfl rfl hl.1 rfl (lv_room (Nat.le_of_ble_eq_true rfl)) d_SM_tie_62 ⟨Nat.le_of_ble_eq_true rfl, Nat.le_of_ble_eq_true rfl⟩)) (fun r_2 hr_2 => ?_)
      obtain rfl : nI (opp k) = r_2 := hr_2.symm
      refine jn_iadd (a := ((nn x) * 4)) (b := (opp k)) hx hb d_SM_tie_65 ?_
      refine lv_iload_n hx hb d_SM_tie_66 rfl (lv_at hl 3 rfl) ?_
      refine jn_iast (k := (((nn x) * 4) + (opp k))) hx hb hE.1 hP hD hS 2 0 rfl rfl (by omega) (by omega) d_SM_tie_67 (fun H locs hP hD hS => ?_)
      have hP : va_P D vwCl [(e0, .inr (4, [.ref e1, .ref e2, .ref e3, .ref e4, .ref e5, .ref e6, .int (nI n)])), (e1, .inl (cI, 480, .inl (upd (upd lk ((n * 4) + k) x) (((nn x) * 4) + (opp k)) (nI n)))), (e2, .inl (cI, 480, .inl (upd (upd we ((n * 4) + k) y) (((nn x) * 4) + (opp k)) y)))] H := hP
      have hD : va_D A [(e0, .inr (4, [.ref e1, .ref e2, .ref e3, .ref e4, .ref e5, .ref e6, .int (nI n)])), (e1, .inl (cI, 480, .inl (upd (upd lk ((n * 4) + k) x) (((nn x) * 4) + (opp k)) (nI n)))), (e2, .inl (cI, 480, .inl (upd (upd we ((n * 4) + k) y) (((nn x) * 4) + (opp k)) y)))] := hD
      have hP9 := hP.sub (ws' := [(e0, .inr (4, [.ref e1, .ref e2, .ref e3, .ref e4, .ref e5, .ref e6, .int (nI n)])), (e1, .inl (cI, 480, .inl (upd (upd lk ((n * 4) + k) x) (((nn x) * 4) + (opp k)) (nI n)))), (e2, .inl (cI, 480, .inl (upd (upd we ((n * 4) + k) y) (((nn x) * 4) + (opp k)) y)))]) [0, 1, 2] rfl
      have hD9 := hD.sub (ws' := [(e0, .inr (4, [.ref e1, .ref e2, .ref e3, .ref e4, .ref e5, .ref e6, .int (nI n)])), (e1, .inl (cI, 480, .inl (upd (upd lk ((n * 4) + k) x) (((nn x) * 4) + (opp k)) (nI n)))), (e2, .inl (cI, 480, .inl (upd (upd we ((n * 4) + k) y) (((nn x) * 4) + (opp k)) y)))]) [0, 1, 2] (by decide) rfl
      have hP9 : va_P D vwCl [(e0, .inr (4, [.ref e1, .ref e2, .ref e3, .ref e4, .ref e5, .ref e6, .int (nI n)])), (e1, .inl (cI, 480, .inl (tieL n x k y lk))), (e2, .inl (cI, 480, .inl (tieW n x k y we)))] H := by rw [show tieL n x k y lk = _ from if_neg (fun z => z.elim c_1 (fun q => q c_5)), show tieW n x k y we = _ from if_neg (fun z => z.elim c_1 (fun q => q c_5))]; exact hP9
      have hD9 : va_D A [(e0, .inr (4, [.ref e1, .ref e2, .ref e3, .ref e4, .ref e5, .ref e6, .int (nI n)])), (e1, .inl (cI, 480, .inl (tieL n x k y lk))), (e2, .inl (cI, 480, .inl (tieW n x k y we)))] := by rw [show tieL n x k y lk = _ from if_neg (fun z => z.elim c_1 (fun q => q c_5)), show tieW n x k y we = _ from if_neg (fun z => z.elim c_1 (fun q => q c_5))]; exact hD9
      exact W.vret hx hb hr (fun t9 ht hW => ⟨⟨(), rfl, trivial, ⟨by rw [ht]; exact hP9, hD9⟩⟩, hS.F ht⟩) hS.2.2 d_SM_tie_68
    · skip
      have hP9 := hP.sub (ws' := [(e0, .inr (4, [.ref e1, .ref e2, .ref e3, .ref e4, .ref e5, .ref e6, .int (nI n)])), (e1, .inl (cI, 480, .inl lk)), (e2, .inl (cI, 480, .inl we))]) [0, 1, 2] rfl
      have hD9 := hD.sub (ws' := [(e0, .inr (4, [.ref e1, .ref e2, .ref e3, .ref e4, .ref e5, .ref e6, .int (nI n)])), (e1, .inl (cI, 480, .inl lk)), (e2, .inl (cI, 480, .inl we))]) [0, 1, 2] (by decide) rfl
      have hP9 : va_P D vwCl [(e0, .inr (4, [.ref e1, .ref e2, .ref e3, .ref e4, .ref e5, .ref e6, .int (nI n)])), (e1, .inl (cI, 480, .inl (tieL n x k y lk))), (e2, .inl (cI, 480, .inl (tieW n x k y we)))] s.heap := by rw [show tieL n x k y lk = _ from if_pos (Or.inr c_5), show tieW n x k y we = _ from if_pos (Or.inr c_5)]; exact hP9
      have hD9 : va_D A [(e0, .inr (4, [.ref e1, .ref e2, .ref e3, .ref e4, .ref e5, .ref e6, .int (nI n)])), (e1, .inl (cI, 480, .inl (tieL n x k y lk))), (e2, .inl (cI, 480, .inl (tieW n x k y we)))] := by rw [show tieL n x k y lk = _ from if_pos (Or.inr c_5), show tieW n x k y we = _ from if_pos (Or.inr c_5)]; exact hD9
      exact W.vret hx hb hr (fun t9 ht hW => ⟨⟨(), rfl, trivial, ⟨by rw [ht]; exact hP9, hD9⟩⟩, hS.F ht⟩) hS.2.2 d_SM_tie_8
theorem okN_m1 (ne : Nat → Int32) : okN (flI ne (-1) 40) 0 := by
  intro x hx
  unfold flI
  rw [if_pos hx]
  exact Or.inl (by decide)
set_option maxHeartbeats 4000000 in
set_option maxRecDepth 100000 in
theorem lp_k_SM_gather_23 {p : Program} {l : Launch} {e : Env} {s : State} {m : MethodId} {args : Array Value} {below : List Frame} {meth : Method} {c : Code} {D : va_G} {cI cJ : ClassId} {Q : State → Prop} {A : Nat → Prop} (e0 : Nat) (e1 : Nat) (e2 : Nat) (e3 : Nat) (e4 : Nat) (e5 : Nat) (e6 : Nat) (f0 : Nat) (f1 : Nat) (f2 : Nat) (f3 : Nat) (f4 : Nat) (o1 : Nat) (np : Int32) (ns : Int32) (aw : Int32) (s1 : Nat) (s2 : Nat) (s3 : Nat) (ty : Int32) (wa : Int32) (st : Nat → Int32) (sd : Nat → Int32) (be : Nat → Int64) (ce : Nat → Int32) (lk : Nat → Int32) (we : Nat → Int32) (ne : Nat → Int32) (n7 : Int32) (hce : okCe ce) (hsd : okSd sd) (hst : okSt st) (hin : okIn ce) (hW9 : okW ce)  (hx : p.tables.exec = Jvm.exec) (hb : c.code = c_SM_gather) (hml : c.maxLocals = 5) (hown : s.vm.findClass R_SM = some m.cls) (hw : ∀ w ∈ gw, w.before args s = true) (hE : En D cI cJ s) (hX : Sx A s s.heap) (hA : ∀ q : Nat, s.heap.size ≤ q → A q)
    (kx0 : ∀ (g9 : GS), (g9 = gaL ce sd st (lk, flI we (nI 0) 480, flI ne (-1) 40, 0) 1764) → (g9.2.2.2 ≤ 120) → ∀ (H : Heap) (locs : List Loc) (ls : Array Slot), va_P D vwCl [(e0, .inr (4, [.ref e1, .ref e2, .ref e3, .ref e4, .ref e5, .ref e6, .int (nI g9.2.2.2)])), (e1, .inl (cI, 480, .inl g9.1)), (e2, .inl (cI, 480, .inl g9.2.1)), (e6, .inl (cI, 40, .inl g9.2.2.1)), (f0, .inr (2, [.ref o1, .ref f1, .ref f2, .ref f3, .ref f4, .int np, .int ns, .int aw])), (f1, .inl (cI, 1764, .inl ce)), (o1, .inr (1, [.ref s1, .ref s2, .ref s3, .int ty, .int wa])), (s1, .inl (cI, 100, .inl st)), (s2, .inl (cI, 244, .inl sd)), (s3, .inl (cJ, 400, .inr (.inl be)))] H → va_D A [(e0, .inr (4, [.ref e1, .ref e2, .ref e3, .ref e4, .ref e5, .ref e6, .int (nI g9.2.2.2)])), (e1, .inl (cI, 480, .inl g9.1)), (e2, .inl (cI, 480, .inl g9.2.1)), (e6, .inl (cI, 40, .inl g9.2.2.1)), (f0, .inr (2, [.ref o1, .ref f1, .ref f2, .ref f3, .ref f4, .int np, .int ns, .int aw])), (f1, .inl (cI, 1764, .inl ce)), (o1, .inr (1, [.ref s1, .ref s2, .ref s3, .int ty, .int wa])), (s1, .inl (cI, 100, .inl st)), (s2, .inl (cI, 244, .inl sd)), (s3, .inl (cJ, 400, .inr (.inl be)))] → va_S A s.heap H locs → lv_has ls 5 [(0, .ref e0)] → W p l e ({ frames := 2, cells := 0, slots := 0, locals := 47 } : Room) s m args below meth c H locs 0 0 Q (F0 m 122 ls [])) :
    ∀ (fu : Nat) (i : Nat) (g9 : GS), 1764 - i < fu → (i ≤ 1764) → (g9 = gaL ce sd st (lk, flI we (nI 0) 480, flI ne (-1) 40, 0) i) → (okN g9.2.2.1 g9.2.2.2) → (g9.2.2.2 ≤ 120) → ∀ (H : Heap) (locs : List Loc) (ls : Array Slot), va_P D vwCl [(e0, .inr (4, [.ref e1, .ref e2, .ref e3, .ref e4, .ref e5, .ref e6, .int (nI g9.2.2.2)])), (e1, .inl (cI, 480, .inl g9.1)), (e2, .inl (cI, 480, .inl g9.2.1)), (e6, .inl (cI, 40, .inl g9.2.2.1)), (f0, .inr (2, [.ref o1, .ref f1, .ref f2, .ref f3, .ref f4, .int np, .int ns, .int aw])), (f1, .inl (cI, 1764, .inl ce)), (o1, .inr (1, [.ref s1, .ref s2, .ref s3, .int ty, .int wa])), (s1, .inl (cI, 100, .inl st)), (s2, .inl (cI, 244, .inl sd)), (s3, .inl (cJ, 400, .inr (.inl be)))] H → va_D A [(e0, .inr (4, [.ref e1, .ref e2, .ref e3, .ref e4, .ref e5, .ref e6, .int (nI g9.2.2.2)])), (e1, .inl (cI, 480, .inl g9.1)), (e2, .inl (cI, 480, .inl g9.2.1)), (e6, .inl (cI, 40, .inl g9.2.2.1)), (f0, .inr (2, [.ref o1, .ref f1, .ref f2, .ref f3, .ref f4, .int np, .int ns, .int aw])), (f1, .inl (cI, 1764, .inl ce)), (o1, .inr (1, [.ref s1, .ref s2, .ref s3, .int ty, .int wa])), (s1, .inl (cI, 100, .inl st)), (s2, .inl (cI, 244, .inl sd)), (s3, .inl (cJ, 400, .inr (.inl be)))] → va_S A s.heap H locs → lv_has ls 5 [(0, .ref e0), (1, .ref f0), (2, .int (nI i))] → W p l e ({ frames := 2, cells := 0, slots := 0, locals := 47 } : Room) s m args below meth c H locs 0 0 Q (F0 m 23 ls []) := by
  intro fu
  induction fu with
  | zero =>
    intro i g9 h0
    exact absurd h0 (Nat.not_lt_zero _)
  | succ fu ih =>
    intro i g9 hmu hi hg hN9 hn9 H locs ls hP hD hS hl
    refine lv_iload_n hx hb d_SM_gather_23 rfl (lv_at hl 2 rfl) ?_
    refine lv_sipush (v := nI 1764) hx hb d_SM_gather_24 (by decide +kernel) ?_
    refine jn_icmp_ge (tgt := 122) (a := i) (b := 1764) hx hb d_SM_gather_27 (by decide) (by omega) (by omega) (fun c_27 => ?_) (fun c_27 => ?_)
    · skip
      exact kx0 g9 (by rw [hg, show i = 1764 by omega]) hn9 _ _ _ (hP.sub [0, 1, 2, 3, 4, 5, 6, 7, 8, 9] rfl) (hD.sub [0, 1, 2, 3, 4, 5, 6, 7, 8, 9] (by decide) rfl) hS (lv_sub hl [0] rfl)
    · skip
      refine lv_aload_n hx hb d_SM_gather_30 rfl (lv_at hl 0 rfl) ?_
      refine va_get (D := D) (ci := 4) (v := .int (nI g9.2.2.2)) (C := R_SM) (T := T_SM) (N := 7) hx hb hw in_SM hown hE.1 hP 0 rfl rfl 6 (by decide) (hw _ kw_166) (fun _ h9 => h9) rfl d_SM_gather_31 ?_
      refine lv_bipush (v := nI 120) hx hb d_SM_gather_34 (by decide +kernel) ?_
      refine jn_icmp_ge (tgt := 122) (a := g9.2.2.2) (b := 120) hx hb d_SM_gather_36 (by decide) (by omega) (by omega) (fun c_36 => ?_) (fun c_36 => ?_)
      · skip
        exact kx0 g9 (by have e := gaL_stay (ce := ce) (sd := sd) (st := st) (g := (lk, flI we (nI 0) 480, flI ne (-1) 40, 0)) (i := i) (by rw [← hg]; omega) (1764 - i); rw [show i + (1764 - i) = 1764 by omega] at e; rw [hg, e]) hn9 _ _ _ (hP.sub [0, 1, 2, 3, 4, 5, 6, 7, 8, 9] rfl) (hD.sub [0, 1, 2, 3, 4, 5, 6, 7, 8, 9] (by decide) rfl) hS (lv_sub hl [0] rfl)
      · skip
        refine lv_aload_n hx hb d_SM_gather_39 rfl (lv_at hl 1 rfl) ?_
        refine lv_iload_n hx hb d_SM_gather_40 rfl (lv_at hl 2 rfl) ?_
        refine vp_callSi (va_Run.run (va_runV (As := [.int (nI i)]) (rest := []) ⟨hx, hb, hml, hown, hw⟩ (k_FD_typeAt l D cI cJ f0 f1 f2 f3 f4 o1 np ns aw ce i (by omega)) (cwV 1 hw (gV kw_708 kw_422 kw_423 kw_42 kw_424) rfl rfl rfl (by decide +kernel) ⟨Nat.le_of_ble_eq_true rfl, Nat.le_of_ble_eq_true rfl⟩) (pre_Vp (wc := [(f0, .inr (2, [.ref o1, .ref f1, .ref f2, .ref f3, .ref f4, .int np, .int ns, .int aw])), (f1, .inl (cI, 1764, .inl ce))]) (q0 := 0) hE hX hP hS [4, 5] rfl rfl rfl) rfl rfl hl.1 rfl (lv_room (Nat.le_of_ble_eq_true rfl)) d_SM_gather_41 ⟨Nat.le_of_ble_eq_true rfl, Nat.le_of_ble_eq_true rfl⟩)) (fun r_1 hr_1 => ?_)
        obtain rfl : nI (tyN (ce i)) = r_1 := hr_1.symm
        refine lv_istore_n (lv' := [(3, .int (nI (tyN (ce i)))), (0, .ref e0), (1, .ref f0), (2, .int (nI i))]) hx hb d_SM_gather_44 rfl hl (by decide) rfl (fun ls hl => ?_)
        refine lv_iload_n hx hb d_SM_gather_45 rfl (lv_at hl 0 rfl) ?_
        refine jn_if_ne (tgt := 52) (a := (tyN (ce i))) hx hb d_SM_gather_46 (by decide) (by have := tyN_lt (ce i); omega) (fun c_46 => ?_) (fun c_46 => ?_)
        · skip
          have hi1 := hin i (by omega) c_46
          have hi2 := hW9 i (by omega) c_46
          have hi3 := (hce i (by omega)).1
          refine lv_iload_n hx hb d_SM_gather_52 rfl (lv_at hl 3 rfl) ?_
          refine vp_callSi (va_Run.run (va_runSN (As := [.int (nI i)]) (rest := []) ⟨hx, hb, hml, hown, hw⟩ (k_TB_xOf l D cI cJ i (by omega) hi2.1) (⟨va_cnB 1 hw (gI kw_575) rfl rfl rfl (hE.2.1 _ (List.mem_of_getElem? (i := 15) rfl)) (hw _ kw_40) (by decide +kernel) ⟨Nat.le_of_ble_eq_true rfl, Nat.le_of_ble_eq_true rfl⟩, hw _ kw_574, trivial⟩) (pre_Sp (wc := []) hE hX hP hS [] rfl) rfl rfl hl.1 rfl (lv_room (Nat.le_of_ble_eq_true rfl)) d_SM_gather_53 ⟨Nat.le_of_ble_eq_true rfl, Nat.le_of_ble_eq_true rfl⟩)) (fun r_2 hr_2 => ?_)
          obtain rfl : nI (i % 42 - 1) = r_2 := hr_2.symm
          refine lv_istore (lv' := [(4, .int (nI (i % 42 - 1))), (3, .int (nI (tyN (ce i)))), (0, .ref e0), (1, .ref f0), (2, .int (nI i))]) hx hb d_SM_gather_56 hl (by decide) rfl (fun ls hl => ?_)
          refine lv_aload_n hx hb d_SM_gather_58 rfl (lv_at hl 2 rfl) ?_
          refine lv_aload_n hx hb d_SM_gather_59 rfl (lv_at hl 2 rfl) ?_
          refine va_get (D := D) (ci := 4) (v := .ref e6) (C := R_SM) (T := T_SM) (N := 7) hx hb hw in_SM hown hE.1 hP 0 rfl rfl 5 (by decide) (hw _ kw_165) (fun _ h9 => h9) rfl d_SM_gather_60 ?_
          refine lv_iload hx hb d_SM_gather_63 (lv_at hl 0 rfl) ?_
          refine jn_iald (k := (i % 42 - 1)) hx hb hE.1 hP 3 0 rfl rfl (by omega) (by omega) d_SM_gather_65 ?_
          refine lv_iconst (v := nI 2) hx hb d_SM_gather_66 (by decide +kernel) ?_
          refine lv_aload_n hx hb d_SM_gather_67 rfl (lv_at hl 3 rfl) ?_
          refine lv_iload_n hx hb d_SM_gather_68 rfl (lv_at hl 4 rfl) ?_
          refine lv_iload_n hx hb d_SM_gather_69 rfl (lv_at hl 1 rfl) ?_
          refine lv_iconst (v := nI 2) hx hb d_SM_gather_70 (by decide +kernel) ?_
          refine vp_callSi (va_Run.run (va_runV (As := [.int (nI i), .int (nI (tyN (ce i))), .int (nI 2)]) (rest := [.int (nI 2), .int (g9.2.2.1 (i % 42 - 1)), .ref e0]) ⟨hx, hb, hml, hown, hw⟩ (k_FD_holding l D cI cJ f0 f1 f2 f3 f4 o1 np ns aw s1 s2 s3 ty wa st sd be ce i (tyN (ce i)) 2 hi1.1 hi1.2 hce hsd hst hi3 (by decide)) (cwV 3 hw (gV kw_710 kw_501 kw_502 kw_42 kw_503) rfl rfl rfl (by decide +kernel) ⟨Nat.le_of_ble_eq_true rfl, Nat.le_of_ble_eq_true rfl⟩) (pre_Vp (wc := [(f0, .inr (2, [.ref o1, .ref f1, .ref f2, .ref f3, .ref f4, .int np, .int ns, .int aw])), (f1, .inl (cI, 1764, .inl ce)), (o1, .inr (1, [.ref s1, .ref s2, .ref s3, .int ty, .int wa])), (s1, .inl (cI, 100, .inl st)), (s2, .inl (cI, 244, .inl sd)), (s3, .inl (cJ, 400, .inr (.inl be)))]) (q0 := 0) hE hX hP hS [4, 5, 6, 7, 8, 9] rfl rfl rfl) rfl rfl hl.1 rfl (lv_room (Nat.le_of_ble_eq_true rfl)) d_SM_gather_71 ⟨Nat.le_of_ble_eq_true rfl, Nat.le_of_ble_eq_true rfl⟩)) (fun r_3 hr_3 => ?_)
          obtain rfl : hoV ce sd st i (tyN (ce i)) 2 = r_3 := hr_3.symm
          refine cl_v (wr := [(e6, .inl (cI, 40, .inl g9.2.2.1)), (f0, .inr (2, [.ref o1, .ref f1, .ref f2, .ref f3, .ref f4, .int np, .int ns, .int aw])), (f1, .inl (cI, 1764, .inl ce)), (o1, .inr (1, [.ref s1, .ref s2, .ref s3, .int ty, .int wa])), (s1, .inl (cI, 100, .inl st)), (s2, .inl (cI, 244, .inl sd)), (s3, .inl (cJ, 400, .inr (.inl be)))]) (va_runV (As := [.int (g9.2.2.1 (i % 42 - 1)), .int (nI 2), .int (hoV ce sd st i (tyN (ce i)) 2)]) (rest := []) ⟨hx, hb, hml, hown, hw⟩ (k_SM_tie l D cI cJ e0 e1 e2 e3 e4 e5 e6 g9.2.2.2 g9.1 g9.2.1 (g9.2.2.1 (i % 42 - 1)) 2 (hoV ce sd st i (tyN (ce i)) 2) _ (by omega) (by decide) (hN9 _ (by omega))) (cwV 3 hw (gV kw_711 kw_713 kw_15 kw_44 kw_714) rfl rfl rfl (by decide +kernel) ⟨Nat.le_of_ble_eq_true rfl, Nat.le_of_ble_eq_true rfl⟩) (pre_Vw (wc := [(e0, .inr (4, [.ref e1, .ref e2, .ref e3, .ref e4, .ref e5, .ref e6, .int (nI g9.2.2.2)])), (e1, .inl (cI, 480, .inl g9.1)), (e2, .inl (cI, 480, .inl g9.2.1))]) (q0 := 0) hE hX hA hP hD hS [0, 1, 2] (by decide) rfl rfl rfl rfl) rfl rfl hl.1 rfl (lv_room (Nat.le_of_ble_eq_true rfl)) d_SM_gather_74 ⟨Nat.le_of_ble_eq_true rfl, Nat.le_of_ble_eq_true rfl⟩) hP hD hS hA [0, 1, 2] [3, 4, 5, 6, 7, 8, 9] rfl rfl (by decide) (by decide) (fun u_r_4 H locs hr_4 hP hD hS => ?_)
          have hP : va_P D vwCl [(e6, .inl (cI, 40, .inl g9.2.2.1)), (f0, .inr (2, [.ref o1, .ref f1, .ref f2, .ref f3, .ref f4, .int np, .int ns, .int aw])), (f1, .inl (cI, 1764, .inl ce)), (o1, .inr (1, [.ref s1, .ref s2, .ref s3, .int ty, .int wa])), (s1, .inl (cI, 100, .inl st)), (s2, .inl (cI, 244, .inl sd)), (s3, .inl (cJ, 400, .inr (.inl be))), (e0, .inr (4, [.ref e1, .ref e2, .ref e3, .ref e4, .ref e5, .ref e6, .int (nI g9.2.2.2)])), (e1, .inl (cI, 480, .inl (tieL g9.2.2.2 (g9.2.2.1 (i % 42 - 1)) 2 (hoV ce sd st i (tyN (ce i)) 2) g9.1))), (e2, .inl (cI, 480, .inl (tieW g9.2.2.2 (g9.2.2.1 (i % 42 - 1)) 2 (hoV ce sd st i (tyN (ce i)) 2) g9.2.1)))] H := hP
          have hD : va_D A [(e6, .inl (cI, 40, .inl g9.2.2.1)), (f0, .inr (2, [.ref o1, .ref f1, .ref f2, .ref f3, .ref f4, .int np, .int ns, .int aw])), (f1, .inl (cI, 1764, .inl ce)), (o1, .inr (1, [.ref s1, .ref s2, .ref s3, .int ty, .int wa])), (s1, .inl (cI, 100, .inl st)), (s2, .inl (cI, 244, .inl sd)), (s3, .inl (cJ, 400, .inr (.inl be))), (e0, .inr (4, [.ref e1, .ref e2, .ref e3, .ref e4, .ref e5, .ref e6, .int (nI g9.2.2.2)])), (e1, .inl (cI, 480, .inl (tieL g9.2.2.2 (g9.2.2.1 (i % 42 - 1)) 2 (hoV ce sd st i (tyN (ce i)) 2) g9.1))), (e2, .inl (cI, 480, .inl (tieW g9.2.2.2 (g9.2.2.1 (i % 42 - 1)) 2 (hoV ce sd st i (tyN (ce i)) 2) g9.2.1)))] := hD
          refine lv_aload_n hx hb d_SM_gather_77 rfl (lv_at hl 2 rfl) ?_
          refine lv_aload_n hx hb d_SM_gather_78 rfl (lv_at hl 2 rfl) ?_
          refine va_get (D := D) (ci := 4) (v := .int (nI g9.2.2.2)) (C := R_SM) (T := T_SM) (N := 7) hx hb hw in_SM hown hE.1 hP 7 rfl rfl 6 (by decide) (hw _ kw_166) (fun _ h9 => h9) rfl d_SM_gather_79 ?_
          refine lv_iconst (v := nI 1) hx hb d_SM_gather_82 (by decide +kernel) ?_
          refine lv_isub hx hb d_SM_gather_83 ?_
          refine lv_iconst (v := nI 3) hx hb d_SM_gather_84 (by decide +kernel) ?_
          refine lv_aload_n hx hb d_SM_gather_85 rfl (lv_at hl 3 rfl) ?_
          refine lv_iload_n hx hb d_SM_gather_86 rfl (lv_at hl 4 rfl) ?_
          refine lv_iload_n hx hb d_SM_gather_87 rfl (lv_at hl 1 rfl) ?_
          refine lv_iconst (v := nI 3) hx hb d_SM_gather_88 (by decide +kernel) ?_
          refine vp_callSi (va_Run.run (va_runV (As := [.int (nI i), .int (nI (tyN (ce i))), .int (nI 3)]) (rest := [.int (nI 3), .int ((nI g9.2.2.2) - (nI 1)), .ref e0]) ⟨hx, hb, hml, hown, hw⟩ (k_FD_holding l D cI cJ f0 f1 f2 f3 f4 o1 np ns aw s1 s2 s3 ty wa st sd be ce i (tyN (ce i)) 3 hi1.1 hi1.2 hce hsd hst hi3 (by decide)) (cwV 3 hw (gV kw_710 kw_501 kw_502 kw_42 kw_503) rfl rfl rfl (by decide +kernel) ⟨Nat.le_of_ble_eq_true rfl, Nat.le_of_ble_eq_true rfl⟩) (pre_Vp (wc := [(f0, .inr (2, [.ref o1, .ref f1, .ref f2, .ref f3, .ref f4, .int np, .int ns, .int aw])), (f1, .inl (cI, 1764, .inl ce)), (o1, .inr (1, [.ref s1, .ref s2, .ref s3, .int ty, .int wa])), (s1, .inl (cI, 100, .inl st)), (s2, .inl (cI, 244, .inl sd)), (s3, .inl (cJ, 400, .inr (.inl be)))]) (q0 := 0) hE hX hP hS [1, 2, 3, 4, 5, 6] rfl rfl rfl) rfl rfl hl.1 rfl (lv_room (Nat.le_of_ble_eq_true rfl)) d_SM_gather_89 ⟨Nat.le_of_ble_eq_true rfl, Nat.le_of_ble_eq_true rfl⟩)) (fun r_5 hr_5 => ?_)
          obtain rfl : hoV ce sd st i (tyN (ce i)) 3 = r_5 := hr_5.symm
          refine cl_v (wr := [(e6, .inl (cI, 40, .inl g9.2.2.1)), (f0, .inr (2, [.ref o1, .ref f1, .ref f2, .ref f3, .ref f4, .int np, .int ns, .int aw])), (f1, .inl (cI, 1764, .inl ce)), (o1, .inr (1, [.ref s1, .ref s2, .ref s3, .int ty, .int wa])), (s1, .inl (cI, 100, .inl st)), (s2, .inl (cI, 244, .inl sd)), (s3, .inl (cJ, 400, .inr (.inl be)))]) (va_runV (As := [.int ((nI g9.2.2.2) - (nI 1)), .int (nI 3), .int (hoV ce sd st i (tyN (ce i)) 3)]) (rest := []) ⟨hx, hb, hml, hown, hw⟩ (k_SM_tie l D cI cJ e0 e1 e2 e3 e4 e5 e6 g9.2.2.2 (tieL g9.2.2.2 (g9.2.2.1 (i % 42 - 1)) 2 (hoV ce sd st i (tyN (ce i)) 2) g9.1) (tieW g9.2.2.2 (g9.2.2.1 (i % 42 - 1)) 2 (hoV ce sd st i (tyN (ce i)) 2) g9.2.1) ((nI g9.2.2.2) - (nI 1)) 3 (hoV ce sd st i (tyN (ce i)) 3) _ (by omega) (by decide) (okE_m1 (by omega))) (cwV 3 hw (gV kw_711 kw_713 kw_15 kw_44 kw_714) rfl rfl rfl (by decide +kernel) ⟨Nat.le_of_ble_eq_true rfl, Nat.le_of_ble_eq_true rfl⟩) (pre_Vw (wc := [(e0, .inr (4, [.ref e1, .ref e2, .ref e3, .ref e4, .ref e5, .ref e6, .int (nI g9.2.2.2)])), (e1, .inl (cI, 480, .inl (tieL g9.2.2.2 (g9.2.2.1 (i % 42 - 1)) 2 (hoV ce sd st i (tyN (ce i)) 2) g9.1))), (e2, .inl (cI, 480, .inl (tieW g9.2.2.2 (g9.2.2.1 (i % 42 - 1)) 2 (hoV ce sd st i (tyN (ce i)) 2) g9.2.1)))]) (q0 := 0) hE hX hA hP hD hS [7, 8, 9] (by decide) rfl rfl rfl rfl) rfl rfl hl.1 rfl (lv_room (Nat.le_of_ble_eq_true rfl)) d_SM_gather_92 ⟨Nat.le_of_ble_eq_true rfl, Nat.le_of_ble_eq_true rfl⟩) hP hD hS hA [7, 8, 9] [0, 1, 2, 3, 4, 5, 6] rfl rfl (by decide) (by decide) (fun u_r_6 H locs hr_6 hP hD hS => ?_)
          have hP : va_P D vwCl [(e6, .inl (cI, 40, .inl g9.2.2.1)), (f0, .inr (2, [.ref o1, .ref f1, .ref f2, .ref f3, .ref f4, .int np, .int ns, .int aw])), (f1, .inl (cI, 1764, .inl ce)), (o1, .inr (1, [.ref s1, .ref s2, .ref s3, .int ty, .int wa])), (s1, .inl (cI, 100, .inl st)), (s2, .inl (cI, 244, .inl sd)), (s3, .inl (cJ, 400, .inr (.inl be))), (e0, .inr (4, [.ref e1, .ref e2, .ref e3, .ref e4, .ref e5, .ref e6, .int (nI g9.2.2.2)])), (e1, .inl (cI, 480, .inl (tieL g9.2.2.2 ((nI g9.2.2.2) - (nI 1)) 3 (hoV ce sd st i (tyN (ce i)) 3) (tieL g9.2.2.2 (g9.2.2.1 (i % 42 - 1)) 2 (hoV ce sd st i (tyN (ce i)) 2) g9.1)))), (e2, .inl (cI, 480, .inl (tieW g9.2.2.2 ((nI g9.2.2.2) - (nI 1)) 3 (hoV ce sd st i (tyN (ce i)) 3) (tieW g9.2.2.2 (g9.2.2.1 (i % 42 - 1)) 2 (hoV ce sd st i (tyN (ce i)) 2) g9.2.1))))] H := hP
          have hD : va_D A [(e6, .inl (cI, 40, .inl g9.2.2.1)), (f0, .inr (2, [.ref o1, .ref f1, .ref f2, .ref f3, .ref f4, .int np, .int ns, .int aw])), (f1, .inl (cI, 1764, .inl ce)), (o1, .inr (1, [.ref s1, .ref s2, .ref s3, .int ty, .int wa])), (s1, .inl (cI, 100, .inl st)), (s2, .inl (cI, 244, .inl sd)), (s3, .inl (cJ, 400, .inr (.inl be))), (e0, .inr (4, [.ref e1, .ref e2, .ref e3, .ref e4, .ref e5, .ref e6, .int (nI g9.2.2.2)])), (e1, .inl (cI, 480, .inl (tieL g9.2.2.2 ((nI g9.2.2.2) - (nI 1)) 3 (hoV ce sd st i (tyN (ce i)) 3) (tieL g9.2.2.2 (g9.2.2.1 (i % 42 - 1)) 2 (hoV ce sd st i (tyN (ce i)) 2) g9.1)))), (e2, .inl (cI, 480, .inl (tieW g9.2.2.2 ((nI g9.2.2.2) - (nI 1)) 3 (hoV ce sd st i (tyN (ce i)) 3) (tieW g9.2.2.2 (g9.2.2.1 (i % 42 - 1)) 2 (hoV ce sd st i (tyN (ce i)) 2) g9.2.1))))] := hD
          refine lv_aload_n hx hb d_SM_gather_95 rfl (lv_at hl 2 rfl) ?_
          refine va_get (D := D) (ci := 4) (v := .ref e6) (C := R_SM) (T := T_SM) (N := 7) hx hb hw in_SM hown hE.1 hP 7 rfl rfl 5 (by decide) (hw _ kw_165) (fun _ h9 => h9) rfl d_SM_gather_96 ?_
          refine lv_iload hx hb d_SM_gather_99 (lv_at hl 0 rfl) ?_
          refine lv_aload_n hx hb d_SM_gather_101 rfl (lv_at hl 2 rfl) ?_
          refine va_get (D := D) (ci := 4) (v := .int (nI g9.2.2.2)) (C := R_SM) (T := T_SM) (N := 7) hx hb hw in_SM hown hE.1 hP 7 rfl rfl 6 (by decide) (hw _ kw_166) (fun _ h9 => h9) rfl d_SM_gather_102 ?_
          refine jn_iast (k := (i % 42 - 1)) hx hb hE.1 hP hD hS 0 0 rfl rfl (by omega) (by omega) d_SM_gather_105 (fun H locs hP hD hS => ?_)
          have hP : va_P D vwCl [(e6, .inl (cI, 40, .inl (upd g9.2.2.1 (i % 42 - 1) (nI g9.2.2.2)))), (f0, .inr (2, [.ref o1, .ref f1, .ref f2, .ref f3, .ref f4, .int np, .int ns, .int aw])), (f1, .inl (cI, 1764, .inl ce)), (o1, .inr (1, [.ref s1, .ref s2, .ref s3, .int ty, .int wa])), (s1, .inl (cI, 100, .inl st)), (s2, .inl (cI, 244, .inl sd)), (s3, .inl (cJ, 400, .inr (.inl be))), (e0, .inr (4, [.ref e1, .ref e2, .ref e3, .ref e4, .ref e5, .ref e6, .int (nI g9.2.2.2)])), (e1, .inl (cI, 480, .inl (tieL g9.2.2.2 ((nI g9.2.2.2) - (nI 1)) 3 (hoV ce sd st i (tyN (ce i)) 3) (tieL g9.2.2.2 (g9.2.2.1 (i % 42 - 1)) 2 (hoV ce sd st i (tyN (ce i)) 2) g9.1)))), (e2, .inl (cI, 480, .inl (tieW g9.2.2.2 ((nI g9.2.2.2) - (nI 1)) 3 (hoV ce sd st i (tyN (ce i)) 3) (tieW g9.2.2.2 (g9.2.2.1 (i % 42 - 1)) 2 (hoV ce sd st i (tyN (ce i)) 2) g9.2.1))))] H := hP
          have hD : va_D A [(e6, .inl (cI, 40, .inl (upd g9.2.2.1 (i % 42 - 1) (nI g9.2.2.2)))), (f0, .inr (2, [.ref o1, .ref f1, .ref f2, .ref f3, .ref f4, .int np, .int ns, .int aw])), (f1, .inl (cI, 1764, .inl ce)), (o1, .inr (1, [.ref s1, .ref s2, .ref s3, .int ty, .int wa])), (s1, .inl (cI, 100, .inl st)), (s2, .inl (cI, 244, .inl sd)), (s3, .inl (cJ, 400, .inr (.inl be))), (e0, .inr (4, [.ref e1, .ref e2, .ref e3, .ref e4, .ref e5, .ref e6, .int (nI g9.2.2.2)])), (e1, .inl (cI, 480, .inl (tieL g9.2.2.2 ((nI g9.2.2.2) - (nI 1)) 3 (hoV ce sd st i (tyN (ce i)) 3) (tieL g9.2.2.2 (g9.2.2.1 (i % 42 - 1)) 2 (hoV ce sd st i (tyN (ce i)) 2) g9.1)))), (e2, .inl (cI, 480, .inl (tieW g9.2.2.2 ((nI g9.2.2.2) - (nI 1)) 3 (hoV ce sd st i (tyN (ce i)) 3) (tieW g9.2.2.2 (g9.2.2.1 (i % 42 - 1)) 2 (hoV ce sd st i (tyN (ce i)) 2) g9.2.1))))] := hD
          refine lv_aload_n hx hb d_SM_gather_106 rfl (lv_at hl 2 rfl) ?_
          refine lv_dup hx hb d_SM_gather_107 rfl ?_
          refine va_get (D := D) (ci := 4) (v := .int (nI g9.2.2.2)) (C := R_SM) (T := T_SM) (N := 7) hx hb hw in_SM hown hE.1 hP 7 rfl rfl 6 (by decide) (hw _ kw_166) (fun _ h9 => h9) rfl d_SM_gather_108 ?_
          refine lv_iconst (v := nI 1) hx hb d_SM_gather_111 (by decide +kernel) ?_
          refine jn_iadd (a := g9.2.2.2) (b := 1) hx hb d_SM_gather_112 ?_
          refine va_put (D := D) (ci := 4) (v := .int (nI (g9.2.2.2 + 1))) (ty := .int) (C := R_SM) (T := T_SM) (N := 7) hx hb hw in_SM ty_SM ty_SM_ok nm_SM_ok hown hE.1 hP hD hS 7 rfl rfl 6 (by decide) (hw _ kw_166) (fun _ h9 => h9) rfl (by decide +kernel) rfl rfl (Nat.le_of_ble_eq_true rfl) d_SM_gather_113 (fun H locs hP hD hS => ?_)
          have hP : va_P D vwCl [(e6, .inl (cI, 40, .inl (upd g9.2.2.1 (i % 42 - 1) (nI g9.2.2.2)))), (f0, .inr (2, [.ref o1, .ref f1, .ref f2, .ref f3, .ref f4, .int np, .int ns, .int aw])), (f1, .inl (cI, 1764, .inl ce)), (o1, .inr (1, [.ref s1, .ref s2, .ref s3, .int ty, .int wa])), (s1, .inl (cI, 100, .inl st)), (s2, .inl (cI, 244, .inl sd)), (s3, .inl (cJ, 400, .inr (.inl be))), (e0, .inr (4, [.ref e1, .ref e2, .ref e3, .ref e4, .ref e5, .ref e6, .int (nI (g9.2.2.2 + 1))])), (e1, .inl (cI, 480, .inl (tieL g9.2.2.2 ((nI g9.2.2.2) - (nI 1)) 3 (hoV ce sd st i (tyN (ce i)) 3) (tieL g9.2.2.2 (g9.2.2.1 (i % 42 - 1)) 2 (hoV ce sd st i (tyN (ce i)) 2) g9.1)))), (e2, .inl (cI, 480, .inl (tieW g9.2.2.2 ((nI g9.2.2.2) - (nI 1)) 3 (hoV ce sd st i (tyN (ce i)) 3) (tieW g9.2.2.2 (g9.2.2.1 (i % 42 - 1)) 2 (hoV ce sd st i (tyN (ce i)) 2) g9.2.1))))] H := hP
          have hD : va_D A [(e6, .inl (cI, 40, .inl (upd g9.2.2.1 (i % 42 - 1) (nI g9.2.2.2)))), (f0, .inr (2, [.ref o1, .ref f1, .ref f2, .ref f3, .ref f4, .int np, .int ns, .int aw])), (f1, .inl (cI, 1764, .inl ce)), (o1, .inr (1, [.ref s1, .ref s2, .ref s3, .int ty, .int wa])), (s1, .inl (cI, 100, .inl st)), (s2, .inl (cI, 244, .inl sd)), (s3, .inl (cJ, 400, .inr (.inl be))), (e0, .inr (4, [.ref e1, .ref e2, .ref e3, .ref e4, .ref e5, .ref e6, .int (nI (g9.2.2.2 + 1))])), (e1, .inl (cI, 480, .inl (tieL g9.2.2.2 ((nI g9.2.2.2) - (nI 1)) 3 (hoV ce sd st i (tyN (ce i)) 3) (tieL g9.2.2.2 (g9.2.2.1 (i % 42 - 1)) 2 (hoV ce sd st i (tyN (ce i)) 2) g9.1)))), (e2, .inl (cI, 480, .inl (tieW g9.2.2.2 ((nI g9.2.2.2) - (nI 1)) 3 (hoV ce sd st i (tyN (ce i)) 3) (tieW g9.2.2.2 (g9.2.2.1 (i % 42 - 1)) 2 (hoV ce sd st i (tyN (ce i)) 2) g9.2.1))))] := hD
          refine lv_iinc (v := nI (i + 1)) (lv' := [(2, .int (nI (i + 1))), (4, .int (nI (i % 42 - 1))), (3, .int (nI (tyN (ce i)))), (0, .ref e0), (1, .ref f0)]) hx hb d_SM_gather_116 hl (k := 4) rfl (jn_inc i 1) (by decide) rfl (fun ls hl => ?_)
          refine lv_goto (tgt := 23) hx hb d_SM_gather_119 (by decide) ?_
          exact ih (i + 1) (gaT ce sd st i g9) (by omega) (by omega) (by rw [gaL, ← hg, if_pos (show g9.2.2.2 < 120 by omega), if_neg c_46]) (okN_upd hN9 (by omega) _) (show g9.2.2.2 + 1 ≤ 120 by omega) _ _ _ (hP.sub [7, 8, 9, 0, 1, 2, 3, 4, 5, 6] rfl) (hD.sub [7, 8, 9, 0, 1, 2, 3, 4, 5, 6] (by decide) rfl) hS (lv_sub hl [3, 4, 0] rfl)
        · skip
          refine lv_goto (tgt := 116) hx hb d_SM_gather_49 (by decide) ?_
          refine lv_iinc (v := nI (i + 1)) (lv' := [(2, .int (nI (i + 1))), (3, .int (nI (tyN (ce i)))), (0, .ref e0), (1, .ref f0)]) hx hb d_SM_gather_116 hl (k := 3) rfl (jn_inc i 1) (by decide) rfl (fun ls hl => ?_)
          refine lv_goto (tgt := 23) hx hb d_SM_gather_119 (by decide) ?_
          exact ih (i + 1) g9 (by omega) (by omega) (by rw [gaL, ← hg, if_pos (show g9.2.2.2 < 120 by omega), if_pos c_46]) hN9 (by omega) _ _ _ (hP.sub [0, 1, 2, 3, 4, 5, 6, 7, 8, 9] rfl) (hD.sub [0, 1, 2, 3, 4, 5, 6, 7, 8, 9] (by decide) rfl) hS (lv_sub hl [2, 3, 0] rfl)
set_option maxHeartbeats 4000000 in
set_option maxRecDepth 100000 in
/-- gather -/
theorem k_SM_gather (l : Launch) (D : va_G) (cI cJ : ClassId) (e0 : Nat) (e1 : Nat) (e2 : Nat) (e3 : Nat) (e4 : Nat) (e5 : Nat) (e6 : Nat) (f0 : Nat) (f1 : Nat) (f2 : Nat) (f3 : Nat) (f4 : Nat) (o1 : Nat) (np : Int32) (ns : Int32) (aw : Int32) (s1 : Nat) (s2 : Nat) (s3 : Nat) (ty : Int32) (wa : Int32) (st : Nat → Int32) (sd : Nat → Int32) (be : Nat → Int64) (ce : Nat → Int32) (lk : Nat → Int32) (we : Nat → Int32) (ne : Nat → Int32) (n7 : Int32) (sz : Nat) (hce : okCe ce) (hsd : okSd sd) (hst : okSt st) (hin : okIn ce) (hW9 : okW ce) : Met l y_SM_gather ws_SM_gather ({ frames := 2, cells := 0, slots := 0, locals := 47 } : Room) (va_Pc [.ref e0, .ref f0] (Pw D cI cJ [(e0, .inr (4, [.ref e1, .ref e2, .ref e3, .ref e4, .ref e5, .ref e6, .int n7])), (e1, .inl (cI, 480, .inl lk)), (e2, .inl (cI, 480, .inl we)), (e6, .inl (cI, 40, .inl ne)), (f0, .inr (2, [.ref o1, .ref f1, .ref f2, .ref f3, .ref f4, .int np, .int ns, .int aw])), (f1, .inl (cI, 1764, .inl ce)), (o1, .inr (1, [.ref s1, .ref s2, .ref s3, .int ty, .int wa])), (s1, .inl (cI, 100, .inl st)), (s2, .inl (cI, 244, .inl sd)), (s3, .inl (cJ, 400, .inr (.inl be)))] sz)) (va_Qv (fun (u9 : GS) => u9 = gaL ce sd st (lk, flI we (nI 0) 480, flI ne (-1) 40, 0) 1764 ∧ u9.2.2.2 ≤ 120) (fun u9 t9 => Bw D (va_A [(e0, .inr (4, [.ref e1, .ref e2, .ref e3, .ref e4, .ref e5, .ref e6, .int n7])), (e1, .inl (cI, 480, .inl lk)), (e2, .inl (cI, 480, .inl we)), (e6, .inl (cI, 40, .inl ne)), (f0, .inr (2, [.ref o1, .ref f1, .ref f2, .ref f3, .ref f4, .int np, .int ns, .int aw])), (f1, .inl (cI, 1764, .inl ce)), (o1, .inr (1, [.ref s1, .ref s2, .ref s3, .int ty, .int wa])), (s1, .inl (cI, 100, .inl st)), (s2, .inl (cI, 244, .inl sd)), (s3, .inl (cJ, 400, .inr (.inl be)))] sz) [(e0, .inr (4, [.ref e1, .ref e2, .ref e3, .ref e4, .ref e5, .ref e6, .int (nI u9.2.2.2)])), (e1, .inl (cI, 480, .inl u9.1)), (e2, .inl (cI, 480, .inl u9.2.1)), (e6, .inl (cI, 40, .inl u9.2.2.1)), (f0, .inr (2, [.ref o1, .ref f1, .ref f2, .ref f3, .ref f4, .int np, .int ns, .int aw])), (f1, .inl (cI, 1764, .inl ce)), (o1, .inr (1, [.ref s1, .ref s2, .ref s3, .int ty, .int wa])), (s1, .inl (cI, 100, .inl st)), (s2, .inl (cI, 244, .inl sd)), (s3, .inl (cJ, 400, .inr (.inl be)))] t9) (va_A [(e0, .inr (4, [.ref e1, .ref e2, .ref e3, .ref e4, .ref e5, .ref e6, .int n7])), (e1, .inl (cI, 480, .inl lk)), (e2, .inl (cI, 480, .inl we)), (e6, .inl (cI, 40, .inl ne)), (f0, .inr (2, [.ref o1, .ref f1, .ref f2, .ref f3, .ref f4, .int np, .int ns, .int aw])), (f1, .inl (cI, 1764, .inl ce)), (o1, .inr (1, [.ref s1, .ref s2, .ref s3, .int ty, .int wa])), (s1, .inl (cI, 100, .inl st)), (s2, .inl (cI, 244, .inl sd)), (s3, .inl (cJ, 400, .inr (.inl be)))] sz)) 0 0 (va_A [(e0, .inr (4, [.ref e1, .ref e2, .ref e3, .ref e4, .ref e5, .ref e6, .int n7])), (e1, .inl (cI, 480, .inl lk)), (e2, .inl (cI, 480, .inl we)), (e6, .inl (cI, 40, .inl ne)), (f0, .inr (2, [.ref o1, .ref f1, .ref f2, .ref f3, .ref f4, .int np, .int ns, .int aw])), (f1, .inl (cI, 1764, .inl ce)), (o1, .inr (1, [.ref s1, .ref s2, .ref s3, .int ty, .int wa])), (s1, .inl (cI, 100, .inl st)), (s2, .inl (cI, 244, .inl sd)), (s3, .inl (cJ, 400, .inr (.inl be)))] sz) := by
  refine Met.ofW (cc := c_SM_gather) (maxL := 5) (ret := none) (by decide) rfl ?_
  intro p e s m args below meth c s₁ B hml hv
  obtain ⟨rfl, hsz, hE, hP, hD0, hX⟩ := hv
  have hx := B.exec
  have hb := B.bytes
  have hr := B.returns
  have hw : ∀ w ∈ gw, w.before _ s = true := fun w h => atoms_spec (ws := ws_SM_gather) B.pre w (List.mem_cons_of_mem _ h)
  have hown : s.vm.findClass R_SM = some m.cls := findClass_of_methodNamed B.named
  have hlocks := B.notSynchronized
  subst hsz
  have hD := hD0.self (sz := s.heap.size)
  generalize hAe : va_A [(e0, .inr (4, [.ref e1, .ref e2, .ref e3, .ref e4, .ref e5, .ref e6, .int n7])), (e1, .inl (cI, 480, .inl lk)), (e2, .inl (cI, 480, .inl we)), (e6, .inl (cI, 40, .inl ne)), (f0, .inr (2, [.ref o1, .ref f1, .ref f2, .ref f3, .ref f4, .int np, .int ns, .int aw])), (f1, .inl (cI, 1764, .inl ce)), (o1, .inr (1, [.ref s1, .ref s2, .ref s3, .int ty, .int wa])), (s1, .inl (cI, 100, .inl st)), (s2, .inl (cI, 244, .inl sd)), (s3, .inl (cJ, 400, .inr (.inl be)))] s.heap.size = A at hD hX ⊢
  have hA : ∀ q : Nat, s.heap.size ≤ q → A q := fun q h => by rw [← hAe]; exact Or.inr h
  have hS : va_S A s.heap s.heap [] := va_S.rf
  have hP : va_P D vwCl [(e0, .inr (4, [.ref e1, .ref e2, .ref e3, .ref e4, .ref e5, .ref e6, .int n7])), (e1, .inl (cI, 480, .inl lk)), (e2, .inl (cI, 480, .inl we)), (e6, .inl (cI, 40, .inl ne)), (f0, .inr (2, [.ref o1, .ref f1, .ref f2, .ref f3, .ref f4, .int np, .int ns, .int aw])), (f1, .inl (cI, 1764, .inl ce)), (o1, .inr (1, [.ref s1, .ref s2, .ref s3, .int ty, .int wa])), (s1, .inl (cI, 100, .inl st)), (s2, .inl (cI, 244, .inl sd)), (s3, .inl (cJ, 400, .inr (.inl be)))] s.heap := hP
  have hl := lv_entry ([.ref e0, .ref f0]) (n := 5) (Nat.le_of_ble_eq_true rfl)
  rw [lg_entry_eq]
  generalize (lg_sl ([.ref e0, .ref f0]) ++ List.replicate (5 - (lg_sl ([.ref e0, .ref f0])).length) Slot.unset).toArray = ls at hl ⊢
  have hl : lv_has ls 5 [(0, .ref e0), (1, .ref f0)] := hl
  refine lv_aload_n hx hb d_SM_gather_0 rfl (lv_at hl 0 rfl) ?_
  refine lv_iconst (v := nI 0) hx hb d_SM_gather_1 (by decide +kernel) ?_
  refine va_put (D := D) (ci := 4) (v := .int (nI 0)) (ty := .int) (C := R_SM) (T := T_SM) (N := 7) hx hb hw in_SM ty_SM ty_SM_ok nm_SM_ok hown hE.1 hP hD hS 0 rfl rfl 6 (by decide) (hw _ kw_166) (fun _ h9 => h9) rfl (by decide +kernel) rfl rfl (Nat.le_of_ble_eq_true rfl) d_SM_gather_2 (fun H locs hP hD hS => ?_)
  have hP : va_P D vwCl [(e0, .inr (4, [.ref e1, .ref e2, .ref e3, .ref e4, .ref e5, .ref e6, .int (nI 0)])), (e1, .inl (cI, 480, .inl lk)), (e2, .inl (cI, 480, .inl we)), (e6, .inl (cI, 40, .inl ne)), (f0, .inr (2, [.ref o1, .ref f1, .ref f2, .ref f3, .ref f4, .int np, .int ns, .int aw])), (f1, .inl (cI, 1764, .inl ce)), (o1, .inr (1, [.ref s1, .ref s2, .ref s3, .int ty, .int wa])), (s1, .inl (cI, 100, .inl st)), (s2, .inl (cI, 244, .inl sd)), (s3, .inl (cJ, 400, .inr (.inl be)))] H := hP
  have hD : va_D A [(e0, .inr (4, [.ref e1, .ref e2, .ref e3, .ref e4, .ref e5, .ref e6, .int (nI 0)])), (e1, .inl (cI, 480, .inl lk)), (e2, .inl (cI, 480, .inl we)), (e6, .inl (cI, 40, .inl ne)), (f0, .inr (2, [.ref o1, .ref f1, .ref f2, .ref f3, .ref f4, .int np, .int ns, .int aw])), (f1, .inl (cI, 1764, .inl ce)), (o1, .inr (1, [.ref s1, .ref s2, .ref s3, .int ty, .int wa])), (s1, .inl (cI, 100, .inl st)), (s2, .inl (cI, 244, .inl sd)), (s3, .inl (cJ, 400, .inr (.inl be)))] := hD
  refine lv_aload_n hx hb d_SM_gather_5 rfl (lv_at hl 0 rfl) ?_
  refine va_get (D := D) (ci := 4) (v := .ref e2) (C := R_SM) (T := T_SM) (N := 7) hx hb hw in_SM hown hE.1 hP 0 rfl rfl 1 (by decide) (hw _ kw_161) (fun _ h9 => h9) rfl d_SM_gather_6 ?_
  refine lv_iconst (v := nI 0) hx hb d_SM_gather_9 (by decide +kernel) ?_
  refine cl_v (wr := [(e0, .inr (4, [.ref e1, .ref e2, .ref e3, .ref e4, .ref e5, .ref e6, .int (nI 0)])), (e1, .inl (cI, 480, .inl lk)), (e6, .inl (cI, 40, .inl ne)), (f0, .inr (2, [.ref o1, .ref f1, .ref f2, .ref f3, .ref f4, .int np, .int ns, .int aw])), (f1, .inl (cI, 1764, .inl ce)), (o1, .inr (1, [.ref s1, .ref s2, .ref s3, .int ty, .int wa])), (s1, .inl (cI, 100, .inl st)), (s2, .inl (cI, 244, .inl sd)), (s3, .inl (cJ, 400, .inr (.inl be)))]) (va_runS (As := [.ref e2, .int (nI 0)]) (rest := []) ⟨hx, hb, hml, hown, hw⟩ (k_JA_fillI l D cI cJ e2 480 we (nI 0) _ (by decide)) (va_cwS 2 hw (gS kw_707 kw_211 kw_54 kw_212) rfl rfl rfl (by decide +kernel) ⟨Nat.le_of_ble_eq_true rfl, Nat.le_of_ble_eq_true rfl⟩) (pre_Sw (wc := [(e2, .inl (cI, 480, .inl we))]) hE hX hA hP hD hS [2] (by decide) rfl rfl) rfl rfl hl.1 rfl (lv_room (Nat.le_of_ble_eq_true rfl)) d_SM_gather_10 ⟨Nat.le_of_ble_eq_true rfl, Nat.le_of_ble_eq_true rfl⟩) hP hD hS hA [2] [0, 1, 3, 4, 5, 6, 7, 8, 9] rfl rfl (by decide) (by decide) (fun u_r_1 H locs hr_1 hP hD hS => ?_)
  have hP : va_P D vwCl [(e0, .inr (4, [.ref e1, .ref e2, .ref e3, .ref e4, .ref e5, .ref e6, .int (nI 0)])), (e1, .inl (cI, 480, .inl lk)), (e6, .inl (cI, 40, .inl ne)), (f0, .inr (2, [.ref o1, .ref f1, .ref f2, .ref f3, .ref f4, .int np, .int ns, .int aw])), (f1, .inl (cI, 1764, .inl ce)), (o1, .inr (1, [.ref s1, .ref s2, .ref s3, .int ty, .int wa])), (s1, .inl (cI, 100, .inl st)), (s2, .inl (cI, 244, .inl sd)), (s3, .inl (cJ, 400, .inr (.inl be))), (e2, .inl (cI, 480, .inl (flI we (nI 0) 480)))] H := hP
  have hD : va_D A [(e0, .inr (4, [.ref e1, .ref e2, .ref e3, .ref e4, .ref e5, .ref e6, .int (nI 0)])), (e1, .inl (cI, 480, .inl lk)), (e6, .inl (cI, 40, .inl ne)), (f0, .inr (2, [.ref o1, .ref f1, .ref f2, .ref f3, .ref f4, .int np, .int ns, .int aw])), (f1, .inl (cI, 1764, .inl ce)), (o1, .inr (1, [.ref s1, .ref s2, .ref s3, .int ty, .int wa])), (s1, .inl (cI, 100, .inl st)), (s2, .inl (cI, 244, .inl sd)), (s3, .inl (cJ, 400, .inr (.inl be))), (e2, .inl (cI, 480, .inl (flI we (nI 0) 480)))] := hD
  refine lv_aload_n hx hb d_SM_gather_13 rfl (lv_at hl 0 rfl) ?_
  refine va_get (D := D) (ci := 4) (v := .ref e6) (C := R_SM) (T := T_SM) (N := 7) hx hb hw in_SM hown hE.1 hP 0 rfl rfl 5 (by decide) (hw _ kw_165) (fun _ h9 => h9) rfl d_SM_gather_14 ?_
  refine lv_iconst (v := (-1)) hx hb d_SM_gather_17 (by decide +kernel) ?_
  refine cl_v (wr := [(e0, .inr (4, [.ref e1, .ref e2, .ref e3, .ref e4, .ref e5, .ref e6, .int (nI 0)])), (e1, .inl (cI, 480, .inl lk)), (f0, .inr (2, [.ref o1, .ref f1, .ref f2, .ref f3, .ref f4, .int np, .int ns, .int aw])), (f1, .inl (cI, 1764, .inl ce)), (o1, .inr (1, [.ref s1, .ref s2, .ref s3, .int ty, .int wa])), (s1, .inl (cI, 100, .inl st)), (s2, .inl (cI, 244, .inl sd)), (s3, .inl (cJ, 400, .inr (.inl be))), (e2, .inl (cI, 480, .inl (flI we (nI 0) 480)))]) (va_runS (As := [.ref e6, .int (-1)]) (rest := []) ⟨hx, hb, hml, hown, hw⟩ (k_JA_fillI l D cI cJ e6 40 ne (-1) _ (by decide)) (va_cwS 2 hw (gS kw_707 kw_211 kw_54 kw_212) rfl rfl rfl (by decide +kernel) ⟨Nat.le_of_ble_eq_true rfl, Nat.le_of_ble_eq_true rfl⟩) (pre_Sw (wc := [(e6, .inl (cI, 40, .inl ne))]) hE hX hA hP hD hS [2] (by decide) rfl rfl) rfl rfl hl.1 rfl (lv_room (Nat.le_of_ble_eq_true rfl)) d_SM_gather_18 ⟨Nat.le_of_ble_eq_true rfl, Nat.le_of_ble_eq_true rfl⟩) hP hD hS hA [2] [0, 1, 3, 4, 5, 6, 7, 8, 9] rfl rfl (by decide) (by decide) (fun u_r_2 H locs hr_2 hP hD hS => ?_)
  have hP : va_P D vwCl [(e0, .inr (4, [.ref e1, .ref e2, .ref e3, .ref e4, .ref e5, .ref e6, .int (nI 0)])), (e1, .inl (cI, 480, .inl lk)), (f0, .inr (2, [.ref o1, .ref f1, .ref f2, .ref f3, .ref f4, .int np, .int ns, .int aw])), (f1, .inl (cI, 1764, .inl ce)), (o1, .inr (1, [.ref s1, .ref s2, .ref s3, .int ty, .int wa])), (s1, .inl (cI, 100, .inl st)), (s2, .inl (cI, 244, .inl sd)), (s3, .inl (cJ, 400, .inr (.inl be))), (e2, .inl (cI, 480, .inl (flI we (nI 0) 480))), (e6, .inl (cI, 40, .inl (flI ne (-1) 40)))] H := hP
  have hD : va_D A [(e0, .inr (4, [.ref e1, .ref e2, .ref e3, .ref e4, .ref e5, .ref e6, .int (nI 0)])), (e1, .inl (cI, 480, .inl lk)), (f0, .inr (2, [.ref o1, .ref f1, .ref f2, .ref f3, .ref f4, .int np, .int ns, .int aw])), (f1, .inl (cI, 1764, .inl ce)), (o1, .inr (1, [.ref s1, .ref s2, .ref s3, .int ty, .int wa])), (s1, .inl (cI, 100, .inl st)), (s2, .inl (cI, 244, .inl sd)), (s3, .inl (cJ, 400, .inr (.inl be))), (e2, .inl (cI, 480, .inl (flI we (nI 0) 480))), (e6, .inl (cI, 40, .inl (flI ne (-1) 40)))] := hD
  refine lv_iconst (v := nI 0) hx hb d_SM_gather_21 (by decide +kernel) ?_
  refine lv_istore_n (lv' := [(2, .int (nI 0)), (0, .ref e0), (1, .ref f0)]) hx hb d_SM_gather_22 rfl hl (by decide) rfl (fun ls hl => ?_)
  refine lp_k_SM_gather_23 e0 e1 e2 e3 e4 e5 e6 f0 f1 f2 f3 f4 o1 np ns aw s1 s2 s3 ty wa st sd be ce lk we ne n7 hce hsd hst hin hW9 hx hb hml hown hw hE hX hA (fun g9 hg hn9 H locs ls hP hD hS hl => ?_) ((1764 - 0) + 1) 0 (lk, flI we (nI 0) 480, flI ne (-1) 40, 0) (Nat.lt_succ_self _) (Nat.zero_le _) rfl (okN_m1 ne) (Nat.zero_le _) _ _ _ (hP.sub [0, 1, 8, 9, 2, 3, 4, 5, 6, 7] rfl) (hD.sub [0, 1, 8, 9, 2, 3, 4, 5, 6, 7] (by decide) rfl) hS (lv_sub hl [1, 2, 0] rfl)
  have hP9 := hP.sub (ws' := [(e0, .inr (4, [.ref e1, .ref e2, .ref e3, .ref e4, .ref e5, .ref e6, .int (nI g9.2.2.2)])), (e1, .inl (cI, 480, .inl g9.1)), (e2, .inl (cI, 480, .inl g9.2.1)), (e6, .inl (cI, 40, .inl g9.2.2.1)), (f0, .inr (2, [.ref o1, .ref f1, .ref f2, .ref f3, .ref f4, .int np, .int ns, .int aw])), (f1, .inl (cI, 1764, .inl ce)), (o1, .inr (1, [.ref s1, .ref s2, .ref s3, .int ty, .int wa])), (s1, .inl (cI, 100, .inl st)), (s2, .inl (cI, 244, .inl sd)), (s3, .inl (cJ, 400, .inr (.inl be)))]) [0, 1, 2, 3, 4, 5, 6, 7, 8, 9] rfl
  have hD9 := hD.sub (ws' := [(e0, .inr (4, [.ref e1, .ref e2, .ref e3, .ref e4, .ref e5, .ref e6, .int (nI g9.2.2.2)])), (e1, .inl (cI, 480, .inl g9.1)), (e2, .inl (cI, 480, .inl g9.2.1)), (e6, .inl (cI, 40, .inl g9.2.2.1)), (f0, .inr (2, [.ref o1, .ref f1, .ref f2, .ref f3, .ref f4, .int np, .int ns, .int aw])), (f1, .inl (cI, 1764, .inl ce)), (o1, .inr (1, [.ref s1, .ref s2, .ref s3, .int ty, .int wa])), (s1, .inl (cI, 100, .inl st)), (s2, .inl (cI, 244, .inl sd)), (s3, .inl (cJ, 400, .inr (.inl be)))]) [0, 1, 2, 3, 4, 5, 6, 7, 8, 9] (by decide) rfl
  exact W.vret hx hb hr (fun t9 ht hW => ⟨⟨g9, rfl, ⟨hg, hn9⟩, ⟨by rw [ht]; exact hP9, hD9⟩⟩, hS.F ht⟩) hS.2.2 d_SM_gather_122
