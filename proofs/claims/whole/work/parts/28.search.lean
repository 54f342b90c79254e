theorem d_SM_earlierOne_0 : decode c_SM_earlierOne 0 = .ok (.aload_n 0, 1) := by decide +kernel
theorem d_SM_earlierOne_1 : decode c_SM_earlierOne 1 = .ok (.getfield 21, 3) := by decide +kernel
theorem d_SM_earlierOne_4 : decode c_SM_earlierOne 4 = .ok (.iconst (-1), 1) := by decide +kernel
theorem d_SM_earlierOne_5 : decode c_SM_earlierOne 5 = .ok (.invokestatic 42, 3) := by decide +kernel
theorem d_SM_earlierOne_8 : decode c_SM_earlierOne 8 = .ok (.aload_n 0, 1) := by decide +kernel
theorem d_SM_earlierOne_9 : decode c_SM_earlierOne 9 = .ok (.getfield 21, 3) := by decide +kernel
theorem d_SM_earlierOne_12 : decode c_SM_earlierOne 12 = .ok (.iload_n 1, 1) := by decide +kernel
theorem d_SM_earlierOne_13 : decode c_SM_earlierOne 13 = .ok (.iconst 0, 1) := by decide +kernel
theorem d_SM_earlierOne_14 : decode c_SM_earlierOne 14 = .ok (.iastore, 1) := by decide +kernel
theorem d_SM_earlierOne_15 : decode c_SM_earlierOne 15 = .ok (.aload_n 0, 1) := by decide +kernel
theorem d_SM_earlierOne_16 : decode c_SM_earlierOne 16 = .ok (.getfield 24, 3) := by decide +kernel
theorem d_SM_earlierOne_19 : decode c_SM_earlierOne 19 = .ok (.iconst 0, 1) := by decide +kernel
theorem d_SM_earlierOne_20 : decode c_SM_earlierOne 20 = .ok (.iload_n 1, 1) := by decide +kernel
theorem d_SM_earlierOne_21 : decode c_SM_earlierOne 21 = .ok (.iastore, 1) := by decide +kernel
theorem d_SM_earlierOne_22 : decode c_SM_earlierOne 22 = .ok (.iconst 1, 1) := by decide +kernel
theorem d_SM_earlierOne_23 : decode c_SM_earlierOne 23 = .ok (.istore_n 2, 1) := by decide +kernel
theorem d_SM_earlierOne_24 : decode c_SM_earlierOne 24 = .ok (.iconst 0, 1) := by decide +kernel
theorem d_SM_earlierOne_25 : decode c_SM_earlierOne 25 = .ok (.istore_n 3, 1) := by decide +kernel
theorem d_SM_earlierOne_26 : decode c_SM_earlierOne 26 = .ok (.iload_n 3, 1) := by decide +kernel
theorem d_SM_earlierOne_27 : decode c_SM_earlierOne 27 = .ok (.aload_n 0, 1) := by decide +kernel
theorem d_SM_earlierOne_28 : decode c_SM_earlierOne 28 = .ok (.getfield 30, 3) := by decide +kernel
theorem d_SM_earlierOne_31 : decode c_SM_earlierOne 31 = .ok (.if_icmp .ge 109, 3) := by decide +kernel
theorem d_SM_earlierOne_34 : decode c_SM_earlierOne 34 = .ok (.iload_n 3, 1) := by decide +kernel
theorem d_SM_earlierOne_35 : decode c_SM_earlierOne 35 = .ok (.iload_n 2, 1) := by decide +kernel
theorem d_SM_earlierOne_36 : decode c_SM_earlierOne 36 = .ok (.if_icmp .ge 104, 3) := by decide +kernel
theorem d_SM_earlierOne_39 : decode c_SM_earlierOne 39 = .ok (.aload_n 0, 1) := by decide +kernel
theorem d_SM_earlierOne_40 : decode c_SM_earlierOne 40 = .ok (.getfield 24, 3) := by decide +kernel
theorem d_SM_earlierOne_43 : decode c_SM_earlierOne 43 = .ok (.iload_n 3, 1) := by decide +kernel
theorem d_SM_earlierOne_44 : decode c_SM_earlierOne 44 = .ok (.iaload, 1) := by decide +kernel
theorem d_SM_earlierOne_45 : decode c_SM_earlierOne 45 = .ok (.istore 4, 2) := by decide +kernel
theorem d_SM_earlierOne_47 : decode c_SM_earlierOne 47 = .ok (.iconst 0, 1) := by decide +kernel
theorem d_SM_earlierOne_48 : decode c_SM_earlierOne 48 = .ok (.istore 5, 2) := by decide +kernel
theorem d_SM_earlierOne_50 : decode c_SM_earlierOne 50 = .ok (.iload 5, 2) := by decide +kernel
theorem d_SM_earlierOne_52 : decode c_SM_earlierOne 52 = .ok (.iconst 4, 1) := by decide +kernel
theorem d_SM_earlierOne_53 : decode c_SM_earlierOne 53 = .ok (.if_icmp .ge 81, 3) := by decide +kernel
theorem d_SM_earlierOne_56 : decode c_SM_earlierOne 56 = .ok (.aload_n 0, 1) := by decide +kernel
theorem d_SM_earlierOne_57 : decode c_SM_earlierOne 57 = .ok (.getfield 9, 3) := by decide +kernel
theorem d_SM_earlierOne_60 : decode c_SM_earlierOne 60 = .ok (.iload 4, 2) := by decide +kernel
theorem d_SM_earlierOne_62 : decode c_SM_earlierOne 62 = .ok (.iconst 4, 1) := by decide +kernel
theorem d_SM_earlierOne_63 : decode c_SM_earlierOne 63 = .ok (.imul, 1) := by decide +kernel
theorem d_SM_earlierOne_64 : decode c_SM_earlierOne 64 = .ok (.iload 5, 2) := by decide +kernel
theorem d_SM_earlierOne_66 : decode c_SM_earlierOne 66 = .ok (.iadd, 1) := by decide +kernel
theorem d_SM_earlierOne_67 : decode c_SM_earlierOne 67 = .ok (.iaload, 1) := by decide +kernel
theorem d_SM_earlierOne_68 : decode c_SM_earlierOne 68 = .ok (.istore 6, 2) := by decide +kernel
theorem d_SM_earlierOne_70 : decode c_SM_earlierOne 70 = .ok (.aload_n 0, 1) := by decide +kernel
theorem d_SM_earlierOne_71 : decode c_SM_earlierOne 71 = .ok (.getfield 18, 3) := by decide +kernel
theorem d_SM_earlierOne_74 : decode c_SM_earlierOne 74 = .ok (.iload 4, 2) := by decide +kernel
theorem d_SM_earlierOne_76 : decode c_SM_earlierOne 76 = .ok (.iconst 4, 1) := by decide +kernel
theorem d_SM_earlierOne_77 : decode c_SM_earlierOne 77 = .ok (.imul, 1) := by decide +kernel
theorem d_SM_earlierOne_78 : decode c_SM_earlierOne 78 = .ok (.iload 5, 2) := by decide +kernel
theorem d_SM_earlierOne_80 : decode c_SM_earlierOne 80 = .ok (.iadd, 1) := by decide +kernel
theorem d_SM_earlierOne_81 : decode c_SM_earlierOne 81 = .ok (.iaload, 1) := by decide +kernel
theorem d_SM_earlierOne_82 : decode c_SM_earlierOne 82 = .ok (.ifCond .eq 46, 3) := by decide +kernel
theorem d_SM_earlierOne_85 : decode c_SM_earlierOne 85 = .ok (.aload_n 0, 1) := by decide +kernel
theorem d_SM_earlierOne_86 : decode c_SM_earlierOne 86 = .ok (.getfield 21, 3) := by decide +kernel
theorem d_SM_earlierOne_89 : decode c_SM_earlierOne 89 = .ok (.iload 6, 2) := by decide +kernel
theorem d_SM_earlierOne_91 : decode c_SM_earlierOne 91 = .ok (.iaload, 1) := by decide +kernel
theorem d_SM_earlierOne_92 : decode c_SM_earlierOne 92 = .ok (.iconst (-1), 1) := by decide +kernel
theorem d_SM_earlierOne_93 : decode c_SM_earlierOne 93 = .ok (.if_icmp .eq 6, 3) := by decide +kernel
theorem d_SM_earlierOne_96 : decode c_SM_earlierOne 96 = .ok (.goto 32, 3) := by decide +kernel
theorem d_SM_earlierOne_99 : decode c_SM_earlierOne 99 = .ok (.aload_n 0, 1) := by decide +kernel
theorem d_SM_earlierOne_100 : decode c_SM_earlierOne 100 = .ok (.getfield 21, 3) := by decide +kernel
theorem d_SM_earlierOne_103 : decode c_SM_earlierOne 103 = .ok (.iload 6, 2) := by decide +kernel
theorem d_SM_earlierOne_105 : decode c_SM_earlierOne 105 = .ok (.iload 5, 2) := by decide +kernel
theorem d_SM_earlierOne_107 : decode c_SM_earlierOne 107 = .ok (.iastore, 1) := by decide +kernel
theorem d_SM_earlierOne_108 : decode c_SM_earlierOne 108 = .ok (.iload 6, 2) := by decide +kernel
theorem d_SM_earlierOne_110 : decode c_SM_earlierOne 110 = .ok (.iload_n 1, 1) := by decide +kernel
theorem d_SM_earlierOne_111 : decode c_SM_earlierOne 111 = .ok (.if_icmp .ge 6, 3) := by decide +kernel
theorem d_SM_earlierOne_114 : decode c_SM_earlierOne 114 = .ok (.iload 6, 2) := by decide +kernel
theorem d_SM_earlierOne_116 : decode c_SM_earlierOne 116 = .ok (.ireturn, 1) := by decide +kernel
theorem d_SM_earlierOne_117 : decode c_SM_earlierOne 117 = .ok (.aload_n 0, 1) := by decide +kernel
theorem d_SM_earlierOne_118 : decode c_SM_earlierOne 118 = .ok (.getfield 24, 3) := by decide +kernel
theorem d_SM_earlierOne_121 : decode c_SM_earlierOne 121 = .ok (.iload_n 2, 1) := by decide +kernel
theorem d_SM_earlierOne_122 : decode c_SM_earlierOne 122 = .ok (.iload 6, 2) := by decide +kernel
theorem d_SM_earlierOne_124 : decode c_SM_earlierOne 124 = .ok (.iastore, 1) := by decide +kernel
theorem d_SM_earlierOne_125 : decode c_SM_earlierOne 125 = .ok (.iinc 2 1, 3) := by decide +kernel
theorem d_SM_earlierOne_128 : decode c_SM_earlierOne 128 = .ok (.iinc 5 1, 3) := by decide +kernel
theorem d_SM_earlierOne_131 : decode c_SM_earlierOne 131 = .ok (.goto (-81), 3) := by decide +kernel
theorem d_SM_earlierOne_134 : decode c_SM_earlierOne 134 = .ok (.iinc 3 1, 3) := by decide +kernel
theorem d_SM_earlierOne_137 : decode c_SM_earlierOne 137 = .ok (.goto (-111), 3) := by decide +kernel
theorem d_SM_earlierOne_140 : decode c_SM_earlierOne 140 = .ok (.iconst (-1), 1) := by decide +kernel
theorem d_SM_earlierOne_141 : decode c_SM_earlierOne 141 = .ok (.ireturn, 1) := by decide +kernel
theorem nI_m1 {k : Nat} (h : k < 2 ^ 31) : nI k ≠ -1 := by
  intro e
  have := congrArg Int32.toInt e
  rw [nI_toInt h] at this
  have h1 : (-1 : Int32).toInt = -1 := by decide
  rw [h1] at this
  omega
def itX {S : Type} (A : Nat → S → Option Nat × S) : Nat → Nat → S → Option Nat × S
  | 0, _, s => (none, s)
  | n + 1, i, s => match A i s with
    | (some r, s') => (some r, s')
    | (none, s') => itX A n (i + 1) s'
theorem itX_go {S : Type} {A : Nat → S → Option Nat × S} {n i : Nat} {s s' : S} (hn : 0 < n) (h : A i s = (none, s')) : itX A n i s = itX A (n - 1) (i + 1) s' := by
  obtain ⟨k, rfl⟩ : ∃ k, n = k + 1 := ⟨n - 1, by omega⟩
  rw [itX, h]
  rfl
theorem itX_no {S : Type} {A : Nat → S → Option Nat × S} {n i r : Nat} {s s' : S} (hn : 0 < n) (h : A i s = (some r, s')) : itX A n i s = (some r, s') := by
  obtain ⟨k, rfl⟩ : ∃ k, n = k + 1 := ⟨n - 1, by omega⟩
  rw [itX, h]
abbrev ES : Type := (Nat → Int32) × (Nat → Int32) × Nat
def eoA (lk rm : Nat → Int32) (fm ti si : Nat) (e : ES) : Option Nat × ES :=
  if rm (ti * 4 + si) = 0 then (none, e) else if e.1 (nn (lk (ti * 4 + si))) = -1 then
    (if nn (lk (ti * 4 + si)) < fm then (some (nn (lk (ti * 4 + si))), (upd e.1 (nn (lk (ti * 4 + si))) (nI si), e.2.1, e.2.2))
     else (none, (upd e.1 (nn (lk (ti * 4 + si))) (nI si), upd e.2.1 e.2.2 (nI (nn (lk (ti * 4 + si)))), e.2.2 + 1))) else (none, e)
def eoB (lk rm : Nat → Int32) (fm nk : Nat) (e : ES) : Option Nat × ES := if nk < e.2.2 then itX (eoA lk rm fm (nn (e.2.1 nk))) 4 0 e else (none, e)
theorem eoB_end {lk rm : Nat → Int32} {fm : Nat} {e : ES} : ∀ (n nk : Nat), e.2.2 ≤ nk → itX (eoB lk rm fm) n nk e = (none, e)
  | 0, _, _ => rfl
  | n + 1, nk, h => by
    rw [itX_go (s' := e) (by omega) (by unfold eoB; exact if_neg (by omega))]
    exact eoB_end n (nk + 1) (by omega)
def eoV (lk rm : Nat → Int32) (n fm : Nat) (ar qu : Nat → Int32) : Option Nat × ES := itX (eoB lk rm fm) n 0 (upd (flI ar (-1) 120) fm (nI 0), upd qu 0 (nI fm), 1)
def eoR (o : Option Nat) : Int32 := match o with | some t => nI t | none => -1
/-- links and weights of n tiles, from both their ends -/
def okLk (lk we : Nat → Int32) (n : Nat) : Prop := ∀ t k, t < n → k < 4 → we (t * 4 + k) ≠ 0 → ∃ u, u < n ∧ lk (t * 4 + k) = nI u ∧ lk (u * 4 + opp k) = nI t ∧ we (u * 4 + opp k) ≠ 0
def okRm (we rm : Nat → Int32) (n : Nat) : Prop := ∀ i, i < n * 4 → rm i ≠ 0 → we i ≠ 0
/-- each tile that the search came to has one from which it came -/
def okA (lk we ar : Nat → Int32) (n fm : Nat) : Prop := ∀ t, t < n → ar t ≠ -1 → t ≠ fm → ∃ k u, k < 4 ∧ u < n ∧ ar t = nI k ∧ lk (t * 4 + opp k) = nI u ∧ we (t * 4 + opp k) ≠ 0 ∧ we (u * 4 + k) ≠ 0 ∧ ar u ≠ -1
def cnA (ar : Nat → Int32) : Nat → Nat
  | 0 => 0
  | n + 1 => cnA ar n + (if ar n = -1 then 0 else 1)
theorem cnA_le (ar : Nat → Int32) : ∀ n, cnA ar n ≤ n
  | 0 => Nat.le_refl _
  | n + 1 => by
    have := cnA_le ar n
    unfold cnA
    split <;> omega
theorem cnA_same {ar : Nat → Int32} {u : Nat} {v : Int32} : ∀ {n}, n ≤ u → cnA (upd ar u v) n = cnA ar n
  | 0, _ => rfl
  | n + 1, h => by
    rw [cnA, cnA, cnA_same (by omega), show upd ar u v n = ar n from if_neg (by omega)]
theorem cnA_upd {ar : Nat → Int32} {u : Nat} {v : Int32} (hu : ar u = -1) (hv : v ≠ -1) : ∀ {n}, u < n → cnA (upd ar u v) n = cnA ar n + 1
  | 0, h => absurd h (Nat.not_lt_zero _)
  | n + 1, h => by
    rw [cnA, cnA]
    by_cases e : u = n
    · subst e
      rw [cnA_same (Nat.le_refl _), show upd ar u v u = v from if_pos rfl, if_neg hv, if_pos hu]
    · rw [cnA_upd hu hv (show u < n by omega), show upd ar u v n = ar n from if_neg (by omega)]
      omega
theorem cnA_fl (ar : Nat → Int32) : ∀ n, n ≤ 120 → cnA (flI ar (-1) 120) n = 0
  | 0, _ => rfl
  | n + 1, h => by
    rw [cnA, cnA_fl ar n (by omega), show flI ar (-1) 120 n = -1 from if_pos (by omega), if_pos rfl]
def okQ (lk we : Nat → Int32) (n fm : Nat) (e : ES) : Prop := okA lk we e.1 n fm ∧ (∀ j, j < e.2.2 → e.2.1 j = nI (nn (e.2.1 j)) ∧ nn (e.2.1 j) < n ∧ e.1 (nn (e.2.1 j)) ≠ -1) ∧ e.2.2 = cnA e.1 n ∧ e.1 fm ≠ -1
theorem okQ_init {lk we ar qu : Nat → Int32} {n fm : Nat} (hf : fm < n) (hn : n ≤ 120) : okQ lk we n fm (upd (flI ar (-1) 120) fm (nI 0), upd qu 0 (nI fm), 1) := by
  have h0 : nI 0 ≠ -1 := by decide +kernel
  refine ⟨fun t ht h1 h2 => ?_, fun j hj => ?_, ?_, ?_⟩
  · exact absurd (show upd (flI ar (-1) 120) fm (nI 0) t = -1 from by
      unfold upd flI
      rw [if_neg h2, if_pos (by omega)]) h1
  · have hj : j < 1 := hj
    obtain rfl : j = 0 := by omega
    have e : upd qu 0 (nI fm) 0 = nI fm := if_pos rfl
    show upd qu 0 (nI fm) 0 = nI (nn (upd qu 0 (nI fm) 0)) ∧ nn (upd qu 0 (nI fm) 0) < n ∧ upd (flI ar (-1) 120) fm (nI 0) (nn (upd qu 0 (nI fm) 0)) ≠ -1
    rw [e, nn_nI (by omega)]
    exact ⟨rfl, hf, by unfold upd; rw [if_pos rfl]; exact h0⟩
  · show 1 = cnA (upd (flI ar (-1) 120) fm (nI 0)) n
    rw [cnA_upd (by unfold flI; exact if_pos (by omega)) h0 hf, cnA_fl ar n hn]
  · show upd (flI ar (-1) 120) fm (nI 0) fm ≠ -1
    unfold upd
    rw [if_pos rfl]
    exact h0
theorem okA_step {lk we ar : Nat → Int32} {n fm ti si u : Nat} (h : okA lk we ar n fm) (hsi : si < 4) (hti : ti < n) (hta : ar ti ≠ -1) (hu : ar u = -1) (hl : lk (u * 4 + opp si) = nI ti) (hw1 : we (u * 4 + opp si) ≠ 0) (hw2 : we (ti * 4 + si) ≠ 0) : okA lk we (upd ar u (nI si)) n fm := by
  have hs : nI si ≠ -1 := nI_m1 (by omega)
  intro t ht h1 h2
  by_cases e : t = u
  · subst e
    refine ⟨si, ti, hsi, hti, if_pos rfl, hl, hw1, hw2, ?_⟩
    rw [show upd ar t (nI si) ti = ar ti from if_neg (fun z => hta (by rw [z]; exact hu))]
    exact hta
  · rw [show upd ar u (nI si) t = ar t from if_neg e] at h1
    obtain ⟨k, v, hk, hv, a1, a2, a3, a4, a5⟩ := h t ht h1 h2
    refine ⟨k, v, hk, hv, ?_, a2, a3, a4, ?_⟩
    · rw [show upd ar u (nI si) t = ar t from if_neg e]; exact a1
    · rw [show upd ar u (nI si) v = ar v from if_neg (fun z => a5 (by rw [z]; exact hu))]; exact a5
theorem okQ_step {lk we : Nat → Int32} {n fm ti si u : Nat} {e : ES} (h : okQ lk we n fm e) (hsi : si < 4) (hti : ti < n) (hta : e.1 ti ≠ -1) (hun : u < n) (hn : n ≤ 120) (hu : e.1 u = -1) (hl : lk (u * 4 + opp si) = nI ti) (hw1 : we (u * 4 + opp si) ≠ 0) (hw2 : we (ti * 4 + si) ≠ 0) :
    e.2.2 < n ∧ okQ lk we n fm (upd e.1 u (nI si), upd e.2.1 e.2.2 (nI u), e.2.2 + 1) := by
  have hs : nI si ≠ -1 := nI_m1 (by omega)
  obtain ⟨h1, h2, h3, h4⟩ := h
  have hc := cnA_upd hu hs hun
  have hle := cnA_le (upd e.1 u (nI si)) n
  have keep : ∀ t, e.1 t ≠ -1 → upd e.1 u (nI si) t ≠ -1 := fun t ht => by
    rw [show upd e.1 u (nI si) t = e.1 t from if_neg (fun z => ht (by rw [z]; exact hu))]
    exact ht
  refine ⟨by omega, okA_step h1 hsi hti hta hu hl hw1 hw2, fun j hj => ?_, ?_, keep fm h4⟩
  · have hj : j < e.2.2 + 1 := hj
    show upd e.2.1 e.2.2 (nI u) j = nI (nn (upd e.2.1 e.2.2 (nI u) j)) ∧ nn (upd e.2.1 e.2.2 (nI u) j) < n ∧ upd e.1 u (nI si) (nn (upd e.2.1 e.2.2 (nI u) j)) ≠ -1
    by_cases c : j = e.2.2
    · rw [show upd e.2.1 e.2.2 (nI u) j = nI u from if_pos c, nn_nI (by omega)]
      exact ⟨rfl, hun, by unfold upd; rw [if_pos rfl]; exact hs⟩
    · rw [show upd e.2.1 e.2.2 (nI u) j = e.2.1 j from if_neg c]
      have := h2 j (by omega)
      exact ⟨this.1, this.2.1, keep _ this.2.2⟩
  · show e.2.2 + 1 = cnA (upd e.1 u (nI si)) n
    rw [hc, h3]
set_option maxHeartbeats 4000000 in
set_option maxRecDepth 100000 in
theorem lp_k_SM_earlierOne_50 {p : Program} {l : Launch} {e : Env} {s : State} {m : MethodId} {args : Array Value} {below : List Frame} {meth : Method} {c : Code} {D : va_G} {cI cJ : ClassId} {Q : State → Prop} {A : Nat → Prop} (e0 : Nat) (e1 : Nat) (e2 : Nat) (e3 : Nat) (e4 : Nat) (e5 : Nat) (e6 : Nat) (n : Nat) (lk : Nat → Int32) (we : Nat → Int32) (rm : Nat → Int32) (ar : Nat → Int32) (qu : Nat → Int32) (fm : Nat) (hL : okLk lk we n) (hRm : okRm we rm n) (hfm : fm < n) (hn : n ≤ 120) (nk : Nat) (hnk : nk < 120) (ti : Nat) (hti : ti < n) (k0 : ES) (hx : p.tables.exec = Jvm.exec) (hb : c.code = c_SM_earlierOne) (hml : c.maxLocals = 7) (hown : s.vm.findClass R_SM = some m.cls) (hw : ∀ w ∈ gw, w.before args s = true) (hE : En D cI cJ s) (hX : Sx A s s.heap) (hA : ∀ q : Nat, s.heap.size ≤ q → A q)
    (kx0 : ∀ (tq9 : Nat) (e8 : ES), (itX (eoA lk rm fm ti) 4 0 k0 = (some tq9, e8)) → (okA lk we e8.1 n fm) → (tq9 < fm) → (e8.1 tq9 ≠ -1) → ∀ (H : Heap) (locs : List Loc) (ls : Array Slot), va_P D vwCl [(e0, .inr (4, [.ref e1, .ref e2, .ref e3, .ref e4, .ref e5, .ref e6, .int (nI n)])), (e1, .inl (cI, 480, .inl lk)), (e3, .inl (cI, 480, .inl rm)), (e4, .inl (cI, 120, .inl e8.1)), (e5, .inl (cI, 120, .inl e8.2.1))] H → va_D A [(e0, .inr (4, [.ref e1, .ref e2, .ref e3, .ref e4, .ref e5, .ref e6, .int (nI n)])), (e1, .inl (cI, 480, .inl lk)), (e3, .inl (cI, 480, .inl rm)), (e4, .inl (cI, 120, .inl e8.1)), (e5, .inl (cI, 120, .inl e8.2.1))] → va_S A s.heap H locs → lv_has ls 7 [(6, .int (nI tq9))] → W p l e ({ frames := 1, cells := 0, slots := 0, locals := 23 } : Room) s m args below meth c H locs 0 0 Q (F0 m 114 ls []))
    (kx1 : ∀ (e8 : ES), (itX (eoA lk rm fm ti) 4 0 k0 = (none, e8)) → (okQ lk we n fm e8) → ∀ (H : Heap) (locs : List Loc) (ls : Array Slot), va_P D vwCl [(e0, .inr (4, [.ref e1, .ref e2, .ref e3, .ref e4, .ref e5, .ref e6, .int (nI n)])), (e1, .inl (cI, 480, .inl lk)), (e3, .inl (cI, 480, .inl rm)), (e4, .inl (cI, 120, .inl e8.1)), (e5, .inl (cI, 120, .inl e8.2.1))] H → va_D A [(e0, .inr (4, [.ref e1, .ref e2, .ref e3, .ref e4, .ref e5, .ref e6, .int (nI n)])), (e1, .inl (cI, 480, .inl lk)), (e3, .inl (cI, 480, .inl rm)), (e4, .inl (cI, 120, .inl e8.1)), (e5, .inl (cI, 120, .inl e8.2.1))] → va_S A s.heap H locs → lv_has ls 7 [(0, .ref e0), (1, .int (nI fm)), (2, .int (nI e8.2.2)), (3, .int (nI nk))] → W p l e ({ frames := 1, cells := 0, slots := 0, locals := 23 } : Room) s m args below meth c H locs 0 0 Q (F0 m 134 ls [])) :
    ∀ (fu : Nat) (si : Nat) (e8 : ES), 4 - si < fu → (si ≤ 4) → (itX (eoA lk rm fm ti) (4 - si) si e8 = itX (eoA lk rm fm ti) 4 0 k0) → (okQ lk we n fm e8) → (e8.1 ti ≠ -1) → ∀ (H : Heap) (locs : List Loc) (ls : Array Slot), va_P D vwCl [(e0, .inr (4, [.ref e1, .ref e2, .ref e3, .ref e4, .ref e5, .ref e6, .int (nI n)])), (e1, .inl (cI, 480, .inl lk)), (e3, .inl (cI, 480, .inl rm)), (e4, .inl (cI, 120, .inl e8.1)), (e5, .inl (cI, 120, .inl e8.2.1))] H → va_D A [(e0, .inr (4, [.ref e1, .ref e2, .ref e3, .ref e4, .ref e5, .ref e6, .int (nI n)])), (e1, .inl (cI, 480, .inl lk)), (e3, .inl (cI, 480, .inl rm)), (e4, .inl (cI, 120, .inl e8.1)), (e5, .inl (cI, 120, .inl e8.2.1))] → va_S A s.heap H locs → lv_has ls 7 [(0, .ref e0), (1, .int (nI fm)), (2, .int (nI e8.2.2)), (3, .int (nI nk)), (4, .int (nI ti)), (5, .int (nI si))] → W p l e ({ frames := 1, cells := 0, slots := 0, locals := 23 } : Room) s m args below meth c H locs 0 0 Q (F0 m 50 ls []) := by
  intro fu
  induction fu with
  | zero =>
    intro si e8 h0
    exact absurd h0 (Nat.not_lt_zero _)
  | succ fu ih =>
    intro si e8 hmu hsi hR8 hS8 hta H locs ls hP hD hS hl
    have hcn := cnA_le e8.1 n
    have hcq := hS8.2.2.1
    refine lv_iload hx hb d_SM_earlierOne_50 (lv_at hl 5 rfl) ?_
    refine lv_iconst (v := nI 4) hx hb d_SM_earlierOne_52 (by decide +kernel) ?_
    refine jn_icmp_ge (tgt := 134) (a := si) (b := 4) hx hb d_SM_earlierOne_53 (by decide) (by omega) (by omega) (fun c_53 => ?_) (fun c_53 => ?_)
    · skip
      exact kx1 e8 (by rw [← hR8, show 4 - si = 0 by omega]; rfl) hS8 _ _ _ (hP.sub [0, 1, 2, 3, 4] rfl) (hD.sub [0, 1, 2, 3, 4] (by decide) rfl) hS (lv_sub hl [0, 1, 2, 3] rfl)
    · skip
      refine lv_aload_n hx hb d_SM_earlierOne_56 rfl (lv_at hl 0 rfl) ?_
      refine va_get (D := D) (ci := 4) (v := .ref e1) (C := R_SM) (T := T_SM) (N := 7) hx hb hw in_SM hown hE.1 hP 0 rfl rfl 0 (by decide) (hw _ kw_160) (fun _ h9 => h9) rfl d_SM_earlierOne_57 ?_
      refine lv_iload hx hb d_SM_earlierOne_60 (lv_at hl 4 rfl) ?_
      refine lv_iconst (v := nI 4) hx hb d_SM_earlierOne_62 (by decide +kernel) ?_
      refine jn_imul (a := ti) (b := 4) hx hb d_SM_earlierOne_63 ?_
      refine lv_iload hx hb d_SM_earlierOne_64 (lv_at hl 5 rfl) ?_
      refine jn_iadd (a := (ti * 4)) (b := si) hx hb d_SM_earlierOne_66 ?_
      refine jn_iald (k := ((ti * 4) + si)) hx hb hE.1 hP 1 0 rfl rfl (by omega) (by omega) d_SM_earlierOne_67 ?_
      refine lv_istore (lv' := [(6, .int (lk ((ti * 4) + si))), (0, .ref e0), (1, .int (nI fm)), (2, .int (nI e8.2.2)), (3, .int (nI nk)), (4, .int (nI ti)), (5, .int (nI si))]) hx hb d_SM_earlierOne_68 hl (by decide) rfl (fun ls hl => ?_)
      refine lv_aload_n hx hb d_SM_earlierOne_70 rfl (lv_at hl 1 rfl) ?_
      refine va_get (D := D) (ci := 4) (v := .ref e3) (C := R_SM) (T := T_SM) (N := 7) hx hb hw in_SM hown hE.1 hP 0 rfl rfl 2 (by decide) (hw _ kw_162) (fun _ h9 => h9) rfl d_SM_earlierOne_71 ?_
      refine lv_iload hx hb d_SM_earlierOne_74 (lv_at hl 5 rfl) ?_
      refine lv_iconst (v := nI 4) hx hb d_SM_earlierOne_76 (by decide +kernel) ?_
      refine jn_imul (a := ti) (b := 4) hx hb d_SM_earlierOne_77 ?_
      refine lv_iload hx hb d_SM_earlierOne_78 (lv_at hl 6 rfl) ?_
      refine jn_iadd (a := (ti * 4)) (b := si) hx hb d_SM_earlierOne_80 ?_
      refine jn_iald (k := ((ti * 4) + si)) hx hb hE.1 hP 2 0 rfl rfl (by omega) (by omega) d_SM_earlierOne_81 ?_
      refine lv_if_eq (tgt := 128) hx hb d_SM_earlierOne_82 (by decide) (fun c_82 => ?_) (fun c_82 => ?_)
      · skip
        refine lv_iinc (v := nI (si + 1)) (lv' := [(5, .int (nI (si + 1))), (6, .int (lk ((ti * 4) + si))), (0, .ref e0), (1, .int (nI fm)), (2, .int (nI e8.2.2)), (3, .int (nI nk)), (4, .int (nI ti))]) hx hb d_SM_earlierOne_128 hl (k := 6) rfl (jn_inc si 1) (by decide) rfl (fun ls hl => ?_)
        refine lv_goto (tgt := 50) hx hb d_SM_earlierOne_131 (by decide) ?_
        exact ih (si + 1) e8 (by omega) (by omega) (by rw [← hR8, show 4 - (si + 1) = 4 - si - 1 by omega]; exact (itX_go (by omega) (by show eoA lk rm fm ti si e8 = _; unfold eoA; rw [if_pos c_82])).symm) hS8 hta _ _ _ (hP.sub [0, 1, 2, 3, 4] rfl) (hD.sub [0, 1, 2, 3, 4] (by decide) rfl) hS (lv_sub hl [2, 3, 4, 5, 6, 0] rfl)
      · skip
        obtain ⟨u, hun, hlu, hlo, hwo⟩ := hL ti si hti (by omega) (hRm _ (by omega) c_82)
        rw [hlu] at hl
        refine lv_aload_n hx hb d_SM_earlierOne_85 rfl (lv_at hl 1 rfl) ?_
        refine va_get (D := D) (ci := 4) (v := .ref e4) (C := R_SM) (T := T_SM) (N := 7) hx hb hw in_SM hown hE.1 hP 0 rfl rfl 3 (by decide) (hw _ kw_163) (fun _ h9 => h9) rfl d_SM_earlierOne_86 ?_
        refine lv_iload hx hb d_SM_earlierOne_89 (lv_at hl 0 rfl) ?_
        refine jn_iald (k := u) hx hb hE.1 hP 3 0 rfl rfl (by omega) (by omega) d_SM_earlierOne_91 ?_
        refine lv_iconst (v := (-1)) hx hb d_SM_earlierOne_92 (by decide +kernel) ?_
        refine lv_icmp_eq (tgt := 99) hx hb d_SM_earlierOne_93 (by decide) (fun c_93 => ?_) (fun c_93 => ?_)
        · skip
          refine lv_aload_n hx hb d_SM_earlierOne_99 rfl (lv_at hl 1 rfl) ?_
          refine va_get (D := D) (ci := 4) (v := .ref e4) (C := R_SM) (T := T_SM) (N := 7) hx hb hw in_SM hown hE.1 hP 0 rfl rfl 3 (by decide) (hw _ kw_163) (fun _ h9 => h9) rfl d_SM_earlierOne_100 ?_
          refine lv_iload hx hb d_SM_earlierOne_103 (lv_at hl 0 rfl) ?_
          refine lv_iload hx hb d_SM_earlierOne_105 (lv_at hl 6 rfl) ?_
          refine jn_iast (k := u) hx hb hE.1 hP hD hS 3 0 rfl rfl (by omega) (by omega) d_SM_earlierOne_107 (fun H locs hP hD hS => ?_)
          have hP : va_P D vwCl [(e0, .inr (4, [.ref e1, .ref e2, .ref e3, .ref e4, .ref e5, .ref e6, .int (nI n)])), (e1, .inl (cI, 480, .inl lk)), (e3, .inl (cI, 480, .inl rm)), (e4, .inl (cI, 120, .inl (upd e8.1 u (nI si)))), (e5, .inl (cI, 120, .inl e8.2.1))] H := hP
          have hD : va_D A [(e0, .inr (4, [.ref e1, .ref e2, .ref e3, .ref e4, .ref e5, .ref e6, .int (nI n)])), (e1, .inl (cI, 480, .inl lk)), (e3, .inl (cI, 480, .inl rm)), (e4, .inl (cI, 120, .inl (upd e8.1 u (nI si)))), (e5, .inl (cI, 120, .inl e8.2.1))] := hD
          refine lv_iload hx hb d_SM_earlierOne_108 (lv_at hl 0 rfl) ?_
          refine lv_iload_n hx hb d_SM_earlierOne_110 rfl (lv_at hl 2 rfl) ?_
          refine jn_icmp_ge (tgt := 117) (a := u) (b := fm) hx hb d_SM_earlierOne_111 (by decide) (by omega) (by omega) (fun c_111 => ?_) (fun c_111 => ?_)
          · skip
            have hqn := (okQ_step hS8 (by omega) hti hta hun hn c_93 hlo hwo (hRm _ (by omega) c_82)).1
            refine lv_aload_n hx hb d_SM_earlierOne_117 rfl (lv_at hl 1 rfl) ?_
            refine va_get (D := D) (ci := 4) (v := .ref e5) (C := R_SM) (T := T_SM) (N := 7) hx hb hw in_SM hown hE.1 hP 0 rfl rfl 4 (by decide) (hw _ kw_164) (fun _ h9 => h9) rfl d_SM_earlierOne_118 ?_
            refine lv_iload_n hx hb d_SM_earlierOne_121 rfl (lv_at hl 3 rfl) ?_
            refine lv_iload hx hb d_SM_earlierOne_122 (lv_at hl 0 rfl) ?_
            refine jn_iast (k := e8.2.2) hx hb hE.1 hP hD hS 4 0 rfl rfl (by omega) (by omega) d_SM_earlierOne_124 (fun H locs hP hD hS => ?_)
            have hP : va_P D vwCl [(e0, .inr (4, [.ref e1, .ref e2, .ref e3, .ref e4, .ref e5, .ref e6, .int (nI n)])), (e1, .inl (cI, 480, .inl lk)), (e3, .inl (cI, 480, .inl rm)), (e4, .inl (cI, 120, .inl (upd e8.1 u (nI si)))), (e5, .inl (cI, 120, .inl (upd e8.2.1 e8.2.2 (nI u))))] H := hP
            have hD : va_D A [(e0, .inr (4, [.ref e1, .ref e2, .ref e3, .ref e4, .ref e5, .ref e6, .int (nI n)])), (e1, .inl (cI, 480, .inl lk)), (e3, .inl (cI, 480, .inl rm)), (e4, .inl (cI, 120, .inl (upd e8.1 u (nI si)))), (e5, .inl (cI, 120, .inl (upd e8.2.1 e8.2.2 (nI u))))] := hD
            refine lv_iinc (v := nI (e8.2.2 + 1)) (lv' := [(2, .int (nI (e8.2.2 + 1))), (6, .int (nI u)), (0, .ref e0), (1, .int (nI fm)), (3, .int (nI nk)), (4, .int (nI ti)), (5, .int (nI si))]) hx hb d_SM_earlierOne_125 hl (k := 3) rfl (jn_inc e8.2.2 1) (by decide) rfl (fun ls hl => ?_)
            refine lv_iinc (v := nI (si + 1)) (lv' := [(5, .int (nI (si + 1))), (2, .int (nI (e8.2.2 + 1))), (6, .int (nI u)), (0, .ref e0), (1, .int (nI fm)), (3, .int (nI nk)), (4, .int (nI ti))]) hx hb d_SM_earlierOne_128 hl (k := 6) rfl (jn_inc si 1) (by decide) rfl (fun ls hl => ?_)
            refine lv_goto (tgt := 50) hx hb d_SM_earlierOne_131 (by decide) ?_
            exact ih (si + 1) (upd e8.1 u (nI si), upd e8.2.1 e8.2.2 (nI u), e8.2.2 + 1) (by omega) (by omega) (by rw [← hR8, show 4 - (si + 1) = 4 - si - 1 by omega]; exact (itX_go (by omega) (by show eoA lk rm fm ti si e8 = _; unfold eoA; rw [if_neg c_82, hlu, nn_nI (show u < 2 ^ 31 by omega), if_pos c_93, if_neg (show ¬ u < fm by omega)])).symm) (okQ_step hS8 (by omega) hti hta hun hn c_93 hlo hwo (hRm _ (by omega) c_82)).2 (show upd e8.1 u (nI si) ti ≠ -1 from by rw [show upd e8.1 u (nI si) ti = e8.1 ti from if_neg (fun z => hta (by rw [z]; exact c_93))]; exact hta) _ _ _ (hP.sub [0, 1, 2, 3, 4] rfl) (hD.sub [0, 1, 2, 3, 4] (by decide) rfl) hS (lv_sub hl [3, 4, 1, 5, 6, 0] rfl)
          · skip
            exact kx0 u (upd e8.1 u (nI si), e8.2.1, e8.2.2) (by rw [← hR8]; exact itX_no (by omega) (by show eoA lk rm fm ti si e8 = _; unfold eoA; rw [if_neg c_82, hlu, nn_nI (show u < 2 ^ 31 by omega), if_pos c_93, if_pos (show u < fm by omega)])) (okA_step hS8.1 (by omega) hti hta c_93 hlo hwo (hRm _ (by omega) c_82)) (by omega) (show upd e8.1 u (nI si) u ≠ -1 from by unfold upd; rw [if_pos rfl]; exact nI_m1 (by omega)) _ _ _ (hP.sub [0, 1, 2, 3, 4] rfl) (hD.sub [0, 1, 2, 3, 4] (by decide) rfl) hS (lv_sub hl [0] rfl)
        · skip
          refine lv_goto (tgt := 128) hx hb d_SM_earlierOne_96 (by decide) ?_
          refine lv_iinc (v := nI (si + 1)) (lv' := [(5, .int (nI (si + 1))), (6, .int (nI u)), (0, .ref e0), (1, .int (nI fm)), (2, .int (nI e8.2.2)), (3, .int (nI nk)), (4, .int (nI ti))]) hx hb d_SM_earlierOne_128 hl (k := 6) rfl (jn_inc si 1) (by decide) rfl (fun ls hl => ?_)
          refine lv_goto (tgt := 50) hx hb d_SM_earlierOne_131 (by decide) ?_
          exact ih (si + 1) e8 (by omega) (by omega) (by rw [← hR8, show 4 - (si + 1) = 4 - si - 1 by omega]; exact (itX_go (by omega) (by show eoA lk rm fm ti si e8 = _; unfold eoA; rw [if_neg c_82, hlu, nn_nI (show u < 2 ^ 31 by omega), if_neg c_93])).symm) hS8 hta _ _ _ (hP.sub [0, 1, 2, 3, 4] rfl) (hD.sub [0, 1, 2, 3, 4] (by decide) rfl) hS (lv_sub hl [2, 3, 4, 5, 6, 0] rfl)
set_option maxHeartbeats 4000000 in
set_option maxRecDepth 100000 in
theorem lp_k_SM_earlierOne_26 {p : Program} {l : Launch} {e : Env} {s : State} {m : MethodId} {args : Array Value} {below : List Frame} {meth : Method} {c : Code} {D : va_G} {cI cJ : ClassId} {Q : State → Prop} {A : Nat → Prop} (e0 : Nat) (e1 : Nat) (e2 : Nat) (e3 : Nat) (e4 : Nat) (e5 : Nat) (e6 : Nat) (n : Nat) (lk : Nat → Int32) (we : Nat → Int32) (rm : Nat → Int32) (ar : Nat → Int32) (qu : Nat → Int32) (fm : Nat) (hL : okLk lk we n) (hRm : okRm we rm n) (hfm : fm < n) (hn : n ≤ 120)  (hx : p.tables.exec = Jvm.exec) (hb : c.code = c_SM_earlierOne) (hml : c.maxLocals = 7) (hown : s.vm.findClass R_SM = some m.cls) (hw : ∀ w ∈ gw, w.before args s = true) (hE : En D cI cJ s) (hX : Sx A s s.heap) (hA : ∀ q : Nat, s.heap.size ≤ q → A q)
    (kx0 : ∀ (tq9 : Nat) (e9 : ES), (itX (eoB lk rm fm) n 0 (upd (flI ar (-1) 120) fm (nI 0), upd qu 0 (nI fm), 1) = (some tq9, e9)) → (okA lk we e9.1 n fm) → (tq9 < fm) → (e9.1 tq9 ≠ -1) → ∀ (H : Heap) (locs : List Loc) (ls : Array Slot), va_P D vwCl [(e0, .inr (4, [.ref e1, .ref e2, .ref e3, .ref e4, .ref e5, .ref e6, .int (nI n)])), (e1, .inl (cI, 480, .inl lk)), (e3, .inl (cI, 480, .inl rm)), (e4, .inl (cI, 120, .inl e9.1)), (e5, .inl (cI, 120, .inl e9.2.1))] H → va_D A [(e0, .inr (4, [.ref e1, .ref e2, .ref e3, .ref e4, .ref e5, .ref e6, .int (nI n)])), (e1, .inl (cI, 480, .inl lk)), (e3, .inl (cI, 480, .inl rm)), (e4, .inl (cI, 120, .inl e9.1)), (e5, .inl (cI, 120, .inl e9.2.1))] → va_S A s.heap H locs → lv_has ls 7 [(6, .int (nI tq9))] → W p l e ({ frames := 1, cells := 0, slots := 0, locals := 23 } : Room) s m args below meth c H locs 0 0 Q (F0 m 114 ls []))
    (kx1 : ∀ (e9 : ES), (itX (eoB lk rm fm) n 0 (upd (flI ar (-1) 120) fm (nI 0), upd qu 0 (nI fm), 1) = (none, e9)) → (okA lk we e9.1 n fm) → ∀ (H : Heap) (locs : List Loc) (ls : Array Slot), va_P D vwCl [(e0, .inr (4, [.ref e1, .ref e2, .ref e3, .ref e4, .ref e5, .ref e6, .int (nI n)])), (e1, .inl (cI, 480, .inl lk)), (e3, .inl (cI, 480, .inl rm)), (e4, .inl (cI, 120, .inl e9.1)), (e5, .inl (cI, 120, .inl e9.2.1))] H → va_D A [(e0, .inr (4, [.ref e1, .ref e2, .ref e3, .ref e4, .ref e5, .ref e6, .int (nI n)])), (e1, .inl (cI, 480, .inl lk)), (e3, .inl (cI, 480, .inl rm)), (e4, .inl (cI, 120, .inl e9.1)), (e5, .inl (cI, 120, .inl e9.2.1))] → va_S A s.heap H locs → lv_has ls 7 [(0, .ref e0)] → W p l e ({ frames := 1, cells := 0, slots := 0, locals := 23 } : Room) s m args below meth c H locs 0 0 Q (F0 m 140 ls [])) :
    ∀ (fu : Nat) (nk : Nat) (e9 : ES), n - nk < fu → (nk ≤ n) → (itX (eoB lk rm fm) (n - nk) nk e9 = itX (eoB lk rm fm) n 0 (upd (flI ar (-1) 120) fm (nI 0), upd qu 0 (nI fm), 1)) → (okQ lk we n fm e9) → ∀ (H : Heap) (locs : List Loc) (ls : Array Slot), va_P D vwCl [(e0, .inr (4, [.ref e1, .ref e2, .ref e3, .ref e4, .ref e5, .ref e6, .int (nI n)])), (e1, .inl (cI, 480, .inl lk)), (e3, .inl (cI, 480, .inl rm)), (e4, .inl (cI, 120, .inl e9.1)), (e5, .inl (cI, 120, .inl e9.2.1))] H → va_D A [(e0, .inr (4, [.ref e1, .ref e2, .ref e3, .ref e4, .ref e5, .ref e6, .int (nI n)])), (e1, .inl (cI, 480, .inl lk)), (e3, .inl (cI, 480, .inl rm)), (e4, .inl (cI, 120, .inl e9.1)), (e5, .inl (cI, 120, .inl e9.2.1))] → va_S A s.heap H locs → lv_has ls 7 [(0, .ref e0), (1, .int (nI fm)), (2, .int (nI e9.2.2)), (3, .int (nI nk))] → W p l e ({ frames := 1, cells := 0, slots := 0, locals := 23 } : Room) s m args below meth c H locs 0 0 Q (F0 m 26 ls []) := by
  intro fu
  induction fu with
  | zero =>
    intro nk e9 h0
    exact absurd h0 (Nat.not_lt_zero _)
  | succ fu ih =>
    intro nk e9 hmu hnk hR hS9 H locs ls hP hD hS hl
    have hcn := cnA_le e9.1 n
    have hcq := hS9.2.2.1
    refine lv_iload_n hx hb d_SM_earlierOne_26 rfl (lv_at hl 3 rfl) ?_
    refine lv_aload_n hx hb d_SM_earlierOne_27 rfl (lv_at hl 0 rfl) ?_
    refine va_get (D := D) (ci := 4) (v := .int (nI n)) (C := R_SM) (T := T_SM) (N := 7) hx hb hw in_SM hown hE.1 hP 0 rfl rfl 6 (by decide) (hw _ kw_166) (fun _ h9 => h9) rfl d_SM_earlierOne_28 ?_
    refine jn_icmp_ge (tgt := 140) (a := nk) (b := n) hx hb d_SM_earlierOne_31 (by decide) (by omega) (by omega) (fun c_31 => ?_) (fun c_31 => ?_)
    · skip
      exact kx1 e9 (by rw [← hR, show n - nk = 0 by omega]; rfl) hS9.1 _ _ _ (hP.sub [0, 1, 2, 3, 4] rfl) (hD.sub [0, 1, 2, 3, 4] (by decide) rfl) hS (lv_sub hl [0] rfl)
    · skip
      refine lv_iload_n hx hb d_SM_earlierOne_34 rfl (lv_at hl 3 rfl) ?_
      refine lv_iload_n hx hb d_SM_earlierOne_35 rfl (lv_at hl 2 rfl) ?_
      refine jn_icmp_ge (tgt := 140) (a := nk) (b := e9.2.2) hx hb d_SM_earlierOne_36 (by decide) (by omega) (by omega) (fun c_36 => ?_) (fun c_36 => ?_)
      · skip
        exact kx1 e9 (by rw [← hR]; exact eoB_end _ _ (by omega)) hS9.1 _ _ _ (hP.sub [0, 1, 2, 3, 4] rfl) (hD.sub [0, 1, 2, 3, 4] (by decide) rfl) hS (lv_sub hl [0] rfl)
      · skip
        refine lv_aload_n hx hb d_SM_earlierOne_39 rfl (lv_at hl 0 rfl) ?_
        refine va_get (D := D) (ci := 4) (v := .ref e5) (C := R_SM) (T := T_SM) (N := 7) hx hb hw in_SM hown hE.1 hP 0 rfl rfl 4 (by decide) (hw _ kw_164) (fun _ h9 => h9) rfl d_SM_earlierOne_40 ?_
        refine lv_iload_n hx hb d_SM_earlierOne_43 rfl (lv_at hl 3 rfl) ?_
        refine jn_iald (k := nk) hx hb hE.1 hP 4 0 rfl rfl (by omega) (by omega) d_SM_earlierOne_44 ?_
        refine W.eq (g2 := F0 m 45 ls [.int (nI (nn (e9.2.1 nk)))]) (by rw [← (hS9.2.1 nk (by omega)).1]) ?_
        refine lv_istore (lv' := [(4, .int (nI (nn (e9.2.1 nk)))), (0, .ref e0), (1, .int (nI fm)), (2, .int (nI e9.2.2)), (3, .int (nI nk))]) hx hb d_SM_earlierOne_45 hl (by decide) rfl (fun ls hl => ?_)
        refine lv_iconst (v := nI 0) hx hb d_SM_earlierOne_47 (by decide +kernel) ?_
        refine lv_istore (lv' := [(5, .int (nI 0)), (4, .int (nI (nn (e9.2.1 nk)))), (0, .ref e0), (1, .int (nI fm)), (2, .int (nI e9.2.2)), (3, .int (nI nk))]) hx hb d_SM_earlierOne_48 hl (by decide) rfl (fun ls hl => ?_)
        refine lp_k_SM_earlierOne_50 e0 e1 e2 e3 e4 e5 e6 n lk we rm ar qu fm hL hRm hfm hn nk (by omega) (nn (e9.2.1 nk)) (hS9.2.1 nk (by omega)).2.1 e9 hx hb hml hown hw hE hX hA (fun tq9 e8 hR8 hA9 ht9 hv9 H locs ls hP hD hS hl => ?_) (fun e8 hR8 hS8 H locs ls hP hD hS hl => ?_) ((4 - 0) + 1) 0 e9 (Nat.lt_succ_self _) (Nat.zero_le _) rfl hS9 (hS9.2.1 nk (by omega)).2.2 _ _ _ (hP.sub [0, 1, 2, 3, 4] rfl) (hD.sub [0, 1, 2, 3, 4] (by decide) rfl) hS (lv_sub hl [2, 3, 4, 5, 1, 0] rfl)
        · skip
          exact kx0 tq9 e8 (by rw [← hR]; exact itX_no (by omega) (show eoB lk rm fm nk e9 = (some tq9, e8) from by unfold eoB; rw [if_pos (show nk < e9.2.2 by omega)]; exact hR8)) hA9 ht9 hv9 _ _ _ (hP.sub [0, 1, 2, 3, 4] rfl) (hD.sub [0, 1, 2, 3, 4] (by decide) rfl) hS (lv_sub hl [0] rfl)
        · skip
          refine lv_iinc (v := nI (nk + 1)) (lv' := [(3, .int (nI (nk + 1))), (0, .ref e0), (1, .int (nI fm)), (2, .int (nI e8.2.2))]) hx hb d_SM_earlierOne_134 hl (k := 3) rfl (jn_inc nk 1) (by decide) rfl (fun ls hl => ?_)
          refine lv_goto (tgt := 26) hx hb d_SM_earlierOne_137 (by decide) ?_
          exact ih (nk + 1) e8 (by omega) (by omega) (by rw [← hR, show n - (nk + 1) = n - nk - 1 by omega]; exact (itX_go (by omega) (show eoB lk rm fm nk e9 = (none, e8) from by unfold eoB; rw [if_pos (show nk < e9.2.2 by omega)]; exact hR8)).symm) hS8 _ _ _ (hP.sub [0, 1, 2, 3, 4] rfl) (hD.sub [0, 1, 2, 3, 4] (by decide) rfl) hS (lv_sub hl [1, 2, 3, 0] rfl)
set_option maxHeartbeats 4000000 in
set_option maxRecDepth 100000 in
/-- earlierOne -/
theorem k_SM_earlierOne (l : Launch) (D : va_G) (cI cJ : ClassId) (e0 : Nat) (e1 : Nat) (e2 : Nat) (e3 : Nat) (e4 : Nat) (e5 : Nat) (e6 : Nat) (n : Nat) (lk : Nat → Int32) (we : Nat → Int32) (rm : Nat → Int32) (ar : Nat → Int32) (qu : Nat → Int32) (fm : Nat) (sz : Nat) (hL : okLk lk we n) (hRm : okRm we rm n) (hfm : fm < n) (hn : n ≤ 120) : Met l y_SM_earlierOne ws_SM_earlierOne ({ frames := 1, cells := 0, slots := 0, locals := 23 } : Room) (va_Pc [.ref e0, .int (nI fm)] (Pw D cI cJ [(e0, .inr (4, [.ref e1, .ref e2, .ref e3, .ref e4, .ref e5, .ref e6, .int (nI n)])), (e1, .inl (cI, 480, .inl lk)), (e3, .inl (cI, 480, .inl rm)), (e4, .inl (cI, 120, .inl ar)), (e5, .inl (cI, 120, .inl qu))] sz)) (va_Qi (fun (r : Int32) (u9 : ES) => ∃ o : Option Nat, r = eoR o ∧ (o, u9) = eoV lk rm n fm ar qu ∧ okA lk we u9.1 n fm ∧ ∀ t, o = some t → t < fm ∧ u9.1 t ≠ -1) (fun u9 t9 => Bw D (va_A [(e0, .inr (4, [.ref e1, .ref e2, .ref e3, .ref e4, .ref e5, .ref e6, .int (nI n)])), (e1, .inl (cI, 480, .inl lk)), (e3, .inl (cI, 480, .inl rm)), (e4, .inl (cI, 120, .inl ar)), (e5, .inl (cI, 120, .inl qu))] sz) [(e0, .inr (4, [.ref e1, .ref e2, .ref e3, .ref e4, .ref e5, .ref e6, .int (nI n)])), (e1, .inl (cI, 480, .inl lk)), (e3, .inl (cI, 480, .inl rm)), (e4, .inl (cI, 120, .inl u9.1)), (e5, .inl (cI, 120, .inl u9.2.1))] t9) (va_A [(e0, .inr (4, [.ref e1, .ref e2, .ref e3, .ref e4, .ref e5, .ref e6, .int (nI n)])), (e1, .inl (cI, 480, .inl lk)), (e3, .inl (cI, 480, .inl rm)), (e4, .inl (cI, 120, .inl ar)), (e5, .inl (cI, 120, .inl qu))] sz)) 0 0 (va_A [(e0, .inr (4, [.ref e1, .ref e2, .ref e3, .ref e4, .ref e5, .ref e6, .int (nI n)])), (e1, .inl (cI, 480, .inl lk)), (e3, .inl (cI, 480, .inl rm)), (e4, .inl (cI, 120, .inl ar)), (e5, .inl (cI, 120, .inl qu))] sz) := by
  refine Met.ofW (cc := c_SM_earlierOne) (maxL := 7) (ret := (some .int)) (by decide) rfl ?_
  intro p e s m args below meth c s₁ B hml hv
  obtain ⟨rfl, hsz, hE, hP, hD0, hX⟩ := hv
  have hx := B.exec
  have hb := B.bytes
  have hr := B.returns
  have hw : ∀ w ∈ gw, w.before _ s = true := fun w h => atoms_spec (ws := ws_SM_earlierOne) B.pre w (List.mem_cons_of_mem _ h)
  have hown : s.vm.findClass R_SM = some m.cls := findClass_of_methodNamed B.named
  have hlocks := B.notSynchronized
  subst hsz
  have hD := hD0.self (sz := s.heap.size)
  generalize hAe : va_A [(e0, .inr (4, [.ref e1, .ref e2, .ref e3, .ref e4, .ref e5, .ref e6, .int (nI n)])), (e1, .inl (cI, 480, .inl lk)), (e3, .inl (cI, 480, .inl rm)), (e4, .inl (cI, 120, .inl ar)), (e5, .inl (cI, 120, .inl qu))] s.heap.size = A at hD hX ⊢
  have hA : ∀ q : Nat, s.heap.size ≤ q → A q := fun q h => by rw [← hAe]; exact Or.inr h
  have hS : va_S A s.heap s.heap [] := va_S.rf
  have hP : va_P D vwCl [(e0, .inr (4, [.ref e1, .ref e2, .ref e3, .ref e4, .ref e5, .ref e6, .int (nI n)])), (e1, .inl (cI, 480, .inl lk)), (e3, .inl (cI, 480, .inl rm)), (e4, .inl (cI, 120, .inl ar)), (e5, .inl (cI, 120, .inl qu))] s.heap := hP
  have hl := lv_entry ([.ref e0, .int (nI fm)]) (n := 7) (Nat.le_of_ble_eq_true rfl)
  rw [lg_entry_eq]
  generalize (lg_sl ([.ref e0, .int (nI fm)]) ++ List.replicate (7 - (lg_sl ([.ref e0, .int (nI fm)])).length) Slot.unset).toArray = ls at hl ⊢
  have hl : lv_has ls 7 [(0, .ref e0), (1, .int (nI fm))] := hl
  refine lv_aload_n hx hb d_SM_earlierOne_0 rfl (lv_at hl 0 rfl) ?_
  refine va_get (D := D) (ci := 4) (v := .ref e4) (C := R_SM) (T := T_SM) (N := 7) hx hb hw in_SM hown hE.1 hP 0 rfl rfl 3 (by decide) (hw _ kw_163) (fun _ h9 => h9) rfl d_SM_earlierOne_1 ?_
  refine lv_iconst (v := (-1)) hx hb d_SM_earlierOne_4 (by decide +kernel) ?_
  refine cl_v (wr := [(e0, .inr (4, [.ref e1, .ref e2, .ref e3, .ref e4, .ref e5, .ref e6, .int (nI n)])), (e1, .inl (cI, 480, .inl lk)), (e3, .inl (cI, 480, .inl rm)), (e5, .inl (cI, 120, .inl qu))]) (va_runS (As := [.ref e4, .int (-1)]) (rest := []) ⟨hx, hb, hml, hown, hw⟩ (k_JA_fillI l D cI cJ e4 120 ar (-1) _ (by decide)) (va_cwS 2 hw (gS kw_707 kw_211 kw_54 kw_212) rfl rfl rfl (by decide +kernel) ⟨Nat.le_of_ble_eq_true rfl, Nat.le_of_ble_eq_true rfl⟩) (pre_Sw (wc := [(e4, .inl (cI, 120, .inl ar))]) hE hX hA hP hD hS [3] (by decide) rfl rfl) rfl rfl hl.1 rfl (lv_room (Nat.le_of_ble_eq_true rfl)) d_SM_earlierOne_5 ⟨Nat.le_of_ble_eq_true rfl, Nat.le_of_ble_eq_true rfl⟩) hP hD hS hA [3] [0, 1, 2, 4] rfl rfl (by decide) (by decide) (fun u_r_1 H locs hr_1 hP hD hS => ?_)
  have hP : va_P D vwCl [(e0, .inr (4, [.ref e1, .ref e2, .ref e3, .ref e4, .ref e5, .ref e6, .int (nI n)])), (e1, .inl (cI, 480, .inl lk)), (e3, .inl (cI, 480, .inl rm)), (e5, .inl (cI, 120, .inl qu)), (e4, .inl (cI, 120, .inl (flI ar (-1) 120)))] H := hP
  have hD : va_D A [(e0, .inr (4, [.ref e1, .ref e2, .ref e3, .ref e4, .ref e5, .ref e6, .int (nI n)])), (e1, .inl (cI, 480, .inl lk)), (e3, .inl (cI, 480, .inl rm)), (e5, .inl (cI, 120, .inl qu)), (e4, .inl (cI, 120, .inl (flI ar (-1) 120)))] := hD
  refine lv_aload_n hx hb d_SM_earlierOne_8 rfl (lv_at hl 0 rfl) ?_
  refine va_get (D := D) (ci := 4) (v := .ref e4) (C := R_SM) (T := T_SM) (N := 7) hx hb hw in_SM hown hE.1 hP 0 rfl rfl 3 (by decide) (hw _ kw_163) (fun _ h9 => h9) rfl d_SM_earlierOne_9 ?_
  refine lv_iload_n hx hb d_SM_earlierOne_12 rfl (lv_at hl 1 rfl) ?_
  refine lv_iconst (v := nI 0) hx hb d_SM_earlierOne_13 (by decide +kernel) ?_
  refine jn_iast (k := fm) hx hb hE.1 hP hD hS 4 0 rfl rfl (by omega) (by omega) d_SM_earlierOne_14 (fun H locs hP hD hS => ?_)
  have hP : va_P D vwCl [(e0, .inr (4, [.ref e1, .ref e2, .ref e3, .ref e4, .ref e5, .ref e6, .int (nI n)])), (e1, .inl (cI, 480, .inl lk)), (e3, .inl (cI, 480, .inl rm)), (e5, .inl (cI, 120, .inl qu)), (e4, .inl (cI, 120, .inl (upd (flI ar (-1) 120) fm (nI 0))))] H := hP
  have hD : va_D A [(e0, .inr (4, [.ref e1, .ref e2, .ref e3, .ref e4, .ref e5, .ref e6, .int (nI n)])), (e1, .inl (cI, 480, .inl lk)), (e3, .inl (cI, 480, .inl rm)), (e5, .inl (cI, 120, .inl qu)), (e4, .inl (cI, 120, .inl (upd (flI ar (-1) 120) fm (nI 0))))] := hD
  refine lv_aload_n hx hb d_SM_earlierOne_15 rfl (lv_at hl 0 rfl) ?_
  refine va_get (D := D) (ci := 4) (v := .ref e5) (C := R_SM) (T := T_SM) (N := 7) hx hb hw in_SM hown hE.1 hP 0 rfl rfl 4 (by decide) (hw _ kw_164) (fun _ h9 => h9) rfl d_SM_earlierOne_16 ?_
  refine lv_iconst (v := nI 0) hx hb d_SM_earlierOne_19 (by decide +kernel) ?_
  refine lv_iload_n hx hb d_SM_earlierOne_20 rfl (lv_at hl 1 rfl) ?_
  refine jn_iast (k := 0) hx hb hE.1 hP hD hS 3 0 rfl rfl (by omega) (by omega) d_SM_earlierOne_21 (fun H locs hP hD hS => ?_)
  have hP : va_P D vwCl [(e0, .inr (4, [.ref e1, .ref e2, .ref e3, .ref e4, .ref e5, .ref e6, .int (nI n)])), (e1, .inl (cI, 480, .inl lk)), (e3, .inl (cI, 480, .inl rm)), (e5, .inl (cI, 120, .inl (upd qu 0 (nI fm)))), (e4, .inl (cI, 120, .inl (upd (flI ar (-1) 120) fm (nI 0))))] H := hP
  have hD : va_D A [(e0, .inr (4, [.ref e1, .ref e2, .ref e3, .ref e4, .ref e5, .ref e6, .int (nI n)])), (e1, .inl (cI, 480, .inl lk)), (e3, .inl (cI, 480, .inl rm)), (e5, .inl (cI, 120, .inl (upd qu 0 (nI fm)))), (e4, .inl (cI, 120, .inl (upd (flI ar (-1) 120) fm (nI 0))))] := hD
  refine lv_iconst (v := nI 1) hx hb d_SM_earlierOne_22 (by decide +kernel) ?_
  refine lv_istore_n (lv' := [(2, .int (nI 1)), (0, .ref e0), (1, .int (nI fm))]) hx hb d_SM_earlierOne_23 rfl hl (by decide) rfl (fun ls hl => ?_)
  refine lv_iconst (v := nI 0) hx hb d_SM_earlierOne_24 (by decide +kernel) ?_
  refine lv_istore_n (lv' := [(3, .int (nI 0)), (2, .int (nI 1)), (0, .ref e0), (1, .int (nI fm))]) hx hb d_SM_earlierOne_25 rfl hl (by decide) rfl (fun ls hl => ?_)
  refine lp_k_SM_earlierOne_26 e0 e1 e2 e3 e4 e5 e6 n lk we rm ar qu fm hL hRm hfm hn hx hb hml hown hw hE hX hA (fun tq9 e9 hR hA9 ht9 hv9 H locs ls hP hD hS hl => ?_) (fun e9 hR hA9 H locs ls hP hD hS hl => ?_) ((n - 0) + 1) 0 (upd (flI ar (-1) 120) fm (nI 0), upd qu 0 (nI fm), 1) (Nat.lt_succ_self _) (Nat.zero_le _) rfl (okQ_init hfm hn) _ _ _ (hP.sub [0, 1, 2, 4, 3] rfl) (hD.sub [0, 1, 2, 4, 3] (by decide) rfl) hS (lv_sub hl [2, 3, 1, 0] rfl)
  · skip
    refine lv_iload hx hb d_SM_earlierOne_114 (lv_at hl 0 rfl) ?_
    have hP9 := hP.sub (ws' := [(e0, .inr (4, [.ref e1, .ref e2, .ref e3, .ref e4, .ref e5, .ref e6, .int (nI n)])), (e1, .inl (cI, 480, .inl lk)), (e3, .inl (cI, 480, .inl rm)), (e4, .inl (cI, 120, .inl e9.1)), (e5, .inl (cI, 120, .inl e9.2.1))]) [0, 1, 2, 3, 4] rfl
    have hD9 := hD.sub (ws' := [(e0, .inr (4, [.ref e1, .ref e2, .ref e3, .ref e4, .ref e5, .ref e6, .int (nI n)])), (e1, .inl (cI, 480, .inl lk)), (e3, .inl (cI, 480, .inl rm)), (e4, .inl (cI, 120, .inl e9.1)), (e5, .inl (cI, 120, .inl e9.2.1))]) [0, 1, 2, 3, 4] (by decide) rfl
    exact W.iret (v := nI tq9) hx hb hr (fun t9 ht hW => ⟨⟨_, e9, rfl, ⟨some tq9, rfl, hR.symm, hA9, fun t h => by cases h; exact ⟨ht9, hv9⟩⟩, ⟨by rw [ht]; exact hP9, hD9⟩⟩, hS.F ht⟩) hS.2.2 d_SM_earlierOne_116
  · skip
    refine lv_iconst (v := (-1)) hx hb d_SM_earlierOne_140 (by decide +kernel) ?_
    have hP9 := hP.sub (ws' := [(e0, .inr (4, [.ref e1, .ref e2, .ref e3, .ref e4, .ref e5, .ref e6, .int (nI n)])), (e1, .inl (cI, 480, .inl lk)), (e3, .inl (cI, 480, .inl rm)), (e4, .inl (cI, 120, .inl e9.1)), (e5, .inl (cI, 120, .inl e9.2.1))]) [0, 1, 2, 3, 4] rfl
    have hD9 := hD.sub (ws' := [(e0, .inr (4, [.ref e1, .ref e2, .ref e3, .ref e4, .ref e5, .ref e6, .int (nI n)])), (e1, .inl (cI, 480, .inl lk)), (e3, .inl (cI, 480, .inl rm)), (e4, .inl (cI, 120, .inl e9.1)), (e5, .inl (cI, 120, .inl e9.2.1))]) [0, 1, 2, 3, 4] (by decide) rfl
    exact W.iret (v := (-1)) hx hb hr (fun t9 ht hW => ⟨⟨_, e9, rfl, ⟨none, rfl, hR.symm, hA9, fun t h => by cases h⟩, ⟨by rw [ht]; exact hP9, hD9⟩⟩, hS.F ht⟩) hS.2.2 d_SM_earlierOne_141
