theorem d_MD_grow_0 : decode c_MD_grow 0 = .ok (.aload_n 0, 1) := by decide +kernel
theorem d_MD_grow_1 : decode c_MD_grow 1 = .ok (.iload_n 1, 1) := by decide +kernel
theorem d_MD_grow_2 : decode c_MD_grow 2 = .ok (.ifCond .ge 7, 3) := by decide +kernel
theorem d_MD_grow_5 : decode c_MD_grow 5 = .ok (.iconst 1, 1) := by decide +kernel
theorem d_MD_grow_6 : decode c_MD_grow 6 = .ok (.goto 4, 3) := by decide +kernel
theorem d_MD_grow_9 : decode c_MD_grow 9 = .ok (.iconst 0, 1) := by decide +kernel
theorem d_MD_grow_10 : decode c_MD_grow 10 = .ok (.iconst 1, 1) := by decide +kernel
theorem d_MD_grow_11 : decode c_MD_grow 11 = .ok (.invokevirtual 105, 3) := by decide +kernel
theorem d_MD_grow_14 : decode c_MD_grow 14 = .ok (.ifCond .eq 5, 3) := by decide +kernel
theorem d_MD_grow_17 : decode c_MD_grow 17 = .ok (.iconst 0, 1) := by decide +kernel
theorem d_MD_grow_18 : decode c_MD_grow 18 = .ok (.ireturn, 1) := by decide +kernel
theorem d_MD_grow_19 : decode c_MD_grow 19 = .ok (.iconst 0, 1) := by decide +kernel
theorem d_MD_grow_20 : decode c_MD_grow 20 = .ok (.istore_n 2, 1) := by decide +kernel
theorem d_MD_grow_21 : decode c_MD_grow 21 = .ok (.iload_n 2, 1) := by decide +kernel
theorem d_MD_grow_22 : decode c_MD_grow 22 = .ok (.iload_n 1, 1) := by decide +kernel
theorem d_MD_grow_23 : decode c_MD_grow 23 = .ok (.if_icmp .ge 33, 3) := by decide +kernel
theorem d_MD_grow_26 : decode c_MD_grow 26 = .ok (.aload_n 0, 1) := by decide +kernel
theorem d_MD_grow_27 : decode c_MD_grow 27 = .ok (.aload_n 0, 1) := by decide +kernel
theorem d_MD_grow_28 : decode c_MD_grow 28 = .ok (.getfield 20, 3) := by decide +kernel
theorem d_MD_grow_31 : decode c_MD_grow 31 = .ok (.iconst 0, 1) := by decide +kernel
theorem d_MD_grow_32 : decode c_MD_grow 32 = .ok (.invokevirtual 128, 3) := by decide +kernel
theorem d_MD_grow_35 : decode c_MD_grow 35 = .ok (.ifCond .le 21, 3) := by decide +kernel
theorem d_MD_grow_38 : decode c_MD_grow 38 = .ok (.aload_n 0, 1) := by decide +kernel
theorem d_MD_grow_39 : decode c_MD_grow 39 = .ok (.aload_n 0, 1) := by decide +kernel
theorem d_MD_grow_40 : decode c_MD_grow 40 = .ok (.getfield 92, 3) := by decide +kernel
theorem d_MD_grow_43 : decode c_MD_grow 43 = .ok (.aload_n 0, 1) := by decide +kernel
theorem d_MD_grow_44 : decode c_MD_grow 44 = .ok (.getfield 95, 3) := by decide +kernel
theorem d_MD_grow_47 : decode c_MD_grow 47 = .ok (.invokevirtual 124, 3) := by decide +kernel
theorem d_MD_grow_50 : decode c_MD_grow 50 = .ok (.iinc 2 1, 3) := by decide +kernel
theorem d_MD_grow_53 : decode c_MD_grow 53 = .ok (.goto (-32), 3) := by decide +kernel
theorem d_MD_grow_56 : decode c_MD_grow 56 = .ok (.iload_n 2, 1) := by decide +kernel
theorem d_MD_grow_57 : decode c_MD_grow 57 = .ok (.ireturn, 1) := by decide +kernel
theorem itX_inv {S : Type} {A : Nat → S → Option Nat × S} (I : S → Prop) : ∀ (n i : Nat) (z : S), (∀ j z, i ≤ j → j < i + n → I z → I (A j z).2) → I z → I (itX A n i z).2
  | 0, _, _, _, h => h
  | n + 1, i, z, hA, h => by
    have h1 := hA i z (Nat.le_refl _) (by omega) h
    rcases e : A i z with ⟨o, z'⟩
    rw [e] at h1
    cases o with
    | some r =>
      rw [itX_no (by omega) e]
      exact h1
    | none =>
      rw [itX_go (by omega) e]
      exact itX_inv I n (i + 1) z' (fun j z h1 h2 => hA j z (by omega) (by omega)) h1
theorem itX_some {S : Type} {A : Nat → S → Option Nat × S} (I : Nat → S → Prop) : ∀ (n i : Nat) (z : S), (∀ j z r z', A j z = (some r, z') → I r z') → ∀ r z', itX A n i z = (some r, z') → I r z'
  | 0, _, _, _, r, z', h => by cases h
  | n + 1, i, z, hA, r, z', h => by
    rcases e : A i z with ⟨o, z1⟩
    cases o with
    | some q =>
      rw [itX_no (by omega) e] at h
      cases h
      exact hA _ _ _ _ e
    | none =>
      rw [itX_go (by omega) e] at h
      exact itX_some I n (i + 1) z1 hA r z' h
/-- what was found is a place and a type -/
def okFd (y : Nat) (z : FN) : Prop := z.1 = 0 ∨ ∃ p t : Nat, p < 1600 ∧ 1 ≤ t ∧ t ≤ y ∧ z.2.1 = nI p ∧ z.2.2 = nI t
theorem faT_ok {sg gl fi : Nat → Int32} {te x : Int32} {y p t : Nat} {z : FN} (hp : p < 1600) (h1 : 1 ≤ t) (h2 : t ≤ y) (h : okFd y z) : okFd y (faT sg gl fi te x p t z).2 := by
  unfold faT
  split
  · exact h
  · split
    · exact Or.inr ⟨p, t, hp, h1, h2, rfl, rfl⟩
    · exact Or.inr ⟨p, t, hp, h1, h2, rfl, rfl⟩
theorem faT_some {sg gl fi : Nat → Int32} {te x : Int32} {p t r : Nat} {z z' : FN} (h : faT sg gl fi te x p t z = (some r, z')) : r = z'.1 := by
  unfold faT at h
  split at h
  · cases h
  · split at h
    · cases h; rfl
    · cases h
theorem fdV_ok (sg gl fi : Nat → Int32) (te x : Int32) (y : Nat) (fp ft : Int32) : okFd y (fdV sg gl fi te x y fp ft).2 := by
  unfold fdV
  refine itX_inv (okFd y) _ _ _ (fun p z _ hp h => ?_) (Or.inl rfl)
  unfold faP
  split
  · exact h
  · split
    · exact h
    · exact itX_inv (okFd y) _ _ _ (fun t z h1 h2 h => faT_ok (by omega) h1 (by omega) h) h
theorem fdV_R {sg gl fi : Nat → Int32} {te x : Int32} {y : Nat} {fp ft : Int32} {o : Option Nat} {u : FN} (h : (o, u) = fdV sg gl fi te x y fp ft) : fdR (o, u) = u.1 := by
  cases o with
  | none => rfl
  | some n =>
    refine itX_some (fun r z => r = z.1) 1600 0 (0, fp, ft) (fun p z r z' e => ?_) n u (show itX (faP sg gl fi te x y) 1600 0 (0, fp, ft) = (some n, u) from h.symm)
    unfold faP at e
    split at e
    · cases e
    · split at e
      · cases e
      · exact itX_some (fun r z => r = z.1) _ _ _ (fun t z r z' e => faT_some e) r z' e
theorem fdV_le {sg gl fi : Nat → Int32} {te x : Int32} {y : Nat} {fp ft : Int32} (hy : y ≤ 60) : (fdV sg gl fi te x y fp ft).2.1 ≤ 96000 := by
  have hT : ∀ (p n i : Nat) (z : FN), (itX (faT sg gl fi te x p) n i z).2.1 ≤ z.1 + n := by
    intro p n
    induction n with
    | zero => intro i z; exact Nat.le_refl _
    | succ n ih =>
      intro i z
      have hs : (faT sg gl fi te x p i z).2.1 ≤ z.1 + 1 := by
        unfold faT
        split
        · exact Nat.le_succ _
        · split <;> exact Nat.le_refl _
      rcases e : faT sg gl fi te x p i z with ⟨o, z'⟩
      rw [e] at hs
      cases o with
      | some r => rw [itX_no (by omega) e]; exact Nat.le_trans hs (by omega)
      | none =>
        rw [itX_go (by omega) e]
        have := ih (i + 1) z'
        have hs : z'.1 ≤ z.1 + 1 := hs
        show (itX (faT sg gl fi te x p) n (i + 1) z').2.1 ≤ _
        omega
  have hP : ∀ (n i : Nat) (z : FN), (itX (faP sg gl fi te x y) n i z).2.1 ≤ z.1 + 60 * n := by
    intro n
    induction n with
    | zero => intro i z; exact Nat.le_refl _
    | succ n ih =>
      intro i z
      have hs : (faP sg gl fi te x y i z).2.1 ≤ z.1 + 60 := by
        unfold faP
        split
        · exact Nat.le_add_right _ _
        · split
          · exact Nat.le_add_right _ _
          · have := hT i y 1 z
            omega
      rcases e : faP sg gl fi te x y i z with ⟨o, z'⟩
      rw [e] at hs
      have hs : z'.1 ≤ z.1 + 60 := hs
      cases o with
      | some r => rw [itX_no (by omega) e]; show z'.1 ≤ _; omega
      | none =>
        rw [itX_go (by omega) e]
        have := ih (i + 1) z'
        show (itX (faP sg gl fi te x y) n (i + 1) z').2.1 ≤ _
        omega
  have hQ : ∀ m : Nat, (itX (faP sg gl fi te x y) m 0 (0, fp, ft)).2.1 ≤ 60 * m := fun m => by
    have := hP m 0 (0, fp, ft)
    rwa [show ((0, fp, ft) : FN).1 = 0 from rfl, Nat.zero_add] at this
  unfold fdV
  exact hQ 1600
abbrev MZ : Type := (Nat → Int32) × (Nat → Int32) × (Nat → Int32) × Int32 × Int32 × Int32 × Int32
/-- a search, and what is put behind it -/
def mzF (sg gl : Nat → Int32) (te x : Int32) (y : Nat) (z : MZ) : MZ := (z.1, z.2.1, z.2.2.1, z.2.2.2.1, z.2.2.2.2.1, (fdV sg gl z.1 te x y z.2.2.2.2.2.1 z.2.2.2.2.2.2).2.2.1, (fdV sg gl z.1 te x y z.2.2.2.2.2.1 z.2.2.2.2.2.2).2.2.2)
def mzN (sg gl : Nat → Int32) (te x : Int32) (y : Nat) (z : MZ) : Nat := (fdV sg gl z.1 te x y z.2.2.2.2.2.1 z.2.2.2.2.2.2).2.1
def mzP (sg gl : Nat → Int32) (z : MZ) : MZ := (upd z.1 (nn z.2.2.2.2.2.1) (nI (nn z.2.2.2.2.2.2)), puI sg gl z.1 z.2.1 (nn z.2.2.2.2.2.1) (nn z.2.2.2.2.2.2) 4, upd z.2.2.1 (nn z.2.2.2.2.2.1) (nI 0), z.2.2.2.1 + nI 1, nI 1, z.2.2.2.2.2.1, z.2.2.2.2.2.2)
def mgL (sg gl : Nat → Int32) (te : Int32) (y : Nat) (z : MZ) : Nat → MZ
  | 0 => z
  | d + 1 => mzP sg gl (mzF sg gl te (nI 0) y (mgL sg gl te y z d))
theorem okFi_upd {fi : Nat → Int32} (h : okFi fi) (p : Nat) {t : Nat} (ht : t ≤ 60) : okFi (upd fi p (nI t)) := by
  intro i hi
  by_cases e : i = p
  · rw [show upd fi p (nI t) i = nI t from if_pos e, nn_nI (by omega)]
    exact ⟨rfl, ht⟩
  · rw [show upd fi p (nI t) i = fi i from if_neg e]
    exact h i hi
theorem mzP_eq {sg gl : Nat → Int32} {z : MZ} {p t : Nat} (hp : p < 1600) (ht : t ≤ 60) (h1 : z.2.2.2.2.2.1 = nI p) (h2 : z.2.2.2.2.2.2 = nI t) : mzP sg gl z = (upd z.1 p (nI t), puI sg gl z.1 z.2.1 p t 4, upd z.2.2.1 p (nI 0), z.2.2.2.1 + nI 1, nI 1, nI p, nI t) := by
  unfold mzP
  rw [h1, h2, nn_nI (show p < 2 ^ 31 by omega), nn_nI (show t < 2 ^ 31 by omega)]
set_option maxHeartbeats 4000000 in
set_option maxRecDepth 100000 in
theorem lp_k_MD_grow_21 {p : Program} {l : Launch} {e : Env} {s : State} {m : MethodId} {args : Array Value} {below : List Frame} {meth : Method} {c : Code} {D : va_G} {cI cJ : ClassId} {Q : State → Prop} {A : Nat → Prop} (w0 : Nat) (w1 : Nat) (w2 : Nat) (w3 : Nat) (w4 : Nat) (w5 : Nat) (w6 : Nat) (w7 : Nat) (w8 : Nat) (w9 : Nat) (w10 : Nat) (w11 : Nat) (w12 : Nat) (w13 : Nat) (w14 : Nat) (y : Nat) (te : Int32) (nt : Int32) (wb : Int32) (rc : Int32) (fp : Int32) (ft : Int32) (th : Int32) (sg : Nat → Int32) (gl : Nat → Int32) (fi : Nat → Int32) (ip : Nat → Int32) (se : Nat → Int32) (x : Int32) (hy : y ≤ 60) (hfi : okFi fi) (hgl : okGl gl) (k9 : Nat) (hk9 : k9 < 2 ^ 31) (hx : p.tables.exec = Jvm.exec) (hb : c.code = c_MD_grow) (hml : c.maxLocals = 3) (hown : s.vm.findClass R_MD = some m.cls) (hw : ∀ w ∈ gw, w.before args s = true) (hE : En D cI cJ s) (hX : Sx A s s.heap) (hA : ∀ q : Nat, s.heap.size ≤ q → A q)
    (kx0 : ∀ (d : Nat) (z9 : MZ), (d ≤ k9) → ((d = k9 ∧ z9 = mgL sg gl te y (fi, ip, se, nt, wb, fp, ft) d) ∨ (d < k9 ∧ mzN sg gl te (nI 0) y (mgL sg gl te y (fi, ip, se, nt, wb, fp, ft) d) = 0 ∧ z9 = mzF sg gl te (nI 0) y (mgL sg gl te y (fi, ip, se, nt, wb, fp, ft) d))) → (∀ j, j < d → mzN sg gl te (nI 0) y (mgL sg gl te y (fi, ip, se, nt, wb, fp, ft) j) ≠ 0) → ∀ (H : Heap) (locs : List Loc) (ls : Array Slot), va_P D vwCl [(w0, .inr (5, [.ref w1, .ref w2, .int (nI y), .int te, .ref w3, .ref w4, .ref w5, .int z9.2.2.2.1, .int z9.2.2.2.2.1, .ref w6, .ref w7, .ref w8, .int rc, .ref w9, .ref w10, .ref w11, .ref w12, .ref w13, .ref w14, .int z9.2.2.2.2.2.1, .int z9.2.2.2.2.2.2, .int (nI (flN 0 1))])), (w1, .inl (cI, 100, .inl sg)), (w2, .inl (cI, 244, .inl gl)), (w3, .inl (cI, 1600, .inl z9.1)), (w4, .inl (cI, 1600, .inl z9.2.1)), (w5, .inl (cI, 1600, .inl z9.2.2.1))] H → va_D A [(w0, .inr (5, [.ref w1, .ref w2, .int (nI y), .int te, .ref w3, .ref w4, .ref w5, .int z9.2.2.2.1, .int z9.2.2.2.2.1, .ref w6, .ref w7, .ref w8, .int rc, .ref w9, .ref w10, .ref w11, .ref w12, .ref w13, .ref w14, .int z9.2.2.2.2.2.1, .int z9.2.2.2.2.2.2, .int (nI (flN 0 1))])), (w1, .inl (cI, 100, .inl sg)), (w2, .inl (cI, 244, .inl gl)), (w3, .inl (cI, 1600, .inl z9.1)), (w4, .inl (cI, 1600, .inl z9.2.1)), (w5, .inl (cI, 1600, .inl z9.2.2.1))] → va_S A s.heap H locs → lv_has ls 3 [(2, .int (nI d))] → W p l e ({ frames := 7, cells := 0, slots := 0, locals := 166 } : Room) s m args below meth c H locs 0 0 Q (F0 m 56 ls [])) :
    ∀ (fu : Nat) (d : Nat) (z9 : MZ), k9 - d < fu → (d ≤ k9) → (z9 = mgL sg gl te y (fi, ip, se, nt, wb, fp, ft) d) → (okFi z9.1) → (∀ j, j < d → mzN sg gl te (nI 0) y (mgL sg gl te y (fi, ip, se, nt, wb, fp, ft) j) ≠ 0) → ∀ (H : Heap) (locs : List Loc) (ls : Array Slot), va_P D vwCl [(w0, .inr (5, [.ref w1, .ref w2, .int (nI y), .int te, .ref w3, .ref w4, .ref w5, .int z9.2.2.2.1, .int z9.2.2.2.2.1, .ref w6, .ref w7, .ref w8, .int rc, .ref w9, .ref w10, .ref w11, .ref w12, .ref w13, .ref w14, .int z9.2.2.2.2.2.1, .int z9.2.2.2.2.2.2, .int (nI (flN 0 1))])), (w1, .inl (cI, 100, .inl sg)), (w2, .inl (cI, 244, .inl gl)), (w3, .inl (cI, 1600, .inl z9.1)), (w4, .inl (cI, 1600, .inl z9.2.1)), (w5, .inl (cI, 1600, .inl z9.2.2.1))] H → va_D A [(w0, .inr (5, [.ref w1, .ref w2, .int (nI y), .int te, .ref w3, .ref w4, .ref w5, .int z9.2.2.2.1, .int z9.2.2.2.2.1, .ref w6, .ref w7, .ref w8, .int rc, .ref w9, .ref w10, .ref w11, .ref w12, .ref w13, .ref w14, .int z9.2.2.2.2.2.1, .int z9.2.2.2.2.2.2, .int (nI (flN 0 1))])), (w1, .inl (cI, 100, .inl sg)), (w2, .inl (cI, 244, .inl gl)), (w3, .inl (cI, 1600, .inl z9.1)), (w4, .inl (cI, 1600, .inl z9.2.1)), (w5, .inl (cI, 1600, .inl z9.2.2.1))] → va_S A s.heap H locs → lv_has ls 3 [(0, .ref w0), (1, .int (nI k9)), (2, .int (nI d))] → W p l e ({ frames := 7, cells := 0, slots := 0, locals := 166 } : Room) s m args below meth c H locs 0 0 Q (F0 m 21 ls []) := by
  intro fu
  induction fu with
  | zero =>
    intro d z9 h0
    exact absurd h0 (Nat.not_lt_zero _)
  | succ fu ih =>
    intro d z9 hmu hd hz hok hall H locs ls hP hD hS hl
    refine lv_iload_n hx hb d_MD_grow_21 rfl (lv_at hl 2 rfl) ?_
    refine lv_iload_n hx hb d_MD_grow_22 rfl (lv_at hl 1 rfl) ?_
    refine jn_icmp_ge (tgt := 56) (a := d) (b := k9) hx hb d_MD_grow_23 (by decide) (by omega) (by omega) (fun c_23 => ?_) (fun c_23 => ?_)
    · skip
      exact kx0 d z9 hd (Or.inl ⟨by omega, hz⟩) hall _ _ _ (hP.sub [0, 1, 2, 3, 4, 5] rfl) (hD.sub [0, 1, 2, 3, 4, 5] (by decide) rfl) hS (lv_sub hl [2] rfl)
    · skip
      refine lv_aload_n hx hb d_MD_grow_26 rfl (lv_at hl 0 rfl) ?_
      refine lv_aload_n hx hb d_MD_grow_27 rfl (lv_at hl 0 rfl) ?_
      refine va_get (D := D) (ci := 5) (v := .ref w3) (C := R_MD) (T := T_MD) (N := 22) hx hb hw in_MD hown hE.1 hP 0 rfl rfl 4 (by decide) (hw _ kw_765) (fun _ h9 => h9) rfl d_MD_grow_28 ?_
      refine lv_iconst (v := nI 0) hx hb d_MD_grow_31 (by decide +kernel) ?_
      refine cl_i (wr := [(w4, .inl (cI, 1600, .inl z9.2.1)), (w5, .inl (cI, 1600, .inl z9.2.2.1))]) (va_runV (As := [.ref w3, .int (nI 0)]) (rest := []) ⟨hx, hb, hml, hown, hw⟩ (k_MD_find l D cI cJ w0 w1 w2 w3 w4 w5 w6 w7 w8 w9 w10 w11 w12 w13 w14 y te z9.2.2.2.1 z9.2.2.2.2.1 rc z9.2.2.2.2.2.1 z9.2.2.2.2.2.2 (nI (flN 0 1)) sg gl w3 z9.1 (nI 0) _ hy hok hgl) (cwV 2 hw (gV kw_913 kw_915 kw_30 kw_45 kw_916) rfl rfl rfl (by decide +kernel) ⟨Nat.le_of_ble_eq_true rfl, Nat.le_of_ble_eq_true rfl⟩) (pre_Vw (wc := [(w0, .inr (5, [.ref w1, .ref w2, .int (nI y), .int te, .ref w3, .ref w4, .ref w5, .int z9.2.2.2.1, .int z9.2.2.2.2.1, .ref w6, .ref w7, .ref w8, .int rc, .ref w9, .ref w10, .ref w11, .ref w12, .ref w13, .ref w14, .int z9.2.2.2.2.2.1, .int z9.2.2.2.2.2.2, .int (nI (flN 0 1))])), (w1, .inl (cI, 100, .inl sg)), (w2, .inl (cI, 244, .inl gl)), (w3, .inl (cI, 1600, .inl z9.1))]) (q0 := 0) hE hX hA hP hD hS [0, 1, 2, 3] (by decide) rfl rfl rfl rfl) rfl rfl hl.1 rfl (lv_room (Nat.le_of_ble_eq_true rfl)) d_MD_grow_32 ⟨Nat.le_of_ble_eq_true rfl, Nat.le_of_ble_eq_true rfl⟩) hP hD hS hA [0, 1, 2, 3] [4, 5] rfl rfl (by decide) (by decide) (fun r_1 u_r_1 H locs hr_1 hP hD hS => ?_)
      have hP : va_P D vwCl [(w4, .inl (cI, 1600, .inl z9.2.1)), (w5, .inl (cI, 1600, .inl z9.2.2.1)), (w0, .inr (5, [.ref w1, .ref w2, .int (nI y), .int te, .ref w3, .ref w4, .ref w5, .int z9.2.2.2.1, .int z9.2.2.2.2.1, .ref w6, .ref w7, .ref w8, .int rc, .ref w9, .ref w10, .ref w11, .ref w12, .ref w13, .ref w14, .int u_r_1.2.1, .int u_r_1.2.2, .int (nI (flN 0 1))])), (w1, .inl (cI, 100, .inl sg)), (w2, .inl (cI, 244, .inl gl)), (w3, .inl (cI, 1600, .inl z9.1))] H := hP
      have hD : va_D A [(w4, .inl (cI, 1600, .inl z9.2.1)), (w5, .inl (cI, 1600, .inl z9.2.2.1)), (w0, .inr (5, [.ref w1, .ref w2, .int (nI y), .int te, .ref w3, .ref w4, .ref w5, .int z9.2.2.2.1, .int z9.2.2.2.2.1, .ref w6, .ref w7, .ref w8, .int rc, .ref w9, .ref w10, .ref w11, .ref w12, .ref w13, .ref w14, .int u_r_1.2.1, .int u_r_1.2.2, .int (nI (flN 0 1))])), (w1, .inl (cI, 100, .inl sg)), (w2, .inl (cI, 244, .inl gl)), (w3, .inl (cI, 1600, .inl z9.1))] := hD
      obtain ⟨o, rfl, hfd⟩ := hr_1
      rw [fdV_R hfd]
      have hfo : okFd y u_r_1 := by have h := fdV_ok sg gl z9.1 te (nI 0) y z9.2.2.2.2.2.1 z9.2.2.2.2.2.2; rw [← hfd] at h; exact h
      have hfl : u_r_1.1 ≤ 96000 := by have h := fdV_le (sg := sg) (gl := gl) (fi := z9.1) (te := te) (x := nI 0) (y := y) (fp := z9.2.2.2.2.2.1) (ft := z9.2.2.2.2.2.2) hy; rw [← hfd] at h; exact h
      have hfn : mzN sg gl te (nI 0) y z9 = u_r_1.1 := by unfold mzN; rw [← hfd]
      have hff : mzF sg gl te (nI 0) y z9 = (z9.1, z9.2.1, z9.2.2.1, z9.2.2.2.1, z9.2.2.2.2.1, u_r_1.2.1, u_r_1.2.2) := by unfold mzF; rw [← hfd]
      refine jn_if_le (tgt := 56) (a := u_r_1.1) hx hb d_MD_grow_35 (by decide) (by omega) (fun c_35 => ?_) (fun c_35 => ?_)
      · skip
        exact kx0 d (z9.1, z9.2.1, z9.2.2.1, z9.2.2.2.1, z9.2.2.2.2.1, u_r_1.2.1, u_r_1.2.2) hd (Or.inr ⟨by omega, by rw [← hz, hfn]; exact c_35, by rw [← hz, hff]⟩) hall _ _ _ (hP.sub [2, 3, 4, 5, 0, 1] rfl) (hD.sub [2, 3, 4, 5, 0, 1] (by decide) rfl) hS (lv_sub hl [2] rfl)
      · skip
        obtain ⟨pp, tt, hpp, htt1, htt2, hep, het⟩ := hfo.resolve_left (by omega)
        rw [hep, het] at hP hD
        have hP : va_P D vwCl [(w4, .inl (cI, 1600, .inl z9.2.1)), (w5, .inl (cI, 1600, .inl z9.2.2.1)), (w0, .inr (5, [.ref w1, .ref w2, .int (nI y), .int te, .ref w3, .ref w4, .ref w5, .int z9.2.2.2.1, .int z9.2.2.2.2.1, .ref w6, .ref w7, .ref w8, .int rc, .ref w9, .ref w10, .ref w11, .ref w12, .ref w13, .ref w14, .int (nI pp), .int (nI tt), .int (nI (flN 0 1))])), (w1, .inl (cI, 100, .inl sg)), (w2, .inl (cI, 244, .inl gl)), (w3, .inl (cI, 1600, .inl z9.1))] H := hP
        have hD : va_D A [(w4, .inl (cI, 1600, .inl z9.2.1)), (w5, .inl (cI, 1600, .inl z9.2.2.1)), (w0, .inr (5, [.ref w1, .ref w2, .int (nI y), .int te, .ref w3, .ref w4, .ref w5, .int z9.2.2.2.1, .int z9.2.2.2.2.1, .ref w6, .ref w7, .ref w8, .int rc, .ref w9, .ref w10, .ref w11, .ref w12, .ref w13, .ref w14, .int (nI pp), .int (nI tt), .int (nI (flN 0 1))])), (w1, .inl (cI, 100, .inl sg)), (w2, .inl (cI, 244, .inl gl)), (w3, .inl (cI, 1600, .inl z9.1))] := hD
        refine lv_aload_n hx hb d_MD_grow_38 rfl (lv_at hl 0 rfl) ?_
        refine lv_aload_n hx hb d_MD_grow_39 rfl (lv_at hl 0 rfl) ?_
        refine va_get (D := D) (ci := 5) (v := .int (nI pp)) (C := R_MD) (T := T_MD) (N := 22) hx hb hw in_MD hown hE.1 hP 2 rfl rfl 19 (by decide) (hw _ kw_780) (fun _ h9 => h9) rfl d_MD_grow_40 ?_
        refine lv_aload_n hx hb d_MD_grow_43 rfl (lv_at hl 0 rfl) ?_
        refine va_get (D := D) (ci := 5) (v := .int (nI tt)) (C := R_MD) (T := T_MD) (N := 22) hx hb hw in_MD hown hE.1 hP 2 rfl rfl 20 (by decide) (hw _ kw_781) (fun _ h9 => h9) rfl d_MD_grow_44 ?_
        refine cl_v (wr := []) (va_runV (As := [.int (nI pp), .int (nI tt)]) (rest := []) ⟨hx, hb, hml, hown, hw⟩ (k_MD_put l D cI cJ w0 w1 w2 w3 w4 w5 w6 w7 w8 w9 w10 w11 w12 w13 w14 (nI y) te z9.2.2.2.1 z9.2.2.2.2.1 rc (nI pp) (nI tt) (nI (flN 0 1)) sg gl z9.1 z9.2.1 z9.2.2.1 pp tt _ hpp (by omega) hok hgl) (cwV 2 hw (gV kw_905 kw_907 kw_29 kw_45 kw_908) rfl rfl rfl (by decide +kernel) ⟨Nat.le_of_ble_eq_true rfl, Nat.le_of_ble_eq_true rfl⟩) (pre_Vw (wc := [(w0, .inr (5, [.ref w1, .ref w2, .int (nI y), .int te, .ref w3, .ref w4, .ref w5, .int z9.2.2.2.1, .int z9.2.2.2.2.1, .ref w6, .ref w7, .ref w8, .int rc, .ref w9, .ref w10, .ref w11, .ref w12, .ref w13, .ref w14, .int (nI pp), .int (nI tt), .int (nI (flN 0 1))])), (w1, .inl (cI, 100, .inl sg)), (w2, .inl (cI, 244, .inl gl)), (w3, .inl (cI, 1600, .inl z9.1)), (w4, .inl (cI, 1600, .inl z9.2.1)), (w5, .inl (cI, 1600, .inl z9.2.2.1))]) (q0 := 0) hE hX hA hP hD hS [2, 3, 4, 5, 0, 1] (by decide) rfl rfl rfl rfl) rfl rfl hl.1 rfl (lv_room (Nat.le_of_ble_eq_true rfl)) d_MD_grow_47 ⟨Nat.le_of_ble_eq_true rfl, Nat.le_of_ble_eq_true rfl⟩) hP hD hS hA [2, 3, 4, 5, 0, 1] [] rfl rfl (by decide) (by decide) (fun u_r_2 H locs hr_2 hP hD hS => ?_)
        have hP : va_P D vwCl [(w0, .inr (5, [.ref w1, .ref w2, .int (nI y), .int te, .ref w3, .ref w4, .ref w5, .int (z9.2.2.2.1 + nI 1), .int (nI 1), .ref w6, .ref w7, .ref w8, .int rc, .ref w9, .ref w10, .ref w11, .ref w12, .ref w13, .ref w14, .int (nI pp), .int (nI tt), .int (nI (flN 0 1))])), (w1, .inl (cI, 100, .inl sg)), (w2, .inl (cI, 244, .inl gl)), (w3, .inl (cI, 1600, .inl (upd z9.1 pp (nI tt)))), (w4, .inl (cI, 1600, .inl u_r_2)), (w5, .inl (cI, 1600, .inl (upd z9.2.2.1 pp (nI 0))))] H := hP
        have hD : va_D A [(w0, .inr (5, [.ref w1, .ref w2, .int (nI y), .int te, .ref w3, .ref w4, .ref w5, .int (z9.2.2.2.1 + nI 1), .int (nI 1), .ref w6, .ref w7, .ref w8, .int rc, .ref w9, .ref w10, .ref w11, .ref w12, .ref w13, .ref w14, .int (nI pp), .int (nI tt), .int (nI (flN 0 1))])), (w1, .inl (cI, 100, .inl sg)), (w2, .inl (cI, 244, .inl gl)), (w3, .inl (cI, 1600, .inl (upd z9.1 pp (nI tt)))), (w4, .inl (cI, 1600, .inl u_r_2)), (w5, .inl (cI, 1600, .inl (upd z9.2.2.1 pp (nI 0))))] := hD
        refine lv_iinc (v := nI (d + 1)) (lv' := [(2, .int (nI (d + 1))), (0, .ref w0), (1, .int (nI k9))]) hx hb d_MD_grow_50 hl (k := 2) rfl (jn_inc d 1) (by decide) rfl (fun ls hl => ?_)
        refine lv_goto (tgt := 21) hx hb d_MD_grow_53 (by decide) ?_
        exact ih (d + 1) (upd z9.1 pp (nI tt), u_r_2, upd z9.2.2.1 pp (nI 0), z9.2.2.2.1 + nI 1, nI 1, nI pp, nI tt) (by omega) (by omega) (by rw [mgL, ← hz, hff, mzP_eq hpp (by omega) hep het, hr_2]) (okFi_upd hok pp (by omega)) (fun j hj => by
          rcases Nat.lt_succ_iff_lt_or_eq.mp hj with h | rfl
          · exact hall j h
          · rw [← hz, hfn]; omega) _ _ _ (hP.sub [0, 1, 2, 3, 4, 5] rfl) (hD.sub [0, 1, 2, 3, 4, 5] (by decide) rfl) hS (lv_sub hl [1, 2, 0] rfl)
set_option maxHeartbeats 4000000 in
set_option maxRecDepth 100000 in
/-- grow -/
theorem k_MD_grow (l : Launch) (D : va_G) (cI cJ : ClassId) (w0 : Nat) (w1 : Nat) (w2 : Nat) (w3 : Nat) (w4 : Nat) (w5 : Nat) (w6 : Nat) (w7 : Nat) (w8 : Nat) (w9 : Nat) (w10 : Nat) (w11 : Nat) (w12 : Nat) (w13 : Nat) (w14 : Nat) (y : Nat) (te : Int32) (nt : Int32) (wb : Int32) (rc : Int32) (fp : Int32) (ft : Int32) (th : Int32) (sg : Nat → Int32) (gl : Nat → Int32) (fi : Nat → Int32) (ip : Nat → Int32) (se : Nat → Int32) (x : Int32) (sz : Nat) (hy : y ≤ 60) (hfi : okFi fi) (hgl : okGl gl) : Met l y_MD_grow ws_MD_grow ({ frames := 7, cells := 0, slots := 0, locals := 166 } : Room) (va_Pc [.ref w0, .int x] (Pw D cI cJ [(w0, .inr (5, [.ref w1, .ref w2, .int (nI y), .int te, .ref w3, .ref w4, .ref w5, .int nt, .int wb, .ref w6, .ref w7, .ref w8, .int rc, .ref w9, .ref w10, .ref w11, .ref w12, .ref w13, .ref w14, .int fp, .int ft, .int th])), (w1, .inl (cI, 100, .inl sg)), (w2, .inl (cI, 244, .inl gl)), (w3, .inl (cI, 1600, .inl fi)), (w4, .inl (cI, 1600, .inl ip)), (w5, .inl (cI, 1600, .inl se))] sz)) (va_Qi (fun (r : Int32) (u9 : MZ × Int32) => (¬ 0 ≤ x ∧ r = nI 0 ∧ u9 = ((fi, ip, se, nt, wb, fp, ft), nI 1)) ∨ (0 ≤ x ∧ u9.2 = nI 0 ∧ ∃ d, d ≤ nn x ∧ r = nI d ∧ ((d = nn x ∧ u9.1 = mgL sg gl te y (fi, ip, se, nt, wb, fp, ft) d) ∨ (d < nn x ∧ mzN sg gl te (nI 0) y (mgL sg gl te y (fi, ip, se, nt, wb, fp, ft) d) = 0 ∧ u9.1 = mzF sg gl te (nI 0) y (mgL sg gl te y (fi, ip, se, nt, wb, fp, ft) d))) ∧ (∀ j, j < d → mzN sg gl te (nI 0) y (mgL sg gl te y (fi, ip, se, nt, wb, fp, ft) j) ≠ 0))) (fun u9 t9 => Bw D (va_A [(w0, .inr (5, [.ref w1, .ref w2, .int (nI y), .int te, .ref w3, .ref w4, .ref w5, .int nt, .int wb, .ref w6, .ref w7, .ref w8, .int rc, .ref w9, .ref w10, .ref w11, .ref w12, .ref w13, .ref w14, .int fp, .int ft, .int th])), (w1, .inl (cI, 100, .inl sg)), (w2, .inl (cI, 244, .inl gl)), (w3, .inl (cI, 1600, .inl fi)), (w4, .inl (cI, 1600, .inl ip)), (w5, .inl (cI, 1600, .inl se))] sz) [(w0, .inr (5, [.ref w1, .ref w2, .int (nI y), .int te, .ref w3, .ref w4, .ref w5, .int u9.1.2.2.2.1, .int u9.1.2.2.2.2.1, .ref w6, .ref w7, .ref w8, .int rc, .ref w9, .ref w10, .ref w11, .ref w12, .ref w13, .ref w14, .int u9.1.2.2.2.2.2.1, .int u9.1.2.2.2.2.2.2, .int u9.2])), (w1, .inl (cI, 100, .inl sg)), (w2, .inl (cI, 244, .inl gl)), (w3, .inl (cI, 1600, .inl u9.1.1)), (w4, .inl (cI, 1600, .inl u9.1.2.1)), (w5, .inl (cI, 1600, .inl u9.1.2.2.1))] t9) (va_A [(w0, .inr (5, [.ref w1, .ref w2, .int (nI y), .int te, .ref w3, .ref w4, .ref w5, .int nt, .int wb, .ref w6, .ref w7, .ref w8, .int rc, .ref w9, .ref w10, .ref w11, .ref w12, .ref w13, .ref w14, .int fp, .int ft, .int th])), (w1, .inl (cI, 100, .inl sg)), (w2, .inl (cI, 244, .inl gl)), (w3, .inl (cI, 1600, .inl fi)), (w4, .inl (cI, 1600, .inl ip)), (w5, .inl (cI, 1600, .inl se))] sz)) 0 0 (va_A [(w0, .inr (5, [.ref w1, .ref w2, .int (nI y), .int te, .ref w3, .ref w4, .ref w5, .int nt, .int wb, .ref w6, .ref w7, .ref w8, .int rc, .ref w9, .ref w10, .ref w11, .ref w12, .ref w13, .ref w14, .int fp, .int ft, .int th])), (w1, .inl (cI, 100, .inl sg)), (w2, .inl (cI, 244, .inl gl)), (w3, .inl (cI, 1600, .inl fi)), (w4, .inl (cI, 1600, .inl ip)), (w5, .inl (cI, 1600, .inl se))] sz) := by
  refine Met.ofW (cc := c_MD_grow) (maxL := 3) (ret := (some .int)) (by decide) rfl ?_
  intro p e s m args below meth c s₁ B hml hv
  obtain ⟨rfl, hsz, hE, hP, hD0, hX⟩ := hv
  have hx := B.exec
  have hb := B.bytes
  have hr := B.returns
  have hw : ∀ w ∈ gw, w.before _ s = true := fun w h => atoms_spec (ws := ws_MD_grow) B.pre w (List.mem_cons_of_mem _ h)
  have hown : s.vm.findClass R_MD = some m.cls := findClass_of_methodNamed B.named
  have hlocks := B.notSynchronized
  subst hsz
  have hD := hD0.self (sz := s.heap.size)
  generalize hAe : va_A [(w0, .inr (5, [.ref w1, .ref w2, .int (nI y), .int te, .ref w3, .ref w4, .ref w5, .int nt, .int wb, .ref w6, .ref w7, .ref w8, .int rc, .ref w9, .ref w10, .ref w11, .ref w12, .ref w13, .ref w14, .int fp, .int ft, .int th])), (w1, .inl (cI, 100, .inl sg)), (w2, .inl (cI, 244, .inl gl)), (w3, .inl (cI, 1600, .inl fi)), (w4, .inl (cI, 1600, .inl ip)), (w5, .inl (cI, 1600, .inl se))] s.heap.size = A at hD hX ⊢
  have hA : ∀ q : Nat, s.heap.size ≤ q → A q := fun q h => by rw [← hAe]; exact Or.inr h
  have hS : va_S A s.heap s.heap [] := va_S.rf
  have hP : va_P D vwCl [(w0, .inr (5, [.ref w1, .ref w2, .int (nI y), .int te, .ref w3, .ref w4, .ref w5, .int nt, .int wb, .ref w6, .ref w7, .ref w8, .int rc, .ref w9, .ref w10, .ref w11, .ref w12, .ref w13, .ref w14, .int fp, .int ft, .int th])), (w1, .inl (cI, 100, .inl sg)), (w2, .inl (cI, 244, .inl gl)), (w3, .inl (cI, 1600, .inl fi)), (w4, .inl (cI, 1600, .inl ip)), (w5, .inl (cI, 1600, .inl se))] s.heap := hP
  have hl := lv_entry ([.ref w0, .int x]) (n := 3) (Nat.le_of_ble_eq_true rfl)
  rw [lg_entry_eq]
  generalize (lg_sl ([.ref w0, .int x]) ++ List.replicate (3 - (lg_sl ([.ref w0, .int x])).length) Slot.unset).toArray = ls at hl ⊢
  have hl : lv_has ls 3 [(0, .ref w0), (1, .int x)] := hl
  refine lv_aload_n hx hb d_MD_grow_0 rfl (lv_at hl 0 rfl) ?_
  refine lv_iload_n hx hb d_MD_grow_1 rfl (lv_at hl 1 rfl) ?_
  refine lv_if_ge (tgt := 9) hx hb d_MD_grow_2 (by decide) (fun c_2 => ?_) (fun c_2 => ?_)
  · skip
    refine lv_iconst (v := nI 0) hx hb d_MD_grow_9 (by decide +kernel) ?_
    refine lv_iconst (v := nI 1) hx hb d_MD_grow_10 (by decide +kernel) ?_
    refine cl_i (wr := [(w1, .inl (cI, 100, .inl sg)), (w2, .inl (cI, 244, .inl gl)), (w3, .inl (cI, 1600, .inl fi)), (w4, .inl (cI, 1600, .inl ip)), (w5, .inl (cI, 1600, .inl se))]) (va_runV (As := [.int (nI 0), .int (nI 1)]) (rest := []) ⟨hx, hb, hml, hown, hw⟩ (k_MD_fails l D cI cJ w0 w1 w2 w3 w4 w5 w6 w7 w8 w9 w10 w11 w12 w13 w14 (nI y) te nt wb rc fp ft th 0 1 _ (by omega)) (cwV 2 hw (gV kw_836 kw_838 kw_20 kw_45 kw_839) rfl rfl rfl (by decide +kernel) ⟨Nat.le_of_ble_eq_true rfl, Nat.le_of_ble_eq_true rfl⟩) (pre_Vw (wc := [(w0, .inr (5, [.ref w1, .ref w2, .int (nI y), .int te, .ref w3, .ref w4, .ref w5, .int nt, .int wb, .ref w6, .ref w7, .ref w8, .int rc, .ref w9, .ref w10, .ref w11, .ref w12, .ref w13, .ref w14, .int fp, .int ft, .int th]))]) (q0 := 0) hE hX hA hP hD hS [0] (by decide) rfl rfl rfl rfl) rfl rfl hl.1 rfl (lv_room (Nat.le_of_ble_eq_true rfl)) d_MD_grow_11 ⟨Nat.le_of_ble_eq_true rfl, Nat.le_of_ble_eq_true rfl⟩) hP hD hS hA [0] [1, 2, 3, 4, 5] rfl rfl (by decide) (by decide) (fun r_1 u_r_1 H locs hr_1 hP hD hS => ?_)
    obtain rfl : nI 0 = r_1 := hr_1.symm
    have hP : va_P D vwCl [(w1, .inl (cI, 100, .inl sg)), (w2, .inl (cI, 244, .inl gl)), (w3, .inl (cI, 1600, .inl fi)), (w4, .inl (cI, 1600, .inl ip)), (w5, .inl (cI, 1600, .inl se)), (w0, .inr (5, [.ref w1, .ref w2, .int (nI y), .int te, .ref w3, .ref w4, .ref w5, .int nt, .int wb, .ref w6, .ref w7, .ref w8, .int rc, .ref w9, .ref w10, .ref w11, .ref w12, .ref w13, .ref w14, .int fp, .int ft, .int (nI (flN 0 1))]))] H := hP
    have hD : va_D A [(w1, .inl (cI, 100, .inl sg)), (w2, .inl (cI, 244, .inl gl)), (w3, .inl (cI, 1600, .inl fi)), (w4, .inl (cI, 1600, .inl ip)), (w5, .inl (cI, 1600, .inl se)), (w0, .inr (5, [.ref w1, .ref w2, .int (nI y), .int te, .ref w3, .ref w4, .ref w5, .int nt, .int wb, .ref w6, .ref w7, .ref w8, .int rc, .ref w9, .ref w10, .ref w11, .ref w12, .ref w13, .ref w14, .int fp, .int ft, .int (nI (flN 0 1))]))] := hD
    refine jn_if_eq (tgt := 19) (a := 0) hx hb d_MD_grow_14 (by decide) (by decide) (fun _ => ?_) (fun c9 => absurd c9 (by decide))
    obtain ⟨k9, hk9, rfl⟩ := nI_of (x := x) (fun z => absurd c_2 (by rw [Int32.lt_iff_toInt_lt] at z; rw [Int32.le_iff_toInt_le]; omega))
    refine lv_iconst (v := nI 0) hx hb d_MD_grow_19 (by decide +kernel) ?_
    refine lv_istore_n (lv' := [(2, .int (nI 0)), (0, .ref w0), (1, .int (nI k9))]) hx hb d_MD_grow_20 rfl hl (by decide) rfl (fun ls hl => ?_)
    refine lp_k_MD_grow_21 w0 w1 w2 w3 w4 w5 w6 w7 w8 w9 w10 w11 w12 w13 w14 y te nt wb rc fp ft th sg gl fi ip se (nI k9) hy hfi hgl k9 hk9 hx hb hml hown hw hE hX hA (fun d z9 hd hz hall H locs ls hP hD hS hl => ?_) ((k9 - 0) + 1) 0 (fi, ip, se, nt, wb, fp, ft) (Nat.lt_succ_self _) (Nat.zero_le _) rfl hfi (fun j hj => absurd hj (Nat.not_lt_zero j)) _ _ _ (hP.sub [5, 0, 1, 2, 3, 4] rfl) (hD.sub [5, 0, 1, 2, 3, 4] (by decide) rfl) hS (lv_sub hl [1, 2, 0] rfl)
    refine lv_iload_n hx hb d_MD_grow_56 rfl (lv_at hl 0 rfl) ?_
    have hP9 := hP.sub (ws' := [(w0, .inr (5, [.ref w1, .ref w2, .int (nI y), .int te, .ref w3, .ref w4, .ref w5, .int z9.2.2.2.1, .int z9.2.2.2.2.1, .ref w6, .ref w7, .ref w8, .int rc, .ref w9, .ref w10, .ref w11, .ref w12, .ref w13, .ref w14, .int z9.2.2.2.2.2.1, .int z9.2.2.2.2.2.2, .int (nI (flN 0 1))])), (w1, .inl (cI, 100, .inl sg)), (w2, .inl (cI, 244, .inl gl)), (w3, .inl (cI, 1600, .inl z9.1)), (w4, .inl (cI, 1600, .inl z9.2.1)), (w5, .inl (cI, 1600, .inl z9.2.2.1))]) [0, 1, 2, 3, 4, 5] rfl
    have hD9 := hD.sub (ws' := [(w0, .inr (5, [.ref w1, .ref w2, .int (nI y), .int te, .ref w3, .ref w4, .ref w5, .int z9.2.2.2.1, .int z9.2.2.2.2.1, .ref w6, .ref w7, .ref w8, .int rc, .ref w9, .ref w10, .ref w11, .ref w12, .ref w13, .ref w14, .int z9.2.2.2.2.2.1, .int z9.2.2.2.2.2.2, .int (nI (flN 0 1))])), (w1, .inl (cI, 100, .inl sg)), (w2, .inl (cI, 244, .inl gl)), (w3, .inl (cI, 1600, .inl z9.1)), (w4, .inl (cI, 1600, .inl z9.2.1)), (w5, .inl (cI, 1600, .inl z9.2.2.1))]) [0, 1, 2, 3, 4, 5] (by decide) rfl
    exact W.iret (v := nI d) hx hb hr (fun t9 ht hW => ⟨⟨_, (z9, nI 0), rfl, (Or.inr ⟨c_2, rfl, d, by rw [nn_nI hk9]; exact hd, rfl, by rw [nn_nI hk9]; exact hz, hall⟩), ⟨by rw [ht]; exact hP9, hD9⟩⟩, hS.F ht⟩) hS.2.2 d_MD_grow_57
  · skip
    refine lv_iconst (v := nI 1) hx hb d_MD_grow_5 (by decide +kernel) ?_
    refine lv_goto (tgt := 10) hx hb d_MD_grow_6 (by decide) ?_
    refine lv_iconst (v := nI 1) hx hb d_MD_grow_10 (by decide +kernel) ?_
    refine cl_i (wr := [(w1, .inl (cI, 100, .inl sg)), (w2, .inl (cI, 244, .inl gl)), (w3, .inl (cI, 1600, .inl fi)), (w4, .inl (cI, 1600, .inl ip)), (w5, .inl (cI, 1600, .inl se))]) (va_runV (As := [.int (nI 1), .int (nI 1)]) (rest := []) ⟨hx, hb, hml, hown, hw⟩ (k_MD_fails l D cI cJ w0 w1 w2 w3 w4 w5 w6 w7 w8 w9 w10 w11 w12 w13 w14 (nI y) te nt wb rc fp ft th 1 1 _ (by omega)) (cwV 2 hw (gV kw_836 kw_838 kw_20 kw_45 kw_839) rfl rfl rfl (by decide +kernel) ⟨Nat.le_of_ble_eq_true rfl, Nat.le_of_ble_eq_true rfl⟩) (pre_Vw (wc := [(w0, .inr (5, [.ref w1, .ref w2, .int (nI y), .int te, .ref w3, .ref w4, .ref w5, .int nt, .int wb, .ref w6, .ref w7, .ref w8, .int rc, .ref w9, .ref w10, .ref w11, .ref w12, .ref w13, .ref w14, .int fp, .int ft, .int th]))]) (q0 := 0) hE hX hA hP hD hS [0] (by decide) rfl rfl rfl rfl) rfl rfl hl.1 rfl (lv_room (Nat.le_of_ble_eq_true rfl)) d_MD_grow_11 ⟨Nat.le_of_ble_eq_true rfl, Nat.le_of_ble_eq_true rfl⟩) hP hD hS hA [0] [1, 2, 3, 4, 5] rfl rfl (by decide) (by decide) (fun r_2 u_r_2 H locs hr_2 hP hD hS => ?_)
    obtain rfl : nI 1 = r_2 := hr_2.symm
    have hP : va_P D vwCl [(w1, .inl (cI, 100, .inl sg)), (w2, .inl (cI, 244, .inl gl)), (w3, .inl (cI, 1600, .inl fi)), (w4, .inl (cI, 1600, .inl ip)), (w5, .inl (cI, 1600, .inl se)), (w0, .inr (5, [.ref w1, .ref w2, .int (nI y), .int te, .ref w3, .ref w4, .ref w5, .int nt, .int wb, .ref w6, .ref w7, .ref w8, .int rc, .ref w9, .ref w10, .ref w11, .ref w12, .ref w13, .ref w14, .int fp, .int ft, .int (nI (flN 1 1))]))] H := hP
    have hD : va_D A [(w1, .inl (cI, 100, .inl sg)), (w2, .inl (cI, 244, .inl gl)), (w3, .inl (cI, 1600, .inl fi)), (w4, .inl (cI, 1600, .inl ip)), (w5, .inl (cI, 1600, .inl se)), (w0, .inr (5, [.ref w1, .ref w2, .int (nI y), .int te, .ref w3, .ref w4, .ref w5, .int nt, .int wb, .ref w6, .ref w7, .ref w8, .int rc, .ref w9, .ref w10, .ref w11, .ref w12, .ref w13, .ref w14, .int fp, .int ft, .int (nI (flN 1 1))]))] := hD
    refine jn_if_eq (tgt := 19) (a := 1) hx hb d_MD_grow_14 (by decide) (by decide) (fun c9 => absurd c9 (by decide)) (fun _ => ?_)
    refine lv_iconst (v := nI 0) hx hb d_MD_grow_17 (by decide +kernel) ?_
    have hP9 := hP.sub (ws' := [(w0, .inr (5, [.ref w1, .ref w2, .int (nI y), .int te, .ref w3, .ref w4, .ref w5, .int nt, .int wb, .ref w6, .ref w7, .ref w8, .int rc, .ref w9, .ref w10, .ref w11, .ref w12, .ref w13, .ref w14, .int fp, .int ft, .int (nI (flN 1 1))])), (w1, .inl (cI, 100, .inl sg)), (w2, .inl (cI, 244, .inl gl)), (w3, .inl (cI, 1600, .inl fi)), (w4, .inl (cI, 1600, .inl ip)), (w5, .inl (cI, 1600, .inl se))]) [5, 0, 1, 2, 3, 4] rfl
    have hD9 := hD.sub (ws' := [(w0, .inr (5, [.ref w1, .ref w2, .int (nI y), .int te, .ref w3, .ref w4, .ref w5, .int nt, .int wb, .ref w6, .ref w7, .ref w8, .int rc, .ref w9, .ref w10, .ref w11, .ref w12, .ref w13, .ref w14, .int fp, .int ft, .int (nI (flN 1 1))])), (w1, .inl (cI, 100, .inl sg)), (w2, .inl (cI, 244, .inl gl)), (w3, .inl (cI, 1600, .inl fi)), (w4, .inl (cI, 1600, .inl ip)), (w5, .inl (cI, 1600, .inl se))]) [5, 0, 1, 2, 3, 4] (by decide) rfl
    exact W.iret (v := nI 0) hx hb hr (fun t9 ht hW => ⟨⟨_, ((fi, ip, se, nt, wb, fp, ft), nI 1), rfl, (Or.inl ⟨c_2, rfl, rfl⟩), ⟨by rw [ht]; exact hP9, hD9⟩⟩, hS.F ht⟩) hS.2.2 d_MD_grow_18
