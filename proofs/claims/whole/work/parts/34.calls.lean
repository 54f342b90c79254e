theorem d_MD_glue_0 : decode c_MD_glue 0 = .ok (.aload_n 0, 1) := by decide +kernel
theorem d_MD_glue_1 : decode c_MD_glue 1 = .ok (.aload_n 0, 1) := by decide +kernel
theorem d_MD_glue_2 : decode c_MD_glue 2 = .ok (.getfield 98, 3) := by decide +kernel
theorem d_MD_glue_5 : decode c_MD_glue 5 = .ok (.ifCond .le 7, 3) := by decide +kernel
theorem d_MD_glue_8 : decode c_MD_glue 8 = .ok (.iconst 1, 1) := by decide +kernel
theorem d_MD_glue_9 : decode c_MD_glue 9 = .ok (.goto 4, 3) := by decide +kernel
theorem d_MD_glue_12 : decode c_MD_glue 12 = .ok (.iconst 0, 1) := by decide +kernel
theorem d_MD_glue_13 : decode c_MD_glue 13 = .ok (.iconst 1, 1) := by decide +kernel
theorem d_MD_glue_14 : decode c_MD_glue 14 = .ok (.invokevirtual 105, 3) := by decide +kernel
theorem d_MD_glue_17 : decode c_MD_glue 17 = .ok (.ifCond .ne 35, 3) := by decide +kernel
theorem d_MD_glue_20 : decode c_MD_glue 20 = .ok (.aload_n 0, 1) := by decide +kernel
theorem d_MD_glue_21 : decode c_MD_glue 21 = .ok (.iload_n 1, 1) := by decide +kernel
theorem d_MD_glue_22 : decode c_MD_glue 22 = .ok (.iconst 1, 1) := by decide +kernel
theorem d_MD_glue_23 : decode c_MD_glue 23 = .ok (.bipush 99, 2) := by decide +kernel
theorem d_MD_glue_25 : decode c_MD_glue 25 = .ok (.invokestatic 59, 3) := by decide +kernel
theorem d_MD_glue_28 : decode c_MD_glue 28 = .ok (.ifCond .eq 12, 3) := by decide +kernel
theorem d_MD_glue_31 : decode c_MD_glue 31 = .ok (.iload_n 2, 1) := by decide +kernel
theorem d_MD_glue_32 : decode c_MD_glue 32 = .ok (.iconst 0, 1) := by decide +kernel
theorem d_MD_glue_33 : decode c_MD_glue 33 = .ok (.iconst 2, 1) := by decide +kernel
theorem d_MD_glue_34 : decode c_MD_glue 34 = .ok (.invokestatic 59, 3) := by decide +kernel
theorem d_MD_glue_37 : decode c_MD_glue 37 = .ok (.ifCond .ne 7, 3) := by decide +kernel
theorem d_MD_glue_40 : decode c_MD_glue 40 = .ok (.iconst 1, 1) := by decide +kernel
theorem d_MD_glue_41 : decode c_MD_glue 41 = .ok (.goto 4, 3) := by decide +kernel
theorem d_MD_glue_44 : decode c_MD_glue 44 = .ok (.iconst 0, 1) := by decide +kernel
theorem d_MD_glue_45 : decode c_MD_glue 45 = .ok (.iconst 2, 1) := by decide +kernel
theorem d_MD_glue_46 : decode c_MD_glue 46 = .ok (.invokevirtual 105, 3) := by decide +kernel
theorem d_MD_glue_49 : decode c_MD_glue 49 = .ok (.ifCond .eq 5, 3) := by decide +kernel
theorem d_MD_glue_52 : decode c_MD_glue 52 = .ok (.iconst 0, 1) := by decide +kernel
theorem d_MD_glue_53 : decode c_MD_glue 53 = .ok (.ireturn, 1) := by decide +kernel
theorem d_MD_glue_54 : decode c_MD_glue 54 = .ok (.aload_n 0, 1) := by decide +kernel
theorem d_MD_glue_55 : decode c_MD_glue 55 = .ok (.getfield 7, 3) := by decide +kernel
theorem d_MD_glue_58 : decode c_MD_glue 58 = .ok (.iload_n 1, 1) := by decide +kernel
theorem d_MD_glue_59 : decode c_MD_glue 59 = .ok (.iaload, 1) := by decide +kernel
theorem d_MD_glue_60 : decode c_MD_glue 60 = .ok (.istore_n 3, 1) := by decide +kernel
theorem d_MD_glue_61 : decode c_MD_glue 61 = .ok (.aload_n 0, 1) := by decide +kernel
theorem d_MD_glue_62 : decode c_MD_glue 62 = .ok (.getfield 7, 3) := by decide +kernel
theorem d_MD_glue_65 : decode c_MD_glue 65 = .ok (.iload_n 1, 1) := by decide +kernel
theorem d_MD_glue_66 : decode c_MD_glue 66 = .ok (.iload_n 2, 1) := by decide +kernel
theorem d_MD_glue_67 : decode c_MD_glue 67 = .ok (.iastore, 1) := by decide +kernel
theorem d_MD_glue_68 : decode c_MD_glue 68 = .ok (.iload_n 3, 1) := by decide +kernel
theorem d_MD_glue_69 : decode c_MD_glue 69 = .ok (.ireturn, 1) := by decide +kernel
theorem d_MD_temperature_0 : decode c_MD_temperature 0 = .ok (.aload_n 0, 1) := by decide +kernel
theorem d_MD_temperature_1 : decode c_MD_temperature 1 = .ok (.aload_n 0, 1) := by decide +kernel
theorem d_MD_temperature_2 : decode c_MD_temperature 2 = .ok (.getfield 98, 3) := by decide +kernel
theorem d_MD_temperature_5 : decode c_MD_temperature 5 = .ok (.ifCond .le 7, 3) := by decide +kernel
theorem d_MD_temperature_8 : decode c_MD_temperature 8 = .ok (.iconst 1, 1) := by decide +kernel
theorem d_MD_temperature_9 : decode c_MD_temperature 9 = .ok (.goto 4, 3) := by decide +kernel
theorem d_MD_temperature_12 : decode c_MD_temperature 12 = .ok (.iconst 0, 1) := by decide +kernel
theorem d_MD_temperature_13 : decode c_MD_temperature 13 = .ok (.iconst 1, 1) := by decide +kernel
theorem d_MD_temperature_14 : decode c_MD_temperature 14 = .ok (.invokevirtual 105, 3) := by decide +kernel
theorem d_MD_temperature_17 : decode c_MD_temperature 17 = .ok (.ifCond .ne 25, 3) := by decide +kernel
theorem d_MD_temperature_20 : decode c_MD_temperature 20 = .ok (.aload_n 0, 1) := by decide +kernel
theorem d_MD_temperature_21 : decode c_MD_temperature 21 = .ok (.iload_n 1, 1) := by decide +kernel
theorem d_MD_temperature_22 : decode c_MD_temperature 22 = .ok (.iconst 1, 1) := by decide +kernel
theorem d_MD_temperature_23 : decode c_MD_temperature 23 = .ok (.iconst 3, 1) := by decide +kernel
theorem d_MD_temperature_24 : decode c_MD_temperature 24 = .ok (.invokestatic 59, 3) := by decide +kernel
theorem d_MD_temperature_27 : decode c_MD_temperature 27 = .ok (.ifCond .ne 7, 3) := by decide +kernel
theorem d_MD_temperature_30 : decode c_MD_temperature 30 = .ok (.iconst 1, 1) := by decide +kernel
theorem d_MD_temperature_31 : decode c_MD_temperature 31 = .ok (.goto 4, 3) := by decide +kernel
theorem d_MD_temperature_34 : decode c_MD_temperature 34 = .ok (.iconst 0, 1) := by decide +kernel
theorem d_MD_temperature_35 : decode c_MD_temperature 35 = .ok (.iconst 2, 1) := by decide +kernel
theorem d_MD_temperature_36 : decode c_MD_temperature 36 = .ok (.invokevirtual 105, 3) := by decide +kernel
theorem d_MD_temperature_39 : decode c_MD_temperature 39 = .ok (.ifCond .eq 5, 3) := by decide +kernel
theorem d_MD_temperature_42 : decode c_MD_temperature 42 = .ok (.iconst 0, 1) := by decide +kernel
theorem d_MD_temperature_43 : decode c_MD_temperature 43 = .ok (.ireturn, 1) := by decide +kernel
theorem d_MD_temperature_44 : decode c_MD_temperature 44 = .ok (.aload_n 0, 1) := by decide +kernel
theorem d_MD_temperature_45 : decode c_MD_temperature 45 = .ok (.getfield 16, 3) := by decide +kernel
theorem d_MD_temperature_48 : decode c_MD_temperature 48 = .ok (.istore_n 2, 1) := by decide +kernel
theorem d_MD_temperature_49 : decode c_MD_temperature 49 = .ok (.aload_n 0, 1) := by decide +kernel
theorem d_MD_temperature_50 : decode c_MD_temperature 50 = .ok (.iload_n 1, 1) := by decide +kernel
theorem d_MD_temperature_51 : decode c_MD_temperature 51 = .ok (.putfield 16, 3) := by decide +kernel
theorem d_MD_temperature_54 : decode c_MD_temperature 54 = .ok (.iload_n 2, 1) := by decide +kernel
theorem d_MD_temperature_55 : decode c_MD_temperature 55 = .ok (.ireturn, 1) := by decide +kernel
theorem d_MD_seed_0 : decode c_MD_seed 0 = .ok (.aload_n 0, 1) := by decide +kernel
theorem d_MD_seed_1 : decode c_MD_seed 1 = .ok (.iload_n 1, 1) := by decide +kernel
theorem d_MD_seed_2 : decode c_MD_seed 2 = .ok (.iload_n 2, 1) := by decide +kernel
theorem d_MD_seed_3 : decode c_MD_seed 3 = .ok (.invokestatic 66, 3) := by decide +kernel
theorem d_MD_seed_6 : decode c_MD_seed 6 = .ok (.ifCond .ne 7, 3) := by decide +kernel
theorem d_MD_seed_9 : decode c_MD_seed 9 = .ok (.iconst 1, 1) := by decide +kernel
theorem d_MD_seed_10 : decode c_MD_seed 10 = .ok (.goto 4, 3) := by decide +kernel
theorem d_MD_seed_13 : decode c_MD_seed 13 = .ok (.iconst 0, 1) := by decide +kernel
theorem d_MD_seed_14 : decode c_MD_seed 14 = .ok (.iconst 1, 1) := by decide +kernel
theorem d_MD_seed_15 : decode c_MD_seed 15 = .ok (.invokevirtual 105, 3) := by decide +kernel
theorem d_MD_seed_18 : decode c_MD_seed 18 = .ok (.ifCond .ne 58, 3) := by decide +kernel
theorem d_MD_seed_21 : decode c_MD_seed 21 = .ok (.aload_n 0, 1) := by decide +kernel
theorem d_MD_seed_22 : decode c_MD_seed 22 = .ok (.aload_n 0, 1) := by decide +kernel
theorem d_MD_seed_23 : decode c_MD_seed 23 = .ok (.iload_n 3, 1) := by decide +kernel
theorem d_MD_seed_24 : decode c_MD_seed 24 = .ok (.invokevirtual 113, 3) := by decide +kernel
theorem d_MD_seed_27 : decode c_MD_seed 27 = .ok (.ifCond .ne 7, 3) := by decide +kernel
theorem d_MD_seed_30 : decode c_MD_seed 30 = .ok (.iconst 1, 1) := by decide +kernel
theorem d_MD_seed_31 : decode c_MD_seed 31 = .ok (.goto 4, 3) := by decide +kernel
theorem d_MD_seed_34 : decode c_MD_seed 34 = .ok (.iconst 0, 1) := by decide +kernel
theorem d_MD_seed_35 : decode c_MD_seed 35 = .ok (.iconst 2, 1) := by decide +kernel
theorem d_MD_seed_36 : decode c_MD_seed 36 = .ok (.invokevirtual 105, 3) := by decide +kernel
theorem d_MD_seed_39 : decode c_MD_seed 39 = .ok (.ifCond .ne 37, 3) := by decide +kernel
theorem d_MD_seed_42 : decode c_MD_seed 42 = .ok (.aload_n 0, 1) := by decide +kernel
theorem d_MD_seed_43 : decode c_MD_seed 43 = .ok (.aload_n 0, 1) := by decide +kernel
theorem d_MD_seed_44 : decode c_MD_seed 44 = .ok (.getfield 20, 3) := by decide +kernel
theorem d_MD_seed_47 : decode c_MD_seed 47 = .ok (.bipush 40, 2) := by decide +kernel
theorem d_MD_seed_49 : decode c_MD_seed 49 = .ok (.iload_n 2, 1) := by decide +kernel
theorem d_MD_seed_50 : decode c_MD_seed 50 = .ok (.imul, 1) := by decide +kernel
theorem d_MD_seed_51 : decode c_MD_seed 51 = .ok (.iload_n 1, 1) := by decide +kernel
theorem d_MD_seed_52 : decode c_MD_seed 52 = .ok (.iadd, 1) := by decide +kernel
theorem d_MD_seed_53 : decode c_MD_seed 53 = .ok (.iaload, 1) := by decide +kernel
theorem d_MD_seed_54 : decode c_MD_seed 54 = .ok (.ifCond .gt 10, 3) := by decide +kernel
theorem d_MD_seed_57 : decode c_MD_seed 57 = .ok (.aload_n 0, 1) := by decide +kernel
theorem d_MD_seed_58 : decode c_MD_seed 58 = .ok (.getfield 101, 3) := by decide +kernel
theorem d_MD_seed_61 : decode c_MD_seed 61 = .ok (.ifCond .eq 7, 3) := by decide +kernel
theorem d_MD_seed_64 : decode c_MD_seed 64 = .ok (.iconst 1, 1) := by decide +kernel
theorem d_MD_seed_65 : decode c_MD_seed 65 = .ok (.goto 4, 3) := by decide +kernel
theorem d_MD_seed_68 : decode c_MD_seed 68 = .ok (.iconst 0, 1) := by decide +kernel
theorem d_MD_seed_69 : decode c_MD_seed 69 = .ok (.iconst 3, 1) := by decide +kernel
theorem d_MD_seed_70 : decode c_MD_seed 70 = .ok (.invokevirtual 105, 3) := by decide +kernel
theorem d_MD_seed_73 : decode c_MD_seed 73 = .ok (.ifCond .eq 4, 3) := by decide +kernel
theorem d_MD_seed_76 : decode c_MD_seed 76 = .ok (.return_, 1) := by decide +kernel
theorem d_MD_seed_77 : decode c_MD_seed 77 = .ok (.aload_n 0, 1) := by decide +kernel
theorem d_MD_seed_78 : decode c_MD_seed 78 = .ok (.iload_n 1, 1) := by decide +kernel
theorem d_MD_seed_79 : decode c_MD_seed 79 = .ok (.iload_n 2, 1) := by decide +kernel
theorem d_MD_seed_80 : decode c_MD_seed 80 = .ok (.iload_n 3, 1) := by decide +kernel
theorem d_MD_seed_81 : decode c_MD_seed 81 = .ok (.invokevirtual 117, 3) := by decide +kernel
theorem d_MD_seed_84 : decode c_MD_seed 84 = .ok (.return_, 1) := by decide +kernel
theorem wiN_nat {x : Int32} {a b : Nat} (h : wiN x (nI a) (nI b) ≠ 0) (ha : a < 2 ^ 31) (hb : b < 2 ^ 31) : ∃ k : Nat, a ≤ k ∧ k ≤ b ∧ x = nI k := by
  unfold wiN at h
  by_cases c : x < nI a
  · rw [if_pos c] at h
    exact absurd rfl h
  · rw [if_neg c] at h
    by_cases d : nI b < x
    · rw [if_pos d] at h
      exact absurd rfl h
    · refine within_nat c ?_ ha hb
      rw [Int32.lt_iff_toInt_lt] at d
      rw [Int32.le_iff_toInt_le]
      omega
theorem isP_nat {x y : Int32} (h : isP x y ≠ 0) : ∃ a b : Nat, a < 40 ∧ b < 40 ∧ x = nI a ∧ y = nI b := by
  unfold isP at h
  by_cases c : wiN x (nI 0) (nI 39) = 0
  · rw [if_pos c] at h
    exact absurd rfl h
  · rw [if_neg c] at h
    by_cases d : wiN y (nI 0) (nI 39) = 0
    · rw [if_pos d] at h
      exact absurd rfl h
    · obtain ⟨a, -, ha, rfl⟩ := wiN_nat c (by decide) (by decide)
      obtain ⟨b, -, hb, rfl⟩ := wiN_nat d (by decide) (by decide)
      exact ⟨a, b, by omega, by omega, rfl, rfl⟩
def mgV (nt : Int32) (sg : Nat → Int32) (x y : Int32) : Int32 × (Nat → Int32) × Int32 :=
  if nt ≤ 0 then (if wiN x (nI 1) (nI 99) = 0 then (nI 0, sg, nI 2) else if wiN y (nI 0) (nI 2) = 0 then (nI 0, sg, nI 2) else (sg (nn x), upd sg (nn x) y, nI 0)) else (nI 0, sg, nI 1)
def mtV (nt te x : Int32) : Int32 × Int32 × Int32 := if nt ≤ 0 then (if wiN x (nI 1) (nI 3) = 0 then (nI 0, te, nI 2) else (te, x, nI 0)) else (nI 0, te, nI 1)
abbrev MS : Type := (Nat → Int32) × (Nat → Int32) × (Nat → Int32) × Int32 × Int32 × Int32
def msV (fi ip se : Nat → Int32) (nt wb yt x y z : Int32) : MS :=
  if isP x y = 0 then (fi, ip, se, nt, wb, nI 1) else if wiN z (nI 1) yt = 0 then (fi, ip, se, nt, wb, nI 2) else if 0 < fi (40 * nn y + nn x) then (fi, ip, se, nt, wb, nI 3) else if wb = 0 then (upd fi (40 * nn y + nn x) z, upd ip (40 * nn y + nn x) (nI 0), upd se (40 * nn y + nn x) (nI 1), nt + nI 1, wb, nI 0) else (fi, ip, se, nt, wb, nI 3)
def maV (sg gl fi ip se : Nat → Int32) (nt wb yt te x y z : Int32) : Int32 × MS :=
  if isP x y = 0 then (nI 0, fi, ip, se, nt, wb, nI 1) else if wiN z (nI 1) yt = 0 then (nI 0, fi, ip, se, nt, wb, nI 2) else if myN sg gl fi te (40 * nn y + nn x) (nn z) = 0 then (nI 0, fi, ip, se, nt, wb, nI 0)
  else (nI 1, upd fi (40 * nn y + nn x) (nI (nn z)), puI sg gl fi ip (40 * nn y + nn x) (nn z) 4, upd se (40 * nn y + nn x) (nI 0), nt + nI 1, nI 1, nI 0)
set_option maxHeartbeats 4000000 in
set_option maxRecDepth 100000 in
/-- glue -/
theorem k_MD_glue (l : Launch) (D : va_G) (cI cJ : ClassId) (w0 : Nat) (w1 : Nat) (w2 : Nat) (w3 : Nat) (w4 : Nat) (w5 : Nat) (w6 : Nat) (w7 : Nat) (w8 : Nat) (w9 : Nat) (w10 : Nat) (w11 : Nat) (w12 : Nat) (w13 : Nat) (w14 : Nat) (yt : Int32) (te : Int32) (nt : Int32) (wb : Int32) (rc : Int32) (fp : Int32) (ft : Int32) (th : Int32) (sg : Nat → Int32) (x : Int32) (y : Int32) (sz : Nat)  : Met l y_MD_glue ws_MD_glue ({ frames := 1, cells := 0, slots := 0, locals := 22 } : Room) (va_Pc [.ref w0, .int x, .int y] (Pw D cI cJ [(w0, .inr (5, [.ref w1, .ref w2, .int yt, .int te, .ref w3, .ref w4, .ref w5, .int nt, .int wb, .ref w6, .ref w7, .ref w8, .int rc, .ref w9, .ref w10, .ref w11, .ref w12, .ref w13, .ref w14, .int fp, .int ft, .int th])), (w1, .inl (cI, 100, .inl sg))] sz)) (va_Qi (fun (r : Int32) (u9 : (Nat → Int32) × Int32) => (r, u9) = mgV nt sg x y) (fun u9 t9 => Bw D (va_A [(w0, .inr (5, [.ref w1, .ref w2, .int yt, .int te, .ref w3, .ref w4, .ref w5, .int nt, .int wb, .ref w6, .ref w7, .ref w8, .int rc, .ref w9, .ref w10, .ref w11, .ref w12, .ref w13, .ref w14, .int fp, .int ft, .int th])), (w1, .inl (cI, 100, .inl sg))] sz) [(w0, .inr (5, [.ref w1, .ref w2, .int yt, .int te, .ref w3, .ref w4, .ref w5, .int nt, .int wb, .ref w6, .ref w7, .ref w8, .int rc, .ref w9, .ref w10, .ref w11, .ref w12, .ref w13, .ref w14, .int fp, .int ft, .int u9.2])), (w1, .inl (cI, 100, .inl u9.1))] t9) (va_A [(w0, .inr (5, [.ref w1, .ref w2, .int yt, .int te, .ref w3, .ref w4, .ref w5, .int nt, .int wb, .ref w6, .ref w7, .ref w8, .int rc, .ref w9, .ref w10, .ref w11, .ref w12, .ref w13, .ref w14, .int fp, .int ft, .int th])), (w1, .inl (cI, 100, .inl sg))] sz)) 0 0 (va_A [(w0, .inr (5, [.ref w1, .ref w2, .int yt, .int te, .ref w3, .ref w4, .ref w5, .int nt, .int wb, .ref w6, .ref w7, .ref w8, .int rc, .ref w9, .ref w10, .ref w11, .ref w12, .ref w13, .ref w14, .int fp, .int ft, .int th])), (w1, .inl (cI, 100, .inl sg))] sz) := by
  refine Met.ofW (cc := c_MD_glue) (maxL := 4) (ret := (some .int)) (by decide) rfl ?_
  intro p e s m args below meth c s₁ B hml hv
  obtain ⟨rfl, hsz, hE, hP, hD0, hX⟩ := hv
  have hx := B.exec
  have hb := B.bytes
  have hr := B.returns
  have hw : ∀ w ∈ gw, w.before _ s = true := fun w h => atoms_spec (ws := ws_MD_glue) B.pre w (List.mem_cons_of_mem _ h)
  have hown : s.vm.findClass R_MD = some m.cls := findClass_of_methodNamed B.named
  have hlocks := B.notSynchronized
  subst hsz
  have hD := hD0.self (sz := s.heap.size)
  generalize hAe : va_A [(w0, .inr (5, [.ref w1, .ref w2, .int yt, .int te, .ref w3, .ref w4, .ref w5, .int nt, .int wb, .ref w6, .ref w7, .ref w8, .int rc, .ref w9, .ref w10, .ref w11, .ref w12, .ref w13, .ref w14, .int fp, .int ft, .int th])), (w1, .inl (cI, 100, .inl sg))] s.heap.size = A at hD hX ⊢
  have hA : ∀ q : Nat, s.heap.size ≤ q → A q := fun q h => by rw [← hAe]; exact Or.inr h
  have hS : va_S A s.heap s.heap [] := va_S.rf
  have hP : va_P D vwCl [(w0, .inr (5, [.ref w1, .ref w2, .int yt, .int te, .ref w3, .ref w4, .ref w5, .int nt, .int wb, .ref w6, .ref w7, .ref w8, .int rc, .ref w9, .ref w10, .ref w11, .ref w12, .ref w13, .ref w14, .int fp, .int ft, .int th])), (w1, .inl (cI, 100, .inl sg))] s.heap := hP
  have hl := lv_entry ([.ref w0, .int x, .int y]) (n := 4) (Nat.le_of_ble_eq_true rfl)
  rw [lg_entry_eq]
  generalize (lg_sl ([.ref w0, .int x, .int y]) ++ List.replicate (4 - (lg_sl ([.ref w0, .int x, .int y])).length) Slot.unset).toArray = ls at hl ⊢
  have hl : lv_has ls 4 [(0, .ref w0), (1, .int x), (2, .int y)] := hl
  refine lv_aload_n hx hb d_MD_glue_0 rfl (lv_at hl 0 rfl) ?_
  refine lv_aload_n hx hb d_MD_glue_1 rfl (lv_at hl 0 rfl) ?_
  refine va_get (D := D) (ci := 5) (v := .int nt) (C := R_MD) (T := T_MD) (N := 22) hx hb hw in_MD hown hE.1 hP 0 rfl rfl 7 (by decide) (hw _ kw_768) (fun _ h9 => h9) rfl d_MD_glue_2 ?_
  refine lv_if_le (tgt := 12) hx hb d_MD_glue_5 (by decide) (fun c_5 => ?_) (fun c_5 => ?_)
  · skip
    refine lv_iconst (v := nI 0) hx hb d_MD_glue_12 (by decide +kernel) ?_
    refine lv_iconst (v := nI 1) hx hb d_MD_glue_13 (by decide +kernel) ?_
    refine cl_i (wr := [(w1, .inl (cI, 100, .inl sg))]) (va_runV (As := [.int (nI 0), .int (nI 1)]) (rest := []) ⟨hx, hb, hml, hown, hw⟩ (k_MD_fails l D cI cJ w0 w1 w2 w3 w4 w5 w6 w7 w8 w9 w10 w11 w12 w13 w14 yt te nt wb rc fp ft th 0 1 _ (by omega)) (cwV 2 hw (gV kw_836 kw_838 kw_20 kw_45 kw_839) rfl rfl rfl (by decide +kernel) ⟨Nat.le_of_ble_eq_true rfl, Nat.le_of_ble_eq_true rfl⟩) (pre_Vw (wc := [(w0, .inr (5, [.ref w1, .ref w2, .int yt, .int te, .ref w3, .ref w4, .ref w5, .int nt, .int wb, .ref w6, .ref w7, .ref w8, .int rc, .ref w9, .ref w10, .ref w11, .ref w12, .ref w13, .ref w14, .int fp, .int ft, .int th]))]) (q0 := 0) hE hX hA hP hD hS [0] (by decide) rfl rfl rfl rfl) rfl rfl hl.1 rfl (lv_room (Nat.le_of_ble_eq_true rfl)) d_MD_glue_14 ⟨Nat.le_of_ble_eq_true rfl, Nat.le_of_ble_eq_true rfl⟩) hP hD hS hA [0] [1] rfl rfl (by decide) (by decide) (fun r_1 u_r_1 H locs hr_1 hP hD hS => ?_)
    obtain rfl : nI 0 = r_1 := hr_1.symm
    have hP : va_P D vwCl [(w1, .inl (cI, 100, .inl sg)), (w0, .inr (5, [.ref w1, .ref w2, .int yt, .int te, .ref w3, .ref w4, .ref w5, .int nt, .int wb, .ref w6, .ref w7, .ref w8, .int rc, .ref w9, .ref w10, .ref w11, .ref w12, .ref w13, .ref w14, .int fp, .int ft, .int (nI (flN 0 1))]))] H := hP
    have hD : va_D A [(w1, .inl (cI, 100, .inl sg)), (w0, .inr (5, [.ref w1, .ref w2, .int yt, .int te, .ref w3, .ref w4, .ref w5, .int nt, .int wb, .ref w6, .ref w7, .ref w8, .int rc, .ref w9, .ref w10, .ref w11, .ref w12, .ref w13, .ref w14, .int fp, .int ft, .int (nI (flN 0 1))]))] := hD
    refine jn_if_ne (tgt := 52) (a := 0) hx hb d_MD_glue_17 (by decide) (by decide) (fun c9 => absurd c9 (by decide)) (fun _ => ?_)
    refine lv_aload_n hx hb d_MD_glue_20 rfl (lv_at hl 0 rfl) ?_
    refine lv_iload_n hx hb d_MD_glue_21 rfl (lv_at hl 1 rfl) ?_
    refine lv_iconst (v := nI 1) hx hb d_MD_glue_22 (by decide +kernel) ?_
    refine lv_bipush (v := nI 99) hx hb d_MD_glue_23 (by decide +kernel) ?_
    refine vp_callSi (va_Run.run (va_runS (As := [.int x, .int (nI 1), .int (nI 99)]) (rest := [.ref w0]) ⟨hx, hb, hml, hown, hw⟩ (k_MD_within l D cI cJ x (nI 1) (nI 99)) (va_cwS 3 hw (gS kw_840 kw_841 kw_45 kw_842) rfl rfl rfl (by decide +kernel) ⟨Nat.le_of_ble_eq_true rfl, Nat.le_of_ble_eq_true rfl⟩) (pre_Sp (wc := []) hE hX hP hS [] rfl) rfl rfl hl.1 rfl (lv_room (Nat.le_of_ble_eq_true rfl)) d_MD_glue_25 ⟨Nat.le_of_ble_eq_true rfl, Nat.le_of_ble_eq_true rfl⟩)) (fun r_2 hr_2 => ?_)
    obtain rfl : nI (wiN x (nI 1) (nI 99)) = r_2 := hr_2.symm
    refine jn_if_eq (tgt := 40) (a := (wiN x (nI 1) (nI 99))) hx hb d_MD_glue_28 (by decide) (by have := wiN_le x (nI 1) (nI 99); omega) (fun c_28 => ?_) (fun c_28 => ?_)
    · skip
      refine lv_iconst (v := nI 1) hx hb d_MD_glue_40 (by decide +kernel) ?_
      refine lv_goto (tgt := 45) hx hb d_MD_glue_41 (by decide) ?_
      refine lv_iconst (v := nI 2) hx hb d_MD_glue_45 (by decide +kernel) ?_
      refine cl_i (wr := [(w1, .inl (cI, 100, .inl sg))]) (va_runV (As := [.int (nI 1), .int (nI 2)]) (rest := []) ⟨hx, hb, hml, hown, hw⟩ (k_MD_fails l D cI cJ w0 w1 w2 w3 w4 w5 w6 w7 w8 w9 w10 w11 w12 w13 w14 yt te nt wb rc fp ft (nI (flN 0 1)) 1 2 _ (by omega)) (cwV 2 hw (gV kw_836 kw_838 kw_20 kw_45 kw_839) rfl rfl rfl (by decide +kernel) ⟨Nat.le_of_ble_eq_true rfl, Nat.le_of_ble_eq_true rfl⟩) (pre_Vw (wc := [(w0, .inr (5, [.ref w1, .ref w2, .int yt, .int te, .ref w3, .ref w4, .ref w5, .int nt, .int wb, .ref w6, .ref w7, .ref w8, .int rc, .ref w9, .ref w10, .ref w11, .ref w12, .ref w13, .ref w14, .int fp, .int ft, .int (nI (flN 0 1))]))]) (q0 := 0) hE hX hA hP hD hS [1] (by decide) rfl rfl rfl rfl) rfl rfl hl.1 rfl (lv_room (Nat.le_of_ble_eq_true rfl)) d_MD_glue_46 ⟨Nat.le_of_ble_eq_true rfl, Nat.le_of_ble_eq_true rfl⟩) hP hD hS hA [1] [0] rfl rfl (by decide) (by decide) (fun r_3 u_r_3 H locs hr_3 hP hD hS => ?_)
      obtain rfl : nI 1 = r_3 := hr_3.symm
      have hP : va_P D vwCl [(w1, .inl (cI, 100, .inl sg)), (w0, .inr (5, [.ref w1, .ref w2, .int yt, .int te, .ref w3, .ref w4, .ref w5, .int nt, .int wb, .ref w6, .ref w7, .ref w8, .int rc, .ref w9, .ref w10, .ref w11, .ref w12, .ref w13, .ref w14, .int fp, .int ft, .int (nI (flN 1 2))]))] H := hP
      have hD : va_D A [(w1, .inl (cI, 100, .inl sg)), (w0, .inr (5, [.ref w1, .ref w2, .int yt, .int te, .ref w3, .ref w4, .ref w5, .int nt, .int wb, .ref w6, .ref w7, .ref w8, .int rc, .ref w9, .ref w10, .ref w11, .ref w12, .ref w13, .ref w14, .int fp, .int ft, .int (nI (flN 1 2))]))] := hD
      refine jn_if_eq (tgt := 54) (a := 1) hx hb d_MD_glue_49 (by decide) (by decide) (fun c9 => absurd c9 (by decide)) (fun _ => ?_)
      refine lv_iconst (v := nI 0) hx hb d_MD_glue_52 (by decide +kernel) ?_
      have hP9 := hP.sub (ws' := [(w0, .inr (5, [.ref w1, .ref w2, .int yt, .int te, .ref w3, .ref w4, .ref w5, .int nt, .int wb, .ref w6, .ref w7, .ref w8, .int rc, .ref w9, .ref w10, .ref w11, .ref w12, .ref w13, .ref w14, .int fp, .int ft, .int (nI (flN 1 2))])), (w1, .inl (cI, 100, .inl sg))]) [1, 0] rfl
      have hD9 := hD.sub (ws' := [(w0, .inr (5, [.ref w1, .ref w2, .int yt, .int te, .ref w3, .ref w4, .ref w5, .int nt, .int wb, .ref w6, .ref w7, .ref w8, .int rc, .ref w9, .ref w10, .ref w11, .ref w12, .ref w13, .ref w14, .int fp, .int ft, .int (nI (flN 1 2))])), (w1, .inl (cI, 100, .inl sg))]) [1, 0] (by decide) rfl
      exact W.iret (v := nI 0) hx hb hr (fun t9 ht hW => ⟨⟨_, (sg, nI 2), rfl, (by unfold mgV; rw [if_pos c_5, if_pos c_28]; try rfl), ⟨by rw [ht]; exact hP9, hD9⟩⟩, hS.F ht⟩) hS.2.2 d_MD_glue_53
    · skip
      refine lv_iload_n hx hb d_MD_glue_31 rfl (lv_at hl 2 rfl) ?_
      refine lv_iconst (v := nI 0) hx hb d_MD_glue_32 (by decide +kernel) ?_
      refine lv_iconst (v := nI 2) hx hb d_MD_glue_33 (by decide +kernel) ?_
      refine vp_callSi (va_Run.run (va_runS (As := [.int y, .int (nI 0), .int (nI 2)]) (rest := [.ref w0]) ⟨hx, hb, hml, hown, hw⟩ (k_MD_within l D cI cJ y (nI 0) (nI 2)) (va_cwS 3 hw (gS kw_840 kw_841 kw_45 kw_842) rfl rfl rfl (by decide +kernel) ⟨Nat.le_of_ble_eq_true rfl, Nat.le_of_ble_eq_true rfl⟩) (pre_Sp (wc := []) hE hX hP hS [] rfl) rfl rfl hl.1 rfl (lv_room (Nat.le_of_ble_eq_true rfl)) d_MD_glue_34 ⟨Nat.le_of_ble_eq_true rfl, Nat.le_of_ble_eq_true rfl⟩)) (fun r_4 hr_4 => ?_)
      obtain rfl : nI (wiN y (nI 0) (nI 2)) = r_4 := hr_4.symm
      refine jn_if_ne (tgt := 44) (a := (wiN y (nI 0) (nI 2))) hx hb d_MD_glue_37 (by decide) (by have := wiN_le y (nI 0) (nI 2); omega) (fun c_37 => ?_) (fun c_37 => ?_)
      · skip
        refine lv_iconst (v := nI 0) hx hb d_MD_glue_44 (by decide +kernel) ?_
        refine lv_iconst (v := nI 2) hx hb d_MD_glue_45 (by decide +kernel) ?_
        refine cl_i (wr := [(w1, .inl (cI, 100, .inl sg))]) (va_runV (As := [.int (nI 0), .int (nI 2)]) (rest := []) ⟨hx, hb, hml, hown, hw⟩ (k_MD_fails l D cI cJ w0 w1 w2 w3 w4 w5 w6 w7 w8 w9 w10 w11 w12 w13 w14 yt te nt wb rc fp ft (nI (flN 0 1)) 0 2 _ (by omega)) (cwV 2 hw (gV kw_836 kw_838 kw_20 kw_45 kw_839) rfl rfl rfl (by decide +kernel) ⟨Nat.le_of_ble_eq_true rfl, Nat.le_of_ble_eq_true rfl⟩) (pre_Vw (wc := [(w0, .inr (5, [.ref w1, .ref w2, .int yt, .int te, .ref w3, .ref w4, .ref w5, .int nt, .int wb, .ref w6, .ref w7, .ref w8, .int rc, .ref w9, .ref w10, .ref w11, .ref w12, .ref w13, .ref w14, .int fp, .int ft, .int (nI (flN 0 1))]))]) (q0 := 0) hE hX hA hP hD hS [1] (by decide) rfl rfl rfl rfl) rfl rfl hl.1 rfl (lv_room (Nat.le_of_ble_eq_true rfl)) d_MD_glue_46 ⟨Nat.le_of_ble_eq_true rfl, Nat.le_of_ble_eq_true rfl⟩) hP hD hS hA [1] [0] rfl rfl (by decide) (by decide) (fun r_5 u_r_5 H locs hr_5 hP hD hS => ?_)
        obtain rfl : nI 0 = r_5 := hr_5.symm
        have hP : va_P D vwCl [(w1, .inl (cI, 100, .inl sg)), (w0, .inr (5, [.ref w1, .ref w2, .int yt, .int te, .ref w3, .ref w4, .ref w5, .int nt, .int wb, .ref w6, .ref w7, .ref w8, .int rc, .ref w9, .ref w10, .ref w11, .ref w12, .ref w13, .ref w14, .int fp, .int ft, .int (nI (flN 0 2))]))] H := hP
        have hD : va_D A [(w1, .inl (cI, 100, .inl sg)), (w0, .inr (5, [.ref w1, .ref w2, .int yt, .int te, .ref w3, .ref w4, .ref w5, .int nt, .int wb, .ref w6, .ref w7, .ref w8, .int rc, .ref w9, .ref w10, .ref w11, .ref w12, .ref w13, .ref w14, .int fp, .int ft, .int (nI (flN 0 2))]))] := hD
        refine jn_if_eq (tgt := 54) (a := 0) hx hb d_MD_glue_49 (by decide) (by decide) (fun _ => ?_) (fun c9 => absurd c9 (by decide))
        obtain ⟨k9, hk1, hk2, rfl⟩ := wiN_nat c_28 (by decide) (by decide)
        refine lv_aload_n hx hb d_MD_glue_54 rfl (lv_at hl 0 rfl) ?_
        refine va_get (D := D) (ci := 5) (v := .ref w1) (C := R_MD) (T := T_MD) (N := 22) hx hb hw in_MD hown hE.1 hP 1 rfl rfl 0 (by decide) (hw _ kw_761) (fun _ h9 => h9) rfl d_MD_glue_55 ?_
        refine lv_iload_n hx hb d_MD_glue_58 rfl (lv_at hl 1 rfl) ?_
        refine jn_iald (k := k9) hx hb hE.1 hP 0 0 rfl rfl (by omega) (by omega) d_MD_glue_59 ?_
        refine lv_istore_n (lv' := [(3, .int (sg k9)), (0, .ref w0), (1, .int (nI k9)), (2, .int y)]) hx hb d_MD_glue_60 rfl hl (by decide) rfl (fun ls hl => ?_)
        refine lv_aload_n hx hb d_MD_glue_61 rfl (lv_at hl 1 rfl) ?_
        refine va_get (D := D) (ci := 5) (v := .ref w1) (C := R_MD) (T := T_MD) (N := 22) hx hb hw in_MD hown hE.1 hP 1 rfl rfl 0 (by decide) (hw _ kw_761) (fun _ h9 => h9) rfl d_MD_glue_62 ?_
        refine lv_iload_n hx hb d_MD_glue_65 rfl (lv_at hl 2 rfl) ?_
        refine lv_iload_n hx hb d_MD_glue_66 rfl (lv_at hl 3 rfl) ?_
        refine jn_iast (k := k9) hx hb hE.1 hP hD hS 0 0 rfl rfl (by omega) (by omega) d_MD_glue_67 (fun H locs hP hD hS => ?_)
        have hP : va_P D vwCl [(w1, .inl (cI, 100, .inl (upd sg k9 y))), (w0, .inr (5, [.ref w1, .ref w2, .int yt, .int te, .ref w3, .ref w4, .ref w5, .int nt, .int wb, .ref w6, .ref w7, .ref w8, .int rc, .ref w9, .ref w10, .ref w11, .ref w12, .ref w13, .ref w14, .int fp, .int ft, .int (nI (flN 0 2))]))] H := hP
        have hD : va_D A [(w1, .inl (cI, 100, .inl (upd sg k9 y))), (w0, .inr (5, [.ref w1, .ref w2, .int yt, .int te, .ref w3, .ref w4, .ref w5, .int nt, .int wb, .ref w6, .ref w7, .ref w8, .int rc, .ref w9, .ref w10, .ref w11, .ref w12, .ref w13, .ref w14, .int fp, .int ft, .int (nI (flN 0 2))]))] := hD
        refine lv_iload_n hx hb d_MD_glue_68 rfl (lv_at hl 0 rfl) ?_
        have hP9 := hP.sub (ws' := [(w0, .inr (5, [.ref w1, .ref w2, .int yt, .int te, .ref w3, .ref w4, .ref w5, .int nt, .int wb, .ref w6, .ref w7, .ref w8, .int rc, .ref w9, .ref w10, .ref w11, .ref w12, .ref w13, .ref w14, .int fp, .int ft, .int (nI (flN 0 2))])), (w1, .inl (cI, 100, .inl (upd sg k9 y)))]) [1, 0] rfl
        have hD9 := hD.sub (ws' := [(w0, .inr (5, [.ref w1, .ref w2, .int yt, .int te, .ref w3, .ref w4, .ref w5, .int nt, .int wb, .ref w6, .ref w7, .ref w8, .int rc, .ref w9, .ref w10, .ref w11, .ref w12, .ref w13, .ref w14, .int fp, .int ft, .int (nI (flN 0 2))])), (w1, .inl (cI, 100, .inl (upd sg k9 y)))]) [1, 0] (by decide) rfl
        exact W.iret (v := sg k9) hx hb hr (fun t9 ht hW => ⟨⟨_, (upd sg k9 y, nI 0), rfl, (by unfold mgV; rw [if_pos c_5, if_neg c_28, if_neg c_37, nn_nI (show k9 < 2 ^ 31 by omega)]; try rfl), ⟨by rw [ht]; exact hP9, hD9⟩⟩, hS.F ht⟩) hS.2.2 d_MD_glue_69
      · skip
        refine lv_iconst (v := nI 1) hx hb d_MD_glue_40 (by decide +kernel) ?_
        refine lv_goto (tgt := 45) hx hb d_MD_glue_41 (by decide) ?_
        refine lv_iconst (v := nI 2) hx hb d_MD_glue_45 (by decide +kernel) ?_
        refine cl_i (wr := [(w1, .inl (cI, 100, .inl sg))]) (va_runV (As := [.int (nI 1), .int (nI 2)]) (rest := []) ⟨hx, hb, hml, hown, hw⟩ (k_MD_fails l D cI cJ w0 w1 w2 w3 w4 w5 w6 w7 w8 w9 w10 w11 w12 w13 w14 yt te nt wb rc fp ft (nI (flN 0 1)) 1 2 _ (by omega)) (cwV 2 hw (gV kw_836 kw_838 kw_20 kw_45 kw_839) rfl rfl rfl (by decide +kernel) ⟨Nat.le_of_ble_eq_true rfl, Nat.le_of_ble_eq_true rfl⟩) (pre_Vw (wc := [(w0, .inr (5, [.ref w1, .ref w2, .int yt, .int te, .ref w3, .ref w4, .ref w5, .int nt, .int wb, .ref w6, .ref w7, .ref w8, .int rc, .ref w9, .ref w10, .ref w11, .ref w12, .ref w13, .ref w14, .int fp, .int ft, .int (nI (flN 0 1))]))]) (q0 := 0) hE hX hA hP hD hS [1] (by decide) rfl rfl rfl rfl) rfl rfl hl.1 rfl (lv_room (Nat.le_of_ble_eq_true rfl)) d_MD_glue_46 ⟨Nat.le_of_ble_eq_true rfl, Nat.le_of_ble_eq_true rfl⟩) hP hD hS hA [1] [0] rfl rfl (by decide) (by decide) (fun r_6 u_r_6 H locs hr_6 hP hD hS => ?_)
        obtain rfl : nI 1 = r_6 := hr_6.symm
        have hP : va_P D vwCl [(w1, .inl (cI, 100, .inl sg)), (w0, .inr (5, [.ref w1, .ref w2, .int yt, .int te, .ref w3, .ref w4, .ref w5, .int nt, .int wb, .ref w6, .ref w7, .ref w8, .int rc, .ref w9, .ref w10, .ref w11, .ref w12, .ref w13, .ref w14, .int fp, .int ft, .int (nI (flN 1 2))]))] H := hP
        have hD : va_D A [(w1, .inl (cI, 100, .inl sg)), (w0, .inr (5, [.ref w1, .ref w2, .int yt, .int te, .ref w3, .ref w4, .ref w5, .int nt, .int wb, .ref w6, .ref w7, .ref w8, .int rc, .ref w9, .ref w10, .ref w11, .ref w12, .ref w13, .ref w14, .int fp, .int ft, .int (nI (flN 1 2))]))] := hD
        refine jn_if_eq (tgt := 54) (a := 1) hx hb d_MD_glue_49 (by decide) (by decide) (fun c9 => absurd c9 (by decide)) (fun _ => ?_)
        refine lv_iconst (v := nI 0) hx hb d_MD_glue_52 (by decide +kernel) ?_
        have hP9 := hP.sub (ws' := [(w0, .inr (5, [.ref w1, .ref w2, .int yt, .int te, .ref w3, .ref w4, .ref w5, .int nt, .int wb, .ref w6, .ref w7, .ref w8, .int rc, .ref w9, .ref w10, .ref w11, .ref w12, .ref w13, .ref w14, .int fp, .int ft, .int (nI (flN 1 2))])), (w1, .inl (cI, 100, .inl sg))]) [1, 0] rfl
        have hD9 := hD.sub (ws' := [(w0, .inr (5, [.ref w1, .ref w2, .int yt, .int te, .ref w3, .ref w4, .ref w5, .int nt, .int wb, .ref w6, .ref w7, .ref w8, .int rc, .ref w9, .ref w10, .ref w11, .ref w12, .ref w13, .ref w14, .int fp, .int ft, .int (nI (flN 1 2))])), (w1, .inl (cI, 100, .inl sg))]) [1, 0] (by decide) rfl
        exact W.iret (v := nI 0) hx hb hr (fun t9 ht hW => ⟨⟨_, (sg, nI 2), rfl, (by unfold mgV; rw [if_pos c_5, if_neg c_28, if_pos c_37]; try rfl), ⟨by rw [ht]; exact hP9, hD9⟩⟩, hS.F ht⟩) hS.2.2 d_MD_glue_53
  · skip
    refine lv_iconst (v := nI 1) hx hb d_MD_glue_8 (by decide +kernel) ?_
    refine lv_goto (tgt := 13) hx hb d_MD_glue_9 (by decide) ?_
    refine lv_iconst (v := nI 1) hx hb d_MD_glue_13 (by decide +kernel) ?_
    refine cl_i (wr := [(w1, .inl (cI, 100, .inl sg))]) (va_runV (As := [.int (nI 1), .int (nI 1)]) (rest := []) ⟨hx, hb, hml, hown, hw⟩ (k_MD_fails l D cI cJ w0 w1 w2 w3 w4 w5 w6 w7 w8 w9 w10 w11 w12 w13 w14 yt te nt wb rc fp ft th 1 1 _ (by omega)) (cwV 2 hw (gV kw_836 kw_838 kw_20 kw_45 kw_839) rfl rfl rfl (by decide +kernel) ⟨Nat.le_of_ble_eq_true rfl, Nat.le_of_ble_eq_true rfl⟩) (pre_Vw (wc := [(w0, .inr (5, [.ref w1, .ref w2, .int yt, .int te, .ref w3, .ref w4, .ref w5, .int nt, .int wb, .ref w6, .ref w7, .ref w8, .int rc, .ref w9, .ref w10, .ref w11, .ref w12, .ref w13, .ref w14, .int fp, .int ft, .int th]))]) (q0 := 0) hE hX hA hP hD hS [0] (by decide) rfl rfl rfl rfl) rfl rfl hl.1 rfl (lv_room (Nat.le_of_ble_eq_true rfl)) d_MD_glue_14 ⟨Nat.le_of_ble_eq_true rfl, Nat.le_of_ble_eq_true rfl⟩) hP hD hS hA [0] [1] rfl rfl (by decide) (by decide) (fun r_7 u_r_7 H locs hr_7 hP hD hS => ?_)
    obtain rfl : nI 1 = r_7 := hr_7.symm
    have hP : va_P D vwCl [(w1, .inl (cI, 100, .inl sg)), (w0, .inr (5, [.ref w1, .ref w2, .int yt, .int te, .ref w3, .ref w4, .ref w5, .int nt, .int wb, .ref w6, .ref w7, .ref w8, .int rc, .ref w9, .ref w10, .ref w11, .ref w12, .ref w13, .ref w14, .int fp, .int ft, .int (nI (flN 1 1))]))] H := hP
    have hD : va_D A [(w1, .inl (cI, 100, .inl sg)), (w0, .inr (5, [.ref w1, .ref w2, .int yt, .int te, .ref w3, .ref w4, .ref w5, .int nt, .int wb, .ref w6, .ref w7, .ref w8, .int rc, .ref w9, .ref w10, .ref w11, .ref w12, .ref w13, .ref w14, .int fp, .int ft, .int (nI (flN 1 1))]))] := hD
    refine jn_if_ne (tgt := 52) (a := 1) hx hb d_MD_glue_17 (by decide) (by decide) (fun _ => ?_) (fun c9 => absurd c9 (by decide))
    refine lv_iconst (v := nI 0) hx hb d_MD_glue_52 (by decide +kernel) ?_
    have hP9 := hP.sub (ws' := [(w0, .inr (5, [.ref w1, .ref w2, .int yt, .int te, .ref w3, .ref w4, .ref w5, .int nt, .int wb, .ref w6, .ref w7, .ref w8, .int rc, .ref w9, .ref w10, .ref w11, .ref w12, .ref w13, .ref w14, .int fp, .int ft, .int (nI (flN 1 1))])), (w1, .inl (cI, 100, .inl sg))]) [1, 0] rfl
    have hD9 := hD.sub (ws' := [(w0, .inr (5, [.ref w1, .ref w2, .int yt, .int te, .ref w3, .ref w4, .ref w5, .int nt, .int wb, .ref w6, .ref w7, .ref w8, .int rc, .ref w9, .ref w10, .ref w11, .ref w12, .ref w13, .ref w14, .int fp, .int ft, .int (nI (flN 1 1))])), (w1, .inl (cI, 100, .inl sg))]) [1, 0] (by decide) rfl
    exact W.iret (v := nI 0) hx hb hr (fun t9 ht hW => ⟨⟨_, (sg, nI 1), rfl, (by unfold mgV; rw [if_neg c_5]; try rfl), ⟨by rw [ht]; exact hP9, hD9⟩⟩, hS.F ht⟩) hS.2.2 d_MD_glue_53
set_option maxHeartbeats 4000000 in
set_option maxRecDepth 100000 in
/-- temperature -/
theorem k_MD_temperature (l : Launch) (D : va_G) (cI cJ : ClassId) (w0 : Nat) (w1 : Nat) (w2 : Nat) (w3 : Nat) (w4 : Nat) (w5 : Nat) (w6 : Nat) (w7 : Nat) (w8 : Nat) (w9 : Nat) (w10 : Nat) (w11 : Nat) (w12 : Nat) (w13 : Nat) (w14 : Nat) (yt : Int32) (te : Int32) (nt : Int32) (wb : Int32) (rc : Int32) (fp : Int32) (ft : Int32) (th : Int32) (x : Int32) (sz : Nat)  : Met l y_MD_temperature ws_MD_temperature ({ frames := 1, cells := 0, slots := 0, locals := 22 } : Room) (va_Pc [.ref w0, .int x] (Pw D cI cJ [(w0, .inr (5, [.ref w1, .ref w2, .int yt, .int te, .ref w3, .ref w4, .ref w5, .int nt, .int wb, .ref w6, .ref w7, .ref w8, .int rc, .ref w9, .ref w10, .ref w11, .ref w12, .ref w13, .ref w14, .int fp, .int ft, .int th]))] sz)) (va_Qi (fun (r : Int32) (u9 : Int32 × Int32) => (r, u9) = mtV nt te x) (fun u9 t9 => Bw D (va_A [(w0, .inr (5, [.ref w1, .ref w2, .int yt, .int te, .ref w3, .ref w4, .ref w5, .int nt, .int wb, .ref w6, .ref w7, .ref w8, .int rc, .ref w9, .ref w10, .ref w11, .ref w12, .ref w13, .ref w14, .int fp, .int ft, .int th]))] sz) [(w0, .inr (5, [.ref w1, .ref w2, .int yt, .int u9.1, .ref w3, .ref w4, .ref w5, .int nt, .int wb, .ref w6, .ref w7, .ref w8, .int rc, .ref w9, .ref w10, .ref w11, .ref w12, .ref w13, .ref w14, .int fp, .int ft, .int u9.2]))] t9) (va_A [(w0, .inr (5, [.ref w1, .ref w2, .int yt, .int te, .ref w3, .ref w4, .ref w5, .int nt, .int wb, .ref w6, .ref w7, .ref w8, .int rc, .ref w9, .ref w10, .ref w11, .ref w12, .ref w13, .ref w14, .int fp, .int ft, .int th]))] sz)) 0 0 (va_A [(w0, .inr (5, [.ref w1, .ref w2, .int yt, .int te, .ref w3, .ref w4, .ref w5, .int nt, .int wb, .ref w6, .ref w7, .ref w8, .int rc, .ref w9, .ref w10, .ref w11, .ref w12, .ref w13, .ref w14, .int fp, .int ft, .int th]))] sz) := by
  refine Met.ofW (cc := c_MD_temperature) (maxL := 3) (ret := (some .int)) (by decide) rfl ?_
  intro p e s m args below meth c s₁ B hml hv
  obtain ⟨rfl, hsz, hE, hP, hD0, hX⟩ := hv
  have hx := B.exec
  have hb := B.bytes
  have hr := B.returns
  have hw : ∀ w ∈ gw, w.before _ s = true := fun w h => atoms_spec (ws := ws_MD_temperature) B.pre w (List.mem_cons_of_mem _ h)
  have hown : s.vm.findClass R_MD = some m.cls := findClass_of_methodNamed B.named
  have hlocks := B.notSynchronized
  subst hsz
  have hD := hD0.self (sz := s.heap.size)
  generalize hAe : va_A [(w0, .inr (5, [.ref w1, .ref w2, .int yt, .int te, .ref w3, .ref w4, .ref w5, .int nt, .int wb, .ref w6, .ref w7, .ref w8, .int rc, .ref w9, .ref w10, .ref w11, .ref w12, .ref w13, .ref w14, .int fp, .int ft, .int th]))] s.heap.size = A at hD hX ⊢
  have hA : ∀ q : Nat, s.heap.size ≤ q → A q := fun q h => by rw [← hAe]; exact Or.inr h
  have hS : va_S A s.heap s.heap [] := va_S.rf
  have hP : va_P D vwCl [(w0, .inr (5, [.ref w1, .ref w2, .int yt, .int te, .ref w3, .ref w4, .ref w5, .int nt, .int wb, .ref w6, .ref w7, .ref w8, .int rc, .ref w9, .ref w10, .ref w11, .ref w12, .ref w13, .ref w14, .int fp, .int ft, .int th]))] s.heap := hP
  have hl := lv_entry ([.ref w0, .int x]) (n := 3) (Nat.le_of_ble_eq_true rfl)
  rw [lg_entry_eq]
  generalize (lg_sl ([.ref w0, .int x]) ++ List.replicate (3 - (lg_sl ([.ref w0, .int x])).length) Slot.unset).toArray = ls at hl ⊢
  have hl : lv_has ls 3 [(0, .ref w0), (1, .int x)] := hl
  refine lv_aload_n hx hb d_MD_temperature_0 rfl (lv_at hl 0 rfl) ?_
  refine lv_aload_n hx hb d_MD_temperature_1 rfl (lv_at hl 0 rfl) ?_
  refine va_get (D := D) (ci := 5) (v := .int nt) (C := R_MD) (T := T_MD) (N := 22) hx hb hw in_MD hown hE.1 hP 0 rfl rfl 7 (by decide) (hw _ kw_768) (fun _ h9 => h9) rfl d_MD_temperature_2 ?_
  refine lv_if_le (tgt := 12) hx hb d_MD_temperature_5 (by decide) (fun c_5 => ?_) (fun c_5 => ?_)
  · skip
    refine lv_iconst (v := nI 0) hx hb d_MD_temperature_12 (by decide +kernel) ?_
    refine lv_iconst (v := nI 1) hx hb d_MD_temperature_13 (by decide +kernel) ?_
    refine cl_i (wr := []) (va_runV (As := [.int (nI 0), .int (nI 1)]) (rest := []) ⟨hx, hb, hml, hown, hw⟩ (k_MD_fails l D cI cJ w0 w1 w2 w3 w4 w5 w6 w7 w8 w9 w10 w11 w12 w13 w14 yt te nt wb rc fp ft th 0 1 _ (by omega)) (cwV 2 hw (gV kw_836 kw_838 kw_20 kw_45 kw_839) rfl rfl rfl (by decide +kernel) ⟨Nat.le_of_ble_eq_true rfl, Nat.le_of_ble_eq_true rfl⟩) (pre_Vw (wc := [(w0, .inr (5, [.ref w1, .ref w2, .int yt, .int te, .ref w3, .ref w4, .ref w5, .int nt, .int wb, .ref w6, .ref w7, .ref w8, .int rc, .ref w9, .ref w10, .ref w11, .ref w12, .ref w13, .ref w14, .int fp, .int ft, .int th]))]) (q0 := 0) hE hX hA hP hD hS [0] (by decide) rfl rfl rfl rfl) rfl rfl hl.1 rfl (lv_room (Nat.le_of_ble_eq_true rfl)) d_MD_temperature_14 ⟨Nat.le_of_ble_eq_true rfl, Nat.le_of_ble_eq_true rfl⟩) hP hD hS hA [0] [] rfl rfl (by decide) (by decide) (fun r_1 u_r_1 H locs hr_1 hP hD hS => ?_)
    obtain rfl : nI 0 = r_1 := hr_1.symm
    have hP : va_P D vwCl [(w0, .inr (5, [.ref w1, .ref w2, .int yt, .int te, .ref w3, .ref w4, .ref w5, .int nt, .int wb, .ref w6, .ref w7, .ref w8, .int rc, .ref w9, .ref w10, .ref w11, .ref w12, .ref w13, .ref w14, .int fp, .int ft, .int (nI (flN 0 1))]))] H := hP
    have hD : va_D A [(w0, .inr (5, [.ref w1, .ref w2, .int yt, .int te, .ref w3, .ref w4, .ref w5, .int nt, .int wb, .ref w6, .ref w7, .ref w8, .int rc, .ref w9, .ref w10, .ref w11, .ref w12, .ref w13, .ref w14, .int fp, .int ft, .int (nI (flN 0 1))]))] := hD
    refine jn_if_ne (tgt := 42) (a := 0) hx hb d_MD_temperature_17 (by decide) (by decide) (fun c9 => absurd c9 (by decide)) (fun _ => ?_)
    refine lv_aload_n hx hb d_MD_temperature_20 rfl (lv_at hl 0 rfl) ?_
    refine lv_iload_n hx hb d_MD_temperature_21 rfl (lv_at hl 1 rfl) ?_
    refine lv_iconst (v := nI 1) hx hb d_MD_temperature_22 (by decide +kernel) ?_
    refine lv_iconst (v := nI 3) hx hb d_MD_temperature_23 (by decide +kernel) ?_
    refine vp_callSi (va_Run.run (va_runS (As := [.int x, .int (nI 1), .int (nI 3)]) (rest := [.ref w0]) ⟨hx, hb, hml, hown, hw⟩ (k_MD_within l D cI cJ x (nI 1) (nI 3)) (va_cwS 3 hw (gS kw_840 kw_841 kw_45 kw_842) rfl rfl rfl (by decide +kernel) ⟨Nat.le_of_ble_eq_true rfl, Nat.le_of_ble_eq_true rfl⟩) (pre_Sp (wc := []) hE hX hP hS [] rfl) rfl rfl hl.1 rfl (lv_room (Nat.le_of_ble_eq_true rfl)) d_MD_temperature_24 ⟨Nat.le_of_ble_eq_true rfl, Nat.le_of_ble_eq_true rfl⟩)) (fun r_2 hr_2 => ?_)
    obtain rfl : nI (wiN x (nI 1) (nI 3)) = r_2 := hr_2.symm
    refine jn_if_ne (tgt := 34) (a := (wiN x (nI 1) (nI 3))) hx hb d_MD_temperature_27 (by decide) (by have := wiN_le x (nI 1) (nI 3); omega) (fun c_27 => ?_) (fun c_27 => ?_)
    · skip
      refine lv_iconst (v := nI 0) hx hb d_MD_temperature_34 (by decide +kernel) ?_
      refine lv_iconst (v := nI 2) hx hb d_MD_temperature_35 (by decide +kernel) ?_
      refine cl_i (wr := []) (va_runV (As := [.int (nI 0), .int (nI 2)]) (rest := []) ⟨hx, hb, hml, hown, hw⟩ (k_MD_fails l D cI cJ w0 w1 w2 w3 w4 w5 w6 w7 w8 w9 w10 w11 w12 w13 w14 yt te nt wb rc fp ft (nI (flN 0 1)) 0 2 _ (by omega)) (cwV 2 hw (gV kw_836 kw_838 kw_20 kw_45 kw_839) rfl rfl rfl (by decide +kernel) ⟨Nat.le_of_ble_eq_true rfl, Nat.le_of_ble_eq_true rfl⟩) (pre_Vw (wc := [(w0, .inr (5, [.ref w1, .ref w2, .int yt, .int te, .ref w3, .ref w4, .ref w5, .int nt, .int wb, .ref w6, .ref w7, .ref w8, .int rc, .ref w9, .ref w10, .ref w11, .ref w12, .ref w13, .ref w14, .int fp, .int ft, .int (nI (flN 0 1))]))]) (q0 := 0) hE hX hA hP hD hS [0] (by decide) rfl rfl rfl rfl) rfl rfl hl.1 rfl (lv_room (Nat.le_of_ble_eq_true rfl)) d_MD_temperature_36 ⟨Nat.le_of_ble_eq_true rfl, Nat.le_of_ble_eq_true rfl⟩) hP hD hS hA [0] [] rfl rfl (by decide) (by decide) (fun r_3 u_r_3 H locs hr_3 hP hD hS => ?_)
      obtain rfl : nI 0 = r_3 := hr_3.symm
      have hP : va_P D vwCl [(w0, .inr (5, [.ref w1, .ref w2, .int yt, .int te, .ref w3, .ref w4, .ref w5, .int nt, .int wb, .ref w6, .ref w7, .ref w8, .int rc, .ref w9, .ref w10, .ref w11, .ref w12, .ref w13, .ref w14, .int fp, .int ft, .int (nI (flN 0 2))]))] H := hP
      have hD : va_D A [(w0, .inr (5, [.ref w1, .ref w2, .int yt, .int te, .ref w3, .ref w4, .ref w5, .int nt, .int wb, .ref w6, .ref w7, .ref w8, .int rc, .ref w9, .ref w10, .ref w11, .ref w12, .ref w13, .ref w14, .int fp, .int ft, .int (nI (flN 0 2))]))] := hD
      refine jn_if_eq (tgt := 44) (a := 0) hx hb d_MD_temperature_39 (by decide) (by decide) (fun _ => ?_) (fun c9 => absurd c9 (by decide))
      refine lv_aload_n hx hb d_MD_temperature_44 rfl (lv_at hl 0 rfl) ?_
      refine va_get (D := D) (ci := 5) (v := .int te) (C := R_MD) (T := T_MD) (N := 22) hx hb hw in_MD hown hE.1 hP 0 rfl rfl 3 (by decide) (hw _ kw_764) (fun _ h9 => h9) rfl d_MD_temperature_45 ?_
      refine lv_istore_n (lv' := [(2, .int te), (0, .ref w0), (1, .int x)]) hx hb d_MD_temperature_48 rfl hl (by decide) rfl (fun ls hl => ?_)
      refine lv_aload_n hx hb d_MD_temperature_49 rfl (lv_at hl 1 rfl) ?_
      refine lv_iload_n hx hb d_MD_temperature_50 rfl (lv_at hl 2 rfl) ?_
      refine va_put (D := D) (ci := 5) (v := .int x) (ty := .int) (C := R_MD) (T := T_MD) (N := 22) hx hb hw in_MD ty_MD ty_MD_ok nm_MD_ok hown hE.1 hP hD hS 0 rfl rfl 3 (by decide) (hw _ kw_764) (fun _ h9 => h9) rfl (by decide +kernel) rfl rfl (Nat.le_of_ble_eq_true rfl) d_MD_temperature_51 (fun H locs hP hD hS => ?_)
      have hP : va_P D vwCl [(w0, .inr (5, [.ref w1, .ref w2, .int yt, .int x, .ref w3, .ref w4, .ref w5, .int nt, .int wb, .ref w6, .ref w7, .ref w8, .int rc, .ref w9, .ref w10, .ref w11, .ref w12, .ref w13, .ref w14, .int fp, .int ft, .int (nI (flN 0 2))]))] H := hP
      have hD : va_D A [(w0, .inr (5, [.ref w1, .ref w2, .int yt, .int x, .ref w3, .ref w4, .ref w5, .int nt, .int wb, .ref w6, .ref w7, .ref w8, .int rc, .ref w9, .ref w10, .ref w11, .ref w12, .ref w13, .ref w14, .int fp, .int ft, .int (nI (flN 0 2))]))] := hD
      refine lv_iload_n hx hb d_MD_temperature_54 rfl (lv_at hl 0 rfl) ?_
      have hP9 := hP.sub (ws' := [(w0, .inr (5, [.ref w1, .ref w2, .int yt, .int x, .ref w3, .ref w4, .ref w5, .int nt, .int wb, .ref w6, .ref w7, .ref w8, .int rc, .ref w9, .ref w10, .ref w11, .ref w12, .ref w13, .ref w14, .int fp, .int ft, .int (nI (flN 0 2))]))]) [0] rfl
      have hD9 := hD.sub (ws' := [(w0, .inr (5, [.ref w1, .ref w2, .int yt, .int x, .ref w3, .ref w4, .ref w5, .int nt, .int wb, .ref w6, .ref w7, .ref w8, .int rc, .ref w9, .ref w10, .ref w11, .ref w12, .ref w13, .ref w14, .int fp, .int ft, .int (nI (flN 0 2))]))]) [0] (by decide) rfl
      exact W.iret (v := te) hx hb hr (fun t9 ht hW => ⟨⟨_, (x, nI 0), rfl, (by unfold mtV; rw [if_pos c_5, if_neg c_27]; try rfl), ⟨by rw [ht]; exact hP9, hD9⟩⟩, hS.F ht⟩) hS.2.2 d_MD_temperature_55
    · skip
      refine lv_iconst (v := nI 1) hx hb d_MD_temperature_30 (by decide +kernel) ?_
      refine lv_goto (tgt := 35) hx hb d_MD_temperature_31 (by decide) ?_
      refine lv_iconst (v := nI 2) hx hb d_MD_temperature_35 (by decide +kernel) ?_
      refine cl_i (wr := []) (va_runV (As := [.int (nI 1), .int (nI 2)]) (rest := []) ⟨hx, hb, hml, hown, hw⟩ (k_MD_fails l D cI cJ w0 w1 w2 w3 w4 w5 w6 w7 w8 w9 w10 w11 w12 w13 w14 yt te nt wb rc fp ft (nI (flN 0 1)) 1 2 _ (by omega)) (cwV 2 hw (gV kw_836 kw_838 kw_20 kw_45 kw_839) rfl rfl rfl (by decide +kernel) ⟨Nat.le_of_ble_eq_true rfl, Nat.le_of_ble_eq_true rfl⟩) (pre_Vw (wc := [(w0, .inr (5, [.ref w1, .ref w2, .int yt, .int te, .ref w3, .ref w4, .ref w5, .int nt, .int wb, .ref w6, .ref w7, .ref w8, .int rc, .ref w9, .ref w10, .ref w11, .ref w12, .ref w13, .ref w14, .int fp, .int ft, .int (nI (flN 0 1))]))]) (q0 := 0) hE hX hA hP hD hS [0] (by decide) rfl rfl rfl rfl) rfl rfl hl.1 rfl (lv_room (Nat.le_of_ble_eq_true rfl)) d_MD_temperature_36 ⟨Nat.le_of_ble_eq_true rfl, Nat.le_of_ble_eq_true rfl⟩) hP hD hS hA [0] [] rfl rfl (by decide) (by decide) (fun r_4 u_r_4 H locs hr_4 hP hD hS => ?_)
      obtain rfl : nI 1 = r_4 := hr_4.symm
      have hP : va_P D vwCl [(w0, .inr (5, [.ref w1, .ref w2, .int yt, .int te, .ref w3, .ref w4, .ref w5, .int nt, .int wb, .ref w6, .ref w7, .ref w8, .int rc, .ref w9, .ref w10, .ref w11, .ref w12, .ref w13, .ref w14, .int fp, .int ft, .int (nI (flN 1 2))]))] H := hP
      have hD : va_D A [(w0, .inr (5, [.ref w1, .ref w2, .int yt, .int te, .ref w3, .ref w4, .ref w5, .int nt, .int wb, .ref w6, .ref w7, .ref w8, .int rc, .ref w9, .ref w10, .ref w11, .ref w12, .ref w13, .ref w14, .int fp, .int ft, .int (nI (flN 1 2))]))] := hD
      refine jn_if_eq (tgt := 44) (a := 1) hx hb d_MD_temperature_39 (by decide) (by decide) (fun c9 => absurd c9 (by decide)) (fun _ => ?_)
      refine lv_iconst (v := nI 0) hx hb d_MD_temperature_42 (by decide +kernel) ?_
      have hP9 := hP.sub (ws' := [(w0, .inr (5, [.ref w1, .ref w2, .int yt, .int te, .ref w3, .ref w4, .ref w5, .int nt, .int wb, .ref w6, .ref w7, .ref w8, .int rc, .ref w9, .ref w10, .ref w11, .ref w12, .ref w13, .ref w14, .int fp, .int ft, .int (nI (flN 1 2))]))]) [0] rfl
      have hD9 := hD.sub (ws' := [(w0, .inr (5, [.ref w1, .ref w2, .int yt, .int te, .ref w3, .ref w4, .ref w5, .int nt, .int wb, .ref w6, .ref w7, .ref w8, .int rc, .ref w9, .ref w10, .ref w11, .ref w12, .ref w13, .ref w14, .int fp, .int ft, .int (nI (flN 1 2))]))]) [0] (by decide) rfl
      exact W.iret (v := nI 0) hx hb hr (fun t9 ht hW => ⟨⟨_, (te, nI 2), rfl, (by unfold mtV; rw [if_pos c_5, if_pos c_27]; try rfl), ⟨by rw [ht]; exact hP9, hD9⟩⟩, hS.F ht⟩) hS.2.2 d_MD_temperature_43
  · skip
    refine lv_iconst (v := nI 1) hx hb d_MD_temperature_8 (by decide +kernel) ?_
    refine lv_goto (tgt := 13) hx hb d_MD_temperature_9 (by decide) ?_
    refine lv_iconst (v := nI 1) hx hb d_MD_temperature_13 (by decide +kernel) ?_
    refine cl_i (wr := []) (va_runV (As := [.int (nI 1), .int (nI 1)]) (rest := []) ⟨hx, hb, hml, hown, hw⟩ (k_MD_fails l D cI cJ w0 w1 w2 w3 w4 w5 w6 w7 w8 w9 w10 w11 w12 w13 w14 yt te nt wb rc fp ft th 1 1 _ (by omega)) (cwV 2 hw (gV kw_836 kw_838 kw_20 kw_45 kw_839) rfl rfl rfl (by decide +kernel) ⟨Nat.le_of_ble_eq_true rfl, Nat.le_of_ble_eq_true rfl⟩) (pre_Vw (wc := [(w0, .inr (5, [.ref w1, .ref w2, .int yt, .int te, .ref w3, .ref w4, .ref w5, .int nt, .int wb, .ref w6, .ref w7, .ref w8, .int rc, .ref w9, .ref w10, .ref w11, .ref w12, .ref w13, .ref w14, .int fp, .int ft, .int th]))]) (q0 := 0) hE hX hA hP hD hS [0] (by decide) rfl rfl rfl rfl) rfl rfl hl.1 rfl (lv_room (Nat.le_of_ble_eq_true rfl)) d_MD_temperature_14 ⟨Nat.le_of_ble_eq_true rfl, Nat.le_of_ble_eq_true rfl⟩) hP hD hS hA [0] [] rfl rfl (by decide) (by decide) (fun r_5 u_r_5 H locs hr_5 hP hD hS => ?_)
    obtain rfl : nI 1 = r_5 := hr_5.symm
    have hP : va_P D vwCl [(w0, .inr (5, [.ref w1, .ref w2, .int yt, .int te, .ref w3, .ref w4, .ref w5, .int nt, .int wb, .ref w6, .ref w7, .ref w8, .int rc, .ref w9, .ref w10, .ref w11, .ref w12, .ref w13, .ref w14, .int fp, .int ft, .int (nI (flN 1 1))]))] H := hP
    have hD : va_D A [(w0, .inr (5, [.ref w1, .ref w2, .int yt, .int te, .ref w3, .ref w4, .ref w5, .int nt, .int wb, .ref w6, .ref w7, .ref w8, .int rc, .ref w9, .ref w10, .ref w11, .ref w12, .ref w13, .ref w14, .int fp, .int ft, .int (nI (flN 1 1))]))] := hD
    refine jn_if_ne (tgt := 42) (a := 1) hx hb d_MD_temperature_17 (by decide) (by decide) (fun _ => ?_) (fun c9 => absurd c9 (by decide))
    refine lv_iconst (v := nI 0) hx hb d_MD_temperature_42 (by decide +kernel) ?_
    have hP9 := hP.sub (ws' := [(w0, .inr (5, [.ref w1, .ref w2, .int yt, .int te, .ref w3, .ref w4, .ref w5, .int nt, .int wb, .ref w6, .ref w7, .ref w8, .int rc, .ref w9, .ref w10, .ref w11, .ref w12, .ref w13, .ref w14, .int fp, .int ft, .int (nI (flN 1 1))]))]) [0] rfl
    have hD9 := hD.sub (ws' := [(w0, .inr (5, [.ref w1, .ref w2, .int yt, .int te, .ref w3, .ref w4, .ref w5, .int nt, .int wb, .ref w6, .ref w7, .ref w8, .int rc, .ref w9, .ref w10, .ref w11, .ref w12, .ref w13, .ref w14, .int fp, .int ft, .int (nI (flN 1 1))]))]) [0] (by decide) rfl
    exact W.iret (v := nI 0) hx hb hr (fun t9 ht hW => ⟨⟨_, (te, nI 1), rfl, (by unfold mtV; rw [if_neg c_5]; try rfl), ⟨by rw [ht]; exact hP9, hD9⟩⟩, hS.F ht⟩) hS.2.2 d_MD_temperature_43
set_option maxHeartbeats 4000000 in
set_option maxRecDepth 100000 in
/-- seed -/
theorem k_MD_seed (l : Launch) (D : va_G) (cI cJ : ClassId) (w0 : Nat) (w1 : Nat) (w2 : Nat) (w3 : Nat) (w4 : Nat) (w5 : Nat) (w6 : Nat) (w7 : Nat) (w8 : Nat) (w9 : Nat) (w10 : Nat) (w11 : Nat) (w12 : Nat) (w13 : Nat) (w14 : Nat) (yt : Int32) (te : Int32) (nt : Int32) (wb : Int32) (rc : Int32) (fp : Int32) (ft : Int32) (th : Int32) (fi : Nat → Int32) (ip : Nat → Int32) (se : Nat → Int32) (x : Int32) (y : Int32) (z : Int32) (sz : Nat)  : Met l y_MD_seed ws_MD_seed ({ frames := 2, cells := 0, slots := 0, locals := 43 } : Room) (va_Pc [.ref w0, .int x, .int y, .int z] (Pw D cI cJ [(w0, .inr (5, [.ref w1, .ref w2, .int yt, .int te, .ref w3, .ref w4, .ref w5, .int nt, .int wb, .ref w6, .ref w7, .ref w8, .int rc, .ref w9, .ref w10, .ref w11, .ref w12, .ref w13, .ref w14, .int fp, .int ft, .int th])), (w3, .inl (cI, 1600, .inl fi)), (w4, .inl (cI, 1600, .inl ip)), (w5, .inl (cI, 1600, .inl se))] sz)) (va_Qv (fun (u9 : MS) => u9 = msV fi ip se nt wb yt x y z) (fun u9 t9 => Bw D (va_A [(w0, .inr (5, [.ref w1, .ref w2, .int yt, .int te, .ref w3, .ref w4, .ref w5, .int nt, .int wb, .ref w6, .ref w7, .ref w8, .int rc, .ref w9, .ref w10, .ref w11, .ref w12, .ref w13, .ref w14, .int fp, .int ft, .int th])), (w3, .inl (cI, 1600, .inl fi)), (w4, .inl (cI, 1600, .inl ip)), (w5, .inl (cI, 1600, .inl se))] sz) [(w0, .inr (5, [.ref w1, .ref w2, .int yt, .int te, .ref w3, .ref w4, .ref w5, .int u9.2.2.2.1, .int u9.2.2.2.2.1, .ref w6, .ref w7, .ref w8, .int rc, .ref w9, .ref w10, .ref w11, .ref w12, .ref w13, .ref w14, .int fp, .int ft, .int u9.2.2.2.2.2])), (w3, .inl (cI, 1600, .inl u9.1)), (w4, .inl (cI, 1600, .inl u9.2.1)), (w5, .inl (cI, 1600, .inl u9.2.2.1))] t9) (va_A [(w0, .inr (5, [.ref w1, .ref w2, .int yt, .int te, .ref w3, .ref w4, .ref w5, .int nt, .int wb, .ref w6, .ref w7, .ref w8, .int rc, .ref w9, .ref w10, .ref w11, .ref w12, .ref w13, .ref w14, .int fp, .int ft, .int th])), (w3, .inl (cI, 1600, .inl fi)), (w4, .inl (cI, 1600, .inl ip)), (w5, .inl (cI, 1600, .inl se))] sz)) 0 0 (va_A [(w0, .inr (5, [.ref w1, .ref w2, .int yt, .int te, .ref w3, .ref w4, .ref w5, .int nt, .int wb, .ref w6, .ref w7, .ref w8, .int rc, .ref w9, .ref w10, .ref w11, .ref w12, .ref w13, .ref w14, .int fp, .int ft, .int th])), (w3, .inl (cI, 1600, .inl fi)), (w4, .inl (cI, 1600, .inl ip)), (w5, .inl (cI, 1600, .inl se))] sz) := by
  refine Met.ofW (cc := c_MD_seed) (maxL := 4) (ret := none) (by decide) rfl ?_
  intro p e s m args below meth c s₁ B hml hv
  obtain ⟨rfl, hsz, hE, hP, hD0, hX⟩ := hv
  have hx := B.exec
  have hb := B.bytes
  have hr := B.returns
  have hw : ∀ w ∈ gw, w.before _ s = true := fun w h => atoms_spec (ws := ws_MD_seed) B.pre w (List.mem_cons_of_mem _ h)
  have hown : s.vm.findClass R_MD = some m.cls := findClass_of_methodNamed B.named
  have hlocks := B.notSynchronized
  subst hsz
  have hD := hD0.self (sz := s.heap.size)
  generalize hAe : va_A [(w0, .inr (5, [.ref w1, .ref w2, .int yt, .int te, .ref w3, .ref w4, .ref w5, .int nt, .int wb, .ref w6, .ref w7, .ref w8, .int rc, .ref w9, .ref w10, .ref w11, .ref w12, .ref w13, .ref w14, .int fp, .int ft, .int th])), (w3, .inl (cI, 1600, .inl fi)), (w4, .inl (cI, 1600, .inl ip)), (w5, .inl (cI, 1600, .inl se))] s.heap.size = A at hD hX ⊢
  have hA : ∀ q : Nat, s.heap.size ≤ q → A q := fun q h => by rw [← hAe]; exact Or.inr h
  have hS : va_S A s.heap s.heap [] := va_S.rf
  have hP : va_P D vwCl [(w0, .inr (5, [.ref w1, .ref w2, .int yt, .int te, .ref w3, .ref w4, .ref w5, .int nt, .int wb, .ref w6, .ref w7, .ref w8, .int rc, .ref w9, .ref w10, .ref w11, .ref w12, .ref w13, .ref w14, .int fp, .int ft, .int th])), (w3, .inl (cI, 1600, .inl fi)), (w4, .inl (cI, 1600, .inl ip)), (w5, .inl (cI, 1600, .inl se))] s.heap := hP
  have hl := lv_entry ([.ref w0, .int x, .int y, .int z]) (n := 4) (Nat.le_of_ble_eq_true rfl)
  rw [lg_entry_eq]
  generalize (lg_sl ([.ref w0, .int x, .int y, .int z]) ++ List.replicate (4 - (lg_sl ([.ref w0, .int x, .int y, .int z])).length) Slot.unset).toArray = ls at hl ⊢
  have hl : lv_has ls 4 [(0, .ref w0), (1, .int x), (2, .int y), (3, .int z)] := hl
  refine lv_aload_n hx hb d_MD_seed_0 rfl (lv_at hl 0 rfl) ?_
  refine lv_iload_n hx hb d_MD_seed_1 rfl (lv_at hl 1 rfl) ?_
  refine lv_iload_n hx hb d_MD_seed_2 rfl (lv_at hl 2 rfl) ?_
  refine vp_callSi (va_Run.run (va_runS (As := [.int x, .int y]) (rest := [.ref w0]) ⟨hx, hb, hml, hown, hw⟩ (k_MD_isPlace l D cI cJ x y) (va_cwS 2 hw (gS kw_859 kw_860 kw_45 kw_861) rfl rfl rfl (by decide +kernel) ⟨Nat.le_of_ble_eq_true rfl, Nat.le_of_ble_eq_true rfl⟩) (pre_Sp (wc := []) hE hX hP hS [] rfl) rfl rfl hl.1 rfl (lv_room (Nat.le_of_ble_eq_true rfl)) d_MD_seed_3 ⟨Nat.le_of_ble_eq_true rfl, Nat.le_of_ble_eq_true rfl⟩)) (fun r_1 hr_1 => ?_)
  obtain rfl : nI (isP x y) = r_1 := hr_1.symm
  refine jn_if_ne (tgt := 13) (a := (isP x y)) hx hb d_MD_seed_6 (by decide) (by have := isP_le x y; omega) (fun c_6 => ?_) (fun c_6 => ?_)
  · skip
    refine lv_iconst (v := nI 0) hx hb d_MD_seed_13 (by decide +kernel) ?_
    refine lv_iconst (v := nI 1) hx hb d_MD_seed_14 (by decide +kernel) ?_
    refine cl_i (wr := [(w3, .inl (cI, 1600, .inl fi)), (w4, .inl (cI, 1600, .inl ip)), (w5, .inl (cI, 1600, .inl se))]) (va_runV (As := [.int (nI 0), .int (nI 1)]) (rest := []) ⟨hx, hb, hml, hown, hw⟩ (k_MD_fails l D cI cJ w0 w1 w2 w3 w4 w5 w6 w7 w8 w9 w10 w11 w12 w13 w14 yt te nt wb rc fp ft th 0 1 _ (by omega)) (cwV 2 hw (gV kw_836 kw_838 kw_20 kw_45 kw_839) rfl rfl rfl (by decide +kernel) ⟨Nat.le_of_ble_eq_true rfl, Nat.le_of_ble_eq_true rfl⟩) (pre_Vw (wc := [(w0, .inr (5, [.ref w1, .ref w2, .int yt, .int te, .ref w3, .ref w4, .ref w5, .int nt, .int wb, .ref w6, .ref w7, .ref w8, .int rc, .ref w9, .ref w10, .ref w11, .ref w12, .ref w13, .ref w14, .int fp, .int ft, .int th]))]) (q0 := 0) hE hX hA hP hD hS [0] (by decide) rfl rfl rfl rfl) rfl rfl hl.1 rfl (lv_room (Nat.le_of_ble_eq_true rfl)) d_MD_seed_15 ⟨Nat.le_of_ble_eq_true rfl, Nat.le_of_ble_eq_true rfl⟩) hP hD hS hA [0] [1, 2, 3] rfl rfl (by decide) (by decide) (fun r_2 u_r_2 H locs hr_2 hP hD hS => ?_)
    obtain rfl : nI 0 = r_2 := hr_2.symm
    have hP : va_P D vwCl [(w3, .inl (cI, 1600, .inl fi)), (w4, .inl (cI, 1600, .inl ip)), (w5, .inl (cI, 1600, .inl se)), (w0, .inr (5, [.ref w1, .ref w2, .int yt, .int te, .ref w3, .ref w4, .ref w5, .int nt, .int wb, .ref w6, .ref w7, .ref w8, .int rc, .ref w9, .ref w10, .ref w11, .ref w12, .ref w13, .ref w14, .int fp, .int ft, .int (nI (flN 0 1))]))] H := hP
    have hD : va_D A [(w3, .inl (cI, 1600, .inl fi)), (w4, .inl (cI, 1600, .inl ip)), (w5, .inl (cI, 1600, .inl se)), (w0, .inr (5, [.ref w1, .ref w2, .int yt, .int te, .ref w3, .ref w4, .ref w5, .int nt, .int wb, .ref w6, .ref w7, .ref w8, .int rc, .ref w9, .ref w10, .ref w11, .ref w12, .ref w13, .ref w14, .int fp, .int ft, .int (nI (flN 0 1))]))] := hD
    refine jn_if_ne (tgt := 76) (a := 0) hx hb d_MD_seed_18 (by decide) (by decide) (fun c9 => absurd c9 (by decide)) (fun _ => ?_)
    refine lv_aload_n hx hb d_MD_seed_21 rfl (lv_at hl 0 rfl) ?_
    refine lv_aload_n hx hb d_MD_seed_22 rfl (lv_at hl 0 rfl) ?_
    refine lv_iload_n hx hb d_MD_seed_23 rfl (lv_at hl 3 rfl) ?_
    refine vp_callSi (va_Run.run (va_runV (As := [.int z]) (rest := [.ref w0]) ⟨hx, hb, hml, hown, hw⟩ (k_MD_isType l D cI cJ w0 w1 w2 w3 w4 w5 w6 w7 w8 w9 w10 w11 w12 w13 w14 yt te nt wb rc fp ft (nI (flN 0 1)) z) (cwV 1 hw (gV kw_862 kw_864 kw_22 kw_45 kw_865) rfl rfl rfl (by decide +kernel) ⟨Nat.le_of_ble_eq_true rfl, Nat.le_of_ble_eq_true rfl⟩) (pre_Vp (wc := [(w0, .inr (5, [.ref w1, .ref w2, .int yt, .int te, .ref w3, .ref w4, .ref w5, .int nt, .int wb, .ref w6, .ref w7, .ref w8, .int rc, .ref w9, .ref w10, .ref w11, .ref w12, .ref w13, .ref w14, .int fp, .int ft, .int (nI (flN 0 1))]))]) (q0 := 0) hE hX hP hS [3] rfl rfl rfl) rfl rfl hl.1 rfl (lv_room (Nat.le_of_ble_eq_true rfl)) d_MD_seed_24 ⟨Nat.le_of_ble_eq_true rfl, Nat.le_of_ble_eq_true rfl⟩)) (fun r_3 hr_3 => ?_)
    obtain rfl : nI (wiN z (nI 1) yt) = r_3 := hr_3.symm
    refine jn_if_ne (tgt := 34) (a := (wiN z (nI 1) yt)) hx hb d_MD_seed_27 (by decide) (by have := wiN_le z (nI 1) yt; omega) (fun c_27 => ?_) (fun c_27 => ?_)
    · skip
      refine lv_iconst (v := nI 0) hx hb d_MD_seed_34 (by decide +kernel) ?_
      refine lv_iconst (v := nI 2) hx hb d_MD_seed_35 (by decide +kernel) ?_
      refine cl_i (wr := [(w3, .inl (cI, 1600, .inl fi)), (w4, .inl (cI, 1600, .inl ip)), (w5, .inl (cI, 1600, .inl se))]) (va_runV (As := [.int (nI 0), .int (nI 2)]) (rest := []) ⟨hx, hb, hml, hown, hw⟩ (k_MD_fails l D cI cJ w0 w1 w2 w3 w4 w5 w6 w7 w8 w9 w10 w11 w12 w13 w14 yt te nt wb rc fp ft (nI (flN 0 1)) 0 2 _ (by omega)) (cwV 2 hw (gV kw_836 kw_838 kw_20 kw_45 kw_839) rfl rfl rfl (by decide +kernel) ⟨Nat.le_of_ble_eq_true rfl, Nat.le_of_ble_eq_true rfl⟩) (pre_Vw (wc := [(w0, .inr (5, [.ref w1, .ref w2, .int yt, .int te, .ref w3, .ref w4, .ref w5, .int nt, .int wb, .ref w6, .ref w7, .ref w8, .int rc, .ref w9, .ref w10, .ref w11, .ref w12, .ref w13, .ref w14, .int fp, .int ft, .int (nI (flN 0 1))]))]) (q0 := 0) hE hX hA hP hD hS [3] (by decide) rfl rfl rfl rfl) rfl rfl hl.1 rfl (lv_room (Nat.le_of_ble_eq_true rfl)) d_MD_seed_36 ⟨Nat.le_of_ble_eq_true rfl, Nat.le_of_ble_eq_true rfl⟩) hP hD hS hA [3] [0, 1, 2] rfl rfl (by decide) (by decide) (fun r_4 u_r_4 H locs hr_4 hP hD hS => ?_)
      obtain rfl : nI 0 = r_4 := hr_4.symm
      have hP : va_P D vwCl [(w3, .inl (cI, 1600, .inl fi)), (w4, .inl (cI, 1600, .inl ip)), (w5, .inl (cI, 1600, .inl se)), (w0, .inr (5, [.ref w1, .ref w2, .int yt, .int te, .ref w3, .ref w4, .ref w5, .int nt, .int wb, .ref w6, .ref w7, .ref w8, .int rc, .ref w9, .ref w10, .ref w11, .ref w12, .ref w13, .ref w14, .int fp, .int ft, .int (nI (flN 0 2))]))] H := hP
      have hD : va_D A [(w3, .inl (cI, 1600, .inl fi)), (w4, .inl (cI, 1600, .inl ip)), (w5, .inl (cI, 1600, .inl se)), (w0, .inr (5, [.ref w1, .ref w2, .int yt, .int te, .ref w3, .ref w4, .ref w5, .int nt, .int wb, .ref w6, .ref w7, .ref w8, .int rc, .ref w9, .ref w10, .ref w11, .ref w12, .ref w13, .ref w14, .int fp, .int ft, .int (nI (flN 0 2))]))] := hD
      refine jn_if_ne (tgt := 76) (a := 0) hx hb d_MD_seed_39 (by decide) (by decide) (fun c9 => absurd c9 (by decide)) (fun _ => ?_)
      obtain ⟨a9, b9, ha9, hb9, hxe, hye⟩ := isP_nat c_6
      subst hxe
      subst hye
      refine lv_aload_n hx hb d_MD_seed_42 rfl (lv_at hl 0 rfl) ?_
      refine lv_aload_n hx hb d_MD_seed_43 rfl (lv_at hl 0 rfl) ?_
      refine va_get (D := D) (ci := 5) (v := .ref w3) (C := R_MD) (T := T_MD) (N := 22) hx hb hw in_MD hown hE.1 hP 3 rfl rfl 4 (by decide) (hw _ kw_765) (fun _ h9 => h9) rfl d_MD_seed_44 ?_
      refine lv_bipush (v := nI 40) hx hb d_MD_seed_47 (by decide +kernel) ?_
      refine lv_iload_n hx hb d_MD_seed_49 rfl (lv_at hl 2 rfl) ?_
      refine jn_imul (a := 40) (b := b9) hx hb d_MD_seed_50 ?_
      refine lv_iload_n hx hb d_MD_seed_51 rfl (lv_at hl 1 rfl) ?_
      refine jn_iadd (a := (40 * b9)) (b := a9) hx hb d_MD_seed_52 ?_
      refine jn_iald (k := ((40 * b9) + a9)) hx hb hE.1 hP 0 0 rfl rfl (by omega) (by omega) d_MD_seed_53 ?_
      refine lv_if_gt (tgt := 64) hx hb d_MD_seed_54 (by decide) (fun c_54 => ?_) (fun c_54 => ?_)
      · skip
        refine lv_iconst (v := nI 1) hx hb d_MD_seed_64 (by decide +kernel) ?_
        refine lv_goto (tgt := 69) hx hb d_MD_seed_65 (by decide) ?_
        refine lv_iconst (v := nI 3) hx hb d_MD_seed_69 (by decide +kernel) ?_
        refine cl_i (wr := [(w3, .inl (cI, 1600, .inl fi)), (w4, .inl (cI, 1600, .inl ip)), (w5, .inl (cI, 1600, .inl se))]) (va_runV (As := [.int (nI 1), .int (nI 3)]) (rest := []) ⟨hx, hb, hml, hown, hw⟩ (k_MD_fails l D cI cJ w0 w1 w2 w3 w4 w5 w6 w7 w8 w9 w10 w11 w12 w13 w14 yt te nt wb rc fp ft (nI (flN 0 2)) 1 3 _ (by omega)) (cwV 2 hw (gV kw_836 kw_838 kw_20 kw_45 kw_839) rfl rfl rfl (by decide +kernel) ⟨Nat.le_of_ble_eq_true rfl, Nat.le_of_ble_eq_true rfl⟩) (pre_Vw (wc := [(w0, .inr (5, [.ref w1, .ref w2, .int yt, .int te, .ref w3, .ref w4, .ref w5, .int nt, .int wb, .ref w6, .ref w7, .ref w8, .int rc, .ref w9, .ref w10, .ref w11, .ref w12, .ref w13, .ref w14, .int fp, .int ft, .int (nI (flN 0 2))]))]) (q0 := 0) hE hX hA hP hD hS [3] (by decide) rfl rfl rfl rfl) rfl rfl hl.1 rfl (lv_room (Nat.le_of_ble_eq_true rfl)) d_MD_seed_70 ⟨Nat.le_of_ble_eq_true rfl, Nat.le_of_ble_eq_true rfl⟩) hP hD hS hA [3] [0, 1, 2] rfl rfl (by decide) (by decide) (fun r_5 u_r_5 H locs hr_5 hP hD hS => ?_)
        obtain rfl : nI 1 = r_5 := hr_5.symm
        have hP : va_P D vwCl [(w3, .inl (cI, 1600, .inl fi)), (w4, .inl (cI, 1600, .inl ip)), (w5, .inl (cI, 1600, .inl se)), (w0, .inr (5, [.ref w1, .ref w2, .int yt, .int te, .ref w3, .ref w4, .ref w5, .int nt, .int wb, .ref w6, .ref w7, .ref w8, .int rc, .ref w9, .ref w10, .ref w11, .ref w12, .ref w13, .ref w14, .int fp, .int ft, .int (nI (flN 1 3))]))] H := hP
        have hD : va_D A [(w3, .inl (cI, 1600, .inl fi)), (w4, .inl (cI, 1600, .inl ip)), (w5, .inl (cI, 1600, .inl se)), (w0, .inr (5, [.ref w1, .ref w2, .int yt, .int te, .ref w3, .ref w4, .ref w5, .int nt, .int wb, .ref w6, .ref w7, .ref w8, .int rc, .ref w9, .ref w10, .ref w11, .ref w12, .ref w13, .ref w14, .int fp, .int ft, .int (nI (flN 1 3))]))] := hD
        refine jn_if_eq (tgt := 77) (a := 1) hx hb d_MD_seed_73 (by decide) (by decide) (fun c9 => absurd c9 (by decide)) (fun _ => ?_)
        have hP9 := hP.sub (ws' := [(w0, .inr (5, [.ref w1, .ref w2, .int yt, .int te, .ref w3, .ref w4, .ref w5, .int nt, .int wb, .ref w6, .ref w7, .ref w8, .int rc, .ref w9, .ref w10, .ref w11, .ref w12, .ref w13, .ref w14, .int fp, .int ft, .int (nI (flN 1 3))])), (w3, .inl (cI, 1600, .inl fi)), (w4, .inl (cI, 1600, .inl ip)), (w5, .inl (cI, 1600, .inl se))]) [3, 0, 1, 2] rfl
        have hD9 := hD.sub (ws' := [(w0, .inr (5, [.ref w1, .ref w2, .int yt, .int te, .ref w3, .ref w4, .ref w5, .int nt, .int wb, .ref w6, .ref w7, .ref w8, .int rc, .ref w9, .ref w10, .ref w11, .ref w12, .ref w13, .ref w14, .int fp, .int ft, .int (nI (flN 1 3))])), (w3, .inl (cI, 1600, .inl fi)), (w4, .inl (cI, 1600, .inl ip)), (w5, .inl (cI, 1600, .inl se))]) [3, 0, 1, 2] (by decide) rfl
        exact W.vret hx hb hr (fun t9 ht hW => ⟨⟨(fi, ip, se, nt, wb, nI 3), rfl, (by unfold msV; rw [nn_nI (show a9 < 2 ^ 31 by omega), nn_nI (show b9 < 2 ^ 31 by omega), if_neg c_6, if_neg c_27, if_pos c_54]; try rfl), ⟨by rw [ht]; exact hP9, hD9⟩⟩, hS.F ht⟩) hS.2.2 d_MD_seed_76
      · skip
        refine lv_aload_n hx hb d_MD_seed_57 rfl (lv_at hl 0 rfl) ?_
        refine va_get (D := D) (ci := 5) (v := .int wb) (C := R_MD) (T := T_MD) (N := 22) hx hb hw in_MD hown hE.1 hP 3 rfl rfl 8 (by decide) (hw _ kw_769) (fun _ h9 => h9) rfl d_MD_seed_58 ?_
        refine lv_if_eq (tgt := 68) hx hb d_MD_seed_61 (by decide) (fun c_61 => ?_) (fun c_61 => ?_)
        · skip
          refine lv_iconst (v := nI 0) hx hb d_MD_seed_68 (by decide +kernel) ?_
          refine lv_iconst (v := nI 3) hx hb d_MD_seed_69 (by decide +kernel) ?_
          refine cl_i (wr := [(w3, .inl (cI, 1600, .inl fi)), (w4, .inl (cI, 1600, .inl ip)), (w5, .inl (cI, 1600, .inl se))]) (va_runV (As := [.int (nI 0), .int (nI 3)]) (rest := []) ⟨hx, hb, hml, hown, hw⟩ (k_MD_fails l D cI cJ w0 w1 w2 w3 w4 w5 w6 w7 w8 w9 w10 w11 w12 w13 w14 yt te nt wb rc fp ft (nI (flN 0 2)) 0 3 _ (by omega)) (cwV 2 hw (gV kw_836 kw_838 kw_20 kw_45 kw_839) rfl rfl rfl (by decide +kernel) ⟨Nat.le_of_ble_eq_true rfl, Nat.le_of_ble_eq_true rfl⟩) (pre_Vw (wc := [(w0, .inr (5, [.ref w1, .ref w2, .int yt, .int te, .ref w3, .ref w4, .ref w5, .int nt, .int wb, .ref w6, .ref w7, .ref w8, .int rc, .ref w9, .ref w10, .ref w11, .ref w12, .ref w13, .ref w14, .int fp, .int ft, .int (nI (flN 0 2))]))]) (q0 := 0) hE hX hA hP hD hS [3] (by decide) rfl rfl rfl rfl) rfl rfl hl.1 rfl (lv_room (Nat.le_of_ble_eq_true rfl)) d_MD_seed_70 ⟨Nat.le_of_ble_eq_true rfl, Nat.le_of_ble_eq_true rfl⟩) hP hD hS hA [3] [0, 1, 2] rfl rfl (by decide) (by decide) (fun r_6 u_r_6 H locs hr_6 hP hD hS => ?_)
          obtain rfl : nI 0 = r_6 := hr_6.symm
          have hP : va_P D vwCl [(w3, .inl (cI, 1600, .inl fi)), (w4, .inl (cI, 1600, .inl ip)), (w5, .inl (cI, 1600, .inl se)), (w0, .inr (5, [.ref w1, .ref w2, .int yt, .int te, .ref w3, .ref w4, .ref w5, .int nt, .int wb, .ref w6, .ref w7, .ref w8, .int rc, .ref w9, .ref w10, .ref w11, .ref w12, .ref w13, .ref w14, .int fp, .int ft, .int (nI (flN 0 3))]))] H := hP
          have hD : va_D A [(w3, .inl (cI, 1600, .inl fi)), (w4, .inl (cI, 1600, .inl ip)), (w5, .inl (cI, 1600, .inl se)), (w0, .inr (5, [.ref w1, .ref w2, .int yt, .int te, .ref w3, .ref w4, .ref w5, .int nt, .int wb, .ref w6, .ref w7, .ref w8, .int rc, .ref w9, .ref w10, .ref w11, .ref w12, .ref w13, .ref w14, .int fp, .int ft, .int (nI (flN 0 3))]))] := hD
          refine jn_if_eq (tgt := 77) (a := 0) hx hb d_MD_seed_73 (by decide) (by decide) (fun _ => ?_) (fun c9 => absurd c9 (by decide))
          refine lv_aload_n hx hb d_MD_seed_77 rfl (lv_at hl 0 rfl) ?_
          refine lv_iload_n hx hb d_MD_seed_78 rfl (lv_at hl 1 rfl) ?_
          refine lv_iload_n hx hb d_MD_seed_79 rfl (lv_at hl 2 rfl) ?_
          refine lv_iload_n hx hb d_MD_seed_80 rfl (lv_at hl 3 rfl) ?_
          refine cl_v (wr := []) (va_runV (As := [.int (nI a9), .int (nI b9), .int z]) (rest := []) ⟨hx, hb, hml, hown, hw⟩ (k_MD_plant l D cI cJ w0 w1 w2 w3 w4 w5 w6 w7 w8 w9 w10 w11 w12 w13 w14 yt te nt wb rc fp ft (nI (flN 0 3)) fi ip se a9 b9 z _ (by omega)) (cwV 3 hw (gV kw_866 kw_868 kw_23 kw_45 kw_869) rfl rfl rfl (by decide +kernel) ⟨Nat.le_of_ble_eq_true rfl, Nat.le_of_ble_eq_true rfl⟩) (pre_Vw (wc := [(w0, .inr (5, [.ref w1, .ref w2, .int yt, .int te, .ref w3, .ref w4, .ref w5, .int nt, .int wb, .ref w6, .ref w7, .ref w8, .int rc, .ref w9, .ref w10, .ref w11, .ref w12, .ref w13, .ref w14, .int fp, .int ft, .int (nI (flN 0 3))])), (w3, .inl (cI, 1600, .inl fi)), (w4, .inl (cI, 1600, .inl ip)), (w5, .inl (cI, 1600, .inl se))]) (q0 := 0) hE hX hA hP hD hS [3, 0, 1, 2] (by decide) rfl rfl rfl rfl) rfl rfl hl.1 rfl (lv_room (Nat.le_of_ble_eq_true rfl)) d_MD_seed_81 ⟨Nat.le_of_ble_eq_true rfl, Nat.le_of_ble_eq_true rfl⟩) hP hD hS hA [3, 0, 1, 2] [] rfl rfl (by decide) (by decide) (fun u_r_7 H locs hr_7 hP hD hS => ?_)
          have hP : va_P D vwCl [(w0, .inr (5, [.ref w1, .ref w2, .int yt, .int te, .ref w3, .ref w4, .ref w5, .int (nt + nI 1), .int wb, .ref w6, .ref w7, .ref w8, .int rc, .ref w9, .ref w10, .ref w11, .ref w12, .ref w13, .ref w14, .int fp, .int ft, .int (nI (flN 0 3))])), (w3, .inl (cI, 1600, .inl (upd fi (40 * b9 + a9) z))), (w4, .inl (cI, 1600, .inl (upd ip (40 * b9 + a9) (nI 0)))), (w5, .inl (cI, 1600, .inl (upd se (40 * b9 + a9) (nI 1))))] H := hP
          have hD : va_D A [(w0, .inr (5, [.ref w1, .ref w2, .int yt, .int te, .ref w3, .ref w4, .ref w5, .int (nt + nI 1), .int wb, .ref w6, .ref w7, .ref w8, .int rc, .ref w9, .ref w10, .ref w11, .ref w12, .ref w13, .ref w14, .int fp, .int ft, .int (nI (flN 0 3))])), (w3, .inl (cI, 1600, .inl (upd fi (40 * b9 + a9) z))), (w4, .inl (cI, 1600, .inl (upd ip (40 * b9 + a9) (nI 0)))), (w5, .inl (cI, 1600, .inl (upd se (40 * b9 + a9) (nI 1))))] := hD
          have hP9 := hP.sub (ws' := [(w0, .inr (5, [.ref w1, .ref w2, .int yt, .int te, .ref w3, .ref w4, .ref w5, .int (nt + nI 1), .int wb, .ref w6, .ref w7, .ref w8, .int rc, .ref w9, .ref w10, .ref w11, .ref w12, .ref w13, .ref w14, .int fp, .int ft, .int (nI (flN 0 3))])), (w3, .inl (cI, 1600, .inl (upd fi (40 * b9 + a9) z))), (w4, .inl (cI, 1600, .inl (upd ip (40 * b9 + a9) (nI 0)))), (w5, .inl (cI, 1600, .inl (upd se (40 * b9 + a9) (nI 1))))]) [0, 1, 2, 3] rfl
          have hD9 := hD.sub (ws' := [(w0, .inr (5, [.ref w1, .ref w2, .int yt, .int te, .ref w3, .ref w4, .ref w5, .int (nt + nI 1), .int wb, .ref w6, .ref w7, .ref w8, .int rc, .ref w9, .ref w10, .ref w11, .ref w12, .ref w13, .ref w14, .int fp, .int ft, .int (nI (flN 0 3))])), (w3, .inl (cI, 1600, .inl (upd fi (40 * b9 + a9) z))), (w4, .inl (cI, 1600, .inl (upd ip (40 * b9 + a9) (nI 0)))), (w5, .inl (cI, 1600, .inl (upd se (40 * b9 + a9) (nI 1))))]) [0, 1, 2, 3] (by decide) rfl
          exact W.vret hx hb hr (fun t9 ht hW => ⟨⟨(upd fi (40 * b9 + a9) z, upd ip (40 * b9 + a9) (nI 0), upd se (40 * b9 + a9) (nI 1), nt + nI 1, wb, nI 0), rfl, (by unfold msV; rw [nn_nI (show a9 < 2 ^ 31 by omega), nn_nI (show b9 < 2 ^ 31 by omega), if_neg c_6, if_neg c_27, if_neg c_54, if_pos c_61]; try rfl), ⟨by rw [ht]; exact hP9, hD9⟩⟩, hS.F ht⟩) hS.2.2 d_MD_seed_84
        · skip
          refine lv_iconst (v := nI 1) hx hb d_MD_seed_64 (by decide +kernel) ?_
          refine lv_goto (tgt := 69) hx hb d_MD_seed_65 (by decide) ?_
          refine lv_iconst (v := nI 3) hx hb d_MD_seed_69 (by decide +kernel) ?_
          refine cl_i (wr := [(w3, .inl (cI, 1600, .inl fi)), (w4, .inl (cI, 1600, .inl ip)), (w5, .inl (cI, 1600, .inl se))]) (va_runV (As := [.int (nI 1), .int (nI 3)]) (rest := []) ⟨hx, hb, hml, hown, hw⟩ (k_MD_fails l D cI cJ w0 w1 w2 w3 w4 w5 w6 w7 w8 w9 w10 w11 w12 w13 w14 yt te nt wb rc fp ft (nI (flN 0 2)) 1 3 _ (by omega)) (cwV 2 hw (gV kw_836 kw_838 kw_20 kw_45 kw_839) rfl rfl rfl (by decide +kernel) ⟨Nat.le_of_ble_eq_true rfl, Nat.le_of_ble_eq_true rfl⟩) (pre_Vw (wc := [(w0, .inr (5, [.ref w1, .ref w2, .int yt, .int te, .ref w3, .ref w4, .ref w5, .int nt, .int wb, .ref w6, .ref w7, .ref w8, .int rc, .ref w9, .ref w10, .ref w11, .ref w12, .ref w13, .ref w14, .int fp, .int ft, .int (nI (flN 0 2))]))]) (q0 := 0) hE hX hA hP hD hS [3] (by decide) rfl rfl rfl rfl) rfl rfl hl.1 rfl (lv_room (Nat.le_of_ble_eq_true rfl)) d_MD_seed_70 ⟨Nat.le_of_ble_eq_true rfl, Nat.le_of_ble_eq_true rfl⟩) hP hD hS hA [3] [0, 1, 2] rfl rfl (by decide) (by decide) (fun r_8 u_r_8 H locs hr_8 hP hD hS => ?_)
          obtain rfl : nI 1 = r_8 := hr_8.symm
          have hP : va_P D vwCl [(w3, .inl (cI, 1600, .inl fi)), (w4, .inl (cI, 1600, .inl ip)), (w5, .inl (cI, 1600, .inl se)), (w0, .inr (5, [.ref w1, .ref w2, .int yt, .int te, .ref w3, .ref w4, .ref w5, .int nt, .int wb, .ref w6, .ref w7, .ref w8, .int rc, .ref w9, .ref w10, .ref w11, .ref w12, .ref w13, .ref w14, .int fp, .int ft, .int (nI (flN 1 3))]))] H := hP
          have hD : va_D A [(w3, .inl (cI, 1600, .inl fi)), (w4, .inl (cI, 1600, .inl ip)), (w5, .inl (cI, 1600, .inl se)), (w0, .inr (5, [.ref w1, .ref w2, .int yt, .int te, .ref w3, .ref w4, .ref w5, .int nt, .int wb, .ref w6, .ref w7, .ref w8, .int rc, .ref w9, .ref w10, .ref w11, .ref w12, .ref w13, .ref w14, .int fp, .int ft, .int (nI (flN 1 3))]))] := hD
          refine jn_if_eq (tgt := 77) (a := 1) hx hb d_MD_seed_73 (by decide) (by decide) (fun c9 => absurd c9 (by decide)) (fun _ => ?_)
          have hP9 := hP.sub (ws' := [(w0, .inr (5, [.ref w1, .ref w2, .int yt, .int te, .ref w3, .ref w4, .ref w5, .int nt, .int wb, .ref w6, .ref w7, .ref w8, .int rc, .ref w9, .ref w10, .ref w11, .ref w12, .ref w13, .ref w14, .int fp, .int ft, .int (nI (flN 1 3))])), (w3, .inl (cI, 1600, .inl fi)), (w4, .inl (cI, 1600, .inl ip)), (w5, .inl (cI, 1600, .inl se))]) [3, 0, 1, 2] rfl
          have hD9 := hD.sub (ws' := [(w0, .inr (5, [.ref w1, .ref w2, .int yt, .int te, .ref w3, .ref w4, .ref w5, .int nt, .int wb, .ref w6, .ref w7, .ref w8, .int rc, .ref w9, .ref w10, .ref w11, .ref w12, .ref w13, .ref w14, .int fp, .int ft, .int (nI (flN 1 3))])), (w3, .inl (cI, 1600, .inl fi)), (w4, .inl (cI, 1600, .inl ip)), (w5, .inl (cI, 1600, .inl se))]) [3, 0, 1, 2] (by decide) rfl
          exact W.vret hx hb hr (fun t9 ht hW => ⟨⟨(fi, ip, se, nt, wb, nI 3), rfl, (by unfold msV; rw [nn_nI (show a9 < 2 ^ 31 by omega), nn_nI (show b9 < 2 ^ 31 by omega), if_neg c_6, if_neg c_27, if_neg c_54, if_neg c_61]; try rfl), ⟨by rw [ht]; exact hP9, hD9⟩⟩, hS.F ht⟩) hS.2.2 d_MD_seed_76
    · skip
      refine lv_iconst (v := nI 1) hx hb d_MD_seed_30 (by decide +kernel) ?_
      refine lv_goto (tgt := 35) hx hb d_MD_seed_31 (by decide) ?_
      refine lv_iconst (v := nI 2) hx hb d_MD_seed_35 (by decide +kernel) ?_
      refine cl_i (wr := [(w3, .inl (cI, 1600, .inl fi)), (w4, .inl (cI, 1600, .inl ip)), (w5, .inl (cI, 1600, .inl se))]) (va_runV (As := [.int (nI 1), .int (nI 2)]) (rest := []) ⟨hx, hb, hml, hown, hw⟩ (k_MD_fails l D cI cJ w0 w1 w2 w3 w4 w5 w6 w7 w8 w9 w10 w11 w12 w13 w14 yt te nt wb rc fp ft (nI (flN 0 1)) 1 2 _ (by omega)) (cwV 2 hw (gV kw_836 kw_838 kw_20 kw_45 kw_839) rfl rfl rfl (by decide +kernel) ⟨Nat.le_of_ble_eq_true rfl, Nat.le_of_ble_eq_true rfl⟩) (pre_Vw (wc := [(w0, .inr (5, [.ref w1, .ref w2, .int yt, .int te, .ref w3, .ref w4, .ref w5, .int nt, .int wb, .ref w6, .ref w7, .ref w8, .int rc, .ref w9, .ref w10, .ref w11, .ref w12, .ref w13, .ref w14, .int fp, .int ft, .int (nI (flN 0 1))]))]) (q0 := 0) hE hX hA hP hD hS [3] (by decide) rfl rfl rfl rfl) rfl rfl hl.1 rfl (lv_room (Nat.le_of_ble_eq_true rfl)) d_MD_seed_36 ⟨Nat.le_of_ble_eq_true rfl, Nat.le_of_ble_eq_true rfl⟩) hP hD hS hA [3] [0, 1, 2] rfl rfl (by decide) (by decide) (fun r_9 u_r_9 H locs hr_9 hP hD hS => ?_)
      obtain rfl : nI 1 = r_9 := hr_9.symm
      have hP : va_P D vwCl [(w3, .inl (cI, 1600, .inl fi)), (w4, .inl (cI, 1600, .inl ip)), (w5, .inl (cI, 1600, .inl se)), (w0, .inr (5, [.ref w1, .ref w2, .int yt, .int te, .ref w3, .ref w4, .ref w5, .int nt, .int wb, .ref w6, .ref w7, .ref w8, .int rc, .ref w9, .ref w10, .ref w11, .ref w12, .ref w13, .ref w14, .int fp, .int ft, .int (nI (flN 1 2))]))] H := hP
      have hD : va_D A [(w3, .inl (cI, 1600, .inl fi)), (w4, .inl (cI, 1600, .inl ip)), (w5, .inl (cI, 1600, .inl se)), (w0, .inr (5, [.ref w1, .ref w2, .int yt, .int te, .ref w3, .ref w4, .ref w5, .int nt, .int wb, .ref w6, .ref w7, .ref w8, .int rc, .ref w9, .ref w10, .ref w11, .ref w12, .ref w13, .ref w14, .int fp, .int ft, .int (nI (flN 1 2))]))] := hD
      refine jn_if_ne (tgt := 76) (a := 1) hx hb d_MD_seed_39 (by decide) (by decide) (fun _ => ?_) (fun c9 => absurd c9 (by decide))
      have hP9 := hP.sub (ws' := [(w0, .inr (5, [.ref w1, .ref w2, .int yt, .int te, .ref w3, .ref w4, .ref w5, .int nt, .int wb, .ref w6, .ref w7, .ref w8, .int rc, .ref w9, .ref w10, .ref w11, .ref w12, .ref w13, .ref w14, .int fp, .int ft, .int (nI (flN 1 2))])), (w3, .inl (cI, 1600, .inl fi)), (w4, .inl (cI, 1600, .inl ip)), (w5, .inl (cI, 1600, .inl se))]) [3, 0, 1, 2] rfl
      have hD9 := hD.sub (ws' := [(w0, .inr (5, [.ref w1, .ref w2, .int yt, .int te, .ref w3, .ref w4, .ref w5, .int nt, .int wb, .ref w6, .ref w7, .ref w8, .int rc, .ref w9, .ref w10, .ref w11, .ref w12, .ref w13, .ref w14, .int fp, .int ft, .int (nI (flN 1 2))])), (w3, .inl (cI, 1600, .inl fi)), (w4, .inl (cI, 1600, .inl ip)), (w5, .inl (cI, 1600, .inl se))]) [3, 0, 1, 2] (by decide) rfl
      exact W.vret hx hb hr (fun t9 ht hW => ⟨⟨(fi, ip, se, nt, wb, nI 2), rfl, (by unfold msV; rw [if_neg c_6, if_pos c_27]; try rfl), ⟨by rw [ht]; exact hP9, hD9⟩⟩, hS.F ht⟩) hS.2.2 d_MD_seed_76
  · skip
    refine lv_iconst (v := nI 1) hx hb d_MD_seed_9 (by decide +kernel) ?_
    refine lv_goto (tgt := 14) hx hb d_MD_seed_10 (by decide) ?_
    refine lv_iconst (v := nI 1) hx hb d_MD_seed_14 (by decide +kernel) ?_
    refine cl_i (wr := [(w3, .inl (cI, 1600, .inl fi)), (w4, .inl (cI, 1600, .inl ip)), (w5, .inl (cI, 1600, .inl se))]) (va_runV (As := [.int (nI 1), .int (nI 1)]) (rest := []) ⟨hx, hb, hml, hown, hw⟩ (k_MD_fails l D cI cJ w0 w1 w2 w3 w4 w5 w6 w7 w8 w9 w10 w11 w12 w13 w14 yt te nt wb rc fp ft th 1 1 _ (by omega)) (cwV 2 hw (gV kw_836 kw_838 kw_20 kw_45 kw_839) rfl rfl rfl (by decide +kernel) ⟨Nat.le_of_ble_eq_true rfl, Nat.le_of_ble_eq_true rfl⟩) (pre_Vw (wc := [(w0, .inr (5, [.ref w1, .ref w2, .int yt, .int te, .ref w3, .ref w4, .ref w5, .int nt, .int wb, .ref w6, .ref w7, .ref w8, .int rc, .ref w9, .ref w10, .ref w11, .ref w12, .ref w13, .ref w14, .int fp, .int ft, .int th]))]) (q0 := 0) hE hX hA hP hD hS [0] (by decide) rfl rfl rfl rfl) rfl rfl hl.1 rfl (lv_room (Nat.le_of_ble_eq_true rfl)) d_MD_seed_15 ⟨Nat.le_of_ble_eq_true rfl, Nat.le_of_ble_eq_true rfl⟩) hP hD hS hA [0] [1, 2, 3] rfl rfl (by decide) (by decide) (fun r_10 u_r_10 H locs hr_10 hP hD hS => ?_)
    obtain rfl : nI 1 = r_10 := hr_10.symm
    have hP : va_P D vwCl [(w3, .inl (cI, 1600, .inl fi)), (w4, .inl (cI, 1600, .inl ip)), (w5, .inl (cI, 1600, .inl se)), (w0, .inr (5, [.ref w1, .ref w2, .int yt, .int te, .ref w3, .ref w4, .ref w5, .int nt, .int wb, .ref w6, .ref w7, .ref w8, .int rc, .ref w9, .ref w10, .ref w11, .ref w12, .ref w13, .ref w14, .int fp, .int ft, .int (nI (flN 1 1))]))] H := hP
    have hD : va_D A [(w3, .inl (cI, 1600, .inl fi)), (w4, .inl (cI, 1600, .inl ip)), (w5, .inl (cI, 1600, .inl se)), (w0, .inr (5, [.ref w1, .ref w2, .int yt, .int te, .ref w3, .ref w4, .ref w5, .int nt, .int wb, .ref w6, .ref w7, .ref w8, .int rc, .ref w9, .ref w10, .ref w11, .ref w12, .ref w13, .ref w14, .int fp, .int ft, .int (nI (flN 1 1))]))] := hD
    refine jn_if_ne (tgt := 76) (a := 1) hx hb d_MD_seed_18 (by decide) (by decide) (fun _ => ?_) (fun c9 => absurd c9 (by decide))
    have hP9 := hP.sub (ws' := [(w0, .inr (5, [.ref w1, .ref w2, .int yt, .int te, .ref w3, .ref w4, .ref w5, .int nt, .int wb, .ref w6, .ref w7, .ref w8, .int rc, .ref w9, .ref w10, .ref w11, .ref w12, .ref w13, .ref w14, .int fp, .int ft, .int (nI (flN 1 1))])), (w3, .inl (cI, 1600, .inl fi)), (w4, .inl (cI, 1600, .inl ip)), (w5, .inl (cI, 1600, .inl se))]) [3, 0, 1, 2] rfl
    have hD9 := hD.sub (ws' := [(w0, .inr (5, [.ref w1, .ref w2, .int yt, .int te, .ref w3, .ref w4, .ref w5, .int nt, .int wb, .ref w6, .ref w7, .ref w8, .int rc, .ref w9, .ref w10, .ref w11, .ref w12, .ref w13, .ref w14, .int fp, .int ft, .int (nI (flN 1 1))])), (w3, .inl (cI, 1600, .inl fi)), (w4, .inl (cI, 1600, .inl ip)), (w5, .inl (cI, 1600, .inl se))]) [3, 0, 1, 2] (by decide) rfl
    exact W.vret hx hb hr (fun t9 ht hW => ⟨⟨(fi, ip, se, nt, wb, nI 1), rfl, (by unfold msV; rw [if_pos c_6]; try rfl), ⟨by rw [ht]; exact hP9, hD9⟩⟩, hS.F ht⟩) hS.2.2 d_MD_seed_76
