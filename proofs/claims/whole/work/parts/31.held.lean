theorem d_MD_may_0 : decode c_MD_may 0 = .ok (.aload_n 1, 1) := by decide +kernel
theorem d_MD_may_1 : decode c_MD_may 1 = .ok (.iload_n 2, 1) := by decide +kernel
theorem d_MD_may_2 : decode c_MD_may 2 = .ok (.iaload, 1) := by decide +kernel
theorem d_MD_may_3 : decode c_MD_may 3 = .ok (.ifCond .ne 22, 3) := by decide +kernel
theorem d_MD_may_6 : decode c_MD_may 6 = .ok (.aload_n 0, 1) := by decide +kernel
theorem d_MD_may_7 : decode c_MD_may 7 = .ok (.aload_n 1, 1) := by decide +kernel
theorem d_MD_may_8 : decode c_MD_may 8 = .ok (.iload_n 2, 1) := by decide +kernel
theorem d_MD_may_9 : decode c_MD_may 9 = .ok (.iload_n 3, 1) := by decide +kernel
theorem d_MD_may_10 : decode c_MD_may 10 = .ok (.iconst 0, 1) := by decide +kernel
theorem d_MD_may_11 : decode c_MD_may 11 = .ok (.invokevirtual 81, 3) := by decide +kernel
theorem d_MD_may_14 : decode c_MD_may 14 = .ok (.aload_n 0, 1) := by decide +kernel
theorem d_MD_may_15 : decode c_MD_may 15 = .ok (.getfield 16, 3) := by decide +kernel
theorem d_MD_may_18 : decode c_MD_may 18 = .ok (.if_icmp .lt 7, 3) := by decide +kernel
theorem d_MD_may_21 : decode c_MD_may 21 = .ok (.iconst 1, 1) := by decide +kernel
theorem d_MD_may_22 : decode c_MD_may 22 = .ok (.goto 4, 3) := by decide +kernel
theorem d_MD_may_25 : decode c_MD_may 25 = .ok (.iconst 0, 1) := by decide +kernel
theorem d_MD_may_26 : decode c_MD_may 26 = .ok (.ireturn, 1) := by decide +kernel
theorem d_MD_heldBy_0 : decode c_MD_heldBy 0 = .ok (.iconst 0, 1) := by decide +kernel
theorem d_MD_heldBy_1 : decode c_MD_heldBy 1 = .ok (.istore 5, 2) := by decide +kernel
theorem d_MD_heldBy_3 : decode c_MD_heldBy 3 = .ok (.iconst 0, 1) := by decide +kernel
theorem d_MD_heldBy_4 : decode c_MD_heldBy 4 = .ok (.istore 6, 2) := by decide +kernel
theorem d_MD_heldBy_6 : decode c_MD_heldBy 6 = .ok (.iload 6, 2) := by decide +kernel
theorem d_MD_heldBy_8 : decode c_MD_heldBy 8 = .ok (.iconst 4, 1) := by decide +kernel
theorem d_MD_heldBy_9 : decode c_MD_heldBy 9 = .ok (.if_icmp .ge 33, 3) := by decide +kernel
theorem d_MD_heldBy_12 : decode c_MD_heldBy 12 = .ok (.iload 4, 2) := by decide +kernel
theorem d_MD_heldBy_14 : decode c_MD_heldBy 14 = .ok (.iload 6, 2) := by decide +kernel
theorem d_MD_heldBy_16 : decode c_MD_heldBy 16 = .ok (.ishr, 1) := by decide +kernel
theorem d_MD_heldBy_17 : decode c_MD_heldBy 17 = .ok (.iconst 1, 1) := by decide +kernel
theorem d_MD_heldBy_18 : decode c_MD_heldBy 18 = .ok (.iand, 1) := by decide +kernel
theorem d_MD_heldBy_19 : decode c_MD_heldBy 19 = .ok (.ifCond .ne 17, 3) := by decide +kernel
theorem d_MD_heldBy_22 : decode c_MD_heldBy 22 = .ok (.iload 5, 2) := by decide +kernel
theorem d_MD_heldBy_24 : decode c_MD_heldBy 24 = .ok (.aload_n 0, 1) := by decide +kernel
theorem d_MD_heldBy_25 : decode c_MD_heldBy 25 = .ok (.aload_n 1, 1) := by decide +kernel
theorem d_MD_heldBy_26 : decode c_MD_heldBy 26 = .ok (.iload_n 2, 1) := by decide +kernel
theorem d_MD_heldBy_27 : decode c_MD_heldBy 27 = .ok (.iload_n 3, 1) := by decide +kernel
theorem d_MD_heldBy_28 : decode c_MD_heldBy 28 = .ok (.iload 6, 2) := by decide +kernel
theorem d_MD_heldBy_30 : decode c_MD_heldBy 30 = .ok (.invokevirtual 77, 3) := by decide +kernel
theorem d_MD_heldBy_33 : decode c_MD_heldBy 33 = .ok (.iadd, 1) := by decide +kernel
theorem d_MD_heldBy_34 : decode c_MD_heldBy 34 = .ok (.istore 5, 2) := by decide +kernel
theorem d_MD_heldBy_36 : decode c_MD_heldBy 36 = .ok (.iinc 6 1, 3) := by decide +kernel
theorem d_MD_heldBy_39 : decode c_MD_heldBy 39 = .ok (.goto (-33), 3) := by decide +kernel
theorem d_MD_heldBy_42 : decode c_MD_heldBy 42 = .ok (.iload 5, 2) := by decide +kernel
theorem d_MD_heldBy_44 : decode c_MD_heldBy 44 = .ok (.ireturn, 1) := by decide +kernel
theorem d_MD_held_0 : decode c_MD_held 0 = .ok (.iload_n 2, 1) := by decide +kernel
theorem d_MD_held_1 : decode c_MD_held 1 = .ok (.iload 4, 2) := by decide +kernel
theorem d_MD_held_3 : decode c_MD_held 3 = .ok (.invokestatic 70, 3) := by decide +kernel
theorem d_MD_held_6 : decode c_MD_held 6 = .ok (.istore 5, 2) := by decide +kernel
theorem d_MD_held_8 : decode c_MD_held 8 = .ok (.iload 5, 2) := by decide +kernel
theorem d_MD_held_10 : decode c_MD_held 10 = .ok (.ifCond .lt 10, 3) := by decide +kernel
theorem d_MD_held_13 : decode c_MD_held 13 = .ok (.aload_n 1, 1) := by decide +kernel
theorem d_MD_held_14 : decode c_MD_held 14 = .ok (.iload 5, 2) := by decide +kernel
theorem d_MD_held_16 : decode c_MD_held 16 = .ok (.iaload, 1) := by decide +kernel
theorem d_MD_held_17 : decode c_MD_held 17 = .ok (.ifCond .ne 5, 3) := by decide +kernel
theorem d_MD_held_20 : decode c_MD_held 20 = .ok (.iconst 0, 1) := by decide +kernel
theorem d_MD_held_21 : decode c_MD_held 21 = .ok (.ireturn, 1) := by decide +kernel
theorem d_MD_held_22 : decode c_MD_held 22 = .ok (.aload_n 0, 1) := by decide +kernel
theorem d_MD_held_23 : decode c_MD_held 23 = .ok (.iload_n 3, 1) := by decide +kernel
theorem d_MD_held_24 : decode c_MD_held 24 = .ok (.iload 4, 2) := by decide +kernel
theorem d_MD_held_26 : decode c_MD_held 26 = .ok (.invokevirtual 74, 3) := by decide +kernel
theorem d_MD_held_29 : decode c_MD_held 29 = .ok (.istore 6, 2) := by decide +kernel
theorem d_MD_held_31 : decode c_MD_held 31 = .ok (.iload 6, 2) := by decide +kernel
theorem d_MD_held_33 : decode c_MD_held 33 = .ok (.ifCond .le 32, 3) := by decide +kernel
theorem d_MD_held_36 : decode c_MD_held 36 = .ok (.iload 6, 2) := by decide +kernel
theorem d_MD_held_38 : decode c_MD_held 38 = .ok (.aload_n 0, 1) := by decide +kernel
theorem d_MD_held_39 : decode c_MD_held 39 = .ok (.aload_n 1, 1) := by decide +kernel
theorem d_MD_held_40 : decode c_MD_held 40 = .ok (.iload 5, 2) := by decide +kernel
theorem d_MD_held_42 : decode c_MD_held 42 = .ok (.iaload, 1) := by decide +kernel
theorem d_MD_held_43 : decode c_MD_held 43 = .ok (.iload 4, 2) := by decide +kernel
theorem d_MD_held_45 : decode c_MD_held 45 = .ok (.iconst 2, 1) := by decide +kernel
theorem d_MD_held_46 : decode c_MD_held 46 = .ok (.iadd, 1) := by decide +kernel
theorem d_MD_held_47 : decode c_MD_held 47 = .ok (.iconst 4, 1) := by decide +kernel
theorem d_MD_held_48 : decode c_MD_held 48 = .ok (.irem, 1) := by decide +kernel
theorem d_MD_held_49 : decode c_MD_held 49 = .ok (.invokevirtual 74, 3) := by decide +kernel
theorem d_MD_held_52 : decode c_MD_held 52 = .ok (.if_icmp .ne 13, 3) := by decide +kernel
theorem d_MD_held_55 : decode c_MD_held 55 = .ok (.aload_n 0, 1) := by decide +kernel
theorem d_MD_held_56 : decode c_MD_held 56 = .ok (.getfield 7, 3) := by decide +kernel
theorem d_MD_held_59 : decode c_MD_held 59 = .ok (.iload 6, 2) := by decide +kernel
theorem d_MD_held_61 : decode c_MD_held 61 = .ok (.iaload, 1) := by decide +kernel
theorem d_MD_held_62 : decode c_MD_held 62 = .ok (.goto 4, 3) := by decide +kernel
theorem d_MD_held_65 : decode c_MD_held 65 = .ok (.iconst 0, 1) := by decide +kernel
theorem d_MD_held_66 : decode c_MD_held 66 = .ok (.ireturn, 1) := by decide +kernel
theorem d_MD_beside_0 : decode c_MD_beside 0 = .ok (.iload_n 0, 1) := by decide +kernel
theorem d_MD_beside_1 : decode c_MD_beside 1 = .ok (.bipush 40, 2) := by decide +kernel
theorem d_MD_beside_3 : decode c_MD_beside 3 = .ok (.irem, 1) := by decide +kernel
theorem d_MD_beside_4 : decode c_MD_beside 4 = .ok (.iload_n 1, 1) := by decide +kernel
theorem d_MD_beside_5 : decode c_MD_beside 5 = .ok (.iconst 1, 1) := by decide +kernel
theorem d_MD_beside_6 : decode c_MD_beside 6 = .ok (.if_icmp .ne 7, 3) := by decide +kernel
theorem d_MD_beside_9 : decode c_MD_beside 9 = .ok (.iconst 1, 1) := by decide +kernel
theorem d_MD_beside_10 : decode c_MD_beside 10 = .ok (.goto 13, 3) := by decide +kernel
theorem d_MD_beside_13 : decode c_MD_beside 13 = .ok (.iload_n 1, 1) := by decide +kernel
theorem d_MD_beside_14 : decode c_MD_beside 14 = .ok (.iconst 3, 1) := by decide +kernel
theorem d_MD_beside_15 : decode c_MD_beside 15 = .ok (.if_icmp .ne 7, 3) := by decide +kernel
theorem d_MD_beside_18 : decode c_MD_beside 18 = .ok (.iconst (-1), 1) := by decide +kernel
theorem d_MD_beside_19 : decode c_MD_beside 19 = .ok (.goto 4, 3) := by decide +kernel
theorem d_MD_beside_22 : decode c_MD_beside 22 = .ok (.iconst 0, 1) := by decide +kernel
theorem d_MD_beside_23 : decode c_MD_beside 23 = .ok (.iadd, 1) := by decide +kernel
theorem d_MD_beside_24 : decode c_MD_beside 24 = .ok (.istore_n 2, 1) := by decide +kernel
theorem d_MD_beside_25 : decode c_MD_beside 25 = .ok (.iload_n 0, 1) := by decide +kernel
theorem d_MD_beside_26 : decode c_MD_beside 26 = .ok (.bipush 40, 2) := by decide +kernel
theorem d_MD_beside_28 : decode c_MD_beside 28 = .ok (.idiv, 1) := by decide +kernel
theorem d_MD_beside_29 : decode c_MD_beside 29 = .ok (.iload_n 1, 1) := by decide +kernel
theorem d_MD_beside_30 : decode c_MD_beside 30 = .ok (.ifCond .ne 7, 3) := by decide +kernel
theorem d_MD_beside_33 : decode c_MD_beside 33 = .ok (.iconst 1, 1) := by decide +kernel
theorem d_MD_beside_34 : decode c_MD_beside 34 = .ok (.goto 13, 3) := by decide +kernel
theorem d_MD_beside_37 : decode c_MD_beside 37 = .ok (.iload_n 1, 1) := by decide +kernel
theorem d_MD_beside_38 : decode c_MD_beside 38 = .ok (.iconst 2, 1) := by decide +kernel
theorem d_MD_beside_39 : decode c_MD_beside 39 = .ok (.if_icmp .ne 7, 3) := by decide +kernel
theorem d_MD_beside_42 : decode c_MD_beside 42 = .ok (.iconst (-1), 1) := by decide +kernel
theorem d_MD_beside_43 : decode c_MD_beside 43 = .ok (.goto 4, 3) := by decide +kernel
theorem d_MD_beside_46 : decode c_MD_beside 46 = .ok (.iconst 0, 1) := by decide +kernel
theorem d_MD_beside_47 : decode c_MD_beside 47 = .ok (.iadd, 1) := by decide +kernel
theorem d_MD_beside_48 : decode c_MD_beside 48 = .ok (.istore_n 3, 1) := by decide +kernel
theorem d_MD_beside_49 : decode c_MD_beside 49 = .ok (.iload_n 2, 1) := by decide +kernel
theorem d_MD_beside_50 : decode c_MD_beside 50 = .ok (.iload_n 3, 1) := by decide +kernel
theorem d_MD_beside_51 : decode c_MD_beside 51 = .ok (.invokestatic 66, 3) := by decide +kernel
theorem d_MD_beside_54 : decode c_MD_beside 54 = .ok (.ifCond .eq 12, 3) := by decide +kernel
theorem d_MD_beside_57 : decode c_MD_beside 57 = .ok (.bipush 40, 2) := by decide +kernel
theorem d_MD_beside_59 : decode c_MD_beside 59 = .ok (.iload_n 3, 1) := by decide +kernel
theorem d_MD_beside_60 : decode c_MD_beside 60 = .ok (.imul, 1) := by decide +kernel
theorem d_MD_beside_61 : decode c_MD_beside 61 = .ok (.iload_n 2, 1) := by decide +kernel
theorem d_MD_beside_62 : decode c_MD_beside 62 = .ok (.iadd, 1) := by decide +kernel
theorem d_MD_beside_63 : decode c_MD_beside 63 = .ok (.goto 4, 3) := by decide +kernel
theorem d_MD_beside_66 : decode c_MD_beside 66 = .ok (.iconst (-1), 1) := by decide +kernel
theorem d_MD_beside_67 : decode c_MD_beside 67 = .ok (.ireturn, 1) := by decide +kernel
def bsV (p k : Nat) : Int32 := match k with
  | 0 => if p < 1560 then nI (p + 40) else -1
  | 1 => if p % 40 < 39 then nI (p + 1) else -1
  | 2 => if 40 ≤ p then nI (p - 40) else -1
  | _ => if 1 ≤ p % 40 then nI (p - 1) else -1
theorem m1_lt : (-1 : Int32) < 0 := by decide
theorem bsV_nn {p k : Nat} (hp : p < 1600) (h : ¬ bsV p k < 0) : bsV p k = nI (nn (bsV p k)) ∧ nn (bsV p k) < 1600 := by
  have g : ∀ (c : Prop) [Decidable c] (q : Nat), (c → q < 1600) → ¬ (if c then nI q else -1) < 0 → (if c then nI q else -1) = nI (nn (if c then nI q else -1)) ∧ nn (if c then nI q else -1) < 1600 := by
    intro c _ q hq h
    by_cases e : c
    · have := hq e
      rw [if_pos e, nn_nI (by omega)]
      exact ⟨rfl, this⟩
    · rw [if_neg e] at h
      exact absurd m1_lt h
  unfold bsV at h ⊢
  split at h
  · exact g _ _ (fun _ => by omega) h
  · exact g _ _ (fun _ => by omega) h
  · exact g _ _ (fun _ => by omega) h
  · exact g _ _ (fun _ => by omega) h
theorem isP_m1y (x : Int32) : isP x (nI 0 + (-1)) = 0 := by
  unfold isP
  split
  · rfl
  · rw [if_pos (by decide +kernel)]
theorem isP_m1x (y : Int32) : isP (nI 0 + (-1)) y = 0 := by
  unfold isP
  rw [if_pos (by decide +kernel)]
theorem bs_0 {p : Nat} (hp : p < 1600) : (isP (nI (p % 40 + 0)) (nI (p / 40 + 1)) = 0 → -1 = bsV p 0) ∧ (isP (nI (p % 40 + 0)) (nI (p / 40 + 1)) ≠ 0 → nI (40 * (p / 40 + 1) + (p % 40 + 0)) = bsV p 0) := by
  have h := isP_in (a := p % 40 + 0) (b := p / 40 + 1) (by omega) (by omega)
  refine ⟨fun z => ?_, fun z => ?_⟩
  · show -1 = if p < 1560 then nI (p + 40) else -1
    rw [if_neg (fun q => h.mpr (by omega) z)]
  · have := h.mp z
    show _ = if p < 1560 then nI (p + 40) else -1
    rw [if_pos (by omega), show 40 * (p / 40 + 1) + (p % 40 + 0) = p + 40 by omega]
theorem bs_1 {p : Nat} (hp : p < 1600) : (isP (nI (p % 40 + 1)) (nI (p / 40 + 0)) = 0 → -1 = bsV p 1) ∧ (isP (nI (p % 40 + 1)) (nI (p / 40 + 0)) ≠ 0 → nI (40 * (p / 40 + 0) + (p % 40 + 1)) = bsV p 1) := by
  have h := isP_in (a := p % 40 + 1) (b := p / 40 + 0) (by omega) (by omega)
  refine ⟨fun z => ?_, fun z => ?_⟩
  · show -1 = if p % 40 < 39 then nI (p + 1) else -1
    rw [if_neg (fun q => h.mpr (by omega) z)]
  · have := h.mp z
    show _ = if p % 40 < 39 then nI (p + 1) else -1
    rw [if_pos (by omega), show 40 * (p / 40 + 0) + (p % 40 + 1) = p + 1 by omega]
theorem bs_2 {p : Nat} (hp : p < 1600) : (isP (nI (p % 40 + 0)) (nI (p / 40) + (-1)) = 0 → -1 = bsV p 2) ∧ (isP (nI (p % 40 + 0)) (nI (p / 40) + (-1)) ≠ 0 → nI 40 * (nI (p / 40) + (-1)) + nI (p % 40 + 0) = bsV p 2) := by
  rcases Nat.eq_zero_or_pos (p / 40) with e | e
  · rw [e]
    refine ⟨fun _ => ?_, fun z => absurd (isP_m1y _) z⟩
    show -1 = if 40 ≤ p then nI (p - 40) else -1
    rw [if_neg (by omega)]
  · obtain ⟨b, hb⟩ : ∃ b, p / 40 = b + 1 := ⟨p / 40 - 1, by omega⟩
    rw [hb, pk_m1, pk_mul, nI_add]
    have h := isP_in (a := p % 40 + 0) (b := b) (by omega) (by omega)
    refine ⟨fun z => absurd z (h.mpr (by omega)), fun _ => ?_⟩
    show _ = if 40 ≤ p then nI (p - 40) else -1
    rw [if_pos (by omega), show 40 * b + (p % 40 + 0) = p - 40 by omega]
theorem bs_3 {p : Nat} (hp : p < 1600) : (isP (nI (p % 40) + (-1)) (nI (p / 40 + 0)) = 0 → -1 = bsV p 3) ∧ (isP (nI (p % 40) + (-1)) (nI (p / 40 + 0)) ≠ 0 → nI (40 * (p / 40 + 0)) + (nI (p % 40) + (-1)) = bsV p 3) := by
  rcases Nat.eq_zero_or_pos (p % 40) with e | e
  · rw [e]
    refine ⟨fun _ => ?_, fun z => absurd (isP_m1x _) z⟩
    show -1 = if 1 ≤ p % 40 then nI (p - 1) else -1
    rw [if_neg (by omega)]
  · obtain ⟨b, hb⟩ : ∃ b, p % 40 = b + 1 := ⟨p % 40 - 1, by omega⟩
    rw [hb, pk_m1, nI_add]
    have h := isP_in (a := b) (b := p / 40 + 0) (by omega) (by omega)
    refine ⟨fun z => absurd z (h.mpr (by omega)), fun _ => ?_⟩
    show _ = if 1 ≤ p % 40 then nI (p - 1) else -1
    rw [if_pos (by omega), show 40 * (p / 40 + 0) + b = p - 1 by omega]
def heV (sg gl fi : Nat → Int32) (p t k : Nat) : Int32 :=
  if bsV p k < 0 then nI 0 else if fi (nn (bsV p k)) = 0 then nI 0 else if gl (4 * t + k) ≤ 0 then nI 0 else if gl (4 * t + k) = gl (4 * nn (fi (nn (bsV p k))) + (k + 2) % 4) then sg (nn (gl (4 * t + k))) else nI 0
def okFi (fi : Nat → Int32) : Prop := ∀ i, i < 1600 → fi i = nI (nn (fi i)) ∧ nn (fi i) ≤ 60
def okGl (gl : Nat → Int32) : Prop := ∀ i, i < 244 → gl i = nI (nn (gl i)) ∧ nn (gl i) < 100
def hbS (sg gl fi : Nat → Int32) (p t : Nat) (w : Int32) (k : Nat) (a : Int32) : Int32 := if (w >>> (nI k &&& 31)) &&& nI 1 = 0 then a + heV sg gl fi p t k else a
def hbL (sg gl fi : Nat → Int32) (p t : Nat) (w : Int32) : Nat → Int32
  | 0 => nI 0
  | k + 1 => hbS sg gl fi p t w k (hbL sg gl fi p t w k)
def myN (sg gl fi : Nat → Int32) (te : Int32) (p t : Nat) : Nat := if fi p = 0 then (if hbL sg gl fi p t (nI 0) 4 < te then 0 else 1) else 0
set_option maxHeartbeats 4000000 in
set_option maxRecDepth 100000 in
/-- beside -/
theorem k_MD_beside (l : Launch) (D : va_G) (cI cJ : ClassId) (pp : Nat) (k : Nat) (hp : pp < 1600) (hk : k < 4) : Met l y_MD_beside ws_MD_beside ({ frames := 2, cells := 0, slots := 0, locals := 43 } : Room) (va_Pc [.int (nI pp), .int (nI k)] (Pp D cI cJ [])) (vp_Si (fun r : Int32 => r = bsV pp k)) 0 0 (fun _ => False) := by
  refine Met.ofW (cc := c_MD_beside) (maxL := 4) (ret := (some .int)) (by decide) rfl ?_
  intro p e s m args below meth c s₁ B hml hv
  obtain ⟨rfl, hE, hP, hX⟩ := hv
  have hx := B.exec
  have hb := B.bytes
  have hr := B.returns
  have hw : ∀ w ∈ gw, w.before _ s = true := fun w h => atoms_spec (ws := ws_MD_beside) B.pre w (List.mem_cons_of_mem _ h)
  have hown : s.vm.findClass R_MD = some m.cls := findClass_of_methodNamed B.named
  have hlocks := B.notSynchronized
  have hS : va_S (fun _ => False) s.heap s.heap [] := va_S.rf
  have hl := lv_entry ([.int (nI pp), .int (nI k)]) (n := 4) (Nat.le_of_ble_eq_true rfl)
  rw [lg_entry_eq]
  generalize (lg_sl ([.int (nI pp), .int (nI k)]) ++ List.replicate (4 - (lg_sl ([.int (nI pp), .int (nI k)])).length) Slot.unset).toArray = ls at hl ⊢
  have hl : lv_has ls 4 [(0, .int (nI pp)), (1, .int (nI k))] := hl
  rcases (show k = 0 ∨ k = 1 ∨ k = 2 ∨ k = 3 by omega) with rfl | rfl | rfl | rfl
  · skip
    refine lv_iload_n hx hb d_MD_beside_0 rfl (lv_at hl 0 rfl) ?_
    refine lv_bipush (v := nI 40) hx hb d_MD_beside_1 (by decide +kernel) ?_
    refine jn_irem (a := pp) (b := 40) hx hb d_MD_beside_3 (by omega) (by omega) (by omega) ?_
    refine lv_iload_n hx hb d_MD_beside_4 rfl (lv_at hl 1 rfl) ?_
    refine lv_iconst (v := nI 1) hx hb d_MD_beside_5 (by decide +kernel) ?_
    refine jn_icmp_ne (tgt := 13) (a := 0) (b := 1) hx hb d_MD_beside_6 (by decide) (by decide) (by decide) (fun _ => ?_) (fun c9 => absurd c9 (by decide))
    refine lv_iload_n hx hb d_MD_beside_13 rfl (lv_at hl 1 rfl) ?_
    refine lv_iconst (v := nI 3) hx hb d_MD_beside_14 (by decide +kernel) ?_
    refine jn_icmp_ne (tgt := 22) (a := 0) (b := 3) hx hb d_MD_beside_15 (by decide) (by decide) (by decide) (fun _ => ?_) (fun c9 => absurd c9 (by decide))
    refine lv_iconst (v := nI 0) hx hb d_MD_beside_22 (by decide +kernel) ?_
    refine jn_iadd (a := (pp % 40)) (b := 0) hx hb d_MD_beside_23 ?_
    refine lv_istore_n (lv' := [(2, .int (nI ((pp % 40) + 0))), (0, .int (nI pp)), (1, .int (nI 0))]) hx hb d_MD_beside_24 rfl hl (by decide) rfl (fun ls hl => ?_)
    refine lv_iload_n hx hb d_MD_beside_25 rfl (lv_at hl 1 rfl) ?_
    refine lv_bipush (v := nI 40) hx hb d_MD_beside_26 (by decide +kernel) ?_
    refine jn_idiv (a := pp) (b := 40) hx hb d_MD_beside_28 (by omega) (by omega) (by omega) ?_
    refine lv_iload_n hx hb d_MD_beside_29 rfl (lv_at hl 2 rfl) ?_
    refine jn_if_ne (tgt := 37) (a := 0) hx hb d_MD_beside_30 (by decide) (by decide) (fun c9 => absurd c9 (by decide)) (fun _ => ?_)
    refine lv_iconst (v := nI 1) hx hb d_MD_beside_33 (by decide +kernel) ?_
    refine lv_goto (tgt := 47) hx hb d_MD_beside_34 (by decide) ?_
    refine jn_iadd (a := (pp / 40)) (b := 1) hx hb d_MD_beside_47 ?_
    refine lv_istore_n (lv' := [(3, .int (nI ((pp / 40) + 1))), (2, .int (nI ((pp % 40) + 0))), (0, .int (nI pp)), (1, .int (nI 0))]) hx hb d_MD_beside_48 rfl hl (by decide) rfl (fun ls hl => ?_)
    refine lv_iload_n hx hb d_MD_beside_49 rfl (lv_at hl 1 rfl) ?_
    refine lv_iload_n hx hb d_MD_beside_50 rfl (lv_at hl 0 rfl) ?_
    refine vp_callSi (va_Run.run (va_runS (As := [.int (nI ((pp % 40) + 0)), .int (nI ((pp / 40) + 1))]) (rest := []) ⟨hx, hb, hml, hown, hw⟩ (k_MD_isPlace l D cI cJ (nI ((pp % 40) + 0)) (nI ((pp / 40) + 1))) (va_cwS 2 hw (gS kw_859 kw_860 kw_45 kw_861) rfl rfl rfl (by decide +kernel) ⟨Nat.le_of_ble_eq_true rfl, Nat.le_of_ble_eq_true rfl⟩) (pre_Sp (wc := []) hE hX hP hS [] rfl) rfl rfl hl.1 rfl (lv_room (Nat.le_of_ble_eq_true rfl)) d_MD_beside_51 ⟨Nat.le_of_ble_eq_true rfl, Nat.le_of_ble_eq_true rfl⟩)) (fun r_1 hr_1 => ?_)
    obtain rfl : nI (isP (nI ((pp % 40) + 0)) (nI ((pp / 40) + 1))) = r_1 := hr_1.symm
    have hib := isP_le (nI (pp % 40 + 0)) (nI (pp / 40 + 1))
    refine jn_if_eq (tgt := 66) (a := (isP (nI ((pp % 40) + 0)) (nI ((pp / 40) + 1)))) hx hb d_MD_beside_54 (by decide) (by omega) (fun c_54 => ?_) (fun c_54 => ?_)
    · skip
      refine lv_iconst (v := (-1)) hx hb d_MD_beside_66 (by decide +kernel) ?_
      exact W.iret (v := (-1)) hx hb hr (fun t9 ht hW => ⟨_, rfl, ((bs_0 hp).1 c_54), ht⟩) (fun q h => by cases h) d_MD_beside_67
    · skip
      refine lv_bipush (v := nI 40) hx hb d_MD_beside_57 (by decide +kernel) ?_
      refine lv_iload_n hx hb d_MD_beside_59 rfl (lv_at hl 0 rfl) ?_
      refine jn_imul (a := 40) (b := ((pp / 40) + 1)) hx hb d_MD_beside_60 ?_
      refine lv_iload_n hx hb d_MD_beside_61 rfl (lv_at hl 1 rfl) ?_
      refine jn_iadd (a := (40 * ((pp / 40) + 1))) (b := ((pp % 40) + 0)) hx hb d_MD_beside_62 ?_
      refine lv_goto (tgt := 67) hx hb d_MD_beside_63 (by decide) ?_
      exact W.iret (v := nI ((40 * ((pp / 40) + 1)) + ((pp % 40) + 0))) hx hb hr (fun t9 ht hW => ⟨_, rfl, ((bs_0 hp).2 c_54), ht⟩) (fun q h => by cases h) d_MD_beside_67
  · skip
    refine lv_iload_n hx hb d_MD_beside_0 rfl (lv_at hl 0 rfl) ?_
    refine lv_bipush (v := nI 40) hx hb d_MD_beside_1 (by decide +kernel) ?_
    refine jn_irem (a := pp) (b := 40) hx hb d_MD_beside_3 (by omega) (by omega) (by omega) ?_
    refine lv_iload_n hx hb d_MD_beside_4 rfl (lv_at hl 1 rfl) ?_
    refine lv_iconst (v := nI 1) hx hb d_MD_beside_5 (by decide +kernel) ?_
    refine jn_icmp_ne (tgt := 13) (a := 1) (b := 1) hx hb d_MD_beside_6 (by decide) (by decide) (by decide) (fun c9 => absurd c9 (by decide)) (fun _ => ?_)
    refine lv_iconst (v := nI 1) hx hb d_MD_beside_9 (by decide +kernel) ?_
    refine lv_goto (tgt := 23) hx hb d_MD_beside_10 (by decide) ?_
    refine jn_iadd (a := (pp % 40)) (b := 1) hx hb d_MD_beside_23 ?_
    refine lv_istore_n (lv' := [(2, .int (nI ((pp % 40) + 1))), (0, .int (nI pp)), (1, .int (nI 1))]) hx hb d_MD_beside_24 rfl hl (by decide) rfl (fun ls hl => ?_)
    refine lv_iload_n hx hb d_MD_beside_25 rfl (lv_at hl 1 rfl) ?_
    refine lv_bipush (v := nI 40) hx hb d_MD_beside_26 (by decide +kernel) ?_
    refine jn_idiv (a := pp) (b := 40) hx hb d_MD_beside_28 (by omega) (by omega) (by omega) ?_
    refine lv_iload_n hx hb d_MD_beside_29 rfl (lv_at hl 2 rfl) ?_
    refine jn_if_ne (tgt := 37) (a := 1) hx hb d_MD_beside_30 (by decide) (by decide) (fun _ => ?_) (fun c9 => absurd c9 (by decide))
    refine lv_iload_n hx hb d_MD_beside_37 rfl (lv_at hl 2 rfl) ?_
    refine lv_iconst (v := nI 2) hx hb d_MD_beside_38 (by decide +kernel) ?_
    refine jn_icmp_ne (tgt := 46) (a := 1) (b := 2) hx hb d_MD_beside_39 (by decide) (by decide) (by decide) (fun _ => ?_) (fun c9 => absurd c9 (by decide))
    refine lv_iconst (v := nI 0) hx hb d_MD_beside_46 (by decide +kernel) ?_
    refine jn_iadd (a := (pp / 40)) (b := 0) hx hb d_MD_beside_47 ?_
    refine lv_istore_n (lv' := [(3, .int (nI ((pp / 40) + 0))), (2, .int (nI ((pp % 40) + 1))), (0, .int (nI pp)), (1, .int (nI 1))]) hx hb d_MD_beside_48 rfl hl (by decide) rfl (fun ls hl => ?_)
    refine lv_iload_n hx hb d_MD_beside_49 rfl (lv_at hl 1 rfl) ?_
    refine lv_iload_n hx hb d_MD_beside_50 rfl (lv_at hl 0 rfl) ?_
    refine vp_callSi (va_Run.run (va_runS (As := [.int (nI ((pp % 40) + 1)), .int (nI ((pp / 40) + 0))]) (rest := []) ⟨hx, hb, hml, hown, hw⟩ (k_MD_isPlace l D cI cJ (nI ((pp % 40) + 1)) (nI ((pp / 40) + 0))) (va_cwS 2 hw (gS kw_859 kw_860 kw_45 kw_861) rfl rfl rfl (by decide +kernel) ⟨Nat.le_of_ble_eq_true rfl, Nat.le_of_ble_eq_true rfl⟩) (pre_Sp (wc := []) hE hX hP hS [] rfl) rfl rfl hl.1 rfl (lv_room (Nat.le_of_ble_eq_true rfl)) d_MD_beside_51 ⟨Nat.le_of_ble_eq_true rfl, Nat.le_of_ble_eq_true rfl⟩)) (fun r_2 hr_2 => ?_)
    obtain rfl : nI (isP (nI ((pp % 40) + 1)) (nI ((pp / 40) + 0))) = r_2 := hr_2.symm
    have hib := isP_le (nI (pp % 40 + 1)) (nI (pp / 40 + 0))
    refine jn_if_eq (tgt := 66) (a := (isP (nI ((pp % 40) + 1)) (nI ((pp / 40) + 0)))) hx hb d_MD_beside_54 (by decide) (by omega) (fun c_54 => ?_) (fun c_54 => ?_)
    · skip
      refine lv_iconst (v := (-1)) hx hb d_MD_beside_66 (by decide +kernel) ?_
      exact W.iret (v := (-1)) hx hb hr (fun t9 ht hW => ⟨_, rfl, ((bs_1 hp).1 c_54), ht⟩) (fun q h => by cases h) d_MD_beside_67
    · skip
      refine lv_bipush (v := nI 40) hx hb d_MD_beside_57 (by decide +kernel) ?_
      refine lv_iload_n hx hb d_MD_beside_59 rfl (lv_at hl 0 rfl) ?_
      refine jn_imul (a := 40) (b := ((pp / 40) + 0)) hx hb d_MD_beside_60 ?_
      refine lv_iload_n hx hb d_MD_beside_61 rfl (lv_at hl 1 rfl) ?_
      refine jn_iadd (a := (40 * ((pp / 40) + 0))) (b := ((pp % 40) + 1)) hx hb d_MD_beside_62 ?_
      refine lv_goto (tgt := 67) hx hb d_MD_beside_63 (by decide) ?_
      exact W.iret (v := nI ((40 * ((pp / 40) + 0)) + ((pp % 40) + 1))) hx hb hr (fun t9 ht hW => ⟨_, rfl, ((bs_1 hp).2 c_54), ht⟩) (fun q h => by cases h) d_MD_beside_67
  · skip
    refine lv_iload_n hx hb d_MD_beside_0 rfl (lv_at hl 0 rfl) ?_
    refine lv_bipush (v := nI 40) hx hb d_MD_beside_1 (by decide +kernel) ?_
    refine jn_irem (a := pp) (b := 40) hx hb d_MD_beside_3 (by omega) (by omega) (by omega) ?_
    refine lv_iload_n hx hb d_MD_beside_4 rfl (lv_at hl 1 rfl) ?_
    refine lv_iconst (v := nI 1) hx hb d_MD_beside_5 (by decide +kernel) ?_
    refine jn_icmp_ne (tgt := 13) (a := 2) (b := 1) hx hb d_MD_beside_6 (by decide) (by decide) (by decide) (fun _ => ?_) (fun c9 => absurd c9 (by decide))
    refine lv_iload_n hx hb d_MD_beside_13 rfl (lv_at hl 1 rfl) ?_
    refine lv_iconst (v := nI 3) hx hb d_MD_beside_14 (by decide +kernel) ?_
    refine jn_icmp_ne (tgt := 22) (a := 2) (b := 3) hx hb d_MD_beside_15 (by decide) (by decide) (by decide) (fun _ => ?_) (fun c9 => absurd c9 (by decide))
    refine lv_iconst (v := nI 0) hx hb d_MD_beside_22 (by decide +kernel) ?_
    refine jn_iadd (a := (pp % 40)) (b := 0) hx hb d_MD_beside_23 ?_
    refine lv_istore_n (lv' := [(2, .int (nI ((pp % 40) + 0))), (0, .int (nI pp)), (1, .int (nI 2))]) hx hb d_MD_beside_24 rfl hl (by decide) rfl (fun ls hl => ?_)
    refine lv_iload_n hx hb d_MD_beside_25 rfl (lv_at hl 1 rfl) ?_
    refine lv_bipush (v := nI 40) hx hb d_MD_beside_26 (by decide +kernel) ?_
    refine jn_idiv (a := pp) (b := 40) hx hb d_MD_beside_28 (by omega) (by omega) (by omega) ?_
    refine lv_iload_n hx hb d_MD_beside_29 rfl (lv_at hl 2 rfl) ?_
    refine jn_if_ne (tgt := 37) (a := 2) hx hb d_MD_beside_30 (by decide) (by decide) (fun _ => ?_) (fun c9 => absurd c9 (by decide))
    refine lv_iload_n hx hb d_MD_beside_37 rfl (lv_at hl 2 rfl) ?_
    refine lv_iconst (v := nI 2) hx hb d_MD_beside_38 (by decide +kernel) ?_
    refine jn_icmp_ne (tgt := 46) (a := 2) (b := 2) hx hb d_MD_beside_39 (by decide) (by decide) (by decide) (fun c9 => absurd c9 (by decide)) (fun _ => ?_)
    refine lv_iconst (v := (-1)) hx hb d_MD_beside_42 (by decide +kernel) ?_
    refine lv_goto (tgt := 47) hx hb d_MD_beside_43 (by decide) ?_
    refine lv_iadd hx hb d_MD_beside_47 ?_
    refine lv_istore_n (lv' := [(3, .int ((nI (pp / 40)) + (-1))), (2, .int (nI ((pp % 40) + 0))), (0, .int (nI pp)), (1, .int (nI 2))]) hx hb d_MD_beside_48 rfl hl (by decide) rfl (fun ls hl => ?_)
    refine lv_iload_n hx hb d_MD_beside_49 rfl (lv_at hl 1 rfl) ?_
    refine lv_iload_n hx hb d_MD_beside_50 rfl (lv_at hl 0 rfl) ?_
    refine vp_callSi (va_Run.run (va_runS (As := [.int (nI ((pp % 40) + 0)), .int ((nI (pp / 40)) + (-1))]) (rest := []) ⟨hx, hb, hml, hown, hw⟩ (k_MD_isPlace l D cI cJ (nI ((pp % 40) + 0)) ((nI (pp / 40)) + (-1))) (va_cwS 2 hw (gS kw_859 kw_860 kw_45 kw_861) rfl rfl rfl (by decide +kernel) ⟨Nat.le_of_ble_eq_true rfl, Nat.le_of_ble_eq_true rfl⟩) (pre_Sp (wc := []) hE hX hP hS [] rfl) rfl rfl hl.1 rfl (lv_room (Nat.le_of_ble_eq_true rfl)) d_MD_beside_51 ⟨Nat.le_of_ble_eq_true rfl, Nat.le_of_ble_eq_true rfl⟩)) (fun r_3 hr_3 => ?_)
    obtain rfl : nI (isP (nI ((pp % 40) + 0)) ((nI (pp / 40)) + (-1))) = r_3 := hr_3.symm
    have hib := isP_le (nI (pp % 40 + 0)) (nI (pp / 40) + (-1))
    refine jn_if_eq (tgt := 66) (a := (isP (nI ((pp % 40) + 0)) ((nI (pp / 40)) + (-1)))) hx hb d_MD_beside_54 (by decide) (by omega) (fun c_54 => ?_) (fun c_54 => ?_)
    · skip
      refine lv_iconst (v := (-1)) hx hb d_MD_beside_66 (by decide +kernel) ?_
      exact W.iret (v := (-1)) hx hb hr (fun t9 ht hW => ⟨_, rfl, ((bs_2 hp).1 c_54), ht⟩) (fun q h => by cases h) d_MD_beside_67
    · skip
      refine lv_bipush (v := nI 40) hx hb d_MD_beside_57 (by decide +kernel) ?_
      refine lv_iload_n hx hb d_MD_beside_59 rfl (lv_at hl 0 rfl) ?_
      refine lv_imul hx hb d_MD_beside_60 ?_
      refine lv_iload_n hx hb d_MD_beside_61 rfl (lv_at hl 1 rfl) ?_
      refine lv_iadd hx hb d_MD_beside_62 ?_
      refine lv_goto (tgt := 67) hx hb d_MD_beside_63 (by decide) ?_
      exact W.iret (v := ((nI 40) * ((nI (pp / 40)) + (-1))) + (nI ((pp % 40) + 0))) hx hb hr (fun t9 ht hW => ⟨_, rfl, ((bs_2 hp).2 c_54), ht⟩) (fun q h => by cases h) d_MD_beside_67
  · skip
    refine lv_iload_n hx hb d_MD_beside_0 rfl (lv_at hl 0 rfl) ?_
    refine lv_bipush (v := nI 40) hx hb d_MD_beside_1 (by decide +kernel) ?_
    refine jn_irem (a := pp) (b := 40) hx hb d_MD_beside_3 (by omega) (by omega) (by omega) ?_
    refine lv_iload_n hx hb d_MD_beside_4 rfl (lv_at hl 1 rfl) ?_
    refine lv_iconst (v := nI 1) hx hb d_MD_beside_5 (by decide +kernel) ?_
    refine jn_icmp_ne (tgt := 13) (a := 3) (b := 1) hx hb d_MD_beside_6 (by decide) (by decide) (by decide) (fun _ => ?_) (fun c9 => absurd c9 (by decide))
    refine lv_iload_n hx hb d_MD_beside_13 rfl (lv_at hl 1 rfl) ?_
    refine lv_iconst (v := nI 3) hx hb d_MD_beside_14 (by decide +kernel) ?_
    refine jn_icmp_ne (tgt := 22) (a := 3) (b := 3) hx hb d_MD_beside_15 (by decide) (by decide) (by decide) (fun c9 => absurd c9 (by decide)) (fun _ => ?_)
    refine lv_iconst (v := (-1)) hx hb d_MD_beside_18 (by decide +kernel) ?_
    refine lv_goto (tgt := 23) hx hb d_MD_beside_19 (by decide) ?_
    refine lv_iadd hx hb d_MD_beside_23 ?_
    refine lv_istore_n (lv' := [(2, .int ((nI (pp % 40)) + (-1))), (0, .int (nI pp)), (1, .int (nI 3))]) hx hb d_MD_beside_24 rfl hl (by decide) rfl (fun ls hl => ?_)
    refine lv_iload_n hx hb d_MD_beside_25 rfl (lv_at hl 1 rfl) ?_
    refine lv_bipush (v := nI 40) hx hb d_MD_beside_26 (by decide +kernel) ?_
    refine jn_idiv (a := pp) (b := 40) hx hb d_MD_beside_28 (by omega) (by omega) (by omega) ?_
    refine lv_iload_n hx hb d_MD_beside_29 rfl (lv_at hl 2 rfl) ?_
    refine jn_if_ne (tgt := 37) (a := 3) hx hb d_MD_beside_30 (by decide) (by decide) (fun _ => ?_) (fun c9 => absurd c9 (by decide))
    refine lv_iload_n hx hb d_MD_beside_37 rfl (lv_at hl 2 rfl) ?_
    refine lv_iconst (v := nI 2) hx hb d_MD_beside_38 (by decide +kernel) ?_
    refine jn_icmp_ne (tgt := 46) (a := 3) (b := 2) hx hb d_MD_beside_39 (by decide) (by decide) (by decide) (fun _ => ?_) (fun c9 => absurd c9 (by decide))
    refine lv_iconst (v := nI 0) hx hb d_MD_beside_46 (by decide +kernel) ?_
    refine jn_iadd (a := (pp / 40)) (b := 0) hx hb d_MD_beside_47 ?_
    refine lv_istore_n (lv' := [(3, .int (nI ((pp / 40) + 0))), (2, .int ((nI (pp % 40)) + (-1))), (0, .int (nI pp)), (1, .int (nI 3))]) hx hb d_MD_beside_48 rfl hl (by decide) rfl (fun ls hl => ?_)
    refine lv_iload_n hx hb d_MD_beside_49 rfl (lv_at hl 1 rfl) ?_
    refine lv_iload_n hx hb d_MD_beside_50 rfl (lv_at hl 0 rfl) ?_
    refine vp_callSi (va_Run.run (va_runS (As := [.int ((nI (pp % 40)) + (-1)), .int (nI ((pp / 40) + 0))]) (rest := []) ⟨hx, hb, hml, hown, hw⟩ (k_MD_isPlace l D cI cJ ((nI (pp % 40)) + (-1)) (nI ((pp / 40) + 0))) (va_cwS 2 hw (gS kw_859 kw_860 kw_45 kw_861) rfl rfl rfl (by decide +kernel) ⟨Nat.le_of_ble_eq_true rfl, Nat.le_of_ble_eq_true rfl⟩) (pre_Sp (wc := []) hE hX hP hS [] rfl) rfl rfl hl.1 rfl (lv_room (Nat.le_of_ble_eq_true rfl)) d_MD_beside_51 ⟨Nat.le_of_ble_eq_true rfl, Nat.le_of_ble_eq_true rfl⟩)) (fun r_4 hr_4 => ?_)
    obtain rfl : nI (isP ((nI (pp % 40)) + (-1)) (nI ((pp / 40) + 0))) = r_4 := hr_4.symm
    have hib := isP_le (nI (pp % 40) + (-1)) (nI (pp / 40 + 0))
    refine jn_if_eq (tgt := 66) (a := (isP ((nI (pp % 40)) + (-1)) (nI ((pp / 40) + 0)))) hx hb d_MD_beside_54 (by decide) (by omega) (fun c_54 => ?_) (fun c_54 => ?_)
    · skip
      refine lv_iconst (v := (-1)) hx hb d_MD_beside_66 (by decide +kernel) ?_
      exact W.iret (v := (-1)) hx hb hr (fun t9 ht hW => ⟨_, rfl, ((bs_3 hp).1 c_54), ht⟩) (fun q h => by cases h) d_MD_beside_67
    · skip
      refine lv_bipush (v := nI 40) hx hb d_MD_beside_57 (by decide +kernel) ?_
      refine lv_iload_n hx hb d_MD_beside_59 rfl (lv_at hl 0 rfl) ?_
      refine jn_imul (a := 40) (b := ((pp / 40) + 0)) hx hb d_MD_beside_60 ?_
      refine lv_iload_n hx hb d_MD_beside_61 rfl (lv_at hl 1 rfl) ?_
      refine lv_iadd hx hb d_MD_beside_62 ?_
      refine lv_goto (tgt := 67) hx hb d_MD_beside_63 (by decide) ?_
      exact W.iret (v := (nI (40 * ((pp / 40) + 0))) + ((nI (pp % 40)) + (-1))) hx hb hr (fun t9 ht hW => ⟨_, rfl, ((bs_3 hp).2 c_54), ht⟩) (fun q h => by cases h) d_MD_beside_67
set_option maxHeartbeats 4000000 in
set_option maxRecDepth 100000 in
/-- held -/
theorem k_MD_held (l : Launch) (D : va_G) (cI cJ : ClassId) (w0 : Nat) (w1 : Nat) (w2 : Nat) (w3 : Nat) (w4 : Nat) (w5 : Nat) (w6 : Nat) (w7 : Nat) (w8 : Nat) (w9 : Nat) (w10 : Nat) (w11 : Nat) (w12 : Nat) (w13 : Nat) (w14 : Nat) (yt : Int32) (te : Int32) (nt : Int32) (wb : Int32) (rc : Int32) (fp : Int32) (ft : Int32) (th : Int32) (sg : Nat → Int32) (gl : Nat → Int32) (a0 : Nat) (fi : Nat → Int32) (pp : Nat) (t : Nat) (k : Nat) (hp : pp < 1600) (ht : t ≤ 60) (hfi : okFi fi) (hgl : okGl gl) (hk : k < 4) : Met l y_MD_held ws_MD_held ({ frames := 3, cells := 0, slots := 0, locals := 66 } : Room) (va_Pc [.ref w0, .ref a0, .int (nI pp), .int (nI t), .int (nI k)] (Pp D cI cJ [(w0, .inr (5, [.ref w1, .ref w2, .int yt, .int te, .ref w3, .ref w4, .ref w5, .int nt, .int wb, .ref w6, .ref w7, .ref w8, .int rc, .ref w9, .ref w10, .ref w11, .ref w12, .ref w13, .ref w14, .int fp, .int ft, .int th])), (w1, .inl (cI, 100, .inl sg)), (w2, .inl (cI, 244, .inl gl)), (a0, .inl (cI, 1600, .inl fi))])) (vp_Si (fun r : Int32 => r = heV sg gl fi pp t k)) 0 0 (fun _ => False) := by
  refine Met.ofW (cc := c_MD_held) (maxL := 7) (ret := (some .int)) (by decide) rfl ?_
  intro p e s m args below meth c s₁ B hml hv
  obtain ⟨rfl, hE, hP, hX⟩ := hv
  have hx := B.exec
  have hb := B.bytes
  have hr := B.returns
  have hw : ∀ w ∈ gw, w.before _ s = true := fun w h => atoms_spec (ws := ws_MD_held) B.pre w (List.mem_cons_of_mem _ h)
  have hown : s.vm.findClass R_MD = some m.cls := findClass_of_methodNamed B.named
  have hlocks := B.notSynchronized
  have hS : va_S (fun _ => False) s.heap s.heap [] := va_S.rf
  have hl := lv_entry ([.ref w0, .ref a0, .int (nI pp), .int (nI t), .int (nI k)]) (n := 7) (Nat.le_of_ble_eq_true rfl)
  rw [lg_entry_eq]
  generalize (lg_sl ([.ref w0, .ref a0, .int (nI pp), .int (nI t), .int (nI k)]) ++ List.replicate (7 - (lg_sl ([.ref w0, .ref a0, .int (nI pp), .int (nI t), .int (nI k)])).length) Slot.unset).toArray = ls at hl ⊢
  have hl : lv_has ls 7 [(0, .ref w0), (1, .ref a0), (2, .int (nI pp)), (3, .int (nI t)), (4, .int (nI k))] := hl
  refine lv_iload_n hx hb d_MD_held_0 rfl (lv_at hl 2 rfl) ?_
  refine lv_iload hx hb d_MD_held_1 (lv_at hl 4 rfl) ?_
  refine vp_callSi (va_Run.run (va_runS (As := [.int (nI pp), .int (nI k)]) (rest := []) ⟨hx, hb, hml, hown, hw⟩ (k_MD_beside l D cI cJ pp k hp hk) (va_cwS 2 hw (gS kw_898 kw_899 kw_45 kw_900) rfl rfl rfl (by decide +kernel) ⟨Nat.le_of_ble_eq_true rfl, Nat.le_of_ble_eq_true rfl⟩) (pre_Sp (wc := []) hE hX hP hS [] rfl) rfl rfl hl.1 rfl (lv_room (Nat.le_of_ble_eq_true rfl)) d_MD_held_3 ⟨Nat.le_of_ble_eq_true rfl, Nat.le_of_ble_eq_true rfl⟩)) (fun r_1 hr_1 => ?_)
  obtain rfl : bsV pp k = r_1 := hr_1.symm
  refine lv_istore (lv' := [(5, .int (bsV pp k)), (0, .ref w0), (1, .ref a0), (2, .int (nI pp)), (3, .int (nI t)), (4, .int (nI k))]) hx hb d_MD_held_6 hl (by decide) rfl (fun ls hl => ?_)
  refine lv_iload hx hb d_MD_held_8 (lv_at hl 0 rfl) ?_
  refine lv_if_lt (tgt := 20) hx hb d_MD_held_10 (by decide) (fun c_10 => ?_) (fun c_10 => ?_)
  · skip
    refine lv_iconst (v := nI 0) hx hb d_MD_held_20 (by decide +kernel) ?_
    exact W.iret (v := nI 0) hx hb hr (fun t9 ht hW => ⟨_, rfl, (by unfold heV; rw [if_pos c_10]), ht⟩) (fun q h => by cases h) d_MD_held_21
  · skip
    have hbv := bsV_nn hp c_10
    have hbq := hfi _ hbv.2
    have hbr := hbq.2
    have hgk := hgl (4 * t + k) (by omega)
    refine lv_aload_n hx hb d_MD_held_13 rfl (lv_at hl 2 rfl) ?_
    refine lv_iload hx hb d_MD_held_14 (lv_at hl 0 rfl) ?_
    refine W.eq (g2 := F0 m 16 ls [.int (nI (nn (bsV pp k))), .ref a0]) (by rw [← hbv.1]) ?_
    refine jn_iald (k := (nn (bsV pp k))) hx hb hE.1 hP 3 0 rfl rfl hbv.2 (by omega) d_MD_held_16 ?_
    refine lv_if_ne (tgt := 22) hx hb d_MD_held_17 (by decide) (fun c_17 => ?_) (fun c_17 => ?_)
    · skip
      refine lv_aload_n hx hb d_MD_held_22 rfl (lv_at hl 1 rfl) ?_
      refine lv_iload_n hx hb d_MD_held_23 rfl (lv_at hl 4 rfl) ?_
      refine lv_iload hx hb d_MD_held_24 (lv_at hl 5 rfl) ?_
      refine vp_callSi (va_Run.run (va_runV (As := [.int (nI t), .int (nI k)]) (rest := []) ⟨hx, hb, hml, hown, hw⟩ (k_MD_glueOf l D cI cJ w0 w1 w2 w3 w4 w5 w6 w7 w8 w9 w10 w11 w12 w13 w14 yt te nt wb rc fp ft th gl t k (by omega)) (cwV 2 hw (gV kw_901 kw_903 kw_28 kw_45 kw_904) rfl rfl rfl (by decide +kernel) ⟨Nat.le_of_ble_eq_true rfl, Nat.le_of_ble_eq_true rfl⟩) (pre_Vp (wc := [(w0, .inr (5, [.ref w1, .ref w2, .int yt, .int te, .ref w3, .ref w4, .ref w5, .int nt, .int wb, .ref w6, .ref w7, .ref w8, .int rc, .ref w9, .ref w10, .ref w11, .ref w12, .ref w13, .ref w14, .int fp, .int ft, .int th])), (w2, .inl (cI, 244, .inl gl))]) (q0 := 0) hE hX hP hS [0, 2] rfl rfl rfl) rfl rfl hl.1 rfl (lv_room (Nat.le_of_ble_eq_true rfl)) d_MD_held_26 ⟨Nat.le_of_ble_eq_true rfl, Nat.le_of_ble_eq_true rfl⟩)) (fun r_2 hr_2 => ?_)
      obtain rfl : gl (4 * t + k) = r_2 := hr_2.symm
      refine lv_istore (lv' := [(6, .int (gl (4 * t + k))), (5, .int (bsV pp k)), (0, .ref w0), (1, .ref a0), (2, .int (nI pp)), (3, .int (nI t)), (4, .int (nI k))]) hx hb d_MD_held_29 hl (by decide) rfl (fun ls hl => ?_)
      refine lv_iload hx hb d_MD_held_31 (lv_at hl 0 rfl) ?_
      refine lv_if_le (tgt := 65) hx hb d_MD_held_33 (by decide) (fun c_33 => ?_) (fun c_33 => ?_)
      · skip
        refine lv_iconst (v := nI 0) hx hb d_MD_held_65 (by decide +kernel) ?_
        exact W.iret (v := nI 0) hx hb hr (fun t9 ht hW => ⟨_, rfl, (by unfold heV; rw [if_neg c_10, if_neg c_17, if_pos c_33]), ht⟩) (fun q h => by cases h) d_MD_held_66
      · skip
        refine lv_iload hx hb d_MD_held_36 (lv_at hl 0 rfl) ?_
        refine lv_aload_n hx hb d_MD_held_38 rfl (lv_at hl 2 rfl) ?_
        refine lv_aload_n hx hb d_MD_held_39 rfl (lv_at hl 3 rfl) ?_
        refine lv_iload hx hb d_MD_held_40 (lv_at hl 1 rfl) ?_
        refine W.eq (g2 := F0 m 42 ls [.int (nI (nn (bsV pp k))), .ref a0, .ref w0, .int (gl (4 * t + k))]) (by rw [← hbv.1]) ?_
        refine jn_iald (k := (nn (bsV pp k))) hx hb hE.1 hP 3 0 rfl rfl hbv.2 (by omega) d_MD_held_42 ?_
        refine W.eq (g2 := F0 m 43 ls [.int (nI (nn (fi (nn (bsV pp k))))), .ref w0, .int (gl (4 * t + k))]) (by rw [← hbq.1]) ?_
        refine lv_iload hx hb d_MD_held_43 (lv_at hl 6 rfl) ?_
        refine lv_iconst (v := nI 2) hx hb d_MD_held_45 (by decide +kernel) ?_
        refine jn_iadd (a := k) (b := 2) hx hb d_MD_held_46 ?_
        refine lv_iconst (v := nI 4) hx hb d_MD_held_47 (by decide +kernel) ?_
        refine jn_irem (a := (k + 2)) (b := 4) hx hb d_MD_held_48 (by omega) (by omega) (by omega) ?_
        refine vp_callSi (va_Run.run (va_runV (As := [.int (nI (nn (fi (nn (bsV pp k))))), .int (nI ((k + 2) % 4))]) (rest := [.int (gl (4 * t + k))]) ⟨hx, hb, hml, hown, hw⟩ (k_MD_glueOf l D cI cJ w0 w1 w2 w3 w4 w5 w6 w7 w8 w9 w10 w11 w12 w13 w14 yt te nt wb rc fp ft th gl (nn (fi (nn (bsV pp k)))) ((k + 2) % 4) (by omega)) (cwV 2 hw (gV kw_901 kw_903 kw_28 kw_45 kw_904) rfl rfl rfl (by decide +kernel) ⟨Nat.le_of_ble_eq_true rfl, Nat.le_of_ble_eq_true rfl⟩) (pre_Vp (wc := [(w0, .inr (5, [.ref w1, .ref w2, .int yt, .int te, .ref w3, .ref w4, .ref w5, .int nt, .int wb, .ref w6, .ref w7, .ref w8, .int rc, .ref w9, .ref w10, .ref w11, .ref w12, .ref w13, .ref w14, .int fp, .int ft, .int th])), (w2, .inl (cI, 244, .inl gl))]) (q0 := 0) hE hX hP hS [0, 2] rfl rfl rfl) rfl rfl hl.1 rfl (lv_room (Nat.le_of_ble_eq_true rfl)) d_MD_held_49 ⟨Nat.le_of_ble_eq_true rfl, Nat.le_of_ble_eq_true rfl⟩)) (fun r_3 hr_3 => ?_)
        obtain rfl : gl (4 * (nn (fi (nn (bsV pp k)))) + ((k + 2) % 4)) = r_3 := hr_3.symm
        refine lv_icmp_ne (tgt := 65) hx hb d_MD_held_52 (by decide) (fun c_52 => ?_) (fun c_52 => ?_)
        · skip
          refine lv_iconst (v := nI 0) hx hb d_MD_held_65 (by decide +kernel) ?_
          exact W.iret (v := nI 0) hx hb hr (fun t9 ht hW => ⟨_, rfl, (by unfold heV; rw [if_neg c_10, if_neg c_17, if_neg c_33, if_neg c_52]), ht⟩) (fun q h => by cases h) d_MD_held_66
        · skip
          refine lv_aload_n hx hb d_MD_held_55 rfl (lv_at hl 2 rfl) ?_
          refine va_get (D := D) (ci := 5) (v := .ref w1) (C := R_MD) (T := T_MD) (N := 22) hx hb hw in_MD hown hE.1 hP 0 rfl rfl 0 (by decide) (hw _ kw_761) (fun _ h9 => h9) rfl d_MD_held_56 ?_
          refine lv_iload hx hb d_MD_held_59 (lv_at hl 0 rfl) ?_
          refine W.eq (g2 := F0 m 61 ls [.int (nI (nn (gl (4 * t + k)))), .ref w1]) (by rw [← hgk.1]) ?_
          refine jn_iald (k := (nn (gl (4 * t + k)))) hx hb hE.1 hP 1 0 rfl rfl hgk.2 (by omega) d_MD_held_61 ?_
          refine lv_goto (tgt := 66) hx hb d_MD_held_62 (by decide) ?_
          exact W.iret (v := sg (nn (gl (4 * t + k)))) hx hb hr (fun t9 ht hW => ⟨_, rfl, (by unfold heV; rw [if_neg c_10, if_neg c_17, if_neg c_33, if_pos c_52]), ht⟩) (fun q h => by cases h) d_MD_held_66
    · skip
      refine lv_iconst (v := nI 0) hx hb d_MD_held_20 (by decide +kernel) ?_
      exact W.iret (v := nI 0) hx hb hr (fun t9 ht hW => ⟨_, rfl, (by unfold heV; rw [if_neg c_10, if_pos c_17]), ht⟩) (fun q h => by cases h) d_MD_held_21
set_option maxHeartbeats 4000000 in
set_option maxRecDepth 100000 in
theorem lp_k_MD_heldBy_6 {p : Program} {l : Launch} {e : Env} {s : State} {m : MethodId} {args : Array Value} {below : List Frame} {meth : Method} {c : Code} {D : va_G} {cI cJ : ClassId} {Q : State → Prop} (w0 : Nat) (w1 : Nat) (w2 : Nat) (w3 : Nat) (w4 : Nat) (w5 : Nat) (w6 : Nat) (w7 : Nat) (w8 : Nat) (w9 : Nat) (w10 : Nat) (w11 : Nat) (w12 : Nat) (w13 : Nat) (w14 : Nat) (yt : Int32) (te : Int32) (nt : Int32) (wb : Int32) (rc : Int32) (fp : Int32) (ft : Int32) (th : Int32) (sg : Nat → Int32) (gl : Nat → Int32) (a0 : Nat) (fi : Nat → Int32) (pp : Nat) (t : Nat) (w : Int32) (hp : pp < 1600) (ht : t ≤ 60) (hfi : okFi fi) (hgl : okGl gl)  (hx : p.tables.exec = Jvm.exec) (hb : c.code = c_MD_heldBy) (hml : c.maxLocals = 7) (hown : s.vm.findClass R_MD = some m.cls) (hw : ∀ w ∈ gw, w.before args s = true) (hE : En D cI cJ s) (hX : Sx (fun _ => False) s s.heap) (hP : va_P D vwCl [(w0, .inr (5, [.ref w1, .ref w2, .int yt, .int te, .ref w3, .ref w4, .ref w5, .int nt, .int wb, .ref w6, .ref w7, .ref w8, .int rc, .ref w9, .ref w10, .ref w11, .ref w12, .ref w13, .ref w14, .int fp, .int ft, .int th])), (w1, .inl (cI, 100, .inl sg)), (w2, .inl (cI, 244, .inl gl)), (a0, .inl (cI, 1600, .inl fi))] s.heap)
    (kx0 : ∀ (a9 : Int32), (a9 = hbL sg gl fi pp t w 4) → ∀ (ls : Array Slot), lv_has ls 7 [(5, .int a9)] → W p l e ({ frames := 4, cells := 0, slots := 0, locals := 92 } : Room) s m args below meth c s.heap [] 0 0 Q (F0 m 42 ls [])) :
    ∀ (fu : Nat) (k : Nat) (a9 : Int32), 4 - k < fu → (k ≤ 4) → (a9 = hbL sg gl fi pp t w k) → ∀ (ls : Array Slot), lv_has ls 7 [(0, .ref w0), (1, .ref a0), (2, .int (nI pp)), (3, .int (nI t)), (4, .int w), (5, .int a9), (6, .int (nI k))] → W p l e ({ frames := 4, cells := 0, slots := 0, locals := 92 } : Room) s m args below meth c s.heap [] 0 0 Q (F0 m 6 ls []) := by
  have hS : va_S (fun _ => False) s.heap s.heap [] := va_S.rf
  intro fu
  induction fu with
  | zero =>
    intro k a9 h0
    exact absurd h0 (Nat.not_lt_zero _)
  | succ fu ih =>
    intro k a9 hmu hk ha9 ls hl
    refine lv_iload hx hb d_MD_heldBy_6 (lv_at hl 6 rfl) ?_
    refine lv_iconst (v := nI 4) hx hb d_MD_heldBy_8 (by decide +kernel) ?_
    refine jn_icmp_ge (tgt := 42) (a := k) (b := 4) hx hb d_MD_heldBy_9 (by decide) (by omega) (by omega) (fun c_9 => ?_) (fun c_9 => ?_)
    · skip
      exact kx0 a9 (by rw [ha9, show k = 4 by omega]) _ (lv_sub hl [5] rfl)
    · skip
      refine lv_iload hx hb d_MD_heldBy_12 (lv_at hl 4 rfl) ?_
      refine lv_iload hx hb d_MD_heldBy_14 (lv_at hl 6 rfl) ?_
      refine lv_ishr hx hb d_MD_heldBy_16 ?_
      refine lv_iconst (v := nI 1) hx hb d_MD_heldBy_17 (by decide +kernel) ?_
      refine lv_iand hx hb d_MD_heldBy_18 ?_
      refine lv_if_ne (tgt := 36) hx hb d_MD_heldBy_19 (by decide) (fun c_19 => ?_) (fun c_19 => ?_)
      · skip
        refine lv_iinc (v := nI (k + 1)) (lv' := [(6, .int (nI (k + 1))), (0, .ref w0), (1, .ref a0), (2, .int (nI pp)), (3, .int (nI t)), (4, .int w), (5, .int a9)]) hx hb d_MD_heldBy_36 hl (k := 6) rfl (jn_inc k 1) (by decide) rfl (fun ls hl => ?_)
        refine lv_goto (tgt := 6) hx hb d_MD_heldBy_39 (by decide) ?_
        exact ih (k + 1) a9 (by omega) (by omega) (by rw [hbL, ← ha9]; unfold hbS; rw [if_neg c_19]) _ (lv_sub hl [1, 2, 3, 4, 5, 6, 0] rfl)
      · skip
        refine lv_iload hx hb d_MD_heldBy_22 (lv_at hl 5 rfl) ?_
        refine lv_aload_n hx hb d_MD_heldBy_24 rfl (lv_at hl 0 rfl) ?_
        refine lv_aload_n hx hb d_MD_heldBy_25 rfl (lv_at hl 1 rfl) ?_
        refine lv_iload_n hx hb d_MD_heldBy_26 rfl (lv_at hl 2 rfl) ?_
        refine lv_iload_n hx hb d_MD_heldBy_27 rfl (lv_at hl 3 rfl) ?_
        refine lv_iload hx hb d_MD_heldBy_28 (lv_at hl 6 rfl) ?_
        refine vp_callSi (va_Run.run (va_runV (As := [.ref a0, .int (nI pp), .int (nI t), .int (nI k)]) (rest := [.int a9]) ⟨hx, hb, hml, hown, hw⟩ (k_MD_held l D cI cJ w0 w1 w2 w3 w4 w5 w6 w7 w8 w9 w10 w11 w12 w13 w14 yt te nt wb rc fp ft th sg gl a0 fi pp t k hp ht hfi hgl (by omega)) (cwV 4 hw (gV kw_894 kw_896 kw_27 kw_45 kw_897) rfl rfl rfl (by decide +kernel) ⟨Nat.le_of_ble_eq_true rfl, Nat.le_of_ble_eq_true rfl⟩) (pre_Vp (wc := [(w0, .inr (5, [.ref w1, .ref w2, .int yt, .int te, .ref w3, .ref w4, .ref w5, .int nt, .int wb, .ref w6, .ref w7, .ref w8, .int rc, .ref w9, .ref w10, .ref w11, .ref w12, .ref w13, .ref w14, .int fp, .int ft, .int th])), (w1, .inl (cI, 100, .inl sg)), (w2, .inl (cI, 244, .inl gl)), (a0, .inl (cI, 1600, .inl fi))]) (q0 := 0) hE hX hP hS [0, 1, 2, 3] rfl rfl rfl) rfl rfl hl.1 rfl (lv_room (Nat.le_of_ble_eq_true rfl)) d_MD_heldBy_30 ⟨Nat.le_of_ble_eq_true rfl, Nat.le_of_ble_eq_true rfl⟩)) (fun r_1 hr_1 => ?_)
        obtain rfl : heV sg gl fi pp t k = r_1 := hr_1.symm
        refine lv_iadd hx hb d_MD_heldBy_33 ?_
        refine lv_istore (lv' := [(5, .int (a9 + (heV sg gl fi pp t k))), (0, .ref w0), (1, .ref a0), (2, .int (nI pp)), (3, .int (nI t)), (4, .int w), (6, .int (nI k))]) hx hb d_MD_heldBy_34 hl (by decide) rfl (fun ls hl => ?_)
        refine lv_iinc (v := nI (k + 1)) (lv' := [(6, .int (nI (k + 1))), (5, .int (a9 + (heV sg gl fi pp t k))), (0, .ref w0), (1, .ref a0), (2, .int (nI pp)), (3, .int (nI t)), (4, .int w)]) hx hb d_MD_heldBy_36 hl (k := 6) rfl (jn_inc k 1) (by decide) rfl (fun ls hl => ?_)
        refine lv_goto (tgt := 6) hx hb d_MD_heldBy_39 (by decide) ?_
        exact ih (k + 1) (a9 + heV sg gl fi pp t k) (by omega) (by omega) (by rw [hbL, ← ha9]; unfold hbS; rw [if_pos c_19]) _ (lv_sub hl [2, 3, 4, 5, 6, 1, 0] rfl)
set_option maxHeartbeats 4000000 in
set_option maxRecDepth 100000 in
/-- heldBy -/
theorem k_MD_heldBy (l : Launch) (D : va_G) (cI cJ : ClassId) (w0 : Nat) (w1 : Nat) (w2 : Nat) (w3 : Nat) (w4 : Nat) (w5 : Nat) (w6 : Nat) (w7 : Nat) (w8 : Nat) (w9 : Nat) (w10 : Nat) (w11 : Nat) (w12 : Nat) (w13 : Nat) (w14 : Nat) (yt : Int32) (te : Int32) (nt : Int32) (wb : Int32) (rc : Int32) (fp : Int32) (ft : Int32) (th : Int32) (sg : Nat → Int32) (gl : Nat → Int32) (a0 : Nat) (fi : Nat → Int32) (pp : Nat) (t : Nat) (w : Int32) (hp : pp < 1600) (ht : t ≤ 60) (hfi : okFi fi) (hgl : okGl gl) : Met l y_MD_heldBy ws_MD_heldBy ({ frames := 4, cells := 0, slots := 0, locals := 92 } : Room) (va_Pc [.ref w0, .ref a0, .int (nI pp), .int (nI t), .int w] (Pp D cI cJ [(w0, .inr (5, [.ref w1, .ref w2, .int yt, .int te, .ref w3, .ref w4, .ref w5, .int nt, .int wb, .ref w6, .ref w7, .ref w8, .int rc, .ref w9, .ref w10, .ref w11, .ref w12, .ref w13, .ref w14, .int fp, .int ft, .int th])), (w1, .inl (cI, 100, .inl sg)), (w2, .inl (cI, 244, .inl gl)), (a0, .inl (cI, 1600, .inl fi))])) (vp_Si (fun r : Int32 => r = hbL sg gl fi pp t w 4)) 0 0 (fun _ => False) := by
  refine Met.ofW (cc := c_MD_heldBy) (maxL := 7) (ret := (some .int)) (by decide) rfl ?_
  intro p e s m args below meth c s₁ B hml hv
  obtain ⟨rfl, hE, hP, hX⟩ := hv
  have hx := B.exec
  have hb := B.bytes
  have hr := B.returns
  have hw : ∀ w ∈ gw, w.before _ s = true := fun w h => atoms_spec (ws := ws_MD_heldBy) B.pre w (List.mem_cons_of_mem _ h)
  have hown : s.vm.findClass R_MD = some m.cls := findClass_of_methodNamed B.named
  have hlocks := B.notSynchronized
  have hS : va_S (fun _ => False) s.heap s.heap [] := va_S.rf
  have hl := lv_entry ([.ref w0, .ref a0, .int (nI pp), .int (nI t), .int w]) (n := 7) (Nat.le_of_ble_eq_true rfl)
  rw [lg_entry_eq]
  generalize (lg_sl ([.ref w0, .ref a0, .int (nI pp), .int (nI t), .int w]) ++ List.replicate (7 - (lg_sl ([.ref w0, .ref a0, .int (nI pp), .int (nI t), .int w])).length) Slot.unset).toArray = ls at hl ⊢
  have hl : lv_has ls 7 [(0, .ref w0), (1, .ref a0), (2, .int (nI pp)), (3, .int (nI t)), (4, .int w)] := hl
  refine lv_iconst (v := nI 0) hx hb d_MD_heldBy_0 (by decide +kernel) ?_
  refine lv_istore (lv' := [(5, .int (nI 0)), (0, .ref w0), (1, .ref a0), (2, .int (nI pp)), (3, .int (nI t)), (4, .int w)]) hx hb d_MD_heldBy_1 hl (by decide) rfl (fun ls hl => ?_)
  refine lv_iconst (v := nI 0) hx hb d_MD_heldBy_3 (by decide +kernel) ?_
  refine lv_istore (lv' := [(6, .int (nI 0)), (5, .int (nI 0)), (0, .ref w0), (1, .ref a0), (2, .int (nI pp)), (3, .int (nI t)), (4, .int w)]) hx hb d_MD_heldBy_4 hl (by decide) rfl (fun ls hl => ?_)
  refine lp_k_MD_heldBy_6 w0 w1 w2 w3 w4 w5 w6 w7 w8 w9 w10 w11 w12 w13 w14 yt te nt wb rc fp ft th sg gl a0 fi pp t w hp ht hfi hgl hx hb hml hown hw hE hX hP (fun a9 ha9 ls hl => ?_) ((4 - 0) + 1) 0 (nI 0) (Nat.lt_succ_self _) (Nat.zero_le _) rfl _ (lv_sub hl [2, 3, 4, 5, 6, 1, 0] rfl)
  refine lv_iload hx hb d_MD_heldBy_42 (lv_at hl 0 rfl) ?_
  exact W.iret (v := a9) hx hb hr (fun t9 ht hW => ⟨_, rfl, ha9, ht⟩) (fun q h => by cases h) d_MD_heldBy_44
set_option maxHeartbeats 4000000 in
set_option maxRecDepth 100000 in
/-- may -/
theorem k_MD_may (l : Launch) (D : va_G) (cI cJ : ClassId) (w0 : Nat) (w1 : Nat) (w2 : Nat) (w3 : Nat) (w4 : Nat) (w5 : Nat) (w6 : Nat) (w7 : Nat) (w8 : Nat) (w9 : Nat) (w10 : Nat) (w11 : Nat) (w12 : Nat) (w13 : Nat) (w14 : Nat) (yt : Int32) (te : Int32) (nt : Int32) (wb : Int32) (rc : Int32) (fp : Int32) (ft : Int32) (th : Int32) (sg : Nat → Int32) (gl : Nat → Int32) (a0 : Nat) (fi : Nat → Int32) (pp : Nat) (t : Nat) (hp : pp < 1600) (ht : t ≤ 60) (hfi : okFi fi) (hgl : okGl gl) : Met l y_MD_may ws_MD_may ({ frames := 5, cells := 0, slots := 0, locals := 118 } : Room) (va_Pc [.ref w0, .ref a0, .int (nI pp), .int (nI t)] (Pp D cI cJ [(w0, .inr (5, [.ref w1, .ref w2, .int yt, .int te, .ref w3, .ref w4, .ref w5, .int nt, .int wb, .ref w6, .ref w7, .ref w8, .int rc, .ref w9, .ref w10, .ref w11, .ref w12, .ref w13, .ref w14, .int fp, .int ft, .int th])), (w1, .inl (cI, 100, .inl sg)), (w2, .inl (cI, 244, .inl gl)), (a0, .inl (cI, 1600, .inl fi))])) (vp_Si (fun r : Int32 => r = nI (myN sg gl fi te pp t))) 0 0 (fun _ => False) := by
  refine Met.ofW (cc := c_MD_may) (maxL := 4) (ret := (some .boolean)) (by decide) rfl ?_
  intro p e s m args below meth c s₁ B hml hv
  obtain ⟨rfl, hE, hP, hX⟩ := hv
  have hx := B.exec
  have hb := B.bytes
  have hr := B.returns
  have hw : ∀ w ∈ gw, w.before _ s = true := fun w h => atoms_spec (ws := ws_MD_may) B.pre w (List.mem_cons_of_mem _ h)
  have hown : s.vm.findClass R_MD = some m.cls := findClass_of_methodNamed B.named
  have hlocks := B.notSynchronized
  have hS : va_S (fun _ => False) s.heap s.heap [] := va_S.rf
  have hl := lv_entry ([.ref w0, .ref a0, .int (nI pp), .int (nI t)]) (n := 4) (Nat.le_of_ble_eq_true rfl)
  rw [lg_entry_eq]
  generalize (lg_sl ([.ref w0, .ref a0, .int (nI pp), .int (nI t)]) ++ List.replicate (4 - (lg_sl ([.ref w0, .ref a0, .int (nI pp), .int (nI t)])).length) Slot.unset).toArray = ls at hl ⊢
  have hl : lv_has ls 4 [(0, .ref w0), (1, .ref a0), (2, .int (nI pp)), (3, .int (nI t))] := hl
  refine lv_aload_n hx hb d_MD_may_0 rfl (lv_at hl 1 rfl) ?_
  refine lv_iload_n hx hb d_MD_may_1 rfl (lv_at hl 2 rfl) ?_
  refine jn_iald (k := pp) hx hb hE.1 hP 3 0 rfl rfl (by omega) (by omega) d_MD_may_2 ?_
  refine lv_if_ne (tgt := 25) hx hb d_MD_may_3 (by decide) (fun c_3 => ?_) (fun c_3 => ?_)
  · skip
    refine lv_iconst (v := nI 0) hx hb d_MD_may_25 (by decide +kernel) ?_
    exact W.zret (v := nI 0) hx hb hr (by decide +kernel) (fun t9 ht hW => ⟨_, rfl, (by unfold myN; rw [if_neg c_3]), ht⟩) (fun q h => by cases h) d_MD_may_26
  · skip
    refine lv_aload_n hx hb d_MD_may_6 rfl (lv_at hl 0 rfl) ?_
    refine lv_aload_n hx hb d_MD_may_7 rfl (lv_at hl 1 rfl) ?_
    refine lv_iload_n hx hb d_MD_may_8 rfl (lv_at hl 2 rfl) ?_
    refine lv_iload_n hx hb d_MD_may_9 rfl (lv_at hl 3 rfl) ?_
    refine lv_iconst (v := nI 0) hx hb d_MD_may_10 (by decide +kernel) ?_
    refine vp_callSi (va_Run.run (va_runV (As := [.ref a0, .int (nI pp), .int (nI t), .int (nI 0)]) (rest := []) ⟨hx, hb, hml, hown, hw⟩ (k_MD_heldBy l D cI cJ w0 w1 w2 w3 w4 w5 w6 w7 w8 w9 w10 w11 w12 w13 w14 yt te nt wb rc fp ft th sg gl a0 fi pp t (nI 0) hp ht hfi hgl) (cwV 4 hw (gV kw_890 kw_892 kw_26 kw_45 kw_893) rfl rfl rfl (by decide +kernel) ⟨Nat.le_of_ble_eq_true rfl, Nat.le_of_ble_eq_true rfl⟩) (pre_Vp (wc := [(w0, .inr (5, [.ref w1, .ref w2, .int yt, .int te, .ref w3, .ref w4, .ref w5, .int nt, .int wb, .ref w6, .ref w7, .ref w8, .int rc, .ref w9, .ref w10, .ref w11, .ref w12, .ref w13, .ref w14, .int fp, .int ft, .int th])), (w1, .inl (cI, 100, .inl sg)), (w2, .inl (cI, 244, .inl gl)), (a0, .inl (cI, 1600, .inl fi))]) (q0 := 0) hE hX hP hS [0, 1, 2, 3] rfl rfl rfl) rfl rfl hl.1 rfl (lv_room (Nat.le_of_ble_eq_true rfl)) d_MD_may_11 ⟨Nat.le_of_ble_eq_true rfl, Nat.le_of_ble_eq_true rfl⟩)) (fun r_1 hr_1 => ?_)
    obtain rfl : hbL sg gl fi pp t (nI 0) 4 = r_1 := hr_1.symm
    refine lv_aload_n hx hb d_MD_may_14 rfl (lv_at hl 0 rfl) ?_
    refine va_get (D := D) (ci := 5) (v := .int te) (C := R_MD) (T := T_MD) (N := 22) hx hb hw in_MD hown hE.1 hP 0 rfl rfl 3 (by decide) (hw _ kw_764) (fun _ h9 => h9) rfl d_MD_may_15 ?_
    refine lv_icmp_lt (tgt := 25) hx hb d_MD_may_18 (by decide) (fun c_18 => ?_) (fun c_18 => ?_)
    · skip
      refine lv_iconst (v := nI 0) hx hb d_MD_may_25 (by decide +kernel) ?_
      exact W.zret (v := nI 0) hx hb hr (by decide +kernel) (fun t9 ht hW => ⟨_, rfl, (by unfold myN; rw [if_pos c_3, if_pos c_18]), ht⟩) (fun q h => by cases h) d_MD_may_26
    · skip
      refine lv_iconst (v := nI 1) hx hb d_MD_may_21 (by decide +kernel) ?_
      refine lv_goto (tgt := 26) hx hb d_MD_may_22 (by decide) ?_
      exact W.zret (v := nI 1) hx hb hr (by decide +kernel) (fun t9 ht hW => ⟨_, rfl, (by unfold myN; rw [if_pos c_3, if_neg c_18]), ht⟩) (fun q h => by cases h) d_MD_may_26
