theorem wlC_on : ∀ (n q : Nat), (∃ i, i < n ∧ (q = i ∨ q = 1763 - i ∨ q = i * 42 ∨ q = i * 42 + 42 - 1)) → wlC n q = nI 2048
  | 0, _, ⟨i, h, _⟩ => absurd h (Nat.not_lt_zero i)
  | n + 1, q, ⟨i, h, e⟩ => by
    show (if q = n * 42 + 42 - 1 then nI 2048 else if q = n * 42 then nI 2048 else if q = 1763 - n then nI 2048 else if q = n then nI 2048 else wlC n q) = nI 2048
    by_cases h4 : q = n * 42 + 42 - 1
    · rw [if_pos h4]
    · rw [if_neg h4]
      by_cases h3 : q = n * 42
      · rw [if_pos h3]
      · rw [if_neg h3]
        by_cases h2 : q = 1763 - n
        · rw [if_pos h2]
        · rw [if_neg h2]
          by_cases h1 : q = n
          · rw [if_pos h1]
          · rw [if_neg h1]
            refine wlC_on n q ⟨i, ?_, e⟩
            rcases Nat.lt_or_ge i n with z | z
            · exact z
            · obtain rfl : i = n := by omega
              rcases e with e | e | e | e
              · exact absurd e h1
              · exact absurd e h2
              · exact absurd e h3
              · exact absurd e h4
theorem wlC_off : ∀ (n q : Nat), (∀ i, i < n → q ≠ i ∧ q ≠ 1763 - i ∧ q ≠ i * 42 ∧ q ≠ i * 42 + 42 - 1) → wlC n q = 0
  | 0, _, _ => rfl
  | n + 1, q, h => by
    show (if q = n * 42 + 42 - 1 then nI 2048 else if q = n * 42 then nI 2048 else if q = 1763 - n then nI 2048 else if q = n then nI 2048 else wlC n q) = 0
    obtain ⟨h1, h2, h3, h4⟩ := h n (Nat.lt_succ_self n)
    rw [if_neg h4, if_neg h3, if_neg h2, if_neg h1]
    exact wlC_off n q (fun i hi => h i (Nat.lt_succ_of_lt hi))
theorem Rc_init : Rc (wlC 42) (fun _ => 0) (fun _ => 0) (fun _ => 0) := by
  have n0 : nn (0 : Int32) = 0 := by rw [← nI_0]; exact nn_nI (by decide)
  refine ⟨fun p hp => ?_, fun q hq hw => ?_, fun p hp => ?_, fun p hp h => absurd rfl h, fun p hp h => absurd rfl h⟩
  · have h := pm_in hp
    rw [wlC_off 42 (pm p) (fun i hi => ⟨by omega, by omega, by omega, by omega⟩)]
    exact (if_pos rfl).symm
  · refine wlC_on 42 q ?_
    unfold onW at hw
    rcases hw with h | h | h | h
    · exact ⟨q, h, Or.inl rfl⟩
    · exact ⟨1763 - q, by omega, Or.inr (Or.inl (by omega))⟩
    · exact ⟨q / 42, by omega, Or.inr (Or.inr (Or.inl (by omega)))⟩
    · exact ⟨q / 42, by omega, Or.inr (Or.inr (Or.inr (by omega)))⟩
  · show (0 : Int32) = nI (nn 0) ∧ nn 0 ≤ 60
    rw [n0]
    exact ⟨nI_0.symm, Nat.zero_le _⟩
theorem okHe_init : okHe (wlC 42) := ⟨_, _, _, Rc_init⟩
theorem cT_init (t : Nat) : cT (fun _ => 0) t = 0 := smN_0 (fun p _ => if_neg (fun h => h.1 (by rw [← nI_0]; exact nn_nI (by decide))))
theorem cS_init : cS (fun _ => 0) (fun _ => 0) = 0 := smN_0 (fun p _ => if_neg (fun h => h (by rw [← nI_0]; exact nn_nI (by decide))))
theorem Rt_init : Rt (fun _ => 0) (fun _ => 0) (fun _ => 0) (fun _ => 0) (fun _ => 0) 0 := by
  have n0 : nn (0 : Int32) = 0 := by rw [← nI_0]; exact nn_nI (by decide)
  refine ⟨fun _ _ => rfl, fun _ _ => rfl, fun i hi => ?_, nI_0.symm, fun i hi => ?_, fun k hk => nI_0.symm, Nat.zero_le _, fun g k t hg hk h1 h2 => ?_⟩
  · show (0 : Int32) = nI (nn 0) ∧ nn 0 ≤ 2
    rw [n0]
    exact ⟨nI_0.symm, Nat.zero_le _⟩
  · show (0 : Int32) = nI (nn 0) ∧ nn 0 < 100
    rw [n0]
    exact ⟨nI_0.symm, by decide⟩
  · show tb 0 t = true ↔ t ≤ 0 ∧ _
    rw [tb_0]
    refine ⟨fun h => absurd h (by decide), fun h => absurd h.1 (by omega)⟩
theorem Rf_init : Rf (wlC 42, fun _ => 0, fun _ => 0, fun _ => 0, nI 0, nI 0, nI 0) (fun _ => 0) (fun _ => 0) (fun _ => 0) 2 0 (fun _ => 0) (fun _ => 0) (fun _ => 0) (nI 0) (nI 0) := by
  have n0 : nn (0 : Int32) = 0 := by rw [← nI_0]; exact nn_nI (by decide)
  have hl0 : lenT 0 = 0 := by decide +kernel
  have hr : ∀ i, i < 42 → rowS (fun _ => 0) i = 0 := fun i hi => smN_0 (fun x hx => hl0)
  refine ⟨Rc_init, ⟨fun q hq => ?_, fun i hi => ?_, ?_⟩, fun p hp => ?_, fun t ht => ?_, ?_, ?_, rfl, Or.inl rfl⟩
  · exact (raN_empty Rc_init (fun p hp => rfl) hq).symm
  · show (0 : Int32) = nI (rowS (fun _ => 0) i)
    rw [hr i hi]
    exact nI_0.symm
  · show nI 0 = nI (allS (fun _ => 0))
    exact congrArg nI (smN_0 (fun i hi => hr i hi)).symm
  · show nn 0 ≤ 0
    rw [n0]
    exact Nat.le_refl _
  · show (0 : Int32) = nI (cT (fun _ => 0) t)
    rw [cT_init]
    exact nI_0.symm
  · exact congrArg nI cS_init.symm
  · exact congrArg nI (cT_init 0).symm
theorem RI_init : RI (wlC 42, fun _ => 0, fun _ => 0, fun _ => 0, nI 0, nI 0, nI 0) (fun _ => 0) (fun _ => 0) (fun _ => 0) 2 0 (fun _ => 0) (fun _ => 0) (fun _ => 0) (fun _ => 0) (fun _ => 0) (nI 0) (nI 0) :=
  ⟨⟨Rt_init, Rf_init, by decide, by decide⟩, fun _ => rfl⟩
