theorem d_OC_scatter_0 : decode c_OC_scatter 0 = .ok (.iload_n 0, 1) := by decide +kernel
theorem d_OC_scatter_1 : decode c_OC_scatter 1 = .ok (.ldc 132, 2) := by decide +kernel
theorem d_OC_scatter_3 : decode c_OC_scatter 3 = .ok (.imul, 1) := by decide +kernel
theorem d_OC_scatter_4 : decode c_OC_scatter 4 = .ok (.istore_n 1, 1) := by decide +kernel
theorem d_OC_scatter_5 : decode c_OC_scatter 5 = .ok (.iload_n 1, 1) := by decide +kernel
theorem d_OC_scatter_6 : decode c_OC_scatter 6 = .ok (.iload_n 1, 1) := by decide +kernel
theorem d_OC_scatter_7 : decode c_OC_scatter 7 = .ok (.bipush 15, 2) := by decide +kernel
theorem d_OC_scatter_9 : decode c_OC_scatter 9 = .ok (.iushr, 1) := by decide +kernel
theorem d_OC_scatter_10 : decode c_OC_scatter 10 = .ok (.ixor, 1) := by decide +kernel
theorem d_OC_scatter_11 : decode c_OC_scatter 11 = .ok (.ldc 133, 2) := by decide +kernel
theorem d_OC_scatter_13 : decode c_OC_scatter 13 = .ok (.imul, 1) := by decide +kernel
theorem d_OC_scatter_14 : decode c_OC_scatter 14 = .ok (.istore_n 1, 1) := by decide +kernel
theorem d_OC_scatter_15 : decode c_OC_scatter 15 = .ok (.iload_n 1, 1) := by decide +kernel
theorem d_OC_scatter_16 : decode c_OC_scatter 16 = .ok (.iload_n 1, 1) := by decide +kernel
theorem d_OC_scatter_17 : decode c_OC_scatter 17 = .ok (.bipush 13, 2) := by decide +kernel
theorem d_OC_scatter_19 : decode c_OC_scatter 19 = .ok (.iushr, 1) := by decide +kernel
theorem d_OC_scatter_20 : decode c_OC_scatter 20 = .ok (.ixor, 1) := by decide +kernel
theorem d_OC_scatter_21 : decode c_OC_scatter 21 = .ok (.ireturn, 1) := by decide +kernel
theorem d_OC_isKnown_0 : decode c_OC_isKnown 0 = .ok (.aload_n 0, 1) := by decide +kernel
theorem d_OC_isKnown_1 : decode c_OC_isKnown 1 = .ok (.getfield 24, 3) := by decide +kernel
theorem d_OC_isKnown_4 : decode c_OC_isKnown 4 = .ok (.iload_n 3, 1) := by decide +kernel
theorem d_OC_isKnown_5 : decode c_OC_isKnown 5 = .ok (.invokestatic 117, 3) := by decide +kernel
theorem d_OC_isKnown_8 : decode c_OC_isKnown 8 = .ok (.iaload, 1) := by decide +kernel
theorem d_OC_isKnown_9 : decode c_OC_isKnown 9 = .ok (.istore 4, 2) := by decide +kernel
theorem d_OC_isKnown_11 : decode c_OC_isKnown 11 = .ok (.iconst 0, 1) := by decide +kernel
theorem d_OC_isKnown_12 : decode c_OC_isKnown 12 = .ok (.istore 5, 2) := by decide +kernel
theorem d_OC_isKnown_14 : decode c_OC_isKnown 14 = .ok (.iload 5, 2) := by decide +kernel
theorem d_OC_isKnown_16 : decode c_OC_isKnown 16 = .ok (.sipush 500, 3) := by decide +kernel
theorem d_OC_isKnown_19 : decode c_OC_isKnown 19 = .ok (.if_icmp .ge 47, 3) := by decide +kernel
theorem d_OC_isKnown_22 : decode c_OC_isKnown 22 = .ok (.iload 4, 2) := by decide +kernel
theorem d_OC_isKnown_24 : decode c_OC_isKnown 24 = .ok (.ifCond .eq 42, 3) := by decide +kernel
theorem d_OC_isKnown_27 : decode c_OC_isKnown 27 = .ok (.aload_n 0, 1) := by decide +kernel
theorem d_OC_isKnown_28 : decode c_OC_isKnown 28 = .ok (.getfield 18, 3) := by decide +kernel
theorem d_OC_isKnown_31 : decode c_OC_isKnown 31 = .ok (.iload 4, 2) := by decide +kernel
theorem d_OC_isKnown_33 : decode c_OC_isKnown 33 = .ok (.iaload, 1) := by decide +kernel
theorem d_OC_isKnown_34 : decode c_OC_isKnown 34 = .ok (.iload_n 3, 1) := by decide +kernel
theorem d_OC_isKnown_35 : decode c_OC_isKnown 35 = .ok (.if_icmp .ne 16, 3) := by decide +kernel
theorem d_OC_isKnown_38 : decode c_OC_isKnown 38 = .ok (.aload_n 0, 1) := by decide +kernel
theorem d_OC_isKnown_39 : decode c_OC_isKnown 39 = .ok (.iload 4, 2) := by decide +kernel
theorem d_OC_isKnown_41 : decode c_OC_isKnown 41 = .ok (.iload_n 1, 1) := by decide +kernel
theorem d_OC_isKnown_42 : decode c_OC_isKnown 42 = .ok (.iload_n 2, 1) := by decide +kernel
theorem d_OC_isKnown_43 : decode c_OC_isKnown 43 = .ok (.invokevirtual 120, 3) := by decide +kernel
theorem d_OC_isKnown_46 : decode c_OC_isKnown 46 = .ok (.ifCond .eq 5, 3) := by decide +kernel
theorem d_OC_isKnown_49 : decode c_OC_isKnown 49 = .ok (.iconst 1, 1) := by decide +kernel
theorem d_OC_isKnown_50 : decode c_OC_isKnown 50 = .ok (.ireturn, 1) := by decide +kernel
theorem d_OC_isKnown_51 : decode c_OC_isKnown 51 = .ok (.aload_n 0, 1) := by decide +kernel
theorem d_OC_isKnown_52 : decode c_OC_isKnown 52 = .ok (.getfield 21, 3) := by decide +kernel
theorem d_OC_isKnown_55 : decode c_OC_isKnown 55 = .ok (.iload 4, 2) := by decide +kernel
theorem d_OC_isKnown_57 : decode c_OC_isKnown 57 = .ok (.iaload, 1) := by decide +kernel
theorem d_OC_isKnown_58 : decode c_OC_isKnown 58 = .ok (.istore 4, 2) := by decide +kernel
theorem d_OC_isKnown_60 : decode c_OC_isKnown 60 = .ok (.iinc 5 1, 3) := by decide +kernel
theorem d_OC_isKnown_63 : decode c_OC_isKnown 63 = .ok (.goto (-49), 3) := by decide +kernel
theorem d_OC_isKnown_66 : decode c_OC_isKnown 66 = .ok (.iconst 0, 1) := by decide +kernel
theorem d_OC_isKnown_67 : decode c_OC_isKnown 67 = .ok (.ireturn, 1) := by decide +kernel
theorem d_OC_bucketOf_0 : decode c_OC_bucketOf 0 = .ok (.iload_n 0, 1) := by decide +kernel
theorem d_OC_bucketOf_1 : decode c_OC_bucketOf 1 = .ok (.iload_n 0, 1) := by decide +kernel
theorem d_OC_bucketOf_2 : decode c_OC_bucketOf 2 = .ok (.bipush 16, 2) := by decide +kernel
theorem d_OC_bucketOf_4 : decode c_OC_bucketOf 4 = .ok (.iushr, 1) := by decide +kernel
theorem d_OC_bucketOf_5 : decode c_OC_bucketOf 5 = .ok (.ixor, 1) := by decide +kernel
theorem d_OC_bucketOf_6 : decode c_OC_bucketOf 6 = .ok (.sipush 511, 3) := by decide +kernel
theorem d_OC_bucketOf_9 : decode c_OC_bucketOf 9 = .ok (.iand, 1) := by decide +kernel
theorem d_OC_bucketOf_10 : decode c_OC_bucketOf 10 = .ok (.ireturn, 1) := by decide +kernel
theorem d_OC_isSame_0 : decode c_OC_isSame 0 = .ok (.iload_n 1, 1) := by decide +kernel
theorem d_OC_isSame_1 : decode c_OC_isSame 1 = .ok (.istore 4, 2) := by decide +kernel
theorem d_OC_isSame_3 : decode c_OC_isSame 3 = .ok (.iconst 0, 1) := by decide +kernel
theorem d_OC_isSame_4 : decode c_OC_isSame 4 = .ok (.istore 5, 2) := by decide +kernel
theorem d_OC_isSame_6 : decode c_OC_isSame 6 = .ok (.iload 5, 2) := by decide +kernel
theorem d_OC_isSame_8 : decode c_OC_isSame 8 = .ok (.iload_n 3, 1) := by decide +kernel
theorem d_OC_isSame_9 : decode c_OC_isSame 9 = .ok (.if_icmp .ge 62, 3) := by decide +kernel
theorem d_OC_isSame_12 : decode c_OC_isSame 12 = .ok (.iload 4, 2) := by decide +kernel
theorem d_OC_isSame_14 : decode c_OC_isSame 14 = .ok (.ifCond .ne 5, 3) := by decide +kernel
theorem d_OC_isSame_17 : decode c_OC_isSame 17 = .ok (.iconst 0, 1) := by decide +kernel
theorem d_OC_isSame_18 : decode c_OC_isSame 18 = .ok (.ireturn, 1) := by decide +kernel
theorem d_OC_isSame_19 : decode c_OC_isSame 19 = .ok (.aload_n 0, 1) := by decide +kernel
theorem d_OC_isSame_20 : decode c_OC_isSame 20 = .ok (.getfield 15, 3) := by decide +kernel
theorem d_OC_isSame_23 : decode c_OC_isSame 23 = .ok (.iload 4, 2) := by decide +kernel
theorem d_OC_isSame_25 : decode c_OC_isSame 25 = .ok (.iaload, 1) := by decide +kernel
theorem d_OC_isSame_26 : decode c_OC_isSame 26 = .ok (.istore 6, 2) := by decide +kernel
theorem d_OC_isSame_28 : decode c_OC_isSame 28 = .ok (.iload 6, 2) := by decide +kernel
theorem d_OC_isSame_30 : decode c_OC_isSame 30 = .ok (.iload_n 2, 1) := by decide +kernel
theorem d_OC_isSame_31 : decode c_OC_isSame 31 = .ok (.if_icmp .eq 25, 3) := by decide +kernel
theorem d_OC_isSame_34 : decode c_OC_isSame 34 = .ok (.aload_n 0, 1) := by decide +kernel
theorem d_OC_isSame_35 : decode c_OC_isSame 35 = .ok (.getfield 37, 3) := by decide +kernel
theorem d_OC_isSame_38 : decode c_OC_isSame 38 = .ok (.iload 6, 2) := by decide +kernel
theorem d_OC_isSame_40 : decode c_OC_isSame 40 = .ok (.invokestatic 123, 3) := by decide +kernel
theorem d_OC_isSame_43 : decode c_OC_isSame 43 = .ok (.invokevirtual 126, 3) := by decide +kernel
theorem d_OC_isSame_46 : decode c_OC_isSame 46 = .ok (.iload 6, 2) := by decide +kernel
theorem d_OC_isSame_48 : decode c_OC_isSame 48 = .ok (.invokestatic 129, 3) := by decide +kernel
theorem d_OC_isSame_51 : decode c_OC_isSame 51 = .ok (.if_icmp .eq 5, 3) := by decide +kernel
theorem d_OC_isSame_54 : decode c_OC_isSame 54 = .ok (.iconst 0, 1) := by decide +kernel
theorem d_OC_isSame_55 : decode c_OC_isSame 55 = .ok (.ireturn, 1) := by decide +kernel
theorem d_OC_isSame_56 : decode c_OC_isSame 56 = .ok (.aload_n 0, 1) := by decide +kernel
theorem d_OC_isSame_57 : decode c_OC_isSame 57 = .ok (.getfield 9, 3) := by decide +kernel
theorem d_OC_isSame_60 : decode c_OC_isSame 60 = .ok (.iload 4, 2) := by decide +kernel
theorem d_OC_isSame_62 : decode c_OC_isSame 62 = .ok (.iaload, 1) := by decide +kernel
theorem d_OC_isSame_63 : decode c_OC_isSame 63 = .ok (.istore 4, 2) := by decide +kernel
theorem d_OC_isSame_65 : decode c_OC_isSame 65 = .ok (.iinc 5 1, 3) := by decide +kernel
theorem d_OC_isSame_68 : decode c_OC_isSame 68 = .ok (.goto (-62), 3) := by decide +kernel
theorem d_OC_isSame_71 : decode c_OC_isSame 71 = .ok (.iload 4, 2) := by decide +kernel
theorem d_OC_isSame_73 : decode c_OC_isSame 73 = .ok (.ifCond .ne 7, 3) := by decide +kernel
theorem d_OC_isSame_76 : decode c_OC_isSame 76 = .ok (.iconst 1, 1) := by decide +kernel
theorem d_OC_isSame_77 : decode c_OC_isSame 77 = .ok (.goto 4, 3) := by decide +kernel
theorem d_OC_isSame_80 : decode c_OC_isSame 80 = .ok (.iconst 0, 1) := by decide +kernel
theorem d_OC_isSame_81 : decode c_OC_isSame 81 = .ok (.ireturn, 1) := by decide +kernel
theorem d_OC_keep_0 : decode c_OC_keep 0 = .ok (.aload_n 0, 1) := by decide +kernel
theorem d_OC_keep_1 : decode c_OC_keep 1 = .ok (.getfield 27, 3) := by decide +kernel
theorem d_OC_keep_4 : decode c_OC_keep 4 = .ok (.istore 4, 2) := by decide +kernel
theorem d_OC_keep_6 : decode c_OC_keep 6 = .ok (.aload_n 0, 1) := by decide +kernel
theorem d_OC_keep_7 : decode c_OC_keep 7 = .ok (.dup, 1) := by decide +kernel
theorem d_OC_keep_8 : decode c_OC_keep 8 = .ok (.getfield 27, 3) := by decide +kernel
theorem d_OC_keep_11 : decode c_OC_keep 11 = .ok (.iconst 1, 1) := by decide +kernel
theorem d_OC_keep_12 : decode c_OC_keep 12 = .ok (.iadd, 1) := by decide +kernel
theorem d_OC_keep_13 : decode c_OC_keep 13 = .ok (.putfield 27, 3) := by decide +kernel
theorem d_OC_keep_16 : decode c_OC_keep 16 = .ok (.aload_n 0, 1) := by decide +kernel
theorem d_OC_keep_17 : decode c_OC_keep 17 = .ok (.getfield 9, 3) := by decide +kernel
theorem d_OC_keep_20 : decode c_OC_keep 20 = .ok (.iload 4, 2) := by decide +kernel
theorem d_OC_keep_22 : decode c_OC_keep 22 = .ok (.iload_n 2, 1) := by decide +kernel
theorem d_OC_keep_23 : decode c_OC_keep 23 = .ok (.iastore, 1) := by decide +kernel
theorem d_OC_keep_24 : decode c_OC_keep 24 = .ok (.aload_n 0, 1) := by decide +kernel
theorem d_OC_keep_25 : decode c_OC_keep 25 = .ok (.getfield 15, 3) := by decide +kernel
theorem d_OC_keep_28 : decode c_OC_keep 28 = .ok (.iload 4, 2) := by decide +kernel
theorem d_OC_keep_30 : decode c_OC_keep 30 = .ok (.iload_n 1, 1) := by decide +kernel
theorem d_OC_keep_31 : decode c_OC_keep 31 = .ok (.iastore, 1) := by decide +kernel
theorem d_OC_keep_32 : decode c_OC_keep 32 = .ok (.aload_n 0, 1) := by decide +kernel
theorem d_OC_keep_33 : decode c_OC_keep 33 = .ok (.getfield 18, 3) := by decide +kernel
theorem d_OC_keep_36 : decode c_OC_keep 36 = .ok (.iload 4, 2) := by decide +kernel
theorem d_OC_keep_38 : decode c_OC_keep 38 = .ok (.iload_n 3, 1) := by decide +kernel
theorem d_OC_keep_39 : decode c_OC_keep 39 = .ok (.iastore, 1) := by decide +kernel
theorem d_OC_keep_40 : decode c_OC_keep 40 = .ok (.aload_n 0, 1) := by decide +kernel
theorem d_OC_keep_41 : decode c_OC_keep 41 = .ok (.getfield 21, 3) := by decide +kernel
theorem d_OC_keep_44 : decode c_OC_keep 44 = .ok (.iload 4, 2) := by decide +kernel
theorem d_OC_keep_46 : decode c_OC_keep 46 = .ok (.aload_n 0, 1) := by decide +kernel
theorem d_OC_keep_47 : decode c_OC_keep 47 = .ok (.getfield 24, 3) := by decide +kernel
theorem d_OC_keep_50 : decode c_OC_keep 50 = .ok (.iload_n 3, 1) := by decide +kernel
theorem d_OC_keep_51 : decode c_OC_keep 51 = .ok (.invokestatic 117, 3) := by decide +kernel
theorem d_OC_keep_54 : decode c_OC_keep 54 = .ok (.iaload, 1) := by decide +kernel
theorem d_OC_keep_55 : decode c_OC_keep 55 = .ok (.iastore, 1) := by decide +kernel
theorem d_OC_keep_56 : decode c_OC_keep 56 = .ok (.aload_n 0, 1) := by decide +kernel
theorem d_OC_keep_57 : decode c_OC_keep 57 = .ok (.getfield 24, 3) := by decide +kernel
theorem d_OC_keep_60 : decode c_OC_keep 60 = .ok (.iload_n 3, 1) := by decide +kernel
theorem d_OC_keep_61 : decode c_OC_keep 61 = .ok (.invokestatic 117, 3) := by decide +kernel
theorem d_OC_keep_64 : decode c_OC_keep 64 = .ok (.iload 4, 2) := by decide +kernel
theorem d_OC_keep_66 : decode c_OC_keep 66 = .ok (.iastore, 1) := by decide +kernel
theorem d_OC_keep_67 : decode c_OC_keep 67 = .ok (.iload 4, 2) := by decide +kernel
theorem d_OC_keep_69 : decode c_OC_keep 69 = .ok (.ireturn, 1) := by decide +kernel
def bkN (x : Int32) : Nat := (x ^^^ (x.toUInt32 >>> ((nI 16).toUInt32 &&& Int32.toUInt32 31)).toInt32).toBitVec.toNat % 512
theorem bkN_lt (x : Int32) : bkN x < 512 := Nat.mod_lt _ (by decide)
def scA (x : Int32) : Int32 := x * (-1640531535)
def scB (x : Int32) : Int32 := (x ^^^ (x.toUInt32 >>> ((nI 15).toUInt32 &&& Int32.toUInt32 31)).toInt32) * (-2048144789)
def scV (x : Int32) : Int32 := scB (scA x) ^^^ ((scB (scA x)).toUInt32 >>> ((nI 13).toUInt32 &&& Int32.toUInt32 31)).toInt32
/-- what is kept of fields: f of them, each with the one it came from and its pair; chains from the heads -/
def okK (pa pr nx hd : Nat → Int32) (f : Nat) : Prop := 1 ≤ f ∧ f ≤ 500 ∧ (∀ i, 1 ≤ i → i < f → (pa i = nI (nn (pa i)) ∧ nn (pa i) < f) ∧ (pr i = nI (nn (pr i)) ∧ nn (pr i) / 64 < 1764) ∧ (nx i = nI (nn (nx i)) ∧ nn (nx i) < f)) ∧ ∀ b, b < 512 → hd b = nI (nn (hd b)) ∧ nn (hd b) < f
theorem okK_keep {pa pr nx hd : Nat → Int32} {f j n b : Nat} (h : okK pa pr nx hd f) (hf : f < 500) (hj : j < f) (hn : n < 112896) (hb : b < 512) :
    okK (upd pa f (nI j)) (upd pr f (nI n)) (upd nx f (hd b)) (upd hd b (nI f)) (f + 1) := by
  obtain ⟨h1, h2, h3, h4⟩ := h
  refine ⟨by omega, by omega, fun i hi1 hi2 => ?_, fun c hc => ?_⟩
  · unfold upd
    by_cases e : i = f
    · rw [if_pos e, if_pos e, if_pos e, nn_nI (show j < 2 ^ 31 by omega), nn_nI (show n < 2 ^ 31 by omega)]
      have := h4 b hb
      exact ⟨⟨rfl, by omega⟩, ⟨rfl, by omega⟩, this.1, by omega⟩
    · rw [if_neg e, if_neg e, if_neg e]
      have := h3 i hi1 (by omega)
      exact ⟨⟨this.1.1, by omega⟩, this.2.1, this.2.2.1, by omega⟩
  · unfold upd
    by_cases e : c = b
    · rw [if_pos e, nn_nI (show f < 2 ^ 31 by omega)]
      exact ⟨rfl, by omega⟩
    · rw [if_neg e]
      have := h4 c hc
      exact ⟨this.1, by omega⟩
/-- whether the kept field k is the one that stands, with one pair more: n steps -/
def smF (ce pa pr : Nat → Int32) (x : Int32) : Nat → Nat → Nat
  | 0, k => if k = 0 then 1 else 0
  | n + 1, k => if k = 0 then 0 else if pr k = x ∨ tyN (ce (nn (pr k) / 64)) = nn (pr k) % 64 then smF ce pa pr x n (nn (pa k)) else 0
theorem smF_le (ce pa pr : Nat → Int32) (x : Int32) : ∀ n k, smF ce pa pr x n k ≤ 1
  | 0, k => by unfold smF; split <;> decide
  | n + 1, k => by
    unfold smF
    split
    · decide
    · split
      · exact smF_le ce pa pr x n _
      · decide
theorem smF_zero {ce pa pr : Nat → Int32} {x : Int32} {n k : Nat} (hn : 0 < n) (hk : k = 0) : smF ce pa pr x n k = 0 := by
  obtain ⟨j, rfl⟩ : ∃ j, n = j + 1 := ⟨n - 1, by omega⟩
  rw [smF, if_pos hk]
theorem smF_go {ce pa pr : Nat → Int32} {x : Int32} {n k : Nat} (hn : 0 < n) (hk : k ≠ 0) (h : pr k = x ∨ tyN (ce (nn (pr k) / 64)) = nn (pr k) % 64) : smF ce pa pr x n k = smF ce pa pr x (n - 1) (nn (pa k)) := by
  obtain ⟨j, rfl⟩ : ∃ j, n = j + 1 := ⟨n - 1, by omega⟩
  rw [smF, if_neg hk, if_pos h]
  rfl
theorem smF_no {ce pa pr : Nat → Int32} {x : Int32} {n k : Nat} (hn : 0 < n) (hk : k ≠ 0) (h : ¬ (pr k = x ∨ tyN (ce (nn (pr k) / 64)) = nn (pr k) % 64)) : smF ce pa pr x n k = 0 := by
  obtain ⟨j, rfl⟩ : ∃ j, n = j + 1 := ⟨n - 1, by omega⟩
  rw [smF, if_neg hk, if_neg h]
def knF (ce pa pr mk nx : Nat → Int32) (x : Int32) (d : Nat) (y : Int32) : Nat → Nat → Nat
  | 0, _ => 0
  | n + 1, k => if k = 0 then 0 else if mk k = y ∧ smF ce pa pr x d k ≠ 0 then 1 else knF ce pa pr mk nx x d y n (nn (nx k))
theorem knF_le (ce pa pr mk nx : Nat → Int32) (x : Int32) (d : Nat) (y : Int32) : ∀ n k, knF ce pa pr mk nx x d y n k ≤ 1
  | 0, k => by unfold knF; decide
  | n + 1, k => by
    unfold knF
    split
    · decide
    · split
      · decide
      · exact knF_le ce pa pr mk nx x d y n _
theorem knF_zero {ce pa pr mk nx : Nat → Int32} {x : Int32} {d : Nat} {y : Int32} (n : Nat) {k : Nat} (hk : k = 0) : knF ce pa pr mk nx x d y n k = 0 := by
  cases n with
  | zero => rfl
  | succ n => rw [knF, if_pos hk]
theorem knF_yes {ce pa pr mk nx : Nat → Int32} {x : Int32} {d : Nat} {y : Int32} {n k : Nat} (hn : 0 < n) (hk : k ≠ 0) (h : mk k = y ∧ smF ce pa pr x d k ≠ 0) : knF ce pa pr mk nx x d y n k = 1 := by
  obtain ⟨j, rfl⟩ : ∃ j, n = j + 1 := ⟨n - 1, by omega⟩
  rw [knF, if_neg hk, if_pos h]
theorem knF_go {ce pa pr mk nx : Nat → Int32} {x : Int32} {d : Nat} {y : Int32} {n k : Nat} (hn : 0 < n) (hk : k ≠ 0) (h : ¬ (mk k = y ∧ smF ce pa pr x d k ≠ 0)) : knF ce pa pr mk nx x d y n k = knF ce pa pr mk nx x d y (n - 1) (nn (nx k)) := by
  obtain ⟨j, rfl⟩ : ∃ j, n = j + 1 := ⟨n - 1, by omega⟩
  rw [knF, if_neg hk, if_neg h]
  rfl
set_option maxHeartbeats 4000000 in
set_option maxRecDepth 100000 in
/-- bucketOf -/
theorem k_OC_bucketOf (l : Launch) (D : va_G) (cI cJ : ClassId) (x : Int32)  : Met l y_OC_bucketOf ws_OC_bucketOf ({ frames := 0, cells := 0, slots := 0, locals := 0 } : Room) (va_Pc [.int x] (Pp D cI cJ [])) (vp_Si (fun r : Int32 => r = nI (bkN x))) 0 0 (fun _ => False) := by
  refine Met.ofW (cc := c_OC_bucketOf) (maxL := 1) (ret := (some .int)) (by decide) rfl ?_
  intro p e s m args below meth c s₁ B hml hv
  obtain ⟨rfl, hE, hP, hX⟩ := hv
  have hx := B.exec
  have hb := B.bytes
  have hr := B.returns
  have hw : ∀ w ∈ gw, w.before _ s = true := fun w h => atoms_spec (ws := ws_OC_bucketOf) B.pre w (List.mem_cons_of_mem _ h)
  have hown : s.vm.findClass R_OC = some m.cls := findClass_of_methodNamed B.named
  have hlocks := B.notSynchronized
  have hS : va_S (fun _ => False) s.heap s.heap [] := va_S.rf
  have hl := lv_entry ([.int x]) (n := 1) (Nat.le_of_ble_eq_true rfl)
  rw [lg_entry_eq]
  generalize (lg_sl ([.int x]) ++ List.replicate (1 - (lg_sl ([.int x])).length) Slot.unset).toArray = ls at hl ⊢
  have hl : lv_has ls 1 [(0, .int x)] := hl
  refine lv_iload_n hx hb d_OC_bucketOf_0 rfl (lv_at hl 0 rfl) ?_
  refine lv_iload_n hx hb d_OC_bucketOf_1 rfl (lv_at hl 0 rfl) ?_
  refine lv_bipush (v := nI 16) hx hb d_OC_bucketOf_2 (by decide +kernel) ?_
  refine lv_iushr (v := (x.toUInt32 >>> ((nI 16).toUInt32 &&& Int32.toUInt32 31)).toInt32) hx hb d_OC_bucketOf_4 rfl ?_
  refine lv_ixor hx hb d_OC_bucketOf_5 ?_
  refine lv_sipush (v := nI 511) hx hb d_OC_bucketOf_6 (by decide +kernel) ?_
  refine lv_iand hx hb d_OC_bucketOf_9 ?_
  exact W.iret (v := (x ^^^ ((x.toUInt32 >>> ((nI 16).toUInt32 &&& Int32.toUInt32 31)).toInt32)) &&& (nI 511)) hx hb hr (fun t9 ht hW => ⟨_, rfl, (pk_and _ 9 (by decide +kernel)), ht⟩) (fun q h => by cases h) d_OC_bucketOf_10
set_option maxHeartbeats 4000000 in
set_option maxRecDepth 100000 in
/-- scatter -/
theorem k_OC_scatter (l : Launch) (D : va_G) (cI cJ : ClassId) (x : Int32)  : Met l y_OC_scatter ws_OC_scatter ({ frames := 0, cells := 0, slots := 0, locals := 0 } : Room) (va_Pc [.int x] (Pp D cI cJ [])) (vp_Si (fun r : Int32 => r = scV x)) 0 0 (fun _ => False) := by
  refine Met.ofW (cc := c_OC_scatter) (maxL := 2) (ret := (some .int)) (by decide) rfl ?_
  intro p e s m args below meth c s₁ B hml hv
  obtain ⟨rfl, hE, hP, hX⟩ := hv
  have hx := B.exec
  have hb := B.bytes
  have hr := B.returns
  have hw : ∀ w ∈ gw, w.before _ s = true := fun w h => atoms_spec (ws := ws_OC_scatter) B.pre w (List.mem_cons_of_mem _ h)
  have hown : s.vm.findClass R_OC = some m.cls := findClass_of_methodNamed B.named
  have hlocks := B.notSynchronized
  have hS : va_S (fun _ => False) s.heap s.heap [] := va_S.rf
  have hl := lv_entry ([.int x]) (n := 2) (Nat.le_of_ble_eq_true rfl)
  rw [lg_entry_eq]
  generalize (lg_sl ([.int x]) ++ List.replicate (2 - (lg_sl ([.int x])).length) Slot.unset).toArray = ls at hl ⊢
  have hl : lv_has ls 2 [(0, .int x)] := hl
  refine lv_iload_n hx hb d_OC_scatter_0 rfl (lv_at hl 0 rfl) ?_
  refine lv_ldc (v := (-1640531535)) hx hb hown (hw _ kw_667) d_OC_scatter_1 ?_
  refine lv_imul hx hb d_OC_scatter_3 ?_
  refine lv_istore_n (lv' := [(1, .int (x * (-1640531535))), (0, .int x)]) hx hb d_OC_scatter_4 rfl hl (by decide) rfl (fun ls hl => ?_)
  refine lv_iload_n hx hb d_OC_scatter_5 rfl (lv_at hl 0 rfl) ?_
  refine lv_iload_n hx hb d_OC_scatter_6 rfl (lv_at hl 0 rfl) ?_
  refine lv_bipush (v := nI 15) hx hb d_OC_scatter_7 (by decide +kernel) ?_
  refine lv_iushr (v := ((x * (-1640531535)).toUInt32 >>> ((nI 15).toUInt32 &&& Int32.toUInt32 31)).toInt32) hx hb d_OC_scatter_9 rfl ?_
  refine lv_ixor hx hb d_OC_scatter_10 ?_
  refine lv_ldc (v := (-2048144789)) hx hb hown (hw _ kw_668) d_OC_scatter_11 ?_
  refine lv_imul hx hb d_OC_scatter_13 ?_
  refine lv_istore_n (lv' := [(1, .int (((x * (-1640531535)) ^^^ (((x * (-1640531535)).toUInt32 >>> ((nI 15).toUInt32 &&& Int32.toUInt32 31)).toInt32)) * (-2048144789))), (0, .int x)]) hx hb d_OC_scatter_14 rfl hl (by decide) rfl (fun ls hl => ?_)
  refine lv_iload_n hx hb d_OC_scatter_15 rfl (lv_at hl 0 rfl) ?_
  refine lv_iload_n hx hb d_OC_scatter_16 rfl (lv_at hl 0 rfl) ?_
  refine lv_bipush (v := nI 13) hx hb d_OC_scatter_17 (by decide +kernel) ?_
  refine lv_iushr (v := ((((x * (-1640531535)) ^^^ (((x * (-1640531535)).toUInt32 >>> ((nI 15).toUInt32 &&& Int32.toUInt32 31)).toInt32)) * (-2048144789)).toUInt32 >>> ((nI 13).toUInt32 &&& Int32.toUInt32 31)).toInt32) hx hb d_OC_scatter_19 rfl ?_
  refine lv_ixor hx hb d_OC_scatter_20 ?_
  exact W.iret (v := (((x * (-1640531535)) ^^^ (((x * (-1640531535)).toUInt32 >>> ((nI 15).toUInt32 &&& Int32.toUInt32 31)).toInt32)) * (-2048144789)) ^^^ (((((x * (-1640531535)) ^^^ (((x * (-1640531535)).toUInt32 >>> ((nI 15).toUInt32 &&& Int32.toUInt32 31)).toInt32)) * (-2048144789)).toUInt32 >>> ((nI 13).toUInt32 &&& Int32.toUInt32 31)).toInt32)) hx hb hr (fun t9 ht hW => ⟨_, rfl, rfl, ht⟩) (fun q h => by cases h) d_OC_scatter_21
set_option maxHeartbeats 4000000 in
set_option maxRecDepth 100000 in
/-- keep -/
theorem k_OC_keep (l : Launch) (D : va_G) (cI cJ : ClassId) (c0 : Nat) (c1 : Nat) (c2 : Nat) (c3 : Nat) (c4 : Nat) (c5 : Nat) (f0 : Nat) (f : Nat) (en : Int32) (de : Int32) (pa : Nat → Int32) (pr : Nat → Int32) (mk : Nat → Int32) (nx : Nat → Int32) (hd : Nat → Int32) (x : Int32) (y : Int32) (z : Int32) (sz : Nat) (hf : f < 500) : Met l y_OC_keep ws_OC_keep ({ frames := 1, cells := 0, slots := 0, locals := 20 } : Room) (va_Pc [.ref c0, .int x, .int y, .int z] (Pw D cI cJ [(c0, .inr (3, [.ref f0, .ref c1, .ref c2, .ref c3, .ref c4, .ref c5, .int (nI f), .int en, .int de])), (c1, .inl (cI, 500, .inl pa)), (c2, .inl (cI, 500, .inl pr)), (c3, .inl (cI, 500, .inl mk)), (c4, .inl (cI, 500, .inl nx)), (c5, .inl (cI, 512, .inl hd))] sz)) (va_Qi (fun (r : Int32) (_u : Unit) => r = nI f) (fun _u t9 => Bw D (va_A [(c0, .inr (3, [.ref f0, .ref c1, .ref c2, .ref c3, .ref c4, .ref c5, .int (nI f), .int en, .int de])), (c1, .inl (cI, 500, .inl pa)), (c2, .inl (cI, 500, .inl pr)), (c3, .inl (cI, 500, .inl mk)), (c4, .inl (cI, 500, .inl nx)), (c5, .inl (cI, 512, .inl hd))] sz) [(c0, .inr (3, [.ref f0, .ref c1, .ref c2, .ref c3, .ref c4, .ref c5, .int (nI (f + 1)), .int en, .int de])), (c1, .inl (cI, 500, .inl (upd pa f y))), (c2, .inl (cI, 500, .inl (upd pr f x))), (c3, .inl (cI, 500, .inl (upd mk f z))), (c4, .inl (cI, 500, .inl (upd nx f (hd (bkN z))))), (c5, .inl (cI, 512, .inl (upd hd (bkN z) (nI f))))] t9) (va_A [(c0, .inr (3, [.ref f0, .ref c1, .ref c2, .ref c3, .ref c4, .ref c5, .int (nI f), .int en, .int de])), (c1, .inl (cI, 500, .inl pa)), (c2, .inl (cI, 500, .inl pr)), (c3, .inl (cI, 500, .inl mk)), (c4, .inl (cI, 500, .inl nx)), (c5, .inl (cI, 512, .inl hd))] sz)) 0 0 (va_A [(c0, .inr (3, [.ref f0, .ref c1, .ref c2, .ref c3, .ref c4, .ref c5, .int (nI f), .int en, .int de])), (c1, .inl (cI, 500, .inl pa)), (c2, .inl (cI, 500, .inl pr)), (c3, .inl (cI, 500, .inl mk)), (c4, .inl (cI, 500, .inl nx)), (c5, .inl (cI, 512, .inl hd))] sz) := by
  refine Met.ofW (cc := c_OC_keep) (maxL := 5) (ret := (some .int)) (by decide) rfl ?_
  intro p e s m args below meth c s₁ B hml hv
  obtain ⟨rfl, hsz, hE, hP, hD0, hX⟩ := hv
  have hx := B.exec
  have hb := B.bytes
  have hr := B.returns
  have hw : ∀ w ∈ gw, w.before _ s = true := fun w h => atoms_spec (ws := ws_OC_keep) B.pre w (List.mem_cons_of_mem _ h)
  have hown : s.vm.findClass R_OC = some m.cls := findClass_of_methodNamed B.named
  have hlocks := B.notSynchronized
  subst hsz
  have hD := hD0.self (sz := s.heap.size)
  generalize hAe : va_A [(c0, .inr (3, [.ref f0, .ref c1, .ref c2, .ref c3, .ref c4, .ref c5, .int (nI f), .int en, .int de])), (c1, .inl (cI, 500, .inl pa)), (c2, .inl (cI, 500, .inl pr)), (c3, .inl (cI, 500, .inl mk)), (c4, .inl (cI, 500, .inl nx)), (c5, .inl (cI, 512, .inl hd))] s.heap.size = A at hD hX ⊢
  have hA : ∀ q : Nat, s.heap.size ≤ q → A q := fun q h => by rw [← hAe]; exact Or.inr h
  have hS : va_S A s.heap s.heap [] := va_S.rf
  have hP : va_P D vwCl [(c0, .inr (3, [.ref f0, .ref c1, .ref c2, .ref c3, .ref c4, .ref c5, .int (nI f), .int en, .int de])), (c1, .inl (cI, 500, .inl pa)), (c2, .inl (cI, 500, .inl pr)), (c3, .inl (cI, 500, .inl mk)), (c4, .inl (cI, 500, .inl nx)), (c5, .inl (cI, 512, .inl hd))] s.heap := hP
  have hl := lv_entry ([.ref c0, .int x, .int y, .int z]) (n := 5) (Nat.le_of_ble_eq_true rfl)
  rw [lg_entry_eq]
  generalize (lg_sl ([.ref c0, .int x, .int y, .int z]) ++ List.replicate (5 - (lg_sl ([.ref c0, .int x, .int y, .int z])).length) Slot.unset).toArray = ls at hl ⊢
  have hl : lv_has ls 5 [(0, .ref c0), (1, .int x), (2, .int y), (3, .int z)] := hl
  refine lv_aload_n hx hb d_OC_keep_0 rfl (lv_at hl 0 rfl) ?_
  refine va_get (D := D) (ci := 3) (v := .int (nI f)) (C := R_OC) (T := T_OC) (N := 9) hx hb hw in_OC hown hE.1 hP 0 rfl rfl 6 (by decide) (hw _ kw_132) (fun _ h9 => h9) rfl d_OC_keep_1 ?_
  refine lv_istore (lv' := [(4, .int (nI f)), (0, .ref c0), (1, .int x), (2, .int y), (3, .int z)]) hx hb d_OC_keep_4 hl (by decide) rfl (fun ls hl => ?_)
  refine lv_aload_n hx hb d_OC_keep_6 rfl (lv_at hl 1 rfl) ?_
  refine lv_dup hx hb d_OC_keep_7 rfl ?_
  refine va_get (D := D) (ci := 3) (v := .int (nI f)) (C := R_OC) (T := T_OC) (N := 9) hx hb hw in_OC hown hE.1 hP 0 rfl rfl 6 (by decide) (hw _ kw_132) (fun _ h9 => h9) rfl d_OC_keep_8 ?_
  refine lv_iconst (v := nI 1) hx hb d_OC_keep_11 (by decide +kernel) ?_
  refine jn_iadd (a := f) (b := 1) hx hb d_OC_keep_12 ?_
  refine va_put (D := D) (ci := 3) (v := .int (nI (f + 1))) (ty := .int) (C := R_OC) (T := T_OC) (N := 9) hx hb hw in_OC ty_OC ty_OC_ok nm_OC_ok hown hE.1 hP hD hS 0 rfl rfl 6 (by decide) (hw _ kw_132) (fun _ h9 => h9) rfl (by decide +kernel) rfl rfl (Nat.le_of_ble_eq_true rfl) d_OC_keep_13 (fun H locs hP hD hS => ?_)
  have hP : va_P D vwCl [(c0, .inr (3, [.ref f0, .ref c1, .ref c2, .ref c3, .ref c4, .ref c5, .int (nI (f + 1)), .int en, .int de])), (c1, .inl (cI, 500, .inl pa)), (c2, .inl (cI, 500, .inl pr)), (c3, .inl (cI, 500, .inl mk)), (c4, .inl (cI, 500, .inl nx)), (c5, .inl (cI, 512, .inl hd))] H := hP
  have hD : va_D A [(c0, .inr (3, [.ref f0, .ref c1, .ref c2, .ref c3, .ref c4, .ref c5, .int (nI (f + 1)), .int en, .int de])), (c1, .inl (cI, 500, .inl pa)), (c2, .inl (cI, 500, .inl pr)), (c3, .inl (cI, 500, .inl mk)), (c4, .inl (cI, 500, .inl nx)), (c5, .inl (cI, 512, .inl hd))] := hD
  refine lv_aload_n hx hb d_OC_keep_16 rfl (lv_at hl 1 rfl) ?_
  refine va_get (D := D) (ci := 3) (v := .ref c1) (C := R_OC) (T := T_OC) (N := 9) hx hb hw in_OC hown hE.1 hP 0 rfl rfl 1 (by decide) (hw _ kw_127) (fun _ h9 => h9) rfl d_OC_keep_17 ?_
  refine lv_iload hx hb d_OC_keep_20 (lv_at hl 0 rfl) ?_
  refine lv_iload_n hx hb d_OC_keep_22 rfl (lv_at hl 3 rfl) ?_
  refine jn_iast (k := f) hx hb hE.1 hP hD hS 1 0 rfl rfl (by omega) (by omega) d_OC_keep_23 (fun H locs hP hD hS => ?_)
  have hP : va_P D vwCl [(c0, .inr (3, [.ref f0, .ref c1, .ref c2, .ref c3, .ref c4, .ref c5, .int (nI (f + 1)), .int en, .int de])), (c1, .inl (cI, 500, .inl (upd pa f y))), (c2, .inl (cI, 500, .inl pr)), (c3, .inl (cI, 500, .inl mk)), (c4, .inl (cI, 500, .inl nx)), (c5, .inl (cI, 512, .inl hd))] H := hP
  have hD : va_D A [(c0, .inr (3, [.ref f0, .ref c1, .ref c2, .ref c3, .ref c4, .ref c5, .int (nI (f + 1)), .int en, .int de])), (c1, .inl (cI, 500, .inl (upd pa f y))), (c2, .inl (cI, 500, .inl pr)), (c3, .inl (cI, 500, .inl mk)), (c4, .inl (cI, 500, .inl nx)), (c5, .inl (cI, 512, .inl hd))] := hD
  refine lv_aload_n hx hb d_OC_keep_24 rfl (lv_at hl 1 rfl) ?_
  refine va_get (D := D) (ci := 3) (v := .ref c2) (C := R_OC) (T := T_OC) (N := 9) hx hb hw in_OC hown hE.1 hP 0 rfl rfl 2 (by decide) (hw _ kw_128) (fun _ h9 => h9) rfl d_OC_keep_25 ?_
  refine lv_iload hx hb d_OC_keep_28 (lv_at hl 0 rfl) ?_
  refine lv_iload_n hx hb d_OC_keep_30 rfl (lv_at hl 2 rfl) ?_
  refine jn_iast (k := f) hx hb hE.1 hP hD hS 2 0 rfl rfl (by omega) (by omega) d_OC_keep_31 (fun H locs hP hD hS => ?_)
  have hP : va_P D vwCl [(c0, .inr (3, [.ref f0, .ref c1, .ref c2, .ref c3, .ref c4, .ref c5, .int (nI (f + 1)), .int en, .int de])), (c1, .inl (cI, 500, .inl (upd pa f y))), (c2, .inl (cI, 500, .inl (upd pr f x))), (c3, .inl (cI, 500, .inl mk)), (c4, .inl (cI, 500, .inl nx)), (c5, .inl (cI, 512, .inl hd))] H := hP
  have hD : va_D A [(c0, .inr (3, [.ref f0, .ref c1, .ref c2, .ref c3, .ref c4, .ref c5, .int (nI (f + 1)), .int en, .int de])), (c1, .inl (cI, 500, .inl (upd pa f y))), (c2, .inl (cI, 500, .inl (upd pr f x))), (c3, .inl (cI, 500, .inl mk)), (c4, .inl (cI, 500, .inl nx)), (c5, .inl (cI, 512, .inl hd))] := hD
  refine lv_aload_n hx hb d_OC_keep_32 rfl (lv_at hl 1 rfl) ?_
  refine va_get (D := D) (ci := 3) (v := .ref c3) (C := R_OC) (T := T_OC) (N := 9) hx hb hw in_OC hown hE.1 hP 0 rfl rfl 3 (by decide) (hw _ kw_129) (fun _ h9 => h9) rfl d_OC_keep_33 ?_
  refine lv_iload hx hb d_OC_keep_36 (lv_at hl 0 rfl) ?_
  refine lv_iload_n hx hb d_OC_keep_38 rfl (lv_at hl 4 rfl) ?_
  refine jn_iast (k := f) hx hb hE.1 hP hD hS 3 0 rfl rfl (by omega) (by omega) d_OC_keep_39 (fun H locs hP hD hS => ?_)
  have hP : va_P D vwCl [(c0, .inr (3, [.ref f0, .ref c1, .ref c2, .ref c3, .ref c4, .ref c5, .int (nI (f + 1)), .int en, .int de])), (c1, .inl (cI, 500, .inl (upd pa f y))), (c2, .inl (cI, 500, .inl (upd pr f x))), (c3, .inl (cI, 500, .inl (upd mk f z))), (c4, .inl (cI, 500, .inl nx)), (c5, .inl (cI, 512, .inl hd))] H := hP
  have hD : va_D A [(c0, .inr (3, [.ref f0, .ref c1, .ref c2, .ref c3, .ref c4, .ref c5, .int (nI (f + 1)), .int en, .int de])), (c1, .inl (cI, 500, .inl (upd pa f y))), (c2, .inl (cI, 500, .inl (upd pr f x))), (c3, .inl (cI, 500, .inl (upd mk f z))), (c4, .inl (cI, 500, .inl nx)), (c5, .inl (cI, 512, .inl hd))] := hD
  refine lv_aload_n hx hb d_OC_keep_40 rfl (lv_at hl 1 rfl) ?_
  refine va_get (D := D) (ci := 3) (v := .ref c4) (C := R_OC) (T := T_OC) (N := 9) hx hb hw in_OC hown hE.1 hP 0 rfl rfl 4 (by decide) (hw _ kw_130) (fun _ h9 => h9) rfl d_OC_keep_41 ?_
  refine lv_iload hx hb d_OC_keep_44 (lv_at hl 0 rfl) ?_
  refine lv_aload_n hx hb d_OC_keep_46 rfl (lv_at hl 1 rfl) ?_
  refine va_get (D := D) (ci := 3) (v := .ref c5) (C := R_OC) (T := T_OC) (N := 9) hx hb hw in_OC hown hE.1 hP 0 rfl rfl 5 (by decide) (hw _ kw_131) (fun _ h9 => h9) rfl d_OC_keep_47 ?_
  refine lv_iload_n hx hb d_OC_keep_50 rfl (lv_at hl 4 rfl) ?_
  refine vp_callSi (va_Run.run (va_runS (As := [.int z]) (rest := [.ref c5, .int (nI f), .ref c4]) ⟨hx, hb, hml, hown, hw⟩ (k_OC_bucketOf l D cI cJ z) (va_cwS 1 hw (gS kw_673 kw_674 kw_43 kw_675) rfl rfl rfl (by decide +kernel) ⟨Nat.le_of_ble_eq_true rfl, Nat.le_of_ble_eq_true rfl⟩) (pre_Sp (wc := []) hE hX hP hS [] rfl) rfl rfl hl.1 rfl (lv_room (Nat.le_of_ble_eq_true rfl)) d_OC_keep_51 ⟨Nat.le_of_ble_eq_true rfl, Nat.le_of_ble_eq_true rfl⟩)) (fun r_1 hr_1 => ?_)
  obtain rfl : nI (bkN z) = r_1 := hr_1.symm
  refine jn_iald (k := (bkN z)) hx hb hE.1 hP 5 0 rfl rfl (bkN_lt z) (by omega) d_OC_keep_54 ?_
  refine jn_iast (k := f) hx hb hE.1 hP hD hS 4 0 rfl rfl (by omega) (by omega) d_OC_keep_55 (fun H locs hP hD hS => ?_)
  have hP : va_P D vwCl [(c0, .inr (3, [.ref f0, .ref c1, .ref c2, .ref c3, .ref c4, .ref c5, .int (nI (f + 1)), .int en, .int de])), (c1, .inl (cI, 500, .inl (upd pa f y))), (c2, .inl (cI, 500, .inl (upd pr f x))), (c3, .inl (cI, 500, .inl (upd mk f z))), (c4, .inl (cI, 500, .inl (upd nx f (hd (bkN z))))), (c5, .inl (cI, 512, .inl hd))] H := hP
  have hD : va_D A [(c0, .inr (3, [.ref f0, .ref c1, .ref c2, .ref c3, .ref c4, .ref c5, .int (nI (f + 1)), .int en, .int de])), (c1, .inl (cI, 500, .inl (upd pa f y))), (c2, .inl (cI, 500, .inl (upd pr f x))), (c3, .inl (cI, 500, .inl (upd mk f z))), (c4, .inl (cI, 500, .inl (upd nx f (hd (bkN z))))), (c5, .inl (cI, 512, .inl hd))] := hD
  refine lv_aload_n hx hb d_OC_keep_56 rfl (lv_at hl 1 rfl) ?_
  refine va_get (D := D) (ci := 3) (v := .ref c5) (C := R_OC) (T := T_OC) (N := 9) hx hb hw in_OC hown hE.1 hP 0 rfl rfl 5 (by decide) (hw _ kw_131) (fun _ h9 => h9) rfl d_OC_keep_57 ?_
  refine lv_iload_n hx hb d_OC_keep_60 rfl (lv_at hl 4 rfl) ?_
  refine vp_callSi (va_Run.run (va_runS (As := [.int z]) (rest := [.ref c5]) ⟨hx, hb, hml, hown, hw⟩ (k_OC_bucketOf l D cI cJ z) (va_cwS 1 hw (gS kw_673 kw_674 kw_43 kw_675) rfl rfl rfl (by decide +kernel) ⟨Nat.le_of_ble_eq_true rfl, Nat.le_of_ble_eq_true rfl⟩) (pre_Sp (wc := []) hE hX hP hS [] rfl) rfl rfl hl.1 rfl (lv_room (Nat.le_of_ble_eq_true rfl)) d_OC_keep_61 ⟨Nat.le_of_ble_eq_true rfl, Nat.le_of_ble_eq_true rfl⟩)) (fun r_2 hr_2 => ?_)
  obtain rfl : nI (bkN z) = r_2 := hr_2.symm
  refine lv_iload hx hb d_OC_keep_64 (lv_at hl 0 rfl) ?_
  refine jn_iast (k := (bkN z)) hx hb hE.1 hP hD hS 5 0 rfl rfl (bkN_lt z) (by omega) d_OC_keep_66 (fun H locs hP hD hS => ?_)
  have hP : va_P D vwCl [(c0, .inr (3, [.ref f0, .ref c1, .ref c2, .ref c3, .ref c4, .ref c5, .int (nI (f + 1)), .int en, .int de])), (c1, .inl (cI, 500, .inl (upd pa f y))), (c2, .inl (cI, 500, .inl (upd pr f x))), (c3, .inl (cI, 500, .inl (upd mk f z))), (c4, .inl (cI, 500, .inl (upd nx f (hd (bkN z))))), (c5, .inl (cI, 512, .inl (upd hd (bkN z) (nI f))))] H := hP
  have hD : va_D A [(c0, .inr (3, [.ref f0, .ref c1, .ref c2, .ref c3, .ref c4, .ref c5, .int (nI (f + 1)), .int en, .int de])), (c1, .inl (cI, 500, .inl (upd pa f y))), (c2, .inl (cI, 500, .inl (upd pr f x))), (c3, .inl (cI, 500, .inl (upd mk f z))), (c4, .inl (cI, 500, .inl (upd nx f (hd (bkN z))))), (c5, .inl (cI, 512, .inl (upd hd (bkN z) (nI f))))] := hD
  refine lv_iload hx hb d_OC_keep_67 (lv_at hl 0 rfl) ?_
  have hP9 := hP.sub (ws' := [(c0, .inr (3, [.ref f0, .ref c1, .ref c2, .ref c3, .ref c4, .ref c5, .int (nI (f + 1)), .int en, .int de])), (c1, .inl (cI, 500, .inl (upd pa f y))), (c2, .inl (cI, 500, .inl (upd pr f x))), (c3, .inl (cI, 500, .inl (upd mk f z))), (c4, .inl (cI, 500, .inl (upd nx f (hd (bkN z))))), (c5, .inl (cI, 512, .inl (upd hd (bkN z) (nI f))))]) [0, 1, 2, 3, 4, 5] rfl
  have hD9 := hD.sub (ws' := [(c0, .inr (3, [.ref f0, .ref c1, .ref c2, .ref c3, .ref c4, .ref c5, .int (nI (f + 1)), .int en, .int de])), (c1, .inl (cI, 500, .inl (upd pa f y))), (c2, .inl (cI, 500, .inl (upd pr f x))), (c3, .inl (cI, 500, .inl (upd mk f z))), (c4, .inl (cI, 500, .inl (upd nx f (hd (bkN z))))), (c5, .inl (cI, 512, .inl (upd hd (bkN z) (nI f))))]) [0, 1, 2, 3, 4, 5] (by decide) rfl
  exact W.iret (v := nI f) hx hb hr (fun t9 ht hW => ⟨⟨_, (), rfl, rfl, ⟨by rw [ht]; exact hP9, hD9⟩⟩, hS.F ht⟩) hS.2.2 d_OC_keep_69
set_option maxHeartbeats 4000000 in
set_option maxRecDepth 100000 in
theorem lp_k_OC_isSame_6 {p : Program} {l : Launch} {e : Env} {s : State} {m : MethodId} {args : Array Value} {below : List Frame} {meth : Method} {c : Code} {D : va_G} {cI cJ : ClassId} {Q : State → Prop} (c0 : Nat) (c1 : Nat) (c2 : Nat) (c3 : Nat) (c4 : Nat) (c5 : Nat) (f0 : Nat) (f : Nat) (en : Int32) (de : Int32) (f1 : Nat) (f2 : Nat) (f3 : Nat) (f4 : Nat) (o1 : Nat) (np : Int32) (ns : Int32) (aw : Int32) (pa : Nat → Int32) (pr : Nat → Int32) (mk : Nat → Int32) (nx : Nat → Int32) (hd : Nat → Int32) (ce : Nat → Int32) (k0 : Nat) (x : Int32) (d : Nat) (hK : okK pa pr nx hd f) (hk0 : k0 < f) (hd9 : d < 2 ^ 31)  (hx : p.tables.exec = Jvm.exec) (hb : c.code = c_OC_isSame) (hml : c.maxLocals = 7) (hown : s.vm.findClass R_OC = some m.cls) (hw : ∀ w ∈ gw, w.before args s = true) (hE : En D cI cJ s) (hX : Sx (fun _ => False) s s.heap) (hP : va_P D vwCl [(c0, .inr (3, [.ref f0, .ref c1, .ref c2, .ref c3, .ref c4, .ref c5, .int (nI f), .int en, .int de])), (c1, .inl (cI, 500, .inl pa)), (c2, .inl (cI, 500, .inl pr)), (f0, .inr (2, [.ref o1, .ref f1, .ref f2, .ref f3, .ref f4, .int np, .int ns, .int aw])), (f1, .inl (cI, 1764, .inl ce))] s.heap)
    (kx0 : (smF ce pa pr x d k0 = 0) → ∀ (ls : Array Slot), lv_has ls 7 [(0, .ref c0)] → W p l e ({ frames := 1, cells := 0, slots := 0, locals := 21 } : Room) s m args below meth c s.heap [] 0 0 Q (F0 m 17 ls []))
    (kx1 : (smF ce pa pr x d k0 = 0) → ∀ (ls : Array Slot), lv_has ls 7 [(0, .ref c0)] → W p l e ({ frames := 1, cells := 0, slots := 0, locals := 21 } : Room) s m args below meth c s.heap [] 0 0 Q (F0 m 54 ls []))
    (kx2 : ∀ (k : Nat), (k < f) → (smF ce pa pr x d k0 = if k = 0 then 1 else 0) → ∀ (ls : Array Slot), lv_has ls 7 [(4, .int (nI k))] → W p l e ({ frames := 1, cells := 0, slots := 0, locals := 21 } : Room) s m args below meth c s.heap [] 0 0 Q (F0 m 71 ls [])) :
    ∀ (fu : Nat) (j : Nat) (k : Nat), d - j < fu → (j ≤ d) → (k < f) → (smF ce pa pr x (d - j) k = smF ce pa pr x d k0) → ∀ (ls : Array Slot), lv_has ls 7 [(0, .ref c0), (2, .int x), (3, .int (nI d)), (4, .int (nI k)), (5, .int (nI j))] → W p l e ({ frames := 1, cells := 0, slots := 0, locals := 21 } : Room) s m args below meth c s.heap [] 0 0 Q (F0 m 6 ls []) := by
  have hS : va_S (fun _ => False) s.heap s.heap [] := va_S.rf
  intro fu
  induction fu with
  | zero =>
    intro j k h0
    exact absurd h0 (Nat.not_lt_zero _)
  | succ fu ih =>
    intro j k hmu hj hk hR ls hl
    have hf5 := hK.2.1
    refine lv_iload hx hb d_OC_isSame_6 (lv_at hl 4 rfl) ?_
    refine lv_iload_n hx hb d_OC_isSame_8 rfl (lv_at hl 2 rfl) ?_
    refine jn_icmp_ge (tgt := 71) (a := j) (b := d) hx hb d_OC_isSame_9 (by decide) (by omega) (by omega) (fun c_9 => ?_) (fun c_9 => ?_)
    · skip
      exact kx2 k hk (by rw [← hR, show d - j = 0 by omega]; rfl) _ (lv_sub hl [3] rfl)
    · skip
      refine lv_iload hx hb d_OC_isSame_12 (lv_at hl 3 rfl) ?_
      refine jn_if_ne (tgt := 19) (a := k) hx hb d_OC_isSame_14 (by decide) (by omega) (fun c_14 => ?_) (fun c_14 => ?_)
      · skip
        refine lv_aload_n hx hb d_OC_isSame_19 rfl (lv_at hl 0 rfl) ?_
        refine va_get (D := D) (ci := 3) (v := .ref c2) (C := R_OC) (T := T_OC) (N := 9) hx hb hw in_OC hown hE.1 hP 0 rfl rfl 2 (by decide) (hw _ kw_128) (fun _ h9 => h9) rfl d_OC_isSame_20 ?_
        refine lv_iload hx hb d_OC_isSame_23 (lv_at hl 3 rfl) ?_
        refine jn_iald (k := k) hx hb hE.1 hP 2 0 rfl rfl (by omega) (by omega) d_OC_isSame_25 ?_
        refine lv_istore (lv' := [(6, .int (pr k)), (0, .ref c0), (2, .int x), (3, .int (nI d)), (4, .int (nI k)), (5, .int (nI j))]) hx hb d_OC_isSame_26 hl (by decide) rfl (fun ls hl => ?_)
        refine lv_iload hx hb d_OC_isSame_28 (lv_at hl 0 rfl) ?_
        refine lv_iload_n hx hb d_OC_isSame_30 rfl (lv_at hl 2 rfl) ?_
        refine lv_icmp_eq (tgt := 56) hx hb d_OC_isSame_31 (by decide) (fun c_31 => ?_) (fun c_31 => ?_)
        · skip
          refine lv_aload_n hx hb d_OC_isSame_56 rfl (lv_at hl 1 rfl) ?_
          refine va_get (D := D) (ci := 3) (v := .ref c1) (C := R_OC) (T := T_OC) (N := 9) hx hb hw in_OC hown hE.1 hP 0 rfl rfl 1 (by decide) (hw _ kw_127) (fun _ h9 => h9) rfl d_OC_isSame_57 ?_
          refine lv_iload hx hb d_OC_isSame_60 (lv_at hl 4 rfl) ?_
          refine jn_iald (k := k) hx hb hE.1 hP 1 0 rfl rfl (by omega) (by omega) d_OC_isSame_62 ?_
          refine W.eq (g2 := F0 m 63 ls [.int (nI (nn (pa k)))]) (by rw [← (hK.2.2.1 k (by omega) (by omega)).1.1]) ?_
          refine lv_istore (lv' := [(4, .int (nI (nn (pa k)))), (6, .int (pr k)), (0, .ref c0), (2, .int x), (3, .int (nI d)), (5, .int (nI j))]) hx hb d_OC_isSame_63 hl (by decide) rfl (fun ls hl => ?_)
          refine lv_iinc (v := nI (j + 1)) (lv' := [(5, .int (nI (j + 1))), (4, .int (nI (nn (pa k)))), (6, .int (pr k)), (0, .ref c0), (2, .int x), (3, .int (nI d))]) hx hb d_OC_isSame_65 hl (k := 5) rfl (jn_inc j 1) (by decide) rfl (fun ls hl => ?_)
          refine lv_goto (tgt := 6) hx hb d_OC_isSame_68 (by decide) ?_
          exact ih (j + 1) (nn (pa k)) (by omega) (by omega) ((hK.2.2.1 k (by omega) (by omega)).1.2) (by rw [← hR, smF_go (n := d - j) (by omega) c_14 (Or.inl c_31), show d - j - 1 = d - (j + 1) by omega]) _ (lv_sub hl [3, 4, 5, 1, 0] rfl)
        · skip
          refine lv_aload_n hx hb d_OC_isSame_34 rfl (lv_at hl 1 rfl) ?_
          refine va_get (D := D) (ci := 3) (v := .ref f0) (C := R_OC) (T := T_OC) (N := 9) hx hb hw in_OC hown hE.1 hP 0 rfl rfl 0 (by decide) (hw _ kw_126) (fun _ h9 => h9) rfl d_OC_isSame_35 ?_
          refine lv_iload hx hb d_OC_isSame_38 (lv_at hl 0 rfl) ?_
          refine W.eq (g2 := F0 m 40 ls [.int (nI (nn (pr k))), .ref f0]) (by rw [← (hK.2.2.1 k (by omega) (by omega)).2.1.1]) ?_
          refine vp_callSi (va_Run.run (va_runSN (As := [.int (nI (nn (pr k)))]) (rest := [.ref f0]) ⟨hx, hb, hml, hown, hw⟩ (k_TB_placeIn l D cI cJ (nn (pr k)) (by have := (hK.2.2.1 k (by omega) (by omega)).2.1.2; omega)) (⟨va_cnB 1 hw (gI kw_538) rfl rfl rfl (hE.2.1 _ (List.mem_of_getElem? (i := 12) rfl)) (hw _ kw_40) (by decide +kernel) ⟨Nat.le_of_ble_eq_true rfl, Nat.le_of_ble_eq_true rfl⟩, hw _ kw_537, trivial⟩) (pre_Sp (wc := []) hE hX hP hS [] rfl) rfl rfl hl.1 rfl (lv_room (Nat.le_of_ble_eq_true rfl)) d_OC_isSame_40 ⟨Nat.le_of_ble_eq_true rfl, Nat.le_of_ble_eq_true rfl⟩)) (fun r_1 hr_1 => ?_)
          obtain rfl : nI ((nn (pr k)) / 64) = r_1 := hr_1.symm
          refine vp_callSi (va_Run.run (va_runV (As := [.int (nI ((nn (pr k)) / 64))]) (rest := []) ⟨hx, hb, hml, hown, hw⟩ (k_FD_typeAt l D cI cJ f0 f1 f2 f3 f4 o1 np ns aw ce ((nn (pr k)) / 64) ((hK.2.2.1 k (by omega) (by omega)).2.1.2)) (cwV 1 hw (gV kw_681 kw_422 kw_423 kw_42 kw_424) rfl rfl rfl (by decide +kernel) ⟨Nat.le_of_ble_eq_true rfl, Nat.le_of_ble_eq_true rfl⟩) (pre_Vp (wc := [(f0, .inr (2, [.ref o1, .ref f1, .ref f2, .ref f3, .ref f4, .int np, .int ns, .int aw])), (f1, .inl (cI, 1764, .inl ce))]) (q0 := 0) hE hX hP hS [3, 4] rfl rfl rfl) rfl rfl hl.1 rfl (lv_room (Nat.le_of_ble_eq_true rfl)) d_OC_isSame_43 ⟨Nat.le_of_ble_eq_true rfl, Nat.le_of_ble_eq_true rfl⟩)) (fun r_2 hr_2 => ?_)
          obtain rfl : nI (tyN (ce ((nn (pr k)) / 64))) = r_2 := hr_2.symm
          refine lv_iload hx hb d_OC_isSame_46 (lv_at hl 0 rfl) ?_
          refine W.eq (g2 := F0 m 48 ls [.int (nI (nn (pr k))), .int (nI (tyN (ce ((nn (pr k)) / 64))))]) (by rw [← (hK.2.2.1 k (by omega) (by omega)).2.1.1]) ?_
          refine vp_callSi (va_Run.run (va_runSN (As := [.int (nI (nn (pr k)))]) (rest := [.int (nI (tyN (ce ((nn (pr k)) / 64))))]) ⟨hx, hb, hml, hown, hw⟩ (k_TB_typeIn l D cI cJ (nn (pr k)) (by have := (hK.2.2.1 k (by omega) (by omega)).2.1.2; omega)) (⟨va_cnB 1 hw (gI kw_541) rfl rfl rfl (hE.2.1 _ (List.mem_of_getElem? (i := 13) rfl)) (hw _ kw_40) (by decide +kernel) ⟨Nat.le_of_ble_eq_true rfl, Nat.le_of_ble_eq_true rfl⟩, hw _ kw_540, trivial⟩) (pre_Sp (wc := []) hE hX hP hS [] rfl) rfl rfl hl.1 rfl (lv_room (Nat.le_of_ble_eq_true rfl)) d_OC_isSame_48 ⟨Nat.le_of_ble_eq_true rfl, Nat.le_of_ble_eq_true rfl⟩)) (fun r_3 hr_3 => ?_)
          obtain rfl : nI ((nn (pr k)) % 64) = r_3 := hr_3.symm
          refine jn_icmp_eq (tgt := 56) (a := (tyN (ce ((nn (pr k)) / 64)))) (b := ((nn (pr k)) % 64)) hx hb d_OC_isSame_51 (by decide) (by have := tyN_lt (ce (nn (pr k) / 64)); omega) (by omega) (fun c_51 => ?_) (fun c_51 => ?_)
          · skip
            refine lv_aload_n hx hb d_OC_isSame_56 rfl (lv_at hl 1 rfl) ?_
            refine va_get (D := D) (ci := 3) (v := .ref c1) (C := R_OC) (T := T_OC) (N := 9) hx hb hw in_OC hown hE.1 hP 0 rfl rfl 1 (by decide) (hw _ kw_127) (fun _ h9 => h9) rfl d_OC_isSame_57 ?_
            refine lv_iload hx hb d_OC_isSame_60 (lv_at hl 4 rfl) ?_
            refine jn_iald (k := k) hx hb hE.1 hP 1 0 rfl rfl (by omega) (by omega) d_OC_isSame_62 ?_
            refine W.eq (g2 := F0 m 63 ls [.int (nI (nn (pa k)))]) (by rw [← (hK.2.2.1 k (by omega) (by omega)).1.1]) ?_
            refine lv_istore (lv' := [(4, .int (nI (nn (pa k)))), (6, .int (pr k)), (0, .ref c0), (2, .int x), (3, .int (nI d)), (5, .int (nI j))]) hx hb d_OC_isSame_63 hl (by decide) rfl (fun ls hl => ?_)
            refine lv_iinc (v := nI (j + 1)) (lv' := [(5, .int (nI (j + 1))), (4, .int (nI (nn (pa k)))), (6, .int (pr k)), (0, .ref c0), (2, .int x), (3, .int (nI d))]) hx hb d_OC_isSame_65 hl (k := 5) rfl (jn_inc j 1) (by decide) rfl (fun ls hl => ?_)
            refine lv_goto (tgt := 6) hx hb d_OC_isSame_68 (by decide) ?_
            exact ih (j + 1) (nn (pa k)) (by omega) (by omega) ((hK.2.2.1 k (by omega) (by omega)).1.2) (by rw [← hR, smF_go (n := d - j) (by omega) c_14 (Or.inr c_51), show d - j - 1 = d - (j + 1) by omega]) _ (lv_sub hl [3, 4, 5, 1, 0] rfl)
          · skip
            exact kx1  (by rw [← hR]; exact smF_no (by omega) c_14 (fun z => z.elim c_31 c_51)) _ (lv_sub hl [1] rfl)
      · skip
        exact kx0  (by rw [← hR]; exact smF_zero (by omega) c_14) _ (lv_sub hl [0] rfl)
set_option maxHeartbeats 4000000 in
set_option maxRecDepth 100000 in
/-- isSame -/
theorem k_OC_isSame (l : Launch) (D : va_G) (cI cJ : ClassId) (c0 : Nat) (c1 : Nat) (c2 : Nat) (c3 : Nat) (c4 : Nat) (c5 : Nat) (f0 : Nat) (f : Nat) (en : Int32) (de : Int32) (f1 : Nat) (f2 : Nat) (f3 : Nat) (f4 : Nat) (o1 : Nat) (np : Int32) (ns : Int32) (aw : Int32) (pa : Nat → Int32) (pr : Nat → Int32) (mk : Nat → Int32) (nx : Nat → Int32) (hd : Nat → Int32) (ce : Nat → Int32) (k0 : Nat) (x : Int32) (d : Nat) (hK : okK pa pr nx hd f) (hk0 : k0 < f) (hd9 : d < 2 ^ 31) : Met l y_OC_isSame ws_OC_isSame ({ frames := 1, cells := 0, slots := 0, locals := 21 } : Room) (va_Pc [.ref c0, .int (nI k0), .int x, .int (nI d)] (Pp D cI cJ [(c0, .inr (3, [.ref f0, .ref c1, .ref c2, .ref c3, .ref c4, .ref c5, .int (nI f), .int en, .int de])), (c1, .inl (cI, 500, .inl pa)), (c2, .inl (cI, 500, .inl pr)), (f0, .inr (2, [.ref o1, .ref f1, .ref f2, .ref f3, .ref f4, .int np, .int ns, .int aw])), (f1, .inl (cI, 1764, .inl ce))])) (vp_Si (fun r : Int32 => r = nI (smF ce pa pr x d k0))) 0 0 (fun _ => False) := by
  refine Met.ofW (cc := c_OC_isSame) (maxL := 7) (ret := (some .boolean)) (by decide) rfl ?_
  intro p e s m args below meth c s₁ B hml hv
  obtain ⟨rfl, hE, hP, hX⟩ := hv
  have hx := B.exec
  have hb := B.bytes
  have hr := B.returns
  have hw : ∀ w ∈ gw, w.before _ s = true := fun w h => atoms_spec (ws := ws_OC_isSame) B.pre w (List.mem_cons_of_mem _ h)
  have hown : s.vm.findClass R_OC = some m.cls := findClass_of_methodNamed B.named
  have hlocks := B.notSynchronized
  have hS : va_S (fun _ => False) s.heap s.heap [] := va_S.rf
  have hl := lv_entry ([.ref c0, .int (nI k0), .int x, .int (nI d)]) (n := 7) (Nat.le_of_ble_eq_true rfl)
  rw [lg_entry_eq]
  generalize (lg_sl ([.ref c0, .int (nI k0), .int x, .int (nI d)]) ++ List.replicate (7 - (lg_sl ([.ref c0, .int (nI k0), .int x, .int (nI d)])).length) Slot.unset).toArray = ls at hl ⊢
  have hl : lv_has ls 7 [(0, .ref c0), (1, .int (nI k0)), (2, .int x), (3, .int (nI d))] := hl
  refine lv_iload_n hx hb d_OC_isSame_0 rfl (lv_at hl 1 rfl) ?_
  refine lv_istore (lv' := [(4, .int (nI k0)), (0, .ref c0), (1, .int (nI k0)), (2, .int x), (3, .int (nI d))]) hx hb d_OC_isSame_1 hl (by decide) rfl (fun ls hl => ?_)
  refine lv_iconst (v := nI 0) hx hb d_OC_isSame_3 (by decide +kernel) ?_
  refine lv_istore (lv' := [(5, .int (nI 0)), (4, .int (nI k0)), (0, .ref c0), (1, .int (nI k0)), (2, .int x), (3, .int (nI d))]) hx hb d_OC_isSame_4 hl (by decide) rfl (fun ls hl => ?_)
  refine lp_k_OC_isSame_6 c0 c1 c2 c3 c4 c5 f0 f en de f1 f2 f3 f4 o1 np ns aw pa pr mk nx hd ce k0 x d hK hk0 hd9 hx hb hml hown hw hE hX hP (fun hR ls hl => ?_) (fun hR ls hl => ?_) (fun k hk hR ls hl => ?_) ((d - 0) + 1) 0 k0 (Nat.lt_succ_self _) (Nat.zero_le _) hk0 rfl _ (lv_sub hl [2, 4, 5, 1, 0] rfl)
  · skip
    refine lv_iconst (v := nI 0) hx hb d_OC_isSame_17 (by decide +kernel) ?_
    exact W.zret (v := nI 0) hx hb hr (by decide +kernel) (fun t9 ht hW => ⟨_, rfl, (by rw [hR]), ht⟩) (fun q h => by cases h) d_OC_isSame_18
  · skip
    refine lv_iconst (v := nI 0) hx hb d_OC_isSame_54 (by decide +kernel) ?_
    exact W.zret (v := nI 0) hx hb hr (by decide +kernel) (fun t9 ht hW => ⟨_, rfl, (by rw [hR]), ht⟩) (fun q h => by cases h) d_OC_isSame_55
  · skip
    refine lv_iload hx hb d_OC_isSame_71 (lv_at hl 0 rfl) ?_
    have hf5 := hK.2.1
    refine jn_if_ne (tgt := 80) (a := k) hx hb d_OC_isSame_73 (by decide) (by omega) (fun c_73 => ?_) (fun c_73 => ?_)
    · skip
      refine lv_iconst (v := nI 0) hx hb d_OC_isSame_80 (by decide +kernel) ?_
      exact W.zret (v := nI 0) hx hb hr (by decide +kernel) (fun t9 ht hW => ⟨_, rfl, (by rw [hR, if_neg c_73]), ht⟩) (fun q h => by cases h) d_OC_isSame_81
    · skip
      refine lv_iconst (v := nI 1) hx hb d_OC_isSame_76 (by decide +kernel) ?_
      refine lv_goto (tgt := 81) hx hb d_OC_isSame_77 (by decide) ?_
      exact W.zret (v := nI 1) hx hb hr (by decide +kernel) (fun t9 ht hW => ⟨_, rfl, (by rw [hR, if_pos c_73]), ht⟩) (fun q h => by cases h) d_OC_isSame_81
set_option maxHeartbeats 4000000 in
set_option maxRecDepth 100000 in
theorem lp_k_OC_isKnown_14 {p : Program} {l : Launch} {e : Env} {s : State} {m : MethodId} {args : Array Value} {below : List Frame} {meth : Method} {c : Code} {D : va_G} {cI cJ : ClassId} {Q : State → Prop} (c0 : Nat) (c1 : Nat) (c2 : Nat) (c3 : Nat) (c4 : Nat) (c5 : Nat) (f0 : Nat) (f : Nat) (en : Int32) (de : Int32) (f1 : Nat) (f2 : Nat) (f3 : Nat) (f4 : Nat) (o1 : Nat) (np : Int32) (ns : Int32) (aw : Int32) (pa : Nat → Int32) (pr : Nat → Int32) (mk : Nat → Int32) (nx : Nat → Int32) (hd : Nat → Int32) (ce : Nat → Int32) (x : Int32) (d : Nat) (y : Int32) (hK : okK pa pr nx hd f) (hd9 : d < 2 ^ 31)  (hx : p.tables.exec = Jvm.exec) (hb : c.code = c_OC_isKnown) (hml : c.maxLocals = 6) (hown : s.vm.findClass R_OC = some m.cls) (hw : ∀ w ∈ gw, w.before args s = true) (hE : En D cI cJ s) (hX : Sx (fun _ => False) s s.heap) (hP : va_P D vwCl [(c0, .inr (3, [.ref f0, .ref c1, .ref c2, .ref c3, .ref c4, .ref c5, .int (nI f), .int en, .int de])), (c1, .inl (cI, 500, .inl pa)), (c2, .inl (cI, 500, .inl pr)), (c3, .inl (cI, 500, .inl mk)), (c4, .inl (cI, 500, .inl nx)), (c5, .inl (cI, 512, .inl hd)), (f0, .inr (2, [.ref o1, .ref f1, .ref f2, .ref f3, .ref f4, .int np, .int ns, .int aw])), (f1, .inl (cI, 1764, .inl ce))] s.heap)
    (kx0 : (knF ce pa pr mk nx x d y 500 (nn (hd (bkN y))) = 1) → ∀ (ls : Array Slot), lv_has ls 6 [(0, .ref c0)] → W p l e ({ frames := 2, cells := 0, slots := 0, locals := 47 } : Room) s m args below meth c s.heap [] 0 0 Q (F0 m 49 ls []))
    (kx1 : (knF ce pa pr mk nx x d y 500 (nn (hd (bkN y))) = 0) → ∀ (ls : Array Slot), lv_has ls 6 [(0, .ref c0)] → W p l e ({ frames := 2, cells := 0, slots := 0, locals := 47 } : Room) s m args below meth c s.heap [] 0 0 Q (F0 m 66 ls [])) :
    ∀ (fu : Nat) (j : Nat) (k : Nat), 500 - j < fu → (j ≤ 500) → (k < f) → (knF ce pa pr mk nx x d y (500 - j) k = knF ce pa pr mk nx x d y 500 (nn (hd (bkN y)))) → ∀ (ls : Array Slot), lv_has ls 6 [(0, .ref c0), (1, .int x), (2, .int (nI d)), (3, .int y), (4, .int (nI k)), (5, .int (nI j))] → W p l e ({ frames := 2, cells := 0, slots := 0, locals := 47 } : Room) s m args below meth c s.heap [] 0 0 Q (F0 m 14 ls []) := by
  have hS : va_S (fun _ => False) s.heap s.heap [] := va_S.rf
  intro fu
  induction fu with
  | zero =>
    intro j k h0
    exact absurd h0 (Nat.not_lt_zero _)
  | succ fu ih =>
    intro j k hmu hj hk hR ls hl
    have hf5 := hK.2.1
    refine lv_iload hx hb d_OC_isKnown_14 (lv_at hl 5 rfl) ?_
    refine lv_sipush (v := nI 500) hx hb d_OC_isKnown_16 (by decide +kernel) ?_
    refine jn_icmp_ge (tgt := 66) (a := j) (b := 500) hx hb d_OC_isKnown_19 (by decide) (by omega) (by omega) (fun c_19 => ?_) (fun c_19 => ?_)
    · skip
      exact kx1  (by rw [← hR, show 500 - j = 0 by omega]; rfl) _ (lv_sub hl [0] rfl)
    · skip
      refine lv_iload hx hb d_OC_isKnown_22 (lv_at hl 4 rfl) ?_
      refine jn_if_eq (tgt := 66) (a := k) hx hb d_OC_isKnown_24 (by decide) (by omega) (fun c_24 => ?_) (fun c_24 => ?_)
      · skip
        exact kx1  (by rw [← hR]; exact knF_zero _ c_24) _ (lv_sub hl [0] rfl)
      · skip
        refine lv_aload_n hx hb d_OC_isKnown_27 rfl (lv_at hl 0 rfl) ?_
        refine va_get (D := D) (ci := 3) (v := .ref c3) (C := R_OC) (T := T_OC) (N := 9) hx hb hw in_OC hown hE.1 hP 0 rfl rfl 3 (by decide) (hw _ kw_129) (fun _ h9 => h9) rfl d_OC_isKnown_28 ?_
        refine lv_iload hx hb d_OC_isKnown_31 (lv_at hl 4 rfl) ?_
        refine jn_iald (k := k) hx hb hE.1 hP 3 0 rfl rfl (by omega) (by omega) d_OC_isKnown_33 ?_
        refine lv_iload_n hx hb d_OC_isKnown_34 rfl (lv_at hl 3 rfl) ?_
        refine lv_icmp_ne (tgt := 51) hx hb d_OC_isKnown_35 (by decide) (fun c_35 => ?_) (fun c_35 => ?_)
        · skip
          refine lv_aload_n hx hb d_OC_isKnown_51 rfl (lv_at hl 0 rfl) ?_
          refine va_get (D := D) (ci := 3) (v := .ref c4) (C := R_OC) (T := T_OC) (N := 9) hx hb hw in_OC hown hE.1 hP 0 rfl rfl 4 (by decide) (hw _ kw_130) (fun _ h9 => h9) rfl d_OC_isKnown_52 ?_
          refine lv_iload hx hb d_OC_isKnown_55 (lv_at hl 4 rfl) ?_
          refine jn_iald (k := k) hx hb hE.1 hP 4 0 rfl rfl (by omega) (by omega) d_OC_isKnown_57 ?_
          refine W.eq (g2 := F0 m 58 ls [.int (nI (nn (nx k)))]) (by rw [← (hK.2.2.1 k (by omega) (by omega)).2.2.1]) ?_
          refine lv_istore (lv' := [(4, .int (nI (nn (nx k)))), (0, .ref c0), (1, .int x), (2, .int (nI d)), (3, .int y), (5, .int (nI j))]) hx hb d_OC_isKnown_58 hl (by decide) rfl (fun ls hl => ?_)
          refine lv_iinc (v := nI (j + 1)) (lv' := [(5, .int (nI (j + 1))), (4, .int (nI (nn (nx k)))), (0, .ref c0), (1, .int x), (2, .int (nI d)), (3, .int y)]) hx hb d_OC_isKnown_60 hl (k := 5) rfl (jn_inc j 1) (by decide) rfl (fun ls hl => ?_)
          refine lv_goto (tgt := 14) hx hb d_OC_isKnown_63 (by decide) ?_
          exact ih (j + 1) (nn (nx k)) (by omega) (by omega) ((hK.2.2.1 k (by omega) (by omega)).2.2.2) (by rw [← hR, knF_go (n := 500 - j) (by omega) c_24 (fun z => c_35 z.1), show 500 - j - 1 = 500 - (j + 1) by omega]) _ (lv_sub hl [2, 3, 4, 5, 1, 0] rfl)
        · skip
          refine lv_aload_n hx hb d_OC_isKnown_38 rfl (lv_at hl 0 rfl) ?_
          refine lv_iload hx hb d_OC_isKnown_39 (lv_at hl 4 rfl) ?_
          refine lv_iload_n hx hb d_OC_isKnown_41 rfl (lv_at hl 1 rfl) ?_
          refine lv_iload_n hx hb d_OC_isKnown_42 rfl (lv_at hl 2 rfl) ?_
          refine vp_callSi (va_Run.run (va_runV (As := [.int (nI k), .int x, .int (nI d)]) (rest := []) ⟨hx, hb, hml, hown, hw⟩ (k_OC_isSame l D cI cJ c0 c1 c2 c3 c4 c5 f0 f en de f1 f2 f3 f4 o1 np ns aw pa pr mk nx hd ce k x d hK hk hd9) (cwV 3 hw (gV kw_676 kw_678 kw_12 kw_43 kw_679) rfl rfl rfl (by decide +kernel) ⟨Nat.le_of_ble_eq_true rfl, Nat.le_of_ble_eq_true rfl⟩) (pre_Vp (wc := [(c0, .inr (3, [.ref f0, .ref c1, .ref c2, .ref c3, .ref c4, .ref c5, .int (nI f), .int en, .int de])), (c1, .inl (cI, 500, .inl pa)), (c2, .inl (cI, 500, .inl pr)), (f0, .inr (2, [.ref o1, .ref f1, .ref f2, .ref f3, .ref f4, .int np, .int ns, .int aw])), (f1, .inl (cI, 1764, .inl ce))]) (q0 := 0) hE hX hP hS [0, 1, 2, 6, 7] rfl rfl rfl) rfl rfl hl.1 rfl (lv_room (Nat.le_of_ble_eq_true rfl)) d_OC_isKnown_43 ⟨Nat.le_of_ble_eq_true rfl, Nat.le_of_ble_eq_true rfl⟩)) (fun r_1 hr_1 => ?_)
          obtain rfl : nI (smF ce pa pr x d k) = r_1 := hr_1.symm
          refine jn_if_eq (tgt := 51) (a := (smF ce pa pr x d k)) hx hb d_OC_isKnown_46 (by decide) (by have := smF_le ce pa pr x d k; omega) (fun c_46 => ?_) (fun c_46 => ?_)
          · skip
            refine lv_aload_n hx hb d_OC_isKnown_51 rfl (lv_at hl 0 rfl) ?_
            refine va_get (D := D) (ci := 3) (v := .ref c4) (C := R_OC) (T := T_OC) (N := 9) hx hb hw in_OC hown hE.1 hP 0 rfl rfl 4 (by decide) (hw _ kw_130) (fun _ h9 => h9) rfl d_OC_isKnown_52 ?_
            refine lv_iload hx hb d_OC_isKnown_55 (lv_at hl 4 rfl) ?_
            refine jn_iald (k := k) hx hb hE.1 hP 4 0 rfl rfl (by omega) (by omega) d_OC_isKnown_57 ?_
            refine W.eq (g2 := F0 m 58 ls [.int (nI (nn (nx k)))]) (by rw [← (hK.2.2.1 k (by omega) (by omega)).2.2.1]) ?_
            refine lv_istore (lv' := [(4, .int (nI (nn (nx k)))), (0, .ref c0), (1, .int x), (2, .int (nI d)), (3, .int y), (5, .int (nI j))]) hx hb d_OC_isKnown_58 hl (by decide) rfl (fun ls hl => ?_)
            refine lv_iinc (v := nI (j + 1)) (lv' := [(5, .int (nI (j + 1))), (4, .int (nI (nn (nx k)))), (0, .ref c0), (1, .int x), (2, .int (nI d)), (3, .int y)]) hx hb d_OC_isKnown_60 hl (k := 5) rfl (jn_inc j 1) (by decide) rfl (fun ls hl => ?_)
            refine lv_goto (tgt := 14) hx hb d_OC_isKnown_63 (by decide) ?_
            exact ih (j + 1) (nn (nx k)) (by omega) (by omega) ((hK.2.2.1 k (by omega) (by omega)).2.2.2) (by rw [← hR, knF_go (n := 500 - j) (by omega) c_24 (fun z => z.2 c_46), show 500 - j - 1 = 500 - (j + 1) by omega]) _ (lv_sub hl [2, 3, 4, 5, 1, 0] rfl)
          · skip
            exact kx0  (by rw [← hR]; exact knF_yes (by omega) c_24 ⟨c_35, c_46⟩) _ (lv_sub hl [0] rfl)
set_option maxHeartbeats 4000000 in
set_option maxRecDepth 100000 in
/-- isKnown -/
theorem k_OC_isKnown (l : Launch) (D : va_G) (cI cJ : ClassId) (c0 : Nat) (c1 : Nat) (c2 : Nat) (c3 : Nat) (c4 : Nat) (c5 : Nat) (f0 : Nat) (f : Nat) (en : Int32) (de : Int32) (f1 : Nat) (f2 : Nat) (f3 : Nat) (f4 : Nat) (o1 : Nat) (np : Int32) (ns : Int32) (aw : Int32) (pa : Nat → Int32) (pr : Nat → Int32) (mk : Nat → Int32) (nx : Nat → Int32) (hd : Nat → Int32) (ce : Nat → Int32) (x : Int32) (d : Nat) (y : Int32) (hK : okK pa pr nx hd f) (hd9 : d < 2 ^ 31) : Met l y_OC_isKnown ws_OC_isKnown ({ frames := 2, cells := 0, slots := 0, locals := 47 } : Room) (va_Pc [.ref c0, .int x, .int (nI d), .int y] (Pp D cI cJ [(c0, .inr (3, [.ref f0, .ref c1, .ref c2, .ref c3, .ref c4, .ref c5, .int (nI f), .int en, .int de])), (c1, .inl (cI, 500, .inl pa)), (c2, .inl (cI, 500, .inl pr)), (c3, .inl (cI, 500, .inl mk)), (c4, .inl (cI, 500, .inl nx)), (c5, .inl (cI, 512, .inl hd)), (f0, .inr (2, [.ref o1, .ref f1, .ref f2, .ref f3, .ref f4, .int np, .int ns, .int aw])), (f1, .inl (cI, 1764, .inl ce))])) (vp_Si (fun r : Int32 => r = nI (knF ce pa pr mk nx x d y 500 (nn (hd (bkN y)))))) 0 0 (fun _ => False) := by
  refine Met.ofW (cc := c_OC_isKnown) (maxL := 6) (ret := (some .boolean)) (by decide) rfl ?_
  intro p e s m args below meth c s₁ B hml hv
  obtain ⟨rfl, hE, hP, hX⟩ := hv
  have hx := B.exec
  have hb := B.bytes
  have hr := B.returns
  have hw : ∀ w ∈ gw, w.before _ s = true := fun w h => atoms_spec (ws := ws_OC_isKnown) B.pre w (List.mem_cons_of_mem _ h)
  have hown : s.vm.findClass R_OC = some m.cls := findClass_of_methodNamed B.named
  have hlocks := B.notSynchronized
  have hS : va_S (fun _ => False) s.heap s.heap [] := va_S.rf
  have hl := lv_entry ([.ref c0, .int x, .int (nI d), .int y]) (n := 6) (Nat.le_of_ble_eq_true rfl)
  rw [lg_entry_eq]
  generalize (lg_sl ([.ref c0, .int x, .int (nI d), .int y]) ++ List.replicate (6 - (lg_sl ([.ref c0, .int x, .int (nI d), .int y])).length) Slot.unset).toArray = ls at hl ⊢
  have hl : lv_has ls 6 [(0, .ref c0), (1, .int x), (2, .int (nI d)), (3, .int y)] := hl
  refine lv_aload_n hx hb d_OC_isKnown_0 rfl (lv_at hl 0 rfl) ?_
  refine va_get (D := D) (ci := 3) (v := .ref c5) (C := R_OC) (T := T_OC) (N := 9) hx hb hw in_OC hown hE.1 hP 0 rfl rfl 5 (by decide) (hw _ kw_131) (fun _ h9 => h9) rfl d_OC_isKnown_1 ?_
  refine lv_iload_n hx hb d_OC_isKnown_4 rfl (lv_at hl 3 rfl) ?_
  refine vp_callSi (va_Run.run (va_runS (As := [.int y]) (rest := [.ref c5]) ⟨hx, hb, hml, hown, hw⟩ (k_OC_bucketOf l D cI cJ y) (va_cwS 1 hw (gS kw_673 kw_674 kw_43 kw_675) rfl rfl rfl (by decide +kernel) ⟨Nat.le_of_ble_eq_true rfl, Nat.le_of_ble_eq_true rfl⟩) (pre_Sp (wc := []) hE hX hP hS [] rfl) rfl rfl hl.1 rfl (lv_room (Nat.le_of_ble_eq_true rfl)) d_OC_isKnown_5 ⟨Nat.le_of_ble_eq_true rfl, Nat.le_of_ble_eq_true rfl⟩)) (fun r_1 hr_1 => ?_)
  obtain rfl : nI (bkN y) = r_1 := hr_1.symm
  refine jn_iald (k := (bkN y)) hx hb hE.1 hP 5 0 rfl rfl (bkN_lt y) (by omega) d_OC_isKnown_8 ?_
  refine W.eq (g2 := F0 m 9 ls [.int (nI (nn (hd (bkN y))))]) (by rw [← (hK.2.2.2 _ (bkN_lt y)).1]) ?_
  refine lv_istore (lv' := [(4, .int (nI (nn (hd (bkN y))))), (0, .ref c0), (1, .int x), (2, .int (nI d)), (3, .int y)]) hx hb d_OC_isKnown_9 hl (by decide) rfl (fun ls hl => ?_)
  refine lv_iconst (v := nI 0) hx hb d_OC_isKnown_11 (by decide +kernel) ?_
  refine lv_istore (lv' := [(5, .int (nI 0)), (4, .int (nI (nn (hd (bkN y))))), (0, .ref c0), (1, .int x), (2, .int (nI d)), (3, .int y)]) hx hb d_OC_isKnown_12 hl (by decide) rfl (fun ls hl => ?_)
  refine lp_k_OC_isKnown_14 c0 c1 c2 c3 c4 c5 f0 f en de f1 f2 f3 f4 o1 np ns aw pa pr mk nx hd ce x d y hK hd9 hx hb hml hown hw hE hX hP (fun hR ls hl => ?_) (fun hR ls hl => ?_) ((500 - 0) + 1) 0 (nn (hd (bkN y))) (Nat.lt_succ_self _) (Nat.zero_le _) (hK.2.2.2 _ (bkN_lt y)).2 rfl _ (lv_sub hl [2, 3, 4, 5, 1, 0] rfl)
  · skip
    refine lv_iconst (v := nI 1) hx hb d_OC_isKnown_49 (by decide +kernel) ?_
    exact W.zret (v := nI 1) hx hb hr (by decide +kernel) (fun t9 ht hW => ⟨_, rfl, (by rw [hR]), ht⟩) (fun q h => by cases h) d_OC_isKnown_50
  · skip
    refine lv_iconst (v := nI 0) hx hb d_OC_isKnown_66 (by decide +kernel) ?_
    exact W.zret (v := nI 0) hx hb hr (by decide +kernel) (fun t9 ht hW => ⟨_, rfl, (by rw [hR]), ht⟩) (fun q h => by cases h) d_OC_isKnown_67
