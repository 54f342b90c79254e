theorem d_FD_join_0 : decode c_FD_join 0 = .ok (.aload_n 0, 1) := by decide +kernel
theorem d_FD_join_1 : decode c_FD_join 1 = .ok (.iconst 1, 1) := by decide +kernel
theorem d_FD_join_2 : decode c_FD_join 2 = .ok (.putfield 32, 3) := by decide +kernel
theorem d_FD_join_5 : decode c_FD_join 5 = .ok (.aload_n 0, 1) := by decide +kernel
theorem d_FD_join_6 : decode c_FD_join 6 = .ok (.iload_n 1, 1) := by decide +kernel
theorem d_FD_join_7 : decode c_FD_join 7 = .ok (.iload_n 2, 1) := by decide +kernel
theorem d_FD_join_8 : decode c_FD_join 8 = .ok (.aload_n 0, 1) := by decide +kernel
theorem d_FD_join_9 : decode c_FD_join 9 = .ok (.iload_n 1, 1) := by decide +kernel
theorem d_FD_join_10 : decode c_FD_join 10 = .ok (.iload_n 2, 1) := by decide +kernel
theorem d_FD_join_11 : decode c_FD_join 11 = .ok (.invokevirtual 59, 3) := by decide +kernel
theorem d_FD_join_14 : decode c_FD_join 14 = .ok (.bipush 6, 2) := by decide +kernel
theorem d_FD_join_16 : decode c_FD_join 16 = .ok (.ishl, 1) := by decide +kernel
theorem d_FD_join_17 : decode c_FD_join 17 = .ok (.ior, 1) := by decide +kernel
theorem d_FD_join_18 : decode c_FD_join 18 = .ok (.invokevirtual 63, 3) := by decide +kernel
theorem d_FD_join_21 : decode c_FD_join 21 = .ok (.return_, 1) := by decide +kernel
theorem d_FD_inputsFor_0 : decode c_FD_inputsFor 0 = .ok (.iconst 0, 1) := by decide +kernel
theorem d_FD_inputsFor_1 : decode c_FD_inputsFor 1 = .ok (.istore_n 3, 1) := by decide +kernel
theorem d_FD_inputsFor_2 : decode c_FD_inputsFor 2 = .ok (.iconst 0, 1) := by decide +kernel
theorem d_FD_inputsFor_3 : decode c_FD_inputsFor 3 = .ok (.istore 4, 2) := by decide +kernel
theorem d_FD_inputsFor_5 : decode c_FD_inputsFor 5 = .ok (.iload 4, 2) := by decide +kernel
theorem d_FD_inputsFor_7 : decode c_FD_inputsFor 7 = .ok (.iconst 4, 1) := by decide +kernel
theorem d_FD_inputsFor_8 : decode c_FD_inputsFor 8 = .ok (.if_icmp .ge 27, 3) := by decide +kernel
theorem d_FD_inputsFor_11 : decode c_FD_inputsFor 11 = .ok (.aload_n 0, 1) := by decide +kernel
theorem d_FD_inputsFor_12 : decode c_FD_inputsFor 12 = .ok (.iload_n 1, 1) := by decide +kernel
theorem d_FD_inputsFor_13 : decode c_FD_inputsFor 13 = .ok (.iload_n 2, 1) := by decide +kernel
theorem d_FD_inputsFor_14 : decode c_FD_inputsFor 14 = .ok (.iload 4, 2) := by decide +kernel
theorem d_FD_inputsFor_16 : decode c_FD_inputsFor 16 = .ok (.invokevirtual 103, 3) := by decide +kernel
theorem d_FD_inputsFor_19 : decode c_FD_inputsFor 19 = .ok (.ifCond .le 10, 3) := by decide +kernel
theorem d_FD_inputsFor_22 : decode c_FD_inputsFor 22 = .ok (.iload_n 3, 1) := by decide +kernel
theorem d_FD_inputsFor_23 : decode c_FD_inputsFor 23 = .ok (.iconst 1, 1) := by decide +kernel
theorem d_FD_inputsFor_24 : decode c_FD_inputsFor 24 = .ok (.iload 4, 2) := by decide +kernel
theorem d_FD_inputsFor_26 : decode c_FD_inputsFor 26 = .ok (.ishl, 1) := by decide +kernel
theorem d_FD_inputsFor_27 : decode c_FD_inputsFor 27 = .ok (.ior, 1) := by decide +kernel
theorem d_FD_inputsFor_28 : decode c_FD_inputsFor 28 = .ok (.istore_n 3, 1) := by decide +kernel
theorem d_FD_inputsFor_29 : decode c_FD_inputsFor 29 = .ok (.iinc 4 1, 3) := by decide +kernel
theorem d_FD_inputsFor_32 : decode c_FD_inputsFor 32 = .ok (.goto (-27), 3) := by decide +kernel
theorem d_FD_inputsFor_35 : decode c_FD_inputsFor 35 = .ok (.iload_n 3, 1) := by decide +kernel
theorem d_FD_inputsFor_36 : decode c_FD_inputsFor 36 = .ok (.ireturn, 1) := by decide +kernel
theorem d_FD_holding_0 : decode c_FD_holding 0 = .ok (.aload_n 0, 1) := by decide +kernel
theorem d_FD_holding_1 : decode c_FD_holding 1 = .ok (.getfield 36, 3) := by decide +kernel
theorem d_FD_holding_4 : decode c_FD_holding 4 = .ok (.iload_n 2, 1) := by decide +kernel
theorem d_FD_holding_5 : decode c_FD_holding 5 = .ok (.iload_n 3, 1) := by decide +kernel
theorem d_FD_holding_6 : decode c_FD_holding 6 = .ok (.invokevirtual 88, 3) := by decide +kernel
theorem d_FD_holding_9 : decode c_FD_holding 9 = .ok (.istore 4, 2) := by decide +kernel
theorem d_FD_holding_11 : decode c_FD_holding 11 = .ok (.aload_n 0, 1) := by decide +kernel
theorem d_FD_holding_12 : decode c_FD_holding 12 = .ok (.getfield 36, 3) := by decide +kernel
theorem d_FD_holding_15 : decode c_FD_holding 15 = .ok (.aload_n 0, 1) := by decide +kernel
theorem d_FD_holding_16 : decode c_FD_holding 16 = .ok (.iload_n 1, 1) := by decide +kernel
theorem d_FD_holding_17 : decode c_FD_holding 17 = .ok (.getstatic 40, 3) := by decide +kernel
theorem d_FD_holding_20 : decode c_FD_holding 20 = .ok (.iload_n 3, 1) := by decide +kernel
theorem d_FD_holding_21 : decode c_FD_holding 21 = .ok (.iaload, 1) := by decide +kernel
theorem d_FD_holding_22 : decode c_FD_holding 22 = .ok (.iadd, 1) := by decide +kernel
theorem d_FD_holding_23 : decode c_FD_holding 23 = .ok (.invokevirtual 67, 3) := by decide +kernel
theorem d_FD_holding_26 : decode c_FD_holding 26 = .ok (.iload_n 3, 1) := by decide +kernel
theorem d_FD_holding_27 : decode c_FD_holding 27 = .ok (.invokestatic 47, 3) := by decide +kernel
theorem d_FD_holding_30 : decode c_FD_holding 30 = .ok (.invokevirtual 88, 3) := by decide +kernel
theorem d_FD_holding_33 : decode c_FD_holding 33 = .ok (.istore 5, 2) := by decide +kernel
theorem d_FD_holding_35 : decode c_FD_holding 35 = .ok (.iload 4, 2) := by decide +kernel
theorem d_FD_holding_37 : decode c_FD_holding 37 = .ok (.iload 5, 2) := by decide +kernel
theorem d_FD_holding_39 : decode c_FD_holding 39 = .ok (.if_icmp .ne 15, 3) := by decide +kernel
theorem d_FD_holding_42 : decode c_FD_holding 42 = .ok (.aload_n 0, 1) := by decide +kernel
theorem d_FD_holding_43 : decode c_FD_holding 43 = .ok (.getfield 36, 3) := by decide +kernel
theorem d_FD_holding_46 : decode c_FD_holding 46 = .ok (.iload 4, 2) := by decide +kernel
theorem d_FD_holding_48 : decode c_FD_holding 48 = .ok (.invokevirtual 96, 3) := by decide +kernel
theorem d_FD_holding_51 : decode c_FD_holding 51 = .ok (.goto 4, 3) := by decide +kernel
theorem d_FD_holding_54 : decode c_FD_holding 54 = .ok (.iconst 0, 1) := by decide +kernel
theorem d_FD_holding_55 : decode c_FD_holding 55 = .ok (.ireturn, 1) := by decide +kernel
theorem d_FD_take_0 : decode c_FD_take 0 = .ok (.aload_n 0, 1) := by decide +kernel
theorem d_FD_take_1 : decode c_FD_take 1 = .ok (.iload_n 1, 1) := by decide +kernel
theorem d_FD_take_2 : decode c_FD_take 2 = .ok (.invokevirtual 70, 3) := by decide +kernel
theorem d_FD_take_5 : decode c_FD_take 5 = .ok (.ifCond .eq 13, 3) := by decide +kernel
theorem d_FD_take_8 : decode c_FD_take 8 = .ok (.aload_n 0, 1) := by decide +kernel
theorem d_FD_take_9 : decode c_FD_take 9 = .ok (.dup, 1) := by decide +kernel
theorem d_FD_take_10 : decode c_FD_take 10 = .ok (.getfield 29, 3) := by decide +kernel
theorem d_FD_take_13 : decode c_FD_take 13 = .ok (.iconst 1, 1) := by decide +kernel
theorem d_FD_take_14 : decode c_FD_take 14 = .ok (.isub, 1) := by decide +kernel
theorem d_FD_take_15 : decode c_FD_take 15 = .ok (.putfield 29, 3) := by decide +kernel
theorem d_FD_take_18 : decode c_FD_take 18 = .ok (.aload_n 0, 1) := by decide +kernel
theorem d_FD_take_19 : decode c_FD_take 19 = .ok (.getfield 22, 3) := by decide +kernel
theorem d_FD_take_22 : decode c_FD_take 22 = .ok (.iconst 0, 1) := by decide +kernel
theorem d_FD_take_23 : decode c_FD_take 23 = .ok (.dup2, 1) := by decide +kernel
theorem d_FD_take_24 : decode c_FD_take 24 = .ok (.iaload, 1) := by decide +kernel
theorem d_FD_take_25 : decode c_FD_take 25 = .ok (.iconst 1, 1) := by decide +kernel
theorem d_FD_take_26 : decode c_FD_take 26 = .ok (.isub, 1) := by decide +kernel
theorem d_FD_take_27 : decode c_FD_take 27 = .ok (.iastore, 1) := by decide +kernel
theorem d_FD_take_28 : decode c_FD_take 28 = .ok (.aload_n 0, 1) := by decide +kernel
theorem d_FD_take_29 : decode c_FD_take 29 = .ok (.getfield 22, 3) := by decide +kernel
theorem d_FD_take_32 : decode c_FD_take 32 = .ok (.aload_n 0, 1) := by decide +kernel
theorem d_FD_take_33 : decode c_FD_take 33 = .ok (.iload_n 1, 1) := by decide +kernel
theorem d_FD_take_34 : decode c_FD_take 34 = .ok (.invokevirtual 67, 3) := by decide +kernel
theorem d_FD_take_37 : decode c_FD_take 37 = .ok (.dup2, 1) := by decide +kernel
theorem d_FD_take_38 : decode c_FD_take 38 = .ok (.iaload, 1) := by decide +kernel
theorem d_FD_take_39 : decode c_FD_take 39 = .ok (.iconst 1, 1) := by decide +kernel
theorem d_FD_take_40 : decode c_FD_take 40 = .ok (.isub, 1) := by decide +kernel
theorem d_FD_take_41 : decode c_FD_take 41 = .ok (.iastore, 1) := by decide +kernel
theorem d_FD_take_42 : decode c_FD_take 42 = .ok (.aload_n 0, 1) := by decide +kernel
theorem d_FD_take_43 : decode c_FD_take 43 = .ok (.getfield 9, 3) := by decide +kernel
theorem d_FD_take_46 : decode c_FD_take 46 = .ok (.iload_n 1, 1) := by decide +kernel
theorem d_FD_take_47 : decode c_FD_take 47 = .ok (.iconst 0, 1) := by decide +kernel
theorem d_FD_take_48 : decode c_FD_take 48 = .ok (.iastore, 1) := by decide +kernel
theorem d_FD_take_49 : decode c_FD_take 49 = .ok (.aload_n 0, 1) := by decide +kernel
theorem d_FD_take_50 : decode c_FD_take 50 = .ok (.getfield 22, 3) := by decide +kernel
theorem d_FD_take_53 : decode c_FD_take 53 = .ok (.iconst 0, 1) := by decide +kernel
theorem d_FD_take_54 : decode c_FD_take 54 = .ok (.iaload, 1) := by decide +kernel
theorem d_FD_take_55 : decode c_FD_take 55 = .ok (.ifCond .ne 8, 3) := by decide +kernel
theorem d_FD_take_58 : decode c_FD_take 58 = .ok (.aload_n 0, 1) := by decide +kernel
theorem d_FD_take_59 : decode c_FD_take 59 = .ok (.iconst 0, 1) := by decide +kernel
theorem d_FD_take_60 : decode c_FD_take 60 = .ok (.putfield 32, 3) := by decide +kernel
theorem d_FD_take_63 : decode c_FD_take 63 = .ok (.aload_n 0, 1) := by decide +kernel
theorem d_FD_take_64 : decode c_FD_take 64 = .ok (.iload_n 1, 1) := by decide +kernel
theorem d_FD_take_65 : decode c_FD_take 65 = .ok (.invokevirtual 74, 3) := by decide +kernel
theorem d_FD_take_68 : decode c_FD_take 68 = .ok (.return_, 1) := by decide +kernel
theorem d_FD_outputsAt_0 : decode c_FD_outputsAt 0 = .ok (.iconst 0, 1) := by decide +kernel
theorem d_FD_outputsAt_1 : decode c_FD_outputsAt 1 = .ok (.istore_n 2, 1) := by decide +kernel
theorem d_FD_outputsAt_2 : decode c_FD_outputsAt 2 = .ok (.iconst 0, 1) := by decide +kernel
theorem d_FD_outputsAt_3 : decode c_FD_outputsAt 3 = .ok (.istore_n 3, 1) := by decide +kernel
theorem d_FD_outputsAt_4 : decode c_FD_outputsAt 4 = .ok (.iload_n 3, 1) := by decide +kernel
theorem d_FD_outputsAt_5 : decode c_FD_outputsAt 5 = .ok (.iconst 4, 1) := by decide +kernel
theorem d_FD_outputsAt_6 : decode c_FD_outputsAt 6 = .ok (.if_icmp .ge 36, 3) := by decide +kernel
theorem d_FD_outputsAt_9 : decode c_FD_outputsAt 9 = .ok (.aload_n 0, 1) := by decide +kernel
theorem d_FD_outputsAt_10 : decode c_FD_outputsAt 10 = .ok (.iload_n 1, 1) := by decide +kernel
theorem d_FD_outputsAt_11 : decode c_FD_outputsAt 11 = .ok (.getstatic 40, 3) := by decide +kernel
theorem d_FD_outputsAt_14 : decode c_FD_outputsAt 14 = .ok (.iload_n 3, 1) := by decide +kernel
theorem d_FD_outputsAt_15 : decode c_FD_outputsAt 15 = .ok (.iaload, 1) := by decide +kernel
theorem d_FD_outputsAt_16 : decode c_FD_outputsAt 16 = .ok (.iadd, 1) := by decide +kernel
theorem d_FD_outputsAt_17 : decode c_FD_outputsAt 17 = .ok (.invokevirtual 43, 3) := by decide +kernel
theorem d_FD_outputsAt_20 : decode c_FD_outputsAt 20 = .ok (.iload_n 3, 1) := by decide +kernel
theorem d_FD_outputsAt_21 : decode c_FD_outputsAt 21 = .ok (.invokestatic 47, 3) := by decide +kernel
theorem d_FD_outputsAt_24 : decode c_FD_outputsAt 24 = .ok (.ishr, 1) := by decide +kernel
theorem d_FD_outputsAt_25 : decode c_FD_outputsAt 25 = .ok (.iconst 1, 1) := by decide +kernel
theorem d_FD_outputsAt_26 : decode c_FD_outputsAt 26 = .ok (.iand, 1) := by decide +kernel
theorem d_FD_outputsAt_27 : decode c_FD_outputsAt 27 = .ok (.ifCond .eq 9, 3) := by decide +kernel
theorem d_FD_outputsAt_30 : decode c_FD_outputsAt 30 = .ok (.iload_n 2, 1) := by decide +kernel
theorem d_FD_outputsAt_31 : decode c_FD_outputsAt 31 = .ok (.iconst 1, 1) := by decide +kernel
theorem d_FD_outputsAt_32 : decode c_FD_outputsAt 32 = .ok (.iload_n 3, 1) := by decide +kernel
theorem d_FD_outputsAt_33 : decode c_FD_outputsAt 33 = .ok (.ishl, 1) := by decide +kernel
theorem d_FD_outputsAt_34 : decode c_FD_outputsAt 34 = .ok (.ior, 1) := by decide +kernel
theorem d_FD_outputsAt_35 : decode c_FD_outputsAt 35 = .ok (.istore_n 2, 1) := by decide +kernel
theorem d_FD_outputsAt_36 : decode c_FD_outputsAt 36 = .ok (.iinc 3 1, 3) := by decide +kernel
theorem d_FD_outputsAt_39 : decode c_FD_outputsAt 39 = .ok (.goto (-35), 3) := by decide +kernel
theorem d_FD_outputsAt_42 : decode c_FD_outputsAt 42 = .ok (.iload_n 2, 1) := by decide +kernel
theorem d_FD_outputsAt_43 : decode c_FD_outputsAt 43 = .ok (.ireturn, 1) := by decide +kernel
theorem d_FD_inputStrength_0 : decode c_FD_inputStrength 0 = .ok (.aload_n 0, 1) := by decide +kernel
theorem d_FD_inputStrength_1 : decode c_FD_inputStrength 1 = .ok (.iload_n 1, 1) := by decide +kernel
theorem d_FD_inputStrength_2 : decode c_FD_inputStrength 2 = .ok (.invokevirtual 67, 3) := by decide +kernel
theorem d_FD_inputStrength_5 : decode c_FD_inputStrength 5 = .ok (.istore_n 2, 1) := by decide +kernel
theorem d_FD_inputStrength_6 : decode c_FD_inputStrength 6 = .ok (.aload_n 0, 1) := by decide +kernel
theorem d_FD_inputStrength_7 : decode c_FD_inputStrength 7 = .ok (.iload_n 1, 1) := by decide +kernel
theorem d_FD_inputStrength_8 : decode c_FD_inputStrength 8 = .ok (.invokevirtual 43, 3) := by decide +kernel
theorem d_FD_inputStrength_11 : decode c_FD_inputStrength 11 = .ok (.istore_n 3, 1) := by decide +kernel
theorem d_FD_inputStrength_12 : decode c_FD_inputStrength 12 = .ok (.iconst 0, 1) := by decide +kernel
theorem d_FD_inputStrength_13 : decode c_FD_inputStrength 13 = .ok (.istore 4, 2) := by decide +kernel
theorem d_FD_inputStrength_15 : decode c_FD_inputStrength 15 = .ok (.iconst 0, 1) := by decide +kernel
theorem d_FD_inputStrength_16 : decode c_FD_inputStrength 16 = .ok (.istore 5, 2) := by decide +kernel
theorem d_FD_inputStrength_18 : decode c_FD_inputStrength 18 = .ok (.iload 5, 2) := by decide +kernel
theorem d_FD_inputStrength_20 : decode c_FD_inputStrength 20 = .ok (.iconst 4, 1) := by decide +kernel
theorem d_FD_inputStrength_21 : decode c_FD_inputStrength 21 = .ok (.if_icmp .ge 40, 3) := by decide +kernel
theorem d_FD_inputStrength_24 : decode c_FD_inputStrength 24 = .ok (.iload_n 3, 1) := by decide +kernel
theorem d_FD_inputStrength_25 : decode c_FD_inputStrength 25 = .ok (.iload 5, 2) := by decide +kernel
theorem d_FD_inputStrength_27 : decode c_FD_inputStrength 27 = .ok (.ishr, 1) := by decide +kernel
theorem d_FD_inputStrength_28 : decode c_FD_inputStrength 28 = .ok (.iconst 1, 1) := by decide +kernel
theorem d_FD_inputStrength_29 : decode c_FD_inputStrength 29 = .ok (.iand, 1) := by decide +kernel
theorem d_FD_inputStrength_30 : decode c_FD_inputStrength 30 = .ok (.ifCond .eq 25, 3) := by decide +kernel
theorem d_FD_inputStrength_33 : decode c_FD_inputStrength 33 = .ok (.iload 4, 2) := by decide +kernel
theorem d_FD_inputStrength_35 : decode c_FD_inputStrength 35 = .ok (.aload_n 0, 1) := by decide +kernel
theorem d_FD_inputStrength_36 : decode c_FD_inputStrength 36 = .ok (.getfield 36, 3) := by decide +kernel
theorem d_FD_inputStrength_39 : decode c_FD_inputStrength 39 = .ok (.aload_n 0, 1) := by decide +kernel
theorem d_FD_inputStrength_40 : decode c_FD_inputStrength 40 = .ok (.getfield 36, 3) := by decide +kernel
theorem d_FD_inputStrength_43 : decode c_FD_inputStrength 43 = .ok (.iload_n 2, 1) := by decide +kernel
theorem d_FD_inputStrength_44 : decode c_FD_inputStrength 44 = .ok (.iload 5, 2) := by decide +kernel
theorem d_FD_inputStrength_46 : decode c_FD_inputStrength 46 = .ok (.invokevirtual 88, 3) := by decide +kernel
theorem d_FD_inputStrength_49 : decode c_FD_inputStrength 49 = .ok (.invokevirtual 96, 3) := by decide +kernel
theorem d_FD_inputStrength_52 : decode c_FD_inputStrength 52 = .ok (.iadd, 1) := by decide +kernel
theorem d_FD_inputStrength_53 : decode c_FD_inputStrength 53 = .ok (.istore 4, 2) := by decide +kernel
theorem d_FD_inputStrength_55 : decode c_FD_inputStrength 55 = .ok (.iinc 5 1, 3) := by decide +kernel
theorem d_FD_inputStrength_58 : decode c_FD_inputStrength 58 = .ok (.goto (-40), 3) := by decide +kernel
theorem d_FD_inputStrength_61 : decode c_FD_inputStrength 61 = .ok (.iload 4, 2) := by decide +kernel
theorem d_FD_inputStrength_63 : decode c_FD_inputStrength 63 = .ok (.ireturn, 1) := by decide +kernel
/-- bits of a mask that a walk gathers -/
abbrev bitI (k : Nat) : Int32 := nI 1 <<< (nI k &&& 31)
def otS (ce : Nat → Int32) (p k : Nat) (a : Int32) : Int32 := if (nI (inN (ce (nb p k))) >>> (nI (opp k) &&& 31)) &&& nI 1 = 0 then a else a ||| bitI k
def otL (ce : Nat → Int32) (p : Nat) : Nat → Int32
  | 0 => nI 0
  | k + 1 => otS ce p k (otL ce p k)
def hoV (ce sd st : Nat → Int32) (p t k : Nat) : Int32 := if sd (t * 4 + k) = sd (tyN (ce (nb p k)) * 4 + opp k) then st (nn (sd (t * 4 + k))) else nI 0
def ifS (ce sd st : Nat → Int32) (p t k : Nat) (a : Int32) : Int32 := if hoV ce sd st p t k ≤ 0 then a else a ||| bitI k
def ifL (ce sd st : Nat → Int32) (p t : Nat) : Nat → Int32
  | 0 => nI 0
  | k + 1 => ifS ce sd st p t k (ifL ce sd st p t k)
def isS (ce sd st : Nat → Int32) (p k : Nat) (a : Int32) : Int32 := if (nI (inN (ce p)) >>> (nI k &&& 31)) &&& nI 1 = 0 then a else a + st (nn (sd (tyN (ce p) * 4 + k)))
def isL (ce sd st : Nat → Int32) (p : Nat) : Nat → Int32
  | 0 => nI 0
  | k + 1 => isS ce sd st p k (isL ce sd st p k)
/-- a type with inputs above it keeps its type -/
theorem tyN_or {t : Nat} (ht : t < 64) (a : Int32) : tyN (nI t ||| (a <<< (nI 6 &&& 31))) = t := by
  have h6 : ((nI 6 &&& 31 : Int32).toBitVec.smod 32).toNat = 6 := by decide +kernel
  have hs : (a <<< (nI 6 &&& 31)).toBitVec.toNat = a.toBitVec.toNat * 2 ^ 6 % 2 ^ 32 := pk_shl a _ 6 h6
  unfold tyN
  rw [Int32.toBitVec_or, BitVec.toNat_or, hs, pk_tn (show t < 2 ^ 32 by omega)]
  apply Nat.eq_of_testBit_eq
  intro i
  rw [show (64 : Nat) = 2 ^ 6 from rfl, Nat.testBit_mod_two_pow, Nat.testBit_or, Nat.testBit_mod_two_pow]
  by_cases hi : i < 6
  · have h1 : (a.toBitVec.toNat * 2 ^ 6).testBit i = false := by
      rw [Nat.mul_comm, Nat.testBit_two_pow_mul]
      simp [show ¬ 6 ≤ i by omega]
    simp [hi, h1]
  · have h2 : t.testBit i = false := Nat.testBit_lt_two_pow (Nat.lt_of_lt_of_le ht (by
      rw [show (64 : Nat) = 2 ^ 6 from rfl]
      exact Nat.pow_le_pow_right (by decide) (by omega)))
    simp [hi, h2]
set_option maxHeartbeats 4000000 in
set_option maxRecDepth 100000 in
theorem lp_k_FD_outputsAt_4 {p : Program} {l : Launch} {e : Env} {s : State} {m : MethodId} {args : Array Value} {below : List Frame} {meth : Method} {c : Code} {D : va_G} {cI cJ : ClassId} {Q : State → Prop} (f0 : Nat) (f1 : Nat) (f2 : Nat) (f3 : Nat) (f4 : Nat) (o1 : Nat) (np : Int32) (ns : Int32) (aw : Int32) (ce : Nat → Int32) (pl : Nat) (hp1 : 43 ≤ pl) (hp2 : pl ≤ 1720)  (hx : p.tables.exec = Jvm.exec) (hb : c.code = c_FD_outputsAt) (hml : c.maxLocals = 4) (hown : s.vm.findClass R_FD = some m.cls) (hw : ∀ w ∈ gw, w.before args s = true) (hE : En D cI cJ s) (hX : Sx (fun _ => False) s s.heap) (hP : va_P D vwCl [(f0, .inr (2, [.ref o1, .ref f1, .ref f2, .ref f3, .ref f4, .int np, .int ns, .int aw])), (f1, .inl (cI, 1764, .inl ce))] s.heap)
    (kx0 : ∀ (a9 : Int32), (a9 = otL ce pl 4) → ∀ (ls : Array Slot), lv_has ls 4 [(2, .int a9)] → W p l e ({ frames := 1, cells := 0, slots := 0, locals := 21 } : Room) s m args below meth c s.heap [] 0 0 Q (F0 m 42 ls [])) :
    ∀ (fu : Nat) (k : Nat) (a9 : Int32), 4 - k < fu → (k ≤ 4) → (a9 = otL ce pl k) → ∀ (ls : Array Slot), lv_has ls 4 [(0, .ref f0), (1, .int (nI pl)), (2, .int a9), (3, .int (nI k))] → W p l e ({ frames := 1, cells := 0, slots := 0, locals := 21 } : Room) s m args below meth c s.heap [] 0 0 Q (F0 m 4 ls []) := by
  have hS : va_S (fun _ => False) s.heap s.heap [] := va_S.rf
  obtain ⟨tS, hZ, hT⟩ := hX.1
  intro fu
  induction fu with
  | zero =>
    intro k a9 h0
    exact absurd h0 (Nat.not_lt_zero _)
  | succ fu ih =>
    intro k a9 hmu hk ha9 ls hl
    refine lv_iload_n hx hb d_FD_outputsAt_4 rfl (lv_at hl 3 rfl) ?_
    refine lv_iconst (v := nI 4) hx hb d_FD_outputsAt_5 (by decide +kernel) ?_
    refine jn_icmp_ge (tgt := 42) (a := k) (b := 4) hx hb d_FD_outputsAt_6 (by decide) (by omega) (by omega) (fun c_6 => ?_) (fun c_6 => ?_)
    · skip
      exact kx0 a9 (by rw [ha9, show k = 4 by omega]) _ (lv_sub hl [2] rfl)
    · skip
      refine lv_aload_n hx hb d_FD_outputsAt_9 rfl (lv_at hl 0 rfl) ?_
      refine lv_iload_n hx hb d_FD_outputsAt_10 rfl (lv_at hl 1 rfl) ?_
      refine va_getsN hx hb hZ hS hown (va_Nw.use rfl (hE.2.2.1 _ (List.mem_of_getElem? (i := 0) rfl))) (fun _ h9 => h9) d_FD_outputsAt_11 ?_
      refine lv_iload_n hx hb d_FD_outputsAt_14 rfl (lv_at hl 3 rfl) ?_
      refine va_ti (v := .int (stepF k)) hx hb hT hS (vp_in_nI (n := k) (N := 5) (by omega) (by decide)) (by rw [nI_clamp (by omega)]) d_FD_outputsAt_15 ?_
      refine lv_iadd hx hb d_FD_outputsAt_16 ?_
      refine W.eq (g2 := F0 m 17 ls [.int (nI (nb pl k)), .ref f0]) (by rw [nb_add hp1 (show k < 5 by omega)]) ?_
      refine vp_callSi (va_Run.run (va_runV (As := [.int (nI (nb pl k))]) (rest := []) ⟨hx, hb, hml, hown, hw⟩ (k_FD_inputsAt l D cI cJ f0 f1 f2 f3 f4 o1 np ns aw ce (nb pl k) (nb_lt hp1 hp2 k)) (cwV 1 hw (gV kw_594 kw_587 kw_588 kw_42 kw_589) rfl rfl rfl (by decide +kernel) ⟨Nat.le_of_ble_eq_true rfl, Nat.le_of_ble_eq_true rfl⟩) (pre_Vp (wc := [(f0, .inr (2, [.ref o1, .ref f1, .ref f2, .ref f3, .ref f4, .int np, .int ns, .int aw])), (f1, .inl (cI, 1764, .inl ce))]) (q0 := 0) hE hX hP hS [0, 1] rfl rfl rfl) rfl rfl hl.1 rfl (lv_room (Nat.le_of_ble_eq_true rfl)) d_FD_outputsAt_17 ⟨Nat.le_of_ble_eq_true rfl, Nat.le_of_ble_eq_true rfl⟩)) (fun r_1 hr_1 => ?_)
      obtain rfl : nI (inN (ce (nb pl k))) = r_1 := hr_1.symm
      refine lv_iload_n hx hb d_FD_outputsAt_20 rfl (lv_at hl 3 rfl) ?_
      refine vp_callSi (va_Run.run (va_runSN (As := [.int (nI k)]) (rest := [.int (nI (inN (ce (nb pl k))))]) ⟨hx, hb, hml, hown, hw⟩ (k_TB_opposite l D cI cJ k (by omega)) (⟨va_cnB 1 hw (gI kw_454) rfl rfl rfl (hE.2.1 _ (List.mem_of_getElem? (i := 3) rfl)) (hw _ kw_40) (by decide +kernel) ⟨Nat.le_of_ble_eq_true rfl, Nat.le_of_ble_eq_true rfl⟩, hw _ kw_453, trivial⟩) (pre_Sp (wc := []) hE hX hP hS [] rfl) rfl rfl hl.1 rfl (lv_room (Nat.le_of_ble_eq_true rfl)) d_FD_outputsAt_21 ⟨Nat.le_of_ble_eq_true rfl, Nat.le_of_ble_eq_true rfl⟩)) (fun r_2 hr_2 => ?_)
      obtain rfl : nI (opp k) = r_2 := hr_2.symm
      refine lv_ishr hx hb d_FD_outputsAt_24 ?_
      refine lv_iconst (v := nI 1) hx hb d_FD_outputsAt_25 (by decide +kernel) ?_
      refine lv_iand hx hb d_FD_outputsAt_26 ?_
      refine lv_if_eq (tgt := 36) hx hb d_FD_outputsAt_27 (by decide) (fun c_27 => ?_) (fun c_27 => ?_)
      · skip
        refine lv_iinc (v := nI (k + 1)) (lv' := [(3, .int (nI (k + 1))), (0, .ref f0), (1, .int (nI pl)), (2, .int a9)]) hx hb d_FD_outputsAt_36 hl (k := 3) rfl (jn_inc k 1) (by decide) rfl (fun ls hl => ?_)
        refine lv_goto (tgt := 4) hx hb d_FD_outputsAt_39 (by decide) ?_
        exact ih (k + 1) a9 (by omega) (by omega) (by rw [otL, ← ha9]; unfold otS; rw [if_pos c_27]) _ (lv_sub hl [1, 2, 3, 0] rfl)
      · skip
        refine lv_iload_n hx hb d_FD_outputsAt_30 rfl (lv_at hl 2 rfl) ?_
        refine lv_iconst (v := nI 1) hx hb d_FD_outputsAt_31 (by decide +kernel) ?_
        refine lv_iload_n hx hb d_FD_outputsAt_32 rfl (lv_at hl 3 rfl) ?_
        refine lv_ishl hx hb d_FD_outputsAt_33 ?_
        refine lv_ior hx hb d_FD_outputsAt_34 ?_
        refine lv_istore_n (lv' := [(2, .int (a9 ||| ((nI 1) <<< ((nI k) &&& 31)))), (0, .ref f0), (1, .int (nI pl)), (3, .int (nI k))]) hx hb d_FD_outputsAt_35 rfl hl (by decide) rfl (fun ls hl => ?_)
        refine lv_iinc (v := nI (k + 1)) (lv' := [(3, .int (nI (k + 1))), (2, .int (a9 ||| ((nI 1) <<< ((nI k) &&& 31)))), (0, .ref f0), (1, .int (nI pl))]) hx hb d_FD_outputsAt_36 hl (k := 3) rfl (jn_inc k 1) (by decide) rfl (fun ls hl => ?_)
        refine lv_goto (tgt := 4) hx hb d_FD_outputsAt_39 (by decide) ?_
        exact ih (k + 1) (a9 ||| (nI 1 <<< (nI k &&& 31))) (by omega) (by omega) (by rw [otL, ← ha9]; unfold otS; rw [if_neg c_27]) _ (lv_sub hl [2, 3, 1, 0] rfl)
set_option maxHeartbeats 4000000 in
set_option maxRecDepth 100000 in
/-- outputsAt -/
theorem k_FD_outputsAt (l : Launch) (D : va_G) (cI cJ : ClassId) (f0 : Nat) (f1 : Nat) (f2 : Nat) (f3 : Nat) (f4 : Nat) (o1 : Nat) (np : Int32) (ns : Int32) (aw : Int32) (ce : Nat → Int32) (pl : Nat) (hp1 : 43 ≤ pl) (hp2 : pl ≤ 1720) : Met l y_FD_outputsAt ws_FD_outputsAt ({ frames := 1, cells := 0, slots := 0, locals := 21 } : Room) (va_Pc [.ref f0, .int (nI pl)] (Pp D cI cJ [(f0, .inr (2, [.ref o1, .ref f1, .ref f2, .ref f3, .ref f4, .int np, .int ns, .int aw])), (f1, .inl (cI, 1764, .inl ce))])) (vp_Si (fun r : Int32 => r = otL ce pl 4)) 0 0 (fun _ => False) := by
  refine Met.ofW (cc := c_FD_outputsAt) (maxL := 4) (ret := (some .int)) (by decide) rfl ?_
  intro p e s m args below meth c s₁ B hml hv
  obtain ⟨rfl, hE, hP, hX⟩ := hv
  have hx := B.exec
  have hb := B.bytes
  have hr := B.returns
  have hw : ∀ w ∈ gw, w.before _ s = true := fun w h => atoms_spec (ws := ws_FD_outputsAt) B.pre w (List.mem_cons_of_mem _ h)
  have hown : s.vm.findClass R_FD = some m.cls := findClass_of_methodNamed B.named
  have hlocks := B.notSynchronized
  obtain ⟨tS, hZ, hT⟩ := hX.1
  have hS : va_S (fun _ => False) s.heap s.heap [] := va_S.rf
  have hl := lv_entry ([.ref f0, .int (nI pl)]) (n := 4) (Nat.le_of_ble_eq_true rfl)
  rw [lg_entry_eq]
  generalize (lg_sl ([.ref f0, .int (nI pl)]) ++ List.replicate (4 - (lg_sl ([.ref f0, .int (nI pl)])).length) Slot.unset).toArray = ls at hl ⊢
  have hl : lv_has ls 4 [(0, .ref f0), (1, .int (nI pl))] := hl
  refine lv_iconst (v := nI 0) hx hb d_FD_outputsAt_0 (by decide +kernel) ?_
  refine lv_istore_n (lv' := [(2, .int (nI 0)), (0, .ref f0), (1, .int (nI pl))]) hx hb d_FD_outputsAt_1 rfl hl (by decide) rfl (fun ls hl => ?_)
  refine lv_iconst (v := nI 0) hx hb d_FD_outputsAt_2 (by decide +kernel) ?_
  refine lv_istore_n (lv' := [(3, .int (nI 0)), (2, .int (nI 0)), (0, .ref f0), (1, .int (nI pl))]) hx hb d_FD_outputsAt_3 rfl hl (by decide) rfl (fun ls hl => ?_)
  refine lp_k_FD_outputsAt_4 f0 f1 f2 f3 f4 o1 np ns aw ce pl hp1 hp2 hx hb hml hown hw hE hX hP (fun a9 ha9 ls hl => ?_) ((4 - 0) + 1) 0 (nI 0) (Nat.lt_succ_self _) (Nat.zero_le _) rfl _ (lv_sub hl [2, 3, 1, 0] rfl)
  refine lv_iload_n hx hb d_FD_outputsAt_42 rfl (lv_at hl 0 rfl) ?_
  exact W.iret (v := a9) hx hb hr (fun t9 ht hW => ⟨_, rfl, ha9, ht⟩) (fun q h => by cases h) d_FD_outputsAt_43
set_option maxHeartbeats 4000000 in
set_option maxRecDepth 100000 in
/-- holding -/
theorem k_FD_holding (l : Launch) (D : va_G) (cI cJ : ClassId) (f0 : Nat) (f1 : Nat) (f2 : Nat) (f3 : Nat) (f4 : Nat) (o1 : Nat) (np : Int32) (ns : Int32) (aw : Int32) (s1 : Nat) (s2 : Nat) (s3 : Nat) (ty : Int32) (wa : Int32) (st : Nat → Int32) (sd : Nat → Int32) (be : Nat → Int64) (ce : Nat → Int32) (pl : Nat) (t : Nat) (k : Nat) (hp1 : 43 ≤ pl) (hp2 : pl ≤ 1720) (hce : okCe ce) (hsd : okSd sd) (hst : okSt st) (ht : t ≤ 60) (hk : k < 4) : Met l y_FD_holding ws_FD_holding ({ frames := 1, cells := 0, slots := 0, locals := 22 } : Room) (va_Pc [.ref f0, .int (nI pl), .int (nI t), .int (nI k)] (Pp D cI cJ [(f0, .inr (2, [.ref o1, .ref f1, .ref f2, .ref f3, .ref f4, .int np, .int ns, .int aw])), (f1, .inl (cI, 1764, .inl ce)), (o1, .inr (1, [.ref s1, .ref s2, .ref s3, .int ty, .int wa])), (s1, .inl (cI, 100, .inl st)), (s2, .inl (cI, 244, .inl sd)), (s3, .inl (cJ, 400, .inr (.inl be)))])) (vp_Si (fun r : Int32 => r = hoV ce sd st pl t k)) 0 0 (fun _ => False) := by
  refine Met.ofW (cc := c_FD_holding) (maxL := 6) (ret := (some .int)) (by decide) rfl ?_
  intro p e s m args below meth c s₁ B hml hv
  obtain ⟨rfl, hE, hP, hX⟩ := hv
  have hx := B.exec
  have hb := B.bytes
  have hr := B.returns
  have hw : ∀ w ∈ gw, w.before _ s = true := fun w h => atoms_spec (ws := ws_FD_holding) B.pre w (List.mem_cons_of_mem _ h)
  have hown : s.vm.findClass R_FD = some m.cls := findClass_of_methodNamed B.named
  have hlocks := B.notSynchronized
  obtain ⟨tS, hZ, hT⟩ := hX.1
  have hS : va_S (fun _ => False) s.heap s.heap [] := va_S.rf
  have hl := lv_entry ([.ref f0, .int (nI pl), .int (nI t), .int (nI k)]) (n := 6) (Nat.le_of_ble_eq_true rfl)
  rw [lg_entry_eq]
  generalize (lg_sl ([.ref f0, .int (nI pl), .int (nI t), .int (nI k)]) ++ List.replicate (6 - (lg_sl ([.ref f0, .int (nI pl), .int (nI t), .int (nI k)])).length) Slot.unset).toArray = ls at hl ⊢
  have hl : lv_has ls 6 [(0, .ref f0), (1, .int (nI pl)), (2, .int (nI t)), (3, .int (nI k))] := hl
  refine lv_aload_n hx hb d_FD_holding_0 rfl (lv_at hl 0 rfl) ?_
  refine va_get (D := D) (ci := 2) (v := .ref o1) (C := R_FD) (T := T_FD) (N := 8) hx hb hw in_FD hown hE.1 hP 0 rfl rfl 0 (by decide) (hw _ kw_95) (fun _ h9 => h9) rfl d_FD_holding_1 ?_
  refine lv_iload_n hx hb d_FD_holding_4 rfl (lv_at hl 2 rfl) ?_
  refine lv_iload_n hx hb d_FD_holding_5 rfl (lv_at hl 3 rfl) ?_
  refine vp_callSi (va_Run.run (va_runV (As := [.int (nI t), .int (nI k)]) (rest := []) ⟨hx, hb, hml, hown, hw⟩ (k_TS_glueAt l D cI cJ o1 s1 s2 s3 ty wa sd t k (by omega)) (cwV 2 hw (gV kw_455 kw_456 kw_457 kw_41 kw_458) rfl rfl rfl (by decide +kernel) ⟨Nat.le_of_ble_eq_true rfl, Nat.le_of_ble_eq_true rfl⟩) (pre_Vp (wc := [(o1, .inr (1, [.ref s1, .ref s2, .ref s3, .int ty, .int wa])), (s2, .inl (cI, 244, .inl sd))]) (q0 := 0) hE hX hP hS [2, 4] rfl rfl rfl) rfl rfl hl.1 rfl (lv_room (Nat.le_of_ble_eq_true rfl)) d_FD_holding_6 ⟨Nat.le_of_ble_eq_true rfl, Nat.le_of_ble_eq_true rfl⟩)) (fun r_1 hr_1 => ?_)
  obtain rfl : sd (t * 4 + k) = r_1 := hr_1.symm
  refine lv_istore (lv' := [(4, .int (sd (t * 4 + k))), (0, .ref f0), (1, .int (nI pl)), (2, .int (nI t)), (3, .int (nI k))]) hx hb d_FD_holding_9 hl (by decide) rfl (fun ls hl => ?_)
  refine lv_aload_n hx hb d_FD_holding_11 rfl (lv_at hl 1 rfl) ?_
  refine va_get (D := D) (ci := 2) (v := .ref o1) (C := R_FD) (T := T_FD) (N := 8) hx hb hw in_FD hown hE.1 hP 0 rfl rfl 0 (by decide) (hw _ kw_95) (fun _ h9 => h9) rfl d_FD_holding_12 ?_
  refine lv_aload_n hx hb d_FD_holding_15 rfl (lv_at hl 1 rfl) ?_
  refine lv_iload_n hx hb d_FD_holding_16 rfl (lv_at hl 2 rfl) ?_
  refine va_getsN hx hb hZ hS hown (va_Nw.use rfl (hE.2.2.1 _ (List.mem_of_getElem? (i := 0) rfl))) (fun _ h9 => h9) d_FD_holding_17 ?_
  refine lv_iload_n hx hb d_FD_holding_20 rfl (lv_at hl 4 rfl) ?_
  refine va_ti (v := .int (stepF k)) hx hb hT hS (vp_in_nI (n := k) (N := 5) (by omega) (by decide)) (by rw [nI_clamp (by omega)]) d_FD_holding_21 ?_
  refine lv_iadd hx hb d_FD_holding_22 ?_
  refine W.eq (g2 := F0 m 23 ls [.int (nI (nb pl k)), .ref f0, .ref o1]) (by rw [nb_add hp1 (show k < 5 by omega)]) ?_
  refine vp_callSi (va_Run.run (va_runV (As := [.int (nI (nb pl k))]) (rest := [.ref o1]) ⟨hx, hb, hml, hown, hw⟩ (k_FD_typeAt l D cI cJ f0 f1 f2 f3 f4 o1 np ns aw ce (nb pl k) (nb_lt hp1 hp2 k)) (cwV 1 hw (gV kw_437 kw_422 kw_423 kw_42 kw_424) rfl rfl rfl (by decide +kernel) ⟨Nat.le_of_ble_eq_true rfl, Nat.le_of_ble_eq_true rfl⟩) (pre_Vp (wc := [(f0, .inr (2, [.ref o1, .ref f1, .ref f2, .ref f3, .ref f4, .int np, .int ns, .int aw])), (f1, .inl (cI, 1764, .inl ce))]) (q0 := 0) hE hX hP hS [0, 1] rfl rfl rfl) rfl rfl hl.1 rfl (lv_room (Nat.le_of_ble_eq_true rfl)) d_FD_holding_23 ⟨Nat.le_of_ble_eq_true rfl, Nat.le_of_ble_eq_true rfl⟩)) (fun r_2 hr_2 => ?_)
  obtain rfl : nI (tyN (ce (nb pl k))) = r_2 := hr_2.symm
  have hq := hce (nb pl k) (nb_lt hp1 hp2 k)
  refine lv_iload_n hx hb d_FD_holding_26 rfl (lv_at hl 4 rfl) ?_
  refine vp_callSi (va_Run.run (va_runSN (As := [.int (nI k)]) (rest := [.int (nI (tyN (ce (nb pl k)))), .ref o1]) ⟨hx, hb, hml, hown, hw⟩ (k_TB_opposite l D cI cJ k (by omega)) (⟨va_cnB 1 hw (gI kw_454) rfl rfl rfl (hE.2.1 _ (List.mem_of_getElem? (i := 3) rfl)) (hw _ kw_40) (by decide +kernel) ⟨Nat.le_of_ble_eq_true rfl, Nat.le_of_ble_eq_true rfl⟩, hw _ kw_453, trivial⟩) (pre_Sp (wc := []) hE hX hP hS [] rfl) rfl rfl hl.1 rfl (lv_room (Nat.le_of_ble_eq_true rfl)) d_FD_holding_27 ⟨Nat.le_of_ble_eq_true rfl, Nat.le_of_ble_eq_true rfl⟩)) (fun r_3 hr_3 => ?_)
  obtain rfl : nI (opp k) = r_3 := hr_3.symm
  refine vp_callSi (va_Run.run (va_runV (As := [.int (nI (tyN (ce (nb pl k)))), .int (nI (opp k))]) (rest := []) ⟨hx, hb, hml, hown, hw⟩ (k_TS_glueAt l D cI cJ o1 s1 s2 s3 ty wa sd (tyN (ce (nb pl k))) (opp k) (by have := opp_lt k; omega)) (cwV 2 hw (gV kw_455 kw_456 kw_457 kw_41 kw_458) rfl rfl rfl (by decide +kernel) ⟨Nat.le_of_ble_eq_true rfl, Nat.le_of_ble_eq_true rfl⟩) (pre_Vp (wc := [(o1, .inr (1, [.ref s1, .ref s2, .ref s3, .int ty, .int wa])), (s2, .inl (cI, 244, .inl sd))]) (q0 := 0) hE hX hP hS [2, 4] rfl rfl rfl) rfl rfl hl.1 rfl (lv_room (Nat.le_of_ble_eq_true rfl)) d_FD_holding_30 ⟨Nat.le_of_ble_eq_true rfl, Nat.le_of_ble_eq_true rfl⟩)) (fun r_4 hr_4 => ?_)
  obtain rfl : sd ((tyN (ce (nb pl k))) * 4 + (opp k)) = r_4 := hr_4.symm
  refine lv_istore (lv' := [(5, .int (sd ((tyN (ce (nb pl k))) * 4 + (opp k)))), (4, .int (sd (t * 4 + k))), (0, .ref f0), (1, .int (nI pl)), (2, .int (nI t)), (3, .int (nI k))]) hx hb d_FD_holding_33 hl (by decide) rfl (fun ls hl => ?_)
  refine lv_iload hx hb d_FD_holding_35 (lv_at hl 1 rfl) ?_
  refine lv_iload hx hb d_FD_holding_37 (lv_at hl 0 rfl) ?_
  refine lv_icmp_ne (tgt := 54) hx hb d_FD_holding_39 (by decide) (fun c_39 => ?_) (fun c_39 => ?_)
  · skip
    refine lv_iconst (v := nI 0) hx hb d_FD_holding_54 (by decide +kernel) ?_
    exact W.iret (v := nI 0) hx hb hr (fun t9 ht hW => ⟨_, rfl, (by unfold hoV; rw [if_neg c_39]), ht⟩) (fun q h => by cases h) d_FD_holding_55
  · skip
    refine lv_aload_n hx hb d_FD_holding_42 rfl (lv_at hl 2 rfl) ?_
    refine va_get (D := D) (ci := 2) (v := .ref o1) (C := R_FD) (T := T_FD) (N := 8) hx hb hw in_FD hown hE.1 hP 0 rfl rfl 0 (by decide) (hw _ kw_95) (fun _ h9 => h9) rfl d_FD_holding_43 ?_
    refine lv_iload hx hb d_FD_holding_46 (lv_at hl 1 rfl) ?_
    refine W.eq (g2 := F0 m 48 ls [.int (nI (nn (sd (t * 4 + k)))), .ref o1]) (by rw [(hsd (t * 4 + k) (by omega)).1.symm]) ?_
    refine vp_callSi (va_Run.run (va_runV (As := [.int (nI (nn (sd (t * 4 + k))))]) (rest := []) ⟨hx, hb, hml, hown, hw⟩ (k_TS_strengthOf l D cI cJ o1 s1 s2 s3 ty wa st (nn (sd (t * 4 + k))) (hsd (t * 4 + k) (by omega)).2) (cwV 1 hw (gV kw_463 kw_464 kw_465 kw_41 kw_466) rfl rfl rfl (by decide +kernel) ⟨Nat.le_of_ble_eq_true rfl, Nat.le_of_ble_eq_true rfl⟩) (pre_Vp (wc := [(o1, .inr (1, [.ref s1, .ref s2, .ref s3, .int ty, .int wa])), (s1, .inl (cI, 100, .inl st))]) (q0 := 0) hE hX hP hS [2, 3] rfl rfl rfl) rfl rfl hl.1 rfl (lv_room (Nat.le_of_ble_eq_true rfl)) d_FD_holding_48 ⟨Nat.le_of_ble_eq_true rfl, Nat.le_of_ble_eq_true rfl⟩)) (fun r_5 hr_5 => ?_)
    obtain rfl : st (nn (sd (t * 4 + k))) = r_5 := hr_5.symm
    refine lv_goto (tgt := 55) hx hb d_FD_holding_51 (by decide) ?_
    exact W.iret (v := st (nn (sd (t * 4 + k)))) hx hb hr (fun t9 ht hW => ⟨_, rfl, (by unfold hoV; rw [if_pos c_39]), ht⟩) (fun q h => by cases h) d_FD_holding_55
set_option maxHeartbeats 4000000 in
set_option maxRecDepth 100000 in
theorem lp_k_FD_inputsFor_5 {p : Program} {l : Launch} {e : Env} {s : State} {m : MethodId} {args : Array Value} {below : List Frame} {meth : Method} {c : Code} {D : va_G} {cI cJ : ClassId} {Q : State → Prop} (f0 : Nat) (f1 : Nat) (f2 : Nat) (f3 : Nat) (f4 : Nat) (o1 : Nat) (np : Int32) (ns : Int32) (aw : Int32) (s1 : Nat) (s2 : Nat) (s3 : Nat) (ty : Int32) (wa : Int32) (st : Nat → Int32) (sd : Nat → Int32) (be : Nat → Int64) (ce : Nat → Int32) (pl : Nat) (t : Nat) (hp1 : 43 ≤ pl) (hp2 : pl ≤ 1720) (hce : okCe ce) (hsd : okSd sd) (hst : okSt st) (ht : t ≤ 60)  (hx : p.tables.exec = Jvm.exec) (hb : c.code = c_FD_inputsFor) (hml : c.maxLocals = 5) (hown : s.vm.findClass R_FD = some m.cls) (hw : ∀ w ∈ gw, w.before args s = true) (hE : En D cI cJ s) (hX : Sx (fun _ => False) s s.heap) (hP : va_P D vwCl [(f0, .inr (2, [.ref o1, .ref f1, .ref f2, .ref f3, .ref f4, .int np, .int ns, .int aw])), (f1, .inl (cI, 1764, .inl ce)), (o1, .inr (1, [.ref s1, .ref s2, .ref s3, .int ty, .int wa])), (s1, .inl (cI, 100, .inl st)), (s2, .inl (cI, 244, .inl sd)), (s3, .inl (cJ, 400, .inr (.inl be)))] s.heap)
    (kx0 : ∀ (a9 : Int32), (a9 = ifL ce sd st pl t 4) → ∀ (ls : Array Slot), lv_has ls 5 [(3, .int a9)] → W p l e ({ frames := 2, cells := 0, slots := 0, locals := 47 } : Room) s m args below meth c s.heap [] 0 0 Q (F0 m 35 ls [])) :
    ∀ (fu : Nat) (k : Nat) (a9 : Int32), 4 - k < fu → (k ≤ 4) → (a9 = ifL ce sd st pl t k) → ∀ (ls : Array Slot), lv_has ls 5 [(0, .ref f0), (1, .int (nI pl)), (2, .int (nI t)), (3, .int a9), (4, .int (nI k))] → W p l e ({ frames := 2, cells := 0, slots := 0, locals := 47 } : Room) s m args below meth c s.heap [] 0 0 Q (F0 m 5 ls []) := by
  have hS : va_S (fun _ => False) s.heap s.heap [] := va_S.rf
  intro fu
  induction fu with
  | zero =>
    intro k a9 h0
    exact absurd h0 (Nat.not_lt_zero _)
  | succ fu ih =>
    intro k a9 hmu hk ha9 ls hl
    refine lv_iload hx hb d_FD_inputsFor_5 (lv_at hl 4 rfl) ?_
    refine lv_iconst (v := nI 4) hx hb d_FD_inputsFor_7 (by decide +kernel) ?_
    refine jn_icmp_ge (tgt := 35) (a := k) (b := 4) hx hb d_FD_inputsFor_8 (by decide) (by omega) (by omega) (fun c_8 => ?_) (fun c_8 => ?_)
    · skip
      exact kx0 a9 (by rw [ha9, show k = 4 by omega]) _ (lv_sub hl [3] rfl)
    · skip
      refine lv_aload_n hx hb d_FD_inputsFor_11 rfl (lv_at hl 0 rfl) ?_
      refine lv_iload_n hx hb d_FD_inputsFor_12 rfl (lv_at hl 1 rfl) ?_
      refine lv_iload_n hx hb d_FD_inputsFor_13 rfl (lv_at hl 2 rfl) ?_
      refine lv_iload hx hb d_FD_inputsFor_14 (lv_at hl 4 rfl) ?_
      refine vp_callSi (va_Run.run (va_runV (As := [.int (nI pl), .int (nI t), .int (nI k)]) (rest := []) ⟨hx, hb, hml, hown, hw⟩ (k_FD_holding l D cI cJ f0 f1 f2 f3 f4 o1 np ns aw s1 s2 s3 ty wa st sd be ce pl t k hp1 hp2 hce hsd hst ht (by omega)) (cwV 3 hw (gV kw_500 kw_501 kw_502 kw_42 kw_503) rfl rfl rfl (by decide +kernel) ⟨Nat.le_of_ble_eq_true rfl, Nat.le_of_ble_eq_true rfl⟩) (pre_Vp (wc := [(f0, .inr (2, [.ref o1, .ref f1, .ref f2, .ref f3, .ref f4, .int np, .int ns, .int aw])), (f1, .inl (cI, 1764, .inl ce)), (o1, .inr (1, [.ref s1, .ref s2, .ref s3, .int ty, .int wa])), (s1, .inl (cI, 100, .inl st)), (s2, .inl (cI, 244, .inl sd)), (s3, .inl (cJ, 400, .inr (.inl be)))]) (q0 := 0) hE hX hP hS [0, 1, 2, 3, 4, 5] rfl rfl rfl) rfl rfl hl.1 rfl (lv_room (Nat.le_of_ble_eq_true rfl)) d_FD_inputsFor_16 ⟨Nat.le_of_ble_eq_true rfl, Nat.le_of_ble_eq_true rfl⟩)) (fun r_1 hr_1 => ?_)
      obtain rfl : hoV ce sd st pl t k = r_1 := hr_1.symm
      refine lv_if_le (tgt := 29) hx hb d_FD_inputsFor_19 (by decide) (fun c_19 => ?_) (fun c_19 => ?_)
      · skip
        refine lv_iinc (v := nI (k + 1)) (lv' := [(4, .int (nI (k + 1))), (0, .ref f0), (1, .int (nI pl)), (2, .int (nI t)), (3, .int a9)]) hx hb d_FD_inputsFor_29 hl (k := 4) rfl (jn_inc k 1) (by decide) rfl (fun ls hl => ?_)
        refine lv_goto (tgt := 5) hx hb d_FD_inputsFor_32 (by decide) ?_
        exact ih (k + 1) a9 (by omega) (by omega) (by rw [ifL, ← ha9]; unfold ifS; rw [if_pos c_19]) _ (lv_sub hl [1, 2, 3, 4, 0] rfl)
      · skip
        refine lv_iload_n hx hb d_FD_inputsFor_22 rfl (lv_at hl 3 rfl) ?_
        refine lv_iconst (v := nI 1) hx hb d_FD_inputsFor_23 (by decide +kernel) ?_
        refine lv_iload hx hb d_FD_inputsFor_24 (lv_at hl 4 rfl) ?_
        refine lv_ishl hx hb d_FD_inputsFor_26 ?_
        refine lv_ior hx hb d_FD_inputsFor_27 ?_
        refine lv_istore_n (lv' := [(3, .int (a9 ||| ((nI 1) <<< ((nI k) &&& 31)))), (0, .ref f0), (1, .int (nI pl)), (2, .int (nI t)), (4, .int (nI k))]) hx hb d_FD_inputsFor_28 rfl hl (by decide) rfl (fun ls hl => ?_)
        refine lv_iinc (v := nI (k + 1)) (lv' := [(4, .int (nI (k + 1))), (3, .int (a9 ||| ((nI 1) <<< ((nI k) &&& 31)))), (0, .ref f0), (1, .int (nI pl)), (2, .int (nI t))]) hx hb d_FD_inputsFor_29 hl (k := 4) rfl (jn_inc k 1) (by decide) rfl (fun ls hl => ?_)
        refine lv_goto (tgt := 5) hx hb d_FD_inputsFor_32 (by decide) ?_
        exact ih (k + 1) (a9 ||| (nI 1 <<< (nI k &&& 31))) (by omega) (by omega) (by rw [ifL, ← ha9]; unfold ifS; rw [if_neg c_19]) _ (lv_sub hl [2, 3, 4, 1, 0] rfl)
set_option maxHeartbeats 4000000 in
set_option maxRecDepth 100000 in
/-- inputsFor -/
theorem k_FD_inputsFor (l : Launch) (D : va_G) (cI cJ : ClassId) (f0 : Nat) (f1 : Nat) (f2 : Nat) (f3 : Nat) (f4 : Nat) (o1 : Nat) (np : Int32) (ns : Int32) (aw : Int32) (s1 : Nat) (s2 : Nat) (s3 : Nat) (ty : Int32) (wa : Int32) (st : Nat → Int32) (sd : Nat → Int32) (be : Nat → Int64) (ce : Nat → Int32) (pl : Nat) (t : Nat) (hp1 : 43 ≤ pl) (hp2 : pl ≤ 1720) (hce : okCe ce) (hsd : okSd sd) (hst : okSt st) (ht : t ≤ 60) : Met l y_FD_inputsFor ws_FD_inputsFor ({ frames := 2, cells := 0, slots := 0, locals := 47 } : Room) (va_Pc [.ref f0, .int (nI pl), .int (nI t)] (Pp D cI cJ [(f0, .inr (2, [.ref o1, .ref f1, .ref f2, .ref f3, .ref f4, .int np, .int ns, .int aw])), (f1, .inl (cI, 1764, .inl ce)), (o1, .inr (1, [.ref s1, .ref s2, .ref s3, .int ty, .int wa])), (s1, .inl (cI, 100, .inl st)), (s2, .inl (cI, 244, .inl sd)), (s3, .inl (cJ, 400, .inr (.inl be)))])) (vp_Si (fun r : Int32 => r = ifL ce sd st pl t 4)) 0 0 (fun _ => False) := by
  refine Met.ofW (cc := c_FD_inputsFor) (maxL := 5) (ret := (some .int)) (by decide) rfl ?_
  intro p e s m args below meth c s₁ B hml hv
  obtain ⟨rfl, hE, hP, hX⟩ := hv
  have hx := B.exec
  have hb := B.bytes
  have hr := B.returns
  have hw : ∀ w ∈ gw, w.before _ s = true := fun w h => atoms_spec (ws := ws_FD_inputsFor) B.pre w (List.mem_cons_of_mem _ h)
  have hown : s.vm.findClass R_FD = some m.cls := findClass_of_methodNamed B.named
  have hlocks := B.notSynchronized
  have hS : va_S (fun _ => False) s.heap s.heap [] := va_S.rf
  have hl := lv_entry ([.ref f0, .int (nI pl), .int (nI t)]) (n := 5) (Nat.le_of_ble_eq_true rfl)
  rw [lg_entry_eq]
  generalize (lg_sl ([.ref f0, .int (nI pl), .int (nI t)]) ++ List.replicate (5 - (lg_sl ([.ref f0, .int (nI pl), .int (nI t)])).length) Slot.unset).toArray = ls at hl ⊢
  have hl : lv_has ls 5 [(0, .ref f0), (1, .int (nI pl)), (2, .int (nI t))] := hl
  refine lv_iconst (v := nI 0) hx hb d_FD_inputsFor_0 (by decide +kernel) ?_
  refine lv_istore_n (lv' := [(3, .int (nI 0)), (0, .ref f0), (1, .int (nI pl)), (2, .int (nI t))]) hx hb d_FD_inputsFor_1 rfl hl (by decide) rfl (fun ls hl => ?_)
  refine lv_iconst (v := nI 0) hx hb d_FD_inputsFor_2 (by decide +kernel) ?_
  refine lv_istore (lv' := [(4, .int (nI 0)), (3, .int (nI 0)), (0, .ref f0), (1, .int (nI pl)), (2, .int (nI t))]) hx hb d_FD_inputsFor_3 hl (by decide) rfl (fun ls hl => ?_)
  refine lp_k_FD_inputsFor_5 f0 f1 f2 f3 f4 o1 np ns aw s1 s2 s3 ty wa st sd be ce pl t hp1 hp2 hce hsd hst ht hx hb hml hown hw hE hX hP (fun a9 ha9 ls hl => ?_) ((4 - 0) + 1) 0 (nI 0) (Nat.lt_succ_self _) (Nat.zero_le _) rfl _ (lv_sub hl [2, 3, 4, 1, 0] rfl)
  refine lv_iload_n hx hb d_FD_inputsFor_35 rfl (lv_at hl 0 rfl) ?_
  exact W.iret (v := a9) hx hb hr (fun t9 ht hW => ⟨_, rfl, ha9, ht⟩) (fun q h => by cases h) d_FD_inputsFor_36
set_option maxHeartbeats 4000000 in
set_option maxRecDepth 100000 in
theorem lp_k_FD_inputStrength_18 {p : Program} {l : Launch} {e : Env} {s : State} {m : MethodId} {args : Array Value} {below : List Frame} {meth : Method} {c : Code} {D : va_G} {cI cJ : ClassId} {Q : State → Prop} (f0 : Nat) (f1 : Nat) (f2 : Nat) (f3 : Nat) (f4 : Nat) (o1 : Nat) (np : Int32) (ns : Int32) (aw : Int32) (s1 : Nat) (s2 : Nat) (s3 : Nat) (ty : Int32) (wa : Int32) (st : Nat → Int32) (sd : Nat → Int32) (be : Nat → Int64) (ce : Nat → Int32) (pl : Nat) (hpl : pl < 1764) (hce : okCe ce) (hsd : okSd sd) (hst : okSt st)  (hx : p.tables.exec = Jvm.exec) (hb : c.code = c_FD_inputStrength) (hml : c.maxLocals = 6) (hown : s.vm.findClass R_FD = some m.cls) (hw : ∀ w ∈ gw, w.before args s = true) (hE : En D cI cJ s) (hX : Sx (fun _ => False) s s.heap) (hP : va_P D vwCl [(f0, .inr (2, [.ref o1, .ref f1, .ref f2, .ref f3, .ref f4, .int np, .int ns, .int aw])), (f1, .inl (cI, 1764, .inl ce)), (o1, .inr (1, [.ref s1, .ref s2, .ref s3, .int ty, .int wa])), (s1, .inl (cI, 100, .inl st)), (s2, .inl (cI, 244, .inl sd)), (s3, .inl (cJ, 400, .inr (.inl be)))] s.heap)
    (kx0 : ∀ (a9 : Int32), (a9 = isL ce sd st pl 4) → ∀ (ls : Array Slot), lv_has ls 6 [(4, .int a9)] → W p l e ({ frames := 1, cells := 0, slots := 0, locals := 22 } : Room) s m args below meth c s.heap [] 0 0 Q (F0 m 61 ls [])) :
    ∀ (fu : Nat) (k : Nat) (a9 : Int32), 4 - k < fu → (k ≤ 4) → (a9 = isL ce sd st pl k) → ∀ (ls : Array Slot), lv_has ls 6 [(0, .ref f0), (2, .int (nI (tyN (ce pl)))), (3, .int (nI (inN (ce pl)))), (4, .int a9), (5, .int (nI k))] → W p l e ({ frames := 1, cells := 0, slots := 0, locals := 22 } : Room) s m args below meth c s.heap [] 0 0 Q (F0 m 18 ls []) := by
  have hS : va_S (fun _ => False) s.heap s.heap [] := va_S.rf
  intro fu
  induction fu with
  | zero =>
    intro k a9 h0
    exact absurd h0 (Nat.not_lt_zero _)
  | succ fu ih =>
    intro k a9 hmu hk ha9 ls hl
    have hq := hce pl hpl
    refine lv_iload hx hb d_FD_inputStrength_18 (lv_at hl 4 rfl) ?_
    refine lv_iconst (v := nI 4) hx hb d_FD_inputStrength_20 (by decide +kernel) ?_
    refine jn_icmp_ge (tgt := 61) (a := k) (b := 4) hx hb d_FD_inputStrength_21 (by decide) (by omega) (by omega) (fun c_21 => ?_) (fun c_21 => ?_)
    · skip
      exact kx0 a9 (by rw [ha9, show k = 4 by omega]) _ (lv_sub hl [3] rfl)
    · skip
      refine lv_iload_n hx hb d_FD_inputStrength_24 rfl (lv_at hl 2 rfl) ?_
      refine lv_iload hx hb d_FD_inputStrength_25 (lv_at hl 4 rfl) ?_
      refine lv_ishr hx hb d_FD_inputStrength_27 ?_
      refine lv_iconst (v := nI 1) hx hb d_FD_inputStrength_28 (by decide +kernel) ?_
      refine lv_iand hx hb d_FD_inputStrength_29 ?_
      refine lv_if_eq (tgt := 55) hx hb d_FD_inputStrength_30 (by decide) (fun c_30 => ?_) (fun c_30 => ?_)
      · skip
        refine lv_iinc (v := nI (k + 1)) (lv' := [(5, .int (nI (k + 1))), (0, .ref f0), (2, .int (nI (tyN (ce pl)))), (3, .int (nI (inN (ce pl)))), (4, .int a9)]) hx hb d_FD_inputStrength_55 hl (k := 4) rfl (jn_inc k 1) (by decide) rfl (fun ls hl => ?_)
        refine lv_goto (tgt := 18) hx hb d_FD_inputStrength_58 (by decide) ?_
        exact ih (k + 1) a9 (by omega) (by omega) (by rw [isL, ← ha9]; unfold isS; rw [if_pos c_30]) _ (lv_sub hl [1, 2, 3, 4, 0] rfl)
      · skip
        refine lv_iload hx hb d_FD_inputStrength_33 (lv_at hl 3 rfl) ?_
        refine lv_aload_n hx hb d_FD_inputStrength_35 rfl (lv_at hl 0 rfl) ?_
        refine va_get (D := D) (ci := 2) (v := .ref o1) (C := R_FD) (T := T_FD) (N := 8) hx hb hw in_FD hown hE.1 hP 0 rfl rfl 0 (by decide) (hw _ kw_95) (fun _ h9 => h9) rfl d_FD_inputStrength_36 ?_
        refine lv_aload_n hx hb d_FD_inputStrength_39 rfl (lv_at hl 0 rfl) ?_
        refine va_get (D := D) (ci := 2) (v := .ref o1) (C := R_FD) (T := T_FD) (N := 8) hx hb hw in_FD hown hE.1 hP 0 rfl rfl 0 (by decide) (hw _ kw_95) (fun _ h9 => h9) rfl d_FD_inputStrength_40 ?_
        refine lv_iload_n hx hb d_FD_inputStrength_43 rfl (lv_at hl 1 rfl) ?_
        refine lv_iload hx hb d_FD_inputStrength_44 (lv_at hl 4 rfl) ?_
        refine vp_callSi (va_Run.run (va_runV (As := [.int (nI (tyN (ce pl))), .int (nI k)]) (rest := [.ref o1, .int a9]) ⟨hx, hb, hml, hown, hw⟩ (k_TS_glueAt l D cI cJ o1 s1 s2 s3 ty wa sd (tyN (ce pl)) k (by omega)) (cwV 2 hw (gV kw_455 kw_456 kw_457 kw_41 kw_458) rfl rfl rfl (by decide +kernel) ⟨Nat.le_of_ble_eq_true rfl, Nat.le_of_ble_eq_true rfl⟩) (pre_Vp (wc := [(o1, .inr (1, [.ref s1, .ref s2, .ref s3, .int ty, .int wa])), (s2, .inl (cI, 244, .inl sd))]) (q0 := 0) hE hX hP hS [2, 4] rfl rfl rfl) rfl rfl hl.1 rfl (lv_room (Nat.le_of_ble_eq_true rfl)) d_FD_inputStrength_46 ⟨Nat.le_of_ble_eq_true rfl, Nat.le_of_ble_eq_true rfl⟩)) (fun r_1 hr_1 => ?_)
        obtain rfl : sd ((tyN (ce pl)) * 4 + k) = r_1 := hr_1.symm
        refine W.eq (g2 := F0 m 49 ls [.int (nI (nn (sd (tyN (ce pl) * 4 + k)))), .ref o1, .int a9]) (by rw [(hsd (tyN (ce pl) * 4 + k) (by omega)).1.symm]) ?_
        refine vp_callSi (va_Run.run (va_runV (As := [.int (nI (nn (sd (tyN (ce pl) * 4 + k))))]) (rest := [.int a9]) ⟨hx, hb, hml, hown, hw⟩ (k_TS_strengthOf l D cI cJ o1 s1 s2 s3 ty wa st (nn (sd (tyN (ce pl) * 4 + k))) (hsd (tyN (ce pl) * 4 + k) (by omega)).2) (cwV 1 hw (gV kw_463 kw_464 kw_465 kw_41 kw_466) rfl rfl rfl (by decide +kernel) ⟨Nat.le_of_ble_eq_true rfl, Nat.le_of_ble_eq_true rfl⟩) (pre_Vp (wc := [(o1, .inr (1, [.ref s1, .ref s2, .ref s3, .int ty, .int wa])), (s1, .inl (cI, 100, .inl st))]) (q0 := 0) hE hX hP hS [2, 3] rfl rfl rfl) rfl rfl hl.1 rfl (lv_room (Nat.le_of_ble_eq_true rfl)) d_FD_inputStrength_49 ⟨Nat.le_of_ble_eq_true rfl, Nat.le_of_ble_eq_true rfl⟩)) (fun r_2 hr_2 => ?_)
        obtain rfl : st (nn (sd (tyN (ce pl) * 4 + k))) = r_2 := hr_2.symm
        refine lv_iadd hx hb d_FD_inputStrength_52 ?_
        refine lv_istore (lv' := [(4, .int (a9 + (st (nn (sd (tyN (ce pl) * 4 + k)))))), (0, .ref f0), (2, .int (nI (tyN (ce pl)))), (3, .int (nI (inN (ce pl)))), (5, .int (nI k))]) hx hb d_FD_inputStrength_53 hl (by decide) rfl (fun ls hl => ?_)
        refine lv_iinc (v := nI (k + 1)) (lv' := [(5, .int (nI (k + 1))), (4, .int (a9 + (st (nn (sd (tyN (ce pl) * 4 + k)))))), (0, .ref f0), (2, .int (nI (tyN (ce pl)))), (3, .int (nI (inN (ce pl))))]) hx hb d_FD_inputStrength_55 hl (k := 4) rfl (jn_inc k 1) (by decide) rfl (fun ls hl => ?_)
        refine lv_goto (tgt := 18) hx hb d_FD_inputStrength_58 (by decide) ?_
        exact ih (k + 1) (a9 + st (nn (sd (tyN (ce pl) * 4 + k)))) (by omega) (by omega) (by rw [isL, ← ha9]; unfold isS; rw [if_neg c_30]) _ (lv_sub hl [2, 3, 4, 1, 0] rfl)
set_option maxHeartbeats 4000000 in
set_option maxRecDepth 100000 in
/-- inputStrength -/
theorem k_FD_inputStrength (l : Launch) (D : va_G) (cI cJ : ClassId) (f0 : Nat) (f1 : Nat) (f2 : Nat) (f3 : Nat) (f4 : Nat) (o1 : Nat) (np : Int32) (ns : Int32) (aw : Int32) (s1 : Nat) (s2 : Nat) (s3 : Nat) (ty : Int32) (wa : Int32) (st : Nat → Int32) (sd : Nat → Int32) (be : Nat → Int64) (ce : Nat → Int32) (pl : Nat) (hpl : pl < 1764) (hce : okCe ce) (hsd : okSd sd) (hst : okSt st) : Met l y_FD_inputStrength ws_FD_inputStrength ({ frames := 1, cells := 0, slots := 0, locals := 22 } : Room) (va_Pc [.ref f0, .int (nI pl)] (Pp D cI cJ [(f0, .inr (2, [.ref o1, .ref f1, .ref f2, .ref f3, .ref f4, .int np, .int ns, .int aw])), (f1, .inl (cI, 1764, .inl ce)), (o1, .inr (1, [.ref s1, .ref s2, .ref s3, .int ty, .int wa])), (s1, .inl (cI, 100, .inl st)), (s2, .inl (cI, 244, .inl sd)), (s3, .inl (cJ, 400, .inr (.inl be)))])) (vp_Si (fun r : Int32 => r = isL ce sd st pl 4)) 0 0 (fun _ => False) := by
  refine Met.ofW (cc := c_FD_inputStrength) (maxL := 6) (ret := (some .int)) (by decide) rfl ?_
  intro p e s m args below meth c s₁ B hml hv
  obtain ⟨rfl, hE, hP, hX⟩ := hv
  have hx := B.exec
  have hb := B.bytes
  have hr := B.returns
  have hw : ∀ w ∈ gw, w.before _ s = true := fun w h => atoms_spec (ws := ws_FD_inputStrength) B.pre w (List.mem_cons_of_mem _ h)
  have hown : s.vm.findClass R_FD = some m.cls := findClass_of_methodNamed B.named
  have hlocks := B.notSynchronized
  have hS : va_S (fun _ => False) s.heap s.heap [] := va_S.rf
  have hl := lv_entry ([.ref f0, .int (nI pl)]) (n := 6) (Nat.le_of_ble_eq_true rfl)
  rw [lg_entry_eq]
  generalize (lg_sl ([.ref f0, .int (nI pl)]) ++ List.replicate (6 - (lg_sl ([.ref f0, .int (nI pl)])).length) Slot.unset).toArray = ls at hl ⊢
  have hl : lv_has ls 6 [(0, .ref f0), (1, .int (nI pl))] := hl
  refine lv_aload_n hx hb d_FD_inputStrength_0 rfl (lv_at hl 0 rfl) ?_
  refine lv_iload_n hx hb d_FD_inputStrength_1 rfl (lv_at hl 1 rfl) ?_
  refine vp_callSi (va_Run.run (va_runV (As := [.int (nI pl)]) (rest := []) ⟨hx, hb, hml, hown, hw⟩ (k_FD_typeAt l D cI cJ f0 f1 f2 f3 f4 o1 np ns aw ce pl (by omega)) (cwV 1 hw (gV kw_437 kw_422 kw_423 kw_42 kw_424) rfl rfl rfl (by decide +kernel) ⟨Nat.le_of_ble_eq_true rfl, Nat.le_of_ble_eq_true rfl⟩) (pre_Vp (wc := [(f0, .inr (2, [.ref o1, .ref f1, .ref f2, .ref f3, .ref f4, .int np, .int ns, .int aw])), (f1, .inl (cI, 1764, .inl ce))]) (q0 := 0) hE hX hP hS [0, 1] rfl rfl rfl) rfl rfl hl.1 rfl (lv_room (Nat.le_of_ble_eq_true rfl)) d_FD_inputStrength_2 ⟨Nat.le_of_ble_eq_true rfl, Nat.le_of_ble_eq_true rfl⟩)) (fun r_1 hr_1 => ?_)
  obtain rfl : nI (tyN (ce pl)) = r_1 := hr_1.symm
  refine lv_istore_n (lv' := [(2, .int (nI (tyN (ce pl)))), (0, .ref f0), (1, .int (nI pl))]) hx hb d_FD_inputStrength_5 rfl hl (by decide) rfl (fun ls hl => ?_)
  refine lv_aload_n hx hb d_FD_inputStrength_6 rfl (lv_at hl 1 rfl) ?_
  refine lv_iload_n hx hb d_FD_inputStrength_7 rfl (lv_at hl 2 rfl) ?_
  refine vp_callSi (va_Run.run (va_runV (As := [.int (nI pl)]) (rest := []) ⟨hx, hb, hml, hown, hw⟩ (k_FD_inputsAt l D cI cJ f0 f1 f2 f3 f4 o1 np ns aw ce pl (by omega)) (cwV 1 hw (gV kw_594 kw_587 kw_588 kw_42 kw_589) rfl rfl rfl (by decide +kernel) ⟨Nat.le_of_ble_eq_true rfl, Nat.le_of_ble_eq_true rfl⟩) (pre_Vp (wc := [(f0, .inr (2, [.ref o1, .ref f1, .ref f2, .ref f3, .ref f4, .int np, .int ns, .int aw])), (f1, .inl (cI, 1764, .inl ce))]) (q0 := 0) hE hX hP hS [0, 1] rfl rfl rfl) rfl rfl hl.1 rfl (lv_room (Nat.le_of_ble_eq_true rfl)) d_FD_inputStrength_8 ⟨Nat.le_of_ble_eq_true rfl, Nat.le_of_ble_eq_true rfl⟩)) (fun r_2 hr_2 => ?_)
  obtain rfl : nI (inN (ce pl)) = r_2 := hr_2.symm
  refine lv_istore_n (lv' := [(3, .int (nI (inN (ce pl)))), (2, .int (nI (tyN (ce pl)))), (0, .ref f0), (1, .int (nI pl))]) hx hb d_FD_inputStrength_11 rfl hl (by decide) rfl (fun ls hl => ?_)
  refine lv_iconst (v := nI 0) hx hb d_FD_inputStrength_12 (by decide +kernel) ?_
  refine lv_istore (lv' := [(4, .int (nI 0)), (3, .int (nI (inN (ce pl)))), (2, .int (nI (tyN (ce pl)))), (0, .ref f0), (1, .int (nI pl))]) hx hb d_FD_inputStrength_13 hl (by decide) rfl (fun ls hl => ?_)
  refine lv_iconst (v := nI 0) hx hb d_FD_inputStrength_15 (by decide +kernel) ?_
  refine lv_istore (lv' := [(5, .int (nI 0)), (4, .int (nI 0)), (3, .int (nI (inN (ce pl)))), (2, .int (nI (tyN (ce pl)))), (0, .ref f0), (1, .int (nI pl))]) hx hb d_FD_inputStrength_16 hl (by decide) rfl (fun ls hl => ?_)
  refine lp_k_FD_inputStrength_18 f0 f1 f2 f3 f4 o1 np ns aw s1 s2 s3 ty wa st sd be ce pl hpl hce hsd hst hx hb hml hown hw hE hX hP (fun a9 ha9 ls hl => ?_) ((4 - 0) + 1) 0 (nI 0) (Nat.lt_succ_self _) (Nat.zero_le _) rfl _ (lv_sub hl [4, 3, 2, 1, 0] rfl)
  refine lv_iload hx hb d_FD_inputStrength_61 (lv_at hl 0 rfl) ?_
  exact W.iret (v := a9) hx hb hr (fun t9 ht hW => ⟨_, rfl, ha9, ht⟩) (fun q h => by cases h) d_FD_inputStrength_63
set_option maxHeartbeats 4000000 in
set_option maxRecDepth 100000 in
/-- join -/
theorem k_FD_join (l : Launch) (D : va_G) (cI cJ : ClassId) (f0 : Nat) (f1 : Nat) (f2 : Nat) (f3 : Nat) (f4 : Nat) (o1 : Nat) (np : Int32) (ns : Int32) (aw : Int32) (s1 : Nat) (s2 : Nat) (s3 : Nat) (ty : Int32) (wa : Int32) (st : Nat → Int32) (sd : Nat → Int32) (be : Nat → Int64) (ce : Nat → Int32) (oq : Nat → Int64) (rp : Nat → Int32) (pl : Nat) (tl : Nat → Int32) (t : Nat) (sz : Nat) (hp1 : 43 ≤ pl) (hp2 : pl ≤ 1720) (hce : okCe ce) (hsd : okSd sd) (hst : okSt st) (ht : t ≤ 60) : Met l y_FD_join ws_FD_join ({ frames := 4, cells := 0, slots := 0, locals := 104 } : Room) (va_Pc [.ref f0, .int (nI pl), .int (nI t)] (Pw D cI cJ [(f0, .inr (2, [.ref o1, .ref f1, .ref f2, .ref f3, .ref f4, .int np, .int ns, .int aw])), (f1, .inl (cI, 1764, .inl ce)), (f2, .inl (cJ, 1764, .inr (.inl oq))), (f3, .inl (cI, 42, .inl rp)), (f4, .inl (cI, 61, .inl tl)), (o1, .inr (1, [.ref s1, .ref s2, .ref s3, .int ty, .int wa])), (s1, .inl (cI, 100, .inl st)), (s2, .inl (cI, 244, .inl sd)), (s3, .inl (cJ, 400, .inr (.inl be)))] sz)) (va_Qv (fun (_u : Unit) => True) (fun _u t9 => Bw D (va_A [(f0, .inr (2, [.ref o1, .ref f1, .ref f2, .ref f3, .ref f4, .int np, .int ns, .int aw])), (f1, .inl (cI, 1764, .inl ce)), (f2, .inl (cJ, 1764, .inr (.inl oq))), (f3, .inl (cI, 42, .inl rp)), (f4, .inl (cI, 61, .inl tl)), (o1, .inr (1, [.ref s1, .ref s2, .ref s3, .int ty, .int wa])), (s1, .inl (cI, 100, .inl st)), (s2, .inl (cI, 244, .inl sd)), (s3, .inl (cJ, 400, .inr (.inl be)))] sz) [(f0, .inr (2, [.ref o1, .ref f1, .ref f2, .ref f3, .ref f4, .int ((raL (upd ce pl (nI t ||| ((ifL ce sd st pl t 4) <<< (nI 6 &&& 31)))) sd st be wa pl (oq, rp, np) 5).2.2), .int (nsP ns (nI t ||| ((ifL ce sd st pl t 4) <<< (nI 6 &&& 31)))), .int (nI 1)])), (f1, .inl (cI, 1764, .inl (upd ce pl (nI t ||| ((ifL ce sd st pl t 4) <<< (nI 6 &&& 31)))))), (f2, .inl (cJ, 1764, .inr (.inl ((raL (upd ce pl (nI t ||| ((ifL ce sd st pl t 4) <<< (nI 6 &&& 31)))) sd st be wa pl (oq, rp, np) 5).1)))), (f3, .inl (cI, 42, .inl ((raL (upd ce pl (nI t ||| ((ifL ce sd st pl t 4) <<< (nI 6 &&& 31)))) sd st be wa pl (oq, rp, np) 5).2.1))), (f4, .inl (cI, 61, .inl (tlP tl (nI t ||| ((ifL ce sd st pl t 4) <<< (nI 6 &&& 31)))))), (o1, .inr (1, [.ref s1, .ref s2, .ref s3, .int ty, .int wa])), (s1, .inl (cI, 100, .inl st)), (s2, .inl (cI, 244, .inl sd)), (s3, .inl (cJ, 400, .inr (.inl be)))] t9) (va_A [(f0, .inr (2, [.ref o1, .ref f1, .ref f2, .ref f3, .ref f4, .int np, .int ns, .int aw])), (f1, .inl (cI, 1764, .inl ce)), (f2, .inl (cJ, 1764, .inr (.inl oq))), (f3, .inl (cI, 42, .inl rp)), (f4, .inl (cI, 61, .inl tl)), (o1, .inr (1, [.ref s1, .ref s2, .ref s3, .int ty, .int wa])), (s1, .inl (cI, 100, .inl st)), (s2, .inl (cI, 244, .inl sd)), (s3, .inl (cJ, 400, .inr (.inl be)))] sz)) 0 0 (va_A [(f0, .inr (2, [.ref o1, .ref f1, .ref f2, .ref f3, .ref f4, .int np, .int ns, .int aw])), (f1, .inl (cI, 1764, .inl ce)), (f2, .inl (cJ, 1764, .inr (.inl oq))), (f3, .inl (cI, 42, .inl rp)), (f4, .inl (cI, 61, .inl tl)), (o1, .inr (1, [.ref s1, .ref s2, .ref s3, .int ty, .int wa])), (s1, .inl (cI, 100, .inl st)), (s2, .inl (cI, 244, .inl sd)), (s3, .inl (cJ, 400, .inr (.inl be)))] sz) := by
  refine Met.ofW (cc := c_FD_join) (maxL := 3) (ret := none) (by decide) rfl ?_
  intro p e s m args below meth c s₁ B hml hv
  obtain ⟨rfl, hsz, hE, hP, hD0, hX⟩ := hv
  have hx := B.exec
  have hb := B.bytes
  have hr := B.returns
  have hw : ∀ w ∈ gw, w.before _ s = true := fun w h => atoms_spec (ws := ws_FD_join) B.pre w (List.mem_cons_of_mem _ h)
  have hown : s.vm.findClass R_FD = some m.cls := findClass_of_methodNamed B.named
  have hlocks := B.notSynchronized
  subst hsz
  have hD := hD0.self (sz := s.heap.size)
  generalize hAe : va_A [(f0, .inr (2, [.ref o1, .ref f1, .ref f2, .ref f3, .ref f4, .int np, .int ns, .int aw])), (f1, .inl (cI, 1764, .inl ce)), (f2, .inl (cJ, 1764, .inr (.inl oq))), (f3, .inl (cI, 42, .inl rp)), (f4, .inl (cI, 61, .inl tl)), (o1, .inr (1, [.ref s1, .ref s2, .ref s3, .int ty, .int wa])), (s1, .inl (cI, 100, .inl st)), (s2, .inl (cI, 244, .inl sd)), (s3, .inl (cJ, 400, .inr (.inl be)))] s.heap.size = A at hD hX ⊢
  have hA : ∀ q : Nat, s.heap.size ≤ q → A q := fun q h => by rw [← hAe]; exact Or.inr h
  have hS : va_S A s.heap s.heap [] := va_S.rf
  have hP : va_P D vwCl [(f0, .inr (2, [.ref o1, .ref f1, .ref f2, .ref f3, .ref f4, .int np, .int ns, .int aw])), (f1, .inl (cI, 1764, .inl ce)), (f2, .inl (cJ, 1764, .inr (.inl oq))), (f3, .inl (cI, 42, .inl rp)), (f4, .inl (cI, 61, .inl tl)), (o1, .inr (1, [.ref s1, .ref s2, .ref s3, .int ty, .int wa])), (s1, .inl (cI, 100, .inl st)), (s2, .inl (cI, 244, .inl sd)), (s3, .inl (cJ, 400, .inr (.inl be)))] s.heap := hP
  have hl := lv_entry ([.ref f0, .int (nI pl), .int (nI t)]) (n := 3) (Nat.le_of_ble_eq_true rfl)
  rw [lg_entry_eq]
  generalize (lg_sl ([.ref f0, .int (nI pl), .int (nI t)]) ++ List.replicate (3 - (lg_sl ([.ref f0, .int (nI pl), .int (nI t)])).length) Slot.unset).toArray = ls at hl ⊢
  have hl : lv_has ls 3 [(0, .ref f0), (1, .int (nI pl)), (2, .int (nI t))] := hl
  refine lv_aload_n hx hb d_FD_join_0 rfl (lv_at hl 0 rfl) ?_
  refine lv_iconst (v := nI 1) hx hb d_FD_join_1 (by decide +kernel) ?_
  refine va_put (D := D) (ci := 2) (v := .int (nI 1)) (ty := .boolean) (C := R_FD) (T := T_FD) (N := 8) hx hb hw in_FD ty_FD ty_FD_ok nm_FD_ok hown hE.1 hP hD hS 0 rfl rfl 7 (by decide) (hw _ kw_102) (fun _ h9 => h9) rfl (by decide +kernel) (by decide +kernel) (by decide +kernel) (Nat.le_of_ble_eq_true rfl) d_FD_join_2 (fun H locs hP hD hS => ?_)
  have hP : va_P D vwCl [(f0, .inr (2, [.ref o1, .ref f1, .ref f2, .ref f3, .ref f4, .int np, .int ns, .int (nI 1)])), (f1, .inl (cI, 1764, .inl ce)), (f2, .inl (cJ, 1764, .inr (.inl oq))), (f3, .inl (cI, 42, .inl rp)), (f4, .inl (cI, 61, .inl tl)), (o1, .inr (1, [.ref s1, .ref s2, .ref s3, .int ty, .int wa])), (s1, .inl (cI, 100, .inl st)), (s2, .inl (cI, 244, .inl sd)), (s3, .inl (cJ, 400, .inr (.inl be)))] H := hP
  have hD : va_D A [(f0, .inr (2, [.ref o1, .ref f1, .ref f2, .ref f3, .ref f4, .int np, .int ns, .int (nI 1)])), (f1, .inl (cI, 1764, .inl ce)), (f2, .inl (cJ, 1764, .inr (.inl oq))), (f3, .inl (cI, 42, .inl rp)), (f4, .inl (cI, 61, .inl tl)), (o1, .inr (1, [.ref s1, .ref s2, .ref s3, .int ty, .int wa])), (s1, .inl (cI, 100, .inl st)), (s2, .inl (cI, 244, .inl sd)), (s3, .inl (cJ, 400, .inr (.inl be)))] := hD
  refine lv_aload_n hx hb d_FD_join_5 rfl (lv_at hl 0 rfl) ?_
  refine lv_iload_n hx hb d_FD_join_6 rfl (lv_at hl 1 rfl) ?_
  refine lv_iload_n hx hb d_FD_join_7 rfl (lv_at hl 2 rfl) ?_
  refine lv_aload_n hx hb d_FD_join_8 rfl (lv_at hl 0 rfl) ?_
  refine lv_iload_n hx hb d_FD_join_9 rfl (lv_at hl 1 rfl) ?_
  refine lv_iload_n hx hb d_FD_join_10 rfl (lv_at hl 2 rfl) ?_
  refine vp_callSi (va_Run.run (va_runV (As := [.int (nI pl), .int (nI t)]) (rest := [.int (nI t), .int (nI pl), .ref f0]) ⟨hx, hb, hml, hown, hw⟩ (k_FD_inputsFor l D cI cJ f0 f1 f2 f3 f4 o1 np ns (nI 1) s1 s2 s3 ty wa st sd be ce pl t hp1 hp2 hce hsd hst ht) (cwV 2 hw (gV kw_496 kw_498 kw_6 kw_42 kw_499) rfl rfl rfl (by decide +kernel) ⟨Nat.le_of_ble_eq_true rfl, Nat.le_of_ble_eq_true rfl⟩) (pre_Vp (wc := [(f0, .inr (2, [.ref o1, .ref f1, .ref f2, .ref f3, .ref f4, .int np, .int ns, .int (nI 1)])), (f1, .inl (cI, 1764, .inl ce)), (o1, .inr (1, [.ref s1, .ref s2, .ref s3, .int ty, .int wa])), (s1, .inl (cI, 100, .inl st)), (s2, .inl (cI, 244, .inl sd)), (s3, .inl (cJ, 400, .inr (.inl be)))]) (q0 := 0) hE hX hP hS [0, 1, 5, 6, 7, 8] rfl rfl rfl) rfl rfl hl.1 rfl (lv_room (Nat.le_of_ble_eq_true rfl)) d_FD_join_11 ⟨Nat.le_of_ble_eq_true rfl, Nat.le_of_ble_eq_true rfl⟩)) (fun r_1 hr_1 => ?_)
  obtain rfl : ifL ce sd st pl t 4 = r_1 := hr_1.symm
  refine lv_bipush (v := nI 6) hx hb d_FD_join_14 (by decide +kernel) ?_
  refine lv_ishl hx hb d_FD_join_16 ?_
  refine lv_ior hx hb d_FD_join_17 ?_
  refine cl_v (wr := []) (va_runV (As := [.int (nI pl), .int ((nI t) ||| ((ifL ce sd st pl t 4) <<< ((nI 6) &&& 31)))]) (rest := []) ⟨hx, hb, hml, hown, hw⟩ (k_FD_put l D cI cJ f0 f1 f2 f3 f4 o1 np ns (nI 1) s1 s2 s3 ty wa st sd be ce oq rp pl tl ((nI t) ||| ((ifL ce sd st pl t 4) <<< ((nI 6) &&& 31))) _ hp1 hp2 hce hsd hst (by rw [tyN_or (by omega)]; exact ht)) (cwV 2 hw (gV kw_504 kw_434 kw_435 kw_42 kw_436) rfl rfl rfl (by decide +kernel) ⟨Nat.le_of_ble_eq_true rfl, Nat.le_of_ble_eq_true rfl⟩) (pre_Vw (wc := [(f0, .inr (2, [.ref o1, .ref f1, .ref f2, .ref f3, .ref f4, .int np, .int ns, .int (nI 1)])), (f1, .inl (cI, 1764, .inl ce)), (f2, .inl (cJ, 1764, .inr (.inl oq))), (f3, .inl (cI, 42, .inl rp)), (f4, .inl (cI, 61, .inl tl)), (o1, .inr (1, [.ref s1, .ref s2, .ref s3, .int ty, .int wa])), (s1, .inl (cI, 100, .inl st)), (s2, .inl (cI, 244, .inl sd)), (s3, .inl (cJ, 400, .inr (.inl be)))]) (q0 := 0) hE hX hA hP hD hS [0, 1, 2, 3, 4, 5, 6, 7, 8] (by decide) rfl rfl rfl rfl) rfl rfl hl.1 rfl (lv_room (Nat.le_of_ble_eq_true rfl)) d_FD_join_18 ⟨Nat.le_of_ble_eq_true rfl, Nat.le_of_ble_eq_true rfl⟩) hP hD hS hA [0, 1, 2, 3, 4, 5, 6, 7, 8] [] rfl rfl (by decide) (by decide) (fun u_r_2 H locs hr_2 hP hD hS => ?_)
  have hP : va_P D vwCl [(f0, .inr (2, [.ref o1, .ref f1, .ref f2, .ref f3, .ref f4, .int ((raL (upd ce pl ((nI t) ||| ((ifL ce sd st pl t 4) <<< ((nI 6) &&& 31)))) sd st be wa pl (oq, rp, np) 5).2.2), .int (nsP ns ((nI t) ||| ((ifL ce sd st pl t 4) <<< ((nI 6) &&& 31)))), .int (nI 1)])), (f1, .inl (cI, 1764, .inl (upd ce pl ((nI t) ||| ((ifL ce sd st pl t 4) <<< ((nI 6) &&& 31)))))), (f2, .inl (cJ, 1764, .inr (.inl ((raL (upd ce pl ((nI t) ||| ((ifL ce sd st pl t 4) <<< ((nI 6) &&& 31)))) sd st be wa pl (oq, rp, np) 5).1)))), (f3, .inl (cI, 42, .inl ((raL (upd ce pl ((nI t) ||| ((ifL ce sd st pl t 4) <<< ((nI 6) &&& 31)))) sd st be wa pl (oq, rp, np) 5).2.1))), (f4, .inl (cI, 61, .inl (tlP tl ((nI t) ||| ((ifL ce sd st pl t 4) <<< ((nI 6) &&& 31)))))), (o1, .inr (1, [.ref s1, .ref s2, .ref s3, .int ty, .int wa])), (s1, .inl (cI, 100, .inl st)), (s2, .inl (cI, 244, .inl sd)), (s3, .inl (cJ, 400, .inr (.inl be)))] H := hP
  have hD : va_D A [(f0, .inr (2, [.ref o1, .ref f1, .ref f2, .ref f3, .ref f4, .int ((raL (upd ce pl ((nI t) ||| ((ifL ce sd st pl t 4) <<< ((nI 6) &&& 31)))) sd st be wa pl (oq, rp, np) 5).2.2), .int (nsP ns ((nI t) ||| ((ifL ce sd st pl t 4) <<< ((nI 6) &&& 31)))), .int (nI 1)])), (f1, .inl (cI, 1764, .inl (upd ce pl ((nI t) ||| ((ifL ce sd st pl t 4) <<< ((nI 6) &&& 31)))))), (f2, .inl (cJ, 1764, .inr (.inl ((raL (upd ce pl ((nI t) ||| ((ifL ce sd st pl t 4) <<< ((nI 6) &&& 31)))) sd st be wa pl (oq, rp, np) 5).1)))), (f3, .inl (cI, 42, .inl ((raL (upd ce pl ((nI t) ||| ((ifL ce sd st pl t 4) <<< ((nI 6) &&& 31)))) sd st be wa pl (oq, rp, np) 5).2.1))), (f4, .inl (cI, 61, .inl (tlP tl ((nI t) ||| ((ifL ce sd st pl t 4) <<< ((nI 6) &&& 31)))))), (o1, .inr (1, [.ref s1, .ref s2, .ref s3, .int ty, .int wa])), (s1, .inl (cI, 100, .inl st)), (s2, .inl (cI, 244, .inl sd)), (s3, .inl (cJ, 400, .inr (.inl be)))] := hD
  have hP9 := hP.sub (ws' := [(f0, .inr (2, [.ref o1, .ref f1, .ref f2, .ref f3, .ref f4, .int ((raL (upd ce pl ((nI t) ||| ((ifL ce sd st pl t 4) <<< ((nI 6) &&& 31)))) sd st be wa pl (oq, rp, np) 5).2.2), .int (nsP ns ((nI t) ||| ((ifL ce sd st pl t 4) <<< ((nI 6) &&& 31)))), .int (nI 1)])), (f1, .inl (cI, 1764, .inl (upd ce pl ((nI t) ||| ((ifL ce sd st pl t 4) <<< ((nI 6) &&& 31)))))), (f2, .inl (cJ, 1764, .inr (.inl ((raL (upd ce pl ((nI t) ||| ((ifL ce sd st pl t 4) <<< ((nI 6) &&& 31)))) sd st be wa pl (oq, rp, np) 5).1)))), (f3, .inl (cI, 42, .inl ((raL (upd ce pl ((nI t) ||| ((ifL ce sd st pl t 4) <<< ((nI 6) &&& 31)))) sd st be wa pl (oq, rp, np) 5).2.1))), (f4, .inl (cI, 61, .inl (tlP tl ((nI t) ||| ((ifL ce sd st pl t 4) <<< ((nI 6) &&& 31)))))), (o1, .inr (1, [.ref s1, .ref s2, .ref s3, .int ty, .int wa])), (s1, .inl (cI, 100, .inl st)), (s2, .inl (cI, 244, .inl sd)), (s3, .inl (cJ, 400, .inr (.inl be)))]) [0, 1, 2, 3, 4, 5, 6, 7, 8] rfl
  have hD9 := hD.sub (ws' := [(f0, .inr (2, [.ref o1, .ref f1, .ref f2, .ref f3, .ref f4, .int ((raL (upd ce pl ((nI t) ||| ((ifL ce sd st pl t 4) <<< ((nI 6) &&& 31)))) sd st be wa pl (oq, rp, np) 5).2.2), .int (nsP ns ((nI t) ||| ((ifL ce sd st pl t 4) <<< ((nI 6) &&& 31)))), .int (nI 1)])), (f1, .inl (cI, 1764, .inl (upd ce pl ((nI t) ||| ((ifL ce sd st pl t 4) <<< ((nI 6) &&& 31)))))), (f2, .inl (cJ, 1764, .inr (.inl ((raL (upd ce pl ((nI t) ||| ((ifL ce sd st pl t 4) <<< ((nI 6) &&& 31)))) sd st be wa pl (oq, rp, np) 5).1)))), (f3, .inl (cI, 42, .inl ((raL (upd ce pl ((nI t) ||| ((ifL ce sd st pl t 4) <<< ((nI 6) &&& 31)))) sd st be wa pl (oq, rp, np) 5).2.1))), (f4, .inl (cI, 61, .inl (tlP tl ((nI t) ||| ((ifL ce sd st pl t 4) <<< ((nI 6) &&& 31)))))), (o1, .inr (1, [.ref s1, .ref s2, .ref s3, .int ty, .int wa])), (s1, .inl (cI, 100, .inl st)), (s2, .inl (cI, 244, .inl sd)), (s3, .inl (cJ, 400, .inr (.inl be)))]) [0, 1, 2, 3, 4, 5, 6, 7, 8] (by decide) rfl
  exact W.vret hx hb hr (fun t9 ht hW => ⟨⟨(), rfl, trivial, ⟨by rw [ht]; exact hP9, hD9⟩⟩, hS.F ht⟩) hS.2.2 d_FD_join_21
def nsT (ns x : Int32) : Int32 := if sdN x = 0 then ns else ns - nI 1
def tlT (tl : Nat → Int32) (y : Nat) : Nat → Int32 := upd (upd tl 0 (tl 0 - nI 1)) y (upd tl 0 (tl 0 - nI 1) y - nI 1)
def awT (aw : Int32) (tl : Nat → Int32) : Int32 := if tl 0 = 0 then nI 0 else aw
theorem tyN_0 : tyN (nI 0) = 0 := by decide +kernel
set_option maxHeartbeats 4000000 in
set_option maxRecDepth 100000 in
/-- take -/
theorem k_FD_take (l : Launch) (D : va_G) (cI cJ : ClassId) (f0 : Nat) (f1 : Nat) (f2 : Nat) (f3 : Nat) (f4 : Nat) (o1 : Nat) (np : Int32) (ns : Int32) (aw : Int32) (s1 : Nat) (s2 : Nat) (s3 : Nat) (ty : Int32) (wa : Int32) (st : Nat → Int32) (sd : Nat → Int32) (be : Nat → Int64) (ce : Nat → Int32) (oq : Nat → Int64) (rp : Nat → Int32) (pl : Nat) (tl : Nat → Int32) (sz : Nat) (hp1 : 43 ≤ pl) (hp2 : pl ≤ 1720) (hce : okCe ce) (hsd : okSd sd) (hst : okSt st) : Met l y_FD_take ws_FD_take ({ frames := 3, cells := 0, slots := 0, locals := 82 } : Room) (va_Pc [.ref f0, .int (nI pl)] (Pw D cI cJ [(f0, .inr (2, [.ref o1, .ref f1, .ref f2, .ref f3, .ref f4, .int np, .int ns, .int aw])), (f1, .inl (cI, 1764, .inl ce)), (f2, .inl (cJ, 1764, .inr (.inl oq))), (f3, .inl (cI, 42, .inl rp)), (f4, .inl (cI, 61, .inl tl)), (o1, .inr (1, [.ref s1, .ref s2, .ref s3, .int ty, .int wa])), (s1, .inl (cI, 100, .inl st)), (s2, .inl (cI, 244, .inl sd)), (s3, .inl (cJ, 400, .inr (.inl be)))] sz)) (va_Qv (fun (_u : Unit) => True) (fun _u t9 => Bw D (va_A [(f0, .inr (2, [.ref o1, .ref f1, .ref f2, .ref f3, .ref f4, .int np, .int ns, .int aw])), (f1, .inl (cI, 1764, .inl ce)), (f2, .inl (cJ, 1764, .inr (.inl oq))), (f3, .inl (cI, 42, .inl rp)), (f4, .inl (cI, 61, .inl tl)), (o1, .inr (1, [.ref s1, .ref s2, .ref s3, .int ty, .int wa])), (s1, .inl (cI, 100, .inl st)), (s2, .inl (cI, 244, .inl sd)), (s3, .inl (cJ, 400, .inr (.inl be)))] sz) [(f0, .inr (2, [.ref o1, .ref f1, .ref f2, .ref f3, .ref f4, .int ((raL (upd ce pl (nI 0)) sd st be wa pl (oq, rp, np) 5).2.2), .int (nsT ns (ce pl)), .int (awT aw (tlT tl (tyN (ce pl))))])), (f1, .inl (cI, 1764, .inl (upd ce pl (nI 0)))), (f2, .inl (cJ, 1764, .inr (.inl ((raL (upd ce pl (nI 0)) sd st be wa pl (oq, rp, np) 5).1)))), (f3, .inl (cI, 42, .inl ((raL (upd ce pl (nI 0)) sd st be wa pl (oq, rp, np) 5).2.1))), (f4, .inl (cI, 61, .inl (tlT tl (tyN (ce pl))))), (o1, .inr (1, [.ref s1, .ref s2, .ref s3, .int ty, .int wa])), (s1, .inl (cI, 100, .inl st)), (s2, .inl (cI, 244, .inl sd)), (s3, .inl (cJ, 400, .inr (.inl be)))] t9) (va_A [(f0, .inr (2, [.ref o1, .ref f1, .ref f2, .ref f3, .ref f4, .int np, .int ns, .int aw])), (f1, .inl (cI, 1764, .inl ce)), (f2, .inl (cJ, 1764, .inr (.inl oq))), (f3, .inl (cI, 42, .inl rp)), (f4, .inl (cI, 61, .inl tl)), (o1, .inr (1, [.ref s1, .ref s2, .ref s3, .int ty, .int wa])), (s1, .inl (cI, 100, .inl st)), (s2, .inl (cI, 244, .inl sd)), (s3, .inl (cJ, 400, .inr (.inl be)))] sz)) 0 0 (va_A [(f0, .inr (2, [.ref o1, .ref f1, .ref f2, .ref f3, .ref f4, .int np, .int ns, .int aw])), (f1, .inl (cI, 1764, .inl ce)), (f2, .inl (cJ, 1764, .inr (.inl oq))), (f3, .inl (cI, 42, .inl rp)), (f4, .inl (cI, 61, .inl tl)), (o1, .inr (1, [.ref s1, .ref s2, .ref s3, .int ty, .int wa])), (s1, .inl (cI, 100, .inl st)), (s2, .inl (cI, 244, .inl sd)), (s3, .inl (cJ, 400, .inr (.inl be)))] sz) := by
  refine Met.ofW (cc := c_FD_take) (maxL := 2) (ret := none) (by decide) rfl ?_
  intro p e s m args below meth c s₁ B hml hv
  obtain ⟨rfl, hsz, hE, hP, hD0, hX⟩ := hv
  have hx := B.exec
  have hb := B.bytes
  have hr := B.returns
  have hw : ∀ w ∈ gw, w.before _ s = true := fun w h => atoms_spec (ws := ws_FD_take) B.pre w (List.mem_cons_of_mem _ h)
  have hown : s.vm.findClass R_FD = some m.cls := findClass_of_methodNamed B.named
  have hlocks := B.notSynchronized
  subst hsz
  have hD := hD0.self (sz := s.heap.size)
  generalize hAe : va_A [(f0, .inr (2, [.ref o1, .ref f1, .ref f2, .ref f3, .ref f4, .int np, .int ns, .int aw])), (f1, .inl (cI, 1764, .inl ce)), (f2, .inl (cJ, 1764, .inr (.inl oq))), (f3, .inl (cI, 42, .inl rp)), (f4, .inl (cI, 61, .inl tl)), (o1, .inr (1, [.ref s1, .ref s2, .ref s3, .int ty, .int wa])), (s1, .inl (cI, 100, .inl st)), (s2, .inl (cI, 244, .inl sd)), (s3, .inl (cJ, 400, .inr (.inl be)))] s.heap.size = A at hD hX ⊢
  have hA : ∀ q : Nat, s.heap.size ≤ q → A q := fun q h => by rw [← hAe]; exact Or.inr h
  have hS : va_S A s.heap s.heap [] := va_S.rf
  have hP : va_P D vwCl [(f0, .inr (2, [.ref o1, .ref f1, .ref f2, .ref f3, .ref f4, .int np, .int ns, .int aw])), (f1, .inl (cI, 1764, .inl ce)), (f2, .inl (cJ, 1764, .inr (.inl oq))), (f3, .inl (cI, 42, .inl rp)), (f4, .inl (cI, 61, .inl tl)), (o1, .inr (1, [.ref s1, .ref s2, .ref s3, .int ty, .int wa])), (s1, .inl (cI, 100, .inl st)), (s2, .inl (cI, 244, .inl sd)), (s3, .inl (cJ, 400, .inr (.inl be)))] s.heap := hP
  have hl := lv_entry ([.ref f0, .int (nI pl)]) (n := 2) (Nat.le_of_ble_eq_true rfl)
  rw [lg_entry_eq]
  generalize (lg_sl ([.ref f0, .int (nI pl)]) ++ List.replicate (2 - (lg_sl ([.ref f0, .int (nI pl)])).length) Slot.unset).toArray = ls at hl ⊢
  have hl : lv_has ls 2 [(0, .ref f0), (1, .int (nI pl))] := hl
  refine lv_aload_n hx hb d_FD_take_0 rfl (lv_at hl 0 rfl) ?_
  refine lv_iload_n hx hb d_FD_take_1 rfl (lv_at hl 1 rfl) ?_
  refine vp_callSi (va_Run.run (va_runV (As := [.int (nI pl)]) (rest := []) ⟨hx, hb, hml, hown, hw⟩ (k_FD_isSeed l D cI cJ f0 f1 f2 f3 f4 o1 np ns aw ce pl (by omega)) (cwV 1 hw (gV kw_438 kw_439 kw_440 kw_42 kw_441) rfl rfl rfl (by decide +kernel) ⟨Nat.le_of_ble_eq_true rfl, Nat.le_of_ble_eq_true rfl⟩) (pre_Vp (wc := [(f0, .inr (2, [.ref o1, .ref f1, .ref f2, .ref f3, .ref f4, .int np, .int ns, .int aw])), (f1, .inl (cI, 1764, .inl ce))]) (q0 := 0) hE hX hP hS [0, 1] rfl rfl rfl) rfl rfl hl.1 rfl (lv_room (Nat.le_of_ble_eq_true rfl)) d_FD_take_2 ⟨Nat.le_of_ble_eq_true rfl, Nat.le_of_ble_eq_true rfl⟩)) (fun r_1 hr_1 => ?_)
  obtain rfl : nI (sdN (ce pl)) = r_1 := hr_1.symm
  refine jn_if_eq (tgt := 18) (a := (sdN (ce pl))) hx hb d_FD_take_5 (by decide) (by have := sdN_le (ce pl); omega) (fun c_5 => ?_) (fun c_5 => ?_)
  · skip
    refine lv_aload_n hx hb d_FD_take_18 rfl (lv_at hl 0 rfl) ?_
    refine va_get (D := D) (ci := 2) (v := .ref f4) (C := R_FD) (T := T_FD) (N := 8) hx hb hw in_FD hown hE.1 hP 0 rfl rfl 4 (by decide) (hw _ kw_99) (fun _ h9 => h9) rfl d_FD_take_19 ?_
    refine lv_iconst (v := nI 0) hx hb d_FD_take_22 (by decide +kernel) ?_
    refine lv_dup2_11 hx hb d_FD_take_23 rfl rfl ?_
    refine jn_iald (k := 0) hx hb hE.1 hP 4 0 rfl rfl (by omega) (by omega) d_FD_take_24 ?_
    refine lv_iconst (v := nI 1) hx hb d_FD_take_25 (by decide +kernel) ?_
    refine lv_isub hx hb d_FD_take_26 ?_
    refine jn_iast (k := 0) hx hb hE.1 hP hD hS 4 0 rfl rfl (by omega) (by omega) d_FD_take_27 (fun H locs hP hD hS => ?_)
    have hP : va_P D vwCl [(f0, .inr (2, [.ref o1, .ref f1, .ref f2, .ref f3, .ref f4, .int np, .int ns, .int aw])), (f1, .inl (cI, 1764, .inl ce)), (f2, .inl (cJ, 1764, .inr (.inl oq))), (f3, .inl (cI, 42, .inl rp)), (f4, .inl (cI, 61, .inl (upd tl 0 ((tl 0) - (nI 1))))), (o1, .inr (1, [.ref s1, .ref s2, .ref s3, .int ty, .int wa])), (s1, .inl (cI, 100, .inl st)), (s2, .inl (cI, 244, .inl sd)), (s3, .inl (cJ, 400, .inr (.inl be)))] H := hP
    have hD : va_D A [(f0, .inr (2, [.ref o1, .ref f1, .ref f2, .ref f3, .ref f4, .int np, .int ns, .int aw])), (f1, .inl (cI, 1764, .inl ce)), (f2, .inl (cJ, 1764, .inr (.inl oq))), (f3, .inl (cI, 42, .inl rp)), (f4, .inl (cI, 61, .inl (upd tl 0 ((tl 0) - (nI 1))))), (o1, .inr (1, [.ref s1, .ref s2, .ref s3, .int ty, .int wa])), (s1, .inl (cI, 100, .inl st)), (s2, .inl (cI, 244, .inl sd)), (s3, .inl (cJ, 400, .inr (.inl be)))] := hD
    refine lv_aload_n hx hb d_FD_take_28 rfl (lv_at hl 0 rfl) ?_
    refine va_get (D := D) (ci := 2) (v := .ref f4) (C := R_FD) (T := T_FD) (N := 8) hx hb hw in_FD hown hE.1 hP 0 rfl rfl 4 (by decide) (hw _ kw_99) (fun _ h9 => h9) rfl d_FD_take_29 ?_
    refine lv_aload_n hx hb d_FD_take_32 rfl (lv_at hl 0 rfl) ?_
    refine lv_iload_n hx hb d_FD_take_33 rfl (lv_at hl 1 rfl) ?_
    refine vp_callSi (va_Run.run (va_runV (As := [.int (nI pl)]) (rest := [.ref f4]) ⟨hx, hb, hml, hown, hw⟩ (k_FD_typeAt l D cI cJ f0 f1 f2 f3 f4 o1 np ns aw ce pl (by omega)) (cwV 1 hw (gV kw_437 kw_422 kw_423 kw_42 kw_424) rfl rfl rfl (by decide +kernel) ⟨Nat.le_of_ble_eq_true rfl, Nat.le_of_ble_eq_true rfl⟩) (pre_Vp (wc := [(f0, .inr (2, [.ref o1, .ref f1, .ref f2, .ref f3, .ref f4, .int np, .int ns, .int aw])), (f1, .inl (cI, 1764, .inl ce))]) (q0 := 0) hE hX hP hS [0, 1] rfl rfl rfl) rfl rfl hl.1 rfl (lv_room (Nat.le_of_ble_eq_true rfl)) d_FD_take_34 ⟨Nat.le_of_ble_eq_true rfl, Nat.le_of_ble_eq_true rfl⟩)) (fun r_2 hr_2 => ?_)
    obtain rfl : nI (tyN (ce pl)) = r_2 := hr_2.symm
    have hq := hce pl (by omega)
    refine lv_dup2_11 hx hb d_FD_take_37 rfl rfl ?_
    refine jn_iald (k := (tyN (ce pl))) hx hb hE.1 hP 4 0 rfl rfl (by omega) (by omega) d_FD_take_38 ?_
    refine lv_iconst (v := nI 1) hx hb d_FD_take_39 (by decide +kernel) ?_
    refine lv_isub hx hb d_FD_take_40 ?_
    refine jn_iast (k := (tyN (ce pl))) hx hb hE.1 hP hD hS 4 0 rfl rfl (by omega) (by omega) d_FD_take_41 (fun H locs hP hD hS => ?_)
    have hP : va_P D vwCl [(f0, .inr (2, [.ref o1, .ref f1, .ref f2, .ref f3, .ref f4, .int np, .int ns, .int aw])), (f1, .inl (cI, 1764, .inl ce)), (f2, .inl (cJ, 1764, .inr (.inl oq))), (f3, .inl (cI, 42, .inl rp)), (f4, .inl (cI, 61, .inl (upd (upd tl 0 ((tl 0) - (nI 1))) (tyN (ce pl)) (((upd tl 0 ((tl 0) - (nI 1))) (tyN (ce pl))) - (nI 1))))), (o1, .inr (1, [.ref s1, .ref s2, .ref s3, .int ty, .int wa])), (s1, .inl (cI, 100, .inl st)), (s2, .inl (cI, 244, .inl sd)), (s3, .inl (cJ, 400, .inr (.inl be)))] H := hP
    have hD : va_D A [(f0, .inr (2, [.ref o1, .ref f1, .ref f2, .ref f3, .ref f4, .int np, .int ns, .int aw])), (f1, .inl (cI, 1764, .inl ce)), (f2, .inl (cJ, 1764, .inr (.inl oq))), (f3, .inl (cI, 42, .inl rp)), (f4, .inl (cI, 61, .inl (upd (upd tl 0 ((tl 0) - (nI 1))) (tyN (ce pl)) (((upd tl 0 ((tl 0) - (nI 1))) (tyN (ce pl))) - (nI 1))))), (o1, .inr (1, [.ref s1, .ref s2, .ref s3, .int ty, .int wa])), (s1, .inl (cI, 100, .inl st)), (s2, .inl (cI, 244, .inl sd)), (s3, .inl (cJ, 400, .inr (.inl be)))] := hD
    refine lv_aload_n hx hb d_FD_take_42 rfl (lv_at hl 0 rfl) ?_
    refine va_get (D := D) (ci := 2) (v := .ref f1) (C := R_FD) (T := T_FD) (N := 8) hx hb hw in_FD hown hE.1 hP 0 rfl rfl 1 (by decide) (hw _ kw_96) (fun _ h9 => h9) rfl d_FD_take_43 ?_
    refine lv_iload_n hx hb d_FD_take_46 rfl (lv_at hl 1 rfl) ?_
    refine lv_iconst (v := nI 0) hx hb d_FD_take_47 (by decide +kernel) ?_
    refine jn_iast (k := pl) hx hb hE.1 hP hD hS 1 0 rfl rfl (by omega) (by omega) d_FD_take_48 (fun H locs hP hD hS => ?_)
    have hP : va_P D vwCl [(f0, .inr (2, [.ref o1, .ref f1, .ref f2, .ref f3, .ref f4, .int np, .int ns, .int aw])), (f1, .inl (cI, 1764, .inl (upd ce pl (nI 0)))), (f2, .inl (cJ, 1764, .inr (.inl oq))), (f3, .inl (cI, 42, .inl rp)), (f4, .inl (cI, 61, .inl (upd (upd tl 0 ((tl 0) - (nI 1))) (tyN (ce pl)) (((upd tl 0 ((tl 0) - (nI 1))) (tyN (ce pl))) - (nI 1))))), (o1, .inr (1, [.ref s1, .ref s2, .ref s3, .int ty, .int wa])), (s1, .inl (cI, 100, .inl st)), (s2, .inl (cI, 244, .inl sd)), (s3, .inl (cJ, 400, .inr (.inl be)))] H := hP
    have hD : va_D A [(f0, .inr (2, [.ref o1, .ref f1, .ref f2, .ref f3, .ref f4, .int np, .int ns, .int aw])), (f1, .inl (cI, 1764, .inl (upd ce pl (nI 0)))), (f2, .inl (cJ, 1764, .inr (.inl oq))), (f3, .inl (cI, 42, .inl rp)), (f4, .inl (cI, 61, .inl (upd (upd tl 0 ((tl 0) - (nI 1))) (tyN (ce pl)) (((upd tl 0 ((tl 0) - (nI 1))) (tyN (ce pl))) - (nI 1))))), (o1, .inr (1, [.ref s1, .ref s2, .ref s3, .int ty, .int wa])), (s1, .inl (cI, 100, .inl st)), (s2, .inl (cI, 244, .inl sd)), (s3, .inl (cJ, 400, .inr (.inl be)))] := hD
    refine lv_aload_n hx hb d_FD_take_49 rfl (lv_at hl 0 rfl) ?_
    refine va_get (D := D) (ci := 2) (v := .ref f4) (C := R_FD) (T := T_FD) (N := 8) hx hb hw in_FD hown hE.1 hP 0 rfl rfl 4 (by decide) (hw _ kw_99) (fun _ h9 => h9) rfl d_FD_take_50 ?_
    refine lv_iconst (v := nI 0) hx hb d_FD_take_53 (by decide +kernel) ?_
    refine jn_iald (k := 0) hx hb hE.1 hP 4 0 rfl rfl (by omega) (by omega) d_FD_take_54 ?_
    refine lv_if_ne (tgt := 63) hx hb d_FD_take_55 (by decide) (fun c_55 => ?_) (fun c_55 => ?_)
    · skip
      refine lv_aload_n hx hb d_FD_take_63 rfl (lv_at hl 0 rfl) ?_
      refine lv_iload_n hx hb d_FD_take_64 rfl (lv_at hl 1 rfl) ?_
      refine cl_v (wr := [(f4, .inl (cI, 61, .inl (upd (upd tl 0 ((tl 0) - (nI 1))) (tyN (ce pl)) (((upd tl 0 ((tl 0) - (nI 1))) (tyN (ce pl))) - (nI 1)))))]) (va_runV (As := [.int (nI pl)]) (rest := []) ⟨hx, hb, hml, hown, hw⟩ (k_FD_refreshAround l D cI cJ f0 f1 f2 f3 f4 o1 np ns aw s1 s2 s3 ty wa st sd be (upd ce pl (nI 0)) oq rp pl _ hp1 hp2 (okCe_upd hce hp1 hp2 (by rw [tyN_0]; decide)) hsd hst) (cwV 1 hw (gV kw_442 kw_444 kw_4 kw_42 kw_445) rfl rfl rfl (by decide +kernel) ⟨Nat.le_of_ble_eq_true rfl, Nat.le_of_ble_eq_true rfl⟩) (pre_Vw (wc := [(f0, .inr (2, [.ref o1, .ref f1, .ref f2, .ref f3, .ref f4, .int np, .int ns, .int aw])), (f1, .inl (cI, 1764, .inl (upd ce pl (nI 0)))), (f2, .inl (cJ, 1764, .inr (.inl oq))), (f3, .inl (cI, 42, .inl rp)), (o1, .inr (1, [.ref s1, .ref s2, .ref s3, .int ty, .int wa])), (s1, .inl (cI, 100, .inl st)), (s2, .inl (cI, 244, .inl sd)), (s3, .inl (cJ, 400, .inr (.inl be)))]) (q0 := 0) hE hX hA hP hD hS [0, 1, 2, 3, 5, 6, 7, 8] (by decide) rfl rfl rfl rfl) rfl rfl hl.1 rfl (lv_room (Nat.le_of_ble_eq_true rfl)) d_FD_take_65 ⟨Nat.le_of_ble_eq_true rfl, Nat.le_of_ble_eq_true rfl⟩) hP hD hS hA [0, 1, 2, 3, 5, 6, 7, 8] [4] rfl rfl (by decide) (by decide) (fun u_r_3 H locs hr_3 hP hD hS => ?_)
      have hP : va_P D vwCl [(f4, .inl (cI, 61, .inl (upd (upd tl 0 ((tl 0) - (nI 1))) (tyN (ce pl)) (((upd tl 0 ((tl 0) - (nI 1))) (tyN (ce pl))) - (nI 1))))), (f0, .inr (2, [.ref o1, .ref f1, .ref f2, .ref f3, .ref f4, .int ((raL (upd ce pl (nI 0)) sd st be wa pl (oq, rp, np) 5).2.2), .int ns, .int aw])), (f1, .inl (cI, 1764, .inl (upd ce pl (nI 0)))), (f2, .inl (cJ, 1764, .inr (.inl ((raL (upd ce pl (nI 0)) sd st be wa pl (oq, rp, np) 5).1)))), (f3, .inl (cI, 42, .inl ((raL (upd ce pl (nI 0)) sd st be wa pl (oq, rp, np) 5).2.1))), (o1, .inr (1, [.ref s1, .ref s2, .ref s3, .int ty, .int wa])), (s1, .inl (cI, 100, .inl st)), (s2, .inl (cI, 244, .inl sd)), (s3, .inl (cJ, 400, .inr (.inl be)))] H := hP
      have hD : va_D A [(f4, .inl (cI, 61, .inl (upd (upd tl 0 ((tl 0) - (nI 1))) (tyN (ce pl)) (((upd tl 0 ((tl 0) - (nI 1))) (tyN (ce pl))) - (nI 1))))), (f0, .inr (2, [.ref o1, .ref f1, .ref f2, .ref f3, .ref f4, .int ((raL (upd ce pl (nI 0)) sd st be wa pl (oq, rp, np) 5).2.2), .int ns, .int aw])), (f1, .inl (cI, 1764, .inl (upd ce pl (nI 0)))), (f2, .inl (cJ, 1764, .inr (.inl ((raL (upd ce pl (nI 0)) sd st be wa pl (oq, rp, np) 5).1)))), (f3, .inl (cI, 42, .inl ((raL (upd ce pl (nI 0)) sd st be wa pl (oq, rp, np) 5).2.1))), (o1, .inr (1, [.ref s1, .ref s2, .ref s3, .int ty, .int wa])), (s1, .inl (cI, 100, .inl st)), (s2, .inl (cI, 244, .inl sd)), (s3, .inl (cJ, 400, .inr (.inl be)))] := hD
      have hP9 := hP.sub (ws' := [(f0, .inr (2, [.ref o1, .ref f1, .ref f2, .ref f3, .ref f4, .int ((raL (upd ce pl (nI 0)) sd st be wa pl (oq, rp, np) 5).2.2), .int ns, .int aw])), (f1, .inl (cI, 1764, .inl (upd ce pl (nI 0)))), (f2, .inl (cJ, 1764, .inr (.inl ((raL (upd ce pl (nI 0)) sd st be wa pl (oq, rp, np) 5).1)))), (f3, .inl (cI, 42, .inl ((raL (upd ce pl (nI 0)) sd st be wa pl (oq, rp, np) 5).2.1))), (f4, .inl (cI, 61, .inl (upd (upd tl 0 ((tl 0) - (nI 1))) (tyN (ce pl)) (((upd tl 0 ((tl 0) - (nI 1))) (tyN (ce pl))) - (nI 1))))), (o1, .inr (1, [.ref s1, .ref s2, .ref s3, .int ty, .int wa])), (s1, .inl (cI, 100, .inl st)), (s2, .inl (cI, 244, .inl sd)), (s3, .inl (cJ, 400, .inr (.inl be)))]) [1, 2, 3, 4, 0, 5, 6, 7, 8] rfl
      have hD9 := hD.sub (ws' := [(f0, .inr (2, [.ref o1, .ref f1, .ref f2, .ref f3, .ref f4, .int ((raL (upd ce pl (nI 0)) sd st be wa pl (oq, rp, np) 5).2.2), .int ns, .int aw])), (f1, .inl (cI, 1764, .inl (upd ce pl (nI 0)))), (f2, .inl (cJ, 1764, .inr (.inl ((raL (upd ce pl (nI 0)) sd st be wa pl (oq, rp, np) 5).1)))), (f3, .inl (cI, 42, .inl ((raL (upd ce pl (nI 0)) sd st be wa pl (oq, rp, np) 5).2.1))), (f4, .inl (cI, 61, .inl (upd (upd tl 0 ((tl 0) - (nI 1))) (tyN (ce pl)) (((upd tl 0 ((tl 0) - (nI 1))) (tyN (ce pl))) - (nI 1))))), (o1, .inr (1, [.ref s1, .ref s2, .ref s3, .int ty, .int wa])), (s1, .inl (cI, 100, .inl st)), (s2, .inl (cI, 244, .inl sd)), (s3, .inl (cJ, 400, .inr (.inl be)))]) [1, 2, 3, 4, 0, 5, 6, 7, 8] (by decide) rfl
      have hP9 : va_P D vwCl [(f0, .inr (2, [.ref o1, .ref f1, .ref f2, .ref f3, .ref f4, .int ((raL (upd ce pl (nI 0)) sd st be wa pl (oq, rp, np) 5).2.2), .int (nsT ns (ce pl)), .int (awT aw (tlT tl (tyN (ce pl))))])), (f1, .inl (cI, 1764, .inl (upd ce pl (nI 0)))), (f2, .inl (cJ, 1764, .inr (.inl ((raL (upd ce pl (nI 0)) sd st be wa pl (oq, rp, np) 5).1)))), (f3, .inl (cI, 42, .inl ((raL (upd ce pl (nI 0)) sd st be wa pl (oq, rp, np) 5).2.1))), (f4, .inl (cI, 61, .inl (tlT tl (tyN (ce pl))))), (o1, .inr (1, [.ref s1, .ref s2, .ref s3, .int ty, .int wa])), (s1, .inl (cI, 100, .inl st)), (s2, .inl (cI, 244, .inl sd)), (s3, .inl (cJ, 400, .inr (.inl be)))] H := by rw [show nsT ns (ce pl) = ns from by unfold nsT; rw [if_pos c_5], show awT aw (tlT tl (tyN (ce pl))) = aw from by unfold awT; exact if_neg c_55]; exact hP9
      have hD9 : va_D A [(f0, .inr (2, [.ref o1, .ref f1, .ref f2, .ref f3, .ref f4, .int ((raL (upd ce pl (nI 0)) sd st be wa pl (oq, rp, np) 5).2.2), .int (nsT ns (ce pl)), .int (awT aw (tlT tl (tyN (ce pl))))])), (f1, .inl (cI, 1764, .inl (upd ce pl (nI 0)))), (f2, .inl (cJ, 1764, .inr (.inl ((raL (upd ce pl (nI 0)) sd st be wa pl (oq, rp, np) 5).1)))), (f3, .inl (cI, 42, .inl ((raL (upd ce pl (nI 0)) sd st be wa pl (oq, rp, np) 5).2.1))), (f4, .inl (cI, 61, .inl (tlT tl (tyN (ce pl))))), (o1, .inr (1, [.ref s1, .ref s2, .ref s3, .int ty, .int wa])), (s1, .inl (cI, 100, .inl st)), (s2, .inl (cI, 244, .inl sd)), (s3, .inl (cJ, 400, .inr (.inl be)))] := by rw [show nsT ns (ce pl) = ns from by unfold nsT; rw [if_pos c_5], show awT aw (tlT tl (tyN (ce pl))) = aw from by unfold awT; exact if_neg c_55]; exact hD9
      exact W.vret hx hb hr (fun t9 ht hW => ⟨⟨(), rfl, trivial, ⟨by rw [ht]; exact hP9, hD9⟩⟩, hS.F ht⟩) hS.2.2 d_FD_take_68
    · skip
      refine lv_aload_n hx hb d_FD_take_58 rfl (lv_at hl 0 rfl) ?_
      refine lv_iconst (v := nI 0) hx hb d_FD_take_59 (by decide +kernel) ?_
      refine va_put (D := D) (ci := 2) (v := .int (nI 0)) (ty := .boolean) (C := R_FD) (T := T_FD) (N := 8) hx hb hw in_FD ty_FD ty_FD_ok nm_FD_ok hown hE.1 hP hD hS 0 rfl rfl 7 (by decide) (hw _ kw_102) (fun _ h9 => h9) rfl (by decide +kernel) (by decide +kernel) (by decide +kernel) (Nat.le_of_ble_eq_true rfl) d_FD_take_60 (fun H locs hP hD hS => ?_)
      have hP : va_P D vwCl [(f0, .inr (2, [.ref o1, .ref f1, .ref f2, .ref f3, .ref f4, .int np, .int ns, .int (nI 0)])), (f1, .inl (cI, 1764, .inl (upd ce pl (nI 0)))), (f2, .inl (cJ, 1764, .inr (.inl oq))), (f3, .inl (cI, 42, .inl rp)), (f4, .inl (cI, 61, .inl (upd (upd tl 0 ((tl 0) - (nI 1))) (tyN (ce pl)) (((upd tl 0 ((tl 0) - (nI 1))) (tyN (ce pl))) - (nI 1))))), (o1, .inr (1, [.ref s1, .ref s2, .ref s3, .int ty, .int wa])), (s1, .inl (cI, 100, .inl st)), (s2, .inl (cI, 244, .inl sd)), (s3, .inl (cJ, 400, .inr (.inl be)))] H := hP
      have hD : va_D A [(f0, .inr (2, [.ref o1, .ref f1, .ref f2, .ref f3, .ref f4, .int np, .int ns, .int (nI 0)])), (f1, .inl (cI, 1764, .inl (upd ce pl (nI 0)))), (f2, .inl (cJ, 1764, .inr (.inl oq))), (f3, .inl (cI, 42, .inl rp)), (f4, .inl (cI, 61, .inl (upd (upd tl 0 ((tl 0) - (nI 1))) (tyN (ce pl)) (((upd tl 0 ((tl 0) - (nI 1))) (tyN (ce pl))) - (nI 1))))), (o1, .inr (1, [.ref s1, .ref s2, .ref s3, .int ty, .int wa])), (s1, .inl (cI, 100, .inl st)), (s2, .inl (cI, 244, .inl sd)), (s3, .inl (cJ, 400, .inr (.inl be)))] := hD
      refine lv_aload_n hx hb d_FD_take_63 rfl (lv_at hl 0 rfl) ?_
      refine lv_iload_n hx hb d_FD_take_64 rfl (lv_at hl 1 rfl) ?_
      refine cl_v (wr := [(f4, .inl (cI, 61, .inl (upd (upd tl 0 ((tl 0) - (nI 1))) (tyN (ce pl)) (((upd tl 0 ((tl 0) - (nI 1))) (tyN (ce pl))) - (nI 1)))))]) (va_runV (As := [.int (nI pl)]) (rest := []) ⟨hx, hb, hml, hown, hw⟩ (k_FD_refreshAround l D cI cJ f0 f1 f2 f3 f4 o1 np ns (nI 0) s1 s2 s3 ty wa st sd be (upd ce pl (nI 0)) oq rp pl _ hp1 hp2 (okCe_upd hce hp1 hp2 (by rw [tyN_0]; decide)) hsd hst) (cwV 1 hw (gV kw_442 kw_444 kw_4 kw_42 kw_445) rfl rfl rfl (by decide +kernel) ⟨Nat.le_of_ble_eq_true rfl, Nat.le_of_ble_eq_true rfl⟩) (pre_Vw (wc := [(f0, .inr (2, [.ref o1, .ref f1, .ref f2, .ref f3, .ref f4, .int np, .int ns, .int (nI 0)])), (f1, .inl (cI, 1764, .inl (upd ce pl (nI 0)))), (f2, .inl (cJ, 1764, .inr (.inl oq))), (f3, .inl (cI, 42, .inl rp)), (o1, .inr (1, [.ref s1, .ref s2, .ref s3, .int ty, .int wa])), (s1, .inl (cI, 100, .inl st)), (s2, .inl (cI, 244, .inl sd)), (s3, .inl (cJ, 400, .inr (.inl be)))]) (q0 := 0) hE hX hA hP hD hS [0, 1, 2, 3, 5, 6, 7, 8] (by decide) rfl rfl rfl rfl) rfl rfl hl.1 rfl (lv_room (Nat.le_of_ble_eq_true rfl)) d_FD_take_65 ⟨Nat.le_of_ble_eq_true rfl, Nat.le_of_ble_eq_true rfl⟩) hP hD hS hA [0, 1, 2, 3, 5, 6, 7, 8] [4] rfl rfl (by decide) (by decide) (fun u_r_4 H locs hr_4 hP hD hS => ?_)
      have hP : va_P D vwCl [(f4, .inl (cI, 61, .inl (upd (upd tl 0 ((tl 0) - (nI 1))) (tyN (ce pl)) (((upd tl 0 ((tl 0) - (nI 1))) (tyN (ce pl))) - (nI 1))))), (f0, .inr (2, [.ref o1, .ref f1, .ref f2, .ref f3, .ref f4, .int ((raL (upd ce pl (nI 0)) sd st be wa pl (oq, rp, np) 5).2.2), .int ns, .int (nI 0)])), (f1, .inl (cI, 1764, .inl (upd ce pl (nI 0)))), (f2, .inl (cJ, 1764, .inr (.inl ((raL (upd ce pl (nI 0)) sd st be wa pl (oq, rp, np) 5).1)))), (f3, .inl (cI, 42, .inl ((raL (upd ce pl (nI 0)) sd st be wa pl (oq, rp, np) 5).2.1))), (o1, .inr (1, [.ref s1, .ref s2, .ref s3, .int ty, .int wa])), (s1, .inl (cI, 100, .inl st)), (s2, .inl (cI, 244, .inl sd)), (s3, .inl (cJ, 400, .inr (.inl be)))] H := hP
      have hD : va_D A [(f4, .inl (cI, 61, .inl (upd (upd tl 0 ((tl 0) - (nI 1))) (tyN (ce pl)) (((upd tl 0 ((tl 0) - (nI 1))) (tyN (ce pl))) - (nI 1))))), (f0, .inr (2, [.ref o1, .ref f1, .ref f2, .ref f3, .ref f4, .int ((raL (upd ce pl (nI 0)) sd st be wa pl (oq, rp, np) 5).2.2), .int ns, .int (nI 0)])), (f1, .inl (cI, 1764, .inl (upd ce pl (nI 0)))), (f2, .inl (cJ, 1764, .inr (.inl ((raL (upd ce pl (nI 0)) sd st be wa pl (oq, rp, np) 5).1)))), (f3, .inl (cI, 42, .inl ((raL (upd ce pl (nI 0)) sd st be wa pl (oq, rp, np) 5).2.1))), (o1, .inr (1, [.ref s1, .ref s2, .ref s3, .int ty, .int wa])), (s1, .inl (cI, 100, .inl st)), (s2, .inl (cI, 244, .inl sd)), (s3, .inl (cJ, 400, .inr (.inl be)))] := hD
      have hP9 := hP.sub (ws' := [(f0, .inr (2, [.ref o1, .ref f1, .ref f2, .ref f3, .ref f4, .int ((raL (upd ce pl (nI 0)) sd st be wa pl (oq, rp, np) 5).2.2), .int ns, .int (nI 0)])), (f1, .inl (cI, 1764, .inl (upd ce pl (nI 0)))), (f2, .inl (cJ, 1764, .inr (.inl ((raL (upd ce pl (nI 0)) sd st be wa pl (oq, rp, np) 5).1)))), (f3, .inl (cI, 42, .inl ((raL (upd ce pl (nI 0)) sd st be wa pl (oq, rp, np) 5).2.1))), (f4, .inl (cI, 61, .inl (upd (upd tl 0 ((tl 0) - (nI 1))) (tyN (ce pl)) (((upd tl 0 ((tl 0) - (nI 1))) (tyN (ce pl))) - (nI 1))))), (o1, .inr (1, [.ref s1, .ref s2, .ref s3, .int ty, .int wa])), (s1, .inl (cI, 100, .inl st)), (s2, .inl (cI, 244, .inl sd)), (s3, .inl (cJ, 400, .inr (.inl be)))]) [1, 2, 3, 4, 0, 5, 6, 7, 8] rfl
      have hD9 := hD.sub (ws' := [(f0, .inr (2, [.ref o1, .ref f1, .ref f2, .ref f3, .ref f4, .int ((raL (upd ce pl (nI 0)) sd st be wa pl (oq, rp, np) 5).2.2), .int ns, .int (nI 0)])), (f1, .inl (cI, 1764, .inl (upd ce pl (nI 0)))), (f2, .inl (cJ, 1764, .inr (.inl ((raL (upd ce pl (nI 0)) sd st be wa pl (oq, rp, np) 5).1)))), (f3, .inl (cI, 42, .inl ((raL (upd ce pl (nI 0)) sd st be wa pl (oq, rp, np) 5).2.1))), (f4, .inl (cI, 61, .inl (upd (upd tl 0 ((tl 0) - (nI 1))) (tyN (ce pl)) (((upd tl 0 ((tl 0) - (nI 1))) (tyN (ce pl))) - (nI 1))))), (o1, .inr (1, [.ref s1, .ref s2, .ref s3, .int ty, .int wa])), (s1, .inl (cI, 100, .inl st)), (s2, .inl (cI, 244, .inl sd)), (s3, .inl (cJ, 400, .inr (.inl be)))]) [1, 2, 3, 4, 0, 5, 6, 7, 8] (by decide) rfl
      have hP9 : va_P D vwCl [(f0, .inr (2, [.ref o1, .ref f1, .ref f2, .ref f3, .ref f4, .int ((raL (upd ce pl (nI 0)) sd st be wa pl (oq, rp, np) 5).2.2), .int (nsT ns (ce pl)), .int (awT aw (tlT tl (tyN (ce pl))))])), (f1, .inl (cI, 1764, .inl (upd ce pl (nI 0)))), (f2, .inl (cJ, 1764, .inr (.inl ((raL (upd ce pl (nI 0)) sd st be wa pl (oq, rp, np) 5).1)))), (f3, .inl (cI, 42, .inl ((raL (upd ce pl (nI 0)) sd st be wa pl (oq, rp, np) 5).2.1))), (f4, .inl (cI, 61, .inl (tlT tl (tyN (ce pl))))), (o1, .inr (1, [.ref s1, .ref s2, .ref s3, .int ty, .int wa])), (s1, .inl (cI, 100, .inl st)), (s2, .inl (cI, 244, .inl sd)), (s3, .inl (cJ, 400, .inr (.inl be)))] H := by rw [show nsT ns (ce pl) = ns from by unfold nsT; rw [if_pos c_5], show awT aw (tlT tl (tyN (ce pl))) = nI 0 from by unfold awT; exact if_pos c_55]; exact hP9
      have hD9 : va_D A [(f0, .inr (2, [.ref o1, .ref f1, .ref f2, .ref f3, .ref f4, .int ((raL (upd ce pl (nI 0)) sd st be wa pl (oq, rp, np) 5).2.2), .int (nsT ns (ce pl)), .int (awT aw (tlT tl (tyN (ce pl))))])), (f1, .inl (cI, 1764, .inl (upd ce pl (nI 0)))), (f2, .inl (cJ, 1764, .inr (.inl ((raL (upd ce pl (nI 0)) sd st be wa pl (oq, rp, np) 5).1)))), (f3, .inl (cI, 42, .inl ((raL (upd ce pl (nI 0)) sd st be wa pl (oq, rp, np) 5).2.1))), (f4, .inl (cI, 61, .inl (tlT tl (tyN (ce pl))))), (o1, .inr (1, [.ref s1, .ref s2, .ref s3, .int ty, .int wa])), (s1, .inl (cI, 100, .inl st)), (s2, .inl (cI, 244, .inl sd)), (s3, .inl (cJ, 400, .inr (.inl be)))] := by rw [show nsT ns (ce pl) = ns from by unfold nsT; rw [if_pos c_5], show awT aw (tlT tl (tyN (ce pl))) = nI 0 from by unfold awT; exact if_pos c_55]; exact hD9
      exact W.vret hx hb hr (fun t9 ht hW => ⟨⟨(), rfl, trivial, ⟨by rw [ht]; exact hP9, hD9⟩⟩, hS.F ht⟩) hS.2.2 d_FD_take_68
  · skip
    refine lv_aload_n hx hb d_FD_take_8 rfl (lv_at hl 0 rfl) ?_
    refine lv_dup hx hb d_FD_take_9 rfl ?_
    refine va_get (D := D) (ci := 2) (v := .int ns) (C := R_FD) (T := T_FD) (N := 8) hx hb hw in_FD hown hE.1 hP 0 rfl rfl 6 (by decide) (hw _ kw_101) (fun _ h9 => h9) rfl d_FD_take_10 ?_
    refine lv_iconst (v := nI 1) hx hb d_FD_take_13 (by decide +kernel) ?_
    refine lv_isub hx hb d_FD_take_14 ?_
    refine va_put (D := D) (ci := 2) (v := .int (ns - (nI 1))) (ty := .int) (C := R_FD) (T := T_FD) (N := 8) hx hb hw in_FD ty_FD ty_FD_ok nm_FD_ok hown hE.1 hP hD hS 0 rfl rfl 6 (by decide) (hw _ kw_101) (fun _ h9 => h9) rfl (by decide +kernel) rfl rfl (Nat.le_of_ble_eq_true rfl) d_FD_take_15 (fun H locs hP hD hS => ?_)
    have hP : va_P D vwCl [(f0, .inr (2, [.ref o1, .ref f1, .ref f2, .ref f3, .ref f4, .int np, .int (ns - (nI 1)), .int aw])), (f1, .inl (cI, 1764, .inl ce)), (f2, .inl (cJ, 1764, .inr (.inl oq))), (f3, .inl (cI, 42, .inl rp)), (f4, .inl (cI, 61, .inl tl)), (o1, .inr (1, [.ref s1, .ref s2, .ref s3, .int ty, .int wa])), (s1, .inl (cI, 100, .inl st)), (s2, .inl (cI, 244, .inl sd)), (s3, .inl (cJ, 400, .inr (.inl be)))] H := hP
    have hD : va_D A [(f0, .inr (2, [.ref o1, .ref f1, .ref f2, .ref f3, .ref f4, .int np, .int (ns - (nI 1)), .int aw])), (f1, .inl (cI, 1764, .inl ce)), (f2, .inl (cJ, 1764, .inr (.inl oq))), (f3, .inl (cI, 42, .inl rp)), (f4, .inl (cI, 61, .inl tl)), (o1, .inr (1, [.ref s1, .ref s2, .ref s3, .int ty, .int wa])), (s1, .inl (cI, 100, .inl st)), (s2, .inl (cI, 244, .inl sd)), (s3, .inl (cJ, 400, .inr (.inl be)))] := hD
    refine lv_aload_n hx hb d_FD_take_18 rfl (lv_at hl 0 rfl) ?_
    refine va_get (D := D) (ci := 2) (v := .ref f4) (C := R_FD) (T := T_FD) (N := 8) hx hb hw in_FD hown hE.1 hP 0 rfl rfl 4 (by decide) (hw _ kw_99) (fun _ h9 => h9) rfl d_FD_take_19 ?_
    refine lv_iconst (v := nI 0) hx hb d_FD_take_22 (by decide +kernel) ?_
    refine lv_dup2_11 hx hb d_FD_take_23 rfl rfl ?_
    refine jn_iald (k := 0) hx hb hE.1 hP 4 0 rfl rfl (by omega) (by omega) d_FD_take_24 ?_
    refine lv_iconst (v := nI 1) hx hb d_FD_take_25 (by decide +kernel) ?_
    refine lv_isub hx hb d_FD_take_26 ?_
    refine jn_iast (k := 0) hx hb hE.1 hP hD hS 4 0 rfl rfl (by omega) (by omega) d_FD_take_27 (fun H locs hP hD hS => ?_)
    have hP : va_P D vwCl [(f0, .inr (2, [.ref o1, .ref f1, .ref f2, .ref f3, .ref f4, .int np, .int (ns - (nI 1)), .int aw])), (f1, .inl (cI, 1764, .inl ce)), (f2, .inl (cJ, 1764, .inr (.inl oq))), (f3, .inl (cI, 42, .inl rp)), (f4, .inl (cI, 61, .inl (upd tl 0 ((tl 0) - (nI 1))))), (o1, .inr (1, [.ref s1, .ref s2, .ref s3, .int ty, .int wa])), (s1, .inl (cI, 100, .inl st)), (s2, .inl (cI, 244, .inl sd)), (s3, .inl (cJ, 400, .inr (.inl be)))] H := hP
    have hD : va_D A [(f0, .inr (2, [.ref o1, .ref f1, .ref f2, .ref f3, .ref f4, .int np, .int (ns - (nI 1)), .int aw])), (f1, .inl (cI, 1764, .inl ce)), (f2, .inl (cJ, 1764, .inr (.inl oq))), (f3, .inl (cI, 42, .inl rp)), (f4, .inl (cI, 61, .inl (upd tl 0 ((tl 0) - (nI 1))))), (o1, .inr (1, [.ref s1, .ref s2, .ref s3, .int ty, .int wa])), (s1, .inl (cI, 100, .inl st)), (s2, .inl (cI, 244, .inl sd)), (s3, .inl (cJ, 400, .inr (.inl be)))] := hD
    refine lv_aload_n hx hb d_FD_take_28 rfl (lv_at hl 0 rfl) ?_
    refine va_get (D := D) (ci := 2) (v := .ref f4) (C := R_FD) (T := T_FD) (N := 8) hx hb hw in_FD hown hE.1 hP 0 rfl rfl 4 (by decide) (hw _ kw_99) (fun _ h9 => h9) rfl d_FD_take_29 ?_
    refine lv_aload_n hx hb d_FD_take_32 rfl (lv_at hl 0 rfl) ?_
    refine lv_iload_n hx hb d_FD_take_33 rfl (lv_at hl 1 rfl) ?_
    refine vp_callSi (va_Run.run (va_runV (As := [.int (nI pl)]) (rest := [.ref f4]) ⟨hx, hb, hml, hown, hw⟩ (k_FD_typeAt l D cI cJ f0 f1 f2 f3 f4 o1 np (ns - (nI 1)) aw ce pl (by omega)) (cwV 1 hw (gV kw_437 kw_422 kw_423 kw_42 kw_424) rfl rfl rfl (by decide +kernel) ⟨Nat.le_of_ble_eq_true rfl, Nat.le_of_ble_eq_true rfl⟩) (pre_Vp (wc := [(f0, .inr (2, [.ref o1, .ref f1, .ref f2, .ref f3, .ref f4, .int np, .int (ns - (nI 1)), .int aw])), (f1, .inl (cI, 1764, .inl ce))]) (q0 := 0) hE hX hP hS [0, 1] rfl rfl rfl) rfl rfl hl.1 rfl (lv_room (Nat.le_of_ble_eq_true rfl)) d_FD_take_34 ⟨Nat.le_of_ble_eq_true rfl, Nat.le_of_ble_eq_true rfl⟩)) (fun r_5 hr_5 => ?_)
    obtain rfl : nI (tyN (ce pl)) = r_5 := hr_5.symm
    have hq := hce pl (by omega)
    refine lv_dup2_11 hx hb d_FD_take_37 rfl rfl ?_
    refine jn_iald (k := (tyN (ce pl))) hx hb hE.1 hP 4 0 rfl rfl (by omega) (by omega) d_FD_take_38 ?_
    refine lv_iconst (v := nI 1) hx hb d_FD_take_39 (by decide +kernel) ?_
    refine lv_isub hx hb d_FD_take_40 ?_
    refine jn_iast (k := (tyN (ce pl))) hx hb hE.1 hP hD hS 4 0 rfl rfl (by omega) (by omega) d_FD_take_41 (fun H locs hP hD hS => ?_)
    have hP : va_P D vwCl [(f0, .inr (2, [.ref o1, .ref f1, .ref f2, .ref f3, .ref f4, .int np, .int (ns - (nI 1)), .int aw])), (f1, .inl (cI, 1764, .inl ce)), (f2, .inl (cJ, 1764, .inr (.inl oq))), (f3, .inl (cI, 42, .inl rp)), (f4, .inl (cI, 61, .inl (upd (upd tl 0 ((tl 0) - (nI 1))) (tyN (ce pl)) (((upd tl 0 ((tl 0) - (nI 1))) (tyN (ce pl))) - (nI 1))))), (o1, .inr (1, [.ref s1, .ref s2, .ref s3, .int ty, .int wa])), (s1, .inl (cI, 100, .inl st)), (s2, .inl (cI, 244, .inl sd)), (s3, .inl (cJ, 400, .inr (.inl be)))] H := hP
    have hD : va_D A [(f0, .inr (2, [.ref o1, .ref f1, .ref f2, .ref f3, .ref f4, .int np, .int (ns - (nI 1)), .int aw])), (f1, .inl (cI, 1764, .inl ce)), (f2, .inl (cJ, 1764, .inr (.inl oq))), (f3, .inl (cI, 42, .inl rp)), (f4, .inl (cI, 61, .inl (upd (upd tl 0 ((tl 0) - (nI 1))) (tyN (ce pl)) (((upd tl 0 ((tl 0) - (nI 1))) (tyN (ce pl))) - (nI 1))))), (o1, .inr (1, [.ref s1, .ref s2, .ref s3, .int ty, .int wa])), (s1, .inl (cI, 100, .inl st)), (s2, .inl (cI, 244, .inl sd)), (s3, .inl (cJ, 400, .inr (.inl be)))] := hD
    refine lv_aload_n hx hb d_FD_take_42 rfl (lv_at hl 0 rfl) ?_
    refine va_get (D := D) (ci := 2) (v := .ref f1) (C := R_FD) (T := T_FD) (N := 8) hx hb hw in_FD hown hE.1 hP 0 rfl rfl 1 (by decide) (hw _ kw_96) (fun _ h9 => h9) rfl d_FD_take_43 ?_
    refine lv_iload_n hx hb d_FD_take_46 rfl (lv_at hl 1 rfl) ?_
    refine lv_iconst (v := nI 0) hx hb d_FD_take_47 (by decide +kernel) ?_
    refine jn_iast (k := pl) hx hb hE.1 hP hD hS 1 0 rfl rfl (by omega) (by omega) d_FD_take_48 (fun H locs hP hD hS => ?_)
    have hP : va_P D vwCl [(f0, .inr (2, [.ref o1, .ref f1, .ref f2, .ref f3, .ref f4, .int np, .int (ns - (nI 1)), .int aw])), (f1, .inl (cI, 1764, .inl (upd ce pl (nI 0)))), (f2, .inl (cJ, 1764, .inr (.inl oq))), (f3, .inl (cI, 42, .inl rp)), (f4, .inl (cI, 61, .inl (upd (upd tl 0 ((tl 0) - (nI 1))) (tyN (ce pl)) (((upd tl 0 ((tl 0) - (nI 1))) (tyN (ce pl))) - (nI 1))))), (o1, .inr (1, [.ref s1, .ref s2, .ref s3, .int ty, .int wa])), (s1, .inl (cI, 100, .inl st)), (s2, .inl (cI, 244, .inl sd)), (s3, .inl (cJ, 400, .inr (.inl be)))] H := hP
    have hD : va_D A [(f0, .inr (2, [.ref o1, .ref f1, .ref f2, .ref f3, .ref f4, .int np, .int (ns - (nI 1)), .int aw])), (f1, .inl (cI, 1764, .inl (upd ce pl (nI 0)))), (f2, .inl (cJ, 1764, .inr (.inl oq))), (f3, .inl (cI, 42, .inl rp)), (f4, .inl (cI, 61, .inl (upd (upd tl 0 ((tl 0) - (nI 1))) (tyN (ce pl)) (((upd tl 0 ((tl 0) - (nI 1))) (tyN (ce pl))) - (nI 1))))), (o1, .inr (1, [.ref s1, .ref s2, .ref s3, .int ty, .int wa])), (s1, .inl (cI, 100, .inl st)), (s2, .inl (cI, 244, .inl sd)), (s3, .inl (cJ, 400, .inr (.inl be)))] := hD
    refine lv_aload_n hx hb d_FD_take_49 rfl (lv_at hl 0 rfl) ?_
    refine va_get (D := D) (ci := 2) (v := .ref f4) (C := R_FD) (T := T_FD) (N := 8) hx hb hw in_FD hown hE.1 hP 0 rfl rfl 4 (by decide) (hw _ kw_99) (fun _ h9 => h9) rfl d_FD_take_50 ?_
    refine lv_iconst (v := nI 0) hx hb d_FD_take_53 (by decide +kernel) ?_
    refine jn_iald (k := 0) hx hb hE.1 hP 4 0 rfl rfl (by omega) (by omega) d_FD_take_54 ?_
    refine lv_if_ne (tgt := 63) hx hb d_FD_take_55 (by decide) (fun c_55 => ?_) (fun c_55 => ?_)
    · skip
      refine lv_aload_n hx hb d_FD_take_63 rfl (lv_at hl 0 rfl) ?_
      refine lv_iload_n hx hb d_FD_take_64 rfl (lv_at hl 1 rfl) ?_
      refine cl_v (wr := [(f4, .inl (cI, 61, .inl (upd (upd tl 0 ((tl 0) - (nI 1))) (tyN (ce pl)) (((upd tl 0 ((tl 0) - (nI 1))) (tyN (ce pl))) - (nI 1)))))]) (va_runV (As := [.int (nI pl)]) (rest := []) ⟨hx, hb, hml, hown, hw⟩ (k_FD_refreshAround l D cI cJ f0 f1 f2 f3 f4 o1 np (ns - (nI 1)) aw s1 s2 s3 ty wa st sd be (upd ce pl (nI 0)) oq rp pl _ hp1 hp2 (okCe_upd hce hp1 hp2 (by rw [tyN_0]; decide)) hsd hst) (cwV 1 hw (gV kw_442 kw_444 kw_4 kw_42 kw_445) rfl rfl rfl (by decide +kernel) ⟨Nat.le_of_ble_eq_true rfl, Nat.le_of_ble_eq_true rfl⟩) (pre_Vw (wc := [(f0, .inr (2, [.ref o1, .ref f1, .ref f2, .ref f3, .ref f4, .int np, .int (ns - (nI 1)), .int aw])), (f1, .inl (cI, 1764, .inl (upd ce pl (nI 0)))), (f2, .inl (cJ, 1764, .inr (.inl oq))), (f3, .inl (cI, 42, .inl rp)), (o1, .inr (1, [.ref s1, .ref s2, .ref s3, .int ty, .int wa])), (s1, .inl (cI, 100, .inl st)), (s2, .inl (cI, 244, .inl sd)), (s3, .inl (cJ, 400, .inr (.inl be)))]) (q0 := 0) hE hX hA hP hD hS [0, 1, 2, 3, 5, 6, 7, 8] (by decide) rfl rfl rfl rfl) rfl rfl hl.1 rfl (lv_room (Nat.le_of_ble_eq_true rfl)) d_FD_take_65 ⟨Nat.le_of_ble_eq_true rfl, Nat.le_of_ble_eq_true rfl⟩) hP hD hS hA [0, 1, 2, 3, 5, 6, 7, 8] [4] rfl rfl (by decide) (by decide) (fun u_r_6 H locs hr_6 hP hD hS => ?_)
      have hP : va_P D vwCl [(f4, .inl (cI, 61, .inl (upd (upd tl 0 ((tl 0) - (nI 1))) (tyN (ce pl)) (((upd tl 0 ((tl 0) - (nI 1))) (tyN (ce pl))) - (nI 1))))), (f0, .inr (2, [.ref o1, .ref f1, .ref f2, .ref f3, .ref f4, .int ((raL (upd ce pl (nI 0)) sd st be wa pl (oq, rp, np) 5).2.2), .int (ns - (nI 1)), .int aw])), (f1, .inl (cI, 1764, .inl (upd ce pl (nI 0)))), (f2, .inl (cJ, 1764, .inr (.inl ((raL (upd ce pl (nI 0)) sd st be wa pl (oq, rp, np) 5).1)))), (f3, .inl (cI, 42, .inl ((raL (upd ce pl (nI 0)) sd st be wa pl (oq, rp, np) 5).2.1))), (o1, .inr (1, [.ref s1, .ref s2, .ref s3, .int ty, .int wa])), (s1, .inl (cI, 100, .inl st)), (s2, .inl (cI, 244, .inl sd)), (s3, .inl (cJ, 400, .inr (.inl be)))] H := hP
      have hD : va_D A [(f4, .inl (cI, 61, .inl (upd (upd tl 0 ((tl 0) - (nI 1))) (tyN (ce pl)) (((upd tl 0 ((tl 0) - (nI 1))) (tyN (ce pl))) - (nI 1))))), (f0, .inr (2, [.ref o1, .ref f1, .ref f2, .ref f3, .ref f4, .int ((raL (upd ce pl (nI 0)) sd st be wa pl (oq, rp, np) 5).2.2), .int (ns - (nI 1)), .int aw])), (f1, .inl (cI, 1764, .inl (upd ce pl (nI 0)))), (f2, .inl (cJ, 1764, .inr (.inl ((raL (upd ce pl (nI 0)) sd st be wa pl (oq, rp, np) 5).1)))), (f3, .inl (cI, 42, .inl ((raL (upd ce pl (nI 0)) sd st be wa pl (oq, rp, np) 5).2.1))), (o1, .inr (1, [.ref s1, .ref s2, .ref s3, .int ty, .int wa])), (s1, .inl (cI, 100, .inl st)), (s2, .inl (cI, 244, .inl sd)), (s3, .inl (cJ, 400, .inr (.inl be)))] := hD
      have hP9 := hP.sub (ws' := [(f0, .inr (2, [.ref o1, .ref f1, .ref f2, .ref f3, .ref f4, .int ((raL (upd ce pl (nI 0)) sd st be wa pl (oq, rp, np) 5).2.2), .int (ns - (nI 1)), .int aw])), (f1, .inl (cI, 1764, .inl (upd ce pl (nI 0)))), (f2, .inl (cJ, 1764, .inr (.inl ((raL (upd ce pl (nI 0)) sd st be wa pl (oq, rp, np) 5).1)))), (f3, .inl (cI, 42, .inl ((raL (upd ce pl (nI 0)) sd st be wa pl (oq, rp, np) 5).2.1))), (f4, .inl (cI, 61, .inl (upd (upd tl 0 ((tl 0) - (nI 1))) (tyN (ce pl)) (((upd tl 0 ((tl 0) - (nI 1))) (tyN (ce pl))) - (nI 1))))), (o1, .inr (1, [.ref s1, .ref s2, .ref s3, .int ty, .int wa])), (s1, .inl (cI, 100, .inl st)), (s2, .inl (cI, 244, .inl sd)), (s3, .inl (cJ, 400, .inr (.inl be)))]) [1, 2, 3, 4, 0, 5, 6, 7, 8] rfl
      have hD9 := hD.sub (ws' := [(f0, .inr (2, [.ref o1, .ref f1, .ref f2, .ref f3, .ref f4, .int ((raL (upd ce pl (nI 0)) sd st be wa pl (oq, rp, np) 5).2.2), .int (ns - (nI 1)), .int aw])), (f1, .inl (cI, 1764, .inl (upd ce pl (nI 0)))), (f2, .inl (cJ, 1764, .inr (.inl ((raL (upd ce pl (nI 0)) sd st be wa pl (oq, rp, np) 5).1)))), (f3, .inl (cI, 42, .inl ((raL (upd ce pl (nI 0)) sd st be wa pl (oq, rp, np) 5).2.1))), (f4, .inl (cI, 61, .inl (upd (upd tl 0 ((tl 0) - (nI 1))) (tyN (ce pl)) (((upd tl 0 ((tl 0) - (nI 1))) (tyN (ce pl))) - (nI 1))))), (o1, .inr (1, [.ref s1, .ref s2, .ref s3, .int ty, .int wa])), (s1, .inl (cI, 100, .inl st)), (s2, .inl (cI, 244, .inl sd)), (s3, .inl (cJ, 400, .inr (.inl be)))]) [1, 2, 3, 4, 0, 5, 6, 7, 8] (by decide) rfl
      have hP9 : va_P D vwCl [(f0, .inr (2, [.ref o1, .ref f1, .ref f2, .ref f3, .ref f4, .int ((raL (upd ce pl (nI 0)) sd st be wa pl (oq, rp, np) 5).2.2), .int (nsT ns (ce pl)), .int (awT aw (tlT tl (tyN (ce pl))))])), (f1, .inl (cI, 1764, .inl (upd ce pl (nI 0)))), (f2, .inl (cJ, 1764, .inr (.inl ((raL (upd ce pl (nI 0)) sd st be wa pl (oq, rp, np) 5).1)))), (f3, .inl (cI, 42, .inl ((raL (upd ce pl (nI 0)) sd st be wa pl (oq, rp, np) 5).2.1))), (f4, .inl (cI, 61, .inl (tlT tl (tyN (ce pl))))), (o1, .inr (1, [.ref s1, .ref s2, .ref s3, .int ty, .int wa])), (s1, .inl (cI, 100, .inl st)), (s2, .inl (cI, 244, .inl sd)), (s3, .inl (cJ, 400, .inr (.inl be)))] H := by rw [show nsT ns (ce pl) = ns - nI 1 from by unfold nsT; rw [if_neg c_5], show awT aw (tlT tl (tyN (ce pl))) = aw from by unfold awT; exact if_neg c_55]; exact hP9
      have hD9 : va_D A [(f0, .inr (2, [.ref o1, .ref f1, .ref f2, .ref f3, .ref f4, .int ((raL (upd ce pl (nI 0)) sd st be wa pl (oq, rp, np) 5).2.2), .int (nsT ns (ce pl)), .int (awT aw (tlT tl (tyN (ce pl))))])), (f1, .inl (cI, 1764, .inl (upd ce pl (nI 0)))), (f2, .inl (cJ, 1764, .inr (.inl ((raL (upd ce pl (nI 0)) sd st be wa pl (oq, rp, np) 5).1)))), (f3, .inl (cI, 42, .inl ((raL (upd ce pl (nI 0)) sd st be wa pl (oq, rp, np) 5).2.1))), (f4, .inl (cI, 61, .inl (tlT tl (tyN (ce pl))))), (o1, .inr (1, [.ref s1, .ref s2, .ref s3, .int ty, .int wa])), (s1, .inl (cI, 100, .inl st)), (s2, .inl (cI, 244, .inl sd)), (s3, .inl (cJ, 400, .inr (.inl be)))] := by rw [show nsT ns (ce pl) = ns - nI 1 from by unfold nsT; rw [if_neg c_5], show awT aw (tlT tl (tyN (ce pl))) = aw from by unfold awT; exact if_neg c_55]; exact hD9
      exact W.vret hx hb hr (fun t9 ht hW => ⟨⟨(), rfl, trivial, ⟨by rw [ht]; exact hP9, hD9⟩⟩, hS.F ht⟩) hS.2.2 d_FD_take_68
    · skip
      refine lv_aload_n hx hb d_FD_take_58 rfl (lv_at hl 0 rfl) ?_
      refine lv_iconst (v := nI 0) hx hb d_FD_take_59 (by decide +kernel) ?_
      refine va_put (D := D) (ci := 2) (v := .int (nI 0)) (ty := .boolean) (C := R_FD) (T := T_FD) (N := 8) hx hb hw in_FD ty_FD ty_FD_ok nm_FD_ok hown hE.1 hP hD hS 0 rfl rfl 7 (by decide) (hw _ kw_102) (fun _ h9 => h9) rfl (by decide +kernel) (by decide +kernel) (by decide +kernel) (Nat.le_of_ble_eq_true rfl) d_FD_take_60 (fun H locs hP hD hS => ?_)
      have hP : va_P D vwCl [(f0, .inr (2, [.ref o1, .ref f1, .ref f2, .ref f3, .ref f4, .int np, .int (ns - (nI 1)), .int (nI 0)])), (f1, .inl (cI, 1764, .inl (upd ce pl (nI 0)))), (f2, .inl (cJ, 1764, .inr (.inl oq))), (f3, .inl (cI, 42, .inl rp)), (f4, .inl (cI, 61, .inl (upd (upd tl 0 ((tl 0) - (nI 1))) (tyN (ce pl)) (((upd tl 0 ((tl 0) - (nI 1))) (tyN (ce pl))) - (nI 1))))), (o1, .inr (1, [.ref s1, .ref s2, .ref s3, .int ty, .int wa])), (s1, .inl (cI, 100, .inl st)), (s2, .inl (cI, 244, .inl sd)), (s3, .inl (cJ, 400, .inr (.inl be)))] H := hP
      have hD : va_D A [(f0, .inr (2, [.ref o1, .ref f1, .ref f2, .ref f3, .ref f4, .int np, .int (ns - (nI 1)), .int (nI 0)])), (f1, .inl (cI, 1764, .inl (upd ce pl (nI 0)))), (f2, .inl (cJ, 1764, .inr (.inl oq))), (f3, .inl (cI, 42, .inl rp)), (f4, .inl (cI, 61, .inl (upd (upd tl 0 ((tl 0) - (nI 1))) (tyN (ce pl)) (((upd tl 0 ((tl 0) - (nI 1))) (tyN (ce pl))) - (nI 1))))), (o1, .inr (1, [.ref s1, .ref s2, .ref s3, .int ty, .int wa])), (s1, .inl (cI, 100, .inl st)), (s2, .inl (cI, 244, .inl sd)), (s3, .inl (cJ, 400, .inr (.inl be)))] := hD
      refine lv_aload_n hx hb d_FD_take_63 rfl (lv_at hl 0 rfl) ?_
      refine lv_iload_n hx hb d_FD_take_64 rfl (lv_at hl 1 rfl) ?_
      refine cl_v (wr := [(f4, .inl (cI, 61, .inl (upd (upd tl 0 ((tl 0) - (nI 1))) (tyN (ce pl)) (((upd tl 0 ((tl 0) - (nI 1))) (tyN (ce pl))) - (nI 1)))))]) (va_runV (As := [.int (nI pl)]) (rest := []) ⟨hx, hb, hml, hown, hw⟩ (k_FD_refreshAround l D cI cJ f0 f1 f2 f3 f4 o1 np (ns - (nI 1)) (nI 0) s1 s2 s3 ty wa st sd be (upd ce pl (nI 0)) oq rp pl _ hp1 hp2 (okCe_upd hce hp1 hp2 (by rw [tyN_0]; decide)) hsd hst) (cwV 1 hw (gV kw_442 kw_444 kw_4 kw_42 kw_445) rfl rfl rfl (by decide +kernel) ⟨Nat.le_of_ble_eq_true rfl, Nat.le_of_ble_eq_true rfl⟩) (pre_Vw (wc := [(f0, .inr (2, [.ref o1, .ref f1, .ref f2, .ref f3, .ref f4, .int np, .int (ns - (nI 1)), .int (nI 0)])), (f1, .inl (cI, 1764, .inl (upd ce pl (nI 0)))), (f2, .inl (cJ, 1764, .inr (.inl oq))), (f3, .inl (cI, 42, .inl rp)), (o1, .inr (1, [.ref s1, .ref s2, .ref s3, .int ty, .int wa])), (s1, .inl (cI, 100, .inl st)), (s2, .inl (cI, 244, .inl sd)), (s3, .inl (cJ, 400, .inr (.inl be)))]) (q0 := 0) hE hX hA hP hD hS [0, 1, 2, 3, 5, 6, 7, 8] (by decide) rfl rfl rfl rfl) rfl rfl hl.1 rfl (lv_room (Nat.le_of_ble_eq_true rfl)) d_FD_take_65 ⟨Nat.le_of_ble_eq_true rfl, Nat.le_of_ble_eq_true rfl⟩) hP hD hS hA [0, 1, 2, 3, 5, 6, 7, 8] [4] rfl rfl (by decide) (by decide) (fun u_r_7 H locs hr_7 hP hD hS => ?_)
      have hP : va_P D vwCl [(f4, .inl (cI, 61, .inl (upd (upd tl 0 ((tl 0) - (nI 1))) (tyN (ce pl)) (((upd tl 0 ((tl 0) - (nI 1))) (tyN (ce pl))) - (nI 1))))), (f0, .inr (2, [.ref o1, .ref f1, .ref f2, .ref f3, .ref f4, .int ((raL (upd ce pl (nI 0)) sd st be wa pl (oq, rp, np) 5).2.2), .int (ns - (nI 1)), .int (nI 0)])), (f1, .inl (cI, 1764, .inl (upd ce pl (nI 0)))), (f2, .inl (cJ, 1764, .inr (.inl ((raL (upd ce pl (nI 0)) sd st be wa pl (oq, rp, np) 5).1)))), (f3, .inl (cI, 42, .inl ((raL (upd ce pl (nI 0)) sd st be wa pl (oq, rp, np) 5).2.1))), (o1, .inr (1, [.ref s1, .ref s2, .ref s3, .int ty, .int wa])), (s1, .inl (cI, 100, .inl st)), (s2, .inl (cI, 244, .inl sd)), (s3, .inl (cJ, 400, .inr (.inl be)))] H := hP
      have hD : va_D A [(f4, .inl (cI, 61, .inl (upd (upd tl 0 ((tl 0) - (nI 1))) (tyN (ce pl)) (((upd tl 0 ((tl 0) - (nI 1))) (tyN (ce pl))) - (nI 1))))), (f0, .inr (2, [.ref o1, .ref f1, .ref f2, .ref f3, .ref f4, .int ((raL (upd ce pl (nI 0)) sd st be wa pl (oq, rp, np) 5).2.2), .int (ns - (nI 1)), .int (nI 0)])), (f1, .inl (cI, 1764, .inl (upd ce pl (nI 0)))), (f2, .inl (cJ, 1764, .inr (.inl ((raL (upd ce pl (nI 0)) sd st be wa pl (oq, rp, np) 5).1)))), (f3, .inl (cI, 42, .inl ((raL (upd ce pl (nI 0)) sd st be wa pl (oq, rp, np) 5).2.1))), (o1, .inr (1, [.ref s1, .ref s2, .ref s3, .int ty, .int wa])), (s1, .inl (cI, 100, .inl st)), (s2, .inl (cI, 244, .inl sd)), (s3, .inl (cJ, 400, .inr (.inl be)))] := hD
      have hP9 := hP.sub (ws' := [(f0, .inr (2, [.ref o1, .ref f1, .ref f2, .ref f3, .ref f4, .int ((raL (upd ce pl (nI 0)) sd st be wa pl (oq, rp, np) 5).2.2), .int (ns - (nI 1)), .int (nI 0)])), (f1, .inl (cI, 1764, .inl (upd ce pl (nI 0)))), (f2, .inl (cJ, 1764, .inr (.inl ((raL (upd ce pl (nI 0)) sd st be wa pl (oq, rp, np) 5).1)))), (f3, .inl (cI, 42, .inl ((raL (upd ce pl (nI 0)) sd st be wa pl (oq, rp, np) 5).2.1))), (f4, .inl (cI, 61, .inl (upd (upd tl 0 ((tl 0) - (nI 1))) (tyN (ce pl)) (((upd tl 0 ((tl 0) - (nI 1))) (tyN (ce pl))) - (nI 1))))), (o1, .inr (1, [.ref s1, .ref s2, .ref s3, .int ty, .int wa])), (s1, .inl (cI, 100, .inl st)), (s2, .inl (cI, 244, .inl sd)), (s3, .inl (cJ, 400, .inr (.inl be)))]) [1, 2, 3, 4, 0, 5, 6, 7, 8] rfl
      have hD9 := hD.sub (ws' := [(f0, .inr (2, [.ref o1, .ref f1, .ref f2, .ref f3, .ref f4, .int ((raL (upd ce pl (nI 0)) sd st be wa pl (oq, rp, np) 5).2.2), .int (ns - (nI 1)), .int (nI 0)])), (f1, .inl (cI, 1764, .inl (upd ce pl (nI 0)))), (f2, .inl (cJ, 1764, .inr (.inl ((raL (upd ce pl (nI 0)) sd st be wa pl (oq, rp, np) 5).1)))), (f3, .inl (cI, 42, .inl ((raL (upd ce pl (nI 0)) sd st be wa pl (oq, rp, np) 5).2.1))), (f4, .inl (cI, 61, .inl (upd (upd tl 0 ((tl 0) - (nI 1))) (tyN (ce pl)) (((upd tl 0 ((tl 0) - (nI 1))) (tyN (ce pl))) - (nI 1))))), (o1, .inr (1, [.ref s1, .ref s2, .ref s3, .int ty, .int wa])), (s1, .inl (cI, 100, .inl st)), (s2, .inl (cI, 244, .inl sd)), (s3, .inl (cJ, 400, .inr (.inl be)))]) [1, 2, 3, 4, 0, 5, 6, 7, 8] (by decide) rfl
      have hP9 : va_P D vwCl [(f0, .inr (2, [.ref o1, .ref f1, .ref f2, .ref f3, .ref f4, .int ((raL (upd ce pl (nI 0)) sd st be wa pl (oq, rp, np) 5).2.2), .int (nsT ns (ce pl)), .int (awT aw (tlT tl (tyN (ce pl))))])), (f1, .inl (cI, 1764, .inl (upd ce pl (nI 0)))), (f2, .inl (cJ, 1764, .inr (.inl ((raL (upd ce pl (nI 0)) sd st be wa pl (oq, rp, np) 5).1)))), (f3, .inl (cI, 42, .inl ((raL (upd ce pl (nI 0)) sd st be wa pl (oq, rp, np) 5).2.1))), (f4, .inl (cI, 61, .inl (tlT tl (tyN (ce pl))))), (o1, .inr (1, [.ref s1, .ref s2, .ref s3, .int ty, .int wa])), (s1, .inl (cI, 100, .inl st)), (s2, .inl (cI, 244, .inl sd)), (s3, .inl (cJ, 400, .inr (.inl be)))] H := by rw [show nsT ns (ce pl) = ns - nI 1 from by unfold nsT; rw [if_neg c_5], show awT aw (tlT tl (tyN (ce pl))) = nI 0 from by unfold awT; exact if_pos c_55]; exact hP9
      have hD9 : va_D A [(f0, .inr (2, [.ref o1, .ref f1, .ref f2, .ref f3, .ref f4, .int ((raL (upd ce pl (nI 0)) sd st be wa pl (oq, rp, np) 5).2.2), .int (nsT ns (ce pl)), .int (awT aw (tlT tl (tyN (ce pl))))])), (f1, .inl (cI, 1764, .inl (upd ce pl (nI 0)))), (f2, .inl (cJ, 1764, .inr (.inl ((raL (upd ce pl (nI 0)) sd st be wa pl (oq, rp, np) 5).1)))), (f3, .inl (cI, 42, .inl ((raL (upd ce pl (nI 0)) sd st be wa pl (oq, rp, np) 5).2.1))), (f4, .inl (cI, 61, .inl (tlT tl (tyN (ce pl))))), (o1, .inr (1, [.ref s1, .ref s2, .ref s3, .int ty, .int wa])), (s1, .inl (cI, 100, .inl st)), (s2, .inl (cI, 244, .inl sd)), (s3, .inl (cJ, 400, .inr (.inl be)))] := by rw [show nsT ns (ce pl) = ns - nI 1 from by unfold nsT; rw [if_neg c_5], show awT aw (tlT tl (tyN (ce pl))) = nI 0 from by unfold awT; exact if_pos c_55]; exact hD9
      exact W.vret hx hb hr (fun t9 ht hW => ⟨⟨(), rfl, trivial, ⟨by rw [ht]; exact hP9, hD9⟩⟩, hS.F ht⟩) hS.2.2 d_FD_take_68
