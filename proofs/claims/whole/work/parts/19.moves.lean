theorem d_TB_seed_0 : decode c_TB_seed 0 = .ok (.iload_n 1, 1) := by decide +kernel
theorem d_TB_seed_1 : decode c_TB_seed 1 = .ok (.iload_n 2, 1) := by decide +kernel
theorem d_TB_seed_2 : decode c_TB_seed 2 = .ok (.invokestatic 71, 3) := by decide +kernel
theorem d_TB_seed_5 : decode c_TB_seed 5 = .ok (.aload_n 0, 1) := by decide +kernel
theorem d_TB_seed_6 : decode c_TB_seed 6 = .ok (.iload_n 3, 1) := by decide +kernel
theorem d_TB_seed_7 : decode c_TB_seed 7 = .ok (.invokevirtual 75, 3) := by decide +kernel
theorem d_TB_seed_10 : decode c_TB_seed 10 = .ok (.iload_n 1, 1) := by decide +kernel
theorem d_TB_seed_11 : decode c_TB_seed 11 = .ok (.iload_n 2, 1) := by decide +kernel
theorem d_TB_seed_12 : decode c_TB_seed 12 = .ok (.invokestatic 79, 3) := by decide +kernel
theorem d_TB_seed_15 : decode c_TB_seed 15 = .ok (.istore 4, 2) := by decide +kernel
theorem d_TB_seed_17 : decode c_TB_seed 17 = .ok (.aload_n 0, 1) := by decide +kernel
theorem d_TB_seed_18 : decode c_TB_seed 18 = .ok (.getfield 21, 3) := by decide +kernel
theorem d_TB_seed_21 : decode c_TB_seed 21 = .ok (.iload 4, 2) := by decide +kernel
theorem d_TB_seed_23 : decode c_TB_seed 23 = .ok (.invokevirtual 82, 3) := by decide +kernel
theorem d_TB_seed_26 : decode c_TB_seed 26 = .ok (.ifCond .ne 13, 3) := by decide +kernel
theorem d_TB_seed_29 : decode c_TB_seed 29 = .ok (.aload_n 0, 1) := by decide +kernel
theorem d_TB_seed_30 : decode c_TB_seed 30 = .ok (.getfield 21, 3) := by decide +kernel
theorem d_TB_seed_33 : decode c_TB_seed 33 = .ok (.invokevirtual 85, 3) := by decide +kernel
theorem d_TB_seed_36 : decode c_TB_seed 36 = .ok (.ifCond .eq 13, 3) := by decide +kernel
theorem d_TB_seed_39 : decode c_TB_seed 39 = .ok (.new 89, 3) := by decide +kernel
theorem d_TB_seed_42 : decode c_TB_seed 42 = .ok (.dup, 1) := by decide +kernel
theorem d_TB_seed_43 : decode c_TB_seed 43 = .ok (.ldc 91, 2) := by decide +kernel
theorem d_TB_seed_45 : decode c_TB_seed 45 = .ok (.invokespecial 93, 3) := by decide +kernel
theorem d_TB_seed_48 : decode c_TB_seed 48 = .ok (.athrow, 1) := by decide +kernel
theorem d_TB_seed_49 : decode c_TB_seed 49 = .ok (.aload_n 0, 1) := by decide +kernel
theorem d_TB_seed_50 : decode c_TB_seed 50 = .ok (.getfield 21, 3) := by decide +kernel
theorem d_TB_seed_53 : decode c_TB_seed 53 = .ok (.iload 4, 2) := by decide +kernel
theorem d_TB_seed_55 : decode c_TB_seed 55 = .ok (.iload_n 3, 1) := by decide +kernel
theorem d_TB_seed_56 : decode c_TB_seed 56 = .ok (.invokestatic 94, 3) := by decide +kernel
theorem d_TB_seed_59 : decode c_TB_seed 59 = .ok (.invokevirtual 97, 3) := by decide +kernel
theorem d_TB_seed_62 : decode c_TB_seed 62 = .ok (.return_, 1) := by decide +kernel
theorem d_TB_attach_0 : decode c_TB_attach 0 = .ok (.iload_n 1, 1) := by decide +kernel
theorem d_TB_attach_1 : decode c_TB_attach 1 = .ok (.iload_n 2, 1) := by decide +kernel
theorem d_TB_attach_2 : decode c_TB_attach 2 = .ok (.invokestatic 71, 3) := by decide +kernel
theorem d_TB_attach_5 : decode c_TB_attach 5 = .ok (.aload_n 0, 1) := by decide +kernel
theorem d_TB_attach_6 : decode c_TB_attach 6 = .ok (.iload_n 3, 1) := by decide +kernel
theorem d_TB_attach_7 : decode c_TB_attach 7 = .ok (.invokevirtual 75, 3) := by decide +kernel
theorem d_TB_attach_10 : decode c_TB_attach 10 = .ok (.iload_n 1, 1) := by decide +kernel
theorem d_TB_attach_11 : decode c_TB_attach 11 = .ok (.iload_n 2, 1) := by decide +kernel
theorem d_TB_attach_12 : decode c_TB_attach 12 = .ok (.invokestatic 79, 3) := by decide +kernel
theorem d_TB_attach_15 : decode c_TB_attach 15 = .ok (.istore 4, 2) := by decide +kernel
theorem d_TB_attach_17 : decode c_TB_attach 17 = .ok (.aload_n 0, 1) := by decide +kernel
theorem d_TB_attach_18 : decode c_TB_attach 18 = .ok (.getfield 21, 3) := by decide +kernel
theorem d_TB_attach_21 : decode c_TB_attach 21 = .ok (.iload 4, 2) := by decide +kernel
theorem d_TB_attach_23 : decode c_TB_attach 23 = .ok (.invokevirtual 109, 3) := by decide +kernel
theorem d_TB_attach_26 : decode c_TB_attach 26 = .ok (.iload_n 3, 1) := by decide +kernel
theorem d_TB_attach_27 : decode c_TB_attach 27 = .ok (.invokestatic 113, 3) := by decide +kernel
theorem d_TB_attach_30 : decode c_TB_attach 30 = .ok (.ifCond .ne 5, 3) := by decide +kernel
theorem d_TB_attach_33 : decode c_TB_attach 33 = .ok (.iconst 0, 1) := by decide +kernel
theorem d_TB_attach_34 : decode c_TB_attach 34 = .ok (.ireturn, 1) := by decide +kernel
theorem d_TB_attach_35 : decode c_TB_attach 35 = .ok (.aload_n 0, 1) := by decide +kernel
theorem d_TB_attach_36 : decode c_TB_attach 36 = .ok (.getfield 21, 3) := by decide +kernel
theorem d_TB_attach_39 : decode c_TB_attach 39 = .ok (.iload 4, 2) := by decide +kernel
theorem d_TB_attach_41 : decode c_TB_attach 41 = .ok (.iload_n 3, 1) := by decide +kernel
theorem d_TB_attach_42 : decode c_TB_attach 42 = .ok (.invokevirtual 117, 3) := by decide +kernel
theorem d_TB_attach_45 : decode c_TB_attach 45 = .ok (.iconst 1, 1) := by decide +kernel
theorem d_TB_attach_46 : decode c_TB_attach 46 = .ok (.ireturn, 1) := by decide +kernel
theorem d_TB_has_0 : decode c_TB_has 0 = .ok (.lload_n 0, 1) := by decide +kernel
theorem d_TB_has_1 : decode c_TB_has 1 = .ok (.iload_n 2, 1) := by decide +kernel
theorem d_TB_has_2 : decode c_TB_has 2 = .ok (.invokestatic 209, 3) := by decide +kernel
theorem d_TB_has_5 : decode c_TB_has 5 = .ok (.land, 1) := by decide +kernel
theorem d_TB_has_6 : decode c_TB_has 6 = .ok (.lconst 0, 1) := by decide +kernel
theorem d_TB_has_7 : decode c_TB_has 7 = .ok (.lcmp, 1) := by decide +kernel
theorem d_TB_has_8 : decode c_TB_has 8 = .ok (.ifCond .eq 7, 3) := by decide +kernel
theorem d_TB_has_11 : decode c_TB_has 11 = .ok (.iconst 1, 1) := by decide +kernel
theorem d_TB_has_12 : decode c_TB_has 12 = .ok (.goto 4, 3) := by decide +kernel
theorem d_TB_has_15 : decode c_TB_has 15 = .ok (.iconst 0, 1) := by decide +kernel
theorem d_TB_has_16 : decode c_TB_has 16 = .ok (.ireturn, 1) := by decide +kernel
theorem d_TB_least_0 : decode c_TB_least 0 = .ok (.lload_n 0, 1) := by decide +kernel
theorem d_TB_least_1 : decode c_TB_least 1 = .ok (.lload_n 0, 1) := by decide +kernel
theorem d_TB_least_2 : decode c_TB_least 2 = .ok (.lneg, 1) := by decide +kernel
theorem d_TB_least_3 : decode c_TB_least 3 = .ok (.land, 1) := by decide +kernel
theorem d_TB_least_4 : decode c_TB_least 4 = .ok (.lconst 1, 1) := by decide +kernel
theorem d_TB_least_5 : decode c_TB_least 5 = .ok (.lsub, 1) := by decide +kernel
theorem d_TB_least_6 : decode c_TB_least 6 = .ok (.invokestatic 212, 3) := by decide +kernel
theorem d_TB_least_9 : decode c_TB_least 9 = .ok (.iconst 1, 1) := by decide +kernel
theorem d_TB_least_10 : decode c_TB_least 10 = .ok (.iadd, 1) := by decide +kernel
theorem d_TB_least_11 : decode c_TB_least 11 = .ok (.ireturn, 1) := by decide +kernel
theorem d_TB_placeIn_0 : decode c_TB_placeIn 0 = .ok (.iload_n 0, 1) := by decide +kernel
theorem d_TB_placeIn_1 : decode c_TB_placeIn 1 = .ok (.bipush 6, 2) := by decide +kernel
theorem d_TB_placeIn_3 : decode c_TB_placeIn 3 = .ok (.ishr, 1) := by decide +kernel
theorem d_TB_placeIn_4 : decode c_TB_placeIn 4 = .ok (.ireturn, 1) := by decide +kernel
theorem d_TB_typeIn_0 : decode c_TB_typeIn 0 = .ok (.iload_n 0, 1) := by decide +kernel
theorem d_TB_typeIn_1 : decode c_TB_typeIn 1 = .ok (.bipush 63, 2) := by decide +kernel
theorem d_TB_typeIn_3 : decode c_TB_typeIn 3 = .ok (.iand, 1) := by decide +kernel
theorem d_TB_typeIn_4 : decode c_TB_typeIn 4 = .ok (.ireturn, 1) := by decide +kernel
theorem d_TB_drop_0 : decode c_TB_drop 0 = .ok (.iload_n 1, 1) := by decide +kernel
theorem d_TB_drop_1 : decode c_TB_drop 1 = .ok (.iload_n 2, 1) := by decide +kernel
theorem d_TB_drop_2 : decode c_TB_drop 2 = .ok (.invokestatic 71, 3) := by decide +kernel
theorem d_TB_drop_5 : decode c_TB_drop 5 = .ok (.iload_n 1, 1) := by decide +kernel
theorem d_TB_drop_6 : decode c_TB_drop 6 = .ok (.iload_n 2, 1) := by decide +kernel
theorem d_TB_drop_7 : decode c_TB_drop 7 = .ok (.invokestatic 79, 3) := by decide +kernel
theorem d_TB_drop_10 : decode c_TB_drop 10 = .ok (.istore_n 3, 1) := by decide +kernel
theorem d_TB_drop_11 : decode c_TB_drop 11 = .ok (.aload_n 0, 1) := by decide +kernel
theorem d_TB_drop_12 : decode c_TB_drop 12 = .ok (.getfield 21, 3) := by decide +kernel
theorem d_TB_drop_15 : decode c_TB_drop 15 = .ok (.iload_n 3, 1) := by decide +kernel
theorem d_TB_drop_16 : decode c_TB_drop 16 = .ok (.invokevirtual 82, 3) := by decide +kernel
theorem d_TB_drop_19 : decode c_TB_drop 19 = .ok (.istore 4, 2) := by decide +kernel
theorem d_TB_drop_21 : decode c_TB_drop 21 = .ok (.iload 4, 2) := by decide +kernel
theorem d_TB_drop_23 : decode c_TB_drop 23 = .ok (.ifCond .eq 11, 3) := by decide +kernel
theorem d_TB_drop_26 : decode c_TB_drop 26 = .ok (.aload_n 0, 1) := by decide +kernel
theorem d_TB_drop_27 : decode c_TB_drop 27 = .ok (.getfield 21, 3) := by decide +kernel
theorem d_TB_drop_30 : decode c_TB_drop 30 = .ok (.iload_n 3, 1) := by decide +kernel
theorem d_TB_drop_31 : decode c_TB_drop 31 = .ok (.invokevirtual 136, 3) := by decide +kernel
theorem d_TB_drop_34 : decode c_TB_drop 34 = .ok (.iload 4, 2) := by decide +kernel
theorem d_TB_drop_36 : decode c_TB_drop 36 = .ok (.ireturn, 1) := by decide +kernel
theorem d_TB_partOf_0 : decode c_TB_partOf 0 = .ok (.iload_n 1, 1) := by decide +kernel
theorem d_TB_partOf_1 : decode c_TB_partOf 1 = .ok (.lookupswitch 43 #[(0, 27), (1, 35)], 27) := by decide +kernel
theorem d_TB_partOf_28 : decode c_TB_partOf 28 = .ok (.iload_n 0, 1) := by decide +kernel
theorem d_TB_partOf_29 : decode c_TB_partOf 29 = .ok (.invokestatic 186, 3) := by decide +kernel
theorem d_TB_partOf_32 : decode c_TB_partOf 32 = .ok (.invokestatic 203, 3) := by decide +kernel
theorem d_TB_partOf_35 : decode c_TB_partOf 35 = .ok (.ireturn, 1) := by decide +kernel
theorem d_TB_partOf_36 : decode c_TB_partOf 36 = .ok (.iload_n 0, 1) := by decide +kernel
theorem d_TB_partOf_37 : decode c_TB_partOf 37 = .ok (.invokestatic 186, 3) := by decide +kernel
theorem d_TB_partOf_40 : decode c_TB_partOf 40 = .ok (.invokestatic 206, 3) := by decide +kernel
theorem d_TB_partOf_43 : decode c_TB_partOf 43 = .ok (.ireturn, 1) := by decide +kernel
theorem d_TB_partOf_44 : decode c_TB_partOf 44 = .ok (.iload_n 0, 1) := by decide +kernel
theorem d_TB_partOf_45 : decode c_TB_partOf 45 = .ok (.invokestatic 189, 3) := by decide +kernel
theorem d_TB_partOf_48 : decode c_TB_partOf 48 = .ok (.ireturn, 1) := by decide +kernel
theorem d_TB_xOf_0 : decode c_TB_xOf 0 = .ok (.iload_n 0, 1) := by decide +kernel
theorem d_TB_xOf_1 : decode c_TB_xOf 1 = .ok (.bipush 42, 2) := by decide +kernel
theorem d_TB_xOf_3 : decode c_TB_xOf 3 = .ok (.irem, 1) := by decide +kernel
theorem d_TB_xOf_4 : decode c_TB_xOf 4 = .ok (.iconst 1, 1) := by decide +kernel
theorem d_TB_xOf_5 : decode c_TB_xOf 5 = .ok (.isub, 1) := by decide +kernel
theorem d_TB_xOf_6 : decode c_TB_xOf 6 = .ok (.ireturn, 1) := by decide +kernel
theorem d_TB_yOf_0 : decode c_TB_yOf 0 = .ok (.iload_n 0, 1) := by decide +kernel
theorem d_TB_yOf_1 : decode c_TB_yOf 1 = .ok (.bipush 42, 2) := by decide +kernel
theorem d_TB_yOf_3 : decode c_TB_yOf 3 = .ok (.idiv, 1) := by decide +kernel
theorem d_TB_yOf_4 : decode c_TB_yOf 4 = .ok (.iconst 1, 1) := by decide +kernel
theorem d_TB_yOf_5 : decode c_TB_yOf 5 = .ok (.isub, 1) := by decide +kernel
theorem d_TB_yOf_6 : decode c_TB_yOf 6 = .ok (.ireturn, 1) := by decide +kernel
theorem d_TB_at_0 : decode c_TB_at 0 = .ok (.iload_n 1, 1) := by decide +kernel
theorem d_TB_at_1 : decode c_TB_at 1 = .ok (.iload_n 2, 1) := by decide +kernel
theorem d_TB_at_2 : decode c_TB_at 2 = .ok (.invokestatic 71, 3) := by decide +kernel
theorem d_TB_at_5 : decode c_TB_at 5 = .ok (.iload_n 3, 1) := by decide +kernel
theorem d_TB_at_6 : decode c_TB_at 6 = .ok (.iconst 0, 1) := by decide +kernel
theorem d_TB_at_7 : decode c_TB_at 7 = .ok (.iconst 3, 1) := by decide +kernel
theorem d_TB_at_8 : decode c_TB_at 8 = .ok (.invokestatic 44, 3) := by decide +kernel
theorem d_TB_at_11 : decode c_TB_at 11 = .ok (.iload_n 1, 1) := by decide +kernel
theorem d_TB_at_12 : decode c_TB_at 12 = .ok (.iload_n 2, 1) := by decide +kernel
theorem d_TB_at_13 : decode c_TB_at 13 = .ok (.invokestatic 79, 3) := by decide +kernel
theorem d_TB_at_16 : decode c_TB_at 16 = .ok (.istore 4, 2) := by decide +kernel
theorem d_TB_at_18 : decode c_TB_at 18 = .ok (.aload_n 0, 1) := by decide +kernel
theorem d_TB_at_19 : decode c_TB_at 19 = .ok (.getfield 21, 3) := by decide +kernel
theorem d_TB_at_22 : decode c_TB_at 22 = .ok (.iload 4, 2) := by decide +kernel
theorem d_TB_at_24 : decode c_TB_at 24 = .ok (.invokevirtual 82, 3) := by decide +kernel
theorem d_TB_at_27 : decode c_TB_at 27 = .ok (.istore 5, 2) := by decide +kernel
theorem d_TB_at_29 : decode c_TB_at 29 = .ok (.iload_n 3, 1) := by decide +kernel
theorem d_TB_at_30 : decode c_TB_at 30 = .ok (.ifCond .ne 6, 3) := by decide +kernel
theorem d_TB_at_33 : decode c_TB_at 33 = .ok (.iload 5, 2) := by decide +kernel
theorem d_TB_at_35 : decode c_TB_at 35 = .ok (.ireturn, 1) := by decide +kernel
theorem d_TB_at_36 : decode c_TB_at 36 = .ok (.iload 5, 2) := by decide +kernel
theorem d_TB_at_38 : decode c_TB_at 38 = .ok (.ifCond .ne 5, 3) := by decide +kernel
theorem d_TB_at_41 : decode c_TB_at 41 = .ok (.iconst (-1), 1) := by decide +kernel
theorem d_TB_at_42 : decode c_TB_at 42 = .ok (.ireturn, 1) := by decide +kernel
theorem d_TB_at_43 : decode c_TB_at 43 = .ok (.iload_n 3, 1) := by decide +kernel
theorem d_TB_at_44 : decode c_TB_at 44 = .ok (.lookupswitch 48 #[(1, 28), (2, 38)], 28) := by decide +kernel
theorem d_TB_at_72 : decode c_TB_at 72 = .ok (.aload_n 0, 1) := by decide +kernel
theorem d_TB_at_73 : decode c_TB_at 73 = .ok (.getfield 21, 3) := by decide +kernel
theorem d_TB_at_76 : decode c_TB_at 76 = .ok (.iload 4, 2) := by decide +kernel
theorem d_TB_at_78 : decode c_TB_at 78 = .ok (.invokevirtual 150, 3) := by decide +kernel
theorem d_TB_at_81 : decode c_TB_at 81 = .ok (.ireturn, 1) := by decide +kernel
theorem d_TB_at_82 : decode c_TB_at 82 = .ok (.aload_n 0, 1) := by decide +kernel
theorem d_TB_at_83 : decode c_TB_at 83 = .ok (.getfield 21, 3) := by decide +kernel
theorem d_TB_at_86 : decode c_TB_at 86 = .ok (.iload 4, 2) := by decide +kernel
theorem d_TB_at_88 : decode c_TB_at 88 = .ok (.invokevirtual 153, 3) := by decide +kernel
theorem d_TB_at_91 : decode c_TB_at 91 = .ok (.ireturn, 1) := by decide +kernel
theorem d_TB_at_92 : decode c_TB_at 92 = .ok (.aload_n 0, 1) := by decide +kernel
theorem d_TB_at_93 : decode c_TB_at 93 = .ok (.getfield 21, 3) := by decide +kernel
theorem d_TB_at_96 : decode c_TB_at 96 = .ok (.iload 4, 2) := by decide +kernel
theorem d_TB_at_98 : decode c_TB_at 98 = .ok (.invokevirtual 156, 3) := by decide +kernel
theorem d_TB_at_101 : decode c_TB_at 101 = .ok (.ifCond .eq 7, 3) := by decide +kernel
theorem d_TB_at_104 : decode c_TB_at 104 = .ok (.iconst 1, 1) := by decide +kernel
theorem d_TB_at_105 : decode c_TB_at 105 = .ok (.goto 4, 3) := by decide +kernel
theorem d_TB_at_108 : decode c_TB_at 108 = .ok (.iconst 0, 1) := by decide +kernel
theorem d_TB_at_109 : decode c_TB_at 109 = .ok (.ireturn, 1) := by decide +kernel
abbrev FS : Type := (Nat → Int32) × (Nat → Int64) × (Nat → Int32) × (Nat → Int32) × Int32 × Int32 × Int32
def fsPut (sd st : Nat → Int32) (be : Nat → Int64) (wa : Int32) (p : Nat) (x : Int32) (z : FS) : FS :=
  (upd z.1 p x, (raL (upd z.1 p x) sd st be wa p (z.2.1, z.2.2.1, z.2.2.2.2.1) 5).1, (raL (upd z.1 p x) sd st be wa p (z.2.1, z.2.2.1, z.2.2.2.2.1) 5).2.1, tlP z.2.2.2.1 x, (raL (upd z.1 p x) sd st be wa p (z.2.1, z.2.2.1, z.2.2.2.2.1) 5).2.2, nsP z.2.2.2.2.2.1 x, z.2.2.2.2.2.2)
def jnX (ce sd st : Nat → Int32) (p t : Nat) : Int32 := nI t ||| ((ifL ce sd st p t 4) <<< (nI 6 &&& 31))
def fsJoin (sd st : Nat → Int32) (be : Nat → Int64) (wa : Int32) (p t : Nat) (z : FS) : FS := fsPut sd st be wa p (jnX z.1 sd st p t) (z.1, z.2.1, z.2.2.1, z.2.2.2.1, z.2.2.2.2.1, z.2.2.2.2.2.1, nI 1)
def fsTake (sd st : Nat → Int32) (be : Nat → Int64) (wa : Int32) (p : Nat) (z : FS) : FS :=
  (upd z.1 p (nI 0), (raL (upd z.1 p (nI 0)) sd st be wa p (z.2.1, z.2.2.1, z.2.2.2.2.1) 5).1, (raL (upd z.1 p (nI 0)) sd st be wa p (z.2.1, z.2.2.1, z.2.2.2.2.1) 5).2.1, tlT z.2.2.2.1 (tyN (z.1 p)), (raL (upd z.1 p (nI 0)) sd st be wa p (z.2.1, z.2.2.1, z.2.2.2.2.1) 5).2.2, nsT z.2.2.2.2.2.1 (z.1 p), awT z.2.2.2.2.2.2 (tlT z.2.2.2.1 (tyN (z.1 p))))
abbrev plN (a b : Nat) : Nat := (b + 1) * 42 + a + 1
abbrev plO (x y : Int32) : Nat := plN (nn x) (nn y)
theorem pl_in {a b : Nat} (ha : a < 40) (hb : b < 40) : 43 ≤ plN a b ∧ plN a b ≤ 1720 := by
  unfold plN
  omega
def drF (sd st : Nat → Int32) (be : Nat → Int64) (wa : Int32) (p : Nat) (z : FS) : FS := if tyN (z.1 p) = 0 then z else fsTake sd st be wa p z
def hsN (x : Int64) (y : Int32) : Nat := if x &&& (1 <<< ((y - nI 1).toInt64 &&& 63)) = 0 then 0 else 1
theorem hsN_le (x : Int64) (y : Int32) : hsN x y ≤ 1 := by
  unfold hsN
  split <;> decide
def aiF (sd st : Nat → Int32) (be : Nat → Int64) (wa : Int32) (p t : Nat) (z : FS) : FS := if hsN (z.2.1 p) (nI t) = 0 then z else fsJoin sd st be wa p t z
theorem tyN_seed {k : Nat} (h : k < 64) : tyN (nI k ||| nI 1024) = k := by
  have := tyN_or h (nI 16)
  rwa [show (nI 16) <<< (nI 6 &&& 31) = nI 1024 from by decide +kernel] at this
def ptN (n w : Nat) : Nat := if w = 0 then n / 64 % 42 - 1 else if w = 1 then n / 64 / 42 - 1 else n % 64
def atV (ce : Nat → Int32) (p : Nat) (w : Int32) : Int32 := if w = nI 0 then nI (tyN (ce p)) else if tyN (ce p) = 0 then -1 else if w = nI 1 then nI (inN (ce p)) else if w = nI 2 then otL ce p 4 else nI (sdN (ce p))
set_option maxHeartbeats 4000000 in
set_option maxRecDepth 100000 in
/-- placeIn -/
theorem k_TB_placeIn (l : Launch) (D : va_G) (cI cJ : ClassId) (n : Nat) (hn : n < 2 ^ 31) : Met l y_TB_placeIn ws_TB_placeIn ({ frames := 0, cells := 0, slots := 0, locals := 0 } : Room) (va_Pc [.int (nI n)] (Pp D cI cJ [])) (vp_Si (fun r : Int32 => r = nI (n / 64))) 0 0 (fun _ => False) := by
  refine Met.ofW (cc := c_TB_placeIn) (maxL := 1) (ret := (some .int)) (by decide) rfl ?_
  intro p e s m args below meth c s₁ B hml hv
  obtain ⟨rfl, hE, hP, hX⟩ := hv
  have hx := B.exec
  have hb := B.bytes
  have hr := B.returns
  have hw : ∀ w ∈ gw, w.before _ s = true := fun w h => atoms_spec (ws := ws_TB_placeIn) B.pre w (List.mem_cons_of_mem _ h)
  have hown : s.vm.findClass R_TB = some m.cls := findClass_of_methodNamed B.named
  have hlocks := B.notSynchronized
  have hS : va_S (fun _ => False) s.heap s.heap [] := va_S.rf
  have hl := lv_entry ([.int (nI n)]) (n := 1) (Nat.le_of_ble_eq_true rfl)
  rw [lg_entry_eq]
  generalize (lg_sl ([.int (nI n)]) ++ List.replicate (1 - (lg_sl ([.int (nI n)])).length) Slot.unset).toArray = ls at hl ⊢
  have hl : lv_has ls 1 [(0, .int (nI n))] := hl
  refine lv_iload_n hx hb d_TB_placeIn_0 rfl (lv_at hl 0 rfl) ?_
  refine lv_bipush (v := nI 6) hx hb d_TB_placeIn_1 (by decide +kernel) ?_
  refine lv_ishr hx hb d_TB_placeIn_3 ?_
  exact W.iret (v := (nI n) >>> ((nI 6) &&& 31)) hx hb hr (fun t9 ht hW => ⟨_, rfl, (pk_shrN hn _ 6 (by decide +kernel)), ht⟩) (fun q h => by cases h) d_TB_placeIn_4
set_option maxHeartbeats 4000000 in
set_option maxRecDepth 100000 in
/-- typeIn -/
theorem k_TB_typeIn (l : Launch) (D : va_G) (cI cJ : ClassId) (n : Nat) (hn : n < 2 ^ 31) : Met l y_TB_typeIn ws_TB_typeIn ({ frames := 0, cells := 0, slots := 0, locals := 0 } : Room) (va_Pc [.int (nI n)] (Pp D cI cJ [])) (vp_Si (fun r : Int32 => r = nI (n % 64))) 0 0 (fun _ => False) := by
  refine Met.ofW (cc := c_TB_typeIn) (maxL := 1) (ret := (some .int)) (by decide) rfl ?_
  intro p e s m args below meth c s₁ B hml hv
  obtain ⟨rfl, hE, hP, hX⟩ := hv
  have hx := B.exec
  have hb := B.bytes
  have hr := B.returns
  have hw : ∀ w ∈ gw, w.before _ s = true := fun w h => atoms_spec (ws := ws_TB_typeIn) B.pre w (List.mem_cons_of_mem _ h)
  have hown : s.vm.findClass R_TB = some m.cls := findClass_of_methodNamed B.named
  have hlocks := B.notSynchronized
  have hS : va_S (fun _ => False) s.heap s.heap [] := va_S.rf
  have hl := lv_entry ([.int (nI n)]) (n := 1) (Nat.le_of_ble_eq_true rfl)
  rw [lg_entry_eq]
  generalize (lg_sl ([.int (nI n)]) ++ List.replicate (1 - (lg_sl ([.int (nI n)])).length) Slot.unset).toArray = ls at hl ⊢
  have hl : lv_has ls 1 [(0, .int (nI n))] := hl
  refine lv_iload_n hx hb d_TB_typeIn_0 rfl (lv_at hl 0 rfl) ?_
  refine lv_bipush (v := nI 63) hx hb d_TB_typeIn_1 (by decide +kernel) ?_
  refine lv_iand hx hb d_TB_typeIn_3 ?_
  exact W.iret (v := (nI n) &&& (nI 63)) hx hb hr (fun t9 ht hW => ⟨_, rfl, (pk_andN (by omega) 6 (by decide +kernel)), ht⟩) (fun q h => by cases h) d_TB_typeIn_4
set_option maxHeartbeats 4000000 in
set_option maxRecDepth 100000 in
/-- xOf -/
theorem k_TB_xOf (l : Launch) (D : va_G) (cI cJ : ClassId) (n : Nat) (hn : n < 2 ^ 31) (h1 : 1 ≤ n % 42) : Met l y_TB_xOf ws_TB_xOf ({ frames := 0, cells := 0, slots := 0, locals := 0 } : Room) (va_Pc [.int (nI n)] (Pp D cI cJ [])) (vp_Si (fun r : Int32 => r = nI (n % 42 - 1))) 0 0 (fun _ => False) := by
  refine Met.ofW (cc := c_TB_xOf) (maxL := 1) (ret := (some .int)) (by decide) rfl ?_
  intro p e s m args below meth c s₁ B hml hv
  obtain ⟨rfl, hE, hP, hX⟩ := hv
  have hx := B.exec
  have hb := B.bytes
  have hr := B.returns
  have hw : ∀ w ∈ gw, w.before _ s = true := fun w h => atoms_spec (ws := ws_TB_xOf) B.pre w (List.mem_cons_of_mem _ h)
  have hown : s.vm.findClass R_TB = some m.cls := findClass_of_methodNamed B.named
  have hlocks := B.notSynchronized
  have hS : va_S (fun _ => False) s.heap s.heap [] := va_S.rf
  have hl := lv_entry ([.int (nI n)]) (n := 1) (Nat.le_of_ble_eq_true rfl)
  rw [lg_entry_eq]
  generalize (lg_sl ([.int (nI n)]) ++ List.replicate (1 - (lg_sl ([.int (nI n)])).length) Slot.unset).toArray = ls at hl ⊢
  have hl : lv_has ls 1 [(0, .int (nI n))] := hl
  refine lv_iload_n hx hb d_TB_xOf_0 rfl (lv_at hl 0 rfl) ?_
  refine lv_bipush (v := nI 42) hx hb d_TB_xOf_1 (by decide +kernel) ?_
  refine jn_irem (a := n) (b := 42) hx hb d_TB_xOf_3 (by omega) (by omega) (by omega) ?_
  refine lv_iconst (v := nI 1) hx hb d_TB_xOf_4 (by decide +kernel) ?_
  refine jn_isub (a := (n % 42)) (b := 1) hx hb d_TB_xOf_5 (by omega) ?_
  exact W.iret (v := nI ((n % 42) - 1)) hx hb hr (fun t9 ht hW => ⟨_, rfl, rfl, ht⟩) (fun q h => by cases h) d_TB_xOf_6
set_option maxHeartbeats 4000000 in
set_option maxRecDepth 100000 in
/-- yOf -/
theorem k_TB_yOf (l : Launch) (D : va_G) (cI cJ : ClassId) (n : Nat) (hn : n < 2 ^ 31) (h1 : 42 ≤ n) : Met l y_TB_yOf ws_TB_yOf ({ frames := 0, cells := 0, slots := 0, locals := 0 } : Room) (va_Pc [.int (nI n)] (Pp D cI cJ [])) (vp_Si (fun r : Int32 => r = nI (n / 42 - 1))) 0 0 (fun _ => False) := by
  refine Met.ofW (cc := c_TB_yOf) (maxL := 1) (ret := (some .int)) (by decide) rfl ?_
  intro p e s m args below meth c s₁ B hml hv
  obtain ⟨rfl, hE, hP, hX⟩ := hv
  have hx := B.exec
  have hb := B.bytes
  have hr := B.returns
  have hw : ∀ w ∈ gw, w.before _ s = true := fun w h => atoms_spec (ws := ws_TB_yOf) B.pre w (List.mem_cons_of_mem _ h)
  have hown : s.vm.findClass R_TB = some m.cls := findClass_of_methodNamed B.named
  have hlocks := B.notSynchronized
  have hS : va_S (fun _ => False) s.heap s.heap [] := va_S.rf
  have hl := lv_entry ([.int (nI n)]) (n := 1) (Nat.le_of_ble_eq_true rfl)
  rw [lg_entry_eq]
  generalize (lg_sl ([.int (nI n)]) ++ List.replicate (1 - (lg_sl ([.int (nI n)])).length) Slot.unset).toArray = ls at hl ⊢
  have hl : lv_has ls 1 [(0, .int (nI n))] := hl
  refine lv_iload_n hx hb d_TB_yOf_0 rfl (lv_at hl 0 rfl) ?_
  refine lv_bipush (v := nI 42) hx hb d_TB_yOf_1 (by decide +kernel) ?_
  refine jn_idiv (a := n) (b := 42) hx hb d_TB_yOf_3 (by omega) (by omega) (by omega) ?_
  refine lv_iconst (v := nI 1) hx hb d_TB_yOf_4 (by decide +kernel) ?_
  refine jn_isub (a := (n / 42)) (b := 1) hx hb d_TB_yOf_5 (by omega) ?_
  exact W.iret (v := nI ((n / 42) - 1)) hx hb hr (fun t9 ht hW => ⟨_, rfl, rfl, ht⟩) (fun q h => by cases h) d_TB_yOf_6
set_option maxHeartbeats 4000000 in
set_option maxRecDepth 100000 in
/-- partOf -/
theorem k_TB_partOf (l : Launch) (D : va_G) (cI cJ : ClassId) (n : Nat) (w : Nat) (hn : n < 2 ^ 31) (h1 : 42 ≤ n / 64) (h2 : 1 ≤ n / 64 % 42) (hw9 : w ≤ 2) : Met l y_TB_partOf ws_TB_partOf ({ frames := 1, cells := 0, slots := 0, locals := 20 } : Room) (va_Pc [.int (nI n), .int (nI w)] (Pp D cI cJ [])) (vp_Si (fun r : Int32 => r = nI (ptN n w))) 0 0 (fun _ => False) := by
  refine Met.ofW (cc := c_TB_partOf) (maxL := 2) (ret := (some .int)) (by decide) rfl ?_
  intro p e s m args below meth c s₁ B hml hv
  obtain ⟨rfl, hE, hP, hX⟩ := hv
  have hx := B.exec
  have hb := B.bytes
  have hr := B.returns
  have hw : ∀ w ∈ gw, w.before _ s = true := fun w h => atoms_spec (ws := ws_TB_partOf) B.pre w (List.mem_cons_of_mem _ h)
  have hown : s.vm.findClass R_TB = some m.cls := findClass_of_methodNamed B.named
  have hlocks := B.notSynchronized
  have hS : va_S (fun _ => False) s.heap s.heap [] := va_S.rf
  have hl := lv_entry ([.int (nI n), .int (nI w)]) (n := 2) (Nat.le_of_ble_eq_true rfl)
  rw [lg_entry_eq]
  generalize (lg_sl ([.int (nI n), .int (nI w)]) ++ List.replicate (2 - (lg_sl ([.int (nI n), .int (nI w)])).length) Slot.unset).toArray = ls at hl ⊢
  have hl : lv_has ls 2 [(0, .int (nI n)), (1, .int (nI w))] := hl
  refine lv_iload_n hx hb d_TB_partOf_0 rfl (lv_at hl 1 rfl) ?_
  rcases (show w = 0 ∨ w = 1 ∨ w = 2 by omega) with rfl | rfl | rfl
  · skip
    refine lv_lookup (off := 27) (tgt := 28) hx hb d_TB_partOf_1 (by decide) (by decide +kernel) (by decide) ?_
    refine lv_iload_n hx hb d_TB_partOf_28 rfl (lv_at hl 0 rfl) ?_
    refine vp_callSi (va_Run.run (va_runS (As := [.int (nI n)]) (rest := []) ⟨hx, hb, hml, hown, hw⟩ (k_TB_placeIn l D cI cJ n (by omega)) (va_cwS 1 hw (gS kw_536 kw_537 kw_40 kw_538) rfl rfl rfl (by decide +kernel) ⟨Nat.le_of_ble_eq_true rfl, Nat.le_of_ble_eq_true rfl⟩) (pre_Sp (wc := []) hE hX hP hS [] rfl) rfl rfl hl.1 rfl (lv_room (Nat.le_of_ble_eq_true rfl)) d_TB_partOf_29 ⟨Nat.le_of_ble_eq_true rfl, Nat.le_of_ble_eq_true rfl⟩)) (fun r_1 hr_1 => ?_)
    obtain rfl : nI (n / 64) = r_1 := hr_1.symm
    refine vp_callSi (va_Run.run (va_runS (As := [.int (nI (n / 64))]) (rest := []) ⟨hx, hb, hml, hown, hw⟩ (k_TB_xOf l D cI cJ (n / 64) (by omega) (by omega)) (va_cwS 1 hw (gS kw_573 kw_574 kw_40 kw_575) rfl rfl rfl (by decide +kernel) ⟨Nat.le_of_ble_eq_true rfl, Nat.le_of_ble_eq_true rfl⟩) (pre_Sp (wc := []) hE hX hP hS [] rfl) rfl rfl hl.1 rfl (lv_room (Nat.le_of_ble_eq_true rfl)) d_TB_partOf_32 ⟨Nat.le_of_ble_eq_true rfl, Nat.le_of_ble_eq_true rfl⟩)) (fun r_2 hr_2 => ?_)
    obtain rfl : nI ((n / 64) % 42 - 1) = r_2 := hr_2.symm
    exact W.iret (v := nI ((n / 64) % 42 - 1)) hx hb hr (fun t9 ht hW => ⟨_, rfl, rfl, ht⟩) (fun q h => by cases h) d_TB_partOf_35
  · skip
    refine lv_lookup (off := 35) (tgt := 36) hx hb d_TB_partOf_1 (by decide) (by decide +kernel) (by decide) ?_
    refine lv_iload_n hx hb d_TB_partOf_36 rfl (lv_at hl 0 rfl) ?_
    refine vp_callSi (va_Run.run (va_runS (As := [.int (nI n)]) (rest := []) ⟨hx, hb, hml, hown, hw⟩ (k_TB_placeIn l D cI cJ n (by omega)) (va_cwS 1 hw (gS kw_536 kw_537 kw_40 kw_538) rfl rfl rfl (by decide +kernel) ⟨Nat.le_of_ble_eq_true rfl, Nat.le_of_ble_eq_true rfl⟩) (pre_Sp (wc := []) hE hX hP hS [] rfl) rfl rfl hl.1 rfl (lv_room (Nat.le_of_ble_eq_true rfl)) d_TB_partOf_37 ⟨Nat.le_of_ble_eq_true rfl, Nat.le_of_ble_eq_true rfl⟩)) (fun r_3 hr_3 => ?_)
    obtain rfl : nI (n / 64) = r_3 := hr_3.symm
    refine vp_callSi (va_Run.run (va_runS (As := [.int (nI (n / 64))]) (rest := []) ⟨hx, hb, hml, hown, hw⟩ (k_TB_yOf l D cI cJ (n / 64) (by omega) (by omega)) (va_cwS 1 hw (gS kw_576 kw_577 kw_40 kw_578) rfl rfl rfl (by decide +kernel) ⟨Nat.le_of_ble_eq_true rfl, Nat.le_of_ble_eq_true rfl⟩) (pre_Sp (wc := []) hE hX hP hS [] rfl) rfl rfl hl.1 rfl (lv_room (Nat.le_of_ble_eq_true rfl)) d_TB_partOf_40 ⟨Nat.le_of_ble_eq_true rfl, Nat.le_of_ble_eq_true rfl⟩)) (fun r_4 hr_4 => ?_)
    obtain rfl : nI ((n / 64) / 42 - 1) = r_4 := hr_4.symm
    exact W.iret (v := nI ((n / 64) / 42 - 1)) hx hb hr (fun t9 ht hW => ⟨_, rfl, rfl, ht⟩) (fun q h => by cases h) d_TB_partOf_43
  · skip
    refine lv_lookup (off := 43) (tgt := 44) hx hb d_TB_partOf_1 (by decide) (by decide +kernel) (by decide) ?_
    refine lv_iload_n hx hb d_TB_partOf_44 rfl (lv_at hl 0 rfl) ?_
    refine vp_callSi (va_Run.run (va_runS (As := [.int (nI n)]) (rest := []) ⟨hx, hb, hml, hown, hw⟩ (k_TB_typeIn l D cI cJ n (by omega)) (va_cwS 1 hw (gS kw_539 kw_540 kw_40 kw_541) rfl rfl rfl (by decide +kernel) ⟨Nat.le_of_ble_eq_true rfl, Nat.le_of_ble_eq_true rfl⟩) (pre_Sp (wc := []) hE hX hP hS [] rfl) rfl rfl hl.1 rfl (lv_room (Nat.le_of_ble_eq_true rfl)) d_TB_partOf_45 ⟨Nat.le_of_ble_eq_true rfl, Nat.le_of_ble_eq_true rfl⟩)) (fun r_5 hr_5 => ?_)
    obtain rfl : nI (n % 64) = r_5 := hr_5.symm
    exact W.iret (v := nI (n % 64)) hx hb hr (fun t9 ht hW => ⟨_, rfl, rfl, ht⟩) (fun q h => by cases h) d_TB_partOf_48
set_option maxHeartbeats 4000000 in
set_option maxRecDepth 100000 in
/-- has -/
theorem k_TB_has (l : Launch) (D : va_G) (cI cJ : ClassId) (x : Int64) (y : Int32)  : Met l y_TB_has ws_TB_has ({ frames := 1, cells := 0, slots := 0, locals := 20 } : Room) (va_Pc [.long x, .int y] (Pp D cI cJ [])) (vp_Si (fun r : Int32 => r = nI (hsN x y))) 0 0 (fun _ => False) := by
  refine Met.ofW (cc := c_TB_has) (maxL := 3) (ret := (some .boolean)) (by decide) rfl ?_
  intro p e s m args below meth c s₁ B hml hv
  obtain ⟨rfl, hE, hP, hX⟩ := hv
  have hx := B.exec
  have hb := B.bytes
  have hr := B.returns
  have hw : ∀ w ∈ gw, w.before _ s = true := fun w h => atoms_spec (ws := ws_TB_has) B.pre w (List.mem_cons_of_mem _ h)
  have hown : s.vm.findClass R_TB = some m.cls := findClass_of_methodNamed B.named
  have hlocks := B.notSynchronized
  have hS : va_S (fun _ => False) s.heap s.heap [] := va_S.rf
  have hl := lv_entry ([.long x, .int y]) (n := 3) (Nat.le_of_ble_eq_true rfl)
  rw [lg_entry_eq]
  generalize (lg_sl ([.long x, .int y]) ++ List.replicate (3 - (lg_sl ([.long x, .int y])).length) Slot.unset).toArray = ls at hl ⊢
  have hl : lv_has ls 3 [(0, .long x), (2, .int y)] := hl
  refine lv_lload_n hx hb d_TB_has_0 rfl (lv_at hl 0 rfl) ?_
  refine lv_iload_n hx hb d_TB_has_1 rfl (lv_at hl 1 rfl) ?_
  refine vp_callSl (va_Run.run (va_runS (As := [.int y]) (rest := [.long x]) ⟨hx, hb, hml, hown, hw⟩ (k_TB_only l D cI cJ y) (va_cwS 1 hw (gS kw_491 kw_373 kw_40 kw_374) rfl rfl rfl (by decide +kernel) ⟨Nat.le_of_ble_eq_true rfl, Nat.le_of_ble_eq_true rfl⟩) (pre_Sp (wc := []) hE hX hP hS [] rfl) rfl rfl hl.1 rfl (lv_room (Nat.le_of_ble_eq_true rfl)) d_TB_has_2 ⟨Nat.le_of_ble_eq_true rfl, Nat.le_of_ble_eq_true rfl⟩)) (fun r_1 hr_1 => ?_)
  obtain rfl : 1 <<< ((y - nI 1).toInt64 &&& 63) = r_1 := hr_1.symm
  refine lv_land hx hb d_TB_has_5 ?_
  refine lv_lconst (v := 0) hx hb d_TB_has_6 (by decide +kernel) ?_
  refine W.lcmp hx hb d_TB_has_7 ?_
  refine lv_if_eq (tgt := 15) hx hb d_TB_has_8 (by decide) (fun c_8 => ?_) (fun c_8 => ?_)
  · skip
    refine lv_iconst (v := nI 0) hx hb d_TB_has_15 (by decide +kernel) ?_
    exact W.zret (v := nI 0) hx hb hr (by decide +kernel) (fun t9 ht hW => ⟨_, rfl, (by unfold hsN; rw [if_pos ((lg_cmp_eq _ _).mp c_8)]), ht⟩) (fun q h => by cases h) d_TB_has_16
  · skip
    refine lv_iconst (v := nI 1) hx hb d_TB_has_11 (by decide +kernel) ?_
    refine lv_goto (tgt := 16) hx hb d_TB_has_12 (by decide) ?_
    exact W.zret (v := nI 1) hx hb hr (by decide +kernel) (fun t9 ht hW => ⟨_, rfl, (by unfold hsN; rw [if_neg (fun z => c_8 ((lg_cmp_eq _ _).mpr z))]), ht⟩) (fun q h => by cases h) d_TB_has_16
set_option maxHeartbeats 4000000 in
set_option maxRecDepth 100000 in
/-- least -/
theorem k_TB_least (l : Launch) (D : va_G) (cI cJ : ClassId) (x : Int64)  : Met l y_TB_least ws_TB_least ({ frames := 1, cells := 0, slots := 0, locals := 21 } : Room) (va_Pc [.long x] (Pp D cI cJ [])) (vp_Si (fun r : Int32 => r = bcL ((x &&& -x) - 1) + nI 1)) 0 0 (fun _ => False) := by
  refine Met.ofW (cc := c_TB_least) (maxL := 2) (ret := (some .int)) (by decide) rfl ?_
  intro p e s m args below meth c s₁ B hml hv
  obtain ⟨rfl, hE, hP, hX⟩ := hv
  have hx := B.exec
  have hb := B.bytes
  have hr := B.returns
  have hw : ∀ w ∈ gw, w.before _ s = true := fun w h => atoms_spec (ws := ws_TB_least) B.pre w (List.mem_cons_of_mem _ h)
  have hown : s.vm.findClass R_TB = some m.cls := findClass_of_methodNamed B.named
  have hlocks := B.notSynchronized
  have hS : va_S (fun _ => False) s.heap s.heap [] := va_S.rf
  have hl := lv_entry ([.long x]) (n := 2) (Nat.le_of_ble_eq_true rfl)
  rw [lg_entry_eq]
  generalize (lg_sl ([.long x]) ++ List.replicate (2 - (lg_sl ([.long x])).length) Slot.unset).toArray = ls at hl ⊢
  have hl : lv_has ls 2 [(0, .long x)] := hl
  refine lv_lload_n hx hb d_TB_least_0 rfl (lv_at hl 0 rfl) ?_
  refine lv_lload_n hx hb d_TB_least_1 rfl (lv_at hl 0 rfl) ?_
  refine lv_lneg hx hb d_TB_least_2 ?_
  refine lv_land hx hb d_TB_least_3 ?_
  refine lv_lconst (v := 1) hx hb d_TB_least_4 (by decide +kernel) ?_
  refine lv_lsub hx hb d_TB_least_5 ?_
  refine vp_callSi (va_Run.run (va_runS (As := [.long ((x &&& (-x)) - 1)]) (rest := []) ⟨hx, hb, hml, hown, hw⟩ (k_JL_bitCount l D cI cJ ((x &&& (-x)) - 1)) (va_cwS 1 hw (gS kw_532 kw_472 kw_53 kw_473) rfl rfl rfl (by decide +kernel) ⟨Nat.le_of_ble_eq_true rfl, Nat.le_of_ble_eq_true rfl⟩) (pre_Sp (wc := []) hE hX hP hS [] rfl) rfl rfl hl.1 rfl (lv_room (Nat.le_of_ble_eq_true rfl)) d_TB_least_6 ⟨Nat.le_of_ble_eq_true rfl, Nat.le_of_ble_eq_true rfl⟩)) (fun r_1 hr_1 => ?_)
  obtain rfl : bcL ((x &&& (-x)) - 1) = r_1 := hr_1.symm
  refine lv_iconst (v := nI 1) hx hb d_TB_least_9 (by decide +kernel) ?_
  refine lv_iadd hx hb d_TB_least_10 ?_
  exact W.iret (v := (bcL ((x &&& (-x)) - 1)) + (nI 1)) hx hb hr (fun t9 ht hW => ⟨_, rfl, rfl, ht⟩) (fun q h => by cases h) d_TB_least_11
set_option maxHeartbeats 4000000 in
set_option maxRecDepth 100000 in
/-- drop -/
theorem k_TB_drop (l : Launch) (hfl : l.stackTraces = false) (D : va_G) (cI cJ : ClassId) (x0 : Nat) (c0 : Nat) (e0 : Nat) (f0 : Nat) (f1 : Nat) (f2 : Nat) (f3 : Nat) (f4 : Nat) (o1 : Nat) (np : Int32) (ns : Int32) (aw : Int32) (s1 : Nat) (s2 : Nat) (s3 : Nat) (ty : Int32) (wa : Int32) (st : Nat → Int32) (sd : Nat → Int32) (be : Nat → Int64) (ce : Nat → Int32) (oq : Nat → Int64) (rp : Nat → Int32) (tl : Nat → Int32) (x : Int32) (y : Int32) (sz : Nat) (hce : okCe ce) (hsd : okSd sd) (hst : okSt st) : vx_Met l y_TB_drop ws_TB_drop ({ frames := 7, cells := 1, slots := 6, locals := 111 } : Room) (va_Pc [.ref x0, .int x, .int y] (Pw D cI cJ [(x0, .inr (0, [.ref o1, .ref f0, .ref c0, .ref e0])), (f0, .inr (2, [.ref o1, .ref f1, .ref f2, .ref f3, .ref f4, .int np, .int ns, .int aw])), (f1, .inl (cI, 1764, .inl ce)), (f2, .inl (cJ, 1764, .inr (.inl oq))), (f3, .inl (cI, 42, .inl rp)), (f4, .inl (cI, 61, .inl tl)), (o1, .inr (1, [.ref s1, .ref s2, .ref s3, .int ty, .int wa])), (s1, .inl (cI, 100, .inl st)), (s2, .inl (cI, 244, .inl sd)), (s3, .inl (cJ, 400, .inr (.inl be)))] sz)) (va_Qi (fun (r : Int32) (u9 : (Nat → Int32) × (Nat → Int64) × (Nat → Int32) × (Nat → Int32) × Int32 × Int32 × Int32) => r = nI (tyN (ce (plO x y))) ∧ u9 = drF sd st be wa (plO x y) (ce, oq, rp, tl, np, ns, aw)) (fun u9 t9 => Bw D (va_A [(x0, .inr (0, [.ref o1, .ref f0, .ref c0, .ref e0])), (f0, .inr (2, [.ref o1, .ref f1, .ref f2, .ref f3, .ref f4, .int np, .int ns, .int aw])), (f1, .inl (cI, 1764, .inl ce)), (f2, .inl (cJ, 1764, .inr (.inl oq))), (f3, .inl (cI, 42, .inl rp)), (f4, .inl (cI, 61, .inl tl)), (o1, .inr (1, [.ref s1, .ref s2, .ref s3, .int ty, .int wa])), (s1, .inl (cI, 100, .inl st)), (s2, .inl (cI, 244, .inl sd)), (s3, .inl (cJ, 400, .inr (.inl be)))] sz) [(x0, .inr (0, [.ref o1, .ref f0, .ref c0, .ref e0])), (f0, .inr (2, [.ref o1, .ref f1, .ref f2, .ref f3, .ref f4, .int u9.2.2.2.2.1, .int u9.2.2.2.2.2.1, .int u9.2.2.2.2.2.2])), (f1, .inl (cI, 1764, .inl u9.1)), (f2, .inl (cJ, 1764, .inr (.inl u9.2.1))), (f3, .inl (cI, 42, .inl u9.2.2.1)), (f4, .inl (cI, 61, .inl u9.2.2.2.1)), (o1, .inr (1, [.ref s1, .ref s2, .ref s3, .int ty, .int wa])), (s1, .inl (cI, 100, .inl st)), (s2, .inl (cI, 244, .inl sd)), (s3, .inl (cJ, 400, .inr (.inl be)))] t9) (va_A [(x0, .inr (0, [.ref o1, .ref f0, .ref c0, .ref e0])), (f0, .inr (2, [.ref o1, .ref f1, .ref f2, .ref f3, .ref f4, .int np, .int ns, .int aw])), (f1, .inl (cI, 1764, .inl ce)), (f2, .inl (cJ, 1764, .inr (.inl oq))), (f3, .inl (cI, 42, .inl rp)), (f4, .inl (cI, 61, .inl tl)), (o1, .inr (1, [.ref s1, .ref s2, .ref s3, .int ty, .int wa])), (s1, .inl (cI, 100, .inl st)), (s2, .inl (cI, 244, .inl sd)), (s3, .inl (cJ, 400, .inr (.inl be)))] sz)) (nd_X (fun E => E = "java/lang/IndexOutOfBoundsException" ∧ (x < 0 ∨ nI 40 ≤ x ∨ y < 0 ∨ ¬ y < nI 40))) 1 6 (va_A [(x0, .inr (0, [.ref o1, .ref f0, .ref c0, .ref e0])), (f0, .inr (2, [.ref o1, .ref f1, .ref f2, .ref f3, .ref f4, .int np, .int ns, .int aw])), (f1, .inl (cI, 1764, .inl ce)), (f2, .inl (cJ, 1764, .inr (.inl oq))), (f3, .inl (cI, 42, .inl rp)), (f4, .inl (cI, 61, .inl tl)), (o1, .inr (1, [.ref s1, .ref s2, .ref s3, .int ty, .int wa])), (s1, .inl (cI, 100, .inl st)), (s2, .inl (cI, 244, .inl sd)), (s3, .inl (cJ, 400, .inr (.inl be)))] sz) := by
  refine vx_ofW (cc := c_TB_drop) (maxL := 5) (ret := (some .int)) (by decide) rfl ?_
  intro p e s m args below meth c s₁ B hml hno hv
  obtain ⟨rfl, hsz, hE, hP, hD0, hX⟩ := hv
  have hx := B.exec
  have hb := B.bytes
  have hr := B.returns
  have hw : ∀ w ∈ gw, w.before _ s = true := fun w h => atoms_spec (ws := ws_TB_drop) B.pre w (List.mem_cons_of_mem _ h)
  have hown : s.vm.findClass R_TB = some m.cls := findClass_of_methodNamed B.named
  have hlocks := B.notSynchronized
  subst hsz
  have hD := hD0.self (sz := s.heap.size)
  generalize hAe : va_A [(x0, .inr (0, [.ref o1, .ref f0, .ref c0, .ref e0])), (f0, .inr (2, [.ref o1, .ref f1, .ref f2, .ref f3, .ref f4, .int np, .int ns, .int aw])), (f1, .inl (cI, 1764, .inl ce)), (f2, .inl (cJ, 1764, .inr (.inl oq))), (f3, .inl (cI, 42, .inl rp)), (f4, .inl (cI, 61, .inl tl)), (o1, .inr (1, [.ref s1, .ref s2, .ref s3, .int ty, .int wa])), (s1, .inl (cI, 100, .inl st)), (s2, .inl (cI, 244, .inl sd)), (s3, .inl (cJ, 400, .inr (.inl be)))] s.heap.size = A at hD hX ⊢
  have hA : ∀ q : Nat, s.heap.size ≤ q → A q := fun q h => by rw [← hAe]; exact Or.inr h
  have hS : va_S A s.heap s.heap [] := va_S.rf
  have hP : va_P D vwCl [(x0, .inr (0, [.ref o1, .ref f0, .ref c0, .ref e0])), (f0, .inr (2, [.ref o1, .ref f1, .ref f2, .ref f3, .ref f4, .int np, .int ns, .int aw])), (f1, .inl (cI, 1764, .inl ce)), (f2, .inl (cJ, 1764, .inr (.inl oq))), (f3, .inl (cI, 42, .inl rp)), (f4, .inl (cI, 61, .inl tl)), (o1, .inr (1, [.ref s1, .ref s2, .ref s3, .int ty, .int wa])), (s1, .inl (cI, 100, .inl st)), (s2, .inl (cI, 244, .inl sd)), (s3, .inl (cJ, 400, .inr (.inl be)))] s.heap := hP
  have hl := lv_entry ([.ref x0, .int x, .int y]) (n := 5) (Nat.le_of_ble_eq_true rfl)
  rw [lg_entry_eq]
  generalize (lg_sl ([.ref x0, .int x, .int y]) ++ List.replicate (5 - (lg_sl ([.ref x0, .int x, .int y])).length) Slot.unset).toArray = ls at hl ⊢
  have hl : lv_has ls 5 [(0, .ref x0), (1, .int x), (2, .int y)] := hl
  refine lv_iload_n hx hb d_TB_drop_0 rfl (lv_at hl 1 rfl) ?_
  refine lv_iload_n hx hb d_TB_drop_1 rfl (lv_at hl 2 rfl) ?_
  refine nd_call (vx_runS (As := [.int x, .int y]) (rest := []) ⟨hx, hb, hml, hown, hw⟩ (k_TB_needPlace l hfl D cI cJ x y) (va_cwS 2 hw (gS kw_394 kw_395 kw_40 kw_396) rfl rfl rfl (by decide +kernel) ⟨Nat.le_of_ble_eq_true rfl, Nat.le_of_ble_eq_true rfl⟩) (pre_Sp (wc := []) hE hX hP hS [] rfl) rfl rfl hl.1 rfl (lv_room (Nat.le_of_ble_eq_true rfl)) d_TB_drop_2 ⟨Nat.le_of_ble_eq_true rfl, Nat.le_of_ble_eq_true rfl⟩) (fun E ce q9 H1 hex hc1 hc2 hc3 hc5 hc6 => ?_) (fun h_2 => ?_)
  · skip
    exact vx_out (fun x hx => (hno x hx).elim) hlocks hc1 hc2 hc3 (fun t9 ht hal => ⟨hex, by rw [ht]; exact hc5, fun q hq => by rw [ht]; exact hc6 q hq⟩) (fun q h => by cases h) (Nat.le_of_ble_eq_true rfl) (Nat.le_of_ble_eq_true rfl)
  obtain ⟨a9, ha9, rfl⟩ := within_nat0 h_2.1 h_2.2.1 (by decide)
  obtain ⟨b9, hb9, rfl⟩ := within_nat1 h_2.2.2.1 h_2.2.2.2 (by decide)
  obtain ⟨hp1, hp2⟩ := pl_in ha9 hb9
  refine lv_iload_n hx hb d_TB_drop_5 rfl (lv_at hl 1 rfl) ?_
  refine lv_iload_n hx hb d_TB_drop_6 rfl (lv_at hl 2 rfl) ?_
  refine vp_callSi (va_Run.run (va_runS (As := [.int (nI a9), .int (nI b9)]) (rest := []) ⟨hx, hb, hml, hown, hw⟩ (k_TB_placeOf l D cI cJ a9 b9) (va_cwS 2 hw (gS kw_418 kw_419 kw_40 kw_420) rfl rfl rfl (by decide +kernel) ⟨Nat.le_of_ble_eq_true rfl, Nat.le_of_ble_eq_true rfl⟩) (pre_Sp (wc := []) hE hX hP hS [] rfl) rfl rfl hl.1 rfl (lv_room (Nat.le_of_ble_eq_true rfl)) d_TB_drop_7 ⟨Nat.le_of_ble_eq_true rfl, Nat.le_of_ble_eq_true rfl⟩)) (fun r_2 hr_2 => ?_)
  obtain rfl : nI ((b9 + 1) * 42 + a9 + 1) = r_2 := hr_2.symm
  refine lv_istore_n (lv' := [(3, .int (nI ((b9 + 1) * 42 + a9 + 1))), (0, .ref x0), (1, .int (nI a9)), (2, .int (nI b9))]) hx hb d_TB_drop_10 rfl hl (by decide) rfl (fun ls hl => ?_)
  refine lv_aload_n hx hb d_TB_drop_11 rfl (lv_at hl 1 rfl) ?_
  refine va_get (D := D) (ci := 0) (v := .ref f0) (C := R_TB) (T := T_TB) (N := 4) hx hb hw in_TB hown hE.1 hP 0 rfl rfl 1 (by decide) (hw _ kw_183) (fun _ h9 => h9) rfl d_TB_drop_12 ?_
  refine lv_iload_n hx hb d_TB_drop_15 rfl (lv_at hl 0 rfl) ?_
  refine vp_callSi (va_Run.run (va_runV (As := [.int (nI ((b9 + 1) * 42 + a9 + 1))]) (rest := []) ⟨hx, hb, hml, hown, hw⟩ (k_FD_typeAt l D cI cJ f0 f1 f2 f3 f4 o1 np ns aw ce ((b9 + 1) * 42 + a9 + 1) (by unfold plN at hp1 hp2; omega)) (cwV 1 hw (gV kw_421 kw_422 kw_423 kw_42 kw_424) rfl rfl rfl (by decide +kernel) ⟨Nat.le_of_ble_eq_true rfl, Nat.le_of_ble_eq_true rfl⟩) (pre_Vp (wc := [(f0, .inr (2, [.ref o1, .ref f1, .ref f2, .ref f3, .ref f4, .int np, .int ns, .int aw])), (f1, .inl (cI, 1764, .inl ce))]) (q0 := 0) hE hX hP hS [1, 2] rfl rfl rfl) rfl rfl hl.1 rfl (lv_room (Nat.le_of_ble_eq_true rfl)) d_TB_drop_16 ⟨Nat.le_of_ble_eq_true rfl, Nat.le_of_ble_eq_true rfl⟩)) (fun r_3 hr_3 => ?_)
  obtain rfl : nI (tyN (ce ((b9 + 1) * 42 + a9 + 1))) = r_3 := hr_3.symm
  refine lv_istore (lv' := [(4, .int (nI (tyN (ce ((b9 + 1) * 42 + a9 + 1))))), (3, .int (nI ((b9 + 1) * 42 + a9 + 1))), (0, .ref x0), (1, .int (nI a9)), (2, .int (nI b9))]) hx hb d_TB_drop_19 hl (by decide) rfl (fun ls hl => ?_)
  refine lv_iload hx hb d_TB_drop_21 (lv_at hl 0 rfl) ?_
  refine jn_if_eq (tgt := 34) (a := (tyN (ce ((b9 + 1) * 42 + a9 + 1)))) hx hb d_TB_drop_23 (by decide) (by have := tyN_lt (ce ((b9 + 1) * 42 + a9 + 1)); omega) (fun c_23 => ?_) (fun c_23 => ?_)
  · skip
    refine lv_iload hx hb d_TB_drop_34 (lv_at hl 0 rfl) ?_
    have hP9 := hP.sub (ws' := [(x0, .inr (0, [.ref o1, .ref f0, .ref c0, .ref e0])), (f0, .inr (2, [.ref o1, .ref f1, .ref f2, .ref f3, .ref f4, .int np, .int ns, .int aw])), (f1, .inl (cI, 1764, .inl ce)), (f2, .inl (cJ, 1764, .inr (.inl oq))), (f3, .inl (cI, 42, .inl rp)), (f4, .inl (cI, 61, .inl tl)), (o1, .inr (1, [.ref s1, .ref s2, .ref s3, .int ty, .int wa])), (s1, .inl (cI, 100, .inl st)), (s2, .inl (cI, 244, .inl sd)), (s3, .inl (cJ, 400, .inr (.inl be)))]) [0, 1, 2, 3, 4, 5, 6, 7, 8, 9] rfl
    have hD9 := hD.sub (ws' := [(x0, .inr (0, [.ref o1, .ref f0, .ref c0, .ref e0])), (f0, .inr (2, [.ref o1, .ref f1, .ref f2, .ref f3, .ref f4, .int np, .int ns, .int aw])), (f1, .inl (cI, 1764, .inl ce)), (f2, .inl (cJ, 1764, .inr (.inl oq))), (f3, .inl (cI, 42, .inl rp)), (f4, .inl (cI, 61, .inl tl)), (o1, .inr (1, [.ref s1, .ref s2, .ref s3, .int ty, .int wa])), (s1, .inl (cI, 100, .inl st)), (s2, .inl (cI, 244, .inl sd)), (s3, .inl (cJ, 400, .inr (.inl be)))]) [0, 1, 2, 3, 4, 5, 6, 7, 8, 9] (by decide) rfl
    refine vx_ret ?_
    exact W.iret (v := nI (tyN (ce ((b9 + 1) * 42 + a9 + 1)))) hx hb hr (fun t9 ht hW => ⟨⟨_, (ce, oq, rp, tl, np, ns, aw), rfl, ⟨by unfold plO; rw [nn_nI (show a9 < 2 ^ 31 by omega), nn_nI (show b9 < 2 ^ 31 by omega)], by unfold plO drF; rw [nn_nI (show a9 < 2 ^ 31 by omega), nn_nI (show b9 < 2 ^ 31 by omega)]; exact (if_pos c_23).symm⟩, ⟨by rw [ht]; exact hP9, hD9⟩⟩, hS.F ht⟩) hS.2.2 d_TB_drop_36
  · skip
    refine lv_aload_n hx hb d_TB_drop_26 rfl (lv_at hl 2 rfl) ?_
    refine va_get (D := D) (ci := 0) (v := .ref f0) (C := R_TB) (T := T_TB) (N := 4) hx hb hw in_TB hown hE.1 hP 0 rfl rfl 1 (by decide) (hw _ kw_183) (fun _ h9 => h9) rfl d_TB_drop_27 ?_
    refine lv_iload_n hx hb d_TB_drop_30 rfl (lv_at hl 1 rfl) ?_
    refine cl_v (wr := [(x0, .inr (0, [.ref o1, .ref f0, .ref c0, .ref e0]))]) (va_runV (As := [.int (nI ((b9 + 1) * 42 + a9 + 1))]) (rest := []) ⟨hx, hb, hml, hown, hw⟩ (k_FD_take l D cI cJ f0 f1 f2 f3 f4 o1 np ns aw s1 s2 s3 ty wa st sd be ce oq rp ((b9 + 1) * 42 + a9 + 1) tl _ hp1 hp2 hce hsd hst) (cwV 1 hw (gV kw_558 kw_559 kw_560 kw_42 kw_561) rfl rfl rfl (by decide +kernel) ⟨Nat.le_of_ble_eq_true rfl, Nat.le_of_ble_eq_true rfl⟩) (pre_Vw (wc := [(f0, .inr (2, [.ref o1, .ref f1, .ref f2, .ref f3, .ref f4, .int np, .int ns, .int aw])), (f1, .inl (cI, 1764, .inl ce)), (f2, .inl (cJ, 1764, .inr (.inl oq))), (f3, .inl (cI, 42, .inl rp)), (f4, .inl (cI, 61, .inl tl)), (o1, .inr (1, [.ref s1, .ref s2, .ref s3, .int ty, .int wa])), (s1, .inl (cI, 100, .inl st)), (s2, .inl (cI, 244, .inl sd)), (s3, .inl (cJ, 400, .inr (.inl be)))]) (q0 := 0) hE hX hA hP hD hS [1, 2, 3, 4, 5, 6, 7, 8, 9] (by decide) rfl rfl rfl rfl) rfl rfl hl.1 rfl (lv_room (Nat.le_of_ble_eq_true rfl)) d_TB_drop_31 ⟨Nat.le_of_ble_eq_true rfl, Nat.le_of_ble_eq_true rfl⟩) hP hD hS hA [1, 2, 3, 4, 5, 6, 7, 8, 9] [0] rfl rfl (by decide) (by decide) (fun u_r_4 H locs hr_4 hP hD hS => ?_)
    have hP : va_P D vwCl [(x0, .inr (0, [.ref o1, .ref f0, .ref c0, .ref e0])), (f0, .inr (2, [.ref o1, .ref f1, .ref f2, .ref f3, .ref f4, .int ((raL (upd ce ((b9 + 1) * 42 + a9 + 1) (nI 0)) sd st be wa ((b9 + 1) * 42 + a9 + 1) (oq, rp, np) 5).2.2), .int (nsT ns (ce ((b9 + 1) * 42 + a9 + 1))), .int (awT aw (tlT tl (tyN (ce ((b9 + 1) * 42 + a9 + 1)))))])), (f1, .inl (cI, 1764, .inl (upd ce ((b9 + 1) * 42 + a9 + 1) (nI 0)))), (f2, .inl (cJ, 1764, .inr (.inl ((raL (upd ce ((b9 + 1) * 42 + a9 + 1) (nI 0)) sd st be wa ((b9 + 1) * 42 + a9 + 1) (oq, rp, np) 5).1)))), (f3, .inl (cI, 42, .inl ((raL (upd ce ((b9 + 1) * 42 + a9 + 1) (nI 0)) sd st be wa ((b9 + 1) * 42 + a9 + 1) (oq, rp, np) 5).2.1))), (f4, .inl (cI, 61, .inl (tlT tl (tyN (ce ((b9 + 1) * 42 + a9 + 1)))))), (o1, .inr (1, [.ref s1, .ref s2, .ref s3, .int ty, .int wa])), (s1, .inl (cI, 100, .inl st)), (s2, .inl (cI, 244, .inl sd)), (s3, .inl (cJ, 400, .inr (.inl be)))] H := hP
    have hD : va_D A [(x0, .inr (0, [.ref o1, .ref f0, .ref c0, .ref e0])), (f0, .inr (2, [.ref o1, .ref f1, .ref f2, .ref f3, .ref f4, .int ((raL (upd ce ((b9 + 1) * 42 + a9 + 1) (nI 0)) sd st be wa ((b9 + 1) * 42 + a9 + 1) (oq, rp, np) 5).2.2), .int (nsT ns (ce ((b9 + 1) * 42 + a9 + 1))), .int (awT aw (tlT tl (tyN (ce ((b9 + 1) * 42 + a9 + 1)))))])), (f1, .inl (cI, 1764, .inl (upd ce ((b9 + 1) * 42 + a9 + 1) (nI 0)))), (f2, .inl (cJ, 1764, .inr (.inl ((raL (upd ce ((b9 + 1) * 42 + a9 + 1) (nI 0)) sd st be wa ((b9 + 1) * 42 + a9 + 1) (oq, rp, np) 5).1)))), (f3, .inl (cI, 42, .inl ((raL (upd ce ((b9 + 1) * 42 + a9 + 1) (nI 0)) sd st be wa ((b9 + 1) * 42 + a9 + 1) (oq, rp, np) 5).2.1))), (f4, .inl (cI, 61, .inl (tlT tl (tyN (ce ((b9 + 1) * 42 + a9 + 1)))))), (o1, .inr (1, [.ref s1, .ref s2, .ref s3, .int ty, .int wa])), (s1, .inl (cI, 100, .inl st)), (s2, .inl (cI, 244, .inl sd)), (s3, .inl (cJ, 400, .inr (.inl be)))] := hD
    refine lv_iload hx hb d_TB_drop_34 (lv_at hl 0 rfl) ?_
    have hP9 := hP.sub (ws' := [(x0, .inr (0, [.ref o1, .ref f0, .ref c0, .ref e0])), (f0, .inr (2, [.ref o1, .ref f1, .ref f2, .ref f3, .ref f4, .int ((raL (upd ce ((b9 + 1) * 42 + a9 + 1) (nI 0)) sd st be wa ((b9 + 1) * 42 + a9 + 1) (oq, rp, np) 5).2.2), .int (nsT ns (ce ((b9 + 1) * 42 + a9 + 1))), .int (awT aw (tlT tl (tyN (ce ((b9 + 1) * 42 + a9 + 1)))))])), (f1, .inl (cI, 1764, .inl (upd ce ((b9 + 1) * 42 + a9 + 1) (nI 0)))), (f2, .inl (cJ, 1764, .inr (.inl ((raL (upd ce ((b9 + 1) * 42 + a9 + 1) (nI 0)) sd st be wa ((b9 + 1) * 42 + a9 + 1) (oq, rp, np) 5).1)))), (f3, .inl (cI, 42, .inl ((raL (upd ce ((b9 + 1) * 42 + a9 + 1) (nI 0)) sd st be wa ((b9 + 1) * 42 + a9 + 1) (oq, rp, np) 5).2.1))), (f4, .inl (cI, 61, .inl (tlT tl (tyN (ce ((b9 + 1) * 42 + a9 + 1)))))), (o1, .inr (1, [.ref s1, .ref s2, .ref s3, .int ty, .int wa])), (s1, .inl (cI, 100, .inl st)), (s2, .inl (cI, 244, .inl sd)), (s3, .inl (cJ, 400, .inr (.inl be)))]) [0, 1, 2, 3, 4, 5, 6, 7, 8, 9] rfl
    have hD9 := hD.sub (ws' := [(x0, .inr (0, [.ref o1, .ref f0, .ref c0, .ref e0])), (f0, .inr (2, [.ref o1, .ref f1, .ref f2, .ref f3, .ref f4, .int ((raL (upd ce ((b9 + 1) * 42 + a9 + 1) (nI 0)) sd st be wa ((b9 + 1) * 42 + a9 + 1) (oq, rp, np) 5).2.2), .int (nsT ns (ce ((b9 + 1) * 42 + a9 + 1))), .int (awT aw (tlT tl (tyN (ce ((b9 + 1) * 42 + a9 + 1)))))])), (f1, .inl (cI, 1764, .inl (upd ce ((b9 + 1) * 42 + a9 + 1) (nI 0)))), (f2, .inl (cJ, 1764, .inr (.inl ((raL (upd ce ((b9 + 1) * 42 + a9 + 1) (nI 0)) sd st be wa ((b9 + 1) * 42 + a9 + 1) (oq, rp, np) 5).1)))), (f3, .inl (cI, 42, .inl ((raL (upd ce ((b9 + 1) * 42 + a9 + 1) (nI 0)) sd st be wa ((b9 + 1) * 42 + a9 + 1) (oq, rp, np) 5).2.1))), (f4, .inl (cI, 61, .inl (tlT tl (tyN (ce ((b9 + 1) * 42 + a9 + 1)))))), (o1, .inr (1, [.ref s1, .ref s2, .ref s3, .int ty, .int wa])), (s1, .inl (cI, 100, .inl st)), (s2, .inl (cI, 244, .inl sd)), (s3, .inl (cJ, 400, .inr (.inl be)))]) [0, 1, 2, 3, 4, 5, 6, 7, 8, 9] (by decide) rfl
    refine vx_ret ?_
    exact W.iret (v := nI (tyN (ce ((b9 + 1) * 42 + a9 + 1)))) hx hb hr (fun t9 ht hW => ⟨⟨_, (fsTake sd st be wa ((b9 + 1) * 42 + a9 + 1) (ce, oq, rp, tl, np, ns, aw)), rfl, ⟨by unfold plO; rw [nn_nI (show a9 < 2 ^ 31 by omega), nn_nI (show b9 < 2 ^ 31 by omega)], by unfold plO drF; rw [nn_nI (show a9 < 2 ^ 31 by omega), nn_nI (show b9 < 2 ^ 31 by omega)]; exact (if_neg c_23).symm⟩, ⟨by rw [ht]; exact hP9, hD9⟩⟩, hS.F ht⟩) hS.2.2 d_TB_drop_36
set_option maxHeartbeats 4000000 in
set_option maxRecDepth 100000 in
/-- attach -/
theorem k_TB_attach (l : Launch) (hfl : l.stackTraces = false) (D : va_G) (cI cJ : ClassId) (x0 : Nat) (c0 : Nat) (e0 : Nat) (f0 : Nat) (f1 : Nat) (f2 : Nat) (f3 : Nat) (f4 : Nat) (o1 : Nat) (np : Int32) (ns : Int32) (aw : Int32) (s1 : Nat) (s2 : Nat) (s3 : Nat) (t : Nat) (wa : Int32) (st : Nat → Int32) (sd : Nat → Int32) (be : Nat → Int64) (ce : Nat → Int32) (oq : Nat → Int64) (rp : Nat → Int32) (tl : Nat → Int32) (x : Int32) (y : Int32) (z : Int32) (sz : Nat) (hce : okCe ce) (hsd : okSd sd) (hst : okSt st) (ht : t ≤ 60) : vx_Met l y_TB_attach ws_TB_attach ({ frames := 7, cells := 2, slots := 12, locals := 126 } : Room) (va_Pc [.ref x0, .int x, .int y, .int z] (Pw D cI cJ [(x0, .inr (0, [.ref o1, .ref f0, .ref c0, .ref e0])), (f0, .inr (2, [.ref o1, .ref f1, .ref f2, .ref f3, .ref f4, .int np, .int ns, .int aw])), (f1, .inl (cI, 1764, .inl ce)), (f2, .inl (cJ, 1764, .inr (.inl oq))), (f3, .inl (cI, 42, .inl rp)), (f4, .inl (cI, 61, .inl tl)), (o1, .inr (1, [.ref s1, .ref s2, .ref s3, .int (nI t), .int wa])), (s1, .inl (cI, 100, .inl st)), (s2, .inl (cI, 244, .inl sd)), (s3, .inl (cJ, 400, .inr (.inl be)))] sz)) (va_Qi (fun (r : Int32) (u9 : (Nat → Int32) × (Nat → Int64) × (Nat → Int32) × (Nat → Int32) × Int32 × Int32 × Int32) => r = nI (hsN (oq (plO x y)) z) ∧ u9 = aiF sd st be wa (plO x y) (nn z) (ce, oq, rp, tl, np, ns, aw)) (fun u9 t9 => Bw D (va_A [(x0, .inr (0, [.ref o1, .ref f0, .ref c0, .ref e0])), (f0, .inr (2, [.ref o1, .ref f1, .ref f2, .ref f3, .ref f4, .int np, .int ns, .int aw])), (f1, .inl (cI, 1764, .inl ce)), (f2, .inl (cJ, 1764, .inr (.inl oq))), (f3, .inl (cI, 42, .inl rp)), (f4, .inl (cI, 61, .inl tl)), (o1, .inr (1, [.ref s1, .ref s2, .ref s3, .int (nI t), .int wa])), (s1, .inl (cI, 100, .inl st)), (s2, .inl (cI, 244, .inl sd)), (s3, .inl (cJ, 400, .inr (.inl be)))] sz) [(x0, .inr (0, [.ref o1, .ref f0, .ref c0, .ref e0])), (f0, .inr (2, [.ref o1, .ref f1, .ref f2, .ref f3, .ref f4, .int u9.2.2.2.2.1, .int u9.2.2.2.2.2.1, .int u9.2.2.2.2.2.2])), (f1, .inl (cI, 1764, .inl u9.1)), (f2, .inl (cJ, 1764, .inr (.inl u9.2.1))), (f3, .inl (cI, 42, .inl u9.2.2.1)), (f4, .inl (cI, 61, .inl u9.2.2.2.1)), (o1, .inr (1, [.ref s1, .ref s2, .ref s3, .int (nI t), .int wa])), (s1, .inl (cI, 100, .inl st)), (s2, .inl (cI, 244, .inl sd)), (s3, .inl (cJ, 400, .inr (.inl be)))] t9) (va_A [(x0, .inr (0, [.ref o1, .ref f0, .ref c0, .ref e0])), (f0, .inr (2, [.ref o1, .ref f1, .ref f2, .ref f3, .ref f4, .int np, .int ns, .int aw])), (f1, .inl (cI, 1764, .inl ce)), (f2, .inl (cJ, 1764, .inr (.inl oq))), (f3, .inl (cI, 42, .inl rp)), (f4, .inl (cI, 61, .inl tl)), (o1, .inr (1, [.ref s1, .ref s2, .ref s3, .int (nI t), .int wa])), (s1, .inl (cI, 100, .inl st)), (s2, .inl (cI, 244, .inl sd)), (s3, .inl (cJ, 400, .inr (.inl be)))] sz)) (nd_X (fun E => (E = "java/lang/IndexOutOfBoundsException" ∧ (x < 0 ∨ nI 40 ≤ x ∨ y < 0 ∨ ¬ y < nI 40)) ∨ (E = "java/lang/IllegalArgumentException" ∧ (¬ x < 0 ∧ ¬ nI 40 ≤ x ∧ ¬ y < 0 ∧ y < nI 40) ∧ (z < nI 1 ∨ ¬ z ≤ nI t)))) 2 12 (va_A [(x0, .inr (0, [.ref o1, .ref f0, .ref c0, .ref e0])), (f0, .inr (2, [.ref o1, .ref f1, .ref f2, .ref f3, .ref f4, .int np, .int ns, .int aw])), (f1, .inl (cI, 1764, .inl ce)), (f2, .inl (cJ, 1764, .inr (.inl oq))), (f3, .inl (cI, 42, .inl rp)), (f4, .inl (cI, 61, .inl tl)), (o1, .inr (1, [.ref s1, .ref s2, .ref s3, .int (nI t), .int wa])), (s1, .inl (cI, 100, .inl st)), (s2, .inl (cI, 244, .inl sd)), (s3, .inl (cJ, 400, .inr (.inl be)))] sz) := by
  refine vx_ofW (cc := c_TB_attach) (maxL := 5) (ret := (some .boolean)) (by decide) rfl ?_
  intro p e s m args below meth c s₁ B hml hno hv
  obtain ⟨rfl, hsz, hE, hP, hD0, hX⟩ := hv
  have hx := B.exec
  have hb := B.bytes
  have hr := B.returns
  have hw : ∀ w ∈ gw, w.before _ s = true := fun w h => atoms_spec (ws := ws_TB_attach) B.pre w (List.mem_cons_of_mem _ h)
  have hown : s.vm.findClass R_TB = some m.cls := findClass_of_methodNamed B.named
  have hlocks := B.notSynchronized
  subst hsz
  have hD := hD0.self (sz := s.heap.size)
  generalize hAe : va_A [(x0, .inr (0, [.ref o1, .ref f0, .ref c0, .ref e0])), (f0, .inr (2, [.ref o1, .ref f1, .ref f2, .ref f3, .ref f4, .int np, .int ns, .int aw])), (f1, .inl (cI, 1764, .inl ce)), (f2, .inl (cJ, 1764, .inr (.inl oq))), (f3, .inl (cI, 42, .inl rp)), (f4, .inl (cI, 61, .inl tl)), (o1, .inr (1, [.ref s1, .ref s2, .ref s3, .int (nI t), .int wa])), (s1, .inl (cI, 100, .inl st)), (s2, .inl (cI, 244, .inl sd)), (s3, .inl (cJ, 400, .inr (.inl be)))] s.heap.size = A at hD hX ⊢
  have hA : ∀ q : Nat, s.heap.size ≤ q → A q := fun q h => by rw [← hAe]; exact Or.inr h
  have hS : va_S A s.heap s.heap [] := va_S.rf
  have hP : va_P D vwCl [(x0, .inr (0, [.ref o1, .ref f0, .ref c0, .ref e0])), (f0, .inr (2, [.ref o1, .ref f1, .ref f2, .ref f3, .ref f4, .int np, .int ns, .int aw])), (f1, .inl (cI, 1764, .inl ce)), (f2, .inl (cJ, 1764, .inr (.inl oq))), (f3, .inl (cI, 42, .inl rp)), (f4, .inl (cI, 61, .inl tl)), (o1, .inr (1, [.ref s1, .ref s2, .ref s3, .int (nI t), .int wa])), (s1, .inl (cI, 100, .inl st)), (s2, .inl (cI, 244, .inl sd)), (s3, .inl (cJ, 400, .inr (.inl be)))] s.heap := hP
  have hl := lv_entry ([.ref x0, .int x, .int y, .int z]) (n := 5) (Nat.le_of_ble_eq_true rfl)
  rw [lg_entry_eq]
  generalize (lg_sl ([.ref x0, .int x, .int y, .int z]) ++ List.replicate (5 - (lg_sl ([.ref x0, .int x, .int y, .int z])).length) Slot.unset).toArray = ls at hl ⊢
  have hl : lv_has ls 5 [(0, .ref x0), (1, .int x), (2, .int y), (3, .int z)] := hl
  refine lv_iload_n hx hb d_TB_attach_0 rfl (lv_at hl 1 rfl) ?_
  refine lv_iload_n hx hb d_TB_attach_1 rfl (lv_at hl 2 rfl) ?_
  refine nd_call (vx_runS (As := [.int x, .int y]) (rest := []) ⟨hx, hb, hml, hown, hw⟩ (k_TB_needPlace l hfl D cI cJ x y) (va_cwS 2 hw (gS kw_394 kw_395 kw_40 kw_396) rfl rfl rfl (by decide +kernel) ⟨Nat.le_of_ble_eq_true rfl, Nat.le_of_ble_eq_true rfl⟩) (pre_Sp (wc := []) hE hX hP hS [] rfl) rfl rfl hl.1 rfl (lv_room (Nat.le_of_ble_eq_true rfl)) d_TB_attach_2 ⟨Nat.le_of_ble_eq_true rfl, Nat.le_of_ble_eq_true rfl⟩) (fun E ce q9 H1 hex hc1 hc2 hc3 hc5 hc6 => ?_) (fun h_2 => ?_)
  · skip
    exact vx_out (fun x hx => (hno x hx).elim) hlocks hc1 hc2 hc3 (fun t9 ht hal => ⟨(Or.inl hex), by rw [ht]; exact hc5, fun q hq => by rw [ht]; exact hc6 q hq⟩) (fun q h => by cases h) (Nat.le_of_ble_eq_true rfl) (Nat.le_of_ble_eq_true rfl)
  refine lv_aload_n hx hb d_TB_attach_5 rfl (lv_at hl 0 rfl) ?_
  refine lv_iload_n hx hb d_TB_attach_6 rfl (lv_at hl 3 rfl) ?_
  refine nd_call (vx_runV (As := [.int z]) (rest := []) ⟨hx, hb, hml, hown, hw⟩ (k_TB_needType l hfl D cI cJ x0 c0 e0 f0 o1 s1 s2 s3 (nI t) wa z) (cwV 1 hw (gV kw_413 kw_415 kw_3 kw_40 kw_416) rfl rfl rfl (by decide +kernel) ⟨Nat.le_of_ble_eq_true rfl, Nat.le_of_ble_eq_true rfl⟩) (pre_Vp (wc := [(x0, .inr (0, [.ref o1, .ref f0, .ref c0, .ref e0])), (o1, .inr (1, [.ref s1, .ref s2, .ref s3, .int (nI t), .int wa]))]) (q0 := 0) hE hX hP hS [0, 6] rfl rfl rfl) rfl rfl hl.1 rfl (lv_room (Nat.le_of_ble_eq_true rfl)) d_TB_attach_7 ⟨Nat.le_of_ble_eq_true rfl, Nat.le_of_ble_eq_true rfl⟩) (fun E ce q9 H1 hex hc1 hc2 hc3 hc5 hc6 => ?_) (fun h_7 => ?_)
  · skip
    exact vx_out (fun x hx => (hno x hx).elim) hlocks hc1 hc2 hc3 (fun t9 ht hal => ⟨(Or.inr ⟨hex.1, h_2, hex.2⟩), by rw [ht]; exact hc5, fun q hq => by rw [ht]; exact hc6 q hq⟩) (fun q h => by cases h) (Nat.le_of_ble_eq_true rfl) (Nat.le_of_ble_eq_true rfl)
  obtain ⟨a9, ha9, rfl⟩ := within_nat0 h_2.1 h_2.2.1 (by decide)
  obtain ⟨b9, hb9, rfl⟩ := within_nat1 h_2.2.2.1 h_2.2.2.2 (by decide)
  obtain ⟨hp1, hp2⟩ := pl_in ha9 hb9
  obtain ⟨d9, hd1, hd2, rfl⟩ := within_nat h_7.1 h_7.2 (by decide) (by omega)
  refine lv_iload_n hx hb d_TB_attach_10 rfl (lv_at hl 1 rfl) ?_
  refine lv_iload_n hx hb d_TB_attach_11 rfl (lv_at hl 2 rfl) ?_
  refine vp_callSi (va_Run.run (va_runS (As := [.int (nI a9), .int (nI b9)]) (rest := []) ⟨hx, hb, hml, hown, hw⟩ (k_TB_placeOf l D cI cJ a9 b9) (va_cwS 2 hw (gS kw_418 kw_419 kw_40 kw_420) rfl rfl rfl (by decide +kernel) ⟨Nat.le_of_ble_eq_true rfl, Nat.le_of_ble_eq_true rfl⟩) (pre_Sp (wc := []) hE hX hP hS [] rfl) rfl rfl hl.1 rfl (lv_room (Nat.le_of_ble_eq_true rfl)) d_TB_attach_12 ⟨Nat.le_of_ble_eq_true rfl, Nat.le_of_ble_eq_true rfl⟩)) (fun r_3 hr_3 => ?_)
  obtain rfl : nI ((b9 + 1) * 42 + a9 + 1) = r_3 := hr_3.symm
  refine lv_istore (lv' := [(4, .int (nI ((b9 + 1) * 42 + a9 + 1))), (0, .ref x0), (1, .int (nI a9)), (2, .int (nI b9)), (3, .int (nI d9))]) hx hb d_TB_attach_15 hl (by decide) rfl (fun ls hl => ?_)
  refine lv_aload_n hx hb d_TB_attach_17 rfl (lv_at hl 1 rfl) ?_
  refine va_get (D := D) (ci := 0) (v := .ref f0) (C := R_TB) (T := T_TB) (N := 4) hx hb hw in_TB hown hE.1 hP 0 rfl rfl 1 (by decide) (hw _ kw_183) (fun _ h9 => h9) rfl d_TB_attach_18 ?_
  refine lv_iload hx hb d_TB_attach_21 (lv_at hl 0 rfl) ?_
  refine vp_callSl (va_Run.run (va_runV (As := [.int (nI ((b9 + 1) * 42 + a9 + 1))]) (rest := []) ⟨hx, hb, hml, hown, hw⟩ (k_FD_openAt l D cI cJ f0 f1 f2 f3 f4 o1 np ns aw oq ((b9 + 1) * 42 + a9 + 1) (by unfold plN at hp1 hp2; omega)) (cwV 1 hw (gV kw_484 kw_485 kw_486 kw_42 kw_487) rfl rfl rfl (by decide +kernel) ⟨Nat.le_of_ble_eq_true rfl, Nat.le_of_ble_eq_true rfl⟩) (pre_Vp (wc := [(f0, .inr (2, [.ref o1, .ref f1, .ref f2, .ref f3, .ref f4, .int np, .int ns, .int aw])), (f2, .inl (cJ, 1764, .inr (.inl oq)))]) (q0 := 0) hE hX hP hS [1, 3] rfl rfl rfl) rfl rfl hl.1 rfl (lv_room (Nat.le_of_ble_eq_true rfl)) d_TB_attach_23 ⟨Nat.le_of_ble_eq_true rfl, Nat.le_of_ble_eq_true rfl⟩)) (fun r_4 hr_4 => ?_)
  obtain rfl : oq ((b9 + 1) * 42 + a9 + 1) = r_4 := hr_4.symm
  refine lv_iload_n hx hb d_TB_attach_26 rfl (lv_at hl 4 rfl) ?_
  refine vp_callSi (va_Run.run (va_runS (As := [.long (oq ((b9 + 1) * 42 + a9 + 1)), .int (nI d9)]) (rest := []) ⟨hx, hb, hml, hown, hw⟩ (k_TB_has l D cI cJ (oq ((b9 + 1) * 42 + a9 + 1)) (nI d9)) (va_cwS 2 hw (gS kw_488 kw_489 kw_40 kw_490) rfl rfl rfl (by decide +kernel) ⟨Nat.le_of_ble_eq_true rfl, Nat.le_of_ble_eq_true rfl⟩) (pre_Sp (wc := []) hE hX hP hS [] rfl) rfl rfl hl.1 rfl (lv_room (Nat.le_of_ble_eq_true rfl)) d_TB_attach_27 ⟨Nat.le_of_ble_eq_true rfl, Nat.le_of_ble_eq_true rfl⟩)) (fun r_5 hr_5 => ?_)
  obtain rfl : nI (hsN (oq ((b9 + 1) * 42 + a9 + 1)) (nI d9)) = r_5 := hr_5.symm
  refine jn_if_ne (tgt := 35) (a := (hsN (oq ((b9 + 1) * 42 + a9 + 1)) (nI d9))) hx hb d_TB_attach_30 (by decide) (by have := hsN_le (oq ((b9 + 1) * 42 + a9 + 1)) (nI d9); omega) (fun c_30 => ?_) (fun c_30 => ?_)
  · skip
    refine lv_aload_n hx hb d_TB_attach_35 rfl (lv_at hl 1 rfl) ?_
    refine va_get (D := D) (ci := 0) (v := .ref f0) (C := R_TB) (T := T_TB) (N := 4) hx hb hw in_TB hown hE.1 hP 0 rfl rfl 1 (by decide) (hw _ kw_183) (fun _ h9 => h9) rfl d_TB_attach_36 ?_
    refine lv_iload hx hb d_TB_attach_39 (lv_at hl 0 rfl) ?_
    refine lv_iload_n hx hb d_TB_attach_41 rfl (lv_at hl 4 rfl) ?_
    refine cl_v (wr := [(x0, .inr (0, [.ref o1, .ref f0, .ref c0, .ref e0]))]) (va_runV (As := [.int (nI ((b9 + 1) * 42 + a9 + 1)), .int (nI d9)]) (rest := []) ⟨hx, hb, hml, hown, hw⟩ (k_FD_join l D cI cJ f0 f1 f2 f3 f4 o1 np ns aw s1 s2 s3 (nI t) wa st sd be ce oq rp ((b9 + 1) * 42 + a9 + 1) tl d9 _ hp1 hp2 hce hsd hst (by omega)) (cwV 2 hw (gV kw_492 kw_493 kw_494 kw_42 kw_495) rfl rfl rfl (by decide +kernel) ⟨Nat.le_of_ble_eq_true rfl, Nat.le_of_ble_eq_true rfl⟩) (pre_Vw (wc := [(f0, .inr (2, [.ref o1, .ref f1, .ref f2, .ref f3, .ref f4, .int np, .int ns, .int aw])), (f1, .inl (cI, 1764, .inl ce)), (f2, .inl (cJ, 1764, .inr (.inl oq))), (f3, .inl (cI, 42, .inl rp)), (f4, .inl (cI, 61, .inl tl)), (o1, .inr (1, [.ref s1, .ref s2, .ref s3, .int (nI t), .int wa])), (s1, .inl (cI, 100, .inl st)), (s2, .inl (cI, 244, .inl sd)), (s3, .inl (cJ, 400, .inr (.inl be)))]) (q0 := 0) hE hX hA hP hD hS [1, 2, 3, 4, 5, 6, 7, 8, 9] (by decide) rfl rfl rfl rfl) rfl rfl hl.1 rfl (lv_room (Nat.le_of_ble_eq_true rfl)) d_TB_attach_42 ⟨Nat.le_of_ble_eq_true rfl, Nat.le_of_ble_eq_true rfl⟩) hP hD hS hA [1, 2, 3, 4, 5, 6, 7, 8, 9] [0] rfl rfl (by decide) (by decide) (fun u_r_6 H locs hr_6 hP hD hS => ?_)
    have hP : va_P D vwCl [(x0, .inr (0, [.ref o1, .ref f0, .ref c0, .ref e0])), (f0, .inr (2, [.ref o1, .ref f1, .ref f2, .ref f3, .ref f4, .int ((raL (upd ce ((b9 + 1) * 42 + a9 + 1) (nI d9 ||| ((ifL ce sd st ((b9 + 1) * 42 + a9 + 1) d9 4) <<< (nI 6 &&& 31)))) sd st be wa ((b9 + 1) * 42 + a9 + 1) (oq, rp, np) 5).2.2), .int (nsP ns (nI d9 ||| ((ifL ce sd st ((b9 + 1) * 42 + a9 + 1) d9 4) <<< (nI 6 &&& 31)))), .int (nI 1)])), (f1, .inl (cI, 1764, .inl (upd ce ((b9 + 1) * 42 + a9 + 1) (nI d9 ||| ((ifL ce sd st ((b9 + 1) * 42 + a9 + 1) d9 4) <<< (nI 6 &&& 31)))))), (f2, .inl (cJ, 1764, .inr (.inl ((raL (upd ce ((b9 + 1) * 42 + a9 + 1) (nI d9 ||| ((ifL ce sd st ((b9 + 1) * 42 + a9 + 1) d9 4) <<< (nI 6 &&& 31)))) sd st be wa ((b9 + 1) * 42 + a9 + 1) (oq, rp, np) 5).1)))), (f3, .inl (cI, 42, .inl ((raL (upd ce ((b9 + 1) * 42 + a9 + 1) (nI d9 ||| ((ifL ce sd st ((b9 + 1) * 42 + a9 + 1) d9 4) <<< (nI 6 &&& 31)))) sd st be wa ((b9 + 1) * 42 + a9 + 1) (oq, rp, np) 5).2.1))), (f4, .inl (cI, 61, .inl (tlP tl (nI d9 ||| ((ifL ce sd st ((b9 + 1) * 42 + a9 + 1) d9 4) <<< (nI 6 &&& 31)))))), (o1, .inr (1, [.ref s1, .ref s2, .ref s3, .int (nI t), .int wa])), (s1, .inl (cI, 100, .inl st)), (s2, .inl (cI, 244, .inl sd)), (s3, .inl (cJ, 400, .inr (.inl be)))] H := hP
    have hD : va_D A [(x0, .inr (0, [.ref o1, .ref f0, .ref c0, .ref e0])), (f0, .inr (2, [.ref o1, .ref f1, .ref f2, .ref f3, .ref f4, .int ((raL (upd ce ((b9 + 1) * 42 + a9 + 1) (nI d9 ||| ((ifL ce sd st ((b9 + 1) * 42 + a9 + 1) d9 4) <<< (nI 6 &&& 31)))) sd st be wa ((b9 + 1) * 42 + a9 + 1) (oq, rp, np) 5).2.2), .int (nsP ns (nI d9 ||| ((ifL ce sd st ((b9 + 1) * 42 + a9 + 1) d9 4) <<< (nI 6 &&& 31)))), .int (nI 1)])), (f1, .inl (cI, 1764, .inl (upd ce ((b9 + 1) * 42 + a9 + 1) (nI d9 ||| ((ifL ce sd st ((b9 + 1) * 42 + a9 + 1) d9 4) <<< (nI 6 &&& 31)))))), (f2, .inl (cJ, 1764, .inr (.inl ((raL (upd ce ((b9 + 1) * 42 + a9 + 1) (nI d9 ||| ((ifL ce sd st ((b9 + 1) * 42 + a9 + 1) d9 4) <<< (nI 6 &&& 31)))) sd st be wa ((b9 + 1) * 42 + a9 + 1) (oq, rp, np) 5).1)))), (f3, .inl (cI, 42, .inl ((raL (upd ce ((b9 + 1) * 42 + a9 + 1) (nI d9 ||| ((ifL ce sd st ((b9 + 1) * 42 + a9 + 1) d9 4) <<< (nI 6 &&& 31)))) sd st be wa ((b9 + 1) * 42 + a9 + 1) (oq, rp, np) 5).2.1))), (f4, .inl (cI, 61, .inl (tlP tl (nI d9 ||| ((ifL ce sd st ((b9 + 1) * 42 + a9 + 1) d9 4) <<< (nI 6 &&& 31)))))), (o1, .inr (1, [.ref s1, .ref s2, .ref s3, .int (nI t), .int wa])), (s1, .inl (cI, 100, .inl st)), (s2, .inl (cI, 244, .inl sd)), (s3, .inl (cJ, 400, .inr (.inl be)))] := hD
    refine lv_iconst (v := nI 1) hx hb d_TB_attach_45 (by decide +kernel) ?_
    have hP9 := hP.sub (ws' := [(x0, .inr (0, [.ref o1, .ref f0, .ref c0, .ref e0])), (f0, .inr (2, [.ref o1, .ref f1, .ref f2, .ref f3, .ref f4, .int ((raL (upd ce ((b9 + 1) * 42 + a9 + 1) (nI d9 ||| ((ifL ce sd st ((b9 + 1) * 42 + a9 + 1) d9 4) <<< (nI 6 &&& 31)))) sd st be wa ((b9 + 1) * 42 + a9 + 1) (oq, rp, np) 5).2.2), .int (nsP ns (nI d9 ||| ((ifL ce sd st ((b9 + 1) * 42 + a9 + 1) d9 4) <<< (nI 6 &&& 31)))), .int (nI 1)])), (f1, .inl (cI, 1764, .inl (upd ce ((b9 + 1) * 42 + a9 + 1) (nI d9 ||| ((ifL ce sd st ((b9 + 1) * 42 + a9 + 1) d9 4) <<< (nI 6 &&& 31)))))), (f2, .inl (cJ, 1764, .inr (.inl ((raL (upd ce ((b9 + 1) * 42 + a9 + 1) (nI d9 ||| ((ifL ce sd st ((b9 + 1) * 42 + a9 + 1) d9 4) <<< (nI 6 &&& 31)))) sd st be wa ((b9 + 1) * 42 + a9 + 1) (oq, rp, np) 5).1)))), (f3, .inl (cI, 42, .inl ((raL (upd ce ((b9 + 1) * 42 + a9 + 1) (nI d9 ||| ((ifL ce sd st ((b9 + 1) * 42 + a9 + 1) d9 4) <<< (nI 6 &&& 31)))) sd st be wa ((b9 + 1) * 42 + a9 + 1) (oq, rp, np) 5).2.1))), (f4, .inl (cI, 61, .inl (tlP tl (nI d9 ||| ((ifL ce sd st ((b9 + 1) * 42 + a9 + 1) d9 4) <<< (nI 6 &&& 31)))))), (o1, .inr (1, [.ref s1, .ref s2, .ref s3, .int (nI t), .int wa])), (s1, .inl (cI, 100, .inl st)), (s2, .inl (cI, 244, .inl sd)), (s3, .inl (cJ, 400, .inr (.inl be)))]) [0, 1, 2, 3, 4, 5, 6, 7, 8, 9] rfl
    have hD9 := hD.sub (ws' := [(x0, .inr (0, [.ref o1, .ref f0, .ref c0, .ref e0])), (f0, .inr (2, [.ref o1, .ref f1, .ref f2, .ref f3, .ref f4, .int ((raL (upd ce ((b9 + 1) * 42 + a9 + 1) (nI d9 ||| ((ifL ce sd st ((b9 + 1) * 42 + a9 + 1) d9 4) <<< (nI 6 &&& 31)))) sd st be wa ((b9 + 1) * 42 + a9 + 1) (oq, rp, np) 5).2.2), .int (nsP ns (nI d9 ||| ((ifL ce sd st ((b9 + 1) * 42 + a9 + 1) d9 4) <<< (nI 6 &&& 31)))), .int (nI 1)])), (f1, .inl (cI, 1764, .inl (upd ce ((b9 + 1) * 42 + a9 + 1) (nI d9 ||| ((ifL ce sd st ((b9 + 1) * 42 + a9 + 1) d9 4) <<< (nI 6 &&& 31)))))), (f2, .inl (cJ, 1764, .inr (.inl ((raL (upd ce ((b9 + 1) * 42 + a9 + 1) (nI d9 ||| ((ifL ce sd st ((b9 + 1) * 42 + a9 + 1) d9 4) <<< (nI 6 &&& 31)))) sd st be wa ((b9 + 1) * 42 + a9 + 1) (oq, rp, np) 5).1)))), (f3, .inl (cI, 42, .inl ((raL (upd ce ((b9 + 1) * 42 + a9 + 1) (nI d9 ||| ((ifL ce sd st ((b9 + 1) * 42 + a9 + 1) d9 4) <<< (nI 6 &&& 31)))) sd st be wa ((b9 + 1) * 42 + a9 + 1) (oq, rp, np) 5).2.1))), (f4, .inl (cI, 61, .inl (tlP tl (nI d9 ||| ((ifL ce sd st ((b9 + 1) * 42 + a9 + 1) d9 4) <<< (nI 6 &&& 31)))))), (o1, .inr (1, [.ref s1, .ref s2, .ref s3, .int (nI t), .int wa])), (s1, .inl (cI, 100, .inl st)), (s2, .inl (cI, 244, .inl sd)), (s3, .inl (cJ, 400, .inr (.inl be)))]) [0, 1, 2, 3, 4, 5, 6, 7, 8, 9] (by decide) rfl
    refine vx_ret ?_
    exact W.zret (v := nI 1) hx hb hr (by decide +kernel) (fun t9 ht hW => ⟨⟨_, (fsJoin sd st be wa ((b9 + 1) * 42 + a9 + 1) d9 (ce, oq, rp, tl, np, ns, aw)), rfl, ⟨by unfold plO; rw [nn_nI (show a9 < 2 ^ 31 by omega), nn_nI (show b9 < 2 ^ 31 by omega), show hsN (oq ((b9 + 1) * 42 + a9 + 1)) (nI d9) = 1 by have := hsN_le (oq ((b9 + 1) * 42 + a9 + 1)) (nI d9); omega], by unfold plO aiF; rw [nn_nI (show a9 < 2 ^ 31 by omega), nn_nI (show b9 < 2 ^ 31 by omega), nn_nI (show d9 < 2 ^ 31 by omega)]; exact (if_neg c_30).symm⟩, ⟨by rw [ht]; exact hP9, hD9⟩⟩, hS.F ht⟩) hS.2.2 d_TB_attach_46
  · skip
    refine lv_iconst (v := nI 0) hx hb d_TB_attach_33 (by decide +kernel) ?_
    have hP9 := hP.sub (ws' := [(x0, .inr (0, [.ref o1, .ref f0, .ref c0, .ref e0])), (f0, .inr (2, [.ref o1, .ref f1, .ref f2, .ref f3, .ref f4, .int np, .int ns, .int aw])), (f1, .inl (cI, 1764, .inl ce)), (f2, .inl (cJ, 1764, .inr (.inl oq))), (f3, .inl (cI, 42, .inl rp)), (f4, .inl (cI, 61, .inl tl)), (o1, .inr (1, [.ref s1, .ref s2, .ref s3, .int (nI t), .int wa])), (s1, .inl (cI, 100, .inl st)), (s2, .inl (cI, 244, .inl sd)), (s3, .inl (cJ, 400, .inr (.inl be)))]) [0, 1, 2, 3, 4, 5, 6, 7, 8, 9] rfl
    have hD9 := hD.sub (ws' := [(x0, .inr (0, [.ref o1, .ref f0, .ref c0, .ref e0])), (f0, .inr (2, [.ref o1, .ref f1, .ref f2, .ref f3, .ref f4, .int np, .int ns, .int aw])), (f1, .inl (cI, 1764, .inl ce)), (f2, .inl (cJ, 1764, .inr (.inl oq))), (f3, .inl (cI, 42, .inl rp)), (f4, .inl (cI, 61, .inl tl)), (o1, .inr (1, [.ref s1, .ref s2, .ref s3, .int (nI t), .int wa])), (s1, .inl (cI, 100, .inl st)), (s2, .inl (cI, 244, .inl sd)), (s3, .inl (cJ, 400, .inr (.inl be)))]) [0, 1, 2, 3, 4, 5, 6, 7, 8, 9] (by decide) rfl
    refine vx_ret ?_
    exact W.zret (v := nI 0) hx hb hr (by decide +kernel) (fun t9 ht hW => ⟨⟨_, (ce, oq, rp, tl, np, ns, aw), rfl, ⟨by unfold plO; rw [nn_nI (show a9 < 2 ^ 31 by omega), nn_nI (show b9 < 2 ^ 31 by omega), c_30], by unfold plO aiF; rw [nn_nI (show a9 < 2 ^ 31 by omega), nn_nI (show b9 < 2 ^ 31 by omega), nn_nI (show d9 < 2 ^ 31 by omega)]; exact (if_pos c_30).symm⟩, ⟨by rw [ht]; exact hP9, hD9⟩⟩, hS.F ht⟩) hS.2.2 d_TB_attach_34
theorem at_TB_seed_39 {D : va_G} {cI cJ : ClassId} {args : Array Value} {s : State} (hw : ∀ w ∈ gw, w.before args s = true) (hE : En D cI cJ s) : ∀ w ∈ vx_atS "TileBench" 93 "java/lang/IllegalStateException" ["java/lang/RuntimeException", "java/lang/Exception"], w.before args s = true :=
  vx_hat (B := [.declares ⟨"java/lang/RuntimeException", "<init>", "(Ljava/lang/String;)V"⟩, .declares ⟨"java/lang/Exception", "<init>", "(Ljava/lang/String;)V"⟩, .declares ⟨"java/lang/Throwable", "<init>", "(Ljava/lang/String;)V"⟩, .castable "java/lang/IllegalStateException" "java/lang/IllegalStateException"]) (fun w h => hw w ((show ∀ w ∈ (vx_atS "TileBench" 93 "java/lang/IllegalStateException" ["java/lang/RuntimeException", "java/lang/Exception"]).filter goodWord, w ∈ gw from by decide +kernel) w h)) (by decide +kernel)
    (vx_c (va_Nw.use rfl (hE.2.2.2.2.1 _ (List.mem_of_getElem? (i := 1) rfl))) (vx_c (va_Nw.use rfl (hE.2.2.2.2.1 _ (List.mem_of_getElem? (i := 3) rfl))) (vx_c (va_Nw.use rfl (hE.2.2.2.2.1 _ (List.mem_of_getElem? (i := 5) rfl))) (vx_c (va_Nw.use rfl (hE.2.2.2.2.2.1 _ (List.mem_of_getElem? (i := 0) rfl))) vx_n))))
theorem at_TB_seed_39_ot : ∀ w ∈ Cond.classLink "TileBench" 89 "java/lang/IllegalStateException" :: Cond.initialized "java/lang/IllegalStateException" :: vx_atS "TileBench" 93 "java/lang/IllegalStateException" ["java/lang/RuntimeException", "java/lang/Exception"], vx_ot w = true := by decide +kernel
set_option maxHeartbeats 4000000 in
set_option maxRecDepth 100000 in
/-- seed -/
theorem k_TB_seed (l : Launch) (hfl : l.stackTraces = false) (D : va_G) (cI cJ : ClassId) (x0 : Nat) (c0 : Nat) (e0 : Nat) (f0 : Nat) (f1 : Nat) (f2 : Nat) (f3 : Nat) (f4 : Nat) (o1 : Nat) (np : Int32) (ns : Int32) (aw : Int32) (s1 : Nat) (s2 : Nat) (s3 : Nat) (t : Nat) (wa : Int32) (st : Nat → Int32) (sd : Nat → Int32) (be : Nat → Int64) (ce : Nat → Int32) (oq : Nat → Int64) (rp : Nat → Int32) (tl : Nat → Int32) (x : Int32) (y : Int32) (z : Int32) (sz : Nat) (hce : okCe ce) (hsd : okSd sd) (hst : okSt st) (ht : t ≤ 60) (haw : narrow .boolean (.int aw) = .int aw) : vx_Met l y_TB_seed ws_TB_seed ({ frames := 7, cells := 3, slots := 18, locals := 111 } : Room) (va_Pc [.ref x0, .int x, .int y, .int z] (Pw D cI cJ [(x0, .inr (0, [.ref o1, .ref f0, .ref c0, .ref e0])), (f0, .inr (2, [.ref o1, .ref f1, .ref f2, .ref f3, .ref f4, .int np, .int ns, .int aw])), (f1, .inl (cI, 1764, .inl ce)), (f2, .inl (cJ, 1764, .inr (.inl oq))), (f3, .inl (cI, 42, .inl rp)), (f4, .inl (cI, 61, .inl tl)), (o1, .inr (1, [.ref s1, .ref s2, .ref s3, .int (nI t), .int wa])), (s1, .inl (cI, 100, .inl st)), (s2, .inl (cI, 244, .inl sd)), (s3, .inl (cJ, 400, .inr (.inl be)))] sz)) (va_Qv (fun (u9 : (Nat → Int32) × (Nat → Int64) × (Nat → Int32) × (Nat → Int32) × Int32 × Int32 × Int32) => u9 = fsPut sd st be wa (plO x y) (nI (nn z) ||| nI 1024) (ce, oq, rp, tl, np, ns, aw)) (fun u9 t9 => Bw D (va_A [(x0, .inr (0, [.ref o1, .ref f0, .ref c0, .ref e0])), (f0, .inr (2, [.ref o1, .ref f1, .ref f2, .ref f3, .ref f4, .int np, .int ns, .int aw])), (f1, .inl (cI, 1764, .inl ce)), (f2, .inl (cJ, 1764, .inr (.inl oq))), (f3, .inl (cI, 42, .inl rp)), (f4, .inl (cI, 61, .inl tl)), (o1, .inr (1, [.ref s1, .ref s2, .ref s3, .int (nI t), .int wa])), (s1, .inl (cI, 100, .inl st)), (s2, .inl (cI, 244, .inl sd)), (s3, .inl (cJ, 400, .inr (.inl be)))] sz) [(x0, .inr (0, [.ref o1, .ref f0, .ref c0, .ref e0])), (f0, .inr (2, [.ref o1, .ref f1, .ref f2, .ref f3, .ref f4, .int u9.2.2.2.2.1, .int u9.2.2.2.2.2.1, .int u9.2.2.2.2.2.2])), (f1, .inl (cI, 1764, .inl u9.1)), (f2, .inl (cJ, 1764, .inr (.inl u9.2.1))), (f3, .inl (cI, 42, .inl u9.2.2.1)), (f4, .inl (cI, 61, .inl u9.2.2.2.1)), (o1, .inr (1, [.ref s1, .ref s2, .ref s3, .int (nI t), .int wa])), (s1, .inl (cI, 100, .inl st)), (s2, .inl (cI, 244, .inl sd)), (s3, .inl (cJ, 400, .inr (.inl be)))] t9) (va_A [(x0, .inr (0, [.ref o1, .ref f0, .ref c0, .ref e0])), (f0, .inr (2, [.ref o1, .ref f1, .ref f2, .ref f3, .ref f4, .int np, .int ns, .int aw])), (f1, .inl (cI, 1764, .inl ce)), (f2, .inl (cJ, 1764, .inr (.inl oq))), (f3, .inl (cI, 42, .inl rp)), (f4, .inl (cI, 61, .inl tl)), (o1, .inr (1, [.ref s1, .ref s2, .ref s3, .int (nI t), .int wa])), (s1, .inl (cI, 100, .inl st)), (s2, .inl (cI, 244, .inl sd)), (s3, .inl (cJ, 400, .inr (.inl be)))] sz)) (nd_X (fun E => (E = "java/lang/IndexOutOfBoundsException" ∧ (x < 0 ∨ nI 40 ≤ x ∨ y < 0 ∨ ¬ y < nI 40)) ∨ (E = "java/lang/IllegalArgumentException" ∧ (¬ x < 0 ∧ ¬ nI 40 ≤ x ∧ ¬ y < 0 ∧ y < nI 40) ∧ (z < nI 1 ∨ ¬ z ≤ nI t)) ∨ (E = "java/lang/IllegalStateException" ∧ (¬ x < 0 ∧ ¬ nI 40 ≤ x ∧ ¬ y < 0 ∧ y < nI 40) ∧ (¬ z < nI 1 ∧ z ≤ nI t) ∧ (tyN (ce (plO x y)) ≠ 0 ∨ ¬ aw = 0)))) 3 18 (va_A [(x0, .inr (0, [.ref o1, .ref f0, .ref c0, .ref e0])), (f0, .inr (2, [.ref o1, .ref f1, .ref f2, .ref f3, .ref f4, .int np, .int ns, .int aw])), (f1, .inl (cI, 1764, .inl ce)), (f2, .inl (cJ, 1764, .inr (.inl oq))), (f3, .inl (cI, 42, .inl rp)), (f4, .inl (cI, 61, .inl tl)), (o1, .inr (1, [.ref s1, .ref s2, .ref s3, .int (nI t), .int wa])), (s1, .inl (cI, 100, .inl st)), (s2, .inl (cI, 244, .inl sd)), (s3, .inl (cJ, 400, .inr (.inl be)))] sz) := by
  refine vx_ofW (cc := c_TB_seed) (maxL := 5) (ret := none) (by decide) rfl ?_
  intro p e s m args below meth c s₁ B hml hno hv
  obtain ⟨rfl, hsz, hE, hP, hD0, hX⟩ := hv
  have hx := B.exec
  have hb := B.bytes
  have hr := B.returns
  have hw : ∀ w ∈ gw, w.before _ s = true := fun w h => atoms_spec (ws := ws_TB_seed) B.pre w (List.mem_cons_of_mem _ h)
  have hown : s.vm.findClass R_TB = some m.cls := findClass_of_methodNamed B.named
  have hlocks := B.notSynchronized
  subst hsz
  have hD := hD0.self (sz := s.heap.size)
  generalize hAe : va_A [(x0, .inr (0, [.ref o1, .ref f0, .ref c0, .ref e0])), (f0, .inr (2, [.ref o1, .ref f1, .ref f2, .ref f3, .ref f4, .int np, .int ns, .int aw])), (f1, .inl (cI, 1764, .inl ce)), (f2, .inl (cJ, 1764, .inr (.inl oq))), (f3, .inl (cI, 42, .inl rp)), (f4, .inl (cI, 61, .inl tl)), (o1, .inr (1, [.ref s1, .ref s2, .ref s3, .int (nI t), .int wa])), (s1, .inl (cI, 100, .inl st)), (s2, .inl (cI, 244, .inl sd)), (s3, .inl (cJ, 400, .inr (.inl be)))] s.heap.size = A at hD hX ⊢
  have hA : ∀ q : Nat, s.heap.size ≤ q → A q := fun q h => by rw [← hAe]; exact Or.inr h
  have hS : va_S A s.heap s.heap [] := va_S.rf
  have hP : va_P D vwCl [(x0, .inr (0, [.ref o1, .ref f0, .ref c0, .ref e0])), (f0, .inr (2, [.ref o1, .ref f1, .ref f2, .ref f3, .ref f4, .int np, .int ns, .int aw])), (f1, .inl (cI, 1764, .inl ce)), (f2, .inl (cJ, 1764, .inr (.inl oq))), (f3, .inl (cI, 42, .inl rp)), (f4, .inl (cI, 61, .inl tl)), (o1, .inr (1, [.ref s1, .ref s2, .ref s3, .int (nI t), .int wa])), (s1, .inl (cI, 100, .inl st)), (s2, .inl (cI, 244, .inl sd)), (s3, .inl (cJ, 400, .inr (.inl be)))] s.heap := hP
  have hl := lv_entry ([.ref x0, .int x, .int y, .int z]) (n := 5) (Nat.le_of_ble_eq_true rfl)
  rw [lg_entry_eq]
  generalize (lg_sl ([.ref x0, .int x, .int y, .int z]) ++ List.replicate (5 - (lg_sl ([.ref x0, .int x, .int y, .int z])).length) Slot.unset).toArray = ls at hl ⊢
  have hl : lv_has ls 5 [(0, .ref x0), (1, .int x), (2, .int y), (3, .int z)] := hl
  refine lv_iload_n hx hb d_TB_seed_0 rfl (lv_at hl 1 rfl) ?_
  refine lv_iload_n hx hb d_TB_seed_1 rfl (lv_at hl 2 rfl) ?_
  refine nd_call (vx_runS (As := [.int x, .int y]) (rest := []) ⟨hx, hb, hml, hown, hw⟩ (k_TB_needPlace l hfl D cI cJ x y) (va_cwS 2 hw (gS kw_394 kw_395 kw_40 kw_396) rfl rfl rfl (by decide +kernel) ⟨Nat.le_of_ble_eq_true rfl, Nat.le_of_ble_eq_true rfl⟩) (pre_Sp (wc := []) hE hX hP hS [] rfl) rfl rfl hl.1 rfl (lv_room (Nat.le_of_ble_eq_true rfl)) d_TB_seed_2 ⟨Nat.le_of_ble_eq_true rfl, Nat.le_of_ble_eq_true rfl⟩) (fun E ce q9 H1 hex hc1 hc2 hc3 hc5 hc6 => ?_) (fun h_2 => ?_)
  · skip
    exact vx_out (fun x hx => (hno x hx).elim) hlocks hc1 hc2 hc3 (fun t9 ht hal => ⟨(Or.inl hex), by rw [ht]; exact hc5, fun q hq => by rw [ht]; exact hc6 q hq⟩) (fun q h => by cases h) (Nat.le_of_ble_eq_true rfl) (Nat.le_of_ble_eq_true rfl)
  refine lv_aload_n hx hb d_TB_seed_5 rfl (lv_at hl 0 rfl) ?_
  refine lv_iload_n hx hb d_TB_seed_6 rfl (lv_at hl 3 rfl) ?_
  refine nd_call (vx_runV (As := [.int z]) (rest := []) ⟨hx, hb, hml, hown, hw⟩ (k_TB_needType l hfl D cI cJ x0 c0 e0 f0 o1 s1 s2 s3 (nI t) wa z) (cwV 1 hw (gV kw_413 kw_415 kw_3 kw_40 kw_416) rfl rfl rfl (by decide +kernel) ⟨Nat.le_of_ble_eq_true rfl, Nat.le_of_ble_eq_true rfl⟩) (pre_Vp (wc := [(x0, .inr (0, [.ref o1, .ref f0, .ref c0, .ref e0])), (o1, .inr (1, [.ref s1, .ref s2, .ref s3, .int (nI t), .int wa]))]) (q0 := 0) hE hX hP hS [0, 6] rfl rfl rfl) rfl rfl hl.1 rfl (lv_room (Nat.le_of_ble_eq_true rfl)) d_TB_seed_7 ⟨Nat.le_of_ble_eq_true rfl, Nat.le_of_ble_eq_true rfl⟩) (fun E ce q9 H1 hex hc1 hc2 hc3 hc5 hc6 => ?_) (fun h_7 => ?_)
  · skip
    exact vx_out (fun x hx => (hno x hx).elim) hlocks hc1 hc2 hc3 (fun t9 ht hal => ⟨(Or.inr (Or.inl ⟨hex.1, h_2, hex.2⟩)), by rw [ht]; exact hc5, fun q hq => by rw [ht]; exact hc6 q hq⟩) (fun q h => by cases h) (Nat.le_of_ble_eq_true rfl) (Nat.le_of_ble_eq_true rfl)
  obtain ⟨a9, ha9, rfl⟩ := within_nat0 h_2.1 h_2.2.1 (by decide)
  obtain ⟨b9, hb9, rfl⟩ := within_nat1 h_2.2.2.1 h_2.2.2.2 (by decide)
  obtain ⟨hp1, hp2⟩ := pl_in ha9 hb9
  obtain ⟨d9, hd1, hd2, rfl⟩ := within_nat h_7.1 h_7.2 (by decide) (by omega)
  refine lv_iload_n hx hb d_TB_seed_10 rfl (lv_at hl 1 rfl) ?_
  refine lv_iload_n hx hb d_TB_seed_11 rfl (lv_at hl 2 rfl) ?_
  refine vp_callSi (va_Run.run (va_runS (As := [.int (nI a9), .int (nI b9)]) (rest := []) ⟨hx, hb, hml, hown, hw⟩ (k_TB_placeOf l D cI cJ a9 b9) (va_cwS 2 hw (gS kw_418 kw_419 kw_40 kw_420) rfl rfl rfl (by decide +kernel) ⟨Nat.le_of_ble_eq_true rfl, Nat.le_of_ble_eq_true rfl⟩) (pre_Sp (wc := []) hE hX hP hS [] rfl) rfl rfl hl.1 rfl (lv_room (Nat.le_of_ble_eq_true rfl)) d_TB_seed_12 ⟨Nat.le_of_ble_eq_true rfl, Nat.le_of_ble_eq_true rfl⟩)) (fun r_3 hr_3 => ?_)
  obtain rfl : nI ((b9 + 1) * 42 + a9 + 1) = r_3 := hr_3.symm
  refine lv_istore (lv' := [(4, .int (nI ((b9 + 1) * 42 + a9 + 1))), (0, .ref x0), (1, .int (nI a9)), (2, .int (nI b9)), (3, .int (nI d9))]) hx hb d_TB_seed_15 hl (by decide) rfl (fun ls hl => ?_)
  refine lv_aload_n hx hb d_TB_seed_17 rfl (lv_at hl 1 rfl) ?_
  refine va_get (D := D) (ci := 0) (v := .ref f0) (C := R_TB) (T := T_TB) (N := 4) hx hb hw in_TB hown hE.1 hP 0 rfl rfl 1 (by decide) (hw _ kw_183) (fun _ h9 => h9) rfl d_TB_seed_18 ?_
  refine lv_iload hx hb d_TB_seed_21 (lv_at hl 0 rfl) ?_
  refine vp_callSi (va_Run.run (va_runV (As := [.int (nI ((b9 + 1) * 42 + a9 + 1))]) (rest := []) ⟨hx, hb, hml, hown, hw⟩ (k_FD_typeAt l D cI cJ f0 f1 f2 f3 f4 o1 np ns aw ce ((b9 + 1) * 42 + a9 + 1) (by unfold plN at hp1 hp2; omega)) (cwV 1 hw (gV kw_421 kw_422 kw_423 kw_42 kw_424) rfl rfl rfl (by decide +kernel) ⟨Nat.le_of_ble_eq_true rfl, Nat.le_of_ble_eq_true rfl⟩) (pre_Vp (wc := [(f0, .inr (2, [.ref o1, .ref f1, .ref f2, .ref f3, .ref f4, .int np, .int ns, .int aw])), (f1, .inl (cI, 1764, .inl ce))]) (q0 := 0) hE hX hP hS [1, 2] rfl rfl rfl) rfl rfl hl.1 rfl (lv_room (Nat.le_of_ble_eq_true rfl)) d_TB_seed_23 ⟨Nat.le_of_ble_eq_true rfl, Nat.le_of_ble_eq_true rfl⟩)) (fun r_4 hr_4 => ?_)
  obtain rfl : nI (tyN (ce ((b9 + 1) * 42 + a9 + 1))) = r_4 := hr_4.symm
  refine jn_if_ne (tgt := 39) (a := (tyN (ce ((b9 + 1) * 42 + a9 + 1)))) hx hb d_TB_seed_26 (by decide) (by have := tyN_lt (ce ((b9 + 1) * 42 + a9 + 1)); omega) (fun c_26 => ?_) (fun c_26 => ?_)
  · skip
    obtain ⟨sa, hstr⟩ := hE.2.2.2.1 _ (List.mem_of_getElem? (i := 5) rfl)
    exact vx_throwS (A := A) hx hb hfl hown (by decide +kernel) (by decide +kernel) (hw _ kw_244) (hw _ kw_49) hstr (at_TB_seed_39 hw hE) at_TB_seed_39_ot hX.2.1 hX.2.2 hS (by rw [hml]; exact hl.1) d_TB_seed_39 d_TB_seed_42 d_TB_seed_43 d_TB_seed_45 d_TB_seed_48 (fun x hx => (hno x hx).elim) (Nat.le_of_ble_eq_true rfl) (Nat.le_of_ble_eq_true rfl) (Nat.le_of_ble_eq_true rfl) (Nat.le_of_ble_eq_true rfl) hlocks (fun t9 hal h1 h2 => ⟨(Or.inr (Or.inr ⟨rfl, h_2, h_7, by unfold plO; rw [nn_nI (show a9 < 2 ^ 31 by omega), nn_nI (show b9 < 2 ^ 31 by omega)]; exact Or.inl c_26⟩)), h1, h2⟩) (fun q h => by cases h) (Nat.le_of_ble_eq_true rfl) (Nat.le_of_ble_eq_true rfl)
  · skip
    refine lv_aload_n hx hb d_TB_seed_29 rfl (lv_at hl 1 rfl) ?_
    refine va_get (D := D) (ci := 0) (v := .ref f0) (C := R_TB) (T := T_TB) (N := 4) hx hb hw in_TB hown hE.1 hP 0 rfl rfl 1 (by decide) (hw _ kw_183) (fun _ h9 => h9) rfl d_TB_seed_30 ?_
    refine vp_callSi (va_Run.run (va_runV (As := []) (rest := []) ⟨hx, hb, hml, hown, hw⟩ (k_FD_hasAttached l D cI cJ f0 f1 f2 f3 f4 o1 np ns aw haw) (cwV 0 hw (gV kw_425 kw_426 kw_427 kw_42 kw_428) rfl rfl rfl (by decide +kernel) ⟨Nat.le_of_ble_eq_true rfl, Nat.le_of_ble_eq_true rfl⟩) (pre_Vp (wc := [(f0, .inr (2, [.ref o1, .ref f1, .ref f2, .ref f3, .ref f4, .int np, .int ns, .int aw]))]) (q0 := 0) hE hX hP hS [1] rfl rfl rfl) rfl rfl hl.1 rfl (lv_room (Nat.le_of_ble_eq_true rfl)) d_TB_seed_33 ⟨Nat.le_of_ble_eq_true rfl, Nat.le_of_ble_eq_true rfl⟩)) (fun r_5 hr_5 => ?_)
    obtain rfl : aw = r_5 := hr_5.symm
    refine lv_if_eq (tgt := 49) hx hb d_TB_seed_36 (by decide) (fun c_36 => ?_) (fun c_36 => ?_)
    · skip
      refine lv_aload_n hx hb d_TB_seed_49 rfl (lv_at hl 1 rfl) ?_
      refine va_get (D := D) (ci := 0) (v := .ref f0) (C := R_TB) (T := T_TB) (N := 4) hx hb hw in_TB hown hE.1 hP 0 rfl rfl 1 (by decide) (hw _ kw_183) (fun _ h9 => h9) rfl d_TB_seed_50 ?_
      refine lv_iload hx hb d_TB_seed_53 (lv_at hl 0 rfl) ?_
      refine lv_iload_n hx hb d_TB_seed_55 rfl (lv_at hl 4 rfl) ?_
      refine vp_callSi (va_Run.run (va_runS (As := [.int (nI d9)]) (rest := [.int (nI ((b9 + 1) * 42 + a9 + 1)), .ref f0]) ⟨hx, hb, hml, hown, hw⟩ (k_TB_seedOf l D cI cJ (nI d9)) (va_cwS 1 hw (gS kw_430 kw_431 kw_40 kw_432) rfl rfl rfl (by decide +kernel) ⟨Nat.le_of_ble_eq_true rfl, Nat.le_of_ble_eq_true rfl⟩) (pre_Sp (wc := []) hE hX hP hS [] rfl) rfl rfl hl.1 rfl (lv_room (Nat.le_of_ble_eq_true rfl)) d_TB_seed_56 ⟨Nat.le_of_ble_eq_true rfl, Nat.le_of_ble_eq_true rfl⟩)) (fun r_6 hr_6 => ?_)
      obtain rfl : (nI d9) ||| nI 1024 = r_6 := hr_6.symm
      refine cl_v (wr := [(x0, .inr (0, [.ref o1, .ref f0, .ref c0, .ref e0]))]) (va_runV (As := [.int (nI ((b9 + 1) * 42 + a9 + 1)), .int ((nI d9) ||| nI 1024)]) (rest := []) ⟨hx, hb, hml, hown, hw⟩ (k_FD_put l D cI cJ f0 f1 f2 f3 f4 o1 np ns aw s1 s2 s3 (nI t) wa st sd be ce oq rp ((b9 + 1) * 42 + a9 + 1) tl ((nI d9) ||| nI 1024) _ hp1 hp2 hce hsd hst (by rw [tyN_seed (by omega)]; omega)) (cwV 2 hw (gV kw_433 kw_434 kw_435 kw_42 kw_436) rfl rfl rfl (by decide +kernel) ⟨Nat.le_of_ble_eq_true rfl, Nat.le_of_ble_eq_true rfl⟩) (pre_Vw (wc := [(f0, .inr (2, [.ref o1, .ref f1, .ref f2, .ref f3, .ref f4, .int np, .int ns, .int aw])), (f1, .inl (cI, 1764, .inl ce)), (f2, .inl (cJ, 1764, .inr (.inl oq))), (f3, .inl (cI, 42, .inl rp)), (f4, .inl (cI, 61, .inl tl)), (o1, .inr (1, [.ref s1, .ref s2, .ref s3, .int (nI t), .int wa])), (s1, .inl (cI, 100, .inl st)), (s2, .inl (cI, 244, .inl sd)), (s3, .inl (cJ, 400, .inr (.inl be)))]) (q0 := 0) hE hX hA hP hD hS [1, 2, 3, 4, 5, 6, 7, 8, 9] (by decide) rfl rfl rfl rfl) rfl rfl hl.1 rfl (lv_room (Nat.le_of_ble_eq_true rfl)) d_TB_seed_59 ⟨Nat.le_of_ble_eq_true rfl, Nat.le_of_ble_eq_true rfl⟩) hP hD hS hA [1, 2, 3, 4, 5, 6, 7, 8, 9] [0] rfl rfl (by decide) (by decide) (fun u_r_7 H locs hr_7 hP hD hS => ?_)
      have hP : va_P D vwCl [(x0, .inr (0, [.ref o1, .ref f0, .ref c0, .ref e0])), (f0, .inr (2, [.ref o1, .ref f1, .ref f2, .ref f3, .ref f4, .int ((raL (upd ce ((b9 + 1) * 42 + a9 + 1) ((nI d9) ||| nI 1024)) sd st be wa ((b9 + 1) * 42 + a9 + 1) (oq, rp, np) 5).2.2), .int (nsP ns ((nI d9) ||| nI 1024)), .int aw])), (f1, .inl (cI, 1764, .inl (upd ce ((b9 + 1) * 42 + a9 + 1) ((nI d9) ||| nI 1024)))), (f2, .inl (cJ, 1764, .inr (.inl ((raL (upd ce ((b9 + 1) * 42 + a9 + 1) ((nI d9) ||| nI 1024)) sd st be wa ((b9 + 1) * 42 + a9 + 1) (oq, rp, np) 5).1)))), (f3, .inl (cI, 42, .inl ((raL (upd ce ((b9 + 1) * 42 + a9 + 1) ((nI d9) ||| nI 1024)) sd st be wa ((b9 + 1) * 42 + a9 + 1) (oq, rp, np) 5).2.1))), (f4, .inl (cI, 61, .inl (tlP tl ((nI d9) ||| nI 1024)))), (o1, .inr (1, [.ref s1, .ref s2, .ref s3, .int (nI t), .int wa])), (s1, .inl (cI, 100, .inl st)), (s2, .inl (cI, 244, .inl sd)), (s3, .inl (cJ, 400, .inr (.inl be)))] H := hP
      have hD : va_D A [(x0, .inr (0, [.ref o1, .ref f0, .ref c0, .ref e0])), (f0, .inr (2, [.ref o1, .ref f1, .ref f2, .ref f3, .ref f4, .int ((raL (upd ce ((b9 + 1) * 42 + a9 + 1) ((nI d9) ||| nI 1024)) sd st be wa ((b9 + 1) * 42 + a9 + 1) (oq, rp, np) 5).2.2), .int (nsP ns ((nI d9) ||| nI 1024)), .int aw])), (f1, .inl (cI, 1764, .inl (upd ce ((b9 + 1) * 42 + a9 + 1) ((nI d9) ||| nI 1024)))), (f2, .inl (cJ, 1764, .inr (.inl ((raL (upd ce ((b9 + 1) * 42 + a9 + 1) ((nI d9) ||| nI 1024)) sd st be wa ((b9 + 1) * 42 + a9 + 1) (oq, rp, np) 5).1)))), (f3, .inl (cI, 42, .inl ((raL (upd ce ((b9 + 1) * 42 + a9 + 1) ((nI d9) ||| nI 1024)) sd st be wa ((b9 + 1) * 42 + a9 + 1) (oq, rp, np) 5).2.1))), (f4, .inl (cI, 61, .inl (tlP tl ((nI d9) ||| nI 1024)))), (o1, .inr (1, [.ref s1, .ref s2, .ref s3, .int (nI t), .int wa])), (s1, .inl (cI, 100, .inl st)), (s2, .inl (cI, 244, .inl sd)), (s3, .inl (cJ, 400, .inr (.inl be)))] := hD
      have hP9 := hP.sub (ws' := [(x0, .inr (0, [.ref o1, .ref f0, .ref c0, .ref e0])), (f0, .inr (2, [.ref o1, .ref f1, .ref f2, .ref f3, .ref f4, .int ((raL (upd ce ((b9 + 1) * 42 + a9 + 1) ((nI d9) ||| nI 1024)) sd st be wa ((b9 + 1) * 42 + a9 + 1) (oq, rp, np) 5).2.2), .int (nsP ns ((nI d9) ||| nI 1024)), .int aw])), (f1, .inl (cI, 1764, .inl (upd ce ((b9 + 1) * 42 + a9 + 1) ((nI d9) ||| nI 1024)))), (f2, .inl (cJ, 1764, .inr (.inl ((raL (upd ce ((b9 + 1) * 42 + a9 + 1) ((nI d9) ||| nI 1024)) sd st be wa ((b9 + 1) * 42 + a9 + 1) (oq, rp, np) 5).1)))), (f3, .inl (cI, 42, .inl ((raL (upd ce ((b9 + 1) * 42 + a9 + 1) ((nI d9) ||| nI 1024)) sd st be wa ((b9 + 1) * 42 + a9 + 1) (oq, rp, np) 5).2.1))), (f4, .inl (cI, 61, .inl (tlP tl ((nI d9) ||| nI 1024)))), (o1, .inr (1, [.ref s1, .ref s2, .ref s3, .int (nI t), .int wa])), (s1, .inl (cI, 100, .inl st)), (s2, .inl (cI, 244, .inl sd)), (s3, .inl (cJ, 400, .inr (.inl be)))]) [0, 1, 2, 3, 4, 5, 6, 7, 8, 9] rfl
      have hD9 := hD.sub (ws' := [(x0, .inr (0, [.ref o1, .ref f0, .ref c0, .ref e0])), (f0, .inr (2, [.ref o1, .ref f1, .ref f2, .ref f3, .ref f4, .int ((raL (upd ce ((b9 + 1) * 42 + a9 + 1) ((nI d9) ||| nI 1024)) sd st be wa ((b9 + 1) * 42 + a9 + 1) (oq, rp, np) 5).2.2), .int (nsP ns ((nI d9) ||| nI 1024)), .int aw])), (f1, .inl (cI, 1764, .inl (upd ce ((b9 + 1) * 42 + a9 + 1) ((nI d9) ||| nI 1024)))), (f2, .inl (cJ, 1764, .inr (.inl ((raL (upd ce ((b9 + 1) * 42 + a9 + 1) ((nI d9) ||| nI 1024)) sd st be wa ((b9 + 1) * 42 + a9 + 1) (oq, rp, np) 5).1)))), (f3, .inl (cI, 42, .inl ((raL (upd ce ((b9 + 1) * 42 + a9 + 1) ((nI d9) ||| nI 1024)) sd st be wa ((b9 + 1) * 42 + a9 + 1) (oq, rp, np) 5).2.1))), (f4, .inl (cI, 61, .inl (tlP tl ((nI d9) ||| nI 1024)))), (o1, .inr (1, [.ref s1, .ref s2, .ref s3, .int (nI t), .int wa])), (s1, .inl (cI, 100, .inl st)), (s2, .inl (cI, 244, .inl sd)), (s3, .inl (cJ, 400, .inr (.inl be)))]) [0, 1, 2, 3, 4, 5, 6, 7, 8, 9] (by decide) rfl
      refine W.widen (k := 3) (n := 18) (Nat.le_of_ble_eq_true rfl) (Nat.le_of_ble_eq_true rfl) ?_
      refine vx_ret ?_
      exact W.vret hx hb hr (fun t9 ht hW => ⟨⟨(fsPut sd st be wa ((b9 + 1) * 42 + a9 + 1) (nI d9 ||| nI 1024) (ce, oq, rp, tl, np, ns, aw)), rfl, (by unfold plO; rw [nn_nI (show a9 < 2 ^ 31 by omega), nn_nI (show b9 < 2 ^ 31 by omega), nn_nI (show d9 < 2 ^ 31 by omega)]), ⟨by rw [ht]; exact hP9, hD9⟩⟩, hS.F ht⟩) hS.2.2 d_TB_seed_62
    · skip
      obtain ⟨sa, hstr⟩ := hE.2.2.2.1 _ (List.mem_of_getElem? (i := 5) rfl)
      exact vx_throwS (A := A) hx hb hfl hown (by decide +kernel) (by decide +kernel) (hw _ kw_244) (hw _ kw_49) hstr (at_TB_seed_39 hw hE) at_TB_seed_39_ot hX.2.1 hX.2.2 hS (by rw [hml]; exact hl.1) d_TB_seed_39 d_TB_seed_42 d_TB_seed_43 d_TB_seed_45 d_TB_seed_48 (fun x hx => (hno x hx).elim) (Nat.le_of_ble_eq_true rfl) (Nat.le_of_ble_eq_true rfl) (Nat.le_of_ble_eq_true rfl) (Nat.le_of_ble_eq_true rfl) hlocks (fun t9 hal h1 h2 => ⟨(Or.inr (Or.inr ⟨rfl, h_2, h_7, by unfold plO; rw [nn_nI (show a9 < 2 ^ 31 by omega), nn_nI (show b9 < 2 ^ 31 by omega)]; exact Or.inr c_36⟩)), h1, h2⟩) (fun q h => by cases h) (Nat.le_of_ble_eq_true rfl) (Nat.le_of_ble_eq_true rfl)
set_option maxHeartbeats 4000000 in
set_option maxRecDepth 100000 in
/-- at -/
theorem k_TB_at (l : Launch) (hfl : l.stackTraces = false) (D : va_G) (cI cJ : ClassId) (x0 : Nat) (c0 : Nat) (e0 : Nat) (f0 : Nat) (f1 : Nat) (f2 : Nat) (f3 : Nat) (f4 : Nat) (o1 : Nat) (np : Int32) (ns : Int32) (aw : Int32) (ce : Nat → Int32) (x : Int32) (y : Int32) (z : Int32) (sz : Nat)  : vx_Met l y_TB_at ws_TB_at ({ frames := 7, cells := 2, slots := 12, locals := 112 } : Room) (va_Pc [.ref x0, .int x, .int y, .int z] (Pw D cI cJ [(x0, .inr (0, [.ref o1, .ref f0, .ref c0, .ref e0])), (f0, .inr (2, [.ref o1, .ref f1, .ref f2, .ref f3, .ref f4, .int np, .int ns, .int aw])), (f1, .inl (cI, 1764, .inl ce))] sz)) (va_Qi (fun (r : Int32) (_u : Unit) => r = atV ce (plO x y) z) (fun _u t9 => Bw D (va_A [(x0, .inr (0, [.ref o1, .ref f0, .ref c0, .ref e0])), (f0, .inr (2, [.ref o1, .ref f1, .ref f2, .ref f3, .ref f4, .int np, .int ns, .int aw])), (f1, .inl (cI, 1764, .inl ce))] sz) [(x0, .inr (0, [.ref o1, .ref f0, .ref c0, .ref e0])), (f0, .inr (2, [.ref o1, .ref f1, .ref f2, .ref f3, .ref f4, .int np, .int ns, .int aw])), (f1, .inl (cI, 1764, .inl ce))] t9) (va_A [(x0, .inr (0, [.ref o1, .ref f0, .ref c0, .ref e0])), (f0, .inr (2, [.ref o1, .ref f1, .ref f2, .ref f3, .ref f4, .int np, .int ns, .int aw])), (f1, .inl (cI, 1764, .inl ce))] sz)) (nd_X (fun E => (E = "java/lang/IndexOutOfBoundsException" ∧ (x < 0 ∨ nI 40 ≤ x ∨ y < 0 ∨ ¬ y < nI 40)) ∨ (E = "java/lang/IllegalArgumentException" ∧ (¬ x < 0 ∧ ¬ nI 40 ≤ x ∧ ¬ y < 0 ∧ y < nI 40) ∧ (z < nI 0 ∨ ¬ z ≤ nI 3)))) 2 12 (va_A [(x0, .inr (0, [.ref o1, .ref f0, .ref c0, .ref e0])), (f0, .inr (2, [.ref o1, .ref f1, .ref f2, .ref f3, .ref f4, .int np, .int ns, .int aw])), (f1, .inl (cI, 1764, .inl ce))] sz) := by
  refine vx_ofW (cc := c_TB_at) (maxL := 6) (ret := (some .int)) (by decide) rfl ?_
  intro p e s m args below meth c s₁ B hml hno hv
  obtain ⟨rfl, hsz, hE, hP, hD0, hX⟩ := hv
  have hx := B.exec
  have hb := B.bytes
  have hr := B.returns
  have hw : ∀ w ∈ gw, w.before _ s = true := fun w h => atoms_spec (ws := ws_TB_at) B.pre w (List.mem_cons_of_mem _ h)
  have hown : s.vm.findClass R_TB = some m.cls := findClass_of_methodNamed B.named
  have hlocks := B.notSynchronized
  subst hsz
  have hD := hD0.self (sz := s.heap.size)
  generalize hAe : va_A [(x0, .inr (0, [.ref o1, .ref f0, .ref c0, .ref e0])), (f0, .inr (2, [.ref o1, .ref f1, .ref f2, .ref f3, .ref f4, .int np, .int ns, .int aw])), (f1, .inl (cI, 1764, .inl ce))] s.heap.size = A at hD hX ⊢
  have hA : ∀ q : Nat, s.heap.size ≤ q → A q := fun q h => by rw [← hAe]; exact Or.inr h
  have hS : va_S A s.heap s.heap [] := va_S.rf
  have hP : va_P D vwCl [(x0, .inr (0, [.ref o1, .ref f0, .ref c0, .ref e0])), (f0, .inr (2, [.ref o1, .ref f1, .ref f2, .ref f3, .ref f4, .int np, .int ns, .int aw])), (f1, .inl (cI, 1764, .inl ce))] s.heap := hP
  have hl := lv_entry ([.ref x0, .int x, .int y, .int z]) (n := 6) (Nat.le_of_ble_eq_true rfl)
  rw [lg_entry_eq]
  generalize (lg_sl ([.ref x0, .int x, .int y, .int z]) ++ List.replicate (6 - (lg_sl ([.ref x0, .int x, .int y, .int z])).length) Slot.unset).toArray = ls at hl ⊢
  have hl : lv_has ls 6 [(0, .ref x0), (1, .int x), (2, .int y), (3, .int z)] := hl
  refine lv_iload_n hx hb d_TB_at_0 rfl (lv_at hl 1 rfl) ?_
  refine lv_iload_n hx hb d_TB_at_1 rfl (lv_at hl 2 rfl) ?_
  refine nd_call (vx_runS (As := [.int x, .int y]) (rest := []) ⟨hx, hb, hml, hown, hw⟩ (k_TB_needPlace l hfl D cI cJ x y) (va_cwS 2 hw (gS kw_394 kw_395 kw_40 kw_396) rfl rfl rfl (by decide +kernel) ⟨Nat.le_of_ble_eq_true rfl, Nat.le_of_ble_eq_true rfl⟩) (pre_Sp (wc := []) hE hX hP hS [] rfl) rfl rfl hl.1 rfl (lv_room (Nat.le_of_ble_eq_true rfl)) d_TB_at_2 ⟨Nat.le_of_ble_eq_true rfl, Nat.le_of_ble_eq_true rfl⟩) (fun E ce q9 H1 hex hc1 hc2 hc3 hc5 hc6 => ?_) (fun h_2 => ?_)
  · skip
    exact vx_out (fun x hx => (hno x hx).elim) hlocks hc1 hc2 hc3 (fun t9 ht hal => ⟨(Or.inl hex), by rw [ht]; exact hc5, fun q hq => by rw [ht]; exact hc6 q hq⟩) (fun q h => by cases h) (Nat.le_of_ble_eq_true rfl) (Nat.le_of_ble_eq_true rfl)
  refine lv_iload_n hx hb d_TB_at_5 rfl (lv_at hl 3 rfl) ?_
  refine lv_iconst (v := nI 0) hx hb d_TB_at_6 (by decide +kernel) ?_
  refine lv_iconst (v := nI 3) hx hb d_TB_at_7 (by decide +kernel) ?_
  refine nd_call (vx_runS (As := [.int z, .int (nI 0), .int (nI 3)]) (rest := []) ⟨hx, hb, hml, hown, hw⟩ (k_TB_needWithin l hfl D cI cJ z (nI 0) (nI 3)) (va_cwS 3 hw (gS kw_313 kw_314 kw_40 kw_315) rfl rfl rfl (by decide +kernel) ⟨Nat.le_of_ble_eq_true rfl, Nat.le_of_ble_eq_true rfl⟩) (pre_Sp (wc := []) hE hX hP hS [] rfl) rfl rfl hl.1 rfl (lv_room (Nat.le_of_ble_eq_true rfl)) d_TB_at_8 ⟨Nat.le_of_ble_eq_true rfl, Nat.le_of_ble_eq_true rfl⟩) (fun E ce q9 H1 hex hc1 hc2 hc3 hc5 hc6 => ?_) (fun h_8 => ?_)
  · skip
    exact vx_out (fun x hx => (hno x hx).elim) hlocks hc1 hc2 hc3 (fun t9 ht hal => ⟨(Or.inr ⟨hex.1, h_2, hex.2⟩), by rw [ht]; exact hc5, fun q hq => by rw [ht]; exact hc6 q hq⟩) (fun q h => by cases h) (Nat.le_of_ble_eq_true rfl) (Nat.le_of_ble_eq_true rfl)
  obtain ⟨a9, ha9, rfl⟩ := within_nat0 h_2.1 h_2.2.1 (by decide)
  obtain ⟨b9, hb9, rfl⟩ := within_nat1 h_2.2.2.1 h_2.2.2.2 (by decide)
  obtain ⟨hp1, hp2⟩ := pl_in ha9 hb9
  obtain ⟨d9, hd1, hd2, rfl⟩ := within_nat h_8.1 h_8.2 (by decide) (by decide)
  refine lv_iload_n hx hb d_TB_at_11 rfl (lv_at hl 1 rfl) ?_
  refine lv_iload_n hx hb d_TB_at_12 rfl (lv_at hl 2 rfl) ?_
  refine vp_callSi (va_Run.run (va_runS (As := [.int (nI a9), .int (nI b9)]) (rest := []) ⟨hx, hb, hml, hown, hw⟩ (k_TB_placeOf l D cI cJ a9 b9) (va_cwS 2 hw (gS kw_418 kw_419 kw_40 kw_420) rfl rfl rfl (by decide +kernel) ⟨Nat.le_of_ble_eq_true rfl, Nat.le_of_ble_eq_true rfl⟩) (pre_Sp (wc := []) hE hX hP hS [] rfl) rfl rfl hl.1 rfl (lv_room (Nat.le_of_ble_eq_true rfl)) d_TB_at_13 ⟨Nat.le_of_ble_eq_true rfl, Nat.le_of_ble_eq_true rfl⟩)) (fun r_3 hr_3 => ?_)
  obtain rfl : nI ((b9 + 1) * 42 + a9 + 1) = r_3 := hr_3.symm
  refine lv_istore (lv' := [(4, .int (nI ((b9 + 1) * 42 + a9 + 1))), (0, .ref x0), (1, .int (nI a9)), (2, .int (nI b9)), (3, .int (nI d9))]) hx hb d_TB_at_16 hl (by decide) rfl (fun ls hl => ?_)
  refine lv_aload_n hx hb d_TB_at_18 rfl (lv_at hl 1 rfl) ?_
  refine va_get (D := D) (ci := 0) (v := .ref f0) (C := R_TB) (T := T_TB) (N := 4) hx hb hw in_TB hown hE.1 hP 0 rfl rfl 1 (by decide) (hw _ kw_183) (fun _ h9 => h9) rfl d_TB_at_19 ?_
  refine lv_iload hx hb d_TB_at_22 (lv_at hl 0 rfl) ?_
  refine vp_callSi (va_Run.run (va_runV (As := [.int (nI ((b9 + 1) * 42 + a9 + 1))]) (rest := []) ⟨hx, hb, hml, hown, hw⟩ (k_FD_typeAt l D cI cJ f0 f1 f2 f3 f4 o1 np ns aw ce ((b9 + 1) * 42 + a9 + 1) (by unfold plN at hp1 hp2; omega)) (cwV 1 hw (gV kw_421 kw_422 kw_423 kw_42 kw_424) rfl rfl rfl (by decide +kernel) ⟨Nat.le_of_ble_eq_true rfl, Nat.le_of_ble_eq_true rfl⟩) (pre_Vp (wc := [(f0, .inr (2, [.ref o1, .ref f1, .ref f2, .ref f3, .ref f4, .int np, .int ns, .int aw])), (f1, .inl (cI, 1764, .inl ce))]) (q0 := 0) hE hX hP hS [1, 2] rfl rfl rfl) rfl rfl hl.1 rfl (lv_room (Nat.le_of_ble_eq_true rfl)) d_TB_at_24 ⟨Nat.le_of_ble_eq_true rfl, Nat.le_of_ble_eq_true rfl⟩)) (fun r_4 hr_4 => ?_)
  obtain rfl : nI (tyN (ce ((b9 + 1) * 42 + a9 + 1))) = r_4 := hr_4.symm
  refine lv_istore (lv' := [(5, .int (nI (tyN (ce ((b9 + 1) * 42 + a9 + 1))))), (4, .int (nI ((b9 + 1) * 42 + a9 + 1))), (0, .ref x0), (1, .int (nI a9)), (2, .int (nI b9)), (3, .int (nI d9))]) hx hb d_TB_at_27 hl (by decide) rfl (fun ls hl => ?_)
  refine lv_iload_n hx hb d_TB_at_29 rfl (lv_at hl 5 rfl) ?_
  refine jn_if_ne (tgt := 36) (a := d9) hx hb d_TB_at_30 (by decide) (by omega) (fun c_30 => ?_) (fun c_30 => ?_)
  · skip
    refine lv_iload hx hb d_TB_at_36 (lv_at hl 0 rfl) ?_
    refine jn_if_ne (tgt := 43) (a := (tyN (ce ((b9 + 1) * 42 + a9 + 1)))) hx hb d_TB_at_38 (by decide) (by have := tyN_lt (ce ((b9 + 1) * 42 + a9 + 1)); omega) (fun c_38 => ?_) (fun c_38 => ?_)
    · skip
      refine lv_iload_n hx hb d_TB_at_43 rfl (lv_at hl 5 rfl) ?_
      rcases (show d9 = 1 ∨ d9 = 2 ∨ d9 = 3 by omega) with rfl | rfl | rfl
      · skip
        refine lv_lookup (off := 28) (tgt := 72) hx hb d_TB_at_44 (by decide) (by decide +kernel) (by decide) ?_
        refine lv_aload_n hx hb d_TB_at_72 rfl (lv_at hl 2 rfl) ?_
        refine va_get (D := D) (ci := 0) (v := .ref f0) (C := R_TB) (T := T_TB) (N := 4) hx hb hw in_TB hown hE.1 hP 0 rfl rfl 1 (by decide) (hw _ kw_183) (fun _ h9 => h9) rfl d_TB_at_73 ?_
        refine lv_iload hx hb d_TB_at_76 (lv_at hl 1 rfl) ?_
        refine vp_callSi (va_Run.run (va_runV (As := [.int (nI ((b9 + 1) * 42 + a9 + 1))]) (rest := []) ⟨hx, hb, hml, hown, hw⟩ (k_FD_inputsAt l D cI cJ f0 f1 f2 f3 f4 o1 np ns aw ce ((b9 + 1) * 42 + a9 + 1) (by unfold plN at hp1 hp2; omega)) (cwV 1 hw (gV kw_586 kw_587 kw_588 kw_42 kw_589) rfl rfl rfl (by decide +kernel) ⟨Nat.le_of_ble_eq_true rfl, Nat.le_of_ble_eq_true rfl⟩) (pre_Vp (wc := [(f0, .inr (2, [.ref o1, .ref f1, .ref f2, .ref f3, .ref f4, .int np, .int ns, .int aw])), (f1, .inl (cI, 1764, .inl ce))]) (q0 := 0) hE hX hP hS [1, 2] rfl rfl rfl) rfl rfl hl.1 rfl (lv_room (Nat.le_of_ble_eq_true rfl)) d_TB_at_78 ⟨Nat.le_of_ble_eq_true rfl, Nat.le_of_ble_eq_true rfl⟩)) (fun r_5 hr_5 => ?_)
        obtain rfl : nI (inN (ce ((b9 + 1) * 42 + a9 + 1))) = r_5 := hr_5.symm
        have hP9 := hP.sub (ws' := [(x0, .inr (0, [.ref o1, .ref f0, .ref c0, .ref e0])), (f0, .inr (2, [.ref o1, .ref f1, .ref f2, .ref f3, .ref f4, .int np, .int ns, .int aw])), (f1, .inl (cI, 1764, .inl ce))]) [0, 1, 2] rfl
        have hD9 := hD.sub (ws' := [(x0, .inr (0, [.ref o1, .ref f0, .ref c0, .ref e0])), (f0, .inr (2, [.ref o1, .ref f1, .ref f2, .ref f3, .ref f4, .int np, .int ns, .int aw])), (f1, .inl (cI, 1764, .inl ce))]) [0, 1, 2] (by decide) rfl
        refine vx_ret ?_
        exact W.iret (v := nI (inN (ce ((b9 + 1) * 42 + a9 + 1)))) hx hb hr (fun t9 ht hW => ⟨⟨_, (), rfl, (by unfold plO; rw [nn_nI (show a9 < 2 ^ 31 by omega), nn_nI (show b9 < 2 ^ 31 by omega)]; unfold atV; rw [if_neg (by decide +kernel), if_neg c_38, if_pos rfl]), ⟨by rw [ht]; exact hP9, hD9⟩⟩, hS.F ht⟩) hS.2.2 d_TB_at_81
      · skip
        refine lv_lookup (off := 38) (tgt := 82) hx hb d_TB_at_44 (by decide) (by decide +kernel) (by decide) ?_
        refine lv_aload_n hx hb d_TB_at_82 rfl (lv_at hl 2 rfl) ?_
        refine va_get (D := D) (ci := 0) (v := .ref f0) (C := R_TB) (T := T_TB) (N := 4) hx hb hw in_TB hown hE.1 hP 0 rfl rfl 1 (by decide) (hw _ kw_183) (fun _ h9 => h9) rfl d_TB_at_83 ?_
        refine lv_iload hx hb d_TB_at_86 (lv_at hl 1 rfl) ?_
        refine vp_callSi (va_Run.run (va_runV (As := [.int (nI ((b9 + 1) * 42 + a9 + 1))]) (rest := []) ⟨hx, hb, hml, hown, hw⟩ (k_FD_outputsAt l D cI cJ f0 f1 f2 f3 f4 o1 np ns aw ce ((b9 + 1) * 42 + a9 + 1) hp1 hp2) (cwV 1 hw (gV kw_590 kw_591 kw_592 kw_42 kw_593) rfl rfl rfl (by decide +kernel) ⟨Nat.le_of_ble_eq_true rfl, Nat.le_of_ble_eq_true rfl⟩) (pre_Vp (wc := [(f0, .inr (2, [.ref o1, .ref f1, .ref f2, .ref f3, .ref f4, .int np, .int ns, .int aw])), (f1, .inl (cI, 1764, .inl ce))]) (q0 := 0) hE hX hP hS [1, 2] rfl rfl rfl) rfl rfl hl.1 rfl (lv_room (Nat.le_of_ble_eq_true rfl)) d_TB_at_88 ⟨Nat.le_of_ble_eq_true rfl, Nat.le_of_ble_eq_true rfl⟩)) (fun r_6 hr_6 => ?_)
        obtain rfl : otL ce ((b9 + 1) * 42 + a9 + 1) 4 = r_6 := hr_6.symm
        have hP9 := hP.sub (ws' := [(x0, .inr (0, [.ref o1, .ref f0, .ref c0, .ref e0])), (f0, .inr (2, [.ref o1, .ref f1, .ref f2, .ref f3, .ref f4, .int np, .int ns, .int aw])), (f1, .inl (cI, 1764, .inl ce))]) [0, 1, 2] rfl
        have hD9 := hD.sub (ws' := [(x0, .inr (0, [.ref o1, .ref f0, .ref c0, .ref e0])), (f0, .inr (2, [.ref o1, .ref f1, .ref f2, .ref f3, .ref f4, .int np, .int ns, .int aw])), (f1, .inl (cI, 1764, .inl ce))]) [0, 1, 2] (by decide) rfl
        refine vx_ret ?_
        exact W.iret (v := otL ce ((b9 + 1) * 42 + a9 + 1) 4) hx hb hr (fun t9 ht hW => ⟨⟨_, (), rfl, (by unfold plO; rw [nn_nI (show a9 < 2 ^ 31 by omega), nn_nI (show b9 < 2 ^ 31 by omega)]; unfold atV; rw [if_neg (by decide +kernel), if_neg c_38, if_neg (by decide +kernel), if_pos rfl]), ⟨by rw [ht]; exact hP9, hD9⟩⟩, hS.F ht⟩) hS.2.2 d_TB_at_91
      · skip
        refine lv_lookup (off := 48) (tgt := 92) hx hb d_TB_at_44 (by decide) (by decide +kernel) (by decide) ?_
        refine lv_aload_n hx hb d_TB_at_92 rfl (lv_at hl 2 rfl) ?_
        refine va_get (D := D) (ci := 0) (v := .ref f0) (C := R_TB) (T := T_TB) (N := 4) hx hb hw in_TB hown hE.1 hP 0 rfl rfl 1 (by decide) (hw _ kw_183) (fun _ h9 => h9) rfl d_TB_at_93 ?_
        refine lv_iload hx hb d_TB_at_96 (lv_at hl 1 rfl) ?_
        refine vp_callSi (va_Run.run (va_runV (As := [.int (nI ((b9 + 1) * 42 + a9 + 1))]) (rest := []) ⟨hx, hb, hml, hown, hw⟩ (k_FD_isSeed l D cI cJ f0 f1 f2 f3 f4 o1 np ns aw ce ((b9 + 1) * 42 + a9 + 1) (by unfold plN at hp1 hp2; omega)) (cwV 1 hw (gV kw_595 kw_439 kw_440 kw_42 kw_441) rfl rfl rfl (by decide +kernel) ⟨Nat.le_of_ble_eq_true rfl, Nat.le_of_ble_eq_true rfl⟩) (pre_Vp (wc := [(f0, .inr (2, [.ref o1, .ref f1, .ref f2, .ref f3, .ref f4, .int np, .int ns, .int aw])), (f1, .inl (cI, 1764, .inl ce))]) (q0 := 0) hE hX hP hS [1, 2] rfl rfl rfl) rfl rfl hl.1 rfl (lv_room (Nat.le_of_ble_eq_true rfl)) d_TB_at_98 ⟨Nat.le_of_ble_eq_true rfl, Nat.le_of_ble_eq_true rfl⟩)) (fun r_7 hr_7 => ?_)
        obtain rfl : nI (sdN (ce ((b9 + 1) * 42 + a9 + 1))) = r_7 := hr_7.symm
        refine jn_if_eq (tgt := 108) (a := (sdN (ce ((b9 + 1) * 42 + a9 + 1)))) hx hb d_TB_at_101 (by decide) (by have := sdN_le (ce ((b9 + 1) * 42 + a9 + 1)); omega) (fun c_101 => ?_) (fun c_101 => ?_)
        · skip
          refine lv_iconst (v := nI 0) hx hb d_TB_at_108 (by decide +kernel) ?_
          have hP9 := hP.sub (ws' := [(x0, .inr (0, [.ref o1, .ref f0, .ref c0, .ref e0])), (f0, .inr (2, [.ref o1, .ref f1, .ref f2, .ref f3, .ref f4, .int np, .int ns, .int aw])), (f1, .inl (cI, 1764, .inl ce))]) [0, 1, 2] rfl
          have hD9 := hD.sub (ws' := [(x0, .inr (0, [.ref o1, .ref f0, .ref c0, .ref e0])), (f0, .inr (2, [.ref o1, .ref f1, .ref f2, .ref f3, .ref f4, .int np, .int ns, .int aw])), (f1, .inl (cI, 1764, .inl ce))]) [0, 1, 2] (by decide) rfl
          refine vx_ret ?_
          exact W.iret (v := nI 0) hx hb hr (fun t9 ht hW => ⟨⟨_, (), rfl, (by unfold plO; rw [nn_nI (show a9 < 2 ^ 31 by omega), nn_nI (show b9 < 2 ^ 31 by omega)]; unfold atV; rw [if_neg (by decide +kernel), if_neg c_38, if_neg (by decide +kernel), if_neg (by decide +kernel), c_101]), ⟨by rw [ht]; exact hP9, hD9⟩⟩, hS.F ht⟩) hS.2.2 d_TB_at_109
        · skip
          refine lv_iconst (v := nI 1) hx hb d_TB_at_104 (by decide +kernel) ?_
          refine lv_goto (tgt := 109) hx hb d_TB_at_105 (by decide) ?_
          have hP9 := hP.sub (ws' := [(x0, .inr (0, [.ref o1, .ref f0, .ref c0, .ref e0])), (f0, .inr (2, [.ref o1, .ref f1, .ref f2, .ref f3, .ref f4, .int np, .int ns, .int aw])), (f1, .inl (cI, 1764, .inl ce))]) [0, 1, 2] rfl
          have hD9 := hD.sub (ws' := [(x0, .inr (0, [.ref o1, .ref f0, .ref c0, .ref e0])), (f0, .inr (2, [.ref o1, .ref f1, .ref f2, .ref f3, .ref f4, .int np, .int ns, .int aw])), (f1, .inl (cI, 1764, .inl ce))]) [0, 1, 2] (by decide) rfl
          refine vx_ret ?_
          exact W.iret (v := nI 1) hx hb hr (fun t9 ht hW => ⟨⟨_, (), rfl, (by unfold plO; rw [nn_nI (show a9 < 2 ^ 31 by omega), nn_nI (show b9 < 2 ^ 31 by omega)]; unfold atV; rw [if_neg (by decide +kernel), if_neg c_38, if_neg (by decide +kernel), if_neg (by decide +kernel), show sdN (ce ((b9 + 1) * 42 + a9 + 1)) = 1 by have := sdN_le (ce ((b9 + 1) * 42 + a9 + 1)); omega]), ⟨by rw [ht]; exact hP9, hD9⟩⟩, hS.F ht⟩) hS.2.2 d_TB_at_109
    · skip
      refine lv_iconst (v := (-1)) hx hb d_TB_at_41 (by decide +kernel) ?_
      have hP9 := hP.sub (ws' := [(x0, .inr (0, [.ref o1, .ref f0, .ref c0, .ref e0])), (f0, .inr (2, [.ref o1, .ref f1, .ref f2, .ref f3, .ref f4, .int np, .int ns, .int aw])), (f1, .inl (cI, 1764, .inl ce))]) [0, 1, 2] rfl
      have hD9 := hD.sub (ws' := [(x0, .inr (0, [.ref o1, .ref f0, .ref c0, .ref e0])), (f0, .inr (2, [.ref o1, .ref f1, .ref f2, .ref f3, .ref f4, .int np, .int ns, .int aw])), (f1, .inl (cI, 1764, .inl ce))]) [0, 1, 2] (by decide) rfl
      refine vx_ret ?_
      exact W.iret (v := (-1)) hx hb hr (fun t9 ht hW => ⟨⟨_, (), rfl, (by unfold plO; rw [nn_nI (show a9 < 2 ^ 31 by omega), nn_nI (show b9 < 2 ^ 31 by omega)]; unfold atV; rw [if_neg (fun q => c_30 ((nI_eq (by omega) (by decide)).mp q)), if_pos c_38]), ⟨by rw [ht]; exact hP9, hD9⟩⟩, hS.F ht⟩) hS.2.2 d_TB_at_42
  · skip
    refine lv_iload hx hb d_TB_at_33 (lv_at hl 0 rfl) ?_
    have hP9 := hP.sub (ws' := [(x0, .inr (0, [.ref o1, .ref f0, .ref c0, .ref e0])), (f0, .inr (2, [.ref o1, .ref f1, .ref f2, .ref f3, .ref f4, .int np, .int ns, .int aw])), (f1, .inl (cI, 1764, .inl ce))]) [0, 1, 2] rfl
    have hD9 := hD.sub (ws' := [(x0, .inr (0, [.ref o1, .ref f0, .ref c0, .ref e0])), (f0, .inr (2, [.ref o1, .ref f1, .ref f2, .ref f3, .ref f4, .int np, .int ns, .int aw])), (f1, .inl (cI, 1764, .inl ce))]) [0, 1, 2] (by decide) rfl
    refine vx_ret ?_
    exact W.iret (v := nI (tyN (ce ((b9 + 1) * 42 + a9 + 1)))) hx hb hr (fun t9 ht hW => ⟨⟨_, (), rfl, (by unfold plO; rw [nn_nI (show a9 < 2 ^ 31 by omega), nn_nI (show b9 < 2 ^ 31 by omega)]; unfold atV; rw [if_pos (by rw [c_30])]), ⟨by rw [ht]; exact hP9, hD9⟩⟩, hS.F ht⟩) hS.2.2 d_TB_at_35
