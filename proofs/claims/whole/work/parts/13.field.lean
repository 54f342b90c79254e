theorem d_FD_init_0 : decode c_FD_init 0 = .ok (.aload_n 0, 1) := by decide +kernel
theorem d_FD_init_1 : decode c_FD_init 1 = .ok (.invokespecial 3, 3) := by decide +kernel
theorem d_FD_init_4 : decode c_FD_init 4 = .ok (.aload_n 0, 1) := by decide +kernel
theorem d_FD_init_5 : decode c_FD_init 5 = .ok (.sipush 1764, 3) := by decide +kernel
theorem d_FD_init_8 : decode c_FD_init 8 = .ok (.newarray .int, 2) := by decide +kernel
theorem d_FD_init_10 : decode c_FD_init 10 = .ok (.putfield 9, 3) := by decide +kernel
theorem d_FD_init_13 : decode c_FD_init 13 = .ok (.aload_n 0, 1) := by decide +kernel
theorem d_FD_init_14 : decode c_FD_init 14 = .ok (.sipush 1764, 3) := by decide +kernel
theorem d_FD_init_17 : decode c_FD_init 17 = .ok (.newarray .long, 2) := by decide +kernel
theorem d_FD_init_19 : decode c_FD_init 19 = .ok (.putfield 15, 3) := by decide +kernel
theorem d_FD_init_22 : decode c_FD_init 22 = .ok (.aload_n 0, 1) := by decide +kernel
theorem d_FD_init_23 : decode c_FD_init 23 = .ok (.bipush 42, 2) := by decide +kernel
theorem d_FD_init_25 : decode c_FD_init 25 = .ok (.newarray .int, 2) := by decide +kernel
theorem d_FD_init_27 : decode c_FD_init 27 = .ok (.putfield 19, 3) := by decide +kernel
theorem d_FD_init_30 : decode c_FD_init 30 = .ok (.aload_n 0, 1) := by decide +kernel
theorem d_FD_init_31 : decode c_FD_init 31 = .ok (.bipush 61, 2) := by decide +kernel
theorem d_FD_init_33 : decode c_FD_init 33 = .ok (.newarray .int, 2) := by decide +kernel
theorem d_FD_init_35 : decode c_FD_init 35 = .ok (.putfield 22, 3) := by decide +kernel
theorem d_FD_init_38 : decode c_FD_init 38 = .ok (.aload_n 0, 1) := by decide +kernel
theorem d_FD_init_39 : decode c_FD_init 39 = .ok (.iconst 0, 1) := by decide +kernel
theorem d_FD_init_40 : decode c_FD_init 40 = .ok (.putfield 25, 3) := by decide +kernel
theorem d_FD_init_43 : decode c_FD_init 43 = .ok (.aload_n 0, 1) := by decide +kernel
theorem d_FD_init_44 : decode c_FD_init 44 = .ok (.iconst 0, 1) := by decide +kernel
theorem d_FD_init_45 : decode c_FD_init 45 = .ok (.putfield 29, 3) := by decide +kernel
theorem d_FD_init_48 : decode c_FD_init 48 = .ok (.aload_n 0, 1) := by decide +kernel
theorem d_FD_init_49 : decode c_FD_init 49 = .ok (.iconst 0, 1) := by decide +kernel
theorem d_FD_init_50 : decode c_FD_init 50 = .ok (.putfield 32, 3) := by decide +kernel
theorem d_FD_init_53 : decode c_FD_init 53 = .ok (.aload_n 0, 1) := by decide +kernel
theorem d_FD_init_54 : decode c_FD_init 54 = .ok (.aload_n 1, 1) := by decide +kernel
theorem d_FD_init_55 : decode c_FD_init 55 = .ok (.putfield 36, 3) := by decide +kernel
theorem d_FD_init_58 : decode c_FD_init 58 = .ok (.iconst 0, 1) := by decide +kernel
theorem d_FD_init_59 : decode c_FD_init 59 = .ok (.istore_n 2, 1) := by decide +kernel
theorem d_FD_init_60 : decode c_FD_init 60 = .ok (.iload_n 2, 1) := by decide +kernel
theorem d_FD_init_61 : decode c_FD_init 61 = .ok (.bipush 42, 2) := by decide +kernel
theorem d_FD_init_63 : decode c_FD_init 63 = .ok (.if_icmp .ge 60, 3) := by decide +kernel
theorem d_FD_init_66 : decode c_FD_init 66 = .ok (.aload_n 0, 1) := by decide +kernel
theorem d_FD_init_67 : decode c_FD_init 67 = .ok (.getfield 9, 3) := by decide +kernel
theorem d_FD_init_70 : decode c_FD_init 70 = .ok (.iload_n 2, 1) := by decide +kernel
theorem d_FD_init_71 : decode c_FD_init 71 = .ok (.sipush 2048, 3) := by decide +kernel
theorem d_FD_init_74 : decode c_FD_init 74 = .ok (.iastore, 1) := by decide +kernel
theorem d_FD_init_75 : decode c_FD_init 75 = .ok (.aload_n 0, 1) := by decide +kernel
theorem d_FD_init_76 : decode c_FD_init 76 = .ok (.getfield 9, 3) := by decide +kernel
theorem d_FD_init_79 : decode c_FD_init 79 = .ok (.sipush 1763, 3) := by decide +kernel
theorem d_FD_init_82 : decode c_FD_init 82 = .ok (.iload_n 2, 1) := by decide +kernel
theorem d_FD_init_83 : decode c_FD_init 83 = .ok (.isub, 1) := by decide +kernel
theorem d_FD_init_84 : decode c_FD_init 84 = .ok (.sipush 2048, 3) := by decide +kernel
theorem d_FD_init_87 : decode c_FD_init 87 = .ok (.iastore, 1) := by decide +kernel
theorem d_FD_init_88 : decode c_FD_init 88 = .ok (.aload_n 0, 1) := by decide +kernel
theorem d_FD_init_89 : decode c_FD_init 89 = .ok (.getfield 9, 3) := by decide +kernel
theorem d_FD_init_92 : decode c_FD_init 92 = .ok (.iload_n 2, 1) := by decide +kernel
theorem d_FD_init_93 : decode c_FD_init 93 = .ok (.bipush 42, 2) := by decide +kernel
theorem d_FD_init_95 : decode c_FD_init 95 = .ok (.imul, 1) := by decide +kernel
theorem d_FD_init_96 : decode c_FD_init 96 = .ok (.sipush 2048, 3) := by decide +kernel
theorem d_FD_init_99 : decode c_FD_init 99 = .ok (.iastore, 1) := by decide +kernel
theorem d_FD_init_100 : decode c_FD_init 100 = .ok (.aload_n 0, 1) := by decide +kernel
theorem d_FD_init_101 : decode c_FD_init 101 = .ok (.getfield 9, 3) := by decide +kernel
theorem d_FD_init_104 : decode c_FD_init 104 = .ok (.iload_n 2, 1) := by decide +kernel
theorem d_FD_init_105 : decode c_FD_init 105 = .ok (.bipush 42, 2) := by decide +kernel
theorem d_FD_init_107 : decode c_FD_init 107 = .ok (.imul, 1) := by decide +kernel
theorem d_FD_init_108 : decode c_FD_init 108 = .ok (.bipush 42, 2) := by decide +kernel
theorem d_FD_init_110 : decode c_FD_init 110 = .ok (.iadd, 1) := by decide +kernel
theorem d_FD_init_111 : decode c_FD_init 111 = .ok (.iconst 1, 1) := by decide +kernel
theorem d_FD_init_112 : decode c_FD_init 112 = .ok (.isub, 1) := by decide +kernel
theorem d_FD_init_113 : decode c_FD_init 113 = .ok (.sipush 2048, 3) := by decide +kernel
theorem d_FD_init_116 : decode c_FD_init 116 = .ok (.iastore, 1) := by decide +kernel
theorem d_FD_init_117 : decode c_FD_init 117 = .ok (.iinc 2 1, 3) := by decide +kernel
theorem d_FD_init_120 : decode c_FD_init 120 = .ok (.goto (-60), 3) := by decide +kernel
theorem d_FD_init_123 : decode c_FD_init 123 = .ok (.return_, 1) := by decide +kernel
theorem d_OC_init_0 : decode c_OC_init 0 = .ok (.aload_n 0, 1) := by decide +kernel
theorem d_OC_init_1 : decode c_OC_init 1 = .ok (.invokespecial 3, 3) := by decide +kernel
theorem d_OC_init_4 : decode c_OC_init 4 = .ok (.aload_n 0, 1) := by decide +kernel
theorem d_OC_init_5 : decode c_OC_init 5 = .ok (.sipush 500, 3) := by decide +kernel
theorem d_OC_init_8 : decode c_OC_init 8 = .ok (.newarray .int, 2) := by decide +kernel
theorem d_OC_init_10 : decode c_OC_init 10 = .ok (.putfield 9, 3) := by decide +kernel
theorem d_OC_init_13 : decode c_OC_init 13 = .ok (.aload_n 0, 1) := by decide +kernel
theorem d_OC_init_14 : decode c_OC_init 14 = .ok (.sipush 500, 3) := by decide +kernel
theorem d_OC_init_17 : decode c_OC_init 17 = .ok (.newarray .int, 2) := by decide +kernel
theorem d_OC_init_19 : decode c_OC_init 19 = .ok (.putfield 15, 3) := by decide +kernel
theorem d_OC_init_22 : decode c_OC_init 22 = .ok (.aload_n 0, 1) := by decide +kernel
theorem d_OC_init_23 : decode c_OC_init 23 = .ok (.sipush 500, 3) := by decide +kernel
theorem d_OC_init_26 : decode c_OC_init 26 = .ok (.newarray .int, 2) := by decide +kernel
theorem d_OC_init_28 : decode c_OC_init 28 = .ok (.putfield 18, 3) := by decide +kernel
theorem d_OC_init_31 : decode c_OC_init 31 = .ok (.aload_n 0, 1) := by decide +kernel
theorem d_OC_init_32 : decode c_OC_init 32 = .ok (.sipush 500, 3) := by decide +kernel
theorem d_OC_init_35 : decode c_OC_init 35 = .ok (.newarray .int, 2) := by decide +kernel
theorem d_OC_init_37 : decode c_OC_init 37 = .ok (.putfield 21, 3) := by decide +kernel
theorem d_OC_init_40 : decode c_OC_init 40 = .ok (.aload_n 0, 1) := by decide +kernel
theorem d_OC_init_41 : decode c_OC_init 41 = .ok (.sipush 512, 3) := by decide +kernel
theorem d_OC_init_44 : decode c_OC_init 44 = .ok (.newarray .int, 2) := by decide +kernel
theorem d_OC_init_46 : decode c_OC_init 46 = .ok (.putfield 24, 3) := by decide +kernel
theorem d_OC_init_49 : decode c_OC_init 49 = .ok (.aload_n 0, 1) := by decide +kernel
theorem d_OC_init_50 : decode c_OC_init 50 = .ok (.iconst 0, 1) := by decide +kernel
theorem d_OC_init_51 : decode c_OC_init 51 = .ok (.putfield 27, 3) := by decide +kernel
theorem d_OC_init_54 : decode c_OC_init 54 = .ok (.aload_n 0, 1) := by decide +kernel
theorem d_OC_init_55 : decode c_OC_init 55 = .ok (.iconst 0, 1) := by decide +kernel
theorem d_OC_init_56 : decode c_OC_init 56 = .ok (.putfield 31, 3) := by decide +kernel
theorem d_OC_init_59 : decode c_OC_init 59 = .ok (.aload_n 0, 1) := by decide +kernel
theorem d_OC_init_60 : decode c_OC_init 60 = .ok (.iconst 0, 1) := by decide +kernel
theorem d_OC_init_61 : decode c_OC_init 61 = .ok (.putfield 34, 3) := by decide +kernel
theorem d_OC_init_64 : decode c_OC_init 64 = .ok (.aload_n 0, 1) := by decide +kernel
theorem d_OC_init_65 : decode c_OC_init 65 = .ok (.aload_n 1, 1) := by decide +kernel
theorem d_OC_init_66 : decode c_OC_init 66 = .ok (.putfield 37, 3) := by decide +kernel
theorem d_OC_init_69 : decode c_OC_init 69 = .ok (.return_, 1) := by decide +kernel
theorem d_SM_init_0 : decode c_SM_init 0 = .ok (.aload_n 0, 1) := by decide +kernel
theorem d_SM_init_1 : decode c_SM_init 1 = .ok (.invokespecial 3, 3) := by decide +kernel
theorem d_SM_init_4 : decode c_SM_init 4 = .ok (.aload_n 0, 1) := by decide +kernel
theorem d_SM_init_5 : decode c_SM_init 5 = .ok (.sipush 480, 3) := by decide +kernel
theorem d_SM_init_8 : decode c_SM_init 8 = .ok (.newarray .int, 2) := by decide +kernel
theorem d_SM_init_10 : decode c_SM_init 10 = .ok (.putfield 9, 3) := by decide +kernel
theorem d_SM_init_13 : decode c_SM_init 13 = .ok (.aload_n 0, 1) := by decide +kernel
theorem d_SM_init_14 : decode c_SM_init 14 = .ok (.sipush 480, 3) := by decide +kernel
theorem d_SM_init_17 : decode c_SM_init 17 = .ok (.newarray .int, 2) := by decide +kernel
theorem d_SM_init_19 : decode c_SM_init 19 = .ok (.putfield 15, 3) := by decide +kernel
theorem d_SM_init_22 : decode c_SM_init 22 = .ok (.aload_n 0, 1) := by decide +kernel
theorem d_SM_init_23 : decode c_SM_init 23 = .ok (.sipush 480, 3) := by decide +kernel
theorem d_SM_init_26 : decode c_SM_init 26 = .ok (.newarray .int, 2) := by decide +kernel
theorem d_SM_init_28 : decode c_SM_init 28 = .ok (.putfield 18, 3) := by decide +kernel
theorem d_SM_init_31 : decode c_SM_init 31 = .ok (.aload_n 0, 1) := by decide +kernel
theorem d_SM_init_32 : decode c_SM_init 32 = .ok (.bipush 120, 2) := by decide +kernel
theorem d_SM_init_34 : decode c_SM_init 34 = .ok (.newarray .int, 2) := by decide +kernel
theorem d_SM_init_36 : decode c_SM_init 36 = .ok (.putfield 21, 3) := by decide +kernel
theorem d_SM_init_39 : decode c_SM_init 39 = .ok (.aload_n 0, 1) := by decide +kernel
theorem d_SM_init_40 : decode c_SM_init 40 = .ok (.bipush 120, 2) := by decide +kernel
theorem d_SM_init_42 : decode c_SM_init 42 = .ok (.newarray .int, 2) := by decide +kernel
theorem d_SM_init_44 : decode c_SM_init 44 = .ok (.putfield 24, 3) := by decide +kernel
theorem d_SM_init_47 : decode c_SM_init 47 = .ok (.aload_n 0, 1) := by decide +kernel
theorem d_SM_init_48 : decode c_SM_init 48 = .ok (.bipush 40, 2) := by decide +kernel
theorem d_SM_init_50 : decode c_SM_init 50 = .ok (.newarray .int, 2) := by decide +kernel
theorem d_SM_init_52 : decode c_SM_init 52 = .ok (.putfield 27, 3) := by decide +kernel
theorem d_SM_init_55 : decode c_SM_init 55 = .ok (.aload_n 0, 1) := by decide +kernel
theorem d_SM_init_56 : decode c_SM_init 56 = .ok (.iconst 0, 1) := by decide +kernel
theorem d_SM_init_57 : decode c_SM_init 57 = .ok (.putfield 30, 3) := by decide +kernel
theorem d_SM_init_60 : decode c_SM_init 60 = .ok (.return_, 1) := by decide +kernel
theorem d_FD_tiles_0 : decode c_FD_tiles 0 = .ok (.aload_n 0, 1) := by decide +kernel
theorem d_FD_tiles_1 : decode c_FD_tiles 1 = .ok (.getfield 22, 3) := by decide +kernel
theorem d_FD_tiles_4 : decode c_FD_tiles 4 = .ok (.iload_n 1, 1) := by decide +kernel
theorem d_FD_tiles_5 : decode c_FD_tiles 5 = .ok (.iaload, 1) := by decide +kernel
theorem d_FD_tiles_6 : decode c_FD_tiles 6 = .ok (.ireturn, 1) := by decide +kernel
theorem d_FD_wipe_0 : decode c_FD_wipe 0 = .ok (.iconst 0, 1) := by decide +kernel
theorem d_FD_wipe_1 : decode c_FD_wipe 1 = .ok (.istore_n 1, 1) := by decide +kernel
theorem d_FD_wipe_2 : decode c_FD_wipe 2 = .ok (.iload_n 1, 1) := by decide +kernel
theorem d_FD_wipe_3 : decode c_FD_wipe 3 = .ok (.sipush 1764, 3) := by decide +kernel
theorem d_FD_wipe_6 : decode c_FD_wipe 6 = .ok (.if_icmp .ge 21, 3) := by decide +kernel
theorem d_FD_wipe_9 : decode c_FD_wipe 9 = .ok (.aload_n 0, 1) := by decide +kernel
theorem d_FD_wipe_10 : decode c_FD_wipe 10 = .ok (.getfield 9, 3) := by decide +kernel
theorem d_FD_wipe_13 : decode c_FD_wipe 13 = .ok (.iload_n 1, 1) := by decide +kernel
theorem d_FD_wipe_14 : decode c_FD_wipe 14 = .ok (.dup2, 1) := by decide +kernel
theorem d_FD_wipe_15 : decode c_FD_wipe 15 = .ok (.iaload, 1) := by decide +kernel
theorem d_FD_wipe_16 : decode c_FD_wipe 16 = .ok (.sipush 2048, 3) := by decide +kernel
theorem d_FD_wipe_19 : decode c_FD_wipe 19 = .ok (.iand, 1) := by decide +kernel
theorem d_FD_wipe_20 : decode c_FD_wipe 20 = .ok (.iastore, 1) := by decide +kernel
theorem d_FD_wipe_21 : decode c_FD_wipe 21 = .ok (.iinc 1 1, 3) := by decide +kernel
theorem d_FD_wipe_24 : decode c_FD_wipe 24 = .ok (.goto (-22), 3) := by decide +kernel
theorem d_FD_wipe_27 : decode c_FD_wipe 27 = .ok (.aload_n 0, 1) := by decide +kernel
theorem d_FD_wipe_28 : decode c_FD_wipe 28 = .ok (.getfield 15, 3) := by decide +kernel
theorem d_FD_wipe_31 : decode c_FD_wipe 31 = .ok (.lconst 0, 1) := by decide +kernel
theorem d_FD_wipe_32 : decode c_FD_wipe 32 = .ok (.invokestatic 50, 3) := by decide +kernel
theorem d_FD_wipe_35 : decode c_FD_wipe 35 = .ok (.aload_n 0, 1) := by decide +kernel
theorem d_FD_wipe_36 : decode c_FD_wipe 36 = .ok (.getfield 19, 3) := by decide +kernel
theorem d_FD_wipe_39 : decode c_FD_wipe 39 = .ok (.iconst 0, 1) := by decide +kernel
theorem d_FD_wipe_40 : decode c_FD_wipe 40 = .ok (.invokestatic 56, 3) := by decide +kernel
theorem d_FD_wipe_43 : decode c_FD_wipe 43 = .ok (.aload_n 0, 1) := by decide +kernel
theorem d_FD_wipe_44 : decode c_FD_wipe 44 = .ok (.getfield 22, 3) := by decide +kernel
theorem d_FD_wipe_47 : decode c_FD_wipe 47 = .ok (.iconst 0, 1) := by decide +kernel
theorem d_FD_wipe_48 : decode c_FD_wipe 48 = .ok (.invokestatic 56, 3) := by decide +kernel
theorem d_FD_wipe_51 : decode c_FD_wipe 51 = .ok (.aload_n 0, 1) := by decide +kernel
theorem d_FD_wipe_52 : decode c_FD_wipe 52 = .ok (.iconst 0, 1) := by decide +kernel
theorem d_FD_wipe_53 : decode c_FD_wipe 53 = .ok (.putfield 25, 3) := by decide +kernel
theorem d_FD_wipe_56 : decode c_FD_wipe 56 = .ok (.aload_n 0, 1) := by decide +kernel
theorem d_FD_wipe_57 : decode c_FD_wipe 57 = .ok (.iconst 0, 1) := by decide +kernel
theorem d_FD_wipe_58 : decode c_FD_wipe 58 = .ok (.putfield 29, 3) := by decide +kernel
theorem d_FD_wipe_61 : decode c_FD_wipe 61 = .ok (.aload_n 0, 1) := by decide +kernel
theorem d_FD_wipe_62 : decode c_FD_wipe 62 = .ok (.iconst 0, 1) := by decide +kernel
theorem d_FD_wipe_63 : decode c_FD_wipe 63 = .ok (.putfield 32, 3) := by decide +kernel
theorem d_FD_wipe_66 : decode c_FD_wipe 66 = .ok (.return_, 1) := by decide +kernel
theorem d_FD_pairs_0 : decode c_FD_pairs 0 = .ok (.aload_n 0, 1) := by decide +kernel
theorem d_FD_pairs_1 : decode c_FD_pairs 1 = .ok (.getfield 25, 3) := by decide +kernel
theorem d_FD_pairs_4 : decode c_FD_pairs 4 = .ok (.ireturn, 1) := by decide +kernel
theorem d_FD_typeAt_0 : decode c_FD_typeAt 0 = .ok (.aload_n 0, 1) := by decide +kernel
theorem d_FD_typeAt_1 : decode c_FD_typeAt 1 = .ok (.getfield 9, 3) := by decide +kernel
theorem d_FD_typeAt_4 : decode c_FD_typeAt 4 = .ok (.iload_n 1, 1) := by decide +kernel
theorem d_FD_typeAt_5 : decode c_FD_typeAt 5 = .ok (.iaload, 1) := by decide +kernel
theorem d_FD_typeAt_6 : decode c_FD_typeAt 6 = .ok (.bipush 63, 2) := by decide +kernel
theorem d_FD_typeAt_8 : decode c_FD_typeAt 8 = .ok (.iand, 1) := by decide +kernel
theorem d_FD_typeAt_9 : decode c_FD_typeAt 9 = .ok (.ireturn, 1) := by decide +kernel
theorem d_FD_hasAttached_0 : decode c_FD_hasAttached 0 = .ok (.aload_n 0, 1) := by decide +kernel
theorem d_FD_hasAttached_1 : decode c_FD_hasAttached 1 = .ok (.getfield 32, 3) := by decide +kernel
theorem d_FD_hasAttached_4 : decode c_FD_hasAttached 4 = .ok (.ireturn, 1) := by decide +kernel
theorem d_FD_isSeed_0 : decode c_FD_isSeed 0 = .ok (.aload_n 0, 1) := by decide +kernel
theorem d_FD_isSeed_1 : decode c_FD_isSeed 1 = .ok (.getfield 9, 3) := by decide +kernel
theorem d_FD_isSeed_4 : decode c_FD_isSeed 4 = .ok (.iload_n 1, 1) := by decide +kernel
theorem d_FD_isSeed_5 : decode c_FD_isSeed 5 = .ok (.iaload, 1) := by decide +kernel
theorem d_FD_isSeed_6 : decode c_FD_isSeed 6 = .ok (.sipush 1024, 3) := by decide +kernel
theorem d_FD_isSeed_9 : decode c_FD_isSeed 9 = .ok (.iand, 1) := by decide +kernel
theorem d_FD_isSeed_10 : decode c_FD_isSeed 10 = .ok (.ifCond .eq 7, 3) := by decide +kernel
theorem d_FD_isSeed_13 : decode c_FD_isSeed 13 = .ok (.iconst 1, 1) := by decide +kernel
theorem d_FD_isSeed_14 : decode c_FD_isSeed 14 = .ok (.goto 4, 3) := by decide +kernel
theorem d_FD_isSeed_17 : decode c_FD_isSeed 17 = .ok (.iconst 0, 1) := by decide +kernel
theorem d_FD_isSeed_18 : decode c_FD_isSeed 18 = .ok (.ireturn, 1) := by decide +kernel
theorem d_FD_openAt_0 : decode c_FD_openAt 0 = .ok (.aload_n 0, 1) := by decide +kernel
theorem d_FD_openAt_1 : decode c_FD_openAt 1 = .ok (.getfield 15, 3) := by decide +kernel
theorem d_FD_openAt_4 : decode c_FD_openAt 4 = .ok (.iload_n 1, 1) := by decide +kernel
theorem d_FD_openAt_5 : decode c_FD_openAt 5 = .ok (.laload, 1) := by decide +kernel
theorem d_FD_openAt_6 : decode c_FD_openAt 6 = .ok (.lreturn, 1) := by decide +kernel
theorem d_FD_pairsInRow_0 : decode c_FD_pairsInRow 0 = .ok (.aload_n 0, 1) := by decide +kernel
theorem d_FD_pairsInRow_1 : decode c_FD_pairsInRow 1 = .ok (.getfield 19, 3) := by decide +kernel
theorem d_FD_pairsInRow_4 : decode c_FD_pairsInRow 4 = .ok (.iload_n 1, 1) := by decide +kernel
theorem d_FD_pairsInRow_5 : decode c_FD_pairsInRow 5 = .ok (.iconst 1, 1) := by decide +kernel
theorem d_FD_pairsInRow_6 : decode c_FD_pairsInRow 6 = .ok (.iadd, 1) := by decide +kernel
theorem d_FD_pairsInRow_7 : decode c_FD_pairsInRow 7 = .ok (.iaload, 1) := by decide +kernel
theorem d_FD_pairsInRow_8 : decode c_FD_pairsInRow 8 = .ok (.ireturn, 1) := by decide +kernel
theorem d_FD_inputsAt_0 : decode c_FD_inputsAt 0 = .ok (.aload_n 0, 1) := by decide +kernel
theorem d_FD_inputsAt_1 : decode c_FD_inputsAt 1 = .ok (.getfield 9, 3) := by decide +kernel
theorem d_FD_inputsAt_4 : decode c_FD_inputsAt 4 = .ok (.iload_n 1, 1) := by decide +kernel
theorem d_FD_inputsAt_5 : decode c_FD_inputsAt 5 = .ok (.iaload, 1) := by decide +kernel
theorem d_FD_inputsAt_6 : decode c_FD_inputsAt 6 = .ok (.bipush 6, 2) := by decide +kernel
theorem d_FD_inputsAt_8 : decode c_FD_inputsAt 8 = .ok (.ishr, 1) := by decide +kernel
theorem d_FD_inputsAt_9 : decode c_FD_inputsAt 9 = .ok (.bipush 15, 2) := by decide +kernel
theorem d_FD_inputsAt_11 : decode c_FD_inputsAt 11 = .ok (.iand, 1) := by decide +kernel
theorem d_FD_inputsAt_12 : decode c_FD_inputsAt 12 = .ok (.ireturn, 1) := by decide +kernel
theorem d_FD_seeds_0 : decode c_FD_seeds 0 = .ok (.aload_n 0, 1) := by decide +kernel
theorem d_FD_seeds_1 : decode c_FD_seeds 1 = .ok (.getfield 29, 3) := by decide +kernel
theorem d_FD_seeds_4 : decode c_FD_seeds 4 = .ok (.ireturn, 1) := by decide +kernel
/-- what a place holds: its type, its inputs, a seed's mark -/
def tyN (x : Int32) : Nat := x.toBitVec.toNat % 64
theorem ty_and (x : Int32) : x &&& nI 63 = nI (tyN x) := pk_and x 6 (by decide +kernel)
theorem tyN_lt (x : Int32) : tyN x < 64 := Nat.mod_lt _ (by decide)
def inN (x : Int32) : Nat := (x >>> (nI 6 &&& 31)).toBitVec.toNat % 16
theorem in_and (x : Int32) : (x >>> (nI 6 &&& 31)) &&& nI 15 = nI (inN x) := pk_and _ 4 (by decide +kernel)
theorem inN_lt (x : Int32) : inN x < 16 := Nat.mod_lt _ (by decide)
def sdN (x : Int32) : Nat := if x &&& nI 1024 = 0 then 0 else 1
theorem sdN_le (x : Int32) : sdN x ≤ 1 := by
  unfold sdN
  split <;> decide
/-- the wall, side by side -/
def wlC : Nat → Nat → Int32
  | 0 => fun _ => 0
  | i + 1 => upd (upd (upd (upd (wlC i) i (nI 2048)) (1763 - i) (nI 2048)) (i * 42) (nI 2048)) (i * 42 + 42 - 1) (nI 2048)
/-- the first i places are wiped -/
def wiC (ce : Nat → Int32) (i : Nat) : Nat → Int32 := fun k => if k < i then ce k &&& nI 2048 else ce k
theorem wiC_zero (ce : Nat → Int32) : wiC ce 0 = ce := by
  funext k
  simp [wiC]
theorem wiC_succ (ce : Nat → Int32) (i : Nat) : upd (wiC ce i) i (wiC ce i i &&& nI 2048) = wiC ce (i + 1) := by
  funext k
  unfold upd wiC
  by_cases h : k = i
  · subst h; simp
  · by_cases h2 : k < i
    · simp [h, h2, show k < i + 1 by omega]
    · simp [h, h2, show ¬ k < i + 1 by omega]
set_option maxHeartbeats 4000000 in
set_option maxRecDepth 100000 in
/-- tiles -/
theorem k_FD_tiles (l : Launch) (D : va_G) (cI cJ : ClassId) (f0 : Nat) (f1 : Nat) (f2 : Nat) (f3 : Nat) (f4 : Nat) (o1 : Nat) (np : Int32) (ns : Int32) (aw : Int32) (tl : Nat → Int32) (k : Nat) (hk : k < 61) : Met l y_FD_tiles ws_FD_tiles ({ frames := 0, cells := 0, slots := 0, locals := 0 } : Room) (va_Pc [.ref f0, .int (nI k)] (Pp D cI cJ [(f0, .inr (2, [.ref o1, .ref f1, .ref f2, .ref f3, .ref f4, .int np, .int ns, .int aw])), (f4, .inl (cI, 61, .inl tl))])) (vp_Si (fun r : Int32 => r = tl k)) 0 0 (fun _ => False) := by
  refine Met.ofW (cc := c_FD_tiles) (maxL := 2) (ret := (some .int)) (by decide) rfl ?_
  intro p e s m args below meth c s₁ B hml hv
  obtain ⟨rfl, hE, hP, hX⟩ := hv
  have hx := B.exec
  have hb := B.bytes
  have hr := B.returns
  have hw : ∀ w ∈ gw, w.before _ s = true := fun w h => atoms_spec (ws := ws_FD_tiles) B.pre w (List.mem_cons_of_mem _ h)
  have hown : s.vm.findClass R_FD = some m.cls := findClass_of_methodNamed B.named
  have hlocks := B.notSynchronized
  have hS : va_S (fun _ => False) s.heap s.heap [] := va_S.rf
  have hl := lv_entry ([.ref f0, .int (nI k)]) (n := 2) (Nat.le_of_ble_eq_true rfl)
  rw [lg_entry_eq]
  generalize (lg_sl ([.ref f0, .int (nI k)]) ++ List.replicate (2 - (lg_sl ([.ref f0, .int (nI k)])).length) Slot.unset).toArray = ls at hl ⊢
  have hl : lv_has ls 2 [(0, .ref f0), (1, .int (nI k))] := hl
  refine lv_aload_n hx hb d_FD_tiles_0 rfl (lv_at hl 0 rfl) ?_
  refine va_get (D := D) (ci := 2) (v := .ref f4) (C := R_FD) (T := T_FD) (N := 8) hx hb hw in_FD hown hE.1 hP 0 rfl rfl 4 (by decide) (hw _ kw_99) (fun _ h9 => h9) rfl d_FD_tiles_1 ?_
  refine lv_iload_n hx hb d_FD_tiles_4 rfl (lv_at hl 1 rfl) ?_
  refine jn_iald (k := k) hx hb hE.1 hP 1 0 rfl rfl (by omega) (by omega) d_FD_tiles_5 ?_
  exact W.iret (v := tl k) hx hb hr (fun t9 ht hW => ⟨_, rfl, rfl, ht⟩) (fun q h => by cases h) d_FD_tiles_6
set_option maxHeartbeats 4000000 in
set_option maxRecDepth 100000 in
/-- seeds -/
theorem k_FD_seeds (l : Launch) (D : va_G) (cI cJ : ClassId) (f0 : Nat) (f1 : Nat) (f2 : Nat) (f3 : Nat) (f4 : Nat) (o1 : Nat) (np : Int32) (ns : Int32) (aw : Int32)  : Met l y_FD_seeds ws_FD_seeds ({ frames := 0, cells := 0, slots := 0, locals := 0 } : Room) (va_Pc [.ref f0] (Pp D cI cJ [(f0, .inr (2, [.ref o1, .ref f1, .ref f2, .ref f3, .ref f4, .int np, .int ns, .int aw]))])) (vp_Si (fun r : Int32 => r = ns)) 0 0 (fun _ => False) := by
  refine Met.ofW (cc := c_FD_seeds) (maxL := 1) (ret := (some .int)) (by decide) rfl ?_
  intro p e s m args below meth c s₁ B hml hv
  obtain ⟨rfl, hE, hP, hX⟩ := hv
  have hx := B.exec
  have hb := B.bytes
  have hr := B.returns
  have hw : ∀ w ∈ gw, w.before _ s = true := fun w h => atoms_spec (ws := ws_FD_seeds) B.pre w (List.mem_cons_of_mem _ h)
  have hown : s.vm.findClass R_FD = some m.cls := findClass_of_methodNamed B.named
  have hlocks := B.notSynchronized
  have hS : va_S (fun _ => False) s.heap s.heap [] := va_S.rf
  have hl := lv_entry ([.ref f0]) (n := 1) (Nat.le_of_ble_eq_true rfl)
  rw [lg_entry_eq]
  generalize (lg_sl ([.ref f0]) ++ List.replicate (1 - (lg_sl ([.ref f0])).length) Slot.unset).toArray = ls at hl ⊢
  have hl : lv_has ls 1 [(0, .ref f0)] := hl
  refine lv_aload_n hx hb d_FD_seeds_0 rfl (lv_at hl 0 rfl) ?_
  refine va_get (D := D) (ci := 2) (v := .int ns) (C := R_FD) (T := T_FD) (N := 8) hx hb hw in_FD hown hE.1 hP 0 rfl rfl 6 (by decide) (hw _ kw_101) (fun _ h9 => h9) rfl d_FD_seeds_1 ?_
  exact W.iret (v := ns) hx hb hr (fun t9 ht hW => ⟨_, rfl, rfl, ht⟩) (fun q h => by cases h) d_FD_seeds_4
set_option maxHeartbeats 4000000 in
set_option maxRecDepth 100000 in
/-- pairs -/
theorem k_FD_pairs (l : Launch) (D : va_G) (cI cJ : ClassId) (f0 : Nat) (f1 : Nat) (f2 : Nat) (f3 : Nat) (f4 : Nat) (o1 : Nat) (np : Int32) (ns : Int32) (aw : Int32)  : Met l y_FD_pairs ws_FD_pairs ({ frames := 0, cells := 0, slots := 0, locals := 0 } : Room) (va_Pc [.ref f0] (Pp D cI cJ [(f0, .inr (2, [.ref o1, .ref f1, .ref f2, .ref f3, .ref f4, .int np, .int ns, .int aw]))])) (vp_Si (fun r : Int32 => r = np)) 0 0 (fun _ => False) := by
  refine Met.ofW (cc := c_FD_pairs) (maxL := 1) (ret := (some .int)) (by decide) rfl ?_
  intro p e s m args below meth c s₁ B hml hv
  obtain ⟨rfl, hE, hP, hX⟩ := hv
  have hx := B.exec
  have hb := B.bytes
  have hr := B.returns
  have hw : ∀ w ∈ gw, w.before _ s = true := fun w h => atoms_spec (ws := ws_FD_pairs) B.pre w (List.mem_cons_of_mem _ h)
  have hown : s.vm.findClass R_FD = some m.cls := findClass_of_methodNamed B.named
  have hlocks := B.notSynchronized
  have hS : va_S (fun _ => False) s.heap s.heap [] := va_S.rf
  have hl := lv_entry ([.ref f0]) (n := 1) (Nat.le_of_ble_eq_true rfl)
  rw [lg_entry_eq]
  generalize (lg_sl ([.ref f0]) ++ List.replicate (1 - (lg_sl ([.ref f0])).length) Slot.unset).toArray = ls at hl ⊢
  have hl : lv_has ls 1 [(0, .ref f0)] := hl
  refine lv_aload_n hx hb d_FD_pairs_0 rfl (lv_at hl 0 rfl) ?_
  refine va_get (D := D) (ci := 2) (v := .int np) (C := R_FD) (T := T_FD) (N := 8) hx hb hw in_FD hown hE.1 hP 0 rfl rfl 5 (by decide) (hw _ kw_100) (fun _ h9 => h9) rfl d_FD_pairs_1 ?_
  exact W.iret (v := np) hx hb hr (fun t9 ht hW => ⟨_, rfl, rfl, ht⟩) (fun q h => by cases h) d_FD_pairs_4
set_option maxHeartbeats 4000000 in
set_option maxRecDepth 100000 in
/-- pairsInRow -/
theorem k_FD_pairsInRow (l : Launch) (D : va_G) (cI cJ : ClassId) (f0 : Nat) (f1 : Nat) (f2 : Nat) (f3 : Nat) (f4 : Nat) (o1 : Nat) (np : Int32) (ns : Int32) (aw : Int32) (rp : Nat → Int32) (k : Nat) (hk : k < 41) : Met l y_FD_pairsInRow ws_FD_pairsInRow ({ frames := 0, cells := 0, slots := 0, locals := 0 } : Room) (va_Pc [.ref f0, .int (nI k)] (Pp D cI cJ [(f0, .inr (2, [.ref o1, .ref f1, .ref f2, .ref f3, .ref f4, .int np, .int ns, .int aw])), (f3, .inl (cI, 42, .inl rp))])) (vp_Si (fun r : Int32 => r = rp (k + 1))) 0 0 (fun _ => False) := by
  refine Met.ofW (cc := c_FD_pairsInRow) (maxL := 2) (ret := (some .int)) (by decide) rfl ?_
  intro p e s m args below meth c s₁ B hml hv
  obtain ⟨rfl, hE, hP, hX⟩ := hv
  have hx := B.exec
  have hb := B.bytes
  have hr := B.returns
  have hw : ∀ w ∈ gw, w.before _ s = true := fun w h => atoms_spec (ws := ws_FD_pairsInRow) B.pre w (List.mem_cons_of_mem _ h)
  have hown : s.vm.findClass R_FD = some m.cls := findClass_of_methodNamed B.named
  have hlocks := B.notSynchronized
  have hS : va_S (fun _ => False) s.heap s.heap [] := va_S.rf
  have hl := lv_entry ([.ref f0, .int (nI k)]) (n := 2) (Nat.le_of_ble_eq_true rfl)
  rw [lg_entry_eq]
  generalize (lg_sl ([.ref f0, .int (nI k)]) ++ List.replicate (2 - (lg_sl ([.ref f0, .int (nI k)])).length) Slot.unset).toArray = ls at hl ⊢
  have hl : lv_has ls 2 [(0, .ref f0), (1, .int (nI k))] := hl
  refine lv_aload_n hx hb d_FD_pairsInRow_0 rfl (lv_at hl 0 rfl) ?_
  refine va_get (D := D) (ci := 2) (v := .ref f3) (C := R_FD) (T := T_FD) (N := 8) hx hb hw in_FD hown hE.1 hP 0 rfl rfl 3 (by decide) (hw _ kw_98) (fun _ h9 => h9) rfl d_FD_pairsInRow_1 ?_
  refine lv_iload_n hx hb d_FD_pairsInRow_4 rfl (lv_at hl 1 rfl) ?_
  refine lv_iconst (v := nI 1) hx hb d_FD_pairsInRow_5 (by decide +kernel) ?_
  refine jn_iadd (a := k) (b := 1) hx hb d_FD_pairsInRow_6 ?_
  refine jn_iald (k := (k + 1)) hx hb hE.1 hP 1 0 rfl rfl (by omega) (by omega) d_FD_pairsInRow_7 ?_
  exact W.iret (v := rp (k + 1)) hx hb hr (fun t9 ht hW => ⟨_, rfl, rfl, ht⟩) (fun q h => by cases h) d_FD_pairsInRow_8
set_option maxHeartbeats 4000000 in
set_option maxRecDepth 100000 in
/-- openAt -/
theorem k_FD_openAt (l : Launch) (D : va_G) (cI cJ : ClassId) (f0 : Nat) (f1 : Nat) (f2 : Nat) (f3 : Nat) (f4 : Nat) (o1 : Nat) (np : Int32) (ns : Int32) (aw : Int32) (oq : Nat → Int64) (k : Nat) (hk : k < 1764) : Met l y_FD_openAt ws_FD_openAt ({ frames := 0, cells := 0, slots := 0, locals := 0 } : Room) (va_Pc [.ref f0, .int (nI k)] (Pp D cI cJ [(f0, .inr (2, [.ref o1, .ref f1, .ref f2, .ref f3, .ref f4, .int np, .int ns, .int aw])), (f2, .inl (cJ, 1764, .inr (.inl oq)))])) (vp_Sl (fun r : Int64 => r = oq k)) 0 0 (fun _ => False) := by
  refine Met.ofW (cc := c_FD_openAt) (maxL := 2) (ret := (some .long)) (by decide) rfl ?_
  intro p e s m args below meth c s₁ B hml hv
  obtain ⟨rfl, hE, hP, hX⟩ := hv
  have hx := B.exec
  have hb := B.bytes
  have hr := B.returns
  have hw : ∀ w ∈ gw, w.before _ s = true := fun w h => atoms_spec (ws := ws_FD_openAt) B.pre w (List.mem_cons_of_mem _ h)
  have hown : s.vm.findClass R_FD = some m.cls := findClass_of_methodNamed B.named
  have hlocks := B.notSynchronized
  have hS : va_S (fun _ => False) s.heap s.heap [] := va_S.rf
  have hl := lv_entry ([.ref f0, .int (nI k)]) (n := 2) (Nat.le_of_ble_eq_true rfl)
  rw [lg_entry_eq]
  generalize (lg_sl ([.ref f0, .int (nI k)]) ++ List.replicate (2 - (lg_sl ([.ref f0, .int (nI k)])).length) Slot.unset).toArray = ls at hl ⊢
  have hl : lv_has ls 2 [(0, .ref f0), (1, .int (nI k))] := hl
  refine lv_aload_n hx hb d_FD_openAt_0 rfl (lv_at hl 0 rfl) ?_
  refine va_get (D := D) (ci := 2) (v := .ref f2) (C := R_FD) (T := T_FD) (N := 8) hx hb hw in_FD hown hE.1 hP 0 rfl rfl 2 (by decide) (hw _ kw_97) (fun _ h9 => h9) rfl d_FD_openAt_1 ?_
  refine lv_iload_n hx hb d_FD_openAt_4 rfl (lv_at hl 1 rfl) ?_
  refine jn_lald (k := k) hx hb hE.1 hP 1 1 rfl rfl (by omega) (by omega) d_FD_openAt_5 ?_
  exact W.lret (v := oq k) hx hb hr (fun t9 ht hW => ⟨_, rfl, rfl, ht⟩) (fun q h => by cases h) d_FD_openAt_6
set_option maxHeartbeats 4000000 in
set_option maxRecDepth 100000 in
/-- hasAttached -/
theorem k_FD_hasAttached (l : Launch) (D : va_G) (cI cJ : ClassId) (f0 : Nat) (f1 : Nat) (f2 : Nat) (f3 : Nat) (f4 : Nat) (o1 : Nat) (np : Int32) (ns : Int32) (aw : Int32) (haw : narrow .boolean (.int aw) = .int aw) : Met l y_FD_hasAttached ws_FD_hasAttached ({ frames := 0, cells := 0, slots := 0, locals := 0 } : Room) (va_Pc [.ref f0] (Pp D cI cJ [(f0, .inr (2, [.ref o1, .ref f1, .ref f2, .ref f3, .ref f4, .int np, .int ns, .int aw]))])) (vp_Si (fun r : Int32 => r = aw)) 0 0 (fun _ => False) := by
  refine Met.ofW (cc := c_FD_hasAttached) (maxL := 1) (ret := (some .boolean)) (by decide) rfl ?_
  intro p e s m args below meth c s₁ B hml hv
  obtain ⟨rfl, hE, hP, hX⟩ := hv
  have hx := B.exec
  have hb := B.bytes
  have hr := B.returns
  have hw : ∀ w ∈ gw, w.before _ s = true := fun w h => atoms_spec (ws := ws_FD_hasAttached) B.pre w (List.mem_cons_of_mem _ h)
  have hown : s.vm.findClass R_FD = some m.cls := findClass_of_methodNamed B.named
  have hlocks := B.notSynchronized
  have hS : va_S (fun _ => False) s.heap s.heap [] := va_S.rf
  have hl := lv_entry ([.ref f0]) (n := 1) (Nat.le_of_ble_eq_true rfl)
  rw [lg_entry_eq]
  generalize (lg_sl ([.ref f0]) ++ List.replicate (1 - (lg_sl ([.ref f0])).length) Slot.unset).toArray = ls at hl ⊢
  have hl : lv_has ls 1 [(0, .ref f0)] := hl
  refine lv_aload_n hx hb d_FD_hasAttached_0 rfl (lv_at hl 0 rfl) ?_
  refine va_get (D := D) (ci := 2) (v := .int aw) (C := R_FD) (T := T_FD) (N := 8) hx hb hw in_FD hown hE.1 hP 0 rfl rfl 7 (by decide) (hw _ kw_102) (fun _ h9 => h9) rfl d_FD_hasAttached_1 ?_
  exact W.zret (v := aw) hx hb hr haw (fun t9 ht hW => ⟨_, rfl, rfl, ht⟩) (fun q h => by cases h) d_FD_hasAttached_4
set_option maxHeartbeats 4000000 in
set_option maxRecDepth 100000 in
/-- typeAt -/
theorem k_FD_typeAt (l : Launch) (D : va_G) (cI cJ : ClassId) (f0 : Nat) (f1 : Nat) (f2 : Nat) (f3 : Nat) (f4 : Nat) (o1 : Nat) (np : Int32) (ns : Int32) (aw : Int32) (ce : Nat → Int32) (k : Nat) (hk : k < 1764) : Met l y_FD_typeAt ws_FD_typeAt ({ frames := 0, cells := 0, slots := 0, locals := 0 } : Room) (va_Pc [.ref f0, .int (nI k)] (Pp D cI cJ [(f0, .inr (2, [.ref o1, .ref f1, .ref f2, .ref f3, .ref f4, .int np, .int ns, .int aw])), (f1, .inl (cI, 1764, .inl ce))])) (vp_Si (fun r : Int32 => r = nI (tyN (ce k)))) 0 0 (fun _ => False) := by
  refine Met.ofW (cc := c_FD_typeAt) (maxL := 2) (ret := (some .int)) (by decide) rfl ?_
  intro p e s m args below meth c s₁ B hml hv
  obtain ⟨rfl, hE, hP, hX⟩ := hv
  have hx := B.exec
  have hb := B.bytes
  have hr := B.returns
  have hw : ∀ w ∈ gw, w.before _ s = true := fun w h => atoms_spec (ws := ws_FD_typeAt) B.pre w (List.mem_cons_of_mem _ h)
  have hown : s.vm.findClass R_FD = some m.cls := findClass_of_methodNamed B.named
  have hlocks := B.notSynchronized
  have hS : va_S (fun _ => False) s.heap s.heap [] := va_S.rf
  have hl := lv_entry ([.ref f0, .int (nI k)]) (n := 2) (Nat.le_of_ble_eq_true rfl)
  rw [lg_entry_eq]
  generalize (lg_sl ([.ref f0, .int (nI k)]) ++ List.replicate (2 - (lg_sl ([.ref f0, .int (nI k)])).length) Slot.unset).toArray = ls at hl ⊢
  have hl : lv_has ls 2 [(0, .ref f0), (1, .int (nI k))] := hl
  refine lv_aload_n hx hb d_FD_typeAt_0 rfl (lv_at hl 0 rfl) ?_
  refine va_get (D := D) (ci := 2) (v := .ref f1) (C := R_FD) (T := T_FD) (N := 8) hx hb hw in_FD hown hE.1 hP 0 rfl rfl 1 (by decide) (hw _ kw_96) (fun _ h9 => h9) rfl d_FD_typeAt_1 ?_
  refine lv_iload_n hx hb d_FD_typeAt_4 rfl (lv_at hl 1 rfl) ?_
  refine jn_iald (k := k) hx hb hE.1 hP 1 0 rfl rfl (by omega) (by omega) d_FD_typeAt_5 ?_
  refine lv_bipush (v := nI 63) hx hb d_FD_typeAt_6 (by decide +kernel) ?_
  refine lv_iand hx hb d_FD_typeAt_8 ?_
  exact W.iret (v := (ce k) &&& (nI 63)) hx hb hr (fun t9 ht hW => ⟨_, rfl, ty_and _, ht⟩) (fun q h => by cases h) d_FD_typeAt_9
set_option maxHeartbeats 4000000 in
set_option maxRecDepth 100000 in
/-- inputsAt -/
theorem k_FD_inputsAt (l : Launch) (D : va_G) (cI cJ : ClassId) (f0 : Nat) (f1 : Nat) (f2 : Nat) (f3 : Nat) (f4 : Nat) (o1 : Nat) (np : Int32) (ns : Int32) (aw : Int32) (ce : Nat → Int32) (k : Nat) (hk : k < 1764) : Met l y_FD_inputsAt ws_FD_inputsAt ({ frames := 0, cells := 0, slots := 0, locals := 0 } : Room) (va_Pc [.ref f0, .int (nI k)] (Pp D cI cJ [(f0, .inr (2, [.ref o1, .ref f1, .ref f2, .ref f3, .ref f4, .int np, .int ns, .int aw])), (f1, .inl (cI, 1764, .inl ce))])) (vp_Si (fun r : Int32 => r = nI (inN (ce k)))) 0 0 (fun _ => False) := by
  refine Met.ofW (cc := c_FD_inputsAt) (maxL := 2) (ret := (some .int)) (by decide) rfl ?_
  intro p e s m args below meth c s₁ B hml hv
  obtain ⟨rfl, hE, hP, hX⟩ := hv
  have hx := B.exec
  have hb := B.bytes
  have hr := B.returns
  have hw : ∀ w ∈ gw, w.before _ s = true := fun w h => atoms_spec (ws := ws_FD_inputsAt) B.pre w (List.mem_cons_of_mem _ h)
  have hown : s.vm.findClass R_FD = some m.cls := findClass_of_methodNamed B.named
  have hlocks := B.notSynchronized
  have hS : va_S (fun _ => False) s.heap s.heap [] := va_S.rf
  have hl := lv_entry ([.ref f0, .int (nI k)]) (n := 2) (Nat.le_of_ble_eq_true rfl)
  rw [lg_entry_eq]
  generalize (lg_sl ([.ref f0, .int (nI k)]) ++ List.replicate (2 - (lg_sl ([.ref f0, .int (nI k)])).length) Slot.unset).toArray = ls at hl ⊢
  have hl : lv_has ls 2 [(0, .ref f0), (1, .int (nI k))] := hl
  refine lv_aload_n hx hb d_FD_inputsAt_0 rfl (lv_at hl 0 rfl) ?_
  refine va_get (D := D) (ci := 2) (v := .ref f1) (C := R_FD) (T := T_FD) (N := 8) hx hb hw in_FD hown hE.1 hP 0 rfl rfl 1 (by decide) (hw _ kw_96) (fun _ h9 => h9) rfl d_FD_inputsAt_1 ?_
  refine lv_iload_n hx hb d_FD_inputsAt_4 rfl (lv_at hl 1 rfl) ?_
  refine jn_iald (k := k) hx hb hE.1 hP 1 0 rfl rfl (by omega) (by omega) d_FD_inputsAt_5 ?_
  refine lv_bipush (v := nI 6) hx hb d_FD_inputsAt_6 (by decide +kernel) ?_
  refine lv_ishr hx hb d_FD_inputsAt_8 ?_
  refine lv_bipush (v := nI 15) hx hb d_FD_inputsAt_9 (by decide +kernel) ?_
  refine lv_iand hx hb d_FD_inputsAt_11 ?_
  exact W.iret (v := ((ce k) >>> ((nI 6) &&& 31)) &&& (nI 15)) hx hb hr (fun t9 ht hW => ⟨_, rfl, in_and _, ht⟩) (fun q h => by cases h) d_FD_inputsAt_12
set_option maxHeartbeats 4000000 in
set_option maxRecDepth 100000 in
/-- isSeed -/
theorem k_FD_isSeed (l : Launch) (D : va_G) (cI cJ : ClassId) (f0 : Nat) (f1 : Nat) (f2 : Nat) (f3 : Nat) (f4 : Nat) (o1 : Nat) (np : Int32) (ns : Int32) (aw : Int32) (ce : Nat → Int32) (k : Nat) (hk : k < 1764) : Met l y_FD_isSeed ws_FD_isSeed ({ frames := 0, cells := 0, slots := 0, locals := 0 } : Room) (va_Pc [.ref f0, .int (nI k)] (Pp D cI cJ [(f0, .inr (2, [.ref o1, .ref f1, .ref f2, .ref f3, .ref f4, .int np, .int ns, .int aw])), (f1, .inl (cI, 1764, .inl ce))])) (vp_Si (fun r : Int32 => r = nI (sdN (ce k)))) 0 0 (fun _ => False) := by
  refine Met.ofW (cc := c_FD_isSeed) (maxL := 2) (ret := (some .boolean)) (by decide) rfl ?_
  intro p e s m args below meth c s₁ B hml hv
  obtain ⟨rfl, hE, hP, hX⟩ := hv
  have hx := B.exec
  have hb := B.bytes
  have hr := B.returns
  have hw : ∀ w ∈ gw, w.before _ s = true := fun w h => atoms_spec (ws := ws_FD_isSeed) B.pre w (List.mem_cons_of_mem _ h)
  have hown : s.vm.findClass R_FD = some m.cls := findClass_of_methodNamed B.named
  have hlocks := B.notSynchronized
  have hS : va_S (fun _ => False) s.heap s.heap [] := va_S.rf
  have hl := lv_entry ([.ref f0, .int (nI k)]) (n := 2) (Nat.le_of_ble_eq_true rfl)
  rw [lg_entry_eq]
  generalize (lg_sl ([.ref f0, .int (nI k)]) ++ List.replicate (2 - (lg_sl ([.ref f0, .int (nI k)])).length) Slot.unset).toArray = ls at hl ⊢
  have hl : lv_has ls 2 [(0, .ref f0), (1, .int (nI k))] := hl
  refine lv_aload_n hx hb d_FD_isSeed_0 rfl (lv_at hl 0 rfl) ?_
  refine va_get (D := D) (ci := 2) (v := .ref f1) (C := R_FD) (T := T_FD) (N := 8) hx hb hw in_FD hown hE.1 hP 0 rfl rfl 1 (by decide) (hw _ kw_96) (fun _ h9 => h9) rfl d_FD_isSeed_1 ?_
  refine lv_iload_n hx hb d_FD_isSeed_4 rfl (lv_at hl 1 rfl) ?_
  refine jn_iald (k := k) hx hb hE.1 hP 1 0 rfl rfl (by omega) (by omega) d_FD_isSeed_5 ?_
  refine lv_sipush (v := nI 1024) hx hb d_FD_isSeed_6 (by decide +kernel) ?_
  refine lv_iand hx hb d_FD_isSeed_9 ?_
  refine lv_if_eq (tgt := 17) hx hb d_FD_isSeed_10 (by decide) (fun c_10 => ?_) (fun c_10 => ?_)
  · skip
    refine lv_iconst (v := nI 0) hx hb d_FD_isSeed_17 (by decide +kernel) ?_
    exact W.zret (v := nI 0) hx hb hr (by decide +kernel) (fun t9 ht hW => ⟨_, rfl, (by unfold sdN; rw [if_pos c_10]), ht⟩) (fun q h => by cases h) d_FD_isSeed_18
  · skip
    refine lv_iconst (v := nI 1) hx hb d_FD_isSeed_13 (by decide +kernel) ?_
    refine lv_goto (tgt := 18) hx hb d_FD_isSeed_14 (by decide) ?_
    exact W.zret (v := nI 1) hx hb hr (by decide +kernel) (fun t9 ht hW => ⟨_, rfl, (by unfold sdN; rw [if_neg c_10]), ht⟩) (fun q h => by cases h) d_FD_isSeed_18
set_option maxHeartbeats 4000000 in
set_option maxRecDepth 100000 in
theorem lp_k_FD_wipe_2 {p : Program} {l : Launch} {e : Env} {s : State} {m : MethodId} {args : Array Value} {below : List Frame} {meth : Method} {c : Code} {D : va_G} {cI cJ : ClassId} {Q : State → Prop} {A : Nat → Prop} (f0 : Nat) (f1 : Nat) (f2 : Nat) (f3 : Nat) (f4 : Nat) (o1 : Nat) (np : Int32) (ns : Int32) (aw : Int32) (ce : Nat → Int32) (oq : Nat → Int64) (rp : Nat → Int32) (tl : Nat → Int32)   (hx : p.tables.exec = Jvm.exec) (hb : c.code = c_FD_wipe) (hml : c.maxLocals = 2) (hown : s.vm.findClass R_FD = some m.cls) (hw : ∀ w ∈ gw, w.before args s = true) (hE : En D cI cJ s) (hX : Sx A s s.heap) (hA : ∀ q : Nat, s.heap.size ≤ q → A q)
    (kx0 : ∀ (H : Heap) (locs : List Loc) (ls : Array Slot), va_P D vwCl [(f0, .inr (2, [.ref o1, .ref f1, .ref f2, .ref f3, .ref f4, .int np, .int ns, .int aw])), (f1, .inl (cI, 1764, .inl (wiC ce 1764))), (f2, .inl (cJ, 1764, .inr (.inl oq))), (f3, .inl (cI, 42, .inl rp)), (f4, .inl (cI, 61, .inl tl))] H → va_D A [(f0, .inr (2, [.ref o1, .ref f1, .ref f2, .ref f3, .ref f4, .int np, .int ns, .int aw])), (f1, .inl (cI, 1764, .inl (wiC ce 1764))), (f2, .inl (cJ, 1764, .inr (.inl oq))), (f3, .inl (cI, 42, .inl rp)), (f4, .inl (cI, 61, .inl tl))] → va_S A s.heap H locs → lv_has ls 2 [(0, .ref f0)] → W p l e ({ frames := 1, cells := 0, slots := 0, locals := 24 } : Room) s m args below meth c H locs 0 0 Q (F0 m 27 ls [])) :
    ∀ (fu : Nat) (i : Nat), 1764 - i < fu → (i ≤ 1764) → ∀ (H : Heap) (locs : List Loc) (ls : Array Slot), va_P D vwCl [(f0, .inr (2, [.ref o1, .ref f1, .ref f2, .ref f3, .ref f4, .int np, .int ns, .int aw])), (f1, .inl (cI, 1764, .inl (wiC ce i))), (f2, .inl (cJ, 1764, .inr (.inl oq))), (f3, .inl (cI, 42, .inl rp)), (f4, .inl (cI, 61, .inl tl))] H → va_D A [(f0, .inr (2, [.ref o1, .ref f1, .ref f2, .ref f3, .ref f4, .int np, .int ns, .int aw])), (f1, .inl (cI, 1764, .inl (wiC ce i))), (f2, .inl (cJ, 1764, .inr (.inl oq))), (f3, .inl (cI, 42, .inl rp)), (f4, .inl (cI, 61, .inl tl))] → va_S A s.heap H locs → lv_has ls 2 [(0, .ref f0), (1, .int (nI i))] → W p l e ({ frames := 1, cells := 0, slots := 0, locals := 24 } : Room) s m args below meth c H locs 0 0 Q (F0 m 2 ls []) := by
  intro fu
  induction fu with
  | zero =>
    intro i h0
    exact absurd h0 (Nat.not_lt_zero _)
  | succ fu ih =>
    intro i hmu hi H locs ls hP hD hS hl
    refine lv_iload_n hx hb d_FD_wipe_2 rfl (lv_at hl 1 rfl) ?_
    refine lv_sipush (v := nI 1764) hx hb d_FD_wipe_3 (by decide +kernel) ?_
    refine jn_icmp_ge (tgt := 27) (a := i) (b := 1764) hx hb d_FD_wipe_6 (by decide) (by omega) (by omega) (fun c_6 => ?_) (fun c_6 => ?_)
    · skip
      obtain rfl : i = 1764 := by omega
      exact kx0   _ _ _ (hP.sub [0, 1, 2, 3, 4] rfl) (hD.sub [0, 1, 2, 3, 4] (by decide) rfl) hS (lv_sub hl [0] rfl)
    · skip
      refine lv_aload_n hx hb d_FD_wipe_9 rfl (lv_at hl 0 rfl) ?_
      refine va_get (D := D) (ci := 2) (v := .ref f1) (C := R_FD) (T := T_FD) (N := 8) hx hb hw in_FD hown hE.1 hP 0 rfl rfl 1 (by decide) (hw _ kw_96) (fun _ h9 => h9) rfl d_FD_wipe_10 ?_
      refine lv_iload_n hx hb d_FD_wipe_13 rfl (lv_at hl 1 rfl) ?_
      refine lv_dup2_11 hx hb d_FD_wipe_14 rfl rfl ?_
      refine jn_iald (k := i) hx hb hE.1 hP 1 0 rfl rfl (by omega) (by omega) d_FD_wipe_15 ?_
      refine lv_sipush (v := nI 2048) hx hb d_FD_wipe_16 (by decide +kernel) ?_
      refine lv_iand hx hb d_FD_wipe_19 ?_
      refine jn_iast (k := i) hx hb hE.1 hP hD hS 1 0 rfl rfl (by omega) (by omega) d_FD_wipe_20 (fun H locs hP hD hS => ?_)
      have hP : va_P D vwCl [(f0, .inr (2, [.ref o1, .ref f1, .ref f2, .ref f3, .ref f4, .int np, .int ns, .int aw])), (f1, .inl (cI, 1764, .inl (upd (wiC ce i) i (((wiC ce i) i) &&& (nI 2048))))), (f2, .inl (cJ, 1764, .inr (.inl oq))), (f3, .inl (cI, 42, .inl rp)), (f4, .inl (cI, 61, .inl tl))] H := hP
      have hD : va_D A [(f0, .inr (2, [.ref o1, .ref f1, .ref f2, .ref f3, .ref f4, .int np, .int ns, .int aw])), (f1, .inl (cI, 1764, .inl (upd (wiC ce i) i (((wiC ce i) i) &&& (nI 2048))))), (f2, .inl (cJ, 1764, .inr (.inl oq))), (f3, .inl (cI, 42, .inl rp)), (f4, .inl (cI, 61, .inl tl))] := hD
      refine lv_iinc (v := nI (i + 1)) (lv' := [(1, .int (nI (i + 1))), (0, .ref f0)]) hx hb d_FD_wipe_21 hl (k := 1) rfl (jn_inc i 1) (by decide) rfl (fun ls hl => ?_)
      refine lv_goto (tgt := 2) hx hb d_FD_wipe_24 (by decide) ?_
      rw [wiC_succ] at hP hD
      exact ih (i + 1) (by omega) (by omega) _ _ _ (hP.sub [0, 1, 2, 3, 4] rfl) (hD.sub [0, 1, 2, 3, 4] (by decide) rfl) hS (lv_sub hl [1, 0] rfl)
set_option maxHeartbeats 4000000 in
set_option maxRecDepth 100000 in
/-- wipe -/
theorem k_FD_wipe (l : Launch) (D : va_G) (cI cJ : ClassId) (f0 : Nat) (f1 : Nat) (f2 : Nat) (f3 : Nat) (f4 : Nat) (o1 : Nat) (np : Int32) (ns : Int32) (aw : Int32) (ce : Nat → Int32) (oq : Nat → Int64) (rp : Nat → Int32) (tl : Nat → Int32) (sz : Nat)  : Met l y_FD_wipe ws_FD_wipe ({ frames := 1, cells := 0, slots := 0, locals := 24 } : Room) (va_Pc [.ref f0] (Pw D cI cJ [(f0, .inr (2, [.ref o1, .ref f1, .ref f2, .ref f3, .ref f4, .int np, .int ns, .int aw])), (f1, .inl (cI, 1764, .inl ce)), (f2, .inl (cJ, 1764, .inr (.inl oq))), (f3, .inl (cI, 42, .inl rp)), (f4, .inl (cI, 61, .inl tl))] sz)) (va_Qv (fun (_u : Unit) => True) (fun _u t9 => Bw D (va_A [(f0, .inr (2, [.ref o1, .ref f1, .ref f2, .ref f3, .ref f4, .int np, .int ns, .int aw])), (f1, .inl (cI, 1764, .inl ce)), (f2, .inl (cJ, 1764, .inr (.inl oq))), (f3, .inl (cI, 42, .inl rp)), (f4, .inl (cI, 61, .inl tl))] sz) [(f0, .inr (2, [.ref o1, .ref f1, .ref f2, .ref f3, .ref f4, .int (nI 0), .int (nI 0), .int (nI 0)])), (f1, .inl (cI, 1764, .inl (wiC ce 1764))), (f2, .inl (cJ, 1764, .inr (.inl (flJ oq 0 1764)))), (f3, .inl (cI, 42, .inl (flI rp (nI 0) 42))), (f4, .inl (cI, 61, .inl (flI tl (nI 0) 61)))] t9) (va_A [(f0, .inr (2, [.ref o1, .ref f1, .ref f2, .ref f3, .ref f4, .int np, .int ns, .int aw])), (f1, .inl (cI, 1764, .inl ce)), (f2, .inl (cJ, 1764, .inr (.inl oq))), (f3, .inl (cI, 42, .inl rp)), (f4, .inl (cI, 61, .inl tl))] sz)) 0 0 (va_A [(f0, .inr (2, [.ref o1, .ref f1, .ref f2, .ref f3, .ref f4, .int np, .int ns, .int aw])), (f1, .inl (cI, 1764, .inl ce)), (f2, .inl (cJ, 1764, .inr (.inl oq))), (f3, .inl (cI, 42, .inl rp)), (f4, .inl (cI, 61, .inl tl))] sz) := by
  refine Met.ofW (cc := c_FD_wipe) (maxL := 2) (ret := none) (by decide) rfl ?_
  intro p e s m args below meth c s₁ B hml hv
  obtain ⟨rfl, hsz, hE, hP, hD0, hX⟩ := hv
  have hx := B.exec
  have hb := B.bytes
  have hr := B.returns
  have hw : ∀ w ∈ gw, w.before _ s = true := fun w h => atoms_spec (ws := ws_FD_wipe) B.pre w (List.mem_cons_of_mem _ h)
  have hown : s.vm.findClass R_FD = some m.cls := findClass_of_methodNamed B.named
  have hlocks := B.notSynchronized
  subst hsz
  have hD := hD0.self (sz := s.heap.size)
  generalize hAe : va_A [(f0, .inr (2, [.ref o1, .ref f1, .ref f2, .ref f3, .ref f4, .int np, .int ns, .int aw])), (f1, .inl (cI, 1764, .inl ce)), (f2, .inl (cJ, 1764, .inr (.inl oq))), (f3, .inl (cI, 42, .inl rp)), (f4, .inl (cI, 61, .inl tl))] s.heap.size = A at hD hX ⊢
  have hA : ∀ q : Nat, s.heap.size ≤ q → A q := fun q h => by rw [← hAe]; exact Or.inr h
  have hS : va_S A s.heap s.heap [] := va_S.rf
  have hP : va_P D vwCl [(f0, .inr (2, [.ref o1, .ref f1, .ref f2, .ref f3, .ref f4, .int np, .int ns, .int aw])), (f1, .inl (cI, 1764, .inl ce)), (f2, .inl (cJ, 1764, .inr (.inl oq))), (f3, .inl (cI, 42, .inl rp)), (f4, .inl (cI, 61, .inl tl))] s.heap := hP
  have hl := lv_entry ([.ref f0]) (n := 2) (Nat.le_of_ble_eq_true rfl)
  rw [lg_entry_eq]
  generalize (lg_sl ([.ref f0]) ++ List.replicate (2 - (lg_sl ([.ref f0])).length) Slot.unset).toArray = ls at hl ⊢
  have hl : lv_has ls 2 [(0, .ref f0)] := hl
  refine lv_iconst (v := nI 0) hx hb d_FD_wipe_0 (by decide +kernel) ?_
  refine lv_istore_n (lv' := [(1, .int (nI 0)), (0, .ref f0)]) hx hb d_FD_wipe_1 rfl hl (by decide) rfl (fun ls hl => ?_)
  rw [← wiC_zero ce] at hP hD
  refine lp_k_FD_wipe_2 f0 f1 f2 f3 f4 o1 np ns aw ce oq rp tl hx hb hml hown hw hE hX hA (fun H locs ls hP hD hS hl => ?_) ((1764 - 0) + 1) 0 (Nat.lt_succ_self _) (Nat.zero_le _) _ _ _ (hP.sub [0, 1, 2, 3, 4] rfl) (hD.sub [0, 1, 2, 3, 4] (by decide) rfl) hS (lv_sub hl [1, 0] rfl)
  refine lv_aload_n hx hb d_FD_wipe_27 rfl (lv_at hl 0 rfl) ?_
  refine va_get (D := D) (ci := 2) (v := .ref f2) (C := R_FD) (T := T_FD) (N := 8) hx hb hw in_FD hown hE.1 hP 0 rfl rfl 2 (by decide) (hw _ kw_97) (fun _ h9 => h9) rfl d_FD_wipe_28 ?_
  refine lv_lconst (v := 0) hx hb d_FD_wipe_31 (by decide +kernel) ?_
  refine cl_v (wr := [(f0, .inr (2, [.ref o1, .ref f1, .ref f2, .ref f3, .ref f4, .int np, .int ns, .int aw])), (f1, .inl (cI, 1764, .inl (wiC ce 1764))), (f3, .inl (cI, 42, .inl rp)), (f4, .inl (cI, 61, .inl tl))]) (va_runS (As := [.ref f2, .long 0]) (rest := []) ⟨hx, hb, hml, hown, hw⟩ (k_JA_fillJ l D cI cJ f2 1764 oq 0 _ (by omega)) (va_cwS 2 hw (gS kw_207 kw_208 kw_54 kw_209) rfl rfl rfl (by decide +kernel) ⟨Nat.le_of_ble_eq_true rfl, Nat.le_of_ble_eq_true rfl⟩) (pre_Sw (wc := [(f2, .inl (cJ, 1764, .inr (.inl oq)))]) hE hX hA hP hD hS [2] (by decide) rfl rfl) rfl rfl hl.1 rfl (lv_room (Nat.le_of_ble_eq_true rfl)) d_FD_wipe_32 ⟨Nat.le_of_ble_eq_true rfl, Nat.le_of_ble_eq_true rfl⟩) hP hD hS hA [2] [0, 1, 3, 4] rfl rfl (by decide) (by decide) (fun u_r_1 H locs hr_1 hP hD hS => ?_)
  have hP : va_P D vwCl [(f0, .inr (2, [.ref o1, .ref f1, .ref f2, .ref f3, .ref f4, .int np, .int ns, .int aw])), (f1, .inl (cI, 1764, .inl (wiC ce 1764))), (f3, .inl (cI, 42, .inl rp)), (f4, .inl (cI, 61, .inl tl)), (f2, .inl (cJ, 1764, .inr (.inl (flJ oq 0 1764))))] H := hP
  have hD : va_D A [(f0, .inr (2, [.ref o1, .ref f1, .ref f2, .ref f3, .ref f4, .int np, .int ns, .int aw])), (f1, .inl (cI, 1764, .inl (wiC ce 1764))), (f3, .inl (cI, 42, .inl rp)), (f4, .inl (cI, 61, .inl tl)), (f2, .inl (cJ, 1764, .inr (.inl (flJ oq 0 1764))))] := hD
  refine lv_aload_n hx hb d_FD_wipe_35 rfl (lv_at hl 0 rfl) ?_
  refine va_get (D := D) (ci := 2) (v := .ref f3) (C := R_FD) (T := T_FD) (N := 8) hx hb hw in_FD hown hE.1 hP 0 rfl rfl 3 (by decide) (hw _ kw_98) (fun _ h9 => h9) rfl d_FD_wipe_36 ?_
  refine lv_iconst (v := nI 0) hx hb d_FD_wipe_39 (by decide +kernel) ?_
  refine cl_v (wr := [(f0, .inr (2, [.ref o1, .ref f1, .ref f2, .ref f3, .ref f4, .int np, .int ns, .int aw])), (f1, .inl (cI, 1764, .inl (wiC ce 1764))), (f4, .inl (cI, 61, .inl tl)), (f2, .inl (cJ, 1764, .inr (.inl (flJ oq 0 1764))))]) (va_runS (As := [.ref f3, .int (nI 0)]) (rest := []) ⟨hx, hb, hml, hown, hw⟩ (k_JA_fillI l D cI cJ f3 42 rp (nI 0) _ (by omega)) (va_cwS 2 hw (gS kw_210 kw_211 kw_54 kw_212) rfl rfl rfl (by decide +kernel) ⟨Nat.le_of_ble_eq_true rfl, Nat.le_of_ble_eq_true rfl⟩) (pre_Sw (wc := [(f3, .inl (cI, 42, .inl rp))]) hE hX hA hP hD hS [2] (by decide) rfl rfl) rfl rfl hl.1 rfl (lv_room (Nat.le_of_ble_eq_true rfl)) d_FD_wipe_40 ⟨Nat.le_of_ble_eq_true rfl, Nat.le_of_ble_eq_true rfl⟩) hP hD hS hA [2] [0, 1, 3, 4] rfl rfl (by decide) (by decide) (fun u_r_2 H locs hr_2 hP hD hS => ?_)
  have hP : va_P D vwCl [(f0, .inr (2, [.ref o1, .ref f1, .ref f2, .ref f3, .ref f4, .int np, .int ns, .int aw])), (f1, .inl (cI, 1764, .inl (wiC ce 1764))), (f4, .inl (cI, 61, .inl tl)), (f2, .inl (cJ, 1764, .inr (.inl (flJ oq 0 1764)))), (f3, .inl (cI, 42, .inl (flI rp (nI 0) 42)))] H := hP
  have hD : va_D A [(f0, .inr (2, [.ref o1, .ref f1, .ref f2, .ref f3, .ref f4, .int np, .int ns, .int aw])), (f1, .inl (cI, 1764, .inl (wiC ce 1764))), (f4, .inl (cI, 61, .inl tl)), (f2, .inl (cJ, 1764, .inr (.inl (flJ oq 0 1764)))), (f3, .inl (cI, 42, .inl (flI rp (nI 0) 42)))] := hD
  refine lv_aload_n hx hb d_FD_wipe_43 rfl (lv_at hl 0 rfl) ?_
  refine va_get (D := D) (ci := 2) (v := .ref f4) (C := R_FD) (T := T_FD) (N := 8) hx hb hw in_FD hown hE.1 hP 0 rfl rfl 4 (by decide) (hw _ kw_99) (fun _ h9 => h9) rfl d_FD_wipe_44 ?_
  refine lv_iconst (v := nI 0) hx hb d_FD_wipe_47 (by decide +kernel) ?_
  refine cl_v (wr := [(f0, .inr (2, [.ref o1, .ref f1, .ref f2, .ref f3, .ref f4, .int np, .int ns, .int aw])), (f1, .inl (cI, 1764, .inl (wiC ce 1764))), (f2, .inl (cJ, 1764, .inr (.inl (flJ oq 0 1764)))), (f3, .inl (cI, 42, .inl (flI rp (nI 0) 42)))]) (va_runS (As := [.ref f4, .int (nI 0)]) (rest := []) ⟨hx, hb, hml, hown, hw⟩ (k_JA_fillI l D cI cJ f4 61 tl (nI 0) _ (by omega)) (va_cwS 2 hw (gS kw_210 kw_211 kw_54 kw_212) rfl rfl rfl (by decide +kernel) ⟨Nat.le_of_ble_eq_true rfl, Nat.le_of_ble_eq_true rfl⟩) (pre_Sw (wc := [(f4, .inl (cI, 61, .inl tl))]) hE hX hA hP hD hS [2] (by decide) rfl rfl) rfl rfl hl.1 rfl (lv_room (Nat.le_of_ble_eq_true rfl)) d_FD_wipe_48 ⟨Nat.le_of_ble_eq_true rfl, Nat.le_of_ble_eq_true rfl⟩) hP hD hS hA [2] [0, 1, 3, 4] rfl rfl (by decide) (by decide) (fun u_r_3 H locs hr_3 hP hD hS => ?_)
  have hP : va_P D vwCl [(f0, .inr (2, [.ref o1, .ref f1, .ref f2, .ref f3, .ref f4, .int np, .int ns, .int aw])), (f1, .inl (cI, 1764, .inl (wiC ce 1764))), (f2, .inl (cJ, 1764, .inr (.inl (flJ oq 0 1764)))), (f3, .inl (cI, 42, .inl (flI rp (nI 0) 42))), (f4, .inl (cI, 61, .inl (flI tl (nI 0) 61)))] H := hP
  have hD : va_D A [(f0, .inr (2, [.ref o1, .ref f1, .ref f2, .ref f3, .ref f4, .int np, .int ns, .int aw])), (f1, .inl (cI, 1764, .inl (wiC ce 1764))), (f2, .inl (cJ, 1764, .inr (.inl (flJ oq 0 1764)))), (f3, .inl (cI, 42, .inl (flI rp (nI 0) 42))), (f4, .inl (cI, 61, .inl (flI tl (nI 0) 61)))] := hD
  refine lv_aload_n hx hb d_FD_wipe_51 rfl (lv_at hl 0 rfl) ?_
  refine lv_iconst (v := nI 0) hx hb d_FD_wipe_52 (by decide +kernel) ?_
  refine va_put (D := D) (ci := 2) (v := .int (nI 0)) (ty := .int) (C := R_FD) (T := T_FD) (N := 8) hx hb hw in_FD ty_FD ty_FD_ok nm_FD_ok hown hE.1 hP hD hS 0 rfl rfl 5 (by decide) (hw _ kw_100) (fun _ h9 => h9) rfl (by decide +kernel) rfl rfl (Nat.le_of_ble_eq_true rfl) d_FD_wipe_53 (fun H locs hP hD hS => ?_)
  have hP : va_P D vwCl [(f0, .inr (2, [.ref o1, .ref f1, .ref f2, .ref f3, .ref f4, .int (nI 0), .int ns, .int aw])), (f1, .inl (cI, 1764, .inl (wiC ce 1764))), (f2, .inl (cJ, 1764, .inr (.inl (flJ oq 0 1764)))), (f3, .inl (cI, 42, .inl (flI rp (nI 0) 42))), (f4, .inl (cI, 61, .inl (flI tl (nI 0) 61)))] H := hP
  have hD : va_D A [(f0, .inr (2, [.ref o1, .ref f1, .ref f2, .ref f3, .ref f4, .int (nI 0), .int ns, .int aw])), (f1, .inl (cI, 1764, .inl (wiC ce 1764))), (f2, .inl (cJ, 1764, .inr (.inl (flJ oq 0 1764)))), (f3, .inl (cI, 42, .inl (flI rp (nI 0) 42))), (f4, .inl (cI, 61, .inl (flI tl (nI 0) 61)))] := hD
  refine lv_aload_n hx hb d_FD_wipe_56 rfl (lv_at hl 0 rfl) ?_
  refine lv_iconst (v := nI 0) hx hb d_FD_wipe_57 (by decide +kernel) ?_
  refine va_put (D := D) (ci := 2) (v := .int (nI 0)) (ty := .int) (C := R_FD) (T := T_FD) (N := 8) hx hb hw in_FD ty_FD ty_FD_ok nm_FD_ok hown hE.1 hP hD hS 0 rfl rfl 6 (by decide) (hw _ kw_101) (fun _ h9 => h9) rfl (by decide +kernel) rfl rfl (Nat.le_of_ble_eq_true rfl) d_FD_wipe_58 (fun H locs hP hD hS => ?_)
  have hP : va_P D vwCl [(f0, .inr (2, [.ref o1, .ref f1, .ref f2, .ref f3, .ref f4, .int (nI 0), .int (nI 0), .int aw])), (f1, .inl (cI, 1764, .inl (wiC ce 1764))), (f2, .inl (cJ, 1764, .inr (.inl (flJ oq 0 1764)))), (f3, .inl (cI, 42, .inl (flI rp (nI 0) 42))), (f4, .inl (cI, 61, .inl (flI tl (nI 0) 61)))] H := hP
  have hD : va_D A [(f0, .inr (2, [.ref o1, .ref f1, .ref f2, .ref f3, .ref f4, .int (nI 0), .int (nI 0), .int aw])), (f1, .inl (cI, 1764, .inl (wiC ce 1764))), (f2, .inl (cJ, 1764, .inr (.inl (flJ oq 0 1764)))), (f3, .inl (cI, 42, .inl (flI rp (nI 0) 42))), (f4, .inl (cI, 61, .inl (flI tl (nI 0) 61)))] := hD
  refine lv_aload_n hx hb d_FD_wipe_61 rfl (lv_at hl 0 rfl) ?_
  refine lv_iconst (v := nI 0) hx hb d_FD_wipe_62 (by decide +kernel) ?_
  refine va_put (D := D) (ci := 2) (v := .int (nI 0)) (ty := .boolean) (C := R_FD) (T := T_FD) (N := 8) hx hb hw in_FD ty_FD ty_FD_ok nm_FD_ok hown hE.1 hP hD hS 0 rfl rfl 7 (by decide) (hw _ kw_102) (fun _ h9 => h9) rfl (by decide +kernel) (by decide +kernel) (by decide +kernel) (Nat.le_of_ble_eq_true rfl) d_FD_wipe_63 (fun H locs hP hD hS => ?_)
  have hP : va_P D vwCl [(f0, .inr (2, [.ref o1, .ref f1, .ref f2, .ref f3, .ref f4, .int (nI 0), .int (nI 0), .int (nI 0)])), (f1, .inl (cI, 1764, .inl (wiC ce 1764))), (f2, .inl (cJ, 1764, .inr (.inl (flJ oq 0 1764)))), (f3, .inl (cI, 42, .inl (flI rp (nI 0) 42))), (f4, .inl (cI, 61, .inl (flI tl (nI 0) 61)))] H := hP
  have hD : va_D A [(f0, .inr (2, [.ref o1, .ref f1, .ref f2, .ref f3, .ref f4, .int (nI 0), .int (nI 0), .int (nI 0)])), (f1, .inl (cI, 1764, .inl (wiC ce 1764))), (f2, .inl (cJ, 1764, .inr (.inl (flJ oq 0 1764)))), (f3, .inl (cI, 42, .inl (flI rp (nI 0) 42))), (f4, .inl (cI, 61, .inl (flI tl (nI 0) 61)))] := hD
  have hP9 := hP.sub (ws' := [(f0, .inr (2, [.ref o1, .ref f1, .ref f2, .ref f3, .ref f4, .int (nI 0), .int (nI 0), .int (nI 0)])), (f1, .inl (cI, 1764, .inl (wiC ce 1764))), (f2, .inl (cJ, 1764, .inr (.inl (flJ oq 0 1764)))), (f3, .inl (cI, 42, .inl (flI rp (nI 0) 42))), (f4, .inl (cI, 61, .inl (flI tl (nI 0) 61)))]) [0, 1, 2, 3, 4] rfl
  have hD9 := hD.sub (ws' := [(f0, .inr (2, [.ref o1, .ref f1, .ref f2, .ref f3, .ref f4, .int (nI 0), .int (nI 0), .int (nI 0)])), (f1, .inl (cI, 1764, .inl (wiC ce 1764))), (f2, .inl (cJ, 1764, .inr (.inl (flJ oq 0 1764)))), (f3, .inl (cI, 42, .inl (flI rp (nI 0) 42))), (f4, .inl (cI, 61, .inl (flI tl (nI 0) 61)))]) [0, 1, 2, 3, 4] (by decide) rfl
  exact W.vret hx hb hr (fun t9 ht hW => ⟨⟨(), rfl, trivial, ⟨by rw [ht]; exact hP9, hD9⟩⟩, hS.F ht⟩) hS.2.2 d_FD_wipe_66
set_option maxHeartbeats 4000000 in
set_option maxRecDepth 100000 in
theorem lp_k_FD_init_60 {p : Program} {l : Launch} {e : Env} {s : State} {m : MethodId} {args : Array Value} {below : List Frame} {meth : Method} {c : Code} {D : va_G} {cI cJ : ClassId} {Q : State → Prop} {A : Nat → Prop} (f0 : Nat) (o1 : Nat)  (g1 : Nat) (g2 : Nat) (g3 : Nat) (g4 : Nat) (hx : p.tables.exec = Jvm.exec) (hb : c.code = c_FD_init) (hml : c.maxLocals = 3) (hown : s.vm.findClass R_FD = some m.cls) (hw : ∀ w ∈ gw, w.before args s = true) (hE : En D cI cJ s) (hX : Sx A s s.heap) (hA : ∀ q : Nat, s.heap.size ≤ q → A q)
    (kx0 : ∀ (H : Heap) (locs : List Loc) (ls : Array Slot), va_P D vwCl [(f0, .inr (2, [.ref o1, .ref g1, .ref g2, .ref g3, .ref g4, .int (nI 0), .int (nI 0), .int (nI 0)])), (g1, .inl (cI, 1764, .inl (wlC 42))), (g2, .inl (cJ, 1764, .inr (.inl (fun _ => 0)))), (g3, .inl (cI, 42, .inl (fun _ => 0))), (g4, .inl (cI, 61, .inl (fun _ => 0)))] H → va_D A [(f0, .inr (2, [.ref o1, .ref g1, .ref g2, .ref g3, .ref g4, .int (nI 0), .int (nI 0), .int (nI 0)])), (g1, .inl (cI, 1764, .inl (wlC 42))), (g2, .inl (cJ, 1764, .inr (.inl (fun _ => 0)))), (g3, .inl (cI, 42, .inl (fun _ => 0))), (g4, .inl (cI, 61, .inl (fun _ => 0)))] → va_S A s.heap H locs → lv_has ls 3 [(0, .ref f0)] → W p l e ({ frames := 1, cells := 4, slots := 3631, locals := 16 } : Room) s m args below meth c H locs 4 3631 Q (F0 m 123 ls [])) :
    ∀ (fu : Nat) (i : Nat), 42 - i < fu → (i ≤ 42) → ∀ (H : Heap) (locs : List Loc) (ls : Array Slot), va_P D vwCl [(f0, .inr (2, [.ref o1, .ref g1, .ref g2, .ref g3, .ref g4, .int (nI 0), .int (nI 0), .int (nI 0)])), (g1, .inl (cI, 1764, .inl (wlC i))), (g2, .inl (cJ, 1764, .inr (.inl (fun _ => 0)))), (g3, .inl (cI, 42, .inl (fun _ => 0))), (g4, .inl (cI, 61, .inl (fun _ => 0)))] H → va_D A [(f0, .inr (2, [.ref o1, .ref g1, .ref g2, .ref g3, .ref g4, .int (nI 0), .int (nI 0), .int (nI 0)])), (g1, .inl (cI, 1764, .inl (wlC i))), (g2, .inl (cJ, 1764, .inr (.inl (fun _ => 0)))), (g3, .inl (cI, 42, .inl (fun _ => 0))), (g4, .inl (cI, 61, .inl (fun _ => 0)))] → va_S A s.heap H locs → lv_has ls 3 [(0, .ref f0), (2, .int (nI i))] → W p l e ({ frames := 1, cells := 4, slots := 3631, locals := 16 } : Room) s m args below meth c H locs 4 3631 Q (F0 m 60 ls []) := by
  intro fu
  induction fu with
  | zero =>
    intro i h0
    exact absurd h0 (Nat.not_lt_zero _)
  | succ fu ih =>
    intro i hmu hi H locs ls hP hD hS hl
    refine lv_iload_n hx hb d_FD_init_60 rfl (lv_at hl 1 rfl) ?_
    refine lv_bipush (v := nI 42) hx hb d_FD_init_61 (by decide +kernel) ?_
    refine jn_icmp_ge (tgt := 123) (a := i) (b := 42) hx hb d_FD_init_63 (by decide) (by omega) (by omega) (fun c_63 => ?_) (fun c_63 => ?_)
    · skip
      obtain rfl : i = 42 := by omega
      exact kx0   _ _ _ (hP.sub [0, 1, 2, 3, 4] rfl) (hD.sub [0, 1, 2, 3, 4] (by decide) rfl) hS (lv_sub hl [0] rfl)
    · skip
      refine lv_aload_n hx hb d_FD_init_66 rfl (lv_at hl 0 rfl) ?_
      refine va_get (D := D) (ci := 2) (v := .ref g1) (C := R_FD) (T := T_FD) (N := 8) hx hb hw in_FD hown hE.1 hP 0 rfl rfl 1 (by decide) (hw _ kw_96) (fun _ h9 => h9) rfl d_FD_init_67 ?_
      refine lv_iload_n hx hb d_FD_init_70 rfl (lv_at hl 1 rfl) ?_
      refine lv_sipush (v := nI 2048) hx hb d_FD_init_71 (by decide +kernel) ?_
      refine jn_iast (k := i) hx hb hE.1 hP hD hS 1 0 rfl rfl (by omega) (by omega) d_FD_init_74 (fun H locs hP hD hS => ?_)
      have hP : va_P D vwCl [(f0, .inr (2, [.ref o1, .ref g1, .ref g2, .ref g3, .ref g4, .int (nI 0), .int (nI 0), .int (nI 0)])), (g1, .inl (cI, 1764, .inl (upd (wlC i) i (nI 2048)))), (g2, .inl (cJ, 1764, .inr (.inl (fun _ => 0)))), (g3, .inl (cI, 42, .inl (fun _ => 0))), (g4, .inl (cI, 61, .inl (fun _ => 0)))] H := hP
      have hD : va_D A [(f0, .inr (2, [.ref o1, .ref g1, .ref g2, .ref g3, .ref g4, .int (nI 0), .int (nI 0), .int (nI 0)])), (g1, .inl (cI, 1764, .inl (upd (wlC i) i (nI 2048)))), (g2, .inl (cJ, 1764, .inr (.inl (fun _ => 0)))), (g3, .inl (cI, 42, .inl (fun _ => 0))), (g4, .inl (cI, 61, .inl (fun _ => 0)))] := hD
      refine lv_aload_n hx hb d_FD_init_75 rfl (lv_at hl 0 rfl) ?_
      refine va_get (D := D) (ci := 2) (v := .ref g1) (C := R_FD) (T := T_FD) (N := 8) hx hb hw in_FD hown hE.1 hP 0 rfl rfl 1 (by decide) (hw _ kw_96) (fun _ h9 => h9) rfl d_FD_init_76 ?_
      refine lv_sipush (v := nI 1763) hx hb d_FD_init_79 (by decide +kernel) ?_
      refine lv_iload_n hx hb d_FD_init_82 rfl (lv_at hl 1 rfl) ?_
      refine jn_isub (a := 1763) (b := i) hx hb d_FD_init_83 (by omega) ?_
      refine lv_sipush (v := nI 2048) hx hb d_FD_init_84 (by decide +kernel) ?_
      refine jn_iast (k := (1763 - i)) hx hb hE.1 hP hD hS 1 0 rfl rfl (by omega) (by omega) d_FD_init_87 (fun H locs hP hD hS => ?_)
      have hP : va_P D vwCl [(f0, .inr (2, [.ref o1, .ref g1, .ref g2, .ref g3, .ref g4, .int (nI 0), .int (nI 0), .int (nI 0)])), (g1, .inl (cI, 1764, .inl (upd (upd (wlC i) i (nI 2048)) (1763 - i) (nI 2048)))), (g2, .inl (cJ, 1764, .inr (.inl (fun _ => 0)))), (g3, .inl (cI, 42, .inl (fun _ => 0))), (g4, .inl (cI, 61, .inl (fun _ => 0)))] H := hP
      have hD : va_D A [(f0, .inr (2, [.ref o1, .ref g1, .ref g2, .ref g3, .ref g4, .int (nI 0), .int (nI 0), .int (nI 0)])), (g1, .inl (cI, 1764, .inl (upd (upd (wlC i) i (nI 2048)) (1763 - i) (nI 2048)))), (g2, .inl (cJ, 1764, .inr (.inl (fun _ => 0)))), (g3, .inl (cI, 42, .inl (fun _ => 0))), (g4, .inl (cI, 61, .inl (fun _ => 0)))] := hD
      refine lv_aload_n hx hb d_FD_init_88 rfl (lv_at hl 0 rfl) ?_
      refine va_get (D := D) (ci := 2) (v := .ref g1) (C := R_FD) (T := T_FD) (N := 8) hx hb hw in_FD hown hE.1 hP 0 rfl rfl 1 (by decide) (hw _ kw_96) (fun _ h9 => h9) rfl d_FD_init_89 ?_
      refine lv_iload_n hx hb d_FD_init_92 rfl (lv_at hl 1 rfl) ?_
      refine lv_bipush (v := nI 42) hx hb d_FD_init_93 (by decide +kernel) ?_
      refine jn_imul (a := i) (b := 42) hx hb d_FD_init_95 ?_
      refine lv_sipush (v := nI 2048) hx hb d_FD_init_96 (by decide +kernel) ?_
      refine jn_iast (k := (i * 42)) hx hb hE.1 hP hD hS 1 0 rfl rfl (by omega) (by omega) d_FD_init_99 (fun H locs hP hD hS => ?_)
      have hP : va_P D vwCl [(f0, .inr (2, [.ref o1, .ref g1, .ref g2, .ref g3, .ref g4, .int (nI 0), .int (nI 0), .int (nI 0)])), (g1, .inl (cI, 1764, .inl (upd (upd (upd (wlC i) i (nI 2048)) (1763 - i) (nI 2048)) (i * 42) (nI 2048)))), (g2, .inl (cJ, 1764, .inr (.inl (fun _ => 0)))), (g3, .inl (cI, 42, .inl (fun _ => 0))), (g4, .inl (cI, 61, .inl (fun _ => 0)))] H := hP
      have hD : va_D A [(f0, .inr (2, [.ref o1, .ref g1, .ref g2, .ref g3, .ref g4, .int (nI 0), .int (nI 0), .int (nI 0)])), (g1, .inl (cI, 1764, .inl (upd (upd (upd (wlC i) i (nI 2048)) (1763 - i) (nI 2048)) (i * 42) (nI 2048)))), (g2, .inl (cJ, 1764, .inr (.inl (fun _ => 0)))), (g3, .inl (cI, 42, .inl (fun _ => 0))), (g4, .inl (cI, 61, .inl (fun _ => 0)))] := hD
      refine lv_aload_n hx hb d_FD_init_100 rfl (lv_at hl 0 rfl) ?_
      refine va_get (D := D) (ci := 2) (v := .ref g1) (C := R_FD) (T := T_FD) (N := 8) hx hb hw in_FD hown hE.1 hP 0 rfl rfl 1 (by decide) (hw _ kw_96) (fun _ h9 => h9) rfl d_FD_init_101 ?_
      refine lv_iload_n hx hb d_FD_init_104 rfl (lv_at hl 1 rfl) ?_
      refine lv_bipush (v := nI 42) hx hb d_FD_init_105 (by decide +kernel) ?_
      refine jn_imul (a := i) (b := 42) hx hb d_FD_init_107 ?_
      refine lv_bipush (v := nI 42) hx hb d_FD_init_108 (by decide +kernel) ?_
      refine jn_iadd (a := (i * 42)) (b := 42) hx hb d_FD_init_110 ?_
      refine lv_iconst (v := nI 1) hx hb d_FD_init_111 (by decide +kernel) ?_
      refine jn_isub (a := ((i * 42) + 42)) (b := 1) hx hb d_FD_init_112 (by omega) ?_
      refine lv_sipush (v := nI 2048) hx hb d_FD_init_113 (by decide +kernel) ?_
      refine jn_iast (k := (((i * 42) + 42) - 1)) hx hb hE.1 hP hD hS 1 0 rfl rfl (by omega) (by omega) d_FD_init_116 (fun H locs hP hD hS => ?_)
      have hP : va_P D vwCl [(f0, .inr (2, [.ref o1, .ref g1, .ref g2, .ref g3, .ref g4, .int (nI 0), .int (nI 0), .int (nI 0)])), (g1, .inl (cI, 1764, .inl (upd (upd (upd (upd (wlC i) i (nI 2048)) (1763 - i) (nI 2048)) (i * 42) (nI 2048)) (((i * 42) + 42) - 1) (nI 2048)))), (g2, .inl (cJ, 1764, .inr (.inl (fun _ => 0)))), (g3, .inl (cI, 42, .inl (fun _ => 0))), (g4, .inl (cI, 61, .inl (fun _ => 0)))] H := hP
      have hD : va_D A [(f0, .inr (2, [.ref o1, .ref g1, .ref g2, .ref g3, .ref g4, .int (nI 0), .int (nI 0), .int (nI 0)])), (g1, .inl (cI, 1764, .inl (upd (upd (upd (upd (wlC i) i (nI 2048)) (1763 - i) (nI 2048)) (i * 42) (nI 2048)) (((i * 42) + 42) - 1) (nI 2048)))), (g2, .inl (cJ, 1764, .inr (.inl (fun _ => 0)))), (g3, .inl (cI, 42, .inl (fun _ => 0))), (g4, .inl (cI, 61, .inl (fun _ => 0)))] := hD
      refine lv_iinc (v := nI (i + 1)) (lv' := [(2, .int (nI (i + 1))), (0, .ref f0)]) hx hb d_FD_init_117 hl (k := 1) rfl (jn_inc i 1) (by decide) rfl (fun ls hl => ?_)
      refine lv_goto (tgt := 60) hx hb d_FD_init_120 (by decide) ?_
      have hP : va_P D vwCl [(f0, .inr (2, [.ref o1, .ref g1, .ref g2, .ref g3, .ref g4, .int (nI 0), .int (nI 0), .int (nI 0)])), (g1, .inl (cI, 1764, .inl (wlC (i + 1)))), (g2, .inl (cJ, 1764, .inr (.inl (fun _ => 0)))), (g3, .inl (cI, 42, .inl (fun _ => 0))), (g4, .inl (cI, 61, .inl (fun _ => 0)))] H := hP
      have hD : va_D A [(f0, .inr (2, [.ref o1, .ref g1, .ref g2, .ref g3, .ref g4, .int (nI 0), .int (nI 0), .int (nI 0)])), (g1, .inl (cI, 1764, .inl (wlC (i + 1)))), (g2, .inl (cJ, 1764, .inr (.inl (fun _ => 0)))), (g3, .inl (cI, 42, .inl (fun _ => 0))), (g4, .inl (cI, 61, .inl (fun _ => 0)))] := hD
      exact ih (i + 1) (by omega) (by omega) _ _ _ (hP.sub [0, 1, 2, 3, 4] rfl) (hD.sub [0, 1, 2, 3, 4] (by decide) rfl) hS (lv_sub hl [1, 0] rfl)
set_option maxHeartbeats 4000000 in
set_option maxRecDepth 100000 in
/-- Field(set) -/
theorem k_FD_init (l : Launch) (D : va_G) (cI cJ : ClassId) (f0 : Nat) (o1 : Nat) (sz : Nat)  : Met l y_FD_init ws_FD_init ({ frames := 1, cells := 4, slots := 3631, locals := 16 } : Room) (va_Pc [.ref f0, .ref o1] (Pw D cI cJ [(f0, .inr (2, [.null, .null, .null, .null, .null, .int 0, .int 0, .int 0]))] sz)) (va_Qv (fun (u9 : Nat × Nat × Nat × Nat) => True) (fun u9 t9 => Bw D (va_A [(f0, .inr (2, [.null, .null, .null, .null, .null, .int 0, .int 0, .int 0]))] sz) [(f0, .inr (2, [.ref o1, .ref u9.1, .ref u9.2.1, .ref u9.2.2.1, .ref u9.2.2.2, .int (nI 0), .int (nI 0), .int (nI 0)])), (u9.1, .inl (cI, 1764, .inl (wlC 42))), (u9.2.1, .inl (cJ, 1764, .inr (.inl (fun _ => 0)))), (u9.2.2.1, .inl (cI, 42, .inl (fun _ => 0))), (u9.2.2.2, .inl (cI, 61, .inl (fun _ => 0)))] t9) (va_A [(f0, .inr (2, [.null, .null, .null, .null, .null, .int 0, .int 0, .int 0]))] sz)) 4 3631 (va_A [(f0, .inr (2, [.null, .null, .null, .null, .null, .int 0, .int 0, .int 0]))] sz) := by
  refine Met.ofW (cc := c_FD_init) (maxL := 3) (ret := none) (by decide) rfl ?_
  intro p e s m args below meth c s₁ B hml hv
  obtain ⟨rfl, hsz, hE, hP, hD0, hX⟩ := hv
  have hx := B.exec
  have hb := B.bytes
  have hr := B.returns
  have hw : ∀ w ∈ gw, w.before _ s = true := fun w h => atoms_spec (ws := ws_FD_init) B.pre w (List.mem_cons_of_mem _ h)
  have hown : s.vm.findClass R_FD = some m.cls := findClass_of_methodNamed B.named
  have hlocks := B.notSynchronized
  have hin : meth.name = "<init>" := (name_of_methodNamed B.named B.method).1
  subst hsz
  have hD := hD0.self (sz := s.heap.size)
  generalize hAe : va_A [(f0, .inr (2, [.null, .null, .null, .null, .null, .int 0, .int 0, .int 0]))] s.heap.size = A at hD hX ⊢
  have hA : ∀ q : Nat, s.heap.size ≤ q → A q := fun q h => by rw [← hAe]; exact Or.inr h
  have hS : va_S A s.heap s.heap [] := va_S.rf
  have hP : va_P D vwCl [(f0, .inr (2, [.null, .null, .null, .null, .null, .int 0, .int 0, .int 0]))] s.heap := hP
  have hl := lv_entry ([.ref f0, .ref o1]) (n := 3) (Nat.le_of_ble_eq_true rfl)
  rw [lg_entry_eq]
  generalize (lg_sl ([.ref f0, .ref o1]) ++ List.replicate (3 - (lg_sl ([.ref f0, .ref o1])).length) Slot.unset).toArray = ls at hl ⊢
  have hl : lv_has ls 3 [(0, .ref f0), (1, .ref o1)] := hl
  refine lv_aload_n hx hb d_FD_init_0 rfl (lv_at hl 0 rfl) ?_
  refine W.objInit hx hb hown (hw _ kw_94) (hw _ kw_63) (hw _ kw_64) rfl (by rw [hml]; exact hl.1) rfl d_FD_init_1 (Nat.le_of_ble_eq_true rfl) (Nat.le_of_ble_eq_true rfl) ?_
  refine W.eq (g2 := F0 m 4 ls []) rfl ?_
  refine lv_aload_n hx hb d_FD_init_4 rfl (lv_at hl 0 rfl) ?_
  refine lv_sipush (v := nI 1764) hx hb d_FD_init_5 (by decide +kernel) ?_
  refine nw_I (N := 1764) hx hb (hw _ kw_87) hE.1 hP hD hS hA (by decide +kernel) (by decide +kernel) (by decide) (Nat.le_of_ble_eq_true rfl) (Nat.le_of_ble_eq_true rfl) d_FD_init_8 (fun qa_1 H hP hD hS => ?_)
  have hP : va_P D vwCl [(f0, .inr (2, [.null, .null, .null, .null, .null, .int 0, .int 0, .int 0])), (qa_1, .inl (cI, 1764, .inl (fun _ => 0)))] H := hP
  have hD : va_D A [(f0, .inr (2, [.null, .null, .null, .null, .null, .int 0, .int 0, .int 0])), (qa_1, .inl (cI, 1764, .inl (fun _ => 0)))] := hD
  refine W.widen (k := 1) (n := 1764) (by omega) (by omega) ?_
  refine va_putF (D := D) (ci := 2) (v := .ref qa_1) (ty := (.array .int)) (C := R_FD) (T := T_FD) (N := 8) hx hb hw in_FD ty_FD ty_FD_ok nm_FD_ok hown hE.1 hP hD hS 0 rfl rfl 1 (by decide) (hw _ kw_96) (fun _ h9 => h9) rfl hin rfl (by decide +kernel) rfl rfl (Nat.le_of_ble_eq_true rfl) d_FD_init_10 (fun H locs hP hD hS => ?_)
  have hP : va_P D vwCl [(f0, .inr (2, [.null, .ref qa_1, .null, .null, .null, .int 0, .int 0, .int 0])), (qa_1, .inl (cI, 1764, .inl (fun _ => 0)))] H := hP
  have hD : va_D A [(f0, .inr (2, [.null, .ref qa_1, .null, .null, .null, .int 0, .int 0, .int 0])), (qa_1, .inl (cI, 1764, .inl (fun _ => 0)))] := hD
  refine lv_aload_n hx hb d_FD_init_13 rfl (lv_at hl 0 rfl) ?_
  refine lv_sipush (v := nI 1764) hx hb d_FD_init_14 (by decide +kernel) ?_
  refine nw_J (N := 1764) hx hb (hw _ kw_88) hE.1 hP hD hS hA (by decide +kernel) (by decide +kernel) (by decide) (Nat.le_of_ble_eq_true rfl) (Nat.le_of_ble_eq_true rfl) d_FD_init_17 (fun qa_2 H hP hD hS => ?_)
  have hP : va_P D vwCl [(f0, .inr (2, [.null, .ref qa_1, .null, .null, .null, .int 0, .int 0, .int 0])), (qa_1, .inl (cI, 1764, .inl (fun _ => 0))), (qa_2, .inl (cJ, 1764, .inr (.inl (fun _ => 0))))] H := hP
  have hD : va_D A [(f0, .inr (2, [.null, .ref qa_1, .null, .null, .null, .int 0, .int 0, .int 0])), (qa_1, .inl (cI, 1764, .inl (fun _ => 0))), (qa_2, .inl (cJ, 1764, .inr (.inl (fun _ => 0))))] := hD
  refine W.widen (k := 2) (n := 3528) (by omega) (by omega) ?_
  refine va_putF (D := D) (ci := 2) (v := .ref qa_2) (ty := (.array .long)) (C := R_FD) (T := T_FD) (N := 8) hx hb hw in_FD ty_FD ty_FD_ok nm_FD_ok hown hE.1 hP hD hS 0 rfl rfl 2 (by decide) (hw _ kw_97) (fun _ h9 => h9) rfl hin rfl (by decide +kernel) rfl rfl (Nat.le_of_ble_eq_true rfl) d_FD_init_19 (fun H locs hP hD hS => ?_)
  have hP : va_P D vwCl [(f0, .inr (2, [.null, .ref qa_1, .ref qa_2, .null, .null, .int 0, .int 0, .int 0])), (qa_1, .inl (cI, 1764, .inl (fun _ => 0))), (qa_2, .inl (cJ, 1764, .inr (.inl (fun _ => 0))))] H := hP
  have hD : va_D A [(f0, .inr (2, [.null, .ref qa_1, .ref qa_2, .null, .null, .int 0, .int 0, .int 0])), (qa_1, .inl (cI, 1764, .inl (fun _ => 0))), (qa_2, .inl (cJ, 1764, .inr (.inl (fun _ => 0))))] := hD
  refine lv_aload_n hx hb d_FD_init_22 rfl (lv_at hl 0 rfl) ?_
  refine lv_bipush (v := nI 42) hx hb d_FD_init_23 (by decide +kernel) ?_
  refine nw_I (N := 42) hx hb (hw _ kw_87) hE.1 hP hD hS hA (by decide +kernel) (by decide +kernel) (by decide) (Nat.le_of_ble_eq_true rfl) (Nat.le_of_ble_eq_true rfl) d_FD_init_25 (fun qa_3 H hP hD hS => ?_)
  have hP : va_P D vwCl [(f0, .inr (2, [.null, .ref qa_1, .ref qa_2, .null, .null, .int 0, .int 0, .int 0])), (qa_1, .inl (cI, 1764, .inl (fun _ => 0))), (qa_2, .inl (cJ, 1764, .inr (.inl (fun _ => 0)))), (qa_3, .inl (cI, 42, .inl (fun _ => 0)))] H := hP
  have hD : va_D A [(f0, .inr (2, [.null, .ref qa_1, .ref qa_2, .null, .null, .int 0, .int 0, .int 0])), (qa_1, .inl (cI, 1764, .inl (fun _ => 0))), (qa_2, .inl (cJ, 1764, .inr (.inl (fun _ => 0)))), (qa_3, .inl (cI, 42, .inl (fun _ => 0)))] := hD
  refine W.widen (k := 3) (n := 3570) (by omega) (by omega) ?_
  refine va_putF (D := D) (ci := 2) (v := .ref qa_3) (ty := (.array .int)) (C := R_FD) (T := T_FD) (N := 8) hx hb hw in_FD ty_FD ty_FD_ok nm_FD_ok hown hE.1 hP hD hS 0 rfl rfl 3 (by decide) (hw _ kw_98) (fun _ h9 => h9) rfl hin rfl (by decide +kernel) rfl rfl (Nat.le_of_ble_eq_true rfl) d_FD_init_27 (fun H locs hP hD hS => ?_)
  have hP : va_P D vwCl [(f0, .inr (2, [.null, .ref qa_1, .ref qa_2, .ref qa_3, .null, .int 0, .int 0, .int 0])), (qa_1, .inl (cI, 1764, .inl (fun _ => 0))), (qa_2, .inl (cJ, 1764, .inr (.inl (fun _ => 0)))), (qa_3, .inl (cI, 42, .inl (fun _ => 0)))] H := hP
  have hD : va_D A [(f0, .inr (2, [.null, .ref qa_1, .ref qa_2, .ref qa_3, .null, .int 0, .int 0, .int 0])), (qa_1, .inl (cI, 1764, .inl (fun _ => 0))), (qa_2, .inl (cJ, 1764, .inr (.inl (fun _ => 0)))), (qa_3, .inl (cI, 42, .inl (fun _ => 0)))] := hD
  refine lv_aload_n hx hb d_FD_init_30 rfl (lv_at hl 0 rfl) ?_
  refine lv_bipush (v := nI 61) hx hb d_FD_init_31 (by decide +kernel) ?_
  refine nw_I (N := 61) hx hb (hw _ kw_87) hE.1 hP hD hS hA (by decide +kernel) (by decide +kernel) (by decide) (Nat.le_of_ble_eq_true rfl) (Nat.le_of_ble_eq_true rfl) d_FD_init_33 (fun qa_4 H hP hD hS => ?_)
  have hP : va_P D vwCl [(f0, .inr (2, [.null, .ref qa_1, .ref qa_2, .ref qa_3, .null, .int 0, .int 0, .int 0])), (qa_1, .inl (cI, 1764, .inl (fun _ => 0))), (qa_2, .inl (cJ, 1764, .inr (.inl (fun _ => 0)))), (qa_3, .inl (cI, 42, .inl (fun _ => 0))), (qa_4, .inl (cI, 61, .inl (fun _ => 0)))] H := hP
  have hD : va_D A [(f0, .inr (2, [.null, .ref qa_1, .ref qa_2, .ref qa_3, .null, .int 0, .int 0, .int 0])), (qa_1, .inl (cI, 1764, .inl (fun _ => 0))), (qa_2, .inl (cJ, 1764, .inr (.inl (fun _ => 0)))), (qa_3, .inl (cI, 42, .inl (fun _ => 0))), (qa_4, .inl (cI, 61, .inl (fun _ => 0)))] := hD
  refine W.widen (k := 4) (n := 3631) (by omega) (by omega) ?_
  refine va_putF (D := D) (ci := 2) (v := .ref qa_4) (ty := (.array .int)) (C := R_FD) (T := T_FD) (N := 8) hx hb hw in_FD ty_FD ty_FD_ok nm_FD_ok hown hE.1 hP hD hS 0 rfl rfl 4 (by decide) (hw _ kw_99) (fun _ h9 => h9) rfl hin rfl (by decide +kernel) rfl rfl (Nat.le_of_ble_eq_true rfl) d_FD_init_35 (fun H locs hP hD hS => ?_)
  have hP : va_P D vwCl [(f0, .inr (2, [.null, .ref qa_1, .ref qa_2, .ref qa_3, .ref qa_4, .int 0, .int 0, .int 0])), (qa_1, .inl (cI, 1764, .inl (fun _ => 0))), (qa_2, .inl (cJ, 1764, .inr (.inl (fun _ => 0)))), (qa_3, .inl (cI, 42, .inl (fun _ => 0))), (qa_4, .inl (cI, 61, .inl (fun _ => 0)))] H := hP
  have hD : va_D A [(f0, .inr (2, [.null, .ref qa_1, .ref qa_2, .ref qa_3, .ref qa_4, .int 0, .int 0, .int 0])), (qa_1, .inl (cI, 1764, .inl (fun _ => 0))), (qa_2, .inl (cJ, 1764, .inr (.inl (fun _ => 0)))), (qa_3, .inl (cI, 42, .inl (fun _ => 0))), (qa_4, .inl (cI, 61, .inl (fun _ => 0)))] := hD
  refine lv_aload_n hx hb d_FD_init_38 rfl (lv_at hl 0 rfl) ?_
  refine lv_iconst (v := nI 0) hx hb d_FD_init_39 (by decide +kernel) ?_
  refine va_put (D := D) (ci := 2) (v := .int (nI 0)) (ty := .int) (C := R_FD) (T := T_FD) (N := 8) hx hb hw in_FD ty_FD ty_FD_ok nm_FD_ok hown hE.1 hP hD hS 0 rfl rfl 5 (by decide) (hw _ kw_100) (fun _ h9 => h9) rfl (by decide +kernel) rfl rfl (Nat.le_of_ble_eq_true rfl) d_FD_init_40 (fun H locs hP hD hS => ?_)
  have hP : va_P D vwCl [(f0, .inr (2, [.null, .ref qa_1, .ref qa_2, .ref qa_3, .ref qa_4, .int (nI 0), .int 0, .int 0])), (qa_1, .inl (cI, 1764, .inl (fun _ => 0))), (qa_2, .inl (cJ, 1764, .inr (.inl (fun _ => 0)))), (qa_3, .inl (cI, 42, .inl (fun _ => 0))), (qa_4, .inl (cI, 61, .inl (fun _ => 0)))] H := hP
  have hD : va_D A [(f0, .inr (2, [.null, .ref qa_1, .ref qa_2, .ref qa_3, .ref qa_4, .int (nI 0), .int 0, .int 0])), (qa_1, .inl (cI, 1764, .inl (fun _ => 0))), (qa_2, .inl (cJ, 1764, .inr (.inl (fun _ => 0)))), (qa_3, .inl (cI, 42, .inl (fun _ => 0))), (qa_4, .inl (cI, 61, .inl (fun _ => 0)))] := hD
  refine lv_aload_n hx hb d_FD_init_43 rfl (lv_at hl 0 rfl) ?_
  refine lv_iconst (v := nI 0) hx hb d_FD_init_44 (by decide +kernel) ?_
  refine va_put (D := D) (ci := 2) (v := .int (nI 0)) (ty := .int) (C := R_FD) (T := T_FD) (N := 8) hx hb hw in_FD ty_FD ty_FD_ok nm_FD_ok hown hE.1 hP hD hS 0 rfl rfl 6 (by decide) (hw _ kw_101) (fun _ h9 => h9) rfl (by decide +kernel) rfl rfl (Nat.le_of_ble_eq_true rfl) d_FD_init_45 (fun H locs hP hD hS => ?_)
  have hP : va_P D vwCl [(f0, .inr (2, [.null, .ref qa_1, .ref qa_2, .ref qa_3, .ref qa_4, .int (nI 0), .int (nI 0), .int 0])), (qa_1, .inl (cI, 1764, .inl (fun _ => 0))), (qa_2, .inl (cJ, 1764, .inr (.inl (fun _ => 0)))), (qa_3, .inl (cI, 42, .inl (fun _ => 0))), (qa_4, .inl (cI, 61, .inl (fun _ => 0)))] H := hP
  have hD : va_D A [(f0, .inr (2, [.null, .ref qa_1, .ref qa_2, .ref qa_3, .ref qa_4, .int (nI 0), .int (nI 0), .int 0])), (qa_1, .inl (cI, 1764, .inl (fun _ => 0))), (qa_2, .inl (cJ, 1764, .inr (.inl (fun _ => 0)))), (qa_3, .inl (cI, 42, .inl (fun _ => 0))), (qa_4, .inl (cI, 61, .inl (fun _ => 0)))] := hD
  refine lv_aload_n hx hb d_FD_init_48 rfl (lv_at hl 0 rfl) ?_
  refine lv_iconst (v := nI 0) hx hb d_FD_init_49 (by decide +kernel) ?_
  refine va_put (D := D) (ci := 2) (v := .int (nI 0)) (ty := .boolean) (C := R_FD) (T := T_FD) (N := 8) hx hb hw in_FD ty_FD ty_FD_ok nm_FD_ok hown hE.1 hP hD hS 0 rfl rfl 7 (by decide) (hw _ kw_102) (fun _ h9 => h9) rfl (by decide +kernel) (by decide +kernel) (by decide +kernel) (Nat.le_of_ble_eq_true rfl) d_FD_init_50 (fun H locs hP hD hS => ?_)
  have hP : va_P D vwCl [(f0, .inr (2, [.null, .ref qa_1, .ref qa_2, .ref qa_3, .ref qa_4, .int (nI 0), .int (nI 0), .int (nI 0)])), (qa_1, .inl (cI, 1764, .inl (fun _ => 0))), (qa_2, .inl (cJ, 1764, .inr (.inl (fun _ => 0)))), (qa_3, .inl (cI, 42, .inl (fun _ => 0))), (qa_4, .inl (cI, 61, .inl (fun _ => 0)))] H := hP
  have hD : va_D A [(f0, .inr (2, [.null, .ref qa_1, .ref qa_2, .ref qa_3, .ref qa_4, .int (nI 0), .int (nI 0), .int (nI 0)])), (qa_1, .inl (cI, 1764, .inl (fun _ => 0))), (qa_2, .inl (cJ, 1764, .inr (.inl (fun _ => 0)))), (qa_3, .inl (cI, 42, .inl (fun _ => 0))), (qa_4, .inl (cI, 61, .inl (fun _ => 0)))] := hD
  refine lv_aload_n hx hb d_FD_init_53 rfl (lv_at hl 0 rfl) ?_
  refine lv_aload_n hx hb d_FD_init_54 rfl (lv_at hl 1 rfl) ?_
  refine va_putF (D := D) (ci := 2) (v := .ref o1) (ty := (.object "TileBench$TileSet")) (C := R_FD) (T := T_FD) (N := 8) hx hb hw in_FD ty_FD ty_FD_ok nm_FD_ok hown hE.1 hP hD hS 0 rfl rfl 0 (by decide) (hw _ kw_95) (fun _ h9 => h9) rfl hin rfl (by decide +kernel) rfl rfl (Nat.le_of_ble_eq_true rfl) d_FD_init_55 (fun H locs hP hD hS => ?_)
  have hP : va_P D vwCl [(f0, .inr (2, [.ref o1, .ref qa_1, .ref qa_2, .ref qa_3, .ref qa_4, .int (nI 0), .int (nI 0), .int (nI 0)])), (qa_1, .inl (cI, 1764, .inl (fun _ => 0))), (qa_2, .inl (cJ, 1764, .inr (.inl (fun _ => 0)))), (qa_3, .inl (cI, 42, .inl (fun _ => 0))), (qa_4, .inl (cI, 61, .inl (fun _ => 0)))] H := hP
  have hD : va_D A [(f0, .inr (2, [.ref o1, .ref qa_1, .ref qa_2, .ref qa_3, .ref qa_4, .int (nI 0), .int (nI 0), .int (nI 0)])), (qa_1, .inl (cI, 1764, .inl (fun _ => 0))), (qa_2, .inl (cJ, 1764, .inr (.inl (fun _ => 0)))), (qa_3, .inl (cI, 42, .inl (fun _ => 0))), (qa_4, .inl (cI, 61, .inl (fun _ => 0)))] := hD
  refine lv_iconst (v := nI 0) hx hb d_FD_init_58 (by decide +kernel) ?_
  refine lv_istore_n (lv' := [(2, .int (nI 0)), (0, .ref f0), (1, .ref o1)]) hx hb d_FD_init_59 rfl hl (by decide) rfl (fun ls hl => ?_)
  have hP : va_P D vwCl [(f0, .inr (2, [.ref o1, .ref qa_1, .ref qa_2, .ref qa_3, .ref qa_4, .int (nI 0), .int (nI 0), .int (nI 0)])), (qa_1, .inl (cI, 1764, .inl (wlC 0))), (qa_2, .inl (cJ, 1764, .inr (.inl (fun _ => 0)))), (qa_3, .inl (cI, 42, .inl (fun _ => 0))), (qa_4, .inl (cI, 61, .inl (fun _ => 0)))] H := hP
  have hD : va_D A [(f0, .inr (2, [.ref o1, .ref qa_1, .ref qa_2, .ref qa_3, .ref qa_4, .int (nI 0), .int (nI 0), .int (nI 0)])), (qa_1, .inl (cI, 1764, .inl (wlC 0))), (qa_2, .inl (cJ, 1764, .inr (.inl (fun _ => 0)))), (qa_3, .inl (cI, 42, .inl (fun _ => 0))), (qa_4, .inl (cI, 61, .inl (fun _ => 0)))] := hD
  refine lp_k_FD_init_60 f0 o1 qa_1 qa_2 qa_3 qa_4 hx hb hml hown hw hE hX hA (fun H locs ls hP hD hS hl => ?_) ((42 - 0) + 1) 0 (Nat.lt_succ_self _) (Nat.zero_le _) _ _ _ (hP.sub [0, 1, 2, 3, 4] rfl) (hD.sub [0, 1, 2, 3, 4] (by decide) rfl) hS (lv_sub hl [1, 0] rfl)
  have hP9 := hP.sub (ws' := [(f0, .inr (2, [.ref o1, .ref qa_1, .ref qa_2, .ref qa_3, .ref qa_4, .int (nI 0), .int (nI 0), .int (nI 0)])), (qa_1, .inl (cI, 1764, .inl (wlC 42))), (qa_2, .inl (cJ, 1764, .inr (.inl (fun _ => 0)))), (qa_3, .inl (cI, 42, .inl (fun _ => 0))), (qa_4, .inl (cI, 61, .inl (fun _ => 0)))]) [0, 1, 2, 3, 4] rfl
  have hD9 := hD.sub (ws' := [(f0, .inr (2, [.ref o1, .ref qa_1, .ref qa_2, .ref qa_3, .ref qa_4, .int (nI 0), .int (nI 0), .int (nI 0)])), (qa_1, .inl (cI, 1764, .inl (wlC 42))), (qa_2, .inl (cJ, 1764, .inr (.inl (fun _ => 0)))), (qa_3, .inl (cI, 42, .inl (fun _ => 0))), (qa_4, .inl (cI, 61, .inl (fun _ => 0)))]) [0, 1, 2, 3, 4] (by decide) rfl
  exact W.vret hx hb hr (fun t9 ht hW => ⟨⟨(qa_1, qa_2, qa_3, qa_4), rfl, trivial, ⟨by rw [ht]; exact hP9, hD9⟩⟩, hS.F ht⟩) hS.2.2 d_FD_init_123
set_option maxHeartbeats 4000000 in
set_option maxRecDepth 100000 in
/-- Outcomes(field) -/
theorem k_OC_init (l : Launch) (D : va_G) (cI cJ : ClassId) (c0 : Nat) (f0 : Nat) (sz : Nat)  : Met l y_OC_init ws_OC_init ({ frames := 1, cells := 5, slots := 2512, locals := 16 } : Room) (va_Pc [.ref c0, .ref f0] (Pw D cI cJ [(c0, .inr (3, [.null, .null, .null, .null, .null, .null, .int 0, .int 0, .int 0]))] sz)) (va_Qv (fun (u9 : Nat × Nat × Nat × Nat × Nat) => True) (fun u9 t9 => Bw D (va_A [(c0, .inr (3, [.null, .null, .null, .null, .null, .null, .int 0, .int 0, .int 0]))] sz) [(c0, .inr (3, [.ref f0, .ref u9.1, .ref u9.2.1, .ref u9.2.2.1, .ref u9.2.2.2.1, .ref u9.2.2.2.2, .int (nI 0), .int (nI 0), .int (nI 0)])), (u9.1, .inl (cI, 500, .inl (fun _ => 0))), (u9.2.1, .inl (cI, 500, .inl (fun _ => 0))), (u9.2.2.1, .inl (cI, 500, .inl (fun _ => 0))), (u9.2.2.2.1, .inl (cI, 500, .inl (fun _ => 0))), (u9.2.2.2.2, .inl (cI, 512, .inl (fun _ => 0)))] t9) (va_A [(c0, .inr (3, [.null, .null, .null, .null, .null, .null, .int 0, .int 0, .int 0]))] sz)) 5 2512 (va_A [(c0, .inr (3, [.null, .null, .null, .null, .null, .null, .int 0, .int 0, .int 0]))] sz) := by
  refine Met.ofW (cc := c_OC_init) (maxL := 2) (ret := none) (by decide) rfl ?_
  intro p e s m args below meth c s₁ B hml hv
  obtain ⟨rfl, hsz, hE, hP, hD0, hX⟩ := hv
  have hx := B.exec
  have hb := B.bytes
  have hr := B.returns
  have hw : ∀ w ∈ gw, w.before _ s = true := fun w h => atoms_spec (ws := ws_OC_init) B.pre w (List.mem_cons_of_mem _ h)
  have hown : s.vm.findClass R_OC = some m.cls := findClass_of_methodNamed B.named
  have hlocks := B.notSynchronized
  have hin : meth.name = "<init>" := (name_of_methodNamed B.named B.method).1
  subst hsz
  have hD := hD0.self (sz := s.heap.size)
  generalize hAe : va_A [(c0, .inr (3, [.null, .null, .null, .null, .null, .null, .int 0, .int 0, .int 0]))] s.heap.size = A at hD hX ⊢
  have hA : ∀ q : Nat, s.heap.size ≤ q → A q := fun q h => by rw [← hAe]; exact Or.inr h
  have hS : va_S A s.heap s.heap [] := va_S.rf
  have hP : va_P D vwCl [(c0, .inr (3, [.null, .null, .null, .null, .null, .null, .int 0, .int 0, .int 0]))] s.heap := hP
  have hl := lv_entry ([.ref c0, .ref f0]) (n := 2) (Nat.le_of_ble_eq_true rfl)
  rw [lg_entry_eq]
  generalize (lg_sl ([.ref c0, .ref f0]) ++ List.replicate (2 - (lg_sl ([.ref c0, .ref f0])).length) Slot.unset).toArray = ls at hl ⊢
  have hl : lv_has ls 2 [(0, .ref c0), (1, .ref f0)] := hl
  refine lv_aload_n hx hb d_OC_init_0 rfl (lv_at hl 0 rfl) ?_
  refine W.objInit hx hb hown (hw _ kw_125) (hw _ kw_63) (hw _ kw_64) rfl (by rw [hml]; exact hl.1) rfl d_OC_init_1 (Nat.le_of_ble_eq_true rfl) (Nat.le_of_ble_eq_true rfl) ?_
  refine W.eq (g2 := F0 m 4 ls []) rfl ?_
  refine lv_aload_n hx hb d_OC_init_4 rfl (lv_at hl 0 rfl) ?_
  refine lv_sipush (v := nI 500) hx hb d_OC_init_5 (by decide +kernel) ?_
  refine nw_I (N := 500) hx hb (hw _ kw_87) hE.1 hP hD hS hA (by decide +kernel) (by decide +kernel) (by decide) (Nat.le_of_ble_eq_true rfl) (Nat.le_of_ble_eq_true rfl) d_OC_init_8 (fun qa_1 H hP hD hS => ?_)
  have hP : va_P D vwCl [(c0, .inr (3, [.null, .null, .null, .null, .null, .null, .int 0, .int 0, .int 0])), (qa_1, .inl (cI, 500, .inl (fun _ => 0)))] H := hP
  have hD : va_D A [(c0, .inr (3, [.null, .null, .null, .null, .null, .null, .int 0, .int 0, .int 0])), (qa_1, .inl (cI, 500, .inl (fun _ => 0)))] := hD
  refine W.widen (k := 1) (n := 500) (by omega) (by omega) ?_
  refine va_putF (D := D) (ci := 3) (v := .ref qa_1) (ty := (.array .int)) (C := R_OC) (T := T_OC) (N := 9) hx hb hw in_OC ty_OC ty_OC_ok nm_OC_ok hown hE.1 hP hD hS 0 rfl rfl 1 (by decide) (hw _ kw_127) (fun _ h9 => h9) rfl hin rfl (by decide +kernel) rfl rfl (Nat.le_of_ble_eq_true rfl) d_OC_init_10 (fun H locs hP hD hS => ?_)
  have hP : va_P D vwCl [(c0, .inr (3, [.null, .ref qa_1, .null, .null, .null, .null, .int 0, .int 0, .int 0])), (qa_1, .inl (cI, 500, .inl (fun _ => 0)))] H := hP
  have hD : va_D A [(c0, .inr (3, [.null, .ref qa_1, .null, .null, .null, .null, .int 0, .int 0, .int 0])), (qa_1, .inl (cI, 500, .inl (fun _ => 0)))] := hD
  refine lv_aload_n hx hb d_OC_init_13 rfl (lv_at hl 0 rfl) ?_
  refine lv_sipush (v := nI 500) hx hb d_OC_init_14 (by decide +kernel) ?_
  refine nw_I (N := 500) hx hb (hw _ kw_87) hE.1 hP hD hS hA (by decide +kernel) (by decide +kernel) (by decide) (Nat.le_of_ble_eq_true rfl) (Nat.le_of_ble_eq_true rfl) d_OC_init_17 (fun qa_2 H hP hD hS => ?_)
  have hP : va_P D vwCl [(c0, .inr (3, [.null, .ref qa_1, .null, .null, .null, .null, .int 0, .int 0, .int 0])), (qa_1, .inl (cI, 500, .inl (fun _ => 0))), (qa_2, .inl (cI, 500, .inl (fun _ => 0)))] H := hP
  have hD : va_D A [(c0, .inr (3, [.null, .ref qa_1, .null, .null, .null, .null, .int 0, .int 0, .int 0])), (qa_1, .inl (cI, 500, .inl (fun _ => 0))), (qa_2, .inl (cI, 500, .inl (fun _ => 0)))] := hD
  refine W.widen (k := 2) (n := 1000) (by omega) (by omega) ?_
  refine va_putF (D := D) (ci := 3) (v := .ref qa_2) (ty := (.array .int)) (C := R_OC) (T := T_OC) (N := 9) hx hb hw in_OC ty_OC ty_OC_ok nm_OC_ok hown hE.1 hP hD hS 0 rfl rfl 2 (by decide) (hw _ kw_128) (fun _ h9 => h9) rfl hin rfl (by decide +kernel) rfl rfl (Nat.le_of_ble_eq_true rfl) d_OC_init_19 (fun H locs hP hD hS => ?_)
  have hP : va_P D vwCl [(c0, .inr (3, [.null, .ref qa_1, .ref qa_2, .null, .null, .null, .int 0, .int 0, .int 0])), (qa_1, .inl (cI, 500, .inl (fun _ => 0))), (qa_2, .inl (cI, 500, .inl (fun _ => 0)))] H := hP
  have hD : va_D A [(c0, .inr (3, [.null, .ref qa_1, .ref qa_2, .null, .null, .null, .int 0, .int 0, .int 0])), (qa_1, .inl (cI, 500, .inl (fun _ => 0))), (qa_2, .inl (cI, 500, .inl (fun _ => 0)))] := hD
  refine lv_aload_n hx hb d_OC_init_22 rfl (lv_at hl 0 rfl) ?_
  refine lv_sipush (v := nI 500) hx hb d_OC_init_23 (by decide +kernel) ?_
  refine nw_I (N := 500) hx hb (hw _ kw_87) hE.1 hP hD hS hA (by decide +kernel) (by decide +kernel) (by decide) (Nat.le_of_ble_eq_true rfl) (Nat.le_of_ble_eq_true rfl) d_OC_init_26 (fun qa_3 H hP hD hS => ?_)
  have hP : va_P D vwCl [(c0, .inr (3, [.null, .ref qa_1, .ref qa_2, .null, .null, .null, .int 0, .int 0, .int 0])), (qa_1, .inl (cI, 500, .inl (fun _ => 0))), (qa_2, .inl (cI, 500, .inl (fun _ => 0))), (qa_3, .inl (cI, 500, .inl (fun _ => 0)))] H := hP
  have hD : va_D A [(c0, .inr (3, [.null, .ref qa_1, .ref qa_2, .null, .null, .null, .int 0, .int 0, .int 0])), (qa_1, .inl (cI, 500, .inl (fun _ => 0))), (qa_2, .inl (cI, 500, .inl (fun _ => 0))), (qa_3, .inl (cI, 500, .inl (fun _ => 0)))] := hD
  refine W.widen (k := 3) (n := 1500) (by omega) (by omega) ?_
  refine va_putF (D := D) (ci := 3) (v := .ref qa_3) (ty := (.array .int)) (C := R_OC) (T := T_OC) (N := 9) hx hb hw in_OC ty_OC ty_OC_ok nm_OC_ok hown hE.1 hP hD hS 0 rfl rfl 3 (by decide) (hw _ kw_129) (fun _ h9 => h9) rfl hin rfl (by decide +kernel) rfl rfl (Nat.le_of_ble_eq_true rfl) d_OC_init_28 (fun H locs hP hD hS => ?_)
  have hP : va_P D vwCl [(c0, .inr (3, [.null, .ref qa_1, .ref qa_2, .ref qa_3, .null, .null, .int 0, .int 0, .int 0])), (qa_1, .inl (cI, 500, .inl (fun _ => 0))), (qa_2, .inl (cI, 500, .inl (fun _ => 0))), (qa_3, .inl (cI, 500, .inl (fun _ => 0)))] H := hP
  have hD : va_D A [(c0, .inr (3, [.null, .ref qa_1, .ref qa_2, .ref qa_3, .null, .null, .int 0, .int 0, .int 0])), (qa_1, .inl (cI, 500, .inl (fun _ => 0))), (qa_2, .inl (cI, 500, .inl (fun _ => 0))), (qa_3, .inl (cI, 500, .inl (fun _ => 0)))] := hD
  refine lv_aload_n hx hb d_OC_init_31 rfl (lv_at hl 0 rfl) ?_
  refine lv_sipush (v := nI 500) hx hb d_OC_init_32 (by decide +kernel) ?_
  refine nw_I (N := 500) hx hb (hw _ kw_87) hE.1 hP hD hS hA (by decide +kernel) (by decide +kernel) (by decide) (Nat.le_of_ble_eq_true rfl) (Nat.le_of_ble_eq_true rfl) d_OC_init_35 (fun qa_4 H hP hD hS => ?_)
  have hP : va_P D vwCl [(c0, .inr (3, [.null, .ref qa_1, .ref qa_2, .ref qa_3, .null, .null, .int 0, .int 0, .int 0])), (qa_1, .inl (cI, 500, .inl (fun _ => 0))), (qa_2, .inl (cI, 500, .inl (fun _ => 0))), (qa_3, .inl (cI, 500, .inl (fun _ => 0))), (qa_4, .inl (cI, 500, .inl (fun _ => 0)))] H := hP
  have hD : va_D A [(c0, .inr (3, [.null, .ref qa_1, .ref qa_2, .ref qa_3, .null, .null, .int 0, .int 0, .int 0])), (qa_1, .inl (cI, 500, .inl (fun _ => 0))), (qa_2, .inl (cI, 500, .inl (fun _ => 0))), (qa_3, .inl (cI, 500, .inl (fun _ => 0))), (qa_4, .inl (cI, 500, .inl (fun _ => 0)))] := hD
  refine W.widen (k := 4) (n := 2000) (by omega) (by omega) ?_
  refine va_putF (D := D) (ci := 3) (v := .ref qa_4) (ty := (.array .int)) (C := R_OC) (T := T_OC) (N := 9) hx hb hw in_OC ty_OC ty_OC_ok nm_OC_ok hown hE.1 hP hD hS 0 rfl rfl 4 (by decide) (hw _ kw_130) (fun _ h9 => h9) rfl hin rfl (by decide +kernel) rfl rfl (Nat.le_of_ble_eq_true rfl) d_OC_init_37 (fun H locs hP hD hS => ?_)
  have hP : va_P D vwCl [(c0, .inr (3, [.null, .ref qa_1, .ref qa_2, .ref qa_3, .ref qa_4, .null, .int 0, .int 0, .int 0])), (qa_1, .inl (cI, 500, .inl (fun _ => 0))), (qa_2, .inl (cI, 500, .inl (fun _ => 0))), (qa_3, .inl (cI, 500, .inl (fun _ => 0))), (qa_4, .inl (cI, 500, .inl (fun _ => 0)))] H := hP
  have hD : va_D A [(c0, .inr (3, [.null, .ref qa_1, .ref qa_2, .ref qa_3, .ref qa_4, .null, .int 0, .int 0, .int 0])), (qa_1, .inl (cI, 500, .inl (fun _ => 0))), (qa_2, .inl (cI, 500, .inl (fun _ => 0))), (qa_3, .inl (cI, 500, .inl (fun _ => 0))), (qa_4, .inl (cI, 500, .inl (fun _ => 0)))] := hD
  refine lv_aload_n hx hb d_OC_init_40 rfl (lv_at hl 0 rfl) ?_
  refine lv_sipush (v := nI 512) hx hb d_OC_init_41 (by decide +kernel) ?_
  refine nw_I (N := 512) hx hb (hw _ kw_87) hE.1 hP hD hS hA (by decide +kernel) (by decide +kernel) (by decide) (Nat.le_of_ble_eq_true rfl) (Nat.le_of_ble_eq_true rfl) d_OC_init_44 (fun qa_5 H hP hD hS => ?_)
  have hP : va_P D vwCl [(c0, .inr (3, [.null, .ref qa_1, .ref qa_2, .ref qa_3, .ref qa_4, .null, .int 0, .int 0, .int 0])), (qa_1, .inl (cI, 500, .inl (fun _ => 0))), (qa_2, .inl (cI, 500, .inl (fun _ => 0))), (qa_3, .inl (cI, 500, .inl (fun _ => 0))), (qa_4, .inl (cI, 500, .inl (fun _ => 0))), (qa_5, .inl (cI, 512, .inl (fun _ => 0)))] H := hP
  have hD : va_D A [(c0, .inr (3, [.null, .ref qa_1, .ref qa_2, .ref qa_3, .ref qa_4, .null, .int 0, .int 0, .int 0])), (qa_1, .inl (cI, 500, .inl (fun _ => 0))), (qa_2, .inl (cI, 500, .inl (fun _ => 0))), (qa_3, .inl (cI, 500, .inl (fun _ => 0))), (qa_4, .inl (cI, 500, .inl (fun _ => 0))), (qa_5, .inl (cI, 512, .inl (fun _ => 0)))] := hD
  refine W.widen (k := 5) (n := 2512) (by omega) (by omega) ?_
  refine va_putF (D := D) (ci := 3) (v := .ref qa_5) (ty := (.array .int)) (C := R_OC) (T := T_OC) (N := 9) hx hb hw in_OC ty_OC ty_OC_ok nm_OC_ok hown hE.1 hP hD hS 0 rfl rfl 5 (by decide) (hw _ kw_131) (fun _ h9 => h9) rfl hin rfl (by decide +kernel) rfl rfl (Nat.le_of_ble_eq_true rfl) d_OC_init_46 (fun H locs hP hD hS => ?_)
  have hP : va_P D vwCl [(c0, .inr (3, [.null, .ref qa_1, .ref qa_2, .ref qa_3, .ref qa_4, .ref qa_5, .int 0, .int 0, .int 0])), (qa_1, .inl (cI, 500, .inl (fun _ => 0))), (qa_2, .inl (cI, 500, .inl (fun _ => 0))), (qa_3, .inl (cI, 500, .inl (fun _ => 0))), (qa_4, .inl (cI, 500, .inl (fun _ => 0))), (qa_5, .inl (cI, 512, .inl (fun _ => 0)))] H := hP
  have hD : va_D A [(c0, .inr (3, [.null, .ref qa_1, .ref qa_2, .ref qa_3, .ref qa_4, .ref qa_5, .int 0, .int 0, .int 0])), (qa_1, .inl (cI, 500, .inl (fun _ => 0))), (qa_2, .inl (cI, 500, .inl (fun _ => 0))), (qa_3, .inl (cI, 500, .inl (fun _ => 0))), (qa_4, .inl (cI, 500, .inl (fun _ => 0))), (qa_5, .inl (cI, 512, .inl (fun _ => 0)))] := hD
  refine lv_aload_n hx hb d_OC_init_49 rfl (lv_at hl 0 rfl) ?_
  refine lv_iconst (v := nI 0) hx hb d_OC_init_50 (by decide +kernel) ?_
  refine va_put (D := D) (ci := 3) (v := .int (nI 0)) (ty := .int) (C := R_OC) (T := T_OC) (N := 9) hx hb hw in_OC ty_OC ty_OC_ok nm_OC_ok hown hE.1 hP hD hS 0 rfl rfl 6 (by decide) (hw _ kw_132) (fun _ h9 => h9) rfl (by decide +kernel) rfl rfl (Nat.le_of_ble_eq_true rfl) d_OC_init_51 (fun H locs hP hD hS => ?_)
  have hP : va_P D vwCl [(c0, .inr (3, [.null, .ref qa_1, .ref qa_2, .ref qa_3, .ref qa_4, .ref qa_5, .int (nI 0), .int 0, .int 0])), (qa_1, .inl (cI, 500, .inl (fun _ => 0))), (qa_2, .inl (cI, 500, .inl (fun _ => 0))), (qa_3, .inl (cI, 500, .inl (fun _ => 0))), (qa_4, .inl (cI, 500, .inl (fun _ => 0))), (qa_5, .inl (cI, 512, .inl (fun _ => 0)))] H := hP
  have hD : va_D A [(c0, .inr (3, [.null, .ref qa_1, .ref qa_2, .ref qa_3, .ref qa_4, .ref qa_5, .int (nI 0), .int 0, .int 0])), (qa_1, .inl (cI, 500, .inl (fun _ => 0))), (qa_2, .inl (cI, 500, .inl (fun _ => 0))), (qa_3, .inl (cI, 500, .inl (fun _ => 0))), (qa_4, .inl (cI, 500, .inl (fun _ => 0))), (qa_5, .inl (cI, 512, .inl (fun _ => 0)))] := hD
  refine lv_aload_n hx hb d_OC_init_54 rfl (lv_at hl 0 rfl) ?_
  refine lv_iconst (v := nI 0) hx hb d_OC_init_55 (by decide +kernel) ?_
  refine va_put (D := D) (ci := 3) (v := .int (nI 0)) (ty := .int) (C := R_OC) (T := T_OC) (N := 9) hx hb hw in_OC ty_OC ty_OC_ok nm_OC_ok hown hE.1 hP hD hS 0 rfl rfl 7 (by decide) (hw _ kw_133) (fun _ h9 => h9) rfl (by decide +kernel) rfl rfl (Nat.le_of_ble_eq_true rfl) d_OC_init_56 (fun H locs hP hD hS => ?_)
  have hP : va_P D vwCl [(c0, .inr (3, [.null, .ref qa_1, .ref qa_2, .ref qa_3, .ref qa_4, .ref qa_5, .int (nI 0), .int (nI 0), .int 0])), (qa_1, .inl (cI, 500, .inl (fun _ => 0))), (qa_2, .inl (cI, 500, .inl (fun _ => 0))), (qa_3, .inl (cI, 500, .inl (fun _ => 0))), (qa_4, .inl (cI, 500, .inl (fun _ => 0))), (qa_5, .inl (cI, 512, .inl (fun _ => 0)))] H := hP
  have hD : va_D A [(c0, .inr (3, [.null, .ref qa_1, .ref qa_2, .ref qa_3, .ref qa_4, .ref qa_5, .int (nI 0), .int (nI 0), .int 0])), (qa_1, .inl (cI, 500, .inl (fun _ => 0))), (qa_2, .inl (cI, 500, .inl (fun _ => 0))), (qa_3, .inl (cI, 500, .inl (fun _ => 0))), (qa_4, .inl (cI, 500, .inl (fun _ => 0))), (qa_5, .inl (cI, 512, .inl (fun _ => 0)))] := hD
  refine lv_aload_n hx hb d_OC_init_59 rfl (lv_at hl 0 rfl) ?_
  refine lv_iconst (v := nI 0) hx hb d_OC_init_60 (by decide +kernel) ?_
  refine va_put (D := D) (ci := 3) (v := .int (nI 0)) (ty := .int) (C := R_OC) (T := T_OC) (N := 9) hx hb hw in_OC ty_OC ty_OC_ok nm_OC_ok hown hE.1 hP hD hS 0 rfl rfl 8 (by decide) (hw _ kw_134) (fun _ h9 => h9) rfl (by decide +kernel) rfl rfl (Nat.le_of_ble_eq_true rfl) d_OC_init_61 (fun H locs hP hD hS => ?_)
  have hP : va_P D vwCl [(c0, .inr (3, [.null, .ref qa_1, .ref qa_2, .ref qa_3, .ref qa_4, .ref qa_5, .int (nI 0), .int (nI 0), .int (nI 0)])), (qa_1, .inl (cI, 500, .inl (fun _ => 0))), (qa_2, .inl (cI, 500, .inl (fun _ => 0))), (qa_3, .inl (cI, 500, .inl (fun _ => 0))), (qa_4, .inl (cI, 500, .inl (fun _ => 0))), (qa_5, .inl (cI, 512, .inl (fun _ => 0)))] H := hP
  have hD : va_D A [(c0, .inr (3, [.null, .ref qa_1, .ref qa_2, .ref qa_3, .ref qa_4, .ref qa_5, .int (nI 0), .int (nI 0), .int (nI 0)])), (qa_1, .inl (cI, 500, .inl (fun _ => 0))), (qa_2, .inl (cI, 500, .inl (fun _ => 0))), (qa_3, .inl (cI, 500, .inl (fun _ => 0))), (qa_4, .inl (cI, 500, .inl (fun _ => 0))), (qa_5, .inl (cI, 512, .inl (fun _ => 0)))] := hD
  refine lv_aload_n hx hb d_OC_init_64 rfl (lv_at hl 0 rfl) ?_
  refine lv_aload_n hx hb d_OC_init_65 rfl (lv_at hl 1 rfl) ?_
  refine va_putF (D := D) (ci := 3) (v := .ref f0) (ty := (.object "TileBench$Field")) (C := R_OC) (T := T_OC) (N := 9) hx hb hw in_OC ty_OC ty_OC_ok nm_OC_ok hown hE.1 hP hD hS 0 rfl rfl 0 (by decide) (hw _ kw_126) (fun _ h9 => h9) rfl hin rfl (by decide +kernel) rfl rfl (Nat.le_of_ble_eq_true rfl) d_OC_init_66 (fun H locs hP hD hS => ?_)
  have hP : va_P D vwCl [(c0, .inr (3, [.ref f0, .ref qa_1, .ref qa_2, .ref qa_3, .ref qa_4, .ref qa_5, .int (nI 0), .int (nI 0), .int (nI 0)])), (qa_1, .inl (cI, 500, .inl (fun _ => 0))), (qa_2, .inl (cI, 500, .inl (fun _ => 0))), (qa_3, .inl (cI, 500, .inl (fun _ => 0))), (qa_4, .inl (cI, 500, .inl (fun _ => 0))), (qa_5, .inl (cI, 512, .inl (fun _ => 0)))] H := hP
  have hD : va_D A [(c0, .inr (3, [.ref f0, .ref qa_1, .ref qa_2, .ref qa_3, .ref qa_4, .ref qa_5, .int (nI 0), .int (nI 0), .int (nI 0)])), (qa_1, .inl (cI, 500, .inl (fun _ => 0))), (qa_2, .inl (cI, 500, .inl (fun _ => 0))), (qa_3, .inl (cI, 500, .inl (fun _ => 0))), (qa_4, .inl (cI, 500, .inl (fun _ => 0))), (qa_5, .inl (cI, 512, .inl (fun _ => 0)))] := hD
  have hP9 := hP.sub (ws' := [(c0, .inr (3, [.ref f0, .ref qa_1, .ref qa_2, .ref qa_3, .ref qa_4, .ref qa_5, .int (nI 0), .int (nI 0), .int (nI 0)])), (qa_1, .inl (cI, 500, .inl (fun _ => 0))), (qa_2, .inl (cI, 500, .inl (fun _ => 0))), (qa_3, .inl (cI, 500, .inl (fun _ => 0))), (qa_4, .inl (cI, 500, .inl (fun _ => 0))), (qa_5, .inl (cI, 512, .inl (fun _ => 0)))]) [0, 1, 2, 3, 4, 5] rfl
  have hD9 := hD.sub (ws' := [(c0, .inr (3, [.ref f0, .ref qa_1, .ref qa_2, .ref qa_3, .ref qa_4, .ref qa_5, .int (nI 0), .int (nI 0), .int (nI 0)])), (qa_1, .inl (cI, 500, .inl (fun _ => 0))), (qa_2, .inl (cI, 500, .inl (fun _ => 0))), (qa_3, .inl (cI, 500, .inl (fun _ => 0))), (qa_4, .inl (cI, 500, .inl (fun _ => 0))), (qa_5, .inl (cI, 512, .inl (fun _ => 0)))]) [0, 1, 2, 3, 4, 5] (by decide) rfl
  exact W.vret hx hb hr (fun t9 ht hW => ⟨⟨(qa_1, qa_2, qa_3, qa_4, qa_5), rfl, trivial, ⟨by rw [ht]; exact hP9, hD9⟩⟩, hS.F ht⟩) hS.2.2 d_OC_init_69
set_option maxHeartbeats 4000000 in
set_option maxRecDepth 100000 in
/-- Seams() -/
theorem k_SM_init (l : Launch) (D : va_G) (cI cJ : ClassId) (e0 : Nat) (sz : Nat)  : Met l y_SM_init ws_SM_init ({ frames := 1, cells := 6, slots := 1720, locals := 16 } : Room) (va_Pc [.ref e0] (Pw D cI cJ [(e0, .inr (4, [.null, .null, .null, .null, .null, .null, .int 0]))] sz)) (va_Qv (fun (u9 : Nat × Nat × Nat × Nat × Nat × Nat) => True) (fun u9 t9 => Bw D (va_A [(e0, .inr (4, [.null, .null, .null, .null, .null, .null, .int 0]))] sz) [(e0, .inr (4, [.ref u9.1, .ref u9.2.1, .ref u9.2.2.1, .ref u9.2.2.2.1, .ref u9.2.2.2.2.1, .ref u9.2.2.2.2.2, .int (nI 0)])), (u9.1, .inl (cI, 480, .inl (fun _ => 0))), (u9.2.1, .inl (cI, 480, .inl (fun _ => 0))), (u9.2.2.1, .inl (cI, 480, .inl (fun _ => 0))), (u9.2.2.2.1, .inl (cI, 120, .inl (fun _ => 0))), (u9.2.2.2.2.1, .inl (cI, 120, .inl (fun _ => 0))), (u9.2.2.2.2.2, .inl (cI, 40, .inl (fun _ => 0)))] t9) (va_A [(e0, .inr (4, [.null, .null, .null, .null, .null, .null, .int 0]))] sz)) 6 1720 (va_A [(e0, .inr (4, [.null, .null, .null, .null, .null, .null, .int 0]))] sz) := by
  refine Met.ofW (cc := c_SM_init) (maxL := 1) (ret := none) (by decide) rfl ?_
  intro p e s m args below meth c s₁ B hml hv
  obtain ⟨rfl, hsz, hE, hP, hD0, hX⟩ := hv
  have hx := B.exec
  have hb := B.bytes
  have hr := B.returns
  have hw : ∀ w ∈ gw, w.before _ s = true := fun w h => atoms_spec (ws := ws_SM_init) B.pre w (List.mem_cons_of_mem _ h)
  have hown : s.vm.findClass R_SM = some m.cls := findClass_of_methodNamed B.named
  have hlocks := B.notSynchronized
  have hin : meth.name = "<init>" := (name_of_methodNamed B.named B.method).1
  subst hsz
  have hD := hD0.self (sz := s.heap.size)
  generalize hAe : va_A [(e0, .inr (4, [.null, .null, .null, .null, .null, .null, .int 0]))] s.heap.size = A at hD hX ⊢
  have hA : ∀ q : Nat, s.heap.size ≤ q → A q := fun q h => by rw [← hAe]; exact Or.inr h
  have hS : va_S A s.heap s.heap [] := va_S.rf
  have hP : va_P D vwCl [(e0, .inr (4, [.null, .null, .null, .null, .null, .null, .int 0]))] s.heap := hP
  have hl := lv_entry ([.ref e0]) (n := 1) (Nat.le_of_ble_eq_true rfl)
  rw [lg_entry_eq]
  generalize (lg_sl ([.ref e0]) ++ List.replicate (1 - (lg_sl ([.ref e0])).length) Slot.unset).toArray = ls at hl ⊢
  have hl : lv_has ls 1 [(0, .ref e0)] := hl
  refine lv_aload_n hx hb d_SM_init_0 rfl (lv_at hl 0 rfl) ?_
  refine W.objInit hx hb hown (hw _ kw_159) (hw _ kw_63) (hw _ kw_64) rfl (by rw [hml]; exact hl.1) rfl d_SM_init_1 (Nat.le_of_ble_eq_true rfl) (Nat.le_of_ble_eq_true rfl) ?_
  refine W.eq (g2 := F0 m 4 ls []) rfl ?_
  refine lv_aload_n hx hb d_SM_init_4 rfl (lv_at hl 0 rfl) ?_
  refine lv_sipush (v := nI 480) hx hb d_SM_init_5 (by decide +kernel) ?_
  refine nw_I (N := 480) hx hb (hw _ kw_87) hE.1 hP hD hS hA (by decide +kernel) (by decide +kernel) (by decide) (Nat.le_of_ble_eq_true rfl) (Nat.le_of_ble_eq_true rfl) d_SM_init_8 (fun qa_1 H hP hD hS => ?_)
  have hP : va_P D vwCl [(e0, .inr (4, [.null, .null, .null, .null, .null, .null, .int 0])), (qa_1, .inl (cI, 480, .inl (fun _ => 0)))] H := hP
  have hD : va_D A [(e0, .inr (4, [.null, .null, .null, .null, .null, .null, .int 0])), (qa_1, .inl (cI, 480, .inl (fun _ => 0)))] := hD
  refine W.widen (k := 1) (n := 480) (by omega) (by omega) ?_
  refine va_putF (D := D) (ci := 4) (v := .ref qa_1) (ty := (.array .int)) (C := R_SM) (T := T_SM) (N := 7) hx hb hw in_SM ty_SM ty_SM_ok nm_SM_ok hown hE.1 hP hD hS 0 rfl rfl 0 (by decide) (hw _ kw_160) (fun _ h9 => h9) rfl hin rfl (by decide +kernel) rfl rfl (Nat.le_of_ble_eq_true rfl) d_SM_init_10 (fun H locs hP hD hS => ?_)
  have hP : va_P D vwCl [(e0, .inr (4, [.ref qa_1, .null, .null, .null, .null, .null, .int 0])), (qa_1, .inl (cI, 480, .inl (fun _ => 0)))] H := hP
  have hD : va_D A [(e0, .inr (4, [.ref qa_1, .null, .null, .null, .null, .null, .int 0])), (qa_1, .inl (cI, 480, .inl (fun _ => 0)))] := hD
  refine lv_aload_n hx hb d_SM_init_13 rfl (lv_at hl 0 rfl) ?_
  refine lv_sipush (v := nI 480) hx hb d_SM_init_14 (by decide +kernel) ?_
  refine nw_I (N := 480) hx hb (hw _ kw_87) hE.1 hP hD hS hA (by decide +kernel) (by decide +kernel) (by decide) (Nat.le_of_ble_eq_true rfl) (Nat.le_of_ble_eq_true rfl) d_SM_init_17 (fun qa_2 H hP hD hS => ?_)
  have hP : va_P D vwCl [(e0, .inr (4, [.ref qa_1, .null, .null, .null, .null, .null, .int 0])), (qa_1, .inl (cI, 480, .inl (fun _ => 0))), (qa_2, .inl (cI, 480, .inl (fun _ => 0)))] H := hP
  have hD : va_D A [(e0, .inr (4, [.ref qa_1, .null, .null, .null, .null, .null, .int 0])), (qa_1, .inl (cI, 480, .inl (fun _ => 0))), (qa_2, .inl (cI, 480, .inl (fun _ => 0)))] := hD
  refine W.widen (k := 2) (n := 960) (by omega) (by omega) ?_
  refine va_putF (D := D) (ci := 4) (v := .ref qa_2) (ty := (.array .int)) (C := R_SM) (T := T_SM) (N := 7) hx hb hw in_SM ty_SM ty_SM_ok nm_SM_ok hown hE.1 hP hD hS 0 rfl rfl 1 (by decide) (hw _ kw_161) (fun _ h9 => h9) rfl hin rfl (by decide +kernel) rfl rfl (Nat.le_of_ble_eq_true rfl) d_SM_init_19 (fun H locs hP hD hS => ?_)
  have hP : va_P D vwCl [(e0, .inr (4, [.ref qa_1, .ref qa_2, .null, .null, .null, .null, .int 0])), (qa_1, .inl (cI, 480, .inl (fun _ => 0))), (qa_2, .inl (cI, 480, .inl (fun _ => 0)))] H := hP
  have hD : va_D A [(e0, .inr (4, [.ref qa_1, .ref qa_2, .null, .null, .null, .null, .int 0])), (qa_1, .inl (cI, 480, .inl (fun _ => 0))), (qa_2, .inl (cI, 480, .inl (fun _ => 0)))] := hD
  refine lv_aload_n hx hb d_SM_init_22 rfl (lv_at hl 0 rfl) ?_
  refine lv_sipush (v := nI 480) hx hb d_SM_init_23 (by decide +kernel) ?_
  refine nw_I (N := 480) hx hb (hw _ kw_87) hE.1 hP hD hS hA (by decide +kernel) (by decide +kernel) (by decide) (Nat.le_of_ble_eq_true rfl) (Nat.le_of_ble_eq_true rfl) d_SM_init_26 (fun qa_3 H hP hD hS => ?_)
  have hP : va_P D vwCl [(e0, .inr (4, [.ref qa_1, .ref qa_2, .null, .null, .null, .null, .int 0])), (qa_1, .inl (cI, 480, .inl (fun _ => 0))), (qa_2, .inl (cI, 480, .inl (fun _ => 0))), (qa_3, .inl (cI, 480, .inl (fun _ => 0)))] H := hP
  have hD : va_D A [(e0, .inr (4, [.ref qa_1, .ref qa_2, .null, .null, .null, .null, .int 0])), (qa_1, .inl (cI, 480, .inl (fun _ => 0))), (qa_2, .inl (cI, 480, .inl (fun _ => 0))), (qa_3, .inl (cI, 480, .inl (fun _ => 0)))] := hD
  refine W.widen (k := 3) (n := 1440) (by omega) (by omega) ?_
  refine va_putF (D := D) (ci := 4) (v := .ref qa_3) (ty := (.array .int)) (C := R_SM) (T := T_SM) (N := 7) hx hb hw in_SM ty_SM ty_SM_ok nm_SM_ok hown hE.1 hP hD hS 0 rfl rfl 2 (by decide) (hw _ kw_162) (fun _ h9 => h9) rfl hin rfl (by decide +kernel) rfl rfl (Nat.le_of_ble_eq_true rfl) d_SM_init_28 (fun H locs hP hD hS => ?_)
  have hP : va_P D vwCl [(e0, .inr (4, [.ref qa_1, .ref qa_2, .ref qa_3, .null, .null, .null, .int 0])), (qa_1, .inl (cI, 480, .inl (fun _ => 0))), (qa_2, .inl (cI, 480, .inl (fun _ => 0))), (qa_3, .inl (cI, 480, .inl (fun _ => 0)))] H := hP
  have hD : va_D A [(e0, .inr (4, [.ref qa_1, .ref qa_2, .ref qa_3, .null, .null, .null, .int 0])), (qa_1, .inl (cI, 480, .inl (fun _ => 0))), (qa_2, .inl (cI, 480, .inl (fun _ => 0))), (qa_3, .inl (cI, 480, .inl (fun _ => 0)))] := hD
  refine lv_aload_n hx hb d_SM_init_31 rfl (lv_at hl 0 rfl) ?_
  refine lv_bipush (v := nI 120) hx hb d_SM_init_32 (by decide +kernel) ?_
  refine nw_I (N := 120) hx hb (hw _ kw_87) hE.1 hP hD hS hA (by decide +kernel) (by decide +kernel) (by decide) (Nat.le_of_ble_eq_true rfl) (Nat.le_of_ble_eq_true rfl) d_SM_init_34 (fun qa_4 H hP hD hS => ?_)
  have hP : va_P D vwCl [(e0, .inr (4, [.ref qa_1, .ref qa_2, .ref qa_3, .null, .null, .null, .int 0])), (qa_1, .inl (cI, 480, .inl (fun _ => 0))), (qa_2, .inl (cI, 480, .inl (fun _ => 0))), (qa_3, .inl (cI, 480, .inl (fun _ => 0))), (qa_4, .inl (cI, 120, .inl (fun _ => 0)))] H := hP
  have hD : va_D A [(e0, .inr (4, [.ref qa_1, .ref qa_2, .ref qa_3, .null, .null, .null, .int 0])), (qa_1, .inl (cI, 480, .inl (fun _ => 0))), (qa_2, .inl (cI, 480, .inl (fun _ => 0))), (qa_3, .inl (cI, 480, .inl (fun _ => 0))), (qa_4, .inl (cI, 120, .inl (fun _ => 0)))] := hD
  refine W.widen (k := 4) (n := 1560) (by omega) (by omega) ?_
  refine va_putF (D := D) (ci := 4) (v := .ref qa_4) (ty := (.array .int)) (C := R_SM) (T := T_SM) (N := 7) hx hb hw in_SM ty_SM ty_SM_ok nm_SM_ok hown hE.1 hP hD hS 0 rfl rfl 3 (by decide) (hw _ kw_163) (fun _ h9 => h9) rfl hin rfl (by decide +kernel) rfl rfl (Nat.le_of_ble_eq_true rfl) d_SM_init_36 (fun H locs hP hD hS => ?_)
  have hP : va_P D vwCl [(e0, .inr (4, [.ref qa_1, .ref qa_2, .ref qa_3, .ref qa_4, .null, .null, .int 0])), (qa_1, .inl (cI, 480, .inl (fun _ => 0))), (qa_2, .inl (cI, 480, .inl (fun _ => 0))), (qa_3, .inl (cI, 480, .inl (fun _ => 0))), (qa_4, .inl (cI, 120, .inl (fun _ => 0)))] H := hP
  have hD : va_D A [(e0, .inr (4, [.ref qa_1, .ref qa_2, .ref qa_3, .ref qa_4, .null, .null, .int 0])), (qa_1, .inl (cI, 480, .inl (fun _ => 0))), (qa_2, .inl (cI, 480, .inl (fun _ => 0))), (qa_3, .inl (cI, 480, .inl (fun _ => 0))), (qa_4, .inl (cI, 120, .inl (fun _ => 0)))] := hD
  refine lv_aload_n hx hb d_SM_init_39 rfl (lv_at hl 0 rfl) ?_
  refine lv_bipush (v := nI 120) hx hb d_SM_init_40 (by decide +kernel) ?_
  refine nw_I (N := 120) hx hb (hw _ kw_87) hE.1 hP hD hS hA (by decide +kernel) (by decide +kernel) (by decide) (Nat.le_of_ble_eq_true rfl) (Nat.le_of_ble_eq_true rfl) d_SM_init_42 (fun qa_5 H hP hD hS => ?_)
  have hP : va_P D vwCl [(e0, .inr (4, [.ref qa_1, .ref qa_2, .ref qa_3, .ref qa_4, .null, .null, .int 0])), (qa_1, .inl (cI, 480, .inl (fun _ => 0))), (qa_2, .inl (cI, 480, .inl (fun _ => 0))), (qa_3, .inl (cI, 480, .inl (fun _ => 0))), (qa_4, .inl (cI, 120, .inl (fun _ => 0))), (qa_5, .inl (cI, 120, .inl (fun _ => 0)))] H := hP
  have hD : va_D A [(e0, .inr (4, [.ref qa_1, .ref qa_2, .ref qa_3, .ref qa_4, .null, .null, .int 0])), (qa_1, .inl (cI, 480, .inl (fun _ => 0))), (qa_2, .inl (cI, 480, .inl (fun _ => 0))), (qa_3, .inl (cI, 480, .inl (fun _ => 0))), (qa_4, .inl (cI, 120, .inl (fun _ => 0))), (qa_5, .inl (cI, 120, .inl (fun _ => 0)))] := hD
  refine W.widen (k := 5) (n := 1680) (by omega) (by omega) ?_
  refine va_putF (D := D) (ci := 4) (v := .ref qa_5) (ty := (.array .int)) (C := R_SM) (T := T_SM) (N := 7) hx hb hw in_SM ty_SM ty_SM_ok nm_SM_ok hown hE.1 hP hD hS 0 rfl rfl 4 (by decide) (hw _ kw_164) (fun _ h9 => h9) rfl hin rfl (by decide +kernel) rfl rfl (Nat.le_of_ble_eq_true rfl) d_SM_init_44 (fun H locs hP hD hS => ?_)
  have hP : va_P D vwCl [(e0, .inr (4, [.ref qa_1, .ref qa_2, .ref qa_3, .ref qa_4, .ref qa_5, .null, .int 0])), (qa_1, .inl (cI, 480, .inl (fun _ => 0))), (qa_2, .inl (cI, 480, .inl (fun _ => 0))), (qa_3, .inl (cI, 480, .inl (fun _ => 0))), (qa_4, .inl (cI, 120, .inl (fun _ => 0))), (qa_5, .inl (cI, 120, .inl (fun _ => 0)))] H := hP
  have hD : va_D A [(e0, .inr (4, [.ref qa_1, .ref qa_2, .ref qa_3, .ref qa_4, .ref qa_5, .null, .int 0])), (qa_1, .inl (cI, 480, .inl (fun _ => 0))), (qa_2, .inl (cI, 480, .inl (fun _ => 0))), (qa_3, .inl (cI, 480, .inl (fun _ => 0))), (qa_4, .inl (cI, 120, .inl (fun _ => 0))), (qa_5, .inl (cI, 120, .inl (fun _ => 0)))] := hD
  refine lv_aload_n hx hb d_SM_init_47 rfl (lv_at hl 0 rfl) ?_
  refine lv_bipush (v := nI 40) hx hb d_SM_init_48 (by decide +kernel) ?_
  refine nw_I (N := 40) hx hb (hw _ kw_87) hE.1 hP hD hS hA (by decide +kernel) (by decide +kernel) (by decide) (Nat.le_of_ble_eq_true rfl) (Nat.le_of_ble_eq_true rfl) d_SM_init_50 (fun qa_6 H hP hD hS => ?_)
  have hP : va_P D vwCl [(e0, .inr (4, [.ref qa_1, .ref qa_2, .ref qa_3, .ref qa_4, .ref qa_5, .null, .int 0])), (qa_1, .inl (cI, 480, .inl (fun _ => 0))), (qa_2, .inl (cI, 480, .inl (fun _ => 0))), (qa_3, .inl (cI, 480, .inl (fun _ => 0))), (qa_4, .inl (cI, 120, .inl (fun _ => 0))), (qa_5, .inl (cI, 120, .inl (fun _ => 0))), (qa_6, .inl (cI, 40, .inl (fun _ => 0)))] H := hP
  have hD : va_D A [(e0, .inr (4, [.ref qa_1, .ref qa_2, .ref qa_3, .ref qa_4, .ref qa_5, .null, .int 0])), (qa_1, .inl (cI, 480, .inl (fun _ => 0))), (qa_2, .inl (cI, 480, .inl (fun _ => 0))), (qa_3, .inl (cI, 480, .inl (fun _ => 0))), (qa_4, .inl (cI, 120, .inl (fun _ => 0))), (qa_5, .inl (cI, 120, .inl (fun _ => 0))), (qa_6, .inl (cI, 40, .inl (fun _ => 0)))] := hD
  refine W.widen (k := 6) (n := 1720) (by omega) (by omega) ?_
  refine va_putF (D := D) (ci := 4) (v := .ref qa_6) (ty := (.array .int)) (C := R_SM) (T := T_SM) (N := 7) hx hb hw in_SM ty_SM ty_SM_ok nm_SM_ok hown hE.1 hP hD hS 0 rfl rfl 5 (by decide) (hw _ kw_165) (fun _ h9 => h9) rfl hin rfl (by decide +kernel) rfl rfl (Nat.le_of_ble_eq_true rfl) d_SM_init_52 (fun H locs hP hD hS => ?_)
  have hP : va_P D vwCl [(e0, .inr (4, [.ref qa_1, .ref qa_2, .ref qa_3, .ref qa_4, .ref qa_5, .ref qa_6, .int 0])), (qa_1, .inl (cI, 480, .inl (fun _ => 0))), (qa_2, .inl (cI, 480, .inl (fun _ => 0))), (qa_3, .inl (cI, 480, .inl (fun _ => 0))), (qa_4, .inl (cI, 120, .inl (fun _ => 0))), (qa_5, .inl (cI, 120, .inl (fun _ => 0))), (qa_6, .inl (cI, 40, .inl (fun _ => 0)))] H := hP
  have hD : va_D A [(e0, .inr (4, [.ref qa_1, .ref qa_2, .ref qa_3, .ref qa_4, .ref qa_5, .ref qa_6, .int 0])), (qa_1, .inl (cI, 480, .inl (fun _ => 0))), (qa_2, .inl (cI, 480, .inl (fun _ => 0))), (qa_3, .inl (cI, 480, .inl (fun _ => 0))), (qa_4, .inl (cI, 120, .inl (fun _ => 0))), (qa_5, .inl (cI, 120, .inl (fun _ => 0))), (qa_6, .inl (cI, 40, .inl (fun _ => 0)))] := hD
  refine lv_aload_n hx hb d_SM_init_55 rfl (lv_at hl 0 rfl) ?_
  refine lv_iconst (v := nI 0) hx hb d_SM_init_56 (by decide +kernel) ?_
  refine va_put (D := D) (ci := 4) (v := .int (nI 0)) (ty := .int) (C := R_SM) (T := T_SM) (N := 7) hx hb hw in_SM ty_SM ty_SM_ok nm_SM_ok hown hE.1 hP hD hS 0 rfl rfl 6 (by decide) (hw _ kw_166) (fun _ h9 => h9) rfl (by decide +kernel) rfl rfl (Nat.le_of_ble_eq_true rfl) d_SM_init_57 (fun H locs hP hD hS => ?_)
  have hP : va_P D vwCl [(e0, .inr (4, [.ref qa_1, .ref qa_2, .ref qa_3, .ref qa_4, .ref qa_5, .ref qa_6, .int (nI 0)])), (qa_1, .inl (cI, 480, .inl (fun _ => 0))), (qa_2, .inl (cI, 480, .inl (fun _ => 0))), (qa_3, .inl (cI, 480, .inl (fun _ => 0))), (qa_4, .inl (cI, 120, .inl (fun _ => 0))), (qa_5, .inl (cI, 120, .inl (fun _ => 0))), (qa_6, .inl (cI, 40, .inl (fun _ => 0)))] H := hP
  have hD : va_D A [(e0, .inr (4, [.ref qa_1, .ref qa_2, .ref qa_3, .ref qa_4, .ref qa_5, .ref qa_6, .int (nI 0)])), (qa_1, .inl (cI, 480, .inl (fun _ => 0))), (qa_2, .inl (cI, 480, .inl (fun _ => 0))), (qa_3, .inl (cI, 480, .inl (fun _ => 0))), (qa_4, .inl (cI, 120, .inl (fun _ => 0))), (qa_5, .inl (cI, 120, .inl (fun _ => 0))), (qa_6, .inl (cI, 40, .inl (fun _ => 0)))] := hD
  have hP9 := hP.sub (ws' := [(e0, .inr (4, [.ref qa_1, .ref qa_2, .ref qa_3, .ref qa_4, .ref qa_5, .ref qa_6, .int (nI 0)])), (qa_1, .inl (cI, 480, .inl (fun _ => 0))), (qa_2, .inl (cI, 480, .inl (fun _ => 0))), (qa_3, .inl (cI, 480, .inl (fun _ => 0))), (qa_4, .inl (cI, 120, .inl (fun _ => 0))), (qa_5, .inl (cI, 120, .inl (fun _ => 0))), (qa_6, .inl (cI, 40, .inl (fun _ => 0)))]) [0, 1, 2, 3, 4, 5, 6] rfl
  have hD9 := hD.sub (ws' := [(e0, .inr (4, [.ref qa_1, .ref qa_2, .ref qa_3, .ref qa_4, .ref qa_5, .ref qa_6, .int (nI 0)])), (qa_1, .inl (cI, 480, .inl (fun _ => 0))), (qa_2, .inl (cI, 480, .inl (fun _ => 0))), (qa_3, .inl (cI, 480, .inl (fun _ => 0))), (qa_4, .inl (cI, 120, .inl (fun _ => 0))), (qa_5, .inl (cI, 120, .inl (fun _ => 0))), (qa_6, .inl (cI, 40, .inl (fun _ => 0)))]) [0, 1, 2, 3, 4, 5, 6] (by decide) rfl
  exact W.vret hx hb hr (fun t9 ht hW => ⟨⟨(qa_1, qa_2, qa_3, qa_4, qa_5, qa_6), rfl, trivial, ⟨by rw [ht]; exact hP9, hD9⟩⟩, hS.F ht⟩) hS.2.2 d_SM_init_60
