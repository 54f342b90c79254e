theorem d_FD_copySeeds_0 : decode c_FD_copySeeds 0 = .ok (.aload_n 0, 1) := by decide +kernel
theorem d_FD_copySeeds_1 : decode c_FD_copySeeds 1 = .ok (.invokevirtual 134, 3) := by decide +kernel
theorem d_FD_copySeeds_4 : decode c_FD_copySeeds 4 = .ok (.iconst 0, 1) := by decide +kernel
theorem d_FD_copySeeds_5 : decode c_FD_copySeeds 5 = .ok (.istore_n 2, 1) := by decide +kernel
theorem d_FD_copySeeds_6 : decode c_FD_copySeeds 6 = .ok (.iload_n 2, 1) := by decide +kernel
theorem d_FD_copySeeds_7 : decode c_FD_copySeeds 7 = .ok (.sipush 1764, 3) := by decide +kernel
theorem d_FD_copySeeds_10 : decode c_FD_copySeeds 10 = .ok (.if_icmp .ge 30, 3) := by decide +kernel
theorem d_FD_copySeeds_13 : decode c_FD_copySeeds 13 = .ok (.aload_n 1, 1) := by decide +kernel
theorem d_FD_copySeeds_14 : decode c_FD_copySeeds 14 = .ok (.iload_n 2, 1) := by decide +kernel
theorem d_FD_copySeeds_15 : decode c_FD_copySeeds 15 = .ok (.invokevirtual 70, 3) := by decide +kernel
theorem d_FD_copySeeds_18 : decode c_FD_copySeeds 18 = .ok (.ifCond .eq 16, 3) := by decide +kernel
theorem d_FD_copySeeds_21 : decode c_FD_copySeeds 21 = .ok (.aload_n 0, 1) := by decide +kernel
theorem d_FD_copySeeds_22 : decode c_FD_copySeeds 22 = .ok (.iload_n 2, 1) := by decide +kernel
theorem d_FD_copySeeds_23 : decode c_FD_copySeeds 23 = .ok (.aload_n 1, 1) := by decide +kernel
theorem d_FD_copySeeds_24 : decode c_FD_copySeeds 24 = .ok (.iload_n 2, 1) := by decide +kernel
theorem d_FD_copySeeds_25 : decode c_FD_copySeeds 25 = .ok (.invokevirtual 67, 3) := by decide +kernel
theorem d_FD_copySeeds_28 : decode c_FD_copySeeds 28 = .ok (.invokestatic 137, 3) := by decide +kernel
theorem d_FD_copySeeds_31 : decode c_FD_copySeeds 31 = .ok (.invokevirtual 63, 3) := by decide +kernel
theorem d_FD_copySeeds_34 : decode c_FD_copySeeds 34 = .ok (.iinc 2 1, 3) := by decide +kernel
theorem d_FD_copySeeds_37 : decode c_FD_copySeeds 37 = .ok (.goto (-31), 3) := by decide +kernel
theorem d_FD_copySeeds_40 : decode c_FD_copySeeds 40 = .ok (.return_, 1) := by decide +kernel
theorem d_TB_counter_0 : decode c_TB_counter 0 = .ok (.aload_n 0, 1) := by decide +kernel
theorem d_TB_counter_1 : decode c_TB_counter 1 = .ok (.invokevirtual 41, 3) := by decide +kernel
theorem d_TB_counter_4 : decode c_TB_counter 4 = .ok (.iload_n 1, 1) := by decide +kernel
theorem d_TB_counter_5 : decode c_TB_counter 5 = .ok (.iconst 1, 1) := by decide +kernel
theorem d_TB_counter_6 : decode c_TB_counter 6 = .ok (.bipush 20, 2) := by decide +kernel
theorem d_TB_counter_8 : decode c_TB_counter 8 = .ok (.invokestatic 44, 3) := by decide +kernel
theorem d_TB_counter_11 : decode c_TB_counter 11 = .ok (.iload_n 3, 1) := by decide +kernel
theorem d_TB_counter_12 : decode c_TB_counter 12 = .ok (.iconst 1, 1) := by decide +kernel
theorem d_TB_counter_13 : decode c_TB_counter 13 = .ok (.bipush 40, 2) := by decide +kernel
theorem d_TB_counter_15 : decode c_TB_counter 15 = .ok (.invokestatic 44, 3) := by decide +kernel
theorem d_TB_counter_18 : decode c_TB_counter 18 = .ok (.iload_n 2, 1) := by decide +kernel
theorem d_TB_counter_19 : decode c_TB_counter 19 = .ok (.iconst 0, 1) := by decide +kernel
theorem d_TB_counter_20 : decode c_TB_counter 20 = .ok (.iconst 1, 1) := by decide +kernel
theorem d_TB_counter_21 : decode c_TB_counter 21 = .ok (.iload_n 1, 1) := by decide +kernel
theorem d_TB_counter_22 : decode c_TB_counter 22 = .ok (.ishl, 1) := by decide +kernel
theorem d_TB_counter_23 : decode c_TB_counter 23 = .ok (.iconst 1, 1) := by decide +kernel
theorem d_TB_counter_24 : decode c_TB_counter 24 = .ok (.isub, 1) := by decide +kernel
theorem d_TB_counter_25 : decode c_TB_counter 25 = .ok (.invokestatic 44, 3) := by decide +kernel
theorem d_TB_counter_28 : decode c_TB_counter 28 = .ok (.aload_n 0, 1) := by decide +kernel
theorem d_TB_counter_29 : decode c_TB_counter 29 = .ok (.getfield 12, 3) := by decide +kernel
theorem d_TB_counter_32 : decode c_TB_counter 32 = .ok (.iconst 0, 1) := by decide +kernel
theorem d_TB_counter_33 : decode c_TB_counter 33 = .ok (.iconst 4, 1) := by decide +kernel
theorem d_TB_counter_34 : decode c_TB_counter 34 = .ok (.invokevirtual 180, 3) := by decide +kernel
theorem d_TB_counter_37 : decode c_TB_counter 37 = .ok (.iconst 0, 1) := by decide +kernel
theorem d_TB_counter_38 : decode c_TB_counter 38 = .ok (.istore 4, 2) := by decide +kernel
theorem d_TB_counter_40 : decode c_TB_counter 40 = .ok (.iload 4, 2) := by decide +kernel
theorem d_TB_counter_42 : decode c_TB_counter 42 = .ok (.iconst 1, 1) := by decide +kernel
theorem d_TB_counter_43 : decode c_TB_counter 43 = .ok (.if_icmp .gt 56, 3) := by decide +kernel
theorem d_TB_counter_46 : decode c_TB_counter 46 = .ok (.iconst 0, 1) := by decide +kernel
theorem d_TB_counter_47 : decode c_TB_counter 47 = .ok (.istore 5, 2) := by decide +kernel
theorem d_TB_counter_49 : decode c_TB_counter 49 = .ok (.iload 5, 2) := by decide +kernel
theorem d_TB_counter_51 : decode c_TB_counter 51 = .ok (.iconst 1, 1) := by decide +kernel
theorem d_TB_counter_52 : decode c_TB_counter 52 = .ok (.if_icmp .gt 41, 3) := by decide +kernel
theorem d_TB_counter_55 : decode c_TB_counter 55 = .ok (.aload_n 0, 1) := by decide +kernel
theorem d_TB_counter_56 : decode c_TB_counter 56 = .ok (.getfield 12, 3) := by decide +kernel
theorem d_TB_counter_59 : decode c_TB_counter 59 = .ok (.iconst 1, 1) := by decide +kernel
theorem d_TB_counter_60 : decode c_TB_counter 60 = .ok (.iload 4, 2) := by decide +kernel
theorem d_TB_counter_62 : decode c_TB_counter 62 = .ok (.iload 5, 2) := by decide +kernel
theorem d_TB_counter_64 : decode c_TB_counter 64 = .ok (.iadd, 1) := by decide +kernel
theorem d_TB_counter_65 : decode c_TB_counter 65 = .ok (.iconst 2, 1) := by decide +kernel
theorem d_TB_counter_66 : decode c_TB_counter 66 = .ok (.irem, 1) := by decide +kernel
theorem d_TB_counter_67 : decode c_TB_counter 67 = .ok (.iadd, 1) := by decide +kernel
theorem d_TB_counter_68 : decode c_TB_counter 68 = .ok (.iconst 3, 1) := by decide +kernel
theorem d_TB_counter_69 : decode c_TB_counter 69 = .ok (.iload 5, 2) := by decide +kernel
theorem d_TB_counter_71 : decode c_TB_counter 71 = .ok (.iadd, 1) := by decide +kernel
theorem d_TB_counter_72 : decode c_TB_counter 72 = .ok (.iconst 1, 1) := by decide +kernel
theorem d_TB_counter_73 : decode c_TB_counter 73 = .ok (.iload 4, 2) := by decide +kernel
theorem d_TB_counter_75 : decode c_TB_counter 75 = .ok (.iadd, 1) := by decide +kernel
theorem d_TB_counter_76 : decode c_TB_counter 76 = .ok (.iconst 3, 1) := by decide +kernel
theorem d_TB_counter_77 : decode c_TB_counter 77 = .ok (.iload 4, 2) := by decide +kernel
theorem d_TB_counter_79 : decode c_TB_counter 79 = .ok (.iload 5, 2) := by decide +kernel
theorem d_TB_counter_81 : decode c_TB_counter 81 = .ok (.imul, 1) := by decide +kernel
theorem d_TB_counter_82 : decode c_TB_counter 82 = .ok (.iadd, 1) := by decide +kernel
theorem d_TB_counter_83 : decode c_TB_counter 83 = .ok (.invokevirtual 63, 3) := by decide +kernel
theorem d_TB_counter_86 : decode c_TB_counter 86 = .ok (.pop, 1) := by decide +kernel
theorem d_TB_counter_87 : decode c_TB_counter 87 = .ok (.iinc 5 1, 3) := by decide +kernel
theorem d_TB_counter_90 : decode c_TB_counter 90 = .ok (.goto (-41), 3) := by decide +kernel
theorem d_TB_counter_93 : decode c_TB_counter 93 = .ok (.iinc 4 1, 3) := by decide +kernel
theorem d_TB_counter_96 : decode c_TB_counter 96 = .ok (.goto (-56), 3) := by decide +kernel
theorem d_TB_counter_99 : decode c_TB_counter 99 = .ok (.iconst 0, 1) := by decide +kernel
theorem d_TB_counter_100 : decode c_TB_counter 100 = .ok (.istore 4, 2) := by decide +kernel
theorem d_TB_counter_102 : decode c_TB_counter 102 = .ok (.iload 4, 2) := by decide +kernel
theorem d_TB_counter_104 : decode c_TB_counter 104 = .ok (.iload_n 1, 1) := by decide +kernel
theorem d_TB_counter_105 : decode c_TB_counter 105 = .ok (.if_icmp .ge 37, 3) := by decide +kernel
theorem d_TB_counter_108 : decode c_TB_counter 108 = .ok (.aload_n 0, 1) := by decide +kernel
theorem d_TB_counter_109 : decode c_TB_counter 109 = .ok (.getfield 21, 3) := by decide +kernel
theorem d_TB_counter_112 : decode c_TB_counter 112 = .ok (.iload_n 1, 1) := by decide +kernel
theorem d_TB_counter_113 : decode c_TB_counter 113 = .ok (.iconst 1, 1) := by decide +kernel
theorem d_TB_counter_114 : decode c_TB_counter 114 = .ok (.isub, 1) := by decide +kernel
theorem d_TB_counter_115 : decode c_TB_counter 115 = .ok (.iload 4, 2) := by decide +kernel
theorem d_TB_counter_117 : decode c_TB_counter 117 = .ok (.isub, 1) := by decide +kernel
theorem d_TB_counter_118 : decode c_TB_counter 118 = .ok (.iconst 0, 1) := by decide +kernel
theorem d_TB_counter_119 : decode c_TB_counter 119 = .ok (.invokestatic 79, 3) := by decide +kernel
theorem d_TB_counter_122 : decode c_TB_counter 122 = .ok (.iconst 1, 1) := by decide +kernel
theorem d_TB_counter_123 : decode c_TB_counter 123 = .ok (.iload_n 2, 1) := by decide +kernel
theorem d_TB_counter_124 : decode c_TB_counter 124 = .ok (.iload 4, 2) := by decide +kernel
theorem d_TB_counter_126 : decode c_TB_counter 126 = .ok (.ishr, 1) := by decide +kernel
theorem d_TB_counter_127 : decode c_TB_counter 127 = .ok (.iconst 1, 1) := by decide +kernel
theorem d_TB_counter_128 : decode c_TB_counter 128 = .ok (.iand, 1) := by decide +kernel
theorem d_TB_counter_129 : decode c_TB_counter 129 = .ok (.iadd, 1) := by decide +kernel
theorem d_TB_counter_130 : decode c_TB_counter 130 = .ok (.invokestatic 94, 3) := by decide +kernel
theorem d_TB_counter_133 : decode c_TB_counter 133 = .ok (.invokevirtual 97, 3) := by decide +kernel
theorem d_TB_counter_136 : decode c_TB_counter 136 = .ok (.iinc 4 1, 3) := by decide +kernel
theorem d_TB_counter_139 : decode c_TB_counter 139 = .ok (.goto (-37), 3) := by decide +kernel
theorem d_TB_counter_142 : decode c_TB_counter 142 = .ok (.aload_n 0, 1) := by decide +kernel
theorem d_TB_counter_143 : decode c_TB_counter 143 = .ok (.iload_n 1, 1) := by decide +kernel
theorem d_TB_counter_144 : decode c_TB_counter 144 = .ok (.iload_n 3, 1) := by decide +kernel
theorem d_TB_counter_145 : decode c_TB_counter 145 = .ok (.invokevirtual 183, 3) := by decide +kernel
theorem d_TB_counter_148 : decode c_TB_counter 148 = .ok (.aload_n 0, 1) := by decide +kernel
theorem d_TB_counter_149 : decode c_TB_counter 149 = .ok (.getfield 12, 3) := by decide +kernel
theorem d_TB_counter_152 : decode c_TB_counter 152 = .ok (.invokevirtual 52, 3) := by decide +kernel
theorem d_TB_counter_155 : decode c_TB_counter 155 = .ok (.ireturn, 1) := by decide +kernel
theorem d_TB_plantColumn_0 : decode c_TB_plantColumn 0 = .ok (.iconst 1, 1) := by decide +kernel
theorem d_TB_plantColumn_1 : decode c_TB_plantColumn 1 = .ok (.istore_n 3, 1) := by decide +kernel
theorem d_TB_plantColumn_2 : decode c_TB_plantColumn 2 = .ok (.iload_n 3, 1) := by decide +kernel
theorem d_TB_plantColumn_3 : decode c_TB_plantColumn 3 = .ok (.iload_n 2, 1) := by decide +kernel
theorem d_TB_plantColumn_4 : decode c_TB_plantColumn 4 = .ok (.if_icmp .ge 25, 3) := by decide +kernel
theorem d_TB_plantColumn_7 : decode c_TB_plantColumn 7 = .ok (.aload_n 0, 1) := by decide +kernel
theorem d_TB_plantColumn_8 : decode c_TB_plantColumn 8 = .ok (.getfield 21, 3) := by decide +kernel
theorem d_TB_plantColumn_11 : decode c_TB_plantColumn 11 = .ok (.iload_n 1, 1) := by decide +kernel
theorem d_TB_plantColumn_12 : decode c_TB_plantColumn 12 = .ok (.iload_n 3, 1) := by decide +kernel
theorem d_TB_plantColumn_13 : decode c_TB_plantColumn 13 = .ok (.invokestatic 79, 3) := by decide +kernel
theorem d_TB_plantColumn_16 : decode c_TB_plantColumn 16 = .ok (.iconst 3, 1) := by decide +kernel
theorem d_TB_plantColumn_17 : decode c_TB_plantColumn 17 = .ok (.invokestatic 94, 3) := by decide +kernel
theorem d_TB_plantColumn_20 : decode c_TB_plantColumn 20 = .ok (.invokevirtual 97, 3) := by decide +kernel
theorem d_TB_plantColumn_23 : decode c_TB_plantColumn 23 = .ok (.iinc 3 1, 3) := by decide +kernel
theorem d_TB_plantColumn_26 : decode c_TB_plantColumn 26 = .ok (.goto (-24), 3) := by decide +kernel
theorem d_TB_plantColumn_29 : decode c_TB_plantColumn 29 = .ok (.return_, 1) := by decide +kernel
theorem d_TB_rule_0 : decode c_TB_rule 0 = .ok (.aload_n 0, 1) := by decide +kernel
theorem d_TB_rule_1 : decode c_TB_rule 1 = .ok (.invokevirtual 41, 3) := by decide +kernel
theorem d_TB_rule_4 : decode c_TB_rule 4 = .ok (.iload_n 1, 1) := by decide +kernel
theorem d_TB_rule_5 : decode c_TB_rule 5 = .ok (.iconst 1, 1) := by decide +kernel
theorem d_TB_rule_6 : decode c_TB_rule 6 = .ok (.bipush 30, 2) := by decide +kernel
theorem d_TB_rule_8 : decode c_TB_rule 8 = .ok (.invokestatic 44, 3) := by decide +kernel
theorem d_TB_rule_11 : decode c_TB_rule 11 = .ok (.iload_n 2, 1) := by decide +kernel
theorem d_TB_rule_12 : decode c_TB_rule 12 = .ok (.iconst 0, 1) := by decide +kernel
theorem d_TB_rule_13 : decode c_TB_rule 13 = .ok (.bipush 15, 2) := by decide +kernel
theorem d_TB_rule_15 : decode c_TB_rule 15 = .ok (.invokestatic 44, 3) := by decide +kernel
theorem d_TB_rule_18 : decode c_TB_rule 18 = .ok (.iload_n 3, 1) := by decide +kernel
theorem d_TB_rule_19 : decode c_TB_rule 19 = .ok (.iconst 1, 1) := by decide +kernel
theorem d_TB_rule_20 : decode c_TB_rule 20 = .ok (.bipush 40, 2) := by decide +kernel
theorem d_TB_rule_22 : decode c_TB_rule 22 = .ok (.invokestatic 44, 3) := by decide +kernel
theorem d_TB_rule_25 : decode c_TB_rule 25 = .ok (.iload 4, 2) := by decide +kernel
theorem d_TB_rule_27 : decode c_TB_rule 27 = .ok (.iconst 0, 1) := by decide +kernel
theorem d_TB_rule_28 : decode c_TB_rule 28 = .ok (.iconst 1, 1) := by decide +kernel
theorem d_TB_rule_29 : decode c_TB_rule 29 = .ok (.iload_n 1, 1) := by decide +kernel
theorem d_TB_rule_30 : decode c_TB_rule 30 = .ok (.ishl, 1) := by decide +kernel
theorem d_TB_rule_31 : decode c_TB_rule 31 = .ok (.iconst 1, 1) := by decide +kernel
theorem d_TB_rule_32 : decode c_TB_rule 32 = .ok (.isub, 1) := by decide +kernel
theorem d_TB_rule_33 : decode c_TB_rule 33 = .ok (.invokestatic 44, 3) := by decide +kernel
theorem d_TB_rule_36 : decode c_TB_rule 36 = .ok (.aload_n 0, 1) := by decide +kernel
theorem d_TB_rule_37 : decode c_TB_rule 37 = .ok (.getfield 12, 3) := by decide +kernel
theorem d_TB_rule_40 : decode c_TB_rule 40 = .ok (.iconst 3, 1) := by decide +kernel
theorem d_TB_rule_41 : decode c_TB_rule 41 = .ok (.iconst 0, 1) := by decide +kernel
theorem d_TB_rule_42 : decode c_TB_rule 42 = .ok (.invokevirtual 180, 3) := by decide +kernel
theorem d_TB_rule_45 : decode c_TB_rule 45 = .ok (.iconst 0, 1) := by decide +kernel
theorem d_TB_rule_46 : decode c_TB_rule 46 = .ok (.istore 5, 2) := by decide +kernel
theorem d_TB_rule_48 : decode c_TB_rule 48 = .ok (.iload 5, 2) := by decide +kernel
theorem d_TB_rule_50 : decode c_TB_rule 50 = .ok (.iconst 1, 1) := by decide +kernel
theorem d_TB_rule_51 : decode c_TB_rule 51 = .ok (.if_icmp .gt 57, 3) := by decide +kernel
theorem d_TB_rule_54 : decode c_TB_rule 54 = .ok (.iconst 0, 1) := by decide +kernel
theorem d_TB_rule_55 : decode c_TB_rule 55 = .ok (.istore 6, 2) := by decide +kernel
theorem d_TB_rule_57 : decode c_TB_rule 57 = .ok (.iload 6, 2) := by decide +kernel
theorem d_TB_rule_59 : decode c_TB_rule 59 = .ok (.iconst 1, 1) := by decide +kernel
theorem d_TB_rule_60 : decode c_TB_rule 60 = .ok (.if_icmp .gt 42, 3) := by decide +kernel
theorem d_TB_rule_63 : decode c_TB_rule 63 = .ok (.aload_n 0, 1) := by decide +kernel
theorem d_TB_rule_64 : decode c_TB_rule 64 = .ok (.getfield 12, 3) := by decide +kernel
theorem d_TB_rule_67 : decode c_TB_rule 67 = .ok (.iconst 1, 1) := by decide +kernel
theorem d_TB_rule_68 : decode c_TB_rule 68 = .ok (.iload_n 2, 1) := by decide +kernel
theorem d_TB_rule_69 : decode c_TB_rule 69 = .ok (.iconst 2, 1) := by decide +kernel
theorem d_TB_rule_70 : decode c_TB_rule 70 = .ok (.iload 5, 2) := by decide +kernel
theorem d_TB_rule_72 : decode c_TB_rule 72 = .ok (.imul, 1) := by decide +kernel
theorem d_TB_rule_73 : decode c_TB_rule 73 = .ok (.iload 6, 2) := by decide +kernel
theorem d_TB_rule_75 : decode c_TB_rule 75 = .ok (.iadd, 1) := by decide +kernel
theorem d_TB_rule_76 : decode c_TB_rule 76 = .ok (.ishr, 1) := by decide +kernel
theorem d_TB_rule_77 : decode c_TB_rule 77 = .ok (.iconst 1, 1) := by decide +kernel
theorem d_TB_rule_78 : decode c_TB_rule 78 = .ok (.iand, 1) := by decide +kernel
theorem d_TB_rule_79 : decode c_TB_rule 79 = .ok (.iadd, 1) := by decide +kernel
theorem d_TB_rule_80 : decode c_TB_rule 80 = .ok (.iconst 3, 1) := by decide +kernel
theorem d_TB_rule_81 : decode c_TB_rule 81 = .ok (.iload 6, 2) := by decide +kernel
theorem d_TB_rule_83 : decode c_TB_rule 83 = .ok (.iadd, 1) := by decide +kernel
theorem d_TB_rule_84 : decode c_TB_rule 84 = .ok (.iconst 1, 1) := by decide +kernel
theorem d_TB_rule_85 : decode c_TB_rule 85 = .ok (.iload 6, 2) := by decide +kernel
theorem d_TB_rule_87 : decode c_TB_rule 87 = .ok (.iadd, 1) := by decide +kernel
theorem d_TB_rule_88 : decode c_TB_rule 88 = .ok (.iconst 3, 1) := by decide +kernel
theorem d_TB_rule_89 : decode c_TB_rule 89 = .ok (.iload 5, 2) := by decide +kernel
theorem d_TB_rule_91 : decode c_TB_rule 91 = .ok (.iadd, 1) := by decide +kernel
theorem d_TB_rule_92 : decode c_TB_rule 92 = .ok (.invokevirtual 63, 3) := by decide +kernel
theorem d_TB_rule_95 : decode c_TB_rule 95 = .ok (.pop, 1) := by decide +kernel
theorem d_TB_rule_96 : decode c_TB_rule 96 = .ok (.iinc 6 1, 3) := by decide +kernel
theorem d_TB_rule_99 : decode c_TB_rule 99 = .ok (.goto (-42), 3) := by decide +kernel
theorem d_TB_rule_102 : decode c_TB_rule 102 = .ok (.iinc 5 1, 3) := by decide +kernel
theorem d_TB_rule_105 : decode c_TB_rule 105 = .ok (.goto (-57), 3) := by decide +kernel
theorem d_TB_rule_108 : decode c_TB_rule 108 = .ok (.iconst 0, 1) := by decide +kernel
theorem d_TB_rule_109 : decode c_TB_rule 109 = .ok (.istore 5, 2) := by decide +kernel
theorem d_TB_rule_111 : decode c_TB_rule 111 = .ok (.iload 5, 2) := by decide +kernel
theorem d_TB_rule_113 : decode c_TB_rule 113 = .ok (.iload_n 1, 1) := by decide +kernel
theorem d_TB_rule_114 : decode c_TB_rule 114 = .ok (.if_icmp .ge 36, 3) := by decide +kernel
theorem d_TB_rule_117 : decode c_TB_rule 117 = .ok (.aload_n 0, 1) := by decide +kernel
theorem d_TB_rule_118 : decode c_TB_rule 118 = .ok (.getfield 21, 3) := by decide +kernel
theorem d_TB_rule_121 : decode c_TB_rule 121 = .ok (.iload 5, 2) := by decide +kernel
theorem d_TB_rule_123 : decode c_TB_rule 123 = .ok (.iconst 1, 1) := by decide +kernel
theorem d_TB_rule_124 : decode c_TB_rule 124 = .ok (.iadd, 1) := by decide +kernel
theorem d_TB_rule_125 : decode c_TB_rule 125 = .ok (.iconst 0, 1) := by decide +kernel
theorem d_TB_rule_126 : decode c_TB_rule 126 = .ok (.invokestatic 79, 3) := by decide +kernel
theorem d_TB_rule_129 : decode c_TB_rule 129 = .ok (.iconst 1, 1) := by decide +kernel
theorem d_TB_rule_130 : decode c_TB_rule 130 = .ok (.iload 4, 2) := by decide +kernel
theorem d_TB_rule_132 : decode c_TB_rule 132 = .ok (.iload 5, 2) := by decide +kernel
theorem d_TB_rule_134 : decode c_TB_rule 134 = .ok (.ishr, 1) := by decide +kernel
theorem d_TB_rule_135 : decode c_TB_rule 135 = .ok (.iconst 1, 1) := by decide +kernel
theorem d_TB_rule_136 : decode c_TB_rule 136 = .ok (.iand, 1) := by decide +kernel
theorem d_TB_rule_137 : decode c_TB_rule 137 = .ok (.iadd, 1) := by decide +kernel
theorem d_TB_rule_138 : decode c_TB_rule 138 = .ok (.invokestatic 94, 3) := by decide +kernel
theorem d_TB_rule_141 : decode c_TB_rule 141 = .ok (.invokevirtual 97, 3) := by decide +kernel
theorem d_TB_rule_144 : decode c_TB_rule 144 = .ok (.iinc 5 1, 3) := by decide +kernel
theorem d_TB_rule_147 : decode c_TB_rule 147 = .ok (.goto (-36), 3) := by decide +kernel
theorem d_TB_rule_150 : decode c_TB_rule 150 = .ok (.aload_n 0, 1) := by decide +kernel
theorem d_TB_rule_151 : decode c_TB_rule 151 = .ok (.iconst 0, 1) := by decide +kernel
theorem d_TB_rule_152 : decode c_TB_rule 152 = .ok (.iload_n 3, 1) := by decide +kernel
theorem d_TB_rule_153 : decode c_TB_rule 153 = .ok (.invokevirtual 183, 3) := by decide +kernel
theorem d_TB_rule_156 : decode c_TB_rule 156 = .ok (.aload_n 0, 1) := by decide +kernel
theorem d_TB_rule_157 : decode c_TB_rule 157 = .ok (.getfield 12, 3) := by decide +kernel
theorem d_TB_rule_160 : decode c_TB_rule 160 = .ok (.invokevirtual 52, 3) := by decide +kernel
theorem d_TB_rule_163 : decode c_TB_rule 163 = .ok (.ireturn, 1) := by decide +kernel
def fsW (z : FS) : FS := (wiC z.1 1764, flJ z.2.1 0 1764, flI z.2.2.1 (nI 0) 42, flI z.2.2.2.1 (nI 0) 61, nI 0, nI 0, nI 0)
def csL (sd st : Nat → Int32) (be : Nat → Int64) (wa : Int32) (gc : Nat → Int32) (z : FS) : Nat → FS
  | 0 => z
  | i + 1 => if sdN (gc i) = 0 then csL sd st be wa gc z i else fsPut sd st be wa i (nI (tyN (gc i)) ||| nI 1024) (csL sd st be wa gc z i)
def pcL (sd st : Nat → Int32) (be : Nat → Int64) (wa : Int32) (a : Nat) (z : FS) : Nat → FS
  | 0 => z
  | j + 1 => fsPut sd st be wa (plN a (j + 1)) (nI 3 ||| nI 1024) (pcL sd st be wa a z j)
def btN (x : Int32) (i : Nat) : Nat := (x >>> (nI i &&& 31)).toBitVec.toNat % 2
theorem bt_and (x : Int32) (i : Nat) : (x >>> (nI i &&& 31)) &&& nI 1 = nI (btN x i) := pk_and _ 1 (by decide +kernel)
theorem btN_lt (x : Int32) (i : Nat) : btN x i < 2 := Nat.mod_lt _ (by decide)
/-- the seeds of a row of bits: f says where bit i comes -/
def rwL (sd st : Nat → Int32) (be : Nat → Int64) (wa : Int32) (f : Nat → Nat) (y : Int32) (z : FS) : Nat → FS
  | 0 => z
  | i + 1 => fsPut sd st be wa (plN (f i) 0) (nI (1 + btN y i) ||| nI 1024) (rwL sd st be wa f y z i)
def bgS (st : Nat → Int32) : Nat → Int32 := rsF (flI st (nI 0) 100) 5
def ctSd (sd : Nat → Int32) : Nat → Int32 := adS (adS (adS (adS (adS (adS (adS sd 1 1 0 0 0) 2 2 0 0 0) 3 0 0 0 4) 4 1 3 1 3) 5 2 4 1 3) 6 2 3 2 3) 7 1 4 2 4
def ctBe (be : Nat → Int64) : Nat → Int64 := adB (adB (adB (adB (adB (adB (adB (flJ be 0 400) 1 1 0 0 0) 2 2 0 0 0) 3 0 0 0 4) 4 1 3 1 3) 5 2 4 1 3) 6 2 3 2 3) 7 1 4 2 4
def ruSd (sd : Nat → Int32) (r : Int32) : Nat → Int32 := adS (adS (adS (adS (adS (adS (adS sd 1 1 0 0 0) 2 2 0 0 0) 3 0 3 0 0) 4 (1 + btN r 0) 3 1 3) 5 (1 + btN r 1) 4 2 3) 6 (1 + btN r 2) 3 1 4) 7 (1 + btN r 3) 4 2 4
def ruBe (be : Nat → Int64) (r : Int32) : Nat → Int64 := adB (adB (adB (adB (adB (adB (adB (flJ be 0 400) 1 1 0 0 0) 2 2 0 0 0) 3 0 3 0 0) 4 (1 + btN r 0) 3 1 3) 5 (1 + btN r 1) 4 2 3) 6 (1 + btN r 2) 3 1 4) 7 (1 + btN r 3) 4 2 4
theorem okSd_upd {sd : Nat → Int32} (h : okSd sd) (j : Nat) {a : Nat} (ha : a < 100) : okSd (upd sd j (nI a)) := by
  intro i hi
  unfold upd
  by_cases e : i = j
  · rw [if_pos e, nn_nI (by omega)]
    exact ⟨rfl, ha⟩
  · rw [if_neg e]
    exact h i hi
theorem okSd_adS {sd : Nat → Int32} (h : okSd sd) (t : Nat) {a b c d : Nat} (ha : a < 100) (hb : b < 100) (hc : c < 100) (hd : d < 100) : okSd (adS sd t a b c d) :=
  okSd_upd (okSd_upd (okSd_upd (okSd_upd h _ ha) _ hb) _ hc) _ hd
theorem okSt_bgS (st : Nat → Int32) : okSt (bgS st) := by
  intro i hi
  unfold bgS rsF flI
  by_cases h : 1 ≤ i ∧ i < 5
  · rw [if_pos h]; decide +kernel
  · rw [if_neg h, if_pos hi]; decide +kernel
theorem okSd_ct {sd : Nat → Int32} (h : okSd sd) : okSd (ctSd sd) := by
  unfold ctSd
  iterate 7 refine okSd_adS ?_ _ (by decide) (by decide) (by decide) (by decide)
  exact h
theorem okSd_ru {sd : Nat → Int32} (h : okSd sd) (r : Int32) : okSd (ruSd sd r) := by
  have h0 := btN_lt r 0
  have h1 := btN_lt r 1
  have h2 := btN_lt r 2
  have h3 := btN_lt r 3
  unfold ruSd
  iterate 7 refine okSd_adS ?_ _ (by omega) (by omega) (by omega) (by omega)
  exact h
set_option maxHeartbeats 4000000 in
set_option maxRecDepth 100000 in
theorem lp_k_FD_copySeeds_6 {p : Program} {l : Launch} {e : Env} {s : State} {m : MethodId} {args : Array Value} {below : List Frame} {meth : Method} {c : Code} {D : va_G} {cI cJ : ClassId} {Q : State → Prop} {A : Nat → Prop} (f0 : Nat) (f1 : Nat) (f2 : Nat) (f3 : Nat) (f4 : Nat) (o1 : Nat) (np : Int32) (ns : Int32) (aw : Int32) (s1 : Nat) (s2 : Nat) (s3 : Nat) (ty : Int32) (wa : Int32) (st : Nat → Int32) (sd : Nat → Int32) (be : Nat → Int64) (ce : Nat → Int32) (oq : Nat → Int64) (rp : Nat → Int32) (tl : Nat → Int32) (g0 : Nat) (g1 : Nat) (g2 : Nat) (g3 : Nat) (g4 : Nat) (mp : Int32) (ms : Int32) (mw : Int32) (gc : Nat → Int32) (hce : okCe (wiC ce 1764)) (hsd : okSd sd) (hst : okSt st) (hgc : okCe gc) (hgs : ∀ i, i < 1764 → sdN (gc i) ≠ 0 → 43 ≤ i ∧ i ≤ 1720)  (hx : p.tables.exec = Jvm.exec) (hb : c.code = c_FD_copySeeds) (hml : c.maxLocals = 3) (hown : s.vm.findClass R_FD = some m.cls) (hw : ∀ w ∈ gw, w.before args s = true) (hE : En D cI cJ s) (hX : Sx A s s.heap) (hA : ∀ q : Nat, s.heap.size ≤ q → A q)
    (kx0 : ∀ (z9 : FS), (z9 = csL sd st be wa gc (fsW (ce, oq, rp, tl, np, ns, aw)) 1764) → ∀ (H : Heap) (locs : List Loc) (ls : Array Slot), va_P D vwCl [(f0, .inr (2, [.ref o1, .ref f1, .ref f2, .ref f3, .ref f4, .int z9.2.2.2.2.1, .int z9.2.2.2.2.2.1, .int z9.2.2.2.2.2.2])), (f1, .inl (cI, 1764, .inl z9.1)), (f2, .inl (cJ, 1764, .inr (.inl z9.2.1))), (f3, .inl (cI, 42, .inl z9.2.2.1)), (f4, .inl (cI, 61, .inl z9.2.2.2.1)), (g0, .inr (2, [.ref o1, .ref g1, .ref g2, .ref g3, .ref g4, .int mp, .int ms, .int mw])), (g1, .inl (cI, 1764, .inl gc)), (o1, .inr (1, [.ref s1, .ref s2, .ref s3, .int ty, .int wa])), (s1, .inl (cI, 100, .inl st)), (s2, .inl (cI, 244, .inl sd)), (s3, .inl (cJ, 400, .inr (.inl be)))] H → va_D A [(f0, .inr (2, [.ref o1, .ref f1, .ref f2, .ref f3, .ref f4, .int z9.2.2.2.2.1, .int z9.2.2.2.2.2.1, .int z9.2.2.2.2.2.2])), (f1, .inl (cI, 1764, .inl z9.1)), (f2, .inl (cJ, 1764, .inr (.inl z9.2.1))), (f3, .inl (cI, 42, .inl z9.2.2.1)), (f4, .inl (cI, 61, .inl z9.2.2.2.1)), (g0, .inr (2, [.ref o1, .ref g1, .ref g2, .ref g3, .ref g4, .int mp, .int ms, .int mw])), (g1, .inl (cI, 1764, .inl gc)), (o1, .inr (1, [.ref s1, .ref s2, .ref s3, .int ty, .int wa])), (s1, .inl (cI, 100, .inl st)), (s2, .inl (cI, 244, .inl sd)), (s3, .inl (cJ, 400, .inr (.inl be)))] → va_S A s.heap H locs → lv_has ls 3 [(0, .ref f0)] → W p l e ({ frames := 4, cells := 0, slots := 0, locals := 104 } : Room) s m args below meth c H locs 0 0 Q (F0 m 40 ls [])) :
    ∀ (fu : Nat) (i : Nat) (z9 : FS), 1764 - i < fu → (i ≤ 1764) → (z9 = csL sd st be wa gc (fsW (ce, oq, rp, tl, np, ns, aw)) i) → (okCe z9.1) → ∀ (H : Heap) (locs : List Loc) (ls : Array Slot), va_P D vwCl [(f0, .inr (2, [.ref o1, .ref f1, .ref f2, .ref f3, .ref f4, .int z9.2.2.2.2.1, .int z9.2.2.2.2.2.1, .int z9.2.2.2.2.2.2])), (f1, .inl (cI, 1764, .inl z9.1)), (f2, .inl (cJ, 1764, .inr (.inl z9.2.1))), (f3, .inl (cI, 42, .inl z9.2.2.1)), (f4, .inl (cI, 61, .inl z9.2.2.2.1)), (g0, .inr (2, [.ref o1, .ref g1, .ref g2, .ref g3, .ref g4, .int mp, .int ms, .int mw])), (g1, .inl (cI, 1764, .inl gc)), (o1, .inr (1, [.ref s1, .ref s2, .ref s3, .int ty, .int wa])), (s1, .inl (cI, 100, .inl st)), (s2, .inl (cI, 244, .inl sd)), (s3, .inl (cJ, 400, .inr (.inl be)))] H → va_D A [(f0, .inr (2, [.ref o1, .ref f1, .ref f2, .ref f3, .ref f4, .int z9.2.2.2.2.1, .int z9.2.2.2.2.2.1, .int z9.2.2.2.2.2.2])), (f1, .inl (cI, 1764, .inl z9.1)), (f2, .inl (cJ, 1764, .inr (.inl z9.2.1))), (f3, .inl (cI, 42, .inl z9.2.2.1)), (f4, .inl (cI, 61, .inl z9.2.2.2.1)), (g0, .inr (2, [.ref o1, .ref g1, .ref g2, .ref g3, .ref g4, .int mp, .int ms, .int mw])), (g1, .inl (cI, 1764, .inl gc)), (o1, .inr (1, [.ref s1, .ref s2, .ref s3, .int ty, .int wa])), (s1, .inl (cI, 100, .inl st)), (s2, .inl (cI, 244, .inl sd)), (s3, .inl (cJ, 400, .inr (.inl be)))] → va_S A s.heap H locs → lv_has ls 3 [(0, .ref f0), (1, .ref g0), (2, .int (nI i))] → W p l e ({ frames := 4, cells := 0, slots := 0, locals := 104 } : Room) s m args below meth c H locs 0 0 Q (F0 m 6 ls []) := by
  intro fu
  induction fu with
  | zero =>
    intro i z9 h0
    exact absurd h0 (Nat.not_lt_zero _)
  | succ fu ih =>
    intro i z9 hmu hi hz hok H locs ls hP hD hS hl
    refine lv_iload_n hx hb d_FD_copySeeds_6 rfl (lv_at hl 2 rfl) ?_
    refine lv_sipush (v := nI 1764) hx hb d_FD_copySeeds_7 (by decide +kernel) ?_
    refine jn_icmp_ge (tgt := 40) (a := i) (b := 1764) hx hb d_FD_copySeeds_10 (by decide) (by omega) (by omega) (fun c_10 => ?_) (fun c_10 => ?_)
    · skip
      exact kx0 z9 (by rw [hz, show i = 1764 by omega]) _ _ _ (hP.sub [0, 1, 2, 3, 4, 5, 6, 7, 8, 9, 10] rfl) (hD.sub [0, 1, 2, 3, 4, 5, 6, 7, 8, 9, 10] (by decide) rfl) hS (lv_sub hl [0] rfl)
    · skip
      refine lv_aload_n hx hb d_FD_copySeeds_13 rfl (lv_at hl 1 rfl) ?_
      refine lv_iload_n hx hb d_FD_copySeeds_14 rfl (lv_at hl 2 rfl) ?_
      refine vp_callSi (va_Run.run (va_runV (As := [.int (nI i)]) (rest := []) ⟨hx, hb, hml, hown, hw⟩ (k_FD_isSeed l D cI cJ g0 g1 g2 g3 g4 o1 mp ms mw gc i (by omega)) (cwV 1 hw (gV kw_438 kw_439 kw_440 kw_42 kw_441) rfl rfl rfl (by decide +kernel) ⟨Nat.le_of_ble_eq_true rfl, Nat.le_of_ble_eq_true rfl⟩) (pre_Vp (wc := [(g0, .inr (2, [.ref o1, .ref g1, .ref g2, .ref g3, .ref g4, .int mp, .int ms, .int mw])), (g1, .inl (cI, 1764, .inl gc))]) (q0 := 0) hE hX hP hS [5, 6] rfl rfl rfl) rfl rfl hl.1 rfl (lv_room (Nat.le_of_ble_eq_true rfl)) d_FD_copySeeds_15 ⟨Nat.le_of_ble_eq_true rfl, Nat.le_of_ble_eq_true rfl⟩)) (fun r_1 hr_1 => ?_)
      obtain rfl : nI (sdN (gc i)) = r_1 := hr_1.symm
      refine jn_if_eq (tgt := 34) (a := (sdN (gc i))) hx hb d_FD_copySeeds_18 (by decide) (by have := sdN_le (gc i); omega) (fun c_18 => ?_) (fun c_18 => ?_)
      · skip
        refine lv_iinc (v := nI (i + 1)) (lv' := [(2, .int (nI (i + 1))), (0, .ref f0), (1, .ref g0)]) hx hb d_FD_copySeeds_34 hl (k := 2) rfl (jn_inc i 1) (by decide) rfl (fun ls hl => ?_)
        refine lv_goto (tgt := 6) hx hb d_FD_copySeeds_37 (by decide) ?_
        exact ih (i + 1) z9 (by omega) (by omega) (by rw [csL, ← hz, if_pos c_18]) hok _ _ _ (hP.sub [0, 1, 2, 3, 4, 5, 6, 7, 8, 9, 10] rfl) (hD.sub [0, 1, 2, 3, 4, 5, 6, 7, 8, 9, 10] (by decide) rfl) hS (lv_sub hl [1, 2, 0] rfl)
      · skip
        refine lv_aload_n hx hb d_FD_copySeeds_21 rfl (lv_at hl 0 rfl) ?_
        refine lv_iload_n hx hb d_FD_copySeeds_22 rfl (lv_at hl 2 rfl) ?_
        refine lv_aload_n hx hb d_FD_copySeeds_23 rfl (lv_at hl 1 rfl) ?_
        refine lv_iload_n hx hb d_FD_copySeeds_24 rfl (lv_at hl 2 rfl) ?_
        refine vp_callSi (va_Run.run (va_runV (As := [.int (nI i)]) (rest := [.int (nI i), .ref f0]) ⟨hx, hb, hml, hown, hw⟩ (k_FD_typeAt l D cI cJ g0 g1 g2 g3 g4 o1 mp ms mw gc i (by omega)) (cwV 1 hw (gV kw_437 kw_422 kw_423 kw_42 kw_424) rfl rfl rfl (by decide +kernel) ⟨Nat.le_of_ble_eq_true rfl, Nat.le_of_ble_eq_true rfl⟩) (pre_Vp (wc := [(g0, .inr (2, [.ref o1, .ref g1, .ref g2, .ref g3, .ref g4, .int mp, .int ms, .int mw])), (g1, .inl (cI, 1764, .inl gc))]) (q0 := 0) hE hX hP hS [5, 6] rfl rfl rfl) rfl rfl hl.1 rfl (lv_room (Nat.le_of_ble_eq_true rfl)) d_FD_copySeeds_25 ⟨Nat.le_of_ble_eq_true rfl, Nat.le_of_ble_eq_true rfl⟩)) (fun r_2 hr_2 => ?_)
        obtain rfl : nI (tyN (gc i)) = r_2 := hr_2.symm
        refine vp_callSi (va_Run.run (va_runSN (As := [.int (nI (tyN (gc i)))]) (rest := [.int (nI i), .ref f0]) ⟨hx, hb, hml, hown, hw⟩ (k_TB_seedOf l D cI cJ (nI (tyN (gc i)))) (⟨va_cnB 1 hw (gI kw_432) rfl rfl rfl (hE.2.1 _ (List.mem_of_getElem? (i := 8) rfl)) (hw _ kw_40) (by decide +kernel) ⟨Nat.le_of_ble_eq_true rfl, Nat.le_of_ble_eq_true rfl⟩, hw _ kw_431, trivial⟩) (pre_Sp (wc := []) hE hX hP hS [] rfl) rfl rfl hl.1 rfl (lv_room (Nat.le_of_ble_eq_true rfl)) d_FD_copySeeds_28 ⟨Nat.le_of_ble_eq_true rfl, Nat.le_of_ble_eq_true rfl⟩)) (fun r_3 hr_3 => ?_)
        obtain rfl : (nI (tyN (gc i))) ||| nI 1024 = r_3 := hr_3.symm
        refine cl_v (wr := [(g0, .inr (2, [.ref o1, .ref g1, .ref g2, .ref g3, .ref g4, .int mp, .int ms, .int mw])), (g1, .inl (cI, 1764, .inl gc))]) (va_runV (As := [.int (nI i), .int ((nI (tyN (gc i))) ||| nI 1024)]) (rest := []) ⟨hx, hb, hml, hown, hw⟩ (k_FD_put l D cI cJ f0 f1 f2 f3 f4 o1 z9.2.2.2.2.1 z9.2.2.2.2.2.1 z9.2.2.2.2.2.2 s1 s2 s3 ty wa st sd be z9.1 z9.2.1 z9.2.2.1 i z9.2.2.2.1 ((nI (tyN (gc i))) ||| nI 1024) _ (hgs i (by omega) c_18).1 (hgs i (by omega) c_18).2 hok hsd hst (by rw [tyN_seed (tyN_lt _)]; exact (hgc i (by omega)).1)) (cwV 2 hw (gV kw_504 kw_434 kw_435 kw_42 kw_436) rfl rfl rfl (by decide +kernel) ⟨Nat.le_of_ble_eq_true rfl, Nat.le_of_ble_eq_true rfl⟩) (pre_Vw (wc := [(f0, .inr (2, [.ref o1, .ref f1, .ref f2, .ref f3, .ref f4, .int z9.2.2.2.2.1, .int z9.2.2.2.2.2.1, .int z9.2.2.2.2.2.2])), (f1, .inl (cI, 1764, .inl z9.1)), (f2, .inl (cJ, 1764, .inr (.inl z9.2.1))), (f3, .inl (cI, 42, .inl z9.2.2.1)), (f4, .inl (cI, 61, .inl z9.2.2.2.1)), (o1, .inr (1, [.ref s1, .ref s2, .ref s3, .int ty, .int wa])), (s1, .inl (cI, 100, .inl st)), (s2, .inl (cI, 244, .inl sd)), (s3, .inl (cJ, 400, .inr (.inl be)))]) (q0 := 0) hE hX hA hP hD hS [0, 1, 2, 3, 4, 7, 8, 9, 10] (by decide) rfl rfl rfl rfl) rfl rfl hl.1 rfl (lv_room (Nat.le_of_ble_eq_true rfl)) d_FD_copySeeds_31 ⟨Nat.le_of_ble_eq_true rfl, Nat.le_of_ble_eq_true rfl⟩) hP hD hS hA [0, 1, 2, 3, 4, 7, 8, 9, 10] [5, 6] rfl rfl (by decide) (by decide) (fun u_r_4 H locs hr_4 hP hD hS => ?_)
        have hP : va_P D vwCl [(g0, .inr (2, [.ref o1, .ref g1, .ref g2, .ref g3, .ref g4, .int mp, .int ms, .int mw])), (g1, .inl (cI, 1764, .inl gc)), (f0, .inr (2, [.ref o1, .ref f1, .ref f2, .ref f3, .ref f4, .int ((raL (upd z9.1 i ((nI (tyN (gc i))) ||| nI 1024)) sd st be wa i (z9.2.1, z9.2.2.1, z9.2.2.2.2.1) 5).2.2), .int (nsP z9.2.2.2.2.2.1 ((nI (tyN (gc i))) ||| nI 1024)), .int z9.2.2.2.2.2.2])), (f1, .inl (cI, 1764, .inl (upd z9.1 i ((nI (tyN (gc i))) ||| nI 1024)))), (f2, .inl (cJ, 1764, .inr (.inl ((raL (upd z9.1 i ((nI (tyN (gc i))) ||| nI 1024)) sd st be wa i (z9.2.1, z9.2.2.1, z9.2.2.2.2.1) 5).1)))), (f3, .inl (cI, 42, .inl ((raL (upd z9.1 i ((nI (tyN (gc i))) ||| nI 1024)) sd st be wa i (z9.2.1, z9.2.2.1, z9.2.2.2.2.1) 5).2.1))), (f4, .inl (cI, 61, .inl (tlP z9.2.2.2.1 ((nI (tyN (gc i))) ||| nI 1024)))), (o1, .inr (1, [.ref s1, .ref s2, .ref s3, .int ty, .int wa])), (s1, .inl (cI, 100, .inl st)), (s2, .inl (cI, 244, .inl sd)), (s3, .inl (cJ, 400, .inr (.inl be)))] H := hP
        have hD : va_D A [(g0, .inr (2, [.ref o1, .ref g1, .ref g2, .ref g3, .ref g4, .int mp, .int ms, .int mw])), (g1, .inl (cI, 1764, .inl gc)), (f0, .inr (2, [.ref o1, .ref f1, .ref f2, .ref f3, .ref f4, .int ((raL (upd z9.1 i ((nI (tyN (gc i))) ||| nI 1024)) sd st be wa i (z9.2.1, z9.2.2.1, z9.2.2.2.2.1) 5).2.2), .int (nsP z9.2.2.2.2.2.1 ((nI (tyN (gc i))) ||| nI 1024)), .int z9.2.2.2.2.2.2])), (f1, .inl (cI, 1764, .inl (upd z9.1 i ((nI (tyN (gc i))) ||| nI 1024)))), (f2, .inl (cJ, 1764, .inr (.inl ((raL (upd z9.1 i ((nI (tyN (gc i))) ||| nI 1024)) sd st be wa i (z9.2.1, z9.2.2.1, z9.2.2.2.2.1) 5).1)))), (f3, .inl (cI, 42, .inl ((raL (upd z9.1 i ((nI (tyN (gc i))) ||| nI 1024)) sd st be wa i (z9.2.1, z9.2.2.1, z9.2.2.2.2.1) 5).2.1))), (f4, .inl (cI, 61, .inl (tlP z9.2.2.2.1 ((nI (tyN (gc i))) ||| nI 1024)))), (o1, .inr (1, [.ref s1, .ref s2, .ref s3, .int ty, .int wa])), (s1, .inl (cI, 100, .inl st)), (s2, .inl (cI, 244, .inl sd)), (s3, .inl (cJ, 400, .inr (.inl be)))] := hD
        refine lv_iinc (v := nI (i + 1)) (lv' := [(2, .int (nI (i + 1))), (0, .ref f0), (1, .ref g0)]) hx hb d_FD_copySeeds_34 hl (k := 2) rfl (jn_inc i 1) (by decide) rfl (fun ls hl => ?_)
        refine lv_goto (tgt := 6) hx hb d_FD_copySeeds_37 (by decide) ?_
        exact ih (i + 1) (fsPut sd st be wa i (nI (tyN (gc i)) ||| nI 1024) z9) (by omega) (by omega) (by rw [csL, ← hz, if_neg c_18]) (okCe_upd hok (hgs i (by omega) c_18).1 (hgs i (by omega) c_18).2 (by rw [tyN_seed (tyN_lt _)]; exact (hgc i (by omega)).1)) _ _ _ (hP.sub [2, 3, 4, 5, 6, 0, 1, 7, 8, 9, 10] rfl) (hD.sub [2, 3, 4, 5, 6, 0, 1, 7, 8, 9, 10] (by decide) rfl) hS (lv_sub hl [1, 2, 0] rfl)
set_option maxHeartbeats 4000000 in
set_option maxRecDepth 100000 in
/-- copySeeds -/
theorem k_FD_copySeeds (l : Launch) (D : va_G) (cI cJ : ClassId) (f0 : Nat) (f1 : Nat) (f2 : Nat) (f3 : Nat) (f4 : Nat) (o1 : Nat) (np : Int32) (ns : Int32) (aw : Int32) (s1 : Nat) (s2 : Nat) (s3 : Nat) (ty : Int32) (wa : Int32) (st : Nat → Int32) (sd : Nat → Int32) (be : Nat → Int64) (ce : Nat → Int32) (oq : Nat → Int64) (rp : Nat → Int32) (tl : Nat → Int32) (g0 : Nat) (g1 : Nat) (g2 : Nat) (g3 : Nat) (g4 : Nat) (mp : Int32) (ms : Int32) (mw : Int32) (gc : Nat → Int32) (sz : Nat) (hce : okCe (wiC ce 1764)) (hsd : okSd sd) (hst : okSt st) (hgc : okCe gc) (hgs : ∀ i, i < 1764 → sdN (gc i) ≠ 0 → 43 ≤ i ∧ i ≤ 1720) : Met l y_FD_copySeeds ws_FD_copySeeds ({ frames := 4, cells := 0, slots := 0, locals := 104 } : Room) (va_Pc [.ref f0, .ref g0] (Pw D cI cJ [(f0, .inr (2, [.ref o1, .ref f1, .ref f2, .ref f3, .ref f4, .int np, .int ns, .int aw])), (f1, .inl (cI, 1764, .inl ce)), (f2, .inl (cJ, 1764, .inr (.inl oq))), (f3, .inl (cI, 42, .inl rp)), (f4, .inl (cI, 61, .inl tl)), (g0, .inr (2, [.ref o1, .ref g1, .ref g2, .ref g3, .ref g4, .int mp, .int ms, .int mw])), (g1, .inl (cI, 1764, .inl gc)), (o1, .inr (1, [.ref s1, .ref s2, .ref s3, .int ty, .int wa])), (s1, .inl (cI, 100, .inl st)), (s2, .inl (cI, 244, .inl sd)), (s3, .inl (cJ, 400, .inr (.inl be)))] sz)) (va_Qv (fun (u9 : FS) => u9 = csL sd st be wa gc (fsW (ce, oq, rp, tl, np, ns, aw)) 1764) (fun u9 t9 => Bw D (va_A [(f0, .inr (2, [.ref o1, .ref f1, .ref f2, .ref f3, .ref f4, .int np, .int ns, .int aw])), (f1, .inl (cI, 1764, .inl ce)), (f2, .inl (cJ, 1764, .inr (.inl oq))), (f3, .inl (cI, 42, .inl rp)), (f4, .inl (cI, 61, .inl tl)), (g0, .inr (2, [.ref o1, .ref g1, .ref g2, .ref g3, .ref g4, .int mp, .int ms, .int mw])), (g1, .inl (cI, 1764, .inl gc)), (o1, .inr (1, [.ref s1, .ref s2, .ref s3, .int ty, .int wa])), (s1, .inl (cI, 100, .inl st)), (s2, .inl (cI, 244, .inl sd)), (s3, .inl (cJ, 400, .inr (.inl be)))] sz) [(f0, .inr (2, [.ref o1, .ref f1, .ref f2, .ref f3, .ref f4, .int u9.2.2.2.2.1, .int u9.2.2.2.2.2.1, .int u9.2.2.2.2.2.2])), (f1, .inl (cI, 1764, .inl u9.1)), (f2, .inl (cJ, 1764, .inr (.inl u9.2.1))), (f3, .inl (cI, 42, .inl u9.2.2.1)), (f4, .inl (cI, 61, .inl u9.2.2.2.1)), (g0, .inr (2, [.ref o1, .ref g1, .ref g2, .ref g3, .ref g4, .int mp, .int ms, .int mw])), (g1, .inl (cI, 1764, .inl gc)), (o1, .inr (1, [.ref s1, .ref s2, .ref s3, .int ty, .int wa])), (s1, .inl (cI, 100, .inl st)), (s2, .inl (cI, 244, .inl sd)), (s3, .inl (cJ, 400, .inr (.inl be)))] t9) (va_A [(f0, .inr (2, [.ref o1, .ref f1, .ref f2, .ref f3, .ref f4, .int np, .int ns, .int aw])), (f1, .inl (cI, 1764, .inl ce)), (f2, .inl (cJ, 1764, .inr (.inl oq))), (f3, .inl (cI, 42, .inl rp)), (f4, .inl (cI, 61, .inl tl)), (g0, .inr (2, [.ref o1, .ref g1, .ref g2, .ref g3, .ref g4, .int mp, .int ms, .int mw])), (g1, .inl (cI, 1764, .inl gc)), (o1, .inr (1, [.ref s1, .ref s2, .ref s3, .int ty, .int wa])), (s1, .inl (cI, 100, .inl st)), (s2, .inl (cI, 244, .inl sd)), (s3, .inl (cJ, 400, .inr (.inl be)))] sz)) 0 0 (va_A [(f0, .inr (2, [.ref o1, .ref f1, .ref f2, .ref f3, .ref f4, .int np, .int ns, .int aw])), (f1, .inl (cI, 1764, .inl ce)), (f2, .inl (cJ, 1764, .inr (.inl oq))), (f3, .inl (cI, 42, .inl rp)), (f4, .inl (cI, 61, .inl tl)), (g0, .inr (2, [.ref o1, .ref g1, .ref g2, .ref g3, .ref g4, .int mp, .int ms, .int mw])), (g1, .inl (cI, 1764, .inl gc)), (o1, .inr (1, [.ref s1, .ref s2, .ref s3, .int ty, .int wa])), (s1, .inl (cI, 100, .inl st)), (s2, .inl (cI, 244, .inl sd)), (s3, .inl (cJ, 400, .inr (.inl be)))] sz) := by
  refine Met.ofW (cc := c_FD_copySeeds) (maxL := 3) (ret := none) (by decide) rfl ?_
  intro p e s m args below meth c s₁ B hml hv
  obtain ⟨rfl, hsz, hE, hP, hD0, hX⟩ := hv
  have hx := B.exec
  have hb := B.bytes
  have hr := B.returns
  have hw : ∀ w ∈ gw, w.before _ s = true := fun w h => atoms_spec (ws := ws_FD_copySeeds) B.pre w (List.mem_cons_of_mem _ h)
  have hown : s.vm.findClass R_FD = some m.cls := findClass_of_methodNamed B.named
  have hlocks := B.notSynchronized
  subst hsz
  have hD := hD0.self (sz := s.heap.size)
  generalize hAe : va_A [(f0, .inr (2, [.ref o1, .ref f1, .ref f2, .ref f3, .ref f4, .int np, .int ns, .int aw])), (f1, .inl (cI, 1764, .inl ce)), (f2, .inl (cJ, 1764, .inr (.inl oq))), (f3, .inl (cI, 42, .inl rp)), (f4, .inl (cI, 61, .inl tl)), (g0, .inr (2, [.ref o1, .ref g1, .ref g2, .ref g3, .ref g4, .int mp, .int ms, .int mw])), (g1, .inl (cI, 1764, .inl gc)), (o1, .inr (1, [.ref s1, .ref s2, .ref s3, .int ty, .int wa])), (s1, .inl (cI, 100, .inl st)), (s2, .inl (cI, 244, .inl sd)), (s3, .inl (cJ, 400, .inr (.inl be)))] s.heap.size = A at hD hX ⊢
  have hA : ∀ q : Nat, s.heap.size ≤ q → A q := fun q h => by rw [← hAe]; exact Or.inr h
  have hS : va_S A s.heap s.heap [] := va_S.rf
  have hP : va_P D vwCl [(f0, .inr (2, [.ref o1, .ref f1, .ref f2, .ref f3, .ref f4, .int np, .int ns, .int aw])), (f1, .inl (cI, 1764, .inl ce)), (f2, .inl (cJ, 1764, .inr (.inl oq))), (f3, .inl (cI, 42, .inl rp)), (f4, .inl (cI, 61, .inl tl)), (g0, .inr (2, [.ref o1, .ref g1, .ref g2, .ref g3, .ref g4, .int mp, .int ms, .int mw])), (g1, .inl (cI, 1764, .inl gc)), (o1, .inr (1, [.ref s1, .ref s2, .ref s3, .int ty, .int wa])), (s1, .inl (cI, 100, .inl st)), (s2, .inl (cI, 244, .inl sd)), (s3, .inl (cJ, 400, .inr (.inl be)))] s.heap := hP
  have hl := lv_entry ([.ref f0, .ref g0]) (n := 3) (Nat.le_of_ble_eq_true rfl)
  rw [lg_entry_eq]
  generalize (lg_sl ([.ref f0, .ref g0]) ++ List.replicate (3 - (lg_sl ([.ref f0, .ref g0])).length) Slot.unset).toArray = ls at hl ⊢
  have hl : lv_has ls 3 [(0, .ref f0), (1, .ref g0)] := hl
  refine lv_aload_n hx hb d_FD_copySeeds_0 rfl (lv_at hl 0 rfl) ?_
  refine cl_v (wr := [(g0, .inr (2, [.ref o1, .ref g1, .ref g2, .ref g3, .ref g4, .int mp, .int ms, .int mw])), (g1, .inl (cI, 1764, .inl gc)), (o1, .inr (1, [.ref s1, .ref s2, .ref s3, .int ty, .int wa])), (s1, .inl (cI, 100, .inl st)), (s2, .inl (cI, 244, .inl sd)), (s3, .inl (cJ, 400, .inr (.inl be)))]) (va_runV (As := []) (rest := []) ⟨hx, hb, hml, hown, hw⟩ (k_FD_wipe l D cI cJ f0 f1 f2 f3 f4 o1 np ns aw ce oq rp tl _) (cwV 0 hw (gV kw_642 kw_204 kw_205 kw_42 kw_206) rfl rfl rfl (by decide +kernel) ⟨Nat.le_of_ble_eq_true rfl, Nat.le_of_ble_eq_true rfl⟩) (pre_Vw (wc := [(f0, .inr (2, [.ref o1, .ref f1, .ref f2, .ref f3, .ref f4, .int np, .int ns, .int aw])), (f1, .inl (cI, 1764, .inl ce)), (f2, .inl (cJ, 1764, .inr (.inl oq))), (f3, .inl (cI, 42, .inl rp)), (f4, .inl (cI, 61, .inl tl))]) (q0 := 0) hE hX hA hP hD hS [0, 1, 2, 3, 4] (by decide) rfl rfl rfl rfl) rfl rfl hl.1 rfl (lv_room (Nat.le_of_ble_eq_true rfl)) d_FD_copySeeds_1 ⟨Nat.le_of_ble_eq_true rfl, Nat.le_of_ble_eq_true rfl⟩) hP hD hS hA [0, 1, 2, 3, 4] [5, 6, 7, 8, 9, 10] rfl rfl (by decide) (by decide) (fun u_r_1 H locs hr_1 hP hD hS => ?_)
  have hP : va_P D vwCl [(g0, .inr (2, [.ref o1, .ref g1, .ref g2, .ref g3, .ref g4, .int mp, .int ms, .int mw])), (g1, .inl (cI, 1764, .inl gc)), (o1, .inr (1, [.ref s1, .ref s2, .ref s3, .int ty, .int wa])), (s1, .inl (cI, 100, .inl st)), (s2, .inl (cI, 244, .inl sd)), (s3, .inl (cJ, 400, .inr (.inl be))), (f0, .inr (2, [.ref o1, .ref f1, .ref f2, .ref f3, .ref f4, .int (nI 0), .int (nI 0), .int (nI 0)])), (f1, .inl (cI, 1764, .inl (wiC ce 1764))), (f2, .inl (cJ, 1764, .inr (.inl (flJ oq 0 1764)))), (f3, .inl (cI, 42, .inl (flI rp (nI 0) 42))), (f4, .inl (cI, 61, .inl (flI tl (nI 0) 61)))] H := hP
  have hD : va_D A [(g0, .inr (2, [.ref o1, .ref g1, .ref g2, .ref g3, .ref g4, .int mp, .int ms, .int mw])), (g1, .inl (cI, 1764, .inl gc)), (o1, .inr (1, [.ref s1, .ref s2, .ref s3, .int ty, .int wa])), (s1, .inl (cI, 100, .inl st)), (s2, .inl (cI, 244, .inl sd)), (s3, .inl (cJ, 400, .inr (.inl be))), (f0, .inr (2, [.ref o1, .ref f1, .ref f2, .ref f3, .ref f4, .int (nI 0), .int (nI 0), .int (nI 0)])), (f1, .inl (cI, 1764, .inl (wiC ce 1764))), (f2, .inl (cJ, 1764, .inr (.inl (flJ oq 0 1764)))), (f3, .inl (cI, 42, .inl (flI rp (nI 0) 42))), (f4, .inl (cI, 61, .inl (flI tl (nI 0) 61)))] := hD
  refine lv_iconst (v := nI 0) hx hb d_FD_copySeeds_4 (by decide +kernel) ?_
  refine lv_istore_n (lv' := [(2, .int (nI 0)), (0, .ref f0), (1, .ref g0)]) hx hb d_FD_copySeeds_5 rfl hl (by decide) rfl (fun ls hl => ?_)
  refine lp_k_FD_copySeeds_6 f0 f1 f2 f3 f4 o1 np ns aw s1 s2 s3 ty wa st sd be ce oq rp tl g0 g1 g2 g3 g4 mp ms mw gc hce hsd hst hgc hgs hx hb hml hown hw hE hX hA (fun z9 hz H locs ls hP hD hS hl => ?_) ((1764 - 0) + 1) 0 (fsW (ce, oq, rp, tl, np, ns, aw)) (Nat.lt_succ_self _) (Nat.zero_le _) rfl hce _ _ _ (hP.sub [6, 7, 8, 9, 10, 0, 1, 2, 3, 4, 5] rfl) (hD.sub [6, 7, 8, 9, 10, 0, 1, 2, 3, 4, 5] (by decide) rfl) hS (lv_sub hl [1, 2, 0] rfl)
  have hP9 := hP.sub (ws' := [(f0, .inr (2, [.ref o1, .ref f1, .ref f2, .ref f3, .ref f4, .int z9.2.2.2.2.1, .int z9.2.2.2.2.2.1, .int z9.2.2.2.2.2.2])), (f1, .inl (cI, 1764, .inl z9.1)), (f2, .inl (cJ, 1764, .inr (.inl z9.2.1))), (f3, .inl (cI, 42, .inl z9.2.2.1)), (f4, .inl (cI, 61, .inl z9.2.2.2.1)), (g0, .inr (2, [.ref o1, .ref g1, .ref g2, .ref g3, .ref g4, .int mp, .int ms, .int mw])), (g1, .inl (cI, 1764, .inl gc)), (o1, .inr (1, [.ref s1, .ref s2, .ref s3, .int ty, .int wa])), (s1, .inl (cI, 100, .inl st)), (s2, .inl (cI, 244, .inl sd)), (s3, .inl (cJ, 400, .inr (.inl be)))]) [0, 1, 2, 3, 4, 5, 6, 7, 8, 9, 10] rfl
  have hD9 := hD.sub (ws' := [(f0, .inr (2, [.ref o1, .ref f1, .ref f2, .ref f3, .ref f4, .int z9.2.2.2.2.1, .int z9.2.2.2.2.2.1, .int z9.2.2.2.2.2.2])), (f1, .inl (cI, 1764, .inl z9.1)), (f2, .inl (cJ, 1764, .inr (.inl z9.2.1))), (f3, .inl (cI, 42, .inl z9.2.2.1)), (f4, .inl (cI, 61, .inl z9.2.2.2.1)), (g0, .inr (2, [.ref o1, .ref g1, .ref g2, .ref g3, .ref g4, .int mp, .int ms, .int mw])), (g1, .inl (cI, 1764, .inl gc)), (o1, .inr (1, [.ref s1, .ref s2, .ref s3, .int ty, .int wa])), (s1, .inl (cI, 100, .inl st)), (s2, .inl (cI, 244, .inl sd)), (s3, .inl (cJ, 400, .inr (.inl be)))]) [0, 1, 2, 3, 4, 5, 6, 7, 8, 9, 10] (by decide) rfl
  exact W.vret hx hb hr (fun t9 ht hW => ⟨⟨z9, rfl, hz, ⟨by rw [ht]; exact hP9, hD9⟩⟩, hS.F ht⟩) hS.2.2 d_FD_copySeeds_40
set_option maxHeartbeats 4000000 in
set_option maxRecDepth 100000 in
theorem lp_k_TB_plantColumn_2 {p : Program} {l : Launch} {e : Env} {s : State} {m : MethodId} {args : Array Value} {below : List Frame} {meth : Method} {c : Code} {D : va_G} {cI cJ : ClassId} {Q : State → Prop} {A : Nat → Prop} (x0 : Nat) (c0 : Nat) (e0 : Nat) (f0 : Nat) (f1 : Nat) (f2 : Nat) (f3 : Nat) (f4 : Nat) (o1 : Nat) (np : Int32) (ns : Int32) (aw : Int32) (s1 : Nat) (s2 : Nat) (s3 : Nat) (ty : Int32) (wa : Int32) (st : Nat → Int32) (sd : Nat → Int32) (be : Nat → Int64) (ce : Nat → Int32) (oq : Nat → Int64) (rp : Nat → Int32) (tl : Nat → Int32) (a : Nat) (b : Nat) (hce : okCe ce) (hsd : okSd sd) (hst : okSt st) (ha9 : a < 40) (hb9 : 1 ≤ b) (hb8 : b ≤ 40)  (hx : p.tables.exec = Jvm.exec) (hb : c.code = c_TB_plantColumn) (hml : c.maxLocals = 4) (hown : s.vm.findClass R_TB = some m.cls) (hw : ∀ w ∈ gw, w.before args s = true) (hE : En D cI cJ s) (hX : Sx A s s.heap) (hA : ∀ q : Nat, s.heap.size ≤ q → A q)
    (kx0 : ∀ (z9 : FS), (z9 = pcL sd st be wa a (ce, oq, rp, tl, np, ns, aw) (b - 1)) → ∀ (H : Heap) (locs : List Loc) (ls : Array Slot), va_P D vwCl [(x0, .inr (0, [.ref o1, .ref f0, .ref c0, .ref e0])), (f0, .inr (2, [.ref o1, .ref f1, .ref f2, .ref f3, .ref f4, .int z9.2.2.2.2.1, .int z9.2.2.2.2.2.1, .int z9.2.2.2.2.2.2])), (f1, .inl (cI, 1764, .inl z9.1)), (f2, .inl (cJ, 1764, .inr (.inl z9.2.1))), (f3, .inl (cI, 42, .inl z9.2.2.1)), (f4, .inl (cI, 61, .inl z9.2.2.2.1)), (o1, .inr (1, [.ref s1, .ref s2, .ref s3, .int ty, .int wa])), (s1, .inl (cI, 100, .inl st)), (s2, .inl (cI, 244, .inl sd)), (s3, .inl (cJ, 400, .inr (.inl be)))] H → va_D A [(x0, .inr (0, [.ref o1, .ref f0, .ref c0, .ref e0])), (f0, .inr (2, [.ref o1, .ref f1, .ref f2, .ref f3, .ref f4, .int z9.2.2.2.2.1, .int z9.2.2.2.2.2.1, .int z9.2.2.2.2.2.2])), (f1, .inl (cI, 1764, .inl z9.1)), (f2, .inl (cJ, 1764, .inr (.inl z9.2.1))), (f3, .inl (cI, 42, .inl z9.2.2.1)), (f4, .inl (cI, 61, .inl z9.2.2.2.1)), (o1, .inr (1, [.ref s1, .ref s2, .ref s3, .int ty, .int wa])), (s1, .inl (cI, 100, .inl st)), (s2, .inl (cI, 244, .inl sd)), (s3, .inl (cJ, 400, .inr (.inl be)))] → va_S A s.heap H locs → lv_has ls 4 [(0, .ref x0)] → W p l e ({ frames := 4, cells := 0, slots := 0, locals := 104 } : Room) s m args below meth c H locs 0 0 Q (F0 m 29 ls [])) :
    ∀ (fu : Nat) (y9 : Nat) (z9 : FS), b - y9 < fu → (1 ≤ y9) → (y9 ≤ b) → (z9 = pcL sd st be wa a (ce, oq, rp, tl, np, ns, aw) (y9 - 1)) → (okCe z9.1) → ∀ (H : Heap) (locs : List Loc) (ls : Array Slot), va_P D vwCl [(x0, .inr (0, [.ref o1, .ref f0, .ref c0, .ref e0])), (f0, .inr (2, [.ref o1, .ref f1, .ref f2, .ref f3, .ref f4, .int z9.2.2.2.2.1, .int z9.2.2.2.2.2.1, .int z9.2.2.2.2.2.2])), (f1, .inl (cI, 1764, .inl z9.1)), (f2, .inl (cJ, 1764, .inr (.inl z9.2.1))), (f3, .inl (cI, 42, .inl z9.2.2.1)), (f4, .inl (cI, 61, .inl z9.2.2.2.1)), (o1, .inr (1, [.ref s1, .ref s2, .ref s3, .int ty, .int wa])), (s1, .inl (cI, 100, .inl st)), (s2, .inl (cI, 244, .inl sd)), (s3, .inl (cJ, 400, .inr (.inl be)))] H → va_D A [(x0, .inr (0, [.ref o1, .ref f0, .ref c0, .ref e0])), (f0, .inr (2, [.ref o1, .ref f1, .ref f2, .ref f3, .ref f4, .int z9.2.2.2.2.1, .int z9.2.2.2.2.2.1, .int z9.2.2.2.2.2.2])), (f1, .inl (cI, 1764, .inl z9.1)), (f2, .inl (cJ, 1764, .inr (.inl z9.2.1))), (f3, .inl (cI, 42, .inl z9.2.2.1)), (f4, .inl (cI, 61, .inl z9.2.2.2.1)), (o1, .inr (1, [.ref s1, .ref s2, .ref s3, .int ty, .int wa])), (s1, .inl (cI, 100, .inl st)), (s2, .inl (cI, 244, .inl sd)), (s3, .inl (cJ, 400, .inr (.inl be)))] → va_S A s.heap H locs → lv_has ls 4 [(0, .ref x0), (1, .int (nI a)), (2, .int (nI b)), (3, .int (nI y9))] → W p l e ({ frames := 4, cells := 0, slots := 0, locals := 104 } : Room) s m args below meth c H locs 0 0 Q (F0 m 2 ls []) := by
  intro fu
  induction fu with
  | zero =>
    intro y9 z9 h0
    exact absurd h0 (Nat.not_lt_zero _)
  | succ fu ih =>
    intro y9 z9 hmu hy1 hy2 hz hok H locs ls hP hD hS hl
    refine lv_iload_n hx hb d_TB_plantColumn_2 rfl (lv_at hl 3 rfl) ?_
    refine lv_iload_n hx hb d_TB_plantColumn_3 rfl (lv_at hl 2 rfl) ?_
    refine jn_icmp_ge (tgt := 29) (a := y9) (b := b) hx hb d_TB_plantColumn_4 (by decide) (by omega) (by omega) (fun c_4 => ?_) (fun c_4 => ?_)
    · skip
      exact kx0 z9 (by rw [hz, show y9 = b by omega]) _ _ _ (hP.sub [0, 1, 2, 3, 4, 5, 6, 7, 8, 9] rfl) (hD.sub [0, 1, 2, 3, 4, 5, 6, 7, 8, 9] (by decide) rfl) hS (lv_sub hl [0] rfl)
    · skip
      refine lv_aload_n hx hb d_TB_plantColumn_7 rfl (lv_at hl 0 rfl) ?_
      refine va_get (D := D) (ci := 0) (v := .ref f0) (C := R_TB) (T := T_TB) (N := 4) hx hb hw in_TB hown hE.1 hP 0 rfl rfl 1 (by decide) (hw _ kw_183) (fun _ h9 => h9) rfl d_TB_plantColumn_8 ?_
      refine lv_iload_n hx hb d_TB_plantColumn_11 rfl (lv_at hl 1 rfl) ?_
      refine lv_iload_n hx hb d_TB_plantColumn_12 rfl (lv_at hl 3 rfl) ?_
      refine vp_callSi (va_Run.run (va_runS (As := [.int (nI a), .int (nI y9)]) (rest := [.ref f0]) ⟨hx, hb, hml, hown, hw⟩ (k_TB_placeOf l D cI cJ a y9) (va_cwS 2 hw (gS kw_418 kw_419 kw_40 kw_420) rfl rfl rfl (by decide +kernel) ⟨Nat.le_of_ble_eq_true rfl, Nat.le_of_ble_eq_true rfl⟩) (pre_Sp (wc := []) hE hX hP hS [] rfl) rfl rfl hl.1 rfl (lv_room (Nat.le_of_ble_eq_true rfl)) d_TB_plantColumn_13 ⟨Nat.le_of_ble_eq_true rfl, Nat.le_of_ble_eq_true rfl⟩)) (fun r_1 hr_1 => ?_)
      obtain rfl : nI ((y9 + 1) * 42 + a + 1) = r_1 := hr_1.symm
      refine lv_iconst (v := nI 3) hx hb d_TB_plantColumn_16 (by decide +kernel) ?_
      refine vp_callSi (va_Run.run (va_runS (As := [.int (nI 3)]) (rest := [.int (nI ((y9 + 1) * 42 + a + 1)), .ref f0]) ⟨hx, hb, hml, hown, hw⟩ (k_TB_seedOf l D cI cJ (nI 3)) (va_cwS 1 hw (gS kw_430 kw_431 kw_40 kw_432) rfl rfl rfl (by decide +kernel) ⟨Nat.le_of_ble_eq_true rfl, Nat.le_of_ble_eq_true rfl⟩) (pre_Sp (wc := []) hE hX hP hS [] rfl) rfl rfl hl.1 rfl (lv_room (Nat.le_of_ble_eq_true rfl)) d_TB_plantColumn_17 ⟨Nat.le_of_ble_eq_true rfl, Nat.le_of_ble_eq_true rfl⟩)) (fun r_2 hr_2 => ?_)
      obtain rfl : (nI 3) ||| nI 1024 = r_2 := hr_2.symm
      refine cl_v (wr := [(x0, .inr (0, [.ref o1, .ref f0, .ref c0, .ref e0]))]) (va_runV (As := [.int (nI ((y9 + 1) * 42 + a + 1)), .int ((nI 3) ||| nI 1024)]) (rest := []) ⟨hx, hb, hml, hown, hw⟩ (k_FD_put l D cI cJ f0 f1 f2 f3 f4 o1 z9.2.2.2.2.1 z9.2.2.2.2.2.1 z9.2.2.2.2.2.2 s1 s2 s3 ty wa st sd be z9.1 z9.2.1 z9.2.2.1 ((y9 + 1) * 42 + a + 1) z9.2.2.2.1 ((nI 3) ||| nI 1024) _ (pl_in ha9 (show y9 < 40 by omega)).1 (pl_in ha9 (show y9 < 40 by omega)).2 hok hsd hst (by rw [tyN_seed (by decide)]; decide)) (cwV 2 hw (gV kw_433 kw_434 kw_435 kw_42 kw_436) rfl rfl rfl (by decide +kernel) ⟨Nat.le_of_ble_eq_true rfl, Nat.le_of_ble_eq_true rfl⟩) (pre_Vw (wc := [(f0, .inr (2, [.ref o1, .ref f1, .ref f2, .ref f3, .ref f4, .int z9.2.2.2.2.1, .int z9.2.2.2.2.2.1, .int z9.2.2.2.2.2.2])), (f1, .inl (cI, 1764, .inl z9.1)), (f2, .inl (cJ, 1764, .inr (.inl z9.2.1))), (f3, .inl (cI, 42, .inl z9.2.2.1)), (f4, .inl (cI, 61, .inl z9.2.2.2.1)), (o1, .inr (1, [.ref s1, .ref s2, .ref s3, .int ty, .int wa])), (s1, .inl (cI, 100, .inl st)), (s2, .inl (cI, 244, .inl sd)), (s3, .inl (cJ, 400, .inr (.inl be)))]) (q0 := 0) hE hX hA hP hD hS [1, 2, 3, 4, 5, 6, 7, 8, 9] (by decide) rfl rfl rfl rfl) rfl rfl hl.1 rfl (lv_room (Nat.le_of_ble_eq_true rfl)) d_TB_plantColumn_20 ⟨Nat.le_of_ble_eq_true rfl, Nat.le_of_ble_eq_true rfl⟩) hP hD hS hA [1, 2, 3, 4, 5, 6, 7, 8, 9] [0] rfl rfl (by decide) (by decide) (fun u_r_3 H locs hr_3 hP hD hS => ?_)
      have hP : va_P D vwCl [(x0, .inr (0, [.ref o1, .ref f0, .ref c0, .ref e0])), (f0, .inr (2, [.ref o1, .ref f1, .ref f2, .ref f3, .ref f4, .int ((raL (upd z9.1 ((y9 + 1) * 42 + a + 1) ((nI 3) ||| nI 1024)) sd st be wa ((y9 + 1) * 42 + a + 1) (z9.2.1, z9.2.2.1, z9.2.2.2.2.1) 5).2.2), .int (nsP z9.2.2.2.2.2.1 ((nI 3) ||| nI 1024)), .int z9.2.2.2.2.2.2])), (f1, .inl (cI, 1764, .inl (upd z9.1 ((y9 + 1) * 42 + a + 1) ((nI 3) ||| nI 1024)))), (f2, .inl (cJ, 1764, .inr (.inl ((raL (upd z9.1 ((y9 + 1) * 42 + a + 1) ((nI 3) ||| nI 1024)) sd st be wa ((y9 + 1) * 42 + a + 1) (z9.2.1, z9.2.2.1, z9.2.2.2.2.1) 5).1)))), (f3, .inl (cI, 42, .inl ((raL (upd z9.1 ((y9 + 1) * 42 + a + 1) ((nI 3) ||| nI 1024)) sd st be wa ((y9 + 1) * 42 + a + 1) (z9.2.1, z9.2.2.1, z9.2.2.2.2.1) 5).2.1))), (f4, .inl (cI, 61, .inl (tlP z9.2.2.2.1 ((nI 3) ||| nI 1024)))), (o1, .inr (1, [.ref s1, .ref s2, .ref s3, .int ty, .int wa])), (s1, .inl (cI, 100, .inl st)), (s2, .inl (cI, 244, .inl sd)), (s3, .inl (cJ, 400, .inr (.inl be)))] H := hP
      have hD : va_D A [(x0, .inr (0, [.ref o1, .ref f0, .ref c0, .ref e0])), (f0, .inr (2, [.ref o1, .ref f1, .ref f2, .ref f3, .ref f4, .int ((raL (upd z9.1 ((y9 + 1) * 42 + a + 1) ((nI 3) ||| nI 1024)) sd st be wa ((y9 + 1) * 42 + a + 1) (z9.2.1, z9.2.2.1, z9.2.2.2.2.1) 5).2.2), .int (nsP z9.2.2.2.2.2.1 ((nI 3) ||| nI 1024)), .int z9.2.2.2.2.2.2])), (f1, .inl (cI, 1764, .inl (upd z9.1 ((y9 + 1) * 42 + a + 1) ((nI 3) ||| nI 1024)))), (f2, .inl (cJ, 1764, .inr (.inl ((raL (upd z9.1 ((y9 + 1) * 42 + a + 1) ((nI 3) ||| nI 1024)) sd st be wa ((y9 + 1) * 42 + a + 1) (z9.2.1, z9.2.2.1, z9.2.2.2.2.1) 5).1)))), (f3, .inl (cI, 42, .inl ((raL (upd z9.1 ((y9 + 1) * 42 + a + 1) ((nI 3) ||| nI 1024)) sd st be wa ((y9 + 1) * 42 + a + 1) (z9.2.1, z9.2.2.1, z9.2.2.2.2.1) 5).2.1))), (f4, .inl (cI, 61, .inl (tlP z9.2.2.2.1 ((nI 3) ||| nI 1024)))), (o1, .inr (1, [.ref s1, .ref s2, .ref s3, .int ty, .int wa])), (s1, .inl (cI, 100, .inl st)), (s2, .inl (cI, 244, .inl sd)), (s3, .inl (cJ, 400, .inr (.inl be)))] := hD
      refine lv_iinc (v := nI (y9 + 1)) (lv' := [(3, .int (nI (y9 + 1))), (0, .ref x0), (1, .int (nI a)), (2, .int (nI b))]) hx hb d_TB_plantColumn_23 hl (k := 3) rfl (jn_inc y9 1) (by decide) rfl (fun ls hl => ?_)
      refine lv_goto (tgt := 2) hx hb d_TB_plantColumn_26 (by decide) ?_
      exact ih (y9 + 1) (fsPut sd st be wa (plN a y9) (nI 3 ||| nI 1024) z9) (by omega) (by omega) (by omega) (by rw [show y9 + 1 - 1 = (y9 - 1) + 1 by omega, pcL, ← hz, show y9 - 1 + 1 = y9 by omega]) (okCe_upd hok (pl_in ha9 (show y9 < 40 by omega)).1 (pl_in ha9 (show y9 < 40 by omega)).2 (by rw [tyN_seed (by decide)]; decide)) _ _ _ (hP.sub [0, 1, 2, 3, 4, 5, 6, 7, 8, 9] rfl) (hD.sub [0, 1, 2, 3, 4, 5, 6, 7, 8, 9] (by decide) rfl) hS (lv_sub hl [1, 2, 3, 0] rfl)
set_option maxHeartbeats 4000000 in
set_option maxRecDepth 100000 in
/-- plantColumn -/
theorem k_TB_plantColumn (l : Launch) (D : va_G) (cI cJ : ClassId) (x0 : Nat) (c0 : Nat) (e0 : Nat) (f0 : Nat) (f1 : Nat) (f2 : Nat) (f3 : Nat) (f4 : Nat) (o1 : Nat) (np : Int32) (ns : Int32) (aw : Int32) (s1 : Nat) (s2 : Nat) (s3 : Nat) (ty : Int32) (wa : Int32) (st : Nat → Int32) (sd : Nat → Int32) (be : Nat → Int64) (ce : Nat → Int32) (oq : Nat → Int64) (rp : Nat → Int32) (tl : Nat → Int32) (a : Nat) (b : Nat) (sz : Nat) (hce : okCe ce) (hsd : okSd sd) (hst : okSt st) (ha9 : a < 40) (hb9 : 1 ≤ b) (hb8 : b ≤ 40) : Met l y_TB_plantColumn ws_TB_plantColumn ({ frames := 4, cells := 0, slots := 0, locals := 104 } : Room) (va_Pc [.ref x0, .int (nI a), .int (nI b)] (Pw D cI cJ [(x0, .inr (0, [.ref o1, .ref f0, .ref c0, .ref e0])), (f0, .inr (2, [.ref o1, .ref f1, .ref f2, .ref f3, .ref f4, .int np, .int ns, .int aw])), (f1, .inl (cI, 1764, .inl ce)), (f2, .inl (cJ, 1764, .inr (.inl oq))), (f3, .inl (cI, 42, .inl rp)), (f4, .inl (cI, 61, .inl tl)), (o1, .inr (1, [.ref s1, .ref s2, .ref s3, .int ty, .int wa])), (s1, .inl (cI, 100, .inl st)), (s2, .inl (cI, 244, .inl sd)), (s3, .inl (cJ, 400, .inr (.inl be)))] sz)) (va_Qv (fun (u9 : FS) => u9 = pcL sd st be wa a (ce, oq, rp, tl, np, ns, aw) (b - 1)) (fun u9 t9 => Bw D (va_A [(x0, .inr (0, [.ref o1, .ref f0, .ref c0, .ref e0])), (f0, .inr (2, [.ref o1, .ref f1, .ref f2, .ref f3, .ref f4, .int np, .int ns, .int aw])), (f1, .inl (cI, 1764, .inl ce)), (f2, .inl (cJ, 1764, .inr (.inl oq))), (f3, .inl (cI, 42, .inl rp)), (f4, .inl (cI, 61, .inl tl)), (o1, .inr (1, [.ref s1, .ref s2, .ref s3, .int ty, .int wa])), (s1, .inl (cI, 100, .inl st)), (s2, .inl (cI, 244, .inl sd)), (s3, .inl (cJ, 400, .inr (.inl be)))] sz) [(x0, .inr (0, [.ref o1, .ref f0, .ref c0, .ref e0])), (f0, .inr (2, [.ref o1, .ref f1, .ref f2, .ref f3, .ref f4, .int u9.2.2.2.2.1, .int u9.2.2.2.2.2.1, .int u9.2.2.2.2.2.2])), (f1, .inl (cI, 1764, .inl u9.1)), (f2, .inl (cJ, 1764, .inr (.inl u9.2.1))), (f3, .inl (cI, 42, .inl u9.2.2.1)), (f4, .inl (cI, 61, .inl u9.2.2.2.1)), (o1, .inr (1, [.ref s1, .ref s2, .ref s3, .int ty, .int wa])), (s1, .inl (cI, 100, .inl st)), (s2, .inl (cI, 244, .inl sd)), (s3, .inl (cJ, 400, .inr (.inl be)))] t9) (va_A [(x0, .inr (0, [.ref o1, .ref f0, .ref c0, .ref e0])), (f0, .inr (2, [.ref o1, .ref f1, .ref f2, .ref f3, .ref f4, .int np, .int ns, .int aw])), (f1, .inl (cI, 1764, .inl ce)), (f2, .inl (cJ, 1764, .inr (.inl oq))), (f3, .inl (cI, 42, .inl rp)), (f4, .inl (cI, 61, .inl tl)), (o1, .inr (1, [.ref s1, .ref s2, .ref s3, .int ty, .int wa])), (s1, .inl (cI, 100, .inl st)), (s2, .inl (cI, 244, .inl sd)), (s3, .inl (cJ, 400, .inr (.inl be)))] sz)) 0 0 (va_A [(x0, .inr (0, [.ref o1, .ref f0, .ref c0, .ref e0])), (f0, .inr (2, [.ref o1, .ref f1, .ref f2, .ref f3, .ref f4, .int np, .int ns, .int aw])), (f1, .inl (cI, 1764, .inl ce)), (f2, .inl (cJ, 1764, .inr (.inl oq))), (f3, .inl (cI, 42, .inl rp)), (f4, .inl (cI, 61, .inl tl)), (o1, .inr (1, [.ref s1, .ref s2, .ref s3, .int ty, .int wa])), (s1, .inl (cI, 100, .inl st)), (s2, .inl (cI, 244, .inl sd)), (s3, .inl (cJ, 400, .inr (.inl be)))] sz) := by
  refine Met.ofW (cc := c_TB_plantColumn) (maxL := 4) (ret := none) (by decide) rfl ?_
  intro p e s m args below meth c s₁ B hml hv
  obtain ⟨rfl, hsz, hE, hP, hD0, hX⟩ := hv
  have hx := B.exec
  have hb := B.bytes
  have hr := B.returns
  have hw : ∀ w ∈ gw, w.before _ s = true := fun w h => atoms_spec (ws := ws_TB_plantColumn) B.pre w (List.mem_cons_of_mem _ h)
  have hown : s.vm.findClass R_TB = some m.cls := findClass_of_methodNamed B.named
  have hlocks := B.notSynchronized
  subst hsz
  have hD := hD0.self (sz := s.heap.size)
  generalize hAe : va_A [(x0, .inr (0, [.ref o1, .ref f0, .ref c0, .ref e0])), (f0, .inr (2, [.ref o1, .ref f1, .ref f2, .ref f3, .ref f4, .int np, .int ns, .int aw])), (f1, .inl (cI, 1764, .inl ce)), (f2, .inl (cJ, 1764, .inr (.inl oq))), (f3, .inl (cI, 42, .inl rp)), (f4, .inl (cI, 61, .inl tl)), (o1, .inr (1, [.ref s1, .ref s2, .ref s3, .int ty, .int wa])), (s1, .inl (cI, 100, .inl st)), (s2, .inl (cI, 244, .inl sd)), (s3, .inl (cJ, 400, .inr (.inl be)))] s.heap.size = A at hD hX ⊢
  have hA : ∀ q : Nat, s.heap.size ≤ q → A q := fun q h => by rw [← hAe]; exact Or.inr h
  have hS : va_S A s.heap s.heap [] := va_S.rf
  have hP : va_P D vwCl [(x0, .inr (0, [.ref o1, .ref f0, .ref c0, .ref e0])), (f0, .inr (2, [.ref o1, .ref f1, .ref f2, .ref f3, .ref f4, .int np, .int ns, .int aw])), (f1, .inl (cI, 1764, .inl ce)), (f2, .inl (cJ, 1764, .inr (.inl oq))), (f3, .inl (cI, 42, .inl rp)), (f4, .inl (cI, 61, .inl tl)), (o1, .inr (1, [.ref s1, .ref s2, .ref s3, .int ty, .int wa])), (s1, .inl (cI, 100, .inl st)), (s2, .inl (cI, 244, .inl sd)), (s3, .inl (cJ, 400, .inr (.inl be)))] s.heap := hP
  have hl := lv_entry ([.ref x0, .int (nI a), .int (nI b)]) (n := 4) (Nat.le_of_ble_eq_true rfl)
  rw [lg_entry_eq]
  generalize (lg_sl ([.ref x0, .int (nI a), .int (nI b)]) ++ List.replicate (4 - (lg_sl ([.ref x0, .int (nI a), .int (nI b)])).length) Slot.unset).toArray = ls at hl ⊢
  have hl : lv_has ls 4 [(0, .ref x0), (1, .int (nI a)), (2, .int (nI b))] := hl
  refine lv_iconst (v := nI 1) hx hb d_TB_plantColumn_0 (by decide +kernel) ?_
  refine lv_istore_n (lv' := [(3, .int (nI 1)), (0, .ref x0), (1, .int (nI a)), (2, .int (nI b))]) hx hb d_TB_plantColumn_1 rfl hl (by decide) rfl (fun ls hl => ?_)
  refine lp_k_TB_plantColumn_2 x0 c0 e0 f0 f1 f2 f3 f4 o1 np ns aw s1 s2 s3 ty wa st sd be ce oq rp tl a b hce hsd hst ha9 hb9 hb8 hx hb hml hown hw hE hX hA (fun z9 hz H locs ls hP hD hS hl => ?_) ((b - 1) + 1) 1 (ce, oq, rp, tl, np, ns, aw) (Nat.lt_succ_self _) (Nat.le_refl _) hb9 rfl hce _ _ _ (hP.sub [0, 1, 2, 3, 4, 5, 6, 7, 8, 9] rfl) (hD.sub [0, 1, 2, 3, 4, 5, 6, 7, 8, 9] (by decide) rfl) hS (lv_sub hl [1, 2, 3, 0] rfl)
  have hP9 := hP.sub (ws' := [(x0, .inr (0, [.ref o1, .ref f0, .ref c0, .ref e0])), (f0, .inr (2, [.ref o1, .ref f1, .ref f2, .ref f3, .ref f4, .int z9.2.2.2.2.1, .int z9.2.2.2.2.2.1, .int z9.2.2.2.2.2.2])), (f1, .inl (cI, 1764, .inl z9.1)), (f2, .inl (cJ, 1764, .inr (.inl z9.2.1))), (f3, .inl (cI, 42, .inl z9.2.2.1)), (f4, .inl (cI, 61, .inl z9.2.2.2.1)), (o1, .inr (1, [.ref s1, .ref s2, .ref s3, .int ty, .int wa])), (s1, .inl (cI, 100, .inl st)), (s2, .inl (cI, 244, .inl sd)), (s3, .inl (cJ, 400, .inr (.inl be)))]) [0, 1, 2, 3, 4, 5, 6, 7, 8, 9] rfl
  have hD9 := hD.sub (ws' := [(x0, .inr (0, [.ref o1, .ref f0, .ref c0, .ref e0])), (f0, .inr (2, [.ref o1, .ref f1, .ref f2, .ref f3, .ref f4, .int z9.2.2.2.2.1, .int z9.2.2.2.2.2.1, .int z9.2.2.2.2.2.2])), (f1, .inl (cI, 1764, .inl z9.1)), (f2, .inl (cJ, 1764, .inr (.inl z9.2.1))), (f3, .inl (cI, 42, .inl z9.2.2.1)), (f4, .inl (cI, 61, .inl z9.2.2.2.1)), (o1, .inr (1, [.ref s1, .ref s2, .ref s3, .int ty, .int wa])), (s1, .inl (cI, 100, .inl st)), (s2, .inl (cI, 244, .inl sd)), (s3, .inl (cJ, 400, .inr (.inl be)))]) [0, 1, 2, 3, 4, 5, 6, 7, 8, 9] (by decide) rfl
  exact W.vret hx hb hr (fun t9 ht hW => ⟨⟨z9, rfl, hz, ⟨by rw [ht]; exact hP9, hD9⟩⟩, hS.F ht⟩) hS.2.2 d_TB_plantColumn_29
set_option maxHeartbeats 4000000 in
set_option maxRecDepth 100000 in
theorem lp_k_TB_counter_102 {p : Program} {l : Launch} {e : Env} {s : State} {m : MethodId} {args : Array Value} {below : List Frame} {meth : Method} {c : Code} {D : va_G} {cI cJ : ClassId} {Q : State → Prop} {A : Nat → Prop} (x0 : Nat) (c0 : Nat) (e0 : Nat) (f0 : Nat) (f1 : Nat) (f2 : Nat) (f3 : Nat) (f4 : Nat) (o1 : Nat) (np : Int32) (ns : Int32) (aw : Int32) (s1 : Nat) (s2 : Nat) (s3 : Nat) (ty : Int32) (wa : Int32) (st : Nat → Int32) (sd : Nat → Int32) (be : Nat → Int64) (ce : Nat → Int32) (oq : Nat → Int64) (rp : Nat → Int32) (tl : Nat → Int32) (x : Int32) (y : Int32) (z : Int32) (hce : okCe ce) (hsd : okSd sd) (a9 : Nat) (h1a : 1 ≤ a9) (h2a : a9 ≤ 30) (b9 : Nat) (hx : p.tables.exec = Jvm.exec) (hb : c.code = c_TB_counter) (hml : c.maxLocals = 6) (hown : s.vm.findClass R_TB = some m.cls) (hw : ∀ w ∈ gw, w.before args s = true) (hE : En D cI cJ s) (hX : Sx A s s.heap) (hA : ∀ q : Nat, s.heap.size ≤ q → A q)
    (kx0 : ∀ (z9 : FS), (z9 = rwL (ctSd sd) (bgS st) (ctBe be) (nI 2) (fun i => a9 - 1 - i) y (ce, oq, rp, tl, np, ns, aw) a9) → (okCe z9.1) → ∀ (H : Heap) (locs : List Loc) (ls : Array Slot), va_P D vwCl [(x0, .inr (0, [.ref o1, .ref f0, .ref c0, .ref e0])), (f0, .inr (2, [.ref o1, .ref f1, .ref f2, .ref f3, .ref f4, .int z9.2.2.2.2.1, .int z9.2.2.2.2.2.1, .int z9.2.2.2.2.2.2])), (f1, .inl (cI, 1764, .inl z9.1)), (f2, .inl (cJ, 1764, .inr (.inl z9.2.1))), (f3, .inl (cI, 42, .inl z9.2.2.1)), (f4, .inl (cI, 61, .inl z9.2.2.2.1)), (o1, .inr (1, [.ref s1, .ref s2, .ref s3, .int (nI 7), .int (nI 2)])), (s1, .inl (cI, 100, .inl (bgS st))), (s2, .inl (cI, 244, .inl (ctSd sd))), (s3, .inl (cJ, 400, .inr (.inl (ctBe be))))] H → va_D A [(x0, .inr (0, [.ref o1, .ref f0, .ref c0, .ref e0])), (f0, .inr (2, [.ref o1, .ref f1, .ref f2, .ref f3, .ref f4, .int z9.2.2.2.2.1, .int z9.2.2.2.2.2.1, .int z9.2.2.2.2.2.2])), (f1, .inl (cI, 1764, .inl z9.1)), (f2, .inl (cJ, 1764, .inr (.inl z9.2.1))), (f3, .inl (cI, 42, .inl z9.2.2.1)), (f4, .inl (cI, 61, .inl z9.2.2.2.1)), (o1, .inr (1, [.ref s1, .ref s2, .ref s3, .int (nI 7), .int (nI 2)])), (s1, .inl (cI, 100, .inl (bgS st))), (s2, .inl (cI, 244, .inl (ctSd sd))), (s3, .inl (cJ, 400, .inr (.inl (ctBe be))))] → va_S A s.heap H locs → lv_has ls 6 [(0, .ref x0), (1, .int (nI a9)), (3, .int (nI b9))] → W p l e ({ frames := 7, cells := 4, slots := 24, locals := 127 } : Room) s m args below meth c H locs 4 24 Q (F0 m 142 ls [])) :
    ∀ (fu : Nat) (i : Nat) (z9 : FS), a9 - i < fu → (i ≤ a9) → (z9 = rwL (ctSd sd) (bgS st) (ctBe be) (nI 2) (fun i => a9 - 1 - i) y (ce, oq, rp, tl, np, ns, aw) i) → (okCe z9.1) → ∀ (H : Heap) (locs : List Loc) (ls : Array Slot), va_P D vwCl [(x0, .inr (0, [.ref o1, .ref f0, .ref c0, .ref e0])), (f0, .inr (2, [.ref o1, .ref f1, .ref f2, .ref f3, .ref f4, .int z9.2.2.2.2.1, .int z9.2.2.2.2.2.1, .int z9.2.2.2.2.2.2])), (f1, .inl (cI, 1764, .inl z9.1)), (f2, .inl (cJ, 1764, .inr (.inl z9.2.1))), (f3, .inl (cI, 42, .inl z9.2.2.1)), (f4, .inl (cI, 61, .inl z9.2.2.2.1)), (o1, .inr (1, [.ref s1, .ref s2, .ref s3, .int (nI 7), .int (nI 2)])), (s1, .inl (cI, 100, .inl (bgS st))), (s2, .inl (cI, 244, .inl (ctSd sd))), (s3, .inl (cJ, 400, .inr (.inl (ctBe be))))] H → va_D A [(x0, .inr (0, [.ref o1, .ref f0, .ref c0, .ref e0])), (f0, .inr (2, [.ref o1, .ref f1, .ref f2, .ref f3, .ref f4, .int z9.2.2.2.2.1, .int z9.2.2.2.2.2.1, .int z9.2.2.2.2.2.2])), (f1, .inl (cI, 1764, .inl z9.1)), (f2, .inl (cJ, 1764, .inr (.inl z9.2.1))), (f3, .inl (cI, 42, .inl z9.2.2.1)), (f4, .inl (cI, 61, .inl z9.2.2.2.1)), (o1, .inr (1, [.ref s1, .ref s2, .ref s3, .int (nI 7), .int (nI 2)])), (s1, .inl (cI, 100, .inl (bgS st))), (s2, .inl (cI, 244, .inl (ctSd sd))), (s3, .inl (cJ, 400, .inr (.inl (ctBe be))))] → va_S A s.heap H locs → lv_has ls 6 [(0, .ref x0), (1, .int (nI a9)), (2, .int y), (3, .int (nI b9)), (4, .int (nI i))] → W p l e ({ frames := 7, cells := 4, slots := 24, locals := 127 } : Room) s m args below meth c H locs 4 24 Q (F0 m 102 ls []) := by
  intro fu
  induction fu with
  | zero =>
    intro i z9 h0
    exact absurd h0 (Nat.not_lt_zero _)
  | succ fu ih =>
    intro i z9 hmu hi hz hok H locs ls hP hD hS hl
    refine lv_iload hx hb d_TB_counter_102 (lv_at hl 4 rfl) ?_
    refine lv_iload_n hx hb d_TB_counter_104 rfl (lv_at hl 1 rfl) ?_
    refine jn_icmp_ge (tgt := 142) (a := i) (b := a9) hx hb d_TB_counter_105 (by decide) (by omega) (by omega) (fun c_105 => ?_) (fun c_105 => ?_)
    · skip
      exact kx0 z9 (by rw [hz, show i = a9 by omega]) hok _ _ _ (hP.sub [0, 1, 2, 3, 4, 5, 6, 7, 8, 9] rfl) (hD.sub [0, 1, 2, 3, 4, 5, 6, 7, 8, 9] (by decide) rfl) hS (lv_sub hl [0, 1, 3] rfl)
    · skip
      refine lv_aload_n hx hb d_TB_counter_108 rfl (lv_at hl 0 rfl) ?_
      refine va_get (D := D) (ci := 0) (v := .ref f0) (C := R_TB) (T := T_TB) (N := 4) hx hb hw in_TB hown hE.1 hP 0 rfl rfl 1 (by decide) (hw _ kw_183) (fun _ h9 => h9) rfl d_TB_counter_109 ?_
      refine lv_iload_n hx hb d_TB_counter_112 rfl (lv_at hl 1 rfl) ?_
      refine lv_iconst (v := nI 1) hx hb d_TB_counter_113 (by decide +kernel) ?_
      refine jn_isub (a := a9) (b := 1) hx hb d_TB_counter_114 (by omega) ?_
      refine lv_iload hx hb d_TB_counter_115 (lv_at hl 4 rfl) ?_
      refine jn_isub (a := (a9 - 1)) (b := i) hx hb d_TB_counter_117 (by omega) ?_
      refine lv_iconst (v := nI 0) hx hb d_TB_counter_118 (by decide +kernel) ?_
      refine vp_callSi (va_Run.run (va_runS (As := [.int (nI ((a9 - 1) - i)), .int (nI 0)]) (rest := [.ref f0]) ⟨hx, hb, hml, hown, hw⟩ (k_TB_placeOf l D cI cJ ((a9 - 1) - i) 0) (va_cwS 2 hw (gS kw_418 kw_419 kw_40 kw_420) rfl rfl rfl (by decide +kernel) ⟨Nat.le_of_ble_eq_true rfl, Nat.le_of_ble_eq_true rfl⟩) (pre_Sp (wc := []) hE hX hP hS [] rfl) rfl rfl hl.1 rfl (lv_room (Nat.le_of_ble_eq_true rfl)) d_TB_counter_119 ⟨Nat.le_of_ble_eq_true rfl, Nat.le_of_ble_eq_true rfl⟩)) (fun r_1 hr_1 => ?_)
      obtain rfl : nI ((0 + 1) * 42 + ((a9 - 1) - i) + 1) = r_1 := hr_1.symm
      refine lv_iconst (v := nI 1) hx hb d_TB_counter_122 (by decide +kernel) ?_
      refine lv_iload_n hx hb d_TB_counter_123 rfl (lv_at hl 2 rfl) ?_
      refine lv_iload hx hb d_TB_counter_124 (lv_at hl 4 rfl) ?_
      refine lv_ishr hx hb d_TB_counter_126 ?_
      refine lv_iconst (v := nI 1) hx hb d_TB_counter_127 (by decide +kernel) ?_
      refine lv_iand hx hb d_TB_counter_128 ?_
      refine W.eq (g2 := F0 m 129 ls [.int (nI (btN y i)), .int (nI 1), .int (nI ((0 + 1) * 42 + ((a9 - 1) - i) + 1)), .ref f0]) (by rw [bt_and]) ?_
      refine jn_iadd (a := 1) (b := (btN y i)) hx hb d_TB_counter_129 ?_
      refine vp_callSi (va_Run.run (va_runS (As := [.int (nI (1 + (btN y i)))]) (rest := [.int (nI ((0 + 1) * 42 + ((a9 - 1) - i) + 1)), .ref f0]) ⟨hx, hb, hml, hown, hw⟩ (k_TB_seedOf l D cI cJ (nI (1 + (btN y i)))) (va_cwS 1 hw (gS kw_430 kw_431 kw_40 kw_432) rfl rfl rfl (by decide +kernel) ⟨Nat.le_of_ble_eq_true rfl, Nat.le_of_ble_eq_true rfl⟩) (pre_Sp (wc := []) hE hX hP hS [] rfl) rfl rfl hl.1 rfl (lv_room (Nat.le_of_ble_eq_true rfl)) d_TB_counter_130 ⟨Nat.le_of_ble_eq_true rfl, Nat.le_of_ble_eq_true rfl⟩)) (fun r_2 hr_2 => ?_)
      obtain rfl : (nI (1 + (btN y i))) ||| nI 1024 = r_2 := hr_2.symm
      refine cl_v (wr := [(x0, .inr (0, [.ref o1, .ref f0, .ref c0, .ref e0]))]) (va_runV (As := [.int (nI ((0 + 1) * 42 + ((a9 - 1) - i) + 1)), .int ((nI (1 + (btN y i))) ||| nI 1024)]) (rest := []) ⟨hx, hb, hml, hown, hw⟩ (k_FD_put l D cI cJ f0 f1 f2 f3 f4 o1 z9.2.2.2.2.1 z9.2.2.2.2.2.1 z9.2.2.2.2.2.2 s1 s2 s3 (nI 7) (nI 2) (bgS st) (ctSd sd) (ctBe be) z9.1 z9.2.1 z9.2.2.1 ((0 + 1) * 42 + ((a9 - 1) - i) + 1) z9.2.2.2.1 ((nI (1 + (btN y i))) ||| nI 1024) _ (pl_in (show (fun i => a9 - 1 - i) i < 40 from by (show a9 - 1 - i < 40); omega) (show 0 < 40 by decide)).1 (pl_in (show (fun i => a9 - 1 - i) i < 40 from by (show a9 - 1 - i < 40); omega) (show 0 < 40 by decide)).2 hok (okSd_ct hsd) (okSt_bgS st) (by have := btN_lt y i; rw [tyN_seed (by omega)]; omega)) (cwV 2 hw (gV kw_433 kw_434 kw_435 kw_42 kw_436) rfl rfl rfl (by decide +kernel) ⟨Nat.le_of_ble_eq_true rfl, Nat.le_of_ble_eq_true rfl⟩) (pre_Vw (wc := [(f0, .inr (2, [.ref o1, .ref f1, .ref f2, .ref f3, .ref f4, .int z9.2.2.2.2.1, .int z9.2.2.2.2.2.1, .int z9.2.2.2.2.2.2])), (f1, .inl (cI, 1764, .inl z9.1)), (f2, .inl (cJ, 1764, .inr (.inl z9.2.1))), (f3, .inl (cI, 42, .inl z9.2.2.1)), (f4, .inl (cI, 61, .inl z9.2.2.2.1)), (o1, .inr (1, [.ref s1, .ref s2, .ref s3, .int (nI 7), .int (nI 2)])), (s1, .inl (cI, 100, .inl (bgS st))), (s2, .inl (cI, 244, .inl (ctSd sd))), (s3, .inl (cJ, 400, .inr (.inl (ctBe be))))]) (q0 := 0) hE hX hA hP hD hS [1, 2, 3, 4, 5, 6, 7, 8, 9] (by decide) rfl rfl rfl rfl) rfl rfl hl.1 rfl (lv_room (Nat.le_of_ble_eq_true rfl)) d_TB_counter_133 ⟨Nat.le_of_ble_eq_true rfl, Nat.le_of_ble_eq_true rfl⟩) hP hD hS hA [1, 2, 3, 4, 5, 6, 7, 8, 9] [0] rfl rfl (by decide) (by decide) (fun u_r_3 H locs hr_3 hP hD hS => ?_)
      have hP : va_P D vwCl [(x0, .inr (0, [.ref o1, .ref f0, .ref c0, .ref e0])), (f0, .inr (2, [.ref o1, .ref f1, .ref f2, .ref f3, .ref f4, .int ((raL (upd z9.1 ((0 + 1) * 42 + ((a9 - 1) - i) + 1) ((nI (1 + (btN y i))) ||| nI 1024)) (ctSd sd) (bgS st) (ctBe be) (nI 2) ((0 + 1) * 42 + ((a9 - 1) - i) + 1) (z9.2.1, z9.2.2.1, z9.2.2.2.2.1) 5).2.2), .int (nsP z9.2.2.2.2.2.1 ((nI (1 + (btN y i))) ||| nI 1024)), .int z9.2.2.2.2.2.2])), (f1, .inl (cI, 1764, .inl (upd z9.1 ((0 + 1) * 42 + ((a9 - 1) - i) + 1) ((nI (1 + (btN y i))) ||| nI 1024)))), (f2, .inl (cJ, 1764, .inr (.inl ((raL (upd z9.1 ((0 + 1) * 42 + ((a9 - 1) - i) + 1) ((nI (1 + (btN y i))) ||| nI 1024)) (ctSd sd) (bgS st) (ctBe be) (nI 2) ((0 + 1) * 42 + ((a9 - 1) - i) + 1) (z9.2.1, z9.2.2.1, z9.2.2.2.2.1) 5).1)))), (f3, .inl (cI, 42, .inl ((raL (upd z9.1 ((0 + 1) * 42 + ((a9 - 1) - i) + 1) ((nI (1 + (btN y i))) ||| nI 1024)) (ctSd sd) (bgS st) (ctBe be) (nI 2) ((0 + 1) * 42 + ((a9 - 1) - i) + 1) (z9.2.1, z9.2.2.1, z9.2.2.2.2.1) 5).2.1))), (f4, .inl (cI, 61, .inl (tlP z9.2.2.2.1 ((nI (1 + (btN y i))) ||| nI 1024)))), (o1, .inr (1, [.ref s1, .ref s2, .ref s3, .int (nI 7), .int (nI 2)])), (s1, .inl (cI, 100, .inl (bgS st))), (s2, .inl (cI, 244, .inl (ctSd sd))), (s3, .inl (cJ, 400, .inr (.inl (ctBe be))))] H := hP
      have hD : va_D A [(x0, .inr (0, [.ref o1, .ref f0, .ref c0, .ref e0])), (f0, .inr (2, [.ref o1, .ref f1, .ref f2, .ref f3, .ref f4, .int ((raL (upd z9.1 ((0 + 1) * 42 + ((a9 - 1) - i) + 1) ((nI (1 + (btN y i))) ||| nI 1024)) (ctSd sd) (bgS st) (ctBe be) (nI 2) ((0 + 1) * 42 + ((a9 - 1) - i) + 1) (z9.2.1, z9.2.2.1, z9.2.2.2.2.1) 5).2.2), .int (nsP z9.2.2.2.2.2.1 ((nI (1 + (btN y i))) ||| nI 1024)), .int z9.2.2.2.2.2.2])), (f1, .inl (cI, 1764, .inl (upd z9.1 ((0 + 1) * 42 + ((a9 - 1) - i) + 1) ((nI (1 + (btN y i))) ||| nI 1024)))), (f2, .inl (cJ, 1764, .inr (.inl ((raL (upd z9.1 ((0 + 1) * 42 + ((a9 - 1) - i) + 1) ((nI (1 + (btN y i))) ||| nI 1024)) (ctSd sd) (bgS st) (ctBe be) (nI 2) ((0 + 1) * 42 + ((a9 - 1) - i) + 1) (z9.2.1, z9.2.2.1, z9.2.2.2.2.1) 5).1)))), (f3, .inl (cI, 42, .inl ((raL (upd z9.1 ((0 + 1) * 42 + ((a9 - 1) - i) + 1) ((nI (1 + (btN y i))) ||| nI 1024)) (ctSd sd) (bgS st) (ctBe be) (nI 2) ((0 + 1) * 42 + ((a9 - 1) - i) + 1) (z9.2.1, z9.2.2.1, z9.2.2.2.2.1) 5).2.1))), (f4, .inl (cI, 61, .inl (tlP z9.2.2.2.1 ((nI (1 + (btN y i))) ||| nI 1024)))), (o1, .inr (1, [.ref s1, .ref s2, .ref s3, .int (nI 7), .int (nI 2)])), (s1, .inl (cI, 100, .inl (bgS st))), (s2, .inl (cI, 244, .inl (ctSd sd))), (s3, .inl (cJ, 400, .inr (.inl (ctBe be))))] := hD
      refine lv_iinc (v := nI (i + 1)) (lv' := [(4, .int (nI (i + 1))), (0, .ref x0), (1, .int (nI a9)), (2, .int y), (3, .int (nI b9))]) hx hb d_TB_counter_136 hl (k := 4) rfl (jn_inc i 1) (by decide) rfl (fun ls hl => ?_)
      refine lv_goto (tgt := 102) hx hb d_TB_counter_139 (by decide) ?_
      exact ih (i + 1) (fsPut (ctSd sd) (bgS st) (ctBe be) (nI 2) (plN ((fun i => a9 - 1 - i) i) 0) (nI (1 + btN y i) ||| nI 1024) z9) (by omega) (by omega) (by rw [rwL, ← hz]) (okCe_upd hok (pl_in (show (fun i => a9 - 1 - i) i < 40 from by (show a9 - 1 - i < 40); omega) (show 0 < 40 by decide)).1 (pl_in (show (fun i => a9 - 1 - i) i < 40 from by (show a9 - 1 - i < 40); omega) (show 0 < 40 by decide)).2 (by have := btN_lt y i; rw [tyN_seed (by omega)]; omega)) _ _ _ (hP.sub [0, 1, 2, 3, 4, 5, 6, 7, 8, 9] rfl) (hD.sub [0, 1, 2, 3, 4, 5, 6, 7, 8, 9] (by decide) rfl) hS (lv_sub hl [1, 2, 3, 4, 0] rfl)
set_option maxHeartbeats 4000000 in
set_option maxRecDepth 100000 in
/-- counter -/
theorem k_TB_counter (l : Launch) (hfl : l.stackTraces = false) (D : va_G) (cI cJ : ClassId) (x0 : Nat) (c0 : Nat) (e0 : Nat) (f0 : Nat) (f1 : Nat) (f2 : Nat) (f3 : Nat) (f4 : Nat) (o1 : Nat) (np : Int32) (ns : Int32) (aw : Int32) (s1 : Nat) (s2 : Nat) (s3 : Nat) (ty : Int32) (wa : Int32) (st : Nat → Int32) (sd : Nat → Int32) (be : Nat → Int64) (ce : Nat → Int32) (oq : Nat → Int64) (rp : Nat → Int32) (tl : Nat → Int32) (x : Int32) (y : Int32) (z : Int32) (sz : Nat) (hce : okCe ce) (hsd : okSd sd) : vx_Met l y_TB_counter ws_TB_counter ({ frames := 7, cells := 4, slots := 24, locals := 127 } : Room) (va_Pc [.ref x0, .int x, .int y, .int z] (Pw D cI cJ [(x0, .inr (0, [.ref o1, .ref f0, .ref c0, .ref e0])), (f0, .inr (2, [.ref o1, .ref f1, .ref f2, .ref f3, .ref f4, .int np, .int ns, .int aw])), (f1, .inl (cI, 1764, .inl ce)), (f2, .inl (cJ, 1764, .inr (.inl oq))), (f3, .inl (cI, 42, .inl rp)), (f4, .inl (cI, 61, .inl tl)), (o1, .inr (1, [.ref s1, .ref s2, .ref s3, .int ty, .int wa])), (s1, .inl (cI, 100, .inl st)), (s2, .inl (cI, 244, .inl sd)), (s3, .inl (cJ, 400, .inr (.inl be)))] sz)) (va_Qi (fun (r : Int32) (u9 : FS) => r = nI 7 ∧ u9 = pcL (ctSd sd) (bgS st) (ctBe be) (nI 2) (nn x) (rwL (ctSd sd) (bgS st) (ctBe be) (nI 2) (fun i => nn x - 1 - i) y (ce, oq, rp, tl, np, ns, aw) (nn x)) (nn z - 1)) (fun u9 t9 => Bw D (va_A [(x0, .inr (0, [.ref o1, .ref f0, .ref c0, .ref e0])), (f0, .inr (2, [.ref o1, .ref f1, .ref f2, .ref f3, .ref f4, .int np, .int ns, .int aw])), (f1, .inl (cI, 1764, .inl ce)), (f2, .inl (cJ, 1764, .inr (.inl oq))), (f3, .inl (cI, 42, .inl rp)), (f4, .inl (cI, 61, .inl tl)), (o1, .inr (1, [.ref s1, .ref s2, .ref s3, .int ty, .int wa])), (s1, .inl (cI, 100, .inl st)), (s2, .inl (cI, 244, .inl sd)), (s3, .inl (cJ, 400, .inr (.inl be)))] sz) [(x0, .inr (0, [.ref o1, .ref f0, .ref c0, .ref e0])), (f0, .inr (2, [.ref o1, .ref f1, .ref f2, .ref f3, .ref f4, .int u9.2.2.2.2.1, .int u9.2.2.2.2.2.1, .int u9.2.2.2.2.2.2])), (f1, .inl (cI, 1764, .inl u9.1)), (f2, .inl (cJ, 1764, .inr (.inl u9.2.1))), (f3, .inl (cI, 42, .inl u9.2.2.1)), (f4, .inl (cI, 61, .inl u9.2.2.2.1)), (o1, .inr (1, [.ref s1, .ref s2, .ref s3, .int (nI 7), .int (nI 2)])), (s1, .inl (cI, 100, .inl (bgS st))), (s2, .inl (cI, 244, .inl (ctSd sd))), (s3, .inl (cJ, 400, .inr (.inl (ctBe be))))] t9) (va_A [(x0, .inr (0, [.ref o1, .ref f0, .ref c0, .ref e0])), (f0, .inr (2, [.ref o1, .ref f1, .ref f2, .ref f3, .ref f4, .int np, .int ns, .int aw])), (f1, .inl (cI, 1764, .inl ce)), (f2, .inl (cJ, 1764, .inr (.inl oq))), (f3, .inl (cI, 42, .inl rp)), (f4, .inl (cI, 61, .inl tl)), (o1, .inr (1, [.ref s1, .ref s2, .ref s3, .int ty, .int wa])), (s1, .inl (cI, 100, .inl st)), (s2, .inl (cI, 244, .inl sd)), (s3, .inl (cJ, 400, .inr (.inl be)))] sz)) (nd_X (fun E => (E = "java/lang/IllegalStateException" ∧ ¬ tl 0 ≤ 0) ∨ (E = "java/lang/IllegalArgumentException" ∧ tl 0 ≤ 0 ∧ ((x < nI 1 ∨ ¬ x ≤ nI 20) ∨ (z < nI 1 ∨ ¬ z ≤ nI 40) ∨ (y < nI 0 ∨ ¬ y ≤ (nI 1 <<< (x &&& 31)) - nI 1))))) 4 24 (va_A [(x0, .inr (0, [.ref o1, .ref f0, .ref c0, .ref e0])), (f0, .inr (2, [.ref o1, .ref f1, .ref f2, .ref f3, .ref f4, .int np, .int ns, .int aw])), (f1, .inl (cI, 1764, .inl ce)), (f2, .inl (cJ, 1764, .inr (.inl oq))), (f3, .inl (cI, 42, .inl rp)), (f4, .inl (cI, 61, .inl tl)), (o1, .inr (1, [.ref s1, .ref s2, .ref s3, .int ty, .int wa])), (s1, .inl (cI, 100, .inl st)), (s2, .inl (cI, 244, .inl sd)), (s3, .inl (cJ, 400, .inr (.inl be)))] sz) := by
  refine vx_ofW (cc := c_TB_counter) (maxL := 6) (ret := (some .int)) (by decide) rfl ?_
  intro p e s m args below meth c s₁ B hml hno hv
  obtain ⟨rfl, hsz, hE, hP, hD0, hX⟩ := hv
  have hx := B.exec
  have hb := B.bytes
  have hr := B.returns
  have hw : ∀ w ∈ gw, w.before _ s = true := fun w h => atoms_spec (ws := ws_TB_counter) B.pre w (List.mem_cons_of_mem _ h)
  have hown : s.vm.findClass R_TB = some m.cls := findClass_of_methodNamed B.named
  have hlocks := B.notSynchronized
  subst hsz
  have hD := hD0.self (sz := s.heap.size)
  generalize hAe : va_A [(x0, .inr (0, [.ref o1, .ref f0, .ref c0, .ref e0])), (f0, .inr (2, [.ref o1, .ref f1, .ref f2, .ref f3, .ref f4, .int np, .int ns, .int aw])), (f1, .inl (cI, 1764, .inl ce)), (f2, .inl (cJ, 1764, .inr (.inl oq))), (f3, .inl (cI, 42, .inl rp)), (f4, .inl (cI, 61, .inl tl)), (o1, .inr (1, [.ref s1, .ref s2, .ref s3, .int ty, .int wa])), (s1, .inl (cI, 100, .inl st)), (s2, .inl (cI, 244, .inl sd)), (s3, .inl (cJ, 400, .inr (.inl be)))] s.heap.size = A at hD hX ⊢
  have hA : ∀ q : Nat, s.heap.size ≤ q → A q := fun q h => by rw [← hAe]; exact Or.inr h
  have hS : va_S A s.heap s.heap [] := va_S.rf
  have hP : va_P D vwCl [(x0, .inr (0, [.ref o1, .ref f0, .ref c0, .ref e0])), (f0, .inr (2, [.ref o1, .ref f1, .ref f2, .ref f3, .ref f4, .int np, .int ns, .int aw])), (f1, .inl (cI, 1764, .inl ce)), (f2, .inl (cJ, 1764, .inr (.inl oq))), (f3, .inl (cI, 42, .inl rp)), (f4, .inl (cI, 61, .inl tl)), (o1, .inr (1, [.ref s1, .ref s2, .ref s3, .int ty, .int wa])), (s1, .inl (cI, 100, .inl st)), (s2, .inl (cI, 244, .inl sd)), (s3, .inl (cJ, 400, .inr (.inl be)))] s.heap := hP
  have hl := lv_entry ([.ref x0, .int x, .int y, .int z]) (n := 6) (Nat.le_of_ble_eq_true rfl)
  rw [lg_entry_eq]
  generalize (lg_sl ([.ref x0, .int x, .int y, .int z]) ++ List.replicate (6 - (lg_sl ([.ref x0, .int x, .int y, .int z])).length) Slot.unset).toArray = ls at hl ⊢
  have hl : lv_has ls 6 [(0, .ref x0), (1, .int x), (2, .int y), (3, .int z)] := hl
  refine lv_aload_n hx hb d_TB_counter_0 rfl (lv_at hl 0 rfl) ?_
  refine nd_call (vx_runV (As := []) (rest := []) ⟨hx, hb, hml, hown, hw⟩ (k_TB_needEmptyField l hfl D cI cJ x0 c0 e0 f0 f1 f2 f3 f4 o1 np ns aw tl) (cwV 0 hw (gV kw_240 kw_242 kw_0 kw_40 kw_243) rfl rfl rfl (by decide +kernel) ⟨Nat.le_of_ble_eq_true rfl, Nat.le_of_ble_eq_true rfl⟩) (pre_Vp (wc := [(x0, .inr (0, [.ref o1, .ref f0, .ref c0, .ref e0])), (f0, .inr (2, [.ref o1, .ref f1, .ref f2, .ref f3, .ref f4, .int np, .int ns, .int aw])), (f4, .inl (cI, 61, .inl tl))]) (q0 := 0) hE hX hP hS [0, 1, 5] rfl rfl rfl) rfl rfl hl.1 rfl (lv_room (Nat.le_of_ble_eq_true rfl)) d_TB_counter_1 ⟨Nat.le_of_ble_eq_true rfl, Nat.le_of_ble_eq_true rfl⟩) (fun E ce q9 H1 hex hc1 hc2 hc3 hc5 hc6 => ?_) (fun h_1 => ?_)
  · skip
    exact vx_out (fun x hx => (hno x hx).elim) hlocks hc1 hc2 hc3 (fun t9 ht hal => ⟨Or.inl hex, by rw [ht]; exact hc5, fun q hq => by rw [ht]; exact hc6 q hq⟩) (fun q h => by cases h) (Nat.le_of_ble_eq_true rfl) (Nat.le_of_ble_eq_true rfl)
  refine lv_iload_n hx hb d_TB_counter_4 rfl (lv_at hl 1 rfl) ?_
  refine lv_iconst (v := nI 1) hx hb d_TB_counter_5 (by decide +kernel) ?_
  refine lv_bipush (v := nI 20) hx hb d_TB_counter_6 (by decide +kernel) ?_
  refine nd_call (vx_runS (As := [.int x, .int (nI 1), .int (nI 20)]) (rest := []) ⟨hx, hb, hml, hown, hw⟩ (k_TB_needWithin l hfl D cI cJ x (nI 1) (nI 20)) (va_cwS 3 hw (gS kw_313 kw_314 kw_40 kw_315) rfl rfl rfl (by decide +kernel) ⟨Nat.le_of_ble_eq_true rfl, Nat.le_of_ble_eq_true rfl⟩) (pre_Sp (wc := []) hE hX hP hS [] rfl) rfl rfl hl.1 rfl (lv_room (Nat.le_of_ble_eq_true rfl)) d_TB_counter_8 ⟨Nat.le_of_ble_eq_true rfl, Nat.le_of_ble_eq_true rfl⟩) (fun E ce q9 H1 hex hc1 hc2 hc3 hc5 hc6 => ?_) (fun h_8 => ?_)
  · skip
    exact vx_out (fun x hx => (hno x hx).elim) hlocks hc1 hc2 hc3 (fun t9 ht hal => ⟨(Or.inr ⟨hex.1, h_1, Or.inl hex.2⟩), by rw [ht]; exact hc5, fun q hq => by rw [ht]; exact hc6 q hq⟩) (fun q h => by cases h) (Nat.le_of_ble_eq_true rfl) (Nat.le_of_ble_eq_true rfl)
  refine lv_iload_n hx hb d_TB_counter_11 rfl (lv_at hl 3 rfl) ?_
  refine lv_iconst (v := nI 1) hx hb d_TB_counter_12 (by decide +kernel) ?_
  refine lv_bipush (v := nI 40) hx hb d_TB_counter_13 (by decide +kernel) ?_
  refine nd_call (vx_runS (As := [.int z, .int (nI 1), .int (nI 40)]) (rest := []) ⟨hx, hb, hml, hown, hw⟩ (k_TB_needWithin l hfl D cI cJ z (nI 1) (nI 40)) (va_cwS 3 hw (gS kw_313 kw_314 kw_40 kw_315) rfl rfl rfl (by decide +kernel) ⟨Nat.le_of_ble_eq_true rfl, Nat.le_of_ble_eq_true rfl⟩) (pre_Sp (wc := []) hE hX hP hS [] rfl) rfl rfl hl.1 rfl (lv_room (Nat.le_of_ble_eq_true rfl)) d_TB_counter_15 ⟨Nat.le_of_ble_eq_true rfl, Nat.le_of_ble_eq_true rfl⟩) (fun E ce q9 H1 hex hc1 hc2 hc3 hc5 hc6 => ?_) (fun h_15 => ?_)
  · skip
    exact vx_out (fun x hx => (hno x hx).elim) hlocks hc1 hc2 hc3 (fun t9 ht hal => ⟨(Or.inr ⟨hex.1, h_1, Or.inr (Or.inl hex.2)⟩), by rw [ht]; exact hc5, fun q hq => by rw [ht]; exact hc6 q hq⟩) (fun q h => by cases h) (Nat.le_of_ble_eq_true rfl) (Nat.le_of_ble_eq_true rfl)
  refine lv_iload_n hx hb d_TB_counter_18 rfl (lv_at hl 2 rfl) ?_
  refine lv_iconst (v := nI 0) hx hb d_TB_counter_19 (by decide +kernel) ?_
  refine lv_iconst (v := nI 1) hx hb d_TB_counter_20 (by decide +kernel) ?_
  refine lv_iload_n hx hb d_TB_counter_21 rfl (lv_at hl 1 rfl) ?_
  refine lv_ishl hx hb d_TB_counter_22 ?_
  refine lv_iconst (v := nI 1) hx hb d_TB_counter_23 (by decide +kernel) ?_
  refine lv_isub hx hb d_TB_counter_24 ?_
  refine nd_call (vx_runS (As := [.int y, .int (nI 0), .int (((nI 1) <<< (x &&& 31)) - (nI 1))]) (rest := []) ⟨hx, hb, hml, hown, hw⟩ (k_TB_needWithin l hfl D cI cJ y (nI 0) (((nI 1) <<< (x &&& 31)) - (nI 1))) (va_cwS 3 hw (gS kw_313 kw_314 kw_40 kw_315) rfl rfl rfl (by decide +kernel) ⟨Nat.le_of_ble_eq_true rfl, Nat.le_of_ble_eq_true rfl⟩) (pre_Sp (wc := []) hE hX hP hS [] rfl) rfl rfl hl.1 rfl (lv_room (Nat.le_of_ble_eq_true rfl)) d_TB_counter_25 ⟨Nat.le_of_ble_eq_true rfl, Nat.le_of_ble_eq_true rfl⟩) (fun E ce q9 H1 hex hc1 hc2 hc3 hc5 hc6 => ?_) (fun h_25 => ?_)
  · skip
    exact vx_out (fun x hx => (hno x hx).elim) hlocks hc1 hc2 hc3 (fun t9 ht hal => ⟨(Or.inr ⟨hex.1, h_1, Or.inr (Or.inr hex.2)⟩), by rw [ht]; exact hc5, fun q hq => by rw [ht]; exact hc6 q hq⟩) (fun q h => by cases h) (Nat.le_of_ble_eq_true rfl) (Nat.le_of_ble_eq_true rfl)
  obtain ⟨a9, hk1, hk2, rfl⟩ := within_nat h_8.1 h_8.2 (by decide) (by decide)
  obtain ⟨b9, hj1, hj2, rfl⟩ := within_nat h_15.1 h_15.2 (by decide) (by decide)
  refine lv_aload_n hx hb d_TB_counter_28 rfl (lv_at hl 0 rfl) ?_
  refine va_get (D := D) (ci := 0) (v := .ref o1) (C := R_TB) (T := T_TB) (N := 4) hx hb hw in_TB hown hE.1 hP 0 rfl rfl 0 (by decide) (hw _ kw_182) (fun _ h9 => h9) rfl d_TB_counter_29 ?_
  refine lv_iconst (v := nI 0) hx hb d_TB_counter_32 (by decide +kernel) ?_
  refine lv_iconst (v := nI 4) hx hb d_TB_counter_33 (by decide +kernel) ?_
  refine cl_v (wr := [(x0, .inr (0, [.ref o1, .ref f0, .ref c0, .ref e0])), (f0, .inr (2, [.ref o1, .ref f1, .ref f2, .ref f3, .ref f4, .int np, .int ns, .int aw])), (f1, .inl (cI, 1764, .inl ce)), (f2, .inl (cJ, 1764, .inr (.inl oq))), (f3, .inl (cI, 42, .inl rp)), (f4, .inl (cI, 61, .inl tl))]) (va_runV (As := [.int (nI 0), .int (nI 4)]) (rest := []) ⟨hx, hb, hml, hown, hw⟩ (k_TS_beginRows l D cI cJ o1 s1 s2 s3 ty wa st sd be 0 4 _ (by omega) (by omega)) (cwV 2 hw (gV kw_738 kw_739 kw_740 kw_41 kw_741) rfl rfl rfl (by decide +kernel) ⟨Nat.le_of_ble_eq_true rfl, Nat.le_of_ble_eq_true rfl⟩) (pre_Vw (wc := [(o1, .inr (1, [.ref s1, .ref s2, .ref s3, .int ty, .int wa])), (s1, .inl (cI, 100, .inl st)), (s2, .inl (cI, 244, .inl sd)), (s3, .inl (cJ, 400, .inr (.inl be)))]) (q0 := 0) hE hX hA hP hD hS [6, 7, 8, 9] (by decide) rfl rfl rfl rfl) rfl rfl hl.1 rfl (lv_room (Nat.le_of_ble_eq_true rfl)) d_TB_counter_34 ⟨Nat.le_of_ble_eq_true rfl, Nat.le_of_ble_eq_true rfl⟩) hP hD hS hA [6, 7, 8, 9] [0, 1, 2, 3, 4, 5] rfl rfl (by decide) (by decide) (fun u_r_5 H locs hr_5 hP hD hS => ?_)
  have hP : va_P D vwCl [(x0, .inr (0, [.ref o1, .ref f0, .ref c0, .ref e0])), (f0, .inr (2, [.ref o1, .ref f1, .ref f2, .ref f3, .ref f4, .int np, .int ns, .int aw])), (f1, .inl (cI, 1764, .inl ce)), (f2, .inl (cJ, 1764, .inr (.inl oq))), (f3, .inl (cI, 42, .inl rp)), (f4, .inl (cI, 61, .inl tl)), (o1, .inr (1, [.ref s1, .ref s2, .ref s3, .int (nI 3), .int (nI 2)])), (s1, .inl (cI, 100, .inl (rsF (flI st (nI 0) 100) 5))), (s2, .inl (cI, 244, .inl (adS (adS (adS sd 1 1 0 0 0) 2 2 0 0 0) 3 0 0 0 4))), (s3, .inl (cJ, 400, .inr (.inl (adB (adB (adB (flJ be 0 400) 1 1 0 0 0) 2 2 0 0 0) 3 0 0 0 4))))] H := hP
  have hD : va_D A [(x0, .inr (0, [.ref o1, .ref f0, .ref c0, .ref e0])), (f0, .inr (2, [.ref o1, .ref f1, .ref f2, .ref f3, .ref f4, .int np, .int ns, .int aw])), (f1, .inl (cI, 1764, .inl ce)), (f2, .inl (cJ, 1764, .inr (.inl oq))), (f3, .inl (cI, 42, .inl rp)), (f4, .inl (cI, 61, .inl tl)), (o1, .inr (1, [.ref s1, .ref s2, .ref s3, .int (nI 3), .int (nI 2)])), (s1, .inl (cI, 100, .inl (rsF (flI st (nI 0) 100) 5))), (s2, .inl (cI, 244, .inl (adS (adS (adS sd 1 1 0 0 0) 2 2 0 0 0) 3 0 0 0 4))), (s3, .inl (cJ, 400, .inr (.inl (adB (adB (adB (flJ be 0 400) 1 1 0 0 0) 2 2 0 0 0) 3 0 0 0 4))))] := hD
  refine lv_iconst (v := nI 0) hx hb d_TB_counter_37 (by decide +kernel) ?_
  refine lv_istore (lv' := [(4, .int (nI 0)), (0, .ref x0), (1, .int (nI a9)), (2, .int y), (3, .int (nI b9))]) hx hb d_TB_counter_38 hl (by decide) rfl (fun ls hl => ?_)
  refine lv_iload hx hb d_TB_counter_40 (lv_at hl 0 rfl) ?_
  refine lv_iconst (v := nI 1) hx hb d_TB_counter_42 (by decide +kernel) ?_
  refine jn_icmp_gt (tgt := 99) (a := 0) (b := 1) hx hb d_TB_counter_43 (by decide) (by decide) (by decide) (fun c9 => absurd c9 (by decide)) (fun _ => ?_)
  refine lv_iconst (v := nI 0) hx hb d_TB_counter_46 (by decide +kernel) ?_
  refine lv_istore (lv' := [(5, .int (nI 0)), (4, .int (nI 0)), (0, .ref x0), (1, .int (nI a9)), (2, .int y), (3, .int (nI b9))]) hx hb d_TB_counter_47 hl (by decide) rfl (fun ls hl => ?_)
  refine lv_iload hx hb d_TB_counter_49 (lv_at hl 0 rfl) ?_
  refine lv_iconst (v := nI 1) hx hb d_TB_counter_51 (by decide +kernel) ?_
  refine jn_icmp_gt (tgt := 93) (a := 0) (b := 1) hx hb d_TB_counter_52 (by decide) (by decide) (by decide) (fun c9 => absurd c9 (by decide)) (fun _ => ?_)
  refine lv_aload_n hx hb d_TB_counter_55 rfl (lv_at hl 2 rfl) ?_
  refine va_get (D := D) (ci := 0) (v := .ref o1) (C := R_TB) (T := T_TB) (N := 4) hx hb hw in_TB hown hE.1 hP 0 rfl rfl 0 (by decide) (hw _ kw_182) (fun _ h9 => h9) rfl d_TB_counter_56 ?_
  refine lv_iconst (v := nI 1) hx hb d_TB_counter_59 (by decide +kernel) ?_
  refine lv_iload hx hb d_TB_counter_60 (lv_at hl 1 rfl) ?_
  refine lv_iload hx hb d_TB_counter_62 (lv_at hl 0 rfl) ?_
  refine jn_iadd (a := 0) (b := 0) hx hb d_TB_counter_64 ?_
  refine W.eq (g2 := F0 m 65 ls (.int (nI 0) :: [.int (nI 1), .ref o1])) (by rfl) ?_
  refine lv_iconst (v := nI 2) hx hb d_TB_counter_65 (by decide +kernel) ?_
  refine jn_irem (a := 0) (b := 2) hx hb d_TB_counter_66 (by omega) (by omega) (by omega) ?_
  refine W.eq (g2 := F0 m 67 ls (.int (nI 0) :: [.int (nI 1), .ref o1])) (by rfl) ?_
  refine jn_iadd (a := 1) (b := 0) hx hb d_TB_counter_67 ?_
  refine W.eq (g2 := F0 m 68 ls (.int (nI 1) :: [.ref o1])) (by rfl) ?_
  refine lv_iconst (v := nI 3) hx hb d_TB_counter_68 (by decide +kernel) ?_
  refine lv_iload hx hb d_TB_counter_69 (lv_at hl 0 rfl) ?_
  refine jn_iadd (a := 3) (b := 0) hx hb d_TB_counter_71 ?_
  refine W.eq (g2 := F0 m 72 ls (.int (nI 3) :: [.int (nI 1), .ref o1])) (by rfl) ?_
  refine lv_iconst (v := nI 1) hx hb d_TB_counter_72 (by decide +kernel) ?_
  refine lv_iload hx hb d_TB_counter_73 (lv_at hl 1 rfl) ?_
  refine jn_iadd (a := 1) (b := 0) hx hb d_TB_counter_75 ?_
  refine W.eq (g2 := F0 m 76 ls (.int (nI 1) :: [.int (nI 3), .int (nI 1), .ref o1])) (by rfl) ?_
  refine lv_iconst (v := nI 3) hx hb d_TB_counter_76 (by decide +kernel) ?_
  refine lv_iload hx hb d_TB_counter_77 (lv_at hl 1 rfl) ?_
  refine lv_iload hx hb d_TB_counter_79 (lv_at hl 0 rfl) ?_
  refine jn_imul (a := 0) (b := 0) hx hb d_TB_counter_81 ?_
  refine W.eq (g2 := F0 m 82 ls (.int (nI 0) :: [.int (nI 3), .int (nI 1), .int (nI 3), .int (nI 1), .ref o1])) (by rfl) ?_
  refine jn_iadd (a := 3) (b := 0) hx hb d_TB_counter_82 ?_
  refine W.eq (g2 := F0 m 83 ls (.int (nI 3) :: [.int (nI 1), .int (nI 3), .int (nI 1), .ref o1])) (by rfl) ?_
  refine cl_i (wr := [(x0, .inr (0, [.ref o1, .ref f0, .ref c0, .ref e0])), (f0, .inr (2, [.ref o1, .ref f1, .ref f2, .ref f3, .ref f4, .int np, .int ns, .int aw])), (f1, .inl (cI, 1764, .inl ce)), (f2, .inl (cJ, 1764, .inr (.inl oq))), (f3, .inl (cI, 42, .inl rp)), (f4, .inl (cI, 61, .inl tl)), (s1, .inl (cI, 100, .inl (rsF (flI st (nI 0) 100) 5)))]) (va_runV (As := [.int (nI 1), .int (nI 3), .int (nI 1), .int (nI 3)]) (rest := []) ⟨hx, hb, hml, hown, hw⟩ (k_TS_addType l D cI cJ o1 s1 s2 s3 (nI 2) 3 (adS (adS (adS sd 1 1 0 0 0) 2 2 0 0 0) 3 0 0 0 4) (adB (adB (adB (flJ be 0 400) 1 1 0 0 0) 2 2 0 0 0) 3 0 0 0 4) 1 3 1 3 _ (by omega) (by omega) (by omega) (by omega) (by omega)) (cwV 4 hw (gV kw_364 kw_365 kw_366 kw_41 kw_367) rfl rfl rfl (by decide +kernel) ⟨Nat.le_of_ble_eq_true rfl, Nat.le_of_ble_eq_true rfl⟩) (pre_Vw (wc := [(o1, .inr (1, [.ref s1, .ref s2, .ref s3, .int (nI 3), .int (nI 2)])), (s2, .inl (cI, 244, .inl (adS (adS (adS sd 1 1 0 0 0) 2 2 0 0 0) 3 0 0 0 4))), (s3, .inl (cJ, 400, .inr (.inl (adB (adB (adB (flJ be 0 400) 1 1 0 0 0) 2 2 0 0 0) 3 0 0 0 4))))]) (q0 := 0) hE hX hA hP hD hS [6, 8, 9] (by decide) rfl rfl rfl rfl) rfl rfl hl.1 rfl (lv_room (Nat.le_of_ble_eq_true rfl)) d_TB_counter_83 ⟨Nat.le_of_ble_eq_true rfl, Nat.le_of_ble_eq_true rfl⟩) hP hD hS hA [6, 8, 9] [0, 1, 2, 3, 4, 5, 7] rfl rfl (by decide) (by decide) (fun r_6 u_r_6 H locs hr_6 hP hD hS => ?_)
  obtain rfl : nI (3 + 1) = r_6 := hr_6.symm
  have hP : va_P D vwCl [(x0, .inr (0, [.ref o1, .ref f0, .ref c0, .ref e0])), (f0, .inr (2, [.ref o1, .ref f1, .ref f2, .ref f3, .ref f4, .int np, .int ns, .int aw])), (f1, .inl (cI, 1764, .inl ce)), (f2, .inl (cJ, 1764, .inr (.inl oq))), (f3, .inl (cI, 42, .inl rp)), (f4, .inl (cI, 61, .inl tl)), (s1, .inl (cI, 100, .inl (rsF (flI st (nI 0) 100) 5))), (o1, .inr (1, [.ref s1, .ref s2, .ref s3, .int (nI (3 + 1)), .int (nI 2)])), (s2, .inl (cI, 244, .inl (adS (adS (adS (adS sd 1 1 0 0 0) 2 2 0 0 0) 3 0 0 0 4) (3 + 1) 1 3 1 3))), (s3, .inl (cJ, 400, .inr (.inl (adB (adB (adB (adB (flJ be 0 400) 1 1 0 0 0) 2 2 0 0 0) 3 0 0 0 4) (3 + 1) 1 3 1 3))))] H := hP
  have hD : va_D A [(x0, .inr (0, [.ref o1, .ref f0, .ref c0, .ref e0])), (f0, .inr (2, [.ref o1, .ref f1, .ref f2, .ref f3, .ref f4, .int np, .int ns, .int aw])), (f1, .inl (cI, 1764, .inl ce)), (f2, .inl (cJ, 1764, .inr (.inl oq))), (f3, .inl (cI, 42, .inl rp)), (f4, .inl (cI, 61, .inl tl)), (s1, .inl (cI, 100, .inl (rsF (flI st (nI 0) 100) 5))), (o1, .inr (1, [.ref s1, .ref s2, .ref s3, .int (nI (3 + 1)), .int (nI 2)])), (s2, .inl (cI, 244, .inl (adS (adS (adS (adS sd 1 1 0 0 0) 2 2 0 0 0) 3 0 0 0 4) (3 + 1) 1 3 1 3))), (s3, .inl (cJ, 400, .inr (.inl (adB (adB (adB (adB (flJ be 0 400) 1 1 0 0 0) 2 2 0 0 0) 3 0 0 0 4) (3 + 1) 1 3 1 3))))] := hD
  refine lv_pop hx hb d_TB_counter_86 rfl ?_
  refine lv_iinc (v := nI 1) (lv' := [(5, .int (nI 1)), (4, .int (nI 0)), (0, .ref x0), (1, .int (nI a9)), (2, .int y), (3, .int (nI b9))]) hx hb d_TB_counter_87 hl (k := 0) rfl (by decide +kernel) (by decide) rfl (fun ls hl => ?_)
  refine lv_goto (tgt := 49) hx hb d_TB_counter_90 (by decide) ?_
  refine lv_iload hx hb d_TB_counter_49 (lv_at hl 0 rfl) ?_
  refine lv_iconst (v := nI 1) hx hb d_TB_counter_51 (by decide +kernel) ?_
  refine jn_icmp_gt (tgt := 93) (a := 1) (b := 1) hx hb d_TB_counter_52 (by decide) (by decide) (by decide) (fun c9 => absurd c9 (by decide)) (fun _ => ?_)
  refine lv_aload_n hx hb d_TB_counter_55 rfl (lv_at hl 2 rfl) ?_
  refine va_get (D := D) (ci := 0) (v := .ref o1) (C := R_TB) (T := T_TB) (N := 4) hx hb hw in_TB hown hE.1 hP 0 rfl rfl 0 (by decide) (hw _ kw_182) (fun _ h9 => h9) rfl d_TB_counter_56 ?_
  refine lv_iconst (v := nI 1) hx hb d_TB_counter_59 (by decide +kernel) ?_
  refine lv_iload hx hb d_TB_counter_60 (lv_at hl 1 rfl) ?_
  refine lv_iload hx hb d_TB_counter_62 (lv_at hl 0 rfl) ?_
  refine jn_iadd (a := 0) (b := 1) hx hb d_TB_counter_64 ?_
  refine W.eq (g2 := F0 m 65 ls (.int (nI 1) :: [.int (nI 1), .ref o1])) (by rfl) ?_
  refine lv_iconst (v := nI 2) hx hb d_TB_counter_65 (by decide +kernel) ?_
  refine jn_irem (a := 1) (b := 2) hx hb d_TB_counter_66 (by omega) (by omega) (by omega) ?_
  refine W.eq (g2 := F0 m 67 ls (.int (nI 1) :: [.int (nI 1), .ref o1])) (by rfl) ?_
  refine jn_iadd (a := 1) (b := 1) hx hb d_TB_counter_67 ?_
  refine W.eq (g2 := F0 m 68 ls (.int (nI 2) :: [.ref o1])) (by rfl) ?_
  refine lv_iconst (v := nI 3) hx hb d_TB_counter_68 (by decide +kernel) ?_
  refine lv_iload hx hb d_TB_counter_69 (lv_at hl 0 rfl) ?_
  refine jn_iadd (a := 3) (b := 1) hx hb d_TB_counter_71 ?_
  refine W.eq (g2 := F0 m 72 ls (.int (nI 4) :: [.int (nI 2), .ref o1])) (by rfl) ?_
  refine lv_iconst (v := nI 1) hx hb d_TB_counter_72 (by decide +kernel) ?_
  refine lv_iload hx hb d_TB_counter_73 (lv_at hl 1 rfl) ?_
  refine jn_iadd (a := 1) (b := 0) hx hb d_TB_counter_75 ?_
  refine W.eq (g2 := F0 m 76 ls (.int (nI 1) :: [.int (nI 4), .int (nI 2), .ref o1])) (by rfl) ?_
  refine lv_iconst (v := nI 3) hx hb d_TB_counter_76 (by decide +kernel) ?_
  refine lv_iload hx hb d_TB_counter_77 (lv_at hl 1 rfl) ?_
  refine lv_iload hx hb d_TB_counter_79 (lv_at hl 0 rfl) ?_
  refine jn_imul (a := 0) (b := 1) hx hb d_TB_counter_81 ?_
  refine W.eq (g2 := F0 m 82 ls (.int (nI 0) :: [.int (nI 3), .int (nI 1), .int (nI 4), .int (nI 2), .ref o1])) (by rfl) ?_
  refine jn_iadd (a := 3) (b := 0) hx hb d_TB_counter_82 ?_
  refine W.eq (g2 := F0 m 83 ls (.int (nI 3) :: [.int (nI 1), .int (nI 4), .int (nI 2), .ref o1])) (by rfl) ?_
  refine cl_i (wr := [(x0, .inr (0, [.ref o1, .ref f0, .ref c0, .ref e0])), (f0, .inr (2, [.ref o1, .ref f1, .ref f2, .ref f3, .ref f4, .int np, .int ns, .int aw])), (f1, .inl (cI, 1764, .inl ce)), (f2, .inl (cJ, 1764, .inr (.inl oq))), (f3, .inl (cI, 42, .inl rp)), (f4, .inl (cI, 61, .inl tl)), (s1, .inl (cI, 100, .inl (rsF (flI st (nI 0) 100) 5)))]) (va_runV (As := [.int (nI 2), .int (nI 4), .int (nI 1), .int (nI 3)]) (rest := []) ⟨hx, hb, hml, hown, hw⟩ (k_TS_addType l D cI cJ o1 s1 s2 s3 (nI 2) (3 + 1) (adS (adS (adS (adS sd 1 1 0 0 0) 2 2 0 0 0) 3 0 0 0 4) (3 + 1) 1 3 1 3) (adB (adB (adB (adB (flJ be 0 400) 1 1 0 0 0) 2 2 0 0 0) 3 0 0 0 4) (3 + 1) 1 3 1 3) 2 4 1 3 _ (by omega) (by omega) (by omega) (by omega) (by omega)) (cwV 4 hw (gV kw_364 kw_365 kw_366 kw_41 kw_367) rfl rfl rfl (by decide +kernel) ⟨Nat.le_of_ble_eq_true rfl, Nat.le_of_ble_eq_true rfl⟩) (pre_Vw (wc := [(o1, .inr (1, [.ref s1, .ref s2, .ref s3, .int (nI (3 + 1)), .int (nI 2)])), (s2, .inl (cI, 244, .inl (adS (adS (adS (adS sd 1 1 0 0 0) 2 2 0 0 0) 3 0 0 0 4) (3 + 1) 1 3 1 3))), (s3, .inl (cJ, 400, .inr (.inl (adB (adB (adB (adB (flJ be 0 400) 1 1 0 0 0) 2 2 0 0 0) 3 0 0 0 4) (3 + 1) 1 3 1 3))))]) (q0 := 0) hE hX hA hP hD hS [7, 8, 9] (by decide) rfl rfl rfl rfl) rfl rfl hl.1 rfl (lv_room (Nat.le_of_ble_eq_true rfl)) d_TB_counter_83 ⟨Nat.le_of_ble_eq_true rfl, Nat.le_of_ble_eq_true rfl⟩) hP hD hS hA [7, 8, 9] [0, 1, 2, 3, 4, 5, 6] rfl rfl (by decide) (by decide) (fun r_7 u_r_7 H locs hr_7 hP hD hS => ?_)
  obtain rfl : nI ((3 + 1) + 1) = r_7 := hr_7.symm
  have hP : va_P D vwCl [(x0, .inr (0, [.ref o1, .ref f0, .ref c0, .ref e0])), (f0, .inr (2, [.ref o1, .ref f1, .ref f2, .ref f3, .ref f4, .int np, .int ns, .int aw])), (f1, .inl (cI, 1764, .inl ce)), (f2, .inl (cJ, 1764, .inr (.inl oq))), (f3, .inl (cI, 42, .inl rp)), (f4, .inl (cI, 61, .inl tl)), (s1, .inl (cI, 100, .inl (rsF (flI st (nI 0) 100) 5))), (o1, .inr (1, [.ref s1, .ref s2, .ref s3, .int (nI ((3 + 1) + 1)), .int (nI 2)])), (s2, .inl (cI, 244, .inl (adS (adS (adS (adS (adS sd 1 1 0 0 0) 2 2 0 0 0) 3 0 0 0 4) (3 + 1) 1 3 1 3) ((3 + 1) + 1) 2 4 1 3))), (s3, .inl (cJ, 400, .inr (.inl (adB (adB (adB (adB (adB (flJ be 0 400) 1 1 0 0 0) 2 2 0 0 0) 3 0 0 0 4) (3 + 1) 1 3 1 3) ((3 + 1) + 1) 2 4 1 3))))] H := hP
  have hD : va_D A [(x0, .inr (0, [.ref o1, .ref f0, .ref c0, .ref e0])), (f0, .inr (2, [.ref o1, .ref f1, .ref f2, .ref f3, .ref f4, .int np, .int ns, .int aw])), (f1, .inl (cI, 1764, .inl ce)), (f2, .inl (cJ, 1764, .inr (.inl oq))), (f3, .inl (cI, 42, .inl rp)), (f4, .inl (cI, 61, .inl tl)), (s1, .inl (cI, 100, .inl (rsF (flI st (nI 0) 100) 5))), (o1, .inr (1, [.ref s1, .ref s2, .ref s3, .int (nI ((3 + 1) + 1)), .int (nI 2)])), (s2, .inl (cI, 244, .inl (adS (adS (adS (adS (adS sd 1 1 0 0 0) 2 2 0 0 0) 3 0 0 0 4) (3 + 1) 1 3 1 3) ((3 + 1) + 1) 2 4 1 3))), (s3, .inl (cJ, 400, .inr (.inl (adB (adB (adB (adB (adB (flJ be 0 400) 1 1 0 0 0) 2 2 0 0 0) 3 0 0 0 4) (3 + 1) 1 3 1 3) ((3 + 1) + 1) 2 4 1 3))))] := hD
  refine lv_pop hx hb d_TB_counter_86 rfl ?_
  refine lv_iinc (v := nI 2) (lv' := [(5, .int (nI 2)), (4, .int (nI 0)), (0, .ref x0), (1, .int (nI a9)), (2, .int y), (3, .int (nI b9))]) hx hb d_TB_counter_87 hl (k := 0) rfl (by decide +kernel) (by decide) rfl (fun ls hl => ?_)
  refine lv_goto (tgt := 49) hx hb d_TB_counter_90 (by decide) ?_
  refine lv_iload hx hb d_TB_counter_49 (lv_at hl 0 rfl) ?_
  refine lv_iconst (v := nI 1) hx hb d_TB_counter_51 (by decide +kernel) ?_
  refine jn_icmp_gt (tgt := 93) (a := 2) (b := 1) hx hb d_TB_counter_52 (by decide) (by decide) (by decide) (fun _ => ?_) (fun c9 => absurd c9 (by decide))
  refine lv_iinc (v := nI 1) (lv' := [(4, .int (nI 1)), (5, .int (nI 2)), (0, .ref x0), (1, .int (nI a9)), (2, .int y), (3, .int (nI b9))]) hx hb d_TB_counter_93 hl (k := 1) rfl (by decide +kernel) (by decide) rfl (fun ls hl => ?_)
  refine lv_goto (tgt := 40) hx hb d_TB_counter_96 (by decide) ?_
  refine lv_iload hx hb d_TB_counter_40 (lv_at hl 0 rfl) ?_
  refine lv_iconst (v := nI 1) hx hb d_TB_counter_42 (by decide +kernel) ?_
  refine jn_icmp_gt (tgt := 99) (a := 1) (b := 1) hx hb d_TB_counter_43 (by decide) (by decide) (by decide) (fun c9 => absurd c9 (by decide)) (fun _ => ?_)
  refine lv_iconst (v := nI 0) hx hb d_TB_counter_46 (by decide +kernel) ?_
  refine lv_istore (lv' := [(5, .int (nI 0)), (4, .int (nI 1)), (0, .ref x0), (1, .int (nI a9)), (2, .int y), (3, .int (nI b9))]) hx hb d_TB_counter_47 hl (by decide) rfl (fun ls hl => ?_)
  refine lv_iload hx hb d_TB_counter_49 (lv_at hl 0 rfl) ?_
  refine lv_iconst (v := nI 1) hx hb d_TB_counter_51 (by decide +kernel) ?_
  refine jn_icmp_gt (tgt := 93) (a := 0) (b := 1) hx hb d_TB_counter_52 (by decide) (by decide) (by decide) (fun c9 => absurd c9 (by decide)) (fun _ => ?_)
  refine lv_aload_n hx hb d_TB_counter_55 rfl (lv_at hl 2 rfl) ?_
  refine va_get (D := D) (ci := 0) (v := .ref o1) (C := R_TB) (T := T_TB) (N := 4) hx hb hw in_TB hown hE.1 hP 0 rfl rfl 0 (by decide) (hw _ kw_182) (fun _ h9 => h9) rfl d_TB_counter_56 ?_
  refine lv_iconst (v := nI 1) hx hb d_TB_counter_59 (by decide +kernel) ?_
  refine lv_iload hx hb d_TB_counter_60 (lv_at hl 1 rfl) ?_
  refine lv_iload hx hb d_TB_counter_62 (lv_at hl 0 rfl) ?_
  refine jn_iadd (a := 1) (b := 0) hx hb d_TB_counter_64 ?_
  refine W.eq (g2 := F0 m 65 ls (.int (nI 1) :: [.int (nI 1), .ref o1])) (by rfl) ?_
  refine lv_iconst (v := nI 2) hx hb d_TB_counter_65 (by decide +kernel) ?_
  refine jn_irem (a := 1) (b := 2) hx hb d_TB_counter_66 (by omega) (by omega) (by omega) ?_
  refine W.eq (g2 := F0 m 67 ls (.int (nI 1) :: [.int (nI 1), .ref o1])) (by rfl) ?_
  refine jn_iadd (a := 1) (b := 1) hx hb d_TB_counter_67 ?_
  refine W.eq (g2 := F0 m 68 ls (.int (nI 2) :: [.ref o1])) (by rfl) ?_
  refine lv_iconst (v := nI 3) hx hb d_TB_counter_68 (by decide +kernel) ?_
  refine lv_iload hx hb d_TB_counter_69 (lv_at hl 0 rfl) ?_
  refine jn_iadd (a := 3) (b := 0) hx hb d_TB_counter_71 ?_
  refine W.eq (g2 := F0 m 72 ls (.int (nI 3) :: [.int (nI 2), .ref o1])) (by rfl) ?_
  refine lv_iconst (v := nI 1) hx hb d_TB_counter_72 (by decide +kernel) ?_
  refine lv_iload hx hb d_TB_counter_73 (lv_at hl 1 rfl) ?_
  refine jn_iadd (a := 1) (b := 1) hx hb d_TB_counter_75 ?_
  refine W.eq (g2 := F0 m 76 ls (.int (nI 2) :: [.int (nI 3), .int (nI 2), .ref o1])) (by rfl) ?_
  refine lv_iconst (v := nI 3) hx hb d_TB_counter_76 (by decide +kernel) ?_
  refine lv_iload hx hb d_TB_counter_77 (lv_at hl 1 rfl) ?_
  refine lv_iload hx hb d_TB_counter_79 (lv_at hl 0 rfl) ?_
  refine jn_imul (a := 1) (b := 0) hx hb d_TB_counter_81 ?_
  refine W.eq (g2 := F0 m 82 ls (.int (nI 0) :: [.int (nI 3), .int (nI 2), .int (nI 3), .int (nI 2), .ref o1])) (by rfl) ?_
  refine jn_iadd (a := 3) (b := 0) hx hb d_TB_counter_82 ?_
  refine W.eq (g2 := F0 m 83 ls (.int (nI 3) :: [.int (nI 2), .int (nI 3), .int (nI 2), .ref o1])) (by rfl) ?_
  refine cl_i (wr := [(x0, .inr (0, [.ref o1, .ref f0, .ref c0, .ref e0])), (f0, .inr (2, [.ref o1, .ref f1, .ref f2, .ref f3, .ref f4, .int np, .int ns, .int aw])), (f1, .inl (cI, 1764, .inl ce)), (f2, .inl (cJ, 1764, .inr (.inl oq))), (f3, .inl (cI, 42, .inl rp)), (f4, .inl (cI, 61, .inl tl)), (s1, .inl (cI, 100, .inl (rsF (flI st (nI 0) 100) 5)))]) (va_runV (As := [.int (nI 2), .int (nI 3), .int (nI 2), .int (nI 3)]) (rest := []) ⟨hx, hb, hml, hown, hw⟩ (k_TS_addType l D cI cJ o1 s1 s2 s3 (nI 2) ((3 + 1) + 1) (adS (adS (adS (adS (adS sd 1 1 0 0 0) 2 2 0 0 0) 3 0 0 0 4) (3 + 1) 1 3 1 3) ((3 + 1) + 1) 2 4 1 3) (adB (adB (adB (adB (adB (flJ be 0 400) 1 1 0 0 0) 2 2 0 0 0) 3 0 0 0 4) (3 + 1) 1 3 1 3) ((3 + 1) + 1) 2 4 1 3) 2 3 2 3 _ (by omega) (by omega) (by omega) (by omega) (by omega)) (cwV 4 hw (gV kw_364 kw_365 kw_366 kw_41 kw_367) rfl rfl rfl (by decide +kernel) ⟨Nat.le_of_ble_eq_true rfl, Nat.le_of_ble_eq_true rfl⟩) (pre_Vw (wc := [(o1, .inr (1, [.ref s1, .ref s2, .ref s3, .int (nI ((3 + 1) + 1)), .int (nI 2)])), (s2, .inl (cI, 244, .inl (adS (adS (adS (adS (adS sd 1 1 0 0 0) 2 2 0 0 0) 3 0 0 0 4) (3 + 1) 1 3 1 3) ((3 + 1) + 1) 2 4 1 3))), (s3, .inl (cJ, 400, .inr (.inl (adB (adB (adB (adB (adB (flJ be 0 400) 1 1 0 0 0) 2 2 0 0 0) 3 0 0 0 4) (3 + 1) 1 3 1 3) ((3 + 1) + 1) 2 4 1 3))))]) (q0 := 0) hE hX hA hP hD hS [7, 8, 9] (by decide) rfl rfl rfl rfl) rfl rfl hl.1 rfl (lv_room (Nat.le_of_ble_eq_true rfl)) d_TB_counter_83 ⟨Nat.le_of_ble_eq_true rfl, Nat.le_of_ble_eq_true rfl⟩) hP hD hS hA [7, 8, 9] [0, 1, 2, 3, 4, 5, 6] rfl rfl (by decide) (by decide) (fun r_8 u_r_8 H locs hr_8 hP hD hS => ?_)
  obtain rfl : nI (((3 + 1) + 1) + 1) = r_8 := hr_8.symm
  have hP : va_P D vwCl [(x0, .inr (0, [.ref o1, .ref f0, .ref c0, .ref e0])), (f0, .inr (2, [.ref o1, .ref f1, .ref f2, .ref f3, .ref f4, .int np, .int ns, .int aw])), (f1, .inl (cI, 1764, .inl ce)), (f2, .inl (cJ, 1764, .inr (.inl oq))), (f3, .inl (cI, 42, .inl rp)), (f4, .inl (cI, 61, .inl tl)), (s1, .inl (cI, 100, .inl (rsF (flI st (nI 0) 100) 5))), (o1, .inr (1, [.ref s1, .ref s2, .ref s3, .int (nI (((3 + 1) + 1) + 1)), .int (nI 2)])), (s2, .inl (cI, 244, .inl (adS (adS (adS (adS (adS (adS sd 1 1 0 0 0) 2 2 0 0 0) 3 0 0 0 4) (3 + 1) 1 3 1 3) ((3 + 1) + 1) 2 4 1 3) (((3 + 1) + 1) + 1) 2 3 2 3))), (s3, .inl (cJ, 400, .inr (.inl (adB (adB (adB (adB (adB (adB (flJ be 0 400) 1 1 0 0 0) 2 2 0 0 0) 3 0 0 0 4) (3 + 1) 1 3 1 3) ((3 + 1) + 1) 2 4 1 3) (((3 + 1) + 1) + 1) 2 3 2 3))))] H := hP
  have hD : va_D A [(x0, .inr (0, [.ref o1, .ref f0, .ref c0, .ref e0])), (f0, .inr (2, [.ref o1, .ref f1, .ref f2, .ref f3, .ref f4, .int np, .int ns, .int aw])), (f1, .inl (cI, 1764, .inl ce)), (f2, .inl (cJ, 1764, .inr (.inl oq))), (f3, .inl (cI, 42, .inl rp)), (f4, .inl (cI, 61, .inl tl)), (s1, .inl (cI, 100, .inl (rsF (flI st (nI 0) 100) 5))), (o1, .inr (1, [.ref s1, .ref s2, .ref s3, .int (nI (((3 + 1) + 1) + 1)), .int (nI 2)])), (s2, .inl (cI, 244, .inl (adS (adS (adS (adS (adS (adS sd 1 1 0 0 0) 2 2 0 0 0) 3 0 0 0 4) (3 + 1) 1 3 1 3) ((3 + 1) + 1) 2 4 1 3) (((3 + 1) + 1) + 1) 2 3 2 3))), (s3, .inl (cJ, 400, .inr (.inl (adB (adB (adB (adB (adB (adB (flJ be 0 400) 1 1 0 0 0) 2 2 0 0 0) 3 0 0 0 4) (3 + 1) 1 3 1 3) ((3 + 1) + 1) 2 4 1 3) (((3 + 1) + 1) + 1) 2 3 2 3))))] := hD
  refine lv_pop hx hb d_TB_counter_86 rfl ?_
  refine lv_iinc (v := nI 1) (lv' := [(5, .int (nI 1)), (4, .int (nI 1)), (0, .ref x0), (1, .int (nI a9)), (2, .int y), (3, .int (nI b9))]) hx hb d_TB_counter_87 hl (k := 0) rfl (by decide +kernel) (by decide) rfl (fun ls hl => ?_)
  refine lv_goto (tgt := 49) hx hb d_TB_counter_90 (by decide) ?_
  refine lv_iload hx hb d_TB_counter_49 (lv_at hl 0 rfl) ?_
  refine lv_iconst (v := nI 1) hx hb d_TB_counter_51 (by decide +kernel) ?_
  refine jn_icmp_gt (tgt := 93) (a := 1) (b := 1) hx hb d_TB_counter_52 (by decide) (by decide) (by decide) (fun c9 => absurd c9 (by decide)) (fun _ => ?_)
  refine lv_aload_n hx hb d_TB_counter_55 rfl (lv_at hl 2 rfl) ?_
  refine va_get (D := D) (ci := 0) (v := .ref o1) (C := R_TB) (T := T_TB) (N := 4) hx hb hw in_TB hown hE.1 hP 0 rfl rfl 0 (by decide) (hw _ kw_182) (fun _ h9 => h9) rfl d_TB_counter_56 ?_
  refine lv_iconst (v := nI 1) hx hb d_TB_counter_59 (by decide +kernel) ?_
  refine lv_iload hx hb d_TB_counter_60 (lv_at hl 1 rfl) ?_
  refine lv_iload hx hb d_TB_counter_62 (lv_at hl 0 rfl) ?_
  refine jn_iadd (a := 1) (b := 1) hx hb d_TB_counter_64 ?_
  refine W.eq (g2 := F0 m 65 ls (.int (nI 2) :: [.int (nI 1), .ref o1])) (by rfl) ?_
  refine lv_iconst (v := nI 2) hx hb d_TB_counter_65 (by decide +kernel) ?_
  refine jn_irem (a := 2) (b := 2) hx hb d_TB_counter_66 (by omega) (by omega) (by omega) ?_
  refine W.eq (g2 := F0 m 67 ls (.int (nI 0) :: [.int (nI 1), .ref o1])) (by rfl) ?_
  refine jn_iadd (a := 1) (b := 0) hx hb d_TB_counter_67 ?_
  refine W.eq (g2 := F0 m 68 ls (.int (nI 1) :: [.ref o1])) (by rfl) ?_
  refine lv_iconst (v := nI 3) hx hb d_TB_counter_68 (by decide +kernel) ?_
  refine lv_iload hx hb d_TB_counter_69 (lv_at hl 0 rfl) ?_
  refine jn_iadd (a := 3) (b := 1) hx hb d_TB_counter_71 ?_
  refine W.eq (g2 := F0 m 72 ls (.int (nI 4) :: [.int (nI 1), .ref o1])) (by rfl) ?_
  refine lv_iconst (v := nI 1) hx hb d_TB_counter_72 (by decide +kernel) ?_
  refine lv_iload hx hb d_TB_counter_73 (lv_at hl 1 rfl) ?_
  refine jn_iadd (a := 1) (b := 1) hx hb d_TB_counter_75 ?_
  refine W.eq (g2 := F0 m 76 ls (.int (nI 2) :: [.int (nI 4), .int (nI 1), .ref o1])) (by rfl) ?_
  refine lv_iconst (v := nI 3) hx hb d_TB_counter_76 (by decide +kernel) ?_
  refine lv_iload hx hb d_TB_counter_77 (lv_at hl 1 rfl) ?_
  refine lv_iload hx hb d_TB_counter_79 (lv_at hl 0 rfl) ?_
  refine jn_imul (a := 1) (b := 1) hx hb d_TB_counter_81 ?_
  refine W.eq (g2 := F0 m 82 ls (.int (nI 1) :: [.int (nI 3), .int (nI 2), .int (nI 4), .int (nI 1), .ref o1])) (by rfl) ?_
  refine jn_iadd (a := 3) (b := 1) hx hb d_TB_counter_82 ?_
  refine W.eq (g2 := F0 m 83 ls (.int (nI 4) :: [.int (nI 2), .int (nI 4), .int (nI 1), .ref o1])) (by rfl) ?_
  refine cl_i (wr := [(x0, .inr (0, [.ref o1, .ref f0, .ref c0, .ref e0])), (f0, .inr (2, [.ref o1, .ref f1, .ref f2, .ref f3, .ref f4, .int np, .int ns, .int aw])), (f1, .inl (cI, 1764, .inl ce)), (f2, .inl (cJ, 1764, .inr (.inl oq))), (f3, .inl (cI, 42, .inl rp)), (f4, .inl (cI, 61, .inl tl)), (s1, .inl (cI, 100, .inl (rsF (flI st (nI 0) 100) 5)))]) (va_runV (As := [.int (nI 1), .int (nI 4), .int (nI 2), .int (nI 4)]) (rest := []) ⟨hx, hb, hml, hown, hw⟩ (k_TS_addType l D cI cJ o1 s1 s2 s3 (nI 2) (((3 + 1) + 1) + 1) (adS (adS (adS (adS (adS (adS sd 1 1 0 0 0) 2 2 0 0 0) 3 0 0 0 4) (3 + 1) 1 3 1 3) ((3 + 1) + 1) 2 4 1 3) (((3 + 1) + 1) + 1) 2 3 2 3) (adB (adB (adB (adB (adB (adB (flJ be 0 400) 1 1 0 0 0) 2 2 0 0 0) 3 0 0 0 4) (3 + 1) 1 3 1 3) ((3 + 1) + 1) 2 4 1 3) (((3 + 1) + 1) + 1) 2 3 2 3) 1 4 2 4 _ (by omega) (by omega) (by omega) (by omega) (by omega)) (cwV 4 hw (gV kw_364 kw_365 kw_366 kw_41 kw_367) rfl rfl rfl (by decide +kernel) ⟨Nat.le_of_ble_eq_true rfl, Nat.le_of_ble_eq_true rfl⟩) (pre_Vw (wc := [(o1, .inr (1, [.ref s1, .ref s2, .ref s3, .int (nI (((3 + 1) + 1) + 1)), .int (nI 2)])), (s2, .inl (cI, 244, .inl (adS (adS (adS (adS (adS (adS sd 1 1 0 0 0) 2 2 0 0 0) 3 0 0 0 4) (3 + 1) 1 3 1 3) ((3 + 1) + 1) 2 4 1 3) (((3 + 1) + 1) + 1) 2 3 2 3))), (s3, .inl (cJ, 400, .inr (.inl (adB (adB (adB (adB (adB (adB (flJ be 0 400) 1 1 0 0 0) 2 2 0 0 0) 3 0 0 0 4) (3 + 1) 1 3 1 3) ((3 + 1) + 1) 2 4 1 3) (((3 + 1) + 1) + 1) 2 3 2 3))))]) (q0 := 0) hE hX hA hP hD hS [7, 8, 9] (by decide) rfl rfl rfl rfl) rfl rfl hl.1 rfl (lv_room (Nat.le_of_ble_eq_true rfl)) d_TB_counter_83 ⟨Nat.le_of_ble_eq_true rfl, Nat.le_of_ble_eq_true rfl⟩) hP hD hS hA [7, 8, 9] [0, 1, 2, 3, 4, 5, 6] rfl rfl (by decide) (by decide) (fun r_9 u_r_9 H locs hr_9 hP hD hS => ?_)
  obtain rfl : nI ((((3 + 1) + 1) + 1) + 1) = r_9 := hr_9.symm
  have hP : va_P D vwCl [(x0, .inr (0, [.ref o1, .ref f0, .ref c0, .ref e0])), (f0, .inr (2, [.ref o1, .ref f1, .ref f2, .ref f3, .ref f4, .int np, .int ns, .int aw])), (f1, .inl (cI, 1764, .inl ce)), (f2, .inl (cJ, 1764, .inr (.inl oq))), (f3, .inl (cI, 42, .inl rp)), (f4, .inl (cI, 61, .inl tl)), (s1, .inl (cI, 100, .inl (rsF (flI st (nI 0) 100) 5))), (o1, .inr (1, [.ref s1, .ref s2, .ref s3, .int (nI ((((3 + 1) + 1) + 1) + 1)), .int (nI 2)])), (s2, .inl (cI, 244, .inl (adS (adS (adS (adS (adS (adS (adS sd 1 1 0 0 0) 2 2 0 0 0) 3 0 0 0 4) (3 + 1) 1 3 1 3) ((3 + 1) + 1) 2 4 1 3) (((3 + 1) + 1) + 1) 2 3 2 3) ((((3 + 1) + 1) + 1) + 1) 1 4 2 4))), (s3, .inl (cJ, 400, .inr (.inl (adB (adB (adB (adB (adB (adB (adB (flJ be 0 400) 1 1 0 0 0) 2 2 0 0 0) 3 0 0 0 4) (3 + 1) 1 3 1 3) ((3 + 1) + 1) 2 4 1 3) (((3 + 1) + 1) + 1) 2 3 2 3) ((((3 + 1) + 1) + 1) + 1) 1 4 2 4))))] H := hP
  have hD : va_D A [(x0, .inr (0, [.ref o1, .ref f0, .ref c0, .ref e0])), (f0, .inr (2, [.ref o1, .ref f1, .ref f2, .ref f3, .ref f4, .int np, .int ns, .int aw])), (f1, .inl (cI, 1764, .inl ce)), (f2, .inl (cJ, 1764, .inr (.inl oq))), (f3, .inl (cI, 42, .inl rp)), (f4, .inl (cI, 61, .inl tl)), (s1, .inl (cI, 100, .inl (rsF (flI st (nI 0) 100) 5))), (o1, .inr (1, [.ref s1, .ref s2, .ref s3, .int (nI ((((3 + 1) + 1) + 1) + 1)), .int (nI 2)])), (s2, .inl (cI, 244, .inl (adS (adS (adS (adS (adS (adS (adS sd 1 1 0 0 0) 2 2 0 0 0) 3 0 0 0 4) (3 + 1) 1 3 1 3) ((3 + 1) + 1) 2 4 1 3) (((3 + 1) + 1) + 1) 2 3 2 3) ((((3 + 1) + 1) + 1) + 1) 1 4 2 4))), (s3, .inl (cJ, 400, .inr (.inl (adB (adB (adB (adB (adB (adB (adB (flJ be 0 400) 1 1 0 0 0) 2 2 0 0 0) 3 0 0 0 4) (3 + 1) 1 3 1 3) ((3 + 1) + 1) 2 4 1 3) (((3 + 1) + 1) + 1) 2 3 2 3) ((((3 + 1) + 1) + 1) + 1) 1 4 2 4))))] := hD
  refine lv_pop hx hb d_TB_counter_86 rfl ?_
  refine lv_iinc (v := nI 2) (lv' := [(5, .int (nI 2)), (4, .int (nI 1)), (0, .ref x0), (1, .int (nI a9)), (2, .int y), (3, .int (nI b9))]) hx hb d_TB_counter_87 hl (k := 0) rfl (by decide +kernel) (by decide) rfl (fun ls hl => ?_)
  refine lv_goto (tgt := 49) hx hb d_TB_counter_90 (by decide) ?_
  refine lv_iload hx hb d_TB_counter_49 (lv_at hl 0 rfl) ?_
  refine lv_iconst (v := nI 1) hx hb d_TB_counter_51 (by decide +kernel) ?_
  refine jn_icmp_gt (tgt := 93) (a := 2) (b := 1) hx hb d_TB_counter_52 (by decide) (by decide) (by decide) (fun _ => ?_) (fun c9 => absurd c9 (by decide))
  refine lv_iinc (v := nI 2) (lv' := [(4, .int (nI 2)), (5, .int (nI 2)), (0, .ref x0), (1, .int (nI a9)), (2, .int y), (3, .int (nI b9))]) hx hb d_TB_counter_93 hl (k := 1) rfl (by decide +kernel) (by decide) rfl (fun ls hl => ?_)
  refine lv_goto (tgt := 40) hx hb d_TB_counter_96 (by decide) ?_
  refine lv_iload hx hb d_TB_counter_40 (lv_at hl 0 rfl) ?_
  refine lv_iconst (v := nI 1) hx hb d_TB_counter_42 (by decide +kernel) ?_
  refine jn_icmp_gt (tgt := 99) (a := 2) (b := 1) hx hb d_TB_counter_43 (by decide) (by decide) (by decide) (fun _ => ?_) (fun c9 => absurd c9 (by decide))
  have hP : va_P D vwCl [(x0, .inr (0, [.ref o1, .ref f0, .ref c0, .ref e0])), (f0, .inr (2, [.ref o1, .ref f1, .ref f2, .ref f3, .ref f4, .int np, .int ns, .int aw])), (f1, .inl (cI, 1764, .inl ce)), (f2, .inl (cJ, 1764, .inr (.inl oq))), (f3, .inl (cI, 42, .inl rp)), (f4, .inl (cI, 61, .inl tl)), (s1, .inl (cI, 100, .inl (bgS st))), (o1, .inr (1, [.ref s1, .ref s2, .ref s3, .int (nI 7), .int (nI 2)])), (s2, .inl (cI, 244, .inl (ctSd sd))), (s3, .inl (cJ, 400, .inr (.inl (ctBe be))))] H := hP
  have hD : va_D A [(x0, .inr (0, [.ref o1, .ref f0, .ref c0, .ref e0])), (f0, .inr (2, [.ref o1, .ref f1, .ref f2, .ref f3, .ref f4, .int np, .int ns, .int aw])), (f1, .inl (cI, 1764, .inl ce)), (f2, .inl (cJ, 1764, .inr (.inl oq))), (f3, .inl (cI, 42, .inl rp)), (f4, .inl (cI, 61, .inl tl)), (s1, .inl (cI, 100, .inl (bgS st))), (o1, .inr (1, [.ref s1, .ref s2, .ref s3, .int (nI 7), .int (nI 2)])), (s2, .inl (cI, 244, .inl (ctSd sd))), (s3, .inl (cJ, 400, .inr (.inl (ctBe be))))] := hD
  refine lv_iconst (v := nI 0) hx hb d_TB_counter_99 (by decide +kernel) ?_
  refine lv_istore (lv' := [(4, .int (nI 0)), (5, .int (nI 2)), (0, .ref x0), (1, .int (nI a9)), (2, .int y), (3, .int (nI b9))]) hx hb d_TB_counter_100 hl (by decide) rfl (fun ls hl => ?_)
  refine lp_k_TB_counter_102 x0 c0 e0 f0 f1 f2 f3 f4 o1 np ns aw s1 s2 s3 ty wa st sd be ce oq rp tl (nI a9) y (nI b9) hce hsd a9 hk1 (by omega) b9 hx hb hml hown hw hE hX hA (fun z9 hz hok H locs ls hP hD hS hl => ?_) ((a9 - 0) + 1) 0 (ce, oq, rp, tl, np, ns, aw) (Nat.lt_succ_self _) (Nat.zero_le _) rfl hce _ _ _ (hP.sub [0, 1, 2, 3, 4, 5, 7, 6, 8, 9] rfl) (hD.sub [0, 1, 2, 3, 4, 5, 7, 6, 8, 9] (by decide) rfl) hS (lv_sub hl [2, 3, 4, 5, 0] rfl)
  refine lv_aload_n hx hb d_TB_counter_142 rfl (lv_at hl 0 rfl) ?_
  refine lv_iload_n hx hb d_TB_counter_143 rfl (lv_at hl 1 rfl) ?_
  refine lv_iload_n hx hb d_TB_counter_144 rfl (lv_at hl 2 rfl) ?_
  refine cl_v (wr := []) (va_runV (As := [.int (nI a9), .int (nI b9)]) (rest := []) ⟨hx, hb, hml, hown, hw⟩ (k_TB_plantColumn l D cI cJ x0 c0 e0 f0 f1 f2 f3 f4 o1 z9.2.2.2.2.1 z9.2.2.2.2.2.1 z9.2.2.2.2.2.2 s1 s2 s3 (nI 7) (nI 2) (bgS st) (ctSd sd) (ctBe be) z9.1 z9.2.1 z9.2.2.1 z9.2.2.2.1 a9 b9 _ hok (okSd_ct hsd) (okSt_bgS st) (by omega) hj1 hj2) (cwV 2 hw (gV kw_744 kw_746 kw_19 kw_40 kw_747) rfl rfl rfl (by decide +kernel) ⟨Nat.le_of_ble_eq_true rfl, Nat.le_of_ble_eq_true rfl⟩) (pre_Vw (wc := [(x0, .inr (0, [.ref o1, .ref f0, .ref c0, .ref e0])), (f0, .inr (2, [.ref o1, .ref f1, .ref f2, .ref f3, .ref f4, .int z9.2.2.2.2.1, .int z9.2.2.2.2.2.1, .int z9.2.2.2.2.2.2])), (f1, .inl (cI, 1764, .inl z9.1)), (f2, .inl (cJ, 1764, .inr (.inl z9.2.1))), (f3, .inl (cI, 42, .inl z9.2.2.1)), (f4, .inl (cI, 61, .inl z9.2.2.2.1)), (o1, .inr (1, [.ref s1, .ref s2, .ref s3, .int (nI 7), .int (nI 2)])), (s1, .inl (cI, 100, .inl (bgS st))), (s2, .inl (cI, 244, .inl (ctSd sd))), (s3, .inl (cJ, 400, .inr (.inl (ctBe be))))]) (q0 := 0) hE hX hA hP hD hS [0, 1, 2, 3, 4, 5, 6, 7, 8, 9] (by decide) rfl rfl rfl rfl) rfl rfl hl.1 rfl (lv_room (Nat.le_of_ble_eq_true rfl)) d_TB_counter_145 ⟨Nat.le_of_ble_eq_true rfl, Nat.le_of_ble_eq_true rfl⟩) hP hD hS hA [0, 1, 2, 3, 4, 5, 6, 7, 8, 9] [] rfl rfl (by decide) (by decide) (fun u_r_10 H locs hr_10 hP hD hS => ?_)
  have hP : va_P D vwCl [(x0, .inr (0, [.ref o1, .ref f0, .ref c0, .ref e0])), (f0, .inr (2, [.ref o1, .ref f1, .ref f2, .ref f3, .ref f4, .int u_r_10.2.2.2.2.1, .int u_r_10.2.2.2.2.2.1, .int u_r_10.2.2.2.2.2.2])), (f1, .inl (cI, 1764, .inl u_r_10.1)), (f2, .inl (cJ, 1764, .inr (.inl u_r_10.2.1))), (f3, .inl (cI, 42, .inl u_r_10.2.2.1)), (f4, .inl (cI, 61, .inl u_r_10.2.2.2.1)), (o1, .inr (1, [.ref s1, .ref s2, .ref s3, .int (nI 7), .int (nI 2)])), (s1, .inl (cI, 100, .inl (bgS st))), (s2, .inl (cI, 244, .inl (ctSd sd))), (s3, .inl (cJ, 400, .inr (.inl (ctBe be))))] H := hP
  have hD : va_D A [(x0, .inr (0, [.ref o1, .ref f0, .ref c0, .ref e0])), (f0, .inr (2, [.ref o1, .ref f1, .ref f2, .ref f3, .ref f4, .int u_r_10.2.2.2.2.1, .int u_r_10.2.2.2.2.2.1, .int u_r_10.2.2.2.2.2.2])), (f1, .inl (cI, 1764, .inl u_r_10.1)), (f2, .inl (cJ, 1764, .inr (.inl u_r_10.2.1))), (f3, .inl (cI, 42, .inl u_r_10.2.2.1)), (f4, .inl (cI, 61, .inl u_r_10.2.2.2.1)), (o1, .inr (1, [.ref s1, .ref s2, .ref s3, .int (nI 7), .int (nI 2)])), (s1, .inl (cI, 100, .inl (bgS st))), (s2, .inl (cI, 244, .inl (ctSd sd))), (s3, .inl (cJ, 400, .inr (.inl (ctBe be))))] := hD
  refine lv_aload_n hx hb d_TB_counter_148 rfl (lv_at hl 0 rfl) ?_
  refine va_get (D := D) (ci := 0) (v := .ref o1) (C := R_TB) (T := T_TB) (N := 4) hx hb hw in_TB hown hE.1 hP 0 rfl rfl 0 (by decide) (hw _ kw_182) (fun _ h9 => h9) rfl d_TB_counter_149 ?_
  refine vp_callSi (va_Run.run (va_runV (As := []) (rest := []) ⟨hx, hb, hml, hown, hw⟩ (k_TS_types l D cI cJ o1 s1 s2 s3 (nI 7) (nI 2)) (cwV 0 hw (gV kw_344 kw_345 kw_346 kw_41 kw_347) rfl rfl rfl (by decide +kernel) ⟨Nat.le_of_ble_eq_true rfl, Nat.le_of_ble_eq_true rfl⟩) (pre_Vp (wc := [(o1, .inr (1, [.ref s1, .ref s2, .ref s3, .int (nI 7), .int (nI 2)]))]) (q0 := 0) hE hX hP hS [6] rfl rfl rfl) rfl rfl hl.1 rfl (lv_room (Nat.le_of_ble_eq_true rfl)) d_TB_counter_152 ⟨Nat.le_of_ble_eq_true rfl, Nat.le_of_ble_eq_true rfl⟩)) (fun r_11 hr_11 => ?_)
  obtain rfl : (nI 7) = r_11 := hr_11.symm
  have hP9 := hP.sub (ws' := [(x0, .inr (0, [.ref o1, .ref f0, .ref c0, .ref e0])), (f0, .inr (2, [.ref o1, .ref f1, .ref f2, .ref f3, .ref f4, .int u_r_10.2.2.2.2.1, .int u_r_10.2.2.2.2.2.1, .int u_r_10.2.2.2.2.2.2])), (f1, .inl (cI, 1764, .inl u_r_10.1)), (f2, .inl (cJ, 1764, .inr (.inl u_r_10.2.1))), (f3, .inl (cI, 42, .inl u_r_10.2.2.1)), (f4, .inl (cI, 61, .inl u_r_10.2.2.2.1)), (o1, .inr (1, [.ref s1, .ref s2, .ref s3, .int (nI 7), .int (nI 2)])), (s1, .inl (cI, 100, .inl (bgS st))), (s2, .inl (cI, 244, .inl (ctSd sd))), (s3, .inl (cJ, 400, .inr (.inl (ctBe be))))]) [0, 1, 2, 3, 4, 5, 6, 7, 8, 9] rfl
  have hD9 := hD.sub (ws' := [(x0, .inr (0, [.ref o1, .ref f0, .ref c0, .ref e0])), (f0, .inr (2, [.ref o1, .ref f1, .ref f2, .ref f3, .ref f4, .int u_r_10.2.2.2.2.1, .int u_r_10.2.2.2.2.2.1, .int u_r_10.2.2.2.2.2.2])), (f1, .inl (cI, 1764, .inl u_r_10.1)), (f2, .inl (cJ, 1764, .inr (.inl u_r_10.2.1))), (f3, .inl (cI, 42, .inl u_r_10.2.2.1)), (f4, .inl (cI, 61, .inl u_r_10.2.2.2.1)), (o1, .inr (1, [.ref s1, .ref s2, .ref s3, .int (nI 7), .int (nI 2)])), (s1, .inl (cI, 100, .inl (bgS st))), (s2, .inl (cI, 244, .inl (ctSd sd))), (s3, .inl (cJ, 400, .inr (.inl (ctBe be))))]) [0, 1, 2, 3, 4, 5, 6, 7, 8, 9] (by decide) rfl
  refine vx_ret ?_
  exact W.iret (v := (nI 7)) hx hb hr (fun t9 ht hW => ⟨⟨_, u_r_10, rfl, ⟨rfl, by rw [nn_nI (show a9 < 2 ^ 31 by omega), nn_nI (show b9 < 2 ^ 31 by omega), ← hz]; exact hr_10⟩, ⟨by rw [ht]; exact hP9, hD9⟩⟩, hS.F ht⟩) hS.2.2 d_TB_counter_155
set_option maxHeartbeats 4000000 in
set_option maxRecDepth 100000 in
theorem lp_k_TB_rule_111 {p : Program} {l : Launch} {e : Env} {s : State} {m : MethodId} {args : Array Value} {below : List Frame} {meth : Method} {c : Code} {D : va_G} {cI cJ : ClassId} {Q : State → Prop} {A : Nat → Prop} (x0 : Nat) (c0 : Nat) (e0 : Nat) (f0 : Nat) (f1 : Nat) (f2 : Nat) (f3 : Nat) (f4 : Nat) (o1 : Nat) (np : Int32) (ns : Int32) (aw : Int32) (s1 : Nat) (s2 : Nat) (s3 : Nat) (ty : Int32) (wa : Int32) (st : Nat → Int32) (sd : Nat → Int32) (be : Nat → Int64) (ce : Nat → Int32) (oq : Nat → Int64) (rp : Nat → Int32) (tl : Nat → Int32) (x : Int32) (y : Int32) (z : Int32) (w : Int32) (hce : okCe ce) (hsd : okSd sd) (a9 : Nat) (h1a : 1 ≤ a9) (h2a : a9 ≤ 30) (b9 : Nat) (hx : p.tables.exec = Jvm.exec) (hb : c.code = c_TB_rule) (hml : c.maxLocals = 7) (hown : s.vm.findClass R_TB = some m.cls) (hw : ∀ w ∈ gw, w.before args s = true) (hE : En D cI cJ s) (hX : Sx A s s.heap) (hA : ∀ q : Nat, s.heap.size ≤ q → A q)
    (kx0 : ∀ (z9 : FS), (z9 = rwL (ruSd sd y) (bgS st) (ruBe be y) (nI 2) (fun i => i + 1) w (ce, oq, rp, tl, np, ns, aw) a9) → (okCe z9.1) → ∀ (H : Heap) (locs : List Loc) (ls : Array Slot), va_P D vwCl [(x0, .inr (0, [.ref o1, .ref f0, .ref c0, .ref e0])), (f0, .inr (2, [.ref o1, .ref f1, .ref f2, .ref f3, .ref f4, .int z9.2.2.2.2.1, .int z9.2.2.2.2.2.1, .int z9.2.2.2.2.2.2])), (f1, .inl (cI, 1764, .inl z9.1)), (f2, .inl (cJ, 1764, .inr (.inl z9.2.1))), (f3, .inl (cI, 42, .inl z9.2.2.1)), (f4, .inl (cI, 61, .inl z9.2.2.2.1)), (o1, .inr (1, [.ref s1, .ref s2, .ref s3, .int (nI 7), .int (nI 2)])), (s1, .inl (cI, 100, .inl (bgS st))), (s2, .inl (cI, 244, .inl (ruSd sd y))), (s3, .inl (cJ, 400, .inr (.inl (ruBe be y))))] H → va_D A [(x0, .inr (0, [.ref o1, .ref f0, .ref c0, .ref e0])), (f0, .inr (2, [.ref o1, .ref f1, .ref f2, .ref f3, .ref f4, .int z9.2.2.2.2.1, .int z9.2.2.2.2.2.1, .int z9.2.2.2.2.2.2])), (f1, .inl (cI, 1764, .inl z9.1)), (f2, .inl (cJ, 1764, .inr (.inl z9.2.1))), (f3, .inl (cI, 42, .inl z9.2.2.1)), (f4, .inl (cI, 61, .inl z9.2.2.2.1)), (o1, .inr (1, [.ref s1, .ref s2, .ref s3, .int (nI 7), .int (nI 2)])), (s1, .inl (cI, 100, .inl (bgS st))), (s2, .inl (cI, 244, .inl (ruSd sd y))), (s3, .inl (cJ, 400, .inr (.inl (ruBe be y))))] → va_S A s.heap H locs → lv_has ls 7 [(0, .ref x0), (3, .int (nI b9))] → W p l e ({ frames := 7, cells := 5, slots := 30, locals := 127 } : Room) s m args below meth c H locs 5 30 Q (F0 m 150 ls [])) :
    ∀ (fu : Nat) (i : Nat) (z9 : FS), a9 - i < fu → (i ≤ a9) → (z9 = rwL (ruSd sd y) (bgS st) (ruBe be y) (nI 2) (fun i => i + 1) w (ce, oq, rp, tl, np, ns, aw) i) → (okCe z9.1) → ∀ (H : Heap) (locs : List Loc) (ls : Array Slot), va_P D vwCl [(x0, .inr (0, [.ref o1, .ref f0, .ref c0, .ref e0])), (f0, .inr (2, [.ref o1, .ref f1, .ref f2, .ref f3, .ref f4, .int z9.2.2.2.2.1, .int z9.2.2.2.2.2.1, .int z9.2.2.2.2.2.2])), (f1, .inl (cI, 1764, .inl z9.1)), (f2, .inl (cJ, 1764, .inr (.inl z9.2.1))), (f3, .inl (cI, 42, .inl z9.2.2.1)), (f4, .inl (cI, 61, .inl z9.2.2.2.1)), (o1, .inr (1, [.ref s1, .ref s2, .ref s3, .int (nI 7), .int (nI 2)])), (s1, .inl (cI, 100, .inl (bgS st))), (s2, .inl (cI, 244, .inl (ruSd sd y))), (s3, .inl (cJ, 400, .inr (.inl (ruBe be y))))] H → va_D A [(x0, .inr (0, [.ref o1, .ref f0, .ref c0, .ref e0])), (f0, .inr (2, [.ref o1, .ref f1, .ref f2, .ref f3, .ref f4, .int z9.2.2.2.2.1, .int z9.2.2.2.2.2.1, .int z9.2.2.2.2.2.2])), (f1, .inl (cI, 1764, .inl z9.1)), (f2, .inl (cJ, 1764, .inr (.inl z9.2.1))), (f3, .inl (cI, 42, .inl z9.2.2.1)), (f4, .inl (cI, 61, .inl z9.2.2.2.1)), (o1, .inr (1, [.ref s1, .ref s2, .ref s3, .int (nI 7), .int (nI 2)])), (s1, .inl (cI, 100, .inl (bgS st))), (s2, .inl (cI, 244, .inl (ruSd sd y))), (s3, .inl (cJ, 400, .inr (.inl (ruBe be y))))] → va_S A s.heap H locs → lv_has ls 7 [(0, .ref x0), (1, .int (nI a9)), (3, .int (nI b9)), (4, .int w), (5, .int (nI i))] → W p l e ({ frames := 7, cells := 5, slots := 30, locals := 127 } : Room) s m args below meth c H locs 5 30 Q (F0 m 111 ls []) := by
  intro fu
  induction fu with
  | zero =>
    intro i z9 h0
    exact absurd h0 (Nat.not_lt_zero _)
  | succ fu ih =>
    intro i z9 hmu hi hz hok H locs ls hP hD hS hl
    refine lv_iload hx hb d_TB_rule_111 (lv_at hl 4 rfl) ?_
    refine lv_iload_n hx hb d_TB_rule_113 rfl (lv_at hl 1 rfl) ?_
    refine jn_icmp_ge (tgt := 150) (a := i) (b := a9) hx hb d_TB_rule_114 (by decide) (by omega) (by omega) (fun c_114 => ?_) (fun c_114 => ?_)
    · skip
      exact kx0 z9 (by rw [hz, show i = a9 by omega]) hok _ _ _ (hP.sub [0, 1, 2, 3, 4, 5, 6, 7, 8, 9] rfl) (hD.sub [0, 1, 2, 3, 4, 5, 6, 7, 8, 9] (by decide) rfl) hS (lv_sub hl [0, 2] rfl)
    · skip
      refine lv_aload_n hx hb d_TB_rule_117 rfl (lv_at hl 0 rfl) ?_
      refine va_get (D := D) (ci := 0) (v := .ref f0) (C := R_TB) (T := T_TB) (N := 4) hx hb hw in_TB hown hE.1 hP 0 rfl rfl 1 (by decide) (hw _ kw_183) (fun _ h9 => h9) rfl d_TB_rule_118 ?_
      refine lv_iload hx hb d_TB_rule_121 (lv_at hl 4 rfl) ?_
      refine lv_iconst (v := nI 1) hx hb d_TB_rule_123 (by decide +kernel) ?_
      refine jn_iadd (a := i) (b := 1) hx hb d_TB_rule_124 ?_
      refine lv_iconst (v := nI 0) hx hb d_TB_rule_125 (by decide +kernel) ?_
      refine vp_callSi (va_Run.run (va_runS (As := [.int (nI (i + 1)), .int (nI 0)]) (rest := [.ref f0]) ⟨hx, hb, hml, hown, hw⟩ (k_TB_placeOf l D cI cJ (i + 1) 0) (va_cwS 2 hw (gS kw_418 kw_419 kw_40 kw_420) rfl rfl rfl (by decide +kernel) ⟨Nat.le_of_ble_eq_true rfl, Nat.le_of_ble_eq_true rfl⟩) (pre_Sp (wc := []) hE hX hP hS [] rfl) rfl rfl hl.1 rfl (lv_room (Nat.le_of_ble_eq_true rfl)) d_TB_rule_126 ⟨Nat.le_of_ble_eq_true rfl, Nat.le_of_ble_eq_true rfl⟩)) (fun r_1 hr_1 => ?_)
      obtain rfl : nI ((0 + 1) * 42 + (i + 1) + 1) = r_1 := hr_1.symm
      refine lv_iconst (v := nI 1) hx hb d_TB_rule_129 (by decide +kernel) ?_
      refine lv_iload hx hb d_TB_rule_130 (lv_at hl 3 rfl) ?_
      refine lv_iload hx hb d_TB_rule_132 (lv_at hl 4 rfl) ?_
      refine lv_ishr hx hb d_TB_rule_134 ?_
      refine lv_iconst (v := nI 1) hx hb d_TB_rule_135 (by decide +kernel) ?_
      refine lv_iand hx hb d_TB_rule_136 ?_
      refine W.eq (g2 := F0 m 137 ls [.int (nI (btN w i)), .int (nI 1), .int (nI ((0 + 1) * 42 + (i + 1) + 1)), .ref f0]) (by rw [bt_and]) ?_
      refine jn_iadd (a := 1) (b := (btN w i)) hx hb d_TB_rule_137 ?_
      refine vp_callSi (va_Run.run (va_runS (As := [.int (nI (1 + (btN w i)))]) (rest := [.int (nI ((0 + 1) * 42 + (i + 1) + 1)), .ref f0]) ⟨hx, hb, hml, hown, hw⟩ (k_TB_seedOf l D cI cJ (nI (1 + (btN w i)))) (va_cwS 1 hw (gS kw_430 kw_431 kw_40 kw_432) rfl rfl rfl (by decide +kernel) ⟨Nat.le_of_ble_eq_true rfl, Nat.le_of_ble_eq_true rfl⟩) (pre_Sp (wc := []) hE hX hP hS [] rfl) rfl rfl hl.1 rfl (lv_room (Nat.le_of_ble_eq_true rfl)) d_TB_rule_138 ⟨Nat.le_of_ble_eq_true rfl, Nat.le_of_ble_eq_true rfl⟩)) (fun r_2 hr_2 => ?_)
      obtain rfl : (nI (1 + (btN w i))) ||| nI 1024 = r_2 := hr_2.symm
      refine cl_v (wr := [(x0, .inr (0, [.ref o1, .ref f0, .ref c0, .ref e0]))]) (va_runV (As := [.int (nI ((0 + 1) * 42 + (i + 1) + 1)), .int ((nI (1 + (btN w i))) ||| nI 1024)]) (rest := []) ⟨hx, hb, hml, hown, hw⟩ (k_FD_put l D cI cJ f0 f1 f2 f3 f4 o1 z9.2.2.2.2.1 z9.2.2.2.2.2.1 z9.2.2.2.2.2.2 s1 s2 s3 (nI 7) (nI 2) (bgS st) (ruSd sd y) (ruBe be y) z9.1 z9.2.1 z9.2.2.1 ((0 + 1) * 42 + (i + 1) + 1) z9.2.2.2.1 ((nI (1 + (btN w i))) ||| nI 1024) _ (pl_in (show (fun i => i + 1) i < 40 from by (show i + 1 < 40); omega) (show 0 < 40 by decide)).1 (pl_in (show (fun i => i + 1) i < 40 from by (show i + 1 < 40); omega) (show 0 < 40 by decide)).2 hok (okSd_ru hsd y) (okSt_bgS st) (by have := btN_lt w i; rw [tyN_seed (by omega)]; omega)) (cwV 2 hw (gV kw_433 kw_434 kw_435 kw_42 kw_436) rfl rfl rfl (by decide +kernel) ⟨Nat.le_of_ble_eq_true rfl, Nat.le_of_ble_eq_true rfl⟩) (pre_Vw (wc := [(f0, .inr (2, [.ref o1, .ref f1, .ref f2, .ref f3, .ref f4, .int z9.2.2.2.2.1, .int z9.2.2.2.2.2.1, .int z9.2.2.2.2.2.2])), (f1, .inl (cI, 1764, .inl z9.1)), (f2, .inl (cJ, 1764, .inr (.inl z9.2.1))), (f3, .inl (cI, 42, .inl z9.2.2.1)), (f4, .inl (cI, 61, .inl z9.2.2.2.1)), (o1, .inr (1, [.ref s1, .ref s2, .ref s3, .int (nI 7), .int (nI 2)])), (s1, .inl (cI, 100, .inl (bgS st))), (s2, .inl (cI, 244, .inl (ruSd sd y))), (s3, .inl (cJ, 400, .inr (.inl (ruBe be y))))]) (q0 := 0) hE hX hA hP hD hS [1, 2, 3, 4, 5, 6, 7, 8, 9] (by decide) rfl rfl rfl rfl) rfl rfl hl.1 rfl (lv_room (Nat.le_of_ble_eq_true rfl)) d_TB_rule_141 ⟨Nat.le_of_ble_eq_true rfl, Nat.le_of_ble_eq_true rfl⟩) hP hD hS hA [1, 2, 3, 4, 5, 6, 7, 8, 9] [0] rfl rfl (by decide) (by decide) (fun u_r_3 H locs hr_3 hP hD hS => ?_)
      have hP : va_P D vwCl [(x0, .inr (0, [.ref o1, .ref f0, .ref c0, .ref e0])), (f0, .inr (2, [.ref o1, .ref f1, .ref f2, .ref f3, .ref f4, .int ((raL (upd z9.1 ((0 + 1) * 42 + (i + 1) + 1) ((nI (1 + (btN w i))) ||| nI 1024)) (ruSd sd y) (bgS st) (ruBe be y) (nI 2) ((0 + 1) * 42 + (i + 1) + 1) (z9.2.1, z9.2.2.1, z9.2.2.2.2.1) 5).2.2), .int (nsP z9.2.2.2.2.2.1 ((nI (1 + (btN w i))) ||| nI 1024)), .int z9.2.2.2.2.2.2])), (f1, .inl (cI, 1764, .inl (upd z9.1 ((0 + 1) * 42 + (i + 1) + 1) ((nI (1 + (btN w i))) ||| nI 1024)))), (f2, .inl (cJ, 1764, .inr (.inl ((raL (upd z9.1 ((0 + 1) * 42 + (i + 1) + 1) ((nI (1 + (btN w i))) ||| nI 1024)) (ruSd sd y) (bgS st) (ruBe be y) (nI 2) ((0 + 1) * 42 + (i + 1) + 1) (z9.2.1, z9.2.2.1, z9.2.2.2.2.1) 5).1)))), (f3, .inl (cI, 42, .inl ((raL (upd z9.1 ((0 + 1) * 42 + (i + 1) + 1) ((nI (1 + (btN w i))) ||| nI 1024)) (ruSd sd y) (bgS st) (ruBe be y) (nI 2) ((0 + 1) * 42 + (i + 1) + 1) (z9.2.1, z9.2.2.1, z9.2.2.2.2.1) 5).2.1))), (f4, .inl (cI, 61, .inl (tlP z9.2.2.2.1 ((nI (1 + (btN w i))) ||| nI 1024)))), (o1, .inr (1, [.ref s1, .ref s2, .ref s3, .int (nI 7), .int (nI 2)])), (s1, .inl (cI, 100, .inl (bgS st))), (s2, .inl (cI, 244, .inl (ruSd sd y))), (s3, .inl (cJ, 400, .inr (.inl (ruBe be y))))] H := hP
      have hD : va_D A [(x0, .inr (0, [.ref o1, .ref f0, .ref c0, .ref e0])), (f0, .inr (2, [.ref o1, .ref f1, .ref f2, .ref f3, .ref f4, .int ((raL (upd z9.1 ((0 + 1) * 42 + (i + 1) + 1) ((nI (1 + (btN w i))) ||| nI 1024)) (ruSd sd y) (bgS st) (ruBe be y) (nI 2) ((0 + 1) * 42 + (i + 1) + 1) (z9.2.1, z9.2.2.1, z9.2.2.2.2.1) 5).2.2), .int (nsP z9.2.2.2.2.2.1 ((nI (1 + (btN w i))) ||| nI 1024)), .int z9.2.2.2.2.2.2])), (f1, .inl (cI, 1764, .inl (upd z9.1 ((0 + 1) * 42 + (i + 1) + 1) ((nI (1 + (btN w i))) ||| nI 1024)))), (f2, .inl (cJ, 1764, .inr (.inl ((raL (upd z9.1 ((0 + 1) * 42 + (i + 1) + 1) ((nI (1 + (btN w i))) ||| nI 1024)) (ruSd sd y) (bgS st) (ruBe be y) (nI 2) ((0 + 1) * 42 + (i + 1) + 1) (z9.2.1, z9.2.2.1, z9.2.2.2.2.1) 5).1)))), (f3, .inl (cI, 42, .inl ((raL (upd z9.1 ((0 + 1) * 42 + (i + 1) + 1) ((nI (1 + (btN w i))) ||| nI 1024)) (ruSd sd y) (bgS st) (ruBe be y) (nI 2) ((0 + 1) * 42 + (i + 1) + 1) (z9.2.1, z9.2.2.1, z9.2.2.2.2.1) 5).2.1))), (f4, .inl (cI, 61, .inl (tlP z9.2.2.2.1 ((nI (1 + (btN w i))) ||| nI 1024)))), (o1, .inr (1, [.ref s1, .ref s2, .ref s3, .int (nI 7), .int (nI 2)])), (s1, .inl (cI, 100, .inl (bgS st))), (s2, .inl (cI, 244, .inl (ruSd sd y))), (s3, .inl (cJ, 400, .inr (.inl (ruBe be y))))] := hD
      refine lv_iinc (v := nI (i + 1)) (lv' := [(5, .int (nI (i + 1))), (0, .ref x0), (1, .int (nI a9)), (3, .int (nI b9)), (4, .int w)]) hx hb d_TB_rule_144 hl (k := 4) rfl (jn_inc i 1) (by decide) rfl (fun ls hl => ?_)
      refine lv_goto (tgt := 111) hx hb d_TB_rule_147 (by decide) ?_
      exact ih (i + 1) (fsPut (ruSd sd y) (bgS st) (ruBe be y) (nI 2) (plN ((fun i => i + 1) i) 0) (nI (1 + btN w i) ||| nI 1024) z9) (by omega) (by omega) (by rw [rwL, ← hz]) (okCe_upd hok (pl_in (show (fun i => i + 1) i < 40 from by (show i + 1 < 40); omega) (show 0 < 40 by decide)).1 (pl_in (show (fun i => i + 1) i < 40 from by (show i + 1 < 40); omega) (show 0 < 40 by decide)).2 (by have := btN_lt w i; rw [tyN_seed (by omega)]; omega)) _ _ _ (hP.sub [0, 1, 2, 3, 4, 5, 6, 7, 8, 9] rfl) (hD.sub [0, 1, 2, 3, 4, 5, 6, 7, 8, 9] (by decide) rfl) hS (lv_sub hl [1, 2, 3, 4, 0] rfl)
set_option maxHeartbeats 4000000 in
set_option maxRecDepth 100000 in
/-- rule -/
theorem k_TB_rule (l : Launch) (hfl : l.stackTraces = false) (D : va_G) (cI cJ : ClassId) (x0 : Nat) (c0 : Nat) (e0 : Nat) (f0 : Nat) (f1 : Nat) (f2 : Nat) (f3 : Nat) (f4 : Nat) (o1 : Nat) (np : Int32) (ns : Int32) (aw : Int32) (s1 : Nat) (s2 : Nat) (s3 : Nat) (ty : Int32) (wa : Int32) (st : Nat → Int32) (sd : Nat → Int32) (be : Nat → Int64) (ce : Nat → Int32) (oq : Nat → Int64) (rp : Nat → Int32) (tl : Nat → Int32) (x : Int32) (y : Int32) (z : Int32) (w : Int32) (sz : Nat) (hce : okCe ce) (hsd : okSd sd) : vx_Met l y_TB_rule ws_TB_rule ({ frames := 7, cells := 5, slots := 30, locals := 127 } : Room) (va_Pc [.ref x0, .int x, .int y, .int z, .int w] (Pw D cI cJ [(x0, .inr (0, [.ref o1, .ref f0, .ref c0, .ref e0])), (f0, .inr (2, [.ref o1, .ref f1, .ref f2, .ref f3, .ref f4, .int np, .int ns, .int aw])), (f1, .inl (cI, 1764, .inl ce)), (f2, .inl (cJ, 1764, .inr (.inl oq))), (f3, .inl (cI, 42, .inl rp)), (f4, .inl (cI, 61, .inl tl)), (o1, .inr (1, [.ref s1, .ref s2, .ref s3, .int ty, .int wa])), (s1, .inl (cI, 100, .inl st)), (s2, .inl (cI, 244, .inl sd)), (s3, .inl (cJ, 400, .inr (.inl be)))] sz)) (va_Qi (fun (r : Int32) (u9 : FS) => r = nI 7 ∧ u9 = pcL (ruSd sd y) (bgS st) (ruBe be y) (nI 2) (0) (rwL (ruSd sd y) (bgS st) (ruBe be y) (nI 2) (fun i => i + 1) w (ce, oq, rp, tl, np, ns, aw) (nn x)) (nn z - 1)) (fun u9 t9 => Bw D (va_A [(x0, .inr (0, [.ref o1, .ref f0, .ref c0, .ref e0])), (f0, .inr (2, [.ref o1, .ref f1, .ref f2, .ref f3, .ref f4, .int np, .int ns, .int aw])), (f1, .inl (cI, 1764, .inl ce)), (f2, .inl (cJ, 1764, .inr (.inl oq))), (f3, .inl (cI, 42, .inl rp)), (f4, .inl (cI, 61, .inl tl)), (o1, .inr (1, [.ref s1, .ref s2, .ref s3, .int ty, .int wa])), (s1, .inl (cI, 100, .inl st)), (s2, .inl (cI, 244, .inl sd)), (s3, .inl (cJ, 400, .inr (.inl be)))] sz) [(x0, .inr (0, [.ref o1, .ref f0, .ref c0, .ref e0])), (f0, .inr (2, [.ref o1, .ref f1, .ref f2, .ref f3, .ref f4, .int u9.2.2.2.2.1, .int u9.2.2.2.2.2.1, .int u9.2.2.2.2.2.2])), (f1, .inl (cI, 1764, .inl u9.1)), (f2, .inl (cJ, 1764, .inr (.inl u9.2.1))), (f3, .inl (cI, 42, .inl u9.2.2.1)), (f4, .inl (cI, 61, .inl u9.2.2.2.1)), (o1, .inr (1, [.ref s1, .ref s2, .ref s3, .int (nI 7), .int (nI 2)])), (s1, .inl (cI, 100, .inl (bgS st))), (s2, .inl (cI, 244, .inl (ruSd sd y))), (s3, .inl (cJ, 400, .inr (.inl (ruBe be y))))] t9) (va_A [(x0, .inr (0, [.ref o1, .ref f0, .ref c0, .ref e0])), (f0, .inr (2, [.ref o1, .ref f1, .ref f2, .ref f3, .ref f4, .int np, .int ns, .int aw])), (f1, .inl (cI, 1764, .inl ce)), (f2, .inl (cJ, 1764, .inr (.inl oq))), (f3, .inl (cI, 42, .inl rp)), (f4, .inl (cI, 61, .inl tl)), (o1, .inr (1, [.ref s1, .ref s2, .ref s3, .int ty, .int wa])), (s1, .inl (cI, 100, .inl st)), (s2, .inl (cI, 244, .inl sd)), (s3, .inl (cJ, 400, .inr (.inl be)))] sz)) (nd_X (fun E => (E = "java/lang/IllegalStateException" ∧ ¬ tl 0 ≤ 0) ∨ (E = "java/lang/IllegalArgumentException" ∧ tl 0 ≤ 0 ∧ ((x < nI 1 ∨ ¬ x ≤ nI 30) ∨ (y < nI 0 ∨ ¬ y ≤ nI 15) ∨ (z < nI 1 ∨ ¬ z ≤ nI 40) ∨ (w < nI 0 ∨ ¬ w ≤ (nI 1 <<< (x &&& 31)) - nI 1))))) 5 30 (va_A [(x0, .inr (0, [.ref o1, .ref f0, .ref c0, .ref e0])), (f0, .inr (2, [.ref o1, .ref f1, .ref f2, .ref f3, .ref f4, .int np, .int ns, .int aw])), (f1, .inl (cI, 1764, .inl ce)), (f2, .inl (cJ, 1764, .inr (.inl oq))), (f3, .inl (cI, 42, .inl rp)), (f4, .inl (cI, 61, .inl tl)), (o1, .inr (1, [.ref s1, .ref s2, .ref s3, .int ty, .int wa])), (s1, .inl (cI, 100, .inl st)), (s2, .inl (cI, 244, .inl sd)), (s3, .inl (cJ, 400, .inr (.inl be)))] sz) := by
  refine vx_ofW (cc := c_TB_rule) (maxL := 7) (ret := (some .int)) (by decide) rfl ?_
  intro p e s m args below meth c s₁ B hml hno hv
  obtain ⟨rfl, hsz, hE, hP, hD0, hX⟩ := hv
  have hx := B.exec
  have hb := B.bytes
  have hr := B.returns
  have hw : ∀ w ∈ gw, w.before _ s = true := fun w h => atoms_spec (ws := ws_TB_rule) B.pre w (List.mem_cons_of_mem _ h)
  have hown : s.vm.findClass R_TB = some m.cls := findClass_of_methodNamed B.named
  have hlocks := B.notSynchronized
  subst hsz
  have hD := hD0.self (sz := s.heap.size)
  generalize hAe : va_A [(x0, .inr (0, [.ref o1, .ref f0, .ref c0, .ref e0])), (f0, .inr (2, [.ref o1, .ref f1, .ref f2, .ref f3, .ref f4, .int np, .int ns, .int aw])), (f1, .inl (cI, 1764, .inl ce)), (f2, .inl (cJ, 1764, .inr (.inl oq))), (f3, .inl (cI, 42, .inl rp)), (f4, .inl (cI, 61, .inl tl)), (o1, .inr (1, [.ref s1, .ref s2, .ref s3, .int ty, .int wa])), (s1, .inl (cI, 100, .inl st)), (s2, .inl (cI, 244, .inl sd)), (s3, .inl (cJ, 400, .inr (.inl be)))] s.heap.size = A at hD hX ⊢
  have hA : ∀ q : Nat, s.heap.size ≤ q → A q := fun q h => by rw [← hAe]; exact Or.inr h
  have hS : va_S A s.heap s.heap [] := va_S.rf
  have hP : va_P D vwCl [(x0, .inr (0, [.ref o1, .ref f0, .ref c0, .ref e0])), (f0, .inr (2, [.ref o1, .ref f1, .ref f2, .ref f3, .ref f4, .int np, .int ns, .int aw])), (f1, .inl (cI, 1764, .inl ce)), (f2, .inl (cJ, 1764, .inr (.inl oq))), (f3, .inl (cI, 42, .inl rp)), (f4, .inl (cI, 61, .inl tl)), (o1, .inr (1, [.ref s1, .ref s2, .ref s3, .int ty, .int wa])), (s1, .inl (cI, 100, .inl st)), (s2, .inl (cI, 244, .inl sd)), (s3, .inl (cJ, 400, .inr (.inl be)))] s.heap := hP
  have hl := lv_entry ([.ref x0, .int x, .int y, .int z, .int w]) (n := 7) (Nat.le_of_ble_eq_true rfl)
  rw [lg_entry_eq]
  generalize (lg_sl ([.ref x0, .int x, .int y, .int z, .int w]) ++ List.replicate (7 - (lg_sl ([.ref x0, .int x, .int y, .int z, .int w])).length) Slot.unset).toArray = ls at hl ⊢
  have hl : lv_has ls 7 [(0, .ref x0), (1, .int x), (2, .int y), (3, .int z), (4, .int w)] := hl
  refine lv_aload_n hx hb d_TB_rule_0 rfl (lv_at hl 0 rfl) ?_
  refine nd_call (vx_runV (As := []) (rest := []) ⟨hx, hb, hml, hown, hw⟩ (k_TB_needEmptyField l hfl D cI cJ x0 c0 e0 f0 f1 f2 f3 f4 o1 np ns aw tl) (cwV 0 hw (gV kw_240 kw_242 kw_0 kw_40 kw_243) rfl rfl rfl (by decide +kernel) ⟨Nat.le_of_ble_eq_true rfl, Nat.le_of_ble_eq_true rfl⟩) (pre_Vp (wc := [(x0, .inr (0, [.ref o1, .ref f0, .ref c0, .ref e0])), (f0, .inr (2, [.ref o1, .ref f1, .ref f2, .ref f3, .ref f4, .int np, .int ns, .int aw])), (f4, .inl (cI, 61, .inl tl))]) (q0 := 0) hE hX hP hS [0, 1, 5] rfl rfl rfl) rfl rfl hl.1 rfl (lv_room (Nat.le_of_ble_eq_true rfl)) d_TB_rule_1 ⟨Nat.le_of_ble_eq_true rfl, Nat.le_of_ble_eq_true rfl⟩) (fun E ce q9 H1 hex hc1 hc2 hc3 hc5 hc6 => ?_) (fun h_1 => ?_)
  · skip
    exact vx_out (fun x hx => (hno x hx).elim) hlocks hc1 hc2 hc3 (fun t9 ht hal => ⟨Or.inl hex, by rw [ht]; exact hc5, fun q hq => by rw [ht]; exact hc6 q hq⟩) (fun q h => by cases h) (Nat.le_of_ble_eq_true rfl) (Nat.le_of_ble_eq_true rfl)
  refine lv_iload_n hx hb d_TB_rule_4 rfl (lv_at hl 1 rfl) ?_
  refine lv_iconst (v := nI 1) hx hb d_TB_rule_5 (by decide +kernel) ?_
  refine lv_bipush (v := nI 30) hx hb d_TB_rule_6 (by decide +kernel) ?_
  refine nd_call (vx_runS (As := [.int x, .int (nI 1), .int (nI 30)]) (rest := []) ⟨hx, hb, hml, hown, hw⟩ (k_TB_needWithin l hfl D cI cJ x (nI 1) (nI 30)) (va_cwS 3 hw (gS kw_313 kw_314 kw_40 kw_315) rfl rfl rfl (by decide +kernel) ⟨Nat.le_of_ble_eq_true rfl, Nat.le_of_ble_eq_true rfl⟩) (pre_Sp (wc := []) hE hX hP hS [] rfl) rfl rfl hl.1 rfl (lv_room (Nat.le_of_ble_eq_true rfl)) d_TB_rule_8 ⟨Nat.le_of_ble_eq_true rfl, Nat.le_of_ble_eq_true rfl⟩) (fun E ce q9 H1 hex hc1 hc2 hc3 hc5 hc6 => ?_) (fun h_8 => ?_)
  · skip
    exact vx_out (fun x hx => (hno x hx).elim) hlocks hc1 hc2 hc3 (fun t9 ht hal => ⟨(Or.inr ⟨hex.1, h_1, Or.inl hex.2⟩), by rw [ht]; exact hc5, fun q hq => by rw [ht]; exact hc6 q hq⟩) (fun q h => by cases h) (Nat.le_of_ble_eq_true rfl) (Nat.le_of_ble_eq_true rfl)
  refine lv_iload_n hx hb d_TB_rule_11 rfl (lv_at hl 2 rfl) ?_
  refine lv_iconst (v := nI 0) hx hb d_TB_rule_12 (by decide +kernel) ?_
  refine lv_bipush (v := nI 15) hx hb d_TB_rule_13 (by decide +kernel) ?_
  refine nd_call (vx_runS (As := [.int y, .int (nI 0), .int (nI 15)]) (rest := []) ⟨hx, hb, hml, hown, hw⟩ (k_TB_needWithin l hfl D cI cJ y (nI 0) (nI 15)) (va_cwS 3 hw (gS kw_313 kw_314 kw_40 kw_315) rfl rfl rfl (by decide +kernel) ⟨Nat.le_of_ble_eq_true rfl, Nat.le_of_ble_eq_true rfl⟩) (pre_Sp (wc := []) hE hX hP hS [] rfl) rfl rfl hl.1 rfl (lv_room (Nat.le_of_ble_eq_true rfl)) d_TB_rule_15 ⟨Nat.le_of_ble_eq_true rfl, Nat.le_of_ble_eq_true rfl⟩) (fun E ce q9 H1 hex hc1 hc2 hc3 hc5 hc6 => ?_) (fun h_15 => ?_)
  · skip
    exact vx_out (fun x hx => (hno x hx).elim) hlocks hc1 hc2 hc3 (fun t9 ht hal => ⟨(Or.inr ⟨hex.1, h_1, Or.inr (Or.inl hex.2)⟩), by rw [ht]; exact hc5, fun q hq => by rw [ht]; exact hc6 q hq⟩) (fun q h => by cases h) (Nat.le_of_ble_eq_true rfl) (Nat.le_of_ble_eq_true rfl)
  refine lv_iload_n hx hb d_TB_rule_18 rfl (lv_at hl 3 rfl) ?_
  refine lv_iconst (v := nI 1) hx hb d_TB_rule_19 (by decide +kernel) ?_
  refine lv_bipush (v := nI 40) hx hb d_TB_rule_20 (by decide +kernel) ?_
  refine nd_call (vx_runS (As := [.int z, .int (nI 1), .int (nI 40)]) (rest := []) ⟨hx, hb, hml, hown, hw⟩ (k_TB_needWithin l hfl D cI cJ z (nI 1) (nI 40)) (va_cwS 3 hw (gS kw_313 kw_314 kw_40 kw_315) rfl rfl rfl (by decide +kernel) ⟨Nat.le_of_ble_eq_true rfl, Nat.le_of_ble_eq_true rfl⟩) (pre_Sp (wc := []) hE hX hP hS [] rfl) rfl rfl hl.1 rfl (lv_room (Nat.le_of_ble_eq_true rfl)) d_TB_rule_22 ⟨Nat.le_of_ble_eq_true rfl, Nat.le_of_ble_eq_true rfl⟩) (fun E ce q9 H1 hex hc1 hc2 hc3 hc5 hc6 => ?_) (fun h_22 => ?_)
  · skip
    exact vx_out (fun x hx => (hno x hx).elim) hlocks hc1 hc2 hc3 (fun t9 ht hal => ⟨(Or.inr ⟨hex.1, h_1, Or.inr (Or.inr (Or.inl hex.2))⟩), by rw [ht]; exact hc5, fun q hq => by rw [ht]; exact hc6 q hq⟩) (fun q h => by cases h) (Nat.le_of_ble_eq_true rfl) (Nat.le_of_ble_eq_true rfl)
  refine lv_iload hx hb d_TB_rule_25 (lv_at hl 4 rfl) ?_
  refine lv_iconst (v := nI 0) hx hb d_TB_rule_27 (by decide +kernel) ?_
  refine lv_iconst (v := nI 1) hx hb d_TB_rule_28 (by decide +kernel) ?_
  refine lv_iload_n hx hb d_TB_rule_29 rfl (lv_at hl 1 rfl) ?_
  refine lv_ishl hx hb d_TB_rule_30 ?_
  refine lv_iconst (v := nI 1) hx hb d_TB_rule_31 (by decide +kernel) ?_
  refine lv_isub hx hb d_TB_rule_32 ?_
  refine nd_call (vx_runS (As := [.int w, .int (nI 0), .int (((nI 1) <<< (x &&& 31)) - (nI 1))]) (rest := []) ⟨hx, hb, hml, hown, hw⟩ (k_TB_needWithin l hfl D cI cJ w (nI 0) (((nI 1) <<< (x &&& 31)) - (nI 1))) (va_cwS 3 hw (gS kw_313 kw_314 kw_40 kw_315) rfl rfl rfl (by decide +kernel) ⟨Nat.le_of_ble_eq_true rfl, Nat.le_of_ble_eq_true rfl⟩) (pre_Sp (wc := []) hE hX hP hS [] rfl) rfl rfl hl.1 rfl (lv_room (Nat.le_of_ble_eq_true rfl)) d_TB_rule_33 ⟨Nat.le_of_ble_eq_true rfl, Nat.le_of_ble_eq_true rfl⟩) (fun E ce q9 H1 hex hc1 hc2 hc3 hc5 hc6 => ?_) (fun h_33 => ?_)
  · skip
    exact vx_out (fun x hx => (hno x hx).elim) hlocks hc1 hc2 hc3 (fun t9 ht hal => ⟨(Or.inr ⟨hex.1, h_1, Or.inr (Or.inr (Or.inr hex.2))⟩), by rw [ht]; exact hc5, fun q hq => by rw [ht]; exact hc6 q hq⟩) (fun q h => by cases h) (Nat.le_of_ble_eq_true rfl) (Nat.le_of_ble_eq_true rfl)
  obtain ⟨a9, hk1, hk2, rfl⟩ := within_nat h_8.1 h_8.2 (by decide) (by decide)
  obtain ⟨b9, hj1, hj2, rfl⟩ := within_nat h_22.1 h_22.2 (by decide) (by decide)
  refine lv_aload_n hx hb d_TB_rule_36 rfl (lv_at hl 0 rfl) ?_
  refine va_get (D := D) (ci := 0) (v := .ref o1) (C := R_TB) (T := T_TB) (N := 4) hx hb hw in_TB hown hE.1 hP 0 rfl rfl 0 (by decide) (hw _ kw_182) (fun _ h9 => h9) rfl d_TB_rule_37 ?_
  refine lv_iconst (v := nI 3) hx hb d_TB_rule_40 (by decide +kernel) ?_
  refine lv_iconst (v := nI 0) hx hb d_TB_rule_41 (by decide +kernel) ?_
  refine cl_v (wr := [(x0, .inr (0, [.ref o1, .ref f0, .ref c0, .ref e0])), (f0, .inr (2, [.ref o1, .ref f1, .ref f2, .ref f3, .ref f4, .int np, .int ns, .int aw])), (f1, .inl (cI, 1764, .inl ce)), (f2, .inl (cJ, 1764, .inr (.inl oq))), (f3, .inl (cI, 42, .inl rp)), (f4, .inl (cI, 61, .inl tl))]) (va_runV (As := [.int (nI 3), .int (nI 0)]) (rest := []) ⟨hx, hb, hml, hown, hw⟩ (k_TS_beginRows l D cI cJ o1 s1 s2 s3 ty wa st sd be 3 0 _ (by omega) (by omega)) (cwV 2 hw (gV kw_738 kw_739 kw_740 kw_41 kw_741) rfl rfl rfl (by decide +kernel) ⟨Nat.le_of_ble_eq_true rfl, Nat.le_of_ble_eq_true rfl⟩) (pre_Vw (wc := [(o1, .inr (1, [.ref s1, .ref s2, .ref s3, .int ty, .int wa])), (s1, .inl (cI, 100, .inl st)), (s2, .inl (cI, 244, .inl sd)), (s3, .inl (cJ, 400, .inr (.inl be)))]) (q0 := 0) hE hX hA hP hD hS [6, 7, 8, 9] (by decide) rfl rfl rfl rfl) rfl rfl hl.1 rfl (lv_room (Nat.le_of_ble_eq_true rfl)) d_TB_rule_42 ⟨Nat.le_of_ble_eq_true rfl, Nat.le_of_ble_eq_true rfl⟩) hP hD hS hA [6, 7, 8, 9] [0, 1, 2, 3, 4, 5] rfl rfl (by decide) (by decide) (fun u_r_6 H locs hr_6 hP hD hS => ?_)
  have hP : va_P D vwCl [(x0, .inr (0, [.ref o1, .ref f0, .ref c0, .ref e0])), (f0, .inr (2, [.ref o1, .ref f1, .ref f2, .ref f3, .ref f4, .int np, .int ns, .int aw])), (f1, .inl (cI, 1764, .inl ce)), (f2, .inl (cJ, 1764, .inr (.inl oq))), (f3, .inl (cI, 42, .inl rp)), (f4, .inl (cI, 61, .inl tl)), (o1, .inr (1, [.ref s1, .ref s2, .ref s3, .int (nI 3), .int (nI 2)])), (s1, .inl (cI, 100, .inl (rsF (flI st (nI 0) 100) 5))), (s2, .inl (cI, 244, .inl (adS (adS (adS sd 1 1 0 0 0) 2 2 0 0 0) 3 0 3 0 0))), (s3, .inl (cJ, 400, .inr (.inl (adB (adB (adB (flJ be 0 400) 1 1 0 0 0) 2 2 0 0 0) 3 0 3 0 0))))] H := hP
  have hD : va_D A [(x0, .inr (0, [.ref o1, .ref f0, .ref c0, .ref e0])), (f0, .inr (2, [.ref o1, .ref f1, .ref f2, .ref f3, .ref f4, .int np, .int ns, .int aw])), (f1, .inl (cI, 1764, .inl ce)), (f2, .inl (cJ, 1764, .inr (.inl oq))), (f3, .inl (cI, 42, .inl rp)), (f4, .inl (cI, 61, .inl tl)), (o1, .inr (1, [.ref s1, .ref s2, .ref s3, .int (nI 3), .int (nI 2)])), (s1, .inl (cI, 100, .inl (rsF (flI st (nI 0) 100) 5))), (s2, .inl (cI, 244, .inl (adS (adS (adS sd 1 1 0 0 0) 2 2 0 0 0) 3 0 3 0 0))), (s3, .inl (cJ, 400, .inr (.inl (adB (adB (adB (flJ be 0 400) 1 1 0 0 0) 2 2 0 0 0) 3 0 3 0 0))))] := hD
  refine lv_iconst (v := nI 0) hx hb d_TB_rule_45 (by decide +kernel) ?_
  refine lv_istore (lv' := [(5, .int (nI 0)), (0, .ref x0), (1, .int (nI a9)), (2, .int y), (3, .int (nI b9)), (4, .int w)]) hx hb d_TB_rule_46 hl (by decide) rfl (fun ls hl => ?_)
  refine lv_iload hx hb d_TB_rule_48 (lv_at hl 0 rfl) ?_
  refine lv_iconst (v := nI 1) hx hb d_TB_rule_50 (by decide +kernel) ?_
  refine jn_icmp_gt (tgt := 108) (a := 0) (b := 1) hx hb d_TB_rule_51 (by decide) (by decide) (by decide) (fun c9 => absurd c9 (by decide)) (fun _ => ?_)
  refine lv_iconst (v := nI 0) hx hb d_TB_rule_54 (by decide +kernel) ?_
  refine lv_istore (lv' := [(6, .int (nI 0)), (5, .int (nI 0)), (0, .ref x0), (1, .int (nI a9)), (2, .int y), (3, .int (nI b9)), (4, .int w)]) hx hb d_TB_rule_55 hl (by decide) rfl (fun ls hl => ?_)
  refine lv_iload hx hb d_TB_rule_57 (lv_at hl 0 rfl) ?_
  refine lv_iconst (v := nI 1) hx hb d_TB_rule_59 (by decide +kernel) ?_
  refine jn_icmp_gt (tgt := 102) (a := 0) (b := 1) hx hb d_TB_rule_60 (by decide) (by decide) (by decide) (fun c9 => absurd c9 (by decide)) (fun _ => ?_)
  refine lv_aload_n hx hb d_TB_rule_63 rfl (lv_at hl 2 rfl) ?_
  refine va_get (D := D) (ci := 0) (v := .ref o1) (C := R_TB) (T := T_TB) (N := 4) hx hb hw in_TB hown hE.1 hP 0 rfl rfl 0 (by decide) (hw _ kw_182) (fun _ h9 => h9) rfl d_TB_rule_64 ?_
  refine lv_iconst (v := nI 1) hx hb d_TB_rule_67 (by decide +kernel) ?_
  refine lv_iload_n hx hb d_TB_rule_68 rfl (lv_at hl 4 rfl) ?_
  refine lv_iconst (v := nI 2) hx hb d_TB_rule_69 (by decide +kernel) ?_
  refine lv_iload hx hb d_TB_rule_70 (lv_at hl 1 rfl) ?_
  refine jn_imul (a := 2) (b := 0) hx hb d_TB_rule_72 ?_
  refine W.eq (g2 := F0 m 73 ls (.int (nI 0) :: [.int y, .int (nI 1), .ref o1])) (by rfl) ?_
  refine lv_iload hx hb d_TB_rule_73 (lv_at hl 0 rfl) ?_
  refine jn_iadd (a := 0) (b := 0) hx hb d_TB_rule_75 ?_
  refine W.eq (g2 := F0 m 76 ls (.int (nI 0) :: [.int y, .int (nI 1), .ref o1])) (by rfl) ?_
  refine lv_ishr hx hb d_TB_rule_76 ?_
  refine lv_iconst (v := nI 1) hx hb d_TB_rule_77 (by decide +kernel) ?_
  refine lv_iand hx hb d_TB_rule_78 ?_
  refine W.eq (g2 := F0 m 79 ls [.int (nI (btN y 0)), .int (nI 1), .ref o1]) (by rw [bt_and]) ?_
  refine jn_iadd (a := 1) (b := (btN y 0)) hx hb d_TB_rule_79 ?_
  refine lv_iconst (v := nI 3) hx hb d_TB_rule_80 (by decide +kernel) ?_
  refine lv_iload hx hb d_TB_rule_81 (lv_at hl 0 rfl) ?_
  refine jn_iadd (a := 3) (b := 0) hx hb d_TB_rule_83 ?_
  refine W.eq (g2 := F0 m 84 ls (.int (nI 3) :: [.int (nI (1 + (btN y 0))), .ref o1])) (by rfl) ?_
  refine lv_iconst (v := nI 1) hx hb d_TB_rule_84 (by decide +kernel) ?_
  refine lv_iload hx hb d_TB_rule_85 (lv_at hl 0 rfl) ?_
  refine jn_iadd (a := 1) (b := 0) hx hb d_TB_rule_87 ?_
  refine W.eq (g2 := F0 m 88 ls (.int (nI 1) :: [.int (nI 3), .int (nI (1 + (btN y 0))), .ref o1])) (by rfl) ?_
  refine lv_iconst (v := nI 3) hx hb d_TB_rule_88 (by decide +kernel) ?_
  refine lv_iload hx hb d_TB_rule_89 (lv_at hl 1 rfl) ?_
  refine jn_iadd (a := 3) (b := 0) hx hb d_TB_rule_91 ?_
  refine W.eq (g2 := F0 m 92 ls (.int (nI 3) :: [.int (nI 1), .int (nI 3), .int (nI (1 + (btN y 0))), .ref o1])) (by rfl) ?_
  refine cl_i (wr := [(x0, .inr (0, [.ref o1, .ref f0, .ref c0, .ref e0])), (f0, .inr (2, [.ref o1, .ref f1, .ref f2, .ref f3, .ref f4, .int np, .int ns, .int aw])), (f1, .inl (cI, 1764, .inl ce)), (f2, .inl (cJ, 1764, .inr (.inl oq))), (f3, .inl (cI, 42, .inl rp)), (f4, .inl (cI, 61, .inl tl)), (s1, .inl (cI, 100, .inl (rsF (flI st (nI 0) 100) 5)))]) (va_runV (As := [.int (nI (1 + (btN y 0))), .int (nI 3), .int (nI 1), .int (nI 3)]) (rest := []) ⟨hx, hb, hml, hown, hw⟩ (k_TS_addType l D cI cJ o1 s1 s2 s3 (nI 2) 3 (adS (adS (adS sd 1 1 0 0 0) 2 2 0 0 0) 3 0 3 0 0) (adB (adB (adB (flJ be 0 400) 1 1 0 0 0) 2 2 0 0 0) 3 0 3 0 0) (1 + (btN y 0)) 3 1 3 _ (by omega) (by have := btN_lt y 0; omega) (by omega) (by omega) (by omega)) (cwV 4 hw (gV kw_364 kw_365 kw_366 kw_41 kw_367) rfl rfl rfl (by decide +kernel) ⟨Nat.le_of_ble_eq_true rfl, Nat.le_of_ble_eq_true rfl⟩) (pre_Vw (wc := [(o1, .inr (1, [.ref s1, .ref s2, .ref s3, .int (nI 3), .int (nI 2)])), (s2, .inl (cI, 244, .inl (adS (adS (adS sd 1 1 0 0 0) 2 2 0 0 0) 3 0 3 0 0))), (s3, .inl (cJ, 400, .inr (.inl (adB (adB (adB (flJ be 0 400) 1 1 0 0 0) 2 2 0 0 0) 3 0 3 0 0))))]) (q0 := 0) hE hX hA hP hD hS [6, 8, 9] (by decide) rfl rfl rfl rfl) rfl rfl hl.1 rfl (lv_room (Nat.le_of_ble_eq_true rfl)) d_TB_rule_92 ⟨Nat.le_of_ble_eq_true rfl, Nat.le_of_ble_eq_true rfl⟩) hP hD hS hA [6, 8, 9] [0, 1, 2, 3, 4, 5, 7] rfl rfl (by decide) (by decide) (fun r_7 u_r_7 H locs hr_7 hP hD hS => ?_)
  obtain rfl : nI (3 + 1) = r_7 := hr_7.symm
  have hP : va_P D vwCl [(x0, .inr (0, [.ref o1, .ref f0, .ref c0, .ref e0])), (f0, .inr (2, [.ref o1, .ref f1, .ref f2, .ref f3, .ref f4, .int np, .int ns, .int aw])), (f1, .inl (cI, 1764, .inl ce)), (f2, .inl (cJ, 1764, .inr (.inl oq))), (f3, .inl (cI, 42, .inl rp)), (f4, .inl (cI, 61, .inl tl)), (s1, .inl (cI, 100, .inl (rsF (flI st (nI 0) 100) 5))), (o1, .inr (1, [.ref s1, .ref s2, .ref s3, .int (nI (3 + 1)), .int (nI 2)])), (s2, .inl (cI, 244, .inl (adS (adS (adS (adS sd 1 1 0 0 0) 2 2 0 0 0) 3 0 3 0 0) (3 + 1) (1 + (btN y 0)) 3 1 3))), (s3, .inl (cJ, 400, .inr (.inl (adB (adB (adB (adB (flJ be 0 400) 1 1 0 0 0) 2 2 0 0 0) 3 0 3 0 0) (3 + 1) (1 + (btN y 0)) 3 1 3))))] H := hP
  have hD : va_D A [(x0, .inr (0, [.ref o1, .ref f0, .ref c0, .ref e0])), (f0, .inr (2, [.ref o1, .ref f1, .ref f2, .ref f3, .ref f4, .int np, .int ns, .int aw])), (f1, .inl (cI, 1764, .inl ce)), (f2, .inl (cJ, 1764, .inr (.inl oq))), (f3, .inl (cI, 42, .inl rp)), (f4, .inl (cI, 61, .inl tl)), (s1, .inl (cI, 100, .inl (rsF (flI st (nI 0) 100) 5))), (o1, .inr (1, [.ref s1, .ref s2, .ref s3, .int (nI (3 + 1)), .int (nI 2)])), (s2, .inl (cI, 244, .inl (adS (adS (adS (adS sd 1 1 0 0 0) 2 2 0 0 0) 3 0 3 0 0) (3 + 1) (1 + (btN y 0)) 3 1 3))), (s3, .inl (cJ, 400, .inr (.inl (adB (adB (adB (adB (flJ be 0 400) 1 1 0 0 0) 2 2 0 0 0) 3 0 3 0 0) (3 + 1) (1 + (btN y 0)) 3 1 3))))] := hD
  refine lv_pop hx hb d_TB_rule_95 rfl ?_
  refine lv_iinc (v := nI 1) (lv' := [(6, .int (nI 1)), (5, .int (nI 0)), (0, .ref x0), (1, .int (nI a9)), (2, .int y), (3, .int (nI b9)), (4, .int w)]) hx hb d_TB_rule_96 hl (k := 0) rfl (by decide +kernel) (by decide) rfl (fun ls hl => ?_)
  refine lv_goto (tgt := 57) hx hb d_TB_rule_99 (by decide) ?_
  refine lv_iload hx hb d_TB_rule_57 (lv_at hl 0 rfl) ?_
  refine lv_iconst (v := nI 1) hx hb d_TB_rule_59 (by decide +kernel) ?_
  refine jn_icmp_gt (tgt := 102) (a := 1) (b := 1) hx hb d_TB_rule_60 (by decide) (by decide) (by decide) (fun c9 => absurd c9 (by decide)) (fun _ => ?_)
  refine lv_aload_n hx hb d_TB_rule_63 rfl (lv_at hl 2 rfl) ?_
  refine va_get (D := D) (ci := 0) (v := .ref o1) (C := R_TB) (T := T_TB) (N := 4) hx hb hw in_TB hown hE.1 hP 0 rfl rfl 0 (by decide) (hw _ kw_182) (fun _ h9 => h9) rfl d_TB_rule_64 ?_
  refine lv_iconst (v := nI 1) hx hb d_TB_rule_67 (by decide +kernel) ?_
  refine lv_iload_n hx hb d_TB_rule_68 rfl (lv_at hl 4 rfl) ?_
  refine lv_iconst (v := nI 2) hx hb d_TB_rule_69 (by decide +kernel) ?_
  refine lv_iload hx hb d_TB_rule_70 (lv_at hl 1 rfl) ?_
  refine jn_imul (a := 2) (b := 0) hx hb d_TB_rule_72 ?_
  refine W.eq (g2 := F0 m 73 ls (.int (nI 0) :: [.int y, .int (nI 1), .ref o1])) (by rfl) ?_
  refine lv_iload hx hb d_TB_rule_73 (lv_at hl 0 rfl) ?_
  refine jn_iadd (a := 0) (b := 1) hx hb d_TB_rule_75 ?_
  refine W.eq (g2 := F0 m 76 ls (.int (nI 1) :: [.int y, .int (nI 1), .ref o1])) (by rfl) ?_
  refine lv_ishr hx hb d_TB_rule_76 ?_
  refine lv_iconst (v := nI 1) hx hb d_TB_rule_77 (by decide +kernel) ?_
  refine lv_iand hx hb d_TB_rule_78 ?_
  refine W.eq (g2 := F0 m 79 ls [.int (nI (btN y 1)), .int (nI 1), .ref o1]) (by rw [bt_and]) ?_
  refine jn_iadd (a := 1) (b := (btN y 1)) hx hb d_TB_rule_79 ?_
  refine lv_iconst (v := nI 3) hx hb d_TB_rule_80 (by decide +kernel) ?_
  refine lv_iload hx hb d_TB_rule_81 (lv_at hl 0 rfl) ?_
  refine jn_iadd (a := 3) (b := 1) hx hb d_TB_rule_83 ?_
  refine W.eq (g2 := F0 m 84 ls (.int (nI 4) :: [.int (nI (1 + (btN y 1))), .ref o1])) (by rfl) ?_
  refine lv_iconst (v := nI 1) hx hb d_TB_rule_84 (by decide +kernel) ?_
  refine lv_iload hx hb d_TB_rule_85 (lv_at hl 0 rfl) ?_
  refine jn_iadd (a := 1) (b := 1) hx hb d_TB_rule_87 ?_
  refine W.eq (g2 := F0 m 88 ls (.int (nI 2) :: [.int (nI 4), .int (nI (1 + (btN y 1))), .ref o1])) (by rfl) ?_
  refine lv_iconst (v := nI 3) hx hb d_TB_rule_88 (by decide +kernel) ?_
  refine lv_iload hx hb d_TB_rule_89 (lv_at hl 1 rfl) ?_
  refine jn_iadd (a := 3) (b := 0) hx hb d_TB_rule_91 ?_
  refine W.eq (g2 := F0 m 92 ls (.int (nI 3) :: [.int (nI 2), .int (nI 4), .int (nI (1 + (btN y 1))), .ref o1])) (by rfl) ?_
  refine cl_i (wr := [(x0, .inr (0, [.ref o1, .ref f0, .ref c0, .ref e0])), (f0, .inr (2, [.ref o1, .ref f1, .ref f2, .ref f3, .ref f4, .int np, .int ns, .int aw])), (f1, .inl (cI, 1764, .inl ce)), (f2, .inl (cJ, 1764, .inr (.inl oq))), (f3, .inl (cI, 42, .inl rp)), (f4, .inl (cI, 61, .inl tl)), (s1, .inl (cI, 100, .inl (rsF (flI st (nI 0) 100) 5)))]) (va_runV (As := [.int (nI (1 + (btN y 1))), .int (nI 4), .int (nI 2), .int (nI 3)]) (rest := []) ⟨hx, hb, hml, hown, hw⟩ (k_TS_addType l D cI cJ o1 s1 s2 s3 (nI 2) (3 + 1) (adS (adS (adS (adS sd 1 1 0 0 0) 2 2 0 0 0) 3 0 3 0 0) (3 + 1) (1 + (btN y 0)) 3 1 3) (adB (adB (adB (adB (flJ be 0 400) 1 1 0 0 0) 2 2 0 0 0) 3 0 3 0 0) (3 + 1) (1 + (btN y 0)) 3 1 3) (1 + (btN y 1)) 4 2 3 _ (by omega) (by have := btN_lt y 1; omega) (by omega) (by omega) (by omega)) (cwV 4 hw (gV kw_364 kw_365 kw_366 kw_41 kw_367) rfl rfl rfl (by decide +kernel) ⟨Nat.le_of_ble_eq_true rfl, Nat.le_of_ble_eq_true rfl⟩) (pre_Vw (wc := [(o1, .inr (1, [.ref s1, .ref s2, .ref s3, .int (nI (3 + 1)), .int (nI 2)])), (s2, .inl (cI, 244, .inl (adS (adS (adS (adS sd 1 1 0 0 0) 2 2 0 0 0) 3 0 3 0 0) (3 + 1) (1 + (btN y 0)) 3 1 3))), (s3, .inl (cJ, 400, .inr (.inl (adB (adB (adB (adB (flJ be 0 400) 1 1 0 0 0) 2 2 0 0 0) 3 0 3 0 0) (3 + 1) (1 + (btN y 0)) 3 1 3))))]) (q0 := 0) hE hX hA hP hD hS [7, 8, 9] (by decide) rfl rfl rfl rfl) rfl rfl hl.1 rfl (lv_room (Nat.le_of_ble_eq_true rfl)) d_TB_rule_92 ⟨Nat.le_of_ble_eq_true rfl, Nat.le_of_ble_eq_true rfl⟩) hP hD hS hA [7, 8, 9] [0, 1, 2, 3, 4, 5, 6] rfl rfl (by decide) (by decide) (fun r_8 u_r_8 H locs hr_8 hP hD hS => ?_)
  obtain rfl : nI ((3 + 1) + 1) = r_8 := hr_8.symm
  have hP : va_P D vwCl [(x0, .inr (0, [.ref o1, .ref f0, .ref c0, .ref e0])), (f0, .inr (2, [.ref o1, .ref f1, .ref f2, .ref f3, .ref f4, .int np, .int ns, .int aw])), (f1, .inl (cI, 1764, .inl ce)), (f2, .inl (cJ, 1764, .inr (.inl oq))), (f3, .inl (cI, 42, .inl rp)), (f4, .inl (cI, 61, .inl tl)), (s1, .inl (cI, 100, .inl (rsF (flI st (nI 0) 100) 5))), (o1, .inr (1, [.ref s1, .ref s2, .ref s3, .int (nI ((3 + 1) + 1)), .int (nI 2)])), (s2, .inl (cI, 244, .inl (adS (adS (adS (adS (adS sd 1 1 0 0 0) 2 2 0 0 0) 3 0 3 0 0) (3 + 1) (1 + (btN y 0)) 3 1 3) ((3 + 1) + 1) (1 + (btN y 1)) 4 2 3))), (s3, .inl (cJ, 400, .inr (.inl (adB (adB (adB (adB (adB (flJ be 0 400) 1 1 0 0 0) 2 2 0 0 0) 3 0 3 0 0) (3 + 1) (1 + (btN y 0)) 3 1 3) ((3 + 1) + 1) (1 + (btN y 1)) 4 2 3))))] H := hP
  have hD : va_D A [(x0, .inr (0, [.ref o1, .ref f0, .ref c0, .ref e0])), (f0, .inr (2, [.ref o1, .ref f1, .ref f2, .ref f3, .ref f4, .int np, .int ns, .int aw])), (f1, .inl (cI, 1764, .inl ce)), (f2, .inl (cJ, 1764, .inr (.inl oq))), (f3, .inl (cI, 42, .inl rp)), (f4, .inl (cI, 61, .inl tl)), (s1, .inl (cI, 100, .inl (rsF (flI st (nI 0) 100) 5))), (o1, .inr (1, [.ref s1, .ref s2, .ref s3, .int (nI ((3 + 1) + 1)), .int (nI 2)])), (s2, .inl (cI, 244, .inl (adS (adS (adS (adS (adS sd 1 1 0 0 0) 2 2 0 0 0) 3 0 3 0 0) (3 + 1) (1 + (btN y 0)) 3 1 3) ((3 + 1) + 1) (1 + (btN y 1)) 4 2 3))), (s3, .inl (cJ, 400, .inr (.inl (adB (adB (adB (adB (adB (flJ be 0 400) 1 1 0 0 0) 2 2 0 0 0) 3 0 3 0 0) (3 + 1) (1 + (btN y 0)) 3 1 3) ((3 + 1) + 1) (1 + (btN y 1)) 4 2 3))))] := hD
  refine lv_pop hx hb d_TB_rule_95 rfl ?_
  refine lv_iinc (v := nI 2) (lv' := [(6, .int (nI 2)), (5, .int (nI 0)), (0, .ref x0), (1, .int (nI a9)), (2, .int y), (3, .int (nI b9)), (4, .int w)]) hx hb d_TB_rule_96 hl (k := 0) rfl (by decide +kernel) (by decide) rfl (fun ls hl => ?_)
  refine lv_goto (tgt := 57) hx hb d_TB_rule_99 (by decide) ?_
  refine lv_iload hx hb d_TB_rule_57 (lv_at hl 0 rfl) ?_
  refine lv_iconst (v := nI 1) hx hb d_TB_rule_59 (by decide +kernel) ?_
  refine jn_icmp_gt (tgt := 102) (a := 2) (b := 1) hx hb d_TB_rule_60 (by decide) (by decide) (by decide) (fun _ => ?_) (fun c9 => absurd c9 (by decide))
  refine lv_iinc (v := nI 1) (lv' := [(5, .int (nI 1)), (6, .int (nI 2)), (0, .ref x0), (1, .int (nI a9)), (2, .int y), (3, .int (nI b9)), (4, .int w)]) hx hb d_TB_rule_102 hl (k := 1) rfl (by decide +kernel) (by decide) rfl (fun ls hl => ?_)
  refine lv_goto (tgt := 48) hx hb d_TB_rule_105 (by decide) ?_
  refine lv_iload hx hb d_TB_rule_48 (lv_at hl 0 rfl) ?_
  refine lv_iconst (v := nI 1) hx hb d_TB_rule_50 (by decide +kernel) ?_
  refine jn_icmp_gt (tgt := 108) (a := 1) (b := 1) hx hb d_TB_rule_51 (by decide) (by decide) (by decide) (fun c9 => absurd c9 (by decide)) (fun _ => ?_)
  refine lv_iconst (v := nI 0) hx hb d_TB_rule_54 (by decide +kernel) ?_
  refine lv_istore (lv' := [(6, .int (nI 0)), (5, .int (nI 1)), (0, .ref x0), (1, .int (nI a9)), (2, .int y), (3, .int (nI b9)), (4, .int w)]) hx hb d_TB_rule_55 hl (by decide) rfl (fun ls hl => ?_)
  refine lv_iload hx hb d_TB_rule_57 (lv_at hl 0 rfl) ?_
  refine lv_iconst (v := nI 1) hx hb d_TB_rule_59 (by decide +kernel) ?_
  refine jn_icmp_gt (tgt := 102) (a := 0) (b := 1) hx hb d_TB_rule_60 (by decide) (by decide) (by decide) (fun c9 => absurd c9 (by decide)) (fun _ => ?_)
  refine lv_aload_n hx hb d_TB_rule_63 rfl (lv_at hl 2 rfl) ?_
  refine va_get (D := D) (ci := 0) (v := .ref o1) (C := R_TB) (T := T_TB) (N := 4) hx hb hw in_TB hown hE.1 hP 0 rfl rfl 0 (by decide) (hw _ kw_182) (fun _ h9 => h9) rfl d_TB_rule_64 ?_
  refine lv_iconst (v := nI 1) hx hb d_TB_rule_67 (by decide +kernel) ?_
  refine lv_iload_n hx hb d_TB_rule_68 rfl (lv_at hl 4 rfl) ?_
  refine lv_iconst (v := nI 2) hx hb d_TB_rule_69 (by decide +kernel) ?_
  refine lv_iload hx hb d_TB_rule_70 (lv_at hl 1 rfl) ?_
  refine jn_imul (a := 2) (b := 1) hx hb d_TB_rule_72 ?_
  refine W.eq (g2 := F0 m 73 ls (.int (nI 2) :: [.int y, .int (nI 1), .ref o1])) (by rfl) ?_
  refine lv_iload hx hb d_TB_rule_73 (lv_at hl 0 rfl) ?_
  refine jn_iadd (a := 2) (b := 0) hx hb d_TB_rule_75 ?_
  refine W.eq (g2 := F0 m 76 ls (.int (nI 2) :: [.int y, .int (nI 1), .ref o1])) (by rfl) ?_
  refine lv_ishr hx hb d_TB_rule_76 ?_
  refine lv_iconst (v := nI 1) hx hb d_TB_rule_77 (by decide +kernel) ?_
  refine lv_iand hx hb d_TB_rule_78 ?_
  refine W.eq (g2 := F0 m 79 ls [.int (nI (btN y 2)), .int (nI 1), .ref o1]) (by rw [bt_and]) ?_
  refine jn_iadd (a := 1) (b := (btN y 2)) hx hb d_TB_rule_79 ?_
  refine lv_iconst (v := nI 3) hx hb d_TB_rule_80 (by decide +kernel) ?_
  refine lv_iload hx hb d_TB_rule_81 (lv_at hl 0 rfl) ?_
  refine jn_iadd (a := 3) (b := 0) hx hb d_TB_rule_83 ?_
  refine W.eq (g2 := F0 m 84 ls (.int (nI 3) :: [.int (nI (1 + (btN y 2))), .ref o1])) (by rfl) ?_
  refine lv_iconst (v := nI 1) hx hb d_TB_rule_84 (by decide +kernel) ?_
  refine lv_iload hx hb d_TB_rule_85 (lv_at hl 0 rfl) ?_
  refine jn_iadd (a := 1) (b := 0) hx hb d_TB_rule_87 ?_
  refine W.eq (g2 := F0 m 88 ls (.int (nI 1) :: [.int (nI 3), .int (nI (1 + (btN y 2))), .ref o1])) (by rfl) ?_
  refine lv_iconst (v := nI 3) hx hb d_TB_rule_88 (by decide +kernel) ?_
  refine lv_iload hx hb d_TB_rule_89 (lv_at hl 1 rfl) ?_
  refine jn_iadd (a := 3) (b := 1) hx hb d_TB_rule_91 ?_
  refine W.eq (g2 := F0 m 92 ls (.int (nI 4) :: [.int (nI 1), .int (nI 3), .int (nI (1 + (btN y 2))), .ref o1])) (by rfl) ?_
  refine cl_i (wr := [(x0, .inr (0, [.ref o1, .ref f0, .ref c0, .ref e0])), (f0, .inr (2, [.ref o1, .ref f1, .ref f2, .ref f3, .ref f4, .int np, .int ns, .int aw])), (f1, .inl (cI, 1764, .inl ce)), (f2, .inl (cJ, 1764, .inr (.inl oq))), (f3, .inl (cI, 42, .inl rp)), (f4, .inl (cI, 61, .inl tl)), (s1, .inl (cI, 100, .inl (rsF (flI st (nI 0) 100) 5)))]) (va_runV (As := [.int (nI (1 + (btN y 2))), .int (nI 3), .int (nI 1), .int (nI 4)]) (rest := []) ⟨hx, hb, hml, hown, hw⟩ (k_TS_addType l D cI cJ o1 s1 s2 s3 (nI 2) ((3 + 1) + 1) (adS (adS (adS (adS (adS sd 1 1 0 0 0) 2 2 0 0 0) 3 0 3 0 0) (3 + 1) (1 + (btN y 0)) 3 1 3) ((3 + 1) + 1) (1 + (btN y 1)) 4 2 3) (adB (adB (adB (adB (adB (flJ be 0 400) 1 1 0 0 0) 2 2 0 0 0) 3 0 3 0 0) (3 + 1) (1 + (btN y 0)) 3 1 3) ((3 + 1) + 1) (1 + (btN y 1)) 4 2 3) (1 + (btN y 2)) 3 1 4 _ (by omega) (by have := btN_lt y 2; omega) (by omega) (by omega) (by omega)) (cwV 4 hw (gV kw_364 kw_365 kw_366 kw_41 kw_367) rfl rfl rfl (by decide +kernel) ⟨Nat.le_of_ble_eq_true rfl, Nat.le_of_ble_eq_true rfl⟩) (pre_Vw (wc := [(o1, .inr (1, [.ref s1, .ref s2, .ref s3, .int (nI ((3 + 1) + 1)), .int (nI 2)])), (s2, .inl (cI, 244, .inl (adS (adS (adS (adS (adS sd 1 1 0 0 0) 2 2 0 0 0) 3 0 3 0 0) (3 + 1) (1 + (btN y 0)) 3 1 3) ((3 + 1) + 1) (1 + (btN y 1)) 4 2 3))), (s3, .inl (cJ, 400, .inr (.inl (adB (adB (adB (adB (adB (flJ be 0 400) 1 1 0 0 0) 2 2 0 0 0) 3 0 3 0 0) (3 + 1) (1 + (btN y 0)) 3 1 3) ((3 + 1) + 1) (1 + (btN y 1)) 4 2 3))))]) (q0 := 0) hE hX hA hP hD hS [7, 8, 9] (by decide) rfl rfl rfl rfl) rfl rfl hl.1 rfl (lv_room (Nat.le_of_ble_eq_true rfl)) d_TB_rule_92 ⟨Nat.le_of_ble_eq_true rfl, Nat.le_of_ble_eq_true rfl⟩) hP hD hS hA [7, 8, 9] [0, 1, 2, 3, 4, 5, 6] rfl rfl (by decide) (by decide) (fun r_9 u_r_9 H locs hr_9 hP hD hS => ?_)
  obtain rfl : nI (((3 + 1) + 1) + 1) = r_9 := hr_9.symm
  have hP : va_P D vwCl [(x0, .inr (0, [.ref o1, .ref f0, .ref c0, .ref e0])), (f0, .inr (2, [.ref o1, .ref f1, .ref f2, .ref f3, .ref f4, .int np, .int ns, .int aw])), (f1, .inl (cI, 1764, .inl ce)), (f2, .inl (cJ, 1764, .inr (.inl oq))), (f3, .inl (cI, 42, .inl rp)), (f4, .inl (cI, 61, .inl tl)), (s1, .inl (cI, 100, .inl (rsF (flI st (nI 0) 100) 5))), (o1, .inr (1, [.ref s1, .ref s2, .ref s3, .int (nI (((3 + 1) + 1) + 1)), .int (nI 2)])), (s2, .inl (cI, 244, .inl (adS (adS (adS (adS (adS (adS sd 1 1 0 0 0) 2 2 0 0 0) 3 0 3 0 0) (3 + 1) (1 + (btN y 0)) 3 1 3) ((3 + 1) + 1) (1 + (btN y 1)) 4 2 3) (((3 + 1) + 1) + 1) (1 + (btN y 2)) 3 1 4))), (s3, .inl (cJ, 400, .inr (.inl (adB (adB (adB (adB (adB (adB (flJ be 0 400) 1 1 0 0 0) 2 2 0 0 0) 3 0 3 0 0) (3 + 1) (1 + (btN y 0)) 3 1 3) ((3 + 1) + 1) (1 + (btN y 1)) 4 2 3) (((3 + 1) + 1) + 1) (1 + (btN y 2)) 3 1 4))))] H := hP
  have hD : va_D A [(x0, .inr (0, [.ref o1, .ref f0, .ref c0, .ref e0])), (f0, .inr (2, [.ref o1, .ref f1, .ref f2, .ref f3, .ref f4, .int np, .int ns, .int aw])), (f1, .inl (cI, 1764, .inl ce)), (f2, .inl (cJ, 1764, .inr (.inl oq))), (f3, .inl (cI, 42, .inl rp)), (f4, .inl (cI, 61, .inl tl)), (s1, .inl (cI, 100, .inl (rsF (flI st (nI 0) 100) 5))), (o1, .inr (1, [.ref s1, .ref s2, .ref s3, .int (nI (((3 + 1) + 1) + 1)), .int (nI 2)])), (s2, .inl (cI, 244, .inl (adS (adS (adS (adS (adS (adS sd 1 1 0 0 0) 2 2 0 0 0) 3 0 3 0 0) (3 + 1) (1 + (btN y 0)) 3 1 3) ((3 + 1) + 1) (1 + (btN y 1)) 4 2 3) (((3 + 1) + 1) + 1) (1 + (btN y 2)) 3 1 4))), (s3, .inl (cJ, 400, .inr (.inl (adB (adB (adB (adB (adB (adB (flJ be 0 400) 1 1 0 0 0) 2 2 0 0 0) 3 0 3 0 0) (3 + 1) (1 + (btN y 0)) 3 1 3) ((3 + 1) + 1) (1 + (btN y 1)) 4 2 3) (((3 + 1) + 1) + 1) (1 + (btN y 2)) 3 1 4))))] := hD
  refine lv_pop hx hb d_TB_rule_95 rfl ?_
  refine lv_iinc (v := nI 1) (lv' := [(6, .int (nI 1)), (5, .int (nI 1)), (0, .ref x0), (1, .int (nI a9)), (2, .int y), (3, .int (nI b9)), (4, .int w)]) hx hb d_TB_rule_96 hl (k := 0) rfl (by decide +kernel) (by decide) rfl (fun ls hl => ?_)
  refine lv_goto (tgt := 57) hx hb d_TB_rule_99 (by decide) ?_
  refine lv_iload hx hb d_TB_rule_57 (lv_at hl 0 rfl) ?_
  refine lv_iconst (v := nI 1) hx hb d_TB_rule_59 (by decide +kernel) ?_
  refine jn_icmp_gt (tgt := 102) (a := 1) (b := 1) hx hb d_TB_rule_60 (by decide) (by decide) (by decide) (fun c9 => absurd c9 (by decide)) (fun _ => ?_)
  refine lv_aload_n hx hb d_TB_rule_63 rfl (lv_at hl 2 rfl) ?_
  refine va_get (D := D) (ci := 0) (v := .ref o1) (C := R_TB) (T := T_TB) (N := 4) hx hb hw in_TB hown hE.1 hP 0 rfl rfl 0 (by decide) (hw _ kw_182) (fun _ h9 => h9) rfl d_TB_rule_64 ?_
  refine lv_iconst (v := nI 1) hx hb d_TB_rule_67 (by decide +kernel) ?_
  refine lv_iload_n hx hb d_TB_rule_68 rfl (lv_at hl 4 rfl) ?_
  refine lv_iconst (v := nI 2) hx hb d_TB_rule_69 (by decide +kernel) ?_
  refine lv_iload hx hb d_TB_rule_70 (lv_at hl 1 rfl) ?_
  refine jn_imul (a := 2) (b := 1) hx hb d_TB_rule_72 ?_
  refine W.eq (g2 := F0 m 73 ls (.int (nI 2) :: [.int y, .int (nI 1), .ref o1])) (by rfl) ?_
  refine lv_iload hx hb d_TB_rule_73 (lv_at hl 0 rfl) ?_
  refine jn_iadd (a := 2) (b := 1) hx hb d_TB_rule_75 ?_
  refine W.eq (g2 := F0 m 76 ls (.int (nI 3) :: [.int y, .int (nI 1), .ref o1])) (by rfl) ?_
  refine lv_ishr hx hb d_TB_rule_76 ?_
  refine lv_iconst (v := nI 1) hx hb d_TB_rule_77 (by decide +kernel) ?_
  refine lv_iand hx hb d_TB_rule_78 ?_
  refine W.eq (g2 := F0 m 79 ls [.int (nI (btN y 3)), .int (nI 1), .ref o1]) (by rw [bt_and]) ?_
  refine jn_iadd (a := 1) (b := (btN y 3)) hx hb d_TB_rule_79 ?_
  refine lv_iconst (v := nI 3) hx hb d_TB_rule_80 (by decide +kernel) ?_
  refine lv_iload hx hb d_TB_rule_81 (lv_at hl 0 rfl) ?_
  refine jn_iadd (a := 3) (b := 1) hx hb d_TB_rule_83 ?_
  refine W.eq (g2 := F0 m 84 ls (.int (nI 4) :: [.int (nI (1 + (btN y 3))), .ref o1])) (by rfl) ?_
  refine lv_iconst (v := nI 1) hx hb d_TB_rule_84 (by decide +kernel) ?_
  refine lv_iload hx hb d_TB_rule_85 (lv_at hl 0 rfl) ?_
  refine jn_iadd (a := 1) (b := 1) hx hb d_TB_rule_87 ?_
  refine W.eq (g2 := F0 m 88 ls (.int (nI 2) :: [.int (nI 4), .int (nI (1 + (btN y 3))), .ref o1])) (by rfl) ?_
  refine lv_iconst (v := nI 3) hx hb d_TB_rule_88 (by decide +kernel) ?_
  refine lv_iload hx hb d_TB_rule_89 (lv_at hl 1 rfl) ?_
  refine jn_iadd (a := 3) (b := 1) hx hb d_TB_rule_91 ?_
  refine W.eq (g2 := F0 m 92 ls (.int (nI 4) :: [.int (nI 2), .int (nI 4), .int (nI (1 + (btN y 3))), .ref o1])) (by rfl) ?_
  refine cl_i (wr := [(x0, .inr (0, [.ref o1, .ref f0, .ref c0, .ref e0])), (f0, .inr (2, [.ref o1, .ref f1, .ref f2, .ref f3, .ref f4, .int np, .int ns, .int aw])), (f1, .inl (cI, 1764, .inl ce)), (f2, .inl (cJ, 1764, .inr (.inl oq))), (f3, .inl (cI, 42, .inl rp)), (f4, .inl (cI, 61, .inl tl)), (s1, .inl (cI, 100, .inl (rsF (flI st (nI 0) 100) 5)))]) (va_runV (As := [.int (nI (1 + (btN y 3))), .int (nI 4), .int (nI 2), .int (nI 4)]) (rest := []) ⟨hx, hb, hml, hown, hw⟩ (k_TS_addType l D cI cJ o1 s1 s2 s3 (nI 2) (((3 + 1) + 1) + 1) (adS (adS (adS (adS (adS (adS sd 1 1 0 0 0) 2 2 0 0 0) 3 0 3 0 0) (3 + 1) (1 + (btN y 0)) 3 1 3) ((3 + 1) + 1) (1 + (btN y 1)) 4 2 3) (((3 + 1) + 1) + 1) (1 + (btN y 2)) 3 1 4) (adB (adB (adB (adB (adB (adB (flJ be 0 400) 1 1 0 0 0) 2 2 0 0 0) 3 0 3 0 0) (3 + 1) (1 + (btN y 0)) 3 1 3) ((3 + 1) + 1) (1 + (btN y 1)) 4 2 3) (((3 + 1) + 1) + 1) (1 + (btN y 2)) 3 1 4) (1 + (btN y 3)) 4 2 4 _ (by omega) (by have := btN_lt y 3; omega) (by omega) (by omega) (by omega)) (cwV 4 hw (gV kw_364 kw_365 kw_366 kw_41 kw_367) rfl rfl rfl (by decide +kernel) ⟨Nat.le_of_ble_eq_true rfl, Nat.le_of_ble_eq_true rfl⟩) (pre_Vw (wc := [(o1, .inr (1, [.ref s1, .ref s2, .ref s3, .int (nI (((3 + 1) + 1) + 1)), .int (nI 2)])), (s2, .inl (cI, 244, .inl (adS (adS (adS (adS (adS (adS sd 1 1 0 0 0) 2 2 0 0 0) 3 0 3 0 0) (3 + 1) (1 + (btN y 0)) 3 1 3) ((3 + 1) + 1) (1 + (btN y 1)) 4 2 3) (((3 + 1) + 1) + 1) (1 + (btN y 2)) 3 1 4))), (s3, .inl (cJ, 400, .inr (.inl (adB (adB (adB (adB (adB (adB (flJ be 0 400) 1 1 0 0 0) 2 2 0 0 0) 3 0 3 0 0) (3 + 1) (1 + (btN y 0)) 3 1 3) ((3 + 1) + 1) (1 + (btN y 1)) 4 2 3) (((3 + 1) + 1) + 1) (1 + (btN y 2)) 3 1 4))))]) (q0 := 0) hE hX hA hP hD hS [7, 8, 9] (by decide) rfl rfl rfl rfl) rfl rfl hl.1 rfl (lv_room (Nat.le_of_ble_eq_true rfl)) d_TB_rule_92 ⟨Nat.le_of_ble_eq_true rfl, Nat.le_of_ble_eq_true rfl⟩) hP hD hS hA [7, 8, 9] [0, 1, 2, 3, 4, 5, 6] rfl rfl (by decide) (by decide) (fun r_10 u_r_10 H locs hr_10 hP hD hS => ?_)
  obtain rfl : nI ((((3 + 1) + 1) + 1) + 1) = r_10 := hr_10.symm
  have hP : va_P D vwCl [(x0, .inr (0, [.ref o1, .ref f0, .ref c0, .ref e0])), (f0, .inr (2, [.ref o1, .ref f1, .ref f2, .ref f3, .ref f4, .int np, .int ns, .int aw])), (f1, .inl (cI, 1764, .inl ce)), (f2, .inl (cJ, 1764, .inr (.inl oq))), (f3, .inl (cI, 42, .inl rp)), (f4, .inl (cI, 61, .inl tl)), (s1, .inl (cI, 100, .inl (rsF (flI st (nI 0) 100) 5))), (o1, .inr (1, [.ref s1, .ref s2, .ref s3, .int (nI ((((3 + 1) + 1) + 1) + 1)), .int (nI 2)])), (s2, .inl (cI, 244, .inl (adS (adS (adS (adS (adS (adS (adS sd 1 1 0 0 0) 2 2 0 0 0) 3 0 3 0 0) (3 + 1) (1 + (btN y 0)) 3 1 3) ((3 + 1) + 1) (1 + (btN y 1)) 4 2 3) (((3 + 1) + 1) + 1) (1 + (btN y 2)) 3 1 4) ((((3 + 1) + 1) + 1) + 1) (1 + (btN y 3)) 4 2 4))), (s3, .inl (cJ, 400, .inr (.inl (adB (adB (adB (adB (adB (adB (adB (flJ be 0 400) 1 1 0 0 0) 2 2 0 0 0) 3 0 3 0 0) (3 + 1) (1 + (btN y 0)) 3 1 3) ((3 + 1) + 1) (1 + (btN y 1)) 4 2 3) (((3 + 1) + 1) + 1) (1 + (btN y 2)) 3 1 4) ((((3 + 1) + 1) + 1) + 1) (1 + (btN y 3)) 4 2 4))))] H := hP
  have hD : va_D A [(x0, .inr (0, [.ref o1, .ref f0, .ref c0, .ref e0])), (f0, .inr (2, [.ref o1, .ref f1, .ref f2, .ref f3, .ref f4, .int np, .int ns, .int aw])), (f1, .inl (cI, 1764, .inl ce)), (f2, .inl (cJ, 1764, .inr (.inl oq))), (f3, .inl (cI, 42, .inl rp)), (f4, .inl (cI, 61, .inl tl)), (s1, .inl (cI, 100, .inl (rsF (flI st (nI 0) 100) 5))), (o1, .inr (1, [.ref s1, .ref s2, .ref s3, .int (nI ((((3 + 1) + 1) + 1) + 1)), .int (nI 2)])), (s2, .inl (cI, 244, .inl (adS (adS (adS (adS (adS (adS (adS sd 1 1 0 0 0) 2 2 0 0 0) 3 0 3 0 0) (3 + 1) (1 + (btN y 0)) 3 1 3) ((3 + 1) + 1) (1 + (btN y 1)) 4 2 3) (((3 + 1) + 1) + 1) (1 + (btN y 2)) 3 1 4) ((((3 + 1) + 1) + 1) + 1) (1 + (btN y 3)) 4 2 4))), (s3, .inl (cJ, 400, .inr (.inl (adB (adB (adB (adB (adB (adB (adB (flJ be 0 400) 1 1 0 0 0) 2 2 0 0 0) 3 0 3 0 0) (3 + 1) (1 + (btN y 0)) 3 1 3) ((3 + 1) + 1) (1 + (btN y 1)) 4 2 3) (((3 + 1) + 1) + 1) (1 + (btN y 2)) 3 1 4) ((((3 + 1) + 1) + 1) + 1) (1 + (btN y 3)) 4 2 4))))] := hD
  refine lv_pop hx hb d_TB_rule_95 rfl ?_
  refine lv_iinc (v := nI 2) (lv' := [(6, .int (nI 2)), (5, .int (nI 1)), (0, .ref x0), (1, .int (nI a9)), (2, .int y), (3, .int (nI b9)), (4, .int w)]) hx hb d_TB_rule_96 hl (k := 0) rfl (by decide +kernel) (by decide) rfl (fun ls hl => ?_)
  refine lv_goto (tgt := 57) hx hb d_TB_rule_99 (by decide) ?_
  refine lv_iload hx hb d_TB_rule_57 (lv_at hl 0 rfl) ?_
  refine lv_iconst (v := nI 1) hx hb d_TB_rule_59 (by decide +kernel) ?_
  refine jn_icmp_gt (tgt := 102) (a := 2) (b := 1) hx hb d_TB_rule_60 (by decide) (by decide) (by decide) (fun _ => ?_) (fun c9 => absurd c9 (by decide))
  refine lv_iinc (v := nI 2) (lv' := [(5, .int (nI 2)), (6, .int (nI 2)), (0, .ref x0), (1, .int (nI a9)), (2, .int y), (3, .int (nI b9)), (4, .int w)]) hx hb d_TB_rule_102 hl (k := 1) rfl (by decide +kernel) (by decide) rfl (fun ls hl => ?_)
  refine lv_goto (tgt := 48) hx hb d_TB_rule_105 (by decide) ?_
  refine lv_iload hx hb d_TB_rule_48 (lv_at hl 0 rfl) ?_
  refine lv_iconst (v := nI 1) hx hb d_TB_rule_50 (by decide +kernel) ?_
  refine jn_icmp_gt (tgt := 108) (a := 2) (b := 1) hx hb d_TB_rule_51 (by decide) (by decide) (by decide) (fun _ => ?_) (fun c9 => absurd c9 (by decide))
  have hP : va_P D vwCl [(x0, .inr (0, [.ref o1, .ref f0, .ref c0, .ref e0])), (f0, .inr (2, [.ref o1, .ref f1, .ref f2, .ref f3, .ref f4, .int np, .int ns, .int aw])), (f1, .inl (cI, 1764, .inl ce)), (f2, .inl (cJ, 1764, .inr (.inl oq))), (f3, .inl (cI, 42, .inl rp)), (f4, .inl (cI, 61, .inl tl)), (s1, .inl (cI, 100, .inl (bgS st))), (o1, .inr (1, [.ref s1, .ref s2, .ref s3, .int (nI 7), .int (nI 2)])), (s2, .inl (cI, 244, .inl (ruSd sd y))), (s3, .inl (cJ, 400, .inr (.inl (ruBe be y))))] H := hP
  have hD : va_D A [(x0, .inr (0, [.ref o1, .ref f0, .ref c0, .ref e0])), (f0, .inr (2, [.ref o1, .ref f1, .ref f2, .ref f3, .ref f4, .int np, .int ns, .int aw])), (f1, .inl (cI, 1764, .inl ce)), (f2, .inl (cJ, 1764, .inr (.inl oq))), (f3, .inl (cI, 42, .inl rp)), (f4, .inl (cI, 61, .inl tl)), (s1, .inl (cI, 100, .inl (bgS st))), (o1, .inr (1, [.ref s1, .ref s2, .ref s3, .int (nI 7), .int (nI 2)])), (s2, .inl (cI, 244, .inl (ruSd sd y))), (s3, .inl (cJ, 400, .inr (.inl (ruBe be y))))] := hD
  refine lv_iconst (v := nI 0) hx hb d_TB_rule_108 (by decide +kernel) ?_
  refine lv_istore (lv' := [(5, .int (nI 0)), (6, .int (nI 2)), (0, .ref x0), (1, .int (nI a9)), (2, .int y), (3, .int (nI b9)), (4, .int w)]) hx hb d_TB_rule_109 hl (by decide) rfl (fun ls hl => ?_)
  refine lp_k_TB_rule_111 x0 c0 e0 f0 f1 f2 f3 f4 o1 np ns aw s1 s2 s3 ty wa st sd be ce oq rp tl (nI a9) y (nI b9) w hce hsd a9 hk1 (by omega) b9 hx hb hml hown hw hE hX hA (fun z9 hz hok H locs ls hP hD hS hl => ?_) ((a9 - 0) + 1) 0 (ce, oq, rp, tl, np, ns, aw) (Nat.lt_succ_self _) (Nat.zero_le _) rfl hce _ _ _ (hP.sub [0, 1, 2, 3, 4, 5, 7, 6, 8, 9] rfl) (hD.sub [0, 1, 2, 3, 4, 5, 7, 6, 8, 9] (by decide) rfl) hS (lv_sub hl [2, 3, 5, 6, 0] rfl)
  refine lv_aload_n hx hb d_TB_rule_150 rfl (lv_at hl 0 rfl) ?_
  refine lv_iconst (v := nI 0) hx hb d_TB_rule_151 (by decide +kernel) ?_
  refine lv_iload_n hx hb d_TB_rule_152 rfl (lv_at hl 1 rfl) ?_
  refine cl_v (wr := []) (va_runV (As := [.int (nI 0), .int (nI b9)]) (rest := []) ⟨hx, hb, hml, hown, hw⟩ (k_TB_plantColumn l D cI cJ x0 c0 e0 f0 f1 f2 f3 f4 o1 z9.2.2.2.2.1 z9.2.2.2.2.2.1 z9.2.2.2.2.2.2 s1 s2 s3 (nI 7) (nI 2) (bgS st) (ruSd sd y) (ruBe be y) z9.1 z9.2.1 z9.2.2.1 z9.2.2.2.1 0 b9 _ hok (okSd_ru hsd y) (okSt_bgS st) (by omega) hj1 hj2) (cwV 2 hw (gV kw_744 kw_746 kw_19 kw_40 kw_747) rfl rfl rfl (by decide +kernel) ⟨Nat.le_of_ble_eq_true rfl, Nat.le_of_ble_eq_true rfl⟩) (pre_Vw (wc := [(x0, .inr (0, [.ref o1, .ref f0, .ref c0, .ref e0])), (f0, .inr (2, [.ref o1, .ref f1, .ref f2, .ref f3, .ref f4, .int z9.2.2.2.2.1, .int z9.2.2.2.2.2.1, .int z9.2.2.2.2.2.2])), (f1, .inl (cI, 1764, .inl z9.1)), (f2, .inl (cJ, 1764, .inr (.inl z9.2.1))), (f3, .inl (cI, 42, .inl z9.2.2.1)), (f4, .inl (cI, 61, .inl z9.2.2.2.1)), (o1, .inr (1, [.ref s1, .ref s2, .ref s3, .int (nI 7), .int (nI 2)])), (s1, .inl (cI, 100, .inl (bgS st))), (s2, .inl (cI, 244, .inl (ruSd sd y))), (s3, .inl (cJ, 400, .inr (.inl (ruBe be y))))]) (q0 := 0) hE hX hA hP hD hS [0, 1, 2, 3, 4, 5, 6, 7, 8, 9] (by decide) rfl rfl rfl rfl) rfl rfl hl.1 rfl (lv_room (Nat.le_of_ble_eq_true rfl)) d_TB_rule_153 ⟨Nat.le_of_ble_eq_true rfl, Nat.le_of_ble_eq_true rfl⟩) hP hD hS hA [0, 1, 2, 3, 4, 5, 6, 7, 8, 9] [] rfl rfl (by decide) (by decide) (fun u_r_11 H locs hr_11 hP hD hS => ?_)
  have hP : va_P D vwCl [(x0, .inr (0, [.ref o1, .ref f0, .ref c0, .ref e0])), (f0, .inr (2, [.ref o1, .ref f1, .ref f2, .ref f3, .ref f4, .int u_r_11.2.2.2.2.1, .int u_r_11.2.2.2.2.2.1, .int u_r_11.2.2.2.2.2.2])), (f1, .inl (cI, 1764, .inl u_r_11.1)), (f2, .inl (cJ, 1764, .inr (.inl u_r_11.2.1))), (f3, .inl (cI, 42, .inl u_r_11.2.2.1)), (f4, .inl (cI, 61, .inl u_r_11.2.2.2.1)), (o1, .inr (1, [.ref s1, .ref s2, .ref s3, .int (nI 7), .int (nI 2)])), (s1, .inl (cI, 100, .inl (bgS st))), (s2, .inl (cI, 244, .inl (ruSd sd y))), (s3, .inl (cJ, 400, .inr (.inl (ruBe be y))))] H := hP
  have hD : va_D A [(x0, .inr (0, [.ref o1, .ref f0, .ref c0, .ref e0])), (f0, .inr (2, [.ref o1, .ref f1, .ref f2, .ref f3, .ref f4, .int u_r_11.2.2.2.2.1, .int u_r_11.2.2.2.2.2.1, .int u_r_11.2.2.2.2.2.2])), (f1, .inl (cI, 1764, .inl u_r_11.1)), (f2, .inl (cJ, 1764, .inr (.inl u_r_11.2.1))), (f3, .inl (cI, 42, .inl u_r_11.2.2.1)), (f4, .inl (cI, 61, .inl u_r_11.2.2.2.1)), (o1, .inr (1, [.ref s1, .ref s2, .ref s3, .int (nI 7), .int (nI 2)])), (s1, .inl (cI, 100, .inl (bgS st))), (s2, .inl (cI, 244, .inl (ruSd sd y))), (s3, .inl (cJ, 400, .inr (.inl (ruBe be y))))] := hD
  refine lv_aload_n hx hb d_TB_rule_156 rfl (lv_at hl 0 rfl) ?_
  refine va_get (D := D) (ci := 0) (v := .ref o1) (C := R_TB) (T := T_TB) (N := 4) hx hb hw in_TB hown hE.1 hP 0 rfl rfl 0 (by decide) (hw _ kw_182) (fun _ h9 => h9) rfl d_TB_rule_157 ?_
  refine vp_callSi (va_Run.run (va_runV (As := []) (rest := []) ⟨hx, hb, hml, hown, hw⟩ (k_TS_types l D cI cJ o1 s1 s2 s3 (nI 7) (nI 2)) (cwV 0 hw (gV kw_344 kw_345 kw_346 kw_41 kw_347) rfl rfl rfl (by decide +kernel) ⟨Nat.le_of_ble_eq_true rfl, Nat.le_of_ble_eq_true rfl⟩) (pre_Vp (wc := [(o1, .inr (1, [.ref s1, .ref s2, .ref s3, .int (nI 7), .int (nI 2)]))]) (q0 := 0) hE hX hP hS [6] rfl rfl rfl) rfl rfl hl.1 rfl (lv_room (Nat.le_of_ble_eq_true rfl)) d_TB_rule_160 ⟨Nat.le_of_ble_eq_true rfl, Nat.le_of_ble_eq_true rfl⟩)) (fun r_12 hr_12 => ?_)
  obtain rfl : (nI 7) = r_12 := hr_12.symm
  have hP9 := hP.sub (ws' := [(x0, .inr (0, [.ref o1, .ref f0, .ref c0, .ref e0])), (f0, .inr (2, [.ref o1, .ref f1, .ref f2, .ref f3, .ref f4, .int u_r_11.2.2.2.2.1, .int u_r_11.2.2.2.2.2.1, .int u_r_11.2.2.2.2.2.2])), (f1, .inl (cI, 1764, .inl u_r_11.1)), (f2, .inl (cJ, 1764, .inr (.inl u_r_11.2.1))), (f3, .inl (cI, 42, .inl u_r_11.2.2.1)), (f4, .inl (cI, 61, .inl u_r_11.2.2.2.1)), (o1, .inr (1, [.ref s1, .ref s2, .ref s3, .int (nI 7), .int (nI 2)])), (s1, .inl (cI, 100, .inl (bgS st))), (s2, .inl (cI, 244, .inl (ruSd sd y))), (s3, .inl (cJ, 400, .inr (.inl (ruBe be y))))]) [0, 1, 2, 3, 4, 5, 6, 7, 8, 9] rfl
  have hD9 := hD.sub (ws' := [(x0, .inr (0, [.ref o1, .ref f0, .ref c0, .ref e0])), (f0, .inr (2, [.ref o1, .ref f1, .ref f2, .ref f3, .ref f4, .int u_r_11.2.2.2.2.1, .int u_r_11.2.2.2.2.2.1, .int u_r_11.2.2.2.2.2.2])), (f1, .inl (cI, 1764, .inl u_r_11.1)), (f2, .inl (cJ, 1764, .inr (.inl u_r_11.2.1))), (f3, .inl (cI, 42, .inl u_r_11.2.2.1)), (f4, .inl (cI, 61, .inl u_r_11.2.2.2.1)), (o1, .inr (1, [.ref s1, .ref s2, .ref s3, .int (nI 7), .int (nI 2)])), (s1, .inl (cI, 100, .inl (bgS st))), (s2, .inl (cI, 244, .inl (ruSd sd y))), (s3, .inl (cJ, 400, .inr (.inl (ruBe be y))))]) [0, 1, 2, 3, 4, 5, 6, 7, 8, 9] (by decide) rfl
  refine vx_ret ?_
  exact W.iret (v := (nI 7)) hx hb hr (fun t9 ht hW => ⟨⟨_, u_r_11, rfl, ⟨rfl, by rw [nn_nI (show a9 < 2 ^ 31 by omega), nn_nI (show b9 < 2 ^ 31 by omega), ← hz]; exact hr_11⟩, ⟨by rw [ht]; exact hP9, hD9⟩⟩, hS.F ht⟩) hS.2.2 d_TB_rule_163
