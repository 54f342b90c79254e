theorem d_MD_at_0 : decode c_MD_at 0 = .ok (.aload_n 0, 1) := by decide +kernel
theorem d_MD_at_1 : decode c_MD_at 1 = .ok (.iload_n 1, 1) := by decide +kernel
theorem d_MD_at_2 : decode c_MD_at 2 = .ok (.iload_n 2, 1) := by decide +kernel
theorem d_MD_at_3 : decode c_MD_at 3 = .ok (.invokestatic 66, 3) := by decide +kernel
theorem d_MD_at_6 : decode c_MD_at 6 = .ok (.ifCond .ne 7, 3) := by decide +kernel
theorem d_MD_at_9 : decode c_MD_at 9 = .ok (.iconst 1, 1) := by decide +kernel
theorem d_MD_at_10 : decode c_MD_at 10 = .ok (.goto 4, 3) := by decide +kernel
theorem d_MD_at_13 : decode c_MD_at 13 = .ok (.iconst 0, 1) := by decide +kernel
theorem d_MD_at_14 : decode c_MD_at 14 = .ok (.iconst 1, 1) := by decide +kernel
theorem d_MD_at_15 : decode c_MD_at 15 = .ok (.invokevirtual 105, 3) := by decide +kernel
theorem d_MD_at_18 : decode c_MD_at 18 = .ok (.ifCond .ne 25, 3) := by decide +kernel
theorem d_MD_at_21 : decode c_MD_at 21 = .ok (.aload_n 0, 1) := by decide +kernel
theorem d_MD_at_22 : decode c_MD_at 22 = .ok (.iload_n 3, 1) := by decide +kernel
theorem d_MD_at_23 : decode c_MD_at 23 = .ok (.iconst 0, 1) := by decide +kernel
theorem d_MD_at_24 : decode c_MD_at 24 = .ok (.iconst 3, 1) := by decide +kernel
theorem d_MD_at_25 : decode c_MD_at 25 = .ok (.invokestatic 59, 3) := by decide +kernel
theorem d_MD_at_28 : decode c_MD_at 28 = .ok (.ifCond .ne 7, 3) := by decide +kernel
theorem d_MD_at_31 : decode c_MD_at 31 = .ok (.iconst 1, 1) := by decide +kernel
theorem d_MD_at_32 : decode c_MD_at 32 = .ok (.goto 4, 3) := by decide +kernel
theorem d_MD_at_35 : decode c_MD_at 35 = .ok (.iconst 0, 1) := by decide +kernel
theorem d_MD_at_36 : decode c_MD_at 36 = .ok (.iconst 2, 1) := by decide +kernel
theorem d_MD_at_37 : decode c_MD_at 37 = .ok (.invokevirtual 105, 3) := by decide +kernel
theorem d_MD_at_40 : decode c_MD_at 40 = .ok (.ifCond .eq 5, 3) := by decide +kernel
theorem d_MD_at_43 : decode c_MD_at 43 = .ok (.iconst 0, 1) := by decide +kernel
theorem d_MD_at_44 : decode c_MD_at 44 = .ok (.ireturn, 1) := by decide +kernel
theorem d_MD_at_45 : decode c_MD_at 45 = .ok (.bipush 40, 2) := by decide +kernel
theorem d_MD_at_47 : decode c_MD_at 47 = .ok (.iload_n 2, 1) := by decide +kernel
theorem d_MD_at_48 : decode c_MD_at 48 = .ok (.imul, 1) := by decide +kernel
theorem d_MD_at_49 : decode c_MD_at 49 = .ok (.iload_n 1, 1) := by decide +kernel
theorem d_MD_at_50 : decode c_MD_at 50 = .ok (.iadd, 1) := by decide +kernel
theorem d_MD_at_51 : decode c_MD_at 51 = .ok (.istore 4, 2) := by decide +kernel
theorem d_MD_at_53 : decode c_MD_at 53 = .ok (.iload_n 3, 1) := by decide +kernel
theorem d_MD_at_54 : decode c_MD_at 54 = .ok (.ifCond .ne 11, 3) := by decide +kernel
theorem d_MD_at_57 : decode c_MD_at 57 = .ok (.aload_n 0, 1) := by decide +kernel
theorem d_MD_at_58 : decode c_MD_at 58 = .ok (.getfield 20, 3) := by decide +kernel
theorem d_MD_at_61 : decode c_MD_at 61 = .ok (.iload 4, 2) := by decide +kernel
theorem d_MD_at_63 : decode c_MD_at 63 = .ok (.iaload, 1) := by decide +kernel
theorem d_MD_at_64 : decode c_MD_at 64 = .ok (.ireturn, 1) := by decide +kernel
theorem d_MD_at_65 : decode c_MD_at 65 = .ok (.aload_n 0, 1) := by decide +kernel
theorem d_MD_at_66 : decode c_MD_at 66 = .ok (.getfield 20, 3) := by decide +kernel
theorem d_MD_at_69 : decode c_MD_at 69 = .ok (.iload 4, 2) := by decide +kernel
theorem d_MD_at_71 : decode c_MD_at 71 = .ok (.iaload, 1) := by decide +kernel
theorem d_MD_at_72 : decode c_MD_at 72 = .ok (.ifCond .ne 7, 3) := by decide +kernel
theorem d_MD_at_75 : decode c_MD_at 75 = .ok (.iconst (-1), 1) := by decide +kernel
theorem d_MD_at_76 : decode c_MD_at 76 = .ok (.goto 39, 3) := by decide +kernel
theorem d_MD_at_79 : decode c_MD_at 79 = .ok (.iload_n 3, 1) := by decide +kernel
theorem d_MD_at_80 : decode c_MD_at 80 = .ok (.iconst 1, 1) := by decide +kernel
theorem d_MD_at_81 : decode c_MD_at 81 = .ok (.if_icmp .ne 13, 3) := by decide +kernel
theorem d_MD_at_84 : decode c_MD_at 84 = .ok (.aload_n 0, 1) := by decide +kernel
theorem d_MD_at_85 : decode c_MD_at 85 = .ok (.getfield 23, 3) := by decide +kernel
theorem d_MD_at_88 : decode c_MD_at 88 = .ok (.iload 4, 2) := by decide +kernel
theorem d_MD_at_90 : decode c_MD_at 90 = .ok (.iaload, 1) := by decide +kernel
theorem d_MD_at_91 : decode c_MD_at 91 = .ok (.goto 24, 3) := by decide +kernel
theorem d_MD_at_94 : decode c_MD_at 94 = .ok (.iload_n 3, 1) := by decide +kernel
theorem d_MD_at_95 : decode c_MD_at 95 = .ok (.iconst 2, 1) := by decide +kernel
theorem d_MD_at_96 : decode c_MD_at 96 = .ok (.if_icmp .ne 12, 3) := by decide +kernel
theorem d_MD_at_99 : decode c_MD_at 99 = .ok (.aload_n 0, 1) := by decide +kernel
theorem d_MD_at_100 : decode c_MD_at 100 = .ok (.iload 4, 2) := by decide +kernel
theorem d_MD_at_102 : decode c_MD_at 102 = .ok (.invokevirtual 134, 3) := by decide +kernel
theorem d_MD_at_105 : decode c_MD_at 105 = .ok (.goto 10, 3) := by decide +kernel
theorem d_MD_at_108 : decode c_MD_at 108 = .ok (.aload_n 0, 1) := by decide +kernel
theorem d_MD_at_109 : decode c_MD_at 109 = .ok (.getfield 26, 3) := by decide +kernel
theorem d_MD_at_112 : decode c_MD_at 112 = .ok (.iload 4, 2) := by decide +kernel
theorem d_MD_at_114 : decode c_MD_at 114 = .ok (.iaload, 1) := by decide +kernel
theorem d_MD_at_115 : decode c_MD_at 115 = .ok (.ireturn, 1) := by decide +kernel
theorem d_MD_counter_0 : decode c_MD_counter 0 = .ok (.iload_n 1, 1) := by decide +kernel
theorem d_MD_counter_1 : decode c_MD_counter 1 = .ok (.iconst 1, 1) := by decide +kernel
theorem d_MD_counter_2 : decode c_MD_counter 2 = .ok (.bipush 20, 2) := by decide +kernel
theorem d_MD_counter_4 : decode c_MD_counter 4 = .ok (.invokestatic 59, 3) := by decide +kernel
theorem d_MD_counter_7 : decode c_MD_counter 7 = .ok (.ifCond .eq 28, 3) := by decide +kernel
theorem d_MD_counter_10 : decode c_MD_counter 10 = .ok (.iload_n 3, 1) := by decide +kernel
theorem d_MD_counter_11 : decode c_MD_counter 11 = .ok (.iconst 1, 1) := by decide +kernel
theorem d_MD_counter_12 : decode c_MD_counter 12 = .ok (.bipush 40, 2) := by decide +kernel
theorem d_MD_counter_14 : decode c_MD_counter 14 = .ok (.invokestatic 59, 3) := by decide +kernel
theorem d_MD_counter_17 : decode c_MD_counter 17 = .ok (.ifCond .eq 18, 3) := by decide +kernel
theorem d_MD_counter_20 : decode c_MD_counter 20 = .ok (.iload_n 2, 1) := by decide +kernel
theorem d_MD_counter_21 : decode c_MD_counter 21 = .ok (.ifCond .lt 14, 3) := by decide +kernel
theorem d_MD_counter_24 : decode c_MD_counter 24 = .ok (.iload_n 2, 1) := by decide +kernel
theorem d_MD_counter_25 : decode c_MD_counter 25 = .ok (.iconst 1, 1) := by decide +kernel
theorem d_MD_counter_26 : decode c_MD_counter 26 = .ok (.iload_n 1, 1) := by decide +kernel
theorem d_MD_counter_27 : decode c_MD_counter 27 = .ok (.ishl, 1) := by decide +kernel
theorem d_MD_counter_28 : decode c_MD_counter 28 = .ok (.if_icmp .ge 7, 3) := by decide +kernel
theorem d_MD_counter_31 : decode c_MD_counter 31 = .ok (.iconst 1, 1) := by decide +kernel
theorem d_MD_counter_32 : decode c_MD_counter 32 = .ok (.goto 4, 3) := by decide +kernel
theorem d_MD_counter_35 : decode c_MD_counter 35 = .ok (.iconst 0, 1) := by decide +kernel
theorem d_MD_counter_36 : decode c_MD_counter 36 = .ok (.istore 4, 2) := by decide +kernel
theorem d_MD_counter_38 : decode c_MD_counter 38 = .ok (.aload_n 0, 1) := by decide +kernel
theorem d_MD_counter_39 : decode c_MD_counter 39 = .ok (.aload_n 0, 1) := by decide +kernel
theorem d_MD_counter_40 : decode c_MD_counter 40 = .ok (.getfield 98, 3) := by decide +kernel
theorem d_MD_counter_43 : decode c_MD_counter 43 = .ok (.ifCond .le 7, 3) := by decide +kernel
theorem d_MD_counter_46 : decode c_MD_counter 46 = .ok (.iconst 1, 1) := by decide +kernel
theorem d_MD_counter_47 : decode c_MD_counter 47 = .ok (.goto 4, 3) := by decide +kernel
theorem d_MD_counter_50 : decode c_MD_counter 50 = .ok (.iconst 0, 1) := by decide +kernel
theorem d_MD_counter_51 : decode c_MD_counter 51 = .ok (.iconst 1, 1) := by decide +kernel
theorem d_MD_counter_52 : decode c_MD_counter 52 = .ok (.invokevirtual 105, 3) := by decide +kernel
theorem d_MD_counter_55 : decode c_MD_counter 55 = .ok (.ifCond .ne 21, 3) := by decide +kernel
theorem d_MD_counter_58 : decode c_MD_counter 58 = .ok (.aload_n 0, 1) := by decide +kernel
theorem d_MD_counter_59 : decode c_MD_counter 59 = .ok (.iload 4, 2) := by decide +kernel
theorem d_MD_counter_61 : decode c_MD_counter 61 = .ok (.ifCond .ne 7, 3) := by decide +kernel
theorem d_MD_counter_64 : decode c_MD_counter 64 = .ok (.iconst 1, 1) := by decide +kernel
theorem d_MD_counter_65 : decode c_MD_counter 65 = .ok (.goto 4, 3) := by decide +kernel
theorem d_MD_counter_68 : decode c_MD_counter 68 = .ok (.iconst 0, 1) := by decide +kernel
theorem d_MD_counter_69 : decode c_MD_counter 69 = .ok (.iconst 2, 1) := by decide +kernel
theorem d_MD_counter_70 : decode c_MD_counter 70 = .ok (.invokevirtual 105, 3) := by decide +kernel
theorem d_MD_counter_73 : decode c_MD_counter 73 = .ok (.ifCond .eq 5, 3) := by decide +kernel
theorem d_MD_counter_76 : decode c_MD_counter 76 = .ok (.iconst 0, 1) := by decide +kernel
theorem d_MD_counter_77 : decode c_MD_counter 77 = .ok (.ireturn, 1) := by decide +kernel
theorem d_MD_counter_78 : decode c_MD_counter 78 = .ok (.aload_n 0, 1) := by decide +kernel
theorem d_MD_counter_79 : decode c_MD_counter 79 = .ok (.invokevirtual 158, 3) := by decide +kernel
theorem d_MD_counter_82 : decode c_MD_counter 82 = .ok (.aload_n 0, 1) := by decide +kernel
theorem d_MD_counter_83 : decode c_MD_counter 83 = .ok (.iconst 0, 1) := by decide +kernel
theorem d_MD_counter_84 : decode c_MD_counter 84 = .ok (.iconst 0, 1) := by decide +kernel
theorem d_MD_counter_85 : decode c_MD_counter 85 = .ok (.iconst 0, 1) := by decide +kernel
theorem d_MD_counter_86 : decode c_MD_counter 86 = .ok (.iconst 4, 1) := by decide +kernel
theorem d_MD_counter_87 : decode c_MD_counter 87 = .ok (.invokevirtual 109, 3) := by decide +kernel
theorem d_MD_counter_90 : decode c_MD_counter 90 = .ok (.pop, 1) := by decide +kernel
theorem d_MD_counter_91 : decode c_MD_counter 91 = .ok (.iconst 0, 1) := by decide +kernel
theorem d_MD_counter_92 : decode c_MD_counter 92 = .ok (.istore 5, 2) := by decide +kernel
theorem d_MD_counter_94 : decode c_MD_counter 94 = .ok (.iload 5, 2) := by decide +kernel
theorem d_MD_counter_96 : decode c_MD_counter 96 = .ok (.iconst 2, 1) := by decide +kernel
theorem d_MD_counter_97 : decode c_MD_counter 97 = .ok (.if_icmp .ge 53, 3) := by decide +kernel
theorem d_MD_counter_100 : decode c_MD_counter 100 = .ok (.iconst 0, 1) := by decide +kernel
theorem d_MD_counter_101 : decode c_MD_counter 101 = .ok (.istore 6, 2) := by decide +kernel
theorem d_MD_counter_103 : decode c_MD_counter 103 = .ok (.iload 6, 2) := by decide +kernel
theorem d_MD_counter_105 : decode c_MD_counter 105 = .ok (.iconst 2, 1) := by decide +kernel
theorem d_MD_counter_106 : decode c_MD_counter 106 = .ok (.if_icmp .ge 38, 3) := by decide +kernel
theorem d_MD_counter_109 : decode c_MD_counter 109 = .ok (.aload_n 0, 1) := by decide +kernel
theorem d_MD_counter_110 : decode c_MD_counter 110 = .ok (.iconst 1, 1) := by decide +kernel
theorem d_MD_counter_111 : decode c_MD_counter 111 = .ok (.iload 5, 2) := by decide +kernel
theorem d_MD_counter_113 : decode c_MD_counter 113 = .ok (.iload 6, 2) := by decide +kernel
theorem d_MD_counter_115 : decode c_MD_counter 115 = .ok (.iadd, 1) := by decide +kernel
theorem d_MD_counter_116 : decode c_MD_counter 116 = .ok (.iconst 2, 1) := by decide +kernel
theorem d_MD_counter_117 : decode c_MD_counter 117 = .ok (.irem, 1) := by decide +kernel
theorem d_MD_counter_118 : decode c_MD_counter 118 = .ok (.iadd, 1) := by decide +kernel
theorem d_MD_counter_119 : decode c_MD_counter 119 = .ok (.iconst 3, 1) := by decide +kernel
theorem d_MD_counter_120 : decode c_MD_counter 120 = .ok (.iload 6, 2) := by decide +kernel
theorem d_MD_counter_122 : decode c_MD_counter 122 = .ok (.iadd, 1) := by decide +kernel
theorem d_MD_counter_123 : decode c_MD_counter 123 = .ok (.iconst 1, 1) := by decide +kernel
theorem d_MD_counter_124 : decode c_MD_counter 124 = .ok (.iload 5, 2) := by decide +kernel
theorem d_MD_counter_126 : decode c_MD_counter 126 = .ok (.iadd, 1) := by decide +kernel
theorem d_MD_counter_127 : decode c_MD_counter 127 = .ok (.iconst 3, 1) := by decide +kernel
theorem d_MD_counter_128 : decode c_MD_counter 128 = .ok (.iload 5, 2) := by decide +kernel
theorem d_MD_counter_130 : decode c_MD_counter 130 = .ok (.iload 6, 2) := by decide +kernel
theorem d_MD_counter_132 : decode c_MD_counter 132 = .ok (.imul, 1) := by decide +kernel
theorem d_MD_counter_133 : decode c_MD_counter 133 = .ok (.iadd, 1) := by decide +kernel
theorem d_MD_counter_134 : decode c_MD_counter 134 = .ok (.invokevirtual 109, 3) := by decide +kernel
theorem d_MD_counter_137 : decode c_MD_counter 137 = .ok (.pop, 1) := by decide +kernel
theorem d_MD_counter_138 : decode c_MD_counter 138 = .ok (.iinc 6 1, 3) := by decide +kernel
theorem d_MD_counter_141 : decode c_MD_counter 141 = .ok (.goto (-38), 3) := by decide +kernel
theorem d_MD_counter_144 : decode c_MD_counter 144 = .ok (.iinc 5 1, 3) := by decide +kernel
theorem d_MD_counter_147 : decode c_MD_counter 147 = .ok (.goto (-53), 3) := by decide +kernel
theorem d_MD_counter_150 : decode c_MD_counter 150 = .ok (.iconst 0, 1) := by decide +kernel
theorem d_MD_counter_151 : decode c_MD_counter 151 = .ok (.istore 5, 2) := by decide +kernel
theorem d_MD_counter_153 : decode c_MD_counter 153 = .ok (.iload 5, 2) := by decide +kernel
theorem d_MD_counter_155 : decode c_MD_counter 155 = .ok (.iload_n 1, 1) := by decide +kernel
theorem d_MD_counter_156 : decode c_MD_counter 156 = .ok (.if_icmp .ge 28, 3) := by decide +kernel
theorem d_MD_counter_159 : decode c_MD_counter 159 = .ok (.aload_n 0, 1) := by decide +kernel
theorem d_MD_counter_160 : decode c_MD_counter 160 = .ok (.iload_n 1, 1) := by decide +kernel
theorem d_MD_counter_161 : decode c_MD_counter 161 = .ok (.iconst 1, 1) := by decide +kernel
theorem d_MD_counter_162 : decode c_MD_counter 162 = .ok (.isub, 1) := by decide +kernel
theorem d_MD_counter_163 : decode c_MD_counter 163 = .ok (.iload 5, 2) := by decide +kernel
theorem d_MD_counter_165 : decode c_MD_counter 165 = .ok (.isub, 1) := by decide +kernel
theorem d_MD_counter_166 : decode c_MD_counter 166 = .ok (.iconst 0, 1) := by decide +kernel
theorem d_MD_counter_167 : decode c_MD_counter 167 = .ok (.iconst 1, 1) := by decide +kernel
theorem d_MD_counter_168 : decode c_MD_counter 168 = .ok (.iload_n 2, 1) := by decide +kernel
theorem d_MD_counter_169 : decode c_MD_counter 169 = .ok (.iload 5, 2) := by decide +kernel
theorem d_MD_counter_171 : decode c_MD_counter 171 = .ok (.ishr, 1) := by decide +kernel
theorem d_MD_counter_172 : decode c_MD_counter 172 = .ok (.iconst 1, 1) := by decide +kernel
theorem d_MD_counter_173 : decode c_MD_counter 173 = .ok (.iand, 1) := by decide +kernel
theorem d_MD_counter_174 : decode c_MD_counter 174 = .ok (.iadd, 1) := by decide +kernel
theorem d_MD_counter_175 : decode c_MD_counter 175 = .ok (.invokevirtual 117, 3) := by decide +kernel
theorem d_MD_counter_178 : decode c_MD_counter 178 = .ok (.iinc 5 1, 3) := by decide +kernel
theorem d_MD_counter_181 : decode c_MD_counter 181 = .ok (.goto (-28), 3) := by decide +kernel
theorem d_MD_counter_184 : decode c_MD_counter 184 = .ok (.iconst 1, 1) := by decide +kernel
theorem d_MD_counter_185 : decode c_MD_counter 185 = .ok (.istore 5, 2) := by decide +kernel
theorem d_MD_counter_187 : decode c_MD_counter 187 = .ok (.iload 5, 2) := by decide +kernel
theorem d_MD_counter_189 : decode c_MD_counter 189 = .ok (.iload_n 3, 1) := by decide +kernel
theorem d_MD_counter_190 : decode c_MD_counter 190 = .ok (.if_icmp .ge 17, 3) := by decide +kernel
theorem d_MD_counter_193 : decode c_MD_counter 193 = .ok (.aload_n 0, 1) := by decide +kernel
theorem d_MD_counter_194 : decode c_MD_counter 194 = .ok (.iload_n 1, 1) := by decide +kernel
theorem d_MD_counter_195 : decode c_MD_counter 195 = .ok (.iload 5, 2) := by decide +kernel
theorem d_MD_counter_197 : decode c_MD_counter 197 = .ok (.iconst 3, 1) := by decide +kernel
theorem d_MD_counter_198 : decode c_MD_counter 198 = .ok (.invokevirtual 117, 3) := by decide +kernel
theorem d_MD_counter_201 : decode c_MD_counter 201 = .ok (.iinc 5 1, 3) := by decide +kernel
theorem d_MD_counter_204 : decode c_MD_counter 204 = .ok (.goto (-17), 3) := by decide +kernel
theorem d_MD_counter_207 : decode c_MD_counter 207 = .ok (.aload_n 0, 1) := by decide +kernel
theorem d_MD_counter_208 : decode c_MD_counter 208 = .ok (.getfield 63, 3) := by decide +kernel
theorem d_MD_counter_211 : decode c_MD_counter 211 = .ok (.ireturn, 1) := by decide +kernel
theorem d_MD_begin_0 : decode c_MD_begin 0 = .ok (.aload_n 0, 1) := by decide +kernel
theorem d_MD_begin_1 : decode c_MD_begin 1 = .ok (.iconst 0, 1) := by decide +kernel
theorem d_MD_begin_2 : decode c_MD_begin 2 = .ok (.putfield 63, 3) := by decide +kernel
theorem d_MD_begin_5 : decode c_MD_begin 5 = .ok (.iconst 0, 1) := by decide +kernel
theorem d_MD_begin_6 : decode c_MD_begin 6 = .ok (.istore_n 1, 1) := by decide +kernel
theorem d_MD_begin_7 : decode c_MD_begin 7 = .ok (.iload_n 1, 1) := by decide +kernel
theorem d_MD_begin_8 : decode c_MD_begin 8 = .ok (.bipush 100, 2) := by decide +kernel
theorem d_MD_begin_10 : decode c_MD_begin 10 = .ok (.if_icmp .ge 29, 3) := by decide +kernel
theorem d_MD_begin_13 : decode c_MD_begin 13 = .ok (.aload_n 0, 1) := by decide +kernel
theorem d_MD_begin_14 : decode c_MD_begin 14 = .ok (.getfield 7, 3) := by decide +kernel
theorem d_MD_begin_17 : decode c_MD_begin 17 = .ok (.iload_n 1, 1) := by decide +kernel
theorem d_MD_begin_18 : decode c_MD_begin 18 = .ok (.iload_n 1, 1) := by decide +kernel
theorem d_MD_begin_19 : decode c_MD_begin 19 = .ok (.iconst 1, 1) := by decide +kernel
theorem d_MD_begin_20 : decode c_MD_begin 20 = .ok (.iconst 4, 1) := by decide +kernel
theorem d_MD_begin_21 : decode c_MD_begin 21 = .ok (.invokestatic 59, 3) := by decide +kernel
theorem d_MD_begin_24 : decode c_MD_begin 24 = .ok (.ifCond .eq 7, 3) := by decide +kernel
theorem d_MD_begin_27 : decode c_MD_begin 27 = .ok (.iconst 1, 1) := by decide +kernel
theorem d_MD_begin_28 : decode c_MD_begin 28 = .ok (.goto 4, 3) := by decide +kernel
theorem d_MD_begin_31 : decode c_MD_begin 31 = .ok (.iconst 0, 1) := by decide +kernel
theorem d_MD_begin_32 : decode c_MD_begin 32 = .ok (.iastore, 1) := by decide +kernel
theorem d_MD_begin_33 : decode c_MD_begin 33 = .ok (.iinc 1 1, 3) := by decide +kernel
theorem d_MD_begin_36 : decode c_MD_begin 36 = .ok (.goto (-29), 3) := by decide +kernel
theorem d_MD_begin_39 : decode c_MD_begin 39 = .ok (.aload_n 0, 1) := by decide +kernel
theorem d_MD_begin_40 : decode c_MD_begin 40 = .ok (.iconst 2, 1) := by decide +kernel
theorem d_MD_begin_41 : decode c_MD_begin 41 = .ok (.putfield 16, 3) := by decide +kernel
theorem d_MD_begin_44 : decode c_MD_begin 44 = .ok (.aload_n 0, 1) := by decide +kernel
theorem d_MD_begin_45 : decode c_MD_begin 45 = .ok (.iconst 1, 1) := by decide +kernel
theorem d_MD_begin_46 : decode c_MD_begin 46 = .ok (.iconst 0, 1) := by decide +kernel
theorem d_MD_begin_47 : decode c_MD_begin 47 = .ok (.iconst 0, 1) := by decide +kernel
theorem d_MD_begin_48 : decode c_MD_begin 48 = .ok (.iconst 0, 1) := by decide +kernel
theorem d_MD_begin_49 : decode c_MD_begin 49 = .ok (.invokevirtual 109, 3) := by decide +kernel
theorem d_MD_begin_52 : decode c_MD_begin 52 = .ok (.pop, 1) := by decide +kernel
theorem d_MD_begin_53 : decode c_MD_begin 53 = .ok (.aload_n 0, 1) := by decide +kernel
theorem d_MD_begin_54 : decode c_MD_begin 54 = .ok (.iconst 2, 1) := by decide +kernel
theorem d_MD_begin_55 : decode c_MD_begin 55 = .ok (.iconst 0, 1) := by decide +kernel
theorem d_MD_begin_56 : decode c_MD_begin 56 = .ok (.iconst 0, 1) := by decide +kernel
theorem d_MD_begin_57 : decode c_MD_begin 57 = .ok (.iconst 0, 1) := by decide +kernel
theorem d_MD_begin_58 : decode c_MD_begin 58 = .ok (.invokevirtual 109, 3) := by decide +kernel
theorem d_MD_begin_61 : decode c_MD_begin 61 = .ok (.pop, 1) := by decide +kernel
theorem d_MD_begin_62 : decode c_MD_begin 62 = .ok (.return_, 1) := by decide +kernel
theorem d_MD_rule_0 : decode c_MD_rule 0 = .ok (.iload_n 1, 1) := by decide +kernel
theorem d_MD_rule_1 : decode c_MD_rule 1 = .ok (.iconst 1, 1) := by decide +kernel
theorem d_MD_rule_2 : decode c_MD_rule 2 = .ok (.bipush 30, 2) := by decide +kernel
theorem d_MD_rule_4 : decode c_MD_rule 4 = .ok (.invokestatic 59, 3) := by decide +kernel
theorem d_MD_rule_7 : decode c_MD_rule 7 = .ok (.ifCond .eq 40, 3) := by decide +kernel
theorem d_MD_rule_10 : decode c_MD_rule 10 = .ok (.iload_n 2, 1) := by decide +kernel
theorem d_MD_rule_11 : decode c_MD_rule 11 = .ok (.iconst 0, 1) := by decide +kernel
theorem d_MD_rule_12 : decode c_MD_rule 12 = .ok (.bipush 15, 2) := by decide +kernel
theorem d_MD_rule_14 : decode c_MD_rule 14 = .ok (.invokestatic 59, 3) := by decide +kernel
theorem d_MD_rule_17 : decode c_MD_rule 17 = .ok (.ifCond .eq 30, 3) := by decide +kernel
theorem d_MD_rule_20 : decode c_MD_rule 20 = .ok (.iload_n 3, 1) := by decide +kernel
theorem d_MD_rule_21 : decode c_MD_rule 21 = .ok (.iconst 1, 1) := by decide +kernel
theorem d_MD_rule_22 : decode c_MD_rule 22 = .ok (.bipush 40, 2) := by decide +kernel
theorem d_MD_rule_24 : decode c_MD_rule 24 = .ok (.invokestatic 59, 3) := by decide +kernel
theorem d_MD_rule_27 : decode c_MD_rule 27 = .ok (.ifCond .eq 20, 3) := by decide +kernel
theorem d_MD_rule_30 : decode c_MD_rule 30 = .ok (.iload 4, 2) := by decide +kernel
theorem d_MD_rule_32 : decode c_MD_rule 32 = .ok (.ifCond .lt 15, 3) := by decide +kernel
theorem d_MD_rule_35 : decode c_MD_rule 35 = .ok (.iload 4, 2) := by decide +kernel
theorem d_MD_rule_37 : decode c_MD_rule 37 = .ok (.iconst 1, 1) := by decide +kernel
theorem d_MD_rule_38 : decode c_MD_rule 38 = .ok (.iload_n 1, 1) := by decide +kernel
theorem d_MD_rule_39 : decode c_MD_rule 39 = .ok (.ishl, 1) := by decide +kernel
theorem d_MD_rule_40 : decode c_MD_rule 40 = .ok (.if_icmp .ge 7, 3) := by decide +kernel
theorem d_MD_rule_43 : decode c_MD_rule 43 = .ok (.iconst 1, 1) := by decide +kernel
theorem d_MD_rule_44 : decode c_MD_rule 44 = .ok (.goto 4, 3) := by decide +kernel
theorem d_MD_rule_47 : decode c_MD_rule 47 = .ok (.iconst 0, 1) := by decide +kernel
theorem d_MD_rule_48 : decode c_MD_rule 48 = .ok (.istore 5, 2) := by decide +kernel
theorem d_MD_rule_50 : decode c_MD_rule 50 = .ok (.aload_n 0, 1) := by decide +kernel
theorem d_MD_rule_51 : decode c_MD_rule 51 = .ok (.aload_n 0, 1) := by decide +kernel
theorem d_MD_rule_52 : decode c_MD_rule 52 = .ok (.getfield 98, 3) := by decide +kernel
theorem d_MD_rule_55 : decode c_MD_rule 55 = .ok (.ifCond .le 7, 3) := by decide +kernel
theorem d_MD_rule_58 : decode c_MD_rule 58 = .ok (.iconst 1, 1) := by decide +kernel
theorem d_MD_rule_59 : decode c_MD_rule 59 = .ok (.goto 4, 3) := by decide +kernel
theorem d_MD_rule_62 : decode c_MD_rule 62 = .ok (.iconst 0, 1) := by decide +kernel
theorem d_MD_rule_63 : decode c_MD_rule 63 = .ok (.iconst 1, 1) := by decide +kernel
theorem d_MD_rule_64 : decode c_MD_rule 64 = .ok (.invokevirtual 105, 3) := by decide +kernel
theorem d_MD_rule_67 : decode c_MD_rule 67 = .ok (.ifCond .ne 21, 3) := by decide +kernel
theorem d_MD_rule_70 : decode c_MD_rule 70 = .ok (.aload_n 0, 1) := by decide +kernel
theorem d_MD_rule_71 : decode c_MD_rule 71 = .ok (.iload 5, 2) := by decide +kernel
theorem d_MD_rule_73 : decode c_MD_rule 73 = .ok (.ifCond .ne 7, 3) := by decide +kernel
theorem d_MD_rule_76 : decode c_MD_rule 76 = .ok (.iconst 1, 1) := by decide +kernel
theorem d_MD_rule_77 : decode c_MD_rule 77 = .ok (.goto 4, 3) := by decide +kernel
theorem d_MD_rule_80 : decode c_MD_rule 80 = .ok (.iconst 0, 1) := by decide +kernel
theorem d_MD_rule_81 : decode c_MD_rule 81 = .ok (.iconst 2, 1) := by decide +kernel
theorem d_MD_rule_82 : decode c_MD_rule 82 = .ok (.invokevirtual 105, 3) := by decide +kernel
theorem d_MD_rule_85 : decode c_MD_rule 85 = .ok (.ifCond .eq 5, 3) := by decide +kernel
theorem d_MD_rule_88 : decode c_MD_rule 88 = .ok (.iconst 0, 1) := by decide +kernel
theorem d_MD_rule_89 : decode c_MD_rule 89 = .ok (.ireturn, 1) := by decide +kernel
theorem d_MD_rule_90 : decode c_MD_rule 90 = .ok (.aload_n 0, 1) := by decide +kernel
theorem d_MD_rule_91 : decode c_MD_rule 91 = .ok (.invokevirtual 158, 3) := by decide +kernel
theorem d_MD_rule_94 : decode c_MD_rule 94 = .ok (.aload_n 0, 1) := by decide +kernel
theorem d_MD_rule_95 : decode c_MD_rule 95 = .ok (.iconst 0, 1) := by decide +kernel
theorem d_MD_rule_96 : decode c_MD_rule 96 = .ok (.iconst 3, 1) := by decide +kernel
theorem d_MD_rule_97 : decode c_MD_rule 97 = .ok (.iconst 0, 1) := by decide +kernel
theorem d_MD_rule_98 : decode c_MD_rule 98 = .ok (.iconst 0, 1) := by decide +kernel
theorem d_MD_rule_99 : decode c_MD_rule 99 = .ok (.invokevirtual 109, 3) := by decide +kernel
theorem d_MD_rule_102 : decode c_MD_rule 102 = .ok (.pop, 1) := by decide +kernel
theorem d_MD_rule_103 : decode c_MD_rule 103 = .ok (.iconst 0, 1) := by decide +kernel
theorem d_MD_rule_104 : decode c_MD_rule 104 = .ok (.istore 6, 2) := by decide +kernel
theorem d_MD_rule_106 : decode c_MD_rule 106 = .ok (.iload 6, 2) := by decide +kernel
theorem d_MD_rule_108 : decode c_MD_rule 108 = .ok (.iconst 2, 1) := by decide +kernel
theorem d_MD_rule_109 : decode c_MD_rule 109 = .ok (.if_icmp .ge 54, 3) := by decide +kernel
theorem d_MD_rule_112 : decode c_MD_rule 112 = .ok (.iconst 0, 1) := by decide +kernel
theorem d_MD_rule_113 : decode c_MD_rule 113 = .ok (.istore 7, 2) := by decide +kernel
theorem d_MD_rule_115 : decode c_MD_rule 115 = .ok (.iload 7, 2) := by decide +kernel
theorem d_MD_rule_117 : decode c_MD_rule 117 = .ok (.iconst 2, 1) := by decide +kernel
theorem d_MD_rule_118 : decode c_MD_rule 118 = .ok (.if_icmp .ge 39, 3) := by decide +kernel
theorem d_MD_rule_121 : decode c_MD_rule 121 = .ok (.aload_n 0, 1) := by decide +kernel
theorem d_MD_rule_122 : decode c_MD_rule 122 = .ok (.iconst 1, 1) := by decide +kernel
theorem d_MD_rule_123 : decode c_MD_rule 123 = .ok (.iload_n 2, 1) := by decide +kernel
theorem d_MD_rule_124 : decode c_MD_rule 124 = .ok (.iconst 2, 1) := by decide +kernel
theorem d_MD_rule_125 : decode c_MD_rule 125 = .ok (.iload 6, 2) := by decide +kernel
theorem d_MD_rule_127 : decode c_MD_rule 127 = .ok (.imul, 1) := by decide +kernel
theorem d_MD_rule_128 : decode c_MD_rule 128 = .ok (.iload 7, 2) := by decide +kernel
theorem d_MD_rule_130 : decode c_MD_rule 130 = .ok (.iadd, 1) := by decide +kernel
theorem d_MD_rule_131 : decode c_MD_rule 131 = .ok (.ishr, 1) := by decide +kernel
theorem d_MD_rule_132 : decode c_MD_rule 132 = .ok (.iconst 1, 1) := by decide +kernel
theorem d_MD_rule_133 : decode c_MD_rule 133 = .ok (.iand, 1) := by decide +kernel
theorem d_MD_rule_134 : decode c_MD_rule 134 = .ok (.iadd, 1) := by decide +kernel
theorem d_MD_rule_135 : decode c_MD_rule 135 = .ok (.iconst 3, 1) := by decide +kernel
theorem d_MD_rule_136 : decode c_MD_rule 136 = .ok (.iload 7, 2) := by decide +kernel
theorem d_MD_rule_138 : decode c_MD_rule 138 = .ok (.iadd, 1) := by decide +kernel
theorem d_MD_rule_139 : decode c_MD_rule 139 = .ok (.iconst 1, 1) := by decide +kernel
theorem d_MD_rule_140 : decode c_MD_rule 140 = .ok (.iload 7, 2) := by decide +kernel
theorem d_MD_rule_142 : decode c_MD_rule 142 = .ok (.iadd, 1) := by decide +kernel
theorem d_MD_rule_143 : decode c_MD_rule 143 = .ok (.iconst 3, 1) := by decide +kernel
theorem d_MD_rule_144 : decode c_MD_rule 144 = .ok (.iload 6, 2) := by decide +kernel
theorem d_MD_rule_146 : decode c_MD_rule 146 = .ok (.iadd, 1) := by decide +kernel
theorem d_MD_rule_147 : decode c_MD_rule 147 = .ok (.invokevirtual 109, 3) := by decide +kernel
theorem d_MD_rule_150 : decode c_MD_rule 150 = .ok (.pop, 1) := by decide +kernel
theorem d_MD_rule_151 : decode c_MD_rule 151 = .ok (.iinc 7 1, 3) := by decide +kernel
theorem d_MD_rule_154 : decode c_MD_rule 154 = .ok (.goto (-39), 3) := by decide +kernel
theorem d_MD_rule_157 : decode c_MD_rule 157 = .ok (.iinc 6 1, 3) := by decide +kernel
theorem d_MD_rule_160 : decode c_MD_rule 160 = .ok (.goto (-54), 3) := by decide +kernel
theorem d_MD_rule_163 : decode c_MD_rule 163 = .ok (.iconst 0, 1) := by decide +kernel
theorem d_MD_rule_164 : decode c_MD_rule 164 = .ok (.istore 6, 2) := by decide +kernel
theorem d_MD_rule_166 : decode c_MD_rule 166 = .ok (.iload 6, 2) := by decide +kernel
theorem d_MD_rule_168 : decode c_MD_rule 168 = .ok (.iload_n 1, 1) := by decide +kernel
theorem d_MD_rule_169 : decode c_MD_rule 169 = .ok (.if_icmp .ge 27, 3) := by decide +kernel
theorem d_MD_rule_172 : decode c_MD_rule 172 = .ok (.aload_n 0, 1) := by decide +kernel
theorem d_MD_rule_173 : decode c_MD_rule 173 = .ok (.iload 6, 2) := by decide +kernel
theorem d_MD_rule_175 : decode c_MD_rule 175 = .ok (.iconst 1, 1) := by decide +kernel
theorem d_MD_rule_176 : decode c_MD_rule 176 = .ok (.iadd, 1) := by decide +kernel
theorem d_MD_rule_177 : decode c_MD_rule 177 = .ok (.iconst 0, 1) := by decide +kernel
theorem d_MD_rule_178 : decode c_MD_rule 178 = .ok (.iconst 1, 1) := by decide +kernel
theorem d_MD_rule_179 : decode c_MD_rule 179 = .ok (.iload 4, 2) := by decide +kernel
theorem d_MD_rule_181 : decode c_MD_rule 181 = .ok (.iload 6, 2) := by decide +kernel
theorem d_MD_rule_183 : decode c_MD_rule 183 = .ok (.ishr, 1) := by decide +kernel
theorem d_MD_rule_184 : decode c_MD_rule 184 = .ok (.iconst 1, 1) := by decide +kernel
theorem d_MD_rule_185 : decode c_MD_rule 185 = .ok (.iand, 1) := by decide +kernel
theorem d_MD_rule_186 : decode c_MD_rule 186 = .ok (.iadd, 1) := by decide +kernel
theorem d_MD_rule_187 : decode c_MD_rule 187 = .ok (.invokevirtual 117, 3) := by decide +kernel
theorem d_MD_rule_190 : decode c_MD_rule 190 = .ok (.iinc 6 1, 3) := by decide +kernel
theorem d_MD_rule_193 : decode c_MD_rule 193 = .ok (.goto (-27), 3) := by decide +kernel
theorem d_MD_rule_196 : decode c_MD_rule 196 = .ok (.iconst 1, 1) := by decide +kernel
theorem d_MD_rule_197 : decode c_MD_rule 197 = .ok (.istore 6, 2) := by decide +kernel
theorem d_MD_rule_199 : decode c_MD_rule 199 = .ok (.iload 6, 2) := by decide +kernel
theorem d_MD_rule_201 : decode c_MD_rule 201 = .ok (.iload_n 3, 1) := by decide +kernel
theorem d_MD_rule_202 : decode c_MD_rule 202 = .ok (.if_icmp .ge 17, 3) := by decide +kernel
theorem d_MD_rule_205 : decode c_MD_rule 205 = .ok (.aload_n 0, 1) := by decide +kernel
theorem d_MD_rule_206 : decode c_MD_rule 206 = .ok (.iconst 0, 1) := by decide +kernel
theorem d_MD_rule_207 : decode c_MD_rule 207 = .ok (.iload 6, 2) := by decide +kernel
theorem d_MD_rule_209 : decode c_MD_rule 209 = .ok (.iconst 3, 1) := by decide +kernel
theorem d_MD_rule_210 : decode c_MD_rule 210 = .ok (.invokevirtual 117, 3) := by decide +kernel
theorem d_MD_rule_213 : decode c_MD_rule 213 = .ok (.iinc 6 1, 3) := by decide +kernel
theorem d_MD_rule_216 : decode c_MD_rule 216 = .ok (.goto (-17), 3) := by decide +kernel
theorem d_MD_rule_219 : decode c_MD_rule 219 = .ok (.aload_n 0, 1) := by decide +kernel
theorem d_MD_rule_220 : decode c_MD_rule 220 = .ok (.getfield 63, 3) := by decide +kernel
theorem d_MD_rule_223 : decode c_MD_rule 223 = .ok (.ireturn, 1) := by decide +kernel
def atW (fi ip se : Nat → Int32) (p : Nat) (z : Int32) : Int32 := if z = 0 then fi p else if fi p = 0 then -1 else if z = nI 1 then ip p else if z = nI 2 then ouL fi ip p 4 else se p
def atM (fi ip se : Nat → Int32) (x y z : Int32) : Int32 × Int32 := if isP x y = 0 then (nI 0, nI 1) else if wiN z (nI 0) (nI 3) = 0 then (nI 0, nI 2) else (atW fi ip se (40 * nn y + nn x) z, nI 0)
def bmL (sg : Nat → Int32) (i : Nat) : Nat → Int32 := fun k => if k < i then (if wiN (nI k) (nI 1) (nI 4) = 0 then nI 0 else nI 1) else sg k
theorem bmL_zero (sg : Nat → Int32) : bmL sg 0 = sg := by
  funext k
  unfold bmL
  rw [if_neg (by omega)]
theorem bmL_succ {sg : Nat → Int32} {i : Nat} {v : Int32} (h : v = if wiN (nI i) (nI 1) (nI 4) = 0 then nI 0 else nI 1) : upd (bmL sg i) i v = bmL sg (i + 1) := by
  funext k
  unfold upd bmL
  by_cases e : k = i
  · subst e
    rw [if_pos rfl, if_pos (by omega), h]
  · rw [if_neg e]
    by_cases c : k < i
    · rw [if_pos c, if_pos (show k < i + 1 by omega)]
    · rw [if_neg c, if_neg (show ¬ k < i + 1 by omega)]
abbrev PS : Type := (Nat → Int32) × (Nat → Int32) × (Nat → Int32) × Int32
def mpP (p : Nat) (x : Int32) (z : PS) : PS := (upd z.1 p x, upd z.2.1 p (nI 0), upd z.2.2.1 p (nI 1), z.2.2.2 + nI 1)
def mrL (f : Nat → Nat) (y : Int32) (z : PS) : Nat → PS
  | 0 => z
  | i + 1 => mpP (40 * 0 + f i) (nI (1 + btN y i)) (mrL f y z i)
def mkL (a : Nat) (z : PS) : Nat → PS
  | 0 => z
  | j + 1 => mpP (40 * (j + 1) + a) (nI 3) (mkL a z j)
def bgG (gl : Nat → Int32) : Nat → Int32 := agS (agS gl 1 (nI 1) (nI 0) (nI 0) (nI 0)) 2 (nI 2) (nI 0) (nI 0) (nI 0)
def ctG (gl : Nat → Int32) : Nat → Int32 := agS (agS (agS (agS (agS (bgG gl) 3 (nI 0) (nI 0) (nI 0) (nI 4)) 4 (nI 1) (nI 3) (nI 1) (nI 3)) 5 (nI 2) (nI 4) (nI 1) (nI 3)) 6 (nI 2) (nI 3) (nI 2) (nI 3)) 7 (nI 1) (nI 4) (nI 2) (nI 4)
def ruG (gl : Nat → Int32) (r : Int32) : Nat → Int32 := agS (agS (agS (agS (agS (bgG gl) 3 (nI 0) (nI 3) (nI 0) (nI 0)) 4 (nI (1 + btN r 0)) (nI 3) (nI 1) (nI 3)) 5 (nI (1 + btN r 1)) (nI 4) (nI 2) (nI 3)) 6 (nI (1 + btN r 2)) (nI 3) (nI 1) (nI 4)) 7 (nI (1 + btN r 3)) (nI 4) (nI 2) (nI 4)
def crN (x y z : Int32) : Nat := if wiN x (nI 1) (nI 20) = 0 then 0 else if wiN z (nI 1) (nI 40) = 0 then 0 else if y < 0 then 0 else if nI 1 <<< (x &&& 31) ≤ y then 0 else 1
def rrN (x y z w : Int32) : Nat := if wiN x (nI 1) (nI 30) = 0 then 0 else if wiN y (nI 0) (nI 15) = 0 then 0 else if wiN z (nI 1) (nI 40) = 0 then 0 else if w < 0 then 0 else if nI 1 <<< (x &&& 31) ≤ w then 0 else 1
abbrev CS : Type := (Nat → Int32) × (Nat → Int32) × Nat × Int32 × PS × Int32
def mcoV (sg gl : Nat → Int32) (y : Nat) (te : Int32) (z0 : PS) (x v z : Int32) : Int32 × CS :=
  if z0.2.2.2 ≤ 0 then (if crN x v z = 0 then (nI 0, sg, gl, y, te, z0, nI 2) else (nI 7, bmL sg 100, ctG gl, 7, nI 2, mkL (nn x) (mrL (fun i => nn x - 1 - i) v z0 (nn x)) (nn z - 1), nI 0)) else (nI 0, sg, gl, y, te, z0, nI 1)
def mruV (sg gl : Nat → Int32) (y : Nat) (te : Int32) (z0 : PS) (x v z w : Int32) : Int32 × CS :=
  if z0.2.2.2 ≤ 0 then (if rrN x v z w = 0 then (nI 0, sg, gl, y, te, z0, nI 2) else (nI 7, bmL sg 100, ruG gl v, 7, nI 2, mkL 0 (mrL (fun i => i + 1) w z0 (nn x)) (nn z - 1), nI 0)) else (nI 0, sg, gl, y, te, z0, nI 1)
set_option maxHeartbeats 4000000 in
set_option maxRecDepth 100000 in
/-- at -/
theorem k_MD_at (l : Launch) (D : va_G) (cI cJ : ClassId) (w0 : Nat) (w1 : Nat) (w2 : Nat) (w3 : Nat) (w4 : Nat) (w5 : Nat) (w6 : Nat) (w7 : Nat) (w8 : Nat) (w9 : Nat) (w10 : Nat) (w11 : Nat) (w12 : Nat) (w13 : Nat) (w14 : Nat) (yt : Int32) (te : Int32) (nt : Int32) (wb : Int32) (rc : Int32) (fp : Int32) (ft : Int32) (th : Int32) (fi : Nat → Int32) (ip : Nat → Int32) (se : Nat → Int32) (x : Int32) (y : Int32) (z : Int32) (sz : Nat)  : Met l y_MD_at ws_MD_at ({ frames := 4, cells := 0, slots := 0, locals := 90 } : Room) (va_Pc [.ref w0, .int x, .int y, .int z] (Pw D cI cJ [(w0, .inr (5, [.ref w1, .ref w2, .int yt, .int te, .ref w3, .ref w4, .ref w5, .int nt, .int wb, .ref w6, .ref w7, .ref w8, .int rc, .ref w9, .ref w10, .ref w11, .ref w12, .ref w13, .ref w14, .int fp, .int ft, .int th])), (w3, .inl (cI, 1600, .inl fi)), (w4, .inl (cI, 1600, .inl ip)), (w5, .inl (cI, 1600, .inl se))] sz)) (va_Qi (fun (r : Int32) (u9 : Int32) => (r, u9) = atM fi ip se x y z) (fun u9 t9 => Bw D (va_A [(w0, .inr (5, [.ref w1, .ref w2, .int yt, .int te, .ref w3, .ref w4, .ref w5, .int nt, .int wb, .ref w6, .ref w7, .ref w8, .int rc, .ref w9, .ref w10, .ref w11, .ref w12, .ref w13, .ref w14, .int fp, .int ft, .int th])), (w3, .inl (cI, 1600, .inl fi)), (w4, .inl (cI, 1600, .inl ip)), (w5, .inl (cI, 1600, .inl se))] sz) [(w0, .inr (5, [.ref w1, .ref w2, .int yt, .int te, .ref w3, .ref w4, .ref w5, .int nt, .int wb, .ref w6, .ref w7, .ref w8, .int rc, .ref w9, .ref w10, .ref w11, .ref w12, .ref w13, .ref w14, .int fp, .int ft, .int u9])), (w3, .inl (cI, 1600, .inl fi)), (w4, .inl (cI, 1600, .inl ip)), (w5, .inl (cI, 1600, .inl se))] t9) (va_A [(w0, .inr (5, [.ref w1, .ref w2, .int yt, .int te, .ref w3, .ref w4, .ref w5, .int nt, .int wb, .ref w6, .ref w7, .ref w8, .int rc, .ref w9, .ref w10, .ref w11, .ref w12, .ref w13, .ref w14, .int fp, .int ft, .int th])), (w3, .inl (cI, 1600, .inl fi)), (w4, .inl (cI, 1600, .inl ip)), (w5, .inl (cI, 1600, .inl se))] sz)) 0 0 (va_A [(w0, .inr (5, [.ref w1, .ref w2, .int yt, .int te, .ref w3, .ref w4, .ref w5, .int nt, .int wb, .ref w6, .ref w7, .ref w8, .int rc, .ref w9, .ref w10, .ref w11, .ref w12, .ref w13, .ref w14, .int fp, .int ft, .int th])), (w3, .inl (cI, 1600, .inl fi)), (w4, .inl (cI, 1600, .inl ip)), (w5, .inl (cI, 1600, .inl se))] sz) := by
  refine Met.ofW (cc := c_MD_at) (maxL := 5) (ret := (some .int)) (by decide) rfl ?_
  intro p e s m args below meth c s₁ B hml hv
  obtain ⟨rfl, hsz, hE, hP, hD0, hX⟩ := hv
  have hx := B.exec
  have hb := B.bytes
  have hr := B.returns
  have hw : ∀ w ∈ gw, w.before _ s = true := fun w h => atoms_spec (ws := ws_MD_at) B.pre w (List.mem_cons_of_mem _ h)
  have hown : s.vm.findClass R_MD = some m.cls := findClass_of_methodNamed B.named
  have hlocks := B.notSynchronized
  subst hsz
  have hD := hD0.self (sz := s.heap.size)
  generalize hAe : va_A [(w0, .inr (5, [.ref w1, .ref w2, .int yt, .int te, .ref w3, .ref w4, .ref w5, .int nt, .int wb, .ref w6, .ref w7, .ref w8, .int rc, .ref w9, .ref w10, .ref w11, .ref w12, .ref w13, .ref w14, .int fp, .int ft, .int th])), (w3, .inl (cI, 1600, .inl fi)), (w4, .inl (cI, 1600, .inl ip)), (w5, .inl (cI, 1600, .inl se))] s.heap.size = A at hD hX ⊢
  have hA : ∀ q : Nat, s.heap.size ≤ q → A q := fun q h => by rw [← hAe]; exact Or.inr h
  have hS : va_S A s.heap s.heap [] := va_S.rf
  have hP : va_P D vwCl [(w0, .inr (5, [.ref w1, .ref w2, .int yt, .int te, .ref w3, .ref w4, .ref w5, .int nt, .int wb, .ref w6, .ref w7, .ref w8, .int rc, .ref w9, .ref w10, .ref w11, .ref w12, .ref w13, .ref w14, .int fp, .int ft, .int th])), (w3, .inl (cI, 1600, .inl fi)), (w4, .inl (cI, 1600, .inl ip)), (w5, .inl (cI, 1600, .inl se))] s.heap := hP
  have hl := lv_entry ([.ref w0, .int x, .int y, .int z]) (n := 5) (Nat.le_of_ble_eq_true rfl)
  rw [lg_entry_eq]
  generalize (lg_sl ([.ref w0, .int x, .int y, .int z]) ++ List.replicate (5 - (lg_sl ([.ref w0, .int x, .int y, .int z])).length) Slot.unset).toArray = ls at hl ⊢
  have hl : lv_has ls 5 [(0, .ref w0), (1, .int x), (2, .int y), (3, .int z)] := hl
  refine lv_aload_n hx hb d_MD_at_0 rfl (lv_at hl 0 rfl) ?_
  refine lv_iload_n hx hb d_MD_at_1 rfl (lv_at hl 1 rfl) ?_
  refine lv_iload_n hx hb d_MD_at_2 rfl (lv_at hl 2 rfl) ?_
  refine vp_callSi (va_Run.run (va_runS (As := [.int x, .int y]) (rest := [.ref w0]) ⟨hx, hb, hml, hown, hw⟩ (k_MD_isPlace l D cI cJ x y) (va_cwS 2 hw (gS kw_859 kw_860 kw_45 kw_861) rfl rfl rfl (by decide +kernel) ⟨Nat.le_of_ble_eq_true rfl, Nat.le_of_ble_eq_true rfl⟩) (pre_Sp (wc := []) hE hX hP hS [] rfl) rfl rfl hl.1 rfl (lv_room (Nat.le_of_ble_eq_true rfl)) d_MD_at_3 ⟨Nat.le_of_ble_eq_true rfl, Nat.le_of_ble_eq_true rfl⟩)) (fun r_1 hr_1 => ?_)
  obtain rfl : nI (isP x y) = r_1 := hr_1.symm
  refine jn_if_ne (tgt := 13) (a := (isP x y)) hx hb d_MD_at_6 (by decide) (by have := isP_le x y; omega) (fun c_6 => ?_) (fun c_6 => ?_)
  · skip
    refine lv_iconst (v := nI 0) hx hb d_MD_at_13 (by decide +kernel) ?_
    refine lv_iconst (v := nI 1) hx hb d_MD_at_14 (by decide +kernel) ?_
    refine cl_i (wr := [(w3, .inl (cI, 1600, .inl fi)), (w4, .inl (cI, 1600, .inl ip)), (w5, .inl (cI, 1600, .inl se))]) (va_runV (As := [.int (nI 0), .int (nI 1)]) (rest := []) ⟨hx, hb, hml, hown, hw⟩ (k_MD_fails l D cI cJ w0 w1 w2 w3 w4 w5 w6 w7 w8 w9 w10 w11 w12 w13 w14 yt te nt wb rc fp ft th 0 1 _ (by omega)) (cwV 2 hw (gV kw_836 kw_838 kw_20 kw_45 kw_839) rfl rfl rfl (by decide +kernel) ⟨Nat.le_of_ble_eq_true rfl, Nat.le_of_ble_eq_true rfl⟩) (pre_Vw (wc := [(w0, .inr (5, [.ref w1, .ref w2, .int yt, .int te, .ref w3, .ref w4, .ref w5, .int nt, .int wb, .ref w6, .ref w7, .ref w8, .int rc, .ref w9, .ref w10, .ref w11, .ref w12, .ref w13, .ref w14, .int fp, .int ft, .int th]))]) (q0 := 0) hE hX hA hP hD hS [0] (by decide) rfl rfl rfl rfl) rfl rfl hl.1 rfl (lv_room (Nat.le_of_ble_eq_true rfl)) d_MD_at_15 ⟨Nat.le_of_ble_eq_true rfl, Nat.le_of_ble_eq_true rfl⟩) hP hD hS hA [0] [1, 2, 3] rfl rfl (by decide) (by decide) (fun r_2 u_r_2 H locs hr_2 hP hD hS => ?_)
    obtain rfl : nI 0 = r_2 := hr_2.symm
    have hP : va_P D vwCl [(w3, .inl (cI, 1600, .inl fi)), (w4, .inl (cI, 1600, .inl ip)), (w5, .inl (cI, 1600, .inl se)), (w0, .inr (5, [.ref w1, .ref w2, .int yt, .int te, .ref w3, .ref w4, .ref w5, .int nt, .int wb, .ref w6, .ref w7, .ref w8, .int rc, .ref w9, .ref w10, .ref w11, .ref w12, .ref w13, .ref w14, .int fp, .int ft, .int (nI (flN 0 1))]))] H := hP
    have hD : va_D A [(w3, .inl (cI, 1600, .inl fi)), (w4, .inl (cI, 1600, .inl ip)), (w5, .inl (cI, 1600, .inl se)), (w0, .inr (5, [.ref w1, .ref w2, .int yt, .int te, .ref w3, .ref w4, .ref w5, .int nt, .int wb, .ref w6, .ref w7, .ref w8, .int rc, .ref w9, .ref w10, .ref w11, .ref w12, .ref w13, .ref w14, .int fp, .int ft, .int (nI (flN 0 1))]))] := hD
    refine jn_if_ne (tgt := 43) (a := 0) hx hb d_MD_at_18 (by decide) (by decide) (fun c9 => absurd c9 (by decide)) (fun _ => ?_)
    refine lv_aload_n hx hb d_MD_at_21 rfl (lv_at hl 0 rfl) ?_
    refine lv_iload_n hx hb d_MD_at_22 rfl (lv_at hl 3 rfl) ?_
    refine lv_iconst (v := nI 0) hx hb d_MD_at_23 (by decide +kernel) ?_
    refine lv_iconst (v := nI 3) hx hb d_MD_at_24 (by decide +kernel) ?_
    refine vp_callSi (va_Run.run (va_runS (As := [.int z, .int (nI 0), .int (nI 3)]) (rest := [.ref w0]) ⟨hx, hb, hml, hown, hw⟩ (k_MD_within l D cI cJ z (nI 0) (nI 3)) (va_cwS 3 hw (gS kw_840 kw_841 kw_45 kw_842) rfl rfl rfl (by decide +kernel) ⟨Nat.le_of_ble_eq_true rfl, Nat.le_of_ble_eq_true rfl⟩) (pre_Sp (wc := []) hE hX hP hS [] rfl) rfl rfl hl.1 rfl (lv_room (Nat.le_of_ble_eq_true rfl)) d_MD_at_25 ⟨Nat.le_of_ble_eq_true rfl, Nat.le_of_ble_eq_true rfl⟩)) (fun r_3 hr_3 => ?_)
    obtain rfl : nI (wiN z (nI 0) (nI 3)) = r_3 := hr_3.symm
    refine jn_if_ne (tgt := 35) (a := (wiN z (nI 0) (nI 3))) hx hb d_MD_at_28 (by decide) (by have := wiN_le z (nI 0) (nI 3); omega) (fun c_28 => ?_) (fun c_28 => ?_)
    · skip
      refine lv_iconst (v := nI 0) hx hb d_MD_at_35 (by decide +kernel) ?_
      refine lv_iconst (v := nI 2) hx hb d_MD_at_36 (by decide +kernel) ?_
      refine cl_i (wr := [(w3, .inl (cI, 1600, .inl fi)), (w4, .inl (cI, 1600, .inl ip)), (w5, .inl (cI, 1600, .inl se))]) (va_runV (As := [.int (nI 0), .int (nI 2)]) (rest := []) ⟨hx, hb, hml, hown, hw⟩ (k_MD_fails l D cI cJ w0 w1 w2 w3 w4 w5 w6 w7 w8 w9 w10 w11 w12 w13 w14 yt te nt wb rc fp ft (nI (flN 0 1)) 0 2 _ (by omega)) (cwV 2 hw (gV kw_836 kw_838 kw_20 kw_45 kw_839) rfl rfl rfl (by decide +kernel) ⟨Nat.le_of_ble_eq_true rfl, Nat.le_of_ble_eq_true rfl⟩) (pre_Vw (wc := [(w0, .inr (5, [.ref w1, .ref w2, .int yt, .int te, .ref w3, .ref w4, .ref w5, .int nt, .int wb, .ref w6, .ref w7, .ref w8, .int rc, .ref w9, .ref w10, .ref w11, .ref w12, .ref w13, .ref w14, .int fp, .int ft, .int (nI (flN 0 1))]))]) (q0 := 0) hE hX hA hP hD hS [3] (by decide) rfl rfl rfl rfl) rfl rfl hl.1 rfl (lv_room (Nat.le_of_ble_eq_true rfl)) d_MD_at_37 ⟨Nat.le_of_ble_eq_true rfl, Nat.le_of_ble_eq_true rfl⟩) hP hD hS hA [3] [0, 1, 2] rfl rfl (by decide) (by decide) (fun r_4 u_r_4 H locs hr_4 hP hD hS => ?_)
      obtain rfl : nI 0 = r_4 := hr_4.symm
      have hP : va_P D vwCl [(w3, .inl (cI, 1600, .inl fi)), (w4, .inl (cI, 1600, .inl ip)), (w5, .inl (cI, 1600, .inl se)), (w0, .inr (5, [.ref w1, .ref w2, .int yt, .int te, .ref w3, .ref w4, .ref w5, .int nt, .int wb, .ref w6, .ref w7, .ref w8, .int rc, .ref w9, .ref w10, .ref w11, .ref w12, .ref w13, .ref w14, .int fp, .int ft, .int (nI (flN 0 2))]))] H := hP
      have hD : va_D A [(w3, .inl (cI, 1600, .inl fi)), (w4, .inl (cI, 1600, .inl ip)), (w5, .inl (cI, 1600, .inl se)), (w0, .inr (5, [.ref w1, .ref w2, .int yt, .int te, .ref w3, .ref w4, .ref w5, .int nt, .int wb, .ref w6, .ref w7, .ref w8, .int rc, .ref w9, .ref w10, .ref w11, .ref w12, .ref w13, .ref w14, .int fp, .int ft, .int (nI (flN 0 2))]))] := hD
      refine jn_if_eq (tgt := 45) (a := 0) hx hb d_MD_at_40 (by decide) (by decide) (fun _ => ?_) (fun c9 => absurd c9 (by decide))
      obtain ⟨a9, b9, ha9, hb9, hxe, hye⟩ := isP_nat c_6
      subst hxe
      subst hye
      refine lv_bipush (v := nI 40) hx hb d_MD_at_45 (by decide +kernel) ?_
      refine lv_iload_n hx hb d_MD_at_47 rfl (lv_at hl 2 rfl) ?_
      refine jn_imul (a := 40) (b := b9) hx hb d_MD_at_48 ?_
      refine lv_iload_n hx hb d_MD_at_49 rfl (lv_at hl 1 rfl) ?_
      refine jn_iadd (a := (40 * b9)) (b := a9) hx hb d_MD_at_50 ?_
      refine lv_istore (lv' := [(4, .int (nI ((40 * b9) + a9))), (0, .ref w0), (1, .int (nI a9)), (2, .int (nI b9)), (3, .int z)]) hx hb d_MD_at_51 hl (by decide) rfl (fun ls hl => ?_)
      refine lv_iload_n hx hb d_MD_at_53 rfl (lv_at hl 4 rfl) ?_
      refine lv_if_ne (tgt := 65) hx hb d_MD_at_54 (by decide) (fun c_54 => ?_) (fun c_54 => ?_)
      · skip
        refine lv_aload_n hx hb d_MD_at_65 rfl (lv_at hl 1 rfl) ?_
        refine va_get (D := D) (ci := 5) (v := .ref w3) (C := R_MD) (T := T_MD) (N := 22) hx hb hw in_MD hown hE.1 hP 3 rfl rfl 4 (by decide) (hw _ kw_765) (fun _ h9 => h9) rfl d_MD_at_66 ?_
        refine lv_iload hx hb d_MD_at_69 (lv_at hl 0 rfl) ?_
        refine jn_iald (k := ((40 * b9) + a9)) hx hb hE.1 hP 0 0 rfl rfl (by omega) (by omega) d_MD_at_71 ?_
        refine lv_if_ne (tgt := 79) hx hb d_MD_at_72 (by decide) (fun c_72 => ?_) (fun c_72 => ?_)
        · skip
          refine lv_iload_n hx hb d_MD_at_79 rfl (lv_at hl 4 rfl) ?_
          refine lv_iconst (v := nI 1) hx hb d_MD_at_80 (by decide +kernel) ?_
          refine lv_icmp_ne (tgt := 94) hx hb d_MD_at_81 (by decide) (fun c_81 => ?_) (fun c_81 => ?_)
          · skip
            refine lv_iload_n hx hb d_MD_at_94 rfl (lv_at hl 4 rfl) ?_
            refine lv_iconst (v := nI 2) hx hb d_MD_at_95 (by decide +kernel) ?_
            refine lv_icmp_ne (tgt := 108) hx hb d_MD_at_96 (by decide) (fun c_96 => ?_) (fun c_96 => ?_)
            · skip
              refine lv_aload_n hx hb d_MD_at_108 rfl (lv_at hl 1 rfl) ?_
              refine va_get (D := D) (ci := 5) (v := .ref w5) (C := R_MD) (T := T_MD) (N := 22) hx hb hw in_MD hown hE.1 hP 3 rfl rfl 6 (by decide) (hw _ kw_767) (fun _ h9 => h9) rfl d_MD_at_109 ?_
              refine lv_iload hx hb d_MD_at_112 (lv_at hl 0 rfl) ?_
              refine jn_iald (k := ((40 * b9) + a9)) hx hb hE.1 hP 2 0 rfl rfl (by omega) (by omega) d_MD_at_114 ?_
              have hP9 := hP.sub (ws' := [(w0, .inr (5, [.ref w1, .ref w2, .int yt, .int te, .ref w3, .ref w4, .ref w5, .int nt, .int wb, .ref w6, .ref w7, .ref w8, .int rc, .ref w9, .ref w10, .ref w11, .ref w12, .ref w13, .ref w14, .int fp, .int ft, .int (nI (flN 0 2))])), (w3, .inl (cI, 1600, .inl fi)), (w4, .inl (cI, 1600, .inl ip)), (w5, .inl (cI, 1600, .inl se))]) [3, 0, 1, 2] rfl
              have hD9 := hD.sub (ws' := [(w0, .inr (5, [.ref w1, .ref w2, .int yt, .int te, .ref w3, .ref w4, .ref w5, .int nt, .int wb, .ref w6, .ref w7, .ref w8, .int rc, .ref w9, .ref w10, .ref w11, .ref w12, .ref w13, .ref w14, .int fp, .int ft, .int (nI (flN 0 2))])), (w3, .inl (cI, 1600, .inl fi)), (w4, .inl (cI, 1600, .inl ip)), (w5, .inl (cI, 1600, .inl se))]) [3, 0, 1, 2] (by decide) rfl
              exact W.iret (v := se ((40 * b9) + a9)) hx hb hr (fun t9 ht hW => ⟨⟨_, (nI 0), rfl, (by unfold atM atW; rw [nn_nI (show a9 < 2 ^ 31 by omega), nn_nI (show b9 < 2 ^ 31 by omega), if_neg c_6, if_neg c_28, if_neg c_54, if_neg c_72, if_neg c_81, if_neg c_96]; try rfl), ⟨by rw [ht]; exact hP9, hD9⟩⟩, hS.F ht⟩) hS.2.2 d_MD_at_115
            · skip
              refine lv_aload_n hx hb d_MD_at_99 rfl (lv_at hl 1 rfl) ?_
              refine lv_iload hx hb d_MD_at_100 (lv_at hl 0 rfl) ?_
              refine vp_callSi (va_Run.run (va_runV (As := [.int (nI ((40 * b9) + a9))]) (rest := []) ⟨hx, hb, hml, hown, hw⟩ (k_MD_outputs l D cI cJ w0 w1 w2 w3 w4 w5 w6 w7 w8 w9 w10 w11 w12 w13 w14 yt te nt wb rc fp ft (nI (flN 0 2)) fi ip ((40 * b9) + a9) (by omega)) (cwV 1 hw (gV kw_943 kw_945 kw_32 kw_45 kw_946) rfl rfl rfl (by decide +kernel) ⟨Nat.le_of_ble_eq_true rfl, Nat.le_of_ble_eq_true rfl⟩) (pre_Vp (wc := [(w0, .inr (5, [.ref w1, .ref w2, .int yt, .int te, .ref w3, .ref w4, .ref w5, .int nt, .int wb, .ref w6, .ref w7, .ref w8, .int rc, .ref w9, .ref w10, .ref w11, .ref w12, .ref w13, .ref w14, .int fp, .int ft, .int (nI (flN 0 2))])), (w3, .inl (cI, 1600, .inl fi)), (w4, .inl (cI, 1600, .inl ip))]) (q0 := 0) hE hX hP hS [3, 0, 1] rfl rfl rfl) rfl rfl hl.1 rfl (lv_room (Nat.le_of_ble_eq_true rfl)) d_MD_at_102 ⟨Nat.le_of_ble_eq_true rfl, Nat.le_of_ble_eq_true rfl⟩)) (fun r_5 hr_5 => ?_)
              obtain rfl : ouL fi ip ((40 * b9) + a9) 4 = r_5 := hr_5.symm
              refine lv_goto (tgt := 115) hx hb d_MD_at_105 (by decide) ?_
              have hP9 := hP.sub (ws' := [(w0, .inr (5, [.ref w1, .ref w2, .int yt, .int te, .ref w3, .ref w4, .ref w5, .int nt, .int wb, .ref w6, .ref w7, .ref w8, .int rc, .ref w9, .ref w10, .ref w11, .ref w12, .ref w13, .ref w14, .int fp, .int ft, .int (nI (flN 0 2))])), (w3, .inl (cI, 1600, .inl fi)), (w4, .inl (cI, 1600, .inl ip)), (w5, .inl (cI, 1600, .inl se))]) [3, 0, 1, 2] rfl
              have hD9 := hD.sub (ws' := [(w0, .inr (5, [.ref w1, .ref w2, .int yt, .int te, .ref w3, .ref w4, .ref w5, .int nt, .int wb, .ref w6, .ref w7, .ref w8, .int rc, .ref w9, .ref w10, .ref w11, .ref w12, .ref w13, .ref w14, .int fp, .int ft, .int (nI (flN 0 2))])), (w3, .inl (cI, 1600, .inl fi)), (w4, .inl (cI, 1600, .inl ip)), (w5, .inl (cI, 1600, .inl se))]) [3, 0, 1, 2] (by decide) rfl
              exact W.iret (v := ouL fi ip ((40 * b9) + a9) 4) hx hb hr (fun t9 ht hW => ⟨⟨_, (nI 0), rfl, (by unfold atM atW; rw [nn_nI (show a9 < 2 ^ 31 by omega), nn_nI (show b9 < 2 ^ 31 by omega), if_neg c_6, if_neg c_28, if_neg c_54, if_neg c_72, if_neg c_81, if_pos c_96]; try rfl), ⟨by rw [ht]; exact hP9, hD9⟩⟩, hS.F ht⟩) hS.2.2 d_MD_at_115
          · skip
            refine lv_aload_n hx hb d_MD_at_84 rfl (lv_at hl 1 rfl) ?_
            refine va_get (D := D) (ci := 5) (v := .ref w4) (C := R_MD) (T := T_MD) (N := 22) hx hb hw in_MD hown hE.1 hP 3 rfl rfl 5 (by decide) (hw _ kw_766) (fun _ h9 => h9) rfl d_MD_at_85 ?_
            refine lv_iload hx hb d_MD_at_88 (lv_at hl 0 rfl) ?_
            refine jn_iald (k := ((40 * b9) + a9)) hx hb hE.1 hP 1 0 rfl rfl (by omega) (by omega) d_MD_at_90 ?_
            refine lv_goto (tgt := 115) hx hb d_MD_at_91 (by decide) ?_
            have hP9 := hP.sub (ws' := [(w0, .inr (5, [.ref w1, .ref w2, .int yt, .int te, .ref w3, .ref w4, .ref w5, .int nt, .int wb, .ref w6, .ref w7, .ref w8, .int rc, .ref w9, .ref w10, .ref w11, .ref w12, .ref w13, .ref w14, .int fp, .int ft, .int (nI (flN 0 2))])), (w3, .inl (cI, 1600, .inl fi)), (w4, .inl (cI, 1600, .inl ip)), (w5, .inl (cI, 1600, .inl se))]) [3, 0, 1, 2] rfl
            have hD9 := hD.sub (ws' := [(w0, .inr (5, [.ref w1, .ref w2, .int yt, .int te, .ref w3, .ref w4, .ref w5, .int nt, .int wb, .ref w6, .ref w7, .ref w8, .int rc, .ref w9, .ref w10, .ref w11, .ref w12, .ref w13, .ref w14, .int fp, .int ft, .int (nI (flN 0 2))])), (w3, .inl (cI, 1600, .inl fi)), (w4, .inl (cI, 1600, .inl ip)), (w5, .inl (cI, 1600, .inl se))]) [3, 0, 1, 2] (by decide) rfl
            exact W.iret (v := ip ((40 * b9) + a9)) hx hb hr (fun t9 ht hW => ⟨⟨_, (nI 0), rfl, (by unfold atM atW; rw [nn_nI (show a9 < 2 ^ 31 by omega), nn_nI (show b9 < 2 ^ 31 by omega), if_neg c_6, if_neg c_28, if_neg c_54, if_neg c_72, if_pos c_81]; try rfl), ⟨by rw [ht]; exact hP9, hD9⟩⟩, hS.F ht⟩) hS.2.2 d_MD_at_115
        · skip
          refine lv_iconst (v := (-1)) hx hb d_MD_at_75 (by decide +kernel) ?_
          refine lv_goto (tgt := 115) hx hb d_MD_at_76 (by decide) ?_
          have hP9 := hP.sub (ws' := [(w0, .inr (5, [.ref w1, .ref w2, .int yt, .int te, .ref w3, .ref w4, .ref w5, .int nt, .int wb, .ref w6, .ref w7, .ref w8, .int rc, .ref w9, .ref w10, .ref w11, .ref w12, .ref w13, .ref w14, .int fp, .int ft, .int (nI (flN 0 2))])), (w3, .inl (cI, 1600, .inl fi)), (w4, .inl (cI, 1600, .inl ip)), (w5, .inl (cI, 1600, .inl se))]) [3, 0, 1, 2] rfl
          have hD9 := hD.sub (ws' := [(w0, .inr (5, [.ref w1, .ref w2, .int yt, .int te, .ref w3, .ref w4, .ref w5, .int nt, .int wb, .ref w6, .ref w7, .ref w8, .int rc, .ref w9, .ref w10, .ref w11, .ref w12, .ref w13, .ref w14, .int fp, .int ft, .int (nI (flN 0 2))])), (w3, .inl (cI, 1600, .inl fi)), (w4, .inl (cI, 1600, .inl ip)), (w5, .inl (cI, 1600, .inl se))]) [3, 0, 1, 2] (by decide) rfl
          exact W.iret (v := (-1)) hx hb hr (fun t9 ht hW => ⟨⟨_, (nI 0), rfl, (by unfold atM atW; rw [nn_nI (show a9 < 2 ^ 31 by omega), nn_nI (show b9 < 2 ^ 31 by omega), if_neg c_6, if_neg c_28, if_neg c_54, if_pos c_72]; try rfl), ⟨by rw [ht]; exact hP9, hD9⟩⟩, hS.F ht⟩) hS.2.2 d_MD_at_115
      · skip
        refine lv_aload_n hx hb d_MD_at_57 rfl (lv_at hl 1 rfl) ?_
        refine va_get (D := D) (ci := 5) (v := .ref w3) (C := R_MD) (T := T_MD) (N := 22) hx hb hw in_MD hown hE.1 hP 3 rfl rfl 4 (by decide) (hw _ kw_765) (fun _ h9 => h9) rfl d_MD_at_58 ?_
        refine lv_iload hx hb d_MD_at_61 (lv_at hl 0 rfl) ?_
        refine jn_iald (k := ((40 * b9) + a9)) hx hb hE.1 hP 0 0 rfl rfl (by omega) (by omega) d_MD_at_63 ?_
        have hP9 := hP.sub (ws' := [(w0, .inr (5, [.ref w1, .ref w2, .int yt, .int te, .ref w3, .ref w4, .ref w5, .int nt, .int wb, .ref w6, .ref w7, .ref w8, .int rc, .ref w9, .ref w10, .ref w11, .ref w12, .ref w13, .ref w14, .int fp, .int ft, .int (nI (flN 0 2))])), (w3, .inl (cI, 1600, .inl fi)), (w4, .inl (cI, 1600, .inl ip)), (w5, .inl (cI, 1600, .inl se))]) [3, 0, 1, 2] rfl
        have hD9 := hD.sub (ws' := [(w0, .inr (5, [.ref w1, .ref w2, .int yt, .int te, .ref w3, .ref w4, .ref w5, .int nt, .int wb, .ref w6, .ref w7, .ref w8, .int rc, .ref w9, .ref w10, .ref w11, .ref w12, .ref w13, .ref w14, .int fp, .int ft, .int (nI (flN 0 2))])), (w3, .inl (cI, 1600, .inl fi)), (w4, .inl (cI, 1600, .inl ip)), (w5, .inl (cI, 1600, .inl se))]) [3, 0, 1, 2] (by decide) rfl
        exact W.iret (v := fi ((40 * b9) + a9)) hx hb hr (fun t9 ht hW => ⟨⟨_, (nI 0), rfl, (by unfold atM atW; rw [nn_nI (show a9 < 2 ^ 31 by omega), nn_nI (show b9 < 2 ^ 31 by omega), if_neg c_6, if_neg c_28, if_pos c_54]; try rfl), ⟨by rw [ht]; exact hP9, hD9⟩⟩, hS.F ht⟩) hS.2.2 d_MD_at_64
    · skip
      refine lv_iconst (v := nI 1) hx hb d_MD_at_31 (by decide +kernel) ?_
      refine lv_goto (tgt := 36) hx hb d_MD_at_32 (by decide) ?_
      refine lv_iconst (v := nI 2) hx hb d_MD_at_36 (by decide +kernel) ?_
      refine cl_i (wr := [(w3, .inl (cI, 1600, .inl fi)), (w4, .inl (cI, 1600, .inl ip)), (w5, .inl (cI, 1600, .inl se))]) (va_runV (As := [.int (nI 1), .int (nI 2)]) (rest := []) ⟨hx, hb, hml, hown, hw⟩ (k_MD_fails l D cI cJ w0 w1 w2 w3 w4 w5 w6 w7 w8 w9 w10 w11 w12 w13 w14 yt te nt wb rc fp ft (nI (flN 0 1)) 1 2 _ (by omega)) (cwV 2 hw (gV kw_836 kw_838 kw_20 kw_45 kw_839) rfl rfl rfl (by decide +kernel) ⟨Nat.le_of_ble_eq_true rfl, Nat.le_of_ble_eq_true rfl⟩) (pre_Vw (wc := [(w0, .inr (5, [.ref w1, .ref w2, .int yt, .int te, .ref w3, .ref w4, .ref w5, .int nt, .int wb, .ref w6, .ref w7, .ref w8, .int rc, .ref w9, .ref w10, .ref w11, .ref w12, .ref w13, .ref w14, .int fp, .int ft, .int (nI (flN 0 1))]))]) (q0 := 0) hE hX hA hP hD hS [3] (by decide) rfl rfl rfl rfl) rfl rfl hl.1 rfl (lv_room (Nat.le_of_ble_eq_true rfl)) d_MD_at_37 ⟨Nat.le_of_ble_eq_true rfl, Nat.le_of_ble_eq_true rfl⟩) hP hD hS hA [3] [0, 1, 2] rfl rfl (by decide) (by decide) (fun r_6 u_r_6 H locs hr_6 hP hD hS => ?_)
      obtain rfl : nI 1 = r_6 := hr_6.symm
      have hP : va_P D vwCl [(w3, .inl (cI, 1600, .inl fi)), (w4, .inl (cI, 1600, .inl ip)), (w5, .inl (cI, 1600, .inl se)), (w0, .inr (5, [.ref w1, .ref w2, .int yt, .int te, .ref w3, .ref w4, .ref w5, .int nt, .int wb, .ref w6, .ref w7, .ref w8, .int rc, .ref w9, .ref w10, .ref w11, .ref w12, .ref w13, .ref w14, .int fp, .int ft, .int (nI (flN 1 2))]))] H := hP
      have hD : va_D A [(w3, .inl (cI, 1600, .inl fi)), (w4, .inl (cI, 1600, .inl ip)), (w5, .inl (cI, 1600, .inl se)), (w0, .inr (5, [.ref w1, .ref w2, .int yt, .int te, .ref w3, .ref w4, .ref w5, .int nt, .int wb, .ref w6, .ref w7, .ref w8, .int rc, .ref w9, .ref w10, .ref w11, .ref w12, .ref w13, .ref w14, .int fp, .int ft, .int (nI (flN 1 2))]))] := hD
      refine jn_if_eq (tgt := 45) (a := 1) hx hb d_MD_at_40 (by decide) (by decide) (fun c9 => absurd c9 (by decide)) (fun _ => ?_)
      refine lv_iconst (v := nI 0) hx hb d_MD_at_43 (by decide +kernel) ?_
      have hP9 := hP.sub (ws' := [(w0, .inr (5, [.ref w1, .ref w2, .int yt, .int te, .ref w3, .ref w4, .ref w5, .int nt, .int wb, .ref w6, .ref w7, .ref w8, .int rc, .ref w9, .ref w10, .ref w11, .ref w12, .ref w13, .ref w14, .int fp, .int ft, .int (nI (flN 1 2))])), (w3, .inl (cI, 1600, .inl fi)), (w4, .inl (cI, 1600, .inl ip)), (w5, .inl (cI, 1600, .inl se))]) [3, 0, 1, 2] rfl
      have hD9 := hD.sub (ws' := [(w0, .inr (5, [.ref w1, .ref w2, .int yt, .int te, .ref w3, .ref w4, .ref w5, .int nt, .int wb, .ref w6, .ref w7, .ref w8, .int rc, .ref w9, .ref w10, .ref w11, .ref w12, .ref w13, .ref w14, .int fp, .int ft, .int (nI (flN 1 2))])), (w3, .inl (cI, 1600, .inl fi)), (w4, .inl (cI, 1600, .inl ip)), (w5, .inl (cI, 1600, .inl se))]) [3, 0, 1, 2] (by decide) rfl
      exact W.iret (v := nI 0) hx hb hr (fun t9 ht hW => ⟨⟨_, (nI 2), rfl, (by unfold atM; rw [if_neg c_6, if_pos c_28]), ⟨by rw [ht]; exact hP9, hD9⟩⟩, hS.F ht⟩) hS.2.2 d_MD_at_44
  · skip
    refine lv_iconst (v := nI 1) hx hb d_MD_at_9 (by decide +kernel) ?_
    refine lv_goto (tgt := 14) hx hb d_MD_at_10 (by decide) ?_
    refine lv_iconst (v := nI 1) hx hb d_MD_at_14 (by decide +kernel) ?_
    refine cl_i (wr := [(w3, .inl (cI, 1600, .inl fi)), (w4, .inl (cI, 1600, .inl ip)), (w5, .inl (cI, 1600, .inl se))]) (va_runV (As := [.int (nI 1), .int (nI 1)]) (rest := []) ⟨hx, hb, hml, hown, hw⟩ (k_MD_fails l D cI cJ w0 w1 w2 w3 w4 w5 w6 w7 w8 w9 w10 w11 w12 w13 w14 yt te nt wb rc fp ft th 1 1 _ (by omega)) (cwV 2 hw (gV kw_836 kw_838 kw_20 kw_45 kw_839) rfl rfl rfl (by decide +kernel) ⟨Nat.le_of_ble_eq_true rfl, Nat.le_of_ble_eq_true rfl⟩) (pre_Vw (wc := [(w0, .inr (5, [.ref w1, .ref w2, .int yt, .int te, .ref w3, .ref w4, .ref w5, .int nt, .int wb, .ref w6, .ref w7, .ref w8, .int rc, .ref w9, .ref w10, .ref w11, .ref w12, .ref w13, .ref w14, .int fp, .int ft, .int th]))]) (q0 := 0) hE hX hA hP hD hS [0] (by decide) rfl rfl rfl rfl) rfl rfl hl.1 rfl (lv_room (Nat.le_of_ble_eq_true rfl)) d_MD_at_15 ⟨Nat.le_of_ble_eq_true rfl, Nat.le_of_ble_eq_true rfl⟩) hP hD hS hA [0] [1, 2, 3] rfl rfl (by decide) (by decide) (fun r_7 u_r_7 H locs hr_7 hP hD hS => ?_)
    obtain rfl : nI 1 = r_7 := hr_7.symm
    have hP : va_P D vwCl [(w3, .inl (cI, 1600, .inl fi)), (w4, .inl (cI, 1600, .inl ip)), (w5, .inl (cI, 1600, .inl se)), (w0, .inr (5, [.ref w1, .ref w2, .int yt, .int te, .ref w3, .ref w4, .ref w5, .int nt, .int wb, .ref w6, .ref w7, .ref w8, .int rc, .ref w9, .ref w10, .ref w11, .ref w12, .ref w13, .ref w14, .int fp, .int ft, .int (nI (flN 1 1))]))] H := hP
    have hD : va_D A [(w3, .inl (cI, 1600, .inl fi)), (w4, .inl (cI, 1600, .inl ip)), (w5, .inl (cI, 1600, .inl se)), (w0, .inr (5, [.ref w1, .ref w2, .int yt, .int te, .ref w3, .ref w4, .ref w5, .int nt, .int wb, .ref w6, .ref w7, .ref w8, .int rc, .ref w9, .ref w10, .ref w11, .ref w12, .ref w13, .ref w14, .int fp, .int ft, .int (nI (flN 1 1))]))] := hD
    refine jn_if_ne (tgt := 43) (a := 1) hx hb d_MD_at_18 (by decide) (by decide) (fun _ => ?_) (fun c9 => absurd c9 (by decide))
    refine lv_iconst (v := nI 0) hx hb d_MD_at_43 (by decide +kernel) ?_
    have hP9 := hP.sub (ws' := [(w0, .inr (5, [.ref w1, .ref w2, .int yt, .int te, .ref w3, .ref w4, .ref w5, .int nt, .int wb, .ref w6, .ref w7, .ref w8, .int rc, .ref w9, .ref w10, .ref w11, .ref w12, .ref w13, .ref w14, .int fp, .int ft, .int (nI (flN 1 1))])), (w3, .inl (cI, 1600, .inl fi)), (w4, .inl (cI, 1600, .inl ip)), (w5, .inl (cI, 1600, .inl se))]) [3, 0, 1, 2] rfl
    have hD9 := hD.sub (ws' := [(w0, .inr (5, [.ref w1, .ref w2, .int yt, .int te, .ref w3, .ref w4, .ref w5, .int nt, .int wb, .ref w6, .ref w7, .ref w8, .int rc, .ref w9, .ref w10, .ref w11, .ref w12, .ref w13, .ref w14, .int fp, .int ft, .int (nI (flN 1 1))])), (w3, .inl (cI, 1600, .inl fi)), (w4, .inl (cI, 1600, .inl ip)), (w5, .inl (cI, 1600, .inl se))]) [3, 0, 1, 2] (by decide) rfl
    exact W.iret (v := nI 0) hx hb hr (fun t9 ht hW => ⟨⟨_, (nI 1), rfl, (by unfold atM; rw [if_pos c_6]), ⟨by rw [ht]; exact hP9, hD9⟩⟩, hS.F ht⟩) hS.2.2 d_MD_at_44
set_option maxHeartbeats 4000000 in
set_option maxRecDepth 100000 in
theorem lp_k_MD_begin_7 {p : Program} {l : Launch} {e : Env} {s : State} {m : MethodId} {args : Array Value} {below : List Frame} {meth : Method} {c : Code} {D : va_G} {cI cJ : ClassId} {Q : State → Prop} {A : Nat → Prop} (w0 : Nat) (w1 : Nat) (w2 : Nat) (w3 : Nat) (w4 : Nat) (w5 : Nat) (w6 : Nat) (w7 : Nat) (w8 : Nat) (w9 : Nat) (w10 : Nat) (w11 : Nat) (w12 : Nat) (w13 : Nat) (w14 : Nat) (yt : Int32) (te : Int32) (nt : Int32) (wb : Int32) (rc : Int32) (fp : Int32) (ft : Int32) (th : Int32) (sg : Nat → Int32) (gl : Nat → Int32)   (hx : p.tables.exec = Jvm.exec) (hb : c.code = c_MD_begin) (hml : c.maxLocals = 2) (hown : s.vm.findClass R_MD = some m.cls) (hw : ∀ w ∈ gw, w.before args s = true) (hE : En D cI cJ s) (hX : Sx A s s.heap) (hA : ∀ q : Nat, s.heap.size ≤ q → A q)
    (kx0 : ∀ (H : Heap) (locs : List Loc) (ls : Array Slot), va_P D vwCl [(w0, .inr (5, [.ref w1, .ref w2, .int (nI 0), .int te, .ref w3, .ref w4, .ref w5, .int nt, .int wb, .ref w6, .ref w7, .ref w8, .int rc, .ref w9, .ref w10, .ref w11, .ref w12, .ref w13, .ref w14, .int fp, .int ft, .int th])), (w1, .inl (cI, 100, .inl (bmL sg 100))), (w2, .inl (cI, 244, .inl gl))] H → va_D A [(w0, .inr (5, [.ref w1, .ref w2, .int (nI 0), .int te, .ref w3, .ref w4, .ref w5, .int nt, .int wb, .ref w6, .ref w7, .ref w8, .int rc, .ref w9, .ref w10, .ref w11, .ref w12, .ref w13, .ref w14, .int fp, .int ft, .int th])), (w1, .inl (cI, 100, .inl (bmL sg 100))), (w2, .inl (cI, 244, .inl gl))] → va_S A s.heap H locs → lv_has ls 2 [(0, .ref w0)] → W p l e ({ frames := 1, cells := 0, slots := 0, locals := 24 } : Room) s m args below meth c H locs 0 0 Q (F0 m 39 ls [])) :
    ∀ (fu : Nat) (i : Nat), 100 - i < fu → (i ≤ 100) → ∀ (H : Heap) (locs : List Loc) (ls : Array Slot), va_P D vwCl [(w0, .inr (5, [.ref w1, .ref w2, .int (nI 0), .int te, .ref w3, .ref w4, .ref w5, .int nt, .int wb, .ref w6, .ref w7, .ref w8, .int rc, .ref w9, .ref w10, .ref w11, .ref w12, .ref w13, .ref w14, .int fp, .int ft, .int th])), (w1, .inl (cI, 100, .inl (bmL sg i))), (w2, .inl (cI, 244, .inl gl))] H → va_D A [(w0, .inr (5, [.ref w1, .ref w2, .int (nI 0), .int te, .ref w3, .ref w4, .ref w5, .int nt, .int wb, .ref w6, .ref w7, .ref w8, .int rc, .ref w9, .ref w10, .ref w11, .ref w12, .ref w13, .ref w14, .int fp, .int ft, .int th])), (w1, .inl (cI, 100, .inl (bmL sg i))), (w2, .inl (cI, 244, .inl gl))] → va_S A s.heap H locs → lv_has ls 2 [(0, .ref w0), (1, .int (nI i))] → W p l e ({ frames := 1, cells := 0, slots := 0, locals := 24 } : Room) s m args below meth c H locs 0 0 Q (F0 m 7 ls []) := by
  intro fu
  induction fu with
  | zero =>
    intro i h0
    exact absurd h0 (Nat.not_lt_zero _)
  | succ fu ih =>
    intro i hmu hi H locs ls hP hD hS hl
    refine lv_iload_n hx hb d_MD_begin_7 rfl (lv_at hl 1 rfl) ?_
    refine lv_bipush (v := nI 100) hx hb d_MD_begin_8 (by decide +kernel) ?_
    refine jn_icmp_ge (tgt := 39) (a := i) (b := 100) hx hb d_MD_begin_10 (by decide) (by omega) (by omega) (fun c_10 => ?_) (fun c_10 => ?_)
    · skip
      obtain rfl : i = 100 := by omega
      exact kx0   _ _ _ (hP.sub [0, 1, 2] rfl) (hD.sub [0, 1, 2] (by decide) rfl) hS (lv_sub hl [0] rfl)
    · skip
      refine lv_aload_n hx hb d_MD_begin_13 rfl (lv_at hl 0 rfl) ?_
      refine va_get (D := D) (ci := 5) (v := .ref w1) (C := R_MD) (T := T_MD) (N := 22) hx hb hw in_MD hown hE.1 hP 0 rfl rfl 0 (by decide) (hw _ kw_761) (fun _ h9 => h9) rfl d_MD_begin_14 ?_
      refine lv_iload_n hx hb d_MD_begin_17 rfl (lv_at hl 1 rfl) ?_
      refine lv_iload_n hx hb d_MD_begin_18 rfl (lv_at hl 1 rfl) ?_
      refine lv_iconst (v := nI 1) hx hb d_MD_begin_19 (by decide +kernel) ?_
      refine lv_iconst (v := nI 4) hx hb d_MD_begin_20 (by decide +kernel) ?_
      refine vp_callSi (va_Run.run (va_runS (As := [.int (nI i), .int (nI 1), .int (nI 4)]) (rest := [.int (nI i), .ref w1]) ⟨hx, hb, hml, hown, hw⟩ (k_MD_within l D cI cJ (nI i) (nI 1) (nI 4)) (va_cwS 3 hw (gS kw_840 kw_841 kw_45 kw_842) rfl rfl rfl (by decide +kernel) ⟨Nat.le_of_ble_eq_true rfl, Nat.le_of_ble_eq_true rfl⟩) (pre_Sp (wc := []) hE hX hP hS [] rfl) rfl rfl hl.1 rfl (lv_room (Nat.le_of_ble_eq_true rfl)) d_MD_begin_21 ⟨Nat.le_of_ble_eq_true rfl, Nat.le_of_ble_eq_true rfl⟩)) (fun r_1 hr_1 => ?_)
      obtain rfl : nI (wiN (nI i) (nI 1) (nI 4)) = r_1 := hr_1.symm
      refine jn_if_eq (tgt := 31) (a := (wiN (nI i) (nI 1) (nI 4))) hx hb d_MD_begin_24 (by decide) (by have := wiN_le (nI i) (nI 1) (nI 4); omega) (fun c_24 => ?_) (fun c_24 => ?_)
      · skip
        refine lv_iconst (v := nI 0) hx hb d_MD_begin_31 (by decide +kernel) ?_
        refine jn_iast (k := i) hx hb hE.1 hP hD hS 1 0 rfl rfl (by omega) (by omega) d_MD_begin_32 (fun H locs hP hD hS => ?_)
        have hP : va_P D vwCl [(w0, .inr (5, [.ref w1, .ref w2, .int (nI 0), .int te, .ref w3, .ref w4, .ref w5, .int nt, .int wb, .ref w6, .ref w7, .ref w8, .int rc, .ref w9, .ref w10, .ref w11, .ref w12, .ref w13, .ref w14, .int fp, .int ft, .int th])), (w1, .inl (cI, 100, .inl (upd (bmL sg i) i (nI 0)))), (w2, .inl (cI, 244, .inl gl))] H := hP
        have hD : va_D A [(w0, .inr (5, [.ref w1, .ref w2, .int (nI 0), .int te, .ref w3, .ref w4, .ref w5, .int nt, .int wb, .ref w6, .ref w7, .ref w8, .int rc, .ref w9, .ref w10, .ref w11, .ref w12, .ref w13, .ref w14, .int fp, .int ft, .int th])), (w1, .inl (cI, 100, .inl (upd (bmL sg i) i (nI 0)))), (w2, .inl (cI, 244, .inl gl))] := hD
        refine lv_iinc (v := nI (i + 1)) (lv' := [(1, .int (nI (i + 1))), (0, .ref w0)]) hx hb d_MD_begin_33 hl (k := 1) rfl (jn_inc i 1) (by decide) rfl (fun ls hl => ?_)
        refine lv_goto (tgt := 7) hx hb d_MD_begin_36 (by decide) ?_
        rw [bmL_succ (by rw [if_pos c_24])] at hP hD
        exact ih (i + 1) (by omega) (by omega) _ _ _ (hP.sub [0, 1, 2] rfl) (hD.sub [0, 1, 2] (by decide) rfl) hS (lv_sub hl [1, 0] rfl)
      · skip
        refine lv_iconst (v := nI 1) hx hb d_MD_begin_27 (by decide +kernel) ?_
        refine lv_goto (tgt := 32) hx hb d_MD_begin_28 (by decide) ?_
        refine jn_iast (k := i) hx hb hE.1 hP hD hS 1 0 rfl rfl (by omega) (by omega) d_MD_begin_32 (fun H locs hP hD hS => ?_)
        have hP : va_P D vwCl [(w0, .inr (5, [.ref w1, .ref w2, .int (nI 0), .int te, .ref w3, .ref w4, .ref w5, .int nt, .int wb, .ref w6, .ref w7, .ref w8, .int rc, .ref w9, .ref w10, .ref w11, .ref w12, .ref w13, .ref w14, .int fp, .int ft, .int th])), (w1, .inl (cI, 100, .inl (upd (bmL sg i) i (nI 1)))), (w2, .inl (cI, 244, .inl gl))] H := hP
        have hD : va_D A [(w0, .inr (5, [.ref w1, .ref w2, .int (nI 0), .int te, .ref w3, .ref w4, .ref w5, .int nt, .int wb, .ref w6, .ref w7, .ref w8, .int rc, .ref w9, .ref w10, .ref w11, .ref w12, .ref w13, .ref w14, .int fp, .int ft, .int th])), (w1, .inl (cI, 100, .inl (upd (bmL sg i) i (nI 1)))), (w2, .inl (cI, 244, .inl gl))] := hD
        refine lv_iinc (v := nI (i + 1)) (lv' := [(1, .int (nI (i + 1))), (0, .ref w0)]) hx hb d_MD_begin_33 hl (k := 1) rfl (jn_inc i 1) (by decide) rfl (fun ls hl => ?_)
        refine lv_goto (tgt := 7) hx hb d_MD_begin_36 (by decide) ?_
        rw [bmL_succ (by rw [if_neg c_24])] at hP hD
        exact ih (i + 1) (by omega) (by omega) _ _ _ (hP.sub [0, 1, 2] rfl) (hD.sub [0, 1, 2] (by decide) rfl) hS (lv_sub hl [1, 0] rfl)
set_option maxHeartbeats 4000000 in
set_option maxRecDepth 100000 in
/-- begin -/
theorem k_MD_begin (l : Launch) (D : va_G) (cI cJ : ClassId) (w0 : Nat) (w1 : Nat) (w2 : Nat) (w3 : Nat) (w4 : Nat) (w5 : Nat) (w6 : Nat) (w7 : Nat) (w8 : Nat) (w9 : Nat) (w10 : Nat) (w11 : Nat) (w12 : Nat) (w13 : Nat) (w14 : Nat) (yt : Int32) (te : Int32) (nt : Int32) (wb : Int32) (rc : Int32) (fp : Int32) (ft : Int32) (th : Int32) (sg : Nat → Int32) (gl : Nat → Int32) (sz : Nat)  : Met l y_MD_begin ws_MD_begin ({ frames := 1, cells := 0, slots := 0, locals := 24 } : Room) (va_Pc [.ref w0] (Pw D cI cJ [(w0, .inr (5, [.ref w1, .ref w2, .int yt, .int te, .ref w3, .ref w4, .ref w5, .int nt, .int wb, .ref w6, .ref w7, .ref w8, .int rc, .ref w9, .ref w10, .ref w11, .ref w12, .ref w13, .ref w14, .int fp, .int ft, .int th])), (w1, .inl (cI, 100, .inl sg)), (w2, .inl (cI, 244, .inl gl))] sz)) (va_Qv (fun (_u : Unit) => True) (fun _u t9 => Bw D (va_A [(w0, .inr (5, [.ref w1, .ref w2, .int yt, .int te, .ref w3, .ref w4, .ref w5, .int nt, .int wb, .ref w6, .ref w7, .ref w8, .int rc, .ref w9, .ref w10, .ref w11, .ref w12, .ref w13, .ref w14, .int fp, .int ft, .int th])), (w1, .inl (cI, 100, .inl sg)), (w2, .inl (cI, 244, .inl gl))] sz) [(w0, .inr (5, [.ref w1, .ref w2, .int (nI 2), .int (nI 2), .ref w3, .ref w4, .ref w5, .int nt, .int wb, .ref w6, .ref w7, .ref w8, .int rc, .ref w9, .ref w10, .ref w11, .ref w12, .ref w13, .ref w14, .int fp, .int ft, .int th])), (w1, .inl (cI, 100, .inl (bmL sg 100))), (w2, .inl (cI, 244, .inl (bgG gl)))] t9) (va_A [(w0, .inr (5, [.ref w1, .ref w2, .int yt, .int te, .ref w3, .ref w4, .ref w5, .int nt, .int wb, .ref w6, .ref w7, .ref w8, .int rc, .ref w9, .ref w10, .ref w11, .ref w12, .ref w13, .ref w14, .int fp, .int ft, .int th])), (w1, .inl (cI, 100, .inl sg)), (w2, .inl (cI, 244, .inl gl))] sz)) 0 0 (va_A [(w0, .inr (5, [.ref w1, .ref w2, .int yt, .int te, .ref w3, .ref w4, .ref w5, .int nt, .int wb, .ref w6, .ref w7, .ref w8, .int rc, .ref w9, .ref w10, .ref w11, .ref w12, .ref w13, .ref w14, .int fp, .int ft, .int th])), (w1, .inl (cI, 100, .inl sg)), (w2, .inl (cI, 244, .inl gl))] sz) := by
  refine Met.ofW (cc := c_MD_begin) (maxL := 2) (ret := none) (by decide) rfl ?_
  intro p e s m args below meth c s₁ B hml hv
  obtain ⟨rfl, hsz, hE, hP, hD0, hX⟩ := hv
  have hx := B.exec
  have hb := B.bytes
  have hr := B.returns
  have hw : ∀ w ∈ gw, w.before _ s = true := fun w h => atoms_spec (ws := ws_MD_begin) B.pre w (List.mem_cons_of_mem _ h)
  have hown : s.vm.findClass R_MD = some m.cls := findClass_of_methodNamed B.named
  have hlocks := B.notSynchronized
  subst hsz
  have hD := hD0.self (sz := s.heap.size)
  generalize hAe : va_A [(w0, .inr (5, [.ref w1, .ref w2, .int yt, .int te, .ref w3, .ref w4, .ref w5, .int nt, .int wb, .ref w6, .ref w7, .ref w8, .int rc, .ref w9, .ref w10, .ref w11, .ref w12, .ref w13, .ref w14, .int fp, .int ft, .int th])), (w1, .inl (cI, 100, .inl sg)), (w2, .inl (cI, 244, .inl gl))] s.heap.size = A at hD hX ⊢
  have hA : ∀ q : Nat, s.heap.size ≤ q → A q := fun q h => by rw [← hAe]; exact Or.inr h
  have hS : va_S A s.heap s.heap [] := va_S.rf
  have hP : va_P D vwCl [(w0, .inr (5, [.ref w1, .ref w2, .int yt, .int te, .ref w3, .ref w4, .ref w5, .int nt, .int wb, .ref w6, .ref w7, .ref w8, .int rc, .ref w9, .ref w10, .ref w11, .ref w12, .ref w13, .ref w14, .int fp, .int ft, .int th])), (w1, .inl (cI, 100, .inl sg)), (w2, .inl (cI, 244, .inl gl))] s.heap := hP
  have hl := lv_entry ([.ref w0]) (n := 2) (Nat.le_of_ble_eq_true rfl)
  rw [lg_entry_eq]
  generalize (lg_sl ([.ref w0]) ++ List.replicate (2 - (lg_sl ([.ref w0])).length) Slot.unset).toArray = ls at hl ⊢
  have hl : lv_has ls 2 [(0, .ref w0)] := hl
  refine lv_aload_n hx hb d_MD_begin_0 rfl (lv_at hl 0 rfl) ?_
  refine lv_iconst (v := nI 0) hx hb d_MD_begin_1 (by decide +kernel) ?_
  refine va_put (D := D) (ci := 5) (v := .int (nI 0)) (ty := .int) (C := R_MD) (T := T_MD) (N := 22) hx hb hw in_MD ty_MD ty_MD_ok nm_MD_ok hown hE.1 hP hD hS 0 rfl rfl 2 (by decide) (hw _ kw_763) (fun _ h9 => h9) rfl (by decide +kernel) rfl rfl (Nat.le_of_ble_eq_true rfl) d_MD_begin_2 (fun H locs hP hD hS => ?_)
  have hP : va_P D vwCl [(w0, .inr (5, [.ref w1, .ref w2, .int (nI 0), .int te, .ref w3, .ref w4, .ref w5, .int nt, .int wb, .ref w6, .ref w7, .ref w8, .int rc, .ref w9, .ref w10, .ref w11, .ref w12, .ref w13, .ref w14, .int fp, .int ft, .int th])), (w1, .inl (cI, 100, .inl sg)), (w2, .inl (cI, 244, .inl gl))] H := hP
  have hD : va_D A [(w0, .inr (5, [.ref w1, .ref w2, .int (nI 0), .int te, .ref w3, .ref w4, .ref w5, .int nt, .int wb, .ref w6, .ref w7, .ref w8, .int rc, .ref w9, .ref w10, .ref w11, .ref w12, .ref w13, .ref w14, .int fp, .int ft, .int th])), (w1, .inl (cI, 100, .inl sg)), (w2, .inl (cI, 244, .inl gl))] := hD
  refine lv_iconst (v := nI 0) hx hb d_MD_begin_5 (by decide +kernel) ?_
  refine lv_istore_n (lv' := [(1, .int (nI 0)), (0, .ref w0)]) hx hb d_MD_begin_6 rfl hl (by decide) rfl (fun ls hl => ?_)
  rw [← bmL_zero sg] at hP hD
  refine lp_k_MD_begin_7 w0 w1 w2 w3 w4 w5 w6 w7 w8 w9 w10 w11 w12 w13 w14 yt te nt wb rc fp ft th sg gl hx hb hml hown hw hE hX hA (fun H locs ls hP hD hS hl => ?_) ((100 - 0) + 1) 0 (Nat.lt_succ_self _) (Nat.zero_le _) _ _ _ (hP.sub [0, 1, 2] rfl) (hD.sub [0, 1, 2] (by decide) rfl) hS (lv_sub hl [1, 0] rfl)
  refine lv_aload_n hx hb d_MD_begin_39 rfl (lv_at hl 0 rfl) ?_
  refine lv_iconst (v := nI 2) hx hb d_MD_begin_40 (by decide +kernel) ?_
  refine va_put (D := D) (ci := 5) (v := .int (nI 2)) (ty := .int) (C := R_MD) (T := T_MD) (N := 22) hx hb hw in_MD ty_MD ty_MD_ok nm_MD_ok hown hE.1 hP hD hS 0 rfl rfl 3 (by decide) (hw _ kw_764) (fun _ h9 => h9) rfl (by decide +kernel) rfl rfl (Nat.le_of_ble_eq_true rfl) d_MD_begin_41 (fun H locs hP hD hS => ?_)
  have hP : va_P D vwCl [(w0, .inr (5, [.ref w1, .ref w2, .int (nI 0), .int (nI 2), .ref w3, .ref w4, .ref w5, .int nt, .int wb, .ref w6, .ref w7, .ref w8, .int rc, .ref w9, .ref w10, .ref w11, .ref w12, .ref w13, .ref w14, .int fp, .int ft, .int th])), (w1, .inl (cI, 100, .inl (bmL sg 100))), (w2, .inl (cI, 244, .inl gl))] H := hP
  have hD : va_D A [(w0, .inr (5, [.ref w1, .ref w2, .int (nI 0), .int (nI 2), .ref w3, .ref w4, .ref w5, .int nt, .int wb, .ref w6, .ref w7, .ref w8, .int rc, .ref w9, .ref w10, .ref w11, .ref w12, .ref w13, .ref w14, .int fp, .int ft, .int th])), (w1, .inl (cI, 100, .inl (bmL sg 100))), (w2, .inl (cI, 244, .inl gl))] := hD
  refine lv_aload_n hx hb d_MD_begin_44 rfl (lv_at hl 0 rfl) ?_
  refine lv_iconst (v := nI 1) hx hb d_MD_begin_45 (by decide +kernel) ?_
  refine lv_iconst (v := nI 0) hx hb d_MD_begin_46 (by decide +kernel) ?_
  refine lv_iconst (v := nI 0) hx hb d_MD_begin_47 (by decide +kernel) ?_
  refine lv_iconst (v := nI 0) hx hb d_MD_begin_48 (by decide +kernel) ?_
  refine cl_i (wr := [(w1, .inl (cI, 100, .inl (bmL sg 100)))]) (va_runV (As := [.int (nI 1), .int (nI 0), .int (nI 0), .int (nI 0)]) (rest := []) ⟨hx, hb, hml, hown, hw⟩ (k_MD_add l D cI cJ w0 w1 w2 w3 w4 w5 w6 w7 w8 w9 w10 w11 w12 w13 w14 0 (nI 2) nt wb rc fp ft th gl (nI 1) (nI 0) (nI 0) (nI 0) _ (by omega)) (cwV 4 hw (gV kw_847 kw_849 kw_21 kw_45 kw_850) rfl rfl rfl (by decide +kernel) ⟨Nat.le_of_ble_eq_true rfl, Nat.le_of_ble_eq_true rfl⟩) (pre_Vw (wc := [(w0, .inr (5, [.ref w1, .ref w2, .int (nI 0), .int (nI 2), .ref w3, .ref w4, .ref w5, .int nt, .int wb, .ref w6, .ref w7, .ref w8, .int rc, .ref w9, .ref w10, .ref w11, .ref w12, .ref w13, .ref w14, .int fp, .int ft, .int th])), (w2, .inl (cI, 244, .inl gl))]) (q0 := 0) hE hX hA hP hD hS [0, 2] (by decide) rfl rfl rfl rfl) rfl rfl hl.1 rfl (lv_room (Nat.le_of_ble_eq_true rfl)) d_MD_begin_49 ⟨Nat.le_of_ble_eq_true rfl, Nat.le_of_ble_eq_true rfl⟩) hP hD hS hA [0, 2] [1] rfl rfl (by decide) (by decide) (fun r_1 u_r_1 H locs hr_1 hP hD hS => ?_)
  obtain rfl : nI (0 + 1) = r_1 := hr_1.symm
  have hP : va_P D vwCl [(w1, .inl (cI, 100, .inl (bmL sg 100))), (w0, .inr (5, [.ref w1, .ref w2, .int (nI (0 + 1)), .int (nI 2), .ref w3, .ref w4, .ref w5, .int nt, .int wb, .ref w6, .ref w7, .ref w8, .int rc, .ref w9, .ref w10, .ref w11, .ref w12, .ref w13, .ref w14, .int fp, .int ft, .int th])), (w2, .inl (cI, 244, .inl (agS gl (0 + 1) (nI 1) (nI 0) (nI 0) (nI 0))))] H := hP
  have hD : va_D A [(w1, .inl (cI, 100, .inl (bmL sg 100))), (w0, .inr (5, [.ref w1, .ref w2, .int (nI (0 + 1)), .int (nI 2), .ref w3, .ref w4, .ref w5, .int nt, .int wb, .ref w6, .ref w7, .ref w8, .int rc, .ref w9, .ref w10, .ref w11, .ref w12, .ref w13, .ref w14, .int fp, .int ft, .int th])), (w2, .inl (cI, 244, .inl (agS gl (0 + 1) (nI 1) (nI 0) (nI 0) (nI 0))))] := hD
  refine lv_pop hx hb d_MD_begin_52 rfl ?_
  refine lv_aload_n hx hb d_MD_begin_53 rfl (lv_at hl 0 rfl) ?_
  refine lv_iconst (v := nI 2) hx hb d_MD_begin_54 (by decide +kernel) ?_
  refine lv_iconst (v := nI 0) hx hb d_MD_begin_55 (by decide +kernel) ?_
  refine lv_iconst (v := nI 0) hx hb d_MD_begin_56 (by decide +kernel) ?_
  refine lv_iconst (v := nI 0) hx hb d_MD_begin_57 (by decide +kernel) ?_
  refine cl_i (wr := [(w1, .inl (cI, 100, .inl (bmL sg 100)))]) (va_runV (As := [.int (nI 2), .int (nI 0), .int (nI 0), .int (nI 0)]) (rest := []) ⟨hx, hb, hml, hown, hw⟩ (k_MD_add l D cI cJ w0 w1 w2 w3 w4 w5 w6 w7 w8 w9 w10 w11 w12 w13 w14 (0 + 1) (nI 2) nt wb rc fp ft th (agS gl (0 + 1) (nI 1) (nI 0) (nI 0) (nI 0)) (nI 2) (nI 0) (nI 0) (nI 0) _ (by omega)) (cwV 4 hw (gV kw_847 kw_849 kw_21 kw_45 kw_850) rfl rfl rfl (by decide +kernel) ⟨Nat.le_of_ble_eq_true rfl, Nat.le_of_ble_eq_true rfl⟩) (pre_Vw (wc := [(w0, .inr (5, [.ref w1, .ref w2, .int (nI (0 + 1)), .int (nI 2), .ref w3, .ref w4, .ref w5, .int nt, .int wb, .ref w6, .ref w7, .ref w8, .int rc, .ref w9, .ref w10, .ref w11, .ref w12, .ref w13, .ref w14, .int fp, .int ft, .int th])), (w2, .inl (cI, 244, .inl (agS gl (0 + 1) (nI 1) (nI 0) (nI 0) (nI 0))))]) (q0 := 0) hE hX hA hP hD hS [1, 2] (by decide) rfl rfl rfl rfl) rfl rfl hl.1 rfl (lv_room (Nat.le_of_ble_eq_true rfl)) d_MD_begin_58 ⟨Nat.le_of_ble_eq_true rfl, Nat.le_of_ble_eq_true rfl⟩) hP hD hS hA [1, 2] [0] rfl rfl (by decide) (by decide) (fun r_2 u_r_2 H locs hr_2 hP hD hS => ?_)
  obtain rfl : nI ((0 + 1) + 1) = r_2 := hr_2.symm
  have hP : va_P D vwCl [(w1, .inl (cI, 100, .inl (bmL sg 100))), (w0, .inr (5, [.ref w1, .ref w2, .int (nI ((0 + 1) + 1)), .int (nI 2), .ref w3, .ref w4, .ref w5, .int nt, .int wb, .ref w6, .ref w7, .ref w8, .int rc, .ref w9, .ref w10, .ref w11, .ref w12, .ref w13, .ref w14, .int fp, .int ft, .int th])), (w2, .inl (cI, 244, .inl (agS (agS gl (0 + 1) (nI 1) (nI 0) (nI 0) (nI 0)) ((0 + 1) + 1) (nI 2) (nI 0) (nI 0) (nI 0))))] H := hP
  have hD : va_D A [(w1, .inl (cI, 100, .inl (bmL sg 100))), (w0, .inr (5, [.ref w1, .ref w2, .int (nI ((0 + 1) + 1)), .int (nI 2), .ref w3, .ref w4, .ref w5, .int nt, .int wb, .ref w6, .ref w7, .ref w8, .int rc, .ref w9, .ref w10, .ref w11, .ref w12, .ref w13, .ref w14, .int fp, .int ft, .int th])), (w2, .inl (cI, 244, .inl (agS (agS gl (0 + 1) (nI 1) (nI 0) (nI 0) (nI 0)) ((0 + 1) + 1) (nI 2) (nI 0) (nI 0) (nI 0))))] := hD
  refine lv_pop hx hb d_MD_begin_61 rfl ?_
  have hP9 := hP.sub (ws' := [(w0, .inr (5, [.ref w1, .ref w2, .int (nI ((0 + 1) + 1)), .int (nI 2), .ref w3, .ref w4, .ref w5, .int nt, .int wb, .ref w6, .ref w7, .ref w8, .int rc, .ref w9, .ref w10, .ref w11, .ref w12, .ref w13, .ref w14, .int fp, .int ft, .int th])), (w1, .inl (cI, 100, .inl (bmL sg 100))), (w2, .inl (cI, 244, .inl (agS (agS gl (0 + 1) (nI 1) (nI 0) (nI 0) (nI 0)) ((0 + 1) + 1) (nI 2) (nI 0) (nI 0) (nI 0))))]) [1, 0, 2] rfl
  have hD9 := hD.sub (ws' := [(w0, .inr (5, [.ref w1, .ref w2, .int (nI ((0 + 1) + 1)), .int (nI 2), .ref w3, .ref w4, .ref w5, .int nt, .int wb, .ref w6, .ref w7, .ref w8, .int rc, .ref w9, .ref w10, .ref w11, .ref w12, .ref w13, .ref w14, .int fp, .int ft, .int th])), (w1, .inl (cI, 100, .inl (bmL sg 100))), (w2, .inl (cI, 244, .inl (agS (agS gl (0 + 1) (nI 1) (nI 0) (nI 0) (nI 0)) ((0 + 1) + 1) (nI 2) (nI 0) (nI 0) (nI 0))))]) [1, 0, 2] (by decide) rfl
  exact W.vret hx hb hr (fun t9 ht hW => ⟨⟨(), rfl, trivial, ⟨by rw [ht]; exact hP9, hD9⟩⟩, hS.F ht⟩) hS.2.2 d_MD_begin_62
set_option maxHeartbeats 4000000 in
set_option maxRecDepth 100000 in
theorem lp_k_MD_counter_153 {p : Program} {l : Launch} {e : Env} {s : State} {m : MethodId} {args : Array Value} {below : List Frame} {meth : Method} {c : Code} {D : va_G} {cI cJ : ClassId} {Q : State → Prop} {A : Nat → Prop} (w0 : Nat) (w1 : Nat) (w2 : Nat) (w3 : Nat) (w4 : Nat) (w5 : Nat) (w6 : Nat) (w7 : Nat) (w8 : Nat) (w9 : Nat) (w10 : Nat) (w11 : Nat) (w12 : Nat) (w13 : Nat) (w14 : Nat) (y : Nat) (te : Int32) (nt : Int32) (wb : Int32) (rc : Int32) (fp : Int32) (ft : Int32) (th : Int32) (sg : Nat → Int32) (gl : Nat → Int32) (fi : Nat → Int32) (ip : Nat → Int32) (se : Nat → Int32) (x : Int32) (v : Int32) (z : Int32)  (a9 : Nat) (h1a : 1 ≤ a9) (h2a : a9 ≤ 30) (b9 : Nat) (hx : p.tables.exec = Jvm.exec) (hb : c.code = c_MD_counter) (hml : c.maxLocals = 7) (hown : s.vm.findClass R_MD = some m.cls) (hw : ∀ w ∈ gw, w.before args s = true) (hE : En D cI cJ s) (hX : Sx A s s.heap) (hA : ∀ q : Nat, s.heap.size ≤ q → A q)
    (kx0 : ∀ (z9 : PS), (z9 = mrL (fun i => a9 - 1 - i) v (fi, ip, se, nt) a9) → ∀ (H : Heap) (locs : List Loc) (ls : Array Slot), va_P D vwCl [(w0, .inr (5, [.ref w1, .ref w2, .int (nI 7), .int (nI 2), .ref w3, .ref w4, .ref w5, .int z9.2.2.2, .int wb, .ref w6, .ref w7, .ref w8, .int rc, .ref w9, .ref w10, .ref w11, .ref w12, .ref w13, .ref w14, .int fp, .int ft, .int (nI (flN 0 2))])), (w1, .inl (cI, 100, .inl (bmL sg 100))), (w2, .inl (cI, 244, .inl (ctG gl))), (w3, .inl (cI, 1600, .inl z9.1)), (w4, .inl (cI, 1600, .inl z9.2.1)), (w5, .inl (cI, 1600, .inl z9.2.2.1))] H → va_D A [(w0, .inr (5, [.ref w1, .ref w2, .int (nI 7), .int (nI 2), .ref w3, .ref w4, .ref w5, .int z9.2.2.2, .int wb, .ref w6, .ref w7, .ref w8, .int rc, .ref w9, .ref w10, .ref w11, .ref w12, .ref w13, .ref w14, .int fp, .int ft, .int (nI (flN 0 2))])), (w1, .inl (cI, 100, .inl (bmL sg 100))), (w2, .inl (cI, 244, .inl (ctG gl))), (w3, .inl (cI, 1600, .inl z9.1)), (w4, .inl (cI, 1600, .inl z9.2.1)), (w5, .inl (cI, 1600, .inl z9.2.2.1))] → va_S A s.heap H locs → lv_has ls 7 [(0, .ref w0), (1, .int (nI a9)), (3, .int (nI b9))] → W p l e ({ frames := 2, cells := 0, slots := 0, locals := 45 } : Room) s m args below meth c H locs 0 0 Q (F0 m 184 ls [])) :
    ∀ (fu : Nat) (i : Nat) (z9 : PS), a9 - i < fu → (i ≤ a9) → (z9 = mrL (fun i => a9 - 1 - i) v (fi, ip, se, nt) i) → ∀ (H : Heap) (locs : List Loc) (ls : Array Slot), va_P D vwCl [(w0, .inr (5, [.ref w1, .ref w2, .int (nI 7), .int (nI 2), .ref w3, .ref w4, .ref w5, .int z9.2.2.2, .int wb, .ref w6, .ref w7, .ref w8, .int rc, .ref w9, .ref w10, .ref w11, .ref w12, .ref w13, .ref w14, .int fp, .int ft, .int (nI (flN 0 2))])), (w1, .inl (cI, 100, .inl (bmL sg 100))), (w2, .inl (cI, 244, .inl (ctG gl))), (w3, .inl (cI, 1600, .inl z9.1)), (w4, .inl (cI, 1600, .inl z9.2.1)), (w5, .inl (cI, 1600, .inl z9.2.2.1))] H → va_D A [(w0, .inr (5, [.ref w1, .ref w2, .int (nI 7), .int (nI 2), .ref w3, .ref w4, .ref w5, .int z9.2.2.2, .int wb, .ref w6, .ref w7, .ref w8, .int rc, .ref w9, .ref w10, .ref w11, .ref w12, .ref w13, .ref w14, .int fp, .int ft, .int (nI (flN 0 2))])), (w1, .inl (cI, 100, .inl (bmL sg 100))), (w2, .inl (cI, 244, .inl (ctG gl))), (w3, .inl (cI, 1600, .inl z9.1)), (w4, .inl (cI, 1600, .inl z9.2.1)), (w5, .inl (cI, 1600, .inl z9.2.2.1))] → va_S A s.heap H locs → lv_has ls 7 [(0, .ref w0), (1, .int (nI a9)), (2, .int v), (3, .int (nI b9)), (5, .int (nI i))] → W p l e ({ frames := 2, cells := 0, slots := 0, locals := 45 } : Room) s m args below meth c H locs 0 0 Q (F0 m 153 ls []) := by
  intro fu
  induction fu with
  | zero =>
    intro i z9 h0
    exact absurd h0 (Nat.not_lt_zero _)
  | succ fu ih =>
    intro i z9 hmu hi hz H locs ls hP hD hS hl
    refine lv_iload hx hb d_MD_counter_153 (lv_at hl 4 rfl) ?_
    refine lv_iload_n hx hb d_MD_counter_155 rfl (lv_at hl 1 rfl) ?_
    refine jn_icmp_ge (tgt := 184) (a := i) (b := a9) hx hb d_MD_counter_156 (by decide) (by omega) (by omega) (fun c_156 => ?_) (fun c_156 => ?_)
    · skip
      exact kx0 z9 (by rw [hz, show i = a9 by omega]) _ _ _ (hP.sub [0, 1, 2, 3, 4, 5] rfl) (hD.sub [0, 1, 2, 3, 4, 5] (by decide) rfl) hS (lv_sub hl [0, 1, 3] rfl)
    · skip
      refine lv_aload_n hx hb d_MD_counter_159 rfl (lv_at hl 0 rfl) ?_
      refine lv_iload_n hx hb d_MD_counter_160 rfl (lv_at hl 1 rfl) ?_
      refine lv_iconst (v := nI 1) hx hb d_MD_counter_161 (by decide +kernel) ?_
      refine jn_isub (a := a9) (b := 1) hx hb d_MD_counter_162 (by omega) ?_
      refine lv_iload hx hb d_MD_counter_163 (lv_at hl 4 rfl) ?_
      refine jn_isub (a := (a9 - 1)) (b := i) hx hb d_MD_counter_165 (by omega) ?_
      refine lv_iconst (v := nI 0) hx hb d_MD_counter_166 (by decide +kernel) ?_
      refine lv_iconst (v := nI 1) hx hb d_MD_counter_167 (by decide +kernel) ?_
      refine lv_iload_n hx hb d_MD_counter_168 rfl (lv_at hl 2 rfl) ?_
      refine lv_iload hx hb d_MD_counter_169 (lv_at hl 4 rfl) ?_
      refine lv_ishr hx hb d_MD_counter_171 ?_
      refine lv_iconst (v := nI 1) hx hb d_MD_counter_172 (by decide +kernel) ?_
      refine lv_iand hx hb d_MD_counter_173 ?_
      refine W.eq (g2 := F0 m 174 ls [.int (nI (btN v i)), .int (nI 1), .int (nI 0), .int (nI ((a9 - 1) - i)), .ref w0]) (by rw [bt_and]) ?_
      refine jn_iadd (a := 1) (b := (btN v i)) hx hb d_MD_counter_174 ?_
      refine cl_v (wr := [(w1, .inl (cI, 100, .inl (bmL sg 100))), (w2, .inl (cI, 244, .inl (ctG gl)))]) (va_runV (As := [.int (nI ((a9 - 1) - i)), .int (nI 0), .int (nI (1 + (btN v i)))]) (rest := []) ⟨hx, hb, hml, hown, hw⟩ (k_MD_plant l D cI cJ w0 w1 w2 w3 w4 w5 w6 w7 w8 w9 w10 w11 w12 w13 w14 (nI 7) (nI 2) z9.2.2.2 wb rc fp ft (nI (flN 0 2)) z9.1 z9.2.1 z9.2.2.1 ((a9 - 1) - i) 0 (nI (1 + (btN v i))) _ (by omega)) (cwV 3 hw (gV kw_866 kw_868 kw_23 kw_45 kw_869) rfl rfl rfl (by decide +kernel) ⟨Nat.le_of_ble_eq_true rfl, Nat.le_of_ble_eq_true rfl⟩) (pre_Vw (wc := [(w0, .inr (5, [.ref w1, .ref w2, .int (nI 7), .int (nI 2), .ref w3, .ref w4, .ref w5, .int z9.2.2.2, .int wb, .ref w6, .ref w7, .ref w8, .int rc, .ref w9, .ref w10, .ref w11, .ref w12, .ref w13, .ref w14, .int fp, .int ft, .int (nI (flN 0 2))])), (w3, .inl (cI, 1600, .inl z9.1)), (w4, .inl (cI, 1600, .inl z9.2.1)), (w5, .inl (cI, 1600, .inl z9.2.2.1))]) (q0 := 0) hE hX hA hP hD hS [0, 3, 4, 5] (by decide) rfl rfl rfl rfl) rfl rfl hl.1 rfl (lv_room (Nat.le_of_ble_eq_true rfl)) d_MD_counter_175 ⟨Nat.le_of_ble_eq_true rfl, Nat.le_of_ble_eq_true rfl⟩) hP hD hS hA [0, 3, 4, 5] [1, 2] rfl rfl (by decide) (by decide) (fun u_r_1 H locs hr_1 hP hD hS => ?_)
      have hP : va_P D vwCl [(w1, .inl (cI, 100, .inl (bmL sg 100))), (w2, .inl (cI, 244, .inl (ctG gl))), (w0, .inr (5, [.ref w1, .ref w2, .int (nI 7), .int (nI 2), .ref w3, .ref w4, .ref w5, .int (z9.2.2.2 + nI 1), .int wb, .ref w6, .ref w7, .ref w8, .int rc, .ref w9, .ref w10, .ref w11, .ref w12, .ref w13, .ref w14, .int fp, .int ft, .int (nI (flN 0 2))])), (w3, .inl (cI, 1600, .inl (upd z9.1 (40 * 0 + ((a9 - 1) - i)) (nI (1 + (btN v i)))))), (w4, .inl (cI, 1600, .inl (upd z9.2.1 (40 * 0 + ((a9 - 1) - i)) (nI 0)))), (w5, .inl (cI, 1600, .inl (upd z9.2.2.1 (40 * 0 + ((a9 - 1) - i)) (nI 1))))] H := hP
      have hD : va_D A [(w1, .inl (cI, 100, .inl (bmL sg 100))), (w2, .inl (cI, 244, .inl (ctG gl))), (w0, .inr (5, [.ref w1, .ref w2, .int (nI 7), .int (nI 2), .ref w3, .ref w4, .ref w5, .int (z9.2.2.2 + nI 1), .int wb, .ref w6, .ref w7, .ref w8, .int rc, .ref w9, .ref w10, .ref w11, .ref w12, .ref w13, .ref w14, .int fp, .int ft, .int (nI (flN 0 2))])), (w3, .inl (cI, 1600, .inl (upd z9.1 (40 * 0 + ((a9 - 1) - i)) (nI (1 + (btN v i)))))), (w4, .inl (cI, 1600, .inl (upd z9.2.1 (40 * 0 + ((a9 - 1) - i)) (nI 0)))), (w5, .inl (cI, 1600, .inl (upd z9.2.2.1 (40 * 0 + ((a9 - 1) - i)) (nI 1))))] := hD
      refine lv_iinc (v := nI (i + 1)) (lv' := [(5, .int (nI (i + 1))), (0, .ref w0), (1, .int (nI a9)), (2, .int v), (3, .int (nI b9))]) hx hb d_MD_counter_178 hl (k := 4) rfl (jn_inc i 1) (by decide) rfl (fun ls hl => ?_)
      refine lv_goto (tgt := 153) hx hb d_MD_counter_181 (by decide) ?_
      exact ih (i + 1) (mpP (40 * 0 + (fun i => a9 - 1 - i) i) (nI (1 + btN v i)) z9) (by omega) (by omega) (by rw [mrL, ← hz]) _ _ _ (hP.sub [2, 0, 1, 3, 4, 5] rfl) (hD.sub [2, 0, 1, 3, 4, 5] (by decide) rfl) hS (lv_sub hl [1, 2, 3, 4, 0] rfl)
set_option maxHeartbeats 4000000 in
set_option maxRecDepth 100000 in
theorem lp_k_MD_counter_187 {p : Program} {l : Launch} {e : Env} {s : State} {m : MethodId} {args : Array Value} {below : List Frame} {meth : Method} {c : Code} {D : va_G} {cI cJ : ClassId} {Q : State → Prop} {A : Nat → Prop} (w0 : Nat) (w1 : Nat) (w2 : Nat) (w3 : Nat) (w4 : Nat) (w5 : Nat) (w6 : Nat) (w7 : Nat) (w8 : Nat) (w9 : Nat) (w10 : Nat) (w11 : Nat) (w12 : Nat) (w13 : Nat) (w14 : Nat) (y : Nat) (te : Int32) (nt : Int32) (wb : Int32) (rc : Int32) (fp : Int32) (ft : Int32) (th : Int32) (sg : Nat → Int32) (gl : Nat → Int32) (fi : Nat → Int32) (ip : Nat → Int32) (se : Nat → Int32) (x : Int32) (v : Int32) (z : Int32)  (a9 : Nat) (h2a : a9 ≤ 30) (b9 : Nat) (h1b : 1 ≤ b9) (h2b : b9 ≤ 40) (z9 : PS) (hx : p.tables.exec = Jvm.exec) (hb : c.code = c_MD_counter) (hml : c.maxLocals = 7) (hown : s.vm.findClass R_MD = some m.cls) (hw : ∀ w ∈ gw, w.before args s = true) (hE : En D cI cJ s) (hX : Sx A s s.heap) (hA : ∀ q : Nat, s.heap.size ≤ q → A q)
    (kx0 : ∀ (z8 : PS), (z8 = mkL a9 z9 (b9 - 1)) → ∀ (H : Heap) (locs : List Loc) (ls : Array Slot), va_P D vwCl [(w0, .inr (5, [.ref w1, .ref w2, .int (nI 7), .int (nI 2), .ref w3, .ref w4, .ref w5, .int z8.2.2.2, .int wb, .ref w6, .ref w7, .ref w8, .int rc, .ref w9, .ref w10, .ref w11, .ref w12, .ref w13, .ref w14, .int fp, .int ft, .int (nI (flN 0 2))])), (w1, .inl (cI, 100, .inl (bmL sg 100))), (w2, .inl (cI, 244, .inl (ctG gl))), (w3, .inl (cI, 1600, .inl z8.1)), (w4, .inl (cI, 1600, .inl z8.2.1)), (w5, .inl (cI, 1600, .inl z8.2.2.1))] H → va_D A [(w0, .inr (5, [.ref w1, .ref w2, .int (nI 7), .int (nI 2), .ref w3, .ref w4, .ref w5, .int z8.2.2.2, .int wb, .ref w6, .ref w7, .ref w8, .int rc, .ref w9, .ref w10, .ref w11, .ref w12, .ref w13, .ref w14, .int fp, .int ft, .int (nI (flN 0 2))])), (w1, .inl (cI, 100, .inl (bmL sg 100))), (w2, .inl (cI, 244, .inl (ctG gl))), (w3, .inl (cI, 1600, .inl z8.1)), (w4, .inl (cI, 1600, .inl z8.2.1)), (w5, .inl (cI, 1600, .inl z8.2.2.1))] → va_S A s.heap H locs → lv_has ls 7 [(0, .ref w0)] → W p l e ({ frames := 2, cells := 0, slots := 0, locals := 45 } : Room) s m args below meth c H locs 0 0 Q (F0 m 207 ls [])) :
    ∀ (fu : Nat) (y9 : Nat) (z8 : PS), b9 - y9 < fu → (1 ≤ y9) → (y9 ≤ b9) → (z8 = mkL a9 z9 (y9 - 1)) → ∀ (H : Heap) (locs : List Loc) (ls : Array Slot), va_P D vwCl [(w0, .inr (5, [.ref w1, .ref w2, .int (nI 7), .int (nI 2), .ref w3, .ref w4, .ref w5, .int z8.2.2.2, .int wb, .ref w6, .ref w7, .ref w8, .int rc, .ref w9, .ref w10, .ref w11, .ref w12, .ref w13, .ref w14, .int fp, .int ft, .int (nI (flN 0 2))])), (w1, .inl (cI, 100, .inl (bmL sg 100))), (w2, .inl (cI, 244, .inl (ctG gl))), (w3, .inl (cI, 1600, .inl z8.1)), (w4, .inl (cI, 1600, .inl z8.2.1)), (w5, .inl (cI, 1600, .inl z8.2.2.1))] H → va_D A [(w0, .inr (5, [.ref w1, .ref w2, .int (nI 7), .int (nI 2), .ref w3, .ref w4, .ref w5, .int z8.2.2.2, .int wb, .ref w6, .ref w7, .ref w8, .int rc, .ref w9, .ref w10, .ref w11, .ref w12, .ref w13, .ref w14, .int fp, .int ft, .int (nI (flN 0 2))])), (w1, .inl (cI, 100, .inl (bmL sg 100))), (w2, .inl (cI, 244, .inl (ctG gl))), (w3, .inl (cI, 1600, .inl z8.1)), (w4, .inl (cI, 1600, .inl z8.2.1)), (w5, .inl (cI, 1600, .inl z8.2.2.1))] → va_S A s.heap H locs → lv_has ls 7 [(0, .ref w0), (1, .int (nI a9)), (3, .int (nI b9)), (5, .int (nI y9))] → W p l e ({ frames := 2, cells := 0, slots := 0, locals := 45 } : Room) s m args below meth c H locs 0 0 Q (F0 m 187 ls []) := by
  intro fu
  induction fu with
  | zero =>
    intro y9 z8 h0
    exact absurd h0 (Nat.not_lt_zero _)
  | succ fu ih =>
    intro y9 z8 hmu hy1 hy2 hz8 H locs ls hP hD hS hl
    refine lv_iload hx hb d_MD_counter_187 (lv_at hl 3 rfl) ?_
    refine lv_iload_n hx hb d_MD_counter_189 rfl (lv_at hl 2 rfl) ?_
    refine jn_icmp_ge (tgt := 207) (a := y9) (b := b9) hx hb d_MD_counter_190 (by decide) (by omega) (by omega) (fun c_190 => ?_) (fun c_190 => ?_)
    · skip
      exact kx0 z8 (by rw [hz8, show y9 = b9 by omega]) _ _ _ (hP.sub [0, 1, 2, 3, 4, 5] rfl) (hD.sub [0, 1, 2, 3, 4, 5] (by decide) rfl) hS (lv_sub hl [0] rfl)
    · skip
      refine lv_aload_n hx hb d_MD_counter_193 rfl (lv_at hl 0 rfl) ?_
      refine lv_iload_n hx hb d_MD_counter_194 rfl (lv_at hl 1 rfl) ?_
      refine lv_iload hx hb d_MD_counter_195 (lv_at hl 3 rfl) ?_
      refine lv_iconst (v := nI 3) hx hb d_MD_counter_197 (by decide +kernel) ?_
      refine cl_v (wr := [(w1, .inl (cI, 100, .inl (bmL sg 100))), (w2, .inl (cI, 244, .inl (ctG gl)))]) (va_runV (As := [.int (nI a9), .int (nI y9), .int (nI 3)]) (rest := []) ⟨hx, hb, hml, hown, hw⟩ (k_MD_plant l D cI cJ w0 w1 w2 w3 w4 w5 w6 w7 w8 w9 w10 w11 w12 w13 w14 (nI 7) (nI 2) z8.2.2.2 wb rc fp ft (nI (flN 0 2)) z8.1 z8.2.1 z8.2.2.1 a9 y9 (nI 3) _ (by omega)) (cwV 3 hw (gV kw_866 kw_868 kw_23 kw_45 kw_869) rfl rfl rfl (by decide +kernel) ⟨Nat.le_of_ble_eq_true rfl, Nat.le_of_ble_eq_true rfl⟩) (pre_Vw (wc := [(w0, .inr (5, [.ref w1, .ref w2, .int (nI 7), .int (nI 2), .ref w3, .ref w4, .ref w5, .int z8.2.2.2, .int wb, .ref w6, .ref w7, .ref w8, .int rc, .ref w9, .ref w10, .ref w11, .ref w12, .ref w13, .ref w14, .int fp, .int ft, .int (nI (flN 0 2))])), (w3, .inl (cI, 1600, .inl z8.1)), (w4, .inl (cI, 1600, .inl z8.2.1)), (w5, .inl (cI, 1600, .inl z8.2.2.1))]) (q0 := 0) hE hX hA hP hD hS [0, 3, 4, 5] (by decide) rfl rfl rfl rfl) rfl rfl hl.1 rfl (lv_room (Nat.le_of_ble_eq_true rfl)) d_MD_counter_198 ⟨Nat.le_of_ble_eq_true rfl, Nat.le_of_ble_eq_true rfl⟩) hP hD hS hA [0, 3, 4, 5] [1, 2] rfl rfl (by decide) (by decide) (fun u_r_1 H locs hr_1 hP hD hS => ?_)
      have hP : va_P D vwCl [(w1, .inl (cI, 100, .inl (bmL sg 100))), (w2, .inl (cI, 244, .inl (ctG gl))), (w0, .inr (5, [.ref w1, .ref w2, .int (nI 7), .int (nI 2), .ref w3, .ref w4, .ref w5, .int (z8.2.2.2 + nI 1), .int wb, .ref w6, .ref w7, .ref w8, .int rc, .ref w9, .ref w10, .ref w11, .ref w12, .ref w13, .ref w14, .int fp, .int ft, .int (nI (flN 0 2))])), (w3, .inl (cI, 1600, .inl (upd z8.1 (40 * y9 + a9) (nI 3)))), (w4, .inl (cI, 1600, .inl (upd z8.2.1 (40 * y9 + a9) (nI 0)))), (w5, .inl (cI, 1600, .inl (upd z8.2.2.1 (40 * y9 + a9) (nI 1))))] H := hP
      have hD : va_D A [(w1, .inl (cI, 100, .inl (bmL sg 100))), (w2, .inl (cI, 244, .inl (ctG gl))), (w0, .inr (5, [.ref w1, .ref w2, .int (nI 7), .int (nI 2), .ref w3, .ref w4, .ref w5, .int (z8.2.2.2 + nI 1), .int wb, .ref w6, .ref w7, .ref w8, .int rc, .ref w9, .ref w10, .ref w11, .ref w12, .ref w13, .ref w14, .int fp, .int ft, .int (nI (flN 0 2))])), (w3, .inl (cI, 1600, .inl (upd z8.1 (40 * y9 + a9) (nI 3)))), (w4, .inl (cI, 1600, .inl (upd z8.2.1 (40 * y9 + a9) (nI 0)))), (w5, .inl (cI, 1600, .inl (upd z8.2.2.1 (40 * y9 + a9) (nI 1))))] := hD
      refine lv_iinc (v := nI (y9 + 1)) (lv' := [(5, .int (nI (y9 + 1))), (0, .ref w0), (1, .int (nI a9)), (3, .int (nI b9))]) hx hb d_MD_counter_201 hl (k := 3) rfl (jn_inc y9 1) (by decide) rfl (fun ls hl => ?_)
      refine lv_goto (tgt := 187) hx hb d_MD_counter_204 (by decide) ?_
      exact ih (y9 + 1) (mpP (40 * y9 + a9) (nI 3) z8) (by omega) (by omega) (by omega) (by rw [show y9 + 1 - 1 = (y9 - 1) + 1 by omega, mkL, ← hz8, show y9 - 1 + 1 = y9 by omega]) _ _ _ (hP.sub [2, 0, 1, 3, 4, 5] rfl) (hD.sub [2, 0, 1, 3, 4, 5] (by decide) rfl) hS (lv_sub hl [1, 2, 3, 0] rfl)
set_option maxHeartbeats 4000000 in
set_option maxRecDepth 100000 in
/-- counter -/
theorem k_MD_counter (l : Launch) (D : va_G) (cI cJ : ClassId) (w0 : Nat) (w1 : Nat) (w2 : Nat) (w3 : Nat) (w4 : Nat) (w5 : Nat) (w6 : Nat) (w7 : Nat) (w8 : Nat) (w9 : Nat) (w10 : Nat) (w11 : Nat) (w12 : Nat) (w13 : Nat) (w14 : Nat) (y : Nat) (te : Int32) (nt : Int32) (wb : Int32) (rc : Int32) (fp : Int32) (ft : Int32) (th : Int32) (sg : Nat → Int32) (gl : Nat → Int32) (fi : Nat → Int32) (ip : Nat → Int32) (se : Nat → Int32) (x : Int32) (v : Int32) (z : Int32) (sz : Nat)  : Met l y_MD_counter ws_MD_counter ({ frames := 2, cells := 0, slots := 0, locals := 45 } : Room) (va_Pc [.ref w0, .int x, .int v, .int z] (Pw D cI cJ [(w0, .inr (5, [.ref w1, .ref w2, .int (nI y), .int te, .ref w3, .ref w4, .ref w5, .int nt, .int wb, .ref w6, .ref w7, .ref w8, .int rc, .ref w9, .ref w10, .ref w11, .ref w12, .ref w13, .ref w14, .int fp, .int ft, .int th])), (w1, .inl (cI, 100, .inl sg)), (w2, .inl (cI, 244, .inl gl)), (w3, .inl (cI, 1600, .inl fi)), (w4, .inl (cI, 1600, .inl ip)), (w5, .inl (cI, 1600, .inl se))] sz)) (va_Qi (fun (r : Int32) (u9 : CS) => (r, u9) = mcoV sg gl y te (fi, ip, se, nt) x v z) (fun u9 t9 => Bw D (va_A [(w0, .inr (5, [.ref w1, .ref w2, .int (nI y), .int te, .ref w3, .ref w4, .ref w5, .int nt, .int wb, .ref w6, .ref w7, .ref w8, .int rc, .ref w9, .ref w10, .ref w11, .ref w12, .ref w13, .ref w14, .int fp, .int ft, .int th])), (w1, .inl (cI, 100, .inl sg)), (w2, .inl (cI, 244, .inl gl)), (w3, .inl (cI, 1600, .inl fi)), (w4, .inl (cI, 1600, .inl ip)), (w5, .inl (cI, 1600, .inl se))] sz) [(w0, .inr (5, [.ref w1, .ref w2, .int (nI u9.2.2.1), .int u9.2.2.2.1, .ref w3, .ref w4, .ref w5, .int u9.2.2.2.2.1.2.2.2, .int wb, .ref w6, .ref w7, .ref w8, .int rc, .ref w9, .ref w10, .ref w11, .ref w12, .ref w13, .ref w14, .int fp, .int ft, .int u9.2.2.2.2.2])), (w1, .inl (cI, 100, .inl u9.1)), (w2, .inl (cI, 244, .inl u9.2.1)), (w3, .inl (cI, 1600, .inl u9.2.2.2.2.1.1)), (w4, .inl (cI, 1600, .inl u9.2.2.2.2.1.2.1)), (w5, .inl (cI, 1600, .inl u9.2.2.2.2.1.2.2.1))] t9) (va_A [(w0, .inr (5, [.ref w1, .ref w2, .int (nI y), .int te, .ref w3, .ref w4, .ref w5, .int nt, .int wb, .ref w6, .ref w7, .ref w8, .int rc, .ref w9, .ref w10, .ref w11, .ref w12, .ref w13, .ref w14, .int fp, .int ft, .int th])), (w1, .inl (cI, 100, .inl sg)), (w2, .inl (cI, 244, .inl gl)), (w3, .inl (cI, 1600, .inl fi)), (w4, .inl (cI, 1600, .inl ip)), (w5, .inl (cI, 1600, .inl se))] sz)) 0 0 (va_A [(w0, .inr (5, [.ref w1, .ref w2, .int (nI y), .int te, .ref w3, .ref w4, .ref w5, .int nt, .int wb, .ref w6, .ref w7, .ref w8, .int rc, .ref w9, .ref w10, .ref w11, .ref w12, .ref w13, .ref w14, .int fp, .int ft, .int th])), (w1, .inl (cI, 100, .inl sg)), (w2, .inl (cI, 244, .inl gl)), (w3, .inl (cI, 1600, .inl fi)), (w4, .inl (cI, 1600, .inl ip)), (w5, .inl (cI, 1600, .inl se))] sz) := by
  refine Met.ofW (cc := c_MD_counter) (maxL := 7) (ret := (some .int)) (by decide) rfl ?_
  intro p e s m args below meth c s₁ B hml hv
  obtain ⟨rfl, hsz, hE, hP, hD0, hX⟩ := hv
  have hx := B.exec
  have hb := B.bytes
  have hr := B.returns
  have hw : ∀ w ∈ gw, w.before _ s = true := fun w h => atoms_spec (ws := ws_MD_counter) B.pre w (List.mem_cons_of_mem _ h)
  have hown : s.vm.findClass R_MD = some m.cls := findClass_of_methodNamed B.named
  have hlocks := B.notSynchronized
  subst hsz
  have hD := hD0.self (sz := s.heap.size)
  generalize hAe : va_A [(w0, .inr (5, [.ref w1, .ref w2, .int (nI y), .int te, .ref w3, .ref w4, .ref w5, .int nt, .int wb, .ref w6, .ref w7, .ref w8, .int rc, .ref w9, .ref w10, .ref w11, .ref w12, .ref w13, .ref w14, .int fp, .int ft, .int th])), (w1, .inl (cI, 100, .inl sg)), (w2, .inl (cI, 244, .inl gl)), (w3, .inl (cI, 1600, .inl fi)), (w4, .inl (cI, 1600, .inl ip)), (w5, .inl (cI, 1600, .inl se))] s.heap.size = A at hD hX ⊢
  have hA : ∀ q : Nat, s.heap.size ≤ q → A q := fun q h => by rw [← hAe]; exact Or.inr h
  have hS : va_S A s.heap s.heap [] := va_S.rf
  have hP : va_P D vwCl [(w0, .inr (5, [.ref w1, .ref w2, .int (nI y), .int te, .ref w3, .ref w4, .ref w5, .int nt, .int wb, .ref w6, .ref w7, .ref w8, .int rc, .ref w9, .ref w10, .ref w11, .ref w12, .ref w13, .ref w14, .int fp, .int ft, .int th])), (w1, .inl (cI, 100, .inl sg)), (w2, .inl (cI, 244, .inl gl)), (w3, .inl (cI, 1600, .inl fi)), (w4, .inl (cI, 1600, .inl ip)), (w5, .inl (cI, 1600, .inl se))] s.heap := hP
  have hl := lv_entry ([.ref w0, .int x, .int v, .int z]) (n := 7) (Nat.le_of_ble_eq_true rfl)
  rw [lg_entry_eq]
  generalize (lg_sl ([.ref w0, .int x, .int v, .int z]) ++ List.replicate (7 - (lg_sl ([.ref w0, .int x, .int v, .int z])).length) Slot.unset).toArray = ls at hl ⊢
  have hl : lv_has ls 7 [(0, .ref w0), (1, .int x), (2, .int v), (3, .int z)] := hl
  refine lv_iload_n hx hb d_MD_counter_0 rfl (lv_at hl 1 rfl) ?_
  refine lv_iconst (v := nI 1) hx hb d_MD_counter_1 (by decide +kernel) ?_
  refine lv_bipush (v := nI 20) hx hb d_MD_counter_2 (by decide +kernel) ?_
  refine vp_callSi (va_Run.run (va_runS (As := [.int x, .int (nI 1), .int (nI 20)]) (rest := []) ⟨hx, hb, hml, hown, hw⟩ (k_MD_within l D cI cJ x (nI 1) (nI 20)) (va_cwS 3 hw (gS kw_840 kw_841 kw_45 kw_842) rfl rfl rfl (by decide +kernel) ⟨Nat.le_of_ble_eq_true rfl, Nat.le_of_ble_eq_true rfl⟩) (pre_Sp (wc := []) hE hX hP hS [] rfl) rfl rfl hl.1 rfl (lv_room (Nat.le_of_ble_eq_true rfl)) d_MD_counter_4 ⟨Nat.le_of_ble_eq_true rfl, Nat.le_of_ble_eq_true rfl⟩)) (fun r_1 hr_1 => ?_)
  obtain rfl : nI (wiN x (nI 1) (nI 20)) = r_1 := hr_1.symm
  refine jn_if_eq (tgt := 35) (a := (wiN x (nI 1) (nI 20))) hx hb d_MD_counter_7 (by decide) (by have := wiN_le x (nI 1) (nI 20); omega) (fun c_7 => ?_) (fun c_7 => ?_)
  · skip
    refine lv_iconst (v := nI 0) hx hb d_MD_counter_35 (by decide +kernel) ?_
    refine lv_istore (lv' := [(4, .int (nI 0)), (0, .ref w0), (1, .int x), (2, .int v), (3, .int z)]) hx hb d_MD_counter_36 hl (by decide) rfl (fun ls hl => ?_)
    refine lv_aload_n hx hb d_MD_counter_38 rfl (lv_at hl 1 rfl) ?_
    refine lv_aload_n hx hb d_MD_counter_39 rfl (lv_at hl 1 rfl) ?_
    refine va_get (D := D) (ci := 5) (v := .int nt) (C := R_MD) (T := T_MD) (N := 22) hx hb hw in_MD hown hE.1 hP 0 rfl rfl 7 (by decide) (hw _ kw_768) (fun _ h9 => h9) rfl d_MD_counter_40 ?_
    refine lv_if_le (tgt := 50) hx hb d_MD_counter_43 (by decide) (fun c_43 => ?_) (fun c_43 => ?_)
    · skip
      refine lv_iconst (v := nI 0) hx hb d_MD_counter_50 (by decide +kernel) ?_
      refine lv_iconst (v := nI 1) hx hb d_MD_counter_51 (by decide +kernel) ?_
      refine cl_i (wr := [(w1, .inl (cI, 100, .inl sg)), (w2, .inl (cI, 244, .inl gl)), (w3, .inl (cI, 1600, .inl fi)), (w4, .inl (cI, 1600, .inl ip)), (w5, .inl (cI, 1600, .inl se))]) (va_runV (As := [.int (nI 0), .int (nI 1)]) (rest := []) ⟨hx, hb, hml, hown, hw⟩ (k_MD_fails l D cI cJ w0 w1 w2 w3 w4 w5 w6 w7 w8 w9 w10 w11 w12 w13 w14 (nI y) te nt wb rc fp ft th 0 1 _ (by omega)) (cwV 2 hw (gV kw_836 kw_838 kw_20 kw_45 kw_839) rfl rfl rfl (by decide +kernel) ⟨Nat.le_of_ble_eq_true rfl, Nat.le_of_ble_eq_true rfl⟩) (pre_Vw (wc := [(w0, .inr (5, [.ref w1, .ref w2, .int (nI y), .int te, .ref w3, .ref w4, .ref w5, .int nt, .int wb, .ref w6, .ref w7, .ref w8, .int rc, .ref w9, .ref w10, .ref w11, .ref w12, .ref w13, .ref w14, .int fp, .int ft, .int th]))]) (q0 := 0) hE hX hA hP hD hS [0] (by decide) rfl rfl rfl rfl) rfl rfl hl.1 rfl (lv_room (Nat.le_of_ble_eq_true rfl)) d_MD_counter_52 ⟨Nat.le_of_ble_eq_true rfl, Nat.le_of_ble_eq_true rfl⟩) hP hD hS hA [0] [1, 2, 3, 4, 5] rfl rfl (by decide) (by decide) (fun r_2 u_r_2 H locs hr_2 hP hD hS => ?_)
      obtain rfl : nI 0 = r_2 := hr_2.symm
      have hP : va_P D vwCl [(w1, .inl (cI, 100, .inl sg)), (w2, .inl (cI, 244, .inl gl)), (w3, .inl (cI, 1600, .inl fi)), (w4, .inl (cI, 1600, .inl ip)), (w5, .inl (cI, 1600, .inl se)), (w0, .inr (5, [.ref w1, .ref w2, .int (nI y), .int te, .ref w3, .ref w4, .ref w5, .int nt, .int wb, .ref w6, .ref w7, .ref w8, .int rc, .ref w9, .ref w10, .ref w11, .ref w12, .ref w13, .ref w14, .int fp, .int ft, .int (nI (flN 0 1))]))] H := hP
      have hD : va_D A [(w1, .inl (cI, 100, .inl sg)), (w2, .inl (cI, 244, .inl gl)), (w3, .inl (cI, 1600, .inl fi)), (w4, .inl (cI, 1600, .inl ip)), (w5, .inl (cI, 1600, .inl se)), (w0, .inr (5, [.ref w1, .ref w2, .int (nI y), .int te, .ref w3, .ref w4, .ref w5, .int nt, .int wb, .ref w6, .ref w7, .ref w8, .int rc, .ref w9, .ref w10, .ref w11, .ref w12, .ref w13, .ref w14, .int fp, .int ft, .int (nI (flN 0 1))]))] := hD
      refine jn_if_ne (tgt := 76) (a := 0) hx hb d_MD_counter_55 (by decide) (by decide) (fun c9 => absurd c9 (by decide)) (fun _ => ?_)
      refine lv_aload_n hx hb d_MD_counter_58 rfl (lv_at hl 1 rfl) ?_
      refine lv_iload hx hb d_MD_counter_59 (lv_at hl 0 rfl) ?_
      refine jn_if_ne (tgt := 68) (a := 0) hx hb d_MD_counter_61 (by decide) (by decide) (fun c9 => absurd c9 (by decide)) (fun _ => ?_)
      refine lv_iconst (v := nI 1) hx hb d_MD_counter_64 (by decide +kernel) ?_
      refine lv_goto (tgt := 69) hx hb d_MD_counter_65 (by decide) ?_
      refine lv_iconst (v := nI 2) hx hb d_MD_counter_69 (by decide +kernel) ?_
      refine cl_i (wr := [(w1, .inl (cI, 100, .inl sg)), (w2, .inl (cI, 244, .inl gl)), (w3, .inl (cI, 1600, .inl fi)), (w4, .inl (cI, 1600, .inl ip)), (w5, .inl (cI, 1600, .inl se))]) (va_runV (As := [.int (nI 1), .int (nI 2)]) (rest := []) ⟨hx, hb, hml, hown, hw⟩ (k_MD_fails l D cI cJ w0 w1 w2 w3 w4 w5 w6 w7 w8 w9 w10 w11 w12 w13 w14 (nI y) te nt wb rc fp ft (nI (flN 0 1)) 1 2 _ (by omega)) (cwV 2 hw (gV kw_836 kw_838 kw_20 kw_45 kw_839) rfl rfl rfl (by decide +kernel) ⟨Nat.le_of_ble_eq_true rfl, Nat.le_of_ble_eq_true rfl⟩) (pre_Vw (wc := [(w0, .inr (5, [.ref w1, .ref w2, .int (nI y), .int te, .ref w3, .ref w4, .ref w5, .int nt, .int wb, .ref w6, .ref w7, .ref w8, .int rc, .ref w9, .ref w10, .ref w11, .ref w12, .ref w13, .ref w14, .int fp, .int ft, .int (nI (flN 0 1))]))]) (q0 := 0) hE hX hA hP hD hS [5] (by decide) rfl rfl rfl rfl) rfl rfl hl.1 rfl (lv_room (Nat.le_of_ble_eq_true rfl)) d_MD_counter_70 ⟨Nat.le_of_ble_eq_true rfl, Nat.le_of_ble_eq_true rfl⟩) hP hD hS hA [5] [0, 1, 2, 3, 4] rfl rfl (by decide) (by decide) (fun r_3 u_r_3 H locs hr_3 hP hD hS => ?_)
      obtain rfl : nI 1 = r_3 := hr_3.symm
      have hP : va_P D vwCl [(w1, .inl (cI, 100, .inl sg)), (w2, .inl (cI, 244, .inl gl)), (w3, .inl (cI, 1600, .inl fi)), (w4, .inl (cI, 1600, .inl ip)), (w5, .inl (cI, 1600, .inl se)), (w0, .inr (5, [.ref w1, .ref w2, .int (nI y), .int te, .ref w3, .ref w4, .ref w5, .int nt, .int wb, .ref w6, .ref w7, .ref w8, .int rc, .ref w9, .ref w10, .ref w11, .ref w12, .ref w13, .ref w14, .int fp, .int ft, .int (nI (flN 1 2))]))] H := hP
      have hD : va_D A [(w1, .inl (cI, 100, .inl sg)), (w2, .inl (cI, 244, .inl gl)), (w3, .inl (cI, 1600, .inl fi)), (w4, .inl (cI, 1600, .inl ip)), (w5, .inl (cI, 1600, .inl se)), (w0, .inr (5, [.ref w1, .ref w2, .int (nI y), .int te, .ref w3, .ref w4, .ref w5, .int nt, .int wb, .ref w6, .ref w7, .ref w8, .int rc, .ref w9, .ref w10, .ref w11, .ref w12, .ref w13, .ref w14, .int fp, .int ft, .int (nI (flN 1 2))]))] := hD
      refine jn_if_eq (tgt := 78) (a := 1) hx hb d_MD_counter_73 (by decide) (by decide) (fun c9 => absurd c9 (by decide)) (fun _ => ?_)
      refine lv_iconst (v := nI 0) hx hb d_MD_counter_76 (by decide +kernel) ?_
      have hP9 := hP.sub (ws' := [(w0, .inr (5, [.ref w1, .ref w2, .int (nI y), .int te, .ref w3, .ref w4, .ref w5, .int nt, .int wb, .ref w6, .ref w7, .ref w8, .int rc, .ref w9, .ref w10, .ref w11, .ref w12, .ref w13, .ref w14, .int fp, .int ft, .int (nI (flN 1 2))])), (w1, .inl (cI, 100, .inl sg)), (w2, .inl (cI, 244, .inl gl)), (w3, .inl (cI, 1600, .inl fi)), (w4, .inl (cI, 1600, .inl ip)), (w5, .inl (cI, 1600, .inl se))]) [5, 0, 1, 2, 3, 4] rfl
      have hD9 := hD.sub (ws' := [(w0, .inr (5, [.ref w1, .ref w2, .int (nI y), .int te, .ref w3, .ref w4, .ref w5, .int nt, .int wb, .ref w6, .ref w7, .ref w8, .int rc, .ref w9, .ref w10, .ref w11, .ref w12, .ref w13, .ref w14, .int fp, .int ft, .int (nI (flN 1 2))])), (w1, .inl (cI, 100, .inl sg)), (w2, .inl (cI, 244, .inl gl)), (w3, .inl (cI, 1600, .inl fi)), (w4, .inl (cI, 1600, .inl ip)), (w5, .inl (cI, 1600, .inl se))]) [5, 0, 1, 2, 3, 4] (by decide) rfl
      exact W.iret (v := nI 0) hx hb hr (fun t9 ht hW => ⟨⟨_, (sg, gl, y, te, (fi, ip, se, nt), nI 2), rfl, (by unfold mcoV; dsimp only; rw [if_pos c_43, if_pos (show crN x v z = 0 from by unfold crN; rw [if_pos c_7])]), ⟨by rw [ht]; exact hP9, hD9⟩⟩, hS.F ht⟩) hS.2.2 d_MD_counter_77
    · skip
      refine lv_iconst (v := nI 1) hx hb d_MD_counter_46 (by decide +kernel) ?_
      refine lv_goto (tgt := 51) hx hb d_MD_counter_47 (by decide) ?_
      refine lv_iconst (v := nI 1) hx hb d_MD_counter_51 (by decide +kernel) ?_
      refine cl_i (wr := [(w1, .inl (cI, 100, .inl sg)), (w2, .inl (cI, 244, .inl gl)), (w3, .inl (cI, 1600, .inl fi)), (w4, .inl (cI, 1600, .inl ip)), (w5, .inl (cI, 1600, .inl se))]) (va_runV (As := [.int (nI 1), .int (nI 1)]) (rest := []) ⟨hx, hb, hml, hown, hw⟩ (k_MD_fails l D cI cJ w0 w1 w2 w3 w4 w5 w6 w7 w8 w9 w10 w11 w12 w13 w14 (nI y) te nt wb rc fp ft th 1 1 _ (by omega)) (cwV 2 hw (gV kw_836 kw_838 kw_20 kw_45 kw_839) rfl rfl rfl (by decide +kernel) ⟨Nat.le_of_ble_eq_true rfl, Nat.le_of_ble_eq_true rfl⟩) (pre_Vw (wc := [(w0, .inr (5, [.ref w1, .ref w2, .int (nI y), .int te, .ref w3, .ref w4, .ref w5, .int nt, .int wb, .ref w6, .ref w7, .ref w8, .int rc, .ref w9, .ref w10, .ref w11, .ref w12, .ref w13, .ref w14, .int fp, .int ft, .int th]))]) (q0 := 0) hE hX hA hP hD hS [0] (by decide) rfl rfl rfl rfl) rfl rfl hl.1 rfl (lv_room (Nat.le_of_ble_eq_true rfl)) d_MD_counter_52 ⟨Nat.le_of_ble_eq_true rfl, Nat.le_of_ble_eq_true rfl⟩) hP hD hS hA [0] [1, 2, 3, 4, 5] rfl rfl (by decide) (by decide) (fun r_4 u_r_4 H locs hr_4 hP hD hS => ?_)
      obtain rfl : nI 1 = r_4 := hr_4.symm
      have hP : va_P D vwCl [(w1, .inl (cI, 100, .inl sg)), (w2, .inl (cI, 244, .inl gl)), (w3, .inl (cI, 1600, .inl fi)), (w4, .inl (cI, 1600, .inl ip)), (w5, .inl (cI, 1600, .inl se)), (w0, .inr (5, [.ref w1, .ref w2, .int (nI y), .int te, .ref w3, .ref w4, .ref w5, .int nt, .int wb, .ref w6, .ref w7, .ref w8, .int rc, .ref w9, .ref w10, .ref w11, .ref w12, .ref w13, .ref w14, .int fp, .int ft, .int (nI (flN 1 1))]))] H := hP
      have hD : va_D A [(w1, .inl (cI, 100, .inl sg)), (w2, .inl (cI, 244, .inl gl)), (w3, .inl (cI, 1600, .inl fi)), (w4, .inl (cI, 1600, .inl ip)), (w5, .inl (cI, 1600, .inl se)), (w0, .inr (5, [.ref w1, .ref w2, .int (nI y), .int te, .ref w3, .ref w4, .ref w5, .int nt, .int wb, .ref w6, .ref w7, .ref w8, .int rc, .ref w9, .ref w10, .ref w11, .ref w12, .ref w13, .ref w14, .int fp, .int ft, .int (nI (flN 1 1))]))] := hD
      refine jn_if_ne (tgt := 76) (a := 1) hx hb d_MD_counter_55 (by decide) (by decide) (fun _ => ?_) (fun c9 => absurd c9 (by decide))
      refine lv_iconst (v := nI 0) hx hb d_MD_counter_76 (by decide +kernel) ?_
      have hP9 := hP.sub (ws' := [(w0, .inr (5, [.ref w1, .ref w2, .int (nI y), .int te, .ref w3, .ref w4, .ref w5, .int nt, .int wb, .ref w6, .ref w7, .ref w8, .int rc, .ref w9, .ref w10, .ref w11, .ref w12, .ref w13, .ref w14, .int fp, .int ft, .int (nI (flN 1 1))])), (w1, .inl (cI, 100, .inl sg)), (w2, .inl (cI, 244, .inl gl)), (w3, .inl (cI, 1600, .inl fi)), (w4, .inl (cI, 1600, .inl ip)), (w5, .inl (cI, 1600, .inl se))]) [5, 0, 1, 2, 3, 4] rfl
      have hD9 := hD.sub (ws' := [(w0, .inr (5, [.ref w1, .ref w2, .int (nI y), .int te, .ref w3, .ref w4, .ref w5, .int nt, .int wb, .ref w6, .ref w7, .ref w8, .int rc, .ref w9, .ref w10, .ref w11, .ref w12, .ref w13, .ref w14, .int fp, .int ft, .int (nI (flN 1 1))])), (w1, .inl (cI, 100, .inl sg)), (w2, .inl (cI, 244, .inl gl)), (w3, .inl (cI, 1600, .inl fi)), (w4, .inl (cI, 1600, .inl ip)), (w5, .inl (cI, 1600, .inl se))]) [5, 0, 1, 2, 3, 4] (by decide) rfl
      exact W.iret (v := nI 0) hx hb hr (fun t9 ht hW => ⟨⟨_, (sg, gl, y, te, (fi, ip, se, nt), nI 1), rfl, (by unfold mcoV; dsimp only; rw [if_neg c_43]), ⟨by rw [ht]; exact hP9, hD9⟩⟩, hS.F ht⟩) hS.2.2 d_MD_counter_77
  · skip
    refine lv_iload_n hx hb d_MD_counter_10 rfl (lv_at hl 3 rfl) ?_
    refine lv_iconst (v := nI 1) hx hb d_MD_counter_11 (by decide +kernel) ?_
    refine lv_bipush (v := nI 40) hx hb d_MD_counter_12 (by decide +kernel) ?_
    refine vp_callSi (va_Run.run (va_runS (As := [.int z, .int (nI 1), .int (nI 40)]) (rest := []) ⟨hx, hb, hml, hown, hw⟩ (k_MD_within l D cI cJ z (nI 1) (nI 40)) (va_cwS 3 hw (gS kw_840 kw_841 kw_45 kw_842) rfl rfl rfl (by decide +kernel) ⟨Nat.le_of_ble_eq_true rfl, Nat.le_of_ble_eq_true rfl⟩) (pre_Sp (wc := []) hE hX hP hS [] rfl) rfl rfl hl.1 rfl (lv_room (Nat.le_of_ble_eq_true rfl)) d_MD_counter_14 ⟨Nat.le_of_ble_eq_true rfl, Nat.le_of_ble_eq_true rfl⟩)) (fun r_5 hr_5 => ?_)
    obtain rfl : nI (wiN z (nI 1) (nI 40)) = r_5 := hr_5.symm
    refine jn_if_eq (tgt := 35) (a := (wiN z (nI 1) (nI 40))) hx hb d_MD_counter_17 (by decide) (by have := wiN_le z (nI 1) (nI 40); omega) (fun c_17 => ?_) (fun c_17 => ?_)
    · skip
      refine lv_iconst (v := nI 0) hx hb d_MD_counter_35 (by decide +kernel) ?_
      refine lv_istore (lv' := [(4, .int (nI 0)), (0, .ref w0), (1, .int x), (2, .int v), (3, .int z)]) hx hb d_MD_counter_36 hl (by decide) rfl (fun ls hl => ?_)
      refine lv_aload_n hx hb d_MD_counter_38 rfl (lv_at hl 1 rfl) ?_
      refine lv_aload_n hx hb d_MD_counter_39 rfl (lv_at hl 1 rfl) ?_
      refine va_get (D := D) (ci := 5) (v := .int nt) (C := R_MD) (T := T_MD) (N := 22) hx hb hw in_MD hown hE.1 hP 0 rfl rfl 7 (by decide) (hw _ kw_768) (fun _ h9 => h9) rfl d_MD_counter_40 ?_
      refine lv_if_le (tgt := 50) hx hb d_MD_counter_43 (by decide) (fun c_43 => ?_) (fun c_43 => ?_)
      · skip
        refine lv_iconst (v := nI 0) hx hb d_MD_counter_50 (by decide +kernel) ?_
        refine lv_iconst (v := nI 1) hx hb d_MD_counter_51 (by decide +kernel) ?_
        refine cl_i (wr := [(w1, .inl (cI, 100, .inl sg)), (w2, .inl (cI, 244, .inl gl)), (w3, .inl (cI, 1600, .inl fi)), (w4, .inl (cI, 1600, .inl ip)), (w5, .inl (cI, 1600, .inl se))]) (va_runV (As := [.int (nI 0), .int (nI 1)]) (rest := []) ⟨hx, hb, hml, hown, hw⟩ (k_MD_fails l D cI cJ w0 w1 w2 w3 w4 w5 w6 w7 w8 w9 w10 w11 w12 w13 w14 (nI y) te nt wb rc fp ft th 0 1 _ (by omega)) (cwV 2 hw (gV kw_836 kw_838 kw_20 kw_45 kw_839) rfl rfl rfl (by decide +kernel) ⟨Nat.le_of_ble_eq_true rfl, Nat.le_of_ble_eq_true rfl⟩) (pre_Vw (wc := [(w0, .inr (5, [.ref w1, .ref w2, .int (nI y), .int te, .ref w3, .ref w4, .ref w5, .int nt, .int wb, .ref w6, .ref w7, .ref w8, .int rc, .ref w9, .ref w10, .ref w11, .ref w12, .ref w13, .ref w14, .int fp, .int ft, .int th]))]) (q0 := 0) hE hX hA hP hD hS [0] (by decide) rfl rfl rfl rfl) rfl rfl hl.1 rfl (lv_room (Nat.le_of_ble_eq_true rfl)) d_MD_counter_52 ⟨Nat.le_of_ble_eq_true rfl, Nat.le_of_ble_eq_true rfl⟩) hP hD hS hA [0] [1, 2, 3, 4, 5] rfl rfl (by decide) (by decide) (fun r_6 u_r_6 H locs hr_6 hP hD hS => ?_)
        obtain rfl : nI 0 = r_6 := hr_6.symm
        have hP : va_P D vwCl [(w1, .inl (cI, 100, .inl sg)), (w2, .inl (cI, 244, .inl gl)), (w3, .inl (cI, 1600, .inl fi)), (w4, .inl (cI, 1600, .inl ip)), (w5, .inl (cI, 1600, .inl se)), (w0, .inr (5, [.ref w1, .ref w2, .int (nI y), .int te, .ref w3, .ref w4, .ref w5, .int nt, .int wb, .ref w6, .ref w7, .ref w8, .int rc, .ref w9, .ref w10, .ref w11, .ref w12, .ref w13, .ref w14, .int fp, .int ft, .int (nI (flN 0 1))]))] H := hP
        have hD : va_D A [(w1, .inl (cI, 100, .inl sg)), (w2, .inl (cI, 244, .inl gl)), (w3, .inl (cI, 1600, .inl fi)), (w4, .inl (cI, 1600, .inl ip)), (w5, .inl (cI, 1600, .inl se)), (w0, .inr (5, [.ref w1, .ref w2, .int (nI y), .int te, .ref w3, .ref w4, .ref w5, .int nt, .int wb, .ref w6, .ref w7, .ref w8, .int rc, .ref w9, .ref w10, .ref w11, .ref w12, .ref w13, .ref w14, .int fp, .int ft, .int (nI (flN 0 1))]))] := hD
        refine jn_if_ne (tgt := 76) (a := 0) hx hb d_MD_counter_55 (by decide) (by decide) (fun c9 => absurd c9 (by decide)) (fun _ => ?_)
        refine lv_aload_n hx hb d_MD_counter_58 rfl (lv_at hl 1 rfl) ?_
        refine lv_iload hx hb d_MD_counter_59 (lv_at hl 0 rfl) ?_
        refine jn_if_ne (tgt := 68) (a := 0) hx hb d_MD_counter_61 (by decide) (by decide) (fun c9 => absurd c9 (by decide)) (fun _ => ?_)
        refine lv_iconst (v := nI 1) hx hb d_MD_counter_64 (by decide +kernel) ?_
        refine lv_goto (tgt := 69) hx hb d_MD_counter_65 (by decide) ?_
        refine lv_iconst (v := nI 2) hx hb d_MD_counter_69 (by decide +kernel) ?_
        refine cl_i (wr := [(w1, .inl (cI, 100, .inl sg)), (w2, .inl (cI, 244, .inl gl)), (w3, .inl (cI, 1600, .inl fi)), (w4, .inl (cI, 1600, .inl ip)), (w5, .inl (cI, 1600, .inl se))]) (va_runV (As := [.int (nI 1), .int (nI 2)]) (rest := []) ⟨hx, hb, hml, hown, hw⟩ (k_MD_fails l D cI cJ w0 w1 w2 w3 w4 w5 w6 w7 w8 w9 w10 w11 w12 w13 w14 (nI y) te nt wb rc fp ft (nI (flN 0 1)) 1 2 _ (by omega)) (cwV 2 hw (gV kw_836 kw_838 kw_20 kw_45 kw_839) rfl rfl rfl (by decide +kernel) ⟨Nat.le_of_ble_eq_true rfl, Nat.le_of_ble_eq_true rfl⟩) (pre_Vw (wc := [(w0, .inr (5, [.ref w1, .ref w2, .int (nI y), .int te, .ref w3, .ref w4, .ref w5, .int nt, .int wb, .ref w6, .ref w7, .ref w8, .int rc, .ref w9, .ref w10, .ref w11, .ref w12, .ref w13, .ref w14, .int fp, .int ft, .int (nI (flN 0 1))]))]) (q0 := 0) hE hX hA hP hD hS [5] (by decide) rfl rfl rfl rfl) rfl rfl hl.1 rfl (lv_room (Nat.le_of_ble_eq_true rfl)) d_MD_counter_70 ⟨Nat.le_of_ble_eq_true rfl, Nat.le_of_ble_eq_true rfl⟩) hP hD hS hA [5] [0, 1, 2, 3, 4] rfl rfl (by decide) (by decide) (fun r_7 u_r_7 H locs hr_7 hP hD hS => ?_)
        obtain rfl : nI 1 = r_7 := hr_7.symm
        have hP : va_P D vwCl [(w1, .inl (cI, 100, .inl sg)), (w2, .inl (cI, 244, .inl gl)), (w3, .inl (cI, 1600, .inl fi)), (w4, .inl (cI, 1600, .inl ip)), (w5, .inl (cI, 1600, .inl se)), (w0, .inr (5, [.ref w1, .ref w2, .int (nI y), .int te, .ref w3, .ref w4, .ref w5, .int nt, .int wb, .ref w6, .ref w7, .ref w8, .int rc, .ref w9, .ref w10, .ref w11, .ref w12, .ref w13, .ref w14, .int fp, .int ft, .int (nI (flN 1 2))]))] H := hP
        have hD : va_D A [(w1, .inl (cI, 100, .inl sg)), (w2, .inl (cI, 244, .inl gl)), (w3, .inl (cI, 1600, .inl fi)), (w4, .inl (cI, 1600, .inl ip)), (w5, .inl (cI, 1600, .inl se)), (w0, .inr (5, [.ref w1, .ref w2, .int (nI y), .int te, .ref w3, .ref w4, .ref w5, .int nt, .int wb, .ref w6, .ref w7, .ref w8, .int rc, .ref w9, .ref w10, .ref w11, .ref w12, .ref w13, .ref w14, .int fp, .int ft, .int (nI (flN 1 2))]))] := hD
        refine jn_if_eq (tgt := 78) (a := 1) hx hb d_MD_counter_73 (by decide) (by decide) (fun c9 => absurd c9 (by decide)) (fun _ => ?_)
        refine lv_iconst (v := nI 0) hx hb d_MD_counter_76 (by decide +kernel) ?_
        have hP9 := hP.sub (ws' := [(w0, .inr (5, [.ref w1, .ref w2, .int (nI y), .int te, .ref w3, .ref w4, .ref w5, .int nt, .int wb, .ref w6, .ref w7, .ref w8, .int rc, .ref w9, .ref w10, .ref w11, .ref w12, .ref w13, .ref w14, .int fp, .int ft, .int (nI (flN 1 2))])), (w1, .inl (cI, 100, .inl sg)), (w2, .inl (cI, 244, .inl gl)), (w3, .inl (cI, 1600, .inl fi)), (w4, .inl (cI, 1600, .inl ip)), (w5, .inl (cI, 1600, .inl se))]) [5, 0, 1, 2, 3, 4] rfl
        have hD9 := hD.sub (ws' := [(w0, .inr (5, [.ref w1, .ref w2, .int (nI y), .int te, .ref w3, .ref w4, .ref w5, .int nt, .int wb, .ref w6, .ref w7, .ref w8, .int rc, .ref w9, .ref w10, .ref w11, .ref w12, .ref w13, .ref w14, .int fp, .int ft, .int (nI (flN 1 2))])), (w1, .inl (cI, 100, .inl sg)), (w2, .inl (cI, 244, .inl gl)), (w3, .inl (cI, 1600, .inl fi)), (w4, .inl (cI, 1600, .inl ip)), (w5, .inl (cI, 1600, .inl se))]) [5, 0, 1, 2, 3, 4] (by decide) rfl
        exact W.iret (v := nI 0) hx hb hr (fun t9 ht hW => ⟨⟨_, (sg, gl, y, te, (fi, ip, se, nt), nI 2), rfl, (by unfold mcoV; dsimp only; rw [if_pos c_43, if_pos (show crN x v z = 0 from by unfold crN; rw [if_neg c_7, if_pos c_17])]), ⟨by rw [ht]; exact hP9, hD9⟩⟩, hS.F ht⟩) hS.2.2 d_MD_counter_77
      · skip
        refine lv_iconst (v := nI 1) hx hb d_MD_counter_46 (by decide +kernel) ?_
        refine lv_goto (tgt := 51) hx hb d_MD_counter_47 (by decide) ?_
        refine lv_iconst (v := nI 1) hx hb d_MD_counter_51 (by decide +kernel) ?_
        refine cl_i (wr := [(w1, .inl (cI, 100, .inl sg)), (w2, .inl (cI, 244, .inl gl)), (w3, .inl (cI, 1600, .inl fi)), (w4, .inl (cI, 1600, .inl ip)), (w5, .inl (cI, 1600, .inl se))]) (va_runV (As := [.int (nI 1), .int (nI 1)]) (rest := []) ⟨hx, hb, hml, hown, hw⟩ (k_MD_fails l D cI cJ w0 w1 w2 w3 w4 w5 w6 w7 w8 w9 w10 w11 w12 w13 w14 (nI y) te nt wb rc fp ft th 1 1 _ (by omega)) (cwV 2 hw (gV kw_836 kw_838 kw_20 kw_45 kw_839) rfl rfl rfl (by decide +kernel) ⟨Nat.le_of_ble_eq_true rfl, Nat.le_of_ble_eq_true rfl⟩) (pre_Vw (wc := [(w0, .inr (5, [.ref w1, .ref w2, .int (nI y), .int te, .ref w3, .ref w4, .ref w5, .int nt, .int wb, .ref w6, .ref w7, .ref w8, .int rc, .ref w9, .ref w10, .ref w11, .ref w12, .ref w13, .ref w14, .int fp, .int ft, .int th]))]) (q0 := 0) hE hX hA hP hD hS [0] (by decide) rfl rfl rfl rfl) rfl rfl hl.1 rfl (lv_room (Nat.le_of_ble_eq_true rfl)) d_MD_counter_52 ⟨Nat.le_of_ble_eq_true rfl, Nat.le_of_ble_eq_true rfl⟩) hP hD hS hA [0] [1, 2, 3, 4, 5] rfl rfl (by decide) (by decide) (fun r_8 u_r_8 H locs hr_8 hP hD hS => ?_)
        obtain rfl : nI 1 = r_8 := hr_8.symm
        have hP : va_P D vwCl [(w1, .inl (cI, 100, .inl sg)), (w2, .inl (cI, 244, .inl gl)), (w3, .inl (cI, 1600, .inl fi)), (w4, .inl (cI, 1600, .inl ip)), (w5, .inl (cI, 1600, .inl se)), (w0, .inr (5, [.ref w1, .ref w2, .int (nI y), .int te, .ref w3, .ref w4, .ref w5, .int nt, .int wb, .ref w6, .ref w7, .ref w8, .int rc, .ref w9, .ref w10, .ref w11, .ref w12, .ref w13, .ref w14, .int fp, .int ft, .int (nI (flN 1 1))]))] H := hP
        have hD : va_D A [(w1, .inl (cI, 100, .inl sg)), (w2, .inl (cI, 244, .inl gl)), (w3, .inl (cI, 1600, .inl fi)), (w4, .inl (cI, 1600, .inl ip)), (w5, .inl (cI, 1600, .inl se)), (w0, .inr (5, [.ref w1, .ref w2, .int (nI y), .int te, .ref w3, .ref w4, .ref w5, .int nt, .int wb, .ref w6, .ref w7, .ref w8, .int rc, .ref w9, .ref w10, .ref w11, .ref w12, .ref w13, .ref w14, .int fp, .int ft, .int (nI (flN 1 1))]))] := hD
        refine jn_if_ne (tgt := 76) (a := 1) hx hb d_MD_counter_55 (by decide) (by decide) (fun _ => ?_) (fun c9 => absurd c9 (by decide))
        refine lv_iconst (v := nI 0) hx hb d_MD_counter_76 (by decide +kernel) ?_
        have hP9 := hP.sub (ws' := [(w0, .inr (5, [.ref w1, .ref w2, .int (nI y), .int te, .ref w3, .ref w4, .ref w5, .int nt, .int wb, .ref w6, .ref w7, .ref w8, .int rc, .ref w9, .ref w10, .ref w11, .ref w12, .ref w13, .ref w14, .int fp, .int ft, .int (nI (flN 1 1))])), (w1, .inl (cI, 100, .inl sg)), (w2, .inl (cI, 244, .inl gl)), (w3, .inl (cI, 1600, .inl fi)), (w4, .inl (cI, 1600, .inl ip)), (w5, .inl (cI, 1600, .inl se))]) [5, 0, 1, 2, 3, 4] rfl
        have hD9 := hD.sub (ws' := [(w0, .inr (5, [.ref w1, .ref w2, .int (nI y), .int te, .ref w3, .ref w4, .ref w5, .int nt, .int wb, .ref w6, .ref w7, .ref w8, .int rc, .ref w9, .ref w10, .ref w11, .ref w12, .ref w13, .ref w14, .int fp, .int ft, .int (nI (flN 1 1))])), (w1, .inl (cI, 100, .inl sg)), (w2, .inl (cI, 244, .inl gl)), (w3, .inl (cI, 1600, .inl fi)), (w4, .inl (cI, 1600, .inl ip)), (w5, .inl (cI, 1600, .inl se))]) [5, 0, 1, 2, 3, 4] (by decide) rfl
        exact W.iret (v := nI 0) hx hb hr (fun t9 ht hW => ⟨⟨_, (sg, gl, y, te, (fi, ip, se, nt), nI 1), rfl, (by unfold mcoV; dsimp only; rw [if_neg c_43]), ⟨by rw [ht]; exact hP9, hD9⟩⟩, hS.F ht⟩) hS.2.2 d_MD_counter_77
    · skip
      refine lv_iload_n hx hb d_MD_counter_20 rfl (lv_at hl 2 rfl) ?_
      refine lv_if_lt (tgt := 35) hx hb d_MD_counter_21 (by decide) (fun c_21 => ?_) (fun c_21 => ?_)
      · skip
        refine lv_iconst (v := nI 0) hx hb d_MD_counter_35 (by decide +kernel) ?_
        refine lv_istore (lv' := [(4, .int (nI 0)), (0, .ref w0), (1, .int x), (2, .int v), (3, .int z)]) hx hb d_MD_counter_36 hl (by decide) rfl (fun ls hl => ?_)
        refine lv_aload_n hx hb d_MD_counter_38 rfl (lv_at hl 1 rfl) ?_
        refine lv_aload_n hx hb d_MD_counter_39 rfl (lv_at hl 1 rfl) ?_
        refine va_get (D := D) (ci := 5) (v := .int nt) (C := R_MD) (T := T_MD) (N := 22) hx hb hw in_MD hown hE.1 hP 0 rfl rfl 7 (by decide) (hw _ kw_768) (fun _ h9 => h9) rfl d_MD_counter_40 ?_
        refine lv_if_le (tgt := 50) hx hb d_MD_counter_43 (by decide) (fun c_43 => ?_) (fun c_43 => ?_)
        · skip
          refine lv_iconst (v := nI 0) hx hb d_MD_counter_50 (by decide +kernel) ?_
          refine lv_iconst (v := nI 1) hx hb d_MD_counter_51 (by decide +kernel) ?_
          refine cl_i (wr := [(w1, .inl (cI, 100, .inl sg)), (w2, .inl (cI, 244, .inl gl)), (w3, .inl (cI, 1600, .inl fi)), (w4, .inl (cI, 1600, .inl ip)), (w5, .inl (cI, 1600, .inl se))]) (va_runV (As := [.int (nI 0), .int (nI 1)]) (rest := []) ⟨hx, hb, hml, hown, hw⟩ (k_MD_fails l D cI cJ w0 w1 w2 w3 w4 w5 w6 w7 w8 w9 w10 w11 w12 w13 w14 (nI y) te nt wb rc fp ft th 0 1 _ (by omega)) (cwV 2 hw (gV kw_836 kw_838 kw_20 kw_45 kw_839) rfl rfl rfl (by decide +kernel) ⟨Nat.le_of_ble_eq_true rfl, Nat.le_of_ble_eq_true rfl⟩) (pre_Vw (wc := [(w0, .inr (5, [.ref w1, .ref w2, .int (nI y), .int te, .ref w3, .ref w4, .ref w5, .int nt, .int wb, .ref w6, .ref w7, .ref w8, .int rc, .ref w9, .ref w10, .ref w11, .ref w12, .ref w13, .ref w14, .int fp, .int ft, .int th]))]) (q0 := 0) hE hX hA hP hD hS [0] (by decide) rfl rfl rfl rfl) rfl rfl hl.1 rfl (lv_room (Nat.le_of_ble_eq_true rfl)) d_MD_counter_52 ⟨Nat.le_of_ble_eq_true rfl, Nat.le_of_ble_eq_true rfl⟩) hP hD hS hA [0] [1, 2, 3, 4, 5] rfl rfl (by decide) (by decide) (fun r_9 u_r_9 H locs hr_9 hP hD hS => ?_)
          obtain rfl : nI 0 = r_9 := hr_9.symm
          have hP : va_P D vwCl [(w1, .inl (cI, 100, .inl sg)), (w2, .inl (cI, 244, .inl gl)), (w3, .inl (cI, 1600, .inl fi)), (w4, .inl (cI, 1600, .inl ip)), (w5, .inl (cI, 1600, .inl se)), (w0, .inr (5, [.ref w1, .ref w2, .int (nI y), .int te, .ref w3, .ref w4, .ref w5, .int nt, .int wb, .ref w6, .ref w7, .ref w8, .int rc, .ref w9, .ref w10, .ref w11, .ref w12, .ref w13, .ref w14, .int fp, .int ft, .int (nI (flN 0 1))]))] H := hP
          have hD : va_D A [(w1, .inl (cI, 100, .inl sg)), (w2, .inl (cI, 244, .inl gl)), (w3, .inl (cI, 1600, .inl fi)), (w4, .inl (cI, 1600, .inl ip)), (w5, .inl (cI, 1600, .inl se)), (w0, .inr (5, [.ref w1, .ref w2, .int (nI y), .int te, .ref w3, .ref w4, .ref w5, .int nt, .int wb, .ref w6, .ref w7, .ref w8, .int rc, .ref w9, .ref w10, .ref w11, .ref w12, .ref w13, .ref w14, .int fp, .int ft, .int (nI (flN 0 1))]))] := hD
          refine jn_if_ne (tgt := 76) (a := 0) hx hb d_MD_counter_55 (by decide) (by decide) (fun c9 => absurd c9 (by decide)) (fun _ => ?_)
          refine lv_aload_n hx hb d_MD_counter_58 rfl (lv_at hl 1 rfl) ?_
          refine lv_iload hx hb d_MD_counter_59 (lv_at hl 0 rfl) ?_
          refine jn_if_ne (tgt := 68) (a := 0) hx hb d_MD_counter_61 (by decide) (by decide) (fun c9 => absurd c9 (by decide)) (fun _ => ?_)
          refine lv_iconst (v := nI 1) hx hb d_MD_counter_64 (by decide +kernel) ?_
          refine lv_goto (tgt := 69) hx hb d_MD_counter_65 (by decide) ?_
          refine lv_iconst (v := nI 2) hx hb d_MD_counter_69 (by decide +kernel) ?_
          refine cl_i (wr := [(w1, .inl (cI, 100, .inl sg)), (w2, .inl (cI, 244, .inl gl)), (w3, .inl (cI, 1600, .inl fi)), (w4, .inl (cI, 1600, .inl ip)), (w5, .inl (cI, 1600, .inl se))]) (va_runV (As := [.int (nI 1), .int (nI 2)]) (rest := []) ⟨hx, hb, hml, hown, hw⟩ (k_MD_fails l D cI cJ w0 w1 w2 w3 w4 w5 w6 w7 w8 w9 w10 w11 w12 w13 w14 (nI y) te nt wb rc fp ft (nI (flN 0 1)) 1 2 _ (by omega)) (cwV 2 hw (gV kw_836 kw_838 kw_20 kw_45 kw_839) rfl rfl rfl (by decide +kernel) ⟨Nat.le_of_ble_eq_true rfl, Nat.le_of_ble_eq_true rfl⟩) (pre_Vw (wc := [(w0, .inr (5, [.ref w1, .ref w2, .int (nI y), .int te, .ref w3, .ref w4, .ref w5, .int nt, .int wb, .ref w6, .ref w7, .ref w8, .int rc, .ref w9, .ref w10, .ref w11, .ref w12, .ref w13, .ref w14, .int fp, .int ft, .int (nI (flN 0 1))]))]) (q0 := 0) hE hX hA hP hD hS [5] (by decide) rfl rfl rfl rfl) rfl rfl hl.1 rfl (lv_room (Nat.le_of_ble_eq_true rfl)) d_MD_counter_70 ⟨Nat.le_of_ble_eq_true rfl, Nat.le_of_ble_eq_true rfl⟩) hP hD hS hA [5] [0, 1, 2, 3, 4] rfl rfl (by decide) (by decide) (fun r_10 u_r_10 H locs hr_10 hP hD hS => ?_)
          obtain rfl : nI 1 = r_10 := hr_10.symm
          have hP : va_P D vwCl [(w1, .inl (cI, 100, .inl sg)), (w2, .inl (cI, 244, .inl gl)), (w3, .inl (cI, 1600, .inl fi)), (w4, .inl (cI, 1600, .inl ip)), (w5, .inl (cI, 1600, .inl se)), (w0, .inr (5, [.ref w1, .ref w2, .int (nI y), .int te, .ref w3, .ref w4, .ref w5, .int nt, .int wb, .ref w6, .ref w7, .ref w8, .int rc, .ref w9, .ref w10, .ref w11, .ref w12, .ref w13, .ref w14, .int fp, .int ft, .int (nI (flN 1 2))]))] H := hP
          have hD : va_D A [(w1, .inl (cI, 100, .inl sg)), (w2, .inl (cI, 244, .inl gl)), (w3, .inl (cI, 1600, .inl fi)), (w4, .inl (cI, 1600, .inl ip)), (w5, .inl (cI, 1600, .inl se)), (w0, .inr (5, [.ref w1, .ref w2, .int (nI y), .int te, .ref w3, .ref w4, .ref w5, .int nt, .int wb, .ref w6, .ref w7, .ref w8, .int rc, .ref w9, .ref w10, .ref w11, .ref w12, .ref w13, .ref w14, .int fp, .int ft, .int (nI (flN 1 2))]))] := hD
          refine jn_if_eq (tgt := 78) (a := 1) hx hb d_MD_counter_73 (by decide) (by decide) (fun c9 => absurd c9 (by decide)) (fun _ => ?_)
          refine lv_iconst (v := nI 0) hx hb d_MD_counter_76 (by decide +kernel) ?_
          have hP9 := hP.sub (ws' := [(w0, .inr (5, [.ref w1, .ref w2, .int (nI y), .int te, .ref w3, .ref w4, .ref w5, .int nt, .int wb, .ref w6, .ref w7, .ref w8, .int rc, .ref w9, .ref w10, .ref w11, .ref w12, .ref w13, .ref w14, .int fp, .int ft, .int (nI (flN 1 2))])), (w1, .inl (cI, 100, .inl sg)), (w2, .inl (cI, 244, .inl gl)), (w3, .inl (cI, 1600, .inl fi)), (w4, .inl (cI, 1600, .inl ip)), (w5, .inl (cI, 1600, .inl se))]) [5, 0, 1, 2, 3, 4] rfl
          have hD9 := hD.sub (ws' := [(w0, .inr (5, [.ref w1, .ref w2, .int (nI y), .int te, .ref w3, .ref w4, .ref w5, .int nt, .int wb, .ref w6, .ref w7, .ref w8, .int rc, .ref w9, .ref w10, .ref w11, .ref w12, .ref w13, .ref w14, .int fp, .int ft, .int (nI (flN 1 2))])), (w1, .inl (cI, 100, .inl sg)), (w2, .inl (cI, 244, .inl gl)), (w3, .inl (cI, 1600, .inl fi)), (w4, .inl (cI, 1600, .inl ip)), (w5, .inl (cI, 1600, .inl se))]) [5, 0, 1, 2, 3, 4] (by decide) rfl
          exact W.iret (v := nI 0) hx hb hr (fun t9 ht hW => ⟨⟨_, (sg, gl, y, te, (fi, ip, se, nt), nI 2), rfl, (by unfold mcoV; dsimp only; rw [if_pos c_43, if_pos (show crN x v z = 0 from by unfold crN; rw [if_neg c_7, if_neg c_17, if_pos c_21])]), ⟨by rw [ht]; exact hP9, hD9⟩⟩, hS.F ht⟩) hS.2.2 d_MD_counter_77
        · skip
          refine lv_iconst (v := nI 1) hx hb d_MD_counter_46 (by decide +kernel) ?_
          refine lv_goto (tgt := 51) hx hb d_MD_counter_47 (by decide) ?_
          refine lv_iconst (v := nI 1) hx hb d_MD_counter_51 (by decide +kernel) ?_
          refine cl_i (wr := [(w1, .inl (cI, 100, .inl sg)), (w2, .inl (cI, 244, .inl gl)), (w3, .inl (cI, 1600, .inl fi)), (w4, .inl (cI, 1600, .inl ip)), (w5, .inl (cI, 1600, .inl se))]) (va_runV (As := [.int (nI 1), .int (nI 1)]) (rest := []) ⟨hx, hb, hml, hown, hw⟩ (k_MD_fails l D cI cJ w0 w1 w2 w3 w4 w5 w6 w7 w8 w9 w10 w11 w12 w13 w14 (nI y) te nt wb rc fp ft th 1 1 _ (by omega)) (cwV 2 hw (gV kw_836 kw_838 kw_20 kw_45 kw_839) rfl rfl rfl (by decide +kernel) ⟨Nat.le_of_ble_eq_true rfl, Nat.le_of_ble_eq_true rfl⟩) (pre_Vw (wc := [(w0, .inr (5, [.ref w1, .ref w2, .int (nI y), .int te, .ref w3, .ref w4, .ref w5, .int nt, .int wb, .ref w6, .ref w7, .ref w8, .int rc, .ref w9, .ref w10, .ref w11, .ref w12, .ref w13, .ref w14, .int fp, .int ft, .int th]))]) (q0 := 0) hE hX hA hP hD hS [0] (by decide) rfl rfl rfl rfl) rfl rfl hl.1 rfl (lv_room (Nat.le_of_ble_eq_true rfl)) d_MD_counter_52 ⟨Nat.le_of_ble_eq_true rfl, Nat.le_of_ble_eq_true rfl⟩) hP hD hS hA [0] [1, 2, 3, 4, 5] rfl rfl (by decide) (by decide) (fun r_11 u_r_11 H locs hr_11 hP hD hS => ?_)
          obtain rfl : nI 1 = r_11 := hr_11.symm
          have hP : va_P D vwCl [(w1, .inl (cI, 100, .inl sg)), (w2, .inl (cI, 244, .inl gl)), (w3, .inl (cI, 1600, .inl fi)), (w4, .inl (cI, 1600, .inl ip)), (w5, .inl (cI, 1600, .inl se)), (w0, .inr (5, [.ref w1, .ref w2, .int (nI y), .int te, .ref w3, .ref w4, .ref w5, .int nt, .int wb, .ref w6, .ref w7, .ref w8, .int rc, .ref w9, .ref w10, .ref w11, .ref w12, .ref w13, .ref w14, .int fp, .int ft, .int (nI (flN 1 1))]))] H := hP
          have hD : va_D A [(w1, .inl (cI, 100, .inl sg)), (w2, .inl (cI, 244, .inl gl)), (w3, .inl (cI, 1600, .inl fi)), (w4, .inl (cI, 1600, .inl ip)), (w5, .inl (cI, 1600, .inl se)), (w0, .inr (5, [.ref w1, .ref w2, .int (nI y), .int te, .ref w3, .ref w4, .ref w5, .int nt, .int wb, .ref w6, .ref w7, .ref w8, .int rc, .ref w9, .ref w10, .ref w11, .ref w12, .ref w13, .ref w14, .int fp, .int ft, .int (nI (flN 1 1))]))] := hD
          refine jn_if_ne (tgt := 76) (a := 1) hx hb d_MD_counter_55 (by decide) (by decide) (fun _ => ?_) (fun c9 => absurd c9 (by decide))
          refine lv_iconst (v := nI 0) hx hb d_MD_counter_76 (by decide +kernel) ?_
          have hP9 := hP.sub (ws' := [(w0, .inr (5, [.ref w1, .ref w2, .int (nI y), .int te, .ref w3, .ref w4, .ref w5, .int nt, .int wb, .ref w6, .ref w7, .ref w8, .int rc, .ref w9, .ref w10, .ref w11, .ref w12, .ref w13, .ref w14, .int fp, .int ft, .int (nI (flN 1 1))])), (w1, .inl (cI, 100, .inl sg)), (w2, .inl (cI, 244, .inl gl)), (w3, .inl (cI, 1600, .inl fi)), (w4, .inl (cI, 1600, .inl ip)), (w5, .inl (cI, 1600, .inl se))]) [5, 0, 1, 2, 3, 4] rfl
          have hD9 := hD.sub (ws' := [(w0, .inr (5, [.ref w1, .ref w2, .int (nI y), .int te, .ref w3, .ref w4, .ref w5, .int nt, .int wb, .ref w6, .ref w7, .ref w8, .int rc, .ref w9, .ref w10, .ref w11, .ref w12, .ref w13, .ref w14, .int fp, .int ft, .int (nI (flN 1 1))])), (w1, .inl (cI, 100, .inl sg)), (w2, .inl (cI, 244, .inl gl)), (w3, .inl (cI, 1600, .inl fi)), (w4, .inl (cI, 1600, .inl ip)), (w5, .inl (cI, 1600, .inl se))]) [5, 0, 1, 2, 3, 4] (by decide) rfl
          exact W.iret (v := nI 0) hx hb hr (fun t9 ht hW => ⟨⟨_, (sg, gl, y, te, (fi, ip, se, nt), nI 1), rfl, (by unfold mcoV; dsimp only; rw [if_neg c_43]), ⟨by rw [ht]; exact hP9, hD9⟩⟩, hS.F ht⟩) hS.2.2 d_MD_counter_77
      · skip
        refine lv_iload_n hx hb d_MD_counter_24 rfl (lv_at hl 2 rfl) ?_
        refine lv_iconst (v := nI 1) hx hb d_MD_counter_25 (by decide +kernel) ?_
        refine lv_iload_n hx hb d_MD_counter_26 rfl (lv_at hl 1 rfl) ?_
        refine lv_ishl hx hb d_MD_counter_27 ?_
        refine lv_icmp_ge (tgt := 35) hx hb d_MD_counter_28 (by decide) (fun c_28 => ?_) (fun c_28 => ?_)
        · skip
          refine lv_iconst (v := nI 0) hx hb d_MD_counter_35 (by decide +kernel) ?_
          refine lv_istore (lv' := [(4, .int (nI 0)), (0, .ref w0), (1, .int x), (2, .int v), (3, .int z)]) hx hb d_MD_counter_36 hl (by decide) rfl (fun ls hl => ?_)
          refine lv_aload_n hx hb d_MD_counter_38 rfl (lv_at hl 1 rfl) ?_
          refine lv_aload_n hx hb d_MD_counter_39 rfl (lv_at hl 1 rfl) ?_
          refine va_get (D := D) (ci := 5) (v := .int nt) (C := R_MD) (T := T_MD) (N := 22) hx hb hw in_MD hown hE.1 hP 0 rfl rfl 7 (by decide) (hw _ kw_768) (fun _ h9 => h9) rfl d_MD_counter_40 ?_
          refine lv_if_le (tgt := 50) hx hb d_MD_counter_43 (by decide) (fun c_43 => ?_) (fun c_43 => ?_)
          · skip
            refine lv_iconst (v := nI 0) hx hb d_MD_counter_50 (by decide +kernel) ?_
            refine lv_iconst (v := nI 1) hx hb d_MD_counter_51 (by decide +kernel) ?_
            refine cl_i (wr := [(w1, .inl (cI, 100, .inl sg)), (w2, .inl (cI, 244, .inl gl)), (w3, .inl (cI, 1600, .inl fi)), (w4, .inl (cI, 1600, .inl ip)), (w5, .inl (cI, 1600, .inl se))]) (va_runV (As := [.int (nI 0), .int (nI 1)]) (rest := []) ⟨hx, hb, hml, hown, hw⟩ (k_MD_fails l D cI cJ w0 w1 w2 w3 w4 w5 w6 w7 w8 w9 w10 w11 w12 w13 w14 (nI y) te nt wb rc fp ft th 0 1 _ (by omega)) (cwV 2 hw (gV kw_836 kw_838 kw_20 kw_45 kw_839) rfl rfl rfl (by decide +kernel) ⟨Nat.le_of_ble_eq_true rfl, Nat.le_of_ble_eq_true rfl⟩) (pre_Vw (wc := [(w0, .inr (5, [.ref w1, .ref w2, .int (nI y), .int te, .ref w3, .ref w4, .ref w5, .int nt, .int wb, .ref w6, .ref w7, .ref w8, .int rc, .ref w9, .ref w10, .ref w11, .ref w12, .ref w13, .ref w14, .int fp, .int ft, .int th]))]) (q0 := 0) hE hX hA hP hD hS [0] (by decide) rfl rfl rfl rfl) rfl rfl hl.1 rfl (lv_room (Nat.le_of_ble_eq_true rfl)) d_MD_counter_52 ⟨Nat.le_of_ble_eq_true rfl, Nat.le_of_ble_eq_true rfl⟩) hP hD hS hA [0] [1, 2, 3, 4, 5] rfl rfl (by decide) (by decide) (fun r_12 u_r_12 H locs hr_12 hP hD hS => ?_)
            obtain rfl : nI 0 = r_12 := hr_12.symm
            have hP : va_P D vwCl [(w1, .inl (cI, 100, .inl sg)), (w2, .inl (cI, 244, .inl gl)), (w3, .inl (cI, 1600, .inl fi)), (w4, .inl (cI, 1600, .inl ip)), (w5, .inl (cI, 1600, .inl se)), (w0, .inr (5, [.ref w1, .ref w2, .int (nI y), .int te, .ref w3, .ref w4, .ref w5, .int nt, .int wb, .ref w6, .ref w7, .ref w8, .int rc, .ref w9, .ref w10, .ref w11, .ref w12, .ref w13, .ref w14, .int fp, .int ft, .int (nI (flN 0 1))]))] H := hP
            have hD : va_D A [(w1, .inl (cI, 100, .inl sg)), (w2, .inl (cI, 244, .inl gl)), (w3, .inl (cI, 1600, .inl fi)), (w4, .inl (cI, 1600, .inl ip)), (w5, .inl (cI, 1600, .inl se)), (w0, .inr (5, [.ref w1, .ref w2, .int (nI y), .int te, .ref w3, .ref w4, .ref w5, .int nt, .int wb, .ref w6, .ref w7, .ref w8, .int rc, .ref w9, .ref w10, .ref w11, .ref w12, .ref w13, .ref w14, .int fp, .int ft, .int (nI (flN 0 1))]))] := hD
            refine jn_if_ne (tgt := 76) (a := 0) hx hb d_MD_counter_55 (by decide) (by decide) (fun c9 => absurd c9 (by decide)) (fun _ => ?_)
            refine lv_aload_n hx hb d_MD_counter_58 rfl (lv_at hl 1 rfl) ?_
            refine lv_iload hx hb d_MD_counter_59 (lv_at hl 0 rfl) ?_
            refine jn_if_ne (tgt := 68) (a := 0) hx hb d_MD_counter_61 (by decide) (by decide) (fun c9 => absurd c9 (by decide)) (fun _ => ?_)
            refine lv_iconst (v := nI 1) hx hb d_MD_counter_64 (by decide +kernel) ?_
            refine lv_goto (tgt := 69) hx hb d_MD_counter_65 (by decide) ?_
            refine lv_iconst (v := nI 2) hx hb d_MD_counter_69 (by decide +kernel) ?_
            refine cl_i (wr := [(w1, .inl (cI, 100, .inl sg)), (w2, .inl (cI, 244, .inl gl)), (w3, .inl (cI, 1600, .inl fi)), (w4, .inl (cI, 1600, .inl ip)), (w5, .inl (cI, 1600, .inl se))]) (va_runV (As := [.int (nI 1), .int (nI 2)]) (rest := []) ⟨hx, hb, hml, hown, hw⟩ (k_MD_fails l D cI cJ w0 w1 w2 w3 w4 w5 w6 w7 w8 w9 w10 w11 w12 w13 w14 (nI y) te nt wb rc fp ft (nI (flN 0 1)) 1 2 _ (by omega)) (cwV 2 hw (gV kw_836 kw_838 kw_20 kw_45 kw_839) rfl rfl rfl (by decide +kernel) ⟨Nat.le_of_ble_eq_true rfl, Nat.le_of_ble_eq_true rfl⟩) (pre_Vw (wc := [(w0, .inr (5, [.ref w1, .ref w2, .int (nI y), .int te, .ref w3, .ref w4, .ref w5, .int nt, .int wb, .ref w6, .ref w7, .ref w8, .int rc, .ref w9, .ref w10, .ref w11, .ref w12, .ref w13, .ref w14, .int fp, .int ft, .int (nI (flN 0 1))]))]) (q0 := 0) hE hX hA hP hD hS [5] (by decide) rfl rfl rfl rfl) rfl rfl hl.1 rfl (lv_room (Nat.le_of_ble_eq_true rfl)) d_MD_counter_70 ⟨Nat.le_of_ble_eq_true rfl, Nat.le_of_ble_eq_true rfl⟩) hP hD hS hA [5] [0, 1, 2, 3, 4] rfl rfl (by decide) (by decide) (fun r_13 u_r_13 H locs hr_13 hP hD hS => ?_)
            obtain rfl : nI 1 = r_13 := hr_13.symm
            have hP : va_P D vwCl [(w1, .inl (cI, 100, .inl sg)), (w2, .inl (cI, 244, .inl gl)), (w3, .inl (cI, 1600, .inl fi)), (w4, .inl (cI, 1600, .inl ip)), (w5, .inl (cI, 1600, .inl se)), (w0, .inr (5, [.ref w1, .ref w2, .int (nI y), .int te, .ref w3, .ref w4, .ref w5, .int nt, .int wb, .ref w6, .ref w7, .ref w8, .int rc, .ref w9, .ref w10, .ref w11, .ref w12, .ref w13, .ref w14, .int fp, .int ft, .int (nI (flN 1 2))]))] H := hP
            have hD : va_D A [(w1, .inl (cI, 100, .inl sg)), (w2, .inl (cI, 244, .inl gl)), (w3, .inl (cI, 1600, .inl fi)), (w4, .inl (cI, 1600, .inl ip)), (w5, .inl (cI, 1600, .inl se)), (w0, .inr (5, [.ref w1, .ref w2, .int (nI y), .int te, .ref w3, .ref w4, .ref w5, .int nt, .int wb, .ref w6, .ref w7, .ref w8, .int rc, .ref w9, .ref w10, .ref w11, .ref w12, .ref w13, .ref w14, .int fp, .int ft, .int (nI (flN 1 2))]))] := hD
            refine jn_if_eq (tgt := 78) (a := 1) hx hb d_MD_counter_73 (by decide) (by decide) (fun c9 => absurd c9 (by decide)) (fun _ => ?_)
            refine lv_iconst (v := nI 0) hx hb d_MD_counter_76 (by decide +kernel) ?_
            have hP9 := hP.sub (ws' := [(w0, .inr (5, [.ref w1, .ref w2, .int (nI y), .int te, .ref w3, .ref w4, .ref w5, .int nt, .int wb, .ref w6, .ref w7, .ref w8, .int rc, .ref w9, .ref w10, .ref w11, .ref w12, .ref w13, .ref w14, .int fp, .int ft, .int (nI (flN 1 2))])), (w1, .inl (cI, 100, .inl sg)), (w2, .inl (cI, 244, .inl gl)), (w3, .inl (cI, 1600, .inl fi)), (w4, .inl (cI, 1600, .inl ip)), (w5, .inl (cI, 1600, .inl se))]) [5, 0, 1, 2, 3, 4] rfl
            have hD9 := hD.sub (ws' := [(w0, .inr (5, [.ref w1, .ref w2, .int (nI y), .int te, .ref w3, .ref w4, .ref w5, .int nt, .int wb, .ref w6, .ref w7, .ref w8, .int rc, .ref w9, .ref w10, .ref w11, .ref w12, .ref w13, .ref w14, .int fp, .int ft, .int (nI (flN 1 2))])), (w1, .inl (cI, 100, .inl sg)), (w2, .inl (cI, 244, .inl gl)), (w3, .inl (cI, 1600, .inl fi)), (w4, .inl (cI, 1600, .inl ip)), (w5, .inl (cI, 1600, .inl se))]) [5, 0, 1, 2, 3, 4] (by decide) rfl
            exact W.iret (v := nI 0) hx hb hr (fun t9 ht hW => ⟨⟨_, (sg, gl, y, te, (fi, ip, se, nt), nI 2), rfl, (by unfold mcoV; dsimp only; rw [if_pos c_43, if_pos (show crN x v z = 0 from by unfold crN; rw [if_neg c_7, if_neg c_17, if_neg c_21, if_pos c_28])]), ⟨by rw [ht]; exact hP9, hD9⟩⟩, hS.F ht⟩) hS.2.2 d_MD_counter_77
          · skip
            refine lv_iconst (v := nI 1) hx hb d_MD_counter_46 (by decide +kernel) ?_
            refine lv_goto (tgt := 51) hx hb d_MD_counter_47 (by decide) ?_
            refine lv_iconst (v := nI 1) hx hb d_MD_counter_51 (by decide +kernel) ?_
            refine cl_i (wr := [(w1, .inl (cI, 100, .inl sg)), (w2, .inl (cI, 244, .inl gl)), (w3, .inl (cI, 1600, .inl fi)), (w4, .inl (cI, 1600, .inl ip)), (w5, .inl (cI, 1600, .inl se))]) (va_runV (As := [.int (nI 1), .int (nI 1)]) (rest := []) ⟨hx, hb, hml, hown, hw⟩ (k_MD_fails l D cI cJ w0 w1 w2 w3 w4 w5 w6 w7 w8 w9 w10 w11 w12 w13 w14 (nI y) te nt wb rc fp ft th 1 1 _ (by omega)) (cwV 2 hw (gV kw_836 kw_838 kw_20 kw_45 kw_839) rfl rfl rfl (by decide +kernel) ⟨Nat.le_of_ble_eq_true rfl, Nat.le_of_ble_eq_true rfl⟩) (pre_Vw (wc := [(w0, .inr (5, [.ref w1, .ref w2, .int (nI y), .int te, .ref w3, .ref w4, .ref w5, .int nt, .int wb, .ref w6, .ref w7, .ref w8, .int rc, .ref w9, .ref w10, .ref w11, .ref w12, .ref w13, .ref w14, .int fp, .int ft, .int th]))]) (q0 := 0) hE hX hA hP hD hS [0] (by decide) rfl rfl rfl rfl) rfl rfl hl.1 rfl (lv_room (Nat.le_of_ble_eq_true rfl)) d_MD_counter_52 ⟨Nat.le_of_ble_eq_true rfl, Nat.le_of_ble_eq_true rfl⟩) hP hD hS hA [0] [1, 2, 3, 4, 5] rfl rfl (by decide) (by decide) (fun r_14 u_r_14 H locs hr_14 hP hD hS => ?_)
            obtain rfl : nI 1 = r_14 := hr_14.symm
            have hP : va_P D vwCl [(w1, .inl (cI, 100, .inl sg)), (w2, .inl (cI, 244, .inl gl)), (w3, .inl (cI, 1600, .inl fi)), (w4, .inl (cI, 1600, .inl ip)), (w5, .inl (cI, 1600, .inl se)), (w0, .inr (5, [.ref w1, .ref w2, .int (nI y), .int te, .ref w3, .ref w4, .ref w5, .int nt, .int wb, .ref w6, .ref w7, .ref w8, .int rc, .ref w9, .ref w10, .ref w11, .ref w12, .ref w13, .ref w14, .int fp, .int ft, .int (nI (flN 1 1))]))] H := hP
            have hD : va_D A [(w1, .inl (cI, 100, .inl sg)), (w2, .inl (cI, 244, .inl gl)), (w3, .inl (cI, 1600, .inl fi)), (w4, .inl (cI, 1600, .inl ip)), (w5, .inl (cI, 1600, .inl se)), (w0, .inr (5, [.ref w1, .ref w2, .int (nI y), .int te, .ref w3, .ref w4, .ref w5, .int nt, .int wb, .ref w6, .ref w7, .ref w8, .int rc, .ref w9, .ref w10, .ref w11, .ref w12, .ref w13, .ref w14, .int fp, .int ft, .int (nI (flN 1 1))]))] := hD
            refine jn_if_ne (tgt := 76) (a := 1) hx hb d_MD_counter_55 (by decide) (by decide) (fun _ => ?_) (fun c9 => absurd c9 (by decide))
            refine lv_iconst (v := nI 0) hx hb d_MD_counter_76 (by decide +kernel) ?_
            have hP9 := hP.sub (ws' := [(w0, .inr (5, [.ref w1, .ref w2, .int (nI y), .int te, .ref w3, .ref w4, .ref w5, .int nt, .int wb, .ref w6, .ref w7, .ref w8, .int rc, .ref w9, .ref w10, .ref w11, .ref w12, .ref w13, .ref w14, .int fp, .int ft, .int (nI (flN 1 1))])), (w1, .inl (cI, 100, .inl sg)), (w2, .inl (cI, 244, .inl gl)), (w3, .inl (cI, 1600, .inl fi)), (w4, .inl (cI, 1600, .inl ip)), (w5, .inl (cI, 1600, .inl se))]) [5, 0, 1, 2, 3, 4] rfl
            have hD9 := hD.sub (ws' := [(w0, .inr (5, [.ref w1, .ref w2, .int (nI y), .int te, .ref w3, .ref w4, .ref w5, .int nt, .int wb, .ref w6, .ref w7, .ref w8, .int rc, .ref w9, .ref w10, .ref w11, .ref w12, .ref w13, .ref w14, .int fp, .int ft, .int (nI (flN 1 1))])), (w1, .inl (cI, 100, .inl sg)), (w2, .inl (cI, 244, .inl gl)), (w3, .inl (cI, 1600, .inl fi)), (w4, .inl (cI, 1600, .inl ip)), (w5, .inl (cI, 1600, .inl se))]) [5, 0, 1, 2, 3, 4] (by decide) rfl
            exact W.iret (v := nI 0) hx hb hr (fun t9 ht hW => ⟨⟨_, (sg, gl, y, te, (fi, ip, se, nt), nI 1), rfl, (by unfold mcoV; dsimp only; rw [if_neg c_43]), ⟨by rw [ht]; exact hP9, hD9⟩⟩, hS.F ht⟩) hS.2.2 d_MD_counter_77
        · skip
          refine lv_iconst (v := nI 1) hx hb d_MD_counter_31 (by decide +kernel) ?_
          refine lv_goto (tgt := 36) hx hb d_MD_counter_32 (by decide) ?_
          refine lv_istore (lv' := [(4, .int (nI 1)), (0, .ref w0), (1, .int x), (2, .int v), (3, .int z)]) hx hb d_MD_counter_36 hl (by decide) rfl (fun ls hl => ?_)
          refine lv_aload_n hx hb d_MD_counter_38 rfl (lv_at hl 1 rfl) ?_
          refine lv_aload_n hx hb d_MD_counter_39 rfl (lv_at hl 1 rfl) ?_
          refine va_get (D := D) (ci := 5) (v := .int nt) (C := R_MD) (T := T_MD) (N := 22) hx hb hw in_MD hown hE.1 hP 0 rfl rfl 7 (by decide) (hw _ kw_768) (fun _ h9 => h9) rfl d_MD_counter_40 ?_
          refine lv_if_le (tgt := 50) hx hb d_MD_counter_43 (by decide) (fun c_43 => ?_) (fun c_43 => ?_)
          · skip
            refine lv_iconst (v := nI 0) hx hb d_MD_counter_50 (by decide +kernel) ?_
            refine lv_iconst (v := nI 1) hx hb d_MD_counter_51 (by decide +kernel) ?_
            refine cl_i (wr := [(w1, .inl (cI, 100, .inl sg)), (w2, .inl (cI, 244, .inl gl)), (w3, .inl (cI, 1600, .inl fi)), (w4, .inl (cI, 1600, .inl ip)), (w5, .inl (cI, 1600, .inl se))]) (va_runV (As := [.int (nI 0), .int (nI 1)]) (rest := []) ⟨hx, hb, hml, hown, hw⟩ (k_MD_fails l D cI cJ w0 w1 w2 w3 w4 w5 w6 w7 w8 w9 w10 w11 w12 w13 w14 (nI y) te nt wb rc fp ft th 0 1 _ (by omega)) (cwV 2 hw (gV kw_836 kw_838 kw_20 kw_45 kw_839) rfl rfl rfl (by decide +kernel) ⟨Nat.le_of_ble_eq_true rfl, Nat.le_of_ble_eq_true rfl⟩) (pre_Vw (wc := [(w0, .inr (5, [.ref w1, .ref w2, .int (nI y), .int te, .ref w3, .ref w4, .ref w5, .int nt, .int wb, .ref w6, .ref w7, .ref w8, .int rc, .ref w9, .ref w10, .ref w11, .ref w12, .ref w13, .ref w14, .int fp, .int ft, .int th]))]) (q0 := 0) hE hX hA hP hD hS [0] (by decide) rfl rfl rfl rfl) rfl rfl hl.1 rfl (lv_room (Nat.le_of_ble_eq_true rfl)) d_MD_counter_52 ⟨Nat.le_of_ble_eq_true rfl, Nat.le_of_ble_eq_true rfl⟩) hP hD hS hA [0] [1, 2, 3, 4, 5] rfl rfl (by decide) (by decide) (fun r_15 u_r_15 H locs hr_15 hP hD hS => ?_)
            obtain rfl : nI 0 = r_15 := hr_15.symm
            have hP : va_P D vwCl [(w1, .inl (cI, 100, .inl sg)), (w2, .inl (cI, 244, .inl gl)), (w3, .inl (cI, 1600, .inl fi)), (w4, .inl (cI, 1600, .inl ip)), (w5, .inl (cI, 1600, .inl se)), (w0, .inr (5, [.ref w1, .ref w2, .int (nI y), .int te, .ref w3, .ref w4, .ref w5, .int nt, .int wb, .ref w6, .ref w7, .ref w8, .int rc, .ref w9, .ref w10, .ref w11, .ref w12, .ref w13, .ref w14, .int fp, .int ft, .int (nI (flN 0 1))]))] H := hP
            have hD : va_D A [(w1, .inl (cI, 100, .inl sg)), (w2, .inl (cI, 244, .inl gl)), (w3, .inl (cI, 1600, .inl fi)), (w4, .inl (cI, 1600, .inl ip)), (w5, .inl (cI, 1600, .inl se)), (w0, .inr (5, [.ref w1, .ref w2, .int (nI y), .int te, .ref w3, .ref w4, .ref w5, .int nt, .int wb, .ref w6, .ref w7, .ref w8, .int rc, .ref w9, .ref w10, .ref w11, .ref w12, .ref w13, .ref w14, .int fp, .int ft, .int (nI (flN 0 1))]))] := hD
            refine jn_if_ne (tgt := 76) (a := 0) hx hb d_MD_counter_55 (by decide) (by decide) (fun c9 => absurd c9 (by decide)) (fun _ => ?_)
            refine lv_aload_n hx hb d_MD_counter_58 rfl (lv_at hl 1 rfl) ?_
            refine lv_iload hx hb d_MD_counter_59 (lv_at hl 0 rfl) ?_
            refine jn_if_ne (tgt := 68) (a := 1) hx hb d_MD_counter_61 (by decide) (by decide) (fun _ => ?_) (fun c9 => absurd c9 (by decide))
            refine lv_iconst (v := nI 0) hx hb d_MD_counter_68 (by decide +kernel) ?_
            refine lv_iconst (v := nI 2) hx hb d_MD_counter_69 (by decide +kernel) ?_
            refine cl_i (wr := [(w1, .inl (cI, 100, .inl sg)), (w2, .inl (cI, 244, .inl gl)), (w3, .inl (cI, 1600, .inl fi)), (w4, .inl (cI, 1600, .inl ip)), (w5, .inl (cI, 1600, .inl se))]) (va_runV (As := [.int (nI 0), .int (nI 2)]) (rest := []) ⟨hx, hb, hml, hown, hw⟩ (k_MD_fails l D cI cJ w0 w1 w2 w3 w4 w5 w6 w7 w8 w9 w10 w11 w12 w13 w14 (nI y) te nt wb rc fp ft (nI (flN 0 1)) 0 2 _ (by omega)) (cwV 2 hw (gV kw_836 kw_838 kw_20 kw_45 kw_839) rfl rfl rfl (by decide +kernel) ⟨Nat.le_of_ble_eq_true rfl, Nat.le_of_ble_eq_true rfl⟩) (pre_Vw (wc := [(w0, .inr (5, [.ref w1, .ref w2, .int (nI y), .int te, .ref w3, .ref w4, .ref w5, .int nt, .int wb, .ref w6, .ref w7, .ref w8, .int rc, .ref w9, .ref w10, .ref w11, .ref w12, .ref w13, .ref w14, .int fp, .int ft, .int (nI (flN 0 1))]))]) (q0 := 0) hE hX hA hP hD hS [5] (by decide) rfl rfl rfl rfl) rfl rfl hl.1 rfl (lv_room (Nat.le_of_ble_eq_true rfl)) d_MD_counter_70 ⟨Nat.le_of_ble_eq_true rfl, Nat.le_of_ble_eq_true rfl⟩) hP hD hS hA [5] [0, 1, 2, 3, 4] rfl rfl (by decide) (by decide) (fun r_16 u_r_16 H locs hr_16 hP hD hS => ?_)
            obtain rfl : nI 0 = r_16 := hr_16.symm
            have hP : va_P D vwCl [(w1, .inl (cI, 100, .inl sg)), (w2, .inl (cI, 244, .inl gl)), (w3, .inl (cI, 1600, .inl fi)), (w4, .inl (cI, 1600, .inl ip)), (w5, .inl (cI, 1600, .inl se)), (w0, .inr (5, [.ref w1, .ref w2, .int (nI y), .int te, .ref w3, .ref w4, .ref w5, .int nt, .int wb, .ref w6, .ref w7, .ref w8, .int rc, .ref w9, .ref w10, .ref w11, .ref w12, .ref w13, .ref w14, .int fp, .int ft, .int (nI (flN 0 2))]))] H := hP
            have hD : va_D A [(w1, .inl (cI, 100, .inl sg)), (w2, .inl (cI, 244, .inl gl)), (w3, .inl (cI, 1600, .inl fi)), (w4, .inl (cI, 1600, .inl ip)), (w5, .inl (cI, 1600, .inl se)), (w0, .inr (5, [.ref w1, .ref w2, .int (nI y), .int te, .ref w3, .ref w4, .ref w5, .int nt, .int wb, .ref w6, .ref w7, .ref w8, .int rc, .ref w9, .ref w10, .ref w11, .ref w12, .ref w13, .ref w14, .int fp, .int ft, .int (nI (flN 0 2))]))] := hD
            refine jn_if_eq (tgt := 78) (a := 0) hx hb d_MD_counter_73 (by decide) (by decide) (fun _ => ?_) (fun c9 => absurd c9 (by decide))
            obtain ⟨a9, hk1, hk2, rfl⟩ := wiN_nat c_7 (by decide) (by decide)
            obtain ⟨b9, hj1, hj2, rfl⟩ := wiN_nat c_17 (by decide) (by decide)
            refine lv_aload_n hx hb d_MD_counter_78 rfl (lv_at hl 1 rfl) ?_
            refine cl_v (wr := [(w3, .inl (cI, 1600, .inl fi)), (w4, .inl (cI, 1600, .inl ip)), (w5, .inl (cI, 1600, .inl se))]) (va_runV (As := []) (rest := []) ⟨hx, hb, hml, hown, hw⟩ (k_MD_begin l D cI cJ w0 w1 w2 w3 w4 w5 w6 w7 w8 w9 w10 w11 w12 w13 w14 (nI y) te nt wb rc fp ft (nI (flN 0 2)) sg gl _) (cwV 0 hw (gV kw_987 kw_989 kw_38 kw_45 kw_990) rfl rfl rfl (by decide +kernel) ⟨Nat.le_of_ble_eq_true rfl, Nat.le_of_ble_eq_true rfl⟩) (pre_Vw (wc := [(w0, .inr (5, [.ref w1, .ref w2, .int (nI y), .int te, .ref w3, .ref w4, .ref w5, .int nt, .int wb, .ref w6, .ref w7, .ref w8, .int rc, .ref w9, .ref w10, .ref w11, .ref w12, .ref w13, .ref w14, .int fp, .int ft, .int (nI (flN 0 2))])), (w1, .inl (cI, 100, .inl sg)), (w2, .inl (cI, 244, .inl gl))]) (q0 := 0) hE hX hA hP hD hS [5, 0, 1] (by decide) rfl rfl rfl rfl) rfl rfl hl.1 rfl (lv_room (Nat.le_of_ble_eq_true rfl)) d_MD_counter_79 ⟨Nat.le_of_ble_eq_true rfl, Nat.le_of_ble_eq_true rfl⟩) hP hD hS hA [5, 0, 1] [2, 3, 4] rfl rfl (by decide) (by decide) (fun u_r_17 H locs hr_17 hP hD hS => ?_)
            have hP : va_P D vwCl [(w3, .inl (cI, 1600, .inl fi)), (w4, .inl (cI, 1600, .inl ip)), (w5, .inl (cI, 1600, .inl se)), (w0, .inr (5, [.ref w1, .ref w2, .int (nI 2), .int (nI 2), .ref w3, .ref w4, .ref w5, .int nt, .int wb, .ref w6, .ref w7, .ref w8, .int rc, .ref w9, .ref w10, .ref w11, .ref w12, .ref w13, .ref w14, .int fp, .int ft, .int (nI (flN 0 2))])), (w1, .inl (cI, 100, .inl (bmL sg 100))), (w2, .inl (cI, 244, .inl (bgG gl)))] H := hP
            have hD : va_D A [(w3, .inl (cI, 1600, .inl fi)), (w4, .inl (cI, 1600, .inl ip)), (w5, .inl (cI, 1600, .inl se)), (w0, .inr (5, [.ref w1, .ref w2, .int (nI 2), .int (nI 2), .ref w3, .ref w4, .ref w5, .int nt, .int wb, .ref w6, .ref w7, .ref w8, .int rc, .ref w9, .ref w10, .ref w11, .ref w12, .ref w13, .ref w14, .int fp, .int ft, .int (nI (flN 0 2))])), (w1, .inl (cI, 100, .inl (bmL sg 100))), (w2, .inl (cI, 244, .inl (bgG gl)))] := hD
            refine lv_aload_n hx hb d_MD_counter_82 rfl (lv_at hl 1 rfl) ?_
            refine lv_iconst (v := nI 0) hx hb d_MD_counter_83 (by decide +kernel) ?_
            refine lv_iconst (v := nI 0) hx hb d_MD_counter_84 (by decide +kernel) ?_
            refine lv_iconst (v := nI 0) hx hb d_MD_counter_85 (by decide +kernel) ?_
            refine lv_iconst (v := nI 4) hx hb d_MD_counter_86 (by decide +kernel) ?_
            refine cl_i (wr := [(w3, .inl (cI, 1600, .inl fi)), (w4, .inl (cI, 1600, .inl ip)), (w5, .inl (cI, 1600, .inl se)), (w1, .inl (cI, 100, .inl (bmL sg 100)))]) (va_runV (As := [.int (nI 0), .int (nI 0), .int (nI 0), .int (nI 4)]) (rest := []) ⟨hx, hb, hml, hown, hw⟩ (k_MD_add l D cI cJ w0 w1 w2 w3 w4 w5 w6 w7 w8 w9 w10 w11 w12 w13 w14 2 (nI 2) nt wb rc fp ft (nI (flN 0 2)) (bgG gl) (nI 0) (nI 0) (nI 0) (nI 4) _ (by omega)) (cwV 4 hw (gV kw_847 kw_849 kw_21 kw_45 kw_850) rfl rfl rfl (by decide +kernel) ⟨Nat.le_of_ble_eq_true rfl, Nat.le_of_ble_eq_true rfl⟩) (pre_Vw (wc := [(w0, .inr (5, [.ref w1, .ref w2, .int (nI 2), .int (nI 2), .ref w3, .ref w4, .ref w5, .int nt, .int wb, .ref w6, .ref w7, .ref w8, .int rc, .ref w9, .ref w10, .ref w11, .ref w12, .ref w13, .ref w14, .int fp, .int ft, .int (nI (flN 0 2))])), (w2, .inl (cI, 244, .inl (bgG gl)))]) (q0 := 0) hE hX hA hP hD hS [3, 5] (by decide) rfl rfl rfl rfl) rfl rfl hl.1 rfl (lv_room (Nat.le_of_ble_eq_true rfl)) d_MD_counter_87 ⟨Nat.le_of_ble_eq_true rfl, Nat.le_of_ble_eq_true rfl⟩) hP hD hS hA [3, 5] [0, 1, 2, 4] rfl rfl (by decide) (by decide) (fun r_18 u_r_18 H locs hr_18 hP hD hS => ?_)
            obtain rfl : nI (2 + 1) = r_18 := hr_18.symm
            have hP : va_P D vwCl [(w3, .inl (cI, 1600, .inl fi)), (w4, .inl (cI, 1600, .inl ip)), (w5, .inl (cI, 1600, .inl se)), (w1, .inl (cI, 100, .inl (bmL sg 100))), (w0, .inr (5, [.ref w1, .ref w2, .int (nI (2 + 1)), .int (nI 2), .ref w3, .ref w4, .ref w5, .int nt, .int wb, .ref w6, .ref w7, .ref w8, .int rc, .ref w9, .ref w10, .ref w11, .ref w12, .ref w13, .ref w14, .int fp, .int ft, .int (nI (flN 0 2))])), (w2, .inl (cI, 244, .inl (agS (bgG gl) (2 + 1) (nI 0) (nI 0) (nI 0) (nI 4))))] H := hP
            have hD : va_D A [(w3, .inl (cI, 1600, .inl fi)), (w4, .inl (cI, 1600, .inl ip)), (w5, .inl (cI, 1600, .inl se)), (w1, .inl (cI, 100, .inl (bmL sg 100))), (w0, .inr (5, [.ref w1, .ref w2, .int (nI (2 + 1)), .int (nI 2), .ref w3, .ref w4, .ref w5, .int nt, .int wb, .ref w6, .ref w7, .ref w8, .int rc, .ref w9, .ref w10, .ref w11, .ref w12, .ref w13, .ref w14, .int fp, .int ft, .int (nI (flN 0 2))])), (w2, .inl (cI, 244, .inl (agS (bgG gl) (2 + 1) (nI 0) (nI 0) (nI 0) (nI 4))))] := hD
            refine lv_pop hx hb d_MD_counter_90 rfl ?_
            refine lv_iconst (v := nI 0) hx hb d_MD_counter_91 (by decide +kernel) ?_
            refine lv_istore (lv' := [(5, .int (nI 0)), (4, .int (nI 1)), (0, .ref w0), (1, .int (nI a9)), (2, .int v), (3, .int (nI b9))]) hx hb d_MD_counter_92 hl (by decide) rfl (fun ls hl => ?_)
            refine lv_iload hx hb d_MD_counter_94 (lv_at hl 0 rfl) ?_
            refine lv_iconst (v := nI 2) hx hb d_MD_counter_96 (by decide +kernel) ?_
            refine jn_icmp_ge (tgt := 150) (a := 0) (b := 2) hx hb d_MD_counter_97 (by decide) (by decide) (by decide) (fun c9 => absurd c9 (by decide)) (fun _ => ?_)
            refine lv_iconst (v := nI 0) hx hb d_MD_counter_100 (by decide +kernel) ?_
            refine lv_istore (lv' := [(6, .int (nI 0)), (5, .int (nI 0)), (4, .int (nI 1)), (0, .ref w0), (1, .int (nI a9)), (2, .int v), (3, .int (nI b9))]) hx hb d_MD_counter_101 hl (by decide) rfl (fun ls hl => ?_)
            refine lv_iload hx hb d_MD_counter_103 (lv_at hl 0 rfl) ?_
            refine lv_iconst (v := nI 2) hx hb d_MD_counter_105 (by decide +kernel) ?_
            refine jn_icmp_ge (tgt := 144) (a := 0) (b := 2) hx hb d_MD_counter_106 (by decide) (by decide) (by decide) (fun c9 => absurd c9 (by decide)) (fun _ => ?_)
            refine lv_aload_n hx hb d_MD_counter_109 rfl (lv_at hl 3 rfl) ?_
            refine lv_iconst (v := nI 1) hx hb d_MD_counter_110 (by decide +kernel) ?_
            refine lv_iload hx hb d_MD_counter_111 (lv_at hl 1 rfl) ?_
            refine lv_iload hx hb d_MD_counter_113 (lv_at hl 0 rfl) ?_
            refine jn_iadd (a := 0) (b := 0) hx hb d_MD_counter_115 ?_
            refine W.eq (g2 := F0 m 116 ls (.int (nI 0) :: [.int (nI 1), .ref w0])) (by rfl) ?_
            refine lv_iconst (v := nI 2) hx hb d_MD_counter_116 (by decide +kernel) ?_
            refine jn_irem (a := 0) (b := 2) hx hb d_MD_counter_117 (by omega) (by omega) (by omega) ?_
            refine W.eq (g2 := F0 m 118 ls (.int (nI 0) :: [.int (nI 1), .ref w0])) (by rfl) ?_
            refine jn_iadd (a := 1) (b := 0) hx hb d_MD_counter_118 ?_
            refine W.eq (g2 := F0 m 119 ls (.int (nI 1) :: [.ref w0])) (by rfl) ?_
            refine lv_iconst (v := nI 3) hx hb d_MD_counter_119 (by decide +kernel) ?_
            refine lv_iload hx hb d_MD_counter_120 (lv_at hl 0 rfl) ?_
            refine jn_iadd (a := 3) (b := 0) hx hb d_MD_counter_122 ?_
            refine W.eq (g2 := F0 m 123 ls (.int (nI 3) :: [.int (nI 1), .ref w0])) (by rfl) ?_
            refine lv_iconst (v := nI 1) hx hb d_MD_counter_123 (by decide +kernel) ?_
            refine lv_iload hx hb d_MD_counter_124 (lv_at hl 1 rfl) ?_
            refine jn_iadd (a := 1) (b := 0) hx hb d_MD_counter_126 ?_
            refine W.eq (g2 := F0 m 127 ls (.int (nI 1) :: [.int (nI 3), .int (nI 1), .ref w0])) (by rfl) ?_
            refine lv_iconst (v := nI 3) hx hb d_MD_counter_127 (by decide +kernel) ?_
            refine lv_iload hx hb d_MD_counter_128 (lv_at hl 1 rfl) ?_
            refine lv_iload hx hb d_MD_counter_130 (lv_at hl 0 rfl) ?_
            refine jn_imul (a := 0) (b := 0) hx hb d_MD_counter_132 ?_
            refine W.eq (g2 := F0 m 133 ls (.int (nI 0) :: [.int (nI 3), .int (nI 1), .int (nI 3), .int (nI 1), .ref w0])) (by rfl) ?_
            refine jn_iadd (a := 3) (b := 0) hx hb d_MD_counter_133 ?_
            refine W.eq (g2 := F0 m 134 ls (.int (nI 3) :: [.int (nI 1), .int (nI 3), .int (nI 1), .ref w0])) (by rfl) ?_
            refine cl_i (wr := [(w3, .inl (cI, 1600, .inl fi)), (w4, .inl (cI, 1600, .inl ip)), (w5, .inl (cI, 1600, .inl se)), (w1, .inl (cI, 100, .inl (bmL sg 100)))]) (va_runV (As := [.int (nI 1), .int (nI 3), .int (nI 1), .int (nI 3)]) (rest := []) ⟨hx, hb, hml, hown, hw⟩ (k_MD_add l D cI cJ w0 w1 w2 w3 w4 w5 w6 w7 w8 w9 w10 w11 w12 w13 w14 (2 + 1) (nI 2) nt wb rc fp ft (nI (flN 0 2)) (agS (bgG gl) (2 + 1) (nI 0) (nI 0) (nI 0) (nI 4)) (nI 1) (nI 3) (nI 1) (nI 3) _ (by omega)) (cwV 4 hw (gV kw_847 kw_849 kw_21 kw_45 kw_850) rfl rfl rfl (by decide +kernel) ⟨Nat.le_of_ble_eq_true rfl, Nat.le_of_ble_eq_true rfl⟩) (pre_Vw (wc := [(w0, .inr (5, [.ref w1, .ref w2, .int (nI (2 + 1)), .int (nI 2), .ref w3, .ref w4, .ref w5, .int nt, .int wb, .ref w6, .ref w7, .ref w8, .int rc, .ref w9, .ref w10, .ref w11, .ref w12, .ref w13, .ref w14, .int fp, .int ft, .int (nI (flN 0 2))])), (w2, .inl (cI, 244, .inl (agS (bgG gl) (2 + 1) (nI 0) (nI 0) (nI 0) (nI 4))))]) (q0 := 0) hE hX hA hP hD hS [4, 5] (by decide) rfl rfl rfl rfl) rfl rfl hl.1 rfl (lv_room (Nat.le_of_ble_eq_true rfl)) d_MD_counter_134 ⟨Nat.le_of_ble_eq_true rfl, Nat.le_of_ble_eq_true rfl⟩) hP hD hS hA [4, 5] [0, 1, 2, 3] rfl rfl (by decide) (by decide) (fun r_19 u_r_19 H locs hr_19 hP hD hS => ?_)
            obtain rfl : nI ((2 + 1) + 1) = r_19 := hr_19.symm
            have hP : va_P D vwCl [(w3, .inl (cI, 1600, .inl fi)), (w4, .inl (cI, 1600, .inl ip)), (w5, .inl (cI, 1600, .inl se)), (w1, .inl (cI, 100, .inl (bmL sg 100))), (w0, .inr (5, [.ref w1, .ref w2, .int (nI ((2 + 1) + 1)), .int (nI 2), .ref w3, .ref w4, .ref w5, .int nt, .int wb, .ref w6, .ref w7, .ref w8, .int rc, .ref w9, .ref w10, .ref w11, .ref w12, .ref w13, .ref w14, .int fp, .int ft, .int (nI (flN 0 2))])), (w2, .inl (cI, 244, .inl (agS (agS (bgG gl) (2 + 1) (nI 0) (nI 0) (nI 0) (nI 4)) ((2 + 1) + 1) (nI 1) (nI 3) (nI 1) (nI 3))))] H := hP
            have hD : va_D A [(w3, .inl (cI, 1600, .inl fi)), (w4, .inl (cI, 1600, .inl ip)), (w5, .inl (cI, 1600, .inl se)), (w1, .inl (cI, 100, .inl (bmL sg 100))), (w0, .inr (5, [.ref w1, .ref w2, .int (nI ((2 + 1) + 1)), .int (nI 2), .ref w3, .ref w4, .ref w5, .int nt, .int wb, .ref w6, .ref w7, .ref w8, .int rc, .ref w9, .ref w10, .ref w11, .ref w12, .ref w13, .ref w14, .int fp, .int ft, .int (nI (flN 0 2))])), (w2, .inl (cI, 244, .inl (agS (agS (bgG gl) (2 + 1) (nI 0) (nI 0) (nI 0) (nI 4)) ((2 + 1) + 1) (nI 1) (nI 3) (nI 1) (nI 3))))] := hD
            refine lv_pop hx hb d_MD_counter_137 rfl ?_
            refine lv_iinc (v := nI 1) (lv' := [(6, .int (nI 1)), (5, .int (nI 0)), (4, .int (nI 1)), (0, .ref w0), (1, .int (nI a9)), (2, .int v), (3, .int (nI b9))]) hx hb d_MD_counter_138 hl (k := 0) rfl (by decide +kernel) (by decide) rfl (fun ls hl => ?_)
            refine lv_goto (tgt := 103) hx hb d_MD_counter_141 (by decide) ?_
            refine lv_iload hx hb d_MD_counter_103 (lv_at hl 0 rfl) ?_
            refine lv_iconst (v := nI 2) hx hb d_MD_counter_105 (by decide +kernel) ?_
            refine jn_icmp_ge (tgt := 144) (a := 1) (b := 2) hx hb d_MD_counter_106 (by decide) (by decide) (by decide) (fun c9 => absurd c9 (by decide)) (fun _ => ?_)
            refine lv_aload_n hx hb d_MD_counter_109 rfl (lv_at hl 3 rfl) ?_
            refine lv_iconst (v := nI 1) hx hb d_MD_counter_110 (by decide +kernel) ?_
            refine lv_iload hx hb d_MD_counter_111 (lv_at hl 1 rfl) ?_
            refine lv_iload hx hb d_MD_counter_113 (lv_at hl 0 rfl) ?_
            refine jn_iadd (a := 0) (b := 1) hx hb d_MD_counter_115 ?_
            refine W.eq (g2 := F0 m 116 ls (.int (nI 1) :: [.int (nI 1), .ref w0])) (by rfl) ?_
            refine lv_iconst (v := nI 2) hx hb d_MD_counter_116 (by decide +kernel) ?_
            refine jn_irem (a := 1) (b := 2) hx hb d_MD_counter_117 (by omega) (by omega) (by omega) ?_
            refine W.eq (g2 := F0 m 118 ls (.int (nI 1) :: [.int (nI 1), .ref w0])) (by rfl) ?_
            refine jn_iadd (a := 1) (b := 1) hx hb d_MD_counter_118 ?_
            refine W.eq (g2 := F0 m 119 ls (.int (nI 2) :: [.ref w0])) (by rfl) ?_
            refine lv_iconst (v := nI 3) hx hb d_MD_counter_119 (by decide +kernel) ?_
            refine lv_iload hx hb d_MD_counter_120 (lv_at hl 0 rfl) ?_
            refine jn_iadd (a := 3) (b := 1) hx hb d_MD_counter_122 ?_
            refine W.eq (g2 := F0 m 123 ls (.int (nI 4) :: [.int (nI 2), .ref w0])) (by rfl) ?_
            refine lv_iconst (v := nI 1) hx hb d_MD_counter_123 (by decide +kernel) ?_
            refine lv_iload hx hb d_MD_counter_124 (lv_at hl 1 rfl) ?_
            refine jn_iadd (a := 1) (b := 0) hx hb d_MD_counter_126 ?_
            refine W.eq (g2 := F0 m 127 ls (.int (nI 1) :: [.int (nI 4), .int (nI 2), .ref w0])) (by rfl) ?_
            refine lv_iconst (v := nI 3) hx hb d_MD_counter_127 (by decide +kernel) ?_
            refine lv_iload hx hb d_MD_counter_128 (lv_at hl 1 rfl) ?_
            refine lv_iload hx hb d_MD_counter_130 (lv_at hl 0 rfl) ?_
            refine jn_imul (a := 0) (b := 1) hx hb d_MD_counter_132 ?_
            refine W.eq (g2 := F0 m 133 ls (.int (nI 0) :: [.int (nI 3), .int (nI 1), .int (nI 4), .int (nI 2), .ref w0])) (by rfl) ?_
            refine jn_iadd (a := 3) (b := 0) hx hb d_MD_counter_133 ?_
            refine W.eq (g2 := F0 m 134 ls (.int (nI 3) :: [.int (nI 1), .int (nI 4), .int (nI 2), .ref w0])) (by rfl) ?_
            refine cl_i (wr := [(w3, .inl (cI, 1600, .inl fi)), (w4, .inl (cI, 1600, .inl ip)), (w5, .inl (cI, 1600, .inl se)), (w1, .inl (cI, 100, .inl (bmL sg 100)))]) (va_runV (As := [.int (nI 2), .int (nI 4), .int (nI 1), .int (nI 3)]) (rest := []) ⟨hx, hb, hml, hown, hw⟩ (k_MD_add l D cI cJ w0 w1 w2 w3 w4 w5 w6 w7 w8 w9 w10 w11 w12 w13 w14 ((2 + 1) + 1) (nI 2) nt wb rc fp ft (nI (flN 0 2)) (agS (agS (bgG gl) (2 + 1) (nI 0) (nI 0) (nI 0) (nI 4)) ((2 + 1) + 1) (nI 1) (nI 3) (nI 1) (nI 3)) (nI 2) (nI 4) (nI 1) (nI 3) _ (by omega)) (cwV 4 hw (gV kw_847 kw_849 kw_21 kw_45 kw_850) rfl rfl rfl (by decide +kernel) ⟨Nat.le_of_ble_eq_true rfl, Nat.le_of_ble_eq_true rfl⟩) (pre_Vw (wc := [(w0, .inr (5, [.ref w1, .ref w2, .int (nI ((2 + 1) + 1)), .int (nI 2), .ref w3, .ref w4, .ref w5, .int nt, .int wb, .ref w6, .ref w7, .ref w8, .int rc, .ref w9, .ref w10, .ref w11, .ref w12, .ref w13, .ref w14, .int fp, .int ft, .int (nI (flN 0 2))])), (w2, .inl (cI, 244, .inl (agS (agS (bgG gl) (2 + 1) (nI 0) (nI 0) (nI 0) (nI 4)) ((2 + 1) + 1) (nI 1) (nI 3) (nI 1) (nI 3))))]) (q0 := 0) hE hX hA hP hD hS [4, 5] (by decide) rfl rfl rfl rfl) rfl rfl hl.1 rfl (lv_room (Nat.le_of_ble_eq_true rfl)) d_MD_counter_134 ⟨Nat.le_of_ble_eq_true rfl, Nat.le_of_ble_eq_true rfl⟩) hP hD hS hA [4, 5] [0, 1, 2, 3] rfl rfl (by decide) (by decide) (fun r_20 u_r_20 H locs hr_20 hP hD hS => ?_)
            obtain rfl : nI (((2 + 1) + 1) + 1) = r_20 := hr_20.symm
            have hP : va_P D vwCl [(w3, .inl (cI, 1600, .inl fi)), (w4, .inl (cI, 1600, .inl ip)), (w5, .inl (cI, 1600, .inl se)), (w1, .inl (cI, 100, .inl (bmL sg 100))), (w0, .inr (5, [.ref w1, .ref w2, .int (nI (((2 + 1) + 1) + 1)), .int (nI 2), .ref w3, .ref w4, .ref w5, .int nt, .int wb, .ref w6, .ref w7, .ref w8, .int rc, .ref w9, .ref w10, .ref w11, .ref w12, .ref w13, .ref w14, .int fp, .int ft, .int (nI (flN 0 2))])), (w2, .inl (cI, 244, .inl (agS (agS (agS (bgG gl) (2 + 1) (nI 0) (nI 0) (nI 0) (nI 4)) ((2 + 1) + 1) (nI 1) (nI 3) (nI 1) (nI 3)) (((2 + 1) + 1) + 1) (nI 2) (nI 4) (nI 1) (nI 3))))] H := hP
            have hD : va_D A [(w3, .inl (cI, 1600, .inl fi)), (w4, .inl (cI, 1600, .inl ip)), (w5, .inl (cI, 1600, .inl se)), (w1, .inl (cI, 100, .inl (bmL sg 100))), (w0, .inr (5, [.ref w1, .ref w2, .int (nI (((2 + 1) + 1) + 1)), .int (nI 2), .ref w3, .ref w4, .ref w5, .int nt, .int wb, .ref w6, .ref w7, .ref w8, .int rc, .ref w9, .ref w10, .ref w11, .ref w12, .ref w13, .ref w14, .int fp, .int ft, .int (nI (flN 0 2))])), (w2, .inl (cI, 244, .inl (agS (agS (agS (bgG gl) (2 + 1) (nI 0) (nI 0) (nI 0) (nI 4)) ((2 + 1) + 1) (nI 1) (nI 3) (nI 1) (nI 3)) (((2 + 1) + 1) + 1) (nI 2) (nI 4) (nI 1) (nI 3))))] := hD
            refine lv_pop hx hb d_MD_counter_137 rfl ?_
            refine lv_iinc (v := nI 2) (lv' := [(6, .int (nI 2)), (5, .int (nI 0)), (4, .int (nI 1)), (0, .ref w0), (1, .int (nI a9)), (2, .int v), (3, .int (nI b9))]) hx hb d_MD_counter_138 hl (k := 0) rfl (by decide +kernel) (by decide) rfl (fun ls hl => ?_)
            refine lv_goto (tgt := 103) hx hb d_MD_counter_141 (by decide) ?_
            refine lv_iload hx hb d_MD_counter_103 (lv_at hl 0 rfl) ?_
            refine lv_iconst (v := nI 2) hx hb d_MD_counter_105 (by decide +kernel) ?_
            refine jn_icmp_ge (tgt := 144) (a := 2) (b := 2) hx hb d_MD_counter_106 (by decide) (by decide) (by decide) (fun _ => ?_) (fun c9 => absurd c9 (by decide))
            refine lv_iinc (v := nI 1) (lv' := [(5, .int (nI 1)), (6, .int (nI 2)), (4, .int (nI 1)), (0, .ref w0), (1, .int (nI a9)), (2, .int v), (3, .int (nI b9))]) hx hb d_MD_counter_144 hl (k := 1) rfl (by decide +kernel) (by decide) rfl (fun ls hl => ?_)
            refine lv_goto (tgt := 94) hx hb d_MD_counter_147 (by decide) ?_
            refine lv_iload hx hb d_MD_counter_94 (lv_at hl 0 rfl) ?_
            refine lv_iconst (v := nI 2) hx hb d_MD_counter_96 (by decide +kernel) ?_
            refine jn_icmp_ge (tgt := 150) (a := 1) (b := 2) hx hb d_MD_counter_97 (by decide) (by decide) (by decide) (fun c9 => absurd c9 (by decide)) (fun _ => ?_)
            refine lv_iconst (v := nI 0) hx hb d_MD_counter_100 (by decide +kernel) ?_
            refine lv_istore (lv' := [(6, .int (nI 0)), (5, .int (nI 1)), (4, .int (nI 1)), (0, .ref w0), (1, .int (nI a9)), (2, .int v), (3, .int (nI b9))]) hx hb d_MD_counter_101 hl (by decide) rfl (fun ls hl => ?_)
            refine lv_iload hx hb d_MD_counter_103 (lv_at hl 0 rfl) ?_
            refine lv_iconst (v := nI 2) hx hb d_MD_counter_105 (by decide +kernel) ?_
            refine jn_icmp_ge (tgt := 144) (a := 0) (b := 2) hx hb d_MD_counter_106 (by decide) (by decide) (by decide) (fun c9 => absurd c9 (by decide)) (fun _ => ?_)
            refine lv_aload_n hx hb d_MD_counter_109 rfl (lv_at hl 3 rfl) ?_
            refine lv_iconst (v := nI 1) hx hb d_MD_counter_110 (by decide +kernel) ?_
            refine lv_iload hx hb d_MD_counter_111 (lv_at hl 1 rfl) ?_
            refine lv_iload hx hb d_MD_counter_113 (lv_at hl 0 rfl) ?_
            refine jn_iadd (a := 1) (b := 0) hx hb d_MD_counter_115 ?_
            refine W.eq (g2 := F0 m 116 ls (.int (nI 1) :: [.int (nI 1), .ref w0])) (by rfl) ?_
            refine lv_iconst (v := nI 2) hx hb d_MD_counter_116 (by decide +kernel) ?_
            refine jn_irem (a := 1) (b := 2) hx hb d_MD_counter_117 (by omega) (by omega) (by omega) ?_
            refine W.eq (g2 := F0 m 118 ls (.int (nI 1) :: [.int (nI 1), .ref w0])) (by rfl) ?_
            refine jn_iadd (a := 1) (b := 1) hx hb d_MD_counter_118 ?_
            refine W.eq (g2 := F0 m 119 ls (.int (nI 2) :: [.ref w0])) (by rfl) ?_
            refine lv_iconst (v := nI 3) hx hb d_MD_counter_119 (by decide +kernel) ?_
            refine lv_iload hx hb d_MD_counter_120 (lv_at hl 0 rfl) ?_
            refine jn_iadd (a := 3) (b := 0) hx hb d_MD_counter_122 ?_
            refine W.eq (g2 := F0 m 123 ls (.int (nI 3) :: [.int (nI 2), .ref w0])) (by rfl) ?_
            refine lv_iconst (v := nI 1) hx hb d_MD_counter_123 (by decide +kernel) ?_
            refine lv_iload hx hb d_MD_counter_124 (lv_at hl 1 rfl) ?_
            refine jn_iadd (a := 1) (b := 1) hx hb d_MD_counter_126 ?_
            refine W.eq (g2 := F0 m 127 ls (.int (nI 2) :: [.int (nI 3), .int (nI 2), .ref w0])) (by rfl) ?_
            refine lv_iconst (v := nI 3) hx hb d_MD_counter_127 (by decide +kernel) ?_
            refine lv_iload hx hb d_MD_counter_128 (lv_at hl 1 rfl) ?_
            refine lv_iload hx hb d_MD_counter_130 (lv_at hl 0 rfl) ?_
            refine jn_imul (a := 1) (b := 0) hx hb d_MD_counter_132 ?_
            refine W.eq (g2 := F0 m 133 ls (.int (nI 0) :: [.int (nI 3), .int (nI 2), .int (nI 3), .int (nI 2), .ref w0])) (by rfl) ?_
            refine jn_iadd (a := 3) (b := 0) hx hb d_MD_counter_133 ?_
            refine W.eq (g2 := F0 m 134 ls (.int (nI 3) :: [.int (nI 2), .int (nI 3), .int (nI 2), .ref w0])) (by rfl) ?_
            refine cl_i (wr := [(w3, .inl (cI, 1600, .inl fi)), (w4, .inl (cI, 1600, .inl ip)), (w5, .inl (cI, 1600, .inl se)), (w1, .inl (cI, 100, .inl (bmL sg 100)))]) (va_runV (As := [.int (nI 2), .int (nI 3), .int (nI 2), .int (nI 3)]) (rest := []) ⟨hx, hb, hml, hown, hw⟩ (k_MD_add l D cI cJ w0 w1 w2 w3 w4 w5 w6 w7 w8 w9 w10 w11 w12 w13 w14 (((2 + 1) + 1) + 1) (nI 2) nt wb rc fp ft (nI (flN 0 2)) (agS (agS (agS (bgG gl) (2 + 1) (nI 0) (nI 0) (nI 0) (nI 4)) ((2 + 1) + 1) (nI 1) (nI 3) (nI 1) (nI 3)) (((2 + 1) + 1) + 1) (nI 2) (nI 4) (nI 1) (nI 3)) (nI 2) (nI 3) (nI 2) (nI 3) _ (by omega)) (cwV 4 hw (gV kw_847 kw_849 kw_21 kw_45 kw_850) rfl rfl rfl (by decide +kernel) ⟨Nat.le_of_ble_eq_true rfl, Nat.le_of_ble_eq_true rfl⟩) (pre_Vw (wc := [(w0, .inr (5, [.ref w1, .ref w2, .int (nI (((2 + 1) + 1) + 1)), .int (nI 2), .ref w3, .ref w4, .ref w5, .int nt, .int wb, .ref w6, .ref w7, .ref w8, .int rc, .ref w9, .ref w10, .ref w11, .ref w12, .ref w13, .ref w14, .int fp, .int ft, .int (nI (flN 0 2))])), (w2, .inl (cI, 244, .inl (agS (agS (agS (bgG gl) (2 + 1) (nI 0) (nI 0) (nI 0) (nI 4)) ((2 + 1) + 1) (nI 1) (nI 3) (nI 1) (nI 3)) (((2 + 1) + 1) + 1) (nI 2) (nI 4) (nI 1) (nI 3))))]) (q0 := 0) hE hX hA hP hD hS [4, 5] (by decide) rfl rfl rfl rfl) rfl rfl hl.1 rfl (lv_room (Nat.le_of_ble_eq_true rfl)) d_MD_counter_134 ⟨Nat.le_of_ble_eq_true rfl, Nat.le_of_ble_eq_true rfl⟩) hP hD hS hA [4, 5] [0, 1, 2, 3] rfl rfl (by decide) (by decide) (fun r_21 u_r_21 H locs hr_21 hP hD hS => ?_)
            obtain rfl : nI ((((2 + 1) + 1) + 1) + 1) = r_21 := hr_21.symm
            have hP : va_P D vwCl [(w3, .inl (cI, 1600, .inl fi)), (w4, .inl (cI, 1600, .inl ip)), (w5, .inl (cI, 1600, .inl se)), (w1, .inl (cI, 100, .inl (bmL sg 100))), (w0, .inr (5, [.ref w1, .ref w2, .int (nI ((((2 + 1) + 1) + 1) + 1)), .int (nI 2), .ref w3, .ref w4, .ref w5, .int nt, .int wb, .ref w6, .ref w7, .ref w8, .int rc, .ref w9, .ref w10, .ref w11, .ref w12, .ref w13, .ref w14, .int fp, .int ft, .int (nI (flN 0 2))])), (w2, .inl (cI, 244, .inl (agS (agS (agS (agS (bgG gl) (2 + 1) (nI 0) (nI 0) (nI 0) (nI 4)) ((2 + 1) + 1) (nI 1) (nI 3) (nI 1) (nI 3)) (((2 + 1) + 1) + 1) (nI 2) (nI 4) (nI 1) (nI 3)) ((((2 + 1) + 1) + 1) + 1) (nI 2) (nI 3) (nI 2) (nI 3))))] H := hP
            have hD : va_D A [(w3, .inl (cI, 1600, .inl fi)), (w4, .inl (cI, 1600, .inl ip)), (w5, .inl (cI, 1600, .inl se)), (w1, .inl (cI, 100, .inl (bmL sg 100))), (w0, .inr (5, [.ref w1, .ref w2, .int (nI ((((2 + 1) + 1) + 1) + 1)), .int (nI 2), .ref w3, .ref w4, .ref w5, .int nt, .int wb, .ref w6, .ref w7, .ref w8, .int rc, .ref w9, .ref w10, .ref w11, .ref w12, .ref w13, .ref w14, .int fp, .int ft, .int (nI (flN 0 2))])), (w2, .inl (cI, 244, .inl (agS (agS (agS (agS (bgG gl) (2 + 1) (nI 0) (nI 0) (nI 0) (nI 4)) ((2 + 1) + 1) (nI 1) (nI 3) (nI 1) (nI 3)) (((2 + 1) + 1) + 1) (nI 2) (nI 4) (nI 1) (nI 3)) ((((2 + 1) + 1) + 1) + 1) (nI 2) (nI 3) (nI 2) (nI 3))))] := hD
            refine lv_pop hx hb d_MD_counter_137 rfl ?_
            refine lv_iinc (v := nI 1) (lv' := [(6, .int (nI 1)), (5, .int (nI 1)), (4, .int (nI 1)), (0, .ref w0), (1, .int (nI a9)), (2, .int v), (3, .int (nI b9))]) hx hb d_MD_counter_138 hl (k := 0) rfl (by decide +kernel) (by decide) rfl (fun ls hl => ?_)
            refine lv_goto (tgt := 103) hx hb d_MD_counter_141 (by decide) ?_
            refine lv_iload hx hb d_MD_counter_103 (lv_at hl 0 rfl) ?_
            refine lv_iconst (v := nI 2) hx hb d_MD_counter_105 (by decide +kernel) ?_
            refine jn_icmp_ge (tgt := 144) (a := 1) (b := 2) hx hb d_MD_counter_106 (by decide) (by decide) (by decide) (fun c9 => absurd c9 (by decide)) (fun _ => ?_)
            refine lv_aload_n hx hb d_MD_counter_109 rfl (lv_at hl 3 rfl) ?_
            refine lv_iconst (v := nI 1) hx hb d_MD_counter_110 (by decide +kernel) ?_
            refine lv_iload hx hb d_MD_counter_111 (lv_at hl 1 rfl) ?_
            refine lv_iload hx hb d_MD_counter_113 (lv_at hl 0 rfl) ?_
            refine jn_iadd (a := 1) (b := 1) hx hb d_MD_counter_115 ?_
            refine W.eq (g2 := F0 m 116 ls (.int (nI 2) :: [.int (nI 1), .ref w0])) (by rfl) ?_
            refine lv_iconst (v := nI 2) hx hb d_MD_counter_116 (by decide +kernel) ?_
            refine jn_irem (a := 2) (b := 2) hx hb d_MD_counter_117 (by omega) (by omega) (by omega) ?_
            refine W.eq (g2 := F0 m 118 ls (.int (nI 0) :: [.int (nI 1), .ref w0])) (by rfl) ?_
            refine jn_iadd (a := 1) (b := 0) hx hb d_MD_counter_118 ?_
            refine W.eq (g2 := F0 m 119 ls (.int (nI 1) :: [.ref w0])) (by rfl) ?_
            refine lv_iconst (v := nI 3) hx hb d_MD_counter_119 (by decide +kernel) ?_
            refine lv_iload hx hb d_MD_counter_120 (lv_at hl 0 rfl) ?_
            refine jn_iadd (a := 3) (b := 1) hx hb d_MD_counter_122 ?_
            refine W.eq (g2 := F0 m 123 ls (.int (nI 4) :: [.int (nI 1), .ref w0])) (by rfl) ?_
            refine lv_iconst (v := nI 1) hx hb d_MD_counter_123 (by decide +kernel) ?_
            refine lv_iload hx hb d_MD_counter_124 (lv_at hl 1 rfl) ?_
            refine jn_iadd (a := 1) (b := 1) hx hb d_MD_counter_126 ?_
            refine W.eq (g2 := F0 m 127 ls (.int (nI 2) :: [.int (nI 4), .int (nI 1), .ref w0])) (by rfl) ?_
            refine lv_iconst (v := nI 3) hx hb d_MD_counter_127 (by decide +kernel) ?_
            refine lv_iload hx hb d_MD_counter_128 (lv_at hl 1 rfl) ?_
            refine lv_iload hx hb d_MD_counter_130 (lv_at hl 0 rfl) ?_
            refine jn_imul (a := 1) (b := 1) hx hb d_MD_counter_132 ?_
            refine W.eq (g2 := F0 m 133 ls (.int (nI 1) :: [.int (nI 3), .int (nI 2), .int (nI 4), .int (nI 1), .ref w0])) (by rfl) ?_
            refine jn_iadd (a := 3) (b := 1) hx hb d_MD_counter_133 ?_
            refine W.eq (g2 := F0 m 134 ls (.int (nI 4) :: [.int (nI 2), .int (nI 4), .int (nI 1), .ref w0])) (by rfl) ?_
            refine cl_i (wr := [(w3, .inl (cI, 1600, .inl fi)), (w4, .inl (cI, 1600, .inl ip)), (w5, .inl (cI, 1600, .inl se)), (w1, .inl (cI, 100, .inl (bmL sg 100)))]) (va_runV (As := [.int (nI 1), .int (nI 4), .int (nI 2), .int (nI 4)]) (rest := []) ⟨hx, hb, hml, hown, hw⟩ (k_MD_add l D cI cJ w0 w1 w2 w3 w4 w5 w6 w7 w8 w9 w10 w11 w12 w13 w14 ((((2 + 1) + 1) + 1) + 1) (nI 2) nt wb rc fp ft (nI (flN 0 2)) (agS (agS (agS (agS (bgG gl) (2 + 1) (nI 0) (nI 0) (nI 0) (nI 4)) ((2 + 1) + 1) (nI 1) (nI 3) (nI 1) (nI 3)) (((2 + 1) + 1) + 1) (nI 2) (nI 4) (nI 1) (nI 3)) ((((2 + 1) + 1) + 1) + 1) (nI 2) (nI 3) (nI 2) (nI 3)) (nI 1) (nI 4) (nI 2) (nI 4) _ (by omega)) (cwV 4 hw (gV kw_847 kw_849 kw_21 kw_45 kw_850) rfl rfl rfl (by decide +kernel) ⟨Nat.le_of_ble_eq_true rfl, Nat.le_of_ble_eq_true rfl⟩) (pre_Vw (wc := [(w0, .inr (5, [.ref w1, .ref w2, .int (nI ((((2 + 1) + 1) + 1) + 1)), .int (nI 2), .ref w3, .ref w4, .ref w5, .int nt, .int wb, .ref w6, .ref w7, .ref w8, .int rc, .ref w9, .ref w10, .ref w11, .ref w12, .ref w13, .ref w14, .int fp, .int ft, .int (nI (flN 0 2))])), (w2, .inl (cI, 244, .inl (agS (agS (agS (agS (bgG gl) (2 + 1) (nI 0) (nI 0) (nI 0) (nI 4)) ((2 + 1) + 1) (nI 1) (nI 3) (nI 1) (nI 3)) (((2 + 1) + 1) + 1) (nI 2) (nI 4) (nI 1) (nI 3)) ((((2 + 1) + 1) + 1) + 1) (nI 2) (nI 3) (nI 2) (nI 3))))]) (q0 := 0) hE hX hA hP hD hS [4, 5] (by decide) rfl rfl rfl rfl) rfl rfl hl.1 rfl (lv_room (Nat.le_of_ble_eq_true rfl)) d_MD_counter_134 ⟨Nat.le_of_ble_eq_true rfl, Nat.le_of_ble_eq_true rfl⟩) hP hD hS hA [4, 5] [0, 1, 2, 3] rfl rfl (by decide) (by decide) (fun r_22 u_r_22 H locs hr_22 hP hD hS => ?_)
            obtain rfl : nI (((((2 + 1) + 1) + 1) + 1) + 1) = r_22 := hr_22.symm
            have hP : va_P D vwCl [(w3, .inl (cI, 1600, .inl fi)), (w4, .inl (cI, 1600, .inl ip)), (w5, .inl (cI, 1600, .inl se)), (w1, .inl (cI, 100, .inl (bmL sg 100))), (w0, .inr (5, [.ref w1, .ref w2, .int (nI (((((2 + 1) + 1) + 1) + 1) + 1)), .int (nI 2), .ref w3, .ref w4, .ref w5, .int nt, .int wb, .ref w6, .ref w7, .ref w8, .int rc, .ref w9, .ref w10, .ref w11, .ref w12, .ref w13, .ref w14, .int fp, .int ft, .int (nI (flN 0 2))])), (w2, .inl (cI, 244, .inl (agS (agS (agS (agS (agS (bgG gl) (2 + 1) (nI 0) (nI 0) (nI 0) (nI 4)) ((2 + 1) + 1) (nI 1) (nI 3) (nI 1) (nI 3)) (((2 + 1) + 1) + 1) (nI 2) (nI 4) (nI 1) (nI 3)) ((((2 + 1) + 1) + 1) + 1) (nI 2) (nI 3) (nI 2) (nI 3)) (((((2 + 1) + 1) + 1) + 1) + 1) (nI 1) (nI 4) (nI 2) (nI 4))))] H := hP
            have hD : va_D A [(w3, .inl (cI, 1600, .inl fi)), (w4, .inl (cI, 1600, .inl ip)), (w5, .inl (cI, 1600, .inl se)), (w1, .inl (cI, 100, .inl (bmL sg 100))), (w0, .inr (5, [.ref w1, .ref w2, .int (nI (((((2 + 1) + 1) + 1) + 1) + 1)), .int (nI 2), .ref w3, .ref w4, .ref w5, .int nt, .int wb, .ref w6, .ref w7, .ref w8, .int rc, .ref w9, .ref w10, .ref w11, .ref w12, .ref w13, .ref w14, .int fp, .int ft, .int (nI (flN 0 2))])), (w2, .inl (cI, 244, .inl (agS (agS (agS (agS (agS (bgG gl) (2 + 1) (nI 0) (nI 0) (nI 0) (nI 4)) ((2 + 1) + 1) (nI 1) (nI 3) (nI 1) (nI 3)) (((2 + 1) + 1) + 1) (nI 2) (nI 4) (nI 1) (nI 3)) ((((2 + 1) + 1) + 1) + 1) (nI 2) (nI 3) (nI 2) (nI 3)) (((((2 + 1) + 1) + 1) + 1) + 1) (nI 1) (nI 4) (nI 2) (nI 4))))] := hD
            refine lv_pop hx hb d_MD_counter_137 rfl ?_
            refine lv_iinc (v := nI 2) (lv' := [(6, .int (nI 2)), (5, .int (nI 1)), (4, .int (nI 1)), (0, .ref w0), (1, .int (nI a9)), (2, .int v), (3, .int (nI b9))]) hx hb d_MD_counter_138 hl (k := 0) rfl (by decide +kernel) (by decide) rfl (fun ls hl => ?_)
            refine lv_goto (tgt := 103) hx hb d_MD_counter_141 (by decide) ?_
            refine lv_iload hx hb d_MD_counter_103 (lv_at hl 0 rfl) ?_
            refine lv_iconst (v := nI 2) hx hb d_MD_counter_105 (by decide +kernel) ?_
            refine jn_icmp_ge (tgt := 144) (a := 2) (b := 2) hx hb d_MD_counter_106 (by decide) (by decide) (by decide) (fun _ => ?_) (fun c9 => absurd c9 (by decide))
            refine lv_iinc (v := nI 2) (lv' := [(5, .int (nI 2)), (6, .int (nI 2)), (4, .int (nI 1)), (0, .ref w0), (1, .int (nI a9)), (2, .int v), (3, .int (nI b9))]) hx hb d_MD_counter_144 hl (k := 1) rfl (by decide +kernel) (by decide) rfl (fun ls hl => ?_)
            refine lv_goto (tgt := 94) hx hb d_MD_counter_147 (by decide) ?_
            refine lv_iload hx hb d_MD_counter_94 (lv_at hl 0 rfl) ?_
            refine lv_iconst (v := nI 2) hx hb d_MD_counter_96 (by decide +kernel) ?_
            refine jn_icmp_ge (tgt := 150) (a := 2) (b := 2) hx hb d_MD_counter_97 (by decide) (by decide) (by decide) (fun _ => ?_) (fun c9 => absurd c9 (by decide))
            have hP : va_P D vwCl [(w3, .inl (cI, 1600, .inl fi)), (w4, .inl (cI, 1600, .inl ip)), (w5, .inl (cI, 1600, .inl se)), (w1, .inl (cI, 100, .inl (bmL sg 100))), (w0, .inr (5, [.ref w1, .ref w2, .int (nI 7), .int (nI 2), .ref w3, .ref w4, .ref w5, .int nt, .int wb, .ref w6, .ref w7, .ref w8, .int rc, .ref w9, .ref w10, .ref w11, .ref w12, .ref w13, .ref w14, .int fp, .int ft, .int (nI (flN 0 2))])), (w2, .inl (cI, 244, .inl (ctG gl)))] H := hP
            have hD : va_D A [(w3, .inl (cI, 1600, .inl fi)), (w4, .inl (cI, 1600, .inl ip)), (w5, .inl (cI, 1600, .inl se)), (w1, .inl (cI, 100, .inl (bmL sg 100))), (w0, .inr (5, [.ref w1, .ref w2, .int (nI 7), .int (nI 2), .ref w3, .ref w4, .ref w5, .int nt, .int wb, .ref w6, .ref w7, .ref w8, .int rc, .ref w9, .ref w10, .ref w11, .ref w12, .ref w13, .ref w14, .int fp, .int ft, .int (nI (flN 0 2))])), (w2, .inl (cI, 244, .inl (ctG gl)))] := hD
            refine lv_iconst (v := nI 0) hx hb d_MD_counter_150 (by decide +kernel) ?_
            refine lv_istore (lv' := [(5, .int (nI 0)), (6, .int (nI 2)), (4, .int (nI 1)), (0, .ref w0), (1, .int (nI a9)), (2, .int v), (3, .int (nI b9))]) hx hb d_MD_counter_151 hl (by decide) rfl (fun ls hl => ?_)
            refine lp_k_MD_counter_153 w0 w1 w2 w3 w4 w5 w6 w7 w8 w9 w10 w11 w12 w13 w14 y te nt wb rc fp ft th sg gl fi ip se (nI a9) v (nI b9) a9 hk1 (by omega) b9 hx hb hml hown hw hE hX hA (fun z9 hz H locs ls hP hD hS hl => ?_) ((a9 - 0) + 1) 0 (fi, ip, se, nt) (Nat.lt_succ_self _) (Nat.zero_le _) rfl _ _ _ (hP.sub [4, 3, 5, 0, 1, 2] rfl) (hD.sub [4, 3, 5, 0, 1, 2] (by decide) rfl) hS (lv_sub hl [3, 4, 5, 6, 0] rfl)
            refine lv_iconst (v := nI 1) hx hb d_MD_counter_184 (by decide +kernel) ?_
            refine lv_istore (lv' := [(5, .int (nI 1)), (0, .ref w0), (1, .int (nI a9)), (3, .int (nI b9))]) hx hb d_MD_counter_185 hl (by decide) rfl (fun ls hl => ?_)
            refine lp_k_MD_counter_187 w0 w1 w2 w3 w4 w5 w6 w7 w8 w9 w10 w11 w12 w13 w14 y te nt wb rc fp ft th sg gl fi ip se (nI a9) v (nI b9) a9 (by omega) b9 hj1 hj2 z9 hx hb hml hown hw hE hX hA (fun z8 hz8 H locs ls hP hD hS hl => ?_) ((b9 - 1) + 1) 1 z9 (Nat.lt_succ_self _) (Nat.le_refl _) hj1 rfl _ _ _ (hP.sub [0, 1, 2, 3, 4, 5] rfl) (hD.sub [0, 1, 2, 3, 4, 5] (by decide) rfl) hS (lv_sub hl [1, 2, 3, 0] rfl)
            refine lv_aload_n hx hb d_MD_counter_207 rfl (lv_at hl 0 rfl) ?_
            refine va_get (D := D) (ci := 5) (v := .int (nI 7)) (C := R_MD) (T := T_MD) (N := 22) hx hb hw in_MD hown hE.1 hP 0 rfl rfl 2 (by decide) (hw _ kw_763) (fun _ h9 => h9) rfl d_MD_counter_208 ?_
            have hP9 := hP.sub (ws' := [(w0, .inr (5, [.ref w1, .ref w2, .int (nI 7), .int (nI 2), .ref w3, .ref w4, .ref w5, .int z8.2.2.2, .int wb, .ref w6, .ref w7, .ref w8, .int rc, .ref w9, .ref w10, .ref w11, .ref w12, .ref w13, .ref w14, .int fp, .int ft, .int (nI (flN 0 2))])), (w1, .inl (cI, 100, .inl (bmL sg 100))), (w2, .inl (cI, 244, .inl (ctG gl))), (w3, .inl (cI, 1600, .inl z8.1)), (w4, .inl (cI, 1600, .inl z8.2.1)), (w5, .inl (cI, 1600, .inl z8.2.2.1))]) [0, 1, 2, 3, 4, 5] rfl
            have hD9 := hD.sub (ws' := [(w0, .inr (5, [.ref w1, .ref w2, .int (nI 7), .int (nI 2), .ref w3, .ref w4, .ref w5, .int z8.2.2.2, .int wb, .ref w6, .ref w7, .ref w8, .int rc, .ref w9, .ref w10, .ref w11, .ref w12, .ref w13, .ref w14, .int fp, .int ft, .int (nI (flN 0 2))])), (w1, .inl (cI, 100, .inl (bmL sg 100))), (w2, .inl (cI, 244, .inl (ctG gl))), (w3, .inl (cI, 1600, .inl z8.1)), (w4, .inl (cI, 1600, .inl z8.2.1)), (w5, .inl (cI, 1600, .inl z8.2.2.1))]) [0, 1, 2, 3, 4, 5] (by decide) rfl
            exact W.iret (v := nI 7) hx hb hr (fun t9 ht hW => ⟨⟨_, (bmL sg 100, ctG gl, 7, nI 2, z8, nI 0), rfl, (by unfold mcoV; dsimp only; rw [if_pos c_43, if_neg (show ¬ crN (nI a9) v (nI b9) = 0 from by unfold crN; rw [if_neg c_7, if_neg c_17, if_neg c_21, if_neg c_28]; decide), nn_nI (show a9 < 2 ^ 31 by omega), nn_nI (show b9 < 2 ^ 31 by omega), ← hz, ← hz8]; try rfl), ⟨by rw [ht]; exact hP9, hD9⟩⟩, hS.F ht⟩) hS.2.2 d_MD_counter_211
          · skip
            refine lv_iconst (v := nI 1) hx hb d_MD_counter_46 (by decide +kernel) ?_
            refine lv_goto (tgt := 51) hx hb d_MD_counter_47 (by decide) ?_
            refine lv_iconst (v := nI 1) hx hb d_MD_counter_51 (by decide +kernel) ?_
            refine cl_i (wr := [(w1, .inl (cI, 100, .inl sg)), (w2, .inl (cI, 244, .inl gl)), (w3, .inl (cI, 1600, .inl fi)), (w4, .inl (cI, 1600, .inl ip)), (w5, .inl (cI, 1600, .inl se))]) (va_runV (As := [.int (nI 1), .int (nI 1)]) (rest := []) ⟨hx, hb, hml, hown, hw⟩ (k_MD_fails l D cI cJ w0 w1 w2 w3 w4 w5 w6 w7 w8 w9 w10 w11 w12 w13 w14 (nI y) te nt wb rc fp ft th 1 1 _ (by omega)) (cwV 2 hw (gV kw_836 kw_838 kw_20 kw_45 kw_839) rfl rfl rfl (by decide +kernel) ⟨Nat.le_of_ble_eq_true rfl, Nat.le_of_ble_eq_true rfl⟩) (pre_Vw (wc := [(w0, .inr (5, [.ref w1, .ref w2, .int (nI y), .int te, .ref w3, .ref w4, .ref w5, .int nt, .int wb, .ref w6, .ref w7, .ref w8, .int rc, .ref w9, .ref w10, .ref w11, .ref w12, .ref w13, .ref w14, .int fp, .int ft, .int th]))]) (q0 := 0) hE hX hA hP hD hS [0] (by decide) rfl rfl rfl rfl) rfl rfl hl.1 rfl (lv_room (Nat.le_of_ble_eq_true rfl)) d_MD_counter_52 ⟨Nat.le_of_ble_eq_true rfl, Nat.le_of_ble_eq_true rfl⟩) hP hD hS hA [0] [1, 2, 3, 4, 5] rfl rfl (by decide) (by decide) (fun r_23 u_r_23 H locs hr_23 hP hD hS => ?_)
            obtain rfl : nI 1 = r_23 := hr_23.symm
            have hP : va_P D vwCl [(w1, .inl (cI, 100, .inl sg)), (w2, .inl (cI, 244, .inl gl)), (w3, .inl (cI, 1600, .inl fi)), (w4, .inl (cI, 1600, .inl ip)), (w5, .inl (cI, 1600, .inl se)), (w0, .inr (5, [.ref w1, .ref w2, .int (nI y), .int te, .ref w3, .ref w4, .ref w5, .int nt, .int wb, .ref w6, .ref w7, .ref w8, .int rc, .ref w9, .ref w10, .ref w11, .ref w12, .ref w13, .ref w14, .int fp, .int ft, .int (nI (flN 1 1))]))] H := hP
            have hD : va_D A [(w1, .inl (cI, 100, .inl sg)), (w2, .inl (cI, 244, .inl gl)), (w3, .inl (cI, 1600, .inl fi)), (w4, .inl (cI, 1600, .inl ip)), (w5, .inl (cI, 1600, .inl se)), (w0, .inr (5, [.ref w1, .ref w2, .int (nI y), .int te, .ref w3, .ref w4, .ref w5, .int nt, .int wb, .ref w6, .ref w7, .ref w8, .int rc, .ref w9, .ref w10, .ref w11, .ref w12, .ref w13, .ref w14, .int fp, .int ft, .int (nI (flN 1 1))]))] := hD
            refine jn_if_ne (tgt := 76) (a := 1) hx hb d_MD_counter_55 (by decide) (by decide) (fun _ => ?_) (fun c9 => absurd c9 (by decide))
            refine lv_iconst (v := nI 0) hx hb d_MD_counter_76 (by decide +kernel) ?_
            have hP9 := hP.sub (ws' := [(w0, .inr (5, [.ref w1, .ref w2, .int (nI y), .int te, .ref w3, .ref w4, .ref w5, .int nt, .int wb, .ref w6, .ref w7, .ref w8, .int rc, .ref w9, .ref w10, .ref w11, .ref w12, .ref w13, .ref w14, .int fp, .int ft, .int (nI (flN 1 1))])), (w1, .inl (cI, 100, .inl sg)), (w2, .inl (cI, 244, .inl gl)), (w3, .inl (cI, 1600, .inl fi)), (w4, .inl (cI, 1600, .inl ip)), (w5, .inl (cI, 1600, .inl se))]) [5, 0, 1, 2, 3, 4] rfl
            have hD9 := hD.sub (ws' := [(w0, .inr (5, [.ref w1, .ref w2, .int (nI y), .int te, .ref w3, .ref w4, .ref w5, .int nt, .int wb, .ref w6, .ref w7, .ref w8, .int rc, .ref w9, .ref w10, .ref w11, .ref w12, .ref w13, .ref w14, .int fp, .int ft, .int (nI (flN 1 1))])), (w1, .inl (cI, 100, .inl sg)), (w2, .inl (cI, 244, .inl gl)), (w3, .inl (cI, 1600, .inl fi)), (w4, .inl (cI, 1600, .inl ip)), (w5, .inl (cI, 1600, .inl se))]) [5, 0, 1, 2, 3, 4] (by decide) rfl
            exact W.iret (v := nI 0) hx hb hr (fun t9 ht hW => ⟨⟨_, (sg, gl, y, te, (fi, ip, se, nt), nI 1), rfl, (by unfold mcoV; dsimp only; rw [if_neg c_43]), ⟨by rw [ht]; exact hP9, hD9⟩⟩, hS.F ht⟩) hS.2.2 d_MD_counter_77
set_option maxHeartbeats 4000000 in
set_option maxRecDepth 100000 in
theorem lp_k_MD_rule_166 {p : Program} {l : Launch} {e : Env} {s : State} {m : MethodId} {args : Array Value} {below : List Frame} {meth : Method} {c : Code} {D : va_G} {cI cJ : ClassId} {Q : State → Prop} {A : Nat → Prop} (w0 : Nat) (w1 : Nat) (w2 : Nat) (w3 : Nat) (w4 : Nat) (w5 : Nat) (w6 : Nat) (w7 : Nat) (w8 : Nat) (w9 : Nat) (w10 : Nat) (w11 : Nat) (w12 : Nat) (w13 : Nat) (w14 : Nat) (y : Nat) (te : Int32) (nt : Int32) (wb : Int32) (rc : Int32) (fp : Int32) (ft : Int32) (th : Int32) (sg : Nat → Int32) (gl : Nat → Int32) (fi : Nat → Int32) (ip : Nat → Int32) (se : Nat → Int32) (x : Int32) (v : Int32) (z : Int32) (w : Int32)  (a9 : Nat) (h1a : 1 ≤ a9) (h2a : a9 ≤ 30) (b9 : Nat) (hx : p.tables.exec = Jvm.exec) (hb : c.code = c_MD_rule) (hml : c.maxLocals = 8) (hown : s.vm.findClass R_MD = some m.cls) (hw : ∀ w ∈ gw, w.before args s = true) (hE : En D cI cJ s) (hX : Sx A s s.heap) (hA : ∀ q : Nat, s.heap.size ≤ q → A q)
    (kx0 : ∀ (z9 : PS), (z9 = mrL (fun i => i + 1) w (fi, ip, se, nt) a9) → ∀ (H : Heap) (locs : List Loc) (ls : Array Slot), va_P D vwCl [(w0, .inr (5, [.ref w1, .ref w2, .int (nI 7), .int (nI 2), .ref w3, .ref w4, .ref w5, .int z9.2.2.2, .int wb, .ref w6, .ref w7, .ref w8, .int rc, .ref w9, .ref w10, .ref w11, .ref w12, .ref w13, .ref w14, .int fp, .int ft, .int (nI (flN 0 2))])), (w1, .inl (cI, 100, .inl (bmL sg 100))), (w2, .inl (cI, 244, .inl (ruG gl v))), (w3, .inl (cI, 1600, .inl z9.1)), (w4, .inl (cI, 1600, .inl z9.2.1)), (w5, .inl (cI, 1600, .inl z9.2.2.1))] H → va_D A [(w0, .inr (5, [.ref w1, .ref w2, .int (nI 7), .int (nI 2), .ref w3, .ref w4, .ref w5, .int z9.2.2.2, .int wb, .ref w6, .ref w7, .ref w8, .int rc, .ref w9, .ref w10, .ref w11, .ref w12, .ref w13, .ref w14, .int fp, .int ft, .int (nI (flN 0 2))])), (w1, .inl (cI, 100, .inl (bmL sg 100))), (w2, .inl (cI, 244, .inl (ruG gl v))), (w3, .inl (cI, 1600, .inl z9.1)), (w4, .inl (cI, 1600, .inl z9.2.1)), (w5, .inl (cI, 1600, .inl z9.2.2.1))] → va_S A s.heap H locs → lv_has ls 8 [(0, .ref w0), (3, .int (nI b9))] → W p l e ({ frames := 2, cells := 0, slots := 0, locals := 45 } : Room) s m args below meth c H locs 0 0 Q (F0 m 196 ls [])) :
    ∀ (fu : Nat) (i : Nat) (z9 : PS), a9 - i < fu → (i ≤ a9) → (z9 = mrL (fun i => i + 1) w (fi, ip, se, nt) i) → ∀ (H : Heap) (locs : List Loc) (ls : Array Slot), va_P D vwCl [(w0, .inr (5, [.ref w1, .ref w2, .int (nI 7), .int (nI 2), .ref w3, .ref w4, .ref w5, .int z9.2.2.2, .int wb, .ref w6, .ref w7, .ref w8, .int rc, .ref w9, .ref w10, .ref w11, .ref w12, .ref w13, .ref w14, .int fp, .int ft, .int (nI (flN 0 2))])), (w1, .inl (cI, 100, .inl (bmL sg 100))), (w2, .inl (cI, 244, .inl (ruG gl v))), (w3, .inl (cI, 1600, .inl z9.1)), (w4, .inl (cI, 1600, .inl z9.2.1)), (w5, .inl (cI, 1600, .inl z9.2.2.1))] H → va_D A [(w0, .inr (5, [.ref w1, .ref w2, .int (nI 7), .int (nI 2), .ref w3, .ref w4, .ref w5, .int z9.2.2.2, .int wb, .ref w6, .ref w7, .ref w8, .int rc, .ref w9, .ref w10, .ref w11, .ref w12, .ref w13, .ref w14, .int fp, .int ft, .int (nI (flN 0 2))])), (w1, .inl (cI, 100, .inl (bmL sg 100))), (w2, .inl (cI, 244, .inl (ruG gl v))), (w3, .inl (cI, 1600, .inl z9.1)), (w4, .inl (cI, 1600, .inl z9.2.1)), (w5, .inl (cI, 1600, .inl z9.2.2.1))] → va_S A s.heap H locs → lv_has ls 8 [(0, .ref w0), (1, .int (nI a9)), (3, .int (nI b9)), (4, .int w), (6, .int (nI i))] → W p l e ({ frames := 2, cells := 0, slots := 0, locals := 45 } : Room) s m args below meth c H locs 0 0 Q (F0 m 166 ls []) := by
  intro fu
  induction fu with
  | zero =>
    intro i z9 h0
    exact absurd h0 (Nat.not_lt_zero _)
  | succ fu ih =>
    intro i z9 hmu hi hz H locs ls hP hD hS hl
    refine lv_iload hx hb d_MD_rule_166 (lv_at hl 4 rfl) ?_
    refine lv_iload_n hx hb d_MD_rule_168 rfl (lv_at hl 1 rfl) ?_
    refine jn_icmp_ge (tgt := 196) (a := i) (b := a9) hx hb d_MD_rule_169 (by decide) (by omega) (by omega) (fun c_169 => ?_) (fun c_169 => ?_)
    · skip
      exact kx0 z9 (by rw [hz, show i = a9 by omega]) _ _ _ (hP.sub [0, 1, 2, 3, 4, 5] rfl) (hD.sub [0, 1, 2, 3, 4, 5] (by decide) rfl) hS (lv_sub hl [0, 2] rfl)
    · skip
      refine lv_aload_n hx hb d_MD_rule_172 rfl (lv_at hl 0 rfl) ?_
      refine lv_iload hx hb d_MD_rule_173 (lv_at hl 4 rfl) ?_
      refine lv_iconst (v := nI 1) hx hb d_MD_rule_175 (by decide +kernel) ?_
      refine jn_iadd (a := i) (b := 1) hx hb d_MD_rule_176 ?_
      refine lv_iconst (v := nI 0) hx hb d_MD_rule_177 (by decide +kernel) ?_
      refine lv_iconst (v := nI 1) hx hb d_MD_rule_178 (by decide +kernel) ?_
      refine lv_iload hx hb d_MD_rule_179 (lv_at hl 3 rfl) ?_
      refine lv_iload hx hb d_MD_rule_181 (lv_at hl 4 rfl) ?_
      refine lv_ishr hx hb d_MD_rule_183 ?_
      refine lv_iconst (v := nI 1) hx hb d_MD_rule_184 (by decide +kernel) ?_
      refine lv_iand hx hb d_MD_rule_185 ?_
      refine W.eq (g2 := F0 m 186 ls [.int (nI (btN w i)), .int (nI 1), .int (nI 0), .int (nI (i + 1)), .ref w0]) (by rw [bt_and]) ?_
      refine jn_iadd (a := 1) (b := (btN w i)) hx hb d_MD_rule_186 ?_
      refine cl_v (wr := [(w1, .inl (cI, 100, .inl (bmL sg 100))), (w2, .inl (cI, 244, .inl (ruG gl v)))]) (va_runV (As := [.int (nI (i + 1)), .int (nI 0), .int (nI (1 + (btN w i)))]) (rest := []) ⟨hx, hb, hml, hown, hw⟩ (k_MD_plant l D cI cJ w0 w1 w2 w3 w4 w5 w6 w7 w8 w9 w10 w11 w12 w13 w14 (nI 7) (nI 2) z9.2.2.2 wb rc fp ft (nI (flN 0 2)) z9.1 z9.2.1 z9.2.2.1 (i + 1) 0 (nI (1 + (btN w i))) _ (by omega)) (cwV 3 hw (gV kw_866 kw_868 kw_23 kw_45 kw_869) rfl rfl rfl (by decide +kernel) ⟨Nat.le_of_ble_eq_true rfl, Nat.le_of_ble_eq_true rfl⟩) (pre_Vw (wc := [(w0, .inr (5, [.ref w1, .ref w2, .int (nI 7), .int (nI 2), .ref w3, .ref w4, .ref w5, .int z9.2.2.2, .int wb, .ref w6, .ref w7, .ref w8, .int rc, .ref w9, .ref w10, .ref w11, .ref w12, .ref w13, .ref w14, .int fp, .int ft, .int (nI (flN 0 2))])), (w3, .inl (cI, 1600, .inl z9.1)), (w4, .inl (cI, 1600, .inl z9.2.1)), (w5, .inl (cI, 1600, .inl z9.2.2.1))]) (q0 := 0) hE hX hA hP hD hS [0, 3, 4, 5] (by decide) rfl rfl rfl rfl) rfl rfl hl.1 rfl (lv_room (Nat.le_of_ble_eq_true rfl)) d_MD_rule_187 ⟨Nat.le_of_ble_eq_true rfl, Nat.le_of_ble_eq_true rfl⟩) hP hD hS hA [0, 3, 4, 5] [1, 2] rfl rfl (by decide) (by decide) (fun u_r_1 H locs hr_1 hP hD hS => ?_)
      have hP : va_P D vwCl [(w1, .inl (cI, 100, .inl (bmL sg 100))), (w2, .inl (cI, 244, .inl (ruG gl v))), (w0, .inr (5, [.ref w1, .ref w2, .int (nI 7), .int (nI 2), .ref w3, .ref w4, .ref w5, .int (z9.2.2.2 + nI 1), .int wb, .ref w6, .ref w7, .ref w8, .int rc, .ref w9, .ref w10, .ref w11, .ref w12, .ref w13, .ref w14, .int fp, .int ft, .int (nI (flN 0 2))])), (w3, .inl (cI, 1600, .inl (upd z9.1 (40 * 0 + (i + 1)) (nI (1 + (btN w i)))))), (w4, .inl (cI, 1600, .inl (upd z9.2.1 (40 * 0 + (i + 1)) (nI 0)))), (w5, .inl (cI, 1600, .inl (upd z9.2.2.1 (40 * 0 + (i + 1)) (nI 1))))] H := hP
      have hD : va_D A [(w1, .inl (cI, 100, .inl (bmL sg 100))), (w2, .inl (cI, 244, .inl (ruG gl v))), (w0, .inr (5, [.ref w1, .ref w2, .int (nI 7), .int (nI 2), .ref w3, .ref w4, .ref w5, .int (z9.2.2.2 + nI 1), .int wb, .ref w6, .ref w7, .ref w8, .int rc, .ref w9, .ref w10, .ref w11, .ref w12, .ref w13, .ref w14, .int fp, .int ft, .int (nI (flN 0 2))])), (w3, .inl (cI, 1600, .inl (upd z9.1 (40 * 0 + (i + 1)) (nI (1 + (btN w i)))))), (w4, .inl (cI, 1600, .inl (upd z9.2.1 (40 * 0 + (i + 1)) (nI 0)))), (w5, .inl (cI, 1600, .inl (upd z9.2.2.1 (40 * 0 + (i + 1)) (nI 1))))] := hD
      refine lv_iinc (v := nI (i + 1)) (lv' := [(6, .int (nI (i + 1))), (0, .ref w0), (1, .int (nI a9)), (3, .int (nI b9)), (4, .int w)]) hx hb d_MD_rule_190 hl (k := 4) rfl (jn_inc i 1) (by decide) rfl (fun ls hl => ?_)
      refine lv_goto (tgt := 166) hx hb d_MD_rule_193 (by decide) ?_
      exact ih (i + 1) (mpP (40 * 0 + (fun i => i + 1) i) (nI (1 + btN w i)) z9) (by omega) (by omega) (by rw [mrL, ← hz]) _ _ _ (hP.sub [2, 0, 1, 3, 4, 5] rfl) (hD.sub [2, 0, 1, 3, 4, 5] (by decide) rfl) hS (lv_sub hl [1, 2, 3, 4, 0] rfl)
set_option maxHeartbeats 4000000 in
set_option maxRecDepth 100000 in
theorem lp_k_MD_rule_199 {p : Program} {l : Launch} {e : Env} {s : State} {m : MethodId} {args : Array Value} {below : List Frame} {meth : Method} {c : Code} {D : va_G} {cI cJ : ClassId} {Q : State → Prop} {A : Nat → Prop} (w0 : Nat) (w1 : Nat) (w2 : Nat) (w3 : Nat) (w4 : Nat) (w5 : Nat) (w6 : Nat) (w7 : Nat) (w8 : Nat) (w9 : Nat) (w10 : Nat) (w11 : Nat) (w12 : Nat) (w13 : Nat) (w14 : Nat) (y : Nat) (te : Int32) (nt : Int32) (wb : Int32) (rc : Int32) (fp : Int32) (ft : Int32) (th : Int32) (sg : Nat → Int32) (gl : Nat → Int32) (fi : Nat → Int32) (ip : Nat → Int32) (se : Nat → Int32) (x : Int32) (v : Int32) (z : Int32) (w : Int32)  (a9 : Nat) (h2a : a9 ≤ 30) (b9 : Nat) (h1b : 1 ≤ b9) (h2b : b9 ≤ 40) (z9 : PS) (hx : p.tables.exec = Jvm.exec) (hb : c.code = c_MD_rule) (hml : c.maxLocals = 8) (hown : s.vm.findClass R_MD = some m.cls) (hw : ∀ w ∈ gw, w.before args s = true) (hE : En D cI cJ s) (hX : Sx A s s.heap) (hA : ∀ q : Nat, s.heap.size ≤ q → A q)
    (kx0 : ∀ (z8 : PS), (z8 = mkL 0 z9 (b9 - 1)) → ∀ (H : Heap) (locs : List Loc) (ls : Array Slot), va_P D vwCl [(w0, .inr (5, [.ref w1, .ref w2, .int (nI 7), .int (nI 2), .ref w3, .ref w4, .ref w5, .int z8.2.2.2, .int wb, .ref w6, .ref w7, .ref w8, .int rc, .ref w9, .ref w10, .ref w11, .ref w12, .ref w13, .ref w14, .int fp, .int ft, .int (nI (flN 0 2))])), (w1, .inl (cI, 100, .inl (bmL sg 100))), (w2, .inl (cI, 244, .inl (ruG gl v))), (w3, .inl (cI, 1600, .inl z8.1)), (w4, .inl (cI, 1600, .inl z8.2.1)), (w5, .inl (cI, 1600, .inl z8.2.2.1))] H → va_D A [(w0, .inr (5, [.ref w1, .ref w2, .int (nI 7), .int (nI 2), .ref w3, .ref w4, .ref w5, .int z8.2.2.2, .int wb, .ref w6, .ref w7, .ref w8, .int rc, .ref w9, .ref w10, .ref w11, .ref w12, .ref w13, .ref w14, .int fp, .int ft, .int (nI (flN 0 2))])), (w1, .inl (cI, 100, .inl (bmL sg 100))), (w2, .inl (cI, 244, .inl (ruG gl v))), (w3, .inl (cI, 1600, .inl z8.1)), (w4, .inl (cI, 1600, .inl z8.2.1)), (w5, .inl (cI, 1600, .inl z8.2.2.1))] → va_S A s.heap H locs → lv_has ls 8 [(0, .ref w0)] → W p l e ({ frames := 2, cells := 0, slots := 0, locals := 45 } : Room) s m args below meth c H locs 0 0 Q (F0 m 219 ls [])) :
    ∀ (fu : Nat) (y9 : Nat) (z8 : PS), b9 - y9 < fu → (1 ≤ y9) → (y9 ≤ b9) → (z8 = mkL 0 z9 (y9 - 1)) → ∀ (H : Heap) (locs : List Loc) (ls : Array Slot), va_P D vwCl [(w0, .inr (5, [.ref w1, .ref w2, .int (nI 7), .int (nI 2), .ref w3, .ref w4, .ref w5, .int z8.2.2.2, .int wb, .ref w6, .ref w7, .ref w8, .int rc, .ref w9, .ref w10, .ref w11, .ref w12, .ref w13, .ref w14, .int fp, .int ft, .int (nI (flN 0 2))])), (w1, .inl (cI, 100, .inl (bmL sg 100))), (w2, .inl (cI, 244, .inl (ruG gl v))), (w3, .inl (cI, 1600, .inl z8.1)), (w4, .inl (cI, 1600, .inl z8.2.1)), (w5, .inl (cI, 1600, .inl z8.2.2.1))] H → va_D A [(w0, .inr (5, [.ref w1, .ref w2, .int (nI 7), .int (nI 2), .ref w3, .ref w4, .ref w5, .int z8.2.2.2, .int wb, .ref w6, .ref w7, .ref w8, .int rc, .ref w9, .ref w10, .ref w11, .ref w12, .ref w13, .ref w14, .int fp, .int ft, .int (nI (flN 0 2))])), (w1, .inl (cI, 100, .inl (bmL sg 100))), (w2, .inl (cI, 244, .inl (ruG gl v))), (w3, .inl (cI, 1600, .inl z8.1)), (w4, .inl (cI, 1600, .inl z8.2.1)), (w5, .inl (cI, 1600, .inl z8.2.2.1))] → va_S A s.heap H locs → lv_has ls 8 [(0, .ref w0), (3, .int (nI b9)), (6, .int (nI y9))] → W p l e ({ frames := 2, cells := 0, slots := 0, locals := 45 } : Room) s m args below meth c H locs 0 0 Q (F0 m 199 ls []) := by
  intro fu
  induction fu with
  | zero =>
    intro y9 z8 h0
    exact absurd h0 (Nat.not_lt_zero _)
  | succ fu ih =>
    intro y9 z8 hmu hy1 hy2 hz8 H locs ls hP hD hS hl
    refine lv_iload hx hb d_MD_rule_199 (lv_at hl 2 rfl) ?_
    refine lv_iload_n hx hb d_MD_rule_201 rfl (lv_at hl 1 rfl) ?_
    refine jn_icmp_ge (tgt := 219) (a := y9) (b := b9) hx hb d_MD_rule_202 (by decide) (by omega) (by omega) (fun c_202 => ?_) (fun c_202 => ?_)
    · skip
      exact kx0 z8 (by rw [hz8, show y9 = b9 by omega]) _ _ _ (hP.sub [0, 1, 2, 3, 4, 5] rfl) (hD.sub [0, 1, 2, 3, 4, 5] (by decide) rfl) hS (lv_sub hl [0] rfl)
    · skip
      refine lv_aload_n hx hb d_MD_rule_205 rfl (lv_at hl 0 rfl) ?_
      refine lv_iconst (v := nI 0) hx hb d_MD_rule_206 (by decide +kernel) ?_
      refine lv_iload hx hb d_MD_rule_207 (lv_at hl 2 rfl) ?_
      refine lv_iconst (v := nI 3) hx hb d_MD_rule_209 (by decide +kernel) ?_
      refine cl_v (wr := [(w1, .inl (cI, 100, .inl (bmL sg 100))), (w2, .inl (cI, 244, .inl (ruG gl v)))]) (va_runV (As := [.int (nI 0), .int (nI y9), .int (nI 3)]) (rest := []) ⟨hx, hb, hml, hown, hw⟩ (k_MD_plant l D cI cJ w0 w1 w2 w3 w4 w5 w6 w7 w8 w9 w10 w11 w12 w13 w14 (nI 7) (nI 2) z8.2.2.2 wb rc fp ft (nI (flN 0 2)) z8.1 z8.2.1 z8.2.2.1 0 y9 (nI 3) _ (by omega)) (cwV 3 hw (gV kw_866 kw_868 kw_23 kw_45 kw_869) rfl rfl rfl (by decide +kernel) ⟨Nat.le_of_ble_eq_true rfl, Nat.le_of_ble_eq_true rfl⟩) (pre_Vw (wc := [(w0, .inr (5, [.ref w1, .ref w2, .int (nI 7), .int (nI 2), .ref w3, .ref w4, .ref w5, .int z8.2.2.2, .int wb, .ref w6, .ref w7, .ref w8, .int rc, .ref w9, .ref w10, .ref w11, .ref w12, .ref w13, .ref w14, .int fp, .int ft, .int (nI (flN 0 2))])), (w3, .inl (cI, 1600, .inl z8.1)), (w4, .inl (cI, 1600, .inl z8.2.1)), (w5, .inl (cI, 1600, .inl z8.2.2.1))]) (q0 := 0) hE hX hA hP hD hS [0, 3, 4, 5] (by decide) rfl rfl rfl rfl) rfl rfl hl.1 rfl (lv_room (Nat.le_of_ble_eq_true rfl)) d_MD_rule_210 ⟨Nat.le_of_ble_eq_true rfl, Nat.le_of_ble_eq_true rfl⟩) hP hD hS hA [0, 3, 4, 5] [1, 2] rfl rfl (by decide) (by decide) (fun u_r_1 H locs hr_1 hP hD hS => ?_)
      have hP : va_P D vwCl [(w1, .inl (cI, 100, .inl (bmL sg 100))), (w2, .inl (cI, 244, .inl (ruG gl v))), (w0, .inr (5, [.ref w1, .ref w2, .int (nI 7), .int (nI 2), .ref w3, .ref w4, .ref w5, .int (z8.2.2.2 + nI 1), .int wb, .ref w6, .ref w7, .ref w8, .int rc, .ref w9, .ref w10, .ref w11, .ref w12, .ref w13, .ref w14, .int fp, .int ft, .int (nI (flN 0 2))])), (w3, .inl (cI, 1600, .inl (upd z8.1 (40 * y9 + 0) (nI 3)))), (w4, .inl (cI, 1600, .inl (upd z8.2.1 (40 * y9 + 0) (nI 0)))), (w5, .inl (cI, 1600, .inl (upd z8.2.2.1 (40 * y9 + 0) (nI 1))))] H := hP
      have hD : va_D A [(w1, .inl (cI, 100, .inl (bmL sg 100))), (w2, .inl (cI, 244, .inl (ruG gl v))), (w0, .inr (5, [.ref w1, .ref w2, .int (nI 7), .int (nI 2), .ref w3, .ref w4, .ref w5, .int (z8.2.2.2 + nI 1), .int wb, .ref w6, .ref w7, .ref w8, .int rc, .ref w9, .ref w10, .ref w11, .ref w12, .ref w13, .ref w14, .int fp, .int ft, .int (nI (flN 0 2))])), (w3, .inl (cI, 1600, .inl (upd z8.1 (40 * y9 + 0) (nI 3)))), (w4, .inl (cI, 1600, .inl (upd z8.2.1 (40 * y9 + 0) (nI 0)))), (w5, .inl (cI, 1600, .inl (upd z8.2.2.1 (40 * y9 + 0) (nI 1))))] := hD
      refine lv_iinc (v := nI (y9 + 1)) (lv' := [(6, .int (nI (y9 + 1))), (0, .ref w0), (3, .int (nI b9))]) hx hb d_MD_rule_213 hl (k := 2) rfl (jn_inc y9 1) (by decide) rfl (fun ls hl => ?_)
      refine lv_goto (tgt := 199) hx hb d_MD_rule_216 (by decide) ?_
      exact ih (y9 + 1) (mpP (40 * y9 + 0) (nI 3) z8) (by omega) (by omega) (by omega) (by rw [show y9 + 1 - 1 = (y9 - 1) + 1 by omega, mkL, ← hz8, show y9 - 1 + 1 = y9 by omega]) _ _ _ (hP.sub [2, 0, 1, 3, 4, 5] rfl) (hD.sub [2, 0, 1, 3, 4, 5] (by decide) rfl) hS (lv_sub hl [1, 2, 0] rfl)
set_option maxHeartbeats 4000000 in
set_option maxRecDepth 100000 in
/-- rule -/
theorem k_MD_rule (l : Launch) (D : va_G) (cI cJ : ClassId) (w0 : Nat) (w1 : Nat) (w2 : Nat) (w3 : Nat) (w4 : Nat) (w5 : Nat) (w6 : Nat) (w7 : Nat) (w8 : Nat) (w9 : Nat) (w10 : Nat) (w11 : Nat) (w12 : Nat) (w13 : Nat) (w14 : Nat) (y : Nat) (te : Int32) (nt : Int32) (wb : Int32) (rc : Int32) (fp : Int32) (ft : Int32) (th : Int32) (sg : Nat → Int32) (gl : Nat → Int32) (fi : Nat → Int32) (ip : Nat → Int32) (se : Nat → Int32) (x : Int32) (v : Int32) (z : Int32) (w : Int32) (sz : Nat)  : Met l y_MD_rule ws_MD_rule ({ frames := 2, cells := 0, slots := 0, locals := 45 } : Room) (va_Pc [.ref w0, .int x, .int v, .int z, .int w] (Pw D cI cJ [(w0, .inr (5, [.ref w1, .ref w2, .int (nI y), .int te, .ref w3, .ref w4, .ref w5, .int nt, .int wb, .ref w6, .ref w7, .ref w8, .int rc, .ref w9, .ref w10, .ref w11, .ref w12, .ref w13, .ref w14, .int fp, .int ft, .int th])), (w1, .inl (cI, 100, .inl sg)), (w2, .inl (cI, 244, .inl gl)), (w3, .inl (cI, 1600, .inl fi)), (w4, .inl (cI, 1600, .inl ip)), (w5, .inl (cI, 1600, .inl se))] sz)) (va_Qi (fun (r : Int32) (u9 : CS) => (r, u9) = mruV sg gl y te (fi, ip, se, nt) x v z w) (fun u9 t9 => Bw D (va_A [(w0, .inr (5, [.ref w1, .ref w2, .int (nI y), .int te, .ref w3, .ref w4, .ref w5, .int nt, .int wb, .ref w6, .ref w7, .ref w8, .int rc, .ref w9, .ref w10, .ref w11, .ref w12, .ref w13, .ref w14, .int fp, .int ft, .int th])), (w1, .inl (cI, 100, .inl sg)), (w2, .inl (cI, 244, .inl gl)), (w3, .inl (cI, 1600, .inl fi)), (w4, .inl (cI, 1600, .inl ip)), (w5, .inl (cI, 1600, .inl se))] sz) [(w0, .inr (5, [.ref w1, .ref w2, .int (nI u9.2.2.1), .int u9.2.2.2.1, .ref w3, .ref w4, .ref w5, .int u9.2.2.2.2.1.2.2.2, .int wb, .ref w6, .ref w7, .ref w8, .int rc, .ref w9, .ref w10, .ref w11, .ref w12, .ref w13, .ref w14, .int fp, .int ft, .int u9.2.2.2.2.2])), (w1, .inl (cI, 100, .inl u9.1)), (w2, .inl (cI, 244, .inl u9.2.1)), (w3, .inl (cI, 1600, .inl u9.2.2.2.2.1.1)), (w4, .inl (cI, 1600, .inl u9.2.2.2.2.1.2.1)), (w5, .inl (cI, 1600, .inl u9.2.2.2.2.1.2.2.1))] t9) (va_A [(w0, .inr (5, [.ref w1, .ref w2, .int (nI y), .int te, .ref w3, .ref w4, .ref w5, .int nt, .int wb, .ref w6, .ref w7, .ref w8, .int rc, .ref w9, .ref w10, .ref w11, .ref w12, .ref w13, .ref w14, .int fp, .int ft, .int th])), (w1, .inl (cI, 100, .inl sg)), (w2, .inl (cI, 244, .inl gl)), (w3, .inl (cI, 1600, .inl fi)), (w4, .inl (cI, 1600, .inl ip)), (w5, .inl (cI, 1600, .inl se))] sz)) 0 0 (va_A [(w0, .inr (5, [.ref w1, .ref w2, .int (nI y), .int te, .ref w3, .ref w4, .ref w5, .int nt, .int wb, .ref w6, .ref w7, .ref w8, .int rc, .ref w9, .ref w10, .ref w11, .ref w12, .ref w13, .ref w14, .int fp, .int ft, .int th])), (w1, .inl (cI, 100, .inl sg)), (w2, .inl (cI, 244, .inl gl)), (w3, .inl (cI, 1600, .inl fi)), (w4, .inl (cI, 1600, .inl ip)), (w5, .inl (cI, 1600, .inl se))] sz) := by
  refine Met.ofW (cc := c_MD_rule) (maxL := 8) (ret := (some .int)) (by decide) rfl ?_
  intro p e s m args below meth c s₁ B hml hv
  obtain ⟨rfl, hsz, hE, hP, hD0, hX⟩ := hv
  have hx := B.exec
  have hb := B.bytes
  have hr := B.returns
  have hw : ∀ w ∈ gw, w.before _ s = true := fun w h => atoms_spec (ws := ws_MD_rule) B.pre w (List.mem_cons_of_mem _ h)
  have hown : s.vm.findClass R_MD = some m.cls := findClass_of_methodNamed B.named
  have hlocks := B.notSynchronized
  subst hsz
  have hD := hD0.self (sz := s.heap.size)
  generalize hAe : va_A [(w0, .inr (5, [.ref w1, .ref w2, .int (nI y), .int te, .ref w3, .ref w4, .ref w5, .int nt, .int wb, .ref w6, .ref w7, .ref w8, .int rc, .ref w9, .ref w10, .ref w11, .ref w12, .ref w13, .ref w14, .int fp, .int ft, .int th])), (w1, .inl (cI, 100, .inl sg)), (w2, .inl (cI, 244, .inl gl)), (w3, .inl (cI, 1600, .inl fi)), (w4, .inl (cI, 1600, .inl ip)), (w5, .inl (cI, 1600, .inl se))] s.heap.size = A at hD hX ⊢
  have hA : ∀ q : Nat, s.heap.size ≤ q → A q := fun q h => by rw [← hAe]; exact Or.inr h
  have hS : va_S A s.heap s.heap [] := va_S.rf
  have hP : va_P D vwCl [(w0, .inr (5, [.ref w1, .ref w2, .int (nI y), .int te, .ref w3, .ref w4, .ref w5, .int nt, .int wb, .ref w6, .ref w7, .ref w8, .int rc, .ref w9, .ref w10, .ref w11, .ref w12, .ref w13, .ref w14, .int fp, .int ft, .int th])), (w1, .inl (cI, 100, .inl sg)), (w2, .inl (cI, 244, .inl gl)), (w3, .inl (cI, 1600, .inl fi)), (w4, .inl (cI, 1600, .inl ip)), (w5, .inl (cI, 1600, .inl se))] s.heap := hP
  have hl := lv_entry ([.ref w0, .int x, .int v, .int z, .int w]) (n := 8) (Nat.le_of_ble_eq_true rfl)
  rw [lg_entry_eq]
  generalize (lg_sl ([.ref w0, .int x, .int v, .int z, .int w]) ++ List.replicate (8 - (lg_sl ([.ref w0, .int x, .int v, .int z, .int w])).length) Slot.unset).toArray = ls at hl ⊢
  have hl : lv_has ls 8 [(0, .ref w0), (1, .int x), (2, .int v), (3, .int z), (4, .int w)] := hl
  refine lv_iload_n hx hb d_MD_rule_0 rfl (lv_at hl 1 rfl) ?_
  refine lv_iconst (v := nI 1) hx hb d_MD_rule_1 (by decide +kernel) ?_
  refine lv_bipush (v := nI 30) hx hb d_MD_rule_2 (by decide +kernel) ?_
  refine vp_callSi (va_Run.run (va_runS (As := [.int x, .int (nI 1), .int (nI 30)]) (rest := []) ⟨hx, hb, hml, hown, hw⟩ (k_MD_within l D cI cJ x (nI 1) (nI 30)) (va_cwS 3 hw (gS kw_840 kw_841 kw_45 kw_842) rfl rfl rfl (by decide +kernel) ⟨Nat.le_of_ble_eq_true rfl, Nat.le_of_ble_eq_true rfl⟩) (pre_Sp (wc := []) hE hX hP hS [] rfl) rfl rfl hl.1 rfl (lv_room (Nat.le_of_ble_eq_true rfl)) d_MD_rule_4 ⟨Nat.le_of_ble_eq_true rfl, Nat.le_of_ble_eq_true rfl⟩)) (fun r_1 hr_1 => ?_)
  obtain rfl : nI (wiN x (nI 1) (nI 30)) = r_1 := hr_1.symm
  refine jn_if_eq (tgt := 47) (a := (wiN x (nI 1) (nI 30))) hx hb d_MD_rule_7 (by decide) (by have := wiN_le x (nI 1) (nI 30); omega) (fun c_7 => ?_) (fun c_7 => ?_)
  · skip
    refine lv_iconst (v := nI 0) hx hb d_MD_rule_47 (by decide +kernel) ?_
    refine lv_istore (lv' := [(5, .int (nI 0)), (0, .ref w0), (1, .int x), (2, .int v), (3, .int z), (4, .int w)]) hx hb d_MD_rule_48 hl (by decide) rfl (fun ls hl => ?_)
    refine lv_aload_n hx hb d_MD_rule_50 rfl (lv_at hl 1 rfl) ?_
    refine lv_aload_n hx hb d_MD_rule_51 rfl (lv_at hl 1 rfl) ?_
    refine va_get (D := D) (ci := 5) (v := .int nt) (C := R_MD) (T := T_MD) (N := 22) hx hb hw in_MD hown hE.1 hP 0 rfl rfl 7 (by decide) (hw _ kw_768) (fun _ h9 => h9) rfl d_MD_rule_52 ?_
    refine lv_if_le (tgt := 62) hx hb d_MD_rule_55 (by decide) (fun c_55 => ?_) (fun c_55 => ?_)
    · skip
      refine lv_iconst (v := nI 0) hx hb d_MD_rule_62 (by decide +kernel) ?_
      refine lv_iconst (v := nI 1) hx hb d_MD_rule_63 (by decide +kernel) ?_
      refine cl_i (wr := [(w1, .inl (cI, 100, .inl sg)), (w2, .inl (cI, 244, .inl gl)), (w3, .inl (cI, 1600, .inl fi)), (w4, .inl (cI, 1600, .inl ip)), (w5, .inl (cI, 1600, .inl se))]) (va_runV (As := [.int (nI 0), .int (nI 1)]) (rest := []) ⟨hx, hb, hml, hown, hw⟩ (k_MD_fails l D cI cJ w0 w1 w2 w3 w4 w5 w6 w7 w8 w9 w10 w11 w12 w13 w14 (nI y) te nt wb rc fp ft th 0 1 _ (by omega)) (cwV 2 hw (gV kw_836 kw_838 kw_20 kw_45 kw_839) rfl rfl rfl (by decide +kernel) ⟨Nat.le_of_ble_eq_true rfl, Nat.le_of_ble_eq_true rfl⟩) (pre_Vw (wc := [(w0, .inr (5, [.ref w1, .ref w2, .int (nI y), .int te, .ref w3, .ref w4, .ref w5, .int nt, .int wb, .ref w6, .ref w7, .ref w8, .int rc, .ref w9, .ref w10, .ref w11, .ref w12, .ref w13, .ref w14, .int fp, .int ft, .int th]))]) (q0 := 0) hE hX hA hP hD hS [0] (by decide) rfl rfl rfl rfl) rfl rfl hl.1 rfl (lv_room (Nat.le_of_ble_eq_true rfl)) d_MD_rule_64 ⟨Nat.le_of_ble_eq_true rfl, Nat.le_of_ble_eq_true rfl⟩) hP hD hS hA [0] [1, 2, 3, 4, 5] rfl rfl (by decide) (by decide) (fun r_2 u_r_2 H locs hr_2 hP hD hS => ?_)
      obtain rfl : nI 0 = r_2 := hr_2.symm
      have hP : va_P D vwCl [(w1, .inl (cI, 100, .inl sg)), (w2, .inl (cI, 244, .inl gl)), (w3, .inl (cI, 1600, .inl fi)), (w4, .inl (cI, 1600, .inl ip)), (w5, .inl (cI, 1600, .inl se)), (w0, .inr (5, [.ref w1, .ref w2, .int (nI y), .int te, .ref w3, .ref w4, .ref w5, .int nt, .int wb, .ref w6, .ref w7, .ref w8, .int rc, .ref w9, .ref w10, .ref w11, .ref w12, .ref w13, .ref w14, .int fp, .int ft, .int (nI (flN 0 1))]))] H := hP
      have hD : va_D A [(w1, .inl (cI, 100, .inl sg)), (w2, .inl (cI, 244, .inl gl)), (w3, .inl (cI, 1600, .inl fi)), (w4, .inl (cI, 1600, .inl ip)), (w5, .inl (cI, 1600, .inl se)), (w0, .inr (5, [.ref w1, .ref w2, .int (nI y), .int te, .ref w3, .ref w4, .ref w5, .int nt, .int wb, .ref w6, .ref w7, .ref w8, .int rc, .ref w9, .ref w10, .ref w11, .ref w12, .ref w13, .ref w14, .int fp, .int ft, .int (nI (flN 0 1))]))] := hD
      refine jn_if_ne (tgt := 88) (a := 0) hx hb d_MD_rule_67 (by decide) (by decide) (fun c9 => absurd c9 (by decide)) (fun _ => ?_)
      refine lv_aload_n hx hb d_MD_rule_70 rfl (lv_at hl 1 rfl) ?_
      refine lv_iload hx hb d_MD_rule_71 (lv_at hl 0 rfl) ?_
      refine jn_if_ne (tgt := 80) (a := 0) hx hb d_MD_rule_73 (by decide) (by decide) (fun c9 => absurd c9 (by decide)) (fun _ => ?_)
      refine lv_iconst (v := nI 1) hx hb d_MD_rule_76 (by decide +kernel) ?_
      refine lv_goto (tgt := 81) hx hb d_MD_rule_77 (by decide) ?_
      refine lv_iconst (v := nI 2) hx hb d_MD_rule_81 (by decide +kernel) ?_
      refine cl_i (wr := [(w1, .inl (cI, 100, .inl sg)), (w2, .inl (cI, 244, .inl gl)), (w3, .inl (cI, 1600, .inl fi)), (w4, .inl (cI, 1600, .inl ip)), (w5, .inl (cI, 1600, .inl se))]) (va_runV (As := [.int (nI 1), .int (nI 2)]) (rest := []) ⟨hx, hb, hml, hown, hw⟩ (k_MD_fails l D cI cJ w0 w1 w2 w3 w4 w5 w6 w7 w8 w9 w10 w11 w12 w13 w14 (nI y) te nt wb rc fp ft (nI (flN 0 1)) 1 2 _ (by omega)) (cwV 2 hw (gV kw_836 kw_838 kw_20 kw_45 kw_839) rfl rfl rfl (by decide +kernel) ⟨Nat.le_of_ble_eq_true rfl, Nat.le_of_ble_eq_true rfl⟩) (pre_Vw (wc := [(w0, .inr (5, [.ref w1, .ref w2, .int (nI y), .int te, .ref w3, .ref w4, .ref w5, .int nt, .int wb, .ref w6, .ref w7, .ref w8, .int rc, .ref w9, .ref w10, .ref w11, .ref w12, .ref w13, .ref w14, .int fp, .int ft, .int (nI (flN 0 1))]))]) (q0 := 0) hE hX hA hP hD hS [5] (by decide) rfl rfl rfl rfl) rfl rfl hl.1 rfl (lv_room (Nat.le_of_ble_eq_true rfl)) d_MD_rule_82 ⟨Nat.le_of_ble_eq_true rfl, Nat.le_of_ble_eq_true rfl⟩) hP hD hS hA [5] [0, 1, 2, 3, 4] rfl rfl (by decide) (by decide) (fun r_3 u_r_3 H locs hr_3 hP hD hS => ?_)
      obtain rfl : nI 1 = r_3 := hr_3.symm
      have hP : va_P D vwCl [(w1, .inl (cI, 100, .inl sg)), (w2, .inl (cI, 244, .inl gl)), (w3, .inl (cI, 1600, .inl fi)), (w4, .inl (cI, 1600, .inl ip)), (w5, .inl (cI, 1600, .inl se)), (w0, .inr (5, [.ref w1, .ref w2, .int (nI y), .int te, .ref w3, .ref w4, .ref w5, .int nt, .int wb, .ref w6, .ref w7, .ref w8, .int rc, .ref w9, .ref w10, .ref w11, .ref w12, .ref w13, .ref w14, .int fp, .int ft, .int (nI (flN 1 2))]))] H := hP
      have hD : va_D A [(w1, .inl (cI, 100, .inl sg)), (w2, .inl (cI, 244, .inl gl)), (w3, .inl (cI, 1600, .inl fi)), (w4, .inl (cI, 1600, .inl ip)), (w5, .inl (cI, 1600, .inl se)), (w0, .inr (5, [.ref w1, .ref w2, .int (nI y), .int te, .ref w3, .ref w4, .ref w5, .int nt, .int wb, .ref w6, .ref w7, .ref w8, .int rc, .ref w9, .ref w10, .ref w11, .ref w12, .ref w13, .ref w14, .int fp, .int ft, .int (nI (flN 1 2))]))] := hD
      refine jn_if_eq (tgt := 90) (a := 1) hx hb d_MD_rule_85 (by decide) (by decide) (fun c9 => absurd c9 (by decide)) (fun _ => ?_)
      refine lv_iconst (v := nI 0) hx hb d_MD_rule_88 (by decide +kernel) ?_
      have hP9 := hP.sub (ws' := [(w0, .inr (5, [.ref w1, .ref w2, .int (nI y), .int te, .ref w3, .ref w4, .ref w5, .int nt, .int wb, .ref w6, .ref w7, .ref w8, .int rc, .ref w9, .ref w10, .ref w11, .ref w12, .ref w13, .ref w14, .int fp, .int ft, .int (nI (flN 1 2))])), (w1, .inl (cI, 100, .inl sg)), (w2, .inl (cI, 244, .inl gl)), (w3, .inl (cI, 1600, .inl fi)), (w4, .inl (cI, 1600, .inl ip)), (w5, .inl (cI, 1600, .inl se))]) [5, 0, 1, 2, 3, 4] rfl
      have hD9 := hD.sub (ws' := [(w0, .inr (5, [.ref w1, .ref w2, .int (nI y), .int te, .ref w3, .ref w4, .ref w5, .int nt, .int wb, .ref w6, .ref w7, .ref w8, .int rc, .ref w9, .ref w10, .ref w11, .ref w12, .ref w13, .ref w14, .int fp, .int ft, .int (nI (flN 1 2))])), (w1, .inl (cI, 100, .inl sg)), (w2, .inl (cI, 244, .inl gl)), (w3, .inl (cI, 1600, .inl fi)), (w4, .inl (cI, 1600, .inl ip)), (w5, .inl (cI, 1600, .inl se))]) [5, 0, 1, 2, 3, 4] (by decide) rfl
      exact W.iret (v := nI 0) hx hb hr (fun t9 ht hW => ⟨⟨_, (sg, gl, y, te, (fi, ip, se, nt), nI 2), rfl, (by unfold mruV; dsimp only; rw [if_pos c_55, if_pos (show rrN x v z w = 0 from by unfold rrN; rw [if_pos c_7])]), ⟨by rw [ht]; exact hP9, hD9⟩⟩, hS.F ht⟩) hS.2.2 d_MD_rule_89
    · skip
      refine lv_iconst (v := nI 1) hx hb d_MD_rule_58 (by decide +kernel) ?_
      refine lv_goto (tgt := 63) hx hb d_MD_rule_59 (by decide) ?_
      refine lv_iconst (v := nI 1) hx hb d_MD_rule_63 (by decide +kernel) ?_
      refine cl_i (wr := [(w1, .inl (cI, 100, .inl sg)), (w2, .inl (cI, 244, .inl gl)), (w3, .inl (cI, 1600, .inl fi)), (w4, .inl (cI, 1600, .inl ip)), (w5, .inl (cI, 1600, .inl se))]) (va_runV (As := [.int (nI 1), .int (nI 1)]) (rest := []) ⟨hx, hb, hml, hown, hw⟩ (k_MD_fails l D cI cJ w0 w1 w2 w3 w4 w5 w6 w7 w8 w9 w10 w11 w12 w13 w14 (nI y) te nt wb rc fp ft th 1 1 _ (by omega)) (cwV 2 hw (gV kw_836 kw_838 kw_20 kw_45 kw_839) rfl rfl rfl (by decide +kernel) ⟨Nat.le_of_ble_eq_true rfl, Nat.le_of_ble_eq_true rfl⟩) (pre_Vw (wc := [(w0, .inr (5, [.ref w1, .ref w2, .int (nI y), .int te, .ref w3, .ref w4, .ref w5, .int nt, .int wb, .ref w6, .ref w7, .ref w8, .int rc, .ref w9, .ref w10, .ref w11, .ref w12, .ref w13, .ref w14, .int fp, .int ft, .int th]))]) (q0 := 0) hE hX hA hP hD hS [0] (by decide) rfl rfl rfl rfl) rfl rfl hl.1 rfl (lv_room (Nat.le_of_ble_eq_true rfl)) d_MD_rule_64 ⟨Nat.le_of_ble_eq_true rfl, Nat.le_of_ble_eq_true rfl⟩) hP hD hS hA [0] [1, 2, 3, 4, 5] rfl rfl (by decide) (by decide) (fun r_4 u_r_4 H locs hr_4 hP hD hS => ?_)
      obtain rfl : nI 1 = r_4 := hr_4.symm
      have hP : va_P D vwCl [(w1, .inl (cI, 100, .inl sg)), (w2, .inl (cI, 244, .inl gl)), (w3, .inl (cI, 1600, .inl fi)), (w4, .inl (cI, 1600, .inl ip)), (w5, .inl (cI, 1600, .inl se)), (w0, .inr (5, [.ref w1, .ref w2, .int (nI y), .int te, .ref w3, .ref w4, .ref w5, .int nt, .int wb, .ref w6, .ref w7, .ref w8, .int rc, .ref w9, .ref w10, .ref w11, .ref w12, .ref w13, .ref w14, .int fp, .int ft, .int (nI (flN 1 1))]))] H := hP
      have hD : va_D A [(w1, .inl (cI, 100, .inl sg)), (w2, .inl (cI, 244, .inl gl)), (w3, .inl (cI, 1600, .inl fi)), (w4, .inl (cI, 1600, .inl ip)), (w5, .inl (cI, 1600, .inl se)), (w0, .inr (5, [.ref w1, .ref w2, .int (nI y), .int te, .ref w3, .ref w4, .ref w5, .int nt, .int wb, .ref w6, .ref w7, .ref w8, .int rc, .ref w9, .ref w10, .ref w11, .ref w12, .ref w13, .ref w14, .int fp, .int ft, .int (nI (flN 1 1))]))] := hD
      refine jn_if_ne (tgt := 88) (a := 1) hx hb d_MD_rule_67 (by decide) (by decide) (fun _ => ?_) (fun c9 => absurd c9 (by decide))
      refine lv_iconst (v := nI 0) hx hb d_MD_rule_88 (by decide +kernel) ?_
      have hP9 := hP.sub (ws' := [(w0, .inr (5, [.ref w1, .ref w2, .int (nI y), .int te, .ref w3, .ref w4, .ref w5, .int nt, .int wb, .ref w6, .ref w7, .ref w8, .int rc, .ref w9, .ref w10, .ref w11, .ref w12, .ref w13, .ref w14, .int fp, .int ft, .int (nI (flN 1 1))])), (w1, .inl (cI, 100, .inl sg)), (w2, .inl (cI, 244, .inl gl)), (w3, .inl (cI, 1600, .inl fi)), (w4, .inl (cI, 1600, .inl ip)), (w5, .inl (cI, 1600, .inl se))]) [5, 0, 1, 2, 3, 4] rfl
      have hD9 := hD.sub (ws' := [(w0, .inr (5, [.ref w1, .ref w2, .int (nI y), .int te, .ref w3, .ref w4, .ref w5, .int nt, .int wb, .ref w6, .ref w7, .ref w8, .int rc, .ref w9, .ref w10, .ref w11, .ref w12, .ref w13, .ref w14, .int fp, .int ft, .int (nI (flN 1 1))])), (w1, .inl (cI, 100, .inl sg)), (w2, .inl (cI, 244, .inl gl)), (w3, .inl (cI, 1600, .inl fi)), (w4, .inl (cI, 1600, .inl ip)), (w5, .inl (cI, 1600, .inl se))]) [5, 0, 1, 2, 3, 4] (by decide) rfl
      exact W.iret (v := nI 0) hx hb hr (fun t9 ht hW => ⟨⟨_, (sg, gl, y, te, (fi, ip, se, nt), nI 1), rfl, (by unfold mruV; dsimp only; rw [if_neg c_55]), ⟨by rw [ht]; exact hP9, hD9⟩⟩, hS.F ht⟩) hS.2.2 d_MD_rule_89
  · skip
    refine lv_iload_n hx hb d_MD_rule_10 rfl (lv_at hl 2 rfl) ?_
    refine lv_iconst (v := nI 0) hx hb d_MD_rule_11 (by decide +kernel) ?_
    refine lv_bipush (v := nI 15) hx hb d_MD_rule_12 (by decide +kernel) ?_
    refine vp_callSi (va_Run.run (va_runS (As := [.int v, .int (nI 0), .int (nI 15)]) (rest := []) ⟨hx, hb, hml, hown, hw⟩ (k_MD_within l D cI cJ v (nI 0) (nI 15)) (va_cwS 3 hw (gS kw_840 kw_841 kw_45 kw_842) rfl rfl rfl (by decide +kernel) ⟨Nat.le_of_ble_eq_true rfl, Nat.le_of_ble_eq_true rfl⟩) (pre_Sp (wc := []) hE hX hP hS [] rfl) rfl rfl hl.1 rfl (lv_room (Nat.le_of_ble_eq_true rfl)) d_MD_rule_14 ⟨Nat.le_of_ble_eq_true rfl, Nat.le_of_ble_eq_true rfl⟩)) (fun r_5 hr_5 => ?_)
    obtain rfl : nI (wiN v (nI 0) (nI 15)) = r_5 := hr_5.symm
    refine jn_if_eq (tgt := 47) (a := (wiN v (nI 0) (nI 15))) hx hb d_MD_rule_17 (by decide) (by have := wiN_le v (nI 0) (nI 15); omega) (fun c_17 => ?_) (fun c_17 => ?_)
    · skip
      refine lv_iconst (v := nI 0) hx hb d_MD_rule_47 (by decide +kernel) ?_
      refine lv_istore (lv' := [(5, .int (nI 0)), (0, .ref w0), (1, .int x), (2, .int v), (3, .int z), (4, .int w)]) hx hb d_MD_rule_48 hl (by decide) rfl (fun ls hl => ?_)
      refine lv_aload_n hx hb d_MD_rule_50 rfl (lv_at hl 1 rfl) ?_
      refine lv_aload_n hx hb d_MD_rule_51 rfl (lv_at hl 1 rfl) ?_
      refine va_get (D := D) (ci := 5) (v := .int nt) (C := R_MD) (T := T_MD) (N := 22) hx hb hw in_MD hown hE.1 hP 0 rfl rfl 7 (by decide) (hw _ kw_768) (fun _ h9 => h9) rfl d_MD_rule_52 ?_
      refine lv_if_le (tgt := 62) hx hb d_MD_rule_55 (by decide) (fun c_55 => ?_) (fun c_55 => ?_)
      · skip
        refine lv_iconst (v := nI 0) hx hb d_MD_rule_62 (by decide +kernel) ?_
        refine lv_iconst (v := nI 1) hx hb d_MD_rule_63 (by decide +kernel) ?_
        refine cl_i (wr := [(w1, .inl (cI, 100, .inl sg)), (w2, .inl (cI, 244, .inl gl)), (w3, .inl (cI, 1600, .inl fi)), (w4, .inl (cI, 1600, .inl ip)), (w5, .inl (cI, 1600, .inl se))]) (va_runV (As := [.int (nI 0), .int (nI 1)]) (rest := []) ⟨hx, hb, hml, hown, hw⟩ (k_MD_fails l D cI cJ w0 w1 w2 w3 w4 w5 w6 w7 w8 w9 w10 w11 w12 w13 w14 (nI y) te nt wb rc fp ft th 0 1 _ (by omega)) (cwV 2 hw (gV kw_836 kw_838 kw_20 kw_45 kw_839) rfl rfl rfl (by decide +kernel) ⟨Nat.le_of_ble_eq_true rfl, Nat.le_of_ble_eq_true rfl⟩) (pre_Vw (wc := [(w0, .inr (5, [.ref w1, .ref w2, .int (nI y), .int te, .ref w3, .ref w4, .ref w5, .int nt, .int wb, .ref w6, .ref w7, .ref w8, .int rc, .ref w9, .ref w10, .ref w11, .ref w12, .ref w13, .ref w14, .int fp, .int ft, .int th]))]) (q0 := 0) hE hX hA hP hD hS [0] (by decide) rfl rfl rfl rfl) rfl rfl hl.1 rfl (lv_room (Nat.le_of_ble_eq_true rfl)) d_MD_rule_64 ⟨Nat.le_of_ble_eq_true rfl, Nat.le_of_ble_eq_true rfl⟩) hP hD hS hA [0] [1, 2, 3, 4, 5] rfl rfl (by decide) (by decide) (fun r_6 u_r_6 H locs hr_6 hP hD hS => ?_)
        obtain rfl : nI 0 = r_6 := hr_6.symm
        have hP : va_P D vwCl [(w1, .inl (cI, 100, .inl sg)), (w2, .inl (cI, 244, .inl gl)), (w3, .inl (cI, 1600, .inl fi)), (w4, .inl (cI, 1600, .inl ip)), (w5, .inl (cI, 1600, .inl se)), (w0, .inr (5, [.ref w1, .ref w2, .int (nI y), .int te, .ref w3, .ref w4, .ref w5, .int nt, .int wb, .ref w6, .ref w7, .ref w8, .int rc, .ref w9, .ref w10, .ref w11, .ref w12, .ref w13, .ref w14, .int fp, .int ft, .int (nI (flN 0 1))]))] H := hP
        have hD : va_D A [(w1, .inl (cI, 100, .inl sg)), (w2, .inl (cI, 244, .inl gl)), (w3, .inl (cI, 1600, .inl fi)), (w4, .inl (cI, 1600, .inl ip)), (w5, .inl (cI, 1600, .inl se)), (w0, .inr (5, [.ref w1, .ref w2, .int (nI y), .int te, .ref w3, .ref w4, .ref w5, .int nt, .int wb, .ref w6, .ref w7, .ref w8, .int rc, .ref w9, .ref w10, .ref w11, .ref w12, .ref w13, .ref w14, .int fp, .int ft, .int (nI (flN 0 1))]))] := hD
        refine jn_if_ne (tgt := 88) (a := 0) hx hb d_MD_rule_67 (by decide) (by decide) (fun c9 => absurd c9 (by decide)) (fun _ => ?_)
        refine lv_aload_n hx hb d_MD_rule_70 rfl (lv_at hl 1 rfl) ?_
        refine lv_iload hx hb d_MD_rule_71 (lv_at hl 0 rfl) ?_
        refine jn_if_ne (tgt := 80) (a := 0) hx hb d_MD_rule_73 (by decide) (by decide) (fun c9 => absurd c9 (by decide)) (fun _ => ?_)
        refine lv_iconst (v := nI 1) hx hb d_MD_rule_76 (by decide +kernel) ?_
        refine lv_goto (tgt := 81) hx hb d_MD_rule_77 (by decide) ?_
        refine lv_iconst (v := nI 2) hx hb d_MD_rule_81 (by decide +kernel) ?_
        refine cl_i (wr := [(w1, .inl (cI, 100, .inl sg)), (w2, .inl (cI, 244, .inl gl)), (w3, .inl (cI, 1600, .inl fi)), (w4, .inl (cI, 1600, .inl ip)), (w5, .inl (cI, 1600, .inl se))]) (va_runV (As := [.int (nI 1), .int (nI 2)]) (rest := []) ⟨hx, hb, hml, hown, hw⟩ (k_MD_fails l D cI cJ w0 w1 w2 w3 w4 w5 w6 w7 w8 w9 w10 w11 w12 w13 w14 (nI y) te nt wb rc fp ft (nI (flN 0 1)) 1 2 _ (by omega)) (cwV 2 hw (gV kw_836 kw_838 kw_20 kw_45 kw_839) rfl rfl rfl (by decide +kernel) ⟨Nat.le_of_ble_eq_true rfl, Nat.le_of_ble_eq_true rfl⟩) (pre_Vw (wc := [(w0, .inr (5, [.ref w1, .ref w2, .int (nI y), .int te, .ref w3, .ref w4, .ref w5, .int nt, .int wb, .ref w6, .ref w7, .ref w8, .int rc, .ref w9, .ref w10, .ref w11, .ref w12, .ref w13, .ref w14, .int fp, .int ft, .int (nI (flN 0 1))]))]) (q0 := 0) hE hX hA hP hD hS [5] (by decide) rfl rfl rfl rfl) rfl rfl hl.1 rfl (lv_room (Nat.le_of_ble_eq_true rfl)) d_MD_rule_82 ⟨Nat.le_of_ble_eq_true rfl, Nat.le_of_ble_eq_true rfl⟩) hP hD hS hA [5] [0, 1, 2, 3, 4] rfl rfl (by decide) (by decide) (fun r_7 u_r_7 H locs hr_7 hP hD hS => ?_)
        obtain rfl : nI 1 = r_7 := hr_7.symm
        have hP : va_P D vwCl [(w1, .inl (cI, 100, .inl sg)), (w2, .inl (cI, 244, .inl gl)), (w3, .inl (cI, 1600, .inl fi)), (w4, .inl (cI, 1600, .inl ip)), (w5, .inl (cI, 1600, .inl se)), (w0, .inr (5, [.ref w1, .ref w2, .int (nI y), .int te, .ref w3, .ref w4, .ref w5, .int nt, .int wb, .ref w6, .ref w7, .ref w8, .int rc, .ref w9, .ref w10, .ref w11, .ref w12, .ref w13, .ref w14, .int fp, .int ft, .int (nI (flN 1 2))]))] H := hP
        have hD : va_D A [(w1, .inl (cI, 100, .inl sg)), (w2, .inl (cI, 244, .inl gl)), (w3, .inl (cI, 1600, .inl fi)), (w4, .inl (cI, 1600, .inl ip)), (w5, .inl (cI, 1600, .inl se)), (w0, .inr (5, [.ref w1, .ref w2, .int (nI y), .int te, .ref w3, .ref w4, .ref w5, .int nt, .int wb, .ref w6, .ref w7, .ref w8, .int rc, .ref w9, .ref w10, .ref w11, .ref w12, .ref w13, .ref w14, .int fp, .int ft, .int (nI (flN 1 2))]))] := hD
        refine jn_if_eq (tgt := 90) (a := 1) hx hb d_MD_rule_85 (by decide) (by decide) (fun c9 => absurd c9 (by decide)) (fun _ => ?_)
        refine lv_iconst (v := nI 0) hx hb d_MD_rule_88 (by decide +kernel) ?_
        have hP9 := hP.sub (ws' := [(w0, .inr (5, [.ref w1, .ref w2, .int (nI y), .int te, .ref w3, .ref w4, .ref w5, .int nt, .int wb, .ref w6, .ref w7, .ref w8, .int rc, .ref w9, .ref w10, .ref w11, .ref w12, .ref w13, .ref w14, .int fp, .int ft, .int (nI (flN 1 2))])), (w1, .inl (cI, 100, .inl sg)), (w2, .inl (cI, 244, .inl gl)), (w3, .inl (cI, 1600, .inl fi)), (w4, .inl (cI, 1600, .inl ip)), (w5, .inl (cI, 1600, .inl se))]) [5, 0, 1, 2, 3, 4] rfl
        have hD9 := hD.sub (ws' := [(w0, .inr (5, [.ref w1, .ref w2, .int (nI y), .int te, .ref w3, .ref w4, .ref w5, .int nt, .int wb, .ref w6, .ref w7, .ref w8, .int rc, .ref w9, .ref w10, .ref w11, .ref w12, .ref w13, .ref w14, .int fp, .int ft, .int (nI (flN 1 2))])), (w1, .inl (cI, 100, .inl sg)), (w2, .inl (cI, 244, .inl gl)), (w3, .inl (cI, 1600, .inl fi)), (w4, .inl (cI, 1600, .inl ip)), (w5, .inl (cI, 1600, .inl se))]) [5, 0, 1, 2, 3, 4] (by decide) rfl
        exact W.iret (v := nI 0) hx hb hr (fun t9 ht hW => ⟨⟨_, (sg, gl, y, te, (fi, ip, se, nt), nI 2), rfl, (by unfold mruV; dsimp only; rw [if_pos c_55, if_pos (show rrN x v z w = 0 from by unfold rrN; rw [if_neg c_7, if_pos c_17])]), ⟨by rw [ht]; exact hP9, hD9⟩⟩, hS.F ht⟩) hS.2.2 d_MD_rule_89
      · skip
        refine lv_iconst (v := nI 1) hx hb d_MD_rule_58 (by decide +kernel) ?_
        refine lv_goto (tgt := 63) hx hb d_MD_rule_59 (by decide) ?_
        refine lv_iconst (v := nI 1) hx hb d_MD_rule_63 (by decide +kernel) ?_
        refine cl_i (wr := [(w1, .inl (cI, 100, .inl sg)), (w2, .inl (cI, 244, .inl gl)), (w3, .inl (cI, 1600, .inl fi)), (w4, .inl (cI, 1600, .inl ip)), (w5, .inl (cI, 1600, .inl se))]) (va_runV (As := [.int (nI 1), .int (nI 1)]) (rest := []) ⟨hx, hb, hml, hown, hw⟩ (k_MD_fails l D cI cJ w0 w1 w2 w3 w4 w5 w6 w7 w8 w9 w10 w11 w12 w13 w14 (nI y) te nt wb rc fp ft th 1 1 _ (by omega)) (cwV 2 hw (gV kw_836 kw_838 kw_20 kw_45 kw_839) rfl rfl rfl (by decide +kernel) ⟨Nat.le_of_ble_eq_true rfl, Nat.le_of_ble_eq_true rfl⟩) (pre_Vw (wc := [(w0, .inr (5, [.ref w1, .ref w2, .int (nI y), .int te, .ref w3, .ref w4, .ref w5, .int nt, .int wb, .ref w6, .ref w7, .ref w8, .int rc, .ref w9, .ref w10, .ref w11, .ref w12, .ref w13, .ref w14, .int fp, .int ft, .int th]))]) (q0 := 0) hE hX hA hP hD hS [0] (by decide) rfl rfl rfl rfl) rfl rfl hl.1 rfl (lv_room (Nat.le_of_ble_eq_true rfl)) d_MD_rule_64 ⟨Nat.le_of_ble_eq_true rfl, Nat.le_of_ble_eq_true rfl⟩) hP hD hS hA [0] [1, 2, 3, 4, 5] rfl rfl (by decide) (by decide) (fun r_8 u_r_8 H locs hr_8 hP hD hS => ?_)
        obtain rfl : nI 1 = r_8 := hr_8.symm
        have hP : va_P D vwCl [(w1, .inl (cI, 100, .inl sg)), (w2, .inl (cI, 244, .inl gl)), (w3, .inl (cI, 1600, .inl fi)), (w4, .inl (cI, 1600, .inl ip)), (w5, .inl (cI, 1600, .inl se)), (w0, .inr (5, [.ref w1, .ref w2, .int (nI y), .int te, .ref w3, .ref w4, .ref w5, .int nt, .int wb, .ref w6, .ref w7, .ref w8, .int rc, .ref w9, .ref w10, .ref w11, .ref w12, .ref w13, .ref w14, .int fp, .int ft, .int (nI (flN 1 1))]))] H := hP
        have hD : va_D A [(w1, .inl (cI, 100, .inl sg)), (w2, .inl (cI, 244, .inl gl)), (w3, .inl (cI, 1600, .inl fi)), (w4, .inl (cI, 1600, .inl ip)), (w5, .inl (cI, 1600, .inl se)), (w0, .inr (5, [.ref w1, .ref w2, .int (nI y), .int te, .ref w3, .ref w4, .ref w5, .int nt, .int wb, .ref w6, .ref w7, .ref w8, .int rc, .ref w9, .ref w10, .ref w11, .ref w12, .ref w13, .ref w14, .int fp, .int ft, .int (nI (flN 1 1))]))] := hD
        refine jn_if_ne (tgt := 88) (a := 1) hx hb d_MD_rule_67 (by decide) (by decide) (fun _ => ?_) (fun c9 => absurd c9 (by decide))
        refine lv_iconst (v := nI 0) hx hb d_MD_rule_88 (by decide +kernel) ?_
        have hP9 := hP.sub (ws' := [(w0, .inr (5, [.ref w1, .ref w2, .int (nI y), .int te, .ref w3, .ref w4, .ref w5, .int nt, .int wb, .ref w6, .ref w7, .ref w8, .int rc, .ref w9, .ref w10, .ref w11, .ref w12, .ref w13, .ref w14, .int fp, .int ft, .int (nI (flN 1 1))])), (w1, .inl (cI, 100, .inl sg)), (w2, .inl (cI, 244, .inl gl)), (w3, .inl (cI, 1600, .inl fi)), (w4, .inl (cI, 1600, .inl ip)), (w5, .inl (cI, 1600, .inl se))]) [5, 0, 1, 2, 3, 4] rfl
        have hD9 := hD.sub (ws' := [(w0, .inr (5, [.ref w1, .ref w2, .int (nI y), .int te, .ref w3, .ref w4, .ref w5, .int nt, .int wb, .ref w6, .ref w7, .ref w8, .int rc, .ref w9, .ref w10, .ref w11, .ref w12, .ref w13, .ref w14, .int fp, .int ft, .int (nI (flN 1 1))])), (w1, .inl (cI, 100, .inl sg)), (w2, .inl (cI, 244, .inl gl)), (w3, .inl (cI, 1600, .inl fi)), (w4, .inl (cI, 1600, .inl ip)), (w5, .inl (cI, 1600, .inl se))]) [5, 0, 1, 2, 3, 4] (by decide) rfl
        exact W.iret (v := nI 0) hx hb hr (fun t9 ht hW => ⟨⟨_, (sg, gl, y, te, (fi, ip, se, nt), nI 1), rfl, (by unfold mruV; dsimp only; rw [if_neg c_55]), ⟨by rw [ht]; exact hP9, hD9⟩⟩, hS.F ht⟩) hS.2.2 d_MD_rule_89
    · skip
      refine lv_iload_n hx hb d_MD_rule_20 rfl (lv_at hl 3 rfl) ?_
      refine lv_iconst (v := nI 1) hx hb d_MD_rule_21 (by decide +kernel) ?_
      refine lv_bipush (v := nI 40) hx hb d_MD_rule_22 (by decide +kernel) ?_
      refine vp_callSi (va_Run.run (va_runS (As := [.int z, .int (nI 1), .int (nI 40)]) (rest := []) ⟨hx, hb, hml, hown, hw⟩ (k_MD_within l D cI cJ z (nI 1) (nI 40)) (va_cwS 3 hw (gS kw_840 kw_841 kw_45 kw_842) rfl rfl rfl (by decide +kernel) ⟨Nat.le_of_ble_eq_true rfl, Nat.le_of_ble_eq_true rfl⟩) (pre_Sp (wc := []) hE hX hP hS [] rfl) rfl rfl hl.1 rfl (lv_room (Nat.le_of_ble_eq_true rfl)) d_MD_rule_24 ⟨Nat.le_of_ble_eq_true rfl, Nat.le_of_ble_eq_true rfl⟩)) (fun r_9 hr_9 => ?_)
      obtain rfl : nI (wiN z (nI 1) (nI 40)) = r_9 := hr_9.symm
      refine jn_if_eq (tgt := 47) (a := (wiN z (nI 1) (nI 40))) hx hb d_MD_rule_27 (by decide) (by have := wiN_le z (nI 1) (nI 40); omega) (fun c_27 => ?_) (fun c_27 => ?_)
      · skip
        refine lv_iconst (v := nI 0) hx hb d_MD_rule_47 (by decide +kernel) ?_
        refine lv_istore (lv' := [(5, .int (nI 0)), (0, .ref w0), (1, .int x), (2, .int v), (3, .int z), (4, .int w)]) hx hb d_MD_rule_48 hl (by decide) rfl (fun ls hl => ?_)
        refine lv_aload_n hx hb d_MD_rule_50 rfl (lv_at hl 1 rfl) ?_
        refine lv_aload_n hx hb d_MD_rule_51 rfl (lv_at hl 1 rfl) ?_
        refine va_get (D := D) (ci := 5) (v := .int nt) (C := R_MD) (T := T_MD) (N := 22) hx hb hw in_MD hown hE.1 hP 0 rfl rfl 7 (by decide) (hw _ kw_768) (fun _ h9 => h9) rfl d_MD_rule_52 ?_
        refine lv_if_le (tgt := 62) hx hb d_MD_rule_55 (by decide) (fun c_55 => ?_) (fun c_55 => ?_)
        · skip
          refine lv_iconst (v := nI 0) hx hb d_MD_rule_62 (by decide +kernel) ?_
          refine lv_iconst (v := nI 1) hx hb d_MD_rule_63 (by decide +kernel) ?_
          refine cl_i (wr := [(w1, .inl (cI, 100, .inl sg)), (w2, .inl (cI, 244, .inl gl)), (w3, .inl (cI, 1600, .inl fi)), (w4, .inl (cI, 1600, .inl ip)), (w5, .inl (cI, 1600, .inl se))]) (va_runV (As := [.int (nI 0), .int (nI 1)]) (rest := []) ⟨hx, hb, hml, hown, hw⟩ (k_MD_fails l D cI cJ w0 w1 w2 w3 w4 w5 w6 w7 w8 w9 w10 w11 w12 w13 w14 (nI y) te nt wb rc fp ft th 0 1 _ (by omega)) (cwV 2 hw (gV kw_836 kw_838 kw_20 kw_45 kw_839) rfl rfl rfl (by decide +kernel) ⟨Nat.le_of_ble_eq_true rfl, Nat.le_of_ble_eq_true rfl⟩) (pre_Vw (wc := [(w0, .inr (5, [.ref w1, .ref w2, .int (nI y), .int te, .ref w3, .ref w4, .ref w5, .int nt, .int wb, .ref w6, .ref w7, .ref w8, .int rc, .ref w9, .ref w10, .ref w11, .ref w12, .ref w13, .ref w14, .int fp, .int ft, .int th]))]) (q0 := 0) hE hX hA hP hD hS [0] (by decide) rfl rfl rfl rfl) rfl rfl hl.1 rfl (lv_room (Nat.le_of_ble_eq_true rfl)) d_MD_rule_64 ⟨Nat.le_of_ble_eq_true rfl, Nat.le_of_ble_eq_true rfl⟩) hP hD hS hA [0] [1, 2, 3, 4, 5] rfl rfl (by decide) (by decide) (fun r_10 u_r_10 H locs hr_10 hP hD hS => ?_)
          obtain rfl : nI 0 = r_10 := hr_10.symm
          have hP : va_P D vwCl [(w1, .inl (cI, 100, .inl sg)), (w2, .inl (cI, 244, .inl gl)), (w3, .inl (cI, 1600, .inl fi)), (w4, .inl (cI, 1600, .inl ip)), (w5, .inl (cI, 1600, .inl se)), (w0, .inr (5, [.ref w1, .ref w2, .int (nI y), .int te, .ref w3, .ref w4, .ref w5, .int nt, .int wb, .ref w6, .ref w7, .ref w8, .int rc, .ref w9, .ref w10, .ref w11, .ref w12, .ref w13, .ref w14, .int fp, .int ft, .int (nI (flN 0 1))]))] H := hP
          have hD : va_D A [(w1, .inl (cI, 100, .inl sg)), (w2, .inl (cI, 244, .inl gl)), (w3, .inl (cI, 1600, .inl fi)), (w4, .inl (cI, 1600, .inl ip)), (w5, .inl (cI, 1600, .inl se)), (w0, .inr (5, [.ref w1, .ref w2, .int (nI y), .int te, .ref w3, .ref w4, .ref w5, .int nt, .int wb, .ref w6, .ref w7, .ref w8, .int rc, .ref w9, .ref w10, .ref w11, .ref w12, .ref w13, .ref w14, .int fp, .int ft, .int (nI (flN 0 1))]))] := hD
          refine jn_if_ne (tgt := 88) (a := 0) hx hb d_MD_rule_67 (by decide) (by decide) (fun c9 => absurd c9 (by decide)) (fun _ => ?_)
          refine lv_aload_n hx hb d_MD_rule_70 rfl (lv_at hl 1 rfl) ?_
          refine lv_iload hx hb d_MD_rule_71 (lv_at hl 0 rfl) ?_
          refine jn_if_ne (tgt := 80) (a := 0) hx hb d_MD_rule_73 (by decide) (by decide) (fun c9 => absurd c9 (by decide)) (fun _ => ?_)
          refine lv_iconst (v := nI 1) hx hb d_MD_rule_76 (by decide +kernel) ?_
          refine lv_goto (tgt := 81) hx hb d_MD_rule_77 (by decide) ?_
          refine lv_iconst (v := nI 2) hx hb d_MD_rule_81 (by decide +kernel) ?_
          refine cl_i (wr := [(w1, .inl (cI, 100, .inl sg)), (w2, .inl (cI, 244, .inl gl)), (w3, .inl (cI, 1600, .inl fi)), (w4, .inl (cI, 1600, .inl ip)), (w5, .inl (cI, 1600, .inl se))]) (va_runV (As := [.int (nI 1), .int (nI 2)]) (rest := []) ⟨hx, hb, hml, hown, hw⟩ (k_MD_fails l D cI cJ w0 w1 w2 w3 w4 w5 w6 w7 w8 w9 w10 w11 w12 w13 w14 (nI y) te nt wb rc fp ft (nI (flN 0 1)) 1 2 _ (by omega)) (cwV 2 hw (gV kw_836 kw_838 kw_20 kw_45 kw_839) rfl rfl rfl (by decide +kernel) ⟨Nat.le_of_ble_eq_true rfl, Nat.le_of_ble_eq_true rfl⟩) (pre_Vw (wc := [(w0, .inr (5, [.ref w1, .ref w2, .int (nI y), .int te, .ref w3, .ref w4, .ref w5, .int nt, .int wb, .ref w6, .ref w7, .ref w8, .int rc, .ref w9, .ref w10, .ref w11, .ref w12, .ref w13, .ref w14, .int fp, .int ft, .int (nI (flN 0 1))]))]) (q0 := 0) hE hX hA hP hD hS [5] (by decide) rfl rfl rfl rfl) rfl rfl hl.1 rfl (lv_room (Nat.le_of_ble_eq_true rfl)) d_MD_rule_82 ⟨Nat.le_of_ble_eq_true rfl, Nat.le_of_ble_eq_true rfl⟩) hP hD hS hA [5] [0, 1, 2, 3, 4] rfl rfl (by decide) (by decide) (fun r_11 u_r_11 H locs hr_11 hP hD hS => ?_)
          obtain rfl : nI 1 = r_11 := hr_11.symm
          have hP : va_P D vwCl [(w1, .inl (cI, 100, .inl sg)), (w2, .inl (cI, 244, .inl gl)), (w3, .inl (cI, 1600, .inl fi)), (w4, .inl (cI, 1600, .inl ip)), (w5, .inl (cI, 1600, .inl se)), (w0, .inr (5, [.ref w1, .ref w2, .int (nI y), .int te, .ref w3, .ref w4, .ref w5, .int nt, .int wb, .ref w6, .ref w7, .ref w8, .int rc, .ref w9, .ref w10, .ref w11, .ref w12, .ref w13, .ref w14, .int fp, .int ft, .int (nI (flN 1 2))]))] H := hP
          have hD : va_D A [(w1, .inl (cI, 100, .inl sg)), (w2, .inl (cI, 244, .inl gl)), (w3, .inl (cI, 1600, .inl fi)), (w4, .inl (cI, 1600, .inl ip)), (w5, .inl (cI, 1600, .inl se)), (w0, .inr (5, [.ref w1, .ref w2, .int (nI y), .int te, .ref w3, .ref w4, .ref w5, .int nt, .int wb, .ref w6, .ref w7, .ref w8, .int rc, .ref w9, .ref w10, .ref w11, .ref w12, .ref w13, .ref w14, .int fp, .int ft, .int (nI (flN 1 2))]))] := hD
          refine jn_if_eq (tgt := 90) (a := 1) hx hb d_MD_rule_85 (by decide) (by decide) (fun c9 => absurd c9 (by decide)) (fun _ => ?_)
          refine lv_iconst (v := nI 0) hx hb d_MD_rule_88 (by decide +kernel) ?_
          have hP9 := hP.sub (ws' := [(w0, .inr (5, [.ref w1, .ref w2, .int (nI y), .int te, .ref w3, .ref w4, .ref w5, .int nt, .int wb, .ref w6, .ref w7, .ref w8, .int rc, .ref w9, .ref w10, .ref w11, .ref w12, .ref w13, .ref w14, .int fp, .int ft, .int (nI (flN 1 2))])), (w1, .inl (cI, 100, .inl sg)), (w2, .inl (cI, 244, .inl gl)), (w3, .inl (cI, 1600, .inl fi)), (w4, .inl (cI, 1600, .inl ip)), (w5, .inl (cI, 1600, .inl se))]) [5, 0, 1, 2, 3, 4] rfl
          have hD9 := hD.sub (ws' := [(w0, .inr (5, [.ref w1, .ref w2, .int (nI y), .int te, .ref w3, .ref w4, .ref w5, .int nt, .int wb, .ref w6, .ref w7, .ref w8, .int rc, .ref w9, .ref w10, .ref w11, .ref w12, .ref w13, .ref w14, .int fp, .int ft, .int (nI (flN 1 2))])), (w1, .inl (cI, 100, .inl sg)), (w2, .inl (cI, 244, .inl gl)), (w3, .inl (cI, 1600, .inl fi)), (w4, .inl (cI, 1600, .inl ip)), (w5, .inl (cI, 1600, .inl se))]) [5, 0, 1, 2, 3, 4] (by decide) rfl
          exact W.iret (v := nI 0) hx hb hr (fun t9 ht hW => ⟨⟨_, (sg, gl, y, te, (fi, ip, se, nt), nI 2), rfl, (by unfold mruV; dsimp only; rw [if_pos c_55, if_pos (show rrN x v z w = 0 from by unfold rrN; rw [if_neg c_7, if_neg c_17, if_pos c_27])]), ⟨by rw [ht]; exact hP9, hD9⟩⟩, hS.F ht⟩) hS.2.2 d_MD_rule_89
        · skip
          refine lv_iconst (v := nI 1) hx hb d_MD_rule_58 (by decide +kernel) ?_
          refine lv_goto (tgt := 63) hx hb d_MD_rule_59 (by decide) ?_
          refine lv_iconst (v := nI 1) hx hb d_MD_rule_63 (by decide +kernel) ?_
          refine cl_i (wr := [(w1, .inl (cI, 100, .inl sg)), (w2, .inl (cI, 244, .inl gl)), (w3, .inl (cI, 1600, .inl fi)), (w4, .inl (cI, 1600, .inl ip)), (w5, .inl (cI, 1600, .inl se))]) (va_runV (As := [.int (nI 1), .int (nI 1)]) (rest := []) ⟨hx, hb, hml, hown, hw⟩ (k_MD_fails l D cI cJ w0 w1 w2 w3 w4 w5 w6 w7 w8 w9 w10 w11 w12 w13 w14 (nI y) te nt wb rc fp ft th 1 1 _ (by omega)) (cwV 2 hw (gV kw_836 kw_838 kw_20 kw_45 kw_839) rfl rfl rfl (by decide +kernel) ⟨Nat.le_of_ble_eq_true rfl, Nat.le_of_ble_eq_true rfl⟩) (pre_Vw (wc := [(w0, .inr (5, [.ref w1, .ref w2, .int (nI y), .int te, .ref w3, .ref w4, .ref w5, .int nt, .int wb, .ref w6, .ref w7, .ref w8, .int rc, .ref w9, .ref w10, .ref w11, .ref w12, .ref w13, .ref w14, .int fp, .int ft, .int th]))]) (q0 := 0) hE hX hA hP hD hS [0] (by decide) rfl rfl rfl rfl) rfl rfl hl.1 rfl (lv_room (Nat.le_of_ble_eq_true rfl)) d_MD_rule_64 ⟨Nat.le_of_ble_eq_true rfl, Nat.le_of_ble_eq_true rfl⟩) hP hD hS hA [0] [1, 2, 3, 4, 5] rfl rfl (by decide) (by decide) (fun r_12 u_r_12 H locs hr_12 hP hD hS => ?_)
          obtain rfl : nI 1 = r_12 := hr_12.symm
          have hP : va_P D vwCl [(w1, .inl (cI, 100, .inl sg)), (w2, .inl (cI, 244, .inl gl)), (w3, .inl (cI, 1600, .inl fi)), (w4, .inl (cI, 1600, .inl ip)), (w5, .inl (cI, 1600, .inl se)), (w0, .inr (5, [.ref w1, .ref w2, .int (nI y), .int te, .ref w3, .ref w4, .ref w5, .int nt, .int wb, .ref w6, .ref w7, .ref w8, .int rc, .ref w9, .ref w10, .ref w11, .ref w12, .ref w13, .ref w14, .int fp, .int ft, .int (nI (flN 1 1))]))] H := hP
          have hD : va_D A [(w1, .inl (cI, 100, .inl sg)), (w2, .inl (cI, 244, .inl gl)), (w3, .inl (cI, 1600, .inl fi)), (w4, .inl (cI, 1600, .inl ip)), (w5, .inl (cI, 1600, .inl se)), (w0, .inr (5, [.ref w1, .ref w2, .int (nI y), .int te, .ref w3, .ref w4, .ref w5, .int nt, .int wb, .ref w6, .ref w7, .ref w8, .int rc, .ref w9, .ref w10, .ref w11, .ref w12, .ref w13, .ref w14, .int fp, .int ft, .int (nI (flN 1 1))]))] := hD
          refine jn_if_ne (tgt := 88) (a := 1) hx hb d_MD_rule_67 (by decide) (by decide) (fun _ => ?_) (fun c9 => absurd c9 (by decide))
          refine lv_iconst (v := nI 0) hx hb d_MD_rule_88 (by decide +kernel) ?_
          have hP9 := hP.sub (ws' := [(w0, .inr (5, [.ref w1, .ref w2, .int (nI y), .int te, .ref w3, .ref w4, .ref w5, .int nt, .int wb, .ref w6, .ref w7, .ref w8, .int rc, .ref w9, .ref w10, .ref w11, .ref w12, .ref w13, .ref w14, .int fp, .int ft, .int (nI (flN 1 1))])), (w1, .inl (cI, 100, .inl sg)), (w2, .inl (cI, 244, .inl gl)), (w3, .inl (cI, 1600, .inl fi)), (w4, .inl (cI, 1600, .inl ip)), (w5, .inl (cI, 1600, .inl se))]) [5, 0, 1, 2, 3, 4] rfl
          have hD9 := hD.sub (ws' := [(w0, .inr (5, [.ref w1, .ref w2, .int (nI y), .int te, .ref w3, .ref w4, .ref w5, .int nt, .int wb, .ref w6, .ref w7, .ref w8, .int rc, .ref w9, .ref w10, .ref w11, .ref w12, .ref w13, .ref w14, .int fp, .int ft, .int (nI (flN 1 1))])), (w1, .inl (cI, 100, .inl sg)), (w2, .inl (cI, 244, .inl gl)), (w3, .inl (cI, 1600, .inl fi)), (w4, .inl (cI, 1600, .inl ip)), (w5, .inl (cI, 1600, .inl se))]) [5, 0, 1, 2, 3, 4] (by decide) rfl
          exact W.iret (v := nI 0) hx hb hr (fun t9 ht hW => ⟨⟨_, (sg, gl, y, te, (fi, ip, se, nt), nI 1), rfl, (by unfold mruV; dsimp only; rw [if_neg c_55]), ⟨by rw [ht]; exact hP9, hD9⟩⟩, hS.F ht⟩) hS.2.2 d_MD_rule_89
      · skip
        refine lv_iload hx hb d_MD_rule_30 (lv_at hl 4 rfl) ?_
        refine lv_if_lt (tgt := 47) hx hb d_MD_rule_32 (by decide) (fun c_32 => ?_) (fun c_32 => ?_)
        · skip
          refine lv_iconst (v := nI 0) hx hb d_MD_rule_47 (by decide +kernel) ?_
          refine lv_istore (lv' := [(5, .int (nI 0)), (0, .ref w0), (1, .int x), (2, .int v), (3, .int z), (4, .int w)]) hx hb d_MD_rule_48 hl (by decide) rfl (fun ls hl => ?_)
          refine lv_aload_n hx hb d_MD_rule_50 rfl (lv_at hl 1 rfl) ?_
          refine lv_aload_n hx hb d_MD_rule_51 rfl (lv_at hl 1 rfl) ?_
          refine va_get (D := D) (ci := 5) (v := .int nt) (C := R_MD) (T := T_MD) (N := 22) hx hb hw in_MD hown hE.1 hP 0 rfl rfl 7 (by decide) (hw _ kw_768) (fun _ h9 => h9) rfl d_MD_rule_52 ?_
          refine lv_if_le (tgt := 62) hx hb d_MD_rule_55 (by decide) (fun c_55 => ?_) (fun c_55 => ?_)
          · skip
            refine lv_iconst (v := nI 0) hx hb d_MD_rule_62 (by decide +kernel) ?_
            refine lv_iconst (v := nI 1) hx hb d_MD_rule_63 (by decide +kernel) ?_
            refine cl_i (wr := [(w1, .inl (cI, 100, .inl sg)), (w2, .inl (cI, 244, .inl gl)), (w3, .inl (cI, 1600, .inl fi)), (w4, .inl (cI, 1600, .inl ip)), (w5, .inl (cI, 1600, .inl se))]) (va_runV (As := [.int (nI 0), .int (nI 1)]) (rest := []) ⟨hx, hb, hml, hown, hw⟩ (k_MD_fails l D cI cJ w0 w1 w2 w3 w4 w5 w6 w7 w8 w9 w10 w11 w12 w13 w14 (nI y) te nt wb rc fp ft th 0 1 _ (by omega)) (cwV 2 hw (gV kw_836 kw_838 kw_20 kw_45 kw_839) rfl rfl rfl (by decide +kernel) ⟨Nat.le_of_ble_eq_true rfl, Nat.le_of_ble_eq_true rfl⟩) (pre_Vw (wc := [(w0, .inr (5, [.ref w1, .ref w2, .int (nI y), .int te, .ref w3, .ref w4, .ref w5, .int nt, .int wb, .ref w6, .ref w7, .ref w8, .int rc, .ref w9, .ref w10, .ref w11, .ref w12, .ref w13, .ref w14, .int fp, .int ft, .int th]))]) (q0 := 0) hE hX hA hP hD hS [0] (by decide) rfl rfl rfl rfl) rfl rfl hl.1 rfl (lv_room (Nat.le_of_ble_eq_true rfl)) d_MD_rule_64 ⟨Nat.le_of_ble_eq_true rfl, Nat.le_of_ble_eq_true rfl⟩) hP hD hS hA [0] [1, 2, 3, 4, 5] rfl rfl (by decide) (by decide) (fun r_13 u_r_13 H locs hr_13 hP hD hS => ?_)
            obtain rfl : nI 0 = r_13 := hr_13.symm
            have hP : va_P D vwCl [(w1, .inl (cI, 100, .inl sg)), (w2, .inl (cI, 244, .inl gl)), (w3, .inl (cI, 1600, .inl fi)), (w4, .inl (cI, 1600, .inl ip)), (w5, .inl (cI, 1600, .inl se)), (w0, .inr (5, [.ref w1, .ref w2, .int (nI y), .int te, .ref w3, .ref w4, .ref w5, .int nt, .int wb, .ref w6, .ref w7, .ref w8, .int rc, .ref w9, .ref w10, .ref w11, .ref w12, .ref w13, .ref w14, .int fp, .int ft, .int (nI (flN 0 1))]))] H := hP
            have hD : va_D A [(w1, .inl (cI, 100, .inl sg)), (w2, .inl (cI, 244, .inl gl)), (w3, .inl (cI, 1600, .inl fi)), (w4, .inl (cI, 1600, .inl ip)), (w5, .inl (cI, 1600, .inl se)), (w0, .inr (5, [.ref w1, .ref w2, .int (nI y), .int te, .ref w3, .ref w4, .ref w5, .int nt, .int wb, .ref w6, .ref w7, .ref w8, .int rc, .ref w9, .ref w10, .ref w11, .ref w12, .ref w13, .ref w14, .int fp, .int ft, .int (nI (flN 0 1))]))] := hD
            refine jn_if_ne (tgt := 88) (a := 0) hx hb d_MD_rule_67 (by decide) (by decide) (fun c9 => absurd c9 (by decide)) (fun _ => ?_)
            refine lv_aload_n hx hb d_MD_rule_70 rfl (lv_at hl 1 rfl) ?_
            refine lv_iload hx hb d_MD_rule_71 (lv_at hl 0 rfl) ?_
            refine jn_if_ne (tgt := 80) (a := 0) hx hb d_MD_rule_73 (by decide) (by decide) (fun c9 => absurd c9 (by decide)) (fun _ => ?_)
            refine lv_iconst (v := nI 1) hx hb d_MD_rule_76 (by decide +kernel) ?_
            refine lv_goto (tgt := 81) hx hb d_MD_rule_77 (by decide) ?_
            refine lv_iconst (v := nI 2) hx hb d_MD_rule_81 (by decide +kernel) ?_
            refine cl_i (wr := [(w1, .inl (cI, 100, .inl sg)), (w2, .inl (cI, 244, .inl gl)), (w3, .inl (cI, 1600, .inl fi)), (w4, .inl (cI, 1600, .inl ip)), (w5, .inl (cI, 1600, .inl se))]) (va_runV (As := [.int (nI 1), .int (nI 2)]) (rest := []) ⟨hx, hb, hml, hown, hw⟩ (k_MD_fails l D cI cJ w0 w1 w2 w3 w4 w5 w6 w7 w8 w9 w10 w11 w12 w13 w14 (nI y) te nt wb rc fp ft (nI (flN 0 1)) 1 2 _ (by omega)) (cwV 2 hw (gV kw_836 kw_838 kw_20 kw_45 kw_839) rfl rfl rfl (by decide +kernel) ⟨Nat.le_of_ble_eq_true rfl, Nat.le_of_ble_eq_true rfl⟩) (pre_Vw (wc := [(w0, .inr (5, [.ref w1, .ref w2, .int (nI y), .int te, .ref w3, .ref w4, .ref w5, .int nt, .int wb, .ref w6, .ref w7, .ref w8, .int rc, .ref w9, .ref w10, .ref w11, .ref w12, .ref w13, .ref w14, .int fp, .int ft, .int (nI (flN 0 1))]))]) (q0 := 0) hE hX hA hP hD hS [5] (by decide) rfl rfl rfl rfl) rfl rfl hl.1 rfl (lv_room (Nat.le_of_ble_eq_true rfl)) d_MD_rule_82 ⟨Nat.le_of_ble_eq_true rfl, Nat.le_of_ble_eq_true rfl⟩) hP hD hS hA [5] [0, 1, 2, 3, 4] rfl rfl (by decide) (by decide) (fun r_14 u_r_14 H locs hr_14 hP hD hS => ?_)
            obtain rfl : nI 1 = r_14 := hr_14.symm
            have hP : va_P D vwCl [(w1, .inl (cI, 100, .inl sg)), (w2, .inl (cI, 244, .inl gl)), (w3, .inl (cI, 1600, .inl fi)), (w4, .inl (cI, 1600, .inl ip)), (w5, .inl (cI, 1600, .inl se)), (w0, .inr (5, [.ref w1, .ref w2, .int (nI y), .int te, .ref w3, .ref w4, .ref w5, .int nt, .int wb, .ref w6, .ref w7, .ref w8, .int rc, .ref w9, .ref w10, .ref w11, .ref w12, .ref w13, .ref w14, .int fp, .int ft, .int (nI (flN 1 2))]))] H := hP
            have hD : va_D A [(w1, .inl (cI, 100, .inl sg)), (w2, .inl (cI, 244, .inl gl)), (w3, .inl (cI, 1600, .inl fi)), (w4, .inl (cI, 1600, .inl ip)), (w5, .inl (cI, 1600, .inl se)), (w0, .inr (5, [.ref w1, .ref w2, .int (nI y), .int te, .ref w3, .ref w4, .ref w5, .int nt, .int wb, .ref w6, .ref w7, .ref w8, .int rc, .ref w9, .ref w10, .ref w11, .ref w12, .ref w13, .ref w14, .int fp, .int ft, .int (nI (flN 1 2))]))] := hD
            refine jn_if_eq (tgt := 90) (a := 1) hx hb d_MD_rule_85 (by decide) (by decide) (fun c9 => absurd c9 (by decide)) (fun _ => ?_)
            refine lv_iconst (v := nI 0) hx hb d_MD_rule_88 (by decide +kernel) ?_
            have hP9 := hP.sub (ws' := [(w0, .inr (5, [.ref w1, .ref w2, .int (nI y), .int te, .ref w3, .ref w4, .ref w5, .int nt, .int wb, .ref w6, .ref w7, .ref w8, .int rc, .ref w9, .ref w10, .ref w11, .ref w12, .ref w13, .ref w14, .int fp, .int ft, .int (nI (flN 1 2))])), (w1, .inl (cI, 100, .inl sg)), (w2, .inl (cI, 244, .inl gl)), (w3, .inl (cI, 1600, .inl fi)), (w4, .inl (cI, 1600, .inl ip)), (w5, .inl (cI, 1600, .inl se))]) [5, 0, 1, 2, 3, 4] rfl
            have hD9 := hD.sub (ws' := [(w0, .inr (5, [.ref w1, .ref w2, .int (nI y), .int te, .ref w3, .ref w4, .ref w5, .int nt, .int wb, .ref w6, .ref w7, .ref w8, .int rc, .ref w9, .ref w10, .ref w11, .ref w12, .ref w13, .ref w14, .int fp, .int ft, .int (nI (flN 1 2))])), (w1, .inl (cI, 100, .inl sg)), (w2, .inl (cI, 244, .inl gl)), (w3, .inl (cI, 1600, .inl fi)), (w4, .inl (cI, 1600, .inl ip)), (w5, .inl (cI, 1600, .inl se))]) [5, 0, 1, 2, 3, 4] (by decide) rfl
            exact W.iret (v := nI 0) hx hb hr (fun t9 ht hW => ⟨⟨_, (sg, gl, y, te, (fi, ip, se, nt), nI 2), rfl, (by unfold mruV; dsimp only; rw [if_pos c_55, if_pos (show rrN x v z w = 0 from by unfold rrN; rw [if_neg c_7, if_neg c_17, if_neg c_27, if_pos c_32])]), ⟨by rw [ht]; exact hP9, hD9⟩⟩, hS.F ht⟩) hS.2.2 d_MD_rule_89
          · skip
            refine lv_iconst (v := nI 1) hx hb d_MD_rule_58 (by decide +kernel) ?_
            refine lv_goto (tgt := 63) hx hb d_MD_rule_59 (by decide) ?_
            refine lv_iconst (v := nI 1) hx hb d_MD_rule_63 (by decide +kernel) ?_
            refine cl_i (wr := [(w1, .inl (cI, 100, .inl sg)), (w2, .inl (cI, 244, .inl gl)), (w3, .inl (cI, 1600, .inl fi)), (w4, .inl (cI, 1600, .inl ip)), (w5, .inl (cI, 1600, .inl se))]) (va_runV (As := [.int (nI 1), .int (nI 1)]) (rest := []) ⟨hx, hb, hml, hown, hw⟩ (k_MD_fails l D cI cJ w0 w1 w2 w3 w4 w5 w6 w7 w8 w9 w10 w11 w12 w13 w14 (nI y) te nt wb rc fp ft th 1 1 _ (by omega)) (cwV 2 hw (gV kw_836 kw_838 kw_20 kw_45 kw_839) rfl rfl rfl (by decide +kernel) ⟨Nat.le_of_ble_eq_true rfl, Nat.le_of_ble_eq_true rfl⟩) (pre_Vw (wc := [(w0, .inr (5, [.ref w1, .ref w2, .int (nI y), .int te, .ref w3, .ref w4, .ref w5, .int nt, .int wb, .ref w6, .ref w7, .ref w8, .int rc, .ref w9, .ref w10, .ref w11, .ref w12, .ref w13, .ref w14, .int fp, .int ft, .int th]))]) (q0 := 0) hE hX hA hP hD hS [0] (by decide) rfl rfl rfl rfl) rfl rfl hl.1 rfl (lv_room (Nat.le_of_ble_eq_true rfl)) d_MD_rule_64 ⟨Nat.le_of_ble_eq_true rfl, Nat.le_of_ble_eq_true rfl⟩) hP hD hS hA [0] [1, 2, 3, 4, 5] rfl rfl (by decide) (by decide) (fun r_15 u_r_15 H locs hr_15 hP hD hS => ?_)
            obtain rfl : nI 1 = r_15 := hr_15.symm
            have hP : va_P D vwCl [(w1, .inl (cI, 100, .inl sg)), (w2, .inl (cI, 244, .inl gl)), (w3, .inl (cI, 1600, .inl fi)), (w4, .inl (cI, 1600, .inl ip)), (w5, .inl (cI, 1600, .inl se)), (w0, .inr (5, [.ref w1, .ref w2, .int (nI y), .int te, .ref w3, .ref w4, .ref w5, .int nt, .int wb, .ref w6, .ref w7, .ref w8, .int rc, .ref w9, .ref w10, .ref w11, .ref w12, .ref w13, .ref w14, .int fp, .int ft, .int (nI (flN 1 1))]))] H := hP
            have hD : va_D A [(w1, .inl (cI, 100, .inl sg)), (w2, .inl (cI, 244, .inl gl)), (w3, .inl (cI, 1600, .inl fi)), (w4, .inl (cI, 1600, .inl ip)), (w5, .inl (cI, 1600, .inl se)), (w0, .inr (5, [.ref w1, .ref w2, .int (nI y), .int te, .ref w3, .ref w4, .ref w5, .int nt, .int wb, .ref w6, .ref w7, .ref w8, .int rc, .ref w9, .ref w10, .ref w11, .ref w12, .ref w13, .ref w14, .int fp, .int ft, .int (nI (flN 1 1))]))] := hD
            refine jn_if_ne (tgt := 88) (a := 1) hx hb d_MD_rule_67 (by decide) (by decide) (fun _ => ?_) (fun c9 => absurd c9 (by decide))
            refine lv_iconst (v := nI 0) hx hb d_MD_rule_88 (by decide +kernel) ?_
            have hP9 := hP.sub (ws' := [(w0, .inr (5, [.ref w1, .ref w2, .int (nI y), .int te, .ref w3, .ref w4, .ref w5, .int nt, .int wb, .ref w6, .ref w7, .ref w8, .int rc, .ref w9, .ref w10, .ref w11, .ref w12, .ref w13, .ref w14, .int fp, .int ft, .int (nI (flN 1 1))])), (w1, .inl (cI, 100, .inl sg)), (w2, .inl (cI, 244, .inl gl)), (w3, .inl (cI, 1600, .inl fi)), (w4, .inl (cI, 1600, .inl ip)), (w5, .inl (cI, 1600, .inl se))]) [5, 0, 1, 2, 3, 4] rfl
            have hD9 := hD.sub (ws' := [(w0, .inr (5, [.ref w1, .ref w2, .int (nI y), .int te, .ref w3, .ref w4, .ref w5, .int nt, .int wb, .ref w6, .ref w7, .ref w8, .int rc, .ref w9, .ref w10, .ref w11, .ref w12, .ref w13, .ref w14, .int fp, .int ft, .int (nI (flN 1 1))])), (w1, .inl (cI, 100, .inl sg)), (w2, .inl (cI, 244, .inl gl)), (w3, .inl (cI, 1600, .inl fi)), (w4, .inl (cI, 1600, .inl ip)), (w5, .inl (cI, 1600, .inl se))]) [5, 0, 1, 2, 3, 4] (by decide) rfl
            exact W.iret (v := nI 0) hx hb hr (fun t9 ht hW => ⟨⟨_, (sg, gl, y, te, (fi, ip, se, nt), nI 1), rfl, (by unfold mruV; dsimp only; rw [if_neg c_55]), ⟨by rw [ht]; exact hP9, hD9⟩⟩, hS.F ht⟩) hS.2.2 d_MD_rule_89
        · skip
          refine lv_iload hx hb d_MD_rule_35 (lv_at hl 4 rfl) ?_
          refine lv_iconst (v := nI 1) hx hb d_MD_rule_37 (by decide +kernel) ?_
          refine lv_iload_n hx hb d_MD_rule_38 rfl (lv_at hl 1 rfl) ?_
          refine lv_ishl hx hb d_MD_rule_39 ?_
          refine lv_icmp_ge (tgt := 47) hx hb d_MD_rule_40 (by decide) (fun c_40 => ?_) (fun c_40 => ?_)
          · skip
            refine lv_iconst (v := nI 0) hx hb d_MD_rule_47 (by decide +kernel) ?_
            refine lv_istore (lv' := [(5, .int (nI 0)), (0, .ref w0), (1, .int x), (2, .int v), (3, .int z), (4, .int w)]) hx hb d_MD_rule_48 hl (by decide) rfl (fun ls hl => ?_)
            refine lv_aload_n hx hb d_MD_rule_50 rfl (lv_at hl 1 rfl) ?_
            refine lv_aload_n hx hb d_MD_rule_51 rfl (lv_at hl 1 rfl) ?_
            refine va_get (D := D) (ci := 5) (v := .int nt) (C := R_MD) (T := T_MD) (N := 22) hx hb hw in_MD hown hE.1 hP 0 rfl rfl 7 (by decide) (hw _ kw_768) (fun _ h9 => h9) rfl d_MD_rule_52 ?_
            refine lv_if_le (tgt := 62) hx hb d_MD_rule_55 (by decide) (fun c_55 => ?_) (fun c_55 => ?_)
            · skip
              refine lv_iconst (v := nI 0) hx hb d_MD_rule_62 (by decide +kernel) ?_
              refine lv_iconst (v := nI 1) hx hb d_MD_rule_63 (by decide +kernel) ?_
              refine cl_i (wr := [(w1, .inl (cI, 100, .inl sg)), (w2, .inl (cI, 244, .inl gl)), (w3, .inl (cI, 1600, .inl fi)), (w4, .inl (cI, 1600, .inl ip)), (w5, .inl (cI, 1600, .inl se))]) (va_runV (As := [.int (nI 0), .int (nI 1)]) (rest := []) ⟨hx, hb, hml, hown, hw⟩ (k_MD_fails l D cI cJ w0 w1 w2 w3 w4 w5 w6 w7 w8 w9 w10 w11 w12 w13 w14 (nI y) te nt wb rc fp ft th 0 1 _ (by omega)) (cwV 2 hw (gV kw_836 kw_838 kw_20 kw_45 kw_839) rfl rfl rfl (by decide +kernel) ⟨Nat.le_of_ble_eq_true rfl, Nat.le_of_ble_eq_true rfl⟩) (pre_Vw (wc := [(w0, .inr (5, [.ref w1, .ref w2, .int (nI y), .int te, .ref w3, .ref w4, .ref w5, .int nt, .int wb, .ref w6, .ref w7, .ref w8, .int rc, .ref w9, .ref w10, .ref w11, .ref w12, .ref w13, .ref w14, .int fp, .int ft, .int th]))]) (q0 := 0) hE hX hA hP hD hS [0] (by decide) rfl rfl rfl rfl) rfl rfl hl.1 rfl (lv_room (Nat.le_of_ble_eq_true rfl)) d_MD_rule_64 ⟨Nat.le_of_ble_eq_true rfl, Nat.le_of_ble_eq_true rfl⟩) hP hD hS hA [0] [1, 2, 3, 4, 5] rfl rfl (by decide) (by decide) (fun r_16 u_r_16 H locs hr_16 hP hD hS => ?_)
              obtain rfl : nI 0 = r_16 := hr_16.symm
              have hP : va_P D vwCl [(w1, .inl (cI, 100, .inl sg)), (w2, .inl (cI, 244, .inl gl)), (w3, .inl (cI, 1600, .inl fi)), (w4, .inl (cI, 1600, .inl ip)), (w5, .inl (cI, 1600, .inl se)), (w0, .inr (5, [.ref w1, .ref w2, .int (nI y), .int te, .ref w3, .ref w4, .ref w5, .int nt, .int wb, .ref w6, .ref w7, .ref w8, .int rc, .ref w9, .ref w10, .ref w11, .ref w12, .ref w13, .ref w14, .int fp, .int ft, .int (nI (flN 0 1))]))] H := hP
              have hD : va_D A [(w1, .inl (cI, 100, .inl sg)), (w2, .inl (cI, 244, .inl gl)), (w3, .inl (cI, 1600, .inl fi)), (w4, .inl (cI, 1600, .inl ip)), (w5, .inl (cI, 1600, .inl se)), (w0, .inr (5, [.ref w1, .ref w2, .int (nI y), .int te, .ref w3, .ref w4, .ref w5, .int nt, .int wb, .ref w6, .ref w7, .ref w8, .int rc, .ref w9, .ref w10, .ref w11, .ref w12, .ref w13, .ref w14, .int fp, .int ft, .int (nI (flN 0 1))]))] := hD
              refine jn_if_ne (tgt := 88) (a := 0) hx hb d_MD_rule_67 (by decide) (by decide) (fun c9 => absurd c9 (by decide)) (fun _ => ?_)
              refine lv_aload_n hx hb d_MD_rule_70 rfl (lv_at hl 1 rfl) ?_
              refine lv_iload hx hb d_MD_rule_71 (lv_at hl 0 rfl) ?_
              refine jn_if_ne (tgt := 80) (a := 0) hx hb d_MD_rule_73 (by decide) (by decide) (fun c9 => absurd c9 (by decide)) (fun _ => ?_)
              refine lv_iconst (v := nI 1) hx hb d_MD_rule_76 (by decide +kernel) ?_
              refine lv_goto (tgt := 81) hx hb d_MD_rule_77 (by decide) ?_
              refine lv_iconst (v := nI 2) hx hb d_MD_rule_81 (by decide +kernel) ?_
              refine cl_i (wr := [(w1, .inl (cI, 100, .inl sg)), (w2, .inl (cI, 244, .inl gl)), (w3, .inl (cI, 1600, .inl fi)), (w4, .inl (cI, 1600, .inl ip)), (w5, .inl (cI, 1600, .inl se))]) (va_runV (As := [.int (nI 1), .int (nI 2)]) (rest := []) ⟨hx, hb, hml, hown, hw⟩ (k_MD_fails l D cI cJ w0 w1 w2 w3 w4 w5 w6 w7 w8 w9 w10 w11 w12 w13 w14 (nI y) te nt wb rc fp ft (nI (flN 0 1)) 1 2 _ (by omega)) (cwV 2 hw (gV kw_836 kw_838 kw_20 kw_45 kw_839) rfl rfl rfl (by decide +kernel) ⟨Nat.le_of_ble_eq_true rfl, Nat.le_of_ble_eq_true rfl⟩) (pre_Vw (wc := [(w0, .inr (5, [.ref w1, .ref w2, .int (nI y), .int te, .ref w3, .ref w4, .ref w5, .int nt, .int wb, .ref w6, .ref w7, .ref w8, .int rc, .ref w9, .ref w10, .ref w11, .ref w12, .ref w13, .ref w14, .int fp, .int ft, .int (nI (flN 0 1))]))]) (q0 := 0) hE hX hA hP hD hS [5] (by decide) rfl rfl rfl rfl) rfl rfl hl.1 rfl (lv_room (Nat.le_of_ble_eq_true rfl)) d_MD_rule_82 ⟨Nat.le_of_ble_eq_true rfl, Nat.le_of_ble_eq_true rfl⟩) hP hD hS hA [5] [0, 1, 2, 3, 4] rfl rfl (by decide) (by decide) (fun r_17 u_r_17 H locs hr_17 hP hD hS => ?_)
              obtain rfl : nI 1 = r_17 := hr_17.symm
              have hP : va_P D vwCl [(w1, .inl (cI, 100, .inl sg)), (w2, .inl (cI, 244, .inl gl)), (w3, .inl (cI, 1600, .inl fi)), (w4, .inl (cI, 1600, .inl ip)), (w5, .inl (cI, 1600, .inl se)), (w0, .inr (5, [.ref w1, .ref w2, .int (nI y), .int te, .ref w3, .ref w4, .ref w5, .int nt, .int wb, .ref w6, .ref w7, .ref w8, .int rc, .ref w9, .ref w10, .ref w11, .ref w12, .ref w13, .ref w14, .int fp, .int ft, .int (nI (flN 1 2))]))] H := hP
              have hD : va_D A [(w1, .inl (cI, 100, .inl sg)), (w2, .inl (cI, 244, .inl gl)), (w3, .inl (cI, 1600, .inl fi)), (w4, .inl (cI, 1600, .inl ip)), (w5, .inl (cI, 1600, .inl se)), (w0, .inr (5, [.ref w1, .ref w2, .int (nI y), .int te, .ref w3, .ref w4, .ref w5, .int nt, .int wb, .ref w6, .ref w7, .ref w8, .int rc, .ref w9, .ref w10, .ref w11, .ref w12, .ref w13, .ref w14, .int fp, .int ft, .int (nI (flN 1 2))]))] := hD
              refine jn_if_eq (tgt := 90) (a := 1) hx hb d_MD_rule_85 (by decide) (by decide) (fun c9 => absurd c9 (by decide)) (fun _ => ?_)
              refine lv_iconst (v := nI 0) hx hb d_MD_rule_88 (by decide +kernel) ?_
              have hP9 := hP.sub (ws' := [(w0, .inr (5, [.ref w1, .ref w2, .int (nI y), .int te, .ref w3, .ref w4, .ref w5, .int nt, .int wb, .ref w6, .ref w7, .ref w8, .int rc, .ref w9, .ref w10, .ref w11, .ref w12, .ref w13, .ref w14, .int fp, .int ft, .int (nI (flN 1 2))])), (w1, .inl (cI, 100, .inl sg)), (w2, .inl (cI, 244, .inl gl)), (w3, .inl (cI, 1600, .inl fi)), (w4, .inl (cI, 1600, .inl ip)), (w5, .inl (cI, 1600, .inl se))]) [5, 0, 1, 2, 3, 4] rfl
              have hD9 := hD.sub (ws' := [(w0, .inr (5, [.ref w1, .ref w2, .int (nI y), .int te, .ref w3, .ref w4, .ref w5, .int nt, .int wb, .ref w6, .ref w7, .ref w8, .int rc, .ref w9, .ref w10, .ref w11, .ref w12, .ref w13, .ref w14, .int fp, .int ft, .int (nI (flN 1 2))])), (w1, .inl (cI, 100, .inl sg)), (w2, .inl (cI, 244, .inl gl)), (w3, .inl (cI, 1600, .inl fi)), (w4, .inl (cI, 1600, .inl ip)), (w5, .inl (cI, 1600, .inl se))]) [5, 0, 1, 2, 3, 4] (by decide) rfl
              exact W.iret (v := nI 0) hx hb hr (fun t9 ht hW => ⟨⟨_, (sg, gl, y, te, (fi, ip, se, nt), nI 2), rfl, (by unfold mruV; dsimp only; rw [if_pos c_55, if_pos (show rrN x v z w = 0 from by unfold rrN; rw [if_neg c_7, if_neg c_17, if_neg c_27, if_neg c_32, if_pos c_40])]), ⟨by rw [ht]; exact hP9, hD9⟩⟩, hS.F ht⟩) hS.2.2 d_MD_rule_89
            · skip
              refine lv_iconst (v := nI 1) hx hb d_MD_rule_58 (by decide +kernel) ?_
              refine lv_goto (tgt := 63) hx hb d_MD_rule_59 (by decide) ?_
              refine lv_iconst (v := nI 1) hx hb d_MD_rule_63 (by decide +kernel) ?_
              refine cl_i (wr := [(w1, .inl (cI, 100, .inl sg)), (w2, .inl (cI, 244, .inl gl)), (w3, .inl (cI, 1600, .inl fi)), (w4, .inl (cI, 1600, .inl ip)), (w5, .inl (cI, 1600, .inl se))]) (va_runV (As := [.int (nI 1), .int (nI 1)]) (rest := []) ⟨hx, hb, hml, hown, hw⟩ (k_MD_fails l D cI cJ w0 w1 w2 w3 w4 w5 w6 w7 w8 w9 w10 w11 w12 w13 w14 (nI y) te nt wb rc fp ft th 1 1 _ (by omega)) (cwV 2 hw (gV kw_836 kw_838 kw_20 kw_45 kw_839) rfl rfl rfl (by decide +kernel) ⟨Nat.le_of_ble_eq_true rfl, Nat.le_of_ble_eq_true rfl⟩) (pre_Vw (wc := [(w0, .inr (5, [.ref w1, .ref w2, .int (nI y), .int te, .ref w3, .ref w4, .ref w5, .int nt, .int wb, .ref w6, .ref w7, .ref w8, .int rc, .ref w9, .ref w10, .ref w11, .ref w12, .ref w13, .ref w14, .int fp, .int ft, .int th]))]) (q0 := 0) hE hX hA hP hD hS [0] (by decide) rfl rfl rfl rfl) rfl rfl hl.1 rfl (lv_room (Nat.le_of_ble_eq_true rfl)) d_MD_rule_64 ⟨Nat.le_of_ble_eq_true rfl, Nat.le_of_ble_eq_true rfl⟩) hP hD hS hA [0] [1, 2, 3, 4, 5] rfl rfl (by decide) (by decide) (fun r_18 u_r_18 H locs hr_18 hP hD hS => ?_)
              obtain rfl : nI 1 = r_18 := hr_18.symm
              have hP : va_P D vwCl [(w1, .inl (cI, 100, .inl sg)), (w2, .inl (cI, 244, .inl gl)), (w3, .inl (cI, 1600, .inl fi)), (w4, .inl (cI, 1600, .inl ip)), (w5, .inl (cI, 1600, .inl se)), (w0, .inr (5, [.ref w1, .ref w2, .int (nI y), .int te, .ref w3, .ref w4, .ref w5, .int nt, .int wb, .ref w6, .ref w7, .ref w8, .int rc, .ref w9, .ref w10, .ref w11, .ref w12, .ref w13, .ref w14, .int fp, .int ft, .int (nI (flN 1 1))]))] H := hP
              have hD : va_D A [(w1, .inl (cI, 100, .inl sg)), (w2, .inl (cI, 244, .inl gl)), (w3, .inl (cI, 1600, .inl fi)), (w4, .inl (cI, 1600, .inl ip)), (w5, .inl (cI, 1600, .inl se)), (w0, .inr (5, [.ref w1, .ref w2, .int (nI y), .int te, .ref w3, .ref w4, .ref w5, .int nt, .int wb, .ref w6, .ref w7, .ref w8, .int rc, .ref w9, .ref w10, .ref w11, .ref w12, .ref w13, .ref w14, .int fp, .int ft, .int (nI (flN 1 1))]))] := hD
              refine jn_if_ne (tgt := 88) (a := 1) hx hb d_MD_rule_67 (by decide) (by decide) (fun _ => ?_) (fun c9 => absurd c9 (by decide))
              refine lv_iconst (v := nI 0) hx hb d_MD_rule_88 (by decide +kernel) ?_
              have hP9 := hP.sub (ws' := [(w0, .inr (5, [.ref w1, .ref w2, .int (nI y), .int te, .ref w3, .ref w4, .ref w5, .int nt, .int wb, .ref w6, .ref w7, .ref w8, .int rc, .ref w9, .ref w10, .ref w11, .ref w12, .ref w13, .ref w14, .int fp, .int ft, .int (nI (flN 1 1))])), (w1, .inl (cI, 100, .inl sg)), (w2, .inl (cI, 244, .inl gl)), (w3, .inl (cI, 1600, .inl fi)), (w4, .inl (cI, 1600, .inl ip)), (w5, .inl (cI, 1600, .inl se))]) [5, 0, 1, 2, 3, 4] rfl
              have hD9 := hD.sub (ws' := [(w0, .inr (5, [.ref w1, .ref w2, .int (nI y), .int te, .ref w3, .ref w4, .ref w5, .int nt, .int wb, .ref w6, .ref w7, .ref w8, .int rc, .ref w9, .ref w10, .ref w11, .ref w12, .ref w13, .ref w14, .int fp, .int ft, .int (nI (flN 1 1))])), (w1, .inl (cI, 100, .inl sg)), (w2, .inl (cI, 244, .inl gl)), (w3, .inl (cI, 1600, .inl fi)), (w4, .inl (cI, 1600, .inl ip)), (w5, .inl (cI, 1600, .inl se))]) [5, 0, 1, 2, 3, 4] (by decide) rfl
              exact W.iret (v := nI 0) hx hb hr (fun t9 ht hW => ⟨⟨_, (sg, gl, y, te, (fi, ip, se, nt), nI 1), rfl, (by unfold mruV; dsimp only; rw [if_neg c_55]), ⟨by rw [ht]; exact hP9, hD9⟩⟩, hS.F ht⟩) hS.2.2 d_MD_rule_89
          · skip
            refine lv_iconst (v := nI 1) hx hb d_MD_rule_43 (by decide +kernel) ?_
            refine lv_goto (tgt := 48) hx hb d_MD_rule_44 (by decide) ?_
            refine lv_istore (lv' := [(5, .int (nI 1)), (0, .ref w0), (1, .int x), (2, .int v), (3, .int z), (4, .int w)]) hx hb d_MD_rule_48 hl (by decide) rfl (fun ls hl => ?_)
            refine lv_aload_n hx hb d_MD_rule_50 rfl (lv_at hl 1 rfl) ?_
            refine lv_aload_n hx hb d_MD_rule_51 rfl (lv_at hl 1 rfl) ?_
            refine va_get (D := D) (ci := 5) (v := .int nt) (C := R_MD) (T := T_MD) (N := 22) hx hb hw in_MD hown hE.1 hP 0 rfl rfl 7 (by decide) (hw _ kw_768) (fun _ h9 => h9) rfl d_MD_rule_52 ?_
            refine lv_if_le (tgt := 62) hx hb d_MD_rule_55 (by decide) (fun c_55 => ?_) (fun c_55 => ?_)
            · skip
              refine lv_iconst (v := nI 0) hx hb d_MD_rule_62 (by decide +kernel) ?_
              refine lv_iconst (v := nI 1) hx hb d_MD_rule_63 (by decide +kernel) ?_
              refine cl_i (wr := [(w1, .inl (cI, 100, .inl sg)), (w2, .inl (cI, 244, .inl gl)), (w3, .inl (cI, 1600, .inl fi)), (w4, .inl (cI, 1600, .inl ip)), (w5, .inl (cI, 1600, .inl se))]) (va_runV (As := [.int (nI 0), .int (nI 1)]) (rest := []) ⟨hx, hb, hml, hown, hw⟩ (k_MD_fails l D cI cJ w0 w1 w2 w3 w4 w5 w6 w7 w8 w9 w10 w11 w12 w13 w14 (nI y) te nt wb rc fp ft th 0 1 _ (by omega)) (cwV 2 hw (gV kw_836 kw_838 kw_20 kw_45 kw_839) rfl rfl rfl (by decide +kernel) ⟨Nat.le_of_ble_eq_true rfl, Nat.le_of_ble_eq_true rfl⟩) (pre_Vw (wc := [(w0, .inr (5, [.ref w1, .ref w2, .int (nI y), .int te, .ref w3, .ref w4, .ref w5, .int nt, .int wb, .ref w6, .ref w7, .ref w8, .int rc, .ref w9, .ref w10, .ref w11, .ref w12, .ref w13, .ref w14, .int fp, .int ft, .int th]))]) (q0 := 0) hE hX hA hP hD hS [0] (by decide) rfl rfl rfl rfl) rfl rfl hl.1 rfl (lv_room (Nat.le_of_ble_eq_true rfl)) d_MD_rule_64 ⟨Nat.le_of_ble_eq_true rfl, Nat.le_of_ble_eq_true rfl⟩) hP hD hS hA [0] [1, 2, 3, 4, 5] rfl rfl (by decide) (by decide) (fun r_19 u_r_19 H locs hr_19 hP hD hS => ?_)
              obtain rfl : nI 0 = r_19 := hr_19.symm
              have hP : va_P D vwCl [(w1, .inl (cI, 100, .inl sg)), (w2, .inl (cI, 244, .inl gl)), (w3, .inl (cI, 1600, .inl fi)), (w4, .inl (cI, 1600, .inl ip)), (w5, .inl (cI, 1600, .inl se)), (w0, .inr (5, [.ref w1, .ref w2, .int (nI y), .int te, .ref w3, .ref w4, .ref w5, .int nt, .int wb, .ref w6, .ref w7, .ref w8, .int rc, .ref w9, .ref w10, .ref w11, .ref w12, .ref w13, .ref w14, .int fp, .int ft, .int (nI (flN 0 1))]))] H := hP
              have hD : va_D A [(w1, .inl (cI, 100, .inl sg)), (w2, .inl (cI, 244, .inl gl)), (w3, .inl (cI, 1600, .inl fi)), (w4, .inl (cI, 1600, .inl ip)), (w5, .inl (cI, 1600, .inl se)), (w0, .inr (5, [.ref w1, .ref w2, .int (nI y), .int te, .ref w3, .ref w4, .ref w5, .int nt, .int wb, .ref w6, .ref w7, .ref w8, .int rc, .ref w9, .ref w10, .ref w11, .ref w12, .ref w13, .ref w14, .int fp, .int ft, .int (nI (flN 0 1))]))] := hD
              refine jn_if_ne (tgt := 88) (a := 0) hx hb d_MD_rule_67 (by decide) (by decide) (fun c9 => absurd c9 (by decide)) (fun _ => ?_)
              refine lv_aload_n hx hb d_MD_rule_70 rfl (lv_at hl 1 rfl) ?_
              refine lv_iload hx hb d_MD_rule_71 (lv_at hl 0 rfl) ?_
              refine jn_if_ne (tgt := 80) (a := 1) hx hb d_MD_rule_73 (by decide) (by decide) (fun _ => ?_) (fun c9 => absurd c9 (by decide))
              refine lv_iconst (v := nI 0) hx hb d_MD_rule_80 (by decide +kernel) ?_
              refine lv_iconst (v := nI 2) hx hb d_MD_rule_81 (by decide +kernel) ?_
              refine cl_i (wr := [(w1, .inl (cI, 100, .inl sg)), (w2, .inl (cI, 244, .inl gl)), (w3, .inl (cI, 1600, .inl fi)), (w4, .inl (cI, 1600, .inl ip)), (w5, .inl (cI, 1600, .inl se))]) (va_runV (As := [.int (nI 0), .int (nI 2)]) (rest := []) ⟨hx, hb, hml, hown, hw⟩ (k_MD_fails l D cI cJ w0 w1 w2 w3 w4 w5 w6 w7 w8 w9 w10 w11 w12 w13 w14 (nI y) te nt wb rc fp ft (nI (flN 0 1)) 0 2 _ (by omega)) (cwV 2 hw (gV kw_836 kw_838 kw_20 kw_45 kw_839) rfl rfl rfl (by decide +kernel) ⟨Nat.le_of_ble_eq_true rfl, Nat.le_of_ble_eq_true rfl⟩) (pre_Vw (wc := [(w0, .inr (5, [.ref w1, .ref w2, .int (nI y), .int te, .ref w3, .ref w4, .ref w5, .int nt, .int wb, .ref w6, .ref w7, .ref w8, .int rc, .ref w9, .ref w10, .ref w11, .ref w12, .ref w13, .ref w14, .int fp, .int ft, .int (nI (flN 0 1))]))]) (q0 := 0) hE hX hA hP hD hS [5] (by decide) rfl rfl rfl rfl) rfl rfl hl.1 rfl (lv_room (Nat.le_of_ble_eq_true rfl)) d_MD_rule_82 ⟨Nat.le_of_ble_eq_true rfl, Nat.le_of_ble_eq_true rfl⟩) hP hD hS hA [5] [0, 1, 2, 3, 4] rfl rfl (by decide) (by decide) (fun r_20 u_r_20 H locs hr_20 hP hD hS => ?_)
              obtain rfl : nI 0 = r_20 := hr_20.symm
              have hP : va_P D vwCl [(w1, .inl (cI, 100, .inl sg)), (w2, .inl (cI, 244, .inl gl)), (w3, .inl (cI, 1600, .inl fi)), (w4, .inl (cI, 1600, .inl ip)), (w5, .inl (cI, 1600, .inl se)), (w0, .inr (5, [.ref w1, .ref w2, .int (nI y), .int te, .ref w3, .ref w4, .ref w5, .int nt, .int wb, .ref w6, .ref w7, .ref w8, .int rc, .ref w9, .ref w10, .ref w11, .ref w12, .ref w13, .ref w14, .int fp, .int ft, .int (nI (flN 0 2))]))] H := hP
              have hD : va_D A [(w1, .inl (cI, 100, .inl sg)), (w2, .inl (cI, 244, .inl gl)), (w3, .inl (cI, 1600, .inl fi)), (w4, .inl (cI, 1600, .inl ip)), (w5, .inl (cI, 1600, .inl se)), (w0, .inr (5, [.ref w1, .ref w2, .int (nI y), .int te, .ref w3, .ref w4, .ref w5, .int nt, .int wb, .ref w6, .ref w7, .ref w8, .int rc, .ref w9, .ref w10, .ref w11, .ref w12, .ref w13, .ref w14, .int fp, .int ft, .int (nI (flN 0 2))]))] := hD
              refine jn_if_eq (tgt := 90) (a := 0) hx hb d_MD_rule_85 (by decide) (by decide) (fun _ => ?_) (fun c9 => absurd c9 (by decide))
              obtain ⟨a9, hk1, hk2, rfl⟩ := wiN_nat c_7 (by decide) (by decide)
              obtain ⟨b9, hj1, hj2, rfl⟩ := wiN_nat c_27 (by decide) (by decide)
              refine lv_aload_n hx hb d_MD_rule_90 rfl (lv_at hl 1 rfl) ?_
              refine cl_v (wr := [(w3, .inl (cI, 1600, .inl fi)), (w4, .inl (cI, 1600, .inl ip)), (w5, .inl (cI, 1600, .inl se))]) (va_runV (As := []) (rest := []) ⟨hx, hb, hml, hown, hw⟩ (k_MD_begin l D cI cJ w0 w1 w2 w3 w4 w5 w6 w7 w8 w9 w10 w11 w12 w13 w14 (nI y) te nt wb rc fp ft (nI (flN 0 2)) sg gl _) (cwV 0 hw (gV kw_987 kw_989 kw_38 kw_45 kw_990) rfl rfl rfl (by decide +kernel) ⟨Nat.le_of_ble_eq_true rfl, Nat.le_of_ble_eq_true rfl⟩) (pre_Vw (wc := [(w0, .inr (5, [.ref w1, .ref w2, .int (nI y), .int te, .ref w3, .ref w4, .ref w5, .int nt, .int wb, .ref w6, .ref w7, .ref w8, .int rc, .ref w9, .ref w10, .ref w11, .ref w12, .ref w13, .ref w14, .int fp, .int ft, .int (nI (flN 0 2))])), (w1, .inl (cI, 100, .inl sg)), (w2, .inl (cI, 244, .inl gl))]) (q0 := 0) hE hX hA hP hD hS [5, 0, 1] (by decide) rfl rfl rfl rfl) rfl rfl hl.1 rfl (lv_room (Nat.le_of_ble_eq_true rfl)) d_MD_rule_91 ⟨Nat.le_of_ble_eq_true rfl, Nat.le_of_ble_eq_true rfl⟩) hP hD hS hA [5, 0, 1] [2, 3, 4] rfl rfl (by decide) (by decide) (fun u_r_21 H locs hr_21 hP hD hS => ?_)
              have hP : va_P D vwCl [(w3, .inl (cI, 1600, .inl fi)), (w4, .inl (cI, 1600, .inl ip)), (w5, .inl (cI, 1600, .inl se)), (w0, .inr (5, [.ref w1, .ref w2, .int (nI 2), .int (nI 2), .ref w3, .ref w4, .ref w5, .int nt, .int wb, .ref w6, .ref w7, .ref w8, .int rc, .ref w9, .ref w10, .ref w11, .ref w12, .ref w13, .ref w14, .int fp, .int ft, .int (nI (flN 0 2))])), (w1, .inl (cI, 100, .inl (bmL sg 100))), (w2, .inl (cI, 244, .inl (bgG gl)))] H := hP
              have hD : va_D A [(w3, .inl (cI, 1600, .inl fi)), (w4, .inl (cI, 1600, .inl ip)), (w5, .inl (cI, 1600, .inl se)), (w0, .inr (5, [.ref w1, .ref w2, .int (nI 2), .int (nI 2), .ref w3, .ref w4, .ref w5, .int nt, .int wb, .ref w6, .ref w7, .ref w8, .int rc, .ref w9, .ref w10, .ref w11, .ref w12, .ref w13, .ref w14, .int fp, .int ft, .int (nI (flN 0 2))])), (w1, .inl (cI, 100, .inl (bmL sg 100))), (w2, .inl (cI, 244, .inl (bgG gl)))] := hD
              refine lv_aload_n hx hb d_MD_rule_94 rfl (lv_at hl 1 rfl) ?_
              refine lv_iconst (v := nI 0) hx hb d_MD_rule_95 (by decide +kernel) ?_
              refine lv_iconst (v := nI 3) hx hb d_MD_rule_96 (by decide +kernel) ?_
              refine lv_iconst (v := nI 0) hx hb d_MD_rule_97 (by decide +kernel) ?_
              refine lv_iconst (v := nI 0) hx hb d_MD_rule_98 (by decide +kernel) ?_
              refine cl_i (wr := [(w3, .inl (cI, 1600, .inl fi)), (w4, .inl (cI, 1600, .inl ip)), (w5, .inl (cI, 1600, .inl se)), (w1, .inl (cI, 100, .inl (bmL sg 100)))]) (va_runV (As := [.int (nI 0), .int (nI 3), .int (nI 0), .int (nI 0)]) (rest := []) ⟨hx, hb, hml, hown, hw⟩ (k_MD_add l D cI cJ w0 w1 w2 w3 w4 w5 w6 w7 w8 w9 w10 w11 w12 w13 w14 2 (nI 2) nt wb rc fp ft (nI (flN 0 2)) (bgG gl) (nI 0) (nI 3) (nI 0) (nI 0) _ (by omega)) (cwV 4 hw (gV kw_847 kw_849 kw_21 kw_45 kw_850) rfl rfl rfl (by decide +kernel) ⟨Nat.le_of_ble_eq_true rfl, Nat.le_of_ble_eq_true rfl⟩) (pre_Vw (wc := [(w0, .inr (5, [.ref w1, .ref w2, .int (nI 2), .int (nI 2), .ref w3, .ref w4, .ref w5, .int nt, .int wb, .ref w6, .ref w7, .ref w8, .int rc, .ref w9, .ref w10, .ref w11, .ref w12, .ref w13, .ref w14, .int fp, .int ft, .int (nI (flN 0 2))])), (w2, .inl (cI, 244, .inl (bgG gl)))]) (q0 := 0) hE hX hA hP hD hS [3, 5] (by decide) rfl rfl rfl rfl) rfl rfl hl.1 rfl (lv_room (Nat.le_of_ble_eq_true rfl)) d_MD_rule_99 ⟨Nat.le_of_ble_eq_true rfl, Nat.le_of_ble_eq_true rfl⟩) hP hD hS hA [3, 5] [0, 1, 2, 4] rfl rfl (by decide) (by decide) (fun r_22 u_r_22 H locs hr_22 hP hD hS => ?_)
              obtain rfl : nI (2 + 1) = r_22 := hr_22.symm
              have hP : va_P D vwCl [(w3, .inl (cI, 1600, .inl fi)), (w4, .inl (cI, 1600, .inl ip)), (w5, .inl (cI, 1600, .inl se)), (w1, .inl (cI, 100, .inl (bmL sg 100))), (w0, .inr (5, [.ref w1, .ref w2, .int (nI (2 + 1)), .int (nI 2), .ref w3, .ref w4, .ref w5, .int nt, .int wb, .ref w6, .ref w7, .ref w8, .int rc, .ref w9, .ref w10, .ref w11, .ref w12, .ref w13, .ref w14, .int fp, .int ft, .int (nI (flN 0 2))])), (w2, .inl (cI, 244, .inl (agS (bgG gl) (2 + 1) (nI 0) (nI 3) (nI 0) (nI 0))))] H := hP
              have hD : va_D A [(w3, .inl (cI, 1600, .inl fi)), (w4, .inl (cI, 1600, .inl ip)), (w5, .inl (cI, 1600, .inl se)), (w1, .inl (cI, 100, .inl (bmL sg 100))), (w0, .inr (5, [.ref w1, .ref w2, .int (nI (2 + 1)), .int (nI 2), .ref w3, .ref w4, .ref w5, .int nt, .int wb, .ref w6, .ref w7, .ref w8, .int rc, .ref w9, .ref w10, .ref w11, .ref w12, .ref w13, .ref w14, .int fp, .int ft, .int (nI (flN 0 2))])), (w2, .inl (cI, 244, .inl (agS (bgG gl) (2 + 1) (nI 0) (nI 3) (nI 0) (nI 0))))] := hD
              refine lv_pop hx hb d_MD_rule_102 rfl ?_
              refine lv_iconst (v := nI 0) hx hb d_MD_rule_103 (by decide +kernel) ?_
              refine lv_istore (lv' := [(6, .int (nI 0)), (5, .int (nI 1)), (0, .ref w0), (1, .int (nI a9)), (2, .int v), (3, .int (nI b9)), (4, .int w)]) hx hb d_MD_rule_104 hl (by decide) rfl (fun ls hl => ?_)
              refine lv_iload hx hb d_MD_rule_106 (lv_at hl 0 rfl) ?_
              refine lv_iconst (v := nI 2) hx hb d_MD_rule_108 (by decide +kernel) ?_
              refine jn_icmp_ge (tgt := 163) (a := 0) (b := 2) hx hb d_MD_rule_109 (by decide) (by decide) (by decide) (fun c9 => absurd c9 (by decide)) (fun _ => ?_)
              refine lv_iconst (v := nI 0) hx hb d_MD_rule_112 (by decide +kernel) ?_
              refine lv_istore (lv' := [(7, .int (nI 0)), (6, .int (nI 0)), (5, .int (nI 1)), (0, .ref w0), (1, .int (nI a9)), (2, .int v), (3, .int (nI b9)), (4, .int w)]) hx hb d_MD_rule_113 hl (by decide) rfl (fun ls hl => ?_)
              refine lv_iload hx hb d_MD_rule_115 (lv_at hl 0 rfl) ?_
              refine lv_iconst (v := nI 2) hx hb d_MD_rule_117 (by decide +kernel) ?_
              refine jn_icmp_ge (tgt := 157) (a := 0) (b := 2) hx hb d_MD_rule_118 (by decide) (by decide) (by decide) (fun c9 => absurd c9 (by decide)) (fun _ => ?_)
              refine lv_aload_n hx hb d_MD_rule_121 rfl (lv_at hl 3 rfl) ?_
              refine lv_iconst (v := nI 1) hx hb d_MD_rule_122 (by decide +kernel) ?_
              refine lv_iload_n hx hb d_MD_rule_123 rfl (lv_at hl 5 rfl) ?_
              refine lv_iconst (v := nI 2) hx hb d_MD_rule_124 (by decide +kernel) ?_
              refine lv_iload hx hb d_MD_rule_125 (lv_at hl 1 rfl) ?_
              refine jn_imul (a := 2) (b := 0) hx hb d_MD_rule_127 ?_
              refine W.eq (g2 := F0 m 128 ls (.int (nI 0) :: [.int v, .int (nI 1), .ref w0])) (by rfl) ?_
              refine lv_iload hx hb d_MD_rule_128 (lv_at hl 0 rfl) ?_
              refine jn_iadd (a := 0) (b := 0) hx hb d_MD_rule_130 ?_
              refine W.eq (g2 := F0 m 131 ls (.int (nI 0) :: [.int v, .int (nI 1), .ref w0])) (by rfl) ?_
              refine lv_ishr hx hb d_MD_rule_131 ?_
              refine lv_iconst (v := nI 1) hx hb d_MD_rule_132 (by decide +kernel) ?_
              refine lv_iand hx hb d_MD_rule_133 ?_
              refine W.eq (g2 := F0 m 134 ls [.int (nI (btN v 0)), .int (nI 1), .ref w0]) (by rw [bt_and]) ?_
              refine jn_iadd (a := 1) (b := (btN v 0)) hx hb d_MD_rule_134 ?_
              refine lv_iconst (v := nI 3) hx hb d_MD_rule_135 (by decide +kernel) ?_
              refine lv_iload hx hb d_MD_rule_136 (lv_at hl 0 rfl) ?_
              refine jn_iadd (a := 3) (b := 0) hx hb d_MD_rule_138 ?_
              refine W.eq (g2 := F0 m 139 ls (.int (nI 3) :: [.int (nI (1 + (btN v 0))), .ref w0])) (by rfl) ?_
              refine lv_iconst (v := nI 1) hx hb d_MD_rule_139 (by decide +kernel) ?_
              refine lv_iload hx hb d_MD_rule_140 (lv_at hl 0 rfl) ?_
              refine jn_iadd (a := 1) (b := 0) hx hb d_MD_rule_142 ?_
              refine W.eq (g2 := F0 m 143 ls (.int (nI 1) :: [.int (nI 3), .int (nI (1 + (btN v 0))), .ref w0])) (by rfl) ?_
              refine lv_iconst (v := nI 3) hx hb d_MD_rule_143 (by decide +kernel) ?_
              refine lv_iload hx hb d_MD_rule_144 (lv_at hl 1 rfl) ?_
              refine jn_iadd (a := 3) (b := 0) hx hb d_MD_rule_146 ?_
              refine W.eq (g2 := F0 m 147 ls (.int (nI 3) :: [.int (nI 1), .int (nI 3), .int (nI (1 + (btN v 0))), .ref w0])) (by rfl) ?_
              refine cl_i (wr := [(w3, .inl (cI, 1600, .inl fi)), (w4, .inl (cI, 1600, .inl ip)), (w5, .inl (cI, 1600, .inl se)), (w1, .inl (cI, 100, .inl (bmL sg 100)))]) (va_runV (As := [.int (nI (1 + (btN v 0))), .int (nI 3), .int (nI 1), .int (nI 3)]) (rest := []) ⟨hx, hb, hml, hown, hw⟩ (k_MD_add l D cI cJ w0 w1 w2 w3 w4 w5 w6 w7 w8 w9 w10 w11 w12 w13 w14 (2 + 1) (nI 2) nt wb rc fp ft (nI (flN 0 2)) (agS (bgG gl) (2 + 1) (nI 0) (nI 3) (nI 0) (nI 0)) (nI (1 + (btN v 0))) (nI 3) (nI 1) (nI 3) _ (by omega)) (cwV 4 hw (gV kw_847 kw_849 kw_21 kw_45 kw_850) rfl rfl rfl (by decide +kernel) ⟨Nat.le_of_ble_eq_true rfl, Nat.le_of_ble_eq_true rfl⟩) (pre_Vw (wc := [(w0, .inr (5, [.ref w1, .ref w2, .int (nI (2 + 1)), .int (nI 2), .ref w3, .ref w4, .ref w5, .int nt, .int wb, .ref w6, .ref w7, .ref w8, .int rc, .ref w9, .ref w10, .ref w11, .ref w12, .ref w13, .ref w14, .int fp, .int ft, .int (nI (flN 0 2))])), (w2, .inl (cI, 244, .inl (agS (bgG gl) (2 + 1) (nI 0) (nI 3) (nI 0) (nI 0))))]) (q0 := 0) hE hX hA hP hD hS [4, 5] (by decide) rfl rfl rfl rfl) rfl rfl hl.1 rfl (lv_room (Nat.le_of_ble_eq_true rfl)) d_MD_rule_147 ⟨Nat.le_of_ble_eq_true rfl, Nat.le_of_ble_eq_true rfl⟩) hP hD hS hA [4, 5] [0, 1, 2, 3] rfl rfl (by decide) (by decide) (fun r_23 u_r_23 H locs hr_23 hP hD hS => ?_)
              obtain rfl : nI ((2 + 1) + 1) = r_23 := hr_23.symm
              have hP : va_P D vwCl [(w3, .inl (cI, 1600, .inl fi)), (w4, .inl (cI, 1600, .inl ip)), (w5, .inl (cI, 1600, .inl se)), (w1, .inl (cI, 100, .inl (bmL sg 100))), (w0, .inr (5, [.ref w1, .ref w2, .int (nI ((2 + 1) + 1)), .int (nI 2), .ref w3, .ref w4, .ref w5, .int nt, .int wb, .ref w6, .ref w7, .ref w8, .int rc, .ref w9, .ref w10, .ref w11, .ref w12, .ref w13, .ref w14, .int fp, .int ft, .int (nI (flN 0 2))])), (w2, .inl (cI, 244, .inl (agS (agS (bgG gl) (2 + 1) (nI 0) (nI 3) (nI 0) (nI 0)) ((2 + 1) + 1) (nI (1 + (btN v 0))) (nI 3) (nI 1) (nI 3))))] H := hP
              have hD : va_D A [(w3, .inl (cI, 1600, .inl fi)), (w4, .inl (cI, 1600, .inl ip)), (w5, .inl (cI, 1600, .inl se)), (w1, .inl (cI, 100, .inl (bmL sg 100))), (w0, .inr (5, [.ref w1, .ref w2, .int (nI ((2 + 1) + 1)), .int (nI 2), .ref w3, .ref w4, .ref w5, .int nt, .int wb, .ref w6, .ref w7, .ref w8, .int rc, .ref w9, .ref w10, .ref w11, .ref w12, .ref w13, .ref w14, .int fp, .int ft, .int (nI (flN 0 2))])), (w2, .inl (cI, 244, .inl (agS (agS (bgG gl) (2 + 1) (nI 0) (nI 3) (nI 0) (nI 0)) ((2 + 1) + 1) (nI (1 + (btN v 0))) (nI 3) (nI 1) (nI 3))))] := hD
              refine lv_pop hx hb d_MD_rule_150 rfl ?_
              refine lv_iinc (v := nI 1) (lv' := [(7, .int (nI 1)), (6, .int (nI 0)), (5, .int (nI 1)), (0, .ref w0), (1, .int (nI a9)), (2, .int v), (3, .int (nI b9)), (4, .int w)]) hx hb d_MD_rule_151 hl (k := 0) rfl (by decide +kernel) (by decide) rfl (fun ls hl => ?_)
              refine lv_goto (tgt := 115) hx hb d_MD_rule_154 (by decide) ?_
              refine lv_iload hx hb d_MD_rule_115 (lv_at hl 0 rfl) ?_
              refine lv_iconst (v := nI 2) hx hb d_MD_rule_117 (by decide +kernel) ?_
              refine jn_icmp_ge (tgt := 157) (a := 1) (b := 2) hx hb d_MD_rule_118 (by decide) (by decide) (by decide) (fun c9 => absurd c9 (by decide)) (fun _ => ?_)
              refine lv_aload_n hx hb d_MD_rule_121 rfl (lv_at hl 3 rfl) ?_
              refine lv_iconst (v := nI 1) hx hb d_MD_rule_122 (by decide +kernel) ?_
              refine lv_iload_n hx hb d_MD_rule_123 rfl (lv_at hl 5 rfl) ?_
              refine lv_iconst (v := nI 2) hx hb d_MD_rule_124 (by decide +kernel) ?_
              refine lv_iload hx hb d_MD_rule_125 (lv_at hl 1 rfl) ?_
              refine jn_imul (a := 2) (b := 0) hx hb d_MD_rule_127 ?_
              refine W.eq (g2 := F0 m 128 ls (.int (nI 0) :: [.int v, .int (nI 1), .ref w0])) (by rfl) ?_
              refine lv_iload hx hb d_MD_rule_128 (lv_at hl 0 rfl) ?_
              refine jn_iadd (a := 0) (b := 1) hx hb d_MD_rule_130 ?_
              refine W.eq (g2 := F0 m 131 ls (.int (nI 1) :: [.int v, .int (nI 1), .ref w0])) (by rfl) ?_
              refine lv_ishr hx hb d_MD_rule_131 ?_
              refine lv_iconst (v := nI 1) hx hb d_MD_rule_132 (by decide +kernel) ?_
              refine lv_iand hx hb d_MD_rule_133 ?_
              refine W.eq (g2 := F0 m 134 ls [.int (nI (btN v 1)), .int (nI 1), .ref w0]) (by rw [bt_and]) ?_
              refine jn_iadd (a := 1) (b := (btN v 1)) hx hb d_MD_rule_134 ?_
              refine lv_iconst (v := nI 3) hx hb d_MD_rule_135 (by decide +kernel) ?_
              refine lv_iload hx hb d_MD_rule_136 (lv_at hl 0 rfl) ?_
              refine jn_iadd (a := 3) (b := 1) hx hb d_MD_rule_138 ?_
              refine W.eq (g2 := F0 m 139 ls (.int (nI 4) :: [.int (nI (1 + (btN v 1))), .ref w0])) (by rfl) ?_
              refine lv_iconst (v := nI 1) hx hb d_MD_rule_139 (by decide +kernel) ?_
              refine lv_iload hx hb d_MD_rule_140 (lv_at hl 0 rfl) ?_
              refine jn_iadd (a := 1) (b := 1) hx hb d_MD_rule_142 ?_
              refine W.eq (g2 := F0 m 143 ls (.int (nI 2) :: [.int (nI 4), .int (nI (1 + (btN v 1))), .ref w0])) (by rfl) ?_
              refine lv_iconst (v := nI 3) hx hb d_MD_rule_143 (by decide +kernel) ?_
              refine lv_iload hx hb d_MD_rule_144 (lv_at hl 1 rfl) ?_
              refine jn_iadd (a := 3) (b := 0) hx hb d_MD_rule_146 ?_
              refine W.eq (g2 := F0 m 147 ls (.int (nI 3) :: [.int (nI 2), .int (nI 4), .int (nI (1 + (btN v 1))), .ref w0])) (by rfl) ?_
              refine cl_i (wr := [(w3, .inl (cI, 1600, .inl fi)), (w4, .inl (cI, 1600, .inl ip)), (w5, .inl (cI, 1600, .inl se)), (w1, .inl (cI, 100, .inl (bmL sg 100)))]) (va_runV (As := [.int (nI (1 + (btN v 1))), .int (nI 4), .int (nI 2), .int (nI 3)]) (rest := []) ⟨hx, hb, hml, hown, hw⟩ (k_MD_add l D cI cJ w0 w1 w2 w3 w4 w5 w6 w7 w8 w9 w10 w11 w12 w13 w14 ((2 + 1) + 1) (nI 2) nt wb rc fp ft (nI (flN 0 2)) (agS (agS (bgG gl) (2 + 1) (nI 0) (nI 3) (nI 0) (nI 0)) ((2 + 1) + 1) (nI (1 + (btN v 0))) (nI 3) (nI 1) (nI 3)) (nI (1 + (btN v 1))) (nI 4) (nI 2) (nI 3) _ (by omega)) (cwV 4 hw (gV kw_847 kw_849 kw_21 kw_45 kw_850) rfl rfl rfl (by decide +kernel) ⟨Nat.le_of_ble_eq_true rfl, Nat.le_of_ble_eq_true rfl⟩) (pre_Vw (wc := [(w0, .inr (5, [.ref w1, .ref w2, .int (nI ((2 + 1) + 1)), .int (nI 2), .ref w3, .ref w4, .ref w5, .int nt, .int wb, .ref w6, .ref w7, .ref w8, .int rc, .ref w9, .ref w10, .ref w11, .ref w12, .ref w13, .ref w14, .int fp, .int ft, .int (nI (flN 0 2))])), (w2, .inl (cI, 244, .inl (agS (agS (bgG gl) (2 + 1) (nI 0) (nI 3) (nI 0) (nI 0)) ((2 + 1) + 1) (nI (1 + (btN v 0))) (nI 3) (nI 1) (nI 3))))]) (q0 := 0) hE hX hA hP hD hS [4, 5] (by decide) rfl rfl rfl rfl) rfl rfl hl.1 rfl (lv_room (Nat.le_of_ble_eq_true rfl)) d_MD_rule_147 ⟨Nat.le_of_ble_eq_true rfl, Nat.le_of_ble_eq_true rfl⟩) hP hD hS hA [4, 5] [0, 1, 2, 3] rfl rfl (by decide) (by decide) (fun r_24 u_r_24 H locs hr_24 hP hD hS => ?_)
              obtain rfl : nI (((2 + 1) + 1) + 1) = r_24 := hr_24.symm
              have hP : va_P D vwCl [(w3, .inl (cI, 1600, .inl fi)), (w4, .inl (cI, 1600, .inl ip)), (w5, .inl (cI, 1600, .inl se)), (w1, .inl (cI, 100, .inl (bmL sg 100))), (w0, .inr (5, [.ref w1, .ref w2, .int (nI (((2 + 1) + 1) + 1)), .int (nI 2), .ref w3, .ref w4, .ref w5, .int nt, .int wb, .ref w6, .ref w7, .ref w8, .int rc, .ref w9, .ref w10, .ref w11, .ref w12, .ref w13, .ref w14, .int fp, .int ft, .int (nI (flN 0 2))])), (w2, .inl (cI, 244, .inl (agS (agS (agS (bgG gl) (2 + 1) (nI 0) (nI 3) (nI 0) (nI 0)) ((2 + 1) + 1) (nI (1 + (btN v 0))) (nI 3) (nI 1) (nI 3)) (((2 + 1) + 1) + 1) (nI (1 + (btN v 1))) (nI 4) (nI 2) (nI 3))))] H := hP
              have hD : va_D A [(w3, .inl (cI, 1600, .inl fi)), (w4, .inl (cI, 1600, .inl ip)), (w5, .inl (cI, 1600, .inl se)), (w1, .inl (cI, 100, .inl (bmL sg 100))), (w0, .inr (5, [.ref w1, .ref w2, .int (nI (((2 + 1) + 1) + 1)), .int (nI 2), .ref w3, .ref w4, .ref w5, .int nt, .int wb, .ref w6, .ref w7, .ref w8, .int rc, .ref w9, .ref w10, .ref w11, .ref w12, .ref w13, .ref w14, .int fp, .int ft, .int (nI (flN 0 2))])), (w2, .inl (cI, 244, .inl (agS (agS (agS (bgG gl) (2 + 1) (nI 0) (nI 3) (nI 0) (nI 0)) ((2 + 1) + 1) (nI (1 + (btN v 0))) (nI 3) (nI 1) (nI 3)) (((2 + 1) + 1) + 1) (nI (1 + (btN v 1))) (nI 4) (nI 2) (nI 3))))] := hD
              refine lv_pop hx hb d_MD_rule_150 rfl ?_
              refine lv_iinc (v := nI 2) (lv' := [(7, .int (nI 2)), (6, .int (nI 0)), (5, .int (nI 1)), (0, .ref w0), (1, .int (nI a9)), (2, .int v), (3, .int (nI b9)), (4, .int w)]) hx hb d_MD_rule_151 hl (k := 0) rfl (by decide +kernel) (by decide) rfl (fun ls hl => ?_)
              refine lv_goto (tgt := 115) hx hb d_MD_rule_154 (by decide) ?_
              refine lv_iload hx hb d_MD_rule_115 (lv_at hl 0 rfl) ?_
              refine lv_iconst (v := nI 2) hx hb d_MD_rule_117 (by decide +kernel) ?_
              refine jn_icmp_ge (tgt := 157) (a := 2) (b := 2) hx hb d_MD_rule_118 (by decide) (by decide) (by decide) (fun _ => ?_) (fun c9 => absurd c9 (by decide))
              refine lv_iinc (v := nI 1) (lv' := [(6, .int (nI 1)), (7, .int (nI 2)), (5, .int (nI 1)), (0, .ref w0), (1, .int (nI a9)), (2, .int v), (3, .int (nI b9)), (4, .int w)]) hx hb d_MD_rule_157 hl (k := 1) rfl (by decide +kernel) (by decide) rfl (fun ls hl => ?_)
              refine lv_goto (tgt := 106) hx hb d_MD_rule_160 (by decide) ?_
              refine lv_iload hx hb d_MD_rule_106 (lv_at hl 0 rfl) ?_
              refine lv_iconst (v := nI 2) hx hb d_MD_rule_108 (by decide +kernel) ?_
              refine jn_icmp_ge (tgt := 163) (a := 1) (b := 2) hx hb d_MD_rule_109 (by decide) (by decide) (by decide) (fun c9 => absurd c9 (by decide)) (fun _ => ?_)
              refine lv_iconst (v := nI 0) hx hb d_MD_rule_112 (by decide +kernel) ?_
              refine lv_istore (lv' := [(7, .int (nI 0)), (6, .int (nI 1)), (5, .int (nI 1)), (0, .ref w0), (1, .int (nI a9)), (2, .int v), (3, .int (nI b9)), (4, .int w)]) hx hb d_MD_rule_113 hl (by decide) rfl (fun ls hl => ?_)
              refine lv_iload hx hb d_MD_rule_115 (lv_at hl 0 rfl) ?_
              refine lv_iconst (v := nI 2) hx hb d_MD_rule_117 (by decide +kernel) ?_
              refine jn_icmp_ge (tgt := 157) (a := 0) (b := 2) hx hb d_MD_rule_118 (by decide) (by decide) (by decide) (fun c9 => absurd c9 (by decide)) (fun _ => ?_)
              refine lv_aload_n hx hb d_MD_rule_121 rfl (lv_at hl 3 rfl) ?_
              refine lv_iconst (v := nI 1) hx hb d_MD_rule_122 (by decide +kernel) ?_
              refine lv_iload_n hx hb d_MD_rule_123 rfl (lv_at hl 5 rfl) ?_
              refine lv_iconst (v := nI 2) hx hb d_MD_rule_124 (by decide +kernel) ?_
              refine lv_iload hx hb d_MD_rule_125 (lv_at hl 1 rfl) ?_
              refine jn_imul (a := 2) (b := 1) hx hb d_MD_rule_127 ?_
              refine W.eq (g2 := F0 m 128 ls (.int (nI 2) :: [.int v, .int (nI 1), .ref w0])) (by rfl) ?_
              refine lv_iload hx hb d_MD_rule_128 (lv_at hl 0 rfl) ?_
              refine jn_iadd (a := 2) (b := 0) hx hb d_MD_rule_130 ?_
              refine W.eq (g2 := F0 m 131 ls (.int (nI 2) :: [.int v, .int (nI 1), .ref w0])) (by rfl) ?_
              refine lv_ishr hx hb d_MD_rule_131 ?_
              refine lv_iconst (v := nI 1) hx hb d_MD_rule_132 (by decide +kernel) ?_
              refine lv_iand hx hb d_MD_rule_133 ?_
              refine W.eq (g2 := F0 m 134 ls [.int (nI (btN v 2)), .int (nI 1), .ref w0]) (by rw [bt_and]) ?_
              refine jn_iadd (a := 1) (b := (btN v 2)) hx hb d_MD_rule_134 ?_
              refine lv_iconst (v := nI 3) hx hb d_MD_rule_135 (by decide +kernel) ?_
              refine lv_iload hx hb d_MD_rule_136 (lv_at hl 0 rfl) ?_
              refine jn_iadd (a := 3) (b := 0) hx hb d_MD_rule_138 ?_
              refine W.eq (g2 := F0 m 139 ls (.int (nI 3) :: [.int (nI (1 + (btN v 2))), .ref w0])) (by rfl) ?_
              refine lv_iconst (v := nI 1) hx hb d_MD_rule_139 (by decide +kernel) ?_
              refine lv_iload hx hb d_MD_rule_140 (lv_at hl 0 rfl) ?_
              refine jn_iadd (a := 1) (b := 0) hx hb d_MD_rule_142 ?_
              refine W.eq (g2 := F0 m 143 ls (.int (nI 1) :: [.int (nI 3), .int (nI (1 + (btN v 2))), .ref w0])) (by rfl) ?_
              refine lv_iconst (v := nI 3) hx hb d_MD_rule_143 (by decide +kernel) ?_
              refine lv_iload hx hb d_MD_rule_144 (lv_at hl 1 rfl) ?_
              refine jn_iadd (a := 3) (b := 1) hx hb d_MD_rule_146 ?_
              refine W.eq (g2 := F0 m 147 ls (.int (nI 4) :: [.int (nI 1), .int (nI 3), .int (nI (1 + (btN v 2))), .ref w0])) (by rfl) ?_
              refine cl_i (wr := [(w3, .inl (cI, 1600, .inl fi)), (w4, .inl (cI, 1600, .inl ip)), (w5, .inl (cI, 1600, .inl se)), (w1, .inl (cI, 100, .inl (bmL sg 100)))]) (va_runV (As := [.int (nI (1 + (btN v 2))), .int (nI 3), .int (nI 1), .int (nI 4)]) (rest := []) ⟨hx, hb, hml, hown, hw⟩ (k_MD_add l D cI cJ w0 w1 w2 w3 w4 w5 w6 w7 w8 w9 w10 w11 w12 w13 w14 (((2 + 1) + 1) + 1) (nI 2) nt wb rc fp ft (nI (flN 0 2)) (agS (agS (agS (bgG gl) (2 + 1) (nI 0) (nI 3) (nI 0) (nI 0)) ((2 + 1) + 1) (nI (1 + (btN v 0))) (nI 3) (nI 1) (nI 3)) (((2 + 1) + 1) + 1) (nI (1 + (btN v 1))) (nI 4) (nI 2) (nI 3)) (nI (1 + (btN v 2))) (nI 3) (nI 1) (nI 4) _ (by omega)) (cwV 4 hw (gV kw_847 kw_849 kw_21 kw_45 kw_850) rfl rfl rfl (by decide +kernel) ⟨Nat.le_of_ble_eq_true rfl, Nat.le_of_ble_eq_true rfl⟩) (pre_Vw (wc := [(w0, .inr (5, [.ref w1, .ref w2, .int (nI (((2 + 1) + 1) + 1)), .int (nI 2), .ref w3, .ref w4, .ref w5, .int nt, .int wb, .ref w6, .ref w7, .ref w8, .int rc, .ref w9, .ref w10, .ref w11, .ref w12, .ref w13, .ref w14, .int fp, .int ft, .int (nI (flN 0 2))])), (w2, .inl (cI, 244, .inl (agS (agS (agS (bgG gl) (2 + 1) (nI 0) (nI 3) (nI 0) (nI 0)) ((2 + 1) + 1) (nI (1 + (btN v 0))) (nI 3) (nI 1) (nI 3)) (((2 + 1) + 1) + 1) (nI (1 + (btN v 1))) (nI 4) (nI 2) (nI 3))))]) (q0 := 0) hE hX hA hP hD hS [4, 5] (by decide) rfl rfl rfl rfl) rfl rfl hl.1 rfl (lv_room (Nat.le_of_ble_eq_true rfl)) d_MD_rule_147 ⟨Nat.le_of_ble_eq_true rfl, Nat.le_of_ble_eq_true rfl⟩) hP hD hS hA [4, 5] [0, 1, 2, 3] rfl rfl (by decide) (by decide) (fun r_25 u_r_25 H locs hr_25 hP hD hS => ?_)
              obtain rfl : nI ((((2 + 1) + 1) + 1) + 1) = r_25 := hr_25.symm
              have hP : va_P D vwCl [(w3, .inl (cI, 1600, .inl fi)), (w4, .inl (cI, 1600, .inl ip)), (w5, .inl (cI, 1600, .inl se)), (w1, .inl (cI, 100, .inl (bmL sg 100))), (w0, .inr (5, [.ref w1, .ref w2, .int (nI ((((2 + 1) + 1) + 1) + 1)), .int (nI 2), .ref w3, .ref w4, .ref w5, .int nt, .int wb, .ref w6, .ref w7, .ref w8, .int rc, .ref w9, .ref w10, .ref w11, .ref w12, .ref w13, .ref w14, .int fp, .int ft, .int (nI (flN 0 2))])), (w2, .inl (cI, 244, .inl (agS (agS (agS (agS (bgG gl) (2 + 1) (nI 0) (nI 3) (nI 0) (nI 0)) ((2 + 1) + 1) (nI (1 + (btN v 0))) (nI 3) (nI 1) (nI 3)) (((2 + 1) + 1) + 1) (nI (1 + (btN v 1))) (nI 4) (nI 2) (nI 3)) ((((2 + 1) + 1) + 1) + 1) (nI (1 + (btN v 2))) (nI 3) (nI 1) (nI 4))))] H := hP
              have hD : va_D A [(w3, .inl (cI, 1600, .inl fi)), (w4, .inl (cI, 1600, .inl ip)), (w5, .inl (cI, 1600, .inl se)), (w1, .inl (cI, 100, .inl (bmL sg 100))), (w0, .inr (5, [.ref w1, .ref w2, .int (nI ((((2 + 1) + 1) + 1) + 1)), .int (nI 2), .ref w3, .ref w4, .ref w5, .int nt, .int wb, .ref w6, .ref w7, .ref w8, .int rc, .ref w9, .ref w10, .ref w11, .ref w12, .ref w13, .ref w14, .int fp, .int ft, .int (nI (flN 0 2))])), (w2, .inl (cI, 244, .inl (agS (agS (agS (agS (bgG gl) (2 + 1) (nI 0) (nI 3) (nI 0) (nI 0)) ((2 + 1) + 1) (nI (1 + (btN v 0))) (nI 3) (nI 1) (nI 3)) (((2 + 1) + 1) + 1) (nI (1 + (btN v 1))) (nI 4) (nI 2) (nI 3)) ((((2 + 1) + 1) + 1) + 1) (nI (1 + (btN v 2))) (nI 3) (nI 1) (nI 4))))] := hD
              refine lv_pop hx hb d_MD_rule_150 rfl ?_
              refine lv_iinc (v := nI 1) (lv' := [(7, .int (nI 1)), (6, .int (nI 1)), (5, .int (nI 1)), (0, .ref w0), (1, .int (nI a9)), (2, .int v), (3, .int (nI b9)), (4, .int w)]) hx hb d_MD_rule_151 hl (k := 0) rfl (by decide +kernel) (by decide) rfl (fun ls hl => ?_)
              refine lv_goto (tgt := 115) hx hb d_MD_rule_154 (by decide) ?_
              refine lv_iload hx hb d_MD_rule_115 (lv_at hl 0 rfl) ?_
              refine lv_iconst (v := nI 2) hx hb d_MD_rule_117 (by decide +kernel) ?_
              refine jn_icmp_ge (tgt := 157) (a := 1) (b := 2) hx hb d_MD_rule_118 (by decide) (by decide) (by decide) (fun c9 => absurd c9 (by decide)) (fun _ => ?_)
              refine lv_aload_n hx hb d_MD_rule_121 rfl (lv_at hl 3 rfl) ?_
              refine lv_iconst (v := nI 1) hx hb d_MD_rule_122 (by decide +kernel) ?_
              refine lv_iload_n hx hb d_MD_rule_123 rfl (lv_at hl 5 rfl) ?_
              refine lv_iconst (v := nI 2) hx hb d_MD_rule_124 (by decide +kernel) ?_
              refine lv_iload hx hb d_MD_rule_125 (lv_at hl 1 rfl) ?_
              refine jn_imul (a := 2) (b := 1) hx hb d_MD_rule_127 ?_
              refine W.eq (g2 := F0 m 128 ls (.int (nI 2) :: [.int v, .int (nI 1), .ref w0])) (by rfl) ?_
              refine lv_iload hx hb d_MD_rule_128 (lv_at hl 0 rfl) ?_
              refine jn_iadd (a := 2) (b := 1) hx hb d_MD_rule_130 ?_
              refine W.eq (g2 := F0 m 131 ls (.int (nI 3) :: [.int v, .int (nI 1), .ref w0])) (by rfl) ?_
              refine lv_ishr hx hb d_MD_rule_131 ?_
              refine lv_iconst (v := nI 1) hx hb d_MD_rule_132 (by decide +kernel) ?_
              refine lv_iand hx hb d_MD_rule_133 ?_
              refine W.eq (g2 := F0 m 134 ls [.int (nI (btN v 3)), .int (nI 1), .ref w0]) (by rw [bt_and]) ?_
              refine jn_iadd (a := 1) (b := (btN v 3)) hx hb d_MD_rule_134 ?_
              refine lv_iconst (v := nI 3) hx hb d_MD_rule_135 (by decide +kernel) ?_
              refine lv_iload hx hb d_MD_rule_136 (lv_at hl 0 rfl) ?_
              refine jn_iadd (a := 3) (b := 1) hx hb d_MD_rule_138 ?_
              refine W.eq (g2 := F0 m 139 ls (.int (nI 4) :: [.int (nI (1 + (btN v 3))), .ref w0])) (by rfl) ?_
              refine lv_iconst (v := nI 1) hx hb d_MD_rule_139 (by decide +kernel) ?_
              refine lv_iload hx hb d_MD_rule_140 (lv_at hl 0 rfl) ?_
              refine jn_iadd (a := 1) (b := 1) hx hb d_MD_rule_142 ?_
              refine W.eq (g2 := F0 m 143 ls (.int (nI 2) :: [.int (nI 4), .int (nI (1 + (btN v 3))), .ref w0])) (by rfl) ?_
              refine lv_iconst (v := nI 3) hx hb d_MD_rule_143 (by decide +kernel) ?_
              refine lv_iload hx hb d_MD_rule_144 (lv_at hl 1 rfl) ?_
              refine jn_iadd (a := 3) (b := 1) hx hb d_MD_rule_146 ?_
              refine W.eq (g2 := F0 m 147 ls (.int (nI 4) :: [.int (nI 2), .int (nI 4), .int (nI (1 + (btN v 3))), .ref w0])) (by rfl) ?_
              refine cl_i (wr := [(w3, .inl (cI, 1600, .inl fi)), (w4, .inl (cI, 1600, .inl ip)), (w5, .inl (cI, 1600, .inl se)), (w1, .inl (cI, 100, .inl (bmL sg 100)))]) (va_runV (As := [.int (nI (1 + (btN v 3))), .int (nI 4), .int (nI 2), .int (nI 4)]) (rest := []) ⟨hx, hb, hml, hown, hw⟩ (k_MD_add l D cI cJ w0 w1 w2 w3 w4 w5 w6 w7 w8 w9 w10 w11 w12 w13 w14 ((((2 + 1) + 1) + 1) + 1) (nI 2) nt wb rc fp ft (nI (flN 0 2)) (agS (agS (agS (agS (bgG gl) (2 + 1) (nI 0) (nI 3) (nI 0) (nI 0)) ((2 + 1) + 1) (nI (1 + (btN v 0))) (nI 3) (nI 1) (nI 3)) (((2 + 1) + 1) + 1) (nI (1 + (btN v 1))) (nI 4) (nI 2) (nI 3)) ((((2 + 1) + 1) + 1) + 1) (nI (1 + (btN v 2))) (nI 3) (nI 1) (nI 4)) (nI (1 + (btN v 3))) (nI 4) (nI 2) (nI 4) _ (by omega)) (cwV 4 hw (gV kw_847 kw_849 kw_21 kw_45 kw_850) rfl rfl rfl (by decide +kernel) ⟨Nat.le_of_ble_eq_true rfl, Nat.le_of_ble_eq_true rfl⟩) (pre_Vw (wc := [(w0, .inr (5, [.ref w1, .ref w2, .int (nI ((((2 + 1) + 1) + 1) + 1)), .int (nI 2), .ref w3, .ref w4, .ref w5, .int nt, .int wb, .ref w6, .ref w7, .ref w8, .int rc, .ref w9, .ref w10, .ref w11, .ref w12, .ref w13, .ref w14, .int fp, .int ft, .int (nI (flN 0 2))])), (w2, .inl (cI, 244, .inl (agS (agS (agS (agS (bgG gl) (2 + 1) (nI 0) (nI 3) (nI 0) (nI 0)) ((2 + 1) + 1) (nI (1 + (btN v 0))) (nI 3) (nI 1) (nI 3)) (((2 + 1) + 1) + 1) (nI (1 + (btN v 1))) (nI 4) (nI 2) (nI 3)) ((((2 + 1) + 1) + 1) + 1) (nI (1 + (btN v 2))) (nI 3) (nI 1) (nI 4))))]) (q0 := 0) hE hX hA hP hD hS [4, 5] (by decide) rfl rfl rfl rfl) rfl rfl hl.1 rfl (lv_room (Nat.le_of_ble_eq_true rfl)) d_MD_rule_147 ⟨Nat.le_of_ble_eq_true rfl, Nat.le_of_ble_eq_true rfl⟩) hP hD hS hA [4, 5] [0, 1, 2, 3] rfl rfl (by decide) (by decide) (fun r_26 u_r_26 H locs hr_26 hP hD hS => ?_)
              obtain rfl : nI (((((2 + 1) + 1) + 1) + 1) + 1) = r_26 := hr_26.symm
              have hP : va_P D vwCl [(w3, .inl (cI, 1600, .inl fi)), (w4, .inl (cI, 1600, .inl ip)), (w5, .inl (cI, 1600, .inl se)), (w1, .inl (cI, 100, .inl (bmL sg 100))), (w0, .inr (5, [.ref w1, .ref w2, .int (nI (((((2 + 1) + 1) + 1) + 1) + 1)), .int (nI 2), .ref w3, .ref w4, .ref w5, .int nt, .int wb, .ref w6, .ref w7, .ref w8, .int rc, .ref w9, .ref w10, .ref w11, .ref w12, .ref w13, .ref w14, .int fp, .int ft, .int (nI (flN 0 2))])), (w2, .inl (cI, 244, .inl (agS (agS (agS (agS (agS (bgG gl) (2 + 1) (nI 0) (nI 3) (nI 0) (nI 0)) ((2 + 1) + 1) (nI (1 + (btN v 0))) (nI 3) (nI 1) (nI 3)) (((2 + 1) + 1) + 1) (nI (1 + (btN v 1))) (nI 4) (nI 2) (nI 3)) ((((2 + 1) + 1) + 1) + 1) (nI (1 + (btN v 2))) (nI 3) (nI 1) (nI 4)) (((((2 + 1) + 1) + 1) + 1) + 1) (nI (1 + (btN v 3))) (nI 4) (nI 2) (nI 4))))] H := hP
              have hD : va_D A [(w3, .inl (cI, 1600, .inl fi)), (w4, .inl (cI, 1600, .inl ip)), (w5, .inl (cI, 1600, .inl se)), (w1, .inl (cI, 100, .inl (bmL sg 100))), (w0, .inr (5, [.ref w1, .ref w2, .int (nI (((((2 + 1) + 1) + 1) + 1) + 1)), .int (nI 2), .ref w3, .ref w4, .ref w5, .int nt, .int wb, .ref w6, .ref w7, .ref w8, .int rc, .ref w9, .ref w10, .ref w11, .ref w12, .ref w13, .ref w14, .int fp, .int ft, .int (nI (flN 0 2))])), (w2, .inl (cI, 244, .inl (agS (agS (agS (agS (agS (bgG gl) (2 + 1) (nI 0) (nI 3) (nI 0) (nI 0)) ((2 + 1) + 1) (nI (1 + (btN v 0))) (nI 3) (nI 1) (nI 3)) (((2 + 1) + 1) + 1) (nI (1 + (btN v 1))) (nI 4) (nI 2) (nI 3)) ((((2 + 1) + 1) + 1) + 1) (nI (1 + (btN v 2))) (nI 3) (nI 1) (nI 4)) (((((2 + 1) + 1) + 1) + 1) + 1) (nI (1 + (btN v 3))) (nI 4) (nI 2) (nI 4))))] := hD
              refine lv_pop hx hb d_MD_rule_150 rfl ?_
              refine lv_iinc (v := nI 2) (lv' := [(7, .int (nI 2)), (6, .int (nI 1)), (5, .int (nI 1)), (0, .ref w0), (1, .int (nI a9)), (2, .int v), (3, .int (nI b9)), (4, .int w)]) hx hb d_MD_rule_151 hl (k := 0) rfl (by decide +kernel) (by decide) rfl (fun ls hl => ?_)
              refine lv_goto (tgt := 115) hx hb d_MD_rule_154 (by decide) ?_
              refine lv_iload hx hb d_MD_rule_115 (lv_at hl 0 rfl) ?_
              refine lv_iconst (v := nI 2) hx hb d_MD_rule_117 (by decide +kernel) ?_
              refine jn_icmp_ge (tgt := 157) (a := 2) (b := 2) hx hb d_MD_rule_118 (by decide) (by decide) (by decide) (fun _ => ?_) (fun c9 => absurd c9 (by decide))
              refine lv_iinc (v := nI 2) (lv' := [(6, .int (nI 2)), (7, .int (nI 2)), (5, .int (nI 1)), (0, .ref w0), (1, .int (nI a9)), (2, .int v), (3, .int (nI b9)), (4, .int w)]) hx hb d_MD_rule_157 hl (k := 1) rfl (by decide +kernel) (by decide) rfl (fun ls hl => ?_)
              refine lv_goto (tgt := 106) hx hb d_MD_rule_160 (by decide) ?_
              refine lv_iload hx hb d_MD_rule_106 (lv_at hl 0 rfl) ?_
              refine lv_iconst (v := nI 2) hx hb d_MD_rule_108 (by decide +kernel) ?_
              refine jn_icmp_ge (tgt := 163) (a := 2) (b := 2) hx hb d_MD_rule_109 (by decide) (by decide) (by decide) (fun _ => ?_) (fun c9 => absurd c9 (by decide))
              have hP : va_P D vwCl [(w3, .inl (cI, 1600, .inl fi)), (w4, .inl (cI, 1600, .inl ip)), (w5, .inl (cI, 1600, .inl se)), (w1, .inl (cI, 100, .inl (bmL sg 100))), (w0, .inr (5, [.ref w1, .ref w2, .int (nI 7), .int (nI 2), .ref w3, .ref w4, .ref w5, .int nt, .int wb, .ref w6, .ref w7, .ref w8, .int rc, .ref w9, .ref w10, .ref w11, .ref w12, .ref w13, .ref w14, .int fp, .int ft, .int (nI (flN 0 2))])), (w2, .inl (cI, 244, .inl (ruG gl v)))] H := hP
              have hD : va_D A [(w3, .inl (cI, 1600, .inl fi)), (w4, .inl (cI, 1600, .inl ip)), (w5, .inl (cI, 1600, .inl se)), (w1, .inl (cI, 100, .inl (bmL sg 100))), (w0, .inr (5, [.ref w1, .ref w2, .int (nI 7), .int (nI 2), .ref w3, .ref w4, .ref w5, .int nt, .int wb, .ref w6, .ref w7, .ref w8, .int rc, .ref w9, .ref w10, .ref w11, .ref w12, .ref w13, .ref w14, .int fp, .int ft, .int (nI (flN 0 2))])), (w2, .inl (cI, 244, .inl (ruG gl v)))] := hD
              refine lv_iconst (v := nI 0) hx hb d_MD_rule_163 (by decide +kernel) ?_
              refine lv_istore (lv' := [(6, .int (nI 0)), (7, .int (nI 2)), (5, .int (nI 1)), (0, .ref w0), (1, .int (nI a9)), (2, .int v), (3, .int (nI b9)), (4, .int w)]) hx hb d_MD_rule_164 hl (by decide) rfl (fun ls hl => ?_)
              refine lp_k_MD_rule_166 w0 w1 w2 w3 w4 w5 w6 w7 w8 w9 w10 w11 w12 w13 w14 y te nt wb rc fp ft th sg gl fi ip se (nI a9) v (nI b9) w a9 hk1 (by omega) b9 hx hb hml hown hw hE hX hA (fun z9 hz H locs ls hP hD hS hl => ?_) ((a9 - 0) + 1) 0 (fi, ip, se, nt) (Nat.lt_succ_self _) (Nat.zero_le _) rfl _ _ _ (hP.sub [4, 3, 5, 0, 1, 2] rfl) (hD.sub [4, 3, 5, 0, 1, 2] (by decide) rfl) hS (lv_sub hl [3, 4, 6, 7, 0] rfl)
              refine lv_iconst (v := nI 1) hx hb d_MD_rule_196 (by decide +kernel) ?_
              refine lv_istore (lv' := [(6, .int (nI 1)), (0, .ref w0), (3, .int (nI b9))]) hx hb d_MD_rule_197 hl (by decide) rfl (fun ls hl => ?_)
              refine lp_k_MD_rule_199 w0 w1 w2 w3 w4 w5 w6 w7 w8 w9 w10 w11 w12 w13 w14 y te nt wb rc fp ft th sg gl fi ip se (nI a9) v (nI b9) w a9 (by omega) b9 hj1 hj2 z9 hx hb hml hown hw hE hX hA (fun z8 hz8 H locs ls hP hD hS hl => ?_) ((b9 - 1) + 1) 1 z9 (Nat.lt_succ_self _) (Nat.le_refl _) hj1 rfl _ _ _ (hP.sub [0, 1, 2, 3, 4, 5] rfl) (hD.sub [0, 1, 2, 3, 4, 5] (by decide) rfl) hS (lv_sub hl [1, 2, 0] rfl)
              refine lv_aload_n hx hb d_MD_rule_219 rfl (lv_at hl 0 rfl) ?_
              refine va_get (D := D) (ci := 5) (v := .int (nI 7)) (C := R_MD) (T := T_MD) (N := 22) hx hb hw in_MD hown hE.1 hP 0 rfl rfl 2 (by decide) (hw _ kw_763) (fun _ h9 => h9) rfl d_MD_rule_220 ?_
              have hP9 := hP.sub (ws' := [(w0, .inr (5, [.ref w1, .ref w2, .int (nI 7), .int (nI 2), .ref w3, .ref w4, .ref w5, .int z8.2.2.2, .int wb, .ref w6, .ref w7, .ref w8, .int rc, .ref w9, .ref w10, .ref w11, .ref w12, .ref w13, .ref w14, .int fp, .int ft, .int (nI (flN 0 2))])), (w1, .inl (cI, 100, .inl (bmL sg 100))), (w2, .inl (cI, 244, .inl (ruG gl v))), (w3, .inl (cI, 1600, .inl z8.1)), (w4, .inl (cI, 1600, .inl z8.2.1)), (w5, .inl (cI, 1600, .inl z8.2.2.1))]) [0, 1, 2, 3, 4, 5] rfl
              have hD9 := hD.sub (ws' := [(w0, .inr (5, [.ref w1, .ref w2, .int (nI 7), .int (nI 2), .ref w3, .ref w4, .ref w5, .int z8.2.2.2, .int wb, .ref w6, .ref w7, .ref w8, .int rc, .ref w9, .ref w10, .ref w11, .ref w12, .ref w13, .ref w14, .int fp, .int ft, .int (nI (flN 0 2))])), (w1, .inl (cI, 100, .inl (bmL sg 100))), (w2, .inl (cI, 244, .inl (ruG gl v))), (w3, .inl (cI, 1600, .inl z8.1)), (w4, .inl (cI, 1600, .inl z8.2.1)), (w5, .inl (cI, 1600, .inl z8.2.2.1))]) [0, 1, 2, 3, 4, 5] (by decide) rfl
              exact W.iret (v := nI 7) hx hb hr (fun t9 ht hW => ⟨⟨_, (bmL sg 100, ruG gl v, 7, nI 2, z8, nI 0), rfl, (by unfold mruV; dsimp only; rw [if_pos c_55, if_neg (show ¬ rrN (nI a9) v (nI b9) w = 0 from by unfold rrN; rw [if_neg c_7, if_neg c_17, if_neg c_27, if_neg c_32, if_neg c_40]; decide), nn_nI (show a9 < 2 ^ 31 by omega), nn_nI (show b9 < 2 ^ 31 by omega), ← hz, ← hz8]; try rfl), ⟨by rw [ht]; exact hP9, hD9⟩⟩, hS.F ht⟩) hS.2.2 d_MD_rule_223
            · skip
              refine lv_iconst (v := nI 1) hx hb d_MD_rule_58 (by decide +kernel) ?_
              refine lv_goto (tgt := 63) hx hb d_MD_rule_59 (by decide) ?_
              refine lv_iconst (v := nI 1) hx hb d_MD_rule_63 (by decide +kernel) ?_
              refine cl_i (wr := [(w1, .inl (cI, 100, .inl sg)), (w2, .inl (cI, 244, .inl gl)), (w3, .inl (cI, 1600, .inl fi)), (w4, .inl (cI, 1600, .inl ip)), (w5, .inl (cI, 1600, .inl se))]) (va_runV (As := [.int (nI 1), .int (nI 1)]) (rest := []) ⟨hx, hb, hml, hown, hw⟩ (k_MD_fails l D cI cJ w0 w1 w2 w3 w4 w5 w6 w7 w8 w9 w10 w11 w12 w13 w14 (nI y) te nt wb rc fp ft th 1 1 _ (by omega)) (cwV 2 hw (gV kw_836 kw_838 kw_20 kw_45 kw_839) rfl rfl rfl (by decide +kernel) ⟨Nat.le_of_ble_eq_true rfl, Nat.le_of_ble_eq_true rfl⟩) (pre_Vw (wc := [(w0, .inr (5, [.ref w1, .ref w2, .int (nI y), .int te, .ref w3, .ref w4, .ref w5, .int nt, .int wb, .ref w6, .ref w7, .ref w8, .int rc, .ref w9, .ref w10, .ref w11, .ref w12, .ref w13, .ref w14, .int fp, .int ft, .int th]))]) (q0 := 0) hE hX hA hP hD hS [0] (by decide) rfl rfl rfl rfl) rfl rfl hl.1 rfl (lv_room (Nat.le_of_ble_eq_true rfl)) d_MD_rule_64 ⟨Nat.le_of_ble_eq_true rfl, Nat.le_of_ble_eq_true rfl⟩) hP hD hS hA [0] [1, 2, 3, 4, 5] rfl rfl (by decide) (by decide) (fun r_27 u_r_27 H locs hr_27 hP hD hS => ?_)
              obtain rfl : nI 1 = r_27 := hr_27.symm
              have hP : va_P D vwCl [(w1, .inl (cI, 100, .inl sg)), (w2, .inl (cI, 244, .inl gl)), (w3, .inl (cI, 1600, .inl fi)), (w4, .inl (cI, 1600, .inl ip)), (w5, .inl (cI, 1600, .inl se)), (w0, .inr (5, [.ref w1, .ref w2, .int (nI y), .int te, .ref w3, .ref w4, .ref w5, .int nt, .int wb, .ref w6, .ref w7, .ref w8, .int rc, .ref w9, .ref w10, .ref w11, .ref w12, .ref w13, .ref w14, .int fp, .int ft, .int (nI (flN 1 1))]))] H := hP
              have hD : va_D A [(w1, .inl (cI, 100, .inl sg)), (w2, .inl (cI, 244, .inl gl)), (w3, .inl (cI, 1600, .inl fi)), (w4, .inl (cI, 1600, .inl ip)), (w5, .inl (cI, 1600, .inl se)), (w0, .inr (5, [.ref w1, .ref w2, .int (nI y), .int te, .ref w3, .ref w4, .ref w5, .int nt, .int wb, .ref w6, .ref w7, .ref w8, .int rc, .ref w9, .ref w10, .ref w11, .ref w12, .ref w13, .ref w14, .int fp, .int ft, .int (nI (flN 1 1))]))] := hD
              refine jn_if_ne (tgt := 88) (a := 1) hx hb d_MD_rule_67 (by decide) (by decide) (fun _ => ?_) (fun c9 => absurd c9 (by decide))
              refine lv_iconst (v := nI 0) hx hb d_MD_rule_88 (by decide +kernel) ?_
              have hP9 := hP.sub (ws' := [(w0, .inr (5, [.ref w1, .ref w2, .int (nI y), .int te, .ref w3, .ref w4, .ref w5, .int nt, .int wb, .ref w6, .ref w7, .ref w8, .int rc, .ref w9, .ref w10, .ref w11, .ref w12, .ref w13, .ref w14, .int fp, .int ft, .int (nI (flN 1 1))])), (w1, .inl (cI, 100, .inl sg)), (w2, .inl (cI, 244, .inl gl)), (w3, .inl (cI, 1600, .inl fi)), (w4, .inl (cI, 1600, .inl ip)), (w5, .inl (cI, 1600, .inl se))]) [5, 0, 1, 2, 3, 4] rfl
              have hD9 := hD.sub (ws' := [(w0, .inr (5, [.ref w1, .ref w2, .int (nI y), .int te, .ref w3, .ref w4, .ref w5, .int nt, .int wb, .ref w6, .ref w7, .ref w8, .int rc, .ref w9, .ref w10, .ref w11, .ref w12, .ref w13, .ref w14, .int fp, .int ft, .int (nI (flN 1 1))])), (w1, .inl (cI, 100, .inl sg)), (w2, .inl (cI, 244, .inl gl)), (w3, .inl (cI, 1600, .inl fi)), (w4, .inl (cI, 1600, .inl ip)), (w5, .inl (cI, 1600, .inl se))]) [5, 0, 1, 2, 3, 4] (by decide) rfl
              exact W.iret (v := nI 0) hx hb hr (fun t9 ht hW => ⟨⟨_, (sg, gl, y, te, (fi, ip, se, nt), nI 1), rfl, (by unfold mruV; dsimp only; rw [if_neg c_55]), ⟨by rw [ht]; exact hP9, hD9⟩⟩, hS.F ht⟩) hS.2.2 d_MD_rule_89
