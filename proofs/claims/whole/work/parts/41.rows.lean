theorem d_MD_show_0 : decode c_MD_show 0 = .ok (.iconst 0, 1) := by decide +kernel
theorem d_MD_show_1 : decode c_MD_show 1 = .ok (.istore_n 2, 1) := by decide +kernel
theorem d_MD_show_2 : decode c_MD_show 2 = .ok (.iload_n 2, 1) := by decide +kernel
theorem d_MD_show_3 : decode c_MD_show 3 = .ok (.sipush 1600, 3) := by decide +kernel
theorem d_MD_show_6 : decode c_MD_show 6 = .ok (.if_icmp .ge 44, 3) := by decide +kernel
theorem d_MD_show_9 : decode c_MD_show 9 = .ok (.aload_n 0, 1) := by decide +kernel
theorem d_MD_show_10 : decode c_MD_show 10 = .ok (.getfield 29, 3) := by decide +kernel
theorem d_MD_show_13 : decode c_MD_show 13 = .ok (.iload_n 2, 1) := by decide +kernel
theorem d_MD_show_14 : decode c_MD_show 14 = .ok (.aload_n 0, 1) := by decide +kernel
theorem d_MD_show_15 : decode c_MD_show 15 = .ok (.getfield 20, 3) := by decide +kernel
theorem d_MD_show_18 : decode c_MD_show 18 = .ok (.iload_n 2, 1) := by decide +kernel
theorem d_MD_show_19 : decode c_MD_show 19 = .ok (.iaload, 1) := by decide +kernel
theorem d_MD_show_20 : decode c_MD_show 20 = .ok (.ifCond .le 22, 3) := by decide +kernel
theorem d_MD_show_23 : decode c_MD_show 23 = .ok (.aload_n 0, 1) := by decide +kernel
theorem d_MD_show_24 : decode c_MD_show 24 = .ok (.getfield 26, 3) := by decide +kernel
theorem d_MD_show_27 : decode c_MD_show 27 = .ok (.iload_n 2, 1) := by decide +kernel
theorem d_MD_show_28 : decode c_MD_show 28 = .ok (.iaload, 1) := by decide +kernel
theorem d_MD_show_29 : decode c_MD_show 29 = .ok (.iconst 1, 1) := by decide +kernel
theorem d_MD_show_30 : decode c_MD_show 30 = .ok (.if_icmp .ne 12, 3) := by decide +kernel
theorem d_MD_show_33 : decode c_MD_show 33 = .ok (.aload_n 0, 1) := by decide +kernel
theorem d_MD_show_34 : decode c_MD_show 34 = .ok (.getfield 20, 3) := by decide +kernel
theorem d_MD_show_37 : decode c_MD_show 37 = .ok (.iload_n 2, 1) := by decide +kernel
theorem d_MD_show_38 : decode c_MD_show 38 = .ok (.iaload, 1) := by decide +kernel
theorem d_MD_show_39 : decode c_MD_show 39 = .ok (.goto 4, 3) := by decide +kernel
theorem d_MD_show_42 : decode c_MD_show 42 = .ok (.iconst 0, 1) := by decide +kernel
theorem d_MD_show_43 : decode c_MD_show 43 = .ok (.iastore, 1) := by decide +kernel
theorem d_MD_show_44 : decode c_MD_show 44 = .ok (.iinc 2 1, 3) := by decide +kernel
theorem d_MD_show_47 : decode c_MD_show 47 = .ok (.goto (-45), 3) := by decide +kernel
theorem d_MD_show_50 : decode c_MD_show 50 = .ok (.iconst 0, 1) := by decide +kernel
theorem d_MD_show_51 : decode c_MD_show 51 = .ok (.istore_n 2, 1) := by decide +kernel
theorem d_MD_show_52 : decode c_MD_show 52 = .ok (.iload_n 2, 1) := by decide +kernel
theorem d_MD_show_53 : decode c_MD_show 53 = .ok (.aload_n 0, 1) := by decide +kernel
theorem d_MD_show_54 : decode c_MD_show 54 = .ok (.getfield 35, 3) := by decide +kernel
theorem d_MD_show_57 : decode c_MD_show 57 = .ok (.iload_n 1, 1) := by decide +kernel
theorem d_MD_show_58 : decode c_MD_show 58 = .ok (.iaload, 1) := by decide +kernel
theorem d_MD_show_59 : decode c_MD_show 59 = .ok (.if_icmp .ge 42, 3) := by decide +kernel
theorem d_MD_show_62 : decode c_MD_show 62 = .ok (.aload_n 0, 1) := by decide +kernel
theorem d_MD_show_63 : decode c_MD_show 63 = .ok (.getfield 29, 3) := by decide +kernel
theorem d_MD_show_66 : decode c_MD_show 66 = .ok (.aload_n 0, 1) := by decide +kernel
theorem d_MD_show_67 : decode c_MD_show 67 = .ok (.getfield 32, 3) := by decide +kernel
theorem d_MD_show_70 : decode c_MD_show 70 = .ok (.bipush 30, 2) := by decide +kernel
theorem d_MD_show_72 : decode c_MD_show 72 = .ok (.iload_n 1, 1) := by decide +kernel
theorem d_MD_show_73 : decode c_MD_show 73 = .ok (.imul, 1) := by decide +kernel
theorem d_MD_show_74 : decode c_MD_show 74 = .ok (.iload_n 2, 1) := by decide +kernel
theorem d_MD_show_75 : decode c_MD_show 75 = .ok (.iadd, 1) := by decide +kernel
theorem d_MD_show_76 : decode c_MD_show 76 = .ok (.iaload, 1) := by decide +kernel
theorem d_MD_show_77 : decode c_MD_show 77 = .ok (.bipush 64, 2) := by decide +kernel
theorem d_MD_show_79 : decode c_MD_show 79 = .ok (.idiv, 1) := by decide +kernel
theorem d_MD_show_80 : decode c_MD_show 80 = .ok (.aload_n 0, 1) := by decide +kernel
theorem d_MD_show_81 : decode c_MD_show 81 = .ok (.getfield 32, 3) := by decide +kernel
theorem d_MD_show_84 : decode c_MD_show 84 = .ok (.bipush 30, 2) := by decide +kernel
theorem d_MD_show_86 : decode c_MD_show 86 = .ok (.iload_n 1, 1) := by decide +kernel
theorem d_MD_show_87 : decode c_MD_show 87 = .ok (.imul, 1) := by decide +kernel
theorem d_MD_show_88 : decode c_MD_show 88 = .ok (.iload_n 2, 1) := by decide +kernel
theorem d_MD_show_89 : decode c_MD_show 89 = .ok (.iadd, 1) := by decide +kernel
theorem d_MD_show_90 : decode c_MD_show 90 = .ok (.iaload, 1) := by decide +kernel
theorem d_MD_show_91 : decode c_MD_show 91 = .ok (.bipush 64, 2) := by decide +kernel
theorem d_MD_show_93 : decode c_MD_show 93 = .ok (.irem, 1) := by decide +kernel
theorem d_MD_show_94 : decode c_MD_show 94 = .ok (.iastore, 1) := by decide +kernel
theorem d_MD_show_95 : decode c_MD_show 95 = .ok (.iinc 2 1, 3) := by decide +kernel
theorem d_MD_show_98 : decode c_MD_show 98 = .ok (.goto (-46), 3) := by decide +kernel
theorem d_MD_show_101 : decode c_MD_show 101 = .ok (.return_, 1) := by decide +kernel
theorem d_MD_append_0 : decode c_MD_append 0 = .ok (.aload_n 0, 1) := by decide +kernel
theorem d_MD_append_1 : decode c_MD_append 1 = .ok (.getfield 35, 3) := by decide +kernel
theorem d_MD_append_4 : decode c_MD_append 4 = .ok (.iload_n 1, 1) := by decide +kernel
theorem d_MD_append_5 : decode c_MD_append 5 = .ok (.iaload, 1) := by decide +kernel
theorem d_MD_append_6 : decode c_MD_append 6 = .ok (.iconst 1, 1) := by decide +kernel
theorem d_MD_append_7 : decode c_MD_append 7 = .ok (.iadd, 1) := by decide +kernel
theorem d_MD_append_8 : decode c_MD_append 8 = .ok (.istore_n 3, 1) := by decide +kernel
theorem d_MD_append_9 : decode c_MD_append 9 = .ok (.iconst 0, 1) := by decide +kernel
theorem d_MD_append_10 : decode c_MD_append 10 = .ok (.istore 4, 2) := by decide +kernel
theorem d_MD_append_12 : decode c_MD_append 12 = .ok (.iconst 0, 1) := by decide +kernel
theorem d_MD_append_13 : decode c_MD_append 13 = .ok (.istore 5, 2) := by decide +kernel
theorem d_MD_append_15 : decode c_MD_append 15 = .ok (.iload 5, 2) := by decide +kernel
theorem d_MD_append_17 : decode c_MD_append 17 = .ok (.aload_n 0, 1) := by decide +kernel
theorem d_MD_append_18 : decode c_MD_append 18 = .ok (.getfield 35, 3) := by decide +kernel
theorem d_MD_append_21 : decode c_MD_append 21 = .ok (.iload_n 1, 1) := by decide +kernel
theorem d_MD_append_22 : decode c_MD_append 22 = .ok (.iaload, 1) := by decide +kernel
theorem d_MD_append_23 : decode c_MD_append 23 = .ok (.if_icmp .ge 59, 3) := by decide +kernel
theorem d_MD_append_26 : decode c_MD_append 26 = .ok (.aload_n 0, 1) := by decide +kernel
theorem d_MD_append_27 : decode c_MD_append 27 = .ok (.getfield 32, 3) := by decide +kernel
theorem d_MD_append_30 : decode c_MD_append 30 = .ok (.bipush 30, 2) := by decide +kernel
theorem d_MD_append_32 : decode c_MD_append 32 = .ok (.iload_n 1, 1) := by decide +kernel
theorem d_MD_append_33 : decode c_MD_append 33 = .ok (.imul, 1) := by decide +kernel
theorem d_MD_append_34 : decode c_MD_append 34 = .ok (.iload 5, 2) := by decide +kernel
theorem d_MD_append_36 : decode c_MD_append 36 = .ok (.iadd, 1) := by decide +kernel
theorem d_MD_append_37 : decode c_MD_append 37 = .ok (.iaload, 1) := by decide +kernel
theorem d_MD_append_38 : decode c_MD_append 38 = .ok (.istore 6, 2) := by decide +kernel
theorem d_MD_append_40 : decode c_MD_append 40 = .ok (.iload 6, 2) := by decide +kernel
theorem d_MD_append_42 : decode c_MD_append 42 = .ok (.iload_n 2, 1) := by decide +kernel
theorem d_MD_append_43 : decode c_MD_append 43 = .ok (.if_icmp .le 21, 3) := by decide +kernel
theorem d_MD_append_46 : decode c_MD_append 46 = .ok (.iload 4, 2) := by decide +kernel
theorem d_MD_append_48 : decode c_MD_append 48 = .ok (.iload 5, 2) := by decide +kernel
theorem d_MD_append_50 : decode c_MD_append 50 = .ok (.if_icmp .ne 14, 3) := by decide +kernel
theorem d_MD_append_53 : decode c_MD_append 53 = .ok (.aload_n 0, 1) := by decide +kernel
theorem d_MD_append_54 : decode c_MD_append 54 = .ok (.getfield 38, 3) := by decide +kernel
theorem d_MD_append_57 : decode c_MD_append 57 = .ok (.iload 4, 2) := by decide +kernel
theorem d_MD_append_59 : decode c_MD_append 59 = .ok (.iload_n 2, 1) := by decide +kernel
theorem d_MD_append_60 : decode c_MD_append 60 = .ok (.iastore, 1) := by decide +kernel
theorem d_MD_append_61 : decode c_MD_append 61 = .ok (.iinc 4 1, 3) := by decide +kernel
theorem d_MD_append_64 : decode c_MD_append 64 = .ok (.aload_n 0, 1) := by decide +kernel
theorem d_MD_append_65 : decode c_MD_append 65 = .ok (.getfield 38, 3) := by decide +kernel
theorem d_MD_append_68 : decode c_MD_append 68 = .ok (.iload 4, 2) := by decide +kernel
theorem d_MD_append_70 : decode c_MD_append 70 = .ok (.iload 6, 2) := by decide +kernel
theorem d_MD_append_72 : decode c_MD_append 72 = .ok (.iastore, 1) := by decide +kernel
theorem d_MD_append_73 : decode c_MD_append 73 = .ok (.iinc 4 1, 3) := by decide +kernel
theorem d_MD_append_76 : decode c_MD_append 76 = .ok (.iinc 5 1, 3) := by decide +kernel
theorem d_MD_append_79 : decode c_MD_append 79 = .ok (.goto (-64), 3) := by decide +kernel
theorem d_MD_append_82 : decode c_MD_append 82 = .ok (.iload 4, 2) := by decide +kernel
theorem d_MD_append_84 : decode c_MD_append 84 = .ok (.iload_n 3, 1) := by decide +kernel
theorem d_MD_append_85 : decode c_MD_append 85 = .ok (.if_icmp .ge 11, 3) := by decide +kernel
theorem d_MD_append_88 : decode c_MD_append 88 = .ok (.aload_n 0, 1) := by decide +kernel
theorem d_MD_append_89 : decode c_MD_append 89 = .ok (.getfield 38, 3) := by decide +kernel
theorem d_MD_append_92 : decode c_MD_append 92 = .ok (.iload 4, 2) := by decide +kernel
theorem d_MD_append_94 : decode c_MD_append 94 = .ok (.iload_n 2, 1) := by decide +kernel
theorem d_MD_append_95 : decode c_MD_append 95 = .ok (.iastore, 1) := by decide +kernel
theorem d_MD_append_96 : decode c_MD_append 96 = .ok (.iconst 0, 1) := by decide +kernel
theorem d_MD_append_97 : decode c_MD_append 97 = .ok (.istore 5, 2) := by decide +kernel
theorem d_MD_append_99 : decode c_MD_append 99 = .ok (.iload 5, 2) := by decide +kernel
theorem d_MD_append_101 : decode c_MD_append 101 = .ok (.aload_n 0, 1) := by decide +kernel
theorem d_MD_append_102 : decode c_MD_append 102 = .ok (.getfield 142, 3) := by decide +kernel
theorem d_MD_append_105 : decode c_MD_append 105 = .ok (.if_icmp .ge 83, 3) := by decide +kernel
theorem d_MD_append_108 : decode c_MD_append 108 = .ok (.aload_n 0, 1) := by decide +kernel
theorem d_MD_append_109 : decode c_MD_append 109 = .ok (.getfield 35, 3) := by decide +kernel
theorem d_MD_append_112 : decode c_MD_append 112 = .ok (.iload 5, 2) := by decide +kernel
theorem d_MD_append_114 : decode c_MD_append 114 = .ok (.iaload, 1) := by decide +kernel
theorem d_MD_append_115 : decode c_MD_append 115 = .ok (.iload_n 3, 1) := by decide +kernel
theorem d_MD_append_116 : decode c_MD_append 116 = .ok (.if_icmp .ne 7, 3) := by decide +kernel
theorem d_MD_append_119 : decode c_MD_append 119 = .ok (.iconst 1, 1) := by decide +kernel
theorem d_MD_append_120 : decode c_MD_append 120 = .ok (.goto 4, 3) := by decide +kernel
theorem d_MD_append_123 : decode c_MD_append 123 = .ok (.iconst 0, 1) := by decide +kernel
theorem d_MD_append_124 : decode c_MD_append 124 = .ok (.istore 6, 2) := by decide +kernel
theorem d_MD_append_126 : decode c_MD_append 126 = .ok (.iconst 0, 1) := by decide +kernel
theorem d_MD_append_127 : decode c_MD_append 127 = .ok (.istore 7, 2) := by decide +kernel
theorem d_MD_append_129 : decode c_MD_append 129 = .ok (.iload 7, 2) := by decide +kernel
theorem d_MD_append_131 : decode c_MD_append 131 = .ok (.iload_n 3, 1) := by decide +kernel
theorem d_MD_append_132 : decode c_MD_append 132 = .ok (.if_icmp .ge 44, 3) := by decide +kernel
theorem d_MD_append_135 : decode c_MD_append 135 = .ok (.iload 6, 2) := by decide +kernel
theorem d_MD_append_137 : decode c_MD_append 137 = .ok (.ifCond .eq 39, 3) := by decide +kernel
theorem d_MD_append_140 : decode c_MD_append 140 = .ok (.aload_n 0, 1) := by decide +kernel
theorem d_MD_append_141 : decode c_MD_append 141 = .ok (.getfield 32, 3) := by decide +kernel
theorem d_MD_append_144 : decode c_MD_append 144 = .ok (.bipush 30, 2) := by decide +kernel
theorem d_MD_append_146 : decode c_MD_append 146 = .ok (.iload 5, 2) := by decide +kernel
theorem d_MD_append_148 : decode c_MD_append 148 = .ok (.imul, 1) := by decide +kernel
theorem d_MD_append_149 : decode c_MD_append 149 = .ok (.iload 7, 2) := by decide +kernel
theorem d_MD_append_151 : decode c_MD_append 151 = .ok (.iadd, 1) := by decide +kernel
theorem d_MD_append_152 : decode c_MD_append 152 = .ok (.iaload, 1) := by decide +kernel
theorem d_MD_append_153 : decode c_MD_append 153 = .ok (.aload_n 0, 1) := by decide +kernel
theorem d_MD_append_154 : decode c_MD_append 154 = .ok (.getfield 38, 3) := by decide +kernel
theorem d_MD_append_157 : decode c_MD_append 157 = .ok (.iload 7, 2) := by decide +kernel
theorem d_MD_append_159 : decode c_MD_append 159 = .ok (.iaload, 1) := by decide +kernel
theorem d_MD_append_160 : decode c_MD_append 160 = .ok (.if_icmp .ne 7, 3) := by decide +kernel
theorem d_MD_append_163 : decode c_MD_append 163 = .ok (.iconst 1, 1) := by decide +kernel
theorem d_MD_append_164 : decode c_MD_append 164 = .ok (.goto 4, 3) := by decide +kernel
theorem d_MD_append_167 : decode c_MD_append 167 = .ok (.iconst 0, 1) := by decide +kernel
theorem d_MD_append_168 : decode c_MD_append 168 = .ok (.istore 6, 2) := by decide +kernel
theorem d_MD_append_170 : decode c_MD_append 170 = .ok (.iinc 7 1, 3) := by decide +kernel
theorem d_MD_append_173 : decode c_MD_append 173 = .ok (.goto (-44), 3) := by decide +kernel
theorem d_MD_append_176 : decode c_MD_append 176 = .ok (.iload 6, 2) := by decide +kernel
theorem d_MD_append_178 : decode c_MD_append 178 = .ok (.ifCond .eq 4, 3) := by decide +kernel
theorem d_MD_append_181 : decode c_MD_append 181 = .ok (.return_, 1) := by decide +kernel
theorem d_MD_append_182 : decode c_MD_append 182 = .ok (.iinc 5 1, 3) := by decide +kernel
theorem d_MD_append_185 : decode c_MD_append 185 = .ok (.goto (-86), 3) := by decide +kernel
theorem d_MD_append_188 : decode c_MD_append 188 = .ok (.aload_n 0, 1) := by decide +kernel
theorem d_MD_append_189 : decode c_MD_append 189 = .ok (.getfield 142, 3) := by decide +kernel
theorem d_MD_append_192 : decode c_MD_append 192 = .ok (.sipush 500, 3) := by decide +kernel
theorem d_MD_append_195 : decode c_MD_append 195 = .ok (.if_icmp .gt 70, 3) := by decide +kernel
theorem d_MD_append_198 : decode c_MD_append 198 = .ok (.aload_n 0, 1) := by decide +kernel
theorem d_MD_append_199 : decode c_MD_append 199 = .ok (.getfield 142, 3) := by decide +kernel
theorem d_MD_append_202 : decode c_MD_append 202 = .ok (.sipush 500, 3) := by decide +kernel
theorem d_MD_append_205 : decode c_MD_append 205 = .ok (.if_icmp .ge 50, 3) := by decide +kernel
theorem d_MD_append_208 : decode c_MD_append 208 = .ok (.iconst 0, 1) := by decide +kernel
theorem d_MD_append_209 : decode c_MD_append 209 = .ok (.istore 5, 2) := by decide +kernel
theorem d_MD_append_211 : decode c_MD_append 211 = .ok (.iload 5, 2) := by decide +kernel
theorem d_MD_append_213 : decode c_MD_append 213 = .ok (.iload_n 3, 1) := by decide +kernel
theorem d_MD_append_214 : decode c_MD_append 214 = .ok (.if_icmp .ge 31, 3) := by decide +kernel
theorem d_MD_append_217 : decode c_MD_append 217 = .ok (.aload_n 0, 1) := by decide +kernel
theorem d_MD_append_218 : decode c_MD_append 218 = .ok (.getfield 32, 3) := by decide +kernel
theorem d_MD_append_221 : decode c_MD_append 221 = .ok (.bipush 30, 2) := by decide +kernel
theorem d_MD_append_223 : decode c_MD_append 223 = .ok (.aload_n 0, 1) := by decide +kernel
theorem d_MD_append_224 : decode c_MD_append 224 = .ok (.getfield 142, 3) := by decide +kernel
theorem d_MD_append_227 : decode c_MD_append 227 = .ok (.imul, 1) := by decide +kernel
theorem d_MD_append_228 : decode c_MD_append 228 = .ok (.iload 5, 2) := by decide +kernel
theorem d_MD_append_230 : decode c_MD_append 230 = .ok (.iadd, 1) := by decide +kernel
theorem d_MD_append_231 : decode c_MD_append 231 = .ok (.aload_n 0, 1) := by decide +kernel
theorem d_MD_append_232 : decode c_MD_append 232 = .ok (.getfield 38, 3) := by decide +kernel
theorem d_MD_append_235 : decode c_MD_append 235 = .ok (.iload 5, 2) := by decide +kernel
theorem d_MD_append_237 : decode c_MD_append 237 = .ok (.iaload, 1) := by decide +kernel
theorem d_MD_append_238 : decode c_MD_append 238 = .ok (.iastore, 1) := by decide +kernel
theorem d_MD_append_239 : decode c_MD_append 239 = .ok (.iinc 5 1, 3) := by decide +kernel
theorem d_MD_append_242 : decode c_MD_append 242 = .ok (.goto (-31), 3) := by decide +kernel
theorem d_MD_append_245 : decode c_MD_append 245 = .ok (.aload_n 0, 1) := by decide +kernel
theorem d_MD_append_246 : decode c_MD_append 246 = .ok (.getfield 35, 3) := by decide +kernel
theorem d_MD_append_249 : decode c_MD_append 249 = .ok (.aload_n 0, 1) := by decide +kernel
theorem d_MD_append_250 : decode c_MD_append 250 = .ok (.getfield 142, 3) := by decide +kernel
theorem d_MD_append_253 : decode c_MD_append 253 = .ok (.iload_n 3, 1) := by decide +kernel
theorem d_MD_append_254 : decode c_MD_append 254 = .ok (.iastore, 1) := by decide +kernel
theorem d_MD_append_255 : decode c_MD_append 255 = .ok (.aload_n 0, 1) := by decide +kernel
theorem d_MD_append_256 : decode c_MD_append 256 = .ok (.dup, 1) := by decide +kernel
theorem d_MD_append_257 : decode c_MD_append 257 = .ok (.getfield 142, 3) := by decide +kernel
theorem d_MD_append_260 : decode c_MD_append 260 = .ok (.iconst 1, 1) := by decide +kernel
theorem d_MD_append_261 : decode c_MD_append 261 = .ok (.iadd, 1) := by decide +kernel
theorem d_MD_append_262 : decode c_MD_append 262 = .ok (.putfield 142, 3) := by decide +kernel
theorem d_MD_append_265 : decode c_MD_append 265 = .ok (.return_, 1) := by decide +kernel
def shV (fi se : Nat → Int32) (k : Nat) : Int32 := if fi k ≤ 0 then nI 0 else if se k = nI 1 then fi k else nI 0
def shL (fi se ot : Nat → Int32) (i : Nat) : Nat → Int32 := fun k => if k < i then shV fi se k else ot k
theorem shL_zero (fi se ot : Nat → Int32) : shL fi se ot 0 = ot := by
  funext k
  unfold shL
  rw [if_neg (by omega)]
theorem shL_succ {fi se ot : Nat → Int32} {i : Nat} {v : Int32} (h : v = shV fi se i) : upd (shL fi se ot i) i v = shL fi se ot (i + 1) := by
  funext k
  unfold upd shL
  by_cases e : k = i
  · subst e
    rw [if_pos rfl, if_pos (by omega), h]
  · rw [if_neg e]
    by_cases c : k < i
    · rw [if_pos c, if_pos (show k < i + 1 by omega)]
    · rw [if_neg c, if_neg (show ¬ k < i + 1 by omega)]
def shR (ro : Nat → Int32) (b : Nat) (f : Nat → Int32) : Nat → (Nat → Int32)
  | 0 => f
  | k + 1 => upd (shR ro b f k) (nn (ro (b + k)) / 64) (nI (nn (ro (b + k)) % 64))
/-- a row: how many pairs, and each is a place and a type -/
def okRw (ro si : Nat → Int32) (r : Nat) : Prop := si r = nI (nn (si r)) ∧ nn (si r) ≤ 30 ∧ ∀ k, k < nn (si r) → ro (30 * r + k) = nI (nn (ro (30 * r + k))) ∧ nn (ro (30 * r + k)) / 64 < 1600
def apS (ro : Nat → Int32) (b tl k : Nat) (z : (Nat → Int32) × Nat) : (Nat → Int32) × Nat :=
  if tl < nn (ro (b + k)) ∧ z.2 = k then (upd (upd z.1 z.2 (nI tl)) (z.2 + 1) (nI (nn (ro (b + k)))), z.2 + 2) else (upd z.1 z.2 (nI (nn (ro (b + k)))), z.2 + 1)
def apL (ro : Nat → Int32) (b tl : Nat) (f : Nat → Int32) : Nat → (Nat → Int32) × Nat
  | 0 => (f, 0)
  | k + 1 => apS ro b tl k (apL ro b tl f k)
def apF (ro : Nat → Int32) (b tl : Nat) (f : Nat → Int32) (s : Nat) : Nat → Int32 := if (apL ro b tl f s).2 < s + 1 then upd (apL ro b tl f s).1 (apL ro b tl f s).2 (nI tl) else (apL ro b tl f s).1
/-- row r is the fresh one -/
def eqR (ro si fr : Nat → Int32) (n r : Nat) : Prop := si r = nI n ∧ ∀ j, j < n → ro (30 * r + j) = fr j
def cpL (ro fr : Nat → Int32) (b k : Nat) : Nat → Int32 := fun i => if b ≤ i ∧ i < b + k then fr (i - b) else ro i
theorem cpL_zero (ro fr : Nat → Int32) (b : Nat) : cpL ro fr b 0 = ro := by
  funext i
  unfold cpL
  rw [if_neg (by omega)]
theorem cpL_succ (ro fr : Nat → Int32) (b k : Nat) : upd (cpL ro fr b k) (b + k) (fr k) = cpL ro fr b (k + 1) := by
  funext i
  unfold upd cpL
  by_cases e : i = b + k
  · subst e
    rw [if_pos rfl, if_pos (by omega), show b + k - b = k by omega]
  · rw [if_neg e]
    by_cases c : b ≤ i ∧ i < b + k
    · rw [if_pos c, if_pos (by omega)]
    · rw [if_neg c, if_neg (by omega)]
abbrev RW : Type := (Nat → Int32) × (Nat → Int32) × (Nat → Int32) × Nat
/-- a fresh row behind the others, if it is none of them -/
def apR (ro si fr : Nat → Int32) (n rc : Nat) (u : RW) : Prop :=
  ((∃ r, r < rc ∧ eqR ro si fr n r) ∧ u = (ro, si, fr, rc)) ∨ ((∀ r, r < rc → ¬ eqR ro si fr n r) ∧ u = if rc < 500 then (cpL ro fr (30 * rc) n, upd si rc (nI n), fr, rc + 1) else (ro, si, fr, rc + 1))
set_option maxHeartbeats 4000000 in
set_option maxRecDepth 100000 in
theorem lp_k_MD_show_2 {p : Program} {l : Launch} {e : Env} {s : State} {m : MethodId} {args : Array Value} {below : List Frame} {meth : Method} {c : Code} {D : va_G} {cI cJ : ClassId} {Q : State → Prop} {A : Nat → Prop} (w0 : Nat) (w1 : Nat) (w2 : Nat) (w3 : Nat) (w4 : Nat) (w5 : Nat) (w6 : Nat) (w7 : Nat) (w8 : Nat) (w9 : Nat) (w10 : Nat) (w11 : Nat) (w12 : Nat) (w13 : Nat) (w14 : Nat) (yt : Int32) (te : Int32) (nt : Int32) (wb : Int32) (rc : Int32) (fp : Int32) (ft : Int32) (th : Int32) (fi : Nat → Int32) (se : Nat → Int32) (ot : Nat → Int32) (ro : Nat → Int32) (si : Nat → Int32) (rr : Nat) (hrr : rr < 501) (hrw : okRw ro si rr)  (hx : p.tables.exec = Jvm.exec) (hb : c.code = c_MD_show) (hml : c.maxLocals = 3) (hown : s.vm.findClass R_MD = some m.cls) (hw : ∀ w ∈ gw, w.before args s = true) (hE : En D cI cJ s) (hX : Sx A s s.heap) (hA : ∀ q : Nat, s.heap.size ≤ q → A q)
    (kx0 : ∀ (o9 : Nat → Int32), (o9 = shL fi se ot 1600) → ∀ (H : Heap) (locs : List Loc) (ls : Array Slot), va_P D vwCl [(w0, .inr (5, [.ref w1, .ref w2, .int yt, .int te, .ref w3, .ref w4, .ref w5, .int nt, .int wb, .ref w6, .ref w7, .ref w8, .int rc, .ref w9, .ref w10, .ref w11, .ref w12, .ref w13, .ref w14, .int fp, .int ft, .int th])), (w3, .inl (cI, 1600, .inl fi)), (w5, .inl (cI, 1600, .inl se)), (w6, .inl (cI, 1600, .inl o9)), (w7, .inl (cI, 15030, .inl ro)), (w8, .inl (cI, 501, .inl si))] H → va_D A [(w0, .inr (5, [.ref w1, .ref w2, .int yt, .int te, .ref w3, .ref w4, .ref w5, .int nt, .int wb, .ref w6, .ref w7, .ref w8, .int rc, .ref w9, .ref w10, .ref w11, .ref w12, .ref w13, .ref w14, .int fp, .int ft, .int th])), (w3, .inl (cI, 1600, .inl fi)), (w5, .inl (cI, 1600, .inl se)), (w6, .inl (cI, 1600, .inl o9)), (w7, .inl (cI, 15030, .inl ro)), (w8, .inl (cI, 501, .inl si))] → va_S A s.heap H locs → lv_has ls 3 [(0, .ref w0), (1, .int (nI rr))] → W p l e ({ frames := 0, cells := 0, slots := 0, locals := 0 } : Room) s m args below meth c H locs 0 0 Q (F0 m 50 ls [])) :
    ∀ (fu : Nat) (pp : Nat) (o9 : Nat → Int32), 1600 - pp < fu → (pp ≤ 1600) → (o9 = shL fi se ot pp) → ∀ (H : Heap) (locs : List Loc) (ls : Array Slot), va_P D vwCl [(w0, .inr (5, [.ref w1, .ref w2, .int yt, .int te, .ref w3, .ref w4, .ref w5, .int nt, .int wb, .ref w6, .ref w7, .ref w8, .int rc, .ref w9, .ref w10, .ref w11, .ref w12, .ref w13, .ref w14, .int fp, .int ft, .int th])), (w3, .inl (cI, 1600, .inl fi)), (w5, .inl (cI, 1600, .inl se)), (w6, .inl (cI, 1600, .inl o9)), (w7, .inl (cI, 15030, .inl ro)), (w8, .inl (cI, 501, .inl si))] H → va_D A [(w0, .inr (5, [.ref w1, .ref w2, .int yt, .int te, .ref w3, .ref w4, .ref w5, .int nt, .int wb, .ref w6, .ref w7, .ref w8, .int rc, .ref w9, .ref w10, .ref w11, .ref w12, .ref w13, .ref w14, .int fp, .int ft, .int th])), (w3, .inl (cI, 1600, .inl fi)), (w5, .inl (cI, 1600, .inl se)), (w6, .inl (cI, 1600, .inl o9)), (w7, .inl (cI, 15030, .inl ro)), (w8, .inl (cI, 501, .inl si))] → va_S A s.heap H locs → lv_has ls 3 [(0, .ref w0), (1, .int (nI rr)), (2, .int (nI pp))] → W p l e ({ frames := 0, cells := 0, slots := 0, locals := 0 } : Room) s m args below meth c H locs 0 0 Q (F0 m 2 ls []) := by
  intro fu
  induction fu with
  | zero =>
    intro pp o9 h0
    exact absurd h0 (Nat.not_lt_zero _)
  | succ fu ih =>
    intro pp o9 hmu hpp ho9 H locs ls hP hD hS hl
    refine lv_iload_n hx hb d_MD_show_2 rfl (lv_at hl 2 rfl) ?_
    refine lv_sipush (v := nI 1600) hx hb d_MD_show_3 (by decide +kernel) ?_
    refine jn_icmp_ge (tgt := 50) (a := pp) (b := 1600) hx hb d_MD_show_6 (by decide) (by omega) (by omega) (fun c_6 => ?_) (fun c_6 => ?_)
    · skip
      exact kx0 o9 (by rw [ho9, show pp = 1600 by omega]) _ _ _ (hP.sub [0, 1, 2, 3, 4, 5] rfl) (hD.sub [0, 1, 2, 3, 4, 5] (by decide) rfl) hS (lv_sub hl [0, 1] rfl)
    · skip
      refine lv_aload_n hx hb d_MD_show_9 rfl (lv_at hl 0 rfl) ?_
      refine va_get (D := D) (ci := 5) (v := .ref w6) (C := R_MD) (T := T_MD) (N := 22) hx hb hw in_MD hown hE.1 hP 0 rfl rfl 9 (by decide) (hw _ kw_770) (fun _ h9 => h9) rfl d_MD_show_10 ?_
      refine lv_iload_n hx hb d_MD_show_13 rfl (lv_at hl 2 rfl) ?_
      refine lv_aload_n hx hb d_MD_show_14 rfl (lv_at hl 0 rfl) ?_
      refine va_get (D := D) (ci := 5) (v := .ref w3) (C := R_MD) (T := T_MD) (N := 22) hx hb hw in_MD hown hE.1 hP 0 rfl rfl 4 (by decide) (hw _ kw_765) (fun _ h9 => h9) rfl d_MD_show_15 ?_
      refine lv_iload_n hx hb d_MD_show_18 rfl (lv_at hl 2 rfl) ?_
      refine jn_iald (k := pp) hx hb hE.1 hP 1 0 rfl rfl (by omega) (by omega) d_MD_show_19 ?_
      refine lv_if_le (tgt := 42) hx hb d_MD_show_20 (by decide) (fun c_20 => ?_) (fun c_20 => ?_)
      · skip
        refine lv_iconst (v := nI 0) hx hb d_MD_show_42 (by decide +kernel) ?_
        refine jn_iast (k := pp) hx hb hE.1 hP hD hS 3 0 rfl rfl (by omega) (by omega) d_MD_show_43 (fun H locs hP hD hS => ?_)
        have hP : va_P D vwCl [(w0, .inr (5, [.ref w1, .ref w2, .int yt, .int te, .ref w3, .ref w4, .ref w5, .int nt, .int wb, .ref w6, .ref w7, .ref w8, .int rc, .ref w9, .ref w10, .ref w11, .ref w12, .ref w13, .ref w14, .int fp, .int ft, .int th])), (w3, .inl (cI, 1600, .inl fi)), (w5, .inl (cI, 1600, .inl se)), (w6, .inl (cI, 1600, .inl (upd o9 pp (nI 0)))), (w7, .inl (cI, 15030, .inl ro)), (w8, .inl (cI, 501, .inl si))] H := hP
        have hD : va_D A [(w0, .inr (5, [.ref w1, .ref w2, .int yt, .int te, .ref w3, .ref w4, .ref w5, .int nt, .int wb, .ref w6, .ref w7, .ref w8, .int rc, .ref w9, .ref w10, .ref w11, .ref w12, .ref w13, .ref w14, .int fp, .int ft, .int th])), (w3, .inl (cI, 1600, .inl fi)), (w5, .inl (cI, 1600, .inl se)), (w6, .inl (cI, 1600, .inl (upd o9 pp (nI 0)))), (w7, .inl (cI, 15030, .inl ro)), (w8, .inl (cI, 501, .inl si))] := hD
        refine lv_iinc (v := nI (pp + 1)) (lv' := [(2, .int (nI (pp + 1))), (0, .ref w0), (1, .int (nI rr))]) hx hb d_MD_show_44 hl (k := 2) rfl (jn_inc pp 1) (by decide) rfl (fun ls hl => ?_)
        refine lv_goto (tgt := 2) hx hb d_MD_show_47 (by decide) ?_
        exact ih (pp + 1) (upd o9 pp (nI 0)) (by omega) (by omega) (by rw [ho9]; exact shL_succ (by unfold shV; rw [if_pos c_20])) _ _ _ (hP.sub [0, 1, 2, 3, 4, 5] rfl) (hD.sub [0, 1, 2, 3, 4, 5] (by decide) rfl) hS (lv_sub hl [1, 2, 0] rfl)
      · skip
        refine lv_aload_n hx hb d_MD_show_23 rfl (lv_at hl 0 rfl) ?_
        refine va_get (D := D) (ci := 5) (v := .ref w5) (C := R_MD) (T := T_MD) (N := 22) hx hb hw in_MD hown hE.1 hP 0 rfl rfl 6 (by decide) (hw _ kw_767) (fun _ h9 => h9) rfl d_MD_show_24 ?_
        refine lv_iload_n hx hb d_MD_show_27 rfl (lv_at hl 2 rfl) ?_
        refine jn_iald (k := pp) hx hb hE.1 hP 2 0 rfl rfl (by omega) (by omega) d_MD_show_28 ?_
        refine lv_iconst (v := nI 1) hx hb d_MD_show_29 (by decide +kernel) ?_
        refine lv_icmp_ne (tgt := 42) hx hb d_MD_show_30 (by decide) (fun c_30 => ?_) (fun c_30 => ?_)
        · skip
          refine lv_iconst (v := nI 0) hx hb d_MD_show_42 (by decide +kernel) ?_
          refine jn_iast (k := pp) hx hb hE.1 hP hD hS 3 0 rfl rfl (by omega) (by omega) d_MD_show_43 (fun H locs hP hD hS => ?_)
          have hP : va_P D vwCl [(w0, .inr (5, [.ref w1, .ref w2, .int yt, .int te, .ref w3, .ref w4, .ref w5, .int nt, .int wb, .ref w6, .ref w7, .ref w8, .int rc, .ref w9, .ref w10, .ref w11, .ref w12, .ref w13, .ref w14, .int fp, .int ft, .int th])), (w3, .inl (cI, 1600, .inl fi)), (w5, .inl (cI, 1600, .inl se)), (w6, .inl (cI, 1600, .inl (upd o9 pp (nI 0)))), (w7, .inl (cI, 15030, .inl ro)), (w8, .inl (cI, 501, .inl si))] H := hP
          have hD : va_D A [(w0, .inr (5, [.ref w1, .ref w2, .int yt, .int te, .ref w3, .ref w4, .ref w5, .int nt, .int wb, .ref w6, .ref w7, .ref w8, .int rc, .ref w9, .ref w10, .ref w11, .ref w12, .ref w13, .ref w14, .int fp, .int ft, .int th])), (w3, .inl (cI, 1600, .inl fi)), (w5, .inl (cI, 1600, .inl se)), (w6, .inl (cI, 1600, .inl (upd o9 pp (nI 0)))), (w7, .inl (cI, 15030, .inl ro)), (w8, .inl (cI, 501, .inl si))] := hD
          refine lv_iinc (v := nI (pp + 1)) (lv' := [(2, .int (nI (pp + 1))), (0, .ref w0), (1, .int (nI rr))]) hx hb d_MD_show_44 hl (k := 2) rfl (jn_inc pp 1) (by decide) rfl (fun ls hl => ?_)
          refine lv_goto (tgt := 2) hx hb d_MD_show_47 (by decide) ?_
          exact ih (pp + 1) (upd o9 pp (nI 0)) (by omega) (by omega) (by rw [ho9]; exact shL_succ (by unfold shV; rw [if_neg c_20, if_neg c_30])) _ _ _ (hP.sub [0, 1, 2, 3, 4, 5] rfl) (hD.sub [0, 1, 2, 3, 4, 5] (by decide) rfl) hS (lv_sub hl [1, 2, 0] rfl)
        · skip
          refine lv_aload_n hx hb d_MD_show_33 rfl (lv_at hl 0 rfl) ?_
          refine va_get (D := D) (ci := 5) (v := .ref w3) (C := R_MD) (T := T_MD) (N := 22) hx hb hw in_MD hown hE.1 hP 0 rfl rfl 4 (by decide) (hw _ kw_765) (fun _ h9 => h9) rfl d_MD_show_34 ?_
          refine lv_iload_n hx hb d_MD_show_37 rfl (lv_at hl 2 rfl) ?_
          refine jn_iald (k := pp) hx hb hE.1 hP 1 0 rfl rfl (by omega) (by omega) d_MD_show_38 ?_
          refine lv_goto (tgt := 43) hx hb d_MD_show_39 (by decide) ?_
          refine jn_iast (k := pp) hx hb hE.1 hP hD hS 3 0 rfl rfl (by omega) (by omega) d_MD_show_43 (fun H locs hP hD hS => ?_)
          have hP : va_P D vwCl [(w0, .inr (5, [.ref w1, .ref w2, .int yt, .int te, .ref w3, .ref w4, .ref w5, .int nt, .int wb, .ref w6, .ref w7, .ref w8, .int rc, .ref w9, .ref w10, .ref w11, .ref w12, .ref w13, .ref w14, .int fp, .int ft, .int th])), (w3, .inl (cI, 1600, .inl fi)), (w5, .inl (cI, 1600, .inl se)), (w6, .inl (cI, 1600, .inl (upd o9 pp (fi pp)))), (w7, .inl (cI, 15030, .inl ro)), (w8, .inl (cI, 501, .inl si))] H := hP
          have hD : va_D A [(w0, .inr (5, [.ref w1, .ref w2, .int yt, .int te, .ref w3, .ref w4, .ref w5, .int nt, .int wb, .ref w6, .ref w7, .ref w8, .int rc, .ref w9, .ref w10, .ref w11, .ref w12, .ref w13, .ref w14, .int fp, .int ft, .int th])), (w3, .inl (cI, 1600, .inl fi)), (w5, .inl (cI, 1600, .inl se)), (w6, .inl (cI, 1600, .inl (upd o9 pp (fi pp)))), (w7, .inl (cI, 15030, .inl ro)), (w8, .inl (cI, 501, .inl si))] := hD
          refine lv_iinc (v := nI (pp + 1)) (lv' := [(2, .int (nI (pp + 1))), (0, .ref w0), (1, .int (nI rr))]) hx hb d_MD_show_44 hl (k := 2) rfl (jn_inc pp 1) (by decide) rfl (fun ls hl => ?_)
          refine lv_goto (tgt := 2) hx hb d_MD_show_47 (by decide) ?_
          exact ih (pp + 1) (upd o9 pp (fi pp)) (by omega) (by omega) (by rw [ho9]; exact shL_succ (by unfold shV; rw [if_neg c_20, if_pos c_30])) _ _ _ (hP.sub [0, 1, 2, 3, 4, 5] rfl) (hD.sub [0, 1, 2, 3, 4, 5] (by decide) rfl) hS (lv_sub hl [1, 2, 0] rfl)
set_option maxHeartbeats 4000000 in
set_option maxRecDepth 100000 in
theorem lp_k_MD_show_52 {p : Program} {l : Launch} {e : Env} {s : State} {m : MethodId} {args : Array Value} {below : List Frame} {meth : Method} {c : Code} {D : va_G} {cI cJ : ClassId} {Q : State → Prop} {A : Nat → Prop} (w0 : Nat) (w1 : Nat) (w2 : Nat) (w3 : Nat) (w4 : Nat) (w5 : Nat) (w6 : Nat) (w7 : Nat) (w8 : Nat) (w9 : Nat) (w10 : Nat) (w11 : Nat) (w12 : Nat) (w13 : Nat) (w14 : Nat) (yt : Int32) (te : Int32) (nt : Int32) (wb : Int32) (rc : Int32) (fp : Int32) (ft : Int32) (th : Int32) (fi : Nat → Int32) (se : Nat → Int32) (ot : Nat → Int32) (ro : Nat → Int32) (si : Nat → Int32) (rr : Nat) (hrr : rr < 501) (hrw : okRw ro si rr)  (hx : p.tables.exec = Jvm.exec) (hb : c.code = c_MD_show) (hml : c.maxLocals = 3) (hown : s.vm.findClass R_MD = some m.cls) (hw : ∀ w ∈ gw, w.before args s = true) (hE : En D cI cJ s) (hX : Sx A s s.heap) (hA : ∀ q : Nat, s.heap.size ≤ q → A q)
    (kx0 : ∀ (o9 : Nat → Int32), (o9 = shR ro (30 * rr) (shL fi se ot 1600) (nn (si rr))) → ∀ (H : Heap) (locs : List Loc) (ls : Array Slot), va_P D vwCl [(w0, .inr (5, [.ref w1, .ref w2, .int yt, .int te, .ref w3, .ref w4, .ref w5, .int nt, .int wb, .ref w6, .ref w7, .ref w8, .int rc, .ref w9, .ref w10, .ref w11, .ref w12, .ref w13, .ref w14, .int fp, .int ft, .int th])), (w3, .inl (cI, 1600, .inl fi)), (w5, .inl (cI, 1600, .inl se)), (w6, .inl (cI, 1600, .inl o9)), (w7, .inl (cI, 15030, .inl ro)), (w8, .inl (cI, 501, .inl si))] H → va_D A [(w0, .inr (5, [.ref w1, .ref w2, .int yt, .int te, .ref w3, .ref w4, .ref w5, .int nt, .int wb, .ref w6, .ref w7, .ref w8, .int rc, .ref w9, .ref w10, .ref w11, .ref w12, .ref w13, .ref w14, .int fp, .int ft, .int th])), (w3, .inl (cI, 1600, .inl fi)), (w5, .inl (cI, 1600, .inl se)), (w6, .inl (cI, 1600, .inl o9)), (w7, .inl (cI, 15030, .inl ro)), (w8, .inl (cI, 501, .inl si))] → va_S A s.heap H locs → lv_has ls 3 [] → W p l e ({ frames := 0, cells := 0, slots := 0, locals := 0 } : Room) s m args below meth c H locs 0 0 Q (F0 m 101 ls [])) :
    ∀ (fu : Nat) (k : Nat) (o9 : Nat → Int32), nn (si rr) - k < fu → (k ≤ nn (si rr)) → (o9 = shR ro (30 * rr) (shL fi se ot 1600) k) → ∀ (H : Heap) (locs : List Loc) (ls : Array Slot), va_P D vwCl [(w0, .inr (5, [.ref w1, .ref w2, .int yt, .int te, .ref w3, .ref w4, .ref w5, .int nt, .int wb, .ref w6, .ref w7, .ref w8, .int rc, .ref w9, .ref w10, .ref w11, .ref w12, .ref w13, .ref w14, .int fp, .int ft, .int th])), (w3, .inl (cI, 1600, .inl fi)), (w5, .inl (cI, 1600, .inl se)), (w6, .inl (cI, 1600, .inl o9)), (w7, .inl (cI, 15030, .inl ro)), (w8, .inl (cI, 501, .inl si))] H → va_D A [(w0, .inr (5, [.ref w1, .ref w2, .int yt, .int te, .ref w3, .ref w4, .ref w5, .int nt, .int wb, .ref w6, .ref w7, .ref w8, .int rc, .ref w9, .ref w10, .ref w11, .ref w12, .ref w13, .ref w14, .int fp, .int ft, .int th])), (w3, .inl (cI, 1600, .inl fi)), (w5, .inl (cI, 1600, .inl se)), (w6, .inl (cI, 1600, .inl o9)), (w7, .inl (cI, 15030, .inl ro)), (w8, .inl (cI, 501, .inl si))] → va_S A s.heap H locs → lv_has ls 3 [(0, .ref w0), (1, .int (nI rr)), (2, .int (nI k))] → W p l e ({ frames := 0, cells := 0, slots := 0, locals := 0 } : Room) s m args below meth c H locs 0 0 Q (F0 m 52 ls []) := by
  intro fu
  induction fu with
  | zero =>
    intro k o9 h0
    exact absurd h0 (Nat.not_lt_zero _)
  | succ fu ih =>
    intro k o9 hmu hk ho9 H locs ls hP hD hS hl
    have hb30 := hrw.2.1
    refine lv_iload_n hx hb d_MD_show_52 rfl (lv_at hl 2 rfl) ?_
    refine lv_aload_n hx hb d_MD_show_53 rfl (lv_at hl 0 rfl) ?_
    refine va_get (D := D) (ci := 5) (v := .ref w8) (C := R_MD) (T := T_MD) (N := 22) hx hb hw in_MD hown hE.1 hP 0 rfl rfl 11 (by decide) (hw _ kw_772) (fun _ h9 => h9) rfl d_MD_show_54 ?_
    refine lv_iload_n hx hb d_MD_show_57 rfl (lv_at hl 1 rfl) ?_
    refine jn_iald (k := rr) hx hb hE.1 hP 5 0 rfl rfl (by omega) (by omega) d_MD_show_58 ?_
    refine W.eq (g2 := F0 m 59 ls [.int (nI (nn (si rr))), .int (nI k)]) (by rw [← hrw.1]) ?_
    refine jn_icmp_ge (tgt := 101) (a := k) (b := (nn (si rr))) hx hb d_MD_show_59 (by decide) (by omega) (by omega) (fun c_59 => ?_) (fun c_59 => ?_)
    · skip
      exact kx0 o9 (by rw [ho9, show k = nn (si rr) by omega]) _ _ _ (hP.sub [0, 1, 2, 3, 4, 5] rfl) (hD.sub [0, 1, 2, 3, 4, 5] (by decide) rfl) hS (lv_sub hl [] rfl)
    · skip
      have hv := hrw.2.2 k (by omega)
      have hv2 := hv.2
      refine lv_aload_n hx hb d_MD_show_62 rfl (lv_at hl 0 rfl) ?_
      refine va_get (D := D) (ci := 5) (v := .ref w6) (C := R_MD) (T := T_MD) (N := 22) hx hb hw in_MD hown hE.1 hP 0 rfl rfl 9 (by decide) (hw _ kw_770) (fun _ h9 => h9) rfl d_MD_show_63 ?_
      refine lv_aload_n hx hb d_MD_show_66 rfl (lv_at hl 0 rfl) ?_
      refine va_get (D := D) (ci := 5) (v := .ref w7) (C := R_MD) (T := T_MD) (N := 22) hx hb hw in_MD hown hE.1 hP 0 rfl rfl 10 (by decide) (hw _ kw_771) (fun _ h9 => h9) rfl d_MD_show_67 ?_
      refine lv_bipush (v := nI 30) hx hb d_MD_show_70 (by decide +kernel) ?_
      refine lv_iload_n hx hb d_MD_show_72 rfl (lv_at hl 1 rfl) ?_
      refine jn_imul (a := 30) (b := rr) hx hb d_MD_show_73 ?_
      refine lv_iload_n hx hb d_MD_show_74 rfl (lv_at hl 2 rfl) ?_
      refine jn_iadd (a := (30 * rr)) (b := k) hx hb d_MD_show_75 ?_
      refine jn_iald (k := ((30 * rr) + k)) hx hb hE.1 hP 4 0 rfl rfl (by omega) (by omega) d_MD_show_76 ?_
      refine W.eq (g2 := F0 m 77 ls [.int (nI (nn (ro (30 * rr + k)))), .ref w6]) (by rw [← hv.1]) ?_
      refine lv_bipush (v := nI 64) hx hb d_MD_show_77 (by decide +kernel) ?_
      refine jn_idiv (a := (nn (ro (30 * rr + k)))) (b := 64) hx hb d_MD_show_79 (by omega) (by omega) (by omega) ?_
      refine lv_aload_n hx hb d_MD_show_80 rfl (lv_at hl 0 rfl) ?_
      refine va_get (D := D) (ci := 5) (v := .ref w7) (C := R_MD) (T := T_MD) (N := 22) hx hb hw in_MD hown hE.1 hP 0 rfl rfl 10 (by decide) (hw _ kw_771) (fun _ h9 => h9) rfl d_MD_show_81 ?_
      refine lv_bipush (v := nI 30) hx hb d_MD_show_84 (by decide +kernel) ?_
      refine lv_iload_n hx hb d_MD_show_86 rfl (lv_at hl 1 rfl) ?_
      refine jn_imul (a := 30) (b := rr) hx hb d_MD_show_87 ?_
      refine lv_iload_n hx hb d_MD_show_88 rfl (lv_at hl 2 rfl) ?_
      refine jn_iadd (a := (30 * rr)) (b := k) hx hb d_MD_show_89 ?_
      refine jn_iald (k := ((30 * rr) + k)) hx hb hE.1 hP 4 0 rfl rfl (by omega) (by omega) d_MD_show_90 ?_
      refine W.eq (g2 := F0 m 91 ls [.int (nI (nn (ro (30 * rr + k)))), .int (nI ((nn (ro (30 * rr + k))) / 64)), .ref w6]) (by rw [← hv.1]) ?_
      refine lv_bipush (v := nI 64) hx hb d_MD_show_91 (by decide +kernel) ?_
      refine jn_irem (a := (nn (ro (30 * rr + k)))) (b := 64) hx hb d_MD_show_93 (by omega) (by omega) (by omega) ?_
      refine jn_iast (k := ((nn (ro (30 * rr + k))) / 64)) hx hb hE.1 hP hD hS 3 0 rfl rfl (by omega) (by omega) d_MD_show_94 (fun H locs hP hD hS => ?_)
      have hP : va_P D vwCl [(w0, .inr (5, [.ref w1, .ref w2, .int yt, .int te, .ref w3, .ref w4, .ref w5, .int nt, .int wb, .ref w6, .ref w7, .ref w8, .int rc, .ref w9, .ref w10, .ref w11, .ref w12, .ref w13, .ref w14, .int fp, .int ft, .int th])), (w3, .inl (cI, 1600, .inl fi)), (w5, .inl (cI, 1600, .inl se)), (w6, .inl (cI, 1600, .inl (upd o9 ((nn (ro (30 * rr + k))) / 64) (nI ((nn (ro (30 * rr + k))) % 64))))), (w7, .inl (cI, 15030, .inl ro)), (w8, .inl (cI, 501, .inl si))] H := hP
      have hD : va_D A [(w0, .inr (5, [.ref w1, .ref w2, .int yt, .int te, .ref w3, .ref w4, .ref w5, .int nt, .int wb, .ref w6, .ref w7, .ref w8, .int rc, .ref w9, .ref w10, .ref w11, .ref w12, .ref w13, .ref w14, .int fp, .int ft, .int th])), (w3, .inl (cI, 1600, .inl fi)), (w5, .inl (cI, 1600, .inl se)), (w6, .inl (cI, 1600, .inl (upd o9 ((nn (ro (30 * rr + k))) / 64) (nI ((nn (ro (30 * rr + k))) % 64))))), (w7, .inl (cI, 15030, .inl ro)), (w8, .inl (cI, 501, .inl si))] := hD
      refine lv_iinc (v := nI (k + 1)) (lv' := [(2, .int (nI (k + 1))), (0, .ref w0), (1, .int (nI rr))]) hx hb d_MD_show_95 hl (k := 2) rfl (jn_inc k 1) (by decide) rfl (fun ls hl => ?_)
      refine lv_goto (tgt := 52) hx hb d_MD_show_98 (by decide) ?_
      exact ih (k + 1) (upd o9 ((nn (ro (30 * rr + k))) / 64) (nI ((nn (ro (30 * rr + k))) % 64))) (by omega) (by omega) (by rw [shR, ho9]) _ _ _ (hP.sub [0, 1, 2, 3, 4, 5] rfl) (hD.sub [0, 1, 2, 3, 4, 5] (by decide) rfl) hS (lv_sub hl [1, 2, 0] rfl)
set_option maxHeartbeats 4000000 in
set_option maxRecDepth 100000 in
/-- show -/
theorem k_MD_show (l : Launch) (D : va_G) (cI cJ : ClassId) (w0 : Nat) (w1 : Nat) (w2 : Nat) (w3 : Nat) (w4 : Nat) (w5 : Nat) (w6 : Nat) (w7 : Nat) (w8 : Nat) (w9 : Nat) (w10 : Nat) (w11 : Nat) (w12 : Nat) (w13 : Nat) (w14 : Nat) (yt : Int32) (te : Int32) (nt : Int32) (wb : Int32) (rc : Int32) (fp : Int32) (ft : Int32) (th : Int32) (fi : Nat → Int32) (se : Nat → Int32) (ot : Nat → Int32) (ro : Nat → Int32) (si : Nat → Int32) (rr : Nat) (sz : Nat) (hrr : rr < 501) (hrw : okRw ro si rr) : Met l y_MD_show ws_MD_show ({ frames := 0, cells := 0, slots := 0, locals := 0 } : Room) (va_Pc [.ref w0, .int (nI rr)] (Pw D cI cJ [(w0, .inr (5, [.ref w1, .ref w2, .int yt, .int te, .ref w3, .ref w4, .ref w5, .int nt, .int wb, .ref w6, .ref w7, .ref w8, .int rc, .ref w9, .ref w10, .ref w11, .ref w12, .ref w13, .ref w14, .int fp, .int ft, .int th])), (w3, .inl (cI, 1600, .inl fi)), (w5, .inl (cI, 1600, .inl se)), (w6, .inl (cI, 1600, .inl ot)), (w7, .inl (cI, 15030, .inl ro)), (w8, .inl (cI, 501, .inl si))] sz)) (va_Qv (fun (u9 : Nat → Int32) => u9 = shR ro (30 * rr) (shL fi se ot 1600) (nn (si rr))) (fun u9 t9 => Bw D (va_A [(w0, .inr (5, [.ref w1, .ref w2, .int yt, .int te, .ref w3, .ref w4, .ref w5, .int nt, .int wb, .ref w6, .ref w7, .ref w8, .int rc, .ref w9, .ref w10, .ref w11, .ref w12, .ref w13, .ref w14, .int fp, .int ft, .int th])), (w3, .inl (cI, 1600, .inl fi)), (w5, .inl (cI, 1600, .inl se)), (w6, .inl (cI, 1600, .inl ot)), (w7, .inl (cI, 15030, .inl ro)), (w8, .inl (cI, 501, .inl si))] sz) [(w0, .inr (5, [.ref w1, .ref w2, .int yt, .int te, .ref w3, .ref w4, .ref w5, .int nt, .int wb, .ref w6, .ref w7, .ref w8, .int rc, .ref w9, .ref w10, .ref w11, .ref w12, .ref w13, .ref w14, .int fp, .int ft, .int th])), (w3, .inl (cI, 1600, .inl fi)), (w5, .inl (cI, 1600, .inl se)), (w6, .inl (cI, 1600, .inl u9)), (w7, .inl (cI, 15030, .inl ro)), (w8, .inl (cI, 501, .inl si))] t9) (va_A [(w0, .inr (5, [.ref w1, .ref w2, .int yt, .int te, .ref w3, .ref w4, .ref w5, .int nt, .int wb, .ref w6, .ref w7, .ref w8, .int rc, .ref w9, .ref w10, .ref w11, .ref w12, .ref w13, .ref w14, .int fp, .int ft, .int th])), (w3, .inl (cI, 1600, .inl fi)), (w5, .inl (cI, 1600, .inl se)), (w6, .inl (cI, 1600, .inl ot)), (w7, .inl (cI, 15030, .inl ro)), (w8, .inl (cI, 501, .inl si))] sz)) 0 0 (va_A [(w0, .inr (5, [.ref w1, .ref w2, .int yt, .int te, .ref w3, .ref w4, .ref w5, .int nt, .int wb, .ref w6, .ref w7, .ref w8, .int rc, .ref w9, .ref w10, .ref w11, .ref w12, .ref w13, .ref w14, .int fp, .int ft, .int th])), (w3, .inl (cI, 1600, .inl fi)), (w5, .inl (cI, 1600, .inl se)), (w6, .inl (cI, 1600, .inl ot)), (w7, .inl (cI, 15030, .inl ro)), (w8, .inl (cI, 501, .inl si))] sz) := by
  refine Met.ofW (cc := c_MD_show) (maxL := 3) (ret := none) (by decide) rfl ?_
  intro p e s m args below meth c s₁ B hml hv
  obtain ⟨rfl, hsz, hE, hP, hD0, hX⟩ := hv
  have hx := B.exec
  have hb := B.bytes
  have hr := B.returns
  have hw : ∀ w ∈ gw, w.before _ s = true := fun w h => atoms_spec (ws := ws_MD_show) B.pre w (List.mem_cons_of_mem _ h)
  have hown : s.vm.findClass R_MD = some m.cls := findClass_of_methodNamed B.named
  have hlocks := B.notSynchronized
  subst hsz
  have hD := hD0.self (sz := s.heap.size)
  generalize hAe : va_A [(w0, .inr (5, [.ref w1, .ref w2, .int yt, .int te, .ref w3, .ref w4, .ref w5, .int nt, .int wb, .ref w6, .ref w7, .ref w8, .int rc, .ref w9, .ref w10, .ref w11, .ref w12, .ref w13, .ref w14, .int fp, .int ft, .int th])), (w3, .inl (cI, 1600, .inl fi)), (w5, .inl (cI, 1600, .inl se)), (w6, .inl (cI, 1600, .inl ot)), (w7, .inl (cI, 15030, .inl ro)), (w8, .inl (cI, 501, .inl si))] s.heap.size = A at hD hX ⊢
  have hA : ∀ q : Nat, s.heap.size ≤ q → A q := fun q h => by rw [← hAe]; exact Or.inr h
  have hS : va_S A s.heap s.heap [] := va_S.rf
  have hP : va_P D vwCl [(w0, .inr (5, [.ref w1, .ref w2, .int yt, .int te, .ref w3, .ref w4, .ref w5, .int nt, .int wb, .ref w6, .ref w7, .ref w8, .int rc, .ref w9, .ref w10, .ref w11, .ref w12, .ref w13, .ref w14, .int fp, .int ft, .int th])), (w3, .inl (cI, 1600, .inl fi)), (w5, .inl (cI, 1600, .inl se)), (w6, .inl (cI, 1600, .inl ot)), (w7, .inl (cI, 15030, .inl ro)), (w8, .inl (cI, 501, .inl si))] s.heap := hP
  have hl := lv_entry ([.ref w0, .int (nI rr)]) (n := 3) (Nat.le_of_ble_eq_true rfl)
  rw [lg_entry_eq]
  generalize (lg_sl ([.ref w0, .int (nI rr)]) ++ List.replicate (3 - (lg_sl ([.ref w0, .int (nI rr)])).length) Slot.unset).toArray = ls at hl ⊢
  have hl : lv_has ls 3 [(0, .ref w0), (1, .int (nI rr))] := hl
  refine lv_iconst (v := nI 0) hx hb d_MD_show_0 (by decide +kernel) ?_
  refine lv_istore_n (lv' := [(2, .int (nI 0)), (0, .ref w0), (1, .int (nI rr))]) hx hb d_MD_show_1 rfl hl (by decide) rfl (fun ls hl => ?_)
  refine lp_k_MD_show_2 w0 w1 w2 w3 w4 w5 w6 w7 w8 w9 w10 w11 w12 w13 w14 yt te nt wb rc fp ft th fi se ot ro si rr hrr hrw hx hb hml hown hw hE hX hA (fun o9 ho9 H locs ls hP hD hS hl => ?_) ((1600 - 0) + 1) 0 ot (Nat.lt_succ_self _) (Nat.zero_le _) (shL_zero _ _ _).symm _ _ _ (hP.sub [0, 1, 2, 3, 4, 5] rfl) (hD.sub [0, 1, 2, 3, 4, 5] (by decide) rfl) hS (lv_sub hl [1, 2, 0] rfl)
  refine lv_iconst (v := nI 0) hx hb d_MD_show_50 (by decide +kernel) ?_
  refine lv_istore_n (lv' := [(2, .int (nI 0)), (0, .ref w0), (1, .int (nI rr))]) hx hb d_MD_show_51 rfl hl (by decide) rfl (fun ls hl => ?_)
  refine lp_k_MD_show_52 w0 w1 w2 w3 w4 w5 w6 w7 w8 w9 w10 w11 w12 w13 w14 yt te nt wb rc fp ft th fi se ot ro si rr hrr hrw hx hb hml hown hw hE hX hA (fun o9 ho9 H locs ls hP hD hS hl => ?_) ((nn (si rr) - 0) + 1) 0 o9 (Nat.lt_succ_self _) (Nat.zero_le _) ho9 _ _ _ (hP.sub [0, 1, 2, 3, 4, 5] rfl) (hD.sub [0, 1, 2, 3, 4, 5] (by decide) rfl) hS (lv_sub hl [1, 2, 0] rfl)
  have hP9 := hP.sub (ws' := [(w0, .inr (5, [.ref w1, .ref w2, .int yt, .int te, .ref w3, .ref w4, .ref w5, .int nt, .int wb, .ref w6, .ref w7, .ref w8, .int rc, .ref w9, .ref w10, .ref w11, .ref w12, .ref w13, .ref w14, .int fp, .int ft, .int th])), (w3, .inl (cI, 1600, .inl fi)), (w5, .inl (cI, 1600, .inl se)), (w6, .inl (cI, 1600, .inl o9)), (w7, .inl (cI, 15030, .inl ro)), (w8, .inl (cI, 501, .inl si))]) [0, 1, 2, 3, 4, 5] rfl
  have hD9 := hD.sub (ws' := [(w0, .inr (5, [.ref w1, .ref w2, .int yt, .int te, .ref w3, .ref w4, .ref w5, .int nt, .int wb, .ref w6, .ref w7, .ref w8, .int rc, .ref w9, .ref w10, .ref w11, .ref w12, .ref w13, .ref w14, .int fp, .int ft, .int th])), (w3, .inl (cI, 1600, .inl fi)), (w5, .inl (cI, 1600, .inl se)), (w6, .inl (cI, 1600, .inl o9)), (w7, .inl (cI, 15030, .inl ro)), (w8, .inl (cI, 501, .inl si))]) [0, 1, 2, 3, 4, 5] (by decide) rfl
  exact W.vret hx hb hr (fun t9 ht hW => ⟨⟨o9, rfl, ho9, ⟨by rw [ht]; exact hP9, hD9⟩⟩, hS.F ht⟩) hS.2.2 d_MD_show_101
set_option maxHeartbeats 4000000 in
set_option maxRecDepth 100000 in
theorem lp_k_MD_append_15 {p : Program} {l : Launch} {e : Env} {s : State} {m : MethodId} {args : Array Value} {below : List Frame} {meth : Method} {c : Code} {D : va_G} {cI cJ : ClassId} {Q : State → Prop} {A : Nat → Prop} (w0 : Nat) (w1 : Nat) (w2 : Nat) (w3 : Nat) (w4 : Nat) (w5 : Nat) (w6 : Nat) (w7 : Nat) (w8 : Nat) (w9 : Nat) (w10 : Nat) (w11 : Nat) (w12 : Nat) (w13 : Nat) (w14 : Nat) (yt : Int32) (te : Int32) (nt : Int32) (wb : Int32) (rc : Nat) (fp : Int32) (ft : Int32) (th : Int32) (ro : Nat → Int32) (si : Nat → Int32) (fr : Nat → Int32) (rr : Nat) (tl : Nat) (hrr : rr < 501) (hrw : okRw ro si rr) (hs9 : nn (si rr) ≤ 29) (hrc : rc ≤ 500) (htl : tl < 2 ^ 31)  (hx : p.tables.exec = Jvm.exec) (hb : c.code = c_MD_append) (hml : c.maxLocals = 8) (hown : s.vm.findClass R_MD = some m.cls) (hw : ∀ w ∈ gw, w.before args s = true) (hE : En D cI cJ s) (hX : Sx A s s.heap) (hA : ∀ q : Nat, s.heap.size ≤ q → A q)
    (kx0 : ∀ (f9 : Nat → Int32) (a9 : Nat), ((f9, a9) = apL ro (30 * rr) tl fr (nn (si rr))) → (nn (si rr) ≤ a9) → (a9 ≤ nn (si rr) + 1) → ∀ (H : Heap) (locs : List Loc) (ls : Array Slot), va_P D vwCl [(w0, .inr (5, [.ref w1, .ref w2, .int yt, .int te, .ref w3, .ref w4, .ref w5, .int nt, .int wb, .ref w6, .ref w7, .ref w8, .int (nI rc), .ref w9, .ref w10, .ref w11, .ref w12, .ref w13, .ref w14, .int fp, .int ft, .int th])), (w7, .inl (cI, 15030, .inl ro)), (w8, .inl (cI, 501, .inl si)), (w9, .inl (cI, 30, .inl f9))] H → va_D A [(w0, .inr (5, [.ref w1, .ref w2, .int yt, .int te, .ref w3, .ref w4, .ref w5, .int nt, .int wb, .ref w6, .ref w7, .ref w8, .int (nI rc), .ref w9, .ref w10, .ref w11, .ref w12, .ref w13, .ref w14, .int fp, .int ft, .int th])), (w7, .inl (cI, 15030, .inl ro)), (w8, .inl (cI, 501, .inl si)), (w9, .inl (cI, 30, .inl f9))] → va_S A s.heap H locs → lv_has ls 8 [(0, .ref w0), (2, .int (nI tl)), (3, .int (nI (nn (si rr) + 1))), (4, .int (nI a9))] → W p l e ({ frames := 0, cells := 0, slots := 0, locals := 0 } : Room) s m args below meth c H locs 0 0 Q (F0 m 82 ls [])) :
    ∀ (fu : Nat) (k : Nat) (f9 : Nat → Int32) (a9 : Nat), nn (si rr) - k < fu → (k ≤ nn (si rr)) → ((f9, a9) = apL ro (30 * rr) tl fr k) → (k ≤ a9) → (a9 ≤ k + 1) → ∀ (H : Heap) (locs : List Loc) (ls : Array Slot), va_P D vwCl [(w0, .inr (5, [.ref w1, .ref w2, .int yt, .int te, .ref w3, .ref w4, .ref w5, .int nt, .int wb, .ref w6, .ref w7, .ref w8, .int (nI rc), .ref w9, .ref w10, .ref w11, .ref w12, .ref w13, .ref w14, .int fp, .int ft, .int th])), (w7, .inl (cI, 15030, .inl ro)), (w8, .inl (cI, 501, .inl si)), (w9, .inl (cI, 30, .inl f9))] H → va_D A [(w0, .inr (5, [.ref w1, .ref w2, .int yt, .int te, .ref w3, .ref w4, .ref w5, .int nt, .int wb, .ref w6, .ref w7, .ref w8, .int (nI rc), .ref w9, .ref w10, .ref w11, .ref w12, .ref w13, .ref w14, .int fp, .int ft, .int th])), (w7, .inl (cI, 15030, .inl ro)), (w8, .inl (cI, 501, .inl si)), (w9, .inl (cI, 30, .inl f9))] → va_S A s.heap H locs → lv_has ls 8 [(0, .ref w0), (1, .int (nI rr)), (2, .int (nI tl)), (3, .int (nI (nn (si rr) + 1))), (4, .int (nI a9)), (5, .int (nI k))] → W p l e ({ frames := 0, cells := 0, slots := 0, locals := 0 } : Room) s m args below meth c H locs 0 0 Q (F0 m 15 ls []) := by
  intro fu
  induction fu with
  | zero =>
    intro k f9 a9 h0
    exact absurd h0 (Nat.not_lt_zero _)
  | succ fu ih =>
    intro k f9 a9 hmu hk hz ha1 ha2 H locs ls hP hD hS hl
    refine lv_iload hx hb d_MD_append_15 (lv_at hl 5 rfl) ?_
    refine lv_aload_n hx hb d_MD_append_17 rfl (lv_at hl 0 rfl) ?_
    refine va_get (D := D) (ci := 5) (v := .ref w8) (C := R_MD) (T := T_MD) (N := 22) hx hb hw in_MD hown hE.1 hP 0 rfl rfl 11 (by decide) (hw _ kw_772) (fun _ h9 => h9) rfl d_MD_append_18 ?_
    refine lv_iload_n hx hb d_MD_append_21 rfl (lv_at hl 1 rfl) ?_
    refine jn_iald (k := rr) hx hb hE.1 hP 2 0 rfl rfl (by omega) (by omega) d_MD_append_22 ?_
    refine W.eq (g2 := F0 m 23 ls [.int (nI (nn (si rr))), .int (nI k)]) (by rw [← hrw.1]) ?_
    refine jn_icmp_ge (tgt := 82) (a := k) (b := (nn (si rr))) hx hb d_MD_append_23 (by decide) (by omega) (by omega) (fun c_23 => ?_) (fun c_23 => ?_)
    · skip
      exact kx0 f9 a9 (by rw [hz, show k = nn (si rr) by omega]) (by omega) (by omega) _ _ _ (hP.sub [0, 1, 2, 3] rfl) (hD.sub [0, 1, 2, 3] (by decide) rfl) hS (lv_sub hl [0, 2, 3, 4] rfl)
    · skip
      have hv := hrw.2.2 k (by omega)
      have hv2 := hv.2
      refine lv_aload_n hx hb d_MD_append_26 rfl (lv_at hl 0 rfl) ?_
      refine va_get (D := D) (ci := 5) (v := .ref w7) (C := R_MD) (T := T_MD) (N := 22) hx hb hw in_MD hown hE.1 hP 0 rfl rfl 10 (by decide) (hw _ kw_771) (fun _ h9 => h9) rfl d_MD_append_27 ?_
      refine lv_bipush (v := nI 30) hx hb d_MD_append_30 (by decide +kernel) ?_
      refine lv_iload_n hx hb d_MD_append_32 rfl (lv_at hl 1 rfl) ?_
      refine jn_imul (a := 30) (b := rr) hx hb d_MD_append_33 ?_
      refine lv_iload hx hb d_MD_append_34 (lv_at hl 5 rfl) ?_
      refine jn_iadd (a := (30 * rr)) (b := k) hx hb d_MD_append_36 ?_
      refine jn_iald (k := ((30 * rr) + k)) hx hb hE.1 hP 1 0 rfl rfl (by omega) (by omega) d_MD_append_37 ?_
      refine W.eq (g2 := F0 m 38 ls [.int (nI (nn (ro (30 * rr + k))))]) (by rw [← hv.1]) ?_
      refine lv_istore (lv' := [(6, .int (nI (nn (ro (30 * rr + k))))), (0, .ref w0), (1, .int (nI rr)), (2, .int (nI tl)), (3, .int (nI (nn (si rr) + 1))), (4, .int (nI a9)), (5, .int (nI k))]) hx hb d_MD_append_38 hl (by decide) rfl (fun ls hl => ?_)
      refine lv_iload hx hb d_MD_append_40 (lv_at hl 0 rfl) ?_
      refine lv_iload_n hx hb d_MD_append_42 rfl (lv_at hl 3 rfl) ?_
      refine jn_icmp_le (tgt := 64) (a := (nn (ro (30 * rr + k)))) (b := tl) hx hb d_MD_append_43 (by decide) (by omega) (by omega) (fun c_43 => ?_) (fun c_43 => ?_)
      · skip
        refine lv_aload_n hx hb d_MD_append_64 rfl (lv_at hl 1 rfl) ?_
        refine va_get (D := D) (ci := 5) (v := .ref w9) (C := R_MD) (T := T_MD) (N := 22) hx hb hw in_MD hown hE.1 hP 0 rfl rfl 13 (by decide) (hw _ kw_774) (fun _ h9 => h9) rfl d_MD_append_65 ?_
        refine lv_iload hx hb d_MD_append_68 (lv_at hl 5 rfl) ?_
        refine lv_iload hx hb d_MD_append_70 (lv_at hl 0 rfl) ?_
        refine jn_iast (k := a9) hx hb hE.1 hP hD hS 3 0 rfl rfl (by omega) (by omega) d_MD_append_72 (fun H locs hP hD hS => ?_)
        have hP : va_P D vwCl [(w0, .inr (5, [.ref w1, .ref w2, .int yt, .int te, .ref w3, .ref w4, .ref w5, .int nt, .int wb, .ref w6, .ref w7, .ref w8, .int (nI rc), .ref w9, .ref w10, .ref w11, .ref w12, .ref w13, .ref w14, .int fp, .int ft, .int th])), (w7, .inl (cI, 15030, .inl ro)), (w8, .inl (cI, 501, .inl si)), (w9, .inl (cI, 30, .inl (upd f9 a9 (nI (nn (ro (30 * rr + k)))))))] H := hP
        have hD : va_D A [(w0, .inr (5, [.ref w1, .ref w2, .int yt, .int te, .ref w3, .ref w4, .ref w5, .int nt, .int wb, .ref w6, .ref w7, .ref w8, .int (nI rc), .ref w9, .ref w10, .ref w11, .ref w12, .ref w13, .ref w14, .int fp, .int ft, .int th])), (w7, .inl (cI, 15030, .inl ro)), (w8, .inl (cI, 501, .inl si)), (w9, .inl (cI, 30, .inl (upd f9 a9 (nI (nn (ro (30 * rr + k)))))))] := hD
        refine lv_iinc (v := nI (a9 + 1)) (lv' := [(4, .int (nI (a9 + 1))), (6, .int (nI (nn (ro (30 * rr + k))))), (0, .ref w0), (1, .int (nI rr)), (2, .int (nI tl)), (3, .int (nI (nn (si rr) + 1))), (5, .int (nI k))]) hx hb d_MD_append_73 hl (k := 5) rfl (jn_inc a9 1) (by decide) rfl (fun ls hl => ?_)
        refine lv_iinc (v := nI (k + 1)) (lv' := [(5, .int (nI (k + 1))), (4, .int (nI (a9 + 1))), (6, .int (nI (nn (ro (30 * rr + k))))), (0, .ref w0), (1, .int (nI rr)), (2, .int (nI tl)), (3, .int (nI (nn (si rr) + 1)))]) hx hb d_MD_append_76 hl (k := 6) rfl (jn_inc k 1) (by decide) rfl (fun ls hl => ?_)
        refine lv_goto (tgt := 15) hx hb d_MD_append_79 (by decide) ?_
        exact ih (k + 1) (upd f9 a9 (nI (nn (ro (30 * rr + k))))) (a9 + 1) (by omega) (by omega) (by rw [apL, ← hz]; unfold apS; dsimp only; rw [if_neg (show ¬ (tl < nn (ro (30 * rr + k)) ∧ a9 = k) from fun q => absurd q.1 (by omega))]) (by omega) (by omega) _ _ _ (hP.sub [0, 1, 2, 3] rfl) (hD.sub [0, 1, 2, 3] (by decide) rfl) hS (lv_sub hl [3, 4, 5, 6, 1, 0] rfl)
      · skip
        refine lv_iload hx hb d_MD_append_46 (lv_at hl 5 rfl) ?_
        refine lv_iload hx hb d_MD_append_48 (lv_at hl 6 rfl) ?_
        refine jn_icmp_ne (tgt := 64) (a := a9) (b := k) hx hb d_MD_append_50 (by decide) (by omega) (by omega) (fun c_50 => ?_) (fun c_50 => ?_)
        · skip
          refine lv_aload_n hx hb d_MD_append_64 rfl (lv_at hl 1 rfl) ?_
          refine va_get (D := D) (ci := 5) (v := .ref w9) (C := R_MD) (T := T_MD) (N := 22) hx hb hw in_MD hown hE.1 hP 0 rfl rfl 13 (by decide) (hw _ kw_774) (fun _ h9 => h9) rfl d_MD_append_65 ?_
          refine lv_iload hx hb d_MD_append_68 (lv_at hl 5 rfl) ?_
          refine lv_iload hx hb d_MD_append_70 (lv_at hl 0 rfl) ?_
          refine jn_iast (k := a9) hx hb hE.1 hP hD hS 3 0 rfl rfl (by omega) (by omega) d_MD_append_72 (fun H locs hP hD hS => ?_)
          have hP : va_P D vwCl [(w0, .inr (5, [.ref w1, .ref w2, .int yt, .int te, .ref w3, .ref w4, .ref w5, .int nt, .int wb, .ref w6, .ref w7, .ref w8, .int (nI rc), .ref w9, .ref w10, .ref w11, .ref w12, .ref w13, .ref w14, .int fp, .int ft, .int th])), (w7, .inl (cI, 15030, .inl ro)), (w8, .inl (cI, 501, .inl si)), (w9, .inl (cI, 30, .inl (upd f9 a9 (nI (nn (ro (30 * rr + k)))))))] H := hP
          have hD : va_D A [(w0, .inr (5, [.ref w1, .ref w2, .int yt, .int te, .ref w3, .ref w4, .ref w5, .int nt, .int wb, .ref w6, .ref w7, .ref w8, .int (nI rc), .ref w9, .ref w10, .ref w11, .ref w12, .ref w13, .ref w14, .int fp, .int ft, .int th])), (w7, .inl (cI, 15030, .inl ro)), (w8, .inl (cI, 501, .inl si)), (w9, .inl (cI, 30, .inl (upd f9 a9 (nI (nn (ro (30 * rr + k)))))))] := hD
          refine lv_iinc (v := nI (a9 + 1)) (lv' := [(4, .int (nI (a9 + 1))), (6, .int (nI (nn (ro (30 * rr + k))))), (0, .ref w0), (1, .int (nI rr)), (2, .int (nI tl)), (3, .int (nI (nn (si rr) + 1))), (5, .int (nI k))]) hx hb d_MD_append_73 hl (k := 5) rfl (jn_inc a9 1) (by decide) rfl (fun ls hl => ?_)
          refine lv_iinc (v := nI (k + 1)) (lv' := [(5, .int (nI (k + 1))), (4, .int (nI (a9 + 1))), (6, .int (nI (nn (ro (30 * rr + k))))), (0, .ref w0), (1, .int (nI rr)), (2, .int (nI tl)), (3, .int (nI (nn (si rr) + 1)))]) hx hb d_MD_append_76 hl (k := 6) rfl (jn_inc k 1) (by decide) rfl (fun ls hl => ?_)
          refine lv_goto (tgt := 15) hx hb d_MD_append_79 (by decide) ?_
          exact ih (k + 1) (upd f9 a9 (nI (nn (ro (30 * rr + k))))) (a9 + 1) (by omega) (by omega) (by rw [apL, ← hz]; unfold apS; dsimp only; rw [if_neg (show ¬ (tl < nn (ro (30 * rr + k)) ∧ a9 = k) from fun q => absurd q.2 (by omega))]) (by omega) (by omega) _ _ _ (hP.sub [0, 1, 2, 3] rfl) (hD.sub [0, 1, 2, 3] (by decide) rfl) hS (lv_sub hl [3, 4, 5, 6, 1, 0] rfl)
        · skip
          refine lv_aload_n hx hb d_MD_append_53 rfl (lv_at hl 1 rfl) ?_
          refine va_get (D := D) (ci := 5) (v := .ref w9) (C := R_MD) (T := T_MD) (N := 22) hx hb hw in_MD hown hE.1 hP 0 rfl rfl 13 (by decide) (hw _ kw_774) (fun _ h9 => h9) rfl d_MD_append_54 ?_
          refine lv_iload hx hb d_MD_append_57 (lv_at hl 5 rfl) ?_
          refine lv_iload_n hx hb d_MD_append_59 rfl (lv_at hl 3 rfl) ?_
          refine jn_iast (k := a9) hx hb hE.1 hP hD hS 3 0 rfl rfl (by omega) (by omega) d_MD_append_60 (fun H locs hP hD hS => ?_)
          have hP : va_P D vwCl [(w0, .inr (5, [.ref w1, .ref w2, .int yt, .int te, .ref w3, .ref w4, .ref w5, .int nt, .int wb, .ref w6, .ref w7, .ref w8, .int (nI rc), .ref w9, .ref w10, .ref w11, .ref w12, .ref w13, .ref w14, .int fp, .int ft, .int th])), (w7, .inl (cI, 15030, .inl ro)), (w8, .inl (cI, 501, .inl si)), (w9, .inl (cI, 30, .inl (upd f9 a9 (nI tl))))] H := hP
          have hD : va_D A [(w0, .inr (5, [.ref w1, .ref w2, .int yt, .int te, .ref w3, .ref w4, .ref w5, .int nt, .int wb, .ref w6, .ref w7, .ref w8, .int (nI rc), .ref w9, .ref w10, .ref w11, .ref w12, .ref w13, .ref w14, .int fp, .int ft, .int th])), (w7, .inl (cI, 15030, .inl ro)), (w8, .inl (cI, 501, .inl si)), (w9, .inl (cI, 30, .inl (upd f9 a9 (nI tl))))] := hD
          refine lv_iinc (v := nI (a9 + 1)) (lv' := [(4, .int (nI (a9 + 1))), (6, .int (nI (nn (ro (30 * rr + k))))), (0, .ref w0), (1, .int (nI rr)), (2, .int (nI tl)), (3, .int (nI (nn (si rr) + 1))), (5, .int (nI k))]) hx hb d_MD_append_61 hl (k := 5) rfl (jn_inc a9 1) (by decide) rfl (fun ls hl => ?_)
          refine lv_aload_n hx hb d_MD_append_64 rfl (lv_at hl 2 rfl) ?_
          refine va_get (D := D) (ci := 5) (v := .ref w9) (C := R_MD) (T := T_MD) (N := 22) hx hb hw in_MD hown hE.1 hP 0 rfl rfl 13 (by decide) (hw _ kw_774) (fun _ h9 => h9) rfl d_MD_append_65 ?_
          refine lv_iload hx hb d_MD_append_68 (lv_at hl 0 rfl) ?_
          refine lv_iload hx hb d_MD_append_70 (lv_at hl 1 rfl) ?_
          refine jn_iast (k := (a9 + 1)) hx hb hE.1 hP hD hS 3 0 rfl rfl (by omega) (by omega) d_MD_append_72 (fun H locs hP hD hS => ?_)
          have hP : va_P D vwCl [(w0, .inr (5, [.ref w1, .ref w2, .int yt, .int te, .ref w3, .ref w4, .ref w5, .int nt, .int wb, .ref w6, .ref w7, .ref w8, .int (nI rc), .ref w9, .ref w10, .ref w11, .ref w12, .ref w13, .ref w14, .int fp, .int ft, .int th])), (w7, .inl (cI, 15030, .inl ro)), (w8, .inl (cI, 501, .inl si)), (w9, .inl (cI, 30, .inl (upd (upd f9 a9 (nI tl)) (a9 + 1) (nI (nn (ro (30 * rr + k)))))))] H := hP
          have hD : va_D A [(w0, .inr (5, [.ref w1, .ref w2, .int yt, .int te, .ref w3, .ref w4, .ref w5, .int nt, .int wb, .ref w6, .ref w7, .ref w8, .int (nI rc), .ref w9, .ref w10, .ref w11, .ref w12, .ref w13, .ref w14, .int fp, .int ft, .int th])), (w7, .inl (cI, 15030, .inl ro)), (w8, .inl (cI, 501, .inl si)), (w9, .inl (cI, 30, .inl (upd (upd f9 a9 (nI tl)) (a9 + 1) (nI (nn (ro (30 * rr + k)))))))] := hD
          refine lv_iinc (v := nI (a9 + 1 + 1)) (lv' := [(4, .int (nI (a9 + 1 + 1))), (6, .int (nI (nn (ro (30 * rr + k))))), (0, .ref w0), (1, .int (nI rr)), (2, .int (nI tl)), (3, .int (nI (nn (si rr) + 1))), (5, .int (nI k))]) hx hb d_MD_append_73 hl (k := 0) rfl (jn_inc (a9 + 1) 1) (by decide) rfl (fun ls hl => ?_)
          refine lv_iinc (v := nI (k + 1)) (lv' := [(5, .int (nI (k + 1))), (4, .int (nI (a9 + 1 + 1))), (6, .int (nI (nn (ro (30 * rr + k))))), (0, .ref w0), (1, .int (nI rr)), (2, .int (nI tl)), (3, .int (nI (nn (si rr) + 1)))]) hx hb d_MD_append_76 hl (k := 6) rfl (jn_inc k 1) (by decide) rfl (fun ls hl => ?_)
          refine lv_goto (tgt := 15) hx hb d_MD_append_79 (by decide) ?_
          exact ih (k + 1) (upd (upd f9 a9 (nI tl)) (a9 + 1) (nI (nn (ro (30 * rr + k))))) (a9 + 2) (by omega) (by omega) (by rw [apL, ← hz]; unfold apS; dsimp only; rw [if_pos (show tl < nn (ro (30 * rr + k)) ∧ a9 = k from ⟨by omega, by omega⟩)]) (by omega) (by omega) _ _ _ (hP.sub [0, 1, 2, 3] rfl) (hD.sub [0, 1, 2, 3] (by decide) rfl) hS (lv_sub hl [3, 4, 5, 6, 1, 0] rfl)
set_option maxHeartbeats 4000000 in
set_option maxRecDepth 100000 in
theorem lp_k_MD_append_129 {p : Program} {l : Launch} {e : Env} {s : State} {m : MethodId} {args : Array Value} {below : List Frame} {meth : Method} {c : Code} {D : va_G} {cI cJ : ClassId} {Q : State → Prop} {A : Nat → Prop} (w0 : Nat) (w1 : Nat) (w2 : Nat) (w3 : Nat) (w4 : Nat) (w5 : Nat) (w6 : Nat) (w7 : Nat) (w8 : Nat) (w9 : Nat) (w10 : Nat) (w11 : Nat) (w12 : Nat) (w13 : Nat) (w14 : Nat) (yt : Int32) (te : Int32) (nt : Int32) (wb : Int32) (rc : Nat) (fp : Int32) (ft : Int32) (th : Int32) (ro : Nat → Int32) (si : Nat → Int32) (fr : Nat → Int32) (rr : Nat) (tl : Nat) (hrr : rr < 501) (hrw : okRw ro si rr) (hs9 : nn (si rr) ≤ 29) (hrc : rc ≤ 500) (htl : tl < 2 ^ 31) (g9 : Nat → Int32) (rx : Nat) (hrx : rx < rc) (hx : p.tables.exec = Jvm.exec) (hb : c.code = c_MD_append) (hml : c.maxLocals = 8) (hown : s.vm.findClass R_MD = some m.cls) (hw : ∀ w ∈ gw, w.before args s = true) (hE : En D cI cJ s) (hX : Sx A s s.heap) (hA : ∀ q : Nat, s.heap.size ≤ q → A q)
    (kx0 : ∀ (sm : Nat), ((sm = 1 ∧ eqR ro si g9 (nn (si rr) + 1) rx) ∨ (sm = 0 ∧ ¬ eqR ro si g9 (nn (si rr) + 1) rx)) → ∀ (H : Heap) (locs : List Loc) (ls : Array Slot), va_P D vwCl [(w0, .inr (5, [.ref w1, .ref w2, .int yt, .int te, .ref w3, .ref w4, .ref w5, .int nt, .int wb, .ref w6, .ref w7, .ref w8, .int (nI rc), .ref w9, .ref w10, .ref w11, .ref w12, .ref w13, .ref w14, .int fp, .int ft, .int th])), (w7, .inl (cI, 15030, .inl ro)), (w8, .inl (cI, 501, .inl si)), (w9, .inl (cI, 30, .inl g9))] H → va_D A [(w0, .inr (5, [.ref w1, .ref w2, .int yt, .int te, .ref w3, .ref w4, .ref w5, .int nt, .int wb, .ref w6, .ref w7, .ref w8, .int (nI rc), .ref w9, .ref w10, .ref w11, .ref w12, .ref w13, .ref w14, .int fp, .int ft, .int th])), (w7, .inl (cI, 15030, .inl ro)), (w8, .inl (cI, 501, .inl si)), (w9, .inl (cI, 30, .inl g9))] → va_S A s.heap H locs → lv_has ls 8 [(0, .ref w0), (3, .int (nI (nn (si rr) + 1))), (5, .int (nI rx)), (6, .int (nI sm))] → W p l e ({ frames := 0, cells := 0, slots := 0, locals := 0 } : Room) s m args below meth c H locs 0 0 Q (F0 m 176 ls [])) :
    ∀ (fu : Nat) (k : Nat) (sm : Nat), nn (si rr) + 1 - k < fu → (k ≤ nn (si rr) + 1) → ((sm = 1 ∧ si rx = nI (nn (si rr) + 1) ∧ ∀ j, j < k → ro (30 * rx + j) = g9 j) ∨ (sm = 0 ∧ ¬ eqR ro si g9 (nn (si rr) + 1) rx)) → ∀ (H : Heap) (locs : List Loc) (ls : Array Slot), va_P D vwCl [(w0, .inr (5, [.ref w1, .ref w2, .int yt, .int te, .ref w3, .ref w4, .ref w5, .int nt, .int wb, .ref w6, .ref w7, .ref w8, .int (nI rc), .ref w9, .ref w10, .ref w11, .ref w12, .ref w13, .ref w14, .int fp, .int ft, .int th])), (w7, .inl (cI, 15030, .inl ro)), (w8, .inl (cI, 501, .inl si)), (w9, .inl (cI, 30, .inl g9))] H → va_D A [(w0, .inr (5, [.ref w1, .ref w2, .int yt, .int te, .ref w3, .ref w4, .ref w5, .int nt, .int wb, .ref w6, .ref w7, .ref w8, .int (nI rc), .ref w9, .ref w10, .ref w11, .ref w12, .ref w13, .ref w14, .int fp, .int ft, .int th])), (w7, .inl (cI, 15030, .inl ro)), (w8, .inl (cI, 501, .inl si)), (w9, .inl (cI, 30, .inl g9))] → va_S A s.heap H locs → lv_has ls 8 [(0, .ref w0), (3, .int (nI (nn (si rr) + 1))), (5, .int (nI rx)), (6, .int (nI sm)), (7, .int (nI k))] → W p l e ({ frames := 0, cells := 0, slots := 0, locals := 0 } : Room) s m args below meth c H locs 0 0 Q (F0 m 129 ls []) := by
  intro fu
  induction fu with
  | zero =>
    intro k sm h0
    exact absurd h0 (Nat.not_lt_zero _)
  | succ fu ih =>
    intro k sm hmu hk hs H locs ls hP hD hS hl
    have hsm : sm ≤ 1 := by rcases hs with h | h <;> omega
    refine lv_iload hx hb d_MD_append_129 (lv_at hl 4 rfl) ?_
    refine lv_iload_n hx hb d_MD_append_131 rfl (lv_at hl 1 rfl) ?_
    refine jn_icmp_ge (tgt := 176) (a := k) (b := (nn (si rr) + 1)) hx hb d_MD_append_132 (by decide) (by omega) (by omega) (fun c_132 => ?_) (fun c_132 => ?_)
    · skip
      exact kx0 sm (hs.imp (fun h => ⟨h.1, h.2.1, fun j hj => h.2.2 j (by omega)⟩) (fun h => h)) _ _ _ (hP.sub [0, 1, 2, 3] rfl) (hD.sub [0, 1, 2, 3] (by decide) rfl) hS (lv_sub hl [0, 1, 2, 3] rfl)
    · skip
      refine lv_iload hx hb d_MD_append_135 (lv_at hl 3 rfl) ?_
      refine jn_if_eq (tgt := 176) (a := sm) hx hb d_MD_append_137 (by decide) (by omega) (fun c_137 => ?_) (fun c_137 => ?_)
      · skip
        exact kx0 sm (Or.inr (by
          rcases hs with h | h
          · exact absurd (h.1.symm.trans c_137) (by decide)
          · exact h)) _ _ _ (hP.sub [0, 1, 2, 3] rfl) (hD.sub [0, 1, 2, 3] (by decide) rfl) hS (lv_sub hl [0, 1, 2, 3] rfl)
      · skip
        refine lv_aload_n hx hb d_MD_append_140 rfl (lv_at hl 0 rfl) ?_
        refine va_get (D := D) (ci := 5) (v := .ref w7) (C := R_MD) (T := T_MD) (N := 22) hx hb hw in_MD hown hE.1 hP 0 rfl rfl 10 (by decide) (hw _ kw_771) (fun _ h9 => h9) rfl d_MD_append_141 ?_
        refine lv_bipush (v := nI 30) hx hb d_MD_append_144 (by decide +kernel) ?_
        refine lv_iload hx hb d_MD_append_146 (lv_at hl 2 rfl) ?_
        refine jn_imul (a := 30) (b := rx) hx hb d_MD_append_148 ?_
        refine lv_iload hx hb d_MD_append_149 (lv_at hl 4 rfl) ?_
        refine jn_iadd (a := (30 * rx)) (b := k) hx hb d_MD_append_151 ?_
        refine jn_iald (k := ((30 * rx) + k)) hx hb hE.1 hP 1 0 rfl rfl (by omega) (by omega) d_MD_append_152 ?_
        refine lv_aload_n hx hb d_MD_append_153 rfl (lv_at hl 0 rfl) ?_
        refine va_get (D := D) (ci := 5) (v := .ref w9) (C := R_MD) (T := T_MD) (N := 22) hx hb hw in_MD hown hE.1 hP 0 rfl rfl 13 (by decide) (hw _ kw_774) (fun _ h9 => h9) rfl d_MD_append_154 ?_
        refine lv_iload hx hb d_MD_append_157 (lv_at hl 4 rfl) ?_
        refine jn_iald (k := k) hx hb hE.1 hP 3 0 rfl rfl (by omega) (by omega) d_MD_append_159 ?_
        refine lv_icmp_ne (tgt := 167) hx hb d_MD_append_160 (by decide) (fun c_160 => ?_) (fun c_160 => ?_)
        · skip
          refine lv_iconst (v := nI 0) hx hb d_MD_append_167 (by decide +kernel) ?_
          refine lv_istore (lv' := [(6, .int (nI 0)), (0, .ref w0), (3, .int (nI (nn (si rr) + 1))), (5, .int (nI rx)), (7, .int (nI k))]) hx hb d_MD_append_168 hl (by decide) rfl (fun ls hl => ?_)
          refine lv_iinc (v := nI (k + 1)) (lv' := [(7, .int (nI (k + 1))), (6, .int (nI 0)), (0, .ref w0), (3, .int (nI (nn (si rr) + 1))), (5, .int (nI rx))]) hx hb d_MD_append_170 hl (k := 4) rfl (jn_inc k 1) (by decide) rfl (fun ls hl => ?_)
          refine lv_goto (tgt := 129) hx hb d_MD_append_173 (by decide) ?_
          exact ih (k + 1) 0 (by omega) (by omega) (Or.inr ⟨rfl, fun q => c_160 (q.2 k (by omega))⟩) _ _ _ (hP.sub [0, 1, 2, 3] rfl) (hD.sub [0, 1, 2, 3] (by decide) rfl) hS (lv_sub hl [2, 3, 4, 1, 0] rfl)
        · skip
          refine lv_iconst (v := nI 1) hx hb d_MD_append_163 (by decide +kernel) ?_
          refine lv_goto (tgt := 168) hx hb d_MD_append_164 (by decide) ?_
          refine lv_istore (lv' := [(6, .int (nI 1)), (0, .ref w0), (3, .int (nI (nn (si rr) + 1))), (5, .int (nI rx)), (7, .int (nI k))]) hx hb d_MD_append_168 hl (by decide) rfl (fun ls hl => ?_)
          refine lv_iinc (v := nI (k + 1)) (lv' := [(7, .int (nI (k + 1))), (6, .int (nI 1)), (0, .ref w0), (3, .int (nI (nn (si rr) + 1))), (5, .int (nI rx))]) hx hb d_MD_append_170 hl (k := 4) rfl (jn_inc k 1) (by decide) rfl (fun ls hl => ?_)
          refine lv_goto (tgt := 129) hx hb d_MD_append_173 (by decide) ?_
          exact ih (k + 1) 1 (by omega) (by omega) (Or.inl (by
          rcases hs with h | h
          · refine ⟨rfl, h.2.1, fun j hj => ?_⟩
            rcases Nat.lt_succ_iff_lt_or_eq.mp hj with d | rfl
            · exact h.2.2 j d
            · exact c_160
          · exact absurd h.1 c_137)) _ _ _ (hP.sub [0, 1, 2, 3] rfl) (hD.sub [0, 1, 2, 3] (by decide) rfl) hS (lv_sub hl [2, 3, 4, 1, 0] rfl)
set_option maxHeartbeats 4000000 in
set_option maxRecDepth 100000 in
theorem lp_k_MD_append_99 {p : Program} {l : Launch} {e : Env} {s : State} {m : MethodId} {args : Array Value} {below : List Frame} {meth : Method} {c : Code} {D : va_G} {cI cJ : ClassId} {Q : State → Prop} {A : Nat → Prop} (w0 : Nat) (w1 : Nat) (w2 : Nat) (w3 : Nat) (w4 : Nat) (w5 : Nat) (w6 : Nat) (w7 : Nat) (w8 : Nat) (w9 : Nat) (w10 : Nat) (w11 : Nat) (w12 : Nat) (w13 : Nat) (w14 : Nat) (yt : Int32) (te : Int32) (nt : Int32) (wb : Int32) (rc : Nat) (fp : Int32) (ft : Int32) (th : Int32) (ro : Nat → Int32) (si : Nat → Int32) (fr : Nat → Int32) (rr : Nat) (tl : Nat) (hrr : rr < 501) (hrw : okRw ro si rr) (hs9 : nn (si rr) ≤ 29) (hrc : rc ≤ 500) (htl : tl < 2 ^ 31) (g9 : Nat → Int32) (hg9 : g9 = apF ro (30 * rr) tl fr (nn (si rr))) (hx : p.tables.exec = Jvm.exec) (hb : c.code = c_MD_append) (hml : c.maxLocals = 8) (hown : s.vm.findClass R_MD = some m.cls) (hw : ∀ w ∈ gw, w.before args s = true) (hE : En D cI cJ s) (hX : Sx A s s.heap) (hA : ∀ q : Nat, s.heap.size ≤ q → A q)
    (kx0 : (∃ r, r < rc ∧ eqR ro si g9 (nn (si rr) + 1) r) → ∀ (H : Heap) (locs : List Loc) (ls : Array Slot), va_P D vwCl [(w0, .inr (5, [.ref w1, .ref w2, .int yt, .int te, .ref w3, .ref w4, .ref w5, .int nt, .int wb, .ref w6, .ref w7, .ref w8, .int (nI rc), .ref w9, .ref w10, .ref w11, .ref w12, .ref w13, .ref w14, .int fp, .int ft, .int th])), (w7, .inl (cI, 15030, .inl ro)), (w8, .inl (cI, 501, .inl si)), (w9, .inl (cI, 30, .inl g9))] H → va_D A [(w0, .inr (5, [.ref w1, .ref w2, .int yt, .int te, .ref w3, .ref w4, .ref w5, .int nt, .int wb, .ref w6, .ref w7, .ref w8, .int (nI rc), .ref w9, .ref w10, .ref w11, .ref w12, .ref w13, .ref w14, .int fp, .int ft, .int th])), (w7, .inl (cI, 15030, .inl ro)), (w8, .inl (cI, 501, .inl si)), (w9, .inl (cI, 30, .inl g9))] → va_S A s.heap H locs → lv_has ls 8 [] → W p l e ({ frames := 0, cells := 0, slots := 0, locals := 0 } : Room) s m args below meth c H locs 0 0 Q (F0 m 181 ls []))
    (kx1 : (∀ r, r < rc → ¬ eqR ro si g9 (nn (si rr) + 1) r) → ∀ (H : Heap) (locs : List Loc) (ls : Array Slot), va_P D vwCl [(w0, .inr (5, [.ref w1, .ref w2, .int yt, .int te, .ref w3, .ref w4, .ref w5, .int nt, .int wb, .ref w6, .ref w7, .ref w8, .int (nI rc), .ref w9, .ref w10, .ref w11, .ref w12, .ref w13, .ref w14, .int fp, .int ft, .int th])), (w7, .inl (cI, 15030, .inl ro)), (w8, .inl (cI, 501, .inl si)), (w9, .inl (cI, 30, .inl g9))] H → va_D A [(w0, .inr (5, [.ref w1, .ref w2, .int yt, .int te, .ref w3, .ref w4, .ref w5, .int nt, .int wb, .ref w6, .ref w7, .ref w8, .int (nI rc), .ref w9, .ref w10, .ref w11, .ref w12, .ref w13, .ref w14, .int fp, .int ft, .int th])), (w7, .inl (cI, 15030, .inl ro)), (w8, .inl (cI, 501, .inl si)), (w9, .inl (cI, 30, .inl g9))] → va_S A s.heap H locs → lv_has ls 8 [(0, .ref w0), (3, .int (nI (nn (si rr) + 1)))] → W p l e ({ frames := 0, cells := 0, slots := 0, locals := 0 } : Room) s m args below meth c H locs 0 0 Q (F0 m 188 ls [])) :
    ∀ (fu : Nat) (rx : Nat), rc - rx < fu → (rx ≤ rc) → (∀ r, r < rx → ¬ eqR ro si g9 (nn (si rr) + 1) r) → ∀ (H : Heap) (locs : List Loc) (ls : Array Slot), va_P D vwCl [(w0, .inr (5, [.ref w1, .ref w2, .int yt, .int te, .ref w3, .ref w4, .ref w5, .int nt, .int wb, .ref w6, .ref w7, .ref w8, .int (nI rc), .ref w9, .ref w10, .ref w11, .ref w12, .ref w13, .ref w14, .int fp, .int ft, .int th])), (w7, .inl (cI, 15030, .inl ro)), (w8, .inl (cI, 501, .inl si)), (w9, .inl (cI, 30, .inl g9))] H → va_D A [(w0, .inr (5, [.ref w1, .ref w2, .int yt, .int te, .ref w3, .ref w4, .ref w5, .int nt, .int wb, .ref w6, .ref w7, .ref w8, .int (nI rc), .ref w9, .ref w10, .ref w11, .ref w12, .ref w13, .ref w14, .int fp, .int ft, .int th])), (w7, .inl (cI, 15030, .inl ro)), (w8, .inl (cI, 501, .inl si)), (w9, .inl (cI, 30, .inl g9))] → va_S A s.heap H locs → lv_has ls 8 [(0, .ref w0), (3, .int (nI (nn (si rr) + 1))), (5, .int (nI rx))] → W p l e ({ frames := 0, cells := 0, slots := 0, locals := 0 } : Room) s m args below meth c H locs 0 0 Q (F0 m 99 ls []) := by
  intro fu
  induction fu with
  | zero =>
    intro rx h0
    exact absurd h0 (Nat.not_lt_zero _)
  | succ fu ih =>
    intro rx hmu hrx hno H locs ls hP hD hS hl
    refine lv_iload hx hb d_MD_append_99 (lv_at hl 2 rfl) ?_
    refine lv_aload_n hx hb d_MD_append_101 rfl (lv_at hl 0 rfl) ?_
    refine va_get (D := D) (ci := 5) (v := .int (nI rc)) (C := R_MD) (T := T_MD) (N := 22) hx hb hw in_MD hown hE.1 hP 0 rfl rfl 12 (by decide) (hw _ kw_773) (fun _ h9 => h9) rfl d_MD_append_102 ?_
    refine jn_icmp_ge (tgt := 188) (a := rx) (b := rc) hx hb d_MD_append_105 (by decide) (by omega) (by omega) (fun c_105 => ?_) (fun c_105 => ?_)
    · skip
      exact kx1  (fun r hr => hno r (by omega)) _ _ _ (hP.sub [0, 1, 2, 3] rfl) (hD.sub [0, 1, 2, 3] (by decide) rfl) hS (lv_sub hl [0, 1] rfl)
    · skip
      refine lv_aload_n hx hb d_MD_append_108 rfl (lv_at hl 0 rfl) ?_
      refine va_get (D := D) (ci := 5) (v := .ref w8) (C := R_MD) (T := T_MD) (N := 22) hx hb hw in_MD hown hE.1 hP 0 rfl rfl 11 (by decide) (hw _ kw_772) (fun _ h9 => h9) rfl d_MD_append_109 ?_
      refine lv_iload hx hb d_MD_append_112 (lv_at hl 2 rfl) ?_
      refine jn_iald (k := rx) hx hb hE.1 hP 2 0 rfl rfl (by omega) (by omega) d_MD_append_114 ?_
      refine lv_iload_n hx hb d_MD_append_115 rfl (lv_at hl 1 rfl) ?_
      refine lv_icmp_ne (tgt := 123) hx hb d_MD_append_116 (by decide) (fun c_116 => ?_) (fun c_116 => ?_)
      · skip
        refine lv_iconst (v := nI 0) hx hb d_MD_append_123 (by decide +kernel) ?_
        refine lv_istore (lv' := [(6, .int (nI 0)), (0, .ref w0), (3, .int (nI (nn (si rr) + 1))), (5, .int (nI rx))]) hx hb d_MD_append_124 hl (by decide) rfl (fun ls hl => ?_)
        refine lv_iconst (v := nI 0) hx hb d_MD_append_126 (by decide +kernel) ?_
        refine lv_istore (lv' := [(7, .int (nI 0)), (6, .int (nI 0)), (0, .ref w0), (3, .int (nI (nn (si rr) + 1))), (5, .int (nI rx))]) hx hb d_MD_append_127 hl (by decide) rfl (fun ls hl => ?_)
        refine lp_k_MD_append_129 w0 w1 w2 w3 w4 w5 w6 w7 w8 w9 w10 w11 w12 w13 w14 yt te nt wb rc fp ft th ro si fr rr tl hrr hrw hs9 hrc htl g9 rx c_105 hx hb hml hown hw hE hX hA (fun sm hs H locs ls hP hD hS hl => ?_) ((nn (si rr) + 1 - 0) + 1) 0 0 (Nat.lt_succ_self _) (Nat.zero_le _) (Or.inr ⟨rfl, fun q => c_116 q.1⟩) _ _ _ (hP.sub [0, 1, 2, 3] rfl) (hD.sub [0, 1, 2, 3] (by decide) rfl) hS (lv_sub hl [2, 3, 4, 1, 0] rfl)
        refine lv_iload hx hb d_MD_append_176 (lv_at hl 3 rfl) ?_
        refine jn_if_eq (tgt := 182) (a := sm) hx hb d_MD_append_178 (by decide) (by omega) (fun c_178 => ?_) (fun c_178 => ?_)
        · skip
          refine lv_iinc (v := nI (rx + 1)) (lv' := [(5, .int (nI (rx + 1))), (0, .ref w0), (3, .int (nI (nn (si rr) + 1))), (6, .int (nI sm))]) hx hb d_MD_append_182 hl (k := 2) rfl (jn_inc rx 1) (by decide) rfl (fun ls hl => ?_)
          refine lv_goto (tgt := 99) hx hb d_MD_append_185 (by decide) ?_
          exact ih (rx + 1) (by omega) (by omega) (fun r hr => by
          rcases Nat.lt_succ_iff_lt_or_eq.mp hr with d | rfl
          · exact hno r d
          · rcases hs with h | h
            · exact absurd (h.1.symm.trans c_178) (by decide)
            · exact h.2) _ _ _ (hP.sub [0, 1, 2, 3] rfl) (hD.sub [0, 1, 2, 3] (by decide) rfl) hS (lv_sub hl [1, 2, 0] rfl)
        · skip
          exact kx0  ⟨rx, by omega, hs.elim (fun h => h.2) (fun h => absurd h.1 c_178)⟩ _ _ _ (hP.sub [0, 1, 2, 3] rfl) (hD.sub [0, 1, 2, 3] (by decide) rfl) hS (lv_sub hl [] rfl)
      · skip
        refine lv_iconst (v := nI 1) hx hb d_MD_append_119 (by decide +kernel) ?_
        refine lv_goto (tgt := 124) hx hb d_MD_append_120 (by decide) ?_
        refine lv_istore (lv' := [(6, .int (nI 1)), (0, .ref w0), (3, .int (nI (nn (si rr) + 1))), (5, .int (nI rx))]) hx hb d_MD_append_124 hl (by decide) rfl (fun ls hl => ?_)
        refine lv_iconst (v := nI 0) hx hb d_MD_append_126 (by decide +kernel) ?_
        refine lv_istore (lv' := [(7, .int (nI 0)), (6, .int (nI 1)), (0, .ref w0), (3, .int (nI (nn (si rr) + 1))), (5, .int (nI rx))]) hx hb d_MD_append_127 hl (by decide) rfl (fun ls hl => ?_)
        refine lp_k_MD_append_129 w0 w1 w2 w3 w4 w5 w6 w7 w8 w9 w10 w11 w12 w13 w14 yt te nt wb rc fp ft th ro si fr rr tl hrr hrw hs9 hrc htl g9 rx c_105 hx hb hml hown hw hE hX hA (fun sm hs H locs ls hP hD hS hl => ?_) ((nn (si rr) + 1 - 0) + 1) 0 1 (Nat.lt_succ_self _) (Nat.zero_le _) (Or.inl ⟨rfl, c_116, fun j hj => absurd hj (Nat.not_lt_zero j)⟩) _ _ _ (hP.sub [0, 1, 2, 3] rfl) (hD.sub [0, 1, 2, 3] (by decide) rfl) hS (lv_sub hl [2, 3, 4, 1, 0] rfl)
        refine lv_iload hx hb d_MD_append_176 (lv_at hl 3 rfl) ?_
        refine jn_if_eq (tgt := 182) (a := sm) hx hb d_MD_append_178 (by decide) (by omega) (fun c_178 => ?_) (fun c_178 => ?_)
        · skip
          refine lv_iinc (v := nI (rx + 1)) (lv' := [(5, .int (nI (rx + 1))), (0, .ref w0), (3, .int (nI (nn (si rr) + 1))), (6, .int (nI sm))]) hx hb d_MD_append_182 hl (k := 2) rfl (jn_inc rx 1) (by decide) rfl (fun ls hl => ?_)
          refine lv_goto (tgt := 99) hx hb d_MD_append_185 (by decide) ?_
          exact ih (rx + 1) (by omega) (by omega) (fun r hr => by
          rcases Nat.lt_succ_iff_lt_or_eq.mp hr with d | rfl
          · exact hno r d
          · rcases hs with h | h
            · exact absurd (h.1.symm.trans c_178) (by decide)
            · exact h.2) _ _ _ (hP.sub [0, 1, 2, 3] rfl) (hD.sub [0, 1, 2, 3] (by decide) rfl) hS (lv_sub hl [1, 2, 0] rfl)
        · skip
          exact kx0  ⟨rx, by omega, hs.elim (fun h => h.2) (fun h => absurd h.1 c_178)⟩ _ _ _ (hP.sub [0, 1, 2, 3] rfl) (hD.sub [0, 1, 2, 3] (by decide) rfl) hS (lv_sub hl [] rfl)
set_option maxHeartbeats 4000000 in
set_option maxRecDepth 100000 in
theorem lp_k_MD_append_211 {p : Program} {l : Launch} {e : Env} {s : State} {m : MethodId} {args : Array Value} {below : List Frame} {meth : Method} {c : Code} {D : va_G} {cI cJ : ClassId} {Q : State → Prop} {A : Nat → Prop} (w0 : Nat) (w1 : Nat) (w2 : Nat) (w3 : Nat) (w4 : Nat) (w5 : Nat) (w6 : Nat) (w7 : Nat) (w8 : Nat) (w9 : Nat) (w10 : Nat) (w11 : Nat) (w12 : Nat) (w13 : Nat) (w14 : Nat) (yt : Int32) (te : Int32) (nt : Int32) (wb : Int32) (rc : Nat) (fp : Int32) (ft : Int32) (th : Int32) (ro : Nat → Int32) (si : Nat → Int32) (fr : Nat → Int32) (rr : Nat) (tl : Nat) (hrr : rr < 501) (hrw : okRw ro si rr) (hs9 : nn (si rr) ≤ 29) (hrc : rc ≤ 500) (htl : tl < 2 ^ 31) (g9 : Nat → Int32) (hr5 : rc < 500) (hx : p.tables.exec = Jvm.exec) (hb : c.code = c_MD_append) (hml : c.maxLocals = 8) (hown : s.vm.findClass R_MD = some m.cls) (hw : ∀ w ∈ gw, w.before args s = true) (hE : En D cI cJ s) (hX : Sx A s s.heap) (hA : ∀ q : Nat, s.heap.size ≤ q → A q)
    (kx0 : ∀ (q9 : Nat → Int32), (q9 = cpL ro g9 (30 * rc) (nn (si rr) + 1)) → ∀ (H : Heap) (locs : List Loc) (ls : Array Slot), va_P D vwCl [(w0, .inr (5, [.ref w1, .ref w2, .int yt, .int te, .ref w3, .ref w4, .ref w5, .int nt, .int wb, .ref w6, .ref w7, .ref w8, .int (nI rc), .ref w9, .ref w10, .ref w11, .ref w12, .ref w13, .ref w14, .int fp, .int ft, .int th])), (w7, .inl (cI, 15030, .inl q9)), (w8, .inl (cI, 501, .inl si)), (w9, .inl (cI, 30, .inl g9))] H → va_D A [(w0, .inr (5, [.ref w1, .ref w2, .int yt, .int te, .ref w3, .ref w4, .ref w5, .int nt, .int wb, .ref w6, .ref w7, .ref w8, .int (nI rc), .ref w9, .ref w10, .ref w11, .ref w12, .ref w13, .ref w14, .int fp, .int ft, .int th])), (w7, .inl (cI, 15030, .inl q9)), (w8, .inl (cI, 501, .inl si)), (w9, .inl (cI, 30, .inl g9))] → va_S A s.heap H locs → lv_has ls 8 [(0, .ref w0), (3, .int (nI (nn (si rr) + 1)))] → W p l e ({ frames := 0, cells := 0, slots := 0, locals := 0 } : Room) s m args below meth c H locs 0 0 Q (F0 m 245 ls [])) :
    ∀ (fu : Nat) (k : Nat) (q9 : Nat → Int32), nn (si rr) + 1 - k < fu → (k ≤ nn (si rr) + 1) → (q9 = cpL ro g9 (30 * rc) k) → ∀ (H : Heap) (locs : List Loc) (ls : Array Slot), va_P D vwCl [(w0, .inr (5, [.ref w1, .ref w2, .int yt, .int te, .ref w3, .ref w4, .ref w5, .int nt, .int wb, .ref w6, .ref w7, .ref w8, .int (nI rc), .ref w9, .ref w10, .ref w11, .ref w12, .ref w13, .ref w14, .int fp, .int ft, .int th])), (w7, .inl (cI, 15030, .inl q9)), (w8, .inl (cI, 501, .inl si)), (w9, .inl (cI, 30, .inl g9))] H → va_D A [(w0, .inr (5, [.ref w1, .ref w2, .int yt, .int te, .ref w3, .ref w4, .ref w5, .int nt, .int wb, .ref w6, .ref w7, .ref w8, .int (nI rc), .ref w9, .ref w10, .ref w11, .ref w12, .ref w13, .ref w14, .int fp, .int ft, .int th])), (w7, .inl (cI, 15030, .inl q9)), (w8, .inl (cI, 501, .inl si)), (w9, .inl (cI, 30, .inl g9))] → va_S A s.heap H locs → lv_has ls 8 [(0, .ref w0), (3, .int (nI (nn (si rr) + 1))), (5, .int (nI k))] → W p l e ({ frames := 0, cells := 0, slots := 0, locals := 0 } : Room) s m args below meth c H locs 0 0 Q (F0 m 211 ls []) := by
  intro fu
  induction fu with
  | zero =>
    intro k q9 h0
    exact absurd h0 (Nat.not_lt_zero _)
  | succ fu ih =>
    intro k q9 hmu hk hq H locs ls hP hD hS hl
    refine lv_iload hx hb d_MD_append_211 (lv_at hl 2 rfl) ?_
    refine lv_iload_n hx hb d_MD_append_213 rfl (lv_at hl 1 rfl) ?_
    refine jn_icmp_ge (tgt := 245) (a := k) (b := (nn (si rr) + 1)) hx hb d_MD_append_214 (by decide) (by omega) (by omega) (fun c_214 => ?_) (fun c_214 => ?_)
    · skip
      exact kx0 q9 (by rw [hq, show k = nn (si rr) + 1 by omega]) _ _ _ (hP.sub [0, 1, 2, 3] rfl) (hD.sub [0, 1, 2, 3] (by decide) rfl) hS (lv_sub hl [0, 1] rfl)
    · skip
      refine lv_aload_n hx hb d_MD_append_217 rfl (lv_at hl 0 rfl) ?_
      refine va_get (D := D) (ci := 5) (v := .ref w7) (C := R_MD) (T := T_MD) (N := 22) hx hb hw in_MD hown hE.1 hP 0 rfl rfl 10 (by decide) (hw _ kw_771) (fun _ h9 => h9) rfl d_MD_append_218 ?_
      refine lv_bipush (v := nI 30) hx hb d_MD_append_221 (by decide +kernel) ?_
      refine lv_aload_n hx hb d_MD_append_223 rfl (lv_at hl 0 rfl) ?_
      refine va_get (D := D) (ci := 5) (v := .int (nI rc)) (C := R_MD) (T := T_MD) (N := 22) hx hb hw in_MD hown hE.1 hP 0 rfl rfl 12 (by decide) (hw _ kw_773) (fun _ h9 => h9) rfl d_MD_append_224 ?_
      refine jn_imul (a := 30) (b := rc) hx hb d_MD_append_227 ?_
      refine lv_iload hx hb d_MD_append_228 (lv_at hl 2 rfl) ?_
      refine jn_iadd (a := (30 * rc)) (b := k) hx hb d_MD_append_230 ?_
      refine lv_aload_n hx hb d_MD_append_231 rfl (lv_at hl 0 rfl) ?_
      refine va_get (D := D) (ci := 5) (v := .ref w9) (C := R_MD) (T := T_MD) (N := 22) hx hb hw in_MD hown hE.1 hP 0 rfl rfl 13 (by decide) (hw _ kw_774) (fun _ h9 => h9) rfl d_MD_append_232 ?_
      refine lv_iload hx hb d_MD_append_235 (lv_at hl 2 rfl) ?_
      refine jn_iald (k := k) hx hb hE.1 hP 3 0 rfl rfl (by omega) (by omega) d_MD_append_237 ?_
      refine jn_iast (k := ((30 * rc) + k)) hx hb hE.1 hP hD hS 1 0 rfl rfl (by omega) (by omega) d_MD_append_238 (fun H locs hP hD hS => ?_)
      have hP : va_P D vwCl [(w0, .inr (5, [.ref w1, .ref w2, .int yt, .int te, .ref w3, .ref w4, .ref w5, .int nt, .int wb, .ref w6, .ref w7, .ref w8, .int (nI rc), .ref w9, .ref w10, .ref w11, .ref w12, .ref w13, .ref w14, .int fp, .int ft, .int th])), (w7, .inl (cI, 15030, .inl (upd q9 ((30 * rc) + k) (g9 k)))), (w8, .inl (cI, 501, .inl si)), (w9, .inl (cI, 30, .inl g9))] H := hP
      have hD : va_D A [(w0, .inr (5, [.ref w1, .ref w2, .int yt, .int te, .ref w3, .ref w4, .ref w5, .int nt, .int wb, .ref w6, .ref w7, .ref w8, .int (nI rc), .ref w9, .ref w10, .ref w11, .ref w12, .ref w13, .ref w14, .int fp, .int ft, .int th])), (w7, .inl (cI, 15030, .inl (upd q9 ((30 * rc) + k) (g9 k)))), (w8, .inl (cI, 501, .inl si)), (w9, .inl (cI, 30, .inl g9))] := hD
      refine lv_iinc (v := nI (k + 1)) (lv' := [(5, .int (nI (k + 1))), (0, .ref w0), (3, .int (nI (nn (si rr) + 1)))]) hx hb d_MD_append_239 hl (k := 2) rfl (jn_inc k 1) (by decide) rfl (fun ls hl => ?_)
      refine lv_goto (tgt := 211) hx hb d_MD_append_242 (by decide) ?_
      exact ih (k + 1) (upd q9 ((30 * rc) + k) (g9 k)) (by omega) (by omega) (by rw [hq]; exact cpL_succ _ _ _ _) _ _ _ (hP.sub [0, 1, 2, 3] rfl) (hD.sub [0, 1, 2, 3] (by decide) rfl) hS (lv_sub hl [1, 2, 0] rfl)
set_option maxHeartbeats 4000000 in
set_option maxRecDepth 100000 in
/-- append -/
theorem k_MD_append (l : Launch) (D : va_G) (cI cJ : ClassId) (w0 : Nat) (w1 : Nat) (w2 : Nat) (w3 : Nat) (w4 : Nat) (w5 : Nat) (w6 : Nat) (w7 : Nat) (w8 : Nat) (w9 : Nat) (w10 : Nat) (w11 : Nat) (w12 : Nat) (w13 : Nat) (w14 : Nat) (yt : Int32) (te : Int32) (nt : Int32) (wb : Int32) (rc : Nat) (fp : Int32) (ft : Int32) (th : Int32) (ro : Nat → Int32) (si : Nat → Int32) (fr : Nat → Int32) (rr : Nat) (tl : Nat) (sz : Nat) (hrr : rr < 501) (hrw : okRw ro si rr) (hs9 : nn (si rr) ≤ 29) (hrc : rc ≤ 500) (htl : tl < 2 ^ 31) : Met l y_MD_append ws_MD_append ({ frames := 0, cells := 0, slots := 0, locals := 0 } : Room) (va_Pc [.ref w0, .int (nI rr), .int (nI tl)] (Pw D cI cJ [(w0, .inr (5, [.ref w1, .ref w2, .int yt, .int te, .ref w3, .ref w4, .ref w5, .int nt, .int wb, .ref w6, .ref w7, .ref w8, .int (nI rc), .ref w9, .ref w10, .ref w11, .ref w12, .ref w13, .ref w14, .int fp, .int ft, .int th])), (w7, .inl (cI, 15030, .inl ro)), (w8, .inl (cI, 501, .inl si)), (w9, .inl (cI, 30, .inl fr))] sz)) (va_Qv (fun (u9 : RW) => apR ro si (apF ro (30 * rr) tl fr (nn (si rr))) (nn (si rr) + 1) rc u9) (fun u9 t9 => Bw D (va_A [(w0, .inr (5, [.ref w1, .ref w2, .int yt, .int te, .ref w3, .ref w4, .ref w5, .int nt, .int wb, .ref w6, .ref w7, .ref w8, .int (nI rc), .ref w9, .ref w10, .ref w11, .ref w12, .ref w13, .ref w14, .int fp, .int ft, .int th])), (w7, .inl (cI, 15030, .inl ro)), (w8, .inl (cI, 501, .inl si)), (w9, .inl (cI, 30, .inl fr))] sz) [(w0, .inr (5, [.ref w1, .ref w2, .int yt, .int te, .ref w3, .ref w4, .ref w5, .int nt, .int wb, .ref w6, .ref w7, .ref w8, .int (nI u9.2.2.2), .ref w9, .ref w10, .ref w11, .ref w12, .ref w13, .ref w14, .int fp, .int ft, .int th])), (w7, .inl (cI, 15030, .inl u9.1)), (w8, .inl (cI, 501, .inl u9.2.1)), (w9, .inl (cI, 30, .inl u9.2.2.1))] t9) (va_A [(w0, .inr (5, [.ref w1, .ref w2, .int yt, .int te, .ref w3, .ref w4, .ref w5, .int nt, .int wb, .ref w6, .ref w7, .ref w8, .int (nI rc), .ref w9, .ref w10, .ref w11, .ref w12, .ref w13, .ref w14, .int fp, .int ft, .int th])), (w7, .inl (cI, 15030, .inl ro)), (w8, .inl (cI, 501, .inl si)), (w9, .inl (cI, 30, .inl fr))] sz)) 0 0 (va_A [(w0, .inr (5, [.ref w1, .ref w2, .int yt, .int te, .ref w3, .ref w4, .ref w5, .int nt, .int wb, .ref w6, .ref w7, .ref w8, .int (nI rc), .ref w9, .ref w10, .ref w11, .ref w12, .ref w13, .ref w14, .int fp, .int ft, .int th])), (w7, .inl (cI, 15030, .inl ro)), (w8, .inl (cI, 501, .inl si)), (w9, .inl (cI, 30, .inl fr))] sz) := by
  refine Met.ofW (cc := c_MD_append) (maxL := 8) (ret := none) (by decide) rfl ?_
  intro p e s m args below meth c s₁ B hml hv
  obtain ⟨rfl, hsz, hE, hP, hD0, hX⟩ := hv
  have hx := B.exec
  have hb := B.bytes
  have hr := B.returns
  have hw : ∀ w ∈ gw, w.before _ s = true := fun w h => atoms_spec (ws := ws_MD_append) B.pre w (List.mem_cons_of_mem _ h)
  have hown : s.vm.findClass R_MD = some m.cls := findClass_of_methodNamed B.named
  have hlocks := B.notSynchronized
  subst hsz
  have hD := hD0.self (sz := s.heap.size)
  generalize hAe : va_A [(w0, .inr (5, [.ref w1, .ref w2, .int yt, .int te, .ref w3, .ref w4, .ref w5, .int nt, .int wb, .ref w6, .ref w7, .ref w8, .int (nI rc), .ref w9, .ref w10, .ref w11, .ref w12, .ref w13, .ref w14, .int fp, .int ft, .int th])), (w7, .inl (cI, 15030, .inl ro)), (w8, .inl (cI, 501, .inl si)), (w9, .inl (cI, 30, .inl fr))] s.heap.size = A at hD hX ⊢
  have hA : ∀ q : Nat, s.heap.size ≤ q → A q := fun q h => by rw [← hAe]; exact Or.inr h
  have hS : va_S A s.heap s.heap [] := va_S.rf
  have hP : va_P D vwCl [(w0, .inr (5, [.ref w1, .ref w2, .int yt, .int te, .ref w3, .ref w4, .ref w5, .int nt, .int wb, .ref w6, .ref w7, .ref w8, .int (nI rc), .ref w9, .ref w10, .ref w11, .ref w12, .ref w13, .ref w14, .int fp, .int ft, .int th])), (w7, .inl (cI, 15030, .inl ro)), (w8, .inl (cI, 501, .inl si)), (w9, .inl (cI, 30, .inl fr))] s.heap := hP
  have hl := lv_entry ([.ref w0, .int (nI rr), .int (nI tl)]) (n := 8) (Nat.le_of_ble_eq_true rfl)
  rw [lg_entry_eq]
  generalize (lg_sl ([.ref w0, .int (nI rr), .int (nI tl)]) ++ List.replicate (8 - (lg_sl ([.ref w0, .int (nI rr), .int (nI tl)])).length) Slot.unset).toArray = ls at hl ⊢
  have hl : lv_has ls 8 [(0, .ref w0), (1, .int (nI rr)), (2, .int (nI tl))] := hl
  refine lv_aload_n hx hb d_MD_append_0 rfl (lv_at hl 0 rfl) ?_
  refine va_get (D := D) (ci := 5) (v := .ref w8) (C := R_MD) (T := T_MD) (N := 22) hx hb hw in_MD hown hE.1 hP 0 rfl rfl 11 (by decide) (hw _ kw_772) (fun _ h9 => h9) rfl d_MD_append_1 ?_
  refine lv_iload_n hx hb d_MD_append_4 rfl (lv_at hl 1 rfl) ?_
  refine jn_iald (k := rr) hx hb hE.1 hP 2 0 rfl rfl (by omega) (by omega) d_MD_append_5 ?_
  refine W.eq (g2 := F0 m 6 ls [.int (nI (nn (si rr)))]) (by rw [← hrw.1]) ?_
  refine lv_iconst (v := nI 1) hx hb d_MD_append_6 (by decide +kernel) ?_
  refine jn_iadd (a := (nn (si rr))) (b := 1) hx hb d_MD_append_7 ?_
  refine lv_istore_n (lv' := [(3, .int (nI ((nn (si rr)) + 1))), (0, .ref w0), (1, .int (nI rr)), (2, .int (nI tl))]) hx hb d_MD_append_8 rfl hl (by decide) rfl (fun ls hl => ?_)
  refine lv_iconst (v := nI 0) hx hb d_MD_append_9 (by decide +kernel) ?_
  refine lv_istore (lv' := [(4, .int (nI 0)), (3, .int (nI ((nn (si rr)) + 1))), (0, .ref w0), (1, .int (nI rr)), (2, .int (nI tl))]) hx hb d_MD_append_10 hl (by decide) rfl (fun ls hl => ?_)
  refine lv_iconst (v := nI 0) hx hb d_MD_append_12 (by decide +kernel) ?_
  refine lv_istore (lv' := [(5, .int (nI 0)), (4, .int (nI 0)), (3, .int (nI ((nn (si rr)) + 1))), (0, .ref w0), (1, .int (nI rr)), (2, .int (nI tl))]) hx hb d_MD_append_13 hl (by decide) rfl (fun ls hl => ?_)
  refine lp_k_MD_append_15 w0 w1 w2 w3 w4 w5 w6 w7 w8 w9 w10 w11 w12 w13 w14 yt te nt wb rc fp ft th ro si fr rr tl hrr hrw hs9 hrc htl hx hb hml hown hw hE hX hA (fun f9 a9 hz ha1 ha2 H locs ls hP hD hS hl => ?_) ((nn (si rr) - 0) + 1) 0 fr 0 (Nat.lt_succ_self _) (Nat.zero_le _) rfl (Nat.zero_le _) (Nat.zero_le _) _ _ _ (hP.sub [0, 1, 2, 3] rfl) (hD.sub [0, 1, 2, 3] (by decide) rfl) hS (lv_sub hl [3, 4, 5, 2, 1, 0] rfl)
  refine lv_iload hx hb d_MD_append_82 (lv_at hl 3 rfl) ?_
  refine lv_iload_n hx hb d_MD_append_84 rfl (lv_at hl 2 rfl) ?_
  refine jn_icmp_ge (tgt := 96) (a := a9) (b := (nn (si rr) + 1)) hx hb d_MD_append_85 (by decide) (by omega) (by omega) (fun c_85 => ?_) (fun c_85 => ?_)
  · skip
    refine lv_iconst (v := nI 0) hx hb d_MD_append_96 (by decide +kernel) ?_
    refine lv_istore (lv' := [(5, .int (nI 0)), (0, .ref w0), (2, .int (nI tl)), (3, .int (nI (nn (si rr) + 1))), (4, .int (nI a9))]) hx hb d_MD_append_97 hl (by decide) rfl (fun ls hl => ?_)
    refine lp_k_MD_append_99 w0 w1 w2 w3 w4 w5 w6 w7 w8 w9 w10 w11 w12 w13 w14 yt te nt wb rc fp ft th ro si fr rr tl hrr hrw hs9 hrc htl f9 (show f9 = apF ro (30 * rr) tl fr (nn (si rr)) from by unfold apF; rw [← hz]; dsimp only; rw [if_neg (by omega)]) hx hb hml hown hw hE hX hA (fun hex H locs ls hP hD hS hl => ?_) (fun hno H locs ls hP hD hS hl => ?_) ((rc - 0) + 1) 0 (Nat.lt_succ_self _) (Nat.zero_le _) (fun r hr => absurd hr (Nat.not_lt_zero r)) _ _ _ (hP.sub [0, 1, 2, 3] rfl) (hD.sub [0, 1, 2, 3] (by decide) rfl) hS (lv_sub hl [1, 3, 0] rfl)
    · skip
      have hP9 := hP.sub (ws' := [(w0, .inr (5, [.ref w1, .ref w2, .int yt, .int te, .ref w3, .ref w4, .ref w5, .int nt, .int wb, .ref w6, .ref w7, .ref w8, .int (nI rc), .ref w9, .ref w10, .ref w11, .ref w12, .ref w13, .ref w14, .int fp, .int ft, .int th])), (w7, .inl (cI, 15030, .inl ro)), (w8, .inl (cI, 501, .inl si)), (w9, .inl (cI, 30, .inl f9))]) [0, 1, 2, 3] rfl
      have hD9 := hD.sub (ws' := [(w0, .inr (5, [.ref w1, .ref w2, .int yt, .int te, .ref w3, .ref w4, .ref w5, .int nt, .int wb, .ref w6, .ref w7, .ref w8, .int (nI rc), .ref w9, .ref w10, .ref w11, .ref w12, .ref w13, .ref w14, .int fp, .int ft, .int th])), (w7, .inl (cI, 15030, .inl ro)), (w8, .inl (cI, 501, .inl si)), (w9, .inl (cI, 30, .inl f9))]) [0, 1, 2, 3] (by decide) rfl
      exact W.vret hx hb hr (fun t9 ht hW => ⟨⟨(ro, si, f9, rc), rfl, (by rw [← (show f9 = apF ro (30 * rr) tl fr (nn (si rr)) from by unfold apF; rw [← hz]; dsimp only; rw [if_neg (by omega)])]; exact Or.inl ⟨hex, rfl⟩), ⟨by rw [ht]; exact hP9, hD9⟩⟩, hS.F ht⟩) hS.2.2 d_MD_append_181
    · skip
      refine lv_aload_n hx hb d_MD_append_188 rfl (lv_at hl 0 rfl) ?_
      refine va_get (D := D) (ci := 5) (v := .int (nI rc)) (C := R_MD) (T := T_MD) (N := 22) hx hb hw in_MD hown hE.1 hP 0 rfl rfl 12 (by decide) (hw _ kw_773) (fun _ h9 => h9) rfl d_MD_append_189 ?_
      refine lv_sipush (v := nI 500) hx hb d_MD_append_192 (by decide +kernel) ?_
      refine jn_icmp_gt (tgt := 265) (a := rc) (b := 500) hx hb d_MD_append_195 (by decide) (by omega) (by omega) (fun c_195 => ?_) (fun c_195 => ?_)
      · skip
        exfalso
        omega
      · skip
        refine lv_aload_n hx hb d_MD_append_198 rfl (lv_at hl 0 rfl) ?_
        refine va_get (D := D) (ci := 5) (v := .int (nI rc)) (C := R_MD) (T := T_MD) (N := 22) hx hb hw in_MD hown hE.1 hP 0 rfl rfl 12 (by decide) (hw _ kw_773) (fun _ h9 => h9) rfl d_MD_append_199 ?_
        refine lv_sipush (v := nI 500) hx hb d_MD_append_202 (by decide +kernel) ?_
        refine jn_icmp_ge (tgt := 255) (a := rc) (b := 500) hx hb d_MD_append_205 (by decide) (by omega) (by omega) (fun c_205 => ?_) (fun c_205 => ?_)
        · skip
          refine lv_aload_n hx hb d_MD_append_255 rfl (lv_at hl 0 rfl) ?_
          refine lv_dup hx hb d_MD_append_256 rfl ?_
          refine va_get (D := D) (ci := 5) (v := .int (nI rc)) (C := R_MD) (T := T_MD) (N := 22) hx hb hw in_MD hown hE.1 hP 0 rfl rfl 12 (by decide) (hw _ kw_773) (fun _ h9 => h9) rfl d_MD_append_257 ?_
          refine lv_iconst (v := nI 1) hx hb d_MD_append_260 (by decide +kernel) ?_
          refine jn_iadd (a := rc) (b := 1) hx hb d_MD_append_261 ?_
          refine va_put (D := D) (ci := 5) (v := .int (nI (rc + 1))) (ty := .int) (C := R_MD) (T := T_MD) (N := 22) hx hb hw in_MD ty_MD ty_MD_ok nm_MD_ok hown hE.1 hP hD hS 0 rfl rfl 12 (by decide) (hw _ kw_773) (fun _ h9 => h9) rfl (by decide +kernel) rfl rfl (Nat.le_of_ble_eq_true rfl) d_MD_append_262 (fun H locs hP hD hS => ?_)
          have hP : va_P D vwCl [(w0, .inr (5, [.ref w1, .ref w2, .int yt, .int te, .ref w3, .ref w4, .ref w5, .int nt, .int wb, .ref w6, .ref w7, .ref w8, .int (nI (rc + 1)), .ref w9, .ref w10, .ref w11, .ref w12, .ref w13, .ref w14, .int fp, .int ft, .int th])), (w7, .inl (cI, 15030, .inl ro)), (w8, .inl (cI, 501, .inl si)), (w9, .inl (cI, 30, .inl f9))] H := hP
          have hD : va_D A [(w0, .inr (5, [.ref w1, .ref w2, .int yt, .int te, .ref w3, .ref w4, .ref w5, .int nt, .int wb, .ref w6, .ref w7, .ref w8, .int (nI (rc + 1)), .ref w9, .ref w10, .ref w11, .ref w12, .ref w13, .ref w14, .int fp, .int ft, .int th])), (w7, .inl (cI, 15030, .inl ro)), (w8, .inl (cI, 501, .inl si)), (w9, .inl (cI, 30, .inl f9))] := hD
          have hP9 := hP.sub (ws' := [(w0, .inr (5, [.ref w1, .ref w2, .int yt, .int te, .ref w3, .ref w4, .ref w5, .int nt, .int wb, .ref w6, .ref w7, .ref w8, .int (nI (rc + 1)), .ref w9, .ref w10, .ref w11, .ref w12, .ref w13, .ref w14, .int fp, .int ft, .int th])), (w7, .inl (cI, 15030, .inl ro)), (w8, .inl (cI, 501, .inl si)), (w9, .inl (cI, 30, .inl f9))]) [0, 1, 2, 3] rfl
          have hD9 := hD.sub (ws' := [(w0, .inr (5, [.ref w1, .ref w2, .int yt, .int te, .ref w3, .ref w4, .ref w5, .int nt, .int wb, .ref w6, .ref w7, .ref w8, .int (nI (rc + 1)), .ref w9, .ref w10, .ref w11, .ref w12, .ref w13, .ref w14, .int fp, .int ft, .int th])), (w7, .inl (cI, 15030, .inl ro)), (w8, .inl (cI, 501, .inl si)), (w9, .inl (cI, 30, .inl f9))]) [0, 1, 2, 3] (by decide) rfl
          exact W.vret hx hb hr (fun t9 ht hW => ⟨⟨(ro, si, f9, rc + 1), rfl, (by rw [← (show f9 = apF ro (30 * rr) tl fr (nn (si rr)) from by unfold apF; rw [← hz]; dsimp only; rw [if_neg (by omega)])]; exact Or.inr ⟨hno, by rw [if_neg (by omega)]⟩), ⟨by rw [ht]; exact hP9, hD9⟩⟩, hS.F ht⟩) hS.2.2 d_MD_append_265
        · skip
          refine lv_iconst (v := nI 0) hx hb d_MD_append_208 (by decide +kernel) ?_
          refine lv_istore (lv' := [(5, .int (nI 0)), (0, .ref w0), (3, .int (nI (nn (si rr) + 1)))]) hx hb d_MD_append_209 hl (by decide) rfl (fun ls hl => ?_)
          refine lp_k_MD_append_211 w0 w1 w2 w3 w4 w5 w6 w7 w8 w9 w10 w11 w12 w13 w14 yt te nt wb rc fp ft th ro si fr rr tl hrr hrw hs9 hrc htl f9 (by omega) hx hb hml hown hw hE hX hA (fun q9 hq H locs ls hP hD hS hl => ?_) ((nn (si rr) + 1 - 0) + 1) 0 ro (Nat.lt_succ_self _) (Nat.zero_le _) (cpL_zero _ _ _).symm _ _ _ (hP.sub [0, 1, 2, 3] rfl) (hD.sub [0, 1, 2, 3] (by decide) rfl) hS (lv_sub hl [1, 2, 0] rfl)
          refine lv_aload_n hx hb d_MD_append_245 rfl (lv_at hl 0 rfl) ?_
          refine va_get (D := D) (ci := 5) (v := .ref w8) (C := R_MD) (T := T_MD) (N := 22) hx hb hw in_MD hown hE.1 hP 0 rfl rfl 11 (by decide) (hw _ kw_772) (fun _ h9 => h9) rfl d_MD_append_246 ?_
          refine lv_aload_n hx hb d_MD_append_249 rfl (lv_at hl 0 rfl) ?_
          refine va_get (D := D) (ci := 5) (v := .int (nI rc)) (C := R_MD) (T := T_MD) (N := 22) hx hb hw in_MD hown hE.1 hP 0 rfl rfl 12 (by decide) (hw _ kw_773) (fun _ h9 => h9) rfl d_MD_append_250 ?_
          refine lv_iload_n hx hb d_MD_append_253 rfl (lv_at hl 1 rfl) ?_
          refine jn_iast (k := rc) hx hb hE.1 hP hD hS 2 0 rfl rfl (by omega) (by omega) d_MD_append_254 (fun H locs hP hD hS => ?_)
          have hP : va_P D vwCl [(w0, .inr (5, [.ref w1, .ref w2, .int yt, .int te, .ref w3, .ref w4, .ref w5, .int nt, .int wb, .ref w6, .ref w7, .ref w8, .int (nI rc), .ref w9, .ref w10, .ref w11, .ref w12, .ref w13, .ref w14, .int fp, .int ft, .int th])), (w7, .inl (cI, 15030, .inl q9)), (w8, .inl (cI, 501, .inl (upd si rc (nI (nn (si rr) + 1))))), (w9, .inl (cI, 30, .inl f9))] H := hP
          have hD : va_D A [(w0, .inr (5, [.ref w1, .ref w2, .int yt, .int te, .ref w3, .ref w4, .ref w5, .int nt, .int wb, .ref w6, .ref w7, .ref w8, .int (nI rc), .ref w9, .ref w10, .ref w11, .ref w12, .ref w13, .ref w14, .int fp, .int ft, .int th])), (w7, .inl (cI, 15030, .inl q9)), (w8, .inl (cI, 501, .inl (upd si rc (nI (nn (si rr) + 1))))), (w9, .inl (cI, 30, .inl f9))] := hD
          refine lv_aload_n hx hb d_MD_append_255 rfl (lv_at hl 0 rfl) ?_
          refine lv_dup hx hb d_MD_append_256 rfl ?_
          refine va_get (D := D) (ci := 5) (v := .int (nI rc)) (C := R_MD) (T := T_MD) (N := 22) hx hb hw in_MD hown hE.1 hP 0 rfl rfl 12 (by decide) (hw _ kw_773) (fun _ h9 => h9) rfl d_MD_append_257 ?_
          refine lv_iconst (v := nI 1) hx hb d_MD_append_260 (by decide +kernel) ?_
          refine jn_iadd (a := rc) (b := 1) hx hb d_MD_append_261 ?_
          refine va_put (D := D) (ci := 5) (v := .int (nI (rc + 1))) (ty := .int) (C := R_MD) (T := T_MD) (N := 22) hx hb hw in_MD ty_MD ty_MD_ok nm_MD_ok hown hE.1 hP hD hS 0 rfl rfl 12 (by decide) (hw _ kw_773) (fun _ h9 => h9) rfl (by decide +kernel) rfl rfl (Nat.le_of_ble_eq_true rfl) d_MD_append_262 (fun H locs hP hD hS => ?_)
          have hP : va_P D vwCl [(w0, .inr (5, [.ref w1, .ref w2, .int yt, .int te, .ref w3, .ref w4, .ref w5, .int nt, .int wb, .ref w6, .ref w7, .ref w8, .int (nI (rc + 1)), .ref w9, .ref w10, .ref w11, .ref w12, .ref w13, .ref w14, .int fp, .int ft, .int th])), (w7, .inl (cI, 15030, .inl q9)), (w8, .inl (cI, 501, .inl (upd si rc (nI (nn (si rr) + 1))))), (w9, .inl (cI, 30, .inl f9))] H := hP
          have hD : va_D A [(w0, .inr (5, [.ref w1, .ref w2, .int yt, .int te, .ref w3, .ref w4, .ref w5, .int nt, .int wb, .ref w6, .ref w7, .ref w8, .int (nI (rc + 1)), .ref w9, .ref w10, .ref w11, .ref w12, .ref w13, .ref w14, .int fp, .int ft, .int th])), (w7, .inl (cI, 15030, .inl q9)), (w8, .inl (cI, 501, .inl (upd si rc (nI (nn (si rr) + 1))))), (w9, .inl (cI, 30, .inl f9))] := hD
          have hP9 := hP.sub (ws' := [(w0, .inr (5, [.ref w1, .ref w2, .int yt, .int te, .ref w3, .ref w4, .ref w5, .int nt, .int wb, .ref w6, .ref w7, .ref w8, .int (nI (rc + 1)), .ref w9, .ref w10, .ref w11, .ref w12, .ref w13, .ref w14, .int fp, .int ft, .int th])), (w7, .inl (cI, 15030, .inl q9)), (w8, .inl (cI, 501, .inl (upd si rc (nI (nn (si rr) + 1))))), (w9, .inl (cI, 30, .inl f9))]) [0, 1, 2, 3] rfl
          have hD9 := hD.sub (ws' := [(w0, .inr (5, [.ref w1, .ref w2, .int yt, .int te, .ref w3, .ref w4, .ref w5, .int nt, .int wb, .ref w6, .ref w7, .ref w8, .int (nI (rc + 1)), .ref w9, .ref w10, .ref w11, .ref w12, .ref w13, .ref w14, .int fp, .int ft, .int th])), (w7, .inl (cI, 15030, .inl q9)), (w8, .inl (cI, 501, .inl (upd si rc (nI (nn (si rr) + 1))))), (w9, .inl (cI, 30, .inl f9))]) [0, 1, 2, 3] (by decide) rfl
          exact W.vret hx hb hr (fun t9 ht hW => ⟨⟨(q9, upd si rc (nI (nn (si rr) + 1)), f9, rc + 1), rfl, (by rw [← (show f9 = apF ro (30 * rr) tl fr (nn (si rr)) from by unfold apF; rw [← hz]; dsimp only; rw [if_neg (by omega)])]; exact Or.inr ⟨hno, by rw [if_pos (by omega), hq]⟩), ⟨by rw [ht]; exact hP9, hD9⟩⟩, hS.F ht⟩) hS.2.2 d_MD_append_265
  · skip
    refine lv_aload_n hx hb d_MD_append_88 rfl (lv_at hl 0 rfl) ?_
    refine va_get (D := D) (ci := 5) (v := .ref w9) (C := R_MD) (T := T_MD) (N := 22) hx hb hw in_MD hown hE.1 hP 0 rfl rfl 13 (by decide) (hw _ kw_774) (fun _ h9 => h9) rfl d_MD_append_89 ?_
    refine lv_iload hx hb d_MD_append_92 (lv_at hl 3 rfl) ?_
    refine lv_iload_n hx hb d_MD_append_94 rfl (lv_at hl 1 rfl) ?_
    refine jn_iast (k := a9) hx hb hE.1 hP hD hS 3 0 rfl rfl (by omega) (by omega) d_MD_append_95 (fun H locs hP hD hS => ?_)
    have hP : va_P D vwCl [(w0, .inr (5, [.ref w1, .ref w2, .int yt, .int te, .ref w3, .ref w4, .ref w5, .int nt, .int wb, .ref w6, .ref w7, .ref w8, .int (nI rc), .ref w9, .ref w10, .ref w11, .ref w12, .ref w13, .ref w14, .int fp, .int ft, .int th])), (w7, .inl (cI, 15030, .inl ro)), (w8, .inl (cI, 501, .inl si)), (w9, .inl (cI, 30, .inl (upd f9 a9 (nI tl))))] H := hP
    have hD : va_D A [(w0, .inr (5, [.ref w1, .ref w2, .int yt, .int te, .ref w3, .ref w4, .ref w5, .int nt, .int wb, .ref w6, .ref w7, .ref w8, .int (nI rc), .ref w9, .ref w10, .ref w11, .ref w12, .ref w13, .ref w14, .int fp, .int ft, .int th])), (w7, .inl (cI, 15030, .inl ro)), (w8, .inl (cI, 501, .inl si)), (w9, .inl (cI, 30, .inl (upd f9 a9 (nI tl))))] := hD
    refine lv_iconst (v := nI 0) hx hb d_MD_append_96 (by decide +kernel) ?_
    refine lv_istore (lv' := [(5, .int (nI 0)), (0, .ref w0), (2, .int (nI tl)), (3, .int (nI (nn (si rr) + 1))), (4, .int (nI a9))]) hx hb d_MD_append_97 hl (by decide) rfl (fun ls hl => ?_)
    refine lp_k_MD_append_99 w0 w1 w2 w3 w4 w5 w6 w7 w8 w9 w10 w11 w12 w13 w14 yt te nt wb rc fp ft th ro si fr rr tl hrr hrw hs9 hrc htl (upd f9 a9 (nI tl)) (show upd f9 a9 (nI tl) = apF ro (30 * rr) tl fr (nn (si rr)) from by unfold apF; rw [← hz]; dsimp only; rw [if_pos (by omega)]) hx hb hml hown hw hE hX hA (fun hex H locs ls hP hD hS hl => ?_) (fun hno H locs ls hP hD hS hl => ?_) ((rc - 0) + 1) 0 (Nat.lt_succ_self _) (Nat.zero_le _) (fun r hr => absurd hr (Nat.not_lt_zero r)) _ _ _ (hP.sub [0, 1, 2, 3] rfl) (hD.sub [0, 1, 2, 3] (by decide) rfl) hS (lv_sub hl [1, 3, 0] rfl)
    · skip
      have hP9 := hP.sub (ws' := [(w0, .inr (5, [.ref w1, .ref w2, .int yt, .int te, .ref w3, .ref w4, .ref w5, .int nt, .int wb, .ref w6, .ref w7, .ref w8, .int (nI rc), .ref w9, .ref w10, .ref w11, .ref w12, .ref w13, .ref w14, .int fp, .int ft, .int th])), (w7, .inl (cI, 15030, .inl ro)), (w8, .inl (cI, 501, .inl si)), (w9, .inl (cI, 30, .inl (upd f9 a9 (nI tl))))]) [0, 1, 2, 3] rfl
      have hD9 := hD.sub (ws' := [(w0, .inr (5, [.ref w1, .ref w2, .int yt, .int te, .ref w3, .ref w4, .ref w5, .int nt, .int wb, .ref w6, .ref w7, .ref w8, .int (nI rc), .ref w9, .ref w10, .ref w11, .ref w12, .ref w13, .ref w14, .int fp, .int ft, .int th])), (w7, .inl (cI, 15030, .inl ro)), (w8, .inl (cI, 501, .inl si)), (w9, .inl (cI, 30, .inl (upd f9 a9 (nI tl))))]) [0, 1, 2, 3] (by decide) rfl
      exact W.vret hx hb hr (fun t9 ht hW => ⟨⟨(ro, si, upd f9 a9 (nI tl), rc), rfl, (by rw [← (show upd f9 a9 (nI tl) = apF ro (30 * rr) tl fr (nn (si rr)) from by unfold apF; rw [← hz]; dsimp only; rw [if_pos (by omega)])]; exact Or.inl ⟨hex, rfl⟩), ⟨by rw [ht]; exact hP9, hD9⟩⟩, hS.F ht⟩) hS.2.2 d_MD_append_181
    · skip
      refine lv_aload_n hx hb d_MD_append_188 rfl (lv_at hl 0 rfl) ?_
      refine va_get (D := D) (ci := 5) (v := .int (nI rc)) (C := R_MD) (T := T_MD) (N := 22) hx hb hw in_MD hown hE.1 hP 0 rfl rfl 12 (by decide) (hw _ kw_773) (fun _ h9 => h9) rfl d_MD_append_189 ?_
      refine lv_sipush (v := nI 500) hx hb d_MD_append_192 (by decide +kernel) ?_
      refine jn_icmp_gt (tgt := 265) (a := rc) (b := 500) hx hb d_MD_append_195 (by decide) (by omega) (by omega) (fun c_195 => ?_) (fun c_195 => ?_)
      · skip
        exfalso
        omega
      · skip
        refine lv_aload_n hx hb d_MD_append_198 rfl (lv_at hl 0 rfl) ?_
        refine va_get (D := D) (ci := 5) (v := .int (nI rc)) (C := R_MD) (T := T_MD) (N := 22) hx hb hw in_MD hown hE.1 hP 0 rfl rfl 12 (by decide) (hw _ kw_773) (fun _ h9 => h9) rfl d_MD_append_199 ?_
        refine lv_sipush (v := nI 500) hx hb d_MD_append_202 (by decide +kernel) ?_
        refine jn_icmp_ge (tgt := 255) (a := rc) (b := 500) hx hb d_MD_append_205 (by decide) (by omega) (by omega) (fun c_205 => ?_) (fun c_205 => ?_)
        · skip
          refine lv_aload_n hx hb d_MD_append_255 rfl (lv_at hl 0 rfl) ?_
          refine lv_dup hx hb d_MD_append_256 rfl ?_
          refine va_get (D := D) (ci := 5) (v := .int (nI rc)) (C := R_MD) (T := T_MD) (N := 22) hx hb hw in_MD hown hE.1 hP 0 rfl rfl 12 (by decide) (hw _ kw_773) (fun _ h9 => h9) rfl d_MD_append_257 ?_
          refine lv_iconst (v := nI 1) hx hb d_MD_append_260 (by decide +kernel) ?_
          refine jn_iadd (a := rc) (b := 1) hx hb d_MD_append_261 ?_
          refine va_put (D := D) (ci := 5) (v := .int (nI (rc + 1))) (ty := .int) (C := R_MD) (T := T_MD) (N := 22) hx hb hw in_MD ty_MD ty_MD_ok nm_MD_ok hown hE.1 hP hD hS 0 rfl rfl 12 (by decide) (hw _ kw_773) (fun _ h9 => h9) rfl (by decide +kernel) rfl rfl (Nat.le_of_ble_eq_true rfl) d_MD_append_262 (fun H locs hP hD hS => ?_)
          have hP : va_P D vwCl [(w0, .inr (5, [.ref w1, .ref w2, .int yt, .int te, .ref w3, .ref w4, .ref w5, .int nt, .int wb, .ref w6, .ref w7, .ref w8, .int (nI (rc + 1)), .ref w9, .ref w10, .ref w11, .ref w12, .ref w13, .ref w14, .int fp, .int ft, .int th])), (w7, .inl (cI, 15030, .inl ro)), (w8, .inl (cI, 501, .inl si)), (w9, .inl (cI, 30, .inl (upd f9 a9 (nI tl))))] H := hP
          have hD : va_D A [(w0, .inr (5, [.ref w1, .ref w2, .int yt, .int te, .ref w3, .ref w4, .ref w5, .int nt, .int wb, .ref w6, .ref w7, .ref w8, .int (nI (rc + 1)), .ref w9, .ref w10, .ref w11, .ref w12, .ref w13, .ref w14, .int fp, .int ft, .int th])), (w7, .inl (cI, 15030, .inl ro)), (w8, .inl (cI, 501, .inl si)), (w9, .inl (cI, 30, .inl (upd f9 a9 (nI tl))))] := hD
          have hP9 := hP.sub (ws' := [(w0, .inr (5, [.ref w1, .ref w2, .int yt, .int te, .ref w3, .ref w4, .ref w5, .int nt, .int wb, .ref w6, .ref w7, .ref w8, .int (nI (rc + 1)), .ref w9, .ref w10, .ref w11, .ref w12, .ref w13, .ref w14, .int fp, .int ft, .int th])), (w7, .inl (cI, 15030, .inl ro)), (w8, .inl (cI, 501, .inl si)), (w9, .inl (cI, 30, .inl (upd f9 a9 (nI tl))))]) [0, 1, 2, 3] rfl
          have hD9 := hD.sub (ws' := [(w0, .inr (5, [.ref w1, .ref w2, .int yt, .int te, .ref w3, .ref w4, .ref w5, .int nt, .int wb, .ref w6, .ref w7, .ref w8, .int (nI (rc + 1)), .ref w9, .ref w10, .ref w11, .ref w12, .ref w13, .ref w14, .int fp, .int ft, .int th])), (w7, .inl (cI, 15030, .inl ro)), (w8, .inl (cI, 501, .inl si)), (w9, .inl (cI, 30, .inl (upd f9 a9 (nI tl))))]) [0, 1, 2, 3] (by decide) rfl
          exact W.vret hx hb hr (fun t9 ht hW => ⟨⟨(ro, si, upd f9 a9 (nI tl), rc + 1), rfl, (by rw [← (show upd f9 a9 (nI tl) = apF ro (30 * rr) tl fr (nn (si rr)) from by unfold apF; rw [← hz]; dsimp only; rw [if_pos (by omega)])]; exact Or.inr ⟨hno, by rw [if_neg (by omega)]⟩), ⟨by rw [ht]; exact hP9, hD9⟩⟩, hS.F ht⟩) hS.2.2 d_MD_append_265
        · skip
          refine lv_iconst (v := nI 0) hx hb d_MD_append_208 (by decide +kernel) ?_
          refine lv_istore (lv' := [(5, .int (nI 0)), (0, .ref w0), (3, .int (nI (nn (si rr) + 1)))]) hx hb d_MD_append_209 hl (by decide) rfl (fun ls hl => ?_)
          refine lp_k_MD_append_211 w0 w1 w2 w3 w4 w5 w6 w7 w8 w9 w10 w11 w12 w13 w14 yt te nt wb rc fp ft th ro si fr rr tl hrr hrw hs9 hrc htl (upd f9 a9 (nI tl)) (by omega) hx hb hml hown hw hE hX hA (fun q9 hq H locs ls hP hD hS hl => ?_) ((nn (si rr) + 1 - 0) + 1) 0 ro (Nat.lt_succ_self _) (Nat.zero_le _) (cpL_zero _ _ _).symm _ _ _ (hP.sub [0, 1, 2, 3] rfl) (hD.sub [0, 1, 2, 3] (by decide) rfl) hS (lv_sub hl [1, 2, 0] rfl)
          refine lv_aload_n hx hb d_MD_append_245 rfl (lv_at hl 0 rfl) ?_
          refine va_get (D := D) (ci := 5) (v := .ref w8) (C := R_MD) (T := T_MD) (N := 22) hx hb hw in_MD hown hE.1 hP 0 rfl rfl 11 (by decide) (hw _ kw_772) (fun _ h9 => h9) rfl d_MD_append_246 ?_
          refine lv_aload_n hx hb d_MD_append_249 rfl (lv_at hl 0 rfl) ?_
          refine va_get (D := D) (ci := 5) (v := .int (nI rc)) (C := R_MD) (T := T_MD) (N := 22) hx hb hw in_MD hown hE.1 hP 0 rfl rfl 12 (by decide) (hw _ kw_773) (fun _ h9 => h9) rfl d_MD_append_250 ?_
          refine lv_iload_n hx hb d_MD_append_253 rfl (lv_at hl 1 rfl) ?_
          refine jn_iast (k := rc) hx hb hE.1 hP hD hS 2 0 rfl rfl (by omega) (by omega) d_MD_append_254 (fun H locs hP hD hS => ?_)
          have hP : va_P D vwCl [(w0, .inr (5, [.ref w1, .ref w2, .int yt, .int te, .ref w3, .ref w4, .ref w5, .int nt, .int wb, .ref w6, .ref w7, .ref w8, .int (nI rc), .ref w9, .ref w10, .ref w11, .ref w12, .ref w13, .ref w14, .int fp, .int ft, .int th])), (w7, .inl (cI, 15030, .inl q9)), (w8, .inl (cI, 501, .inl (upd si rc (nI (nn (si rr) + 1))))), (w9, .inl (cI, 30, .inl (upd f9 a9 (nI tl))))] H := hP
          have hD : va_D A [(w0, .inr (5, [.ref w1, .ref w2, .int yt, .int te, .ref w3, .ref w4, .ref w5, .int nt, .int wb, .ref w6, .ref w7, .ref w8, .int (nI rc), .ref w9, .ref w10, .ref w11, .ref w12, .ref w13, .ref w14, .int fp, .int ft, .int th])), (w7, .inl (cI, 15030, .inl q9)), (w8, .inl (cI, 501, .inl (upd si rc (nI (nn (si rr) + 1))))), (w9, .inl (cI, 30, .inl (upd f9 a9 (nI tl))))] := hD
          refine lv_aload_n hx hb d_MD_append_255 rfl (lv_at hl 0 rfl) ?_
          refine lv_dup hx hb d_MD_append_256 rfl ?_
          refine va_get (D := D) (ci := 5) (v := .int (nI rc)) (C := R_MD) (T := T_MD) (N := 22) hx hb hw in_MD hown hE.1 hP 0 rfl rfl 12 (by decide) (hw _ kw_773) (fun _ h9 => h9) rfl d_MD_append_257 ?_
          refine lv_iconst (v := nI 1) hx hb d_MD_append_260 (by decide +kernel) ?_
          refine jn_iadd (a := rc) (b := 1) hx hb d_MD_append_261 ?_
          refine va_put (D := D) (ci := 5) (v := .int (nI (rc + 1))) (ty := .int) (C := R_MD) (T := T_MD) (N := 22) hx hb hw in_MD ty_MD ty_MD_ok nm_MD_ok hown hE.1 hP hD hS 0 rfl rfl 12 (by decide) (hw _ kw_773) (fun _ h9 => h9) rfl (by decide +kernel) rfl rfl (Nat.le_of_ble_eq_true rfl) d_MD_append_262 (fun H locs hP hD hS => ?_)
          have hP : va_P D vwCl [(w0, .inr (5, [.ref w1, .ref w2, .int yt, .int te, .ref w3, .ref w4, .ref w5, .int nt, .int wb, .ref w6, .ref w7, .ref w8, .int (nI (rc + 1)), .ref w9, .ref w10, .ref w11, .ref w12, .ref w13, .ref w14, .int fp, .int ft, .int th])), (w7, .inl (cI, 15030, .inl q9)), (w8, .inl (cI, 501, .inl (upd si rc (nI (nn (si rr) + 1))))), (w9, .inl (cI, 30, .inl (upd f9 a9 (nI tl))))] H := hP
          have hD : va_D A [(w0, .inr (5, [.ref w1, .ref w2, .int yt, .int te, .ref w3, .ref w4, .ref w5, .int nt, .int wb, .ref w6, .ref w7, .ref w8, .int (nI (rc + 1)), .ref w9, .ref w10, .ref w11, .ref w12, .ref w13, .ref w14, .int fp, .int ft, .int th])), (w7, .inl (cI, 15030, .inl q9)), (w8, .inl (cI, 501, .inl (upd si rc (nI (nn (si rr) + 1))))), (w9, .inl (cI, 30, .inl (upd f9 a9 (nI tl))))] := hD
          have hP9 := hP.sub (ws' := [(w0, .inr (5, [.ref w1, .ref w2, .int yt, .int te, .ref w3, .ref w4, .ref w5, .int nt, .int wb, .ref w6, .ref w7, .ref w8, .int (nI (rc + 1)), .ref w9, .ref w10, .ref w11, .ref w12, .ref w13, .ref w14, .int fp, .int ft, .int th])), (w7, .inl (cI, 15030, .inl q9)), (w8, .inl (cI, 501, .inl (upd si rc (nI (nn (si rr) + 1))))), (w9, .inl (cI, 30, .inl (upd f9 a9 (nI tl))))]) [0, 1, 2, 3] rfl
          have hD9 := hD.sub (ws' := [(w0, .inr (5, [.ref w1, .ref w2, .int yt, .int te, .ref w3, .ref w4, .ref w5, .int nt, .int wb, .ref w6, .ref w7, .ref w8, .int (nI (rc + 1)), .ref w9, .ref w10, .ref w11, .ref w12, .ref w13, .ref w14, .int fp, .int ft, .int th])), (w7, .inl (cI, 15030, .inl q9)), (w8, .inl (cI, 501, .inl (upd si rc (nI (nn (si rr) + 1))))), (w9, .inl (cI, 30, .inl (upd f9 a9 (nI tl))))]) [0, 1, 2, 3] (by decide) rfl
          exact W.vret hx hb hr (fun t9 ht hW => ⟨⟨(q9, upd si rc (nI (nn (si rr) + 1)), upd f9 a9 (nI tl), rc + 1), rfl, (by rw [← (show upd f9 a9 (nI tl) = apF ro (30 * rr) tl fr (nn (si rr)) from by unfold apF; rw [← hz]; dsimp only; rw [if_pos (by omega)])]; exact Or.inr ⟨hno, by rw [if_pos (by omega), hq]⟩), ⟨by rw [ht]; exact hP9, hD9⟩⟩, hS.F ht⟩) hS.2.2 d_MD_append_265
