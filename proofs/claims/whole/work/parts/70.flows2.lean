theorem d_MD_flows_0 : decode c_MD_flows 0 = .ok (.iconst 0, 1) := by decide +kernel
theorem d_MD_flows_1 : decode c_MD_flows 1 = .ok (.istore_n 2, 1) := by decide +kernel
theorem d_MD_flows_2 : decode c_MD_flows 2 = .ok (.iload_n 2, 1) := by decide +kernel
theorem d_MD_flows_3 : decode c_MD_flows 3 = .ok (.aload_n 0, 1) := by decide +kernel
theorem d_MD_flows_4 : decode c_MD_flows 4 = .ok (.getfield 98, 3) := by decide +kernel
theorem d_MD_flows_7 : decode c_MD_flows 7 = .ok (.if_icmp .ge 16, 3) := by decide +kernel
theorem d_MD_flows_10 : decode c_MD_flows 10 = .ok (.aload_n 0, 1) := by decide +kernel
theorem d_MD_flows_11 : decode c_MD_flows 11 = .ok (.getfield 50, 3) := by decide +kernel
theorem d_MD_flows_14 : decode c_MD_flows 14 = .ok (.iload_n 2, 1) := by decide +kernel
theorem d_MD_flows_15 : decode c_MD_flows 15 = .ok (.iconst (-1), 1) := by decide +kernel
theorem d_MD_flows_16 : decode c_MD_flows 16 = .ok (.iastore, 1) := by decide +kernel
theorem d_MD_flows_17 : decode c_MD_flows 17 = .ok (.iinc 2 1, 3) := by decide +kernel
theorem d_MD_flows_20 : decode c_MD_flows 20 = .ok (.goto (-18), 3) := by decide +kernel
theorem d_MD_flows_23 : decode c_MD_flows 23 = .ok (.iconst 0, 1) := by decide +kernel
theorem d_MD_flows_24 : decode c_MD_flows 24 = .ok (.istore_n 2, 1) := by decide +kernel
theorem d_MD_flows_25 : decode c_MD_flows 25 = .ok (.iconst 1, 1) := by decide +kernel
theorem d_MD_flows_26 : decode c_MD_flows 26 = .ok (.istore_n 3, 1) := by decide +kernel
theorem d_MD_flows_27 : decode c_MD_flows 27 = .ok (.aload_n 0, 1) := by decide +kernel
theorem d_MD_flows_28 : decode c_MD_flows 28 = .ok (.getfield 53, 3) := by decide +kernel
theorem d_MD_flows_31 : decode c_MD_flows 31 = .ok (.iconst 0, 1) := by decide +kernel
theorem d_MD_flows_32 : decode c_MD_flows 32 = .ok (.iconst 0, 1) := by decide +kernel
theorem d_MD_flows_33 : decode c_MD_flows 33 = .ok (.iastore, 1) := by decide +kernel
theorem d_MD_flows_34 : decode c_MD_flows 34 = .ok (.aload_n 0, 1) := by decide +kernel
theorem d_MD_flows_35 : decode c_MD_flows 35 = .ok (.getfield 50, 3) := by decide +kernel
theorem d_MD_flows_38 : decode c_MD_flows 38 = .ok (.iconst 0, 1) := by decide +kernel
theorem d_MD_flows_39 : decode c_MD_flows 39 = .ok (.iconst 4, 1) := by decide +kernel
theorem d_MD_flows_40 : decode c_MD_flows 40 = .ok (.iastore, 1) := by decide +kernel
theorem d_MD_flows_41 : decode c_MD_flows 41 = .ok (.iload_n 2, 1) := by decide +kernel
theorem d_MD_flows_42 : decode c_MD_flows 42 = .ok (.iload_n 3, 1) := by decide +kernel
theorem d_MD_flows_43 : decode c_MD_flows 43 = .ok (.if_icmp .ge 121, 3) := by decide +kernel
theorem d_MD_flows_46 : decode c_MD_flows 46 = .ok (.aload_n 0, 1) := by decide +kernel
theorem d_MD_flows_47 : decode c_MD_flows 47 = .ok (.getfield 53, 3) := by decide +kernel
theorem d_MD_flows_50 : decode c_MD_flows 50 = .ok (.iload_n 2, 1) := by decide +kernel
theorem d_MD_flows_51 : decode c_MD_flows 51 = .ok (.iaload, 1) := by decide +kernel
theorem d_MD_flows_52 : decode c_MD_flows 52 = .ok (.istore 4, 2) := by decide +kernel
theorem d_MD_flows_54 : decode c_MD_flows 54 = .ok (.iinc 2 1, 3) := by decide +kernel
theorem d_MD_flows_57 : decode c_MD_flows 57 = .ok (.iconst 0, 1) := by decide +kernel
theorem d_MD_flows_58 : decode c_MD_flows 58 = .ok (.istore 5, 2) := by decide +kernel
theorem d_MD_flows_60 : decode c_MD_flows 60 = .ok (.iload 5, 2) := by decide +kernel
theorem d_MD_flows_62 : decode c_MD_flows 62 = .ok (.iconst 4, 1) := by decide +kernel
theorem d_MD_flows_63 : decode c_MD_flows 63 = .ok (.if_icmp .ge 98, 3) := by decide +kernel
theorem d_MD_flows_66 : decode c_MD_flows 66 = .ok (.aload_n 0, 1) := by decide +kernel
theorem d_MD_flows_67 : decode c_MD_flows 67 = .ok (.getfield 44, 3) := by decide +kernel
theorem d_MD_flows_70 : decode c_MD_flows 70 = .ok (.iload 4, 2) := by decide +kernel
theorem d_MD_flows_72 : decode c_MD_flows 72 = .ok (.iaload, 1) := by decide +kernel
theorem d_MD_flows_73 : decode c_MD_flows 73 = .ok (.iload 5, 2) := by decide +kernel
theorem d_MD_flows_75 : decode c_MD_flows 75 = .ok (.invokestatic 70, 3) := by decide +kernel
theorem d_MD_flows_78 : decode c_MD_flows 78 = .ok (.istore 6, 2) := by decide +kernel
theorem d_MD_flows_80 : decode c_MD_flows 80 = .ok (.iload 6, 2) := by decide +kernel
theorem d_MD_flows_82 : decode c_MD_flows 82 = .ok (.ifCond .lt 73, 3) := by decide +kernel
theorem d_MD_flows_85 : decode c_MD_flows 85 = .ok (.aload_n 0, 1) := by decide +kernel
theorem d_MD_flows_86 : decode c_MD_flows 86 = .ok (.getfield 20, 3) := by decide +kernel
theorem d_MD_flows_89 : decode c_MD_flows 89 = .ok (.iload 6, 2) := by decide +kernel
theorem d_MD_flows_91 : decode c_MD_flows 91 = .ok (.iaload, 1) := by decide +kernel
theorem d_MD_flows_92 : decode c_MD_flows 92 = .ok (.ifCond .eq 63, 3) := by decide +kernel
theorem d_MD_flows_95 : decode c_MD_flows 95 = .ok (.aload_n 0, 1) := by decide +kernel
theorem d_MD_flows_96 : decode c_MD_flows 96 = .ok (.getfield 50, 3) := by decide +kernel
theorem d_MD_flows_99 : decode c_MD_flows 99 = .ok (.aload_n 0, 1) := by decide +kernel
theorem d_MD_flows_100 : decode c_MD_flows 100 = .ok (.getfield 41, 3) := by decide +kernel
theorem d_MD_flows_103 : decode c_MD_flows 103 = .ok (.iload 6, 2) := by decide +kernel
theorem d_MD_flows_105 : decode c_MD_flows 105 = .ok (.iaload, 1) := by decide +kernel
theorem d_MD_flows_106 : decode c_MD_flows 106 = .ok (.iaload, 1) := by decide +kernel
theorem d_MD_flows_107 : decode c_MD_flows 107 = .ok (.iconst (-1), 1) := by decide +kernel
theorem d_MD_flows_108 : decode c_MD_flows 108 = .ok (.if_icmp .ne 47, 3) := by decide +kernel
theorem d_MD_flows_111 : decode c_MD_flows 111 = .ok (.aload_n 0, 1) := by decide +kernel
theorem d_MD_flows_112 : decode c_MD_flows 112 = .ok (.iload 4, 2) := by decide +kernel
theorem d_MD_flows_114 : decode c_MD_flows 114 = .ok (.iload 5, 2) := by decide +kernel
theorem d_MD_flows_116 : decode c_MD_flows 116 = .ok (.invokevirtual 152, 3) := by decide +kernel
theorem d_MD_flows_119 : decode c_MD_flows 119 = .ok (.ifCond .gt 6, 3) := by decide +kernel
theorem d_MD_flows_122 : decode c_MD_flows 122 = .ok (.goto 33, 3) := by decide +kernel
theorem d_MD_flows_125 : decode c_MD_flows 125 = .ok (.aload_n 0, 1) := by decide +kernel
theorem d_MD_flows_126 : decode c_MD_flows 126 = .ok (.getfield 50, 3) := by decide +kernel
theorem d_MD_flows_129 : decode c_MD_flows 129 = .ok (.aload_n 0, 1) := by decide +kernel
theorem d_MD_flows_130 : decode c_MD_flows 130 = .ok (.getfield 41, 3) := by decide +kernel
theorem d_MD_flows_133 : decode c_MD_flows 133 = .ok (.iload 6, 2) := by decide +kernel
theorem d_MD_flows_135 : decode c_MD_flows 135 = .ok (.iaload, 1) := by decide +kernel
theorem d_MD_flows_136 : decode c_MD_flows 136 = .ok (.iload 5, 2) := by decide +kernel
theorem d_MD_flows_138 : decode c_MD_flows 138 = .ok (.iastore, 1) := by decide +kernel
theorem d_MD_flows_139 : decode c_MD_flows 139 = .ok (.aload_n 0, 1) := by decide +kernel
theorem d_MD_flows_140 : decode c_MD_flows 140 = .ok (.getfield 53, 3) := by decide +kernel
theorem d_MD_flows_143 : decode c_MD_flows 143 = .ok (.iload_n 3, 1) := by decide +kernel
theorem d_MD_flows_144 : decode c_MD_flows 144 = .ok (.aload_n 0, 1) := by decide +kernel
theorem d_MD_flows_145 : decode c_MD_flows 145 = .ok (.getfield 41, 3) := by decide +kernel
theorem d_MD_flows_148 : decode c_MD_flows 148 = .ok (.iload 6, 2) := by decide +kernel
theorem d_MD_flows_150 : decode c_MD_flows 150 = .ok (.iaload, 1) := by decide +kernel
theorem d_MD_flows_151 : decode c_MD_flows 151 = .ok (.iastore, 1) := by decide +kernel
theorem d_MD_flows_152 : decode c_MD_flows 152 = .ok (.iinc 3 1, 3) := by decide +kernel
theorem d_MD_flows_155 : decode c_MD_flows 155 = .ok (.iinc 5 1, 3) := by decide +kernel
theorem d_MD_flows_158 : decode c_MD_flows 158 = .ok (.goto (-98), 3) := by decide +kernel
theorem d_MD_flows_161 : decode c_MD_flows 161 = .ok (.goto (-120), 3) := by decide +kernel
theorem d_MD_flows_164 : decode c_MD_flows 164 = .ok (.aload_n 0, 1) := by decide +kernel
theorem d_MD_flows_165 : decode c_MD_flows 165 = .ok (.getfield 50, 3) := by decide +kernel
theorem d_MD_flows_168 : decode c_MD_flows 168 = .ok (.iload_n 1, 1) := by decide +kernel
theorem d_MD_flows_169 : decode c_MD_flows 169 = .ok (.iaload, 1) := by decide +kernel
theorem d_MD_flows_170 : decode c_MD_flows 170 = .ok (.iconst (-1), 1) := by decide +kernel
theorem d_MD_flows_171 : decode c_MD_flows 171 = .ok (.if_icmp .ne 5, 3) := by decide +kernel
theorem d_MD_flows_174 : decode c_MD_flows 174 = .ok (.iconst 0, 1) := by decide +kernel
theorem d_MD_flows_175 : decode c_MD_flows 175 = .ok (.ireturn, 1) := by decide +kernel
theorem d_MD_flows_176 : decode c_MD_flows 176 = .ok (.iload_n 1, 1) := by decide +kernel
theorem d_MD_flows_177 : decode c_MD_flows 177 = .ok (.istore 4, 2) := by decide +kernel
theorem d_MD_flows_179 : decode c_MD_flows 179 = .ok (.iload 4, 2) := by decide +kernel
theorem d_MD_flows_181 : decode c_MD_flows 181 = .ok (.ifCond .eq 78, 3) := by decide +kernel
theorem d_MD_flows_184 : decode c_MD_flows 184 = .ok (.aload_n 0, 1) := by decide +kernel
theorem d_MD_flows_185 : decode c_MD_flows 185 = .ok (.getfield 50, 3) := by decide +kernel
theorem d_MD_flows_188 : decode c_MD_flows 188 = .ok (.iload 4, 2) := by decide +kernel
theorem d_MD_flows_190 : decode c_MD_flows 190 = .ok (.iaload, 1) := by decide +kernel
theorem d_MD_flows_191 : decode c_MD_flows 191 = .ok (.istore 5, 2) := by decide +kernel
theorem d_MD_flows_193 : decode c_MD_flows 193 = .ok (.aload_n 0, 1) := by decide +kernel
theorem d_MD_flows_194 : decode c_MD_flows 194 = .ok (.getfield 41, 3) := by decide +kernel
theorem d_MD_flows_197 : decode c_MD_flows 197 = .ok (.aload_n 0, 1) := by decide +kernel
theorem d_MD_flows_198 : decode c_MD_flows 198 = .ok (.getfield 44, 3) := by decide +kernel
theorem d_MD_flows_201 : decode c_MD_flows 201 = .ok (.iload 4, 2) := by decide +kernel
theorem d_MD_flows_203 : decode c_MD_flows 203 = .ok (.iaload, 1) := by decide +kernel
theorem d_MD_flows_204 : decode c_MD_flows 204 = .ok (.iload 5, 2) := by decide +kernel
theorem d_MD_flows_206 : decode c_MD_flows 206 = .ok (.iconst 2, 1) := by decide +kernel
theorem d_MD_flows_207 : decode c_MD_flows 207 = .ok (.iadd, 1) := by decide +kernel
theorem d_MD_flows_208 : decode c_MD_flows 208 = .ok (.iconst 4, 1) := by decide +kernel
theorem d_MD_flows_209 : decode c_MD_flows 209 = .ok (.irem, 1) := by decide +kernel
theorem d_MD_flows_210 : decode c_MD_flows 210 = .ok (.invokestatic 70, 3) := by decide +kernel
theorem d_MD_flows_213 : decode c_MD_flows 213 = .ok (.iaload, 1) := by decide +kernel
theorem d_MD_flows_214 : decode c_MD_flows 214 = .ok (.istore 6, 2) := by decide +kernel
theorem d_MD_flows_216 : decode c_MD_flows 216 = .ok (.aload_n 0, 1) := by decide +kernel
theorem d_MD_flows_217 : decode c_MD_flows 217 = .ok (.getfield 47, 3) := by decide +kernel
theorem d_MD_flows_220 : decode c_MD_flows 220 = .ok (.iconst 4, 1) := by decide +kernel
theorem d_MD_flows_221 : decode c_MD_flows 221 = .ok (.iload 6, 2) := by decide +kernel
theorem d_MD_flows_223 : decode c_MD_flows 223 = .ok (.imul, 1) := by decide +kernel
theorem d_MD_flows_224 : decode c_MD_flows 224 = .ok (.iload 5, 2) := by decide +kernel
theorem d_MD_flows_226 : decode c_MD_flows 226 = .ok (.iadd, 1) := by decide +kernel
theorem d_MD_flows_227 : decode c_MD_flows 227 = .ok (.dup2, 1) := by decide +kernel
theorem d_MD_flows_228 : decode c_MD_flows 228 = .ok (.iaload, 1) := by decide +kernel
theorem d_MD_flows_229 : decode c_MD_flows 229 = .ok (.iconst 1, 1) := by decide +kernel
theorem d_MD_flows_230 : decode c_MD_flows 230 = .ok (.iadd, 1) := by decide +kernel
theorem d_MD_flows_231 : decode c_MD_flows 231 = .ok (.iastore, 1) := by decide +kernel
theorem d_MD_flows_232 : decode c_MD_flows 232 = .ok (.aload_n 0, 1) := by decide +kernel
theorem d_MD_flows_233 : decode c_MD_flows 233 = .ok (.getfield 47, 3) := by decide +kernel
theorem d_MD_flows_236 : decode c_MD_flows 236 = .ok (.iconst 4, 1) := by decide +kernel
theorem d_MD_flows_237 : decode c_MD_flows 237 = .ok (.iload 4, 2) := by decide +kernel
theorem d_MD_flows_239 : decode c_MD_flows 239 = .ok (.imul, 1) := by decide +kernel
theorem d_MD_flows_240 : decode c_MD_flows 240 = .ok (.iload 5, 2) := by decide +kernel
theorem d_MD_flows_242 : decode c_MD_flows 242 = .ok (.iconst 2, 1) := by decide +kernel
theorem d_MD_flows_243 : decode c_MD_flows 243 = .ok (.iadd, 1) := by decide +kernel
theorem d_MD_flows_244 : decode c_MD_flows 244 = .ok (.iconst 4, 1) := by decide +kernel
theorem d_MD_flows_245 : decode c_MD_flows 245 = .ok (.irem, 1) := by decide +kernel
theorem d_MD_flows_246 : decode c_MD_flows 246 = .ok (.iadd, 1) := by decide +kernel
theorem d_MD_flows_247 : decode c_MD_flows 247 = .ok (.dup2, 1) := by decide +kernel
theorem d_MD_flows_248 : decode c_MD_flows 248 = .ok (.iaload, 1) := by decide +kernel
theorem d_MD_flows_249 : decode c_MD_flows 249 = .ok (.iconst 1, 1) := by decide +kernel
theorem d_MD_flows_250 : decode c_MD_flows 250 = .ok (.isub, 1) := by decide +kernel
theorem d_MD_flows_251 : decode c_MD_flows 251 = .ok (.iastore, 1) := by decide +kernel
theorem d_MD_flows_252 : decode c_MD_flows 252 = .ok (.iload 6, 2) := by decide +kernel
theorem d_MD_flows_254 : decode c_MD_flows 254 = .ok (.istore 4, 2) := by decide +kernel
theorem d_MD_flows_256 : decode c_MD_flows 256 = .ok (.goto (-77), 3) := by decide +kernel
theorem d_MD_flows_259 : decode c_MD_flows 259 = .ok (.iconst 1, 1) := by decide +kernel
theorem d_MD_flows_260 : decode c_MD_flows 260 = .ok (.ireturn, 1) := by decide +kernel
theorem d_MD_room_0 : decode c_MD_room 0 = .ok (.aload_n 0, 1) := by decide +kernel
theorem d_MD_room_1 : decode c_MD_room 1 = .ok (.aload_n 0, 1) := by decide +kernel
theorem d_MD_room_2 : decode c_MD_room 2 = .ok (.getfield 20, 3) := by decide +kernel
theorem d_MD_room_5 : decode c_MD_room 5 = .ok (.aload_n 0, 1) := by decide +kernel
theorem d_MD_room_6 : decode c_MD_room 6 = .ok (.getfield 44, 3) := by decide +kernel
theorem d_MD_room_9 : decode c_MD_room 9 = .ok (.iload_n 1, 1) := by decide +kernel
theorem d_MD_room_10 : decode c_MD_room 10 = .ok (.iaload, 1) := by decide +kernel
theorem d_MD_room_11 : decode c_MD_room 11 = .ok (.aload_n 0, 1) := by decide +kernel
theorem d_MD_room_12 : decode c_MD_room 12 = .ok (.getfield 20, 3) := by decide +kernel
theorem d_MD_room_15 : decode c_MD_room 15 = .ok (.aload_n 0, 1) := by decide +kernel
theorem d_MD_room_16 : decode c_MD_room 16 = .ok (.getfield 44, 3) := by decide +kernel
theorem d_MD_room_19 : decode c_MD_room 19 = .ok (.iload_n 1, 1) := by decide +kernel
theorem d_MD_room_20 : decode c_MD_room 20 = .ok (.iaload, 1) := by decide +kernel
theorem d_MD_room_21 : decode c_MD_room 21 = .ok (.iaload, 1) := by decide +kernel
theorem d_MD_room_22 : decode c_MD_room 22 = .ok (.iload_n 2, 1) := by decide +kernel
theorem d_MD_room_23 : decode c_MD_room 23 = .ok (.invokevirtual 77, 3) := by decide +kernel
theorem d_MD_room_26 : decode c_MD_room 26 = .ok (.aload_n 0, 1) := by decide +kernel
theorem d_MD_room_27 : decode c_MD_room 27 = .ok (.getfield 47, 3) := by decide +kernel
theorem d_MD_room_30 : decode c_MD_room 30 = .ok (.iconst 4, 1) := by decide +kernel
theorem d_MD_room_31 : decode c_MD_room 31 = .ok (.iload_n 1, 1) := by decide +kernel
theorem d_MD_room_32 : decode c_MD_room 32 = .ok (.imul, 1) := by decide +kernel
theorem d_MD_room_33 : decode c_MD_room 33 = .ok (.iload_n 2, 1) := by decide +kernel
theorem d_MD_room_34 : decode c_MD_room 34 = .ok (.iadd, 1) := by decide +kernel
theorem d_MD_room_35 : decode c_MD_room 35 = .ok (.iaload, 1) := by decide +kernel
theorem d_MD_room_36 : decode c_MD_room 36 = .ok (.isub, 1) := by decide +kernel
theorem d_MD_room_37 : decode c_MD_room 37 = .ok (.ireturn, 1) := by decide +kernel
def rgQ (pl : Nat → Int32) (i : Nat) : Int32 := bsV (nn (pl (i / 4))) (i % 4)
def rgL (pl nu : Nat → Int32) (i : Nat) : Int32 := nu (nn (rgQ pl i))
def rgH (sg gl fi pl : Nat → Int32) (i : Nat) : Int32 := heV sg gl fi (nn (pl (i / 4))) (nn (fi (nn (pl (i / 4))))) (i % 4)
def rgW (sg gl fi pl : Nat → Int32) (i : Nat) : Int32 := if rgQ pl i < 0 then 0 else if fi (nn (rgQ pl i)) = 0 then 0 else rgH sg gl fi pl i
def rgR (sg gl fi pl fw : Nat → Int32) (i : Nat) : Int32 := if rgQ pl i < 0 then 0 else if fi (nn (rgQ pl i)) = 0 then 0 else if 0 < rgH sg gl fi pl i - fw i then rgH sg gl fi pl i - fw i else 0
theorem rgQ_at {pl : Nat → Int32} {t k : Nat} (hk : k < 4) : rgQ pl (t * 4 + k) = bsV (nn (pl t)) k := by
  unfold rgQ
  rw [show (t * 4 + k) / 4 = t by omega, show (t * 4 + k) % 4 = k by omega]
theorem rgH_at {sg gl fi pl : Nat → Int32} {t k : Nat} (hk : k < 4) : rgH sg gl fi pl (t * 4 + k) = heV sg gl fi (nn (pl t)) (nn (fi (nn (pl t)))) k := by
  unfold rgH
  rw [show (t * 4 + k) / 4 = t by omega, show (t * 4 + k) % 4 = k by omega]
theorem rgR_at {sg gl fi pl fw : Nat → Int32} {t k : Nat} (hk : k < 4) : rgR sg gl fi pl fw (t * 4 + k) = if bsV (nn (pl t)) k < 0 then 0 else if fi (nn (bsV (nn (pl t)) k)) = 0 then 0 else if 0 < heV sg gl fi (nn (pl t)) (nn (fi (nn (pl t)))) k - fw (4 * t + k) then heV sg gl fi (nn (pl t)) (nn (fi (nn (pl t)))) k - fw (4 * t + k) else 0 := by
  unfold rgR
  rw [rgQ_at hk, rgH_at hk, Nat.mul_comm t 4]
theorem rgL_at {pl nu : Nat → Int32} {t k : Nat} (hk : k < 4) : rgL pl nu (t * 4 + k) = nu (nn (bsV (nn (pl t)) k)) := by
  unfold rgL
  rw [rgQ_at hk]
theorem rgW_at {sg gl fi pl : Nat → Int32} {t k : Nat} (hk : k < 4) (h : rgW sg gl fi pl (t * 4 + k) ≠ 0) : ¬ bsV (nn (pl t)) k < 0 ∧ fi (nn (bsV (nn (pl t)) k)) ≠ 0 := by
  unfold rgW at h
  rw [rgQ_at hk] at h
  by_cases c1 : bsV (nn (pl t)) k < 0
  · rw [if_pos c1] at h; exact absurd rfl h
  · rw [if_neg c1] at h
    refine ⟨c1, fun c2 => ?_⟩
    rw [if_pos c2] at h
    exact h rfl
theorem i_pos {x : Int32} (h : 0 < x) : x ≠ 0 := fun e => by rw [e] at h; exact absurd h (by decide)
theorem opp_2 {k : Nat} (h : k < 4) : (k + 2) % 4 = opp k := by
  rcases (show k = 0 ∨ k = 1 ∨ k = 2 ∨ k = 3 by omega) with rfl | rfl | rfl | rfl <;> rfl
def rpS (lk ar : Nat → Int32) (t : Nat) (w : Nat → Int32) : Nat → Int32 :=
  upd (upd w (4 * nn (lk (t * 4 + opp (nn (ar t)))) + nn (ar t)) (w (4 * nn (lk (t * 4 + opp (nn (ar t)))) + nn (ar t)) + nI 1)) (4 * t + opp (nn (ar t))) (upd w (4 * nn (lk (t * 4 + opp (nn (ar t)))) + nn (ar t)) (w (4 * nn (lk (t * 4 + opp (nn (ar t)))) + nn (ar t)) + nI 1) (4 * t + opp (nn (ar t))) - nI 1)
def rpF (lk ar : Nat → Int32) : Nat → Nat → (Nat → Int32) → (Nat → Int32)
  | 0, _, w => w
  | f + 1, t, w => if t = 0 then w else rpF lk ar f (nn (lk (t * 4 + opp (nn (ar t))))) (rpS lk ar t w)
def e0R (fr qu : Nat → Int32) (n : Nat) : ES := (upd (flI fr (-1) n) 0 (nI 4), upd qu 0 (nI 0), 1)
def okPl (pl : Nat → Int32) (n : Nat) : Prop := ∀ i, i < n → pl i = nI (nn (pl i)) ∧ nn (pl i) < 1600
def okNu (fi nu : Nat → Int32) (n : Nat) : Prop := ∀ q, q < 1600 → fi q ≠ 0 → nu q = nI (nn (nu q)) ∧ nn (nu q) < n
theorem e0R_way {lk we rm fr qu : Nat → Int32} {n : Nat} {e : ES} (hL : okLk lk we n) (hR : okRm we rm n) (hn : n ≤ 120) (h0 : 0 < n) (h : itX (eoB lk rm 0) n 0 (e0R fr qu n) = (none, e)) : ∃ rk : Nat → Nat, okWy lk rm e.1 n 0 rk ∧ ∀ u, u < n → e.1 u ≠ -1 → rk u < n := by
  have q := okQ_init2 (lk := lk) (we := we) (ar := fr) (qu := qu) h0
  exact ((eoI_spec hL hR hn h0 (e0R fr qu n) q.2 (by show nn (upd qu 0 (nI 0) 0) = 0; rw [show upd qu 0 (nI 0) 0 = nI 0 from if_pos rfl, nn_nI (by decide)]) rfl q.1).1 e h).2.2.2.2
theorem way_we {lk we rm ar : Nat → Int32} {n : Nat} {rk : Nat → Nat} (hL : okLk lk we n) (hR : okRm we rm n) (hn : n ≤ 120) (hW : okWy lk rm ar n 0 rk) {u : Nat} (hu : u < n) (ha : ar u ≠ -1) (h0 : u ≠ 0) : ∃ k v, k < 4 ∧ v < n ∧ ar u = nI k ∧ lk (u * 4 + opp k) = nI v ∧ we (u * 4 + opp k) ≠ 0 ∧ we (v * 4 + k) ≠ 0 ∧ ar v ≠ -1 ∧ rk v < rk u := by
  obtain ⟨k, v, g1, g2, g3, g4, g5, g6, g7, g8⟩ := hW u hu ha h0
  have hw := hR _ (by omega) g6
  obtain ⟨u', a1, a2, a3, a4⟩ := hL v k g2 g1 hw
  have e : u' = u := by
    rw [g5] at a2
    exact ((nI_eq (by omega) (by omega)).mp a2).symm
  subst e
  exact ⟨k, v, g1, g2, g3, g4, a4, hw, g7, g8⟩
set_option maxHeartbeats 4000000 in
set_option maxRecDepth 100000 in
/-- room -/
theorem k_MD_room (l : Launch) (D : va_G) (cI cJ : ClassId) (w0 : Nat) (w1 : Nat) (w2 : Nat) (w3 : Nat) (w4 : Nat) (w5 : Nat) (w6 : Nat) (w7 : Nat) (w8 : Nat) (w9 : Nat) (w10 : Nat) (w11 : Nat) (w12 : Nat) (w13 : Nat) (w14 : Nat) (yt : Int32) (te : Int32) (nt : Int32) (wb : Int32) (rc : Int32) (fp : Int32) (ft : Int32) (th : Int32) (sg : Nat → Int32) (gl : Nat → Int32) (fi : Nat → Int32) (pl : Nat → Int32) (fw : Nat → Int32) (ti : Nat) (k : Nat) (hti : ti < 120) (hk : k < 4) (hpl : pl ti = nI (nn (pl ti)) ∧ nn (pl ti) < 1600) (hfi : okFi fi) (hgl : okGl gl) : Met l y_MD_room ws_MD_room ({ frames := 4, cells := 0, slots := 0, locals := 92 } : Room) (va_Pc [.ref w0, .int (nI ti), .int (nI k)] (Pp D cI cJ [(w0, .inr (5, [.ref w1, .ref w2, .int yt, .int te, .ref w3, .ref w4, .ref w5, .int nt, .int wb, .ref w6, .ref w7, .ref w8, .int rc, .ref w9, .ref w10, .ref w11, .ref w12, .ref w13, .ref w14, .int fp, .int ft, .int th])), (w1, .inl (cI, 100, .inl sg)), (w2, .inl (cI, 244, .inl gl)), (w3, .inl (cI, 1600, .inl fi)), (w11, .inl (cI, 120, .inl pl)), (w12, .inl (cI, 480, .inl fw))])) (vp_Si (fun r : Int32 => r = heV sg gl fi (nn (pl ti)) (nn (fi (nn (pl ti)))) k - fw (4 * ti + k))) 0 0 (fun _ => False) := by
  refine Met.ofW (cc := c_MD_room) (maxL := 3) (ret := (some .int)) (by decide) rfl ?_
  intro p e s m args below meth c s₁ B hml hv
  obtain ⟨rfl, hE, hP, hX⟩ := hv
  have hx := B.exec
  have hb := B.bytes
  have hr := B.returns
  have hw : ∀ w ∈ gw, w.before _ s = true := fun w h => atoms_spec (ws := ws_MD_room) B.pre w (List.mem_cons_of_mem _ h)
  have hown : s.vm.findClass R_MD = some m.cls := findClass_of_methodNamed B.named
  have hlocks := B.notSynchronized
  have hS : va_S (fun _ => False) s.heap s.heap [] := va_S.rf
  have hl := lv_entry ([.ref w0, .int (nI ti), .int (nI k)]) (n := 3) (Nat.le_of_ble_eq_true rfl)
  rw [lg_entry_eq]
  generalize (lg_sl ([.ref w0, .int (nI ti), .int (nI k)]) ++ List.replicate (3 - (lg_sl ([.ref w0, .int (nI ti), .int (nI k)])).length) Slot.unset).toArray = ls at hl ⊢
  have hl : lv_has ls 3 [(0, .ref w0), (1, .int (nI ti)), (2, .int (nI k))] := hl
  have hp2 := hpl.2
  have hft := hfi (nn (pl ti)) hpl.2
  refine lv_aload_n hx hb d_MD_room_0 rfl (lv_at hl 0 rfl) ?_
  refine lv_aload_n hx hb d_MD_room_1 rfl (lv_at hl 0 rfl) ?_
  refine va_get (D := D) (ci := 5) (v := .ref w3) (C := R_MD) (T := T_MD) (N := 22) hx hb hw in_MD hown hE.1 hP 0 rfl rfl 4 (by decide) (hw _ kw_765) (fun _ h9 => h9) rfl d_MD_room_2 ?_
  refine lv_aload_n hx hb d_MD_room_5 rfl (lv_at hl 0 rfl) ?_
  refine va_get (D := D) (ci := 5) (v := .ref w11) (C := R_MD) (T := T_MD) (N := 22) hx hb hw in_MD hown hE.1 hP 0 rfl rfl 15 (by decide) (hw _ kw_776) (fun _ h9 => h9) rfl d_MD_room_6 ?_
  refine lv_iload_n hx hb d_MD_room_9 rfl (lv_at hl 1 rfl) ?_
  refine jn_iald (k := ti) hx hb hE.1 hP 4 0 rfl rfl (by omega) (by omega) d_MD_room_10 ?_
  refine W.eq (g2 := F0 m 11 ls [.int (nI (nn (pl ti))), .ref w3, .ref w0]) (by rw [← hpl.1]) ?_
  refine lv_aload_n hx hb d_MD_room_11 rfl (lv_at hl 0 rfl) ?_
  refine va_get (D := D) (ci := 5) (v := .ref w3) (C := R_MD) (T := T_MD) (N := 22) hx hb hw in_MD hown hE.1 hP 0 rfl rfl 4 (by decide) (hw _ kw_765) (fun _ h9 => h9) rfl d_MD_room_12 ?_
  refine lv_aload_n hx hb d_MD_room_15 rfl (lv_at hl 0 rfl) ?_
  refine va_get (D := D) (ci := 5) (v := .ref w11) (C := R_MD) (T := T_MD) (N := 22) hx hb hw in_MD hown hE.1 hP 0 rfl rfl 15 (by decide) (hw _ kw_776) (fun _ h9 => h9) rfl d_MD_room_16 ?_
  refine lv_iload_n hx hb d_MD_room_19 rfl (lv_at hl 1 rfl) ?_
  refine jn_iald (k := ti) hx hb hE.1 hP 4 0 rfl rfl (by omega) (by omega) d_MD_room_20 ?_
  refine W.eq (g2 := F0 m 21 ls [.int (nI (nn (pl ti))), .ref w3, .int (nI (nn (pl ti))), .ref w3, .ref w0]) (by rw [← hpl.1]) ?_
  refine jn_iald (k := (nn (pl ti))) hx hb hE.1 hP 3 0 rfl rfl hpl.2 (by omega) d_MD_room_21 ?_
  refine W.eq (g2 := F0 m 22 ls [.int (nI (nn (fi (nn (pl ti))))), .int (nI (nn (pl ti))), .ref w3, .ref w0]) (by rw [← hft.1]) ?_
  refine lv_iload_n hx hb d_MD_room_22 rfl (lv_at hl 2 rfl) ?_
  refine vp_callSi (va_Run.run (va_runV (As := [.ref w3, .int (nI (nn (pl ti))), .int (nI (nn (fi (nn (pl ti))))), .int (nI k)]) (rest := []) ⟨hx, hb, hml, hown, hw⟩ (k_MD_held l D cI cJ w0 w1 w2 w3 w4 w5 w6 w7 w8 w9 w10 w11 w12 w13 w14 yt te nt wb rc fp ft th sg gl w3 fi (nn (pl ti)) (nn (fi (nn (pl ti)))) k hpl.2 hft.2 hfi hgl hk) (cwV 4 hw (gV kw_894 kw_896 kw_27 kw_45 kw_897) rfl rfl rfl (by decide +kernel) ⟨Nat.le_of_ble_eq_true rfl, Nat.le_of_ble_eq_true rfl⟩) (pre_Vp (wc := [(w0, .inr (5, [.ref w1, .ref w2, .int yt, .int te, .ref w3, .ref w4, .ref w5, .int nt, .int wb, .ref w6, .ref w7, .ref w8, .int rc, .ref w9, .ref w10, .ref w11, .ref w12, .ref w13, .ref w14, .int fp, .int ft, .int th])), (w1, .inl (cI, 100, .inl sg)), (w2, .inl (cI, 244, .inl gl)), (w3, .inl (cI, 1600, .inl fi))]) (q0 := 0) hE hX hP hS [0, 1, 2, 3] rfl rfl rfl) rfl rfl hl.1 rfl (lv_room (Nat.le_of_ble_eq_true rfl)) d_MD_room_23 ⟨Nat.le_of_ble_eq_true rfl, Nat.le_of_ble_eq_true rfl⟩)) (fun r_1 hr_1 => ?_)
  obtain rfl : heV sg gl fi (nn (pl ti)) (nn (fi (nn (pl ti)))) k = r_1 := hr_1.symm
  refine lv_aload_n hx hb d_MD_room_26 rfl (lv_at hl 0 rfl) ?_
  refine va_get (D := D) (ci := 5) (v := .ref w12) (C := R_MD) (T := T_MD) (N := 22) hx hb hw in_MD hown hE.1 hP 0 rfl rfl 16 (by decide) (hw _ kw_777) (fun _ h9 => h9) rfl d_MD_room_27 ?_
  refine lv_iconst (v := nI 4) hx hb d_MD_room_30 (by decide +kernel) ?_
  refine lv_iload_n hx hb d_MD_room_31 rfl (lv_at hl 1 rfl) ?_
  refine jn_imul (a := 4) (b := ti) hx hb d_MD_room_32 ?_
  refine lv_iload_n hx hb d_MD_room_33 rfl (lv_at hl 2 rfl) ?_
  refine jn_iadd (a := (4 * ti)) (b := k) hx hb d_MD_room_34 ?_
  refine jn_iald (k := ((4 * ti) + k)) hx hb hE.1 hP 5 0 rfl rfl (by omega) (by omega) d_MD_room_35 ?_
  refine lv_isub hx hb d_MD_room_36 ?_
  exact W.iret (v := (heV sg gl fi (nn (pl ti)) (nn (fi (nn (pl ti)))) k) - (fw ((4 * ti) + k))) hx hb hr (fun t9 ht hW => ⟨_, rfl, rfl, ht⟩) (fun q h => by cases h) d_MD_room_37
set_option maxHeartbeats 4000000 in
set_option maxRecDepth 100000 in
theorem lp_k_MD_flows_2 {p : Program} {l : Launch} {e : Env} {s : State} {m : MethodId} {args : Array Value} {below : List Frame} {meth : Method} {c : Code} {D : va_G} {cI cJ : ClassId} {Q : State → Prop} {A : Nat → Prop} (w0 : Nat) (w1 : Nat) (w2 : Nat) (w3 : Nat) (w4 : Nat) (w5 : Nat) (w6 : Nat) (w7 : Nat) (w8 : Nat) (w9 : Nat) (w10 : Nat) (w11 : Nat) (w12 : Nat) (w13 : Nat) (w14 : Nat) (yt : Int32) (te : Int32) (n : Nat) (wb : Int32) (rc : Int32) (fp : Int32) (ft : Int32) (th : Int32) (sg : Nat → Int32) (gl : Nat → Int32) (fi : Nat → Int32) (nu : Nat → Int32) (pl : Nat → Int32) (fw : Nat → Int32) (fr : Nat → Int32) (qu : Nat → Int32) (tq : Nat) (hn : n ≤ 120) (htq : tq < n) (hfi : okFi fi) (hgl : okGl gl) (hpl : okPl pl n) (hnu : okNu fi nu n) (hL : okLk (rgL pl nu) (rgW sg gl fi pl) n) (hRm : okRm (rgW sg gl fi pl) (rgR sg gl fi pl fw) n)  (hx : p.tables.exec = Jvm.exec) (hb : c.code = c_MD_flows) (hml : c.maxLocals = 7) (hown : s.vm.findClass R_MD = some m.cls) (hw : ∀ w ∈ gw, w.before args s = true) (hE : En D cI cJ s) (hX : Sx A s s.heap) (hA : ∀ q : Nat, s.heap.size ≤ q → A q)
    (kx0 : ∀ (f9 : Nat → Int32), (f9 = flI fr (-1) n) → ∀ (H : Heap) (locs : List Loc) (ls : Array Slot), va_P D vwCl [(w0, .inr (5, [.ref w1, .ref w2, .int yt, .int te, .ref w3, .ref w4, .ref w5, .int (nI n), .int wb, .ref w6, .ref w7, .ref w8, .int rc, .ref w9, .ref w10, .ref w11, .ref w12, .ref w13, .ref w14, .int fp, .int ft, .int th])), (w1, .inl (cI, 100, .inl sg)), (w2, .inl (cI, 244, .inl gl)), (w3, .inl (cI, 1600, .inl fi)), (w10, .inl (cI, 1600, .inl nu)), (w11, .inl (cI, 120, .inl pl)), (w12, .inl (cI, 480, .inl fw)), (w13, .inl (cI, 120, .inl f9)), (w14, .inl (cI, 120, .inl qu))] H → va_D A [(w0, .inr (5, [.ref w1, .ref w2, .int yt, .int te, .ref w3, .ref w4, .ref w5, .int (nI n), .int wb, .ref w6, .ref w7, .ref w8, .int rc, .ref w9, .ref w10, .ref w11, .ref w12, .ref w13, .ref w14, .int fp, .int ft, .int th])), (w1, .inl (cI, 100, .inl sg)), (w2, .inl (cI, 244, .inl gl)), (w3, .inl (cI, 1600, .inl fi)), (w10, .inl (cI, 1600, .inl nu)), (w11, .inl (cI, 120, .inl pl)), (w12, .inl (cI, 480, .inl fw)), (w13, .inl (cI, 120, .inl f9)), (w14, .inl (cI, 120, .inl qu))] → va_S A s.heap H locs → lv_has ls 7 [(0, .ref w0), (1, .int (nI tq))] → W p l e ({ frames := 5, cells := 0, slots := 0, locals := 114 } : Room) s m args below meth c H locs 0 0 Q (F0 m 23 ls [])) :
    ∀ (fu : Nat) (k : Nat) (f9 : Nat → Int32), n - k < fu → (k ≤ n) → (f9 = flI fr (-1) k) → ∀ (H : Heap) (locs : List Loc) (ls : Array Slot), va_P D vwCl [(w0, .inr (5, [.ref w1, .ref w2, .int yt, .int te, .ref w3, .ref w4, .ref w5, .int (nI n), .int wb, .ref w6, .ref w7, .ref w8, .int rc, .ref w9, .ref w10, .ref w11, .ref w12, .ref w13, .ref w14, .int fp, .int ft, .int th])), (w1, .inl (cI, 100, .inl sg)), (w2, .inl (cI, 244, .inl gl)), (w3, .inl (cI, 1600, .inl fi)), (w10, .inl (cI, 1600, .inl nu)), (w11, .inl (cI, 120, .inl pl)), (w12, .inl (cI, 480, .inl fw)), (w13, .inl (cI, 120, .inl f9)), (w14, .inl (cI, 120, .inl qu))] H → va_D A [(w0, .inr (5, [.ref w1, .ref w2, .int yt, .int te, .ref w3, .ref w4, .ref w5, .int (nI n), .int wb, .ref w6, .ref w7, .ref w8, .int rc, .ref w9, .ref w10, .ref w11, .ref w12, .ref w13, .ref w14, .int fp, .int ft, .int th])), (w1, .inl (cI, 100, .inl sg)), (w2, .inl (cI, 244, .inl gl)), (w3, .inl (cI, 1600, .inl fi)), (w10, .inl (cI, 1600, .inl nu)), (w11, .inl (cI, 120, .inl pl)), (w12, .inl (cI, 480, .inl fw)), (w13, .inl (cI, 120, .inl f9)), (w14, .inl (cI, 120, .inl qu))] → va_S A s.heap H locs → lv_has ls 7 [(0, .ref w0), (1, .int (nI tq)), (2, .int (nI k))] → W p l e ({ frames := 5, cells := 0, slots := 0, locals := 114 } : Room) s m args below meth c H locs 0 0 Q (F0 m 2 ls []) := by
  intro fu
  induction fu with
  | zero =>
    intro k f9 h0
    exact absurd h0 (Nat.not_lt_zero _)
  | succ fu ih =>
    intro k f9 hmu hk hf9 H locs ls hP hD hS hl
    refine lv_iload_n hx hb d_MD_flows_2 rfl (lv_at hl 2 rfl) ?_
    refine lv_aload_n hx hb d_MD_flows_3 rfl (lv_at hl 0 rfl) ?_
    refine va_get (D := D) (ci := 5) (v := .int (nI n)) (C := R_MD) (T := T_MD) (N := 22) hx hb hw in_MD hown hE.1 hP 0 rfl rfl 7 (by decide) (hw _ kw_768) (fun _ h9 => h9) rfl d_MD_flows_4 ?_
    refine jn_icmp_ge (tgt := 23) (a := k) (b := n) hx hb d_MD_flows_7 (by decide) (by omega) (by omega) (fun c_7 => ?_) (fun c_7 => ?_)
    · skip
      exact kx0 f9 (by rw [hf9, show k = n by omega]) _ _ _ (hP.sub [0, 1, 2, 3, 4, 5, 6, 7, 8] rfl) (hD.sub [0, 1, 2, 3, 4, 5, 6, 7, 8] (by decide) rfl) hS (lv_sub hl [0, 1] rfl)
    · skip
      refine lv_aload_n hx hb d_MD_flows_10 rfl (lv_at hl 0 rfl) ?_
      refine va_get (D := D) (ci := 5) (v := .ref w13) (C := R_MD) (T := T_MD) (N := 22) hx hb hw in_MD hown hE.1 hP 0 rfl rfl 17 (by decide) (hw _ kw_778) (fun _ h9 => h9) rfl d_MD_flows_11 ?_
      refine lv_iload_n hx hb d_MD_flows_14 rfl (lv_at hl 2 rfl) ?_
      refine lv_iconst (v := (-1)) hx hb d_MD_flows_15 (by decide +kernel) ?_
      refine jn_iast (k := k) hx hb hE.1 hP hD hS 7 0 rfl rfl (by omega) (by omega) d_MD_flows_16 (fun H locs hP hD hS => ?_)
      have hP : va_P D vwCl [(w0, .inr (5, [.ref w1, .ref w2, .int yt, .int te, .ref w3, .ref w4, .ref w5, .int (nI n), .int wb, .ref w6, .ref w7, .ref w8, .int rc, .ref w9, .ref w10, .ref w11, .ref w12, .ref w13, .ref w14, .int fp, .int ft, .int th])), (w1, .inl (cI, 100, .inl sg)), (w2, .inl (cI, 244, .inl gl)), (w3, .inl (cI, 1600, .inl fi)), (w10, .inl (cI, 1600, .inl nu)), (w11, .inl (cI, 120, .inl pl)), (w12, .inl (cI, 480, .inl fw)), (w13, .inl (cI, 120, .inl (upd f9 k (-1)))), (w14, .inl (cI, 120, .inl qu))] H := hP
      have hD : va_D A [(w0, .inr (5, [.ref w1, .ref w2, .int yt, .int te, .ref w3, .ref w4, .ref w5, .int (nI n), .int wb, .ref w6, .ref w7, .ref w8, .int rc, .ref w9, .ref w10, .ref w11, .ref w12, .ref w13, .ref w14, .int fp, .int ft, .int th])), (w1, .inl (cI, 100, .inl sg)), (w2, .inl (cI, 244, .inl gl)), (w3, .inl (cI, 1600, .inl fi)), (w10, .inl (cI, 1600, .inl nu)), (w11, .inl (cI, 120, .inl pl)), (w12, .inl (cI, 480, .inl fw)), (w13, .inl (cI, 120, .inl (upd f9 k (-1)))), (w14, .inl (cI, 120, .inl qu))] := hD
      refine lv_iinc (v := nI (k + 1)) (lv' := [(2, .int (nI (k + 1))), (0, .ref w0), (1, .int (nI tq))]) hx hb d_MD_flows_17 hl (k := 2) rfl (jn_inc k 1) (by decide) rfl (fun ls hl => ?_)
      refine lv_goto (tgt := 2) hx hb d_MD_flows_20 (by decide) ?_
      exact ih (k + 1) (upd f9 k (-1)) (by omega) (by omega) (by rw [hf9]; exact flI_succ _ _ _) _ _ _ (hP.sub [0, 1, 2, 3, 4, 5, 6, 7, 8] rfl) (hD.sub [0, 1, 2, 3, 4, 5, 6, 7, 8] (by decide) rfl) hS (lv_sub hl [1, 2, 0] rfl)
set_option maxHeartbeats 4000000 in
set_option maxRecDepth 100000 in
theorem lp_k_MD_flows_60 {p : Program} {l : Launch} {e : Env} {s : State} {m : MethodId} {args : Array Value} {below : List Frame} {meth : Method} {c : Code} {D : va_G} {cI cJ : ClassId} {Q : State → Prop} {A : Nat → Prop} (w0 : Nat) (w1 : Nat) (w2 : Nat) (w3 : Nat) (w4 : Nat) (w5 : Nat) (w6 : Nat) (w7 : Nat) (w8 : Nat) (w9 : Nat) (w10 : Nat) (w11 : Nat) (w12 : Nat) (w13 : Nat) (w14 : Nat) (yt : Int32) (te : Int32) (n : Nat) (wb : Int32) (rc : Int32) (fp : Int32) (ft : Int32) (th : Int32) (sg : Nat → Int32) (gl : Nat → Int32) (fi : Nat → Int32) (nu : Nat → Int32) (pl : Nat → Int32) (fw : Nat → Int32) (fr : Nat → Int32) (qu : Nat → Int32) (tq : Nat) (hn : n ≤ 120) (htq : tq < n) (hfi : okFi fi) (hgl : okGl gl) (hpl : okPl pl n) (hnu : okNu fi nu n) (hL : okLk (rgL pl nu) (rgW sg gl fi pl) n) (hRm : okRm (rgW sg gl fi pl) (rgR sg gl fi pl fw) n) (nk : Nat) (hnk : nk < 120) (ti : Nat) (hti : ti < n) (k0 : ES) (hx : p.tables.exec = Jvm.exec) (hb : c.code = c_MD_flows) (hml : c.maxLocals = 7) (hown : s.vm.findClass R_MD = some m.cls) (hw : ∀ w ∈ gw, w.before args s = true) (hE : En D cI cJ s) (hX : Sx A s s.heap) (hA : ∀ q : Nat, s.heap.size ≤ q → A q)
    (kx0 : ∀ (e8 : ES), (itX (eoA (rgL pl nu) (rgR sg gl fi pl fw) 0 ti) 4 0 k0 = (none, e8)) → (okQ (rgL pl nu) (rgW sg gl fi pl) n 0 e8) → ∀ (H : Heap) (locs : List Loc) (ls : Array Slot), va_P D vwCl [(w0, .inr (5, [.ref w1, .ref w2, .int yt, .int te, .ref w3, .ref w4, .ref w5, .int (nI n), .int wb, .ref w6, .ref w7, .ref w8, .int rc, .ref w9, .ref w10, .ref w11, .ref w12, .ref w13, .ref w14, .int fp, .int ft, .int th])), (w1, .inl (cI, 100, .inl sg)), (w2, .inl (cI, 244, .inl gl)), (w3, .inl (cI, 1600, .inl fi)), (w10, .inl (cI, 1600, .inl nu)), (w11, .inl (cI, 120, .inl pl)), (w12, .inl (cI, 480, .inl fw)), (w13, .inl (cI, 120, .inl e8.1)), (w14, .inl (cI, 120, .inl e8.2.1))] H → va_D A [(w0, .inr (5, [.ref w1, .ref w2, .int yt, .int te, .ref w3, .ref w4, .ref w5, .int (nI n), .int wb, .ref w6, .ref w7, .ref w8, .int rc, .ref w9, .ref w10, .ref w11, .ref w12, .ref w13, .ref w14, .int fp, .int ft, .int th])), (w1, .inl (cI, 100, .inl sg)), (w2, .inl (cI, 244, .inl gl)), (w3, .inl (cI, 1600, .inl fi)), (w10, .inl (cI, 1600, .inl nu)), (w11, .inl (cI, 120, .inl pl)), (w12, .inl (cI, 480, .inl fw)), (w13, .inl (cI, 120, .inl e8.1)), (w14, .inl (cI, 120, .inl e8.2.1))] → va_S A s.heap H locs → lv_has ls 7 [(0, .ref w0), (1, .int (nI tq)), (2, .int (nI (nk + 1))), (3, .int (nI e8.2.2))] → W p l e ({ frames := 5, cells := 0, slots := 0, locals := 114 } : Room) s m args below meth c H locs 0 0 Q (F0 m 161 ls [])) :
    ∀ (fu : Nat) (si : Nat) (e8 : ES), 4 - si < fu → (si ≤ 4) → (itX (eoA (rgL pl nu) (rgR sg gl fi pl fw) 0 ti) (4 - si) si e8 = itX (eoA (rgL pl nu) (rgR sg gl fi pl fw) 0 ti) 4 0 k0) → (okQ (rgL pl nu) (rgW sg gl fi pl) n 0 e8) → (e8.1 ti ≠ -1) → ∀ (H : Heap) (locs : List Loc) (ls : Array Slot), va_P D vwCl [(w0, .inr (5, [.ref w1, .ref w2, .int yt, .int te, .ref w3, .ref w4, .ref w5, .int (nI n), .int wb, .ref w6, .ref w7, .ref w8, .int rc, .ref w9, .ref w10, .ref w11, .ref w12, .ref w13, .ref w14, .int fp, .int ft, .int th])), (w1, .inl (cI, 100, .inl sg)), (w2, .inl (cI, 244, .inl gl)), (w3, .inl (cI, 1600, .inl fi)), (w10, .inl (cI, 1600, .inl nu)), (w11, .inl (cI, 120, .inl pl)), (w12, .inl (cI, 480, .inl fw)), (w13, .inl (cI, 120, .inl e8.1)), (w14, .inl (cI, 120, .inl e8.2.1))] H → va_D A [(w0, .inr (5, [.ref w1, .ref w2, .int yt, .int te, .ref w3, .ref w4, .ref w5, .int (nI n), .int wb, .ref w6, .ref w7, .ref w8, .int rc, .ref w9, .ref w10, .ref w11, .ref w12, .ref w13, .ref w14, .int fp, .int ft, .int th])), (w1, .inl (cI, 100, .inl sg)), (w2, .inl (cI, 244, .inl gl)), (w3, .inl (cI, 1600, .inl fi)), (w10, .inl (cI, 1600, .inl nu)), (w11, .inl (cI, 120, .inl pl)), (w12, .inl (cI, 480, .inl fw)), (w13, .inl (cI, 120, .inl e8.1)), (w14, .inl (cI, 120, .inl e8.2.1))] → va_S A s.heap H locs → lv_has ls 7 [(0, .ref w0), (1, .int (nI tq)), (2, .int (nI (nk + 1))), (3, .int (nI e8.2.2)), (4, .int (nI ti)), (5, .int (nI si))] → W p l e ({ frames := 5, cells := 0, slots := 0, locals := 114 } : Room) s m args below meth c H locs 0 0 Q (F0 m 60 ls []) := by
  intro fu
  induction fu with
  | zero =>
    intro si e8 h0
    exact absurd h0 (Nat.not_lt_zero _)
  | succ fu ih =>
    intro si e8 hmu hsi hR8 hS8 hta H locs ls hP hD hS hl
    have hcn := cnA_le e8.1 n
    have hcq := hS8.2.2.1
    have hpt := hpl ti hti
    have hpt2 := hpt.2
    refine lv_iload hx hb d_MD_flows_60 (lv_at hl 5 rfl) ?_
    refine lv_iconst (v := nI 4) hx hb d_MD_flows_62 (by decide +kernel) ?_
    refine jn_icmp_ge (tgt := 161) (a := si) (b := 4) hx hb d_MD_flows_63 (by decide) (by omega) (by omega) (fun c_63 => ?_) (fun c_63 => ?_)
    · skip
      exact kx0 e8 (by rw [← hR8, show 4 - si = 0 by omega]; rfl) hS8 _ _ _ (hP.sub [0, 1, 2, 3, 4, 5, 6, 7, 8] rfl) (hD.sub [0, 1, 2, 3, 4, 5, 6, 7, 8] (by decide) rfl) hS (lv_sub hl [0, 1, 2, 3] rfl)
    · skip
      refine lv_aload_n hx hb d_MD_flows_66 rfl (lv_at hl 0 rfl) ?_
      refine va_get (D := D) (ci := 5) (v := .ref w11) (C := R_MD) (T := T_MD) (N := 22) hx hb hw in_MD hown hE.1 hP 0 rfl rfl 15 (by decide) (hw _ kw_776) (fun _ h9 => h9) rfl d_MD_flows_67 ?_
      refine lv_iload hx hb d_MD_flows_70 (lv_at hl 4 rfl) ?_
      refine jn_iald (k := ti) hx hb hE.1 hP 5 0 rfl rfl (by omega) (by omega) d_MD_flows_72 ?_
      refine W.eq (g2 := F0 m 73 ls [.int (nI (nn (pl ti)))]) (by rw [← hpt.1]) ?_
      refine lv_iload hx hb d_MD_flows_73 (lv_at hl 5 rfl) ?_
      refine vp_callSi (va_Run.run (va_runS (As := [.int (nI (nn (pl ti))), .int (nI si)]) (rest := []) ⟨hx, hb, hml, hown, hw⟩ (k_MD_beside l D cI cJ (nn (pl ti)) si hpt.2 (by omega)) (va_cwS 2 hw (gS kw_898 kw_899 kw_45 kw_900) rfl rfl rfl (by decide +kernel) ⟨Nat.le_of_ble_eq_true rfl, Nat.le_of_ble_eq_true rfl⟩) (pre_Sp (wc := []) hE hX hP hS [] rfl) rfl rfl hl.1 rfl (lv_room (Nat.le_of_ble_eq_true rfl)) d_MD_flows_75 ⟨Nat.le_of_ble_eq_true rfl, Nat.le_of_ble_eq_true rfl⟩)) (fun r_1 hr_1 => ?_)
      obtain rfl : bsV (nn (pl ti)) si = r_1 := hr_1.symm
      refine lv_istore (lv' := [(6, .int (bsV (nn (pl ti)) si)), (0, .ref w0), (1, .int (nI tq)), (2, .int (nI (nk + 1))), (3, .int (nI e8.2.2)), (4, .int (nI ti)), (5, .int (nI si))]) hx hb d_MD_flows_78 hl (by decide) rfl (fun ls hl => ?_)
      refine lv_iload hx hb d_MD_flows_80 (lv_at hl 0 rfl) ?_
      refine lv_if_lt (tgt := 155) hx hb d_MD_flows_82 (by decide) (fun c_82 => ?_) (fun c_82 => ?_)
      · skip
        refine lv_iinc (v := nI (si + 1)) (lv' := [(5, .int (nI (si + 1))), (6, .int (bsV (nn (pl ti)) si)), (0, .ref w0), (1, .int (nI tq)), (2, .int (nI (nk + 1))), (3, .int (nI e8.2.2)), (4, .int (nI ti))]) hx hb d_MD_flows_155 hl (k := 6) rfl (jn_inc si 1) (by decide) rfl (fun ls hl => ?_)
        refine lv_goto (tgt := 60) hx hb d_MD_flows_158 (by decide) ?_
        exact ih (si + 1) e8 (by omega) (by omega) (by rw [← hR8, show 4 - (si + 1) = 4 - si - 1 by omega]; exact (itX_go (by omega) (by show eoA (rgL pl nu) (rgR sg gl fi pl fw) 0 ti si e8 = _; unfold eoA; rw [if_pos (show rgR sg gl fi pl fw (ti * 4 + si) = 0 from by rw [rgR_at (by omega), if_pos c_82])])).symm) hS8 hta _ _ _ (hP.sub [0, 1, 2, 3, 4, 5, 6, 7, 8] rfl) (hD.sub [0, 1, 2, 3, 4, 5, 6, 7, 8] (by decide) rfl) hS (lv_sub hl [2, 3, 4, 5, 6, 0] rfl)
      · skip
        have hbv := bsV_nn hpt.2 c_82
        refine lv_aload_n hx hb d_MD_flows_85 rfl (lv_at hl 1 rfl) ?_
        refine va_get (D := D) (ci := 5) (v := .ref w3) (C := R_MD) (T := T_MD) (N := 22) hx hb hw in_MD hown hE.1 hP 0 rfl rfl 4 (by decide) (hw _ kw_765) (fun _ h9 => h9) rfl d_MD_flows_86 ?_
        refine lv_iload hx hb d_MD_flows_89 (lv_at hl 0 rfl) ?_
        refine W.eq (g2 := F0 m 91 ls [.int (nI (nn (bsV (nn (pl ti)) si))), .ref w3]) (by rw [← hbv.1]) ?_
        refine jn_iald (k := (nn (bsV (nn (pl ti)) si))) hx hb hE.1 hP 3 0 rfl rfl hbv.2 (by omega) d_MD_flows_91 ?_
        refine lv_if_eq (tgt := 155) hx hb d_MD_flows_92 (by decide) (fun c_92 => ?_) (fun c_92 => ?_)
        · skip
          refine lv_iinc (v := nI (si + 1)) (lv' := [(5, .int (nI (si + 1))), (6, .int (bsV (nn (pl ti)) si)), (0, .ref w0), (1, .int (nI tq)), (2, .int (nI (nk + 1))), (3, .int (nI e8.2.2)), (4, .int (nI ti))]) hx hb d_MD_flows_155 hl (k := 6) rfl (jn_inc si 1) (by decide) rfl (fun ls hl => ?_)
          refine lv_goto (tgt := 60) hx hb d_MD_flows_158 (by decide) ?_
          exact ih (si + 1) e8 (by omega) (by omega) (by rw [← hR8, show 4 - (si + 1) = 4 - si - 1 by omega]; exact (itX_go (by omega) (by show eoA (rgL pl nu) (rgR sg gl fi pl fw) 0 ti si e8 = _; unfold eoA; rw [if_pos (show rgR sg gl fi pl fw (ti * 4 + si) = 0 from by rw [rgR_at (by omega), if_neg c_82, if_pos c_92])])).symm) hS8 hta _ _ _ (hP.sub [0, 1, 2, 3, 4, 5, 6, 7, 8] rfl) (hD.sub [0, 1, 2, 3, 4, 5, 6, 7, 8] (by decide) rfl) hS (lv_sub hl [2, 3, 4, 5, 6, 0] rfl)
        · skip
          have hnq := hnu _ hbv.2 c_92
          have hnq2 := hnq.2
          refine lv_aload_n hx hb d_MD_flows_95 rfl (lv_at hl 1 rfl) ?_
          refine va_get (D := D) (ci := 5) (v := .ref w13) (C := R_MD) (T := T_MD) (N := 22) hx hb hw in_MD hown hE.1 hP 0 rfl rfl 17 (by decide) (hw _ kw_778) (fun _ h9 => h9) rfl d_MD_flows_96 ?_
          refine lv_aload_n hx hb d_MD_flows_99 rfl (lv_at hl 1 rfl) ?_
          refine va_get (D := D) (ci := 5) (v := .ref w10) (C := R_MD) (T := T_MD) (N := 22) hx hb hw in_MD hown hE.1 hP 0 rfl rfl 14 (by decide) (hw _ kw_775) (fun _ h9 => h9) rfl d_MD_flows_100 ?_
          refine lv_iload hx hb d_MD_flows_103 (lv_at hl 0 rfl) ?_
          refine W.eq (g2 := F0 m 105 ls [.int (nI (nn (bsV (nn (pl ti)) si))), .ref w10, .ref w13]) (by rw [← hbv.1]) ?_
          refine jn_iald (k := (nn (bsV (nn (pl ti)) si))) hx hb hE.1 hP 4 0 rfl rfl hbv.2 (by omega) d_MD_flows_105 ?_
          refine W.eq (g2 := F0 m 106 ls [.int (nI (nn (nu (nn (bsV (nn (pl ti)) si))))), .ref w13]) (by rw [← hnq.1]) ?_
          refine jn_iald (k := (nn (nu (nn (bsV (nn (pl ti)) si))))) hx hb hE.1 hP 7 0 rfl rfl (by omega) (by omega) d_MD_flows_106 ?_
          refine lv_iconst (v := (-1)) hx hb d_MD_flows_107 (by decide +kernel) ?_
          refine lv_icmp_ne (tgt := 155) hx hb d_MD_flows_108 (by decide) (fun c_108 => ?_) (fun c_108 => ?_)
          · skip
            refine lv_iinc (v := nI (si + 1)) (lv' := [(5, .int (nI (si + 1))), (6, .int (bsV (nn (pl ti)) si)), (0, .ref w0), (1, .int (nI tq)), (2, .int (nI (nk + 1))), (3, .int (nI e8.2.2)), (4, .int (nI ti))]) hx hb d_MD_flows_155 hl (k := 6) rfl (jn_inc si 1) (by decide) rfl (fun ls hl => ?_)
            refine lv_goto (tgt := 60) hx hb d_MD_flows_158 (by decide) ?_
            exact ih (si + 1) e8 (by omega) (by omega) (by rw [← hR8, show 4 - (si + 1) = 4 - si - 1 by omega]; exact (itX_go (by omega) (by show eoA (rgL pl nu) (rgR sg gl fi pl fw) 0 ti si e8 = _; unfold eoA; rw [rgL_at (by omega), if_neg c_108]; split <;> rfl)).symm) hS8 hta _ _ _ (hP.sub [0, 1, 2, 3, 4, 5, 6, 7, 8] rfl) (hD.sub [0, 1, 2, 3, 4, 5, 6, 7, 8] (by decide) rfl) hS (lv_sub hl [2, 3, 4, 5, 6, 0] rfl)
          · skip
            refine lv_aload_n hx hb d_MD_flows_111 rfl (lv_at hl 1 rfl) ?_
            refine lv_iload hx hb d_MD_flows_112 (lv_at hl 5 rfl) ?_
            refine lv_iload hx hb d_MD_flows_114 (lv_at hl 6 rfl) ?_
            refine vp_callSi (va_Run.run (va_runV (As := [.int (nI ti), .int (nI si)]) (rest := []) ⟨hx, hb, hml, hown, hw⟩ (k_MD_room l D cI cJ w0 w1 w2 w3 w4 w5 w6 w7 w8 w9 w10 w11 w12 w13 w14 yt te (nI n) wb rc fp ft th sg gl fi pl fw ti si (by omega) (by omega) hpt hfi hgl) (cwV 2 hw (gV kw_979 kw_981 kw_37 kw_45 kw_982) rfl rfl rfl (by decide +kernel) ⟨Nat.le_of_ble_eq_true rfl, Nat.le_of_ble_eq_true rfl⟩) (pre_Vp (wc := [(w0, .inr (5, [.ref w1, .ref w2, .int yt, .int te, .ref w3, .ref w4, .ref w5, .int (nI n), .int wb, .ref w6, .ref w7, .ref w8, .int rc, .ref w9, .ref w10, .ref w11, .ref w12, .ref w13, .ref w14, .int fp, .int ft, .int th])), (w1, .inl (cI, 100, .inl sg)), (w2, .inl (cI, 244, .inl gl)), (w3, .inl (cI, 1600, .inl fi)), (w11, .inl (cI, 120, .inl pl)), (w12, .inl (cI, 480, .inl fw))]) (q0 := 0) hE hX hP hS [0, 1, 2, 3, 5, 6] rfl rfl rfl) rfl rfl hl.1 rfl (lv_room (Nat.le_of_ble_eq_true rfl)) d_MD_flows_116 ⟨Nat.le_of_ble_eq_true rfl, Nat.le_of_ble_eq_true rfl⟩)) (fun r_2 hr_2 => ?_)
            obtain rfl : heV sg gl fi (nn (pl ti)) (nn (fi (nn (pl ti)))) si - fw (4 * ti + si) = r_2 := hr_2.symm
            refine lv_if_gt (tgt := 125) hx hb d_MD_flows_119 (by decide) (fun c_119 => ?_) (fun c_119 => ?_)
            · skip
              have hrz : rgR sg gl fi pl fw (ti * 4 + si) ≠ 0 := by rw [rgR_at (by omega), if_neg c_82, if_neg c_92, if_pos c_119]; exact i_pos c_119
              obtain ⟨u, hun, hlu, hlo, hwo⟩ := hL ti si hti (by omega) (hRm _ (by omega) hrz)
              have hnuu : nu (nn (bsV (nn (pl ti)) si)) = nI u := by rw [← hlu, rgL_at (by omega)]
              have c8 : e8.1 u = -1 := by have h := c_108; rw [hnuu, nn_nI (show u < 2 ^ 31 by omega)] at h; exact h
              have hok := okQ_step hS8 (by omega) hti hta hun hn c8 hlo hwo (hRm _ (by omega) hrz)
              have hqn := hok.1
              refine lv_aload_n hx hb d_MD_flows_125 rfl (lv_at hl 1 rfl) ?_
              refine va_get (D := D) (ci := 5) (v := .ref w13) (C := R_MD) (T := T_MD) (N := 22) hx hb hw in_MD hown hE.1 hP 0 rfl rfl 17 (by decide) (hw _ kw_778) (fun _ h9 => h9) rfl d_MD_flows_126 ?_
              refine lv_aload_n hx hb d_MD_flows_129 rfl (lv_at hl 1 rfl) ?_
              refine va_get (D := D) (ci := 5) (v := .ref w10) (C := R_MD) (T := T_MD) (N := 22) hx hb hw in_MD hown hE.1 hP 0 rfl rfl 14 (by decide) (hw _ kw_775) (fun _ h9 => h9) rfl d_MD_flows_130 ?_
              refine lv_iload hx hb d_MD_flows_133 (lv_at hl 0 rfl) ?_
              refine W.eq (g2 := F0 m 135 ls [.int (nI (nn (bsV (nn (pl ti)) si))), .ref w10, .ref w13]) (by rw [← hbv.1]) ?_
              refine jn_iald (k := (nn (bsV (nn (pl ti)) si))) hx hb hE.1 hP 4 0 rfl rfl hbv.2 (by omega) d_MD_flows_135 ?_
              refine W.eq (g2 := F0 m 136 ls [.int (nI u), .ref w13]) (by rw [hnuu]) ?_
              refine lv_iload hx hb d_MD_flows_136 (lv_at hl 6 rfl) ?_
              refine jn_iast (k := u) hx hb hE.1 hP hD hS 7 0 rfl rfl (by omega) (by omega) d_MD_flows_138 (fun H locs hP hD hS => ?_)
              have hP : va_P D vwCl [(w0, .inr (5, [.ref w1, .ref w2, .int yt, .int te, .ref w3, .ref w4, .ref w5, .int (nI n), .int wb, .ref w6, .ref w7, .ref w8, .int rc, .ref w9, .ref w10, .ref w11, .ref w12, .ref w13, .ref w14, .int fp, .int ft, .int th])), (w1, .inl (cI, 100, .inl sg)), (w2, .inl (cI, 244, .inl gl)), (w3, .inl (cI, 1600, .inl fi)), (w10, .inl (cI, 1600, .inl nu)), (w11, .inl (cI, 120, .inl pl)), (w12, .inl (cI, 480, .inl fw)), (w13, .inl (cI, 120, .inl (upd e8.1 u (nI si)))), (w14, .inl (cI, 120, .inl e8.2.1))] H := hP
              have hD : va_D A [(w0, .inr (5, [.ref w1, .ref w2, .int yt, .int te, .ref w3, .ref w4, .ref w5, .int (nI n), .int wb, .ref w6, .ref w7, .ref w8, .int rc, .ref w9, .ref w10, .ref w11, .ref w12, .ref w13, .ref w14, .int fp, .int ft, .int th])), (w1, .inl (cI, 100, .inl sg)), (w2, .inl (cI, 244, .inl gl)), (w3, .inl (cI, 1600, .inl fi)), (w10, .inl (cI, 1600, .inl nu)), (w11, .inl (cI, 120, .inl pl)), (w12, .inl (cI, 480, .inl fw)), (w13, .inl (cI, 120, .inl (upd e8.1 u (nI si)))), (w14, .inl (cI, 120, .inl e8.2.1))] := hD
              refine lv_aload_n hx hb d_MD_flows_139 rfl (lv_at hl 1 rfl) ?_
              refine va_get (D := D) (ci := 5) (v := .ref w14) (C := R_MD) (T := T_MD) (N := 22) hx hb hw in_MD hown hE.1 hP 0 rfl rfl 18 (by decide) (hw _ kw_779) (fun _ h9 => h9) rfl d_MD_flows_140 ?_
              refine lv_iload_n hx hb d_MD_flows_143 rfl (lv_at hl 4 rfl) ?_
              refine lv_aload_n hx hb d_MD_flows_144 rfl (lv_at hl 1 rfl) ?_
              refine va_get (D := D) (ci := 5) (v := .ref w10) (C := R_MD) (T := T_MD) (N := 22) hx hb hw in_MD hown hE.1 hP 0 rfl rfl 14 (by decide) (hw _ kw_775) (fun _ h9 => h9) rfl d_MD_flows_145 ?_
              refine lv_iload hx hb d_MD_flows_148 (lv_at hl 0 rfl) ?_
              refine W.eq (g2 := F0 m 150 ls [.int (nI (nn (bsV (nn (pl ti)) si))), .ref w10, .int (nI e8.2.2), .ref w14]) (by rw [← hbv.1]) ?_
              refine jn_iald (k := (nn (bsV (nn (pl ti)) si))) hx hb hE.1 hP 4 0 rfl rfl hbv.2 (by omega) d_MD_flows_150 ?_
              refine W.eq (g2 := F0 m 151 ls [.int (nI u), .int (nI e8.2.2), .ref w14]) (by rw [hnuu]) ?_
              refine jn_iast (k := e8.2.2) hx hb hE.1 hP hD hS 8 0 rfl rfl (by omega) (by omega) d_MD_flows_151 (fun H locs hP hD hS => ?_)
              have hP : va_P D vwCl [(w0, .inr (5, [.ref w1, .ref w2, .int yt, .int te, .ref w3, .ref w4, .ref w5, .int (nI n), .int wb, .ref w6, .ref w7, .ref w8, .int rc, .ref w9, .ref w10, .ref w11, .ref w12, .ref w13, .ref w14, .int fp, .int ft, .int th])), (w1, .inl (cI, 100, .inl sg)), (w2, .inl (cI, 244, .inl gl)), (w3, .inl (cI, 1600, .inl fi)), (w10, .inl (cI, 1600, .inl nu)), (w11, .inl (cI, 120, .inl pl)), (w12, .inl (cI, 480, .inl fw)), (w13, .inl (cI, 120, .inl (upd e8.1 u (nI si)))), (w14, .inl (cI, 120, .inl (upd e8.2.1 e8.2.2 (nI u))))] H := hP
              have hD : va_D A [(w0, .inr (5, [.ref w1, .ref w2, .int yt, .int te, .ref w3, .ref w4, .ref w5, .int (nI n), .int wb, .ref w6, .ref w7, .ref w8, .int rc, .ref w9, .ref w10, .ref w11, .ref w12, .ref w13, .ref w14, .int fp, .int ft, .int th])), (w1, .inl (cI, 100, .inl sg)), (w2, .inl (cI, 244, .inl gl)), (w3, .inl (cI, 1600, .inl fi)), (w10, .inl (cI, 1600, .inl nu)), (w11, .inl (cI, 120, .inl pl)), (w12, .inl (cI, 480, .inl fw)), (w13, .inl (cI, 120, .inl (upd e8.1 u (nI si)))), (w14, .inl (cI, 120, .inl (upd e8.2.1 e8.2.2 (nI u))))] := hD
              refine lv_iinc (v := nI (e8.2.2 + 1)) (lv' := [(3, .int (nI (e8.2.2 + 1))), (6, .int (bsV (nn (pl ti)) si)), (0, .ref w0), (1, .int (nI tq)), (2, .int (nI (nk + 1))), (4, .int (nI ti)), (5, .int (nI si))]) hx hb d_MD_flows_152 hl (k := 4) rfl (jn_inc e8.2.2 1) (by decide) rfl (fun ls hl => ?_)
              refine lv_iinc (v := nI (si + 1)) (lv' := [(5, .int (nI (si + 1))), (3, .int (nI (e8.2.2 + 1))), (6, .int (bsV (nn (pl ti)) si)), (0, .ref w0), (1, .int (nI tq)), (2, .int (nI (nk + 1))), (4, .int (nI ti))]) hx hb d_MD_flows_155 hl (k := 6) rfl (jn_inc si 1) (by decide) rfl (fun ls hl => ?_)
              refine lv_goto (tgt := 60) hx hb d_MD_flows_158 (by decide) ?_
              exact ih (si + 1) (upd e8.1 u (nI si), upd e8.2.1 e8.2.2 (nI u), e8.2.2 + 1) (by omega) (by omega) (by rw [← hR8, show 4 - (si + 1) = 4 - si - 1 by omega]; exact (itX_go (by omega) (by show eoA (rgL pl nu) (rgR sg gl fi pl fw) 0 ti si e8 = _; unfold eoA; rw [if_neg hrz, hlu, nn_nI (show u < 2 ^ 31 by omega), if_pos c8, if_neg (Nat.not_lt_zero u)])).symm) hok.2 (show upd e8.1 u (nI si) ti ≠ -1 from by rw [show upd e8.1 u (nI si) ti = e8.1 ti from if_neg (fun z => hta (by rw [z]; exact c8))]; exact hta) _ _ _ (hP.sub [0, 1, 2, 3, 4, 5, 6, 7, 8] rfl) (hD.sub [0, 1, 2, 3, 4, 5, 6, 7, 8] (by decide) rfl) hS (lv_sub hl [3, 4, 5, 1, 6, 0] rfl)
            · skip
              refine lv_goto (tgt := 155) hx hb d_MD_flows_122 (by decide) ?_
              refine lv_iinc (v := nI (si + 1)) (lv' := [(5, .int (nI (si + 1))), (6, .int (bsV (nn (pl ti)) si)), (0, .ref w0), (1, .int (nI tq)), (2, .int (nI (nk + 1))), (3, .int (nI e8.2.2)), (4, .int (nI ti))]) hx hb d_MD_flows_155 hl (k := 6) rfl (jn_inc si 1) (by decide) rfl (fun ls hl => ?_)
              refine lv_goto (tgt := 60) hx hb d_MD_flows_158 (by decide) ?_
              exact ih (si + 1) e8 (by omega) (by omega) (by rw [← hR8, show 4 - (si + 1) = 4 - si - 1 by omega]; exact (itX_go (by omega) (by show eoA (rgL pl nu) (rgR sg gl fi pl fw) 0 ti si e8 = _; unfold eoA; rw [if_pos (show rgR sg gl fi pl fw (ti * 4 + si) = 0 from by rw [rgR_at (by omega), if_neg c_82, if_neg c_92, if_neg c_119])])).symm) hS8 hta _ _ _ (hP.sub [0, 1, 2, 3, 4, 5, 6, 7, 8] rfl) (hD.sub [0, 1, 2, 3, 4, 5, 6, 7, 8] (by decide) rfl) hS (lv_sub hl [2, 3, 4, 5, 6, 0] rfl)
set_option maxHeartbeats 4000000 in
set_option maxRecDepth 100000 in
theorem lp_k_MD_flows_41 {p : Program} {l : Launch} {e : Env} {s : State} {m : MethodId} {args : Array Value} {below : List Frame} {meth : Method} {c : Code} {D : va_G} {cI cJ : ClassId} {Q : State → Prop} {A : Nat → Prop} (w0 : Nat) (w1 : Nat) (w2 : Nat) (w3 : Nat) (w4 : Nat) (w5 : Nat) (w6 : Nat) (w7 : Nat) (w8 : Nat) (w9 : Nat) (w10 : Nat) (w11 : Nat) (w12 : Nat) (w13 : Nat) (w14 : Nat) (yt : Int32) (te : Int32) (n : Nat) (wb : Int32) (rc : Int32) (fp : Int32) (ft : Int32) (th : Int32) (sg : Nat → Int32) (gl : Nat → Int32) (fi : Nat → Int32) (nu : Nat → Int32) (pl : Nat → Int32) (fw : Nat → Int32) (fr : Nat → Int32) (qu : Nat → Int32) (tq : Nat) (hn : n ≤ 120) (htq : tq < n) (hfi : okFi fi) (hgl : okGl gl) (hpl : okPl pl n) (hnu : okNu fi nu n) (hL : okLk (rgL pl nu) (rgW sg gl fi pl) n) (hRm : okRm (rgW sg gl fi pl) (rgR sg gl fi pl fw) n)  (hx : p.tables.exec = Jvm.exec) (hb : c.code = c_MD_flows) (hml : c.maxLocals = 7) (hown : s.vm.findClass R_MD = some m.cls) (hw : ∀ w ∈ gw, w.before args s = true) (hE : En D cI cJ s) (hX : Sx A s s.heap) (hA : ∀ q : Nat, s.heap.size ≤ q → A q)
    (kx0 : ∀ (e9 : ES), (itX (eoB (rgL pl nu) (rgR sg gl fi pl fw) 0) n 0 (e0R fr qu n) = (none, e9)) → ∀ (H : Heap) (locs : List Loc) (ls : Array Slot), va_P D vwCl [(w0, .inr (5, [.ref w1, .ref w2, .int yt, .int te, .ref w3, .ref w4, .ref w5, .int (nI n), .int wb, .ref w6, .ref w7, .ref w8, .int rc, .ref w9, .ref w10, .ref w11, .ref w12, .ref w13, .ref w14, .int fp, .int ft, .int th])), (w1, .inl (cI, 100, .inl sg)), (w2, .inl (cI, 244, .inl gl)), (w3, .inl (cI, 1600, .inl fi)), (w10, .inl (cI, 1600, .inl nu)), (w11, .inl (cI, 120, .inl pl)), (w12, .inl (cI, 480, .inl fw)), (w13, .inl (cI, 120, .inl e9.1)), (w14, .inl (cI, 120, .inl e9.2.1))] H → va_D A [(w0, .inr (5, [.ref w1, .ref w2, .int yt, .int te, .ref w3, .ref w4, .ref w5, .int (nI n), .int wb, .ref w6, .ref w7, .ref w8, .int rc, .ref w9, .ref w10, .ref w11, .ref w12, .ref w13, .ref w14, .int fp, .int ft, .int th])), (w1, .inl (cI, 100, .inl sg)), (w2, .inl (cI, 244, .inl gl)), (w3, .inl (cI, 1600, .inl fi)), (w10, .inl (cI, 1600, .inl nu)), (w11, .inl (cI, 120, .inl pl)), (w12, .inl (cI, 480, .inl fw)), (w13, .inl (cI, 120, .inl e9.1)), (w14, .inl (cI, 120, .inl e9.2.1))] → va_S A s.heap H locs → lv_has ls 7 [(0, .ref w0), (1, .int (nI tq))] → W p l e ({ frames := 5, cells := 0, slots := 0, locals := 114 } : Room) s m args below meth c H locs 0 0 Q (F0 m 164 ls [])) :
    ∀ (fu : Nat) (nk : Nat) (e9 : ES), n - nk < fu → (nk ≤ n) → (itX (eoB (rgL pl nu) (rgR sg gl fi pl fw) 0) (n - nk) nk e9 = itX (eoB (rgL pl nu) (rgR sg gl fi pl fw) 0) n 0 (e0R fr qu n)) → (okQ (rgL pl nu) (rgW sg gl fi pl) n 0 e9) → ∀ (H : Heap) (locs : List Loc) (ls : Array Slot), va_P D vwCl [(w0, .inr (5, [.ref w1, .ref w2, .int yt, .int te, .ref w3, .ref w4, .ref w5, .int (nI n), .int wb, .ref w6, .ref w7, .ref w8, .int rc, .ref w9, .ref w10, .ref w11, .ref w12, .ref w13, .ref w14, .int fp, .int ft, .int th])), (w1, .inl (cI, 100, .inl sg)), (w2, .inl (cI, 244, .inl gl)), (w3, .inl (cI, 1600, .inl fi)), (w10, .inl (cI, 1600, .inl nu)), (w11, .inl (cI, 120, .inl pl)), (w12, .inl (cI, 480, .inl fw)), (w13, .inl (cI, 120, .inl e9.1)), (w14, .inl (cI, 120, .inl e9.2.1))] H → va_D A [(w0, .inr (5, [.ref w1, .ref w2, .int yt, .int te, .ref w3, .ref w4, .ref w5, .int (nI n), .int wb, .ref w6, .ref w7, .ref w8, .int rc, .ref w9, .ref w10, .ref w11, .ref w12, .ref w13, .ref w14, .int fp, .int ft, .int th])), (w1, .inl (cI, 100, .inl sg)), (w2, .inl (cI, 244, .inl gl)), (w3, .inl (cI, 1600, .inl fi)), (w10, .inl (cI, 1600, .inl nu)), (w11, .inl (cI, 120, .inl pl)), (w12, .inl (cI, 480, .inl fw)), (w13, .inl (cI, 120, .inl e9.1)), (w14, .inl (cI, 120, .inl e9.2.1))] → va_S A s.heap H locs → lv_has ls 7 [(0, .ref w0), (1, .int (nI tq)), (2, .int (nI nk)), (3, .int (nI e9.2.2))] → W p l e ({ frames := 5, cells := 0, slots := 0, locals := 114 } : Room) s m args below meth c H locs 0 0 Q (F0 m 41 ls []) := by
  intro fu
  induction fu with
  | zero =>
    intro nk e9 h0
    exact absurd h0 (Nat.not_lt_zero _)
  | succ fu ih =>
    intro nk e9 hmu hnk hR hS9 H locs ls hP hD hS hl
    have hcn := cnA_le e9.1 n
    have hcq := hS9.2.2.1
    refine lv_iload_n hx hb d_MD_flows_41 rfl (lv_at hl 2 rfl) ?_
    refine lv_iload_n hx hb d_MD_flows_42 rfl (lv_at hl 3 rfl) ?_
    refine jn_icmp_ge (tgt := 164) (a := nk) (b := e9.2.2) hx hb d_MD_flows_43 (by decide) (by omega) (by omega) (fun c_43 => ?_) (fun c_43 => ?_)
    · skip
      exact kx0 e9 (by rw [← hR]; exact eoB_end _ _ (by omega)) _ _ _ (hP.sub [0, 1, 2, 3, 4, 5, 6, 7, 8] rfl) (hD.sub [0, 1, 2, 3, 4, 5, 6, 7, 8] (by decide) rfl) hS (lv_sub hl [0, 1] rfl)
    · skip
      refine lv_aload_n hx hb d_MD_flows_46 rfl (lv_at hl 0 rfl) ?_
      refine va_get (D := D) (ci := 5) (v := .ref w14) (C := R_MD) (T := T_MD) (N := 22) hx hb hw in_MD hown hE.1 hP 0 rfl rfl 18 (by decide) (hw _ kw_779) (fun _ h9 => h9) rfl d_MD_flows_47 ?_
      refine lv_iload_n hx hb d_MD_flows_50 rfl (lv_at hl 2 rfl) ?_
      refine jn_iald (k := nk) hx hb hE.1 hP 8 0 rfl rfl (by omega) (by omega) d_MD_flows_51 ?_
      refine W.eq (g2 := F0 m 52 ls [.int (nI (nn (e9.2.1 nk)))]) (by rw [← (hS9.2.1 nk (by omega)).1]) ?_
      refine lv_istore (lv' := [(4, .int (nI (nn (e9.2.1 nk)))), (0, .ref w0), (1, .int (nI tq)), (2, .int (nI nk)), (3, .int (nI e9.2.2))]) hx hb d_MD_flows_52 hl (by decide) rfl (fun ls hl => ?_)
      refine lv_iinc (v := nI (nk + 1)) (lv' := [(2, .int (nI (nk + 1))), (4, .int (nI (nn (e9.2.1 nk)))), (0, .ref w0), (1, .int (nI tq)), (3, .int (nI e9.2.2))]) hx hb d_MD_flows_54 hl (k := 3) rfl (jn_inc nk 1) (by decide) rfl (fun ls hl => ?_)
      refine lv_iconst (v := nI 0) hx hb d_MD_flows_57 (by decide +kernel) ?_
      refine lv_istore (lv' := [(5, .int (nI 0)), (2, .int (nI (nk + 1))), (4, .int (nI (nn (e9.2.1 nk)))), (0, .ref w0), (1, .int (nI tq)), (3, .int (nI e9.2.2))]) hx hb d_MD_flows_58 hl (by decide) rfl (fun ls hl => ?_)
      refine lp_k_MD_flows_60 w0 w1 w2 w3 w4 w5 w6 w7 w8 w9 w10 w11 w12 w13 w14 yt te n wb rc fp ft th sg gl fi nu pl fw fr qu tq hn htq hfi hgl hpl hnu hL hRm nk (by omega) (nn (e9.2.1 nk)) (hS9.2.1 nk (by omega)).2.1 e9 hx hb hml hown hw hE hX hA (fun e8 hR8 hS8 H locs ls hP hD hS hl => ?_) ((4 - 0) + 1) 0 e9 (Nat.lt_succ_self _) (Nat.zero_le _) rfl hS9 (hS9.2.1 nk (by omega)).2.2 _ _ _ (hP.sub [0, 1, 2, 3, 4, 5, 6, 7, 8] rfl) (hD.sub [0, 1, 2, 3, 4, 5, 6, 7, 8] (by decide) rfl) hS (lv_sub hl [3, 4, 1, 5, 2, 0] rfl)
      refine lv_goto (tgt := 41) hx hb d_MD_flows_161 (by decide) ?_
      exact ih (nk + 1) e8 (by omega) (by omega) (by rw [← hR, show n - (nk + 1) = n - nk - 1 by omega]; exact (itX_go (by omega) (show eoB (rgL pl nu) (rgR sg gl fi pl fw) 0 nk e9 = (none, e8) from by unfold eoB; rw [if_pos (show nk < e9.2.2 by omega)]; exact hR8)).symm) hS8 _ _ _ (hP.sub [0, 1, 2, 3, 4, 5, 6, 7, 8] rfl) (hD.sub [0, 1, 2, 3, 4, 5, 6, 7, 8] (by decide) rfl) hS (lv_sub hl [0, 1, 2, 3] rfl)
set_option maxHeartbeats 4000000 in
set_option maxRecDepth 100000 in
theorem lp_k_MD_flows_179 {p : Program} {l : Launch} {e : Env} {s : State} {m : MethodId} {args : Array Value} {below : List Frame} {meth : Method} {c : Code} {D : va_G} {cI cJ : ClassId} {Q : State → Prop} {A : Nat → Prop} (w0 : Nat) (w1 : Nat) (w2 : Nat) (w3 : Nat) (w4 : Nat) (w5 : Nat) (w6 : Nat) (w7 : Nat) (w8 : Nat) (w9 : Nat) (w10 : Nat) (w11 : Nat) (w12 : Nat) (w13 : Nat) (w14 : Nat) (yt : Int32) (te : Int32) (n : Nat) (wb : Int32) (rc : Int32) (fp : Int32) (ft : Int32) (th : Int32) (sg : Nat → Int32) (gl : Nat → Int32) (fi : Nat → Int32) (nu : Nat → Int32) (pl : Nat → Int32) (fw : Nat → Int32) (fr : Nat → Int32) (qu : Nat → Int32) (tq : Nat) (hn : n ≤ 120) (htq : tq < n) (hfi : okFi fi) (hgl : okGl gl) (hpl : okPl pl n) (hnu : okNu fi nu n) (hL : okLk (rgL pl nu) (rgW sg gl fi pl) n) (hRm : okRm (rgW sg gl fi pl) (rgR sg gl fi pl fw) n) (e9 : ES) (rk : Nat → Nat) (hW : okWy (rgL pl nu) (rgR sg gl fi pl fw) e9.1 n 0 rk) (hx : p.tables.exec = Jvm.exec) (hb : c.code = c_MD_flows) (hml : c.maxLocals = 7) (hown : s.vm.findClass R_MD = some m.cls) (hw : ∀ w ∈ gw, w.before args s = true) (hE : En D cI cJ s) (hX : Sx A s s.heap) (hA : ∀ q : Nat, s.heap.size ≤ q → A q)
    (kx0 : ∀ (w9_ : Nat → Int32), (w9_ = rpF (rgL pl nu) e9.1 n tq fw) → ∀ (H : Heap) (locs : List Loc) (ls : Array Slot), va_P D vwCl [(w0, .inr (5, [.ref w1, .ref w2, .int yt, .int te, .ref w3, .ref w4, .ref w5, .int (nI n), .int wb, .ref w6, .ref w7, .ref w8, .int rc, .ref w9, .ref w10, .ref w11, .ref w12, .ref w13, .ref w14, .int fp, .int ft, .int th])), (w1, .inl (cI, 100, .inl sg)), (w2, .inl (cI, 244, .inl gl)), (w3, .inl (cI, 1600, .inl fi)), (w10, .inl (cI, 1600, .inl nu)), (w11, .inl (cI, 120, .inl pl)), (w12, .inl (cI, 480, .inl w9_)), (w13, .inl (cI, 120, .inl e9.1)), (w14, .inl (cI, 120, .inl e9.2.1))] H → va_D A [(w0, .inr (5, [.ref w1, .ref w2, .int yt, .int te, .ref w3, .ref w4, .ref w5, .int (nI n), .int wb, .ref w6, .ref w7, .ref w8, .int rc, .ref w9, .ref w10, .ref w11, .ref w12, .ref w13, .ref w14, .int fp, .int ft, .int th])), (w1, .inl (cI, 100, .inl sg)), (w2, .inl (cI, 244, .inl gl)), (w3, .inl (cI, 1600, .inl fi)), (w10, .inl (cI, 1600, .inl nu)), (w11, .inl (cI, 120, .inl pl)), (w12, .inl (cI, 480, .inl w9_)), (w13, .inl (cI, 120, .inl e9.1)), (w14, .inl (cI, 120, .inl e9.2.1))] → va_S A s.heap H locs → lv_has ls 7 [] → W p l e ({ frames := 5, cells := 0, slots := 0, locals := 114 } : Room) s m args below meth c H locs 0 0 Q (F0 m 259 ls [])) :
    ∀ (fu : Nat) (k : Nat) (w9_ : Nat → Int32) (f9 : Nat), rk k < fu → (k < n) → (e9.1 k ≠ -1) → (rk k < f9) → (rpF (rgL pl nu) e9.1 f9 k w9_ = rpF (rgL pl nu) e9.1 n tq fw) → ∀ (H : Heap) (locs : List Loc) (ls : Array Slot), va_P D vwCl [(w0, .inr (5, [.ref w1, .ref w2, .int yt, .int te, .ref w3, .ref w4, .ref w5, .int (nI n), .int wb, .ref w6, .ref w7, .ref w8, .int rc, .ref w9, .ref w10, .ref w11, .ref w12, .ref w13, .ref w14, .int fp, .int ft, .int th])), (w1, .inl (cI, 100, .inl sg)), (w2, .inl (cI, 244, .inl gl)), (w3, .inl (cI, 1600, .inl fi)), (w10, .inl (cI, 1600, .inl nu)), (w11, .inl (cI, 120, .inl pl)), (w12, .inl (cI, 480, .inl w9_)), (w13, .inl (cI, 120, .inl e9.1)), (w14, .inl (cI, 120, .inl e9.2.1))] H → va_D A [(w0, .inr (5, [.ref w1, .ref w2, .int yt, .int te, .ref w3, .ref w4, .ref w5, .int (nI n), .int wb, .ref w6, .ref w7, .ref w8, .int rc, .ref w9, .ref w10, .ref w11, .ref w12, .ref w13, .ref w14, .int fp, .int ft, .int th])), (w1, .inl (cI, 100, .inl sg)), (w2, .inl (cI, 244, .inl gl)), (w3, .inl (cI, 1600, .inl fi)), (w10, .inl (cI, 1600, .inl nu)), (w11, .inl (cI, 120, .inl pl)), (w12, .inl (cI, 480, .inl w9_)), (w13, .inl (cI, 120, .inl e9.1)), (w14, .inl (cI, 120, .inl e9.2.1))] → va_S A s.heap H locs → lv_has ls 7 [(0, .ref w0), (4, .int (nI k))] → W p l e ({ frames := 5, cells := 0, slots := 0, locals := 114 } : Room) s m args below meth c H locs 0 0 Q (F0 m 179 ls []) := by
  intro fu
  induction fu with
  | zero =>
    intro k w9_ f9 h0
    exact absurd h0 (Nat.not_lt_zero _)
  | succ fu ih =>
    intro k w9_ f9 hmu hk hak hf9 hR9 H locs ls hP hD hS hl
    refine lv_iload hx hb d_MD_flows_179 (lv_at hl 1 rfl) ?_
    refine jn_if_eq (tgt := 259) (a := k) hx hb d_MD_flows_181 (by decide) (by omega) (fun c_181 => ?_) (fun c_181 => ?_)
    · skip
      exact kx0 w9_ (by rw [← hR9]; obtain ⟨f8, rfl⟩ : ∃ f8, f9 = f8 + 1 := ⟨f9 - 1, by omega⟩; rw [rpF, if_pos c_181]) _ _ _ (hP.sub [0, 1, 2, 3, 4, 5, 6, 7, 8] rfl) (hD.sub [0, 1, 2, 3, 4, 5, 6, 7, 8] (by decide) rfl) hS (lv_sub hl [] rfl)
    · skip
      obtain ⟨sx, vx, hsx, hvx, hax, hlx, hwx, hwy, hav, hrk⟩ := way_we hL hRm hn hW hk hak c_181
      have hop := opp_lt sx
      have hpk := hpl k hk
      have hbx := rgW_at hop hwx
      have hbv := bsV_nn hpk.2 hbx.1
      have hnx : nu (nn (bsV (nn (pl k)) (opp sx))) = nI vx := by rw [← hlx, rgL_at hop]
      have ho := opp_2 hsx
      refine lv_aload_n hx hb d_MD_flows_184 rfl (lv_at hl 0 rfl) ?_
      refine va_get (D := D) (ci := 5) (v := .ref w13) (C := R_MD) (T := T_MD) (N := 22) hx hb hw in_MD hown hE.1 hP 0 rfl rfl 17 (by decide) (hw _ kw_778) (fun _ h9 => h9) rfl d_MD_flows_185 ?_
      refine lv_iload hx hb d_MD_flows_188 (lv_at hl 1 rfl) ?_
      refine jn_iald (k := k) hx hb hE.1 hP 7 0 rfl rfl (by omega) (by omega) d_MD_flows_190 ?_
      refine W.eq (g2 := F0 m 191 ls [.int (nI sx)]) (by rw [hax]) ?_
      refine lv_istore (lv' := [(5, .int (nI sx)), (0, .ref w0), (4, .int (nI k))]) hx hb d_MD_flows_191 hl (by decide) rfl (fun ls hl => ?_)
      refine lv_aload_n hx hb d_MD_flows_193 rfl (lv_at hl 1 rfl) ?_
      refine va_get (D := D) (ci := 5) (v := .ref w10) (C := R_MD) (T := T_MD) (N := 22) hx hb hw in_MD hown hE.1 hP 0 rfl rfl 14 (by decide) (hw _ kw_775) (fun _ h9 => h9) rfl d_MD_flows_194 ?_
      refine lv_aload_n hx hb d_MD_flows_197 rfl (lv_at hl 1 rfl) ?_
      refine va_get (D := D) (ci := 5) (v := .ref w11) (C := R_MD) (T := T_MD) (N := 22) hx hb hw in_MD hown hE.1 hP 0 rfl rfl 15 (by decide) (hw _ kw_776) (fun _ h9 => h9) rfl d_MD_flows_198 ?_
      refine lv_iload hx hb d_MD_flows_201 (lv_at hl 2 rfl) ?_
      refine jn_iald (k := k) hx hb hE.1 hP 5 0 rfl rfl (by omega) (by omega) d_MD_flows_203 ?_
      refine W.eq (g2 := F0 m 204 ls [.int (nI (nn (pl k))), .ref w10]) (by rw [← hpk.1]) ?_
      refine lv_iload hx hb d_MD_flows_204 (lv_at hl 0 rfl) ?_
      refine lv_iconst (v := nI 2) hx hb d_MD_flows_206 (by decide +kernel) ?_
      refine jn_iadd (a := sx) (b := 2) hx hb d_MD_flows_207 ?_
      refine lv_iconst (v := nI 4) hx hb d_MD_flows_208 (by decide +kernel) ?_
      refine jn_irem (a := (sx + 2)) (b := 4) hx hb d_MD_flows_209 (by omega) (by omega) (by omega) ?_
      refine W.eq (g2 := F0 m 210 ls [.int (nI (opp sx)), .int (nI (nn (pl k))), .ref w10]) (by rw [ho]) ?_
      refine vp_callSi (va_Run.run (va_runS (As := [.int (nI (nn (pl k))), .int (nI (opp sx))]) (rest := [.ref w10]) ⟨hx, hb, hml, hown, hw⟩ (k_MD_beside l D cI cJ (nn (pl k)) (opp sx) hpk.2 hop) (va_cwS 2 hw (gS kw_898 kw_899 kw_45 kw_900) rfl rfl rfl (by decide +kernel) ⟨Nat.le_of_ble_eq_true rfl, Nat.le_of_ble_eq_true rfl⟩) (pre_Sp (wc := []) hE hX hP hS [] rfl) rfl rfl hl.1 rfl (lv_room (Nat.le_of_ble_eq_true rfl)) d_MD_flows_210 ⟨Nat.le_of_ble_eq_true rfl, Nat.le_of_ble_eq_true rfl⟩)) (fun r_1 hr_1 => ?_)
      obtain rfl : bsV (nn (pl k)) (opp sx) = r_1 := hr_1.symm
      refine W.eq (g2 := F0 m 213 ls [.int (nI (nn (bsV (nn (pl k)) (opp sx)))), .ref w10]) (by rw [← hbv.1]) ?_
      refine jn_iald (k := (nn (bsV (nn (pl k)) (opp sx)))) hx hb hE.1 hP 4 0 rfl rfl hbv.2 (by omega) d_MD_flows_213 ?_
      refine W.eq (g2 := F0 m 214 ls [.int (nI vx)]) (by rw [hnx]) ?_
      refine lv_istore (lv' := [(6, .int (nI vx)), (5, .int (nI sx)), (0, .ref w0), (4, .int (nI k))]) hx hb d_MD_flows_214 hl (by decide) rfl (fun ls hl => ?_)
      refine lv_aload_n hx hb d_MD_flows_216 rfl (lv_at hl 2 rfl) ?_
      refine va_get (D := D) (ci := 5) (v := .ref w12) (C := R_MD) (T := T_MD) (N := 22) hx hb hw in_MD hown hE.1 hP 0 rfl rfl 16 (by decide) (hw _ kw_777) (fun _ h9 => h9) rfl d_MD_flows_217 ?_
      refine lv_iconst (v := nI 4) hx hb d_MD_flows_220 (by decide +kernel) ?_
      refine lv_iload hx hb d_MD_flows_221 (lv_at hl 0 rfl) ?_
      refine jn_imul (a := 4) (b := vx) hx hb d_MD_flows_223 ?_
      refine lv_iload hx hb d_MD_flows_224 (lv_at hl 1 rfl) ?_
      refine jn_iadd (a := (4 * vx)) (b := sx) hx hb d_MD_flows_226 ?_
      refine lv_dup2_11 hx hb d_MD_flows_227 rfl rfl ?_
      refine jn_iald (k := ((4 * vx) + sx)) hx hb hE.1 hP 6 0 rfl rfl (by omega) (by omega) d_MD_flows_228 ?_
      refine lv_iconst (v := nI 1) hx hb d_MD_flows_229 (by decide +kernel) ?_
      refine lv_iadd hx hb d_MD_flows_230 ?_
      refine jn_iast (k := ((4 * vx) + sx)) hx hb hE.1 hP hD hS 6 0 rfl rfl (by omega) (by omega) d_MD_flows_231 (fun H locs hP hD hS => ?_)
      have hP : va_P D vwCl [(w0, .inr (5, [.ref w1, .ref w2, .int yt, .int te, .ref w3, .ref w4, .ref w5, .int (nI n), .int wb, .ref w6, .ref w7, .ref w8, .int rc, .ref w9, .ref w10, .ref w11, .ref w12, .ref w13, .ref w14, .int fp, .int ft, .int th])), (w1, .inl (cI, 100, .inl sg)), (w2, .inl (cI, 244, .inl gl)), (w3, .inl (cI, 1600, .inl fi)), (w10, .inl (cI, 1600, .inl nu)), (w11, .inl (cI, 120, .inl pl)), (w12, .inl (cI, 480, .inl (upd w9_ ((4 * vx) + sx) ((w9_ ((4 * vx) + sx)) + (nI 1))))), (w13, .inl (cI, 120, .inl e9.1)), (w14, .inl (cI, 120, .inl e9.2.1))] H := hP
      have hD : va_D A [(w0, .inr (5, [.ref w1, .ref w2, .int yt, .int te, .ref w3, .ref w4, .ref w5, .int (nI n), .int wb, .ref w6, .ref w7, .ref w8, .int rc, .ref w9, .ref w10, .ref w11, .ref w12, .ref w13, .ref w14, .int fp, .int ft, .int th])), (w1, .inl (cI, 100, .inl sg)), (w2, .inl (cI, 244, .inl gl)), (w3, .inl (cI, 1600, .inl fi)), (w10, .inl (cI, 1600, .inl nu)), (w11, .inl (cI, 120, .inl pl)), (w12, .inl (cI, 480, .inl (upd w9_ ((4 * vx) + sx) ((w9_ ((4 * vx) + sx)) + (nI 1))))), (w13, .inl (cI, 120, .inl e9.1)), (w14, .inl (cI, 120, .inl e9.2.1))] := hD
      refine lv_aload_n hx hb d_MD_flows_232 rfl (lv_at hl 2 rfl) ?_
      refine va_get (D := D) (ci := 5) (v := .ref w12) (C := R_MD) (T := T_MD) (N := 22) hx hb hw in_MD hown hE.1 hP 0 rfl rfl 16 (by decide) (hw _ kw_777) (fun _ h9 => h9) rfl d_MD_flows_233 ?_
      refine lv_iconst (v := nI 4) hx hb d_MD_flows_236 (by decide +kernel) ?_
      refine lv_iload hx hb d_MD_flows_237 (lv_at hl 3 rfl) ?_
      refine jn_imul (a := 4) (b := k) hx hb d_MD_flows_239 ?_
      refine lv_iload hx hb d_MD_flows_240 (lv_at hl 1 rfl) ?_
      refine lv_iconst (v := nI 2) hx hb d_MD_flows_242 (by decide +kernel) ?_
      refine jn_iadd (a := sx) (b := 2) hx hb d_MD_flows_243 ?_
      refine lv_iconst (v := nI 4) hx hb d_MD_flows_244 (by decide +kernel) ?_
      refine jn_irem (a := (sx + 2)) (b := 4) hx hb d_MD_flows_245 (by omega) (by omega) (by omega) ?_
      refine W.eq (g2 := F0 m 246 ls [.int (nI (opp sx)), .int (nI (4 * k)), .ref w12]) (by rw [ho]) ?_
      refine jn_iadd (a := (4 * k)) (b := (opp sx)) hx hb d_MD_flows_246 ?_
      refine lv_dup2_11 hx hb d_MD_flows_247 rfl rfl ?_
      refine jn_iald (k := ((4 * k) + (opp sx))) hx hb hE.1 hP 6 0 rfl rfl (by omega) (by omega) d_MD_flows_248 ?_
      refine lv_iconst (v := nI 1) hx hb d_MD_flows_249 (by decide +kernel) ?_
      refine lv_isub hx hb d_MD_flows_250 ?_
      refine jn_iast (k := ((4 * k) + (opp sx))) hx hb hE.1 hP hD hS 6 0 rfl rfl (by omega) (by omega) d_MD_flows_251 (fun H locs hP hD hS => ?_)
      have hP : va_P D vwCl [(w0, .inr (5, [.ref w1, .ref w2, .int yt, .int te, .ref w3, .ref w4, .ref w5, .int (nI n), .int wb, .ref w6, .ref w7, .ref w8, .int rc, .ref w9, .ref w10, .ref w11, .ref w12, .ref w13, .ref w14, .int fp, .int ft, .int th])), (w1, .inl (cI, 100, .inl sg)), (w2, .inl (cI, 244, .inl gl)), (w3, .inl (cI, 1600, .inl fi)), (w10, .inl (cI, 1600, .inl nu)), (w11, .inl (cI, 120, .inl pl)), (w12, .inl (cI, 480, .inl (upd (upd w9_ ((4 * vx) + sx) ((w9_ ((4 * vx) + sx)) + (nI 1))) ((4 * k) + (opp sx)) (((upd w9_ ((4 * vx) + sx) ((w9_ ((4 * vx) + sx)) + (nI 1))) ((4 * k) + (opp sx))) - (nI 1))))), (w13, .inl (cI, 120, .inl e9.1)), (w14, .inl (cI, 120, .inl e9.2.1))] H := hP
      have hD : va_D A [(w0, .inr (5, [.ref w1, .ref w2, .int yt, .int te, .ref w3, .ref w4, .ref w5, .int (nI n), .int wb, .ref w6, .ref w7, .ref w8, .int rc, .ref w9, .ref w10, .ref w11, .ref w12, .ref w13, .ref w14, .int fp, .int ft, .int th])), (w1, .inl (cI, 100, .inl sg)), (w2, .inl (cI, 244, .inl gl)), (w3, .inl (cI, 1600, .inl fi)), (w10, .inl (cI, 1600, .inl nu)), (w11, .inl (cI, 120, .inl pl)), (w12, .inl (cI, 480, .inl (upd (upd w9_ ((4 * vx) + sx) ((w9_ ((4 * vx) + sx)) + (nI 1))) ((4 * k) + (opp sx)) (((upd w9_ ((4 * vx) + sx) ((w9_ ((4 * vx) + sx)) + (nI 1))) ((4 * k) + (opp sx))) - (nI 1))))), (w13, .inl (cI, 120, .inl e9.1)), (w14, .inl (cI, 120, .inl e9.2.1))] := hD
      refine lv_iload hx hb d_MD_flows_252 (lv_at hl 0 rfl) ?_
      refine lv_istore (lv' := [(4, .int (nI vx)), (6, .int (nI vx)), (5, .int (nI sx)), (0, .ref w0)]) hx hb d_MD_flows_254 hl (by decide) rfl (fun ls hl => ?_)
      refine lv_goto (tgt := 179) hx hb d_MD_flows_256 (by decide) ?_
      exact ih vx (upd (upd w9_ ((4 * vx) + sx) ((w9_ ((4 * vx) + sx)) + (nI 1))) ((4 * k) + (opp sx)) (((upd w9_ ((4 * vx) + sx) ((w9_ ((4 * vx) + sx)) + (nI 1))) ((4 * k) + (opp sx))) - (nI 1))) (f9 - 1) (by omega) (by omega) hav (by omega) (by rw [← hR9]; obtain ⟨f8, rfl⟩ : ∃ f8, f9 = f8 + 1 := ⟨f9 - 1, by omega⟩; rw [Nat.add_sub_cancel, rpF, if_neg c_181]; unfold rpS; rw [hax, nn_nI (show sx < 2 ^ 31 by omega), hlx, nn_nI (show vx < 2 ^ 31 by omega)]) _ _ _ (hP.sub [0, 1, 2, 3, 4, 5, 6, 7, 8] rfl) (hD.sub [0, 1, 2, 3, 4, 5, 6, 7, 8] (by decide) rfl) hS (lv_sub hl [3, 0] rfl)
set_option maxHeartbeats 4000000 in
set_option maxRecDepth 100000 in
/-- flows -/
theorem k_MD_flows (l : Launch) (D : va_G) (cI cJ : ClassId) (w0 : Nat) (w1 : Nat) (w2 : Nat) (w3 : Nat) (w4 : Nat) (w5 : Nat) (w6 : Nat) (w7 : Nat) (w8 : Nat) (w9 : Nat) (w10 : Nat) (w11 : Nat) (w12 : Nat) (w13 : Nat) (w14 : Nat) (yt : Int32) (te : Int32) (n : Nat) (wb : Int32) (rc : Int32) (fp : Int32) (ft : Int32) (th : Int32) (sg : Nat → Int32) (gl : Nat → Int32) (fi : Nat → Int32) (nu : Nat → Int32) (pl : Nat → Int32) (fw : Nat → Int32) (fr : Nat → Int32) (qu : Nat → Int32) (tq : Nat) (sz : Nat) (hn : n ≤ 120) (htq : tq < n) (hfi : okFi fi) (hgl : okGl gl) (hpl : okPl pl n) (hnu : okNu fi nu n) (hL : okLk (rgL pl nu) (rgW sg gl fi pl) n) (hRm : okRm (rgW sg gl fi pl) (rgR sg gl fi pl fw) n) : Met l y_MD_flows ws_MD_flows ({ frames := 5, cells := 0, slots := 0, locals := 114 } : Room) (va_Pc [.ref w0, .int (nI tq)] (Pw D cI cJ [(w0, .inr (5, [.ref w1, .ref w2, .int yt, .int te, .ref w3, .ref w4, .ref w5, .int (nI n), .int wb, .ref w6, .ref w7, .ref w8, .int rc, .ref w9, .ref w10, .ref w11, .ref w12, .ref w13, .ref w14, .int fp, .int ft, .int th])), (w1, .inl (cI, 100, .inl sg)), (w2, .inl (cI, 244, .inl gl)), (w3, .inl (cI, 1600, .inl fi)), (w10, .inl (cI, 1600, .inl nu)), (w11, .inl (cI, 120, .inl pl)), (w12, .inl (cI, 480, .inl fw)), (w13, .inl (cI, 120, .inl fr)), (w14, .inl (cI, 120, .inl qu))] sz)) (va_Qi (fun (r : Int32) (u9 : T3) => ∃ e9 : ES, itX (eoB (rgL pl nu) (rgR sg gl fi pl fw) 0) n 0 (e0R fr qu n) = (none, e9) ∧ u9.1 = e9.1 ∧ u9.2.1 = e9.2.1 ∧ ((e9.1 tq = -1 ∧ r = nI 0 ∧ u9.2.2 = fw) ∨ (e9.1 tq ≠ -1 ∧ r = nI 1 ∧ u9.2.2 = rpF (rgL pl nu) e9.1 n tq fw))) (fun u9 t9 => Bw D (va_A [(w0, .inr (5, [.ref w1, .ref w2, .int yt, .int te, .ref w3, .ref w4, .ref w5, .int (nI n), .int wb, .ref w6, .ref w7, .ref w8, .int rc, .ref w9, .ref w10, .ref w11, .ref w12, .ref w13, .ref w14, .int fp, .int ft, .int th])), (w1, .inl (cI, 100, .inl sg)), (w2, .inl (cI, 244, .inl gl)), (w3, .inl (cI, 1600, .inl fi)), (w10, .inl (cI, 1600, .inl nu)), (w11, .inl (cI, 120, .inl pl)), (w12, .inl (cI, 480, .inl fw)), (w13, .inl (cI, 120, .inl fr)), (w14, .inl (cI, 120, .inl qu))] sz) [(w0, .inr (5, [.ref w1, .ref w2, .int yt, .int te, .ref w3, .ref w4, .ref w5, .int (nI n), .int wb, .ref w6, .ref w7, .ref w8, .int rc, .ref w9, .ref w10, .ref w11, .ref w12, .ref w13, .ref w14, .int fp, .int ft, .int th])), (w1, .inl (cI, 100, .inl sg)), (w2, .inl (cI, 244, .inl gl)), (w3, .inl (cI, 1600, .inl fi)), (w10, .inl (cI, 1600, .inl nu)), (w11, .inl (cI, 120, .inl pl)), (w12, .inl (cI, 480, .inl u9.2.2)), (w13, .inl (cI, 120, .inl u9.1)), (w14, .inl (cI, 120, .inl u9.2.1))] t9) (va_A [(w0, .inr (5, [.ref w1, .ref w2, .int yt, .int te, .ref w3, .ref w4, .ref w5, .int (nI n), .int wb, .ref w6, .ref w7, .ref w8, .int rc, .ref w9, .ref w10, .ref w11, .ref w12, .ref w13, .ref w14, .int fp, .int ft, .int th])), (w1, .inl (cI, 100, .inl sg)), (w2, .inl (cI, 244, .inl gl)), (w3, .inl (cI, 1600, .inl fi)), (w10, .inl (cI, 1600, .inl nu)), (w11, .inl (cI, 120, .inl pl)), (w12, .inl (cI, 480, .inl fw)), (w13, .inl (cI, 120, .inl fr)), (w14, .inl (cI, 120, .inl qu))] sz)) 0 0 (va_A [(w0, .inr (5, [.ref w1, .ref w2, .int yt, .int te, .ref w3, .ref w4, .ref w5, .int (nI n), .int wb, .ref w6, .ref w7, .ref w8, .int rc, .ref w9, .ref w10, .ref w11, .ref w12, .ref w13, .ref w14, .int fp, .int ft, .int th])), (w1, .inl (cI, 100, .inl sg)), (w2, .inl (cI, 244, .inl gl)), (w3, .inl (cI, 1600, .inl fi)), (w10, .inl (cI, 1600, .inl nu)), (w11, .inl (cI, 120, .inl pl)), (w12, .inl (cI, 480, .inl fw)), (w13, .inl (cI, 120, .inl fr)), (w14, .inl (cI, 120, .inl qu))] sz) := by
  refine Met.ofW (cc := c_MD_flows) (maxL := 7) (ret := (some .boolean)) (by decide) rfl ?_
  intro p e s m args below meth c s₁ B hml hv
  obtain ⟨rfl, hsz, hE, hP, hD0, hX⟩ := hv
  have hx := B.exec
  have hb := B.bytes
  have hr := B.returns
  have hw : ∀ w ∈ gw, w.before _ s = true := fun w h => atoms_spec (ws := ws_MD_flows) B.pre w (List.mem_cons_of_mem _ h)
  have hown : s.vm.findClass R_MD = some m.cls := findClass_of_methodNamed B.named
  have hlocks := B.notSynchronized
  subst hsz
  have hD := hD0.self (sz := s.heap.size)
  generalize hAe : va_A [(w0, .inr (5, [.ref w1, .ref w2, .int yt, .int te, .ref w3, .ref w4, .ref w5, .int (nI n), .int wb, .ref w6, .ref w7, .ref w8, .int rc, .ref w9, .ref w10, .ref w11, .ref w12, .ref w13, .ref w14, .int fp, .int ft, .int th])), (w1, .inl (cI, 100, .inl sg)), (w2, .inl (cI, 244, .inl gl)), (w3, .inl (cI, 1600, .inl fi)), (w10, .inl (cI, 1600, .inl nu)), (w11, .inl (cI, 120, .inl pl)), (w12, .inl (cI, 480, .inl fw)), (w13, .inl (cI, 120, .inl fr)), (w14, .inl (cI, 120, .inl qu))] s.heap.size = A at hD hX ⊢
  have hA : ∀ q : Nat, s.heap.size ≤ q → A q := fun q h => by rw [← hAe]; exact Or.inr h
  have hS : va_S A s.heap s.heap [] := va_S.rf
  have hP : va_P D vwCl [(w0, .inr (5, [.ref w1, .ref w2, .int yt, .int te, .ref w3, .ref w4, .ref w5, .int (nI n), .int wb, .ref w6, .ref w7, .ref w8, .int rc, .ref w9, .ref w10, .ref w11, .ref w12, .ref w13, .ref w14, .int fp, .int ft, .int th])), (w1, .inl (cI, 100, .inl sg)), (w2, .inl (cI, 244, .inl gl)), (w3, .inl (cI, 1600, .inl fi)), (w10, .inl (cI, 1600, .inl nu)), (w11, .inl (cI, 120, .inl pl)), (w12, .inl (cI, 480, .inl fw)), (w13, .inl (cI, 120, .inl fr)), (w14, .inl (cI, 120, .inl qu))] s.heap := hP
  have hl := lv_entry ([.ref w0, .int (nI tq)]) (n := 7) (Nat.le_of_ble_eq_true rfl)
  rw [lg_entry_eq]
  generalize (lg_sl ([.ref w0, .int (nI tq)]) ++ List.replicate (7 - (lg_sl ([.ref w0, .int (nI tq)])).length) Slot.unset).toArray = ls at hl ⊢
  have hl : lv_has ls 7 [(0, .ref w0), (1, .int (nI tq))] := hl
  refine lv_iconst (v := nI 0) hx hb d_MD_flows_0 (by decide +kernel) ?_
  refine lv_istore_n (lv' := [(2, .int (nI 0)), (0, .ref w0), (1, .int (nI tq))]) hx hb d_MD_flows_1 rfl hl (by decide) rfl (fun ls hl => ?_)
  refine lp_k_MD_flows_2 w0 w1 w2 w3 w4 w5 w6 w7 w8 w9 w10 w11 w12 w13 w14 yt te n wb rc fp ft th sg gl fi nu pl fw fr qu tq hn htq hfi hgl hpl hnu hL hRm hx hb hml hown hw hE hX hA (fun f9 hf9 H locs ls hP hD hS hl => ?_) ((n - 0) + 1) 0 fr (Nat.lt_succ_self _) (Nat.zero_le _) (flI_zero _ _).symm _ _ _ (hP.sub [0, 1, 2, 3, 4, 5, 6, 7, 8] rfl) (hD.sub [0, 1, 2, 3, 4, 5, 6, 7, 8] (by decide) rfl) hS (lv_sub hl [1, 2, 0] rfl)
  subst hf9
  refine lv_iconst (v := nI 0) hx hb d_MD_flows_23 (by decide +kernel) ?_
  refine lv_istore_n (lv' := [(2, .int (nI 0)), (0, .ref w0), (1, .int (nI tq))]) hx hb d_MD_flows_24 rfl hl (by decide) rfl (fun ls hl => ?_)
  refine lv_iconst (v := nI 1) hx hb d_MD_flows_25 (by decide +kernel) ?_
  refine lv_istore_n (lv' := [(3, .int (nI 1)), (2, .int (nI 0)), (0, .ref w0), (1, .int (nI tq))]) hx hb d_MD_flows_26 rfl hl (by decide) rfl (fun ls hl => ?_)
  refine lv_aload_n hx hb d_MD_flows_27 rfl (lv_at hl 2 rfl) ?_
  refine va_get (D := D) (ci := 5) (v := .ref w14) (C := R_MD) (T := T_MD) (N := 22) hx hb hw in_MD hown hE.1 hP 0 rfl rfl 18 (by decide) (hw _ kw_779) (fun _ h9 => h9) rfl d_MD_flows_28 ?_
  refine lv_iconst (v := nI 0) hx hb d_MD_flows_31 (by decide +kernel) ?_
  refine lv_iconst (v := nI 0) hx hb d_MD_flows_32 (by decide +kernel) ?_
  refine jn_iast (k := 0) hx hb hE.1 hP hD hS 8 0 rfl rfl (by omega) (by omega) d_MD_flows_33 (fun H locs hP hD hS => ?_)
  have hP : va_P D vwCl [(w0, .inr (5, [.ref w1, .ref w2, .int yt, .int te, .ref w3, .ref w4, .ref w5, .int (nI n), .int wb, .ref w6, .ref w7, .ref w8, .int rc, .ref w9, .ref w10, .ref w11, .ref w12, .ref w13, .ref w14, .int fp, .int ft, .int th])), (w1, .inl (cI, 100, .inl sg)), (w2, .inl (cI, 244, .inl gl)), (w3, .inl (cI, 1600, .inl fi)), (w10, .inl (cI, 1600, .inl nu)), (w11, .inl (cI, 120, .inl pl)), (w12, .inl (cI, 480, .inl fw)), (w13, .inl (cI, 120, .inl (flI fr (-1) n))), (w14, .inl (cI, 120, .inl (upd qu 0 (nI 0))))] H := hP
  have hD : va_D A [(w0, .inr (5, [.ref w1, .ref w2, .int yt, .int te, .ref w3, .ref w4, .ref w5, .int (nI n), .int wb, .ref w6, .ref w7, .ref w8, .int rc, .ref w9, .ref w10, .ref w11, .ref w12, .ref w13, .ref w14, .int fp, .int ft, .int th])), (w1, .inl (cI, 100, .inl sg)), (w2, .inl (cI, 244, .inl gl)), (w3, .inl (cI, 1600, .inl fi)), (w10, .inl (cI, 1600, .inl nu)), (w11, .inl (cI, 120, .inl pl)), (w12, .inl (cI, 480, .inl fw)), (w13, .inl (cI, 120, .inl (flI fr (-1) n))), (w14, .inl (cI, 120, .inl (upd qu 0 (nI 0))))] := hD
  refine lv_aload_n hx hb d_MD_flows_34 rfl (lv_at hl 2 rfl) ?_
  refine va_get (D := D) (ci := 5) (v := .ref w13) (C := R_MD) (T := T_MD) (N := 22) hx hb hw in_MD hown hE.1 hP 0 rfl rfl 17 (by decide) (hw _ kw_778) (fun _ h9 => h9) rfl d_MD_flows_35 ?_
  refine lv_iconst (v := nI 0) hx hb d_MD_flows_38 (by decide +kernel) ?_
  refine lv_iconst (v := nI 4) hx hb d_MD_flows_39 (by decide +kernel) ?_
  refine jn_iast (k := 0) hx hb hE.1 hP hD hS 7 0 rfl rfl (by omega) (by omega) d_MD_flows_40 (fun H locs hP hD hS => ?_)
  have hP : va_P D vwCl [(w0, .inr (5, [.ref w1, .ref w2, .int yt, .int te, .ref w3, .ref w4, .ref w5, .int (nI n), .int wb, .ref w6, .ref w7, .ref w8, .int rc, .ref w9, .ref w10, .ref w11, .ref w12, .ref w13, .ref w14, .int fp, .int ft, .int th])), (w1, .inl (cI, 100, .inl sg)), (w2, .inl (cI, 244, .inl gl)), (w3, .inl (cI, 1600, .inl fi)), (w10, .inl (cI, 1600, .inl nu)), (w11, .inl (cI, 120, .inl pl)), (w12, .inl (cI, 480, .inl fw)), (w13, .inl (cI, 120, .inl (upd (flI fr (-1) n) 0 (nI 4)))), (w14, .inl (cI, 120, .inl (upd qu 0 (nI 0))))] H := hP
  have hD : va_D A [(w0, .inr (5, [.ref w1, .ref w2, .int yt, .int te, .ref w3, .ref w4, .ref w5, .int (nI n), .int wb, .ref w6, .ref w7, .ref w8, .int rc, .ref w9, .ref w10, .ref w11, .ref w12, .ref w13, .ref w14, .int fp, .int ft, .int th])), (w1, .inl (cI, 100, .inl sg)), (w2, .inl (cI, 244, .inl gl)), (w3, .inl (cI, 1600, .inl fi)), (w10, .inl (cI, 1600, .inl nu)), (w11, .inl (cI, 120, .inl pl)), (w12, .inl (cI, 480, .inl fw)), (w13, .inl (cI, 120, .inl (upd (flI fr (-1) n) 0 (nI 4)))), (w14, .inl (cI, 120, .inl (upd qu 0 (nI 0))))] := hD
  refine lp_k_MD_flows_41 w0 w1 w2 w3 w4 w5 w6 w7 w8 w9 w10 w11 w12 w13 w14 yt te n wb rc fp ft th sg gl fi nu pl fw fr qu tq hn htq hfi hgl hpl hnu hL hRm hx hb hml hown hw hE hX hA (fun e9 hR H locs ls hP hD hS hl => ?_) ((n - 0) + 1) 0 (e0R fr qu n) (Nat.lt_succ_self _) (Nat.zero_le _) rfl (okQ_init2 (by omega)).1 _ _ _ (hP.sub [0, 1, 2, 3, 4, 5, 6, 7, 8] rfl) (hD.sub [0, 1, 2, 3, 4, 5, 6, 7, 8] (by decide) rfl) hS (lv_sub hl [2, 3, 1, 0] rfl)
  refine lv_aload_n hx hb d_MD_flows_164 rfl (lv_at hl 0 rfl) ?_
  refine va_get (D := D) (ci := 5) (v := .ref w13) (C := R_MD) (T := T_MD) (N := 22) hx hb hw in_MD hown hE.1 hP 0 rfl rfl 17 (by decide) (hw _ kw_778) (fun _ h9 => h9) rfl d_MD_flows_165 ?_
  refine lv_iload_n hx hb d_MD_flows_168 rfl (lv_at hl 1 rfl) ?_
  refine jn_iald (k := tq) hx hb hE.1 hP 7 0 rfl rfl (by omega) (by omega) d_MD_flows_169 ?_
  refine lv_iconst (v := (-1)) hx hb d_MD_flows_170 (by decide +kernel) ?_
  refine lv_icmp_ne (tgt := 176) hx hb d_MD_flows_171 (by decide) (fun c_171 => ?_) (fun c_171 => ?_)
  · skip
    obtain ⟨rk, hW, hrn⟩ := e0R_way hL hRm hn (by omega) hR
    refine lv_iload_n hx hb d_MD_flows_176 rfl (lv_at hl 1 rfl) ?_
    refine lv_istore (lv' := [(4, .int (nI tq)), (0, .ref w0), (1, .int (nI tq))]) hx hb d_MD_flows_177 hl (by decide) rfl (fun ls hl => ?_)
    refine lp_k_MD_flows_179 w0 w1 w2 w3 w4 w5 w6 w7 w8 w9 w10 w11 w12 w13 w14 yt te n wb rc fp ft th sg gl fi nu pl fw fr qu tq hn htq hfi hgl hpl hnu hL hRm e9 rk hW hx hb hml hown hw hE hX hA (fun w9_ hR9 H locs ls hP hD hS hl => ?_) ((rk tq) + 1) tq fw n (Nat.lt_succ_self _) htq c_171 (hrn tq htq c_171) rfl _ _ _ (hP.sub [0, 1, 2, 3, 4, 5, 6, 7, 8] rfl) (hD.sub [0, 1, 2, 3, 4, 5, 6, 7, 8] (by decide) rfl) hS (lv_sub hl [1, 0] rfl)
    refine lv_iconst (v := nI 1) hx hb d_MD_flows_259 (by decide +kernel) ?_
    have hP9 := hP.sub (ws' := [(w0, .inr (5, [.ref w1, .ref w2, .int yt, .int te, .ref w3, .ref w4, .ref w5, .int (nI n), .int wb, .ref w6, .ref w7, .ref w8, .int rc, .ref w9, .ref w10, .ref w11, .ref w12, .ref w13, .ref w14, .int fp, .int ft, .int th])), (w1, .inl (cI, 100, .inl sg)), (w2, .inl (cI, 244, .inl gl)), (w3, .inl (cI, 1600, .inl fi)), (w10, .inl (cI, 1600, .inl nu)), (w11, .inl (cI, 120, .inl pl)), (w12, .inl (cI, 480, .inl w9_)), (w13, .inl (cI, 120, .inl e9.1)), (w14, .inl (cI, 120, .inl e9.2.1))]) [0, 1, 2, 3, 4, 5, 6, 7, 8] rfl
    have hD9 := hD.sub (ws' := [(w0, .inr (5, [.ref w1, .ref w2, .int yt, .int te, .ref w3, .ref w4, .ref w5, .int (nI n), .int wb, .ref w6, .ref w7, .ref w8, .int rc, .ref w9, .ref w10, .ref w11, .ref w12, .ref w13, .ref w14, .int fp, .int ft, .int th])), (w1, .inl (cI, 100, .inl sg)), (w2, .inl (cI, 244, .inl gl)), (w3, .inl (cI, 1600, .inl fi)), (w10, .inl (cI, 1600, .inl nu)), (w11, .inl (cI, 120, .inl pl)), (w12, .inl (cI, 480, .inl w9_)), (w13, .inl (cI, 120, .inl e9.1)), (w14, .inl (cI, 120, .inl e9.2.1))]) [0, 1, 2, 3, 4, 5, 6, 7, 8] (by decide) rfl
    exact W.zret (v := nI 1) hx hb hr (by decide +kernel) (fun t9 ht hW => ⟨⟨_, (e9.1, e9.2.1, w9_), rfl, ⟨e9, hR, rfl, rfl, Or.inr ⟨c_171, rfl, hR9⟩⟩, ⟨by rw [ht]; exact hP9, hD9⟩⟩, hS.F ht⟩) hS.2.2 d_MD_flows_260
  · skip
    refine lv_iconst (v := nI 0) hx hb d_MD_flows_174 (by decide +kernel) ?_
    have hP9 := hP.sub (ws' := [(w0, .inr (5, [.ref w1, .ref w2, .int yt, .int te, .ref w3, .ref w4, .ref w5, .int (nI n), .int wb, .ref w6, .ref w7, .ref w8, .int rc, .ref w9, .ref w10, .ref w11, .ref w12, .ref w13, .ref w14, .int fp, .int ft, .int th])), (w1, .inl (cI, 100, .inl sg)), (w2, .inl (cI, 244, .inl gl)), (w3, .inl (cI, 1600, .inl fi)), (w10, .inl (cI, 1600, .inl nu)), (w11, .inl (cI, 120, .inl pl)), (w12, .inl (cI, 480, .inl fw)), (w13, .inl (cI, 120, .inl e9.1)), (w14, .inl (cI, 120, .inl e9.2.1))]) [0, 1, 2, 3, 4, 5, 6, 7, 8] rfl
    have hD9 := hD.sub (ws' := [(w0, .inr (5, [.ref w1, .ref w2, .int yt, .int te, .ref w3, .ref w4, .ref w5, .int (nI n), .int wb, .ref w6, .ref w7, .ref w8, .int rc, .ref w9, .ref w10, .ref w11, .ref w12, .ref w13, .ref w14, .int fp, .int ft, .int th])), (w1, .inl (cI, 100, .inl sg)), (w2, .inl (cI, 244, .inl gl)), (w3, .inl (cI, 1600, .inl fi)), (w10, .inl (cI, 1600, .inl nu)), (w11, .inl (cI, 120, .inl pl)), (w12, .inl (cI, 480, .inl fw)), (w13, .inl (cI, 120, .inl e9.1)), (w14, .inl (cI, 120, .inl e9.2.1))]) [0, 1, 2, 3, 4, 5, 6, 7, 8] (by decide) rfl
    exact W.zret (v := nI 0) hx hb hr (by decide +kernel) (fun t9 ht hW => ⟨⟨_, (e9.1, e9.2.1, fw), rfl, ⟨e9, hR, rfl, rfl, Or.inl ⟨c_171, rfl, rfl⟩⟩, ⟨by rw [ht]; exact hP9, hD9⟩⟩, hS.F ht⟩) hS.2.2 d_MD_flows_175
