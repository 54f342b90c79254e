theorem d_MD_finals_0 : decode c_MD_finals 0 = .ok (.iconst 0, 1) := by decide +kernel
theorem d_MD_finals_1 : decode c_MD_finals 1 = .ok (.istore_n 2, 1) := by decide +kernel
theorem d_MD_finals_2 : decode c_MD_finals 2 = .ok (.iconst 0, 1) := by decide +kernel
theorem d_MD_finals_3 : decode c_MD_finals 3 = .ok (.istore_n 3, 1) := by decide +kernel
theorem d_MD_finals_4 : decode c_MD_finals 4 = .ok (.iload_n 3, 1) := by decide +kernel
theorem d_MD_finals_5 : decode c_MD_finals 5 = .ok (.sipush 1600, 3) := by decide +kernel
theorem d_MD_finals_8 : decode c_MD_finals 8 = .ok (.if_icmp .ge 31, 3) := by decide +kernel
theorem d_MD_finals_11 : decode c_MD_finals 11 = .ok (.iload_n 2, 1) := by decide +kernel
theorem d_MD_finals_12 : decode c_MD_finals 12 = .ok (.aload_n 0, 1) := by decide +kernel
theorem d_MD_finals_13 : decode c_MD_finals 13 = .ok (.getfield 20, 3) := by decide +kernel
theorem d_MD_finals_16 : decode c_MD_finals 16 = .ok (.iload_n 3, 1) := by decide +kernel
theorem d_MD_finals_17 : decode c_MD_finals 17 = .ok (.iaload, 1) := by decide +kernel
theorem d_MD_finals_18 : decode c_MD_finals 18 = .ok (.ifCond .le 12, 3) := by decide +kernel
theorem d_MD_finals_21 : decode c_MD_finals 21 = .ok (.aload_n 0, 1) := by decide +kernel
theorem d_MD_finals_22 : decode c_MD_finals 22 = .ok (.getfield 26, 3) := by decide +kernel
theorem d_MD_finals_25 : decode c_MD_finals 25 = .ok (.iload_n 3, 1) := by decide +kernel
theorem d_MD_finals_26 : decode c_MD_finals 26 = .ok (.iaload, 1) := by decide +kernel
theorem d_MD_finals_27 : decode c_MD_finals 27 = .ok (.goto 4, 3) := by decide +kernel
theorem d_MD_finals_30 : decode c_MD_finals 30 = .ok (.iconst 0, 1) := by decide +kernel
theorem d_MD_finals_31 : decode c_MD_finals 31 = .ok (.iadd, 1) := by decide +kernel
theorem d_MD_finals_32 : decode c_MD_finals 32 = .ok (.istore_n 2, 1) := by decide +kernel
theorem d_MD_finals_33 : decode c_MD_finals 33 = .ok (.iinc 3 1, 3) := by decide +kernel
theorem d_MD_finals_36 : decode c_MD_finals 36 = .ok (.goto (-32), 3) := by decide +kernel
theorem d_MD_finals_39 : decode c_MD_finals 39 = .ok (.aload_n 0, 1) := by decide +kernel
theorem d_MD_finals_40 : decode c_MD_finals 40 = .ok (.iload_n 2, 1) := by decide +kernel
theorem d_MD_finals_41 : decode c_MD_finals 41 = .ok (.ifCond .ne 7, 3) := by decide +kernel
theorem d_MD_finals_44 : decode c_MD_finals 44 = .ok (.iconst 1, 1) := by decide +kernel
theorem d_MD_finals_45 : decode c_MD_finals 45 = .ok (.goto 4, 3) := by decide +kernel
theorem d_MD_finals_48 : decode c_MD_finals 48 = .ok (.iconst 0, 1) := by decide +kernel
theorem d_MD_finals_49 : decode c_MD_finals 49 = .ok (.iconst 1, 1) := by decide +kernel
theorem d_MD_finals_50 : decode c_MD_finals 50 = .ok (.invokevirtual 105, 3) := by decide +kernel
theorem d_MD_finals_53 : decode c_MD_finals 53 = .ok (.ifCond .ne 26, 3) := by decide +kernel
theorem d_MD_finals_56 : decode c_MD_finals 56 = .ok (.aload_n 0, 1) := by decide +kernel
theorem d_MD_finals_57 : decode c_MD_finals 57 = .ok (.iload_n 1, 1) := by decide +kernel
theorem d_MD_finals_58 : decode c_MD_finals 58 = .ok (.iconst 1, 1) := by decide +kernel
theorem d_MD_finals_59 : decode c_MD_finals 59 = .ok (.bipush 30, 2) := by decide +kernel
theorem d_MD_finals_61 : decode c_MD_finals 61 = .ok (.invokestatic 59, 3) := by decide +kernel
theorem d_MD_finals_64 : decode c_MD_finals 64 = .ok (.ifCond .ne 7, 3) := by decide +kernel
theorem d_MD_finals_67 : decode c_MD_finals 67 = .ok (.iconst 1, 1) := by decide +kernel
theorem d_MD_finals_68 : decode c_MD_finals 68 = .ok (.goto 4, 3) := by decide +kernel
theorem d_MD_finals_71 : decode c_MD_finals 71 = .ok (.iconst 0, 1) := by decide +kernel
theorem d_MD_finals_72 : decode c_MD_finals 72 = .ok (.iconst 2, 1) := by decide +kernel
theorem d_MD_finals_73 : decode c_MD_finals 73 = .ok (.invokevirtual 105, 3) := by decide +kernel
theorem d_MD_finals_76 : decode c_MD_finals 76 = .ok (.ifCond .eq 5, 3) := by decide +kernel
theorem d_MD_finals_79 : decode c_MD_finals 79 = .ok (.iconst 0, 1) := by decide +kernel
theorem d_MD_finals_80 : decode c_MD_finals 80 = .ok (.ireturn, 1) := by decide +kernel
theorem d_MD_finals_81 : decode c_MD_finals 81 = .ok (.iload_n 1, 1) := by decide +kernel
theorem d_MD_finals_82 : decode c_MD_finals 82 = .ok (.iload_n 2, 1) := by decide +kernel
theorem d_MD_finals_83 : decode c_MD_finals 83 = .ok (.if_icmp .ge 7, 3) := by decide +kernel
theorem d_MD_finals_86 : decode c_MD_finals 86 = .ok (.iload_n 2, 1) := by decide +kernel
theorem d_MD_finals_87 : decode c_MD_finals 87 = .ok (.goto 4, 3) := by decide +kernel
theorem d_MD_finals_90 : decode c_MD_finals 90 = .ok (.iload_n 1, 1) := by decide +kernel
theorem d_MD_finals_91 : decode c_MD_finals 91 = .ok (.istore_n 3, 1) := by decide +kernel
theorem d_MD_finals_92 : decode c_MD_finals 92 = .ok (.aload_n 0, 1) := by decide +kernel
theorem d_MD_finals_93 : decode c_MD_finals 93 = .ok (.iconst 1, 1) := by decide +kernel
theorem d_MD_finals_94 : decode c_MD_finals 94 = .ok (.putfield 142, 3) := by decide +kernel
theorem d_MD_finals_97 : decode c_MD_finals 97 = .ok (.aload_n 0, 1) := by decide +kernel
theorem d_MD_finals_98 : decode c_MD_finals 98 = .ok (.getfield 35, 3) := by decide +kernel
theorem d_MD_finals_101 : decode c_MD_finals 101 = .ok (.iconst 0, 1) := by decide +kernel
theorem d_MD_finals_102 : decode c_MD_finals 102 = .ok (.iconst 0, 1) := by decide +kernel
theorem d_MD_finals_103 : decode c_MD_finals 103 = .ok (.iastore, 1) := by decide +kernel
theorem d_MD_finals_104 : decode c_MD_finals 104 = .ok (.iconst 0, 1) := by decide +kernel
theorem d_MD_finals_105 : decode c_MD_finals 105 = .ok (.istore 4, 2) := by decide +kernel
theorem d_MD_finals_107 : decode c_MD_finals 107 = .ok (.iconst 0, 1) := by decide +kernel
theorem d_MD_finals_108 : decode c_MD_finals 108 = .ok (.istore 5, 2) := by decide +kernel
theorem d_MD_finals_110 : decode c_MD_finals 110 = .ok (.iload 5, 2) := by decide +kernel
theorem d_MD_finals_112 : decode c_MD_finals 112 = .ok (.aload_n 0, 1) := by decide +kernel
theorem d_MD_finals_113 : decode c_MD_finals 113 = .ok (.getfield 142, 3) := by decide +kernel
theorem d_MD_finals_116 : decode c_MD_finals 116 = .ok (.if_icmp .ge 118, 3) := by decide +kernel
theorem d_MD_finals_119 : decode c_MD_finals 119 = .ok (.aload_n 0, 1) := by decide +kernel
theorem d_MD_finals_120 : decode c_MD_finals 120 = .ok (.iload 5, 2) := by decide +kernel
theorem d_MD_finals_122 : decode c_MD_finals 122 = .ok (.invokevirtual 145, 3) := by decide +kernel
theorem d_MD_finals_125 : decode c_MD_finals 125 = .ok (.aload_n 0, 1) := by decide +kernel
theorem d_MD_finals_126 : decode c_MD_finals 126 = .ok (.aload_n 0, 1) := by decide +kernel
theorem d_MD_finals_127 : decode c_MD_finals 127 = .ok (.getfield 29, 3) := by decide +kernel
theorem d_MD_finals_130 : decode c_MD_finals 130 = .ok (.iconst (-1), 1) := by decide +kernel
theorem d_MD_finals_131 : decode c_MD_finals 131 = .ok (.invokevirtual 128, 3) := by decide +kernel
theorem d_MD_finals_134 : decode c_MD_finals 134 = .ok (.istore 6, 2) := by decide +kernel
theorem d_MD_finals_136 : decode c_MD_finals 136 = .ok (.iload 4, 2) := by decide +kernel
theorem d_MD_finals_138 : decode c_MD_finals 138 = .ok (.iload 6, 2) := by decide +kernel
theorem d_MD_finals_140 : decode c_MD_finals 140 = .ok (.ifCond .ne 7, 3) := by decide +kernel
theorem d_MD_finals_143 : decode c_MD_finals 143 = .ok (.iconst 1, 1) := by decide +kernel
theorem d_MD_finals_144 : decode c_MD_finals 144 = .ok (.goto 4, 3) := by decide +kernel
theorem d_MD_finals_147 : decode c_MD_finals 147 = .ok (.iconst 0, 1) := by decide +kernel
theorem d_MD_finals_148 : decode c_MD_finals 148 = .ok (.iadd, 1) := by decide +kernel
theorem d_MD_finals_149 : decode c_MD_finals 149 = .ok (.istore 4, 2) := by decide +kernel
theorem d_MD_finals_151 : decode c_MD_finals 151 = .ok (.iload 6, 2) := by decide +kernel
theorem d_MD_finals_153 : decode c_MD_finals 153 = .ok (.ifCond .le 18, 3) := by decide +kernel
theorem d_MD_finals_156 : decode c_MD_finals 156 = .ok (.iload_n 2, 1) := by decide +kernel
theorem d_MD_finals_157 : decode c_MD_finals 157 = .ok (.aload_n 0, 1) := by decide +kernel
theorem d_MD_finals_158 : decode c_MD_finals 158 = .ok (.getfield 35, 3) := by decide +kernel
theorem d_MD_finals_161 : decode c_MD_finals 161 = .ok (.iload 5, 2) := by decide +kernel
theorem d_MD_finals_163 : decode c_MD_finals 163 = .ok (.iaload, 1) := by decide +kernel
theorem d_MD_finals_164 : decode c_MD_finals 164 = .ok (.iadd, 1) := by decide +kernel
theorem d_MD_finals_165 : decode c_MD_finals 165 = .ok (.iload_n 3, 1) := by decide +kernel
theorem d_MD_finals_166 : decode c_MD_finals 166 = .ok (.if_icmp .ne 5, 3) := by decide +kernel
theorem d_MD_finals_169 : decode c_MD_finals 169 = .ok (.iconst (-1), 1) := by decide +kernel
theorem d_MD_finals_170 : decode c_MD_finals 170 = .ok (.ireturn, 1) := by decide +kernel
theorem d_MD_finals_171 : decode c_MD_finals 171 = .ok (.iconst 0, 1) := by decide +kernel
theorem d_MD_finals_172 : decode c_MD_finals 172 = .ok (.istore 7, 2) := by decide +kernel
theorem d_MD_finals_174 : decode c_MD_finals 174 = .ok (.iload 7, 2) := by decide +kernel
theorem d_MD_finals_176 : decode c_MD_finals 176 = .ok (.iload 6, 2) := by decide +kernel
theorem d_MD_finals_178 : decode c_MD_finals 178 = .ok (.if_icmp .ge 50, 3) := by decide +kernel
theorem d_MD_finals_181 : decode c_MD_finals 181 = .ok (.aload_n 0, 1) := by decide +kernel
theorem d_MD_finals_182 : decode c_MD_finals 182 = .ok (.aload_n 0, 1) := by decide +kernel
theorem d_MD_finals_183 : decode c_MD_finals 183 = .ok (.getfield 29, 3) := by decide +kernel
theorem d_MD_finals_186 : decode c_MD_finals 186 = .ok (.iload 7, 2) := by decide +kernel
theorem d_MD_finals_188 : decode c_MD_finals 188 = .ok (.invokevirtual 128, 3) := by decide +kernel
theorem d_MD_finals_191 : decode c_MD_finals 191 = .ok (.pop, 1) := by decide +kernel
theorem d_MD_finals_192 : decode c_MD_finals 192 = .ok (.aload_n 0, 1) := by decide +kernel
theorem d_MD_finals_193 : decode c_MD_finals 193 = .ok (.iload 5, 2) := by decide +kernel
theorem d_MD_finals_195 : decode c_MD_finals 195 = .ok (.bipush 64, 2) := by decide +kernel
theorem d_MD_finals_197 : decode c_MD_finals 197 = .ok (.aload_n 0, 1) := by decide +kernel
theorem d_MD_finals_198 : decode c_MD_finals 198 = .ok (.getfield 92, 3) := by decide +kernel
theorem d_MD_finals_201 : decode c_MD_finals 201 = .ok (.imul, 1) := by decide +kernel
theorem d_MD_finals_202 : decode c_MD_finals 202 = .ok (.aload_n 0, 1) := by decide +kernel
theorem d_MD_finals_203 : decode c_MD_finals 203 = .ok (.getfield 95, 3) := by decide +kernel
theorem d_MD_finals_206 : decode c_MD_finals 206 = .ok (.iadd, 1) := by decide +kernel
theorem d_MD_finals_207 : decode c_MD_finals 207 = .ok (.invokevirtual 149, 3) := by decide +kernel
theorem d_MD_finals_210 : decode c_MD_finals 210 = .ok (.aload_n 0, 1) := by decide +kernel
theorem d_MD_finals_211 : decode c_MD_finals 211 = .ok (.getfield 142, 3) := by decide +kernel
theorem d_MD_finals_214 : decode c_MD_finals 214 = .ok (.sipush 500, 3) := by decide +kernel
theorem d_MD_finals_217 : decode c_MD_finals 217 = .ok (.if_icmp .le 5, 3) := by decide +kernel
theorem d_MD_finals_220 : decode c_MD_finals 220 = .ok (.iconst (-1), 1) := by decide +kernel
theorem d_MD_finals_221 : decode c_MD_finals 221 = .ok (.ireturn, 1) := by decide +kernel
theorem d_MD_finals_222 : decode c_MD_finals 222 = .ok (.iinc 7 1, 3) := by decide +kernel
theorem d_MD_finals_225 : decode c_MD_finals 225 = .ok (.goto (-51), 3) := by decide +kernel
theorem d_MD_finals_228 : decode c_MD_finals 228 = .ok (.iinc 5 1, 3) := by decide +kernel
theorem d_MD_finals_231 : decode c_MD_finals 231 = .ok (.goto (-121), 3) := by decide +kernel
theorem d_MD_finals_234 : decode c_MD_finals 234 = .ok (.iload 4, 2) := by decide +kernel
theorem d_MD_finals_236 : decode c_MD_finals 236 = .ok (.ireturn, 1) := by decide +kernel
def insL (c : Nat) : List Nat → List Nat
  | [] => [c]
  | v :: l => if c < v then c :: v :: l else v :: insL c l
theorem insL_le {c : Nat} : ∀ {l m : List Nat}, (∀ v, v ∈ l → ¬ c < v) → insL c (l ++ m) = l ++ insL c m
  | [], _, _ => rfl
  | v :: l, m, h => by
    rw [List.cons_append, insL, if_neg (h v List.mem_cons_self), insL_le (fun u hu => h u (List.mem_cons_of_mem _ hu)), List.cons_append]
theorem insL_gt {c : Nat} : ∀ {l m : List Nat}, (∃ v, v ∈ l ∧ c < v) → insL c (l ++ m) = insL c l ++ m
  | [], _, ⟨v, h, _⟩ => by cases h
  | v :: l, m, ⟨u, hu, hc⟩ => by
    rw [List.cons_append, insL, insL]
    by_cases d : c < v
    · rw [if_pos d, if_pos d]; rfl
    · rw [if_neg d, if_neg d, insL_gt (l := l) (m := m), List.cons_append]
      rcases List.mem_cons.mp hu with e | e
      · rw [e] at hc; exact absurd hc d
      · exact ⟨u, e, hc⟩
theorem insL_len (c : Nat) : ∀ l : List Nat, (insL c l).length = l.length + 1
  | [] => rfl
  | v :: l => by
    rw [insL]
    split
    · rfl
    · rw [List.length_cons, insL_len c l, List.length_cons]
theorem insL_mem {c x : Nat} : ∀ {l : List Nat}, x ∈ insL c l ↔ x = c ∨ x ∈ l
  | [] => by rw [insL, List.mem_singleton]; exact ⟨Or.inl, fun h => h.elim id (fun q => by cases q)⟩
  | v :: l => by
    rw [insL]
    split
    · exact List.mem_cons
    · rw [List.mem_cons, insL_mem (l := l), List.mem_cons]
      constructor
      · rintro (h | h | h)
        · exact Or.inr (Or.inl h)
        · exact Or.inl h
        · exact Or.inr (Or.inr h)
      · rintro (h | h | h)
        · exact Or.inr (Or.inl h)
        · exact Or.inl h
        · exact Or.inr (Or.inr h)
def lsA (f : Nat → Int32) (b : Nat) : Nat → List Nat
  | 0 => []
  | n + 1 => lsA f b n ++ [nn (f (b + n))]
theorem lsA_len (f : Nat → Int32) (b : Nat) : ∀ n, (lsA f b n).length = n
  | 0 => rfl
  | n + 1 => by rw [lsA, List.length_append, lsA_len f b n]; rfl
theorem lsA_same {f g : Nat → Int32} {b c : Nat} : ∀ {n}, (∀ k, k < n → f (b + k) = g (c + k)) → lsA f b n = lsA g c n
  | 0, _ => rfl
  | n + 1, h => by rw [lsA, lsA, lsA_same (fun k hk => h k (by omega)), h n (by omega)]
theorem lsA_mem {f : Nat → Int32} {b x : Nat} : ∀ {n}, x ∈ lsA f b n ↔ ∃ k, k < n ∧ x = nn (f (b + k))
  | 0 => ⟨fun h => (by cases h), fun ⟨k, h, _⟩ => absurd h (Nat.not_lt_zero k)⟩
  | n + 1 => by
    rw [lsA, List.mem_append, lsA_mem, List.mem_singleton]
    constructor
    · rintro (⟨k, h1, h2⟩ | h)
      · exact ⟨k, by omega, h2⟩
      · exact ⟨n, by omega, h⟩
    · rintro ⟨k, h1, h2⟩
      rcases Nat.lt_succ_iff_lt_or_eq.mp h1 with d | d
      · exact Or.inl ⟨k, d, h2⟩
      · subst d; exact Or.inr h2
theorem apL_ok {ro fr : Nat → Int32} {b tl : Nat} (htl : tl < 2 ^ 31) : ∀ k, ((apL ro b tl fr k).2 = k ∧ lsA (apL ro b tl fr k).1 0 k = lsA ro b k ∧ ∀ v, v ∈ lsA ro b k → ¬ tl < v) ∨ ((apL ro b tl fr k).2 = k + 1 ∧ lsA (apL ro b tl fr k).1 0 (k + 1) = insL tl (lsA ro b k) ∧ ∃ v, v ∈ lsA ro b k ∧ tl < v)
  | 0 => Or.inl ⟨rfl, rfl, fun v h => by cases h⟩
  | k + 1 => by
    have ih := apL_ok (ro := ro) (fr := fr) (b := b) htl k
    have hv : nn (nI (nn (ro (b + k)))) = nn (ro (b + k)) := nn_nI (by
      have := (ro (b + k)).toInt_lt
      have h2 : nn (ro (b + k)) = (ro (b + k)).toInt.toNat := rfl
      omega)
    rw [apL]
    generalize apL ro b tl fr k = z at ih
    unfold apS
    rcases ih with ⟨h1, h2, h3⟩ | ⟨h1, h2, h3⟩
    · by_cases c : tl < nn (ro (b + k))
      · rw [if_pos ⟨c, h1⟩]
        refine Or.inr ⟨by show z.2 + 2 = k + 1 + 1; omega, ?_, nn (ro (b + k)), by rw [lsA, List.mem_append]; exact Or.inr (List.mem_singleton.mpr rfl), c⟩
        show lsA (upd (upd z.1 z.2 (nI tl)) (z.2 + 1) (nI (nn (ro (b + k))))) 0 (k + 1 + 1) = _
        rw [lsA, lsA, lsA_same (g := z.1) (c := 0) (fun j hj => by rw [pk_un (by omega), pk_un (by omega)]), h2, Nat.zero_add, Nat.zero_add, h1, pk_un (by omega), pk_us, pk_us, hv, nn_nI htl, lsA, insL_le h3, insL, if_pos c, List.append_assoc]
        rfl
      · rw [if_neg (fun q => c q.1)]
        refine Or.inl ⟨by show z.2 + 1 = k + 1; omega, ?_, fun v h => ?_⟩
        · show lsA (upd z.1 z.2 (nI (nn (ro (b + k))))) 0 (k + 1) = _
          rw [lsA, lsA_same (g := z.1) (c := 0) (fun j hj => by rw [pk_un (by omega)]), h2, Nat.zero_add, h1, pk_us, hv, lsA]
        · rw [lsA, List.mem_append] at h
          rcases h with h | h
          · exact h3 v h
          · rw [List.mem_singleton.mp h]; exact c
    · rw [if_neg (fun q => by omega)]
      refine Or.inr ⟨by show z.2 + 1 = k + 1 + 1; omega, ?_, ?_⟩
      · show lsA (upd z.1 z.2 (nI (nn (ro (b + k))))) 0 (k + 1 + 1) = _
        rw [lsA, lsA_same (g := z.1) (c := 0) (fun j hj => by rw [pk_un (by omega)]), h2, Nat.zero_add, h1, pk_us, hv, lsA, insL_gt h3]
      · obtain ⟨v, g1, g2⟩ := h3
        exact ⟨v, by rw [lsA, List.mem_append]; exact Or.inl g1, g2⟩
theorem apF_list {ro fr : Nat → Int32} {b tl s : Nat} (htl : tl < 2 ^ 31) : lsA (apF ro b tl fr s) 0 (s + 1) = insL tl (lsA ro b s) := by
  unfold apF
  rcases apL_ok (ro := ro) (fr := fr) (b := b) htl s with ⟨h1, h2, h3⟩ | ⟨h1, h2, h3⟩
  · rw [if_pos (by omega), lsA, lsA_same (g := (apL ro b tl fr s).1) (c := 0) (fun j hj => by rw [pk_un (by omega)]), h2, Nat.zero_add, h1, pk_us, nn_nI htl]
    have := insL_le (m := []) h3
    rw [List.append_nil] at this
    rw [this]
    rfl
  · rw [if_neg (by omega)]
    exact h2
theorem apL_nat {ro fr : Nat → Int32} {b tl : Nat} (htl : tl < 2 ^ 31) : ∀ k j, j < (apL ro b tl fr k).2 → (apL ro b tl fr k).1 j = nI (nn ((apL ro b tl fr k).1 j))
  | 0, j, h => absurd h (Nat.not_lt_zero j)
  | k + 1, j, h => by
    have ih := apL_nat (ro := ro) (fr := fr) (b := b) htl k
    have hv : nn (nI (nn (ro (b + k)))) = nn (ro (b + k)) := nn_nI (by
      have := (ro (b + k)).toInt_lt
      have h2 : nn (ro (b + k)) = (ro (b + k)).toInt.toNat := rfl
      omega)
    rw [apL] at h ⊢
    generalize apL ro b tl fr k = z at ih h ⊢
    unfold apS at h ⊢
    by_cases c : tl < nn (ro (b + k)) ∧ z.2 = k
    · rw [if_pos c] at h ⊢
      have h : j < z.2 + 2 := h
      show upd (upd z.1 z.2 (nI tl)) (z.2 + 1) (nI (nn (ro (b + k)))) j = nI (nn (upd (upd z.1 z.2 (nI tl)) (z.2 + 1) (nI (nn (ro (b + k)))) j))
      by_cases e : j = z.2 + 1
      · rw [e, pk_us, hv]
      · rw [pk_un e]
        by_cases e2 : j = z.2
        · rw [e2, pk_us, nn_nI htl]
        · rw [pk_un e2]; exact ih j (by omega)
    · rw [if_neg c] at h ⊢
      have h : j < z.2 + 1 := h
      show upd z.1 z.2 (nI (nn (ro (b + k)))) j = nI (nn (upd z.1 z.2 (nI (nn (ro (b + k)))) j))
      by_cases e2 : j = z.2
      · rw [e2, pk_us, hv]
      · rw [pk_un e2]; exact ih j (by omega)
theorem apF_nat {ro fr : Nat → Int32} {b tl s : Nat} (htl : tl < 2 ^ 31) {j : Nat} (hj : j < s + 1) : apF ro b tl fr s j = nI (nn (apF ro b tl fr s j)) := by
  unfold apF
  have hn := apL_nat (ro := ro) (fr := fr) (b := b) htl s
  rcases apL_ok (ro := ro) (fr := fr) (b := b) htl s with ⟨h1, -⟩ | ⟨h1, -⟩
  · rw [if_pos (by omega)]
    by_cases e : j = (apL ro b tl fr s).2
    · rw [e, pk_us, nn_nI htl]
    · rw [pk_un e]; exact hn j (by omega)
  · rw [if_neg (by omega)]
    exact hn j (by omega)
def okRo (ro si : Nat → Int32) (rc mx : Nat) : Prop := ∀ r, r < rc → okRw ro si r ∧ nn (si r) ≤ mx ∧ ∀ k, k < nn (si r) → nn (ro (30 * r + k)) % 64 ≤ 60
noncomputable def apV (ro si fr : Nat → Int32) (n rc : Nat) : RW := @ite RW (∃ r, r < rc ∧ eqR ro si fr n r) (Classical.propDecidable _) (ro, si, fr, rc) (if rc < 500 then (cpL ro fr (30 * rc) n, upd si rc (nI n), fr, rc + 1) else (ro, si, fr, rc + 1))
theorem apR_V {ro si fr : Nat → Int32} {n rc : Nat} {u : RW} (h : apR ro si fr n rc u) : u = apV ro si fr n rc := by
  unfold apV
  rcases h with ⟨h1, h2⟩ | ⟨h1, h2⟩
  · rw [if_pos h1, h2]
  · rw [if_neg (fun ⟨r, q1, q2⟩ => h1 r q1 q2), h2]
theorem apV_ok {ro si fr : Nat → Int32} {rr tl rc mx : Nat} (hR : okRo ro si rc mx) (hr : rr < rc) (hm : nn (si rr) < mx) (hmx : mx ≤ 29) (hrc : rc ≤ 500) (htl : tl / 64 < 1600) (ht6 : tl % 64 ≤ 60) (hV : ¬ 500 < (apV ro si (apF ro (30 * rr) tl fr (nn (si rr))) (nn (si rr) + 1) rc).2.2.2) :
    okRo (apV ro si (apF ro (30 * rr) tl fr (nn (si rr))) (nn (si rr) + 1) rc).1 (apV ro si (apF ro (30 * rr) tl fr (nn (si rr))) (nn (si rr) + 1) rc).2.1 (apV ro si (apF ro (30 * rr) tl fr (nn (si rr))) (nn (si rr) + 1) rc).2.2.2 mx ∧ rc ≤ (apV ro si (apF ro (30 * rr) tl fr (nn (si rr))) (nn (si rr) + 1) rc).2.2.2 ∧ (∀ r, r < rc → (apV ro si (apF ro (30 * rr) tl fr (nn (si rr))) (nn (si rr) + 1) rc).2.1 r = si r ∧ ∀ k, k < 30 → (apV ro si (apF ro (30 * rr) tl fr (nn (si rr))) (nn (si rr) + 1) rc).1 (30 * r + k) = ro (30 * r + k)) := by
  have htl2 : tl < 2 ^ 31 := by omega
  have hl := apF_list (ro := ro) (fr := fr) (b := 30 * rr) (s := nn (si rr)) htl2
  have hn := fun j (hj : j < nn (si rr) + 1) => apF_nat (ro := ro) (fr := fr) (b := 30 * rr) (s := nn (si rr)) htl2 hj
  have hrow := hR rr hr
  have hx : ∀ j, j < nn (si rr) + 1 → nn (apF ro (30 * rr) tl fr (nn (si rr)) j) / 64 < 1600 ∧ nn (apF ro (30 * rr) tl fr (nn (si rr)) j) % 64 ≤ 60 := by
    intro j hj
    have hm : nn (apF ro (30 * rr) tl fr (nn (si rr)) j) ∈ insL tl (lsA ro (30 * rr) (nn (si rr))) := by
      rw [← hl, lsA_mem]
      exact ⟨j, hj, by rw [Nat.zero_add]⟩
    rcases insL_mem.mp hm with e | e
    · rw [e]; exact ⟨htl, ht6⟩
    · obtain ⟨k, h1, h2⟩ := lsA_mem.mp e
      rw [h2]
      exact ⟨(hrow.1.2.2 k h1).2, hrow.2.2 k h1⟩
  generalize hg : apF ro (30 * rr) tl fr (nn (si rr)) = g at hV hn hx ⊢
  unfold apV at hV ⊢
  by_cases c : ∃ r, r < rc ∧ eqR ro si g (nn (si rr) + 1) r
  · rw [if_pos c]
    exact ⟨hR, Nat.le_refl _, fun r _ => ⟨rfl, fun k _ => rfl⟩⟩
  · rw [if_neg c] at hV ⊢
    by_cases d : rc < 500
    · rw [if_pos d]
      have same : ∀ r, r < rc → upd si rc (nI (nn (si rr) + 1)) r = si r ∧ ∀ k, k < 30 → cpL ro g (30 * rc) (nn (si rr) + 1) (30 * r + k) = ro (30 * r + k) := by
        intro r hr
        refine ⟨pk_un (by omega), fun k hk => ?_⟩
        unfold cpL
        rw [if_neg (by omega)]
      refine ⟨fun r hr2 => ?_, Nat.le_succ _, same⟩
      show okRw (cpL ro g (30 * rc) (nn (si rr) + 1)) (upd si rc (nI (nn (si rr) + 1))) r ∧ nn (upd si rc (nI (nn (si rr) + 1)) r) ≤ mx ∧ ∀ k, k < nn (upd si rc (nI (nn (si rr) + 1)) r) → nn (cpL ro g (30 * rc) (nn (si rr) + 1) (30 * r + k)) % 64 ≤ 60
      have hr2 : r < rc + 1 := hr2
      rcases Nat.lt_succ_iff_lt_or_eq.mp hr2 with e | e
      · obtain ⟨s1, s2⟩ := same r e
        obtain ⟨r1, r2, r3⟩ := hR r e
        unfold okRw
        rw [s1]
        refine ⟨⟨r1.1, r1.2.1, fun k hk => ?_⟩, r2, fun k hk => ?_⟩
        · rw [s2 k (by omega)]; exact r1.2.2 k hk
        · rw [s2 k (by omega)]; exact r3 k hk
      · subst e
        unfold okRw
        rw [pk_us, nn_nI (by omega)]
        have cp : ∀ k, k < nn (si rr) + 1 → cpL ro g (30 * r) (nn (si rr) + 1) (30 * r + k) = g k := by
          intro k hk
          unfold cpL
          rw [if_pos (by omega), show 30 * r + k - 30 * r = k by omega]
        refine ⟨⟨rfl, by omega, fun k hk => ?_⟩, by omega, fun k hk => ?_⟩
        · rw [cp k hk]; exact ⟨hn k hk, (hx k hk).1⟩
        · rw [cp k hk]; exact (hx k hk).2
    · exfalso
      rw [if_neg d] at hV
      have hV : ¬ 500 < rc + 1 := hV
      omega
theorem shR_ok {ro : Nat → Int32} {b : Nat} {f : Nat → Int32} (hf : okFi f) : ∀ n, (∀ k, k < n → nn (ro (b + k)) % 64 ≤ 60) → okFi (shR ro b f n)
  | 0, _ => hf
  | n + 1, h => by
    rw [shR]
    exact okFi_upd (shR_ok hf n (fun k hk => h k (by omega))) _ (h n (by omega))
theorem shL_ok {fi se ot : Nat → Int32} (hf : okFi fi) : okFi (shL fi se ot 1600) := by
  intro i hi
  have z : nI 0 = nI (nn (nI 0)) ∧ nn (nI 0) ≤ 60 := by rw [nn_nI (by decide)]; exact ⟨rfl, by decide⟩
  rw [show shL fi se ot 1600 i = shV fi se i from if_pos hi]
  unfold shV
  split
  · exact z
  · split
    · exact hf i hi
    · exact z
def plN' (fi se : Nat → Int32) : Nat → Nat
  | 0 => 0
  | p + 1 => plN' fi se p + (if fi p ≤ 0 then 0 else nn (se p))
theorem plN_le {fi se : Nat → Int32} (hfi : okFi fi) (hse : ∀ p, p < 1600 → fi p ≠ 0 → se p = nI (nn (se p)) ∧ nn (se p) ≤ 1) : ∀ p, p ≤ 1600 → plN' fi se p ≤ p
  | 0, _ => Nat.le_refl _
  | p + 1, h => by
    have := plN_le hfi hse p (by omega)
    rw [plN']
    split
    · omega
    · rename_i c
      have := (hse p (by omega) (fun q => c (by rw [q]; decide))).2
      omega
abbrev FZ : Type := RW × (Nat → Int32) × Int32 × Int32 × Nat
noncomputable def fnI (sg gl : Nat → Int32) (te : Int32) (y rr i : Nat) (z : FZ) : Option Nat × FZ :=
  if 500 < (apV z.1.1 z.1.2.1 (apF z.1.1 (30 * rr) (64 * nn (fdV sg gl z.2.1 te (nI i) y z.2.2.1 z.2.2.2.1).2.2.1 + nn (fdV sg gl z.2.1 te (nI i) y z.2.2.1 z.2.2.2.1).2.2.2) z.1.2.2.1 (nn (z.1.2.1 rr))) (nn (z.1.2.1 rr) + 1) z.1.2.2.2).2.2.2
  then (some 0, (apV z.1.1 z.1.2.1 (apF z.1.1 (30 * rr) (64 * nn (fdV sg gl z.2.1 te (nI i) y z.2.2.1 z.2.2.2.1).2.2.1 + nn (fdV sg gl z.2.1 te (nI i) y z.2.2.1 z.2.2.2.1).2.2.2) z.1.2.2.1 (nn (z.1.2.1 rr))) (nn (z.1.2.1 rr) + 1) z.1.2.2.2, z.2.1, (fdV sg gl z.2.1 te (nI i) y z.2.2.1 z.2.2.2.1).2.2.1, (fdV sg gl z.2.1 te (nI i) y z.2.2.1 z.2.2.2.1).2.2.2, z.2.2.2.2))
  else (none, (apV z.1.1 z.1.2.1 (apF z.1.1 (30 * rr) (64 * nn (fdV sg gl z.2.1 te (nI i) y z.2.2.1 z.2.2.2.1).2.2.1 + nn (fdV sg gl z.2.1 te (nI i) y z.2.2.1 z.2.2.2.1).2.2.2) z.1.2.2.1 (nn (z.1.2.1 rr))) (nn (z.1.2.1 rr) + 1) z.1.2.2.2, z.2.1, (fdV sg gl z.2.1 te (nI i) y z.2.2.1 z.2.2.2.1).2.2.1, (fdV sg gl z.2.1 te (nI i) y z.2.2.1 z.2.2.2.1).2.2.2, z.2.2.2.2))
theorem fnI_eq {sg gl : Nat → Int32} {te : Int32} {y rr i : Nat} {z : FZ} {o : Option Nat} {u : FN} {p t : Nat} (h : (o, u) = fdV sg gl z.2.1 te (nI i) y z.2.2.1 z.2.2.2.1) (hp : p < 1600) (ht : t ≤ 60) (h1 : u.2.1 = nI p) (h2 : u.2.2 = nI t) :
    fnI sg gl te y rr i z = (if 500 < (apV z.1.1 z.1.2.1 (apF z.1.1 (30 * rr) (64 * p + t) z.1.2.2.1 (nn (z.1.2.1 rr))) (nn (z.1.2.1 rr) + 1) z.1.2.2.2).2.2.2 then some 0 else none, (apV z.1.1 z.1.2.1 (apF z.1.1 (30 * rr) (64 * p + t) z.1.2.2.1 (nn (z.1.2.1 rr))) (nn (z.1.2.1 rr) + 1) z.1.2.2.2, z.2.1, nI p, nI t, z.2.2.2.2)) := by
  unfold fnI
  rw [← h]
  dsimp only
  rw [h1, h2, nn_nI (show p < 2 ^ 31 by omega), nn_nI (show t < 2 ^ 31 by omega)]
  split <;> rfl
def shZ (fi se : Nat → Int32) (rr : Nat) (z : FZ) : Nat → Int32 := shR z.1.1 (30 * rr) (shL fi se z.2.1 1600) (nn (z.1.2.1 rr))
noncomputable def fnB (sg gl fi se : Nat → Int32) (te : Int32) (y pn mo rr : Nat) (z : FZ) : Option Nat × FZ :=
  if rr < z.1.2.2.2 then
    (if (fdV sg gl (shZ fi se rr z) te (-1) y z.2.2.1 z.2.2.2.1).2.1 ≠ 0 ∧ pn + nn (z.1.2.1 rr) = mo
     then (some 0, (z.1, shZ fi se rr z, (fdV sg gl (shZ fi se rr z) te (-1) y z.2.2.1 z.2.2.2.1).2.2.1, (fdV sg gl (shZ fi se rr z) te (-1) y z.2.2.1 z.2.2.2.1).2.2.2, z.2.2.2.2))
     else itX (fnI sg gl te y rr) (fdV sg gl (shZ fi se rr z) te (-1) y z.2.2.1 z.2.2.2.1).2.1 0 (z.1, shZ fi se rr z, (fdV sg gl (shZ fi se rr z) te (-1) y z.2.2.1 z.2.2.2.1).2.2.1, (fdV sg gl (shZ fi se rr z) te (-1) y z.2.2.1 z.2.2.2.1).2.2.2, z.2.2.2.2 + (if (fdV sg gl (shZ fi se rr z) te (-1) y z.2.2.1 z.2.2.2.1).2.1 = 0 then 1 else 0)))
  else (none, z)
theorem fnB_end {sg gl fi se : Nat → Int32} {te : Int32} {y pn mo : Nat} {z : FZ} : ∀ (n rr : Nat), z.1.2.2.2 ≤ rr → itX (fnB sg gl fi se te y pn mo) n rr z = (none, z)
  | 0, _, _ => rfl
  | n + 1, rr, h => by
    rw [itX_go (s' := z) (by omega) (by unfold fnB; exact if_neg (by omega))]
    exact fnB_end n (rr + 1) (by omega)
theorem apV_rc {ro si fr : Nat → Int32} {n rc : Nat} : (apV ro si fr n rc).2.2.2 ≤ rc + 1 := by
  unfold apV
  by_cases c : ∃ r, r < rc ∧ eqR ro si fr n r
  · rw [if_pos c]; exact Nat.le_succ _
  · rw [if_neg c]
    split <;> exact Nat.le_refl _
theorem okRo_init (ro si : Nat → Int32) (mx : Nat) : okRo ro (upd si 0 (nI 0)) 1 mx := by
  intro r hr
  have e : r = 0 := by omega
  subst e
  unfold okRw
  rw [pk_us, nn_nI (by decide)]
  exact ⟨⟨rfl, by decide, fun k hk => absurd hk (Nat.not_lt_zero k)⟩, Nat.zero_le _, fun k hk => absurd hk (Nat.not_lt_zero k)⟩
def moN (l p : Nat) : Nat := if l < p then p else l
set_option maxHeartbeats 4000000 in
set_option maxRecDepth 100000 in
theorem lp_k_MD_finals_4 {p : Program} {l : Launch} {e : Env} {s : State} {m : MethodId} {args : Array Value} {below : List Frame} {meth : Method} {c : Code} {D : va_G} {cI cJ : ClassId} {Q : State → Prop} {A : Nat → Prop} (w0 : Nat) (w1 : Nat) (w2 : Nat) (w3 : Nat) (w4 : Nat) (w5 : Nat) (w6 : Nat) (w7 : Nat) (w8 : Nat) (w9 : Nat) (w10 : Nat) (w11 : Nat) (w12 : Nat) (w13 : Nat) (w14 : Nat) (y : Nat) (te : Int32) (nt : Int32) (wb : Int32) (rc : Int32) (fp : Int32) (ft : Int32) (th : Int32) (sg : Nat → Int32) (gl : Nat → Int32) (fi : Nat → Int32) (se : Nat → Int32) (ot : Nat → Int32) (ro : Nat → Int32) (si : Nat → Int32) (fr : Nat → Int32) (x : Int32) (hy : y ≤ 60) (hfi : okFi fi) (hgl : okGl gl) (hse : ∀ p, p < 1600 → fi p ≠ 0 → se p = nI (nn (se p)) ∧ nn (se p) ≤ 1)  (hx : p.tables.exec = Jvm.exec) (hb : c.code = c_MD_finals) (hml : c.maxLocals = 8) (hown : s.vm.findClass R_MD = some m.cls) (hw : ∀ w ∈ gw, w.before args s = true) (hE : En D cI cJ s) (hX : Sx A s s.heap) (hA : ∀ q : Nat, s.heap.size ≤ q → A q)
    (kx0 : ∀ (a9 : Nat), (a9 = plN' fi se 1600) → ∀ (H : Heap) (locs : List Loc) (ls : Array Slot), va_P D vwCl [(w0, .inr (5, [.ref w1, .ref w2, .int (nI y), .int te, .ref w3, .ref w4, .ref w5, .int nt, .int wb, .ref w6, .ref w7, .ref w8, .int rc, .ref w9, .ref w10, .ref w11, .ref w12, .ref w13, .ref w14, .int fp, .int ft, .int th])), (w1, .inl (cI, 100, .inl sg)), (w2, .inl (cI, 244, .inl gl)), (w3, .inl (cI, 1600, .inl fi)), (w5, .inl (cI, 1600, .inl se)), (w6, .inl (cI, 1600, .inl ot)), (w7, .inl (cI, 15030, .inl ro)), (w8, .inl (cI, 501, .inl si)), (w9, .inl (cI, 30, .inl fr))] H → va_D A [(w0, .inr (5, [.ref w1, .ref w2, .int (nI y), .int te, .ref w3, .ref w4, .ref w5, .int nt, .int wb, .ref w6, .ref w7, .ref w8, .int rc, .ref w9, .ref w10, .ref w11, .ref w12, .ref w13, .ref w14, .int fp, .int ft, .int th])), (w1, .inl (cI, 100, .inl sg)), (w2, .inl (cI, 244, .inl gl)), (w3, .inl (cI, 1600, .inl fi)), (w5, .inl (cI, 1600, .inl se)), (w6, .inl (cI, 1600, .inl ot)), (w7, .inl (cI, 15030, .inl ro)), (w8, .inl (cI, 501, .inl si)), (w9, .inl (cI, 30, .inl fr))] → va_S A s.heap H locs → lv_has ls 8 [(0, .ref w0), (1, .int x), (2, .int (nI a9))] → W p l e ({ frames := 7, cells := 0, slots := 0, locals := 166 } : Room) s m args below meth c H locs 0 0 Q (F0 m 39 ls [])) :
    ∀ (fu : Nat) (pp : Nat) (a9 : Nat), 1600 - pp < fu → (pp ≤ 1600) → (a9 = plN' fi se pp) → ∀ (H : Heap) (locs : List Loc) (ls : Array Slot), va_P D vwCl [(w0, .inr (5, [.ref w1, .ref w2, .int (nI y), .int te, .ref w3, .ref w4, .ref w5, .int nt, .int wb, .ref w6, .ref w7, .ref w8, .int rc, .ref w9, .ref w10, .ref w11, .ref w12, .ref w13, .ref w14, .int fp, .int ft, .int th])), (w1, .inl (cI, 100, .inl sg)), (w2, .inl (cI, 244, .inl gl)), (w3, .inl (cI, 1600, .inl fi)), (w5, .inl (cI, 1600, .inl se)), (w6, .inl (cI, 1600, .inl ot)), (w7, .inl (cI, 15030, .inl ro)), (w8, .inl (cI, 501, .inl si)), (w9, .inl (cI, 30, .inl fr))] H → va_D A [(w0, .inr (5, [.ref w1, .ref w2, .int (nI y), .int te, .ref w3, .ref w4, .ref w5, .int nt, .int wb, .ref w6, .ref w7, .ref w8, .int rc, .ref w9, .ref w10, .ref w11, .ref w12, .ref w13, .ref w14, .int fp, .int ft, .int th])), (w1, .inl (cI, 100, .inl sg)), (w2, .inl (cI, 244, .inl gl)), (w3, .inl (cI, 1600, .inl fi)), (w5, .inl (cI, 1600, .inl se)), (w6, .inl (cI, 1600, .inl ot)), (w7, .inl (cI, 15030, .inl ro)), (w8, .inl (cI, 501, .inl si)), (w9, .inl (cI, 30, .inl fr))] → va_S A s.heap H locs → lv_has ls 8 [(0, .ref w0), (1, .int x), (2, .int (nI a9)), (3, .int (nI pp))] → W p l e ({ frames := 7, cells := 0, slots := 0, locals := 166 } : Room) s m args below meth c H locs 0 0 Q (F0 m 4 ls []) := by
  intro fu
  induction fu with
  | zero =>
    intro pp a9 h0
    exact absurd h0 (Nat.not_lt_zero _)
  | succ fu ih =>
    intro pp a9 hmu hpp ha9 H locs ls hP hD hS hl
    refine lv_iload_n hx hb d_MD_finals_4 rfl (lv_at hl 3 rfl) ?_
    refine lv_sipush (v := nI 1600) hx hb d_MD_finals_5 (by decide +kernel) ?_
    refine jn_icmp_ge (tgt := 39) (a := pp) (b := 1600) hx hb d_MD_finals_8 (by decide) (by omega) (by omega) (fun c_8 => ?_) (fun c_8 => ?_)
    · skip
      exact kx0 a9 (by rw [ha9, show pp = 1600 by omega]) _ _ _ (hP.sub [0, 1, 2, 3, 4, 5, 6, 7, 8] rfl) (hD.sub [0, 1, 2, 3, 4, 5, 6, 7, 8] (by decide) rfl) hS (lv_sub hl [0, 1, 2] rfl)
    · skip
      refine lv_iload_n hx hb d_MD_finals_11 rfl (lv_at hl 2 rfl) ?_
      refine lv_aload_n hx hb d_MD_finals_12 rfl (lv_at hl 0 rfl) ?_
      refine va_get (D := D) (ci := 5) (v := .ref w3) (C := R_MD) (T := T_MD) (N := 22) hx hb hw in_MD hown hE.1 hP 0 rfl rfl 4 (by decide) (hw _ kw_765) (fun _ h9 => h9) rfl d_MD_finals_13 ?_
      refine lv_iload_n hx hb d_MD_finals_16 rfl (lv_at hl 3 rfl) ?_
      refine jn_iald (k := pp) hx hb hE.1 hP 3 0 rfl rfl (by omega) (by omega) d_MD_finals_17 ?_
      refine lv_if_le (tgt := 30) hx hb d_MD_finals_18 (by decide) (fun c_18 => ?_) (fun c_18 => ?_)
      · skip
        refine lv_iconst (v := nI 0) hx hb d_MD_finals_30 (by decide +kernel) ?_
        refine W.eq (g2 := F0 m 31 ls [.int (nI 0), .int (nI a9)]) (by rw [show nI 0 = nI 0 from rfl]) ?_
        refine jn_iadd (a := a9) (b := 0) hx hb d_MD_finals_31 ?_
        refine lv_istore_n (lv' := [(2, .int (nI (a9 + 0))), (0, .ref w0), (1, .int x), (3, .int (nI pp))]) hx hb d_MD_finals_32 rfl hl (by decide) rfl (fun ls hl => ?_)
        refine lv_iinc (v := nI (pp + 1)) (lv' := [(3, .int (nI (pp + 1))), (2, .int (nI (a9 + 0))), (0, .ref w0), (1, .int x)]) hx hb d_MD_finals_33 hl (k := 3) rfl (jn_inc pp 1) (by decide) rfl (fun ls hl => ?_)
        refine lv_goto (tgt := 4) hx hb d_MD_finals_36 (by decide) ?_
        exact ih (pp + 1) a9 (by omega) (by omega) (by rw [plN', ← ha9, if_pos c_18, Nat.add_zero]) _ _ _ (hP.sub [0, 1, 2, 3, 4, 5, 6, 7, 8] rfl) (hD.sub [0, 1, 2, 3, 4, 5, 6, 7, 8] (by decide) rfl) hS (lv_sub hl [2, 3, 1, 0] rfl)
      · skip
        have hsp := hse pp (by omega) (fun q => c_18 (by rw [q]; decide))
        refine lv_aload_n hx hb d_MD_finals_21 rfl (lv_at hl 0 rfl) ?_
        refine va_get (D := D) (ci := 5) (v := .ref w5) (C := R_MD) (T := T_MD) (N := 22) hx hb hw in_MD hown hE.1 hP 0 rfl rfl 6 (by decide) (hw _ kw_767) (fun _ h9 => h9) rfl d_MD_finals_22 ?_
        refine lv_iload_n hx hb d_MD_finals_25 rfl (lv_at hl 3 rfl) ?_
        refine jn_iald (k := pp) hx hb hE.1 hP 4 0 rfl rfl (by omega) (by omega) d_MD_finals_26 ?_
        refine lv_goto (tgt := 31) hx hb d_MD_finals_27 (by decide) ?_
        refine W.eq (g2 := F0 m 31 ls [.int (nI (nn (se pp))), .int (nI a9)]) (by rw [← hsp.1]) ?_
        refine jn_iadd (a := a9) (b := (nn (se pp))) hx hb d_MD_finals_31 ?_
        refine lv_istore_n (lv' := [(2, .int (nI (a9 + (nn (se pp))))), (0, .ref w0), (1, .int x), (3, .int (nI pp))]) hx hb d_MD_finals_32 rfl hl (by decide) rfl (fun ls hl => ?_)
        refine lv_iinc (v := nI (pp + 1)) (lv' := [(3, .int (nI (pp + 1))), (2, .int (nI (a9 + (nn (se pp))))), (0, .ref w0), (1, .int x)]) hx hb d_MD_finals_33 hl (k := 3) rfl (jn_inc pp 1) (by decide) rfl (fun ls hl => ?_)
        refine lv_goto (tgt := 4) hx hb d_MD_finals_36 (by decide) ?_
        exact ih (pp + 1) (a9 + nn (se pp)) (by omega) (by omega) (by rw [plN', ← ha9, if_neg c_18]) _ _ _ (hP.sub [0, 1, 2, 3, 4, 5, 6, 7, 8] rfl) (hD.sub [0, 1, 2, 3, 4, 5, 6, 7, 8] (by decide) rfl) hS (lv_sub hl [2, 3, 1, 0] rfl)
set_option maxHeartbeats 4000000 in
set_option maxRecDepth 100000 in
theorem lp_k_MD_finals_174 {p : Program} {l : Launch} {e : Env} {s : State} {m : MethodId} {args : Array Value} {below : List Frame} {meth : Method} {c : Code} {D : va_G} {cI cJ : ClassId} {Q : State → Prop} {A : Nat → Prop} (w0 : Nat) (w1 : Nat) (w2 : Nat) (w3 : Nat) (w4 : Nat) (w5 : Nat) (w6 : Nat) (w7 : Nat) (w8 : Nat) (w9 : Nat) (w10 : Nat) (w11 : Nat) (w12 : Nat) (w13 : Nat) (w14 : Nat) (y : Nat) (te : Int32) (nt : Int32) (wb : Int32) (rc : Int32) (fp : Int32) (ft : Int32) (th : Int32) (sg : Nat → Int32) (gl : Nat → Int32) (fi : Nat → Int32) (se : Nat → Int32) (ot : Nat → Int32) (ro : Nat → Int32) (si : Nat → Int32) (fr : Nat → Int32) (x : Int32) (hy : y ≤ 60) (hfi : okFi fi) (hgl : okGl gl) (hse : ∀ p, p < 1600 → fi p ≠ 0 → se p = nI (nn (se p)) ∧ nn (se p) ≤ 1) (a9 : Nat) (mo : Nat) (hmo1 : a9 ≤ mo) (hmo2 : mo ≤ a9 + 29) (hmo3 : mo ≤ 1600) (rr : Nat) (hr5 : rr < 500) (al : Nat) (hal : al ≤ 96000) (k0 : FZ) (hx : p.tables.exec = Jvm.exec) (hb : c.code = c_MD_finals) (hml : c.maxLocals = 8) (hown : s.vm.findClass R_MD = some m.cls) (hw : ∀ w ∈ gw, w.before args s = true) (hE : En D cI cJ s) (hX : Sx A s s.heap) (hA : ∀ q : Nat, s.heap.size ≤ q → A q)
    (kx0 : ∀ (z8 : FZ), (itX (fnI sg gl te y rr) al 0 k0 = (some 0, z8)) → ∀ (H : Heap) (locs : List Loc) (ls : Array Slot), va_P D vwCl [(w0, .inr (5, [.ref w1, .ref w2, .int (nI y), .int te, .ref w3, .ref w4, .ref w5, .int nt, .int wb, .ref w6, .ref w7, .ref w8, .int (nI z8.1.2.2.2), .ref w9, .ref w10, .ref w11, .ref w12, .ref w13, .ref w14, .int z8.2.2.1, .int z8.2.2.2.1, .int (nI (flN 0 2))])), (w1, .inl (cI, 100, .inl sg)), (w2, .inl (cI, 244, .inl gl)), (w3, .inl (cI, 1600, .inl fi)), (w5, .inl (cI, 1600, .inl se)), (w6, .inl (cI, 1600, .inl z8.2.1)), (w7, .inl (cI, 15030, .inl z8.1.1)), (w8, .inl (cI, 501, .inl z8.1.2.1)), (w9, .inl (cI, 30, .inl z8.1.2.2.1))] H → va_D A [(w0, .inr (5, [.ref w1, .ref w2, .int (nI y), .int te, .ref w3, .ref w4, .ref w5, .int nt, .int wb, .ref w6, .ref w7, .ref w8, .int (nI z8.1.2.2.2), .ref w9, .ref w10, .ref w11, .ref w12, .ref w13, .ref w14, .int z8.2.2.1, .int z8.2.2.2.1, .int (nI (flN 0 2))])), (w1, .inl (cI, 100, .inl sg)), (w2, .inl (cI, 244, .inl gl)), (w3, .inl (cI, 1600, .inl fi)), (w5, .inl (cI, 1600, .inl se)), (w6, .inl (cI, 1600, .inl z8.2.1)), (w7, .inl (cI, 15030, .inl z8.1.1)), (w8, .inl (cI, 501, .inl z8.1.2.1)), (w9, .inl (cI, 30, .inl z8.1.2.2.1))] → va_S A s.heap H locs → lv_has ls 8 [] → W p l e ({ frames := 7, cells := 0, slots := 0, locals := 166 } : Room) s m args below meth c H locs 0 0 Q (F0 m 220 ls []))
    (kx1 : ∀ (z8 : FZ), (itX (fnI sg gl te y rr) al 0 k0 = (none, z8)) → (okRo z8.1.1 z8.1.2.1 z8.1.2.2.2 (mo - a9)) → (z8.1.2.2.2 ≤ 500) → ∀ (H : Heap) (locs : List Loc) (ls : Array Slot), va_P D vwCl [(w0, .inr (5, [.ref w1, .ref w2, .int (nI y), .int te, .ref w3, .ref w4, .ref w5, .int nt, .int wb, .ref w6, .ref w7, .ref w8, .int (nI z8.1.2.2.2), .ref w9, .ref w10, .ref w11, .ref w12, .ref w13, .ref w14, .int z8.2.2.1, .int z8.2.2.2.1, .int (nI (flN 0 2))])), (w1, .inl (cI, 100, .inl sg)), (w2, .inl (cI, 244, .inl gl)), (w3, .inl (cI, 1600, .inl fi)), (w5, .inl (cI, 1600, .inl se)), (w6, .inl (cI, 1600, .inl z8.2.1)), (w7, .inl (cI, 15030, .inl z8.1.1)), (w8, .inl (cI, 501, .inl z8.1.2.1)), (w9, .inl (cI, 30, .inl z8.1.2.2.1))] H → va_D A [(w0, .inr (5, [.ref w1, .ref w2, .int (nI y), .int te, .ref w3, .ref w4, .ref w5, .int nt, .int wb, .ref w6, .ref w7, .ref w8, .int (nI z8.1.2.2.2), .ref w9, .ref w10, .ref w11, .ref w12, .ref w13, .ref w14, .int z8.2.2.1, .int z8.2.2.2.1, .int (nI (flN 0 2))])), (w1, .inl (cI, 100, .inl sg)), (w2, .inl (cI, 244, .inl gl)), (w3, .inl (cI, 1600, .inl fi)), (w5, .inl (cI, 1600, .inl se)), (w6, .inl (cI, 1600, .inl z8.2.1)), (w7, .inl (cI, 15030, .inl z8.1.1)), (w8, .inl (cI, 501, .inl z8.1.2.1)), (w9, .inl (cI, 30, .inl z8.1.2.2.1))] → va_S A s.heap H locs → lv_has ls 8 [(0, .ref w0), (2, .int (nI a9)), (3, .int (nI mo)), (4, .int (nI z8.2.2.2.2)), (5, .int (nI rr))] → W p l e ({ frames := 7, cells := 0, slots := 0, locals := 166 } : Room) s m args below meth c H locs 0 0 Q (F0 m 228 ls [])) :
    ∀ (fu : Nat) (i9 : Nat) (z8 : FZ), al - i9 < fu → (i9 ≤ al) → (itX (fnI sg gl te y rr) (al - i9) i9 z8 = itX (fnI sg gl te y rr) al 0 k0) → (okRo z8.1.1 z8.1.2.1 z8.1.2.2.2 (mo - a9)) → (z8.1.2.2.2 ≤ 500) → (al = (frL sg gl z8.2.1 te y 1600 0).length) → (rr < z8.1.2.2.2) → (al = 0 ∨ nn (z8.1.2.1 rr) < mo - a9) → (okFi z8.2.1) → ∀ (H : Heap) (locs : List Loc) (ls : Array Slot), va_P D vwCl [(w0, .inr (5, [.ref w1, .ref w2, .int (nI y), .int te, .ref w3, .ref w4, .ref w5, .int nt, .int wb, .ref w6, .ref w7, .ref w8, .int (nI z8.1.2.2.2), .ref w9, .ref w10, .ref w11, .ref w12, .ref w13, .ref w14, .int z8.2.2.1, .int z8.2.2.2.1, .int (nI (flN 0 2))])), (w1, .inl (cI, 100, .inl sg)), (w2, .inl (cI, 244, .inl gl)), (w3, .inl (cI, 1600, .inl fi)), (w5, .inl (cI, 1600, .inl se)), (w6, .inl (cI, 1600, .inl z8.2.1)), (w7, .inl (cI, 15030, .inl z8.1.1)), (w8, .inl (cI, 501, .inl z8.1.2.1)), (w9, .inl (cI, 30, .inl z8.1.2.2.1))] H → va_D A [(w0, .inr (5, [.ref w1, .ref w2, .int (nI y), .int te, .ref w3, .ref w4, .ref w5, .int nt, .int wb, .ref w6, .ref w7, .ref w8, .int (nI z8.1.2.2.2), .ref w9, .ref w10, .ref w11, .ref w12, .ref w13, .ref w14, .int z8.2.2.1, .int z8.2.2.2.1, .int (nI (flN 0 2))])), (w1, .inl (cI, 100, .inl sg)), (w2, .inl (cI, 244, .inl gl)), (w3, .inl (cI, 1600, .inl fi)), (w5, .inl (cI, 1600, .inl se)), (w6, .inl (cI, 1600, .inl z8.2.1)), (w7, .inl (cI, 15030, .inl z8.1.1)), (w8, .inl (cI, 501, .inl z8.1.2.1)), (w9, .inl (cI, 30, .inl z8.1.2.2.1))] → va_S A s.heap H locs → lv_has ls 8 [(0, .ref w0), (2, .int (nI a9)), (3, .int (nI mo)), (4, .int (nI z8.2.2.2.2)), (5, .int (nI rr)), (6, .int (nI al)), (7, .int (nI i9))] → W p l e ({ frames := 7, cells := 0, slots := 0, locals := 166 } : Room) s m args below meth c H locs 0 0 Q (F0 m 174 ls []) := by
  intro fu
  induction fu with
  | zero =>
    intro i9 z8 h0
    exact absurd h0 (Nat.not_lt_zero _)
  | succ fu ih =>
    intro i9 z8 hmu hi9 hR8 hro hrc hcl hrr hsr hot H locs ls hP hD hS hl
    refine lv_iload hx hb d_MD_finals_174 (lv_at hl 6 rfl) ?_
    refine lv_iload hx hb d_MD_finals_176 (lv_at hl 5 rfl) ?_
    refine jn_icmp_ge (tgt := 228) (a := i9) (b := al) hx hb d_MD_finals_178 (by decide) (by omega) (by omega) (fun c_178 => ?_) (fun c_178 => ?_)
    · skip
      exact kx1 z8 (by rw [← hR8, show al - i9 = 0 by omega]; rfl) hro hrc _ _ _ (hP.sub [0, 1, 2, 3, 4, 5, 6, 7, 8] rfl) (hD.sub [0, 1, 2, 3, 4, 5, 6, 7, 8] (by decide) rfl) hS (lv_sub hl [0, 1, 2, 3, 4] rfl)
    · skip
      refine lv_aload_n hx hb d_MD_finals_181 rfl (lv_at hl 0 rfl) ?_
      refine lv_aload_n hx hb d_MD_finals_182 rfl (lv_at hl 0 rfl) ?_
      refine va_get (D := D) (ci := 5) (v := .ref w6) (C := R_MD) (T := T_MD) (N := 22) hx hb hw in_MD hown hE.1 hP 0 rfl rfl 9 (by decide) (hw _ kw_770) (fun _ h9 => h9) rfl d_MD_finals_183 ?_
      refine lv_iload hx hb d_MD_finals_186 (lv_at hl 6 rfl) ?_
      refine cl_i (wr := [(w3, .inl (cI, 1600, .inl fi)), (w5, .inl (cI, 1600, .inl se)), (w7, .inl (cI, 15030, .inl z8.1.1)), (w8, .inl (cI, 501, .inl z8.1.2.1)), (w9, .inl (cI, 30, .inl z8.1.2.2.1))]) (va_runV (As := [.ref w6, .int (nI i9)]) (rest := []) ⟨hx, hb, hml, hown, hw⟩ (k_MD_find l D cI cJ w0 w1 w2 w3 w4 w5 w6 w7 w8 w9 w10 w11 w12 w13 w14 y te nt wb (nI z8.1.2.2.2) z8.2.2.1 z8.2.2.2.1 (nI (flN 0 2)) sg gl w6 z8.2.1 (nI i9) _ hy hot hgl) (cwV 2 hw (gV kw_913 kw_915 kw_30 kw_45 kw_916) rfl rfl rfl (by decide +kernel) ⟨Nat.le_of_ble_eq_true rfl, Nat.le_of_ble_eq_true rfl⟩) (pre_Vw (wc := [(w0, .inr (5, [.ref w1, .ref w2, .int (nI y), .int te, .ref w3, .ref w4, .ref w5, .int nt, .int wb, .ref w6, .ref w7, .ref w8, .int (nI z8.1.2.2.2), .ref w9, .ref w10, .ref w11, .ref w12, .ref w13, .ref w14, .int z8.2.2.1, .int z8.2.2.2.1, .int (nI (flN 0 2))])), (w1, .inl (cI, 100, .inl sg)), (w2, .inl (cI, 244, .inl gl)), (w6, .inl (cI, 1600, .inl z8.2.1))]) (q0 := 0) hE hX hA hP hD hS [0, 1, 2, 5] (by decide) rfl rfl rfl rfl) rfl rfl hl.1 rfl (lv_room (Nat.le_of_ble_eq_true rfl)) d_MD_finals_188 ⟨Nat.le_of_ble_eq_true rfl, Nat.le_of_ble_eq_true rfl⟩) hP hD hS hA [0, 1, 2, 5] [3, 4, 6, 7, 8] rfl rfl (by decide) (by decide) (fun r_1 u_r_1 H locs hr_1 hP hD hS => ?_)
      have hP : va_P D vwCl [(w3, .inl (cI, 1600, .inl fi)), (w5, .inl (cI, 1600, .inl se)), (w7, .inl (cI, 15030, .inl z8.1.1)), (w8, .inl (cI, 501, .inl z8.1.2.1)), (w9, .inl (cI, 30, .inl z8.1.2.2.1)), (w0, .inr (5, [.ref w1, .ref w2, .int (nI y), .int te, .ref w3, .ref w4, .ref w5, .int nt, .int wb, .ref w6, .ref w7, .ref w8, .int (nI z8.1.2.2.2), .ref w9, .ref w10, .ref w11, .ref w12, .ref w13, .ref w14, .int u_r_1.2.1, .int u_r_1.2.2, .int (nI (flN 0 2))])), (w1, .inl (cI, 100, .inl sg)), (w2, .inl (cI, 244, .inl gl)), (w6, .inl (cI, 1600, .inl z8.2.1))] H := hP
      have hD : va_D A [(w3, .inl (cI, 1600, .inl fi)), (w5, .inl (cI, 1600, .inl se)), (w7, .inl (cI, 15030, .inl z8.1.1)), (w8, .inl (cI, 501, .inl z8.1.2.1)), (w9, .inl (cI, 30, .inl z8.1.2.2.1)), (w0, .inr (5, [.ref w1, .ref w2, .int (nI y), .int te, .ref w3, .ref w4, .ref w5, .int nt, .int wb, .ref w6, .ref w7, .ref w8, .int (nI z8.1.2.2.2), .ref w9, .ref w10, .ref w11, .ref w12, .ref w13, .ref w14, .int u_r_1.2.1, .int u_r_1.2.2, .int (nI (flN 0 2))])), (w1, .inl (cI, 100, .inl sg)), (w2, .inl (cI, 244, .inl gl)), (w6, .inl (cI, 1600, .inl z8.2.1))] := hD
      obtain ⟨o9, rfl, hfd⟩ := hr_1
      have hfo : okFd y u_r_1 := by have h := fdV_ok sg gl z8.2.1 te (nI i9) y z8.2.2.1 z8.2.2.2.1; rw [← hfd] at h; exact h
      have hnz : u_r_1.1 ≠ 0 := by have h := fdV_nz (sg := sg) (gl := gl) (fi := z8.2.1) (te := te) (x := nI i9) (y := y) (fp := z8.2.2.1) (ft := z8.2.2.2.1) (by omega); rw [← hfd] at h; exact h
      obtain ⟨pp, tt, hpp, htt1, htt2, hep, het⟩ := hfo.resolve_left hnz
      rw [hep, het] at hP hD
      have hP : va_P D vwCl [(w3, .inl (cI, 1600, .inl fi)), (w5, .inl (cI, 1600, .inl se)), (w7, .inl (cI, 15030, .inl z8.1.1)), (w8, .inl (cI, 501, .inl z8.1.2.1)), (w9, .inl (cI, 30, .inl z8.1.2.2.1)), (w0, .inr (5, [.ref w1, .ref w2, .int (nI y), .int te, .ref w3, .ref w4, .ref w5, .int nt, .int wb, .ref w6, .ref w7, .ref w8, .int (nI z8.1.2.2.2), .ref w9, .ref w10, .ref w11, .ref w12, .ref w13, .ref w14, .int (nI pp), .int (nI tt), .int (nI (flN 0 2))])), (w1, .inl (cI, 100, .inl sg)), (w2, .inl (cI, 244, .inl gl)), (w6, .inl (cI, 1600, .inl z8.2.1))] H := hP
      have hD : va_D A [(w3, .inl (cI, 1600, .inl fi)), (w5, .inl (cI, 1600, .inl se)), (w7, .inl (cI, 15030, .inl z8.1.1)), (w8, .inl (cI, 501, .inl z8.1.2.1)), (w9, .inl (cI, 30, .inl z8.1.2.2.1)), (w0, .inr (5, [.ref w1, .ref w2, .int (nI y), .int te, .ref w3, .ref w4, .ref w5, .int nt, .int wb, .ref w6, .ref w7, .ref w8, .int (nI z8.1.2.2.2), .ref w9, .ref w10, .ref w11, .ref w12, .ref w13, .ref w14, .int (nI pp), .int (nI tt), .int (nI (flN 0 2))])), (w1, .inl (cI, 100, .inl sg)), (w2, .inl (cI, 244, .inl gl)), (w6, .inl (cI, 1600, .inl z8.2.1))] := hD
      have heq := fnI_eq (rr := rr) hfd hpp (show tt ≤ 60 by omega) hep het
      refine lv_pop hx hb d_MD_finals_191 rfl ?_
      refine lv_aload_n hx hb d_MD_finals_192 rfl (lv_at hl 0 rfl) ?_
      refine lv_iload hx hb d_MD_finals_193 (lv_at hl 4 rfl) ?_
      refine lv_bipush (v := nI 64) hx hb d_MD_finals_195 (by decide +kernel) ?_
      refine lv_aload_n hx hb d_MD_finals_197 rfl (lv_at hl 0 rfl) ?_
      refine va_get (D := D) (ci := 5) (v := .int (nI pp)) (C := R_MD) (T := T_MD) (N := 22) hx hb hw in_MD hown hE.1 hP 5 rfl rfl 19 (by decide) (hw _ kw_780) (fun _ h9 => h9) rfl d_MD_finals_198 ?_
      refine jn_imul (a := 64) (b := pp) hx hb d_MD_finals_201 ?_
      refine lv_aload_n hx hb d_MD_finals_202 rfl (lv_at hl 0 rfl) ?_
      refine va_get (D := D) (ci := 5) (v := .int (nI tt)) (C := R_MD) (T := T_MD) (N := 22) hx hb hw in_MD hown hE.1 hP 5 rfl rfl 20 (by decide) (hw _ kw_781) (fun _ h9 => h9) rfl d_MD_finals_203 ?_
      refine jn_iadd (a := (64 * pp)) (b := tt) hx hb d_MD_finals_206 ?_
      refine cl_v (wr := [(w3, .inl (cI, 1600, .inl fi)), (w5, .inl (cI, 1600, .inl se)), (w1, .inl (cI, 100, .inl sg)), (w2, .inl (cI, 244, .inl gl)), (w6, .inl (cI, 1600, .inl z8.2.1))]) (va_runV (As := [.int (nI rr), .int (nI ((64 * pp) + tt))]) (rest := []) ⟨hx, hb, hml, hown, hw⟩ (k_MD_append l D cI cJ w0 w1 w2 w3 w4 w5 w6 w7 w8 w9 w10 w11 w12 w13 w14 (nI y) te nt wb z8.1.2.2.2 (nI pp) (nI tt) (nI (flN 0 2)) z8.1.1 z8.1.2.1 z8.1.2.2.1 rr ((64 * pp) + tt) _ (by omega) (hro rr hrr).1 (by have := hsr.resolve_left (by omega); omega) hrc (by omega)) (cwV 2 hw (gV kw_967 kw_969 kw_35 kw_45 kw_970) rfl rfl rfl (by decide +kernel) ⟨Nat.le_of_ble_eq_true rfl, Nat.le_of_ble_eq_true rfl⟩) (pre_Vw (wc := [(w0, .inr (5, [.ref w1, .ref w2, .int (nI y), .int te, .ref w3, .ref w4, .ref w5, .int nt, .int wb, .ref w6, .ref w7, .ref w8, .int (nI z8.1.2.2.2), .ref w9, .ref w10, .ref w11, .ref w12, .ref w13, .ref w14, .int (nI pp), .int (nI tt), .int (nI (flN 0 2))])), (w7, .inl (cI, 15030, .inl z8.1.1)), (w8, .inl (cI, 501, .inl z8.1.2.1)), (w9, .inl (cI, 30, .inl z8.1.2.2.1))]) (q0 := 0) hE hX hA hP hD hS [5, 2, 3, 4] (by decide) rfl rfl rfl rfl) rfl rfl hl.1 rfl (lv_room (Nat.le_of_ble_eq_true rfl)) d_MD_finals_207 ⟨Nat.le_of_ble_eq_true rfl, Nat.le_of_ble_eq_true rfl⟩) hP hD hS hA [5, 2, 3, 4] [0, 1, 6, 7, 8] rfl rfl (by decide) (by decide) (fun u_r_2 H locs hr_2 hP hD hS => ?_)
      have hP : va_P D vwCl [(w3, .inl (cI, 1600, .inl fi)), (w5, .inl (cI, 1600, .inl se)), (w1, .inl (cI, 100, .inl sg)), (w2, .inl (cI, 244, .inl gl)), (w6, .inl (cI, 1600, .inl z8.2.1)), (w0, .inr (5, [.ref w1, .ref w2, .int (nI y), .int te, .ref w3, .ref w4, .ref w5, .int nt, .int wb, .ref w6, .ref w7, .ref w8, .int (nI u_r_2.2.2.2), .ref w9, .ref w10, .ref w11, .ref w12, .ref w13, .ref w14, .int (nI pp), .int (nI tt), .int (nI (flN 0 2))])), (w7, .inl (cI, 15030, .inl u_r_2.1)), (w8, .inl (cI, 501, .inl u_r_2.2.1)), (w9, .inl (cI, 30, .inl u_r_2.2.2.1))] H := hP
      have hD : va_D A [(w3, .inl (cI, 1600, .inl fi)), (w5, .inl (cI, 1600, .inl se)), (w1, .inl (cI, 100, .inl sg)), (w2, .inl (cI, 244, .inl gl)), (w6, .inl (cI, 1600, .inl z8.2.1)), (w0, .inr (5, [.ref w1, .ref w2, .int (nI y), .int te, .ref w3, .ref w4, .ref w5, .int nt, .int wb, .ref w6, .ref w7, .ref w8, .int (nI u_r_2.2.2.2), .ref w9, .ref w10, .ref w11, .ref w12, .ref w13, .ref w14, .int (nI pp), .int (nI tt), .int (nI (flN 0 2))])), (w7, .inl (cI, 15030, .inl u_r_2.1)), (w8, .inl (cI, 501, .inl u_r_2.2.1)), (w9, .inl (cI, 30, .inl u_r_2.2.2.1))] := hD
      have hua := apR_V hr_2
      have hur : u_r_2.2.2.2 ≤ 501 := by rw [hua]; exact Nat.le_trans apV_rc (by omega)
      rw [← hua] at heq
      refine lv_aload_n hx hb d_MD_finals_210 rfl (lv_at hl 0 rfl) ?_
      refine va_get (D := D) (ci := 5) (v := .int (nI u_r_2.2.2.2)) (C := R_MD) (T := T_MD) (N := 22) hx hb hw in_MD hown hE.1 hP 5 rfl rfl 12 (by decide) (hw _ kw_773) (fun _ h9 => h9) rfl d_MD_finals_211 ?_
      refine lv_sipush (v := nI 500) hx hb d_MD_finals_214 (by decide +kernel) ?_
      refine jn_icmp_le (tgt := 222) (a := u_r_2.2.2.2) (b := 500) hx hb d_MD_finals_217 (by decide) (by omega) (by omega) (fun c_217 => ?_) (fun c_217 => ?_)
      · skip
        refine lv_iinc (v := nI (i9 + 1)) (lv' := [(7, .int (nI (i9 + 1))), (0, .ref w0), (2, .int (nI a9)), (3, .int (nI mo)), (4, .int (nI z8.2.2.2.2)), (5, .int (nI rr)), (6, .int (nI al))]) hx hb d_MD_finals_222 hl (k := 6) rfl (jn_inc i9 1) (by decide) rfl (fun ls hl => ?_)
        refine lv_goto (tgt := 174) hx hb d_MD_finals_225 (by decide) ?_
        have hv5 : ¬ 500 < u_r_2.2.2.2 := by omega
        have hvk := apV_ok (fr := z8.1.2.2.1) (tl := 64 * pp + tt) hro hrr (hsr.resolve_left (by omega)) (by omega) hrc (by omega) (by omega) (by rw [← hua]; exact hv5)
        rw [← hua] at hvk
        rw [if_neg hv5] at heq
        exact ih (i9 + 1) (u_r_2, z8.2.1, nI pp, nI tt, z8.2.2.2.2) (by omega) (by omega) (by rw [← hR8, show al - (i9 + 1) = al - i9 - 1 by omega]; exact (itX_go (by omega) heq).symm) hvk.1 (show u_r_2.2.2.2 ≤ 500 by omega) hcl (Nat.lt_of_lt_of_le hrr hvk.2.1) (Or.inr (by show nn (u_r_2.2.1 rr) < mo - a9; rw [(hvk.2.2 rr hrr).1]; exact hsr.resolve_left (by omega))) hot _ _ _ (hP.sub [5, 2, 3, 0, 1, 4, 6, 7, 8] rfl) (hD.sub [5, 2, 3, 0, 1, 4, 6, 7, 8] (by decide) rfl) hS (lv_sub hl [1, 2, 3, 4, 5, 6, 0] rfl)
      · skip
        exact kx0 (u_r_2, z8.2.1, nI pp, nI tt, z8.2.2.2.2) (by rw [← hR8]; exact itX_no (by omega) (by rw [heq, if_pos (show 500 < u_r_2.2.2.2 by omega)])) _ _ _ (hP.sub [5, 2, 3, 0, 1, 4, 6, 7, 8] rfl) (hD.sub [5, 2, 3, 0, 1, 4, 6, 7, 8] (by decide) rfl) hS (lv_sub hl [] rfl)
set_option maxHeartbeats 4000000 in
set_option maxRecDepth 100000 in
theorem lp_k_MD_finals_110 {p : Program} {l : Launch} {e : Env} {s : State} {m : MethodId} {args : Array Value} {below : List Frame} {meth : Method} {c : Code} {D : va_G} {cI cJ : ClassId} {Q : State → Prop} {A : Nat → Prop} (w0 : Nat) (w1 : Nat) (w2 : Nat) (w3 : Nat) (w4 : Nat) (w5 : Nat) (w6 : Nat) (w7 : Nat) (w8 : Nat) (w9 : Nat) (w10 : Nat) (w11 : Nat) (w12 : Nat) (w13 : Nat) (w14 : Nat) (y : Nat) (te : Int32) (nt : Int32) (wb : Int32) (rc : Int32) (fp : Int32) (ft : Int32) (th : Int32) (sg : Nat → Int32) (gl : Nat → Int32) (fi : Nat → Int32) (se : Nat → Int32) (ot : Nat → Int32) (ro : Nat → Int32) (si : Nat → Int32) (fr : Nat → Int32) (x : Int32) (hy : y ≤ 60) (hfi : okFi fi) (hgl : okGl gl) (hse : ∀ p, p < 1600 → fi p ≠ 0 → se p = nI (nn (se p)) ∧ nn (se p) ≤ 1) (a9 : Nat) (mo : Nat) (hmo1 : a9 ≤ mo) (hmo2 : mo ≤ a9 + 29) (hmo3 : mo ≤ 1600) (hx : p.tables.exec = Jvm.exec) (hb : c.code = c_MD_finals) (hml : c.maxLocals = 8) (hown : s.vm.findClass R_MD = some m.cls) (hw : ∀ w ∈ gw, w.before args s = true) (hE : En D cI cJ s) (hX : Sx A s s.heap) (hA : ∀ q : Nat, s.heap.size ≤ q → A q)
    (kx0 : ∀ (z9 : FZ), (itX (fnB sg gl fi se te y a9 mo) 501 0 ((ro, upd si 0 (nI 0), fr, 1), ot, fp, ft, 0) = (some 0, z9)) → ∀ (H : Heap) (locs : List Loc) (ls : Array Slot), va_P D vwCl [(w0, .inr (5, [.ref w1, .ref w2, .int (nI y), .int te, .ref w3, .ref w4, .ref w5, .int nt, .int wb, .ref w6, .ref w7, .ref w8, .int (nI z9.1.2.2.2), .ref w9, .ref w10, .ref w11, .ref w12, .ref w13, .ref w14, .int z9.2.2.1, .int z9.2.2.2.1, .int (nI (flN 0 2))])), (w1, .inl (cI, 100, .inl sg)), (w2, .inl (cI, 244, .inl gl)), (w3, .inl (cI, 1600, .inl fi)), (w5, .inl (cI, 1600, .inl se)), (w6, .inl (cI, 1600, .inl z9.2.1)), (w7, .inl (cI, 15030, .inl z9.1.1)), (w8, .inl (cI, 501, .inl z9.1.2.1)), (w9, .inl (cI, 30, .inl z9.1.2.2.1))] H → va_D A [(w0, .inr (5, [.ref w1, .ref w2, .int (nI y), .int te, .ref w3, .ref w4, .ref w5, .int nt, .int wb, .ref w6, .ref w7, .ref w8, .int (nI z9.1.2.2.2), .ref w9, .ref w10, .ref w11, .ref w12, .ref w13, .ref w14, .int z9.2.2.1, .int z9.2.2.2.1, .int (nI (flN 0 2))])), (w1, .inl (cI, 100, .inl sg)), (w2, .inl (cI, 244, .inl gl)), (w3, .inl (cI, 1600, .inl fi)), (w5, .inl (cI, 1600, .inl se)), (w6, .inl (cI, 1600, .inl z9.2.1)), (w7, .inl (cI, 15030, .inl z9.1.1)), (w8, .inl (cI, 501, .inl z9.1.2.1)), (w9, .inl (cI, 30, .inl z9.1.2.2.1))] → va_S A s.heap H locs → lv_has ls 8 [] → W p l e ({ frames := 7, cells := 0, slots := 0, locals := 166 } : Room) s m args below meth c H locs 0 0 Q (F0 m 169 ls []))
    (kx1 : ∀ (z9 : FZ), (itX (fnB sg gl fi se te y a9 mo) 501 0 ((ro, upd si 0 (nI 0), fr, 1), ot, fp, ft, 0) = (some 0, z9)) → ∀ (H : Heap) (locs : List Loc) (ls : Array Slot), va_P D vwCl [(w0, .inr (5, [.ref w1, .ref w2, .int (nI y), .int te, .ref w3, .ref w4, .ref w5, .int nt, .int wb, .ref w6, .ref w7, .ref w8, .int (nI z9.1.2.2.2), .ref w9, .ref w10, .ref w11, .ref w12, .ref w13, .ref w14, .int z9.2.2.1, .int z9.2.2.2.1, .int (nI (flN 0 2))])), (w1, .inl (cI, 100, .inl sg)), (w2, .inl (cI, 244, .inl gl)), (w3, .inl (cI, 1600, .inl fi)), (w5, .inl (cI, 1600, .inl se)), (w6, .inl (cI, 1600, .inl z9.2.1)), (w7, .inl (cI, 15030, .inl z9.1.1)), (w8, .inl (cI, 501, .inl z9.1.2.1)), (w9, .inl (cI, 30, .inl z9.1.2.2.1))] H → va_D A [(w0, .inr (5, [.ref w1, .ref w2, .int (nI y), .int te, .ref w3, .ref w4, .ref w5, .int nt, .int wb, .ref w6, .ref w7, .ref w8, .int (nI z9.1.2.2.2), .ref w9, .ref w10, .ref w11, .ref w12, .ref w13, .ref w14, .int z9.2.2.1, .int z9.2.2.2.1, .int (nI (flN 0 2))])), (w1, .inl (cI, 100, .inl sg)), (w2, .inl (cI, 244, .inl gl)), (w3, .inl (cI, 1600, .inl fi)), (w5, .inl (cI, 1600, .inl se)), (w6, .inl (cI, 1600, .inl z9.2.1)), (w7, .inl (cI, 15030, .inl z9.1.1)), (w8, .inl (cI, 501, .inl z9.1.2.1)), (w9, .inl (cI, 30, .inl z9.1.2.2.1))] → va_S A s.heap H locs → lv_has ls 8 [] → W p l e ({ frames := 7, cells := 0, slots := 0, locals := 166 } : Room) s m args below meth c H locs 0 0 Q (F0 m 220 ls []))
    (kx2 : ∀ (z9 : FZ), (itX (fnB sg gl fi se te y a9 mo) 501 0 ((ro, upd si 0 (nI 0), fr, 1), ot, fp, ft, 0) = (none, z9)) → ∀ (H : Heap) (locs : List Loc) (ls : Array Slot), va_P D vwCl [(w0, .inr (5, [.ref w1, .ref w2, .int (nI y), .int te, .ref w3, .ref w4, .ref w5, .int nt, .int wb, .ref w6, .ref w7, .ref w8, .int (nI z9.1.2.2.2), .ref w9, .ref w10, .ref w11, .ref w12, .ref w13, .ref w14, .int z9.2.2.1, .int z9.2.2.2.1, .int (nI (flN 0 2))])), (w1, .inl (cI, 100, .inl sg)), (w2, .inl (cI, 244, .inl gl)), (w3, .inl (cI, 1600, .inl fi)), (w5, .inl (cI, 1600, .inl se)), (w6, .inl (cI, 1600, .inl z9.2.1)), (w7, .inl (cI, 15030, .inl z9.1.1)), (w8, .inl (cI, 501, .inl z9.1.2.1)), (w9, .inl (cI, 30, .inl z9.1.2.2.1))] H → va_D A [(w0, .inr (5, [.ref w1, .ref w2, .int (nI y), .int te, .ref w3, .ref w4, .ref w5, .int nt, .int wb, .ref w6, .ref w7, .ref w8, .int (nI z9.1.2.2.2), .ref w9, .ref w10, .ref w11, .ref w12, .ref w13, .ref w14, .int z9.2.2.1, .int z9.2.2.2.1, .int (nI (flN 0 2))])), (w1, .inl (cI, 100, .inl sg)), (w2, .inl (cI, 244, .inl gl)), (w3, .inl (cI, 1600, .inl fi)), (w5, .inl (cI, 1600, .inl se)), (w6, .inl (cI, 1600, .inl z9.2.1)), (w7, .inl (cI, 15030, .inl z9.1.1)), (w8, .inl (cI, 501, .inl z9.1.2.1)), (w9, .inl (cI, 30, .inl z9.1.2.2.1))] → va_S A s.heap H locs → lv_has ls 8 [(4, .int (nI z9.2.2.2.2))] → W p l e ({ frames := 7, cells := 0, slots := 0, locals := 166 } : Room) s m args below meth c H locs 0 0 Q (F0 m 234 ls [])) :
    ∀ (fu : Nat) (rr : Nat) (z9 : FZ), 501 - rr < fu → (rr ≤ 500) → (itX (fnB sg gl fi se te y a9 mo) (501 - rr) rr z9 = itX (fnB sg gl fi se te y a9 mo) 501 0 ((ro, upd si 0 (nI 0), fr, 1), ot, fp, ft, 0)) → (okRo z9.1.1 z9.1.2.1 z9.1.2.2.2 (mo - a9)) → (z9.1.2.2.2 ≤ 500) → ∀ (H : Heap) (locs : List Loc) (ls : Array Slot), va_P D vwCl [(w0, .inr (5, [.ref w1, .ref w2, .int (nI y), .int te, .ref w3, .ref w4, .ref w5, .int nt, .int wb, .ref w6, .ref w7, .ref w8, .int (nI z9.1.2.2.2), .ref w9, .ref w10, .ref w11, .ref w12, .ref w13, .ref w14, .int z9.2.2.1, .int z9.2.2.2.1, .int (nI (flN 0 2))])), (w1, .inl (cI, 100, .inl sg)), (w2, .inl (cI, 244, .inl gl)), (w3, .inl (cI, 1600, .inl fi)), (w5, .inl (cI, 1600, .inl se)), (w6, .inl (cI, 1600, .inl z9.2.1)), (w7, .inl (cI, 15030, .inl z9.1.1)), (w8, .inl (cI, 501, .inl z9.1.2.1)), (w9, .inl (cI, 30, .inl z9.1.2.2.1))] H → va_D A [(w0, .inr (5, [.ref w1, .ref w2, .int (nI y), .int te, .ref w3, .ref w4, .ref w5, .int nt, .int wb, .ref w6, .ref w7, .ref w8, .int (nI z9.1.2.2.2), .ref w9, .ref w10, .ref w11, .ref w12, .ref w13, .ref w14, .int z9.2.2.1, .int z9.2.2.2.1, .int (nI (flN 0 2))])), (w1, .inl (cI, 100, .inl sg)), (w2, .inl (cI, 244, .inl gl)), (w3, .inl (cI, 1600, .inl fi)), (w5, .inl (cI, 1600, .inl se)), (w6, .inl (cI, 1600, .inl z9.2.1)), (w7, .inl (cI, 15030, .inl z9.1.1)), (w8, .inl (cI, 501, .inl z9.1.2.1)), (w9, .inl (cI, 30, .inl z9.1.2.2.1))] → va_S A s.heap H locs → lv_has ls 8 [(0, .ref w0), (2, .int (nI a9)), (3, .int (nI mo)), (4, .int (nI z9.2.2.2.2)), (5, .int (nI rr))] → W p l e ({ frames := 7, cells := 0, slots := 0, locals := 166 } : Room) s m args below meth c H locs 0 0 Q (F0 m 110 ls []) := by
  intro fu
  induction fu with
  | zero =>
    intro rr z9 h0
    exact absurd h0 (Nat.not_lt_zero _)
  | succ fu ih =>
    intro rr z9 hmu hrb hR hro hrc H locs ls hP hD hS hl
    refine lv_iload hx hb d_MD_finals_110 (lv_at hl 4 rfl) ?_
    refine lv_aload_n hx hb d_MD_finals_112 rfl (lv_at hl 0 rfl) ?_
    refine va_get (D := D) (ci := 5) (v := .int (nI z9.1.2.2.2)) (C := R_MD) (T := T_MD) (N := 22) hx hb hw in_MD hown hE.1 hP 0 rfl rfl 12 (by decide) (hw _ kw_773) (fun _ h9 => h9) rfl d_MD_finals_113 ?_
    refine jn_icmp_ge (tgt := 234) (a := rr) (b := z9.1.2.2.2) hx hb d_MD_finals_116 (by decide) (by omega) (by omega) (fun c_116 => ?_) (fun c_116 => ?_)
    · skip
      exact kx2 z9 (by rw [← hR]; exact fnB_end _ _ (by omega)) _ _ _ (hP.sub [0, 1, 2, 3, 4, 5, 6, 7, 8] rfl) (hD.sub [0, 1, 2, 3, 4, 5, 6, 7, 8] (by decide) rfl) hS (lv_sub hl [3] rfl)
    · skip
      refine lv_aload_n hx hb d_MD_finals_119 rfl (lv_at hl 0 rfl) ?_
      refine lv_iload hx hb d_MD_finals_120 (lv_at hl 4 rfl) ?_
      refine cl_v (wr := [(w1, .inl (cI, 100, .inl sg)), (w2, .inl (cI, 244, .inl gl)), (w9, .inl (cI, 30, .inl z9.1.2.2.1))]) (va_runV (As := [.int (nI rr)]) (rest := []) ⟨hx, hb, hml, hown, hw⟩ (k_MD_show l D cI cJ w0 w1 w2 w3 w4 w5 w6 w7 w8 w9 w10 w11 w12 w13 w14 (nI y) te nt wb (nI z9.1.2.2.2) z9.2.2.1 z9.2.2.2.1 (nI (flN 0 2)) fi se z9.2.1 z9.1.1 z9.1.2.1 rr _ (by omega) (hro rr (by omega)).1) (cwV 1 hw (gV kw_963 kw_965 kw_34 kw_45 kw_966) rfl rfl rfl (by decide +kernel) ⟨Nat.le_of_ble_eq_true rfl, Nat.le_of_ble_eq_true rfl⟩) (pre_Vw (wc := [(w0, .inr (5, [.ref w1, .ref w2, .int (nI y), .int te, .ref w3, .ref w4, .ref w5, .int nt, .int wb, .ref w6, .ref w7, .ref w8, .int (nI z9.1.2.2.2), .ref w9, .ref w10, .ref w11, .ref w12, .ref w13, .ref w14, .int z9.2.2.1, .int z9.2.2.2.1, .int (nI (flN 0 2))])), (w3, .inl (cI, 1600, .inl fi)), (w5, .inl (cI, 1600, .inl se)), (w6, .inl (cI, 1600, .inl z9.2.1)), (w7, .inl (cI, 15030, .inl z9.1.1)), (w8, .inl (cI, 501, .inl z9.1.2.1))]) (q0 := 0) hE hX hA hP hD hS [0, 3, 4, 5, 6, 7] (by decide) rfl rfl rfl rfl) rfl rfl hl.1 rfl (lv_room (Nat.le_of_ble_eq_true rfl)) d_MD_finals_122 ⟨Nat.le_of_ble_eq_true rfl, Nat.le_of_ble_eq_true rfl⟩) hP hD hS hA [0, 3, 4, 5, 6, 7] [1, 2, 8] rfl rfl (by decide) (by decide) (fun u_r_1 H locs hr_1 hP hD hS => ?_)
      have hP : va_P D vwCl [(w1, .inl (cI, 100, .inl sg)), (w2, .inl (cI, 244, .inl gl)), (w9, .inl (cI, 30, .inl z9.1.2.2.1)), (w0, .inr (5, [.ref w1, .ref w2, .int (nI y), .int te, .ref w3, .ref w4, .ref w5, .int nt, .int wb, .ref w6, .ref w7, .ref w8, .int (nI z9.1.2.2.2), .ref w9, .ref w10, .ref w11, .ref w12, .ref w13, .ref w14, .int z9.2.2.1, .int z9.2.2.2.1, .int (nI (flN 0 2))])), (w3, .inl (cI, 1600, .inl fi)), (w5, .inl (cI, 1600, .inl se)), (w6, .inl (cI, 1600, .inl u_r_1)), (w7, .inl (cI, 15030, .inl z9.1.1)), (w8, .inl (cI, 501, .inl z9.1.2.1))] H := hP
      have hD : va_D A [(w1, .inl (cI, 100, .inl sg)), (w2, .inl (cI, 244, .inl gl)), (w9, .inl (cI, 30, .inl z9.1.2.2.1)), (w0, .inr (5, [.ref w1, .ref w2, .int (nI y), .int te, .ref w3, .ref w4, .ref w5, .int nt, .int wb, .ref w6, .ref w7, .ref w8, .int (nI z9.1.2.2.2), .ref w9, .ref w10, .ref w11, .ref w12, .ref w13, .ref w14, .int z9.2.2.1, .int z9.2.2.2.1, .int (nI (flN 0 2))])), (w3, .inl (cI, 1600, .inl fi)), (w5, .inl (cI, 1600, .inl se)), (w6, .inl (cI, 1600, .inl u_r_1)), (w7, .inl (cI, 15030, .inl z9.1.1)), (w8, .inl (cI, 501, .inl z9.1.2.1))] := hD
      obtain rfl : shZ fi se rr z9 = u_r_1 := hr_1.symm
      have hP : va_P D vwCl [(w1, .inl (cI, 100, .inl sg)), (w2, .inl (cI, 244, .inl gl)), (w9, .inl (cI, 30, .inl z9.1.2.2.1)), (w0, .inr (5, [.ref w1, .ref w2, .int (nI y), .int te, .ref w3, .ref w4, .ref w5, .int nt, .int wb, .ref w6, .ref w7, .ref w8, .int (nI z9.1.2.2.2), .ref w9, .ref w10, .ref w11, .ref w12, .ref w13, .ref w14, .int z9.2.2.1, .int z9.2.2.2.1, .int (nI (flN 0 2))])), (w3, .inl (cI, 1600, .inl fi)), (w5, .inl (cI, 1600, .inl se)), (w6, .inl (cI, 1600, .inl (shZ fi se rr z9))), (w7, .inl (cI, 15030, .inl z9.1.1)), (w8, .inl (cI, 501, .inl z9.1.2.1))] H := hP
      have hD : va_D A [(w1, .inl (cI, 100, .inl sg)), (w2, .inl (cI, 244, .inl gl)), (w9, .inl (cI, 30, .inl z9.1.2.2.1)), (w0, .inr (5, [.ref w1, .ref w2, .int (nI y), .int te, .ref w3, .ref w4, .ref w5, .int nt, .int wb, .ref w6, .ref w7, .ref w8, .int (nI z9.1.2.2.2), .ref w9, .ref w10, .ref w11, .ref w12, .ref w13, .ref w14, .int z9.2.2.1, .int z9.2.2.2.1, .int (nI (flN 0 2))])), (w3, .inl (cI, 1600, .inl fi)), (w5, .inl (cI, 1600, .inl se)), (w6, .inl (cI, 1600, .inl (shZ fi se rr z9))), (w7, .inl (cI, 15030, .inl z9.1.1)), (w8, .inl (cI, 501, .inl z9.1.2.1))] := hD
      have hot := shR_ok (ro := z9.1.1) (b := 30 * rr) (shL_ok (se := se) (ot := z9.2.1) hfi) (nn (z9.1.2.1 rr)) (hro rr (by omega)).2.2
      refine lv_aload_n hx hb d_MD_finals_125 rfl (lv_at hl 0 rfl) ?_
      refine lv_aload_n hx hb d_MD_finals_126 rfl (lv_at hl 0 rfl) ?_
      refine va_get (D := D) (ci := 5) (v := .ref w6) (C := R_MD) (T := T_MD) (N := 22) hx hb hw in_MD hown hE.1 hP 3 rfl rfl 9 (by decide) (hw _ kw_770) (fun _ h9 => h9) rfl d_MD_finals_127 ?_
      refine lv_iconst (v := (-1)) hx hb d_MD_finals_130 (by decide +kernel) ?_
      refine cl_i (wr := [(w9, .inl (cI, 30, .inl z9.1.2.2.1)), (w3, .inl (cI, 1600, .inl fi)), (w5, .inl (cI, 1600, .inl se)), (w7, .inl (cI, 15030, .inl z9.1.1)), (w8, .inl (cI, 501, .inl z9.1.2.1))]) (va_runV (As := [.ref w6, .int (-1)]) (rest := []) ⟨hx, hb, hml, hown, hw⟩ (k_MD_find l D cI cJ w0 w1 w2 w3 w4 w5 w6 w7 w8 w9 w10 w11 w12 w13 w14 y te nt wb (nI z9.1.2.2.2) z9.2.2.1 z9.2.2.2.1 (nI (flN 0 2)) sg gl w6 (shZ fi se rr z9) (-1) _ hy hot hgl) (cwV 2 hw (gV kw_913 kw_915 kw_30 kw_45 kw_916) rfl rfl rfl (by decide +kernel) ⟨Nat.le_of_ble_eq_true rfl, Nat.le_of_ble_eq_true rfl⟩) (pre_Vw (wc := [(w0, .inr (5, [.ref w1, .ref w2, .int (nI y), .int te, .ref w3, .ref w4, .ref w5, .int nt, .int wb, .ref w6, .ref w7, .ref w8, .int (nI z9.1.2.2.2), .ref w9, .ref w10, .ref w11, .ref w12, .ref w13, .ref w14, .int z9.2.2.1, .int z9.2.2.2.1, .int (nI (flN 0 2))])), (w1, .inl (cI, 100, .inl sg)), (w2, .inl (cI, 244, .inl gl)), (w6, .inl (cI, 1600, .inl (shZ fi se rr z9)))]) (q0 := 0) hE hX hA hP hD hS [3, 0, 1, 6] (by decide) rfl rfl rfl rfl) rfl rfl hl.1 rfl (lv_room (Nat.le_of_ble_eq_true rfl)) d_MD_finals_131 ⟨Nat.le_of_ble_eq_true rfl, Nat.le_of_ble_eq_true rfl⟩) hP hD hS hA [3, 0, 1, 6] [2, 4, 5, 7, 8] rfl rfl (by decide) (by decide) (fun r_2 u_r_2 H locs hr_2 hP hD hS => ?_)
      have hP : va_P D vwCl [(w9, .inl (cI, 30, .inl z9.1.2.2.1)), (w3, .inl (cI, 1600, .inl fi)), (w5, .inl (cI, 1600, .inl se)), (w7, .inl (cI, 15030, .inl z9.1.1)), (w8, .inl (cI, 501, .inl z9.1.2.1)), (w0, .inr (5, [.ref w1, .ref w2, .int (nI y), .int te, .ref w3, .ref w4, .ref w5, .int nt, .int wb, .ref w6, .ref w7, .ref w8, .int (nI z9.1.2.2.2), .ref w9, .ref w10, .ref w11, .ref w12, .ref w13, .ref w14, .int u_r_2.2.1, .int u_r_2.2.2, .int (nI (flN 0 2))])), (w1, .inl (cI, 100, .inl sg)), (w2, .inl (cI, 244, .inl gl)), (w6, .inl (cI, 1600, .inl (shZ fi se rr z9)))] H := hP
      have hD : va_D A [(w9, .inl (cI, 30, .inl z9.1.2.2.1)), (w3, .inl (cI, 1600, .inl fi)), (w5, .inl (cI, 1600, .inl se)), (w7, .inl (cI, 15030, .inl z9.1.1)), (w8, .inl (cI, 501, .inl z9.1.2.1)), (w0, .inr (5, [.ref w1, .ref w2, .int (nI y), .int te, .ref w3, .ref w4, .ref w5, .int nt, .int wb, .ref w6, .ref w7, .ref w8, .int (nI z9.1.2.2.2), .ref w9, .ref w10, .ref w11, .ref w12, .ref w13, .ref w14, .int u_r_2.2.1, .int u_r_2.2.2, .int (nI (flN 0 2))])), (w1, .inl (cI, 100, .inl sg)), (w2, .inl (cI, 244, .inl gl)), (w6, .inl (cI, 1600, .inl (shZ fi se rr z9)))] := hD
      obtain ⟨o9, rfl, hfd⟩ := hr_2
      rw [fdV_R hfd]
      have hfl : u_r_2.1 ≤ 96000 := by have h := fdV_le (sg := sg) (gl := gl) (fi := shZ fi se rr z9) (te := te) (x := -1) (y := y) (fp := z9.2.2.1) (ft := z9.2.2.2.1) hy; rw [← hfd] at h; exact h
      have hcl : u_r_2.1 = (frL sg gl (shZ fi se rr z9) te y 1600 0).length := by have h := fdV_m1 sg gl (shZ fi se rr z9) te hy z9.2.2.1 z9.2.2.2.1; rw [← hfd] at h; exact h
      have hrr2 : rr < z9.1.2.2.2 := by omega
      have hrm := (hro rr hrr2).2.1
      refine lv_istore (lv' := [(6, .int (nI u_r_2.1)), (0, .ref w0), (2, .int (nI a9)), (3, .int (nI mo)), (4, .int (nI z9.2.2.2.2)), (5, .int (nI rr))]) hx hb d_MD_finals_134 hl (by decide) rfl (fun ls hl => ?_)
      refine lv_iload hx hb d_MD_finals_136 (lv_at hl 4 rfl) ?_
      refine lv_iload hx hb d_MD_finals_138 (lv_at hl 0 rfl) ?_
      refine jn_if_ne (tgt := 147) (a := u_r_2.1) hx hb d_MD_finals_140 (by decide) (by omega) (fun c_140 => ?_) (fun c_140 => ?_)
      · skip
        refine lv_iconst (v := nI 0) hx hb d_MD_finals_147 (by decide +kernel) ?_
        refine jn_iadd (a := z9.2.2.2.2) (b := 0) hx hb d_MD_finals_148 ?_
        refine lv_istore (lv' := [(4, .int (nI (z9.2.2.2.2 + 0))), (6, .int (nI u_r_2.1)), (0, .ref w0), (2, .int (nI a9)), (3, .int (nI mo)), (5, .int (nI rr))]) hx hb d_MD_finals_149 hl (by decide) rfl (fun ls hl => ?_)
        refine lv_iload hx hb d_MD_finals_151 (lv_at hl 1 rfl) ?_
        refine jn_if_le (tgt := 171) (a := u_r_2.1) hx hb d_MD_finals_153 (by decide) (by omega) (fun c_153 => ?_) (fun c_153 => ?_)
        · skip
          exfalso
          omega
        · skip
          refine lv_iload_n hx hb d_MD_finals_156 rfl (lv_at hl 3 rfl) ?_
          refine lv_aload_n hx hb d_MD_finals_157 rfl (lv_at hl 2 rfl) ?_
          refine va_get (D := D) (ci := 5) (v := .ref w8) (C := R_MD) (T := T_MD) (N := 22) hx hb hw in_MD hown hE.1 hP 5 rfl rfl 11 (by decide) (hw _ kw_772) (fun _ h9 => h9) rfl d_MD_finals_158 ?_
          refine lv_iload hx hb d_MD_finals_161 (lv_at hl 5 rfl) ?_
          refine jn_iald (k := rr) hx hb hE.1 hP 4 0 rfl rfl (by omega) (by omega) d_MD_finals_163 ?_
          refine W.eq (g2 := F0 m 164 ls [.int (nI (nn (z9.1.2.1 rr))), .int (nI a9)]) (by rw [← (hro rr hrr2).1.1]) ?_
          refine jn_iadd (a := a9) (b := (nn (z9.1.2.1 rr))) hx hb d_MD_finals_164 ?_
          refine lv_iload_n hx hb d_MD_finals_165 rfl (lv_at hl 4 rfl) ?_
          refine jn_icmp_ne (tgt := 171) (a := (a9 + (nn (z9.1.2.1 rr)))) (b := mo) hx hb d_MD_finals_166 (by decide) (by omega) (by omega) (fun c_166 => ?_) (fun c_166 => ?_)
          · skip
            refine lv_iconst (v := nI 0) hx hb d_MD_finals_171 (by decide +kernel) ?_
            refine lv_istore (lv' := [(7, .int (nI 0)), (4, .int (nI (z9.2.2.2.2 + 0))), (6, .int (nI u_r_2.1)), (0, .ref w0), (2, .int (nI a9)), (3, .int (nI mo)), (5, .int (nI rr))]) hx hb d_MD_finals_172 hl (by decide) rfl (fun ls hl => ?_)
            refine lp_k_MD_finals_174 w0 w1 w2 w3 w4 w5 w6 w7 w8 w9 w10 w11 w12 w13 w14 y te nt wb rc fp ft th sg gl fi se ot ro si fr x hy hfi hgl hse a9 mo hmo1 hmo2 hmo3 rr (by omega) u_r_2.1 hfl (z9.1, shZ fi se rr z9, u_r_2.2.1, u_r_2.2.2, z9.2.2.2.2 + 0) hx hb hml hown hw hE hX hA (fun z8 hR8 H locs ls hP hD hS hl => ?_) (fun z8 hR8 hro hrc H locs ls hP hD hS hl => ?_) ((u_r_2.1 - 0) + 1) 0 (z9.1, shZ fi se rr z9, u_r_2.2.1, u_r_2.2.2, z9.2.2.2.2 + 0) (Nat.lt_succ_self _) (Nat.zero_le _) rfl hro hrc hcl hrr2 (Or.inr (by show nn (z9.1.2.1 rr) < mo - a9; omega)) hot _ _ _ (hP.sub [5, 6, 7, 1, 2, 8, 3, 4, 0] rfl) (hD.sub [5, 6, 7, 1, 2, 8, 3, 4, 0] (by decide) rfl) hS (lv_sub hl [3, 4, 5, 1, 6, 2, 0] rfl)
            · skip
              exact kx1 z8 (by rw [← hR]; exact itX_no (by omega) (by show fnB sg gl fi se te y a9 mo rr z9 = _; unfold fnB; rw [if_pos (show rr < z9.1.2.2.2 by omega), ← hfd]; dsimp only; rw [if_neg (show ¬ (u_r_2.1 ≠ 0 ∧ a9 + nn (z9.1.2.1 rr) = mo) from fun q => absurd q.2 (by omega)), if_neg c_140]; exact hR8)) _ _ _ (hP.sub [0, 1, 2, 3, 4, 5, 6, 7, 8] rfl) (hD.sub [0, 1, 2, 3, 4, 5, 6, 7, 8] (by decide) rfl) hS (lv_sub hl [] rfl)
            · skip
              refine lv_iinc (v := nI (rr + 1)) (lv' := [(5, .int (nI (rr + 1))), (0, .ref w0), (2, .int (nI a9)), (3, .int (nI mo)), (4, .int (nI z8.2.2.2.2))]) hx hb d_MD_finals_228 hl (k := 4) rfl (jn_inc rr 1) (by decide) rfl (fun ls hl => ?_)
              refine lv_goto (tgt := 110) hx hb d_MD_finals_231 (by decide) ?_
              exact ih (rr + 1) z8 (by omega) (by omega) (by rw [← hR, show 501 - (rr + 1) = 501 - rr - 1 by omega]; exact (itX_go (by omega) (by show fnB sg gl fi se te y a9 mo rr z9 = _; unfold fnB; rw [if_pos (show rr < z9.1.2.2.2 by omega), ← hfd]; dsimp only; rw [if_neg (show ¬ (u_r_2.1 ≠ 0 ∧ a9 + nn (z9.1.2.1 rr) = mo) from fun q => absurd q.2 (by omega)), if_neg c_140]; exact hR8)).symm) hro hrc _ _ _ (hP.sub [0, 1, 2, 3, 4, 5, 6, 7, 8] rfl) (hD.sub [0, 1, 2, 3, 4, 5, 6, 7, 8] (by decide) rfl) hS (lv_sub hl [1, 2, 3, 4, 0] rfl)
          · skip
            exact kx0 (z9.1, shZ fi se rr z9, u_r_2.2.1, u_r_2.2.2, z9.2.2.2.2) (by rw [← hR]; exact itX_no (by omega) (by show fnB sg gl fi se te y a9 mo rr z9 = _; unfold fnB; rw [if_pos (show rr < z9.1.2.2.2 by omega), ← hfd]; dsimp only; rw [if_pos (show u_r_2.1 ≠ 0 ∧ a9 + nn (z9.1.2.1 rr) = mo from ⟨c_140, by omega⟩)])) _ _ _ (hP.sub [5, 6, 7, 1, 2, 8, 3, 4, 0] rfl) (hD.sub [5, 6, 7, 1, 2, 8, 3, 4, 0] (by decide) rfl) hS (lv_sub hl [] rfl)
      · skip
        refine lv_iconst (v := nI 1) hx hb d_MD_finals_143 (by decide +kernel) ?_
        refine lv_goto (tgt := 148) hx hb d_MD_finals_144 (by decide) ?_
        refine jn_iadd (a := z9.2.2.2.2) (b := 1) hx hb d_MD_finals_148 ?_
        refine lv_istore (lv' := [(4, .int (nI (z9.2.2.2.2 + 1))), (6, .int (nI u_r_2.1)), (0, .ref w0), (2, .int (nI a9)), (3, .int (nI mo)), (5, .int (nI rr))]) hx hb d_MD_finals_149 hl (by decide) rfl (fun ls hl => ?_)
        refine lv_iload hx hb d_MD_finals_151 (lv_at hl 1 rfl) ?_
        refine jn_if_le (tgt := 171) (a := u_r_2.1) hx hb d_MD_finals_153 (by decide) (by omega) (fun c_153 => ?_) (fun c_153 => ?_)
        · skip
          refine lv_iconst (v := nI 0) hx hb d_MD_finals_171 (by decide +kernel) ?_
          refine lv_istore (lv' := [(7, .int (nI 0)), (4, .int (nI (z9.2.2.2.2 + 1))), (6, .int (nI u_r_2.1)), (0, .ref w0), (2, .int (nI a9)), (3, .int (nI mo)), (5, .int (nI rr))]) hx hb d_MD_finals_172 hl (by decide) rfl (fun ls hl => ?_)
          refine lp_k_MD_finals_174 w0 w1 w2 w3 w4 w5 w6 w7 w8 w9 w10 w11 w12 w13 w14 y te nt wb rc fp ft th sg gl fi se ot ro si fr x hy hfi hgl hse a9 mo hmo1 hmo2 hmo3 rr (by omega) u_r_2.1 hfl (z9.1, shZ fi se rr z9, u_r_2.2.1, u_r_2.2.2, z9.2.2.2.2 + 1) hx hb hml hown hw hE hX hA (fun z8 hR8 H locs ls hP hD hS hl => ?_) (fun z8 hR8 hro hrc H locs ls hP hD hS hl => ?_) ((u_r_2.1 - 0) + 1) 0 (z9.1, shZ fi se rr z9, u_r_2.2.1, u_r_2.2.2, z9.2.2.2.2 + 1) (Nat.lt_succ_self _) (Nat.zero_le _) rfl hro hrc hcl hrr2 (Or.inl c_140) hot _ _ _ (hP.sub [5, 6, 7, 1, 2, 8, 3, 4, 0] rfl) (hD.sub [5, 6, 7, 1, 2, 8, 3, 4, 0] (by decide) rfl) hS (lv_sub hl [3, 4, 5, 1, 6, 2, 0] rfl)
          · skip
            exact kx1 z8 (by rw [← hR]; exact itX_no (by omega) (by show fnB sg gl fi se te y a9 mo rr z9 = _; unfold fnB; rw [if_pos (show rr < z9.1.2.2.2 by omega), ← hfd]; dsimp only; rw [if_neg (show ¬ (u_r_2.1 ≠ 0 ∧ a9 + nn (z9.1.2.1 rr) = mo) from fun q => q.1 c_140), if_pos c_140]; exact hR8)) _ _ _ (hP.sub [0, 1, 2, 3, 4, 5, 6, 7, 8] rfl) (hD.sub [0, 1, 2, 3, 4, 5, 6, 7, 8] (by decide) rfl) hS (lv_sub hl [] rfl)
          · skip
            refine lv_iinc (v := nI (rr + 1)) (lv' := [(5, .int (nI (rr + 1))), (0, .ref w0), (2, .int (nI a9)), (3, .int (nI mo)), (4, .int (nI z8.2.2.2.2))]) hx hb d_MD_finals_228 hl (k := 4) rfl (jn_inc rr 1) (by decide) rfl (fun ls hl => ?_)
            refine lv_goto (tgt := 110) hx hb d_MD_finals_231 (by decide) ?_
            exact ih (rr + 1) z8 (by omega) (by omega) (by rw [← hR, show 501 - (rr + 1) = 501 - rr - 1 by omega]; exact (itX_go (by omega) (by show fnB sg gl fi se te y a9 mo rr z9 = _; unfold fnB; rw [if_pos (show rr < z9.1.2.2.2 by omega), ← hfd]; dsimp only; rw [if_neg (show ¬ (u_r_2.1 ≠ 0 ∧ a9 + nn (z9.1.2.1 rr) = mo) from fun q => q.1 c_140), if_pos c_140]; exact hR8)).symm) hro hrc _ _ _ (hP.sub [0, 1, 2, 3, 4, 5, 6, 7, 8] rfl) (hD.sub [0, 1, 2, 3, 4, 5, 6, 7, 8] (by decide) rfl) hS (lv_sub hl [1, 2, 3, 4, 0] rfl)
        · skip
          exfalso
          omega
set_option maxHeartbeats 4000000 in
set_option maxRecDepth 100000 in
/-- finals -/
theorem k_MD_finals (l : Launch) (D : va_G) (cI cJ : ClassId) (w0 : Nat) (w1 : Nat) (w2 : Nat) (w3 : Nat) (w4 : Nat) (w5 : Nat) (w6 : Nat) (w7 : Nat) (w8 : Nat) (w9 : Nat) (w10 : Nat) (w11 : Nat) (w12 : Nat) (w13 : Nat) (w14 : Nat) (y : Nat) (te : Int32) (nt : Int32) (wb : Int32) (rc : Int32) (fp : Int32) (ft : Int32) (th : Int32) (sg : Nat → Int32) (gl : Nat → Int32) (fi : Nat → Int32) (se : Nat → Int32) (ot : Nat → Int32) (ro : Nat → Int32) (si : Nat → Int32) (fr : Nat → Int32) (x : Int32) (sz : Nat) (hy : y ≤ 60) (hfi : okFi fi) (hgl : okGl gl) (hse : ∀ p, p < 1600 → fi p ≠ 0 → se p = nI (nn (se p)) ∧ nn (se p) ≤ 1) : Met l y_MD_finals ws_MD_finals ({ frames := 7, cells := 0, slots := 0, locals := 166 } : Room) (va_Pc [.ref w0, .int x] (Pw D cI cJ [(w0, .inr (5, [.ref w1, .ref w2, .int (nI y), .int te, .ref w3, .ref w4, .ref w5, .int nt, .int wb, .ref w6, .ref w7, .ref w8, .int rc, .ref w9, .ref w10, .ref w11, .ref w12, .ref w13, .ref w14, .int fp, .int ft, .int th])), (w1, .inl (cI, 100, .inl sg)), (w2, .inl (cI, 244, .inl gl)), (w3, .inl (cI, 1600, .inl fi)), (w5, .inl (cI, 1600, .inl se)), (w6, .inl (cI, 1600, .inl ot)), (w7, .inl (cI, 15030, .inl ro)), (w8, .inl (cI, 501, .inl si)), (w9, .inl (cI, 30, .inl fr))] sz)) (va_Qi (fun (r : Int32) (u9 : Int32 × ((Nat → Int32) × (Nat → Int32) × (Nat → Int32) × (Nat → Int32)) × Int32 × Int32 × Int32) => (plN' fi se 1600 = 0 ∧ r = nI 0 ∧ u9.1 = nI 1) ∨ (plN' fi se 1600 ≠ 0 ∧ wiN x (nI 1) (nI 30) = 0 ∧ r = nI 0 ∧ u9.1 = nI 2) ∨ (plN' fi se 1600 ≠ 0 ∧ wiN x (nI 1) (nI 30) ≠ 0 ∧ u9.1 = nI 0 ∧ ((∃ z, itX (fnB sg gl fi se te y (plN' fi se 1600) (moN (nn x) (plN' fi se 1600))) 501 0 ((ro, upd si 0 (nI 0), fr, 1), ot, fp, ft, 0) = (some 0, z) ∧ r = -1) ∨ (∃ z, itX (fnB sg gl fi se te y (plN' fi se 1600) (moN (nn x) (plN' fi se 1600))) 501 0 ((ro, upd si 0 (nI 0), fr, 1), ot, fp, ft, 0) = (none, z) ∧ r = nI z.2.2.2.2)))) (fun u9 t9 => Bw D (va_A [(w0, .inr (5, [.ref w1, .ref w2, .int (nI y), .int te, .ref w3, .ref w4, .ref w5, .int nt, .int wb, .ref w6, .ref w7, .ref w8, .int rc, .ref w9, .ref w10, .ref w11, .ref w12, .ref w13, .ref w14, .int fp, .int ft, .int th])), (w1, .inl (cI, 100, .inl sg)), (w2, .inl (cI, 244, .inl gl)), (w3, .inl (cI, 1600, .inl fi)), (w5, .inl (cI, 1600, .inl se)), (w6, .inl (cI, 1600, .inl ot)), (w7, .inl (cI, 15030, .inl ro)), (w8, .inl (cI, 501, .inl si)), (w9, .inl (cI, 30, .inl fr))] sz) [(w0, .inr (5, [.ref w1, .ref w2, .int (nI y), .int te, .ref w3, .ref w4, .ref w5, .int nt, .int wb, .ref w6, .ref w7, .ref w8, .int u9.2.2.1, .ref w9, .ref w10, .ref w11, .ref w12, .ref w13, .ref w14, .int u9.2.2.2.1, .int u9.2.2.2.2, .int u9.1])), (w1, .inl (cI, 100, .inl sg)), (w2, .inl (cI, 244, .inl gl)), (w3, .inl (cI, 1600, .inl fi)), (w5, .inl (cI, 1600, .inl se)), (w6, .inl (cI, 1600, .inl u9.2.1.1)), (w7, .inl (cI, 15030, .inl u9.2.1.2.1)), (w8, .inl (cI, 501, .inl u9.2.1.2.2.1)), (w9, .inl (cI, 30, .inl u9.2.1.2.2.2))] t9) (va_A [(w0, .inr (5, [.ref w1, .ref w2, .int (nI y), .int te, .ref w3, .ref w4, .ref w5, .int nt, .int wb, .ref w6, .ref w7, .ref w8, .int rc, .ref w9, .ref w10, .ref w11, .ref w12, .ref w13, .ref w14, .int fp, .int ft, .int th])), (w1, .inl (cI, 100, .inl sg)), (w2, .inl (cI, 244, .inl gl)), (w3, .inl (cI, 1600, .inl fi)), (w5, .inl (cI, 1600, .inl se)), (w6, .inl (cI, 1600, .inl ot)), (w7, .inl (cI, 15030, .inl ro)), (w8, .inl (cI, 501, .inl si)), (w9, .inl (cI, 30, .inl fr))] sz)) 0 0 (va_A [(w0, .inr (5, [.ref w1, .ref w2, .int (nI y), .int te, .ref w3, .ref w4, .ref w5, .int nt, .int wb, .ref w6, .ref w7, .ref w8, .int rc, .ref w9, .ref w10, .ref w11, .ref w12, .ref w13, .ref w14, .int fp, .int ft, .int th])), (w1, .inl (cI, 100, .inl sg)), (w2, .inl (cI, 244, .inl gl)), (w3, .inl (cI, 1600, .inl fi)), (w5, .inl (cI, 1600, .inl se)), (w6, .inl (cI, 1600, .inl ot)), (w7, .inl (cI, 15030, .inl ro)), (w8, .inl (cI, 501, .inl si)), (w9, .inl (cI, 30, .inl fr))] sz) := by
  refine Met.ofW (cc := c_MD_finals) (maxL := 8) (ret := (some .int)) (by decide) rfl ?_
  intro p e s m args below meth c s₁ B hml hv
  obtain ⟨rfl, hsz, hE, hP, hD0, hX⟩ := hv
  have hx := B.exec
  have hb := B.bytes
  have hr := B.returns
  have hw : ∀ w ∈ gw, w.before _ s = true := fun w h => atoms_spec (ws := ws_MD_finals) B.pre w (List.mem_cons_of_mem _ h)
  have hown : s.vm.findClass R_MD = some m.cls := findClass_of_methodNamed B.named
  have hlocks := B.notSynchronized
  subst hsz
  have hD := hD0.self (sz := s.heap.size)
  generalize hAe : va_A [(w0, .inr (5, [.ref w1, .ref w2, .int (nI y), .int te, .ref w3, .ref w4, .ref w5, .int nt, .int wb, .ref w6, .ref w7, .ref w8, .int rc, .ref w9, .ref w10, .ref w11, .ref w12, .ref w13, .ref w14, .int fp, .int ft, .int th])), (w1, .inl (cI, 100, .inl sg)), (w2, .inl (cI, 244, .inl gl)), (w3, .inl (cI, 1600, .inl fi)), (w5, .inl (cI, 1600, .inl se)), (w6, .inl (cI, 1600, .inl ot)), (w7, .inl (cI, 15030, .inl ro)), (w8, .inl (cI, 501, .inl si)), (w9, .inl (cI, 30, .inl fr))] s.heap.size = A at hD hX ⊢
  have hA : ∀ q : Nat, s.heap.size ≤ q → A q := fun q h => by rw [← hAe]; exact Or.inr h
  have hS : va_S A s.heap s.heap [] := va_S.rf
  have hP : va_P D vwCl [(w0, .inr (5, [.ref w1, .ref w2, .int (nI y), .int te, .ref w3, .ref w4, .ref w5, .int nt, .int wb, .ref w6, .ref w7, .ref w8, .int rc, .ref w9, .ref w10, .ref w11, .ref w12, .ref w13, .ref w14, .int fp, .int ft, .int th])), (w1, .inl (cI, 100, .inl sg)), (w2, .inl (cI, 244, .inl gl)), (w3, .inl (cI, 1600, .inl fi)), (w5, .inl (cI, 1600, .inl se)), (w6, .inl (cI, 1600, .inl ot)), (w7, .inl (cI, 15030, .inl ro)), (w8, .inl (cI, 501, .inl si)), (w9, .inl (cI, 30, .inl fr))] s.heap := hP
  have hl := lv_entry ([.ref w0, .int x]) (n := 8) (Nat.le_of_ble_eq_true rfl)
  rw [lg_entry_eq]
  generalize (lg_sl ([.ref w0, .int x]) ++ List.replicate (8 - (lg_sl ([.ref w0, .int x])).length) Slot.unset).toArray = ls at hl ⊢
  have hl : lv_has ls 8 [(0, .ref w0), (1, .int x)] := hl
  refine lv_iconst (v := nI 0) hx hb d_MD_finals_0 (by decide +kernel) ?_
  refine lv_istore_n (lv' := [(2, .int (nI 0)), (0, .ref w0), (1, .int x)]) hx hb d_MD_finals_1 rfl hl (by decide) rfl (fun ls hl => ?_)
  refine lv_iconst (v := nI 0) hx hb d_MD_finals_2 (by decide +kernel) ?_
  refine lv_istore_n (lv' := [(3, .int (nI 0)), (2, .int (nI 0)), (0, .ref w0), (1, .int x)]) hx hb d_MD_finals_3 rfl hl (by decide) rfl (fun ls hl => ?_)
  refine lp_k_MD_finals_4 w0 w1 w2 w3 w4 w5 w6 w7 w8 w9 w10 w11 w12 w13 w14 y te nt wb rc fp ft th sg gl fi se ot ro si fr x hy hfi hgl hse hx hb hml hown hw hE hX hA (fun a9 ha9 H locs ls hP hD hS hl => ?_) ((1600 - 0) + 1) 0 0 (Nat.lt_succ_self _) (Nat.zero_le _) rfl _ _ _ (hP.sub [0, 1, 2, 3, 4, 5, 6, 7, 8] rfl) (hD.sub [0, 1, 2, 3, 4, 5, 6, 7, 8] (by decide) rfl) hS (lv_sub hl [2, 3, 1, 0] rfl)
  have hpl := plN_le hfi hse 1600 (Nat.le_refl _)
  refine lv_aload_n hx hb d_MD_finals_39 rfl (lv_at hl 0 rfl) ?_
  refine lv_iload_n hx hb d_MD_finals_40 rfl (lv_at hl 2 rfl) ?_
  refine jn_if_ne (tgt := 48) (a := a9) hx hb d_MD_finals_41 (by decide) (by omega) (fun c_41 => ?_) (fun c_41 => ?_)
  · skip
    refine lv_iconst (v := nI 0) hx hb d_MD_finals_48 (by decide +kernel) ?_
    refine lv_iconst (v := nI 1) hx hb d_MD_finals_49 (by decide +kernel) ?_
    refine cl_i (wr := [(w1, .inl (cI, 100, .inl sg)), (w2, .inl (cI, 244, .inl gl)), (w3, .inl (cI, 1600, .inl fi)), (w5, .inl (cI, 1600, .inl se)), (w6, .inl (cI, 1600, .inl ot)), (w7, .inl (cI, 15030, .inl ro)), (w8, .inl (cI, 501, .inl si)), (w9, .inl (cI, 30, .inl fr))]) (va_runV (As := [.int (nI 0), .int (nI 1)]) (rest := []) ⟨hx, hb, hml, hown, hw⟩ (k_MD_fails l D cI cJ w0 w1 w2 w3 w4 w5 w6 w7 w8 w9 w10 w11 w12 w13 w14 (nI y) te nt wb rc fp ft th 0 1 _ (by omega)) (cwV 2 hw (gV kw_836 kw_838 kw_20 kw_45 kw_839) rfl rfl rfl (by decide +kernel) ⟨Nat.le_of_ble_eq_true rfl, Nat.le_of_ble_eq_true rfl⟩) (pre_Vw (wc := [(w0, .inr (5, [.ref w1, .ref w2, .int (nI y), .int te, .ref w3, .ref w4, .ref w5, .int nt, .int wb, .ref w6, .ref w7, .ref w8, .int rc, .ref w9, .ref w10, .ref w11, .ref w12, .ref w13, .ref w14, .int fp, .int ft, .int th]))]) (q0 := 0) hE hX hA hP hD hS [0] (by decide) rfl rfl rfl rfl) rfl rfl hl.1 rfl (lv_room (Nat.le_of_ble_eq_true rfl)) d_MD_finals_50 ⟨Nat.le_of_ble_eq_true rfl, Nat.le_of_ble_eq_true rfl⟩) hP hD hS hA [0] [1, 2, 3, 4, 5, 6, 7, 8] rfl rfl (by decide) (by decide) (fun r_1 u_r_1 H locs hr_1 hP hD hS => ?_)
    obtain rfl : nI 0 = r_1 := hr_1.symm
    have hP : va_P D vwCl [(w1, .inl (cI, 100, .inl sg)), (w2, .inl (cI, 244, .inl gl)), (w3, .inl (cI, 1600, .inl fi)), (w5, .inl (cI, 1600, .inl se)), (w6, .inl (cI, 1600, .inl ot)), (w7, .inl (cI, 15030, .inl ro)), (w8, .inl (cI, 501, .inl si)), (w9, .inl (cI, 30, .inl fr)), (w0, .inr (5, [.ref w1, .ref w2, .int (nI y), .int te, .ref w3, .ref w4, .ref w5, .int nt, .int wb, .ref w6, .ref w7, .ref w8, .int rc, .ref w9, .ref w10, .ref w11, .ref w12, .ref w13, .ref w14, .int fp, .int ft, .int (nI (flN 0 1))]))] H := hP
    have hD : va_D A [(w1, .inl (cI, 100, .inl sg)), (w2, .inl (cI, 244, .inl gl)), (w3, .inl (cI, 1600, .inl fi)), (w5, .inl (cI, 1600, .inl se)), (w6, .inl (cI, 1600, .inl ot)), (w7, .inl (cI, 15030, .inl ro)), (w8, .inl (cI, 501, .inl si)), (w9, .inl (cI, 30, .inl fr)), (w0, .inr (5, [.ref w1, .ref w2, .int (nI y), .int te, .ref w3, .ref w4, .ref w5, .int nt, .int wb, .ref w6, .ref w7, .ref w8, .int rc, .ref w9, .ref w10, .ref w11, .ref w12, .ref w13, .ref w14, .int fp, .int ft, .int (nI (flN 0 1))]))] := hD
    refine jn_if_ne (tgt := 79) (a := 0) hx hb d_MD_finals_53 (by decide) (by decide) (fun c9 => absurd c9 (by decide)) (fun _ => ?_)
    refine lv_aload_n hx hb d_MD_finals_56 rfl (lv_at hl 0 rfl) ?_
    refine lv_iload_n hx hb d_MD_finals_57 rfl (lv_at hl 1 rfl) ?_
    refine lv_iconst (v := nI 1) hx hb d_MD_finals_58 (by decide +kernel) ?_
    refine lv_bipush (v := nI 30) hx hb d_MD_finals_59 (by decide +kernel) ?_
    refine vp_callSi (va_Run.run (va_runS (As := [.int x, .int (nI 1), .int (nI 30)]) (rest := [.ref w0]) ⟨hx, hb, hml, hown, hw⟩ (k_MD_within l D cI cJ x (nI 1) (nI 30)) (va_cwS 3 hw (gS kw_840 kw_841 kw_45 kw_842) rfl rfl rfl (by decide +kernel) ⟨Nat.le_of_ble_eq_true rfl, Nat.le_of_ble_eq_true rfl⟩) (pre_Sp (wc := []) hE hX hP hS [] rfl) rfl rfl hl.1 rfl (lv_room (Nat.le_of_ble_eq_true rfl)) d_MD_finals_61 ⟨Nat.le_of_ble_eq_true rfl, Nat.le_of_ble_eq_true rfl⟩)) (fun r_2 hr_2 => ?_)
    obtain rfl : nI (wiN x (nI 1) (nI 30)) = r_2 := hr_2.symm
    refine jn_if_ne (tgt := 71) (a := (wiN x (nI 1) (nI 30))) hx hb d_MD_finals_64 (by decide) (by have := wiN_le x (nI 1) (nI 30); omega) (fun c_64 => ?_) (fun c_64 => ?_)
    · skip
      refine lv_iconst (v := nI 0) hx hb d_MD_finals_71 (by decide +kernel) ?_
      refine lv_iconst (v := nI 2) hx hb d_MD_finals_72 (by decide +kernel) ?_
      refine cl_i (wr := [(w1, .inl (cI, 100, .inl sg)), (w2, .inl (cI, 244, .inl gl)), (w3, .inl (cI, 1600, .inl fi)), (w5, .inl (cI, 1600, .inl se)), (w6, .inl (cI, 1600, .inl ot)), (w7, .inl (cI, 15030, .inl ro)), (w8, .inl (cI, 501, .inl si)), (w9, .inl (cI, 30, .inl fr))]) (va_runV (As := [.int (nI 0), .int (nI 2)]) (rest := []) ⟨hx, hb, hml, hown, hw⟩ (k_MD_fails l D cI cJ w0 w1 w2 w3 w4 w5 w6 w7 w8 w9 w10 w11 w12 w13 w14 (nI y) te nt wb rc fp ft (nI (flN 0 1)) 0 2 _ (by omega)) (cwV 2 hw (gV kw_836 kw_838 kw_20 kw_45 kw_839) rfl rfl rfl (by decide +kernel) ⟨Nat.le_of_ble_eq_true rfl, Nat.le_of_ble_eq_true rfl⟩) (pre_Vw (wc := [(w0, .inr (5, [.ref w1, .ref w2, .int (nI y), .int te, .ref w3, .ref w4, .ref w5, .int nt, .int wb, .ref w6, .ref w7, .ref w8, .int rc, .ref w9, .ref w10, .ref w11, .ref w12, .ref w13, .ref w14, .int fp, .int ft, .int (nI (flN 0 1))]))]) (q0 := 0) hE hX hA hP hD hS [8] (by decide) rfl rfl rfl rfl) rfl rfl hl.1 rfl (lv_room (Nat.le_of_ble_eq_true rfl)) d_MD_finals_73 ⟨Nat.le_of_ble_eq_true rfl, Nat.le_of_ble_eq_true rfl⟩) hP hD hS hA [8] [0, 1, 2, 3, 4, 5, 6, 7] rfl rfl (by decide) (by decide) (fun r_3 u_r_3 H locs hr_3 hP hD hS => ?_)
      obtain rfl : nI 0 = r_3 := hr_3.symm
      have hP : va_P D vwCl [(w1, .inl (cI, 100, .inl sg)), (w2, .inl (cI, 244, .inl gl)), (w3, .inl (cI, 1600, .inl fi)), (w5, .inl (cI, 1600, .inl se)), (w6, .inl (cI, 1600, .inl ot)), (w7, .inl (cI, 15030, .inl ro)), (w8, .inl (cI, 501, .inl si)), (w9, .inl (cI, 30, .inl fr)), (w0, .inr (5, [.ref w1, .ref w2, .int (nI y), .int te, .ref w3, .ref w4, .ref w5, .int nt, .int wb, .ref w6, .ref w7, .ref w8, .int rc, .ref w9, .ref w10, .ref w11, .ref w12, .ref w13, .ref w14, .int fp, .int ft, .int (nI (flN 0 2))]))] H := hP
      have hD : va_D A [(w1, .inl (cI, 100, .inl sg)), (w2, .inl (cI, 244, .inl gl)), (w3, .inl (cI, 1600, .inl fi)), (w5, .inl (cI, 1600, .inl se)), (w6, .inl (cI, 1600, .inl ot)), (w7, .inl (cI, 15030, .inl ro)), (w8, .inl (cI, 501, .inl si)), (w9, .inl (cI, 30, .inl fr)), (w0, .inr (5, [.ref w1, .ref w2, .int (nI y), .int te, .ref w3, .ref w4, .ref w5, .int nt, .int wb, .ref w6, .ref w7, .ref w8, .int rc, .ref w9, .ref w10, .ref w11, .ref w12, .ref w13, .ref w14, .int fp, .int ft, .int (nI (flN 0 2))]))] := hD
      refine jn_if_eq (tgt := 81) (a := 0) hx hb d_MD_finals_76 (by decide) (by decide) (fun _ => ?_) (fun c9 => absurd c9 (by decide))
      obtain ⟨l9, hl1, hl2, rfl⟩ := wiN_nat c_64 (by decide) (by decide)
      refine lv_iload_n hx hb d_MD_finals_81 rfl (lv_at hl 1 rfl) ?_
      refine lv_iload_n hx hb d_MD_finals_82 rfl (lv_at hl 2 rfl) ?_
      refine jn_icmp_ge (tgt := 90) (a := l9) (b := a9) hx hb d_MD_finals_83 (by decide) (by omega) (by omega) (fun c_83 => ?_) (fun c_83 => ?_)
      · skip
        refine lv_iload_n hx hb d_MD_finals_90 rfl (lv_at hl 1 rfl) ?_
        refine lv_istore_n (lv' := [(3, .int (nI l9)), (0, .ref w0), (1, .int (nI l9)), (2, .int (nI a9))]) hx hb d_MD_finals_91 rfl hl (by decide) rfl (fun ls hl => ?_)
        refine lv_aload_n hx hb d_MD_finals_92 rfl (lv_at hl 1 rfl) ?_
        refine lv_iconst (v := nI 1) hx hb d_MD_finals_93 (by decide +kernel) ?_
        refine va_put (D := D) (ci := 5) (v := .int (nI 1)) (ty := .int) (C := R_MD) (T := T_MD) (N := 22) hx hb hw in_MD ty_MD ty_MD_ok nm_MD_ok hown hE.1 hP hD hS 8 rfl rfl 12 (by decide) (hw _ kw_773) (fun _ h9 => h9) rfl (by decide +kernel) rfl rfl (Nat.le_of_ble_eq_true rfl) d_MD_finals_94 (fun H locs hP hD hS => ?_)
        have hP : va_P D vwCl [(w1, .inl (cI, 100, .inl sg)), (w2, .inl (cI, 244, .inl gl)), (w3, .inl (cI, 1600, .inl fi)), (w5, .inl (cI, 1600, .inl se)), (w6, .inl (cI, 1600, .inl ot)), (w7, .inl (cI, 15030, .inl ro)), (w8, .inl (cI, 501, .inl si)), (w9, .inl (cI, 30, .inl fr)), (w0, .inr (5, [.ref w1, .ref w2, .int (nI y), .int te, .ref w3, .ref w4, .ref w5, .int nt, .int wb, .ref w6, .ref w7, .ref w8, .int (nI 1), .ref w9, .ref w10, .ref w11, .ref w12, .ref w13, .ref w14, .int fp, .int ft, .int (nI (flN 0 2))]))] H := hP
        have hD : va_D A [(w1, .inl (cI, 100, .inl sg)), (w2, .inl (cI, 244, .inl gl)), (w3, .inl (cI, 1600, .inl fi)), (w5, .inl (cI, 1600, .inl se)), (w6, .inl (cI, 1600, .inl ot)), (w7, .inl (cI, 15030, .inl ro)), (w8, .inl (cI, 501, .inl si)), (w9, .inl (cI, 30, .inl fr)), (w0, .inr (5, [.ref w1, .ref w2, .int (nI y), .int te, .ref w3, .ref w4, .ref w5, .int nt, .int wb, .ref w6, .ref w7, .ref w8, .int (nI 1), .ref w9, .ref w10, .ref w11, .ref w12, .ref w13, .ref w14, .int fp, .int ft, .int (nI (flN 0 2))]))] := hD
        refine lv_aload_n hx hb d_MD_finals_97 rfl (lv_at hl 1 rfl) ?_
        refine va_get (D := D) (ci := 5) (v := .ref w8) (C := R_MD) (T := T_MD) (N := 22) hx hb hw in_MD hown hE.1 hP 8 rfl rfl 11 (by decide) (hw _ kw_772) (fun _ h9 => h9) rfl d_MD_finals_98 ?_
        refine lv_iconst (v := nI 0) hx hb d_MD_finals_101 (by decide +kernel) ?_
        refine lv_iconst (v := nI 0) hx hb d_MD_finals_102 (by decide +kernel) ?_
        refine jn_iast (k := 0) hx hb hE.1 hP hD hS 6 0 rfl rfl (by omega) (by omega) d_MD_finals_103 (fun H locs hP hD hS => ?_)
        have hP : va_P D vwCl [(w1, .inl (cI, 100, .inl sg)), (w2, .inl (cI, 244, .inl gl)), (w3, .inl (cI, 1600, .inl fi)), (w5, .inl (cI, 1600, .inl se)), (w6, .inl (cI, 1600, .inl ot)), (w7, .inl (cI, 15030, .inl ro)), (w8, .inl (cI, 501, .inl (upd si 0 (nI 0)))), (w9, .inl (cI, 30, .inl fr)), (w0, .inr (5, [.ref w1, .ref w2, .int (nI y), .int te, .ref w3, .ref w4, .ref w5, .int nt, .int wb, .ref w6, .ref w7, .ref w8, .int (nI 1), .ref w9, .ref w10, .ref w11, .ref w12, .ref w13, .ref w14, .int fp, .int ft, .int (nI (flN 0 2))]))] H := hP
        have hD : va_D A [(w1, .inl (cI, 100, .inl sg)), (w2, .inl (cI, 244, .inl gl)), (w3, .inl (cI, 1600, .inl fi)), (w5, .inl (cI, 1600, .inl se)), (w6, .inl (cI, 1600, .inl ot)), (w7, .inl (cI, 15030, .inl ro)), (w8, .inl (cI, 501, .inl (upd si 0 (nI 0)))), (w9, .inl (cI, 30, .inl fr)), (w0, .inr (5, [.ref w1, .ref w2, .int (nI y), .int te, .ref w3, .ref w4, .ref w5, .int nt, .int wb, .ref w6, .ref w7, .ref w8, .int (nI 1), .ref w9, .ref w10, .ref w11, .ref w12, .ref w13, .ref w14, .int fp, .int ft, .int (nI (flN 0 2))]))] := hD
        refine lv_iconst (v := nI 0) hx hb d_MD_finals_104 (by decide +kernel) ?_
        refine lv_istore (lv' := [(4, .int (nI 0)), (3, .int (nI l9)), (0, .ref w0), (1, .int (nI l9)), (2, .int (nI a9))]) hx hb d_MD_finals_105 hl (by decide) rfl (fun ls hl => ?_)
        refine lv_iconst (v := nI 0) hx hb d_MD_finals_107 (by decide +kernel) ?_
        refine lv_istore (lv' := [(5, .int (nI 0)), (4, .int (nI 0)), (3, .int (nI l9)), (0, .ref w0), (1, .int (nI l9)), (2, .int (nI a9))]) hx hb d_MD_finals_108 hl (by decide) rfl (fun ls hl => ?_)
        refine lp_k_MD_finals_110 w0 w1 w2 w3 w4 w5 w6 w7 w8 w9 w10 w11 w12 w13 w14 y te nt wb rc fp ft th sg gl fi se ot ro si fr (nI l9) hy hfi hgl hse a9 l9 (by omega) (by omega) (by omega) hx hb hml hown hw hE hX hA (fun z9 hR H locs ls hP hD hS hl => ?_) (fun z9 hR H locs ls hP hD hS hl => ?_) (fun z9 hR H locs ls hP hD hS hl => ?_) ((501 - 0) + 1) 0 ((ro, upd si 0 (nI 0), fr, 1), ot, fp, ft, 0) (Nat.lt_succ_self _) (Nat.zero_le _) rfl (okRo_init _ _ _) (show 1 ≤ 500 by decide) _ _ _ (hP.sub [8, 0, 1, 2, 3, 4, 5, 6, 7] rfl) (hD.sub [8, 0, 1, 2, 3, 4, 5, 6, 7] (by decide) rfl) hS (lv_sub hl [3, 5, 2, 1, 0] rfl)
        · skip
          refine lv_iconst (v := (-1)) hx hb d_MD_finals_169 (by decide +kernel) ?_
          have hP9 := hP.sub (ws' := [(w0, .inr (5, [.ref w1, .ref w2, .int (nI y), .int te, .ref w3, .ref w4, .ref w5, .int nt, .int wb, .ref w6, .ref w7, .ref w8, .int (nI z9.1.2.2.2), .ref w9, .ref w10, .ref w11, .ref w12, .ref w13, .ref w14, .int z9.2.2.1, .int z9.2.2.2.1, .int (nI (flN 0 2))])), (w1, .inl (cI, 100, .inl sg)), (w2, .inl (cI, 244, .inl gl)), (w3, .inl (cI, 1600, .inl fi)), (w5, .inl (cI, 1600, .inl se)), (w6, .inl (cI, 1600, .inl z9.2.1)), (w7, .inl (cI, 15030, .inl z9.1.1)), (w8, .inl (cI, 501, .inl z9.1.2.1)), (w9, .inl (cI, 30, .inl z9.1.2.2.1))]) [0, 1, 2, 3, 4, 5, 6, 7, 8] rfl
          have hD9 := hD.sub (ws' := [(w0, .inr (5, [.ref w1, .ref w2, .int (nI y), .int te, .ref w3, .ref w4, .ref w5, .int nt, .int wb, .ref w6, .ref w7, .ref w8, .int (nI z9.1.2.2.2), .ref w9, .ref w10, .ref w11, .ref w12, .ref w13, .ref w14, .int z9.2.2.1, .int z9.2.2.2.1, .int (nI (flN 0 2))])), (w1, .inl (cI, 100, .inl sg)), (w2, .inl (cI, 244, .inl gl)), (w3, .inl (cI, 1600, .inl fi)), (w5, .inl (cI, 1600, .inl se)), (w6, .inl (cI, 1600, .inl z9.2.1)), (w7, .inl (cI, 15030, .inl z9.1.1)), (w8, .inl (cI, 501, .inl z9.1.2.1)), (w9, .inl (cI, 30, .inl z9.1.2.2.1))]) [0, 1, 2, 3, 4, 5, 6, 7, 8] (by decide) rfl
          exact W.iret (v := (-1)) hx hb hr (fun t9 ht hW => ⟨⟨_, (nI 0, (z9.2.1, z9.1.1, z9.1.2.1, z9.1.2.2.1), nI z9.1.2.2.2, z9.2.2.1, z9.2.2.2.1), rfl, (Or.inr (Or.inr ⟨by omega, c_64, rfl, Or.inl ⟨z9, by rw [(show moN (nn (nI l9)) (plN' fi se 1600) = l9 from by unfold moN; rw [nn_nI (show l9 < 2 ^ 31 by omega)]; exact if_neg (by omega)), ← ha9]; exact hR, rfl⟩⟩)), ⟨by rw [ht]; exact hP9, hD9⟩⟩, hS.F ht⟩) hS.2.2 d_MD_finals_170
        · skip
          refine lv_iconst (v := (-1)) hx hb d_MD_finals_220 (by decide +kernel) ?_
          have hP9 := hP.sub (ws' := [(w0, .inr (5, [.ref w1, .ref w2, .int (nI y), .int te, .ref w3, .ref w4, .ref w5, .int nt, .int wb, .ref w6, .ref w7, .ref w8, .int (nI z9.1.2.2.2), .ref w9, .ref w10, .ref w11, .ref w12, .ref w13, .ref w14, .int z9.2.2.1, .int z9.2.2.2.1, .int (nI (flN 0 2))])), (w1, .inl (cI, 100, .inl sg)), (w2, .inl (cI, 244, .inl gl)), (w3, .inl (cI, 1600, .inl fi)), (w5, .inl (cI, 1600, .inl se)), (w6, .inl (cI, 1600, .inl z9.2.1)), (w7, .inl (cI, 15030, .inl z9.1.1)), (w8, .inl (cI, 501, .inl z9.1.2.1)), (w9, .inl (cI, 30, .inl z9.1.2.2.1))]) [0, 1, 2, 3, 4, 5, 6, 7, 8] rfl
          have hD9 := hD.sub (ws' := [(w0, .inr (5, [.ref w1, .ref w2, .int (nI y), .int te, .ref w3, .ref w4, .ref w5, .int nt, .int wb, .ref w6, .ref w7, .ref w8, .int (nI z9.1.2.2.2), .ref w9, .ref w10, .ref w11, .ref w12, .ref w13, .ref w14, .int z9.2.2.1, .int z9.2.2.2.1, .int (nI (flN 0 2))])), (w1, .inl (cI, 100, .inl sg)), (w2, .inl (cI, 244, .inl gl)), (w3, .inl (cI, 1600, .inl fi)), (w5, .inl (cI, 1600, .inl se)), (w6, .inl (cI, 1600, .inl z9.2.1)), (w7, .inl (cI, 15030, .inl z9.1.1)), (w8, .inl (cI, 501, .inl z9.1.2.1)), (w9, .inl (cI, 30, .inl z9.1.2.2.1))]) [0, 1, 2, 3, 4, 5, 6, 7, 8] (by decide) rfl
          exact W.iret (v := (-1)) hx hb hr (fun t9 ht hW => ⟨⟨_, (nI 0, (z9.2.1, z9.1.1, z9.1.2.1, z9.1.2.2.1), nI z9.1.2.2.2, z9.2.2.1, z9.2.2.2.1), rfl, (Or.inr (Or.inr ⟨by omega, c_64, rfl, Or.inl ⟨z9, by rw [(show moN (nn (nI l9)) (plN' fi se 1600) = l9 from by unfold moN; rw [nn_nI (show l9 < 2 ^ 31 by omega)]; exact if_neg (by omega)), ← ha9]; exact hR, rfl⟩⟩)), ⟨by rw [ht]; exact hP9, hD9⟩⟩, hS.F ht⟩) hS.2.2 d_MD_finals_221
        · skip
          refine lv_iload hx hb d_MD_finals_234 (lv_at hl 0 rfl) ?_
          have hP9 := hP.sub (ws' := [(w0, .inr (5, [.ref w1, .ref w2, .int (nI y), .int te, .ref w3, .ref w4, .ref w5, .int nt, .int wb, .ref w6, .ref w7, .ref w8, .int (nI z9.1.2.2.2), .ref w9, .ref w10, .ref w11, .ref w12, .ref w13, .ref w14, .int z9.2.2.1, .int z9.2.2.2.1, .int (nI (flN 0 2))])), (w1, .inl (cI, 100, .inl sg)), (w2, .inl (cI, 244, .inl gl)), (w3, .inl (cI, 1600, .inl fi)), (w5, .inl (cI, 1600, .inl se)), (w6, .inl (cI, 1600, .inl z9.2.1)), (w7, .inl (cI, 15030, .inl z9.1.1)), (w8, .inl (cI, 501, .inl z9.1.2.1)), (w9, .inl (cI, 30, .inl z9.1.2.2.1))]) [0, 1, 2, 3, 4, 5, 6, 7, 8] rfl
          have hD9 := hD.sub (ws' := [(w0, .inr (5, [.ref w1, .ref w2, .int (nI y), .int te, .ref w3, .ref w4, .ref w5, .int nt, .int wb, .ref w6, .ref w7, .ref w8, .int (nI z9.1.2.2.2), .ref w9, .ref w10, .ref w11, .ref w12, .ref w13, .ref w14, .int z9.2.2.1, .int z9.2.2.2.1, .int (nI (flN 0 2))])), (w1, .inl (cI, 100, .inl sg)), (w2, .inl (cI, 244, .inl gl)), (w3, .inl (cI, 1600, .inl fi)), (w5, .inl (cI, 1600, .inl se)), (w6, .inl (cI, 1600, .inl z9.2.1)), (w7, .inl (cI, 15030, .inl z9.1.1)), (w8, .inl (cI, 501, .inl z9.1.2.1)), (w9, .inl (cI, 30, .inl z9.1.2.2.1))]) [0, 1, 2, 3, 4, 5, 6, 7, 8] (by decide) rfl
          exact W.iret (v := nI z9.2.2.2.2) hx hb hr (fun t9 ht hW => ⟨⟨_, (nI 0, (z9.2.1, z9.1.1, z9.1.2.1, z9.1.2.2.1), nI z9.1.2.2.2, z9.2.2.1, z9.2.2.2.1), rfl, (Or.inr (Or.inr ⟨by omega, c_64, rfl, Or.inr ⟨z9, by rw [(show moN (nn (nI l9)) (plN' fi se 1600) = l9 from by unfold moN; rw [nn_nI (show l9 < 2 ^ 31 by omega)]; exact if_neg (by omega)), ← ha9]; exact hR, rfl⟩⟩)), ⟨by rw [ht]; exact hP9, hD9⟩⟩, hS.F ht⟩) hS.2.2 d_MD_finals_236
      · skip
        refine lv_iload_n hx hb d_MD_finals_86 rfl (lv_at hl 2 rfl) ?_
        refine lv_goto (tgt := 91) hx hb d_MD_finals_87 (by decide) ?_
        refine lv_istore_n (lv' := [(3, .int (nI a9)), (0, .ref w0), (1, .int (nI l9)), (2, .int (nI a9))]) hx hb d_MD_finals_91 rfl hl (by decide) rfl (fun ls hl => ?_)
        refine lv_aload_n hx hb d_MD_finals_92 rfl (lv_at hl 1 rfl) ?_
        refine lv_iconst (v := nI 1) hx hb d_MD_finals_93 (by decide +kernel) ?_
        refine va_put (D := D) (ci := 5) (v := .int (nI 1)) (ty := .int) (C := R_MD) (T := T_MD) (N := 22) hx hb hw in_MD ty_MD ty_MD_ok nm_MD_ok hown hE.1 hP hD hS 8 rfl rfl 12 (by decide) (hw _ kw_773) (fun _ h9 => h9) rfl (by decide +kernel) rfl rfl (Nat.le_of_ble_eq_true rfl) d_MD_finals_94 (fun H locs hP hD hS => ?_)
        have hP : va_P D vwCl [(w1, .inl (cI, 100, .inl sg)), (w2, .inl (cI, 244, .inl gl)), (w3, .inl (cI, 1600, .inl fi)), (w5, .inl (cI, 1600, .inl se)), (w6, .inl (cI, 1600, .inl ot)), (w7, .inl (cI, 15030, .inl ro)), (w8, .inl (cI, 501, .inl si)), (w9, .inl (cI, 30, .inl fr)), (w0, .inr (5, [.ref w1, .ref w2, .int (nI y), .int te, .ref w3, .ref w4, .ref w5, .int nt, .int wb, .ref w6, .ref w7, .ref w8, .int (nI 1), .ref w9, .ref w10, .ref w11, .ref w12, .ref w13, .ref w14, .int fp, .int ft, .int (nI (flN 0 2))]))] H := hP
        have hD : va_D A [(w1, .inl (cI, 100, .inl sg)), (w2, .inl (cI, 244, .inl gl)), (w3, .inl (cI, 1600, .inl fi)), (w5, .inl (cI, 1600, .inl se)), (w6, .inl (cI, 1600, .inl ot)), (w7, .inl (cI, 15030, .inl ro)), (w8, .inl (cI, 501, .inl si)), (w9, .inl (cI, 30, .inl fr)), (w0, .inr (5, [.ref w1, .ref w2, .int (nI y), .int te, .ref w3, .ref w4, .ref w5, .int nt, .int wb, .ref w6, .ref w7, .ref w8, .int (nI 1), .ref w9, .ref w10, .ref w11, .ref w12, .ref w13, .ref w14, .int fp, .int ft, .int (nI (flN 0 2))]))] := hD
        refine lv_aload_n hx hb d_MD_finals_97 rfl (lv_at hl 1 rfl) ?_
        refine va_get (D := D) (ci := 5) (v := .ref w8) (C := R_MD) (T := T_MD) (N := 22) hx hb hw in_MD hown hE.1 hP 8 rfl rfl 11 (by decide) (hw _ kw_772) (fun _ h9 => h9) rfl d_MD_finals_98 ?_
        refine lv_iconst (v := nI 0) hx hb d_MD_finals_101 (by decide +kernel) ?_
        refine lv_iconst (v := nI 0) hx hb d_MD_finals_102 (by decide +kernel) ?_
        refine jn_iast (k := 0) hx hb hE.1 hP hD hS 6 0 rfl rfl (by omega) (by omega) d_MD_finals_103 (fun H locs hP hD hS => ?_)
        have hP : va_P D vwCl [(w1, .inl (cI, 100, .inl sg)), (w2, .inl (cI, 244, .inl gl)), (w3, .inl (cI, 1600, .inl fi)), (w5, .inl (cI, 1600, .inl se)), (w6, .inl (cI, 1600, .inl ot)), (w7, .inl (cI, 15030, .inl ro)), (w8, .inl (cI, 501, .inl (upd si 0 (nI 0)))), (w9, .inl (cI, 30, .inl fr)), (w0, .inr (5, [.ref w1, .ref w2, .int (nI y), .int te, .ref w3, .ref w4, .ref w5, .int nt, .int wb, .ref w6, .ref w7, .ref w8, .int (nI 1), .ref w9, .ref w10, .ref w11, .ref w12, .ref w13, .ref w14, .int fp, .int ft, .int (nI (flN 0 2))]))] H := hP
        have hD : va_D A [(w1, .inl (cI, 100, .inl sg)), (w2, .inl (cI, 244, .inl gl)), (w3, .inl (cI, 1600, .inl fi)), (w5, .inl (cI, 1600, .inl se)), (w6, .inl (cI, 1600, .inl ot)), (w7, .inl (cI, 15030, .inl ro)), (w8, .inl (cI, 501, .inl (upd si 0 (nI 0)))), (w9, .inl (cI, 30, .inl fr)), (w0, .inr (5, [.ref w1, .ref w2, .int (nI y), .int te, .ref w3, .ref w4, .ref w5, .int nt, .int wb, .ref w6, .ref w7, .ref w8, .int (nI 1), .ref w9, .ref w10, .ref w11, .ref w12, .ref w13, .ref w14, .int fp, .int ft, .int (nI (flN 0 2))]))] := hD
        refine lv_iconst (v := nI 0) hx hb d_MD_finals_104 (by decide +kernel) ?_
        refine lv_istore (lv' := [(4, .int (nI 0)), (3, .int (nI a9)), (0, .ref w0), (1, .int (nI l9)), (2, .int (nI a9))]) hx hb d_MD_finals_105 hl (by decide) rfl (fun ls hl => ?_)
        refine lv_iconst (v := nI 0) hx hb d_MD_finals_107 (by decide +kernel) ?_
        refine lv_istore (lv' := [(5, .int (nI 0)), (4, .int (nI 0)), (3, .int (nI a9)), (0, .ref w0), (1, .int (nI l9)), (2, .int (nI a9))]) hx hb d_MD_finals_108 hl (by decide) rfl (fun ls hl => ?_)
        refine lp_k_MD_finals_110 w0 w1 w2 w3 w4 w5 w6 w7 w8 w9 w10 w11 w12 w13 w14 y te nt wb rc fp ft th sg gl fi se ot ro si fr (nI l9) hy hfi hgl hse a9 a9 (by omega) (by omega) (by omega) hx hb hml hown hw hE hX hA (fun z9 hR H locs ls hP hD hS hl => ?_) (fun z9 hR H locs ls hP hD hS hl => ?_) (fun z9 hR H locs ls hP hD hS hl => ?_) ((501 - 0) + 1) 0 ((ro, upd si 0 (nI 0), fr, 1), ot, fp, ft, 0) (Nat.lt_succ_self _) (Nat.zero_le _) rfl (okRo_init _ _ _) (show 1 ≤ 500 by decide) _ _ _ (hP.sub [8, 0, 1, 2, 3, 4, 5, 6, 7] rfl) (hD.sub [8, 0, 1, 2, 3, 4, 5, 6, 7] (by decide) rfl) hS (lv_sub hl [3, 5, 2, 1, 0] rfl)
        · skip
          refine lv_iconst (v := (-1)) hx hb d_MD_finals_169 (by decide +kernel) ?_
          have hP9 := hP.sub (ws' := [(w0, .inr (5, [.ref w1, .ref w2, .int (nI y), .int te, .ref w3, .ref w4, .ref w5, .int nt, .int wb, .ref w6, .ref w7, .ref w8, .int (nI z9.1.2.2.2), .ref w9, .ref w10, .ref w11, .ref w12, .ref w13, .ref w14, .int z9.2.2.1, .int z9.2.2.2.1, .int (nI (flN 0 2))])), (w1, .inl (cI, 100, .inl sg)), (w2, .inl (cI, 244, .inl gl)), (w3, .inl (cI, 1600, .inl fi)), (w5, .inl (cI, 1600, .inl se)), (w6, .inl (cI, 1600, .inl z9.2.1)), (w7, .inl (cI, 15030, .inl z9.1.1)), (w8, .inl (cI, 501, .inl z9.1.2.1)), (w9, .inl (cI, 30, .inl z9.1.2.2.1))]) [0, 1, 2, 3, 4, 5, 6, 7, 8] rfl
          have hD9 := hD.sub (ws' := [(w0, .inr (5, [.ref w1, .ref w2, .int (nI y), .int te, .ref w3, .ref w4, .ref w5, .int nt, .int wb, .ref w6, .ref w7, .ref w8, .int (nI z9.1.2.2.2), .ref w9, .ref w10, .ref w11, .ref w12, .ref w13, .ref w14, .int z9.2.2.1, .int z9.2.2.2.1, .int (nI (flN 0 2))])), (w1, .inl (cI, 100, .inl sg)), (w2, .inl (cI, 244, .inl gl)), (w3, .inl (cI, 1600, .inl fi)), (w5, .inl (cI, 1600, .inl se)), (w6, .inl (cI, 1600, .inl z9.2.1)), (w7, .inl (cI, 15030, .inl z9.1.1)), (w8, .inl (cI, 501, .inl z9.1.2.1)), (w9, .inl (cI, 30, .inl z9.1.2.2.1))]) [0, 1, 2, 3, 4, 5, 6, 7, 8] (by decide) rfl
          exact W.iret (v := (-1)) hx hb hr (fun t9 ht hW => ⟨⟨_, (nI 0, (z9.2.1, z9.1.1, z9.1.2.1, z9.1.2.2.1), nI z9.1.2.2.2, z9.2.2.1, z9.2.2.2.1), rfl, (Or.inr (Or.inr ⟨by omega, c_64, rfl, Or.inl ⟨z9, by rw [(show moN (nn (nI l9)) (plN' fi se 1600) = a9 from by unfold moN; rw [nn_nI (show l9 < 2 ^ 31 by omega)]; exact (if_pos (by omega)).trans ha9.symm), ← ha9]; exact hR, rfl⟩⟩)), ⟨by rw [ht]; exact hP9, hD9⟩⟩, hS.F ht⟩) hS.2.2 d_MD_finals_170
        · skip
          refine lv_iconst (v := (-1)) hx hb d_MD_finals_220 (by decide +kernel) ?_
          have hP9 := hP.sub (ws' := [(w0, .inr (5, [.ref w1, .ref w2, .int (nI y), .int te, .ref w3, .ref w4, .ref w5, .int nt, .int wb, .ref w6, .ref w7, .ref w8, .int (nI z9.1.2.2.2), .ref w9, .ref w10, .ref w11, .ref w12, .ref w13, .ref w14, .int z9.2.2.1, .int z9.2.2.2.1, .int (nI (flN 0 2))])), (w1, .inl (cI, 100, .inl sg)), (w2, .inl (cI, 244, .inl gl)), (w3, .inl (cI, 1600, .inl fi)), (w5, .inl (cI, 1600, .inl se)), (w6, .inl (cI, 1600, .inl z9.2.1)), (w7, .inl (cI, 15030, .inl z9.1.1)), (w8, .inl (cI, 501, .inl z9.1.2.1)), (w9, .inl (cI, 30, .inl z9.1.2.2.1))]) [0, 1, 2, 3, 4, 5, 6, 7, 8] rfl
          have hD9 := hD.sub (ws' := [(w0, .inr (5, [.ref w1, .ref w2, .int (nI y), .int te, .ref w3, .ref w4, .ref w5, .int nt, .int wb, .ref w6, .ref w7, .ref w8, .int (nI z9.1.2.2.2), .ref w9, .ref w10, .ref w11, .ref w12, .ref w13, .ref w14, .int z9.2.2.1, .int z9.2.2.2.1, .int (nI (flN 0 2))])), (w1, .inl (cI, 100, .inl sg)), (w2, .inl (cI, 244, .inl gl)), (w3, .inl (cI, 1600, .inl fi)), (w5, .inl (cI, 1600, .inl se)), (w6, .inl (cI, 1600, .inl z9.2.1)), (w7, .inl (cI, 15030, .inl z9.1.1)), (w8, .inl (cI, 501, .inl z9.1.2.1)), (w9, .inl (cI, 30, .inl z9.1.2.2.1))]) [0, 1, 2, 3, 4, 5, 6, 7, 8] (by decide) rfl
          exact W.iret (v := (-1)) hx hb hr (fun t9 ht hW => ⟨⟨_, (nI 0, (z9.2.1, z9.1.1, z9.1.2.1, z9.1.2.2.1), nI z9.1.2.2.2, z9.2.2.1, z9.2.2.2.1), rfl, (Or.inr (Or.inr ⟨by omega, c_64, rfl, Or.inl ⟨z9, by rw [(show moN (nn (nI l9)) (plN' fi se 1600) = a9 from by unfold moN; rw [nn_nI (show l9 < 2 ^ 31 by omega)]; exact (if_pos (by omega)).trans ha9.symm), ← ha9]; exact hR, rfl⟩⟩)), ⟨by rw [ht]; exact hP9, hD9⟩⟩, hS.F ht⟩) hS.2.2 d_MD_finals_221
        · skip
          refine lv_iload hx hb d_MD_finals_234 (lv_at hl 0 rfl) ?_
          have hP9 := hP.sub (ws' := [(w0, .inr (5, [.ref w1, .ref w2, .int (nI y), .int te, .ref w3, .ref w4, .ref w5, .int nt, .int wb, .ref w6, .ref w7, .ref w8, .int (nI z9.1.2.2.2), .ref w9, .ref w10, .ref w11, .ref w12, .ref w13, .ref w14, .int z9.2.2.1, .int z9.2.2.2.1, .int (nI (flN 0 2))])), (w1, .inl (cI, 100, .inl sg)), (w2, .inl (cI, 244, .inl gl)), (w3, .inl (cI, 1600, .inl fi)), (w5, .inl (cI, 1600, .inl se)), (w6, .inl (cI, 1600, .inl z9.2.1)), (w7, .inl (cI, 15030, .inl z9.1.1)), (w8, .inl (cI, 501, .inl z9.1.2.1)), (w9, .inl (cI, 30, .inl z9.1.2.2.1))]) [0, 1, 2, 3, 4, 5, 6, 7, 8] rfl
          have hD9 := hD.sub (ws' := [(w0, .inr (5, [.ref w1, .ref w2, .int (nI y), .int te, .ref w3, .ref w4, .ref w5, .int nt, .int wb, .ref w6, .ref w7, .ref w8, .int (nI z9.1.2.2.2), .ref w9, .ref w10, .ref w11, .ref w12, .ref w13, .ref w14, .int z9.2.2.1, .int z9.2.2.2.1, .int (nI (flN 0 2))])), (w1, .inl (cI, 100, .inl sg)), (w2, .inl (cI, 244, .inl gl)), (w3, .inl (cI, 1600, .inl fi)), (w5, .inl (cI, 1600, .inl se)), (w6, .inl (cI, 1600, .inl z9.2.1)), (w7, .inl (cI, 15030, .inl z9.1.1)), (w8, .inl (cI, 501, .inl z9.1.2.1)), (w9, .inl (cI, 30, .inl z9.1.2.2.1))]) [0, 1, 2, 3, 4, 5, 6, 7, 8] (by decide) rfl
          exact W.iret (v := nI z9.2.2.2.2) hx hb hr (fun t9 ht hW => ⟨⟨_, (nI 0, (z9.2.1, z9.1.1, z9.1.2.1, z9.1.2.2.1), nI z9.1.2.2.2, z9.2.2.1, z9.2.2.2.1), rfl, (Or.inr (Or.inr ⟨by omega, c_64, rfl, Or.inr ⟨z9, by rw [(show moN (nn (nI l9)) (plN' fi se 1600) = a9 from by unfold moN; rw [nn_nI (show l9 < 2 ^ 31 by omega)]; exact (if_pos (by omega)).trans ha9.symm), ← ha9]; exact hR, rfl⟩⟩)), ⟨by rw [ht]; exact hP9, hD9⟩⟩, hS.F ht⟩) hS.2.2 d_MD_finals_236
    · skip
      refine lv_iconst (v := nI 1) hx hb d_MD_finals_67 (by decide +kernel) ?_
      refine lv_goto (tgt := 72) hx hb d_MD_finals_68 (by decide) ?_
      refine lv_iconst (v := nI 2) hx hb d_MD_finals_72 (by decide +kernel) ?_
      refine cl_i (wr := [(w1, .inl (cI, 100, .inl sg)), (w2, .inl (cI, 244, .inl gl)), (w3, .inl (cI, 1600, .inl fi)), (w5, .inl (cI, 1600, .inl se)), (w6, .inl (cI, 1600, .inl ot)), (w7, .inl (cI, 15030, .inl ro)), (w8, .inl (cI, 501, .inl si)), (w9, .inl (cI, 30, .inl fr))]) (va_runV (As := [.int (nI 1), .int (nI 2)]) (rest := []) ⟨hx, hb, hml, hown, hw⟩ (k_MD_fails l D cI cJ w0 w1 w2 w3 w4 w5 w6 w7 w8 w9 w10 w11 w12 w13 w14 (nI y) te nt wb rc fp ft (nI (flN 0 1)) 1 2 _ (by omega)) (cwV 2 hw (gV kw_836 kw_838 kw_20 kw_45 kw_839) rfl rfl rfl (by decide +kernel) ⟨Nat.le_of_ble_eq_true rfl, Nat.le_of_ble_eq_true rfl⟩) (pre_Vw (wc := [(w0, .inr (5, [.ref w1, .ref w2, .int (nI y), .int te, .ref w3, .ref w4, .ref w5, .int nt, .int wb, .ref w6, .ref w7, .ref w8, .int rc, .ref w9, .ref w10, .ref w11, .ref w12, .ref w13, .ref w14, .int fp, .int ft, .int (nI (flN 0 1))]))]) (q0 := 0) hE hX hA hP hD hS [8] (by decide) rfl rfl rfl rfl) rfl rfl hl.1 rfl (lv_room (Nat.le_of_ble_eq_true rfl)) d_MD_finals_73 ⟨Nat.le_of_ble_eq_true rfl, Nat.le_of_ble_eq_true rfl⟩) hP hD hS hA [8] [0, 1, 2, 3, 4, 5, 6, 7] rfl rfl (by decide) (by decide) (fun r_4 u_r_4 H locs hr_4 hP hD hS => ?_)
      obtain rfl : nI 1 = r_4 := hr_4.symm
      have hP : va_P D vwCl [(w1, .inl (cI, 100, .inl sg)), (w2, .inl (cI, 244, .inl gl)), (w3, .inl (cI, 1600, .inl fi)), (w5, .inl (cI, 1600, .inl se)), (w6, .inl (cI, 1600, .inl ot)), (w7, .inl (cI, 15030, .inl ro)), (w8, .inl (cI, 501, .inl si)), (w9, .inl (cI, 30, .inl fr)), (w0, .inr (5, [.ref w1, .ref w2, .int (nI y), .int te, .ref w3, .ref w4, .ref w5, .int nt, .int wb, .ref w6, .ref w7, .ref w8, .int rc, .ref w9, .ref w10, .ref w11, .ref w12, .ref w13, .ref w14, .int fp, .int ft, .int (nI (flN 1 2))]))] H := hP
      have hD : va_D A [(w1, .inl (cI, 100, .inl sg)), (w2, .inl (cI, 244, .inl gl)), (w3, .inl (cI, 1600, .inl fi)), (w5, .inl (cI, 1600, .inl se)), (w6, .inl (cI, 1600, .inl ot)), (w7, .inl (cI, 15030, .inl ro)), (w8, .inl (cI, 501, .inl si)), (w9, .inl (cI, 30, .inl fr)), (w0, .inr (5, [.ref w1, .ref w2, .int (nI y), .int te, .ref w3, .ref w4, .ref w5, .int nt, .int wb, .ref w6, .ref w7, .ref w8, .int rc, .ref w9, .ref w10, .ref w11, .ref w12, .ref w13, .ref w14, .int fp, .int ft, .int (nI (flN 1 2))]))] := hD
      refine jn_if_eq (tgt := 81) (a := 1) hx hb d_MD_finals_76 (by decide) (by decide) (fun c9 => absurd c9 (by decide)) (fun _ => ?_)
      refine lv_iconst (v := nI 0) hx hb d_MD_finals_79 (by decide +kernel) ?_
      have hP9 := hP.sub (ws' := [(w0, .inr (5, [.ref w1, .ref w2, .int (nI y), .int te, .ref w3, .ref w4, .ref w5, .int nt, .int wb, .ref w6, .ref w7, .ref w8, .int rc, .ref w9, .ref w10, .ref w11, .ref w12, .ref w13, .ref w14, .int fp, .int ft, .int (nI (flN 1 2))])), (w1, .inl (cI, 100, .inl sg)), (w2, .inl (cI, 244, .inl gl)), (w3, .inl (cI, 1600, .inl fi)), (w5, .inl (cI, 1600, .inl se)), (w6, .inl (cI, 1600, .inl ot)), (w7, .inl (cI, 15030, .inl ro)), (w8, .inl (cI, 501, .inl si)), (w9, .inl (cI, 30, .inl fr))]) [8, 0, 1, 2, 3, 4, 5, 6, 7] rfl
      have hD9 := hD.sub (ws' := [(w0, .inr (5, [.ref w1, .ref w2, .int (nI y), .int te, .ref w3, .ref w4, .ref w5, .int nt, .int wb, .ref w6, .ref w7, .ref w8, .int rc, .ref w9, .ref w10, .ref w11, .ref w12, .ref w13, .ref w14, .int fp, .int ft, .int (nI (flN 1 2))])), (w1, .inl (cI, 100, .inl sg)), (w2, .inl (cI, 244, .inl gl)), (w3, .inl (cI, 1600, .inl fi)), (w5, .inl (cI, 1600, .inl se)), (w6, .inl (cI, 1600, .inl ot)), (w7, .inl (cI, 15030, .inl ro)), (w8, .inl (cI, 501, .inl si)), (w9, .inl (cI, 30, .inl fr))]) [8, 0, 1, 2, 3, 4, 5, 6, 7] (by decide) rfl
      exact W.iret (v := nI 0) hx hb hr (fun t9 ht hW => ⟨⟨_, (nI 2, (ot, ro, si, fr), rc, fp, ft), rfl, (Or.inr (Or.inl ⟨by omega, c_64, rfl, rfl⟩)), ⟨by rw [ht]; exact hP9, hD9⟩⟩, hS.F ht⟩) hS.2.2 d_MD_finals_80
  · skip
    refine lv_iconst (v := nI 1) hx hb d_MD_finals_44 (by decide +kernel) ?_
    refine lv_goto (tgt := 49) hx hb d_MD_finals_45 (by decide) ?_
    refine lv_iconst (v := nI 1) hx hb d_MD_finals_49 (by decide +kernel) ?_
    refine cl_i (wr := [(w1, .inl (cI, 100, .inl sg)), (w2, .inl (cI, 244, .inl gl)), (w3, .inl (cI, 1600, .inl fi)), (w5, .inl (cI, 1600, .inl se)), (w6, .inl (cI, 1600, .inl ot)), (w7, .inl (cI, 15030, .inl ro)), (w8, .inl (cI, 501, .inl si)), (w9, .inl (cI, 30, .inl fr))]) (va_runV (As := [.int (nI 1), .int (nI 1)]) (rest := []) ⟨hx, hb, hml, hown, hw⟩ (k_MD_fails l D cI cJ w0 w1 w2 w3 w4 w5 w6 w7 w8 w9 w10 w11 w12 w13 w14 (nI y) te nt wb rc fp ft th 1 1 _ (by omega)) (cwV 2 hw (gV kw_836 kw_838 kw_20 kw_45 kw_839) rfl rfl rfl (by decide +kernel) ⟨Nat.le_of_ble_eq_true rfl, Nat.le_of_ble_eq_true rfl⟩) (pre_Vw (wc := [(w0, .inr (5, [.ref w1, .ref w2, .int (nI y), .int te, .ref w3, .ref w4, .ref w5, .int nt, .int wb, .ref w6, .ref w7, .ref w8, .int rc, .ref w9, .ref w10, .ref w11, .ref w12, .ref w13, .ref w14, .int fp, .int ft, .int th]))]) (q0 := 0) hE hX hA hP hD hS [0] (by decide) rfl rfl rfl rfl) rfl rfl hl.1 rfl (lv_room (Nat.le_of_ble_eq_true rfl)) d_MD_finals_50 ⟨Nat.le_of_ble_eq_true rfl, Nat.le_of_ble_eq_true rfl⟩) hP hD hS hA [0] [1, 2, 3, 4, 5, 6, 7, 8] rfl rfl (by decide) (by decide) (fun r_5 u_r_5 H locs hr_5 hP hD hS => ?_)
    obtain rfl : nI 1 = r_5 := hr_5.symm
    have hP : va_P D vwCl [(w1, .inl (cI, 100, .inl sg)), (w2, .inl (cI, 244, .inl gl)), (w3, .inl (cI, 1600, .inl fi)), (w5, .inl (cI, 1600, .inl se)), (w6, .inl (cI, 1600, .inl ot)), (w7, .inl (cI, 15030, .inl ro)), (w8, .inl (cI, 501, .inl si)), (w9, .inl (cI, 30, .inl fr)), (w0, .inr (5, [.ref w1, .ref w2, .int (nI y), .int te, .ref w3, .ref w4, .ref w5, .int nt, .int wb, .ref w6, .ref w7, .ref w8, .int rc, .ref w9, .ref w10, .ref w11, .ref w12, .ref w13, .ref w14, .int fp, .int ft, .int (nI (flN 1 1))]))] H := hP
    have hD : va_D A [(w1, .inl (cI, 100, .inl sg)), (w2, .inl (cI, 244, .inl gl)), (w3, .inl (cI, 1600, .inl fi)), (w5, .inl (cI, 1600, .inl se)), (w6, .inl (cI, 1600, .inl ot)), (w7, .inl (cI, 15030, .inl ro)), (w8, .inl (cI, 501, .inl si)), (w9, .inl (cI, 30, .inl fr)), (w0, .inr (5, [.ref w1, .ref w2, .int (nI y), .int te, .ref w3, .ref w4, .ref w5, .int nt, .int wb, .ref w6, .ref w7, .ref w8, .int rc, .ref w9, .ref w10, .ref w11, .ref w12, .ref w13, .ref w14, .int fp, .int ft, .int (nI (flN 1 1))]))] := hD
    refine jn_if_ne (tgt := 79) (a := 1) hx hb d_MD_finals_53 (by decide) (by decide) (fun _ => ?_) (fun c9 => absurd c9 (by decide))
    refine lv_iconst (v := nI 0) hx hb d_MD_finals_79 (by decide +kernel) ?_
    have hP9 := hP.sub (ws' := [(w0, .inr (5, [.ref w1, .ref w2, .int (nI y), .int te, .ref w3, .ref w4, .ref w5, .int nt, .int wb, .ref w6, .ref w7, .ref w8, .int rc, .ref w9, .ref w10, .ref w11, .ref w12, .ref w13, .ref w14, .int fp, .int ft, .int (nI (flN 1 1))])), (w1, .inl (cI, 100, .inl sg)), (w2, .inl (cI, 244, .inl gl)), (w3, .inl (cI, 1600, .inl fi)), (w5, .inl (cI, 1600, .inl se)), (w6, .inl (cI, 1600, .inl ot)), (w7, .inl (cI, 15030, .inl ro)), (w8, .inl (cI, 501, .inl si)), (w9, .inl (cI, 30, .inl fr))]) [8, 0, 1, 2, 3, 4, 5, 6, 7] rfl
    have hD9 := hD.sub (ws' := [(w0, .inr (5, [.ref w1, .ref w2, .int (nI y), .int te, .ref w3, .ref w4, .ref w5, .int nt, .int wb, .ref w6, .ref w7, .ref w8, .int rc, .ref w9, .ref w10, .ref w11, .ref w12, .ref w13, .ref w14, .int fp, .int ft, .int (nI (flN 1 1))])), (w1, .inl (cI, 100, .inl sg)), (w2, .inl (cI, 244, .inl gl)), (w3, .inl (cI, 1600, .inl fi)), (w5, .inl (cI, 1600, .inl se)), (w6, .inl (cI, 1600, .inl ot)), (w7, .inl (cI, 15030, .inl ro)), (w8, .inl (cI, 501, .inl si)), (w9, .inl (cI, 30, .inl fr))]) [8, 0, 1, 2, 3, 4, 5, 6, 7] (by decide) rfl
    exact W.iret (v := nI 0) hx hb hr (fun t9 ht hW => ⟨⟨_, (nI 1, (ot, ro, si, fr), rc, fp, ft), rfl, (Or.inl ⟨by omega, rfl, rfl⟩), ⟨by rw [ht]; exact hP9, hD9⟩⟩, hS.F ht⟩) hS.2.2 d_MD_finals_80
