theorem d_MD_breach_0 : decode c_MD_breach 0 = .ok (.aload_n 0, 1) := by decide +kernel
theorem d_MD_breach_1 : decode c_MD_breach 1 = .ok (.iload_n 1, 1) := by decide +kernel
theorem d_MD_breach_2 : decode c_MD_breach 2 = .ok (.iconst 0, 1) := by decide +kernel
theorem d_MD_breach_3 : decode c_MD_breach 3 = .ok (.iconst 3, 1) := by decide +kernel
theorem d_MD_breach_4 : decode c_MD_breach 4 = .ok (.invokestatic 59, 3) := by decide +kernel
theorem d_MD_breach_7 : decode c_MD_breach 7 = .ok (.ifCond .ne 7, 3) := by decide +kernel
theorem d_MD_breach_10 : decode c_MD_breach 10 = .ok (.iconst 1, 1) := by decide +kernel
theorem d_MD_breach_11 : decode c_MD_breach 11 = .ok (.goto 4, 3) := by decide +kernel
theorem d_MD_breach_14 : decode c_MD_breach 14 = .ok (.iconst 0, 1) := by decide +kernel
theorem d_MD_breach_15 : decode c_MD_breach 15 = .ok (.iconst 1, 1) := by decide +kernel
theorem d_MD_breach_16 : decode c_MD_breach 16 = .ok (.invokevirtual 105, 3) := by decide +kernel
theorem d_MD_breach_19 : decode c_MD_breach 19 = .ok (.ifCond .eq 5, 3) := by decide +kernel
theorem d_MD_breach_22 : decode c_MD_breach 22 = .ok (.iconst 0, 1) := by decide +kernel
theorem d_MD_breach_23 : decode c_MD_breach 23 = .ok (.ireturn, 1) := by decide +kernel
theorem d_MD_breach_24 : decode c_MD_breach 24 = .ok (.aload_n 0, 1) := by decide +kernel
theorem d_MD_breach_25 : decode c_MD_breach 25 = .ok (.invokevirtual 138, 3) := by decide +kernel
theorem d_MD_breach_28 : decode c_MD_breach 28 = .ok (.istore_n 2, 1) := by decide +kernel
theorem d_MD_breach_29 : decode c_MD_breach 29 = .ok (.iload_n 1, 1) := by decide +kernel
theorem d_MD_breach_30 : decode c_MD_breach 30 = .ok (.ifCond .ne 5, 3) := by decide +kernel
theorem d_MD_breach_33 : decode c_MD_breach 33 = .ok (.iload_n 2, 1) := by decide +kernel
theorem d_MD_breach_34 : decode c_MD_breach 34 = .ok (.ireturn, 1) := by decide +kernel
theorem d_MD_breach_35 : decode c_MD_breach 35 = .ok (.iload_n 2, 1) := by decide +kernel
theorem d_MD_breach_36 : decode c_MD_breach 36 = .ok (.ifCond .ne 7, 3) := by decide +kernel
theorem d_MD_breach_39 : decode c_MD_breach 39 = .ok (.iconst (-1), 1) := by decide +kernel
theorem d_MD_breach_40 : decode c_MD_breach 40 = .ok (.goto 37, 3) := by decide +kernel
theorem d_MD_breach_43 : decode c_MD_breach 43 = .ok (.iload_n 1, 1) := by decide +kernel
theorem d_MD_breach_44 : decode c_MD_breach 44 = .ok (.iconst 1, 1) := by decide +kernel
theorem d_MD_breach_45 : decode c_MD_breach 45 = .ok (.if_icmp .ne 13, 3) := by decide +kernel
theorem d_MD_breach_48 : decode c_MD_breach 48 = .ok (.aload_n 0, 1) := by decide +kernel
theorem d_MD_breach_49 : decode c_MD_breach 49 = .ok (.getfield 92, 3) := by decide +kernel
theorem d_MD_breach_52 : decode c_MD_breach 52 = .ok (.bipush 40, 2) := by decide +kernel
theorem d_MD_breach_54 : decode c_MD_breach 54 = .ok (.irem, 1) := by decide +kernel
theorem d_MD_breach_55 : decode c_MD_breach 55 = .ok (.goto 22, 3) := by decide +kernel
theorem d_MD_breach_58 : decode c_MD_breach 58 = .ok (.iload_n 1, 1) := by decide +kernel
theorem d_MD_breach_59 : decode c_MD_breach 59 = .ok (.iconst 2, 1) := by decide +kernel
theorem d_MD_breach_60 : decode c_MD_breach 60 = .ok (.if_icmp .ne 13, 3) := by decide +kernel
theorem d_MD_breach_63 : decode c_MD_breach 63 = .ok (.aload_n 0, 1) := by decide +kernel
theorem d_MD_breach_64 : decode c_MD_breach 64 = .ok (.getfield 92, 3) := by decide +kernel
theorem d_MD_breach_67 : decode c_MD_breach 67 = .ok (.bipush 40, 2) := by decide +kernel
theorem d_MD_breach_69 : decode c_MD_breach 69 = .ok (.idiv, 1) := by decide +kernel
theorem d_MD_breach_70 : decode c_MD_breach 70 = .ok (.goto 7, 3) := by decide +kernel
theorem d_MD_breach_73 : decode c_MD_breach 73 = .ok (.aload_n 0, 1) := by decide +kernel
theorem d_MD_breach_74 : decode c_MD_breach 74 = .ok (.getfield 95, 3) := by decide +kernel
theorem d_MD_breach_77 : decode c_MD_breach 77 = .ok (.ireturn, 1) := by decide +kernel
theorem d_MD_firstBreach_0 : decode c_MD_firstBreach 0 = .ok (.iconst 0, 1) := by decide +kernel
theorem d_MD_firstBreach_1 : decode c_MD_firstBreach 1 = .ok (.istore_n 1, 1) := by decide +kernel
theorem d_MD_firstBreach_2 : decode c_MD_firstBreach 2 = .ok (.iload_n 1, 1) := by decide +kernel
theorem d_MD_firstBreach_3 : decode c_MD_firstBreach 3 = .ok (.sipush 1600, 3) := by decide +kernel
theorem d_MD_firstBreach_6 : decode c_MD_firstBreach 6 = .ok (.if_icmp .ge 170, 3) := by decide +kernel
theorem d_MD_firstBreach_9 : decode c_MD_firstBreach 9 = .ok (.aload_n 0, 1) := by decide +kernel
theorem d_MD_firstBreach_10 : decode c_MD_firstBreach 10 = .ok (.getfield 20, 3) := by decide +kernel
theorem d_MD_firstBreach_13 : decode c_MD_firstBreach 13 = .ok (.iload_n 1, 1) := by decide +kernel
theorem d_MD_firstBreach_14 : decode c_MD_firstBreach 14 = .ok (.iaload, 1) := by decide +kernel
theorem d_MD_firstBreach_15 : decode c_MD_firstBreach 15 = .ok (.ifCond .eq 155, 3) := by decide +kernel
theorem d_MD_firstBreach_18 : decode c_MD_firstBreach 18 = .ok (.aload_n 0, 1) := by decide +kernel
theorem d_MD_firstBreach_19 : decode c_MD_firstBreach 19 = .ok (.getfield 26, 3) := by decide +kernel
theorem d_MD_firstBreach_22 : decode c_MD_firstBreach 22 = .ok (.iload_n 1, 1) := by decide +kernel
theorem d_MD_firstBreach_23 : decode c_MD_firstBreach 23 = .ok (.iaload, 1) := by decide +kernel
theorem d_MD_firstBreach_24 : decode c_MD_firstBreach 24 = .ok (.iconst 1, 1) := by decide +kernel
theorem d_MD_firstBreach_25 : decode c_MD_firstBreach 25 = .ok (.if_icmp .ne 6, 3) := by decide +kernel
theorem d_MD_firstBreach_28 : decode c_MD_firstBreach 28 = .ok (.goto 142, 3) := by decide +kernel
theorem d_MD_firstBreach_31 : decode c_MD_firstBreach 31 = .ok (.iconst 0, 1) := by decide +kernel
theorem d_MD_firstBreach_32 : decode c_MD_firstBreach 32 = .ok (.istore_n 2, 1) := by decide +kernel
theorem d_MD_firstBreach_33 : decode c_MD_firstBreach 33 = .ok (.iconst 0, 1) := by decide +kernel
theorem d_MD_firstBreach_34 : decode c_MD_firstBreach 34 = .ok (.istore_n 3, 1) := by decide +kernel
theorem d_MD_firstBreach_35 : decode c_MD_firstBreach 35 = .ok (.iload_n 3, 1) := by decide +kernel
theorem d_MD_firstBreach_36 : decode c_MD_firstBreach 36 = .ok (.iconst 4, 1) := by decide +kernel
theorem d_MD_firstBreach_37 : decode c_MD_firstBreach 37 = .ok (.if_icmp .ge 46, 3) := by decide +kernel
theorem d_MD_firstBreach_40 : decode c_MD_firstBreach 40 = .ok (.iload_n 2, 1) := by decide +kernel
theorem d_MD_firstBreach_41 : decode c_MD_firstBreach 41 = .ok (.aload_n 0, 1) := by decide +kernel
theorem d_MD_firstBreach_42 : decode c_MD_firstBreach 42 = .ok (.getfield 23, 3) := by decide +kernel
theorem d_MD_firstBreach_45 : decode c_MD_firstBreach 45 = .ok (.iload_n 1, 1) := by decide +kernel
theorem d_MD_firstBreach_46 : decode c_MD_firstBreach 46 = .ok (.iaload, 1) := by decide +kernel
theorem d_MD_firstBreach_47 : decode c_MD_firstBreach 47 = .ok (.iload_n 3, 1) := by decide +kernel
theorem d_MD_firstBreach_48 : decode c_MD_firstBreach 48 = .ok (.ishr, 1) := by decide +kernel
theorem d_MD_firstBreach_49 : decode c_MD_firstBreach 49 = .ok (.iconst 1, 1) := by decide +kernel
theorem d_MD_firstBreach_50 : decode c_MD_firstBreach 50 = .ok (.iand, 1) := by decide +kernel
theorem d_MD_firstBreach_51 : decode c_MD_firstBreach 51 = .ok (.iconst 1, 1) := by decide +kernel
theorem d_MD_firstBreach_52 : decode c_MD_firstBreach 52 = .ok (.if_icmp .ne 22, 3) := by decide +kernel
theorem d_MD_firstBreach_55 : decode c_MD_firstBreach 55 = .ok (.aload_n 0, 1) := by decide +kernel
theorem d_MD_firstBreach_56 : decode c_MD_firstBreach 56 = .ok (.getfield 7, 3) := by decide +kernel
theorem d_MD_firstBreach_59 : decode c_MD_firstBreach 59 = .ok (.aload_n 0, 1) := by decide +kernel
theorem d_MD_firstBreach_60 : decode c_MD_firstBreach 60 = .ok (.aload_n 0, 1) := by decide +kernel
theorem d_MD_firstBreach_61 : decode c_MD_firstBreach 61 = .ok (.getfield 20, 3) := by decide +kernel
theorem d_MD_firstBreach_64 : decode c_MD_firstBreach 64 = .ok (.iload_n 1, 1) := by decide +kernel
theorem d_MD_firstBreach_65 : decode c_MD_firstBreach 65 = .ok (.iaload, 1) := by decide +kernel
theorem d_MD_firstBreach_66 : decode c_MD_firstBreach 66 = .ok (.iload_n 3, 1) := by decide +kernel
theorem d_MD_firstBreach_67 : decode c_MD_firstBreach 67 = .ok (.invokevirtual 74, 3) := by decide +kernel
theorem d_MD_firstBreach_70 : decode c_MD_firstBreach 70 = .ok (.iaload, 1) := by decide +kernel
theorem d_MD_firstBreach_71 : decode c_MD_firstBreach 71 = .ok (.goto 4, 3) := by decide +kernel
theorem d_MD_firstBreach_74 : decode c_MD_firstBreach 74 = .ok (.iconst 0, 1) := by decide +kernel
theorem d_MD_firstBreach_75 : decode c_MD_firstBreach 75 = .ok (.iadd, 1) := by decide +kernel
theorem d_MD_firstBreach_76 : decode c_MD_firstBreach 76 = .ok (.istore_n 2, 1) := by decide +kernel
theorem d_MD_firstBreach_77 : decode c_MD_firstBreach 77 = .ok (.iinc 3 1, 3) := by decide +kernel
theorem d_MD_firstBreach_80 : decode c_MD_firstBreach 80 = .ok (.goto (-45), 3) := by decide +kernel
theorem d_MD_firstBreach_83 : decode c_MD_firstBreach 83 = .ok (.aload_n 0, 1) := by decide +kernel
theorem d_MD_firstBreach_84 : decode c_MD_firstBreach 84 = .ok (.iload_n 1, 1) := by decide +kernel
theorem d_MD_firstBreach_85 : decode c_MD_firstBreach 85 = .ok (.putfield 92, 3) := by decide +kernel
theorem d_MD_firstBreach_88 : decode c_MD_firstBreach 88 = .ok (.aload_n 0, 1) := by decide +kernel
theorem d_MD_firstBreach_89 : decode c_MD_firstBreach 89 = .ok (.aload_n 0, 1) := by decide +kernel
theorem d_MD_firstBreach_90 : decode c_MD_firstBreach 90 = .ok (.getfield 20, 3) := by decide +kernel
theorem d_MD_firstBreach_93 : decode c_MD_firstBreach 93 = .ok (.iload_n 1, 1) := by decide +kernel
theorem d_MD_firstBreach_94 : decode c_MD_firstBreach 94 = .ok (.iaload, 1) := by decide +kernel
theorem d_MD_firstBreach_95 : decode c_MD_firstBreach 95 = .ok (.putfield 95, 3) := by decide +kernel
theorem d_MD_firstBreach_98 : decode c_MD_firstBreach 98 = .ok (.iload_n 2, 1) := by decide +kernel
theorem d_MD_firstBreach_99 : decode c_MD_firstBreach 99 = .ok (.aload_n 0, 1) := by decide +kernel
theorem d_MD_firstBreach_100 : decode c_MD_firstBreach 100 = .ok (.getfield 16, 3) := by decide +kernel
theorem d_MD_firstBreach_103 : decode c_MD_firstBreach 103 = .ok (.if_icmp .eq 5, 3) := by decide +kernel
theorem d_MD_firstBreach_106 : decode c_MD_firstBreach 106 = .ok (.iconst 1, 1) := by decide +kernel
theorem d_MD_firstBreach_107 : decode c_MD_firstBreach 107 = .ok (.ireturn, 1) := by decide +kernel
theorem d_MD_firstBreach_108 : decode c_MD_firstBreach 108 = .ok (.aload_n 0, 1) := by decide +kernel
theorem d_MD_firstBreach_109 : decode c_MD_firstBreach 109 = .ok (.iload_n 1, 1) := by decide +kernel
theorem d_MD_firstBreach_110 : decode c_MD_firstBreach 110 = .ok (.invokevirtual 134, 3) := by decide +kernel
theorem d_MD_firstBreach_113 : decode c_MD_firstBreach 113 = .ok (.istore_n 3, 1) := by decide +kernel
theorem d_MD_firstBreach_114 : decode c_MD_firstBreach 114 = .ok (.iconst 1, 1) := by decide +kernel
theorem d_MD_firstBreach_115 : decode c_MD_firstBreach 115 = .ok (.istore 4, 2) := by decide +kernel
theorem d_MD_firstBreach_117 : decode c_MD_firstBreach 117 = .ok (.iload 4, 2) := by decide +kernel
theorem d_MD_firstBreach_119 : decode c_MD_firstBreach 119 = .ok (.aload_n 0, 1) := by decide +kernel
theorem d_MD_firstBreach_120 : decode c_MD_firstBreach 120 = .ok (.getfield 63, 3) := by decide +kernel
theorem d_MD_firstBreach_123 : decode c_MD_firstBreach 123 = .ok (.if_icmp .gt 47, 3) := by decide +kernel
theorem d_MD_firstBreach_126 : decode c_MD_firstBreach 126 = .ok (.aload_n 0, 1) := by decide +kernel
theorem d_MD_firstBreach_127 : decode c_MD_firstBreach 127 = .ok (.iload 4, 2) := by decide +kernel
theorem d_MD_firstBreach_129 : decode c_MD_firstBreach 129 = .ok (.putfield 95, 3) := by decide +kernel
theorem d_MD_firstBreach_132 : decode c_MD_firstBreach 132 = .ok (.iload 4, 2) := by decide +kernel
theorem d_MD_firstBreach_134 : decode c_MD_firstBreach 134 = .ok (.aload_n 0, 1) := by decide +kernel
theorem d_MD_firstBreach_135 : decode c_MD_firstBreach 135 = .ok (.getfield 20, 3) := by decide +kernel
theorem d_MD_firstBreach_138 : decode c_MD_firstBreach 138 = .ok (.iload_n 1, 1) := by decide +kernel
theorem d_MD_firstBreach_139 : decode c_MD_firstBreach 139 = .ok (.iaload, 1) := by decide +kernel
theorem d_MD_firstBreach_140 : decode c_MD_firstBreach 140 = .ok (.if_icmp .eq 24, 3) := by decide +kernel
theorem d_MD_firstBreach_143 : decode c_MD_firstBreach 143 = .ok (.aload_n 0, 1) := by decide +kernel
theorem d_MD_firstBreach_144 : decode c_MD_firstBreach 144 = .ok (.aload_n 0, 1) := by decide +kernel
theorem d_MD_firstBreach_145 : decode c_MD_firstBreach 145 = .ok (.getfield 20, 3) := by decide +kernel
theorem d_MD_firstBreach_148 : decode c_MD_firstBreach 148 = .ok (.iload_n 1, 1) := by decide +kernel
theorem d_MD_firstBreach_149 : decode c_MD_firstBreach 149 = .ok (.iload 4, 2) := by decide +kernel
theorem d_MD_firstBreach_151 : decode c_MD_firstBreach 151 = .ok (.iload_n 3, 1) := by decide +kernel
theorem d_MD_firstBreach_152 : decode c_MD_firstBreach 152 = .ok (.invokevirtual 81, 3) := by decide +kernel
theorem d_MD_firstBreach_155 : decode c_MD_firstBreach 155 = .ok (.aload_n 0, 1) := by decide +kernel
theorem d_MD_firstBreach_156 : decode c_MD_firstBreach 156 = .ok (.getfield 16, 3) := by decide +kernel
theorem d_MD_firstBreach_159 : decode c_MD_firstBreach 159 = .ok (.if_icmp .lt 5, 3) := by decide +kernel
theorem d_MD_firstBreach_162 : decode c_MD_firstBreach 162 = .ok (.iconst 2, 1) := by decide +kernel
theorem d_MD_firstBreach_163 : decode c_MD_firstBreach 163 = .ok (.ireturn, 1) := by decide +kernel
theorem d_MD_firstBreach_164 : decode c_MD_firstBreach 164 = .ok (.iinc 4 1, 3) := by decide +kernel
theorem d_MD_firstBreach_167 : decode c_MD_firstBreach 167 = .ok (.goto (-50), 3) := by decide +kernel
theorem d_MD_firstBreach_170 : decode c_MD_firstBreach 170 = .ok (.iinc 1 1, 3) := by decide +kernel
theorem d_MD_firstBreach_173 : decode c_MD_firstBreach 173 = .ok (.goto (-171), 3) := by decide +kernel
theorem d_MD_firstBreach_176 : decode c_MD_firstBreach 176 = .ok (.aload_n 0, 1) := by decide +kernel
theorem d_MD_firstBreach_177 : decode c_MD_firstBreach 177 = .ok (.aload_n 0, 1) := by decide +kernel
theorem d_MD_firstBreach_178 : decode c_MD_firstBreach 178 = .ok (.getfield 20, 3) := by decide +kernel
theorem d_MD_firstBreach_181 : decode c_MD_firstBreach 181 = .ok (.iconst 0, 1) := by decide +kernel
theorem d_MD_firstBreach_182 : decode c_MD_firstBreach 182 = .ok (.invokevirtual 128, 3) := by decide +kernel
theorem d_MD_firstBreach_185 : decode c_MD_firstBreach 185 = .ok (.ifCond .le 7, 3) := by decide +kernel
theorem d_MD_firstBreach_188 : decode c_MD_firstBreach 188 = .ok (.iconst 3, 1) := by decide +kernel
theorem d_MD_firstBreach_189 : decode c_MD_firstBreach 189 = .ok (.goto 4, 3) := by decide +kernel
theorem d_MD_firstBreach_192 : decode c_MD_firstBreach 192 = .ok (.iconst 0, 1) := by decide +kernel
theorem d_MD_firstBreach_193 : decode c_MD_firstBreach 193 = .ok (.ireturn, 1) := by decide +kernel
def mbS (sg gl fi ip : Nat → Int32) (p k : Nat) (a : Int32) : Int32 := if (ip p >>> (nI k &&& 31)) &&& nI 1 = nI 1 then a + sg (nn (gl (4 * nn (fi p) + k))) else a + nI 0
def mbL (sg gl fi ip : Nat → Int32) (p : Nat) : Nat → Int32
  | 0 => nI 0
  | k + 1 => mbS sg gl fi ip p k (mbL sg gl fi ip p k)
abbrev F2 : Type := Int32 × Int32
def mbT (sg gl fi : Nat → Int32) (te w : Int32) (p t : Nat) (z : F2) : Option Nat × F2 :=
  if nI t = fi p then (none, (z.1, nI t)) else if hbL sg gl fi p t w 4 < te then (none, (z.1, nI t)) else (some 2, (z.1, nI t))
def mbP (sg gl fi ip se : Nat → Int32) (te : Int32) (y p : Nat) (z : F2) : Option Nat × F2 :=
  if fi p = 0 then (none, z) else if se p = nI 1 then (none, z) else if mbL sg gl fi ip p 4 = te then itX (mbT sg gl fi te (ouL fi ip p 4) p) y 1 (nI p, fi p) else (some 1, (nI p, fi p))
def mbV (sg gl fi ip se : Nat → Int32) (te : Int32) (y : Nat) (fp ft : Int32) : Option Nat × F2 := itX (mbP sg gl fi ip se te y) 1600 0 (fp, ft)
def fbR (sg gl fi ip se : Nat → Int32) (te : Int32) (y : Nat) (fp ft : Int32) (n : Nat) (q : F2) : Prop :=
  mbV sg gl fi ip se te y fp ft = (some n, q) ∨ ∃ (q1 : F2) (o : Option Nat) (u : FN), mbV sg gl fi ip se te y fp ft = (none, q1) ∧ (o, u) = fdV sg gl fi te (nI 0) y q1.1 q1.2 ∧ n = (if u.1 = 0 then 0 else 3) ∧ q = u.2
theorem itX_in {S : Type} {A : Nat → S → Option Nat × S} {r : Nat} {z' : S} : ∀ (n i : Nat) (z : S), itX A n i z = (some r, z') → ∃ j z1, i ≤ j ∧ j < i + n ∧ A j z1 = (some r, z')
  | 0, _, _, h => by cases h
  | n + 1, i, z, h => by
    rcases e : A i z with ⟨o, z1⟩
    cases o with
    | some q =>
      rw [itX_no (by omega) e] at h
      exact ⟨i, z, Nat.le_refl _, by omega, by rw [e]; exact h⟩
    | none =>
      rw [itX_go (by omega) e] at h
      obtain ⟨j, z2, h1, h2, h3⟩ := itX_in n (i + 1) z1 h
      exact ⟨j, z2, by omega, by omega, h3⟩
theorem mbT_1 {sg gl fi : Nat → Int32} {te w : Int32} {p : Nat} (n i : Nat) (z : F2) : (itX (mbT sg gl fi te w p) n i z).2.1 = z.1 := by
  refine itX_inv (fun q => q.1 = z.1) n i z (fun j q _ _ h => ?_) rfl
  unfold mbT
  split
  · exact h
  · split <;> exact h
theorem mbV_ok {sg gl fi ip se : Nat → Int32} {te : Int32} {y : Nat} {fp ft : Int32} {n : Nat} {q : F2} (hfi : okFi fi) (hy : y ≤ 60) (h : mbV sg gl fi ip se te y fp ft = (some n, q)) : n ≤ 2 ∧ ∃ p t : Nat, p < 1600 ∧ t ≤ 60 ∧ q = (nI p, nI t) := by
  obtain ⟨p, z1, h1, h2, h3⟩ := itX_in 1600 0 (fp, ft) h
  unfold mbP at h3
  split at h3
  · cases h3
  · split at h3
    · cases h3
    · split at h3
      · obtain ⟨t, z2, g1, g2, g3⟩ := itX_in y 1 _ h3
        have h5 : q.1 = nI p := by
          have := mbT_1 (sg := sg) (gl := gl) (fi := fi) (te := te) (w := ouL fi ip p 4) (p := p) y 1 (nI p, fi p)
          rw [h3] at this
          exact this
        unfold mbT at g3
        split at g3
        · cases g3
        · split at g3
          · cases g3
          · cases g3
            exact ⟨Nat.le_refl _, p, t, by omega, by omega, by rw [← h5]⟩
      · cases h3
        exact ⟨by decide, p, nn (fi p), by omega, (hfi p (by omega)).2, by rw [← (hfi p (by omega)).1]⟩
def mbW (n : Nat) (x : Int32) (q : F2) : Int32 := if x = 0 then nI n else if n = 0 then -1 else if x = nI 1 then nI (nn q.1 % 40) else if x = nI 2 then nI (nn q.1 / 40) else q.2
set_option maxHeartbeats 4000000 in
set_option maxRecDepth 100000 in
theorem lp_k_MD_firstBreach_35 {p : Program} {l : Launch} {e : Env} {s : State} {m : MethodId} {args : Array Value} {below : List Frame} {meth : Method} {c : Code} {D : va_G} {cI cJ : ClassId} {Q : State → Prop} {A : Nat → Prop} (w0 : Nat) (w1 : Nat) (w2 : Nat) (w3 : Nat) (w4 : Nat) (w5 : Nat) (w6 : Nat) (w7 : Nat) (w8 : Nat) (w9 : Nat) (w10 : Nat) (w11 : Nat) (w12 : Nat) (w13 : Nat) (w14 : Nat) (y : Nat) (te : Int32) (nt : Int32) (wb : Int32) (rc : Int32) (fp : Int32) (ft : Int32) (th : Int32) (sg : Nat → Int32) (gl : Nat → Int32) (fi : Nat → Int32) (ip : Nat → Int32) (se : Nat → Int32) (hy : y ≤ 60) (hfi : okFi fi) (hgl : okGl gl) (pp : Nat) (hpp : pp < 1600) (z8 : F2) (hx : p.tables.exec = Jvm.exec) (hb : c.code = c_MD_firstBreach) (hml : c.maxLocals = 5) (hown : s.vm.findClass R_MD = some m.cls) (hw : ∀ w ∈ gw, w.before args s = true) (hE : En D cI cJ s) (hX : Sx A s s.heap) (hA : ∀ q : Nat, s.heap.size ≤ q → A q)
    (kx0 : ∀ (a9 : Int32), (a9 = mbL sg gl fi ip pp 4) → ∀ (H : Heap) (locs : List Loc) (ls : Array Slot), va_P D vwCl [(w0, .inr (5, [.ref w1, .ref w2, .int (nI y), .int te, .ref w3, .ref w4, .ref w5, .int nt, .int wb, .ref w6, .ref w7, .ref w8, .int rc, .ref w9, .ref w10, .ref w11, .ref w12, .ref w13, .ref w14, .int z8.1, .int z8.2, .int th])), (w1, .inl (cI, 100, .inl sg)), (w2, .inl (cI, 244, .inl gl)), (w3, .inl (cI, 1600, .inl fi)), (w4, .inl (cI, 1600, .inl ip)), (w5, .inl (cI, 1600, .inl se))] H → va_D A [(w0, .inr (5, [.ref w1, .ref w2, .int (nI y), .int te, .ref w3, .ref w4, .ref w5, .int nt, .int wb, .ref w6, .ref w7, .ref w8, .int rc, .ref w9, .ref w10, .ref w11, .ref w12, .ref w13, .ref w14, .int z8.1, .int z8.2, .int th])), (w1, .inl (cI, 100, .inl sg)), (w2, .inl (cI, 244, .inl gl)), (w3, .inl (cI, 1600, .inl fi)), (w4, .inl (cI, 1600, .inl ip)), (w5, .inl (cI, 1600, .inl se))] → va_S A s.heap H locs → lv_has ls 5 [(0, .ref w0), (1, .int (nI pp)), (2, .int a9)] → W p l e ({ frames := 7, cells := 0, slots := 0, locals := 166 } : Room) s m args below meth c H locs 0 0 Q (F0 m 83 ls [])) :
    ∀ (fu : Nat) (k : Nat) (a9 : Int32), 4 - k < fu → (k ≤ 4) → (a9 = mbL sg gl fi ip pp k) → ∀ (H : Heap) (locs : List Loc) (ls : Array Slot), va_P D vwCl [(w0, .inr (5, [.ref w1, .ref w2, .int (nI y), .int te, .ref w3, .ref w4, .ref w5, .int nt, .int wb, .ref w6, .ref w7, .ref w8, .int rc, .ref w9, .ref w10, .ref w11, .ref w12, .ref w13, .ref w14, .int z8.1, .int z8.2, .int th])), (w1, .inl (cI, 100, .inl sg)), (w2, .inl (cI, 244, .inl gl)), (w3, .inl (cI, 1600, .inl fi)), (w4, .inl (cI, 1600, .inl ip)), (w5, .inl (cI, 1600, .inl se))] H → va_D A [(w0, .inr (5, [.ref w1, .ref w2, .int (nI y), .int te, .ref w3, .ref w4, .ref w5, .int nt, .int wb, .ref w6, .ref w7, .ref w8, .int rc, .ref w9, .ref w10, .ref w11, .ref w12, .ref w13, .ref w14, .int z8.1, .int z8.2, .int th])), (w1, .inl (cI, 100, .inl sg)), (w2, .inl (cI, 244, .inl gl)), (w3, .inl (cI, 1600, .inl fi)), (w4, .inl (cI, 1600, .inl ip)), (w5, .inl (cI, 1600, .inl se))] → va_S A s.heap H locs → lv_has ls 5 [(0, .ref w0), (1, .int (nI pp)), (2, .int a9), (3, .int (nI k))] → W p l e ({ frames := 7, cells := 0, slots := 0, locals := 166 } : Room) s m args below meth c H locs 0 0 Q (F0 m 35 ls []) := by
  intro fu
  induction fu with
  | zero =>
    intro k a9 h0
    exact absurd h0 (Nat.not_lt_zero _)
  | succ fu ih =>
    intro k a9 hmu hk ha9 H locs ls hP hD hS hl
    have hfp := hfi pp hpp
    have hfp2 := hfp.2
    refine lv_iload_n hx hb d_MD_firstBreach_35 rfl (lv_at hl 3 rfl) ?_
    refine lv_iconst (v := nI 4) hx hb d_MD_firstBreach_36 (by decide +kernel) ?_
    refine jn_icmp_ge (tgt := 83) (a := k) (b := 4) hx hb d_MD_firstBreach_37 (by decide) (by omega) (by omega) (fun c_37 => ?_) (fun c_37 => ?_)
    · skip
      exact kx0 a9 (by rw [ha9, show k = 4 by omega]) _ _ _ (hP.sub [0, 1, 2, 3, 4, 5] rfl) (hD.sub [0, 1, 2, 3, 4, 5] (by decide) rfl) hS (lv_sub hl [0, 1, 2] rfl)
    · skip
      refine lv_iload_n hx hb d_MD_firstBreach_40 rfl (lv_at hl 2 rfl) ?_
      refine lv_aload_n hx hb d_MD_firstBreach_41 rfl (lv_at hl 0 rfl) ?_
      refine va_get (D := D) (ci := 5) (v := .ref w4) (C := R_MD) (T := T_MD) (N := 22) hx hb hw in_MD hown hE.1 hP 0 rfl rfl 5 (by decide) (hw _ kw_766) (fun _ h9 => h9) rfl d_MD_firstBreach_42 ?_
      refine lv_iload_n hx hb d_MD_firstBreach_45 rfl (lv_at hl 1 rfl) ?_
      refine jn_iald (k := pp) hx hb hE.1 hP 4 0 rfl rfl (by omega) (by omega) d_MD_firstBreach_46 ?_
      refine lv_iload_n hx hb d_MD_firstBreach_47 rfl (lv_at hl 3 rfl) ?_
      refine lv_ishr hx hb d_MD_firstBreach_48 ?_
      refine lv_iconst (v := nI 1) hx hb d_MD_firstBreach_49 (by decide +kernel) ?_
      refine lv_iand hx hb d_MD_firstBreach_50 ?_
      refine lv_iconst (v := nI 1) hx hb d_MD_firstBreach_51 (by decide +kernel) ?_
      refine lv_icmp_ne (tgt := 74) hx hb d_MD_firstBreach_52 (by decide) (fun c_52 => ?_) (fun c_52 => ?_)
      · skip
        refine lv_iconst (v := nI 0) hx hb d_MD_firstBreach_74 (by decide +kernel) ?_
        refine lv_iadd hx hb d_MD_firstBreach_75 ?_
        refine lv_istore_n (lv' := [(2, .int (a9 + (nI 0))), (0, .ref w0), (1, .int (nI pp)), (3, .int (nI k))]) hx hb d_MD_firstBreach_76 rfl hl (by decide) rfl (fun ls hl => ?_)
        refine lv_iinc (v := nI (k + 1)) (lv' := [(3, .int (nI (k + 1))), (2, .int (a9 + (nI 0))), (0, .ref w0), (1, .int (nI pp))]) hx hb d_MD_firstBreach_77 hl (k := 3) rfl (jn_inc k 1) (by decide) rfl (fun ls hl => ?_)
        refine lv_goto (tgt := 35) hx hb d_MD_firstBreach_80 (by decide) ?_
        exact ih (k + 1) (a9 + (nI 0)) (by omega) (by omega) (by rw [mbL, ← ha9]; unfold mbS; rw [if_neg c_52]) _ _ _ (hP.sub [0, 1, 2, 3, 4, 5] rfl) (hD.sub [0, 1, 2, 3, 4, 5] (by decide) rfl) hS (lv_sub hl [2, 3, 1, 0] rfl)
      · skip
        refine lv_aload_n hx hb d_MD_firstBreach_55 rfl (lv_at hl 0 rfl) ?_
        refine va_get (D := D) (ci := 5) (v := .ref w1) (C := R_MD) (T := T_MD) (N := 22) hx hb hw in_MD hown hE.1 hP 0 rfl rfl 0 (by decide) (hw _ kw_761) (fun _ h9 => h9) rfl d_MD_firstBreach_56 ?_
        refine lv_aload_n hx hb d_MD_firstBreach_59 rfl (lv_at hl 0 rfl) ?_
        refine lv_aload_n hx hb d_MD_firstBreach_60 rfl (lv_at hl 0 rfl) ?_
        refine va_get (D := D) (ci := 5) (v := .ref w3) (C := R_MD) (T := T_MD) (N := 22) hx hb hw in_MD hown hE.1 hP 0 rfl rfl 4 (by decide) (hw _ kw_765) (fun _ h9 => h9) rfl d_MD_firstBreach_61 ?_
        refine lv_iload_n hx hb d_MD_firstBreach_64 rfl (lv_at hl 1 rfl) ?_
        refine jn_iald (k := pp) hx hb hE.1 hP 3 0 rfl rfl (by omega) (by omega) d_MD_firstBreach_65 ?_
        refine W.eq (g2 := F0 m 66 ls [.int (nI (nn (fi pp))), .ref w0, .ref w1, .int a9]) (by rw [← hfp.1]) ?_
        refine lv_iload_n hx hb d_MD_firstBreach_66 rfl (lv_at hl 3 rfl) ?_
        refine vp_callSi (va_Run.run (va_runV (As := [.int (nI (nn (fi pp))), .int (nI k)]) (rest := [.ref w1, .int a9]) ⟨hx, hb, hml, hown, hw⟩ (k_MD_glueOf l D cI cJ w0 w1 w2 w3 w4 w5 w6 w7 w8 w9 w10 w11 w12 w13 w14 (nI y) te nt wb rc z8.1 z8.2 th gl (nn (fi pp)) k (by omega)) (cwV 2 hw (gV kw_901 kw_903 kw_28 kw_45 kw_904) rfl rfl rfl (by decide +kernel) ⟨Nat.le_of_ble_eq_true rfl, Nat.le_of_ble_eq_true rfl⟩) (pre_Vp (wc := [(w0, .inr (5, [.ref w1, .ref w2, .int (nI y), .int te, .ref w3, .ref w4, .ref w5, .int nt, .int wb, .ref w6, .ref w7, .ref w8, .int rc, .ref w9, .ref w10, .ref w11, .ref w12, .ref w13, .ref w14, .int z8.1, .int z8.2, .int th])), (w2, .inl (cI, 244, .inl gl))]) (q0 := 0) hE hX hP hS [0, 2] rfl rfl rfl) rfl rfl hl.1 rfl (lv_room (Nat.le_of_ble_eq_true rfl)) d_MD_firstBreach_67 ⟨Nat.le_of_ble_eq_true rfl, Nat.le_of_ble_eq_true rfl⟩)) (fun r_1 hr_1 => ?_)
        obtain rfl : gl (4 * (nn (fi pp)) + k) = r_1 := hr_1.symm
        have hgk := hgl (4 * nn (fi pp) + k) (by omega)
        refine W.eq (g2 := F0 m 70 ls [.int (nI (nn (gl (4 * nn (fi pp) + k)))), .ref w1, .int a9]) (by rw [← hgk.1]) ?_
        refine jn_iald (k := (nn (gl (4 * nn (fi pp) + k)))) hx hb hE.1 hP 1 0 rfl rfl hgk.2 (by omega) d_MD_firstBreach_70 ?_
        refine lv_goto (tgt := 75) hx hb d_MD_firstBreach_71 (by decide) ?_
        refine lv_iadd hx hb d_MD_firstBreach_75 ?_
        refine lv_istore_n (lv' := [(2, .int (a9 + (sg (nn (gl (4 * nn (fi pp) + k)))))), (0, .ref w0), (1, .int (nI pp)), (3, .int (nI k))]) hx hb d_MD_firstBreach_76 rfl hl (by decide) rfl (fun ls hl => ?_)
        refine lv_iinc (v := nI (k + 1)) (lv' := [(3, .int (nI (k + 1))), (2, .int (a9 + (sg (nn (gl (4 * nn (fi pp) + k)))))), (0, .ref w0), (1, .int (nI pp))]) hx hb d_MD_firstBreach_77 hl (k := 3) rfl (jn_inc k 1) (by decide) rfl (fun ls hl => ?_)
        refine lv_goto (tgt := 35) hx hb d_MD_firstBreach_80 (by decide) ?_
        exact ih (k + 1) (a9 + (sg (nn (gl (4 * nn (fi pp) + k))))) (by omega) (by omega) (by rw [mbL, ← ha9]; unfold mbS; rw [if_pos c_52]) _ _ _ (hP.sub [0, 1, 2, 3, 4, 5] rfl) (hD.sub [0, 1, 2, 3, 4, 5] (by decide) rfl) hS (lv_sub hl [2, 3, 1, 0] rfl)
set_option maxHeartbeats 4000000 in
set_option maxRecDepth 100000 in
theorem lp_k_MD_firstBreach_117 {p : Program} {l : Launch} {e : Env} {s : State} {m : MethodId} {args : Array Value} {below : List Frame} {meth : Method} {c : Code} {D : va_G} {cI cJ : ClassId} {Q : State → Prop} {A : Nat → Prop} (w0 : Nat) (w1 : Nat) (w2 : Nat) (w3 : Nat) (w4 : Nat) (w5 : Nat) (w6 : Nat) (w7 : Nat) (w8 : Nat) (w9 : Nat) (w10 : Nat) (w11 : Nat) (w12 : Nat) (w13 : Nat) (w14 : Nat) (y : Nat) (te : Int32) (nt : Int32) (wb : Int32) (rc : Int32) (fp : Int32) (ft : Int32) (th : Int32) (sg : Nat → Int32) (gl : Nat → Int32) (fi : Nat → Int32) (ip : Nat → Int32) (se : Nat → Int32) (hy : y ≤ 60) (hfi : okFi fi) (hgl : okGl gl) (pp : Nat) (hpp : pp < 1600) (v8 : Int32) (k0 : F2) (hx : p.tables.exec = Jvm.exec) (hb : c.code = c_MD_firstBreach) (hml : c.maxLocals = 5) (hown : s.vm.findClass R_MD = some m.cls) (hw : ∀ w ∈ gw, w.before args s = true) (hE : En D cI cJ s) (hX : Sx A s s.heap) (hA : ∀ q : Nat, s.heap.size ≤ q → A q)
    (kx0 : ∀ (z8 : F2), (itX (mbT sg gl fi te v8 pp) y 1 k0 = (some 2, z8)) → ∀ (H : Heap) (locs : List Loc) (ls : Array Slot), va_P D vwCl [(w0, .inr (5, [.ref w1, .ref w2, .int (nI y), .int te, .ref w3, .ref w4, .ref w5, .int nt, .int wb, .ref w6, .ref w7, .ref w8, .int rc, .ref w9, .ref w10, .ref w11, .ref w12, .ref w13, .ref w14, .int z8.1, .int z8.2, .int th])), (w1, .inl (cI, 100, .inl sg)), (w2, .inl (cI, 244, .inl gl)), (w3, .inl (cI, 1600, .inl fi)), (w4, .inl (cI, 1600, .inl ip)), (w5, .inl (cI, 1600, .inl se))] H → va_D A [(w0, .inr (5, [.ref w1, .ref w2, .int (nI y), .int te, .ref w3, .ref w4, .ref w5, .int nt, .int wb, .ref w6, .ref w7, .ref w8, .int rc, .ref w9, .ref w10, .ref w11, .ref w12, .ref w13, .ref w14, .int z8.1, .int z8.2, .int th])), (w1, .inl (cI, 100, .inl sg)), (w2, .inl (cI, 244, .inl gl)), (w3, .inl (cI, 1600, .inl fi)), (w4, .inl (cI, 1600, .inl ip)), (w5, .inl (cI, 1600, .inl se))] → va_S A s.heap H locs → lv_has ls 5 [] → W p l e ({ frames := 7, cells := 0, slots := 0, locals := 166 } : Room) s m args below meth c H locs 0 0 Q (F0 m 162 ls []))
    (kx1 : ∀ (z8 : F2), (itX (mbT sg gl fi te v8 pp) y 1 k0 = (none, z8)) → ∀ (H : Heap) (locs : List Loc) (ls : Array Slot), va_P D vwCl [(w0, .inr (5, [.ref w1, .ref w2, .int (nI y), .int te, .ref w3, .ref w4, .ref w5, .int nt, .int wb, .ref w6, .ref w7, .ref w8, .int rc, .ref w9, .ref w10, .ref w11, .ref w12, .ref w13, .ref w14, .int z8.1, .int z8.2, .int th])), (w1, .inl (cI, 100, .inl sg)), (w2, .inl (cI, 244, .inl gl)), (w3, .inl (cI, 1600, .inl fi)), (w4, .inl (cI, 1600, .inl ip)), (w5, .inl (cI, 1600, .inl se))] H → va_D A [(w0, .inr (5, [.ref w1, .ref w2, .int (nI y), .int te, .ref w3, .ref w4, .ref w5, .int nt, .int wb, .ref w6, .ref w7, .ref w8, .int rc, .ref w9, .ref w10, .ref w11, .ref w12, .ref w13, .ref w14, .int z8.1, .int z8.2, .int th])), (w1, .inl (cI, 100, .inl sg)), (w2, .inl (cI, 244, .inl gl)), (w3, .inl (cI, 1600, .inl fi)), (w4, .inl (cI, 1600, .inl ip)), (w5, .inl (cI, 1600, .inl se))] → va_S A s.heap H locs → lv_has ls 5 [(0, .ref w0), (1, .int (nI pp))] → W p l e ({ frames := 7, cells := 0, slots := 0, locals := 166 } : Room) s m args below meth c H locs 0 0 Q (F0 m 170 ls [])) :
    ∀ (fu : Nat) (tt : Nat) (z8 : F2), y + 1 - tt < fu → (1 ≤ tt) → (tt ≤ y + 1) → (itX (mbT sg gl fi te v8 pp) (y + 1 - tt) tt z8 = itX (mbT sg gl fi te v8 pp) y 1 k0) → ∀ (H : Heap) (locs : List Loc) (ls : Array Slot), va_P D vwCl [(w0, .inr (5, [.ref w1, .ref w2, .int (nI y), .int te, .ref w3, .ref w4, .ref w5, .int nt, .int wb, .ref w6, .ref w7, .ref w8, .int rc, .ref w9, .ref w10, .ref w11, .ref w12, .ref w13, .ref w14, .int z8.1, .int z8.2, .int th])), (w1, .inl (cI, 100, .inl sg)), (w2, .inl (cI, 244, .inl gl)), (w3, .inl (cI, 1600, .inl fi)), (w4, .inl (cI, 1600, .inl ip)), (w5, .inl (cI, 1600, .inl se))] H → va_D A [(w0, .inr (5, [.ref w1, .ref w2, .int (nI y), .int te, .ref w3, .ref w4, .ref w5, .int nt, .int wb, .ref w6, .ref w7, .ref w8, .int rc, .ref w9, .ref w10, .ref w11, .ref w12, .ref w13, .ref w14, .int z8.1, .int z8.2, .int th])), (w1, .inl (cI, 100, .inl sg)), (w2, .inl (cI, 244, .inl gl)), (w3, .inl (cI, 1600, .inl fi)), (w4, .inl (cI, 1600, .inl ip)), (w5, .inl (cI, 1600, .inl se))] → va_S A s.heap H locs → lv_has ls 5 [(0, .ref w0), (1, .int (nI pp)), (3, .int v8), (4, .int (nI tt))] → W p l e ({ frames := 7, cells := 0, slots := 0, locals := 166 } : Room) s m args below meth c H locs 0 0 Q (F0 m 117 ls []) := by
  intro fu
  induction fu with
  | zero =>
    intro tt z8 h0
    exact absurd h0 (Nat.not_lt_zero _)
  | succ fu ih =>
    intro tt z8 hmu ht1 ht2 hR8 H locs ls hP hD hS hl
    refine lv_iload hx hb d_MD_firstBreach_117 (lv_at hl 3 rfl) ?_
    refine lv_aload_n hx hb d_MD_firstBreach_119 rfl (lv_at hl 0 rfl) ?_
    refine va_get (D := D) (ci := 5) (v := .int (nI y)) (C := R_MD) (T := T_MD) (N := 22) hx hb hw in_MD hown hE.1 hP 0 rfl rfl 2 (by decide) (hw _ kw_763) (fun _ h9 => h9) rfl d_MD_firstBreach_120 ?_
    refine jn_icmp_gt (tgt := 170) (a := tt) (b := y) hx hb d_MD_firstBreach_123 (by decide) (by omega) (by omega) (fun c_123 => ?_) (fun c_123 => ?_)
    · skip
      exact kx1 z8 (by rw [← hR8, show y + 1 - tt = 0 by omega]; rfl) _ _ _ (hP.sub [0, 1, 2, 3, 4, 5] rfl) (hD.sub [0, 1, 2, 3, 4, 5] (by decide) rfl) hS (lv_sub hl [0, 1] rfl)
    · skip
      refine lv_aload_n hx hb d_MD_firstBreach_126 rfl (lv_at hl 0 rfl) ?_
      refine lv_iload hx hb d_MD_firstBreach_127 (lv_at hl 3 rfl) ?_
      refine va_put (D := D) (ci := 5) (v := .int (nI tt)) (ty := .int) (C := R_MD) (T := T_MD) (N := 22) hx hb hw in_MD ty_MD ty_MD_ok nm_MD_ok hown hE.1 hP hD hS 0 rfl rfl 20 (by decide) (hw _ kw_781) (fun _ h9 => h9) rfl (by decide +kernel) rfl rfl (Nat.le_of_ble_eq_true rfl) d_MD_firstBreach_129 (fun H locs hP hD hS => ?_)
      have hP : va_P D vwCl [(w0, .inr (5, [.ref w1, .ref w2, .int (nI y), .int te, .ref w3, .ref w4, .ref w5, .int nt, .int wb, .ref w6, .ref w7, .ref w8, .int rc, .ref w9, .ref w10, .ref w11, .ref w12, .ref w13, .ref w14, .int z8.1, .int (nI tt), .int th])), (w1, .inl (cI, 100, .inl sg)), (w2, .inl (cI, 244, .inl gl)), (w3, .inl (cI, 1600, .inl fi)), (w4, .inl (cI, 1600, .inl ip)), (w5, .inl (cI, 1600, .inl se))] H := hP
      have hD : va_D A [(w0, .inr (5, [.ref w1, .ref w2, .int (nI y), .int te, .ref w3, .ref w4, .ref w5, .int nt, .int wb, .ref w6, .ref w7, .ref w8, .int rc, .ref w9, .ref w10, .ref w11, .ref w12, .ref w13, .ref w14, .int z8.1, .int (nI tt), .int th])), (w1, .inl (cI, 100, .inl sg)), (w2, .inl (cI, 244, .inl gl)), (w3, .inl (cI, 1600, .inl fi)), (w4, .inl (cI, 1600, .inl ip)), (w5, .inl (cI, 1600, .inl se))] := hD
      refine lv_iload hx hb d_MD_firstBreach_132 (lv_at hl 3 rfl) ?_
      refine lv_aload_n hx hb d_MD_firstBreach_134 rfl (lv_at hl 0 rfl) ?_
      refine va_get (D := D) (ci := 5) (v := .ref w3) (C := R_MD) (T := T_MD) (N := 22) hx hb hw in_MD hown hE.1 hP 0 rfl rfl 4 (by decide) (hw _ kw_765) (fun _ h9 => h9) rfl d_MD_firstBreach_135 ?_
      refine lv_iload_n hx hb d_MD_firstBreach_138 rfl (lv_at hl 1 rfl) ?_
      refine jn_iald (k := pp) hx hb hE.1 hP 3 0 rfl rfl (by omega) (by omega) d_MD_firstBreach_139 ?_
      refine lv_icmp_eq (tgt := 164) hx hb d_MD_firstBreach_140 (by decide) (fun c_140 => ?_) (fun c_140 => ?_)
      · skip
        refine lv_iinc (v := nI (tt + 1)) (lv' := [(4, .int (nI (tt + 1))), (0, .ref w0), (1, .int (nI pp)), (3, .int v8)]) hx hb d_MD_firstBreach_164 hl (k := 3) rfl (jn_inc tt 1) (by decide) rfl (fun ls hl => ?_)
        refine lv_goto (tgt := 117) hx hb d_MD_firstBreach_167 (by decide) ?_
        exact ih (tt + 1) (z8.1, nI tt) (by omega) (by omega) (by omega) (by rw [← hR8, show y + 1 - (tt + 1) = y + 1 - tt - 1 by omega]; exact (itX_go (by omega) (by show mbT sg gl fi te v8 pp tt z8 = _; unfold mbT; rw [if_pos c_140])).symm) _ _ _ (hP.sub [0, 1, 2, 3, 4, 5] rfl) (hD.sub [0, 1, 2, 3, 4, 5] (by decide) rfl) hS (lv_sub hl [1, 2, 3, 0] rfl)
      · skip
        refine lv_aload_n hx hb d_MD_firstBreach_143 rfl (lv_at hl 0 rfl) ?_
        refine lv_aload_n hx hb d_MD_firstBreach_144 rfl (lv_at hl 0 rfl) ?_
        refine va_get (D := D) (ci := 5) (v := .ref w3) (C := R_MD) (T := T_MD) (N := 22) hx hb hw in_MD hown hE.1 hP 0 rfl rfl 4 (by decide) (hw _ kw_765) (fun _ h9 => h9) rfl d_MD_firstBreach_145 ?_
        refine lv_iload_n hx hb d_MD_firstBreach_148 rfl (lv_at hl 1 rfl) ?_
        refine lv_iload hx hb d_MD_firstBreach_149 (lv_at hl 3 rfl) ?_
        refine lv_iload_n hx hb d_MD_firstBreach_151 rfl (lv_at hl 2 rfl) ?_
        refine vp_callSi (va_Run.run (va_runV (As := [.ref w3, .int (nI pp), .int (nI tt), .int v8]) (rest := []) ⟨hx, hb, hml, hown, hw⟩ (k_MD_heldBy l D cI cJ w0 w1 w2 w3 w4 w5 w6 w7 w8 w9 w10 w11 w12 w13 w14 (nI y) te nt wb rc z8.1 (nI tt) th sg gl w3 fi pp tt v8 hpp (by omega) hfi hgl) (cwV 4 hw (gV kw_890 kw_892 kw_26 kw_45 kw_893) rfl rfl rfl (by decide +kernel) ⟨Nat.le_of_ble_eq_true rfl, Nat.le_of_ble_eq_true rfl⟩) (pre_Vp (wc := [(w0, .inr (5, [.ref w1, .ref w2, .int (nI y), .int te, .ref w3, .ref w4, .ref w5, .int nt, .int wb, .ref w6, .ref w7, .ref w8, .int rc, .ref w9, .ref w10, .ref w11, .ref w12, .ref w13, .ref w14, .int z8.1, .int (nI tt), .int th])), (w1, .inl (cI, 100, .inl sg)), (w2, .inl (cI, 244, .inl gl)), (w3, .inl (cI, 1600, .inl fi))]) (q0 := 0) hE hX hP hS [0, 1, 2, 3] rfl rfl rfl) rfl rfl hl.1 rfl (lv_room (Nat.le_of_ble_eq_true rfl)) d_MD_firstBreach_152 ⟨Nat.le_of_ble_eq_true rfl, Nat.le_of_ble_eq_true rfl⟩)) (fun r_1 hr_1 => ?_)
        obtain rfl : hbL sg gl fi pp tt v8 4 = r_1 := hr_1.symm
        refine lv_aload_n hx hb d_MD_firstBreach_155 rfl (lv_at hl 0 rfl) ?_
        refine va_get (D := D) (ci := 5) (v := .int te) (C := R_MD) (T := T_MD) (N := 22) hx hb hw in_MD hown hE.1 hP 0 rfl rfl 3 (by decide) (hw _ kw_764) (fun _ h9 => h9) rfl d_MD_firstBreach_156 ?_
        refine lv_icmp_lt (tgt := 164) hx hb d_MD_firstBreach_159 (by decide) (fun c_159 => ?_) (fun c_159 => ?_)
        · skip
          refine lv_iinc (v := nI (tt + 1)) (lv' := [(4, .int (nI (tt + 1))), (0, .ref w0), (1, .int (nI pp)), (3, .int v8)]) hx hb d_MD_firstBreach_164 hl (k := 3) rfl (jn_inc tt 1) (by decide) rfl (fun ls hl => ?_)
          refine lv_goto (tgt := 117) hx hb d_MD_firstBreach_167 (by decide) ?_
          exact ih (tt + 1) (z8.1, nI tt) (by omega) (by omega) (by omega) (by rw [← hR8, show y + 1 - (tt + 1) = y + 1 - tt - 1 by omega]; exact (itX_go (by omega) (by show mbT sg gl fi te v8 pp tt z8 = _; unfold mbT; rw [if_neg c_140, if_pos c_159])).symm) _ _ _ (hP.sub [0, 1, 2, 3, 4, 5] rfl) (hD.sub [0, 1, 2, 3, 4, 5] (by decide) rfl) hS (lv_sub hl [1, 2, 3, 0] rfl)
        · skip
          exact kx0 (z8.1, nI tt) (by rw [← hR8]; exact itX_no (by omega) (by show mbT sg gl fi te v8 pp tt z8 = _; unfold mbT; rw [if_neg c_140, if_neg c_159])) _ _ _ (hP.sub [0, 1, 2, 3, 4, 5] rfl) (hD.sub [0, 1, 2, 3, 4, 5] (by decide) rfl) hS (lv_sub hl [] rfl)
set_option maxHeartbeats 4000000 in
set_option maxRecDepth 100000 in
theorem lp_k_MD_firstBreach_2 {p : Program} {l : Launch} {e : Env} {s : State} {m : MethodId} {args : Array Value} {below : List Frame} {meth : Method} {c : Code} {D : va_G} {cI cJ : ClassId} {Q : State → Prop} {A : Nat → Prop} (w0 : Nat) (w1 : Nat) (w2 : Nat) (w3 : Nat) (w4 : Nat) (w5 : Nat) (w6 : Nat) (w7 : Nat) (w8 : Nat) (w9 : Nat) (w10 : Nat) (w11 : Nat) (w12 : Nat) (w13 : Nat) (w14 : Nat) (y : Nat) (te : Int32) (nt : Int32) (wb : Int32) (rc : Int32) (fp : Int32) (ft : Int32) (th : Int32) (sg : Nat → Int32) (gl : Nat → Int32) (fi : Nat → Int32) (ip : Nat → Int32) (se : Nat → Int32) (hy : y ≤ 60) (hfi : okFi fi) (hgl : okGl gl)  (hx : p.tables.exec = Jvm.exec) (hb : c.code = c_MD_firstBreach) (hml : c.maxLocals = 5) (hown : s.vm.findClass R_MD = some m.cls) (hw : ∀ w ∈ gw, w.before args s = true) (hE : En D cI cJ s) (hX : Sx A s s.heap) (hA : ∀ q : Nat, s.heap.size ≤ q → A q)
    (kx0 : ∀ (z9 : F2), (itX (mbP sg gl fi ip se te y) 1600 0 (fp, ft) = (some 1, z9)) → ∀ (H : Heap) (locs : List Loc) (ls : Array Slot), va_P D vwCl [(w0, .inr (5, [.ref w1, .ref w2, .int (nI y), .int te, .ref w3, .ref w4, .ref w5, .int nt, .int wb, .ref w6, .ref w7, .ref w8, .int rc, .ref w9, .ref w10, .ref w11, .ref w12, .ref w13, .ref w14, .int z9.1, .int z9.2, .int th])), (w1, .inl (cI, 100, .inl sg)), (w2, .inl (cI, 244, .inl gl)), (w3, .inl (cI, 1600, .inl fi)), (w4, .inl (cI, 1600, .inl ip)), (w5, .inl (cI, 1600, .inl se))] H → va_D A [(w0, .inr (5, [.ref w1, .ref w2, .int (nI y), .int te, .ref w3, .ref w4, .ref w5, .int nt, .int wb, .ref w6, .ref w7, .ref w8, .int rc, .ref w9, .ref w10, .ref w11, .ref w12, .ref w13, .ref w14, .int z9.1, .int z9.2, .int th])), (w1, .inl (cI, 100, .inl sg)), (w2, .inl (cI, 244, .inl gl)), (w3, .inl (cI, 1600, .inl fi)), (w4, .inl (cI, 1600, .inl ip)), (w5, .inl (cI, 1600, .inl se))] → va_S A s.heap H locs → lv_has ls 5 [] → W p l e ({ frames := 7, cells := 0, slots := 0, locals := 166 } : Room) s m args below meth c H locs 0 0 Q (F0 m 106 ls []))
    (kx1 : ∀ (z9 : F2), (itX (mbP sg gl fi ip se te y) 1600 0 (fp, ft) = (some 2, z9)) → ∀ (H : Heap) (locs : List Loc) (ls : Array Slot), va_P D vwCl [(w0, .inr (5, [.ref w1, .ref w2, .int (nI y), .int te, .ref w3, .ref w4, .ref w5, .int nt, .int wb, .ref w6, .ref w7, .ref w8, .int rc, .ref w9, .ref w10, .ref w11, .ref w12, .ref w13, .ref w14, .int z9.1, .int z9.2, .int th])), (w1, .inl (cI, 100, .inl sg)), (w2, .inl (cI, 244, .inl gl)), (w3, .inl (cI, 1600, .inl fi)), (w4, .inl (cI, 1600, .inl ip)), (w5, .inl (cI, 1600, .inl se))] H → va_D A [(w0, .inr (5, [.ref w1, .ref w2, .int (nI y), .int te, .ref w3, .ref w4, .ref w5, .int nt, .int wb, .ref w6, .ref w7, .ref w8, .int rc, .ref w9, .ref w10, .ref w11, .ref w12, .ref w13, .ref w14, .int z9.1, .int z9.2, .int th])), (w1, .inl (cI, 100, .inl sg)), (w2, .inl (cI, 244, .inl gl)), (w3, .inl (cI, 1600, .inl fi)), (w4, .inl (cI, 1600, .inl ip)), (w5, .inl (cI, 1600, .inl se))] → va_S A s.heap H locs → lv_has ls 5 [] → W p l e ({ frames := 7, cells := 0, slots := 0, locals := 166 } : Room) s m args below meth c H locs 0 0 Q (F0 m 162 ls []))
    (kx2 : ∀ (z9 : F2), (itX (mbP sg gl fi ip se te y) 1600 0 (fp, ft) = (none, z9)) → ∀ (H : Heap) (locs : List Loc) (ls : Array Slot), va_P D vwCl [(w0, .inr (5, [.ref w1, .ref w2, .int (nI y), .int te, .ref w3, .ref w4, .ref w5, .int nt, .int wb, .ref w6, .ref w7, .ref w8, .int rc, .ref w9, .ref w10, .ref w11, .ref w12, .ref w13, .ref w14, .int z9.1, .int z9.2, .int th])), (w1, .inl (cI, 100, .inl sg)), (w2, .inl (cI, 244, .inl gl)), (w3, .inl (cI, 1600, .inl fi)), (w4, .inl (cI, 1600, .inl ip)), (w5, .inl (cI, 1600, .inl se))] H → va_D A [(w0, .inr (5, [.ref w1, .ref w2, .int (nI y), .int te, .ref w3, .ref w4, .ref w5, .int nt, .int wb, .ref w6, .ref w7, .ref w8, .int rc, .ref w9, .ref w10, .ref w11, .ref w12, .ref w13, .ref w14, .int z9.1, .int z9.2, .int th])), (w1, .inl (cI, 100, .inl sg)), (w2, .inl (cI, 244, .inl gl)), (w3, .inl (cI, 1600, .inl fi)), (w4, .inl (cI, 1600, .inl ip)), (w5, .inl (cI, 1600, .inl se))] → va_S A s.heap H locs → lv_has ls 5 [(0, .ref w0)] → W p l e ({ frames := 7, cells := 0, slots := 0, locals := 166 } : Room) s m args below meth c H locs 0 0 Q (F0 m 176 ls [])) :
    ∀ (fu : Nat) (pp : Nat) (z9 : F2), 1600 - pp < fu → (pp ≤ 1600) → (itX (mbP sg gl fi ip se te y) (1600 - pp) pp z9 = itX (mbP sg gl fi ip se te y) 1600 0 (fp, ft)) → ∀ (H : Heap) (locs : List Loc) (ls : Array Slot), va_P D vwCl [(w0, .inr (5, [.ref w1, .ref w2, .int (nI y), .int te, .ref w3, .ref w4, .ref w5, .int nt, .int wb, .ref w6, .ref w7, .ref w8, .int rc, .ref w9, .ref w10, .ref w11, .ref w12, .ref w13, .ref w14, .int z9.1, .int z9.2, .int th])), (w1, .inl (cI, 100, .inl sg)), (w2, .inl (cI, 244, .inl gl)), (w3, .inl (cI, 1600, .inl fi)), (w4, .inl (cI, 1600, .inl ip)), (w5, .inl (cI, 1600, .inl se))] H → va_D A [(w0, .inr (5, [.ref w1, .ref w2, .int (nI y), .int te, .ref w3, .ref w4, .ref w5, .int nt, .int wb, .ref w6, .ref w7, .ref w8, .int rc, .ref w9, .ref w10, .ref w11, .ref w12, .ref w13, .ref w14, .int z9.1, .int z9.2, .int th])), (w1, .inl (cI, 100, .inl sg)), (w2, .inl (cI, 244, .inl gl)), (w3, .inl (cI, 1600, .inl fi)), (w4, .inl (cI, 1600, .inl ip)), (w5, .inl (cI, 1600, .inl se))] → va_S A s.heap H locs → lv_has ls 5 [(0, .ref w0), (1, .int (nI pp))] → W p l e ({ frames := 7, cells := 0, slots := 0, locals := 166 } : Room) s m args below meth c H locs 0 0 Q (F0 m 2 ls []) := by
  intro fu
  induction fu with
  | zero =>
    intro pp z9 h0
    exact absurd h0 (Nat.not_lt_zero _)
  | succ fu ih =>
    intro pp z9 hmu hpp hR H locs ls hP hD hS hl
    refine lv_iload_n hx hb d_MD_firstBreach_2 rfl (lv_at hl 1 rfl) ?_
    refine lv_sipush (v := nI 1600) hx hb d_MD_firstBreach_3 (by decide +kernel) ?_
    refine jn_icmp_ge (tgt := 176) (a := pp) (b := 1600) hx hb d_MD_firstBreach_6 (by decide) (by omega) (by omega) (fun c_6 => ?_) (fun c_6 => ?_)
    · skip
      exact kx2 z9 (by rw [← hR, show 1600 - pp = 0 by omega]; rfl) _ _ _ (hP.sub [0, 1, 2, 3, 4, 5] rfl) (hD.sub [0, 1, 2, 3, 4, 5] (by decide) rfl) hS (lv_sub hl [0] rfl)
    · skip
      refine lv_aload_n hx hb d_MD_firstBreach_9 rfl (lv_at hl 0 rfl) ?_
      refine va_get (D := D) (ci := 5) (v := .ref w3) (C := R_MD) (T := T_MD) (N := 22) hx hb hw in_MD hown hE.1 hP 0 rfl rfl 4 (by decide) (hw _ kw_765) (fun _ h9 => h9) rfl d_MD_firstBreach_10 ?_
      refine lv_iload_n hx hb d_MD_firstBreach_13 rfl (lv_at hl 1 rfl) ?_
      refine jn_iald (k := pp) hx hb hE.1 hP 3 0 rfl rfl (by omega) (by omega) d_MD_firstBreach_14 ?_
      refine lv_if_eq (tgt := 170) hx hb d_MD_firstBreach_15 (by decide) (fun c_15 => ?_) (fun c_15 => ?_)
      · skip
        refine lv_iinc (v := nI (pp + 1)) (lv' := [(1, .int (nI (pp + 1))), (0, .ref w0)]) hx hb d_MD_firstBreach_170 hl (k := 1) rfl (jn_inc pp 1) (by decide) rfl (fun ls hl => ?_)
        refine lv_goto (tgt := 2) hx hb d_MD_firstBreach_173 (by decide) ?_
        exact ih (pp + 1) z9 (by omega) (by omega) (by rw [← hR, show 1600 - (pp + 1) = 1600 - pp - 1 by omega]; exact (itX_go (by omega) (by show mbP sg gl fi ip se te y pp z9 = _; unfold mbP; rw [if_pos c_15])).symm) _ _ _ (hP.sub [0, 1, 2, 3, 4, 5] rfl) (hD.sub [0, 1, 2, 3, 4, 5] (by decide) rfl) hS (lv_sub hl [1, 0] rfl)
      · skip
        refine lv_aload_n hx hb d_MD_firstBreach_18 rfl (lv_at hl 0 rfl) ?_
        refine va_get (D := D) (ci := 5) (v := .ref w5) (C := R_MD) (T := T_MD) (N := 22) hx hb hw in_MD hown hE.1 hP 0 rfl rfl 6 (by decide) (hw _ kw_767) (fun _ h9 => h9) rfl d_MD_firstBreach_19 ?_
        refine lv_iload_n hx hb d_MD_firstBreach_22 rfl (lv_at hl 1 rfl) ?_
        refine jn_iald (k := pp) hx hb hE.1 hP 5 0 rfl rfl (by omega) (by omega) d_MD_firstBreach_23 ?_
        refine lv_iconst (v := nI 1) hx hb d_MD_firstBreach_24 (by decide +kernel) ?_
        refine lv_icmp_ne (tgt := 31) hx hb d_MD_firstBreach_25 (by decide) (fun c_25 => ?_) (fun c_25 => ?_)
        · skip
          refine lv_iconst (v := nI 0) hx hb d_MD_firstBreach_31 (by decide +kernel) ?_
          refine lv_istore_n (lv' := [(2, .int (nI 0)), (0, .ref w0), (1, .int (nI pp))]) hx hb d_MD_firstBreach_32 rfl hl (by decide) rfl (fun ls hl => ?_)
          refine lv_iconst (v := nI 0) hx hb d_MD_firstBreach_33 (by decide +kernel) ?_
          refine lv_istore_n (lv' := [(3, .int (nI 0)), (2, .int (nI 0)), (0, .ref w0), (1, .int (nI pp))]) hx hb d_MD_firstBreach_34 rfl hl (by decide) rfl (fun ls hl => ?_)
          refine lp_k_MD_firstBreach_35 w0 w1 w2 w3 w4 w5 w6 w7 w8 w9 w10 w11 w12 w13 w14 y te nt wb rc fp ft th sg gl fi ip se hy hfi hgl pp c_6 z9 hx hb hml hown hw hE hX hA (fun a9 ha9 H locs ls hP hD hS hl => ?_) ((4 - 0) + 1) 0 (nI 0) (Nat.lt_succ_self _) (Nat.zero_le _) rfl _ _ _ (hP.sub [0, 1, 2, 3, 4, 5] rfl) (hD.sub [0, 1, 2, 3, 4, 5] (by decide) rfl) hS (lv_sub hl [2, 3, 1, 0] rfl)
          refine lv_aload_n hx hb d_MD_firstBreach_83 rfl (lv_at hl 0 rfl) ?_
          refine lv_iload_n hx hb d_MD_firstBreach_84 rfl (lv_at hl 1 rfl) ?_
          refine va_put (D := D) (ci := 5) (v := .int (nI pp)) (ty := .int) (C := R_MD) (T := T_MD) (N := 22) hx hb hw in_MD ty_MD ty_MD_ok nm_MD_ok hown hE.1 hP hD hS 0 rfl rfl 19 (by decide) (hw _ kw_780) (fun _ h9 => h9) rfl (by decide +kernel) rfl rfl (Nat.le_of_ble_eq_true rfl) d_MD_firstBreach_85 (fun H locs hP hD hS => ?_)
          have hP : va_P D vwCl [(w0, .inr (5, [.ref w1, .ref w2, .int (nI y), .int te, .ref w3, .ref w4, .ref w5, .int nt, .int wb, .ref w6, .ref w7, .ref w8, .int rc, .ref w9, .ref w10, .ref w11, .ref w12, .ref w13, .ref w14, .int (nI pp), .int z9.2, .int th])), (w1, .inl (cI, 100, .inl sg)), (w2, .inl (cI, 244, .inl gl)), (w3, .inl (cI, 1600, .inl fi)), (w4, .inl (cI, 1600, .inl ip)), (w5, .inl (cI, 1600, .inl se))] H := hP
          have hD : va_D A [(w0, .inr (5, [.ref w1, .ref w2, .int (nI y), .int te, .ref w3, .ref w4, .ref w5, .int nt, .int wb, .ref w6, .ref w7, .ref w8, .int rc, .ref w9, .ref w10, .ref w11, .ref w12, .ref w13, .ref w14, .int (nI pp), .int z9.2, .int th])), (w1, .inl (cI, 100, .inl sg)), (w2, .inl (cI, 244, .inl gl)), (w3, .inl (cI, 1600, .inl fi)), (w4, .inl (cI, 1600, .inl ip)), (w5, .inl (cI, 1600, .inl se))] := hD
          refine lv_aload_n hx hb d_MD_firstBreach_88 rfl (lv_at hl 0 rfl) ?_
          refine lv_aload_n hx hb d_MD_firstBreach_89 rfl (lv_at hl 0 rfl) ?_
          refine va_get (D := D) (ci := 5) (v := .ref w3) (C := R_MD) (T := T_MD) (N := 22) hx hb hw in_MD hown hE.1 hP 0 rfl rfl 4 (by decide) (hw _ kw_765) (fun _ h9 => h9) rfl d_MD_firstBreach_90 ?_
          refine lv_iload_n hx hb d_MD_firstBreach_93 rfl (lv_at hl 1 rfl) ?_
          refine jn_iald (k := pp) hx hb hE.1 hP 3 0 rfl rfl (by omega) (by omega) d_MD_firstBreach_94 ?_
          refine va_put (D := D) (ci := 5) (v := .int (fi pp)) (ty := .int) (C := R_MD) (T := T_MD) (N := 22) hx hb hw in_MD ty_MD ty_MD_ok nm_MD_ok hown hE.1 hP hD hS 0 rfl rfl 20 (by decide) (hw _ kw_781) (fun _ h9 => h9) rfl (by decide +kernel) rfl rfl (Nat.le_of_ble_eq_true rfl) d_MD_firstBreach_95 (fun H locs hP hD hS => ?_)
          have hP : va_P D vwCl [(w0, .inr (5, [.ref w1, .ref w2, .int (nI y), .int te, .ref w3, .ref w4, .ref w5, .int nt, .int wb, .ref w6, .ref w7, .ref w8, .int rc, .ref w9, .ref w10, .ref w11, .ref w12, .ref w13, .ref w14, .int (nI pp), .int (fi pp), .int th])), (w1, .inl (cI, 100, .inl sg)), (w2, .inl (cI, 244, .inl gl)), (w3, .inl (cI, 1600, .inl fi)), (w4, .inl (cI, 1600, .inl ip)), (w5, .inl (cI, 1600, .inl se))] H := hP
          have hD : va_D A [(w0, .inr (5, [.ref w1, .ref w2, .int (nI y), .int te, .ref w3, .ref w4, .ref w5, .int nt, .int wb, .ref w6, .ref w7, .ref w8, .int rc, .ref w9, .ref w10, .ref w11, .ref w12, .ref w13, .ref w14, .int (nI pp), .int (fi pp), .int th])), (w1, .inl (cI, 100, .inl sg)), (w2, .inl (cI, 244, .inl gl)), (w3, .inl (cI, 1600, .inl fi)), (w4, .inl (cI, 1600, .inl ip)), (w5, .inl (cI, 1600, .inl se))] := hD
          refine lv_iload_n hx hb d_MD_firstBreach_98 rfl (lv_at hl 2 rfl) ?_
          refine lv_aload_n hx hb d_MD_firstBreach_99 rfl (lv_at hl 0 rfl) ?_
          refine va_get (D := D) (ci := 5) (v := .int te) (C := R_MD) (T := T_MD) (N := 22) hx hb hw in_MD hown hE.1 hP 0 rfl rfl 3 (by decide) (hw _ kw_764) (fun _ h9 => h9) rfl d_MD_firstBreach_100 ?_
          refine lv_icmp_eq (tgt := 108) hx hb d_MD_firstBreach_103 (by decide) (fun c_103 => ?_) (fun c_103 => ?_)
          · skip
            refine lv_aload_n hx hb d_MD_firstBreach_108 rfl (lv_at hl 0 rfl) ?_
            refine lv_iload_n hx hb d_MD_firstBreach_109 rfl (lv_at hl 1 rfl) ?_
            refine vp_callSi (va_Run.run (va_runV (As := [.int (nI pp)]) (rest := []) ⟨hx, hb, hml, hown, hw⟩ (k_MD_outputs l D cI cJ w0 w1 w2 w3 w4 w5 w6 w7 w8 w9 w10 w11 w12 w13 w14 (nI y) te nt wb rc (nI pp) (fi pp) th fi ip pp (by omega)) (cwV 1 hw (gV kw_943 kw_945 kw_32 kw_45 kw_946) rfl rfl rfl (by decide +kernel) ⟨Nat.le_of_ble_eq_true rfl, Nat.le_of_ble_eq_true rfl⟩) (pre_Vp (wc := [(w0, .inr (5, [.ref w1, .ref w2, .int (nI y), .int te, .ref w3, .ref w4, .ref w5, .int nt, .int wb, .ref w6, .ref w7, .ref w8, .int rc, .ref w9, .ref w10, .ref w11, .ref w12, .ref w13, .ref w14, .int (nI pp), .int (fi pp), .int th])), (w3, .inl (cI, 1600, .inl fi)), (w4, .inl (cI, 1600, .inl ip))]) (q0 := 0) hE hX hP hS [0, 3, 4] rfl rfl rfl) rfl rfl hl.1 rfl (lv_room (Nat.le_of_ble_eq_true rfl)) d_MD_firstBreach_110 ⟨Nat.le_of_ble_eq_true rfl, Nat.le_of_ble_eq_true rfl⟩)) (fun r_1 hr_1 => ?_)
            obtain rfl : ouL fi ip pp 4 = r_1 := hr_1.symm
            refine lv_istore_n (lv' := [(3, .int (ouL fi ip pp 4)), (0, .ref w0), (1, .int (nI pp)), (2, .int a9)]) hx hb d_MD_firstBreach_113 rfl hl (by decide) rfl (fun ls hl => ?_)
            refine lv_iconst (v := nI 1) hx hb d_MD_firstBreach_114 (by decide +kernel) ?_
            refine lv_istore (lv' := [(4, .int (nI 1)), (3, .int (ouL fi ip pp 4)), (0, .ref w0), (1, .int (nI pp)), (2, .int a9)]) hx hb d_MD_firstBreach_115 hl (by decide) rfl (fun ls hl => ?_)
            refine lp_k_MD_firstBreach_117 w0 w1 w2 w3 w4 w5 w6 w7 w8 w9 w10 w11 w12 w13 w14 y te nt wb rc fp ft th sg gl fi ip se hy hfi hgl pp c_6 (ouL fi ip pp 4) (nI pp, fi pp) hx hb hml hown hw hE hX hA (fun z8 hR8 H locs ls hP hD hS hl => ?_) (fun z8 hR8 H locs ls hP hD hS hl => ?_) ((y + 1 - 1) + 1) 1 (nI pp, fi pp) (Nat.lt_succ_self _) (Nat.le_refl _) (by omega) (by rw [Nat.add_sub_cancel]) _ _ _ (hP.sub [0, 1, 2, 3, 4, 5] rfl) (hD.sub [0, 1, 2, 3, 4, 5] (by decide) rfl) hS (lv_sub hl [2, 3, 1, 0] rfl)
            · skip
              exact kx1 z8 (by rw [← hR]; exact itX_no (by omega) (by show mbP sg gl fi ip se te y pp z9 = _; unfold mbP; rw [if_neg c_15, if_neg c_25, if_pos (ha9.symm.trans c_103)]; exact hR8)) _ _ _ (hP.sub [0, 1, 2, 3, 4, 5] rfl) (hD.sub [0, 1, 2, 3, 4, 5] (by decide) rfl) hS (lv_sub hl [] rfl)
            · skip
              refine lv_iinc (v := nI (pp + 1)) (lv' := [(1, .int (nI (pp + 1))), (0, .ref w0)]) hx hb d_MD_firstBreach_170 hl (k := 1) rfl (jn_inc pp 1) (by decide) rfl (fun ls hl => ?_)
              refine lv_goto (tgt := 2) hx hb d_MD_firstBreach_173 (by decide) ?_
              exact ih (pp + 1) z8 (by omega) (by omega) (by rw [← hR, show 1600 - (pp + 1) = 1600 - pp - 1 by omega]; exact (itX_go (by omega) (by show mbP sg gl fi ip se te y pp z9 = _; unfold mbP; rw [if_neg c_15, if_neg c_25, if_pos (ha9.symm.trans c_103)]; exact hR8)).symm) _ _ _ (hP.sub [0, 1, 2, 3, 4, 5] rfl) (hD.sub [0, 1, 2, 3, 4, 5] (by decide) rfl) hS (lv_sub hl [1, 0] rfl)
          · skip
            exact kx0 (nI pp, fi pp) (by rw [← hR]; exact itX_no (by omega) (by show mbP sg gl fi ip se te y pp z9 = _; unfold mbP; rw [if_neg c_15, if_neg c_25, if_neg (fun q => c_103 (ha9.trans q))])) _ _ _ (hP.sub [0, 1, 2, 3, 4, 5] rfl) (hD.sub [0, 1, 2, 3, 4, 5] (by decide) rfl) hS (lv_sub hl [] rfl)
        · skip
          refine lv_goto (tgt := 170) hx hb d_MD_firstBreach_28 (by decide) ?_
          refine lv_iinc (v := nI (pp + 1)) (lv' := [(1, .int (nI (pp + 1))), (0, .ref w0)]) hx hb d_MD_firstBreach_170 hl (k := 1) rfl (jn_inc pp 1) (by decide) rfl (fun ls hl => ?_)
          refine lv_goto (tgt := 2) hx hb d_MD_firstBreach_173 (by decide) ?_
          exact ih (pp + 1) z9 (by omega) (by omega) (by rw [← hR, show 1600 - (pp + 1) = 1600 - pp - 1 by omega]; exact (itX_go (by omega) (by show mbP sg gl fi ip se te y pp z9 = _; unfold mbP; rw [if_neg c_15, if_pos c_25])).symm) _ _ _ (hP.sub [0, 1, 2, 3, 4, 5] rfl) (hD.sub [0, 1, 2, 3, 4, 5] (by decide) rfl) hS (lv_sub hl [1, 0] rfl)
set_option maxHeartbeats 4000000 in
set_option maxRecDepth 100000 in
/-- firstBreach -/
theorem k_MD_firstBreach (l : Launch) (D : va_G) (cI cJ : ClassId) (w0 : Nat) (w1 : Nat) (w2 : Nat) (w3 : Nat) (w4 : Nat) (w5 : Nat) (w6 : Nat) (w7 : Nat) (w8 : Nat) (w9 : Nat) (w10 : Nat) (w11 : Nat) (w12 : Nat) (w13 : Nat) (w14 : Nat) (y : Nat) (te : Int32) (nt : Int32) (wb : Int32) (rc : Int32) (fp : Int32) (ft : Int32) (th : Int32) (sg : Nat → Int32) (gl : Nat → Int32) (fi : Nat → Int32) (ip : Nat → Int32) (se : Nat → Int32) (sz : Nat) (hy : y ≤ 60) (hfi : okFi fi) (hgl : okGl gl) : Met l y_MD_firstBreach ws_MD_firstBreach ({ frames := 7, cells := 0, slots := 0, locals := 166 } : Room) (va_Pc [.ref w0] (Pw D cI cJ [(w0, .inr (5, [.ref w1, .ref w2, .int (nI y), .int te, .ref w3, .ref w4, .ref w5, .int nt, .int wb, .ref w6, .ref w7, .ref w8, .int rc, .ref w9, .ref w10, .ref w11, .ref w12, .ref w13, .ref w14, .int fp, .int ft, .int th])), (w1, .inl (cI, 100, .inl sg)), (w2, .inl (cI, 244, .inl gl)), (w3, .inl (cI, 1600, .inl fi)), (w4, .inl (cI, 1600, .inl ip)), (w5, .inl (cI, 1600, .inl se))] sz)) (va_Qi (fun (r : Int32) (u9 : F2) => ∃ n, r = nI n ∧ n ≤ 3 ∧ fbR sg gl fi ip se te y fp ft n u9 ∧ (n = 0 ∨ ∃ p t : Nat, p < 1600 ∧ t ≤ 60 ∧ u9 = (nI p, nI t))) (fun u9 t9 => Bw D (va_A [(w0, .inr (5, [.ref w1, .ref w2, .int (nI y), .int te, .ref w3, .ref w4, .ref w5, .int nt, .int wb, .ref w6, .ref w7, .ref w8, .int rc, .ref w9, .ref w10, .ref w11, .ref w12, .ref w13, .ref w14, .int fp, .int ft, .int th])), (w1, .inl (cI, 100, .inl sg)), (w2, .inl (cI, 244, .inl gl)), (w3, .inl (cI, 1600, .inl fi)), (w4, .inl (cI, 1600, .inl ip)), (w5, .inl (cI, 1600, .inl se))] sz) [(w0, .inr (5, [.ref w1, .ref w2, .int (nI y), .int te, .ref w3, .ref w4, .ref w5, .int nt, .int wb, .ref w6, .ref w7, .ref w8, .int rc, .ref w9, .ref w10, .ref w11, .ref w12, .ref w13, .ref w14, .int u9.1, .int u9.2, .int th])), (w1, .inl (cI, 100, .inl sg)), (w2, .inl (cI, 244, .inl gl)), (w3, .inl (cI, 1600, .inl fi)), (w4, .inl (cI, 1600, .inl ip)), (w5, .inl (cI, 1600, .inl se))] t9) (va_A [(w0, .inr (5, [.ref w1, .ref w2, .int (nI y), .int te, .ref w3, .ref w4, .ref w5, .int nt, .int wb, .ref w6, .ref w7, .ref w8, .int rc, .ref w9, .ref w10, .ref w11, .ref w12, .ref w13, .ref w14, .int fp, .int ft, .int th])), (w1, .inl (cI, 100, .inl sg)), (w2, .inl (cI, 244, .inl gl)), (w3, .inl (cI, 1600, .inl fi)), (w4, .inl (cI, 1600, .inl ip)), (w5, .inl (cI, 1600, .inl se))] sz)) 0 0 (va_A [(w0, .inr (5, [.ref w1, .ref w2, .int (nI y), .int te, .ref w3, .ref w4, .ref w5, .int nt, .int wb, .ref w6, .ref w7, .ref w8, .int rc, .ref w9, .ref w10, .ref w11, .ref w12, .ref w13, .ref w14, .int fp, .int ft, .int th])), (w1, .inl (cI, 100, .inl sg)), (w2, .inl (cI, 244, .inl gl)), (w3, .inl (cI, 1600, .inl fi)), (w4, .inl (cI, 1600, .inl ip)), (w5, .inl (cI, 1600, .inl se))] sz) := by
  refine Met.ofW (cc := c_MD_firstBreach) (maxL := 5) (ret := (some .int)) (by decide) rfl ?_
  intro p e s m args below meth c s₁ B hml hv
  obtain ⟨rfl, hsz, hE, hP, hD0, hX⟩ := hv
  have hx := B.exec
  have hb := B.bytes
  have hr := B.returns
  have hw : ∀ w ∈ gw, w.before _ s = true := fun w h => atoms_spec (ws := ws_MD_firstBreach) B.pre w (List.mem_cons_of_mem _ h)
  have hown : s.vm.findClass R_MD = some m.cls := findClass_of_methodNamed B.named
  have hlocks := B.notSynchronized
  subst hsz
  have hD := hD0.self (sz := s.heap.size)
  generalize hAe : va_A [(w0, .inr (5, [.ref w1, .ref w2, .int (nI y), .int te, .ref w3, .ref w4, .ref w5, .int nt, .int wb, .ref w6, .ref w7, .ref w8, .int rc, .ref w9, .ref w10, .ref w11, .ref w12, .ref w13, .ref w14, .int fp, .int ft, .int th])), (w1, .inl (cI, 100, .inl sg)), (w2, .inl (cI, 244, .inl gl)), (w3, .inl (cI, 1600, .inl fi)), (w4, .inl (cI, 1600, .inl ip)), (w5, .inl (cI, 1600, .inl se))] s.heap.size = A at hD hX ⊢
  have hA : ∀ q : Nat, s.heap.size ≤ q → A q := fun q h => by rw [← hAe]; exact Or.inr h
  have hS : va_S A s.heap s.heap [] := va_S.rf
  have hP : va_P D vwCl [(w0, .inr (5, [.ref w1, .ref w2, .int (nI y), .int te, .ref w3, .ref w4, .ref w5, .int nt, .int wb, .ref w6, .ref w7, .ref w8, .int rc, .ref w9, .ref w10, .ref w11, .ref w12, .ref w13, .ref w14, .int fp, .int ft, .int th])), (w1, .inl (cI, 100, .inl sg)), (w2, .inl (cI, 244, .inl gl)), (w3, .inl (cI, 1600, .inl fi)), (w4, .inl (cI, 1600, .inl ip)), (w5, .inl (cI, 1600, .inl se))] s.heap := hP
  have hl := lv_entry ([.ref w0]) (n := 5) (Nat.le_of_ble_eq_true rfl)
  rw [lg_entry_eq]
  generalize (lg_sl ([.ref w0]) ++ List.replicate (5 - (lg_sl ([.ref w0])).length) Slot.unset).toArray = ls at hl ⊢
  have hl : lv_has ls 5 [(0, .ref w0)] := hl
  refine lv_iconst (v := nI 0) hx hb d_MD_firstBreach_0 (by decide +kernel) ?_
  refine lv_istore_n (lv' := [(1, .int (nI 0)), (0, .ref w0)]) hx hb d_MD_firstBreach_1 rfl hl (by decide) rfl (fun ls hl => ?_)
  refine lp_k_MD_firstBreach_2 w0 w1 w2 w3 w4 w5 w6 w7 w8 w9 w10 w11 w12 w13 w14 y te nt wb rc fp ft th sg gl fi ip se hy hfi hgl hx hb hml hown hw hE hX hA (fun z9 hR H locs ls hP hD hS hl => ?_) (fun z9 hR H locs ls hP hD hS hl => ?_) (fun z9 hR H locs ls hP hD hS hl => ?_) ((1600 - 0) + 1) 0 (fp, ft) (Nat.lt_succ_self _) (Nat.zero_le _) rfl _ _ _ (hP.sub [0, 1, 2, 3, 4, 5] rfl) (hD.sub [0, 1, 2, 3, 4, 5] (by decide) rfl) hS (lv_sub hl [1, 0] rfl)
  · skip
    refine lv_iconst (v := nI 1) hx hb d_MD_firstBreach_106 (by decide +kernel) ?_
    have hP9 := hP.sub (ws' := [(w0, .inr (5, [.ref w1, .ref w2, .int (nI y), .int te, .ref w3, .ref w4, .ref w5, .int nt, .int wb, .ref w6, .ref w7, .ref w8, .int rc, .ref w9, .ref w10, .ref w11, .ref w12, .ref w13, .ref w14, .int z9.1, .int z9.2, .int th])), (w1, .inl (cI, 100, .inl sg)), (w2, .inl (cI, 244, .inl gl)), (w3, .inl (cI, 1600, .inl fi)), (w4, .inl (cI, 1600, .inl ip)), (w5, .inl (cI, 1600, .inl se))]) [0, 1, 2, 3, 4, 5] rfl
    have hD9 := hD.sub (ws' := [(w0, .inr (5, [.ref w1, .ref w2, .int (nI y), .int te, .ref w3, .ref w4, .ref w5, .int nt, .int wb, .ref w6, .ref w7, .ref w8, .int rc, .ref w9, .ref w10, .ref w11, .ref w12, .ref w13, .ref w14, .int z9.1, .int z9.2, .int th])), (w1, .inl (cI, 100, .inl sg)), (w2, .inl (cI, 244, .inl gl)), (w3, .inl (cI, 1600, .inl fi)), (w4, .inl (cI, 1600, .inl ip)), (w5, .inl (cI, 1600, .inl se))]) [0, 1, 2, 3, 4, 5] (by decide) rfl
    exact W.iret (v := nI 1) hx hb hr (fun t9 ht hW => ⟨⟨_, z9, rfl, ⟨1, rfl, by decide, Or.inl hR, Or.inr (mbV_ok hfi hy hR).2⟩, ⟨by rw [ht]; exact hP9, hD9⟩⟩, hS.F ht⟩) hS.2.2 d_MD_firstBreach_107
  · skip
    refine lv_iconst (v := nI 2) hx hb d_MD_firstBreach_162 (by decide +kernel) ?_
    have hP9 := hP.sub (ws' := [(w0, .inr (5, [.ref w1, .ref w2, .int (nI y), .int te, .ref w3, .ref w4, .ref w5, .int nt, .int wb, .ref w6, .ref w7, .ref w8, .int rc, .ref w9, .ref w10, .ref w11, .ref w12, .ref w13, .ref w14, .int z9.1, .int z9.2, .int th])), (w1, .inl (cI, 100, .inl sg)), (w2, .inl (cI, 244, .inl gl)), (w3, .inl (cI, 1600, .inl fi)), (w4, .inl (cI, 1600, .inl ip)), (w5, .inl (cI, 1600, .inl se))]) [0, 1, 2, 3, 4, 5] rfl
    have hD9 := hD.sub (ws' := [(w0, .inr (5, [.ref w1, .ref w2, .int (nI y), .int te, .ref w3, .ref w4, .ref w5, .int nt, .int wb, .ref w6, .ref w7, .ref w8, .int rc, .ref w9, .ref w10, .ref w11, .ref w12, .ref w13, .ref w14, .int z9.1, .int z9.2, .int th])), (w1, .inl (cI, 100, .inl sg)), (w2, .inl (cI, 244, .inl gl)), (w3, .inl (cI, 1600, .inl fi)), (w4, .inl (cI, 1600, .inl ip)), (w5, .inl (cI, 1600, .inl se))]) [0, 1, 2, 3, 4, 5] (by decide) rfl
    exact W.iret (v := nI 2) hx hb hr (fun t9 ht hW => ⟨⟨_, z9, rfl, ⟨2, rfl, by decide, Or.inl hR, Or.inr (mbV_ok hfi hy hR).2⟩, ⟨by rw [ht]; exact hP9, hD9⟩⟩, hS.F ht⟩) hS.2.2 d_MD_firstBreach_163
  · skip
    refine lv_aload_n hx hb d_MD_firstBreach_176 rfl (lv_at hl 0 rfl) ?_
    refine lv_aload_n hx hb d_MD_firstBreach_177 rfl (lv_at hl 0 rfl) ?_
    refine va_get (D := D) (ci := 5) (v := .ref w3) (C := R_MD) (T := T_MD) (N := 22) hx hb hw in_MD hown hE.1 hP 0 rfl rfl 4 (by decide) (hw _ kw_765) (fun _ h9 => h9) rfl d_MD_firstBreach_178 ?_
    refine lv_iconst (v := nI 0) hx hb d_MD_firstBreach_181 (by decide +kernel) ?_
    refine cl_i (wr := [(w4, .inl (cI, 1600, .inl ip)), (w5, .inl (cI, 1600, .inl se))]) (va_runV (As := [.ref w3, .int (nI 0)]) (rest := []) ⟨hx, hb, hml, hown, hw⟩ (k_MD_find l D cI cJ w0 w1 w2 w3 w4 w5 w6 w7 w8 w9 w10 w11 w12 w13 w14 y te nt wb rc z9.1 z9.2 th sg gl w3 fi (nI 0) _ hy hfi hgl) (cwV 2 hw (gV kw_913 kw_915 kw_30 kw_45 kw_916) rfl rfl rfl (by decide +kernel) ⟨Nat.le_of_ble_eq_true rfl, Nat.le_of_ble_eq_true rfl⟩) (pre_Vw (wc := [(w0, .inr (5, [.ref w1, .ref w2, .int (nI y), .int te, .ref w3, .ref w4, .ref w5, .int nt, .int wb, .ref w6, .ref w7, .ref w8, .int rc, .ref w9, .ref w10, .ref w11, .ref w12, .ref w13, .ref w14, .int z9.1, .int z9.2, .int th])), (w1, .inl (cI, 100, .inl sg)), (w2, .inl (cI, 244, .inl gl)), (w3, .inl (cI, 1600, .inl fi))]) (q0 := 0) hE hX hA hP hD hS [0, 1, 2, 3] (by decide) rfl rfl rfl rfl) rfl rfl hl.1 rfl (lv_room (Nat.le_of_ble_eq_true rfl)) d_MD_firstBreach_182 ⟨Nat.le_of_ble_eq_true rfl, Nat.le_of_ble_eq_true rfl⟩) hP hD hS hA [0, 1, 2, 3] [4, 5] rfl rfl (by decide) (by decide) (fun r_1 u_r_1 H locs hr_1 hP hD hS => ?_)
    have hP : va_P D vwCl [(w4, .inl (cI, 1600, .inl ip)), (w5, .inl (cI, 1600, .inl se)), (w0, .inr (5, [.ref w1, .ref w2, .int (nI y), .int te, .ref w3, .ref w4, .ref w5, .int nt, .int wb, .ref w6, .ref w7, .ref w8, .int rc, .ref w9, .ref w10, .ref w11, .ref w12, .ref w13, .ref w14, .int u_r_1.2.1, .int u_r_1.2.2, .int th])), (w1, .inl (cI, 100, .inl sg)), (w2, .inl (cI, 244, .inl gl)), (w3, .inl (cI, 1600, .inl fi))] H := hP
    have hD : va_D A [(w4, .inl (cI, 1600, .inl ip)), (w5, .inl (cI, 1600, .inl se)), (w0, .inr (5, [.ref w1, .ref w2, .int (nI y), .int te, .ref w3, .ref w4, .ref w5, .int nt, .int wb, .ref w6, .ref w7, .ref w8, .int rc, .ref w9, .ref w10, .ref w11, .ref w12, .ref w13, .ref w14, .int u_r_1.2.1, .int u_r_1.2.2, .int th])), (w1, .inl (cI, 100, .inl sg)), (w2, .inl (cI, 244, .inl gl)), (w3, .inl (cI, 1600, .inl fi))] := hD
    obtain ⟨o, rfl, hfd⟩ := hr_1
    rw [fdV_R hfd]
    have hfo : okFd y u_r_1 := by have h := fdV_ok sg gl fi te (nI 0) y z9.1 z9.2; rw [← hfd] at h; exact h
    have hfl : u_r_1.1 ≤ 96000 := by have h := fdV_le (sg := sg) (gl := gl) (fi := fi) (te := te) (x := nI 0) (y := y) (fp := z9.1) (ft := z9.2) hy; rw [← hfd] at h; exact h
    refine jn_if_le (tgt := 192) (a := u_r_1.1) hx hb d_MD_firstBreach_185 (by decide) (by omega) (fun c_185 => ?_) (fun c_185 => ?_)
    · skip
      refine lv_iconst (v := nI 0) hx hb d_MD_firstBreach_192 (by decide +kernel) ?_
      have hP9 := hP.sub (ws' := [(w0, .inr (5, [.ref w1, .ref w2, .int (nI y), .int te, .ref w3, .ref w4, .ref w5, .int nt, .int wb, .ref w6, .ref w7, .ref w8, .int rc, .ref w9, .ref w10, .ref w11, .ref w12, .ref w13, .ref w14, .int u_r_1.2.1, .int u_r_1.2.2, .int th])), (w1, .inl (cI, 100, .inl sg)), (w2, .inl (cI, 244, .inl gl)), (w3, .inl (cI, 1600, .inl fi)), (w4, .inl (cI, 1600, .inl ip)), (w5, .inl (cI, 1600, .inl se))]) [2, 3, 4, 5, 0, 1] rfl
      have hD9 := hD.sub (ws' := [(w0, .inr (5, [.ref w1, .ref w2, .int (nI y), .int te, .ref w3, .ref w4, .ref w5, .int nt, .int wb, .ref w6, .ref w7, .ref w8, .int rc, .ref w9, .ref w10, .ref w11, .ref w12, .ref w13, .ref w14, .int u_r_1.2.1, .int u_r_1.2.2, .int th])), (w1, .inl (cI, 100, .inl sg)), (w2, .inl (cI, 244, .inl gl)), (w3, .inl (cI, 1600, .inl fi)), (w4, .inl (cI, 1600, .inl ip)), (w5, .inl (cI, 1600, .inl se))]) [2, 3, 4, 5, 0, 1] (by decide) rfl
      exact W.iret (v := nI 0) hx hb hr (fun t9 ht hW => ⟨⟨_, u_r_1.2, rfl, ⟨0, rfl, by decide, Or.inr ⟨z9, o, u_r_1, hR, hfd, (if_pos (show u_r_1.1 = 0 by omega)).symm, rfl⟩, Or.inl rfl⟩, ⟨by rw [ht]; exact hP9, hD9⟩⟩, hS.F ht⟩) hS.2.2 d_MD_firstBreach_193
    · skip
      refine lv_iconst (v := nI 3) hx hb d_MD_firstBreach_188 (by decide +kernel) ?_
      refine lv_goto (tgt := 193) hx hb d_MD_firstBreach_189 (by decide) ?_
      have hP9 := hP.sub (ws' := [(w0, .inr (5, [.ref w1, .ref w2, .int (nI y), .int te, .ref w3, .ref w4, .ref w5, .int nt, .int wb, .ref w6, .ref w7, .ref w8, .int rc, .ref w9, .ref w10, .ref w11, .ref w12, .ref w13, .ref w14, .int u_r_1.2.1, .int u_r_1.2.2, .int th])), (w1, .inl (cI, 100, .inl sg)), (w2, .inl (cI, 244, .inl gl)), (w3, .inl (cI, 1600, .inl fi)), (w4, .inl (cI, 1600, .inl ip)), (w5, .inl (cI, 1600, .inl se))]) [2, 3, 4, 5, 0, 1] rfl
      have hD9 := hD.sub (ws' := [(w0, .inr (5, [.ref w1, .ref w2, .int (nI y), .int te, .ref w3, .ref w4, .ref w5, .int nt, .int wb, .ref w6, .ref w7, .ref w8, .int rc, .ref w9, .ref w10, .ref w11, .ref w12, .ref w13, .ref w14, .int u_r_1.2.1, .int u_r_1.2.2, .int th])), (w1, .inl (cI, 100, .inl sg)), (w2, .inl (cI, 244, .inl gl)), (w3, .inl (cI, 1600, .inl fi)), (w4, .inl (cI, 1600, .inl ip)), (w5, .inl (cI, 1600, .inl se))]) [2, 3, 4, 5, 0, 1] (by decide) rfl
      exact W.iret (v := nI 3) hx hb hr (fun t9 ht hW => ⟨⟨_, u_r_1.2, rfl, ⟨3, rfl, by decide, Or.inr ⟨z9, o, u_r_1, hR, hfd, (if_neg (show ¬ u_r_1.1 = 0 by omega)).symm, rfl⟩, Or.inr (by obtain ⟨p9, t9_, h1, h2, h3, h4, h5⟩ := hfo.resolve_left (by omega); exact ⟨p9, t9_, h1, by omega, by rw [← h4, ← h5]⟩)⟩, ⟨by rw [ht]; exact hP9, hD9⟩⟩, hS.F ht⟩) hS.2.2 d_MD_firstBreach_193
set_option maxHeartbeats 4000000 in
set_option maxRecDepth 100000 in
/-- breach -/
theorem k_MD_breach (l : Launch) (D : va_G) (cI cJ : ClassId) (w0 : Nat) (w1 : Nat) (w2 : Nat) (w3 : Nat) (w4 : Nat) (w5 : Nat) (w6 : Nat) (w7 : Nat) (w8 : Nat) (w9 : Nat) (w10 : Nat) (w11 : Nat) (w12 : Nat) (w13 : Nat) (w14 : Nat) (y : Nat) (te : Int32) (nt : Int32) (wb : Int32) (rc : Int32) (fp : Int32) (ft : Int32) (th : Int32) (sg : Nat → Int32) (gl : Nat → Int32) (fi : Nat → Int32) (ip : Nat → Int32) (se : Nat → Int32) (x : Int32) (sz : Nat) (hy : y ≤ 60) (hfi : okFi fi) (hgl : okGl gl) : Met l y_MD_breach ws_MD_breach ({ frames := 8, cells := 0, slots := 0, locals := 190 } : Room) (va_Pc [.ref w0, .int x] (Pw D cI cJ [(w0, .inr (5, [.ref w1, .ref w2, .int (nI y), .int te, .ref w3, .ref w4, .ref w5, .int nt, .int wb, .ref w6, .ref w7, .ref w8, .int rc, .ref w9, .ref w10, .ref w11, .ref w12, .ref w13, .ref w14, .int fp, .int ft, .int th])), (w1, .inl (cI, 100, .inl sg)), (w2, .inl (cI, 244, .inl gl)), (w3, .inl (cI, 1600, .inl fi)), (w4, .inl (cI, 1600, .inl ip)), (w5, .inl (cI, 1600, .inl se))] sz)) (va_Qi (fun (r : Int32) (u9 : Int32 × Int32 × Int32) => (wiN x (nI 0) (nI 3) = 0 ∧ r = nI 0 ∧ u9 = (fp, ft, nI 1)) ∨ (wiN x (nI 0) (nI 3) ≠ 0 ∧ u9.2.2 = nI 0 ∧ ∃ n, fbR sg gl fi ip se te y fp ft n (u9.1, u9.2.1) ∧ r = mbW n x (u9.1, u9.2.1))) (fun u9 t9 => Bw D (va_A [(w0, .inr (5, [.ref w1, .ref w2, .int (nI y), .int te, .ref w3, .ref w4, .ref w5, .int nt, .int wb, .ref w6, .ref w7, .ref w8, .int rc, .ref w9, .ref w10, .ref w11, .ref w12, .ref w13, .ref w14, .int fp, .int ft, .int th])), (w1, .inl (cI, 100, .inl sg)), (w2, .inl (cI, 244, .inl gl)), (w3, .inl (cI, 1600, .inl fi)), (w4, .inl (cI, 1600, .inl ip)), (w5, .inl (cI, 1600, .inl se))] sz) [(w0, .inr (5, [.ref w1, .ref w2, .int (nI y), .int te, .ref w3, .ref w4, .ref w5, .int nt, .int wb, .ref w6, .ref w7, .ref w8, .int rc, .ref w9, .ref w10, .ref w11, .ref w12, .ref w13, .ref w14, .int u9.1, .int u9.2.1, .int u9.2.2])), (w1, .inl (cI, 100, .inl sg)), (w2, .inl (cI, 244, .inl gl)), (w3, .inl (cI, 1600, .inl fi)), (w4, .inl (cI, 1600, .inl ip)), (w5, .inl (cI, 1600, .inl se))] t9) (va_A [(w0, .inr (5, [.ref w1, .ref w2, .int (nI y), .int te, .ref w3, .ref w4, .ref w5, .int nt, .int wb, .ref w6, .ref w7, .ref w8, .int rc, .ref w9, .ref w10, .ref w11, .ref w12, .ref w13, .ref w14, .int fp, .int ft, .int th])), (w1, .inl (cI, 100, .inl sg)), (w2, .inl (cI, 244, .inl gl)), (w3, .inl (cI, 1600, .inl fi)), (w4, .inl (cI, 1600, .inl ip)), (w5, .inl (cI, 1600, .inl se))] sz)) 0 0 (va_A [(w0, .inr (5, [.ref w1, .ref w2, .int (nI y), .int te, .ref w3, .ref w4, .ref w5, .int nt, .int wb, .ref w6, .ref w7, .ref w8, .int rc, .ref w9, .ref w10, .ref w11, .ref w12, .ref w13, .ref w14, .int fp, .int ft, .int th])), (w1, .inl (cI, 100, .inl sg)), (w2, .inl (cI, 244, .inl gl)), (w3, .inl (cI, 1600, .inl fi)), (w4, .inl (cI, 1600, .inl ip)), (w5, .inl (cI, 1600, .inl se))] sz) := by
  refine Met.ofW (cc := c_MD_breach) (maxL := 3) (ret := (some .int)) (by decide) rfl ?_
  intro p e s m args below meth c s₁ B hml hv
  obtain ⟨rfl, hsz, hE, hP, hD0, hX⟩ := hv
  have hx := B.exec
  have hb := B.bytes
  have hr := B.returns
  have hw : ∀ w ∈ gw, w.before _ s = true := fun w h => atoms_spec (ws := ws_MD_breach) B.pre w (List.mem_cons_of_mem _ h)
  have hown : s.vm.findClass R_MD = some m.cls := findClass_of_methodNamed B.named
  have hlocks := B.notSynchronized
  subst hsz
  have hD := hD0.self (sz := s.heap.size)
  generalize hAe : va_A [(w0, .inr (5, [.ref w1, .ref w2, .int (nI y), .int te, .ref w3, .ref w4, .ref w5, .int nt, .int wb, .ref w6, .ref w7, .ref w8, .int rc, .ref w9, .ref w10, .ref w11, .ref w12, .ref w13, .ref w14, .int fp, .int ft, .int th])), (w1, .inl (cI, 100, .inl sg)), (w2, .inl (cI, 244, .inl gl)), (w3, .inl (cI, 1600, .inl fi)), (w4, .inl (cI, 1600, .inl ip)), (w5, .inl (cI, 1600, .inl se))] s.heap.size = A at hD hX ⊢
  have hA : ∀ q : Nat, s.heap.size ≤ q → A q := fun q h => by rw [← hAe]; exact Or.inr h
  have hS : va_S A s.heap s.heap [] := va_S.rf
  have hP : va_P D vwCl [(w0, .inr (5, [.ref w1, .ref w2, .int (nI y), .int te, .ref w3, .ref w4, .ref w5, .int nt, .int wb, .ref w6, .ref w7, .ref w8, .int rc, .ref w9, .ref w10, .ref w11, .ref w12, .ref w13, .ref w14, .int fp, .int ft, .int th])), (w1, .inl (cI, 100, .inl sg)), (w2, .inl (cI, 244, .inl gl)), (w3, .inl (cI, 1600, .inl fi)), (w4, .inl (cI, 1600, .inl ip)), (w5, .inl (cI, 1600, .inl se))] s.heap := hP
  have hl := lv_entry ([.ref w0, .int x]) (n := 3) (Nat.le_of_ble_eq_true rfl)
  rw [lg_entry_eq]
  generalize (lg_sl ([.ref w0, .int x]) ++ List.replicate (3 - (lg_sl ([.ref w0, .int x])).length) Slot.unset).toArray = ls at hl ⊢
  have hl : lv_has ls 3 [(0, .ref w0), (1, .int x)] := hl
  refine lv_aload_n hx hb d_MD_breach_0 rfl (lv_at hl 0 rfl) ?_
  refine lv_iload_n hx hb d_MD_breach_1 rfl (lv_at hl 1 rfl) ?_
  refine lv_iconst (v := nI 0) hx hb d_MD_breach_2 (by decide +kernel) ?_
  refine lv_iconst (v := nI 3) hx hb d_MD_breach_3 (by decide +kernel) ?_
  refine vp_callSi (va_Run.run (va_runS (As := [.int x, .int (nI 0), .int (nI 3)]) (rest := [.ref w0]) ⟨hx, hb, hml, hown, hw⟩ (k_MD_within l D cI cJ x (nI 0) (nI 3)) (va_cwS 3 hw (gS kw_840 kw_841 kw_45 kw_842) rfl rfl rfl (by decide +kernel) ⟨Nat.le_of_ble_eq_true rfl, Nat.le_of_ble_eq_true rfl⟩) (pre_Sp (wc := []) hE hX hP hS [] rfl) rfl rfl hl.1 rfl (lv_room (Nat.le_of_ble_eq_true rfl)) d_MD_breach_4 ⟨Nat.le_of_ble_eq_true rfl, Nat.le_of_ble_eq_true rfl⟩)) (fun r_1 hr_1 => ?_)
  obtain rfl : nI (wiN x (nI 0) (nI 3)) = r_1 := hr_1.symm
  refine jn_if_ne (tgt := 14) (a := (wiN x (nI 0) (nI 3))) hx hb d_MD_breach_7 (by decide) (by have := wiN_le x (nI 0) (nI 3); omega) (fun c_7 => ?_) (fun c_7 => ?_)
  · skip
    refine lv_iconst (v := nI 0) hx hb d_MD_breach_14 (by decide +kernel) ?_
    refine lv_iconst (v := nI 1) hx hb d_MD_breach_15 (by decide +kernel) ?_
    refine cl_i (wr := [(w1, .inl (cI, 100, .inl sg)), (w2, .inl (cI, 244, .inl gl)), (w3, .inl (cI, 1600, .inl fi)), (w4, .inl (cI, 1600, .inl ip)), (w5, .inl (cI, 1600, .inl se))]) (va_runV (As := [.int (nI 0), .int (nI 1)]) (rest := []) ⟨hx, hb, hml, hown, hw⟩ (k_MD_fails l D cI cJ w0 w1 w2 w3 w4 w5 w6 w7 w8 w9 w10 w11 w12 w13 w14 (nI y) te nt wb rc fp ft th 0 1 _ (by omega)) (cwV 2 hw (gV kw_836 kw_838 kw_20 kw_45 kw_839) rfl rfl rfl (by decide +kernel) ⟨Nat.le_of_ble_eq_true rfl, Nat.le_of_ble_eq_true rfl⟩) (pre_Vw (wc := [(w0, .inr (5, [.ref w1, .ref w2, .int (nI y), .int te, .ref w3, .ref w4, .ref w5, .int nt, .int wb, .ref w6, .ref w7, .ref w8, .int rc, .ref w9, .ref w10, .ref w11, .ref w12, .ref w13, .ref w14, .int fp, .int ft, .int th]))]) (q0 := 0) hE hX hA hP hD hS [0] (by decide) rfl rfl rfl rfl) rfl rfl hl.1 rfl (lv_room (Nat.le_of_ble_eq_true rfl)) d_MD_breach_16 ⟨Nat.le_of_ble_eq_true rfl, Nat.le_of_ble_eq_true rfl⟩) hP hD hS hA [0] [1, 2, 3, 4, 5] rfl rfl (by decide) (by decide) (fun r_2 u_r_2 H locs hr_2 hP hD hS => ?_)
    obtain rfl : nI 0 = r_2 := hr_2.symm
    have hP : va_P D vwCl [(w1, .inl (cI, 100, .inl sg)), (w2, .inl (cI, 244, .inl gl)), (w3, .inl (cI, 1600, .inl fi)), (w4, .inl (cI, 1600, .inl ip)), (w5, .inl (cI, 1600, .inl se)), (w0, .inr (5, [.ref w1, .ref w2, .int (nI y), .int te, .ref w3, .ref w4, .ref w5, .int nt, .int wb, .ref w6, .ref w7, .ref w8, .int rc, .ref w9, .ref w10, .ref w11, .ref w12, .ref w13, .ref w14, .int fp, .int ft, .int (nI (flN 0 1))]))] H := hP
    have hD : va_D A [(w1, .inl (cI, 100, .inl sg)), (w2, .inl (cI, 244, .inl gl)), (w3, .inl (cI, 1600, .inl fi)), (w4, .inl (cI, 1600, .inl ip)), (w5, .inl (cI, 1600, .inl se)), (w0, .inr (5, [.ref w1, .ref w2, .int (nI y), .int te, .ref w3, .ref w4, .ref w5, .int nt, .int wb, .ref w6, .ref w7, .ref w8, .int rc, .ref w9, .ref w10, .ref w11, .ref w12, .ref w13, .ref w14, .int fp, .int ft, .int (nI (flN 0 1))]))] := hD
    refine jn_if_eq (tgt := 24) (a := 0) hx hb d_MD_breach_19 (by decide) (by decide) (fun _ => ?_) (fun c9 => absurd c9 (by decide))
    refine lv_aload_n hx hb d_MD_breach_24 rfl (lv_at hl 0 rfl) ?_
    refine cl_i (wr := []) (va_runV (As := []) (rest := []) ⟨hx, hb, hml, hown, hw⟩ (k_MD_firstBreach l D cI cJ w0 w1 w2 w3 w4 w5 w6 w7 w8 w9 w10 w11 w12 w13 w14 y te nt wb rc fp ft (nI (flN 0 1)) sg gl fi ip se _ hy hfi hgl) (cwV 0 hw (gV kw_955 kw_957 kw_33 kw_45 kw_958) rfl rfl rfl (by decide +kernel) ⟨Nat.le_of_ble_eq_true rfl, Nat.le_of_ble_eq_true rfl⟩) (pre_Vw (wc := [(w0, .inr (5, [.ref w1, .ref w2, .int (nI y), .int te, .ref w3, .ref w4, .ref w5, .int nt, .int wb, .ref w6, .ref w7, .ref w8, .int rc, .ref w9, .ref w10, .ref w11, .ref w12, .ref w13, .ref w14, .int fp, .int ft, .int (nI (flN 0 1))])), (w1, .inl (cI, 100, .inl sg)), (w2, .inl (cI, 244, .inl gl)), (w3, .inl (cI, 1600, .inl fi)), (w4, .inl (cI, 1600, .inl ip)), (w5, .inl (cI, 1600, .inl se))]) (q0 := 0) hE hX hA hP hD hS [5, 0, 1, 2, 3, 4] (by decide) rfl rfl rfl rfl) rfl rfl hl.1 rfl (lv_room (Nat.le_of_ble_eq_true rfl)) d_MD_breach_25 ⟨Nat.le_of_ble_eq_true rfl, Nat.le_of_ble_eq_true rfl⟩) hP hD hS hA [5, 0, 1, 2, 3, 4] [] rfl rfl (by decide) (by decide) (fun r_3 u_r_3 H locs hr_3 hP hD hS => ?_)
    have hP : va_P D vwCl [(w0, .inr (5, [.ref w1, .ref w2, .int (nI y), .int te, .ref w3, .ref w4, .ref w5, .int nt, .int wb, .ref w6, .ref w7, .ref w8, .int rc, .ref w9, .ref w10, .ref w11, .ref w12, .ref w13, .ref w14, .int u_r_3.1, .int u_r_3.2, .int (nI (flN 0 1))])), (w1, .inl (cI, 100, .inl sg)), (w2, .inl (cI, 244, .inl gl)), (w3, .inl (cI, 1600, .inl fi)), (w4, .inl (cI, 1600, .inl ip)), (w5, .inl (cI, 1600, .inl se))] H := hP
    have hD : va_D A [(w0, .inr (5, [.ref w1, .ref w2, .int (nI y), .int te, .ref w3, .ref w4, .ref w5, .int nt, .int wb, .ref w6, .ref w7, .ref w8, .int rc, .ref w9, .ref w10, .ref w11, .ref w12, .ref w13, .ref w14, .int u_r_3.1, .int u_r_3.2, .int (nI (flN 0 1))])), (w1, .inl (cI, 100, .inl sg)), (w2, .inl (cI, 244, .inl gl)), (w3, .inl (cI, 1600, .inl fi)), (w4, .inl (cI, 1600, .inl ip)), (w5, .inl (cI, 1600, .inl se))] := hD
    obtain ⟨n9, rfl, hn3, hfb, hok9⟩ := hr_3
    refine lv_istore_n (lv' := [(2, .int (nI n9)), (0, .ref w0), (1, .int x)]) hx hb d_MD_breach_28 rfl hl (by decide) rfl (fun ls hl => ?_)
    refine lv_iload_n hx hb d_MD_breach_29 rfl (lv_at hl 2 rfl) ?_
    refine lv_if_ne (tgt := 35) hx hb d_MD_breach_30 (by decide) (fun c_30 => ?_) (fun c_30 => ?_)
    · skip
      refine lv_iload_n hx hb d_MD_breach_35 rfl (lv_at hl 0 rfl) ?_
      refine jn_if_ne (tgt := 43) (a := n9) hx hb d_MD_breach_36 (by decide) (by omega) (fun c_36 => ?_) (fun c_36 => ?_)
      · skip
        obtain ⟨pp, tt, hpp, htt, hpe⟩ := hok9.resolve_left c_36
        have hpe1 : u_r_3.1 = nI pp := by rw [hpe]
        have hpe2 : u_r_3.2 = nI tt := by rw [hpe]
        rw [hpe1, hpe2] at hP hD
        have hP : va_P D vwCl [(w0, .inr (5, [.ref w1, .ref w2, .int (nI y), .int te, .ref w3, .ref w4, .ref w5, .int nt, .int wb, .ref w6, .ref w7, .ref w8, .int rc, .ref w9, .ref w10, .ref w11, .ref w12, .ref w13, .ref w14, .int (nI pp), .int (nI tt), .int (nI (flN 0 1))])), (w1, .inl (cI, 100, .inl sg)), (w2, .inl (cI, 244, .inl gl)), (w3, .inl (cI, 1600, .inl fi)), (w4, .inl (cI, 1600, .inl ip)), (w5, .inl (cI, 1600, .inl se))] H := hP
        have hD : va_D A [(w0, .inr (5, [.ref w1, .ref w2, .int (nI y), .int te, .ref w3, .ref w4, .ref w5, .int nt, .int wb, .ref w6, .ref w7, .ref w8, .int rc, .ref w9, .ref w10, .ref w11, .ref w12, .ref w13, .ref w14, .int (nI pp), .int (nI tt), .int (nI (flN 0 1))])), (w1, .inl (cI, 100, .inl sg)), (w2, .inl (cI, 244, .inl gl)), (w3, .inl (cI, 1600, .inl fi)), (w4, .inl (cI, 1600, .inl ip)), (w5, .inl (cI, 1600, .inl se))] := hD
        refine lv_iload_n hx hb d_MD_breach_43 rfl (lv_at hl 2 rfl) ?_
        refine lv_iconst (v := nI 1) hx hb d_MD_breach_44 (by decide +kernel) ?_
        refine lv_icmp_ne (tgt := 58) hx hb d_MD_breach_45 (by decide) (fun c_45 => ?_) (fun c_45 => ?_)
        · skip
          refine lv_iload_n hx hb d_MD_breach_58 rfl (lv_at hl 2 rfl) ?_
          refine lv_iconst (v := nI 2) hx hb d_MD_breach_59 (by decide +kernel) ?_
          refine lv_icmp_ne (tgt := 73) hx hb d_MD_breach_60 (by decide) (fun c_60 => ?_) (fun c_60 => ?_)
          · skip
            refine lv_aload_n hx hb d_MD_breach_73 rfl (lv_at hl 1 rfl) ?_
            refine va_get (D := D) (ci := 5) (v := .int (nI tt)) (C := R_MD) (T := T_MD) (N := 22) hx hb hw in_MD hown hE.1 hP 0 rfl rfl 20 (by decide) (hw _ kw_781) (fun _ h9 => h9) rfl d_MD_breach_74 ?_
            have hP9 := hP.sub (ws' := [(w0, .inr (5, [.ref w1, .ref w2, .int (nI y), .int te, .ref w3, .ref w4, .ref w5, .int nt, .int wb, .ref w6, .ref w7, .ref w8, .int rc, .ref w9, .ref w10, .ref w11, .ref w12, .ref w13, .ref w14, .int (nI pp), .int (nI tt), .int (nI (flN 0 1))])), (w1, .inl (cI, 100, .inl sg)), (w2, .inl (cI, 244, .inl gl)), (w3, .inl (cI, 1600, .inl fi)), (w4, .inl (cI, 1600, .inl ip)), (w5, .inl (cI, 1600, .inl se))]) [0, 1, 2, 3, 4, 5] rfl
            have hD9 := hD.sub (ws' := [(w0, .inr (5, [.ref w1, .ref w2, .int (nI y), .int te, .ref w3, .ref w4, .ref w5, .int nt, .int wb, .ref w6, .ref w7, .ref w8, .int rc, .ref w9, .ref w10, .ref w11, .ref w12, .ref w13, .ref w14, .int (nI pp), .int (nI tt), .int (nI (flN 0 1))])), (w1, .inl (cI, 100, .inl sg)), (w2, .inl (cI, 244, .inl gl)), (w3, .inl (cI, 1600, .inl fi)), (w4, .inl (cI, 1600, .inl ip)), (w5, .inl (cI, 1600, .inl se))]) [0, 1, 2, 3, 4, 5] (by decide) rfl
            exact W.iret (v := nI tt) hx hb hr (fun t9 ht hW => ⟨⟨_, (nI pp, nI tt, nI 0), rfl, (Or.inr ⟨c_7, rfl, n9, by rw [← hpe]; exact hfb, by unfold mbW; rw [if_neg c_30, if_neg c_36, if_neg c_45, if_neg c_60]; try rw [nn_nI (show pp < 2 ^ 31 by omega)]⟩), ⟨by rw [ht]; exact hP9, hD9⟩⟩, hS.F ht⟩) hS.2.2 d_MD_breach_77
          · skip
            refine lv_aload_n hx hb d_MD_breach_63 rfl (lv_at hl 1 rfl) ?_
            refine va_get (D := D) (ci := 5) (v := .int (nI pp)) (C := R_MD) (T := T_MD) (N := 22) hx hb hw in_MD hown hE.1 hP 0 rfl rfl 19 (by decide) (hw _ kw_780) (fun _ h9 => h9) rfl d_MD_breach_64 ?_
            refine lv_bipush (v := nI 40) hx hb d_MD_breach_67 (by decide +kernel) ?_
            refine jn_idiv (a := pp) (b := 40) hx hb d_MD_breach_69 (by omega) (by omega) (by omega) ?_
            refine lv_goto (tgt := 77) hx hb d_MD_breach_70 (by decide) ?_
            have hP9 := hP.sub (ws' := [(w0, .inr (5, [.ref w1, .ref w2, .int (nI y), .int te, .ref w3, .ref w4, .ref w5, .int nt, .int wb, .ref w6, .ref w7, .ref w8, .int rc, .ref w9, .ref w10, .ref w11, .ref w12, .ref w13, .ref w14, .int (nI pp), .int (nI tt), .int (nI (flN 0 1))])), (w1, .inl (cI, 100, .inl sg)), (w2, .inl (cI, 244, .inl gl)), (w3, .inl (cI, 1600, .inl fi)), (w4, .inl (cI, 1600, .inl ip)), (w5, .inl (cI, 1600, .inl se))]) [0, 1, 2, 3, 4, 5] rfl
            have hD9 := hD.sub (ws' := [(w0, .inr (5, [.ref w1, .ref w2, .int (nI y), .int te, .ref w3, .ref w4, .ref w5, .int nt, .int wb, .ref w6, .ref w7, .ref w8, .int rc, .ref w9, .ref w10, .ref w11, .ref w12, .ref w13, .ref w14, .int (nI pp), .int (nI tt), .int (nI (flN 0 1))])), (w1, .inl (cI, 100, .inl sg)), (w2, .inl (cI, 244, .inl gl)), (w3, .inl (cI, 1600, .inl fi)), (w4, .inl (cI, 1600, .inl ip)), (w5, .inl (cI, 1600, .inl se))]) [0, 1, 2, 3, 4, 5] (by decide) rfl
            exact W.iret (v := nI (pp / 40)) hx hb hr (fun t9 ht hW => ⟨⟨_, (nI pp, nI tt, nI 0), rfl, (Or.inr ⟨c_7, rfl, n9, by rw [← hpe]; exact hfb, by unfold mbW; rw [if_neg c_30, if_neg c_36, if_neg c_45, if_pos c_60]; try rw [nn_nI (show pp < 2 ^ 31 by omega)]⟩), ⟨by rw [ht]; exact hP9, hD9⟩⟩, hS.F ht⟩) hS.2.2 d_MD_breach_77
        · skip
          refine lv_aload_n hx hb d_MD_breach_48 rfl (lv_at hl 1 rfl) ?_
          refine va_get (D := D) (ci := 5) (v := .int (nI pp)) (C := R_MD) (T := T_MD) (N := 22) hx hb hw in_MD hown hE.1 hP 0 rfl rfl 19 (by decide) (hw _ kw_780) (fun _ h9 => h9) rfl d_MD_breach_49 ?_
          refine lv_bipush (v := nI 40) hx hb d_MD_breach_52 (by decide +kernel) ?_
          refine jn_irem (a := pp) (b := 40) hx hb d_MD_breach_54 (by omega) (by omega) (by omega) ?_
          refine lv_goto (tgt := 77) hx hb d_MD_breach_55 (by decide) ?_
          have hP9 := hP.sub (ws' := [(w0, .inr (5, [.ref w1, .ref w2, .int (nI y), .int te, .ref w3, .ref w4, .ref w5, .int nt, .int wb, .ref w6, .ref w7, .ref w8, .int rc, .ref w9, .ref w10, .ref w11, .ref w12, .ref w13, .ref w14, .int (nI pp), .int (nI tt), .int (nI (flN 0 1))])), (w1, .inl (cI, 100, .inl sg)), (w2, .inl (cI, 244, .inl gl)), (w3, .inl (cI, 1600, .inl fi)), (w4, .inl (cI, 1600, .inl ip)), (w5, .inl (cI, 1600, .inl se))]) [0, 1, 2, 3, 4, 5] rfl
          have hD9 := hD.sub (ws' := [(w0, .inr (5, [.ref w1, .ref w2, .int (nI y), .int te, .ref w3, .ref w4, .ref w5, .int nt, .int wb, .ref w6, .ref w7, .ref w8, .int rc, .ref w9, .ref w10, .ref w11, .ref w12, .ref w13, .ref w14, .int (nI pp), .int (nI tt), .int (nI (flN 0 1))])), (w1, .inl (cI, 100, .inl sg)), (w2, .inl (cI, 244, .inl gl)), (w3, .inl (cI, 1600, .inl fi)), (w4, .inl (cI, 1600, .inl ip)), (w5, .inl (cI, 1600, .inl se))]) [0, 1, 2, 3, 4, 5] (by decide) rfl
          exact W.iret (v := nI (pp % 40)) hx hb hr (fun t9 ht hW => ⟨⟨_, (nI pp, nI tt, nI 0), rfl, (Or.inr ⟨c_7, rfl, n9, by rw [← hpe]; exact hfb, by unfold mbW; rw [if_neg c_30, if_neg c_36, if_pos c_45]; try rw [nn_nI (show pp < 2 ^ 31 by omega)]⟩), ⟨by rw [ht]; exact hP9, hD9⟩⟩, hS.F ht⟩) hS.2.2 d_MD_breach_77
      · skip
        refine lv_iconst (v := (-1)) hx hb d_MD_breach_39 (by decide +kernel) ?_
        refine lv_goto (tgt := 77) hx hb d_MD_breach_40 (by decide) ?_
        have hP9 := hP.sub (ws' := [(w0, .inr (5, [.ref w1, .ref w2, .int (nI y), .int te, .ref w3, .ref w4, .ref w5, .int nt, .int wb, .ref w6, .ref w7, .ref w8, .int rc, .ref w9, .ref w10, .ref w11, .ref w12, .ref w13, .ref w14, .int u_r_3.1, .int u_r_3.2, .int (nI (flN 0 1))])), (w1, .inl (cI, 100, .inl sg)), (w2, .inl (cI, 244, .inl gl)), (w3, .inl (cI, 1600, .inl fi)), (w4, .inl (cI, 1600, .inl ip)), (w5, .inl (cI, 1600, .inl se))]) [0, 1, 2, 3, 4, 5] rfl
        have hD9 := hD.sub (ws' := [(w0, .inr (5, [.ref w1, .ref w2, .int (nI y), .int te, .ref w3, .ref w4, .ref w5, .int nt, .int wb, .ref w6, .ref w7, .ref w8, .int rc, .ref w9, .ref w10, .ref w11, .ref w12, .ref w13, .ref w14, .int u_r_3.1, .int u_r_3.2, .int (nI (flN 0 1))])), (w1, .inl (cI, 100, .inl sg)), (w2, .inl (cI, 244, .inl gl)), (w3, .inl (cI, 1600, .inl fi)), (w4, .inl (cI, 1600, .inl ip)), (w5, .inl (cI, 1600, .inl se))]) [0, 1, 2, 3, 4, 5] (by decide) rfl
        exact W.iret (v := (-1)) hx hb hr (fun t9 ht hW => ⟨⟨_, (u_r_3.1, u_r_3.2, nI 0), rfl, (Or.inr ⟨c_7, rfl, n9, hfb, by unfold mbW; rw [if_neg c_30, if_pos c_36]⟩), ⟨by rw [ht]; exact hP9, hD9⟩⟩, hS.F ht⟩) hS.2.2 d_MD_breach_77
    · skip
      refine lv_iload_n hx hb d_MD_breach_33 rfl (lv_at hl 0 rfl) ?_
      have hP9 := hP.sub (ws' := [(w0, .inr (5, [.ref w1, .ref w2, .int (nI y), .int te, .ref w3, .ref w4, .ref w5, .int nt, .int wb, .ref w6, .ref w7, .ref w8, .int rc, .ref w9, .ref w10, .ref w11, .ref w12, .ref w13, .ref w14, .int u_r_3.1, .int u_r_3.2, .int (nI (flN 0 1))])), (w1, .inl (cI, 100, .inl sg)), (w2, .inl (cI, 244, .inl gl)), (w3, .inl (cI, 1600, .inl fi)), (w4, .inl (cI, 1600, .inl ip)), (w5, .inl (cI, 1600, .inl se))]) [0, 1, 2, 3, 4, 5] rfl
      have hD9 := hD.sub (ws' := [(w0, .inr (5, [.ref w1, .ref w2, .int (nI y), .int te, .ref w3, .ref w4, .ref w5, .int nt, .int wb, .ref w6, .ref w7, .ref w8, .int rc, .ref w9, .ref w10, .ref w11, .ref w12, .ref w13, .ref w14, .int u_r_3.1, .int u_r_3.2, .int (nI (flN 0 1))])), (w1, .inl (cI, 100, .inl sg)), (w2, .inl (cI, 244, .inl gl)), (w3, .inl (cI, 1600, .inl fi)), (w4, .inl (cI, 1600, .inl ip)), (w5, .inl (cI, 1600, .inl se))]) [0, 1, 2, 3, 4, 5] (by decide) rfl
      exact W.iret (v := (nI n9)) hx hb hr (fun t9 ht hW => ⟨⟨_, (u_r_3.1, u_r_3.2, nI 0), rfl, (Or.inr ⟨c_7, rfl, n9, hfb, by unfold mbW; rw [if_pos c_30]⟩), ⟨by rw [ht]; exact hP9, hD9⟩⟩, hS.F ht⟩) hS.2.2 d_MD_breach_34
  · skip
    refine lv_iconst (v := nI 1) hx hb d_MD_breach_10 (by decide +kernel) ?_
    refine lv_goto (tgt := 15) hx hb d_MD_breach_11 (by decide) ?_
    refine lv_iconst (v := nI 1) hx hb d_MD_breach_15 (by decide +kernel) ?_
    refine cl_i (wr := [(w1, .inl (cI, 100, .inl sg)), (w2, .inl (cI, 244, .inl gl)), (w3, .inl (cI, 1600, .inl fi)), (w4, .inl (cI, 1600, .inl ip)), (w5, .inl (cI, 1600, .inl se))]) (va_runV (As := [.int (nI 1), .int (nI 1)]) (rest := []) ⟨hx, hb, hml, hown, hw⟩ (k_MD_fails l D cI cJ w0 w1 w2 w3 w4 w5 w6 w7 w8 w9 w10 w11 w12 w13 w14 (nI y) te nt wb rc fp ft th 1 1 _ (by omega)) (cwV 2 hw (gV kw_836 kw_838 kw_20 kw_45 kw_839) rfl rfl rfl (by decide +kernel) ⟨Nat.le_of_ble_eq_true rfl, Nat.le_of_ble_eq_true rfl⟩) (pre_Vw (wc := [(w0, .inr (5, [.ref w1, .ref w2, .int (nI y), .int te, .ref w3, .ref w4, .ref w5, .int nt, .int wb, .ref w6, .ref w7, .ref w8, .int rc, .ref w9, .ref w10, .ref w11, .ref w12, .ref w13, .ref w14, .int fp, .int ft, .int th]))]) (q0 := 0) hE hX hA hP hD hS [0] (by decide) rfl rfl rfl rfl) rfl rfl hl.1 rfl (lv_room (Nat.le_of_ble_eq_true rfl)) d_MD_breach_16 ⟨Nat.le_of_ble_eq_true rfl, Nat.le_of_ble_eq_true rfl⟩) hP hD hS hA [0] [1, 2, 3, 4, 5] rfl rfl (by decide) (by decide) (fun r_4 u_r_4 H locs hr_4 hP hD hS => ?_)
    obtain rfl : nI 1 = r_4 := hr_4.symm
    have hP : va_P D vwCl [(w1, .inl (cI, 100, .inl sg)), (w2, .inl (cI, 244, .inl gl)), (w3, .inl (cI, 1600, .inl fi)), (w4, .inl (cI, 1600, .inl ip)), (w5, .inl (cI, 1600, .inl se)), (w0, .inr (5, [.ref w1, .ref w2, .int (nI y), .int te, .ref w3, .ref w4, .ref w5, .int nt, .int wb, .ref w6, .ref w7, .ref w8, .int rc, .ref w9, .ref w10, .ref w11, .ref w12, .ref w13, .ref w14, .int fp, .int ft, .int (nI (flN 1 1))]))] H := hP
    have hD : va_D A [(w1, .inl (cI, 100, .inl sg)), (w2, .inl (cI, 244, .inl gl)), (w3, .inl (cI, 1600, .inl fi)), (w4, .inl (cI, 1600, .inl ip)), (w5, .inl (cI, 1600, .inl se)), (w0, .inr (5, [.ref w1, .ref w2, .int (nI y), .int te, .ref w3, .ref w4, .ref w5, .int nt, .int wb, .ref w6, .ref w7, .ref w8, .int rc, .ref w9, .ref w10, .ref w11, .ref w12, .ref w13, .ref w14, .int fp, .int ft, .int (nI (flN 1 1))]))] := hD
    refine jn_if_eq (tgt := 24) (a := 1) hx hb d_MD_breach_19 (by decide) (by decide) (fun c9 => absurd c9 (by decide)) (fun _ => ?_)
    refine lv_iconst (v := nI 0) hx hb d_MD_breach_22 (by decide +kernel) ?_
    have hP9 := hP.sub (ws' := [(w0, .inr (5, [.ref w1, .ref w2, .int (nI y), .int te, .ref w3, .ref w4, .ref w5, .int nt, .int wb, .ref w6, .ref w7, .ref w8, .int rc, .ref w9, .ref w10, .ref w11, .ref w12, .ref w13, .ref w14, .int fp, .int ft, .int (nI (flN 1 1))])), (w1, .inl (cI, 100, .inl sg)), (w2, .inl (cI, 244, .inl gl)), (w3, .inl (cI, 1600, .inl fi)), (w4, .inl (cI, 1600, .inl ip)), (w5, .inl (cI, 1600, .inl se))]) [5, 0, 1, 2, 3, 4] rfl
    have hD9 := hD.sub (ws' := [(w0, .inr (5, [.ref w1, .ref w2, .int (nI y), .int te, .ref w3, .ref w4, .ref w5, .int nt, .int wb, .ref w6, .ref w7, .ref w8, .int rc, .ref w9, .ref w10, .ref w11, .ref w12, .ref w13, .ref w14, .int fp, .int ft, .int (nI (flN 1 1))])), (w1, .inl (cI, 100, .inl sg)), (w2, .inl (cI, 244, .inl gl)), (w3, .inl (cI, 1600, .inl fi)), (w4, .inl (cI, 1600, .inl ip)), (w5, .inl (cI, 1600, .inl se))]) [5, 0, 1, 2, 3, 4] (by decide) rfl
    exact W.iret (v := nI 0) hx hb hr (fun t9 ht hW => ⟨⟨_, (fp, ft, nI 1), rfl, (Or.inl ⟨c_7, rfl, rfl⟩), ⟨by rw [ht]; exact hP9, hD9⟩⟩, hS.F ht⟩) hS.2.2 d_MD_breach_23
