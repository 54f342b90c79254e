theorem d_MD_seam_0 : decode c_MD_seam 0 = .ok (.aload_n 0, 1) := by decide +kernel
theorem d_MD_seam_1 : decode c_MD_seam 1 = .ok (.aload_n 0, 1) := by decide +kernel
theorem d_MD_seam_2 : decode c_MD_seam 2 = .ok (.getfield 98, 3) := by decide +kernel
theorem d_MD_seam_5 : decode c_MD_seam 5 = .ok (.iconst 2, 1) := by decide +kernel
theorem d_MD_seam_6 : decode c_MD_seam 6 = .ok (.if_icmp .ge 7, 3) := by decide +kernel
theorem d_MD_seam_9 : decode c_MD_seam 9 = .ok (.iconst 1, 1) := by decide +kernel
theorem d_MD_seam_10 : decode c_MD_seam 10 = .ok (.goto 4, 3) := by decide +kernel
theorem d_MD_seam_13 : decode c_MD_seam 13 = .ok (.iconst 0, 1) := by decide +kernel
theorem d_MD_seam_14 : decode c_MD_seam 14 = .ok (.iconst 1, 1) := by decide +kernel
theorem d_MD_seam_15 : decode c_MD_seam 15 = .ok (.invokevirtual 105, 3) := by decide +kernel
theorem d_MD_seam_18 : decode c_MD_seam 18 = .ok (.ifCond .ne 25, 3) := by decide +kernel
theorem d_MD_seam_21 : decode c_MD_seam 21 = .ok (.aload_n 0, 1) := by decide +kernel
theorem d_MD_seam_22 : decode c_MD_seam 22 = .ok (.aload_n 0, 1) := by decide +kernel
theorem d_MD_seam_23 : decode c_MD_seam 23 = .ok (.getfield 98, 3) := by decide +kernel
theorem d_MD_seam_26 : decode c_MD_seam 26 = .ok (.bipush 120, 2) := by decide +kernel
theorem d_MD_seam_28 : decode c_MD_seam 28 = .ok (.if_icmp .le 7, 3) := by decide +kernel
theorem d_MD_seam_31 : decode c_MD_seam 31 = .ok (.iconst 1, 1) := by decide +kernel
theorem d_MD_seam_32 : decode c_MD_seam 32 = .ok (.goto 4, 3) := by decide +kernel
theorem d_MD_seam_35 : decode c_MD_seam 35 = .ok (.iconst 0, 1) := by decide +kernel
theorem d_MD_seam_36 : decode c_MD_seam 36 = .ok (.iconst 2, 1) := by decide +kernel
theorem d_MD_seam_37 : decode c_MD_seam 37 = .ok (.invokevirtual 105, 3) := by decide +kernel
theorem d_MD_seam_40 : decode c_MD_seam 40 = .ok (.ifCond .eq 5, 3) := by decide +kernel
theorem d_MD_seam_43 : decode c_MD_seam 43 = .ok (.iconst 0, 1) := by decide +kernel
theorem d_MD_seam_44 : decode c_MD_seam 44 = .ok (.ireturn, 1) := by decide +kernel
theorem d_MD_seam_45 : decode c_MD_seam 45 = .ok (.iconst 0, 1) := by decide +kernel
theorem d_MD_seam_46 : decode c_MD_seam 46 = .ok (.istore_n 1, 1) := by decide +kernel
theorem d_MD_seam_47 : decode c_MD_seam 47 = .ok (.iconst 0, 1) := by decide +kernel
theorem d_MD_seam_48 : decode c_MD_seam 48 = .ok (.istore_n 2, 1) := by decide +kernel
theorem d_MD_seam_49 : decode c_MD_seam 49 = .ok (.iload_n 2, 1) := by decide +kernel
theorem d_MD_seam_50 : decode c_MD_seam 50 = .ok (.sipush 1600, 3) := by decide +kernel
theorem d_MD_seam_53 : decode c_MD_seam 53 = .ok (.if_icmp .ge 38, 3) := by decide +kernel
theorem d_MD_seam_56 : decode c_MD_seam 56 = .ok (.aload_n 0, 1) := by decide +kernel
theorem d_MD_seam_57 : decode c_MD_seam 57 = .ok (.getfield 20, 3) := by decide +kernel
theorem d_MD_seam_60 : decode c_MD_seam 60 = .ok (.iload_n 2, 1) := by decide +kernel
theorem d_MD_seam_61 : decode c_MD_seam 61 = .ok (.iaload, 1) := by decide +kernel
theorem d_MD_seam_62 : decode c_MD_seam 62 = .ok (.ifCond .ne 6, 3) := by decide +kernel
theorem d_MD_seam_65 : decode c_MD_seam 65 = .ok (.goto 20, 3) := by decide +kernel
theorem d_MD_seam_68 : decode c_MD_seam 68 = .ok (.aload_n 0, 1) := by decide +kernel
theorem d_MD_seam_69 : decode c_MD_seam 69 = .ok (.getfield 41, 3) := by decide +kernel
theorem d_MD_seam_72 : decode c_MD_seam 72 = .ok (.iload_n 2, 1) := by decide +kernel
theorem d_MD_seam_73 : decode c_MD_seam 73 = .ok (.iload_n 1, 1) := by decide +kernel
theorem d_MD_seam_74 : decode c_MD_seam 74 = .ok (.iastore, 1) := by decide +kernel
theorem d_MD_seam_75 : decode c_MD_seam 75 = .ok (.aload_n 0, 1) := by decide +kernel
theorem d_MD_seam_76 : decode c_MD_seam 76 = .ok (.getfield 44, 3) := by decide +kernel
theorem d_MD_seam_79 : decode c_MD_seam 79 = .ok (.iload_n 1, 1) := by decide +kernel
theorem d_MD_seam_80 : decode c_MD_seam 80 = .ok (.iload_n 2, 1) := by decide +kernel
theorem d_MD_seam_81 : decode c_MD_seam 81 = .ok (.iastore, 1) := by decide +kernel
theorem d_MD_seam_82 : decode c_MD_seam 82 = .ok (.iinc 1 1, 3) := by decide +kernel
theorem d_MD_seam_85 : decode c_MD_seam 85 = .ok (.iinc 2 1, 3) := by decide +kernel
theorem d_MD_seam_88 : decode c_MD_seam 88 = .ok (.goto (-39), 3) := by decide +kernel
theorem d_MD_seam_91 : decode c_MD_seam 91 = .ok (.sipush 1000, 3) := by decide +kernel
theorem d_MD_seam_94 : decode c_MD_seam 94 = .ok (.istore_n 2, 1) := by decide +kernel
theorem d_MD_seam_95 : decode c_MD_seam 95 = .ok (.iconst 1, 1) := by decide +kernel
theorem d_MD_seam_96 : decode c_MD_seam 96 = .ok (.istore_n 3, 1) := by decide +kernel
theorem d_MD_seam_97 : decode c_MD_seam 97 = .ok (.iload_n 3, 1) := by decide +kernel
theorem d_MD_seam_98 : decode c_MD_seam 98 = .ok (.iload_n 1, 1) := by decide +kernel
theorem d_MD_seam_99 : decode c_MD_seam 99 = .ok (.if_icmp .ge 70, 3) := by decide +kernel
theorem d_MD_seam_102 : decode c_MD_seam 102 = .ok (.iconst 0, 1) := by decide +kernel
theorem d_MD_seam_103 : decode c_MD_seam 103 = .ok (.istore 4, 2) := by decide +kernel
theorem d_MD_seam_105 : decode c_MD_seam 105 = .ok (.iload 4, 2) := by decide +kernel
theorem d_MD_seam_107 : decode c_MD_seam 107 = .ok (.sipush 480, 3) := by decide +kernel
theorem d_MD_seam_110 : decode c_MD_seam 110 = .ok (.if_icmp .ge 17, 3) := by decide +kernel
theorem d_MD_seam_113 : decode c_MD_seam 113 = .ok (.aload_n 0, 1) := by decide +kernel
theorem d_MD_seam_114 : decode c_MD_seam 114 = .ok (.getfield 47, 3) := by decide +kernel
theorem d_MD_seam_117 : decode c_MD_seam 117 = .ok (.iload 4, 2) := by decide +kernel
theorem d_MD_seam_119 : decode c_MD_seam 119 = .ok (.iconst 0, 1) := by decide +kernel
theorem d_MD_seam_120 : decode c_MD_seam 120 = .ok (.iastore, 1) := by decide +kernel
theorem d_MD_seam_121 : decode c_MD_seam 121 = .ok (.iinc 4 1, 3) := by decide +kernel
theorem d_MD_seam_124 : decode c_MD_seam 124 = .ok (.goto (-19), 3) := by decide +kernel
theorem d_MD_seam_127 : decode c_MD_seam 127 = .ok (.iconst 0, 1) := by decide +kernel
theorem d_MD_seam_128 : decode c_MD_seam 128 = .ok (.istore 4, 2) := by decide +kernel
theorem d_MD_seam_130 : decode c_MD_seam 130 = .ok (.iload 4, 2) := by decide +kernel
theorem d_MD_seam_132 : decode c_MD_seam 132 = .ok (.iload_n 2, 1) := by decide +kernel
theorem d_MD_seam_133 : decode c_MD_seam 133 = .ok (.if_icmp .ge 17, 3) := by decide +kernel
theorem d_MD_seam_136 : decode c_MD_seam 136 = .ok (.aload_n 0, 1) := by decide +kernel
theorem d_MD_seam_137 : decode c_MD_seam 137 = .ok (.iload_n 3, 1) := by decide +kernel
theorem d_MD_seam_138 : decode c_MD_seam 138 = .ok (.invokevirtual 155, 3) := by decide +kernel
theorem d_MD_seam_141 : decode c_MD_seam 141 = .ok (.ifCond .eq 9, 3) := by decide +kernel
theorem d_MD_seam_144 : decode c_MD_seam 144 = .ok (.iinc 4 1, 3) := by decide +kernel
theorem d_MD_seam_147 : decode c_MD_seam 147 = .ok (.goto (-17), 3) := by decide +kernel
theorem d_MD_seam_150 : decode c_MD_seam 150 = .ok (.iload 4, 2) := by decide +kernel
theorem d_MD_seam_152 : decode c_MD_seam 152 = .ok (.iload_n 2, 1) := by decide +kernel
theorem d_MD_seam_153 : decode c_MD_seam 153 = .ok (.if_icmp .ge 8, 3) := by decide +kernel
theorem d_MD_seam_156 : decode c_MD_seam 156 = .ok (.iload 4, 2) := by decide +kernel
theorem d_MD_seam_158 : decode c_MD_seam 158 = .ok (.goto 4, 3) := by decide +kernel
theorem d_MD_seam_161 : decode c_MD_seam 161 = .ok (.iload_n 2, 1) := by decide +kernel
theorem d_MD_seam_162 : decode c_MD_seam 162 = .ok (.istore_n 2, 1) := by decide +kernel
theorem d_MD_seam_163 : decode c_MD_seam 163 = .ok (.iinc 3 1, 3) := by decide +kernel
theorem d_MD_seam_166 : decode c_MD_seam 166 = .ok (.goto (-69), 3) := by decide +kernel
theorem d_MD_seam_169 : decode c_MD_seam 169 = .ok (.iload_n 2, 1) := by decide +kernel
theorem d_MD_seam_170 : decode c_MD_seam 170 = .ok (.ireturn, 1) := by decide +kernel
def cnF (fi : Nat → Int32) : Nat → Nat
  | 0 => 0
  | i + 1 => cnF fi i + (if fi i = 0 then 0 else 1)
abbrev NM : Type := (Nat → Int32) × (Nat → Int32) × Nat
def nmL (fi nu pl : Nat → Int32) : Nat → NM
  | 0 => (nu, pl, 0)
  | i + 1 => if fi i = 0 then nmL fi nu pl i else (upd (nmL fi nu pl i).1 i (nI (nmL fi nu pl i).2.2), upd (nmL fi nu pl i).2.1 (nmL fi nu pl i).2.2 (nI i), (nmL fi nu pl i).2.2 + 1)
theorem nmL_n (fi nu pl : Nat → Int32) : ∀ i, (nmL fi nu pl i).2.2 = cnF fi i
  | 0 => rfl
  | i + 1 => by
    rw [nmL, cnF]
    split
    · rw [nmL_n fi nu pl i]; rfl
    · show (nmL fi nu pl i).2.2 + 1 = _
      rw [nmL_n fi nu pl i]
theorem cnF_mono (fi : Nat → Int32) {i : Nat} : ∀ {j : Nat}, i ≤ j → cnF fi i ≤ cnF fi j
  | 0, h => by rw [Nat.le_zero.mp h]; exact Nat.le_refl _
  | j + 1, h => by
    rcases Nat.eq_or_lt_of_le h with e | e
    · rw [e]; exact Nat.le_refl _
    · have := cnF_mono fi (Nat.le_of_lt_succ e)
      rw [cnF]
      omega
theorem cnF_lt {fi : Nat → Int32} {i j : Nat} (h : fi i ≠ 0) (hj : i < j) : cnF fi i < cnF fi j := by
  have := cnF_mono fi (show i + 1 ≤ j from hj)
  rw [cnF, if_neg h] at this
  omega
theorem cnF_le (fi : Nat → Int32) : ∀ i, cnF fi i ≤ i
  | 0 => Nat.le_refl _
  | i + 1 => by
    have := cnF_le fi i
    rw [cnF]
    split <;> omega
def okNm (fi nu pl : Nat → Int32) (i n : Nat) : Prop := (∀ j, j < n → ∃ p, p < i ∧ fi p ≠ 0 ∧ pl j = nI p ∧ nu p = nI j) ∧ ∀ q, q < i → fi q ≠ 0 → ∃ j, j < n ∧ nu q = nI j ∧ pl j = nI q
theorem nmL_ok (fi nu pl : Nat → Int32) : ∀ i, okNm fi (nmL fi nu pl i).1 (nmL fi nu pl i).2.1 i (nmL fi nu pl i).2.2
  | 0 => ⟨fun j h => absurd h (Nat.not_lt_zero j), fun q h => absurd h (Nat.not_lt_zero q)⟩
  | i + 1 => by
    obtain ⟨a, b⟩ := nmL_ok fi nu pl i
    rw [nmL]
    by_cases c : fi i = 0
    · rw [if_pos c]
      refine ⟨fun j hj => ?_, fun q hq hf => ?_⟩
      · obtain ⟨p, h1, h2⟩ := a j hj
        exact ⟨p, by omega, h2⟩
      · exact b q (by rcases Nat.lt_succ_iff_lt_or_eq.mp hq with d | d; exact d; subst d; exact absurd c hf) hf
    · rw [if_neg c]
      generalize nmL fi nu pl i = z at a b
      refine ⟨fun j hj => ?_, fun q hq hf => ?_⟩
      · show ∃ p, p < i + 1 ∧ fi p ≠ 0 ∧ upd z.2.1 z.2.2 (nI i) j = nI p ∧ upd z.1 i (nI z.2.2) p = nI j
        have hj : j < z.2.2 + 1 := hj
        rcases Nat.lt_succ_iff_lt_or_eq.mp hj with d | d
        · obtain ⟨p, h1, h2, h3, h4⟩ := a j d
          exact ⟨p, by omega, h2, by rw [pk_un (by omega)]; exact h3, by rw [pk_un (by omega)]; exact h4⟩
        · subst d
          exact ⟨i, by omega, c, pk_us, pk_us⟩
      · show ∃ j, j < z.2.2 + 1 ∧ upd z.1 i (nI z.2.2) q = nI j ∧ upd z.2.1 z.2.2 (nI i) j = nI q
        rcases Nat.lt_succ_iff_lt_or_eq.mp hq with d | d
        · obtain ⟨j, h1, h2, h3⟩ := b q d hf
          exact ⟨j, by omega, by rw [pk_un (by omega)]; exact h2, by rw [pk_un (by omega)]; exact h3⟩
        · subst d
          exact ⟨z.2.2, by omega, pk_us, pk_us⟩
theorem okNm_pl {fi nu pl : Nat → Int32} {n : Nat} (h : okNm fi nu pl 1600 n) : okPl pl n ∧ (∀ i, i < n → fi (nn (pl i)) ≠ 0 ∧ nu (nn (pl i)) = nI i) := by
  refine ⟨fun i hi => ?_, fun i hi => ?_⟩
  · obtain ⟨p, h1, h2, h3, h4⟩ := h.1 i hi
    rw [h3, nn_nI (by omega)]
    exact ⟨rfl, h1⟩
  · obtain ⟨p, h1, h2, h3, h4⟩ := h.1 i hi
    rw [h3, nn_nI (by omega)]
    exact ⟨h2, h4⟩
theorem okNm_nu {fi nu pl : Nat → Int32} {n : Nat} (hn : n ≤ 1600) (h : okNm fi nu pl 1600 n) : okNu fi nu n := by
  intro q hq hf
  obtain ⟨j, h1, h2, h3⟩ := h.2 q hq hf
  rw [h2, nn_nI (by omega)]
  exact ⟨rfl, h1⟩
theorem bsV_opp {p k : Nat} (hp : p < 1600) (hk : k < 4) (h : ¬ bsV p k < 0) : bsV (nn (bsV p k)) (opp k) = nI p := by
  rcases (show k = 0 ∨ k = 1 ∨ k = 2 ∨ k = 3 by omega) with rfl | rfl | rfl | rfl
  · by_cases e : p < 1560
    · have e1 : bsV p 0 = nI (p + 40) := if_pos e
      rw [e1, nn_nI (by omega)]
      show (if 40 ≤ p + 40 then nI (p + 40 - 40) else -1) = nI p
      rw [if_pos (by omega), Nat.add_sub_cancel]
    · exact absurd (show bsV p 0 < 0 from by show (if p < 1560 then nI (p + 40) else -1) < 0; rw [if_neg e]; exact m1_lt) h
  · by_cases e : p % 40 < 39
    · have e1 : bsV p 1 = nI (p + 1) := if_pos e
      rw [e1, nn_nI (by omega)]
      show (if 1 ≤ (p + 1) % 40 then nI (p + 1 - 1) else -1) = nI p
      rw [if_pos (by omega), Nat.add_sub_cancel]
    · exact absurd (show bsV p 1 < 0 from by show (if p % 40 < 39 then nI (p + 1) else -1) < 0; rw [if_neg e]; exact m1_lt) h
  · by_cases e : 40 ≤ p
    · have e1 : bsV p 2 = nI (p - 40) := if_pos e
      rw [e1, nn_nI (by omega)]
      show (if p - 40 < 1560 then nI (p - 40 + 40) else -1) = nI p
      rw [if_pos (by omega), show p - 40 + 40 = p by omega]
    · exact absurd (show bsV p 2 < 0 from by show (if 40 ≤ p then nI (p - 40) else -1) < 0; rw [if_neg e]; exact m1_lt) h
  · by_cases e : 1 ≤ p % 40
    · have e1 : bsV p 3 = nI (p - 1) := if_pos e
      rw [e1, nn_nI (by omega)]
      show (if (p - 1) % 40 < 39 then nI (p - 1 + 1) else -1) = nI p
      rw [if_pos (by omega), show p - 1 + 1 = p by omega]
    · exact absurd (show bsV p 3 < 0 from by show (if 1 ≤ p % 40 then nI (p - 1) else -1) < 0; rw [if_neg e]; exact m1_lt) h
theorem he_sym {sg gl fi : Nat → Int32} {p k : Nat} (hp : p < 1600) (hk : k < 4) (h : ¬ bsV p k < 0) (hf : fi p ≠ 0) (hq : fi (nn (bsV p k)) ≠ 0) : heV sg gl fi (nn (bsV p k)) (nn (fi (nn (bsV p k)))) (opp k) = heV sg gl fi p (nn (fi p)) k := by
  have ho := bsV_opp hp hk h
  have hop := opp_lt k
  have hoo : (opp k + 2) % 4 = k := by
    rcases (show k = 0 ∨ k = 1 ∨ k = 2 ∨ k = 3 by omega) with rfl | rfl | rfl | rfl <;> rfl
  have e2 : heV sg gl fi p (nn (fi p)) k = if gl (4 * nn (fi p) + k) ≤ 0 then nI 0 else if gl (4 * nn (fi p) + k) = gl (4 * nn (fi (nn (bsV p k))) + opp k) then sg (nn (gl (4 * nn (fi p) + k))) else nI 0 := by
    unfold heV
    rw [if_neg h, if_neg hq, opp_2 hk]
  have e1 : heV sg gl fi (nn (bsV p k)) (nn (fi (nn (bsV p k)))) (opp k) = if gl (4 * nn (fi (nn (bsV p k))) + opp k) ≤ 0 then nI 0 else if gl (4 * nn (fi (nn (bsV p k))) + opp k) = gl (4 * nn (fi p) + k) then sg (nn (gl (4 * nn (fi (nn (bsV p k))) + opp k))) else nI 0 := by
    unfold heV
    rw [ho, if_neg (nI_pos (by omega)), nn_nI (by omega), if_neg hf, hoo]
  rw [e1, e2]
  by_cases c : gl (4 * nn (fi p) + k) = gl (4 * nn (fi (nn (bsV p k))) + opp k)
  · rw [c, if_pos rfl]
  · rw [if_neg c, if_neg (show ¬ gl (4 * nn (fi (nn (bsV p k))) + opp k) = gl (4 * nn (fi p) + k) from fun q => c q.symm)]
    split <;> split <;> rfl
theorem rg_lk {sg gl fi nu pl : Nat → Int32} {n : Nat} (hn : n ≤ 120) (h : okNm fi nu pl 1600 n) {t k : Nat} (ht : t < n) (hk : k < 4) (hw : rgW sg gl fi pl (t * 4 + k) ≠ 0) : ∃ u, u < n ∧ rgL pl nu (t * 4 + k) = nI u ∧ rgL pl nu (u * 4 + opp k) = nI t ∧ rgW sg gl fi pl (u * 4 + opp k) = rgW sg gl fi pl (t * 4 + k) := by
  obtain ⟨h1, h2⟩ := rgW_at hk hw
  obtain ⟨p1, p2⟩ := (okNm_pl h).1 t ht
  obtain ⟨q1, q2⟩ := (okNm_pl h).2 t ht
  have hq := bsV_nn p2 h1
  obtain ⟨u, u1, u2, u3⟩ := h.2 _ hq.2 h2
  have hop := opp_lt k
  have pu : nn (pl u) = nn (bsV (nn (pl t)) k) := by rw [u3, nn_nI (by omega)]
  have hb := bsV_opp p2 hk h1
  refine ⟨u, u1, by rw [rgL_at hk]; exact u2, ?_, ?_⟩
  · rw [rgL_at hop, pu, hb, nn_nI (by omega)]
    exact q2
  · unfold rgW
    rw [rgQ_at hop, rgQ_at hk, rgH_at hop, rgH_at hk, pu, hb, if_neg (nI_pos (by omega)), if_neg h1, nn_nI (by omega), if_neg q1, if_neg h2]
    exact he_sym p2 hk h1 q1 h2
theorem rg_okLk {sg gl fi nu pl : Nat → Int32} {n : Nat} (hn : n ≤ 120) (h : okNm fi nu pl 1600 n) : okLk (rgL pl nu) (rgW sg gl fi pl) n := by
  intro t k ht hk hw
  obtain ⟨u, a, b, c, d⟩ := rg_lk hn h ht hk hw
  exact ⟨u, a, b, c, by rw [d]; exact hw⟩
def okFw (we fw : Nat → Int32) (n : Nat) : Prop := ∀ i, i < n * 4 → we i = 0 → fw i = 0
theorem okFw_Rm {sg gl fi pl fw : Nat → Int32} {n : Nat} (h : okFw (rgW sg gl fi pl) fw n) : okRm (rgW sg gl fi pl) (rgR sg gl fi pl fw) n := by
  intro i hi hr hw
  have hf := h i hi hw
  unfold rgR at hr
  unfold rgW at hw
  by_cases c1 : rgQ pl i < 0
  · rw [if_pos c1] at hr; exact hr rfl
  · rw [if_neg c1] at hr hw
    by_cases c2 : fi (nn (rgQ pl i)) = 0
    · rw [if_pos c2] at hr; exact hr rfl
    · rw [if_neg c2] at hr hw
      rw [hw, hf, if_neg (by decide)] at hr
      exact hr rfl
theorem rpF_ok {lk we rm ar : Nat → Int32} {n : Nat} {rk : Nat → Nat} (hL : okLk lk we n) (hR : okRm we rm n) (hn : n ≤ 120) (hW : okWy lk rm ar n 0 rk) : ∀ (f t : Nat) (fw : Nat → Int32), t < n → ar t ≠ -1 → okFw we fw n → okFw we (rpF lk ar f t fw) n
  | 0, _, _, _, _, h => h
  | f + 1, t, fw, ht, ha, h => by
    rw [rpF]
    by_cases c : t = 0
    · rw [if_pos c]; exact h
    · rw [if_neg c]
      obtain ⟨k, v, g1, g2, g3, g4, g5, g6, g7, g8⟩ := way_we hL hR hn hW ht ha c
      have ek : nn (ar t) = k := by rw [g3, nn_nI (by omega)]
      have ev : nn (lk (t * 4 + opp k)) = v := by rw [g4, nn_nI (by omega)]
      rw [ek, ev]
      refine rpF_ok hL hR hn hW f v _ g2 g7 (fun i hi hw => ?_)
      unfold rpS
      rw [ek, ev, pk_un (fun z => g5 (by rw [z, Nat.mul_comm] at hw; exact hw)), pk_un (fun z => g6 (by rw [z, Nat.mul_comm] at hw; exact hw))]
      exact h i hi hw
def rfF (lk : Nat → Int32) (RF : (Nat → Int32) → Nat → Int32) (n tq : Nat) : Nat → Nat → T3 → Nat × T3
  | 0, k, z => (k, z)
  | f + 1, k, z => if (itX (eoB lk (RF z.2.2) 0) n 0 (e0R z.1 z.2.1 n)).2.1 tq = -1 then (k, ((itX (eoB lk (RF z.2.2) 0) n 0 (e0R z.1 z.2.1 n)).2.1, (itX (eoB lk (RF z.2.2) 0) n 0 (e0R z.1 z.2.1 n)).2.2.1, z.2.2))
    else rfF lk RF n tq f (k + 1) ((itX (eoB lk (RF z.2.2) 0) n 0 (e0R z.1 z.2.1 n)).2.1, (itX (eoB lk (RF z.2.2) 0) n 0 (e0R z.1 z.2.1 n)).2.2.1, rpF lk (itX (eoB lk (RF z.2.2) 0) n 0 (e0R z.1 z.2.1 n)).2.1 n tq z.2.2)
def reF (lk : Nat → Int32) (RF : (Nat → Int32) → Nat → Int32) (n : Nat) : Nat → Nat → Nat → T3 → Nat × T3
  | 0, _, b, z => (b, z)
  | c + 1, tq, b, z => reF lk RF n c (tq + 1) (if (rfF lk RF n tq b 0 (z.1, z.2.1, flI z.2.2 (nI 0) 480)).1 < b then (rfF lk RF n tq b 0 (z.1, z.2.1, flI z.2.2 (nI 0) 480)).1 else b) (rfF lk RF n tq b 0 (z.1, z.2.1, flI z.2.2 (nI 0) 480)).2
theorem rfF_end {lk : Nat → Int32} {RF : (Nat → Int32) → Nat → Int32} {n tq f k : Nat} {z : T3} {e : ES} (hf : 0 < f) (h : itX (eoB lk (RF z.2.2) 0) n 0 (e0R z.1 z.2.1 n) = (none, e)) (he : e.1 tq = -1) : rfF lk RF n tq f k z = (k, (e.1, e.2.1, z.2.2)) := by
  obtain ⟨g, rfl⟩ : ∃ g, f = g + 1 := ⟨f - 1, by omega⟩
  rw [rfF, h]
  dsimp only
  rw [if_pos he]
theorem rfF_go {lk : Nat → Int32} {RF : (Nat → Int32) → Nat → Int32} {n tq f k : Nat} {z : T3} {e : ES} (hf : 0 < f) (h : itX (eoB lk (RF z.2.2) 0) n 0 (e0R z.1 z.2.1 n) = (none, e)) (he : e.1 tq ≠ -1) : rfF lk RF n tq f k z = rfF lk RF n tq (f - 1) (k + 1) (e.1, e.2.1, rpF lk e.1 n tq z.2.2) := by
  obtain ⟨g, rfl⟩ : ∃ g, f = g + 1 := ⟨f - 1, by omega⟩
  rw [rfF, h, Nat.add_sub_cancel]
  dsimp only
  rw [if_neg he]
set_option maxHeartbeats 4000000 in
set_option maxRecDepth 100000 in
theorem lp_k_MD_seam_49 {p : Program} {l : Launch} {e : Env} {s : State} {m : MethodId} {args : Array Value} {below : List Frame} {meth : Method} {c : Code} {D : va_G} {cI cJ : ClassId} {Q : State → Prop} {A : Nat → Prop} (w0 : Nat) (w1 : Nat) (w2 : Nat) (w3 : Nat) (w4 : Nat) (w5 : Nat) (w6 : Nat) (w7 : Nat) (w8 : Nat) (w9 : Nat) (w10 : Nat) (w11 : Nat) (w12 : Nat) (w13 : Nat) (w14 : Nat) (yt : Int32) (te : Int32) (n : Nat) (wb : Int32) (rc : Int32) (fp : Int32) (ft : Int32) (th : Int32) (sg : Nat → Int32) (gl : Nat → Int32) (fi : Nat → Int32) (nu : Nat → Int32) (pl : Nat → Int32) (fw : Nat → Int32) (fr : Nat → Int32) (qu : Nat → Int32) (hcn : n = cnF fi 1600) (hfi : okFi fi) (hgl : okGl gl) (h12 : n ≤ 120) (hx : p.tables.exec = Jvm.exec) (hb : c.code = c_MD_seam) (hml : c.maxLocals = 5) (hown : s.vm.findClass R_MD = some m.cls) (hw : ∀ w ∈ gw, w.before args s = true) (hE : En D cI cJ s) (hX : Sx A s s.heap) (hA : ∀ q : Nat, s.heap.size ≤ q → A q)
    (kx0 : ∀ (z9 : NM), (z9 = nmL fi nu pl 1600) → ∀ (H : Heap) (locs : List Loc) (ls : Array Slot), va_P D vwCl [(w0, .inr (5, [.ref w1, .ref w2, .int yt, .int te, .ref w3, .ref w4, .ref w5, .int (nI n), .int wb, .ref w6, .ref w7, .ref w8, .int rc, .ref w9, .ref w10, .ref w11, .ref w12, .ref w13, .ref w14, .int fp, .int ft, .int (nI (flN 0 2))])), (w1, .inl (cI, 100, .inl sg)), (w2, .inl (cI, 244, .inl gl)), (w3, .inl (cI, 1600, .inl fi)), (w10, .inl (cI, 1600, .inl z9.1)), (w11, .inl (cI, 120, .inl z9.2.1)), (w12, .inl (cI, 480, .inl fw)), (w13, .inl (cI, 120, .inl fr)), (w14, .inl (cI, 120, .inl qu))] H → va_D A [(w0, .inr (5, [.ref w1, .ref w2, .int yt, .int te, .ref w3, .ref w4, .ref w5, .int (nI n), .int wb, .ref w6, .ref w7, .ref w8, .int rc, .ref w9, .ref w10, .ref w11, .ref w12, .ref w13, .ref w14, .int fp, .int ft, .int (nI (flN 0 2))])), (w1, .inl (cI, 100, .inl sg)), (w2, .inl (cI, 244, .inl gl)), (w3, .inl (cI, 1600, .inl fi)), (w10, .inl (cI, 1600, .inl z9.1)), (w11, .inl (cI, 120, .inl z9.2.1)), (w12, .inl (cI, 480, .inl fw)), (w13, .inl (cI, 120, .inl fr)), (w14, .inl (cI, 120, .inl qu))] → va_S A s.heap H locs → lv_has ls 5 [(0, .ref w0), (1, .int (nI z9.2.2))] → W p l e ({ frames := 6, cells := 0, slots := 0, locals := 140 } : Room) s m args below meth c H locs 0 0 Q (F0 m 91 ls [])) :
    ∀ (fu : Nat) (pp : Nat) (z9 : NM), 1600 - pp < fu → (pp ≤ 1600) → (z9 = nmL fi nu pl pp) → ∀ (H : Heap) (locs : List Loc) (ls : Array Slot), va_P D vwCl [(w0, .inr (5, [.ref w1, .ref w2, .int yt, .int te, .ref w3, .ref w4, .ref w5, .int (nI n), .int wb, .ref w6, .ref w7, .ref w8, .int rc, .ref w9, .ref w10, .ref w11, .ref w12, .ref w13, .ref w14, .int fp, .int ft, .int (nI (flN 0 2))])), (w1, .inl (cI, 100, .inl sg)), (w2, .inl (cI, 244, .inl gl)), (w3, .inl (cI, 1600, .inl fi)), (w10, .inl (cI, 1600, .inl z9.1)), (w11, .inl (cI, 120, .inl z9.2.1)), (w12, .inl (cI, 480, .inl fw)), (w13, .inl (cI, 120, .inl fr)), (w14, .inl (cI, 120, .inl qu))] H → va_D A [(w0, .inr (5, [.ref w1, .ref w2, .int yt, .int te, .ref w3, .ref w4, .ref w5, .int (nI n), .int wb, .ref w6, .ref w7, .ref w8, .int rc, .ref w9, .ref w10, .ref w11, .ref w12, .ref w13, .ref w14, .int fp, .int ft, .int (nI (flN 0 2))])), (w1, .inl (cI, 100, .inl sg)), (w2, .inl (cI, 244, .inl gl)), (w3, .inl (cI, 1600, .inl fi)), (w10, .inl (cI, 1600, .inl z9.1)), (w11, .inl (cI, 120, .inl z9.2.1)), (w12, .inl (cI, 480, .inl fw)), (w13, .inl (cI, 120, .inl fr)), (w14, .inl (cI, 120, .inl qu))] → va_S A s.heap H locs → lv_has ls 5 [(0, .ref w0), (1, .int (nI z9.2.2)), (2, .int (nI pp))] → W p l e ({ frames := 6, cells := 0, slots := 0, locals := 140 } : Room) s m args below meth c H locs 0 0 Q (F0 m 49 ls []) := by
  intro fu
  induction fu with
  | zero =>
    intro pp z9 h0
    exact absurd h0 (Nat.not_lt_zero _)
  | succ fu ih =>
    intro pp z9 hmu hpp hz9 H locs ls hP hD hS hl
    have hzn : z9.2.2 = cnF fi pp := by rw [hz9]; exact nmL_n fi nu pl pp
    have hzl := cnF_le fi pp
    refine lv_iload_n hx hb d_MD_seam_49 rfl (lv_at hl 2 rfl) ?_
    refine lv_sipush (v := nI 1600) hx hb d_MD_seam_50 (by decide +kernel) ?_
    refine jn_icmp_ge (tgt := 91) (a := pp) (b := 1600) hx hb d_MD_seam_53 (by decide) (by omega) (by omega) (fun c_53 => ?_) (fun c_53 => ?_)
    · skip
      exact kx0 z9 (by rw [hz9, show pp = 1600 by omega]) _ _ _ (hP.sub [0, 1, 2, 3, 4, 5, 6, 7, 8] rfl) (hD.sub [0, 1, 2, 3, 4, 5, 6, 7, 8] (by decide) rfl) hS (lv_sub hl [0, 1] rfl)
    · skip
      refine lv_aload_n hx hb d_MD_seam_56 rfl (lv_at hl 0 rfl) ?_
      refine va_get (D := D) (ci := 5) (v := .ref w3) (C := R_MD) (T := T_MD) (N := 22) hx hb hw in_MD hown hE.1 hP 0 rfl rfl 4 (by decide) (hw _ kw_765) (fun _ h9 => h9) rfl d_MD_seam_57 ?_
      refine lv_iload_n hx hb d_MD_seam_60 rfl (lv_at hl 2 rfl) ?_
      refine jn_iald (k := pp) hx hb hE.1 hP 3 0 rfl rfl (by omega) (by omega) d_MD_seam_61 ?_
      refine lv_if_ne (tgt := 68) hx hb d_MD_seam_62 (by decide) (fun c_62 => ?_) (fun c_62 => ?_)
      · skip
        have hlt := cnF_lt c_62 (show pp < 1600 by omega)
        refine lv_aload_n hx hb d_MD_seam_68 rfl (lv_at hl 0 rfl) ?_
        refine va_get (D := D) (ci := 5) (v := .ref w10) (C := R_MD) (T := T_MD) (N := 22) hx hb hw in_MD hown hE.1 hP 0 rfl rfl 14 (by decide) (hw _ kw_775) (fun _ h9 => h9) rfl d_MD_seam_69 ?_
        refine lv_iload_n hx hb d_MD_seam_72 rfl (lv_at hl 2 rfl) ?_
        refine lv_iload_n hx hb d_MD_seam_73 rfl (lv_at hl 1 rfl) ?_
        refine jn_iast (k := pp) hx hb hE.1 hP hD hS 4 0 rfl rfl (by omega) (by omega) d_MD_seam_74 (fun H locs hP hD hS => ?_)
        have hP : va_P D vwCl [(w0, .inr (5, [.ref w1, .ref w2, .int yt, .int te, .ref w3, .ref w4, .ref w5, .int (nI n), .int wb, .ref w6, .ref w7, .ref w8, .int rc, .ref w9, .ref w10, .ref w11, .ref w12, .ref w13, .ref w14, .int fp, .int ft, .int (nI (flN 0 2))])), (w1, .inl (cI, 100, .inl sg)), (w2, .inl (cI, 244, .inl gl)), (w3, .inl (cI, 1600, .inl fi)), (w10, .inl (cI, 1600, .inl (upd z9.1 pp (nI z9.2.2)))), (w11, .inl (cI, 120, .inl z9.2.1)), (w12, .inl (cI, 480, .inl fw)), (w13, .inl (cI, 120, .inl fr)), (w14, .inl (cI, 120, .inl qu))] H := hP
        have hD : va_D A [(w0, .inr (5, [.ref w1, .ref w2, .int yt, .int te, .ref w3, .ref w4, .ref w5, .int (nI n), .int wb, .ref w6, .ref w7, .ref w8, .int rc, .ref w9, .ref w10, .ref w11, .ref w12, .ref w13, .ref w14, .int fp, .int ft, .int (nI (flN 0 2))])), (w1, .inl (cI, 100, .inl sg)), (w2, .inl (cI, 244, .inl gl)), (w3, .inl (cI, 1600, .inl fi)), (w10, .inl (cI, 1600, .inl (upd z9.1 pp (nI z9.2.2)))), (w11, .inl (cI, 120, .inl z9.2.1)), (w12, .inl (cI, 480, .inl fw)), (w13, .inl (cI, 120, .inl fr)), (w14, .inl (cI, 120, .inl qu))] := hD
        refine lv_aload_n hx hb d_MD_seam_75 rfl (lv_at hl 0 rfl) ?_
        refine va_get (D := D) (ci := 5) (v := .ref w11) (C := R_MD) (T := T_MD) (N := 22) hx hb hw in_MD hown hE.1 hP 0 rfl rfl 15 (by decide) (hw _ kw_776) (fun _ h9 => h9) rfl d_MD_seam_76 ?_
        refine lv_iload_n hx hb d_MD_seam_79 rfl (lv_at hl 1 rfl) ?_
        refine lv_iload_n hx hb d_MD_seam_80 rfl (lv_at hl 2 rfl) ?_
        refine jn_iast (k := z9.2.2) hx hb hE.1 hP hD hS 5 0 rfl rfl (by omega) (by omega) d_MD_seam_81 (fun H locs hP hD hS => ?_)
        have hP : va_P D vwCl [(w0, .inr (5, [.ref w1, .ref w2, .int yt, .int te, .ref w3, .ref w4, .ref w5, .int (nI n), .int wb, .ref w6, .ref w7, .ref w8, .int rc, .ref w9, .ref w10, .ref w11, .ref w12, .ref w13, .ref w14, .int fp, .int ft, .int (nI (flN 0 2))])), (w1, .inl (cI, 100, .inl sg)), (w2, .inl (cI, 244, .inl gl)), (w3, .inl (cI, 1600, .inl fi)), (w10, .inl (cI, 1600, .inl (upd z9.1 pp (nI z9.2.2)))), (w11, .inl (cI, 120, .inl (upd z9.2.1 z9.2.2 (nI pp)))), (w12, .inl (cI, 480, .inl fw)), (w13, .inl (cI, 120, .inl fr)), (w14, .inl (cI, 120, .inl qu))] H := hP
        have hD : va_D A [(w0, .inr (5, [.ref w1, .ref w2, .int yt, .int te, .ref w3, .ref w4, .ref w5, .int (nI n), .int wb, .ref w6, .ref w7, .ref w8, .int rc, .ref w9, .ref w10, .ref w11, .ref w12, .ref w13, .ref w14, .int fp, .int ft, .int (nI (flN 0 2))])), (w1, .inl (cI, 100, .inl sg)), (w2, .inl (cI, 244, .inl gl)), (w3, .inl (cI, 1600, .inl fi)), (w10, .inl (cI, 1600, .inl (upd z9.1 pp (nI z9.2.2)))), (w11, .inl (cI, 120, .inl (upd z9.2.1 z9.2.2 (nI pp)))), (w12, .inl (cI, 480, .inl fw)), (w13, .inl (cI, 120, .inl fr)), (w14, .inl (cI, 120, .inl qu))] := hD
        refine lv_iinc (v := nI (z9.2.2 + 1)) (lv' := [(1, .int (nI (z9.2.2 + 1))), (0, .ref w0), (2, .int (nI pp))]) hx hb d_MD_seam_82 hl (k := 1) rfl (jn_inc z9.2.2 1) (by decide) rfl (fun ls hl => ?_)
        refine lv_iinc (v := nI (pp + 1)) (lv' := [(2, .int (nI (pp + 1))), (1, .int (nI (z9.2.2 + 1))), (0, .ref w0)]) hx hb d_MD_seam_85 hl (k := 2) rfl (jn_inc pp 1) (by decide) rfl (fun ls hl => ?_)
        refine lv_goto (tgt := 49) hx hb d_MD_seam_88 (by decide) ?_
        exact ih (pp + 1) (upd z9.1 pp (nI z9.2.2), upd z9.2.1 z9.2.2 (nI pp), z9.2.2 + 1) (by omega) (by omega) (by rw [nmL, if_neg c_62, ← hz9]) _ _ _ (hP.sub [0, 1, 2, 3, 4, 5, 6, 7, 8] rfl) (hD.sub [0, 1, 2, 3, 4, 5, 6, 7, 8] (by decide) rfl) hS (lv_sub hl [2, 1, 0] rfl)
      · skip
        refine lv_goto (tgt := 85) hx hb d_MD_seam_65 (by decide) ?_
        refine lv_iinc (v := nI (pp + 1)) (lv' := [(2, .int (nI (pp + 1))), (0, .ref w0), (1, .int (nI z9.2.2))]) hx hb d_MD_seam_85 hl (k := 2) rfl (jn_inc pp 1) (by decide) rfl (fun ls hl => ?_)
        refine lv_goto (tgt := 49) hx hb d_MD_seam_88 (by decide) ?_
        exact ih (pp + 1) z9 (by omega) (by omega) (by rw [nmL, if_pos c_62]; exact hz9) _ _ _ (hP.sub [0, 1, 2, 3, 4, 5, 6, 7, 8] rfl) (hD.sub [0, 1, 2, 3, 4, 5, 6, 7, 8] (by decide) rfl) hS (lv_sub hl [1, 2, 0] rfl)
set_option maxHeartbeats 4000000 in
set_option maxRecDepth 100000 in
theorem lp_k_MD_seam_105 {p : Program} {l : Launch} {e : Env} {s : State} {m : MethodId} {args : Array Value} {below : List Frame} {meth : Method} {c : Code} {D : va_G} {cI cJ : ClassId} {Q : State → Prop} {A : Nat → Prop} (w0 : Nat) (w1 : Nat) (w2 : Nat) (w3 : Nat) (w4 : Nat) (w5 : Nat) (w6 : Nat) (w7 : Nat) (w8 : Nat) (w9 : Nat) (w10 : Nat) (w11 : Nat) (w12 : Nat) (w13 : Nat) (w14 : Nat) (yt : Int32) (te : Int32) (n : Nat) (wb : Int32) (rc : Int32) (fp : Int32) (ft : Int32) (th : Int32) (sg : Nat → Int32) (gl : Nat → Int32) (fi : Nat → Int32) (nu : Nat → Int32) (pl : Nat → Int32) (fw : Nat → Int32) (fr : Nat → Int32) (qu : Nat → Int32) (hcn : n = cnF fi 1600) (hfi : okFi fi) (hgl : okGl gl) (g9 : NM) (hg9 : g9 = nmL fi nu pl 1600) (hgn : g9.2.2 = n) (h12 : n ≤ 120) (tq : Nat) (b : Nat) (z8 : T3) (hx : p.tables.exec = Jvm.exec) (hb : c.code = c_MD_seam) (hml : c.maxLocals = 5) (hown : s.vm.findClass R_MD = some m.cls) (hw : ∀ w ∈ gw, w.before args s = true) (hE : En D cI cJ s) (hX : Sx A s s.heap) (hA : ∀ q : Nat, s.heap.size ≤ q → A q)
    (kx0 : ∀ (f9 : Nat → Int32), (f9 = flI z8.2.2 (nI 0) 480) → ∀ (H : Heap) (locs : List Loc) (ls : Array Slot), va_P D vwCl [(w0, .inr (5, [.ref w1, .ref w2, .int yt, .int te, .ref w3, .ref w4, .ref w5, .int (nI n), .int wb, .ref w6, .ref w7, .ref w8, .int rc, .ref w9, .ref w10, .ref w11, .ref w12, .ref w13, .ref w14, .int fp, .int ft, .int (nI (flN 0 2))])), (w1, .inl (cI, 100, .inl sg)), (w2, .inl (cI, 244, .inl gl)), (w3, .inl (cI, 1600, .inl fi)), (w10, .inl (cI, 1600, .inl g9.1)), (w11, .inl (cI, 120, .inl g9.2.1)), (w12, .inl (cI, 480, .inl f9)), (w13, .inl (cI, 120, .inl z8.1)), (w14, .inl (cI, 120, .inl z8.2.1))] H → va_D A [(w0, .inr (5, [.ref w1, .ref w2, .int yt, .int te, .ref w3, .ref w4, .ref w5, .int (nI n), .int wb, .ref w6, .ref w7, .ref w8, .int rc, .ref w9, .ref w10, .ref w11, .ref w12, .ref w13, .ref w14, .int fp, .int ft, .int (nI (flN 0 2))])), (w1, .inl (cI, 100, .inl sg)), (w2, .inl (cI, 244, .inl gl)), (w3, .inl (cI, 1600, .inl fi)), (w10, .inl (cI, 1600, .inl g9.1)), (w11, .inl (cI, 120, .inl g9.2.1)), (w12, .inl (cI, 480, .inl f9)), (w13, .inl (cI, 120, .inl z8.1)), (w14, .inl (cI, 120, .inl z8.2.1))] → va_S A s.heap H locs → lv_has ls 5 [(0, .ref w0), (1, .int (nI g9.2.2)), (2, .int (nI b)), (3, .int (nI tq))] → W p l e ({ frames := 6, cells := 0, slots := 0, locals := 140 } : Room) s m args below meth c H locs 0 0 Q (F0 m 127 ls [])) :
    ∀ (fu : Nat) (k : Nat) (f9 : Nat → Int32), 480 - k < fu → (k ≤ 480) → (f9 = flI z8.2.2 (nI 0) k) → ∀ (H : Heap) (locs : List Loc) (ls : Array Slot), va_P D vwCl [(w0, .inr (5, [.ref w1, .ref w2, .int yt, .int te, .ref w3, .ref w4, .ref w5, .int (nI n), .int wb, .ref w6, .ref w7, .ref w8, .int rc, .ref w9, .ref w10, .ref w11, .ref w12, .ref w13, .ref w14, .int fp, .int ft, .int (nI (flN 0 2))])), (w1, .inl (cI, 100, .inl sg)), (w2, .inl (cI, 244, .inl gl)), (w3, .inl (cI, 1600, .inl fi)), (w10, .inl (cI, 1600, .inl g9.1)), (w11, .inl (cI, 120, .inl g9.2.1)), (w12, .inl (cI, 480, .inl f9)), (w13, .inl (cI, 120, .inl z8.1)), (w14, .inl (cI, 120, .inl z8.2.1))] H → va_D A [(w0, .inr (5, [.ref w1, .ref w2, .int yt, .int te, .ref w3, .ref w4, .ref w5, .int (nI n), .int wb, .ref w6, .ref w7, .ref w8, .int rc, .ref w9, .ref w10, .ref w11, .ref w12, .ref w13, .ref w14, .int fp, .int ft, .int (nI (flN 0 2))])), (w1, .inl (cI, 100, .inl sg)), (w2, .inl (cI, 244, .inl gl)), (w3, .inl (cI, 1600, .inl fi)), (w10, .inl (cI, 1600, .inl g9.1)), (w11, .inl (cI, 120, .inl g9.2.1)), (w12, .inl (cI, 480, .inl f9)), (w13, .inl (cI, 120, .inl z8.1)), (w14, .inl (cI, 120, .inl z8.2.1))] → va_S A s.heap H locs → lv_has ls 5 [(0, .ref w0), (1, .int (nI g9.2.2)), (2, .int (nI b)), (3, .int (nI tq)), (4, .int (nI k))] → W p l e ({ frames := 6, cells := 0, slots := 0, locals := 140 } : Room) s m args below meth c H locs 0 0 Q (F0 m 105 ls []) := by
  intro fu
  induction fu with
  | zero =>
    intro k f9 h0
    exact absurd h0 (Nat.not_lt_zero _)
  | succ fu ih =>
    intro k f9 hmu hk hf9 H locs ls hP hD hS hl
    refine lv_iload hx hb d_MD_seam_105 (lv_at hl 4 rfl) ?_
    refine lv_sipush (v := nI 480) hx hb d_MD_seam_107 (by decide +kernel) ?_
    refine jn_icmp_ge (tgt := 127) (a := k) (b := 480) hx hb d_MD_seam_110 (by decide) (by omega) (by omega) (fun c_110 => ?_) (fun c_110 => ?_)
    · skip
      exact kx0 f9 (by rw [hf9, show k = 480 by omega]) _ _ _ (hP.sub [0, 1, 2, 3, 4, 5, 6, 7, 8] rfl) (hD.sub [0, 1, 2, 3, 4, 5, 6, 7, 8] (by decide) rfl) hS (lv_sub hl [0, 1, 2, 3] rfl)
    · skip
      refine lv_aload_n hx hb d_MD_seam_113 rfl (lv_at hl 0 rfl) ?_
      refine va_get (D := D) (ci := 5) (v := .ref w12) (C := R_MD) (T := T_MD) (N := 22) hx hb hw in_MD hown hE.1 hP 0 rfl rfl 16 (by decide) (hw _ kw_777) (fun _ h9 => h9) rfl d_MD_seam_114 ?_
      refine lv_iload hx hb d_MD_seam_117 (lv_at hl 4 rfl) ?_
      refine lv_iconst (v := nI 0) hx hb d_MD_seam_119 (by decide +kernel) ?_
      refine jn_iast (k := k) hx hb hE.1 hP hD hS 6 0 rfl rfl (by omega) (by omega) d_MD_seam_120 (fun H locs hP hD hS => ?_)
      have hP : va_P D vwCl [(w0, .inr (5, [.ref w1, .ref w2, .int yt, .int te, .ref w3, .ref w4, .ref w5, .int (nI n), .int wb, .ref w6, .ref w7, .ref w8, .int rc, .ref w9, .ref w10, .ref w11, .ref w12, .ref w13, .ref w14, .int fp, .int ft, .int (nI (flN 0 2))])), (w1, .inl (cI, 100, .inl sg)), (w2, .inl (cI, 244, .inl gl)), (w3, .inl (cI, 1600, .inl fi)), (w10, .inl (cI, 1600, .inl g9.1)), (w11, .inl (cI, 120, .inl g9.2.1)), (w12, .inl (cI, 480, .inl (upd f9 k (nI 0)))), (w13, .inl (cI, 120, .inl z8.1)), (w14, .inl (cI, 120, .inl z8.2.1))] H := hP
      have hD : va_D A [(w0, .inr (5, [.ref w1, .ref w2, .int yt, .int te, .ref w3, .ref w4, .ref w5, .int (nI n), .int wb, .ref w6, .ref w7, .ref w8, .int rc, .ref w9, .ref w10, .ref w11, .ref w12, .ref w13, .ref w14, .int fp, .int ft, .int (nI (flN 0 2))])), (w1, .inl (cI, 100, .inl sg)), (w2, .inl (cI, 244, .inl gl)), (w3, .inl (cI, 1600, .inl fi)), (w10, .inl (cI, 1600, .inl g9.1)), (w11, .inl (cI, 120, .inl g9.2.1)), (w12, .inl (cI, 480, .inl (upd f9 k (nI 0)))), (w13, .inl (cI, 120, .inl z8.1)), (w14, .inl (cI, 120, .inl z8.2.1))] := hD
      refine lv_iinc (v := nI (k + 1)) (lv' := [(4, .int (nI (k + 1))), (0, .ref w0), (1, .int (nI g9.2.2)), (2, .int (nI b)), (3, .int (nI tq))]) hx hb d_MD_seam_121 hl (k := 4) rfl (jn_inc k 1) (by decide) rfl (fun ls hl => ?_)
      refine lv_goto (tgt := 105) hx hb d_MD_seam_124 (by decide) ?_
      exact ih (k + 1) (upd f9 k (nI 0)) (by omega) (by omega) (by rw [hf9]; exact flI_succ _ _ _) _ _ _ (hP.sub [0, 1, 2, 3, 4, 5, 6, 7, 8] rfl) (hD.sub [0, 1, 2, 3, 4, 5, 6, 7, 8] (by decide) rfl) hS (lv_sub hl [1, 2, 3, 4, 0] rfl)
set_option maxHeartbeats 4000000 in
set_option maxRecDepth 100000 in
theorem lp_k_MD_seam_130 {p : Program} {l : Launch} {e : Env} {s : State} {m : MethodId} {args : Array Value} {below : List Frame} {meth : Method} {c : Code} {D : va_G} {cI cJ : ClassId} {Q : State → Prop} {A : Nat → Prop} (w0 : Nat) (w1 : Nat) (w2 : Nat) (w3 : Nat) (w4 : Nat) (w5 : Nat) (w6 : Nat) (w7 : Nat) (w8 : Nat) (w9 : Nat) (w10 : Nat) (w11 : Nat) (w12 : Nat) (w13 : Nat) (w14 : Nat) (yt : Int32) (te : Int32) (n : Nat) (wb : Int32) (rc : Int32) (fp : Int32) (ft : Int32) (th : Int32) (sg : Nat → Int32) (gl : Nat → Int32) (fi : Nat → Int32) (nu : Nat → Int32) (pl : Nat → Int32) (fw : Nat → Int32) (fr : Nat → Int32) (qu : Nat → Int32) (hcn : n = cnF fi 1600) (hfi : okFi fi) (hgl : okGl gl) (g9 : NM) (hg9 : g9 = nmL fi nu pl 1600) (hgn : g9.2.2 = n) (h12 : n ≤ 120) (tq : Nat) (htq : tq < n) (b : Nat) (hb1 : b ≤ 1000) (z8 : T3) (hx : p.tables.exec = Jvm.exec) (hb : c.code = c_MD_seam) (hml : c.maxLocals = 5) (hown : s.vm.findClass R_MD = some m.cls) (hw : ∀ w ∈ gw, w.before args s = true) (hE : En D cI cJ s) (hX : Sx A s s.heap) (hA : ∀ q : Nat, s.heap.size ≤ q → A q)
    (kx0 : ∀ (sm : Nat) (z7 : T3), (rfF (rgL g9.2.1 g9.1) (rgR sg gl fi g9.2.1) n tq b 0 (z8.1, z8.2.1, flI z8.2.2 (nI 0) 480) = (sm, z7)) → (sm ≤ b) → ∀ (H : Heap) (locs : List Loc) (ls : Array Slot), va_P D vwCl [(w0, .inr (5, [.ref w1, .ref w2, .int yt, .int te, .ref w3, .ref w4, .ref w5, .int (nI n), .int wb, .ref w6, .ref w7, .ref w8, .int rc, .ref w9, .ref w10, .ref w11, .ref w12, .ref w13, .ref w14, .int fp, .int ft, .int (nI (flN 0 2))])), (w1, .inl (cI, 100, .inl sg)), (w2, .inl (cI, 244, .inl gl)), (w3, .inl (cI, 1600, .inl fi)), (w10, .inl (cI, 1600, .inl g9.1)), (w11, .inl (cI, 120, .inl g9.2.1)), (w12, .inl (cI, 480, .inl z7.2.2)), (w13, .inl (cI, 120, .inl z7.1)), (w14, .inl (cI, 120, .inl z7.2.1))] H → va_D A [(w0, .inr (5, [.ref w1, .ref w2, .int yt, .int te, .ref w3, .ref w4, .ref w5, .int (nI n), .int wb, .ref w6, .ref w7, .ref w8, .int rc, .ref w9, .ref w10, .ref w11, .ref w12, .ref w13, .ref w14, .int fp, .int ft, .int (nI (flN 0 2))])), (w1, .inl (cI, 100, .inl sg)), (w2, .inl (cI, 244, .inl gl)), (w3, .inl (cI, 1600, .inl fi)), (w10, .inl (cI, 1600, .inl g9.1)), (w11, .inl (cI, 120, .inl g9.2.1)), (w12, .inl (cI, 480, .inl z7.2.2)), (w13, .inl (cI, 120, .inl z7.1)), (w14, .inl (cI, 120, .inl z7.2.1))] → va_S A s.heap H locs → lv_has ls 5 [(0, .ref w0), (1, .int (nI g9.2.2)), (2, .int (nI b)), (3, .int (nI tq)), (4, .int (nI sm))] → W p l e ({ frames := 6, cells := 0, slots := 0, locals := 140 } : Room) s m args below meth c H locs 0 0 Q (F0 m 150 ls [])) :
    ∀ (fu : Nat) (sm : Nat) (z7 : T3), b - sm < fu → (sm ≤ b) → (rfF (rgL g9.2.1 g9.1) (rgR sg gl fi g9.2.1) n tq (b - sm) sm z7 = rfF (rgL g9.2.1 g9.1) (rgR sg gl fi g9.2.1) n tq b 0 (z8.1, z8.2.1, flI z8.2.2 (nI 0) 480)) → (okFw (rgW sg gl fi g9.2.1) z7.2.2 n) → ∀ (H : Heap) (locs : List Loc) (ls : Array Slot), va_P D vwCl [(w0, .inr (5, [.ref w1, .ref w2, .int yt, .int te, .ref w3, .ref w4, .ref w5, .int (nI n), .int wb, .ref w6, .ref w7, .ref w8, .int rc, .ref w9, .ref w10, .ref w11, .ref w12, .ref w13, .ref w14, .int fp, .int ft, .int (nI (flN 0 2))])), (w1, .inl (cI, 100, .inl sg)), (w2, .inl (cI, 244, .inl gl)), (w3, .inl (cI, 1600, .inl fi)), (w10, .inl (cI, 1600, .inl g9.1)), (w11, .inl (cI, 120, .inl g9.2.1)), (w12, .inl (cI, 480, .inl z7.2.2)), (w13, .inl (cI, 120, .inl z7.1)), (w14, .inl (cI, 120, .inl z7.2.1))] H → va_D A [(w0, .inr (5, [.ref w1, .ref w2, .int yt, .int te, .ref w3, .ref w4, .ref w5, .int (nI n), .int wb, .ref w6, .ref w7, .ref w8, .int rc, .ref w9, .ref w10, .ref w11, .ref w12, .ref w13, .ref w14, .int fp, .int ft, .int (nI (flN 0 2))])), (w1, .inl (cI, 100, .inl sg)), (w2, .inl (cI, 244, .inl gl)), (w3, .inl (cI, 1600, .inl fi)), (w10, .inl (cI, 1600, .inl g9.1)), (w11, .inl (cI, 120, .inl g9.2.1)), (w12, .inl (cI, 480, .inl z7.2.2)), (w13, .inl (cI, 120, .inl z7.1)), (w14, .inl (cI, 120, .inl z7.2.1))] → va_S A s.heap H locs → lv_has ls 5 [(0, .ref w0), (1, .int (nI g9.2.2)), (2, .int (nI b)), (3, .int (nI tq)), (4, .int (nI sm))] → W p l e ({ frames := 6, cells := 0, slots := 0, locals := 140 } : Room) s m args below meth c H locs 0 0 Q (F0 m 130 ls []) := by
  intro fu
  induction fu with
  | zero =>
    intro sm z7 h0
    exact absurd h0 (Nat.not_lt_zero _)
  | succ fu ih =>
    intro sm z7 hmu hsm hR7 hfw H locs ls hP hD hS hl
    have hNM := (show okNm fi g9.1 g9.2.1 1600 n from by have h := nmL_ok fi nu pl 1600; rw [← hg9, hgn] at h; exact h)
    refine lv_iload hx hb d_MD_seam_130 (lv_at hl 4 rfl) ?_
    refine lv_iload_n hx hb d_MD_seam_132 rfl (lv_at hl 2 rfl) ?_
    refine jn_icmp_ge (tgt := 150) (a := sm) (b := b) hx hb d_MD_seam_133 (by decide) (by omega) (by omega) (fun c_133 => ?_) (fun c_133 => ?_)
    · skip
      exact kx0 sm z7 (by rw [← hR7, show b - sm = 0 by omega, rfF]) (by omega) _ _ _ (hP.sub [0, 1, 2, 3, 4, 5, 6, 7, 8] rfl) (hD.sub [0, 1, 2, 3, 4, 5, 6, 7, 8] (by decide) rfl) hS (lv_sub hl [0, 1, 2, 3, 4] rfl)
    · skip
      refine lv_aload_n hx hb d_MD_seam_136 rfl (lv_at hl 0 rfl) ?_
      refine lv_iload_n hx hb d_MD_seam_137 rfl (lv_at hl 3 rfl) ?_
      refine cl_i (wr := []) (va_runV (As := [.int (nI tq)]) (rest := []) ⟨hx, hb, hml, hown, hw⟩ (k_MD_flows l D cI cJ w0 w1 w2 w3 w4 w5 w6 w7 w8 w9 w10 w11 w12 w13 w14 yt te n wb rc fp ft (nI (flN 0 2)) sg gl fi g9.1 g9.2.1 z7.2.2 z7.1 z7.2.1 tq _ h12 htq hfi hgl (okNm_pl hNM).1 (okNm_nu (by omega) hNM) (rg_okLk h12 hNM) (okFw_Rm hfw)) (cwV 1 hw (gV kw_975 kw_977 kw_36 kw_45 kw_978) rfl rfl rfl (by decide +kernel) ⟨Nat.le_of_ble_eq_true rfl, Nat.le_of_ble_eq_true rfl⟩) (pre_Vw (wc := [(w0, .inr (5, [.ref w1, .ref w2, .int yt, .int te, .ref w3, .ref w4, .ref w5, .int (nI n), .int wb, .ref w6, .ref w7, .ref w8, .int rc, .ref w9, .ref w10, .ref w11, .ref w12, .ref w13, .ref w14, .int fp, .int ft, .int (nI (flN 0 2))])), (w1, .inl (cI, 100, .inl sg)), (w2, .inl (cI, 244, .inl gl)), (w3, .inl (cI, 1600, .inl fi)), (w10, .inl (cI, 1600, .inl g9.1)), (w11, .inl (cI, 120, .inl g9.2.1)), (w12, .inl (cI, 480, .inl z7.2.2)), (w13, .inl (cI, 120, .inl z7.1)), (w14, .inl (cI, 120, .inl z7.2.1))]) (q0 := 0) hE hX hA hP hD hS [0, 1, 2, 3, 4, 5, 6, 7, 8] (by decide) rfl rfl rfl rfl) rfl rfl hl.1 rfl (lv_room (Nat.le_of_ble_eq_true rfl)) d_MD_seam_138 ⟨Nat.le_of_ble_eq_true rfl, Nat.le_of_ble_eq_true rfl⟩) hP hD hS hA [0, 1, 2, 3, 4, 5, 6, 7, 8] [] rfl rfl (by decide) (by decide) (fun r_1 u_r_1 H locs hr_1 hP hD hS => ?_)
      have hP : va_P D vwCl [(w0, .inr (5, [.ref w1, .ref w2, .int yt, .int te, .ref w3, .ref w4, .ref w5, .int (nI n), .int wb, .ref w6, .ref w7, .ref w8, .int rc, .ref w9, .ref w10, .ref w11, .ref w12, .ref w13, .ref w14, .int fp, .int ft, .int (nI (flN 0 2))])), (w1, .inl (cI, 100, .inl sg)), (w2, .inl (cI, 244, .inl gl)), (w3, .inl (cI, 1600, .inl fi)), (w10, .inl (cI, 1600, .inl g9.1)), (w11, .inl (cI, 120, .inl g9.2.1)), (w12, .inl (cI, 480, .inl u_r_1.2.2)), (w13, .inl (cI, 120, .inl u_r_1.1)), (w14, .inl (cI, 120, .inl u_r_1.2.1))] H := hP
      have hD : va_D A [(w0, .inr (5, [.ref w1, .ref w2, .int yt, .int te, .ref w3, .ref w4, .ref w5, .int (nI n), .int wb, .ref w6, .ref w7, .ref w8, .int rc, .ref w9, .ref w10, .ref w11, .ref w12, .ref w13, .ref w14, .int fp, .int ft, .int (nI (flN 0 2))])), (w1, .inl (cI, 100, .inl sg)), (w2, .inl (cI, 244, .inl gl)), (w3, .inl (cI, 1600, .inl fi)), (w10, .inl (cI, 1600, .inl g9.1)), (w11, .inl (cI, 120, .inl g9.2.1)), (w12, .inl (cI, 480, .inl u_r_1.2.2)), (w13, .inl (cI, 120, .inl u_r_1.1)), (w14, .inl (cI, 120, .inl u_r_1.2.1))] := hD
      obtain ⟨e9, hx0, hu1, hu2, hor⟩ := hr_1
      refine lv_if_eq (tgt := 150) hx hb d_MD_seam_141 (by decide) (fun c_141 => ?_) (fun c_141 => ?_)
      · skip
        have hmm := (hor.elim (fun h => (⟨h.1, h.2.2⟩ : e9.1 tq = -1 ∧ u_r_1.2.2 = z7.2.2)) (fun h => absurd (h.2.1.symm.trans c_141) (by decide +kernel)))
        exact kx0 sm u_r_1 (by rw [← hR7, rfF_end (show 0 < b - sm by omega) hx0 hmm.1, (show u_r_1 = (e9.1, e9.2.1, z7.2.2) from by rw [← hmm.2, ← hu1, ← hu2])]) (by omega) _ _ _ (hP.sub [0, 1, 2, 3, 4, 5, 6, 7, 8] rfl) (hD.sub [0, 1, 2, 3, 4, 5, 6, 7, 8] (by decide) rfl) hS (lv_sub hl [0, 1, 2, 3, 4] rfl)
      · skip
        refine lv_iinc (v := nI (sm + 1)) (lv' := [(4, .int (nI (sm + 1))), (0, .ref w0), (1, .int (nI g9.2.2)), (2, .int (nI b)), (3, .int (nI tq))]) hx hb d_MD_seam_144 hl (k := 4) rfl (jn_inc sm 1) (by decide) rfl (fun ls hl => ?_)
        refine lv_goto (tgt := 130) hx hb d_MD_seam_147 (by decide) ?_
        have hmm := (hor.elim (fun h => absurd (h.2.1.trans nI_0) c_141) (fun h => (⟨h.1, h.2.2⟩ : e9.1 tq ≠ -1 ∧ u_r_1.2.2 = rpF (rgL g9.2.1 g9.1) e9.1 n tq z7.2.2)))
        obtain ⟨rk, hWy, hrn⟩ := e0R_way (rg_okLk h12 hNM) (okFw_Rm hfw) h12 (by omega) hx0
        exact ih (sm + 1) u_r_1 (by omega) (by omega) (by rw [← hR7, rfF_go (show 0 < b - sm by omega) hx0 hmm.1, show b - sm - 1 = b - (sm + 1) by omega, (show u_r_1 = (e9.1, e9.2.1, rpF (rgL g9.2.1 g9.1) e9.1 n tq z7.2.2) from by rw [← hmm.2, ← hu1, ← hu2])]) (by rw [hmm.2]; exact rpF_ok (rg_okLk h12 hNM) (okFw_Rm hfw) h12 hWy n tq z7.2.2 htq hmm.1 hfw) _ _ _ (hP.sub [0, 1, 2, 3, 4, 5, 6, 7, 8] rfl) (hD.sub [0, 1, 2, 3, 4, 5, 6, 7, 8] (by decide) rfl) hS (lv_sub hl [1, 2, 3, 4, 0] rfl)
set_option maxHeartbeats 4000000 in
set_option maxRecDepth 100000 in
theorem lp_k_MD_seam_97 {p : Program} {l : Launch} {e : Env} {s : State} {m : MethodId} {args : Array Value} {below : List Frame} {meth : Method} {c : Code} {D : va_G} {cI cJ : ClassId} {Q : State → Prop} {A : Nat → Prop} (w0 : Nat) (w1 : Nat) (w2 : Nat) (w3 : Nat) (w4 : Nat) (w5 : Nat) (w6 : Nat) (w7 : Nat) (w8 : Nat) (w9 : Nat) (w10 : Nat) (w11 : Nat) (w12 : Nat) (w13 : Nat) (w14 : Nat) (yt : Int32) (te : Int32) (n : Nat) (wb : Int32) (rc : Int32) (fp : Int32) (ft : Int32) (th : Int32) (sg : Nat → Int32) (gl : Nat → Int32) (fi : Nat → Int32) (nu : Nat → Int32) (pl : Nat → Int32) (fw : Nat → Int32) (fr : Nat → Int32) (qu : Nat → Int32) (hcn : n = cnF fi 1600) (hfi : okFi fi) (hgl : okGl gl) (g9 : NM) (hg9 : g9 = nmL fi nu pl 1600) (hgn : g9.2.2 = n) (h12 : n ≤ 120) (hx : p.tables.exec = Jvm.exec) (hb : c.code = c_MD_seam) (hml : c.maxLocals = 5) (hown : s.vm.findClass R_MD = some m.cls) (hw : ∀ w ∈ gw, w.before args s = true) (hE : En D cI cJ s) (hX : Sx A s s.heap) (hA : ∀ q : Nat, s.heap.size ≤ q → A q)
    (kx0 : ∀ (b : Nat) (z8 : T3), (reF (rgL g9.2.1 g9.1) (rgR sg gl fi g9.2.1) n (n - 1) 1 1000 (fr, qu, fw) = (b, z8)) → ∀ (H : Heap) (locs : List Loc) (ls : Array Slot), va_P D vwCl [(w0, .inr (5, [.ref w1, .ref w2, .int yt, .int te, .ref w3, .ref w4, .ref w5, .int (nI n), .int wb, .ref w6, .ref w7, .ref w8, .int rc, .ref w9, .ref w10, .ref w11, .ref w12, .ref w13, .ref w14, .int fp, .int ft, .int (nI (flN 0 2))])), (w1, .inl (cI, 100, .inl sg)), (w2, .inl (cI, 244, .inl gl)), (w3, .inl (cI, 1600, .inl fi)), (w10, .inl (cI, 1600, .inl g9.1)), (w11, .inl (cI, 120, .inl g9.2.1)), (w12, .inl (cI, 480, .inl z8.2.2)), (w13, .inl (cI, 120, .inl z8.1)), (w14, .inl (cI, 120, .inl z8.2.1))] H → va_D A [(w0, .inr (5, [.ref w1, .ref w2, .int yt, .int te, .ref w3, .ref w4, .ref w5, .int (nI n), .int wb, .ref w6, .ref w7, .ref w8, .int rc, .ref w9, .ref w10, .ref w11, .ref w12, .ref w13, .ref w14, .int fp, .int ft, .int (nI (flN 0 2))])), (w1, .inl (cI, 100, .inl sg)), (w2, .inl (cI, 244, .inl gl)), (w3, .inl (cI, 1600, .inl fi)), (w10, .inl (cI, 1600, .inl g9.1)), (w11, .inl (cI, 120, .inl g9.2.1)), (w12, .inl (cI, 480, .inl z8.2.2)), (w13, .inl (cI, 120, .inl z8.1)), (w14, .inl (cI, 120, .inl z8.2.1))] → va_S A s.heap H locs → lv_has ls 5 [(2, .int (nI b))] → W p l e ({ frames := 6, cells := 0, slots := 0, locals := 140 } : Room) s m args below meth c H locs 0 0 Q (F0 m 169 ls [])) :
    ∀ (fu : Nat) (tq : Nat) (b : Nat) (z8 : T3), n - tq < fu → (1 ≤ tq) → (tq ≤ n) → (reF (rgL g9.2.1 g9.1) (rgR sg gl fi g9.2.1) n (n - tq) tq b z8 = reF (rgL g9.2.1 g9.1) (rgR sg gl fi g9.2.1) n (n - 1) 1 1000 (fr, qu, fw)) → (b ≤ 1000) → ∀ (H : Heap) (locs : List Loc) (ls : Array Slot), va_P D vwCl [(w0, .inr (5, [.ref w1, .ref w2, .int yt, .int te, .ref w3, .ref w4, .ref w5, .int (nI n), .int wb, .ref w6, .ref w7, .ref w8, .int rc, .ref w9, .ref w10, .ref w11, .ref w12, .ref w13, .ref w14, .int fp, .int ft, .int (nI (flN 0 2))])), (w1, .inl (cI, 100, .inl sg)), (w2, .inl (cI, 244, .inl gl)), (w3, .inl (cI, 1600, .inl fi)), (w10, .inl (cI, 1600, .inl g9.1)), (w11, .inl (cI, 120, .inl g9.2.1)), (w12, .inl (cI, 480, .inl z8.2.2)), (w13, .inl (cI, 120, .inl z8.1)), (w14, .inl (cI, 120, .inl z8.2.1))] H → va_D A [(w0, .inr (5, [.ref w1, .ref w2, .int yt, .int te, .ref w3, .ref w4, .ref w5, .int (nI n), .int wb, .ref w6, .ref w7, .ref w8, .int rc, .ref w9, .ref w10, .ref w11, .ref w12, .ref w13, .ref w14, .int fp, .int ft, .int (nI (flN 0 2))])), (w1, .inl (cI, 100, .inl sg)), (w2, .inl (cI, 244, .inl gl)), (w3, .inl (cI, 1600, .inl fi)), (w10, .inl (cI, 1600, .inl g9.1)), (w11, .inl (cI, 120, .inl g9.2.1)), (w12, .inl (cI, 480, .inl z8.2.2)), (w13, .inl (cI, 120, .inl z8.1)), (w14, .inl (cI, 120, .inl z8.2.1))] → va_S A s.heap H locs → lv_has ls 5 [(0, .ref w0), (1, .int (nI g9.2.2)), (2, .int (nI b)), (3, .int (nI tq))] → W p l e ({ frames := 6, cells := 0, slots := 0, locals := 140 } : Room) s m args below meth c H locs 0 0 Q (F0 m 97 ls []) := by
  intro fu
  induction fu with
  | zero =>
    intro tq b z8 h0
    exact absurd h0 (Nat.not_lt_zero _)
  | succ fu ih =>
    intro tq b z8 hmu ht1 ht2 hR hb1 H locs ls hP hD hS hl
    refine lv_iload_n hx hb d_MD_seam_97 rfl (lv_at hl 3 rfl) ?_
    refine lv_iload_n hx hb d_MD_seam_98 rfl (lv_at hl 1 rfl) ?_
    refine jn_icmp_ge (tgt := 169) (a := tq) (b := g9.2.2) hx hb d_MD_seam_99 (by decide) (by omega) (by omega) (fun c_99 => ?_) (fun c_99 => ?_)
    · skip
      exact kx0 b z8 (by rw [← hR, show n - tq = 0 by omega, reF]) _ _ _ (hP.sub [0, 1, 2, 3, 4, 5, 6, 7, 8] rfl) (hD.sub [0, 1, 2, 3, 4, 5, 6, 7, 8] (by decide) rfl) hS (lv_sub hl [2] rfl)
    · skip
      refine lv_iconst (v := nI 0) hx hb d_MD_seam_102 (by decide +kernel) ?_
      refine lv_istore (lv' := [(4, .int (nI 0)), (0, .ref w0), (1, .int (nI g9.2.2)), (2, .int (nI b)), (3, .int (nI tq))]) hx hb d_MD_seam_103 hl (by decide) rfl (fun ls hl => ?_)
      refine lp_k_MD_seam_105 w0 w1 w2 w3 w4 w5 w6 w7 w8 w9 w10 w11 w12 w13 w14 yt te n wb rc fp ft th sg gl fi nu pl fw fr qu hcn hfi hgl g9 hg9 hgn h12 tq b z8 hx hb hml hown hw hE hX hA (fun f9 hf9 H locs ls hP hD hS hl => ?_) ((480 - 0) + 1) 0 z8.2.2 (Nat.lt_succ_self _) (Nat.zero_le _) (flI_zero _ _).symm _ _ _ (hP.sub [0, 1, 2, 3, 4, 5, 6, 7, 8] rfl) (hD.sub [0, 1, 2, 3, 4, 5, 6, 7, 8] (by decide) rfl) hS (lv_sub hl [1, 2, 3, 4, 0] rfl)
      subst hf9
      refine lv_iconst (v := nI 0) hx hb d_MD_seam_127 (by decide +kernel) ?_
      refine lv_istore (lv' := [(4, .int (nI 0)), (0, .ref w0), (1, .int (nI g9.2.2)), (2, .int (nI b)), (3, .int (nI tq))]) hx hb d_MD_seam_128 hl (by decide) rfl (fun ls hl => ?_)
      refine lp_k_MD_seam_130 w0 w1 w2 w3 w4 w5 w6 w7 w8 w9 w10 w11 w12 w13 w14 yt te n wb rc fp ft th sg gl fi nu pl fw fr qu hcn hfi hgl g9 hg9 hgn h12 tq (by omega) b hb1 z8 hx hb hml hown hw hE hX hA (fun sm z7 hR7 hsm H locs ls hP hD hS hl => ?_) ((b - 0) + 1) 0 (z8.1, z8.2.1, flI z8.2.2 (nI 0) 480) (Nat.lt_succ_self _) (Nat.zero_le _) rfl (fun i hi _ => show flI z8.2.2 (nI 0) 480 i = 0 from (if_pos (by omega)).trans nI_0) _ _ _ (hP.sub [0, 1, 2, 3, 4, 5, 6, 7, 8] rfl) (hD.sub [0, 1, 2, 3, 4, 5, 6, 7, 8] (by decide) rfl) hS (lv_sub hl [1, 2, 3, 4, 0] rfl)
      refine lv_iload hx hb d_MD_seam_150 (lv_at hl 4 rfl) ?_
      refine lv_iload_n hx hb d_MD_seam_152 rfl (lv_at hl 2 rfl) ?_
      refine jn_icmp_ge (tgt := 161) (a := sm) (b := b) hx hb d_MD_seam_153 (by decide) (by omega) (by omega) (fun c_153 => ?_) (fun c_153 => ?_)
      · skip
        refine lv_iload_n hx hb d_MD_seam_161 rfl (lv_at hl 2 rfl) ?_
        refine lv_istore_n (lv' := [(2, .int (nI b)), (0, .ref w0), (1, .int (nI g9.2.2)), (3, .int (nI tq)), (4, .int (nI sm))]) hx hb d_MD_seam_162 rfl hl (by decide) rfl (fun ls hl => ?_)
        refine lv_iinc (v := nI (tq + 1)) (lv' := [(3, .int (nI (tq + 1))), (2, .int (nI b)), (0, .ref w0), (1, .int (nI g9.2.2)), (4, .int (nI sm))]) hx hb d_MD_seam_163 hl (k := 3) rfl (jn_inc tq 1) (by decide) rfl (fun ls hl => ?_)
        refine lv_goto (tgt := 97) hx hb d_MD_seam_166 (by decide) ?_
        exact ih (tq + 1) b z7 (by omega) (by omega) (by omega) (by rw [← hR, show n - tq = (n - (tq + 1)) + 1 by omega, reF, hR7]; dsimp only; rw [if_neg (show ¬ sm < b by omega)]) (by omega) _ _ _ (hP.sub [0, 1, 2, 3, 4, 5, 6, 7, 8] rfl) (hD.sub [0, 1, 2, 3, 4, 5, 6, 7, 8] (by decide) rfl) hS (lv_sub hl [2, 3, 1, 0] rfl)
      · skip
        refine lv_iload hx hb d_MD_seam_156 (lv_at hl 4 rfl) ?_
        refine lv_goto (tgt := 162) hx hb d_MD_seam_158 (by decide) ?_
        refine lv_istore_n (lv' := [(2, .int (nI sm)), (0, .ref w0), (1, .int (nI g9.2.2)), (3, .int (nI tq)), (4, .int (nI sm))]) hx hb d_MD_seam_162 rfl hl (by decide) rfl (fun ls hl => ?_)
        refine lv_iinc (v := nI (tq + 1)) (lv' := [(3, .int (nI (tq + 1))), (2, .int (nI sm)), (0, .ref w0), (1, .int (nI g9.2.2)), (4, .int (nI sm))]) hx hb d_MD_seam_163 hl (k := 3) rfl (jn_inc tq 1) (by decide) rfl (fun ls hl => ?_)
        refine lv_goto (tgt := 97) hx hb d_MD_seam_166 (by decide) ?_
        exact ih (tq + 1) sm z7 (by omega) (by omega) (by omega) (by rw [← hR, show n - tq = (n - (tq + 1)) + 1 by omega, reF, hR7]; dsimp only; rw [if_pos (show sm < b by omega)]) (by omega) _ _ _ (hP.sub [0, 1, 2, 3, 4, 5, 6, 7, 8] rfl) (hD.sub [0, 1, 2, 3, 4, 5, 6, 7, 8] (by decide) rfl) hS (lv_sub hl [2, 3, 1, 0] rfl)
set_option maxHeartbeats 4000000 in
set_option maxRecDepth 100000 in
/-- seam -/
theorem k_MD_seam (l : Launch) (D : va_G) (cI cJ : ClassId) (w0 : Nat) (w1 : Nat) (w2 : Nat) (w3 : Nat) (w4 : Nat) (w5 : Nat) (w6 : Nat) (w7 : Nat) (w8 : Nat) (w9 : Nat) (w10 : Nat) (w11 : Nat) (w12 : Nat) (w13 : Nat) (w14 : Nat) (yt : Int32) (te : Int32) (n : Nat) (wb : Int32) (rc : Int32) (fp : Int32) (ft : Int32) (th : Int32) (sg : Nat → Int32) (gl : Nat → Int32) (fi : Nat → Int32) (nu : Nat → Int32) (pl : Nat → Int32) (fw : Nat → Int32) (fr : Nat → Int32) (qu : Nat → Int32) (sz : Nat) (hcn : n = cnF fi 1600) (hfi : okFi fi) (hgl : okGl gl) : Met l y_MD_seam ws_MD_seam ({ frames := 6, cells := 0, slots := 0, locals := 140 } : Room) (va_Pc [.ref w0] (Pw D cI cJ [(w0, .inr (5, [.ref w1, .ref w2, .int yt, .int te, .ref w3, .ref w4, .ref w5, .int (nI n), .int wb, .ref w6, .ref w7, .ref w8, .int rc, .ref w9, .ref w10, .ref w11, .ref w12, .ref w13, .ref w14, .int fp, .int ft, .int th])), (w1, .inl (cI, 100, .inl sg)), (w2, .inl (cI, 244, .inl gl)), (w3, .inl (cI, 1600, .inl fi)), (w10, .inl (cI, 1600, .inl nu)), (w11, .inl (cI, 120, .inl pl)), (w12, .inl (cI, 480, .inl fw)), (w13, .inl (cI, 120, .inl fr)), (w14, .inl (cI, 120, .inl qu))] sz)) (va_Qi (fun (r : Int32) (u9 : Int32 × (Nat → Int32) × (Nat → Int32) × (Nat → Int32) × (Nat → Int32) × (Nat → Int32)) => (n < 2 ∧ r = nI 0 ∧ u9.1 = nI 1) ∨ (2 ≤ n ∧ 120 < n ∧ r = nI 0 ∧ u9.1 = nI 2) ∨ (2 ≤ n ∧ n ≤ 120 ∧ r = nI (reF (rgL (nmL fi nu pl 1600).2.1 (nmL fi nu pl 1600).1) (rgR sg gl fi (nmL fi nu pl 1600).2.1) n (n - 1) 1 1000 (fr, qu, fw)).1 ∧ u9.1 = nI 0)) (fun u9 t9 => Bw D (va_A [(w0, .inr (5, [.ref w1, .ref w2, .int yt, .int te, .ref w3, .ref w4, .ref w5, .int (nI n), .int wb, .ref w6, .ref w7, .ref w8, .int rc, .ref w9, .ref w10, .ref w11, .ref w12, .ref w13, .ref w14, .int fp, .int ft, .int th])), (w1, .inl (cI, 100, .inl sg)), (w2, .inl (cI, 244, .inl gl)), (w3, .inl (cI, 1600, .inl fi)), (w10, .inl (cI, 1600, .inl nu)), (w11, .inl (cI, 120, .inl pl)), (w12, .inl (cI, 480, .inl fw)), (w13, .inl (cI, 120, .inl fr)), (w14, .inl (cI, 120, .inl qu))] sz) [(w0, .inr (5, [.ref w1, .ref w2, .int yt, .int te, .ref w3, .ref w4, .ref w5, .int (nI n), .int wb, .ref w6, .ref w7, .ref w8, .int rc, .ref w9, .ref w10, .ref w11, .ref w12, .ref w13, .ref w14, .int fp, .int ft, .int u9.1])), (w1, .inl (cI, 100, .inl sg)), (w2, .inl (cI, 244, .inl gl)), (w3, .inl (cI, 1600, .inl fi)), (w10, .inl (cI, 1600, .inl u9.2.1)), (w11, .inl (cI, 120, .inl u9.2.2.1)), (w12, .inl (cI, 480, .inl u9.2.2.2.1)), (w13, .inl (cI, 120, .inl u9.2.2.2.2.1)), (w14, .inl (cI, 120, .inl u9.2.2.2.2.2))] t9) (va_A [(w0, .inr (5, [.ref w1, .ref w2, .int yt, .int te, .ref w3, .ref w4, .ref w5, .int (nI n), .int wb, .ref w6, .ref w7, .ref w8, .int rc, .ref w9, .ref w10, .ref w11, .ref w12, .ref w13, .ref w14, .int fp, .int ft, .int th])), (w1, .inl (cI, 100, .inl sg)), (w2, .inl (cI, 244, .inl gl)), (w3, .inl (cI, 1600, .inl fi)), (w10, .inl (cI, 1600, .inl nu)), (w11, .inl (cI, 120, .inl pl)), (w12, .inl (cI, 480, .inl fw)), (w13, .inl (cI, 120, .inl fr)), (w14, .inl (cI, 120, .inl qu))] sz)) 0 0 (va_A [(w0, .inr (5, [.ref w1, .ref w2, .int yt, .int te, .ref w3, .ref w4, .ref w5, .int (nI n), .int wb, .ref w6, .ref w7, .ref w8, .int rc, .ref w9, .ref w10, .ref w11, .ref w12, .ref w13, .ref w14, .int fp, .int ft, .int th])), (w1, .inl (cI, 100, .inl sg)), (w2, .inl (cI, 244, .inl gl)), (w3, .inl (cI, 1600, .inl fi)), (w10, .inl (cI, 1600, .inl nu)), (w11, .inl (cI, 120, .inl pl)), (w12, .inl (cI, 480, .inl fw)), (w13, .inl (cI, 120, .inl fr)), (w14, .inl (cI, 120, .inl qu))] sz) := by
  refine Met.ofW (cc := c_MD_seam) (maxL := 5) (ret := (some .int)) (by decide) rfl ?_
  intro p e s m args below meth c s₁ B hml hv
  obtain ⟨rfl, hsz, hE, hP, hD0, hX⟩ := hv
  have hx := B.exec
  have hb := B.bytes
  have hr := B.returns
  have hw : ∀ w ∈ gw, w.before _ s = true := fun w h => atoms_spec (ws := ws_MD_seam) B.pre w (List.mem_cons_of_mem _ h)
  have hown : s.vm.findClass R_MD = some m.cls := findClass_of_methodNamed B.named
  have hlocks := B.notSynchronized
  subst hsz
  have hD := hD0.self (sz := s.heap.size)
  generalize hAe : va_A [(w0, .inr (5, [.ref w1, .ref w2, .int yt, .int te, .ref w3, .ref w4, .ref w5, .int (nI n), .int wb, .ref w6, .ref w7, .ref w8, .int rc, .ref w9, .ref w10, .ref w11, .ref w12, .ref w13, .ref w14, .int fp, .int ft, .int th])), (w1, .inl (cI, 100, .inl sg)), (w2, .inl (cI, 244, .inl gl)), (w3, .inl (cI, 1600, .inl fi)), (w10, .inl (cI, 1600, .inl nu)), (w11, .inl (cI, 120, .inl pl)), (w12, .inl (cI, 480, .inl fw)), (w13, .inl (cI, 120, .inl fr)), (w14, .inl (cI, 120, .inl qu))] s.heap.size = A at hD hX ⊢
  have hA : ∀ q : Nat, s.heap.size ≤ q → A q := fun q h => by rw [← hAe]; exact Or.inr h
  have hS : va_S A s.heap s.heap [] := va_S.rf
  have hP : va_P D vwCl [(w0, .inr (5, [.ref w1, .ref w2, .int yt, .int te, .ref w3, .ref w4, .ref w5, .int (nI n), .int wb, .ref w6, .ref w7, .ref w8, .int rc, .ref w9, .ref w10, .ref w11, .ref w12, .ref w13, .ref w14, .int fp, .int ft, .int th])), (w1, .inl (cI, 100, .inl sg)), (w2, .inl (cI, 244, .inl gl)), (w3, .inl (cI, 1600, .inl fi)), (w10, .inl (cI, 1600, .inl nu)), (w11, .inl (cI, 120, .inl pl)), (w12, .inl (cI, 480, .inl fw)), (w13, .inl (cI, 120, .inl fr)), (w14, .inl (cI, 120, .inl qu))] s.heap := hP
  have hl := lv_entry ([.ref w0]) (n := 5) (Nat.le_of_ble_eq_true rfl)
  rw [lg_entry_eq]
  generalize (lg_sl ([.ref w0]) ++ List.replicate (5 - (lg_sl ([.ref w0])).length) Slot.unset).toArray = ls at hl ⊢
  have hl : lv_has ls 5 [(0, .ref w0)] := hl
  have hnl := cnF_le fi 1600
  refine lv_aload_n hx hb d_MD_seam_0 rfl (lv_at hl 0 rfl) ?_
  refine lv_aload_n hx hb d_MD_seam_1 rfl (lv_at hl 0 rfl) ?_
  refine va_get (D := D) (ci := 5) (v := .int (nI n)) (C := R_MD) (T := T_MD) (N := 22) hx hb hw in_MD hown hE.1 hP 0 rfl rfl 7 (by decide) (hw _ kw_768) (fun _ h9 => h9) rfl d_MD_seam_2 ?_
  refine lv_iconst (v := nI 2) hx hb d_MD_seam_5 (by decide +kernel) ?_
  refine jn_icmp_ge (tgt := 13) (a := n) (b := 2) hx hb d_MD_seam_6 (by decide) (by omega) (by omega) (fun c_6 => ?_) (fun c_6 => ?_)
  · skip
    refine lv_iconst (v := nI 0) hx hb d_MD_seam_13 (by decide +kernel) ?_
    refine lv_iconst (v := nI 1) hx hb d_MD_seam_14 (by decide +kernel) ?_
    refine cl_i (wr := [(w1, .inl (cI, 100, .inl sg)), (w2, .inl (cI, 244, .inl gl)), (w3, .inl (cI, 1600, .inl fi)), (w10, .inl (cI, 1600, .inl nu)), (w11, .inl (cI, 120, .inl pl)), (w12, .inl (cI, 480, .inl fw)), (w13, .inl (cI, 120, .inl fr)), (w14, .inl (cI, 120, .inl qu))]) (va_runV (As := [.int (nI 0), .int (nI 1)]) (rest := []) ⟨hx, hb, hml, hown, hw⟩ (k_MD_fails l D cI cJ w0 w1 w2 w3 w4 w5 w6 w7 w8 w9 w10 w11 w12 w13 w14 yt te (nI n) wb rc fp ft th 0 1 _ (by omega)) (cwV 2 hw (gV kw_836 kw_838 kw_20 kw_45 kw_839) rfl rfl rfl (by decide +kernel) ⟨Nat.le_of_ble_eq_true rfl, Nat.le_of_ble_eq_true rfl⟩) (pre_Vw (wc := [(w0, .inr (5, [.ref w1, .ref w2, .int yt, .int te, .ref w3, .ref w4, .ref w5, .int (nI n), .int wb, .ref w6, .ref w7, .ref w8, .int rc, .ref w9, .ref w10, .ref w11, .ref w12, .ref w13, .ref w14, .int fp, .int ft, .int th]))]) (q0 := 0) hE hX hA hP hD hS [0] (by decide) rfl rfl rfl rfl) rfl rfl hl.1 rfl (lv_room (Nat.le_of_ble_eq_true rfl)) d_MD_seam_15 ⟨Nat.le_of_ble_eq_true rfl, Nat.le_of_ble_eq_true rfl⟩) hP hD hS hA [0] [1, 2, 3, 4, 5, 6, 7, 8] rfl rfl (by decide) (by decide) (fun r_1 u_r_1 H locs hr_1 hP hD hS => ?_)
    obtain rfl : nI 0 = r_1 := hr_1.symm
    have hP : va_P D vwCl [(w1, .inl (cI, 100, .inl sg)), (w2, .inl (cI, 244, .inl gl)), (w3, .inl (cI, 1600, .inl fi)), (w10, .inl (cI, 1600, .inl nu)), (w11, .inl (cI, 120, .inl pl)), (w12, .inl (cI, 480, .inl fw)), (w13, .inl (cI, 120, .inl fr)), (w14, .inl (cI, 120, .inl qu)), (w0, .inr (5, [.ref w1, .ref w2, .int yt, .int te, .ref w3, .ref w4, .ref w5, .int (nI n), .int wb, .ref w6, .ref w7, .ref w8, .int rc, .ref w9, .ref w10, .ref w11, .ref w12, .ref w13, .ref w14, .int fp, .int ft, .int (nI (flN 0 1))]))] H := hP
    have hD : va_D A [(w1, .inl (cI, 100, .inl sg)), (w2, .inl (cI, 244, .inl gl)), (w3, .inl (cI, 1600, .inl fi)), (w10, .inl (cI, 1600, .inl nu)), (w11, .inl (cI, 120, .inl pl)), (w12, .inl (cI, 480, .inl fw)), (w13, .inl (cI, 120, .inl fr)), (w14, .inl (cI, 120, .inl qu)), (w0, .inr (5, [.ref w1, .ref w2, .int yt, .int te, .ref w3, .ref w4, .ref w5, .int (nI n), .int wb, .ref w6, .ref w7, .ref w8, .int rc, .ref w9, .ref w10, .ref w11, .ref w12, .ref w13, .ref w14, .int fp, .int ft, .int (nI (flN 0 1))]))] := hD
    refine jn_if_ne (tgt := 43) (a := 0) hx hb d_MD_seam_18 (by decide) (by decide) (fun c9 => absurd c9 (by decide)) (fun _ => ?_)
    refine lv_aload_n hx hb d_MD_seam_21 rfl (lv_at hl 0 rfl) ?_
    refine lv_aload_n hx hb d_MD_seam_22 rfl (lv_at hl 0 rfl) ?_
    refine va_get (D := D) (ci := 5) (v := .int (nI n)) (C := R_MD) (T := T_MD) (N := 22) hx hb hw in_MD hown hE.1 hP 8 rfl rfl 7 (by decide) (hw _ kw_768) (fun _ h9 => h9) rfl d_MD_seam_23 ?_
    refine lv_bipush (v := nI 120) hx hb d_MD_seam_26 (by decide +kernel) ?_
    refine jn_icmp_le (tgt := 35) (a := n) (b := 120) hx hb d_MD_seam_28 (by decide) (by omega) (by omega) (fun c_28 => ?_) (fun c_28 => ?_)
    · skip
      refine lv_iconst (v := nI 0) hx hb d_MD_seam_35 (by decide +kernel) ?_
      refine lv_iconst (v := nI 2) hx hb d_MD_seam_36 (by decide +kernel) ?_
      refine cl_i (wr := [(w1, .inl (cI, 100, .inl sg)), (w2, .inl (cI, 244, .inl gl)), (w3, .inl (cI, 1600, .inl fi)), (w10, .inl (cI, 1600, .inl nu)), (w11, .inl (cI, 120, .inl pl)), (w12, .inl (cI, 480, .inl fw)), (w13, .inl (cI, 120, .inl fr)), (w14, .inl (cI, 120, .inl qu))]) (va_runV (As := [.int (nI 0), .int (nI 2)]) (rest := []) ⟨hx, hb, hml, hown, hw⟩ (k_MD_fails l D cI cJ w0 w1 w2 w3 w4 w5 w6 w7 w8 w9 w10 w11 w12 w13 w14 yt te (nI n) wb rc fp ft (nI (flN 0 1)) 0 2 _ (by omega)) (cwV 2 hw (gV kw_836 kw_838 kw_20 kw_45 kw_839) rfl rfl rfl (by decide +kernel) ⟨Nat.le_of_ble_eq_true rfl, Nat.le_of_ble_eq_true rfl⟩) (pre_Vw (wc := [(w0, .inr (5, [.ref w1, .ref w2, .int yt, .int te, .ref w3, .ref w4, .ref w5, .int (nI n), .int wb, .ref w6, .ref w7, .ref w8, .int rc, .ref w9, .ref w10, .ref w11, .ref w12, .ref w13, .ref w14, .int fp, .int ft, .int (nI (flN 0 1))]))]) (q0 := 0) hE hX hA hP hD hS [8] (by decide) rfl rfl rfl rfl) rfl rfl hl.1 rfl (lv_room (Nat.le_of_ble_eq_true rfl)) d_MD_seam_37 ⟨Nat.le_of_ble_eq_true rfl, Nat.le_of_ble_eq_true rfl⟩) hP hD hS hA [8] [0, 1, 2, 3, 4, 5, 6, 7] rfl rfl (by decide) (by decide) (fun r_2 u_r_2 H locs hr_2 hP hD hS => ?_)
      obtain rfl : nI 0 = r_2 := hr_2.symm
      have hP : va_P D vwCl [(w1, .inl (cI, 100, .inl sg)), (w2, .inl (cI, 244, .inl gl)), (w3, .inl (cI, 1600, .inl fi)), (w10, .inl (cI, 1600, .inl nu)), (w11, .inl (cI, 120, .inl pl)), (w12, .inl (cI, 480, .inl fw)), (w13, .inl (cI, 120, .inl fr)), (w14, .inl (cI, 120, .inl qu)), (w0, .inr (5, [.ref w1, .ref w2, .int yt, .int te, .ref w3, .ref w4, .ref w5, .int (nI n), .int wb, .ref w6, .ref w7, .ref w8, .int rc, .ref w9, .ref w10, .ref w11, .ref w12, .ref w13, .ref w14, .int fp, .int ft, .int (nI (flN 0 2))]))] H := hP
      have hD : va_D A [(w1, .inl (cI, 100, .inl sg)), (w2, .inl (cI, 244, .inl gl)), (w3, .inl (cI, 1600, .inl fi)), (w10, .inl (cI, 1600, .inl nu)), (w11, .inl (cI, 120, .inl pl)), (w12, .inl (cI, 480, .inl fw)), (w13, .inl (cI, 120, .inl fr)), (w14, .inl (cI, 120, .inl qu)), (w0, .inr (5, [.ref w1, .ref w2, .int yt, .int te, .ref w3, .ref w4, .ref w5, .int (nI n), .int wb, .ref w6, .ref w7, .ref w8, .int rc, .ref w9, .ref w10, .ref w11, .ref w12, .ref w13, .ref w14, .int fp, .int ft, .int (nI (flN 0 2))]))] := hD
      refine jn_if_eq (tgt := 45) (a := 0) hx hb d_MD_seam_40 (by decide) (by decide) (fun _ => ?_) (fun c9 => absurd c9 (by decide))
      refine lv_iconst (v := nI 0) hx hb d_MD_seam_45 (by decide +kernel) ?_
      refine lv_istore_n (lv' := [(1, .int (nI 0)), (0, .ref w0)]) hx hb d_MD_seam_46 rfl hl (by decide) rfl (fun ls hl => ?_)
      refine lv_iconst (v := nI 0) hx hb d_MD_seam_47 (by decide +kernel) ?_
      refine lv_istore_n (lv' := [(2, .int (nI 0)), (1, .int (nI 0)), (0, .ref w0)]) hx hb d_MD_seam_48 rfl hl (by decide) rfl (fun ls hl => ?_)
      refine lp_k_MD_seam_49 w0 w1 w2 w3 w4 w5 w6 w7 w8 w9 w10 w11 w12 w13 w14 yt te n wb rc fp ft th sg gl fi nu pl fw fr qu hcn hfi hgl (by omega) hx hb hml hown hw hE hX hA (fun z9 hz9 H locs ls hP hD hS hl => ?_) ((1600 - 0) + 1) 0 (nu, pl, 0) (Nat.lt_succ_self _) (Nat.zero_le _) rfl _ _ _ (hP.sub [8, 0, 1, 2, 3, 4, 5, 6, 7] rfl) (hD.sub [8, 0, 1, 2, 3, 4, 5, 6, 7] (by decide) rfl) hS (lv_sub hl [2, 1, 0] rfl)
      refine lv_sipush (v := nI 1000) hx hb d_MD_seam_91 (by decide +kernel) ?_
      refine lv_istore_n (lv' := [(2, .int (nI 1000)), (0, .ref w0), (1, .int (nI z9.2.2))]) hx hb d_MD_seam_94 rfl hl (by decide) rfl (fun ls hl => ?_)
      refine lv_iconst (v := nI 1) hx hb d_MD_seam_95 (by decide +kernel) ?_
      refine lv_istore_n (lv' := [(3, .int (nI 1)), (2, .int (nI 1000)), (0, .ref w0), (1, .int (nI z9.2.2))]) hx hb d_MD_seam_96 rfl hl (by decide) rfl (fun ls hl => ?_)
      refine lp_k_MD_seam_97 w0 w1 w2 w3 w4 w5 w6 w7 w8 w9 w10 w11 w12 w13 w14 yt te n wb rc fp ft th sg gl fi nu pl fw fr qu hcn hfi hgl z9 hz9 (by rw [hz9, hcn]; exact nmL_n fi nu pl 1600) (by omega) hx hb hml hown hw hE hX hA (fun b z8 hR H locs ls hP hD hS hl => ?_) ((n - 1) + 1) 1 1000 (fr, qu, fw) (Nat.lt_succ_self _) (Nat.le_refl _) (by omega) rfl (Nat.le_refl _) _ _ _ (hP.sub [0, 1, 2, 3, 4, 5, 6, 7, 8] rfl) (hD.sub [0, 1, 2, 3, 4, 5, 6, 7, 8] (by decide) rfl) hS (lv_sub hl [2, 3, 1, 0] rfl)
      refine lv_iload_n hx hb d_MD_seam_169 rfl (lv_at hl 0 rfl) ?_
      have hP9 := hP.sub (ws' := [(w0, .inr (5, [.ref w1, .ref w2, .int yt, .int te, .ref w3, .ref w4, .ref w5, .int (nI n), .int wb, .ref w6, .ref w7, .ref w8, .int rc, .ref w9, .ref w10, .ref w11, .ref w12, .ref w13, .ref w14, .int fp, .int ft, .int (nI (flN 0 2))])), (w1, .inl (cI, 100, .inl sg)), (w2, .inl (cI, 244, .inl gl)), (w3, .inl (cI, 1600, .inl fi)), (w10, .inl (cI, 1600, .inl z9.1)), (w11, .inl (cI, 120, .inl z9.2.1)), (w12, .inl (cI, 480, .inl z8.2.2)), (w13, .inl (cI, 120, .inl z8.1)), (w14, .inl (cI, 120, .inl z8.2.1))]) [0, 1, 2, 3, 4, 5, 6, 7, 8] rfl
      have hD9 := hD.sub (ws' := [(w0, .inr (5, [.ref w1, .ref w2, .int yt, .int te, .ref w3, .ref w4, .ref w5, .int (nI n), .int wb, .ref w6, .ref w7, .ref w8, .int rc, .ref w9, .ref w10, .ref w11, .ref w12, .ref w13, .ref w14, .int fp, .int ft, .int (nI (flN 0 2))])), (w1, .inl (cI, 100, .inl sg)), (w2, .inl (cI, 244, .inl gl)), (w3, .inl (cI, 1600, .inl fi)), (w10, .inl (cI, 1600, .inl z9.1)), (w11, .inl (cI, 120, .inl z9.2.1)), (w12, .inl (cI, 480, .inl z8.2.2)), (w13, .inl (cI, 120, .inl z8.1)), (w14, .inl (cI, 120, .inl z8.2.1))]) [0, 1, 2, 3, 4, 5, 6, 7, 8] (by decide) rfl
      exact W.iret (v := nI b) hx hb hr (fun t9 ht hW => ⟨⟨_, (nI 0, z9.1, z9.2.1, z8.2.2, z8.1, z8.2.1), rfl, (Or.inr (Or.inr ⟨by omega, by omega, by rw [← hz9, hR], rfl⟩)), ⟨by rw [ht]; exact hP9, hD9⟩⟩, hS.F ht⟩) hS.2.2 d_MD_seam_170
    · skip
      refine lv_iconst (v := nI 1) hx hb d_MD_seam_31 (by decide +kernel) ?_
      refine lv_goto (tgt := 36) hx hb d_MD_seam_32 (by decide) ?_
      refine lv_iconst (v := nI 2) hx hb d_MD_seam_36 (by decide +kernel) ?_
      refine cl_i (wr := [(w1, .inl (cI, 100, .inl sg)), (w2, .inl (cI, 244, .inl gl)), (w3, .inl (cI, 1600, .inl fi)), (w10, .inl (cI, 1600, .inl nu)), (w11, .inl (cI, 120, .inl pl)), (w12, .inl (cI, 480, .inl fw)), (w13, .inl (cI, 120, .inl fr)), (w14, .inl (cI, 120, .inl qu))]) (va_runV (As := [.int (nI 1), .int (nI 2)]) (rest := []) ⟨hx, hb, hml, hown, hw⟩ (k_MD_fails l D cI cJ w0 w1 w2 w3 w4 w5 w6 w7 w8 w9 w10 w11 w12 w13 w14 yt te (nI n) wb rc fp ft (nI (flN 0 1)) 1 2 _ (by omega)) (cwV 2 hw (gV kw_836 kw_838 kw_20 kw_45 kw_839) rfl rfl rfl (by decide +kernel) ⟨Nat.le_of_ble_eq_true rfl, Nat.le_of_ble_eq_true rfl⟩) (pre_Vw (wc := [(w0, .inr (5, [.ref w1, .ref w2, .int yt, .int te, .ref w3, .ref w4, .ref w5, .int (nI n), .int wb, .ref w6, .ref w7, .ref w8, .int rc, .ref w9, .ref w10, .ref w11, .ref w12, .ref w13, .ref w14, .int fp, .int ft, .int (nI (flN 0 1))]))]) (q0 := 0) hE hX hA hP hD hS [8] (by decide) rfl rfl rfl rfl) rfl rfl hl.1 rfl (lv_room (Nat.le_of_ble_eq_true rfl)) d_MD_seam_37 ⟨Nat.le_of_ble_eq_true rfl, Nat.le_of_ble_eq_true rfl⟩) hP hD hS hA [8] [0, 1, 2, 3, 4, 5, 6, 7] rfl rfl (by decide) (by decide) (fun r_3 u_r_3 H locs hr_3 hP hD hS => ?_)
      obtain rfl : nI 1 = r_3 := hr_3.symm
      have hP : va_P D vwCl [(w1, .inl (cI, 100, .inl sg)), (w2, .inl (cI, 244, .inl gl)), (w3, .inl (cI, 1600, .inl fi)), (w10, .inl (cI, 1600, .inl nu)), (w11, .inl (cI, 120, .inl pl)), (w12, .inl (cI, 480, .inl fw)), (w13, .inl (cI, 120, .inl fr)), (w14, .inl (cI, 120, .inl qu)), (w0, .inr (5, [.ref w1, .ref w2, .int yt, .int te, .ref w3, .ref w4, .ref w5, .int (nI n), .int wb, .ref w6, .ref w7, .ref w8, .int rc, .ref w9, .ref w10, .ref w11, .ref w12, .ref w13, .ref w14, .int fp, .int ft, .int (nI (flN 1 2))]))] H := hP
      have hD : va_D A [(w1, .inl (cI, 100, .inl sg)), (w2, .inl (cI, 244, .inl gl)), (w3, .inl (cI, 1600, .inl fi)), (w10, .inl (cI, 1600, .inl nu)), (w11, .inl (cI, 120, .inl pl)), (w12, .inl (cI, 480, .inl fw)), (w13, .inl (cI, 120, .inl fr)), (w14, .inl (cI, 120, .inl qu)), (w0, .inr (5, [.ref w1, .ref w2, .int yt, .int te, .ref w3, .ref w4, .ref w5, .int (nI n), .int wb, .ref w6, .ref w7, .ref w8, .int rc, .ref w9, .ref w10, .ref w11, .ref w12, .ref w13, .ref w14, .int fp, .int ft, .int (nI (flN 1 2))]))] := hD
      refine jn_if_eq (tgt := 45) (a := 1) hx hb d_MD_seam_40 (by decide) (by decide) (fun c9 => absurd c9 (by decide)) (fun _ => ?_)
      refine lv_iconst (v := nI 0) hx hb d_MD_seam_43 (by decide +kernel) ?_
      have hP9 := hP.sub (ws' := [(w0, .inr (5, [.ref w1, .ref w2, .int yt, .int te, .ref w3, .ref w4, .ref w5, .int (nI n), .int wb, .ref w6, .ref w7, .ref w8, .int rc, .ref w9, .ref w10, .ref w11, .ref w12, .ref w13, .ref w14, .int fp, .int ft, .int (nI (flN 1 2))])), (w1, .inl (cI, 100, .inl sg)), (w2, .inl (cI, 244, .inl gl)), (w3, .inl (cI, 1600, .inl fi)), (w10, .inl (cI, 1600, .inl nu)), (w11, .inl (cI, 120, .inl pl)), (w12, .inl (cI, 480, .inl fw)), (w13, .inl (cI, 120, .inl fr)), (w14, .inl (cI, 120, .inl qu))]) [8, 0, 1, 2, 3, 4, 5, 6, 7] rfl
      have hD9 := hD.sub (ws' := [(w0, .inr (5, [.ref w1, .ref w2, .int yt, .int te, .ref w3, .ref w4, .ref w5, .int (nI n), .int wb, .ref w6, .ref w7, .ref w8, .int rc, .ref w9, .ref w10, .ref w11, .ref w12, .ref w13, .ref w14, .int fp, .int ft, .int (nI (flN 1 2))])), (w1, .inl (cI, 100, .inl sg)), (w2, .inl (cI, 244, .inl gl)), (w3, .inl (cI, 1600, .inl fi)), (w10, .inl (cI, 1600, .inl nu)), (w11, .inl (cI, 120, .inl pl)), (w12, .inl (cI, 480, .inl fw)), (w13, .inl (cI, 120, .inl fr)), (w14, .inl (cI, 120, .inl qu))]) [8, 0, 1, 2, 3, 4, 5, 6, 7] (by decide) rfl
      exact W.iret (v := nI 0) hx hb hr (fun t9 ht hW => ⟨⟨_, (nI 2, nu, pl, fw, fr, qu), rfl, (Or.inr (Or.inl ⟨by omega, by omega, rfl, rfl⟩)), ⟨by rw [ht]; exact hP9, hD9⟩⟩, hS.F ht⟩) hS.2.2 d_MD_seam_44
  · skip
    refine lv_iconst (v := nI 1) hx hb d_MD_seam_9 (by decide +kernel) ?_
    refine lv_goto (tgt := 14) hx hb d_MD_seam_10 (by decide) ?_
    refine lv_iconst (v := nI 1) hx hb d_MD_seam_14 (by decide +kernel) ?_
    refine cl_i (wr := [(w1, .inl (cI, 100, .inl sg)), (w2, .inl (cI, 244, .inl gl)), (w3, .inl (cI, 1600, .inl fi)), (w10, .inl (cI, 1600, .inl nu)), (w11, .inl (cI, 120, .inl pl)), (w12, .inl (cI, 480, .inl fw)), (w13, .inl (cI, 120, .inl fr)), (w14, .inl (cI, 120, .inl qu))]) (va_runV (As := [.int (nI 1), .int (nI 1)]) (rest := []) ⟨hx, hb, hml, hown, hw⟩ (k_MD_fails l D cI cJ w0 w1 w2 w3 w4 w5 w6 w7 w8 w9 w10 w11 w12 w13 w14 yt te (nI n) wb rc fp ft th 1 1 _ (by omega)) (cwV 2 hw (gV kw_836 kw_838 kw_20 kw_45 kw_839) rfl rfl rfl (by decide +kernel) ⟨Nat.le_of_ble_eq_true rfl, Nat.le_of_ble_eq_true rfl⟩) (pre_Vw (wc := [(w0, .inr (5, [.ref w1, .ref w2, .int yt, .int te, .ref w3, .ref w4, .ref w5, .int (nI n), .int wb, .ref w6, .ref w7, .ref w8, .int rc, .ref w9, .ref w10, .ref w11, .ref w12, .ref w13, .ref w14, .int fp, .int ft, .int th]))]) (q0 := 0) hE hX hA hP hD hS [0] (by decide) rfl rfl rfl rfl) rfl rfl hl.1 rfl (lv_room (Nat.le_of_ble_eq_true rfl)) d_MD_seam_15 ⟨Nat.le_of_ble_eq_true rfl, Nat.le_of_ble_eq_true rfl⟩) hP hD hS hA [0] [1, 2, 3, 4, 5, 6, 7, 8] rfl rfl (by decide) (by decide) (fun r_4 u_r_4 H locs hr_4 hP hD hS => ?_)
    obtain rfl : nI 1 = r_4 := hr_4.symm
    have hP : va_P D vwCl [(w1, .inl (cI, 100, .inl sg)), (w2, .inl (cI, 244, .inl gl)), (w3, .inl (cI, 1600, .inl fi)), (w10, .inl (cI, 1600, .inl nu)), (w11, .inl (cI, 120, .inl pl)), (w12, .inl (cI, 480, .inl fw)), (w13, .inl (cI, 120, .inl fr)), (w14, .inl (cI, 120, .inl qu)), (w0, .inr (5, [.ref w1, .ref w2, .int yt, .int te, .ref w3, .ref w4, .ref w5, .int (nI n), .int wb, .ref w6, .ref w7, .ref w8, .int rc, .ref w9, .ref w10, .ref w11, .ref w12, .ref w13, .ref w14, .int fp, .int ft, .int (nI (flN 1 1))]))] H := hP
    have hD : va_D A [(w1, .inl (cI, 100, .inl sg)), (w2, .inl (cI, 244, .inl gl)), (w3, .inl (cI, 1600, .inl fi)), (w10, .inl (cI, 1600, .inl nu)), (w11, .inl (cI, 120, .inl pl)), (w12, .inl (cI, 480, .inl fw)), (w13, .inl (cI, 120, .inl fr)), (w14, .inl (cI, 120, .inl qu)), (w0, .inr (5, [.ref w1, .ref w2, .int yt, .int te, .ref w3, .ref w4, .ref w5, .int (nI n), .int wb, .ref w6, .ref w7, .ref w8, .int rc, .ref w9, .ref w10, .ref w11, .ref w12, .ref w13, .ref w14, .int fp, .int ft, .int (nI (flN 1 1))]))] := hD
    refine jn_if_ne (tgt := 43) (a := 1) hx hb d_MD_seam_18 (by decide) (by decide) (fun _ => ?_) (fun c9 => absurd c9 (by decide))
    refine lv_iconst (v := nI 0) hx hb d_MD_seam_43 (by decide +kernel) ?_
    have hP9 := hP.sub (ws' := [(w0, .inr (5, [.ref w1, .ref w2, .int yt, .int te, .ref w3, .ref w4, .ref w5, .int (nI n), .int wb, .ref w6, .ref w7, .ref w8, .int rc, .ref w9, .ref w10, .ref w11, .ref w12, .ref w13, .ref w14, .int fp, .int ft, .int (nI (flN 1 1))])), (w1, .inl (cI, 100, .inl sg)), (w2, .inl (cI, 244, .inl gl)), (w3, .inl (cI, 1600, .inl fi)), (w10, .inl (cI, 1600, .inl nu)), (w11, .inl (cI, 120, .inl pl)), (w12, .inl (cI, 480, .inl fw)), (w13, .inl (cI, 120, .inl fr)), (w14, .inl (cI, 120, .inl qu))]) [8, 0, 1, 2, 3, 4, 5, 6, 7] rfl
    have hD9 := hD.sub (ws' := [(w0, .inr (5, [.ref w1, .ref w2, .int yt, .int te, .ref w3, .ref w4, .ref w5, .int (nI n), .int wb, .ref w6, .ref w7, .ref w8, .int rc, .ref w9, .ref w10, .ref w11, .ref w12, .ref w13, .ref w14, .int fp, .int ft, .int (nI (flN 1 1))])), (w1, .inl (cI, 100, .inl sg)), (w2, .inl (cI, 244, .inl gl)), (w3, .inl (cI, 1600, .inl fi)), (w10, .inl (cI, 1600, .inl nu)), (w11, .inl (cI, 120, .inl pl)), (w12, .inl (cI, 480, .inl fw)), (w13, .inl (cI, 120, .inl fr)), (w14, .inl (cI, 120, .inl qu))]) [8, 0, 1, 2, 3, 4, 5, 6, 7] (by decide) rfl
    exact W.iret (v := nI 0) hx hb hr (fun t9 ht hW => ⟨⟨_, (nI 1, nu, pl, fw, fr, qu), rfl, (Or.inl ⟨by omega, rfl, rfl⟩), ⟨by rw [ht]; exact hP9, hD9⟩⟩, hS.F ht⟩) hS.2.2 d_MD_seam_44
