theorem fs_big {ce fi ip se st sd sg gl : Nat → Int32} {be : Nat → Int64} {y : Nat} (C : Rc ce fi ip se) (T : Rt st sd be sg gl y) {p t : Nat} {mask : Int32} (hp : p < 1600) (ht : 1 ≤ t) (ht6 : t ≤ 64) (hty : ¬ t ≤ y) : ∀ k, k ≤ 4 → fsS ce sd st be (pm p) mask t k = 0 := by
  intro k
  induction k with
  | zero => intro _; rfl
  | succ k ih =>
    intro hk
    rw [fsS, ih (by omega), Nat.zero_add]
    split
    · rfl
    · unfold fsN
      split
      · rfl
      · split
        · rename_i q2 q3
          have hq : nn (sd (tyN (ce (nb (pm p) k)) * 4 + opp k)) < 100 := by
            have hopp := opp_lt k
            by_cases c1 : bsV p k < 0
            · exfalso
              rw [C.wal _ (nbm_lt hp) (nb_out hp (by omega) c1)] at q2
              exact q2 (by decide +kernel)
            · have hq := bsV_nn hp c1
              rw [nb_in hp (by omega) c1, Rc_ty C hq.2]
              have := C.fiN _ hq.2
              rw [T.sd _ (by omega)]
              exact (T.glN _ (by omega)).2
          exact absurd ((T.be _ k t hq (by omega) ht ht6).mp q3).1 hty
        · rfl
theorem tb_not {x : Int64} {t : Nat} (h1 : 1 ≤ t) (h2 : t ≤ 64) : tb (x ^^^ (-1)) t = !(tb x t) := by
  unfold tb un
  rw [Int64.toBitVec_xor, show (-1 : Int64).toBitVec = BitVec.allOnes 64 from by decide +kernel, BitVec.xor_allOnes, BitVec.testBit_toNat, BitVec.testBit_toNat, BitVec.getLsbD_not]
  rw [decide_eq_true (show t - 1 < 64 by omega), Bool.true_and]
theorem mk_bits : ∀ b, b < 16 → ∀ k, k < 4 → (((nI 15 &&& (nI b ^^^ (-1))) >>> (nI k &&& 31)) &&& nI 1 = 0 ↔ ¬ (nI b >>> (nI k &&& 31)) &&& nI 1 = 0) := by decide +kernel
def prT (sg gl fi ip : Nat → Int32) (w p : Nat) (t : Nat) : Bool := decide (¬ nI t = fi p ∧ ¬ hbL sg gl fi p t (ouL fi ip p 4) 4 < nI w)
theorem brX_L {ce fi ip se st sd sg gl : Nat → Int32} {be : Nat → Int64} {w y : Nat} (C : Rc ce fi ip se) (T : Rt st sd be sg gl y) (w1 : 1 ≤ w) (w3 : w ≤ 3) {p : Nat} (hp : p < 1600) (hf : fi p ≠ 0) : tyL (brX ce sd st be (nI w) (pm p)) = (List.range' 1 y).filter (prT sg gl fi ip w p) := by
  have hy := T.yN
  have hfp := C.fiN p hp
  have hf0 : nn (fi p) ≠ 0 := fun q => hf ((Rc_0 C hp).2.mpr q)
  obtain ⟨o1, b, hb, o2⟩ := ot_ou C hp 4 (Nat.le_refl _)
  have key : ∀ t, 1 ≤ t → t ≤ 64 → (tb (brX ce sd st be (nI w) (pm p)) t = true ↔ t ≤ y ∧ prT sg gl fi ip w p t = true) := by
    intro t h1 h6
    unfold brX prT
    rw [tb_and, tb_not h1 h6, tb_only (by rw [Rc_ty C hp]; omega) (by rw [Rc_ty C hp]; exact hfp.2) h1, tb_fit w1 w3, o1, o2, Rc_ty C hp, Bool.and_eq_true, decide_eq_true_eq, decide_eq_true_eq]
    have e1 : (!(decide (t = nn (fi p)))) = true ↔ ¬ nI t = fi p := by
      rw [Bool.not_eq_true', decide_eq_false_iff_not, hfp.1, nn_nI (by omega), nI_eq (by omega) (by omega)]
    rw [e1]
    by_cases hty : t ≤ y
    · obtain ⟨a, c⟩ := hbL_fs C T (mask := nI 15 &&& (nI b ^^^ (-1))) (w := nI b) hp h1 hty (mk_bits b hb) 4 (Nat.le_refl _)
      rw [a, nI_ltI (by omega) (by omega)]
      constructor
      · rintro ⟨q1, q2⟩
        exact ⟨hty, q2, by omega⟩
      · rintro ⟨-, q2, q1⟩
        exact ⟨by omega, q2⟩
    · rw [fs_big C T hp h1 h6 hty 4 (Nat.le_refl _)]
      exact ⟨fun q => by omega, fun q => absurd q.1 hty⟩
  rw [tyL_filter]
  have e : List.range' 1 64 = List.range' 1 y ++ List.range' (1 + y) (64 - y) := by
    rw [List.range'_append_1, show y + (64 - y) = 64 by omega]
  rw [e, List.filter_append]
  have e2 : (List.range' (1 + y) (64 - y)).filter (tb (brX ce sd st be (nI w) (pm p))) = [] := by
    refine List.filter_eq_nil_iff.mpr (fun t ht q => ?_)
    rw [List.mem_range'_1] at ht
    have := (key t (by omega) (by omega)).mp q
    omega
  rw [e2, List.append_nil]
  refine List.filter_congr (fun t ht => ?_)
  rw [List.mem_range'_1] at ht
  have := key t (by omega) (by omega)
  cases q : tb (brX ce sd st be (nI w) (pm p)) t with
  | true => exact ((this.mp q).2).symm
  | false =>
    cases q2 : prT sg gl fi ip w p t with
    | false => rfl
    | true => rw [this.mpr ⟨by omega, q2⟩] at q; cases q
theorem mbT_run {sg gl fi ip : Nat → Int32} {w p : Nat} : ∀ (n i : Nat) (z : F2), ((List.range' i n).filter (prT sg gl fi ip w p) = [] → (itX (mbT sg gl fi (nI w) (ouL fi ip p 4) p) n i z).1 = none) ∧ (∀ t r, (List.range' i n).filter (prT sg gl fi ip w p) = t :: r → itX (mbT sg gl fi (nI w) (ouL fi ip p 4) p) n i z = (some 2, (z.1, nI t)))
  | 0, _, _ => ⟨fun _ => rfl, fun _ _ h => by cases h⟩
  | n + 1, i, z => by
    have ih := mbT_run (sg := sg) (gl := gl) (fi := fi) (ip := ip) (w := w) (p := p) n (i + 1) (z.1, nI i)
    rw [List.range'_succ]
    by_cases c : prT sg gl fi ip w p i = true
    · rw [List.filter_cons_of_pos c]
      have c2 := of_decide_eq_true c
      refine ⟨fun h => (by cases h), fun t r h => ?_⟩
      obtain ⟨rfl, -⟩ := List.cons.inj h
      exact itX_no (by omega) (by unfold mbT; rw [if_neg c2.1, if_neg c2.2])
    · rw [List.filter_cons_of_neg c]
      have st : mbT sg gl fi (nI w) (ouL fi ip p 4) p i z = (none, (z.1, nI i)) := by
        unfold mbT
        by_cases d : nI i = fi p
        · rw [if_pos d]
        · rw [if_neg d]
          by_cases d2 : hbL sg gl fi p i (ouL fi ip p 4) 4 < nI w
          · rw [if_pos d2]
          · exact absurd (decide_eq_true ⟨d, d2⟩) c
      rw [itX_go (by omega) st, Nat.add_sub_cancel]
      exact ih
theorem or_2 {m n : Nat} (hm : m < 2 ^ 24) (hn : n < 4) : brO (nI m) n = nI (m * 4 + n) := by
  unfold brO
  rw [pk_shlN _ 2 (by decide +kernel) (by omega)]
  apply Int32.toBitVec_inj.mp
  apply BitVec.eq_of_toNat_eq
  rw [Int32.toBitVec_or, BitVec.toNat_or, pk_tn (by omega), pk_tn (by omega), pk_tn (by omega)]
  have := Nat.two_pow_add_eq_or_of_lt (i := 2) (b := n) hn m
  rw [show (2 : Nat) ^ 2 * m = m * 4 by omega, show m * 2 ^ 2 = m * 4 from rfl] at *
  exact this.symm
def brC (p t n : Nat) : Int32 := nI ((pm p * 64 + t) * 4 + n)
theorem br_at {ce fi ip se st sd sg gl : Nat → Int32} {be : Nat → Int64} {w y : Nat} (C : Rc ce fi ip se) (T : Rt st sd be sg gl y) (w1 : 1 ≤ w) (w3 : w ≤ 3) {p : Nat} (hp : p < 1600) :
    (brA ce sd st be (nI w) (pm p) = none ∧ ∀ z, (mbP sg gl fi ip se (nI w) y p z).1 = none) ∨ (∃ n t, 1 ≤ n ∧ n ≤ 2 ∧ 1 ≤ t ∧ t ≤ 60 ∧ brA ce sd st be (nI w) (pm p) = some (brC p t n) ∧ ∀ z, mbP sg gl fi ip se (nI w) y p z = (some n, (nI p, nI t))) := by
  have hy := T.yN
  have hpm := pm_in hp
  have hfp := C.fiN p hp
  unfold brA mbP
  rw [Rc_ty C hp]
  by_cases c1 : fi p = 0
  · exact Or.inl ⟨by rw [if_pos ((Rc_0 C hp).2.mp c1)], fun z => by rw [if_pos c1]⟩
  · have hf0 : nn (fi p) ≠ 0 := fun q => c1 ((Rc_0 C hp).2.mpr q)
    have hs := C.seN p hp c1
    rw [if_neg hf0, (Rc_in C hp c1).2]
    simp only [if_neg c1]
    by_cases c2 : se p = nI 1
    · refine Or.inl ⟨?_, fun z => by rw [if_pos c2]⟩
      rw [c2, nn_nI (by decide), if_neg (by decide)]
    · have h0 : nn (se p) = 0 := by
        rcases (show nn (se p) = 0 ∨ nn (se p) = 1 by omega) with q | q
        · exact q
        · exact absurd (by rw [hs.1, q]) c2
      rw [if_pos h0, is_mb C T hp c1 4 (Nat.le_refl _)]
      simp only [if_neg c2]
      by_cases c3 : mbL sg gl fi ip p 4 = nI w
      · rw [if_pos c3]
        simp only [if_pos c3]
        have hL := brX_L C T w1 w3 hp c1
        have hr := mbT_run (sg := sg) (gl := gl) (fi := fi) (ip := ip) (w := w) (p := p) y 1 (nI p, fi p)
        by_cases c4 : brX ce sd st be (nI w) (pm p) = 0
        · rw [if_pos c4]
          refine Or.inl ⟨rfl, fun z => hr.1 ?_⟩
          rw [← hL, c4]
          decide +kernel
        · rw [if_neg c4]
          cases q : tyL (brX ce sd st be (nI w) (pm p)) with
          | nil =>
            exfalso
            have h64 : pop 64 (un (brX ce sd st be (nI w) (pm p))) = 0 := by
              have := bl_len 64 1 (un (brX ce sd st be (nI w) (pm p)))
              rw [show bl 64 1 (un (brX ce sd st be (nI w) (pm p))) = [] from q] at this
              exact this.symm
            have z0 : un (brX ce sd st be (nI w) (pm p)) = 0 := by
              apply Nat.eq_of_testBit_eq
              intro i
              rw [Nat.zero_testBit]
              rcases Nat.lt_or_ge i 64 with d | d
              · cases e : (un (brX ce sd st be (nI w) (pm p))).testBit i with
                | false => rfl
                | true =>
                  have : i + 1 ∈ tyL (brX ce sd st be (nI w) (pm p)) := tyL_mem.mpr ⟨by omega, by omega, by unfold tb; rw [Nat.add_sub_cancel]; exact e⟩
                  rw [q] at this
                  cases this
              · exact Nat.testBit_lt_two_pow (Nat.lt_of_lt_of_le (un_lt _) (Nat.pow_le_pow_right (by decide) d))
            apply c4
            apply Int64.toBitVec_inj.mp
            apply BitVec.eq_of_toNat_eq
            exact z0
          | cons t r =>
            have ht := (List.mem_filter.mp (show t ∈ (List.range' 1 y).filter (prT sg gl fi ip w p) by rw [← hL, q]; exact List.mem_cons_self)).1
            rw [List.mem_range'_1] at ht
            refine Or.inr ⟨2, t, by decide, by decide, ht.1, by omega, ?_, fun z => hr.2 t r (by rw [← hL, q])⟩
            have e : prV (pm p) (brX ce sd st be (nI w) (pm p)) = nI (pm p * 64 + t) := by
              show (nI (pm p) <<< (nI 6 &&& 31)) ||| lsI (brX ce sd st be (nI w) (pm p)) = _
              rw [lsI_head q]
              exact or_6 (by omega) (by omega)
            rw [e, or_2 (by omega) (by decide)]
            rfl
      · rw [if_neg c3]
        simp only [if_neg c3]
        refine Or.inr ⟨1, nn (fi p), by decide, by decide, by omega, hfp.2, ?_, fun z => by rw [← hfp.1]⟩
        rw [or_6 (by omega) (by omega), or_2 (by omega) (by decide)]
        rfl
theorem brF_none {A : Nat → Option Int32} : ∀ (f j : Nat), (∀ i, j ≤ i → i < j + f → A i = none) → brF A f j = none
  | 0, _, _ => rfl
  | f + 1, j, h => by
    rw [brF, h j (Nat.le_refl _) (by omega)]
    exact brF_none f (j + 1) (fun i h1 h2 => h i (by omega) (by omega))
theorem brF_some {A : Nat → Option Int32} {r : Int32} {k : Nat} (hr : A k = some r) : ∀ (f j : Nat), j ≤ k → k < j + f → (∀ i, j ≤ i → i < k → A i = none) → brF A f j = some r
  | 0, _, _, h, _ => by omega
  | f + 1, j, h1, h2, h => by
    rw [brF]
    rcases Nat.eq_or_lt_of_le h1 with e | e
    · rw [e, hr]
    · rw [h j (Nat.le_refl _) e]
      exact brF_some hr f (j + 1) e (by omega) (fun i a b => h i (by omega) b)
theorem itX_scan {S : Type} {A : Nat → S → Option Nat × S} (B : Nat → Option (Nat × S)) : ∀ (n i : Nat) (z : S), (∀ j, i ≤ j → j < i + n → (B j = none ∧ ∀ z, (A j z).1 = none) ∨ ∃ x, B j = some x ∧ ∀ z, A j z = (some x.1, x.2)) →
    ((itX A n i z).1 = none ∧ ∀ j, i ≤ j → j < i + n → B j = none) ∨ (∃ k x, i ≤ k ∧ k < i + n ∧ B k = some x ∧ itX A n i z = (some x.1, x.2) ∧ ∀ j, i ≤ j → j < k → B j = none)
  | 0, i, z, _ => Or.inl ⟨rfl, fun j h1 h2 => by omega⟩
  | n + 1, i, z, h => by
    rcases h i (Nat.le_refl _) (by omega) with ⟨h1, h2⟩ | ⟨x, h1, h2⟩
    · rcases e : A i z with ⟨o, z1⟩
      have ho : o = none := by have := h2 z; rw [e] at this; exact this
      subst ho
      rw [itX_go (by omega) e, Nat.add_sub_cancel]
      rcases itX_scan B n (i + 1) z1 (fun j a b => h j (by omega) (by omega)) with ⟨g1, g2⟩ | ⟨k, x, g1, g2, g3, g4, g5⟩
      · refine Or.inl ⟨g1, fun j a b => ?_⟩
        rcases Nat.eq_or_lt_of_le a with d | d
        · rw [← d]; exact h1
        · exact g2 j d (by omega)
      · refine Or.inr ⟨k, x, by omega, by omega, g3, g4, fun j a b => ?_⟩
        rcases Nat.eq_or_lt_of_le a with d | d
        · rw [← d]; exact h1
        · exact g5 j d b
    · exact Or.inr ⟨i, x, Nat.le_refl _, by omega, h1, itX_no (by omega) (h2 z), fun j a b => by omega⟩
theorem breach_same {z : FS} {st sd sg gl fi ip se : Nat → Int32} {be : Nat → Int64} {w y : Nat} {nt wb : Int32} (A : RA z st sd be w y sg gl fi ip se nt wb) {fp ft : Int32} {n : Nat} {q : F2} (h : fbR sg gl fi ip se (nI w) y fp ft n q) :
    (n = 0 ∧ brV z.1 sd st be (nI w) z.2.1 z.2.2.1 z.2.2.2.2.1 = nI 0) ∨ (1 ≤ n ∧ n ≤ 3 ∧ ∃ p t, p < 1600 ∧ 1 ≤ t ∧ t ≤ 60 ∧ q = (nI p, nI t) ∧ brV z.1 sd st be (nI w) z.2.1 z.2.2.1 z.2.2.2.2.1 = brC p t n) := by
  have hy := A.T.yN
  have wallN : ∀ j, j < 1764 → onW j → brA z.1 sd st be (nI w) j = none := by
    intro j hj hw
    unfold brA
    rw [A.F.C.wal j hj hw, if_pos (by decide +kernel)]
  have hex : ∃ B : Nat → Option (Nat × F2), ∀ p, p < 1600 → (B p = none ∧ brA z.1 sd st be (nI w) (pm p) = none ∧ ∀ z, (mbP sg gl fi ip se (nI w) y p z).1 = none) ∨ (∃ n t, 1 ≤ n ∧ n ≤ 2 ∧ 1 ≤ t ∧ t ≤ 60 ∧ B p = some (n, (nI p, nI t)) ∧ brA z.1 sd st be (nI w) (pm p) = some (brC p t n) ∧ ∀ z, mbP sg gl fi ip se (nI w) y p z = (some n, (nI p, nI t))) := by
    refine ⟨fun p => match (mbP sg gl fi ip se (nI w) y p (0, 0)) with | (some n, x) => some (n, x) | (none, _) => none, fun p hp => ?_⟩
    rcases br_at A.F.C A.T A.w1 A.w3 hp with ⟨h1, h2⟩ | ⟨n, t, h1, h2, h3, h4, h5, h6⟩
    · refine Or.inl ⟨?_, h1, h2⟩
      have := h2 (0, 0)
      rcases e : mbP sg gl fi ip se (nI w) y p (0, 0) with ⟨o, x⟩
      rw [e] at this
      cases o with
      | none => simp only [e]
      | some _ => cases this
    · refine Or.inr ⟨n, t, h1, h2, h3, h4, ?_, h5, h6⟩
      simp only [h6 (0, 0)]
  obtain ⟨B, hB⟩ := hex
  have sc := itX_scan (A := mbP sg gl fi ip se (nI w) y) B 1600 0 (fp, ft) (fun p _ hp => by
    rcases hB p (by omega) with ⟨h1, h2, h3⟩ | ⟨n, t, h1, h2, h3, h4, h5, h6, h7⟩
    · exact Or.inl ⟨h1, h3⟩
    · exact Or.inr ⟨_, h5, h7⟩)
  have low : ∀ k, k ≤ 1600 → (∀ j, j < k → B j = none) → ∀ i, i < 1764 → (∀ p, p < 1600 → i = pm p → p < k) → brA z.1 sd st be (nI w) i = none := by
    intro k hk hb i hi hpm
    by_cases ww : onW i
    · exact wallN i hi ww
    · obtain ⟨p, hp, rfl⟩ := pm_of hi ww
      rcases hB p hp with ⟨h1, h2, h3⟩ | ⟨n, t, h1, h2, h3, h4, h5, h6, h7⟩
      · exact h2
      · rw [hb p (hpm p hp rfl)] at h5
        cases h5
  have hV : mbV sg gl fi ip se (nI w) y fp ft = itX (mbP sg gl fi ip se (nI w) y) 1600 0 (fp, ft) := rfl
  unfold fbR at h
  rw [hV] at h
  rcases sc with ⟨s1, s2⟩ | ⟨k, x, s1, s2, s3, s4, s5⟩
  · have hN : brF (brA z.1 sd st be (nI w)) 1764 0 = none := brF_none 1764 0 (fun i _ hi => low 1600 (Nat.le_refl _) (fun j hj => s2 j (Nat.zero_le _) (by omega)) i (by omega) (fun p hp _ => hp))
    have hv : brV z.1 sd st be (nI w) z.2.1 z.2.2.1 z.2.2.2.2.1 = if z.2.2.2.2.1 ≤ 0 then nI 0 else brO (pnV z.2.1 z.2.2.1 (nI 0)) 3 := by
      unfold brV
      rw [hN]
    rcases h with h | ⟨q1, o, u, g1, g2, g3, g4⟩
    · rw [h] at s1; cases s1
    · rw [hv]
      by_cases c : (frA sg gl fi w y).length = 0
      · have f0 := fd_no (sg := sg) (gl := gl) (fi := fi) (te := nI w) (y := y) (k := 0) (fp := q1.1) (ft := q1.2) hy (Nat.le_of_eq c) (by decide)
        have c' : (frL sg gl fi (nI w) y 1600 0).length = 0 := c
        rw [← g2, c'] at f0
        have f0 : u.1 = 0 := f0.2
        rw [f0, if_pos rfl] at g3
        rw [if_pos ((np_pos A).mpr c)]
        exact Or.inl ⟨g3, rfl⟩
      · obtain ⟨p, t, a1, a2, a3, a4, a5, a6, a7⟩ := RA_pair A (Nat.pos_of_ne_zero c)
        have e1 := fd_at (fp := q1.1) (ft := q1.2) hy a1
        rw [← g2] at e1
        have e2 : u = (0 + 1, nI p, nI t) := congrArg Prod.snd e1
        have hpm := pm_in a3
        rw [e2, if_neg (show ¬ ((0 + 1, nI p, nI t) : FN).1 = 0 from Nat.succ_ne_zero 0)] at g3
        rw [if_neg (fun q => c ((np_pos A).mp q)), a2, or_2 (by omega) (by decide)]
        refine Or.inr ⟨by omega, by omega, p, t, a3, a4, by omega, by rw [g4, e2], ?_⟩
        rw [g3]
        rfl
  · rcases hB k (by omega) with ⟨h1, h2, h3⟩ | ⟨n', t, h1, h2, h3, h4, h5, h6, h7⟩
    · rw [h1] at s3; cases s3
    · have hx : x = (n', (nI k, nI t)) := by rw [h5] at s3; exact (Option.some.inj s3).symm
      have hpm := pm_in (show k < 1600 by omega)
      have hS : brF (brA z.1 sd st be (nI w)) 1764 0 = some (brC k t n') := brF_some h6 1764 0 (Nat.zero_le _) (by omega) (fun i _ hi => low k (by omega) (fun j hj => s5 j (Nat.zero_le _) hj) i (by omega) (fun p hp e => by
        rcases Nat.lt_or_ge p k with d | d
        · exact d
        · exfalso
          rw [e] at hi
          unfold pm at hi
          omega))
      have hv : brV z.1 sd st be (nI w) z.2.1 z.2.2.1 z.2.2.2.2.1 = brC k t n' := by
        unfold brV
        rw [hS]
      rw [hx] at s4
      rcases h with h | ⟨q1, o, u, g1, g2, g3, g4⟩
      · rw [s4] at h
        have e1 : n' = n := Option.some.inj (congrArg Prod.fst h)
        have e2 : (nI k, nI t) = q := congrArg Prod.snd h
        rw [← e1, ← e2, hv]
        exact Or.inr ⟨h1, by omega, k, t, by omega, h3, h4, rfl, rfl⟩
      · rw [s4] at g1
        cases g1
