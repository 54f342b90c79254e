theorem Rt_glue {st sd sg gl : Nat → Int32} {be : Nat → Int64} {y g s : Nat} (T : Rt st sd be sg gl y) (h1 : 1 ≤ g) (hs : s ≤ 2) : Rt (upd st g (nI s)) sd be (upd sg g (nI s)) gl y := by
  refine ⟨fun i hi => ?_, T.sd, fun i hi => ?_, ?_, T.glN, T.gl0, T.yN, T.be⟩
  · by_cases e : i = g
    · rw [e, pk_us, pk_us]
    · rw [pk_un e, pk_un e, T.st i hi]
  · by_cases e : i = g
    · rw [e, pk_us, nn_nI (by omega)]; exact ⟨rfl, hs⟩
    · rw [pk_un e]; exact T.sgN i hi
  · rw [pk_un (by omega)]; exact T.sg0
theorem ag_at {gl : Nat → Int32} {t : Nat} {f : Nat → Int32} {i : Nat} : agS gl t (f 0) (f 1) (f 2) (f 3) i = if i / 4 = t then f (i % 4) else gl i := by
  unfold agS
  by_cases e : i / 4 = t
  · rw [if_pos e]
    rcases (show i % 4 = 0 ∨ i % 4 = 1 ∨ i % 4 = 2 ∨ i % 4 = 3 by omega) with q | q | q | q
    · rw [pk_un (by omega), pk_un (by omega), pk_un (by omega), show i = 4 * t by omega, pk_us, Nat.mul_mod_right]
    · rw [pk_un (by omega), pk_un (by omega), show i = 4 * t + 1 by omega, pk_us, show (4 * t + 1) % 4 = 1 by omega]
    · rw [pk_un (by omega), show i = 4 * t + 2 by omega, pk_us, show (4 * t + 2) % 4 = 2 by omega]
    · rw [show i = 4 * t + 3 by omega, pk_us, show (4 * t + 3) % 4 = 3 by omega]
  · rw [if_neg e, pk_un (by omega), pk_un (by omega), pk_un (by omega), pk_un (by omega)]
def q4 (a b c d : Nat) : Nat → Nat := fun k => match k with | 0 => a | 1 => b | 2 => c | _ => d
theorem ad_ag (sd : Nat → Int32) (t a b c d : Nat) : adS sd t a b c d = agS sd t (nI a) (nI b) (nI c) (nI d) := by
  unfold adS agS
  rw [show t * 4 + 0 = 4 * t by omega, show t * 4 + 1 = 4 * t + 1 by omega, show t * 4 + 2 = 4 * t + 2 by omega, show t * 4 + 3 = 4 * t + 3 by omega]
theorem ag_q {gl : Nat → Int32} {t a b c d i : Nat} : agS gl t (nI a) (nI b) (nI c) (nI d) i = if i / 4 = t then nI (q4 a b c d (i % 4)) else gl i :=
  ag_at (f := fun k => nI (q4 a b c d k))
theorem tb_ps {be : Nat → Int64} {u k0 g0 g k t : Nat} (hu1 : 1 ≤ u) (hu : u ≤ 60) (hk0 : k0 < 4) (hk : k < 4) (ht : 1 ≤ t) : tb (psB be u k0 g0 (g * 4 + k)) t = true ↔ tb (be (g * 4 + k)) t = true ∨ (g = g0 ∧ k = k0 ∧ t = u) := by
  unfold psB
  by_cases e : g * 4 + k = g0 * 4 + k0
  · rw [e, pk_uLs, tb_or, tb_only hu1 hu ht, Bool.or_eq_true, decide_eq_true_eq]
    exact ⟨fun h => h.imp id (fun z => ⟨by omega, by omega, z⟩), fun h => h.imp id (fun z => z.2.2)⟩
  · rw [pk_uLn e]
    exact ⟨Or.inl, fun h => h.elim id (fun z => absurd (by rw [z.1, z.2.1]) e)⟩
theorem Rt_tile {st sd sg gl : Nat → Int32} {be : Nat → Int64} {y a b c d : Nat} (T : Rt st sd be sg gl y) (hy : y < 60) (ha : a < 100) (hb : b < 100) (hc : c < 100) (hd : d < 100) :
    Rt st (adS sd (y + 1) a b c d) (adB be (y + 1) a b c d) sg (agS gl (y + 1) (nI a) (nI b) (nI c) (nI d)) (y + 1) := by
  have hq : ∀ k, q4 a b c d k < 100 := fun k => by unfold q4; split <;> assumption
  refine ⟨T.st, fun i hi => ?_, T.sgN, T.sg0, fun i hi => ?_, fun k hk => ?_, by omega, fun g k t hg hk ht ht2 => ?_⟩
  · rw [ad_ag, ag_q, ag_q, T.sd i hi]
  · rw [ag_q]
    split
    · rw [nn_nI (by have := hq (i % 4); omega)]
      exact ⟨rfl, hq _⟩
    · exact T.glN i hi
  · rw [ag_q, if_neg (by omega)]
    exact T.gl0 k hk
  · unfold adB
    rw [tb_ps (by omega) (by omega) (by omega) hk ht, tb_ps (by omega) (by omega) (by omega) hk ht, tb_ps (by omega) (by omega) (by omega) hk ht, tb_ps (by omega) (by omega) (by omega) hk ht, T.be g k t hg hk ht ht2, ag_q]
    rw [show (4 * t + k) / 4 = t by omega, show (4 * t + k) % 4 = k by omega]
    by_cases e : t = y + 1
    · rw [if_pos e, nn_nI (by have := hq k; omega)]
      rcases (show k = 0 ∨ k = 1 ∨ k = 2 ∨ k = 3 by omega) with rfl | rfl | rfl | rfl
      · show _ ↔ t ≤ y + 1 ∧ a = g
        omega
      · show _ ↔ t ≤ y + 1 ∧ b = g
        omega
      · show _ ↔ t ≤ y + 1 ∧ c = g
        omega
      · show _ ↔ t ≤ y + 1 ∧ d = g
        omega
    · rw [if_neg e]
      constructor
      · intro h
        rcases h with (((h | h) | h) | h) | h
        · exact ⟨by omega, h.2⟩
        · exact absurd h.2.2 e
        · exact absurd h.2.2 e
        · exact absurd h.2.2 e
        · exact absurd h.2.2 e
      · intro h
        exact Or.inl (Or.inl (Or.inl (Or.inl ⟨by omega, h.2⟩)))
theorem Rt_new {st sd sg gl st' sg' : Nat → Int32} {be : Nat → Int64} {y : Nat} (T : Rt st sd be sg gl y) (h1 : ∀ i, i < 100 → st' i = sg' i) (h2 : ∀ i, i < 100 → sg' i = nI (nn (sg' i)) ∧ nn (sg' i) ≤ 2) (h3 : sg' 0 = nI 0) : Rt st' sd (flJ be 0 400) sg' gl 0 := by
  refine ⟨h1, T.sd, h2, h3, T.glN, T.gl0, by omega, fun g k t hg hk ht ht2 => ?_⟩
  rw [show flJ be 0 400 (g * 4 + k) = 0 from if_pos (by omega), tb_0]
  exact ⟨fun q => (by cases q), fun q => absurd q.1 (by omega)⟩
theorem Rt_reset {st sd sg gl : Nat → Int32} {be : Nat → Int64} {y : Nat} (T : Rt st sd be sg gl y) (hst : ∀ i, i < 100 → rsF (flI st (nI 0) 100) 1 i = nI 0) : Rt (rsF (flI st (nI 0) 100) 1) sd (flJ be 0 400) (flI sg (nI 0) 100) gl 0 := by
  have e : ∀ i, i < 100 → flI sg (nI 0) 100 i = nI 0 := fun i hi => if_pos hi
  refine Rt_new T (fun i hi => by rw [hst i hi, e i hi]) (fun i hi => ?_) (e 0 (by decide))
  rw [e i hi, nn_nI (by decide)]
  exact ⟨rfl, by decide⟩
theorem bg_bm {st sg : Nat → Int32} : (∀ i, i < 100 → bgS st i = bmL sg 100 i) ∧ (∀ i, i < 100 → bmL sg 100 i = nI (nn (bmL sg 100 i)) ∧ nn (bmL sg 100 i) ≤ 2) ∧ bmL sg 100 0 = nI 0 := by
  have e : ∀ i, i < 100 → bmL sg 100 i = if 1 ≤ i ∧ i < 5 then nI 1 else nI 0 := by
    intro i hi
    have h : ∀ i, i < 100 → (if wiN (nI i) (nI 1) (nI 4) = 0 then nI 0 else nI 1) = (if 1 ≤ i ∧ i < 5 then nI 1 else nI 0) := by decide +kernel
    unfold bmL
    rw [if_pos hi, h i hi]
  refine ⟨fun i hi => ?_, fun i hi => ?_, ?_⟩
  · rw [e i hi]
    unfold bgS rsF
    by_cases c : 1 ≤ i ∧ i < 5
    · rw [if_pos c, if_pos c]
    · rw [if_neg c, if_neg c]
      exact if_pos hi
  · rw [e i hi]
    split
    · rw [nn_nI (by decide)]; exact ⟨rfl, by decide⟩
    · rw [nn_nI (by decide)]; exact ⟨rfl, by decide⟩
  · rw [e 0 (by decide)]
    rfl
theorem Rt_counter {st sd sg gl : Nat → Int32} {be : Nat → Int64} {y : Nat} (T : Rt st sd be sg gl y) : Rt (bgS st) (ctSd sd) (ctBe be) (bmL sg 100) (ctG gl) 7 := by
  have b := bg_bm (st := st) (sg := sg)
  have T0 := Rt_new T b.1 b.2.1 b.2.2
  unfold ctSd ctBe ctG bgG
  exact Rt_tile (Rt_tile (Rt_tile (Rt_tile (Rt_tile (Rt_tile (Rt_tile T0 (by decide) (by decide) (by decide) (by decide) (by decide)) (by decide) (by decide) (by decide) (by decide) (by decide)) (by decide) (by decide) (by decide) (by decide) (by decide)) (by decide) (by decide) (by decide) (by decide) (by decide)) (by decide) (by decide) (by decide) (by decide) (by decide)) (by decide) (by decide) (by decide) (by decide) (by decide)) (by decide) (by decide) (by decide) (by decide) (by decide)
theorem Rt_rule {st sd sg gl : Nat → Int32} {be : Nat → Int64} {y : Nat} (r : Int32) (T : Rt st sd be sg gl y) : Rt (bgS st) (ruSd sd r) (ruBe be r) (bmL sg 100) (ruG gl r) 7 := by
  have b := bg_bm (st := st) (sg := sg)
  have T0 := Rt_new T b.1 b.2.1 b.2.2
  have h0 := btN_lt r 0
  have h1 := btN_lt r 1
  have h2 := btN_lt r 2
  have h3 := btN_lt r 3
  unfold ruSd ruBe ruG bgG
  exact Rt_tile (Rt_tile (Rt_tile (Rt_tile (Rt_tile (Rt_tile (Rt_tile T0 (by decide) (by decide) (by decide) (by decide) (by decide)) (by decide) (by decide) (by decide) (by decide) (by decide)) (by decide) (by decide) (by decide) (by decide) (by decide)) (by decide) (by omega) (by decide) (by decide) (by decide)) (by decide) (by omega) (by decide) (by decide) (by decide)) (by decide) (by omega) (by decide) (by decide) (by decide)) (by decide) (by omega) (by decide) (by decide) (by decide)
theorem raN_empty {ce fi ip se st sd : Nat → Int32} {be : Nat → Int64} {wa : Int32} (C : Rc ce fi ip se) (h : ∀ p, p < 1600 → fi p = 0) {q : Nat} (hq : q < 1764) : raN ce sd st be wa q = 0 := by
  unfold raN
  by_cases e : ce q = 0
  · rw [if_pos e]
    have hb := Rc_zero C q hq e
    have hz : ∀ u, u < 1764 → tyN (ce u) = 0 := by
      intro u hu
      by_cases w : onW u
      · rw [C.wal u hu w]; decide +kernel
      · obtain ⟨p, hp, rfl⟩ := pm_of hu w
        rw [Rc_ty C hp, h p hp]
        decide
    have hL : ∀ k, fitL ce sd st be q (nI 15) k = (0, 0, 0) := by
      intro k
      induction k with
      | zero => rfl
      | succ k ih =>
        rw [fitL, ih]
        unfold fitS
        rw [if_pos (Or.inl (hz _ (nb_lt hb.1 hb.2 k)))]
    unfold fitV fitO
    rw [hL 4]
    split
    · rfl
    · split <;> rfl
  · rw [if_neg e]
theorem Rf_empty {z : FS} {st sd fi ip se st' sd' : Nat → Int32} {be be' : Nat → Int64} {w y w' y' : Nat} {nt wb : Int32} (F : Rf z st sd be w y fi ip se nt wb) (h : ∀ p, p < 1600 → fi p = 0) : Rf z st' sd' be' w' y' fi ip se nt wb := by
  refine ⟨F.C, ⟨fun q hq => ?_, F.O.sm⟩, fun p hp => ?_, F.tl, F.ns, F.nt, F.aw, F.wb⟩
  · rw [raN_empty F.C h hq, F.O.op q hq, raN_empty F.C h hq]
  · rw [h p hp]
    exact Nat.zero_le _
theorem cT_0 {fi : Nat → Int32} (hfi : okFi fi) (h : cT fi 0 = 0) : ∀ p, p < 1600 → fi p = 0 := by
  intro p hp
  have c := cT_upd (fi := fi) (p := p) (v := nI 0) hp 0
  have n0 : nn (nI 0) = 0 := nn_nI (by decide)
  rw [if_neg (fun q : nn (nI 0) ≠ 0 ∧ _ => q.1 n0)] at c
  by_cases e : nn (fi p) = 0
  · rw [(hfi p hp).1, e]; rfl
  · rw [if_pos ⟨e, Or.inl rfl⟩] at c
    omega
theorem smN_0 {f : Nat → Nat} : ∀ {n : Nat}, (∀ i, i < n → f i = 0) → smN f n = 0
  | 0, _ => rfl
  | n + 1, h => by rw [smN, smN_0 (fun i hi => h i (by omega)), h n (by omega)]
theorem and_2048 (x : Int32) : tyN (x &&& nI 2048) = 0 := by
  unfold tyN
  rw [Int32.toBitVec_and, BitVec.toNat_and]
  have := Nat.and_mod_two_pow (a := x.toBitVec.toNat) (b := (nI 2048).toBitVec.toNat) (n := 6)
  rw [show (2 : Nat) ^ 6 = 64 from rfl] at this
  rw [this, show (nI 2048).toBitVec.toNat % 64 = 0 from by decide +kernel, Nat.and_zero]
theorem Rf_wipe {z : FS} {st sd fi ip se : Nat → Int32} {be : Nat → Int64} {w y : Nat} {nt wb : Int32} (F : Rf z st sd be w y fi ip se nt wb) : Rf (fsW z) st sd be w y (flI fi (nI 0) 1600) ip se (nI 0) (nI 0) := by
  have e0 : ∀ p, p < 1600 → flI fi (nI 0) 1600 p = nI 0 := fun p hp => if_pos hp
  have n0 : nn (nI 0) = 0 := nn_nI (by decide)
  have hC : Rc (wiC z.1 1764) (flI fi (nI 0) 1600) ip se := by
    refine ⟨fun p hp => ?_, fun q hq hw => ?_, fun p hp => ?_, fun p hp h => ?_, fun p hp h => ?_⟩
    · have hpm := pm_in hp
      rw [e0 p hp, show wiC z.1 1764 (pm p) = z.1 (pm p) &&& nI 2048 from if_pos (by omega), F.C.inn p hp]
      unfold clV
      rw [if_pos nI_0]
      split
      · decide +kernel
      · rename_i c
        have h1 := F.C.fiN p hp
        have h2 := F.C.ipN p hp c
        have h3 := F.C.seN p hp c
        apply Int32.toBitVec_inj.mp
        apply BitVec.eq_of_toNat_eq
        rw [Int32.toBitVec_and, BitVec.toNat_and, pk_tn (by omega), pk_tn (by decide)]
        apply Nat.eq_of_testBit_eq
        intro i
        rw [Nat.testBit_and, show (2048 : Nat).testBit i = decide (11 = i) from Nat.testBit_two_pow (n := 11)]
        show _ = Nat.testBit 0 i
        rw [Nat.zero_testBit]
        by_cases c : 11 = i
        · subst c
          rw [Nat.testBit_lt_two_pow (by omega), Bool.false_and]
        · rw [decide_eq_false c, Bool.and_false]
    · rw [show wiC z.1 1764 q = z.1 q &&& nI 2048 from if_pos hq, F.C.wal q hq hw]
      decide +kernel
    · rw [e0 p hp, n0]; exact ⟨rfl, by decide⟩
    · exact absurd (by rw [e0 p hp, nI_0]) h
    · exact absurd (by rw [e0 p hp, nI_0]) h
  have hz : ∀ q, q < 1764 → flJ z.2.1 0 1764 q = 0 := fun q hq => if_pos hq
  have hl0 : lenT 0 = 0 := by decide +kernel
  have hr : ∀ i, i < 42 → rowS (flJ z.2.1 0 1764) i = 0 := fun i hi => smN_0 (fun x hx => by rw [hz _ (by omega)]; exact hl0)
  refine ⟨hC, ⟨fun q hq => ?_, fun i hi => ?_, ?_⟩, fun p hp => ?_, fun t ht => ?_, ?_, ?_, rfl, Or.inl rfl⟩
  · show flJ z.2.1 0 1764 q = _
    rw [hz q hq]
    exact (raN_empty hC (fun p hp => by rw [e0 p hp, nI_0]) hq).symm
  · show flI z.2.2.1 (nI 0) 42 i = nI (rowS (flJ z.2.1 0 1764) i)
    rw [hr i hi]
    exact if_pos hi
  · show nI 0 = nI (allS (flJ z.2.1 0 1764))
    exact congrArg nI (smN_0 (fun i hi => hr i hi)).symm
  · rw [e0 p hp, n0]; exact Nat.zero_le _
  · show flI z.2.2.2.1 (nI 0) 61 t = nI (cT (flI fi (nI 0) 1600) t)
    rw [show cT (flI fi (nI 0) 1600) t = 0 from smN_0 (fun p hp => by rw [e0 p hp, n0]; rfl)]
    exact if_pos (by omega)
  · show nI 0 = nI (cS (flI fi (nI 0) 1600) se)
    exact congrArg nI (smN_0 (fun p hp => by rw [e0 p hp, n0]; rfl)).symm
  · exact congrArg nI (smN_0 (fun p hp => by rw [e0 p hp, n0]; rfl)).symm
