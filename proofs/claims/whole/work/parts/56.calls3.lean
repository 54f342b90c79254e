theorem Rt_okSd {st sd sg gl : Nat → Int32} {be : Nat → Int64} {y : Nat} (T : Rt st sd be sg gl y) : okSd sd := by
  intro i hi
  rw [T.sd i hi]
  exact T.glN i hi
theorem Rt_okSt {st sd sg gl : Nat → Int32} {be : Nat → Int64} {y : Nat} (T : Rt st sd be sg gl y) : okSt st := by
  intro i hi
  rw [T.st i hi]
  exact T.sgN i hi
theorem Rc_ty0 {ce fi ip se : Nat → Int32} (C : Rc ce fi ip se) {q : Nat} (hq : q < 1764) : tyN (ce q) ≤ 60 ∧ (tyN (ce q) ≠ 0 → ∃ p, p < 1600 ∧ q = pm p ∧ fi p ≠ 0) := by
  by_cases w : onW q
  · rw [C.wal q hq w]
    exact ⟨by decide +kernel, fun h => absurd (by decide +kernel) h⟩
  · obtain ⟨p, hp, rfl⟩ := pm_of hq w
    rw [Rc_ty C hp]
    exact ⟨(C.fiN p hp).2, fun h => ⟨p, hp, rfl, fun z => h ((Rc_0 C hp).2.mp z)⟩⟩
theorem Rc_okCe {ce fi ip se : Nat → Int32} (C : Rc ce fi ip se) : okCe ce := fun i hi => ⟨(Rc_ty0 C hi).1, Rc_zero C i hi⟩
theorem Rc_okIn {ce fi ip se : Nat → Int32} (C : Rc ce fi ip se) : okIn ce := by
  intro i hi h
  obtain ⟨p, hp, rfl, -⟩ := (Rc_ty0 C hi).2 h
  have := pm_in hp
  exact ⟨this.1, this.2.1⟩
theorem Rc_okW {ce fi ip se : Nat → Int32} (C : Rc ce fi ip se) : okW ce := by
  intro i hi h
  obtain ⟨p, hp, rfl, -⟩ := (Rc_ty0 C hi).2 h
  have := pm_in hp
  exact ⟨this.2.2.1, this.2.2.2.1⟩
abbrev RA (z : FS) (st sd : Nat → Int32) (be : Nat → Int64) (w y : Nat) (sg gl fi ip se : Nat → Int32) (nt wb : Int32) : Prop := (Rt st sd be sg gl y) ∧ (Rf z st sd be w y fi ip se nt wb) ∧ (1 ≤ w) ∧ (w ≤ 3)
theorem RA.T {z : FS} {st sd : Nat → Int32} {be : Nat → Int64} {w y : Nat} {sg gl fi ip se : Nat → Int32} {nt wb : Int32} (h9 : RA z st sd be w y sg gl fi ip se nt wb) : Rt st sd be sg gl y := h9.1
theorem RA.F {z : FS} {st sd : Nat → Int32} {be : Nat → Int64} {w y : Nat} {sg gl fi ip se : Nat → Int32} {nt wb : Int32} (h9 : RA z st sd be w y sg gl fi ip se nt wb) : Rf z st sd be w y fi ip se nt wb := h9.2.1
theorem RA.w1 {z : FS} {st sd : Nat → Int32} {be : Nat → Int64} {w y : Nat} {sg gl fi ip se : Nat → Int32} {nt wb : Int32} (h9 : RA z st sd be w y sg gl fi ip se nt wb) : 1 ≤ w := h9.2.2.1
theorem RA.w3 {z : FS} {st sd : Nat → Int32} {be : Nat → Int64} {w y : Nat} {sg gl fi ip se : Nat → Int32} {nt wb : Int32} (h9 : RA z st sd be w y sg gl fi ip se nt wb) : w ≤ 3 := h9.2.2.2
abbrev frA (sg gl fi : Nat → Int32) (w y : Nat) : List (Nat × Nat) := frL sg gl fi (nI w) y 1600 0
theorem RA_np {z : FS} {st sd sg gl fi ip se : Nat → Int32} {be : Nat → Int64} {w y : Nat} {nt wb : Int32} (A : RA z st sd be w y sg gl fi ip se nt wb) : z.2.2.2.2.1 = nI (frA sg gl fi w y).length ∧ (frA sg gl fi w y).length ≤ 96000 := by
  have h := A.F.O.sm.2
  have h : z.2.2.2.2.1 = nI (allS z.2.1) := h
  have hl := frL_len sg gl fi (nI w) A.T.yN 1600 0
  rw [h, allS_al (wall_0 A.F.C A.F.O.op), fr_same A.F.C A.T A.w1 A.w3 A.F.O.op, List.length_map]
  exact ⟨rfl, hl⟩
theorem RA_pair {z : FS} {st sd sg gl fi ip se : Nat → Int32} {be : Nat → Int64} {w y : Nat} {nt wb : Int32} (A : RA z st sd be w y sg gl fi ip se nt wb) {i : Nat} (hi : i < (frA sg gl fi w y).length) :
    ∃ p t, (frA sg gl fi w y)[i]? = some (p, t) ∧ pnV z.2.1 z.2.2.1 (nI i) = nI (pm p * 64 + t) ∧ p < 1600 ∧ 1 ≤ t ∧ t ≤ y ∧ fi p = 0 ∧ RA (fsJoin sd st be (nI w) (pm p) t z) st sd be w y sg gl (upd fi p (nI t)) (puI sg gl fi ip p t 4) (upd se p (nI 0)) (nt + nI 1) (nI 1) := by
  have h := List.getElem?_eq_getElem hi
  generalize (frA sg gl fi w y)[i] = x at h
  obtain ⟨a, b, c, d, e⟩ := pn_at A.F.C A.T A.w1 A.w3 A.F.O h
  have hf : fi x.1 = 0 := by
    unfold myN at e
    by_cases q : fi x.1 = 0
    · exact q
    · rw [if_neg q] at e
      exact absurd rfl e
  exact ⟨x.1, x.2, h, a, b, c, d, hf, A.T, Rf_join A.F A.T b hf c d, A.w1, A.w3⟩
theorem fd_at {sg gl fi : Nat → Int32} {te : Int32} {y i : Nat} {fp ft : Int32} {p t : Nat} (hy : y ≤ 60) (h : (frL sg gl fi te y 1600 0)[i]? = some (p, t)) : fdV sg gl fi te (nI i) y fp ft = (some (i + 1), (i + 1, nI p, nI t)) := by
  have hl := frL_len sg gl fi te hy 1600 0
  have hi : i < (frL sg gl fi te y 1600 0).length := by
    rcases Nat.lt_or_ge i (frL sg gl fi te y 1600 0).length with d | d
    · exact d
    · rw [List.getElem?_eq_none d] at h
      cases h
  have := scN_at (frL sg gl fi te y 1600 0) (0, fp, ft) i (p, t) h (show 0 + i + 1 < 2 ^ 31 by omega)
  rw [show ((0, fp, ft) : FN).1 + i = i from Nat.zero_add i] at this
  rw [fdV_sc, this]
theorem fd_no {sg gl fi : Nat → Int32} {te : Int32} {y k : Nat} {fp ft : Int32} (hy : y ≤ 60) (h : (frL sg gl fi te y 1600 0).length ≤ k) (hk : k + 1 < 2 ^ 31) : (fdV sg gl fi te (nI k) y fp ft).1 = none ∧ (fdV sg gl fi te (nI k) y fp ft).2.1 = (frL sg gl fi te y 1600 0).length := by
  have := scN_no (frL sg gl fi te y 1600 0) (0, fp, ft) k (show 0 + _ ≤ k by omega) hk
  rw [fdV_sc]
  exact ⟨this.1, by rw [this.2]; exact Nat.zero_add _⟩
def GA (st sd : Nat → Int32) (be : Nat → Int64) (w y : Nat) (sg gl : Nat → Int32) (z : FS) : Prop := ∃ fi ip se nt wb, RA z st sd be w y sg gl fi ip se nt wb
theorem okG_GA (st sd : Nat → Int32) (be : Nat → Int64) (w y : Nat) (sg gl : Nat → Int32) : okG sd st be (nI w) (GA st sd be w y sg gl) := by
  refine ⟨fun z ⟨fi, ip, se, nt, wb, A⟩ => Rc_okCe A.F.C, fun z i ⟨fi, ip, se, nt, wb, A⟩ h1 h2 => ?_⟩
  obtain ⟨n1, n2⟩ := RA_np A
  obtain ⟨k, hk, rfl⟩ := nI_of h1
  rw [n1, nI_ltI hk (by omega)] at h2
  obtain ⟨p, t, -, g2, g3, g4, g5, g6, g7⟩ := RA_pair A h2
  have hpm := pm_in g3
  have hy := A.T.yN
  exact ⟨pm p, t, g2, hpm.1, hpm.2.1, hpm.2.2.1, by omega, _, _, _, _, _, g7⟩
theorem okF_RA {z : FS} {st sd sg gl fi ip se : Nat → Int32} {be : Nat → Int64} {w y : Nat} {nt wb : Int32} (A : RA z st sd be w y sg gl fi ip se nt wb) : okF z.2.1 z.2.2.1 z.2.2.2.2.1 := by
  intro i h1 h2
  obtain ⟨p, t, a, b, c, d, e, -⟩ := (okG_GA st sd be w y sg gl).2 z i ⟨_, _, _, _, _, A⟩ h1 h2
  exact ⟨p, t, a, b, c, d, e⟩
def RZ (z : FS) (st sd : Nat → Int32) (be : Nat → Int64) (w y : Nat) (sg gl : Nat → Int32) (m : MZ) : Prop := RA z st sd be w y sg gl m.1 m.2.1 m.2.2.1 m.2.2.2.1 m.2.2.2.2.1
theorem RZ_F {z : FS} {st sd sg gl : Nat → Int32} {be : Nat → Int64} {w y : Nat} {m : MZ} {x : Int32} (h : RZ z st sd be w y sg gl m) : RZ z st sd be w y sg gl (mzF sg gl (nI w) x y m) := h
theorem mzN_0 {sg gl : Nat → Int32} {w y : Nat} {m : MZ} (hy : y ≤ 60) : mzN sg gl (nI w) (nI 0) y m ≠ 0 ↔ (frA sg gl m.1 w y).length ≠ 0 := by
  unfold mzN
  constructor
  · intro h q
    have := (fd_no (sg := sg) (gl := gl) (fi := m.1) (te := nI w) (y := y) (k := 0) (fp := m.2.2.2.2.2.1) (ft := m.2.2.2.2.2.2) hy (Nat.le_of_eq q) (by decide)).2
    rw [this] at h
    exact h q
  · intro h
    exact fdV_nz h
theorem RZ_step {z : FS} {st sd sg gl : Nat → Int32} {be : Nat → Int64} {w y i : Nat} {m : MZ} (h : RZ z st sd be w y sg gl m) (hi : i < (frA sg gl m.1 w y).length) : RZ (gstep sd st be (nI w) (nI i) z) st sd be w y sg gl (mzP sg gl (mzF sg gl (nI w) (nI i) y m)) ∧ cT (mzP sg gl (mzF sg gl (nI w) (nI i) y m)).1 0 = cT m.1 0 + 1 := by
  obtain ⟨p, t, g1, g2, g3, g4, g5, g6, g7⟩ := RA_pair h hi
  have hy := h.T.yN
  have hpm := pm_in g3
  have e1 := fd_at (fp := m.2.2.2.2.2.1) (ft := m.2.2.2.2.2.2) hy g1
  have e2 : mzF sg gl (nI w) (nI i) y m = (m.1, m.2.1, m.2.2.1, m.2.2.2.1, m.2.2.2.2.1, nI p, nI t) := by
    unfold mzF
    rw [e1]
  have e3 := mzP_eq (sg := sg) (gl := gl) (z := mzF sg gl (nI w) (nI i) y m) (p := p) (t := t) g3 (by omega) (by rw [e2]) (by rw [e2])
  rw [e3, e2, gstep_eq g2 (by omega) (by omega)]
  refine ⟨g7, ?_⟩
  have c := cT_upd (fi := m.1) (p := p) (v := nI t) g3 0
  have h00 : nn (m.1 p) = 0 := ((Rc_0 h.F.C g3).2).mp g6
  rw [if_neg (fun q => q.1 h00), if_pos ⟨by rw [nn_nI (by omega)]; omega, Or.inl rfl⟩, Nat.add_zero] at c
  show cT (upd m.1 p (nI t)) 0 = cT m.1 0 + 1
  exact c
theorem grow_RZ {z : FS} {st sd sg gl : Nat → Int32} {be : Nat → Int64} {w y : Nat} {m : MZ} (h : RZ z st sd be w y sg gl m) : ∀ d, (∀ j, j < d → (frA sg gl (mgL sg gl (nI w) y m j).1 w y).length ≠ 0) → RZ (gwL sd st be (nI w) z d) st sd be w y sg gl (mgL sg gl (nI w) y m d) ∧ cT (mgL sg gl (nI w) y m d).1 0 = cT m.1 0 + d
  | 0, _ => by
    have e : mgL sg gl (nI w) y m 0 = m := rfl
    rw [e]
    exact ⟨h, (Nat.add_zero _).symm⟩
  | d + 1, hd => by
    obtain ⟨a, b⟩ := grow_RZ h d (fun j hj => hd j (by omega))
    have this := RZ_step (i := 0) a (Nat.pos_of_ne_zero (hd d (by omega)))
    rw [gwL, mgL]
    exact ⟨this.1, this.2.trans ((congrArg (· + 1) b).trans (Nat.add_assoc _ _ _))⟩
theorem np_pos {z : FS} {st sd sg gl fi ip se : Nat → Int32} {be : Nat → Int64} {w y : Nat} {nt wb : Int32} (A : RA z st sd be w y sg gl fi ip se nt wb) : z.2.2.2.2.1 ≤ 0 ↔ (frA sg gl fi w y).length = 0 := by
  obtain ⟨n1, n2⟩ := RA_np A
  rw [n1, jn_le0 (by omega)]
theorem grow_same {z : FS} {st sd sg gl : Nat → Int32} {be : Nat → Int64} {w y n d d' : Nat} {m u : MZ} {v : FS} (h : RZ z st sd be w y sg gl m)
    (c1 : d ≤ min n 1764) (c2 : v = gwL sd st be (nI w) z d) (c3 : ∀ j, j < d → ¬ (gwL sd st be (nI w) z j).2.2.2.2.1 ≤ 0) (c4 : d = min n 1764 ∨ v.2.2.2.2.1 ≤ 0)
    (r1 : d' ≤ n) (r2 : (d' = n ∧ u = mgL sg gl (nI w) y m d') ∨ (d' < n ∧ mzN sg gl (nI w) (nI 0) y (mgL sg gl (nI w) y m d') = 0 ∧ u = mzF sg gl (nI w) (nI 0) y (mgL sg gl (nI w) y m d'))) (r3 : ∀ j, j < d' → mzN sg gl (nI w) (nI 0) y (mgL sg gl (nI w) y m j) ≠ 0) :
    d = d' ∧ RZ v st sd be w y sg gl u := by
  have hy := h.T.yN
  have hne : ∀ j, j < d' → (frA sg gl (mgL sg gl (nI w) y m j).1 w y).length ≠ 0 := fun j hj => (mzN_0 hy).mp (r3 j hj)
  have e : d = d' := by
    rcases Nat.lt_trichotomy d d' with q | q | q
    · exfalso
      have a := grow_RZ h d (fun j hj => hne j (by omega))
      have b := hne d q
      rcases c4 with c | c
      · have := cT_le (mgL sg gl (nI w) y m d).1 0
        rw [a.2] at this
        have : d = 1764 := by
          rcases Nat.le_total n 1764 with z | z
          · rw [Nat.min_eq_left z] at c; omega
          · rw [Nat.min_eq_right z] at c; exact c
        omega
      · rw [c2, np_pos a.1] at c
        exact b c
    · exact q
    · exfalso
      have a := grow_RZ h d' hne
      have b := c3 d' q
      rw [np_pos a.1] at b
      rcases r2 with c | c
      · have := Nat.min_le_left n 1764
        omega
      · exact (mzN_0 hy).mpr b c.2.1
  subst e
  have a := grow_RZ h d hne
  refine ⟨rfl, ?_⟩
  rw [c2]
  rcases r2 with c | c
  · rw [c.2]; exact a.1
  · rw [c.2.2]; exact RZ_F a.1
theorem dwI_nat {x : Int32} {n : Nat} (h0 : n ≠ 0) (hn : n < 2 ^ 31) : ∃ i, i < n ∧ dwI x (nI n) = nI i := by
  obtain ⟨a, b⟩ := dwI_in x (np := nI n) (fun q => h0 ((jn_le0 hn).mp q))
  obtain ⟨k, hk, e⟩ := nI_of a
  rw [e, nI_ltI hk hn] at b
  exact ⟨k, b, e⟩
theorem mzN_m1 {sg gl : Nat → Int32} {w y : Nat} {m : MZ} (hy : y ≤ 60) : mzN sg gl (nI w) (-1) y m = (frA sg gl m.1 w y).length := fdV_m1 sg gl m.1 (nI w) hy _ _
theorem mdL_at {sg gl : Nat → Int32} {w y : Nat} {m : MZ} {x : Int32} (hy : y ≤ 60) : ∀ d, (mdL sg gl (nI w) y m x d).2.2 = (frA sg gl (mdL sg gl (nI w) y m x d).1.1 w y).length
  | 0 => mzN_m1 hy
  | d + 1 => mzN_m1 hy
theorem drawn_step {z : FS} {st sd sg gl : Nat → Int32} {be : Nat → Int64} {w y : Nat} {q : MZ × Int32 × Nat} (a : RZ z st sd be w y sg gl q.1) (hl : q.2.2 = (frA sg gl q.1.1 w y).length) (h0 : q.2.2 ≠ 0) :
    RZ (gstep sd st be (nI w) (dwI (dwN q.2.1) z.2.2.2.2.1) z) st sd be w y sg gl (mdS sg gl (nI w) y q).1 ∧ (mdS sg gl (nI w) y q).2.1 = dwN q.2.1 ∧ cT (mdS sg gl (nI w) y q).1.1 0 = cT q.1.1 0 + 1 := by
  obtain ⟨n1, n2⟩ := RA_np a
  obtain ⟨i, hi, he⟩ := dwI_nat (x := dwN q.2.1) (n := q.2.2) h0 (Nat.lt_of_le_of_lt (by rw [hl]; exact n2) (by decide))
  have st1 := RZ_step (i := i) a (by rw [← hl]; exact hi)
  unfold mdS
  rw [n1, ← hl, he]
  have e3 : ∀ (v : Int32) (q : MZ), (mzF sg gl (nI w) v y q).1 = q.1 := fun _ _ => rfl
  refine ⟨RZ_F st1.1, rfl, ?_⟩
  dsimp only
  rw [e3 (-1)]
  exact st1.2
theorem drawn_RZ {z : FS} {st sd sg gl : Nat → Int32} {be : Nat → Int64} {w y : Nat} {m : MZ} {x : Int32} (h : RZ z st sd be w y sg gl m) : ∀ d, (∀ j, j < d → (mdL sg gl (nI w) y m x j).2.2 ≠ 0) → RZ (dwL sd st be (nI w) z x d).1 st sd be w y sg gl (mdL sg gl (nI w) y m x d).1 ∧ (dwL sd st be (nI w) z x d).2 = (mdL sg gl (nI w) y m x d).2.1 ∧ cT (mdL sg gl (nI w) y m x d).1.1 0 = cT m.1 0 + d := by
  intro d
  induction d with
  | zero =>
    intro _
    have e : (mdL sg gl (nI w) y m x 0).1.1 = m.1 := rfl
    rw [e]
    exact ⟨h, rfl, (Nat.add_zero _).symm⟩
  | succ d ih =>
    intro hd
    have h0 := hd d (Nat.lt_succ_self d)
    have hl := mdL_at (sg := sg) (gl := gl) (w := w) (y := y) (m := m) (x := x) h.T.yN d
    obtain ⟨a, b, c⟩ := ih (fun j hj => hd j (Nat.lt_succ_of_lt hj))
    rw [dwL, mdL, b]
    generalize mdL sg gl (nI w) y m x d = q at a b c h0 hl ⊢
    have s := drawn_step a hl h0
    exact ⟨s.1, s.2.1.symm, s.2.2.trans ((congrArg (· + 1) c).trans (Nat.add_assoc _ _ _))⟩
theorem drawn_same {z : FS} {st sd sg gl : Nat → Int32} {be : Nat → Int64} {w y n d d' : Nat} {m u : MZ} {v : FS} {x : Int32} (h : RZ z st sd be w y sg gl m)
    (c1 : d ≤ min n 1764) (c2 : v = (dwL sd st be (nI w) z x d).1) (c3 : ∀ j, j < d → ¬ (dwL sd st be (nI w) z x j).1.2.2.2.2.1 ≤ 0) (c4 : d = min n 1764 ∨ v.2.2.2.2.1 ≤ 0)
    (r1 : d' ≤ n) (r2 : u = (mdL sg gl (nI w) y m x d').1) (r3 : ∀ j, j < d' → (mdL sg gl (nI w) y m x j).2.2 ≠ 0) (r4 : d' = n ∨ (mdL sg gl (nI w) y m x d').2.2 = 0) :
    d = d' ∧ RZ v st sd be w y sg gl u := by
  have hy := h.T.yN
  have e : d = d' := by
    rcases Nat.lt_trichotomy d d' with q | q | q
    · exfalso
      have a := drawn_RZ h d (fun j hj => r3 j (by omega))
      have b := r3 d q
      rw [mdL_at hy] at b
      rcases c4 with c | c
      · have := cT_le (mdL sg gl (nI w) y m x d).1.1 0
        rw [a.2.2] at this
        have : d = 1764 := by
          rcases Nat.le_total n 1764 with z | z
          · rw [Nat.min_eq_left z] at c; omega
          · rw [Nat.min_eq_right z] at c; exact c
        omega
      · rw [c2, np_pos a.1] at c
        exact b c
    · exact q
    · exfalso
      have a := drawn_RZ h d' r3
      have b := c3 d' q
      rw [np_pos a.1] at b
      rcases r4 with c | c
      · have := Nat.min_le_left n 1764
        omega
      · rw [mdL_at hy] at c
        exact b c
  subst e
  have a := drawn_RZ h d r3
  exact ⟨rfl, by rw [c2, r2]; exact a.1⟩
