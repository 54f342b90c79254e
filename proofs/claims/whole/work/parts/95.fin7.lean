theorem GI_skip {sg gl fi : Nat → Int32} {g : GS} {p : Nat} (c : fi p = 0) (ih : GI sg gl fi g p) : GI sg gl fi g (p + 1) := by
  have hc : cnF fi (p + 1) = cnF fi p := by rw [cnF, if_pos c]; rfl
  refine ⟨by rw [hc]; exact ih.cn, fun x hx => ?_, fun q hq hfq k hk => ?_, fun j hj => ih.off j (by rw [← hc]; exact hj)⟩
  · rcases ih.nw x hx with ⟨n1, n2⟩ | ⟨q, q1, q2, q3, q4, q5⟩
    · refine Or.inl ⟨n1, fun q hq hqx => ?_⟩
      rcases Nat.lt_succ_iff_lt_or_eq.mp hq with d | d
      · exact n2 q d hqx
      · rw [d]; exact c
    · refine Or.inr ⟨q, by omega, q2, q3, q4, fun r h1 h2 h3 => ?_⟩
      rcases Nat.lt_succ_iff_lt_or_eq.mp h2 with d | d
      · exact q5 r h1 d h3
      · rw [d]; exact c
  · have hq : q < p := by
      rcases Nat.lt_succ_iff_lt_or_eq.mp hq with d | d
      · exact d
      · rw [d] at hfq; exact absurd c hfq
    have iff1 : seen fi (p + 1) q k ↔ seen fi p q k := by
      unfold seen
      constructor
      · rintro ⟨a, b, z⟩
        refine ⟨a, ?_, z⟩
        rcases Nat.lt_succ_iff_lt_or_eq.mp b with d | d
        · exact d
        · rw [d] at z; exact absurd c z
      · rintro ⟨a, b, z⟩
        exact ⟨a, by omega, z⟩
    rw [iff1]
    exact ih.on q hq hfq k hk
theorem GI_any {ce fi ip se st sd sg gl : Nat → Int32} {be : Nat → Int64} {y : Nat} (C : Rc ce fi ip se) (T : Rt st sd be sg gl y) {g0 : GS} (G0 : GI sg gl fi g0 0) : ∀ i, i ≤ 1764 → ∃ p, p ≤ 1600 ∧ GI sg gl fi (gaL ce sd st g0 i) p ∧ cnF fi p ≤ 120 ∧ (cnF fi p < 120 → p = lowP i)
  | 0, _ => ⟨0, by decide, G0, Nat.zero_le _, fun _ => by decide⟩
  | i + 1, h => by
    obtain ⟨p, p1, G, p2, p3⟩ := GI_any C T G0 i (by omega)
    rw [gaL]
    by_cases c : (gaL ce sd st g0 i).2.2.2 < 120
    · rw [if_pos c]
      rw [G.cn] at c
      have ep := p3 c
      by_cases w : onW i
      · have t0 : tyN (ce i) = 0 := by rw [C.wal i (by omega) w]; decide +kernel
        rw [if_pos t0]
        exact ⟨p, p1, G, p2, fun _ => by rw [lowP_w (by omega) w]; exact ep⟩
      · obtain ⟨q, hq, rfl⟩ := pm_of (by omega) w
        obtain ⟨l1, l2⟩ := lowP_in hq
        rw [l1] at ep
        subst ep
        by_cases c0 : fi p = 0
        · have t0 : tyN (ce (pm p)) = 0 := by rw [Rc_ty C hq]; exact (Rc_0 C hq).2.mp c0
          have e : cnF fi (p + 1) = cnF fi p := by rw [cnF, if_pos c0]; rfl
          rw [if_pos t0]
          exact ⟨p + 1, by omega, GI_skip c0 G, by rw [e]; exact p2, fun _ => l2.symm⟩
        · have t0 : ¬ tyN (ce (pm p)) = 0 := by rw [Rc_ty C hq]; exact fun z => c0 ((Rc_0 C hq).2.mpr z)
          have e : cnF fi (p + 1) = cnF fi p + 1 := by rw [cnF, if_neg c0]
          rw [if_neg t0]
          exact ⟨p + 1, by omega, GI_step C T hq c0 c G, by rw [e]; omega, fun _ => l2.symm⟩
    · rw [if_neg c]
      rw [G.cn] at c
      exact ⟨p, p1, G, p2, fun z => absurd z c⟩
theorem GI_okLk {sg gl fi : Nat → Int32} {g : GS} {p : Nat} (hp : p ≤ 1600) (G : GI sg gl fi g p) : okLk g.1 g.2.1 (cnF fi p) := by
  have ok := nmL_ok fi (fun _ => 0) (fun _ => 0) p
  rw [nmL_n] at ok
  intro t k ht hk hw
  obtain ⟨q, q1, q2, q3, q4⟩ := ok.1 t ht
  have l1 := cnF_le fi q
  have l2 := cnF_le fi p
  have e : cnF fi q = t := by
    have c1 := (nmL_cn fi (fun _ => 0) (fun _ => 0) p q q1 q2).1
    rw [q4] at c1
    exact ((nI_eq (by omega) (by omega)).mp c1).symm
  subst e
  have o := G.on q q1 q2 k hk
  by_cases s : seen fi p q k
  · obtain ⟨o1, o2⟩ := o.1 s
    rw [o1] at hw
    obtain ⟨s1, s2, s3⟩ := s
    have hop := opp_lt k
    have hb := bsV_opp (show q < 1600 by omega) hk s1
    have sym := he_sym (sg := sg) (gl := gl) (fi := fi) (show q < 1600 by omega) hk s1 q2 s3
    generalize hr : nn (bsV q k) = r at *
    have nb2 : nn (bsV r (opp k)) = q := by rw [hb, nn_nI (by omega)]
    have s' : seen fi p r (opp k) := ⟨by rw [hb]; exact nI_pos (by omega), by rw [nb2]; exact q1, by rw [nb2]; exact q2⟩
    obtain ⟨u1, u2⟩ := (G.on r s2 s3 (opp k) hop).1 s'
    rw [sym] at u1 u2
    exact ⟨cnF fi r, cnF_lt s3 s2, o2 hw, by rw [u2 hw, nb2], by rw [u1]; exact hw⟩
  · exact absurd (by rw [o.2 s, nI_0]) hw
theorem seam_pre {z : FS} {st sd sg gl fi ip se : Nat → Int32} {be : Nat → Int64} {w y : Nat} {nt wb : Int32} (A : RA z st sd be w y sg gl fi ip se nt wb) (lk we ne : Nat → Int32) : okLk (gaL z.1 sd st (lk, flI we (nI 0) 480, flI ne (-1) 40, 0) 1764).1 (gaL z.1 sd st (lk, flI we (nI 0) 480, flI ne (-1) 40, 0) 1764).2.1 (gaL z.1 sd st (lk, flI we (nI 0) 480, flI ne (-1) 40, 0) 1764).2.2.2 := by
  obtain ⟨p, p1, G, -, -⟩ := GI_any A.F.C A.T (GI_0 (sg := sg) (gl := gl) (fi := fi) lk we ne) 1764 (Nat.le_refl _)
  rw [G.cn]
  exact GI_okLk p1 G
theorem cnF_sm {fi : Nat → Int32} (h : okFi fi) : ∀ i, i ≤ 1600 → cnF fi i = smN (fun p => if nn (fi p) ≠ 0 ∧ ((0 : Nat) = 0 ∨ nn (fi p) = 0) then 1 else 0) i
  | 0, _ => rfl
  | i + 1, hi => by
    have hf := h i (by omega)
    rw [cnF, smN, cnF_sm h i (by omega)]
    by_cases c : fi i = 0
    · have z : nn (fi i) = 0 := by rw [c]; decide
      rw [if_pos c, if_neg (fun q => q.1 z)]
    · have z : nn (fi i) ≠ 0 := fun q => c (by rw [hf.1, q]; rfl)
      rw [if_neg c, if_pos ⟨z, Or.inl rfl⟩]
theorem cnF_cT {fi : Nat → Int32} (h : okFi fi) : cT fi 0 = cnF fi 1600 := (cnF_sm h 1600 (Nat.le_refl _)).symm
theorem seam_same {z : FS} {st sd sg gl fi ip se : Nat → Int32} {be : Nat → Int64} {w y n : Nat} {nt wb r b th : Int32} {o : Option (GS × T3)} {f of : Nat → Int64} {lk we ne : Nat → Int32} {rm ar qu nu pl fw fr qu2 : Nat → Int32} (I : RI z st sd be w y sg gl fi ip se nt wb) (hn : n = cT fi 0)
    (hc : (∃ E, ((E = eISE ∧ ¬ nI 2 ≤ z.2.2.2.1 0) ∨ (E = eUOE ∧ nI 2 ≤ z.2.2.2.1 0 ∧ ¬ z.2.2.2.1 0 ≤ nI 120)) ∧ r = nI (exC [eISE, eUOE] E) ∧ (o, f) = (none, of)) ∨ (∃ (v7 : GS × T3) (v8 : Int32), ((v8 = nI (weF (gaL z.1 sd st (lk, flI we (nI 0) 480, flI ne (-1) 40, 0) 1764).1 (gaL z.1 sd st (lk, flI we (nI 0) 480, flI ne (-1) 40, 0) 1764).2.1 (gaL z.1 sd st (lk, flI we (nI 0) 480, flI ne (-1) 40, 0) 1764).2.2.2 ((gaL z.1 sd st (lk, flI we (nI 0) 480, flI ne (-1) 40, 0) 1764).2.2.2 - 1) 1 8 (rm, ar, qu)).1 ∧ v7.1 = gaL z.1 sd st (lk, flI we (nI 0) 480, flI ne (-1) 40, 0) 1764) ∧ (nI 2 ≤ z.2.2.2.1 0 ∧ z.2.2.2.1 0 ≤ nI 120)) ∧ r = nI 0 ∧ (o, f) = (some v7, vp_updL of 0 v8.toInt64)))
    (hm : (n < 2 ∧ b = nI 0 ∧ th = nI 1) ∨ (2 ≤ n ∧ 120 < n ∧ b = nI 0 ∧ th = nI 2) ∨ (2 ≤ n ∧ n ≤ 120 ∧ b = nI (reF (rgL (nmL fi nu pl 1600).2.1 (nmL fi nu pl 1600).1) (rgR sg gl fi (nmL fi nu pl 1600).2.1) n (n - 1) 1 1000 (fr, qu2, fw)).1 ∧ th = nI 0)) :
    th = r ∧ (r = 0 → f 0 = b.toInt64) := by
  obtain ⟨t1, t2, t3⟩ := RI_tl I
  have h16 := cT_le fi 0
  have hcn := cnF_cT I.A.F.C.fiN
  rw [t1, t2, ← hn, nI_leI (by decide) (by omega), nI_leI (by omega) (by decide)] at hc
  rcases hc with ⟨E, hE, hr, hu⟩ | ⟨v7, v8, ⟨⟨h8, -⟩, h1, h2⟩, hr, hu⟩
  · rcases hE with ⟨rfl, q⟩ | ⟨rfl, q, q2⟩
    · rcases hm with ⟨-, -, e⟩ | ⟨m1, -⟩ | ⟨m1, -⟩
      · rw [e, show r = nI 1 from hr]
        exact ⟨rfl, fun z => absurd z (by decide +kernel)⟩
      · omega
      · omega
    · rcases hm with ⟨m1, -⟩ | ⟨-, -, -, e⟩ | ⟨m1, m2, -⟩
      · omega
      · rw [e, show r = nI 2 from hr]
        exact ⟨rfl, fun z => absurd z (by decide +kernel)⟩
      · omega
  · cases hu
    rcases hm with ⟨m1, -⟩ | ⟨-, m2, -⟩ | ⟨m1, m2, e1, e2⟩
    · omega
    · omega
    · obtain ⟨g1, -, g3⟩ := seam_val I.A.F.C I.A.T (hn.trans hcn) m1 m2 (GI_0 (sg := sg) (gl := gl) (fi := fi) lk we ne) nu pl (rm, ar, qu) (fr, qu2, fw)
      rw [g1, g3] at h8
      rw [e2, hr, e1, h8]
      exact ⟨rfl, fun _ => pk_uLs⟩
theorem plN_cS {fi se : Nat → Int32} (h : okFi fi) : ∀ i, i ≤ 1600 → plN' fi se i = smN (fun p => if nn (fi p) ≠ 0 then nn (se p) else 0) i
  | 0, _ => rfl
  | i + 1, hi => by
    have hf := h i (by omega)
    rw [plN', smN, plN_cS h i (by omega)]
    by_cases c : fi i ≤ 0
    · have z : nn (fi i) = 0 := (jn_le0 (show nn (fi i) < 2 ^ 31 by omega)).mp (by rw [← hf.1]; exact c)
      rw [if_pos c, if_neg (fun q => q z)]
    · have z : nn (fi i) ≠ 0 := fun q => c (by rw [hf.1, q, nI_0]; decide)
      rw [if_neg c, if_pos z]
theorem cS_pl {fi se : Nat → Int32} (h : okFi fi) : cS fi se = plN' fi se 1600 := (plN_cS h 1600 (Nat.le_refl _)).symm
def GF (st sd : Nat → Int32) (be : Nat → Int64) (sg gl s : Nat → Int32) (w y : Nat) (z : FS) : Prop := ∃ l, okND s y l ∧ RAl st sd be sg gl s w y z l
theorem okO_GF {st sd sg gl s : Nat → Int32} {be : Nat → Int64} {w y : Nat} (hy : y ≤ 60) : okO sd st be (nI w) (GF st sd be sg gl s w y) := by
  refine ⟨fun z ⟨l, _, fi, ip, se, nt, A, _⟩ => Rc_okCe A.F.C, fun z q j ⟨l, Kl, RL⟩ q1 q2 hj => ?_⟩
  obtain ⟨f1, f2, f3⟩ := RAl_fr RL
  obtain ⟨fi, ip, se, nt, A, ef⟩ := RL
  have hlen : nn (bcL (z.2.1 q)) = (tyL (z.2.1 q)).length := by
    have hl64 : (tyL (z.2.1 q)).length ≤ 64 := lenT_le _
    rw [bcL_len, nn_nI (by omega)]
  rw [hlen] at hj
  have hw : ¬ onW q := fun w => by
    have : lenT (z.2.1 q) = 0 := wall_0 A.F.C A.F.O.op q (by omega) w
    have this : (tyL (z.2.1 q)).length = 0 := this
    omega
  obtain ⟨p, hp, rfl⟩ := pm_of (by omega) hw
  have hg := List.getElem?_eq_getElem hj
  generalize (tyL (z.2.1 (pm p)))[j] = t at hg
  have hmem : (p, t) ∈ frA sg gl (nfL s l) w y := (f3 p t).mpr ⟨hp, List.mem_of_getElem? hg⟩
  obtain ⟨-, -, t1, t2, t3⟩ := frL_mem hmem
  have t1 : 1 ≤ t := t1
  have t2 : t ≤ y := t2
  have hf0 : nfL s l p = 0 := by
    have t3 : myN sg gl (nfL s l) (nI w) p t ≠ 0 := t3
    unfold myN at t3
    by_cases c : nfL s l p = 0
    · exact c
    · rw [if_neg c] at t3; exact absurd rfl t3
  have fi0 : fi p = 0 := by rw [ef p hp]; exact hf0
  have pr := prV_drop (o := z.2.1) (q := pm p) (i := j) (t := t) (by omega) hg (by omega)
  obtain ⟨K1, K2⟩ := okND_ins Kl hy hp t1 t2 hf0
  refine ⟨t, pr.2.2.2.2, by omega, ⟨_, K1, _, _, _, _, ⟨A.T, Rf_seed A.F hp fi0 t1 t2 (by omega), A.w1, A.w3⟩, fun u hu => ?_⟩, fs_undo A.F hp fi0 t1 (by omega)⟩
  rw [K2]
  by_cases e : u = p
  · rw [e, pk_us, pk_us]
  · rw [pk_un e, pk_un e, ef u hu]
def okHe (he : Nat → Int32) : Prop := ∃ fi ip se, Rc he fi ip se
theorem he_wipe {z : FS} (h : okHe z.1) {st sd : Nat → Int32} {be : Nat → Int64} {w y : Nat} : ∃ fi ip se, Rf (fsW z) st sd be w y fi ip se (nI 0) (nI 0) ∧ ∀ p, p < 1600 → fi p = 0 := by
  obtain ⟨fi, ip, se, C⟩ := h
  -- any field with these cells, wiped
  have F : Rf (z.1, fun q => raN z.1 (fun _ => 0) (fun _ => 0) (fun _ => 0) (nI 1) q, fun i => nI (rowS (fun q => raN z.1 (fun _ => 0) (fun _ => 0) (fun _ => 0) (nI 1) q) i), fun t => nI (cT fi t), nI (allS (fun q => raN z.1 (fun _ => 0) (fun _ => 0) (fun _ => 0) (nI 1) q)), nI (cS fi se), nI 0) (fun _ => 0) (fun _ => 0) (fun _ => 0) 1 60 fi ip se (nI (cT fi 0)) (nI 0) :=
    ⟨C, ⟨fun q _ => rfl, fun i _ => rfl, rfl⟩, fun p hp => (C.fiN p hp).2, fun t _ => rfl, rfl, rfl, rfl, Or.inl rfl⟩
  have W := Rf_wipe F
  have e0 : ∀ p, p < 1600 → flI fi (nI 0) 1600 p = 0 := fun p hp => (if_pos hp).trans nI_0
  have E := Rf_empty (st' := st) (sd' := sd) (be' := be) (w' := w) (y' := y) W e0
  refine ⟨_, _, _, ⟨E.C, ⟨fun q hq => ?_, fun i hi => ?_, ?_⟩, E.ty, fun t ht => ?_, E.ns, E.nt, E.aw, E.wb⟩, e0⟩
  · have := E.O.op q hq
    have : flJ (fun q => raN z.1 (fun _ => 0) (fun _ => 0) (fun _ => 0) (nI 1) q) 0 1764 q = raN (wiC z.1 1764) sd st be (nI w) q := this
    rw [show flJ (fun q => raN z.1 (fun _ => 0) (fun _ => 0) (fun _ => 0) (nI 1) q) 0 1764 q = 0 from if_pos hq] at this
    show flJ z.2.1 0 1764 q = raN (wiC z.1 1764) sd st be (nI w) q
    rw [← this]
    exact if_pos hq
  · show flI z.2.2.1 (nI 0) 42 i = nI (rowS (flJ z.2.1 0 1764) i)
    have : rowS (flJ z.2.1 0 1764) i = 0 := smN_0 (fun x hx => by rw [show flJ z.2.1 0 1764 (42 * i + x) = 0 from if_pos (by omega)]; decide +kernel)
    rw [this]
    exact if_pos hi
  · show nI 0 = nI (allS (flJ z.2.1 0 1764))
    exact congrArg nI (smN_0 (fun i hi => smN_0 (fun x hx => by rw [show flJ z.2.1 0 1764 (42 * i + x) = 0 from if_pos (by omega)]; decide +kernel))).symm
  · show flI z.2.2.2.1 (nI 0) 61 t = nI (cT (flI fi (nI 0) 1600) t)
    have := E.tl t ht
    have : flI (fun t => nI (cT fi t)) (nI 0) 61 t = nI (cT (flI fi (nI 0) 1600) t) := this
    rw [← this]
    exact (if_pos (show t < 61 by omega)).trans (if_pos (show t < 61 by omega)).symm
theorem cs_node {z he : FS} {st sd sg gl fi ip se : Nat → Int32} {be : Nat → Int64} {w y : Nat} {nt wb : Int32} (A : RA z st sd be w y sg gl fi ip se nt wb) (h : okHe he.1) : RAl st sd be sg gl (shV fi se) w y (csL sd st be (nI w) z.1 (fsW he) 1764) [] := by
  obtain ⟨fi0, ip0, se0, F0, h0⟩ := he_wipe h (st := st) (sd := sd) (be := be) (w := w) (y := y)
  obtain ⟨fi', ip', se', nt', F, hf⟩ := cs_ok A.T.yN A.F.C A.F.ty F0 h0 1764 (Nat.le_refl _)
  refine ⟨fi', ip', se', nt', ⟨A.T, F, A.w1, A.w3⟩, fun p hp => ?_⟩
  rw [hf p hp, if_pos (by rw [show lowP 1764 = 1600 from by decide]; exact hp)]
  rfl
