abbrev RB (sg gl s : Nat → Int32) (w y top rr : Nat) (z : FZ) : Prop := (RQ sg gl s w y top z) ∧ (∀ r, r < rr → r < z.1.2.2.2 → (∀ u, u ∈ nxN sg gl s w y (rowV z.1.1 z.1.2.1 r) → u ∈ VZ z) ∧ (nxN sg gl s w y (rowV z.1.1 z.1.2.1 r) ≠ [] → (rowV z.1.1 z.1.2.1 r).length < top)) ∧ (z.2.2.2.2 = fnc sg gl s w y ((VZ z).take rr))
theorem RB.Q {sg gl s : Nat → Int32} {w y top rr : Nat} {z : FZ} (h9 : RB sg gl s w y top rr z) : RQ sg gl s w y top z := h9.1
theorem RB.cl {sg gl s : Nat → Int32} {w y top rr : Nat} {z : FZ} (h9 : RB sg gl s w y top rr z) : ∀ r, r < rr → r < z.1.2.2.2 → (∀ u, u ∈ nxN sg gl s w y (rowV z.1.1 z.1.2.1 r) → u ∈ VZ z) ∧ (nxN sg gl s w y (rowV z.1.1 z.1.2.1 r) ≠ [] → (rowV z.1.1 z.1.2.1 r).length < top) := h9.2.1
theorem RB.cn {sg gl s : Nat → Int32} {w y top rr : Nat} {z : FZ} (h9 : RB sg gl s w y top rr z) : z.2.2.2.2 = fnc sg gl s w y ((VZ z).take rr) := h9.2.2
theorem RQ_len {sg gl s : Nat → Int32} {w y top : Nat} {z : FZ} (Q : RQ sg gl s w y top z) {r : Nat} (h : r < z.1.2.2.2) : (rowV z.1.1 z.1.2.1 r).length = nn (z.1.2.1 r) ∧ nn (z.1.2.1 r) ≤ top := ⟨lsA_len _ _ _, (Q.ro r h).2.1⟩
theorem row_pre {z u : FZ} {M : List ND} (hM : VZ u = VZ z ++ M) {r : Nat} (h : r < z.1.2.2.2) (h2 : r < u.1.2.2.2) : rowV u.1.1 u.1.2.1 r = rowV z.1.1 z.1.2.1 r := by
  have a := rows_get (ro := u.1.1) (si := u.1.2.1) h2
  have b := rows_get (ro := z.1.1) (si := z.1.2.1) h
  have e : (VZ u)[r]? = (VZ z)[r]? := by rw [hM, List.getElem?_append_left (by rw [rows_len]; exact h)]
  have e : (rowsV u.1.1 u.1.2.1 u.1.2.2.2)[r]? = (rowsV z.1.1 z.1.2.1 z.1.2.2.2)[r]? := e
  rw [a, b] at e
  exact Option.some.inj e
theorem fnB_ok {sg gl fi se s : Nat → Int32} {w y pn mo top rr : Nat} {z : FZ} (hy : y ≤ 60) (ht : top ≤ 29) (htop : mo = pn + top) (hs : ∀ p, p < 1600 → shV fi se p = s p) (R : RB sg gl s w y top rr z) :
    (∀ u, fnB sg gl fi se (nI w) y pn mo rr z = (none, u) → RB sg gl s w y top (rr + 1) u) ∧ (∀ k u, fnB sg gl fi se (nI w) y pn mo rr z = (some k, u) → BadN sg gl s w y top) := by
  have Q := R.Q
  unfold fnB
  by_cases c : rr < z.1.2.2.2
  · rw [if_pos c]
    obtain ⟨l1, l2⟩ := RQ_len Q c
    have hot : ∀ p, p < 1600 → shZ fi se rr z p = nfL s (rowV z.1.1 z.1.2.1 rr) p := by
      intro p hp
      unfold shZ
      rw [shR_nf]
      exact nfL_congr _ (fun q hq => by rw [show shL fi se z.2.1 1600 q = shV fi se q from if_pos hq, hs q hq]) p hp
    have ec : frL sg gl (shZ fi se rr z) (nI w) y 1600 0 = frA sg gl (nfL s (rowV z.1.1 z.1.2.1 rr)) w y := frL_congr hot 1600 0 (by decide)
    have hn := fdV_m1 sg gl (shZ fi se rr z) (nI w) hy z.2.2.1 z.2.2.2.1
    rw [ec] at hn
    have hrow := Q.ok _ (rows_mem.mpr ⟨rr, c, rfl⟩)
    have nil : (fdV sg gl (shZ fi se rr z) (nI w) (-1) y z.2.2.1 z.2.2.2.1).2.1 = 0 ↔ nxN sg gl s w y (rowV z.1.1 z.1.2.1 rr) = [] := by rw [hn, nx_nil]
    generalize hF : fdV sg gl (shZ fi se rr z) (nI w) (-1) y z.2.2.1 z.2.2.2.1 = F at hn nil ⊢
    by_cases c2 : F.2.1 ≠ 0 ∧ pn + nn (z.1.2.1 rr) = mo
    · rw [if_pos c2]
      refine ⟨fun u h => (by cases h), fun k u _ => Or.inl ⟨_, hrow.2, fun q => c2.1 (nil.mpr q), by rw [l1]; omega⟩⟩
    · rw [if_neg c2]
      have hlt : F.2.1 ≠ 0 → (rowV z.1.1 z.1.2.1 rr).length < top := fun q => by
        have : ¬ pn + nn (z.1.2.1 rr) = mo := fun e => c2 ⟨q, e⟩
        rw [l1]
        omega
      have main := itX_ind (A := fnI sg gl (nI w) y rr)
        (fun i u => RQ sg gl s w y top u ∧ (∃ M, VZ u = VZ z ++ M) ∧ z.1.2.2.2 ≤ u.1.2.2.2 ∧ rowV u.1.1 u.1.2.1 rr = rowV z.1.1 z.1.2.1 rr ∧ u.2.1 = shZ fi se rr z ∧ u.2.2.2.2 = z.2.2.2.2 + (if F.2.1 = 0 then 1 else 0) ∧ ∀ k a, k < i → (frA sg gl (nfL s (rowV z.1.1 z.1.2.1 rr)) w y)[k]? = some a → insL (64 * a.1 + a.2) (rowV z.1.1 z.1.2.1 rr) ∈ VZ u)
        (fun _ _ => BadN sg gl s w y top) F.2.1 0 (z.1, shZ fi se rr z, F.2.2.1, F.2.2.2, z.2.2.2.2 + (if F.2.1 = 0 then 1 else 0)) ?_ ⟨⟨Q.ro, Q.rc1, Q.rc5, Q.v0, Q.nd, Q.ok⟩, ⟨[], (List.append_nil _).symm⟩, Nat.le_refl _, rfl, rfl, rfl, fun k a h => absurd h (Nat.not_lt_zero k)⟩
      · refine ⟨fun u hu => ?_, fun k u hu => main.2 k u hu⟩
        obtain ⟨q1, ⟨M, q2⟩, q3, q4, q5, q6, q7⟩ := main.1 u hu
        rw [Nat.zero_add] at q7
        have sub : ∀ x, x ∈ VZ z → x ∈ VZ u := fun x hx => by rw [q2]; exact List.mem_append.mpr (Or.inl hx)
        refine ⟨q1, fun r hr1 hr2 => ?_, ?_⟩
        · rcases Nat.lt_succ_iff_lt_or_eq.mp hr1 with e | e
          · have hrz : r < z.1.2.2.2 := by omega
            rw [row_pre q2 hrz hr2]
            obtain ⟨a, b⟩ := R.cl r e hrz
            exact ⟨fun x hx => sub x (a x hx), b⟩
          · subst e
            rw [q4]
            refine ⟨fun x hx => ?_, fun q => hlt (fun z => q (nil.mp z))⟩
            obtain ⟨a, ha, rfl⟩ := List.mem_map.mp hx
            obtain ⟨k, hk, e⟩ := List.getElem_of_mem ha
            exact q7 k a (by rw [hn]; exact hk) (by rw [List.getElem?_eq_getElem hk, e])
        · have hzl : (VZ z).length = z.1.2.2.2 := rows_len _ _ _
          have e1 : (VZ u).take (rr + 1) = (VZ z).take rr ++ [rowV z.1.1 z.1.2.1 rr] := by
            rw [q2, List.take_append_of_le_length (by rw [hzl]; omega), List.take_add_one]
            have : (VZ z)[rr]? = some (rowV z.1.1 z.1.2.1 rr) := rows_get c
            rw [this]
            rfl
          rw [q6, R.cn, e1, fnc_app, fnc_one]
          by_cases z0 : F.2.1 = 0
          · rw [if_pos z0, if_pos (nil.mp z0)]
          · rw [if_neg z0, if_neg (fun q => z0 (nil.mpr q))]
      · intro i u _ hi ⟨q1, ⟨M, q2⟩, q3, q4, q5, q6, q7⟩
        have hi2 : i < (frA sg gl (nfL s (rowV u.1.1 u.1.2.1 rr)) w y).length := by rw [q4, ← hn]; omega
        have st := fnI_ok hy ht q1 (show rr < u.1.2.2.2 by omega) (by rw [q4]; exact hlt (by omega)) (fun p hp => by rw [q5, q4]; exact hot p hp) hi2
        refine ⟨fun u2 hu2 => ?_, fun k u2 hu2 => st.2 k u2 hu2⟩
        obtain ⟨s1, ⟨M2, s2⟩, s3, s4, s5, s6, a, s7, s8⟩ := st.1 u2 hu2
        rw [q4] at s4 s7 s8
        refine ⟨s1, ⟨M ++ M2, by rw [s2, q2, List.append_assoc]⟩, by omega, s4, by rw [s5, q5], by rw [s6, q6], fun k b hk hb => ?_⟩
        rcases Nat.lt_succ_iff_lt_or_eq.mp hk with e | e
        · rw [s2]; exact List.mem_append.mpr (Or.inl (q7 k b e hb))
        · subst e
          rw [s7] at hb
          rw [← Option.some.inj hb]
          exact s8
  · rw [if_neg c]
    refine ⟨fun u h => ?_, fun k u h => (by cases h)⟩
    cases h
    have hzl : (VZ z).length = z.1.2.2.2 := rows_len _ _ _
    refine ⟨Q, fun r h1 h2 => R.cl r (by omega) h2, ?_⟩
    rw [R.cn, List.take_of_length_le (by rw [hzl]; omega), List.take_of_length_le (by rw [hzl]; omega)]
theorem fin_ref {sg gl fi se s : Nat → Int32} {w y pn mo top : Nat} {ro si fr ot : Nat → Int32} {fp ft : Int32} (hy : y ≤ 60) (ht : top ≤ 29) (htop : mo = pn + top) (hs : ∀ p, p < 1600 → shV fi se p = s p) :
    (∀ z, itX (fnB sg gl fi se (nI w) y pn mo) 501 0 ((ro, upd si 0 (nI 0), fr, 1), ot, fp, ft, 0) = (none, z) → ∃ V, All (nxN sg gl s w y) List.length [] 500 top V ∧ z.2.2.2.2 = fnc sg gl s w y V) ∧ (∀ k z, itX (fnB sg gl fi se (nI w) y pn mo) 501 0 ((ro, upd si 0 (nI 0), fr, 1), ot, fp, ft, 0) = (some k, z) → BadN sg gl s w y top) := by
  have r0 : rowV ro (upd si 0 (nI 0)) 0 = [] := by
    unfold rowV
    rw [pk_us, nn_nI (by decide)]
    rfl
  have R0 : RB sg gl s w y top 0 ((ro, upd si 0 (nI 0), fr, 1), ot, fp, ft, 0) := by
    have hV : rowsV ro (upd si 0 (nI 0)) 1 = [[]] := by
      show [rowV ro (upd si 0 (nI 0)) 0] = [[]]
      rw [r0]
    refine ⟨⟨okRo_init _ _ _, Nat.le_refl _, by show 1 ≤ 500; decide, r0, ?_, ?_⟩, fun r h => absurd h (Nat.not_lt_zero r), rfl⟩
    · show (rowsV ro (upd si 0 (nI 0)) 1).Nodup
      rw [hV]
      exact List.pairwise_singleton _ _
    · show ∀ x, x ∈ rowsV ro (upd si 0 (nI 0)) 1 → _
      rw [hV]
      intro x hx
      rw [List.mem_singleton.mp hx]
      exact ⟨⟨List.Pairwise.nil, List.Pairwise.nil, fun c hc => by cases hc⟩, Rch_here⟩
  have main := itX_ind (A := fnB sg gl fi se (nI w) y pn mo) (fun rr z => RB sg gl s w y top rr z) (fun _ _ => BadN sg gl s w y top) 501 0 _ (fun rr z _ _ R => fnB_ok hy ht htop hs R) R0
  refine ⟨fun z h => ?_, main.2⟩
  have R := main.1 z h
  rw [Nat.zero_add] at R
  have hzl : (VZ z).length = z.1.2.2.2 := rows_len _ _ _
  have h5 := R.Q.rc5
  refine ⟨VZ z, ⟨R.Q.nd, rows_mem.mpr ⟨0, by have := R.Q.rc1; omega, R.Q.v0⟩, fun x hx => (R.Q.ok x hx).2, fun x hx u hu => ?_, by rw [hzl]; exact h5, fun x hx hne => ?_⟩, ?_⟩
  · obtain ⟨r, r1, rfl⟩ := rows_mem.mp hx
    exact (R.cl r (by omega) r1).1 u hu
  · obtain ⟨r, r1, rfl⟩ := rows_mem.mp hx
    exact (R.cl r (by omega) r1).2 hne
  · rw [R.cn, List.take_of_length_le (by rw [hzl]; omega)]
theorem fin_cls {st sd sg gl s : Nat → Int32} {be : Nat → Int64} {w y top : Nat} {z : FS} {pa pr mk nx hd : Nat → Int32} (hy : y ≤ 60) (A : RAl st sd be sg gl s w y z []) :
    ((spF sd st be (nI w) top z 0 0 (nI 0) (pa, pr, mk, nx, flI hd (nI 0) 512, 1, nI 0)).1 = 0 → BadN sg gl s w y top) ∧ ((spF sd st be (nI w) top z 0 0 (nI 0) (pa, pr, mk, nx, flI hd (nI 0) 512, 1, nI 0)).1 ≠ 0 → ∃ V, All (nxN sg gl s w y) List.length [] 500 top V ∧ (spF sd st be (nI w) top z 0 0 (nI 0) (pa, pr, mk, nx, flI hd (nI 0) 512, 1, nI 0)).2.2.2.2.2.2.2 = nI (fnc sg gl s w y V)) := by
  have main := sp_ok (st := st) (sd := sd) (be := be) (sg := sg) (gl := gl) (s := s) (w := w) (y := y) (top := top) hy top z 0 (pa, pr, mk, nx, flI hd (nI 0) 512, 1, nI 0) [[]] [] (KV_init pa pr mk nx hd (nI 0)) (fun x hx => by rw [List.mem_singleton.mp hx]; exact Rch_here) (by decide) rfl A (by show 0 + top = top; omega)
  refine ⟨main.1, fun h => ?_⟩
  obtain ⟨N, P, cl, dp⟩ := main.2 h
  refine ⟨[[]] ++ N, ⟨P.kv.nd, List.mem_append.mpr (Or.inl (List.mem_singleton.mpr rfl)), P.rc, fun x hx u hu => ?_, P.le, fun x hx hne => ?_⟩, ?_⟩
  · rcases List.mem_append.mp hx with e | e
    · rw [List.mem_singleton.mp e] at hu
      exact cl u hu
    · exact (P.cl x e).1 u hu
  · rcases List.mem_append.mp hx with e | e
    · rw [List.mem_singleton.mp e] at hne ⊢
      exact dp hne
    · exact (P.cl x e).2 hne
  · have e := P.en
    rw [fnc_app]
    have e2 : (spF sd st be (nI w) top z 0 0 (nI 0) (pa, pr, mk, nx, flI hd (nI 0) 512, 1, nI 0)).2.2.2.2.2.2.2 = nI 0 + nI (fnc sg gl s w y [[]]) + nI (fnc sg gl s w y N) := e
    rw [e2, nI_add, nI_add, Nat.zero_add]
theorem fin_val {st sd sg gl fi se s : Nat → Int32} {be : Nat → Int64} {w y pn mo top : Nat} {z : FS} {pa pr mk nx hd ro si fr ot : Nat → Int32} {fp ft b : Int32} (hy : y ≤ 60) (ht : top ≤ 29) (htop : mo = pn + top) (hs : ∀ p, p < 1600 → shV fi se p = s p) (A : RAl st sd be sg gl s w y z [])
    (hb : (∃ u, itX (fnB sg gl fi se (nI w) y pn mo) 501 0 ((ro, upd si 0 (nI 0), fr, 1), ot, fp, ft, 0) = (some 0, u) ∧ b = -1) ∨ (∃ u, itX (fnB sg gl fi se (nI w) y pn mo) 501 0 ((ro, upd si 0 (nI 0), fr, 1), ot, fp, ft, 0) = (none, u) ∧ b = nI u.2.2.2.2)) :
    nuV (spF sd st be (nI w) top z 0 0 (nI 0) (pa, pr, mk, nx, flI hd (nI 0) 512, 1, nI 0)) = b := by
  have C := fin_cls (pa := pa) (pr := pr) (mk := mk) (nx := nx) (hd := hd) (top := top) hy A
  have R := fin_ref (sg := sg) (gl := gl) (fi := fi) (se := se) (s := s) (w := w) (y := y) (pn := pn) (mo := mo) (top := top) (ro := ro) (si := si) (fr := fr) (ot := ot) (fp := fp) (ft := ft) hy ht htop hs
  unfold nuV
  by_cases c : (spF sd st be (nI w) top z 0 0 (nI 0) (pa, pr, mk, nx, flI hd (nI 0) 512, 1, nI 0)).1 = 0
  · rw [if_pos c]
    have B := C.1 c
    rcases hb with ⟨u, -, e⟩ | ⟨u, hu, -⟩
    · exact e.symm
    · obtain ⟨V, hV, -⟩ := R.1 u hu
      exact absurd B (All_Bad hV)
  · rw [if_neg c]
    obtain ⟨V, hV, e⟩ := C.2 c
    rcases hb with ⟨u, hu, -⟩ | ⟨u, hu, e2⟩
    · exact absurd (R.2 0 u hu) (All_Bad hV)
    · obtain ⟨V2, hV2, e3⟩ := R.1 u hu
      rw [e, e2, e3]
      exact congrArg nI (All_fin hV hV2 _)
