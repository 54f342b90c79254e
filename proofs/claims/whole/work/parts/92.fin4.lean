abbrev Pg (sg gl s : Nat → Int32) (w y top : Nat) (V0 : List ND) (en0 : Int32) (K : KS) (N : List ND) : Prop := (KV s y K (V0 ++ N)) ∧ (∀ x, x ∈ V0 ++ N → Rch (nxN sg gl s w y) [] x) ∧ (∀ x, x ∈ N → (∀ u, u ∈ nxN sg gl s w y x → u ∈ V0 ++ N) ∧ (nxN sg gl s w y x ≠ [] → x.length < top)) ∧ (K.2.2.2.2.2.2 = en0 + nI (fnc sg gl s w y N)) ∧ ((V0 ++ N).length ≤ 500)
theorem Pg.kv {sg gl s : Nat → Int32} {w y top : Nat} {V0 : List ND} {en0 : Int32} {K : KS} {N : List ND} (h9 : Pg sg gl s w y top V0 en0 K N) : KV s y K (V0 ++ N) := h9.1
theorem Pg.rc {sg gl s : Nat → Int32} {w y top : Nat} {V0 : List ND} {en0 : Int32} {K : KS} {N : List ND} (h9 : Pg sg gl s w y top V0 en0 K N) : ∀ x, x ∈ V0 ++ N → Rch (nxN sg gl s w y) [] x := h9.2.1
theorem Pg.cl {sg gl s : Nat → Int32} {w y top : Nat} {V0 : List ND} {en0 : Int32} {K : KS} {N : List ND} (h9 : Pg sg gl s w y top V0 en0 K N) : ∀ x, x ∈ N → (∀ u, u ∈ nxN sg gl s w y x → u ∈ V0 ++ N) ∧ (nxN sg gl s w y x ≠ [] → x.length < top) := h9.2.2.1
theorem Pg.en {sg gl s : Nat → Int32} {w y top : Nat} {V0 : List ND} {en0 : Int32} {K : KS} {N : List ND} (h9 : Pg sg gl s w y top V0 en0 K N) : K.2.2.2.2.2.2 = en0 + nI (fnc sg gl s w y N) := h9.2.2.2.1
theorem Pg.le {sg gl s : Nat → Int32} {w y top : Nat} {V0 : List ND} {en0 : Int32} {K : KS} {N : List ND} (h9 : Pg sg gl s w y top V0 en0 K N) : (V0 ++ N).length ≤ 500 := h9.2.2.2.2
abbrev BadN (sg gl s : Nat → Int32) (w y top : Nat) : Prop := Bad (nxN sg gl s w y) List.length [] 500 top
def okSp (st sd : Nat → Int32) (be : Nat → Int64) (sg gl s : Nat → Int32) (w y top r : Nat) (S : FS → Nat → Nat → Int32 → KS → Nat × KS) : Prop :=
  ∀ (z : FS) (fr : Nat) (K : KS) (V : List ND) (l : ND), KV s y K V → (∀ x, x ∈ V → Rch (nxN sg gl s w y) [] x) → V.length ≤ 500 → V[fr]? = some l → RAl st sd be sg gl s w y z l → l.length + r = top →
    ((S z fr l.length (mrk l) K).1 = 0 → BadN sg gl s w y top) ∧ ((S z fr l.length (mrk l) K).1 ≠ 0 → ∃ N, Pg sg gl s w y top V (K.2.2.2.2.2.2 + nI (fnc sg gl s w y [l])) (S z fr l.length (mrk l) K).2 N ∧ (∀ u, u ∈ nxN sg gl s w y l → u ∈ V ++ N) ∧ (nxN sg gl s w y l ≠ [] → l.length < top))
theorem fnc_app (sg gl s : Nat → Int32) (w y : Nat) (M N : List ND) : fnc sg gl s w y (M ++ N) = fnc sg gl s w y M + fnc sg gl s w y N := by
  unfold fnc
  rw [List.filter_append, List.length_append]
theorem stA_ok {st sd sg gl s : Nat → Int32} {be : Nat → Int64} {w y top r : Nat} {S : FS → Nat → Nat → Int32 → KS → Nat × KS} (hS : okSp st sd be sg gl s w y top r S) {V0 N : List ND} {en0 : Int32} {K : KS} {z : FS} {l : ND} {fr p t j : Nat} (hy : y ≤ 60) (P : Pg sg gl s w y top V0 en0 K N) (hl : V0[fr]? = some l) (A : RAl st sd be sg gl s w y z l) (hr : l.length + (r + 1) = top) (hp : p < 1600) (hj : (tyL (z.2.1 (pm p)))[j]? = some t) :
    ((stA sd st be (nI w) S z (pm p) fr l.length (mrk l) j K).1 = 0 → BadN sg gl s w y top) ∧ ((stA sd st be (nI w) S z (pm p) fr l.length (mrk l) j K).1 ≠ 0 → ∃ N', Pg sg gl s w y top V0 en0 (stA sd st be (nI w) S z (pm p) fr l.length (mrk l) j K).2 N' ∧ (∀ x, x ∈ V0 ++ N → x ∈ V0 ++ N') ∧ insL (64 * p + t) l ∈ V0 ++ N') := by
  obtain ⟨f1, f2, f3⟩ := RAl_fr A
  have hmem : (p, t) ∈ frA sg gl (nfL s l) w y := (f3 p t).mpr ⟨hp, List.mem_of_getElem? hj⟩
  obtain ⟨-, -, t1, t2, t3⟩ := frL_mem hmem
  have t1 : 1 ≤ t := t1
  have t2 : t ≤ y := t2
  have hf0 : nfL s l p = 0 := by
    have t3 : myN sg gl (nfL s l) (nI w) p t ≠ 0 := t3
    unfold myN at t3
    by_cases q : nfL s l p = 0
    · exact q
    · rw [if_neg q] at t3; exact absurd rfl t3
  have hpm := pm_in hp
  have pr := prV_drop (o := z.2.1) (q := pm p) (i := j) (t := t) (by omega) hj (by omega)
  have hfr : fr < V0.length := by
    rcases Nat.lt_or_ge fr V0.length with e | e
    · exact e
    · rw [List.getElem?_eq_none e] at hl; cases hl
  have hl2 : (V0 ++ N)[fr]? = some l := by rw [List.getElem?_append_left hfr]; exact hl
  have Kl := P.kv.ok l (List.mem_of_getElem? hl2)
  have hnx : insL (64 * p + t) l ∈ nxN sg gl s w y l := List.mem_map.mpr ⟨(p, t), hmem, rfl⟩
  have hrl := P.rc l (List.mem_of_getElem? hl2)
  obtain ⟨fi, ip, se, nt, AR, ef⟩ := A
  have hce : ∀ q, q < 1600 → tyN (z.1 (pm q)) = nn (nfL s l q) := fun q hq => by rw [Rc_ty AR.F.C hq, ef q hq]
  have kn := known_iff P.kv hy P.le Kl hce hp t1 t2 hf0
  obtain ⟨K1, K2⟩ := okND_ins Kl hy hp t1 t2 hf0
  have ep : pm p * 64 + t = pcd (64 * p + t) := by unfold pcd; rw [show (64 * p + t) / 64 = p by omega, show (64 * p + t) % 64 = t by omega]
  have hmk : mrk l + scV (nI (pm p * 64 + t)) = mrk (insL (64 * p + t) l) := by rw [ep]; exact (mrk_ins _ l).symm
  unfold stA
  rw [pr.1, show lsI (pnT j (z.2.1 (pm p))) = nI t from pr.2.2.2.2]
  by_cases ck : knF z.1 K.1 K.2.1 K.2.2.1 K.2.2.2.1 (nI (pm p * 64 + t)) (l.length + 1) (mrk l + scV (nI (pm p * 64 + t))) 500 (nn (K.2.2.2.2.1 (bkN (mrk l + scV (nI (pm p * 64 + t)))))) = 0
  · rw [if_pos ck]
    have hnot : insL (64 * p + t) l ∉ V0 ++ N := fun q => kn.mpr q ck
    by_cases c5 : K.2.2.2.2.2.1 < 500
    · rw [if_pos c5]
      have hlen : (V0 ++ N).length < 500 := by rw [P.kv.ln]; exact c5
      have KV2 := KV_keep P.kv hlen hl2 K1 hnot (by rw [show (64 * p + t) / 64 = p by omega]; exact hp)
      have fi0 : fi p = 0 := by rw [ef p hp]; exact hf0
      have A2 : RAl st sd be sg gl s w y (fsPut sd st be (nI w) (pm p) (nI t ||| nI 1024) z) (insL (64 * p + t) l) :=
        ⟨_, _, _, _, ⟨AR.T, Rf_seed AR.F hp fi0 t1 t2 (by omega), AR.w1, AR.w3⟩, fun q hq => by
          rw [K2]
          by_cases e : q = p
          · rw [e, pk_us, pk_us]
          · rw [pk_un e, pk_un e, ef q hq]⟩
      have rc2 : ∀ x, x ∈ V0 ++ N ++ [insL (64 * p + t) l] → Rch (nxN sg gl s w y) [] x := fun x hx => (List.mem_append.mp hx).elim (P.rc x) (fun e => by rw [List.mem_singleton.mp e]; exact Rch_step hrl hnx)
      have g2 : (V0 ++ N ++ [insL (64 * p + t) l])[K.2.2.2.2.2.1]? = some (insL (64 * p + t) l) := by
        rw [← P.kv.ln, List.getElem?_append_right (Nat.le_refl _), Nat.sub_self]
        rfl
      have hlen2 : (V0 ++ N ++ [insL (64 * p + t) l]).length ≤ 500 := by rw [List.length_append]; show (V0 ++ N).length + 1 ≤ 500; omega
      have main := hS (fsPut sd st be (nI w) (pm p) (nI t ||| nI 1024) z) K.2.2.2.2.2.1 _ _ _ KV2 rc2 hlen2 g2 A2 (by rw [insL_len]; omega)
      rw [insL_len] at main
      rw [hmk, ep]
      refine ⟨main.1, fun h => ?_⟩
      obtain ⟨N2, P2, cl2, dp2⟩ := main.2 h
      have eA : V0 ++ N ++ [insL (64 * p + t) l] ++ N2 = V0 ++ (N ++ insL (64 * p + t) l :: N2) := by simp
      have sub : ∀ x, x ∈ V0 ++ N → x ∈ V0 ++ (N ++ insL (64 * p + t) l :: N2) := fun x hx => by
        rw [← eA]
        exact List.mem_append.mpr (Or.inl (List.mem_append.mpr (Or.inl hx)))
      refine ⟨N ++ insL (64 * p + t) l :: N2, ⟨by rw [← eA]; exact P2.kv, by rw [← eA]; exact P2.rc, fun x hx => ?_, ?_, by rw [← eA]; exact P2.le⟩, sub, ?_⟩
      · rcases List.mem_append.mp hx with e | e
        · obtain ⟨a, b⟩ := P.cl x e
          exact ⟨fun u hu => sub u (a u hu), b⟩
        · rcases List.mem_cons.mp e with e | e
          · rw [e]
            exact ⟨fun u hu => by rw [← eA]; exact cl2 u hu, fun q => by have := dp2 q; rw [insL_len]; exact this⟩
          · obtain ⟨a, b⟩ := P2.cl x e
            exact ⟨fun u hu => by rw [← eA]; exact a u hu, b⟩
      · have e1 := P2.en
        have e2 : (kpF (nI (pcd (64 * p + t))) fr (mrk (insL (64 * p + t) l)) K).2.2.2.2.2.2 = K.2.2.2.2.2.2 := rfl
        rw [e2, P.en] at e1
        rw [e1, Int32.add_assoc, Int32.add_assoc, nI_add, nI_add]
        congr 2
        rw [fnc_app, show insL (64 * p + t) l :: N2 = [insL (64 * p + t) l] ++ N2 from rfl, fnc_app]
      · rw [← eA]
        exact List.mem_append.mpr (Or.inl (List.mem_append.mpr (Or.inr (List.mem_singleton.mpr rfl))))
    · rw [if_neg c5]
      refine ⟨fun _ => Or.inr ⟨V0 ++ N ++ [insL (64 * p + t) l], ?_, ?_, ?_⟩, fun h => absurd rfl h⟩
      · refine List.pairwise_append.mpr ⟨P.kv.nd, List.pairwise_singleton _ _, fun a ha b hb e => ?_⟩
        rw [List.mem_singleton] at hb
        exact hnot (by rw [← hb, ← e]; exact ha)
      · exact fun x hx => (List.mem_append.mp hx).elim (P.rc x) (fun e => by rw [List.mem_singleton.mp e]; exact Rch_step hrl hnx)
      · rw [List.length_append, P.kv.ln]
        show 500 < K.2.2.2.2.2.1 + 1
        omega
  · rw [if_neg ck]
    exact ⟨fun h => absurd h (by show ¬ (1 : Nat) = 0; decide), fun _ => ⟨N, P, fun x hx => hx, kn.mp ck⟩⟩
def DoneP (sg gl s : Nat → Int32) (w y : Nat) (l : ND) (X : List ND) (D : Nat → Nat → Prop) : Prop := ∀ p t, (p, t) ∈ frA sg gl (nfL s l) w y → D p t → insL (64 * p + t) l ∈ X
theorem spread_ok {st sd sg gl s : Nat → Int32} {be : Nat → Int64} {w y top r : Nat} {S : FS → Nat → Nat → Int32 → KS → Nat × KS} (hS : okSp st sd be sg gl s w y top r S) {V0 : List ND} {K0 : KS} {z : FS} {l : ND} {fr : Nat} (hy : y ≤ 60) (hl : V0[fr]? = some l) (A : RAl st sd be sg gl s w y z l) (hr : l.length + (r + 1) = top) (en0 : Int32) (P0 : Pg sg gl s w y top V0 en0 K0 []) :
    ((itK (rwB sd st be (nI w) S z fr l.length (mrk l)) 40 0 K0).1 = 0 → BadN sg gl s w y top) ∧ ((itK (rwB sd st be (nI w) S z fr l.length (mrk l)) 40 0 K0).1 ≠ 0 → ∃ N, Pg sg gl s w y top V0 en0 (itK (rwB sd st be (nI w) S z fr l.length (mrk l)) 40 0 K0).2 N ∧ DoneP sg gl s w y l (V0 ++ N) (fun p _ => p < 40 * 40)) := by
  obtain ⟨f1, f2, f3⟩ := RAl_fr A
  have main := itK_ind (A := rwB sd st be (nI w) S z fr l.length (mrk l)) (fun yy K => ∃ N, Pg sg gl s w y top V0 en0 K N ∧ DoneP sg gl s w y l (V0 ++ N) (fun p _ => p < 40 * yy)) (BadN sg gl s w y top) 40 0 K0 ?_ ⟨[], P0, fun p t _ h => absurd h (Nat.not_lt_zero p)⟩
  · rw [Nat.zero_add] at main
    exact main
  · intro yy K _ hyy ⟨N, P, Dn⟩
    have col := itK_ind (A := rwA sd st be (nI w) S z fr l.length (mrk l) yy) (fun xx K => ∃ N, Pg sg gl s w y top V0 en0 K N ∧ DoneP sg gl s w y l (V0 ++ N) (fun p _ => p < 40 * yy + xx)) (BadN sg gl s w y top) 40 0 K ?_ ⟨N, P, Dn⟩
    · rw [Nat.zero_add] at col
      refine ⟨col.1, fun h => ?_⟩
      obtain ⟨N', P', D'⟩ := col.2 h
      exact ⟨N', P', fun p t h1 h2 => D' p t h1 (by omega)⟩
    · intro xx K _ hxx ⟨N, P, Dn⟩
      have hp : 40 * yy + xx < 1600 := by omega
      have hq : plN xx yy = pm (40 * yy + xx) := plN_pm (by omega)
      unfold rwA
      by_cases cr : z.2.2.1 (yy + 1) ≤ 0
      · rw [if_pos cr]
        refine ⟨fun h => absurd h (by show ¬ (1 : Nat) = 0; decide), fun _ => ⟨N, P, fun p t h1 h2 => ?_⟩⟩
        rcases Nat.lt_or_ge p (40 * yy + xx) with e | e
        · exact Dn p t h1 e
        · exfalso
          have ep : p = 40 * yy + xx := by omega
          obtain ⟨fi, ip, se, nt, AR, ef⟩ := A
          have hw := wall_0 AR.F.C AR.F.O.op
          have hrow := AR.F.O.sm.1 (yy + 1) (by omega)
          have hrow : z.2.2.1 (yy + 1) = nI (rowS z.2.1 (yy + 1)) := hrow
          have hle := rowS_le z.2.1 (yy + 1)
          rw [hrow, jn_le0 (by omega)] at cr
          have hz := rowS_upd (o := z.2.1) (q := pm p) (v := 0) (yy + 1)
          have hpm := pm_in (show p < 1600 by omega)
          rw [if_pos (show pm p / 42 = yy + 1 by omega), if_pos (show pm p / 42 = yy + 1 by omega), cr, show lenT (0 : Int64) = 0 from by decide +kernel] at hz
          have hm := ((f3 p t).mp h1).2
          have : 0 < (tyL (z.2.1 (pm p))).length := List.length_pos_of_mem hm
          have hz : rowS (vp_updL z.2.1 (pm p) 0) (yy + 1) + (tyL (z.2.1 (pm p))).length = 0 + 0 := hz
          omega
      · rw [if_neg cr, hq]
        unfold saF
        have hbc : nn (bcL (z.2.1 (pm (40 * yy + xx)))) = (tyL (z.2.1 (pm (40 * yy + xx)))).length := by
          have hl64 : (tyL (z.2.1 (pm (40 * yy + xx)))).length ≤ 64 := lenT_le _
          rw [bcL_len, nn_nI (by omega)]
        rw [hbc]
        have typ := itK_ind (A := stA sd st be (nI w) S z (pm (40 * yy + xx)) fr l.length (mrk l)) (fun jj K => ∃ N, Pg sg gl s w y top V0 en0 K N ∧ DoneP sg gl s w y l (V0 ++ N) (fun p t => p < 40 * yy + xx ∨ (p = 40 * yy + xx ∧ t ∈ (tyL (z.2.1 (pm (40 * yy + xx)))).take jj))) (BadN sg gl s w y top) (tyL (z.2.1 (pm (40 * yy + xx)))).length 0 K ?_ ⟨N, P, fun p t h1 h2 => h2.elim (Dn p t h1) (fun q => by have := q.2; rw [List.take_zero] at this; cases this)⟩
        · rw [Nat.zero_add] at typ
          refine ⟨typ.1, fun h => ?_⟩
          obtain ⟨N', P', D'⟩ := typ.2 h
          refine ⟨N', P', fun p t h1 h2 => D' p t h1 ?_⟩
          rcases Nat.lt_or_ge p (40 * yy + xx) with e | e
          · exact Or.inl e
          · have ep : p = 40 * yy + xx := by omega
            refine Or.inr ⟨ep, ?_⟩
            rw [List.take_length, ← ep]
            exact ((f3 p t).mp h1).2
        · intro jj K _ hjj ⟨N, P, Dn⟩
          have hjj : jj < (tyL (z.2.1 (pm (40 * yy + xx)))).length := by omega
          have hg := List.getElem?_eq_getElem hjj
          have step := stA_ok hS hy P hl A hr hp hg
          refine ⟨step.1, fun h => ?_⟩
          obtain ⟨N', P', sub, hin⟩ := step.2 h
          refine ⟨N', P', fun p t h1 h2 => ?_⟩
          rcases h2 with e | ⟨e1, e2⟩
          · exact sub _ (Dn p t h1 (Or.inl e))
          · rw [List.take_add_one, hg, List.mem_append] at e2
            rcases e2 with e2 | e2
            · exact sub _ (Dn p t h1 (Or.inr ⟨e1, e2⟩))
            · have : t = (tyL (z.2.1 (pm (40 * yy + xx))))[jj] := by simpa using e2
              rw [e1, this]
              exact hin
theorem nx_nil {sg gl s : Nat → Int32} {w y : Nat} {l : ND} : nxN sg gl s w y l = [] ↔ (frA sg gl (nfL s l) w y).length = 0 := by
  unfold nxN
  rw [List.map_eq_nil_iff, List.length_eq_zero_iff]
theorem fnc_one {sg gl s : Nat → Int32} {w y : Nat} {l : ND} : fnc sg gl s w y [l] = if nxN sg gl s w y l = [] then 1 else 0 := by
  unfold fnc
  by_cases c : nxN sg gl s w y l = []
  · rw [if_pos c, List.filter_cons_of_pos (by rw [c]; rfl)]
    rfl
  · rw [if_neg c, List.filter_cons_of_neg (by rw [List.isEmpty_iff]; exact c)]
    rfl
theorem sp_ok {st sd sg gl s : Nat → Int32} {be : Nat → Int64} {w y top : Nat} (hy : y ≤ 60) : ∀ r, okSp st sd be sg gl s w y top r (spF sd st be (nI w) r) := by
  have base : ∀ (z : FS) (fr : Nat) (K : KS) (V : List ND) (l : ND), KV s y K V → (∀ x, x ∈ V → Rch (nxN sg gl s w y) [] x) → V.length ≤ 500 → nxN sg gl s w y l = [] → ∃ N, Pg sg gl s w y top V (K.2.2.2.2.2.2 + nI (fnc sg gl s w y [l])) (enK K) N ∧ (∀ u, u ∈ nxN sg gl s w y l → u ∈ V ++ N) ∧ (nxN sg gl s w y l ≠ [] → l.length < top) := by
    intro z fr K V l Q hrc hle h0
    refine ⟨[], ⟨by rw [List.append_nil]; exact ⟨Q.ln, Q.v0, Q.nd, Q.ok, Q.ch, Q.hx, Q.hx2, Q.hd, Q.hd2⟩, by rw [List.append_nil]; exact hrc, fun x hx => (by cases hx), ?_, by rw [List.append_nil]; exact hle⟩, fun u hu => (by rw [h0] at hu; cases hu), fun h => absurd h0 h⟩
    rw [fnc_one, if_pos h0]
    show K.2.2.2.2.2.2 + nI 1 = K.2.2.2.2.2.2 + nI 1 + nI 0
    rw [Int32.add_assoc, nI_add]
  intro r
  induction r with
  | zero =>
    intro z fr K V l Q hrc hle hl A hr
    obtain ⟨f1, f2, f3⟩ := RAl_fr A
    rw [spF, f1]
    by_cases c : nI (frA sg gl (nfL s l) w y).length = 0
    · rw [if_pos c]
      have h0 := nx_nil.mpr ((jn_eq0 (by omega)).mp c)
      exact ⟨fun h => absurd h (by show ¬ (1 : Nat) = 0; decide), fun _ => base z fr K V l Q hrc hle h0⟩
    · rw [if_neg c]
      refine ⟨fun _ => Or.inl ⟨l, hrc l (List.mem_of_getElem? hl), fun q => c ((jn_eq0 (by omega)).mpr (nx_nil.mp q)), by omega⟩, fun h => absurd rfl h⟩
  | succ r ih =>
    intro z fr K V l Q hrc hle hl A hr
    obtain ⟨f1, f2, f3⟩ := RAl_fr A
    rw [spF, f1]
    by_cases c : nI (frA sg gl (nfL s l) w y).length = 0
    · rw [if_pos c]
      have h0 := nx_nil.mpr ((jn_eq0 (by omega)).mp c)
      exact ⟨fun h => absurd h (by show ¬ (1 : Nat) = 0; decide), fun _ => base z fr K V l Q hrc hle h0⟩
    · rw [if_neg c]
      have hne : nxN sg gl s w y l ≠ [] := fun q => c ((jn_eq0 (by omega)).mpr (nx_nil.mp q))
      have P0 : Pg sg gl s w y top V (K.2.2.2.2.2.2 + nI (fnc sg gl s w y [l])) K [] := by
        refine ⟨by rw [List.append_nil]; exact Q, by rw [List.append_nil]; exact hrc, fun x hx => (by cases hx), ?_, by rw [List.append_nil]; exact hle⟩
        rw [fnc_one, if_neg hne]
        show K.2.2.2.2.2.2 = K.2.2.2.2.2.2 + nI 0 + nI 0
        rw [Int32.add_assoc, nI_add, nI_0]
        exact (Int32.add_zero _).symm
      obtain ⟨m1, m2⟩ := spread_ok ih hy hl A hr _ P0
      refine ⟨m1, fun h => ?_⟩
      obtain ⟨N, P, D⟩ := m2 h
      refine ⟨N, P, fun u hu => ?_, fun _ => by omega⟩
      obtain ⟨a, ha, rfl⟩ := List.mem_map.mp hu
      exact D a.1 a.2 ha (by have := ((f3 a.1 a.2).mp ha).1; omega)
