theorem nfL_app : ∀ (l m : List Nat) (s : Nat → Int32), nfL s (l ++ m) = nfL (nfL s l) m
  | [], _, _ => rfl
  | c :: l, m, s => by rw [List.cons_append, nfL, nfL_app l m, nfL]
theorem shR_nf (ro : Nat → Int32) (b : Nat) (f : Nat → Int32) : ∀ n, shR ro b f n = nfL f (lsA ro b n)
  | 0 => rfl
  | n + 1 => by rw [shR, lsA, nfL_app, shR_nf ro b f n]; rfl
theorem nfL_congr : ∀ (l : List Nat) {f g : Nat → Int32}, (∀ p, p < 1600 → f p = g p) → ∀ p, p < 1600 → nfL f l p = nfL g l p
  | [], _, _, h => h
  | c :: l, f, g, h => by
    rw [nfL, nfL]
    refine nfL_congr l (fun p hp => ?_)
    by_cases e : p = c / 64
    · rw [e, pk_us, pk_us]
    · rw [pk_un e, pk_un e, h p hp]
theorem lsA_get {f : Nat → Int32} {b : Nat} : ∀ {n j : Nat}, j < n → (lsA f b n)[j]? = some (nn (f (b + j)))
  | 0, j, h => absurd h (Nat.not_lt_zero j)
  | n + 1, j, h => by
    rw [lsA]
    rcases Nat.lt_succ_iff_lt_or_eq.mp h with e | e
    · rw [List.getElem?_append_left (by rw [lsA_len]; exact e)]
      exact lsA_get e
    · subst e
      rw [List.getElem?_append_right (by rw [lsA_len]; exact Nat.le_refl _), lsA_len, Nat.sub_self]
      rfl
def rowV (ro si : Nat → Int32) (r : Nat) : ND := lsA ro (30 * r) (nn (si r))
def rowsV (ro si : Nat → Int32) (rc : Nat) : List ND := (List.range rc).map (rowV ro si)
theorem rows_get {ro si : Nat → Int32} {rc r : Nat} (h : r < rc) : (rowsV ro si rc)[r]? = some (rowV ro si r) := by
  unfold rowsV
  rw [List.getElem?_map, List.getElem?_range h]
  rfl
theorem rows_mem {ro si : Nat → Int32} {rc : Nat} {x : ND} : x ∈ rowsV ro si rc ↔ ∃ r, r < rc ∧ rowV ro si r = x := by
  unfold rowsV
  rw [List.mem_map]
  constructor
  · rintro ⟨r, h1, h2⟩; exact ⟨r, List.mem_range.mp h1, h2⟩
  · rintro ⟨r, h1, h2⟩; exact ⟨r, List.mem_range.mpr h1, h2⟩
theorem rows_len (ro si : Nat → Int32) (rc : Nat) : (rowsV ro si rc).length = rc := by
  unfold rowsV
  rw [List.length_map, List.length_range]
theorem eqR_iff {ro si g : Nat → Int32} {n r : Nat} (hr : okRw ro si r) (hn : n < 2 ^ 31) (hg : ∀ j, j < n → g j = nI (nn (g j))) : eqR ro si g n r ↔ rowV ro si r = lsA g 0 n := by
  unfold eqR rowV
  constructor
  · rintro ⟨h1, h2⟩
    rw [h1, nn_nI hn]
    exact lsA_same (fun k hk => by rw [h2 k hk, Nat.zero_add])
  · intro h
    have hl := congrArg List.length h
    rw [lsA_len, lsA_len] at hl
    refine ⟨by rw [hr.1, hl], fun j hj => ?_⟩
    have h2 := congrArg (fun l : List Nat => l[j]?) h
    rw [lsA_get (by omega), lsA_get hj, Nat.zero_add] at h2
    rw [(hr.2.2 j (by omega)).1, hg j hj, Option.some.inj h2]
theorem apV_rows {ro si fr : Nat → Int32} {rr tl rc mx : Nat} (hR : okRo ro si rc mx) (hr : rr < rc) (hm : nn (si rr) < mx) (hmx : mx ≤ 29) (hrc : rc ≤ 500) (htl : tl / 64 < 1600) (ht6 : tl % 64 ≤ 60) :
    (insL tl (rowV ro si rr) ∈ rowsV ro si rc ∧ (apV ro si (apF ro (30 * rr) tl fr (nn (si rr))) (nn (si rr) + 1) rc).2.2.2 = rc ∧ (apV ro si (apF ro (30 * rr) tl fr (nn (si rr))) (nn (si rr) + 1) rc).1 = ro ∧ (apV ro si (apF ro (30 * rr) tl fr (nn (si rr))) (nn (si rr) + 1) rc).2.1 = si) ∨
    (insL tl (rowV ro si rr) ∉ rowsV ro si rc ∧ (apV ro si (apF ro (30 * rr) tl fr (nn (si rr))) (nn (si rr) + 1) rc).2.2.2 = rc + 1 ∧ (rc < 500 → rowsV (apV ro si (apF ro (30 * rr) tl fr (nn (si rr))) (nn (si rr) + 1) rc).1 (apV ro si (apF ro (30 * rr) tl fr (nn (si rr))) (nn (si rr) + 1) rc).2.1 (rc + 1) = rowsV ro si rc ++ [insL tl (rowV ro si rr)])) := by
  have htl2 : tl < 2 ^ 31 := by omega
  have hl := apF_list (ro := ro) (fr := fr) (b := 30 * rr) (s := nn (si rr)) htl2
  have hn := fun j (hj : j < nn (si rr) + 1) => apF_nat (ro := ro) (fr := fr) (b := 30 * rr) (s := nn (si rr)) htl2 hj
  generalize hg : apF ro (30 * rr) tl fr (nn (si rr)) = g at hl hn ⊢
  have hl : lsA g 0 (nn (si rr) + 1) = insL tl (rowV ro si rr) := hl
  have eqi : ∀ r, r < rc → (eqR ro si g (nn (si rr) + 1) r ↔ rowV ro si r = insL tl (rowV ro si rr)) := fun r h => by
    rw [eqR_iff (hR r h).1 (by omega) hn, hl]
  unfold apV
  by_cases c : ∃ r, r < rc ∧ eqR ro si g (nn (si rr) + 1) r
  · rw [if_pos c]
    obtain ⟨r, r1, r2⟩ := c
    exact Or.inl ⟨rows_mem.mpr ⟨r, r1, (eqi r r1).mp r2⟩, rfl, rfl, rfl⟩
  · rw [if_neg c]
    have hnot : insL tl (rowV ro si rr) ∉ rowsV ro si rc := fun q => by
      obtain ⟨r, r1, r2⟩ := rows_mem.mp q
      exact c ⟨r, r1, (eqi r r1).mpr r2⟩
    by_cases d : rc < 500
    · rw [if_pos d]
      refine Or.inr ⟨hnot, rfl, fun _ => ?_⟩
      show rowsV (cpL ro g (30 * rc) (nn (si rr) + 1)) (upd si rc (nI (nn (si rr) + 1))) (rc + 1) = _
      have old : ∀ r, r < rc → rowV (cpL ro g (30 * rc) (nn (si rr) + 1)) (upd si rc (nI (nn (si rr) + 1))) r = rowV ro si r := by
        intro r h
        have := (hR r h).1.2.1
        unfold rowV
        rw [pk_un (by omega)]
        refine lsA_same (fun k hk => ?_)
        unfold cpL
        rw [if_neg (by omega)]
      have new : rowV (cpL ro g (30 * rc) (nn (si rr) + 1)) (upd si rc (nI (nn (si rr) + 1))) rc = insL tl (rowV ro si rr) := by
        unfold rowV
        rw [pk_us, nn_nI (by omega)]
        refine Eq.trans (lsA_same (g := g) (c := 0) (fun k hk => ?_)) hl
        unfold cpL
        rw [if_pos (by omega), show 30 * rc + k - 30 * rc = k by omega, Nat.zero_add]
      unfold rowsV
      rw [List.range_succ, List.map_append]
      congr 1
      · exact List.map_congr_left (fun r hr2 => old r (List.mem_range.mp hr2))
      · show [_] = [_]
        rw [new]
    · rw [if_neg d]
      exact Or.inr ⟨hnot, rfl, fun q => absurd q d⟩
abbrev RQ (sg gl s : Nat → Int32) (w y top : Nat) (z : FZ) : Prop := (okRo z.1.1 z.1.2.1 z.1.2.2.2 top) ∧ (1 ≤ z.1.2.2.2) ∧ (z.1.2.2.2 ≤ 500) ∧ (rowV z.1.1 z.1.2.1 0 = []) ∧ ((rowsV z.1.1 z.1.2.1 z.1.2.2.2).Nodup) ∧ (∀ x, x ∈ rowsV z.1.1 z.1.2.1 z.1.2.2.2 → okND s y x ∧ Rch (nxN sg gl s w y) [] x)
theorem RQ.ro {sg gl s : Nat → Int32} {w y top : Nat} {z : FZ} (h9 : RQ sg gl s w y top z) : okRo z.1.1 z.1.2.1 z.1.2.2.2 top := h9.1
theorem RQ.rc1 {sg gl s : Nat → Int32} {w y top : Nat} {z : FZ} (h9 : RQ sg gl s w y top z) : 1 ≤ z.1.2.2.2 := h9.2.1
theorem RQ.rc5 {sg gl s : Nat → Int32} {w y top : Nat} {z : FZ} (h9 : RQ sg gl s w y top z) : z.1.2.2.2 ≤ 500 := h9.2.2.1
theorem RQ.v0 {sg gl s : Nat → Int32} {w y top : Nat} {z : FZ} (h9 : RQ sg gl s w y top z) : rowV z.1.1 z.1.2.1 0 = [] := h9.2.2.2.1
theorem RQ.nd {sg gl s : Nat → Int32} {w y top : Nat} {z : FZ} (h9 : RQ sg gl s w y top z) : (rowsV z.1.1 z.1.2.1 z.1.2.2.2).Nodup := h9.2.2.2.2.1
theorem RQ.ok {sg gl s : Nat → Int32} {w y top : Nat} {z : FZ} (h9 : RQ sg gl s w y top z) : ∀ x, x ∈ rowsV z.1.1 z.1.2.1 z.1.2.2.2 → okND s y x ∧ Rch (nxN sg gl s w y) [] x := h9.2.2.2.2.2
abbrev VZ (z : FZ) : List ND := rowsV z.1.1 z.1.2.1 z.1.2.2.2
theorem fnI_ok {sg gl s : Nat → Int32} {w y top rr i : Nat} {z : FZ} (hy : y ≤ 60) (ht : top ≤ 29) (Q : RQ sg gl s w y top z) (hr : rr < z.1.2.2.2) (hlt : (rowV z.1.1 z.1.2.1 rr).length < top) (hot : ∀ p, p < 1600 → z.2.1 p = nfL s (rowV z.1.1 z.1.2.1 rr) p) (hi : i < (frA sg gl (nfL s (rowV z.1.1 z.1.2.1 rr)) w y).length) :
    (∀ u, fnI sg gl (nI w) y rr i z = (none, u) → RQ sg gl s w y top u ∧ (∃ M, VZ u = VZ z ++ M) ∧ z.1.2.2.2 ≤ u.1.2.2.2 ∧ rowV u.1.1 u.1.2.1 rr = rowV z.1.1 z.1.2.1 rr ∧ u.2.1 = z.2.1 ∧ u.2.2.2.2 = z.2.2.2.2 ∧ ∃ a, (frA sg gl (nfL s (rowV z.1.1 z.1.2.1 rr)) w y)[i]? = some a ∧ insL (64 * a.1 + a.2) (rowV z.1.1 z.1.2.1 rr) ∈ VZ u) ∧ (∀ k u, fnI sg gl (nI w) y rr i z = (some k, u) → BadN sg gl s w y top) := by
  have ec : frL sg gl z.2.1 (nI w) y 1600 0 = frA sg gl (nfL s (rowV z.1.1 z.1.2.1 rr)) w y := frL_congr hot 1600 0 (by decide)
  have hg := List.getElem?_eq_getElem hi
  generalize (frA sg gl (nfL s (rowV z.1.1 z.1.2.1 rr)) w y)[i] = a at hg
  have hmem := List.mem_of_getElem? hg
  obtain ⟨-, a2, a3, a4, a5⟩ := frL_mem hmem
  have e1 := fd_at (fp := z.2.2.1) (ft := z.2.2.2.1) (p := a.1) (t := a.2) hy (by rw [ec]; exact hg)
  have hmy : nfL s (rowV z.1.1 z.1.2.1 rr) a.1 = 0 := by
    unfold myN at a5
    by_cases q : nfL s (rowV z.1.1 z.1.2.1 rr) a.1 = 0
    · exact q
    · rw [if_neg q] at a5; exact absurd rfl a5
  have a2 : a.1 < 1600 := by omega
  have heq := fnI_eq (rr := rr) e1.symm a2 (show a.2 ≤ 60 by omega) rfl rfl
  have hrow := Q.ok _ (rows_mem.mpr ⟨rr, hr, rfl⟩)
  have hnx : insL (64 * a.1 + a.2) (rowV z.1.1 z.1.2.1 rr) ∈ nxN sg gl s w y (rowV z.1.1 z.1.2.1 rr) := List.mem_map.mpr ⟨a, hmem, rfl⟩
  obtain ⟨K1, -⟩ := okND_ins hrow.1 hy a2 a3 a4 hmy
  have hrch := Rch_step hrow.2 hnx
  have hlt2 : nn (z.1.2.1 rr) < top := by
    have e : (rowV z.1.1 z.1.2.1 rr).length = nn (z.1.2.1 rr) := lsA_len _ _ _
    rw [← e]; exact hlt
  have d1 : (64 * a.1 + a.2) / 64 < 1600 := by omega
  have d2 : (64 * a.1 + a.2) % 64 ≤ 60 := by omega
  have rows := apV_rows (fr := z.1.2.2.1) (tl := 64 * a.1 + a.2) Q.ro hr hlt2 ht Q.rc5 d1 d2
  have keep := fun h => apV_ok (fr := z.1.2.2.1) (tl := 64 * a.1 + a.2) Q.ro hr hlt2 ht Q.rc5 d1 d2 h
  rw [heq]
  generalize apV z.1.1 z.1.2.1 (apF z.1.1 (30 * rr) (64 * a.1 + a.2) z.1.2.2.1 (nn (z.1.2.1 rr))) (nn (z.1.2.1 rr) + 1) z.1.2.2.2 = A at rows keep ⊢
  have rowsame : ¬ 500 < A.2.2.2 → ∀ r, r < z.1.2.2.2 → rowV A.1 A.2.1 r = rowV z.1.1 z.1.2.1 r := by
    intro h r h1
    obtain ⟨-, -, k3⟩ := keep h
    obtain ⟨s1, s2⟩ := k3 r h1
    have := (Q.ro r h1).1.2.1
    unfold rowV
    rw [s1]
    exact lsA_same (fun k hk => s2 k (by omega))
  by_cases c5 : 500 < A.2.2.2
  · rw [if_pos c5]
    refine ⟨fun u h => (by cases h), fun k u _ => ?_⟩
    rcases rows with ⟨-, r2, -⟩ | ⟨r1, r2, -⟩
    · have := Q.rc5; omega
    · refine Or.inr ⟨VZ z ++ [insL (64 * a.1 + a.2) (rowV z.1.1 z.1.2.1 rr)], ?_, ?_, ?_⟩
      · refine List.pairwise_append.mpr ⟨Q.nd, List.pairwise_singleton _ _, fun x hx b hb e => ?_⟩
        rw [List.mem_singleton] at hb
        exact r1 (by rw [← hb, ← e]; exact hx)
      · exact fun x hx => (List.mem_append.mp hx).elim (fun q => (Q.ok x q).2) (fun e => by rw [List.mem_singleton.mp e]; exact hrch)
      · rw [List.length_append, rows_len]
        show 500 < z.1.2.2.2 + 1
        omega
  · rw [if_neg c5]
    refine ⟨fun u h => ?_, fun k u h => (by cases h)⟩
    cases h
    obtain ⟨k1, k2, k3⟩ := keep c5
    have hV : ∃ M, rowsV A.1 A.2.1 A.2.2.2 = VZ z ++ M ∧ (M = [] ∨ (M = [insL (64 * a.1 + a.2) (rowV z.1.1 z.1.2.1 rr)] ∧ insL (64 * a.1 + a.2) (rowV z.1.1 z.1.2.1 rr) ∉ VZ z)) ∧ insL (64 * a.1 + a.2) (rowV z.1.1 z.1.2.1 rr) ∈ VZ z ++ M := by
      rcases rows with ⟨r1, r2, r3, r4⟩ | ⟨r1, r2, r3⟩
      · exact ⟨[], by rw [r2, r3, r4, List.append_nil], Or.inl rfl, by rw [List.append_nil]; exact r1⟩
      · refine ⟨_, by rw [r2]; exact r3 (by omega), Or.inr ⟨rfl, r1⟩, List.mem_append.mpr (Or.inr (List.mem_singleton.mpr rfl))⟩
    obtain ⟨M, hM, hM2, hM3⟩ := hV
    refine ⟨⟨k1, by show 1 ≤ A.2.2.2; have := Q.rc1; omega, by show A.2.2.2 ≤ 500; omega, ?_, ?_, ?_⟩, ⟨M, hM⟩, k2, rowsame c5 rr hr, rfl, rfl, a, hg, by show _ ∈ rowsV A.1 A.2.1 A.2.2.2; rw [hM]; exact hM3⟩
    · show rowV A.1 A.2.1 0 = []
      rw [rowsame c5 0 (by have := Q.rc1; omega)]
      exact Q.v0
    · show (rowsV A.1 A.2.1 A.2.2.2).Nodup
      rw [hM]
      rcases hM2 with e | ⟨e, hno⟩
      · rw [e, List.append_nil]; exact Q.nd
      · rw [e]
        refine List.pairwise_append.mpr ⟨Q.nd, List.pairwise_singleton _ _, fun x hx b hb q => ?_⟩
        rw [List.mem_singleton] at hb
        exact hno (by rw [← hb, ← q]; exact hx)
    · show ∀ x, x ∈ rowsV A.1 A.2.1 A.2.2.2 → _
      rw [hM]
      intro x hx
      rcases List.mem_append.mp hx with q | q
      · exact Q.ok x q
      · rcases hM2 with e | ⟨e, -⟩
        · rw [e] at q; cases q
        · rw [e] at q
          rw [List.mem_singleton.mp q]
          exact ⟨K1, hrch⟩
