theorem KV_keep {s : Nat → Int32} {y : Nat} {K : KS} {V : List ND} (Q : KV s y K V) (h5 : V.length < 500) {fr c : Nat} {l : ND} (hl : V[fr]? = some l) (hok : okND s y (insL c l)) (hn : insL c l ∉ V) (hc : c / 64 < 1600) : KV s y (kpF (nI (pcd c)) fr (mrk (insL c l)) K) (V ++ [insL c l]) := by
  have hfr : fr < V.length := by
    rcases Nat.lt_or_ge fr V.length with e | e
    · exact e
    · rw [List.getElem?_eq_none e] at hl; cases hl
  have hL : (V ++ [insL c l]).length = V.length + 1 := by rw [List.length_append]; rfl
  have old : ∀ i, i < V.length → (V ++ [insL c l])[i]? = V[i]? := fun i hi => List.getElem?_append_left hi
  have new : (V ++ [insL c l])[V.length]? = some (insL c l) := by
    rw [List.getElem?_append_right (Nat.le_refl _), Nat.sub_self]
    rfl
  have hf := Q.ln
  have hb : bkN (mrk (insL c l)) < 512 := Nat.mod_lt _ (by decide)
  obtain ⟨d1, d2⟩ := Q.hd _ hb
  unfold kpF
  rw [← hf]
  have mkO : ∀ j, j < V.length → upd K.2.2.1 V.length (mrk (insL c l)) j = K.2.2.1 j := fun j hj => pk_un (by omega)
  have mkN : upd K.2.2.1 V.length (mrk (insL c l)) V.length = mrk (insL c l) := pk_us
  refine ⟨hL, ?_, ?_, ?_, fun i i1 i2 => ?_, fun i i1 i2 => ?_, fun i i1 i2 => ?_, fun b hb2 => ?_, fun b hb2 => ?_⟩
  · rw [old 0 (by omega)]; exact Q.v0
  · refine List.pairwise_append.mpr ⟨Q.nd, List.pairwise_singleton _ _, fun a ha b hb e => ?_⟩
    rw [List.mem_singleton] at hb
    exact hn (by rw [← hb, ← e]; exact ha)
  · intro x hx
    rcases List.mem_append.mp hx with e | e
    · exact Q.ok x e
    · rw [List.mem_singleton.mp e]; exact hok
  · rw [hL] at i2
    rcases Nat.lt_succ_iff_lt_or_eq.mp i2 with e | e
    · obtain ⟨l', c', g1, g2, g3, g4, g5, g6⟩ := Q.ch i i1 e
      refine ⟨l', c', ?_, ?_, g3, ?_, by rw [old i e]; exact g5, ?_⟩
      · show nn (upd K.1 V.length (nI fr) i) < i
        rw [pk_un (by omega)]; exact g1
      · show (V ++ [insL c l])[nn (upd K.1 V.length (nI fr) i)]? = some l'
        rw [pk_un (by omega), old _ (by omega)]; exact g2
      · show upd K.2.1 V.length (nI (pcd c)) i = _
        rw [pk_un (by omega)]; exact g4
      · show upd K.2.2.1 V.length (mrk (insL c l)) i = _
        rw [mkO i e]; exact g6
    · subst e
      refine ⟨l, c, ?_, ?_, hc, pk_us, new, pk_us⟩
      · show nn (upd K.1 V.length (nI fr) V.length) < V.length
        rw [pk_us, nn_nI (by omega)]; exact hfr
      · show (V ++ [insL c l])[nn (upd K.1 V.length (nI fr) V.length)]? = some l
        rw [pk_us, nn_nI (by omega), old fr hfr]; exact hl
  · show nn (upd K.2.2.2.1 V.length (K.2.2.2.2.1 (bkN (mrk (insL c l)))) i) < i ∧ ∀ j, nn (upd K.2.2.2.1 V.length (K.2.2.2.2.1 (bkN (mrk (insL c l)))) i) < j → j < i → bkN (upd K.2.2.1 V.length (mrk (insL c l)) j) ≠ bkN (upd K.2.2.1 V.length (mrk (insL c l)) i)
    rw [hL] at i2
    rcases Nat.lt_succ_iff_lt_or_eq.mp i2 with e | e
    · obtain ⟨a, b⟩ := Q.hx i i1 e
      rw [pk_un (by omega), mkO i e]
      exact ⟨a, fun j h1 h2 => by rw [mkO j (by omega)]; exact b j h1 h2⟩
    · subst e
      rw [pk_us, mkN]
      exact ⟨d1, fun j h1 h2 => by rw [mkO j h2]; exact d2 j h1 h2⟩
  · show nn (upd K.2.2.2.1 V.length (K.2.2.2.2.1 (bkN (mrk (insL c l)))) i) ≠ 0 → bkN (upd K.2.2.1 V.length (mrk (insL c l)) (nn (upd K.2.2.2.1 V.length (K.2.2.2.2.1 (bkN (mrk (insL c l)))) i))) = bkN (upd K.2.2.1 V.length (mrk (insL c l)) i)
    rw [hL] at i2
    rcases Nat.lt_succ_iff_lt_or_eq.mp i2 with e | e
    · have a := (Q.hx i i1 e).1
      rw [pk_un (show i ≠ V.length by omega), mkO i e, mkO _ (by omega)]
      exact Q.hx2 i i1 e
    · subst e
      rw [pk_us, mkN, mkO _ d1]
      exact Q.hd2 _ hb
  · show nn (upd K.2.2.2.2.1 (bkN (mrk (insL c l))) (nI V.length) b) < (V ++ [insL c l]).length ∧ ∀ j, nn (upd K.2.2.2.2.1 (bkN (mrk (insL c l))) (nI V.length) b) < j → j < (V ++ [insL c l]).length → bkN (upd K.2.2.1 V.length (mrk (insL c l)) j) ≠ b
    rw [hL]
    by_cases e : b = bkN (mrk (insL c l))
    · rw [e, pk_us, nn_nI (by omega)]
      exact ⟨by omega, fun j h1 h2 => by omega⟩
    · rw [pk_un e]
      obtain ⟨a1, a2⟩ := Q.hd b hb2
      refine ⟨by omega, fun j h1 h2 => ?_⟩
      rcases Nat.lt_succ_iff_lt_or_eq.mp h2 with z | z
      · rw [mkO j z]; exact a2 j h1 z
      · rw [z, mkN]; exact fun q => e q.symm
  · show nn (upd K.2.2.2.2.1 (bkN (mrk (insL c l))) (nI V.length) b) ≠ 0 → bkN (upd K.2.2.1 V.length (mrk (insL c l)) (nn (upd K.2.2.2.2.1 (bkN (mrk (insL c l))) (nI V.length) b))) = b
    by_cases e : b = bkN (mrk (insL c l))
    · rw [e, pk_us, nn_nI (by omega), mkN]
      exact fun _ => rfl
    · rw [pk_un e]
      intro z
      rw [mkO _ (Q.hd b hb2).1]
      exact Q.hd2 b hb2 z
theorem KV_init {s : Nat → Int32} {y : Nat} (pa pr mk nx hd : Nat → Int32) (en : Int32) : KV s y (pa, pr, mk, nx, flI hd (nI 0) 512, 1, en) [[]] := by
  have h0 : ∀ b, b < 512 → nn (flI hd (nI 0) 512 b) = 0 := fun b hb => by rw [show flI hd (nI 0) 512 b = nI 0 from if_pos hb, nn_nI (by decide)]
  refine ⟨rfl, rfl, List.pairwise_singleton _ _, fun x hx => ?_, fun i i1 i2 => ?_, fun i i1 i2 => ?_, fun i i1 i2 => ?_, fun b hb => ?_, fun b hb h => ?_⟩
  · rw [List.mem_singleton.mp hx]
    exact ⟨List.Pairwise.nil, List.Pairwise.nil, fun c hc => by cases hc⟩
  · have i2 : i < 1 := i2
    omega
  · have i2 : i < 1 := i2
    omega
  · have i2 : i < 1 := i2
    omega
  · show nn (flI hd (nI 0) 512 b) < 1 ∧ ∀ j, nn (flI hd (nI 0) 512 b) < j → j < 1 → _
    rw [h0 b hb]
    exact ⟨by decide, fun j h1 h2 => by omega⟩
  · exact absurd (h0 b hb) h
theorem itK_ind {A : Nat → KS → Nat × KS} (I : Nat → KS → Prop) (B : Prop) : ∀ (n i : Nat) (K : KS), (∀ j K, i ≤ j → j < i + n → I j K → ((A j K).1 = 0 → B) ∧ ((A j K).1 ≠ 0 → I (j + 1) (A j K).2)) → I i K → ((itK A n i K).1 = 0 → B) ∧ ((itK A n i K).1 ≠ 0 → I (i + n) (itK A n i K).2)
  | 0, i, K, _, h => ⟨fun q => absurd q (by show ¬ (1 : Nat) = 0; decide), fun _ => h⟩
  | n + 1, i, K, hA, h => by
    obtain ⟨a, b⟩ := hA i K (Nat.le_refl _) (by omega) h
    rw [itK]
    by_cases c : (A i K).1 = 0
    · rw [if_pos c]
      exact ⟨fun _ => a c, fun q => absurd c q⟩
    · rw [if_neg c]
      have := itK_ind I B n (i + 1) (A i K).2 (fun j K h1 h2 => hA j K (by omega) (by omega)) (b c)
      rw [show i + 1 + n = i + (n + 1) by omega] at this
      exact this
theorem heV_congr {sg gl f g : Nat → Int32} (h : ∀ p, p < 1600 → f p = g p) {p t k : Nat} (hp : p < 1600) : heV sg gl f p t k = heV sg gl g p t k := by
  unfold heV
  by_cases c : bsV p k < 0
  · rw [if_pos c, if_pos c]
  · rw [if_neg c, if_neg c, h _ (bsV_nn hp c).2]
theorem hbL_congr {sg gl f g : Nat → Int32} (h : ∀ p, p < 1600 → f p = g p) {p t : Nat} {w : Int32} (hp : p < 1600) : ∀ k, hbL sg gl f p t w k = hbL sg gl g p t w k
  | 0 => rfl
  | k + 1 => by
    rw [hbL, hbL, hbL_congr h hp k]
    unfold hbS
    rw [heV_congr h hp]
theorem frL_congr {sg gl f g : Nat → Int32} {te : Int32} {y : Nat} (h : ∀ p, p < 1600 → f p = g p) : ∀ n p, p + n ≤ 1600 → frL sg gl f te y n p = frL sg gl g te y n p
  | 0, _, _ => rfl
  | n + 1, p, hn => by
    have hp : p < 1600 := by omega
    have em : ∀ t, myN sg gl f te p t = myN sg gl g te p t := fun t => by
      unfold myN
      rw [h p hp, hbL_congr h hp]
    have eT : ∀ m t, frT sg gl f te p m t = frT sg gl g te p m t := by
      intro m
      induction m with
      | zero => intro t; rfl
      | succ m ih =>
        intro t
        rw [frT, frT, em, ih]
    have eh : ∀ k, hnN f p k = hnN g p k := by
      intro k
      induction k with
      | zero => rfl
      | succ k ih =>
        rw [hnN, hnN, ih]
        by_cases c : bsV p k < 0
        · rw [if_pos c, if_pos c]
        · rw [if_neg c, if_neg c, h _ (bsV_nn hp c).2]
    rw [frL, frL, frL_congr h n (p + 1) (by omega)]
    unfold frP
    rw [h p hp, eh, eT]
theorem frL_of {sg gl fi : Nat → Int32} {te : Int32} {y : Nat} {x : Nat × Nat} {q : Nat} (hx : x ∈ frP sg gl fi te y q) : ∀ n p, p ≤ q → q < p + n → x ∈ frL sg gl fi te y n p
  | 0, p, h1, h2 => by omega
  | n + 1, p, h1, h2 => by
    rw [frL, List.mem_append]
    rcases Nat.eq_or_lt_of_le h1 with e | e
    · rw [e]; exact Or.inl hx
    · exact Or.inr (frL_of hx n (p + 1) e (by omega))
theorem mem_fr {z : FS} {st sd sg gl fi ip se : Nat → Int32} {be : Nat → Int64} {w y : Nat} {nt wb : Int32} (A : RA z st sd be w y sg gl fi ip se nt wb) {p t : Nat} : (p, t) ∈ frA sg gl fi w y ↔ p < 1600 ∧ t ∈ tyL (z.2.1 (pm p)) := by
  constructor
  · intro h
    obtain ⟨h1, h2, h3, h4, h5⟩ := frL_mem h
    have h2 : p < 1600 := by have h2 : p < 0 + 1600 := h2; omega
    have hy := A.T.yN
    have hpm := pm_in h2
    refine ⟨h2, tyL_mem.mpr ⟨h3, by have h4 : t ≤ y := h4; omega, ?_⟩⟩
    rw [A.F.O.op _ (show pm p < 1764 by omega)]
    exact (open_may A.F.C A.T A.w1 A.w3 h2 h3 (by have h4 : t ≤ y := h4; omega)).mpr ⟨h4, h5⟩
  · rintro ⟨h1, h2⟩
    have hpm := pm_in h1
    refine frL_of (q := p) ?_ 1600 0 (Nat.zero_le _) (by omega)
    rw [← tyL_fr A.F.C A.T A.w1 A.w3 h1, List.mem_map]
    exact ⟨t, by rw [← A.F.O.op _ (show pm p < 1764 by omega)]; exact h2, rfl⟩
def nxN (sg gl s : Nat → Int32) (w y : Nat) (l : ND) : List ND := (frA sg gl (nfL s l) w y).map (fun a => insL (64 * a.1 + a.2) l)
def fnc (sg gl s : Nat → Int32) (w y : Nat) (N : List ND) : Nat := (N.filter (fun x => (nxN sg gl s w y x).isEmpty)).length
def RAl (st sd : Nat → Int32) (be : Nat → Int64) (sg gl s : Nat → Int32) (w y : Nat) (z : FS) (l : ND) : Prop := ∃ fi ip se nt, RA z st sd be w y sg gl fi ip se nt (nI 0) ∧ ∀ p, p < 1600 → fi p = nfL s l p
theorem RAl_fr {st sd sg gl s : Nat → Int32} {be : Nat → Int64} {w y : Nat} {z : FS} {l : ND} (h : RAl st sd be sg gl s w y z l) : z.2.2.2.2.1 = nI (frA sg gl (nfL s l) w y).length ∧ (frA sg gl (nfL s l) w y).length ≤ 96000 ∧ (∀ p t, (p, t) ∈ frA sg gl (nfL s l) w y ↔ p < 1600 ∧ t ∈ tyL (z.2.1 (pm p))) := by
  obtain ⟨fi, ip, se, nt, A, e⟩ := h
  have ec : frA sg gl fi w y = frA sg gl (nfL s l) w y := frL_congr e 1600 0 (by decide)
  obtain ⟨a, b⟩ := RA_np A
  rw [ec] at a b
  exact ⟨a, b, fun p t => by rw [← ec]; exact mem_fr A⟩
