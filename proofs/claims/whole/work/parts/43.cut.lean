def smM (m : Nat → Bool) (f : Nat → Int) : Nat → Int
  | 0 => 0
  | i + 1 => smM m f i + (if m i then f i else 0)
theorem smM_add {m : Nat → Bool} {f g h : Nat → Int} (e : ∀ i, g i = f i + h i) : ∀ n, smM m g n = smM m f n + smM m h n
  | 0 => rfl
  | n + 1 => by
    rw [smM, smM, smM, smM_add e n, e]
    split <;> omega
theorem smM_one {m : Nat → Bool} (k : Nat) (v : Int) : ∀ n, smM m (fun j => if j = k then v else 0) n = if k < n ∧ m k = true then v else 0
  | 0 => by rw [smM, if_neg (by omega)]
  | n + 1 => by
    rw [smM, smM_one k v n]
    by_cases e : n = k
    · subst e
      rw [if_neg (by omega), if_pos rfl]
      by_cases c : m n = true
      · rw [if_pos c, if_pos ⟨by omega, c⟩]; omega
      · rw [if_neg c, if_neg (fun h => c h.2)]; rfl
    · rw [if_neg e, show (if m n = true then (0 : Int) else 0) = 0 by split <;> rfl, Int.add_zero]
      by_cases c : k < n ∧ m k = true
      · rw [if_pos c, if_pos ⟨by omega, c.2⟩]
      · rw [if_neg c, if_neg (fun h => c ⟨by omega, h.2⟩)]
theorem smM_le {m : Nat → Bool} {f g : Nat → Int} : ∀ n, (∀ i, i < n → m i = true → f i ≤ g i) → smM m f n ≤ smM m g n
  | 0, _ => Int.le_refl _
  | n + 1, h => by
    have := smM_le n (fun i hi => h i (by omega))
    rw [smM, smM]
    split
    · rename_i c
      have := h n (by omega) c
      omega
    · omega
theorem smM_eq {m : Nat → Bool} {f g : Nat → Int} (n : Nat) (h : ∀ i, i < n → m i = true → f i = g i) : smM m f n = smM m g n := by
  apply Int.le_antisymm
  · exact smM_le n (fun i hi c => Int.le_of_eq (h i hi c))
  · exact smM_le n (fun i hi c => Int.le_of_eq (h i hi c).symm)
theorem smM_0 {m : Nat → Bool} : ∀ n, smM m (fun _ => 0) n = 0
  | 0 => rfl
  | n + 1 => by
    rw [smM, smM_0 n]
    split <;> rfl
theorem smM_list {m : Nat → Bool} {f : Nat → Int} : ∀ n, smM m f n = (((List.range n).filter m).map f).sum
  | 0 => rfl
  | n + 1 => by
    rw [smM, smM_list n, List.range_succ, List.filter_append, List.map_append, List.sum_append_int]
    congr 1
    by_cases c : m n = true
    · rw [if_pos c, List.filter_cons_of_pos c]
      simp
    · rw [if_neg c, List.filter_cons_of_neg c]
      rfl
theorem perm_sumI {l1 l2 : List Int} (h : l1.Perm l2) : l1.sum = l2.sum := by
  induction h with
  | nil => rfl
  | cons x _ ih => rw [List.sum_cons, List.sum_cons, ih]
  | swap x y l => rw [List.sum_cons, List.sum_cons, List.sum_cons, List.sum_cons]; omega
  | trans _ _ ih1 ih2 => rw [ih1, ih2]
abbrev Gr (n : Nat) (c : Nat → Int) (L R : Nat → Nat) : Prop := (∀ i, i < 4 * n → 0 ≤ c i) ∧ (∀ i, i < 4 * n → c i ≠ 0 → L i < n ∧ R i < 4 * n ∧ R i / 4 = L i ∧ L (R i) = i / 4 ∧ R (R i) = i ∧ c (R i) = c i)
theorem Gr.pos {n : Nat} {c : Nat → Int} {L R : Nat → Nat} (h9 : Gr n c L R) : ∀ i, i < 4 * n → 0 ≤ c i := h9.1
theorem Gr.lk {n : Nat} {c : Nat → Int} {L R : Nat → Nat} (h9 : Gr n c L R) : ∀ i, i < 4 * n → c i ≠ 0 → L i < n ∧ R i < 4 * n ∧ R i / 4 = L i ∧ L (R i) = i / 4 ∧ R (R i) = i ∧ c (R i) = c i := h9.2
def ctM (c : Nat → Int) (L : Nat → Nat) (S : Nat → Bool) (i : Nat) : Bool := S (i / 4) && (!(c i == 0)) && !(S (L i))
theorem ctM_iff {c : Nat → Int} {L : Nat → Nat} {S : Nat → Bool} {i : Nat} : ctM c L S i = true ↔ S (i / 4) = true ∧ c i ≠ 0 ∧ S (L i) = false := by
  unfold ctM
  simp [and_assoc]
def cut (n : Nat) (c : Nat → Int) (L : Nat → Nat) (S : Nat → Bool) : Int := smM (ctM c L S) c (4 * n)
theorem cut_sym {n : Nat} {c : Nat → Int} {L R : Nat → Nat} (G : Gr n c L R) (S : Nat → Bool) : cut n c L S = cut n c L (fun t => !(S t)) := by
  unfold cut
  rw [smM_list, smM_list]
  have key : ∀ T : Nat → Bool, ∀ j, j ∈ (List.range (4 * n)).filter (ctM c L T) → R j ∈ (List.range (4 * n)).filter (ctM c L (fun t => !(T t))) ∧ R (R j) = j ∧ c (R j) = c j := by
    intro T j hj
    rw [List.mem_filter, List.mem_range, ctM_iff] at hj
    obtain ⟨h1, h2, h3, h4⟩ := hj
    obtain ⟨g1, g2, g3, g4, g5, g6⟩ := G.lk j h1 h3
    refine ⟨?_, g5, g6⟩
    rw [List.mem_filter, List.mem_range, ctM_iff, g3, g4, g6]
    exact ⟨g2, by rw [h4]; rfl, h3, by rw [h2]; rfl⟩
  have hn : ∀ T : Nat → Bool, ((List.range (4 * n)).filter (ctM c L T)).Nodup := fun T => List.Pairwise.filter _ List.nodup_range
  have hp : (((List.range (4 * n)).filter (ctM c L S)).map R).Perm ((List.range (4 * n)).filter (ctM c L (fun t => !(S t)))) := by
    refine (List.perm_ext_iff_of_nodup ?_ (hn _)).mpr ?_
    · refine List.pairwise_map.mpr ((hn S).imp_of_mem ?_)
      intro a b ha hb hab e
      exact hab (by rw [← (key S a ha).2.1, ← (key S b hb).2.1, e])
    · intro a
      rw [List.mem_map]
      constructor
      · rintro ⟨b, hb, rfl⟩
        exact (key S b hb).1
      · intro ha
        refine ⟨R a, ?_, (key _ a ha).2.1⟩
        have := (key _ a ha).1
        rw [show (fun t => !(!(S t))) = S from funext (fun t => Bool.not_not _)] at this
        exact this
  have h2 := perm_sumI (hp.map c)
  rw [← h2, List.map_map]
  congr 1
  exact List.map_congr_left (fun a ha => ((key S a ha).2.2).symm)
abbrev Rs (n : Nat) (c : Nat → Int) (R : Nat → Nat) (r : Nat → Int) : Prop := (∀ i, i < 4 * n → 0 ≤ r i) ∧ (∀ i, i < 4 * n → c i ≠ 0 → r i + r (R i) = 2 * c i) ∧ (∀ i, i < 4 * n → c i = 0 → r i = 0)
theorem Rs.pos {n : Nat} {c : Nat → Int} {R : Nat → Nat} {r : Nat → Int} (h9 : Rs n c R r) : ∀ i, i < 4 * n → 0 ≤ r i := h9.1
theorem Rs.two {n : Nat} {c : Nat → Int} {R : Nat → Nat} {r : Nat → Int} (h9 : Rs n c R r) : ∀ i, i < 4 * n → c i ≠ 0 → r i + r (R i) = 2 * c i := h9.2.1
theorem Rs.off {n : Nat} {c : Nat → Int} {R : Nat → Nat} {r : Nat → Int} (h9 : Rs n c R r) : ∀ i, i < 4 * n → c i = 0 → r i = 0 := h9.2.2
def chS (e b : Nat) (r : Nat → Int) : Nat → Int := fun j => r j + ((if j = b then 1 else 0) + (if j = e then -1 else 0))
def chI (s : Nat) (pv ed bk : Nat → Nat) : Nat → Nat → (Nat → Int) → (Nat → Int)
  | 0, _, r => r
  | f + 1, t, r => if t = s then r else chI s pv ed bk f (pv t) (chS (ed t) (bk t) r)
abbrev Wy (n : Nat) (c : Nat → Int) (L R : Nat → Nat) (s : Nat) (A : Nat → Prop) (rk pv ed bk : Nat → Nat) : Prop := (∀ t, A t → t ≠ s → t < n ∧ A (pv t) ∧ rk (pv t) < rk t ∧ ed t < 4 * n ∧ c (ed t) ≠ 0 ∧ ed t / 4 = pv t ∧ L (ed t) = t ∧ bk t = R (ed t))
theorem Wy.w {n : Nat} {c : Nat → Int} {L R : Nat → Nat} {s : Nat} {A : Nat → Prop} {rk pv ed bk : Nat → Nat} (h9 : Wy n c L R s A rk pv ed bk) : ∀ t, A t → t ≠ s → t < n ∧ A (pv t) ∧ rk (pv t) < rk t ∧ ed t < 4 * n ∧ c (ed t) ≠ 0 ∧ ed t / 4 = pv t ∧ L (ed t) = t ∧ bk t = R (ed t) := h9
theorem chS_res {n : Nat} {c : Nat → Int} {L R : Nat → Nat} (G : Gr n c L R) {e : Nat} (he : e < 4 * n) (hc : c e ≠ 0) (r : Nat → Int) (S : Nat → Bool) :
    smM (ctM c L S) (chS e (R e) r) (4 * n) = smM (ctM c L S) r (4 * n) + ((if S (L e) = true then 1 else 0) - (if S (e / 4) = true then 1 else 0)) := by
  obtain ⟨g1, g2, g3, g4, g5, g6⟩ := G.lk e he hc
  have hcr : c (R e) ≠ 0 := by rw [g6]; exact hc
  unfold chS
  rw [smM_add (f := r) (h := fun j => (if j = R e then 1 else 0) + (if j = e then -1 else 0)) (fun _ => rfl), smM_add (f := fun j => if j = R e then 1 else 0) (h := fun j => if j = e then -1 else 0) (fun _ => rfl), smM_one, smM_one]
  congr 1
  have a1 : (R e < 4 * n ∧ ctM c L S (R e) = true) ↔ (S (L e) = true ∧ S (e / 4) = false) := by
    rw [ctM_iff, g3, g4]
    exact ⟨fun h => ⟨h.2.1, h.2.2.2⟩, fun h => ⟨g2, h.1, hcr, h.2⟩⟩
  have a2 : (e < 4 * n ∧ ctM c L S e = true) ↔ (S (e / 4) = true ∧ S (L e) = false) := by
    rw [ctM_iff]
    exact ⟨fun h => ⟨h.2.1, h.2.2.2⟩, fun h => ⟨he, h.1, hc, h.2⟩⟩
  simp only [a1, a2]
  cases S (L e) <;> cases S (e / 4) <;> simp
theorem chS_rs {n : Nat} {c : Nat → Int} {L R : Nat → Nat} (G : Gr n c L R) {e : Nat} (he : e < 4 * n) (hc : c e ≠ 0) {r : Nat → Int} (h : Rs n c R r) (h1 : 1 ≤ r e) : Rs n c R (chS e (R e) r) := by
  obtain ⟨g1, g2, g3, g4, g5, g6⟩ := G.lk e he hc
  have hcr : c (R e) ≠ 0 := by rw [g6]; exact hc
  refine ⟨fun i hi => ?_, fun i hi ci => ?_, fun i hi ci => ?_⟩
  · have := h.pos i hi
    unfold chS
    by_cases q : i = e
    · subst q
      rw [if_pos rfl]
      split <;> omega
    · rw [if_neg q]
      split <;> omega
  · have := h.two i hi ci
    obtain ⟨q1, q2, q3, q4, q5, q6⟩ := G.lk i hi ci
    have e1 : (i = R e) ↔ (R i = e) := ⟨fun z => by rw [z, g5], fun z => by rw [← z, q5]⟩
    have e2 : (R i = R e) ↔ (i = e) := ⟨fun z => by rw [← q5, z, g5], fun z => by rw [z]⟩
    unfold chS
    simp only [e1, e2]
    omega
  · have := h.off i hi ci
    unfold chS
    rw [if_neg (fun z => hcr (by rw [← z]; exact ci)), if_neg (fun z => hc (by rw [← z]; exact ci))]
    omega
theorem chI_ok {n : Nat} {c : Nat → Int} {L R : Nat → Nat} (G : Gr n c L R) {s : Nat} {A : Nat → Prop} {rk pv ed bk : Nat → Nat} (Y : Wy n c L R s A rk pv ed bk) :
    ∀ (f t : Nat) (r : Nat → Int), A t → rk t < f → Rs n c R r → (∀ u, A u → u ≠ s → rk u ≤ rk t → 1 ≤ r (ed u)) →
      Rs n c R (chI s pv ed bk f t r) ∧ ∀ S : Nat → Bool, smM (ctM c L S) (chI s pv ed bk f t r) (4 * n) = smM (ctM c L S) r (4 * n) + ((if S t = true then 1 else 0) - (if S s = true then 1 else 0))
  | 0, t, r, _, h, _, _ => absurd h (Nat.not_lt_zero _)
  | f + 1, t, r, hA, hk, hr, h1 => by
    rw [chI]
    by_cases e : t = s
    · subst e
      rw [if_pos rfl]
      exact ⟨hr, fun S => by omega⟩
    · rw [if_neg e]
      obtain ⟨w1, w2, w3, w4, w5, w6, w7, w8⟩ := Y.w t hA e
      have := h1 t hA e (Nat.le_refl _)
      have ih := chI_ok G Y f (pv t) (chS (ed t) (bk t) r) w2 (by omega) (by rw [w8]; exact chS_rs G w4 w5 hr this) (fun u hu us hk => ?_)
      · refine ⟨ih.1, fun S => ?_⟩
        rw [ih.2 S, w8, chS_res G w4 w5 r S, w7, w6]
        omega
      · obtain ⟨v1, v2, v3, v4, v5, v6, v7, v8⟩ := Y.w u hu us
        have h2 := h1 u hu us (by omega)
        have hne : ed u ≠ ed t := fun z => by
          have : u = t := by rw [← v7, ← w7, z]
          subst this
          omega
        unfold chS
        rw [if_neg hne]
        split <;> omega
def Fl (n : Nat) (c : Nat → Int) (L R : Nat → Nat) (s : Nat) (T : Nat → Prop) (r : Nat → Int) (F : Nat) : Prop :=
  Rs n c R r ∧ ∀ S : Nat → Bool, S s = true → (∀ t, T t → S t = false) → smM (ctM c L S) r (4 * n) = cut n c L S - F
theorem Fl_0 {n : Nat} {c : Nat → Int} {L R : Nat → Nat} (G : Gr n c L R) (s : Nat) (T : Nat → Prop) : Fl n c L R s T c 0 :=
  ⟨⟨G.pos, fun i hi ci => by rw [(G.lk i hi ci).2.2.2.2.2]; omega, fun _ _ h => h⟩, fun S _ _ => by unfold cut; omega⟩
theorem Fl_le {n : Nat} {c : Nat → Int} {L R : Nat → Nat} {s : Nat} {T : Nat → Prop} {r : Nat → Int} {F : Nat} (h : Fl n c L R s T r F) {S : Nat → Bool} (h1 : S s = true) (h2 : ∀ t, T t → S t = false) : (F : Int) ≤ cut n c L S := by
  have e := h.2 S h1 h2
  have : smM (ctM c L S) (fun _ => 0) (4 * n) ≤ smM (ctM c L S) r (4 * n) := smM_le _ (fun i hi _ => h.1.pos i hi)
  rw [smM_0] at this
  omega
theorem Fl_end {n : Nat} {c : Nat → Int} {L R : Nat → Nat} {s : Nat} {T : Nat → Prop} {r : Nat → Int} {F : Nat} (h : Fl n c L R s T r F) {S : Nat → Bool} (h1 : S s = true) (h2 : ∀ t, T t → S t = false) (h3 : ∀ i, i < 4 * n → c i ≠ 0 → S (i / 4) = true → r i ≠ 0 → S (L i) = true) : (F : Int) = cut n c L S := by
  have e := h.2 S h1 h2
  have : smM (ctM c L S) r (4 * n) = smM (ctM c L S) (fun _ => 0) (4 * n) := smM_eq _ (fun i hi m => by
    rw [ctM_iff] at m
    by_cases q : r i = 0
    · exact q
    · have := h3 i hi m.2.1 m.1 q
      rw [m.2.2] at this
      cases this)
  rw [smM_0] at this
  omega
theorem Fl_go {n : Nat} {c : Nat → Int} {L R : Nat → Nat} (G : Gr n c L R) {s : Nat} {T A : Nat → Prop} {rk pv ed bk : Nat → Nat} (Y : Wy n c L R s A rk pv ed bk) {r : Nat → Int} {F f t : Nat} (h : Fl n c L R s T r F) (hA : A t) (hT : T t) (hf : rk t < f) (h1 : ∀ u, A u → u ≠ s → 1 ≤ r (ed u)) : Fl n c L R s T (chI s pv ed bk f t r) (F + 1) := by
  have := chI_ok G Y f t r hA hf h.1 (fun u hu us _ => h1 u hu us)
  refine ⟨this.1, fun S hS hTS => ?_⟩
  rw [this.2 S, h.2 S hS hTS, if_pos hS, if_neg (by rw [hTS t hT]; decide)]
  omega
def Lc (n : Nat) (c : Nat → Int) (L : Nat → Nat) (b m : Nat) (P : (Nat → Bool) → Prop) : Prop :=
  (∀ S, P S → (b : Int) ≤ cut n c L S) ∧ b ≤ m ∧ (b = m ∨ ∃ S : Nat → Bool, (∃ i, i < n ∧ S i = true) ∧ (∃ i, i < n ∧ S i = false) ∧ (b : Int) = cut n c L S)
theorem Lc_uniq {n : Nat} {c : Nat → Int} {L R : Nat → Nat} (G : Gr n c L R) (hn : 2 ≤ n) (h8 : ∀ i, i < 4 * n → c i ≤ 2) {b1 b2 m1 m2 : Nat} {P1 P2 : (Nat → Bool) → Prop} (g1 : Lc n c L b1 m1 P1) (g2 : Lc n c L b2 m2 P2) (hm1 : 8 ≤ m1) (hm2 : 8 ≤ m2)
    (a1 : ∀ S : Nat → Bool, S 0 = false → (∃ i, i < n ∧ S i = true) → P1 S) (a2 : ∀ S : Nat → Bool, S 0 = true → (∃ i, i < n ∧ S i = false) → P2 S) : b1 = b2 := by
  have e1 : ∀ S : Nat → Bool, (∃ i, i < n ∧ S i = true) → (∃ i, i < n ∧ S i = false) → (b1 : Int) ≤ cut n c L S := by
    intro S ⟨i, hi, si⟩ ⟨j, hj, sj⟩
    cases q : S 0 with
    | false => exact g1.1 S (a1 S q ⟨i, hi, si⟩)
    | true =>
      rw [cut_sym G]
      exact g1.1 _ (a1 _ (by rw [q]; rfl) ⟨j, hj, by rw [sj]; rfl⟩)
  have e2 : ∀ S : Nat → Bool, (∃ i, i < n ∧ S i = true) → (∃ i, i < n ∧ S i = false) → (b2 : Int) ≤ cut n c L S := by
    intro S ⟨i, hi, si⟩ ⟨j, hj, sj⟩
    cases q : S 0 with
    | true => exact g2.1 S (a2 S q ⟨j, hj, sj⟩)
    | false =>
      rw [cut_sym G]
      exact g2.1 _ (a2 _ (by rw [q]; rfl) ⟨i, hi, by rw [si]; rfl⟩)
  have h0 : ∃ S : Nat → Bool, (∃ i, i < n ∧ S i = true) ∧ (∃ i, i < n ∧ S i = false) ∧ cut n c L S ≤ 8 := by
    refine ⟨fun t => t == 0, ⟨0, by omega, rfl⟩, ⟨1, by omega, rfl⟩, ?_⟩
    unfold cut
    have : smM (ctM c L (fun t => t == 0)) c (4 * n) ≤ smM (fun i => decide (i < 4)) (fun _ => 2) (4 * n) := by
      have g : ∀ k, k ≤ 4 * n → smM (ctM c L (fun t => t == 0)) c k ≤ smM (fun i => decide (i < 4)) (fun _ => 2) k := by
        intro k
        induction k with
        | zero => intro _; exact Int.le_refl _
        | succ k ih =>
          intro hk
          have := ih (by omega)
          rw [smM, smM]
          split
          · rename_i q
            rw [ctM_iff] at q
            have h4 : k < 4 := by
              have := q.1
              simp at this
              omega
            rw [if_pos (decide_eq_true h4)]
            have := h8 k (by omega)
            omega
          · split <;> omega
      exact g _ (Nat.le_refl _)
    refine Int.le_trans this ?_
    have g : ∀ k, smM (fun i => decide (i < 4)) (fun _ => 2) (4 + k) = 8 := by
      intro k
      induction k with
      | zero => decide
      | succ k ih => rw [← Nat.add_assoc, smM, ih, if_neg (by simp)]; rfl
    rw [show 4 * n = 4 + (4 * n - 4) by omega, g]
    decide
  obtain ⟨S0, s1, s2, s3⟩ := h0
  have u1 := e1 S0 s1 s2
  have u2 := e2 S0 s1 s2
  have r1 : ∃ S : Nat → Bool, (∃ i, i < n ∧ S i = true) ∧ (∃ i, i < n ∧ S i = false) ∧ (b1 : Int) = cut n c L S := by
    rcases g1.2.2 with q | q
    · exact ⟨S0, s1, s2, by omega⟩
    · exact q
  have r2 : ∃ S : Nat → Bool, (∃ i, i < n ∧ S i = true) ∧ (∃ i, i < n ∧ S i = false) ∧ (b2 : Int) = cut n c L S := by
    rcases g2.2.2 with q | q
    · exact ⟨S0, s1, s2, by omega⟩
    · exact q
  obtain ⟨S1, x1, x2, x3⟩ := r1
  obtain ⟨S2, y1, y2, y3⟩ := r2
  have := e1 S2 y1 y2
  have := e2 S1 x1 x2
  omega
