def smN (f : Nat → Nat) : Nat → Nat
  | 0 => 0
  | n + 1 => smN f n + f n
theorem smN_eq {f g : Nat → Nat} : ∀ {n : Nat}, (∀ i, i < n → f i = g i) → smN f n = smN g n
  | 0, _ => rfl
  | n + 1, h => by rw [smN, smN, smN_eq (fun i hi => h i (by omega)), h n (by omega)]
theorem smN_one {f g : Nat → Nat} {j : Nat} : ∀ {n : Nat}, (∀ i, i < n → i ≠ j → f i = g i) → j < n → smN g n + f j = smN f n + g j
  | 0, _, h => absurd h (Nat.not_lt_zero _)
  | n + 1, h, hj => by
    rw [smN, smN]
    by_cases e : j = n
    · subst e
      rw [smN_eq (f := g) (g := f) (fun i hi => (h i (by omega) (by omega)).symm)]
      omega
    · have := smN_one (n := n) (fun i hi => h i (by omega)) (by omega)
      rw [h n (by omega) (fun z => e z.symm)]
      omega
theorem smN_le {f : Nat → Nat} {c : Nat} : ∀ {n : Nat}, (∀ i, i < n → f i ≤ c) → smN f n ≤ c * n
  | 0, _ => Nat.le_refl _
  | n + 1, h => by
    have := smN_le (n := n) (fun i hi => h i (by omega))
    have := h n (by omega)
    rw [smN, Nat.mul_succ]
    omega
abbrev lenT (v : Int64) : Nat := (tyL v).length
theorem lenT_le (v : Int64) : lenT v ≤ 64 := by
  show (bl 64 1 (un v)).length ≤ 64
  rw [bl_len]
  exact pop_le 64 _
def rowS (o : Nat → Int64) (r : Nat) : Nat := smN (fun x => lenT (o (42 * r + x))) 42
def allS (o : Nat → Int64) : Nat := smN (rowS o) 42
theorem rowS_le (o : Nat → Int64) (r : Nat) : rowS o r ≤ 2688 := smN_le (c := 64) (fun i _ => lenT_le _)
theorem rowS_upd {o : Nat → Int64} {q : Nat} {v : Int64} (r : Nat) : rowS (vp_updL o q v) r + (if q / 42 = r then lenT (o q) else 0) = rowS o r + (if q / 42 = r then lenT v else 0) := by
  by_cases e : q / 42 = r
  · rw [if_pos e, if_pos e]
    unfold rowS
    have := smN_one (f := fun x => lenT (o (42 * r + x))) (g := fun x => lenT (vp_updL o q v (42 * r + x))) (j := q % 42) (n := 42) (fun i hi hne => by
      show lenT (o (42 * r + i)) = lenT (vp_updL o q v (42 * r + i))
      rw [pk_uLn (by omega)]) (by omega)
    rw [show 42 * r + q % 42 = q by omega, pk_uLs] at this
    exact this
  · rw [if_neg e, if_neg e]
    unfold rowS
    rw [smN_eq (f := fun x => lenT (vp_updL o q v (42 * r + x))) (g := fun x => lenT (o (42 * r + x))) (fun i hi => by show lenT (vp_updL o q v (42 * r + i)) = lenT (o (42 * r + i)); rw [pk_uLn (by omega)])]
theorem allS_upd {o : Nat → Int64} {q : Nat} {v : Int64} (hq : q < 1764) : allS (vp_updL o q v) + lenT (o q) = allS o + lenT v := by
  have := smN_one (f := rowS o) (g := rowS (vp_updL o q v)) (j := q / 42) (n := 42) (fun i hi hne => by
    have := rowS_upd (o := o) (q := q) (v := v) i
    rw [if_neg (fun z => hne z.symm), if_neg (fun z => hne z.symm)] at this
    omega) (by omega)
  have h2 := rowS_upd (o := o) (q := q) (v := v) (q / 42)
  rw [if_pos rfl, if_pos rfl] at h2
  unfold allS
  omega
theorem nI_chg {a b c : Nat} (h : b ≤ a) : nI a + (nI c - nI b) = nI (a - b + c) := by
  apply Int32.toBitVec_inj.mp
  apply BitVec.eq_of_toNat_eq
  have h1 : nI a + (nI c - nI b) = nI a - nI b + nI c := by
    rw [Int32.sub_eq_add_neg, Int32.sub_eq_add_neg, Int32.add_comm (nI c), ← Int32.add_assoc]
  rw [h1, pk_sub h, nI_add]
def ok3 (r : (Nat → Int64) × (Nat → Int32) × Int32) : Prop := (∀ i, i < 42 → r.2.1 i = nI (rowS r.1 i)) ∧ r.2.2 = nI (allS r.1)
theorem ok3_step {ce sd st : Nat → Int32} {be : Nat → Int64} {wa : Int32} {q : Nat} {r : (Nat → Int64) × (Nat → Int32) × Int32} (hq : q < 1764) (h : ok3 r) : ok3 (raS ce sd st be wa q r) := by
  have hb : bcL (raN ce sd st be wa q) = nI (lenT (raN ce sd st be wa q)) := bcL_len _
  have hb2 : bcL (r.1 q) = nI (lenT (r.1 q)) := bcL_len _
  have ha := allS_upd (o := r.1) (v := raN ce sd st be wa q) hq
  have la : lenT (r.1 q) ≤ allS r.1 := by
    have h0 := allS_upd (o := r.1) (v := 0) hq
    have : lenT (0 : Int64) = 0 := by decide +kernel
    omega
  refine ⟨fun i hi => ?_, ?_⟩
  · have hr := rowS_upd (o := r.1) (q := q) (v := raN ce sd st be wa q) i
    show upd r.2.1 (q / 42) (r.2.1 (q / 42) + (bcL (raN ce sd st be wa q) - bcL (r.1 q))) i = nI (rowS (vp_updL r.1 q (raN ce sd st be wa q)) i)
    by_cases e : i = q / 42
    · subst e
      have h0 := rowS_upd (o := r.1) (q := q) (v := 0) (q / 42)
      rw [if_pos rfl, if_pos rfl] at h0 hr
      have : lenT (0 : Int64) = 0 := by decide +kernel
      rw [pk_us, h.1 _ hi, hb, hb2, nI_chg (by omega)]
      congr 1
      omega
    · rw [if_neg (fun z => e z.symm), if_neg (fun z => e z.symm)] at hr
      rw [pk_un e, h.1 i hi]
      congr 1
      omega
  · show r.2.2 + (bcL (raN ce sd st be wa q) - bcL (r.1 q)) = nI (allS (vp_updL r.1 q (raN ce sd st be wa q)))
    rw [h.2, hb, hb2, nI_chg la]
    congr 1
    omega
theorem raL_open {ce sd st : Nat → Int32} {be : Nat → Int64} {wa : Int32} {p : Nat} {r : (Nat → Int64) × (Nat → Int32) × Int32} : ∀ (k q : Nat), (raL ce sd st be wa p r k).1 q = if (∃ j, j < k ∧ nb p j = q) then raN ce sd st be wa q else r.1 q
  | 0, q => by rw [raL, if_neg (by rintro ⟨j, h, -⟩; omega)]
  | k + 1, q => by
    rw [raL]
    show vp_updL (raL ce sd st be wa p r k).1 (nb p k) (raN ce sd st be wa (nb p k)) q = _
    by_cases e : q = nb p k
    · subst e
      rw [pk_uLs, if_pos ⟨k, by omega, rfl⟩]
    · rw [pk_uLn e, raL_open k q]
      by_cases c : ∃ j, j < k ∧ nb p j = q
      · rw [if_pos c]
        obtain ⟨j, h1, h2⟩ := c
        rw [if_pos ⟨j, by omega, h2⟩]
      · rw [if_neg c, if_neg]
        rintro ⟨j, h1, h2⟩
        rcases Nat.lt_succ_iff_lt_or_eq.mp h1 with d | d
        · exact c ⟨j, d, h2⟩
        · subst d; exact e h2.symm
theorem raL_ok3 {ce sd st : Nat → Int32} {be : Nat → Int64} {wa : Int32} {p : Nat} {r : (Nat → Int64) × (Nat → Int32) × Int32} (hp : ∀ k, nb p k < 1764) (h : ok3 r) : ∀ k, ok3 (raL ce sd st be wa p r k)
  | 0 => h
  | k + 1 => ok3_step (hp k) (raL_ok3 hp h k)
theorem nb_back {p q k : Nat} (hp1 : 43 ≤ p) (hq1 : 43 ≤ q) (hk : k < 4) (h : nb q k = p) : nb p (opp k) = q := by
  rcases (show k = 0 ∨ k = 1 ∨ k = 2 ∨ k = 3 by omega) with rfl | rfl | rfl | rfl
  · have h : q + 42 = p := h
    show p - 42 = q
    omega
  · have h : q + 1 = p := h
    show p - 1 = q
    omega
  · have h : q - 42 = p := h
    show p + 42 = q
    omega
  · have h : q - 1 = p := h
    show p + 1 = q
    omega
theorem raN_same {ce ce' sd st : Nat → Int32} {be : Nat → Int64} {wa : Int32} {q : Nat} (h : ce' q = ce q) (h2 : ce q = 0 → ∀ k, k < 4 → ce' (nb q k) = ce (nb q k)) : raN ce' sd st be wa q = raN ce sd st be wa q := by
  unfold raN
  rw [h]
  by_cases e : ce q = 0
  · rw [if_pos e, if_pos e]
    unfold fitV
    congr 1
    have : ∀ k, k ≤ 4 → fitL ce' sd st be q (nI 15) k = fitL ce sd st be q (nI 15) k := by
      intro k
      induction k with
      | zero => intro _; rfl
      | succ k ih =>
        intro hk
        rw [fitL, fitL, ih (by omega)]
        unfold fitS
        rw [h2 e k (by omega)]
    exact this 4 (Nat.le_refl _)
  · rw [if_neg e, if_neg e]
abbrev Ro (ce sd st : Nat → Int32) (be : Nat → Int64) (wa : Int32) (r : (Nat → Int64) × (Nat → Int32) × Int32) : Prop := (∀ q, q < 1764 → r.1 q = raN ce sd st be wa q) ∧ (ok3 r)
theorem Ro.op {ce sd st : Nat → Int32} {be : Nat → Int64} {wa : Int32} {r : (Nat → Int64) × (Nat → Int32) × Int32} (h9 : Ro ce sd st be wa r) : ∀ q, q < 1764 → r.1 q = raN ce sd st be wa q := h9.1
theorem Ro.sm {ce sd st : Nat → Int32} {be : Nat → Int64} {wa : Int32} {r : (Nat → Int64) × (Nat → Int32) × Int32} (h9 : Ro ce sd st be wa r) : ok3 r := h9.2
theorem Ro_upd {ce sd st : Nat → Int32} {be : Nat → Int64} {wa x : Int32} {r : (Nat → Int64) × (Nat → Int32) × Int32} {p : Nat} (hz : ∀ q, q < 1764 → ce q = 0 → 43 ≤ q ∧ q ≤ 1720) (hp1 : 43 ≤ p) (hp2 : p ≤ 1720) (h : Ro ce sd st be wa r) : Ro (upd ce p x) sd st be wa (raL (upd ce p x) sd st be wa p r 5) := by
  refine ⟨fun q hq => ?_, raL_ok3 (fun k => nb_lt hp1 hp2 k) h.sm 5⟩
  rw [raL_open]
  by_cases c : ∃ j, j < 5 ∧ nb p j = q
  · rw [if_pos c]
  · rw [if_neg c, h.op q hq]
    have hne : q ≠ p := fun z => c ⟨4, by decide, by rw [z]; rfl⟩
    refine (raN_same (pk_un hne) (fun hz0 k hk => pk_un (fun z => c ⟨opp k, by have := opp_lt k; omega, nb_back hp1 (hz q hq hz0).1 hk z⟩))).symm
