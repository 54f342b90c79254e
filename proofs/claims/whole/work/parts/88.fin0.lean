abbrev ND : Type := List Nat
theorem sub_len {α : Type} [DecidableEq α] : ∀ {l m : List α}, l.Nodup → (∀ x, x ∈ l → x ∈ m) → l.length ≤ m.length
  | [], _, _, _ => Nat.zero_le _
  | a :: l, m, hn, hs => by
    have hn' := List.nodup_cons.mp hn
    have ha : a ∈ m := hs a List.mem_cons_self
    have := sub_len (l := l) (m := m.erase a) hn'.2 (fun x hx => (List.mem_erase_of_ne (fun e => hn'.1 (by rw [← e]; exact hx))).mpr (hs x (List.mem_cons_of_mem _ hx)))
    rw [List.length_erase_of_mem ha] at this
    have := List.length_pos_of_mem ha
    rw [List.length_cons]
    omega
def Rch (nx : ND → List ND) (a x : ND) : Prop := ∀ P : ND → Prop, P a → (∀ b c, P b → c ∈ nx b → P c) → P x
theorem Rch_here {nx : ND → List ND} {a : ND} : Rch nx a a := fun _ h _ => h
theorem Rch_step {nx : ND → List ND} {a b c : ND} (h : Rch nx a b) (hc : c ∈ nx b) : Rch nx a c := fun P h1 h2 => h2 b c (h P h1 h2) hc
abbrev All (nx : ND → List ND) (sz : ND → Nat) (a : ND) (mx top : Nat) (V : List ND) : Prop := (V.Nodup) ∧ (a ∈ V) ∧ (∀ x, x ∈ V → Rch nx a x) ∧ (∀ x, x ∈ V → ∀ y, y ∈ nx x → y ∈ V) ∧ (V.length ≤ mx) ∧ (∀ x, x ∈ V → nx x ≠ [] → sz x < top)
theorem All.nd {nx : ND → List ND} {sz : ND → Nat} {a : ND} {mx top : Nat} {V : List ND} (h9 : All nx sz a mx top V) : V.Nodup := h9.1
theorem All.one {nx : ND → List ND} {sz : ND → Nat} {a : ND} {mx top : Nat} {V : List ND} (h9 : All nx sz a mx top V) : a ∈ V := h9.2.1
theorem All.rch {nx : ND → List ND} {sz : ND → Nat} {a : ND} {mx top : Nat} {V : List ND} (h9 : All nx sz a mx top V) : ∀ x, x ∈ V → Rch nx a x := h9.2.2.1
theorem All.cl {nx : ND → List ND} {sz : ND → Nat} {a : ND} {mx top : Nat} {V : List ND} (h9 : All nx sz a mx top V) : ∀ x, x ∈ V → ∀ y, y ∈ nx x → y ∈ V := h9.2.2.2.1
theorem All.le {nx : ND → List ND} {sz : ND → Nat} {a : ND} {mx top : Nat} {V : List ND} (h9 : All nx sz a mx top V) : V.length ≤ mx := h9.2.2.2.2.1
theorem All.dp {nx : ND → List ND} {sz : ND → Nat} {a : ND} {mx top : Nat} {V : List ND} (h9 : All nx sz a mx top V) : ∀ x, x ∈ V → nx x ≠ [] → sz x < top := h9.2.2.2.2.2
def Bad (nx : ND → List ND) (sz : ND → Nat) (a : ND) (mx top : Nat) : Prop :=
  (∃ x, Rch nx a x ∧ nx x ≠ [] ∧ top ≤ sz x) ∨ ∃ V : List ND, V.Nodup ∧ (∀ x, x ∈ V → Rch nx a x) ∧ mx < V.length
theorem All_rch {nx : ND → List ND} {sz : ND → Nat} {a : ND} {mx top : Nat} {V : List ND} (h : All nx sz a mx top V) {x : ND} (hx : Rch nx a x) : x ∈ V := hx (fun x => x ∈ V) h.one (fun b c hb hc => h.cl b hb c hc)
theorem All_Bad {nx : ND → List ND} {sz : ND → Nat} {a : ND} {mx top : Nat} {V : List ND} (h : All nx sz a mx top V) : ¬ Bad nx sz a mx top := by
  rintro (⟨x, h1, h2, h3⟩ | ⟨W, h1, h2, h3⟩)
  · have := h.dp x (All_rch h h1) h2
    omega
  · have := sub_len h1 (fun x hx => All_rch h (h2 x hx))
    have := h.le
    omega
theorem All_fin {nx : ND → List ND} {sz : ND → Nat} {a : ND} {mx top : Nat} {V W : List ND} (h : All nx sz a mx top V) (g : All nx sz a mx top W) (p : ND → Bool) : (V.filter p).length = (W.filter p).length := by
  have key : ∀ {V W : List ND}, All nx sz a mx top V → All nx sz a mx top W → (V.filter p).length ≤ (W.filter p).length := by
    intro V W h g
    refine sub_len (List.Pairwise.filter _ h.nd) (fun x hx => ?_)
    rw [List.mem_filter] at hx ⊢
    exact ⟨All_rch g (h.rch x hx.1), hx.2⟩
  exact Nat.le_antisymm (key h g) (key g h)
