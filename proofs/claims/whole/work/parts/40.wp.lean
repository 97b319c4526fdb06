/-! answers with a post; ints of small numbers by simp -/
def p_wp {α : Type} (o : Option α) (P : α → Prop) : Prop := ∃ a, o = some a ∧ P a
theorem p_wp_some {α : Type} {a : α} {P : α → Prop} : p_wp (some a) P ↔ P a :=
  ⟨fun ⟨b, h, p⟩ => by cases h; exact p, fun p => ⟨a, rfl, p⟩⟩
theorem p_wp_bind {α β : Type} {o : Option α} {f : α → Option β} {P : β → Prop} : p_wp (Option.bind o f) P ↔ p_wp o (fun a => p_wp (f a) P) := by
  constructor
  · rintro ⟨b, h, p⟩
    cases o with
    | none => cases h
    | some a => exact ⟨a, rfl, b, h, p⟩
  · rintro ⟨a, h, b, h2, p⟩
    subst h
    exact ⟨b, h2, p⟩
theorem p_wp_of {α : Type} {o : Option α} {a : α} {P : α → Prop} (h : o = some a) (p : P a) : p_wp o P := ⟨a, h, p⟩
theorem p_wp_mono {α : Type} {o : Option α} {P Q : α → Prop} (h : p_wp o P) (i : ∀ a, P a → Q a) : p_wp o Q := by
  obtain ⟨a, h, p⟩ := h
  exact ⟨a, h, i a p⟩
theorem p_wp_seq {α β : Type} {o : Option α} {f : α → Option β} {P : α → Prop} {Q : β → Prop} (h : p_wp o P) (i : ∀ a, P a → p_wp (f a) Q) : p_wp (Option.bind o f) Q := by
  obtain ⟨a, h, p⟩ := h
  subst h
  exact i a p
theorem p_L0 : (0 : Int32) = nI 0 := rfl
theorem p_L1 : (1 : Int32) = nI 1 := rfl
theorem p_L2 : (2 : Int32) = nI 2 := rfl
theorem p_L3 : (3 : Int32) = nI 3 := rfl
theorem p_L4 : (4 : Int32) = nI 4 := rfl
theorem p_L5 : (5 : Int32) = nI 5 := rfl
theorem p_L6 : (6 : Int32) = nI 6 := rfl
theorem p_L7 : (7 : Int32) = nI 7 := rfl
theorem p_L8 : (8 : Int32) = nI 8 := rfl
theorem p_L9 : (9 : Int32) = nI 9 := rfl
theorem p_L10 : (10 : Int32) = nI 10 := rfl
theorem p_L11 : (11 : Int32) = nI 11 := rfl
theorem p_L12 : (12 : Int32) = nI 12 := rfl
theorem p_L20 : (20 : Int32) = nI 20 := rfl
theorem p_L40 : (40 : Int32) = nI 40 := rfl
theorem p_L44 : (44 : Int32) = nI 44 := rfl
theorem p_L56 : (56 : Int32) = nI 56 := rfl
theorem p_L68 : (68 : Int32) = nI 68 := rfl
theorem p_L81 : (81 : Int32) = nI 81 := rfl
theorem p_L972 : (972 : Int32) = nI 972 := rfl
theorem p_L1053 : (1053 : Int32) = nI 1053 := rfl
theorem p_LM : (1000000 : Int32) = nI 1000000 := rfl
theorem p_Lm1 : -(nI 1) = p_hc 0 := rfl
/-- sums -/
def p_sum (f : Nat → Nat) : Nat → Nat → Nat
  | 0, _ => 0
  | len + 1, i => f i + p_sum f len (i + 1)
section TEST
variable {B : q_St} {S : p_S}
theorem bX_sizes_4 (h : p_RB B S) (g : p_Good S) : ∀ (len n i acc : Nat), i + len = p_nd S → len < n → f_X0_sizesTogether_4 B n (nI acc) (nI i) = some (nI (acc + p_sum (p_z S) len i)) := by
  have h8 := g.1
  intro len
  induction len with
  | zero =>
    intro n i acc hi hn
    obtain ⟨m, rfl⟩ := p_suc (show 0 < n by omega)
    rw [f_X0_sizesTogether_4]
    simp (disch := omega) only [h.1, nI_leI, if_pos, p_sum, Nat.add_zero]
  | succ len ih =>
    intro n i acc hi hn
    obtain ⟨m, rfl⟩ := p_suc (show 0 < n by omega)
    rw [f_X0_sizesTogether_4]
    simp (disch := omega) only [h.1, nI_leI, if_neg, bX_sizeOf h g, p_bind, p_L1, p_add, ih, p_sum, Nat.add_assoc]
theorem bX_sizes (h : p_RB B S) (g : p_Good S) : f_X0_sizesTogether B = some (nI (p_sum (p_z S) (p_nd S) 0)) := by
  have h8 := g.1
  unfold f_X0_sizesTogether
  simp (disch := (first | omega | (rw [q_N_eq]; omega))) only [p_L0, bX_sizes_4 h g (p_nd S), Nat.zero_add]
end TEST
