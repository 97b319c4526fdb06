/-! THE MATHEMATICS: one value S for both sides. S.1: 0 dolls, 1 beats, 2 left, 3 right (0: nothing, d+1: doll d), 4 leaves; S.2.1: rows 0 kind, 1 size, 2 hook, 3 cast, 4 speaks (0: nobody, d+1), 5 spots (0: nothing, d+1); S.2.2: 0 z, 1 changes, 2 time, 3 played, 4 lost -/
abbrev p_S : Type := (Nat → Nat) × (Nat → Nat → Nat) × (Nat → Int32)
abbrev p_nd (S : p_S) : Nat := S.1 0
abbrev p_nb (S : p_S) : Nat := S.1 1
abbrev p_l (S : p_S) : Nat := S.1 2
abbrev p_r (S : p_S) : Nat := S.1 3
abbrev p_lea (S : p_S) : Nat := S.1 4
abbrev p_k (S : p_S) (d : Nat) : Nat := S.2.1 0 d
abbrev p_z (S : p_S) (d : Nat) : Nat := S.2.1 1 d
abbrev p_h (S : p_S) (d : Nat) : Nat := S.2.1 2 d
abbrev p_c (S : p_S) (k : Nat) : Nat := S.2.1 3 k
abbrev p_s (S : p_S) (k : Nat) : Nat := S.2.1 4 k
abbrev p_t (S : p_S) (i : Nat) : Nat := S.2.1 5 i
/-- a coded doll as the programs have it -/
def p_hc : Nat → Int32
  | 0 => -1
  | d + 1 => nI d
def p_Good (S : p_S) : Prop := p_nd S ≤ 8 ∧ p_nb S ≤ 12 ∧ p_l S ≤ p_nd S ∧ p_r S ≤ p_nd S ∧ (p_l S = p_r S → p_l S = 0) ∧ p_lea S ≤ 10 ∧ (∀ d, d < p_nd S → p_k S d < 7 ∧ 1 ≤ p_z S d ∧ p_z S d ≤ 9 ∧ p_h S d < 8) ∧ (∀ k, k < p_nb S → p_c S k < 2 ^ p_nd S ∧ p_s S k ≤ p_nd S) ∧ (∀ i, i < 10 → p_t S i ≤ p_nd S)
/-- the class's booth is S -/
def p_RB (B : q_St) (S : p_S) : Prop := B.1 0 = nI (p_nd S) ∧ B.1 1 = nI (p_nb S) ∧ B.1 2 = p_hc (p_l S) ∧ B.1 3 = p_hc (p_r S) ∧ B.1 4 = nI (p_lea S) ∧ B.1 5 = S.2.2 0 ∧ B.1 6 = S.2.2 1 ∧ B.1 7 = S.2.2 2 ∧ B.1 8 = S.2.2 3 ∧ B.1 9 = S.2.2 4 ∧ (∀ d, d < p_nd S → B.2 10 d = nI (p_k S d) ∧ B.2 11 d = nI (p_z S d) ∧ B.2 12 d = nI (p_h S d)) ∧ (∀ k, k < p_nb S → B.2 13 k = nI (p_c S k) ∧ B.2 14 k = p_hc (p_s S k)) ∧ (∀ i, i < 10 → B.2 15 i = p_hc (p_t S i))
/-- the reference's row is S -/
def p_RN (N : Nat → Int32) (S : p_S) : Prop := N 0 = nI (p_nd S) ∧ N 1 = nI (p_nb S) ∧ N 2 = p_hc (p_l S) ∧ N 3 = p_hc (p_r S) ∧ N 8 = nI (p_lea S) ∧ N 9 = S.2.2 0 ∧ N 4 = S.2.2 1 ∧ N 5 = S.2.2 2 ∧ N 6 = S.2.2 3 ∧ N 7 = S.2.2 4 ∧ (∀ d, d < p_nd S → N (20 + 3 * d) = nI (p_k S d) ∧ N (21 + 3 * d) = nI (p_z S d) ∧ N (22 + 3 * d) = nI (p_h S d)) ∧ (∀ k, k < p_nb S → N (44 + k) = nI (p_c S k) ∧ N (56 + k) = p_hc (p_s S k)) ∧ (∀ i, i < 10 → N (10 + i) = p_hc (p_t S i))
/-! numbers -/
theorem p_bind {α β : Type} {x : α} (f : α → Option β) : Option.bind (some x) f = f x := rfl
theorem p_lit (n : Nat) : (OfNat.ofNat n : Int32) = nI n := rfl
theorem p_ix {τ : Type} {j n : Nat} (h : j < n) (hn : n < 2 ^ 31) (A : Option τ) : q_ix (nI j) n A = A := by
  unfold q_ix
  rw [if_neg]
  exact nI_in h hn
theorem p_cl {n : Nat} (h : n < 2 ^ 31) : (nI n).toNatClampNeg = n := nI_clamp h
theorem p_add (a b : Nat) : nI a + nI b = nI (a + b) := nI_add a b
theorem p_mul (a b : Nat) : nI a * nI b = nI (a * b) := pk_mul a b
theorem p_hc0 : p_hc 0 = -1 := rfl
theorem p_hcs (d : Nat) : p_hc (d + 1) = nI d := rfl
theorem p_hc_lt {c : Nat} (h : c < 2 ^ 31) : p_hc c < 0 ↔ c = 0 := by
  cases c with
  | zero => exact ⟨fun _ => rfl, fun _ => by decide⟩
  | succ d => exact ⟨fun z => absurd z (nI_pos (by omega)), fun z => absurd z (by omega)⟩
theorem p_hc_eq {a b : Nat} (ha : a < 2 ^ 31) (hb : b < 2 ^ 31) : p_hc a = p_hc b ↔ a = b := by
  cases a with
  | zero =>
    cases b with
    | zero => simp
    | succ d =>
      refine ⟨fun z => ?_, fun z => by omega⟩
      have : (nI d) < 0 := by rw [show nI d = p_hc 0 from z.symm]; decide
      exact absurd this (nI_pos (by omega))
  | succ c =>
    cases b with
    | zero =>
      refine ⟨fun z => ?_, fun z => by omega⟩
      have : (nI c) < 0 := by rw [show nI c = p_hc 0 from z]; decide
      exact absurd this (nI_pos (by omega))
    | succ d =>
      rw [p_hcs, p_hcs, nI_eq (by omega) (by omega)]
      omega
theorem p_hc_m1 {c : Nat} (h : c < 2 ^ 31) : p_hc c = -1 ↔ c = 0 := by
  rw [← p_hc0]; exact p_hc_eq h (by omega)
/-- any int against a number: below, at or above, or one of them -/
theorem p_cases (x : Int32) {n : Nat} (hn : n < 2 ^ 31) : (x < 0 ∨ nI n ≤ x) ∨ ∃ j, j < n ∧ x = nI j := by
  rcases pk_ix x hn with h | h | h
  · exact Or.inl (Or.inl h)
  · exact Or.inl (Or.inr h)
  · exact Or.inr h
