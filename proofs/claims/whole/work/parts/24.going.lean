/-! sets of beats; which are wrong, whether the play goes -/
def p_set (q : Nat → Bool) : Nat → Nat → Nat → Nat
  | 0, _, acc => acc
  | len + 1, i, acc => p_set q len (i + 1) (acc ||| (if q i then 2 ^ i else 0))
theorem p_set_bit (q : Nat → Bool) : ∀ len i acc j, (p_set q len i acc).testBit j = (acc.testBit j || (decide (i ≤ j) && decide (j < i + len) && q j))
  | 0, i, acc, j => by
    have : (decide (i ≤ j) && decide (j < i + 0)) = false := by
      by_cases h : i ≤ j <;> simp [h] <;> omega
    rw [p_set, this]
    simp
  | len + 1, i, acc, j => by
    rw [p_set, p_set_bit q len (i + 1), Nat.testBit_or]
    by_cases e : j = i
    · subst e
      cases hq : q j with
      | true => simp [hq, Nat.testBit_two_pow]
      | false => simp [hq]
    · have h1 : (if q i = true then 2 ^ i else 0).testBit j = false := by
        by_cases h : q i = true
        · rw [if_pos h, Nat.testBit_two_pow]
          simp; omega
        · rw [if_neg h]; simp
      rw [h1]
      have h2 : (decide (i + 1 ≤ j) && decide (j < i + 1 + len)) = (decide (i ≤ j) && decide (j < i + (len + 1))) := by
        rw [Bool.eq_iff_iff]
        simp only [Bool.and_eq_true, decide_eq_true_eq]
        omega
      rw [h2]
      simp
theorem p_set_lt (q : Nat → Bool) (len : Nat) : p_set q len 0 0 < 2 ^ len := by
  apply Nat.lt_pow_two_of_testBit
  intro j hj
  rw [p_set_bit]
  simp
  omega
theorem p_set_zero (q : Nat → Bool) (len : Nat) : p_set q len 0 0 = 0 ↔ ∀ j, j < len → q j = false := by
  constructor
  · intro h j hj
    have := p_set_bit q len 0 0 j
    rw [h] at this
    simp at this
    exact this hj
  · intro h
    apply Nat.eq_of_testBit_eq
    intro j
    rw [p_set_bit]
    by_cases hj : j < len
    · simp [h j hj]
    · simp [hj]
def p_ws (S : p_S) : Nat := p_set (p_wr S) (p_nb S) 0 0
def p_go (S : p_S) : Bool := decide (p_ws S = 0)
theorem p_go_iff (S : p_S) : p_go S = true ↔ ∀ k, k < p_nb S → p_wr S k = false := by
  unfold p_go
  rw [decide_eq_true_eq]
  exact p_set_zero _ _
theorem p_ws_lt {S : p_S} (g : p_Good S) : p_ws S < 4096 := by
  have h1 : p_ws S < 2 ^ p_nb S := p_set_lt _ _
  have h2 : 2 ^ p_nb S ≤ 2 ^ 12 := Nat.pow_le_pow_right (by decide) g.2.1
  omega
section GOING
variable {B : q_St} {S : p_S}
theorem bX_wrongBeats_4 (h : p_RB B S) (g : p_Good S) : ∀ (len n i acc : Nat), i + len = p_nb S → len < n → f_X0_wrongBeats_4 B n (nI acc) (nI i) = some (nI (p_set (p_wr S) len i acc)) := by
  have h8 := g.2.1
  intro len
  induction len with
  | zero =>
    intro n i acc hi hn
    obtain ⟨m, rfl⟩ := p_suc (show 0 < n by omega)
    rw [f_X0_wrongBeats_4, h.2.1, if_pos (nI_le (by omega) (by omega))]
    rfl
  | succ len ih =>
    intro n i acc hi hn
    obtain ⟨m, rfl⟩ := p_suc (show 0 < n by omega)
    rw [f_X0_wrongBeats_4, h.2.1, if_neg (nI_ge (show i < p_nb S by omega) (by omega)), bX_isWrong h g (by omega), p_bind, p_set]
    have e0 : nI i + 1 = nI (i + 1) := nI_1 i
    cases hb : p_wr S i with
    | false =>
      rw [if_pos (show p_b false = 0 from rfl), e0, ih m (i + 1) acc (by omega) (by omega)]
      simp
    | true =>
      rw [if_neg (show ¬ p_b true = 0 by decide), p_shl i (by omega), fa_or, e0, ih m (i + 1) _ (by omega) (by omega)]
      rfl
theorem bX_wrongBeats (h : p_RB B S) (g : p_Good S) : f_X0_wrongBeats B = some (nI (p_ws S)) := by
  have h8 := g.2.1
  unfold f_X0_wrongBeats
  have := bX_wrongBeats_4 h g (p_nb S) q_N 0 0 (by omega) (by rw [q_N_eq]; omega)
  rw [nI_0] at this
  exact this
theorem bX_isGoing (h : p_RB B S) (g : p_Good S) : f_X0_isGoing B = some (p_b (p_go S)) := by
  have h9 := p_ws_lt g
  unfold f_X0_isGoing p_go
  rw [bX_wrongBeats h g, p_bind]
  by_cases z : p_ws S = 0
  · rw [if_pos (by rw [z]; rfl)]
    simp [z, p_b]
  · rw [if_neg (show ¬ nI (p_ws S) = (0 : Int32) from fun e => z ((nI_eq (b := 0) (by omega) (by omega)).mp e))]
    simp [z, p_b]
end GOING
