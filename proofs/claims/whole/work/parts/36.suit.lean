/-! the class's set of holds and the reference's question are one -/
theorem p_and0 (x m : Nat) (hx : x < 256) : (x &&& (255 ^^^ m) = 0) ↔ ∀ j, j < 8 → x.testBit j = true → m.testBit j = true := by
  have h255 : ∀ j, j < 8 → (255 : Nat).testBit j = true := by decide
  constructor
  · intro h j hj hb
    have := congrArg (fun n => Nat.testBit n j) h
    simp only [Nat.testBit_and, Nat.testBit_xor, h255 j hj, hb, Nat.zero_testBit, Bool.true_and] at this
    simpa using this
  · intro h
    apply Nat.eq_of_testBit_eq
    intro j
    rw [Nat.testBit_and, Nat.testBit_xor, Nat.zero_testBit]
    by_cases hj : j < 8
    · rw [h255 j hj]
      cases hb : x.testBit j with
      | false => rfl
      | true => rw [h j hj hb]; rfl
    · have : x < 2 ^ j := Nat.lt_of_lt_of_le hx (show 2 ^ 8 ≤ 2 ^ j from Nat.pow_le_pow_right (by decide) (by omega))
      rw [Nat.testBit_lt_two_pow this]; rfl
