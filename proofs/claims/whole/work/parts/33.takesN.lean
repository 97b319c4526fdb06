/-! the reference: what a hand's change takes; holds -/
def p_tk (S : p_S) (a b : Nat) : Nat := if a = b then 0 else p_pr S b 1
section TAKESN
variable {M : q_St} {S : p_S}
theorem bN_takes (h : p_RN (M.2 0) S) (g : p_Good S) {a b : Nat} (ha : a ≤ p_nd S) (hb : b ≤ p_nd S) : f_X6_takes M (p_hc a) (p_hc b) = some (nI (p_tk S a b)) := by
  have h8 := g.1
  unfold f_X6_takes p_tk
  by_cases e : a = b
  · rw [if_pos (congrArg p_hc e), if_pos e]; rfl
  · rw [if_neg (fun z => e ((p_hc_eq (by omega) (by omega)).mp z)), if_neg e]
    cases b with
    | zero =>
      rw [p_hc0, if_neg (show ¬ (0 : Int32) ≤ -1 by decide)]
      rfl
    | succ d =>
      rw [p_hcs, if_pos (nI_pos' (by omega)), bN_takesOn h g (by omega), p_bind, bN_hook h g (by omega), p_bind, p_add]
      rfl
/-- a hold as one number -/
def p_hd (a b : Nat) : Nat := 9 * a + b
theorem p_leftX : ∀ a, a < 9 → ∀ b, b < 9 → f_X6_leftOf (nI (p_hd a b)) = some (p_hc a) := by decide +kernel
theorem p_rightX : ∀ a, a < 9 → ∀ b, b < 9 → f_X6_rightOf (nI (p_hd a b)) = some (p_hc b) := by decide +kernel
theorem bN_isHold (h : p_RN (M.2 0) S) (g : p_Good S) {a b : Nat} (ha : a ≤ p_nd S) (hb : b ≤ p_nd S) : f_X6_isHold M (p_hc a) (p_hc b) = some (p_b (!(decide (a = b) && decide (a ≠ 0)))) := by
  have h8 := g.1
  unfold f_X6_isHold
  rw [bN_maySpeak h g ha, p_bind, if_neg (show ¬ (1 : Int32) = 0 by decide), bN_maySpeak h g hb, p_bind, if_neg (show ¬ (1 : Int32) = 0 by decide)]
  by_cases e : a = b
  · subst e
    rw [if_pos rfl]
    cases a with
    | zero => rw [p_hc0, if_neg (show ¬ (0 : Int32) ≤ -1 by decide)]; simp [p_b]
    | succ d => rw [p_hcs, if_pos (nI_pos' (by omega))]; simp [p_b]
  · rw [if_neg (fun z => e ((p_hc_eq (by omega) (by omega)).mp z))]
    simp [e, p_b]
end TAKESN
