/-! the reference: what it is worth to go from a hold to a hold -/
def p_df (a b : Nat) : Nat := if a = b then 0 else 1
def p_wb (S : p_S) (a b c d w : Nat) : Nat := if w = 0 then p_df a c + p_df b d else p_tk S a c + p_tk S b d
section WORTHN
variable {M : q_St} {S : p_S}
theorem bN_worthBetween (h : p_RN (M.2 0) S) (g : p_Good S) {a b c d w : Nat} (ha : a ≤ p_nd S) (hb : b ≤ p_nd S) (hc : c ≤ p_nd S) (hd : d ≤ p_nd S) (hw : w < 2) : f_X6_worthBetween M (nI (p_hd a b)) (nI (p_hd c d)) (nI w) = some (nI (p_wb S a b c d w)) := by
  have h8 := g.1
  unfold f_X6_worthBetween p_wb p_df
  by_cases w0 : w = 0
  · rw [if_pos (show nI w = (0 : Int32) by rw [w0]; rfl), if_pos w0, p_leftX a (by omega) b (by omega), p_bind, p_leftX c (by omega) d (by omega), p_bind, p_rightX a (by omega) b (by omega), p_bind, p_rightX c (by omega) d (by omega), p_bind]
    by_cases e : a = c
    · rw [if_pos (congrArg p_hc e), if_pos e]
      by_cases f : b = d
      · rw [if_pos (congrArg p_hc f), if_pos f]; rfl
      · rw [if_neg (fun z => f ((p_hc_eq (by omega) (by omega)).mp z)), if_neg f]; rfl
    · rw [if_neg (fun z => e ((p_hc_eq (by omega) (by omega)).mp z)), if_neg e, p_bind, p_bind]
      by_cases f : b = d
      · rw [if_pos (congrArg p_hc f), if_pos f]; rfl
      · rw [if_neg (fun z => f ((p_hc_eq (by omega) (by omega)).mp z)), if_neg f]; rfl
  · rw [if_neg (show ¬ nI w = (0 : Int32) from fun e => w0 ((nI_eq (b := 0) (by omega) (by omega)).mp e)), if_neg w0, p_leftX a (by omega) b (by omega), p_bind, p_leftX c (by omega) d (by omega), p_bind, bN_takes h g ha hc, p_bind, p_rightX a (by omega) b (by omega), p_bind, p_rightX c (by omega) d (by omega), p_bind, bN_takes h g hb hd, p_bind, p_add]
end WORTHN
