/-! the reference: the set of wrong beats -/
section GOINGN
variable {M : q_St} {S : p_S}
theorem bN_wrongBeats_4 (h : p_RN (M.2 0) S) (g : p_Good S) : ∀ (len n i acc : Nat), i + len = p_nb S → len < n → f_X6_wrongBeats_4 M n (nI acc) (nI i) = some (nI (p_set (p_wr S) len i acc)) := by
  have h8 := g.2.1
  intro len
  induction len with
  | zero =>
    intro n i acc hi hn
    obtain ⟨m, rfl⟩ := p_suc (show 0 < n by omega)
    rw [f_X6_wrongBeats_4, show ∀ A : Option Int32, q_ix (1 : Int32) 68 A = A from p_q68 1 (by decide), show (1 : Int32).toNatClampNeg = 1 from rfl, h.2.1, if_pos (nI_le (by omega) (by omega))]
    rfl
  | succ len ih =>
    intro n i acc hi hn
    obtain ⟨m, rfl⟩ := p_suc (show 0 < n by omega)
    rw [f_X6_wrongBeats_4, show ∀ A : Option Int32, q_ix (1 : Int32) 68 A = A from p_q68 1 (by decide), show (1 : Int32).toNatClampNeg = 1 from rfl, h.2.1, if_neg (nI_ge (show i < p_nb S by omega) (by omega)), bN_isWrong h g (by omega), p_bind, p_set]
    have e0 : nI i + 1 = nI (i + 1) := nI_1 i
    cases hb : p_wr S i with
    | false =>
      rw [if_pos (show p_b false = 0 from rfl), show (0 : Int32) = nI 0 from rfl, fa_or, e0, ih m (i + 1) _ (by omega) (by omega)]
      simp
    | true =>
      rw [if_neg (show ¬ p_b true = 0 by decide), p_shl i (by omega), fa_or, e0, ih m (i + 1) _ (by omega) (by omega)]
      rfl
theorem bN_wrongBeats (h : p_RN (M.2 0) S) (g : p_Good S) : f_X6_wrongBeats M = some (nI (p_ws S)) := by
  have h8 := g.2.1
  unfold f_X6_wrongBeats
  have := bN_wrongBeats_4 h g (p_nb S) q_N 0 0 (by omega) (by rw [q_N_eq]; omega)
  rw [nI_0] at this
  exact this
theorem bN_doesGo (h : p_RN (M.2 0) S) (g : p_Good S) : f_X6_doesGo M = some (p_b (p_go S)) := by
  have h9 := p_ws_lt g
  unfold f_X6_doesGo p_go
  rw [bN_wrongBeats h g, p_bind]
  by_cases z : p_ws S = 0
  · rw [if_pos (show nI (p_ws S) = (0 : Int32) by rw [z]; rfl)]
    simp [z, p_b]
  · rw [if_neg (show ¬ nI (p_ws S) = (0 : Int32) from fun e => z ((nI_eq (b := 0) (by omega) (by omega)).mp e))]
    simp [z, p_b]
end GOINGN
