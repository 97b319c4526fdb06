/-! what the right hand may hold beside the left one -/
def p_bc : Nat → Nat
  | 0 => 0
  | d + 1 => 2 ^ d
def p_inc (c : Nat) : Nat → Bool
  | 0 => false
  | d + 1 => c.testBit d
def p_rest (c a : Nat) : Nat := c &&& (255 ^^^ p_bc a)
def p_all (n a : Nat) : Nat := (2 * 2 ^ n - 1) &&& (511 ^^^ (2 * p_bc a))
def p_tz (r : Nat) : Nat := ((List.range 8).find? (fun j => r.testBit j)).getD 8
def p_ri1 (S : p_S) (c a : Nat) : Nat :=
  if p_rest c a = 0 then p_all (p_nd S) a
  else if p_rest c a = 2 ^ p_tz (p_rest c a) then (if p_w S (p_tz (p_rest c a)) = 1 then 0 else 2 * p_rest c a) else 0
def p_ri (S : p_S) (k a : Nat) : Nat :=
  if p_inc (p_c S k) a = true ∧ p_w S (a - 1) = 2 then 0 else p_ri1 S (p_c S k) a
theorem p_bcX : ∀ a, a < 9 → f_X0_bit (p_hc a) = some (nI (p_bc a)) := by decide +kernel
theorem p_restX : ∀ a, a < 9 → ∀ c, c < 256 → nI c &&& (nI (p_bc a) ^^^ (-1 : Int32)) = nI (p_rest c a) := by decide +kernel
theorem p_rest_lt : ∀ a, a < 9 → ∀ c, c < 256 → p_rest c a < 256 := by decide +kernel
theorem p_allX : ∀ n, n < 9 → ∀ a, a < 9 → (((2 : Int32) <<< (nI n &&& 31)) - (1 : Int32)) &&& (((2 : Int32) * nI (p_bc a)) ^^^ (-1 : Int32)) = nI (p_all n a) := by decide +kernel
theorem p_incX : ∀ a, a < 9 → ∀ c, c < 256 → f_X0_contains (nI c) (p_hc a) = some (p_b (p_inc c a)) := by decide +kernel
theorem p_tzX : ∀ r, r < 256 → r ≠ 0 → f_J6_numberOfTrailingZeros_0f7a4 (nI r) = some (nI (p_tz r)) := by decide +kernel
theorem p_tz_bit : ∀ r, r < 256 → r ≠ 0 → r.testBit (p_tz r) = true := by decide +kernel
theorem p_tz_lt : ∀ r, r < 256 → r ≠ 0 → p_tz r < 8 := by decide +kernel
theorem p_twoX : ∀ r, r < 256 → (2 : Int32) * nI r = nI (2 * r) := by decide +kernel
theorem p_rest_le (c a : Nat) : p_rest c a ≤ c := Nat.and_le_left
section RIGHTS
variable {B : q_St} {S : p_S}
theorem bX_rights_35 (h : p_RB B S) (g : p_Good S) (a1 a2 : Int32) {c a : Nat} (hc : c < 2 ^ p_nd S) (ha : a ≤ p_nd S) : f_X0_rightsBeside_35 B a1 a2 (p_hc a) (nI c) = some (nI (p_ri1 S c a)) := by
  have h8 := g.1
  have h9 : 2 ^ p_nd S ≤ 2 ^ 8 := Nat.pow_le_pow_right (by decide) g.1
  have hc8 : c < 256 := by omega
  have ha9 : a < 9 := by omega
  have hr := p_rest_lt a ha9 c hc8
  have hle := p_rest_le c a
  unfold f_X0_rightsBeside_35 p_ri1
  rw [p_bcX a ha9, p_bind, p_restX a ha9 c hc8]
  by_cases z : p_rest c a = 0
  · rw [if_pos (show nI (p_rest c a) = (0 : Int32) by rw [z]; rfl), if_pos z, p_bind, h.1, p_allX _ (by omega) a ha9]
  · rw [if_neg (show ¬ nI (p_rest c a) = (0 : Int32) from fun e => z ((nI_eq (b := 0) (by omega) (by omega)).mp e)), if_neg z]
    generalize hg : p_rest c a = r at *
    have t8 := p_tz_lt r hr z
    have tb := p_tz_bit r hr z
    have tn : p_tz r < p_nd S := by
      apply Classical.byContradiction
      intro hn
      have : 2 ^ p_nd S ≤ 2 ^ p_tz r := Nat.pow_le_pow_right (by decide) (by omega)
      rw [Nat.testBit_lt_two_pow (by omega)] at tb
      cases tb
    have tp : 2 ^ p_tz r ≤ 2 ^ 8 := Nat.pow_le_pow_right (by decide) (by omega)
    rw [p_tzX r hr z, p_bind, p_bitX (by omega), p_bind]
    by_cases y : r = 2 ^ p_tz r
    · rw [if_pos (show nI r = nI (2 ^ p_tz r) from congrArg nI y), if_pos y, bX_wantOf h g tn, p_bind]
      have hw : p_w S (p_tz r) < 3 := p_want_lt _
      by_cases w : p_w S (p_tz r) = 1
      · rw [if_pos (show nI (p_w S (p_tz r)) = (1 : Int32) by rw [w]; rfl), if_pos rfl, if_pos w]
        rfl
      · rw [if_neg (show ¬ nI (p_w S (p_tz r)) = (1 : Int32) from fun e => w ((nI_eq (b := 1) (by omega) (by omega)).mp e)), if_neg (show ¬ (1 : Int32) = 0 by decide), if_neg w, p_twoX r hr]
    · rw [if_neg (show ¬ nI r = nI (2 ^ p_tz r) from fun e => y ((nI_eq (by omega) (by omega)).mp e)), if_pos rfl, if_neg y]
      rfl
theorem bX_rightsBeside (h : p_RB B S) (g : p_Good S) {k a : Nat} (hk : k < p_nb S) (ha : a ≤ p_nd S) : f_X0_rightsBeside B (nI k) (p_hc a) = some (nI (p_ri S k a)) := by
  have h8 := g.1
  have hc := (g.k hk).1
  have hc8 := g.c8 hk
  unfold f_X0_rightsBeside p_ri
  rw [bX_castOf h g hk, p_bind, bX_isDollOrNone h g ha, p_bind, if_neg (show ¬ (1 : Int32) = 0 by decide), p_incX a (by omega) _ hc8, p_bind]
  cases hi : p_inc (p_c S k) a with
  | false =>
    rw [if_pos (show p_b false = 0 from rfl), bX_rights_35 h g _ _ hc ha, if_neg (by simp)]
  | true =>
    rw [if_neg (show ¬ p_b true = 0 by decide)]
    obtain ⟨d, rfl⟩ : ∃ d, a = d + 1 := by
      cases a with
      | zero => cases hi
      | succ d => exact ⟨d, rfl⟩
    have hw : p_w S d < 3 := p_want_lt _
    rw [show f_X0_wantOf B (p_hc (d + 1)) = some (nI (p_w S d)) from bX_wantOf h g (by omega), p_bind]
    by_cases w : p_w S d = 2
    · rw [if_pos (show nI (p_w S d) = (2 : Int32) by rw [w]; rfl), if_pos (show true = true ∧ p_w S (d + 1 - 1) = 2 from ⟨rfl, w⟩)]
      rfl
    · rw [if_neg (show ¬ nI (p_w S d) = (2 : Int32) from fun e => w ((nI_eq (b := 2) (by omega) (by omega)).mp e)), bX_rights_35 h g _ _ hc ha, if_neg (show ¬ (true = true ∧ p_w S (d + 1 - 1) = 2) from fun e => w e.2)]
theorem p_all_lt : ∀ n, n < 9 → ∀ a, a < 9 → p_all n a < 512 := by decide +kernel
theorem p_ri_lt (g : p_Good S) {k a : Nat} (hk : k < p_nb S) (ha : a ≤ p_nd S) : p_ri S k a < 512 := by
  have h8 := g.1
  have hr := p_rest_lt a (by omega) _ (g.c8 hk)
  have hl := p_all_lt (p_nd S) (by omega) a (by omega)
  unfold p_ri p_ri1
  split
  · decide
  · split
    · exact hl
    · split
      · split
        · decide
        · omega
      · decide
theorem p_hc_up : ∀ b, b < 9 → p_hc b + (1 : Int32) = nI b := by decide +kernel
theorem bX_isSuited (h : p_RB B S) (g : p_Good S) {k a b : Nat} (hk : k < p_nb S) (ha : a ≤ p_nd S) (hb : b ≤ p_nd S) : f_X0_isSuited B (nI k) (p_hc a) (p_hc b) = some (p_b ((p_ri S k a).testBit b)) := by
  have h8 := g.1
  unfold f_X0_isSuited
  rw [bX_isDollOrNone h g hb, p_bind, if_neg (show ¬ (1 : Int32) = 0 by decide), bX_rightsBeside h g hk ha, p_bind, p_hc_up b (by omega), p_contX (by omega), p_bind]
  cases (p_ri S k a).testBit b <;> rfl
def p_pr (S : p_S) (a w : Nat) : Nat := if w = 0 then 1 else if a = 0 then 1 else p_o S (a - 1) + p_h S (a - 1)
theorem bX_price (h : p_RB B S) (g : p_Good S) {a w : Nat} (ha : a ≤ p_nd S) (hw : w < 2) : f_X0_price B (p_hc a) (nI w) = some (nI (p_pr S a w)) := by
  have h8 := g.1
  unfold f_X0_price p_pr
  by_cases w0 : w = 0
  · rw [if_pos (show nI w = (0 : Int32) by rw [w0]; rfl), if_pos w0]
    rfl
  · rw [if_neg (show ¬ nI w = (0 : Int32) from fun e => w0 ((nI_eq (b := 0) (by omega) (by omega)).mp e)), if_neg w0]
    cases a with
    | zero => rw [p_hc0, if_pos rfl, if_pos rfl]; rfl
    | succ d =>
      rw [if_neg (show ¬ p_hc (d + 1) = (-1 : Int32) from fun e => absurd ((p_hc_m1 (by omega)).mp e) (by omega)), if_neg (by omega)]
      rw [show f_X0_onOf B (p_hc (d + 1)) = some (nI (p_o S d)) from bX_onOf h g (by omega), p_bind, show f_X0_hookOf B (p_hc (d + 1)) = some (nI (p_h S d)) from bX_hookOf h g (by omega), p_bind]
      rw [p_add]
      rfl
end RIGHTS
