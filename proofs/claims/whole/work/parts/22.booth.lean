/-! THE BOOTH: what each small function of it answers, of a booth that is S -/
def p_want (k : Nat) : Nat := if k = 1 then 2 else if k = 3 then 1 else if k = 4 then 1 else 0
def p_on (k z : Nat) : Nat := if k = 1 then 1 else if k = 2 then 3 else if k = 3 then 2 * z else if k = 4 then 2 * z + 3 else if k = 5 then (if 1 < z / 2 then z / 2 else 1) else if k = 6 then 6 else z
def p_voi (k : Nat) : Nat := if k = 1 then 1 else 0
def p_und (k t : Nat) : Bool := (([[0], [1, 0], [2, 1, 0], [3, 0], [4, 3, 0], [5, 0], [6, 2, 1, 0]] : List (List Nat)).getD k []).contains t
def p_b (b : Bool) : Int32 := if b then 1 else 0
theorem p_b0 (b : Bool) : p_b b = 0 ↔ b = false := by cases b <;> decide
theorem p_wantX : ∀ k, k < 7 → f_X1_wanted (nI k) = some (nI (p_want k)) := by decide +kernel
theorem p_onX : ∀ k, k < 7 → ∀ z, z < 10 → f_X1_on (nI k) (nI z) = some (nI (p_on k z)) := by decide +kernel
theorem p_voiX : ∀ k, k < 7 → f_X1_voice (nI k) = some (nI (p_voi k)) := by decide +kernel
theorem p_undX : ∀ k, k < 7 → ∀ t, t < 7 → f_X1_isUnder (nI k) (nI t) = some (p_b (p_und k t)) := by decide +kernel
theorem p_want_lt : ∀ k, p_want k < 3 := fun k => by unfold p_want; split <;> (try split) <;> (try split) <;> decide
theorem p_on_lt : ∀ k, k < 7 → ∀ z, z < 10 → 1 ≤ p_on k z + (if z = 0 then 1 else 0) ∧ p_on k z < 22 := by decide
/-- the doll d wants; takes to put on; speaks -/
abbrev p_w (S : p_S) (d : Nat) : Nat := p_want (p_k S d)
abbrev p_o (S : p_S) (d : Nat) : Nat := p_on (p_k S d) (p_z S d)
section BOOTH
variable {B : q_St} {S : p_S}
theorem bX_isDoll (h : p_RB B S) (g : p_Good S) {d : Nat} (hd : d < p_nd S) : f_X0_isDoll B (nI d) = some 1 := by
  have := g.1
  unfold f_X0_isDoll
  rw [if_neg (nI_pos (by omega)), h.1, if_neg (nI_ge hd (by omega))]
theorem bX_isDollN (h : p_RB B S) {x : Int32} (hx : x < 0 ∨ nI (p_nd S) ≤ x) : f_X0_isDoll B x = some 0 := by
  unfold f_X0_isDoll
  by_cases h0 : x < 0
  · rw [if_pos h0]
  · rw [if_neg h0, h.1, if_pos (hx.resolve_left h0)]
theorem bX_isBeat (h : p_RB B S) (g : p_Good S) {k : Nat} (hk : k < p_nb S) : f_X0_isBeat B (nI k) = some 1 := by
  have := g.2.1
  unfold f_X0_isBeat
  rw [if_neg (nI_pos (by omega)), h.2.1, if_neg (nI_ge hk (by omega))]
theorem bX_isBeatN (h : p_RB B S) {x : Int32} (hx : x < 0 ∨ nI (p_nb S) ≤ x) : f_X0_isBeat B x = some 0 := by
  unfold f_X0_isBeat
  by_cases h0 : x < 0
  · rw [if_pos h0]
  · rw [if_neg h0, h.2.1, if_pos (hx.resolve_left h0)]
theorem p_RB.d (h : p_RB B S) {d : Nat} (hd : d < p_nd S) : B.2 10 d = nI (p_k S d) ∧ B.2 11 d = nI (p_z S d) ∧ B.2 12 d = nI (p_h S d) := h.2.2.2.2.2.2.2.2.2.2.1 d hd
theorem p_RB.k (h : p_RB B S) {k : Nat} (hk : k < p_nb S) : B.2 13 k = nI (p_c S k) ∧ B.2 14 k = p_hc (p_s S k) := h.2.2.2.2.2.2.2.2.2.2.2.1 k hk
theorem p_Good.d (g : p_Good S) {d : Nat} (hd : d < p_nd S) : p_k S d < 7 ∧ 1 ≤ p_z S d ∧ p_z S d ≤ 9 ∧ p_h S d < 8 := g.2.2.2.2.2.2.1 d hd
theorem p_Good.k (g : p_Good S) {k : Nat} (hk : k < p_nb S) : p_c S k < 2 ^ p_nd S ∧ p_s S k ≤ p_nd S := g.2.2.2.2.2.2.2.1 k hk
theorem p_Good.c8 (g : p_Good S) {k : Nat} (hk : k < p_nb S) : p_c S k < 256 := by
  have h1 := (g.k hk).1
  have h2 : 2 ^ p_nd S ≤ 2 ^ 8 := Nat.pow_le_pow_right (by decide) g.1
  omega
theorem bX_kindOf (h : p_RB B S) (g : p_Good S) {d : Nat} (hd : d < p_nd S) : f_X0_kindOf B (nI d) = some (nI (p_k S d)) := by
  have := g.1
  unfold f_X0_kindOf
  rw [bX_isDoll h g hd, p_bind, if_neg (by decide), p_ix (by omega) (by omega), p_cl (by omega), (h.d hd).1]
theorem bX_sizeOf (h : p_RB B S) (g : p_Good S) {d : Nat} (hd : d < p_nd S) : f_X0_sizeOf B (nI d) = some (nI (p_z S d)) := by
  have := g.1
  unfold f_X0_sizeOf
  rw [bX_isDoll h g hd, p_bind, if_neg (by decide), p_ix (by omega) (by omega), p_cl (by omega), (h.d hd).2.1]
theorem bX_hookOf (h : p_RB B S) (g : p_Good S) {d : Nat} (hd : d < p_nd S) : f_X0_hookOf B (nI d) = some (nI (p_h S d)) := by
  have := g.1
  unfold f_X0_hookOf
  rw [bX_isDoll h g hd, p_bind, if_neg (by decide), p_ix (by omega) (by omega), p_cl (by omega), (h.d hd).2.2]
theorem bX_wantOf (h : p_RB B S) (g : p_Good S) {d : Nat} (hd : d < p_nd S) : f_X0_wantOf B (nI d) = some (nI (p_w S d)) := by
  have := g.1
  unfold f_X0_wantOf
  rw [bX_isDoll h g hd, p_bind, if_neg (by decide), p_ix (by omega) (by omega), p_cl (by omega), (h.d hd).1, p_wantX _ (g.d hd).1, p_bind]
theorem bX_voiceOf (h : p_RB B S) (g : p_Good S) {d : Nat} (hd : d < p_nd S) : f_X0_voiceOf B (nI d) = some (nI (p_voi (p_k S d))) := by
  have := g.1
  unfold f_X0_voiceOf
  rw [bX_isDoll h g hd, p_bind, if_neg (by decide), p_ix (by omega) (by omega), p_cl (by omega), (h.d hd).1, p_voiX _ (g.d hd).1, p_bind]
theorem bX_onOf (h : p_RB B S) (g : p_Good S) {d : Nat} (hd : d < p_nd S) : f_X0_onOf B (nI d) = some (nI (p_o S d)) := by
  have := g.1
  have h9 := g.d hd
  unfold f_X0_onOf
  rw [bX_isDoll h g hd, p_bind, if_neg (by decide), p_ix (by omega) (by omega), p_ix (by omega) (by omega), p_cl (by omega), (h.d hd).1, (h.d hd).2.1, p_onX _ h9.1 _ (by omega), p_bind]
theorem bX_castOf (h : p_RB B S) (g : p_Good S) {k : Nat} (hk : k < p_nb S) : f_X0_castOf B (nI k) = some (nI (p_c S k)) := by
  have := g.2.1
  unfold f_X0_castOf
  rw [bX_isBeat h g hk, p_bind, if_neg (by decide), p_ix (by omega) (by omega), p_cl (by omega), (h.k hk).1]
theorem bX_speakerOf (h : p_RB B S) (g : p_Good S) {k : Nat} (hk : k < p_nb S) : f_X0_speakerOf B (nI k) = some (p_hc (p_s S k)) := by
  have := g.2.1
  unfold f_X0_speakerOf
  rw [bX_isBeat h g hk, p_bind, if_neg (by decide), p_ix (by omega) (by omega), p_cl (by omega), (h.k hk).2]
theorem bX_isDollOrNone (h : p_RB B S) (g : p_Good S) {c : Nat} (hc : c ≤ p_nd S) : f_X0_isDollOrNone B (p_hc c) = some 1 := by
  unfold f_X0_isDollOrNone
  cases c with
  | zero => rw [p_hc0, if_pos rfl]
  | succ d =>
    have := g.1
    rw [p_hcs, if_neg, bX_isDoll h g (by omega), p_bind, if_neg (by decide)]
    intro z
    exact absurd (show nI d < 0 by rw [z]; decide) (nI_pos (by omega))
theorem p_shl : ∀ d, d < 31 → (1 : Int32) <<< (nI d &&& 31) = nI (2 ^ d) := by decide +kernel
theorem p_bitX {d : Nat} (h : d < 31) : f_X0_bit (nI d) = some (nI (2 ^ d)) := by
  unfold f_X0_bit
  rw [if_neg, p_shl d h]
  intro z
  exact absurd (show nI d < 0 by rw [z]; decide) (nI_pos (by omega))
theorem p_bitX0 : f_X0_bit (-1) = some 0 := rfl
theorem p_contX {c d : Nat} (h : d < 31) : f_X0_contains (nI c) (nI d) = some (p_b (c.testBit d)) := by
  unfold f_X0_contains
  rw [p_bitX h, p_bind]
  by_cases z : c.testBit d = false
  · rw [if_pos ((fa_bit h).mpr z), z]; rfl
  · rw [if_neg (fun q => z ((fa_bit h).mp q))]
    rw [Bool.not_eq_false] at z
    rw [z]; rfl
end BOOTH
