/-! the reference: a hold suits a beat -/
def p_mL (S : p_S) (a : Nat) : Nat := if p_w S (a - 1) = 2 then 0 else p_bc a
def p_mR (S : p_S) (b : Nat) : Nat := if p_w S (b - 1) = 1 then 0 else p_bc b
def p_su (S : p_S) (c a b : Nat) : Bool := decide ((c &&& (255 ^^^ p_mL S a)) &&& (255 ^^^ p_mR S b) = 0)
theorem p_andX : ∀ d, d < 8 → ((1 : Int32) <<< (nI d &&& 31)) ^^^ (-1 : Int32) = nI (2 ^ d) ^^^ (-1 : Int32) := by decide +kernel
theorem p_mskX : ∀ d, d < 8 → ∀ c, c < 256 → nI c &&& (((1 : Int32) <<< (nI d &&& 31)) ^^^ (-1 : Int32)) = nI (c &&& (255 ^^^ 2 ^ d)) := by decide +kernel
theorem p_mskN : ∀ c, c < 256 → nI c &&& (-1 : Int32) = nI c ∧ c &&& (255 ^^^ 0) = c := by decide +kernel
theorem p_and_lt (c m : Nat) (h : c < 256) : c &&& m < 256 := Nat.lt_of_le_of_lt Nat.and_le_left h
section SUITN
variable {M : q_St} {S : p_S}
theorem p_ans {x : Nat} (hx : x < 256) : (if nI x = 0 then (some (1 : Int32)) else (some (0 : Int32))) = some (p_b (decide (x = 0))) := by
  by_cases z : x = 0
  · rw [if_pos (by rw [z]; rfl)]; simp [z, p_b]
  · rw [if_neg (show ¬ nI x = (0 : Int32) from fun e => z ((nI_eq (b := 0) (by omega) (by omega)).mp e))]; simp [z, p_b]
theorem bN_35 (h : p_RN (M.2 0) S) (g : p_Good S) (a1 a2 a3 s0 s1 : Int32) {x b : Nat} (hx : x < 256) (hb : b ≤ p_nd S) (hs : s1 &&& s0 = nI x) : f_X6_doesSuit_35 M a1 a2 a3 (p_hc b) s0 s1 = some (p_b (decide (x &&& (255 ^^^ p_mR S b) = 0))) := by
  have h8 := g.1
  unfold f_X6_doesSuit_35 p_mR
  rw [hs]
  have hN := p_mskN x hx
  cases b with
  | zero =>
    rw [p_hc0, if_pos (by decide), hN.1, p_ans hx]
    have : (if p_w S (0 - 1) = 1 then 0 else p_bc 0) = 0 := by split <;> rfl
    rw [this, hN.2]
  | succ d =>
    have hw : p_w S d < 3 := p_want_lt _
    rw [p_hcs, if_neg (nI_pos (by omega)), bN_wants h g (by omega), p_bind, show d + 1 - 1 = d from rfl]
    by_cases w : p_w S d = 1
    · rw [if_pos (show nI (p_w S d) = (1 : Int32) by rw [w]; rfl), hN.1, p_ans hx, if_pos w, hN.2]
    · rw [if_neg (show ¬ nI (p_w S d) = (1 : Int32) from fun e => w ((nI_eq (b := 1) (by omega) (by omega)).mp e)), if_neg w, p_mskX d (by omega) x hx, p_ans (p_and_lt _ _ hx)]
      rfl
theorem bN_doesSuit (h : p_RN (M.2 0) S) (g : p_Good S) {k a b : Nat} (hk : k < p_nb S) (ha : a ≤ p_nd S) (hb : b ≤ p_nd S) : f_X6_doesSuit M (p_hc a) (p_hc b) (nI k) = some (p_b (p_su S (p_c S k) a b)) := by
  have h8 := g.1
  have hk2 := g.2.1
  have hc := g.c8 hk
  have hN := p_mskN _ hc
  unfold f_X6_doesSuit p_su
  rw [show (44 : Int32) + nI k = nI (44 + k) from p_add 44 k, p_q68 _ (by omega), p_cl (by omega), bN_cast h hk]
  cases a with
  | zero =>
    have e : p_mL S 0 = 0 := by unfold p_mL; split <;> rfl
    rw [p_hc0, if_pos (by decide), bN_35 h g _ _ _ _ _ hc hb hN.1, e, hN.2]
  | succ d =>
    have hw : p_w S d < 3 := p_want_lt _
    rw [p_hcs, if_neg (nI_pos (by omega)), bN_wants h g (by omega), p_bind]
    unfold p_mL
    rw [show d + 1 - 1 = d from rfl]
    by_cases w : p_w S d = 2
    · rw [if_pos (show nI (p_w S d) = (2 : Int32) by rw [w]; rfl), if_pos w, bN_35 h g _ _ _ _ _ hc hb hN.1, hN.2]
    · rw [if_neg (show ¬ nI (p_w S d) = (2 : Int32) from fun e => w ((nI_eq (b := 2) (by omega) (by omega)).mp e)), if_neg w, bN_35 h g _ _ _ _ _ (p_and_lt _ _ hc) hb (p_mskX d (by omega) _ hc)]
      rfl
end SUITN
