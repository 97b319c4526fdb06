/-! the reference: which beats are wrong -/
theorem p_bits8 : ∀ c, c < 256 → f_X6_bits (nI c) = some (nI (p_pop c)) := by decide +kernel
def p_one (q : Bool) : Nat := if q then 1 else 0
section WRONGN
variable {M : q_St} {S : p_S}
theorem bN_54 (h : p_RN (M.2 0) S) (g : p_Good S) (a1 : Int32) (r : Int32 → Int32 → Int32 → Int32 → Int32 → Option Int32) (x1 : Int32) {c i : Nat} (hc : c < 256) (hi : i < p_nd S) (x4 s0 s1 : Int32) : f_X6_isWrongBeat_54 M a1 r x1 (nI c) x4 (nI i) s0 s1 = r x1 (nI c) (s1 + s0) (x4 + nI (p_one (c.testBit i && (p_w S i == 2)))) (nI i + 1) := by
  have h8 := g.1
  have hw : p_w S i < 3 := p_want_lt _
  unfold f_X6_isWrongBeat_54
  rw [p_hasX c (by omega) i (by omega), p_bind]
  cases hb : c.testBit i with
  | false => rw [if_pos (show p_b false = 0 from rfl)]; rfl
  | true =>
    rw [if_neg (show ¬ p_b true = 0 by decide), bN_wants h g hi, p_bind]
    by_cases w : p_w S i = 2
    · rw [if_pos (show nI (p_w S i) = (2 : Int32) by rw [w]; rfl), w]; rfl
    · rw [if_neg (show ¬ nI (p_w S i) = (2 : Int32) from fun e => w ((nI_eq (b := 2) (by omega) (by omega)).mp e))]
      rw [show (true && (p_w S i == 2)) = false by simp [w]]
      rfl
theorem bN_18 (h : p_RN (M.2 0) S) (g : p_Good S) (a1 : Int32) {k c : Nat} (hk : k < p_nb S) (hc : c < 256) : ∀ (len n i x3 x4 : Nat), i + len = p_nd S → len < n → x3 ≤ i → x4 ≤ i → f_X6_isWrongBeat_18 M a1 n (nI k) (nI c) (nI x3) (nI x4) (nI i) = some (p_b ((decide (p_s S k ≠ 0) && !(c.testBit (p_s S k - 1))) || (decide (2 < p_pop c) || decide (1 < x3 + p_cf (fun d => c.testBit d && (p_w S d == 1)) len i) || decide (1 < x4 + p_cf (fun d => c.testBit d && (p_w S d == 2)) len i)))) := by
  have h8 := g.1
  have hk2 := g.2.1
  have hs := (g.k hk).2
  intro len
  induction len with
  | zero =>
    intro n i x3 x4 hi hn h3 h4
    obtain ⟨m, rfl⟩ := p_suc (show 0 < n by omega)
    have hp := p_pop_le c
    rw [f_X6_isWrongBeat_18, show ∀ A : Option Int32, q_ix (0 : Int32) 68 A = A from p_q68 0 (by decide), show (0 : Int32).toNatClampNeg = 0 from rfl, h.1, if_pos (nI_le (by omega) (by omega)), show (56 : Int32) + nI k = nI (56 + k) from p_add 56 k, p_q68 _ (by omega), p_bits8 c hc, p_bind, p_cl (by omega), bN_speaks h hk]
    simp only [p_cf, Nat.add_zero]
    by_cases b1 : 2 < p_pop c
    · rw [if_pos (show (2 : Int32) < nI (p_pop c) from nI_lt (a := 2) b1 (by omega))]
      simp [b1, p_b]
    rw [if_neg (show ¬ (2 : Int32) < nI (p_pop c) from nI_nlt (b := p_pop c) (a := 2) (by omega) (by omega))]
    by_cases b2 : 1 < x3
    · rw [if_pos (show (1 : Int32) < nI x3 from nI_lt (a := 1) b2 (by omega))]
      simp [b2, p_b]
    rw [if_neg (show ¬ (1 : Int32) < nI x3 from nI_nlt (b := x3) (a := 1) (by omega) (by omega))]
    by_cases b3 : 1 < x4
    · rw [if_pos (show (1 : Int32) < nI x4 from nI_lt (a := 1) b3 (by omega))]
      simp [b3, p_b]
    rw [if_neg (show ¬ (1 : Int32) < nI x4 from nI_nlt (b := x4) (a := 1) (by omega) (by omega))]
    cases hz : p_s S k with
    | zero =>
      rw [p_hc0, if_pos (by decide)]
      simp [b1, b2, b3, p_b]
    | succ d =>
      rw [p_hcs, if_neg (nI_pos (by omega)), p_hasX c (by omega) d (by omega), p_bind]
      cases hb : c.testBit d with
      | false => rw [if_pos (show p_b false = 0 from rfl)]; simp [hb, p_b]
      | true => rw [if_neg (show ¬ p_b true = 0 by decide)]; simp [hb, b1, b2, b3, p_b]
  | succ len ih =>
    intro n i x3 x4 hi hn h3 h4
    obtain ⟨m, rfl⟩ := p_suc (show 0 < n by omega)
    have hid : i < p_nd S := by omega
    have hw : p_w S i < 3 := p_want_lt _
    rw [f_X6_isWrongBeat_18, show ∀ A : Option Int32, q_ix (0 : Int32) 68 A = A from p_q68 0 (by decide), show (0 : Int32).toNatClampNeg = 0 from rfl, h.1, if_neg (nI_ge (show i < p_nd S from hid) (by omega)), p_hasX c (by omega) i (by omega), p_bind]
    have e0 : nI i + 1 = nI (i + 1) := nI_1 i
    have key : ∀ s : Nat, s = p_one (c.testBit i && (p_w S i == 1)) → f_X6_isWrongBeat_54 M a1 (fun x1 x2 x3 x4 x5 => f_X6_isWrongBeat_18 M a1 m x1 x2 x3 x4 x5) (nI k) (nI c) (nI x4) (nI i) (nI s) (nI x3) = some (p_b ((decide (p_s S k ≠ 0) && !(c.testBit (p_s S k - 1))) || (decide (2 < p_pop c) || decide (1 < x3 + p_cf (fun d => c.testBit d && (p_w S d == 1)) (len + 1) i) || decide (1 < x4 + p_cf (fun d => c.testBit d && (p_w S d == 2)) (len + 1) i)))) := by
      intro s hs1
      have o1 : p_one (c.testBit i && (p_w S i == 1)) ≤ 1 := by unfold p_one; split <;> omega
      have o2 : p_one (c.testBit i && (p_w S i == 2)) ≤ 1 := by unfold p_one; split <;> omega
      rw [bN_54 h g a1 _ _ hc hid, e0, p_add, p_add, ih m (i + 1) _ _ (by omega) (by omega) (by omega) (by omega), hs1]
      have c1 : x3 + p_one (c.testBit i && (p_w S i == 1)) + p_cf (fun d => c.testBit d && (p_w S d == 1)) len (i + 1) = x3 + p_cf (fun d => c.testBit d && (p_w S d == 1)) (len + 1) i := by
        rw [p_cf, Nat.add_assoc]; rfl
      have c2 : x4 + p_one (c.testBit i && (p_w S i == 2)) + p_cf (fun d => c.testBit d && (p_w S d == 2)) len (i + 1) = x4 + p_cf (fun d => c.testBit d && (p_w S d == 2)) (len + 1) i := by
        rw [p_cf, Nat.add_assoc]; rfl
      rw [c1, c2]
    cases hb : c.testBit i with
    | false =>
      rw [if_pos (show p_b false = 0 from rfl)]
      exact key 0 (by rw [hb]; rfl)
    | true =>
      rw [if_neg (show ¬ p_b true = 0 by decide), bN_wants h g hid, p_bind]
      by_cases w : p_w S i = 1
      · rw [if_pos (show nI (p_w S i) = (1 : Int32) by rw [w]; rfl)]
        exact key 1 (by rw [hb, w]; rfl)
      · rw [if_neg (show ¬ nI (p_w S i) = (1 : Int32) from fun e => w ((nI_eq (b := 1) (by omega) (by omega)).mp e))]
        exact key 0 (by rw [hb, show (true && (p_w S i == 1)) = false by simp [w]]; rfl)
theorem bN_isWrong (h : p_RN (M.2 0) S) (g : p_Good S) {k : Nat} (hk : k < p_nb S) : f_X6_isWrongBeat M (nI k) = some (p_b (p_wr S k)) := by
  have h8 := g.1
  have hk2 := g.2.1
  unfold f_X6_isWrongBeat p_wr p_wc
  rw [show (44 : Int32) + nI k = nI (44 + k) from p_add 44 k, p_q68 _ (by omega), p_cl (by omega), bN_cast h hk]
  have := bN_18 h g (nI k) hk (g.c8 hk) (p_nd S) q_N 0 0 0 (by omega) (by rw [q_N_eq]; omega) (by omega) (by omega)
  rw [nI_0] at this
  rw [this]
  simp only [Nat.zero_add]
end WRONGN
