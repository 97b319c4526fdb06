/-! counts, and which beats are wrong -/
/-- how many of len numbers from i on -/
def p_cf (q : Nat → Bool) : Nat → Nat → Nat
  | 0, _ => 0
  | len + 1, i => (if q i then 1 else 0) + p_cf q len (i + 1)
theorem p_cf_le (q : Nat → Bool) : ∀ len i, p_cf q len i ≤ len
  | 0, _ => Nat.le_refl 0
  | len + 1, i => by
    have := p_cf_le q len (i + 1)
    unfold p_cf
    split <;> omega
theorem p_cf_cong {q r : Nat → Bool} : ∀ len i, (∀ d, i ≤ d → d < i + len → q d = r d) → p_cf q len i = p_cf r len i
  | 0, _, _ => rfl
  | len + 1, i, h => by
    unfold p_cf
    rw [h i (by omega) (by omega), p_cf_cong len (i + 1) (fun d h1 h2 => h d (by omega) (by omega))]
theorem p_suc {n : Nat} (h : 0 < n) : ∃ m, n = m + 1 := ⟨n - 1, by omega⟩
section WRONG
variable {B : q_St} {S : p_S}
theorem bX_wanting_5 (h : p_RB B S) (g : p_Good S) (a1 a2 : Int32) (c w : Nat) (hw : w < 3) : ∀ (len n i : Nat) (x3 : Int32), i + len = p_nd S → len < n → f_X0_wanting_5 B a1 a2 n (nI c) (nI w) x3 (nI i) = some (x3 + nI (p_cf (fun d => c.testBit d && (p_w S d == w)) len i)) := by
  have h8 := g.1
  intro len
  induction len with
  | zero =>
    intro n i x3 hi hn
    obtain ⟨m, rfl⟩ := p_suc (show 0 < n by omega)
    rw [f_X0_wanting_5, h.1, if_pos (nI_le (by omega) (by omega))]
    show some x3 = some (x3 + nI 0)
    rw [nI_0, Int32.add_zero]
  | succ len ih =>
    intro n i x3 hi hn
    obtain ⟨m, rfl⟩ := p_suc (show 0 < n by omega)
    rw [f_X0_wanting_5, h.1, if_neg (nI_ge (show i < p_nd S by omega) (by omega)), p_contX (by omega), p_bind]
    have e0 : nI i + 1 = nI (i + 1) := nI_1 i
    show (if p_b (c.testBit i) = 0 then _ else _) = some (x3 + nI ((if (c.testBit i && (p_w S i == w)) then 1 else 0) + p_cf _ len (i + 1)))
    cases hb : c.testBit i with
    | false =>
      rw [if_pos (show p_b false = 0 from rfl), e0, ih m (i + 1) x3 (by omega) (by omega)]
      simp
    | true =>
      rw [if_neg (show ¬ p_b true = 0 by decide), bX_wantOf h g (by omega), p_bind]
      have hw2 : p_w S i < 3 := p_want_lt (p_k S i)
      by_cases q : p_w S i = w
      · rw [if_pos (by rw [q]), e0, ih m (i + 1) _ (by omega) (by omega)]
        simp only [q, beq_self_eq_true, Bool.and_self, if_true]
        rw [← p_add, Int32.add_assoc]
        rfl
      · rw [if_neg (fun z => q ((nI_eq (by omega) (by omega)).mp z)), e0, ih m (i + 1) x3 (by omega) (by omega)]
        have : (p_w S i == w) = false := by simp [q]
        simp [this]
theorem bX_wanting (h : p_RB B S) (g : p_Good S) {c w : Nat} (hw : w < 3) : f_X0_wanting B (nI c) (nI w) = some (nI (p_cf (fun d => c.testBit d && (p_w S d == w)) (p_nd S) 0)) := by
  have h8 := g.1
  unfold f_X0_wanting
  have := bX_wanting_5 h g (nI c) (nI w) c w hw (p_nd S) q_N 0 0 (by omega) (by rw [q_N_eq]; omega)
  rw [nI_0] at this
  rw [this, Int32.zero_add]
/-- how many dolls a cast has -/
def p_pop (c : Nat) : Nat := p_cf (fun d => c.testBit d) 8 0
theorem p_bitc : ∀ c, c < 256 → f_J6_bitCount_0f7a4 (nI c) = some (nI (p_pop c)) := by decide +kernel
/-- a cast that can't be: more than two, or two that want one hand -/
def p_wc (S : p_S) (c : Nat) : Bool := decide (2 < p_pop c) || decide (1 < p_cf (fun d => c.testBit d && (p_w S d == 1)) (p_nd S) 0) || decide (1 < p_cf (fun d => c.testBit d && (p_w S d == 2)) (p_nd S) 0)
/-- a beat is wrong -/
def p_wr (S : p_S) (k : Nat) : Bool := (decide (p_s S k ≠ 0) && !((p_c S k).testBit (p_s S k - 1))) || p_wc S (p_c S k)
theorem p_pop_le (c : Nat) : p_pop c ≤ 8 := p_cf_le _ 8 0
theorem bX_isWrong_27 (h : p_RB B S) (g : p_Good S) (a1 : Int32) {c : Nat} (hc : c < 256) : f_X0_isWrong_27 B a1 (nI c) = some (p_b (p_wc S c)) := by
  have h8 := g.1
  have l1 := p_cf_le (fun d => c.testBit d && (p_w S d == 1)) (p_nd S) 0
  have l2 := p_cf_le (fun d => c.testBit d && (p_w S d == 2)) (p_nd S) 0
  have l0 := p_pop_le c
  unfold f_X0_isWrong_27 p_wc
  rw [p_bitc c hc, p_bind]
  have w1 : f_X0_wanting B (nI c) (1 : Int32) = _ := bX_wanting h g (c := c) (w := 1) (by decide)
  have w2 : f_X0_wanting B (nI c) (2 : Int32) = _ := bX_wanting h g (c := c) (w := 2) (by decide)
  by_cases a : p_pop c ≤ 2
  · rw [if_pos (show nI (p_pop c) ≤ (2 : Int32) from nI_le (b := 2) a (by omega)), w1, p_bind]
    by_cases b : 1 < p_cf (fun d => c.testBit d && (p_w S d == 1)) (p_nd S) 0
    · rw [if_pos (show (1 : Int32) < nI _ from nI_lt (a := 1) b (by omega))]
      simp [b, p_b]
    · rw [if_neg (show ¬ (1 : Int32) < nI _ from nI_nlt (a := 1) (Nat.not_lt.mp b) (by omega)), w2, p_bind]
      by_cases z : 1 < p_cf (fun d => c.testBit d && (p_w S d == 2)) (p_nd S) 0
      · rw [if_neg (show ¬ nI _ ≤ (1 : Int32) from nI_ge (a := 1) z (by omega))]
        simp [z, p_b]
      · rw [if_pos (show nI _ ≤ (1 : Int32) from nI_le (b := 1) (Nat.not_lt.mp z) (by omega))]
        simp [show ¬ 2 < p_pop c by omega, b, z, p_b]
  · rw [if_neg (show ¬ nI (p_pop c) ≤ (2 : Int32) from nI_ge (a := 2) (Nat.not_le.mp a) (by omega))]
    simp [show 2 < p_pop c by omega, p_b]
theorem bX_isWrong (h : p_RB B S) (g : p_Good S) {k : Nat} (hk : k < p_nb S) : f_X0_isWrong B (nI k) = some (p_b (p_wr S k)) := by
  have h8 := g.1
  have hs := (g.k hk).2
  unfold f_X0_isWrong p_wr
  rw [bX_castOf h g hk, p_bind, bX_speakerOf h g hk, p_bind, bX_isWrong_27 h g _ (g.c8 hk)]
  cases hc : p_s S k with
  | zero => rw [p_hc0, if_pos rfl]; simp
  | succ d =>
    rw [p_hcs, if_neg (fun z => absurd (show nI d < 0 by rw [z]; decide) (nI_pos (by omega))), p_contX (by omega), p_bind]
    cases hb : (p_c S k).testBit d with
    | false => rw [if_pos (show p_b false = 0 from rfl)]; simp [hb, p_b]
    | true => rw [if_neg (show ¬ p_b true = 0 by decide)]; simp [hb]
end WRONG
