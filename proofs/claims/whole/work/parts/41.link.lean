/-! what the class's set of right hands says is what the reference asks of a hold -/
def p_rc (S : p_S) (c a : Nat) : Nat := if p_inc c a = true ∧ p_w S (a - 1) = 2 then 0 else p_ri1 S c a
theorem p_ri_rc (S : p_S) (k a : Nat) : p_ri S k a = p_rc S (p_c S k) a := rfl
/-- a hold (by codes) suits a cast -/
def p_st (S : p_S) (c a b : Nat) : Bool := (p_rc S c a).testBit b
theorem q1_restc : ∀ a, a < 9 → ∀ c, c < 256 → p_inc c a = false → p_rest c a = c := by decide +kernel
theorem q1_all : ∀ n, n < 9 → ∀ a, a < 9 → ∀ b, b < 9 → (p_all n a).testBit b = (decide (b ≤ n) && !(decide (a = b) && decide (a ≠ 0))) := by decide +kernel
theorem q1_one : ∀ c, c < 256 → c ≠ 0 → ∀ b, b < 9 → (c &&& (255 ^^^ p_bc b) = 0 ↔ (c = 2 ^ p_tz c ∧ b = p_tz c + 1)) := by decide +kernel
theorem q1_inc : ∀ a, a < 9 → ∀ c, c < 256 → ∀ b, b < 9 → (p_inc c a && decide (c &&& (255 ^^^ p_bc b) = 0)) = true → (decide (a = b) && decide (a ≠ 0)) = true := by decide +kernel
theorem q1_tz : ∀ a, a < 9 → ∀ c, c < 256 → p_rest c a ≠ 0 → p_tz (p_rest c a) + 1 ≠ a := by decide +kernel
theorem q1_two : ∀ t, t < 8 → ∀ b, b < 9 → (2 * 2 ^ t).testBit b = decide (b = t + 1) := by decide +kernel
theorem q1_m0 : ∀ c, c < 256 → c &&& (255 ^^^ 0) = c := by decide +kernel
theorem p_st_su {S : p_S} (h8 : p_nd S ≤ 8) {c a b : Nat} (hc : c < 256) (ha : a ≤ p_nd S) (hb : b ≤ p_nd S) : p_st S c a b = (p_su S c a b && !(decide (a = b) && decide (a ≠ 0))) := by
  have ha9 : a < 9 := by omega
  have hb9 : b < 9 := by omega
  have hr := p_rest_lt a ha9 c hc
  unfold p_st p_rc p_su
  by_cases hi : p_inc c a = true ∧ p_w S (a - 1) = 2
  · rw [if_pos hi, Nat.zero_testBit]
    have e : p_mL S a = 0 := by unfold p_mL; rw [if_pos hi.2]
    rw [e, q1_m0 c hc]
    unfold p_mR
    by_cases w : p_w S (b - 1) = 1
    · rw [if_pos w, q1_m0 c hc]
      have : c ≠ 0 := by
        intro z
        have h1 := hi.1
        rw [z] at h1
        cases a with
        | zero => cases h1
        | succ d => simp [p_inc] at h1
      simp [this]
    · rw [if_neg w]
      by_cases z : c &&& (255 ^^^ p_bc b) = 0
      · have := q1_inc a ha9 c hc b hb9 (by rw [hi.1, decide_eq_true z]; rfl)
        rw [Bool.and_eq_true, decide_eq_true_eq, decide_eq_true_eq] at this
        rw [show decide (a = b) = true from decide_eq_true this.1, show decide (a ≠ 0) = true from decide_eq_true this.2]
        simp
      · rw [decide_eq_false z]; simp
  · rw [if_neg hi]
    have e : c &&& (255 ^^^ p_mL S a) = p_rest c a := by
      unfold p_mL
      by_cases w : p_w S (a - 1) = 2
      · rw [if_pos w, q1_m0 c hc]
        have : p_inc c a = false := by
          cases hq : p_inc c a with
          | false => rfl
          | true => exact absurd ⟨hq, w⟩ hi
        rw [q1_restc a ha9 c hc this]
      · rw [if_neg w]; rfl
    rw [e]
    unfold p_ri1
    by_cases z : p_rest c a = 0
    · rw [if_pos z, z, q1_all _ (by omega) a ha9 b hb9, Nat.zero_and]
      simp [hb]
    · rw [if_neg z]
      have t8 := p_tz_lt _ hr z
      have one := q1_one _ hr z b hb9
      have na := q1_tz a ha9 c hc z
      generalize p_rest c a = r at *
      by_cases bt : b = p_tz r + 1
      · have hb1 : b - 1 = p_tz r := by omega
        unfold p_mR
        rw [hb1]
        have nab : decide (a = b) = false := decide_eq_false (by omega)
        rw [nab]
        by_cases w : p_w S (p_tz r) = 1
        · rw [if_pos w, if_pos w, q1_m0 r hr]
          simp [z]
        · rw [if_neg w, if_neg w]
          by_cases y : r = 2 ^ p_tz r
          · rw [if_pos y, decide_eq_true (one.mpr ⟨y, bt⟩)]
            have := q1_two (p_tz r) t8 b hb9
            rw [← y] at this
            rw [this, decide_eq_true bt]
            simp
          · rw [if_neg y, decide_eq_false (fun q => y (one.mp q).1)]
            simp
      · have nz : decide (r &&& (255 ^^^ p_mR S b) = 0) = false := by
          apply decide_eq_false
          unfold p_mR
          by_cases w : p_w S (b - 1) = 1
          · rw [if_pos w, q1_m0 r hr]; exact z
          · rw [if_neg w]; exact fun q => bt (one.mp q).2
        rw [nz]
        by_cases y : r = 2 ^ p_tz r
        · rw [if_pos y]
          by_cases w : p_w S (p_tz r) = 1
          · rw [if_pos w]; simp
          · rw [if_neg w]
            have := q1_two (p_tz r) t8 b hb9
            rw [← y] at this
            rw [this, decide_eq_false bt]
            simp
        · rw [if_neg y]; simp
/-- a hold of any two of nine codes suits -/
def p_hs (S : p_S) (c a b : Nat) : Bool := decide (a ≤ p_nd S) && (decide (b ≤ p_nd S) && p_st S c a b)
theorem p_hs_iff {S : p_S} {c a b : Nat} : p_hs S c a b = true ↔ a ≤ p_nd S ∧ b ≤ p_nd S ∧ p_st S c a b = true := by
  unfold p_hs
  rw [Bool.and_eq_true, Bool.and_eq_true, decide_eq_true_eq, decide_eq_true_eq]
theorem p_st_ne {S : p_S} (h8 : p_nd S ≤ 8) {c a b : Nat} (hc : c < 256) (ha : a ≤ p_nd S) (hb : b ≤ p_nd S) (h : p_st S c a b = true) : a ≠ b ∨ a = 0 := by
  rw [p_st_su h8 hc ha hb] at h
  by_cases e : a = b
  · by_cases z : a = 0
    · exact Or.inr z
    · rw [show decide (a = b) = true from decide_eq_true e, show decide (a ≠ 0) = true from decide_eq_true z] at h
      simp at h
  · exact Or.inl e
/-! a cast that isn't wrong has a hold that suits it -/
theorem q1_shape : ∀ c, c < 256 → p_pop c ≤ 2 → c = 0 ∨ (p_tz c < 8 ∧ c = 2 ^ p_tz c) ∨ (p_tz c < 8 ∧ p_tz (c - 2 ^ p_tz c) < 8 ∧ p_tz c < p_tz (c - 2 ^ p_tz c) ∧ c = 2 ^ p_tz c + 2 ^ p_tz (c - 2 ^ p_tz c)) := by decide +kernel
theorem q1_pair : ∀ d, d < 8 → ∀ e, e < 8 → d < e → ((2 ^ d + 2 ^ e) &&& (255 ^^^ 2 ^ d)) &&& (255 ^^^ 2 ^ e) = 0 ∧ ((2 ^ d + 2 ^ e) &&& (255 ^^^ 2 ^ e)) &&& (255 ^^^ 2 ^ d) = 0 := by decide +kernel
theorem q1_sing : ∀ d, d < 8 → (2 ^ d &&& (255 ^^^ 2 ^ d)) &&& (255 ^^^ 0) = 0 ∧ (2 ^ d &&& (255 ^^^ 0)) &&& (255 ^^^ 2 ^ d) = 0 := by decide +kernel
theorem q1_bits : ∀ d, d < 8 → ∀ e, e < 8 → (2 ^ d + 2 ^ e).testBit d = (decide (d ≠ e) || (2 ^ d + 2 ^ e).testBit d) ∧ (d < e → (2 ^ d + 2 ^ e).testBit d = true ∧ (2 ^ d + 2 ^ e).testBit e = true) := by decide +kernel
theorem p_cf_two {q : Nat → Bool} {i j : Nat} (hij : i < j) (hi : q i = true) (hj : q j = true) : ∀ len s, s ≤ i → j < s + len → 2 ≤ p_cf q len s
  | 0, s, h1, h2 => by omega
  | len + 1, s, h1, h2 => by
    unfold p_cf
    by_cases e : s = i
    · subst e
      rw [if_pos hi]
      have : ∀ len s, s ≤ j → j < s + len → 1 ≤ p_cf q len s := by
        intro len
        induction len with
        | zero => intro s a b; omega
        | succ len ih =>
          intro s a b
          unfold p_cf
          by_cases e : s = j
          · subst e; rw [if_pos hj]; omega
          · have := ih (s + 1) (by omega) (by omega)
            omega
      have := this len (s + 1) (by omega) (by omega)
      omega
    · have := p_cf_two hij hi hj len (s + 1) (by omega) (by omega)
      omega
theorem p_mL_of (S : p_S) (d : Nat) (h : p_w S d ≠ 2) : p_mL S (d + 1) = 2 ^ d := by
  unfold p_mL
  rw [Nat.add_sub_cancel, if_neg h]; rfl
theorem p_mR_of (S : p_S) (d : Nat) (h : p_w S d ≠ 1) : p_mR S (d + 1) = 2 ^ d := by
  unfold p_mR
  rw [Nat.add_sub_cancel, if_neg h]; rfl
theorem p_mL_0 (S : p_S) : p_mL S 0 = 0 := by unfold p_mL; split <;> rfl
theorem p_mR_0 (S : p_S) : p_mR S 0 = 0 := by unfold p_mR; split <;> rfl
theorem p_lt_of_bit {c n d : Nat} (hc : c < 2 ^ n) (h : c.testBit d = true) : d < n := by
  apply Classical.byContradiction
  intro hn
  have : 2 ^ n ≤ 2 ^ d := Nat.pow_le_pow_right (by decide) (by omega)
  rw [Nat.testBit_lt_two_pow (by omega)] at h
  cases h
theorem p_has_hold {S : p_S} (h8 : p_nd S ≤ 8) {c : Nat} (hc : c < 2 ^ p_nd S) (hw : p_wc S c = false) : ∃ a b, a ≤ p_nd S ∧ b ≤ p_nd S ∧ p_st S c a b = true := by
  have h9 : 2 ^ p_nd S ≤ 2 ^ 8 := Nat.pow_le_pow_right (by decide) h8
  have hc8 : c < 256 := by omega
  unfold p_wc at hw
  rw [Bool.or_eq_false_iff, Bool.or_eq_false_iff, decide_eq_false_iff_not, decide_eq_false_iff_not, decide_eq_false_iff_not] at hw
  obtain ⟨⟨w0, w1⟩, w2⟩ := hw
  have key : ∀ a b, a ≤ p_nd S → b ≤ p_nd S → (a ≠ b ∨ a = 0) → (c &&& (255 ^^^ p_mL S a)) &&& (255 ^^^ p_mR S b) = 0 → ∃ a b, a ≤ p_nd S ∧ b ≤ p_nd S ∧ p_st S c a b = true := by
    intro a b ha hb hab hz
    refine ⟨a, b, ha, hb, ?_⟩
    rw [p_st_su h8 hc8 ha hb]
    unfold p_su
    rw [decide_eq_true hz]
    rcases hab with e | e
    · simp [e]
    · simp [e]
  rcases q1_shape c hc8 (by omega) with z | ⟨t, z⟩ | ⟨t, u, tu, z⟩
  · exact key 0 0 (by omega) (by omega) (Or.inr rfl) (by rw [z]; simp)
  · have tb : c.testBit (p_tz c) = true := p_tz_bit c hc8 (by have := Nat.two_pow_pos (p_tz c); omega)
    have tn := p_lt_of_bit hc tb
    generalize p_tz c = d at *
    have hs := q1_sing d t
    by_cases w : p_w S d = 2
    · refine key 0 (d + 1) (by omega) (by omega) (Or.inr rfl) ?_
      rw [p_mL_0, p_mR_of S d (by omega), z]; exact hs.2
    · refine key (d + 1) 0 (by omega) (by omega) (Or.inl (by omega)) ?_
      rw [p_mL_of S d w, p_mR_0, z]; exact hs.1
  · generalize p_tz (c - 2 ^ p_tz c) = e at *
    generalize p_tz c = d at *
    have hp := q1_pair d t e u tu
    have hb := (q1_bits d t e u).2 tu
    rw [← z] at hb
    have dn := p_lt_of_bit hc hb.1
    have en := p_lt_of_bit hc hb.2
    have x1 : ¬ (p_w S d = 1 ∧ p_w S e = 1) := fun q => by
      have := p_cf_two (q := fun d => c.testBit d && (p_w S d == 1)) tu (by simp [hb.1, q.1]) (by simp [hb.2, q.2]) (p_nd S) 0 (by omega) (by omega)
      omega
    have x2 : ¬ (p_w S d = 2 ∧ p_w S e = 2) := fun q => by
      have := p_cf_two (q := fun d => c.testBit d && (p_w S d == 2)) tu (by simp [hb.1, q.1]) (by simp [hb.2, q.2]) (p_nd S) 0 (by omega) (by omega)
      omega
    by_cases w : p_w S d = 2 ∨ p_w S e = 1
    · refine key (e + 1) (d + 1) (by omega) (by omega) (Or.inl (by omega)) ?_
      rw [p_mL_of S e (by omega), p_mR_of S d (by omega), z]; exact hp.2
    · refine key (d + 1) (e + 1) (by omega) (by omega) (Or.inl (by omega)) ?_
      rw [p_mL_of S d (by omega), p_mR_of S e (by omega), z]; exact hp.1
