/-! the calls, on both sides: drawings -/
theorem q65_bitc : ∀ c, c < 512 → f_J6_bitCount_0f7a4 (nI c) = some (nI (p_cf (fun d => c.testBit d) 9 0)) := by decide +kernel
theorem p_cf_9 (q : Nat → Bool) : ∀ m i, p_cf q (9 * m) (9 * i) = p_sum (fun a => p_cf (fun b => q (9 * a + b)) 9 0) m i
  | 0, _ => rfl
  | m + 1, i => by
    rw [show 9 * (m + 1) = 9 + 9 * m by omega, p_cf_add, p_sum, show 9 * i + 9 = 9 * (i + 1) by omega, p_cf_9 q m (i + 1)]
    rfl
theorem p_sum_add (f : Nat → Nat) : ∀ a b i, p_sum f (a + b) i = p_sum f a i + p_sum f b (i + a)
  | 0, b, i => by rw [Nat.zero_add, Nat.add_zero]; exact (Nat.zero_add _).symm
  | a + 1, b, i => by
    rw [show a + 1 + b = (a + b) + 1 by omega, p_sum, p_sum, p_sum_add f a b (i + 1), show i + 1 + a = i + (a + 1) by omega, Nat.add_assoc]
theorem p_sum_0 {f : Nat → Nat} : ∀ len i, (∀ a, i ≤ a → a < i + len → f a = 0) → p_sum f len i = 0
  | 0, _, _ => rfl
  | len + 1, i, h => by
    rw [p_sum, h i (by omega) (by omega), p_sum_0 len (i + 1) (fun a h1 h2 => h a (by omega) (by omega))]
theorem p_sum_cong {f g : Nat → Nat} : ∀ len i, (∀ a, i ≤ a → a < i + len → f a = g a) → p_sum f len i = p_sum g len i
  | 0, _, _ => rfl
  | len + 1, i, h => by
    rw [p_sum, p_sum, h i (by omega) (by omega), p_sum_cong len (i + 1) (fun a h1 h2 => h a (by omega) (by omega))]
theorem p_st_le {S : p_S} (h8 : p_nd S ≤ 8) {c a b : Nat} (hc : c < 2 ^ p_nd S) (ha : a ≤ p_nd S) (hb : b < 9) (h : p_st S c a b = true) : b ≤ p_nd S := by
  unfold p_st p_rc at h
  split at h
  · rw [Nat.zero_testBit] at h; cases h
  · unfold p_ri1 at h
    split at h
    · rw [q1_all _ (by omega) a (by omega) b hb, Bool.and_eq_true, decide_eq_true_eq] at h
      exact h.1
    · have e0 := p_rest_le c a
      have : 2 * p_rest c a < 2 ^ (p_nd S + 1) := by rw [Nat.pow_succ]; omega
      split at h
      · split at h
        · rw [Nat.zero_testBit] at h; cases h
        · have := p_lt_of_bit this h
          omega
      · rw [Nat.zero_testBit] at h; cases h
/-- holds for a cast, where the left hand may hold what D says -/
def p_nh (S : p_S) (D : Nat → Bool) (c : Nat) : Nat := p_cf (fun t => p_hs S c (t / 9) (t % 9) && D (t / 9)) 81 0
theorem p_nh_le (S : p_S) (D : Nat → Bool) (c : Nat) : p_nh S D c ≤ 81 := p_cf_le _ _ _
theorem p_nh_sum {S : p_S} (h8 : p_nd S ≤ 8) {D : Nat → Bool} {c : Nat} (hc : c < 2 ^ p_nd S) : p_nh S D c = p_sum (fun a => if D a = true then p_cf (fun b => (p_rc S c a).testBit b) 9 0 else 0) (p_nd S + 1) 0 := by
  have e : p_cf (fun t => p_hs S c (t / 9) (t % 9) && D (t / 9)) 81 0 = p_sum (fun a => p_cf (fun b => p_hs S c ((9 * a + b) / 9) ((9 * a + b) % 9) && D ((9 * a + b) / 9)) 9 0) 9 0 := p_cf_9 (fun t => p_hs S c (t / 9) (t % 9) && D (t / 9)) 9 0
  have F : ∀ m, m = 9 → p_sum (fun a => p_cf (fun b => p_hs S c ((9 * a + b) / 9) ((9 * a + b) % 9) && D ((9 * a + b) / 9)) 9 0) m 0 = p_sum (fun a => if D a = true then p_cf (fun b => (p_rc S c a).testBit b) 9 0 else 0) (p_nd S + 1) 0 := by
    intro m hm
    rw [show m = (p_nd S + 1) + (8 - p_nd S) by omega, p_sum_add, p_sum_0 (8 - p_nd S), Nat.add_zero]
    · refine p_sum_cong _ _ (fun a _ ha => ?_)
      have ha : a ≤ p_nd S := by omega
      by_cases q : D a = true
      · rw [if_pos q]
        refine p_cf_cong _ _ (fun b _ hb => ?_)
        rw [show (9 * a + b) / 9 = a by omega, show (9 * a + b) % 9 = b by omega, q, Bool.and_true]
        unfold p_hs
        rw [decide_eq_true ha, Bool.true_and]
        cases y : p_st S c a b with
        | false => rw [Bool.and_false]; exact y.symm
        | true =>
          rw [decide_eq_true (p_st_le h8 hc ha (by omega) y)]
          exact y.symm
      · rw [if_neg q]
        refine p_cf_none _ _ (fun b _ hb => ?_)
        show (p_hs S c ((9 * a + b) / 9) ((9 * a + b) % 9) && D ((9 * a + b) / 9)) = false
        rw [show (9 * a + b) / 9 = a by omega, Bool.eq_false_iff.mpr q, Bool.and_false]
    · intro a h1 h2
      refine p_cf_none _ _ (fun b _ hb => ?_)
      show (p_hs S c ((9 * a + b) / 9) ((9 * a + b) % 9) && D ((9 * a + b) / 9)) = false
      unfold p_hs
      rw [decide_eq_false (show ¬ (9 * a + b) / 9 ≤ p_nd S by omega)]
      rfl
  unfold p_nh
  rw [e]
  exact F 9 rfl
/-- rows, at most one more than told -/
def p_row (h : Nat → Nat) : Nat → Nat → Nat → Nat
  | 0, _, R => R
  | len + 1, k, R => p_row h len (k + 1) (if R * h k < 1000000001 then R * h k else 1000000001)
theorem p_row_le (h : Nat → Nat) : ∀ len k R, R ≤ 1000000001 → p_row h len k R ≤ 1000000001
  | 0, _, _, hR => hR
  | len + 1, k, R, hR => by
    rw [p_row]
    refine p_row_le h len (k + 1) _ ?_
    split <;> omega
section DRAWN
variable {X : Nat → q_St} {M : q_St} {S : p_S}
/-- may the left hand hold it, by the sheet -/
def p_D (X : Nat → q_St) (d k a : Nat) : Bool := decide (f_X5_isDrawn X d (nI k) (p_hc a) = some 1)
theorem q65_D (hS : p_RelS S X M) {d k a : Nat} (hd : d < 4) (hk : k < 2 ^ 31) (ha : a ≤ 8) : f_X5_isDrawn X d (nI k) (p_hc a) = some (p_b (p_D X d k a)) ∧ f_X6_isDrawn M (nI d) (nI k) (p_hc a) = some (p_b (p_D X d k a)) := by
  obtain ⟨L, hL, s1, s2, s3, s4⟩ := hS.2.2.2.2.2.2 d hd
  have g := hS.1
  have h8 := g.1
  have fin : ∀ b : Bool, f_X5_isDrawn X d (nI k) (p_hc a) = some (p_b b) → f_X6_isDrawn M (nI d) (nI k) (p_hc a) = some (p_b b) → f_X5_isDrawn X d (nI k) (p_hc a) = some (p_b (p_D X d k a)) ∧ f_X6_isDrawn M (nI d) (nI k) (p_hc a) = some (p_b (p_D X d k a)) := by
    intro b h1 h2
    have e : p_D X d k a = b := by
      unfold p_D
      rw [h1]
      cases b <;> decide
    rw [e]
    exact ⟨h1, h2⟩
  by_cases q : k < L
  · have ip : f_X2_isPlace (X (6 + d)) (nI k) = some 1 := by
      unfold f_X2_isPlace
      rw [if_neg (nI_pos (by omega)), s2, if_neg (nI_ge q (by omega))]
    have nm : f_X2_number (X (6 + d)) (nI k) = some (M.2 23 (40 * d + k)) := by
      unfold f_X2_number
      rw [ip, p_bind, if_neg p_n10, p_ix (show k < 40 by omega) (by omega), p_cl (by omega), s4 k (by omega)]
    rcases k_none hS.2.1 hS.2.2.1 g (M.2 23 (40 * d + k)) with ⟨c, hc, ec, f1, f2⟩ | ⟨f0, f1, f2, _⟩
    · refine fin (decide (c = a)) ?_ ?_
      · unfold f_X5_isDrawn
        rw [ip, p_bind, if_neg p_n10, nm, p_bind, f1, p_bind, if_neg p_n10, ec]
        by_cases y : c = a
        · rw [if_pos (congrArg p_hc y), decide_eq_true y]; rfl
        · rw [if_neg (fun z => y ((p_hc_eq (by omega) (by omega)).mp z)), decide_eq_false y]; rfl
      · unfold f_X6_isDrawn
        rw [p_ix hd (by omega), p_cl (by omega), s3, if_pos (nI_lt q (by omega)), show (40 : Int32) * nI d + nI k = nI (40 * d + k) by rw [p_L40, p_mul, p_add], p_ix (show 40 * d + k < 160 by omega) (by omega), p_cl (by omega), f2, p_bind, if_neg p_n10, ec]
        by_cases y : c = a
        · rw [if_pos (congrArg p_hc y), decide_eq_true y]; rfl
        · rw [if_neg (fun z => y ((p_hc_eq (by omega) (by omega)).mp z)), decide_eq_false y]; rfl
    · refine fin true ?_ ?_
      · unfold f_X5_isDrawn
        rw [ip, p_bind, if_neg p_n10, nm, p_bind, f1, p_bind, if_pos p_z00]
        by_cases y : M.2 23 (40 * d + k) = p_hc a
        · rw [if_pos y]; rfl
        · rw [if_neg y]; rfl
      · unfold f_X6_isDrawn
        rw [p_ix hd (by omega), p_cl (by omega), s3, if_pos (nI_lt q (by omega)), show (40 : Int32) * nI d + nI k = nI (40 * d + k) by rw [p_L40, p_mul, p_add], p_ix (show 40 * d + k < 160 by omega) (by omega), p_cl (by omega), f2, p_bind, if_pos p_z00]
        rfl
  · refine fin true ?_ ?_
    · unfold f_X5_isDrawn f_X2_isPlace
      rw [if_neg (nI_pos hk), s2, if_pos (nI_le (by omega) hk), p_bind, if_pos p_z00]
      rfl
    · unfold f_X6_isDrawn
      rw [p_ix hd (by omega), p_cl (by omega), s3, if_neg (nI_nlt (by omega) hk)]
      rfl
theorem q65_23 (hS : p_RelS S X M) {d k : Nat} (hd : d < 4) (hk : k < p_nb S) (r5 : Int64 → Int32 → Option Int64) (x2 : Int64) : ∀ (len n i acc : Nat), i + len = p_nd S + 1 → len < n → f_X5_rowsBy_23 X d r5 n x2 (nI k) (nI acc) (p_hc i) = r5 (if (1000000001 : Int64) < (x2 * (nI (acc + p_sum (fun a => if p_D X d k a = true then p_cf (fun b => (p_rc S (p_c S k) a).testBit b) 9 0 else 0) len i)).toInt64) then (1000000001 : Int64) else (x2 * (nI (acc + p_sum (fun a => if p_D X d k a = true then p_cf (fun b => (p_rc S (p_c S k) a).testBit b) 9 0 else 0) len i)).toInt64)) (nI (k + 1)) := by
  have g := hS.1
  have hB := hS.2.1
  have h8 := g.1
  have h12 := g.2.1
  intro len
  induction len with
  | zero =>
    intro n i acc hi hn
    obtain ⟨n, rfl⟩ := p_suc (show 0 < n by omega)
    rw [f_X5_rowsBy_23, hB.1, if_pos ((p_hc_end (by omega) (by omega)).mpr (by omega)), nI_1]
    rfl
  | succ len ih =>
    intro n i acc hi hn
    obtain ⟨n, rfl⟩ := p_suc (show 0 < n by omega)
    have rl := p_ri_lt g hk (a := i) (by omega)
    rw [f_X5_rowsBy_23, hB.1, if_neg (fun z => absurd ((p_hc_end (by omega) (by omega)).mp z) (by omega)), (q65_D hS hd (by omega) (show i ≤ 8 by omega)).1, p_bind, p_bif, bX_rightsBeside hB g hk (by omega), p_bind, q65_bitc _ rl, p_bind, p_add, p_hc_up i (by omega), p_sum]
    cases q : p_D X d k i with
    | true =>
      rw [if_pos rfl, if_pos rfl, ← Nat.add_assoc]
      exact ih n (i + 1) _ (by omega) (by omega)
    | false =>
      rw [if_neg (show ¬ false = true by decide), if_neg (show ¬ false = true by decide), Nat.zero_add]
      exact ih n (i + 1) _ (by omega) (by omega)
theorem q65_min (a b : Nat) (hb : b ≤ 81) (ha : a ≤ 1000000001) : (if (1000000001 : Int64) < lN a * (nI b).toInt64 then (1000000001 : Int64) else lN a * (nI b).toInt64) = lN (if a * b < 1000000001 then a * b else 1000000001) ∧ (if lN a * (nI b).toInt64 < (1000000001 : Int64) then lN a * (nI b).toInt64 else (1000000001 : Int64)) = lN (if a * b < 1000000001 then a * b else 1000000001) := by
  have hp : a * b ≤ 1000000001 * 81 := Nat.mul_le_mul ha hb
  have el : (1000000001 : Int64) = lN 1000000001 := rfl
  rw [nI_l (by omega), lN_mul, el]
  constructor
  · by_cases q : a * b < 1000000001
    · rw [if_neg (fun z => by rw [pk_lLT (by omega) (by omega)] at z; omega), if_pos q]
    · rw [if_neg q]
      by_cases y : 1000000001 < a * b
      · rw [if_pos ((pk_lLT (by omega) (by omega)).mpr y)]
      · rw [if_neg (fun z => y ((pk_lLT (by omega) (by omega)).mp z)), show a * b = 1000000001 by omega]
  · by_cases q : a * b < 1000000001
    · rw [if_pos ((pk_lLT (by omega) (by omega)).mpr q), if_pos q]
    · rw [if_neg (fun z => q ((pk_lLT (by omega) (by omega)).mp z)), if_neg q]
theorem q65_rX (hS : p_RelS S X M) {d : Nat} (hd : d < 4) : ∀ (len n k R : Nat), k + len = p_nb S → len < n → R ≤ 1000000001 → f_X5_rowsBy_5 X d n (lN R) (nI k) = some (lN (p_row (fun k => p_nh S (p_D X d k) (p_c S k)) len k R)) := by
  have g := hS.1
  have hB := hS.2.1
  have h8 := g.1
  have h12 := g.2.1
  intro len
  induction len with
  | zero =>
    intro n k R hi hn hR
    obtain ⟨n, rfl⟩ := p_suc (show 0 < n by omega)
    rw [f_X5_rowsBy_5, hB.2.1, if_pos (nI_le (by omega) (by omega))]
    rfl
  | succ len ih =>
    intro n k R hi hn hR
    obtain ⟨n, rfl⟩ := p_suc (show 0 < n by omega)
    have hk : k < p_nb S := by omega
    have nl := p_nh_le S (p_D X d k) (p_c S k)
    have e := q65_23 hS hd hk (fun x2 x4 => f_X5_rowsBy_5 X d n x2 x4) (lN R) (p_nd S + 1) q_N 0 0 (by omega) (by rw [q_N_eq]; omega)
    rw [Nat.zero_add, ← p_nh_sum h8 (g.k hk).1, (q65_min R _ nl hR).1] at e
    have e : f_X5_rowsBy_23 X d (fun x2 x4 => f_X5_rowsBy_5 X d n x2 x4) q_N (lN R) (nI k) (0 : Int32) (-1 : Int32) = _ := e
    rw [f_X5_rowsBy_5, hB.2.1, if_neg (nI_ge (by omega) (by omega)), e, p_row]
    exact ih n (k + 1) _ (by omega) (by omega) (by split <;> omega)
theorem q65_h5 (hS : p_RelS S X M) {d k : Nat} (hd : d < 4) (hk : k < p_nb S) (z1 z2 : Int32) : ∀ (len n t acc : Nat), t + len = 81 → len < n → f_X6_holdsFor_5 M z1 z2 n (nI d) (nI k) (nI acc) (nI t) = some (nI (acc + p_cf (fun t => p_hs S (p_c S k) (t / 9) (t % 9) && p_D X d k (t / 9)) len t)) := by
  have g := hS.1
  have hN := hS.2.2.1
  have h8 := g.1
  have h12 := g.2.1
  have c8 := g.c8 hk
  intro len
  induction len with
  | zero =>
    intro n t acc hi hn
    obtain ⟨n, rfl⟩ := p_suc (show 0 < n by omega)
    rw [f_X6_holdsFor_5, if_pos (show (81 : Int32) ≤ nI t from nI_le (a := 81) (by omega) (by omega))]
    rfl
  | succ len ih =>
    intro n t acc hi hn
    obtain ⟨n, rfl⟩ := p_suc (show 0 < n by omega)
    have a0 : nI acc + (0 : Int32) = nI acc := Int32.add_zero _
    rw [f_X6_holdsFor_5, if_neg (show ¬ (81 : Int32) ≤ nI t from nI_ge (b := 81) (by omega) (by omega)), p_leftT t (by omega), p_bind, p_rightT t (by omega), p_bind, bN_isHoldD hN g (by omega) (by omega), p_bind, p_bif, p_bind, (q65_D hS hd (show k < 2 ^ 31 by omega) (show t / 9 ≤ 8 by omega)).2, p_bind, p_bif, a0, nI_1, nI_1, ih n (t + 1) _ (by omega) (by omega), ih n (t + 1) _ (by omega) (by omega), p_cf]
    by_cases hh : (decide (t / 9 ≤ p_nd S) && (decide (t % 9 ≤ p_nd S) && !(decide (t / 9 = t % 9) && decide (t / 9 ≠ 0)))) = true
    · rw [if_pos hh]
      rw [Bool.and_eq_true, Bool.and_eq_true, decide_eq_true_eq, decide_eq_true_eq] at hh
      have hs := p_st_su h8 c8 hh.1 hh.2.1
      rw [hh.2.2, Bool.and_true] at hs
      have eh : p_hs S (p_c S k) (t / 9) (t % 9) = p_st S (p_c S k) (t / 9) (t % 9) := by
        unfold p_hs
        rw [decide_eq_true hh.1, decide_eq_true hh.2.1]
        rfl
      rw [bN_doesSuit hN g hk hh.1 hh.2.1, p_bind, p_bif, ← hs, eh]
      cases p_st S (p_c S k) (t / 9) (t % 9) <;> cases p_D X d k (t / 9)
      · simp
      · simp
      · simp
      · simp [Nat.add_assoc]
    · rw [if_neg hh]
      have eh : p_hs S (p_c S k) (t / 9) (t % 9) = false := by
        cases hq : p_hs S (p_c S k) (t / 9) (t % 9) with
        | false => rfl
        | true =>
          exfalso
          have hq := p_hs_iff.mp hq
          have hne := p_st_ne h8 c8 hq.1 hq.2.1 hq.2.2
          apply hh
          rw [decide_eq_true hq.1, decide_eq_true hq.2.1]
          rcases hne with e | e
          · simp [e]
          · simp [e]
      rw [eh]
      simp
theorem q65_rN (hS : p_RelS S X M) {d : Nat} (hd : d < 4) (z1 : Int32) : ∀ (len n k R : Nat), k + len = p_nb S → len < n → R ≤ 1000000001 → f_X6_rowsOf_8 M z1 n (nI d) (lN R) (p_b (decide (R = 0))) (nI k) = some (nI (p_row (fun k => p_nh S (p_D X d k) (p_c S k)) len k R)) := by
  have g := hS.1
  have hN := hS.2.2.1
  have h8 := g.1
  have h12 := g.2.1
  intro len
  induction len with
  | zero =>
    intro n k R hi hn hR
    obtain ⟨n, rfl⟩ := p_suc (show 0 < n by omega)
    rw [f_X6_rowsOf_8, p_Q1, p_C1, hN.2.1, if_pos (nI_le (by omega) (by omega)), p_bif, lN_i]
    by_cases q : R = 0
    · rw [if_pos (decide_eq_true q), q]; rfl
    · rw [if_neg (by rw [decide_eq_false q]; decide)]; rfl
  | succ len ih =>
    intro n k R hi hn hR
    obtain ⟨n, rfl⟩ := p_suc (show 0 < n by omega)
    have hk : k < p_nb S := by omega
    have nl := p_nh_le S (p_D X d k) (p_c S k)
    have e : f_X6_holdsFor M (nI d) (nI k) = some (nI (p_nh S (p_D X d k) (p_c S k))) := by
      unfold f_X6_holdsFor p_nh
      have := q65_h5 hS hd hk (nI d) (nI k) 81 q_N 0 0 (by omega) (by rw [q_N_eq]; omega)
      rw [Nat.zero_add] at this
      exact this
    have e2 := (q65_min R _ nl hR).2
    have i1 := ih n (k + 1) (if R * p_nh S (p_D X d k) (p_c S k) < 1000000001 then R * p_nh S (p_D X d k) (p_c S k) else 1000000001) (by omega) (by omega) (by split <;> omega)
    rw [f_X6_rowsOf_8, p_Q1, p_C1, hN.2.1, if_neg (nI_ge (by omega) (by omega)), e, p_bind, e2, nI_1, p_bif, p_row]
    by_cases q : R = 0
    · rw [if_pos (decide_eq_true q)]
      have z : (if R * p_nh S (p_D X d k) (p_c S k) < 1000000001 then R * p_nh S (p_D X d k) (p_c S k) else 1000000001) = 0 := by rw [q, Nat.zero_mul]; rfl
      rw [z] at i1 ⊢
      exact i1
    · rw [if_neg (by rw [decide_eq_false q]; decide)]
      by_cases y : p_nh S (p_D X d k) (p_c S k) = 0
      · rw [if_pos (show nI (p_nh S (p_D X d k) (p_c S k)) = 0 by rw [y]; rfl)]
        have z : (if R * p_nh S (p_D X d k) (p_c S k) < 1000000001 then R * p_nh S (p_D X d k) (p_c S k) else 1000000001) = 0 := by rw [y, Nat.mul_zero]; rfl
        rw [z] at i1 ⊢
        exact i1
      · rw [if_neg (show ¬ nI (p_nh S (p_D X d k) (p_c S k)) = 0 from fun z => y ((nI_eq (b := 0) (by omega) (by omega)).mp z))]
        have z : ¬ (if R * p_nh S (p_D X d k) (p_c S k) < 1000000001 then R * p_nh S (p_D X d k) (p_c S k) else 1000000001) = 0 := by
          have : 0 < R * p_nh S (p_D X d k) (p_c S k) := Nat.mul_pos (by omega) (by omega)
          split <;> omega
        rw [decide_eq_false z] at i1
        exact i1
/-- all rows -/
def p_rw (S : p_S) (X : Nat → q_St) (d : Nat) : Nat := p_row (fun k => p_nh S (p_D X d k) (p_c S k)) (p_nb S) 0 1
theorem q65_rows (hS : p_RelS S X M) {d : Nat} (hd : d < 4) : f_X5_rowsBy X d = some (lN (p_rw S X d)) ∧ f_X6_rowsOf M (nI d) = some (nI (p_rw S X d)) ∧ p_rw S X d ≤ 1000000001 := by
  have h12 := hS.1.2.1
  refine ⟨?_, ?_, p_row_le _ _ _ _ (by omega)⟩
  · unfold f_X5_rowsBy
    exact q65_rX hS hd (p_nb S) q_N 0 1 (by omega) (by rw [q_N_eq]; omega) (by omega)
  · unfold f_X6_rowsOf
    exact q65_rN hS hd (nI d) (p_nb S) q_N 0 1 (by omega) (by rw [q_N_eq]; omega) (by omega)
theorem w_fits (h : p_Rel X M) (a : Int32) : p_Both (f_X5_fits X a) (f_X6_fits M a) := by
  have hr := h
  obtain ⟨S, hS⟩ := h
  unfold f_X5_fits f_X6_fits
  rcases k_sheet X a with ⟨d, hd, rfl, e1, e2⟩ | ⟨e1, e2⟩
  · obtain ⟨n, hn, s1, s2, s3, s4⟩ := hS.2.2.2.2.2.2 d hd
    obtain ⟨r1, r2, r3⟩ := q65_rows hS hd
    rw [e1, p_bind, if_pos hd, e2, p_bind, if_neg p_n10, p_ix hd (by omega), p_cl (by omega), q63_miss _ _ s1, p_bind]
    by_cases m0 : M.2 21 d = 0
    · rw [if_pos m0, if_pos m0, if_neg p_n10]
      exact p_noM hr
    · rw [if_neg m0, if_neg m0, if_pos p_z00, r1, p_bind, r2, p_bind, lN_i]
      have el : (1000000000 : Int64) = lN 1000000000 := rfl
      by_cases q : p_rw S X d ≤ 1000000000
      · rw [if_pos (show lg_cmp (lN (p_rw S X d)) (1000000000 : Int64) ≤ 0 by rw [lg_cmp_le, el, pk_lLE (by omega) (by omega)]; exact q), if_pos (show nI (p_rw S X d) ≤ (1000000000 : Int32) from nI_le (b := 1000000000) q (by omega))]
        exact p_Both_of rfl rfl hr
      · rw [if_neg (show ¬ lg_cmp (lN (p_rw S X d)) (1000000000 : Int64) ≤ 0 by rw [lg_cmp_le, el, pk_lLE (by omega) (by omega)]; exact q), if_neg (show ¬ nI (p_rw S X d) ≤ (1000000000 : Int32) from nI_ge (a := 1000000000) (by omega) (by omega))]
        exact p_noZ hr
  · rw [e1, p_bind, if_neg (by decide), e2, p_bind, if_pos p_z00]
    exact p_noB hr
/-- the 'or' of numbers -/
def p_or (f : Nat → Nat) : Nat → Nat → Nat → Nat
  | 0, _, acc => acc
  | len + 1, i, acc => p_or f len (i + 1) (acc ||| f i)
theorem p_or_bit (f : Nat → Nat) (j : Nat) : ∀ len i acc, (p_or f len i acc).testBit j = (acc.testBit j || p_any (fun a => (f a).testBit j) len i)
  | 0, _, _ => by rw [p_or, p_any, Bool.or_false]
  | len + 1, i, acc => by rw [p_or, p_or_bit f j len (i + 1), Nat.testBit_or, p_any, Bool.or_assoc]
theorem p_any_iff (q : Nat → Bool) : ∀ len i, p_any q len i = true ↔ ∃ a, i ≤ a ∧ a < i + len ∧ q a = true
  | 0, i => by
    rw [p_any]
    constructor
    · intro h; cases h
    · rintro ⟨a, h1, h2, _⟩; omega
  | len + 1, i => by
    rw [p_any, Bool.or_eq_true, p_any_iff q len (i + 1)]
    constructor
    · rintro (h | ⟨a, h1, h2, h3⟩)
      · exact ⟨i, by omega, by omega, h⟩
      · exact ⟨a, by omega, by omega, h3⟩
    · rintro ⟨a, h1, h2, h3⟩
      by_cases e : a = i
      · rw [e] at h3
        exact Or.inl h3
      · exact Or.inr ⟨a, by omega, by omega, h3⟩
theorem p_or_lt (f : Nat → Nat) {N : Nat} : ∀ len i acc, acc < 2 ^ N → (∀ a, i ≤ a → a < i + len → f a < 2 ^ N) → p_or f len i acc < 2 ^ N
  | 0, _, _, h, _ => h
  | len + 1, i, acc, h, hf => by
    rw [p_or]
    exact p_or_lt f len (i + 1) _ (Nat.or_lt_two_pow h (hf i (by omega) (by omega))) (fun a h1 h2 => hf a (by omega) (by omega))
theorem q65_mX (hS : p_RelS S X M) {d k : Nat} (hd : d < 4) (hk : k < p_nb S) (z2 : Int32) : ∀ (len n i acc : Nat), i + len = p_nd S + 1 → len < n → acc < 512 → f_X5_rightsBy_5 X d z2 n (nI k) (nI acc) (p_hc i) = some (nI (p_or (fun a => if p_D X d k a = true then p_rc S (p_c S k) a else 0) len i acc / 2)) := by
  have g := hS.1
  have hB := hS.2.1
  have h8 := g.1
  have h12 := g.2.1
  intro len
  induction len with
  | zero =>
    intro n i acc hi hn ha
    obtain ⟨n, rfl⟩ := p_suc (show 0 < n by omega)
    rw [f_X5_rightsBy_5, hB.1, if_pos ((p_hc_end (by omega) (by omega)).mpr (by omega)), pk_shrN (by omega) ((1 : Int32) &&& 31) 1 (by decide)]
    rfl
  | succ len ih =>
    intro n i acc hi hn ha
    obtain ⟨n, rfl⟩ := p_suc (show 0 < n by omega)
    have rl := p_ri_lt g hk (a := i) (by omega)
    rw [p_ri_rc] at rl
    rw [f_X5_rightsBy_5, hB.1, if_neg (fun z => absurd ((p_hc_end (by omega) (by omega)).mp z) (by omega)), (q65_D hS hd (by omega) (show i ≤ 8 by omega)).1, p_bind, p_bif, bX_rightsBeside hB g hk (by omega), p_bind, fa_or, p_hc_up i (by omega), p_ri_rc, p_or]
    cases q : p_D X d k i with
    | true =>
      rw [if_pos rfl, if_pos rfl]
      exact ih n (i + 1) _ (by omega) (by omega) (Nat.or_lt_two_pow (n := 9) ha rl)
    | false =>
      rw [if_neg (by decide), if_neg (by decide), Nat.or_zero]
      exact ih n (i + 1) _ (by omega) (by omega) ha
/-- one hold's right hand, for the set -/
def p_rb (S : p_S) (X : Nat → q_St) (d k t : Nat) : Nat := if (decide (t % 9 ≠ 0) && (p_hs S (p_c S k) (t / 9) (t % 9) && p_D X d k (t / 9))) = true then 2 ^ (t % 9 - 1) else 0
theorem q65_mN (hS : p_RelS S X M) {d k : Nat} (hd : d < 4) (hk : k < p_nb S) (z1 z2 : Int32) : ∀ (len n t acc : Nat), t + len = 81 → len < n → f_X6_maybe_65 M z1 z2 n (nI d) (nI k) (nI acc) (1 : Int32) (nI t) M = some (nI (p_or (p_rb S X d k) len t acc), M) := by
  have g := hS.1
  have hN := hS.2.2.1
  have h8 := g.1
  have h12 := g.2.1
  have c8 := g.c8 hk
  intro len
  induction len with
  | zero =>
    intro n t acc hi hn
    obtain ⟨n, rfl⟩ := p_suc (show 0 < n by omega)
    rw [f_X6_maybe_65, if_pos (show (81 : Int32) ≤ nI t from nI_le (a := 81) (by omega) (by omega))]
    rfl
  | succ len ih =>
    intro n t acc hi hn
    obtain ⟨n, rfl⟩ := p_suc (show 0 < n by omega)
    have a0 : nI acc ||| (0 : Int32) = nI acc := by rw [show (0 : Int32) = nI 0 from rfl, fa_or, Nat.or_zero]
    rw [f_X6_maybe_65, if_neg (show ¬ (81 : Int32) ≤ nI t from nI_ge (b := 81) (by omega) (by omega)), if_neg p_n10, p_leftT t (by omega), p_bind, p_rightT t (by omega), p_bind, p_or]
    unfold f_X6_maybe_138
    rw [a0, nI_1]
    have skip : p_rb S X d k t = 0 → f_X6_maybe_65 M z1 z2 n (nI d) (nI k) (nI acc) (1 : Int32) (nI (t + 1)) M = some (nI (p_or (p_rb S X d k) len (t + 1) (acc ||| p_rb S X d k t)), M) := by
      intro z
      rw [z, Nat.or_zero]
      exact ih n (t + 1) acc (by omega) (by omega)
    by_cases z : t % 9 = 0
    · rw [if_pos (show p_hc (t % 9) < 0 from (p_hc_lt (by omega)).mpr z)]
      refine skip ?_
      unfold p_rb
      rw [decide_eq_false (by omega), Bool.false_and]; rfl
    · rw [if_neg (show ¬ p_hc (t % 9) < 0 from fun y => z ((p_hc_lt (by omega)).mp y)), bN_isHoldD hN g (by omega) (by omega), p_bind, p_bif]
      by_cases hh : (decide (t / 9 ≤ p_nd S) && (decide (t % 9 ≤ p_nd S) && !(decide (t / 9 = t % 9) && decide (t / 9 ≠ 0)))) = true
      · rw [if_pos hh]
        rw [Bool.and_eq_true, Bool.and_eq_true, decide_eq_true_eq, decide_eq_true_eq] at hh
        have hs := p_st_su h8 c8 hh.1 hh.2.1
        rw [hh.2.2, Bool.and_true] at hs
        have eh : p_hs S (p_c S k) (t / 9) (t % 9) = p_st S (p_c S k) (t / 9) (t % 9) := by
          unfold p_hs
          rw [decide_eq_true hh.1, decide_eq_true hh.2.1]
          rfl
        rw [bN_doesSuit hN g hk hh.1 hh.2.1, p_bind, p_bif, ← hs, (q65_D hS hd (show k < 2 ^ 31 by omega) (show t / 9 ≤ 8 by omega)).2, p_bind, p_bif]
        cases y1 : p_st S (p_c S k) (t / 9) (t % 9) with
        | false =>
          rw [if_neg (by decide)]
          refine skip ?_
          unfold p_rb
          rw [eh, y1, Bool.false_and, Bool.and_false]; rfl
        | true =>
          rw [if_pos rfl]
          cases y2 : p_D X d k (t / 9) with
          | false =>
            rw [if_neg (by decide)]
            refine skip ?_
            unfold p_rb
            rw [y2, Bool.and_false, Bool.and_false]; rfl
          | true =>
            have e : p_rb S X d k t = 2 ^ (t % 9 - 1) := by
              unfold p_rb
              rw [eh, y1, y2, decide_eq_true z]; rfl
            obtain ⟨m, hm⟩ := p_suc (show 0 < t % 9 by omega)
            rw [if_pos rfl, hm, p_hcs, p_shl m (by omega), fa_or, e, hm, Nat.add_sub_cancel]
            exact ih n (t + 1) _ (by omega) (by omega)
      · rw [if_neg hh]
        refine skip ?_
        have eh : p_hs S (p_c S k) (t / 9) (t % 9) = false := by
          cases hq : p_hs S (p_c S k) (t / 9) (t % 9) with
          | false => rfl
          | true =>
            exfalso
            have hq := p_hs_iff.mp hq
            have hne := p_st_ne h8 c8 hq.1 hq.2.1 hq.2.2
            apply hh
            rw [decide_eq_true hq.1, decide_eq_true hq.2.1]
            rcases hne with e | e
            · simp [e]
            · simp [e]
        unfold p_rb
        rw [eh, Bool.false_and, Bool.and_false]; rfl
theorem q65_set (hS : p_RelS S X M) {d k : Nat} (hk : k < p_nb S) : p_or (fun a => if p_D X d k a = true then p_rc S (p_c S k) a else 0) (p_nd S + 1) 0 0 / 2 = p_or (p_rb S X d k) 81 0 0 := by
  have g := hS.1
  have h8 := g.1
  apply Nat.eq_of_testBit_eq
  intro j
  rw [Nat.testBit_div_two, p_or_bit, p_or_bit, Nat.zero_testBit, Nat.zero_testBit, Bool.false_or, Bool.false_or, Bool.eq_iff_iff, p_any_iff, p_any_iff]
  constructor
  · rintro ⟨a, _, ha, h⟩
    by_cases q : p_D X d k a = true
    · have h : (if p_D X d k a = true then p_rc S (p_c S k) a else 0).testBit (j + 1) = true := h
      rw [if_pos q] at h
      have hj : j + 1 < 9 := by
        have rl := p_ri_lt g hk (a := a) (by omega)
        exact p_lt_of_bit (n := 9) rl h
      have hb := p_st_le h8 (g.k hk).1 (show a ≤ p_nd S by omega) hj h
      refine ⟨9 * a + (j + 1), by omega, by omega, ?_⟩
      show (p_rb S X d k (9 * a + (j + 1))).testBit j = true
      unfold p_rb
      rw [show (9 * a + (j + 1)) / 9 = a by omega, show (9 * a + (j + 1)) % 9 = j + 1 by omega, q, p_hs_iff.mpr ⟨by omega, hb, h⟩, decide_eq_true (by omega), if_pos (show (true && (true && true)) = true from rfl), Nat.add_sub_cancel]
      simp [Nat.testBit_two_pow]
    · have h : (if p_D X d k a = true then p_rc S (p_c S k) a else 0).testBit (j + 1) = true := h
      rw [if_neg q, Nat.zero_testBit] at h
      cases h
  · rintro ⟨t, _, ht, h⟩
    have h : (p_rb S X d k t).testBit j = true := h
    unfold p_rb at h
    split at h
    · rename_i q
      rw [Bool.and_eq_true, Bool.and_eq_true, decide_eq_true_eq] at q
      obtain ⟨q1, q2, q3⟩ := q
      have q2 := p_hs_iff.mp q2
      have hj : t % 9 - 1 = j := by
        rw [Nat.testBit_two_pow] at h
        exact of_decide_eq_true h
      refine ⟨t / 9, by omega, by omega, ?_⟩
      show (if p_D X d k (t / 9) = true then p_rc S (p_c S k) (t / 9) else 0).testBit (j + 1) = true
      rw [if_pos q3, show j + 1 = t % 9 by omega]
      exact q2.2.2
    · rw [Nat.zero_testBit] at h
      cases h
theorem w_maybe (h : p_Rel X M) (a b : Int32) : p_Both (f_X5_maybe X a b) (f_X6_maybe M a b) := by
  have hr := h
  obtain ⟨S, hS⟩ := h
  have g := hS.1
  have h8 := g.1
  unfold f_X5_maybe f_X6_maybe
  rcases k_sheet X a with ⟨d, hd, rfl, e1, e2⟩ | ⟨e1, e2⟩
  · obtain ⟨n, hn, s1, s2, s3, s4⟩ := hS.2.2.2.2.2.2 d hd
    obtain ⟨r1, r2, r3⟩ := q65_rows hS hd
    rw [e1, p_bind, if_pos hd, e2, p_bind, if_neg p_n10, p_ix hd (by omega), p_cl (by omega), q63_miss _ _ s1, p_bind]
    by_cases m0 : M.2 21 d = 0
    · rw [if_pos m0, if_pos m0, if_neg p_n10]
      exact p_noM hr
    · rw [if_neg m0, if_neg m0, if_pos p_z00]
      rcases k_beat hS.2.1 hS.2.2.1 g b with ⟨k, hk, rfl, f1, f2⟩ | ⟨f1, f2⟩
      · rw [f1, p_bind, if_neg p_n10, f2, p_bind, if_neg p_n10, r1, p_bind, r2, p_bind]
        by_cases q : p_rw S X d = 0
        · have e : f_X6_maybe_65 M (nI d) (nI k) q_N (nI d) (nI k) (0 : Int32) (0 : Int32) (0 : Int32) M = some ((0 : Int32), M) := by
            obtain ⟨m, hm⟩ : ∃ m, q_N = m + 1 := ⟨2999, rfl⟩
            rw [hm, f_X6_maybe_65, if_neg (show ¬ (81 : Int32) ≤ (0 : Int32) by decide), if_pos p_z00]
          rw [q, if_pos (show lg_cmp (lN 0) (0 : Int64) = 0 by decide), if_pos (show nI 0 ≤ 0 by decide), e]
          exact p_Both_of rfl rfl hr
        · have x := q65_mX hS hd hk (nI k) (p_nd S + 1) q_N 0 0 (by omega) (by rw [q_N_eq]; omega) (by omega)
          have y := q65_mN hS hd hk (nI d) (nI k) 81 q_N 0 0 (by omega) (by rw [q_N_eq]; omega)
          rw [q65_set hS hk] at x
          have x : f_X5_rightsBy_5 X d (nI k) q_N (nI k) (0 : Int32) (-1 : Int32) = _ := x
          have y : f_X6_maybe_65 M (nI d) (nI k) q_N (nI d) (nI k) (0 : Int32) (1 : Int32) (0 : Int32) M = _ := y
          unfold f_X5_rightsBy
          rw [if_neg (show ¬ lg_cmp (lN (p_rw S X d)) (0 : Int64) = 0 from fun z => by
            rw [lg_cmp_eq, show (0 : Int64) = lN 0 from rfl, pk_lEQ (by omega) (by omega)] at z
            exact q z), if_neg (nI_nle (by omega) (by omega)), x, p_bind, y]
          exact p_Both_of rfl rfl hr
      · rw [f1, p_bind, if_pos p_z00, f2, p_bind, if_pos p_z00]
        exact p_noB hr
  · rw [e1, p_bind, if_neg (by decide), e2, p_bind, if_pos p_z00]
    exact p_noB hr
end DRAWN
