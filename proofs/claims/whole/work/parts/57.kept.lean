/-! lists of what is kept, and sets of beats -/
theorem p_kp_cong {q r : Nat → Bool} : ∀ len k, (∀ i, k ≤ i → i < k + len → q i = r i) → p_kp q len k = p_kp r len k
  | 0, _, _ => rfl
  | len + 1, k, h => by
    rw [p_kp, p_kp, h k (by omega) (by omega), p_kp_cong len (k + 1) (fun i h1 h2 => h i (by omega) (by omega))]
theorem p_kp_add (q : Nat → Bool) : ∀ a b k, p_kp q (a + b) k = p_kp q a k ++ p_kp q b (k + a)
  | 0, b, k => by rw [Nat.zero_add, Nat.add_zero]; rfl
  | a + 1, b, k => by
    rw [show a + 1 + b = (a + b) + 1 by omega, p_kp, p_kp, p_kp_add q a b (k + 1), show k + 1 + a = k + (a + 1) by omega]
    split <;> rfl
theorem p_kp_none {q : Nat → Bool} : ∀ len k, (∀ i, k ≤ i → i < k + len → q i = false) → p_kp q len k = []
  | 0, _, _ => rfl
  | len + 1, k, h => by
    rw [p_kp, h k (by omega) (by omega), if_neg (by decide), p_kp_none len (k + 1) (fun i h1 h2 => h i (by omega) (by omega))]
theorem p_kp_length (q : Nat → Bool) : ∀ len k, (p_kp q len k).length = p_cf q len k
  | 0, _ => rfl
  | len + 1, k => by
    rw [p_kp, p_cf]
    have := p_kp_length q len (k + 1)
    split
    · rw [List.length_cons]; omega
    · omega
theorem p_kp_all : ∀ n, p_kp (fun _ => true) n 0 = List.range n
  | 0 => rfl
  | n + 1 => by
    rw [p_kp_add, p_kp_all n, List.range_succ]
    rw [Nat.zero_add]
    rfl
theorem p_kp_but {n k : Nat} (hk : k < n) : p_kp (fun i => decide (i ≠ k)) n 0 = (List.range n).eraseIdx k := by
  have e1 : List.range n = List.range (k + 1) ++ p_kp (fun _ => true) (n - (k + 1)) (k + 1) := by
    rw [← p_kp_all n, show n = (k + 1) + (n - (k + 1)) by omega, p_kp_add, p_kp_all, Nat.zero_add]
    rw [show k + 1 + (n - (k + 1)) - (k + 1) = n - (k + 1) by omega]
  have e2 : p_kp (fun i => decide (i ≠ k)) n 0 = List.range k ++ p_kp (fun _ => true) (n - (k + 1)) (k + 1) := by
    rw [show n = k + ((n - (k + 1)) + 1) by omega, p_kp_add, Nat.zero_add, p_kp, if_neg (by simp), p_kp_cong (q := fun i => decide (i ≠ k)) (r := fun _ => true) k 0 (fun i _ h => by simp; omega), p_kp_all, p_kp_cong (q := fun i => decide (i ≠ k)) (r := fun _ => true) _ (k + 1) (fun i h _ => by simp; omega)]
    rw [show k + (n - (k + 1) + 1) - (k + 1) = n - (k + 1) by omega]
  rw [e1, e2, p_rng_erase]
theorem p_mk_kp (S : p_S) (m : Nat) : ∀ len k, p_mk S m len k = (p_kp (fun i => m.testBit i) len k).map (p_c S)
  | 0, _ => rfl
  | len + 1, k => by
    rw [p_mk, p_kp, p_mk_kp S m len (k + 1)]
    split <;> rfl
theorem p_mr_kp {S : p_S} (h12 : p_nb S ≤ 12) {m : Nat} {q : Nat → Bool} (h : ∀ k, k < 12 → m.testBit k = (decide (k < p_nb S) && q k)) : p_mr S m 0 = (p_kp q (p_nb S) 0).map (p_c S) := by
  unfold p_mr
  rw [p_mk_kp, show 12 - 0 = p_nb S + (12 - p_nb S) by omega, p_kp_add, p_kp_none (12 - p_nb S), List.append_nil, p_kp_cong (q := fun i => m.testBit i) (r := q)]
  · intro i _ hi
    rw [h i (by omega), decide_eq_true (by omega), Bool.true_and]
  · intro i h1 h2
    show m.testBit i = false
    rw [h i (by omega), decide_eq_false (by omega), Bool.false_and]
theorem p_wr_sel (S : p_S) (L : List Nat) (j : Nat) : p_wr (p_sel S L) j = p_wr S (L.getD j 0) := rfl
theorem p_go_sel {S : p_S} (q : Nat → Bool) : p_go (p_sel S (p_kp q (p_nb S) 0)) = true ↔ ∀ i, i < p_nb S → q i = true → p_wr S i = false := by
  have mem : ∀ len k i, k ≤ i → i < k + len → q i = true → i ∈ p_kp q len k := by
    intro len
    induction len with
    | zero => intro k i h1 h2; omega
    | succ len ih =>
      intro k i h1 h2 h3
      rw [p_kp]
      by_cases e : i = k
      · subst e
        rw [if_pos h3]
        exact List.mem_cons_self ..
      · have := ih (k + 1) i (by omega) (by omega) h3
        split
        · exact List.mem_cons_of_mem _ this
        · exact this
  have tr : ∀ len k i, i ∈ p_kp q len k → q i = true := by
    intro len
    induction len with
    | zero => intro k i h; cases h
    | succ len ih =>
      intro k i h
      rw [p_kp] at h
      split at h
      · rename_i hq
        rcases List.mem_cons.mp h with rfl | h
        · exact hq
        · exact ih _ _ h
      · exact ih _ _ h
  rw [p_go_iff]
  constructor
  · intro h i hi hq
    obtain ⟨j, hj, he⟩ := List.mem_iff_getElem.mp (mem (p_nb S) 0 i (by omega) (by omega) hq)
    have := h j hj
    rw [p_wr_sel, show (p_kp q (p_nb S) 0).getD j 0 = i by rw [← he]; simp [List.getD, List.getElem?_eq_getElem hj]] at this
    exact this
  · intro h j hj
    have hj : j < (p_kp q (p_nb S) 0).length := hj
    rw [p_wr_sel, show (p_kp q (p_nb S) 0).getD j 0 = (p_kp q (p_nb S) 0)[j] by simp [List.getD, List.getElem?_eq_getElem hj]]
    have hm := List.getElem_mem hj
    have := p_kp_mem q (p_nb S) 0 _ hm
    exact h _ (by omega) (tr _ _ _ hm)
theorem p_ws_bit (S : p_S) (j : Nat) : (p_ws S).testBit j = (decide (j < p_nb S) && p_wr S j) := by
  unfold p_ws
  rw [p_set_bit, Nat.zero_testBit, Bool.false_or, Nat.zero_add, decide_eq_true (Nat.zero_le j), Bool.true_and]
/-- two rows of dolls alike: the worths are alike -/
theorem p_W_same {S S' : p_S} {w : Nat} (h1 : ∀ c a b, p_hs S' c a b = p_hs S c a b) (h2 : ∀ a b, p_mv S' w a b = p_mv S w a b) : ∀ cs l r, p_W S' w cs l r = p_W S w cs l r
  | [], _, _ => rfl
  | c :: cs, l, r => by
    have ih := p_W_same h1 h2 cs
    rw [p_W, p_W]
    congr 1
    funext t
    rw [h1, h2, h2, ih]
theorem q57_and : ∀ n, n < 13 → ∀ k, k < 12 → nI (2 ^ n - 1) &&& (((1 : Int32) <<< (nI k &&& 31)) ^^^ (-1 : Int32)) = nI ((2 ^ n - 1) &&& (4095 ^^^ 2 ^ k)) := by decide +kernel
theorem q57_bits : ∀ n, n < 13 → ∀ k, k < 12 → ∀ j, j < 12 → ((2 ^ n - 1) &&& (4095 ^^^ 2 ^ k)).testBit j = (decide (j < n) && decide (j ≠ k)) := by decide +kernel
theorem q57_lt : ∀ n, n < 13 → ∀ k, k < 12 → (2 ^ n - 1) &&& (4095 ^^^ 2 ^ k) < 4096 := by decide +kernel
theorem q57_rng : ∀ b, b < 12 → ∀ a, a < 12 → (1 : Int32) <<< ((nI b + (1 : Int32)) &&& 31) - (1 : Int32) <<< (nI a &&& 31) = nI (2 ^ (b + 1)) - nI (2 ^ a) := by decide +kernel
theorem q57_rbit : ∀ b, b < 12 → ∀ a, a < 12 → ∀ j, j < 12 → (!decide (a ≤ b) || (2 ^ (b + 1) - 2 ^ a).testBit j == (decide (a ≤ j) && decide (j ≤ b))) = true := by decide +kernel
theorem q57_b : ∀ a, a < 64 → ∀ b, b < 64 → f_X6_bits (nI (64 * a + b)) = some (nI (p_cf (fun d => (64 * a + b).testBit d) 12 0)) := by decide +kernel
theorem p_bits12 {c : Nat} (h : c < 4096) : f_X6_bits (nI c) = some (nI (p_cf (fun d => c.testBit d) 12 0)) := by
  have := q57_b (c / 64) (by omega) (c % 64) (by omega)
  rw [show 64 * (c / 64) + c % 64 = c by omega] at this
  exact this
theorem q57_not {a b : Nat} (ha : a < 4096) : nI a &&& (nI b ^^^ (-1 : Int32)) = nI (a &&& (4095 ^^^ b)) := by
  apply Int32.toBitVec_inj.1
  show BitVec.ofNat 32 a &&& (BitVec.ofNat 32 b ^^^ (-1 : Int32).toBitVec) = BitVec.ofNat 32 (a &&& (4095 ^^^ b))
  apply BitVec.eq_of_getLsbD_eq
  intro i hi
  have e1 : ((-1 : Int32).toBitVec).getLsbD i = true := by
    have : ∀ j : Fin 32, ((-1 : Int32).toBitVec).getLsbD j.val = true := by decide +kernel
    exact this ⟨i, hi⟩
  rw [BitVec.getLsbD_and, BitVec.getLsbD_xor, e1, BitVec.getLsbD_ofNat, BitVec.getLsbD_ofNat, BitVec.getLsbD_ofNat, Nat.testBit_and, Nat.testBit_xor, decide_eq_true hi]
  by_cases h12 : i < 12
  · have e2 : (4095 : Nat).testBit i = true := by
      have : ∀ j : Fin 12, (4095 : Nat).testBit j.val = true := by decide +kernel
      exact this ⟨i, h12⟩
    rw [e2]
    cases a.testBit i <;> cases b.testBit i <;> rfl
  · have e3 : a.testBit i = false := Nat.testBit_lt_two_pow (Nat.lt_of_lt_of_le ha (show 2 ^ 12 ≤ 2 ^ i from Nat.pow_le_pow_right (by decide) (by omega)))
    rw [e3]
    rfl
theorem q57_nbit {a b j : Nat} (hj : j < 12) : (a &&& (4095 ^^^ b)).testBit j = (a.testBit j && !b.testBit j) := by
  have e2 : (4095 : Nat).testBit j = true := by
    have : ∀ j : Fin 12, (4095 : Nat).testBit j.val = true := by decide +kernel
    exact this ⟨j, hj⟩
  rw [Nat.testBit_and, Nat.testBit_xor, e2, Bool.true_xor]
