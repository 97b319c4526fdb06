/-! the reference's search for a way -/
theorem q5_sm : ∀ d, d < 31 → ((nI d &&& 31).toBitVec.smod 32).toNat = d := by decide +kernel
theorem p_hasN {c d : Nat} (hc : c < 2 ^ 31) (hd : d < 31) : f_X6_has (nI c) (nI d) = some (p_b (c.testBit d)) := by
  have e : (nI c >>> (nI d &&& 31)) &&& (1 : Int32) = nI (c / 2 ^ d % 2) := by
    rw [pk_shrN hc (nI d &&& 31) d (q5_sm d hd)]
    exact fa_mask (c / 2 ^ d) 1
  unfold f_X6_has
  rw [e, Nat.testBit_eq_decide_div_mod_eq]
  have h2 : c / 2 ^ d % 2 < 2 := Nat.mod_lt _ (by decide)
  by_cases h : c / 2 ^ d % 2 = 1
  · rw [if_pos (show nI (c / 2 ^ d % 2) = (1 : Int32) from congrArg nI h), decide_eq_true h]; rfl
  · rw [if_neg (show ¬ nI (c / 2 ^ d % 2) = (1 : Int32) from fun z => h ((nI_eq (b := 1) (by omega) (by omega)).mp z)), decide_eq_false h]; rfl
theorem p_bif {α : Type} (q : Bool) (x y : α) : (if p_b q = 0 then x else y) = if q = true then y else x := by cases q <;> rfl
theorem p_bz (q : Bool) {α : Type} (x : Option α) : q_bz (p_b q) x = x := by cases q <;> rfl
theorem p_b01 (q : Bool) : (if q = true then (some (1 : Int32)) else some 0) = some (p_b q) := by cases q <;> rfl
theorem p_hc_ltI {c d : Nat} (hc : c < 2 ^ 31) (hd : d < 2 ^ 31) : p_hc c < nI d ↔ c ≤ d := by
  cases c with
  | zero =>
    rw [fa_lt, nI_toInt hd, show (p_hc 0).toInt = -1 from by decide]
    omega
  | succ c =>
    rw [p_hcs, nI_ltI (by omega) hd]
    omega
theorem p_within (x a b : Int32) : f_X6_within x a b = some (p_b (decide (a ≤ x) && decide (x ≤ b))) := by
  unfold f_X6_within
  by_cases h : x < a
  · rw [if_pos h, show decide (a ≤ x) = false from decide_eq_false fun z => (fa_of_lt h).2.1 z]; rfl
  · rw [if_neg h, show decide (a ≤ x) = true from decide_eq_true (fa_of_nlt h)]
    by_cases h2 : b < x
    · rw [if_pos h2, show decide (x ≤ b) = false from decide_eq_false fun z => (fa_of_lt h2).2.1 z]; rfl
    · rw [if_neg h2, show decide (x ≤ b) = true from decide_eq_true (fa_of_nlt h2)]; rfl
theorem p_hd_dm {t : Nat} : p_hd (t / 9) (t % 9) = t := by unfold p_hd; omega
theorem p_hd_div {a b : Nat} (hb : b < 9) : p_hd a b / 9 = a := by unfold p_hd; omega
theorem p_hd_mod {a b : Nat} (hb : b < 9) : p_hd a b % 9 = b := by unfold p_hd; omega
theorem p_leftT : ∀ t, t < 81 → f_X6_leftOf (nI t) = some (p_hc (t / 9)) := by decide +kernel
theorem p_rightT : ∀ t, t < 81 → f_X6_rightOf (nI t) = some (p_hc (t % 9)) := by decide +kernel
theorem p_nowX : ∀ a, a < 9 → ∀ b, b < 9 → (((9 : Int32) * (p_hc a + (1 : Int32))) + p_hc b) + (1 : Int32) = nI (p_hd a b) := by decide +kernel
/-- the casts of the beats from k on that are in a set -/
def p_mk (S : p_S) (m : Nat) : Nat → Nat → List Nat
  | 0, _ => []
  | len + 1, k => if m.testBit k then p_c S k :: p_mk S m len (k + 1) else p_mk S m len (k + 1)
def p_mr (S : p_S) (m k : Nat) : List Nat := p_mk S m (12 - k) k
theorem p_mr_in {S : p_S} {m k : Nat} (hk : k < 12) (h : m.testBit k = true) : p_mr S m k = p_c S k :: p_mr S m (k + 1) := by
  unfold p_mr
  rw [show 12 - k = (12 - (k + 1)) + 1 by omega, p_mk, if_pos h]
theorem p_mr_out {S : p_S} {m k : Nat} (hk : k < 12) (h : m.testBit k = false) : p_mr S m k = p_mr S m (k + 1) := by
  unfold p_mr
  rw [show 12 - k = (12 - (k + 1)) + 1 by omega, p_mk, if_neg (by rw [h]; decide)]
theorem p_mr_12 (S : p_S) (m : Nat) : p_mr S m 12 = [] := rfl
section FIND
variable {M : q_St} {S : p_S} {m w : Nat}
theorem bN_isDollD (h : p_RN (M.2 0) S) (g : p_Good S) {d : Nat} (hd : d < 2 ^ 31) : f_X6_isDoll M (nI d) = some (p_b (decide (d < p_nd S))) := by
  have h8 := g.1
  unfold f_X6_isDoll
  rw [show ∀ A : Option Int32, q_ix (0 : Int32) 68 A = A from p_q68 0 (by decide), show (0 : Int32).toNatClampNeg = 0 from rfl, h.1, p_hc_m _ (by omega)]
  unfold f_X6_within
  rw [if_neg (nI_pos hd)]
  by_cases q : d < p_nd S
  · rw [if_neg (fun z => absurd ((p_hc_ltI (by omega) hd).mp z) (by omega)), decide_eq_true q]; rfl
  · rw [if_pos ((p_hc_ltI (by omega) hd).mpr (by omega)), decide_eq_false q]; rfl
theorem bN_maySpeakD (h : p_RN (M.2 0) S) (g : p_Good S) {c : Nat} (hc : c < 2 ^ 31) : f_X6_maySpeak M (p_hc c) = some (p_b (decide (c ≤ p_nd S))) := by
  unfold f_X6_maySpeak
  cases c with
  | zero => rw [p_hc0, if_pos rfl]; simp [p_b]
  | succ d =>
    rw [if_neg (show ¬ p_hc (d + 1) = (-1 : Int32) from fun e => absurd ((p_hc_m1 hc).mp e) (by omega))]
    rw [show f_X6_isDoll M (p_hc (d + 1)) = _ from bN_isDollD h g (d := d) (by omega), p_bind, p_bif, p_b01]
    rfl
theorem bN_isHoldD (h : p_RN (M.2 0) S) (g : p_Good S) {a b : Nat} (ha : a < 2 ^ 31) (hb : b < 2 ^ 31) : f_X6_isHold M (p_hc a) (p_hc b) = some (p_b (decide (a ≤ p_nd S) && (decide (b ≤ p_nd S) && !(decide (a = b) && decide (a ≠ 0))))) := by
  have h8 := g.1
  unfold f_X6_isHold
  rw [bN_maySpeakD h g ha, p_bind, p_bif]
  by_cases qa : a ≤ p_nd S
  · rw [decide_eq_true qa, if_pos rfl, bN_maySpeakD h g hb, p_bind, p_bif]
    by_cases qb : b ≤ p_nd S
    · rw [decide_eq_true qb, if_pos rfl]
      by_cases e : a = b
      · subst e
        rw [if_pos rfl]
        cases a with
        | zero => rw [p_hc0, if_neg (show ¬ (0 : Int32) ≤ -1 by decide)]; simp [p_b]
        | succ d => rw [p_hcs, if_pos (nI_pos' (by omega))]; simp [p_b]
      · rw [if_neg (fun z => e ((p_hc_eq (by omega) (by omega)).mp z))]
        simp [e, p_b]
    · rw [decide_eq_false qb, if_neg (by decide)]; rfl
  · rw [decide_eq_false qa, if_neg (by decide)]; rfl
/-- the reference's table: rows of worths from k5 on, of what suits from k6 on -/
def p_JF (S : p_S) (m w : Nat) (M : q_St) (k5 k6 : Nat) (M' : q_St) : Prop := M'.1 = M.1 ∧ (∀ j, j ≠ 5 → j ≠ 6 → M'.2 j = M.2 j) ∧ (∀ k a b, k5 ≤ k → k ≤ 12 → a ≤ p_nd S → b ≤ p_nd S → (a ≠ b ∨ a = 0) → M'.2 5 (k * 81 + p_hd a b) = nI (p_W S w (p_mr S m k) a b)) ∧ ∀ k t, k6 ≤ k → k < 12 → t < 81 → M'.2 6 (k * 81 + t) = p_b (m.testBit k && p_hs S (p_c S k) (t / 9) (t % 9))
theorem q5_150 {M' : q_St} (g : p_Good S) (hw : w < 2) (hm : m < 4096) {b : Nat} (hb : b < 12) (hmb : m.testBit b = true) (hR : p_RN (M'.2 0) S) {l r : Nat} (hl : l ≤ p_nd S) (hr : r ≤ p_nd S) (hlr : l ≠ r ∨ l = 0) (h5 : ∀ a c, a ≤ p_nd S → c ≤ p_nd S → (a ≠ c ∨ a = 0) → M'.2 5 ((b + 1) * 81 + p_hd a c) = nI (p_W S w (p_mr S m (b + 1)) a c)) (h6 : ∀ t, t < 81 → M'.2 6 (b * 81 + t) = p_b (p_hs S (p_c S b) (t / 9) (t % 9))) (hbn : b < p_nb S) (Z : q_St) (z1 z2 : Int32) (r28 : Int32 → Int32 → Int32 → q_St → Option (Int32 × q_St)) (r111 : Int32 → Int32 → Int32 → Int32 → q_St → Option (Int32 × q_St)) : ∀ (len n t acc : Nat), t + len = 81 → len < n → acc ≤ 1000000 → p_mn (fun t => if p_hs S (p_c S b) (t / 9) (t % 9) then (p_mv S w l (t / 9) + p_mv S w r (t % 9)) + p_W S w (p_mr S m (b + 1)) (t / 9) (t % 9) else 1000000) len t acc = p_W S w (p_mr S m b) l r → f_X6_findWay_150 Z z1 z2 r28 r111 n (nI m) (nI w) (nI b) (nI (p_hd l r)) (nI acc) (nI t) M' = f_X6_findWay_239 Z z1 z2 r28 r111 (nI m) (nI w) (nI b) (nI (p_hd l r)) (nI (p_W S w (p_mr S m b) l r)) M' := by
  have h8 := g.1
  have hd := p_hd_lt (a := l) (b := r) (by omega) (by omega)
  intro len
  induction len with
  | zero =>
    intro n t acc hi hn hacc hmn
    obtain ⟨n, rfl⟩ := p_suc (show 0 < n by omega)
    have hmn : acc = p_W S w (p_mr S m b) l r := hmn
    rw [f_X6_findWay_150, if_pos (show (81 : Int32) ≤ nI t from nI_le (a := 81) (by omega) (by omega)), hmn]
  | succ len ih =>
    intro n t acc hi hn hacc hmn
    obtain ⟨n, rfl⟩ := p_suc (show 0 < n by omega)
    rw [p_mn] at hmn
    rw [f_X6_findWay_150, if_neg (show ¬ (81 : Int32) ≤ nI t from nI_ge (b := 81) (by omega) (by omega)), p_hasN (by omega) (by omega), p_bind, p_bif, hmb, if_pos rfl, p_leftX l (by omega) r (by omega), p_bind, p_rightX l (by omega) r (by omega), p_bind, bN_isHold hR g hl hr, p_bind, p_bif]
    have hh : (!(decide (l = r) && decide (l ≠ 0))) = true := by
      rcases hlr with e | e
      · simp [e]
      · simp [e]
    rw [if_pos hh, show nI b * (81 : Int32) + nI t = nI (b * 81 + t) by rw [p_L81, p_mul, p_add], p_ix (by omega) (by omega), p_cl (by omega), h6 t (by omega), p_bif, show nI t + 1 = nI (t + 1) from nI_1 t]
    by_cases q : p_hs S (p_c S b) (t / 9) (t % 9) = true
    · have hq := p_hs_iff.mp q
      have c8 := g.c8 hbn
      have e1 : f_X6_worthBetween M' (nI (p_hd l r)) (nI t) (nI w) = some (nI (p_wb S l r (t / 9) (t % 9) w)) := by
        have := bN_worthBetween hR g hl hr hq.1 hq.2.1 hw
        rw [p_hd_dm] at this
        exact this
      have e2 := h5 _ _ hq.1 hq.2.1 (p_st_ne h8 c8 hq.1 hq.2.1 hq.2.2)
      rw [p_hd_dm] at e2
      have m1 := p_mv_le g (a := l) (w := w) hq.1
      have m2 := p_mv_le g (a := r) (w := w) hq.2.1
      have m3 := p_W_le S w (p_mr S m (b + 1)) (t / 9) (t % 9)
      rw [if_pos q, e1, p_bind, show (nI b + (1 : Int32)) * (81 : Int32) + nI t = nI ((b + 1) * 81 + t) by rw [nI_1, p_L81, p_mul, p_add], p_ix (by omega) (by omega), p_cl (by omega), e2, p_wb_mv S hw, p_add, p_ifI (by omega) (by omega)]
      rw [if_pos q] at hmn
      exact ih n (t + 1) _ (by omega) (by omega) (by split <;> omega) hmn
    · rw [if_neg q]
      rw [if_neg q, if_neg (show ¬ 1000000 < acc by omega)] at hmn
      exact ih n (t + 1) acc (by omega) (by omega) hacc hmn
end FIND
