/-! both sides together -/
def p_FS (M M' : q_St) : Prop := M'.1 3 = M.1 3 ∧ M'.1 10 = M.1 10 ∧ M'.2 1 = M.2 1 ∧ M'.2 4 = M.2 4 ∧ M'.2 9 = M.2 9 ∧ M'.2 21 = M.2 21 ∧ M'.2 22 = M.2 22 ∧ M'.2 23 = M.2 23
def p_FX (X X' : Nat → q_St) : Prop := ∀ i, i ≠ 1 → i ≠ 3 → i ≠ 4 → X' i = X i
def p_Kp (X : Nat → q_St) (M : q_St) : Prop := (X 0).1 7 = M.1 3 ∧ (¬ (X 0).1 7 = 0 → ∃ K, p_Good K ∧ p_RB (X 2) K ∧ p_RN (M.2 1) K)
def p_Fd (X : Nat → q_St) (M : q_St) : Prop := (∀ i, i < 7 → (X 0).2 6 i = M.2 4 (i + 1)) ∧ M.2 4 0 = ((((((0 + M.2 4 1) + M.2 4 2) + M.2 4 3) + M.2 4 4) + M.2 4 5) + M.2 4 6) + M.2 4 7
def p_Tp (X : Nat → q_St) (M : q_St) : Prop := ∃ t, t ≤ 120 ∧ (X 5).1 0 = nI t ∧ M.1 10 = nI t ∧ ∀ i, i < t → ∃ b, b < 256 ∧ (X 5).2 2 i = nI b ∧ M.2 9 i = nI b
def p_Sh (X : Nat → q_St) (M : q_St) : Prop := ∀ s, s < 4 → ∃ n, n ≤ 40 ∧ (X (6 + s)).1 0 = M.2 21 s ∧ (X (6 + s)).1 1 = nI n ∧ M.2 22 s = nI n ∧ ∀ i, i < 40 → (X (6 + s)).2 2 i = M.2 23 (40 * s + i)
def p_RelS (S : p_S) (X : Nat → q_St) (M : q_St) : Prop := p_Good S ∧ p_RB (X 1) S ∧ p_RN (M.2 0) S ∧ p_Kp X M ∧ p_Fd X M ∧ p_Tp X M ∧ p_Sh X M
def p_Rel (X : Nat → q_St) (M : q_St) : Prop := ∃ S, p_RelS S X M
theorem p_FS_refl (M : q_St) : p_FS M M := ⟨rfl, rfl, rfl, rfl, rfl, rfl, rfl, rfl⟩
theorem p_FS_FM {M M' : q_St} (h : p_FM M M') : p_FS M M' := ⟨by rw [h.1], by rw [h.1], h.2 1 (by decide), h.2 4 (by decide), h.2 9 (by decide), h.2 21 (by decide), h.2 22 (by decide), h.2 23 (by decide)⟩
theorem p_FS_trans {M M1 M2 : q_St} (h : p_FS M M1) (i : p_FS M1 M2) : p_FS M M2 := ⟨i.1.trans h.1, i.2.1.trans h.2.1, i.2.2.1.trans h.2.2.1, i.2.2.2.1.trans h.2.2.2.1, i.2.2.2.2.1.trans h.2.2.2.2.1, i.2.2.2.2.2.1.trans h.2.2.2.2.2.1, i.2.2.2.2.2.2.1.trans h.2.2.2.2.2.2.1, i.2.2.2.2.2.2.2.trans h.2.2.2.2.2.2.2⟩
theorem p_FS_JF {S : p_S} {m w : Nat} {M M' : q_St} {k5 k6 : Nat} (h : p_JF S m w M k5 k6 M') : p_FS M M' := ⟨by rw [h.1], by rw [h.1], h.2.1 1 (by decide) (by decide), h.2.1 4 (by decide) (by decide), h.2.1 9 (by decide) (by decide), h.2.1 21 (by decide) (by decide), h.2.1 22 (by decide) (by decide), h.2.1 23 (by decide) (by decide)⟩
theorem p_FX_refl (X : Nat → q_St) : p_FX X X := fun _ _ _ _ => rfl
theorem p_FX_trans {X X1 X2 : Nat → q_St} (h : p_FX X X1) (i : p_FX X1 X2) : p_FX X X2 := fun k a b c => (i k a b c).trans (h k a b c)
theorem p_FX_1 (X : Nat → q_St) (B : q_St) : p_FX X (va_up X 1 B) := fun _ a _ _ => if_neg a
theorem p_FX_3 (X : Nat → q_St) (B : q_St) : p_FX X (va_up X 3 B) := fun _ _ a _ => if_neg a
theorem p_FX_4 (X : Nat → q_St) (B : q_St) : p_FX X (va_up X 4 B) := fun _ _ _ a => if_neg a
theorem p_Rel_mv {S S' : p_S} {X X' : Nat → q_St} {M M' : q_St} (h : p_RelS S X M) (g : p_Good S') (hB : p_RB (X' 1) S') (hN : p_RN (M'.2 0) S') (fx : p_FX X X') (fm : p_FS M M') : p_RelS S' X' M' := by
  obtain ⟨_, _, _, hk, hf, ht, hs⟩ := h
  obtain ⟨m3, m10, r1, r4, r9, r21, r22, r23⟩ := fm
  have x0 := fx 0 (by decide) (by decide) (by decide)
  have x2 := fx 2 (by decide) (by decide) (by decide)
  have x5 := fx 5 (by decide) (by decide) (by decide)
  refine ⟨g, hB, hN, ?_, ?_, ?_, ?_⟩
  · unfold p_Kp
    rw [x0, x2, m3, r1]
    exact hk
  · unfold p_Fd
    rw [x0, r4]
    exact hf
  · unfold p_Tp
    rw [x5, m10, r9]
    exact ht
  · intro s hs4
    rw [fx (6 + s) (by omega) (by omega) (by omega), r21, r22, r23]
    exact hs s hs4
def p_Both (o1 : Option (Int32 × (Nat → q_St))) (o2 : Option (Int32 × q_St)) : Prop := p_wp o1 (fun u => p_wp o2 (fun v => u.1 = v.1 ∧ p_Rel u.2 v.2))
def p_BothR (o1 : Option Int32) (o2 : Option Int32) : Prop := ∃ r, o1 = some r ∧ o2 = some r
theorem p_Both_of {X' : Nat → q_St} {M' : q_St} {r : Int32} {o1 : Option (Int32 × (Nat → q_St))} {o2 : Option (Int32 × q_St)} (h1 : o1 = some (r, X')) (h2 : o2 = some (r, M')) (h : p_Rel X' M') : p_Both o1 o2 := ⟨_, h1, _, h2, rfl, h⟩
/-! findings -/
def p_fc (j : Nat) : Int32 := (-1000001 : Int32) - nI j
theorem q54_fc : ∀ j, j < 7 → (-1000001 : Int32) - p_fc j = nI j := by decide +kernel
theorem q54_ac (x y : Int32) : (x + 1) + y = (x + y) + 1 := by rw [Int32.add_assoc, Int32.add_assoc, Int32.add_comm 1 y]
theorem q54_sum (f : Nat → Int32) (x : Int32) : ∀ j, j < 7 → ((((((0 + upd f (j + 1) (f (j + 1) + 1) 1) + upd f (j + 1) (f (j + 1) + 1) 2) + upd f (j + 1) (f (j + 1) + 1) 3) + upd f (j + 1) (f (j + 1) + 1) 4) + upd f (j + 1) (f (j + 1) + 1) 5) + upd f (j + 1) (f (j + 1) + 1) 6) + upd f (j + 1) (f (j + 1) + 1) 7 = (((((((0 + f 1) + f 2) + f 3) + f 4) + f 5) + f 6) + f 7) + 1 := by
  have a : ∀ x y : Int32, x + (y + 1) = (x + y) + 1 := fun x y => (Int32.add_assoc x y 1).symm
  intro j hj
  have hj : j = 0 ∨ j = 1 ∨ j = 2 ∨ j = 3 ∨ j = 4 ∨ j = 5 ∨ j = 6 := by omega
  rcases hj with rfl | rfl | rfl | rfl | rfl | rfl | rfl
  · show ((((((0 + (f 1 + 1)) + f 2) + f 3) + f 4) + f 5) + f 6) + f 7 = _
    rw [a, q54_ac, q54_ac, q54_ac, q54_ac, q54_ac, q54_ac]
  · show ((((((0 + f 1) + (f 2 + 1)) + f 3) + f 4) + f 5) + f 6) + f 7 = _
    rw [a, q54_ac, q54_ac, q54_ac, q54_ac, q54_ac]
  · show ((((((0 + f 1) + f 2) + (f 3 + 1)) + f 4) + f 5) + f 6) + f 7 = _
    rw [a, q54_ac, q54_ac, q54_ac, q54_ac]
  · show ((((((0 + f 1) + f 2) + f 3) + (f 4 + 1)) + f 5) + f 6) + f 7 = _
    rw [a, q54_ac, q54_ac, q54_ac]
  · show ((((((0 + f 1) + f 2) + f 3) + f 4) + (f 5 + 1)) + f 6) + f 7 = _
    rw [a, q54_ac, q54_ac]
  · show ((((((0 + f 1) + f 2) + f 3) + f 4) + f 5) + (f 6 + 1)) + f 7 = _
    rw [a, q54_ac]
  · show ((((((0 + f 1) + f 2) + f 3) + f 4) + f 5) + f 6) + (f 7 + 1) = _
    rw [a]
theorem p_find {S : p_S} {X : Nat → q_St} {M : q_St} (h : p_RelS S X M) {j : Nat} (hj : j < 7) {c : Int32} (hc : c = p_fc j) : ∃ X' M', f_X5_finding X c = some (c, X') ∧ f_X6_finding M c = some (c, M') ∧ p_RelS S X' M' := by
  subst hc
  obtain ⟨g, hB, hN, hk, hf, ht, hs⟩ := h
  have e1 : f_X5_finding X (p_fc j) = some (p_fc j, va_up X 0 ((X 0).1, va_up (X 0).2 6 (upd ((X 0).2 6) j ((X 0).2 6 j + 1)))) := by
    unfold f_X5_finding
    rw [q54_fc j hj, if_neg (nI_pos (by omega)), if_neg (show ¬ (7 : Int32) ≤ nI j from nI_ge (b := 7) hj (by omega)), p_ix hj (by omega), p_ix hj (by omega), p_cl (by omega)]
  have e2 : f_X6_finding M (p_fc j) = some (p_fc j, (M.1, va_up M.2 4 (upd (upd (M.2 4) (j + 1) (M.2 4 (j + 1) + 1)) 0 (M.2 4 0 + 1)))) := by
    unfold f_X6_finding
    rw [q54_fc j hj, nI_1, p_ix (show j + 1 < 8 by omega) (by omega), p_ix (show j + 1 < 8 by omega) (by omega), p_cl (by omega), show ∀ A : Option (Int32 × q_St), q_ix (0 : Int32) 8 A = A from fun A => p_ix (j := 0) (by decide) (by decide) A, show ∀ A : Option (Int32 × q_St), q_ix (0 : Int32) 8 A = A from fun A => p_ix (j := 0) (by decide) (by decide) A, p_C0, pk_un (show 0 ≠ j + 1 by omega)]
  refine ⟨_, _, e1, e2, g, hB, hN, hk, ⟨fun i hi => ?_, ?_⟩, ht, fun s h4 => ?_⟩
  · show upd ((X 0).2 6) j ((X 0).2 6 j + 1) i = upd (upd (M.2 4) (j + 1) (M.2 4 (j + 1) + 1)) 0 (M.2 4 0 + 1) (i + 1)
    rw [pk_un (show i + 1 ≠ 0 by omega)]
    by_cases e : i = j
    · rw [e, pk_us, pk_us, hf.1 j hj]
    · rw [pk_un e, pk_un (by omega)]
      exact hf.1 i hi
  · show upd (upd (M.2 4) (j + 1) (M.2 4 (j + 1) + 1)) 0 (M.2 4 0 + 1) 0 = _
    rw [pk_us, hf.2, ← q54_sum (M.2 4) 0 j hj]
    rfl
  · have e : va_up X 0 ((X 0).1, va_up (X 0).2 6 (upd ((X 0).2 6) j ((X 0).2 6 j + 1))) (6 + s) = X (6 + s) := if_neg (by omega)
    rw [e]
    exact hs s h4
theorem p_nob {X : Nat → q_St} {M : q_St} (h : p_Rel X M) {j : Nat} (hj : j < 7) {c : Int32} (hc : c = p_fc j) : p_Both (Option.bind (f_X5_finding X c) (fun u => some (u.1, u.2))) (Option.bind (f_X6_finding M c) (fun u => some (u.1, u.2))) := by
  obtain ⟨S, h⟩ := h
  obtain ⟨X', M', e1, e2, h'⟩ := p_find h hj hc
  rw [e1, e2]
  exact p_Both_of rfl rfl ⟨S, h'⟩
section NO
variable {X : Nat → q_St} {M : q_St}
theorem p_noB (h : p_Rel X M) : p_Both (Option.bind (f_X5_finding X (-1000001 : Int32)) (fun u => some (u.1, u.2))) (Option.bind (f_X6_finding M (-1000001 : Int32)) (fun u => some (u.1, u.2))) := p_nob h (j := 0) (by decide) (by decide)
theorem p_noF (h : p_Rel X M) : p_Both (Option.bind (f_X5_finding X (-1000002 : Int32)) (fun u => some (u.1, u.2))) (Option.bind (f_X6_finding M (-1000002 : Int32)) (fun u => some (u.1, u.2))) := p_nob h (j := 1) (by decide) (by decide)
theorem p_noK (h : p_Rel X M) : p_Both (Option.bind (f_X5_finding X (-1000003 : Int32)) (fun u => some (u.1, u.2))) (Option.bind (f_X6_finding M (-1000003 : Int32)) (fun u => some (u.1, u.2))) := p_nob h (j := 2) (by decide) (by decide)
theorem p_noN (h : p_Rel X M) : p_Both (Option.bind (f_X5_finding X (-1000004 : Int32)) (fun u => some (u.1, u.2))) (Option.bind (f_X6_finding M (-1000004 : Int32)) (fun u => some (u.1, u.2))) := p_nob h (j := 3) (by decide) (by decide)
theorem p_noS (h : p_Rel X M) : p_Both (Option.bind (f_X5_finding X (-1000005 : Int32)) (fun u => some (u.1, u.2))) (Option.bind (f_X6_finding M (-1000005 : Int32)) (fun u => some (u.1, u.2))) := p_nob h (j := 4) (by decide) (by decide)
theorem p_noM (h : p_Rel X M) : p_Both (Option.bind (f_X5_finding X (-1000006 : Int32)) (fun u => some (u.1, u.2))) (Option.bind (f_X6_finding M (-1000006 : Int32)) (fun u => some (u.1, u.2))) := p_nob h (j := 5) (by decide) (by decide)
theorem p_noZ (h : p_Rel X M) : p_Both (Option.bind (f_X5_finding X (-1000007 : Int32)) (fun u => some (u.1, u.2))) (Option.bind (f_X6_finding M (-1000007 : Int32)) (fun u => some (u.1, u.2))) := p_nob h (j := 6) (by decide) (by decide)
end NO
/-! questions on any ints, on both sides -/
theorem p_hc_toInt {c : Nat} (h : c < 2 ^ 31) : (p_hc c).toInt = (c : Int) - 1 := by
  cases c with
  | zero => decide
  | succ d =>
    rw [p_hcs, nI_toInt (by omega)]
    omega
theorem p_wi1 {j n : Nat} (h : j < n) (hn : n < 2 ^ 31) : f_X6_within (nI j) (0 : Int32) (p_hc n) = some 1 := by
  rw [p_within, show decide ((0 : Int32) ≤ nI j) = true from decide_eq_true (nI_pos' (by omega)), show decide (nI j ≤ p_hc n) = true from decide_eq_true (by rw [fa_le, nI_toInt (by omega), p_hc_toInt hn]; omega)]
  rfl
theorem p_wi0 {x : Int32} {n : Nat} (h : x < 0 ∨ nI n ≤ x) (hn : n < 2 ^ 31) : f_X6_within x (0 : Int32) (p_hc n) = some 0 := by
  rw [p_within]
  rcases h with h | h
  · rw [show decide ((0 : Int32) ≤ x) = false from decide_eq_false (fa_of_lt h).2.1]; rfl
  · rw [show decide (x ≤ p_hc n) = false from decide_eq_false (by rw [fa_le, p_hc_toInt hn]; rw [fa_le, nI_toInt hn] at h; omega), Bool.and_false]; rfl
theorem p_bz0 {α : Type} (x : Option α) : q_bz (0 : Int32) x = x := p_bz false x
theorem p_bz1 {α : Type} (x : Option α) : q_bz (1 : Int32) x = x := p_bz true x
section ASK
variable {B M : q_St} {S : p_S}
theorem k_doll (hB : p_RB B S) (hN : p_RN (M.2 0) S) (g : p_Good S) (a : Int32) : (∃ d, d < p_nd S ∧ a = nI d ∧ f_X0_isDoll B a = some 1 ∧ f_X6_isDoll M a = some 1) ∨ (f_X0_isDoll B a = some 0 ∧ f_X6_isDoll M a = some 0) := by
  have h8 := g.1
  rcases p_cases a (n := p_nd S) (by omega) with h | ⟨d, hd, rfl⟩
  · right
    refine ⟨bX_isDollN hB h, ?_⟩
    unfold f_X6_isDoll
    rw [p_Q0, p_C0, hN.1, p_hc_m _ (by omega), p_wi0 h (by omega), p_bind, p_bz0]
  · exact Or.inl ⟨d, hd, rfl, bX_isDoll hB g hd, bN_isDoll hN g hd⟩
theorem k_beat (hB : p_RB B S) (hN : p_RN (M.2 0) S) (g : p_Good S) (a : Int32) : (∃ d, d < p_nb S ∧ a = nI d ∧ f_X0_isBeat B a = some 1 ∧ f_X6_isBeat M a = some 1) ∨ (f_X0_isBeat B a = some 0 ∧ f_X6_isBeat M a = some 0) := by
  have h8 := g.2.1
  rcases p_cases a (n := p_nb S) (by omega) with h | ⟨d, hd, rfl⟩
  · right
    refine ⟨bX_isBeatN hB h, ?_⟩
    unfold f_X6_isBeat
    rw [p_Q1, p_C1, hN.2.1, p_hc_m _ (by omega), p_wi0 h (by omega), p_bind, p_bz0]
  · exact Or.inl ⟨d, hd, rfl, bX_isBeat hB g hd, bN_isBeat hN g hd⟩
theorem k_kind (a : Int32) : (∃ d, d < 7 ∧ a = nI d ∧ f_X1_isKind a = some 1 ∧ f_X6_isKind a = some 1) ∨ (f_X1_isKind a = some 0 ∧ f_X6_isKind a = some 0) := by
  rcases p_cases a (n := 7) (by omega) with h | ⟨d, hd, rfl⟩
  · right
    refine ⟨?_, ?_⟩
    · unfold f_X1_isKind
      by_cases q : a < 0
      · rw [if_pos q]
      · rw [if_neg q, if_pos (show (7 : Int32) ≤ a from h.resolve_left q)]
    · unfold f_X6_isKind
      rw [show f_X6_within a (0 : Int32) (6 : Int32) = some 0 from p_wi0 (n := 7) h (by omega), p_bind, p_bz0]
  · refine Or.inl ⟨d, hd, rfl, ?_, ?_⟩
    · unfold f_X1_isKind
      rw [if_neg (nI_pos (by omega)), if_neg (show ¬ (7 : Int32) ≤ nI d from nI_ge (b := 7) hd (by omega))]
    · unfold f_X6_isKind
      rw [show f_X6_within (nI d) (0 : Int32) (6 : Int32) = some 1 from p_wi1 (n := 7) hd (by omega), p_bind, p_bz1]
theorem k_hand (a : Int32) : (∃ d, d < 2 ∧ a = nI d ∧ f_X5_isHand a = some 1 ∧ f_X6_isHand a = some 1) ∨ (f_X5_isHand a = some 0 ∧ f_X6_isHand a = some 0) := by
  rcases p_cases a (n := 2) (by omega) with h | ⟨d, hd, rfl⟩
  · right
    have n0 : ¬ a = 0 := by rintro rfl; exact absurd h (by decide)
    have n1 : ¬ a = (1 : Int32) := by rintro rfl; exact absurd h (by decide)
    refine ⟨?_, ?_⟩
    · unfold f_X5_isHand
      rw [if_neg n0, if_neg n1]
    · unfold f_X6_isHand
      rw [show f_X6_within a (0 : Int32) (1 : Int32) = some 0 from p_wi0 (n := 2) h (by omega), p_bind, p_bz0]
  · refine Or.inl ⟨d, hd, rfl, ?_, ?_⟩
    · have : d = 0 ∨ d = 1 := by omega
      rcases this with rfl | rfl <;> decide
    · unfold f_X6_isHand
      rw [show f_X6_within (nI d) (0 : Int32) (1 : Int32) = some 1 from p_wi1 (n := 2) hd (by omega), p_bind, p_bz1]
theorem k_what (a : Int32) : (∃ d, d < 2 ∧ a = nI d ∧ f_X5_isWorth a = some 1 ∧ f_X6_isWhat a = some 1) ∨ (f_X5_isWorth a = some 0 ∧ f_X6_isWhat a = some 0) := k_hand a
theorem k_cast (hB : p_RB B S) (hN : p_RN (M.2 0) S) (g : p_Good S) (a : Int32) : (∃ c, c < 2 ^ p_nd S ∧ a = nI c ∧ f_X0_isCast B a = some 1 ∧ f_X6_isCast M a = some 1) ∨ (f_X0_isCast B a = some 0 ∧ f_X6_isCast M a = some 0) := by
  have h8 := g.1
  have h9 : 2 ^ p_nd S ≤ 2 ^ 8 := Nat.pow_le_pow_right (by decide) h8
  have em : nI (2 ^ p_nd S) - (1 : Int32) = p_hc (2 ^ p_nd S) := by
    obtain ⟨m, hm⟩ := p_suc (Nat.two_pow_pos (p_nd S))
    rw [hm, p_hcs]; exact nI_pred m
  rcases p_cases a (n := 2 ^ p_nd S) (by omega) with h | ⟨d, hd, rfl⟩
  · right
    refine ⟨?_, ?_⟩
    · unfold f_X0_isCast
      rw [hB.1, p_shl _ (by omega)]
      by_cases q : a < 0
      · rw [if_pos q]
      · rw [if_neg q, if_pos (h.resolve_left q)]
    · unfold f_X6_isCast
      rw [p_Q0, p_C0, hN.1, p_shl _ (by omega), em, p_wi0 h (by omega), p_bind, p_bz0]
  · refine Or.inl ⟨d, hd, rfl, ?_, ?_⟩
    · unfold f_X0_isCast
      rw [hB.1, p_shl _ (by omega), if_neg (nI_pos (by omega)), if_neg (nI_ge hd (by omega))]
    · unfold f_X6_isCast
      rw [p_Q0, p_C0, hN.1, p_shl _ (by omega), em, p_wi1 hd (by omega), p_bind, p_bz1]
theorem k_none (hB : p_RB B S) (hN : p_RN (M.2 0) S) (g : p_Good S) (a : Int32) : (∃ c, c ≤ p_nd S ∧ a = p_hc c ∧ f_X0_isDollOrNone B a = some 1 ∧ f_X6_maySpeak M a = some 1) ∨ (¬ a = (-1 : Int32) ∧ f_X0_isDollOrNone B a = some 0 ∧ f_X6_maySpeak M a = some 0 ∧ f_X6_isDoll M a = some 0) := by
  by_cases q : a = (-1 : Int32)
  · subst q
    exact Or.inl ⟨0, by omega, rfl, bX_isDollOrNone hB g (c := 0) (by omega), bN_maySpeak hN g (c := 0) (by omega)⟩
  · rcases k_doll hB hN g a with ⟨d, hd, rfl, e1, e2⟩ | ⟨e1, e2⟩
    · exact Or.inl ⟨d + 1, by omega, rfl, bX_isDollOrNone hB g (c := d + 1) (by omega), bN_maySpeak hN g (c := d + 1) (by omega)⟩
    · refine Or.inr ⟨q, ?_, ?_, e2⟩
      · unfold f_X0_isDollOrNone
        rw [if_neg q, e1, p_bind, if_pos rfl]
      · unfold f_X6_maySpeak
        rw [if_neg q, e2, p_bind, if_pos rfl]
theorem k_spot (B : q_St) (a : Int32) : (∃ d, d < 10 ∧ a = nI d ∧ f_X0_isSpot B a = some 1 ∧ f_X6_isSpot a = some 1) ∨ (f_X0_isSpot B a = some 0 ∧ f_X6_isSpot a = some 0) := by
  rcases p_cases a (n := 10) (by omega) with h | ⟨d, hd, rfl⟩
  · right
    refine ⟨?_, ?_⟩
    · unfold f_X0_isSpot
      by_cases q : a < 0
      · rw [if_pos q]
      · rw [if_neg q, if_pos (show (10 : Int32) ≤ a from h.resolve_left q)]
    · unfold f_X6_isSpot
      rw [show f_X6_within a (0 : Int32) (9 : Int32) = some 0 from p_wi0 (n := 10) h (by omega), p_bind, p_bz0]
  · refine Or.inl ⟨d, hd, rfl, ?_, ?_⟩
    · unfold f_X0_isSpot
      rw [if_neg (nI_pos (by omega)), if_neg (show ¬ (10 : Int32) ≤ nI d from nI_ge (b := 10) hd (by omega))]
    · unfold f_X6_isSpot
      rw [show f_X6_within (nI d) (0 : Int32) (9 : Int32) = some 1 from p_wi1 (n := 10) hd (by omega), p_bind, p_bz1]
theorem k_sheet (X : Nat → q_St) (a : Int32) : (∃ d, d < 4 ∧ a = nI d ∧ f_X5_sheetAt X a = some d ∧ f_X6_isSheet a = some 1) ∨ (f_X5_sheetAt X a = some 4 ∧ f_X6_isSheet a = some 0) := by
  rcases p_cases a (n := 4) (by omega) with h | ⟨d, hd, rfl⟩
  · right
    refine ⟨?_, ?_⟩
    · unfold f_X5_sheetAt
      by_cases q : a < 0
      · rw [if_pos q]
      · rw [if_neg q, if_pos (show (4 : Int32) ≤ a from h.resolve_left q)]
    · unfold f_X6_isSheet
      rw [show f_X6_within a (0 : Int32) (3 : Int32) = some 0 from p_wi0 (n := 4) h (by omega), p_bind, p_bz0]
  · refine Or.inl ⟨d, hd, rfl, ?_, ?_⟩
    · unfold f_X5_sheetAt
      rw [if_neg (nI_pos (by omega)), if_neg (show ¬ (4 : Int32) ≤ nI d from nI_ge (b := 4) hd (by omega)), p_ix hd (by omega), p_cl (by omega)]
    · unfold f_X6_isSheet
      rw [show f_X6_within (nI d) (0 : Int32) (3 : Int32) = some 1 from p_wi1 (n := 4) hd (by omega), p_bind, p_bz1]
end ASK
