/-! the reference's search for a way: its loops -/
theorem q5_nar (q : Bool) : vp_nar .boolean (p_b q) = p_b q := by cases q <;> rfl
section FIND2
variable {M : q_St} {S : p_S} {m w : Nat} {P : Int32 × q_St → Prop}
theorem p_JF_row {k5 k6 : Nat} {M' : q_St} (j : p_JF S m w M k5 k6 M') : M'.2 0 = M.2 0 := j.2.1 0 (by decide) (by decide)
theorem p_JF_5 {k5 k6 : Nat} {M' : q_St} (j : p_JF S m w M k5 k6 M') {i : Nat} (hi : ∀ k t, k5 ≤ k → k ≤ 12 → t < 81 → k * 81 + t ≠ i) (h8 : p_nd S ≤ 8) (x : Int32) : p_JF S m w M k5 k6 (M'.1, va_up M'.2 5 (upd (M'.2 5) i x)) := by
  refine ⟨j.1, fun n h5 h6 => ?_, fun k a b h1 h2 ha hb hab => ?_, j.2.2.2⟩
  · show va_up M'.2 5 _ n = _
    unfold va_up
    rw [if_neg h5]
    exact j.2.1 n h5 h6
  · show upd (M'.2 5) i x (k * 81 + p_hd a b) = _
    rw [pk_un (hi k _ h1 h2 (p_hd_lt (by omega) (by omega)))]
    exact j.2.2.1 k a b h1 h2 ha hb hab
theorem p_JF_6 {k5 k6 : Nat} {M' : q_St} (j : p_JF S m w M k5 k6 M') {i : Nat} (hi : ∀ k t, k6 ≤ k → k < 12 → t < 81 → k * 81 + t ≠ i) (x : Int32) : p_JF S m w M k5 k6 (M'.1, va_up M'.2 6 (upd (M'.2 6) i x)) := by
  refine ⟨j.1, fun n h5 h6 => ?_, j.2.2.1, fun k t h1 h2 ht => ?_⟩
  · show va_up M'.2 6 _ n = _
    unfold va_up
    rw [if_neg h6]
    exact j.2.1 n h5 h6
  · show upd (M'.2 6) i x (k * 81 + t) = _
    rw [pk_un (hi k t h1 h2 ht)]
    exact j.2.2.2 k t h1 h2 ht
theorem q5_111 (h : p_RN (M.2 0) S) (g : p_Good S) (hw : w < 2) (hm : m < 4096) (hmn : ∀ k, m.testBit k = true → k < p_nb S) {b : Nat} (hb : b < 12) (Z : q_St) (z1 z2 : Int32) (r28 : Int32 → Int32 → Int32 → q_St → Option (Int32 × q_St)) (hK : ∀ M', p_JF S m w M b b M' → p_wp (r28 (nI m) (nI w) (p_hc b) M') P) : ∀ (len n t : Nat) (M' : q_St), t + len = 81 → len < n → p_JF S m w M (b + 1) b M' → (∀ a c, a ≤ p_nd S → c ≤ p_nd S → (a ≠ c ∨ a = 0) → p_hd a c < t → M'.2 5 (b * 81 + p_hd a c) = nI (p_W S w (p_mr S m b) a c)) → p_wp (f_X6_findWay_111 Z z1 z2 r28 n (nI m) (nI w) (nI b) (nI t) M') P := by
  have h8 := g.1
  intro len
  induction len with
  | zero =>
    intro n t M' hi hn j1 j2
    obtain ⟨n, rfl⟩ := p_suc (show 0 < n by omega)
    rw [f_X6_findWay_111, if_pos (show (81 : Int32) ≤ nI t from nI_le (a := 81) (by omega) (by omega)), show nI b + (-1) = p_hc b from p_hc_dn b (by omega)]
    refine hK M' ⟨j1.1, j1.2.1, fun k a c h1 h2 ha hc hac => ?_, j1.2.2.2⟩
    by_cases e : k = b
    · subst e
      exact j2 a c ha hc hac (by have := p_hd_lt (a := a) (b := c) (by omega) (by omega); omega)
    · exact j1.2.2.1 k a c (by omega) h2 ha hc hac
  | succ len ih =>
    intro n t M' hi hn j1 j2
    obtain ⟨n, rfl⟩ := p_suc (show 0 < n by omega)
    have hR : p_RN (M'.2 0) S := by rw [p_JF_row j1]; exact h
    rw [f_X6_findWay_111, if_neg (show ¬ (81 : Int32) ≤ nI t from nI_ge (b := 81) (by omega) (by omega)), p_hasN (by omega) (by omega), p_bind, p_bif]
    have fin : ∀ x : Int32, (∀ a c, a ≤ p_nd S → c ≤ p_nd S → (a ≠ c ∨ a = 0) → p_hd a c = t → x = nI (p_W S w (p_mr S m b) a c)) → p_wp (f_X6_findWay_239 Z z1 z2 r28 (fun x1 x2 x3 x4 M' => f_X6_findWay_111 Z z1 z2 r28 n x1 x2 x3 x4 M') (nI m) (nI w) (nI b) (nI t) x M') P := by
      intro x hx
      unfold f_X6_findWay_239
      rw [show nI b * (81 : Int32) + nI t = nI (b * 81 + t) by rw [p_L81, p_mul, p_add], p_ix (by omega) (by omega), p_cl (by omega), show nI t + 1 = nI (t + 1) from nI_1 t]
      refine ih n (t + 1) _ (by omega) (by omega) (p_JF_5 j1 (fun k t' h1 h2 h3 => by omega) h8 x) (fun a c ha hc hac hlt => ?_)
      show upd (M'.2 5) (b * 81 + t) x (b * 81 + p_hd a c) = _
      by_cases e : p_hd a c = t
      · rw [e, pk_us]
        exact hx a c ha hc hac e
      · rw [pk_un (by omega)]
        exact j2 a c ha hc hac (by omega)
    cases hmb : m.testBit b with
    | false =>
      rw [if_neg (by decide), show (nI b + (1 : Int32)) * (81 : Int32) + nI t = nI ((b + 1) * 81 + t) by rw [nI_1, p_L81, p_mul, p_add], p_ix (by omega) (by omega), p_cl (by omega)]
      obtain ⟨q, hq⟩ : ∃ q, q_N = q + 1 := ⟨2999, rfl⟩
      rw [hq, f_X6_findWay_150, if_neg (show ¬ (81 : Int32) ≤ (0 : Int32) by decide), p_hasN (by omega) (by omega), p_bind, p_bif, hmb, if_neg (by decide)]
      refine fin _ (fun a c ha hc hac e => ?_)
      rw [p_mr_out hb hmb, ← e]
      exact j1.2.2.1 (b + 1) a c (by omega) (by omega) ha hc hac
    | true =>
      rw [if_pos rfl]
      have hbn := hmn b hmb
      by_cases hh : (t / 9 ≤ p_nd S ∧ t % 9 ≤ p_nd S) ∧ (t / 9 ≠ t % 9 ∨ t / 9 = 0)
      · have := q5_150 (M' := M') (l := t / 9) (r := t % 9) g hw hm hb hmb hR hh.1.1 hh.1.2 hh.2 (fun a c ha hc hac => j1.2.2.1 (b + 1) a c (by omega) (by omega) ha hc hac) (fun t ht => by rw [j1.2.2.2 b t (by omega) hb ht, hmb, Bool.true_and]) hbn Z z1 z2 r28 (fun x1 x2 x3 x4 M' => f_X6_findWay_111 Z z1 z2 r28 n x1 x2 x3 x4 M') 81 q_N 0 1000000 (by omega) (by rw [q_N_eq]; omega) (by omega) (by rw [p_mr_in hb hmb]; rfl)
        rw [p_hd_dm] at this
        have this : f_X6_findWay_150 Z z1 z2 r28 (fun x1 x2 x3 x4 M' => f_X6_findWay_111 Z z1 z2 r28 n x1 x2 x3 x4 M') q_N (nI m) (nI w) (nI b) (nI t) (1000000 : Int32) (0 : Int32) M' = _ := this
        rw [this]
        refine fin _ (fun a c ha hc hac e => ?_)
        rw [← e, p_hd_div (by omega), p_hd_mod (by omega)]
      · obtain ⟨q, hq⟩ : ∃ q, q_N = q + 1 := ⟨2999, rfl⟩
        rw [hq, f_X6_findWay_150, if_neg (show ¬ (81 : Int32) ≤ (0 : Int32) by decide), p_hasN (by omega) (by omega), p_bind, p_bif, hmb, if_pos rfl, p_leftT t (by omega), p_bind, p_rightT t (by omega), p_bind, bN_isHoldD hR g (by omega) (by omega), p_bind, p_bif, if_neg]
        · refine fin _ (fun a c ha hc hac e => ?_)
          exfalso
          apply hh
          rw [← e, p_hd_div (by omega), p_hd_mod (by omega)]
          exact ⟨⟨ha, hc⟩, hac⟩
        · intro z
          apply hh
          rw [Bool.and_eq_true, Bool.and_eq_true, decide_eq_true_eq, decide_eq_true_eq] at z
          refine ⟨⟨z.1, z.2.1⟩, ?_⟩
          have z2 := z.2.2
          by_cases e : t / 9 = t % 9
          · by_cases e0 : t / 9 = 0
            · exact Or.inr e0
            · rw [show decide (t / 9 = t % 9) = true from decide_eq_true e, show decide (t / 9 ≠ 0) = true from decide_eq_true e0] at z2
              cases z2
          · exact Or.inl e
theorem q5_35 (h : p_RN (M.2 0) S) (g : p_Good S) (hw : w < 2) (hm : m < 4096) (hmn : ∀ k, m.testBit k = true → k < p_nb S) {b : Nat} (hb : b < 12) (Z : q_St) (z1 z2 : Int32) (r28 : Int32 → Int32 → Int32 → q_St → Option (Int32 × q_St)) (hK : ∀ M', p_JF S m w M b b M' → p_wp (r28 (nI m) (nI w) (p_hc b) M') P) : ∀ (len n t : Nat) (M' : q_St), t + len = 81 → len < n → p_JF S m w M (b + 1) (b + 1) M' → (∀ t', t' < t → M'.2 6 (b * 81 + t') = p_b (m.testBit b && p_hs S (p_c S b) (t' / 9) (t' % 9))) → p_wp (f_X6_findWay_35 Z z1 z2 r28 n (nI m) (nI w) (nI b) (nI t) M') P := by
  have h8 := g.1
  intro len
  induction len with
  | zero =>
    intro n t M' hi hn j1 j2
    obtain ⟨n, rfl⟩ := p_suc (show 0 < n by omega)
    rw [f_X6_findWay_35, if_pos (show (81 : Int32) ≤ nI t from nI_le (a := 81) (by omega) (by omega))]
    refine q5_111 h g hw hm hmn hb Z z1 z2 r28 hK 81 q_N 0 M' (by omega) (by rw [q_N_eq]; omega) ⟨j1.1, j1.2.1, j1.2.2.1, fun k t' h1 h2 ht => ?_⟩ (fun a c _ _ _ hlt => absurd hlt (by omega))
    by_cases e : k = b
    · subst e
      exact j2 t' (by omega)
    · exact j1.2.2.2 k t' (by omega) h2 ht
  | succ len ih =>
    intro n t M' hi hn j1 j2
    obtain ⟨n, rfl⟩ := p_suc (show 0 < n by omega)
    have hR : p_RN (M'.2 0) S := by rw [p_JF_row j1]; exact h
    rw [f_X6_findWay_35, if_neg (show ¬ (81 : Int32) ≤ nI t from nI_ge (b := 81) (by omega) (by omega)), p_hasN (by omega) (by omega), p_bind, p_bif]
    have fin : ∀ q : Bool, q = (m.testBit b && p_hs S (p_c S b) (t / 9) (t % 9)) → p_wp (q_ix ((nI b * (81 : Int32)) + nI t) 972 (f_X6_findWay_35 Z z1 z2 r28 n (nI m) (nI w) (nI b) (nI t + 1) (M'.1, (va_up M'.2 6 (upd (M'.2 6) ((nI b * (81 : Int32)) + nI t).toNatClampNeg (vp_nar .boolean (p_b q))))))) P := by
      intro q hq
      rw [show nI b * (81 : Int32) + nI t = nI (b * 81 + t) by rw [p_L81, p_mul, p_add], p_ix (by omega) (by omega), p_cl (by omega), show nI t + 1 = nI (t + 1) from nI_1 t, q5_nar]
      refine ih n (t + 1) _ (by omega) (by omega) (p_JF_6 j1 (fun k t' h1 h2 h3 => by omega) _) (fun t' ht' => ?_)
      show upd (M'.2 6) (b * 81 + t) (p_b q) (b * 81 + t') = _
      by_cases e : t' = t
      · rw [e, pk_us, hq]
      · rw [pk_un (by omega)]
        exact j2 t' (by omega)
    cases hmb : m.testBit b with
    | false =>
      rw [if_neg (by decide)]
      exact fin false (by rw [hmb]; rfl)
    | true =>
      have hbn := hmn b hmb
      have c8 := g.c8 hbn
      rw [if_pos rfl, p_leftT t (by omega), p_bind, p_rightT t (by omega), p_bind, bN_isHoldD hR g (by omega) (by omega), p_bind, p_bif]
      by_cases hh : (decide (t / 9 ≤ p_nd S) && (decide (t % 9 ≤ p_nd S) && !(decide (t / 9 = t % 9) && decide (t / 9 ≠ 0)))) = true
      · rw [if_pos hh, p_bind, p_bind]
        rw [Bool.and_eq_true, Bool.and_eq_true, decide_eq_true_eq, decide_eq_true_eq] at hh
        have hs := p_st_su h8 c8 hh.1 hh.2.1
        rw [hh.2.2, Bool.and_true] at hs
        rw [bN_doesSuit hR g hbn hh.1 hh.2.1, p_bind, p_bif, ← hs]
        cases hst : p_st S (p_c S b) (t / 9) (t % 9) with
        | false =>
          rw [if_neg (by decide)]
          exact fin false (by rw [hmb]; unfold p_hs; rw [hst]; simp)
        | true =>
          rw [if_pos rfl]
          exact fin true (by rw [hmb]; unfold p_hs; rw [hst, decide_eq_true hh.1, decide_eq_true hh.2.1]; rfl)
      · rw [if_neg hh]
        refine fin false ?_
        rw [hmb, Bool.true_and]
        cases hq : p_hs S (p_c S b) (t / 9) (t % 9) with
        | false => rfl
        | true =>
          exfalso
          have hq := p_hs_iff.mp hq
          have hne := p_st_ne h8 c8 hq.1 hq.2.1 hq.2.2
          apply hh
          rw [decide_eq_true hq.1, decide_eq_true hq.2.1]
          rcases hne with e | e
          · simp [e]
          · simp [e]
theorem q5_28 (h : p_RN (M.2 0) S) (g : p_Good S) (hw : w < 2) (hm : m < 4096) (hmn : ∀ k, m.testBit k = true → k < p_nb S) (Z : q_St) (z1 z2 : Int32) : ∀ (k n : Nat) (M' : q_St), k ≤ 12 → k < n → p_JF S m w M k k M' → p_wp (f_X6_findWay_28 Z z1 z2 n (nI m) (nI w) (p_hc k) M') (fun q => q.1 = nI (p_W S w (p_mr S m 0) (p_l S) (p_r S)) ∧ p_JF S m w M 0 0 q.2) := by
  have h8 := g.1
  have hl := g.2.2.1
  have hr := g.2.2.2.1
  have hlr := g.2.2.2.2.1
  intro k
  induction k with
  | zero =>
    intro n M' hk hn j1
    obtain ⟨n, rfl⟩ := p_suc (show 0 < n by omega)
    have hR : p_RN (M'.2 0) S := by rw [p_JF_row j1]; exact h
    have hd := p_hd_lt (a := p_l S) (b := p_r S) (by omega) (by omega)
    have e : f_X6_holdNow M' = some (nI (p_hd (p_l S) (p_r S))) := by
      unfold f_X6_holdNow
      rw [show ∀ A : Option Int32, q_ix (2 : Int32) 68 A = A from p_q68 2 (by decide), show ∀ A : Option Int32, q_ix (3 : Int32) 68 A = A from p_q68 3 (by decide), show (2 : Int32).toNatClampNeg = 2 from rfl, show (3 : Int32).toNatClampNeg = 3 from rfl, hR.2.2.1, hR.2.2.2.1, p_nowX _ (by omega) _ (by omega)]
    rw [f_X6_findWay_28, if_pos (show p_hc 0 < 0 by decide), e, p_bind, p_ix (by omega) (by omega), p_cl (by omega), p_wp_some]
    refine ⟨?_, j1⟩
    have := j1.2.2.1 0 _ _ (by omega) (by omega) hl hr (by omega)
    rw [Nat.zero_mul, Nat.zero_add] at this
    exact this
  | succ k ih =>
    intro n M' hk hn j1
    obtain ⟨n, rfl⟩ := p_suc (show 0 < n by omega)
    rw [f_X6_findWay_28, if_neg (show ¬ p_hc (k + 1) < 0 from nI_pos (by omega))]
    exact q5_35 h g hw hm hmn (b := k) (by omega) Z z1 z2 _ (fun M'' j => ih n M'' (by omega) (by omega) j) 81 q_N 0 M' (by omega) (by rw [q_N_eq]; omega) j1 (fun t ht => absurd ht (by omega))
theorem q5_2 (h : p_RN (M.2 0) S) (g : p_Good S) (hw : w < 2) (hm : m < 4096) (hmn : ∀ k, m.testBit k = true → k < p_nb S) (Z : q_St) (z1 z2 : Int32) : ∀ (len n t : Nat) (M' : q_St), t + len = 81 → len < n → M'.1 = M.1 → (∀ j, j ≠ 5 → j ≠ 6 → M'.2 j = M.2 j) → (∀ t', t' < t → M'.2 5 (972 + t') = 0) → p_wp (f_X6_findWay_2 Z z1 z2 n (nI m) (nI w) (nI t) M') (fun q => q.1 = nI (p_W S w (p_mr S m 0) (p_l S) (p_r S)) ∧ p_JF S m w M 0 0 q.2) := by
  have h8 := g.1
  intro len
  induction len with
  | zero =>
    intro n t M' hi hn j1 j2 j3
    obtain ⟨n, rfl⟩ := p_suc (show 0 < n by omega)
    rw [f_X6_findWay_2, if_pos (show (81 : Int32) ≤ nI t from nI_le (a := 81) (by omega) (by omega))]
    refine q5_28 h g hw hm hmn Z z1 z2 12 q_N M' (by omega) (by rw [q_N_eq]; omega) ⟨j1, j2, fun k a b h1 h2 ha hb _ => ?_, fun k t h1 h2 => absurd h2 (by omega)⟩
    have : k = 12 := by omega
    subst this
    have hd := p_hd_lt (a := a) (b := b) (by omega) (by omega)
    rw [p_mr_12, show 12 * 81 + p_hd a b = 972 + p_hd a b by omega, j3 _ (by omega)]
    rfl
  | succ len ih =>
    intro n t M' hi hn j1 j2 j3
    obtain ⟨n, rfl⟩ := p_suc (show 0 < n by omega)
    rw [f_X6_findWay_2, if_neg (show ¬ (81 : Int32) ≤ nI t from nI_ge (b := 81) (by omega) (by omega)), show (972 : Int32) + nI t = nI (972 + t) from p_add 972 t, p_ix (by omega) (by omega), p_cl (by omega), show nI t + 1 = nI (t + 1) from nI_1 t]
    refine ih n (t + 1) _ (by omega) (by omega) j1 (fun j h5 h6 => ?_) (fun t' ht => ?_)
    · show va_up M'.2 5 _ j = _
      unfold va_up
      rw [if_neg h5]
      exact j2 j h5 h6
    · show upd (M'.2 5) (972 + t) 0 (972 + t') = _
      by_cases e : t' = t
      · rw [e, pk_us]
      · rw [pk_un (by omega)]
        exact j3 t' (by omega)
theorem q5_find (h : p_RN (M.2 0) S) (g : p_Good S) (hw : w < 2) (hm : m < 4096) (hmn : ∀ k, m.testBit k = true → k < p_nb S) : p_wp (f_X6_findWay M (nI m) (nI w)) (fun q => q.1 = nI (p_W S w (p_mr S m 0) (p_l S) (p_r S)) ∧ p_JF S m w M 0 0 q.2) := by
  unfold f_X6_findWay
  exact q5_2 h g hw hm hmn M _ _ 81 q_N 0 M (by omega) (by rw [q_N_eq]; omega) rfl (fun _ _ _ => rfl) (fun t ht => absurd ht (by omega))
end FIND2
