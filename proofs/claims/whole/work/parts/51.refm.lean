/-! the reference's changes -/
def p_FM (M M' : q_St) : Prop := M'.1 = M.1 ∧ ∀ j, j ≠ 0 → M'.2 j = M.2 j
theorem p_FM_refl (M : q_St) : p_FM M M := ⟨rfl, fun _ _ => rfl⟩
theorem p_FM_trans {M M1 M2 : q_St} (h : p_FM M M1) (i : p_FM M1 M2) : p_FM M M2 := ⟨i.1.trans h.1, fun j hj => (i.2 j hj).trans (h.2 j hj)⟩
theorem p_FM_up (M : q_St) (N : Nat → Int32) : p_FM M (M.1, va_up M.2 0 N) := ⟨rfl, fun j hj => if_neg hj⟩
theorem p_cf_add (q : Nat → Bool) : ∀ a b i, p_cf q (a + b) i = p_cf q a i + p_cf q b (i + a)
  | 0, b, i => by rw [Nat.zero_add, Nat.add_zero]; exact (Nat.zero_add _).symm
  | a + 1, b, i => by
    rw [show a + 1 + b = (a + b) + 1 by omega, p_cf, p_cf, p_cf_add q a b (i + 1), show i + 1 + a = i + (a + 1) by omega, Nat.add_assoc]
theorem p_cf_none {q : Nat → Bool} : ∀ len i, (∀ d, i ≤ d → d < i + len → q d = false) → p_cf q len i = 0
  | 0, _, _ => rfl
  | len + 1, i, h => by
    rw [p_cf, h i (by omega) (by omega), p_cf_none len (i + 1) (fun d h1 h2 => h d (by omega) (by omega))]
    rfl
theorem p_pop_set (q : Nat → Bool) {n : Nat} (h : n ≤ 8) : p_pop (p_set q n 0 0) = p_cf q n 0 := by
  unfold p_pop
  rw [show 8 = n + (8 - n) by omega, p_cf_add, p_cf_none (8 - n) (0 + n), Nat.add_zero]
  · exact p_cf_cong n 0 (fun d _ h2 => by rw [p_set_bit]; simp; omega)
  · intro d h1 h2
    rw [p_set_bit]
    simp
    omega
def p_DRN (nz sh : Int32 → Int32) : Prop := ∀ M : q_St, f_X6_drawn M (10 : Int32) = some (sh (nz (M.2 0 9)) - sh (nz (M.2 0 9)) / (10 : Int32) * (10 : Int32), (M.1, va_up M.2 0 (upd (M.2 0) 9 (nz (M.2 0 9)))))
theorem p_DRN_X : p_DRN p_nz p_sh := by
  intro M
  unfold f_X6_drawn
  rw [p_Q9, p_Q9, p_Q9, p_C9, pk_us]
  rfl
section REFM
variable {M : q_St} {S : p_S}
theorem uM_become (M : q_St) {i : Nat} (hi : i < 68) (x : Int32) : f_X6_become M (nI i) x = some (M.2 0 i, (M.1, va_up M.2 0 (upd (M.2 0) i x))) := by
  unfold f_X6_become
  rw [p_q68 i hi, p_q68 i hi, p_cl (by omega)]
theorem uM_comes (h : p_RN (M.2 0) S) (g : p_Good S) {k z : Nat} (h7 : p_nd S < 8) : p_wp (f_X6_comes M (nI k) (nI z)) (fun q => q.1 = nI (p_nd S) ∧ p_FM M q.2 ∧ p_RN (q.2.2 0) (p_addD S k z)) := by
  have h12 := g.2.1
  have a0 : f_X6_at (nI (p_nd S)) (0 : Int32) = some (nI (20 + 3 * p_nd S)) := p_atX (p_nd S) 0
  have a1 : f_X6_at (nI (p_nd S)) (1 : Int32) = some (nI (20 + 3 * p_nd S + 1)) := p_atX (p_nd S) 1
  have a2 : f_X6_at (nI (p_nd S)) (2 : Int32) = some (nI (20 + 3 * p_nd S + 2)) := p_atX (p_nd S) 2
  unfold f_X6_comes
  rw [p_Q0, p_C0, h.1, a0, p_bind, p_q68 _ (by omega), a1, p_bind, p_q68 _ (by omega), a2, p_bind, p_q68 _ (by omega), p_Q0, p_Q0, p_cl (by omega), p_cl (by omega), p_cl (by omega), pk_un (show 0 ≠ 20 + 3 * p_nd S + 2 by omega), pk_un (show 0 ≠ 20 + 3 * p_nd S + 1 by omega), pk_un (show 0 ≠ 20 + 3 * p_nd S by omega), h.1, nI_1, p_wp_some]
  refine ⟨rfl, p_FM_up M _, ?_⟩
  show p_RN (upd (upd (upd (upd (M.2 0) (20 + 3 * p_nd S) (nI k)) (20 + 3 * p_nd S + 1) (nI z)) (20 + 3 * p_nd S + 2) (nI (p_nd S))) 0 (nI (p_nd S + 1))) (p_addD S k z)
  have t : ∀ j, j ≠ 0 → j ≠ 20 + 3 * p_nd S → j ≠ 20 + 3 * p_nd S + 1 → j ≠ 20 + 3 * p_nd S + 2 → upd (upd (upd (upd (M.2 0) (20 + 3 * p_nd S) (nI k)) (20 + 3 * p_nd S + 1) (nI z)) (20 + 3 * p_nd S + 2) (nI (p_nd S))) 0 (nI (p_nd S + 1)) j = M.2 0 j := by
    intro j h0 h1 h2 h3
    rw [pk_un h0, pk_un h3, pk_un h2, pk_un h1]
  refine ⟨pk_us, ?_, ?_, ?_, ?_, ?_, ?_, ?_, ?_, ?_, ?_, ?_, ?_⟩
  · rw [t 1 (by omega) (by omega) (by omega) (by omega)]; exact h.2.1
  · rw [t 2 (by omega) (by omega) (by omega) (by omega)]; exact h.2.2.1
  · rw [t 3 (by omega) (by omega) (by omega) (by omega)]; exact h.2.2.2.1
  · rw [t 8 (by omega) (by omega) (by omega) (by omega)]; exact h.2.2.2.2.1
  · rw [t 9 (by omega) (by omega) (by omega) (by omega)]; exact h.2.2.2.2.2.1
  · rw [t 4 (by omega) (by omega) (by omega) (by omega)]; exact h.2.2.2.2.2.2.1
  · rw [t 5 (by omega) (by omega) (by omega) (by omega)]; exact h.2.2.2.2.2.2.2.1
  · rw [t 6 (by omega) (by omega) (by omega) (by omega)]; exact h.2.2.2.2.2.2.2.2.1
  · rw [t 7 (by omega) (by omega) (by omega) (by omega)]; exact h.2.2.2.2.2.2.2.2.2.1
  · intro e he
    have he : e < p_nd S + 1 := he
    show _ = nI (if 0 < 3 ∧ e = p_nd S then k else p_k S e) ∧ _ = nI (if 1 < 3 ∧ e = p_nd S then z else p_z S e) ∧ _ = nI (if 2 < 3 ∧ e = p_nd S then p_nd S else p_h S e)
    by_cases q : e = p_nd S
    · subst q
      rw [if_pos ⟨by omega, rfl⟩, if_pos ⟨by omega, rfl⟩, if_pos ⟨by omega, rfl⟩]
      refine ⟨?_, ?_, ?_⟩
      · rw [pk_un (by omega), pk_un (by omega), pk_un (by omega), pk_us]
      · rw [pk_un (by omega), pk_un (by omega), show 21 + 3 * p_nd S = 20 + 3 * p_nd S + 1 by omega, pk_us]
      · rw [pk_un (by omega), show 22 + 3 * p_nd S = 20 + 3 * p_nd S + 2 by omega, pk_us]
    · rw [if_neg (fun z => q z.2), if_neg (fun z => q z.2), if_neg (fun z => q z.2), t _ (by omega) (by omega) (by omega) (by omega), t _ (by omega) (by omega) (by omega) (by omega), t _ (by omega) (by omega) (by omega) (by omega)]
      exact h.d (by omega)
  · intro e he
    rw [t _ (by omega) (by omega) (by omega) (by omega), t _ (by omega) (by omega) (by omega) (by omega)]
    exact h.k he
  · intro i hi
    rw [t _ (by omega) (by omega) (by omega) (by omega)]
    exact h.t hi
theorem uM_comesB (h : p_RN (M.2 0) S) (g : p_Good S) {c s : Nat} (h12 : p_nb S < 12) : p_wp (f_X6_comesBeat M (nI c) (p_hc s)) (fun q => q.1 = nI (p_nb S) ∧ p_FM M q.2 ∧ p_RN (q.2.2 0) (p_addB S c s)) := by
  have h8 := g.1
  unfold f_X6_comesBeat
  rw [p_Q1, p_C1, h.2.1, show (44 : Int32) + nI (p_nb S) = nI (44 + p_nb S) from p_add 44 _, show (56 : Int32) + nI (p_nb S) = nI (56 + p_nb S) from p_add 56 _, p_q68 _ (by omega), p_q68 _ (by omega), p_Q1, p_Q1, p_cl (by omega), p_cl (by omega), pk_un (show 1 ≠ 56 + p_nb S by omega), pk_un (show 1 ≠ 44 + p_nb S by omega), h.2.1, nI_1, p_wp_some]
  refine ⟨rfl, p_FM_up M _, ?_⟩
  show p_RN (upd (upd (upd (M.2 0) (44 + p_nb S) (nI c)) (56 + p_nb S) (p_hc s)) 1 (nI (p_nb S + 1))) (p_addB S c s)
  have t : ∀ j, j ≠ 1 → j ≠ 44 + p_nb S → j ≠ 56 + p_nb S → upd (upd (upd (M.2 0) (44 + p_nb S) (nI c)) (56 + p_nb S) (p_hc s)) 1 (nI (p_nb S + 1)) j = M.2 0 j := by
    intro j h0 h1 h2
    rw [pk_un h0, pk_un h2, pk_un h1]
  refine ⟨?_, pk_us, ?_, ?_, ?_, ?_, ?_, ?_, ?_, ?_, ?_, ?_, ?_⟩
  · rw [t 0 (by omega) (by omega) (by omega)]; exact h.1
  · rw [t 2 (by omega) (by omega) (by omega)]; exact h.2.2.1
  · rw [t 3 (by omega) (by omega) (by omega)]; exact h.2.2.2.1
  · rw [t 8 (by omega) (by omega) (by omega)]; exact h.2.2.2.2.1
  · rw [t 9 (by omega) (by omega) (by omega)]; exact h.2.2.2.2.2.1
  · rw [t 4 (by omega) (by omega) (by omega)]; exact h.2.2.2.2.2.2.1
  · rw [t 5 (by omega) (by omega) (by omega)]; exact h.2.2.2.2.2.2.2.1
  · rw [t 6 (by omega) (by omega) (by omega)]; exact h.2.2.2.2.2.2.2.2.1
  · rw [t 7 (by omega) (by omega) (by omega)]; exact h.2.2.2.2.2.2.2.2.2.1
  · intro e he
    have he : e < p_nd S := he
    rw [t _ (by omega) (by omega) (by omega), t _ (by omega) (by omega) (by omega), t _ (by omega) (by omega) (by omega)]
    exact h.d he
  · intro e he
    have he : e < p_nb S + 1 := he
    show _ = nI (if (3 = 3 ∨ 3 = 4) ∧ e = p_nb S then c else p_c S e) ∧ _ = p_hc (if (4 = 3 ∨ 4 = 4) ∧ e = p_nb S then s else p_s S e)
    by_cases q : e = p_nb S
    · subst q
      rw [if_pos ⟨Or.inl rfl, rfl⟩, if_pos ⟨Or.inr rfl, rfl⟩]
      refine ⟨?_, ?_⟩
      · rw [pk_un (by omega), pk_un (by omega), pk_us]
      · rw [pk_un (by omega), pk_us]
    · rw [if_neg (fun z => q z.2), if_neg (fun z => q z.2), t _ (by omega) (by omega) (by omega), t _ (by omega) (by omega) (by omega)]
      exact h.k (by omega)
  · intro i hi
    rw [t _ (by omega) (by omega) (by omega)]
    exact h.t hi
theorem uM_swap (h : p_RN (M.2 0) S) (g : p_Good S) {a b : Nat} (ha : a < p_nd S) (hb : b < p_nd S) : p_wp (f_X6_swapsHooks M (nI a) (nI b)) (fun q => q.1 = nI (p_h (p_sw S a b) a) ∧ p_FM M q.2 ∧ p_RN (q.2.2 0) (p_sw S a b)) := by
  have h8 := g.1
  have a2 : f_X6_at (nI a) (2 : Int32) = some (nI (20 + 3 * a + 2)) := p_atX a 2
  have b2 : f_X6_at (nI b) (2 : Int32) = some (nI (20 + 3 * b + 2)) := p_atX b 2
  have r1 := uN_d h g (d := a) (f := 2) (v := p_h S b) (by omega) (by omega)
  have g1 : p_Good (p_u2 S 2 a (p_h S b)) := by
    refine ⟨g.1, g.2.1, g.2.2.1, g.2.2.2.1, g.2.2.2.2.1, g.2.2.2.2.2.1, (fun e he => ?_), g.2.2.2.2.2.2.2.1, g.2.2.2.2.2.2.2.2⟩
    have := g.d he
    refine ⟨this.1, this.2.1, this.2.2.1, ?_⟩
    show (if 2 = 2 ∧ e = a then p_h S b else p_h S e) < 8
    split
    · exact (g.d hb).2.2.2
    · exact this.2.2.2
  have r2 := uN_d r1 g1 (d := b) (f := 2) (v := p_h S a) (by omega) (by omega)
  have g2 := g_sw g ha hb
  have r2 : p_RN (upd (upd (M.2 0) (20 + 3 * a + 2) (nI (p_h S b))) (20 + 3 * b + 2) (nI (p_h S a))) (p_sw S a b) := r2
  have ea : M.2 0 (20 + 3 * a + 2) = nI (p_h S a) := by rw [show 20 + 3 * a + 2 = 22 + 3 * a by omega]; exact (h.d ha).2.2
  have hk := bN_hook (M := (M.1, va_up M.2 0 (upd (upd (M.2 0) (20 + 3 * a + 2) (nI (p_h S b))) (20 + 3 * b + 2) (nI (p_h S a))))) r2 g2 (d := a) ha
  have e2 : va_up (va_up M.2 0 (upd (M.2 0) (20 + 3 * a + 2) (nI (p_h S b)))) 0 (upd (upd (M.2 0) (20 + 3 * a + 2) (nI (p_h S b))) (20 + 3 * b + 2) (nI (p_h S a))) = va_up M.2 0 (upd (upd (M.2 0) (20 + 3 * a + 2) (nI (p_h S b))) (20 + 3 * b + 2) (nI (p_h S a))) := by
    funext j
    unfold va_up
    by_cases q : j = 0
    · rw [if_pos q, if_pos q]
    · rw [if_neg q, if_neg q, if_neg q]
  unfold f_X6_swapsHooks
  rw [a2, p_bind, bN_hook h g hb, p_bind, uM_become M (by omega), p_bind, b2, p_bind, p_q68 _ (by omega), p_cl (by omega)]
  show p_wp (Option.bind (f_X6_dollIs (M.1, va_up (va_up M.2 0 (upd (M.2 0) (20 + 3 * a + 2) (nI (p_h S b)))) 0 (upd (upd (M.2 0) (20 + 3 * a + 2) (nI (p_h S b))) (20 + 3 * b + 2) (M.2 0 (20 + 3 * a + 2)))) (nI a) (2 : Int32)) (fun u5 => some (u5, (M.1, va_up (va_up M.2 0 (upd (M.2 0) (20 + 3 * a + 2) (nI (p_h S b)))) 0 (upd (upd (M.2 0) (20 + 3 * a + 2) (nI (p_h S b))) (20 + 3 * b + 2) (M.2 0 (20 + 3 * a + 2))))))) _
  rw [ea, e2, hk, p_bind, p_wp_some]
  exact ⟨rfl, p_FM_up M _, r2⟩
theorem uM_goes_12 (k : Nat) (g : p_Good S) (M0 : q_St) (a1 : Int32) : ∀ (len n i : Nat) (M : q_St), i + len + 1 = p_nb S → k ≤ i → len < n → M.2 0 1 = nI (p_nb S - 1) → p_RN (upd (M.2 0) 1 (nI (p_nb S))) (p_drp S k i) → p_wp (f_X6_goes_12 M0 a1 n (nI i) M) (fun q => q.1 = nI (p_nb S - 1) ∧ p_FM M q.2 ∧ p_RN (q.2.2 0) (p_del S k)) := by
  have h12 := g.2.1
  intro len
  induction len with
  | zero =>
    intro n i M hi hk hn h1 h
    obtain ⟨n, rfl⟩ := p_suc (show 0 < n by omega)
    rw [f_X6_goes_12, p_Q1, p_C1, h1, if_pos (nI_le (by omega) (by omega)), p_Q1, p_wp_some]
    refine ⟨rfl, p_FM_refl M, ?_⟩
    have t : ∀ j, j ≠ 1 → M.2 0 j = upd (M.2 0) 1 (nI (p_nb S)) j := fun j hj => (pk_un hj).symm
    refine ⟨?_, h1, ?_, ?_, ?_, ?_, ?_, ?_, ?_, ?_, ?_, ?_, ?_⟩
    · rw [t 0 (by omega)]; exact h.1
    · rw [t 2 (by omega)]; exact h.2.2.1
    · rw [t 3 (by omega)]; exact h.2.2.2.1
    · rw [t 8 (by omega)]; exact h.2.2.2.2.1
    · rw [t 9 (by omega)]; exact h.2.2.2.2.2.1
    · rw [t 4 (by omega)]; exact h.2.2.2.2.2.2.1
    · rw [t 5 (by omega)]; exact h.2.2.2.2.2.2.2.1
    · rw [t 6 (by omega)]; exact h.2.2.2.2.2.2.2.2.1
    · rw [t 7 (by omega)]; exact h.2.2.2.2.2.2.2.2.2.1
    · intro e he
      rw [t _ (by omega), t _ (by omega), t _ (by omega)]
      exact h.d he
    · intro e he
      have he : e < p_nb S - 1 := he
      have := h.k (k := e) (show e < p_nb S by omega)
      have t' : ∀ r, (r = 3 ∨ r = 4) → (p_drp S k i).2.1 r e = (p_del S k).2.1 r e := by
        intro r hr
        show (if (r = 3 ∨ r = 4) ∧ k ≤ e ∧ e < i then S.2.1 r (e + 1) else S.2.1 r e) = if (r = 3 ∨ r = 4) ∧ k ≤ e then S.2.1 r (e + 1) else S.2.1 r e
        by_cases q : k ≤ e
        · rw [if_pos ⟨hr, q, by omega⟩, if_pos ⟨hr, q⟩]
        · rw [if_neg (fun z => q z.2.1), if_neg (fun z => q z.2)]
      have t3 : p_c (p_drp S k i) e = p_c (p_del S k) e := t' 3 (Or.inl rfl)
      have t4 : p_s (p_drp S k i) e = p_s (p_del S k) e := t' 4 (Or.inr rfl)
      rw [t3, t4] at this
      rw [t _ (by omega), t _ (by omega)]
      exact this
    · intro i hi
      rw [t _ (by omega)]
      exact h.t hi
  | succ len ih =>
    intro n i M hi hk hn h1 h
    obtain ⟨n, rfl⟩ := p_suc (show 0 < n by omega)
    have gi := g_drp g k (i := i) (by omega)
    have t : ∀ j, j ≠ 1 → M.2 0 j = upd (M.2 0) 1 (nI (p_nb S)) j := fun j hj => (pk_un hj).symm
    have ki := h.k (k := i + 1) (show i + 1 < p_nb S by omega)
    have c1 : p_c (p_drp S k i) (i + 1) = p_c S (i + 1) := by
      show (if (3 = 3 ∨ 3 = 4) ∧ k ≤ i + 1 ∧ i + 1 < i then S.2.1 3 (i + 1 + 1) else p_c S (i + 1)) = _
      rw [if_neg (by omega)]
    have s1 : p_s (p_drp S k i) (i + 1) = p_s S (i + 1) := by
      show (if (4 = 3 ∨ 4 = 4) ∧ k ≤ i + 1 ∧ i + 1 < i then S.2.1 4 (i + 1 + 1) else p_s S (i + 1)) = _
      rw [if_neg (by omega)]
    rw [c1, s1, ← t _ (by omega), ← t _ (by omega)] at ki
    have r1 := uN_c h gi (k := i) (v := p_c S (i + 1)) (by omega)
    have g1 : p_Good (p_u2 (p_drp S k i) 3 i (p_c S (i + 1))) := g_cast gi (show p_c S (i + 1) < 2 ^ p_nd S from (g.k (by omega)).1)
    have r2 := uN_s r1 g1 (k := i) (v := p_s S (i + 1)) (by omega)
    rw [p_drp_s S hk, fa_upd_swap _ (show 1 ≠ 44 + i by omega), fa_upd_swap _ (show 1 ≠ 56 + i by omega)] at r2
    rw [f_X6_goes_12, p_Q1, p_C1, h1, if_neg (nI_ge (by omega) (by omega)), show ((44 : Int32) + nI i) + (1 : Int32) = nI (44 + (i + 1)) by rw [p_L44, p_add, nI_1]; rfl, show (44 : Int32) + nI i = nI (44 + i) from p_add 44 i, show ((56 : Int32) + nI i) + (1 : Int32) = nI (56 + (i + 1)) by rw [p_L56, p_add, nI_1]; rfl, show (56 : Int32) + nI i = nI (56 + i) from p_add 56 i, p_q68 _ (by omega), p_q68 _ (by omega), p_q68 _ (by omega), p_q68 _ (by omega), p_cl (by omega), p_cl (by omega), p_cl (by omega), p_cl (by omega), pk_un (show 56 + (i + 1) ≠ 44 + i by omega), ki.1, ki.2, nI_1]
    refine p_wp_mono (ih n (i + 1) _ (by omega) (by omega) (by omega) ?_ r2) ?_
    · show upd (upd (M.2 0) (44 + i) _) (56 + i) _ 1 = _
      rw [pk_un (by omega), pk_un (by omega)]; exact h1
    · rintro q ⟨q1, q2, q3⟩
      exact ⟨q1, p_FM_trans (p_FM_up M _) q2, q3⟩
theorem uM_goes (h : p_RN (M.2 0) S) (g : p_Good S) {k : Nat} (hk : k < p_nb S) : p_wp (f_X6_goes M (nI k)) (fun q => q.1 = nI (p_nb S - 1) ∧ p_FM M q.2 ∧ p_RN (q.2.2 0) (p_del S k)) := by
  have h12 := g.2.1
  have e : nI (p_nb S) - (1 : Int32) = nI (p_nb S - 1) := p_dec _ (by omega) (by omega)
  unfold f_X6_goes
  rw [p_Q1, p_Q1, p_C1, h.2.1, e]
  refine p_wp_mono (uM_goes_12 k g M (nI k) (p_nb S - k - 1) q_N k _ (by omega) (Nat.le_refl _) (by rw [q_N_eq]; omega) (show upd (M.2 0) 1 (nI (p_nb S - 1)) 1 = _ from pk_us) ?_) ?_
  · rw [p_drp_0]
    show p_RN (upd (upd (M.2 0) 1 (nI (p_nb S - 1))) 1 (nI (p_nb S))) S
    rw [fa_upd_twice, fa_upd_same h.2.1]
    exact h
  · rintro q ⟨q1, q2, q3⟩
    exact ⟨q1, p_FM_trans (p_FM_up M _) q2, q3⟩
theorem uM_put (h : p_RN (M.2 0) S) (g : p_Good S) {hand c : Nat} (hh : hand < 2) (hc : c ≤ p_nd S) : p_wp (f_X6_putsIt M (nI hand) (p_hc c)) (fun q => q.1 = nI (if S.1 (2 + hand) = c then 0 else p_pr S c 1) ∧ p_FM M q.2 ∧ p_RN (q.2.2 0) (p_put S hand c)) := by
  have h8 := g.1
  have hl := g.2.2.1
  have hr := g.2.2.2.1
  have h1 : hand = 0 ∨ hand = 1 := by omega
  have hle : S.1 (2 + hand) ≤ p_nd S := by
    rcases h1 with rfl | rfl
    · exact hl
    · exact hr
  have hN : M.2 0 (2 + hand) = p_hc (S.1 (2 + hand)) := by
    rcases h1 with rfl | rfl
    · exact h.2.2.1
    · exact h.2.2.2.1
  have fin : ∀ (v : Nat) (b : Int32), p_RN (upd (upd (upd (M.2 0) 4 (M.2 0 4 + b)) 5 (M.2 0 5 + nI v)) (2 + hand) (p_hc c)) (p_put S hand c) → p_wp (f_X6_putsIt_38 M (nI hand) (p_hc c) (nI hand) (p_hc c) (nI v) b (M.2 0 4) (4 : Int32) M) (fun q => q.1 = nI v ∧ p_FM M q.2 ∧ p_RN (q.2.2 0) (p_put S hand c)) := by
    intro v b hR
    unfold f_X6_putsIt_38
    rw [p_Q4, p_Q5, p_Q5, show (2 : Int32) + nI hand = nI (2 + hand) from p_add 2 hand, p_q68 _ (by omega), p_C4, p_C5, p_cl (by omega), pk_un (show 5 ≠ 4 by decide), p_wp_some]
    exact ⟨rfl, p_FM_up M _, hR⟩
  unfold f_X6_putsIt
  rw [show (2 : Int32) + nI hand = nI (2 + hand) from p_add 2 hand, p_q68 _ (by omega), p_cl (by omega), hN, bN_takes h g hle hc, p_bind, p_Q4, p_q68 _ (by omega), p_C4]
  unfold p_tk
  by_cases q : S.1 (2 + hand) = c
  · rw [if_pos (congrArg p_hc q), if_pos q]
    refine fin 0 0 ?_
    unfold p_put
    rw [if_pos q, nI_0, Int32.add_zero, Int32.add_zero, fa_upd_same rfl, fa_upd_same rfl, fa_upd_same (by rw [hN, q])]
    exact h
  · rw [if_neg (fun z => q ((p_hc_eq (by omega) (by omega)).mp z)), if_neg q]
    refine fin (p_pr S c 1) 1 ?_
    unfold p_put
    rw [if_neg q]
    have e1 := h.2.2.2.2.2.2.1
    have e2 := h.2.2.2.2.2.2.2.1
    rw [e1, e2]
    have D : ∀ d, d < p_nd S → upd (upd (upd (M.2 0) 4 (S.2.2 1 + 1)) 5 (S.2.2 2 + nI (p_pr S c 1))) (2 + hand) (p_hc c) (20 + 3 * d) = nI (p_k S d) ∧ upd (upd (upd (M.2 0) 4 (S.2.2 1 + 1)) 5 (S.2.2 2 + nI (p_pr S c 1))) (2 + hand) (p_hc c) (21 + 3 * d) = nI (p_z S d) ∧ upd (upd (upd (M.2 0) 4 (S.2.2 1 + 1)) 5 (S.2.2 2 + nI (p_pr S c 1))) (2 + hand) (p_hc c) (22 + 3 * d) = nI (p_h S d) := by
      intro d hd
      rw [pk_un (by omega), pk_un (by omega), pk_un (by omega), pk_un (by omega), pk_un (by omega), pk_un (by omega), pk_un (by omega), pk_un (by omega), pk_un (by omega)]
      exact h.d hd
    have K : ∀ k, k < p_nb S → upd (upd (upd (M.2 0) 4 (S.2.2 1 + 1)) 5 (S.2.2 2 + nI (p_pr S c 1))) (2 + hand) (p_hc c) (44 + k) = nI (p_c S k) ∧ upd (upd (upd (M.2 0) 4 (S.2.2 1 + 1)) 5 (S.2.2 2 + nI (p_pr S c 1))) (2 + hand) (p_hc c) (56 + k) = p_hc (p_s S k) := by
      intro k hk
      rw [pk_un (by omega), pk_un (by omega), pk_un (by omega), pk_un (by omega), pk_un (by omega), pk_un (by omega)]
      exact h.k hk
    have T : ∀ i, i < 10 → upd (upd (upd (M.2 0) 4 (S.2.2 1 + 1)) 5 (S.2.2 2 + nI (p_pr S c 1))) (2 + hand) (p_hc c) (10 + i) = p_hc (p_t S i) := by
      intro i hi
      rw [pk_un (by omega), pk_un (by omega), pk_un (by omega)]
      exact h.t hi
    rcases h1 with rfl | rfl
    · exact ⟨h.1, h.2.1, rfl, h.2.2.2.1, h.2.2.2.2.1, h.2.2.2.2.2.1, rfl, rfl, h.2.2.2.2.2.2.2.2.1, h.2.2.2.2.2.2.2.2.2.1, D, K, T⟩
    · exact ⟨h.1, h.2.1, h.2.2.1, rfl, h.2.2.2.2.1, h.2.2.2.2.2.1, rfl, rfl, h.2.2.2.2.2.2.2.2.1, h.2.2.2.2.2.2.2.2.2.1, D, K, T⟩
end REFM
