/-! the reference's row and its changes -/
theorem p_Q0 {α : Type} (A : Option α) : q_ix (0 : Int32) 68 A = A := p_q68 0 (by decide) A
theorem p_Q1 {α : Type} (A : Option α) : q_ix (1 : Int32) 68 A = A := p_q68 1 (by decide) A
theorem p_Q2 {α : Type} (A : Option α) : q_ix (2 : Int32) 68 A = A := p_q68 2 (by decide) A
theorem p_Q3 {α : Type} (A : Option α) : q_ix (3 : Int32) 68 A = A := p_q68 3 (by decide) A
theorem p_Q4 {α : Type} (A : Option α) : q_ix (4 : Int32) 68 A = A := p_q68 4 (by decide) A
theorem p_Q5 {α : Type} (A : Option α) : q_ix (5 : Int32) 68 A = A := p_q68 5 (by decide) A
theorem p_Q6 {α : Type} (A : Option α) : q_ix (6 : Int32) 68 A = A := p_q68 6 (by decide) A
theorem p_Q7 {α : Type} (A : Option α) : q_ix (7 : Int32) 68 A = A := p_q68 7 (by decide) A
theorem p_Q8 {α : Type} (A : Option α) : q_ix (8 : Int32) 68 A = A := p_q68 8 (by decide) A
theorem p_Q9 {α : Type} (A : Option α) : q_ix (9 : Int32) 68 A = A := p_q68 9 (by decide) A
theorem p_C0 : (0 : Int32).toNatClampNeg = 0 := rfl
theorem p_C1 : (1 : Int32).toNatClampNeg = 1 := rfl
theorem p_C2 : (2 : Int32).toNatClampNeg = 2 := rfl
theorem p_C3 : (3 : Int32).toNatClampNeg = 3 := rfl
theorem p_C4 : (4 : Int32).toNatClampNeg = 4 := rfl
theorem p_C5 : (5 : Int32).toNatClampNeg = 5 := rfl
theorem p_C6 : (6 : Int32).toNatClampNeg = 6 := rfl
theorem p_C7 : (7 : Int32).toNatClampNeg = 7 := rfl
theorem p_C8 : (8 : Int32).toNatClampNeg = 8 := rfl
theorem p_C9 : (9 : Int32).toNatClampNeg = 9 := rfl
theorem p_atX (d f : Nat) : f_X6_at (nI d) (nI f) = some (nI (20 + 3 * d + f)) := by
  unfold f_X6_at
  rw [p_L20, p_L3, p_mul, p_add, p_add]
section ROW
variable {N : Nat → Int32} {S : p_S}
theorem p_RN.d (h : p_RN N S) {d : Nat} (hd : d < p_nd S) : N (20 + 3 * d) = nI (p_k S d) ∧ N (21 + 3 * d) = nI (p_z S d) ∧ N (22 + 3 * d) = nI (p_h S d) := h.2.2.2.2.2.2.2.2.2.2.1 d hd
theorem p_RN.k (h : p_RN N S) {k : Nat} (hk : k < p_nb S) : N (44 + k) = nI (p_c S k) ∧ N (56 + k) = p_hc (p_s S k) := h.2.2.2.2.2.2.2.2.2.2.2.1 k hk
theorem p_RN.t (h : p_RN N S) {i : Nat} (hi : i < 10) : N (10 + i) = p_hc (p_t S i) := h.2.2.2.2.2.2.2.2.2.2.2.2 i hi
/-- kind, size or hook of a doll -/
theorem uN_d (h : p_RN N S) (g : p_Good S) {d f v : Nat} (hd : d < 8) (hf : f < 3) : p_RN (upd N (20 + 3 * d + f) (nI v)) (p_u2 S f d v) := by
  have h8 := g.1
  have h12 := g.2.1
  have hf3 : f = 0 ∨ f = 1 ∨ f = 2 := by omega
  refine ⟨(by rw [pk_un (by omega)]; exact h.1), (by rw [pk_un (by omega)]; exact h.2.1), (by rw [pk_un (by omega)]; exact h.2.2.1), (by rw [pk_un (by omega)]; exact h.2.2.2.1), (by rw [pk_un (by omega)]; exact h.2.2.2.2.1), (by rw [pk_un (by omega)]; exact h.2.2.2.2.2.1), (by rw [pk_un (by omega)]; exact h.2.2.2.2.2.2.1), (by rw [pk_un (by omega)]; exact h.2.2.2.2.2.2.2.1), (by rw [pk_un (by omega)]; exact h.2.2.2.2.2.2.2.2.1), (by rw [pk_un (by omega)]; exact h.2.2.2.2.2.2.2.2.2.1), ?_, ?_, ?_⟩
  · intro e he
    have he : e < p_nd S := he
    have := h.d he
    by_cases q : e = d
    · subst q
      rcases hf3 with rfl | rfl | rfl
      · exact ⟨pk_us.trans (congrArg nI (if_pos ⟨rfl, rfl⟩).symm), (pk_un (by omega)).trans this.2.1, (pk_un (by omega)).trans this.2.2⟩
      · exact ⟨(pk_un (by omega)).trans this.1, (by rw [show 20 + 3 * e + 1 = 21 + 3 * e by omega]; exact pk_us.trans (congrArg nI (if_pos ⟨rfl, rfl⟩).symm)), (pk_un (by omega)).trans this.2.2⟩
      · exact ⟨(pk_un (by omega)).trans this.1, (pk_un (by omega)).trans this.2.1, (by rw [show 20 + 3 * e + 2 = 22 + 3 * e by omega]; exact pk_us.trans (congrArg nI (if_pos ⟨rfl, rfl⟩).symm))⟩
    · have t : ∀ r, (if r = f ∧ e = d then v else S.2.1 r e) = S.2.1 r e := fun r => if_neg (fun z => q z.2)
      rw [pk_un (by omega), pk_un (by omega), pk_un (by omega)]
      show _ = nI (if 0 = f ∧ e = d then v else S.2.1 0 e) ∧ _ = nI (if 1 = f ∧ e = d then v else S.2.1 1 e) ∧ _ = nI (if 2 = f ∧ e = d then v else S.2.1 2 e)
      rw [t, t, t]
      exact this
  · intro e he
    have he : e < p_nb S := he
    have := h.k he
    rw [pk_un (by omega), pk_un (by omega)]
    rcases hf3 with rfl | rfl | rfl <;> exact this
  · intro i hi
    have := h.t hi
    rw [pk_un (by omega)]
    rcases hf3 with rfl | rfl | rfl <;> exact this
theorem uN_c (h : p_RN N S) (g : p_Good S) {k v : Nat} (hk : k < 12) : p_RN (upd N (44 + k) (nI v)) (p_u2 S 3 k v) := by
  have h8 := g.1
  have h12 := g.2.1
  refine ⟨(by rw [pk_un (by omega)]; exact h.1), (by rw [pk_un (by omega)]; exact h.2.1), (by rw [pk_un (by omega)]; exact h.2.2.1), (by rw [pk_un (by omega)]; exact h.2.2.2.1), (by rw [pk_un (by omega)]; exact h.2.2.2.2.1), (by rw [pk_un (by omega)]; exact h.2.2.2.2.2.1), (by rw [pk_un (by omega)]; exact h.2.2.2.2.2.2.1), (by rw [pk_un (by omega)]; exact h.2.2.2.2.2.2.2.1), (by rw [pk_un (by omega)]; exact h.2.2.2.2.2.2.2.2.1), (by rw [pk_un (by omega)]; exact h.2.2.2.2.2.2.2.2.2.1), ?_, ?_, ?_⟩
  · intro e he
    have he : e < p_nd S := he
    rw [pk_un (by omega), pk_un (by omega), pk_un (by omega)]
    exact h.d he
  · intro e he
    have he : e < p_nb S := he
    have := h.k he
    rw [pk_un (j := 56 + e) (by omega)]
    refine ⟨?_, this.2⟩
    show _ = nI (if 3 = 3 ∧ e = k then v else p_c S e)
    by_cases q : e = k
    · rw [q, pk_us, if_pos ⟨rfl, rfl⟩]
    · rw [pk_un (by omega), if_neg (fun z => q z.2)]; exact this.1
  · intro i hi
    rw [pk_un (by omega)]
    exact h.t hi
theorem uN_s (h : p_RN N S) (g : p_Good S) {k v : Nat} (hk : k < 12) : p_RN (upd N (56 + k) (p_hc v)) (p_u2 S 4 k v) := by
  have h8 := g.1
  have h12 := g.2.1
  refine ⟨(by rw [pk_un (by omega)]; exact h.1), (by rw [pk_un (by omega)]; exact h.2.1), (by rw [pk_un (by omega)]; exact h.2.2.1), (by rw [pk_un (by omega)]; exact h.2.2.2.1), (by rw [pk_un (by omega)]; exact h.2.2.2.2.1), (by rw [pk_un (by omega)]; exact h.2.2.2.2.2.1), (by rw [pk_un (by omega)]; exact h.2.2.2.2.2.2.1), (by rw [pk_un (by omega)]; exact h.2.2.2.2.2.2.2.1), (by rw [pk_un (by omega)]; exact h.2.2.2.2.2.2.2.2.1), (by rw [pk_un (by omega)]; exact h.2.2.2.2.2.2.2.2.2.1), ?_, ?_, ?_⟩
  · intro e he
    have he : e < p_nd S := he
    rw [pk_un (by omega), pk_un (by omega), pk_un (by omega)]
    exact h.d he
  · intro e he
    have he : e < p_nb S := he
    have := h.k he
    rw [pk_un (j := 44 + e) (by omega)]
    refine ⟨this.1, ?_⟩
    show _ = p_hc (if 4 = 4 ∧ e = k then v else p_s S e)
    by_cases q : e = k
    · rw [q, pk_us, if_pos ⟨rfl, rfl⟩]
    · rw [pk_un (by omega), if_neg (fun z => q z.2)]; exact this.2
  · intro i hi
    rw [pk_un (by omega)]
    exact h.t hi
theorem uN_t (h : p_RN N S) (g : p_Good S) {i v : Nat} (hi : i < 10) : p_RN (upd N (10 + i) (p_hc v)) (p_u2 S 5 i v) := by
  have h8 := g.1
  have h12 := g.2.1
  refine ⟨(by rw [pk_un (by omega)]; exact h.1), (by rw [pk_un (by omega)]; exact h.2.1), (by rw [pk_un (by omega)]; exact h.2.2.1), (by rw [pk_un (by omega)]; exact h.2.2.2.1), (by rw [pk_un (by omega)]; exact h.2.2.2.2.1), (by rw [pk_un (by omega)]; exact h.2.2.2.2.2.1), (by rw [pk_un (by omega)]; exact h.2.2.2.2.2.2.1), (by rw [pk_un (by omega)]; exact h.2.2.2.2.2.2.2.1), (by rw [pk_un (by omega)]; exact h.2.2.2.2.2.2.2.2.1), (by rw [pk_un (by omega)]; exact h.2.2.2.2.2.2.2.2.2.1), ?_, ?_, ?_⟩
  · intro e he
    have he : e < p_nd S := he
    rw [pk_un (by omega), pk_un (by omega), pk_un (by omega)]
    exact h.d he
  · intro e he
    have he : e < p_nb S := he
    rw [pk_un (by omega), pk_un (by omega)]
    exact h.k he
  · intro e he
    show upd N (10 + i) (p_hc v) (10 + e) = p_hc (if 5 = 5 ∧ e = i then v else p_t S e)
    by_cases q : e = i
    · rw [q, pk_us, if_pos ⟨rfl, rfl⟩]
    · rw [pk_un (by omega), if_neg (fun z => q z.2)]; exact h.t he
theorem uN_lea (h : p_RN N S) (g : p_Good S) (v : Nat) : p_RN (upd N 8 (nI v)) (p_u1 S 4 v) := by
  refine ⟨(by rw [pk_un (by omega)]; exact h.1), (by rw [pk_un (by omega)]; exact h.2.1), (by rw [pk_un (by omega)]; exact h.2.2.1), (by rw [pk_un (by omega)]; exact h.2.2.2.1), rfl, (by rw [pk_un (by omega)]; exact h.2.2.2.2.2.1), (by rw [pk_un (by omega)]; exact h.2.2.2.2.2.2.1), (by rw [pk_un (by omega)]; exact h.2.2.2.2.2.2.2.1), (by rw [pk_un (by omega)]; exact h.2.2.2.2.2.2.2.2.1), (by rw [pk_un (by omega)]; exact h.2.2.2.2.2.2.2.2.2.1), ?_, ?_, ?_⟩
  · intro e he
    rw [pk_un (by omega), pk_un (by omega), pk_un (by omega)]
    exact h.d he
  · intro e he
    rw [pk_un (by omega), pk_un (by omega)]
    exact h.k he
  · intro i hi
    rw [pk_un (by omega)]
    exact h.t hi
theorem uN_seed (h : p_RN N S) (v : Int32) : p_RN (upd N 9 v) (p_u3 S 0 v) := by
  refine ⟨(by rw [pk_un (by omega)]; exact h.1), (by rw [pk_un (by omega)]; exact h.2.1), (by rw [pk_un (by omega)]; exact h.2.2.1), (by rw [pk_un (by omega)]; exact h.2.2.2.1), (by rw [pk_un (by omega)]; exact h.2.2.2.2.1), rfl, (by rw [pk_un (by omega)]; exact h.2.2.2.2.2.2.1), (by rw [pk_un (by omega)]; exact h.2.2.2.2.2.2.2.1), (by rw [pk_un (by omega)]; exact h.2.2.2.2.2.2.2.2.1), (by rw [pk_un (by omega)]; exact h.2.2.2.2.2.2.2.2.2.1), ?_, ?_, ?_⟩
  · intro e he
    rw [pk_un (by omega), pk_un (by omega), pk_un (by omega)]
    exact h.d he
  · intro e he
    rw [pk_un (by omega), pk_un (by omega)]
    exact h.k he
  · intro i hi
    rw [pk_un (by omega)]
    exact h.t hi
/-- rows alike where it counts -/
theorem p_RN_eq {N' : Nat → Int32} (h : p_RN N S) (g : p_Good S) (e : ∀ j, j < 68 → N' j = N j) : p_RN N' S := by
  have h8 := g.1
  have h12 := g.2.1
  refine ⟨?_, ?_, ?_, ?_, ?_, ?_, ?_, ?_, ?_, ?_, ?_, ?_, ?_⟩
  · rw [e 0 (by decide)]; exact h.1
  · rw [e 1 (by decide)]; exact h.2.1
  · rw [e 2 (by decide)]; exact h.2.2.1
  · rw [e 3 (by decide)]; exact h.2.2.2.1
  · rw [e 8 (by decide)]; exact h.2.2.2.2.1
  · rw [e 9 (by decide)]; exact h.2.2.2.2.2.1
  · rw [e 4 (by decide)]; exact h.2.2.2.2.2.2.1
  · rw [e 5 (by decide)]; exact h.2.2.2.2.2.2.2.1
  · rw [e 6 (by decide)]; exact h.2.2.2.2.2.2.2.2.1
  · rw [e 7 (by decide)]; exact h.2.2.2.2.2.2.2.2.2.1
  · intro d hd
    rw [e _ (by omega), e _ (by omega), e _ (by omega)]
    exact h.d hd
  · intro k hk
    rw [e _ (by omega), e _ (by omega)]
    exact h.k hk
  · intro i hi
    rw [e _ (by omega)]
    exact h.t hi
/-- a row's copy -/
theorem q50_cp_2 (P0 : q_St) (A : Nat → Int32) : ∀ (len n i : Nat) (P : q_St), i + len = 68 → len < n → P.2 0 = A → (∀ j, j < i → P.2 1 j = A j) → p_wp (f_X6_copyRow_2 P0 n (nI i) P) (fun P' => P'.2 0 = A ∧ ∀ j, j < 68 → P'.2 1 j = A j) := by
  intro len
  induction len with
  | zero =>
    intro n i P hi hn h0 h1
    obtain ⟨n, rfl⟩ := p_suc (show 0 < n by omega)
    rw [f_X6_copyRow_2, if_pos (show (68 : Int32) ≤ nI i from nI_le (a := 68) (by omega) (by omega)), p_wp_some]
    exact ⟨h0, fun j hj => h1 j (by omega)⟩
  | succ len ih =>
    intro n i P hi hn h0 h1
    obtain ⟨n, rfl⟩ := p_suc (show 0 < n by omega)
    rw [f_X6_copyRow_2, if_neg (show ¬ (68 : Int32) ≤ nI i from nI_ge (b := 68) (by omega) (by omega)), p_q68 _ (by omega), p_q68 _ (by omega), p_cl (by omega), show nI i + 1 = nI (i + 1) from nI_1 i]
    refine ih n (i + 1) _ (by omega) (by omega) h0 (fun j hj => ?_)
    show upd (P.2 1) i (P.2 0 i) j = A j
    by_cases e : j = i
    · rw [e, pk_us, h0]
    · rw [pk_un e]
      exact h1 j (by omega)
theorem q50_cp (A A2 : Nat → Int32) : p_wp (f_X6_copyRow ((fun _ => (0 : Int32)), va_up (va_up (fun _ _ => (0 : Int32)) 0 A) 1 A2)) (fun P' => P'.2 0 = A ∧ ∀ j, j < 68 → P'.2 1 j = A j) := by
  unfold f_X6_copyRow
  exact q50_cp_2 _ A 68 q_N 0 _ (by omega) (by rw [q_N_eq]; omega) rfl (fun j hj => absurd hj (by omega))
end ROW
