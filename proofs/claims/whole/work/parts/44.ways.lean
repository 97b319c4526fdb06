/-! the class's least worth -/
/-- the casts of the beats, in order -/
def p_cs (S : p_S) : List Nat := (List.range (p_nb S)).map (p_c S)
theorem p_cs_len (S : p_S) : (p_cs S).length = p_nb S := by unfold p_cs; rw [List.length_map, List.length_range]
theorem p_cs_drop (S : p_S) {k : Nat} (hk : k < p_nb S) : (p_cs S).drop k = p_c S k :: (p_cs S).drop (k + 1) := by
  rw [List.drop_eq_getElem_cons (by rw [p_cs_len]; exact hk)]
  congr 1
  simp [p_cs]
theorem p_cs_end (S : p_S) : (p_cs S).drop (p_nb S) = [] := List.drop_eq_nil_of_le (by rw [p_cs_len]; exact Nat.le_refl _)
theorem p_hc_dn : ∀ k, k < 100 → p_hc (k + 1) + (-1 : Int32) = p_hc k := by decide +kernel
theorem p_hc_m : ∀ k, k < 100 → nI k - (1 : Int32) = p_hc k := by decide +kernel
theorem q4_fill_2 (Z : q_St) (a1 a2 v : Int32) {row : Nat} (hr : row ≤ 12) : ∀ (len m i : Nat) (Y' : q_St), i + len = 81 → len < m → p_wp (f_X4_fillRow_2 Z a1 a2 m (nI row) v (nI i) Y') (fun Y'' => Y''.1 = Y'.1 ∧ (∀ j, j ≠ 0 → Y''.2 j = Y'.2 j) ∧ ∀ j, Y''.2 0 j = if row * 81 + i ≤ j ∧ j < (row + 1) * 81 then v else Y'.2 0 j) := by
  intro len
  induction len with
  | zero =>
    intro n i Y' hi hn
    obtain ⟨m, rfl⟩ := p_suc (show 0 < n by omega)
    rw [f_X4_fillRow_2, if_pos (show (81 : Int32) ≤ nI i from nI_le (a := 81) (by omega) (by omega)), p_wp_some]
    exact ⟨rfl, fun _ _ => rfl, fun j => by rw [if_neg (by omega)]⟩
  | succ len ih =>
    intro n i Y' hi hn
    obtain ⟨m, rfl⟩ := p_suc (show 0 < n by omega)
    rw [f_X4_fillRow_2, if_neg (show ¬ (81 : Int32) ≤ nI i from nI_ge (b := 81) (by omega) (by omega)), show nI row * (81 : Int32) + nI i = nI (row * 81 + i) by rw [p_L81, p_mul, p_add], p_ix (by omega) (by omega), p_cl (by omega), show nI i + 1 = nI (i + 1) from nI_1 i]
    refine p_wp_mono (ih m (i + 1) _ (by omega) (by omega)) ?_
    rintro Y'' ⟨h1, h2, h3⟩
    refine ⟨h1, fun j hj => ?_, fun j => ?_⟩
    · rw [h2 j hj]
      show va_up Y'.2 0 _ j = _
      unfold va_up
      rw [if_neg hj]
    · rw [h3 j]
      show (if row * 81 + (i + 1) ≤ j ∧ j < (row + 1) * 81 then v else upd (Y'.2 0) (row * 81 + i) v j) = _
      by_cases e : j = row * 81 + i
      · subst e
        rw [if_neg (by omega), pk_us, if_pos (by omega)]
      · rw [pk_un e]
        by_cases q : row * 81 + (i + 1) ≤ j ∧ j < (row + 1) * 81
        · rw [if_pos q, if_pos (by omega)]
        · rw [if_neg q, if_neg (by omega)]
theorem q4_fill (Y : q_St) (v : Int32) {row : Nat} (hr : row ≤ 12) : p_wp (f_X4_fillRow Y (nI row) v) (fun Y'' => Y''.1 = Y.1 ∧ (∀ j, j ≠ 0 → Y''.2 j = Y.2 j) ∧ ∀ j, Y''.2 0 j = if row * 81 ≤ j ∧ j < (row + 1) * 81 then v else Y.2 0 j) := by
  unfold f_X4_fillRow
  exact q4_fill_2 Y (nI row) v v hr 81 q_N 0 Y (by omega) (by rw [q_N_eq]; omega)
section WAYS
variable {B : q_St} {S : p_S} {w : Nat}
theorem q4_begin_2 (h : p_RB B S) (g : p_Good S) (hw : w < 2) (Y : q_St) (a2 : Int32) : ∀ (len m i : Nat) (Y' : q_St), i + len = p_nd S + 1 → len < m → Y'.1 = Y.1 → (∀ j, j ≠ 0 → j ≠ 3 → Y'.2 j = Y.2 j) → (∀ a, a < i → Y'.2 3 a = nI (p_pr S a w)) → p_wp (f_X4_begin_2 Y B a2 m (nI w) (p_hc i) Y') (fun Y'' => Y''.1 = Y.1 ∧ (∀ j, j ≠ 0 → j ≠ 3 → Y''.2 j = Y.2 j) ∧ (∀ a, a ≤ p_nd S → Y''.2 3 a = nI (p_pr S a w)) ∧ ∀ j, j < 81 → Y''.2 0 (p_nb S * 81 + j) = 0) := by
  have h8 := g.1
  have hk2 := g.2.1
  intro len
  induction len with
  | zero =>
    intro n i Y' hi hn j1 j2 j3
    obtain ⟨m, rfl⟩ := p_suc (show 0 < n by omega)
    rw [f_X4_begin_2, h.1, if_pos ((p_hc_end (by omega) (by omega)).mpr (by omega)), h.2.1]
    refine p_wp_seq (q4_fill Y' 0 (by omega)) ?_
    rintro Y'' ⟨h1, h2, h3⟩
    rw [p_wp_some]
    refine ⟨by rw [h1, j1], fun j h0 hj => by rw [h2 j h0, j2 j h0 hj], fun a ha => by rw [h2 3 (by decide)]; exact j3 a (by omega), fun j hj => ?_⟩
    rw [h3, if_pos (by omega)]
  | succ len ih =>
    intro n i Y' hi hn j1 j2 j3
    obtain ⟨m, rfl⟩ := p_suc (show 0 < n by omega)
    rw [f_X4_begin_2, h.1, if_neg (fun z => absurd ((p_hc_end (by omega) (by omega)).mp z) (by omega)), bX_price h g (by omega) hw, p_bind, p_hc_up i (by omega), p_ix (show i < 9 by omega) (by omega), p_cl (by omega)]
    refine ih m (i + 1) _ (by omega) (by omega) j1 (fun j h0 hj => ?_) (fun a ha => ?_)
    · show va_up Y'.2 3 _ j = _
      unfold va_up
      rw [if_neg hj]
      exact j2 j h0 hj
    · show upd (Y'.2 3) i _ a = _
      by_cases e : a = i
      · subst e
        rw [pk_us]
      · rw [pk_un e]
        exact j3 a (by omega)
theorem q4_begin (h : p_RB B S) (g : p_Good S) (hw : w < 2) (Y : q_St) : p_wp (f_X4_begin Y B (nI w)) (fun Y'' => Y''.1 = Y.1 ∧ (∀ j, j ≠ 0 → j ≠ 3 → Y''.2 j = Y.2 j) ∧ (∀ a, a ≤ p_nd S → Y''.2 3 a = nI (p_pr S a w)) ∧ ∀ j, j < 81 → Y''.2 0 (p_nb S * 81 + j) = 0) := by
  have h8 := g.1
  unfold f_X4_begin
  exact q4_begin_2 h g hw Y (nI w) (p_nd S + 1) q_N 0 Y (by omega) (by rw [q_N_eq]; omega) rfl (fun _ _ _ => rfl) (fun a ha => absurd ha (by omega))
theorem q4_from (Y : q_St) {k a b : Nat} (hk : k ≤ 12) (ha : a < 9) (hb : b < 9) : f_X4_worthFrom Y (nI k) (p_hc a) (p_hc b) = some (Y.2 0 (k * 81 + p_hd a b)) := by
  have hd := p_hd_lt ha hb
  unfold f_X4_worthFrom
  rw [p_placeX a ha b hb, p_bind, show nI k * (81 : Int32) + nI (p_hd a b) = nI (k * 81 + p_hd a b) by rw [p_L81, p_mul, p_add], p_ix (by omega) (by omega), p_cl (by omega)]
/-- the tables of a best way -/
def p_TW (S : p_S) (w : Nat) (Y : q_St) : Prop := (∀ a, a ≤ p_nd S → Y.2 3 a = nI (p_pr S a w)) ∧ ∀ k a b, k ≤ p_nb S → a ≤ p_nd S → b ≤ p_nd S → Y.2 0 (k * 81 + p_hd a b) = nI (p_W S w ((p_cs S).drop k) a b)
theorem q4_13 (h : p_RB B S) (g : p_Good S) (Y : q_St) (a2 : Int32) : ∀ (k m : Nat) (Y' : q_St), k ≤ p_nb S → k < m → (∀ a, a ≤ p_nd S → Y'.2 3 a = nI (p_pr S a w)) → (∀ k' a b, k ≤ k' → k' ≤ p_nb S → a ≤ p_nd S → b ≤ p_nd S → Y'.2 0 (k' * 81 + p_hd a b) = nI (p_W S w ((p_cs S).drop k') a b)) → p_wp (f_X4_worth_13 Y B a2 m (p_hc k) Y') (fun q => q.1 = nI (p_W S w (p_cs S) (p_l S) (p_r S)) ∧ p_TW S w q.2) := by
  have h8 := g.1
  have hk2 := g.2.1
  have hl := g.2.2.1
  have hr := g.2.2.2.1
  intro k
  induction k with
  | zero =>
    intro n Y' hk hn j1 j2
    obtain ⟨m, rfl⟩ := p_suc (show 0 < n by omega)
    rw [f_X4_worth_13, if_pos (show p_hc 0 < 0 by decide), h.2.2.1, h.2.2.2.1]
    have e : f_X4_worthFrom Y' (0 : Int32) (p_hc (p_l S)) (p_hc (p_r S)) = some (Y'.2 0 (0 * 81 + p_hd (p_l S) (p_r S))) := q4_from Y' (k := 0) (by omega) (by omega) (by omega)
    rw [e, p_bind, p_wp_some]
    exact ⟨j2 0 _ _ (by omega) (by omega) hl hr, j1, fun k' a b hk' ha hb => j2 k' a b (by omega) hk' ha hb⟩
  | succ k ih =>
    intro n Y' hk hn j1 j2
    obtain ⟨m, rfl⟩ := p_suc (show 0 < n by omega)
    rw [f_X4_worth_13, if_neg (show ¬ p_hc (k + 1) < 0 from nI_pos (by omega)), p_hc_dn k (by omega)]
    refine p_wp_seq (q3_step (w := w) (c := p_c S k) (nx := p_W S w ((p_cs S).drop (k + 1))) h g (show k < p_nb S by omega) rfl (fun a b _ _ => p_W_le _ _ _ _ _) (fun a b ha hb => j2 (k + 1) a b (by omega) hk ha hb) j1) ?_
    rintro Y'' ⟨-, h2, -, h4, h5⟩
    refine ih m Y'' (by omega) (by omega) (fun a ha => by rw [h2 3 (by decide) (by decide)]; exact j1 a ha) (fun k' a b h1 h6 ha hb => ?_)
    by_cases e : k' = k
    · subst e
      rw [h5 a b ha (by omega), p_sp_W h8 ha hb, ← p_cs_drop S (by omega)]
    · rw [h4 _ (by omega)]
      exact j2 k' a b (by omega) h6 ha hb
theorem q4_worth (h : p_RB B S) (g : p_Good S) (hw : w < 2) (Y : q_St) : p_wp (f_X4_worth Y B (nI w)) (fun q => q.1 = nI (p_W S w (p_cs S) (p_l S) (p_r S)) ∧ p_TW S w q.2) := by
  have h8 := g.1
  have hk2 := g.2.1
  unfold f_X4_worth
  refine p_wp_seq (q4_begin h g hw Y) ?_
  rintro Y' ⟨-, -, h3, h4⟩
  rw [h.2.1, p_hc_m _ (by omega)]
  refine q4_13 h g Y (nI w) (p_nb S) q_N Y' (Nat.le_refl _) (by rw [q_N_eq]; omega) h3 (fun k' a b h1 h2 ha hb => ?_)
  have : k' = p_nb S := by omega
  subst this
  rw [h4 _ (p_hd_lt (by omega) (by omega)), p_cs_end]
  rfl
end WAYS
