/-! leave: the reference, from the front, by how many are kept -/
def p_kn (S : p_S) (b many : Nat) (K : Nat → Nat) : Nat → Nat := fun j => if (many + 1) * 81 ≤ j ∧ j < (many + 2) * 81 then (if p_hs S (p_c S b) (j % 81 / 9) (j % 81 % 9) = true then p_mn (fun f => K (many * 81 + f) + p_w0 S f (j % 81)) 81 0 (K j) else K j) else K j
def p_kI (S : p_S) (b : Nat) : Nat → (Nat → Nat) → Nat → Nat
  | 0, K => K
  | m + 1, K => p_kI S b m (p_kn S b m K)
def p_kb (S : p_S) (K0 : Nat → Nat) : Nat → Nat → Nat
  | 0 => K0
  | b + 1 => if p_wr S b = true then p_kb S K0 b else p_kI S b (b + 1) (p_kb S K0 b)
theorem p_kn_le (S : p_S) (b many : Nat) {K : Nat → Nat} (h : ∀ j, K j ≤ 1000000) : ∀ j, p_kn S b many K j ≤ 1000000 := by
  intro j
  have := h j
  unfold p_kn
  split
  · split
    · have := p_mn_le (fun f => K (many * 81 + f) + p_w0 S f (j % 81)) 81 0 (K j)
      omega
    · exact this
  · exact this
theorem p_kI_le (S : p_S) (b : Nat) : ∀ m {K : Nat → Nat}, (∀ j, K j ≤ 1000000) → ∀ j, p_kI S b m K j ≤ 1000000
  | 0, _, h => h
  | m + 1, _, h => p_kI_le S b m (p_kn_le S b m h)
theorem p_kb_le (S : p_S) {K0 : Nat → Nat} (h : ∀ j, K0 j ≤ 1000000) : ∀ b j, p_kb S K0 b j ≤ 1000000
  | 0, j => h j
  | b + 1, j => by
    rw [p_kb]
    split
    · exact p_kb_le S h b j
    · exact p_kI_le S b (b + 1) (p_kb_le S h b) j
/-- rows above are as they were, row m by what it was behind row m - 1 as it was -/
theorem p_kI_at (S : p_S) (b : Nat) : ∀ M (K : Nat → Nat) m t, t < 81 → p_kI S b M K (m * 81 + t) = if 1 ≤ m ∧ m ≤ M then (if p_hs S (p_c S b) (t / 9) (t % 9) = true then p_mn (fun f => K ((m - 1) * 81 + f) + p_w0 S f t) 81 0 (K (m * 81 + t)) else K (m * 81 + t)) else K (m * 81 + t)
  | 0, K, m, t, ht => by
    rw [p_kI, if_neg (by omega)]
  | M + 1, K, m, t, ht => by
    have em : (m * 81 + t) % 81 = t := by omega
    have same : ∀ m' t', m' ≤ M → t' < 81 → p_kn S b M K (m' * 81 + t') = K (m' * 81 + t') := by
      intro m' t' h1 h2
      unfold p_kn
      rw [if_neg (by omega)]
    rw [p_kI, p_kI_at S b M (p_kn S b M K) m t ht]
    by_cases q : 1 ≤ m ∧ m ≤ M
    · rw [if_pos q, if_pos (show 1 ≤ m ∧ m ≤ M + 1 by omega), same m t q.2 ht]
      have : p_mn (fun f => p_kn S b M K ((m - 1) * 81 + f) + p_w0 S f t) 81 0 (K (m * 81 + t)) = p_mn (fun f => K ((m - 1) * 81 + f) + p_w0 S f t) 81 0 (K (m * 81 + t)) := p_mn_cong 81 0 _ (fun f _ hf => by
        show p_kn S b M K ((m - 1) * 81 + f) + p_w0 S f t = K ((m - 1) * 81 + f) + p_w0 S f t
        rw [same (m - 1) f (by omega) (by omega)])
      rw [this]
    · rw [if_neg q]
      by_cases y : m = M + 1
      · rw [if_pos (show 1 ≤ m ∧ m ≤ M + 1 by omega)]
        show (if (M + 1) * 81 ≤ m * 81 + t ∧ m * 81 + t < (M + 2) * 81 then _ else _) = _
        rw [if_pos (show (M + 1) * 81 ≤ m * 81 + t ∧ m * 81 + t < (M + 2) * 81 by omega), em, show m - 1 = M by omega]
      · rw [if_neg (show ¬ (1 ≤ m ∧ m ≤ M + 1) by omega)]
        show (if (M + 1) * 81 ≤ m * 81 + t ∧ m * 81 + t < (M + 2) * 81 then _ else _) = _
        rw [if_neg (show ¬ ((M + 1) * 81 ≤ m * 81 + t ∧ m * 81 + t < (M + 2) * 81) by omega)]
/-- the table says what ways there are -/
theorem p_kb_iff {S : p_S} (h8 : p_nd S ≤ 8) {t0 : Nat} (h0 : t0 < 81) : ∀ b m t u, t < 81 → u < 1000000 → (p_kb S (fun j => if j = t0 then 0 else 1000000) b (m * 81 + t) ≤ u ↔ p_Q S b 0 m t0 t u)
  | 0, m, t, u, ht, hu => by
    show (if m * 81 + t = t0 then 0 else 1000000) ≤ u ↔ m = 0 ∧ t0 = t
    by_cases q : m * 81 + t = t0
    · rw [if_pos q]
      constructor
      · intro _; omega
      · intro _; omega
    · rw [if_neg q]
      constructor
      · intro _; omega
      · intro _; omega
  | b + 1, m, t, u, ht, hu => by
    rw [p_Q_snoc, Nat.zero_add, p_kb]
    by_cases w : p_wr S b = true
    · rw [if_pos w, p_kb_iff h8 h0 b m t u ht hu]
      constructor
      · exact Or.inl
      · rintro (h | ⟨h, _⟩)
        · exact h
        · rw [w] at h; cases h
    · rw [if_neg w, p_kI_at S b (b + 1) _ m t ht]
      have w := Bool.eq_false_iff.mpr w
      by_cases q : 1 ≤ m ∧ m ≤ b + 1
      · rw [if_pos q]
        by_cases y : p_hs S (p_c S b) (t / 9) (t % 9) = true
        · rw [if_pos y, p_mn_iff, p_kb_iff h8 h0 b m t u ht hu]
          constructor
          · rintro (h | ⟨f, _, hf, h⟩)
            · exact Or.inl h
            · refine Or.inr ⟨w, q.1, y, f, by omega, ?_⟩
              exact (p_kb_iff h8 h0 b (m - 1) f _ (by omega) (by omega)).mp (by omega)
          · rintro (h | ⟨_, _, _, e', h1, h2⟩)
            · exact Or.inl h
            · have he := p_Q_lt h8 _ _ _ _ _ _ h0 h2
              have := (p_kb_iff h8 h0 b (m - 1) e' _ he (by omega)).mpr h2
              exact Or.inr ⟨e', by omega, by omega, by omega⟩
        · rw [if_neg y, p_kb_iff h8 h0 b m t u ht hu]
          constructor
          · exact Or.inl
          · rintro (h | ⟨_, _, h, _⟩)
            · exact h
            · exact absurd h y
      · rw [if_neg q, p_kb_iff h8 h0 b m t u ht hu]
        constructor
        · exact Or.inl
        · rintro (h | ⟨_, h1, _, e', _, h2⟩)
          · exact h
          · have := p_Q_le S _ _ _ _ _ _ h2
            omega
/-- most that are kept -/
def p_mo (K : Nat → Nat) (v : Nat) : Nat → Nat → Nat → Nat
  | 0, _, most => most
  | len + 1, k, most => p_mo K v len (k + 1) (if v < K k then most else if most < k / 81 then k / 81 else most)
theorem p_mo_spec (K : Nat → Nat) (v : Nat) : ∀ len k most, most ≤ p_mo K v len k most ∧ (∀ j, k ≤ j → j < k + len → K j ≤ v → j / 81 ≤ p_mo K v len k most) ∧ (p_mo K v len k most = most ∨ ∃ j, k ≤ j ∧ j < k + len ∧ K j ≤ v ∧ j / 81 = p_mo K v len k most)
  | 0, k, most => ⟨Nat.le_refl _, fun j h1 h2 => by omega, Or.inl rfl⟩
  | len + 1, k, most => by
    rw [p_mo]
    obtain ⟨h1, h2, h3⟩ := p_mo_spec K v len (k + 1) (if v < K k then most else if most < k / 81 then k / 81 else most)
    by_cases q : v < K k
    · rw [if_pos q] at h1 h2 h3 ⊢
      refine ⟨h1, fun j a b c => ?_, ?_⟩
      · by_cases e : j = k
        · rw [e] at c; omega
        · exact h2 j (by omega) (by omega) c
      · rcases h3 with h3 | ⟨j, a, b, c⟩
        · exact Or.inl h3
        · exact Or.inr ⟨j, by omega, by omega, c⟩
    · rw [if_neg q] at h1 h2 h3 ⊢
      by_cases y : most < k / 81
      · rw [if_pos y] at h1 h2 h3 ⊢
        refine ⟨by omega, fun j a b c => ?_, ?_⟩
        · by_cases e : j = k
          · rw [e]; exact h1
          · exact h2 j (by omega) (by omega) c
        · rcases h3 with h3 | ⟨j, a, b, c⟩
          · exact Or.inr ⟨k, by omega, by omega, by omega, h3.symm⟩
          · exact Or.inr ⟨j, by omega, by omega, c⟩
      · rw [if_neg y] at h1 h2 h3 ⊢
        refine ⟨h1, fun j a b c => ?_, ?_⟩
        · by_cases e : j = k
          · rw [e]; omega
          · exact h2 j (by omega) (by omega) c
        · rcases h3 with h3 | ⟨j, a, b, c⟩
          · exact Or.inl h3
          · exact Or.inr ⟨j, by omega, by omega, c⟩
theorem p_Q_0 (S : p_S) : ∀ len k t u, p_Q S len k 0 t t u
  | 0, _, _, _ => ⟨rfl, rfl⟩
  | len + 1, k, t, u => Or.inl (p_Q_0 S len (k + 1) t u)
theorem p_lo_mo {S : p_S} (g : p_Good S) {v : Nat} (hv : v < 1000000) : p_lo S v (p_nb S) 0 = p_nb S - p_mo (p_kb S (fun j => if j = p_hd (p_l S) (p_r S) then 0 else 1000000) (p_nb S)) v 1053 0 0 ∧ p_mo (p_kb S (fun j => if j = p_hd (p_l S) (p_r S) then 0 else 1000000) (p_nb S)) v 1053 0 0 ≤ p_nb S := by
  have h8 := g.1
  have h12 := g.2.1
  have hl := g.2.2.1
  have hr := g.2.2.2.1
  have ht := p_hd_lt (a := p_l S) (b := p_r S) (by omega) (by omega)
  obtain ⟨_, m2, m3⟩ := p_mo_spec (p_kb S (fun j => if j = p_hd (p_l S) (p_r S) then 0 else 1000000) (p_nb S)) v 1053 0 0
  generalize p_mo (p_kb S (fun j => if j = p_hd (p_l S) (p_r S) then 0 else 1000000) (p_nb S)) v 1053 0 0 = r at *
  have z1 : ∀ m e, p_Q S (p_nb S) 0 m (p_hd (p_l S) (p_r S)) e v → m ≤ r := by
    intro m e h
    have hm := p_Q_le S _ _ _ _ _ _ h
    have he := p_Q_lt h8 _ _ _ _ _ _ ht h
    have := m2 (m * 81 + e) (by omega) (by omega) ((p_kb_iff h8 ht (p_nb S) m e v he hv).mpr h)
    omega
  have z2 : ∃ e, p_Q S (p_nb S) 0 r (p_hd (p_l S) (p_r S)) e v := by
    rcases m3 with h | ⟨j, _, h1, h2, h3⟩
    · rw [h]
      exact ⟨_, p_Q_0 S _ _ _ _⟩
    · have hj : j = r * 81 + j % 81 := by omega
      rw [hj] at h2
      exact ⟨_, (p_kb_iff h8 ht (p_nb S) r (j % 81) v (by omega) hv).mp h2⟩
  obtain ⟨e, he⟩ := z2
  have hrn := p_Q_le S _ _ _ _ _ _ he
  refine ⟨?_, hrn⟩
  have key : ∀ len out, out + len = p_nb S → out ≤ p_nb S - r → p_lo S v len out = p_nb S - r := by
    intro len
    induction len with
    | zero =>
      intro out h1 h2
      rw [p_lo]
      omega
    | succ len ih =>
      intro out h1 h2
      rw [p_lo]
      by_cases q : p_Lf S (p_nb S) out 0 (p_l S) (p_r S) ≤ v
      · rw [if_pos q]
        obtain ⟨m, e', a1, a2⟩ := (p_Lf_iff (u := v) h8 (p_nb S) out 0 (p_l S) (p_r S) v hv hl hr).mp q
        have := z1 m e' a2
        omega
      · rw [if_neg q]
        refine ih (out + 1) (by omega) ?_
        apply Classical.byContradiction
        intro hn
        apply q
        exact (p_Lf_iff (u := v) h8 (p_nb S) out 0 (p_l S) (p_r S) v hv hl hr).mpr ⟨r, e, by omega, he⟩
  exact key (p_nb S) 0 (by omega) (by omega)
section LEAVEN
variable {M : q_St} {S : p_S} {P : Int32 × q_St → Prop}
theorem bN_w0 (M : q_St) (S : p_S) {t t' : Nat} (ht : t < 81) (ht' : t' < 81) : f_X6_worthBetween M (nI t) (nI t') (0 : Int32) = some (nI (p_w0 S t t')) := by
  have em : ∀ a b, p_mv S 0 a b = if a = b then 0 else 1 := fun a b => by
    unfold p_mv p_pr
    rw [if_pos rfl]
  unfold f_X6_worthBetween p_w0
  rw [if_pos rfl, p_leftT t ht, p_bind, p_leftT t' ht', p_bind, p_rightT t ht, p_bind, p_rightT t' ht', p_bind, em, em]
  by_cases e : t / 9 = t' / 9
  · rw [if_pos (congrArg p_hc e), if_pos e]
    by_cases f : t % 9 = t' % 9
    · rw [if_pos (congrArg p_hc f), if_pos f]; rfl
    · rw [if_neg (fun z => f ((p_hc_eq (by omega) (by omega)).mp z)), if_neg f]; rfl
  · rw [if_neg (fun z => e ((p_hc_eq (by omega) (by omega)).mp z)), if_neg e, p_bind, p_bind]
    by_cases f : t % 9 = t' % 9
    · rw [if_pos (congrArg p_hc f), if_pos f]; rfl
    · rw [if_neg (fun z => f ((p_hc_eq (by omega) (by omega)).mp z)), if_neg f]; rfl
def p_F8 (M M' : q_St) : Prop := M'.1 = M.1 ∧ ∀ j, j ≠ 8 → M'.2 j = M.2 j
theorem p_FS_F8 {M M' : q_St} (h : p_F8 M M') : p_FS M M' := ⟨by rw [h.1], by rw [h.1], h.2 1 (by decide), h.2 4 (by decide), h.2 9 (by decide), h.2 21 (by decide), h.2 22 (by decide), h.2 23 (by decide)⟩
theorem p_F8_up {M M' : q_St} (h : p_F8 M M') (T : Nat → Int32) : p_F8 M (M'.1, va_up M'.2 8 T) := ⟨h.1, fun j hj => (if_neg hj).trans (h.2 j hj)⟩
theorem q68_147 (M0 : q_St) (z1 x1 x2 : Int32) (r52 : Int32 → Int32 → q_St → Option (Int32 × q_St)) (r64 : Int32 → Int32 → Int32 → q_St → Option (Int32 × q_St)) (r79 : Int32 → Int32 → Int32 → Int32 → q_St → Option (Int32 × q_St)) {many to : Nat} (hm : many < 12) (ht : to < 81) {K : Nat → Nat} (hK : ∀ f, f < 81 → M.2 8 (many * 81 + f) = nI (K (many * 81 + f))) (hle : ∀ j, K j ≤ 1000000) (S : p_S) : ∀ (len n f acc : Nat), f + len = 81 → len < n → acc ≤ 1000000 → f_X6_leave_147 M0 z1 r52 r64 r79 n x1 x2 (nI many) (nI to) (1 : Int32) (nI acc) (nI f) M = r79 x1 x2 (nI many) (nI (to + 1)) (M.1, va_up M.2 8 (upd (M.2 8) ((many + 1) * 81 + to) (nI (p_mn (fun f => K (many * 81 + f) + p_w0 S f to) len f acc)))) := by
  have e1 : (nI many + (1 : Int32)) * (81 : Int32) + nI to = nI ((many + 1) * 81 + to) := by rw [nI_1, p_L81, p_mul, p_add]
  intro len
  induction len with
  | zero =>
    intro n f acc hi hn ha
    obtain ⟨n, rfl⟩ := p_suc (show 0 < n by omega)
    rw [f_X6_leave_147, if_pos (show (81 : Int32) ≤ nI f from nI_le (a := 81) (by omega) (by omega)), e1, p_ix (show (many + 1) * 81 + to < 1053 by omega) (by omega), p_cl (by omega), nI_1, p_mn]
  | succ len ih =>
    intro n f acc hi hn ha
    obtain ⟨n, rfl⟩ := p_suc (show 0 < n by omega)
    have w2 : p_w0 S f to ≤ 2 := by
      unfold p_w0 p_mv p_pr
      rw [if_pos rfl, if_pos rfl]
      split <;> split <;> omega
    have k1 := hle (many * 81 + f)
    rw [f_X6_leave_147, if_neg (show ¬ (81 : Int32) ≤ nI f from nI_ge (b := 81) (by omega) (by omega)), if_neg p_n10, show nI many * (81 : Int32) + nI f = nI (many * 81 + f) by rw [p_L81, p_mul, p_add], p_ix (show many * 81 + f < 1053 by omega) (by omega), bN_w0 M S (by omega) ht, p_bind, p_cl (by omega), hK f (by omega), p_add, p_ifI (by omega) (by omega), nI_1, p_mn]
    exact ih n (f + 1) _ (by omega) (by omega) (by split <;> omega)
theorem q68_79 (hN : p_RN (M.2 0) S) (g : p_Good S) (M0 : q_St) (z1 x1 : Int32) (r52 : Int32 → Int32 → q_St → Option (Int32 × q_St)) (r64 : Int32 → Int32 → Int32 → q_St → Option (Int32 × q_St)) {b many : Nat} (hb : b < p_nb S) (hm : many ≤ b) {K : Nat → Nat} (hle : ∀ j, K j ≤ 1000000) (hC : ∀ M', p_F8 M M' → (∀ j, j < 1053 → M'.2 8 j = nI (p_kn S b many K j)) → p_wp (r64 x1 (nI b) (p_hc many) M') P) : ∀ (len n to : Nat) (M' : q_St), to + len = 81 → len < n → p_F8 M M' → (∀ j, j < 1053 → M'.2 8 j = nI (if j < (many + 1) * 81 + to then p_kn S b many K j else K j)) → p_wp (f_X6_leave_79 M0 z1 r52 r64 n x1 (nI b) (nI many) (nI to) M') P := by
  have h8 := g.1
  have h12 := g.2.1
  have c8 := g.c8 hb
  have kn := p_kn_le S b many hle
  intro len
  induction len with
  | zero =>
    intro n to M' hi hn hF hT
    obtain ⟨n, rfl⟩ := p_suc (show 0 < n by omega)
    rw [f_X6_leave_79, if_pos (show (81 : Int32) ≤ nI to from nI_le (a := 81) (by omega) (by omega)), show nI many + (-1) = p_hc many from p_hc_dn many (by omega)]
    refine hC M' hF (fun j hj => ?_)
    rw [hT j hj]
    by_cases q : j < (many + 1) * 81 + to
    · rw [if_pos q]
    · rw [if_neg q]
      unfold p_kn
      rw [if_neg (by omega)]
  | succ len ih =>
    intro n to M' hi hn hF hT
    obtain ⟨n, rfl⟩ := p_suc (show 0 < n by omega)
    have hR : p_RN (M'.2 0) S := by rw [hF.2 0 (by decide)]; exact hN
    have et : ((many + 1) * 81 + to) % 81 = to := by omega
    have e1 : (nI many + (1 : Int32)) * (81 : Int32) + nI to = nI ((many + 1) * 81 + to) := by rw [nI_1, p_L81, p_mul, p_add]
    have old : M'.2 8 ((many + 1) * 81 + to) = nI (K ((many + 1) * 81 + to)) := by
      rw [hT _ (by omega), if_neg (by omega)]
    have row : ∀ f, f < 81 → M'.2 8 (many * 81 + f) = nI (K (many * 81 + f)) := by
      intro f hf
      rw [hT _ (by omega), if_pos (by omega)]
      unfold p_kn
      rw [if_neg (by omega)]
    have fin : ∀ x, x = nI (p_kn S b many K ((many + 1) * 81 + to)) → p_wp (f_X6_leave_79 M0 z1 r52 r64 n x1 (nI b) (nI many) (nI (to + 1)) (M'.1, va_up M'.2 8 (upd (M'.2 8) ((many + 1) * 81 + to) x))) P := by
      intro x hx
      refine ih n (to + 1) _ (by omega) (by omega) (p_F8_up hF _) (fun j hj => ?_)
      show upd (M'.2 8) ((many + 1) * 81 + to) x j = _
      by_cases e : j = (many + 1) * 81 + to
      · rw [e, pk_us, hx, if_pos (by omega)]
      · rw [pk_un e, hT j hj]
        by_cases q : j < (many + 1) * 81 + to
        · rw [if_pos q, if_pos (by omega)]
        · rw [if_neg q, if_neg (by omega)]
    have skip : p_hs S (p_c S b) (to / 9) (to % 9) = false → p_wp (f_X6_leave_125 M0 z1 r52 r64 (fun x1 x2 x3 x4 M' => f_X6_leave_79 M0 z1 r52 r64 n x1 x2 x3 x4 M') x1 (nI b) (nI many) (nI to) M') P := by
      intro hs
      unfold f_X6_leave_125
      obtain ⟨q, hq⟩ : ∃ q, q_N = q + 1 := ⟨2999, rfl⟩
      rw [e1, p_ix (show (many + 1) * 81 + to < 1053 by omega) (by omega), p_cl (by omega), hq, f_X6_leave_147, if_neg (show ¬ (81 : Int32) ≤ (0 : Int32) by decide), if_pos p_z00, e1, p_ix (show (many + 1) * 81 + to < 1053 by omega) (by omega), p_cl (by omega), nI_1]
      refine fin _ ?_
      rw [old]
      unfold p_kn
      rw [if_pos (show (many + 1) * 81 ≤ (many + 1) * 81 + to ∧ (many + 1) * 81 + to < (many + 2) * 81 by omega), et, hs]
      rfl
    rw [f_X6_leave_79, if_neg (show ¬ (81 : Int32) ≤ nI to from nI_ge (b := 81) (by omega) (by omega)), p_leftT to (by omega), p_bind, p_rightT to (by omega), p_bind, bN_isHoldD hR g (by omega) (by omega), p_bind, p_bif, p_bind, p_bind]
    by_cases hh : (decide (to / 9 ≤ p_nd S) && (decide (to % 9 ≤ p_nd S) && !(decide (to / 9 = to % 9) && decide (to / 9 ≠ 0)))) = true
    · rw [if_pos hh]
      rw [Bool.and_eq_true, Bool.and_eq_true, decide_eq_true_eq, decide_eq_true_eq] at hh
      have hs := p_st_su h8 c8 hh.1 hh.2.1
      rw [hh.2.2, Bool.and_true] at hs
      have eh : p_hs S (p_c S b) (to / 9) (to % 9) = p_st S (p_c S b) (to / 9) (to % 9) := by
        unfold p_hs
        rw [decide_eq_true hh.1, decide_eq_true hh.2.1]
        rfl
      rw [bN_doesSuit hR g hb hh.1 hh.2.1, p_bind, p_bif, ← hs]
      cases y : p_st S (p_c S b) (to / 9) (to % 9) with
      | false =>
        rw [if_neg (by decide)]
        exact skip (eh.trans y)
      | true =>
        have l := q68_147 (M := M') M0 z1 x1 (nI b) r52 r64 (fun x1 x2 x3 x4 M' => f_X6_leave_79 M0 z1 r52 r64 n x1 x2 x3 x4 M') (many := many) (to := to) (by omega) (by omega) row hle S 81 q_N 0 (K ((many + 1) * 81 + to)) (by omega) (by rw [q_N_eq]; omega) (hle _)
        rw [if_pos rfl, e1, p_ix (show (many + 1) * 81 + to < 1053 by omega) (by omega), p_cl (by omega), old, show f_X6_leave_147 M0 z1 r52 r64 (fun x1 x2 x3 x4 M' => f_X6_leave_79 M0 z1 r52 r64 n x1 x2 x3 x4 M') q_N x1 (nI b) (nI many) (nI to) (1 : Int32) (nI (K ((many + 1) * 81 + to))) (0 : Int32) M' = _ from l]
        refine fin _ ?_
        unfold p_kn
        rw [if_pos (show (many + 1) * 81 ≤ (many + 1) * 81 + to ∧ (many + 1) * 81 + to < (many + 2) * 81 by omega), et, eh, y, if_pos rfl]
    · rw [if_neg hh]
      refine skip ?_
      cases hq : p_hs S (p_c S b) (to / 9) (to % 9) with
      | false => rfl
      | true =>
        exfalso
        have hq := p_hs_iff.mp hq
        have hne := p_st_ne h8 c8 hq.1 hq.2.1 hq.2.2
        apply hh
        rw [decide_eq_true hq.1, decide_eq_true hq.2.1]
        rcases hne with e | e
        · simp [e]
        · simp [e]
theorem q68_64 (hN : p_RN (M.2 0) S) (g : p_Good S) (M0 : q_St) (z1 x1 : Int32) (r52 : Int32 → Int32 → q_St → Option (Int32 × q_St)) {b : Nat} (hb : b < p_nb S) (hw : p_wr S b = false) : ∀ (m n : Nat) (K : Nat → Nat) (M' : q_St), m ≤ b + 1 → m < n → (∀ j, K j ≤ 1000000) → p_F8 M M' → (∀ j, j < 1053 → M'.2 8 j = nI (K j)) → (∀ M', p_F8 M M' → (∀ j, j < 1053 → M'.2 8 j = nI (p_kI S b m K j)) → p_wp (r52 x1 (nI (b + 1)) M') P) → p_wp (f_X6_leave_64 M0 z1 r52 n x1 (nI b) (p_hc m) M') P := by
  have h12 := g.2.1
  intro m
  induction m with
  | zero =>
    intro n K M' hm hn hle hF hT hC
    obtain ⟨n, rfl⟩ := p_suc (show 0 < n by omega)
    rw [f_X6_leave_64, if_pos (show p_hc 0 < 0 by decide), nI_1]
    exact hC M' hF hT
  | succ m ih =>
    intro n K M' hm hn hle hF hT hC
    obtain ⟨n, rfl⟩ := p_suc (show 0 < n by omega)
    have hR : p_RN (M'.2 0) S := by rw [hF.2 0 (by decide)]; exact hN
    rw [f_X6_leave_64, if_neg (show ¬ p_hc (m + 1) < 0 from nI_pos (by omega)), bN_isWrong hR g hb, p_bind, p_bif, hw, if_neg (by decide), p_hcs]
    refine q68_79 (K := K) (many := m) hN g M0 z1 x1 r52 _ hb (by omega) hle (fun M'' hF' hT' => ih n _ M'' (by omega) (by omega) (p_kn_le S b m hle) hF' hT' hC) 81 q_N 0 M' (by omega) (by rw [q_N_eq]; omega) hF (fun j hj => ?_)
    rw [hT j hj]
    by_cases q : j < (m + 1) * 81 + 0
    · rw [if_pos q]
      unfold p_kn
      rw [if_neg (by omega)]
    · rw [if_neg q]
theorem q68_232 (hN : p_RN (M.2 0) S) (g : p_Good S) (M0 : q_St) (z1 : Int32) {v : Nat} (hv : v < 1000000) {K : Nat → Nat} (hle : ∀ j, K j ≤ 1000000) (hT : ∀ j, j < 1053 → M.2 8 j = nI (K j)) : ∀ (len n k most : Nat), k + len = 1053 → len < n → most ≤ 12 → f_X6_leave_232 M0 z1 n (nI v) (nI most) (nI k) M = some (nI (p_nb S) - nI (p_mo K v len k most), M) := by
  intro len
  induction len with
  | zero =>
    intro n k most hi hn hm
    obtain ⟨n, rfl⟩ := p_suc (show 0 < n by omega)
    rw [f_X6_leave_232, if_pos (show (1053 : Int32) ≤ nI k from nI_le (a := 1053) (by omega) (by omega)), p_Q1, p_C1, hN.2.1, p_mo]
  | succ len ih =>
    intro n k most hi hn hm
    obtain ⟨n, rfl⟩ := p_suc (show 0 < n by omega)
    have kl := hle k
    rw [f_X6_leave_232, if_neg (show ¬ (1053 : Int32) ≤ nI k from nI_ge (b := 1053) (by omega) (by omega)), p_ix (show k < 1053 by omega) (by omega), p_cl (by omega), hT k (by omega), show nI k / (81 : Int32) = nI (k / 81) from pk_div (d := 81) (by omega) (by omega) (by omega), p_mo, nI_1]
    by_cases q : v < K k
    · rw [if_pos (nI_lt q (by omega)), if_pos q]
      exact ih n (k + 1) most (by omega) (by omega) hm
    · rw [if_neg (nI_nlt (by omega) (by omega)), if_neg q]
      by_cases y : most < k / 81
      · rw [if_pos (nI_lt y (by omega)), if_pos y]
        exact ih n (k + 1) _ (by omega) (by omega) (by omega)
      · rw [if_neg (nI_nlt (by omega) (by omega)), if_neg y]
        exact ih n (k + 1) most (by omega) (by omega) hm
theorem q68_52 (hN : p_RN (M.2 0) S) (g : p_Good S) (M0 : q_St) (z1 : Int32) {v : Nat} (hv : v < 1000000) {K0 : Nat → Nat} (h0 : ∀ j, K0 j ≤ 1000000) : ∀ (len n b : Nat) (M' : q_St), b + len = p_nb S → len < n → p_F8 M M' → (∀ j, j < 1053 → M'.2 8 j = nI (p_kb S K0 b j)) → p_wp (f_X6_leave_52 M0 z1 n (nI v) (nI b) M') (fun q => q.1 = nI (p_nb S) - nI (p_mo (p_kb S K0 (p_nb S)) v 1053 0 0) ∧ p_F8 M q.2) := by
  have h12 := g.2.1
  intro len
  induction len with
  | zero =>
    intro n b M' hi hn hF hT
    obtain ⟨n, rfl⟩ := p_suc (show 0 < n by omega)
    have hR : p_RN (M'.2 0) S := by rw [hF.2 0 (by decide)]; exact hN
    have : b = p_nb S := by omega
    subst this
    have e := q68_232 hR g M0 z1 hv (p_kb_le S h0 (p_nb S)) hT 1053 q_N 0 0 (by omega) (by rw [q_N_eq]; omega) (by omega)
    rw [f_X6_leave_52, p_Q1, p_C1, hR.2.1, if_pos (nI_le (by omega) (by omega)), show f_X6_leave_232 M0 z1 q_N (nI v) (0 : Int32) (0 : Int32) M' = _ from e, p_wp_some]
    exact ⟨rfl, hF⟩
  | succ len ih =>
    intro n b M' hi hn hF hT
    obtain ⟨n, rfl⟩ := p_suc (show 0 < n by omega)
    have hR : p_RN (M'.2 0) S := by rw [hF.2 0 (by decide)]; exact hN
    have hb : b < p_nb S := by omega
    rw [f_X6_leave_52, p_Q1, p_C1, hR.2.1, if_neg (nI_ge (by omega) (by omega))]
    cases hw : p_wr S b with
    | true =>
      obtain ⟨q, hq⟩ : ∃ q, q_N = q + 1 := ⟨2999, rfl⟩
      rw [hq, f_X6_leave_64, if_neg (nI_pos (by omega)), bN_isWrong hR g hb, p_bind, p_bif, hw, if_pos rfl, nI_1]
      exact ih n (b + 1) M' (by omega) (by omega) hF (fun j hj => by rw [p_kb, if_pos hw]; exact hT j hj)
    | false =>
      have e := q68_64 (M := M) (P := fun q => q.1 = nI (p_nb S) - nI (p_mo (p_kb S K0 (p_nb S)) v 1053 0 0) ∧ p_F8 M q.2) hN g M0 z1 (nI v) (fun x1 x2 M' => f_X6_leave_52 M0 z1 n x1 x2 M') hb hw (b + 1) q_N (p_kb S K0 b) M' (by omega) (by rw [q_N_eq]; omega) (p_kb_le S h0 b) hF hT (fun M'' hF' hT' => ih n (b + 1) M'' (by omega) (by omega) hF' (fun j hj => by rw [p_kb, if_neg (by rw [hw]; decide)]; exact hT' j hj))
      exact e
theorem q68_19 (hN : p_RN (M.2 0) S) (g : p_Good S) (M0 : q_St) (z1 : Int32) {v : Nat} (hv : v < 1000000) : ∀ (len n k : Nat) (M' : q_St), k + len = 1053 → len < n → p_F8 M M' → (∀ j, j < k → M'.2 8 j = nI 1000000) → p_wp (f_X6_leave_19 M0 z1 n (nI v) (nI k) M') (fun q => q.1 = nI (p_nb S) - nI (p_mo (p_kb S (fun j => if j = p_hd (p_l S) (p_r S) then 0 else 1000000) (p_nb S)) v 1053 0 0) ∧ p_F8 M q.2) := by
  have h8 := g.1
  have h12 := g.2.1
  have hl := g.2.2.1
  have hr := g.2.2.2.1
  have ht := p_hd_lt (a := p_l S) (b := p_r S) (by omega) (by omega)
  intro len
  induction len with
  | zero =>
    intro n k M' hi hn hF hT
    obtain ⟨n, rfl⟩ := p_suc (show 0 < n by omega)
    have hR : p_RN (M'.2 0) S := by rw [hF.2 0 (by decide)]; exact hN
    rw [f_X6_leave_19, if_pos (show (1053 : Int32) ≤ nI k from nI_le (a := 1053) (by omega) (by omega)), bN_holdNow hR g, p_bind, p_ix (show p_hd (p_l S) (p_r S) < 1053 by omega) (by omega), p_cl (by omega)]
    refine q68_52 hN g M0 z1 hv (fun j => by show (if j = _ then 0 else 1000000) ≤ 1000000; split <;> omega) (p_nb S) q_N 0 _ (by omega) (by rw [q_N_eq]; omega) (p_F8_up hF _) (fun j hj => ?_)
    show upd (M'.2 8) (p_hd (p_l S) (p_r S)) 0 j = nI (if j = p_hd (p_l S) (p_r S) then 0 else 1000000)
    by_cases e : j = p_hd (p_l S) (p_r S)
    · rw [e, pk_us, if_pos rfl]; rfl
    · rw [pk_un e, if_neg e]
      exact hT j (by omega)
  | succ len ih =>
    intro n k M' hi hn hF hT
    obtain ⟨n, rfl⟩ := p_suc (show 0 < n by omega)
    rw [f_X6_leave_19, if_neg (show ¬ (1053 : Int32) ≤ nI k from nI_ge (b := 1053) (by omega) (by omega)), p_ix (show k < 1053 by omega) (by omega), p_cl (by omega), nI_1]
    refine ih n (k + 1) _ (by omega) (by omega) (p_F8_up hF _) (fun j hj => ?_)
    show upd (M'.2 8) k (1000000 : Int32) j = nI 1000000
    by_cases e : j = k
    · rw [e, pk_us]; rfl
    · rw [pk_un e]
      exact hT j (by omega)
theorem w_leave {X : Nat → q_St} (h : p_Rel X M) (a : Int32) : p_Both (f_X5_leave X a) (f_X6_leave M a) := by
  have hr := h
  obtain ⟨S, hS⟩ := h
  have g := hS.1
  have hB := hS.2.1
  have hN := hS.2.2.1
  have h12 := g.2.1
  unfold f_X5_leave f_X6_leave
  rcases p_cases a (n := 100) (by omega) with h | ⟨v, hv, rfl⟩
  · rw [show f_X6_within a (0 : Int32) (99 : Int32) = some 0 from p_wi0 (n := 100) h (by omega), p_bind, if_pos p_z00]
    by_cases q : a < 0
    · rw [if_pos q]
      exact p_noB hr
    · rw [if_neg q, if_neg (show ¬ a ≤ (99 : Int32) from fun z => by
        have h := h.resolve_left q
        rw [fa_le, nI_toInt (by omega)] at h
        rw [fa_le, show (99 : Int32).toInt = 99 from rfl] at z
        omega)]
      exact p_noB hr
  · rw [show f_X6_within (nI v) (0 : Int32) (99 : Int32) = some 1 from p_wi1 (n := 100) hv (by omega), p_bind, if_neg p_n10, if_neg (nI_pos (by omega)), if_pos (show nI v ≤ (99 : Int32) from nI_le (b := 99) (by omega) (by omega))]
    have lm := p_lo_mo g (v := v) (by omega)
    refine p_wp_seq (q67_X hB g (v := v) (by omega) (X 4)) (fun u hu => ?_)
    rw [p_wp_some]
    refine p_wp_mono (q68_19 hN g M (nI v) (v := v) (by omega) 1053 q_N 0 M (by omega) (by rw [q_N_eq]; omega) ⟨rfl, fun _ _ => rfl⟩ (fun j hj => absurd hj (by omega))) (fun w hw => ?_)
    refine ⟨?_, S, p_Rel_mv hS g hB (by rw [hw.2.2 0 (by decide)]; exact hN) (p_FX_4 X _) (p_FS_F8 hw.2)⟩
    show u.1 = w.1
    rw [hu, hw.1, lm.1, pk_sub lm.2]
end LEAVEN
