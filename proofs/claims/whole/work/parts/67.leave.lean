/-! the calls, on both sides: leave -/
def p_w0 (S : p_S) (t t' : Nat) : Nat := p_mv S 0 (t / 9) (t' / 9) + p_mv S 0 (t % 9) (t' % 9)
/-- from hold t, of len beats from k on just m are kept, none wrong, to hold e, worth u at most -/
def p_Q (S : p_S) : Nat → Nat → Nat → Nat → Nat → Nat → Prop
  | 0, _, m, t, e, _ => m = 0 ∧ t = e
  | len + 1, k, m, t, e, u => p_Q S len (k + 1) m t e u ∨ (p_wr S k = false ∧ 1 ≤ m ∧ ∃ t', p_hs S (p_c S k) (t' / 9) (t' % 9) = true ∧ p_w0 S t t' ≤ u ∧ p_Q S len (k + 1) (m - 1) t' e (u - p_w0 S t t'))
theorem p_Q_le (S : p_S) : ∀ len k m t e u, p_Q S len k m t e u → m ≤ len
  | 0, _, _, _, _, _, h => by have := h.1; omega
  | len + 1, k, m, t, e, u, h => by
    rcases h with h | ⟨_, h1, t', _, _, h⟩
    · have := p_Q_le S len (k + 1) m t e u h
      omega
    · have := p_Q_le S len (k + 1) (m - 1) t' e _ h
      omega
theorem p_Q_lt {S : p_S} (h8 : p_nd S ≤ 8) : ∀ len k m t e u, t < 81 → p_Q S len k m t e u → e < 81
  | 0, _, _, _, _, _, ht, h => by rw [← h.2]; exact ht
  | len + 1, k, m, t, e, u, ht, h => by
    rcases h with h | ⟨_, _, t', h2, _, h⟩
    · exact p_Q_lt h8 len (k + 1) m t e u ht h
    · have := p_hs_iff.mp h2
      exact p_Q_lt h8 len (k + 1) (m - 1) t' e _ (by omega) h
/-- the last beat in the place of the first -/
theorem p_Q_snoc (S : p_S) : ∀ len k m t e u, p_Q S (len + 1) k m t e u ↔ p_Q S len k m t e u ∨ (p_wr S (k + len) = false ∧ 1 ≤ m ∧ p_hs S (p_c S (k + len)) (e / 9) (e % 9) = true ∧ ∃ e', p_w0 S e' e ≤ u ∧ p_Q S len k (m - 1) t e' (u - p_w0 S e' e))
  | 0, k, m, t, e, u => by
    constructor
    · rintro (h | ⟨h1, h2, t', h3, h4, h5⟩)
      · exact Or.inl h
      · obtain ⟨h6, rfl⟩ := h5
        exact Or.inr ⟨h1, h2, h3, t, h4, h6, rfl⟩
    · rintro (h | ⟨h1, h2, h3, e', h4, h5⟩)
      · exact Or.inl h
      · obtain ⟨h6, rfl⟩ := h5
        exact Or.inr ⟨h1, h2, e, h3, h4, h6, rfl⟩
  | len + 1, k, m, t, e, u => by
    have ek : k + (len + 1) = k + 1 + len := by omega
    rw [ek]
    constructor
    · rintro (h | ⟨h1, h2, t', h3, h4, h5⟩)
      · rcases (p_Q_snoc S len (k + 1) m t e u).mp h with h | ⟨a1, a2, a3, e', a4, a5⟩
        · exact Or.inl (Or.inl h)
        · exact Or.inr ⟨a1, a2, a3, e', a4, Or.inl a5⟩
      · rcases (p_Q_snoc S len (k + 1) (m - 1) t' e _).mp h5 with h | ⟨a1, a2, a3, e', a4, a5⟩
        · exact Or.inl (Or.inr ⟨h1, h2, t', h3, h4, h⟩)
        · have es : u - p_w0 S t t' - p_w0 S e' e = u - p_w0 S e' e - p_w0 S t t' := by omega
          rw [es] at a5
          exact Or.inr ⟨a1, h2, a3, e', by omega, Or.inr ⟨h1, a2, t', h3, by omega, a5⟩⟩
    · rintro (h | ⟨a1, a2, a3, e', a4, a5⟩)
      · rcases h with h | ⟨h1, h2, t', h3, h4, h5⟩
        · exact Or.inl ((p_Q_snoc S len (k + 1) m t e u).mpr (Or.inl h))
        · exact Or.inr ⟨h1, h2, t', h3, h4, (p_Q_snoc S len (k + 1) (m - 1) t' e _).mpr (Or.inl h5)⟩
      · rcases a5 with h | ⟨h1, h2, t', h3, h4, h5⟩
        · exact Or.inl ((p_Q_snoc S len (k + 1) m t e u).mpr (Or.inr ⟨a1, a2, a3, e', a4, h⟩))
        · have es : u - p_w0 S e' e - p_w0 S t t' = u - p_w0 S t t' - p_w0 S e' e := by omega
          rw [es] at h5
          exact Or.inr ⟨h1, a2, t', h3, by omega, (p_Q_snoc S len (k + 1) (m - 1) t' e _).mpr (Or.inr ⟨a1, h2, a3, e', by omega, h5⟩)⟩
/-! the class: from behind, by how many are left out -/
def p_Lf (S : p_S) : Nat → Nat → Nat → Nat → Nat → Nat
  | 0, _, _, _, _ => 0
  | len + 1, out, k, a, b => if out = 0 then (if p_wr S k = true then 1000000 else p_sp S 0 (p_c S k) (p_Lf S len out (k + 1)) a b) else (if p_Lf S len (out - 1) (k + 1) a b < (if p_wr S k = true then 1000000 else p_sp S 0 (p_c S k) (p_Lf S len out (k + 1)) a b) then p_Lf S len (out - 1) (k + 1) a b else (if p_wr S k = true then 1000000 else p_sp S 0 (p_c S k) (p_Lf S len out (k + 1)) a b))
theorem p_Lf_le (S : p_S) : ∀ len out k a b, p_Lf S len out k a b ≤ 1000000
  | 0, _, _, _, _ => by rw [p_Lf]; omega
  | len + 1, out, k, a, b => by
    have e : (if p_wr S k = true then 1000000 else p_sp S 0 (p_c S k) (p_Lf S len out (k + 1)) a b) ≤ 1000000 := by
      split
      · omega
      · exact p_sp_le _ _ _ _ _ _
    have e2 := p_Lf_le S len (out - 1) (k + 1) a b
    rw [p_Lf]
    generalize (if p_wr S k = true then 1000000 else p_sp S 0 (p_c S k) (p_Lf S len out (k + 1)) a b) = z at e ⊢
    split
    · exact e
    · split
      · exact e2
      · exact e
theorem p_Lf_iff {S : p_S} (h8 : p_nd S ≤ 8) {u : Nat} : ∀ len out k a b u, u < 1000000 → a ≤ p_nd S → b ≤ p_nd S → (p_Lf S len out k a b ≤ u ↔ ∃ m e, len ≤ m + out ∧ p_Q S len k m (9 * a + b) e u)
  | 0, out, k, a, b, u, hu, ha, hb => by
    rw [p_Lf]
    constructor
    · intro _
      exact ⟨0, 9 * a + b, by omega, rfl, rfl⟩
    · intro _
      omega
  | len + 1, out, k, a, b, u, hu, ha, hb => by
    have hd1 : (9 * a + b) / 9 = a := by omega
    have hd2 : (9 * a + b) % 9 = b := by omega
    have base : (if p_wr S k = true then 1000000 else p_sp S 0 (p_c S k) (p_Lf S len out (k + 1)) a b) ≤ u ↔ ∃ m e, len ≤ m + out ∧ p_wr S k = false ∧ ∃ t', p_hs S (p_c S k) (t' / 9) (t' % 9) = true ∧ p_w0 S (9 * a + b) t' ≤ u ∧ p_Q S len (k + 1) m t' e (u - p_w0 S (9 * a + b) t') := by
      by_cases q : p_wr S k = true
      · rw [if_pos q]
        constructor
        · intro h; omega
        · rintro ⟨_, _, _, h, _⟩
          rw [q] at h; cases h
      · rw [if_neg q, p_sp_iff hu ha hb]
        have q := Bool.eq_false_iff.mpr q
        constructor
        · rintro ⟨a', b', ha', hb', hs, h⟩
          obtain ⟨m, e, h1, h2⟩ := (p_Lf_iff (u := u) h8 len out (k + 1) a' b' (u - (p_mv S 0 a a' + p_mv S 0 b b')) (by omega) ha' hb').mp (by omega)
          have ew : p_w0 S (9 * a + b) (9 * a' + b') = p_mv S 0 a a' + p_mv S 0 b b' := by
            unfold p_w0
            rw [hd1, hd2, show (9 * a' + b') / 9 = a' by omega, show (9 * a' + b') % 9 = b' by omega]
          refine ⟨m, e, h1, q, 9 * a' + b', ?_, by omega, by rw [ew]; exact h2⟩
          rw [show (9 * a' + b') / 9 = a' by omega, show (9 * a' + b') % 9 = b' by omega]
          exact p_hs_iff.mpr ⟨ha', hb', hs⟩
        · rintro ⟨m, e, h1, _, t', h2, h3, h4⟩
          have h2 := p_hs_iff.mp h2
          refine ⟨t' / 9, t' % 9, h2.1, h2.2.1, h2.2.2, ?_⟩
          have et : 9 * (t' / 9) + t' % 9 = t' := by omega
          have := (p_Lf_iff (u := u) h8 len out (k + 1) (t' / 9) (t' % 9) (u - p_w0 S (9 * a + b) t') (by omega) h2.1 h2.2.1).mpr ⟨m, e, h1, by rw [et]; exact h4⟩
          unfold p_w0 at this h3
          rw [hd1, hd2] at this h3
          omega
    rw [p_Lf]
    by_cases o0 : out = 0
    · rw [if_pos o0, base]
      constructor
      · rintro ⟨m, e, h1, h2, h3⟩
        exact ⟨m + 1, e, by omega, Or.inr ⟨h2, by omega, h3⟩⟩
      · rintro ⟨m, e, h1, h | ⟨h2, h3, h4⟩⟩
        · have := p_Q_le S _ _ _ _ _ _ h
          omega
        · exact ⟨m - 1, e, by omega, h2, h4⟩
    · rw [if_neg o0]
      have em : ∀ x y : Nat, (if y < x then y else x) ≤ u ↔ x ≤ u ∨ y ≤ u := by
        intro x y
        split <;> omega
      rw [em, base, p_Lf_iff (u := u) h8 len (out - 1) (k + 1) a b u hu ha hb]
      constructor
      · rintro (⟨m, e, h1, h2, h3⟩ | ⟨m, e, h1, h2⟩)
        · exact ⟨m + 1, e, by omega, Or.inr ⟨h2, by omega, h3⟩⟩
        · exact ⟨m, e, by omega, Or.inl h2⟩
      · rintro ⟨m, e, h1, h | ⟨h2, h3, h4⟩⟩
        · exact Or.inr ⟨m, e, by omega, h⟩
        · exact Or.inl ⟨m - 1, e, by omega, h2, h4⟩
/-- the least number left out -/
def p_lo (S : p_S) (v : Nat) : Nat → Nat → Nat
  | 0, _ => p_nb S
  | len + 1, out => if p_Lf S (p_nb S) out 0 (p_l S) (p_r S) ≤ v then out else p_lo S v len (out + 1)
section LEAVEX
variable {B : q_St} {S : p_S} {v : Nat}
theorem q67_lo_2 (Z : q_St) (a1 : Int32) {row : Nat} (hr : row < 12) : ∀ (len n i : Nat) (Y : q_St), i + len = 81 → len < n → p_wp (f_X4_leaveOut_2 Z a1 n (nI row) (nI i) Y) (fun Y' => Y'.1 = Y.1 ∧ (∀ j, j ≠ 0 → Y'.2 j = Y.2 j) ∧ ∀ j, Y'.2 0 j = if row * 81 + i ≤ j ∧ j < (row + 1) * 81 then (if Y.2 1 (j + 81) < Y.2 0 j then Y.2 1 (j + 81) else Y.2 0 j) else Y.2 0 j) := by
  intro len
  induction len with
  | zero =>
    intro n i Y hi hn
    obtain ⟨n, rfl⟩ := p_suc (show 0 < n by omega)
    rw [f_X4_leaveOut_2, if_pos (show (81 : Int32) ≤ nI i from nI_le (a := 81) (by omega) (by omega)), p_wp_some]
    exact ⟨rfl, fun _ _ => rfl, fun j => by rw [if_neg (by omega)]⟩
  | succ len ih =>
    intro n i Y hi hn
    obtain ⟨n, rfl⟩ := p_suc (show 0 < n by omega)
    rw [f_X4_leaveOut_2, if_neg (show ¬ (81 : Int32) ≤ nI i from nI_ge (b := 81) (by omega) (by omega)), show nI row * (81 : Int32) + nI i = nI (row * 81 + i) by rw [p_L81, p_mul, p_add], show nI (row * 81 + i) + (81 : Int32) = nI (row * 81 + i + 81) from p_add _ 81, p_ix (show row * 81 + i + 81 < 1053 by omega) (by omega), p_ix (show row * 81 + i < 1053 by omega) (by omega), p_ix (show row * 81 + i < 1053 by omega) (by omega), p_cl (by omega), p_cl (by omega), show nI i + 1 = nI (i + 1) from nI_1 i]
    refine p_wp_mono (ih n (i + 1) _ (by omega) (by omega)) ?_
    rintro Y' ⟨h1, h2, h3⟩
    refine ⟨h1, fun j hj => (h2 j hj).trans (if_neg hj), fun j => ?_⟩
    rw [h3 j]
    show (if row * 81 + (i + 1) ≤ j ∧ j < (row + 1) * 81 then (if Y.2 1 (j + 81) < upd (Y.2 0) (row * 81 + i) _ j then Y.2 1 (j + 81) else upd (Y.2 0) (row * 81 + i) _ j) else upd (Y.2 0) (row * 81 + i) _ j) = _
    by_cases e : j = row * 81 + i
    · rw [if_neg (show ¬ (row * 81 + (i + 1) ≤ j ∧ j < (row + 1) * 81) by omega), if_pos (show row * 81 + i ≤ j ∧ j < (row + 1) * 81 by omega), e, pk_us]
    · rw [pk_un e]
      by_cases q : row * 81 + (i + 1) ≤ j ∧ j < (row + 1) * 81
      · rw [if_pos q, if_pos (show row * 81 + i ≤ j ∧ j < (row + 1) * 81 by omega)]
      · rw [if_neg q, if_neg (show ¬ (row * 81 + i ≤ j ∧ j < (row + 1) * 81) by omega)]
/-- prices, and the row behind the last beat -/
def p_Y0 (S : p_S) (Y : q_St) : Prop := (∀ a, a ≤ p_nd S → Y.2 3 a = nI (p_pr S a 0)) ∧ ∀ j, j < 81 → Y.2 0 (p_nb S * 81 + j) = 0
/-- the table of one left out fewer -/
def p_Y1 (S : p_S) (out : Nat) (Y : q_St) : Prop := out = 0 ∨ ∀ k a b, k ≤ p_nb S → a ≤ p_nd S → b ≤ p_nd S → Y.2 1 (k * 81 + p_hd a b) = nI (p_Lf S (p_nb S - k) (out - 1) k a b)
theorem q67_24 (h : p_RB B S) (g : p_Good S) (Z : q_St) (z1 : Int32) {out : Nat} (ho : out < 20) (hv : v < 1000000) {P : Int32 × q_St → Prop} (r8 : Int32 → Int32 → q_St → Option (Int32 × q_St)) (hA : p_Lf S (p_nb S) out 0 (p_l S) (p_r S) ≤ v → ∀ Y, P (nI out, Y)) (hK : ¬ p_Lf S (p_nb S) out 0 (p_l S) (p_r S) ≤ v → ∀ Y, p_Y0 S Y → p_Y1 S (out + 1) Y → p_wp (r8 (nI v) (nI (out + 1)) Y) P) : ∀ (k n : Nat) (Y : q_St), k ≤ p_nb S → k < n → p_Y0 S Y → p_Y1 S out Y → (∀ k' a b, k ≤ k' → k' ≤ p_nb S → a ≤ p_nd S → b ≤ p_nd S → Y.2 0 (k' * 81 + p_hd a b) = nI (p_Lf S (p_nb S - k') out k' a b)) → p_wp (f_X4_fewestLeftOut_24 Z B z1 r8 n (nI v) (nI out) (p_hc k) Y) P := by
  have h8 := g.1
  have h12 := g.2.1
  have hl := g.2.2.1
  have hr := g.2.2.2.1
  intro k
  induction k with
  | zero =>
    intro n Y hk hn j0 j1 jt
    obtain ⟨n, rfl⟩ := p_suc (show 0 < n by omega)
    have ll := p_Lf_le S (p_nb S) out 0 (p_l S) (p_r S)
    have e : f_X4_worthFrom Y (0 : Int32) (p_hc (p_l S)) (p_hc (p_r S)) = some (nI (p_Lf S (p_nb S) out 0 (p_l S) (p_r S))) := by
      have e1 := q4_from Y (k := 0) (a := p_l S) (b := p_r S) (by omega) (by omega) (by omega)
      have e2 := jt 0 _ _ (by omega) (by omega) hl hr
      rw [e2, Nat.sub_zero] at e1
      exact e1
    rw [f_X4_fewestLeftOut_24, if_pos (show p_hc 0 < 0 by decide), h.2.2.1, h.2.2.2.1, e, p_bind]
    by_cases q : p_Lf S (p_nb S) out 0 (p_l S) (p_r S) ≤ v
    · rw [if_neg (nI_nlt q (by omega)), p_wp_some]
      exact hA q Y
    · have cg : ∀ A : Option (Int32 × q_St), q_cg (0 : Int32) (0 : Int32) (1053 : Int32) 1053 1053 A = A := fun A => q7_cg 1053 1053 A (by decide)
      rw [if_pos (nI_lt (by omega) (by omega)), cg, nI_1]
      refine hK q _ ⟨j0.1, j0.2⟩ (Or.inr fun k' a b hk' ha hb => ?_)
      have hd := p_hd_lt (a := a) (b := b) (by omega) (by omega)
      show va_cpy (Y.2 0) (Y.2 1) (0 : Int32).toNatClampNeg (0 : Int32).toNatClampNeg 1053 (k' * 81 + p_hd a b) = _
      rw [q7_cpy (by omega), Nat.add_sub_cancel]
      exact jt k' a b (by omega) hk' ha hb
  | succ k ih =>
    intro n Y hk hn j0 j1 jt
    obtain ⟨n, rfl⟩ := p_suc (show 0 < n by omega)
    have hkb : k < p_nb S := by omega
    have el : p_nb S - k = (p_nb S - (k + 1)) + 1 := by omega
    have nx : ∀ a b, p_Lf S (p_nb S - (k + 1)) out (k + 1) a b ≤ 1000000 := fun a b => p_Lf_le _ _ _ _ _ _
    -- the row before leaving out
    have mid : ∀ Y', (∀ i, i ≠ 0 → i ≠ 2 → Y'.2 i = Y.2 i) → (∀ j, j < k * 81 ∨ (k + 1) * 81 ≤ j → Y'.2 0 j = Y.2 0 j) → (∀ a b, a ≤ p_nd S → b ≤ p_nd S → Y'.2 0 (k * 81 + p_hd a b) = nI (if p_wr S k = true then 1000000 else p_sp S 0 (p_c S k) (p_Lf S (p_nb S - (k + 1)) out (k + 1)) a b)) → p_wp (if nI out ≤ 0 then f_X4_fewestLeftOut_24 Z B z1 r8 n (nI v) (nI out) (p_hc k) Y' else Option.bind (f_X4_leaveOut Y' (nI k)) (fun u => f_X4_fewestLeftOut_24 Z B z1 r8 n (nI v) (nI out) (p_hc k) u)) P := by
      intro Y' f1 f2 f3
      by_cases o0 : out = 0
      · rw [if_pos (show nI out ≤ 0 by rw [o0]; decide)]
        refine ih n Y' (by omega) (by omega) ⟨fun a ha => by rw [f1 3 (by decide) (by decide)]; exact j0.1 a ha, fun j hj => by rw [f2 _ (by omega)]; exact j0.2 j hj⟩ (Or.inl o0) (fun k' a b h1 h2 ha hb => ?_)
        by_cases e : k' = k
        · subst e
          rw [f3 a b ha hb, el, p_Lf, if_pos o0]
        · rw [f2 _ (by omega)]
          exact jt k' a b (by omega) h2 ha hb
      · rw [if_neg (nI_nle (by omega) (by omega))]
        have lo := q67_lo_2 Y' (nI k) (row := k) (by omega) 81 q_N 0 Y' (by omega) (by rw [q_N_eq]; omega)
        have lo : p_wp (f_X4_leaveOut Y' (nI k)) _ := lo
        refine p_wp_seq lo ?_
        rintro Y'' ⟨l1, l2, l3⟩
        have o1 := j1.resolve_left o0
        refine ih n Y'' (by omega) (by omega) ⟨fun a ha => by rw [l2 3 (by decide), f1 3 (by decide) (by decide)]; exact j0.1 a ha, fun j hj => by rw [l3, if_neg (by omega), f2 _ (by omega)]; exact j0.2 j hj⟩ (Or.inr fun k' a b h1 ha hb => by rw [l2 1 (by decide), f1 1 (by decide) (by decide)]; exact o1 k' a b h1 ha hb) (fun k' a b h1 h2 ha hb => ?_)
        have hd := p_hd_lt (a := a) (b := b) (by omega) (by omega)
        by_cases e : k' = k
        · subst e
          have w1 : Y'.2 1 (k' * 81 + p_hd a b + 81) = nI (p_Lf S (p_nb S - (k' + 1)) (out - 1) (k' + 1) a b) := by
            rw [f1 1 (by decide) (by decide), show k' * 81 + p_hd a b + 81 = (k' + 1) * 81 + p_hd a b by omega]
            exact o1 (k' + 1) a b (by omega) ha hb
          have b1 := p_Lf_le S (p_nb S - (k' + 1)) (out - 1) (k' + 1) a b
          have b2 : (if p_wr S k' = true then 1000000 else p_sp S 0 (p_c S k') (p_Lf S (p_nb S - (k' + 1)) out (k' + 1)) a b) ≤ 1000000 := by
            split
            · omega
            · exact p_sp_le _ _ _ _ _ _
          rw [l3, if_pos (by omega), w1, f3 a b ha hb, p_ifI (by omega) (by omega), el, p_Lf, if_neg o0]
        · rw [l3, if_neg (by omega), f2 _ (by omega)]
          exact jt k' a b (by omega) h2 ha hb
    rw [f_X4_fewestLeftOut_24, if_neg (show ¬ p_hc (k + 1) < 0 from nI_pos (by omega)), p_hcs, bX_isWrong h g hkb, p_bind, p_bif, show nI k + (-1) = p_hc k from p_hc_dn k (by omega)]
    cases hw : p_wr S k with
    | true =>
      rw [if_pos rfl]
      refine p_wp_seq (q4_fill Y (1000000 : Int32) (row := k) (by omega)) ?_
      rintro Y' ⟨f1, f2, f3⟩
      refine mid Y' (fun i h0 _ => f2 i h0) (fun j hj => by rw [f3, if_neg (by omega)]) (fun a b ha hb => ?_)
      have hd := p_hd_lt (a := a) (b := b) (by omega) (by omega)
      rw [f3, if_pos (by omega), hw]
      rfl
    | false =>
      rw [if_neg (by decide)]
      refine p_wp_seq (q3_step (w := 0) (c := p_c S k) (nx := p_Lf S (p_nb S - (k + 1)) out (k + 1)) h g hkb rfl (fun a b _ _ => nx a b) (fun a b ha hb => jt (k + 1) a b (by omega) hk ha hb) j0.1) ?_
      rintro Y' ⟨_, f2, _, f4, f5⟩
      refine mid Y' f2 f4 (fun a b ha hb => ?_)
      rw [f5 a b ha (by omega), hw]
      rfl
theorem q67_8 (h : p_RB B S) (g : p_Good S) (Z : q_St) (z1 : Int32) (hv : v < 1000000) : ∀ (len n out : Nat) (Y : q_St), out + len = p_nb S → len < n → p_Y0 S Y → p_Y1 S out Y → p_wp (f_X4_fewestLeftOut_8 Z B z1 n (nI v) (nI out) Y) (fun q => q.1 = nI (p_lo S v len out)) := by
  have h12 := g.2.1
  intro len
  induction len with
  | zero =>
    intro n out Y hi hn j0 j1
    obtain ⟨n, rfl⟩ := p_suc (show 0 < n by omega)
    rw [f_X4_fewestLeftOut_8, h.2.1, if_pos (nI_le (by omega) (by omega)), p_wp_some]
    rfl
  | succ len ih =>
    intro n out Y hi hn j0 j1
    obtain ⟨n, rfl⟩ := p_suc (show 0 < n by omega)
    rw [f_X4_fewestLeftOut_8, h.2.1, if_neg (nI_ge (by omega) (by omega)), p_hc_m _ (by omega), p_lo]
    refine q67_24 h g Z z1 (show out < 20 by omega) hv _ (fun q Y' => ?_) (fun q Y' i0 i1 => ?_) (p_nb S) q_N Y (Nat.le_refl _) (by rw [q_N_eq]; omega) j0 j1 (fun k' a b h1 h2 ha hb => ?_)
    · rw [if_pos q]
    · rw [if_neg q]
      exact ih n (out + 1) Y' (by omega) (by omega) i0 i1
    · have : k' = p_nb S := by omega
      subst this
      have h8 := g.1
      rw [j0.2 _ (p_hd_lt (by omega) (by omega)), Nat.sub_self]
      rfl
theorem q67_X (h : p_RB B S) (g : p_Good S) (hv : v < 1000000) (Y : q_St) : p_wp (f_X4_fewestLeftOut Y B (nI v)) (fun q => q.1 = nI (p_lo S v (p_nb S) 0)) := by
  have h12 := g.2.1
  unfold f_X4_fewestLeftOut
  refine p_wp_seq (q4_begin h g (w := 0) (by decide) Y) ?_
  rintro Y' ⟨-, -, h3, h4⟩
  exact q67_8 h g Y (nI v) hv (p_nb S) q_N 0 Y' (by omega) (by rw [q_N_eq]; omega) ⟨h3, h4⟩ (Or.inl rfl)
end LEAVEX
