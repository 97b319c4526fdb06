/-! the class's tables: one step back -/
theorem p_placeX : ∀ a, a < 9 → ∀ b, b < 9 → f_X4_place (p_hc a) (p_hc b) = some (nI (p_hd a b)) := by decide +kernel
theorem p_shrX : ∀ R, R < 512 → ∀ i, i < 9 → ((((nI R) >>> ((nI i) &&& 31)) &&& (1 : Int32)) = 0 ↔ R.testBit i = false) := by decide +kernel
theorem p_hc_end {n i : Nat} (hn : n < 2 ^ 31) (hi : i < 2 ^ 31) : nI n ≤ p_hc i ↔ n + 1 ≤ i := by
  cases i with
  | zero =>
    rw [fa_le, nI_toInt hn, show (p_hc 0).toInt = -1 from by decide]
    omega
  | succ d =>
    rw [p_hcs, nI_leI hn (by omega)]
    omega
theorem p_ifI {a b : Nat} (ha : a < 2 ^ 31) (hb : b < 2 ^ 31) : (if nI a < nI b then nI a else nI b) = nI (if a < b then a else b) := by
  by_cases h : a < b
  · rw [if_pos (nI_lt h hb), if_pos h]
  · rw [if_neg (nI_nlt (by omega) ha), if_neg h]
theorem p_hd_lt {a b : Nat} (ha : a < 9) (hb : b < 9) : p_hd a b < 81 := by unfold p_hd; omega
theorem p_hd_ne {a b c d : Nat} (hb : b < 9) (hd : d < 9) (h : a ≠ c ∨ b ≠ d) : p_hd a b ≠ p_hd c d := by unfold p_hd; omega
/-- what one hand's half says -/
abbrev p_hh (S : p_S) (w c : Nat) (nx : Nat → Nat → Nat) (a b : Nat) : Nat := p_kt S w (fun b => p_hf S c nx a b) b
def p_J1 (S : p_S) (w c : Nat) (nx : Nat → Nat → Nat) (Y : q_St) (a : Nat) (Y' : q_St) : Prop := Y'.1 = Y.1 ∧ (∀ i, i ≠ 0 → i ≠ 2 → Y'.2 i = Y.2 i) ∧ Y'.2 0 = Y.2 0 ∧ ∀ a' b, a' < a → b ≤ p_nd S → Y'.2 2 (p_hd a' b) = nI (p_hh S w c nx a' b)
theorem p_J1_set {S : p_S} {w c : Nat} {nx : Nat → Nat → Nat} {Y Y' : q_St} {a : Nat} (h8 : p_nd S ≤ 8) (j : p_J1 S w c nx Y a Y') {i : Nat} (hi : i < 9) (x : Int32) : p_J1 S w c nx Y a (Y'.1, va_up Y'.2 2 (upd (Y'.2 2) (p_hd a i) x)) := by
  refine ⟨j.1, fun i h0 h2 => ?_, j.2.2.1, fun a' b ha hb => ?_⟩
  · show va_up Y'.2 2 _ i = _
    unfold va_up
    rw [if_neg h2]
    exact j.2.1 i h0 h2
  · show upd (Y'.2 2) (p_hd a i) x (p_hd a' b) = _
    rw [pk_un (p_hd_ne (by omega) hi (Or.inl (by omega)))]
    exact j.2.2.2 a' b ha hb
section STEP
variable {B : q_St} {S : p_S} {w c : Nat} {nx : Nat → Nat → Nat} {Y : q_St} {P : q_St → Prop}
theorem q3_129 (h : p_RB B S) (g : p_Good S) (Z : q_St) (a2 x2 x3 x4 : Int32) {r14 : Int32 → Int32 → Int32 → Int32 → q_St → Option q_St} {a : Nat} (ha : a ≤ p_nd S) (hx : ∀ b, b ≤ p_nd S → nx a b ≤ 1000000) (hK : ∀ Y', p_J1 S w c nx Y (a + 1) Y' → p_wp (r14 x2 x3 x4 (nI a) Y') P) : ∀ (len m i : Nat) (Y' : q_St), i + len = p_nd S + 1 → len < m → p_J1 S w c nx Y a Y' → (∀ b, b < i → Y'.2 2 (p_hd a b) = nI (p_hh S w c nx a b)) → (∀ b, i ≤ b → b ≤ p_nd S → Y'.2 2 (p_hd a b) = nI (p_hf S c nx a b)) → p_wp (f_X4_stepBack_129 Z B a2 r14 m x2 x3 x4 (p_hc a) (nI (p_ch S w (fun b => p_hf S c nx a b))) (p_hc i) Y') P := by
  have h8 := g.1
  intro len
  induction len with
  | zero =>
    intro n i Y' hi hn j1 j2 j3
    obtain ⟨m, rfl⟩ := p_suc (show 0 < n by omega)
    rw [f_X4_stepBack_129, h.1, if_pos ((p_hc_end (by omega) (by omega)).mpr (by omega)), p_hc_up a (by omega)]
    refine hK Y' ⟨j1.1, j1.2.1, j1.2.2.1, fun a' b h1 h2 => ?_⟩
    by_cases e : a' = a
    · subst e
      exact j2 b (by omega)
    · exact j1.2.2.2 a' b (by omega) h2
  | succ len ih =>
    intro n i Y' hi hn j1 j2 j3
    obtain ⟨m, rfl⟩ := p_suc (show 0 < n by omega)
    have hd := p_hd_lt (a := a) (b := i) (by omega) (by omega)
    have l1 := p_ch_le S w (fun b => p_hf S c nx a b)
    have l2 := p_hf_le (S := S) (c := c) (hx i (by omega))
    rw [f_X4_stepBack_129, h.1, if_neg (fun z => absurd ((p_hc_end (by omega) (by omega)).mp z) (by omega)), p_placeX a (by omega) i (by omega), p_bind, p_ix hd (by omega), p_ix hd (by omega), p_cl (by omega), j3 i (by omega) (by omega), p_ifI (by omega) (by omega), p_hc_up i (by omega)]
    refine ih m (i + 1) _ (by omega) (by omega) (p_J1_set h8 j1 (by omega) _) (fun b hb => ?_) (fun b h1 h2 => ?_)
    · show upd (Y'.2 2) (p_hd a i) _ (p_hd a b) = _
      by_cases e : b = i
      · subst e
        rw [pk_us]
        rfl
      · rw [pk_un (p_hd_ne (by omega) (by omega) (Or.inr e))]
        exact j2 b (by omega)
    · show upd (Y'.2 2) (p_hd a i) _ (p_hd a b) = _
      rw [pk_un (p_hd_ne (by omega) (by omega) (Or.inr (by omega)))]
      exact j3 b (by omega) h2
theorem q3_86 (Z : q_St) (a2 x2 x3 x4 x5 x6 : Int32) (r14 : Int32 → Int32 → Int32 → Int32 → q_St → Option q_St) (r39 : Int32 → Int32 → Int32 → Int32 → Int32 → Int32 → Int32 → q_St → Option q_St) {a i acc v pr : Nat} {Y' : q_St} (ha : a < 9) (hi : i < 9) (hv : v ≤ 1000000) (hacc : acc ≤ 1000000) (hpr : pr ≤ 100) (h3 : Y'.2 3 i = nI pr) : f_X4_stepBack_86 Z B a2 r14 r39 x2 x3 x4 x5 x6 (nI acc) (p_hc i) (nI (p_hd a i)) (nI v) Y' = r39 x2 x3 x4 x5 x6 (nI (if v + pr < acc then v + pr else acc)) (nI i) (Y'.1, va_up Y'.2 2 (upd (Y'.2 2) (p_hd a i) (nI v))) := by
  have hd := p_hd_lt ha hi
  unfold f_X4_stepBack_86
  rw [p_ix hd (by omega), p_hc_up i hi, p_ix hi (by omega), p_cl (by omega), p_cl (by omega), h3, p_add, p_ifI (by omega) (by omega)]
theorem q3_39 (h : p_RB B S) (g : p_Good S) (Z : q_St) (a2 x2 x3 : Int32) {r14 : Int32 → Int32 → Int32 → Int32 → q_St → Option q_St} {k a : Nat} (hk : k < 12) (ha : a ≤ p_nd S) (hc : p_rc S c a < 512) (hx : ∀ b, b ≤ p_nd S → nx a b ≤ 1000000) (hT : ∀ b, b ≤ p_nd S → Y.2 0 ((k + 1) * 81 + p_hd a b) = nI (nx a b)) (hp : ∀ b, b ≤ p_nd S → Y.2 3 b = nI (p_pr S b w)) (hK : ∀ Y', p_J1 S w c nx Y (a + 1) Y' → p_wp (r14 x2 x3 (nI ((k + 1) * 81)) (nI a) Y') P) : ∀ (len m i acc : Nat) (Y' : q_St), i + len = p_nd S + 1 → len < m → acc ≤ 1000000 → p_mn (fun b => p_hf S c nx a b + p_pr S b w) len i acc = p_ch S w (fun b => p_hf S c nx a b) → p_J1 S w c nx Y a Y' → (∀ b, b < i → Y'.2 2 (p_hd a b) = nI (p_hf S c nx a b)) → p_wp (f_X4_stepBack_39 Z B a2 r14 m x2 x3 (nI ((k + 1) * 81)) (p_hc a) (nI (p_rc S c a)) (nI acc) (p_hc i) Y') P := by
  have h8 := g.1
  intro len
  induction len with
  | zero =>
    intro n i acc Y' hi hn hacc hm j1 j2
    obtain ⟨m, rfl⟩ := p_suc (show 0 < n by omega)
    have hm : acc = p_ch S w (fun b => p_hf S c nx a b) := hm
    rw [f_X4_stepBack_39, h.1, if_pos ((p_hc_end (by omega) (by omega)).mpr (by omega)), hm]
    exact q3_129 h g Z a2 x2 x3 _ ha hx hK (p_nd S + 1) q_N 0 Y' (by omega) (by rw [q_N_eq]; omega) j1 (fun b hb => absurd hb (by omega)) (fun b _ hb => j2 b (by omega))
  | succ len ih =>
    intro n i acc Y' hi hn hacc hm j1 j2
    obtain ⟨m, rfl⟩ := p_suc (show 0 < n by omega)
    have hd := p_hd_lt (a := a) (b := i) (by omega) (by omega)
    have l2 := p_hf_le (S := S) (c := c) (hx i (by omega))
    have l3 := p_pr_le g (a := i) (w := w) (by omega)
    have h3 : Y'.2 3 i = nI (p_pr S i w) := by rw [j1.2.1 3 (by decide) (by decide)]; exact hp i (by omega)
    rw [f_X4_stepBack_39, h.1, if_neg (fun z => absurd ((p_hc_end (by omega) (by omega)).mp z) (by omega)), p_placeX a (by omega) i (by omega), p_bind, p_hc_up i (by omega)]
    have fin : p_wp (f_X4_stepBack_39 Z B a2 r14 m x2 x3 (nI ((k + 1) * 81)) (p_hc a) (nI (p_rc S c a)) (nI (if p_hf S c nx a i + p_pr S i w < acc then p_hf S c nx a i + p_pr S i w else acc)) (nI i) (Y'.1, va_up Y'.2 2 (upd (Y'.2 2) (p_hd a i) (nI (p_hf S c nx a i))))) P := by
      refine ih m (i + 1) _ _ (by omega) (by omega) (by split <;> omega) hm (p_J1_set h8 j1 (by omega) _) (fun b hb => ?_)
      show upd (Y'.2 2) (p_hd a i) _ (p_hd a b) = _
      by_cases e : b = i
      · subst e
        rw [pk_us]
      · rw [pk_un (p_hd_ne (by omega) (by omega) (Or.inr e))]
        exact j2 b (by omega)
    cases hb : (p_rc S c a).testBit i with
    | false =>
      have hv : p_hf S c nx a i = 1000000 := by
        unfold p_hf p_st
        rw [hb]; rfl
      rw [if_pos ((p_shrX _ hc i (by omega)).mpr hb), p_LM, q3_86 Z a2 x2 x3 _ _ _ r14 _ (by omega) (by omega) (by omega) hacc (by omega) h3, ← hv]
      exact fin
    | true =>
      have hv : p_hf S c nx a i = nx a i := by
        unfold p_hf p_st
        rw [hb]; rfl
      rw [if_neg (fun z => by rw [(p_shrX _ hc i (by omega)).mp z] at hb; cases hb), p_add, p_ix (by omega) (by omega), p_cl (by omega), j1.2.2.1, hT i (by omega), ← hv, q3_86 Z a2 x2 x3 _ _ _ r14 _ (by omega) (by omega) l2 hacc (by omega) h3]
      exact fin
theorem q3_14 (h : p_RB B S) (g : p_Good S) (Z : q_St) (a2 : Int32) {k : Nat} (hk : k < p_nb S) (hc : c = p_c S k) (hx : ∀ a b, a ≤ p_nd S → b ≤ p_nd S → nx a b ≤ 1000000) (hT : ∀ a b, a ≤ p_nd S → b ≤ p_nd S → Y.2 0 ((k + 1) * 81 + p_hd a b) = nI (nx a b)) (hp : ∀ b, b ≤ p_nd S → Y.2 3 b = nI (p_pr S b w)) (hK : ∀ Y', p_J1 S w c nx Y (p_nd S + 1) Y' → p_wp (f_X4_stepBack_185 Z B a2 q_N (nI (k * 81)) (-1 : Int32) Y') P) : ∀ (len m a : Nat) (Y' : q_St), a + len = p_nd S + 1 → len < m → p_J1 S w c nx Y a Y' → p_wp (f_X4_stepBack_14 Z B a2 m (nI k) (nI (k * 81)) (nI ((k + 1) * 81)) (p_hc a) Y') P := by
  have h8 := g.1
  have hk2 := g.2.1
  intro len
  induction len with
  | zero =>
    intro n a Y' hi hn j1
    obtain ⟨m, rfl⟩ := p_suc (show 0 < n by omega)
    rw [f_X4_stepBack_14, h.1, if_pos ((p_hc_end (by omega) (by omega)).mpr (by omega))]
    have : a = p_nd S + 1 := by omega
    subst this
    exact hK Y' j1
  | succ len ih =>
    intro n a Y' hi hn j1
    obtain ⟨m, rfl⟩ := p_suc (show 0 < n by omega)
    have hl := p_ri_lt g hk (a := a) (by omega)
    rw [p_ri_rc, ← hc] at hl
    rw [f_X4_stepBack_14, h.1, if_neg (fun z => absurd ((p_hc_end (by omega) (by omega)).mp z) (by omega)), bX_rightsBeside h g hk (by omega), p_bind, p_ri_rc, ← hc]
    exact q3_39 h g Z a2 _ _ (by omega) (by omega) hl (fun b hb => hx a b (by omega) hb) (fun b hb => hT a b (by omega) hb) hp (fun Y'' j => ih m (a + 1) Y'' (by omega) (by omega) j) (p_nd S + 1) q_N 0 1000000 Y' (by omega) (by rw [q_N_eq]; omega) (by omega) rfl j1 (fun b hb => absurd hb (by omega))
/-! the second half of the step -/
def p_J2 (S : p_S) (w c : Nat) (nx : Nat → Nat → Nat) (Y : q_St) (k r : Nat) (Y' : q_St) : Prop := Y'.1 = Y.1 ∧ (∀ i, i ≠ 0 → i ≠ 2 → Y'.2 i = Y.2 i) ∧ (∀ a b, a ≤ p_nd S → b ≤ p_nd S → Y'.2 2 (p_hd a b) = nI (p_hh S w c nx a b)) ∧ (∀ j, j < k * 81 ∨ (k + 1) * 81 ≤ j → Y'.2 0 j = Y.2 0 j) ∧ ∀ l r', l ≤ p_nd S → r' < r → Y'.2 0 (k * 81 + p_hd l r') = nI (p_sp S w c nx l r')
theorem q3_256 (h : p_RB B S) (g : p_Good S) (Z : q_St) (a2 : Int32) {r185 : Int32 → Int32 → q_St → Option q_St} {k r : Nat} (hk : k < 12) (hr : r ≤ p_nd S) (hK : ∀ Y', p_J2 S w c nx Y k (r + 1) Y' → p_wp (r185 (nI (k * 81)) (nI r) Y') P) : ∀ (len m i : Nat) (Y' : q_St), i + len = p_nd S + 1 → len < m → p_J2 S w c nx Y k r Y' → (∀ l, l < i → Y'.2 0 (k * 81 + p_hd l r) = nI (p_sp S w c nx l r)) → p_wp (f_X4_stepBack_256 Z B a2 r185 m (nI (k * 81)) (p_hc r) (nI (p_ch S w (fun a => p_hh S w c nx a r))) (p_hc i) Y') P := by
  have h8 := g.1
  intro len
  induction len with
  | zero =>
    intro n i Y' hi hn j1 j2
    obtain ⟨m, rfl⟩ := p_suc (show 0 < n by omega)
    rw [f_X4_stepBack_256, h.1, if_pos ((p_hc_end (by omega) (by omega)).mpr (by omega)), p_hc_up r (by omega)]
    refine hK Y' ⟨j1.1, j1.2.1, j1.2.2.1, j1.2.2.2.1, fun l r' h1 h2 => ?_⟩
    by_cases e : r' = r
    · subst e
      exact j2 l (by omega)
    · exact j1.2.2.2.2 l r' h1 (by omega)
  | succ len ih =>
    intro n i Y' hi hn j1 j2
    obtain ⟨m, rfl⟩ := p_suc (show 0 < n by omega)
    have hd := p_hd_lt (a := i) (b := r) (by omega) (by omega)
    have l1 := p_ch_le S w (fun a => p_hh S w c nx a r)
    have l2 : p_hh S w c nx i r ≤ 1000000 := p_kt_le _ _ _ _
    rw [f_X4_stepBack_256, h.1, if_neg (fun z => absurd ((p_hc_end (by omega) (by omega)).mp z) (by omega)), p_placeX i (by omega) r (by omega), p_bind, p_ix hd (by omega), p_add, p_ix (by omega) (by omega), p_cl (by omega), p_cl (by omega), j1.2.2.1 i r (by omega) hr, p_ifI (by omega) (by omega), p_hc_up i (by omega)]
    refine ih m (i + 1) _ (by omega) (by omega) ⟨j1.1, fun i h0 h2 => ?_, j1.2.2.1, fun j hj => ?_, fun l r' h1 h2 => ?_⟩ (fun l hl => ?_)
    · show va_up Y'.2 0 _ i = _
      unfold va_up
      rw [if_neg h0]
      exact j1.2.1 i h0 h2
    · show upd (Y'.2 0) (k * 81 + p_hd i r) _ j = _
      rw [pk_un (by omega)]
      exact j1.2.2.2.1 j hj
    · show upd (Y'.2 0) (k * 81 + p_hd i r) _ (k * 81 + p_hd l r') = _
      have := p_hd_ne (a := l) (c := i) (b := r') (d := r) (by omega) (by omega) (Or.inr (by omega))
      rw [pk_un (by omega)]
      exact j1.2.2.2.2 l r' h1 h2
    · show upd (Y'.2 0) (k * 81 + p_hd i r) _ (k * 81 + p_hd l r) = _
      by_cases e : l = i
      · subst e
        rw [pk_us]
        rfl
      · have := p_hd_ne (a := l) (c := i) (b := r) (d := r) (by omega) (by omega) (Or.inl e)
        rw [pk_un (by omega)]
        exact j2 l (by omega)
theorem q3_201 (h : p_RB B S) (g : p_Good S) (Z : q_St) (a2 : Int32) {r185 : Int32 → Int32 → q_St → Option q_St} {k r : Nat} (hk : k < 12) (hr : r ≤ p_nd S) (hp : ∀ b, b ≤ p_nd S → Y.2 3 b = nI (p_pr S b w)) (hK : ∀ Y', p_J2 S w c nx Y k (r + 1) Y' → p_wp (r185 (nI (k * 81)) (nI r) Y') P) (Y' : q_St) (j1 : p_J2 S w c nx Y k r Y') : ∀ (len m i acc : Nat), i + len = p_nd S + 1 → len < m → acc ≤ 1000000 → p_mn (fun a => p_hh S w c nx a r + p_pr S a w) len i acc = p_ch S w (fun a => p_hh S w c nx a r) → p_wp (f_X4_stepBack_201 Z B a2 r185 m (nI (k * 81)) (p_hc r) (nI acc) (p_hc i) Y') P := by
  have h8 := g.1
  intro len
  induction len with
  | zero =>
    intro n i acc hi hn hacc hm
    obtain ⟨m, rfl⟩ := p_suc (show 0 < n by omega)
    have hm : acc = p_ch S w (fun a => p_hh S w c nx a r) := hm
    rw [f_X4_stepBack_201, h.1, if_pos ((p_hc_end (by omega) (by omega)).mpr (by omega)), hm]
    exact q3_256 h g Z a2 hk hr hK (p_nd S + 1) q_N 0 Y' (by omega) (by rw [q_N_eq]; omega) j1 (fun b hb => absurd hb (by omega))
  | succ len ih =>
    intro n i acc hi hn hacc hm
    obtain ⟨m, rfl⟩ := p_suc (show 0 < n by omega)
    have hd := p_hd_lt (a := i) (b := r) (by omega) (by omega)
    have l2 : p_hh S w c nx i r ≤ 1000000 := p_kt_le _ _ _ _
    have l3 := p_pr_le g (a := i) (w := w) (by omega)
    have h3 : Y'.2 3 i = nI (p_pr S i w) := by rw [j1.2.1 3 (by decide) (by decide)]; exact hp i (by omega)
    rw [f_X4_stepBack_201, h.1, if_neg (fun z => absurd ((p_hc_end (by omega) (by omega)).mp z) (by omega)), p_placeX i (by omega) r (by omega), p_bind, p_hc_up i (by omega), p_ix hd (by omega), p_ix (show i < 9 by omega) (by omega), p_cl (by omega), p_cl (by omega), j1.2.2.1 i r (by omega) hr, h3, p_add, p_ifI (by omega) (by omega)]
    exact ih m (i + 1) _ (by omega) (by omega) (by split <;> omega) hm
theorem q3_185 (h : p_RB B S) (g : p_Good S) (Z : q_St) (a2 : Int32) {k : Nat} (hk : k < 12) (hp : ∀ b, b ≤ p_nd S → Y.2 3 b = nI (p_pr S b w)) : ∀ (len m r : Nat) (Y' : q_St), r + len = p_nd S + 1 → len < m → p_J2 S w c nx Y k r Y' → p_wp (f_X4_stepBack_185 Z B a2 m (nI (k * 81)) (p_hc r) Y') (p_J2 S w c nx Y k (p_nd S + 1)) := by
  have h8 := g.1
  intro len
  induction len with
  | zero =>
    intro n r Y' hi hn j1
    obtain ⟨m, rfl⟩ := p_suc (show 0 < n by omega)
    rw [f_X4_stepBack_185, h.1, if_pos ((p_hc_end (by omega) (by omega)).mpr (by omega)), p_wp_some]
    have : r = p_nd S + 1 := by omega
    subst this
    exact j1
  | succ len ih =>
    intro n r Y' hi hn j1
    obtain ⟨m, rfl⟩ := p_suc (show 0 < n by omega)
    rw [f_X4_stepBack_185, h.1, if_neg (fun z => absurd ((p_hc_end (by omega) (by omega)).mp z) (by omega))]
    exact q3_201 h g Z a2 hk (by omega) hp (fun Y'' j => ih m (r + 1) Y'' (by omega) (by omega) j) Y' j1 (p_nd S + 1) q_N 0 1000000 (by omega) (by rw [q_N_eq]; omega) (by omega) rfl
/-- a step back: row k of the table from row k + 1 -/
theorem q3_step (h : p_RB B S) (g : p_Good S) {k : Nat} (hk : k < p_nb S) (hc : c = p_c S k) (hx : ∀ a b, a ≤ p_nd S → b ≤ p_nd S → nx a b ≤ 1000000) (hT : ∀ a b, a ≤ p_nd S → b ≤ p_nd S → Y.2 0 ((k + 1) * 81 + p_hd a b) = nI (nx a b)) (hp : ∀ b, b ≤ p_nd S → Y.2 3 b = nI (p_pr S b w)) : p_wp (f_X4_stepBack Y B (nI k)) (p_J2 S w c nx Y k (p_nd S + 1)) := by
  have h8 := g.1
  have hk2 := g.2.1
  unfold f_X4_stepBack
  have e1 : nI k * (81 : Int32) = nI (k * 81) := p_mul k 81
  have e2 : nI (k * 81) + (81 : Int32) = nI ((k + 1) * 81) := by
    rw [show (k + 1) * 81 = k * 81 + 81 by omega]
    exact p_add _ 81
  rw [e1, e2]
  refine q3_14 (w := w) (c := c) (nx := nx) (Y := Y) h g Y _ hk hc hx hT hp (fun Y' j => ?_) (p_nd S + 1) q_N 0 Y (by omega) (by rw [q_N_eq]; omega) ⟨rfl, fun _ _ _ => rfl, rfl, fun a' b ha _ => absurd ha (by omega)⟩
  exact q3_185 h g Y _ (by omega) hp (p_nd S + 1) q_N 0 Y' (by omega) (by rw [q_N_eq]; omega) ⟨j.1, j.2.1, fun a b ha hb => j.2.2.2 a b (by omega) hb, fun i _ => by rw [j.2.2.1], fun l r' _ h2 => absurd h2 (by omega)⟩
end STEP
