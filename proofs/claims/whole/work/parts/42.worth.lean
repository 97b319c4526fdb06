/-! the least worth of a way through a list of casts, from a hold -/
def p_mn (f : Nat → Nat) : Nat → Nat → Nat → Nat
  | 0, _, acc => acc
  | len + 1, i, acc => p_mn f len (i + 1) (if f i < acc then f i else acc)
theorem p_mn_iff (f : Nat → Nat) (v : Nat) : ∀ len i acc, p_mn f len i acc ≤ v ↔ acc ≤ v ∨ ∃ j, i ≤ j ∧ j < i + len ∧ f j ≤ v
  | 0, i, acc => by
    unfold p_mn
    constructor
    · exact fun h => Or.inl h
    · rintro (h | ⟨j, h1, h2, _⟩)
      · exact h
      · omega
  | len + 1, i, acc => by
    unfold p_mn
    rw [p_mn_iff f v len (i + 1)]
    constructor
    · rintro (h | ⟨j, h1, h2, h3⟩)
      · split at h
        · exact Or.inr ⟨i, by omega, by omega, h⟩
        · exact Or.inl h
      · exact Or.inr ⟨j, by omega, by omega, h3⟩
    · rintro (h | ⟨j, h1, h2, h3⟩)
      · left; split <;> omega
      · by_cases e : j = i
        · subst e
          left; split <;> omega
        · exact Or.inr ⟨j, by omega, by omega, h3⟩
theorem p_mn_le (f : Nat → Nat) (len i acc : Nat) : p_mn f len i acc ≤ acc := (p_mn_iff f acc len i acc).mpr (Or.inl (Nat.le_refl _))
theorem p_mn_cong {f g : Nat → Nat} : ∀ len i acc, (∀ j, i ≤ j → j < i + len → f j = g j) → p_mn f len i acc = p_mn g len i acc
  | 0, _, _, _ => rfl
  | len + 1, i, acc, h => by
    unfold p_mn
    rw [h i (by omega) (by omega), p_mn_cong len (i + 1) _ (fun j h1 h2 => h j (by omega) (by omega))]
theorem p_le_ext {x y : Nat} (h : ∀ v, x ≤ v ↔ y ≤ v) : x = y := Nat.le_antisymm ((h y).mpr (Nat.le_refl _)) ((h x).mp (Nat.le_refl _))
/-- both at most a bound: alike below it is enough -/
theorem p_le_ext2 {x y F : Nat} (hx : x ≤ F) (hy : y ≤ F) (h : ∀ v, v < F → (x ≤ v ↔ y ≤ v)) : x = y := p_le_ext fun v => by
  by_cases hv : v < F
  · exact h v hv
  · constructor <;> intro <;> omega
/-- what a hand pays that goes from a to b -/
def p_mv (S : p_S) (w a b : Nat) : Nat := if a = b then 0 else p_pr S b w
theorem p_wb_mv (S : p_S) {w : Nat} (hw : w < 2) (a b c d : Nat) : p_wb S a b c d w = p_mv S w a c + p_mv S w b d := by
  unfold p_wb p_mv p_df p_tk
  by_cases z : w = 0
  · subst z
    rw [if_pos rfl]
    unfold p_pr
    rw [if_pos rfl, if_pos rfl]
  · have : w = 1 := by omega
    subst this
    rw [if_neg (by decide)]
def p_W (S : p_S) (w : Nat) : List Nat → Nat → Nat → Nat
  | [], _, _ => 0
  | c :: cs, l, r => p_mn (fun t => if p_hs S c (t / 9) (t % 9) then (p_mv S w l (t / 9) + p_mv S w r (t % 9)) + p_W S w cs (t / 9) (t % 9) else 1000000) 81 0 1000000
theorem p_W_le (S : p_S) (w : Nat) : ∀ cs l r, p_W S w cs l r ≤ 1000000
  | [], _, _ => by unfold p_W; omega
  | c :: cs, l, r => by unfold p_W; exact p_mn_le _ _ _ _
theorem p_W_iff {S : p_S} (h8 : p_nd S ≤ 8) {w : Nat} {c : Nat} {cs : List Nat} {l r v : Nat} (hv : v < 1000000) : p_W S w (c :: cs) l r ≤ v ↔ ∃ a b, a ≤ p_nd S ∧ b ≤ p_nd S ∧ p_st S c a b = true ∧ (p_mv S w l a + p_mv S w r b) + p_W S w cs a b ≤ v := by
  rw [p_W, p_mn_iff]
  constructor
  · rintro (h | ⟨j, _, hj, h⟩)
    · omega
    · by_cases q : p_hs S c (j / 9) (j % 9) = true
      · rw [if_pos q] at h
        have := p_hs_iff.mp q
        exact ⟨_, _, this.1, this.2.1, this.2.2, h⟩
      · rw [if_neg q] at h
        omega
  · rintro ⟨a, b, ha, hb, hs, h⟩
    refine Or.inr ⟨9 * a + b, by omega, by omega, ?_⟩
    have e1 : (9 * a + b) / 9 = a := by omega
    have e2 : (9 * a + b) % 9 = b := by omega
    rw [e1, e2, if_pos (p_hs_iff.mpr ⟨ha, hb, hs⟩)]
    exact h
theorem p_pr_le {S : p_S} (g : p_Good S) {a w : Nat} (ha : a ≤ p_nd S) : p_pr S a w ≤ 29 := by
  unfold p_pr
  split
  · omega
  · split
    · omega
    · have hd := g.d (d := a - 1) (by omega)
      have := (p_on_lt _ hd.1 _ (show p_z S (a - 1) < 10 by omega)).2
      show p_on _ _ + _ ≤ _
      omega
theorem p_mv_le {S : p_S} (g : p_Good S) {a b w : Nat} (hb : b ≤ p_nd S) : p_mv S w a b ≤ 29 := by
  have := p_pr_le g (w := w) hb
  unfold p_mv
  split <;> omega
/-- casts that are not wrong have a way -/
theorem p_W_far {S : p_S} (g : p_Good S) {w : Nat} : ∀ cs : List Nat, cs.length ≤ 12 → (∀ c, c ∈ cs → c < 2 ^ p_nd S ∧ p_wc S c = false) → ∀ l r, p_W S w cs l r ≤ 58 * cs.length
  | [], _, _, _, _ => by unfold p_W; omega
  | c :: cs, hl, h, l, r => by
    have hc := h c (List.mem_cons_self ..)
    obtain ⟨a, b, ha, hb, hs⟩ := p_has_hold g.1 hc.1 hc.2
    rw [List.length_cons] at hl ⊢
    refine (p_W_iff g.1 (by omega)).mpr ?_
    have ih := p_W_far g cs (by omega) (fun c hc => h c (List.mem_cons_of_mem _ hc)) a b (w := w)
    have m1 := p_mv_le g (a := l) (w := w) ha
    have m2 := p_mv_le g (a := r) (w := w) hb
    exact ⟨a, b, ha, hb, hs, by omega⟩
/-! as the class does it: hand by hand -/
def p_hf (S : p_S) (c : Nat) (nx : Nat → Nat → Nat) (a b : Nat) : Nat := if p_st S c a b then nx a b else 1000000
/-- one hand's step: keep, or take the cheapest -/
def p_ch (S : p_S) (w : Nat) (f : Nat → Nat) : Nat := p_mn (fun b => f b + p_pr S b w) (p_nd S + 1) 0 1000000
def p_kt (S : p_S) (w : Nat) (f : Nat → Nat) (b : Nat) : Nat := if p_ch S w f < f b then p_ch S w f else f b
theorem p_kt_iff {S : p_S} {w : Nat} {f : Nat → Nat} {b v : Nat} (hv : v < 1000000) (hb : b ≤ p_nd S) : p_kt S w f b ≤ v ↔ ∃ j, j ≤ p_nd S ∧ p_mv S w b j + f j ≤ v := by
  have e : p_kt S w f b ≤ v ↔ p_ch S w f ≤ v ∨ f b ≤ v := by unfold p_kt; split <;> omega
  rw [e]
  unfold p_ch
  rw [p_mn_iff]
  constructor
  · rintro ((h | ⟨j, _, hj, h⟩) | h)
    · omega
    · have h : f j + p_pr S j w ≤ v := h
      refine ⟨j, by omega, ?_⟩
      have : p_mv S w b j ≤ p_pr S j w := by unfold p_mv; split <;> omega
      omega
    · refine ⟨b, hb, ?_⟩
      have : p_mv S w b b = 0 := by unfold p_mv; rw [if_pos rfl]
      omega
  · rintro ⟨j, hj, h⟩
    by_cases q : b = j
    · subst q
      exact Or.inr (by omega)
    · refine Or.inl (Or.inr ⟨j, by omega, by omega, ?_⟩)
      show f j + p_pr S j w ≤ v
      have : p_mv S w b j = p_pr S j w := by unfold p_mv; rw [if_neg q]
      omega
theorem p_ch_le (S : p_S) (w : Nat) (f : Nat → Nat) : p_ch S w f ≤ 1000000 := p_mn_le _ _ _ _
theorem p_kt_le (S : p_S) (w : Nat) (f : Nat → Nat) (b : Nat) : p_kt S w f b ≤ 1000000 := by
  have := p_ch_le S w f
  unfold p_kt
  split <;> omega
/-- a row behind one step -/
def p_sp (S : p_S) (w c : Nat) (nx : Nat → Nat → Nat) (l r : Nat) : Nat := p_kt S w (fun a => p_kt S w (fun b => p_hf S c nx a b) r) l
theorem p_sp_iff {S : p_S} {w c : Nat} {nx : Nat → Nat → Nat} {l r v : Nat} (hv : v < 1000000) (hl : l ≤ p_nd S) (hr : r ≤ p_nd S) : p_sp S w c nx l r ≤ v ↔ ∃ a b, a ≤ p_nd S ∧ b ≤ p_nd S ∧ p_st S c a b = true ∧ (p_mv S w l a + p_mv S w r b) + nx a b ≤ v := by
  unfold p_sp
  rw [p_kt_iff hv hl]
  constructor
  · rintro ⟨a, ha, h⟩
    have h : p_mv S w l a + p_kt S w (fun b => p_hf S c nx a b) r ≤ v := h
    have h2 : p_kt S w (fun b => p_hf S c nx a b) r ≤ v - p_mv S w l a := by omega
    obtain ⟨b, hb, h3⟩ := (p_kt_iff (v := v - p_mv S w l a) (by omega) hr).mp h2
    have h3 : p_mv S w r b + p_hf S c nx a b ≤ v - p_mv S w l a := h3
    unfold p_hf at h3
    by_cases q : p_st S c a b = true
    · rw [if_pos q] at h3
      refine ⟨a, b, ha, hb, q, ?_⟩
      omega
    · rw [if_neg q] at h3
      omega
  · rintro ⟨a, b, ha, hb, hs, h⟩
    refine ⟨a, ha, ?_⟩
    have h2 : p_kt S w (fun b => p_hf S c nx a b) r ≤ v - p_mv S w l a := by
      refine (p_kt_iff (by omega) hr).mpr ⟨b, hb, ?_⟩
      show p_mv S w r b + p_hf S c nx a b ≤ v - p_mv S w l a
      unfold p_hf
      rw [if_pos hs]
      omega
    show p_mv S w l a + p_kt S w (fun b => p_hf S c nx a b) r ≤ v
    omega
theorem p_sp_le (S : p_S) (w c : Nat) (nx : Nat → Nat → Nat) (l r : Nat) : p_sp S w c nx l r ≤ 1000000 := p_kt_le _ _ _ _
theorem p_sp_W {S : p_S} (h8 : p_nd S ≤ 8) {w c : Nat} {cs : List Nat} {l r : Nat} (hl : l ≤ p_nd S) (hr : r ≤ p_nd S) : p_sp S w c (p_W S w cs) l r = p_W S w (c :: cs) l r :=
  p_le_ext2 (p_sp_le _ _ _ _ _ _) (p_W_le _ _ _ _ _) fun v hv => by rw [p_sp_iff hv hl hr, p_W_iff h8 hv]
theorem p_hf_le {S : p_S} {c : Nat} {nx : Nat → Nat → Nat} {a b : Nat} (h : nx a b ≤ 1000000) : p_hf S c nx a b ≤ 1000000 := by
  unfold p_hf
  split <;> omega
