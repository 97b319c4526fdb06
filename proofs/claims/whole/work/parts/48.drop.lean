/-! the class's booth: beats left out, a doll for another one -/
/-- a beat goes -/
def p_del (S : p_S) (k : Nat) : p_S := ((fun i => if i = 1 then p_nb S - 1 else S.1 i), (fun r j => if (r = 3 ∨ r = 4) ∧ k ≤ j then S.2.1 r (j + 1) else S.2.1 r j), S.2.2)
/-- on the way there: k to i - 1 are moved -/
def p_drp (S : p_S) (k i : Nat) : p_S := (S.1, (fun r j => if (r = 3 ∨ r = 4) ∧ k ≤ j ∧ j < i then S.2.1 r (j + 1) else S.2.1 r j), S.2.2)
theorem p_drp_0 (S : p_S) (k : Nat) : p_drp S k k = S := by
  refine Prod.ext rfl (Prod.ext (funext fun r => funext fun j => ?_) rfl)
  show (if (r = 3 ∨ r = 4) ∧ k ≤ j ∧ j < k then S.2.1 r (j + 1) else S.2.1 r j) = S.2.1 r j
  rw [if_neg (by omega)]
theorem p_drp_s (S : p_S) {k i : Nat} (hk : k ≤ i) : p_u2 (p_u2 (p_drp S k i) 3 i (p_c S (i + 1))) 4 i (p_s S (i + 1)) = p_drp S k (i + 1) := by
  refine Prod.ext rfl (Prod.ext (funext fun r => funext fun j => ?_) rfl)
  show (if r = 4 ∧ j = i then p_s S (i + 1) else if r = 3 ∧ j = i then p_c S (i + 1) else if (r = 3 ∨ r = 4) ∧ k ≤ j ∧ j < i then S.2.1 r (j + 1) else S.2.1 r j) = if (r = 3 ∨ r = 4) ∧ k ≤ j ∧ j < i + 1 then S.2.1 r (j + 1) else S.2.1 r j
  by_cases hj : j = i
  · subst hj
    by_cases r4 : r = 4
    · subst r4
      rw [if_pos ⟨rfl, rfl⟩, if_pos ⟨Or.inr rfl, hk, by omega⟩]
    · rw [if_neg (fun z => r4 z.1)]
      by_cases r3 : r = 3
      · subst r3
        rw [if_pos ⟨rfl, rfl⟩, if_pos ⟨Or.inl rfl, hk, by omega⟩]
      · rw [if_neg (fun z => r3 z.1), if_neg (by omega), if_neg (by omega)]
  · rw [if_neg (fun z => hj z.2), if_neg (fun z => hj z.2)]
    by_cases q : (r = 3 ∨ r = 4) ∧ k ≤ j ∧ j < i
    · rw [if_pos q, if_pos ⟨q.1, q.2.1, by omega⟩]
    · rw [if_neg q, if_neg (fun z => q ⟨z.1, z.2.1, by omega⟩)]
theorem g_drp {S : p_S} (g : p_Good S) (k : Nat) {i : Nat} (hi : i < p_nb S) : p_Good (p_drp S k i) :=
  ⟨g.1, g.2.1, g.2.2.1, g.2.2.2.1, g.2.2.2.2.1, g.2.2.2.2.2.1, g.2.2.2.2.2.2.1, (fun e he => by
    show (if (3 = 3 ∨ 3 = 4) ∧ k ≤ e ∧ e < i then S.2.1 3 (e + 1) else p_c S e) < 2 ^ p_nd S ∧ (if (4 = 3 ∨ 4 = 4) ∧ k ≤ e ∧ e < i then S.2.1 4 (e + 1) else p_s S e) ≤ p_nd S
    by_cases q : k ≤ e ∧ e < i
    · rw [if_pos ⟨Or.inl rfl, q⟩, if_pos ⟨Or.inr rfl, q⟩]
      exact g.k (by omega)
    · rw [if_neg (fun z => q z.2), if_neg (fun z => q z.2)]
      exact g.k he), g.2.2.2.2.2.2.2.2⟩
theorem g_del {S : p_S} (g : p_Good S) (k : Nat) : p_Good (p_del S k) := by
  have h2 := g.2.1
  exact ⟨g.1, (show p_nb S - 1 ≤ 12 by omega), g.2.2.1, g.2.2.2.1, g.2.2.2.2.1, g.2.2.2.2.2.1, g.2.2.2.2.2.2.1, (fun e he => by
    have he : e < p_nb S - 1 := he
    show (if (3 = 3 ∨ 3 = 4) ∧ k ≤ e then S.2.1 3 (e + 1) else p_c S e) < 2 ^ p_nd S ∧ (if (4 = 3 ∨ 4 = 4) ∧ k ≤ e then S.2.1 4 (e + 1) else p_s S e) ≤ p_nd S
    by_cases q : k ≤ e
    · rw [if_pos ⟨Or.inl rfl, q⟩, if_pos ⟨Or.inr rfl, q⟩]
      exact g.k (by omega)
    · rw [if_neg (fun z => q z.2), if_neg (fun z => q z.2)]
      exact g.k (by omega)), g.2.2.2.2.2.2.2.2⟩
theorem p_getD_erase (L : List Nat) (k j : Nat) : (L.eraseIdx k).getD j 0 = if k ≤ j then L.getD (j + 1) 0 else L.getD j 0 := by
  rw [List.getD_eq_getElem?_getD, List.getD_eq_getElem?_getD, List.getD_eq_getElem?_getD, List.getElem?_eraseIdx]
  by_cases q : j < k
  · rw [if_pos q, if_neg (by omega)]
  · rw [if_neg q, if_pos (by omega)]
theorem p_del_sel (S : p_S) {L : List Nat} {k : Nat} (hk : k < L.length) : p_del (p_sel S L) k = p_sel S (L.eraseIdx k) := by
  refine Prod.ext (funext fun i => ?_) (Prod.ext (funext fun r => funext fun j => ?_) rfl)
  · show (if i = 1 then L.length - 1 else if i = 1 then L.length else S.1 i) = if i = 1 then (L.eraseIdx k).length else S.1 i
    rw [List.length_eraseIdx, if_pos hk]
    by_cases q : i = 1
    · rw [if_pos q, if_pos q]
    · rw [if_neg q, if_neg q, if_neg q]
  · show (if (r = 3 ∨ r = 4) ∧ k ≤ j then (if r = 3 ∨ r = 4 then S.2.1 r (L.getD (j + 1) 0) else S.2.1 r (j + 1)) else (if r = 3 ∨ r = 4 then S.2.1 r (L.getD j 0) else S.2.1 r j)) = if r = 3 ∨ r = 4 then S.2.1 r ((L.eraseIdx k).getD j 0) else S.2.1 r j
    rw [p_getD_erase]
    by_cases q : r = 3 ∨ r = 4
    · rw [if_pos q, if_pos q, if_pos q]
      by_cases q2 : k ≤ j
      · rw [if_pos ⟨q, q2⟩, if_pos q2]
      · rw [if_neg (fun z => q2 z.2), if_neg q2]
    · rw [if_neg (fun z => q z.1), if_neg q, if_neg q]
theorem p_getD_range {n j : Nat} (h : j < n) (R : List Nat) : (List.range n ++ R).getD j 0 = j := by
  rw [List.getD_eq_getElem?_getD, List.getElem?_append_left (by rw [List.length_range]; exact h), List.getElem?_range h]
  rfl
section DROP
variable {B : q_St} {S : p_S}
theorem p_RB_full (h : p_RB B S) : p_RB B (p_sel S (List.range (p_nb S))) := by
  refine ⟨h.1, (by rw [h.2.1]; show nI _ = nI (List.range (p_nb S)).length; rw [List.length_range]), h.2.2.1, h.2.2.2.1, h.2.2.2.2.1, h.2.2.2.2.2.1, h.2.2.2.2.2.2.1, h.2.2.2.2.2.2.2.1, h.2.2.2.2.2.2.2.2.1, h.2.2.2.2.2.2.2.2.2.1, h.2.2.2.2.2.2.2.2.2.2.1, (fun e he => ?_), h.2.2.2.2.2.2.2.2.2.2.2.2⟩
  have he : e < (List.range (p_nb S)).length := he
  rw [List.length_range] at he
  have e1 := p_getD_range he []
  rw [List.append_nil] at e1
  show B.2 13 e = nI (p_c S ((List.range (p_nb S)).getD e 0)) ∧ B.2 14 e = p_hc (p_s S ((List.range (p_nb S)).getD e 0))
  rw [e1]
  exact h.k he
theorem uX_drop_11 (k : Nat) (h0 : p_Good S) (a1 : Int32) (B0 : q_St) : ∀ (len n i : Nat) (B : q_St), i + len + 1 = p_nb S → k ≤ i → len < n → p_RB B (p_drp S k i) → p_wp (f_X0_dropBeat_11 B0 a1 n (nI i) B) (fun B' => p_RB B' (p_del S k)) := by
  have h12 := h0.2.1
  intro len
  induction len with
  | zero =>
    intro n i B hi hk hn h
    obtain ⟨n, rfl⟩ := p_suc (show 0 < n by omega)
    have hb : B.1 1 = nI (p_nb S) := h.2.1
    have e : nI (p_nb S) - (1 : Int32) = nI i := by rw [show p_nb S = i + 1 by omega]; exact nI_pred i
    rw [f_X0_dropBeat_11, hb, e, if_pos (nI_le (by omega) (by omega)), p_wp_some]
    refine ⟨h.1, (show nI i = nI (p_nb S - 1) by congr 1; omega), h.2.2.1, h.2.2.2.1, h.2.2.2.2.1, h.2.2.2.2.2.1, h.2.2.2.2.2.2.1, h.2.2.2.2.2.2.2.1, h.2.2.2.2.2.2.2.2.1, h.2.2.2.2.2.2.2.2.2.1, h.2.2.2.2.2.2.2.2.2.2.1, (fun e he => ?_), h.2.2.2.2.2.2.2.2.2.2.2.2⟩
    have he : e < p_nb S - 1 := he
    have := h.k (k := e) (show e < p_nb S by omega)
    have t : ∀ r, (r = 3 ∨ r = 4) → (p_drp S k i).2.1 r e = (p_del S k).2.1 r e := by
      intro r hr
      show (if (r = 3 ∨ r = 4) ∧ k ≤ e ∧ e < i then S.2.1 r (e + 1) else S.2.1 r e) = if (r = 3 ∨ r = 4) ∧ k ≤ e then S.2.1 r (e + 1) else S.2.1 r e
      by_cases q : k ≤ e
      · rw [if_pos ⟨hr, q, by omega⟩, if_pos ⟨hr, q⟩]
      · rw [if_neg (fun z => q z.2.1), if_neg (fun z => q z.2)]
    have t3 : p_c (p_drp S k i) e = p_c (p_del S k) e := t 3 (Or.inl rfl)
    have t4 : p_s (p_drp S k i) e = p_s (p_del S k) e := t 4 (Or.inr rfl)
    rw [t3, t4] at this
    exact this
  | succ len ih =>
    intro n i B hi hk hn h
    obtain ⟨n, rfl⟩ := p_suc (show 0 < n by omega)
    have g := g_drp h0 k (i := i) (by omega)
    have hb : B.1 1 = nI (p_nb S) := h.2.1
    have e : nI (p_nb S) - (1 : Int32) = nI (i + len + 1) := by rw [show p_nb S = (i + len + 1) + 1 by omega]; exact nI_pred _
    have ni : i + 1 < p_nb (p_drp S k i) := show i + 1 < p_nb S by omega
    have c1 : p_c (p_drp S k i) (i + 1) = p_c S (i + 1) := by
      show (if (3 = 3 ∨ 3 = 4) ∧ k ≤ i + 1 ∧ i + 1 < i then S.2.1 3 (i + 1 + 1) else p_c S (i + 1)) = _
      rw [if_neg (by omega)]
    have s1 : p_s (p_drp S k i) (i + 1) = p_s S (i + 1) := by
      show (if (4 = 3 ∨ 4 = 4) ∧ k ≤ i + 1 ∧ i + 1 < i then S.2.1 4 (i + 1 + 1) else p_s S (i + 1)) = _
      rw [if_neg (by omega)]
    rw [f_X0_dropBeat_11, hb, e, if_neg (nI_ge (by omega) (by omega)), nI_1, bX_castOf h g ni, p_bind, c1]
    refine p_wp_seq (uX_cast h g (k := i) (by omega)) (fun B1 h1 => ?_)
    have g1 : p_Good (p_u2 (p_drp S k i) 3 i (p_c S (i + 1))) := g_cast g (show p_c S (i + 1) < 2 ^ p_nd S from (h0.k (by omega)).1)
    rw [bX_speakerOf h1 g1 ni, p_bind, show p_s (p_u2 (p_drp S k i) 3 i (p_c S (i + 1))) (i + 1) = p_s S (i + 1) from s1]
    refine p_wp_seq (uX_spk h1 g1 (k := i) (show i < p_nb S by omega)) (fun B2 h2 => ?_)
    rw [p_drp_s S hk] at h2
    exact ih n (i + 1) B2 (by omega) (by omega) (by omega) h2
theorem uX_drop (h : p_RB B S) (g : p_Good S) {k : Nat} (hk : k < p_nb S) : p_wp (f_X0_dropBeat B (nI k)) (fun B' => p_RB B' (p_del S k)) := by
  have h12 := g.2.1
  unfold f_X0_dropBeat
  rw [bX_isBeat h g hk, p_bind, if_neg (by decide)]
  exact uX_drop_11 k g (nI k) B (p_nb S - k - 1) q_N k B (by omega) (Nat.le_refl _) (by rw [q_N_eq]; omega) (by rw [p_drp_0]; exact h)
/-- those of len numbers from k on that are so -/
def p_kp (q : Nat → Bool) : Nat → Nat → List Nat
  | 0, _ => []
  | len + 1, k => if q k then k :: p_kp q len (k + 1) else p_kp q len (k + 1)
theorem p_kp_mem (q : Nat → Bool) : ∀ len k i, i ∈ p_kp q len k → k ≤ i ∧ i < k + len
  | 0, _, _, h => by cases h
  | len + 1, k, i, h => by
    unfold p_kp at h
    split at h
    · rcases List.mem_cons.mp h with rfl | h
      · omega
      · have := p_kp_mem q len (k + 1) i h
        omega
    · have := p_kp_mem q len (k + 1) i h
      omega
theorem p_kp_len (q : Nat → Bool) : ∀ len k, (p_kp q len k).length ≤ len
  | 0, _ => Nat.le_refl 0
  | len + 1, k => by
    have := p_kp_len q len (k + 1)
    unfold p_kp
    split
    · rw [List.length_cons]; omega
    · omega
theorem p_rng_erase (k : Nat) (R : List Nat) : (List.range (k + 1) ++ R).eraseIdx k = List.range k ++ R := by
  rw [List.range_succ, List.append_assoc, List.eraseIdx_append_of_length_le (by rw [List.length_range]; exact Nat.le_refl _), List.length_range, Nat.sub_self]
  rfl
theorem g_kp {S : p_S} (g : p_Good S) (q : Nat → Bool) {k : Nat} (hk : k ≤ p_nb S) : p_Good (p_sel S (List.range k ++ p_kp q (p_nb S - k) k)) := by
  have h12 := g.2.1
  have hl := p_kp_len q (p_nb S - k) k
  refine g_sel g (by rw [List.length_append, List.length_range]; omega) (fun i hi => ?_)
  rcases List.mem_append.mp hi with h | h
  · have := List.mem_range.mp h
    omega
  · have := p_kp_mem q _ _ _ h
    omega
/-- one beat of the way down, from the last one: it stays, or it goes -/
theorem p_kp_step {S : p_S} (q : Nat → Bool) {k : Nat} (hk : k < p_nb S) : (q k = true → List.range (k + 1) ++ p_kp q (p_nb S - (k + 1)) (k + 1) = List.range k ++ p_kp q (p_nb S - k) k) ∧ (q k = false → List.range k ++ p_kp q (p_nb S - (k + 1)) (k + 1) = List.range k ++ p_kp q (p_nb S - k) k) := by
  rw [show p_nb S - k = (p_nb S - (k + 1)) + 1 by omega, p_kp]
  constructor
  · intro h
    rw [if_pos h, List.range_succ, List.append_assoc]
    rfl
  · intro h
    rw [if_neg (by rw [h]; decide)]
theorem uX_keep_7 (g : p_Good S) (B0 : q_St) (z1 z2 : Int32) {a b : Nat} (ha : a < 2 ^ 31) (hb : b < 2 ^ 31) : ∀ (k n : Nat) (B : q_St), k ≤ p_nb S → k < n → p_RB B (p_sel S (List.range k ++ p_kp (fun i => decide (a ≤ i) && decide (i ≤ b)) (p_nb S - k) k)) → p_wp (f_X0_keepBeats_7 B0 z1 z2 n (nI a) (nI b) (p_hc k) B) (fun B' => p_RB B' (p_sel S (p_kp (fun i => decide (a ≤ i) && decide (i ≤ b)) (p_nb S) 0))) := by
  have h12 := g.2.1
  intro k
  induction k with
  | zero =>
    intro n B hk hn h
    obtain ⟨n, rfl⟩ := p_suc (show 0 < n by omega)
    rw [f_X0_keepBeats_7, if_pos (show p_hc 0 < 0 by decide), p_wp_some]
    exact h
  | succ k ih =>
    intro n B hk hn h
    obtain ⟨n, rfl⟩ := p_suc (show 0 < n by omega)
    have st := p_kp_step (S := S) (fun i => decide (a ≤ i) && decide (i ≤ b)) (k := k) (by omega)
    have gL := g_kp g (fun i => decide (a ≤ i) && decide (i ≤ b)) hk
    have lk : k < p_nb (p_sel S (List.range (k + 1) ++ p_kp (fun i => decide (a ≤ i) && decide (i ≤ b)) (p_nb S - (k + 1)) (k + 1))) := by
      show k < (List.range (k + 1) ++ p_kp (fun i => decide (a ≤ i) && decide (i ≤ b)) (p_nb S - (k + 1)) (k + 1)).length
      rw [List.length_append, List.length_range]; omega
    have dr := uX_drop h gL lk
    rw [p_del_sel S lk, p_rng_erase] at dr
    rw [f_X0_keepBeats_7, if_neg (show ¬ p_hc (k + 1) < 0 from nI_pos (by omega)), p_hc_dn k (by omega)]
    show p_wp (if nI k < nI a then _ else if nI k ≤ nI b then _ else _) _
    by_cases q1 : k < a
    · rw [if_pos (nI_lt q1 ha)]
      refine p_wp_seq dr (fun B' h' => ih n B' (by omega) (by omega) ?_)
      rw [← st.2 (by show (decide (a ≤ k) && decide (k ≤ b)) = false; rw [decide_eq_false (by omega)]; rfl)]
      exact h'
    · rw [if_neg (nI_nlt (by omega) (by omega))]
      by_cases q2 : k ≤ b
      · rw [if_pos (nI_le q2 hb)]
        refine ih n B (by omega) (by omega) ?_
        rw [← st.1 (by show (decide (a ≤ k) && decide (k ≤ b)) = true; rw [decide_eq_true (by omega), decide_eq_true q2]; rfl)]
        exact h
      · rw [if_neg (nI_ge (by omega) (by omega))]
        refine p_wp_seq dr (fun B' h' => ih n B' (by omega) (by omega) ?_)
        rw [← st.2 (by show (decide (a ≤ k) && decide (k ≤ b)) = false; rw [decide_eq_false q2, Bool.and_false])]
        exact h'
theorem uX_keep (h : p_RB B S) (g : p_Good S) {a b : Nat} (ha : a < 2 ^ 31) (hb : b < 2 ^ 31) : p_wp (f_X0_keepBeats B (nI a) (nI b)) (fun B' => p_RB B' (p_sel S (p_kp (fun i => decide (a ≤ i) && decide (i ≤ b)) (p_nb S) 0))) := by
  have h12 := g.2.1
  unfold f_X0_keepBeats
  rw [h.2.1, p_hc_m _ (by omega)]
  refine uX_keep_7 g B _ _ ha hb (p_nb S) q_N B (Nat.le_refl _) (by rw [q_N_eq]; omega) ?_
  rw [Nat.sub_self, show p_kp (fun i => decide (a ≤ i) && decide (i ≤ b)) 0 (p_nb S) = [] from rfl, List.append_nil]
  exact p_RB_full h
theorem uX_dropW_7 (g : p_Good S) (B0 : q_St) : ∀ (k n : Nat) (B : q_St), k ≤ p_nb S → k < n → p_RB B (p_sel S (List.range k ++ p_kp (fun i => !p_wr S i) (p_nb S - k) k)) → p_wp (f_X0_dropWrongBeats_7 B0 n (p_hc k) B) (fun B' => p_RB B' (p_sel S (p_kp (fun i => !p_wr S i) (p_nb S) 0))) := by
  have h12 := g.2.1
  intro k
  induction k with
  | zero =>
    intro n B hk hn h
    obtain ⟨n, rfl⟩ := p_suc (show 0 < n by omega)
    rw [f_X0_dropWrongBeats_7, if_pos (show p_hc 0 < 0 by decide), p_wp_some]
    exact h
  | succ k ih =>
    intro n B hk hn h
    obtain ⟨n, rfl⟩ := p_suc (show 0 < n by omega)
    have st := p_kp_step (S := S) (fun i => !p_wr S i) (k := k) (by omega)
    have gL := g_kp g (fun i => !p_wr S i) hk
    have lk : k < p_nb (p_sel S (List.range (k + 1) ++ p_kp (fun i => !p_wr S i) (p_nb S - (k + 1)) (k + 1))) := by
      show k < (List.range (k + 1) ++ p_kp (fun i => !p_wr S i) (p_nb S - (k + 1)) (k + 1)).length
      rw [List.length_append, List.length_range]; omega
    have wr := bX_isWrong h gL lk
    have we : p_wr (p_sel S (List.range (k + 1) ++ p_kp (fun i => !p_wr S i) (p_nb S - (k + 1)) (k + 1))) k = p_wr S k := by
      have e := p_getD_range (n := k + 1) (j := k) (by omega) (p_kp (fun i => !p_wr S i) (p_nb S - (k + 1)) (k + 1))
      show ((decide (p_s S ((List.range (k + 1) ++ p_kp (fun i => !p_wr S i) (p_nb S - (k + 1)) (k + 1)).getD k 0) ≠ 0) && !((p_c S ((List.range (k + 1) ++ p_kp (fun i => !p_wr S i) (p_nb S - (k + 1)) (k + 1)).getD k 0)).testBit (p_s S ((List.range (k + 1) ++ p_kp (fun i => !p_wr S i) (p_nb S - (k + 1)) (k + 1)).getD k 0) - 1))) || p_wc S (p_c S ((List.range (k + 1) ++ p_kp (fun i => !p_wr S i) (p_nb S - (k + 1)) (k + 1)).getD k 0))) = _
      rw [e]
      rfl
    have dr := uX_drop h gL lk
    rw [p_del_sel S lk, p_rng_erase] at dr
    rw [we] at wr
    rw [f_X0_dropWrongBeats_7, if_neg (show ¬ p_hc (k + 1) < 0 from nI_pos (by omega)), p_hc_dn k (by omega), show f_X0_isWrong B (p_hc (k + 1)) = _ from wr, p_bind, p_bif]
    cases hw : p_wr S k with
    | false =>
      rw [if_neg (by decide)]
      refine ih n B (by omega) (by omega) ?_
      rw [← st.1 (by show (!p_wr S k) = true; rw [hw]; rfl)]
      exact h
    | true =>
      rw [if_pos rfl]
      refine p_wp_seq dr (fun B' h' => ih n B' (by omega) (by omega) ?_)
      rw [← st.2 (by show (!p_wr S k) = false; rw [hw]; rfl)]
      exact h'
theorem uX_dropW (h : p_RB B S) (g : p_Good S) : p_wp (f_X0_dropWrongBeats B) (fun B' => p_RB B' (p_sel S (p_kp (fun i => !p_wr S i) (p_nb S) 0))) := by
  have h12 := g.2.1
  unfold f_X0_dropWrongBeats
  rw [h.2.1, p_hc_m _ (by omega)]
  refine uX_dropW_7 g B (p_nb S) q_N B (Nat.le_refl _) (by rw [q_N_eq]; omega) ?_
  rw [Nat.sub_self, show p_kp (fun i => !p_wr S i) 0 (p_nb S) = [] from rfl, List.append_nil]
  exact p_RB_full h
theorem p_kp_good (g : p_Good S) (q : Nat → Bool) : p_Good (p_sel S (p_kp q (p_nb S) 0)) := g_kp g q (k := 0) (by omega)
/-- the casts of what is left -/
theorem p_cs_sel (S : p_S) (L : List Nat) : p_cs (p_sel S L) = L.map (p_c S) := by
  show (List.range L.length).map (fun j => p_c S (L.getD j 0)) = L.map (p_c S)
  apply List.ext_getElem
  · rw [List.length_map, List.length_map, List.length_range]
  · intro i h1 h2
    rw [List.getElem_map, List.getElem_map, List.getElem_range]
    rw [List.length_map] at h2
    rw [show L.getD i 0 = L[i] by simp [List.getD, List.getElem?_eq_getElem h2]]
theorem p_W_sel (S : p_S) (L : List Nat) (w : Nat) : ∀ cs l r, p_W (p_sel S L) w cs l r = p_W S w cs l r
  | [], _, _ => rfl
  | c :: cs, l, r => by
    have ih := p_W_sel S L w cs
    show p_mn (fun t => if p_hs S c (t / 9) (t % 9) then (p_mv S w l (t / 9) + p_mv S w r (t % 9)) + p_W (p_sel S L) w cs (t / 9) (t % 9) else 1000000) 81 0 1000000 = p_mn (fun t => if p_hs S c (t / 9) (t % 9) then (p_mv S w l (t / 9) + p_mv S w r (t % 9)) + p_W S w cs (t / 9) (t % 9) else 1000000) 81 0 1000000
    congr 1
    funext t
    rw [ih]
end DROP
