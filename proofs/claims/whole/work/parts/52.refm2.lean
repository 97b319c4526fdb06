/-! the reference: a doll for another one; who is together; dogs; whistle; counts -/
section REFM2
variable {M : q_St} {S : p_S}
theorem uM_rep_2 (g : p_Good S) {o w : Nat} (ho : o < p_nd S) (hw : w < p_nd S) (M0 : q_St) (z1 z2 : Int32) : ∀ (len n i : Nat) (M : q_St), i + len = p_nb S → len < n → p_RN (M.2 0) (p_rp S o w i) → p_wp (f_X6_comesFor_2 M0 z1 z2 n (nI w) (nI o) (nI i) M) (fun M' => p_FM M M' ∧ p_RN (M'.2 0) (p_rp S o w (p_nb S))) := by
  have h8 := g.1
  have h12 := g.2.1
  intro len
  induction len with
  | zero =>
    intro n i M hi hn h
    obtain ⟨n, rfl⟩ := p_suc (show 0 < n by omega)
    have hb : M.2 0 1 = nI (p_nb S) := h.2.1
    rw [f_X6_comesFor_2, p_Q1, p_C1, hb, if_pos (nI_le (by omega) (by omega)), p_wp_some, show p_nb S = i by omega]
    exact ⟨p_FM_refl M, h⟩
  | succ len ih =>
    intro n i M hi hn h
    obtain ⟨n, rfl⟩ := p_suc (show 0 < n by omega)
    have gi := g_rp g ho hw i
    have hb : M.2 0 1 = nI (p_nb S) := h.2.1
    have ni : i < p_nb (p_rp S o w i) := show i < p_nb S by omega
    have gk := g.k (k := i) (by omega)
    have c8 := g.c8 (k := i) (by omega)
    have hk := h.k ni
    have c1 : p_c (p_rp S o w i) i = p_c S i := by
      show (if i < i then p_nc o w (p_c S i) else p_c S i) = _
      rw [if_neg (by omega)]
    have s1 : p_s (p_rp S o w i) i = p_s S i := by
      show (if i < i then p_ns o w (p_s S i) else p_s S i) = _
      rw [if_neg (by omega)]
    rw [c1, s1] at hk
    have fin : p_wp (f_X6_comesFor_57 M0 z1 z2 (fun x1 x2 x3 M' => f_X6_comesFor_2 M0 z1 z2 n x1 x2 x3 M') (nI w) (nI o) (nI i) (nI (p_nc o w (p_c S i))) (nI (44 + i)) M) (fun M' => p_FM M M' ∧ p_RN (M'.2 0) (p_rp S o w (p_nb S))) := by
      have r1 := uN_c h gi (k := i) (v := p_nc o w (p_c S i)) (by omega)
      have g1 : p_Good (p_u2 (p_rp S o w i) 3 i (p_nc o w (p_c S i))) := g_cast gi (show p_nc o w (p_c S i) < 2 ^ p_nd S from p_nc_lt g ho hw gk.1)
      have r2 := uN_s r1 g1 (k := i) (v := p_ns o w (p_s S i)) (by omega)
      rw [p_rp_s] at r2
      unfold f_X6_comesFor_57
      rw [p_q68 _ (by omega), show (56 : Int32) + nI i = nI (56 + i) from p_add 56 i, p_q68 _ (by omega), p_cl (by omega), p_cl (by omega), pk_un (show 56 + i ≠ 44 + i by omega), hk.2, p_q68 _ (by omega), p_q68 _ (by omega), nI_1]
      by_cases q : p_s S i = o + 1
      · have e : p_ns o w (p_s S i) = w + 1 := by unfold p_ns; rw [if_pos q]
        rw [e] at r2
        rw [if_pos (show p_hc (p_s S i) = nI o by rw [q]; rfl)]
        refine p_wp_mono (ih n (i + 1) _ (by omega) (by omega) r2) ?_
        rintro M' ⟨m1, m2⟩
        exact ⟨p_FM_trans (p_FM_up M _) m1, m2⟩
      · have e : p_ns o w (p_s S i) = p_s S i := by unfold p_ns; rw [if_neg q]
        rw [e] at r2
        rw [if_neg (show ¬ p_hc (p_s S i) = nI o from fun z => q ((p_hc_eq (b := o + 1) (by omega) (by omega)).mp z)), p_q68 _ (by omega)]
        refine p_wp_mono (ih n (i + 1) _ (by omega) (by omega) r2) ?_
        rintro M' ⟨m1, m2⟩
        exact ⟨p_FM_trans (p_FM_up M _) m1, m2⟩
    rw [f_X6_comesFor_2, p_Q1, p_C1, hb, if_neg (nI_ge (by omega) (by omega)), show (44 : Int32) + nI i = nI (44 + i) from p_add 44 i, p_q68 _ (by omega), p_cl (by omega), hk.1, p_hasN (by omega) (by omega), p_bind, p_bif]
    cases q : (p_c S i).testBit o with
    | false =>
      have e : p_nc o w (p_c S i) = p_c S i := by unfold p_nc; rw [q]; rfl
      rw [e] at fin
      rw [if_neg (by decide)]
      exact fin
    | true =>
      have e : p_nc o w (p_c S i) = p_rest (p_c S i) (o + 1) ||| 2 ^ w := by unfold p_nc; rw [if_pos q]
      rw [if_pos rfl, p_mskX o (by omega) _ c8, p_shl w (by omega), fa_or]
      rw [e] at fin
      exact fin
theorem uM_rep (h : p_RN (M.2 0) S) (g : p_Good S) {o w : Nat} (ho : o < p_nd S) (hw : w < p_nd S) : p_wp (f_X6_comesFor M (nI w) (nI o)) (fun M' => p_FM M M' ∧ p_RN (M'.2 0) (p_rp S o w (p_nb S))) := by
  have h12 := g.2.1
  unfold f_X6_comesFor
  exact uM_rep_2 g ho hw M _ _ (p_nb S) q_N 0 M (by omega) (by rw [q_N_eq]; omega) (by rw [p_rp_0]; exact h)
theorem bN_tog_5 (h : p_RN (M.2 0) S) (g : p_Good S) {a b : Nat} (ha : a < 31) (hb : b < 31) (z1 z2 : Int32) : ∀ (len n i : Nat) (f : Bool), i + len = p_nb S → len < n → f_X6_areTogether_5 M z1 z2 n (nI a) (nI b) (p_b f) (nI i) = some (p_b (f || p_any (fun k => (p_c S k).testBit a && (p_c S k).testBit b) len i)) := by
  have h12 := g.2.1
  intro len
  induction len with
  | zero =>
    intro n i f hi hn
    obtain ⟨n, rfl⟩ := p_suc (show 0 < n by omega)
    rw [f_X6_areTogether_5, p_Q1, p_C1, h.2.1, if_pos (nI_le (by omega) (by omega)), p_bz, p_any, Bool.or_false]
  | succ len ih =>
    intro n i f hi hn
    obtain ⟨n, rfl⟩ := p_suc (show 0 < n by omega)
    have hk := h.k (k := i) (by omega)
    have c8 := g.c8 (k := i) (by omega)
    have i1 : f_X6_areTogether_5 M z1 z2 n (nI a) (nI b) (1 : Int32) (nI (i + 1)) = _ := ih n (i + 1) true (by omega) (by omega)
    have i0 : f_X6_areTogether_5 M z1 z2 n (nI a) (nI b) (0 : Int32) (nI (i + 1)) = _ := ih n (i + 1) false (by omega) (by omega)
    rw [f_X6_areTogether_5, p_Q1, p_C1, h.2.1, if_neg (nI_ge (by omega) (by omega)), p_bif, show (44 : Int32) + nI i = nI (44 + i) from p_add 44 i, p_q68 _ (by omega), p_q68 _ (by omega), p_cl (by omega), hk.1, p_hasN (by omega) ha, p_bind, p_bif, p_hasN (by omega) hb, p_bind, p_bif, nI_1, i1, i0, p_any]
    cases f <;> cases (p_c S i).testBit a <;> cases (p_c S i).testBit b <;> rfl
theorem bN_tog (h : p_RN (M.2 0) S) (g : p_Good S) {a b : Nat} (ha : a < 31) (hb : b < 31) : f_X6_areTogether M (nI a) (nI b) = some (p_b (p_tog S a b)) := by
  have h12 := g.2.1
  unfold f_X6_areTogether p_tog
  have := bN_tog_5 h g ha hb (nI a) (nI b) (p_nb S) q_N 0 false (by omega) (by rw [q_N_eq]; omega)
  rw [Bool.false_or] at this
  exact this
theorem bN_dogs_4 (h : p_RN (M.2 0) S) (g : p_Good S) {k : Nat} (hk : k < p_nb S) (z1 : Int32) : ∀ (len n i acc : Nat), i + len = p_nd S → len < n → f_X6_dogsIn_4 M z1 n (nI k) (nI acc) (nI i) = some (nI (p_set (p_dq S (p_c S k)) len i acc)) := by
  have h8 := g.1
  have h12 := g.2.1
  intro len
  induction len with
  | zero =>
    intro n i acc hi hn
    obtain ⟨n, rfl⟩ := p_suc (show 0 < n by omega)
    rw [f_X6_dogsIn_4, p_Q0, p_C0, h.1, if_pos (nI_le (by omega) (by omega))]
    rfl
  | succ len ih =>
    intro n i acc hi hn
    obtain ⟨n, rfl⟩ := p_suc (show 0 < n by omega)
    have c8 := g.c8 hk
    have gd := g.d (d := i) (by omega)
    have o0 : nI acc ||| (0 : Int32) = nI acc := by rw [show (0 : Int32) = nI 0 from rfl, fa_or, Nat.or_zero]
    rw [f_X6_dogsIn_4, p_Q0, p_C0, h.1, if_neg (nI_ge (by omega) (by omega)), show (44 : Int32) + nI k = nI (44 + k) from p_add 44 k, p_q68 _ (by omega), p_cl (by omega), (h.k hk).1, p_hasN (by omega) (by omega), p_bind, p_bif, bN_kind h g (by omega), p_bind, p_shl i (by omega), o0, fa_or, nI_1, ih n (i + 1) _ (by omega) (by omega), ih n (i + 1) _ (by omega) (by omega), p_set]
    unfold p_dq
    cases (p_c S k).testBit i with
    | false => simp
    | true =>
      by_cases q : p_k S i = 5
      · rw [if_pos rfl, if_pos (show nI (p_k S i) = (5 : Int32) by rw [q]; rfl)]
        simp [q]
      · rw [if_pos rfl, if_neg (show ¬ nI (p_k S i) = (5 : Int32) from fun z => q ((nI_eq (b := 5) (by omega) (by omega)).mp z))]
        simp [q]
def p_ds (S : p_S) (c : Nat) : Nat := p_set (p_dq S c) (p_nd S) 0 0
theorem p_ds_lt (g : p_Good S) (c : Nat) : p_ds S c < 256 := by
  have h1 : p_ds S c < 2 ^ p_nd S := p_set_lt _ _
  have h2 : 2 ^ p_nd S ≤ 2 ^ 8 := Nat.pow_le_pow_right (by decide) g.1
  omega
theorem bN_dogsIn (h : p_RN (M.2 0) S) (g : p_Good S) {k : Nat} (hk : k < p_nb S) : f_X6_dogsIn M (nI k) = some (nI (p_ds S (p_c S k))) := by
  have h8 := g.1
  unfold f_X6_dogsIn p_ds
  exact bN_dogs_4 h g hk (nI k) (p_nd S) q_N 0 0 (by omega) (by rw [q_N_eq]; omega)
theorem bN_dogBits (g : p_Good S) (c : Nat) : f_X6_bits (nI (p_ds S c)) = some (nI (p_dg S c)) := by
  rw [p_bits8 _ (p_ds_lt g c)]
  unfold p_ds p_dg
  rw [p_pop_set _ g.1]
theorem p_ds_0 (g : p_Good S) (c : Nat) : p_ds S c = 0 ↔ p_dg S c = 0 := by
  unfold p_ds p_dg
  rw [p_set_zero]
  constructor
  · intro h
    exact p_cf_none _ _ (fun d _ h2 => h d (by omega))
  · intro h j hj
    cases q : p_dq S c j with
    | false => rfl
    | true =>
      exfalso
      have : ∀ len s, s ≤ j → j < s + len → 1 ≤ p_cf (p_dq S c) len s := by
        intro len
        induction len with
        | zero => intro s a b; omega
        | succ len ih =>
          intro s a b
          unfold p_cf
          by_cases e : s = j
          · subst e; rw [if_pos q]; omega
          · have := ih (s + 1) (by omega) (by omega)
            omega
      have := this (p_nd S) 0 (by omega) (by omega)
      omega
end REFM2
