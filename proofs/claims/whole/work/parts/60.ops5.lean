/-! the calls, on both sides: kindFor, mayor -/
def p_kL (S : p_S) (d k : Nat) : List Nat := p_kp (fun i => !p_wr (p_u2 S 0 d k) i) (p_nb S) 0
def p_kW (S : p_S) (d k : Nat) : Nat := p_W (p_u2 S 0 d k) 0 ((p_kL S d k).map (p_c S)) (p_l S) (p_r S)
def p_kf (S : p_S) (d : Nat) : Nat → Nat → Int32 → Nat → Nat → Int32
  | 0, _, best, _, _ => best
  | len + 1, k, best, most, least => if most ≤ (p_kL S d k).length then p_kf S d len (k + 1) (nI k) ((p_kL S d k).length + 1) (p_kW S d k) else if (p_kL S d k).length + 1 = most then (if p_kW S d k < least then p_kf S d len (k + 1) (nI k) ((p_kL S d k).length + 1) (p_kW S d k) else p_kf S d len (k + 1) best most least) else p_kf S d len (k + 1) best most least
theorem p_kL_le {S : p_S} (g : p_Good S) (d k : Nat) : (p_kL S d k).length ≤ 12 := by
  have := p_kp_len (fun i => !p_wr (p_u2 S 0 d k) i) (p_nb S) 0
  have := g.2.1
  unfold p_kL
  omega
/-- what it is worth if a doll stands for another one -/
def p_mW (S : p_S) (d o : Nat) : Nat := if p_go (p_rp S o d (p_nb S)) = true then p_W (p_rp S o d (p_nb S)) 0 (p_cs (p_rp S o d (p_nb S))) (p_l S) (p_r S) else 1000000
def p_my (S : p_S) (d : Nat) : Nat → Nat → Nat → Nat → Nat
  | 0, _, best, _ => best
  | len + 1, o, best, least => if o = d then p_my S d len (o + 1) best least else if p_tog S d o = true then p_my S d len (o + 1) best least else if p_mW S d o < least then p_my S d len (o + 1) (o + 1) (p_mW S d o) else p_my S d len (o + 1) best least
theorem p_mW_le (S : p_S) (d o : Nat) : p_mW S d o ≤ 1000000 := by
  unfold p_mW
  split
  · exact p_W_le _ _ _ _ _
  · omega
theorem p_my_le (S : p_S) (d : Nat) : ∀ len o best least, best ≤ o + len → p_my S d len o best least ≤ o + len
  | 0, _, _, _, h => h
  | len + 1, o, best, least, h => by
    rw [p_my]
    have e : ∀ b l, b ≤ o + 1 + len → p_my S d len (o + 1) b l ≤ o + (len + 1) := fun b l hb => by
      have := p_my_le S d len (o + 1) b l hb
      omega
    split
    · exact e _ _ (by omega)
    · split
      · exact e _ _ (by omega)
      · split
        · exact e _ _ (by omega)
        · exact e _ _ (by omega)
section OPS5
variable {X : Nat → q_St} {M : q_St}
theorem q60_kX {S : p_S} (hB : p_RB (X 1) S) (g : p_Good S) {d : Nat} (hd : d < p_nd S) (X0 : Nat → q_St) (z1 : Int32) : ∀ (len n k most least : Nat) (best : Int32) (X' : Nat → q_St), k + len = 7 → len < n → p_IX X X' → most ≤ 13 → least ≤ 1000000 → p_wp (f_X5_kindFor_29 X0 z1 n (nI d) best (p_hc most) (nI least) (nI k) X') (fun u => u.1 = p_kf S d len k best most least ∧ p_IX X u.2) := by
  have h8 := g.1
  have h12 := g.2.1
  intro len
  induction len with
  | zero =>
    intro n k most least best X' hi hn hX hm hl
    obtain ⟨n, rfl⟩ := p_suc (show 0 < n by omega)
    rw [f_X5_kindFor_29, if_pos (show (7 : Int32) ≤ nI k from nI_le (a := 7) (by omega) (by omega)), p_wp_some]
    exact ⟨rfl, hX⟩
  | succ len ih =>
    intro n k most least best X' hi hn hX hm hl
    obtain ⟨n, rfl⟩ := p_suc (show 0 < n by omega)
    have hB' : p_RB (X' 1) S := by rw [hX.2]; exact hB
    have gk := g_kind g (d := d) (v := k) (by omega)
    have ll := p_kL_le g d k
    have wl : p_kW S d k ≤ 1000000 := p_W_le _ _ _ _ _
    rw [f_X5_kindFor_29, if_neg (show ¬ (7 : Int32) ≤ nI k from nI_ge (b := 7) (by omega) (by omega)), p_kf]
    refine p_wp_seq (uX_take (B0 := X' 3) hB' g) (fun u3 h3 => ?_)
    refine p_wp_seq (uX_kind h3 g (v := k) hd) (fun u4 h4 => ?_)
    refine p_wp_seq (uX_dropW h4 gk) (fun u5 h5 => ?_)
    have gL := p_kp_good gk (fun i => !p_wr (p_u2 S 0 d k) i)
    refine p_wp_seq (q4_worth h5 gL (w := 0) (by decide) (X' 4)) (fun u hu => ?_)
    have e1 : u5.1 1 = nI (p_kL S d k).length := h5.2.1
    have e2 : u.1 = nI (p_kW S d k) := by
      rw [hu.1, p_W_sel, p_cs_sel]
      rfl
    have hX2 : p_IX X (va_up (va_up X' 3 u5) 4 u.2) := ⟨p_FX_trans hX.1 (p_FX_trans (p_FX_3 X' u5) (p_FX_4 _ u.2)), hX.2⟩
    rw [e1, e2, nI_1]
    have s1 := ih n (k + 1) ((p_kL S d k).length + 1) (p_kW S d k) (nI k) _ (by omega) (by omega) hX2 (by omega) wl
    rw [p_hcs] at s1
    have s2 := ih n (k + 1) most least best _ (by omega) (by omega) hX2 hm hl
    by_cases q : most ≤ (p_kL S d k).length
    · rw [if_pos ((p_hc_ltI (by omega) (by omega)).mpr q), if_pos q]
      exact s1
    · rw [if_neg (fun z => q ((p_hc_ltI (by omega) (by omega)).mp z)), if_neg q]
      by_cases q2 : (p_kL S d k).length + 1 = most
      · rw [if_pos (show nI (p_kL S d k).length = p_hc most by rw [← q2]; rfl), if_pos q2]
        by_cases q3 : p_kW S d k < least
        · rw [if_neg (nI_ge q3 (by omega)), if_pos q3]
          exact s1
        · rw [if_pos (nI_le (by omega) (by omega)), if_neg q3]
          exact s2
      · rw [if_neg (show ¬ nI (p_kL S d k).length = p_hc most from fun z => q2 ((p_hc_eq (a := (p_kL S d k).length + 1) (by omega) (by omega)).mp z)), if_neg q2]
        exact s2
theorem q60_kN {S : p_S} (g : p_Good S) {d : Nat} (hd : d < p_nd S) (M0 : q_St) (z1 : Int32) : ∀ (len n k kc most least : Nat) (best : Int32) (M' : q_St), k + len = 7 → len < n → kc < 7 → p_FS M M' → p_RN (M'.2 0) (p_u2 S 0 d kc) → most ≤ 13 → least ≤ 1000000 → p_wp (f_X6_kindFor_33 M0 z1 n (nI d) (nI (p_k S d)) best (p_hc most) (nI least) (nI k) M') (fun v => v.1 = p_kf S d len k best most least ∧ p_FS M v.2 ∧ p_RN (v.2.2 0) S) := by
  have h8 := g.1
  have h12 := g.2.1
  have a0 : f_X6_at (nI d) (0 : Int32) = some (nI (20 + 3 * d + 0)) := p_atX d 0
  intro len
  induction len with
  | zero =>
    intro n k kc most least best M' hi hn hkc hF hN hm hl
    obtain ⟨n, rfl⟩ := p_suc (show 0 < n by omega)
    have r := uN_d hN (g_kind g hkc) (d := d) (f := 0) (v := p_k S d) (by omega) (by omega)
    rw [p_u2_u2, show p_k S d = S.2.1 0 d from rfl, p_u2_same] at r
    rw [f_X6_kindFor_33, if_pos (show (6 : Int32) < nI k from nI_lt (a := 6) (by omega) (by omega)), a0, p_bind, p_q68 _ (by omega), p_cl (by omega), p_wp_some]
    exact ⟨rfl, p_FS_trans hF (p_FS_FM (p_FM_up M' _)), r⟩
  | succ len ih =>
    intro n k kc most least best M' hi hn hkc hF hN hm hl
    obtain ⟨n, rfl⟩ := p_suc (show 0 < n by omega)
    have ll := p_kL_le g d k
    have wl : p_kW S d k ≤ 1000000 := p_W_le _ _ _ _ _
    have gk := g_kind g (d := d) (v := k) (by omega)
    have r := uN_d hN (g_kind g hkc) (d := d) (f := 0) (v := k) (by omega) (by omega)
    rw [p_u2_u2] at r
    have r : p_RN (((M'.1, va_up M'.2 0 (upd (M'.2 0) (20 + 3 * d + 0) (nI k))) : q_St).2 0) (p_u2 S 0 d k) := r
    have al := p_all_lt2 gk
    have ml : (2 ^ p_nb (p_u2 S 0 d k) - 1) &&& (4095 ^^^ p_ws (p_u2 S 0 d k)) < 4096 := Nat.lt_of_le_of_lt Nat.and_le_left al
    have mb : ∀ j, j < 12 → ((2 ^ p_nb (p_u2 S 0 d k) - 1) &&& (4095 ^^^ p_ws (p_u2 S 0 d k))).testBit j = (decide (j < p_nb (p_u2 S 0 d k)) && !p_wr (p_u2 S 0 d k) j) := by
      intro j hj
      rw [q57_nbit hj, Nat.testBit_two_pow_sub_one, p_ws_bit]
      cases decide (j < p_nb (p_u2 S 0 d k)) <;> rfl
    have hmr := p_mr_kp (S := p_u2 S 0 d k) h12 mb
    have hbn : ∀ j, ((2 ^ p_nb (p_u2 S 0 d k) - 1) &&& (4095 ^^^ p_ws (p_u2 S 0 d k))).testBit j = true → j < p_nb (p_u2 S 0 d k) := by
      intro j hj
      rw [Nat.testBit_and, Nat.testBit_two_pow_sub_one, Bool.and_eq_true, decide_eq_true_eq] at hj
      exact hj.1
    have hbits : f_X6_bits (nI ((2 ^ p_nb (p_u2 S 0 d k) - 1) &&& (4095 ^^^ p_ws (p_u2 S 0 d k)))) = some (nI (p_kL S d k).length) := by
      rw [p_bits12 ml]
      unfold p_kL
      rw [p_kp_length]
      congr 2
      rw [show 12 = p_nb S + (12 - p_nb S) by omega, p_cf_add, p_cf_none (12 - p_nb S), Nat.add_zero]
      · refine p_cf_cong _ _ (fun j _ hj => ?_)
        rw [mb j (by omega), decide_eq_true (show j < p_nb (p_u2 S 0 d k) from (show j < p_nb S by omega)), Bool.true_and]
      · intro j h1 h2
        show Nat.testBit _ j = false
        rw [mb j (by omega), decide_eq_false (show ¬ j < p_nb (p_u2 S 0 d k) from (show ¬ j < p_nb S by omega)), Bool.false_and]
    rw [f_X6_kindFor_33, if_neg (show ¬ (6 : Int32) < nI k from nI_nlt (a := 6) (by omega) (by omega)), a0, p_bind, p_q68 _ (by omega), p_cl (by omega), bN_allBeats r gk, p_bind, bN_wrongBeats r gk, p_bind, q57_not al, p_kf]
    refine p_wp_seq (q5_find r gk (w := 0) (by decide) ml hbn) (fun u hu => ?_)
    have e2 : u.1 = nI (p_kW S d k) := by
      rw [hu.1, hmr]
      rfl
    have hR : p_RN (u.2.2 0) (p_u2 S 0 d k) := by rw [p_JF_row hu.2]; exact r
    have hF2 : p_FS M u.2 := p_FS_trans (p_FS_trans hF (p_FS_FM (p_FM_up M' _))) (p_FS_JF hu.2)
    rw [hbits, p_bind, e2, p_bind, p_bind, nI_1]
    have s1 := ih n (k + 1) k ((p_kL S d k).length + 1) (p_kW S d k) (nI k) u.2 (by omega) (by omega) (by omega) hF2 hR (by omega) wl
    rw [p_hcs] at s1
    have s2 := ih n (k + 1) k most least best u.2 (by omega) (by omega) (by omega) hF2 hR hm hl
    by_cases q : most ≤ (p_kL S d k).length
    · rw [if_pos ((p_hc_ltI (by omega) (by omega)).mpr q), if_pos q]
      exact s1
    · rw [if_neg (fun z => q ((p_hc_ltI (by omega) (by omega)).mp z)), if_neg q]
      by_cases q2 : (p_kL S d k).length + 1 = most
      · rw [if_pos (show nI (p_kL S d k).length = p_hc most by rw [← q2]; rfl), if_pos q2]
        by_cases q3 : p_kW S d k < least
        · rw [if_neg (nI_ge q3 (by omega)), if_pos q3]
          exact s1
        · rw [if_pos (nI_le (by omega) (by omega)), if_neg q3]
          exact s2
      · rw [if_neg (show ¬ nI (p_kL S d k).length = p_hc most from fun z => q2 ((p_hc_eq (a := (p_kL S d k).length + 1) (by omega) (by omega)).mp z)), if_neg q2]
        exact s2
theorem w_kindFor (h : p_Rel X M) (a : Int32) : p_Both (f_X5_kindFor X a) (f_X6_kindFor M a) := by
  have hr := h
  obtain ⟨S, hS⟩ := h
  have g := hS.1
  have hB := hS.2.1
  have hN := hS.2.2.1
  unfold f_X5_kindFor f_X6_kindFor
  rcases k_doll hB hN g a with ⟨d, hd, rfl, e1, e2⟩ | ⟨e1, e2⟩
  · have gd := g.d hd
    rw [e1, p_bind, if_neg p_n10, e2, p_bind, if_neg p_n10, bN_kind hN g hd, p_bind]
    have eN : p_u2 S 0 d (p_k S d) = S := p_u2_same S 0 d
    have x := q60_kX hB g hd X (nI d) 7 q_N 0 0 1000000 0 X (by omega) (by rw [q_N_eq]; omega) ⟨p_FX_refl X, rfl⟩ (by omega) (by omega)
    have y := q60_kN (M := M) g hd M (nI d) 7 q_N 0 (p_k S d) 0 0 (-1) M (by omega) (by rw [q_N_eq]; omega) gd.1 (p_FS_refl M) (by rw [eN]; exact hN) (by omega) (by omega)
    refine p_wp_mono x (fun u hu => p_wp_mono y (fun v hv => ?_))
    refine ⟨?_, S, p_Rel_mv hS g (by rw [hu.2.2]; exact hB) hv.2.2 hu.2.1 hv.2.1⟩
    have e0 : ∀ b l, p_kf S d 7 0 b 0 l = p_kf S d 6 1 (nI 0) ((p_kL S d 0).length + 1) (p_kW S d 0) := fun b l => if_pos (Nat.zero_le _)
    rw [hu.1, hv.1, e0, e0]
  · rw [e1, p_bind, if_pos p_z00, e2, p_bind, if_pos p_z00]
    exact p_noB hr
theorem q60_mX {S : p_S} (hB : p_RB (X 1) S) (g : p_Good S) {d : Nat} (hd : d < p_nd S) (X0 : Nat → q_St) (z1 : Int32) : ∀ (len n o best least : Nat) (X' : Nat → q_St), o + len = p_nd S → len < n → p_IX X X' → least ≤ 1000000 → ∃ X'', p_IX X X'' ∧ f_X5_mayor_26 X0 z1 n (nI d) (p_hc best) (nI least) (nI o) X' = (if p_hc (p_my S d len o best least) = (-1 : Int32) then (Option.bind (f_X5_finding X'' (-1000004 : Int32)) (fun u3 => some (u3.1, u3.2))) else some (p_hc (p_my S d len o best least), X'')) := by
  have h8 := g.1
  have h12 := g.2.1
  intro len
  induction len with
  | zero =>
    intro n o best least X' hi hn hX hl
    obtain ⟨n, rfl⟩ := p_suc (show 0 < n by omega)
    have hB' : p_RB (X' 1) S := by rw [hX.2]; exact hB
    refine ⟨X', hX, ?_⟩
    rw [f_X5_mayor_26, hB'.1, if_pos (nI_le (by omega) (by omega))]
    rfl
  | succ len ih =>
    intro n o best least X' hi hn hX hl
    obtain ⟨n, rfl⟩ := p_suc (show 0 < n by omega)
    have hB' : p_RB (X' 1) S := by rw [hX.2]; exact hB
    have ho : o < p_nd S := by omega
    rw [f_X5_mayor_26, hB'.1, if_neg (nI_ge (by omega) (by omega)), p_my]
    by_cases q : o = d
    · rw [if_pos (congrArg nI q), if_pos q, nI_1]
      exact ih n (o + 1) best least X' (by omega) (by omega) hX hl
    · rw [if_neg (fun z => q ((nI_eq (by omega) (by omega)).mp z)), if_neg q, bX_tog hB' g (by omega) (by omega), p_bind, p_bif]
      cases ht : p_tog S d o with
      | true =>
        rw [if_pos rfl, if_pos rfl, nI_1]
        exact ih n (o + 1) best least X' (by omega) (by omega) hX hl
      | false =>
        rw [if_neg (by decide), if_neg (by decide)]
        obtain ⟨u5, h5, h5'⟩ := uX_take (B0 := X' 3) hB' g
        obtain ⟨u6, h6, h6'⟩ := uX_rep h5' g ho hd
        have gr := g_rp g ho hd (p_nb S)
        have ml := p_mW_le S d o
        rw [h5, p_bind, h6, p_bind, bX_isGoing h6' gr, p_bind, p_bif]
        cases hg : p_go (p_rp S o d (p_nb S)) with
        | false =>
          have em : p_mW S d o = 1000000 := by unfold p_mW; rw [hg]; rfl
          rw [if_neg (by decide), if_pos (show nI least ≤ (1000000 : Int32) from nI_le (b := 1000000) hl (by omega)), em, if_neg (show ¬ 1000000 < least by omega), nI_1]
          exact ih n (o + 1) best least _ (by omega) (by omega) ⟨p_FX_trans hX.1 (p_FX_3 X' u6), hX.2⟩ hl
        | true =>
          obtain ⟨u, hu, hu1, _⟩ := q4_worth h6' gr (w := 0) (by decide) (X' 4)
          have em : u.1 = nI (p_mW S d o) := by
            rw [hu1]
            unfold p_mW
            rw [hg, if_pos rfl]
            rfl
          have hu : f_X4_worth (X' 4) u6 (0 : Int32) = some u := hu
          have hX2 : p_IX X (va_up (va_up X' 3 u6) 4 u.2) := ⟨p_FX_trans hX.1 (p_FX_trans (p_FX_3 X' u6) (p_FX_4 _ u.2)), hX.2⟩
          rw [if_pos rfl, hu, p_bind, em, nI_1]
          by_cases y : p_mW S d o < least
          · rw [if_neg (nI_ge y (by omega)), if_pos y, ← p_hcs o]
            exact ih n (o + 1) (o + 1) _ _ (by omega) (by omega) hX2 ml
          · rw [if_pos (nI_le (by omega) (by omega)), if_neg y]
            exact ih n (o + 1) best least _ (by omega) (by omega) hX2 hl
theorem q60_mN {S : p_S} (g : p_Good S) {d : Nat} (hd : d < p_nd S) (M0 : q_St) (z1 : Int32) : ∀ (len n o best least : Nat) (M' : q_St), o + len = p_nd S → len < n → p_FS M M' → p_RN (M'.2 0) S → p_RN (M'.2 2) S → least ≤ 1000000 → best < 2 ^ 31 → ∃ M'', (p_FS M M'' ∧ p_RN (M''.2 0) S) ∧ f_X6_mayor_34 M0 z1 n (nI d) (p_hc best) (nI least) (nI o) M' = (if (0 : Int32) ≤ p_hc (p_my S d len o best least) then some (p_hc (p_my S d len o best least), M'') else (Option.bind (f_X6_finding M'' (-1000004 : Int32)) (fun u3 => some (u3.1, u3.2)))) := by
  have h8 := g.1
  have h12 := g.2.1
  intro len
  induction len with
  | zero =>
    intro n o best least M' hi hn hF hN hA hl hb
    obtain ⟨n, rfl⟩ := p_suc (show 0 < n by omega)
    refine ⟨M', ⟨hF, hN⟩, ?_⟩
    rw [f_X6_mayor_34, p_Q0, p_C0, hN.1, if_pos (nI_le (by omega) (by omega))]
    rfl
  | succ len ih =>
    intro n o best least M' hi hn hF hN hA hl hb
    obtain ⟨n, rfl⟩ := p_suc (show 0 < n by omega)
    have ho : o < p_nd S := by omega
    rw [f_X6_mayor_34, p_Q0, p_C0, hN.1, if_neg (nI_ge (by omega) (by omega)), p_my]
    by_cases q : o = d
    · rw [if_pos (congrArg nI q), if_pos q, nI_1]
      exact ih n (o + 1) best least M' (by omega) (by omega) hF hN hA hl hb
    · rw [if_neg (fun z => q ((nI_eq (by omega) (by omega)).mp z)), if_neg q, bN_tog hN g (by omega) (by omega), p_bind, p_bif]
      cases ht : p_tog S d o with
      | true =>
        rw [if_pos rfl, if_pos rfl, nI_1]
        exact ih n (o + 1) best least M' (by omega) (by omega) hF hN hA hl hb
      | false =>
        rw [if_neg (by decide), if_neg (by decide)]
        obtain ⟨u6, h6, h6F, h6N⟩ := uM_rep hN g ho hd
        have gr := g_rp g ho hd (p_nb S)
        have ml := p_mW_le S d o
        have fin : ∀ M2 : q_St, p_FS M M2 → p_RN (M2.2 2) S → ∃ M'', (p_FS M M'' ∧ p_RN (M''.2 0) S) ∧ f_X6_mayor_89 M0 z1 (fun x1 x2 x3 x4 M' => f_X6_mayor_34 M0 z1 n x1 x2 x3 x4 M') (nI d) (p_hc best) (nI least) (nI o) (nI (p_mW S d o)) M2 = (if (0 : Int32) ≤ p_hc (if p_mW S d o < least then p_my S d len (o + 1) (o + 1) (p_mW S d o) else p_my S d len (o + 1) best least) then some (p_hc (if p_mW S d o < least then p_my S d len (o + 1) (o + 1) (p_mW S d o) else p_my S d len (o + 1) best least), M'') else (Option.bind (f_X6_finding M'' (-1000004 : Int32)) (fun u3 => some (u3.1, u3.2)))) := by
          intro M2 hF2 hA2
          obtain ⟨v, hv, hv0, hv1⟩ := q50_cp (M2.2 2) (M2.2 0)
          have hF3 : p_FS M (M2.1, va_up (va_up M2.2 0 (v.2 1)) 2 (v.2 0)) := p_FS_trans hF2 ⟨rfl, rfl, rfl, rfl, rfl, rfl, rfl, rfl⟩
          have hN3 : p_RN (((M2.1, va_up (va_up M2.2 0 (v.2 1)) 2 (v.2 0)) : q_St).2 0) S := p_RN_eq hA2 g hv1
          have hA3 : p_RN (((M2.1, va_up (va_up M2.2 0 (v.2 1)) 2 (v.2 0)) : q_St).2 2) S := by
            show p_RN (v.2 0) S
            rw [hv0]; exact hA2
          unfold f_X6_mayor_89
          rw [hv, p_bind, p_bind, p_ifI (by omega) (by omega), nI_1]
          by_cases y : p_mW S d o < least
          · rw [if_neg (nI_ge y (by omega)), if_pos y, if_pos y, ← p_hcs o]
            exact ih n (o + 1) (o + 1) _ _ (by omega) (by omega) hF3 hN3 hA3 ml (by omega)
          · rw [if_pos (nI_le (by omega) (by omega)), if_neg y, if_neg y]
            exact ih n (o + 1) best least _ (by omega) (by omega) hF3 hN3 hA3 hl hb
        have hF6 : p_FS M u6 := p_FS_trans hF (p_FS_FM h6F)
        have hA6 : p_RN (u6.2 2) S := by rw [h6F.2 2 (by decide)]; exact hA
        rw [h6, p_bind, bN_doesGo h6N gr, p_bind, p_bif]
        cases hg : p_go (p_rp S o d (p_nb S)) with
        | false =>
          have em : p_mW S d o = 1000000 := by unfold p_mW; rw [hg]; rfl
          have f := fin u6 hF6 hA6
          rw [em] at f ⊢
          rw [if_neg (by decide)]
          exact f
        | true =>
          rw [if_pos rfl, bN_allBeats h6N gr, p_bind]
          obtain ⟨u, hu, hu1, hu2⟩ := q53_all h6N gr (w := 0) (by decide)
          have em : u.1 = nI (p_mW S d o) := by
            rw [hu1]
            unfold p_mW
            rw [hg, if_pos rfl]
            rfl
          have hu : f_X6_findWay u6 (nI (2 ^ p_nb (p_rp S o d (p_nb S)) - 1)) (0 : Int32) = some u := hu
          rw [hu, p_bind, em]
          exact fin u.2 (p_FS_trans hF6 (p_FS_JF hu2)) (by rw [hu2.2.1 2 (by decide) (by decide)]; exact hA6)
theorem w_mayor (h : p_Rel X M) (a : Int32) : p_Both (f_X5_mayor X a) (f_X6_mayor M a) := by
  have hr := h
  obtain ⟨S, hS⟩ := h
  have g := hS.1
  have h8 := g.1
  have hB := hS.2.1
  have hN := hS.2.2.1
  unfold f_X5_mayor f_X6_mayor
  rcases k_doll hB hN g a with ⟨d, hd, rfl, e1, e2⟩ | ⟨e1, e2⟩
  · rw [e1, p_bind, if_neg p_n10, e2, p_bind, if_neg p_n10]
    obtain ⟨v, hv, hv0, hv1⟩ := q50_cp (M.2 0) (M.2 2)
    rw [hv, p_bind]
    have hF3 : p_FS M (M.1, va_up (va_up M.2 0 (v.2 0)) 2 (v.2 1)) := ⟨rfl, rfl, rfl, rfl, rfl, rfl, rfl, rfl⟩
    have hN3 : p_RN (((M.1, va_up (va_up M.2 0 (v.2 0)) 2 (v.2 1)) : q_St).2 0) S := by
      show p_RN (v.2 0) S
      rw [hv0]; exact hN
    have hA3 : p_RN (((M.1, va_up (va_up M.2 0 (v.2 0)) 2 (v.2 1)) : q_St).2 2) S := p_RN_eq hN g hv1
    obtain ⟨X'', hX, ex⟩ := q60_mX hB g hd X (nI d) (p_nd S) q_N 0 0 1000000 X (by omega) (by rw [q_N_eq]; omega) ⟨p_FX_refl X, rfl⟩ (by omega)
    obtain ⟨M'', ⟨hF, hN'⟩, em⟩ := q60_mN (M := M) g hd M (nI d) (p_nd S) q_N 0 0 1000000 _ (by omega) (by rw [q_N_eq]; omega) hF3 hN3 hA3 (by omega) (by omega)
    have ex : f_X5_mayor_26 X (nI d) q_N (nI d) (-1 : Int32) (1000000 : Int32) (0 : Int32) X = _ := ex
    have em : f_X6_mayor_34 M (nI d) q_N (nI d) (-1 : Int32) (1000000 : Int32) (0 : Int32) (M.1, va_up (va_up M.2 0 (v.2 0)) 2 (v.2 1)) = _ := em
    have rel : p_Rel X'' M'' := ⟨S, p_Rel_mv hS g (by rw [hX.2]; exact hB) hN' hX.1 hF⟩
    have le := p_my_le S d (p_nd S) 0 0 1000000 (by omega)
    rw [ex, em]
    by_cases z : p_my S d (p_nd S) 0 0 1000000 = 0
    · rw [if_pos ((p_hc_m1 (by omega)).mpr z), if_neg (fun y => (p_hc_ge0 (by omega)).mp y z)]
      exact p_noN rel
    · rw [if_neg (fun y => z ((p_hc_m1 (by omega)).mp y)), if_pos ((p_hc_ge0 (by omega)).mpr z)]
      exact p_Both_of rfl rfl rel
  · rw [e1, p_bind, if_pos p_z00, e2, p_bind, if_pos p_z00]
    exact p_noB hr
end OPS5
