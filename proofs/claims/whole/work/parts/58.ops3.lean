/-! the calls, on both sides: ways -/
theorem p_go2 {α : Type} (q : Bool) (x y : α) (h : q = true) : (if q = true then x else y) = x := if_pos h
/-- what the play is worth without a beat -/
def p_dw (S : p_S) (k : Nat) : Nat := p_W S 0 ((p_kp (fun i => decide (i ≠ k)) (p_nb S) 0).map (p_c S)) (p_l S) (p_r S)
def p_de (S : p_S) : Nat → Nat → Int32 → Nat → Int32
  | 0, _, best, _ => best
  | len + 1, k, best, least => if p_dw S k < least then p_de S len (k + 1) (nI k) (p_dw S k) else p_de S len (k + 1) best least
section OPS3
variable {X : Nat → q_St} {M : q_St}
theorem w_least (h : p_Rel X M) (a : Int32) : p_Both (f_X5_least X a) (f_X6_least M a) := by
  have hr := h
  obtain ⟨S, hS⟩ := h
  have g := hS.1
  have hB := hS.2.1
  have hN := hS.2.2.1
  unfold f_X5_least f_X6_least
  rcases k_what a with ⟨w, hw, rfl, e1, e2⟩ | ⟨e1, e2⟩
  · rw [e1, p_bind, if_neg p_n10, e2, p_bind, if_neg p_n10, bX_isGoing hB g, p_bind, bN_doesGo hN g, p_bind, p_bif, p_bif]
    cases hg : p_go S with
    | false =>
      rw [if_neg (by decide), if_neg (by decide)]
      exact p_noS hr
    | true =>
      rw [if_pos rfl, if_pos rfl, bN_allBeats hN g, p_bind]
      refine p_wp_seq (q4_worth hB g hw (X 4)) (fun u hu => ?_)
      rw [p_wp_some]
      refine p_wp_seq (q53_all hN g hw) (fun v hv => ?_)
      rw [p_wp_some]
      exact ⟨hu.1.trans hv.1.symm, S, p_Rel_mv hS g hB (by show p_RN (v.2.2 0) S; rw [p_JF_row hv.2]; exact hN) (p_FX_4 X _) (p_FS_JF hv.2)⟩
  · rw [e1, p_bind, if_pos p_z00, e2, p_bind, if_pos p_z00]
    exact p_noB hr
theorem q58_held {S : p_S} {w m0 : Nat} {M0 M' : q_St} (g : p_Good S) (hw : w < 2) (hok : p_ok S (p_cs S)) (hR : p_RN (M'.2 0) S) (hJ : p_JF S (2 ^ p_nb S - 1) w M0 0 0 M') {k hd : Nat} (hk : k < p_nb S) (hh : hd < 2) (Z : q_St) (z1 z2 z3 : Int32) : ∀ (len n i : Nat), i + len = k + 1 → len < n → f_X6_held_74 Z z1 z2 z3 n (nI k) (nI hd) (nI w) (nI (p_gw S w (p_cs S) (p_hd (p_l S) (p_r S)) i)) (nI i) M' = some (if hd = 0 then p_hc (p_gw S w (p_cs S) (p_hd (p_l S) (p_r S)) (k + 1) / 9) else p_hc (p_gw S w (p_cs S) (p_hd (p_l S) (p_r S)) (k + 1) % 9), M') := by
  have h8 := g.1
  have h12 := g.2.1
  intro len
  induction len with
  | zero =>
    intro n i hi hn
    obtain ⟨n, rfl⟩ := p_suc (show 0 < n by omega)
    have : i = k + 1 := by omega
    subst this
    have ho := p_gw_ho g (w := w) hok (p_ho_now g) (k + 1) (by rw [p_cs_len]; omega)
    have hl := p_ho_lt h8 ho
    rw [f_X6_held_74, if_pos (nI_lt (by omega) (by omega)), p_leftT _ hl, p_bind, p_rightT _ hl, p_bind]
    have h01 : hd = 0 ∨ hd = 1 := by omega
    rcases h01 with rfl | rfl
    · rw [if_pos (show nI 0 = 0 from rfl), if_pos rfl]
    · rw [if_neg (show ¬ nI 1 = 0 by decide), if_neg (by decide)]
  | succ len ih =>
    intro n i hi hn
    obtain ⟨n, rfl⟩ := p_suc (show 0 < n by omega)
    have ho := p_gw_ho g (w := w) hok (p_ho_now g) i (by rw [p_cs_len]; omega)
    rw [f_X6_held_74, if_neg (nI_nlt (by omega) (by omega)), q53_nx (M0 := M0) g hw hok hR hJ (by omega) ho, p_bind, nI_1]
    exact ih n (i + 1) (by omega) (by omega)
theorem bN_holdNow {S : p_S} (hR : p_RN (M.2 0) S) (g : p_Good S) : f_X6_holdNow M = some (nI (p_hd (p_l S) (p_r S))) := by
  have h8 := g.1
  have hl := g.2.2.1
  have hrr := g.2.2.2.1
  unfold f_X6_holdNow
  rw [p_Q2, p_Q3, p_C2, p_C3, hR.2.2.1, hR.2.2.2.1, p_nowX _ (by omega) _ (by omega)]
theorem w_held (h : p_Rel X M) (a b c : Int32) : p_Both (f_X5_held X a b c) (f_X6_held M a b c) := by
  have hr := h
  obtain ⟨S, hS⟩ := h
  have g := hS.1
  have hB := hS.2.1
  have hN := hS.2.2.1
  have h12 := g.2.1
  unfold f_X5_held f_X6_held
  rcases k_beat hB hN g a with ⟨k, hk, rfl, e1, e2⟩ | ⟨e1, e2⟩
  · rw [e1, p_bind, if_neg p_n10, e2, p_bind, if_neg p_n10]
    rcases k_hand b with ⟨hd, hh, rfl, f1, f2⟩ | ⟨f1, f2⟩
    · rw [f1, p_bind, if_neg p_n10, f2, p_bind, if_neg p_n10]
      rcases k_what c with ⟨w, hw, rfl, c1, c2⟩ | ⟨c1, c2⟩
      · rw [c1, p_bind, if_neg p_n10, c2, p_bind, if_neg p_n10, bX_isGoing hB g, p_bind, bN_doesGo hN g, p_bind, p_bif, p_bif]
        cases hg : p_go S with
        | false =>
          rw [if_neg (by decide), if_neg (by decide)]
          exact p_noS hr
        | true =>
          have hok := p_ok_go g hg
          rw [if_pos rfl, if_pos rfl, bN_allBeats hN g, p_bind]
          refine p_wp_seq (q53_follow hB g hw hok (X 4)) (fun u hu => ?_)
          obtain ⟨v, ev, v1, v2⟩ := q53_all hN g hw
          have hR : p_RN (v.2.2 0) S := by rw [p_JF_row v2]; exact hN
          have hW := p_ok_W g hok w 0 (p_l S) (p_r S)
          rw [List.drop_zero] at hW
          have eh := q58_held (m0 := 0) g hw hok hR v2 hk hh M (nI k) (nI hd) (nI w) (k + 1) q_N 0 (by omega) (by rw [q_N_eq]; omega)
          have eh : f_X6_held_74 M (nI k) (nI hd) (nI w) q_N (nI k) (nI hd) (nI w) (nI (p_hd (p_l S) (p_r S))) (0 : Int32) v.2 = _ := eh
          have fin : p_Rel (va_up X 4 u) v.2 := ⟨S, p_Rel_mv hS g hB hR (p_FX_4 X _) (p_FS_JF v2)⟩
          rw [ev, p_bind, v1, if_neg (show ¬ (1000000 : Int32) ≤ nI _ from nI_ge (b := 1000000) hW (by omega)), bN_holdNow hR g, p_bind, eh]
          have le : f_X4_leftIn u (nI k) = some (p_hc (p_gw S w (p_cs S) (p_hd (p_l S) (p_r S)) (k + 1) / 9)) := by
            unfold f_X4_leftIn
            rw [if_neg (nI_pos (by omega)), if_neg (show ¬ (12 : Int32) ≤ nI k from nI_ge (b := 12) (by omega) (by omega)), p_ix (show k < 12 by omega) (by omega), p_cl (by omega), (hu k hk).1]
          have re : f_X4_rightIn u (nI k) = some (p_hc (p_gw S w (p_cs S) (p_hd (p_l S) (p_r S)) (k + 1) % 9)) := by
            unfold f_X4_rightIn
            rw [if_neg (nI_pos (by omega)), if_neg (show ¬ (12 : Int32) ≤ nI k from nI_ge (b := 12) (by omega) (by omega)), p_ix (show k < 12 by omega) (by omega), p_cl (by omega), (hu k hk).2]
          have h01 : hd = 0 ∨ hd = 1 := by omega
          rcases h01 with rfl | rfl
          · rw [if_pos (show nI 0 = 0 from rfl), if_pos rfl, le]
            exact p_Both_of rfl rfl fin
          · rw [if_neg (show ¬ nI 1 = 0 by decide), if_neg (by decide), re]
            exact p_Both_of rfl rfl fin
      · rw [c1, p_bind, if_pos p_z00, c2, p_bind, if_pos p_z00]
        exact p_noB hr
    · rw [f1, p_bind, if_pos p_z00, f2, p_bind, if_pos p_z00]
      exact p_noB hr
  · rw [e1, p_bind, if_pos p_z00, e2, p_bind, if_pos p_z00]
    exact p_noB hr
theorem w_part (h : p_Rel X M) (a b c : Int32) : p_Both (f_X5_part X a b c) (f_X6_part M a b c) := by
  have hr := h
  obtain ⟨S, hS⟩ := h
  have g := hS.1
  have hB := hS.2.1
  have hN := hS.2.2.1
  have h12 := g.2.1
  unfold f_X5_part f_X6_part
  rcases k_beat hB hN g a with ⟨i, hi, rfl, e1, e2⟩ | ⟨e1, e2⟩
  · rw [e1, p_bind, if_neg p_n10, e2, p_bind, if_neg p_n10]
    rcases k_beat hB hN g b with ⟨j, hj, rfl, f1, f2⟩ | ⟨f1, f2⟩
    · rw [f1, p_bind, if_neg p_n10, f2, p_bind, if_neg p_n10]
      by_cases hij : j < i
      · rw [if_pos (nI_lt hij (by omega)), if_pos (nI_lt hij (by omega))]
        exact p_noB hr
      · have nij : ¬ nI j < nI i := nI_nlt (by omega) (by omega)
        rw [if_neg nij, if_neg nij]
        rcases k_what c with ⟨w, hw, rfl, c1, c2⟩ | ⟨c1, c2⟩
        · have hm1 : 2 ^ i ≤ 2 ^ (j + 1) := Nat.pow_le_pow_right (by decide) (by omega)
          have hm2 : 2 ^ (j + 1) ≤ 2 ^ 12 := Nat.pow_le_pow_right (by decide) (by omega)
          have hbit : ∀ k, k < 12 → (2 ^ (j + 1) - 2 ^ i).testBit k = (decide (k < p_nb S) && (decide (i ≤ k) && decide (k ≤ j))) := by
            intro k hk
            have := q57_rbit j (by omega) i (by omega) k hk
            rw [decide_eq_true (show i ≤ j by omega), Bool.not_true, Bool.false_or, beq_iff_eq] at this
            rw [this]
            by_cases q : k ≤ j
            · rw [decide_eq_true (show k < p_nb S by omega), Bool.true_and]
            · rw [decide_eq_false q, Bool.and_false, Bool.and_false]
          have hmr := p_mr_kp (S := S) h12 hbit
          have hbn : ∀ k, (2 ^ (j + 1) - 2 ^ i).testBit k = true → k < p_nb S := by
            intro k hk
            by_cases q : k < 12
            · rw [hbit k q, Bool.and_eq_true, decide_eq_true_eq] at hk
              exact hk.1
            · rw [Nat.testBit_lt_two_pow (Nat.lt_of_lt_of_le (show 2 ^ (j + 1) - 2 ^ i < 2 ^ 12 by have := Nat.two_pow_pos i; omega) (Nat.pow_le_pow_right (by decide) (by omega)))] at hk
              cases hk
          have hgo : p_go (p_sel S (p_kp (fun k => decide (i ≤ k) && decide (k ≤ j)) (p_nb S) 0)) = true ↔ p_ws S &&& (2 ^ (j + 1) - 2 ^ i) = 0 := by
            rw [p_go_sel]
            constructor
            · intro hq
              apply Nat.eq_of_testBit_eq
              intro k
              rw [Nat.testBit_and, Nat.zero_testBit, p_ws_bit]
              by_cases q : k < p_nb S
              · rw [hbit k (by omega), decide_eq_true q, Bool.true_and, Bool.true_and]
                cases y : (decide (i ≤ k) && decide (k ≤ j)) with
                | false => rw [Bool.and_false]
                | true => rw [hq k q y]; rfl
              · rw [decide_eq_false q]; rfl
            · intro hq k hk hy
              have := congrArg (fun n => Nat.testBit n k) hq
              simp only [Nat.testBit_and, Nat.zero_testBit] at this
              rw [p_ws_bit, hbit k (by omega), decide_eq_true hk, Bool.true_and, Bool.true_and, hy, Bool.and_true] at this
              exact this
          have wl := p_ws_lt g
          have al : p_ws S &&& (2 ^ (j + 1) - 2 ^ i) < 4096 := Nat.lt_of_le_of_lt Nat.and_le_left wl
          rw [c1, p_bind, if_neg p_n10, c2, p_bind, if_neg p_n10, bN_wrongBeats hN g, p_bind, q57_rng j (by omega) i (by omega), pk_sub hm1, fa_and]
          refine p_wp_seq (uX_take (B0 := X 3) hB g) (fun u7 h7 => ?_)
          refine p_wp_seq (uX_keep h7 g (by omega) (by omega)) (fun u8 h8 => ?_)
          have gL := p_kp_good g (fun k => decide (i ≤ k) && decide (k ≤ j))
          rw [bX_isGoing h8 gL, p_bind, p_bif]
          by_cases z : p_ws S &&& (2 ^ (j + 1) - 2 ^ i) = 0
          · rw [if_pos (hgo.mpr z), if_pos (show nI (p_ws S &&& (2 ^ (j + 1) - 2 ^ i)) = 0 by rw [z]; rfl)]
            refine p_wp_seq (q4_worth h8 gL hw (X 4)) (fun u hu => ?_)
            rw [p_wp_some]
            refine p_wp_seq (q5_find hN g hw (m := 2 ^ (j + 1) - 2 ^ i) (by have := Nat.two_pow_pos i; omega) hbn) (fun v hv => ?_)
            rw [p_wp_some]
            refine ⟨?_, S, p_Rel_mv hS g hB (by show p_RN (v.2.2 0) S; rw [p_JF_row hv.2]; exact hN) (p_FX_trans (p_FX_3 X u8) (p_FX_4 _ u.2)) (p_FS_JF hv.2)⟩
            show u.1 = v.1
            rw [hu.1, hv.1, p_W_sel, p_cs_sel, hmr]
            rfl
          · rw [if_neg (fun y => z (hgo.mp y)), if_neg (show ¬ nI (p_ws S &&& (2 ^ (j + 1) - 2 ^ i)) = 0 from fun y => z ((nI_eq (b := 0) (by omega) (by omega)).mp y))]
            exact p_noS (X := va_up X 3 u8) ⟨S, p_Rel_mv hS g hB hN (p_FX_3 X u8) (p_FS_refl M)⟩
        · rw [c1, p_bind, if_pos p_z00, c2, p_bind, if_pos p_z00]
          exact p_noB hr
    · rw [f1, p_bind, if_pos p_z00, f2, p_bind, if_pos p_z00]
      exact p_noB hr
  · rw [e1, p_bind, if_pos p_z00, e2, p_bind, if_pos p_z00]
    exact p_noB hr
theorem p_dw_le (S : p_S) (k : Nat) : p_dw S k ≤ 1000000 := p_W_le _ _ _ _ _
theorem q58_dX {S : p_S} (g : p_Good S) (X0 : Nat → q_St) : ∀ (len n k least : Nat) (best : Int32) (X : Nat → q_St), k + len = p_nb S → len < n → least ≤ 1000000 → p_RB (X 1) S → p_wp (f_X5_dear_41 X0 n best (nI least) (nI k) X) (fun u => u.1 = p_de S len k best least ∧ p_FX X u.2 ∧ u.2 1 = X 1) := by
  have h12 := g.2.1
  intro len
  induction len with
  | zero =>
    intro n k least best X hi hn hl hB
    obtain ⟨n, rfl⟩ := p_suc (show 0 < n by omega)
    rw [f_X5_dear_41, hB.2.1, if_pos (nI_le (by omega) (by omega)), p_wp_some]
    exact ⟨rfl, p_FX_refl X, rfl⟩
  | succ len ih =>
    intro n k least best X hi hn hl hB
    obtain ⟨n, rfl⟩ := p_suc (show 0 < n by omega)
    have dl := p_dw_le S k
    rw [f_X5_dear_41, hB.2.1, if_neg (nI_ge (by omega) (by omega)), p_de]
    refine p_wp_seq (uX_take (B0 := X 3) hB g) (fun u4 h4 => ?_)
    have hk : k < (List.range (p_nb S)).length := by rw [List.length_range]; omega
    have gF : p_Good (p_sel S (List.range (p_nb S))) := g_sel g (by rw [List.length_range]; exact h12) (fun i hi => List.mem_range.mp hi)
    have dr := uX_drop (p_RB_full h4) gF (k := k) hk
    rw [p_del_sel S hk, ← p_kp_but (show k < p_nb S by omega)] at dr
    refine p_wp_seq dr (fun u5 h5 => ?_)
    have gL := p_kp_good g (fun i => decide (i ≠ k))
    refine p_wp_seq (q4_worth h5 gL (w := 0) (by decide) (X 4)) (fun u hu => ?_)
    have e : u.1 = nI (p_dw S k) := by
      rw [hu.1, p_W_sel, p_cs_sel]
      rfl
    rw [e, nI_1]
    by_cases q : p_dw S k < least
    · rw [if_neg (nI_ge q (by omega)), if_pos q]
      refine p_wp_mono (ih n (k + 1) _ _ _ (by omega) (by omega) dl hB) ?_
      rintro v ⟨v1, v2, v3⟩
      exact ⟨v1, p_FX_trans (p_FX_trans (p_FX_3 X u5) (p_FX_4 _ u.2)) v2, v3⟩
    · rw [if_pos (nI_le (by omega) (by omega)), if_neg q]
      refine p_wp_mono (ih n (k + 1) _ _ _ (by omega) (by omega) hl hB) ?_
      rintro v ⟨v1, v2, v3⟩
      exact ⟨v1, p_FX_trans (p_FX_trans (p_FX_3 X u5) (p_FX_4 _ u.2)) v2, v3⟩
theorem q58_dN {S : p_S} (g : p_Good S) (M0 : q_St) : ∀ (len n k least : Nat) (best : Int32) (M : q_St), k + len = p_nb S → len < n → least ≤ 1000000 → p_RN (M.2 0) S → p_wp (f_X6_dear_37 M0 n best (nI least) (nI k) M) (fun v => v.1 = p_de S len k best least ∧ p_FS M v.2 ∧ v.2.2 0 = M.2 0) := by
  have h12 := g.2.1
  intro len
  induction len with
  | zero =>
    intro n k least best M hi hn hl hN
    obtain ⟨n, rfl⟩ := p_suc (show 0 < n by omega)
    rw [f_X6_dear_37, p_Q1, p_C1, hN.2.1, if_pos (nI_le (by omega) (by omega)), p_wp_some]
    exact ⟨rfl, p_FS_refl M, rfl⟩
  | succ len ih =>
    intro n k least best M hi hn hl hN
    obtain ⟨n, rfl⟩ := p_suc (show 0 < n by omega)
    have dl := p_dw_le S k
    have hb := q57_bits (p_nb S) (by omega) k (by omega)
    have hlt := q57_lt (p_nb S) (by omega) k (by omega)
    have hmr := p_mr_kp (S := S) h12 (q := fun i => decide (i ≠ k)) hb
    have hbn : ∀ j, ((2 ^ p_nb S - 1) &&& (4095 ^^^ 2 ^ k)).testBit j = true → j < p_nb S := by
      intro j hj
      rw [Nat.testBit_and, Nat.testBit_two_pow_sub_one, Bool.and_eq_true, decide_eq_true_eq] at hj
      exact hj.1
    rw [f_X6_dear_37, p_Q1, p_C1, hN.2.1, if_neg (nI_ge (by omega) (by omega)), p_de, bN_allBeats hN g, p_bind, q57_and (p_nb S) (by omega) k (by omega)]
    refine p_wp_seq (q5_find hN g (w := 0) (by decide) hlt hbn) (fun u hu => ?_)
    have e : u.1 = nI (p_dw S k) := by
      rw [hu.1, hmr]
      rfl
    have hR : p_RN (u.2.2 0) S := by rw [p_JF_row hu.2]; exact hN
    rw [e, p_ifI (by omega) (by omega), nI_1]
    by_cases q : p_dw S k < least
    · rw [if_neg (nI_ge q (by omega)), if_pos q, if_pos q]
      refine p_wp_mono (ih n (k + 1) _ _ _ (by omega) (by omega) dl hR) ?_
      rintro v ⟨v1, v2, v3⟩
      exact ⟨v1, p_FS_trans (p_FS_JF hu.2) v2, v3.trans (p_JF_row hu.2)⟩
    · rw [if_pos (nI_le (by omega) (by omega)), if_neg q, if_neg q]
      refine p_wp_mono (ih n (k + 1) _ _ _ (by omega) (by omega) hl hR) ?_
      rintro v ⟨v1, v2, v3⟩
      exact ⟨v1, p_FS_trans (p_FS_JF hu.2) v2, v3.trans (p_JF_row hu.2)⟩
theorem w_dear (h : p_Rel X M) : p_Both (f_X5_dear X) (f_X6_dear M) := by
  have hr := h
  obtain ⟨S, hS⟩ := h
  have g := hS.1
  have hB := hS.2.1
  have hN := hS.2.2.1
  have h12 := g.2.1
  unfold f_X5_dear f_X6_dear
  rw [p_Q1, p_C1, hB.2.1, hN.2.1]
  by_cases z : p_nb S = 0
  · have z' : nI (p_nb S) = 0 := by rw [z]; rfl
    rw [if_pos z', if_pos z']
    exact p_noN hr
  · have z' : ¬ nI (p_nb S) = 0 := fun y => z ((nI_eq (b := 0) (by omega) (by omega)).mp y)
    rw [if_neg z', if_neg z', bX_isGoing hB g, p_bind, bN_doesGo hN g, p_bind, p_bif, p_bif]
    cases hg : p_go S with
    | false =>
      rw [if_neg (by decide), if_neg (by decide)]
      exact p_noS hr
    | true =>
      have hok := p_ok_go g hg
      rw [if_pos rfl, if_pos rfl]
      have e1 := q58_dX g X (p_nb S) q_N 0 1000000 0 X (by omega) (by rw [q_N_eq]; omega) (by omega) hB
      have e2 := q58_dN g M (p_nb S) q_N 0 1000000 (-1) M (by omega) (by rw [q_N_eq]; omega) (by omega) hN
      refine p_wp_mono e1 (fun u hu => p_wp_mono e2 (fun v hv => ?_))
      obtain ⟨u1, u2, u3⟩ := hu
      obtain ⟨v1, v2, v3⟩ := hv
      refine ⟨?_, S, p_Rel_mv hS g (by rw [u3]; exact hB) (by rw [v3]; exact hN) u2 v2⟩
      rw [u1, v1]
      have far : p_dw S 0 < 1000000 := by
        unfold p_dw
        have hl := p_kp_len (fun i => decide (i ≠ 0)) (p_nb S) 0
        have := p_W_far g (w := 0) ((p_kp (fun i => decide (i ≠ 0)) (p_nb S) 0).map (p_c S)) (by rw [List.length_map]; omega) (fun c hc => by
          obtain ⟨i, hi, rfl⟩ := List.mem_map.mp hc
          have := p_kp_mem _ _ _ _ hi
          apply hok.2
          unfold p_cs
          exact List.mem_map.mpr ⟨i, List.mem_range.mpr (by omega), rfl⟩) (p_l S) (p_r S)
        rw [List.length_map] at this
        omega
      obtain ⟨n, hn⟩ := p_suc (show 0 < p_nb S by omega)
      rw [hn, p_de, p_de, if_pos far, if_pos far]
end OPS3
