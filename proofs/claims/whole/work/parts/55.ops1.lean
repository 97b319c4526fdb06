/-! the calls, on both sides: dolls, hooks, beats -/
theorem p_out_ne {x : Int32} {n : Nat} (h : x < 0 ∨ nI n ≤ x) {j : Nat} (hj : j < n) (hn : n < 2 ^ 31) : ¬ x = nI j := by
  rintro rfl
  rcases h with h | h
  · exact nI_pos (by omega) h
  · exact nI_ge hj (by omega) h
theorem k_size (a : Int32) : (∃ v, 1 ≤ v ∧ v ≤ 9 ∧ a = nI v ∧ f_X5_isSize a = some 1 ∧ f_X6_within a (1 : Int32) (9 : Int32) = some 1) ∨ (f_X5_isSize a = some 0 ∧ f_X6_within a (1 : Int32) (9 : Int32) = some 0) := by
  have hd : ∀ v, v < 10 → 1 ≤ v → f_X5_isSize (nI v) = some 1 ∧ f_X6_within (nI v) (1 : Int32) (9 : Int32) = some 1 := by decide +kernel
  have h0 : f_X5_isSize 0 = some 0 ∧ f_X6_within 0 (1 : Int32) (9 : Int32) = some 0 := by decide
  rcases p_cases a (n := 10) (by omega) with h | ⟨v, hv, rfl⟩
  · right
    have q : a < (1 : Int32) ∨ (9 : Int32) < a := by
      rcases h with h | h
      · left
        rw [fa_lt] at h ⊢
        rw [show (0 : Int32).toInt = 0 from rfl] at h
        rw [show (1 : Int32).toInt = 1 from rfl]
        omega
      · right
        rw [fa_le, nI_toInt (by omega)] at h
        rw [fa_lt, show (9 : Int32).toInt = 9 from rfl]
        omega
    unfold f_X5_isSize f_X6_within
    by_cases r : a < (1 : Int32)
    · rw [if_pos r]; exact ⟨rfl, rfl⟩
    · rw [if_neg r, if_pos (q.resolve_left r)]; exact ⟨rfl, rfl⟩
  · by_cases z : v = 0
    · subst z
      exact Or.inr h0
    · have := hd v hv (by omega)
      exact Or.inl ⟨v, by omega, by omega, rfl, this.1, this.2⟩
theorem p_n10 : ¬ (1 : Int32) = 0 := by decide
theorem p_z00 : (0 : Int32) = 0 := rfl
section OPS1
variable {X : Nat → q_St} {M : q_St}
theorem w_doll (h : p_Rel X M) (a : Int32) : p_Both (f_X5_doll X a) (f_X6_doll M a) := by
  have hr := h
  obtain ⟨S, hS⟩ := h
  have g := hS.1
  have hB := hS.2.1
  have hN := hS.2.2.1
  have h8 := g.1
  unfold f_X5_doll f_X6_doll
  rcases k_kind a with ⟨k, hk, rfl, e1, e2⟩ | ⟨e1, e2⟩
  · rw [e1, p_bind, if_neg p_n10, e2, p_bind, if_neg p_n10, p_Q0, p_C0, hB.1, hN.1]
    by_cases q : p_nd S < 8
    · rw [if_pos (show nI (p_nd S) < (8 : Int32) from nI_lt (b := 8) q (by omega)), if_neg (show ¬ nI (p_nd S) = (8 : Int32) from fun z => absurd ((nI_eq (b := 8) (by omega) (by omega)).mp z) (by omega))]
      refine p_wp_seq (uX_addD hB g q) (fun u hu => ?_)
      rw [p_wp_some]
      refine p_wp_seq (uM_comes hN g (z := 3) q) (fun v hv => ?_)
      rw [p_wp_some]
      exact ⟨hu.1.trans hv.1.symm, _, p_Rel_mv hS (g_addD g q hk (by decide) (by decide)) hu.2 hv.2.2 (p_FX_1 X _) (p_FS_FM hv.2.1)⟩
    · rw [if_neg (show ¬ nI (p_nd S) < (8 : Int32) from nI_nlt (a := p_nd S) (b := 8) (by omega) (by omega)), if_pos (show nI (p_nd S) = (8 : Int32) by rw [show p_nd S = 8 by omega]; rfl)]
      exact p_noF hr
  · rw [e1, p_bind, if_pos p_z00, e2, p_bind, if_pos p_z00]
    exact p_noB hr
theorem w_of (h : p_Rel X M) (a b : Int32) : p_Both (f_X5_of X a b) (f_X6_of M a b) := by
  have hr := h
  obtain ⟨S, hS⟩ := h
  have g := hS.1
  have hB := hS.2.1
  have hN := hS.2.2.1
  unfold f_X5_of f_X6_of
  rcases k_doll hB hN g a with ⟨d, hd, rfl, e1, e2⟩ | ⟨e1, e2⟩
  · rw [e1, p_bind, if_neg p_n10, e2, p_bind, if_neg p_n10]
    rcases p_cases b (n := 6) (by omega) with h | ⟨j, hj, rfl⟩
    · rw [if_neg (show ¬ b = 0 from p_out_ne h (j := 0) (by omega) (by omega)), if_neg (show ¬ b = 1 from p_out_ne h (j := 1) (by omega) (by omega)), if_neg (show ¬ b = 2 from p_out_ne h (j := 2) (by omega) (by omega)), if_neg (show ¬ b = 3 from p_out_ne h (j := 3) (by omega) (by omega)), if_neg (show ¬ b = 4 from p_out_ne h (j := 4) (by omega) (by omega)), if_neg (show ¬ b = 5 from p_out_ne h (j := 5) (by omega) (by omega)), show f_X6_within b (0 : Int32) (5 : Int32) = some 0 from p_wi0 (n := 6) h (by omega), p_bind, if_pos p_z00]
      exact p_noB hr
    · rw [show f_X6_within (nI j) (0 : Int32) (5 : Int32) = some 1 from p_wi1 (n := 6) hj (by omega), p_bind, if_neg p_n10]
      have hj6 : j = 0 ∨ j = 1 ∨ j = 2 ∨ j = 3 ∨ j = 4 ∨ j = 5 := by omega
      rcases hj6 with rfl | rfl | rfl | rfl | rfl | rfl
      · rw [if_pos (show nI 0 = 0 from rfl), if_pos (show nI 0 = 0 from rfl), bX_kindOf hB g hd, bN_kind hN g hd]
        exact p_Both_of rfl rfl hr
      · rw [if_neg (show ¬ nI 1 = 0 by decide), if_neg (show ¬ nI 1 = 0 by decide), if_pos (show nI 1 = 1 from rfl), if_pos (show nI 1 = 1 from rfl), bX_sizeOf hB g hd, bN_size hN g hd]
        exact p_Both_of rfl rfl hr
      · rw [if_neg (show ¬ nI 2 = 0 by decide), if_neg (show ¬ nI 2 = 0 by decide), if_neg (show ¬ nI 2 = 1 by decide), if_neg (show ¬ nI 2 = 1 by decide), if_pos (show nI 2 = 2 from rfl), if_pos (show nI 2 = 2 from rfl), bX_wantOf hB g hd, bN_wants hN g hd]
        exact p_Both_of rfl rfl hr
      · rw [if_neg (show ¬ nI 3 = 0 by decide), if_neg (show ¬ nI 3 = 0 by decide), if_neg (show ¬ nI 3 = 1 by decide), if_neg (show ¬ nI 3 = 1 by decide), if_neg (show ¬ nI 3 = 2 by decide), if_neg (show ¬ nI 3 = 2 by decide), if_pos (show nI 3 = 3 from rfl), if_pos (show nI 3 = 3 from rfl), bX_onOf hB g hd, bN_takesOn hN g hd]
        exact p_Both_of rfl rfl hr
      · rw [if_neg (show ¬ nI 4 = 0 by decide), if_neg (show ¬ nI 4 = 0 by decide), if_neg (show ¬ nI 4 = 1 by decide), if_neg (show ¬ nI 4 = 1 by decide), if_neg (show ¬ nI 4 = 2 by decide), if_neg (show ¬ nI 4 = 2 by decide), if_neg (show ¬ nI 4 = 3 by decide), if_neg (show ¬ nI 4 = 3 by decide), if_pos (show nI 4 = 4 from rfl), if_pos (show nI 4 = 4 from rfl), bX_voiceOf hB g hd, bN_voice hN g hd]
        exact p_Both_of rfl rfl hr
      · rw [if_neg (show ¬ nI 5 = 0 by decide), if_neg (show ¬ nI 5 = 0 by decide), if_neg (show ¬ nI 5 = 1 by decide), if_neg (show ¬ nI 5 = 1 by decide), if_neg (show ¬ nI 5 = 2 by decide), if_neg (show ¬ nI 5 = 2 by decide), if_neg (show ¬ nI 5 = 3 by decide), if_neg (show ¬ nI 5 = 3 by decide), if_neg (show ¬ nI 5 = 4 by decide), if_neg (show ¬ nI 5 = 4 by decide), if_pos (show nI 5 = 5 from rfl), bX_hookOf hB g hd, bN_hook hN g hd]
        exact p_Both_of rfl rfl hr
  · rw [e1, p_bind, if_pos p_z00, e2, p_bind, if_pos p_z00]
    exact p_noB hr
theorem w_change (h : p_Rel X M) (a b c : Int32) : p_Both (f_X5_change X a b c) (f_X6_change M a b c) := by
  have hr := h
  obtain ⟨S, hS⟩ := h
  have g := hS.1
  have hB := hS.2.1
  have hN := hS.2.2.1
  have h8 := g.1
  have no : ∀ s : Int32, f_X6_isDoll M a = some 0 ∨ s = 0 ∧ f_X6_isDoll M a = some 1 → f_X6_change_31 M a b c a b c s M = Option.bind (f_X6_finding M (-1000001 : Int32)) (fun u => some (u.1, u.2)) := by
    intro s hs
    unfold f_X6_change_31
    rcases hs with hs | ⟨rfl, hs⟩
    · rw [hs, p_bind, if_pos p_z00]
    · rw [hs, p_bind, if_neg p_n10, if_pos p_z00]
  have n11 : f_X6_isDoll M a = some 0 ∨ (f_X6_isDoll M a = some 1 ∧ (¬ b = (1 : Int32) ∨ f_X6_within c (1 : Int32) (9 : Int32) = some 0)) → f_X6_change_11 M a b c a b c M = Option.bind (f_X6_finding M (-1000001 : Int32)) (fun u => some (u.1, u.2)) := by
    intro hq
    unfold f_X6_change_11
    rcases hq with hq | ⟨hq, q | q⟩
    · by_cases b1 : b = (1 : Int32)
      · rw [if_pos b1]
        rcases k_size c with ⟨v, _, _, _, _, e⟩ | ⟨_, e⟩
        · rw [e, p_bind, if_neg p_n10]; exact no _ (Or.inl hq)
        · rw [e, p_bind, if_pos p_z00]; exact no _ (Or.inl hq)
      · rw [if_neg b1]; exact no _ (Or.inl hq)
    · rw [if_neg q]; exact no _ (Or.inr ⟨rfl, hq⟩)
    · by_cases b1 : b = (1 : Int32)
      · rw [if_pos b1, q, p_bind, if_pos p_z00]; exact no _ (Or.inr ⟨rfl, hq⟩)
      · rw [if_neg b1]; exact no _ (Or.inr ⟨rfl, hq⟩)
  unfold f_X5_change f_X6_change
  rcases k_doll hB hN g a with ⟨d, hd, rfl, e1, e2⟩ | ⟨e1, e2⟩
  · rw [e1, p_bind, if_neg p_n10]
    by_cases b0 : b = 0
    · have b1 : ¬ b = (1 : Int32) := by rw [b0]; decide
      rw [if_pos b0, if_pos b0]
      rcases k_kind c with ⟨k, hk, rfl, c1, c2⟩ | ⟨c1, c2⟩
      · rw [c1, p_bind, if_neg p_n10, c2, p_bind, if_neg p_n10, bX_kindOf hB g hd, p_bind]
        unfold f_X6_change_31
        rw [e2, p_bind, if_neg p_n10, if_neg p_n10, b0, show f_X6_at (nI d) (0 : Int32) = some (nI (20 + 3 * d + 0)) from p_atX d 0, p_bind, uM_become M (by omega), p_bind]
        refine p_wp_seq (uX_kind hB g (v := k) hd) (fun u hu => ?_)
        rw [p_wp_some, p_wp_some]
        exact ⟨(hN.d hd).1.symm, _, p_Rel_mv hS (g_kind g hk) hu (uN_d hN g (f := 0) (by omega) (by omega)) (p_FX_1 X _) (p_FS_FM (p_FM_up M _))⟩
      · rw [c1, p_bind, if_pos p_z00, c2, p_bind, if_pos p_z00, n11 (Or.inr ⟨e2, Or.inl b1⟩)]
        unfold f_X5_change_51
        rw [if_neg b1]
        exact p_noB hr
    · rw [if_neg b0, if_neg b0]
      unfold f_X5_change_51
      by_cases b1 : b = (1 : Int32)
      · rw [if_pos b1]
        rcases k_size c with ⟨v, v1, v9, rfl, c1, c2⟩ | ⟨c1, c2⟩
        · unfold f_X6_change_11 f_X6_change_31
          rw [c1, p_bind, if_neg p_n10, bX_sizeOf hB g hd, p_bind, if_pos b1, c2, p_bind, if_neg p_n10, e2, p_bind, if_neg p_n10, if_neg p_n10, b1, show f_X6_at (nI d) (1 : Int32) = some (nI (20 + 3 * d + 1)) from p_atX d 1, p_bind, uM_become M (by omega), p_bind]
          refine p_wp_seq (uX_size hB g (v := v) hd) (fun u hu => ?_)
          rw [p_wp_some, p_wp_some]
          refine ⟨?_, _, p_Rel_mv hS (g_size g v1 v9) hu (uN_d hN g (f := 1) (by omega) (by omega)) (p_FX_1 X _) (p_FS_FM (p_FM_up M _))⟩
          show nI (p_z S d) = M.2 0 (20 + 3 * d + 1)
          rw [show 20 + 3 * d + 1 = 21 + 3 * d by omega]
          exact (hN.d hd).2.1.symm
        · rw [c1, p_bind, if_pos p_z00, n11 (Or.inr ⟨e2, Or.inr c2⟩)]
          exact p_noB hr
      · rw [if_neg b1, n11 (Or.inr ⟨e2, Or.inl b1⟩)]
        exact p_noB hr
  · rw [e1, p_bind, if_pos p_z00]
    by_cases b0 : b = 0
    · rw [if_pos b0]
      rcases k_kind c with ⟨k, hk, _, c1, c2⟩ | ⟨c1, c2⟩
      · rw [c2, p_bind, if_neg p_n10, no _ (Or.inl e2)]
        exact p_noB hr
      · rw [c2, p_bind, if_pos p_z00, n11 (Or.inl e2)]
        exact p_noB hr
    · rw [if_neg b0, n11 (Or.inl e2)]
      exact p_noB hr
theorem w_hooks (h : p_Rel X M) (a b : Int32) : p_Both (f_X5_hooks X a b) (f_X6_hooks M a b) := by
  have hr := h
  obtain ⟨S, hS⟩ := h
  have g := hS.1
  have hB := hS.2.1
  have hN := hS.2.2.1
  have h8 := g.1
  unfold f_X5_hooks f_X6_hooks
  rcases k_doll hB hN g a with ⟨d, hd, rfl, e1, e2⟩ | ⟨e1, e2⟩
  · rw [e1, p_bind, if_neg p_n10, e2, p_bind, if_neg p_n10]
    rcases k_doll hB hN g b with ⟨e, he, rfl, f1, f2⟩ | ⟨f1, f2⟩
    · rw [f1, p_bind, if_neg p_n10, f2, p_bind, if_neg p_n10]
      by_cases q : nI d = nI e
      · rw [if_pos q, if_pos q]
        exact p_noB hr
      · rw [if_neg q, if_neg q]
        have gs := g_sw g hd he
        refine p_wp_seq (uX_swap hB g hd he) (fun u hu => ?_)
        rw [bX_hookOf hu gs (show d < p_nd (p_sw S d e) from hd), p_bind, p_wp_some]
        refine p_wp_seq (uM_swap hN g hd he) (fun v hv => ?_)
        rw [p_wp_some]
        exact ⟨hv.1.symm, _, p_Rel_mv hS gs hu hv.2.2 (p_FX_1 X _) (p_FS_FM hv.2.1)⟩
    · rw [f1, p_bind, if_pos p_z00, f2, p_bind, if_pos p_z00]
      exact p_noB hr
  · rw [e1, p_bind, if_pos p_z00, e2, p_bind, if_pos p_z00]
    exact p_noB hr
theorem w_leaves (h : p_Rel X M) (a : Int32) : p_Both (f_X5_leaves X a) (f_X6_leaves M a) := by
  have hr := h
  obtain ⟨S, hS⟩ := h
  have g := hS.1
  have hB := hS.2.1
  have hN := hS.2.2.1
  unfold f_X5_leaves f_X6_leaves
  rcases p_cases a (n := 11) (by omega) with h | ⟨v, hv, rfl⟩
  · rw [show f_X6_within a (0 : Int32) (10 : Int32) = some 0 from p_wi0 (n := 11) h (by omega), p_bind, if_pos p_z00]
    by_cases q : a < 0
    · rw [if_pos q]
      exact p_noB hr
    · rw [if_neg q, if_neg (show ¬ a ≤ (10 : Int32) from fun z => by
        have h := h.resolve_left q
        rw [fa_le, nI_toInt (by omega)] at h
        rw [fa_le, show (10 : Int32).toInt = 10 from rfl] at z
        omega)]
      exact p_noB hr
  · rw [show f_X6_within (nI v) (0 : Int32) (10 : Int32) = some 1 from p_wi1 (n := 11) hv (by omega), p_bind, if_neg p_n10, if_neg (nI_pos (by omega)), if_pos (show nI v ≤ (10 : Int32) from nI_le (b := 10) (by omega) (by omega)), show f_X6_become M (8 : Int32) (nI v) = _ from uM_become M (i := 8) (by decide) (nI v), p_bind, hB.2.2.2.2.1, hN.2.2.2.2.1]
    exact p_Both_of rfl rfl ⟨_, p_Rel_mv hS (g_lea g (v := v) (by omega)) (uX_lea hB v) (uN_lea hN g v) (p_FX_1 X _) (p_FS_FM (p_FM_up M _))⟩
theorem w_beat (h : p_Rel X M) (a b : Int32) : p_Both (f_X5_beat X a b) (f_X6_beat M a b) := by
  have hr := h
  obtain ⟨S, hS⟩ := h
  have g := hS.1
  have hB := hS.2.1
  have hN := hS.2.2.1
  have h12 := g.2.1
  unfold f_X5_beat f_X6_beat
  rcases k_cast hB hN g a with ⟨c, hc, rfl, e1, e2⟩ | ⟨e1, e2⟩
  · rw [e1, p_bind, if_neg p_n10, e2, p_bind, if_neg p_n10]
    rcases k_none hB hN g b with ⟨s, hs, rfl, f1, f2⟩ | ⟨_, f1, f2, _⟩
    · rw [f1, p_bind, if_neg p_n10, f2, p_bind, if_neg p_n10, p_Q1, p_C1, hB.2.1, hN.2.1]
      by_cases q : p_nb S < 12
      · rw [if_pos (show nI (p_nb S) < (12 : Int32) from nI_lt (b := 12) q (by omega)), if_neg (show ¬ nI (p_nb S) = (12 : Int32) from fun z => absurd ((nI_eq (b := 12) (by omega) (by omega)).mp z) (by omega))]
        refine p_wp_seq (uX_addB hB g q) (fun u hu => ?_)
        rw [p_wp_some]
        refine p_wp_seq (uM_comesB hN g q) (fun v hv => ?_)
        rw [p_wp_some]
        exact ⟨hu.1.trans hv.1.symm, _, p_Rel_mv hS (g_addB g q hc hs) hu.2 hv.2.2 (p_FX_1 X _) (p_FS_FM hv.2.1)⟩
      · rw [if_neg (show ¬ nI (p_nb S) < (12 : Int32) from nI_nlt (a := p_nb S) (b := 12) (by omega) (by omega)), if_pos (show nI (p_nb S) = (12 : Int32) by rw [show p_nb S = 12 by omega]; rfl)]
        exact p_noF hr
    · rw [f1, p_bind, if_pos p_z00, f2, p_bind, if_pos p_z00]
      exact p_noB hr
  · rw [e1, p_bind, if_pos p_z00, e2, p_bind, if_pos p_z00]
    exact p_noB hr
theorem w_told (h : p_Rel X M) (a b : Int32) : p_Both (f_X5_told X a b) (f_X6_told M a b) := by
  have hr := h
  obtain ⟨S, hS⟩ := h
  have g := hS.1
  have hB := hS.2.1
  have hN := hS.2.2.1
  have h12 := g.2.1
  unfold f_X5_told f_X6_told
  rcases k_beat hB hN g a with ⟨k, hk, rfl, e1, e2⟩ | ⟨e1, e2⟩
  · rw [e1, p_bind, if_neg p_n10, e2, p_bind, if_neg p_n10]
    rcases p_cases b (n := 3) (by omega) with h | ⟨j, hj, rfl⟩
    · rw [if_neg (show ¬ b = 0 from p_out_ne h (j := 0) (by omega) (by omega)), if_neg (show ¬ b = 1 from p_out_ne h (j := 1) (by omega) (by omega)), if_neg (show ¬ b = 2 from p_out_ne h (j := 2) (by omega) (by omega)), show f_X6_within b (0 : Int32) (2 : Int32) = some 0 from p_wi0 (n := 3) h (by omega), p_bind, if_pos p_z00]
      exact p_noB hr
    · rw [show f_X6_within (nI j) (0 : Int32) (2 : Int32) = some 1 from p_wi1 (n := 3) hj (by omega), p_bind, if_neg p_n10]
      have hj6 : j = 0 ∨ j = 1 ∨ j = 2 := by omega
      rcases hj6 with rfl | rfl | rfl
      · rw [if_pos (show nI 0 = 0 from rfl), if_pos (show nI 0 = 0 from rfl), bX_castOf hB g hk, p_bind, show (44 : Int32) + nI k = nI (44 + k) from p_add 44 k, p_q68 _ (by omega), p_cl (by omega), (hN.k hk).1]
        exact p_Both_of rfl rfl hr
      · rw [if_neg (show ¬ nI 1 = 0 by decide), if_neg (show ¬ nI 1 = 0 by decide), if_pos (show nI 1 = 1 from rfl), if_pos (show nI 1 = 1 from rfl), bX_speakerOf hB g hk, p_bind, show (56 : Int32) + nI k = nI (56 + k) from p_add 56 k, p_q68 _ (by omega), p_cl (by omega), (hN.k hk).2]
        exact p_Both_of rfl rfl hr
      · rw [if_neg (show ¬ nI 2 = 0 by decide), if_neg (show ¬ nI 2 = 0 by decide), if_neg (show ¬ nI 2 = 1 by decide), if_neg (show ¬ nI 2 = 1 by decide), if_pos (show nI 2 = 2 from rfl), bX_isWrong hB g hk, p_bind, bN_isWrong hN g hk, p_bind, p_bif, p_bif]
        cases p_wr S k
        · exact p_Both_of rfl rfl hr
        · exact p_Both_of rfl rfl hr
  · rw [e1, p_bind, if_pos p_z00, e2, p_bind, if_pos p_z00]
    exact p_noB hr
theorem w_tell (h : p_Rel X M) (a b c : Int32) : p_Both (f_X5_tell X a b c) (f_X6_tell M a b c) := by
  have hr := h
  obtain ⟨S, hS⟩ := h
  have g := hS.1
  have hB := hS.2.1
  have hN := hS.2.2.1
  have h12 := g.2.1
  have no : ∀ s : Int32, f_X6_isBeat M a = some 0 ∨ s = 0 ∧ f_X6_isBeat M a = some 1 → f_X6_tell_30 M a b c a b c s M = Option.bind (f_X6_finding M (-1000001 : Int32)) (fun u => some (u.1, u.2)) := by
    intro s hs
    unfold f_X6_tell_30
    rcases hs with hs | ⟨rfl, hs⟩
    · rw [hs, p_bind, if_pos p_z00]
    · rw [hs, p_bind, if_neg p_n10, if_pos p_z00]
  have n11 : f_X6_isBeat M a = some 0 ∨ (f_X6_isBeat M a = some 1 ∧ (¬ b = (1 : Int32) ∨ f_X6_maySpeak M c = some 0)) → f_X6_tell_12 M a b c a b c M = Option.bind (f_X6_finding M (-1000001 : Int32)) (fun u => some (u.1, u.2)) := by
    intro hq
    unfold f_X6_tell_12
    rcases hq with hq | ⟨hq, q | q⟩
    · by_cases b1 : b = (1 : Int32)
      · rw [if_pos b1]
        rcases k_none hB hN g c with ⟨v, _, _, _, e⟩ | ⟨_, _, e, _⟩
        · rw [e, p_bind, if_neg p_n10]; exact no _ (Or.inl hq)
        · rw [e, p_bind, if_pos p_z00]; exact no _ (Or.inl hq)
      · rw [if_neg b1]; exact no _ (Or.inl hq)
    · rw [if_neg q]; exact no _ (Or.inr ⟨rfl, hq⟩)
    · by_cases b1 : b = (1 : Int32)
      · rw [if_pos b1, q, p_bind, if_pos p_z00]; exact no _ (Or.inr ⟨rfl, hq⟩)
      · rw [if_neg b1]; exact no _ (Or.inr ⟨rfl, hq⟩)
  unfold f_X5_tell f_X6_tell
  rcases k_beat hB hN g a with ⟨k, hk, rfl, e1, e2⟩ | ⟨e1, e2⟩
  · rw [e1, p_bind, if_neg p_n10]
    by_cases b0 : b = 0
    · have b1 : ¬ b = (1 : Int32) := by rw [b0]; decide
      rw [if_pos b0, if_pos b0]
      rcases k_cast hB hN g c with ⟨v, hv, rfl, c1, c2⟩ | ⟨c1, c2⟩
      · rw [c1, p_bind, if_neg p_n10, c2, p_bind, if_neg p_n10, bX_castOf hB g hk, p_bind]
        unfold f_X6_tell_30
        rw [e2, p_bind, if_neg p_n10, if_neg p_n10, if_pos b0, show (44 : Int32) + nI k = nI (44 + k) from p_add 44 k, uM_become M (by omega), p_bind]
        refine p_wp_seq (uX_cast hB g (v := v) hk) (fun u hu => ?_)
        rw [p_wp_some, p_wp_some]
        exact ⟨(hN.k hk).1.symm, _, p_Rel_mv hS (g_cast g hv) hu (uN_c hN g (by omega)) (p_FX_1 X _) (p_FS_FM (p_FM_up M _))⟩
      · rw [c1, p_bind, if_pos p_z00, c2, p_bind, if_pos p_z00, n11 (Or.inr ⟨e2, Or.inl b1⟩)]
        unfold f_X5_tell_55
        rw [if_neg b1]
        exact p_noB hr
    · rw [if_neg b0, if_neg b0]
      unfold f_X5_tell_55
      by_cases b1 : b = (1 : Int32)
      · rw [if_pos b1]
        rcases k_none hB hN g c with ⟨v, hv, rfl, c1, c2⟩ | ⟨_, c1, c2, _⟩
        · unfold f_X6_tell_12 f_X6_tell_30
          rw [c1, p_bind, if_neg p_n10, bX_speakerOf hB g hk, p_bind, if_pos b1, c2, p_bind, if_neg p_n10, e2, p_bind, if_neg p_n10, if_neg p_n10, if_neg b0, show (56 : Int32) + nI k = nI (56 + k) from p_add 56 k, uM_become M (by omega), p_bind]
          refine p_wp_seq (uX_spk hB g (v := v) hk) (fun u hu => ?_)
          rw [p_wp_some, p_wp_some]
          exact ⟨(hN.k hk).2.symm, _, p_Rel_mv hS (g_spk g hv) hu (uN_s hN g (by omega)) (p_FX_1 X _) (p_FS_FM (p_FM_up M _))⟩
        · rw [c1, p_bind, if_pos p_z00, n11 (Or.inr ⟨e2, Or.inr c2⟩)]
          exact p_noB hr
      · rw [if_neg b1, n11 (Or.inr ⟨e2, Or.inl b1⟩)]
        exact p_noB hr
  · rw [e1, p_bind, if_pos p_z00]
    by_cases b0 : b = 0
    · rw [if_pos b0]
      rcases k_cast hB hN g c with ⟨v, hv, _, c1, c2⟩ | ⟨c1, c2⟩
      · rw [c2, p_bind, if_neg p_n10, no _ (Or.inl e2)]
        exact p_noB hr
      · rw [c2, p_bind, if_pos p_z00, n11 (Or.inl e2)]
        exact p_noB hr
    · rw [if_neg b0, n11 (Or.inl e2)]
      exact p_noB hr
theorem w_cut (h : p_Rel X M) (a : Int32) : p_Both (f_X5_cut X a) (f_X6_cut M a) := by
  have hr := h
  obtain ⟨S, hS⟩ := h
  have g := hS.1
  have hB := hS.2.1
  have hN := hS.2.2.1
  unfold f_X5_cut f_X6_cut
  rcases k_beat hB hN g a with ⟨k, hk, rfl, e1, e2⟩ | ⟨e1, e2⟩
  · rw [e1, p_bind, if_neg p_n10, e2, p_bind, if_neg p_n10]
    refine p_wp_seq (uX_drop hB g hk) (fun u hu => ?_)
    rw [p_wp_some]
    refine p_wp_seq (uM_goes hN g hk) (fun v hv => ?_)
    rw [p_wp_some]
    exact ⟨hu.2.1.trans hv.1.symm, _, p_Rel_mv hS (g_del g k) hu hv.2.2 (p_FX_1 X _) (p_FS_FM hv.2.1)⟩
  · rw [e1, p_bind, if_pos p_z00, e2, p_bind, if_pos p_z00]
    exact p_noB hr
theorem w_wrong (h : p_Rel X M) : p_BothR (f_X5_wrong X) (f_X6_wrong M) := by
  obtain ⟨S, hS⟩ := h
  unfold f_X5_wrong f_X6_wrong
  rw [bX_wrongBeats hS.2.1 hS.1, bN_wrongBeats hS.2.2.1 hS.1]
  exact ⟨_, rfl, rfl⟩
end OPS1
