/-! the calls, on both sides: hands, spots, images, counts -/
theorem p_hc_ge0 {c : Nat} (h : c < 2 ^ 31) : (0 : Int32) ≤ p_hc c ↔ c ≠ 0 := by
  rw [fa_le, p_hc_toInt h, show (0 : Int32).toInt = 0 from rfl]
  omega
def p_vo (S : p_S) (c : Nat) : Nat := p_voi (p_k S (c - 1))
def p_whi (S : p_S) : Nat → Nat → Nat → Nat → Nat
  | 0, _, acc, _ => acc
  | len + 1, i, acc, lt => if p_s S i = 0 then p_whi S len (i + 1) acc lt else p_whi S len (i + 1) (if lt = 0 then acc else if p_vo S (p_s S i) = p_vo S lt then acc else acc + 1) (p_s S i)
def p_av (S : p_S) (lt : Nat) : Int32 := if lt = 0 then -1 else nI (p_vo S lt)
theorem p_vo_lt (S : p_S) (c : Nat) : p_vo S c < 2 := by
  unfold p_vo p_voi
  split <;> decide
section OPS2
variable {X : Nat → q_St} {M : q_St}
theorem q56_whX {S : p_S} (hB : p_RB (X 1) S) (g : p_Good S) : ∀ (len n i acc lt : Nat), i + len = p_nb S → len < n → lt ≤ p_nd S → f_X5_whistle_6 X n (nI acc) (p_hc lt) (nI i) = some (nI (p_whi S len i acc lt)) := by
  have h8 := g.1
  have h12 := g.2.1
  intro len
  induction len with
  | zero =>
    intro n i acc lt hi hn hl
    obtain ⟨n, rfl⟩ := p_suc (show 0 < n by omega)
    rw [f_X5_whistle_6, hB.2.1, if_pos (nI_le (by omega) (by omega))]
    rfl
  | succ len ih =>
    intro n i acc lt hi hn hl
    obtain ⟨n, rfl⟩ := p_suc (show 0 < n by omega)
    have hs := (g.k (k := i) (by omega)).2
    rw [f_X5_whistle_6, hB.2.1, if_neg (nI_ge (by omega) (by omega)), bX_speakerOf hB g (by omega), p_bind, p_whi]
    by_cases q : p_s S i = 0
    · rw [if_pos ((p_hc_m1 (by omega)).mpr q), if_pos q, nI_1]
      exact ih n (i + 1) acc lt (by omega) (by omega) hl
    · rw [if_neg (show ¬ p_hc (p_s S i) = -1 from fun z => q ((p_hc_m1 (by omega)).mp z)), if_neg q]
      obtain ⟨d, hd⟩ := p_suc (show 0 < p_s S i by omega)
      have ev : f_X0_voiceOf (X 1) (p_hc (p_s S i)) = some (nI (p_vo S (p_s S i))) := by
        unfold p_vo
        rw [hd]
        exact bX_voiceOf hB g (by omega)
      by_cases z : lt = 0
      · rw [if_pos (show p_hc lt = -1 from (p_hc_m1 (by omega)).mpr z), if_pos z, nI_1]
        exact ih n (i + 1) acc _ (by omega) (by omega) hs
      · rw [if_neg (show ¬ p_hc lt = -1 from fun y => z ((p_hc_m1 (by omega)).mp y)), if_neg z, ev, p_bind]
        obtain ⟨e, he⟩ := p_suc (show 0 < lt by omega)
        have el : f_X0_voiceOf (X 1) (p_hc lt) = some (nI (p_vo S lt)) := by
          unfold p_vo
          rw [he]
          exact bX_voiceOf hB g (by omega)
        have v1 := p_vo_lt S (p_s S i)
        have v2 := p_vo_lt S lt
        rw [el, p_bind]
        by_cases y : p_vo S (p_s S i) = p_vo S lt
        · rw [if_pos (congrArg nI y), if_pos y, nI_1]
          exact ih n (i + 1) acc _ (by omega) (by omega) hs
        · rw [if_neg (fun x => y ((nI_eq (by omega) (by omega)).mp x)), if_neg y, nI_1, nI_1]
          exact ih n (i + 1) (acc + 1) _ (by omega) (by omega) hs
theorem q56_whN {S : p_S} (hN : p_RN (M.2 0) S) (g : p_Good S) : ∀ (len n i acc lt : Nat), i + len = p_nb S → len < n → lt ≤ p_nd S → f_X6_whistle_6 M n (nI acc) (p_av S lt) (nI i) = some (nI (p_whi S len i acc lt)) := by
  have h8 := g.1
  have h12 := g.2.1
  intro len
  induction len with
  | zero =>
    intro n i acc lt hi hn hl
    obtain ⟨n, rfl⟩ := p_suc (show 0 < n by omega)
    rw [f_X6_whistle_6, p_Q1, p_C1, hN.2.1, if_pos (nI_le (by omega) (by omega))]
    rfl
  | succ len ih =>
    intro n i acc lt hi hn hl
    obtain ⟨n, rfl⟩ := p_suc (show 0 < n by omega)
    have hs := (g.k (k := i) (by omega)).2
    have v2 := p_vo_lt S lt
    have a0 : nI acc + (0 : Int32) = nI acc := Int32.add_zero _
    rw [f_X6_whistle_6, p_Q1, p_C1, hN.2.1, if_neg (nI_ge (by omega) (by omega)), show (56 : Int32) + nI i = nI (56 + i) from p_add 56 i, p_q68 _ (by omega), p_cl (by omega), (hN.k (k := i) (by omega)).2, p_whi]
    unfold f_X6_whistle_42
    rw [nI_1, nI_1, a0]
    by_cases q : p_s S i = 0
    · rw [if_neg (show ¬ (0 : Int32) ≤ p_hc (p_s S i) from fun z => (p_hc_ge0 (by omega)).mp z q), if_pos q]
      have fin := ih n (i + 1) acc lt (by omega) (by omega) hl
      by_cases z : p_av S lt < 0
      · rw [if_pos z]; exact fin
      · rw [if_neg z, if_pos rfl]; exact fin
    · rw [if_pos ((p_hc_ge0 (by omega)).mpr q), if_neg q]
      obtain ⟨d, hd⟩ := p_suc (show 0 < p_s S i by omega)
      have ev : f_X6_voice M (p_hc (p_s S i)) = some (nI (p_vo S (p_s S i))) := by
        unfold p_vo
        rw [hd]
        exact bN_voice hN g (by omega)
      have v1 := p_vo_lt S (p_s S i)
      have en : nI (p_vo S (p_s S i)) = p_av S (p_s S i) := by unfold p_av; rw [if_neg q]
      rw [ev, p_bind]
      by_cases z : lt = 0
      · have ea : p_av S lt = -1 := by unfold p_av; rw [if_pos z]
        rw [ea, if_pos (by decide), if_pos z, en]
        exact ih n (i + 1) acc _ (by omega) (by omega) hs
      · have ea : p_av S lt = nI (p_vo S lt) := by unfold p_av; rw [if_neg z]
        rw [ea, if_neg (nI_pos (by omega)), if_neg z]
        by_cases y : p_vo S (p_s S i) = p_vo S lt
        · rw [if_pos (congrArg nI y), if_pos y, en]
          exact ih n (i + 1) acc _ (by omega) (by omega) hs
        · rw [if_neg (fun x => y ((nI_eq (by omega) (by omega)).mp x)), if_neg y, en]
          exact ih n (i + 1) (acc + 1) _ (by omega) (by omega) hs
theorem w_whistle (h : p_Rel X M) : p_BothR (f_X5_whistle X) (f_X6_whistle M) := by
  obtain ⟨S, hS⟩ := h
  have h12 := hS.1.2.1
  unfold f_X5_whistle f_X6_whistle
  have e1 := q56_whX hS.2.1 hS.1 (p_nb S) q_N 0 0 0 (by omega) (by rw [q_N_eq]; omega) (by omega)
  have e2 := q56_whN hS.2.2.1 hS.1 (p_nb S) q_N 0 0 0 (by omega) (by rw [q_N_eq]; omega) (by omega)
  exact ⟨_, e1, e2⟩
theorem w_puts (h : p_Rel X M) (a b : Int32) : p_Both (f_X5_puts X a b) (f_X6_puts M a b) := by
  have hr := h
  obtain ⟨S, hS⟩ := h
  have g := hS.1
  have hB := hS.2.1
  have hN := hS.2.2.1
  have h8 := g.1
  have hl := g.2.2.1
  have hrr := g.2.2.2.1
  unfold f_X5_puts f_X6_puts
  rcases k_hand a with ⟨hd, hh, rfl, e1, e2⟩ | ⟨e1, e2⟩
  · rw [e1, p_bind, if_neg p_n10, e2, p_bind, if_neg p_n10]
    have h01 : hd = 0 ∨ hd = 1 := by omega
    have hle : S.1 (3 - hd) ≤ p_nd S := by
      rcases h01 with rfl | rfl
      · exact hrr
      · exact hl
    have hM : M.2 0 (3 - hd) = p_hc (S.1 (3 - hd)) := by
      rcases h01 with rfl | rfl
      · exact hN.2.2.2.1
      · exact hN.2.2.1
    rcases k_none hB hN g b with ⟨c, hc, rfl, f1, f2⟩ | ⟨_, f1, f2, _⟩
    · rw [f1, p_bind, if_neg p_n10, f2, p_bind, if_neg p_n10]
      have put : (c = S.1 (3 - hd) → c = 0) → p_Both (Option.bind (f_X0_putInHand (X 1) (nI hd) (p_hc c)) (fun u4 => some (u4.1, va_up X 1 u4.2))) (Option.bind (f_X6_putsIt M (nI hd) (p_hc c)) (fun u4 => some (u4.1, u4.2))) := by
        intro ho
        refine p_wp_seq (uX_put hB g hh hc) (fun u hu => ?_)
        rw [p_wp_some]
        refine p_wp_seq (uM_put hN g hh hc) (fun v hv => ?_)
        rw [p_wp_some]
        exact ⟨hu.1.trans hv.1.symm, _, p_Rel_mv hS (g_put g hh hc ho) hu.2 hv.2.2 (p_FX_1 X _) (p_FS_FM hv.2.1)⟩
      by_cases z : c = 0
      · rw [if_pos (show p_hc c = -1 from (p_hc_m1 (by omega)).mpr z), if_pos (show p_hc c < 0 from (p_hc_lt (by omega)).mpr z)]
        exact put (fun _ => z)
      · rw [if_neg (show ¬ p_hc c = -1 from fun y => z ((p_hc_m1 (by omega)).mp y)), if_neg (show ¬ p_hc c < 0 from fun y => z ((p_hc_lt (by omega)).mp y)), show (1 : Int32) - nI hd = nI (1 - hd) from pk_sub (a := 1) (by omega), bX_inHand hB (show 1 - hd < 2 by omega), p_bind, show (3 : Int32) - nI hd = nI (3 - hd) from pk_sub (a := 3) (by omega), p_q68 _ (by omega), p_cl (by omega), hM, show 2 + (1 - hd) = 3 - hd by omega]
        by_cases y : S.1 (3 - hd) = c
        · rw [if_pos (congrArg p_hc y), if_pos (congrArg p_hc y)]
          exact p_noS hr
        · have y' : ¬ p_hc (S.1 (3 - hd)) = p_hc c := fun x => y ((p_hc_eq (by omega) (by omega)).mp x)
          rw [if_neg y', if_neg y']
          exact put (fun x => absurd x.symm y)
    · rw [f1, p_bind, if_pos p_z00, f2, p_bind, if_pos p_z00]
      exact p_noB hr
  · rw [e1, p_bind, if_pos p_z00, e2, p_bind, if_pos p_z00]
    exact p_noB hr
theorem w_hand (h : p_Rel X M) (a : Int32) : p_Both (f_X5_hand X a) (f_X6_hand M a) := by
  have hr := h
  obtain ⟨S, hS⟩ := h
  have hB := hS.2.1
  have hN := hS.2.2.1
  unfold f_X5_hand f_X6_hand
  rcases k_hand a with ⟨hd, hh, rfl, e1, e2⟩ | ⟨e1, e2⟩
  · have h01 : hd = 0 ∨ hd = 1 := by omega
    have hM : M.2 0 (2 + hd) = p_hc (S.1 (2 + hd)) := by
      rcases h01 with rfl | rfl
      · exact hN.2.2.1
      · exact hN.2.2.2.1
    rw [e1, p_bind, if_neg p_n10, e2, p_bind, if_neg p_n10, bX_inHand hB hh, p_bind, show (2 : Int32) + nI hd = nI (2 + hd) from p_add 2 hd, p_q68 _ (by omega), p_cl (by omega), hM]
    exact p_Both_of rfl rfl hr
  · rw [e1, p_bind, if_pos p_z00, e2, p_bind, if_pos p_z00]
    exact p_noB hr
theorem w_suits (h : p_Rel X M) (a : Int32) : p_Both (f_X5_suits X a) (f_X6_suits M a) := by
  have hr := h
  obtain ⟨S, hS⟩ := h
  have g := hS.1
  have hB := hS.2.1
  have hN := hS.2.2.1
  have hl := g.2.2.1
  have hrr := g.2.2.2.1
  have hlr := g.2.2.2.2.1
  unfold f_X5_suits f_X6_suits
  rcases k_beat hB hN g a with ⟨k, hk, rfl, e1, e2⟩ | ⟨e1, e2⟩
  · have st := p_st_su g.1 (g.c8 hk) hl hrr
    have hh : (!(decide (p_l S = p_r S) && decide (p_l S ≠ 0))) = true := by
      by_cases q : p_l S = p_r S
      · simp [hlr q]
      · simp [q]
    rw [hh, Bool.and_true] at st
    rw [e1, p_bind, if_neg p_n10, e2, p_bind, if_neg p_n10, hB.2.2.1, hB.2.2.2.1, bX_isSuited hB g hk hl hrr, p_bind, p_Q2, p_Q3, p_C2, p_C3, hN.2.2.1, hN.2.2.2.1, bN_doesSuit hN g hk hl hrr, p_bind, p_bif, p_bif, show (p_ri S k (p_l S)).testBit (p_r S) = p_st S (p_c S k) (p_l S) (p_r S) from rfl, st]
    cases p_su S (p_c S k) (p_l S) (p_r S)
    · exact p_Both_of rfl rfl hr
    · exact p_Both_of rfl rfl hr
  · rw [e1, p_bind, if_pos p_z00, e2, p_bind, if_pos p_z00]
    exact p_noB hr
theorem w_now (h : p_Rel X M) (a : Int32) : p_Both (f_X5_now X a) (f_X6_now M a) := by
  have hr := h
  obtain ⟨S, hS⟩ := h
  have hB := hS.2.1
  have hN := hS.2.2.1
  unfold f_X5_now f_X6_now
  rcases p_cases a (n := 5) (by omega) with h | ⟨j, hj, rfl⟩
  · rw [if_neg (show ¬ a = 0 from p_out_ne h (j := 0) (by omega) (by omega)), if_neg (show ¬ a = 1 from p_out_ne h (j := 1) (by omega) (by omega)), if_neg (show ¬ a = 2 from p_out_ne h (j := 2) (by omega) (by omega)), if_neg (show ¬ a = 3 from p_out_ne h (j := 3) (by omega) (by omega)), if_neg (show ¬ a = 4 from p_out_ne h (j := 4) (by omega) (by omega)), show f_X6_within a (0 : Int32) (4 : Int32) = some 0 from p_wi0 (n := 5) h (by omega), p_bind, if_pos p_z00]
    exact p_noB hr
  · rw [show f_X6_within (nI j) (0 : Int32) (4 : Int32) = some 1 from p_wi1 (n := 5) hj (by omega), p_bind, if_neg p_n10, show (4 : Int32) + nI j = nI (4 + j) from p_add 4 j, p_q68 _ (by omega), p_cl (by omega)]
    have hj6 : j = 0 ∨ j = 1 ∨ j = 2 ∨ j = 3 ∨ j = 4 := by omega
    rcases hj6 with rfl | rfl | rfl | rfl | rfl
    · rw [if_pos (show nI 0 = 0 from rfl), hB.2.2.2.2.2.2.1, show M.2 0 (4 + 0) = S.2.2 1 from hN.2.2.2.2.2.2.1]
      exact p_Both_of rfl rfl hr
    · rw [if_neg (show ¬ nI 1 = 0 by decide), if_pos (show nI 1 = 1 from rfl), hB.2.2.2.2.2.2.2.1, show M.2 0 (4 + 1) = S.2.2 2 from hN.2.2.2.2.2.2.2.1]
      exact p_Both_of rfl rfl hr
    · rw [if_neg (show ¬ nI 2 = 0 by decide), if_neg (show ¬ nI 2 = 1 by decide), if_pos (show nI 2 = 2 from rfl), hB.2.2.2.2.2.2.2.2.1, show M.2 0 (4 + 2) = S.2.2 3 from hN.2.2.2.2.2.2.2.2.1]
      exact p_Both_of rfl rfl hr
    · rw [if_neg (show ¬ nI 3 = 0 by decide), if_neg (show ¬ nI 3 = 1 by decide), if_neg (show ¬ nI 3 = 2 by decide), if_pos (show nI 3 = 3 from rfl), hB.2.2.2.2.2.2.2.2.2.1, show M.2 0 (4 + 3) = S.2.2 4 from hN.2.2.2.2.2.2.2.2.2.1]
      exact p_Both_of rfl rfl hr
    · rw [if_neg (show ¬ nI 4 = 0 by decide), if_neg (show ¬ nI 4 = 1 by decide), if_neg (show ¬ nI 4 = 2 by decide), if_neg (show ¬ nI 4 = 3 by decide), if_pos (show nI 4 = 4 from rfl), hB.2.2.2.2.1, show M.2 0 (4 + 4) = nI (p_lea S) from hN.2.2.2.2.1]
      exact p_Both_of rfl rfl hr
theorem w_seed (h : p_Rel X M) (a : Int32) : p_Both (f_X5_seed X a) (f_X6_seed M a) := by
  obtain ⟨S, hS⟩ := h
  have hB := hS.2.1
  have hN := hS.2.2.1
  unfold f_X5_seed f_X6_seed
  rw [show f_X6_become M (9 : Int32) a = _ from uM_become M (i := 9) (by decide) a, p_bind, hB.2.2.2.2.2.1, hN.2.2.2.2.2.1]
  exact p_Both_of rfl rfl ⟨_, p_Rel_mv hS (g_u3 hS.1 0 a) (uX_seed hB a) (uN_seed hN a) (p_FX_1 X _) (p_FS_FM (p_FM_up M _))⟩
theorem w_hold (h : p_Rel X M) (a b : Int32) : p_Both (f_X5_hold X a b) (f_X6_hold M a b) := by
  have hr := h
  obtain ⟨S, hS⟩ := h
  have g := hS.1
  have hB := hS.2.1
  have hN := hS.2.2.1
  have h8 := g.1
  unfold f_X5_hold f_X6_hold
  rcases k_spot (X 1) a with ⟨i, hi, rfl, e1, e2⟩ | ⟨e1, e2⟩
  · rw [e1, p_bind, if_neg p_n10, e2, p_bind, if_neg p_n10, show (10 : Int32) + nI i = nI (10 + i) from p_add 10 i, p_q68 _ (by omega), p_cl (by omega)]
    have fin : ∀ c, c ≤ p_nd S → p_Both (Option.bind (f_X0_setSpot (X 1) (nI i) (p_hc c)) (fun u4 => some ((1 : Int32), va_up X 1 u4))) (some ((1 : Int32), (M.1, va_up M.2 0 (upd (M.2 0) (10 + i) (p_hc c))))) := by
      intro c hc
      refine p_wp_seq (uX_spot hB g (v := c) hi) (fun u hu => ?_)
      rw [p_wp_some, p_wp_some]
      exact ⟨rfl, _, p_Rel_mv hS (g_spot g hc) hu (uN_t hN g hi) (p_FX_1 X _) (p_FS_FM (p_FM_up M _))⟩
    rcases k_none hB hN g b with ⟨c, hc, rfl, f1, f2⟩ | ⟨f0, f1, _, f3⟩
    · rw [f1, p_bind, if_neg p_n10]
      cases c with
      | zero =>
        rw [if_pos (show p_hc 0 = -1 from rfl)]
        exact fin 0 hc
      | succ d =>
        rw [if_neg (show ¬ p_hc (d + 1) = -1 from fun y => absurd ((p_hc_m1 (by omega)).mp y) (by omega)), show f_X6_isDoll M (p_hc (d + 1)) = some 1 from bN_isDoll hN g (d := d) (by omega), p_bind, if_neg p_n10]
        exact fin (d + 1) hc
    · rw [f1, p_bind, if_pos p_z00, if_neg f0, f3, p_bind, if_pos p_z00]
      exact p_noB hr
  · rw [e1, p_bind, if_pos p_z00, e2, p_bind, if_pos p_z00]
    exact p_noB hr
theorem w_as (h : p_Rel X M) (a b : Int32) : p_Both (f_X5_as X a b) (f_X6_as M a b) := by
  have hr := h
  obtain ⟨S, hS⟩ := h
  have g := hS.1
  have hB := hS.2.1
  have hN := hS.2.2.1
  have h8 := g.1
  unfold f_X5_as f_X6_as
  rcases k_spot (X 1) a with ⟨i, hi, rfl, e1, e2⟩ | ⟨e1, e2⟩
  · have ht := g.t hi
    have sp : f_X0_spotOf (X 1) (nI i) = some (p_hc (p_t S i)) := by
      unfold f_X0_spotOf
      rw [e1, p_bind, if_neg p_n10, p_ix hi (by omega), p_cl (by omega), hB.t hi]
    rw [e1, p_bind, if_neg p_n10, e2, p_bind, if_neg p_n10]
    rcases k_kind b with ⟨k, hk, rfl, f1, f2⟩ | ⟨f1, f2⟩
    · rw [f1, p_bind, if_neg p_n10, f2, p_bind, if_neg p_n10, sp, p_bind, show (10 : Int32) + nI i = nI (10 + i) from p_add 10 i, p_q68 _ (by omega), p_cl (by omega), hN.t hi]
      generalize ht' : p_t S i = t at *
      cases t with
      | zero =>
        rw [if_pos (show p_hc 0 = -1 from rfl), if_neg (show ¬ (0 : Int32) ≤ p_hc 0 by decide)]
        exact p_noM hr
      | succ d =>
        have hd : d < p_nd S := by omega
        rw [if_neg (show ¬ p_hc (d + 1) = -1 from fun y => absurd ((p_hc_m1 (by omega)).mp y) (by omega)), if_pos (show (0 : Int32) ≤ p_hc (d + 1) from (p_hc_ge0 (by omega)).mpr (by omega)), show f_X0_kindOf (X 1) (p_hc (d + 1)) = some (nI (p_k S d)) from bX_kindOf hB g hd, p_bind, p_undX _ (g.d hd).1 _ hk, p_bind, p_bif, show f_X6_dollIs M (p_hc (d + 1)) (0 : Int32) = some (nI (p_k S d)) from bN_kind hN g hd, p_bind, p_under6 _ (g.d hd).1 _ hk, p_bind, p_bif]
        cases p_und (p_k S d) k
        · exact p_noK hr
        · exact p_Both_of rfl rfl hr
    · rw [f1, p_bind, if_pos p_z00, f2, p_bind, if_pos p_z00]
      exact p_noB hr
  · rw [e1, p_bind, if_pos p_z00, e2, p_bind, if_pos p_z00]
    exact p_noB hr
theorem w_wipe (h : p_Rel X M) : p_Both (f_X5_wipe X) (f_X6_wipe M) := by
  obtain ⟨S, g, hB, hN, hk, hf, ⟨t, ht, t1, t2, t3⟩, hs⟩ := h
  unfold f_X5_wipe f_X6_wipe
  rw [t1, t2]
  refine p_Both_of rfl rfl ⟨S, g, hB, hN, hk, hf, ⟨0, by omega, rfl, rfl, fun i hi => absurd hi (by omega)⟩, fun s h4 => ?_⟩
  have e : va_up X 5 (va_up (X 5).1 0 (0 : Int32), (X 5).2) (6 + s) = X (6 + s) := if_neg (by omega)
  rw [e]
  exact hs s h4
theorem w_image (h : p_Rel X M) : p_Both (f_X5_image X) (f_X6_image M) := by
  obtain ⟨S, g, hB, hN, hk, hf, ht, hs⟩ := h
  unfold f_X5_image f_X6_image
  refine p_wp_seq (uX_take (B0 := X 2) hB g) (fun u hu => ?_)
  rw [p_wp_some]
  refine p_wp_seq (q50_cp (M.2 0) (M.2 1)) (fun v hv => ?_)
  rw [p_wp_some]
  refine ⟨rfl, S, g, hB, ?_, ⟨rfl, fun _ => ⟨S, g, hu, ?_⟩⟩, hf, ht, fun s h4 => ?_⟩
  · show p_RN (v.2 0) S
    rw [hv.1]
    exact hN
  · show p_RN (v.2 1) S
    exact p_RN_eq hN g hv.2
  · have e : va_up (va_up X 0 (va_up (X 0).1 7 (1 : Int32), (X 0).2)) 2 u (6 + s) = X (6 + s) := by
      unfold va_up
      rw [if_neg (by omega), if_neg (by omega)]
    have := hs s h4
    rw [← e] at this
    exact this
theorem w_undo (h : p_Rel X M) : p_Both (f_X5_undo X) (f_X6_undo M) := by
  have hr := h
  obtain ⟨S, hS⟩ := h
  have hk := hS.2.2.2.1
  unfold f_X5_undo f_X6_undo
  rw [hk.1]
  by_cases q : M.1 3 = 0
  · rw [if_pos q, if_pos q]
    exact p_noN hr
  · rw [if_neg q, if_neg q]
    obtain ⟨K, gK, hBK, hNK⟩ := hk.2 (by rw [hk.1]; exact q)
    refine p_wp_seq (uX_take (B0 := X 1) hBK gK) (fun u hu => ?_)
    rw [p_wp_some]
    refine p_wp_seq (q50_cp (M.2 1) (M.2 0)) (fun v hv => ?_)
    rw [p_Q1, p_C1, p_wp_some]
    have r1 : p_RN (v.2 1) K := p_RN_eq hNK gK hv.2
    refine ⟨hu.2.1.trans r1.2.1.symm, K, p_Rel_mv hS gK hu r1 (p_FX_1 X _) ⟨rfl, rfl, ?_, rfl, rfl, rfl, rfl, rfl⟩⟩
    show v.2 0 = M.2 1
    exact hv.1
theorem w_tear (h : p_Rel X M) : p_Both (f_X5_tear X) (f_X6_tear M) := by
  obtain ⟨S, g, hB, hN, hk, hf, ht, hs⟩ := h
  have fin : p_Rel (va_up X 0 (va_up (X 0).1 7 (0 : Int32), (X 0).2)) (va_up M.1 3 (0 : Int32), M.2) := by
    refine ⟨S, g, hB, hN, ⟨rfl, fun z => absurd rfl z⟩, hf, ht, fun s h4 => ?_⟩
    have e : va_up X 0 (va_up (X 0).1 7 (0 : Int32), (X 0).2) (6 + s) = X (6 + s) := if_neg (by omega)
    rw [e]
    exact hs s h4
  unfold f_X5_tear f_X6_tear
  rw [hk.1]
  by_cases q : M.1 3 = 0
  · rw [if_pos q, if_pos q]
    exact p_Both_of rfl rfl fin
  · rw [if_neg q, if_neg q]
    exact p_Both_of rfl rfl fin
theorem q56_sz {S : p_S} (hN : p_RN (M.2 0) S) (g : p_Good S) (M0 : q_St) (a1 : Int32) : ∀ (len n i acc : Nat), i + len = p_nd S → len < n → f_X6_count_79 M0 a1 n (nI acc) (nI i) M = some (nI (acc + p_sum (p_z S) len i), M) := by
  have h8 := g.1
  intro len
  induction len with
  | zero =>
    intro n i acc hi hn
    obtain ⟨n, rfl⟩ := p_suc (show 0 < n by omega)
    rw [f_X6_count_79, p_Q0, p_C0, hN.1, if_pos (nI_le (by omega) (by omega))]
    rfl
  | succ len ih =>
    intro n i acc hi hn
    obtain ⟨n, rfl⟩ := p_suc (show 0 < n by omega)
    rw [f_X6_count_79, p_Q0, p_C0, hN.1, if_neg (nI_ge (by omega) (by omega)), bN_size hN g (by omega), p_bind, p_add, nI_1, ih n (i + 1) _ (by omega) (by omega), p_sum, Nat.add_assoc]
theorem q56_sp {S : p_S} (hN : p_RN (M.2 0) S) (g : p_Good S) (M0 : q_St) (a1 : Int32) : ∀ (len n i acc : Nat), i + len = 10 → len < n → f_X6_count_121 M0 a1 n (nI acc) (nI i) M = some (nI (acc + p_cf (fun i => decide (p_t S i ≠ 0)) len i), M) := by
  have h8 := g.1
  intro len
  induction len with
  | zero =>
    intro n i acc hi hn
    obtain ⟨n, rfl⟩ := p_suc (show 0 < n by omega)
    rw [f_X6_count_121, if_pos (show (10 : Int32) ≤ nI i from nI_le (a := 10) (by omega) (by omega))]
    rfl
  | succ len ih =>
    intro n i acc hi hn
    obtain ⟨n, rfl⟩ := p_suc (show 0 < n by omega)
    have ht := g.t (i := i) (by omega)
    have a0 : nI acc + (0 : Int32) = nI acc := Int32.add_zero _
    rw [f_X6_count_121, if_neg (show ¬ (10 : Int32) ≤ nI i from nI_ge (b := 10) (by omega) (by omega)), show (10 : Int32) + nI i = nI (10 + i) from p_add 10 i, p_q68 _ (by omega), p_cl (by omega), hN.t (by omega), a0, nI_1, nI_1, ih n (i + 1) _ (by omega) (by omega), ih n (i + 1) _ (by omega) (by omega), p_cf]
    by_cases q : p_t S i = 0
    · rw [if_neg (fun z => (p_hc_ge0 (by omega)).mp z q)]
      simp [q]
    · rw [if_pos ((p_hc_ge0 (by omega)).mpr q)]
      simp [q, Nat.add_assoc]
theorem w_count (h : p_Rel X M) (a : Int32) : p_Both (f_X5_count X a) (f_X6_count M a) := by
  have hr := h
  obtain ⟨S, hS⟩ := h
  have g := hS.1
  have hB := hS.2.1
  have hN := hS.2.2.1
  obtain ⟨t, ht, t1, t2, t3⟩ := hS.2.2.2.2.2.1
  have h8 := g.1
  unfold f_X5_count f_X6_count
  by_cases q0 : a = 0
  · rw [if_pos q0, if_pos q0, p_Q1, p_C1, hB.2.1, hN.2.1]
    exact p_Both_of rfl rfl hr
  rw [if_neg q0, if_neg q0]
  by_cases q1 : a = 1
  · rw [if_pos q1, if_pos q1, p_Q0, p_C0, hB.1, hN.1]
    exact p_Both_of rfl rfl hr
  rw [if_neg q1, if_neg q1]
  by_cases q2 : a = 2
  · rw [if_pos q2, if_pos q2, p_Q4, p_C4, hB.2.2.2.2.2.2.1, hN.2.2.2.2.2.2.1]
    exact p_Both_of rfl rfl hr
  rw [if_neg q2, if_neg q2]
  by_cases q3 : a = 3
  · rw [if_pos q3, if_pos q3, p_Q6, p_C6, hB.2.2.2.2.2.2.2.2.1, hN.2.2.2.2.2.2.2.2.1]
    exact p_Both_of rfl rfl hr
  rw [if_neg q3, if_neg q3]
  by_cases q4 : a = 4
  · have e := q56_sz hN g M a (p_nd S) q_N 0 0 (by omega) (by rw [q_N_eq]; omega)
    rw [Nat.zero_add] at e
    rw [if_pos q4, if_pos q4, bX_sizes hB g, p_bind, show f_X6_count_79 M a q_N (0 : Int32) (0 : Int32) M = _ from e]
    exact p_Both_of rfl rfl hr
  rw [if_neg q4, if_neg q4]
  by_cases q5 : a = 5
  · rw [if_pos q5, if_pos q5, t1, t2]
    exact p_Both_of rfl rfl hr
  rw [if_neg q5, if_neg q5]
  by_cases q6 : a = 6
  · rw [if_pos q6, if_pos q6, p_Q9, p_C9, hB.2.2.2.2.2.1, hN.2.2.2.2.2.1]
    exact p_Both_of rfl rfl hr
  rw [if_neg q6, if_neg q6]
  by_cases q7 : a = 7
  · have e := q56_sp hN g M a 10 q_N 0 0 (by omega) (by rw [q_N_eq]; omega)
    rw [Nat.zero_add] at e
    rw [if_pos q7, if_pos q7, bX_spots hB g, p_bind, show f_X6_count_121 M a q_N (0 : Int32) (0 : Int32) M = _ from e]
    exact p_Both_of rfl rfl hr
  rw [if_neg q7, if_neg q7]
  exact p_noB hr
theorem q56_st (X0 : Nat → q_St) (a1 : Int32) : ∀ (f : Nat → Int32), (∀ i, i < 7 → (X 0).2 6 i = f (i + 1)) → f_X5_status_33 X0 a1 q_N (0 : Int32) (0 : Int32) X = some (((((((0 + f 1) + f 2) + f 3) + f 4) + f 5) + f 6) + f 7, X) := by
  intro f hf
  have st : ∀ n i acc, i < 7 → f_X5_status_33 X0 a1 (n + 1) acc (nI i) X = f_X5_status_33 X0 a1 n (acc + f (i + 1)) (nI (i + 1)) X := by
    intro n i acc hi
    rw [f_X5_status_33, if_neg (show ¬ (7 : Int32) ≤ nI i from nI_ge (b := 7) hi (by omega)), p_ix hi (by omega), p_cl (by omega), hf i hi, nI_1]
  have en : ∀ n acc, f_X5_status_33 X0 a1 (n + 1) acc (nI 7) X = some (acc, X) := by
    intro n acc
    rw [f_X5_status_33, if_pos (show (7 : Int32) ≤ nI 7 by decide)]
  rw [show q_N = 2992 + 1 + 1 + 1 + 1 + 1 + 1 + 1 + 1 from rfl, show (0 : Int32) = nI 0 from rfl, st _ 0 _ (by omega), st _ 1 _ (by omega), st _ 2 _ (by omega), st _ 3 _ (by omega), st _ 4 _ (by omega), st _ 5 _ (by omega), st _ 6 _ (by omega), en]
theorem w_status (h : p_Rel X M) (a : Int32) : p_Both (f_X5_status X a) (f_X6_status M a) := by
  have hr := h
  obtain ⟨S, hS⟩ := h
  have hf := hS.2.2.2.2.1
  unfold f_X5_status f_X6_status
  by_cases m1 : a = (-1 : Int32)
  · subst m1
    rw [if_neg (show ¬ (-1 : Int32) < -1 by decide), if_pos (show (-1 : Int32) < 7 by decide), if_pos (show (-1 : Int32) < 0 by decide), show f_X6_within (-1 : Int32) (-1 : Int32) (6 : Int32) = some 1 by decide, p_bind, if_neg p_n10, show (-1 : Int32) + 1 = nI 0 by decide, p_ix (show 0 < 8 by decide) (by decide), p_cl (by decide), hf.2, q56_st X (-1) (M.2 4) hf.1]
    exact p_Both_of rfl rfl hr
  · rcases p_cases a (n := 7) (by omega) with h | ⟨j, hj, rfl⟩
    · have q : a < (-1 : Int32) ∨ ¬ a < (-1 : Int32) ∧ ¬ a < (7 : Int32) := by
        rcases h with h | h
        · left
          have m1' : a.toInt ≠ -1 := fun z => m1 ((fa_eq _ _).mpr z)
          rw [fa_lt] at h ⊢
          rw [show (0 : Int32).toInt = 0 from rfl] at h
          rw [show (-1 : Int32).toInt = -1 from rfl]
          omega
        · right
          rw [fa_le, nI_toInt (by omega)] at h
          rw [fa_lt, fa_lt, show (-1 : Int32).toInt = -1 from rfl, show (7 : Int32).toInt = 7 from rfl]
          omega
      have e : f_X6_within a (-1 : Int32) (6 : Int32) = some 0 := by
        unfold f_X6_within
        rcases q with q | q
        · rw [if_pos q]
        · rw [if_neg q.1, if_pos (by
            have := q.2
            rw [fa_lt, show (7 : Int32).toInt = 7 from rfl] at this
            rw [fa_lt, show (6 : Int32).toInt = 6 from rfl]
            omega)]
      rw [e, p_bind, if_pos p_z00]
      rcases q with q | q
      · rw [if_pos q]
        exact p_noB hr
      · rw [if_neg q.1, if_neg q.2]
        exact p_noB hr
    · have e : ∀ j, j < 7 → f_X6_within (nI j) (-1 : Int32) (6 : Int32) = some 1 := by decide +kernel
      rw [if_neg (show ¬ nI j < (-1 : Int32) from fun z => by
        rw [fa_lt, nI_toInt (by omega), show (-1 : Int32).toInt = -1 from rfl] at z
        omega), if_pos (show nI j < (7 : Int32) from nI_lt (b := 7) hj (by omega)), if_neg (nI_pos (by omega)), p_ix hj (by omega), p_cl (by omega), e j hj, p_bind, if_neg p_n10, nI_1, p_ix (show j + 1 < 8 by omega) (by omega), p_cl (by omega), hf.1 j hj]
      exact p_Both_of rfl rfl hr
end OPS2
