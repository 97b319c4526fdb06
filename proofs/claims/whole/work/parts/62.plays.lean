/-! the calls, on both sides: plays, ahead, dogs -/
def p_x (S : p_S) (z ch ti : Int32) : p_S := (S.1, S.2.1, fun i => if i = 0 then z else if i = 1 then ch else if i = 2 then ti else S.2.2 i)
theorem p_x_0 (S : p_S) : p_x S (S.2.2 0) (S.2.2 1) (S.2.2 2) = S := by
  refine Prod.ext rfl (Prod.ext rfl (funext fun i => ?_))
  show (if i = 0 then S.2.2 0 else if i = 1 then S.2.2 1 else if i = 2 then S.2.2 2 else S.2.2 i) = S.2.2 i
  by_cases y : i = 0
  · rw [if_pos y, y]
  · rw [if_neg y]
    by_cases y1 : i = 1
    · rw [if_pos y1, y1]
    · rw [if_neg y1]
      by_cases y2 : i = 2
      · rw [if_pos y2, y2]
      · rw [if_neg y2]
section PLAYS
variable {X : Nat → q_St} {M : q_St} {S : p_S}
theorem q62_nx (g : p_Good S) (hok : p_ok S (p_cs S)) {M0 T M' : q_St} (hJ : p_JF S (2 ^ p_nb S - 1) 0 M0 0 0 T) (h5 : M'.2 5 = T.2 5) (h6 : M'.2 6 = T.2 6) {z ch ti : Int32} (hR : p_RN (M'.2 0) (p_x S z ch ti)) {k t0 : Nat} (hk : k < p_nb S) (h0 : p_ho S t0) : f_X6_nextHold M' (nI t0) (nI k) (0 : Int32) = some (nI (p_nx S 0 ((p_cs S).drop k) t0)) := by
  have h12 := g.2.1
  have eW : ∀ cs l r, p_W (p_x S z ch ti) 0 cs l r = p_W S 0 cs l r := p_W_same (fun _ _ _ => rfl) (fun _ _ => rfl)
  have hJx : p_JF (p_x S z ch ti) (2 ^ p_nb S - 1) 0 M' 0 0 M' := by
    refine ⟨rfl, fun _ _ _ => rfl, fun k a b h1 h2 ha hb hab => ?_, fun k t h1 h2 ht => ?_⟩
    · rw [h5, eW, show p_mr (p_x S z ch ti) (2 ^ p_nb S - 1) k = (p_cs S).drop k from p_mr_full (p_x S z ch ti) h12 h2, ← p_mr_full S h12 h2]
      exact hJ.2.2.1 k a b h1 h2 ha hb hab
    · rw [h6]
      exact hJ.2.2.2 k t h1 h2 ht
  have e := q53_nx (S := p_x S z ch ti) (M0 := M') (w := 0) g (by decide) hok hR hJx (k := k) (t0 := t0) hk h0
  have en : ∀ L t, p_nx (p_x S z ch ti) 0 L t = p_nx S 0 L t := by
    intro L t
    cases L with
    | nil => rfl
    | cons c cs =>
      rw [p_nx, p_nx]
      congr 1
      funext t'
      unfold p_nq
      rw [eW, eW]
      rfl
  rw [en] at e
  exact e
theorem q62_30 {nz sh : Int32 → Int32} (hD : p_DRN nz sh) (g : p_Good S) (hok : p_ok S (p_cs S)) {M0 T : q_St} (hJ : p_JF S (2 ^ p_nb S - 1) 0 M0 0 0 T) (Z : q_St) : ∀ (len n k acc : Nat) (z : Int32) (M' : q_St), k + len = p_nb S → len < n → p_FS M M' → M'.2 2 = M.2 2 → M'.2 5 = T.2 5 → M'.2 6 = T.2 6 → p_RN (M'.2 0) (p_x S z (p_cg S 0 k) (p_cg S 1 k)) → p_wp (f_X6_evening_30 Z n (nI (p_tt S k)) (nI acc) (nI k) M') (fun v => v.1 = nI (p_ev nz (p_lv sh (nI (p_lea S))) S len k acc z).1 ∧ p_FS M v.2 ∧ v.2.2 2 = M.2 2 ∧ p_RN (v.2.2 0) (p_st6 S (p_tt S (p_nb S)) (p_ev nz (p_lv sh (nI (p_lea S))) S len k acc z).2 (p_cg S 0 (p_nb S)) (p_cg S 1 (p_nb S)) (S.2.2 3 + nI (p_nb S)) (S.2.2 4 + nI (p_ev nz (p_lv sh (nI (p_lea S))) S len k acc z).1))) := by
  have h8 := g.1
  have h12 := g.2.1
  intro len
  induction len with
  | zero =>
    intro n k acc z M' hi hn hF h2 h5 h6 hR
    obtain ⟨n, rfl⟩ := p_suc (show 0 < n by omega)
    have : k = p_nb S := by omega
    subst this
    have ht := p_ho_lt h8 (p_ho_tt g hok (k := p_nb S) (by omega))
    have hb : M'.2 0 1 = nI (p_nb S) := hR.2.1
    rw [f_X6_evening_30, p_Q1, p_C1, hb, if_pos (nI_le (by omega) (by omega)), p_leftT _ ht, p_bind, p_Q2, p_rightT _ ht, p_bind, p_Q3, p_Q6, p_Q1, p_Q6, p_Q7, p_Q7, p_wp_some, p_C2, p_C3, p_C6, p_C7]
    refine ⟨rfl, p_FS_trans hF (p_FS_FM (p_FM_up M' _)), h2, ?_⟩
    have hRx := hR
    have t : ∀ j, j ≠ 2 → j ≠ 3 → j ≠ 6 → j ≠ 7 → ∀ a b c d, upd (upd (upd (upd (M'.2 0) 2 a) 3 b) 6 c) 7 d j = M'.2 0 j := by
      intro j a1 a2 a3 a4 a b c d
      rw [pk_un a4, pk_un a3, pk_un a2, pk_un a1]
    refine ⟨?_, ?_, ?_, ?_, ?_, ?_, ?_, ?_, ?_, ?_, ?_, ?_, ?_⟩
    · exact hR.1
    · exact hR.2.1
    · exact rfl
    · exact rfl
    · exact hR.2.2.2.2.1
    · exact hR.2.2.2.2.2.1
    · exact hR.2.2.2.2.2.2.1
    · exact hR.2.2.2.2.2.2.2.1
    · show M'.2 0 6 + M'.2 0 1 = S.2.2 3 + nI (p_nb S)
      rw [hb, show M'.2 0 6 = S.2.2 3 from hR.2.2.2.2.2.2.2.2.1]
    · show M'.2 0 7 + nI acc = S.2.2 4 + nI acc
      rw [show M'.2 0 7 = S.2.2 4 from hR.2.2.2.2.2.2.2.2.2.1]
    · intro d hd
      have := hR.d hd
      exact ⟨(t _ (by omega) (by omega) (by omega) (by omega) _ _ _ _).trans this.1, (t _ (by omega) (by omega) (by omega) (by omega) _ _ _ _).trans this.2.1, (t _ (by omega) (by omega) (by omega) (by omega) _ _ _ _).trans this.2.2⟩
    · intro k hk
      have := hR.k hk
      exact ⟨(t _ (by omega) (by omega) (by omega) (by omega) _ _ _ _).trans this.1, (t _ (by omega) (by omega) (by omega) (by omega) _ _ _ _).trans this.2⟩
    · intro i hi
      exact (t _ (by omega) (by omega) (by omega) (by omega) _ _ _ _).trans (hR.t hi)
  | succ len ih =>
    intro n k acc z M' hi hn hF h2 h5 h6 hR
    obtain ⟨n, rfl⟩ := p_suc (show 0 < n by omega)
    have hk : k < p_nb S := by omega
    have hb : M'.2 0 1 = nI (p_nb S) := hR.2.1
    have h0 := p_ho_tt g hok (k := k) (by omega)
    have h1 := p_ho_tt g hok (k := k + 1) (by omega)
    have gx : ∀ z ch ti, p_Good (p_x S z ch ti) := fun z ch ti => g
    have en : p_nx S 0 ((p_cs S).drop k) (p_tt S k) = p_tt S (k + 1) := rfl
    have w0 : f_X6_worthBetween M' (nI (p_tt S k)) (nI (p_tt S (k + 1))) (0 : Int32) = some (nI (p_wt S (p_tt S k) (p_tt S (k + 1)) 0)) := by
      have := bN_worthBetween hR (gx z _ _) (w := 0) (a := p_tt S k / 9) (b := p_tt S k % 9) (c := p_tt S (k + 1) / 9) (d := p_tt S (k + 1) % 9) h0.1 h0.2.1 h1.1 h1.2.1 (by decide)
      rw [p_hd_dm, p_hd_dm] at this
      exact this
    have r1 : p_RN (upd (M'.2 0) 4 (p_cg S 0 k + nI (p_wt S (p_tt S k) (p_tt S (k + 1)) 0))) (p_x S z (p_cg S 0 (k + 1)) (p_cg S 1 k)) := by
      refine ⟨(by rw [pk_un (by omega)]; exact hR.1), (by rw [pk_un (by omega)]; exact hR.2.1), (by rw [pk_un (by omega)]; exact hR.2.2.1), (by rw [pk_un (by omega)]; exact hR.2.2.2.1), (by rw [pk_un (by omega)]; exact hR.2.2.2.2.1), (by rw [pk_un (by omega)]; exact hR.2.2.2.2.2.1), rfl, (by rw [pk_un (by omega)]; exact hR.2.2.2.2.2.2.2.1), (by rw [pk_un (by omega)]; exact hR.2.2.2.2.2.2.2.2.1), (by rw [pk_un (by omega)]; exact hR.2.2.2.2.2.2.2.2.2.1), ?_, ?_, ?_⟩
      · intro d hd
        rw [pk_un (by omega), pk_un (by omega), pk_un (by omega)]
        exact hR.d hd
      · intro k hk
        rw [pk_un (by omega), pk_un (by omega)]
        exact hR.k hk
      · intro i hi
        rw [pk_un (by omega)]
        exact hR.t hi
    have w1 : f_X6_worthBetween (M'.1, va_up M'.2 0 (upd (M'.2 0) 4 (p_cg S 0 k + nI (p_wt S (p_tt S k) (p_tt S (k + 1)) 0)))) (nI (p_tt S k)) (nI (p_tt S (k + 1))) (1 : Int32) = some (nI (p_wt S (p_tt S k) (p_tt S (k + 1)) 1)) := by
      have := bN_worthBetween (M := (M'.1, va_up M'.2 0 (upd (M'.2 0) 4 (p_cg S 0 k + nI (p_wt S (p_tt S k) (p_tt S (k + 1)) 0))))) r1 (gx z _ _) (w := 1) (a := p_tt S k / 9) (b := p_tt S k % 9) (c := p_tt S (k + 1) / 9) (d := p_tt S (k + 1) % 9) h0.1 h0.2.1 h1.1 h1.2.1 (by decide)
      rw [p_hd_dm, p_hd_dm] at this
      exact this
    have r2 : p_RN (upd (upd (M'.2 0) 4 (p_cg S 0 k + nI (p_wt S (p_tt S k) (p_tt S (k + 1)) 0))) 5 (p_cg S 1 k + nI (p_wt S (p_tt S k) (p_tt S (k + 1)) 1))) (p_x S z (p_cg S 0 (k + 1)) (p_cg S 1 (k + 1))) := by
      refine ⟨(by rw [pk_un (by omega)]; exact r1.1), (by rw [pk_un (by omega)]; exact r1.2.1), (by rw [pk_un (by omega)]; exact r1.2.2.1), (by rw [pk_un (by omega)]; exact r1.2.2.2.1), (by rw [pk_un (by omega)]; exact r1.2.2.2.2.1), (by rw [pk_un (by omega)]; exact r1.2.2.2.2.2.1), (by rw [pk_un (by omega)]; exact r1.2.2.2.2.2.2.1), rfl, (by rw [pk_un (by omega)]; exact r1.2.2.2.2.2.2.2.2.1), (by rw [pk_un (by omega)]; exact r1.2.2.2.2.2.2.2.2.2.1), ?_, ?_, ?_⟩
      · intro d hd
        rw [pk_un (k := 5) (by omega), pk_un (k := 5) (by omega), pk_un (k := 5) (by omega)]
        exact r1.d hd
      · intro k hk
        rw [pk_un (k := 5) (by omega), pk_un (k := 5) (by omega)]
        exact r1.k hk
      · intro i hi
        rw [pk_un (k := 5) (by omega)]
        exact r1.t hi
    have e4 : M'.2 0 4 = p_cg S 0 k := hR.2.2.2.2.2.2.1
    have e5 : upd (M'.2 0) 4 (p_cg S 0 k + nI (p_wt S (p_tt S k) (p_tt S (k + 1)) 0)) 5 = p_cg S 1 k := (pk_un (by decide)).trans hR.2.2.2.2.2.2.2.1
    have dg := bN_dogsIn (M := (M'.1, va_up M'.2 0 (upd (upd (M'.2 0) 4 (p_cg S 0 k + nI (p_wt S (p_tt S k) (p_tt S (k + 1)) 0))) 5 (p_cg S 1 k + nI (p_wt S (p_tt S k) (p_tt S (k + 1)) 1))))) r2 (gx z _ _) (k := k) hk
    have dl := p_dg_le S (p_c S k)
    have bt := bN_dogBits (gx z (p_cg S 0 (k + 1)) (p_cg S 1 (k + 1))) (p_c S k)
    have lp := q61_102 hD Z (fun x2 x3 x4 M' => f_X6_evening_30 Z n x2 x3 x4 M') (nI (p_tt S (k + 1))) (nI acc) (nI k) (nI (p_lea S)) (p_dg S (p_c S k)) q_N false (M'.1, va_up M'.2 0 (upd (upd (M'.2 0) 4 (p_cg S 0 k + nI (p_wt S (p_tt S k) (p_tt S (k + 1)) 0))) 5 (p_cg S 1 k + nI (p_wt S (p_tt S k) (p_tt S (k + 1)) 1)))) (by omega) (by rw [q_N_eq]; omega) r2.2.2.2.2.1
    have ez : ((M'.1, va_up M'.2 0 (upd (upd (M'.2 0) 4 (p_cg S 0 k + nI (p_wt S (p_tt S k) (p_tt S (k + 1)) 0))) 5 (p_cg S 1 k + nI (p_wt S (p_tt S k) (p_tt S (k + 1)) 1)))) : q_St).2 0 9 = z := r2.2.2.2.2.2.1
    rw [ez] at lp
    have r3 : ∀ z', p_RN (upd (upd (upd (M'.2 0) 4 (p_cg S 0 k + nI (p_wt S (p_tt S k) (p_tt S (k + 1)) 0))) 5 (p_cg S 1 k + nI (p_wt S (p_tt S k) (p_tt S (k + 1)) 1))) 9 z') (p_x S z' (p_cg S 0 (k + 1)) (p_cg S 1 (k + 1))) := by
      intro z'
      have := uN_seed r2 z'
      exact ⟨this.1, this.2.1, this.2.2.1, this.2.2.2.1, this.2.2.2.2.1, this.2.2.2.2.2.1, this.2.2.2.2.2.2.1, this.2.2.2.2.2.2.2.1, this.2.2.2.2.2.2.2.2.1, this.2.2.2.2.2.2.2.2.2.1, this.2.2.2.2.2.2.2.2.2.2.1, this.2.2.2.2.2.2.2.2.2.2.2.1, this.2.2.2.2.2.2.2.2.2.2.2.2⟩
    have fin : ∀ acc' z', p_wp (f_X6_evening_30 Z n (nI (p_tt S (k + 1))) (nI acc') (nI (k + 1)) (M'.1, va_up (va_up M'.2 0 (upd (upd (M'.2 0) 4 (p_cg S 0 k + nI (p_wt S (p_tt S k) (p_tt S (k + 1)) 0))) 5 (p_cg S 1 k + nI (p_wt S (p_tt S k) (p_tt S (k + 1)) 1)))) 0 (upd (upd (upd (M'.2 0) 4 (p_cg S 0 k + nI (p_wt S (p_tt S k) (p_tt S (k + 1)) 0))) 5 (p_cg S 1 k + nI (p_wt S (p_tt S k) (p_tt S (k + 1)) 1))) 9 z'))) _ := fun acc' z' => ih n (k + 1) acc' z' _ (by omega) (by omega) (p_FS_trans hF (p_FS_trans (p_FS_FM (p_FM_up M' _)) (p_FS_FM (p_FM_up (M'.1, va_up M'.2 0 (upd (upd (M'.2 0) 4 (p_cg S 0 k + nI (p_wt S (p_tt S k) (p_tt S (k + 1)) 0))) 5 (p_cg S 1 k + nI (p_wt S (p_tt S k) (p_tt S (k + 1)) 1)))) _)))) h2 h5 h6 (r3 z')
    rw [f_X6_evening_30, p_Q1, p_C1, hb, if_neg (nI_ge (by omega) (by omega)), q62_nx g hok hJ h5 h6 hR hk h0, p_bind, en, p_Q4, w0, p_bind, p_Q4, p_Q5, p_C4, e4, w1, p_bind, p_Q5, p_C5, e5, dg, p_bind, show f_X6_bits (nI (p_ds (p_x S z (p_cg S 0 (k + 1)) (p_cg S 1 (k + 1))) (p_c (p_x S z (p_cg S 0 (k + 1)) (p_cg S 1 (k + 1))) k))) = some (nI (p_dg S (p_c S k))) from bt, p_bind, show f_X6_evening_102 Z (fun x2 x3 x4 M' => f_X6_evening_30 Z n x2 x3 x4 M') q_N (nI (p_tt S (k + 1))) (nI acc) (nI k) (0 : Int32) (nI (p_dg S (p_c S k))) (M'.1, va_up M'.2 0 (upd (upd (M'.2 0) 4 (p_cg S 0 k + nI (p_wt S (p_tt S k) (p_tt S (k + 1)) 0))) 5 (p_cg S 1 k + nI (p_wt S (p_tt S k) (p_tt S (k + 1)) 1)))) = _ from lp, nI_1, nI_1, p_ev_s]
    cases hq : (p_dr nz (p_lv sh (nI (p_lea S))) (p_dg S (p_c S k)) false z).1 with
    | true =>
      rw [if_pos rfl]
      exact fin (acc + 1) _
    | false =>
      rw [if_neg (by decide)]
      exact fin acc _
theorem q62_even {nz sh : Int32 → Int32} (hD : p_DRN nz sh) (hN : p_RN (M.2 0) S) (g : p_Good S) (hok : p_ok S (p_cs S)) : p_wp (f_X6_evening M) (fun v => v.1 = nI (p_ev nz (p_lv sh (nI (p_lea S))) S (p_nb S) 0 0 (S.2.2 0)).1 ∧ p_FS M v.2 ∧ v.2.2 2 = M.2 2 ∧ p_RN (v.2.2 0) (p_fin nz (p_lv sh (nI (p_lea S))) S)) := by
  have h12 := g.2.1
  unfold f_X6_evening
  rw [bN_allBeats hN g, p_bind]
  refine p_wp_seq (q53_all hN g (w := 0) (by decide)) (fun u hu => ?_)
  have hR : p_RN (u.2.2 0) S := by rw [p_JF_row hu.2]; exact hN
  have hW := p_ok_W g hok 0 0 (p_l S) (p_r S)
  rw [List.drop_zero] at hW
  have hRx : p_RN (u.2.2 0) (p_x S (S.2.2 0) (p_cg S 0 0) (p_cg S 1 0)) := by
    rw [show p_x S (S.2.2 0) (p_cg S 0 0) (p_cg S 1 0) = S from p_x_0 S]
    exact hR
  rw [hu.1, if_neg (show ¬ (1000000 : Int32) ≤ nI _ from nI_ge (b := 1000000) hW (by omega)), bN_holdNow hR g, p_bind]
  exact q62_30 hD g hok hu.2 M (p_nb S) q_N 0 0 (S.2.2 0) u.2 (by omega) (by rw [q_N_eq]; omega) (p_FS_JF hu.2) (hu.2.2.1 2 (by decide) (by decide)) rfl rfl hRx
theorem q62_can (hN : p_RN (M.2 0) S) (g : p_Good S) : f_X6_canPlay M = some (p_b (decide (p_nb S ≠ 0) && p_go S)) := by
  have h12 := g.2.1
  unfold f_X6_canPlay
  rw [p_Q1, p_C1, hN.2.1, bN_doesGo hN g, p_bind, p_bif, p_b01]
  by_cases q : p_nb S = 0
  · rw [if_pos (show nI (p_nb S) ≤ 0 by rw [q]; decide), decide_eq_false (by omega)]
    rfl
  · rw [if_neg (nI_nle (by omega) (by omega)), decide_eq_true q, Bool.true_and]
theorem g_fin (nz : Int32 → Int32) (lv : Int32 → Bool) (g : p_Good S) (hok : p_ok S (p_cs S)) : p_Good (p_fin nz lv S) := g_st6 g (p_ho_tt g hok (Nat.le_refl _)) _ _ _ _ _
theorem w_plays (h : p_Rel X M) : p_Both (f_X5_plays X) (f_X6_plays M) := by
  have hr := h
  obtain ⟨S, hS⟩ := h
  have g := hS.1
  have hB := hS.2.1
  have hN := hS.2.2.1
  have h12 := g.2.1
  unfold f_X5_plays f_X6_plays
  rw [q62_can hN g, p_bind, p_bif, hB.2.1]
  by_cases z : p_nb S = 0
  · rw [if_pos (show nI (p_nb S) = 0 by rw [z]; rfl), decide_eq_false (by omega), Bool.false_and, if_neg (by decide)]
    exact p_noS hr
  · rw [if_neg (show ¬ nI (p_nb S) = 0 from fun y => z ((nI_eq (b := 0) (by omega) (by omega)).mp y)), bX_isGoing hB g, p_bind, p_bif, decide_eq_true z, Bool.true_and]
    cases hg : p_go S with
    | false =>
      rw [if_neg (by decide), if_neg (by decide)]
      exact p_noS hr
    | true =>
      have hok := p_ok_go g hg
      rw [if_pos rfl, if_pos rfl]
      refine p_wp_seq (q53_follow hB g (w := 0) (by decide) hok (X 4)) (fun u hu => ?_)
      have x := q61_41 (X := X) p_DR_X g hok X (p_nb S) q_N 0 (va_up X 4 u) (by omega) (by rw [q_N_eq]; omega) (p_FX_4 X u) (by rw [p_hk_0 g]; exact hB) hu
      refine p_wp_mono x (fun u hu => ?_)
      refine p_wp_seq (q62_even p_DRN_X hN g hok) (fun v hv => ?_)
      rw [p_wp_some]
      exact ⟨hu.1.trans hv.1.symm, _, p_Rel_mv hS (g_fin _ _ g hok) hu.2.2 hv.2.2.2 hu.2.1 hv.2.1⟩
/-- n evenings on end: how many are lost together -/
def p_ah (nz : Int32 → Int32) (lv : Int32 → Bool) (S : p_S) : Nat → Nat → Int32 → Nat
  | 0, acc, _ => acc
  | n + 1, acc, z => p_ah nz lv S n (acc + (p_ev nz lv S (p_nb S) 0 0 z).1) (p_ev nz lv S (p_nb S) 0 0 z).2
theorem q62_aX {nz sh : Int32 → Int32} (hD : p_DR nz sh) (g : p_Good S) (X0 : Nat → q_St) (z1 : Int32) {N : Nat} (hN : N ≤ 20) : ∀ (len n i acc : Nat) (z : Int32) (X' : Nat → q_St), i + len = N → len < n → p_FX X X' → X' 1 = X 1 → p_RB (X' 3) (p_u3 S 0 z) → p_wp (f_X5_ahead_59 X0 z1 n (nI N) (nI acc) (nI i) X') (fun u => u.1 = nI (p_ah nz (p_lv sh (nI (p_lea S))) S len acc z) ∧ p_IX X u.2) := by
  intro len
  induction len with
  | zero =>
    intro n i acc z X' hi hn hX h1 hB
    obtain ⟨n, rfl⟩ := p_suc (show 0 < n by omega)
    rw [f_X5_ahead_59, if_pos (nI_le (by omega) (by omega)), p_wp_some]
    exact ⟨rfl, hX, h1⟩
  | succ len ih =>
    intro n i acc z X' hi hn hX h1 hB
    obtain ⟨n, rfl⟩ := p_suc (show 0 < n by omega)
    rw [f_X5_ahead_59, if_neg (nI_ge (by omega) (by omega))]
    have ev : ∀ lv len k acc z', p_ev nz lv (p_u3 S 0 z) len k acc z' = p_ev nz lv S len k acc z' := by
      intro lv len
      induction len with
      | zero => intro k acc z'; rfl
      | succ len ih2 =>
        intro k acc z'
        rw [p_ev_s, p_ev_s, ih2]
        rfl
    refine p_wp_seq (uX_ev hD hB (g_u3 g 0 z)) (fun u hu => ?_)
    have hu1 := hu.1
    have hu2 := hu.2
    rw [ev] at hu1 hu2
    have hu1 : u.1 = nI (p_ev nz (p_lv sh (nI (p_lea S))) S (p_nb S) 0 0 z).1 := hu1
    have hu2 : p_RB u.2 (p_u3 S 0 (p_ev nz (p_lv sh (nI (p_lea S))) S (p_nb S) 0 0 z).2) := ⟨hu2.1, hu2.2.1, hu2.2.2.1, hu2.2.2.2.1, hu2.2.2.2.2.1, hu2.2.2.2.2.2.1, hu2.2.2.2.2.2.2.1, hu2.2.2.2.2.2.2.2.1, hu2.2.2.2.2.2.2.2.2.1, hu2.2.2.2.2.2.2.2.2.2.1, hu2.2.2.2.2.2.2.2.2.2.2.1, hu2.2.2.2.2.2.2.2.2.2.2.2.1, hu2.2.2.2.2.2.2.2.2.2.2.2.2⟩
    rw [hu1, p_add, nI_1, p_ah]
    exact ih n (i + 1) _ _ _ (by omega) (by omega) (p_FX_trans hX (p_FX_3 X' u.2)) h1 hu2
theorem q62_aN {nz sh : Int32 → Int32} (hD : p_DRN nz sh) (S0 : p_S) (M0 : q_St) (z1 : Int32) {N : Nat} (hN20 : N ≤ 20) : ∀ (len n i acc : Nat) (S : p_S) (M' : q_St), i + len = N → len < n → p_Good S → p_go S = true → (∀ len k acc z, p_ev nz (p_lv sh (nI (p_lea S))) S len k acc z = p_ev nz (p_lv sh (nI (p_lea S0))) S0 len k acc z) → p_nb S = p_nb S0 → p_FS M M' → M'.2 2 = M.2 2 → p_RN (M'.2 0) S → p_wp (f_X6_ahead_46 M0 z1 n (nI N) (nI acc) (nI i) M') (fun v => v.1 = nI (p_ah nz (p_lv sh (nI (p_lea S0))) S0 len acc (S.2.2 0)) ∧ p_FS M v.2 ∧ ∀ j, j < 68 → v.2.2 0 j = M.2 2 j) := by
  intro len
  induction len with
  | zero =>
    intro n i acc S M' hi hn g hgo hev hnb hF h2 hR
    obtain ⟨n, rfl⟩ := p_suc (show 0 < n by omega)
    rw [f_X6_ahead_46, if_pos (nI_le (by omega) (by omega))]
    unfold f_X6_putBack
    rw [p_wp_bind, p_wp_bind]
    refine p_wp_mono (q50_cp (M'.2 2) (M'.2 0)) (fun v hv => ?_)
    rw [p_wp_some, p_wp_some]
    refine ⟨rfl, p_FS_trans hF ⟨rfl, rfl, rfl, rfl, rfl, rfl, rfl, rfl⟩, fun j hj => ?_⟩
    show v.2 1 j = M.2 2 j
    rw [hv.2 j hj, h2]
  | succ len ih =>
    intro n i acc S M' hi hn g hgo hev hnb hF h2 hR
    obtain ⟨n, rfl⟩ := p_suc (show 0 < n by omega)
    have hok := p_ok_go g hgo
    rw [f_X6_ahead_46, if_neg (nI_ge (by omega) (by omega))]
    refine p_wp_seq (q62_even hD hR g hok) (fun v hv => ?_)
    have hv1 := hv.1
    rw [hev, hnb] at hv1
    have go2 : p_go (p_fin nz (p_lv sh (nI (p_lea S))) S) = true := by
      rw [p_go_iff] at hgo ⊢
      exact hgo
    have x := ih n (i + 1) (acc + (p_ev nz (p_lv sh (nI (p_lea S0))) S0 (p_nb S0) 0 0 (S.2.2 0)).1) (p_fin nz (p_lv sh (nI (p_lea S))) S) v.2 (by omega) (by omega) (g_fin _ _ g hok) go2 (fun len k acc z => (p_ev_st6 _ _ _ _ _ _ _ _ _ len k acc z).trans (hev len k acc z)) hnb (p_FS_trans hF hv.2.1) (hv.2.2.1.trans h2) hv.2.2.2
    have ez : (p_fin nz (p_lv sh (nI (p_lea S))) S).2.2 0 = (p_ev nz (p_lv sh (nI (p_lea S0))) S0 (p_nb S0) 0 0 (S.2.2 0)).2 := by
      show (p_ev nz (p_lv sh (nI (p_lea S))) S (p_nb S) 0 0 (S.2.2 0)).2 = _
      rw [hev, hnb]
    rw [ez] at x
    rw [hv1, p_add, nI_1, p_ah]
    exact x
theorem w_ahead (h : p_Rel X M) (a : Int32) : p_Both (f_X5_ahead X a) (f_X6_ahead M a) := by
  have hr := h
  obtain ⟨S, hS⟩ := h
  have g := hS.1
  have hB := hS.2.1
  have hN := hS.2.2.1
  have h12 := g.2.1
  unfold f_X5_ahead f_X6_ahead
  rcases p_cases a (n := 21) (by omega) with h | ⟨n, hn, rfl⟩
  · rw [show f_X6_within a (0 : Int32) (20 : Int32) = some 0 from p_wi0 (n := 21) h (by omega), p_bind, if_pos p_z00]
    by_cases q : a < 0
    · rw [if_pos q]
      exact p_noB hr
    · rw [if_neg q, if_neg (show ¬ a ≤ (20 : Int32) from fun z => by
        have h := h.resolve_left q
        rw [fa_le, nI_toInt (by omega)] at h
        rw [fa_le, show (20 : Int32).toInt = 20 from rfl] at z
        omega)]
      exact p_noB hr
  · rw [show f_X6_within (nI n) (0 : Int32) (20 : Int32) = some 1 from p_wi1 (n := 21) hn (by omega), p_bind, if_neg p_n10, if_neg (nI_pos (by omega)), if_pos (show nI n ≤ (20 : Int32) from nI_le (b := 20) (by omega) (by omega)), q62_can hN g, p_bind, p_bif, hB.2.1]
    by_cases z : p_nb S = 0
    · rw [if_pos (show nI (p_nb S) = 0 by rw [z]; rfl), decide_eq_false (by omega), Bool.false_and, if_neg (by decide)]
      exact p_noS hr
    · rw [if_neg (show ¬ nI (p_nb S) = 0 from fun y => z ((nI_eq (b := 0) (by omega) (by omega)).mp y)), bX_isGoing hB g, p_bind, p_bif, decide_eq_true z, Bool.true_and]
      cases hg : p_go S with
      | false =>
        rw [if_neg (by decide), if_neg (by decide)]
        exact p_noS hr
      | true =>
        rw [if_pos rfl, if_pos rfl]
        refine p_wp_seq (uX_take (B0 := X 3) hB g) (fun u4 h4 => ?_)
        obtain ⟨c, hc, c0, c1⟩ := q50_cp (M.2 0) (M.2 2)
        rw [hc, p_bind]
        have x := q62_aX (X := X) p_DR_X g X (nI n) (N := n) (by omega) n q_N 0 0 (S.2.2 0) (va_up X 3 u4) (by omega) (by rw [q_N_eq]; omega) (p_FX_3 X u4) rfl (show p_RB u4 (p_u3 S 0 (S.2.2 0)) from ⟨h4.1, h4.2.1, h4.2.2.1, h4.2.2.2.1, h4.2.2.2.2.1, h4.2.2.2.2.2.1, h4.2.2.2.2.2.2.1, h4.2.2.2.2.2.2.2.1, h4.2.2.2.2.2.2.2.2.1, h4.2.2.2.2.2.2.2.2.2.1, h4.2.2.2.2.2.2.2.2.2.2.1, h4.2.2.2.2.2.2.2.2.2.2.2.1, h4.2.2.2.2.2.2.2.2.2.2.2.2⟩)
        have y := q62_aN (M := (M.1, va_up (va_up M.2 0 (c.2 0)) 2 (c.2 1))) p_DRN_X S M (nI n) (N := n) (by omega) n q_N 0 0 S (M.1, va_up (va_up M.2 0 (c.2 0)) 2 (c.2 1)) (by omega) (by rw [q_N_eq]; omega) g hg (fun _ _ _ _ => rfl) rfl (p_FS_refl _) rfl (show p_RN (c.2 0) S by rw [c0]; exact hN)
        refine p_wp_mono x (fun u hu => p_wp_mono y (fun v hv => ?_))
        have c1' : ∀ j, j < 68 → v.2.2 0 j = M.2 0 j := fun j hj => (hv.2.2 j hj).trans (c1 j hj)
        exact ⟨hu.1.trans hv.1.symm, S, p_Rel_mv hS g (by rw [hu.2.2]; exact hB) (p_RN_eq hN g c1') hu.2.1 (p_FS_trans (M1 := (M.1, va_up (va_up M.2 0 (c.2 0)) 2 (c.2 1))) ⟨rfl, rfl, rfl, rfl, rfl, rfl, rfl, rfl⟩ hv.2.1)⟩
theorem q62_dX (hB : p_RB (X 1) S) (g : p_Good S) : ∀ (len n k acc : Nat), k + len = p_nb S → len < n → f_X5_dogs_4 X n (nI acc) (nI k) = some (nI (p_set (fun k => decide (p_dg S (p_c S k) ≠ 0)) len k acc)) := by
  have h8 := g.1
  have h12 := g.2.1
  intro len
  induction len with
  | zero =>
    intro n k acc hi hn
    obtain ⟨n, rfl⟩ := p_suc (show 0 < n by omega)
    rw [f_X5_dogs_4, hB.2.1, if_pos (nI_le (by omega) (by omega))]
    rfl
  | succ len ih =>
    intro n k acc hi hn
    obtain ⟨n, rfl⟩ := p_suc (show 0 < n by omega)
    have dl := p_dg_le S (p_c S k)
    rw [f_X5_dogs_4, hB.2.1, if_neg (nI_ge (by omega) (by omega)), bX_dogsIn hB g (by omega), p_bind, p_shl k (by omega), fa_or, nI_1, ih n (k + 1) _ (by omega) (by omega), ih n (k + 1) _ (by omega) (by omega), p_set]
    by_cases q : p_dg S (p_c S k) = 0
    · rw [if_pos (show nI (p_dg S (p_c S k)) ≤ 0 by rw [q]; decide)]
      simp [q]
    · rw [if_neg (nI_nle (by omega) (by omega))]
      simp [q]
theorem q62_dN (hN : p_RN (M.2 0) S) (g : p_Good S) : ∀ (len n k acc : Nat), k + len = p_nb S → len < n → f_X6_dogs_4 M n (nI acc) (nI k) = some (nI (p_set (fun k => decide (p_dg S (p_c S k) ≠ 0)) len k acc)) := by
  have h8 := g.1
  have h12 := g.2.1
  intro len
  induction len with
  | zero =>
    intro n k acc hi hn
    obtain ⟨n, rfl⟩ := p_suc (show 0 < n by omega)
    rw [f_X6_dogs_4, p_Q1, p_C1, hN.2.1, if_pos (nI_le (by omega) (by omega))]
    rfl
  | succ len ih =>
    intro n k acc hi hn
    obtain ⟨n, rfl⟩ := p_suc (show 0 < n by omega)
    have dl := p_ds_lt g (p_c S k)
    have d0 := p_ds_0 g (p_c S k)
    have o0 : nI acc ||| (0 : Int32) = nI acc := by rw [show (0 : Int32) = nI 0 from rfl, fa_or, Nat.or_zero]
    rw [f_X6_dogs_4, p_Q1, p_C1, hN.2.1, if_neg (nI_ge (by omega) (by omega)), bN_dogsIn hN g (by omega), p_bind, p_shl k (by omega), fa_or, o0, nI_1, ih n (k + 1) _ (by omega) (by omega), ih n (k + 1) _ (by omega) (by omega), p_set]
    by_cases q : p_dg S (p_c S k) = 0
    · rw [if_pos (show nI (p_ds S (p_c S k)) = 0 by rw [d0.mpr q]; rfl)]
      simp [q]
    · rw [if_neg (show ¬ nI (p_ds S (p_c S k)) = 0 from fun z => q (d0.mp ((nI_eq (b := 0) (by omega) (by omega)).mp z)))]
      simp [q]
theorem w_dogs (h : p_Rel X M) : p_BothR (f_X5_dogs X) (f_X6_dogs M) := by
  obtain ⟨S, hS⟩ := h
  have h12 := hS.1.2.1
  unfold f_X5_dogs f_X6_dogs
  exact ⟨_, q62_dX hS.2.1 hS.1 (p_nb S) q_N 0 0 (by omega) (by rw [q_N_eq]; omega), q62_dN hS.2.2.1 hS.1 (p_nb S) q_N 0 0 (by omega) (by rw [q_N_eq]; omega)⟩
end PLAYS
