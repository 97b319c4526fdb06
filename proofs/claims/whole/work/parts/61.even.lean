/-! the calls, on both sides: dogs, evenings -/
/-- no hands -/
def p_zh (S : p_S) : p_S := ((fun j => if j = 3 then 0 else if j = 2 then 0 else S.1 j), S.2)
theorem g_zh {S : p_S} (g : p_Good S) : p_Good (p_zh S) := ⟨g.1, g.2.1, Nat.zero_le _, Nat.zero_le _, (fun _ => rfl), g.2.2.2.2.2.1, g.2.2.2.2.2.2.1, g.2.2.2.2.2.2.2.1, g.2.2.2.2.2.2.2.2⟩
/-- the holds of the best way by changes -/
def p_tt (S : p_S) (k : Nat) : Nat := p_gw S 0 (p_cs S) (p_hd (p_l S) (p_r S)) k
/-- changes (0) or time (1) of a hand's way from hold t to hold u -/
def p_wt (S : p_S) (t u w : Nat) : Nat := p_wb S (t / 9) (t % 9) (u / 9) (u % 9) w
def p_cg (S : p_S) (w : Nat) : Nat → Int32
  | 0 => S.2.2 (1 + w)
  | k + 1 => p_cg S w k + nI (p_wt S (p_tt S k) (p_tt S (k + 1)) w)
/-- the state with other hands, changes, time, z, played, lost -/
def p_st6 (S : p_S) (t : Nat) (z ch ti pl lo : Int32) : p_S := ((fun i => if i = 2 then t / 9 else if i = 3 then t % 9 else S.1 i), S.2.1, fun i => if i = 0 then z else if i = 1 then ch else if i = 2 then ti else if i = 3 then pl else if i = 4 then lo else S.2.2 i)
theorem g_st6 {S : p_S} (g : p_Good S) {t : Nat} (ht : p_ho S t) (z ch ti pl lo : Int32) : p_Good (p_st6 S t z ch ti pl lo) := ⟨g.1, g.2.1, ht.1, ht.2.1, (fun (q : t / 9 = t % 9) => ht.2.2.resolve_left (fun y => y q)), g.2.2.2.2.2.1, g.2.2.2.2.2.2.1, g.2.2.2.2.2.2.2.1, g.2.2.2.2.2.2.2.2⟩
/-- behind an evening -/
def p_fin (nz : Int32 → Int32) (lv : Int32 → Bool) (S : p_S) : p_S := p_st6 S (p_tt S (p_nb S)) (p_ev nz lv S (p_nb S) 0 0 (S.2.2 0)).2 (p_cg S 0 (p_nb S)) (p_cg S 1 (p_nb S)) (S.2.2 3 + nI (p_nb S)) (S.2.2 4 + nI (p_ev nz lv S (p_nb S) 0 0 (S.2.2 0)).1)
theorem p_ev_le (nz : Int32 → Int32) (lv : Int32 → Bool) (S : p_S) : ∀ len k acc z, (p_ev nz lv S len k acc z).1 ≤ acc + len
  | 0, _, _, _ => Nat.le_refl _
  | len + 1, k, acc, z => by
    rw [p_ev_s]
    have := p_ev_le nz lv S len (k + 1) (acc + p_one (p_dr nz lv (p_dg S (p_c S k)) false z).1) (p_dr nz lv (p_dg S (p_c S k)) false z).2
    have h1 : p_one (p_dr nz lv (p_dg S (p_c S k)) false z).1 ≤ 1 := by unfold p_one; split <;> omega
    omega
theorem p_ev_st6 (nz : Int32 → Int32) (lv : Int32 → Bool) (S : p_S) (t : Nat) (z0 ch ti pl lo : Int32) : ∀ len k acc z, p_ev nz lv (p_st6 S t z0 ch ti pl lo) len k acc z = p_ev nz lv S len k acc z
  | 0, _, _, _ => rfl
  | len + 1, k, acc, z => by
    rw [p_ev_s, p_ev_s, p_ev_st6 nz lv S t z0 ch ti pl lo len (k + 1)]
    rfl
theorem p_ho_tt {S : p_S} (g : p_Good S) (hok : p_ok S (p_cs S)) {k : Nat} (hk : k ≤ p_nb S) : p_ho S (p_tt S k) := p_gw_ho g hok (p_ho_now g) k (by rw [p_cs_len]; exact hk)
theorem p_pr_same (S : p_S) (c w : Nat) : p_pr (p_zh S) c w = p_pr S c w := rfl
section EVEN
variable {X : Nat → q_St} {M B : q_St} {S : p_S}
theorem bX_priceW (h : p_RB B S) (gz : p_Good (p_zh S)) {a w : Nat} (ha : a ≤ p_nd S) (hw : w < 2) : f_X0_price B (p_hc a) (nI w) = some (nI (p_pr S a w)) := by
  have hz : p_RB (va_up (va_up B.1 2 (p_hc 0)) 3 (p_hc 0), B.2) (p_zh S) := ⟨h.1, h.2.1, rfl, rfl, h.2.2.2.2.1, h.2.2.2.2.2.1, h.2.2.2.2.2.2.1, h.2.2.2.2.2.2.2.1, h.2.2.2.2.2.2.2.2.1, h.2.2.2.2.2.2.2.2.2.1, h.2.2.2.2.2.2.2.2.2.2.1, h.2.2.2.2.2.2.2.2.2.2.2.1, h.2.2.2.2.2.2.2.2.2.2.2.2⟩
  exact bX_price hz gz (a := a) ha hw
theorem uX_putW (h : p_RB B S) (gz : p_Good (p_zh S)) {hand c : Nat} (hh : hand < 2) (hc : c ≤ p_nd S) (hle : S.1 (2 + hand) ≤ p_nd S) : p_wp (f_X0_putInHand B (nI hand) (p_hc c)) (fun q => p_RB q.2 (p_put S hand c)) := by
  have h8 : p_nd S ≤ 8 := gz.1
  have h1 : hand = 0 ∨ hand = 1 := by omega
  unfold f_X0_putInHand p_put
  rw [bX_inHand h hh, p_bind]
  by_cases q : S.1 (2 + hand) = c
  · rw [if_pos (congrArg p_hc q), if_pos q, p_wp_some]
    exact h
  · rw [if_neg (fun z => q ((p_hc_eq (by omega) (by omega)).mp z)), if_neg q]
    rcases h1 with rfl | rfl
    · have hB : p_RB (va_up B.1 2 (p_hc c), B.2) ((fun i => if i = 2 then c else S.1 i), S.2) := ⟨h.1, h.2.1, rfl, h.2.2.2.1, h.2.2.2.2.1, h.2.2.2.2.2.1, h.2.2.2.2.2.2.1, h.2.2.2.2.2.2.2.1, h.2.2.2.2.2.2.2.2.1, h.2.2.2.2.2.2.2.2.2.1, h.2.2.2.2.2.2.2.2.2.2.1, h.2.2.2.2.2.2.2.2.2.2.2.1, h.2.2.2.2.2.2.2.2.2.2.2.2⟩
      have e : f_X0_price (va_up B.1 2 (p_hc c), B.2) (p_hc c) (nI 1) = some (nI (p_pr S c 1)) := bX_priceW h gz hc (by decide)
      have e : f_X0_price (va_up B.1 2 (p_hc c), B.2) (p_hc c) (1 : Int32) = some (nI (p_pr S c 1)) := e
      rw [if_pos (show nI 0 = (0 : Int32) from rfl)]
      unfold f_X0_putInHand_30
      rw [e, p_bind, p_wp_some]
      exact ⟨hB.1, hB.2.1, hB.2.2.1, hB.2.2.2.1, hB.2.2.2.2.1, hB.2.2.2.2.2.1, (by rw [← h.2.2.2.2.2.2.1]; rfl), (by rw [← h.2.2.2.2.2.2.2.1]; rfl), hB.2.2.2.2.2.2.2.2.1, hB.2.2.2.2.2.2.2.2.2.1, hB.2.2.2.2.2.2.2.2.2.2.1, hB.2.2.2.2.2.2.2.2.2.2.2.1, hB.2.2.2.2.2.2.2.2.2.2.2.2⟩
    · have hB : p_RB (va_up B.1 3 (p_hc c), B.2) ((fun i => if i = 3 then c else S.1 i), S.2) := ⟨h.1, h.2.1, h.2.2.1, rfl, h.2.2.2.2.1, h.2.2.2.2.2.1, h.2.2.2.2.2.2.1, h.2.2.2.2.2.2.2.1, h.2.2.2.2.2.2.2.2.1, h.2.2.2.2.2.2.2.2.2.1, h.2.2.2.2.2.2.2.2.2.2.1, h.2.2.2.2.2.2.2.2.2.2.2.1, h.2.2.2.2.2.2.2.2.2.2.2.2⟩
      have e : f_X0_price (va_up B.1 3 (p_hc c), B.2) (p_hc c) (nI 1) = some (nI (p_pr S c 1)) := bX_priceW h gz hc (by decide)
      have e : f_X0_price (va_up B.1 3 (p_hc c), B.2) (p_hc c) (1 : Int32) = some (nI (p_pr S c 1)) := e
      rw [if_neg (show ¬ nI 1 = (0 : Int32) by decide)]
      unfold f_X0_putInHand_30
      rw [e, p_bind, p_wp_some]
      exact ⟨hB.1, hB.2.1, hB.2.2.1, hB.2.2.2.1, hB.2.2.2.2.1, hB.2.2.2.2.2.1, (by rw [← h.2.2.2.2.2.2.1]; rfl), (by rw [← h.2.2.2.2.2.2.2.1]; rfl), hB.2.2.2.2.2.2.2.2.1, hB.2.2.2.2.2.2.2.2.2.1, hB.2.2.2.2.2.2.2.2.2.2.1, hB.2.2.2.2.2.2.2.2.2.2.2.1, hB.2.2.2.2.2.2.2.2.2.2.2.2⟩
/-- both hands, one after the other -/
theorem p_put2 (S : p_S) (a b : Nat) : p_put (p_put S 0 a) 1 b = ((fun i => if i = 2 then a else if i = 3 then b else S.1 i), S.2.1, fun i => if i = 1 then S.2.2 1 + nI (p_wb S (p_l S) (p_r S) a b 0) else if i = 2 then S.2.2 2 + nI (p_wb S (p_l S) (p_r S) a b 1) else S.2.2 i) := by
  have e1 : p_wb S (p_l S) (p_r S) a b 1 = (if p_l S = a then 0 else p_pr S a 1) + (if p_r S = b then 0 else p_pr S b 1) := by
    unfold p_wb p_tk
    rw [if_neg (by decide)]
  have e0 : p_wb S (p_l S) (p_r S) a b 0 = (if p_l S = a then 0 else 1) + (if p_r S = b then 0 else 1) := by
    unfold p_wb p_df
    rw [if_pos rfl]
  rw [e0, e1]
  by_cases q1 : p_l S = a
  · have f1 : p_put S 0 a = S := by unfold p_put; rw [if_pos q1]
    rw [f1, if_pos q1, if_pos q1]
    by_cases q2 : p_r S = b
    · have f2 : p_put S 1 b = S := by unfold p_put; rw [if_pos q2]
      rw [f2, if_pos q2, if_pos q2, Nat.add_zero, nI_0, Int32.add_zero, Int32.add_zero]
      refine Prod.ext (funext fun i => ?_) (Prod.ext rfl (funext fun i => ?_))
      · show S.1 i = if i = 2 then a else if i = 3 then b else S.1 i
        by_cases y : i = 2
        · rw [if_pos y, y]; exact q1
        · rw [if_neg y]
          by_cases y3 : i = 3
          · rw [if_pos y3, y3]; exact q2
          · rw [if_neg y3]
      · show S.2.2 i = if i = 1 then S.2.2 1 else if i = 2 then S.2.2 2 else S.2.2 i
        by_cases y : i = 1
        · rw [if_pos y, y]
        · rw [if_neg y]
          by_cases y2 : i = 2
          · rw [if_pos y2, y2]
          · rw [if_neg y2]
    · have f2 : p_put S 1 b = ((fun i => if i = 3 then b else S.1 i), S.2.1, fun i => if i = 1 then S.2.2 1 + 1 else if i = 2 then S.2.2 2 + nI (p_pr S b 1) else S.2.2 i) := by unfold p_put; rw [if_neg q2]
      rw [f2, if_neg q2, if_neg q2, Nat.zero_add, Nat.zero_add]
      refine Prod.ext (funext fun i => ?_) (Prod.ext rfl rfl)
      show (if i = 3 then b else S.1 i) = if i = 2 then a else if i = 3 then b else S.1 i
      by_cases y : i = 2
      · rw [if_pos y, y, if_neg (by decide)]; exact q1
      · rw [if_neg y]
  · have f1 : p_put S 0 a = ((fun i => if i = 2 then a else S.1 i), S.2.1, fun i => if i = 1 then S.2.2 1 + 1 else if i = 2 then S.2.2 2 + nI (p_pr S a 1) else S.2.2 i) := by unfold p_put; rw [if_neg q1]
    rw [f1, if_neg q1, if_neg q1]
    by_cases q2 : p_r S = b
    · have f2 : p_put ((fun i => if i = 2 then a else S.1 i), S.2.1, fun i => if i = 1 then S.2.2 1 + 1 else if i = 2 then S.2.2 2 + nI (p_pr S a 1) else S.2.2 i) 1 b = ((fun i => if i = 2 then a else S.1 i), S.2.1, fun i => if i = 1 then S.2.2 1 + 1 else if i = 2 then S.2.2 2 + nI (p_pr S a 1) else S.2.2 i) := by unfold p_put; exact if_pos q2
      rw [f2, if_pos q2, if_pos q2, Nat.add_zero, Nat.add_zero]
      refine Prod.ext (funext fun i => ?_) (Prod.ext rfl rfl)
      show (if i = 2 then a else S.1 i) = if i = 2 then a else if i = 3 then b else S.1 i
      by_cases y : i = 3
      · rw [y, if_neg (by decide), if_neg (by decide), if_pos rfl]; exact q2
      · rw [if_neg y]
    · have f2 : p_put ((fun i => if i = 2 then a else S.1 i), S.2.1, fun i => if i = 1 then S.2.2 1 + 1 else if i = 2 then S.2.2 2 + nI (p_pr S a 1) else S.2.2 i) 1 b = ((fun i => if i = 3 then b else if i = 2 then a else S.1 i), S.2.1, fun i => if i = 1 then (S.2.2 1 + 1) + 1 else if i = 2 then (S.2.2 2 + nI (p_pr S a 1)) + nI (p_pr S b 1) else (if i = 1 then S.2.2 1 + 1 else if i = 2 then S.2.2 2 + nI (p_pr S a 1) else S.2.2 i)) := by unfold p_put; exact if_neg q2
      rw [f2, if_neg q2, if_neg q2]
      refine Prod.ext (funext fun i => ?_) (Prod.ext rfl (funext fun i => ?_))
      · show (if i = 3 then b else if i = 2 then a else S.1 i) = if i = 2 then a else if i = 3 then b else S.1 i
        by_cases y : i = 3
        · rw [if_pos y, if_neg (by omega), if_pos y]
        · rw [if_neg y, if_neg y]
      · show (if i = 1 then (S.2.2 1 + 1) + 1 else if i = 2 then (S.2.2 2 + nI (p_pr S a 1)) + nI (p_pr S b 1) else (if i = 1 then S.2.2 1 + 1 else if i = 2 then S.2.2 2 + nI (p_pr S a 1) else S.2.2 i)) = if i = 1 then S.2.2 1 + nI (1 + 1) else if i = 2 then S.2.2 2 + nI (p_pr S a 1 + p_pr S b 1) else S.2.2 i
        by_cases y : i = 1
        · rw [if_pos y, if_pos y, Int32.add_assoc]; rfl
        · rw [if_neg y, if_neg y, if_neg y]
          by_cases y2 : i = 2
          · rw [if_pos y2, if_pos y2, Int32.add_assoc, p_add]
          · rw [if_neg y2, if_neg y2, if_neg y2]
theorem p_wb_eq {S S' : p_S} (h : ∀ c w, p_pr S' c w = p_pr S c w) (a b c d w : Nat) : p_wb S' a b c d w = p_wb S a b c d w := by
  unfold p_wb p_tk
  rw [h, h]
/-- hands, changes and time behind k beats -/
def p_hk (S : p_S) (k : Nat) : p_S := ((fun i => if i = 2 then p_tt S k / 9 else if i = 3 then p_tt S k % 9 else S.1 i), S.2.1, fun i => if i = 1 then p_cg S 0 k else if i = 2 then p_cg S 1 k else S.2.2 i)
theorem p_hk_0 (g : p_Good S) : p_hk S 0 = S := by
  have h8 := g.1
  have hl := g.2.2.1
  have hr := g.2.2.2.1
  refine Prod.ext (funext fun i => ?_) (Prod.ext rfl (funext fun i => ?_))
  · show (if i = 2 then p_hd (p_l S) (p_r S) / 9 else if i = 3 then p_hd (p_l S) (p_r S) % 9 else S.1 i) = S.1 i
    rw [p_hd_div (by omega), p_hd_mod (by omega)]
    by_cases y : i = 2
    · rw [if_pos y, y]
    · rw [if_neg y]
      by_cases y3 : i = 3
      · rw [if_pos y3, y3]
      · rw [if_neg y3]
  · show (if i = 1 then S.2.2 1 else if i = 2 then S.2.2 2 else S.2.2 i) = S.2.2 i
    by_cases y : i = 1
    · rw [if_pos y, y]
    · rw [if_neg y]
      by_cases y2 : i = 2
      · rw [if_pos y2, y2]
      · rw [if_neg y2]
theorem p_hk_s (S : p_S) (k : Nat) : p_put (p_put (p_hk S k) 0 (p_tt S (k + 1) / 9)) 1 (p_tt S (k + 1) % 9) = p_hk S (k + 1) := by
  rw [p_put2]
  refine Prod.ext (funext fun i => ?_) (Prod.ext rfl (funext fun i => ?_))
  · show (if i = 2 then p_tt S (k + 1) / 9 else if i = 3 then p_tt S (k + 1) % 9 else if i = 2 then p_tt S k / 9 else if i = 3 then p_tt S k % 9 else S.1 i) = if i = 2 then p_tt S (k + 1) / 9 else if i = 3 then p_tt S (k + 1) % 9 else S.1 i
    by_cases y : i = 2
    · rw [if_pos y, if_pos y]
    · rw [if_neg y, if_neg y, if_neg y]
      by_cases y3 : i = 3
      · rw [if_pos y3, if_pos y3]
      · rw [if_neg y3, if_neg y3, if_neg y3]
  · have e : ∀ w, p_wb (p_hk S k) (p_l (p_hk S k)) (p_r (p_hk S k)) (p_tt S (k + 1) / 9) (p_tt S (k + 1) % 9) w = p_wt S (p_tt S k) (p_tt S (k + 1)) w := fun w => p_wb_eq (fun _ _ => rfl) _ _ _ _ w
    show (if i = 1 then p_cg S 0 k + nI (p_wb (p_hk S k) (p_l (p_hk S k)) (p_r (p_hk S k)) (p_tt S (k + 1) / 9) (p_tt S (k + 1) % 9) 0) else if i = 2 then p_cg S 1 k + nI (p_wb (p_hk S k) (p_l (p_hk S k)) (p_r (p_hk S k)) (p_tt S (k + 1) / 9) (p_tt S (k + 1) % 9) 1) else if i = 1 then p_cg S 0 k else if i = 2 then p_cg S 1 k else S.2.2 i) = if i = 1 then p_cg S 0 k + nI (p_wt S (p_tt S k) (p_tt S (k + 1)) 0) else if i = 2 then p_cg S 1 k + nI (p_wt S (p_tt S k) (p_tt S (k + 1)) 1) else S.2.2 i
    rw [e, e]
    by_cases y : i = 1
    · rw [if_pos y, if_pos y]
    · rw [if_neg y, if_neg y, if_neg y]
      by_cases y2 : i = 2
      · rw [if_pos y2, if_pos y2]
      · rw [if_neg y2, if_neg y2, if_neg y2]
theorem g_hk (g : p_Good S) (hok : p_ok S (p_cs S)) {k : Nat} (hk : k ≤ p_nb S) : p_Good (p_hk S k) := by
  have ht := p_ho_tt g hok hk
  exact ⟨g.1, g.2.1, ht.1, ht.2.1, (fun (q : p_tt S k / 9 = p_tt S k % 9) => ht.2.2.resolve_left (fun y => y q)), g.2.2.2.2.2.1, g.2.2.2.2.2.2.1, g.2.2.2.2.2.2.2.1, g.2.2.2.2.2.2.2.2⟩
theorem p_ev_hk (nz : Int32 → Int32) (lv : Int32 → Bool) (S : p_S) (j : Nat) : ∀ len k acc z, p_ev nz lv (p_hk S j) len k acc z = p_ev nz lv S len k acc z
  | 0, _, _, _ => rfl
  | len + 1, k, acc, z => by
    rw [p_ev_s, p_ev_s, p_ev_hk nz lv S j len (k + 1)]
    rfl
theorem q61_41 {nz sh : Int32 → Int32} (hD : p_DR nz sh) (g : p_Good S) (hok : p_ok S (p_cs S)) (X0 : Nat → q_St) : ∀ (len n k : Nat) (X' : Nat → q_St), k + len = p_nb S → len < n → p_FX X X' → p_RB (X' 1) (p_hk S k) → (∀ j, j < p_nb S → (X' 4).2 4 j = p_hc (p_tt S (j + 1) / 9) ∧ (X' 4).2 5 j = p_hc (p_tt S (j + 1) % 9)) → p_wp (f_X5_plays_41 X0 n (nI k) X') (fun u => u.1 = nI (p_ev nz (p_lv sh (nI (p_lea S))) S (p_nb S) 0 0 (S.2.2 0)).1 ∧ p_FX X u.2 ∧ p_RB (u.2 1) (p_fin nz (p_lv sh (nI (p_lea S))) S)) := by
  have h12 := g.2.1
  intro len
  induction len with
  | zero =>
    intro n k X' hi hn hX hB hT
    obtain ⟨n, rfl⟩ := p_suc (show 0 < n by omega)
    have : k = p_nb S := by omega
    subst this
    have hb : (X' 1).1 1 = nI (p_nb S) := hB.2.1
    have gk := g_hk g hok (k := p_nb S) (by omega)
    rw [f_X5_plays_41, hb, if_pos (nI_le (by omega) (by omega))]
    refine p_wp_seq (uX_ev hD hB gk) (fun u hu => ?_)
    have hu1 := hu.1
    have hu2 := hu.2
    rw [p_ev_hk] at hu1 hu2
    have hu1 : u.1 = nI (p_ev nz (p_lv sh (nI (p_lea S))) S (p_nb S) 0 0 (S.2.2 0)).1 := hu1
    rw [p_wp_some]
    refine ⟨hu1, p_FX_trans hX (p_FX_1 X' _), ?_⟩
    have e8 : u.2.1 8 = S.2.2 3 := hu2.2.2.2.2.2.2.2.2.1
    have e9 : u.2.1 9 = S.2.2 4 := hu2.2.2.2.2.2.2.2.2.2.1
    have e1 : u.2.1 1 = nI (p_nb S) := hu2.2.1
    exact ⟨hu2.1, hu2.2.1, hu2.2.2.1, hu2.2.2.2.1, hu2.2.2.2.2.1, hu2.2.2.2.2.2.1, hu2.2.2.2.2.2.2.1, hu2.2.2.2.2.2.2.2.1, (show u.2.1 8 + u.2.1 1 = _ by rw [e8, e1]; rfl), (show u.2.1 9 + u.1 = _ by rw [e9, hu1]; rfl), hu2.2.2.2.2.2.2.2.2.2.2.1, hu2.2.2.2.2.2.2.2.2.2.2.2.1, hu2.2.2.2.2.2.2.2.2.2.2.2.2⟩
  | succ len ih =>
    intro n k X' hi hn hX hB hT
    obtain ⟨n, rfl⟩ := p_suc (show 0 < n by omega)
    have hb : (X' 1).1 1 = nI (p_nb S) := hB.2.1
    have gk := g_hk g hok (k := k) (by omega)
    have ho := p_ho_tt g hok (k := k + 1) (by omega)
    have le : f_X4_leftIn (X' 4) (nI k) = some (p_hc (p_tt S (k + 1) / 9)) := by
      unfold f_X4_leftIn
      rw [if_neg (nI_pos (by omega)), if_neg (show ¬ (12 : Int32) ≤ nI k from nI_ge (b := 12) (by omega) (by omega)), p_ix (show k < 12 by omega) (by omega), p_cl (by omega), (hT k (by omega)).1]
    have re : f_X4_rightIn (X' 4) (nI k) = some (p_hc (p_tt S (k + 1) % 9)) := by
      unfold f_X4_rightIn
      rw [if_neg (nI_pos (by omega)), if_neg (show ¬ (12 : Int32) ≤ nI k from nI_ge (b := 12) (by omega) (by omega)), p_ix (show k < 12 by omega) (by omega), p_cl (by omega), (hT k (by omega)).2]
    have gz := g_zh gk
    have gz2 : p_Good (p_zh (p_put (p_hk S k) 0 (p_tt S (k + 1) / 9))) := by
      unfold p_put
      split
      · exact gz
      · exact gz
    have hr2 : (p_put (p_hk S k) 0 (p_tt S (k + 1) / 9)).1 (2 + 1) ≤ p_nd (p_put (p_hk S k) 0 (p_tt S (k + 1) / 9)) := by
      unfold p_put
      split
      · exact gk.2.2.2.1
      · exact gk.2.2.2.1
    have hn2 : p_tt S (k + 1) % 9 ≤ p_nd (p_put (p_hk S k) 0 (p_tt S (k + 1) / 9)) := by
      unfold p_put
      split
      · exact ho.2.1
      · exact ho.2.1
    rw [f_X5_plays_41, hb, if_neg (nI_ge (by omega) (by omega)), le, p_bind, re]
    refine p_wp_seq (uX_putW hB gz (hand := 0) (c := p_tt S (k + 1) / 9) (by decide) ho.1 gk.2.2.1) (fun u hu => ?_)
    rw [p_bind]
    refine p_wp_seq (uX_putW hu gz2 (hand := 1) (by decide) hn2 hr2) (fun v hv => ?_)
    rw [p_hk_s] at hv
    rw [nI_1]
    exact ih n (k + 1) _ (by omega) (by omega) (p_FX_trans hX (p_FX_1 X' _)) hv hT
theorem q61_102 {nz sh : Int32 → Int32} (hD : p_DRN nz sh) (M0 : q_St) (r30 : Int32 → Int32 → Int32 → q_St → Option (Int32 × q_St)) (x2 x3 x4 lea : Int32) : ∀ (len n : Nat) (b : Bool) (M : q_St), len < 100 → len < n → M.2 0 8 = lea → f_X6_evening_102 M0 r30 n x2 x3 x4 (p_b b) (nI len) M = (if (p_dr nz (p_lv sh lea) len b (M.2 0 9)).1 = true then r30 x2 (x3 + 1) (x4 + 1) (M.1, va_up M.2 0 (upd (M.2 0) 9 (p_dr nz (p_lv sh lea) len b (M.2 0 9)).2)) else r30 x2 x3 (x4 + 1) (M.1, va_up M.2 0 (upd (M.2 0) 9 (p_dr nz (p_lv sh lea) len b (M.2 0 9)).2))) := by
  intro len
  induction len with
  | zero =>
    intro n b M hl hn h8
    obtain ⟨n, rfl⟩ := p_suc (show 0 < n by omega)
    have e : (M.1, va_up M.2 0 (upd (M.2 0) 9 (M.2 0 9))) = M := by
      rw [fa_upd_same rfl]
      refine Prod.ext rfl (funext fun j => ?_)
      show (if j = 0 then M.2 0 else M.2 j) = M.2 j
      by_cases q : j = 0
      · rw [if_pos q, q]
      · rw [if_neg q]
    rw [f_X6_evening_102, if_pos (show nI 0 ≤ 0 by decide), p_bif, Int32.add_zero]
    show _ = if b = true then r30 x2 (x3 + 1) (x4 + 1) (M.1, va_up M.2 0 (upd (M.2 0) 9 (M.2 0 9))) else r30 x2 x3 (x4 + 1) (M.1, va_up M.2 0 (upd (M.2 0) 9 (M.2 0 9)))
    rw [e]
  | succ len ih =>
    intro n b M hl hn h8
    obtain ⟨n, rfl⟩ := p_suc (show 0 < n by omega)
    have e : ∀ x, va_up (va_up M.2 0 (upd (M.2 0) 9 (nz (M.2 0 9)))) 0 (upd (upd (M.2 0) 9 (nz (M.2 0 9))) 9 x) = va_up M.2 0 (upd (M.2 0) 9 x) := fun x => by
      rw [fa_upd_twice]
      funext j
      unfold va_up
      by_cases q : j = 0
      · rw [if_pos q, if_pos q]
      · rw [if_neg q, if_neg q, if_neg q]
    have ih1 : ∀ b, f_X6_evening_102 M0 r30 n x2 x3 x4 (p_b b) (nI len) (M.1, va_up M.2 0 (upd (M.2 0) 9 (nz (M.2 0 9)))) = (if (p_dr nz (p_lv sh lea) len b (nz (M.2 0 9))).1 = true then r30 x2 (x3 + 1) (x4 + 1) (M.1, va_up (va_up M.2 0 (upd (M.2 0) 9 (nz (M.2 0 9)))) 0 (upd (upd (M.2 0) 9 (nz (M.2 0 9))) 9 (p_dr nz (p_lv sh lea) len b (nz (M.2 0 9))).2)) else r30 x2 x3 (x4 + 1) (M.1, va_up (va_up M.2 0 (upd (M.2 0) 9 (nz (M.2 0 9)))) 0 (upd (upd (M.2 0) 9 (nz (M.2 0 9))) 9 (p_dr nz (p_lv sh lea) len b (nz (M.2 0 9))).2))) := fun b => ih n b (M.1, va_up M.2 0 (upd (M.2 0) 9 (nz (M.2 0 9)))) (by omega) (by omega) h8
    rw [f_X6_evening_102, if_neg (show ¬ nI (len + 1) ≤ 0 from nI_nle (by omega) (by omega)), hD M, p_bind, p_Q8, p_C8]
    unfold f_X6_evening_128
    rw [p_bif, p_bif]
    show (if M.2 0 8 ≤ sh (nz (M.2 0 9)) - sh (nz (M.2 0 9)) / (10 : Int32) * (10 : Int32) then (if b = true then f_X6_evening_102 M0 r30 n x2 x3 x4 (p_b true) (nI (len + 1) + (-1)) (M.1, va_up M.2 0 (upd (M.2 0) 9 (nz (M.2 0 9)))) else f_X6_evening_102 M0 r30 n x2 x3 x4 (p_b false) (nI (len + 1) + (-1)) (M.1, va_up M.2 0 (upd (M.2 0) 9 (nz (M.2 0 9))))) else (if b = true then f_X6_evening_102 M0 r30 n x2 x3 x4 (p_b true) (nI (len + 1) + (-1)) (M.1, va_up M.2 0 (upd (M.2 0) 9 (nz (M.2 0 9)))) else f_X6_evening_102 M0 r30 n x2 x3 x4 (p_b true) (nI (len + 1) + (-1)) (M.1, va_up M.2 0 (upd (M.2 0) 9 (nz (M.2 0 9)))))) = _
    rw [pk_m1, ih1, ih1, p_dr_s, h8, e, e]
    by_cases q : lea ≤ sh (nz (M.2 0 9)) - sh (nz (M.2 0 9)) / (10 : Int32) * (10 : Int32)
    · have lv : p_lv sh lea (nz (M.2 0 9)) = false := by unfold p_lv; rw [decide_eq_true q]; rfl
      rw [if_pos q, lv, Bool.or_false]
      cases b <;> rfl
    · have lv : p_lv sh lea (nz (M.2 0 9)) = true := by unfold p_lv; rw [decide_eq_false q]; rfl
      rw [if_neg q, lv, Bool.or_true]
      cases b <;> rfl
end EVEN
