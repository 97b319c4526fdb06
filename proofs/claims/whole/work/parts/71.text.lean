/-! texts: items, the loops, and the call -/
def p_HI (R : Nat → Int32) (E : p_S) : Nat → Nat → p_S → Prop
  | 0, _, S => S = E
  | len + 1, i, S => ∃ w a c, p_io S w a c ∧ R (3 * i) = nI w ∧ R (3 * i + 1) = nI a ∧ R (3 * i + 2) = p_ic w c ∧ p_HI R E len (i + 1) (p_ap S w a c)
theorem p_HI_snoc {R R' : Nat → Int32} {E : p_S} {w a c j : Nat} (hio : p_io E w a c) (hR : ∀ i, i < 3 * j → R' i = R i) (h0 : R' (3 * j) = nI w) (h1 : R' (3 * j + 1) = nI a) (h2 : R' (3 * j + 2) = p_ic w c) : ∀ len i S, i + len = j → p_HI R E len i S → p_HI R' (p_ap E w a c) (len + 1) i S
  | 0, i, S, hi, h => by
    have hi : i = j := hi
    have h : S = E := h
    subst hi
    subst h
    exact ⟨w, a, c, hio, h0, h1, h2, rfl⟩
  | len + 1, i, S, hi, h => by
    obtain ⟨w', a', c', x1, x2, x3, x4, x5⟩ := h
    exact ⟨w', a', c', x1, (hR _ (by omega)).trans x2, (hR _ (by omega)).trans x3, (hR _ (by omega)).trans x4, p_HI_snoc hio hR h0 h1 h2 len (i + 1) _ (by omega) x5⟩
section TEXT
variable {B : Nat → Nat} {L it : Nat} {T Bo M0 M : q_St} {S : p_S}
theorem q71_leaves (hL : L ≤ 120) (hB : ∀ i, i < L → B i < 256) {s j : Nat} (hs : s < L) (hj : j < 120) (hT : p_TX B L it s T) (hR : p_RB Bo S) {M1 : q_St} (hN : p_PN B L (tk_n B L s) j (p_nd S) (p_nb S) M0 M1) (d1 : M1.2 = M.2) : p_IO B L it s j S M0 M (f_X3_readLeaves T Bo) (Option.bind (f_X6_number M1 (0 : Int32) (10 : Int32)) (fun u9 => Option.bind (f_X6_item u9.2 (11 : Int32) u9.1 (0 : Int32)) (fun u10 => some u10))) := by
  unfold f_X3_readLeaves
  have n1 := tk_n_le (B := B) (L := L) (s := s) (by omega)
  obtain ⟨u1, e1, t1⟩ := q69_nextX hL hB (by omega) hT
  have nn : f_X3_isNumber u1 (0 : Int32) (10 : Int32) = some (p_b (tk_no B L (tk_n B L s) 0 11)) := q69_isN (a := 0) (b := 11) (by omega) (by omega) t1
  obtain ⟨m2, f2, p2⟩ := n70_num hL hB n1.2.1 (a := 0) (b := 11) (by omega) (by omega) hN
  have f2 : f_X6_number M1 (0 : Int32) (10 : Int32) = some m2 := f2
  rw [e1, p_bind, nn, p_bind, p_bif, f2, p_bind]
  rcases p2 with ⟨y, v2, w2, d2⟩ | ⟨y, w2⟩
  · have k2 := y
    unfold tk_no at k2
    rw [Bool.and_eq_true, Bool.and_eq_true, decide_eq_true_eq, decide_eq_true_eq, decide_eq_true_eq] at k2
    have num := t1.2.2.2.2.1 k2.1
    have n2 := tk_n_le (B := B) (L := L) (s := tk_n B L s) n1.2.1
    obtain ⟨u3, e3, t3⟩ := q69_nextX hL hB n1.2.1 t1
    obtain ⟨m4, f4, p4, d4⟩ := n70_item hj w2 (11 : Int32) m2.1 (0 : Int32)
    rw [y, if_pos rfl, e3, p_bind, num, f4, p_bind]
    refine ⟨true, _, _, _, rfl, rfl, fun _ => ?_, (fun z => absurd z (by decide))⟩
    refine ⟨_, 11, tk_v B L (tk_n B L s), 0, ?_, n2.2.1, t3, Or.inr (Or.inl ⟨rfl, by omega⟩), uX_lea hR _, p4, ?_⟩
    · have := n1.2.2 hs
      omega
    · rw [d4, d2, d1, v2]
      rfl
  · obtain ⟨m4, f4, p4⟩ := f70_item hj w2 (11 : Int32) m2.1 (0 : Int32)
    rw [y, if_neg (by decide), f4, p_bind]
    exact ⟨false, _, _, _, rfl, rfl, (fun z => absurd z (by decide)), fun _ => ⟨_, n1.2.1, t1.2.1, p4⟩⟩
theorem q71_hook (hL : L ≤ 120) (hB : ∀ i, i < L → B i < 256) {s j : Nat} (hs : s < L) (hj : j < 120) (hT : p_TX B L it s T) (hR : p_RB Bo S) (g : p_Good S) {M1 : q_St} (hN : p_PN B L (tk_n B L s) j (p_nd S) (p_nb S) M0 M1) (d1 : M1.2 = M.2) : p_IO B L it s j S M0 M (f_X3_readHook T Bo) (Option.bind (f_X6_number M1 (0 : Int32) (M1.1 19 - (1 : Int32))) (fun u6 => Option.bind (f_X6_number u6.2 (0 : Int32) (u6.2.1 19 - (1 : Int32))) (fun u7 => Option.bind (f_X6_item u7.2 (12 : Int32) u6.1 u7.1) (fun u8 => some u8)))) := by
  have h8 := g.1
  unfold f_X3_readHook
  have n1 := tk_n_le (B := B) (L := L) (s := s) (by omega)
  obtain ⟨u1, e1, t1⟩ := q69_nextX hL hB (by omega) hT
  have nn : f_X3_isNumber u1 (0 : Int32) (p_hc (p_nd S)) = some (p_b (tk_no B L (tk_n B L s) 0 (p_nd S))) := q69_isN (a := 0) (b := p_nd S) (by omega) (by omega) t1
  obtain ⟨m2, f2, p2⟩ := n70_num hL hB n1.2.1 (a := 0) (b := p_nd S) (by omega) (by omega) hN
  have f2 : f_X6_number M1 (0 : Int32) (p_hc (p_nd S)) = some m2 := f2
  rw [hR.1, hN.2.2.2.1, p_hc_m _ (by omega), e1, p_bind, nn, p_bind, p_bif, f2, p_bind]
  rcases p2 with ⟨y, v2, w2, d2⟩ | ⟨y, w2⟩
  · have k2 := y
    unfold tk_no at k2
    rw [Bool.and_eq_true, Bool.and_eq_true, decide_eq_true_eq, decide_eq_true_eq, decide_eq_true_eq] at k2
    have num := t1.2.2.2.2.1 k2.1
    have n2 := tk_n_le (B := B) (L := L) (s := tk_n B L s) n1.2.1
    obtain ⟨u3, e3, t3⟩ := q69_nextX hL hB n1.2.1 t1
    have nn3 : f_X3_isNumber u3 (0 : Int32) (p_hc (p_nd S)) = some (p_b (tk_no B L (tk_n B L (tk_n B L s)) 0 (p_nd S))) := q69_isN (a := 0) (b := p_nd S) (by omega) (by omega) t3
    obtain ⟨m4, f4, p4⟩ := n70_num hL hB n2.2.1 (a := 0) (b := p_nd S) (by omega) (by omega) w2
    have f4 : f_X6_number m2.2 (0 : Int32) (p_hc (p_nd S)) = some m4 := f4
    rw [y, if_pos rfl, e3, p_bind, nn3, p_bind, p_bif, w2.2.2.2.1, p_hc_m _ (by omega), f4, p_bind]
    rcases p4 with ⟨y4, v4, w4, d4⟩ | ⟨y4, w4⟩
    · have k4 := y4
      unfold tk_no at k4
      rw [Bool.and_eq_true, Bool.and_eq_true, decide_eq_true_eq, decide_eq_true_eq, decide_eq_true_eq] at k4
      have num4 := t3.2.2.2.2.1 k4.1
      have n3 := tk_n_le (B := B) (L := L) (s := tk_n B L (tk_n B L s)) n2.2.1
      have ha : tk_v B L (tk_n B L s) < p_nd S := by omega
      have hb : tk_v B L (tk_n B L (tk_n B L s)) < p_nd S := by omega
      obtain ⟨u5, e5, r5⟩ := uX_swap hR g ha hb
      obtain ⟨u6, e6, t6⟩ := q69_nextX hL hB n2.2.1 t3
      obtain ⟨m5, f5, p5, d5⟩ := n70_item hj w4 (12 : Int32) m2.1 m4.1
      rw [y4, if_pos rfl, num, num4, e5, p_bind, e6, p_bind, f5, p_bind]
      refine ⟨true, _, _, _, rfl, rfl, fun _ => ?_, (fun z => absurd z (by decide))⟩
      refine ⟨_, 12, tk_v B L (tk_n B L s), tk_v B L (tk_n B L (tk_n B L s)), ?_, n3.2.1, t6, Or.inr (Or.inr (Or.inl ⟨rfl, ha, hb⟩)), r5, p5, ?_⟩
      · have := n1.2.2 hs
        omega
      · rw [d5, d4, d2, d1, v2, v4]
        rfl
    · obtain ⟨m5, f5, p5⟩ := f70_item hj w4 (12 : Int32) m2.1 m4.1
      rw [y4, if_neg (by decide), f5, p_bind]
      exact ⟨false, _, _, _, rfl, rfl, (fun z => absurd z (by decide)), fun _ => ⟨_, n2.2.1, t3.2.1, p5⟩⟩
  · obtain ⟨m4, f4, p4⟩ := f70_num w2 (0 : Int32) (m2.2.1 19 - (1 : Int32))
    obtain ⟨m5, f5, p5⟩ := f70_item hj p4 (12 : Int32) m2.1 m4.1
    rw [y, if_neg (by decide), f4, p_bind, f5, p_bind]
    exact ⟨false, _, _, _, rfl, rfl, (fun z => absurd z (by decide)), fun _ => ⟨_, n1.2.1, t1.2.1, p5⟩⟩
theorem q71_none {s j : Nat} (hs : s ≤ L) (hj : j < 120) (hT : p_TX B L it s T) (hN : p_PN B L s j (p_nd S) (p_nb S) M0 M) : p_IO B L it s j S M0 M (some ((0 : Int32), T, Bo)) (Option.bind (f_X6_must M (0 : Int32)) (fun u5 => Option.bind (f_X6_number u5 (0 : Int32) (u5.1 19 - (1 : Int32))) (fun u6 => Option.bind (f_X6_number u6.2 (0 : Int32) (u6.2.1 19 - (1 : Int32))) (fun u7 => Option.bind (f_X6_item u7.2 (12 : Int32) u6.1 u7.1) (fun u8 => some u8))))) := by
  obtain ⟨m1, f1, p1⟩ := n70_must0 hN
  obtain ⟨m2, f2, p2⟩ := f70_num p1 (0 : Int32) (m1.1 19 - (1 : Int32))
  obtain ⟨m3, f3, p3⟩ := f70_num p2 (0 : Int32) (m2.2.1 19 - (1 : Int32))
  obtain ⟨m4, f4, p4⟩ := f70_item hj p3 (12 : Int32) m2.1 m3.1
  rw [f1, p_bind, f2, p_bind, f3, p_bind, f4, p_bind]
  exact ⟨false, _, _, _, rfl, rfl, (fun z => absurd z (by decide)), fun _ => ⟨s, hs, hT.2.1, p4⟩⟩
theorem q71_w1 {s j : Nat} {o1 : Option (Int32 × q_St × q_St)} {o2 : Option q_St} (h : p_IO B L it s j S M0 M o1 o2) : p_IO B L it s j S M0 M (Option.bind o1 (fun u1 => q_bz u1.1 (some (u1.1, u1.2.1, u1.2.2)))) o2 := by
  obtain ⟨b, T', Bo', M', h1, h2, h3⟩ := h
  refine ⟨b, T', Bo', M', ?_, h2, h3⟩
  rw [h1, p_bind]
  exact p_bz b _
theorem q71_w2 {s j : Nat} {o1 : Option (Int32 × q_St × q_St)} {o2 : Option q_St} (h : p_IO B L it s j S M0 M o1 o2) : p_IO B L it s j S M0 M (Option.bind o1 (fun u5 => if u5.1 = 0 then some ((0 : Int32), u5.2.1, u5.2.2) else some ((1 : Int32), u5.2.1, u5.2.2))) o2 := by
  obtain ⟨b, T', Bo', M', h1, h2, h3⟩ := h
  refine ⟨b, T', Bo', M', ?_, h2, h3⟩
  rw [h1, p_bind]
  cases b with
  | false => exact if_pos rfl
  | true => exact if_neg p_n10
theorem q71_wd {s w : Nat} (hw : w < 12) (hT : p_TX B L it s T) (h : tk_is B L s w = true) : T.1 5 = (1 : Int32) ∧ T.1 7 = nI w ∧ s < L := by
  unfold tk_is at h
  rw [Bool.and_eq_true, decide_eq_true_eq] at h
  refine ⟨by rw [hT.2.2.2.1, h.1]; rfl, ?_, ?_⟩
  · rw [hT.2.2.2.2.2 h.1, (tk_wd_12 B s _ hw).mpr h.2]
    rfl
  · apply Classical.byContradiction
    intro z
    have := h.1
    unfold tk_k at this
    rw [if_pos (by omega)] at this
    exact absurd this (by decide)
theorem q71_cls0 {s : Nat} (hT : p_TX B L it s T) (h : ∀ w, w < 10 → tk_is B L s w = false) : f_X3_readItem T Bo = some ((0 : Int32), T, Bo) := by
  have hk := tk_k_lt B L s
  have hl := tk_wd_le B s (tk_e B L s) 12 0 0 (by omega)
  unfold f_X3_readItem
  by_cases k1 : tk_k B L s = 1
  · have h7 := hT.2.2.2.2.2 k1
    have hw : ∀ w, w < 10 → ¬ tk_wd B s (tk_e B L s) 12 0 0 = w + 1 := by
      intro w hw z
      have a := h w hw
      unfold tk_is at a
      rw [decide_eq_true k1, Bool.true_and, (tk_wd_12 B s _ (by omega)).mp z] at a
      exact absurd a (by decide)
    have n7 : ∀ w, w < 10 → ¬ T.1 7 = nI w := by
      intro w h10 z
      rw [h7] at z
      exact hw w h10 ((p_hc_eq (b := w + 1) (by omega) (by omega)).mp z)
    have nk : f_X1_isKind (T.1 7) = some 0 := by
      unfold f_X1_isKind
      rw [h7]
      cases e : tk_wd B s (tk_e B L s) 12 0 0 with
      | zero => rw [if_pos (show p_hc 0 < 0 by decide)]
      | succ w =>
        have : 10 ≤ w := by
          apply Classical.byContradiction
          intro z
          exact hw w (by omega) e
        rw [p_hcs, if_neg (nI_pos (by omega)), if_pos (show (7 : Int32) ≤ nI w from nI_le (a := 7) (by omega) (by omega))]
    rw [if_pos (show T.1 5 = (1 : Int32) by rw [hT.2.2.2.1, k1]; rfl), if_neg (show ¬ T.1 7 = (7 : Int32) from n7 7 (by decide)), if_neg (show ¬ T.1 7 = (8 : Int32) from n7 8 (by decide)), if_neg (show ¬ T.1 7 = (9 : Int32) from n7 9 (by decide)), nk, p_bind, if_pos p_z00]
  · rw [if_neg (show ¬ T.1 5 = (1 : Int32) from fun z => k1 (by rw [hT.2.2.2.1] at z; exact (nI_eq (b := 1) (by omega) (by omega)).mp z))]
theorem q71_kd0 {s : Nat} (h : ∀ w, w < 7 → tk_is B L s w = false) : tk_kd B L s 7 0 0 = 0 := by
  rcases tk_kd_spec B L s 7 0 0 with ⟨h1, _⟩ | ⟨w, h1, h2, h3, _⟩
  · exact h1
  · rw [h w (by omega)] at h3
    exact absurd h3 (by decide)
theorem q71_item (hL : L ≤ 120) (hB : ∀ i, i < L → B i < 256) {s j : Nat} (hs : s ≤ L) (hj : j < 120) (hT : p_TX B L it s T) (hR : p_RB Bo S) (g : p_Good S) (hN : p_PN B L s j (p_nd S) (p_nb S) M0 M) : p_IO B L it s j S M0 M (f_X3_readItem T Bo) (f_X6_readItem M) := by
  have kd := n70_kd hL hs hN.1
  have nx : ∀ {w : Nat}, w < 12 → f_X6_isWord M w = some (p_b (tk_is B L s w)) := fun hw => q69_isWN hL hs hw hN.1
  have uni : ∀ {w w' : Nat}, w < 12 → w' < 12 → tk_is B L s w = true → w ≠ w' → tk_is B L s w' = false := by
    intro w w' hw hw' h hn
    cases e : tk_is B L s w' with
    | false => rfl
    | true => exact absurd (tk_is_uni hw hw' h e) hn
  unfold f_X6_readItem
  rw [kd, p_bind]
  by_cases q7 : ∃ w, w < 7 ∧ tk_is B L s w = true
  · obtain ⟨w, hw, hi⟩ := q7
    have ek : tk_kd B L s 7 0 0 = w + 1 := by
      rcases tk_kd_spec B L s 7 0 0 with ⟨_, h1⟩ | ⟨w', h1, h2, h3, h4⟩
      · rw [h1 w (by omega) (by omega)] at hi
        exact absurd hi (by decide)
      · rw [h4, tk_is_uni (by omega) (by omega) h3 hi]
    obtain ⟨c5, c7, sL⟩ := q71_wd (by omega) hT hi
    have n7 : ∀ v, 7 ≤ v → v < 10 → ¬ nI w = nI v := fun v h1 h2 z => by
      have := (nI_eq (a := w) (b := v) (by omega) (by omega)).mp z
      omega
    have kk : f_X1_isKind (nI w) = some 1 := by
      unfold f_X1_isKind
      rw [if_neg (nI_pos (by omega)), if_neg (show ¬ (7 : Int32) ≤ nI w from nI_ge (b := 7) hw (by omega))]
    rw [ek, p_hcs, if_neg (nI_pos (by omega))]
    unfold f_X3_readItem
    rw [if_pos c5, c7, if_neg (show ¬ nI w = (7 : Int32) from n7 7 (by decide) (by decide)), if_neg (show ¬ nI w = (8 : Int32) from n7 8 (by decide) (by decide)), if_neg (show ¬ nI w = (9 : Int32) from n7 9 (by decide) (by decide)), kk, p_bind, if_neg p_n10]
    exact q71_w2 (q70_doll hL hB sL hj hw hT hR g hN)
  · have n7 : ∀ w, w < 7 → tk_is B L s w = false := fun w hw => by
      cases e : tk_is B L s w with
      | false => rfl
      | true => exact absurd ⟨w, hw, e⟩ q7
    rw [q71_kd0 n7, if_pos (show p_hc 0 < 0 by decide), nx (w := 7) (by decide), p_bind, p_bif]
    cases i7 : tk_is B L s 7 with
    | true =>
      obtain ⟨c5, c7, sL⟩ := q71_wd (by omega) hT i7
      unfold f_X3_readItem
      rw [if_pos (show true = true from rfl), if_pos c5, if_pos (show T.1 7 = (7 : Int32) from c7)]
      exact q71_w1 (q70_beat hL hB sL hj hT hR g hN)
    | false =>
      obtain ⟨m1, f1, p1⟩ := n70_nxt hL hB hs (w := 8) (by decide) hN
      rw [if_neg (show ¬ false = true by decide), f1, p_bind]
      rcases p1 with ⟨i8, z1, z2, z3⟩ | ⟨i8, z1, z2⟩
      · obtain ⟨c5, c7, sL⟩ := q71_wd (by omega) hT i8
        unfold f_X3_readItem
        rw [z1, if_neg p_n10, if_pos c5, if_neg (show ¬ T.1 7 = (7 : Int32) by rw [c7]; decide), if_pos (show T.1 7 = (8 : Int32) from c7)]
        exact q71_w1 (q71_leaves hL hB sL hj hT hR z2 z3)
      · rw [z1, if_pos p_z00, z2, nx (w := 9) (by decide), p_bind]
        cases i9 : tk_is B L s 9 with
        | true =>
          obtain ⟨c5, c7, sL⟩ := q71_wd (by omega) hT i9
          obtain ⟨m3, f3, p3, d3⟩ := n70_must1 hL hB hs hN
          unfold f_X3_readItem
          rw [show p_b true = (1 : Int32) from rfl, f3, p_bind, if_pos c5, if_neg (show ¬ T.1 7 = (7 : Int32) by rw [c7]; decide), if_neg (show ¬ T.1 7 = (8 : Int32) by rw [c7]; decide), if_pos (show T.1 7 = (9 : Int32) from c7)]
          exact q71_w1 (q71_hook hL hB sL hj hT hR g p3 d3)
        | false =>
          rw [q71_cls0 hT (fun w hw => by
            by_cases q : w < 7
            · exact n7 w q
            · have : w = 7 ∨ w = 8 ∨ w = 9 := by omega
              rcases this with rfl | rfl | rfl
              · exact i7
              · exact i8
              · exact i9), show p_b false = (0 : Int32) from rfl]
          exact q71_none hs hj hT hN
theorem q71_up {s : Nat} (h : p_TX B L it s T) : p_TX B L (it + 1) s (va_up T.1 1 (T.1 1 + (1 : Int32)), T.2) :=
  ⟨⟨h.1.1, h.1.2.1, (show T.1 1 + (1 : Int32) = nI (it + 1) by rw [h.1.2.2, nI_1])⟩, h.2.1, h.2.2.1, h.2.2.2.1, h.2.2.2.2.1, h.2.2.2.2.2⟩
/-- the two readings end alike -/
def p_LO (L : Nat) (S0 : p_S) (M0 : q_St) (o1 : Option (Int32 × q_St × q_St)) (o2 : Option (Int32 × q_St)) : Prop := ∃ T' Bo' M' : q_St, M'.1 3 = M0.1 3 ∧ (∀ i, i ≠ 17 → M'.2 i = M0.2 i) ∧ M'.1 10 = 0 ∧ ((∃ k E, k ≤ 60 ∧ o1 = some ((-1 : Int32), T', Bo') ∧ T'.1 1 = nI k ∧ p_RB Bo' E ∧ M'.1 18 = nI k ∧ p_HI (M'.2 17) E k 0 S0 ∧ ∃ Mz, o2 = f_X6_text_123 Mz q_N (0 : Int32) (0 : Int32) M') ∨ (∃ s, s ≤ L ∧ o1 = some (nI s, T', Bo') ∧ o2 = some ((-1 : Int32) - nI s, M')))
theorem q71_f97 {s j : Nat} (h : p_PF s j M0 M) (Mz : q_St) (x : Int32) : ∃ M', f_X6_text_97 Mz x M = some ((-1 : Int32) - nI s, M') ∧ M'.1 3 = M0.1 3 ∧ (∀ i, i ≠ 17 → M'.2 i = M0.2 i) ∧ M'.1 10 = 0 := by
  obtain ⟨m, f, p⟩ := f70_must h x
  unfold f_X6_text_97
  rw [f, p_bind, p.1, if_neg p_n10, p.2.1]
  exact ⟨_, rfl, p.2.2.2.1, p.2.2.2.2, rfl⟩
theorem q71_f43 {s j : Nat} (h : p_PF s j M0 M) (Mz : q_St) (n : Nat) : ∃ M', f_X6_text_43 Mz (n + 1) M = some ((-1 : Int32) - nI s, M') ∧ M'.1 3 = M0.1 3 ∧ (∀ i, i ≠ 17 → M'.2 i = M0.2 i) ∧ M'.1 10 = 0 := by
  rw [f_X6_text_43, h.1, if_neg p_n10]
  unfold f_X6_text_84
  by_cases q : M.1 13 = 0
  · rw [if_pos q]
    exact q71_f97 h Mz _
  · rw [if_neg q]
    exact q71_f97 h Mz _
theorem q71_g97 {s j nd nb : Nat} (h : p_PN B L s j nd nb M0 M) (Mz : q_St) : ∃ M', f_X6_text_97 Mz (0 : Int32) M = some ((-1 : Int32) - nI s, M') ∧ M'.1 3 = M0.1 3 ∧ (∀ i, i ≠ 17 → M'.2 i = M0.2 i) ∧ M'.1 10 = 0 := by
  obtain ⟨m, f, p⟩ := n70_must0 h
  unfold f_X6_text_97
  rw [f, p_bind, p.1, if_neg p_n10, p.2.1]
  exact ⟨_, rfl, p.2.2.2.1, p.2.2.2.2, rfl⟩
theorem q71_loop (hL : L ≤ 120) (hB : ∀ i, i < L → B i < 256) (T0 B0 Mz : q_St) (S0 : p_S) : ∀ (n m j s : Nat) (S : p_S) (T Bo M : q_St), s ≤ L → 2 * j ≤ s → L < s + n → L < s + m → p_TX B L j s T → p_RB Bo S → p_Good S → p_PN B L s j (p_nd S) (p_nb S) M0 M → p_HI (M.2 17) S j 0 S0 → p_LO L S0 M0 (f_X3_read_16 T0 B0 n (nI j) T Bo) (Option.bind (f_X6_readItem M) (fun u => f_X6_text_43 Mz m u)) := by
  intro n
  induction n with
  | zero => intro m j s S T Bo M hs h2 hn; omega
  | succ n ih =>
    intro m j s S T Bo M hs h2 hn hm hT hR g hN hH
    obtain ⟨m, rfl⟩ := p_suc (show 0 < m by omega)
    obtain ⟨b, T', Bo', M', h1, h2', h3, h4⟩ := q71_item hL hB hs (show j < 120 by omega) hT hR g hN
    rw [f_X3_read_16, if_neg (show ¬ (120 : Int32) < nI j from nI_nlt (a := 120) (by omega) (by omega)), h1, p_bind, h2', p_bind]
    cases b with
    | false =>
      obtain ⟨s', hs', t4, pf⟩ := h4 rfl
      obtain ⟨M2, f1, f2, f3, f4⟩ := q71_f43 pf Mz m
      rw [if_pos (show p_b false = 0 from rfl), f1, t4]
      exact ⟨T', Bo', M2, f2, f3, f4, Or.inr ⟨s', hs', rfl, rfl⟩⟩
    | true =>
      obtain ⟨s', w, a, c, ss, sL, tx, io, rb, pn, r17⟩ := h3 rfl
      have hH' : p_HI (M'.2 17) (p_ap S w a c) (j + 1) 0 S0 := by
        refine p_HI_snoc (j := j) io (fun i hi => ?_) ?_ ?_ ?_ j 0 S0 (by omega) hH
        · rw [r17, pk_un (by omega), pk_un (by omega), pk_un (by omega)]
        · rw [r17, pk_un (by omega), pk_un (by omega), pk_us]
        · rw [r17, pk_un (by omega), pk_us]
        · rw [r17, pk_us]
      have hk := tk_k_lt B L s'
      have k5 := tx.2.2.2.1
      have k13 := pn.1.2.2.2.1
      rw [if_neg (show ¬ p_b true = 0 from p_n10), k5, f_X6_text_43, pn.2.1, if_pos p_z00, k13]
      by_cases k0 : tk_k B L s' = 0
      · rw [k0, if_neg (show ¬ (0 : Nat) = 4 by decide), if_pos (show nI 0 = 0 from rfl), if_neg (show ¬ nI 0 = (3 : Int32) by decide)]
        unfold f_X6_text_84 f_X6_text_97
        obtain ⟨m1, f1, p1, d1⟩ := n70_must1 hL hB sL pn
        rw [k13, k0, if_neg (show ¬ (0 : Nat) = 4 by decide), if_pos (show nI 0 = 0 from rfl), f1, p_bind, p1.2.1, if_pos p_z00]
        refine ⟨_, _, (va_up m1.1 10 (0 : Int32), m1.2), p1.2.2.2.2.2.1, p1.2.2.2.2.2.2, rfl, Or.inl ⟨j + 1, p_ap S w a c, by omega, rfl, (q71_up tx).1.2.2, rb, p1.2.2.1, ?_, _, rfl⟩⟩
        show p_HI (m1.2 17) _ _ _ _
        rw [d1]
        exact hH'
      · have sl : s' < L := by
          apply Classical.byContradiction
          intro z
          apply k0
          unfold tk_k
          rw [if_pos (by omega)]
        have b9 := pn.1.1.2 s' sl
        rw [if_neg (show ¬ nI (tk_k B L s') = 0 from fun z => k0 ((nI_eq (b := 0) (by omega) (by omega)).mp z))]
        by_cases k3 : tk_k B L s' = 3
        · have b59 : B s' = 59 := by
            have h := k3
            unfold tk_k at h
            rw [if_neg (by omega)] at h
            split at h
            · omega
            · split at h
              · omega
              · split at h
                · assumption
                · omega
          obtain ⟨u3, e3, t3⟩ := q69_nextX hL hB sL (q71_up tx)
          obtain ⟨m1, f1, p1, d1⟩ := n70_must1 hL hB sL pn
          have n1 := tk_n_le (B := B) (L := L) (s := s') sL
          have n2 := n1.2.2 sl
          rw [k3, if_pos (show nI 3 = (3 : Int32) from rfl), if_neg (show ¬ (3 : Nat) = 4 by decide), if_pos (show nI 3 = (3 : Int32) from rfl), e3, p_bind, pn.1.2.1, p_ix (show s' < 120 by omega) (by omega), p_cl (by omega), b9, if_pos (show nI (B s') = (59 : Int32) by rw [b59]; rfl), f1, p_bind, nI_1]
          exact ih m (j + 1) (tk_n B L s') (p_ap S w a c) u3 Bo' m1 n1.2.1 (by omega) (by omega) (by omega) t3 rb (g_ap g io) p1 (by rw [d1]; exact hH')
        · have n3 : ¬ nI (tk_k B L s') = (3 : Int32) := fun z => k3 ((nI_eq (b := 3) (by omega) (by omega)).mp z)
          obtain ⟨M2, f1, f2, f3, f4⟩ := q71_g97 pn Mz
          have e84 : f_X6_text_84 Mz M' = some ((-1 : Int32) - nI s', M2) := by
            unfold f_X6_text_84
            rw [k13, if_neg (show ¬ nI (if tk_k B L s' = 4 then 3 else tk_k B L s') = 0 from fun z => by
              have := (nI_eq (b := 0) (by split <;> omega) (by omega)).mp z
              split at this
              · omega
              · exact k0 this)]
            exact f1
          rw [if_neg n3, show (p_b true, T', Bo').2.1.1 4 = nI s' from tx.2.1]
          refine ⟨_, Bo', M2, f2, f3, f4, Or.inr ⟨s', sL, rfl, ?_⟩⟩
          by_cases k4 : tk_k B L s' = 4
          · have b59 : B s' ≠ 59 := by
              intro y
              have h := k4
              unfold tk_k at h
              rw [if_neg (by omega)] at h
              split at h
              · omega
              · split at h
                · omega
                · omega
            rw [if_pos k4, if_pos (show nI 3 = (3 : Int32) from rfl), pn.1.2.1, p_ix (show s' < 120 by omega) (by omega), p_cl (by omega), b9, if_neg (show ¬ nI (B s') = (59 : Int32) from fun z => b59 ((nI_eq (b := 59) (by have := hB s' sl; omega) (by omega)).mp z))]
            exact e84
          · rw [if_neg k4, if_neg n3]
            exact e84
/-! the items come -/
theorem q71_so (hN : p_RN (M.2 0) S) (g : p_Good S) {w a c i : Nat} (hi : i < 120) (io : p_io S w a c) (r0 : M.2 17 (3 * i) = nI w) (r1 : M.2 17 (3 * i + 1) = nI a) (r2 : M.2 17 (3 * i + 2) = p_ic w c) : p_wp (f_X6_isSo M (nI (3 * i))) (fun q => 0 ≤ q.1 ∧ p_FM M q.2 ∧ p_RN (q.2.2 0) (p_ap S w a c)) := by
  have h8 := g.1
  have h12 := g.2.1
  unfold f_X6_isSo
  rw [nI_1, show nI (3 * i) + (2 : Int32) = nI (3 * i + 2) from p_add _ 2, p_ix (show 3 * i + 1 < 360 by omega) (by omega), p_ix (show 3 * i + 2 < 360 by omega) (by omega), p_ix (show 3 * i < 360 by omega) (by omega), p_cl (by omega), p_cl (by omega), p_cl (by omega), r0, r1, r2]
  rcases io with ⟨rfl, a1, a2, a3⟩ | ⟨rfl, a1⟩ | ⟨rfl, a1, a2⟩ | ⟨a0, a1, a2, a3⟩
  · rw [if_pos (show nI 10 = (10 : Int32) from rfl)]
    refine p_wp_seq (uM_comesB hN g (c := a) (s := c) a1) ?_
    rintro q ⟨q1, q2, q3⟩
    rw [p_wp_some]
    exact ⟨by rw [q1]; exact nI_pos' (by omega), q2, q3⟩
  · rw [if_neg (show ¬ nI 11 = (10 : Int32) by decide), if_pos (show nI 11 = (11 : Int32) from rfl), show f_X6_become M (8 : Int32) (nI a) = _ from uM_become M (i := 8) (by decide) (nI a), p_bind, p_wp_some]
    exact ⟨by rw [hN.2.2.2.2.1]; exact nI_pos' (by have := g.2.2.2.2.2.1; omega), p_FM_up M _, uN_lea hN g a⟩
  · rw [if_neg (show ¬ nI 12 = (10 : Int32) by decide), if_neg (show ¬ nI 12 = (11 : Int32) by decide), if_pos (show nI 12 = (12 : Int32) from rfl)]
    refine p_wp_seq (uM_swap hN g a1 a2) ?_
    rintro q ⟨q1, q2, q3⟩
    rw [p_wp_some]
    exact ⟨by rw [q1]; exact nI_pos' (by have := ((g_sw g a1 a2).d (d := a) a1).2.2.2; omega), q2, q3⟩
  · have nw : ∀ v, 10 ≤ v → v < 100 → ¬ nI w = nI v := fun v h1 h2 z => by
      have := (nI_eq (a := w) (b := v) (by omega) (by omega)).mp z
      omega
    rw [if_neg (show ¬ nI w = (10 : Int32) from nw 10 (by decide) (by decide)), if_neg (show ¬ nI w = (11 : Int32) from nw 11 (by decide) (by decide)), if_neg (show ¬ nI w = (12 : Int32) from nw 12 (by decide) (by decide)), p_ix (show 3 * i < 360 by omega) (by omega)]
    refine p_wp_seq (uM_comes hN g (k := w) (z := a) a1) ?_
    rintro q ⟨q1, q2, q3⟩
    rw [p_wp_some]
    exact ⟨by rw [q1]; exact nI_pos' (by omega), q2, by rw [p_apd S a0]; exact q3⟩
theorem q71_123 (Mz : q_St) {k : Nat} (hk : k ≤ 60) {E : p_S} : ∀ (len n i : Nat) (S : p_S) (M : q_St), i + len = k → len < n → M.1 18 = nI k → p_RN (M.2 0) S → p_Good S → p_HI (M.2 17) E len i S → p_wp (f_X6_text_123 Mz n (nI i) (nI i) M) (fun q => q.1 = nI k ∧ p_FM M q.2 ∧ p_RN (q.2.2 0) E ∧ p_Good E) := by
  intro len
  induction len with
  | zero =>
    intro n i S M hi hn h18 hN g hH
    obtain ⟨n, rfl⟩ := p_suc (show 0 < n by omega)
    have hH : S = E := hH
    subst hH
    rw [f_X6_text_123, h18, if_pos (nI_le (by omega) (by omega)), p_wp_some]
    exact ⟨by rw [show i = k by omega], p_FM_refl M, hN, g⟩
  | succ len ih =>
    intro n i S M hi hn h18 hN g hH
    obtain ⟨n, rfl⟩ := p_suc (show 0 < n by omega)
    obtain ⟨w, a, c, io, r0, r1, r2, hH⟩ := hH
    rw [f_X6_text_123, h18, if_neg (nI_ge (by omega) (by omega)), show (3 : Int32) * nI i = nI (3 * i) from p_mul 3 i]
    refine p_wp_seq (q71_so hN g (show i < 120 by omega) io r0 r1 r2) ?_
    rintro q ⟨q1, q2, q3⟩
    rw [if_pos q1, nI_1]
    refine p_wp_mono (ih n (i + 1) (p_ap S w a c) q.2 (by omega) (by omega) (by rw [q2.1]; exact h18) q3 (g_ap g io) (by rw [q2.2 17 (by decide)]; exact hH)) ?_
    rintro r ⟨a1, a2, a3, a4⟩
    exact ⟨a1, p_FM_trans q2 a2, a3, a4⟩
end TEXT
theorem p_Rel_tx {S S' : p_S} {X X' : Nat → q_St} {M M' : q_St} (h : p_RelS S X M) (g : p_Good S') (hB : p_RB (X' 1) S') (hN : p_RN (M'.2 0) S') (x : ∀ i, i ≠ 1 → i ≠ 3 → i ≠ 5 → X' i = X i) (x5 : (X' 5).1 0 = 0) (m3 : M'.1 3 = M.1 3) (m10 : M'.1 10 = 0) (mr : ∀ i, i ≠ 0 → i ≠ 17 → M'.2 i = M.2 i) : p_RelS S' X' M' := by
  obtain ⟨_, _, _, hk, hf, ht, hs⟩ := h
  refine ⟨g, hB, hN, ?_, ?_, ⟨0, by omega, x5, m10, fun i hi => absurd hi (Nat.not_lt_zero _)⟩, ?_⟩
  · unfold p_Kp
    rw [x 0 (by decide) (by decide) (by decide), x 2 (by decide) (by decide) (by decide), m3, mr 1 (by decide) (by decide)]
    exact hk
  · unfold p_Fd
    rw [x 0 (by decide) (by decide) (by decide), mr 4 (by decide) (by decide)]
    exact hf
  · intro s h4
    rw [x (6 + s) (by omega) (by omega) (by omega), mr 21 (by decide) (by decide), mr 22 (by decide) (by decide), mr 23 (by decide) (by decide)]
    exact hs s h4
theorem w_text {X : Nat → q_St} {M : q_St} (h : p_Rel X M) : p_Both (f_X5_text X) (f_X6_text M) := by
  obtain ⟨S, hS⟩ := h
  have g := hS.1
  have hB := hS.2.1
  have hN := hS.2.2.1
  obtain ⟨t, ht, t1, t2, t3⟩ := hS.2.2.2.2.2.1
  obtain ⟨B, hBs⟩ : ∃ B : Nat → Nat, ∀ i, i < t → B i < 256 ∧ (X 5).2 2 i = nI (B i) ∧ M.2 9 i = nI (B i) := by
    refine (Classical.skolem (p := fun i b => i < t → b < 256 ∧ (X 5).2 2 i = nI b ∧ M.2 9 i = nI b)).mp (fun i => ?_)
    by_cases q : i < t
    · obtain ⟨b, hb⟩ := t3 i q
      exact ⟨b, fun _ => hb⟩
    · exact ⟨0, fun z => absurd z q⟩
  have hb : ∀ i, i < t → B i < 256 := fun i hi => (hBs i hi).1
  obtain ⟨u1, e1, r1⟩ := uX_take (B0 := X 3) hB g
  have tb : p_TB B t 0 (va_up (va_up (X 5).1 1 (0 : Int32)) 3 (0 : Int32), (X 5).2) := ⟨t1, fun i hi => (hBs i hi).2.1, rfl⟩
  obtain ⟨T1, e2, tx⟩ := q69_next0 ht hb (p := 0) (by omega) tb rfl
  have nb : p_NB B t (va_up (va_up (va_up (va_up (va_up M.1 12 (0 : Int32)) 15 (0 : Int32)) 18 (0 : Int32)) 19 (M.2 0 0)) 20 (M.2 0 1), M.2) := ⟨t2, fun i hi => (hBs i hi).2.2⟩
  obtain ⟨m1, f1, nx, nf⟩ := q69_next1 ht hb (p := 0) (by omega) nb rfl
  have s0 := tk_s_le (B := B) (L := t) (p := 0) (by omega)
  have pn : p_PN B t (tk_s B t 0) 0 (p_nd S) (p_nb S) M m1 := ⟨nx, (nf.2 15 (by decide) (by decide) (by decide) (by decide)).trans rfl, (nf.2 18 (by decide) (by decide) (by decide) (by decide)).trans rfl, (nf.2 19 (by decide) (by decide) (by decide) (by decide)).trans hN.1, (nf.2 20 (by decide) (by decide) (by decide) (by decide)).trans hN.2.1, (nf.2 3 (by decide) (by decide) (by decide) (by decide)).trans rfl, fun i _ => congrFun nf.1 i⟩
  have lo := q71_loop ht hb (X 5) u1 M S q_N q_N 0 (tk_s B t 0) S T1 u1 m1 s0.2 (by omega) (by rw [q_N_eq]; omega) (by rw [q_N_eq]; omega) tx r1 g pn rfl
  unfold f_X5_text f_X6_text f_X3_read
  rw [e1, p_bind, e2, p_bind, p_Q0, p_Q1, p_C0, p_C1, f1, p_bind]
  obtain ⟨T', Bo', M', m3, mr, m10, ⟨k, E, hk, o1, k1, rb, m18, hi, Mz, o2⟩ | ⟨s, sL, o1, o2⟩⟩ := lo
  · have o1 : f_X3_read_16 (X 5) u1 q_N (0 : Int32) T1 u1 = some ((-1 : Int32), T', Bo') := o1
    have nm : p_RN (M'.2 0) S := by rw [mr 0 (by decide)]; exact hN
    obtain ⟨q, f2, q1, q2, q3, gE⟩ := q71_123 Mz hk k q_N 0 S M' (by omega) (by rw [q_N_eq]; omega) m18 nm g hi
    obtain ⟨u3, e3, r3⟩ := uX_take (B0 := X 1) rb gE
    rw [o1, p_bind, if_pos rfl, e3, p_bind, o2, show f_X6_text_123 Mz q_N (0 : Int32) (0 : Int32) M' = some q from f2, k1]
    refine ⟨_, rfl, _, rfl, q1.symm, E, p_Rel_tx hS gE ?_ q3 ?_ rfl ?_ ?_ ?_⟩
    · exact r3
    · intro i i1 i3 i5
      show va_up (va_up (va_up X 1 _) 3 _) 5 _ i = X i
      unfold va_up
      rw [if_neg i5, if_neg i3, if_neg i1]
    · rw [q2.1]; exact m3
    · rw [q2.1]; exact m10
    · intro i i0 i17
      rw [q2.2 i i0]
      exact mr i i17
  · have o1 : f_X3_read_16 (X 5) u1 q_N (0 : Int32) T1 u1 = some (nI s, T', Bo') := o1
    rw [o1, p_bind, if_neg (show ¬ nI s = (-1 : Int32) from fun z => by
      have := nI_pos (n := s) (by omega)
      rw [z] at this
      exact this (by decide)), o2]
    refine ⟨_, rfl, _, rfl, rfl, S, p_Rel_tx hS g ?_ ?_ ?_ rfl m3 m10 ?_⟩
    · exact hB
    · rw [mr 0 (by decide)]; exact hN
    · intro i i1 i3 i5
      show va_up (va_up X 3 _) 5 _ i = X i
      unfold va_up
      rw [if_neg i5, if_neg i3]
    · exact fun i _ i17 => mr i i17
