/-! the calls, on both sides: copy, load, judge -/
section SHEETS2
variable {X : Nat → q_St} {M : q_St} {S : p_S}
theorem q64_str {Z : q_St} {L f m : Nat} (h : Z.1 1 = nI L) (hL : L ≤ 40) (hf : f < 2 ^ 31) (hm : m < 2 ^ 31) : f_X2_isStretch Z (nI f) (nI m) = some (p_b (decide (f + m ≤ L))) := by
  unfold f_X2_isStretch
  rw [if_neg (nI_pos hf), if_neg (nI_pos hm), h]
  by_cases q : L < f
  · rw [if_pos (nI_lt q hf), decide_eq_false (by omega)]
    rfl
  · rw [if_neg (nI_nlt (by omega) (by omega)), pk_sub (by omega)]
    by_cases y : L - f < m
    · rw [if_pos (nI_lt y hm), decide_eq_false (by omega)]
      rfl
    · rw [if_neg (nI_nlt (by omega) (by omega)), decide_eq_true (by omega)]
      rfl
theorem q64_strN (Z : q_St) {a b : Int32} (h : a < 0 ∨ b < 0) : f_X2_isStretch Z a b = some 0 := by
  unfold f_X2_isStretch
  by_cases q : a < 0
  · rw [if_pos q]
  · rw [if_neg q, if_pos (h.resolve_left q)]
theorem q64_165 (M0 : q_St) (z1 z2 z3 z4 z5 : Int32) {t t0 m : Nat} (ht : t < 4) (hm : t0 + m ≤ 40) : ∀ (len n i : Nat) (M : q_St), i + len = m → len < n → p_wp (f_X6_copy_165 M0 z1 z2 z3 z4 z5 n (nI t) (nI t0) (nI m) (nI i) M) (fun v => v.1 = nI m ∧ v.2.1 = M.1 ∧ (∀ j, j ≠ 23 → v.2.2 j = M.2 j) ∧ ∀ j, v.2.2 23 j = if 40 * t + t0 + i ≤ j ∧ j < 40 * t + t0 + m then M.2 24 (j - (40 * t + t0)) else M.2 23 j) := by
  intro len
  induction len with
  | zero =>
    intro n i M hi hn
    obtain ⟨n, rfl⟩ := p_suc (show 0 < n by omega)
    rw [f_X6_copy_165, if_pos (nI_le (by omega) (by omega)), p_wp_some]
    exact ⟨rfl, rfl, fun _ _ => rfl, fun j => by rw [if_neg (by omega)]⟩
  | succ len ih =>
    intro n i M hi hn
    obtain ⟨n, rfl⟩ := p_suc (show 0 < n by omega)
    rw [f_X6_copy_165, if_neg (nI_ge (by omega) (by omega)), p_ix (show i < 40 by omega) (by omega), show ((40 : Int32) * nI t + nI t0) + nI i = nI (40 * t + t0 + i) by rw [p_L40, p_mul, p_add, p_add], p_ix (show 40 * t + t0 + i < 160 by omega) (by omega), p_cl (by omega), p_cl (by omega), show nI i + 1 = nI (i + 1) from nI_1 i]
    refine p_wp_mono (ih n (i + 1) _ (by omega) (by omega)) ?_
    rintro v ⟨h1, h2, h3, h4⟩
    refine ⟨h1, h2, fun j hj => (h3 j hj).trans (if_neg hj), fun j => ?_⟩
    rw [h4 j]
    show (if 40 * t + t0 + (i + 1) ≤ j ∧ j < 40 * t + t0 + m then M.2 24 (j - (40 * t + t0)) else upd (M.2 23) (40 * t + t0 + i) (M.2 24 i) j) = _
    by_cases q : j = 40 * t + t0 + i
    · rw [if_neg (by omega), if_pos (by omega), q, pk_us, show 40 * t + t0 + i - (40 * t + t0) = i by omega]
    · rw [pk_un q]
      by_cases y : 40 * t + t0 + (i + 1) ≤ j ∧ j < 40 * t + t0 + m
      · rw [if_pos y, if_pos (by omega)]
      · rw [if_neg y, if_neg (by omega)]
theorem q64_128 (M0 : q_St) (z1 z2 z3 z4 z5 x3 x4 : Int32) {P : Int32 × q_St → Prop} {s f m : Nat} (hs : s < 4) (hm : f + m ≤ 40) (hK : ∀ M', M'.1 = M.1 → (∀ j, j ≠ 24 → M'.2 j = M.2 j) → (∀ j, j < m → M'.2 24 j = M.2 23 (40 * s + f + j)) → p_wp (f_X6_copy_165 M0 z1 z2 z3 z4 z5 q_N x3 x4 (nI m) (0 : Int32) M') P) : ∀ (len n i : Nat) (M' : q_St), i + len = m → len < n → M'.1 = M.1 → (∀ j, j ≠ 24 → M'.2 j = M.2 j) → (∀ j, j < i → M'.2 24 j = M.2 23 (40 * s + f + j)) → p_wp (f_X6_copy_128 M0 z1 z2 z3 z4 z5 n (nI s) (nI f) x3 x4 (nI m) (nI i) M') P := by
  intro len
  induction len with
  | zero =>
    intro n i M' hi hn h1 h2 h3
    obtain ⟨n, rfl⟩ := p_suc (show 0 < n by omega)
    rw [f_X6_copy_128, if_pos (nI_le (by omega) (by omega))]
    exact hK M' h1 h2 (fun j hj => h3 j (by omega))
  | succ len ih =>
    intro n i M' hi hn h1 h2 h3
    obtain ⟨n, rfl⟩ := p_suc (show 0 < n by omega)
    rw [f_X6_copy_128, if_neg (nI_ge (by omega) (by omega)), show ((40 : Int32) * nI s + nI f) + nI i = nI (40 * s + f + i) by rw [p_L40, p_mul, p_add, p_add], p_ix (show 40 * s + f + i < 160 by omega) (by omega), p_ix (show i < 40 by omega) (by omega), p_cl (by omega), p_cl (by omega), show nI i + 1 = nI (i + 1) from nI_1 i]
    refine ih n (i + 1) _ (by omega) (by omega) h1 (fun j hj => (if_neg hj).trans (h2 j hj)) (fun j hj => ?_)
    show upd (M'.2 24) i (M'.2 23 (40 * s + f + i)) j = _
    by_cases q : j = i
    · rw [q, pk_us, h2 23 (by decide)]
    · rw [pk_un q]
      exact h3 j (by omega)
theorem w_copy (h : p_Rel X M) (a b c d e : Int32) : p_Both (f_X5_copy X a b c d e) (f_X6_copy M a b c d e) := by
  have hr := h
  obtain ⟨S, hS⟩ := h
  unfold f_X5_copy f_X6_copy
  rcases k_sheet X a with ⟨s, hs, rfl, e1, e2⟩ | ⟨e1, e2⟩
  · rcases k_sheet X c with ⟨t, ht, rfl, g1, g2⟩ | ⟨g1, g2⟩
    · obtain ⟨Ls, hLs, s1, s2, s3, s4⟩ := hS.2.2.2.2.2.2 s hs
      obtain ⟨Lt, hLt, t1, t2, t3, t4⟩ := hS.2.2.2.2.2.2 t ht
      rw [e1, p_bind, g1, p_bind, if_pos hs, if_pos ht, e2, p_bind, if_neg p_n10, g2, p_bind, if_neg p_n10, q63_miss _ _ s1, p_bind, q63_miss _ _ t1, p_bind, p_ix hs (by omega), p_ix hs (by omega), p_ix ht (by omega), p_ix ht (by omega), p_cl (show s < 2 ^ 31 by omega), p_cl (show t < 2 ^ 31 by omega)]
      by_cases m1 : M.2 21 s = 0
      · rw [if_pos m1, if_pos m1, if_neg p_n10]
        exact p_noM hr
      rw [if_neg m1, if_neg m1, if_pos p_z00]
      by_cases m2 : M.2 21 t = 0
      · rw [if_pos m2, if_pos m2, if_neg p_n10]
        exact p_noM hr
      rw [if_neg m2, if_neg m2, if_pos p_z00, s1, t1]
      by_cases mb : M.2 21 s = M.2 21 t
      · rw [if_pos mb, if_pos mb]
        by_cases b0 : b < 0
        · rw [if_pos b0, q64_strN _ (Or.inl b0), p_bind, if_pos p_z00]
          exact p_noB hr
        rw [if_neg b0]
        by_cases e0 : e < 0
        · rw [q64_strN _ (Or.inr e0), p_bind, if_pos p_z00]
          by_cases d0 : d < 0
          · rw [if_pos d0]
            exact p_noB hr
          · rw [if_neg d0, if_pos e0]
            exact p_noB hr
        obtain ⟨f, hf, rfl⟩ := nI_of b0
        obtain ⟨m, hm, rfl⟩ := nI_of e0
        rw [q64_str s2 hLs hf hm, p_bind, p_bif]
        by_cases d0 : d < 0
        · rw [if_pos d0, q64_strN _ (Or.inl d0), p_bind, if_pos p_z00]
          by_cases q : decide (f + m ≤ Ls) = true
          · rw [if_pos q]
            exact p_noB hr
          · rw [if_neg q]
            exact p_noB hr
        obtain ⟨t0, ht0, rfl⟩ := nI_of d0
        rw [if_neg d0, if_neg e0, q64_str t2 hLt ht0 hm, p_bind, p_bif, p_ix hs (by omega), p_ix ht (by omega), s3, t3, nI_l hf, nI_l hm, nI_l ht0, nI_l (show Ls < 2 ^ 31 by omega), nI_l (show Lt < 2 ^ 31 by omega), lN_add, lN_add]
        by_cases q1 : f + m ≤ Ls
        · rw [decide_eq_true q1, if_pos rfl, if_neg (show ¬ (0 : Int32) < lg_cmp (lN (f + m)) (lN Ls) from fun z => by rw [lg_cmp_gt, pk_lLT (by omega) (by omega)] at z; omega)]
          by_cases q2 : t0 + m ≤ Lt
          · rw [decide_eq_true q2, if_pos rfl, if_pos (show lg_cmp (lN (t0 + m)) (lN Lt) ≤ 0 from by rw [lg_cmp_le, pk_lLE (by omega) (by omega)]; exact q2)]
            have cg : ∀ A : Option (Int32 × (Nat → q_St)), q_cg (nI f) (nI t0) (nI m) 40 40 A = A := by
              intro A
              unfold q_cg
              rw [p_cl hf, p_cl hm, p_cl ht0, if_neg]
              rintro (z | z | z | z | z)
              · exact b0 z
              · exact d0 z
              · exact e0 z
              · omega
              · omega
            rw [cg, p_cl hf, p_cl hm, p_cl ht0]
            show p_wp _ _
            rw [p_wp_some]
            refine q64_128 M (nI s) (nI f) (nI t) (nI t0) (nI m) (nI t) (nI t0) hs (by omega) (fun M' h1 h2 h3 => ?_) m q_N 0 M (by omega) (by rw [q_N_eq]; omega) rfl (fun _ _ => rfl) (fun j hj => absurd hj (by omega))
            refine p_wp_mono (q64_165 M (nI s) (nI f) (nI t) (nI t0) (nI m) ht (by omega) m q_N 0 M' (by omega) (by rw [q_N_eq]; omega)) (fun v hv => ?_)
            obtain ⟨v1, v2, v3, v4⟩ := hv
            refine ⟨v1.symm, S, q63_sh hS ht (v2.trans h1) (fun j _ _ j3 j4 => (v3 j j3).trans (h2 j j4)) ⟨Lt, hLt, ?_, t2, ?_, fun i hi => ?_⟩ (fun s' h4 hne => ⟨?_, ?_, fun i hi => ?_⟩)⟩
            · rw [v3 21 (by decide), h2 21 (by decide)]; exact t1
            · rw [v3 22 (by decide), h2 22 (by decide)]; exact t3
            · show va_cpy ((X (6 + s)).2 2) ((X (6 + t)).2 2) f t0 m i = _
              unfold va_cpy
              rw [v4]
              by_cases y : t0 ≤ i ∧ i < t0 + m
              · rw [if_pos y, if_pos (by omega), h3 _ (by omega), s4 _ (by omega), show 40 * s + f + (40 * t + i - (40 * t + t0)) = 40 * s + (f + (i - t0)) by omega]
              · rw [if_neg y, if_neg (by omega), h2 23 (by decide)]
                exact t4 i hi
            · rw [v3 21 (by decide), h2 21 (by decide)]
            · rw [v3 22 (by decide), h2 22 (by decide)]
            · rw [v4, if_neg (by omega), h2 23 (by decide)]
          · rw [decide_eq_false q2, if_neg (by decide), if_neg (show ¬ lg_cmp (lN (t0 + m)) (lN Lt) ≤ 0 from fun z => by rw [lg_cmp_le, pk_lLE (by omega) (by omega)] at z; omega)]
            exact p_noB hr
        · rw [decide_eq_false q1, if_neg (by decide), if_pos (show (0 : Int32) < lg_cmp (lN (f + m)) (lN Ls) from by rw [lg_cmp_gt, pk_lLT (by omega) (by omega)]; omega)]
          exact p_noB hr
      · rw [if_neg mb, if_neg mb]
        exact p_noK hr
    · rw [e1, p_bind, g1, p_bind, if_pos hs, if_neg (by decide), e2, p_bind, if_neg p_n10, g2, p_bind, if_pos p_z00]
      exact p_noB hr
  · rcases k_sheet X c with ⟨t, ht, rfl, g1, g2⟩ | ⟨g1, g2⟩
    · rw [e1, p_bind, g1, p_bind, if_neg (by decide), e2, p_bind, if_pos p_z00]
      exact p_noB hr
    · rw [e1, p_bind, g1, p_bind, if_neg (by decide), e2, p_bind, if_pos p_z00]
      exact p_noB hr
theorem q64_ld (X0 : Nat → q_St) (M0 : q_St) (z1 z2 : Int32) {d : Nat} (hd : d < 4) : ∀ (len n n' i : Nat) (S : p_S) (X : Nat → q_St) (M : q_St), i + len = 41 → len < n → len < n' → p_RelS S X M → p_Both (f_X5_load_33 X0 z1 d n (nI i) X) (f_X6_load_32 M0 z2 n' (nI d) (nI i) M) := by
  intro len
  induction len with
  | zero =>
    intro n n' i S X M hi hn hn' hS
    obtain ⟨n, rfl⟩ := p_suc (show 0 < n by omega)
    obtain ⟨n', rfl⟩ := p_suc (show 0 < n' by omega)
    obtain ⟨L, hL, s1, s2, s3, s4⟩ := hS.2.2.2.2.2.2 d hd
    rw [f_X5_load_33, f_X6_load_32, s2, if_pos (nI_le (by omega) (by omega)), p_ix hd (by omega), p_cl (by omega), s3, if_pos (nI_le (by omega) (by omega))]
    exact p_Both_of rfl rfl ⟨S, hS⟩
  | succ len ih =>
    intro n n' i S X M hi hn hn' hS
    obtain ⟨n, rfl⟩ := p_suc (show 0 < n by omega)
    obtain ⟨n', rfl⟩ := p_suc (show 0 < n' by omega)
    obtain ⟨L, hL, s1, s2, s3, s4⟩ := hS.2.2.2.2.2.2 d hd
    have g := hS.1
    have hB := hS.2.1
    have hN := hS.2.2.1
    have h8 := g.1
    rw [f_X5_load_33, f_X6_load_32, s2, p_ix hd (by omega), p_cl (by omega), s3]
    by_cases q : i < L
    · have q' : ¬ nI L ≤ nI i := nI_ge q (by omega)
      rw [if_neg q', if_neg q', bN_isDollD hN g (by omega), p_bind, p_bif, hB.1]
      by_cases y : i < p_nd S
      · have ip : f_X2_isPlace (X (6 + d)) (nI i) = some 1 := by
          unfold f_X2_isPlace
          rw [if_neg (nI_pos (by omega)), s2, if_neg (nI_ge q (by omega))]
        have nm : f_X2_number (X (6 + d)) (nI i) = some (M.2 23 (40 * d + i)) := by
          unfold f_X2_number
          rw [ip, p_bind, if_neg p_n10, p_ix (show i < 40 by omega) (by omega), p_cl (by omega), s4 i (by omega)]
        rw [if_neg (nI_ge y (by omega)), decide_eq_true y, if_pos rfl, nm, p_bind, show (40 : Int32) * nI d + nI i = nI (40 * d + i) by rw [p_L40, p_mul, p_add], p_ix (show 40 * d + i < 160 by omega) (by omega), p_cl (by omega)]
        rcases k_size (M.2 23 (40 * d + i)) with ⟨v, v1, v9, ev, c1, c2⟩ | ⟨c1, c2⟩
        · obtain ⟨u, hu, hu'⟩ := uX_size hB g (v := v) y
          rw [c1, p_bind, if_neg p_n10, p_bind, c2, p_bind, if_neg p_n10, show f_X6_at (nI i) (1 : Int32) = some (nI (20 + 3 * i + 1)) from p_atX i 1, p_bind, p_ix (show 40 * d + i < 160 by omega) (by omega), p_q68 _ (by omega), p_cl (by omega), ev, hu, p_bind, nI_1]
          exact ih n n' (i + 1) _ _ _ (by omega) (by omega) (by omega) (p_Rel_mv hS (g_size g v1 v9) hu' (uN_d hN g (f := 1) (by omega) (by omega)) (p_FX_1 X _) (p_FS_FM (p_FM_up M _)))
        · rw [c1, p_bind, if_pos p_z00, c2, p_bind, if_pos p_z00]
          exact p_Both_of rfl rfl ⟨S, hS⟩
      · rw [if_pos (nI_le (by omega) (by omega)), decide_eq_false y, if_neg (by decide)]
        exact p_Both_of rfl rfl ⟨S, hS⟩
    · have q' : nI L ≤ nI i := nI_le (by omega) (by omega)
      rw [if_pos q', if_pos q']
      exact p_Both_of rfl rfl ⟨S, hS⟩
theorem w_load (h : p_Rel X M) (a : Int32) : p_Both (f_X5_load X a) (f_X6_load M a) := by
  have hr := h
  obtain ⟨S, hS⟩ := h
  unfold f_X5_load f_X6_load
  rcases k_sheet X a with ⟨d, hd, rfl, e1, e2⟩ | ⟨e1, e2⟩
  · obtain ⟨n, hn, s1, s2, s3, s4⟩ := hS.2.2.2.2.2.2 d hd
    rw [e1, p_bind, if_pos hd, e2, p_bind, if_neg p_n10, p_ix hd (by omega), p_cl (by omega), q63_miss _ _ s1, p_bind]
    by_cases m0 : M.2 21 d = 0
    · rw [if_pos m0, if_pos m0, if_neg p_n10]
      exact p_noM hr
    · rw [if_neg m0, if_neg m0, if_pos p_z00]
      exact q64_ld X M (nI d) (nI d) hd 41 q_N q_N 0 S X M (by omega) (by rw [q_N_eq]; omega) (by rw [q_N_eq]; omega) hS
  · rw [e1, p_bind, if_neg (by decide), e2, p_bind, if_pos p_z00]
    exact p_noB hr
/-- any two ints: a hold that suits a beat, or not -/
theorem k_suit {B : q_St} (hB : p_RB B S) (hN : p_RN (M.2 0) S) (g : p_Good S) {k : Nat} (hk : k < p_nb S) (x y : Int32) : (f_X0_isSuited B (nI k) x y = some 1 ∧ f_X6_isHold M x y = some 1 ∧ f_X6_doesSuit M x y (nI k) = some 1) ∨ (f_X0_isSuited B (nI k) x y = some 0 ∧ (f_X6_isHold M x y = some 0 ∨ (f_X6_isHold M x y = some 1 ∧ f_X6_doesSuit M x y (nI k) = some 0))) := by
  have h8 := g.1
  have c8 := g.c8 hk
  rcases k_none hB hN g y with ⟨b, hb, rfl, b1, b2⟩ | ⟨_, b1, b2, _⟩
  · rcases k_none hB hN g x with ⟨a, ha, rfl, a1, a2⟩ | ⟨_, a1, a2, _⟩
    · have su := bX_isSuited hB g hk ha hb
      have hh := bN_isHold hN g ha hb
      have ds := bN_doesSuit hN g hk ha hb
      have st := p_st_su h8 c8 ha hb
      rw [show (p_ri S k a).testBit b = p_st S (p_c S k) a b from rfl, st] at su
      cases q1 : p_su S (p_c S k) a b <;> cases q2 : (!(decide (a = b) && decide (a ≠ 0)))
      · rw [q1, q2] at su; rw [q2] at hh
        exact Or.inr ⟨su, Or.inl hh⟩
      · rw [q1, q2] at su; rw [q2] at hh; rw [q1] at ds
        exact Or.inr ⟨su, Or.inr ⟨hh, ds⟩⟩
      · rw [q1, q2] at su; rw [q2] at hh
        exact Or.inr ⟨su, Or.inl hh⟩
      · rw [q1, q2] at su; rw [q2] at hh; rw [q1] at ds
        exact Or.inl ⟨su, hh, ds⟩
    · right
      refine ⟨?_, Or.inl ?_⟩
      · unfold f_X0_isSuited f_X0_rightsBeside
        have c0 := p_contX (c := 0) (d := b) (by omega)
        rw [Nat.zero_testBit] at c0
        rw [b1, p_bind, if_neg p_n10, bX_castOf hB g hk, p_bind, a1, p_bind, if_pos p_z00, p_bind, p_hc_up b (by omega), show f_X0_contains (0 : Int32) (nI b) = some 0 from c0, p_bind, if_pos p_z00]
      · unfold f_X6_isHold
        rw [a2, p_bind, if_pos p_z00]
  · right
    refine ⟨?_, Or.inl ?_⟩
    · unfold f_X0_isSuited
      rw [b1, p_bind, if_pos p_z00]
    · unfold f_X6_isHold
      rcases k_none hB hN g x with ⟨a, ha, rfl, a1, a2⟩ | ⟨_, a1, a2, _⟩
      · rw [a2, p_bind, if_neg p_n10, b2, p_bind, if_pos p_z00]
      · rw [a2, p_bind, if_pos p_z00]
theorem q64_jg (hS : p_RelS S X M) (X0 : Nat → q_St) (M0 : q_St) (z1 z2 : Int32) {d : Nat} (hd : d < 4) : ∀ (len n n' i : Nat), i + 2 * len = 42 ∨ i + 2 * len = 41 → len < n → len + 1 < n' → p_Both (f_X5_judge_33 X0 z1 d n (nI i) X) (f_X6_judge_34 M0 z2 n' (nI d) (nI i) (1 : Int32) M) := by
  obtain ⟨L, hL, s1, s2, s3, s4⟩ := hS.2.2.2.2.2.2 d hd
  have g := hS.1
  have hB := hS.2.1
  have hN := hS.2.2.1
  have h12 := g.2.1
  have hr : p_Rel X M := ⟨S, hS⟩
  intro len
  induction len with
  | zero =>
    intro n n' i hi hn hn'
    obtain ⟨n, rfl⟩ := p_suc (show 0 < n by omega)
    obtain ⟨n', rfl⟩ := p_suc (show 0 < n' by omega)
    rw [f_X5_judge_33, f_X6_judge_34, s2, if_pos (nI_le (by omega) (by omega)), p_ix hd (by omega), p_cl (by omega), s3, if_pos (nI_le (by omega) (by omega)), if_neg p_n10]
    exact p_Both_of rfl rfl hr
  | succ len ih =>
    intro n n' i hi hn hn'
    obtain ⟨n, rfl⟩ := p_suc (show 0 < n by omega)
    obtain ⟨n', rfl⟩ := p_suc (show 0 < n' by omega)
    have bad : ∀ r, r = f_X6_judge_34 M0 z2 n' (nI d) (nI i + (0 : Int32)) (0 : Int32) M → p_Both (some ((1 : Int32) + nI i, X)) r := by
      rintro r rfl
      obtain ⟨m, rfl⟩ := p_suc (show 0 < n' by omega)
      rw [f_X6_judge_34, Int32.add_zero, p_ix hd (by omega), p_cl (by omega), s3]
      by_cases q : nI L ≤ nI i
      · rw [if_pos q, if_pos p_z00]
        exact p_Both_of rfl rfl hr
      · rw [if_neg q, if_pos p_z00, if_pos p_z00]
        exact p_Both_of rfl rfl hr
    rw [f_X5_judge_33, f_X6_judge_34, s2, p_ix hd (by omega), p_cl (by omega), s3]
    by_cases q : i < L
    · have q' : ¬ nI L ≤ nI i := nI_ge q (by omega)
      have dv : nI i / (2 : Int32) = nI (i / 2) := pk_div (d := 2) (by omega) (by omega) (by omega)
      have i0 : (40 : Int32) * nI d + nI i = nI (40 * d + i) := by rw [p_L40, p_mul, p_add]
      rw [if_neg q', if_neg q', if_neg p_n10, p_ix hd (by omega), i0, p_ix (show 40 * d + i < 160 by omega) (by omega), p_cl (by omega), nI_1, nI_1]
      unfold f_X5_judge_56 f_X6_judge_90
      by_cases y : i + 1 < L
      · have ip : ∀ j, j < L → f_X2_isPlace (X (6 + d)) (nI j) = some 1 := by
          intro j hj
          unfold f_X2_isPlace
          rw [if_neg (nI_pos (by omega)), s2, if_neg (nI_ge hj (by omega))]
        have nm : ∀ j, j < L → f_X2_number (X (6 + d)) (nI j) = some (M.2 23 (40 * d + j)) := by
          intro j hj
          unfold f_X2_number
          rw [ip j hj, p_bind, if_neg p_n10, p_ix (show j < 40 by omega) (by omega), p_cl (by omega), s4 j (by omega)]
        have y' : ¬ nI L ≤ nI (i + 1) := nI_ge y (by omega)
        rw [ip _ y, p_bind, if_neg p_n10, if_pos p_z00, if_neg y', p_ix (show 40 * d + i + 1 < 160 by omega) (by omega), p_cl (by omega), p_ix hd (by omega), p_cl (by omega), s3, nI_1, if_neg y', dv]
        rcases k_beat hB hN g (nI (i / 2)) with ⟨k, hk, ek, e1, e2⟩ | ⟨e1, e2⟩
        · have ek : i / 2 = k := (nI_eq (by omega) (by omega)).mp ek
          rw [e1, p_bind, if_neg p_n10, e2, p_bind, if_neg p_n10, nm i q, p_bind, nm _ y, p_bind, ek]
          unfold f_X6_judge_144
          rcases k_suit hB hN g hk (M.2 23 (40 * d + i)) (M.2 23 (40 * d + (i + 1))) with ⟨c1, c2, c3⟩ | ⟨c1, c2⟩
          · rw [c1, p_bind, if_neg p_n10, show 40 * d + i + 1 = 40 * d + (i + 1) by omega, c2, p_bind, if_neg p_n10, c3, p_bind, if_neg p_n10, if_neg p_n10, show nI i + (2 : Int32) = nI (i + 2) from p_add i 2]
            exact ih n n' (i + 2) (by omega) (by omega) (by omega)
          · rw [c1, p_bind, if_pos p_z00, show 40 * d + i + 1 = 40 * d + (i + 1) by omega]
            rcases c2 with c2 | ⟨c2, c3⟩
            · rw [c2, p_bind, if_pos p_z00, if_pos p_z00]
              exact bad _ rfl
            · rw [c2, p_bind, if_neg p_n10, c3, p_bind, if_pos p_z00, if_pos p_z00]
              exact bad _ rfl
        · rw [e1, p_bind, if_pos p_z00, e2, p_bind, if_pos p_z00]
          unfold f_X6_judge_144
          rw [if_pos p_z00]
          exact bad _ rfl
      · have ip : f_X2_isPlace (X (6 + d)) (nI (i + 1)) = some 0 := by
          unfold f_X2_isPlace
          rw [if_neg (nI_pos (by omega)), s2, if_pos (nI_le (by omega) (by omega))]
        have y' : nI L ≤ nI (i + 1) := nI_le (by omega) (by omega)
        rw [ip, p_bind, if_pos p_z00, if_neg p_n10, if_pos y', p_ix hd (by omega), p_cl (by omega), s3, nI_1, if_pos y']
        unfold f_X6_judge_144
        rw [if_pos p_z00]
        exact bad _ rfl
    · have q' : nI L ≤ nI i := nI_le (by omega) (by omega)
      rw [if_pos q', if_pos q', if_neg p_n10]
      exact p_Both_of rfl rfl hr
theorem w_judge (h : p_Rel X M) (a : Int32) : p_Both (f_X5_judge X a) (f_X6_judge M a) := by
  have hr := h
  obtain ⟨S, hS⟩ := h
  unfold f_X5_judge f_X6_judge
  rcases k_sheet X a with ⟨d, hd, rfl, e1, e2⟩ | ⟨e1, e2⟩
  · obtain ⟨n, hn, s1, s2, s3, s4⟩ := hS.2.2.2.2.2.2 d hd
    rw [e1, p_bind, if_pos hd, e2, p_bind, if_neg p_n10, p_ix hd (by omega), p_cl (by omega), q63_miss _ _ s1, p_bind]
    by_cases m0 : M.2 21 d = 0
    · rw [if_pos m0, if_pos m0, if_neg p_n10]
      exact p_noM hr
    · rw [if_neg m0, if_neg m0, if_pos p_z00]
      exact q64_jg hS X M (nI d) (nI d) hd 21 q_N q_N 0 (by omega) (by rw [q_N_eq]; omega) (by rw [q_N_eq]; omega)
  · rw [e1, p_bind, if_neg (by decide), e2, p_bind, if_pos p_z00]
    exact p_noB hr
end SHEETS2
