/-! the calls, on both sides: texts fed, sheets -/
/-! (the next seven rows began as kit/laws/BITS.to-paste) -/
def bt (x : Int32) (i : Nat) : Bool := x.toBitVec.getLsbD i
theorem b_ext {x y : Int32} (h : ∀ i, i < 32 → bt x i = bt y i) : x = y := Int32.toBitVec_inj.mp (BitVec.eq_of_getLsbD_eq (fun i hi => h i hi))
theorem b_and (x y : Int32) (i : Nat) : bt (x &&& y) i = (bt x i && bt y i) := by unfold bt; rw [Int32.toBitVec_and, BitVec.getLsbD_and]
theorem b_255 : ∀ i, i < 32 → bt 255 i = decide (i < 8) := by decide +kernel
theorem s_l : ∀ n, n < 32 → ((nI n &&& 31).toBitVec.smod 32).toNat = n := by decide +kernel
theorem s_u : ∀ n, n < 32 → (((nI n).toUInt32 &&& Int32.toUInt32 31).toBitVec % 32).toNat = n := by decide +kernel
theorem b_ushr (n : Nat) (hn : n < 32) (x : Int32) (i : Nat) : bt ((x.toUInt32 >>> ((nI n).toUInt32 &&& Int32.toUInt32 31)).toInt32) i = bt x (n + i) := by
  show (x.toUInt32 >>> ((nI n).toUInt32 &&& Int32.toUInt32 31)).toBitVec.getLsbD i = x.toUInt32.toBitVec.getLsbD (n + i)
  rw [UInt32.toBitVec_shiftRight]
  show (x.toUInt32.toBitVec >>> (((nI n).toUInt32 &&& Int32.toUInt32 31).toBitVec % 32).toNat).getLsbD i = _
  rw [s_u n hn, BitVec.getLsbD_ushiftRight]
theorem b_sshr (n : Nat) (hn : n < 32) (x : Int32) {i : Nat} (hi : i < 32) : bt (x >>> (nI n &&& 31)) i = if n + i < 32 then bt x (n + i) else bt x 31 := by
  unfold bt
  rw [Int32.toBitVec_shiftRight]
  show (x.toBitVec.sshiftRight ((nI n &&& 31).toBitVec.smod 32).toNat).getLsbD i = _
  rw [s_l n hn, BitVec.getLsbD_sshiftRight, BitVec.msb_eq_getLsbD_last]
  simp [hi]
/-- a byte of an int, by either shift -/
theorem q63_byte (x : Int32) {k : Nat} (hk : k < 4) : ∃ b, b < 256 ∧ ((x.toUInt32 >>> ((nI (8 * k)).toUInt32 &&& Int32.toUInt32 31)).toInt32 &&& (255 : Int32)) = nI b ∧ ((x >>> (nI (8 * k) &&& 31)) &&& (255 : Int32)) = nI b := by
  obtain ⟨b, hb, e⟩ := pk_andE ((x.toUInt32 >>> ((nI (8 * k)).toUInt32 &&& Int32.toUInt32 31)).toInt32) (m := 255) 8 (by decide)
  refine ⟨b, hb, e, ?_⟩
  rw [← e]
  apply b_ext
  intro i hi
  rw [b_and, b_and, b_255 i hi, b_ushr (8 * k) (by omega), b_sshr (8 * k) (by omega) x hi]
  by_cases q : i < 8
  · rw [if_pos (by omega)]
  · rw [decide_eq_false q, Bool.and_false, Bool.and_false]
section SHEETS
variable {X : Nat → q_St} {M : q_St} {S : p_S}
theorem q63_feed (X0 : Nat → q_St) (M0 : q_St) (z1 z2 z3 z4 x : Int32) : ∀ (k n n' t : Nat) (X : Nat → q_St) (M : q_St), k ≤ 4 → k < n → k < n' → t + k ≤ 120 → p_Good S → p_RB (X 1) S → p_RN (M.2 0) S → p_Kp X M → p_Fd X M → p_Sh X M → (X 5).1 0 = nI t → M.1 10 = nI t → (∀ i, i < t → ∃ b, b < 256 ∧ (X 5).2 2 i = nI b ∧ M.2 9 i = nI b) → p_Both (f_X5_feed_42 X0 z1 z2 n x (p_hc k) X) (f_X6_feed_38 M0 z3 z4 n' x (p_hc k) M) := by
  intro k
  induction k with
  | zero =>
    intro n n' t X M hk hn hn' ht g hB hN hK hF hS h1 h2 h3
    obtain ⟨n, rfl⟩ := p_suc (show 0 < n by omega)
    obtain ⟨n', rfl⟩ := p_suc (show 0 < n' by omega)
    rw [f_X5_feed_42, f_X6_feed_38, if_pos (show p_hc 0 < 0 by decide), if_pos (show p_hc 0 < 0 by decide), h1, h2]
    exact p_Both_of rfl rfl ⟨S, g, hB, hN, hK, hF, ⟨t, by omega, h1, h2, h3⟩, hS⟩
  | succ k ih =>
    intro n n' t X M hk hn hn' ht g hB hN hK hF hS h1 h2 h3
    obtain ⟨n, rfl⟩ := p_suc (show 0 < n by omega)
    obtain ⟨n', rfl⟩ := p_suc (show 0 < n' by omega)
    obtain ⟨b, hb, e1, e2⟩ := q63_byte x (k := k) (by omega)
    have n0 : ¬ p_hc (k + 1) < 0 := nI_pos (by omega)
    have m8 : (8 : Int32) * p_hc (k + 1) = nI (8 * k) := p_mul 8 k
    have ap : f_X3_append (X 5) (nI b) = some (va_up (X 5).1 0 (nI (t + 1)), va_up (X 5).2 2 (upd ((X 5).2 2) t (nI b))) := by
      unfold f_X3_append
      rw [h1, if_neg (nI_pos (by omega)), if_neg (show ¬ (120 : Int32) ≤ nI t from nI_ge (b := 120) (by omega) (by omega)), p_ix (show t < 120 by omega) (by omega), p_cl (by omega), nI_1]
    rw [f_X5_feed_42, f_X6_feed_38, if_neg n0, if_neg n0, m8, e1, e2, ap, p_bind, h2, p_ix (show t < 120 by omega) (by omega), p_cl (by omega), p_hc_dn k (by omega), nI_1]
    refine ih n n' (t + 1) _ _ (by omega) (by omega) (by omega) (by omega) g hB hN hK hF (fun s h4 => ?_) rfl rfl (fun i hi => ?_)
    · have e : va_up X 5 (va_up (X 5).1 0 (nI (t + 1)), va_up (X 5).2 2 (upd ((X 5).2 2) t (nI b))) (6 + s) = X (6 + s) := if_neg (by omega)
      rw [e]
      exact hS s h4
    · show ∃ b', b' < 256 ∧ upd ((X 5).2 2) t (nI b) i = nI b' ∧ upd (M.2 9) t (nI b) i = nI b'
      by_cases q : i = t
      · rw [q, pk_us, pk_us]
        exact ⟨b, hb, rfl, rfl⟩
      · rw [pk_un q, pk_un q]
        exact h3 i (by omega)
theorem w_feed (h : p_Rel X M) (a b : Int32) : p_Both (f_X5_feed X a b) (f_X6_feed M a b) := by
  have hr := h
  obtain ⟨S, g, hB, hN, hK, hF, ⟨t, ht, t1, t2, t3⟩, hS⟩ := h
  have hd : ∀ v, v < 5 → 1 ≤ v → f_X6_within (nI v) (1 : Int32) (4 : Int32) = some 1 := by decide +kernel
  unfold f_X5_feed f_X6_feed
  by_cases q : ∃ v, v < 5 ∧ 1 ≤ v ∧ b = nI v
  · obtain ⟨v, v5, v1, rfl⟩ := q
    rw [hd v v5 v1, p_bind, if_neg p_n10, if_neg (show ¬ nI v < (1 : Int32) from nI_nlt (b := 1) v1 (by omega)), if_pos (show nI v ≤ (4 : Int32) from nI_le (b := 4) (by omega) (by omega)), t1, t2, p_add]
    by_cases y : t + v ≤ 120
    · have y' : nI (t + v) ≤ (120 : Int32) := nI_le (b := 120) y (by omega)
      rw [if_pos y', if_pos y', p_hc_m v (by omega)]
      exact q63_feed X M a (nI v) a (nI v) a v q_N q_N t X M (by omega) (by rw [q_N_eq]; omega) (by rw [q_N_eq]; omega) y g hB hN hK hF hS t1 t2 t3
    · have y' : ¬ nI (t + v) ≤ (120 : Int32) := nI_ge (b := t + v) (a := 120) (by omega) (by omega)
      rw [if_neg y', if_neg y']
      exact p_noF hr
  · have e : f_X6_within b (1 : Int32) (4 : Int32) = some 0 ∧ (b < (1 : Int32) ∨ ¬ b < (1 : Int32) ∧ ¬ b ≤ (4 : Int32)) := by
      rcases p_cases b (n := 5) (by omega) with h | ⟨v, hv, rfl⟩
      · have q : b < (1 : Int32) ∨ ¬ b < (1 : Int32) ∧ (4 : Int32) < b := by
          rcases h with h | h
          · left
            rw [fa_lt] at h ⊢
            rw [show (0 : Int32).toInt = 0 from rfl] at h
            rw [show (1 : Int32).toInt = 1 from rfl]
            omega
          · right
            rw [fa_le, nI_toInt (by omega)] at h
            rw [fa_lt, fa_lt, show (4 : Int32).toInt = 4 from rfl, show (1 : Int32).toInt = 1 from rfl]
            omega
        unfold f_X6_within
        rcases q with q | q
        · rw [if_pos q]; exact ⟨rfl, Or.inl q⟩
        · rw [if_neg q.1, if_pos q.2]; exact ⟨rfl, Or.inr ⟨q.1, (fa_of_lt q.2).2.1⟩⟩
      · have : v = 0 := by
          apply Classical.byContradiction
          intro z
          exact q ⟨v, hv, by omega, rfl⟩
        subst this
        exact ⟨by decide, Or.inl (by decide)⟩
    rw [e.1, p_bind, if_pos p_z00]
    rcases e.2 with z | z
    · rw [if_pos z]
      exact p_noB hr
    · rw [if_neg z.1, if_neg z.2]
      exact p_noB hr
/-! sheets -/
theorem q63_sh {M' : q_St} (h : p_RelS S X M) {d : Nat} (hd : d < 4) {Z : q_St} (m1 : M'.1 = M.1) (m2 : ∀ j, j ≠ 21 → j ≠ 22 → j ≠ 23 → j ≠ 24 → M'.2 j = M.2 j) (hn : ∃ n, n ≤ 40 ∧ Z.1 0 = M'.2 21 d ∧ Z.1 1 = nI n ∧ M'.2 22 d = nI n ∧ ∀ i, i < 40 → Z.2 2 i = M'.2 23 (40 * d + i)) (ho : ∀ s, s < 4 → s ≠ d → M'.2 21 s = M.2 21 s ∧ M'.2 22 s = M.2 22 s ∧ ∀ i, i < 40 → M'.2 23 (40 * s + i) = M.2 23 (40 * s + i)) : p_RelS S (va_up X (6 + d) Z) M' := by
  obtain ⟨g, hB, hN, hk, hf, ht, hs⟩ := h
  have e : ∀ i, i < 6 → va_up X (6 + d) Z i = X i := fun i hi => if_neg (by omega)
  refine ⟨g, by rw [e 1 (by decide)]; exact hB, by rw [m2 0 (by decide) (by decide) (by decide) (by decide)]; exact hN, ?_, ?_, ?_, fun s h4 => ?_⟩
  · unfold p_Kp
    rw [e 0 (by decide), e 2 (by decide), m1, m2 1 (by decide) (by decide) (by decide) (by decide)]
    exact hk
  · unfold p_Fd
    rw [e 0 (by decide), m2 4 (by decide) (by decide) (by decide) (by decide)]
    exact hf
  · unfold p_Tp
    rw [e 5 (by decide), m1, m2 9 (by decide) (by decide) (by decide) (by decide)]
    exact ht
  · by_cases q : s = d
    · subst q
      have e6 : va_up X (6 + s) Z (6 + s) = Z := if_pos rfl
      rw [e6]
      exact hn
    · have e6 : va_up X (6 + d) Z (6 + s) = X (6 + s) := if_neg (by omega)
      obtain ⟨n, hn, a1, a2, a3, a4⟩ := hs s h4
      obtain ⟨b1, b2, b3⟩ := ho s h4 q
      rw [e6, b1, b2]
      exact ⟨n, hn, a1, a2, a3, fun i hi => by rw [b3 i hi]; exact a4 i hi⟩
theorem q63_bX (Z0 : q_St) (z1 z2 : Int32) : ∀ (len n i : Nat) (Z : q_St), i + len = 40 → len < n → p_wp (f_X2_begin_32 Z0 z1 z2 n (nI i) Z) (fun Z' => Z'.1 = Z.1 ∧ ∀ j, j < 40 → Z'.2 2 j = if i ≤ j then 0 else Z.2 2 j) := by
  intro len
  induction len with
  | zero =>
    intro n i Z hi hn
    obtain ⟨n, rfl⟩ := p_suc (show 0 < n by omega)
    rw [f_X2_begin_32, if_pos (show (40 : Int32) ≤ nI i from nI_le (a := 40) (by omega) (by omega)), p_wp_some]
    exact ⟨rfl, fun j hj => by rw [if_neg (by omega)]⟩
  | succ len ih =>
    intro n i Z hi hn
    obtain ⟨n, rfl⟩ := p_suc (show 0 < n by omega)
    rw [f_X2_begin_32, if_neg (show ¬ (40 : Int32) ≤ nI i from nI_ge (b := 40) (by omega) (by omega)), p_ix (show i < 40 by omega) (by omega), p_cl (by omega), show nI i + 1 = nI (i + 1) from nI_1 i]
    refine p_wp_mono (ih n (i + 1) _ (by omega) (by omega)) ?_
    rintro Z' ⟨h1, h2⟩
    refine ⟨h1, fun j hj => ?_⟩
    rw [h2 j hj]
    show (if i + 1 ≤ j then 0 else upd (Z.2 2) i 0 j) = _
    by_cases q : j = i
    · rw [if_neg (by omega), q, pk_us, if_pos (by omega)]
    · rw [pk_un q]
      by_cases y : i + 1 ≤ j
      · rw [if_pos y, if_pos (by omega)]
      · rw [if_neg y, if_neg (by omega)]
theorem q63_bN (M0 : q_St) (z1 z2 z3 : Int32) {d : Nat} (hd : d < 4) : ∀ (len n i : Nat) (M : q_St), i + len = 40 → len < n → p_wp (f_X6_sheet_85 M0 z1 z2 z3 n (nI d) (nI i) M) (fun v => v.1 = M.2 22 d ∧ v.2.1 = M.1 ∧ (∀ j, j ≠ 23 → v.2.2 j = M.2 j) ∧ ∀ j, v.2.2 23 j = if 40 * d + i ≤ j ∧ j < 40 * d + 40 then 0 else M.2 23 j) := by
  intro len
  induction len with
  | zero =>
    intro n i M hi hn
    obtain ⟨n, rfl⟩ := p_suc (show 0 < n by omega)
    rw [f_X6_sheet_85, if_pos (show (40 : Int32) ≤ nI i from nI_le (a := 40) (by omega) (by omega)), p_ix (show d < 4 by omega) (by omega), p_cl (by omega), p_wp_some]
    exact ⟨rfl, rfl, fun _ _ => rfl, fun j => by rw [if_neg (by omega)]⟩
  | succ len ih =>
    intro n i M hi hn
    obtain ⟨n, rfl⟩ := p_suc (show 0 < n by omega)
    rw [f_X6_sheet_85, if_neg (show ¬ (40 : Int32) ≤ nI i from nI_ge (b := 40) (by omega) (by omega)), show (40 : Int32) * nI d + nI i = nI (40 * d + i) by rw [p_L40, p_mul, p_add], p_ix (show 40 * d + i < 160 by omega) (by omega), p_cl (by omega), show nI i + 1 = nI (i + 1) from nI_1 i]
    refine p_wp_mono (ih n (i + 1) _ (by omega) (by omega)) ?_
    rintro v ⟨h1, h2, h3, h4⟩
    refine ⟨h1, h2, fun j hj => (h3 j hj).trans (if_neg hj), fun j => ?_⟩
    rw [h4 j]
    show (if 40 * d + (i + 1) ≤ j ∧ j < 40 * d + 40 then 0 else upd (M.2 23) (40 * d + i) 0 j) = _
    by_cases q : j = 40 * d + i
    · rw [if_neg (by omega), q, pk_us, if_pos (by omega)]
    · rw [pk_un q]
      by_cases y : 40 * d + (i + 1) ≤ j ∧ j < 40 * d + 40
      · rw [if_pos y, if_pos (by omega)]
      · rw [if_neg y, if_neg (by omega)]
theorem q63_sheet (h : p_Rel X M) {d : Nat} (hd : d < 4) (b c : Int32) : p_Both (if 0 ≤ c then (if c ≤ (40 : Int32) then (Option.bind (f_X2_begin (X (6 + d)) b c) (fun u3 => (some (u3.1 1, (va_up X (6 + d) u3))))) else (Option.bind (f_X5_finding X (-1000001 : Int32)) (fun u4 => (some (u4.1, u4.2))))) else (Option.bind (f_X5_finding X (-1000007 : Int32)) (fun u5 => (some (u5.1, u5.2))))) (f_X6_sheet_36 M (nI d) b c (nI d) b c M) := by
  have hr := h
  obtain ⟨S, hS⟩ := h
  unfold f_X6_sheet_36
  by_cases c0 : 0 ≤ c
  · rw [if_pos c0, if_pos c0]
    by_cases c40 : c ≤ (40 : Int32)
    · rw [if_pos c40, if_pos c40]
      obtain ⟨n, n40, rfl⟩ : ∃ n, n ≤ 40 ∧ c = nI n := by
        obtain ⟨j, hj, e⟩ := nI_of2 (M := (40 : Int32)) (n := 40) rfl (fun z => absurd c0 (fa_of_lt z).2.1) c40
        exact ⟨j, hj, e⟩
      have e1 : (if (40 : Int32) < nI n then (40 : Int32) else nI n) = nI n := if_neg (show ¬ (40 : Int32) < nI n from nI_nlt (a := 40) n40 (by omega))
      have e2 : (if (0 : Int32) < nI n then nI n else (0 : Int32)) = nI n := by
        by_cases z : n = 0
        · rw [z]; rfl
        · rw [if_pos (show (0 : Int32) < nI n from nI_lt (a := 0) (by omega) (by omega))]
      have fin : ∀ (F : Nat → Int32) (M1 : q_St) (m : Nat), m ≤ 40 → F 0 = b → F 1 = nI m → M1.1 = M.1 → (∀ j, j ≠ 21 → j ≠ 22 → M1.2 j = M.2 j) → M1.2 21 = upd (M.2 21) d b → M1.2 22 = upd (M.2 22) d (nI m) → p_Both (Option.bind (f_X2_begin_32 (X (6 + d)) b (nI n) q_N (0 : Int32) (F, (X (6 + d)).2)) (fun u3 => (some (u3.1 1, (va_up X (6 + d) u3))))) (f_X6_sheet_85 M (nI d) b (nI n) q_N (nI d) (0 : Int32) M1) := by
        intro F M1 m hm f0 f1 a1 a2 a3 a4
        refine p_wp_seq (q63_bX (X (6 + d)) b (nI n) 40 q_N 0 (F, (X (6 + d)).2) (by omega) (by rw [q_N_eq]; omega)) (fun u hu => ?_)
        rw [p_wp_some]
        refine p_wp_mono (q63_bN M (nI d) b (nI n) hd 40 q_N 0 M1 (by omega) (by rw [q_N_eq]; omega)) (fun v hv => ?_)
        obtain ⟨v1, v2, v3, v4⟩ := hv
        refine ⟨?_, S, q63_sh hS hd (v2.trans a1) (fun j j1 j2 j3 _ => (v3 j j3).trans (a2 j j1 j2)) ⟨m, hm, ?_, ?_, ?_, fun i hi => ?_⟩ (fun s h4 hne => ⟨?_, ?_, fun i hi => ?_⟩)⟩
        · show u.1 1 = v.1
          rw [hu.1, v1, a4, pk_us]
          exact f1
        · rw [hu.1, v3 21 (by decide), a3, pk_us]
          exact f0
        · rw [hu.1]
          exact f1
        · rw [v3 22 (by decide), a4, pk_us]
        · rw [hu.2 i hi, if_pos (by omega), v4, if_pos (by omega)]
        · rw [v3 21 (by decide), a3, pk_un hne]
        · rw [v3 22 (by decide), a4, pk_un hne]
        · rw [v4, if_neg (by omega), a2 23 (by decide) (by decide)]
      unfold f_X2_begin
      rw [p_ix hd (by omega), p_ix hd (by omega), p_cl (by omega), e1, e2]
      by_cases b0 : b = 0
      · rw [if_pos b0, if_pos b0]
        refine fin _ _ 0 (by omega) rfl rfl rfl (fun j j1 j2 => ?_) rfl rfl
        show va_up (va_up M.2 21 _) 22 _ j = _
        unfold va_up
        rw [if_neg j2, if_neg j1]
      · rw [if_neg b0, if_neg b0, p_ix hd (by omega)]
        refine fin _ _ n n40 rfl rfl rfl (fun j j1 j2 => ?_) rfl rfl
        show va_up (va_up M.2 21 _) 22 _ j = _
        unfold va_up
        rw [if_neg j2, if_neg j1]
    · rw [if_neg c40, if_neg c40]
      exact p_noB hr
  · rw [if_neg c0, if_neg c0]
    exact p_noZ hr
theorem w_sheet (h : p_Rel X M) (a b c : Int32) : p_Both (f_X5_sheet X a b c) (f_X6_sheet M a b c) := by
  unfold f_X5_sheet f_X6_sheet
  rcases k_sheet X a with ⟨d, hd, rfl, e1, e2⟩ | ⟨e1, e2⟩
  · rw [e1, p_bind, if_pos hd, e2, p_bind, if_neg p_n10]
    unfold f_X2_isBits
    by_cases b0 : b = 0
    · rw [if_pos b0, p_bind, if_neg p_n10, if_pos b0]
      exact q63_sheet h hd b c
    rw [if_neg b0, if_neg b0]
    by_cases b8 : b = (8 : Int32)
    · rw [if_pos b8, p_bind, if_neg p_n10, if_pos b8]
      exact q63_sheet h hd b c
    rw [if_neg b8, if_neg b8]
    by_cases b16 : b = (16 : Int32)
    · rw [if_pos b16, p_bind, if_neg p_n10, if_pos b16]
      exact q63_sheet h hd b c
    rw [if_neg b16, if_neg b16]
    by_cases b32 : b = (32 : Int32)
    · rw [if_pos b32, p_bind, if_neg p_n10, if_pos b32]
      exact q63_sheet h hd b c
    rw [if_neg b32, if_neg b32, p_bind, if_pos p_z00]
    exact p_noB h
  · rw [e1, p_bind, if_neg (by decide), e2, p_bind, if_pos p_z00]
    exact p_noB h
theorem q63_miss (Z : q_St) (x : Int32) (h : Z.1 0 = x) : f_X2_isMissing Z = some (if x = 0 then 1 else 0) := by
  unfold f_X2_isMissing
  rw [h]
  by_cases q : x = 0
  · rw [if_pos q, if_pos q]
  · rw [if_neg q, if_neg q]
theorem w_write (h : p_Rel X M) (a b c : Int32) : p_Both (f_X5_write X a b c) (f_X6_write M a b c) := by
  have hr := h
  obtain ⟨S, hS⟩ := h
  unfold f_X5_write f_X6_write
  rcases k_sheet X a with ⟨d, hd, rfl, e1, e2⟩ | ⟨e1, e2⟩
  · obtain ⟨n, hn, s1, s2, s3, s4⟩ := hS.2.2.2.2.2.2 d hd
    rw [e1, p_bind, if_pos hd, e2, p_bind, if_neg p_n10, p_ix hd (by omega), p_cl (by omega), q63_miss _ _ s1, p_bind]
    by_cases m0 : M.2 21 d = 0
    · rw [if_pos m0, if_pos m0, if_neg p_n10]
      exact p_noM hr
    · rw [if_neg m0, if_neg m0, if_pos p_z00, p_ix hd (by omega), s3, p_hc_m n (by omega)]
      rcases p_cases b (n := n) (by omega) with h | ⟨i, hi, rfl⟩
      · have ip : f_X2_isPlace (X (6 + d)) b = some 0 := by
          unfold f_X2_isPlace
          by_cases q : b < 0
          · rw [if_pos q]
          · rw [if_neg q, s2, if_pos (h.resolve_left q)]
        rw [ip, p_bind, if_pos p_z00, p_wi0 h (by omega), p_bind, if_pos p_z00]
        exact p_noB hr
      · have ip : f_X2_isPlace (X (6 + d)) (nI i) = some 1 := by
          unfold f_X2_isPlace
          rw [if_neg (nI_pos (by omega)), s2, if_neg (nI_ge hi (by omega))]
        have fin : ∀ x, p_Both (some ((1 : Int32), va_up X (6 + d) ((X (6 + d)).1, va_up (X (6 + d)).2 2 (upd ((X (6 + d)).2 2) i x)))) (some ((1 : Int32), (M.1, va_up M.2 23 (upd (M.2 23) (40 * d + i) x)))) := by
          intro x
          refine p_Both_of rfl rfl ⟨S, q63_sh hS hd rfl (fun j _ _ j3 _ => if_neg j3) ⟨n, hn, s1, s2, s3, fun i' hi' => ?_⟩ (fun s h4 hne => ⟨rfl, rfl, fun i' hi' => ?_⟩)⟩
          · show upd ((X (6 + d)).2 2) i x i' = upd (M.2 23) (40 * d + i) x (40 * d + i')
            by_cases q : i' = i
            · rw [q, pk_us, pk_us]
            · rw [pk_un q, pk_un (by omega)]
              exact s4 i' hi'
          · show upd (M.2 23) (40 * d + i) x (40 * s + i') = _
            rw [pk_un (by omega)]
        rw [ip, p_bind, if_neg p_n10, p_wi1 hi (by omega), p_bind, if_neg p_n10, p_ix hd (by omega)]
        unfold f_X2_put f_X6_cutTo
        rw [ip, p_bind, if_neg p_n10, s1, show (40 : Int32) * nI d + nI i = nI (40 * d + i) by rw [p_L40, p_mul, p_add]]
        by_cases b8 : M.2 21 d = (8 : Int32)
        · rw [if_pos b8, if_pos b8, p_ix (show i < 40 by omega) (by omega), p_bind, p_bind, p_ix (show 40 * d + i < 160 by omega) (by omega), p_cl (by omega), p_cl (by omega)]
          exact fin _
        rw [if_neg b8, if_neg b8]
        by_cases b16 : M.2 21 d = (16 : Int32)
        · rw [if_pos b16, if_pos b16, p_ix (show i < 40 by omega) (by omega), p_bind, p_bind, p_ix (show 40 * d + i < 160 by omega) (by omega), p_cl (by omega), p_cl (by omega)]
          exact fin _
        rw [if_neg b16, if_neg b16, p_ix (show i < 40 by omega) (by omega), p_bind, p_bind, p_ix (show 40 * d + i < 160 by omega) (by omega), p_cl (by omega), p_cl (by omega)]
        exact fin _
  · rw [e1, p_bind, if_neg (by decide), e2, p_bind, if_pos p_z00]
    exact p_noB hr
end SHEETS
