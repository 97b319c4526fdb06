/-! the best way's holds, on both sides -/
def p_nq (S : p_S) (w c : Nat) (cs : List Nat) (t0 t : Nat) : Bool := p_hs S c (t / 9) (t % 9) && decide ((p_mv S w (t0 / 9) (t / 9) + p_mv S w (t0 % 9) (t % 9)) + p_W S w cs (t / 9) (t % 9) = p_W S w (c :: cs) (t0 / 9) (t0 % 9))
def p_nx (S : p_S) (w : Nat) : List Nat → Nat → Nat
  | [], t => t
  | c :: cs, t => fa_first (p_nq S w c cs t) 81
/-- the hold behind k beats -/
def p_gw (S : p_S) (w : Nat) (cs : List Nat) (t : Nat) : Nat → Nat
  | 0 => t
  | k + 1 => p_nx S w (cs.drop k) (p_gw S w cs t k)
/-- a hold by its number -/
def p_ho (S : p_S) (t : Nat) : Prop := t / 9 ≤ p_nd S ∧ t % 9 ≤ p_nd S ∧ (t / 9 ≠ t % 9 ∨ t / 9 = 0)
theorem p_ho_lt {S : p_S} (h8 : p_nd S ≤ 8) {t : Nat} (h : p_ho S t) : t < 81 := by
  have := h.1
  omega
theorem p_nx_spec {S : p_S} (g : p_Good S) {w c : Nat} {cs : List Nat} {t0 : Nat} (hc : c < 256) (hW : p_W S w (c :: cs) (t0 / 9) (t0 % 9) < 1000000) : fa_first (p_nq S w c cs t0) 81 < 81 ∧ p_nq S w c cs t0 (fa_first (p_nq S w c cs t0) 81) = true ∧ p_ho S (fa_first (p_nq S w c cs t0) 81) := by
  have h8 := g.1
  obtain ⟨a, b, ha, hb, hs, hle⟩ := (p_W_iff h8 hW).mp (Nat.le_refl _)
  have hge : p_W S w (c :: cs) (t0 / 9) (t0 % 9) ≤ (p_mv S w (t0 / 9) a + p_mv S w (t0 % 9) b) + p_W S w cs a b := (p_W_iff h8 (by omega)).mpr ⟨a, b, ha, hb, hs, Nat.le_refl _⟩
  have hq : p_nq S w c cs t0 (p_hd a b) = true := by
    unfold p_nq
    rw [p_hd_div (by omega), p_hd_mod (by omega), p_hs_iff.mpr ⟨ha, hb, hs⟩, decide_eq_true (by omega)]
    rfl
  have hlt : fa_first (p_nq S w c cs t0) 81 < 81 := by
    apply Classical.byContradiction
    intro hn
    have := fa_first_no (p_nq S w c cs t0) 81 (p_hd a b) (by have := p_hd_lt (a := a) (b := b) (by omega) (by omega); omega)
    rw [hq] at this
    cases this
  have hy := fa_first_yes (p_nq S w c cs t0) 81 hlt
  refine ⟨hlt, hy, ?_⟩
  unfold p_nq at hy
  rw [Bool.and_eq_true] at hy
  have h1 := p_hs_iff.mp hy.1
  exact ⟨h1.1, h1.2.1, p_st_ne h8 hc h1.1 h1.2.1 h1.2.2⟩
/-- a play that goes -/
def p_ok (S : p_S) (cs : List Nat) : Prop := cs.length ≤ 12 ∧ ∀ c, c ∈ cs → c < 2 ^ p_nd S ∧ p_wc S c = false
theorem p_ok_go {S : p_S} (g : p_Good S) (h : p_go S = true) : p_ok S (p_cs S) := by
  refine ⟨by rw [p_cs_len]; exact g.2.1, fun c hc => ?_⟩
  unfold p_cs at hc
  obtain ⟨k, hk, rfl⟩ := List.mem_map.mp hc
  have hk := List.mem_range.mp hk
  refine ⟨(g.k hk).1, ?_⟩
  have := (p_go_iff S).mp h k hk
  unfold p_wr at this
  rw [Bool.or_eq_false_iff] at this
  exact this.2
theorem p_ok_W {S : p_S} (g : p_Good S) {cs : List Nat} (h : p_ok S cs) (w k l r : Nat) : p_W S w (cs.drop k) l r < 1000000 := by
  have := p_W_far g (w := w) (cs.drop k) (by rw [List.length_drop]; have := h.1; omega) (fun c hc => h.2 c (List.mem_of_mem_drop hc)) l r
  rw [List.length_drop] at this
  have := h.1
  omega
theorem p_gw_ho {S : p_S} (g : p_Good S) {w : Nat} {cs : List Nat} (h : p_ok S cs) {t : Nat} (ht : p_ho S t) : ∀ k, k ≤ cs.length → p_ho S (p_gw S w cs t k)
  | 0, _ => ht
  | k + 1, hk => by
    have h8 := g.1
    have h9 : 2 ^ p_nd S ≤ 2 ^ 8 := Nat.pow_le_pow_right (by decide) h8
    rw [p_gw]
    have hd := List.drop_eq_getElem_cons (show k < cs.length by omega)
    have hW := p_ok_W g h w k (p_gw S w cs t k / 9) (p_gw S w cs t k % 9)
    have hc := (h.2 _ (List.getElem_mem (show k < cs.length by omega))).1
    rw [hd] at hW ⊢
    rw [p_nx]
    exact (p_nx_spec g (by omega) hW).2.2
theorem p_ho_now {S : p_S} (g : p_Good S) : p_ho S (p_hd (p_l S) (p_r S)) := by
  have h8 := g.1
  have hl := g.2.2.1
  have hr := g.2.2.2.1
  have hlr := g.2.2.2.2.1
  unfold p_ho
  rw [p_hd_div (by omega), p_hd_mod (by omega)]
  refine ⟨hl, hr, ?_⟩
  by_cases q : p_l S = p_r S
  · exact Or.inr (hlr q)
  · exact Or.inl q
section FOLX
variable {B : q_St} {S : p_S} {w : Nat}
theorem q53_move {Y : q_St} (g : p_Good S) (hT : p_TW S w Y) {a b : Nat} (ha : a ≤ p_nd S) (hb : b ≤ p_nd S) : f_X4_move Y (p_hc a) (p_hc b) = some (nI (p_mv S w a b)) := by
  have h8 := g.1
  unfold f_X4_move p_mv
  by_cases q : a = b
  · rw [if_pos (congrArg p_hc q), if_pos q]; rfl
  · rw [if_neg (fun z => q ((p_hc_eq (by omega) (by omega)).mp z)), if_neg q, p_hc_up b (by omega), p_ix (show b < 9 by omega) (by omega), p_cl (by omega), hT.1 b hb]
theorem q53_25 (h : p_RB B S) (g : p_Good S) {Y : q_St} (hT : p_TW S w Y) {k t0 f : Nat} (hk : k < p_nb S) (h0 : p_ho S t0) (hf : f = fa_first (p_nq S w (p_c S k) ((p_cs S).drop (k + 1)) t0) 81) (hfl : f < 81) (hfq : p_nq S w (p_c S k) ((p_cs S).drop (k + 1)) t0 f = true) (hfo : p_ho S f) (z1 z2 z3 : Int32) (r13 : Int32 → Int32 → Int32 → Int32 → Int32 → Option Int32) {a : Nat} (ha : a ≤ p_nd S) : ∀ (len m i : Nat), i + len = p_nd S + 1 → len < m → 9 * a + i ≤ f → f_X4_firstBest_25 Y B z1 z2 z3 r13 m (nI k) (p_hc (t0 / 9)) (p_hc (t0 % 9)) (nI (p_W S w ((p_cs S).drop k) (t0 / 9) (t0 % 9))) (p_hc a) (p_hc i) = (if f / 9 = a then some (nI f) else r13 (nI k) (p_hc (t0 / 9)) (p_hc (t0 % 9)) (nI (p_W S w ((p_cs S).drop k) (t0 / 9) (t0 % 9))) (nI a)) := by
  have h8 := g.1
  have h12 := g.2.1
  have hf9 := hfo.2.1
  intro len
  induction len with
  | zero =>
    intro n i hi hn hle
    obtain ⟨m, rfl⟩ := p_suc (show 0 < n by omega)
    rw [f_X4_firstBest_25, h.1, if_pos ((p_hc_end (by omega) (by omega)).mpr (by omega)), p_hc_up a (by omega), if_neg (by omega)]
  | succ len ih =>
    intro n i hi hn hle
    obtain ⟨m, rfl⟩ := p_suc (show 0 < n by omega)
    have hd1 : (9 * a + i) / 9 = a := by omega
    have hd2 : (9 * a + i) % 9 = i := by omega
    have e1 : nI k + (1 : Int32) = nI (k + 1) := nI_1 k
    have m1 := p_mv_le g (a := t0 / 9) (b := a) (w := w) (by omega)
    have m2 := p_mv_le g (a := t0 % 9) (b := i) (w := w) (by omega)
    have m3 := p_W_le S w ((p_cs S).drop (k + 1)) a i
    have m4 := p_W_le S w ((p_cs S).drop k) (t0 / 9) (t0 % 9)
    rw [f_X4_firstBest_25, h.1, if_neg (fun z => absurd ((p_hc_end (by omega) (by omega)).mp z) (by omega)), e1, q4_from Y (by omega) (by omega) (by omega), p_bind, hT.2 (k + 1) a i (by omega) ha (by omega), q53_move g hT h0.1 ha, p_bind, q53_move g hT h0.2.1 (by omega), p_bind, p_add, p_add, p_hc_up i (by omega)]
    have hsu := bX_isSuited h g hk ha (show i ≤ p_nd S by omega)
    have hst : (p_ri S k a).testBit i = p_st S (p_c S k) a i := rfl
    rw [hst] at hsu
    have hqe : p_nq S w (p_c S k) ((p_cs S).drop (k + 1)) t0 (9 * a + i) = (p_st S (p_c S k) a i && decide (p_W S w ((p_cs S).drop (k + 1)) a i + p_mv S w (t0 / 9) a + p_mv S w (t0 % 9) i = p_W S w ((p_cs S).drop k) (t0 / 9) (t0 % 9))) := by
      unfold p_nq
      rw [hd1, hd2, ← p_cs_drop S hk]
      have : p_hs S (p_c S k) a i = p_st S (p_c S k) a i := by
        unfold p_hs
        rw [decide_eq_true ha, decide_eq_true (show i ≤ p_nd S by omega)]
        rfl
      rw [this]
      congr 1
      rw [decide_eq_decide]
      omega
    by_cases e : 9 * a + i = f
    · rw [e, hfq] at hqe
      have hqe := hqe.symm
      rw [Bool.and_eq_true, decide_eq_true_eq] at hqe
      rw [if_pos (congrArg nI hqe.2), hsu, p_bind, p_bif, hqe.1, if_pos rfl, p_placeX a (by omega) i (by omega), p_bind, if_pos (by omega)]
      congr 2
    · have hno := fa_first_no (p_nq S w (p_c S k) ((p_cs S).drop (k + 1)) t0) 81 (9 * a + i) (by rw [← hf]; omega)
      rw [hqe] at hno
      have nxt := ih m (i + 1) (by omega) (by omega) (by omega)
      rw [p_hcs] at nxt
      by_cases q : p_W S w ((p_cs S).drop (k + 1)) a i + p_mv S w (t0 / 9) a + p_mv S w (t0 % 9) i = p_W S w ((p_cs S).drop k) (t0 / 9) (t0 % 9)
      · rw [decide_eq_true q, Bool.and_true] at hno
        rw [if_pos (congrArg nI q), hsu, p_bind, p_bif, hno, if_neg (by decide)]
        exact nxt
      · rw [if_neg (fun z => q ((nI_eq (by omega) (by omega)).mp z))]
        exact nxt
theorem q53_13 (h : p_RB B S) (g : p_Good S) {Y : q_St} (hT : p_TW S w Y) {k t0 f : Nat} (hk : k < p_nb S) (h0 : p_ho S t0) (hf : f = fa_first (p_nq S w (p_c S k) ((p_cs S).drop (k + 1)) t0) 81) (hfl : f < 81) (hfq : p_nq S w (p_c S k) ((p_cs S).drop (k + 1)) t0 f = true) (hfo : p_ho S f) (z1 z2 z3 : Int32) : ∀ (len m a : Nat), a + len = p_nd S + 1 → len < m → 9 * a ≤ f → f_X4_firstBest_13 Y B z1 z2 z3 m (nI k) (p_hc (t0 / 9)) (p_hc (t0 % 9)) (nI (p_W S w ((p_cs S).drop k) (t0 / 9) (t0 % 9))) (p_hc a) = some (nI f) := by
  have h8 := g.1
  have h12 := g.2.1
  have hf8 := hfo.1
  intro len
  induction len with
  | zero =>
    intro n a hi hn hle
    omega
  | succ len ih =>
    intro n a hi hn hle
    obtain ⟨m, rfl⟩ := p_suc (show 0 < n by omega)
    have e := q53_25 h g hT hk h0 hf hfl hfq hfo z1 z2 z3 (fun x2 x3 x4 x5 x6 => f_X4_firstBest_13 Y B z1 z2 z3 m x2 x3 x4 x5 x6) (a := a) (by omega) (p_nd S + 1) q_N 0 (by omega) (by rw [q_N_eq]; omega) (by omega)
    have e : f_X4_firstBest_25 Y B z1 z2 z3 (fun x2 x3 x4 x5 x6 => f_X4_firstBest_13 Y B z1 z2 z3 m x2 x3 x4 x5 x6) q_N (nI k) (p_hc (t0 / 9)) (p_hc (t0 % 9)) (nI (p_W S w ((p_cs S).drop k) (t0 / 9) (t0 % 9))) (p_hc a) (-1 : Int32) = _ := e
    rw [f_X4_firstBest_13, h.1, if_neg (fun z => absurd ((p_hc_end (by omega) (by omega)).mp z) (by omega)), e]
    by_cases q : f / 9 = a
    · rw [if_pos q]
    · rw [if_neg q]
      exact ih m (a + 1) (by omega) (by omega) (by omega)
theorem q53_first (h : p_RB B S) (g : p_Good S) (hok : p_ok S (p_cs S)) {Y : q_St} (hT : p_TW S w Y) {k t0 : Nat} (hk : k < p_nb S) (h0 : p_ho S t0) : f_X4_firstBest Y B (nI k) (p_hc (t0 / 9)) (p_hc (t0 % 9)) = some (nI (p_nx S w ((p_cs S).drop k) t0)) := by
  have h8 := g.1
  have h12 := g.2.1
  have h1 := h0.1
  have hW := p_ok_W g hok w k (t0 / 9) (t0 % 9)
  rw [p_cs_drop S hk] at hW
  have sp := p_nx_spec g (g.c8 hk) hW
  unfold f_X4_firstBest
  rw [q4_from Y (by omega) (by omega) (by omega), p_bind, hT.2 k _ _ (by omega) h0.1 h0.2.1]
  have e := q53_13 h g hT hk h0 rfl sp.1 sp.2.1 sp.2.2 (nI k) (p_hc (t0 / 9)) (p_hc (t0 % 9)) (p_nd S + 1) q_N 0 (by omega) (by rw [q_N_eq]; omega) (by omega)
  rw [show p_nx S w ((p_cs S).drop k) t0 = fa_first (p_nq S w (p_c S k) ((p_cs S).drop (k + 1)) t0) 81 by rw [p_cs_drop S hk]; rfl]
  exact e
theorem q53_fol (h : p_RB B S) (g : p_Good S) (hok : p_ok S (p_cs S)) (Y0 : q_St) (z1 : Int32) : ∀ (len n k : Nat) (Y : q_St), k + len = p_nb S → len < n → p_TW S w Y → (∀ j, j < k → Y.2 4 j = p_hc (p_gw S w (p_cs S) (p_hd (p_l S) (p_r S)) (j + 1) / 9) ∧ Y.2 5 j = p_hc (p_gw S w (p_cs S) (p_hd (p_l S) (p_r S)) (j + 1) % 9)) → p_wp (f_X4_follow_21 Y0 B z1 n (p_hc (p_gw S w (p_cs S) (p_hd (p_l S) (p_r S)) k / 9)) (p_hc (p_gw S w (p_cs S) (p_hd (p_l S) (p_r S)) k % 9)) (nI k) Y) (fun Y' => ∀ j, j < p_nb S → Y'.2 4 j = p_hc (p_gw S w (p_cs S) (p_hd (p_l S) (p_r S)) (j + 1) / 9) ∧ Y'.2 5 j = p_hc (p_gw S w (p_cs S) (p_hd (p_l S) (p_r S)) (j + 1) % 9)) := by
  have h8 := g.1
  have h12 := g.2.1
  intro len
  induction len with
  | zero =>
    intro n k Y hi hn hT j1
    obtain ⟨n, rfl⟩ := p_suc (show 0 < n by omega)
    rw [f_X4_follow_21, h.2.1, if_pos (nI_le (by omega) (by omega)), p_wp_some]
    exact fun j hj => j1 j (by omega)
  | succ len ih =>
    intro n k Y hi hn hT j1
    obtain ⟨n, rfl⟩ := p_suc (show 0 < n by omega)
    have ho := p_gw_ho g (w := w) hok (p_ho_now g) k (by rw [p_cs_len]; omega)
    have ho1 := p_gw_ho g (w := w) hok (p_ho_now g) (k + 1) (by rw [p_cs_len]; omega)
    have hl1 := p_ho_lt h8 ho1
    have eL := Option.some.inj (p_leftT _ hl1)
    have eR := Option.some.inj (p_rightT _ hl1)
    have en : p_nx S w ((p_cs S).drop k) (p_gw S w (p_cs S) (p_hd (p_l S) (p_r S)) k) = p_gw S w (p_cs S) (p_hd (p_l S) (p_r S)) (k + 1) := rfl
    rw [f_X4_follow_21, h.2.1, if_neg (nI_ge (by omega) (by omega)), q53_first h g hok hT (by omega) ho, p_bind, en, eL, eR, p_ix (show k < 12 by omega) (by omega), p_ix (show k < 12 by omega) (by omega), p_cl (by omega), nI_1]
    refine ih n (k + 1) _ (by omega) (by omega) ⟨hT.1, hT.2⟩ (fun j hj => ?_)
    show upd (Y.2 4) k _ j = _ ∧ upd (Y.2 5) k _ j = _
    by_cases e : j = k
    · rw [e, pk_us, pk_us]
      exact ⟨rfl, rfl⟩
    · rw [pk_un e, pk_un e]
      exact j1 j (by omega)
theorem q53_follow (h : p_RB B S) (g : p_Good S) (hw : w < 2) (hok : p_ok S (p_cs S)) (Y : q_St) : p_wp (f_X4_follow Y B (nI w)) (fun Y' => ∀ j, j < p_nb S → Y'.2 4 j = p_hc (p_gw S w (p_cs S) (p_hd (p_l S) (p_r S)) (j + 1) / 9) ∧ Y'.2 5 j = p_hc (p_gw S w (p_cs S) (p_hd (p_l S) (p_r S)) (j + 1) % 9)) := by
  have h8 := g.1
  have hl := g.2.2.1
  have hr := g.2.2.2.1
  have h12 := g.2.1
  unfold f_X4_follow
  refine p_wp_seq (q4_worth h g hw Y) (fun q hq => ?_)
  have e := q53_fol h g hok Y (nI w) (p_nb S) q_N 0 q.2 (by omega) (by rw [q_N_eq]; omega) hq.2 (fun j hj => absurd hj (by omega))
  rw [show p_gw S w (p_cs S) (p_hd (p_l S) (p_r S)) 0 = p_hd (p_l S) (p_r S) from rfl, p_hd_div (by omega), p_hd_mod (by omega)] at e
  rw [h.2.2.1, h.2.2.2.1]
  exact e
end FOLX
section FOLN
variable {M : q_St} {S : p_S} {m w : Nat}
theorem q53_nx_3 {M0 : q_St} (g : p_Good S) (hw : w < 2) {M : q_St} (hR : p_RN (M.2 0) S) (hJ : p_JF S m w M0 0 0 M) {k t0 f : Nat} (hk : k < p_nb S) (hm : m.testBit k = true) (h0 : p_ho S t0) (hf : f = fa_first (p_nq S w (p_c S k) (p_mr S m (k + 1)) t0) 81) (hfl : f < 81) (hfq : p_nq S w (p_c S k) (p_mr S m (k + 1)) t0 f = true) (z1 z2 z3 : Int32) : ∀ (len n t : Nat), t + len = f → len < n → f_X6_nextHold_3 M z1 z2 z3 n (nI t0) (nI k) (nI w) (nI t) = some (nI f) := by
  have h8 := g.1
  have h12 := g.2.1
  have l0 := p_ho_lt h8 h0
  intro len
  have base : ∀ n t, t < 81 → f_X6_nextHold_3 M z1 z2 z3 (n + 1) (nI t0) (nI k) (nI w) (nI t) = if p_nq S w (p_c S k) (p_mr S m (k + 1)) t0 t = true then some (nI t) else f_X6_nextHold_3 M z1 z2 z3 n (nI t0) (nI k) (nI w) (nI (t + 1)) := by
    intro n t ht
    have e6 := hJ.2.2.2 k t (by omega) (by omega) ht
    rw [hm, Bool.true_and] at e6
    rw [f_X6_nextHold_3, show nI k * (81 : Int32) + nI t = nI (k * 81 + t) by rw [p_L81, p_mul, p_add], p_ix (by omega) (by omega), p_cl (by omega), e6, p_bif, nI_1]
    unfold p_nq
    by_cases q : p_hs S (p_c S k) (t / 9) (t % 9) = true
    · have hq := p_hs_iff.mp q
      have e5 := hJ.2.2.1 (k + 1) _ _ (by omega) (by omega) hq.1 hq.2.1 (p_st_ne h8 (g.c8 hk) hq.1 hq.2.1 hq.2.2)
      have e50 := hJ.2.2.1 k _ _ (by omega) (by omega) h0.1 h0.2.1 h0.2.2
      rw [p_hd_dm] at e5 e50
      have m1 := p_mv_le g (a := t0 / 9) (b := t / 9) (w := w) hq.1
      have m2 := p_mv_le g (a := t0 % 9) (b := t % 9) (w := w) hq.2.1
      have m3 := p_W_le S w (p_mr S m (k + 1)) (t / 9) (t % 9)
      have m4 := p_W_le S w (p_mr S m k) (t0 / 9) (t0 % 9)
      have ew := bN_worthBetween hR g h0.1 h0.2.1 hq.1 hq.2.1 hw
      rw [p_hd_dm, p_hd_dm, p_wb_mv S hw] at ew
      rw [if_pos q, ew, p_bind, nI_1, show nI (k + 1) * (81 : Int32) + nI t = nI ((k + 1) * 81 + t) by rw [p_L81, p_mul, p_add], p_ix (by omega) (by omega), show nI k * (81 : Int32) + nI t0 = nI (k * 81 + t0) by rw [p_L81, p_mul, p_add], p_ix (by omega) (by omega), p_cl (by omega), p_cl (by omega), e5, e50, p_add, q, Bool.true_and, ← p_mr_in (by omega) hm]
      by_cases y : p_mv S w (t0 / 9) (t / 9) + p_mv S w (t0 % 9) (t % 9) + p_W S w (p_mr S m (k + 1)) (t / 9) (t % 9) = p_W S w (p_mr S m k) (t0 / 9) (t0 % 9)
      · rw [if_pos (congrArg nI y), decide_eq_true y, if_pos rfl]
      · rw [if_neg (fun z => y ((nI_eq (by omega) (by omega)).mp z)), decide_eq_false y, if_neg (by decide)]
    · rw [if_neg q]
      have q := Bool.eq_false_iff.mpr q
      rw [q, Bool.false_and, if_neg (by decide), nI_1]
  induction len with
  | zero =>
    intro n t hi hn
    obtain ⟨n, rfl⟩ := p_suc (show 0 < n by omega)
    have : t = f := by omega
    subst this
    rw [base n t hfl, if_pos hfq]
  | succ len ih =>
    intro n t hi hn
    obtain ⟨n, rfl⟩ := p_suc (show 0 < n by omega)
    have hno := fa_first_no (p_nq S w (p_c S k) (p_mr S m (k + 1)) t0) 81 t (by rw [← hf]; omega)
    rw [base n t (by omega), hno, if_neg (by decide)]
    exact ih n (t + 1) (by omega) (by omega)
theorem p_mr_all (S : p_S) (h12 : p_nb S ≤ 12) : ∀ k, k ≤ 12 → p_mr S (2 ^ p_nb S - 1) (12 - k) = (p_cs S).drop (12 - k)
  | 0, _ => by
    rw [Nat.sub_zero, p_mr_12, List.drop_eq_nil_of_le (by rw [p_cs_len]; exact h12)]
  | k + 1, hk => by
    have ih := p_mr_all S h12 k (by omega)
    have e : 12 - (k + 1) + 1 = 12 - k := by omega
    by_cases q : 12 - (k + 1) < p_nb S
    · rw [p_mr_in (by omega) (by rw [Nat.testBit_two_pow_sub_one, decide_eq_true q]), e, ih, p_cs_drop S q, e]
    · rw [p_mr_out (by omega) (by rw [Nat.testBit_two_pow_sub_one, decide_eq_false q]), e, ih, List.drop_eq_nil_of_le (by rw [p_cs_len]; omega), List.drop_eq_nil_of_le (by rw [p_cs_len]; omega)]
theorem p_mr_full (S : p_S) (h12 : p_nb S ≤ 12) {k : Nat} (hk : k ≤ 12) : p_mr S (2 ^ p_nb S - 1) k = (p_cs S).drop k := by
  have := p_mr_all S h12 (12 - k) (by omega)
  rw [show 12 - (12 - k) = k by omega] at this
  exact this
theorem bN_allBeats (h : p_RN (M.2 0) S) (g : p_Good S) : f_X6_allBeats M = some (nI (2 ^ p_nb S - 1)) := by
  have h12 := g.2.1
  have := Nat.two_pow_pos (p_nb S)
  unfold f_X6_allBeats
  rw [p_Q1, p_C1, h.2.1, p_shl _ (by omega), show nI (2 ^ p_nb S) - (1 : Int32) = nI (2 ^ p_nb S - 1) from pk_sub (b := 1) (by omega)]
theorem p_all_lt2 (g : p_Good S) : 2 ^ p_nb S - 1 < 4096 := by
  have h2 : 2 ^ p_nb S ≤ 2 ^ 12 := Nat.pow_le_pow_right (by decide) g.2.1
  omega
/-- the way through all beats -/
theorem q53_all (h : p_RN (M.2 0) S) (g : p_Good S) (hw : w < 2) : p_wp (f_X6_findWay M (nI (2 ^ p_nb S - 1)) (nI w)) (fun q => q.1 = nI (p_W S w (p_cs S) (p_l S) (p_r S)) ∧ p_JF S (2 ^ p_nb S - 1) w M 0 0 q.2) := by
  have e := q5_find h g hw (p_all_lt2 g) (fun k hk => by rw [Nat.testBit_two_pow_sub_one] at hk; exact of_decide_eq_true hk)
  rw [p_mr_full S g.2.1 (by omega), List.drop_zero] at e
  exact e
theorem q53_nx {M0 : q_St} (g : p_Good S) (hw : w < 2) (hok : p_ok S (p_cs S)) {M : q_St} (hR : p_RN (M.2 0) S) (hJ : p_JF S (2 ^ p_nb S - 1) w M0 0 0 M) {k t0 : Nat} (hk : k < p_nb S) (h0 : p_ho S t0) : f_X6_nextHold M (nI t0) (nI k) (nI w) = some (nI (p_nx S w ((p_cs S).drop k) t0)) := by
  have h12 := g.2.1
  have hW := p_ok_W g hok w k (t0 / 9) (t0 % 9)
  rw [p_cs_drop S hk] at hW
  have sp := p_nx_spec g (g.c8 hk) hW
  have em := p_mr_full S h12 (k := k + 1) (by omega)
  rw [show p_nx S w ((p_cs S).drop k) t0 = fa_first (p_nq S w (p_c S k) ((p_cs S).drop (k + 1)) t0) 81 by rw [p_cs_drop S hk]; rfl]
  unfold f_X6_nextHold
  exact q53_nx_3 (M0 := M0) g hw hR hJ hk (by rw [Nat.testBit_two_pow_sub_one, decide_eq_true hk]) h0 (by rw [em]) sp.1 (by rw [em]; exact sp.2.1) (nI t0) (nI k) (nI w) (fa_first (p_nq S w (p_c S k) ((p_cs S).drop (k + 1)) t0) 81) q_N 0 (by omega) (by rw [q_N_eq]; omega)
end FOLN
