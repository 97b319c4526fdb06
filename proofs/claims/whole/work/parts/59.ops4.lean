/-! the calls, on both sides: hooks in an order, kinds, a mayor -/
def p_wsw (S : p_S) (p : Nat) : Nat := if p = 0 then p_W S 1 (p_cs S) (p_l S) (p_r S) else p_W (p_sw S (p / 10) (p % 10)) 1 (p_cs S) (p_l S) (p_r S)
def p_bI (S : p_S) (a : Nat) : Nat → Nat → Nat → Nat
  | 0, _, best => best
  | len + 1, b, best => p_bI S a len (b + 1) (if p_wsw S (10 * a + b) < p_wsw S best then 10 * a + b else best)
def p_bO (S : p_S) : Nat → Nat → Nat → Nat
  | 0, _, best => best
  | len + 1, a, best => p_bO S len (a + 1) (p_bI S a (p_nd S - (a + 1)) (a + 1) best)
def p_vp (S : p_S) (p : Nat) : Prop := p < 100 ∧ (p = 0 ∨ (p / 10 < p_nd S ∧ p % 10 < p_nd S))
theorem p_wsw_le (S : p_S) (p : Nat) : p_wsw S p ≤ 1000000 := by
  unfold p_wsw
  split <;> exact p_W_le _ _ _ _ _
theorem p_vp_new {S : p_S} (h8 : p_nd S ≤ 8) {a b : Nat} (ha : a < p_nd S) (hb : b < p_nd S) : p_vp S (10 * a + b) := by
  refine ⟨by omega, Or.inr ⟨by omega, by omega⟩⟩
theorem p_vp_bI {S : p_S} (h8 : p_nd S ≤ 8) {a : Nat} (ha : a < p_nd S) : ∀ len b best, b + len = p_nd S → p_vp S best → p_vp S (p_bI S a len b best)
  | 0, _, _, _, h => h
  | len + 1, b, best, hb, h => by
    rw [p_bI]
    refine p_vp_bI h8 ha len (b + 1) _ (by omega) ?_
    split
    · exact p_vp_new h8 ha (by omega)
    · exact h
theorem p_vp_bO {S : p_S} (h8 : p_nd S ≤ 8) : ∀ len a best, a + len = p_nd S → p_vp S best → p_vp S (p_bO S len a best)
  | 0, _, _, _, h => h
  | len + 1, a, best, ha, h => by
    rw [p_bO]
    exact p_vp_bO h8 len (a + 1) _ (by omega) (p_vp_bI h8 (by omega) _ _ _ (by omega) h)
theorem p_vp_0 (S : p_S) : p_vp S 0 := ⟨by omega, Or.inl rfl⟩
theorem p_sw_sw (S : p_S) (a b : Nat) : p_sw (p_sw S a b) a b = S := by
  refine Prod.ext rfl (Prod.ext (funext fun r => funext fun j => ?_) rfl)
  have ea : p_h (p_sw S a b) a = p_h S b := by
    show (if 2 = 2 ∧ a = b then p_h S a else if 2 = 2 ∧ a = a then p_h S b else p_h S a) = p_h S b
    by_cases q : a = b
    · rw [if_pos ⟨rfl, q⟩, q]
    · rw [if_neg (fun z => q z.2), if_pos ⟨rfl, rfl⟩]
  have eb : p_h (p_sw S a b) b = p_h S a := by
    show (if 2 = 2 ∧ b = b then p_h S a else if 2 = 2 ∧ b = a then p_h S b else p_h S b) = p_h S a
    rw [if_pos ⟨rfl, rfl⟩]
  show (if r = 2 ∧ j = b then p_h (p_sw S a b) a else if r = 2 ∧ j = a then p_h (p_sw S a b) b else if r = 2 ∧ j = b then p_h S a else if r = 2 ∧ j = a then p_h S b else S.2.1 r j) = S.2.1 r j
  by_cases q : r = 2 ∧ j = b
  · rw [if_pos q, ea, q.1, q.2]
  · rw [if_neg q]
    by_cases q2 : r = 2 ∧ j = a
    · rw [if_pos q2, eb, q2.1, q2.2]
    · rw [if_neg q2, if_neg q, if_neg q2]
theorem p_u2_u2 (S : p_S) (r k v v' : Nat) : p_u2 (p_u2 S r k v) r k v' = p_u2 S r k v' := by
  refine Prod.ext rfl (Prod.ext (funext fun a => funext fun j => ?_) rfl)
  show (if a = r ∧ j = k then v' else if a = r ∧ j = k then v else S.2.1 a j) = if a = r ∧ j = k then v' else S.2.1 a j
  by_cases q : a = r ∧ j = k
  · rw [if_pos q, if_pos q]
  · rw [if_neg q, if_neg q, if_neg q]
section OPS4
variable {X : Nat → q_St} {M : q_St}
def p_IX (X X' : Nat → q_St) : Prop := p_FX X X' ∧ X' 1 = X 1
theorem q59_sw {S : p_S} (hB : p_RB (X 1) S) (g : p_Good S) {p : Nat} (hp : p_vp S p) : p_wp (f_X5_worthIfSwapped X (nI p)) (fun u => u.1 = nI (p_wsw S p) ∧ p_IX X u.2) := by
  have h8 := g.1
  have hp1 := hp.1
  unfold f_X5_worthIfSwapped p_wsw
  refine p_wp_seq (uX_take (B0 := X 3) hB g) (fun u1 h1 => ?_)
  by_cases z : p = 0
  · rw [if_pos (show nI p = 0 by rw [z]; rfl), if_pos z]
    refine p_wp_seq (q4_worth h1 g (w := 1) (by decide) (X 4)) (fun u hu => ?_)
    rw [p_wp_some]
    exact ⟨hu.1, p_FX_trans (p_FX_3 X u1) (p_FX_4 _ u.2), rfl⟩
  · rw [if_neg (show ¬ nI p = 0 from fun y => z ((nI_eq (b := 0) (by omega) (by omega)).mp y)), if_neg z, show nI p - nI p / (10 : Int32) * (10 : Int32) = nI (p % 10) from pk_rem (d := 10) (by omega) (by omega) (by omega), show nI p / (10 : Int32) = nI (p / 10) from pk_div (d := 10) (by omega) (by omega) (by omega)]
    have hv := hp.2.resolve_left z
    refine p_wp_seq (uX_swap h1 g hv.1 hv.2) (fun u3 h3 => ?_)
    refine p_wp_seq (q4_worth h3 (g_sw g hv.1 hv.2) (w := 1) (by decide) (X 4)) (fun u hu => ?_)
    rw [p_wp_some]
    exact ⟨hu.1, p_FX_trans (p_FX_3 X u3) (p_FX_4 _ u.2), rfl⟩
theorem q59_26 {S : p_S} (hB : p_RB (X 1) S) (g : p_Good S) (X0 : Nat → q_St) {P : Int32 × (Nat → q_St) → Prop} (r10 : Int32 → Int32 → Int32 → (Nat → q_St) → Option (Int32 × (Nat → q_St))) {a : Nat} (ha : a < p_nd S) : ∀ (len n b best : Nat) (X' : Nat → q_St), b + len = p_nd S → len < n → p_IX X X' → p_vp S best → (∀ X'', p_IX X X'' → p_wp (r10 (nI (p_bI S a len b best)) (nI (p_wsw S (p_bI S a len b best))) (nI (a + 1)) X'') P) → p_wp (f_X5_bestPair_26 X0 r10 n (nI best) (nI (p_wsw S best)) (nI a) (nI b) X') P := by
  have h8 := g.1
  intro len
  induction len with
  | zero =>
    intro n b best X' hi hn hX hp hK
    obtain ⟨n, rfl⟩ := p_suc (show 0 < n by omega)
    have hB' : p_RB (X' 1) S := by rw [hX.2]; exact hB
    rw [f_X5_bestPair_26, hB'.1, if_pos (nI_le (by omega) (by omega)), nI_1]
    exact hK X' hX
  | succ len ih =>
    intro n b best X' hi hn hX hp hK
    obtain ⟨n, rfl⟩ := p_suc (show 0 < n by omega)
    have hB' : p_RB (X' 1) S := by rw [hX.2]; exact hB
    have hp2 := p_vp_new (S := S) h8 ha (show b < p_nd S by omega)
    have l1 := p_wsw_le S (10 * a + b)
    have l2 := p_wsw_le S best
    rw [f_X5_bestPair_26, hB'.1, if_neg (nI_ge (by omega) (by omega)), show (10 : Int32) * nI a + nI b = nI (10 * a + b) by rw [p_L10, p_mul, p_add]]
    refine p_wp_seq (q59_sw hB' g hp2) (fun u hu => ?_)
    have hX2 : p_IX X u.2 := ⟨p_FX_trans hX.1 hu.2.1, hu.2.2.trans hX.2⟩
    rw [p_bI] at hK
    rw [hu.1, nI_1]
    by_cases q : p_wsw S (10 * a + b) < p_wsw S best
    · rw [if_pos q] at hK
      rw [if_neg (nI_ge q (by omega))]
      exact ih n (b + 1) _ u.2 (by omega) (by omega) hX2 hp2 hK
    · rw [if_neg q] at hK
      rw [if_pos (nI_le (by omega) (by omega))]
      exact ih n (b + 1) _ u.2 (by omega) (by omega) hX2 hp hK
theorem q59_10 {S : p_S} (hB : p_RB (X 1) S) (g : p_Good S) (X0 : Nat → q_St) : ∀ (len n a best : Nat) (X' : Nat → q_St), a + len = p_nd S → len < n → p_IX X X' → p_vp S best → p_wp (f_X5_bestPair_10 X0 n (nI best) (nI (p_wsw S best)) (nI a) X') (fun u => u.1 = nI (p_bO S len a best) ∧ p_IX X u.2) := by
  have h8 := g.1
  intro len
  induction len with
  | zero =>
    intro n a best X' hi hn hX hp
    obtain ⟨n, rfl⟩ := p_suc (show 0 < n by omega)
    have hB' : p_RB (X' 1) S := by rw [hX.2]; exact hB
    rw [f_X5_bestPair_10, hB'.1, if_pos (nI_le (by omega) (by omega)), p_wp_some]
    exact ⟨rfl, hX⟩
  | succ len ih =>
    intro n a best X' hi hn hX hp
    obtain ⟨n, rfl⟩ := p_suc (show 0 < n by omega)
    have hB' : p_RB (X' 1) S := by rw [hX.2]; exact hB
    rw [f_X5_bestPair_10, hB'.1, if_neg (nI_ge (by omega) (by omega)), nI_1, p_bO]
    exact q59_26 hB g X0 _ (show a < p_nd S by omega) (p_nd S - (a + 1)) q_N (a + 1) best X' (by omega) (by rw [q_N_eq]; omega) hX hp (fun X'' hX'' => ih n (a + 1) _ X'' (by omega) (by omega) hX'' (p_vp_bI h8 (by omega) _ _ _ (by omega) hp))
theorem q59_best {S : p_S} (hB : p_RB (X 1) S) (g : p_Good S) : p_wp (f_X5_bestPair X) (fun u => u.1 = nI (p_bO S (p_nd S) 0 0) ∧ p_IX X u.2) := by
  have h8 := g.1
  unfold f_X5_bestPair
  refine p_wp_seq (q59_sw hB g (p_vp_0 S)) (fun u hu => ?_)
  rw [hu.1]
  exact q59_10 hB g X (p_nd S) q_N 0 0 u.2 (by omega) (by rw [q_N_eq]; omega) hu.2 (p_vp_0 S)
/-- the reference's state on the way -/
def p_IN (S : p_S) (M : q_St) (best : Nat) (M' : q_St) : Prop := p_FS M M' ∧ p_RN (M'.2 0) S ∧ M'.1 7 = nI (p_wsw S best)
theorem q59_89 {S : p_S} (g : p_Good S) {M' : q_St} {a b best nb' : Nat} (ha : a < p_nd S) (hb : b < p_nd S) (hf : p_FS M M') (hN : p_RN (M'.2 0) (p_sw S a b)) (h7 : M'.1 7 = nI (p_wsw S best)) (hn : p_wsw S nb' = if p_wsw S (10 * a + b) < p_wsw S best then p_wsw S (10 * a + b) else p_wsw S best) (M0 : q_St) {P : Int32 × q_St → Prop} (r17 : Int32 → Int32 → q_St → Option (Int32 × q_St)) (r31 : Int32 → Int32 → Int32 → q_St → Option (Int32 × q_St)) (x4 s0 : Int32) (hK : ∀ M'', p_IN S M nb' M'' → p_wp (r31 s0 (nI a) (nI (b + 1)) M'') P) : p_wp (f_X6_bestRehang_89 M0 r17 r31 (nI a) (nI b) x4 (nI (p_wsw S (10 * a + b))) s0 M') P := by
  have l1 := p_wsw_le S (10 * a + b)
  have l2 := p_wsw_le S best
  unfold f_X6_bestRehang_89
  rw [h7, p_ifI (by omega) (by omega), ← hn]
  have hN' : p_RN (((va_up M'.1 7 (nI (p_wsw S nb')), M'.2) : q_St).2 0) (p_sw S a b) := hN
  refine p_wp_seq (uM_swap hN' (g_sw g ha hb) (a := a) (b := b) ha hb) (fun v hv => ?_)
  rw [nI_1]
  refine hK v.2 ⟨?_, ?_, ?_⟩
  · refine p_FS_trans hf (p_FS_trans (M1 := (va_up M'.1 7 (nI (p_wsw S nb')), M'.2)) ⟨rfl, rfl, rfl, rfl, rfl, rfl, rfl, rfl⟩ (p_FS_FM hv.2.1))
  · have := hv.2.2
    rw [p_sw_sw] at this
    exact this
  · rw [hv.2.1.1]
    rfl
theorem q59_31 {S : p_S} (g : p_Good S) (M0 : q_St) {P : Int32 × q_St → Prop} (r17 : Int32 → Int32 → q_St → Option (Int32 × q_St)) {a : Nat} (ha : a < p_nd S) : ∀ (len n b best : Nat) (M' : q_St), b + len = p_nd S → 1 ≤ b → len < n → p_IN S M best M' → p_vp S best → (∀ M'', p_IN S M (p_bI S a len b best) M'' → p_wp (r17 (nI (p_bI S a len b best)) (nI (a + 1)) M'') P) → p_wp (f_X6_bestRehang_31 M0 r17 n (nI best) (nI a) (nI b) M') P := by
  have h8 := g.1
  intro len
  induction len with
  | zero =>
    intro n b best M' hi h1 hn hM hp hK
    obtain ⟨n, rfl⟩ := p_suc (show 0 < n by omega)
    rw [f_X6_bestRehang_31, p_Q0, p_C0, hM.2.1.1, if_pos (nI_le (by omega) (by omega)), nI_1]
    exact hK M' hM
  | succ len ih =>
    intro n b best M' hi h1 hn hM hp hK
    obtain ⟨n, rfl⟩ := p_suc (show 0 < n by omega)
    have hb : b < p_nd S := by omega
    have hp2 := p_vp_new (S := S) h8 ha hb
    have l1 := p_wsw_le S (10 * a + b)
    have l2 := p_wsw_le S best
    have gs := g_sw g ha hb
    rw [f_X6_bestRehang_31, p_Q0, p_C0, hM.2.1.1, if_neg (nI_ge (by omega) (by omega))]
    refine p_wp_seq (uM_swap hM.2.1 g ha hb) (fun u hu => ?_)
    have hh := (gs.d (d := a) ha).2.2.2
    rw [hu.1, if_pos (nI_pos' (by omega)), bN_allBeats hu.2.2 gs, p_bind]
    refine p_wp_seq (q53_all hu.2.2 gs (w := 1) (by decide)) (fun v hv => ?_)
    have ew : p_W (p_sw S a b) 1 (p_cs (p_sw S a b)) (p_l (p_sw S a b)) (p_r (p_sw S a b)) = p_wsw S (10 * a + b) := by
      unfold p_wsw
      rw [if_neg (by omega), show (10 * a + b) / 10 = a by omega, show (10 * a + b) % 10 = b by omega]
      rfl
    have e7 : v.2.1 7 = nI (p_wsw S best) := by rw [hv.2.1, hu.2.1.1]; exact hM.2.2
    have hf : p_FS M v.2 := p_FS_trans (p_FS_trans hM.1 (p_FS_FM hu.2.1)) (p_FS_JF hv.2)
    have hR : p_RN (v.2.2 0) (p_sw S a b) := by rw [p_JF_row hv.2]; exact hu.2.2
    rw [p_bI] at hK
    rw [hv.1, ew, e7, show (10 : Int32) * nI a + nI b = nI (10 * a + b) by rw [p_L10, p_mul, p_add]]
    by_cases q : p_wsw S (10 * a + b) < p_wsw S best
    · rw [if_pos q] at hK
      rw [if_neg (nI_ge q (by omega))]
      exact q59_89 g ha hb hf hR e7 (nb' := 10 * a + b) (by rw [if_pos q]) M0 r17 _ _ _ (fun M'' h'' => ih n (b + 1) _ M'' (by omega) (by omega) (by omega) h'' hp2 hK)
    · rw [if_neg q] at hK
      rw [if_pos (nI_le (by omega) (by omega))]
      exact q59_89 g ha hb hf hR e7 (nb' := best) (by rw [if_neg q]) M0 r17 _ _ _ (fun M'' h'' => ih n (b + 1) _ M'' (by omega) (by omega) (by omega) h'' hp hK)
theorem q59_17 {S : p_S} (g : p_Good S) (M0 : q_St) : ∀ (len n a best : Nat) (M' : q_St), a + len = p_nd S → len < n → p_IN S M best M' → p_vp S best → p_wp (f_X6_bestRehang_17 M0 n (nI best) (nI a) M') (fun v => v.1 = nI (p_bO S len a best) ∧ p_IN S M (p_bO S len a best) v.2) := by
  have h8 := g.1
  intro len
  induction len with
  | zero =>
    intro n a best M' hi hn hM hp
    obtain ⟨n, rfl⟩ := p_suc (show 0 < n by omega)
    rw [f_X6_bestRehang_17, p_Q0, p_C0, hM.2.1.1, if_pos (nI_le (by omega) (by omega)), p_wp_some]
    exact ⟨rfl, hM⟩
  | succ len ih =>
    intro n a best M' hi hn hM hp
    obtain ⟨n, rfl⟩ := p_suc (show 0 < n by omega)
    rw [f_X6_bestRehang_17, p_Q0, p_C0, hM.2.1.1, if_neg (nI_ge (by omega) (by omega)), nI_1, p_bO]
    exact q59_31 g M0 _ (show a < p_nd S by omega) (p_nd S - (a + 1)) q_N (a + 1) best M' (by omega) (by omega) (by rw [q_N_eq]; omega) hM hp (fun M'' hM'' => ih n (a + 1) _ M'' (by omega) (by omega) hM'' (p_vp_bI h8 (by omega) _ _ _ (by omega) hp))
theorem q59_reh {S : p_S} (hN : p_RN (M.2 0) S) (g : p_Good S) : p_wp (f_X6_bestRehang M) (fun v => v.1 = nI (p_bO S (p_nd S) 0 0) ∧ p_IN S M (p_bO S (p_nd S) 0 0) v.2) := by
  have h8 := g.1
  unfold f_X6_bestRehang
  rw [bN_allBeats hN g, p_bind]
  refine p_wp_seq (q53_all hN g (w := 1) (by decide)) (fun u hu => ?_)
  refine q59_17 g M (p_nd S) q_N 0 0 _ (by omega) (by rw [q_N_eq]; omega) ⟨?_, ?_, ?_⟩ (p_vp_0 S)
  · exact p_FS_trans (p_FS_JF hu.2) ⟨rfl, rfl, rfl, rfl, rfl, rfl, rfl, rfl⟩
  · show p_RN (u.2.2 0) S
    rw [p_JF_row hu.2]; exact hN
  · show u.1 = nI (p_wsw S 0)
    rw [hu.1]
    rfl
theorem w_rehang (h : p_Rel X M) : p_Both (f_X5_rehang X) (f_X6_rehang M) := by
  have hr := h
  obtain ⟨S, hS⟩ := h
  have g := hS.1
  have hB := hS.2.1
  have hN := hS.2.2.1
  unfold f_X5_rehang f_X6_rehang
  rw [bX_isGoing hB g, p_bind, bN_doesGo hN g, p_bind, p_bif, p_bif]
  cases hg : p_go S with
  | false =>
    rw [if_neg (by decide), if_neg (by decide)]
    exact p_noS hr
  | true =>
    rw [if_pos rfl, if_pos rfl]
    refine p_wp_seq (q59_best hB g) (fun u hu => ?_)
    rw [p_wp_some]
    refine p_wp_seq (q59_reh hN g) (fun v hv => ?_)
    rw [p_wp_some]
    exact ⟨hu.1.trans hv.1.symm, S, p_Rel_mv hS g (by show p_RB (u.2 1) S; rw [hu.2.2]; exact hB) hv.2.2.1 hu.2.1 hv.2.1⟩
theorem w_rehung (h : p_Rel X M) : p_Both (f_X5_rehung X) (f_X6_rehung M) := by
  have hr := h
  obtain ⟨S, hS⟩ := h
  have g := hS.1
  have h8 := g.1
  have hB := hS.2.1
  have hN := hS.2.2.1
  have vp := p_vp_bO h8 (S := S) (p_nd S) 0 0 (by omega) (p_vp_0 S)
  have vp1 := vp.1
  unfold f_X5_rehung f_X6_rehung
  rw [bX_isGoing hB g, p_bind, bN_doesGo hN g, p_bind, p_bif, p_bif]
  cases hg : p_go S with
  | false =>
    rw [if_neg (by decide), if_neg (by decide)]
    exact p_noS hr
  | true =>
    rw [if_pos rfl, if_pos rfl]
    refine p_wp_seq (q59_best hB g) (fun u hu => ?_)
    have hB2 : p_RB (u.2 1) S := by rw [hu.2.2]; exact hB
    rw [hu.1]
    refine p_wp_seq (q59_sw hB2 g vp) (fun u2 hu2 => ?_)
    rw [p_wp_some]
    refine p_wp_seq (q59_reh hN g) (fun v hv => ?_)
    rw [hv.1, if_pos (nI_pos' (by omega)), p_wp_some]
    exact ⟨hu2.1.trans hv.2.2.2.symm, S, p_Rel_mv hS g (by show p_RB (u2.2 1) S; rw [hu2.2.2]; exact hB2) hv.2.2.1 (p_FX_trans hu.2.1 hu2.2.1) hv.2.1⟩
end OPS4
