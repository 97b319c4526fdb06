/-! texts: items, on both sides -/
def p_ap (S : p_S) (w a c : Nat) : p_S := if w = 10 then p_addB S a c else if w = 11 then p_u1 S 4 a else if w = 12 then p_sw S a c else p_addD S w a
def p_io (S : p_S) (w a c : Nat) : Prop := (w = 10 ∧ p_nb S < 12 ∧ a < 2 ^ p_nd S ∧ c ≤ p_nd S) ∨ (w = 11 ∧ a ≤ 10) ∨ (w = 12 ∧ a < p_nd S ∧ c < p_nd S) ∨ (w < 7 ∧ p_nd S < 8 ∧ 1 ≤ a ∧ a ≤ 9)
def p_ic (w c : Nat) : Int32 := if w = 10 then p_hc c else nI c
theorem g_ap {S : p_S} (g : p_Good S) {w a c : Nat} (h : p_io S w a c) : p_Good (p_ap S w a c) := by
  unfold p_ap
  rcases h with ⟨rfl, h1, h2, h3⟩ | ⟨rfl, h1⟩ | ⟨rfl, h1, h2⟩ | ⟨h0, h1, h2, h3⟩
  · rw [if_pos rfl]; exact g_addB g h1 h2 h3
  · rw [if_neg (by decide), if_pos rfl]; exact g_lea g h1
  · rw [if_neg (by decide), if_neg (by decide), if_pos rfl]; exact g_sw g h1 h2
  · rw [if_neg (by omega), if_neg (by omega), if_neg (by omega)]; exact g_addD g h1 h0 h2 h3
theorem p_ap10 (S : p_S) (a c : Nat) : p_ap S 10 a c = p_addB S a c := rfl
theorem p_ap11 (S : p_S) (a c : Nat) : p_ap S 11 a c = p_u1 S 4 a := rfl
theorem p_ap12 (S : p_S) (a c : Nat) : p_ap S 12 a c = p_sw S a c := rfl
theorem p_apd (S : p_S) {w : Nat} (h : w < 7) (a c : Nat) : p_ap S w a c = p_addD S w a := by
  unfold p_ap
  rw [if_neg (by omega), if_neg (by omega), if_neg (by omega)]
theorem p_addD_z (S : p_S) (w z v : Nat) : p_u2 (p_addD S w z) 1 (p_nd S) v = p_addD S w v := by
  refine Prod.ext rfl (Prod.ext (funext fun r => funext fun j => ?_) rfl)
  show (if r = 1 ∧ j = p_nd S then v else if r < 3 ∧ j = p_nd S then (if r = 0 then w else if r = 1 then z else p_nd S) else S.2.1 r j) = if r < 3 ∧ j = p_nd S then (if r = 0 then w else if r = 1 then v else p_nd S) else S.2.1 r j
  by_cases q : j = p_nd S
  · by_cases r1 : r = 1
    · rw [if_pos ⟨r1, q⟩, if_pos ⟨by omega, q⟩, if_neg (by omega), if_pos r1]
    · rw [if_neg (fun z => r1 z.1), if_neg r1, if_neg r1]
  · rw [if_neg (fun z => q z.2), if_neg (fun z => q z.2), if_neg (fun z => q z.2)]
theorem p_addB_s (S : p_S) (c z v : Nat) : p_u2 (p_addB S c z) 4 (p_nb S) v = p_addB S c v := by
  refine Prod.ext rfl (Prod.ext (funext fun r => funext fun j => ?_) rfl)
  show (if r = 4 ∧ j = p_nb S then v else if (r = 3 ∨ r = 4) ∧ j = p_nb S then (if r = 3 then c else z) else S.2.1 r j) = if (r = 3 ∨ r = 4) ∧ j = p_nb S then (if r = 3 then c else v) else S.2.1 r j
  by_cases q : j = p_nb S
  · by_cases r4 : r = 4
    · rw [if_pos ⟨r4, q⟩, if_pos ⟨Or.inr r4, q⟩, if_neg (by omega)]
    · rw [if_neg (fun z => r4 z.1)]
      by_cases r3 : r = 3
      · rw [if_pos r3, if_pos r3]
      · rw [if_neg (by omega), if_neg (by omega)]
  · rw [if_neg (fun z => q z.2), if_neg (fun z => q z.2), if_neg (fun z => q z.2)]
/-- the reference reads on: at the token at s, j items so far -/
def p_PN (B : Nat → Nat) (L s j nd nb : Nat) (M0 M : q_St) : Prop := p_NX B L s M ∧ M.1 15 = 0 ∧ M.1 18 = nI j ∧ M.1 19 = nI nd ∧ M.1 20 = nI nb ∧ M.1 3 = M0.1 3 ∧ ∀ i, i ≠ 17 → M.2 i = M0.2 i
/-- the reference found a fault at s -/
def p_PF (s j : Nat) (M0 M : q_St) : Prop := M.1 15 = 1 ∧ M.1 11 = nI s ∧ M.1 18 = nI j ∧ M.1 3 = M0.1 3 ∧ ∀ i, i ≠ 17 → M.2 i = M0.2 i
theorem q70_no (B : Nat → Nat) (L s a b : Nat) (hb : b < 2 ^ 31) (ha : a < 2 ^ 31) : f_X6_within (nI (tk_v B L s)) (nI a) (p_hc b) = some (p_b (decide (a ≤ tk_v B L s) && decide (tk_v B L s + 1 ≤ b))) := by
  have hv := tk_v_le B L s
  have e1 : decide (nI a ≤ nI (tk_v B L s)) = decide (a ≤ tk_v B L s) := by
    rw [decide_eq_decide, nI_leI ha (by omega)]
  have e2 : decide (nI (tk_v B L s) ≤ p_hc b) = decide (tk_v B L s + 1 ≤ b) := by
    rw [decide_eq_decide, fa_le, nI_toInt (by omega), p_hc_toInt hb]
    omega
  rw [p_within, e1, e2]
section PARSE
variable {B : Nat → Nat} {L : Nat} {M0 M : q_St}
theorem n70_must1 (hL : L ≤ 120) (hB : ∀ i, i < L → B i < 256) {s j nd nb : Nat} (hs : s ≤ L) (h : p_PN B L s j nd nb M0 M) : p_wp (f_X6_must M (1 : Int32)) (fun M' => p_PN B L (tk_n B L s) j nd nb M0 M' ∧ M'.2 = M.2) := by
  obtain ⟨h1, h2, h3, h4, h5, h6, h7⟩ := h
  have hn : p_NX B L s (va_up M.1 15 (0 : Int32), M.2) := h1
  unfold f_X6_must
  rw [h2, if_pos p_z00, if_neg p_n10, if_pos p_z00]
  refine p_wp_seq (q69_nextN hL hB hs hn) ?_
  rintro M' ⟨a1, a2, a3⟩
  rw [p_wp_some]
  exact ⟨⟨a1, a3 15 (by decide) (by decide) (by decide) (by decide), (a3 18 (by decide) (by decide) (by decide) (by decide)).trans h3, (a3 19 (by decide) (by decide) (by decide) (by decide)).trans h4, (a3 20 (by decide) (by decide) (by decide) (by decide)).trans h5, (a3 3 (by decide) (by decide) (by decide) (by decide)).trans h6, fun i hi => (congrFun a2 i).trans (h7 i hi)⟩, a2⟩
theorem n70_must0 {s j nd nb : Nat} (h : p_PN B L s j nd nb M0 M) : p_wp (f_X6_must M (0 : Int32)) (p_PF s j M0) := by
  obtain ⟨h1, h2, h3, h4, h5, h6, h7⟩ := h
  unfold f_X6_must
  rw [h2, if_pos p_z00, if_pos p_z00, if_neg p_n10, p_wp_some]
  exact ⟨rfl, h1.2.1, h3, h6, h7⟩
theorem f70_must {s j : Nat} (h : p_PF s j M0 M) (x : Int32) : p_wp (f_X6_must M x) (p_PF s j M0) := by
  obtain ⟨h1, h2, h3, h4, h5⟩ := h
  unfold f_X6_must
  rw [h1, if_neg p_n10, if_neg p_n10, p_wp_some]
  exact ⟨rfl, h2, h3, h4, h5⟩
theorem f70_num {s j : Nat} (h : p_PF s j M0 M) (a b : Int32) : p_wp (f_X6_number M a b) (fun q => p_PF s j M0 q.2) := by
  have k : ∀ x y : Int32, p_wp (Option.bind (f_X6_must M x) (fun u => some (y, u))) (fun q => p_PF s j M0 q.2) := by
    intro x y
    refine p_wp_seq (f70_must h x) (fun u hu => ?_)
    rw [p_wp_some]
    exact hu
  unfold f_X6_number
  by_cases q : M.1 13 = (2 : Int32)
  · rw [if_pos q, p_within, p_bind, p_bif]
    split
    · exact k _ _
    · exact k _ _
  · rw [if_neg q]
    exact k _ _
theorem f70_nxt {s j : Nat} (h : p_PF s j M0 M) (w : Nat) : f_X6_isNext M w = some (0, M) := by
  unfold f_X6_isNext
  rw [h.1, if_neg p_n10, if_pos p_z00]
theorem f70_item {s j : Nat} (hj : j < 120) (h : p_PF s j M0 M) (a b c : Int32) : p_wp (f_X6_item M a b c) (fun M' => p_PF s (j + 1) M0 M') := by
  obtain ⟨h1, h2, h3, h4, h5⟩ := h
  unfold f_X6_item
  rw [h3, show (3 : Int32) * nI j = nI (3 * j) from p_mul 3 j, nI_1, show nI (3 * j) + (2 : Int32) = nI (3 * j + 2) from p_add _ 2, p_ix (show 3 * j < 360 by omega) (by omega), p_ix (show 3 * j + 1 < 360 by omega) (by omega), p_ix (show 3 * j + 2 < 360 by omega) (by omega), nI_1, p_wp_some]
  exact ⟨h1, h2, rfl, h4, fun i hi => (if_neg hi).trans (h5 i hi)⟩
theorem n70_item {s j nd nb : Nat} (hj : j < 120) (h : p_PN B L s j nd nb M0 M) (a b c : Int32) : p_wp (f_X6_item M a b c) (fun M' => p_PN B L s (j + 1) nd nb M0 M' ∧ M'.2 17 = upd (upd (upd (M.2 17) (3 * j) a) (3 * j + 1) b) (3 * j + 2) c) := by
  obtain ⟨h1, h2, h3, h4, h5, h6, h7⟩ := h
  unfold f_X6_item
  rw [h3, show (3 : Int32) * nI j = nI (3 * j) from p_mul 3 j, nI_1, show nI (3 * j) + (2 : Int32) = nI (3 * j + 2) from p_add _ 2, p_ix (show 3 * j < 360 by omega) (by omega), p_ix (show 3 * j + 1 < 360 by omega) (by omega), p_ix (show 3 * j + 2 < 360 by omega) (by omega), nI_1, p_cl (by omega), p_cl (by omega), p_cl (by omega), p_wp_some]
  exact ⟨⟨h1, h2, rfl, h4, h5, h6, fun i hi => (if_neg hi).trans (h7 i hi)⟩, rfl⟩
theorem n70_num (hL : L ≤ 120) (hB : ∀ i, i < L → B i < 256) {s j nd nb a b : Nat} (hs : s ≤ L) (ha : a < 2 ^ 31) (hb : b < 2 ^ 31) (h : p_PN B L s j nd nb M0 M) : p_wp (f_X6_number M (nI a) (p_hc b)) (fun q => (tk_no B L s a b = true ∧ q.1 = nI (tk_v B L s) ∧ p_PN B L (tk_n B L s) j nd nb M0 q.2 ∧ q.2.2 = M.2) ∨ (tk_no B L s a b = false ∧ p_PF s j M0 q.2)) := by
  have hk := tk_k_lt B L s
  have h1 := h.1
  unfold f_X6_number tk_no
  rw [h1.2.2.2.1]
  by_cases q : tk_k B L s = 2
  · rw [if_pos (show nI (if tk_k B L s = 4 then 3 else tk_k B L s) = (2 : Int32) by rw [q]; rfl), h1.2.2.2.2.1 q, q70_no B L s a b hb ha, p_bind, p_bif, decide_eq_true q, Bool.true_and]
    by_cases y : (decide (a ≤ tk_v B L s) && decide (tk_v B L s + 1 ≤ b)) = true
    · rw [if_pos y]
      refine p_wp_seq (n70_must1 hL hB hs h) ?_
      rintro M' ⟨a1, a2⟩
      rw [p_wp_some]
      exact Or.inl ⟨y, rfl, a1, a2⟩
    · rw [if_neg y]
      refine p_wp_seq (n70_must0 h) (fun M' hM => ?_)
      rw [p_wp_some]
      exact Or.inr ⟨Bool.eq_false_iff.mpr y, hM⟩
  · rw [if_neg (show ¬ nI (if tk_k B L s = 4 then 3 else tk_k B L s) = (2 : Int32) from fun z => by
      have := (nI_eq (b := 2) (by split <;> omega) (by omega)).mp z
      split at this
      · omega
      · exact q this), decide_eq_false q, Bool.false_and]
    refine p_wp_seq (n70_must0 h) (fun M' hM => ?_)
    rw [p_wp_some]
    exact Or.inr ⟨rfl, hM⟩
theorem n70_nxt (hL : L ≤ 120) (hB : ∀ i, i < L → B i < 256) {s j nd nb w : Nat} (hs : s ≤ L) (hw : w < 12) (h : p_PN B L s j nd nb M0 M) : p_wp (f_X6_isNext M w) (fun q => (tk_is B L s w = true ∧ q.1 = 1 ∧ p_PN B L (tk_n B L s) j nd nb M0 q.2 ∧ q.2.2 = M.2) ∨ (tk_is B L s w = false ∧ q.1 = 0 ∧ q.2 = M)) := by
  unfold f_X6_isNext
  rw [h.2.1, if_pos p_z00, q69_isWN hL hs hw h.1, p_bind, p_bif]
  cases y : tk_is B L s w with
  | true =>
    rw [if_pos rfl, if_neg p_n10]
    refine p_wp_seq (n70_must1 hL hB hs h) ?_
    rintro M' ⟨a1, a2⟩
    rw [p_wp_some]
    exact Or.inl ⟨rfl, rfl, a1, a2⟩
  | false =>
    rw [if_neg (by decide), if_pos p_z00, p_wp_some]
    exact Or.inr ⟨rfl, rfl, rfl⟩
/-- the kind told at s, and one; 0: none -/
def tk_kd (B : Nat → Nat) (L s : Nat) : Nat → Nat → Nat → Nat
  | 0, _, acc => acc
  | len + 1, i, acc => tk_kd B L s len (i + 1) (if tk_is B L s i = true then i + 1 else acc)
theorem tk_kd_spec (B : Nat → Nat) (L s : Nat) : ∀ len i acc, (tk_kd B L s len i acc = acc ∧ ∀ w, i ≤ w → w < i + len → tk_is B L s w = false) ∨ ∃ w, i ≤ w ∧ w < i + len ∧ tk_is B L s w = true ∧ tk_kd B L s len i acc = w + 1
  | 0, i, acc => Or.inl ⟨rfl, fun w h1 h2 => by omega⟩
  | len + 1, i, acc => by
    rw [tk_kd]
    by_cases q : tk_is B L s i = true
    · rw [if_pos q]
      right
      rcases tk_kd_spec B L s len (i + 1) (i + 1) with ⟨h, _⟩ | ⟨w, h1, h2, h3, h4⟩
      · exact ⟨i, by omega, by omega, q, h⟩
      · exact ⟨w, by omega, by omega, h3, h4⟩
    · rw [if_neg q]
      rcases tk_kd_spec B L s len (i + 1) acc with ⟨h, h'⟩ | ⟨w, h1, h2, h3, h4⟩
      · refine Or.inl ⟨h, fun w a b => ?_⟩
        by_cases e : w = i
        · rw [e]; exact Bool.eq_false_iff.mpr q
        · exact h' w (by omega) (by omega)
      · exact Or.inr ⟨w, by omega, by omega, h3, h4⟩
theorem tk_is_uni {s w w' : Nat} (hw : w < 12) (hw' : w' < 12) (h : tk_is B L s w = true) (h' : tk_is B L s w' = true) : w = w' := by
  unfold tk_is at h h'
  rw [Bool.and_eq_true] at h h'
  exact tk_w_uni hw hw' h.2 h'.2
theorem n70_kd4 (hL : L ≤ 120) {s : Nat} (hs : s ≤ L) (h : p_NX B L s M) : ∀ (len n i acc : Nat), i + len = 7 → len < n → f_X6_kindTold_4 M n (p_hc acc) (nI i) = some (p_hc (tk_kd B L s len i acc)) := by
  intro len
  induction len with
  | zero =>
    intro n i acc hi hn
    obtain ⟨n, rfl⟩ := p_suc (show 0 < n by omega)
    rw [f_X6_kindTold_4, if_pos (show (7 : Int32) ≤ nI i from nI_le (a := 7) (by omega) (by omega))]
    rfl
  | succ len ih =>
    intro n i acc hi hn
    obtain ⟨n, rfl⟩ := p_suc (show 0 < n by omega)
    rw [f_X6_kindTold_4, if_neg (show ¬ (7 : Int32) ≤ nI i from nI_ge (b := 7) (by omega) (by omega)), p_ix (show i < 7 by omega) (by omega), p_cl (by omega), q69_isWN hL hs (by omega) h, p_bind, p_bif, nI_1, tk_kd]
    by_cases q : tk_is B L s i = true
    · rw [if_pos q, if_pos q, ← p_hcs i]
      exact ih n (i + 1) (i + 1) (by omega) (by omega)
    · rw [if_neg q, if_neg q]
      exact ih n (i + 1) acc (by omega) (by omega)
theorem n70_kd (hL : L ≤ 120) {s : Nat} (hs : s ≤ L) (h : p_NX B L s M) : f_X6_kindTold M = some (p_hc (tk_kd B L s 7 0 0)) := by
  unfold f_X6_kindTold
  exact n70_kd4 hL hs h 7 q_N 0 0 (by omega) (by rw [q_N_eq]; omega)
end PARSE
/-! one item on both sides -/
def p_IO (B : Nat → Nat) (L it s j : Nat) (S : p_S) (M0 M : q_St) (o1 : Option (Int32 × q_St × q_St)) (o2 : Option q_St) : Prop := ∃ (b : Bool) (T' Bo' M' : q_St), o1 = some (p_b b, T', Bo') ∧ o2 = some M' ∧ (b = true → ∃ s' w a c, s < s' ∧ s' ≤ L ∧ p_TX B L it s' T' ∧ p_io S w a c ∧ p_RB Bo' (p_ap S w a c) ∧ p_PN B L s' (j + 1) (p_nd (p_ap S w a c)) (p_nb (p_ap S w a c)) M0 M' ∧ M'.2 17 = upd (upd (upd (M.2 17) (3 * j) (nI w)) (3 * j + 1) (nI a)) (3 * j + 2) (p_ic w c)) ∧ (b = false → ∃ s', s' ≤ L ∧ T'.1 4 = nI s' ∧ p_PF s' (j + 1) M0 M')
section ITEM
variable {B : Nat → Nat} {L it : Nat} {T Bo M0 M : q_St} {S : p_S}
theorem q70_doll (hL : L ≤ 120) (hB : ∀ i, i < L → B i < 256) {s j w : Nat} (hs : s < L) (hj : j < 120) (hw : w < 7) (hT : p_TX B L it s T) (hR : p_RB Bo S) (g : p_Good S) (hN : p_PN B L s j (p_nd S) (p_nb S) M0 M) : p_IO B L it s j S M0 M (f_X3_readDoll T Bo (nI w)) (if (8 : Int32) ≤ M.1 19 then (f_X6_readItem_24 M (nI w) (0 : Int32) M) else (f_X6_readItem_24 M (nI w) (1 : Int32) M)) := by
  have h8 := g.1
  unfold f_X3_readDoll
  rw [hR.1, hN.2.2.2.1]
  by_cases q : p_nd S < 8
  · rw [if_pos (show nI (p_nd S) < (8 : Int32) from nI_lt (b := 8) q (by omega)), if_neg (show ¬ (8 : Int32) ≤ nI (p_nd S) from nI_ge (b := 8) q (by omega))]
    obtain ⟨u1, e1, x1, r1⟩ := uX_addD hR g (k := w) q
    have g1 := g_addD g (k := w) (z := 3) q hw (by decide) (by decide)
    have n1 := tk_n_le (B := B) (L := L) (s := s) (by omega)
    obtain ⟨u2, e2, t2⟩ := q69_nextX hL hB (by omega) hT
    unfold f_X6_readItem_24
    obtain ⟨m1, f1, p1, d1⟩ := n70_must1 hL hB (by omega) hN
    have p1' : p_PN B L (tk_n B L s) j (p_nd S + 1) (p_nb S) M0 (va_up m1.1 19 (m1.1 19 + (1 : Int32)), m1.2) := ⟨p1.1, p1.2.1, p1.2.2.1, (show m1.1 19 + (1 : Int32) = nI (p_nd S + 1) by rw [p1.2.2.2.1, nI_1]), p1.2.2.2.2.1, p1.2.2.2.2.2.1, p1.2.2.2.2.2.2⟩
    obtain ⟨m2, f2, p2⟩ := n70_nxt hL hB n1.2.1 (w := 10) (by decide) p1'
    have iw := q69_isW (w := 10) (by decide) t2
    have iw : f_X3_isWord u2 (10 : Int32) = some (p_b (tk_is B L (tk_n B L s) 10)) := iw
    rw [e1, p_bind, e2, p_bind, iw, p_bind, p_bif, f1, p_bind, f2, p_bind]
    rcases p2 with ⟨y, z1, z2, z3⟩ | ⟨y, z1, z2⟩
    · rw [y, if_pos rfl, z1, if_neg p_n10]
      have n2 := tk_n_le (B := B) (L := L) (s := tk_n B L s) n1.2.1
      obtain ⟨u4, e4, t4⟩ := q69_nextX hL hB n1.2.1 t2
      have nn : f_X3_isNumber u4 (1 : Int32) (9 : Int32) = some (p_b (tk_no B L (tk_n B L (tk_n B L s)) 1 10)) := q69_isN (a := 1) (b := 10) (by omega) (by omega) t4
      obtain ⟨m3, f3, p3⟩ := n70_num hL hB n2.2.1 (a := 1) (b := 10) (by omega) (by omega) z2
      have f3 : f_X6_number m2.2 (1 : Int32) (9 : Int32) = some m3 := f3
      rw [e4, p_bind, nn, p_bind, p_bif, f3, p_bind]
      rcases p3 with ⟨y3, v3, w3, d3⟩ | ⟨y3, w3⟩
      · have k3 := y3
        unfold tk_no at k3
        rw [Bool.and_eq_true, Bool.and_eq_true, decide_eq_true_eq, decide_eq_true_eq, decide_eq_true_eq] at k3
        have num := t4.2.2.2.2.1 k3.1
        have n3 := tk_n_le (B := B) (L := L) (s := tk_n B L (tk_n B L s)) n2.2.1
        obtain ⟨u6, e6, r6⟩ := uX_size r1 g1 (d := p_nd S) (v := tk_v B L (tk_n B L (tk_n B L s))) (show p_nd S < p_nd S + 1 by omega)
        obtain ⟨u7, e7, t7⟩ := q69_nextX hL hB n2.2.1 t4
        rw [p_addD_z] at r6
        obtain ⟨m4, f4, p4, d4⟩ := n70_item hj w3 (nI w) m3.1 (0 : Int32)
        rw [y3, if_pos rfl, x1, num, e6, p_bind, e7, p_bind, f4, p_bind]
        refine ⟨true, _, _, _, rfl, rfl, fun _ => ?_, (fun z => absurd z (by decide))⟩
        refine ⟨_, w, tk_v B L (tk_n B L (tk_n B L s)), 0, ?_, n3.2.1, t7, Or.inr (Or.inr (Or.inr ⟨hw, q, k3.2.1, by omega⟩)), by rw [p_apd S hw]; exact r6, by rw [p_apd S hw]; exact p4, ?_⟩
        · have := n1.2.2 hs
          omega
        · rw [d4, d3, z3, v3]
          unfold p_ic
          rw [if_neg (show ¬ w = 10 by omega)]
          exact congrArg (fun R => upd (upd (upd R _ _) _ _) _ _) (congrFun d1 17)
      · obtain ⟨m4, f4, p4⟩ := f70_item hj w3 (nI w) m3.1 (0 : Int32)
        rw [y3, if_neg (by decide), f4, p_bind]
        exact ⟨false, _, _, _, rfl, rfl, (fun z => absurd z (by decide)), fun _ => ⟨_, n2.2.1, t4.2.1, p4⟩⟩
    · obtain ⟨m4, f4, p4, d4⟩ := n70_item hj p1' (nI w) (3 : Int32) (0 : Int32)
      rw [y, if_neg (by decide), z1, if_pos p_z00, z2, f4, p_bind]
      refine ⟨true, _, _, _, rfl, rfl, fun _ => ?_, (fun z => absurd z (by decide))⟩
      refine ⟨_, w, 3, 0, n1.2.2 hs, n1.2.1, t2, Or.inr (Or.inr (Or.inr ⟨hw, q, by decide, by decide⟩)), by rw [p_apd S hw]; exact r1, by rw [p_apd S hw]; exact p4, ?_⟩
      rw [d4]
      unfold p_ic
      rw [if_neg (show ¬ w = 10 by omega)]
      exact congrArg (fun R => upd (upd (upd R _ _) _ _) _ _) (congrFun d1 17)
  · rw [if_neg (show ¬ nI (p_nd S) < (8 : Int32) from nI_nlt (b := 8) (by omega) (by omega)), if_pos (show (8 : Int32) ≤ nI (p_nd S) from nI_le (a := 8) (by omega) (by omega))]
    unfold f_X6_readItem_24
    obtain ⟨m1, f1, p1⟩ := n70_must0 hN
    have p1' : p_PF s j M0 (va_up m1.1 19 (m1.1 19 + (1 : Int32)), m1.2) := p1
    obtain ⟨m4, f4, p4⟩ := f70_item hj p1' (nI w) (3 : Int32) (0 : Int32)
    rw [f1, p_bind, f70_nxt p1' 10, p_bind, if_pos p_z00, f4, p_bind]
    exact ⟨false, _, _, _, rfl, rfl, (fun z => absurd z (by decide)), fun _ => ⟨s, by omega, hT.2.1, p4⟩⟩
theorem q70_beat (hL : L ≤ 120) (hB : ∀ i, i < L → B i < 256) {s j : Nat} (hs : s < L) (hj : j < 120) (hT : p_TX B L it s T) (hR : p_RB Bo S) (g : p_Good S) (hN : p_PN B L s j (p_nd S) (p_nb S) M0 M) : p_IO B L it s j S M0 M (f_X3_readBeat T Bo) (if (12 : Int32) ≤ M.1 20 then (f_X6_readItem_92 M (0 : Int32) M) else (f_X6_readItem_92 M (1 : Int32) M)) := by
  have h8 := g.1
  have h12 := g.2.1
  have h9 : 2 ^ p_nd S ≤ 2 ^ 8 := Nat.pow_le_pow_right (by decide) h8
  have em : nI (2 ^ p_nd S) - (1 : Int32) = p_hc (2 ^ p_nd S) := by
    obtain ⟨m, hm⟩ := p_suc (Nat.two_pow_pos (p_nd S))
    rw [hm, p_hcs]; exact nI_pred m
  unfold f_X3_readBeat
  rw [hR.2.1, hN.2.2.2.2.1]
  by_cases q : p_nb S < 12
  · rw [if_pos (show nI (p_nb S) < (12 : Int32) from nI_lt (b := 12) q (by omega)), if_neg (show ¬ (12 : Int32) ≤ nI (p_nb S) from nI_ge (b := 12) q (by omega))]
    have n1 := tk_n_le (B := B) (L := L) (s := s) (by omega)
    obtain ⟨u1, e1, t1⟩ := q69_nextX hL hB (by omega) hT
    unfold f_X6_readItem_92
    obtain ⟨m1, f1, p1, d1⟩ := n70_must1 hL hB (by omega) hN
    have p1' : p_PN B L (tk_n B L s) j (p_nd S) (p_nb S + 1) M0 (va_up m1.1 20 (m1.1 20 + (1 : Int32)), m1.2) := ⟨p1.1, p1.2.1, p1.2.2.1, p1.2.2.2.1, (show m1.1 20 + (1 : Int32) = nI (p_nb S + 1) by rw [p1.2.2.2.2.1, nI_1]), p1.2.2.2.2.2.1, p1.2.2.2.2.2.2⟩
    obtain ⟨m2, f2, p2⟩ := n70_num hL hB n1.2.1 (a := 0) (b := 2 ^ p_nd S) (by omega) (by omega) p1'
    have f2 : f_X6_number (va_up m1.1 20 (m1.1 20 + (1 : Int32)), m1.2) (0 : Int32) (((1 : Int32) <<< (m1.1 19 &&& 31)) - (1 : Int32)) = some m2 := by
      rw [p1.2.2.2.1, p_shl _ (by omega), em]
      exact f2
    rw [e1, p_bind, f1, p_bind, f2, p_bind, t1.2.2.2.1]
    rcases p2 with ⟨y, v2, w2, d2⟩ | ⟨y, w2⟩
    · have k2 := y
      unfold tk_no at k2
      rw [Bool.and_eq_true, Bool.and_eq_true, decide_eq_true_eq, decide_eq_true_eq, decide_eq_true_eq] at k2
      have hc : tk_v B L (tk_n B L s) < 2 ^ p_nd S := by omega
      have num := t1.2.2.2.2.1 k2.1
      have ic : f_X0_isCast Bo (nI (tk_v B L (tk_n B L s))) = some 1 := by
        unfold f_X0_isCast
        rw [hR.1, p_shl _ (by omega), if_neg (nI_pos (by omega)), if_neg (nI_ge hc (by omega))]
      obtain ⟨u3, e3, x3, r3⟩ := uX_addB hR g (c := tk_v B L (tk_n B L s)) (s := 0) q
      have e3 : f_X0_addBeat Bo (nI (tk_v B L (tk_n B L s))) (-1 : Int32) = some u3 := e3
      have g3 := g_addB g q hc (s := 0) (by omega)
      have n2 := tk_n_le (B := B) (L := L) (s := tk_n B L s) n1.2.1
      obtain ⟨u4, e4, t4⟩ := q69_nextX hL hB n1.2.1 t1
      have iw : f_X3_isWord u4 (11 : Int32) = some (p_b (tk_is B L (tk_n B L (tk_n B L s)) 11)) := q69_isW (w := 11) (by decide) t4
      obtain ⟨m3, f3, p3⟩ := n70_nxt hL hB n2.2.1 (w := 11) (by decide) w2
      rw [if_pos (show nI (tk_k B L (tk_n B L s)) = (2 : Int32) by rw [k2.1]; rfl), num, ic, p_bind, if_neg p_n10, e3, p_bind, e4, p_bind, iw, p_bind, p_bif, f3, p_bind]
      rcases p3 with ⟨y3, z1, z2, z3⟩ | ⟨y3, z1, z2⟩
      · have n3 := tk_n_le (B := B) (L := L) (s := tk_n B L (tk_n B L s)) n2.2.1
        obtain ⟨u6, e6, t6⟩ := q69_nextX hL hB n2.2.1 t4
        have nn : f_X3_isNumber u6 (0 : Int32) (u3.2.1 0 - (1 : Int32)) = some (p_b (tk_no B L (tk_n B L (tk_n B L (tk_n B L s))) 0 (p_nd S))) := by
          rw [show u3.2.1 0 = nI (p_nd S) from r3.1, p_hc_m _ (by omega)]
          exact q69_isN (a := 0) (b := p_nd S) (by omega) (by omega) t6
        obtain ⟨m4, f4, p4⟩ := n70_num hL hB n3.2.1 (a := 0) (b := p_nd S) (by omega) (by omega) z2
        have f4 : f_X6_number m3.2 (0 : Int32) (m3.2.1 19 - (1 : Int32)) = some m4 := by
          rw [z2.2.2.2.1, p_hc_m _ (by omega)]
          exact f4
        rw [y3, if_pos rfl, e6, p_bind, nn, p_bind, p_bif, z1, if_neg p_n10, f4, p_bind]
        rcases p4 with ⟨y4, v4, w4, d4⟩ | ⟨y4, w4⟩
        · have k4 := y4
          unfold tk_no at k4
          rw [Bool.and_eq_true, Bool.and_eq_true, decide_eq_true_eq, decide_eq_true_eq, decide_eq_true_eq] at k4
          have num4 := t6.2.2.2.2.1 k4.1
          have n4 := tk_n_le (B := B) (L := L) (s := tk_n B L (tk_n B L (tk_n B L s))) n3.2.1
          obtain ⟨u8, e8, r8⟩ := uX_spk r3 g3 (k := p_nb S) (v := tk_v B L (tk_n B L (tk_n B L (tk_n B L s))) + 1) (show p_nb S < p_nb S + 1 by omega)
          rw [p_addB_s] at r8
          obtain ⟨u9, e9, t9⟩ := q69_nextX hL hB n3.2.1 t6
          obtain ⟨m5, f5, p5, d5⟩ := n70_item hj w4 (10 : Int32) m2.1 m4.1
          rw [y4, if_pos rfl, x3, num4, show nI (tk_v B L (tk_n B L (tk_n B L (tk_n B L s)))) = p_hc (tk_v B L (tk_n B L (tk_n B L (tk_n B L s))) + 1) from rfl, e8, p_bind, e9, p_bind, f5, p_bind]
          refine ⟨true, _, _, _, rfl, rfl, fun _ => ?_, (fun z => absurd z (by decide))⟩
          refine ⟨_, 10, tk_v B L (tk_n B L s), tk_v B L (tk_n B L (tk_n B L (tk_n B L s))) + 1, ?_, n4.2.1, t9, Or.inl ⟨rfl, q, hc, k4.2.2⟩, r8, p5, ?_⟩
          · have := n1.2.2 hs
            omega
          · rw [d5, d4, z3, d2, v2, v4]
            exact congrArg (fun R => upd (upd (upd R _ _) _ _) _ _) (congrFun d1 17)
        · obtain ⟨m5, f5, p5⟩ := f70_item hj w4 (10 : Int32) m2.1 m4.1
          rw [y4, if_neg (by decide), f5, p_bind]
          exact ⟨false, _, _, _, rfl, rfl, (fun z => absurd z (by decide)), fun _ => ⟨_, n3.2.1, t6.2.1, p5⟩⟩
      · obtain ⟨m5, f5, p5, d5⟩ := n70_item hj w2 (10 : Int32) m2.1 (-1 : Int32)
        rw [y3, if_neg (by decide), z1, if_pos p_z00, z2, f5, p_bind]
        refine ⟨true, _, _, _, rfl, rfl, fun _ => ?_, (fun z => absurd z (by decide))⟩
        refine ⟨_, 10, tk_v B L (tk_n B L s), 0, ?_, n2.2.1, t4, Or.inl ⟨rfl, q, hc, by omega⟩, r3, p5, ?_⟩
        · have := n1.2.2 hs
          omega
        · rw [d5, d2, v2]
          exact congrArg (fun R => upd (upd (upd R _ _) _ _) _ _) (congrFun d1 17)
    · obtain ⟨m5, f5, p5⟩ := f70_item hj w2 (10 : Int32) m2.1 (-1 : Int32)
      have cls : ∀ K : Option (Int32 × q_St × q_St), (if nI (tk_k B L (tk_n B L s)) = (2 : Int32) then (Option.bind (f_X0_isCast Bo (u1.1 6)) (fun u2 => (if u2 = 0 then (some ((0 : Int32), u1, Bo)) else K))) else (some ((0 : Int32), u1, Bo))) = some ((0 : Int32), u1, Bo) := by
        intro K
        unfold tk_no at y
        have hk := tk_k_lt B L (tk_n B L s)
        by_cases k2 : tk_k B L (tk_n B L s) = 2
        · rw [decide_eq_true k2, Bool.true_and, decide_eq_true (Nat.zero_le _), Bool.true_and, decide_eq_false_iff_not] at y
          have hv := tk_v_le B L (tk_n B L s)
          rw [if_pos (show nI (tk_k B L (tk_n B L s)) = (2 : Int32) by rw [k2]; rfl), t1.2.2.2.2.1 k2]
          unfold f_X0_isCast
          rw [hR.1, p_shl _ (by omega), if_neg (nI_pos (by omega)), if_pos (nI_le (by omega) (by omega)), p_bind, if_pos p_z00]
        · rw [if_neg (show ¬ nI (tk_k B L (tk_n B L s)) = (2 : Int32) from fun z => k2 ((nI_eq (b := 2) (by omega) (by omega)).mp z))]
      rw [cls, f70_nxt w2 11, p_bind, if_pos p_z00, f5, p_bind]
      exact ⟨false, _, _, _, rfl, rfl, (fun z => absurd z (by decide)), fun _ => ⟨_, n1.2.1, t1.2.1, p5⟩⟩
  · rw [if_neg (show ¬ nI (p_nb S) < (12 : Int32) from nI_nlt (b := 12) (by omega) (by omega)), if_pos (show (12 : Int32) ≤ nI (p_nb S) from nI_le (a := 12) (by omega) (by omega))]
    unfold f_X6_readItem_92
    obtain ⟨m1, f1, p1⟩ := n70_must0 hN
    have p1' : p_PF s j M0 (va_up m1.1 20 (m1.1 20 + (1 : Int32)), m1.2) := p1
    obtain ⟨m2, f2, p2⟩ := f70_num p1' (0 : Int32) (((1 : Int32) <<< (m1.1 19 &&& 31)) - (1 : Int32))
    obtain ⟨m4, f4, p4⟩ := f70_item hj p2 (10 : Int32) m2.1 (-1 : Int32)
    rw [f1, p_bind, f2, p_bind, f70_nxt p2 11, p_bind, if_pos p_z00, f4, p_bind]
    exact ⟨false, _, _, _, rfl, rfl, (fun z => absurd z (by decide)), fun _ => ⟨s, by omega, hT.2.1, p4⟩⟩
end ITEM
