/-! texts: tokens, on both sides -/
def tk_let (b : Nat) : Bool := decide (97 ≤ b) && decide (b ≤ 122)
def tk_dig (b : Nat) : Bool := decide (48 ≤ b) && decide (b ≤ 57)
/-- the first place from i on (len bytes stand there) where it isn't so -/
def p_ru (q : Nat → Bool) : Nat → Nat → Nat
  | 0, i => i
  | len + 1, i => if q i = true then p_ru q len (i + 1) else i
theorem p_ru_le (q : Nat → Bool) : ∀ len i, i ≤ p_ru q len i ∧ p_ru q len i ≤ i + len
  | 0, i => ⟨Nat.le_refl _, Nat.le_refl _⟩
  | len + 1, i => by
    rw [p_ru]
    have := p_ru_le q len (i + 1)
    split <;> omega
def p_vl (B : Nat → Nat) : Nat → Nat → Nat → Nat
  | 0, _, acc => acc
  | len + 1, i, acc => if tk_dig (B i) = true then p_vl B len (i + 1) (if 1000 < 10 * acc + B i - 48 then 1000 else 10 * acc + B i - 48) else acc
theorem p_vl_le (B : Nat → Nat) : ∀ len i acc, acc ≤ 1000 → p_vl B len i acc ≤ 1000
  | 0, _, _, h => h
  | len + 1, i, acc, h => by
    rw [p_vl]
    split
    · refine p_vl_le B len (i + 1) _ ?_
      split <;> omega
    · exact h
def tk_s (B : Nat → Nat) (L p : Nat) : Nat := p_ru (fun j => decide (B j = 32)) (L - p) p
def tk_k (B : Nat → Nat) (L s : Nat) : Nat := if L ≤ s then 0 else if tk_let (B s) = true then 1 else if tk_dig (B s) = true then 2 else if B s = 59 then 3 else 4
def tk_e (B : Nat → Nat) (L s : Nat) : Nat := if L ≤ s then s else if tk_let (B s) = true then p_ru (fun j => tk_let (B j)) (L - s) s else if tk_dig (B s) = true then p_ru (fun j => tk_dig (B j)) (L - s) s else s + 1
def tk_v (B : Nat → Nat) (L s : Nat) : Nat := p_vl B (L - s) s 0
def p_al (q : Nat → Bool) : Nat → Nat → Bool
  | 0, _ => true
  | len + 1, i => q i && p_al q len (i + 1)
theorem p_al_iff (q : Nat → Bool) : ∀ len i, p_al q len i = true ↔ ∀ j, i ≤ j → j < i + len → q j = true
  | 0, i => by
    rw [p_al]
    exact ⟨fun _ j h1 h2 => by omega, fun _ => rfl⟩
  | len + 1, i => by
    rw [p_al, Bool.and_eq_true, p_al_iff q len (i + 1)]
    constructor
    · rintro ⟨h1, h2⟩ j h3 h4
      by_cases e : j = i
      · rw [e]; exact h1
      · exact h2 j (by omega) (by omega)
    · intro h
      exact ⟨h i (by omega) (by omega), fun j h1 h2 => h j (by omega) (by omega)⟩
def tk_c (w i : Nat) : Int32 := (q_byt.getD w []).getD i 0
abbrev tk_l (w : Nat) : Nat := q_len.getD w 0
/-- the word w stands from s to e -/
def tk_w (B : Nat → Nat) (s e w : Nat) : Bool := decide (e - s = tk_l w) && p_al (fun i => decide (tk_c w i = nI (B (s + i)))) (tk_l w) 0
theorem q69_len : ∀ w, w < 12 → f_J0_length_8abf5 w = some (nI (tk_l w)) ∧ tk_l w < 10 := by decide +kernel
theorem q69_chr : ∀ w, w < 12 → ∀ i, i < 10 → (!decide (i < tk_l w) || decide (f_J0_charAt_5068e w (nI i) = some (tk_c w i))) = true := by decide +kernel
theorem q69_spl : ∀ i, i < 12 → f_X3_spelling (nI i) = some i := by decide +kernel
theorem q69_uni : ∀ w, w < 12 → ∀ w', w' < 12 → (!(decide (tk_l w = tk_l w') && p_al (fun i => decide (tk_c w i = tk_c w' i)) (tk_l w) 0) || decide (w = w')) = true := by decide +kernel
theorem tk_w_uni {B : Nat → Nat} {s e w w' : Nat} (hw : w < 12) (hw' : w' < 12) (h : tk_w B s e w = true) (h' : tk_w B s e w' = true) : w = w' := by
  unfold tk_w at h h'
  rw [Bool.and_eq_true, decide_eq_true_eq, p_al_iff] at h h'
  have := q69_uni w hw w' hw'
  have h1 : (decide (tk_l w = tk_l w') && p_al (fun i => decide (tk_c w i = tk_c w' i)) (tk_l w) 0) = true := by
    rw [Bool.and_eq_true, decide_eq_true_eq, p_al_iff]
    have e : tk_l w = tk_l w' := by omega
    refine ⟨e, fun j a b => ?_⟩
    have x := h.2 j a b
    have y := h'.2 j a (by omega)
    simp only [decide_eq_true_eq] at x y ⊢
    rw [x, y]
  rw [h1, Bool.not_true, Bool.false_or, decide_eq_true_eq] at this
  exact this
/-- the number of the word, and one; 0: none -/
def tk_wd (B : Nat → Nat) (s e : Nat) : Nat → Nat → Nat → Nat
  | 0, _, acc => acc
  | len + 1, i, acc => tk_wd B s e len (i + 1) (if tk_w B s e i = true then i + 1 else acc)
theorem tk_wd_iff (B : Nat → Nat) (s e : Nat) {w : Nat} (hw : w < 12) : ∀ len i acc, i + len ≤ 12 → (acc = w + 1 → tk_w B s e w = true) → (tk_wd B s e len i acc = w + 1 ↔ (acc = w + 1 ∨ (i ≤ w ∧ w < i + len)) ∧ tk_w B s e w = true)
  | 0, i, acc, hi, ha => by
    rw [tk_wd]
    constructor
    · intro h
      exact ⟨Or.inl h, ha h⟩
    · rintro ⟨h | h, _⟩
      · exact h
      · omega
  | len + 1, i, acc, hi, ha => by
    rw [tk_wd]
    by_cases q : tk_w B s e i = true
    · rw [if_pos q, tk_wd_iff B s e hw len (i + 1) (i + 1) (by omega) (fun h => by rw [show w = i by omega]; exact q)]
      constructor
      · rintro ⟨h | h, h2⟩
        · exact ⟨Or.inr ⟨by omega, by omega⟩, h2⟩
        · exact ⟨Or.inr ⟨by omega, by omega⟩, h2⟩
      · rintro ⟨h, h2⟩
        have := tk_w_uni (by omega) hw q h2
        exact ⟨Or.inl (by omega), h2⟩
    · rw [if_neg q, tk_wd_iff B s e hw len (i + 1) acc (by omega) ha]
      constructor
      · rintro ⟨h | h, h2⟩
        · exact ⟨Or.inl h, h2⟩
        · exact ⟨Or.inr ⟨by omega, by omega⟩, h2⟩
      · rintro ⟨h | h, h2⟩
        · exact ⟨Or.inl h, h2⟩
        · refine ⟨Or.inr ⟨?_, by omega⟩, h2⟩
          apply Classical.byContradiction
          intro hn
          rw [show w = i by omega] at h2
          exact q h2
theorem tk_wd_12 (B : Nat → Nat) (s e : Nat) {w : Nat} (hw : w < 12) : tk_wd B s e 12 0 0 = w + 1 ↔ tk_w B s e w = true := by
  rw [tk_wd_iff B s e hw 12 0 0 (by omega) (fun h => by omega)]
  constructor
  · exact fun h => h.2
  · exact fun h => ⟨Or.inr ⟨by omega, by omega⟩, h⟩
theorem tk_wd_le (B : Nat → Nat) (s e : Nat) : ∀ len i acc, acc ≤ i → tk_wd B s e len i acc ≤ i + len
  | 0, _, _, h => h
  | len + 1, i, acc, h => by
    rw [tk_wd]
    have := tk_wd_le B s e len (i + 1) (if tk_w B s e i = true then i + 1 else acc) (by split <;> omega)
    omega
theorem tk_s_le {B : Nat → Nat} {L p : Nat} (hp : p ≤ L) : p ≤ tk_s B L p ∧ tk_s B L p ≤ L := by
  have := p_ru_le (fun j => decide (B j = 32)) (L - p) p
  unfold tk_s
  omega
theorem tk_e_le {B : Nat → Nat} {L s : Nat} (hs : s ≤ L) : s ≤ tk_e B L s ∧ tk_e B L s ≤ L ∧ (s < L → s < tk_e B L s) := by
  unfold tk_e
  by_cases q : L ≤ s
  · rw [if_pos q]; omega
  · rw [if_neg q]
    by_cases l : tk_let (B s) = true
    · rw [if_pos l]
      obtain ⟨n, hn⟩ := p_suc (show 0 < L - s by omega)
      have := p_ru_le (fun j => tk_let (B j)) n (s + 1)
      rw [hn, p_ru, if_pos l]
      omega
    · rw [if_neg l]
      by_cases d : tk_dig (B s) = true
      · rw [if_pos d]
        obtain ⟨n, hn⟩ := p_suc (show 0 < L - s by omega)
        have := p_ru_le (fun j => tk_dig (B j)) n (s + 1)
        rw [hn, p_ru, if_pos d]
        omega
      · rw [if_neg d]; omega
/-- the place of the token behind that at s -/
def tk_n (B : Nat → Nat) (L s : Nat) : Nat := tk_s B L (tk_e B L s)
theorem tk_n_le {B : Nat → Nat} {L s : Nat} (hs : s ≤ L) : s ≤ tk_n B L s ∧ tk_n B L s ≤ L ∧ (s < L → s < tk_n B L s) := by
  have h1 := tk_e_le (B := B) hs
  have h2 := tk_s_le (B := B) h1.2.1
  unfold tk_n
  omega
theorem q69_let : ∀ b, b < 256 → f_X3_isLetter (nI b) = some (p_b (tk_let b)) ∧ f_X3_isDigit (nI b) = some (p_b (tk_dig b)) ∧ f_X6_within (nI b) (97 : Int32) (122 : Int32) = some (p_b (tk_let b)) ∧ f_X6_within (nI b) (48 : Int32) (57 : Int32) = some (p_b (tk_dig b)) ∧ (tk_dig b = true → 48 ≤ b) := by decide +kernel
section TOKX
variable {B : Nat → Nat} {L it : Nat} {T : q_St} {P : q_St → Prop}
/-- the class's tape holds the bytes -/
def p_TB (B : Nat → Nat) (L it : Nat) (T : q_St) : Prop := T.1 0 = nI L ∧ (∀ i, i < L → T.2 2 i = nI (B i)) ∧ T.1 1 = nI it
/-- and stands at the token at s -/
def p_TX (B : Nat → Nat) (L it s : Nat) (T : q_St) : Prop := p_TB B L it T ∧ T.1 4 = nI s ∧ T.1 3 = nI (tk_e B L s) ∧ T.1 5 = nI (tk_k B L s) ∧ (tk_k B L s = 2 → T.1 6 = nI (tk_v B L s)) ∧ (tk_k B L s = 1 → T.1 7 = p_hc (tk_wd B s (tk_e B L s) 12 0 0))
theorem q69_at (h : p_TB B L it T) (hL : L ≤ 120) {i : Nat} (hi : i < L) : f_X3_byteAt T (nI i) = some (nI (B i)) := by
  unfold f_X3_byteAt
  rw [if_neg (nI_pos (by omega)), if_neg (show ¬ (120 : Int32) ≤ nI i from nI_ge (b := 120) (by omega) (by omega)), p_ix (show i < 120 by omega) (by omega), p_cl (by omega), h.2.1 i hi]
theorem q69_20 (h : p_TB B L it T) (hL : L ≤ 120) {w s : Nat} (hw : w < 12) (h4 : T.1 4 = nI s) (he : s + tk_l w ≤ L) : ∀ (len n i : Nat), i + len = tk_l w → len < n → f_X3_isSpelt_20 T w n (nI i) = some (p_b (p_al (fun i => decide (tk_c w i = nI (B (s + i)))) len i)) := by
  have hl := q69_len w hw
  intro len
  induction len with
  | zero =>
    intro n i hi hn
    obtain ⟨n, rfl⟩ := p_suc (show 0 < n by omega)
    rw [f_X3_isSpelt_20, hl.1, p_bind, if_pos (nI_le (by omega) (by omega))]
    rfl
  | succ len ih =>
    intro n i hi hn
    obtain ⟨n, rfl⟩ := p_suc (show 0 < n by omega)
    have hc := q69_chr w hw i (by omega)
    rw [decide_eq_true (show i < tk_l w by omega), Bool.not_true, Bool.false_or, decide_eq_true_eq] at hc
    rw [f_X3_isSpelt_20, hl.1, p_bind, if_neg (nI_ge (by omega) (by omega)), hc, p_bind, h4, p_add, q69_at h hL (by omega), p_bind, p_al, nI_1]
    by_cases q : tk_c w i = nI (B (s + i))
    · rw [if_pos q, decide_eq_true q, Bool.true_and]
      exact ih n (i + 1) (by omega) (by omega)
    · rw [if_neg q, decide_eq_false q, Bool.false_and]
      rfl
theorem q69_spelt (h : p_TB B L it T) (hL : L ≤ 120) {w s e : Nat} (hw : w < 12) (h4 : T.1 4 = nI s) (h3 : T.1 3 = nI e) (hse : s ≤ e) (he : e ≤ L) : f_X3_isSpelt T w = some (p_b (tk_w B s e w)) := by
  have hl := q69_len w hw
  unfold f_X3_isSpelt tk_w
  rw [hl.1, p_bind, h3, h4, pk_sub hse]
  by_cases q : e - s = tk_l w
  · rw [if_pos (show nI (tk_l w) = nI (e - s) by rw [q]), decide_eq_true q, Bool.true_and]
    exact q69_20 h hL hw h4 (by omega) (tk_l w) q_N 0 (by omega) (by rw [q_N_eq]; omega)
  · rw [if_neg (fun z => q ((nI_eq (by omega) (by omega)).mp z).symm), decide_eq_false q, Bool.false_and]
    rfl
theorem q69_50 (hL : L ≤ 120) {s e : Nat} (hse : s ≤ e) (he : e ≤ L) (T0 : q_St) : ∀ (len n i acc : Nat) (T : q_St), i + len = 12 → len < n → p_TB B L it T → T.1 4 = nI s → T.1 3 = nI e → T.1 5 = 1 → T.1 7 = p_hc acc → p_wp (f_X3_nextWord_50 T0 n (nI i) T) (fun T' => p_TB B L it T' ∧ T'.1 4 = nI s ∧ T'.1 3 = nI e ∧ T'.1 5 = 1 ∧ T'.1 7 = p_hc (tk_wd B s e len i acc)) := by
  intro len
  induction len with
  | zero =>
    intro n i acc T hi hn h h4 h3 h5 h7
    obtain ⟨n, rfl⟩ := p_suc (show 0 < n by omega)
    rw [f_X3_nextWord_50, if_pos (show (12 : Int32) ≤ nI i from nI_le (a := 12) (by omega) (by omega)), p_wp_some]
    exact ⟨h, h4, h3, h5, h7⟩
  | succ len ih =>
    intro n i acc T hi hn h h4 h3 h5 h7
    obtain ⟨n, rfl⟩ := p_suc (show 0 < n by omega)
    have s13 : ∀ A : Option q_St, q_s13 i A = A := fun A => if_pos (by omega)
    rw [f_X3_nextWord_50, if_neg (show ¬ (12 : Int32) ≤ nI i from nI_ge (b := 12) (by omega) (by omega)), q69_spl i (by omega), p_bind, s13, q69_spelt h hL (by omega) h4 h3 hse he, p_bind, p_bif, nI_1, tk_wd]
    by_cases q : tk_w B s e i = true
    · rw [if_pos q, if_pos q]
      exact ih n (i + 1) (i + 1) _ (by omega) (by omega) h h4 h3 h5 rfl
    · rw [if_neg q, if_neg q]
      exact ih n (i + 1) acc T (by omega) (by omega) h h4 h3 h5 h7
theorem q69_w0 (hL : L ≤ 120) (hB : ∀ i, i < L → B i < 256) {s : Nat} (T0 : q_St) : ∀ (len n i : Nat) (T : q_St), i + len = L → len < n → s ≤ i → p_TB B L it T → T.1 4 = nI s → T.1 3 = nI i → p_wp (f_X3_nextWord_0 T0 n T) (fun T' => p_TB B L it T' ∧ T'.1 4 = nI s ∧ T'.1 3 = nI (p_ru (fun j => tk_let (B j)) len i) ∧ T'.1 5 = 1 ∧ T'.1 7 = p_hc (tk_wd B s (p_ru (fun j => tk_let (B j)) len i) 12 0 0)) := by
  intro len
  induction len with
  | zero =>
    intro n i T hi hn hs h h4 h3
    obtain ⟨n, rfl⟩ := p_suc (show 0 < n by omega)
    rw [f_X3_nextWord_0, h.1, h3, if_pos (nI_le (by omega) (by omega))]
    exact q69_50 hL (e := i) hs (by omega) T0 12 q_N 0 0 _ (by omega) (by rw [q_N_eq]; omega) h h4 h3 rfl rfl
  | succ len ih =>
    intro n i T hi hn hs h h4 h3
    obtain ⟨n, rfl⟩ := p_suc (show 0 < n by omega)
    have hq := q69_let (B i) (hB i (by omega))
    rw [f_X3_nextWord_0, h.1, h3, if_neg (nI_ge (by omega) (by omega)), q69_at h hL (by omega), p_bind, hq.1, p_bind, p_bif, p_ru, nI_1]
    by_cases q : tk_let (B i) = true
    · rw [if_pos q, if_pos q]
      exact ih n (i + 1) _ (by omega) (by omega) (by omega) h h4 rfl
    · rw [if_neg q, if_neg q]
      exact q69_50 hL (e := i) hs (by omega) T0 12 q_N 0 0 _ (by omega) (by rw [q_N_eq]; omega) h h4 h3 rfl rfl
theorem q69_num (hL : L ≤ 120) (hB : ∀ i, i < L → B i < 256) {s : Nat} (T0 : q_St) : ∀ (len n i acc : Nat) (T : q_St), i + len = L → len < n → acc ≤ 1000 → p_TB B L it T → T.1 4 = nI s → T.1 3 = nI i → T.1 5 = 2 → T.1 6 = nI acc → p_wp (f_X3_nextNumber_10 T0 n T) (fun T' => p_TB B L it T' ∧ T'.1 4 = nI s ∧ T'.1 3 = nI (p_ru (fun j => tk_dig (B j)) len i) ∧ T'.1 5 = 2 ∧ T'.1 6 = nI (p_vl B len i acc)) := by
  intro len
  induction len with
  | zero =>
    intro n i acc T hi hn ha h h4 h3 h5 h6
    obtain ⟨n, rfl⟩ := p_suc (show 0 < n by omega)
    rw [f_X3_nextNumber_10, h.1, h3, if_pos (nI_le (by omega) (by omega)), p_wp_some]
    exact ⟨h, h4, h3, h5, h6⟩
  | succ len ih =>
    intro n i acc T hi hn ha h h4 h3 h5 h6
    obtain ⟨n, rfl⟩ := p_suc (show 0 < n by omega)
    have hb := hB i (by omega)
    have hq := q69_let (B i) hb
    rw [f_X3_nextNumber_10, h.1, h3, if_neg (nI_ge (by omega) (by omega)), q69_at h hL (by omega), p_bind, hq.2.1, p_bind, p_bif, p_bind, p_ru, p_vl, nI_1]
    by_cases q : tk_dig (B i) = true
    · have h48 := hq.2.2.2.2 q
      have e : (((10 : Int32) * T.1 6) + nI (B i)) - (48 : Int32) = nI (10 * acc + B i - 48) := by
        rw [h6, p_L10, p_mul, p_add]
        exact pk_sub (b := 48) (by omega)
      have e2 : (if (1000 : Int32) < nI (10 * acc + B i - 48) then (1000 : Int32) else nI (10 * acc + B i - 48)) = nI (if 1000 < 10 * acc + B i - 48 then 1000 else 10 * acc + B i - 48) := by
        by_cases y : 1000 < 10 * acc + B i - 48
        · rw [if_pos (show (1000 : Int32) < nI _ from nI_lt (a := 1000) y (by omega)), if_pos y]; rfl
        · rw [if_neg (show ¬ (1000 : Int32) < nI _ from nI_nlt (a := 1000) (by omega) (by omega)), if_neg y]
      rw [if_pos q, if_pos q, if_pos q, e, e2]
      exact ih n (i + 1) _ _ (by omega) (by omega) (by split <;> omega) h h4 rfl h5 rfl
    · rw [if_neg q, if_neg q, if_neg q, p_wp_some]
      exact ⟨h, h4, h3, h5, h6⟩
theorem q69_37 (hL : L ≤ 120) (hB : ∀ i, i < L → B i < 256) {s : Nat} (hs : s ≤ L) (T0 : q_St) {T : q_St} (h : p_TB B L it T) (h3 : T.1 3 = nI s) : p_wp (f_X3_nextToken_37 T0 T) (p_TX B L it s) := by
  have h4 : p_TB B L it (va_up T.1 4 (nI s), T.2) := h
  unfold f_X3_nextToken_37
  rw [h3, h.1]
  by_cases q : s < L
  · have hb := hB s q
    have hq := q69_let (B s) hb
    have nl : ¬ L ≤ s := by omega
    rw [if_pos (nI_lt q (by omega)), q69_at h4 hL q, p_bind, hq.1, p_bind, p_bif]
    by_cases l : tk_let (B s) = true
    · have ek : tk_k B L s = 1 := by unfold tk_k; rw [if_neg nl, if_pos l]
      have ee : tk_e B L s = p_ru (fun j => tk_let (B j)) (L - s) s := by unfold tk_e; rw [if_neg nl, if_pos l]
      have w : p_wp (f_X3_nextWord (va_up T.1 4 (nI s), T.2)) _ := q69_w0 hL hB (it := it) (s := s) (va_up T.1 4 (nI s), T.2) (L - s) (q_N + 1) s (va_up T.1 4 (nI s), T.2) (by omega) (by rw [q_N_eq]; omega) (Nat.le_refl _) h rfl h3
      rw [if_pos l]
      refine p_wp_seq w ?_
      rintro T' ⟨a1, a2, a3, a4, a5⟩
      rw [p_wp_some]
      refine ⟨a1, a2, by rw [ee]; exact a3, by rw [ek]; exact a4, (fun z => absurd (ek.symm.trans z) (by decide)), fun _ => by rw [ee]; exact a5⟩
    · rw [if_neg l, p_bind, hq.2.1, p_bind, p_bif]
      by_cases d : tk_dig (B s) = true
      · have ek : tk_k B L s = 2 := by unfold tk_k; rw [if_neg nl, if_neg l, if_pos d]
        have ee : tk_e B L s = p_ru (fun j => tk_dig (B j)) (L - s) s := by unfold tk_e; rw [if_neg nl, if_neg l, if_pos d]
        rw [if_pos d]
        unfold f_X3_nextNumber
        refine p_wp_seq (q69_num hL hB (it := it) (s := s) _ (L - s) q_N s 0 _ (by omega) (by rw [q_N_eq]; omega) (by omega) h rfl h3 rfl rfl) ?_
        rintro T' ⟨a1, a2, a3, a4, a5⟩
        rw [p_wp_some]
        refine ⟨a1, a2, by rw [ee]; exact a3, by rw [ek]; exact a4, fun _ => a5, (fun z => absurd (ek.symm.trans z) (by decide))⟩
      · have ee : tk_e B L s = s + 1 := by unfold tk_e; rw [if_neg nl, if_neg l, if_neg d]
        rw [if_neg d, p_bind, nI_1]
        by_cases y : B s = 59
        · have ek : tk_k B L s = 3 := by unfold tk_k; rw [if_neg nl, if_neg l, if_neg d, if_pos y]
          rw [if_pos (show nI (B s) = (59 : Int32) by rw [y]; rfl), p_wp_some]
          exact ⟨h, rfl, by rw [ee]; rfl, by rw [ek]; rfl, (fun z => absurd (ek.symm.trans z) (by decide)), (fun z => absurd (ek.symm.trans z) (by decide))⟩
        · have ek : tk_k B L s = 4 := by unfold tk_k; rw [if_neg nl, if_neg l, if_neg d, if_neg y]
          rw [if_neg (show ¬ nI (B s) = (59 : Int32) from fun z => y ((nI_eq (b := 59) (by omega) (by omega)).mp z)), p_wp_some]
          exact ⟨h, rfl, by rw [ee]; rfl, by rw [ek]; rfl, (fun z => absurd (ek.symm.trans z) (by decide)), (fun z => absurd (ek.symm.trans z) (by decide))⟩
  · have nl : L ≤ s := by omega
    have ek : tk_k B L s = 0 := by unfold tk_k; rw [if_pos nl]
    have ee : tk_e B L s = s := by unfold tk_e; rw [if_pos nl]
    rw [if_neg (nI_nlt (by omega) (by omega)), p_wp_some]
    exact ⟨h, rfl, by rw [ee]; exact h3, by rw [ek]; rfl, (fun z => absurd (ek.symm.trans z) (by decide)), (fun z => absurd (ek.symm.trans z) (by decide))⟩
theorem q69_0 (hL : L ≤ 120) (hB : ∀ i, i < L → B i < 256) (T0 : q_St) : ∀ (len n p : Nat) (T : q_St), p + len = L → len < n → p_TB B L it T → T.1 3 = nI p → p_wp (f_X3_nextToken_0 T0 n T) (p_TX B L it (p_ru (fun j => decide (B j = 32)) len p)) := by
  intro len
  induction len with
  | zero =>
    intro n p T hi hn h h3
    obtain ⟨n, rfl⟩ := p_suc (show 0 < n by omega)
    rw [f_X3_nextToken_0, h.1, h3, if_pos (nI_le (by omega) (by omega)), p_ru]
    exact q69_37 hL hB (by omega) T0 h h3
  | succ len ih =>
    intro n p T hi hn h h3
    obtain ⟨n, rfl⟩ := p_suc (show 0 < n by omega)
    have hb := hB p (by omega)
    rw [f_X3_nextToken_0, h.1, h3, if_neg (nI_ge (by omega) (by omega)), q69_at h hL (by omega), p_bind, p_ru, nI_1]
    by_cases q : B p = 32
    · rw [if_pos (show nI (B p) = (32 : Int32) by rw [q]; rfl), if_pos (decide_eq_true q)]
      exact ih n (p + 1) _ (by omega) (by omega) h rfl
    · rw [if_neg (show ¬ nI (B p) = (32 : Int32) from fun z => q ((nI_eq (b := 32) (by omega) (by omega)).mp z)), if_neg (by rw [decide_eq_false q]; decide)]
      exact q69_37 hL hB (by omega) T0 h h3
theorem q69_next0 (hL : L ≤ 120) (hB : ∀ i, i < L → B i < 256) {p : Nat} (hp : p ≤ L) (h : p_TB B L it T) (h3 : T.1 3 = nI p) : p_wp (f_X3_nextToken T) (p_TX B L it (tk_s B L p)) := q69_0 hL hB T (L - p) (q_N + 1) p T (by omega) (by rw [q_N_eq]; omega) h h3
theorem q69_nextX (hL : L ≤ 120) (hB : ∀ i, i < L → B i < 256) {s : Nat} (hs : s ≤ L) (h : p_TX B L it s T) : p_wp (f_X3_nextToken T) (p_TX B L it (tk_n B L s)) := q69_next0 hL hB (tk_e_le hs).2.1 h.1 h.2.2.1
/-- is it the word w -/
def tk_is (B : Nat → Nat) (L s w : Nat) : Bool := decide (tk_k B L s = 1) && tk_w B s (tk_e B L s) w
theorem tk_k_lt (B : Nat → Nat) (L s : Nat) : tk_k B L s < 5 := by
  unfold tk_k
  split
  · omega
  · split
    · omega
    · split
      · omega
      · split <;> omega
theorem q69_isW {s w : Nat} (hw : w < 12) (h : p_TX B L it s T) : f_X3_isWord T (nI w) = some (p_b (tk_is B L s w)) := by
  have hk := tk_k_lt B L s
  have hl := tk_wd_le B s (tk_e B L s) 12 0 0 (by omega)
  unfold f_X3_isWord tk_is
  rw [h.2.2.2.1]
  by_cases q : tk_k B L s = 1
  · rw [if_pos (show nI (tk_k B L s) = (1 : Int32) by rw [q]; rfl), decide_eq_true q, Bool.true_and, h.2.2.2.2.2 q]
    by_cases y : tk_w B s (tk_e B L s) w = true
    · rw [if_pos (show p_hc (tk_wd B s (tk_e B L s) 12 0 0) = nI w by rw [(tk_wd_12 B s _ hw).mpr y]; rfl), y]; rfl
    · rw [if_neg (show ¬ p_hc (tk_wd B s (tk_e B L s) 12 0 0) = nI w from fun z => y ((tk_wd_12 B s _ hw).mp ((p_hc_eq (b := w + 1) (by omega) (by omega)).mp z))), Bool.eq_false_iff.mpr y]; rfl
  · rw [if_neg (show ¬ nI (tk_k B L s) = (1 : Int32) from fun z => q ((nI_eq (b := 1) (by omega) (by omega)).mp z)), decide_eq_false q, Bool.false_and]; rfl
/-- is it a number from a to b -/
def tk_no (B : Nat → Nat) (L s a b : Nat) : Bool := decide (tk_k B L s = 2) && (decide (a ≤ tk_v B L s) && decide (tk_v B L s + 1 ≤ b))
theorem tk_v_le (B : Nat → Nat) (L s : Nat) : tk_v B L s ≤ 1000 := p_vl_le B _ _ _ (by omega)
theorem q69_isN {s a b : Nat} (ha : a < 2 ^ 31) (hb : b < 2 ^ 31) (h : p_TX B L it s T) : f_X3_isNumber T (nI a) (p_hc b) = some (p_b (tk_no B L s a b)) := by
  have hk := tk_k_lt B L s
  have hv := tk_v_le B L s
  unfold f_X3_isNumber tk_no
  rw [h.2.2.2.1]
  by_cases q : tk_k B L s = 2
  · rw [if_pos (show nI (tk_k B L s) = (2 : Int32) by rw [q]; rfl), decide_eq_true q, Bool.true_and, h.2.2.2.2.1 q]
    by_cases y : tk_v B L s < a
    · rw [if_pos (nI_lt y ha), decide_eq_false (by omega), Bool.false_and]; rfl
    · rw [if_neg (nI_nlt (by omega) (by omega)), decide_eq_true (by omega), Bool.true_and]
      by_cases z : tk_v B L s + 1 ≤ b
      · rw [if_neg (fun x => by rw [p_hc_ltI hb (by omega)] at x; omega), decide_eq_true z]; rfl
      · rw [if_pos ((p_hc_ltI hb (by omega)).mpr (by omega)), decide_eq_false z]; rfl
  · rw [if_neg (show ¬ nI (tk_k B L s) = (2 : Int32) from fun z => q ((nI_eq (b := 2) (by omega) (by omega)).mp z)), decide_eq_false q, Bool.false_and]; rfl
end TOKX
section TOKN
variable {B : Nat → Nat} {L : Nat} {M : q_St} {P : q_St → Prop}
/-- the reference's tape holds the bytes -/
def p_NB (B : Nat → Nat) (L : Nat) (M : q_St) : Prop := M.1 10 = nI L ∧ ∀ i, i < L → M.2 9 i = nI (B i)
/-- nothing else than the token changed -/
def p_NF (M M' : q_St) : Prop := M'.2 = M.2 ∧ ∀ j, j ≠ 11 → j ≠ 12 → j ≠ 13 → j ≠ 14 → M'.1 j = M.1 j
theorem p_NF_trans {M M1 M2 : q_St} (h : p_NF M M1) (i : p_NF M1 M2) : p_NF M M2 := ⟨i.1.trans h.1, fun j a b c d => (i.2 j a b c d).trans (h.2 j a b c d)⟩
def p_NX (B : Nat → Nat) (L s : Nat) (M : q_St) : Prop := p_NB B L M ∧ M.1 11 = nI s ∧ M.1 12 = nI (tk_e B L s) ∧ M.1 13 = nI (if tk_k B L s = 4 then 3 else tk_k B L s) ∧ (tk_k B L s = 2 → M.1 14 = nI (tk_v B L s)) ∧ (tk_k B L s ≠ 2 → M.1 14 = 0)
theorem q69_atN (h : p_NB B L M) (hL : L ≤ 120) {i : Nat} (hi : i < 2 ^ 31) : f_X6_byteAt M (nI i) = some (if i < L then nI (B i) else -1) := by
  unfold f_X6_byteAt
  rw [h.1]
  by_cases q : i < L
  · rw [if_neg (nI_ge q (by omega)), p_ix (show i < 120 by omega) (by omega), p_cl hi, h.2 i q, if_pos q]
  · rw [if_pos (nI_le (by omega) hi), if_neg q]
theorem q69_84 (hL : L ≤ 120) (hB : ∀ i, i < L → B i < 256) (M0 : q_St) : ∀ (len n i : Nat) (M : q_St), i + len = L → len < n → p_NB B L M → M.1 12 = nI i → p_wp (f_X6_next_84 M0 n M) (fun M' => p_NB B L M' ∧ M'.1 12 = nI (p_ru (fun j => tk_let (B j)) len i) ∧ M'.2 = M.2 ∧ ∀ j, j ≠ 12 → M'.1 j = M.1 j) := by
  intro len
  induction len with
  | zero =>
    intro n i M hi hn h h12
    obtain ⟨n, rfl⟩ := p_suc (show 0 < n by omega)
    rw [f_X6_next_84, h12, q69_atN h hL (by omega), p_bind, if_neg (show ¬ i < L by omega), show f_X6_within (-1) (97 : Int32) (122 : Int32) = some 0 by decide, p_bind, if_pos p_z00, p_wp_some]
    exact ⟨h, h12, rfl, fun _ _ => rfl⟩
  | succ len ih =>
    intro n i M hi hn h h12
    obtain ⟨n, rfl⟩ := p_suc (show 0 < n by omega)
    have hq := q69_let (B i) (hB i (by omega))
    rw [f_X6_next_84, h12, q69_atN h hL (by omega), p_bind, if_pos (show i < L by omega), hq.2.2.1, p_bind, p_bif, p_ru, nI_1]
    by_cases q : tk_let (B i) = true
    · rw [if_pos q, if_pos q]
      refine p_wp_mono (ih n (i + 1) _ (by omega) (by omega) h rfl) ?_
      rintro M' ⟨a1, a2, a3, a4⟩
      exact ⟨a1, a2, a3, fun j hj => (a4 j hj).trans (if_neg hj)⟩
    · rw [if_neg q, if_neg q, p_wp_some]
      exact ⟨h, h12, rfl, fun _ _ => rfl⟩
theorem q69_131 (hL : L ≤ 120) (hB : ∀ i, i < L → B i < 256) (M0 : q_St) : ∀ (len n i acc : Nat) (M : q_St), i + len = L → len < n → acc ≤ 1000 → p_NB B L M → M.1 12 = nI i → M.1 14 = nI acc → p_wp (f_X6_next_131 M0 n M) (fun M' => p_NB B L M' ∧ M'.1 12 = nI (p_ru (fun j => tk_dig (B j)) len i) ∧ M'.1 14 = nI (p_vl B len i acc) ∧ M'.2 = M.2 ∧ ∀ j, j ≠ 12 → j ≠ 14 → M'.1 j = M.1 j) := by
  intro len
  induction len with
  | zero =>
    intro n i acc M hi hn ha h h12 h14
    obtain ⟨n, rfl⟩ := p_suc (show 0 < n by omega)
    rw [f_X6_next_131, h12, q69_atN h hL (by omega), p_bind, if_neg (show ¬ i < L by omega), show f_X6_within (-1) (48 : Int32) (57 : Int32) = some 0 by decide, p_bind, if_pos p_z00, p_wp_some]
    exact ⟨h, h12, h14, rfl, fun _ _ _ => rfl⟩
  | succ len ih =>
    intro n i acc M hi hn ha h h12 h14
    obtain ⟨n, rfl⟩ := p_suc (show 0 < n by omega)
    have hb := hB i (by omega)
    have hq := q69_let (B i) hb
    rw [f_X6_next_131, h12, q69_atN h hL (by omega), p_bind, if_pos (show i < L by omega), hq.2.2.2.1, p_bind, p_bif, p_bind, p_ru, p_vl, nI_1]
    by_cases q : tk_dig (B i) = true
    · have h48 := hq.2.2.2.2 q
      have e : (((10 : Int32) * M.1 14) + nI (B i)) - (48 : Int32) = nI (10 * acc + B i - 48) := by
        rw [h14, p_L10, p_mul, p_add]
        exact pk_sub (b := 48) (by omega)
      have e2 : (if nI (10 * acc + B i - 48) < (1000 : Int32) then nI (10 * acc + B i - 48) else (1000 : Int32)) = nI (if 1000 < 10 * acc + B i - 48 then 1000 else 10 * acc + B i - 48) := by
        by_cases y : 10 * acc + B i - 48 < 1000
        · rw [if_pos (show nI _ < (1000 : Int32) from nI_lt (b := 1000) y (by omega)), if_neg (by omega)]
        · rw [if_neg (show ¬ nI _ < (1000 : Int32) from nI_nlt (b := 1000) (by omega) (by omega))]
          by_cases z : 1000 < 10 * acc + B i - 48
          · rw [if_pos z]; rfl
          · rw [if_neg z, show 10 * acc + B i - 48 = 1000 by omega]; rfl
      rw [if_pos q, if_pos q, if_pos q, e, e2]
      refine p_wp_mono (ih n (i + 1) _ _ (by omega) (by omega) (by split <;> omega) h rfl rfl) ?_
      rintro M' ⟨a1, a2, a3, a4, a5⟩
      refine ⟨a1, a2, a3, a4, fun j hj hj2 => (a5 j hj hj2).trans ?_⟩
      show va_up (va_up M.1 12 _) 14 _ j = M.1 j
      unfold va_up
      rw [if_neg hj2, if_neg hj]
    · rw [if_neg q, if_neg q, if_neg q, p_wp_some]
      exact ⟨h, h12, h14, rfl, fun _ _ _ => rfl⟩
theorem q69_8 (hL : L ≤ 120) (hB : ∀ i, i < L → B i < 256) (M0 : q_St) : ∀ (len n p : Nat) (M : q_St), p + len = L → len < n → p_NB B L M → M.1 11 = nI p → p_wp (f_X6_next_8 M0 n M) (fun M' => p_NX B L (p_ru (fun j => decide (B j = 32)) len p) M' ∧ p_NF M M') := by
  have tok : ∀ (n s : Nat) (M : q_St), s ≤ L → p_NB B L M → M.1 11 = nI s → (s < L → B s ≠ 32) → p_wp (f_X6_next_8 M0 (n + 1) M) (fun M' => p_NX B L s M' ∧ p_NF M M') := by
    intro n s M hs h h11 h32
    rw [f_X6_next_8, h11, q69_atN h hL (by omega), p_bind]
    by_cases q : s < L
    · have hb := hB s q
      have hq := q69_let (B s) hb
      have nl : ¬ L ≤ s := by omega
      rw [if_pos q, if_neg (show ¬ nI (B s) = (32 : Int32) from fun z => h32 q ((nI_eq (b := 32) (by omega) (by omega)).mp z)), p_bind, if_pos (nI_pos' (by omega)), hq.2.2.1, p_bind, p_bif]
      by_cases l : tk_let (B s) = true
      · have ek : tk_k B L s = 1 := by unfold tk_k; rw [if_neg nl, if_pos l]
        have ee : tk_e B L s = p_ru (fun j => tk_let (B j)) (L - s) s := by unfold tk_e; rw [if_neg nl, if_pos l]
        rw [if_pos l]
        refine p_wp_mono (q69_84 hL hB M0 (L - s) q_N s _ (by omega) (by rw [q_N_eq]; omega) h rfl) ?_
        rintro M' ⟨a1, a2, a3, a4⟩
        refine ⟨⟨a1, (a4 11 (by decide)).trans h11, by rw [ee]; exact a2, ?_, (fun z => absurd (ek.symm.trans z) (by decide)), fun _ => a4 14 (by decide)⟩, a3, fun j j1 j2 j3 j4 => (a4 j j2).trans ?_⟩
        · rw [ek, if_neg (by decide)]
          exact a4 13 (by decide)
        · show va_up (va_up (va_up M.1 12 _) 13 _) 14 _ j = M.1 j
          unfold va_up
          rw [if_neg j4, if_neg j3, if_neg j2]
      · rw [if_neg l, hq.2.2.2.1, p_bind, p_bif]
        by_cases d : tk_dig (B s) = true
        · have ek : tk_k B L s = 2 := by unfold tk_k; rw [if_neg nl, if_neg l, if_pos d]
          have ee : tk_e B L s = p_ru (fun j => tk_dig (B j)) (L - s) s := by unfold tk_e; rw [if_neg nl, if_neg l, if_pos d]
          rw [if_pos d]
          refine p_wp_mono (q69_131 hL hB M0 (L - s) q_N s 0 _ (by omega) (by rw [q_N_eq]; omega) (by omega) h rfl rfl) ?_
          rintro M' ⟨a1, a2, a3, a4, a5⟩
          refine ⟨⟨a1, (a5 11 (by decide) (by decide)).trans h11, by rw [ee]; exact a2, ?_, fun _ => a3, fun z => absurd ek z⟩, a4, fun j j1 j2 j3 j4 => (a5 j j2 j4).trans ?_⟩
          · rw [ek, if_neg (by decide)]
            exact a5 13 (by decide) (by decide)
          · show va_up (va_up (va_up M.1 12 _) 13 _) 14 _ j = M.1 j
            unfold va_up
            rw [if_neg j4, if_neg j3, if_neg j2]
        · have ee : tk_e B L s = s + 1 := by unfold tk_e; rw [if_neg nl, if_neg l, if_neg d]
          have ek : (if tk_k B L s = 4 then 3 else tk_k B L s) = 3 ∧ tk_k B L s ≠ 2 := by
            unfold tk_k
            rw [if_neg nl, if_neg l, if_neg d]
            by_cases y : B s = 59
            · rw [if_pos y]; exact ⟨rfl, by decide⟩
            · rw [if_neg y]; exact ⟨rfl, by decide⟩
          rw [if_neg d, nI_1, p_wp_some]
          refine ⟨⟨h, h11, by rw [ee]; rfl, by rw [ek.1]; rfl, fun z => absurd z ek.2, fun _ => rfl⟩, rfl, fun j j1 j2 j3 j4 => ?_⟩
          show va_up (va_up (va_up M.1 12 _) 13 _) 14 _ j = M.1 j
          unfold va_up
          rw [if_neg j4, if_neg j3, if_neg j2]
    · have nl : L ≤ s := by omega
      have ek : tk_k B L s = 0 := by unfold tk_k; rw [if_pos nl]
      have ee : tk_e B L s = s := by unfold tk_e; rw [if_pos nl]
      rw [if_neg q, if_neg (show ¬ (-1 : Int32) = 32 by decide), p_bind, if_neg (show ¬ (0 : Int32) ≤ -1 by decide), p_wp_some]
      refine ⟨⟨h, h11, by rw [ee]; rfl, by rw [ek]; rfl, (fun z => absurd (ek.symm.trans z) (by decide)), fun _ => rfl⟩, rfl, fun j j1 j2 j3 j4 => ?_⟩
      show va_up (va_up (va_up M.1 12 _) 13 _) 14 _ j = M.1 j
      unfold va_up
      rw [if_neg j4, if_neg j3, if_neg j2]
  intro len
  induction len with
  | zero =>
    intro n p M hi hn h h11
    obtain ⟨n, rfl⟩ := p_suc (show 0 < n by omega)
    exact tok n p M (by omega) h h11 (fun z => by omega)
  | succ len ih =>
    intro n p M hi hn h h11
    obtain ⟨n, rfl⟩ := p_suc (show 0 < n by omega)
    by_cases q : B p = 32
    · rw [p_ru, if_pos (decide_eq_true q), f_X6_next_8, h11, q69_atN h hL (by omega), p_bind, if_pos (show p < L by omega), if_pos (show nI (B p) = (32 : Int32) by rw [q]; rfl), nI_1]
      refine p_wp_mono (ih n (p + 1) _ (by omega) (by omega) h rfl) ?_
      rintro M' ⟨a1, a2⟩
      exact ⟨a1, a2.1, fun j j1 j2 j3 j4 => (a2.2 j j1 j2 j3 j4).trans (if_neg j1)⟩
    · rw [p_ru, if_neg (by rw [decide_eq_false q]; decide)]
      exact tok n p M (by omega) h h11 (fun _ => q)
theorem q69_next1 (hL : L ≤ 120) (hB : ∀ i, i < L → B i < 256) {p : Nat} (hp : p ≤ L) (h : p_NB B L M) (h12 : M.1 12 = nI p) : p_wp (f_X6_next M) (fun M' => p_NX B L (tk_s B L p) M' ∧ p_NF M M') := by
  unfold f_X6_next
  rw [h12]
  refine p_wp_mono (q69_8 hL hB M (L - p) q_N p (va_up M.1 11 (nI p), M.2) (by omega) (by rw [q_N_eq]; omega) h rfl) ?_
  rintro M' ⟨a1, a2⟩
  exact ⟨a1, a2.1, fun j j1 j2 j3 j4 => (a2.2 j j1 j2 j3 j4).trans (if_neg j1)⟩
theorem q69_nextN (hL : L ≤ 120) (hB : ∀ i, i < L → B i < 256) {s : Nat} (hs : s ≤ L) (h : p_NX B L s M) : p_wp (f_X6_next M) (fun M' => p_NX B L (tk_n B L s) M' ∧ p_NF M M') := q69_next1 hL hB (tk_e_le hs).2.1 h.1 h.2.2.1
theorem q69_32 (h : p_NB B L M) (hL : L ≤ 120) {w s : Nat} (hw : w < 12) (h11 : M.1 11 = nI s) (he : s + tk_l w ≤ L) : ∀ (len n i : Nat) (f : Bool), i + len = tk_l w → len < n → f_X6_isWord_32 M w n (p_b f) (nI i) = some (p_b (f && p_al (fun i => decide (tk_c w i = nI (B (s + i)))) len i)) := by
  have hl := q69_len w hw
  intro len
  induction len with
  | zero =>
    intro n i f hi hn
    obtain ⟨n, rfl⟩ := p_suc (show 0 < n by omega)
    rw [f_X6_isWord_32, hl.1, p_bind, if_pos (nI_le (by omega) (by omega)), p_bz, p_al, Bool.and_true]
  | succ len ih =>
    intro n i f hi hn
    obtain ⟨n, rfl⟩ := p_suc (show 0 < n by omega)
    have hc := q69_chr w hw i (by omega)
    rw [decide_eq_true (show i < tk_l w by omega), Bool.not_true, Bool.false_or, decide_eq_true_eq] at hc
    rw [f_X6_isWord_32, hl.1, p_bind, if_neg (nI_ge (by omega) (by omega)), p_bif]
    cases f with
    | false => rw [if_neg (by decide), Bool.false_and]; rfl
    | true =>
      rw [if_pos rfl, h11, p_add, p_ix (show s + i < 120 by omega) (by omega), hc, p_bind, p_cl (by omega), h.2 _ (by omega), p_al, Bool.true_and, nI_1]
      by_cases q : tk_c w i = nI (B (s + i))
      · rw [if_pos q.symm, decide_eq_true q]
        exact ih n (i + 1) true (by omega) (by omega)
      · rw [if_neg (fun z => q z.symm), decide_eq_false q, Bool.false_and]
        have := ih n (i + 1) false (by omega) (by omega)
        rw [Bool.false_and] at this
        exact this
theorem q69_isWN (hL : L ≤ 120) {s w : Nat} (hs : s ≤ L) (hw : w < 12) (h : p_NX B L s M) : f_X6_isWord M w = some (p_b (tk_is B L s w)) := by
  have hl := q69_len w hw
  have hk := tk_k_lt B L s
  have he := tk_e_le (B := B) hs
  have f0 : f_X6_isWord_32 M w q_N (0 : Int32) (0 : Int32) = some 0 := by
    obtain ⟨q, hq⟩ : ∃ q, q_N = q + 1 := ⟨2999, rfl⟩
    rw [hq, f_X6_isWord_32, hl.1, p_bind, p_bz0]
    by_cases y : nI (tk_l w) ≤ (0 : Int32)
    · rw [if_pos y]
    · rw [if_neg y, if_pos p_z00]
  unfold f_X6_isWord tk_is
  rw [h.2.2.2.1]
  by_cases q : tk_k B L s = 1
  · rw [if_pos (show nI (if tk_k B L s = 4 then 3 else tk_k B L s) = (1 : Int32) by rw [q]; rfl), decide_eq_true q, Bool.true_and, hl.1, p_bind, h.2.2.1, h.2.1, pk_sub he.1]
    unfold tk_w
    by_cases y : tk_e B L s - s = tk_l w
    · rw [if_pos (show nI (tk_e B L s - s) = nI (tk_l w) by rw [y]), decide_eq_true y, Bool.true_and]
      have := q69_32 h.1 hL hw h.2.1 (by omega) (tk_l w) q_N 0 true (by omega) (by rw [q_N_eq]; omega)
      rw [Bool.true_and] at this
      exact this
    · rw [if_neg (fun z => y ((nI_eq (by omega) (by omega)).mp z)), decide_eq_false y, Bool.false_and]
      exact f0
  · rw [if_neg (show ¬ nI (if tk_k B L s = 4 then 3 else tk_k B L s) = (1 : Int32) from fun z => by
      have := (nI_eq (b := 1) (by split <;> omega) (by omega)).mp z
      split at this
      · omega
      · exact q this), decide_eq_false q, Bool.false_and]
    exact f0
end TOKN
