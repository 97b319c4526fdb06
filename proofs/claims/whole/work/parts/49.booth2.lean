/-! the class's booth: a doll for another one; who is together; dogs and draws; counts -/
def p_nc (o n c : Nat) : Nat := if c.testBit o = true then p_rest c (o + 1) ||| 2 ^ n else c
def p_ns (o n s : Nat) : Nat := if s = o + 1 then n + 1 else s
/-- in the first i beats doll n stands for doll o -/
def p_rp (S : p_S) (o n i : Nat) : p_S := (S.1, (fun r j => if r = 3 then (if j < i then p_nc o n (p_c S j) else p_c S j) else if r = 4 then (if j < i then p_ns o n (p_s S j) else p_s S j) else S.2.1 r j), S.2.2)
theorem p_rp_0 (S : p_S) (o n : Nat) : p_rp S o n 0 = S := by
  refine Prod.ext rfl (Prod.ext (funext fun r => funext fun j => ?_) rfl)
  show (if r = 3 then (if j < 0 then p_nc o n (p_c S j) else p_c S j) else if r = 4 then (if j < 0 then p_ns o n (p_s S j) else p_s S j) else S.2.1 r j) = S.2.1 r j
  rw [if_neg (Nat.not_lt_zero j), if_neg (Nat.not_lt_zero j)]
  by_cases r3 : r = 3
  · subst r3; rfl
  · rw [if_neg r3]
    by_cases r4 : r = 4
    · subst r4; rfl
    · rw [if_neg r4]
theorem p_rp_s (S : p_S) (o n i : Nat) : p_u2 (p_u2 (p_rp S o n i) 3 i (p_nc o n (p_c S i))) 4 i (p_ns o n (p_s S i)) = p_rp S o n (i + 1) := by
  refine Prod.ext rfl (Prod.ext (funext fun r => funext fun j => ?_) rfl)
  show (if r = 4 ∧ j = i then p_ns o n (p_s S i) else if r = 3 ∧ j = i then p_nc o n (p_c S i) else if r = 3 then (if j < i then p_nc o n (p_c S j) else p_c S j) else if r = 4 then (if j < i then p_ns o n (p_s S j) else p_s S j) else S.2.1 r j) = if r = 3 then (if j < i + 1 then p_nc o n (p_c S j) else p_c S j) else if r = 4 then (if j < i + 1 then p_ns o n (p_s S j) else p_s S j) else S.2.1 r j
  by_cases hj : j = i
  · subst hj
    rw [if_pos (show j < j + 1 by omega), if_pos (show j < j + 1 by omega)]
    by_cases r4 : r = 4
    · subst r4
      rw [if_pos ⟨rfl, rfl⟩, if_neg (by decide), if_pos rfl]
    · rw [if_neg (fun z => r4 z.1)]
      by_cases r3 : r = 3
      · subst r3
        rw [if_pos ⟨rfl, rfl⟩, if_pos rfl]
      · rw [if_neg (fun z => r3 z.1), if_neg r3, if_neg r4, if_neg r3, if_neg r4]
  · rw [if_neg (fun z => hj z.2), if_neg (fun z => hj z.2)]
    by_cases q : j < i
    · rw [if_pos q, if_pos q, if_pos (show j < i + 1 by omega), if_pos (show j < i + 1 by omega)]
    · rw [if_neg q, if_neg q, if_neg (show ¬ j < i + 1 by omega), if_neg (show ¬ j < i + 1 by omega)]
theorem p_u2_same (S : p_S) (r k : Nat) : p_u2 S r k (S.2.1 r k) = S := by
  refine Prod.ext rfl (Prod.ext (funext fun a => funext fun j => ?_) rfl)
  show (if a = r ∧ j = k then S.2.1 r k else S.2.1 a j) = S.2.1 a j
  by_cases q : a = r ∧ j = k
  · rw [if_pos q, q.1, q.2]
  · rw [if_neg q]
theorem p_nc_lt {S : p_S} (g : p_Good S) {o n c : Nat} (ho : o < p_nd S) (hn : n < p_nd S) (hc : c < 2 ^ p_nd S) : p_nc o n c < 2 ^ p_nd S := by
  unfold p_nc
  split
  · have := p_rest_le c (o + 1)
    exact Nat.or_lt_two_pow (by omega) (Nat.pow_lt_pow_right (by decide) hn)
  · exact hc
theorem p_ns_le {S : p_S} {o n s : Nat} (hn : n < p_nd S) (hs : s ≤ p_nd S) : p_ns o n s ≤ p_nd S := by
  unfold p_ns
  split <;> omega
theorem g_rp {S : p_S} (g : p_Good S) {o n : Nat} (ho : o < p_nd S) (hn : n < p_nd S) (i : Nat) : p_Good (p_rp S o n i) :=
  ⟨g.1, g.2.1, g.2.2.1, g.2.2.2.1, g.2.2.2.2.1, g.2.2.2.2.2.1, g.2.2.2.2.2.2.1, (fun e he => by
    have := g.k he
    show (if e < i then p_nc o n (p_c S e) else p_c S e) < 2 ^ p_nd S ∧ (if e < i then p_ns o n (p_s S e) else p_s S e) ≤ p_nd S
    by_cases q : e < i
    · rw [if_pos q, if_pos q]
      exact ⟨p_nc_lt g ho hn this.1, p_ns_le hn this.2⟩
    · rw [if_neg q, if_neg q]
      exact this), g.2.2.2.2.2.2.2.2⟩
/-- is it so of one of len from i on -/
def p_any (q : Nat → Bool) : Nat → Nat → Bool
  | 0, _ => false
  | len + 1, i => q i || p_any q len (i + 1)
/-- both in one cast -/
def p_tog (S : p_S) (a b : Nat) : Bool := p_any (fun k => (p_c S k).testBit a && (p_c S k).testBit b) (p_nb S) 0
/-- a dog in a cast -/
def p_dq (S : p_S) (c d : Nat) : Bool := c.testBit d && (p_k S d == 5)
def p_dg (S : p_S) (c : Nat) : Nat := p_cf (p_dq S c) (p_nd S) 0
theorem q9_und : ∀ k, k < 7 → p_und k 5 = (k == 5) := by decide +kernel
def p_nz (z : Int32) : Int32 := z * (1103515245 : Int32) + (12345 : Int32)
def p_sh (z : Int32) : Int32 := (z.toUInt32 >>> ((8 : Int32).toUInt32 &&& Int32.toUInt32 31)).toInt32
/-- a dog leaves by a draw -/
def p_lv (sh : Int32 → Int32) (lea z : Int32) : Bool := !decide (lea ≤ sh z - sh z / (10 : Int32) * (10 : Int32))
/-- n draws: whether one leaves, and z behind them -/
def p_dr (nz : Int32 → Int32) (lv : Int32 → Bool) : Nat → Bool → Int32 → Bool × Int32
  | 0, b, z => (b, z)
  | n + 1, b, z => p_dr nz lv n (b || lv (nz z)) (nz z)
theorem p_dr_s (nz : Int32 → Int32) (lv : Int32 → Bool) (n : Nat) (b : Bool) (z : Int32) : p_dr nz lv (n + 1) b z = p_dr nz lv n (b || lv (nz z)) (nz z) := rfl
/-- an evening's draws: how many beats are lost, and z -/
def p_ev (nz : Int32 → Int32) (lv : Int32 → Bool) (S : p_S) : Nat → Nat → Nat → Int32 → Nat × Int32
  | 0, _, acc, z => (acc, z)
  | len + 1, k, acc, z => p_ev nz lv S len (k + 1) (acc + p_one (p_dr nz lv (p_dg S (p_c S k)) false z).1) (p_dr nz lv (p_dg S (p_c S k)) false z).2
theorem p_ev_s (nz : Int32 → Int32) (lv : Int32 → Bool) (S : p_S) (len k acc : Nat) (z : Int32) : p_ev nz lv S (len + 1) k acc z = p_ev nz lv S len (k + 1) (acc + p_one (p_dr nz lv (p_dg S (p_c S k)) false z).1) (p_dr nz lv (p_dg S (p_c S k)) false z).2 := rfl
def p_DR (nz sh : Int32 → Int32) : Prop := ∀ B : q_St, f_X0_draw B = some (sh (nz (B.1 5)), (va_up B.1 5 (nz (B.1 5)), B.2))
theorem p_DR_X : p_DR p_nz p_sh := fun _ => rfl
section BOOTH2
variable {B : q_St} {S : p_S}
theorem uX_rep_2 (g : p_Good S) {o w : Nat} (ho : o < p_nd S) (hw : w < p_nd S) (B0 : q_St) (z1 z2 : Int32) : ∀ (len n i : Nat) (B : q_St), i + len = p_nb S → len < n → p_RB B (p_rp S o w i) → p_wp (f_X0_replace_2 B0 z1 z2 n (nI o) (nI w) (nI i) B) (fun B' => p_RB B' (p_rp S o w (p_nb S))) := by
  have h8 := g.1
  have h12 := g.2.1
  intro len
  induction len with
  | zero =>
    intro n i B hi hn h
    obtain ⟨n, rfl⟩ := p_suc (show 0 < n by omega)
    have hb : B.1 1 = nI (p_nb S) := h.2.1
    rw [f_X0_replace_2, hb, if_pos (nI_le (by omega) (by omega)), p_wp_some, show p_nb S = i by omega]
    exact h
  | succ len ih =>
    intro n i B hi hn h
    obtain ⟨n, rfl⟩ := p_suc (show 0 < n by omega)
    have gi := g_rp g ho hw i
    have hb : B.1 1 = nI (p_nb S) := h.2.1
    have ni : i < p_nb (p_rp S o w i) := show i < p_nb S by omega
    have gk := g.k (k := i) (by omega)
    have c8 := g.c8 (k := i) (by omega)
    have c1 : p_c (p_rp S o w i) i = p_c S i := by
      show (if i < i then p_nc o w (p_c S i) else p_c S i) = _
      rw [if_neg (by omega)]
    have s1 : p_s (p_rp S o w i) i = p_s S i := by
      show (if i < i then p_ns o w (p_s S i) else p_s S i) = _
      rw [if_neg (by omega)]
    have fin : ∀ B1, p_RB B1 (p_u2 (p_rp S o w i) 3 i (p_nc o w (p_c S i))) → p_wp (f_X0_replace_45 B0 z1 z2 (fun x1 x2 x3 B' => f_X0_replace_2 B0 z1 z2 n x1 x2 x3 B') (nI o) (nI w) (nI i) B1) (fun B' => p_RB B' (p_rp S o w (p_nb S))) := by
      intro B1 h1
      have g1 : p_Good (p_u2 (p_rp S o w i) 3 i (p_nc o w (p_c S i))) := g_cast gi (show p_nc o w (p_c S i) < 2 ^ p_nd S from p_nc_lt g ho hw gk.1)
      unfold f_X0_replace_45
      rw [bX_speakerOf h1 g1 ni, p_bind, show p_s (p_u2 (p_rp S o w i) 3 i (p_nc o w (p_c S i))) i = p_s S i from s1, nI_1, ← p_hcs o]
      by_cases q : p_s S i = o + 1
      · rw [if_pos (congrArg p_hc q), ← p_hcs w]
        refine p_wp_seq (uX_spk h1 g1 (k := i) ni) (fun B2 h2 => ?_)
        have : w + 1 = p_ns o w (p_s S i) := by unfold p_ns; rw [if_pos q]
        rw [this, p_rp_s] at h2
        exact ih n (i + 1) B2 (by omega) (by omega) h2
      · rw [if_neg (fun z => q ((p_hc_eq (by omega) (by omega)).mp z))]
        have e := p_u2_same (p_u2 (p_rp S o w i) 3 i (p_nc o w (p_c S i))) 4 i
        have e2 : (p_u2 (p_rp S o w i) 3 i (p_nc o w (p_c S i))).2.1 4 i = p_ns o w (p_s S i) := by
          rw [show (p_u2 (p_rp S o w i) 3 i (p_nc o w (p_c S i))).2.1 4 i = p_s S i from s1]
          unfold p_ns; rw [if_neg q]
        rw [e2, p_rp_s] at e
        rw [← e] at h1
        exact ih n (i + 1) B1 (by omega) (by omega) h1
    rw [f_X0_replace_2, hb, if_neg (nI_ge (by omega) (by omega)), bX_castOf h gi ni, p_bind, c1, p_contX (by omega), p_bind, p_bif]
    cases q : (p_c S i).testBit o with
    | false =>
      rw [if_neg (by decide)]
      have e := p_u2_same (p_rp S o w i) 3 i
      have e2 : (p_rp S o w i).2.1 3 i = p_nc o w (p_c S i) := by
        rw [show (p_rp S o w i).2.1 3 i = p_c S i from c1]
        unfold p_nc; rw [q]; rfl
      rw [e2] at e
      rw [← e] at h
      exact fin B h
    | true =>
      have e0 : nI (p_c S i) &&& (nI (2 ^ o) ^^^ (-1 : Int32)) = nI (p_rest (p_c S i) (o + 1)) := p_restX (o + 1) (by omega) _ c8
      have e1 : p_nc o w (p_c S i) = p_rest (p_c S i) (o + 1) ||| 2 ^ w := by unfold p_nc; rw [if_pos q]
      rw [if_pos rfl, p_bitX (by omega), p_bind, p_bitX (by omega), p_bind, e0, fa_or, ← e1]
      exact p_wp_seq (uX_cast h gi ni) (fun B1 h1 => fin B1 h1)
theorem uX_rep (h : p_RB B S) (g : p_Good S) {o w : Nat} (ho : o < p_nd S) (hw : w < p_nd S) : p_wp (f_X0_replace B (nI o) (nI w)) (fun B' => p_RB B' (p_rp S o w (p_nb S))) := by
  have h12 := g.2.1
  unfold f_X0_replace
  exact uX_rep_2 g ho hw B _ _ (p_nb S) q_N 0 B (by omega) (by rw [q_N_eq]; omega) (by rw [p_rp_0]; exact h)
theorem bX_tog_2 (h : p_RB B S) (g : p_Good S) {a b : Nat} (ha : a < 31) (hb : b < 31) (z1 z2 : Int32) : ∀ (len n i : Nat), i + len = p_nb S → len < n → f_X0_areTogether_2 B z1 z2 n (nI a) (nI b) (nI i) = some (p_b (p_any (fun k => (p_c S k).testBit a && (p_c S k).testBit b) len i)) := by
  have h12 := g.2.1
  intro len
  induction len with
  | zero =>
    intro n i hi hn
    obtain ⟨n, rfl⟩ := p_suc (show 0 < n by omega)
    rw [f_X0_areTogether_2, h.2.1, if_pos (nI_le (by omega) (by omega))]
    rfl
  | succ len ih =>
    intro n i hi hn
    obtain ⟨n, rfl⟩ := p_suc (show 0 < n by omega)
    rw [f_X0_areTogether_2, h.2.1, if_neg (nI_ge (by omega) (by omega)), bX_castOf h g (by omega), p_bind, p_contX ha, p_bind, p_bif, p_bind, p_contX hb, p_bind, p_bif, nI_1, ih n (i + 1) (by omega) (by omega), p_any]
    cases (p_c S i).testBit a <;> cases (p_c S i).testBit b <;> rfl
theorem bX_tog (h : p_RB B S) (g : p_Good S) {a b : Nat} (ha : a < 31) (hb : b < 31) : f_X0_areTogether B (nI a) (nI b) = some (p_b (p_tog S a b)) := by
  have h12 := g.2.1
  unfold f_X0_areTogether p_tog
  exact bX_tog_2 h g ha hb _ _ (p_nb S) q_N 0 (by omega) (by rw [q_N_eq]; omega)
theorem bX_dogs_4 (h : p_RB B S) (g : p_Good S) {k : Nat} (hk : k < p_nb S) (z1 : Int32) : ∀ (len n i acc : Nat), i + len = p_nd S → len < n → f_X0_dogsIn_4 B z1 n (nI k) (nI acc) (nI i) = some (nI (acc + p_cf (p_dq S (p_c S k)) len i)) := by
  have h8 := g.1
  intro len
  induction len with
  | zero =>
    intro n i acc hi hn
    obtain ⟨n, rfl⟩ := p_suc (show 0 < n by omega)
    rw [f_X0_dogsIn_4, h.1, if_pos (nI_le (by omega) (by omega))]
    rfl
  | succ len ih =>
    intro n i acc hi hn
    obtain ⟨n, rfl⟩ := p_suc (show 0 < n by omega)
    have gd := g.d (d := i) (by omega)
    have u : f_X1_isUnder (nI (p_k S i)) (5 : Int32) = some (p_b (p_und (p_k S i) 5)) := p_undX _ gd.1 5 (by decide)
    rw [f_X0_dogsIn_4, h.1, if_neg (nI_ge (by omega) (by omega)), bX_castOf h g hk, p_bind, p_contX (by omega), p_bind, p_bif, bX_kindOf h g (by omega), p_bind, u, p_bind, p_bif, q9_und _ gd.1, nI_1, nI_1, ih n (i + 1) _ (by omega) (by omega), ih n (i + 1) _ (by omega) (by omega), p_cf]
    unfold p_dq
    cases (p_c S k).testBit i with
    | false => simp
    | true =>
      cases p_k S i == 5 with
      | false => simp
      | true => simp [Nat.add_assoc]
theorem bX_dogsIn (h : p_RB B S) (g : p_Good S) {k : Nat} (hk : k < p_nb S) : f_X0_dogsIn B (nI k) = some (nI (p_dg S (p_c S k))) := by
  have h8 := g.1
  unfold f_X0_dogsIn p_dg
  have := bX_dogs_4 h g hk (nI k) (p_nd S) q_N 0 0 (by omega) (by rw [q_N_eq]; omega)
  rw [Nat.zero_add] at this
  exact this
theorem p_dg_le (S : p_S) (c : Nat) : p_dg S c ≤ p_nd S := p_cf_le _ _ _
theorem bX_all_4 (h : p_RB B S) (g : p_Good S) : ∀ (len n i acc : Nat), i + len = p_nb S → len < n → f_X0_dogsInAll_4 B n (nI acc) (nI i) = some (nI (acc + p_sum (fun k => p_dg S (p_c S k)) len i)) := by
  have h12 := g.2.1
  intro len
  induction len with
  | zero =>
    intro n i acc hi hn
    obtain ⟨n, rfl⟩ := p_suc (show 0 < n by omega)
    rw [f_X0_dogsInAll_4, h.2.1, if_pos (nI_le (by omega) (by omega))]
    rfl
  | succ len ih =>
    intro n i acc hi hn
    obtain ⟨n, rfl⟩ := p_suc (show 0 < n by omega)
    rw [f_X0_dogsInAll_4, h.2.1, if_neg (nI_ge (by omega) (by omega)), bX_dogsIn h g (by omega), p_bind, p_add, nI_1, ih n (i + 1) _ (by omega) (by omega), p_sum, Nat.add_assoc]
theorem bX_dogsAll (h : p_RB B S) (g : p_Good S) : f_X0_dogsInAll B = some (nI (p_sum (fun k => p_dg S (p_c S k)) (p_nb S) 0)) := by
  have h12 := g.2.1
  unfold f_X0_dogsInAll
  have := bX_all_4 h g (p_nb S) q_N 0 0 (by omega) (by rw [q_N_eq]; omega)
  rw [Nat.zero_add] at this
  exact this
theorem bX_spots_4 (h : p_RB B S) (g : p_Good S) : ∀ (len n i acc : Nat), i + len = 10 → len < n → f_X0_spotsInUse_4 B n (nI acc) (nI i) = some (nI (acc + p_cf (fun i => decide (p_t S i ≠ 0)) len i)) := by
  have h8 := g.1
  intro len
  induction len with
  | zero =>
    intro n i acc hi hn
    obtain ⟨n, rfl⟩ := p_suc (show 0 < n by omega)
    rw [f_X0_spotsInUse_4, if_pos (show (10 : Int32) ≤ nI i from nI_le (a := 10) (by omega) (by omega))]
    rfl
  | succ len ih =>
    intro n i acc hi hn
    obtain ⟨n, rfl⟩ := p_suc (show 0 < n by omega)
    have ht := g.t (i := i) (by omega)
    rw [f_X0_spotsInUse_4, if_neg (show ¬ (10 : Int32) ≤ nI i from nI_ge (b := 10) (by omega) (by omega)), p_ix (by omega) (by omega), p_cl (by omega), h.t (by omega), nI_1, nI_1, ih n (i + 1) _ (by omega) (by omega), ih n (i + 1) _ (by omega) (by omega), p_cf]
    by_cases q : p_t S i = 0
    · rw [if_pos ((p_hc_m1 (by omega)).mpr q)]
      simp [q]
    · rw [if_neg (fun z => q ((p_hc_m1 (by omega)).mp z))]
      simp [q, Nat.add_assoc]
theorem bX_spots (h : p_RB B S) (g : p_Good S) : f_X0_spotsInUse B = some (nI (p_cf (fun i => decide (p_t S i ≠ 0)) 10 0)) := by
  unfold f_X0_spotsInUse
  have := bX_spots_4 h g 10 q_N 0 0 (by omega) (by rw [q_N_eq]; omega)
  rw [Nat.zero_add] at this
  exact this
/-! draws -/
theorem uX_ev_24 {nz sh : Int32 → Int32} (hD : p_DR nz sh) (B0 : q_St) (r4 : Int32 → Int32 → q_St → Option (Int32 × q_St)) (x1 x2 : Int32) (lea : Int32) : ∀ (len n i t : Nat) (b : Bool) (B : q_St), i + len = t → t < 100 → len < n → B.1 4 = lea → f_X0_drawEvening_24 B0 r4 n x1 x2 (nI t) (p_b b) (nI i) B = (if (p_dr nz (p_lv sh lea) len b (B.1 5)).1 = true then r4 (x1 + 1) (x2 + 1) (va_up B.1 5 (p_dr nz (p_lv sh lea) len b (B.1 5)).2, B.2) else r4 x1 (x2 + 1) (va_up B.1 5 (p_dr nz (p_lv sh lea) len b (B.1 5)).2, B.2)) := by
  intro len
  induction len with
  | zero =>
    intro n i t b B hi ht hn hl
    obtain ⟨n, rfl⟩ := p_suc (show 0 < n by omega)
    have e : (va_up B.1 5 (B.1 5), B.2) = B := by
      refine Prod.ext (funext fun j => ?_) rfl
      show (if j = 5 then B.1 5 else B.1 j) = B.1 j
      by_cases q : j = 5
      · rw [if_pos q, q]
      · rw [if_neg q]
    rw [f_X0_drawEvening_24, if_pos (nI_le (by omega) (by omega)), p_bif]
    show _ = if b = true then r4 (x1 + 1) (x2 + 1) (va_up B.1 5 (B.1 5), B.2) else r4 x1 (x2 + 1) (va_up B.1 5 (B.1 5), B.2)
    rw [e]
  | succ len ih =>
    intro n i t b B hi ht hn hl
    obtain ⟨n, rfl⟩ := p_suc (show 0 < n by omega)
    have e : ∀ x, (va_up (va_up B.1 5 (nz (B.1 5))) 5 x) = va_up B.1 5 x := fun x => funext fun j => by
      show (if j = 5 then x else if j = 5 then nz (B.1 5) else B.1 j) = if j = 5 then x else B.1 j
      by_cases q : j = 5
      · rw [if_pos q, if_pos q]
      · rw [if_neg q, if_neg q, if_neg q]
    have ih1 : ∀ b, f_X0_drawEvening_24 B0 r4 n x1 x2 (nI t) (p_b b) (nI (i + 1)) (va_up B.1 5 (nz (B.1 5)), B.2) = (if (p_dr nz (p_lv sh lea) len b (nz (B.1 5))).1 = true then r4 (x1 + 1) (x2 + 1) (va_up (va_up B.1 5 (nz (B.1 5))) 5 (p_dr nz (p_lv sh lea) len b (nz (B.1 5))).2, B.2) else r4 x1 (x2 + 1) (va_up (va_up B.1 5 (nz (B.1 5))) 5 (p_dr nz (p_lv sh lea) len b (nz (B.1 5))).2, B.2)) := fun b => ih n (i + 1) t b (va_up B.1 5 (nz (B.1 5)), B.2) (by omega) ht (by omega) hl
    rw [f_X0_drawEvening_24, if_neg (nI_ge (by omega) (by omega)), hD B, p_bind]
    show (if B.1 4 ≤ sh (nz (B.1 5)) - sh (nz (B.1 5)) / (10 : Int32) * (10 : Int32) then f_X0_drawEvening_24 B0 r4 n x1 x2 (nI t) (p_b b) (nI i + 1) (va_up B.1 5 (nz (B.1 5)), B.2) else f_X0_drawEvening_24 B0 r4 n x1 x2 (nI t) (p_b true) (nI i + 1) (va_up B.1 5 (nz (B.1 5)), B.2)) = _
    rw [nI_1, ih1, ih1, p_dr_s, hl, e, e]
    by_cases q : lea ≤ sh (nz (B.1 5)) - sh (nz (B.1 5)) / (10 : Int32) * (10 : Int32)
    · have lv : p_lv sh lea (nz (B.1 5)) = false := by unfold p_lv; rw [decide_eq_true q]; rfl
      rw [if_pos q, lv, Bool.or_false]
    · have lv : p_lv sh lea (nz (B.1 5)) = true := by unfold p_lv; rw [decide_eq_false q]; rfl
      rw [if_neg q, lv, Bool.or_true]
theorem uX_ev_4 {nz sh : Int32 → Int32} (hD : p_DR nz sh) (g : p_Good S) (B0 : q_St) : ∀ (len n k acc : Nat) (B : q_St) (z : Int32), k + len = p_nb S → len < n → p_RB B (p_u3 S 0 z) → p_wp (f_X0_drawEvening_4 B0 n (nI acc) (nI k) B) (fun q => q.1 = nI (p_ev nz (p_lv sh (nI (p_lea S))) S len k acc z).1 ∧ p_RB q.2 (p_u3 S 0 (p_ev nz (p_lv sh (nI (p_lea S))) S len k acc z).2)) := by
  have h12 := g.2.1
  have h8 := g.1
  intro len
  induction len with
  | zero =>
    intro n k acc B z hi hn h
    obtain ⟨n, rfl⟩ := p_suc (show 0 < n by omega)
    have hb : B.1 1 = nI (p_nb S) := h.2.1
    rw [f_X0_drawEvening_4, hb, if_pos (nI_le (by omega) (by omega)), p_wp_some]
    exact ⟨rfl, h⟩
  | succ len ih =>
    intro n k acc B z hi hn h
    obtain ⟨n, rfl⟩ := p_suc (show 0 < n by omega)
    have hb : B.1 1 = nI (p_nb S) := h.2.1
    have hz : B.1 5 = z := h.2.2.2.2.2.1
    have dl := p_dg_le S (p_c S k)
    have d1 : f_X0_dogsIn B (nI k) = some (nI (p_dg S (p_c S k))) := bX_dogsIn h (g_u3 g 0 z) (show k < p_nb S by omega)
    have hR : ∀ z', p_RB (va_up B.1 5 z', B.2) (p_u3 S 0 z') := fun z' => by
      have := uX_seed h z'
      exact ⟨this.1, this.2.1, this.2.2.1, this.2.2.2.1, this.2.2.2.2.1, this.2.2.2.2.2.1, this.2.2.2.2.2.2.1, this.2.2.2.2.2.2.2.1, this.2.2.2.2.2.2.2.2.1, this.2.2.2.2.2.2.2.2.2.1, this.2.2.2.2.2.2.2.2.2.2.1, this.2.2.2.2.2.2.2.2.2.2.2.1, this.2.2.2.2.2.2.2.2.2.2.2.2⟩
    have e1 : f_X0_drawEvening_24 B0 (fun x1 x2 B' => f_X0_drawEvening_4 B0 n x1 x2 B') q_N (nI acc) (nI k) (nI (p_dg S (p_c S k))) (0 : Int32) (0 : Int32) B = _ := uX_ev_24 hD B0 (fun x1 x2 B' => f_X0_drawEvening_4 B0 n x1 x2 B') (nI acc) (nI k) (nI (p_lea S)) (p_dg S (p_c S k)) q_N 0 _ false B (by omega) (by omega) (by rw [q_N_eq]; omega) h.2.2.2.2.1
    rw [f_X0_drawEvening_4, hb, if_neg (nI_ge (by omega) (by omega)), d1, p_bind, e1, hz, nI_1, nI_1, p_ev_s]
    cases hq : (p_dr nz (p_lv sh (nI (p_lea S))) (p_dg S (p_c S k)) false z).1 with
    | true =>
      rw [if_pos rfl]
      exact ih n (k + 1) (acc + 1) _ _ (by omega) (by omega) (hR _)
    | false =>
      rw [if_neg (by decide)]
      exact ih n (k + 1) acc _ _ (by omega) (by omega) (hR _)
theorem uX_ev {nz sh : Int32 → Int32} (hD : p_DR nz sh) (h : p_RB B S) (g : p_Good S) : p_wp (f_X0_drawEvening B) (fun q => q.1 = nI (p_ev nz (p_lv sh (nI (p_lea S))) S (p_nb S) 0 0 (S.2.2 0)).1 ∧ p_RB q.2 (p_u3 S 0 (p_ev nz (p_lv sh (nI (p_lea S))) S (p_nb S) 0 0 (S.2.2 0)).2)) := by
  have h12 := g.2.1
  unfold f_X0_drawEvening
  exact uX_ev_4 hD g B (p_nb S) q_N 0 0 B (S.2.2 0) (by omega) (by rw [q_N_eq]; omega) ⟨h.1, h.2.1, h.2.2.1, h.2.2.2.1, h.2.2.2.2.1, h.2.2.2.2.2.1, h.2.2.2.2.2.2.1, h.2.2.2.2.2.2.2.1, h.2.2.2.2.2.2.2.2.1, h.2.2.2.2.2.2.2.2.2.1, h.2.2.2.2.2.2.2.2.2.2.1, h.2.2.2.2.2.2.2.2.2.2.2.1, h.2.2.2.2.2.2.2.2.2.2.2.2⟩
end BOOTH2
