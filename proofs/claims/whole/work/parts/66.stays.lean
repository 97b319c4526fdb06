/-! the calls, on both sides: stays -/
def p_uu (L : Nat) : Nat := [1, 9, 4, 7, 3, 1, 2, 3, 1, 1, 0].getD L 0
def p_ll (L : Nat) : Nat := [1, 10, 5, 10, 5, 2, 5, 10, 5, 10, 1].getD L 0
def p_gg (L : Nat) : Nat := [10, 1, 2, 1, 2, 5, 2, 1, 2, 1, 10].getD L 0
theorem q66_ll : ∀ L, L < 11 → p_uu L ≤ 10 ∧ p_ll L ≤ 10 ∧ 1 ≤ p_ll L := by decide
theorem q66_cm : ∀ L, L < 11 → f_X6_common (((10 : Int32) - nI L).toInt64) (10 : Int64) = some (lN (p_gg L)) := by decide +kernel
theorem q66_du : ∀ L, L < 11 → ((10 : Int32) - nI L).toInt64 / lN (p_gg L) = lN (p_uu L) ∧ (10 : Int64) / lN (p_gg L) = lN (p_ll L) ∧ ¬ lN (p_gg L) = 0 := by decide +kernel
theorem q66_red {α : Type} (K : Int32 → Int32 → α) : ∀ L, L < 11 → (if (((10 : Int32) - nI L) - ((10 : Int32) - nI L) / (2 : Int32) * (2 : Int32)) = 0 then (if ((((10 : Int32) - nI L) / (2 : Int32)) - (((10 : Int32) - nI L) / (2 : Int32)) / (5 : Int32) * (5 : Int32)) = 0 then K ((((10 : Int32) - nI L) / (2 : Int32)) / (5 : Int32)) (((10 : Int32) / (2 : Int32)) / (5 : Int32)) else K (((10 : Int32) - nI L) / (2 : Int32)) ((10 : Int32) / (2 : Int32))) else (if (((10 : Int32) - nI L) - ((10 : Int32) - nI L) / (5 : Int32) * (5 : Int32)) = 0 then K (((10 : Int32) - nI L) / (5 : Int32)) ((10 : Int32) / (5 : Int32)) else K ((10 : Int32) - nI L) (10 : Int32))) = K (nI (p_uu L)) (nI (p_ll L)) := by
  intro L hL
  have h : L = 0 ∨ L = 1 ∨ L = 2 ∨ L = 3 ∨ L = 4 ∨ L = 5 ∨ L = 6 ∨ L = 7 ∨ L = 8 ∨ L = 9 ∨ L = 10 := by omega
  rcases h with rfl | rfl | rfl | rfl | rfl | rfl | rfl | rfl | rfl | rfl | rfl
  · rw [if_pos (by decide), if_pos (by decide)]; rfl
  · rw [if_neg (by decide), if_neg (by decide)]; rfl
  · rw [if_pos (by decide), if_neg (by decide)]; rfl
  · rw [if_neg (by decide), if_neg (by decide)]; rfl
  · rw [if_pos (by decide), if_neg (by decide)]; rfl
  · rw [if_neg (by decide), if_pos (by decide)]; rfl
  · rw [if_pos (by decide), if_neg (by decide)]; rfl
  · rw [if_neg (by decide), if_neg (by decide)]; rfl
  · rw [if_pos (by decide), if_neg (by decide)]; rfl
  · rw [if_neg (by decide), if_neg (by decide)]; rfl
  · rw [if_pos (by decide), if_pos (by decide)]; rfl
/-- above and below the line, as long as it goes -/
def p_stq (u l : Nat) : Nat → Nat → Nat → Nat × Nat
  | 0, A, B => (A, B)
  | n + 1, A, B => if B ≤ 1000000000000000 then p_stq u l n (A * u) (B * l) else (A, B)
theorem p_stq_add (u l : Nat) : ∀ a b A B, p_stq u l (a + b) A B = p_stq u l b (p_stq u l a A B).1 (p_stq u l a A B).2
  | 0, b, A, B => by rw [Nat.zero_add]; rfl
  | a + 1, b, A, B => by
    rw [show a + 1 + b = (a + b) + 1 by omega, p_stq, p_stq]
    by_cases q : B ≤ 1000000000000000
    · rw [if_pos q, if_pos q, p_stq_add u l a b]
    · rw [if_neg q, if_neg q]
      cases b with
      | zero => rfl
      | succ b => rw [p_stq, if_neg q]
theorem p_stq_le (u l : Nat) (hl : l ≤ 10) : ∀ n A B, B ≤ 10000000000000000 → (p_stq u l n A B).2 ≤ 10000000000000000
  | 0, _, _, h => h
  | n + 1, A, B, h => by
    rw [p_stq]
    split
    · refine p_stq_le u l hl n _ _ ?_
      have : B * l ≤ 1000000000000000 * 10 := Nat.mul_le_mul (by omega) hl
      omega
    · exact h
def p_Both64 (o1 : Option (Int64 × (Nat → q_St))) (o2 : Option (Int64 × q_St)) : Prop := p_wp o1 (fun u => p_wp o2 (fun v => u.1 = v.1 ∧ p_Rel u.2 v.2))
section STAYS
variable {X : Nat → q_St} {M : q_St} {S : p_S}
theorem p_no64 (h : p_Rel X M) {j : Nat} (hj : j < 7) {c : Int32} (hc : c = p_fc j) : p_Both64 (Option.bind (f_X5_finding X c) (fun u => some (u.1.toInt64, u.2))) (Option.bind (f_X6_finding M c) (fun u => some (u.1.toInt64, u.2))) := by
  obtain ⟨S, h⟩ := h
  obtain ⟨X', M', e1, e2, h'⟩ := p_find h hj hc
  rw [e1, e2]
  exact ⟨_, rfl, _, rfl, rfl, S, h'⟩
theorem q66_77 (X0 X : Nat → q_St) (z1 : Int32) {u l w tot : Nat} (hu : u ≤ 10) (hl : l ≤ 10) (ht : tot < 2 ^ 31) : ∀ (len n i A B : Nat), i + len = tot → len < n → B ≤ 1000000000000000 → f_X5_stays_77 X0 z1 n (nI w) (nI u) (nI l) (lN A) (lN B) (nI tot) (nI i) X = (if (p_stq u l len A B).2 ≤ 1000000000000000 then (if nI w = 0 then some (lN (p_stq u l len A B).1, X) else some (lN (p_stq u l len A B).2, X)) else (Option.bind (f_X5_finding X (-1000007 : Int32)) (fun u5 => some (u5.1.toInt64, u5.2)))) := by
  have el : (1000000000000000 : Int64) = lN 1000000000000000 := rfl
  intro len
  induction len with
  | zero =>
    intro n i A B hi hn hB
    obtain ⟨n, rfl⟩ := p_suc (show 0 < n by omega)
    rw [f_X5_stays_77, if_pos (nI_le (by omega) (by omega)), p_stq, if_pos hB]
  | succ len ih =>
    intro n i A B hi hn hB
    obtain ⟨n, rfl⟩ := p_suc (show 0 < n by omega)
    have hm : B * l ≤ 1000000000000000 * 10 := Nat.mul_le_mul hB hl
    rw [f_X5_stays_77, if_neg (nI_ge (by omega) (by omega)), nI_l (show l < 2 ^ 31 by omega), nI_l (show u < 2 ^ 31 by omega), lN_mul, lN_mul, el, nI_1, p_stq, if_pos hB]
    by_cases q : B * l ≤ 1000000000000000
    · rw [if_pos (show lg_cmp (lN (B * l)) (lN 1000000000000000) ≤ 0 by rw [lg_cmp_le, pk_lLE (by omega) (by omega)]; exact q)]
      exact ih n (i + 1) _ _ (by omega) (by omega) q
    · have st : p_stq u l len (A * u) (B * l) = (A * u, B * l) := by
        cases len with
        | zero => rfl
        | succ len => rw [p_stq, if_neg q]
      rw [if_neg (show ¬ lg_cmp (lN (B * l)) (lN 1000000000000000) ≤ 0 by rw [lg_cmp_le, pk_lLE (by omega) (by omega)]; exact q), st, if_neg q]
theorem q66_64 {L : Nat} (hL : L < 11) (hN : M.2 0 8 = nI L) (M0 : q_St) (z1 : Int32) (r42 : Int32 → Int64 → Int64 → Int64 → Int32 → q_St → Option (Int64 × q_St)) (x1 x8 : Int32) : ∀ (len n A B : Nat), len < 100 → len < n → B ≤ 10000000000000000 → f_X6_stays_64 M0 z1 r42 n x1 (lN A) (lN B) (lN (p_gg L)) x8 (nI len) M = r42 x1 (lN (p_stq (p_uu L) (p_ll L) len A B).1) (lN (p_stq (p_uu L) (p_ll L) len A B).2) (lN (p_gg L)) (x8 + 1) M := by
  have el : (1000000000000000 : Int64) = lN 1000000000000000 := rfl
  obtain ⟨d1, d2, d3⟩ := q66_du L hL
  have hl := q66_ll L hL
  have nz : ∀ {α : Type} (A : Option α), q_nzL (lN (p_gg L)) A = A := fun A => if_neg d3
  intro len
  induction len with
  | zero =>
    intro n A B hlen hn hB
    obtain ⟨n, rfl⟩ := p_suc (show 0 < n by omega)
    rw [f_X6_stays_64, if_pos (show nI 0 ≤ 0 by decide), p_stq]
  | succ len ih =>
    intro n A B hlen hn hB
    obtain ⟨n, rfl⟩ := p_suc (show 0 < n by omega)
    rw [f_X6_stays_64, if_neg (nI_nle (by omega) (by omega)), el, p_stq]
    by_cases q : B ≤ 1000000000000000
    · have hm : B * p_ll L ≤ 1000000000000000 * 10 := Nat.mul_le_mul q hl.2.1
      rw [if_neg (show ¬ (0 : Int32) < lg_cmp (lN B) (lN 1000000000000000) from fun z => by rw [lg_cmp_gt, pk_lLT (by omega) (by omega)] at z; omega), if_pos q, p_Q8, nz, nz, p_C8, hN, d1, d2, lN_mul, lN_mul, pk_m1]
      exact ih n _ _ (by omega) (by omega) (by omega)
    · rw [if_pos (show (0 : Int32) < lg_cmp (lN B) (lN 1000000000000000) from by rw [lg_cmp_gt, pk_lLT (by omega) (by omega)]; omega), if_neg q]
theorem q66_42 (hN : p_RN (M.2 0) S) (g : p_Good S) (M0 : q_St) (z1 : Int32) {w : Nat} : ∀ (len n k A B : Nat), k + len = p_nb S → len < n → B ≤ 10000000000000000 → f_X6_stays_42 M0 z1 n (nI w) (lN A) (lN B) (lN (p_gg (p_lea S))) (nI k) M = (if (p_stq (p_uu (p_lea S)) (p_ll (p_lea S)) (p_sum (fun k => p_dg S (p_c S k)) len k) A B).2 ≤ 1000000000000000 then (if nI w = 0 then some (lN (p_stq (p_uu (p_lea S)) (p_ll (p_lea S)) (p_sum (fun k => p_dg S (p_c S k)) len k) A B).1, M) else some (lN (p_stq (p_uu (p_lea S)) (p_ll (p_lea S)) (p_sum (fun k => p_dg S (p_c S k)) len k) A B).2, M)) else (Option.bind (f_X6_finding M (-1000007 : Int32)) (fun u5 => some (u5.1.toInt64, u5.2)))) := by
  have h8 := g.1
  have h12 := g.2.1
  have hL := g.2.2.2.2.2.1
  have hl := q66_ll (p_lea S) (by omega)
  have el : (1000000000000000 : Int64) = lN 1000000000000000 := rfl
  intro len
  induction len with
  | zero =>
    intro n k A B hi hn hB
    obtain ⟨n, rfl⟩ := p_suc (show 0 < n by omega)
    rw [f_X6_stays_42, p_Q1, p_C1, hN.2.1, if_pos (nI_le (by omega) (by omega)), el, p_sum, p_stq]
    by_cases q : B ≤ 1000000000000000
    · rw [if_pos (show lg_cmp (lN B) (lN 1000000000000000) ≤ 0 by rw [lg_cmp_le, pk_lLE (by omega) (by omega)]; exact q), if_pos q]
    · rw [if_neg (show ¬ lg_cmp (lN B) (lN 1000000000000000) ≤ 0 by rw [lg_cmp_le, pk_lLE (by omega) (by omega)]; exact q), if_neg q]
  | succ len ih =>
    intro n k A B hi hn hB
    obtain ⟨n, rfl⟩ := p_suc (show 0 < n by omega)
    have dl := p_dg_le S (p_c S k)
    have e := q66_64 (M := M) (L := p_lea S) (by omega) hN.2.2.2.2.1 M0 z1 (fun x1 x2 x4 x6 x8 M' => f_X6_stays_42 M0 z1 n x1 x2 x4 x6 x8 M') (nI w) (nI k) (p_dg S (p_c S k)) q_N A B (by omega) (by rw [q_N_eq]; omega) hB
    rw [f_X6_stays_42, p_Q1, p_C1, hN.2.1, if_neg (nI_ge (by omega) (by omega)), bN_dogsIn hN g (by omega), p_bind, bN_dogBits g, p_bind, e, nI_1, p_sum, p_stq_add]
    exact ih n (k + 1) _ _ (by omega) (by omega) (p_stq_le _ _ hl.2.1 _ _ _ hB)
theorem w_stays (h : p_Rel X M) (a : Int32) : p_Both64 (f_X5_stays X a) (f_X6_stays M a) := by
  have hr := h
  obtain ⟨S, hS⟩ := h
  have g := hS.1
  have hB := hS.2.1
  have hN := hS.2.2.1
  have h8 := g.1
  have h12 := g.2.1
  have hL := g.2.2.2.2.2.1
  have hl := q66_ll (p_lea S) (by omega)
  unfold f_X5_stays f_X6_stays
  rcases k_what a with ⟨w, hw, rfl, e1, e2⟩ | ⟨e1, e2⟩
  · have st : p_sum (fun k => p_dg S (p_c S k)) (p_nb S) 0 < 2 ^ 31 := by
      have : ∀ len k, p_sum (fun k => p_dg S (p_c S k)) len k ≤ 8 * len := by
        intro len
        induction len with
        | zero => intro k; exact Nat.le_refl _
        | succ len ih =>
          intro k
          have := ih (k + 1)
          have := p_dg_le S (p_c S k)
          rw [p_sum]
          omega
      have := this (p_nb S) 0
      omega
    have st2 : p_sum (fun k => p_dg S (p_c S k)) (p_nb S) 0 < 3000 := by
      have : ∀ len k, p_sum (fun k => p_dg S (p_c S k)) len k ≤ 8 * len := by
        intro len
        induction len with
        | zero => intro k; exact Nat.le_refl _
        | succ len ih =>
          intro k
          have := ih (k + 1)
          have := p_dg_le S (p_c S k)
          rw [p_sum]
          omega
      have := this (p_nb S) 0
      omega
    have x := q66_77 X X (nI w) (w := w) hl.1 hl.2.1 st (p_sum (fun k => p_dg S (p_c S k)) (p_nb S) 0) q_N 0 1 1 (by omega) (by rw [q_N_eq]; exact st2) (by omega)
    have y := q66_42 hN g M (nI w) (w := w) (p_nb S) q_N 0 1 1 (by omega) (by rw [q_N_eq]; omega) (by omega)
    have rd := q66_red (fun u l => Option.bind (f_X0_dogsInAll (X 1)) (fun u4 => f_X5_stays_77 X (nI w) q_N (nI w) u l (1 : Int64) (1 : Int64) u4 (0 : Int32) X)) (p_lea S) (by omega)
    rw [if_neg (nI_pos (by omega)), if_pos (show nI w ≤ (1 : Int32) from nI_le (b := 1) (by omega) (by omega)), e2, p_bind, if_neg p_n10, hB.2.2.2.2.1, p_Q8, p_C8, hN.2.2.2.2.1, q66_cm (p_lea S) (by omega), p_bind]
    unfold f_X5_stays_45
    have x : f_X5_stays_77 X (nI w) q_N (nI w) (nI (p_uu (p_lea S))) (nI (p_ll (p_lea S))) (1 : Int64) (1 : Int64) (nI (p_sum (fun k => p_dg S (p_c S k)) (p_nb S) 0)) (0 : Int32) X = _ := x
    have y : f_X6_stays_42 M (nI w) q_N (nI w) (1 : Int64) (1 : Int64) (lN (p_gg (p_lea S))) (0 : Int32) M = _ := y
    have rd2 := rd.trans ((show Option.bind (f_X0_dogsInAll (X 1)) (fun u4 => f_X5_stays_77 X (nI w) q_N (nI w) (nI (p_uu (p_lea S))) (nI (p_ll (p_lea S))) (1 : Int64) (1 : Int64) u4 (0 : Int32) X) = f_X5_stays_77 X (nI w) q_N (nI w) (nI (p_uu (p_lea S))) (nI (p_ll (p_lea S))) (1 : Int64) (1 : Int64) (nI (p_sum (fun k => p_dg S (p_c S k)) (p_nb S) 0)) (0 : Int32) X by rw [bX_dogsAll hB g, p_bind]).trans x)
    rw [y]
    refine Eq.mpr (congrArg (fun o => p_Both64 o _) rd2) ?_
    by_cases q : (p_stq (p_uu (p_lea S)) (p_ll (p_lea S)) (p_sum (fun k => p_dg S (p_c S k)) (p_nb S) 0) 1 1).2 ≤ 1000000000000000
    · show p_Both64 (if _ then _ else _) (if _ then _ else _)
      rw [if_pos q, if_pos q]
      by_cases z : nI w = 0
      · rw [if_pos z, if_pos z]
        exact ⟨_, rfl, _, rfl, rfl, hr⟩
      · rw [if_neg z, if_neg z]
        exact ⟨_, rfl, _, rfl, rfl, hr⟩
    · show p_Both64 (if _ then _ else _) (if _ then _ else _)
      rw [if_neg q, if_neg q]
      exact p_no64 hr (j := 6) (by decide) (by decide)
  · have nn : a < 0 ∨ ¬ a < 0 ∧ ¬ a ≤ (1 : Int32) := by
      rcases p_cases a (n := 2) (by omega) with h | ⟨j, hj, rfl⟩
      · rcases h with h | h
        · exact Or.inl h
        · right
          refine ⟨fun z => ?_, fun z => ?_⟩
          · rw [fa_le, nI_toInt (by omega)] at h
            rw [fa_lt, show (0 : Int32).toInt = 0 from rfl] at z
            omega
          · rw [fa_le, nI_toInt (by omega)] at h
            rw [fa_le, show (1 : Int32).toInt = 1 from rfl] at z
            omega
      · exfalso
        have : j = 0 ∨ j = 1 := by omega
        rcases this with rfl | rfl
        · exact absurd e1 (by decide)
        · exact absurd e1 (by decide)
    rw [e2, p_bind, if_pos p_z00]
    rcases nn with q | q
    · rw [if_pos q]
      exact p_no64 hr (j := 0) (by decide) (by decide)
    · rw [if_neg q.1, if_neg q.2]
      exact p_no64 hr (j := 0) (by decide) (by decide)
end STAYS
