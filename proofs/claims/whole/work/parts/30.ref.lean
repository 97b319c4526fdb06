/-! THE REFERENCE: what each small function of it answers, of a row that is S -/
theorem p_hasX : ∀ c, c < 512 → ∀ d, d < 31 → f_X6_has (nI c) (nI d) = some (p_b (c.testBit d)) := by decide +kernel
theorem p_bitsX : ∀ c, c < 512 → f_X6_bits (nI c) = some (nI (p_cf (fun d => c.testBit d) 9 0)) := by decide +kernel
theorem p_takesX : ∀ k, k < 7 → ∀ z, z < 10 → (if (nI k) = (1) then (some (1 : Int32)) else (if (nI k) = (2) then (some (3 : Int32)) else (if (nI k) = (3) then (some ((2 : Int32) * (nI z))) else (if (nI k) = (4) then (some (((2 : Int32) * (nI z)) + (3 : Int32))) else (if (nI k) = (5) then (some (if (1 : Int32) < ((nI z) / (2 : Int32)) then ((nI z) / (2 : Int32)) else (1 : Int32))) else (if (nI k) = (6) then (some (6 : Int32)) else (some (nI z)))))))) = some (nI (p_on k z)) := by decide +kernel
theorem p_wantsX : ∀ k, k < 7 → (if (nI k) = (1 : Int32) then (some (2 : Int32)) else (Option.bind (f_X6_isUnder (nI k) (3 : Int32)) (fun u2 => (if u2 = 0 then (some (0 : Int32)) else (some (1 : Int32)))))) = some (nI (p_want k)) := by decide +kernel
theorem p_voicX : ∀ k, k < 7 → (if (nI k) = (1 : Int32) then (some (1 : Int32)) else (some (0 : Int32))) = some (nI (p_voi k)) := by decide +kernel
theorem p_under6 : ∀ k, k < 7 → ∀ t, t < 7 → f_X6_isUnder (nI k) (nI t) = some (p_b (p_und k t)) := by decide +kernel
theorem p_q68 {α : Type} (i : Nat) (h : i < 68) (A : Option α) : q_ix (nI i) 68 A = A := p_ix h (by decide) A
theorem p_withY {x a n : Nat} (ha : a ≤ x) (hx : x ≤ n) (hn : n < 2 ^ 31) : f_X6_within (nI x) (nI a) (nI n) = some 1 := by
  unfold f_X6_within
  rw [if_neg (nI_nlt ha (by omega)), if_neg (nI_nlt hx hn)]
theorem p_dec (n : Nat) (h : 0 < n) (_ : n < 513) : nI n - (1 : Int32) = nI (n - 1) := by
  obtain ⟨m, rfl⟩ := p_suc h
  exact nI_pred m
section REF
variable {M : q_St} {S : p_S}
theorem bN_isDoll (h : p_RN (M.2 0) S) (g : p_Good S) {d : Nat} (hd : d < p_nd S) : f_X6_isDoll M (nI d) = some 1 := by
  have h8 := g.1
  unfold f_X6_isDoll
  rw [show ∀ A : Option Int32, q_ix (0 : Int32) 68 A = A from p_q68 0 (by decide), show (0 : Int32).toNatClampNeg = 0 from rfl, h.1, p_dec _ (by omega) (by omega)]
  rw [show f_X6_within (nI d) (0 : Int32) (nI (p_nd S - 1)) = some 1 from p_withY (a := 0) (by omega) (by omega) (by omega), p_bind]
  rfl
theorem bN_at (h : p_RN (M.2 0) S) (g : p_Good S) {d : Nat} (hd : d < p_nd S) (f : Nat) (hf : f < 3) : f_X6_dollIs M (nI d) (nI f) = some (M.2 0 (20 + 3 * d + f)) := by
  have h8 := g.1
  unfold f_X6_dollIs f_X6_at
  have e : ((20 : Int32) + ((3 : Int32) * nI d)) + nI f = nI (20 + 3 * d + f) := by
    rw [← p_add, ← p_add, ← p_mul]; rfl
  rw [p_bind, e, p_q68 _ (by omega), nI_clamp (by omega)]
theorem bN_kind (h : p_RN (M.2 0) S) (g : p_Good S) {d : Nat} (hd : d < p_nd S) : f_X6_dollIs M (nI d) (0 : Int32) = some (nI (p_k S d)) := by
  rw [show f_X6_dollIs M (nI d) (0 : Int32) = _ from bN_at h g hd 0 (by decide)]
  exact congrArg some (h.2.2.2.2.2.2.2.2.2.2.1 d hd).1
theorem bN_size (h : p_RN (M.2 0) S) (g : p_Good S) {d : Nat} (hd : d < p_nd S) : f_X6_dollIs M (nI d) (1 : Int32) = some (nI (p_z S d)) := by
  rw [show f_X6_dollIs M (nI d) (1 : Int32) = _ from bN_at h g hd 1 (by decide)]
  rw [show 20 + 3 * d + 1 = 21 + 3 * d by omega]
  exact congrArg some (h.2.2.2.2.2.2.2.2.2.2.1 d hd).2.1
theorem bN_hook (h : p_RN (M.2 0) S) (g : p_Good S) {d : Nat} (hd : d < p_nd S) : f_X6_dollIs M (nI d) (2 : Int32) = some (nI (p_h S d)) := by
  rw [show f_X6_dollIs M (nI d) (2 : Int32) = _ from bN_at h g hd 2 (by decide)]
  rw [show 20 + 3 * d + 2 = 22 + 3 * d by omega]
  exact congrArg some (h.2.2.2.2.2.2.2.2.2.2.1 d hd).2.2
theorem bN_wants (h : p_RN (M.2 0) S) (g : p_Good S) {d : Nat} (hd : d < p_nd S) : f_X6_wants M (nI d) = some (nI (p_w S d)) := by
  unfold f_X6_wants
  rw [bN_kind h g hd, p_bind]
  exact p_wantsX _ (g.d hd).1
theorem bN_takesOn (h : p_RN (M.2 0) S) (g : p_Good S) {d : Nat} (hd : d < p_nd S) : f_X6_takesOn M (nI d) = some (nI (p_o S d)) := by
  have := g.d hd
  unfold f_X6_takesOn
  rw [bN_size h g hd, p_bind, bN_kind h g hd, p_bind]
  exact p_takesX _ this.1 _ (by omega)
theorem bN_voice (h : p_RN (M.2 0) S) (g : p_Good S) {d : Nat} (hd : d < p_nd S) : f_X6_voice M (nI d) = some (nI (p_voi (p_k S d))) := by
  unfold f_X6_voice
  rw [bN_kind h g hd, p_bind]
  exact p_voicX _ (g.d hd).1
theorem bN_isBeat (h : p_RN (M.2 0) S) (g : p_Good S) {k : Nat} (hk : k < p_nb S) : f_X6_isBeat M (nI k) = some 1 := by
  have h8 := g.2.1
  unfold f_X6_isBeat
  rw [show ∀ A : Option Int32, q_ix (1 : Int32) 68 A = A from p_q68 1 (by decide), show (1 : Int32).toNatClampNeg = 1 from rfl, h.2.1, p_dec _ (by omega) (by omega)]
  rw [show f_X6_within (nI k) (0 : Int32) (nI (p_nb S - 1)) = some 1 from p_withY (a := 0) (by omega) (by omega) (by omega), p_bind]
  rfl
theorem bN_maySpeak (h : p_RN (M.2 0) S) (g : p_Good S) {c : Nat} (hc : c ≤ p_nd S) : f_X6_maySpeak M (p_hc c) = some 1 := by
  have h8 := g.1
  unfold f_X6_maySpeak
  cases c with
  | zero => rw [p_hc0, if_pos rfl]
  | succ d =>
    rw [if_neg (show ¬ p_hc (d + 1) = (-1 : Int32) from fun e => absurd ((p_hc_m1 (by omega)).mp e) (by omega))]
    rw [show f_X6_isDoll M (p_hc (d + 1)) = some 1 from bN_isDoll h g (by omega), p_bind, if_neg (show ¬ (1 : Int32) = 0 by decide)]
theorem bN_cast (h : p_RN (M.2 0) S) {k : Nat} (hk : k < p_nb S) : M.2 0 (44 + k) = nI (p_c S k) := (h.2.2.2.2.2.2.2.2.2.2.2.1 k hk).1
theorem bN_speaks (h : p_RN (M.2 0) S) {k : Nat} (hk : k < p_nb S) : M.2 0 (56 + k) = p_hc (p_s S k) := (h.2.2.2.2.2.2.2.2.2.2.2.1 k hk).2
end REF
