/-! changes of the state, and the class's booth that makes them -/
def p_u1 (S : p_S) (i v : Nat) : p_S := ((fun j => if j = i then v else S.1 j), S.2)
def p_u2 (S : p_S) (r k v : Nat) : p_S := (S.1, (fun a b => if a = r ∧ b = k then v else S.2.1 a b), S.2.2)
def p_u3 (S : p_S) (i : Nat) (x : Int32) : p_S := (S.1, S.2.1, fun j => if j = i then x else S.2.2 j)
def p_sw (S : p_S) (a b : Nat) : p_S := (S.1, (fun r j => if r = 2 ∧ j = b then p_h S a else if r = 2 ∧ j = a then p_h S b else S.2.1 r j), S.2.2)
def p_addD (S : p_S) (k z : Nat) : p_S := ((fun i => if i = 0 then p_nd S + 1 else S.1 i), (fun r j => if r < 3 ∧ j = p_nd S then (if r = 0 then k else if r = 1 then z else p_nd S) else S.2.1 r j), S.2.2)
def p_addB (S : p_S) (c s : Nat) : p_S := ((fun i => if i = 1 then p_nb S + 1 else S.1 i), (fun r j => if (r = 3 ∨ r = 4) ∧ j = p_nb S then (if r = 3 then c else s) else S.2.1 r j), S.2.2)
/-- of the beats those of a list of numbers alone -/
def p_sel (S : p_S) (L : List Nat) : p_S := ((fun i => if i = 1 then L.length else S.1 i), (fun r j => if r = 3 ∨ r = 4 then S.2.1 r (L.getD j 0) else S.2.1 r j), S.2.2)
def p_put (S : p_S) (hand c : Nat) : p_S := if S.1 (2 + hand) = c then S else ((fun i => if i = 2 + hand then c else S.1 i), S.2.1, fun i => if i = 1 then S.2.2 1 + 1 else if i = 2 then S.2.2 2 + nI (p_pr S c 1) else S.2.2 i)
/-! they keep it good -/
theorem p_Good.t {S : p_S} (g : p_Good S) {i : Nat} (hi : i < 10) : p_t S i ≤ p_nd S := g.2.2.2.2.2.2.2.2 i hi
theorem g_kind {S : p_S} (g : p_Good S) {d v : Nat} (hv : v < 7) : p_Good (p_u2 S 0 d v) :=
  ⟨g.1, g.2.1, g.2.2.1, g.2.2.2.1, g.2.2.2.2.1, g.2.2.2.2.2.1, fun e he => by
    have := g.d he
    refine ⟨?_, this.2⟩
    show (if 0 = 0 ∧ e = d then v else p_k S e) < 7
    split
    · exact hv
    · exact this.1, g.2.2.2.2.2.2.2.1, g.2.2.2.2.2.2.2.2⟩
theorem g_size {S : p_S} (g : p_Good S) {d v : Nat} (h1 : 1 ≤ v) (hv : v ≤ 9) : p_Good (p_u2 S 1 d v) :=
  ⟨g.1, g.2.1, g.2.2.1, g.2.2.2.1, g.2.2.2.2.1, g.2.2.2.2.2.1, fun e he => by
    have := g.d he
    refine ⟨this.1, ?_, ?_, this.2.2.2⟩
    · show 1 ≤ (if 1 = 1 ∧ e = d then v else p_z S e)
      split
      · exact h1
      · exact this.2.1
    · show (if 1 = 1 ∧ e = d then v else p_z S e) ≤ 9
      split
      · exact hv
      · exact this.2.2.1, g.2.2.2.2.2.2.2.1, g.2.2.2.2.2.2.2.2⟩
theorem g_sw {S : p_S} (g : p_Good S) {a b : Nat} (ha : a < p_nd S) (hb : b < p_nd S) : p_Good (p_sw S a b) :=
  ⟨g.1, g.2.1, g.2.2.1, g.2.2.2.1, g.2.2.2.2.1, g.2.2.2.2.2.1, fun e he => by
    have := g.d he
    refine ⟨this.1, this.2.1, this.2.2.1, ?_⟩
    show (if 2 = 2 ∧ e = b then p_h S a else if 2 = 2 ∧ e = a then p_h S b else p_h S e) < 8
    split
    · exact (g.d ha).2.2.2
    · split
      · exact (g.d hb).2.2.2
      · exact this.2.2.2, g.2.2.2.2.2.2.2.1, g.2.2.2.2.2.2.2.2⟩
theorem g_lea {S : p_S} (g : p_Good S) {v : Nat} (hv : v ≤ 10) : p_Good (p_u1 S 4 v) :=
  ⟨g.1, g.2.1, g.2.2.1, g.2.2.2.1, g.2.2.2.2.1, hv, g.2.2.2.2.2.2.1, g.2.2.2.2.2.2.2.1, g.2.2.2.2.2.2.2.2⟩
theorem g_u3 {S : p_S} (g : p_Good S) (i : Nat) (x : Int32) : p_Good (p_u3 S i x) := g
theorem g_cast {S : p_S} (g : p_Good S) {k v : Nat} (hv : v < 2 ^ p_nd S) : p_Good (p_u2 S 3 k v) :=
  ⟨g.1, g.2.1, g.2.2.1, g.2.2.2.1, g.2.2.2.2.1, g.2.2.2.2.2.1, g.2.2.2.2.2.2.1, fun e he => by
    have := g.k he
    refine ⟨?_, this.2⟩
    show (if 3 = 3 ∧ e = k then v else p_c S e) < 2 ^ p_nd S
    split
    · exact hv
    · exact this.1, g.2.2.2.2.2.2.2.2⟩
theorem g_spk {S : p_S} (g : p_Good S) {k v : Nat} (hv : v ≤ p_nd S) : p_Good (p_u2 S 4 k v) :=
  ⟨g.1, g.2.1, g.2.2.1, g.2.2.2.1, g.2.2.2.2.1, g.2.2.2.2.2.1, g.2.2.2.2.2.2.1, fun e he => by
    have := g.k he
    refine ⟨this.1, ?_⟩
    show (if 4 = 4 ∧ e = k then v else p_s S e) ≤ p_nd S
    split
    · exact hv
    · exact this.2, g.2.2.2.2.2.2.2.2⟩
theorem g_spot {S : p_S} (g : p_Good S) {i v : Nat} (hv : v ≤ p_nd S) : p_Good (p_u2 S 5 i v) :=
  ⟨g.1, g.2.1, g.2.2.1, g.2.2.2.1, g.2.2.2.2.1, g.2.2.2.2.2.1, g.2.2.2.2.2.2.1, g.2.2.2.2.2.2.2.1, fun e he => by
    have := g.t he
    show (if 5 = 5 ∧ e = i then v else p_t S e) ≤ p_nd S
    split
    · exact hv
    · exact this⟩
theorem g_addD {S : p_S} (g : p_Good S) {k z : Nat} (h7 : p_nd S < 8) (hk : k < 7) (h1 : 1 ≤ z) (h9 : z ≤ 9) : p_Good (p_addD S k z) := by
  have h2 := g.2.2.1
  have h3 := g.2.2.2.1
  refine ⟨(show p_nd S + 1 ≤ 8 by omega), g.2.1, (show p_l S ≤ p_nd S + 1 by omega), (show p_r S ≤ p_nd S + 1 by omega), g.2.2.2.2.1, g.2.2.2.2.2.1, (fun e he => ?_), (fun e he => ?_), (fun e he => ?_)⟩
  · have he : e < p_nd S + 1 := he
    show (if 0 < 3 ∧ e = p_nd S then k else p_k S e) < 7 ∧ 1 ≤ (if 1 < 3 ∧ e = p_nd S then z else p_z S e) ∧ (if 1 < 3 ∧ e = p_nd S then z else p_z S e) ≤ 9 ∧ (if 2 < 3 ∧ e = p_nd S then p_nd S else p_h S e) < 8
    by_cases q : e = p_nd S
    · rw [if_pos ⟨by omega, q⟩, if_pos ⟨by omega, q⟩, if_pos ⟨by omega, q⟩]
      exact ⟨hk, h1, h9, h7⟩
    · rw [if_neg (fun z => q z.2), if_neg (fun z => q z.2), if_neg (fun z => q z.2)]
      exact g.d (by omega)
  · have := g.k he
    refine ⟨Nat.lt_of_lt_of_le this.1 (Nat.pow_le_pow_right (by decide) (show p_nd S ≤ p_nd S + 1 by omega)), ?_⟩
    show p_s S e ≤ p_nd S + 1
    omega
  · have := g.t he
    show p_t S e ≤ p_nd S + 1
    omega
theorem g_addB {S : p_S} (g : p_Good S) {c s : Nat} (h12 : p_nb S < 12) (hc : c < 2 ^ p_nd S) (hs : s ≤ p_nd S) : p_Good (p_addB S c s) := by
  refine ⟨g.1, (show p_nb S + 1 ≤ 12 by omega), g.2.2.1, g.2.2.2.1, g.2.2.2.2.1, g.2.2.2.2.2.1, g.2.2.2.2.2.2.1, (fun e he => ?_), g.2.2.2.2.2.2.2.2⟩
  have he : e < p_nb S + 1 := he
  show (if (3 = 3 ∨ 3 = 4) ∧ e = p_nb S then c else p_c S e) < 2 ^ p_nd S ∧ (if (4 = 3 ∨ 4 = 4) ∧ e = p_nb S then s else p_s S e) ≤ p_nd S
  by_cases q : e = p_nb S
  · rw [if_pos ⟨Or.inl rfl, q⟩, if_pos ⟨Or.inr rfl, q⟩]
    exact ⟨hc, hs⟩
  · rw [if_neg (fun z => q z.2), if_neg (fun z => q z.2)]
    exact g.k (by omega)
theorem g_sel {S : p_S} (g : p_Good S) {L : List Nat} (hl : L.length ≤ 12) (h : ∀ i, i ∈ L → i < p_nb S) : p_Good (p_sel S L) := by
  refine ⟨g.1, (show L.length ≤ 12 from hl), g.2.2.1, g.2.2.2.1, g.2.2.2.2.1, g.2.2.2.2.2.1, g.2.2.2.2.2.2.1, (fun e he => ?_), g.2.2.2.2.2.2.2.2⟩
  have he : e < L.length := he
  show p_c S (L.getD e 0) < 2 ^ p_nd S ∧ p_s S (L.getD e 0) ≤ p_nd S
  refine g.k (h _ ?_)
  rw [show L.getD e 0 = L[e] by simp [List.getD, List.getElem?_eq_getElem he]]
  exact List.getElem_mem he
theorem g_put {S : p_S} (g : p_Good S) {hand c : Nat} (hh : hand < 2) (hc : c ≤ p_nd S) (ho : c = S.1 (3 - hand) → c = 0) : p_Good (p_put S hand c) := by
  unfold p_put
  split
  · exact g
  · have h1 : hand = 0 ∨ hand = 1 := by omega
    have g4 := g.2.2.2.2.1
    rcases h1 with rfl | rfl
    · exact ⟨g.1, g.2.1, hc, g.2.2.2.1, ho, g.2.2.2.2.2.1, g.2.2.2.2.2.2.1, g.2.2.2.2.2.2.2.1, g.2.2.2.2.2.2.2.2⟩
    · exact ⟨g.1, g.2.1, g.2.2.1, hc, (fun (q : p_l S = c) => (show p_l S = 0 by rw [q]; exact ho q.symm)), g.2.2.2.2.2.1, g.2.2.2.2.2.2.1, g.2.2.2.2.2.2.2.1, g.2.2.2.2.2.2.2.2⟩
/-! the class's booth -/
theorem q7_cg {τ : Type} (n : Int32) (m : Nat) (A : Option τ) (h : ¬ ((0 : Int32) < 0 ∨ (0 : Int32) < 0 ∨ n < 0 ∨ m < (0 : Int32).toNatClampNeg + n.toNatClampNeg ∨ m < (0 : Int32).toNatClampNeg + n.toNatClampNeg)) : q_cg 0 0 n m m A = A := if_neg h
theorem q7_cpy {f g : Nat → Int32} {n d : Nat} (h : d < n) : va_cpy f g (0 : Int32).toNatClampNeg (0 : Int32).toNatClampNeg n d = f d := by
  show (if 0 ≤ d ∧ d < 0 + n then f (0 + (d - 0)) else g d) = f d
  rw [if_pos (by omega)]
  congr 1
  omega
section UPD
variable {B : q_St} {S : p_S}
theorem p_RB.t (h : p_RB B S) {i : Nat} (hi : i < 10) : B.2 15 i = p_hc (p_t S i) := h.2.2.2.2.2.2.2.2.2.2.2.2 i hi
theorem uX_take {B0 : q_St} (h : p_RB B S) (g : p_Good S) : p_wp (f_X0_take B0 B) (fun B' => p_RB B' S) := by
  have h8 := g.1
  have h9 := g.2.1
  unfold f_X0_take
  rw [q7_cg 8 8 _ (by decide), q7_cg 8 8 _ (by decide), q7_cg 8 8 _ (by decide), q7_cg 12 12 _ (by decide), q7_cg 12 12 _ (by decide), q7_cg 10 10 _ (by decide), p_wp_some]
  refine ⟨h.1, h.2.1, h.2.2.1, h.2.2.2.1, h.2.2.2.2.1, h.2.2.2.2.2.1, h.2.2.2.2.2.2.1, h.2.2.2.2.2.2.2.1, h.2.2.2.2.2.2.2.2.1, h.2.2.2.2.2.2.2.2.2.1, (fun d hd => ?_), (fun k hk => ?_), (fun i hi => ?_)⟩
  · have := h.d hd
    refine ⟨?_, ?_, ?_⟩
    · show va_cpy (B.2 10) (B0.2 10) (0 : Int32).toNatClampNeg (0 : Int32).toNatClampNeg 8 d = _
      rw [q7_cpy (by omega)]; exact this.1
    · show va_cpy (B.2 11) (B0.2 11) (0 : Int32).toNatClampNeg (0 : Int32).toNatClampNeg 8 d = _
      rw [q7_cpy (by omega)]; exact this.2.1
    · show va_cpy (B.2 12) (B0.2 12) (0 : Int32).toNatClampNeg (0 : Int32).toNatClampNeg 8 d = _
      rw [q7_cpy (by omega)]; exact this.2.2
  · have := h.k hk
    refine ⟨?_, ?_⟩
    · show va_cpy (B.2 13) (B0.2 13) (0 : Int32).toNatClampNeg (0 : Int32).toNatClampNeg 12 k = _
      rw [q7_cpy (by omega)]; exact this.1
    · show va_cpy (B.2 14) (B0.2 14) (0 : Int32).toNatClampNeg (0 : Int32).toNatClampNeg 12 k = _
      rw [q7_cpy (by omega)]; exact this.2
  · show va_cpy (B.2 15) (B0.2 15) (0 : Int32).toNatClampNeg (0 : Int32).toNatClampNeg 10 i = _
    rw [q7_cpy hi]; exact h.t hi
theorem uX_kind (h : p_RB B S) (g : p_Good S) {d v : Nat} (hd : d < p_nd S) : p_wp (f_X0_setKind B (nI d) (nI v)) (fun B' => p_RB B' (p_u2 S 0 d v)) := by
  have h8 := g.1
  unfold f_X0_setKind
  rw [bX_isDoll h g hd, p_bind, if_neg (by decide), p_ix (by omega) (by omega), p_cl (by omega), p_wp_some]
  refine ⟨h.1, h.2.1, h.2.2.1, h.2.2.2.1, h.2.2.2.2.1, h.2.2.2.2.2.1, h.2.2.2.2.2.2.1, h.2.2.2.2.2.2.2.1, h.2.2.2.2.2.2.2.2.1, h.2.2.2.2.2.2.2.2.2.1, (fun e he => ?_), h.2.2.2.2.2.2.2.2.2.2.2.1, h.2.2.2.2.2.2.2.2.2.2.2.2⟩
  have := h.d he
  refine ⟨?_, this.2.1, this.2.2⟩
  show upd (B.2 10) d (nI v) e = nI (if 0 = 0 ∧ e = d then v else p_k S e)
  by_cases q : e = d
  · rw [q, pk_us, if_pos ⟨rfl, rfl⟩]
  · rw [pk_un q, if_neg (fun z => q z.2)]; exact this.1
theorem uX_size (h : p_RB B S) (g : p_Good S) {d v : Nat} (hd : d < p_nd S) : p_wp (f_X0_setSize B (nI d) (nI v)) (fun B' => p_RB B' (p_u2 S 1 d v)) := by
  have h8 := g.1
  unfold f_X0_setSize
  rw [bX_isDoll h g hd, p_bind, if_neg (by decide), p_ix (by omega) (by omega), p_cl (by omega), p_wp_some]
  refine ⟨h.1, h.2.1, h.2.2.1, h.2.2.2.1, h.2.2.2.2.1, h.2.2.2.2.2.1, h.2.2.2.2.2.2.1, h.2.2.2.2.2.2.2.1, h.2.2.2.2.2.2.2.2.1, h.2.2.2.2.2.2.2.2.2.1, (fun e he => ?_), h.2.2.2.2.2.2.2.2.2.2.2.1, h.2.2.2.2.2.2.2.2.2.2.2.2⟩
  have := h.d he
  refine ⟨this.1, ?_, this.2.2⟩
  show upd (B.2 11) d (nI v) e = nI (if 1 = 1 ∧ e = d then v else p_z S e)
  by_cases q : e = d
  · rw [q, pk_us, if_pos ⟨rfl, rfl⟩]
  · rw [pk_un q, if_neg (fun z => q z.2)]; exact this.2.1
theorem uX_swap (h : p_RB B S) (g : p_Good S) {a b : Nat} (ha : a < p_nd S) (hb : b < p_nd S) : p_wp (f_X0_swapHooks B (nI a) (nI b)) (fun B' => p_RB B' (p_sw S a b)) := by
  have h8 := g.1
  unfold f_X0_swapHooks
  rw [bX_isDoll h g ha, p_bind, if_neg (by decide), bX_isDoll h g hb, p_bind, if_neg (by decide), p_ix (by omega) (by omega), p_ix (by omega) (by omega), p_ix (by omega) (by omega), p_ix (by omega) (by omega), p_cl (by omega), p_cl (by omega), p_wp_some]
  refine ⟨h.1, h.2.1, h.2.2.1, h.2.2.2.1, h.2.2.2.2.1, h.2.2.2.2.2.1, h.2.2.2.2.2.2.1, h.2.2.2.2.2.2.2.1, h.2.2.2.2.2.2.2.2.1, h.2.2.2.2.2.2.2.2.2.1, (fun e he => ?_), h.2.2.2.2.2.2.2.2.2.2.2.1, h.2.2.2.2.2.2.2.2.2.2.2.2⟩
  have := h.d he
  refine ⟨this.1, this.2.1, ?_⟩
  show upd (upd (B.2 12) a (B.2 12 b)) b (B.2 12 a) e = nI (if 2 = 2 ∧ e = b then p_h S a else if 2 = 2 ∧ e = a then p_h S b else p_h S e)
  by_cases q : e = b
  · rw [q, pk_us, if_pos ⟨rfl, rfl⟩]; exact (h.d ha).2.2
  · rw [pk_un q, if_neg (fun z => q z.2)]
    by_cases q2 : e = a
    · rw [q2, pk_us, if_pos ⟨rfl, rfl⟩]; exact (h.d hb).2.2
    · rw [pk_un q2, if_neg (fun z => q2 z.2)]; exact this.2.2
theorem uX_cast (h : p_RB B S) (g : p_Good S) {k v : Nat} (hk : k < p_nb S) : p_wp (f_X0_setCast B (nI k) (nI v)) (fun B' => p_RB B' (p_u2 S 3 k v)) := by
  have h8 := g.2.1
  unfold f_X0_setCast
  rw [bX_isBeat h g hk, p_bind, if_neg (by decide), p_ix (by omega) (by omega), p_cl (by omega), p_wp_some]
  refine ⟨h.1, h.2.1, h.2.2.1, h.2.2.2.1, h.2.2.2.2.1, h.2.2.2.2.2.1, h.2.2.2.2.2.2.1, h.2.2.2.2.2.2.2.1, h.2.2.2.2.2.2.2.2.1, h.2.2.2.2.2.2.2.2.2.1, h.2.2.2.2.2.2.2.2.2.2.1, (fun e he => ?_), h.2.2.2.2.2.2.2.2.2.2.2.2⟩
  have := h.k he
  refine ⟨?_, this.2⟩
  show upd (B.2 13) k (nI v) e = nI (if 3 = 3 ∧ e = k then v else p_c S e)
  by_cases q : e = k
  · rw [q, pk_us, if_pos ⟨rfl, rfl⟩]
  · rw [pk_un q, if_neg (fun z => q z.2)]; exact this.1
theorem uX_spk (h : p_RB B S) (g : p_Good S) {k v : Nat} (hk : k < p_nb S) : p_wp (f_X0_setSpeaker B (nI k) (p_hc v)) (fun B' => p_RB B' (p_u2 S 4 k v)) := by
  have h8 := g.2.1
  unfold f_X0_setSpeaker
  rw [bX_isBeat h g hk, p_bind, if_neg (by decide), p_ix (by omega) (by omega), p_cl (by omega), p_wp_some]
  refine ⟨h.1, h.2.1, h.2.2.1, h.2.2.2.1, h.2.2.2.2.1, h.2.2.2.2.2.1, h.2.2.2.2.2.2.1, h.2.2.2.2.2.2.2.1, h.2.2.2.2.2.2.2.2.1, h.2.2.2.2.2.2.2.2.2.1, h.2.2.2.2.2.2.2.2.2.2.1, (fun e he => ?_), h.2.2.2.2.2.2.2.2.2.2.2.2⟩
  have := h.k he
  refine ⟨this.1, ?_⟩
  show upd (B.2 14) k (p_hc v) e = p_hc (if 4 = 4 ∧ e = k then v else p_s S e)
  by_cases q : e = k
  · rw [q, pk_us, if_pos ⟨rfl, rfl⟩]
  · rw [pk_un q, if_neg (fun z => q z.2)]; exact this.2
theorem uX_spot (h : p_RB B S) (g : p_Good S) {i v : Nat} (hi : i < 10) : p_wp (f_X0_setSpot B (nI i) (p_hc v)) (fun B' => p_RB B' (p_u2 S 5 i v)) := by
  unfold f_X0_setSpot f_X0_isSpot
  rw [if_neg (nI_pos (by omega)), if_neg (show ¬ (10 : Int32) ≤ nI i from nI_ge (b := 10) hi (by omega)), p_bind, if_neg (by decide), p_ix hi (by omega), p_cl (by omega), p_wp_some]
  refine ⟨h.1, h.2.1, h.2.2.1, h.2.2.2.1, h.2.2.2.2.1, h.2.2.2.2.2.1, h.2.2.2.2.2.2.1, h.2.2.2.2.2.2.2.1, h.2.2.2.2.2.2.2.2.1, h.2.2.2.2.2.2.2.2.2.1, h.2.2.2.2.2.2.2.2.2.2.1, h.2.2.2.2.2.2.2.2.2.2.2.1, (fun e he => ?_)⟩
  have := h.t he
  show upd (B.2 15) i (p_hc v) e = p_hc (if 5 = 5 ∧ e = i then v else p_t S e)
  by_cases q : e = i
  · rw [q, pk_us, if_pos ⟨rfl, rfl⟩]
  · rw [pk_un q, if_neg (fun z => q z.2)]; exact this
theorem uX_lea (h : p_RB B S) (v : Nat) : p_RB (va_up B.1 4 (nI v), B.2) (p_u1 S 4 v) := ⟨h.1, h.2.1, h.2.2.1, h.2.2.2.1, rfl, h.2.2.2.2.2.1, h.2.2.2.2.2.2.1, h.2.2.2.2.2.2.2.1, h.2.2.2.2.2.2.2.2.1, h.2.2.2.2.2.2.2.2.2.1, h.2.2.2.2.2.2.2.2.2.2.1, h.2.2.2.2.2.2.2.2.2.2.2.1, h.2.2.2.2.2.2.2.2.2.2.2.2⟩
theorem uX_seed (h : p_RB B S) (v : Int32) : p_RB (va_up B.1 5 v, B.2) (p_u3 S 0 v) := ⟨h.1, h.2.1, h.2.2.1, h.2.2.2.1, h.2.2.2.2.1, rfl, h.2.2.2.2.2.2.1, h.2.2.2.2.2.2.2.1, h.2.2.2.2.2.2.2.2.1, h.2.2.2.2.2.2.2.2.2.1, h.2.2.2.2.2.2.2.2.2.2.1, h.2.2.2.2.2.2.2.2.2.2.2.1, h.2.2.2.2.2.2.2.2.2.2.2.2⟩
theorem uX_addD (h : p_RB B S) (g : p_Good S) {k : Nat} (h7 : p_nd S < 8) : p_wp (f_X0_addDoll B (nI k)) (fun q => q.1 = nI (p_nd S) ∧ p_RB q.2 (p_addD S k 3)) := by
  unfold f_X0_addDoll
  rw [h.1, if_neg (nI_pos (by omega)), if_pos (show nI (p_nd S) < (8 : Int32) from nI_lt (b := 8) h7 (by omega)), p_ix h7 (by omega), p_ix h7 (by omega), p_ix h7 (by omega), p_cl (by omega), p_wp_some, nI_1]
  refine ⟨nI_pred _, ?_⟩
  refine ⟨rfl, h.2.1, h.2.2.1, h.2.2.2.1, h.2.2.2.2.1, h.2.2.2.2.2.1, h.2.2.2.2.2.2.1, h.2.2.2.2.2.2.2.1, h.2.2.2.2.2.2.2.2.1, h.2.2.2.2.2.2.2.2.2.1, (fun e he => ?_), h.2.2.2.2.2.2.2.2.2.2.2.1, h.2.2.2.2.2.2.2.2.2.2.2.2⟩
  have he : e < p_nd S + 1 := he
  show upd (B.2 10) (p_nd S) (nI k) e = nI (if 0 < 3 ∧ e = p_nd S then k else p_k S e) ∧ upd (B.2 11) (p_nd S) 3 e = nI (if 1 < 3 ∧ e = p_nd S then 3 else p_z S e) ∧ upd (B.2 12) (p_nd S) (nI (p_nd S)) e = nI (if 2 < 3 ∧ e = p_nd S then p_nd S else p_h S e)
  by_cases q : e = p_nd S
  · rw [if_pos ⟨by omega, q⟩, if_pos ⟨by omega, q⟩, if_pos ⟨by omega, q⟩, q, pk_us, pk_us, pk_us]
    exact ⟨rfl, rfl, rfl⟩
  · rw [if_neg (fun z => q z.2), if_neg (fun z => q z.2), if_neg (fun z => q z.2), pk_un q, pk_un q, pk_un q]
    exact h.d (by omega)
theorem uX_addB (h : p_RB B S) (g : p_Good S) {c s : Nat} (h12 : p_nb S < 12) : p_wp (f_X0_addBeat B (nI c) (p_hc s)) (fun q => q.1 = nI (p_nb S) ∧ p_RB q.2 (p_addB S c s)) := by
  unfold f_X0_addBeat
  rw [h.2.1, if_neg (nI_pos (by omega)), if_pos (show nI (p_nb S) < (12 : Int32) from nI_lt (b := 12) h12 (by omega)), p_ix h12 (by omega), p_ix h12 (by omega), p_cl (by omega), p_wp_some, nI_1]
  refine ⟨nI_pred _, ?_⟩
  refine ⟨h.1, rfl, h.2.2.1, h.2.2.2.1, h.2.2.2.2.1, h.2.2.2.2.2.1, h.2.2.2.2.2.2.1, h.2.2.2.2.2.2.2.1, h.2.2.2.2.2.2.2.2.1, h.2.2.2.2.2.2.2.2.2.1, h.2.2.2.2.2.2.2.2.2.2.1, (fun e he => ?_), h.2.2.2.2.2.2.2.2.2.2.2.2⟩
  have he : e < p_nb S + 1 := he
  show upd (B.2 13) (p_nb S) (nI c) e = nI (if (3 = 3 ∨ 3 = 4) ∧ e = p_nb S then c else p_c S e) ∧ upd (B.2 14) (p_nb S) (p_hc s) e = p_hc (if (4 = 3 ∨ 4 = 4) ∧ e = p_nb S then s else p_s S e)
  by_cases q : e = p_nb S
  · rw [if_pos ⟨Or.inl rfl, q⟩, if_pos ⟨Or.inr rfl, q⟩, q, pk_us, pk_us]
    exact ⟨rfl, rfl⟩
  · rw [if_neg (fun z => q z.2), if_neg (fun z => q z.2), pk_un q, pk_un q]
    exact h.k (by omega)
theorem bX_inHand (h : p_RB B S) {hand : Nat} (hh : hand < 2) : f_X0_inHand B (nI hand) = some (p_hc (S.1 (2 + hand))) := by
  have h1 : hand = 0 ∨ hand = 1 := by omega
  unfold f_X0_inHand
  rcases h1 with rfl | rfl
  · rw [if_pos (show nI 0 = (0 : Int32) from rfl), h.2.2.1]
  · rw [if_neg (show ¬ nI 1 = (0 : Int32) by decide), h.2.2.2.1]
theorem uX_put (h : p_RB B S) (g : p_Good S) {hand c : Nat} (hh : hand < 2) (hc : c ≤ p_nd S) : p_wp (f_X0_putInHand B (nI hand) (p_hc c)) (fun q => q.1 = nI (if S.1 (2 + hand) = c then 0 else p_pr S c 1) ∧ p_RB q.2 (p_put S hand c)) := by
  have h8 := g.1
  have hl := g.2.2.1
  have hr := g.2.2.2.1
  have h1 : hand = 0 ∨ hand = 1 := by omega
  have hle : S.1 (2 + hand) ≤ p_nd S := by
    rcases h1 with rfl | rfl
    · exact hl
    · exact hr
  unfold f_X0_putInHand p_put
  rw [bX_inHand h hh, p_bind]
  by_cases q : S.1 (2 + hand) = c
  · rw [if_pos (congrArg p_hc q), if_pos q, if_pos q, p_wp_some]
    exact ⟨rfl, h⟩
  · rw [if_neg (fun z => q ((p_hc_eq (by omega) (by omega)).mp z)), if_neg q, if_neg q]
    rcases h1 with rfl | rfl
    · have hB : p_RB (va_up B.1 2 (p_hc c), B.2) ((fun i => if i = 2 then c else S.1 i), S.2) := ⟨h.1, h.2.1, rfl, h.2.2.2.1, h.2.2.2.2.1, h.2.2.2.2.2.1, h.2.2.2.2.2.2.1, h.2.2.2.2.2.2.2.1, h.2.2.2.2.2.2.2.2.1, h.2.2.2.2.2.2.2.2.2.1, h.2.2.2.2.2.2.2.2.2.2.1, h.2.2.2.2.2.2.2.2.2.2.2.1, h.2.2.2.2.2.2.2.2.2.2.2.2⟩
      have e : f_X0_price (va_up B.1 2 (p_hc c), B.2) (p_hc c) (nI 1) = some (nI (p_pr S c 1)) := bX_price h g hc (by decide)
      have e : f_X0_price (va_up B.1 2 (p_hc c), B.2) (p_hc c) (1 : Int32) = some (nI (p_pr S c 1)) := e
      rw [if_pos (show nI 0 = (0 : Int32) from rfl)]
      unfold f_X0_putInHand_30
      rw [e, p_bind, p_wp_some]
      refine ⟨rfl, ?_⟩
      exact ⟨hB.1, hB.2.1, hB.2.2.1, hB.2.2.2.1, hB.2.2.2.2.1, hB.2.2.2.2.2.1, (by rw [← h.2.2.2.2.2.2.1]; rfl), (by rw [← h.2.2.2.2.2.2.2.1]; rfl), hB.2.2.2.2.2.2.2.2.1, hB.2.2.2.2.2.2.2.2.2.1, hB.2.2.2.2.2.2.2.2.2.2.1, hB.2.2.2.2.2.2.2.2.2.2.2.1, hB.2.2.2.2.2.2.2.2.2.2.2.2⟩
    · have hB : p_RB (va_up B.1 3 (p_hc c), B.2) ((fun i => if i = 3 then c else S.1 i), S.2) := ⟨h.1, h.2.1, h.2.2.1, rfl, h.2.2.2.2.1, h.2.2.2.2.2.1, h.2.2.2.2.2.2.1, h.2.2.2.2.2.2.2.1, h.2.2.2.2.2.2.2.2.1, h.2.2.2.2.2.2.2.2.2.1, h.2.2.2.2.2.2.2.2.2.2.1, h.2.2.2.2.2.2.2.2.2.2.2.1, h.2.2.2.2.2.2.2.2.2.2.2.2⟩
      have e : f_X0_price (va_up B.1 3 (p_hc c), B.2) (p_hc c) (nI 1) = some (nI (p_pr S c 1)) := bX_price h g hc (by decide)
      have e : f_X0_price (va_up B.1 3 (p_hc c), B.2) (p_hc c) (1 : Int32) = some (nI (p_pr S c 1)) := e
      rw [if_neg (show ¬ nI 1 = (0 : Int32) by decide)]
      unfold f_X0_putInHand_30
      rw [e, p_bind, p_wp_some]
      refine ⟨rfl, ?_⟩
      exact ⟨hB.1, hB.2.1, hB.2.2.1, hB.2.2.2.1, hB.2.2.2.2.1, hB.2.2.2.2.2.1, (by rw [← h.2.2.2.2.2.2.1]; rfl), (by rw [← h.2.2.2.2.2.2.2.1]; rfl), hB.2.2.2.2.2.2.2.2.1, hB.2.2.2.2.2.2.2.2.2.1, hB.2.2.2.2.2.2.2.2.2.2.1, hB.2.2.2.2.2.2.2.2.2.2.2.1, hB.2.2.2.2.2.2.2.2.2.2.2.2⟩
end UPD
