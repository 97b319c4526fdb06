/-! the law: its world, and how it calls -/
theorem q_put_mid : ∀ (b a c es : List va_E), es.length = b.length → q_put (a ++ (b ++ c)) (List.range' a.length b.length) es = a ++ (es ++ c)
  | [], a, c, [], _ => by
    show (a ++ ([] ++ c)) ++ [] = a ++ ([] ++ c)
    rw [List.append_nil]
  | [], _, _, _ :: _, h => by cases h
  | _ :: _, _, _, [], h => by cases h
  | x :: b, a, c, e :: es, h => by
    have h' : es.length = b.length := Nat.succ.inj h
    have e1 : (a ++ (x :: b ++ c)).set a.length e = (a ++ [e]) ++ (b ++ c) := by
      rw [List.set_append_right _ _ (Nat.le_refl _), Nat.sub_self]
      simp
    have e2 := q_put_mid b (a ++ [e]) c es h'
    have e3 : (a ++ [e]).length = a.length + 1 := by simp
    rw [e3] at e2
    show q_put ((a ++ (x :: b ++ c)).set a.length e) (List.range' (a.length + 1) b.length) es = a ++ (e :: es ++ c)
    rw [e1, e2]
    simp
theorem q_mid_get : ∀ (b a c : List va_E), (List.range' a.length b.length).map (fun i => (a ++ (b ++ c))[i]?) = b.map some
  | [], _, _ => rfl
  | x :: b, a, c => by
    have e2 := q_mid_get b (a ++ [x]) c
    have e3 : (a ++ [x]).length = a.length + 1 := by simp
    have e4 : (a ++ [x]) ++ (b ++ c) = a ++ (x :: b ++ c) := by simp
    rw [e3, e4] at e2
    show (a ++ (x :: b ++ c))[a.length]? :: (List.range' (a.length + 1) b.length).map (fun i => (a ++ (x :: b ++ c))[i]?) = some x :: b.map some
    rw [e2]
    congr 1
    simp
def lx_sh : Nat → Nat := q_ix2 (List.range' 41 15) 56
def lx_6 (M : q_St) : List va_E := (w_X6 M).map (q_e lx_sh (fun t => t))
def lx_w (X : Nat → q_St) (M : q_St) : List va_E := w_X5 X ++ lx_6 M
theorem lx_len (X : Nat → q_St) (M : q_St) : (lx_w X M).length = 56 := by
  unfold lx_w lx_6
  rw [List.length_append, List.length_map]
  rfl
theorem lx_id : ∀ k, k < 91 → q_ix2 (List.range' 0 41) 56 k = k := by decide +kernel
theorem lx_sf : ∀ i k, q_sf i = some k → k < 91 := by
  intro i k h
  match i, h with
  | 0, h => cases h; decide
  | 1, h => cases h; decide
  | 2, h => cases h; decide
  | 3, h => cases h; decide
  | i + 4, h => cases h
theorem lx_kf : ∀ i k, q_kf i = some k → k < 65 := by
  intro i k h
  match i, h with
  | 0, h => cases h; decide
  | 1, h => cases h; decide
  | 2, h => cases h; decide
  | 3, h => cases h; decide
  | 4, h => cases h; decide
  | 5, h => cases h; decide
  | 6, h => cases h; decide
  | i + 7, h => cases h
theorem lx_ne5 (X : Nat → q_St) : ∀ x ∈ w_X5 X, q_ne 91 x := by
  unfold w_X5
  repeat (first
    | exact fun _ h => absurd h List.not_mem_nil
    | refine List.forall_mem_cons.mpr ⟨?_, ?_⟩
    | exact True.intro
    | exact lx_sf
    | exact (Eq.refl true))
theorem lx_ne6 (M : q_St) : ∀ x ∈ w_X6 M, q_ne 65 x := by
  unfold w_X6
  repeat (first
    | exact fun _ h => absurd h List.not_mem_nil
    | refine List.forall_mem_cons.mpr ⟨?_, ?_⟩
    | exact True.intro
    | exact lx_kf
    | exact (Eq.refl true))
theorem lx_id5 (X : Nat → q_St) : (w_X5 X).map (q_e (q_ix2 (List.range' 0 41) 56) (fun t => t)) = w_X5 X :=
  (List.map_congr_left (fun x hx => (q_e_re (α := fun k => k) lx_id (lx_ne5 X x hx)).trans (q_e_id x))).trans (List.map_id' _)
theorem lx_rc5 (X : Nat → q_St) (M : q_St) : q_rc (lx_w X M) 50 "PunchByHeart" := Or.inl ⟨0, 4, _, _, _, rfl, rfl, rfl⟩
theorem lx_rc6 (X : Nat → q_St) (M : q_St) : q_rc (lx_w X M) 91 "PunchByHeartModel" := Or.inl ⟨41, 5, _, _, _, rfl, rfl, rfl⟩
/-- the law's locals at the step i -/
def lx_lv (i : Nat) : List (Nat × Value) := [(3, .int (nI i)), (2, .ref 91), (1, .ref 50), (0, .ref 45)]
section LAW
variable {p : Program} {l : Launch} {e : Env} {R : Room} {s : State} {m : MethodId} {args : Array Value} {below : List Frame} {meth : Method} {c : Code} {cc : ByteArray} {nL : Nat} {own nm : String} {rtL : Option FieldType} {dC : Nat → ClassId} {dI : Nat → Nat → Nat} {dA : Nat → ClassId} {A : Nat → Prop} {α : Nat → Nat} {Q : State → Prop} {cells slots pc : Nat} {lv : List (Nat × Value)} {st : List Value} {hp : List va_E} {X : Nat → q_St} {M : q_St}
theorem lx_go {τ : Type} {u u0 : τ} {st1 st2 : List Value} {hp1 hp2 : List va_E} (h : u = u0 → st1 = st2 ∧ hp1 = hp2) (k : q_S p l e R s m args below meth c nL dC dI dA A α Q cells slots (some ()) () pc lv st2 hp2) : q_S p l e R s m args below meth c nL dC dI dA A α Q cells slots (some u) u0 pc lv st1 hp1 := by
  intro hF
  obtain ⟨rfl, rfl⟩ := h (Option.some.inj hF)
  exact k rfl
theorem lx_ints (is : List Int32) (β : Nat → Nat) : (is.map Value.int).map (q_v β) = is.map Value.int := by
  rw [List.map_map]
  rfl
theorem lx_call5 {y : MethodName} {bytes : ByteArray} {maxL n idx f lo : Nat} {rt : Option FieldType} {τc : Type} {Fc : Option τc} {rvc : τc → Option Value} {X' : τc → (Nat → q_St)} (C : q_Cx p s m args meth c cc nL own rtL nm dC dI dA A α) (is : List Int32) (hok : q_Ok l y bytes maxL rt f lo (.ref 50 :: is.map Value.int) (w_X5 X) Fc rvc (fun u => w_X5 (X' u))) (hy : q_cV y bytes maxL rt n) (hcls : y.cls = "PunchByHeart") (hlk : Cond.methodLink own idx y ∈ q_T) {u0 : τc} (e0 : Fc = some u0) (v : Value) (hv : rvc u0 = some v) (hvv : ∀ β, q_v β v = v) (rest : List Value) (hst : st = (is.map Value.int).reverse ++ .ref 50 :: rest) (hlen : is.length = n) (hcat : (rest.map fun v => v.category).sum ≤ 8) (hR : f + 1 ≤ R.frames ∧ 8 + (maxL + 11) + lo ≤ R.locals) (hce : cells ≤ R.cells ∧ slots ≤ R.slots) (d : decode cc pc = .ok (.invokevirtual idx, 3)) (k : q_S p l e R s m args below meth c nL dC dI dA A α Q cells slots (some ()) () (pc + 3) lv (v :: rest) (lx_w (X' u0) M)) : q_S p l e R s m args below meth c nL dC dI dA A α Q cells slots (some ()) () pc lv st (lx_w X M) := by
  have z : q_S p l e R s m args below meth c nL dC dI dA A α Q cells slots (Fc.bind some) u0 pc lv st (lx_w X M) := by
    refine r_callV C hok hy hlk (List.range' 0 41) (is.map Value.int) rest 50 (by rw [hcls]; exact lx_rc5 X M) (fun u => ((rvc u).map (q_v (q_ix2 (List.range' 0 41) (lx_w X M).length))).toList ++ rest) (fun u => lx_w (X' u) M) ?_ (by decide +kernel) ?_ hst (by rw [List.length_map]; exact hlen) hcat hR hce d (fun _ => rfl) (fun _ => rfl) (fun u => ?_) (fun u => ?_)
    · rw [lx_len, lx_id5]
      exact q_mid_get (w_X5 X) [] (lx_6 M)
    · rw [List.map_cons, lx_ints]
      rfl
    · rw [lx_len, lx_id5]
      exact q_put_mid (w_X5 X) [] (lx_6 M) (w_X5 (X' u)) rfl
    · refine lx_go (fun h => ?_) k
      subst h
      refine ⟨?_, rfl⟩
      rw [hv]
      show q_v _ v :: rest = v :: rest
      rw [hvv]
  exact fun _ => z (by rw [e0]; rfl)
theorem lx_call6 {y : MethodName} {bytes : ByteArray} {maxL n idx f lo : Nat} {rt : Option FieldType} {τc : Type} {Fc : Option τc} {rvc : τc → Option Value} {M' : τc → q_St} (C : q_Cx p s m args meth c cc nL own rtL nm dC dI dA A α) (is : List Int32) (hok : q_Ok l y bytes maxL rt f lo (.ref 50 :: is.map Value.int) (w_X6 M) Fc rvc (fun u => w_X6 (M' u))) (hy : q_cV y bytes maxL rt n) (hcls : y.cls = "PunchByHeartModel") (hlk : Cond.methodLink own idx y ∈ q_T) {u0 : τc} (e0 : Fc = some u0) (v : Value) (hv : rvc u0 = some v) (hvv : ∀ β, q_v β v = v) (rest : List Value) (hst : st = (is.map Value.int).reverse ++ .ref 91 :: rest) (hlen : is.length = n) (hcat : (rest.map fun v => v.category).sum ≤ 8) (hR : f + 1 ≤ R.frames ∧ 8 + (maxL + 11) + lo ≤ R.locals) (hce : cells ≤ R.cells ∧ slots ≤ R.slots) (d : decode cc pc = .ok (.invokevirtual idx, 3)) (k : q_S p l e R s m args below meth c nL dC dI dA A α Q cells slots (some ()) () (pc + 3) lv (v :: rest) (lx_w X (M' u0))) : q_S p l e R s m args below meth c nL dC dI dA A α Q cells slots (some ()) () pc lv st (lx_w X M) := by
  have z : q_S p l e R s m args below meth c nL dC dI dA A α Q cells slots (Fc.bind some) u0 pc lv st (lx_w X M) := by
    refine r_callV C hok hy hlk (List.range' 41 15) (is.map Value.int) rest 91 (by rw [hcls]; exact lx_rc6 X M) (fun u => ((rvc u).map (q_v (q_ix2 (List.range' 41 15) (lx_w X M).length))).toList ++ rest) (fun u => lx_w X (M' u)) ?_ (by decide +kernel) ?_ hst (by rw [List.length_map]; exact hlen) hcat hR hce d (fun _ => rfl) (fun _ => rfl) (fun u => ?_) (fun u => ?_)
    · have h := q_mid_get (lx_6 M) (w_X5 X) []
      rw [List.append_nil] at h
      rw [lx_len]
      exact h
    · rw [List.map_cons, lx_ints]
      rfl
    · have h := q_put_mid (lx_6 M) (w_X5 X) [] (lx_6 (M' u)) rfl
      rw [List.append_nil, List.append_nil] at h
      rw [lx_len]
      exact h
    · refine lx_go (fun h => ?_) k
      subst h
      refine ⟨?_, rfl⟩
      rw [hv]
      show q_v _ v :: rest = v :: rest
      rw [hvv]
  exact fun _ => z (by rw [e0]; rfl)
theorem lx_eq {off : Int} (tgt : Nat) {v : Int32} (C : q_Cx p s m args meth c cc nL own rtL nm dC dI dA A α) (d : decode cc pc = .ok (.if_icmp .eq off, 3)) (ht : (pc : Int) + off = (tgt : Int)) (k : q_S p l e R s m args below meth c nL dC dI dA A α Q cells slots (some ()) () tgt lv st hp) : q_S p l e R s m args below meth c nL dC dI dA A α Q cells slots (some ()) () pc lv (.int v :: .int v :: st) hp :=
  r_cut (G := some ()) (F := if v = v then some () else none) (by rw [if_pos rfl]) (r_icmp_eq C tgt d ht (fun _ => k) (fun h => absurd rfl h))
theorem lx_cmp (v : Int64) : lg_cmp v v = 0 := by
  unfold lg_cmp
  simp
theorem lx_eql {off : Int} (tgt : Nat) {v : Int64} (C : q_Cx p s m args meth c cc nL own rtL nm dC dI dA A α) (d : decode cc pc = .ok (.lcmp, 1)) (d1 : decode cc (pc + 1) = .ok (.ifCond .eq off, 3)) (ht : ((pc + 1 : Nat) : Int) + off = (tgt : Int)) (k : q_S p l e R s m args below meth c nL dC dI dA A α Q cells slots (some ()) () tgt lv st hp) : q_S p l e R s m args below meth c nL dC dI dA A α Q cells slots (some ()) () pc lv (.long v :: .long v :: st) hp := by
  refine r_lcmp C d ?_
  rw [lx_cmp]
  exact r_cut (G := some ()) (F := if (0 : Int32) = 0 then some () else none) (by rw [if_pos rfl]) (r_if_eq C tgt d1 ht (fun _ => k) (fun h => absurd rfl h))
/-- what holds throughout the law -/
def lx_Cx (p : Program) (s : State) (m : MethodId) (args : Array Value) (meth : Method) (c : Code) (dC : Nat → ClassId) (dI : Nat → Nat → Nat) (dA : Nat → ClassId) (A : Nat → Prop) (α : Nat → Nat) (b L : Nat) (xs : Nat → Int32) (cells slots : Nat) : Prop := q_Cx p s m args meth c cL_law 4 RL ret meth.name dC dI dA A α ∧ va_X b L xs s s.heap ∧ b < s.heap.size ∧ ¬ A b ∧ α 45 = b ∧ L ≤ 3072 ∧ (cells ≤ room_1.cells ∧ slots ≤ room_1.slots) ∧ (∀ q, A q → s.heap.size ≤ q)
variable {b L : Nat} {xs : Nat → Int32}
theorem lx_arg {i : Nat} {n : Int} (C : lx_Cx p s m args meth c dC dI dA A α b L xs cells slots) (a : Nat) (ha : i + a < L) (hv : Int32.ofInt n = nI a) (d0 : decode cL_law pc = .ok (.aload_n 0, 1)) (d1 : decode cL_law (pc + 1) = .ok (.iload_n 3, 1)) (d2 : decode cL_law (pc + 2) = .ok (.iconst n, 1)) (d3 : decode cL_law (pc + 3) = .ok (.iadd, 1)) (d4 : decode cL_law (pc + 4) = .ok (.iaload, 1)) (k : q_S p l e R s m args below meth c 4 dC dI dA A α Q cells slots (some ()) () (pc + 5) (lx_lv i) (.int (xs (i + a)) :: st) hp) : q_S p l e R s m args below meth c 4 dC dI dA A α Q cells slots (some ()) () pc (lx_lv i) st hp := by
  obtain ⟨C, hX, hbl, hbA, hα, hL, _⟩ := C
  refine r_aload_n C 3 (x := 45) d0 rfl ?_
  refine r_iload_n C 0 (x := nI i) d1 rfl ?_
  refine r_iconst C (nI a) d2 hv ?_
  refine r_iadd C d3 ?_
  rw [nI_add]
  intro hF H locs ls hP hD hS hl
  have k1 := k hF H locs ls hP hD hS hl
  show W p l e R s m args below meth c H locs cells slots Q (F0 m (pc + 4) ls (.int (nI (i + a)) :: .ref (α 45) :: st.map (q_v α)))
  rw [hα]
  refine va_sld C.1 C.2.1 hX hbl hbA hS (nI_in ha (by omega)) d4 ?_
  rw [nI_clamp (by omega)]
  exact k1
end LAW
