/-- the caller's place of a callee's place: ρ lists the caller's cells -/
def q_ix2 (ρ : List Nat) (n : Nat) (k : Nat) : Nat := if k < 50 then k else if k - 50 < ρ.length then 50 + ρ.getD (k - 50) 0 else 50 + n + (k - 50 - ρ.length)
def q_put : List va_E → List Nat → List va_E → List va_E
  | hp, [], es => hp ++ es
  | hp, r :: ρ, e :: es => q_put (hp.set r e) ρ es
  | hp, _ :: _, [] => hp
def q_i (_ : Nat) : Nat := 0
theorem q_v_comp (α β : Nat → Nat) (v : Value) : q_v α (q_v β v) = q_v (fun k => α (β k)) v := by cases v <;> rfl
theorem q_e_comp (α β : Nat → Nat) (dA : Nat → ClassId) (e : va_E) : q_e α dA (q_e β (fun t => t) e) = q_e (fun k => α (β k)) dA e := by
  rcases e with ⟨t, n, f | f | f | f | f⟩ | ⟨ci, fs⟩
  · rfl
  · rfl
  · rfl
  · rfl
  · show Sum.inl (dA t, n, Sum.inr (Sum.inr (Sum.inr (Sum.inr fun i => ((f i).map β).map α)))) = Sum.inl (dA t, n, Sum.inr (Sum.inr (Sum.inr (Sum.inr fun i => (f i).map (fun k => α (β k))))))
    simp only [Option.map_map]
    rfl
  · show Sum.inr (ci, (fs.map (q_v β)).map (q_v α)) = Sum.inr (ci, fs.map (q_v (fun k => α (β k))))
    rw [List.map_map]
    congr 2
    apply List.map_congr_left
    intro v _
    exact q_v_comp α β v
theorem q_put_len : ∀ (ρ : List Nat) (hp es : List va_E), ρ.length ≤ es.length → (q_put hp ρ es).length = hp.length + (es.length - ρ.length)
  | [], hp, es, _ => by simp [q_put]
  | r :: ρ, hp, e :: es, h => by
    have h' : ρ.length ≤ es.length := by simp only [List.length_cons] at h; omega
    simp only [q_put, q_put_len ρ (hp.set r e) es h', List.length_set, List.length_cons]
    omega
  | r :: ρ, hp, [], h => by simp only [List.length_cons, List.length_nil] at h; omega
/-- what stands at a place of the caller's heap behind the call -/
theorem q_put_get : ∀ (ρ : List Nat) (hp es : List va_E) (k : Nat) (e : va_E), ρ.length ≤ es.length → va_nd ρ = true → (∀ r ∈ ρ, r < hp.length) → (q_put hp ρ es)[k]? = some e →
    (k ∉ ρ ∧ k < hp.length ∧ hp[k]? = some e) ∨ (∃ i, i < ρ.length ∧ ρ[i]? = some k ∧ es[i]? = some e) ∨ (∃ i, ρ.length ≤ i ∧ k = hp.length + (i - ρ.length) ∧ es[i]? = some e)
  | [], hp, es, k, e, _, _, _, h => by
    simp only [q_put] at h
    by_cases hl : k < hp.length
    · rw [List.getElem?_append_left hl] at h
      exact Or.inl ⟨by simp, hl, h⟩
    · rw [List.getElem?_append_right (by omega)] at h
      exact Or.inr (Or.inr ⟨k - hp.length, by simp, by simp only [List.length_nil]; omega, h⟩)
  | r :: ρ, hp, e0 :: es, k, e, hl, hn, hr, h => by
    simp only [List.length_cons, Nat.add_le_add_iff_right] at hl
    simp only [va_nd, Bool.and_eq_true, decide_eq_true_eq] at hn
    simp only [q_put] at h
    have hr0 : r < hp.length := hr r List.mem_cons_self
    rcases q_put_get ρ (hp.set r e0) es k e hl hn.2 (fun x hx => by rw [List.length_set]; exact hr x (List.mem_cons_of_mem _ hx)) h with ⟨h1, h2, h3⟩ | ⟨i, h1, h2, h3⟩ | ⟨i, h1, h2, h3⟩
    · by_cases hk : k = r
      · subst hk
        rw [List.getElem?_set_self hr0] at h3
        exact Or.inr (Or.inl ⟨0, by simp, rfl, h3⟩)
      · rw [List.getElem?_set_ne (Ne.symm hk)] at h3
        rw [List.length_set] at h2
        exact Or.inl ⟨by simp [hk, h1], h2, h3⟩
    · exact Or.inr (Or.inl ⟨i + 1, by simp only [List.length_cons]; omega, h2, h3⟩)
    · rw [List.length_set] at h2
      exact Or.inr (Or.inr ⟨i + 1, by simp only [List.length_cons]; omega, by simp only [List.length_cons]; omega, h3⟩)
  | r :: ρ, hp, [], k, e, hl, _, _, _ => by simp only [List.length_cons, List.length_nil] at hl; omega
/-- the caller's cells, as the callee sees them -/
theorem q_cut {α : Nat → Nat} {dA : Nat → ClassId} {hp hpc : List va_E} {ρ : List Nat} {n : Nat} (hρ : ρ.map (fun i => hp[i]?) = (hpc.map (q_e (q_ix2 ρ n) (fun t => t))).map some) :
    ρ.length = hpc.length ∧ (∀ r ∈ ρ, r < hp.length) ∧ ρ.map (fun i => (q_w α dA hp)[i]?) = (q_w (fun k => α (q_ix2 ρ n k)) dA hpc).map some := by
  have h0 : ρ.length = hpc.length := by
    have := congrArg List.length hρ
    simpa using this
  have key : ∀ i, i < ρ.length → ∃ r e, ρ[i]? = some r ∧ hpc[i]? = some e ∧ hp[r]? = some (q_e (q_ix2 ρ n) (fun t => t) e) := by
    intro i hi
    have h1 := congrArg (fun z : List (Option va_E) => z[i]?) hρ
    simp only [List.getElem?_map] at h1
    have hr : ρ[i]? = some ρ[i] := List.getElem?_eq_getElem hi
    have he : hpc[i]? = some (hpc[i]'(by omega)) := List.getElem?_eq_getElem (by omega)
    rw [hr, he] at h1
    exact ⟨_, _, hr, he, Option.some.inj h1⟩
  refine ⟨h0, fun r hr => ?_, ?_⟩
  · obtain ⟨i, hi, e⟩ := List.getElem_of_mem hr
    obtain ⟨r', e', h1, -, h3⟩ := key i hi
    have : r' = r := by
      rw [List.getElem?_eq_getElem hi] at h1
      rw [← e]; exact (Option.some.inj h1).symm
    subst this
    exact (List.getElem?_eq_some_iff.mp h3).1
  · apply List.ext_getElem?
    intro i
    rw [List.getElem?_map, List.getElem?_map]
    by_cases hi : i < ρ.length
    · obtain ⟨r, e, h1, h2, h3⟩ := key i hi
      rw [h1, q_w_get h2]
      show some ((q_w α dA hp)[r]?) = _
      rw [q_w_get h3, q_e_comp]
      have e1 : q_ix2 ρ n (50 + i) = 50 + r := by
        unfold q_ix2
        rw [if_neg (by omega), if_pos (by omega), Nat.add_sub_cancel_left, List.getD_eq_getElem?_getD, h1]
        rfl
      show _ = some (some (α (q_ix2 ρ n (50 + i)), _))
      rw [e1]
    · rw [List.getElem?_eq_none (by omega), List.getElem?_eq_none (by unfold q_w; rw [List.length_mapIdx]; omega)]
      rfl
/-- behind the call: the caller's other cells stand, the callee's are its own -/
theorem q_join {A : Nat → Prop} {dC : Nat → ClassId} {dI : Nat → Nat → Nat} {dA : Nat → ClassId} {α β : Nat → Nat} {hp hpc es : List va_E} {ρ : List Nat} {H H1 : Heap} (hn : va_nd ρ = true)
    (hρ : ρ.map (fun i => hp[i]?) = (hpc.map (q_e (q_ix2 ρ hp.length) (fun t => t))).map some) (hes : ρ.length ≤ es.length) (hβ : ∀ k, k < 50 + hp.length → β k = α k) (hcl : ∀ (k : Nat) (e : va_E), hp[k]? = some e → q_e β dA e = q_e α dA e)
    (hP : va_P (dC, dI) vwCl (q_w α dA hp) H) (hD : va_D A (q_w α dA hp))
    (hk : ∀ q : Nat, q < H.size → ¬ va_A (q_w (fun k => α (q_ix2 ρ hp.length k)) dA hpc) H.size q → H1[q]? = H[q]?) (hF : ∀ q, va_A (q_w (fun k => α (q_ix2 ρ hp.length k)) dA hpc) H.size q → A q)
    (hP1 : va_P (dC, dI) vwCl (q_w (fun k => β (q_ix2 ρ hp.length k)) dA es) H1) (hD1 : va_D (va_A (q_w (fun k => α (q_ix2 ρ hp.length k)) dA hpc) H.size) (q_w (fun k => β (q_ix2 ρ hp.length k)) dA es)) :
    va_P (dC, dI) vwCl (q_w β dA (q_put hp ρ (es.map (q_e (q_ix2 ρ hp.length) (fun t => t))))) H1 ∧ va_D A (q_w β dA (q_put hp ρ (es.map (q_e (q_ix2 ρ hp.length) (fun t => t))))) := by
  obtain ⟨h0, hlt, hcut⟩ := q_cut (α := α) (dA := dA) hρ
  have hes' : ρ.length ≤ (es.map (q_e (q_ix2 ρ hp.length) (fun t => t))).length := by rw [List.length_map]; exact hes
  have key : ∀ (k : Nat) (q : Nat × va_E), (q_w β dA (q_put hp ρ (es.map (q_e (q_ix2 ρ hp.length) (fun t => t)))))[k]? = some q → (k ∉ ρ ∧ k < hp.length ∧ (q_w α dA hp)[k]? = some q) ∨ (∃ i, (q_w (fun k => β (q_ix2 ρ hp.length k)) dA es)[i]? = some q ∧ 50 + k = q_ix2 ρ hp.length (50 + i)) := by
    intro k q hq
    obtain ⟨e, he, rfl⟩ := q_w_of hq
    rcases q_put_get ρ hp _ k e hes' hn hlt he with ⟨h1, h2, h3⟩ | ⟨i, h1, h2, h3⟩ | ⟨i, h1, h2, h3⟩
    · refine Or.inl ⟨h1, h2, ?_⟩
      rw [q_w_get h3, hβ _ (by omega), hcl _ _ h3]
    · rw [List.getElem?_map] at h3
      cases h4 : es[i]? with
      | none => rw [h4] at h3; cases h3
      | some e' =>
        rw [h4] at h3
        have h5 : q_e (q_ix2 ρ hp.length) (fun t => t) e' = e := Option.some.inj h3
        have e1 : q_ix2 ρ hp.length (50 + i) = 50 + k := by
          unfold q_ix2
          rw [if_neg (by omega), if_pos (by omega), Nat.add_sub_cancel_left, List.getD_eq_getElem?_getD, h2]
          rfl
        refine Or.inr ⟨i, ?_, e1.symm⟩
        rw [q_w_get h4, ← h5, q_e_comp]
        show some (β (q_ix2 ρ hp.length (50 + i)), _) = _
        rw [e1]
    · rw [List.getElem?_map] at h3
      cases h4 : es[i]? with
      | none => rw [h4] at h3; cases h3
      | some e' =>
        rw [h4] at h3
        have h5 : q_e (q_ix2 ρ hp.length) (fun t => t) e' = e := Option.some.inj h3
        have e1 : q_ix2 ρ hp.length (50 + i) = 50 + k := by
          unfold q_ix2
          rw [if_neg (by omega), if_neg (by omega)]
          omega
        refine Or.inr ⟨i, ?_, e1.symm⟩
        rw [q_w_get h4, ← h5, q_e_comp]
        show some (β (q_ix2 ρ hp.length (50 + i)), _) = _
        rw [e1]
  have inj : ∀ i j, q_ix2 ρ hp.length (50 + i) = q_ix2 ρ hp.length (50 + j) → i = j := by
    intro i j h
    have lt' : ∀ a, a < ρ.length → ρ.getD a 0 < hp.length := fun a ha => by
      rw [List.getD_eq_getElem?_getD, List.getElem?_eq_getElem ha]
      exact hlt _ (List.getElem_mem ha)
    have a1 : ∀ a, a < ρ.length → q_ix2 ρ hp.length (50 + a) = 50 + ρ.getD a 0 := fun a ha => by
      unfold q_ix2
      rw [if_neg (by omega), if_pos (by omega), Nat.add_sub_cancel_left]
    have a2 : ∀ a, ¬ a < ρ.length → q_ix2 ρ hp.length (50 + a) = 50 + hp.length + (a - ρ.length) := fun a ha => by
      unfold q_ix2
      rw [if_neg (by omega), if_neg (by omega), Nat.add_sub_cancel_left]
    by_cases hi : i < ρ.length <;> by_cases hj : j < ρ.length
    · rw [a1 i hi, a1 j hj] at h
      have hs : ρ.getD i 0 = ρ.getD j 0 := by omega
      rw [List.getD_eq_getElem?_getD, List.getD_eq_getElem?_getD, List.getElem?_eq_getElem hi, List.getElem?_eq_getElem hj] at hs
      exact va_nd_inj ρ hn i j _ (List.getElem?_eq_getElem hi) (by rw [List.getElem?_eq_getElem hj]; exact congrArg some hs.symm)
    · rw [a1 i hi, a2 j hj] at h
      have := lt' i hi
      omega
    · rw [a2 i hi, a1 j hj] at h
      have := lt' j hj
      omega
    · rw [a2 i hi, a2 j hj] at h
      omega
  have apart : ∀ (k : Nat) (q : Nat × va_E), k ∉ ρ → (q_w α dA hp)[k]? = some q → q.1 < H.size ∧ ¬ va_A (q_w (fun k => α (q_ix2 ρ hp.length k)) dA hpc) H.size q.1 := by
    intro k q hkr hq
    have hl := (hP k q hq).lt
    refine ⟨hl, fun h => ?_⟩
    rcases h with ⟨k2, e, h⟩ | h
    · have h1 := congrArg (fun z : List (Option (Nat × va_E)) => z[k2]?) hcut
      simp only [List.getElem?_map, h] at h1
      cases hr : ρ[k2]? with
      | none => rw [hr] at h1; cases h1
      | some r =>
        rw [hr] at h1
        have h2 : (q_w α dA hp)[r]? = some (q.1, e) := Option.some.inj h1
        have hij := hD.1 k r q (q.1, e) hq h2 rfl
        subst hij
        exact hkr (List.mem_of_getElem? hr)
    · omega
  refine ⟨fun k q hq => ?_, fun i j x y hx hy hxy => ?_, fun k q hq => ?_⟩
  · rcases key k q hq with ⟨h1, h2, h3⟩ | ⟨i, h1, -⟩
    · obtain ⟨g1, g2⟩ := apart k q h1 h3
      exact (hP k q h3).kept (hk q.1 g1 g2)
    · exact hP1 i q h1
  · rcases key i x hx with ⟨h1, h2, h3⟩ | ⟨i', h1, h2⟩ <;> rcases key j y hy with ⟨g1, g2, g3⟩ | ⟨j', g1, g2⟩
    · exact hD.1 i j x y h3 g3 hxy
    · exact absurd (hD1.2 j' y g1) (by rw [← hxy]; exact (apart i x h1 h3).2)
    · exact absurd (hD1.2 i' x h1) (by rw [hxy]; exact (apart j y g1 g3).2)
    · have := hD1.1 i' j' x y h1 g1 hxy
      subst this
      omega
  · rcases key k q hq with ⟨h1, h2, h3⟩ | ⟨i, h1, -⟩
    · exact hD.2 k q h3
    · exact hF q.1 (hD1.2 i q h1)
def q_rm (f lo : Nat) : Room := { frames := f, cells := 0, slots := 0, locals := lo }
def q_rmN (f lo mc ms : Nat) : Room := { frames := f, cells := mc, slots := ms, locals := lo }
def q_Pc (α : Nat → Nat) (dC : Nat → ClassId) (dI : Nat → Nat → Nat) (dA : Nat → ClassId) (sz : Nat) (av : List Value) (hp : List va_E) : Array Value → State → Prop :=
  va_Pc (av.map (q_v α)) (fun U => U.heap.size = sz ∧ va_P (dC, dI) vwCl (q_w α dA hp) U.heap ∧ va_K (dC, dI) vwCl (q_tys dA) U ∧ va_D (fun _ => True) (q_w α dA hp) ∧ q_G α (va_A (q_w α dA hp) sz) U U.heap)
theorem q_Pc_blind {α : Nat → Nat} {dC : Nat → ClassId} {dI : Nat → Nat → Nat} {dA : Nat → ClassId} {sz : Nat} {av : List Value} {hp : List va_E} : FrameBlind (q_Pc α dC dI dA sz av hp) := fun a U g mk ⟨h1, h2, h3, h4, h5, h6⟩ => ⟨h1, h2, h3, va_K.moved (u := U) (U := U.calling g mk a) (Vm.Alike.refl U.vm) h4, h5, q_G.calling h6⟩
/-- a method's contract: on these arguments and this heap, if F is t, it answers rv t and the heap is hpE t; no object is made -/
def q_Ok (l : Launch) (y : MethodName) (bytes : ByteArray) (maxL : Nat) (ret : Option FieldType) (f lo : Nat) (av : List Value) (hp : List va_E) {τ : Type} (F : Option τ) (rv : τ → Option Value) (hpE : τ → List va_E) : Prop :=
  ∀ t, F = some t → ∀ (dC : Nat → ClassId) (dI : Nat → Nat → Nat) (dA : Nat → ClassId) (α : Nat → Nat) (sz : Nat),
    Met l y (.code y bytes maxL ret :: q_T) (q_rm f lo) (q_Pc α dC dI dA sz av hp) (q_Q α dC dI dA (va_A (q_w α dA hp) sz) (rv t) (hpE t)) 0 0 (va_A (q_w α dA hp) sz)
/-- the same of a constructor, which makes mc cells of ms slots -/
def q_OkN (l : Launch) (y : MethodName) (bytes : ByteArray) (maxL : Nat) (ret : Option FieldType) (f lo mc ms : Nat) (av : List Value) (hp : List va_E) {τ : Type} (F : Option τ) (rv : τ → Option Value) (hpE : τ → List va_E) : Prop :=
  ∀ t, F = some t → ∀ (dC : Nat → ClassId) (dI : Nat → Nat → Nat) (dA : Nat → ClassId) (α : Nat → Nat) (sz : Nat),
    Met l y (.code y bytes maxL ret :: q_T) (q_rmN f lo mc ms) (q_Pc α dC dI dA sz av hp) (q_QN hp.length α dC dI dA (va_A (q_w α dA hp) sz) (rv t) (hpE t)) mc ms (va_A (q_w α dA hp) sz)
theorem q_enter {l : Launch} {y : MethodName} {bytes : ByteArray} {maxL : Nat} {ret : Option FieldType} {f lo : Nat} {av : List Value} {hp : List va_E} {τ : Type} {F : Option τ} {rv : τ → Option Value} {hpE : τ → List va_E} (hy : plainName y.cls = true) (hlen : (lg_sl av).length ≤ maxL)
    (body : ∀ t p e s m args below meth c dC dI dA A α, q_Cx p s m args meth c bytes maxL y.cls ret y.name dC dI dA A α → q_S p l e (q_rm f lo) s m args below meth c maxL dC dI dA A α (MQ below (q_Q α dC dI dA A (rv t) (hpE t)) args s 0 0 A) 0 0 F t 0 (lv_args 0 av) [] hp) : q_Ok l y bytes maxL ret f lo av hp F rv hpE := by
  intro t hF dC dI dA α sz
  refine Met.ofW (cc := bytes) (maxL := maxL) (ret := ret) hy rfl ?_
  intro p e s m args below meth c s₁ B hml hv
  obtain ⟨rfl, hsz, hP, hK, hD0, hG⟩ := hv
  have hts := atoms_spec (ws := .code y bytes maxL ret :: q_T) B.pre
  have hown : s.vm.findClass y.cls = some m.cls := findClass_of_methodNamed B.named
  subst hsz
  have hD := hD0.self (sz := s.heap.size)
  have hC : q_Cx p s m (av.map (q_v α)).toArray meth c bytes maxL y.cls ret y.name dC dI dA (va_A (q_w α dA hp) s.heap.size) α := ⟨B.exec, B.bytes, hml, hown, fun w hw => hts w (List.mem_cons_of_mem _ hw), B.returns, B.notSynchronized, (name_of_methodNamed B.named B.method).1, hK, hG, fun q h => Or.inr h⟩
  have hlen' : (lg_sl (av.map (q_v α))).length ≤ maxL := by
    have h1 : ∀ vs : List Value, (lg_sl (vs.map (q_v α))).length = (lg_sl vs).length := by
      intro vs
      induction vs with
      | nil => rfl
      | cons v vs ih =>
        simp only [lg_sl, List.map_cons, List.flatMap_cons, List.length_append] at ih ⊢
        rw [ih]
        cases v <;> rfl
    rw [h1]; exact hlen
  have hl := lv_entry (av.map (q_v α)) (n := maxL) hlen'
  rw [q_args] at hl
  rw [lg_entry_eq]
  exact body t p e s m _ below meth c dC dI dA _ α hC hF s.heap [] _ hP hD va_S.rf hl
/-- a callee's words -/
def q_cV (y : MethodName) (bytes : ByteArray) (maxL : Nat) (ret : Option FieldType) (n : Nat) : Prop := Cond.code y bytes maxL ret ∈ q_T ∧ Cond.instanceMethod y ∈ q_T ∧ Cond.selects y.cls y y ∈ q_T ∧ Cond.initialized y.cls ∈ q_T ∧ y.cls ≠ "java/lang/invoke/MethodHandle" ∧ y.cls ≠ "java/lang/invoke/VarHandle" ∧ (parseMethodDescriptor y.desc).map (fun d => d.parameters.length) = some n
def q_cS (y : MethodName) (bytes : ByteArray) (maxL : Nat) (ret : Option FieldType) (n : Nat) : Prop := Cond.code y bytes maxL ret ∈ q_T ∧ Cond.static y ∈ q_T ∧ Cond.initialized y.cls ∈ q_T ∧ y.cls ≠ "java/lang/invoke/MethodHandle" ∧ y.cls ≠ "java/lang/invoke/VarHandle" ∧ (parseMethodDescriptor y.desc).map (fun d => d.parameters.length) = some n
def q_cI (y : MethodName) (bytes : ByteArray) (maxL : Nat) (n : Nat) : Prop := Cond.code y bytes maxL none ∈ q_T ∧ Cond.instanceMethod y ∈ q_T ∧ Cond.initialized y.cls ∈ q_T ∧ y.cls ≠ "java/lang/invoke/MethodHandle" ∧ y.cls ≠ "java/lang/invoke/VarHandle" ∧ (parseMethodDescriptor y.desc).map (fun d => d.parameters.length) = some n ∧ y.name = "<init>"
theorem q_goodW {y : MethodName} {bytes : ByteArray} {maxL : Nat} {ret : Option FieldType} (h : Cond.code y bytes maxL ret ∈ q_T) (ws : List Cond) (hw : ∀ w ∈ ws, w ∈ q_T) : GoodIn q_T (ws ++ (.code y bytes maxL ret :: q_T)) := fun w hx => by
  rcases List.mem_append.mp hx with hx | hx
  · exact q_good (hw w hx)
  · rcases List.mem_cons.mp hx with rfl | hx
    · exact q_good h
    · exact q_good hx
section CALLS
variable {p : Program} {l : Launch} {e : Env} {R : Room} {s : State} {m : MethodId} {args : Array Value} {below : List Frame} {meth : Method} {c : Code} {cc : ByteArray} {nL : Nat} {own nm : String} {ret : Option FieldType} {dC : Nat → ClassId} {dI : Nat → Nat → Nat} {dA : Nat → ClassId} {A : Nat → Prop} {α : Nat → Nat} {Q : State → Prop} {cells slots pc : Nat} {lv : List (Nat × Value)} {st : List Value} {hp : List va_E} {τ : Type} {F : Option τ} {t : τ}
variable {y : MethodName} {bytes : ByteArray} {maxL n idx f lo : Nat} {rt : Option FieldType} {avc : List Value} {hpc : List va_E} {τc : Type} {Fc : Option τc} {rvc : τc → Option Value} {hpE : τc → List va_E} {K : τc → Option τ}
/-- a receiver: an object of the heap, or a String constant -/
def q_rc (hp : List va_E) (k : Nat) (C : String) : Prop := (∃ (i ci : Nat) (fs : List Value) (T : u_T) (N : Nat), 50 + i = k ∧ hp[i]? = some (.inr (ci, fs)) ∧ vwCl[ci]? = some (C, T, N)) ∨ (k < 13 ∧ C = "java/lang/String")
/-- a call that makes nothing, once the kit has run it -/
theorem q_back {As rest : List Value} {g0 : List Value} {H : Heap} {locs : List Loc} {ls : Array Slot} (C : q_Cx p s m args meth c cc nL own ret nm dC dI dA A α) {u : τc} {ρ : List Nat} {hpn : List va_E} (hn : va_nd ρ = true)
    (hρ : ρ.map (fun i => hp[i]?) = (hpc.map (q_e (q_ix2 ρ hp.length) (fun t => t))).map some) (hes : ρ.length = (hpE u).length) (h2 : q_put hp ρ ((hpE u).map (q_e (q_ix2 ρ hp.length) (fun t => t))) = hpn)
    (hP : va_P (dC, dI) vwCl (q_w α dA hp) H) (hD : va_D A (q_w α dA hp)) (hS : va_S A s.heap H locs) (hl : lv_has ls nL (q_lv α lv))
    (hr : va_Run p l e R s m args below meth c H locs cells slots 0 0 (F0 m pc ls g0) (rest.map (q_v α)) (q_Q (fun k => α (q_ix2 ρ hp.length k)) dC dI dA (va_A (q_w (fun k => α (q_ix2 ρ hp.length k)) dA hpc) H.size) (rvc u) (hpE u) As.toArray) (va_A (q_w (fun k => α (q_ix2 ρ hp.length k)) dA hpc) H.size))
    (hK0 : K u = some t) (k : q_S p l e R s m args below meth c nL dC dI dA A α Q cells slots (K u) t (pc + 3) lv (((rvc u).map (q_v (q_ix2 ρ hp.length))).toList ++ rest) hpn) : W p l e R s m args below meth c H locs cells slots Q (F0 m pc ls g0) := by
  subst h2
  obtain ⟨h0, hlt, hcut⟩ := q_cut (α := α) (dA := dA) hρ
  have hFc : ∀ q, va_A (q_w (fun k => α (q_ix2 ρ hp.length k)) dA hpc) H.size q → A q := va_free hD hS C.2.2.2.2.2.2.2.2.2.2 ρ hcut
  intro T hT X
  obtain ⟨v, st₀, t1, T', L, g1, X', hL, e1, e2, ⟨⟨hv, hP1, hK1, hD1⟩, hz, hk⟩, stp⟩ := hr T hT X
  rw [g1] at hz hk
  rw [← e1] at hP1 hz hk
  have hv' : v = (rvc u).map (q_v (fun k => α (q_ix2 ρ hp.length k))) := by injection hv
  obtain ⟨jP, jD⟩ := q_join (A := A) (β := α) hn hρ (Nat.le_of_eq hes) (fun _ _ => rfl) (fun _ _ _ => rfl) hP hD (fun q a b => hk q a b) hFc hP1 hD1
  have hS1 : va_S A s.heap T'.heap (locs ++ L) := ⟨Nat.le_trans hS.1 hz, fun q a b => by
      rw [hk q (Nat.lt_of_lt_of_le a hS.1) (fun z => b (hFc q z))]
      exact hS.2.1 q a b, fun q hq => by
      rcases List.mem_append.mp hq with h | h
      · exact hS.2.2 q h
      · exact hFc _ (hL q h)⟩
  obtain ⟨t2, a1, b1⟩ := k hK0 T'.heap (locs ++ L) ls jP jD hS1 hl T' rfl X'
  refine ⟨t2, stp t2 ?_, b1⟩
  have e9 : (((rvc u).map (q_v (q_ix2 ρ hp.length))).toList ++ rest).map (q_v α) = v.toList ++ rest.map (q_v α) := by
    rw [hv', List.map_append]
    congr 1
    cases rvc u with
    | none => rfl
    | some x => show [q_v α (q_v (q_ix2 ρ hp.length) x)] = [q_v (fun k => α (q_ix2 ρ hp.length k)) x]; rw [q_v_comp]
  rw [e9] at a1
  exact a1
theorem q_preOf {H : Heap} {locs : List Loc} (C : q_Cx p s m args meth c cc nL own ret nm dC dI dA A α) {ρ : List Nat} {As : List Value} (hρ : ρ.map (fun i => hp[i]?) = (hpc.map (q_e (q_ix2 ρ hp.length) (fun t => t))).map some) (hn : va_nd ρ = true) (hav : avc.map (q_v (q_ix2 ρ hp.length)) = As)
    (hP : va_P (dC, dI) vwCl (q_w α dA hp) H) (hD : va_D A (q_w α dA hp)) (hS : va_S A s.heap H locs) : ∀ U : State, U.heap = H → s.WarmedH U.vm → q_Pc (fun k => α (q_ix2 ρ hp.length k)) dC dI dA H.size avc hpc (As.map (q_v α)).toArray U := by
  intro U hU hW
  obtain ⟨h0, hlt, hcut⟩ := q_cut (α := α) (dA := dA) hρ
  have hFc : ∀ q, va_A (q_w (fun k => α (q_ix2 ρ hp.length k)) dA hpc) H.size q → A q := va_free hD hS C.2.2.2.2.2.2.2.2.2.2 ρ hcut
  refine ⟨?_, by rw [hU], ?_, va_K.moved hW.alike C.2.2.2.2.2.2.2.2.1, ?_, ?_⟩
  · rw [← hav, List.map_map]
    congr 2
    funext v
    exact q_v_comp α _ v
  · rw [hU]
    intro k q hq
    have h1 := congrArg (fun z : List (Option (Nat × va_E)) => z[k]?) hcut
    simp only [List.getElem?_map, hq] at h1
    cases hr : ρ[k]? with
    | none => rw [hr] at h1; cases h1
    | some r => rw [hr] at h1; exact hP r q (Option.some.inj h1)
  · exact (hD.sub ρ hn hcut).weaken (fun _ _ _ _ => trivial)
  · rw [hU]
    refine q_G.moved (u := s) (U := U) hW (q_G.re (α := α) ?_ (fun k hk => ?_))
    · exact (q_G.kept C.2.2.2.2.2.2.2.2.2.1 hS.2.1).narrow hFc
    · show α (q_ix2 ρ hp.length k) = α k
      unfold q_ix2
      rw [if_pos hk]
theorem q_case4 {P : Nat → Prop} (h0 : P 0) (h1 : P 1) (h2 : P 2) (h3 : P 3) (h4 : ∀ n, P (n + 4)) : ∀ u, P u
  | 0 => h0
  | 1 => h1
  | 2 => h2
  | 3 => h3
  | n + 4 => h4 n
theorem q_recvOf {H : Heap} {locs : List Loc} (C : q_Cx p s m args meth c cc nL own ret nm dC dI dA A α) {k : Nat} {Cn : String} (h : q_rc hp k Cn) (hP : va_P (dC, dI) vwCl (q_w α dA hp) H) (hS : va_S A s.heap H locs) : ∃ cell : Cell, H[α k]? = some cell ∧ cell.vm.isStatics = false ∧ s.vm.findClass Cn = some cell.cls := by
  rcases h with ⟨i, ci, fs, T, N, h1, h2, h3⟩ | ⟨h1, h2⟩
  · subst h1
    exact va_recv (D := (dC, dI)) C.2.2.2.2.2.2.2.2.1 hP h3 (q_w_get h2)
  · subst h2
    exact vk_recv C.2.2.2.2.2.2.2.2.2.1.1 h1 hS
theorem r_callV (C : q_Cx p s m args meth c cc nL own ret nm dC dI dA A α) (hok : q_Ok l y bytes maxL rt f lo avc hpc Fc rvc hpE) (hy : q_cV y bytes maxL rt n) (hlk : Cond.methodLink own idx y ∈ q_T) (ρ : List Nat) (As rest : List Value) (b0 : Nat) (hrc : q_rc hp b0 y.cls) (st2 : τc → List Value) (hpn : τc → List va_E) (hρ : ρ.map (fun i => hp[i]?) = (hpc.map (q_e (q_ix2 ρ hp.length) (fun t => t))).map some) (hn : va_nd ρ = true) (hav : avc.map (q_v (q_ix2 ρ hp.length)) = .ref b0 :: As) (hst : st = As.reverse ++ .ref b0 :: rest) (hlen : As.length = n) (hcat : (rest.map fun v => v.category).sum ≤ 8) (hR : f + 1 ≤ R.frames ∧ 8 + (maxL + 11) + lo ≤ R.locals) (hce : cells ≤ R.cells ∧ slots ≤ R.slots) (d : decode cc pc = .ok (.invokevirtual idx, 3)) (hes : ∀ u, ρ.length = (hpE u).length) (hs2 : ∀ u, ((rvc u).map (q_v (q_ix2 ρ hp.length))).toList ++ rest = st2 u) (h2 : ∀ u, q_put hp ρ ((hpE u).map (q_e (q_ix2 ρ hp.length) (fun t => t))) = hpn u) (k : ∀ u, q_S p l e R s m args below meth c nL dC dI dA A α Q cells slots (K u) t (pc + 3) lv (st2 u) (hpn u)) : q_S p l e R s m args below meth c nL dC dI dA A α Q cells slots (Fc.bind K) t pc lv st hp := by
  intro hF
  cases hFc : Fc with
  | none => rw [hFc] at hF; cases hF
  | some u =>
    have hF : K u = some t := by rw [hFc] at hF; exact hF
    intro H locs ls hP hD hS hl
    subst hst
    have hM := hok u hFc dC dI dA (fun k => α (q_ix2 ρ hp.length k)) H.size
    have hfix : CallFix p m c cc nL s args q_T own := ⟨C.1, C.2.1, C.2.2.1, C.2.2.2.1, C.2.2.2.2.1⟩
    have hpre := q_preOf (As := .ref b0 :: As) C hρ hn hav hP hD hS
    refine q_back (As := (.ref b0 :: As).map (q_v α)) (rest := rest) C hn hρ (hes u) (h2 u) hP hD hS hl ?_ hF (by rw [hs2 u]; exact k u)
    have hcw : CallW R s args own y.cls idx y bytes maxL rt (.code y bytes maxL rt :: q_T) (q_rm f lo) 0 0 n := cwV n C.2.2.2.2.1 (q_goodW hy.1 _ (fun w hw => by
      simp only [List.mem_cons, List.not_mem_nil, or_false] at hw
      rcases hw with rfl | rfl | rfl | rfl
      · exact hlk
      · exact hy.2.1
      · exact hy.2.2.1
      · exact hy.2.2.2.1)) rfl rfl rfl ⟨rfl, hy.2.2.2.2⟩ hR
    exact va_runV (As := As.map (q_v α)) (rest := rest.map (q_v α)) hfix hM hcw ⟨q_Pc_blind, q_recvOf C hrc hP hS, hpre⟩ rfl (by rw [List.length_map]; exact hlen) hl.1 (by rw [List.map_append, List.map_reverse]; rfl) (lv_room (by rw [q_cat_sum]; exact hcat)) d ⟨hce.1, hce.2⟩
theorem r_callS (C : q_Cx p s m args meth c cc nL own ret nm dC dI dA A α) (hok : q_Ok l y bytes maxL rt f lo avc hpc Fc rvc hpE) (hy : q_cS y bytes maxL rt n) (hlk : Cond.methodLink own idx y ∈ q_T) (ρ : List Nat) (As rest : List Value)  (st2 : τc → List Value) (hpn : τc → List va_E) (hρ : ρ.map (fun i => hp[i]?) = (hpc.map (q_e (q_ix2 ρ hp.length) (fun t => t))).map some) (hn : va_nd ρ = true) (hav : avc.map (q_v (q_ix2 ρ hp.length)) = As) (hst : st = As.reverse ++ rest) (hlen : As.length = n) (hcat : (rest.map fun v => v.category).sum ≤ 8) (hR : f + 1 ≤ R.frames ∧ 8 + (maxL + 11) + lo ≤ R.locals) (hce : cells ≤ R.cells ∧ slots ≤ R.slots) (d : decode cc pc = .ok (.invokestatic idx, 3)) (hes : ∀ u, ρ.length = (hpE u).length) (hs2 : ∀ u, ((rvc u).map (q_v (q_ix2 ρ hp.length))).toList ++ rest = st2 u) (h2 : ∀ u, q_put hp ρ ((hpE u).map (q_e (q_ix2 ρ hp.length) (fun t => t))) = hpn u) (k : ∀ u, q_S p l e R s m args below meth c nL dC dI dA A α Q cells slots (K u) t (pc + 3) lv (st2 u) (hpn u)) : q_S p l e R s m args below meth c nL dC dI dA A α Q cells slots (Fc.bind K) t pc lv st hp := by
  intro hF
  cases hFc : Fc with
  | none => rw [hFc] at hF; cases hF
  | some u =>
    have hF : K u = some t := by rw [hFc] at hF; exact hF
    intro H locs ls hP hD hS hl
    subst hst
    have hM := hok u hFc dC dI dA (fun k => α (q_ix2 ρ hp.length k)) H.size
    have hfix : CallFix p m c cc nL s args q_T own := ⟨C.1, C.2.1, C.2.2.1, C.2.2.2.1, C.2.2.2.2.1⟩
    have hpre := q_preOf (As := As) C hρ hn hav hP hD hS
    refine q_back (As := (As).map (q_v α)) (rest := rest) C hn hρ (hes u) (h2 u) hP hD hS hl ?_ hF (by rw [hs2 u]; exact k u)
    have hcw := va_cwS (R := R) (own := own) (index := idx) (rm := q_rm f lo) (mc := 0) (ms := 0) n C.2.2.2.2.1 (q_goodW hy.1 [.methodLink own idx y, .static y, .initialized y.cls] (fun w hw => by
      simp only [List.mem_cons, List.not_mem_nil, or_false] at hw
      rcases hw with rfl | rfl | rfl
      · exact hlk
      · exact hy.2.1
      · exact hy.2.2.1)) rfl rfl rfl hy.2.2.2 hR
    exact va_runS (As := As.map (q_v α)) (rest := rest.map (q_v α)) hfix hM hcw ⟨q_Pc_blind, hpre⟩ rfl (by rw [List.length_map]; exact hlen) hl.1 (by rw [List.map_append, List.map_reverse]) (lv_room (by rw [q_cat_sum]; exact hcat)) d ⟨hce.1, hce.2⟩
theorem q_range_get {n i : Nat} (h : i < n) : (List.range n)[i]? = some i := by rw [List.getElem?_range h]
theorem q_ix_range (n k : Nat) : q_ix2 (List.range n) n k = k := by
  unfold q_ix2
  by_cases h : k < 50
  · rw [if_pos h]
  · rw [if_neg h, List.length_range]
    by_cases h2 : k - 50 < n
    · rw [if_pos h2, List.getD_eq_getElem?_getD, q_range_get h2]
      show 50 + (k - 50) = k
      omega
    · rw [if_neg h2]
      omega
theorem q_v_id (v : Value) : q_v (fun k => k) v = v := by cases v <;> rfl
theorem q_e_id (e : va_E) : q_e (fun k => k) (fun t => t) e = e := by
  rcases e with ⟨t, n, f | f | f | f | f⟩ | ⟨ci, fs⟩
  · rfl
  · rfl
  · rfl
  · rfl
  · show Sum.inl (t, n, Sum.inr (Sum.inr (Sum.inr (Sum.inr fun i => (f i).map (fun k => k))))) = _
    rw [show (fun i => (f i).map (fun k => k)) = f from funext fun i => by cases f i <;> rfl]
  · show Sum.inr (ci, fs.map (q_v (fun k => k))) = _
    rw [show fs.map (q_v (fun k => k)) = fs from (List.map_congr_left (fun v _ => q_v_id v)).trans (List.map_id' fs)]
theorem q_ix_fun (n : Nat) : q_ix2 (List.range n) n = fun k => k := funext (q_ix_range n)
theorem q_nd_range : ∀ n : Nat, va_nd (List.range n) = true := by
  have key : ∀ l : List Nat, l.Nodup → va_nd l = true := by
    intro l
    induction l with
    | nil => intro _; rfl
    | cons a l ih =>
      intro h
      rw [List.nodup_cons] at h
      simp only [va_nd, Bool.and_eq_true, decide_eq_true_eq]
      exact ⟨h.1, ih h.2⟩
  intro n
  exact key _ List.nodup_range
theorem q_put_ext (ρ : List Nat) : ∀ (hp es : List va_E), ρ.length = es.length → (∀ i, i < ρ.length → ρ[i]? = some (hp.length - ρ.length + i)) → ρ.length ≤ hp.length → q_put hp ρ es = hp.take (hp.length - ρ.length) ++ es := by
  induction ρ with
  | nil =>
    intro hp es h1 _ _
    have : es = [] := List.eq_nil_of_length_eq_zero h1.symm
    subst this
    simp [q_put]
  | cons r ρ ih =>
    intro hp es h1 h2 h3
    cases es with
    | nil => simp at h1
    | cons e es =>
      have hr : r = hp.length - (ρ.length + 1) := by
        have := h2 0 (by simp)
        simpa using this
      simp only [List.length_cons] at h1 h3
      show q_put (hp.set r e) ρ es = _
      rw [ih (hp.set r e) es (by omega) (fun i hi => by
        have := h2 (i + 1) (by simp only [List.length_cons]; omega)
        rw [List.getElem?_cons_succ] at this
        rw [this, List.length_set, List.length_cons]
        congr 1
        omega) (by rw [List.length_set]; omega)]
      rw [List.length_set, List.length_cons]
      have e1 : hp.length - ρ.length = (hp.length - (ρ.length + 1)) + 1 := by omega
      rw [e1, List.take_add_one]
      have e2 : (hp.set r e)[hp.length - (ρ.length + 1)]? = some e := by
        rw [hr, List.getElem?_set_self (by omega)]
      rw [e2, List.take_set_of_le (by omega)]
      simp
theorem q_put_range (hp es : List va_E) (h : hp.length = es.length) : q_put hp (List.range hp.length) es = es := by
  rw [q_put_ext (List.range hp.length) hp es (by rw [List.length_range, h]) (fun i hi => by
    rw [List.length_range] at hi ⊢
    rw [q_range_get hi]
    congr 1
    omega) (by rw [List.length_range]; exact Nat.le_refl _)]
  rw [List.length_range]
  simp
theorem q_map_range (hp : List va_E) : (List.range hp.length).map (fun i => hp[i]?) = (hp.map (fun e => e)).map some := by
  apply List.ext_getElem?
  intro i
  rw [List.getElem?_map, List.getElem?_map, List.getElem?_map]
  by_cases h : i < hp.length
  · rw [q_range_get h, List.getElem?_eq_getElem h]
    simp [h]
  · rw [List.getElem?_eq_none (by rw [List.length_range]; omega), List.getElem?_eq_none (by omega)]
    rfl
theorem r_callV0 (C : q_Cx p s m args meth c cc nL own ret nm dC dI dA A α) (hok : q_Ok l y bytes maxL rt f lo avc hp Fc rvc hpE) (hy : q_cV y bytes maxL rt n) (hlk : Cond.methodLink own idx y ∈ q_T) (As rest : List Value) (b0 : Nat) (hrc : q_rc hp b0 y.cls) (st2 : τc → List Value) (hpn : τc → List va_E) (hav : avc = .ref b0 :: As) (hst : st = As.reverse ++ .ref b0 :: rest) (hlen : As.length = n) (hcat : (rest.map fun v => v.category).sum ≤ 8) (hR : f + 1 ≤ R.frames ∧ 8 + (maxL + 11) + lo ≤ R.locals) (hce : cells ≤ R.cells ∧ slots ≤ R.slots) (d : decode cc pc = .ok (.invokevirtual idx, 3)) (hes : ∀ u, hp.length = (hpE u).length) (hs2 : ∀ u, (rvc u).toList ++ rest = st2 u) (h2 : ∀ u, hpE u = hpn u) (k : ∀ u, q_S p l e R s m args below meth c nL dC dI dA A α Q cells slots (K u) t (pc + 3) lv (st2 u) (hpn u)) : q_S p l e R s m args below meth c nL dC dI dA A α Q cells slots (Fc.bind K) t pc lv st hp := by
  have em : ∀ es : List va_E, es.map (q_e (q_ix2 (List.range hp.length) hp.length) (fun t => t)) = es := fun es => by
    rw [q_ix_fun]
    exact (List.map_congr_left (fun x _ => q_e_id x)).trans (List.map_id' es)
  have ev : ∀ vs : List Value, vs.map (q_v (q_ix2 (List.range hp.length) hp.length)) = vs := fun vs => by
    rw [q_ix_fun]
    exact (List.map_congr_left (fun x _ => q_v_id x)).trans (List.map_id' vs)
  refine r_callV C hok hy hlk (List.range hp.length) As rest b0 hrc st2 hpn ?_ (q_nd_range _) (by rw [ev]; exact hav) hst hlen hcat hR hce d (fun u => by rw [List.length_range]; exact hes u) (fun u => ?_) (fun u => ?_) k
  · rw [em]
    exact (q_map_range hp).trans (by rw [List.map_id'])
  · rw [← hs2 u]
    congr 1
    cases rvc u with
    | none => rfl
    | some v => show [q_v _ v] = [v]; rw [q_ix_fun, q_v_id]
  · rw [em, q_put_range _ _ (hes u)]
    exact h2 u
end CALLS
