/-! objects are made: the places grow; places below n keep their addresses -/
def q_nv (n : Nat) : Value → Bool
  | .ref k => Nat.blt k n
  | _ => true
def q_ne (n : Nat) : va_E → Prop
  | .inl (_, _, .inr (.inr (.inr (.inr f)))) => ∀ i k, f i = some k → k < n
  | .inl _ => True
  | .inr (_, fs) => fs.all (q_nv n) = true
theorem q_v_re {α β : Nat → Nat} {n : Nat} (e : ∀ k, k < n → β k = α k) {v : Value} (h : q_nv n v = true) : q_v β v = q_v α v := by
  cases v with
  | ref k => show Value.ref (β k) = Value.ref (α k); rw [e k (by simpa [q_nv] using h)]
  | _ => rfl
theorem q_vs_re {α β : Nat → Nat} {n : Nat} (e : ∀ k, k < n → β k = α k) {vs : List Value} (h : vs.all (q_nv n) = true) : vs.map (q_v β) = vs.map (q_v α) :=
  List.map_congr_left fun v hv => q_v_re e (List.all_eq_true.mp h v hv)
theorem q_lv_re {α β : Nat → Nat} {n : Nat} (e : ∀ k, k < n → β k = α k) {lv : List (Nat × Value)} (h : (lv.map fun q => q.2).all (q_nv n) = true) : q_lv β lv = q_lv α lv := by
  unfold q_lv
  apply List.map_congr_left
  intro q hq
  rw [q_v_re e (List.all_eq_true.mp h q.2 (List.mem_map.mpr ⟨q, hq, rfl⟩))]
theorem q_e_re {α β : Nat → Nat} {dA : Nat → ClassId} {n : Nat} (e : ∀ k, k < n → β k = α k) {x : va_E} (h : q_ne n x) : q_e β dA x = q_e α dA x := by
  rcases x with ⟨t, m, f | f | f | f | f⟩ | ⟨ci, fs⟩
  · rfl
  · rfl
  · rfl
  · rfl
  · show Sum.inl (dA t, m, Sum.inr (Sum.inr (Sum.inr (Sum.inr fun i => (f i).map β)))) = Sum.inl (dA t, m, Sum.inr (Sum.inr (Sum.inr (Sum.inr fun i => (f i).map α))))
    have e1 : (fun i => (f i).map β) = fun i => (f i).map α := by
      funext i
      cases hi : f i with
      | none => rfl
      | some k => show some (β k) = some (α k); rw [e k (h i k hi)]
    rw [e1]
  · show Sum.inr (ci, fs.map (q_v β)) = Sum.inr (ci, fs.map (q_v α))
    rw [q_vs_re e h]
theorem q_w_re {α β : Nat → Nat} {dA : Nat → ClassId} {hp : List va_E} (e : ∀ k, k < 50 + hp.length → β k = α k) (h : ∀ x ∈ hp, q_ne (50 + hp.length) x) : q_w β dA hp = q_w α dA hp := by
  apply List.ext_getElem?
  intro i
  unfold q_w
  rw [List.getElem?_mapIdx, List.getElem?_mapIdx]
  cases hi : hp[i]? with
  | none => rfl
  | some x =>
    have hl := (List.getElem?_eq_some_iff.mp hi).1
    show some (β (50 + i), q_e β dA x) = some (α (50 + i), q_e α dA x)
    rw [e _ (by omega), q_e_re e (h x (List.mem_of_getElem? hi))]
theorem q_w_push {α β : Nat → Nat} {dA : Nat → ClassId} {hp : List va_E} {a : Nat} {x : va_E} (e : ∀ k, k < 50 + hp.length → β k = α k) (h : ∀ x ∈ hp, q_ne (50 + hp.length) x) (ha : β (50 + hp.length) = a) (y : va_E) (hy : q_e β dA x = y) : q_w α dA hp ++ [(a, y)] = q_w β dA (hp ++ [x]) := by
  subst ha
  subst hy
  rw [← q_w_re e h]
  unfold q_w
  rw [List.mapIdx_append]
  simp
section ALLOC
variable {p : Program} {l : Launch} {e : Env} {R : Room} {s : State} {m : MethodId} {args : Array Value} {below : List Frame} {meth : Method} {c : Code} {cc : ByteArray} {nL : Nat} {own nm : String} {ret : Option FieldType} {dC : Nat → ClassId} {dI : Nat → Nat → Nat} {dA : Nat → ClassId} {A : Nat → Prop} {α : Nat → Nat} {Q : State → Prop} {cells slots pc : Nat} {lv : List (Nat × Value)} {st : List Value} {hp : List va_E} {τ : Type} {F : Option τ} {t : τ}
theorem q_Cx.re (C : q_Cx p s m args meth c cc nL own ret nm dC dI dA A α) {β : Nat → Nat} (h : ∀ k, k < 50 → β k = α k) : q_Cx p s m args meth c cc nL own ret nm dC dI dA A β := by
  obtain ⟨h1, h2, h3, h4, h5, h6, h7, h8, h9, h10, h11⟩ := C
  exact ⟨h1, h2, h3, h4, h5, h6, h7, h8, h9, h10.re h, h11⟩
theorem r_hp {hp2 : List va_E} (h : hp = hp2) (k : q_S p l e R s m args below meth c nL dC dI dA A α Q cells slots F t pc lv st hp2) : q_S p l e R s m args below meth c nL dC dI dA A α Q cells slots F t pc lv st hp := h ▸ k
theorem q_ix_ok {x : Int32} {n : Nat} {G : Option τ} (h : ¬ (x < 0 ∨ n ≤ x.toNatClampNeg)) : G = q_ix x n G := by unfold q_ix; rw [if_neg h]
theorem r_new (C : q_Cx p s m args meth c cc nL own ret nm dC dI dA A α) {ci N idx : Nat} {C0 : String} {T : u_T} {ty : Nat → FieldType} (fs : List Value) (d : decode cc pc = .ok (.new idx, 3)) (KL : q_Kl ci C0 T N ty) (hcw : Cond.classLink own idx C0 ∈ q_T) (hins : Cond.instantiable C0 N ∈ q_T) (hini : Cond.initialized C0 ∈ q_T) (hfs : ∀ j, j < N → defaultValue (ty j) = vp_V fs j) (hf0 : fs.all (q_nv 0) = true) (hce : cells + 1 ≤ R.cells) (hsl : slots + N ≤ R.slots) (hcl : (lv.map fun q => q.2).all (q_nv (50 + hp.length)) = true) (hcs : st.all (q_nv (50 + hp.length)) = true) (hch : ∀ x ∈ hp, q_ne (50 + hp.length) x)
    (k : ∀ β : Nat → Nat, (∀ k, k < 50 + hp.length → β k = α k) → q_Cx p s m args meth c cc nL own ret nm dC dI dA A β → q_S p l e R s m args below meth c nL dC dI dA A β Q (cells + 1) (slots + N) F t (pc + 3) lv (.ref (50 + hp.length) :: st) (hp ++ [.inr (ci, fs)])) : q_S p l e R s m args below meth c nL dC dI dA A α Q cells slots F t pc lv st hp := by
  intro hF H locs ls hP hD hS hl
  refine va_new (D := (dC, dI)) (ci := ci) (fs := fs) C.1 C.2.1 C.2.2.2.2.1 KL.2.1 ty KL.2.2.1 C.2.2.2.1 (C.2.2.2.2.1 _ hcw) (C.2.2.2.2.1 _ hins) (C.2.2.2.2.1 _ hini) C.2.2.2.2.2.2.2.2.1 hP hD hS C.2.2.2.2.2.2.2.2.2.2 KL.1 hfs hce hsl d (fun q H1 hP1 hD1 hS1 => ?_)
  have hbe : ∀ k, k < 50 + hp.length → (fun k => if k = 50 + hp.length then q else α k) k = α k := fun k hk => by
    show (if k = 50 + hp.length then q else α k) = α k
    rw [if_neg (by omega)]
  have hbn : (fun k => if k = 50 + hp.length then q else α k) (50 + hp.length) = q := by
    show (if 50 + hp.length = 50 + hp.length then q else α (50 + hp.length)) = q
    rw [if_pos rfl]
  have k1 := k (fun k => if k = 50 + hp.length then q else α k) hbe (C.re fun k hk => hbe k (by omega)) hF
  have e9 := q_w_push (dA := dA) (x := .inr (ci, fs)) hbe hch hbn (.inr (ci, fs)) (by
    show Sum.inr (ci, fs.map (q_v _)) = _
    congr 2
    refine (List.map_congr_left fun v hv => ?_).trans (List.map_id' fs)
    have := List.all_eq_true.mp hf0 v hv
    cases v with
    | ref k => simp [q_nv] at this
    | _ => rfl)
  rw [e9] at hP1 hD1
  have k2 := k1 H1 locs ls hP1 hD1 hS1 (by rw [q_lv_re hbe hcl]; exact hl)
  rw [List.map_cons, q_vs_re hbe hcs] at k2
  have e8 : q_v (fun k => if k = 50 + hp.length then q else α k) (.ref (50 + hp.length)) = .ref q := congrArg Value.ref hbn
  rw [e8] at k2
  exact k2
theorem r_newi (C : q_Cx p s m args meth c cc nL own ret nm dC dI dA A α) {x : Int32} (n : Nat) (d : decode cc pc = .ok (.newarray .int, 2)) (hw : Cond.arrayClass .int ∈ q_T) (hn : ¬ x < 0) (hN : x.toNatClampNeg = n) (hb : n * componentBytes .int ≤ 536870912) (hce : cells + 1 ≤ R.cells) (hsl : slots + n ≤ R.slots) (hcl : (lv.map fun q => q.2).all (q_nv (50 + hp.length)) = true) (hcs : st.all (q_nv (50 + hp.length)) = true) (hch : ∀ x ∈ hp, q_ne (50 + hp.length) x)
    (k : ∀ β : Nat → Nat, (∀ k, k < 50 + hp.length → β k = α k) → q_Cx p s m args meth c cc nL own ret nm dC dI dA A β → q_S p l e R s m args below meth c nL dC dI dA A β Q (cells + 1) (slots + n) F t (pc + 2) lv (.ref (50 + hp.length) :: st) (hp ++ [.inl (0, n, .inl (fun _ => 0))])) : q_S p l e R s m args below meth c nL dC dI dA A α Q cells slots F t pc lv (.int x :: st) hp := by
  intro hF H locs ls hP hD hS hl
  refine va_newa (D := (dC, dI)) (atype := .int) (ty := .int) (a0 := (n, .inl (fun _ => 0))) C.1 C.2.1 (C.2.2.2.2.1 _ hw) rfl C.2.2.2.2.2.2.2.2.1 hP hD hS C.2.2.2.2.2.2.2.2.2.2 (fun _ => rfl) hn hN hb hce hsl d (fun q cA H1 hK1 hP1 hD1 hS1 => ?_)
  have ecA : cA = dA 0 := by
    have z1 := (hK1.2 4 (cA, .int) rfl).2
    have z2 := (hK1.2 0 (dA 0, .int) rfl).2
    exact Option.some.inj (z1.symm.trans z2)
  subst ecA
  have hbe : ∀ k, k < 50 + hp.length → (fun k => if k = 50 + hp.length then q else α k) k = α k := fun k hk => by
    show (if k = 50 + hp.length then q else α k) = α k
    rw [if_neg (by omega)]
  have hbn : (fun k => if k = 50 + hp.length then q else α k) (50 + hp.length) = q := by
    show (if 50 + hp.length = 50 + hp.length then q else α (50 + hp.length)) = q
    rw [if_pos rfl]
  have k1 := k (fun k => if k = 50 + hp.length then q else α k) hbe (C.re fun k hk => hbe k (by omega)) hF
  have e9 := q_w_push (dA := dA) (x := .inl (0, n, .inl (fun _ => 0))) hbe hch hbn (.inl (dA 0, n, .inl (fun _ => 0))) rfl
  rw [e9] at hP1 hD1
  have k2 := k1 H1 locs ls hP1 hD1 hS1 (by rw [q_lv_re hbe hcl]; exact hl)
  rw [List.map_cons, q_vs_re hbe hcs] at k2
  have e8 : q_v (fun k => if k = 50 + hp.length then q else α k) (.ref (50 + hp.length)) = .ref q := congrArg Value.ref hbn
  rw [e8] at k2
  exact k2
theorem r_newz (C : q_Cx p s m args meth c cc nL own ret nm dC dI dA A α) {x : Int32} (n : Nat) (d : decode cc pc = .ok (.newarray .boolean, 2)) (hw : Cond.arrayClass .boolean ∈ q_T) (hn : ¬ x < 0) (hN : x.toNatClampNeg = n) (hb : n * componentBytes .boolean ≤ 536870912) (hce : cells + 1 ≤ R.cells) (hsl : slots + n ≤ R.slots) (hcl : (lv.map fun q => q.2).all (q_nv (50 + hp.length)) = true) (hcs : st.all (q_nv (50 + hp.length)) = true) (hch : ∀ x ∈ hp, q_ne (50 + hp.length) x)
    (k : ∀ β : Nat → Nat, (∀ k, k < 50 + hp.length → β k = α k) → q_Cx p s m args meth c cc nL own ret nm dC dI dA A β → q_S p l e R s m args below meth c nL dC dI dA A β Q (cells + 1) (slots + n) F t (pc + 2) lv (.ref (50 + hp.length) :: st) (hp ++ [.inl (1, n, .inl (fun _ => 0))])) : q_S p l e R s m args below meth c nL dC dI dA A α Q cells slots F t pc lv (.int x :: st) hp := by
  intro hF H locs ls hP hD hS hl
  refine va_newa (D := (dC, dI)) (atype := .boolean) (ty := .boolean) (a0 := (n, .inl (fun _ => 0))) C.1 C.2.1 (C.2.2.2.2.1 _ hw) rfl C.2.2.2.2.2.2.2.2.1 hP hD hS C.2.2.2.2.2.2.2.2.2.2 (fun _ => rfl) hn hN hb hce hsl d (fun q cA H1 hK1 hP1 hD1 hS1 => ?_)
  have ecA : cA = dA 1 := by
    have z1 := (hK1.2 4 (cA, .boolean) rfl).2
    have z2 := (hK1.2 1 (dA 1, .boolean) rfl).2
    exact Option.some.inj (z1.symm.trans z2)
  subst ecA
  have hbe : ∀ k, k < 50 + hp.length → (fun k => if k = 50 + hp.length then q else α k) k = α k := fun k hk => by
    show (if k = 50 + hp.length then q else α k) = α k
    rw [if_neg (by omega)]
  have hbn : (fun k => if k = 50 + hp.length then q else α k) (50 + hp.length) = q := by
    show (if 50 + hp.length = 50 + hp.length then q else α (50 + hp.length)) = q
    rw [if_pos rfl]
  have k1 := k (fun k => if k = 50 + hp.length then q else α k) hbe (C.re fun k hk => hbe k (by omega)) hF
  have e9 := q_w_push (dA := dA) (x := .inl (1, n, .inl (fun _ => 0))) hbe hch hbn (.inl (dA 1, n, .inl (fun _ => 0))) rfl
  rw [e9] at hP1 hD1
  have k2 := k1 H1 locs ls hP1 hD1 hS1 (by rw [q_lv_re hbe hcl]; exact hl)
  rw [List.map_cons, q_vs_re hbe hcs] at k2
  have e8 : q_v (fun k => if k = 50 + hp.length then q else α k) (.ref (50 + hp.length)) = .ref q := congrArg Value.ref hbn
  rw [e8] at k2
  exact k2
theorem r_newq (C : q_Cx p s m args meth c cc nL own ret nm dC dI dA A α) {x : Int32} {idx tag : Nat} {Cn : String} (n : Nat) (d : decode cc pc = .ok (.anewarray idx, 3)) (hcw : Cond.classLink own idx Cn ∈ q_T) (hov : va_AO Cn s) (htag : (q_tys dA)[tag]? = some (dA tag, .object Cn)) (hn : ¬ x < 0) (hN : x.toNatClampNeg = n) (hb : n * 4 ≤ 536870912) (hce : cells + 1 ≤ R.cells) (hsl : slots + n ≤ R.slots) (hcl : (lv.map fun q => q.2).all (q_nv (50 + hp.length)) = true) (hcs : st.all (q_nv (50 + hp.length)) = true) (hch : ∀ x ∈ hp, q_ne (50 + hp.length) x)
    (k : ∀ β : Nat → Nat, (∀ k, k < 50 + hp.length → β k = α k) → q_Cx p s m args meth c cc nL own ret nm dC dI dA A β → q_S p l e R s m args below meth c nL dC dI dA A β Q (cells + 1) (slots + n) F t (pc + 3) lv (.ref (50 + hp.length) :: st) (hp ++ [.inl (tag, n, .inr (.inr (.inr (.inr (fun _ => none)))))])) : q_S p l e R s m args below meth c nL dC dI dA A α Q cells slots F t pc lv (.int x :: st) hp := by
  intro hF H locs ls hP hD hS hl
  refine va_newq (D := (dC, dI)) (C := Cn) C.1 C.2.1 C.2.2.2.1 (C.2.2.2.2.1 _ hcw) hov C.2.2.2.2.2.2.2.2.1 hP hD hS C.2.2.2.2.2.2.2.2.2.2 hn hN hb hce hsl d (fun q cA H1 hK1 hP1 hD1 hS1 => ?_)
  have ecA : cA = dA tag := by
    obtain ⟨_, _, _, _, _, z1⟩ := (hK1.2 4 (cA, .object Cn) rfl).2
    have h5 : (q_tys dA ++ [(cA, FieldType.object Cn)])[tag]? = some (dA tag, .object Cn) := by
      rw [List.getElem?_append_left (List.getElem?_eq_some_iff.mp htag).1]
      exact htag
    obtain ⟨_, _, _, _, _, z2⟩ := (hK1.2 tag (dA tag, .object Cn) h5).2
    exact Option.some.inj (z1.symm.trans z2)
  subst ecA
  have hbe : ∀ k, k < 50 + hp.length → (fun k => if k = 50 + hp.length then q else α k) k = α k := fun k hk => by
    show (if k = 50 + hp.length then q else α k) = α k
    rw [if_neg (by omega)]
  have hbn : (fun k => if k = 50 + hp.length then q else α k) (50 + hp.length) = q := by
    show (if 50 + hp.length = 50 + hp.length then q else α (50 + hp.length)) = q
    rw [if_pos rfl]
  have k1 := k (fun k => if k = 50 + hp.length then q else α k) hbe (C.re fun k hk => hbe k (by omega)) hF
  have e9 := q_w_push (dA := dA) (x := .inl (tag, n, .inr (.inr (.inr (.inr (fun _ => none)))))) hbe hch hbn (.inl (dA tag, n, .inr (.inr (.inr (.inr (fun _ => none)))))) rfl
  rw [e9] at hP1 hD1
  have k2 := k1 H1 locs ls hP1 hD1 hS1 (by rw [q_lv_re hbe hcl]; exact hl)
  rw [List.map_cons, q_vs_re hbe hcs] at k2
  have e8 : q_v (fun k => if k = 50 + hp.length then q else α k) (.ref (50 + hp.length)) = .ref q := congrArg Value.ref hbn
  rw [e8] at k2
  exact k2
theorem r_astq (C : q_Cx p s m args meth c cc nL own ret nm dC dI dA A α) {n y v ci tag : Nat} {C0 : String} {T : u_T} {N : Nat} {ty : Nat → FieldType} {vs : List Value} {f : Nat → Option Nat} {x : Int32} (i iv : Nat) (hp2 : List va_E) (d : decode cc pc = .ok (.aastore, 1)) (KL : q_Kl ci C0 T N ty) (hk : 50 + i = y) (hkv : 50 + iv = v) (he : hp[i]? = some (.inl (tag, n, .inr (.inr (.inr (.inr f)))))) (hev : hp[iv]? = some (.inr (ci, vs))) (htag : (q_tys dA)[tag]? = some (dA tag, .object C0)) (hin : vp_in x n) (h2 : hp.set i (.inl (tag, n, .inr (.inr (.inr (.inr (va_up f x.toNatClampNeg (some v))))))) = hp2)
    (k : q_S p l e R s m args below meth c nL dC dI dA A α Q cells slots F t (pc + 1) lv st hp2) : q_S p l e R s m args below meth c nL dC dI dA A α Q cells slots F t pc lv (.ref v :: .int x :: .ref y :: st) hp := by
  intro hF H locs ls hP hD hS hl
  subst hk
  subst h2
  have e9 : ((q_w α dA hp).set i (α (50 + i), .inl (dA tag, n, .inr (.inr (.inr (.inr (va_up (fun j => (f j).map α) x.toNatClampNeg (some (α v))))))))) = q_w α dA (hp.set i (.inl (tag, n, .inr (.inr (.inr (.inr (va_up f x.toNatClampNeg (some v)))))))) := by
    rw [← q_w_set]
    have e0 : (fun j => (va_up f x.toNatClampNeg (some v) j).map α) = va_up (fun j => (f j).map α) x.toNatClampNeg (some (α v)) := by
      funext j
      unfold va_up
      by_cases h : j = x.toNatClampNeg
      · rw [if_pos h, if_pos h]; rfl
      · rw [if_neg h, if_neg h]
    show _ = (q_w α dA hp).set i (α (50 + i), .inl (dA tag, n, .inr (.inr (.inr (.inr (fun j => (va_up f x.toNatClampNeg (some v) j).map α))))))
    rw [e0]
  refine va_astq (D := (dC, dI)) (r := (C0, T, N)) (v := α v) C.1 C.2.1 C.2.2.2.2.2.2.2.2.1 hP hD hS i tag iv ci (q_w_get he) htag (by rw [q_w_get hev, hkv]; rfl) KL.1 hin d (fun H1 locs1 hP1 hD1 hS1 => ?_)
  rw [e9] at hP1 hD1
  exact k hF H1 locs1 ls hP1 hD1 hS1 hl
theorem r_astS (C : q_Cx p s m args meth c cc nL own ret nm dC dI dA A α) {n y j : Nat} {f : Nat → Option Nat} {x : Int32} (i : Nat) (hp2 : List va_E) (d : decode cc pc = .ok (.aastore, 1)) (hk : 50 + i = y) (hj : j < 13) (he : hp[i]? = some (.inl (3, n, .inr (.inr (.inr (.inr f)))))) (hin : vp_in x n) (h2 : hp.set i (.inl (3, n, .inr (.inr (.inr (.inr (va_up f x.toNatClampNeg (some j))))))) = hp2)
    (k : q_S p l e R s m args below meth c nL dC dI dA A α Q cells slots F t (pc + 1) lv st hp2) : q_S p l e R s m args below meth c nL dC dI dA A α Q cells slots F t pc lv (.ref j :: .int x :: .ref y :: st) hp := by
  intro hF H locs ls hP hD hS hl
  subst hk
  subst h2
  have e9 : ((q_w α dA hp).set i (α (50 + i), .inl (dA 3, n, .inr (.inr (.inr (.inr (va_up (fun z => (f z).map α) x.toNatClampNeg (some (α j))))))))) = q_w α dA (hp.set i (.inl (3, n, .inr (.inr (.inr (.inr (va_up f x.toNatClampNeg (some j)))))))) := by
    rw [← q_w_set]
    have e0 : (fun z => (va_up f x.toNatClampNeg (some j) z).map α) = va_up (fun z => (f z).map α) x.toNatClampNeg (some (α j)) := by
      funext z
      unfold va_up
      by_cases h : z = x.toNatClampNeg
      · rw [if_pos h, if_pos h]; rfl
      · rw [if_neg h, if_neg h]
    show _ = (q_w α dA hp).set i (α (50 + i), .inl (dA 3, n, .inr (.inr (.inr (.inr (fun z => (va_up f x.toNatClampNeg (some j) z).map α))))))
    rw [e0]
  refine vb_astq (D := (dC, dI)) (E := "java/lang/String") (C := "java/lang/String") (v := α j) C.1 C.2.1 C.2.2.2.2.2.2.2.2.1 hP hD hS i 3 (q_w_get he) rfl (vk_recv C.2.2.2.2.2.2.2.2.2.1.1 hj hS) (fun comp c0 z1 z2 => by rw [Option.some.inj (z1.symm.trans z2)]; exact va_asg _ _) hin d (fun H1 locs1 hP1 hD1 hS1 => ?_)
  rw [e9] at hP1 hD1
  exact k hF H1 locs1 ls hP1 hD1 hS1 hl
theorem r_init (C : q_Cx p s m args meth c cc nL own ret nm dC dI dA A α) {idx x : Nat} (d : decode cc pc = .ok (.invokespecial idx, 3)) (hlk : Cond.methodLink own idx Lib.objectInit ∈ q_T) (hin : Cond.instanceMethod Lib.objectInit ∈ q_T) (hco : Cond.code Lib.objectInit ⟨#[0xb1]⟩ 1 none ∈ q_T) (hfr : 1 ≤ R.frames) (hlo : (st.map fun v => v.category).sum + 12 ≤ R.locals) (k : q_S p l e R s m args below meth c nL dC dI dA A α Q cells slots F t (pc + 3) lv st hp) : q_S p l e R s m args below meth c nL dC dI dA A α Q cells slots F t pc lv (.ref x :: st) hp := by
  intro hF H locs ls hP hD hS hl
  exact W.objInit C.1 C.2.1 C.2.2.2.1 (C.2.2.2.2.1 _ hlk) (C.2.2.2.2.1 _ hin) (C.2.2.2.2.1 _ hco) rfl (hl.1.trans C.2.2.1.symm) rfl d hfr (by show 2 * 0 + _ + 12 ≤ _; rw [q_cat_sum]; omega) (k hF H locs ls hP hD hS hl)
theorem r_retvN {rv : τ → Option Value} {hpE : τ → List va_E} {t0 : τ} {α0 : Nat → Nat} {n0 : Nat} (C : q_Cx p s m args meth c cc nL own ret nm dC dI dA A α) (hβ : ∀ k, k < 50 + n0 → α k = α0 k) (d : decode cc pc = .ok (.return_, 1)) (hr : ret = none) (h1 : rv t0 = none) (h2 : hpE t0 = hp) : q_S p l e R s m args below meth c nL dC dI dA A α (MQ below (q_QN n0 α0 dC dI dA A (rv t) (hpE t)) args s cells slots A) cells slots (some t0) t pc lv [] hp := fun hF H locs ls hP hD hS hl => by
  cases hF
  subst h2
  exact W.vret C.1 C.2.1 (C.2.2.2.2.2.1.trans hr) (fun t1 ht hW => ⟨⟨α, hβ, by rw [h1]; rfl, by rw [ht]; exact hP, va_K.moved hW.alike C.2.2.2.2.2.2.2.2.1, hD⟩, hS.F ht⟩) hS.2.2 d C.2.2.2.2.2.2.1
def q_AO (s : State) : Prop := va_AO "PunchByHeart$Sheet" s ∧ va_AO "java/lang/String" s
theorem q_AO.moved {u U : State} (hvm : u.vm.Alike U.vm) (h : q_AO u) : q_AO U := ⟨h.1.moved hvm, h.2.moved hvm⟩
def q_PcN (α : Nat → Nat) (dC : Nat → ClassId) (dI : Nat → Nat → Nat) (dA : Nat → ClassId) (sz : Nat) (av : List Value) (hp : List va_E) : Array Value → State → Prop := fun a U => q_Pc α dC dI dA sz av hp a U ∧ q_AO U
theorem q_PcN_blind {α : Nat → Nat} {dC : Nat → ClassId} {dI : Nat → Nat → Nat} {dA : Nat → ClassId} {sz : Nat} {av : List Value} {hp : List va_E} : FrameBlind (q_PcN α dC dI dA sz av hp) := fun a U g mk ⟨h1, h2⟩ => ⟨q_Pc_blind a U g mk h1, q_AO.moved (u := U) (U := U.calling g mk a) (Vm.Alike.refl U.vm) h2⟩
/-- a constructor's contract: it makes mc cells of ms slots -/
def q_OkC (l : Launch) (y : MethodName) (bytes : ByteArray) (maxL : Nat) (ret : Option FieldType) (f lo mc ms : Nat) (av : List Value) (hp : List va_E) {τ : Type} (F : Option τ) (rv : τ → Option Value) (hpE : τ → List va_E) : Prop :=
  ∀ t, F = some t → ∀ (dC : Nat → ClassId) (dI : Nat → Nat → Nat) (dA : Nat → ClassId) (α : Nat → Nat) (sz : Nat),
    Met l y (.code y bytes maxL ret :: q_T) (q_rmN f lo mc ms) (q_PcN α dC dI dA sz av hp) (q_QN hp.length α dC dI dA (va_A (q_w α dA hp) sz) (rv t) (hpE t)) mc ms (va_A (q_w α dA hp) sz)
theorem q_enterN {y : MethodName} {bytes : ByteArray} {maxL : Nat} {ret : Option FieldType} {f lo mc ms : Nat} {av : List Value} {hp : List va_E} {τ : Type} {F : Option τ} {rv : τ → Option Value} {hpE : τ → List va_E} (hy : plainName y.cls = true) (hlen : (lg_sl av).length ≤ maxL)
    (body : ∀ t p e s m args below meth c dC dI dA A α, q_AO s → q_Cx p s m args meth c bytes maxL y.cls ret y.name dC dI dA A α → q_S p l e (q_rmN f lo mc ms) s m args below meth c maxL dC dI dA A α (MQ below (q_QN hp.length α dC dI dA A (rv t) (hpE t)) args s mc ms A) 0 0 F t 0 (lv_args 0 av) [] hp) : q_OkC l y bytes maxL ret f lo mc ms av hp F rv hpE := by
  intro t hF dC dI dA α sz
  refine Met.ofW (cc := bytes) (maxL := maxL) (ret := ret) hy rfl ?_
  intro p e s m args below meth c s₁ B hml hv
  obtain ⟨⟨rfl, hsz, hP, hK, hD0, hG⟩, hAO⟩ := hv
  have hts := atoms_spec (ws := .code y bytes maxL ret :: q_T) B.pre
  have hown : s.vm.findClass y.cls = some m.cls := findClass_of_methodNamed B.named
  subst hsz
  have hD := hD0.self (sz := s.heap.size)
  have hC : q_Cx p s m (av.map (q_v α)).toArray meth c bytes maxL y.cls ret y.name dC dI dA (va_A (q_w α dA hp) s.heap.size) α := ⟨B.exec, B.bytes, hml, hown, fun w hw => hts w (List.mem_cons_of_mem _ hw), B.returns, B.notSynchronized, (name_of_methodNamed B.named B.method).1, hK, hG, fun q h => Or.inr h⟩
  have hlen' : (lg_sl (av.map (q_v α))).length ≤ maxL := by
    have h1 : ∀ vs : List Value, (lg_sl (vs.map (q_v α))).length = (lg_sl vs).length := by
      intro vs
      induction vs with
      | nil => rfl
      | cons v vs ih =>
        simp only [lg_sl, List.map_cons, List.flatMap_cons, List.length_append] at ih ⊢
        rw [ih]
        cases v <;> rfl
    rw [h1]; exact hlen
  have hl := lv_entry (av.map (q_v α)) (n := maxL) hlen'
  rw [q_args] at hl
  rw [lg_entry_eq]
  exact body t p e s m _ below meth c dC dI dA _ α hAO hC hF s.heap [] _ hP hD va_S.rf hl
theorem r_callI {y : MethodName} {bytes : ByteArray} {maxL n idx f lo mc ms : Nat} {avc : List Value} {hpc : List va_E} {τc : Type} {Fc : Option τc} {rvc : τc → Option Value} {hpE : τc → List va_E} {K : τc → Option τ} (C : q_Cx p s m args meth c cc nL own ret nm dC dI dA A α) (hAO : q_AO s) (hok : q_OkC l y bytes maxL none f lo mc ms avc hpc Fc rvc hpE) (hy : q_cI y bytes maxL n) (hlk : Cond.methodLink own idx y ∈ q_T) (ρ : List Nat) (As rest : List Value) (b0 : Nat) (hpn : τc → List va_E)
    (hρ : ρ.map (fun i => hp[i]?) = (hpc.map (q_e (q_ix2 ρ hp.length) (fun t => t))).map some) (hn : va_nd ρ = true) (hav : avc.map (q_v (q_ix2 ρ hp.length)) = .ref b0 :: As) (hst : st = As.reverse ++ .ref b0 :: rest) (hlen : As.length = n) (hcat : (rest.map fun v => v.category).sum ≤ 8) (hR : f + 1 ≤ R.frames ∧ 8 + (maxL + 11) + lo ≤ R.locals) (hce : cells + mc ≤ R.cells ∧ slots + ms ≤ R.slots) (d : decode cc pc = .ok (.invokespecial idx, 3)) (hes : ∀ u, ρ.length ≤ (hpE u).length) (hrv : ∀ u, rvc u = none) (h2 : ∀ u, q_put hp ρ ((hpE u).map (q_e (q_ix2 ρ hp.length) (fun t => t))) = hpn u)
    (hcl : (lv.map fun q => q.2).all (q_nv (50 + hp.length)) = true) (hcs : rest.all (q_nv (50 + hp.length)) = true) (hch : ∀ x ∈ hp, q_ne (50 + hp.length) x)
    (k : ∀ u β, (∀ k, k < 50 + hp.length → β k = α k) → q_Cx p s m args meth c cc nL own ret nm dC dI dA A β → q_S p l e R s m args below meth c nL dC dI dA A β Q (cells + mc) (slots + ms) (K u) t (pc + 3) lv rest (hpn u)) : q_S p l e R s m args below meth c nL dC dI dA A α Q cells slots (Fc.bind K) t pc lv st hp := by
  intro hF
  cases hFc : Fc with
  | none => rw [hFc] at hF; cases hF
  | some u =>
    have hF : K u = some t := by rw [hFc] at hF; exact hF
    intro H locs ls hP hD hS hl
    subst hst
    have hM := hok u hFc dC dI dA (fun k => α (q_ix2 ρ hp.length k)) H.size
    have hfix : CallFix p m c cc nL s args q_T own := ⟨C.1, C.2.1, C.2.2.1, C.2.2.2.1, C.2.2.2.2.1⟩
    have hpre := q_preOf (As := .ref b0 :: As) C hρ hn hav hP hD hS
    obtain ⟨h0, hlt, hcut⟩ := q_cut (α := α) (dA := dA) hρ
    have hFc2 : ∀ q, va_A (q_w (fun k => α (q_ix2 ρ hp.length k)) dA hpc) H.size q → A q := va_free hD hS C.2.2.2.2.2.2.2.2.2.2 ρ hcut
    have hG : GoodIn q_T (.code y bytes maxL none :: q_T) := fun w hw => q_goodW hy.1 [] (fun _ h => by cases h) w hw
    have hr := va_runI (e := e) (locs := locs) (meth := meth) (below := below) (As := As.map (q_v α)) (rest := rest.map (q_v α)) (g := F0 m pc ls ((As.reverse ++ .ref b0 :: rest).map (q_v α))) hfix hM (cwI n C.2.2.2.2.1 hG rfl rfl rfl (C.2.2.2.2.1 _ hy.2.2.1) (C.2.2.2.2.1 _ hlk) (C.2.2.2.2.1 _ hy.2.1) hy.2.2.2.2.2.2 ⟨hy.2.2.2.1, hy.2.2.2.2.1, hy.2.2.2.2.2.1⟩ hR) ⟨q_PcN_blind, fun U hU hW => ⟨hpre U hU hW, hAO.moved hW.alike⟩⟩ rfl (by rw [List.length_map]; exact hlen) hl.1 (by rw [List.map_append, List.map_reverse]; rfl) (lv_room (by rw [q_cat_sum]; exact hcat)) d hce
    intro T hT X
    obtain ⟨v, st₀, t1, T', L, g1, X', hL, e1, e2, ⟨⟨γ, hγ, hv, hP1, hK1, hD1⟩, hz, hk⟩, stp⟩ := hr T hT X
    rw [g1] at hz hk
    rw [← e1] at hP1 hz hk
    have hv' : v = none := by
      injection hv with hv
      rw [hv, hrv u]
      rfl
    have lt' : ∀ a, a < ρ.length → ρ.getD a 0 < hp.length := fun a ha => by
      rw [List.getD_eq_getElem?_getD, List.getElem?_eq_getElem ha]
      exact hlt _ (List.getElem_mem ha)
    have hβ : ∀ k, k < 50 + hp.length → (fun k => if k < 50 + hp.length then α k else γ (50 + ρ.length + (k - 50 - hp.length))) k = α k := fun k hk => by
      show (if k < 50 + hp.length then α k else _) = α k
      rw [if_pos hk]
    have eγ : γ = fun k => (fun k => if k < 50 + hp.length then α k else γ (50 + ρ.length + (k - 50 - hp.length))) (q_ix2 ρ hp.length k) := by
      funext k
      show γ k = if q_ix2 ρ hp.length k < 50 + hp.length then α (q_ix2 ρ hp.length k) else γ (50 + ρ.length + (q_ix2 ρ hp.length k - 50 - hp.length))
      by_cases a : k < 50
      · have e3 : q_ix2 ρ hp.length k = k := by unfold q_ix2; rw [if_pos a]
        have e4 : γ k = α (q_ix2 ρ hp.length k) := hγ k (by omega)
        rw [if_pos (by rw [e3]; omega)]
        exact e4
      · by_cases b : k - 50 < ρ.length
        · have e3 : q_ix2 ρ hp.length k = 50 + ρ.getD (k - 50) 0 := by unfold q_ix2; rw [if_neg a, if_pos b]
          have e4 : γ k = α (q_ix2 ρ hp.length k) := hγ k (by omega)
          have := lt' _ b
          rw [if_pos (by rw [e3]; omega)]
          exact e4
        · have e3 : q_ix2 ρ hp.length k = 50 + hp.length + (k - 50 - ρ.length) := by unfold q_ix2; rw [if_neg a, if_neg b]
          rw [e3, if_neg (by omega)]
          congr 1
          omega
    rw [eγ] at hP1 hD1
    obtain ⟨jP, jD⟩ := q_join (A := A) (β := fun k => if k < 50 + hp.length then α k else γ (50 + ρ.length + (k - 50 - hp.length))) hn hρ (hes u) hβ (fun i x hx => q_e_re hβ (hch x (List.mem_of_getElem? hx))) hP hD (fun q a b => hk q a b) hFc2 hP1 hD1
    rw [h2 u] at jP jD
    have hS1 : va_S A s.heap T'.heap (locs ++ L) := ⟨Nat.le_trans hS.1 hz, fun q a b => by
        rw [hk q (Nat.lt_of_lt_of_le a hS.1) (fun z => b (hFc2 q z))]
        exact hS.2.1 q a b, fun q hq => by
        rcases List.mem_append.mp hq with h | h
        · exact hS.2.2 q h
        · exact hFc2 _ (hL q h)⟩
    obtain ⟨t2, a1, b1⟩ := k u _ hβ (C.re fun k hk => hβ k (by omega)) hF T'.heap (locs ++ L) ls jP jD hS1 (by rw [q_lv_re hβ hcl]; exact hl) T' rfl X'
    refine ⟨t2, stp t2 ?_, b1⟩
    rw [q_vs_re hβ hcs] at a1
    rw [hv']
    exact a1
end ALLOC
