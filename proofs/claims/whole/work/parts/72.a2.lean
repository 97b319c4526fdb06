/-! rows looked at, and changed, at an index that is looked at first -/
theorem q_knw {σ τ : Type} {f : Option σ} {u0 : σ} (hf : f = some u0) {F : Option τ} : F = Option.bind f (fun u => @ite _ (u = u0) (Classical.propDecidable _) F none) := by
  rw [hf]
  exact (if_pos rfl).symm
theorem q_kix {τ : Type} {x : Int32} {n : Nat} {A : Option τ} (h : vp_in x n) : q_ix x n A = A := if_neg h
theorem q_kge {x : Int32} {n : Nat} (hn : n < 2147483648) (h : vp_in x n) : ¬ Int32.ofNat n ≤ x := fun z => h (by
  by_cases hx : x < 0
  · exact Or.inl hx
  · refine Or.inr ?_
    have h0 : 0 ≤ x.toInt := by
      have := Int.not_lt.mp (fun q => hx (Int32.lt_iff_toInt_lt.mpr q))
      rw [show (0 : Int32).toInt = 0 from by decide] at this
      omega
    have h1 := Int32.le_iff_toInt_le.mp z
    rw [Int32.toInt_ofNat_of_lt hn] at h1
    have : ((x.toNatClampNeg : Nat) : Int) = x.toInt := by
      rw [← Int32.toNat_toInt, Int.toNat_of_nonneg h0]
    omega)
section KN
variable {p : Program} {l : Launch} {e : Env} {R : Room} {s : State} {m : MethodId} {args : Array Value} {below : List Frame} {meth : Method} {c : Code} {nL : Nat} {dC : Nat → ClassId} {dI : Nat → Nat → Nat} {dA : Nat → ClassId} {A : Nat → Prop} {α : Nat → Nat} {Q : State → Prop} {cells slots pc : Nat} {lv : List (Nat × Value)} {st : List Value} {hp : List va_E} {σ τ : Type} {F : Option τ} {t : τ}
theorem r_kn {u u0 : σ} (k : u = u0 → q_S p l e R s m args below meth c nL dC dI dA A α Q cells slots F t pc lv st hp) : q_S p l e R s m args below meth c nL dC dI dA A α Q cells slots (@ite _ (u = u0) (Classical.propDecidable _) F none) t pc lv st hp := fun hF => by
  by_cases h : u = u0
  · rw [if_pos h] at hF; exact k h hF
  · rw [if_neg h] at hF; cases hF
end KN
theorem o_X4_at (l : Launch) (n : Nat) (hn : n < 2147483648) (g : Nat → Int32) (i : Int32) : q_Ok l yX4_at cX4_at 2 (some .int) 0 0 [.ref 50, .int i] [.inl (0, n, .inl g)] (q_ix i n (some (g i.toNatClampNeg))) (fun u => some (.int u)) (fun _ => [.inl (0, n, .inl g)]) := by
  refine q_enter (by decide +kernel) (Nat.le_of_ble_eq_true rfl) (fun t p e s m args below meth c dC dI dA A α C => ?_)
  show q_S p l e (q_rm 0 0) s m args below meth c 2 dC dI dA A α (MQ below (q_Q α dC dI dA A ((fun u => some (.int u)) t) ((fun _ => [.inl (0, n, .inl g)]) t)) args s 0 0 A) 0 0 _ t 0 [(0, .ref 50), (1, .int i)] [] ([.inl (0, n, .inl g)])
  refine r_gix (fun hi => ?_)
  refine r_iload_n C 1 dX4_at_0 rfl ?_
  refine r_cut (F := if i < 0 then none else some (g i.toNatClampNeg)) (if_neg (fun z => hi (Or.inl z))).symm ?_
  refine r_if_lt C 16 dX4_at_1 (by decide) (fun h => absurd (Or.inl h) hi) (fun _ => ?_)
  refine r_iload_n C 1 dX4_at_4 rfl ?_
  refine r_aload_n C 0 dX4_at_5 rfl ?_
  refine r_alen C 0 (Int32.ofNat n) dX4_at_6 rfl rfl rfl rfl ?_
  refine r_cut (F := if Int32.ofNat n ≤ i then none else some (g i.toNatClampNeg)) (if_neg (q_kge hn hi)).symm ?_
  refine r_icmp_ge C 16 dX4_at_7 (by decide) (fun h => absurd h (q_kge hn hi)) (fun _ => ?_)
  refine r_aload_n C 0 dX4_at_10 rfl ?_
  refine r_iload_n C 1 dX4_at_11 rfl ?_
  refine r_cut (F := q_ix i n (some (g i.toNatClampNeg))) (q_kix hi).symm ?_
  refine r_iald C 0 dX4_at_12 rfl rfl (fun _ => ?_)
  refine r_goto C 18 dX4_at_13 (by decide) ?_
  exact r_reti (x := g i.toNatClampNeg) (rv := (fun u => some (.int u))) (hpE := (fun _ => [.inl (0, n, .inl g)])) (t0 := g i.toNatClampNeg) C dX4_at_18 (by rfl) (by rfl) (by rfl)
theorem o_X4_put (l : Launch) (n : Nat) (hn : n < 2147483648) (g : Nat → Int32) (i v : Int32) : q_Ok l yX4_put cX4_put 3 none 0 0 [.ref 50, .int i, .int v] [.inl (0, n, .inl g)] (q_ix i n (some (upd g i.toNatClampNeg v))) (fun _ => none) (fun u => [.inl (0, n, .inl u)]) := by
  refine q_enter (by decide +kernel) (Nat.le_of_ble_eq_true rfl) (fun t p e s m args below meth c dC dI dA A α C => ?_)
  show q_S p l e (q_rm 0 0) s m args below meth c 3 dC dI dA A α (MQ below (q_Q α dC dI dA A ((fun _ => none) t) ((fun u => [.inl (0, n, .inl u)]) t)) args s 0 0 A) 0 0 _ t 0 [(0, .ref 50), (1, .int i), (2, .int v)] [] ([.inl (0, n, .inl g)])
  refine r_gix (fun hi => ?_)
  refine r_iload_n C 1 dX4_put_0 rfl ?_
  refine r_cut (F := if i < 0 then none else some (upd g i.toNatClampNeg v)) (if_neg (fun z => hi (Or.inl z))).symm ?_
  refine r_if_lt C 14 dX4_put_1 (by decide) (fun h => absurd (Or.inl h) hi) (fun _ => ?_)
  refine r_iload_n C 1 dX4_put_4 rfl ?_
  refine r_aload_n C 0 dX4_put_5 rfl ?_
  refine r_alen C 0 (Int32.ofNat n) dX4_put_6 rfl rfl rfl rfl ?_
  refine r_cut (F := if Int32.ofNat n ≤ i then none else some (upd g i.toNatClampNeg v)) (if_neg (q_kge hn hi)).symm ?_
  refine r_icmp_ge C 14 dX4_put_7 (by decide) (fun h => absurd h (q_kge hn hi)) (fun _ => ?_)
  refine r_aload_n C 0 dX4_put_10 rfl ?_
  refine r_iload_n C 1 dX4_put_11 rfl ?_
  refine r_iload_n C 2 dX4_put_12 rfl ?_
  refine r_cut (F := q_ix i n (some (upd g i.toNatClampNeg v))) (q_kix hi).symm ?_
  refine r_iast C 0 _ dX4_put_13 rfl rfl rfl (fun _ => ?_)
  exact r_retv (rv := (fun _ => none)) (hpE := (fun u => [.inl (0, n, .inl u)])) (t0 := upd g i.toNatClampNeg v) C dX4_put_14 (by rfl) (by rfl) (by rfl)
