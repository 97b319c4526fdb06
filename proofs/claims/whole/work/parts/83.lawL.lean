def R_law : String := "PunchByHeartLaw"
def lw_P (b : Addr) (xs : List Int32) (args : Array Value) (s : State) : Prop := args = #[.ref b] ∧ s.IntsAt b xs ∧ xs.length ≤ 3072 ∧ (Jvm.Cond.and given_1 narrow_1).before args s = true
def lw_Q (_ : Array Value) (s : State) (o : Outcome) (t : State) : Prop := o = .returned (some (.int 1)) ∧ Framed s o t [] 600000 7302250
def lw_Z (below : List Frame) (a : Array Value) (s : State) : State → Prop := fun t => ∃ o, t.status = .running ∧ Ended t below o ∧ lw_Q a s o t
/-- the law's own end, with 1 on the stack, nothing written that was there before, its room as the claim has it -/
theorem lw_ret {p : Program} {l : Launch} {e : Env} {s : State} {m : MethodId} {below : List Frame} {meth : Method} {c : Code} {b : Nat} (hx : p.tables.exec = Jvm.exec) (hb : c.code = code) (hr : meth.sig.returnType = ret) (hlocks : meth.locks = false) {pc : Nat} {H : Heap} {ls : Array Slot} (hdg : decode code pc = .ok (.ireturn, 1)) : W p l e room_1 s m #[Value.ref b] below meth c H [] 600000 7302250 (lw_Z below #[Value.ref b] s) (F0 m pc ls [.int 1]) := by
  intro T hT X
  obtain ⟨fs, hret, hrun, hended, hW, hframe⟩ := X.leave (v := some (.int 1)) (hlocks := hlocks) (fun h => by rw [hr] at h; cases h)
  have hmeth' : T.vm.method? m = some meth := X.method'
  refine ⟨T.setFrames fs, ?_, .returned (some (.int 1)), hrun, hended, rfl, ⟨_, rfl⟩, hW, hframe⟩
  jvm_step X.here [X.here.top, hx, hb, hdg, hmeth', hr, ret, narrow_b1]
  (try refine ⟨rfl, ?_⟩); (try refine ⟨rfl, ?_⟩)
  first | (intro acts; rw [hret _ acts rfl rfl rfl]) | rw [hret _ _ rfl rfl rfl]
  exact Steps.refl _
/-- what holds at the law's entry: the machine, the code, the tables' words (any of lw_tbl by 'hts w (by decide +kernel)'), the script of L ints xs at the cell b, what the Statement gives of the start (any of its parts by flat_of_before) -/
def lw_At (p : Program) (s : State) (m : MethodId) (meth : Method) (c : Code) (b L : Nat) (xs : Nat → Int32) : Prop :=
  p.tables.exec = Jvm.exec ∧ c.code = code ∧ meth.sig.returnType = ret ∧ c.maxLocals = 4 ∧ s.vm.findClass R_law = some m.cls ∧ (∀ w ∈ lw_tbl, w.before #[Value.ref b] s = true) ∧ va_X b L xs s s.heap ∧ b < s.heap.size ∧ meth.locks = false ∧ (Jvm.Cond.and given_1 narrow_1).before #[Value.ref b] s = true
/-! the law: its switch, its loop, its end -/
theorem lx_and (x : Int32) : ∃ j, j < 64 ∧ x &&& 63 = nI j := by
  have e : x = nI x.toBitVec.toNat := by
    apply Int32.toBitVec_inj.1
    show x.toBitVec = BitVec.ofNat 32 x.toBitVec.toNat
    simp
  have a : ∀ a b : Nat, nI a &&& nI b = nI (a &&& b) := by
    intro a b
    apply Int32.toBitVec_inj.1
    show BitVec.ofNat 32 a &&& BitVec.ofNat 32 b = BitVec.ofNat 32 (a &&& b)
    apply BitVec.eq_of_getLsbD_eq
    intro i hi
    simp [hi]
  refine ⟨x.toBitVec.toNat &&& 63, Nat.lt_of_le_of_lt Nat.and_le_right (by decide), ?_⟩
  rw [← a, ← e]
  rfl
section LOOP
variable {p : Program} {l : Launch} {e : Env} {s : State} {m : MethodId} {args : Array Value} {below : List Frame} {meth : Method} {c : Code} {dC : Nat → ClassId} {dI : Nat → Nat → Nat} {dA : Nat → ClassId} {A : Nat → Prop} {α : Nat → Nat} {Q : State → Prop} {cells slots b L : Nat} {xs : Nat → Int32} {X : Nat → q_St} {M : q_St} {hp : List va_E}
theorem lx_tsw {cc : ByteArray} {nL pc : Nat} {own nm : String} {rtL : Option FieldType} {R : Room} {lv : List (Nat × Value)} {st : List Value} (C : q_Cx p s m args meth c cc nL own rtL nm dC dI dA A α) {dflt lo hi : Int} {offs : Array Int} {len : Nat} {off : Int} (j tgt : Nat) (d : decode cc pc = .ok (.tableswitch dflt lo hi offs, len)) (h1 : ¬ (nI j).toInt < lo) (h2 : ¬ hi < (nI j).toInt) (ho : offs[((nI j).toInt - lo).toNat]? = some off) (ht : (pc : Int) + off = (tgt : Int)) (k : q_S p l e R s m args below meth c nL dC dI dA A α Q cells slots (some ()) () tgt lv st hp) : q_S p l e R s m args below meth c nL dC dI dA A α Q cells slots (some ()) () pc lv (.int (nI j) :: st) hp :=
  r_cut (G := some ()) (F := if nI j = nI j then some () else none) (by rw [if_pos rfl]) (r_tsw C (nI j) tgt d h1 h2 ho ht (fun _ => k) (fun h => absurd rfl h))
theorem lx_sw {i : Nat} (C : lx_Cx p s m args meth c dC dI dA A α b L xs cells slots) (hi : i + 6 ≤ L) (hr : p_Rel X M) (x : Int32) (k : ∀ X' M', p_Rel X' M' → q_S p l e room_1 s m args below meth c 4 dC dI dA A α Q cells slots (some ()) () 1421 (lx_lv i) [] (lx_w X' M')) : q_S p l e room_1 s m args below meth c 4 dC dI dA A α Q cells slots (some ()) () 33 (lx_lv i) [.int (x &&& 63)] (lx_w X M) := by
  obtain ⟨j, hj, ej⟩ := lx_and x
  rw [ej]
  have hj : j = 0 ∨ j = 1 ∨ j = 2 ∨ j = 3 ∨ j = 4 ∨ j = 5 ∨ j = 6 ∨ j = 7 ∨ j = 8 ∨ j = 9 ∨ j = 10 ∨ j = 11 ∨ j = 12 ∨ j = 13 ∨ j = 14 ∨ j = 15 ∨ j = 16 ∨ j = 17 ∨ j = 18 ∨ j = 19 ∨ j = 20 ∨ j = 21 ∨ j = 22 ∨ j = 23 ∨ j = 24 ∨ j = 25 ∨ j = 26 ∨ j = 27 ∨ j = 28 ∨ j = 29 ∨ j = 30 ∨ j = 31 ∨ j = 32 ∨ j = 33 ∨ j = 34 ∨ j = 35 ∨ j = 36 ∨ j = 37 ∨ j = 38 ∨ j = 39 ∨ j = 40 ∨ j = 41 ∨ j = 42 ∨ j = 43 ∨ j = 44 ∨ j = 45 ∨ 46 ≤ j := by omega
  rcases hj with rfl | rfl | rfl | rfl | rfl | rfl | rfl | rfl | rfl | rfl | rfl | rfl | rfl | rfl | rfl | rfl | rfl | rfl | rfl | rfl | rfl | rfl | rfl | rfl | rfl | rfl | rfl | rfl | rfl | rfl | rfl | rfl | rfl | rfl | rfl | rfl | rfl | rfl | rfl | rfl | rfl | rfl | rfl | rfl | rfl | rfl | hj
  · exact lx_tsw C.1 0 232 dL_law_33 (by decide) (by decide) rfl (by decide) (lx_c0 C hi hr k)
  · exact lx_tsw C.1 1 255 dL_law_33 (by decide) (by decide) rfl (by decide) (lx_c1 C hi hr k)
  · exact lx_tsw C.1 2 288 dL_law_33 (by decide) (by decide) rfl (by decide) (lx_c2 C hi hr k)
  · exact lx_tsw C.1 3 331 dL_law_33 (by decide) (by decide) rfl (by decide) (lx_c3 C hi hr k)
  · exact lx_tsw C.1 4 364 dL_law_33 (by decide) (by decide) rfl (by decide) (lx_c4 C hi hr k)
  · exact lx_tsw C.1 5 387 dL_law_33 (by decide) (by decide) rfl (by decide) (lx_c5 C hi hr k)
  · exact lx_tsw C.1 6 420 dL_law_33 (by decide) (by decide) rfl (by decide) (lx_c6 C hi hr k)
  · exact lx_tsw C.1 7 453 dL_law_33 (by decide) (by decide) rfl (by decide) (lx_c7 C hi hr k)
  · exact lx_tsw C.1 8 496 dL_law_33 (by decide) (by decide) rfl (by decide) (lx_c8 C hi hr k)
  · exact lx_tsw C.1 9 519 dL_law_33 (by decide) (by decide) rfl (by decide) (lx_c9 C hi hr k)
  · exact lx_tsw C.1 10 532 dL_law_33 (by decide) (by decide) rfl (by decide) (lx_c10 C hi hr k)
  · exact lx_tsw C.1 11 545 dL_law_33 (by decide) (by decide) rfl (by decide) (lx_c11 C hi hr k)
  · exact lx_tsw C.1 12 578 dL_law_33 (by decide) (by decide) rfl (by decide) (lx_c12 C hi hr k)
  · exact lx_tsw C.1 13 601 dL_law_33 (by decide) (by decide) rfl (by decide) (lx_c13 C hi hr k)
  · exact lx_tsw C.1 14 624 dL_law_33 (by decide) (by decide) rfl (by decide) (lx_c14 C hi hr k)
  · exact lx_tsw C.1 15 647 dL_law_33 (by decide) (by decide) rfl (by decide) (lx_c15 C hi hr k)
  · exact lx_tsw C.1 16 670 dL_law_33 (by decide) (by decide) rfl (by decide) (lx_c16 C hi hr k)
  · exact lx_tsw C.1 17 713 dL_law_33 (by decide) (by decide) rfl (by decide) (lx_c17 C hi hr k)
  · exact lx_tsw C.1 18 756 dL_law_33 (by decide) (by decide) rfl (by decide) (lx_c18 C hi hr k)
  · exact lx_tsw C.1 19 769 dL_law_33 (by decide) (by decide) rfl (by decide) (lx_c19 C hi hr k)
  · exact lx_tsw C.1 20 782 dL_law_33 (by decide) (by decide) rfl (by decide) (lx_c20 C hi hr k)
  · exact lx_tsw C.1 21 795 dL_law_33 (by decide) (by decide) rfl (by decide) (lx_c21 C hi hr k)
  · exact lx_tsw C.1 22 818 dL_law_33 (by decide) (by decide) rfl (by decide) (lx_c22 C hi hr k)
  · exact lx_tsw C.1 23 841 dL_law_33 (by decide) (by decide) rfl (by decide) (lx_c23 C hi hr k)
  · exact lx_tsw C.1 24 864 dL_law_33 (by decide) (by decide) rfl (by decide) (lx_c24 C hi hr k)
  · exact lx_tsw C.1 25 887 dL_law_33 (by decide) (by decide) rfl (by decide) (lx_c25 C hi hr k)
  · exact lx_tsw C.1 26 920 dL_law_33 (by decide) (by decide) rfl (by decide) (lx_c26 C hi hr k)
  · exact lx_tsw C.1 27 933 dL_law_33 (by decide) (by decide) rfl (by decide) (lx_c27 C hi hr k)
  · exact lx_tsw C.1 28 957 dL_law_33 (by decide) (by decide) rfl (by decide) (lx_c28 C hi hr k)
  · exact lx_tsw C.1 29 970 dL_law_33 (by decide) (by decide) rfl (by decide) (lx_c29 C hi hr k)
  · exact lx_tsw C.1 30 993 dL_law_33 (by decide) (by decide) rfl (by decide) (lx_c30 C hi hr k)
  · exact lx_tsw C.1 31 1016 dL_law_33 (by decide) (by decide) rfl (by decide) (lx_c31 C hi hr k)
  · exact lx_tsw C.1 32 1049 dL_law_33 (by decide) (by decide) rfl (by decide) (lx_c32 C hi hr k)
  · exact lx_tsw C.1 33 1062 dL_law_33 (by decide) (by decide) rfl (by decide) (lx_c33 C hi hr k)
  · exact lx_tsw C.1 34 1075 dL_law_33 (by decide) (by decide) rfl (by decide) (lx_c34 C hi hr k)
  · exact lx_tsw C.1 35 1108 dL_law_33 (by decide) (by decide) rfl (by decide) (lx_c35 C hi hr k)
  · exact lx_tsw C.1 36 1141 dL_law_33 (by decide) (by decide) rfl (by decide) (lx_c36 C hi hr k)
  · exact lx_tsw C.1 37 1184 dL_law_33 (by decide) (by decide) rfl (by decide) (lx_c37 C hi hr k)
  · exact lx_tsw C.1 38 1227 dL_law_33 (by decide) (by decide) rfl (by decide) (lx_c38 C hi hr k)
  · exact lx_tsw C.1 39 1290 dL_law_33 (by decide) (by decide) rfl (by decide) (lx_c39 C hi hr k)
  · exact lx_tsw C.1 40 1313 dL_law_33 (by decide) (by decide) rfl (by decide) (lx_c40 C hi hr k)
  · exact lx_tsw C.1 41 1336 dL_law_33 (by decide) (by decide) rfl (by decide) (lx_c41 C hi hr k)
  · exact lx_tsw C.1 42 1349 dL_law_33 (by decide) (by decide) rfl (by decide) (lx_c42 C hi hr k)
  · exact lx_tsw C.1 43 1362 dL_law_33 (by decide) (by decide) rfl (by decide) (lx_c43 C hi hr k)
  · exact lx_tsw C.1 44 1375 dL_law_33 (by decide) (by decide) rfl (by decide) (lx_c44 C hi hr k)
  · exact lx_tsw C.1 45 1398 dL_law_33 (by decide) (by decide) rfl (by decide) (lx_c45 C hi hr k)
  · exact r_tswD C.1 1421 dL_law_33 (Or.inr (by rw [nI_toInt (by omega)]; omega)) (by decide) (k X M hr)
theorem lx_next {i : Nat} (C : lx_Cx p s m args meth c dC dI dA A α b L xs cells slots) (k : q_S p l e room_1 s m args below meth c 4 dC dI dA A α Q cells slots (some ()) () 18 (lx_lv (i + 6)) [] hp) : q_S p l e room_1 s m args below meth c 4 dC dI dA A α Q cells slots (some ()) () 1421 (lx_lv i) [] hp := by
  refine r_iinc C.1 0 (x := nI i) (nI (i + 6)) (lx_lv (i + 6)) dL_law_1421 rfl (nI_add i 6) (by decide) rfl ?_
  exact r_goto C.1 18 dL_law_1424 (by decide) k
theorem lx_neg : ∀ n, n < 6 → (nI n - (6 : Int32)).toInt < 0 := by decide +kernel
theorem lx_out {i : Nat} (hL : L ≤ 3072) (hi : i ≤ 4000) (h : L < i + 6) : nI L - (6 : Int32) < nI i := by
  by_cases q : 6 ≤ L
  · rw [show nI L - (6 : Int32) = nI (L - 6) from pk_sub (b := 6) q]
    exact nI_lt (by omega) (by omega)
  · have := lx_neg L (by omega)
    rw [fa_lt, nI_toInt (show i < 2 ^ 31 by omega)]
    omega
theorem lx_in {i : Nat} (hL : L ≤ 3072) (h : i + 6 ≤ L) : ¬ nI L - (6 : Int32) < nI i := by
  rw [show nI L - (6 : Int32) = nI (L - 6) from pk_sub (b := 6) (by omega)]
  exact nI_nlt (by omega) (by omega)
/-- the loop's head, up to the comparison -/
theorem lx_head {i : Nat} (C : lx_Cx p s m args meth c dC dI dA A α b L xs cells slots) (k : q_S p l e room_1 s m args below meth c 4 dC dI dA A α Q cells slots (some ()) () 24 (lx_lv i) [.int (nI L - 6), .int (nI i)] hp) : q_S p l e room_1 s m args below meth c 4 dC dI dA A α Q cells slots (some ()) () 18 (lx_lv i) [] hp := by
  refine r_iload_n C.1 0 (x := nI i) dL_law_18 rfl ?_
  refine r_aload_n C.1 3 (x := 45) dL_law_19 rfl ?_
  obtain ⟨C, hX, hbl, hbA, hα, hL, _⟩ := C
  have z : q_S p l e room_1 s m args below meth c 4 dC dI dA A α Q cells slots (some ()) () 21 (lx_lv i) [.int (nI L), .int (nI i)] hp := by
    refine r_bipush C 6 dL_law_21 rfl ?_
    exact r_isub C dL_law_23 k
  intro hF H locs ls hP hD hS hl
  have k1 := z hF H locs ls hP hD hS hl
  show W p l e room_1 s m args below meth c H locs cells slots Q (F0 m 20 ls [.ref (α 45), .int (nI i)])
  rw [hα]
  exact va_slen C.1 C.2.1 hX hbl hbA hS dL_law_20 k1
theorem lx_exit {b : Nat} {i : Nat} (C : lx_Cx p s m #[Value.ref b] meth c dC dI dA A α b L xs cells slots) (hi : i ≤ 4000) (h : L < i + 6) : q_S p l e room_1 s m #[Value.ref b] below meth c 4 dC dI dA A α (lw_Z below #[Value.ref b] s) cells slots (some ()) () 18 (lx_lv i) [] hp := by
  have lt := lx_out C.2.2.2.2.2.1 hi h
  refine lx_head C ?_
  refine r_cut (F := if nI L - (6 : Int32) < nI i then some () else none) (by rw [if_pos lt]) ?_
  refine r_icmp_gt C.1 1427 dL_law_24 (by decide) (fun _ => ?_) (fun h => absurd lt h)
  refine r_iconst C.1 1 dL_law_1427 (by decide) ?_
  intro hF H locs ls hP hD hS hl
  refine va_forget (fun q hq => C.2.2.2.2.2.2.2 _ (hS.2.2 q hq)) ?_
  refine W.widen (k := 600000) (n := 7302250) C.2.2.2.2.2.2.1.1 C.2.2.2.2.2.2.1.2 ?_
  exact lw_ret C.1.1 C.1.2.1 C.1.2.2.2.2.2.1 C.1.2.2.2.2.2.2.1 dL_law_1428
theorem lx_step {i : Nat} (C : lx_Cx p s m args meth c dC dI dA A α b L xs cells slots) (hi : i + 6 ≤ L) (hr : p_Rel X M) (k : ∀ X' M', p_Rel X' M' → q_S p l e room_1 s m args below meth c 4 dC dI dA A α Q cells slots (some ()) () 18 (lx_lv (i + 6)) [] (lx_w X' M')) : q_S p l e room_1 s m args below meth c 4 dC dI dA A α Q cells slots (some ()) () 18 (lx_lv i) [] (lx_w X M) := by
  have nl := lx_in C.2.2.2.2.2.1 hi
  refine lx_head C ?_
  refine r_cut (F := if nI L - (6 : Int32) < nI i then none else some ()) (by rw [if_neg nl]) ?_
  refine r_icmp_gt C.1 1427 dL_law_24 (by decide) (fun h => absurd h nl) (fun _ => ?_)
  refine r_aload_n C.1 3 (x := 45) dL_law_27 rfl ?_
  refine r_iload_n C.1 0 (x := nI i) dL_law_28 rfl ?_
  have z : q_S p l e room_1 s m args below meth c 4 dC dI dA A α Q cells slots (some ()) () 30 (lx_lv i) [.int (xs i)] (lx_w X M) := by
    refine r_bipush C.1 63 dL_law_30 rfl ?_
    refine r_iand C.1 dL_law_32 ?_
    exact lx_sw C hi hr (xs i) (fun X' M' h => lx_next C (k X' M' h))
  obtain ⟨C, hX, hbl, hbA, hα, hL, _⟩ := C
  intro hF H locs ls hP hD hS hl
  have k1 := z hF H locs ls hP hD hS hl
  show W p l e room_1 s m args below meth c H locs cells slots Q (F0 m 29 ls [.int (nI i), .ref (α 45)])
  rw [hα]
  refine va_sld C.1 C.2.1 hX hbl hbA hS (nI_in (show i < L by omega) (by omega)) dL_law_29 ?_
  rw [nI_clamp (by omega)]
  exact k1
theorem lx_loop {b : Nat} (C : lx_Cx p s m #[Value.ref b] meth c dC dI dA A α b L xs cells slots) : ∀ (n i : Nat) (X : Nat → q_St) (M : q_St), L < i + n → i ≤ 4000 → p_Rel X M → q_S p l e room_1 s m #[Value.ref b] below meth c 4 dC dI dA A α (lw_Z below #[Value.ref b] s) cells slots (some ()) () 18 (lx_lv i) [] (lx_w X M) := by
  intro n
  induction n with
  | zero => intro i X M hi h4 hr; exact lx_exit C h4 (by omega)
  | succ n ih =>
    intro i X M hi h4 hr
    have hL := C.2.2.2.2.2.1
    by_cases q : i + 6 ≤ L
    · exact lx_step C q hr (fun X' M' h => ih (i + 6) X' M' (by omega) (by omega) h)
    · exact lx_exit C h4 (by omega)
end LOOP
/-! the states made are alike -/
def p_S0 : p_S := (fun _ => 0, fun _ _ => 0, fun i => if i = 0 then 1 else 0)
theorem p_Rel0 : p_Rel b_X5 b_X6 := by
  refine ⟨p_S0, ⟨by decide, by decide, by decide, by decide, fun _ => rfl, by decide, fun d h => absurd h (Nat.not_lt_zero _), fun d h => absurd h (Nat.not_lt_zero _), fun i _ => Nat.le_refl 0⟩, ⟨rfl, rfl, rfl, rfl, rfl, rfl, rfl, rfl, rfl, rfl, fun d h => absurd h (Nat.not_lt_zero _), fun d h => absurd h (Nat.not_lt_zero _), ?_⟩, ⟨rfl, rfl, rfl, rfl, rfl, rfl, rfl, rfl, rfl, rfl, fun d h => absurd h (Nat.not_lt_zero _), fun d h => absurd h (Nat.not_lt_zero _), ?_⟩, ⟨rfl, fun h => absurd rfl h⟩, ⟨fun i _ => rfl, by decide⟩, ⟨0, by decide, rfl, rfl, fun i h => absurd h (Nat.not_lt_zero _)⟩, ?_⟩
  · decide +kernel
  · decide +kernel
  · intro j hj
    have hj : j = 0 ∨ j = 1 ∨ j = 2 ∨ j = 3 := by omega
    rcases hj with rfl | rfl | rfl | rfl
    · exact ⟨0, by decide, rfl, rfl, rfl, fun i _ => rfl⟩
    · exact ⟨0, by decide, rfl, rfl, rfl, fun i _ => rfl⟩
    · exact ⟨0, by decide, rfl, rfl, rfl, fun i _ => rfl⟩
    · exact ⟨0, by decide, rfl, rfl, rfl, fun i _ => rfl⟩
