/-! the law's start: what the Statement gives -/
def lx_fl : List Cond := flatC (Jvm.Cond.and given_1 narrow_1)
def lx_tm (i : Nat) : Term := .string "PunchByHeart$Tape" (139 + 2 * i)
theorem lx_m1 : ∀ i, i < 13 → Cond.exactly (lx_tm i) "java/lang/String" ∈ lx_fl := by decide +kernel
theorem lx_m2 : ∀ i, i < 13 → Cond.eq (.field (lx_tm i) "java/lang/String" "coder" "B") (.int 0) ∈ lx_fl := by decide +kernel
theorem lx_m3 : ∀ i, i < 13 → Cond.arrayOf (.field (lx_tm i) "java/lang/String" "value" "[B") .byte ∈ lx_fl := by decide +kernel
theorem lx_m4 : ∀ i, i < 13 → Cond.eq (.length (.field (lx_tm i) "java/lang/String" "value" "[B")) (.int (Int32.ofNat (q_len.getD i 0))) ∈ lx_fl := by decide +kernel
theorem lx_m5 : ∀ i, i < 13 → ∀ j, j < q_len.getD i 0 → Cond.eq (.elem (.field (lx_tm i) "java/lang/String" "value" "[B") (.int (Int32.ofNat j))) (.int ((q_byt.getD i []).getD j 0)) ∈ lx_fl := by decide +kernel
theorem lx_m6 : ∀ i, i < 13 → ∀ j, j < 13 → (!decide (i < j) || decide (Cond.not (.eq (lx_tm i) (lx_tm j)) ∈ lx_fl)) = true := by decide +kernel
theorem lx_m7 : ∀ j, j < 7 → Cond.eq (.elem (.static "PunchByHeart$Kinds" "ABOVE" "[I") (.int (Int32.ofNat j))) (.int (q_above j)) ∈ lx_fl := by decide +kernel
theorem lx_m8 : ∀ q ∈ q_lits, Cond.stringRef q.1 q.2.1 q.2.2.1 ∈ lw_tbl ∧ q.2.2.2 < 13 ∧ ((q.1 = "PunchByHeart$Tape" ∧ q.2.1 = 139 + 2 * q.2.2.2) ∨ Cond.eq (lx_tm q.2.2.2) (.string q.1 q.2.1) ∈ lx_fl) := by decide +kernel
theorem lx_tb {w : Cond} (i : Nat) (h : tables_1[i]? = some w) : w ∈ lw_tbl := List.mem_append_right _ (List.mem_of_getElem? h)
/-- the addresses of the places below 50 -/
def lx_al (adK adV : Nat → Nat) (t f b : Nat) (k : Nat) : Nat := if k < 13 then adK k else if k = 45 then b else if k = 40 then t else if k = 41 then f else adV (k - 20)
theorem lx_G {s : State} {b : Nat} (hts : ∀ w ∈ lw_tbl, w.before #[Value.ref b] s = true) (hgv : (Jvm.Cond.and given_1 narrow_1).before #[Value.ref b] s = true) : ∃ α : Nat → Nat, α 45 = b ∧ q_G α (fun q : Nat => s.heap.size ≤ q) s s.heap := by
  have hf : ∀ w ∈ lx_fl, w.before #[Value.ref b] s = true := flat_of_before _ hgv
  have hA : ∀ a : Nat, a < s.heap.size → ¬ (fun q : Nat => s.heap.size ≤ q) a := fun a h => Nat.not_le.mpr h
  obtain ⟨adK, adV, hS, hev⟩ := vk_Sof (args := #[Value.ref b]) (s := s) (N := 13) (tm := lx_tm) (len := q_len) (byt := q_byt) (A := fun q : Nat => s.heap.size ≤ q) (by decide +kernel) (fun i hi => hf _ (lx_m1 i hi)) (fun i hi => hf _ (lx_m2 i hi)) (fun i hi => hf _ (lx_m3 i hi)) (fun i hi => hf _ (lx_m4 i hi)) (fun i hi j hj => hf _ (lx_m5 i hi j hj)) (fun i j hi hj hn => by
    by_cases q : i < j
    · have h := lx_m6 i hi j hj
      rw [decide_eq_true q, Bool.not_true, Bool.false_or, decide_eq_true_eq] at h
      exact Or.inl (hf _ h)
    · have h := lx_m6 j hj i hi
      rw [decide_eq_true (show j < i by omega), Bool.not_true, Bool.false_or, decide_eq_true_eq] at h
      exact Or.inr (hf _ h)) hA
  obtain ⟨t, ht, hT⟩ := va_Tof (args := #[Value.ref b]) (s := s) (tm := .static "PunchByHeart$Kinds" "ABOVE" "[I") (ty := .int) (N := 7) (f := fun j => .int (q_above j)) (A := fun q : Nat => s.heap.size ≤ q) (by decide) (hf (.arrayOf (.static "PunchByHeart$Kinds" "ABOVE" "[I") .int) (by decide +kernel)) (va_eqt (z := Int32.ofNat 7) (hf (.eq (.length (.static "PunchByHeart$Kinds" "ABOVE" "[I")) (.int 7)) (by decide +kernel))) (fun j hj => va_eqt (hf _ (lx_m7 j hj))) hA
  have hZ1 := va_Zof (A := fun q : Nat => s.heap.size ≤ q) (hts (.laysStatic "PunchByHeart$Kinds" "ABOVE" "[I") (lx_tb 629 (by decide +kernel))) (hts (.initialized "PunchByHeart$Kinds") (lx_tb 7 (by decide +kernel))) ht hA
  have hZ2 := va_Zof (A := fun q : Nat => s.heap.size ≤ q) (hts (.laysStatic "java/lang/String" "COMPACT_STRINGS" "Z") (lx_tb 725 (by decide +kernel))) (hts (.initialized "java/lang/String") (lx_tb 11 (by decide +kernel))) (va_eqi (hf (.eq (.static "java/lang/String" "COMPACT_STRINGS" "Z") (.int 1)) (by decide +kernel))) hA
  have hZ3 := va_Zqof (A := fun q : Nat => s.heap.size ≤ q) (hts (.laysStatic "jdk/internal/util/Preconditions" "SIOOBE_FORMATTER" "Ljava/util/function/BiFunction;") (lx_tb 741 (by decide +kernel))) (hts (.initialized "jdk/internal/util/Preconditions") (lx_tb 13 (by decide +kernel))) (hf (.isRef (.static "jdk/internal/util/Preconditions" "SIOOBE_FORMATTER" "Ljava/util/function/BiFunction;")) (by decide +kernel)) hA
  obtain ⟨f, hZ3⟩ : ∃ f : Nat, va_Z "jdk/internal/util/Preconditions" "SIOOBE_FORMATTER" "Ljava/util/function/BiFunction;" .null (fun q : Nat => s.heap.size ≤ q) s s.heap ∨ va_Z "jdk/internal/util/Preconditions" "SIOOBE_FORMATTER" "Ljava/util/function/BiFunction;" (.ref f) (fun q : Nat => s.heap.size ≤ q) s s.heap := by
    rcases hZ3 with h | ⟨f, h⟩
    · exact ⟨0, Or.inl h⟩
    · exact ⟨f, Or.inr h⟩
  have e1 : ∀ i, i < 13 → lx_al adK adV t f b i = adK i := fun i hi => if_pos hi
  have e2 : ∀ i, i < 13 → lx_al adK adV t f b (20 + i) = adV i := fun i hi => by
    unfold lx_al
    rw [if_neg (by omega), if_neg (by omega), if_neg (by omega), if_neg (by omega), Nat.add_sub_cancel_left]
  refine ⟨lx_al adK adV t f b, rfl, ⟨fun i hi => ?_, fun i j hi hj z => hS.2 i j hi hj (show adK i = adK j by rw [← e1 i hi, ← e1 j hj]; exact z)⟩, fun q hq => ?_, hZ1, hT, hZ2, hZ3⟩
  · have z := hS.1 i hi
    simp only [e1 i hi, e2 i hi]
    exact z
  · obtain ⟨h1, h2, h3⟩ := lx_m8 q hq
    rw [e1 _ h2]
    refine vk_R.of (hts _ h1) ?_
    rcases h3 with ⟨h4, h5⟩ | h4
    · rw [h4, h5]
      exact hev _ h2
    · exact va_eqR (hf _ h4) (hev _ h2)
theorem lx_AI {s : State} {args : Array Value} {ty : FieldType} (h : (Cond.arrayClass ty).before args s = true) : ∃ cA : ClassId, ArrOfT s cA ty ∧ s.vm.findClass ("[" ++ ty.toString) = some cA := by
  obtain ⟨c, k, comp, h1, h2, h3⟩ := Cond.arrayClass_spec h
  exact ⟨c, fun n z => ⟨(fun k h => by cases h), k, h2, comp, h3⟩, h1⟩
theorem lx_AQ {s : State} {C : String} (h : va_AO C s) : ∃ cA : ClassId, ArrOfT s cA (.object C) ∧ va_RA s cA (.object C) := by
  obtain ⟨comp, c, k, h1, h2, h3, h4, h5⟩ := Cond.arrayOver_spec h
  exact ⟨c, fun n z => ⟨(fun k h => by cases h), k, h3, comp, h4⟩, k, comp, h3, h4, h1, h5⟩
theorem lx_K {s : State} {b : Nat} (hts : ∀ w ∈ lw_tbl, w.before #[Value.ref b] s = true) : q_AO s ∧ ∃ (dC : Nat → ClassId) (dI : Nat → Nat → Nat) (dA : Nat → ClassId), va_K (dC, dI) vwCl (q_tys dA) s := by
  have hq : ∀ w ∈ q_T, w.before #[Value.ref b] s = true := fun w hw => hts w (List.mem_filter.mp hw).1
  have ho : q_AO s := ⟨va_AO.of (hts (.arrayOver (.object "PunchByHeart$Sheet")) (lx_tb 155 (by decide +kernel))), va_AO.of (hts (.arrayOver (.object "java/lang/String")) (lx_tb 907 (by decide +kernel)))⟩
  obtain ⟨a0, A0, B0⟩ := lx_AI (hq _ m_95)
  obtain ⟨a1, A1, B1⟩ := lx_AI (hq _ m_991)
  obtain ⟨a2, A2, B2⟩ := lx_AQ ho.1
  obtain ⟨a3, A3, B3⟩ := lx_AQ ho.2
  obtain ⟨c0, i0, h0⟩ := u_known (C := RX0) (T := TX0) (N := 16) (n := 16) hq K_X0.2.1 (hts (.instantiable RX0 16) (lx_tb 24 (by decide +kernel)))
  obtain ⟨c1, i1, h1⟩ := u_known (C := RX2) (T := TX2) (N := 3) (n := 3) hq K_X2.2.1 (hts (.instantiable RX2 3) (lx_tb 156 (by decide +kernel)))
  obtain ⟨c2, i2, h2⟩ := u_known (C := RX3) (T := TX3) (N := 8) (n := 8) hq K_X3.2.1 (hts (.instantiable RX3 8) (lx_tb 122 (by decide +kernel)))
  obtain ⟨c3, i3, h3⟩ := u_known (C := RX4) (T := TX4) (N := 6) (n := 6) hq K_X4.2.1 (hts (.instantiable RX4 6) (lx_tb 97 (by decide +kernel)))
  obtain ⟨c4, i4, h4⟩ := u_known (C := RX5) (T := TX5) (N := 8) (n := 8) hq K_X5.2.1 (hts (.instantiable RX5 8) (lx_tb 16 (by decide +kernel)))
  obtain ⟨c5, i5, h5⟩ := u_known (C := RX6) (T := TX6) (N := 25) (n := 25) hq K_X6.2.1 (hts (.instantiable RX6 25) (lx_tb 901 (by decide +kernel)))
  refine ⟨ho, fun k => if k = 0 then c0 else if k = 1 then c1 else if k = 2 then c2 else if k = 3 then c3 else if k = 4 then c4 else c5, fun k => if k = 0 then i0 else if k = 1 then i1 else if k = 2 then i2 else if k = 3 then i3 else if k = 4 then i4 else i5, fun k => if k = 0 then a0 else if k = 1 then a1 else if k = 2 then a2 else a3, fun k q hq => ?_, fun k q hq => ?_⟩
  · match k, hq with
    | 0, hq => cases hq; exact h0
    | 1, hq => cases hq; exact h1
    | 2, hq => cases hq; exact h2
    | 3, hq => cases hq; exact h3
    | 4, hq => cases hq; exact h4
    | 5, hq => cases hq; exact h5
    | k + 6, hq => cases hq
  · match k, hq with
    | 0, hq => cases hq; exact ⟨A0, B0⟩
    | 1, hq => cases hq; exact ⟨A1, B1⟩
    | 2, hq => cases hq; exact ⟨A2, B2⟩
    | 3, hq => cases hq; exact ⟨A3, B3⟩
    | k + 4, hq => cases hq
