set_option maxRecDepth 100000 in
set_option maxHeartbeats 4000000 in
theorem k_X5_bestPair_26 {p : Program} {l : Launch} {e : Env} {s : State} {m : MethodId} {args : Array Value} {below : List Frame} {meth : Method} {c : Code} {dC : Nat → ClassId} {dI : Nat → Nat → Nat} {dA : Nat → ClassId} {A : Nat → Prop} {α : Nat → Nat} {t : Int32 × (Nat → q_St)} (C : q_Cx p s m args meth c cX5_bestPair 6 RX5 (some .int) "bestPair" dC dI dA A α) (X : (Nat → q_St)) (r10 : Int32 → Int32 → Int32 → (Nat → q_St) → Option (Int32 × (Nat → q_St)))
    (hr10 : ∀ (x1 : Int32) (x2 : Int32) (x3 : Int32) (X' : (Nat → q_St)), q_S p l e (q_rm 6 142) s m args below meth c 6 dC dI dA A α (MQ below (q_Q α dC dI dA A ((fun u => some (.int u.1)) t) ((fun u => w_X5 u.2) t)) args s 0 0 A) 0 0 (r10 x1 x2 x3 X') t 10 [(0, .ref 50), (1, .int x1), (2, .int x2), (3, .int x3)] [] (w_X5 X')) : ∀ (n : Nat) (x1 : Int32) (x2 : Int32) (x3 : Int32) (x4 : Int32) (X' : (Nat → q_St)), q_S p l e (q_rm 6 142) s m args below meth c 6 dC dI dA A α (MQ below (q_Q α dC dI dA A ((fun u => some (.int u.1)) t) ((fun u => w_X5 u.2) t)) args s 0 0 A) 0 0 (f_X5_bestPair_26 X r10 n x1 x2 x3 x4 X') t 26 [(0, .ref 50), (1, .int x1), (2, .int x2), (3, .int x3), (4, .int x4)] [] (w_X5 X') := by
  intro n
  induction n with
  | zero =>
    intro x1 x2 x3 x4 X'
    exact r_cut (f_X5_bestPair_26.eq_1 _ _ _ _ _ _ _) (r_none True.intro)
  | succ n ih =>
    intro x1 x2 x3 x4 X'
    refine r_cut (f_X5_bestPair_26.eq_2 _ _ _ _ _ _ _ _) ?_
    refine r_iload C 4 dX5_bestPair_26 rfl ?_
    refine r_aload_n C 0 dX5_bestPair_28 rfl ?_
    refine r_get C 0 0 dX5_bestPair_29 K_X5 rfl rfl (Nat.le_of_ble_eq_true rfl) rfl m_174 rfl ?_
    refine r_get C 1 0 dX5_bestPair_32 K_X0 rfl rfl (Nat.le_of_ble_eq_true rfl) rfl m_30 rfl ?_
    refine r_icmp_ge C 74 dX5_bestPair_35 (by decide) (fun h35 => ?_) (fun h35 => ?_)
    · refine r_iinc C 3 (x3 + 1) [(3, .int (x3 + 1)), (0, .ref 50), (1, .int x1), (2, .int x2), (4, .int x4)] dX5_bestPair_74 rfl rfl (Nat.le_of_ble_eq_true rfl) rfl ?_
      refine r_goto C 10 dX5_bestPair_77 (by decide) ?_
      refine r_lv [(0, .ref 50), (1, .int x1), (2, .int x2), (3, .int (x3 + 1))] [1, 2, 3, 0] rfl ?_
      exact hr10 x1 x2 (x3 + 1) X'
    · refine r_aload_n C 0 dX5_bestPair_38 rfl ?_
      refine r_bipush C (10) dX5_bestPair_39 rfl ?_
      refine r_iload_n C 3 dX5_bestPair_41 rfl ?_
      refine r_imul C dX5_bestPair_42 ?_
      refine r_iload C 4 dX5_bestPair_43 rfl ?_
      refine r_iadd C dX5_bestPair_45 ?_
      refine r_callV0 C (o_X5_worthIfSwapped l X' (((10 : Int32) * x3) + x4)) v_X5_worthIfSwapped m_527 [.int (((10 : Int32) * x3) + x4)] [] (50) (Or.inl ⟨0, 4, _, TX5, 8, rfl, rfl, rfl⟩) (fun u2 => [.int u2.1]) (fun u2 => w_X5 u2.2) rfl rfl rfl (Nat.le_of_ble_eq_true rfl) ⟨(Nat.le_of_ble_eq_true rfl), (Nat.le_of_ble_eq_true rfl)⟩ ⟨Nat.zero_le _, Nat.zero_le _⟩ dX5_bestPair_46 (fun _ => rfl) (fun _ => rfl) (fun _ => rfl) (fun u2 => ?_)
      refine r_istore C [(5, .int u2.1), (0, .ref 50), (1, .int x1), (2, .int x2), (3, .int x3), (4, .int x4)] dX5_bestPair_49 (Nat.le_of_ble_eq_true rfl) rfl ?_
      refine r_iload C 0 dX5_bestPair_51 rfl ?_
      refine r_iload_n C 3 dX5_bestPair_53 rfl ?_
      refine r_icmp_ge C 68 dX5_bestPair_54 (by decide) (fun h54 => ?_) (fun h54 => ?_)
      · refine r_iinc C 5 (x4 + 1) [(4, .int (x4 + 1)), (5, .int u2.1), (0, .ref 50), (1, .int x1), (2, .int x2), (3, .int x3)] dX5_bestPair_68 rfl rfl (Nat.le_of_ble_eq_true rfl) rfl ?_
        refine r_goto C 26 dX5_bestPair_71 (by decide) ?_
        refine r_lv [(0, .ref 50), (1, .int x1), (2, .int x2), (3, .int x3), (4, .int (x4 + 1))] [2, 3, 4, 5, 0] rfl ?_
        exact ih x1 x2 x3 (x4 + 1) u2.2
      · refine r_bipush C (10) dX5_bestPair_57 rfl ?_
        refine r_iload_n C 4 dX5_bestPair_59 rfl ?_
        refine r_imul C dX5_bestPair_60 ?_
        refine r_iload C 5 dX5_bestPair_61 rfl ?_
        refine r_iadd C dX5_bestPair_63 ?_
        refine r_istore_n C [(1, .int (((10 : Int32) * x3) + x4)), (5, .int u2.1), (0, .ref 50), (2, .int x2), (3, .int x3), (4, .int x4)] dX5_bestPair_64 (Nat.le_of_ble_eq_true rfl) rfl ?_
        refine r_iload C 1 dX5_bestPair_65 rfl ?_
        refine r_istore_n C [(2, .int u2.1), (1, .int (((10 : Int32) * x3) + x4)), (5, .int u2.1), (0, .ref 50), (3, .int x3), (4, .int x4)] dX5_bestPair_67 (Nat.le_of_ble_eq_true rfl) rfl ?_
        refine r_iinc C 5 (x4 + 1) [(4, .int (x4 + 1)), (2, .int u2.1), (1, .int (((10 : Int32) * x3) + x4)), (5, .int u2.1), (0, .ref 50), (3, .int x3)] dX5_bestPair_68 rfl rfl (Nat.le_of_ble_eq_true rfl) rfl ?_
        refine r_goto C 26 dX5_bestPair_71 (by decide) ?_
        refine r_lv [(0, .ref 50), (1, .int (((10 : Int32) * x3) + x4)), (2, .int u2.1), (3, .int x3), (4, .int (x4 + 1))] [4, 2, 1, 5, 0] rfl ?_
        exact ih (((10 : Int32) * x3) + x4) u2.1 x3 (x4 + 1) u2.2
set_option maxRecDepth 100000 in
set_option maxHeartbeats 4000000 in
theorem k_X5_bestPair_10 {p : Program} {l : Launch} {e : Env} {s : State} {m : MethodId} {args : Array Value} {below : List Frame} {meth : Method} {c : Code} {dC : Nat → ClassId} {dI : Nat → Nat → Nat} {dA : Nat → ClassId} {A : Nat → Prop} {α : Nat → Nat} {t : Int32 × (Nat → q_St)} (C : q_Cx p s m args meth c cX5_bestPair 6 RX5 (some .int) "bestPair" dC dI dA A α) (X : (Nat → q_St))  : ∀ (n : Nat) (x1 : Int32) (x2 : Int32) (x3 : Int32) (X' : (Nat → q_St)), q_S p l e (q_rm 6 142) s m args below meth c 6 dC dI dA A α (MQ below (q_Q α dC dI dA A ((fun u => some (.int u.1)) t) ((fun u => w_X5 u.2) t)) args s 0 0 A) 0 0 (f_X5_bestPair_10 X  n x1 x2 x3 X') t 10 [(0, .ref 50), (1, .int x1), (2, .int x2), (3, .int x3)] [] (w_X5 X') := by
  intro n
  induction n with
  | zero =>
    intro x1 x2 x3 X'
    exact r_cut (f_X5_bestPair_10.eq_1 _ _ _ _ _) (r_none True.intro)
  | succ n ih =>
    intro x1 x2 x3 X'
    refine r_cut (f_X5_bestPair_10.eq_2 _ _ _ _ _ _) ?_
    refine r_iload_n C 3 dX5_bestPair_10 rfl ?_
    refine r_aload_n C 0 dX5_bestPair_11 rfl ?_
    refine r_get C 0 0 dX5_bestPair_12 K_X5 rfl rfl (Nat.le_of_ble_eq_true rfl) rfl m_174 rfl ?_
    refine r_get C 1 0 dX5_bestPair_15 K_X0 rfl rfl (Nat.le_of_ble_eq_true rfl) rfl m_30 rfl ?_
    refine r_icmp_ge C 80 dX5_bestPair_18 (by decide) (fun h18 => ?_) (fun h18 => ?_)
    · refine r_iload_n C 1 dX5_bestPair_80 rfl ?_
      exact r_reti (x := x1) (rv := (fun u => some (.int u.1))) (hpE := (fun u => w_X5 u.2)) (t0 := (x1, X')) C dX5_bestPair_81 (by rfl) (by rfl) (by rfl)
    · refine r_iload_n C 3 dX5_bestPair_21 rfl ?_
      refine r_iconst C (1) dX5_bestPair_22 rfl ?_
      refine r_iadd C dX5_bestPair_23 ?_
      refine r_istore C [(4, .int (x3 + (1 : Int32))), (0, .ref 50), (1, .int x1), (2, .int x2), (3, .int x3)] dX5_bestPair_24 (Nat.le_of_ble_eq_true rfl) rfl ?_
      refine r_lv [(0, .ref 50), (1, .int x1), (2, .int x2), (3, .int x3), (4, .int (x3 + (1 : Int32)))] [1, 2, 3, 4, 0] rfl ?_
      exact k_X5_bestPair_26 C X (fun x1 x2 x3 X' => f_X5_bestPair_10 X  n x1 x2 x3 X') ih q_N x1 x2 x3 (x3 + (1 : Int32)) X'
set_option maxRecDepth 100000 in
set_option maxHeartbeats 4000000 in
theorem o_X5_bestPair (l : Launch) (X : (Nat → q_St)) : q_Ok l yX5_bestPair cX5_bestPair 6 (some .int) 6 142 [.ref 50] (w_X5 X) (f_X5_bestPair X) (fun u => some (.int u.1)) (fun u => w_X5 u.2) := by
  refine q_enter (by decide +kernel) (Nat.le_of_ble_eq_true rfl) (fun t p e s m args below meth c dC dI dA A α C => ?_)
  refine r_cut (f_X5_bestPair.eq_1 _) ?_
  show q_S p l e (q_rm 6 142) s m args below meth c 6 dC dI dA A α (MQ below (q_Q α dC dI dA A ((fun u => some (.int u.1)) t) ((fun u => w_X5 u.2) t)) args s 0 0 A) 0 0 _ t 0 [(0, .ref 50)] [] (w_X5 X)
  refine r_iconst C (0) dX5_bestPair_0 rfl ?_
  refine r_istore_n C [(1, .int (0 : Int32)), (0, .ref 50)] dX5_bestPair_1 (Nat.le_of_ble_eq_true rfl) rfl ?_
  refine r_aload_n C 1 dX5_bestPair_2 rfl ?_
  refine r_iconst C (0) dX5_bestPair_3 rfl ?_
  refine r_callV0 C (o_X5_worthIfSwapped l X (0 : Int32)) v_X5_worthIfSwapped m_527 [.int (0 : Int32)] [] (50) (Or.inl ⟨0, 4, _, TX5, 8, rfl, rfl, rfl⟩) (fun u1 => [.int u1.1]) (fun u1 => w_X5 u1.2) rfl rfl rfl (Nat.le_of_ble_eq_true rfl) ⟨(Nat.le_of_ble_eq_true rfl), (Nat.le_of_ble_eq_true rfl)⟩ ⟨Nat.zero_le _, Nat.zero_le _⟩ dX5_bestPair_4 (fun _ => rfl) (fun _ => rfl) (fun _ => rfl) (fun u1 => ?_)
  refine r_istore_n C [(2, .int u1.1), (1, .int (0 : Int32)), (0, .ref 50)] dX5_bestPair_7 (Nat.le_of_ble_eq_true rfl) rfl ?_
  refine r_iconst C (0) dX5_bestPair_8 rfl ?_
  refine r_istore_n C [(3, .int (0 : Int32)), (2, .int u1.1), (1, .int (0 : Int32)), (0, .ref 50)] dX5_bestPair_9 (Nat.le_of_ble_eq_true rfl) rfl ?_
  refine r_lv [(0, .ref 50), (1, .int (0 : Int32)), (2, .int u1.1), (3, .int (0 : Int32))] [3, 2, 1, 0] rfl ?_
  exact k_X5_bestPair_10 C X   q_N (0 : Int32) u1.1 (0 : Int32) u1.2
set_option maxRecDepth 100000 in
set_option maxHeartbeats 4000000 in
theorem o_X5_rehang (l : Launch) (X : (Nat → q_St)) : q_Ok l yX5_rehang cX5_rehang 1 (some .int) 7 167 [.ref 50] (w_X5 X) (f_X5_rehang X) (fun u => some (.int u.1)) (fun u => w_X5 u.2) := by
  refine q_enter (by decide +kernel) (Nat.le_of_ble_eq_true rfl) (fun t p e s m args below meth c dC dI dA A α C => ?_)
  refine r_cut (f_X5_rehang.eq_1 _) ?_
  show q_S p l e (q_rm 7 167) s m args below meth c 1 dC dI dA A α (MQ below (q_Q α dC dI dA A ((fun u => some (.int u.1)) t) ((fun u => w_X5 u.2) t)) args s 0 0 A) 0 0 _ t 0 [(0, .ref 50)] [] (w_X5 X)
  refine r_aload_n C 0 dX5_rehang_0 rfl ?_
  refine r_get C 0 0 dX5_rehang_1 K_X5 rfl rfl (Nat.le_of_ble_eq_true rfl) rfl m_174 rfl ?_
  refine r_callV C (o_X0_isGoing l (X 1)) v_X0_isGoing m_431 [1, 2, 3, 4, 5, 6, 7] [] [] (51) (Or.inl ⟨1, 0, _, TX0, 16, rfl, rfl, rfl⟩) (fun u1 => [.int u1]) (fun u1 => w_X5 X) rfl rfl rfl rfl rfl (Nat.le_of_ble_eq_true rfl) ⟨(Nat.le_of_ble_eq_true rfl), (Nat.le_of_ble_eq_true rfl)⟩ ⟨Nat.zero_le _, Nat.zero_le _⟩ dX5_rehang_4 (fun _ => rfl) (fun _ => rfl) (fun _ => rfl) (fun u1 => ?_)
  refine r_if_ne C 17 dX5_rehang_7 (by decide) (fun h7 => ?_) (fun h7 => ?_)
  · refine r_aload_n C 0 dX5_rehang_10 rfl ?_
    refine r_ldc C (-1000005) dX5_rehang_11 m_387 ?_
    refine r_callV0 C (o_X5_finding l X (-1000005 : Int32)) v_X5_finding m_207 [.int (-1000005 : Int32)] [] (50) (Or.inl ⟨0, 4, _, TX5, 8, rfl, rfl, rfl⟩) (fun u3 => [.int u3.1]) (fun u3 => w_X5 u3.2) rfl rfl rfl (Nat.le_of_ble_eq_true rfl) ⟨(Nat.le_of_ble_eq_true rfl), (Nat.le_of_ble_eq_true rfl)⟩ ⟨Nat.zero_le _, Nat.zero_le _⟩ dX5_rehang_13 (fun _ => rfl) (fun _ => rfl) (fun _ => rfl) (fun u3 => ?_)
    exact r_reti (x := u3.1) (rv := (fun u => some (.int u.1))) (hpE := (fun u => w_X5 u.2)) (t0 := (u3.1, u3.2)) C dX5_rehang_16 (by rfl) (by rfl) (by rfl)
  · refine r_aload_n C 0 dX5_rehang_17 rfl ?_
    refine r_callV0 C (o_X5_bestPair l X) v_X5_bestPair m_523 [] [] (50) (Or.inl ⟨0, 4, _, TX5, 8, rfl, rfl, rfl⟩) (fun u2 => [.int u2.1]) (fun u2 => w_X5 u2.2) rfl rfl rfl (Nat.le_of_ble_eq_true rfl) ⟨(Nat.le_of_ble_eq_true rfl), (Nat.le_of_ble_eq_true rfl)⟩ ⟨Nat.zero_le _, Nat.zero_le _⟩ dX5_rehang_18 (fun _ => rfl) (fun _ => rfl) (fun _ => rfl) (fun u2 => ?_)
    exact r_reti (x := u2.1) (rv := (fun u => some (.int u.1))) (hpE := (fun u => w_X5 u.2)) (t0 := (u2.1, u2.2)) C dX5_rehang_21 (by rfl) (by rfl) (by rfl)
set_option maxRecDepth 100000 in
set_option maxHeartbeats 4000000 in
theorem o_X5_rehung (l : Launch) (X : (Nat → q_St)) : q_Ok l yX5_rehung cX5_rehung 1 (some .int) 7 167 [.ref 50] (w_X5 X) (f_X5_rehung X) (fun u => some (.int u.1)) (fun u => w_X5 u.2) := by
  refine q_enter (by decide +kernel) (Nat.le_of_ble_eq_true rfl) (fun t p e s m args below meth c dC dI dA A α C => ?_)
  refine r_cut (f_X5_rehung.eq_1 _) ?_
  show q_S p l e (q_rm 7 167) s m args below meth c 1 dC dI dA A α (MQ below (q_Q α dC dI dA A ((fun u => some (.int u.1)) t) ((fun u => w_X5 u.2) t)) args s 0 0 A) 0 0 _ t 0 [(0, .ref 50)] [] (w_X5 X)
  refine r_aload_n C 0 dX5_rehung_0 rfl ?_
  refine r_get C 0 0 dX5_rehung_1 K_X5 rfl rfl (Nat.le_of_ble_eq_true rfl) rfl m_174 rfl ?_
  refine r_callV C (o_X0_isGoing l (X 1)) v_X0_isGoing m_431 [1, 2, 3, 4, 5, 6, 7] [] [] (51) (Or.inl ⟨1, 0, _, TX0, 16, rfl, rfl, rfl⟩) (fun u1 => [.int u1]) (fun u1 => w_X5 X) rfl rfl rfl rfl rfl (Nat.le_of_ble_eq_true rfl) ⟨(Nat.le_of_ble_eq_true rfl), (Nat.le_of_ble_eq_true rfl)⟩ ⟨Nat.zero_le _, Nat.zero_le _⟩ dX5_rehung_4 (fun _ => rfl) (fun _ => rfl) (fun _ => rfl) (fun u1 => ?_)
  refine r_if_ne C 17 dX5_rehung_7 (by decide) (fun h7 => ?_) (fun h7 => ?_)
  · refine r_aload_n C 0 dX5_rehung_10 rfl ?_
    refine r_ldc C (-1000005) dX5_rehung_11 m_387 ?_
    refine r_callV0 C (o_X5_finding l X (-1000005 : Int32)) v_X5_finding m_207 [.int (-1000005 : Int32)] [] (50) (Or.inl ⟨0, 4, _, TX5, 8, rfl, rfl, rfl⟩) (fun u4 => [.int u4.1]) (fun u4 => w_X5 u4.2) rfl rfl rfl (Nat.le_of_ble_eq_true rfl) ⟨(Nat.le_of_ble_eq_true rfl), (Nat.le_of_ble_eq_true rfl)⟩ ⟨Nat.zero_le _, Nat.zero_le _⟩ dX5_rehung_13 (fun _ => rfl) (fun _ => rfl) (fun _ => rfl) (fun u4 => ?_)
    exact r_reti (x := u4.1) (rv := (fun u => some (.int u.1))) (hpE := (fun u => w_X5 u.2)) (t0 := (u4.1, u4.2)) C dX5_rehung_16 (by rfl) (by rfl) (by rfl)
  · refine r_aload_n C 0 dX5_rehung_17 rfl ?_
    refine r_aload_n C 0 dX5_rehung_18 rfl ?_
    refine r_callV0 C (o_X5_bestPair l X) v_X5_bestPair m_523 [] [.ref 50] (50) (Or.inl ⟨0, 4, _, TX5, 8, rfl, rfl, rfl⟩) (fun u2 => [.int u2.1, .ref 50]) (fun u2 => w_X5 u2.2) rfl rfl rfl (Nat.le_of_ble_eq_true rfl) ⟨(Nat.le_of_ble_eq_true rfl), (Nat.le_of_ble_eq_true rfl)⟩ ⟨Nat.zero_le _, Nat.zero_le _⟩ dX5_rehung_19 (fun _ => rfl) (fun _ => rfl) (fun _ => rfl) (fun u2 => ?_)
    refine r_callV0 C (o_X5_worthIfSwapped l u2.2 u2.1) v_X5_worthIfSwapped m_527 [.int u2.1] [] (50) (Or.inl ⟨0, 4, _, TX5, 8, rfl, rfl, rfl⟩) (fun u3 => [.int u3.1]) (fun u3 => w_X5 u3.2) rfl rfl rfl (Nat.le_of_ble_eq_true rfl) ⟨(Nat.le_of_ble_eq_true rfl), (Nat.le_of_ble_eq_true rfl)⟩ ⟨Nat.zero_le _, Nat.zero_le _⟩ dX5_rehung_22 (fun _ => rfl) (fun _ => rfl) (fun _ => rfl) (fun u3 => ?_)
    exact r_reti (x := u3.1) (rv := (fun u => some (.int u.1))) (hpE := (fun u => w_X5 u.2)) (t0 := (u3.1, u3.2)) C dX5_rehung_25 (by rfl) (by rfl) (by rfl)
set_option maxRecDepth 100000 in
set_option maxHeartbeats 4000000 in
theorem k_X5_kindFor_29 {p : Program} {l : Launch} {e : Env} {s : State} {m : MethodId} {args : Array Value} {below : List Frame} {meth : Method} {c : Code} {dC : Nat → ClassId} {dI : Nat → Nat → Nat} {dA : Nat → ClassId} {A : Nat → Prop} {α : Nat → Nat} {t : Int32 × (Nat → q_St)} (C : q_Cx p s m args meth c cX5_kindFor 7 RX5 (some .int) "kindFor" dC dI dA A α) (X : (Nat → q_St)) (a1 : Int32)  : ∀ (n : Nat) (x1 : Int32) (x2 : Int32) (x3 : Int32) (x4 : Int32) (x5 : Int32) (X' : (Nat → q_St)), q_S p l e (q_rm 5 121) s m args below meth c 7 dC dI dA A α (MQ below (q_Q α dC dI dA A ((fun u => some (.int u.1)) t) ((fun u => w_X5 u.2) t)) args s 0 0 A) 0 0 (f_X5_kindFor_29 X a1  n x1 x2 x3 x4 x5 X') t 29 [(0, .ref 50), (1, .int x1), (2, .int x2), (3, .int x3), (4, .int x4), (5, .int x5)] [] (w_X5 X') := by
  intro n
  induction n with
  | zero =>
    intro x1 x2 x3 x4 x5 X'
    exact r_cut (f_X5_kindFor_29.eq_1 _ _ _ _ _ _ _ _) (r_none True.intro)
  | succ n ih =>
    intro x1 x2 x3 x4 x5 X'
    refine r_cut (f_X5_kindFor_29.eq_2 _ _ _ _ _ _ _ _ _) ?_
    refine r_iload C 5 dX5_kindFor_29 rfl ?_
    refine r_bipush C (7) dX5_kindFor_31 rfl ?_
    refine r_icmp_ge C 128 dX5_kindFor_33 (by decide) (fun h33 => ?_) (fun h33 => ?_)
    · refine r_iload_n C 2 dX5_kindFor_128 rfl ?_
      exact r_reti (x := x2) (rv := (fun u => some (.int u.1))) (hpE := (fun u => w_X5 u.2)) (t0 := (x2, X')) C dX5_kindFor_129 (by rfl) (by rfl) (by rfl)
    · refine r_aload_n C 0 dX5_kindFor_36 rfl ?_
      refine r_get C 0 2 dX5_kindFor_37 K_X5 rfl rfl (Nat.le_of_ble_eq_true rfl) rfl m_176 rfl ?_
      refine r_aload_n C 0 dX5_kindFor_40 rfl ?_
      refine r_get C 0 0 dX5_kindFor_41 K_X5 rfl rfl (Nat.le_of_ble_eq_true rfl) rfl m_174 rfl ?_
      refine r_callV C (o_X0_take l (X' 3) (X' 1)) v_X0_take m_501 [15, 16, 17, 18, 19, 20, 21, 1, 2, 3, 4, 5, 6, 7] [.ref 51] [] (65) (Or.inl ⟨15, 0, _, TX0, 16, rfl, rfl, rfl⟩) (fun u3 => []) (fun u3 => w_X5 (va_up X' 3 u3)) rfl rfl rfl rfl rfl (Nat.le_of_ble_eq_true rfl) ⟨(Nat.le_of_ble_eq_true rfl), (Nat.le_of_ble_eq_true rfl)⟩ ⟨Nat.zero_le _, Nat.zero_le _⟩ dX5_kindFor_44 (fun _ => rfl) (fun _ => rfl) (fun _ => rfl) (fun u3 => ?_)
      refine r_aload_n C 0 dX5_kindFor_47 rfl ?_
      refine r_get C 0 2 dX5_kindFor_48 K_X5 rfl rfl (Nat.le_of_ble_eq_true rfl) rfl m_176 rfl ?_
      refine r_iload_n C 1 dX5_kindFor_51 rfl ?_
      refine r_iload C 5 dX5_kindFor_52 rfl ?_
      refine r_callV C (o_X0_setKind l u3 x1 x5) v_X0_setKind m_262 [15, 16, 17, 18, 19, 20, 21] [.int x1, .int x5] [] (65) (Or.inl ⟨15, 0, _, TX0, 16, rfl, rfl, rfl⟩) (fun u4 => []) (fun u4 => w_X5 (va_up X' 3 u4)) rfl rfl rfl rfl rfl (Nat.le_of_ble_eq_true rfl) ⟨(Nat.le_of_ble_eq_true rfl), (Nat.le_of_ble_eq_true rfl)⟩ ⟨Nat.zero_le _, Nat.zero_le _⟩ dX5_kindFor_54 (fun _ => rfl) (fun _ => rfl) (fun _ => rfl) (fun u4 => ?_)
      refine r_aload_n C 0 dX5_kindFor_57 rfl ?_
      refine r_get C 0 2 dX5_kindFor_58 K_X5 rfl rfl (Nat.le_of_ble_eq_true rfl) rfl m_176 rfl ?_
      refine r_callV C (o_X0_dropWrongBeats l u4) v_X0_dropWrongBeats m_539 [15, 16, 17, 18, 19, 20, 21] [] [] (65) (Or.inl ⟨15, 0, _, TX0, 16, rfl, rfl, rfl⟩) (fun u5 => []) (fun u5 => w_X5 (va_up X' 3 u5)) rfl rfl rfl rfl rfl (Nat.le_of_ble_eq_true rfl) ⟨(Nat.le_of_ble_eq_true rfl), (Nat.le_of_ble_eq_true rfl)⟩ ⟨Nat.zero_le _, Nat.zero_le _⟩ dX5_kindFor_61 (fun _ => rfl) (fun _ => rfl) (fun _ => rfl) (fun u5 => ?_)
      refine r_aload_n C 0 dX5_kindFor_64 rfl ?_
      refine r_get C 0 3 dX5_kindFor_65 K_X5 rfl rfl (Nat.le_of_ble_eq_true rfl) rfl m_177 rfl ?_
      refine r_aload_n C 0 dX5_kindFor_68 rfl ?_
      refine r_get C 0 2 dX5_kindFor_69 K_X5 rfl rfl (Nat.le_of_ble_eq_true rfl) rfl m_176 rfl ?_
      refine r_iconst C (0) dX5_kindFor_72 rfl ?_
      refine r_callV C (o_X4_worth l (X' 4) u5 (0 : Int32)) v_X4_worth m_436 [22, 23, 24, 25, 26, 27, 28, 15, 16, 17, 18, 19, 20, 21] [.ref 65, .int (0 : Int32)] [] (72) (Or.inl ⟨22, 3, _, TX4, 6, rfl, rfl, rfl⟩) (fun u6 => [.int u6.1]) (fun u6 => w_X5 (va_up (va_up X' 3 u5) 4 u6.2)) rfl rfl rfl rfl rfl (Nat.le_of_ble_eq_true rfl) ⟨(Nat.le_of_ble_eq_true rfl), (Nat.le_of_ble_eq_true rfl)⟩ ⟨Nat.zero_le _, Nat.zero_le _⟩ dX5_kindFor_73 (fun _ => rfl) (fun _ => rfl) (fun _ => rfl) (fun u6 => ?_)
      refine r_istore C [(6, .int u6.1), (0, .ref 50), (1, .int x1), (2, .int x2), (3, .int x3), (4, .int x4), (5, .int x5)] dX5_kindFor_76 (Nat.le_of_ble_eq_true rfl) rfl ?_
      refine r_aload_n C 1 dX5_kindFor_78 rfl ?_
      refine r_get C 0 2 dX5_kindFor_79 K_X5 rfl rfl (Nat.le_of_ble_eq_true rfl) rfl m_176 rfl ?_
      refine r_get C 15 1 dX5_kindFor_82 K_X0 rfl rfl (Nat.le_of_ble_eq_true rfl) rfl m_36 rfl ?_
      refine r_iload_n C 4 dX5_kindFor_85 rfl ?_
      refine r_icmp_gt C 107 dX5_kindFor_86 (by decide) (fun h86 => ?_) (fun h86 => ?_)
      · refine r_iload C 6 dX5_kindFor_107 rfl ?_
        refine r_istore_n C [(2, .int x5), (6, .int u6.1), (0, .ref 50), (1, .int x1), (3, .int x3), (4, .int x4), (5, .int x5)] dX5_kindFor_109 (Nat.le_of_ble_eq_true rfl) rfl ?_
        refine r_aload_n C 2 dX5_kindFor_110 rfl ?_
        refine r_get C 0 2 dX5_kindFor_111 K_X5 rfl rfl (Nat.le_of_ble_eq_true rfl) rfl m_176 rfl ?_
        refine r_get C 15 1 dX5_kindFor_114 K_X0 rfl rfl (Nat.le_of_ble_eq_true rfl) rfl m_36 rfl ?_
        refine r_istore_n C [(3, .int (u5.1 1)), (2, .int x5), (6, .int u6.1), (0, .ref 50), (1, .int x1), (4, .int x4), (5, .int x5)] dX5_kindFor_117 (Nat.le_of_ble_eq_true rfl) rfl ?_
        refine r_iload C 2 dX5_kindFor_118 rfl ?_
        refine r_istore C [(4, .int u6.1), (3, .int (u5.1 1)), (2, .int x5), (6, .int u6.1), (0, .ref 50), (1, .int x1), (5, .int x5)] dX5_kindFor_120 (Nat.le_of_ble_eq_true rfl) rfl ?_
        refine r_iinc C 6 (x5 + 1) [(5, .int (x5 + 1)), (4, .int u6.1), (3, .int (u5.1 1)), (2, .int x5), (6, .int u6.1), (0, .ref 50), (1, .int x1)] dX5_kindFor_122 rfl rfl (Nat.le_of_ble_eq_true rfl) rfl ?_
        refine r_goto C 29 dX5_kindFor_125 (by decide) ?_
        refine r_lv [(0, .ref 50), (1, .int x1), (2, .int x5), (3, .int (u5.1 1)), (4, .int u6.1), (5, .int (x5 + 1))] [5, 6, 3, 2, 1, 0] rfl ?_
        exact ih x1 x5 (u5.1 1) u6.1 (x5 + 1) (va_up (va_up X' 3 u5) 4 u6.2)
      · refine r_aload_n C 1 dX5_kindFor_89 rfl ?_
        refine r_get C 0 2 dX5_kindFor_90 K_X5 rfl rfl (Nat.le_of_ble_eq_true rfl) rfl m_176 rfl ?_
        refine r_get C 15 1 dX5_kindFor_93 K_X0 rfl rfl (Nat.le_of_ble_eq_true rfl) rfl m_36 rfl ?_
        refine r_iload_n C 4 dX5_kindFor_96 rfl ?_
        refine r_icmp_ne C 122 dX5_kindFor_97 (by decide) (fun h97 => ?_) (fun h97 => ?_)
        · refine r_iload C 0 dX5_kindFor_100 rfl ?_
          refine r_iload C 5 dX5_kindFor_102 rfl ?_
          refine r_icmp_ge C 122 dX5_kindFor_104 (by decide) (fun h104 => ?_) (fun h104 => ?_)
          · refine r_iinc C 6 (x5 + 1) [(5, .int (x5 + 1)), (6, .int u6.1), (0, .ref 50), (1, .int x1), (2, .int x2), (3, .int x3), (4, .int x4)] dX5_kindFor_122 rfl rfl (Nat.le_of_ble_eq_true rfl) rfl ?_
            refine r_goto C 29 dX5_kindFor_125 (by decide) ?_
            refine r_lv [(0, .ref 50), (1, .int x1), (2, .int x2), (3, .int x3), (4, .int x4), (5, .int (x5 + 1))] [2, 3, 4, 5, 6, 0] rfl ?_
            exact ih x1 x2 x3 x4 (x5 + 1) (va_up (va_up X' 3 u5) 4 u6.2)
          · refine r_iload C 6 dX5_kindFor_107 rfl ?_
            refine r_istore_n C [(2, .int x5), (6, .int u6.1), (0, .ref 50), (1, .int x1), (3, .int x3), (4, .int x4), (5, .int x5)] dX5_kindFor_109 (Nat.le_of_ble_eq_true rfl) rfl ?_
            refine r_aload_n C 2 dX5_kindFor_110 rfl ?_
            refine r_get C 0 2 dX5_kindFor_111 K_X5 rfl rfl (Nat.le_of_ble_eq_true rfl) rfl m_176 rfl ?_
            refine r_get C 15 1 dX5_kindFor_114 K_X0 rfl rfl (Nat.le_of_ble_eq_true rfl) rfl m_36 rfl ?_
            refine r_istore_n C [(3, .int (u5.1 1)), (2, .int x5), (6, .int u6.1), (0, .ref 50), (1, .int x1), (4, .int x4), (5, .int x5)] dX5_kindFor_117 (Nat.le_of_ble_eq_true rfl) rfl ?_
            refine r_iload C 2 dX5_kindFor_118 rfl ?_
            refine r_istore C [(4, .int u6.1), (3, .int (u5.1 1)), (2, .int x5), (6, .int u6.1), (0, .ref 50), (1, .int x1), (5, .int x5)] dX5_kindFor_120 (Nat.le_of_ble_eq_true rfl) rfl ?_
            refine r_iinc C 6 (x5 + 1) [(5, .int (x5 + 1)), (4, .int u6.1), (3, .int (u5.1 1)), (2, .int x5), (6, .int u6.1), (0, .ref 50), (1, .int x1)] dX5_kindFor_122 rfl rfl (Nat.le_of_ble_eq_true rfl) rfl ?_
            refine r_goto C 29 dX5_kindFor_125 (by decide) ?_
            refine r_lv [(0, .ref 50), (1, .int x1), (2, .int x5), (3, .int (u5.1 1)), (4, .int u6.1), (5, .int (x5 + 1))] [5, 6, 3, 2, 1, 0] rfl ?_
            exact ih x1 x5 (u5.1 1) u6.1 (x5 + 1) (va_up (va_up X' 3 u5) 4 u6.2)
        · refine r_iinc C 6 (x5 + 1) [(5, .int (x5 + 1)), (6, .int u6.1), (0, .ref 50), (1, .int x1), (2, .int x2), (3, .int x3), (4, .int x4)] dX5_kindFor_122 rfl rfl (Nat.le_of_ble_eq_true rfl) rfl ?_
          refine r_goto C 29 dX5_kindFor_125 (by decide) ?_
          refine r_lv [(0, .ref 50), (1, .int x1), (2, .int x2), (3, .int x3), (4, .int x4), (5, .int (x5 + 1))] [2, 3, 4, 5, 6, 0] rfl ?_
          exact ih x1 x2 x3 x4 (x5 + 1) (va_up (va_up X' 3 u5) 4 u6.2)
set_option maxRecDepth 100000 in
set_option maxHeartbeats 4000000 in
theorem o_X5_kindFor (l : Launch) (X : (Nat → q_St)) (a1 : Int32) : q_Ok l yX5_kindFor cX5_kindFor 7 (some .int) 5 121 [.ref 50, .int a1] (w_X5 X) (f_X5_kindFor X a1) (fun u => some (.int u.1)) (fun u => w_X5 u.2) := by
  refine q_enter (by decide +kernel) (Nat.le_of_ble_eq_true rfl) (fun t p e s m args below meth c dC dI dA A α C => ?_)
  refine r_cut (f_X5_kindFor.eq_1 _ _) ?_
  show q_S p l e (q_rm 5 121) s m args below meth c 7 dC dI dA A α (MQ below (q_Q α dC dI dA A ((fun u => some (.int u.1)) t) ((fun u => w_X5 u.2) t)) args s 0 0 A) 0 0 _ t 0 [(0, .ref 50), (1, .int a1)] [] (w_X5 X)
  refine r_aload_n C 0 dX5_kindFor_0 rfl ?_
  refine r_get C 0 0 dX5_kindFor_1 K_X5 rfl rfl (Nat.le_of_ble_eq_true rfl) rfl m_174 rfl ?_
  refine r_iload_n C 1 dX5_kindFor_4 rfl ?_
  refine r_callV C (o_X0_isDoll l (X 1) a1) v_X0_isDoll m_220 [1, 2, 3, 4, 5, 6, 7] [.int a1] [] (51) (Or.inl ⟨1, 0, _, TX0, 16, rfl, rfl, rfl⟩) (fun u1 => [.int u1]) (fun u1 => w_X5 X) rfl rfl rfl rfl rfl (Nat.le_of_ble_eq_true rfl) ⟨(Nat.le_of_ble_eq_true rfl), (Nat.le_of_ble_eq_true rfl)⟩ ⟨Nat.zero_le _, Nat.zero_le _⟩ dX5_kindFor_5 (fun _ => rfl) (fun _ => rfl) (fun _ => rfl) (fun u1 => ?_)
  refine r_if_ne C 18 dX5_kindFor_8 (by decide) (fun h8 => ?_) (fun h8 => ?_)
  · refine r_aload_n C 0 dX5_kindFor_11 rfl ?_
    refine r_ldc C (-1000001) dX5_kindFor_12 m_206 ?_
    refine r_callV0 C (o_X5_finding l X (-1000001 : Int32)) v_X5_finding m_207 [.int (-1000001 : Int32)] [] (50) (Or.inl ⟨0, 4, _, TX5, 8, rfl, rfl, rfl⟩) (fun u2 => [.int u2.1]) (fun u2 => w_X5 u2.2) rfl rfl rfl (Nat.le_of_ble_eq_true rfl) ⟨(Nat.le_of_ble_eq_true rfl), (Nat.le_of_ble_eq_true rfl)⟩ ⟨Nat.zero_le _, Nat.zero_le _⟩ dX5_kindFor_14 (fun _ => rfl) (fun _ => rfl) (fun _ => rfl) (fun u2 => ?_)
    exact r_reti (x := u2.1) (rv := (fun u => some (.int u.1))) (hpE := (fun u => w_X5 u.2)) (t0 := (u2.1, u2.2)) C dX5_kindFor_17 (by rfl) (by rfl) (by rfl)
  · refine r_iconst C (0) dX5_kindFor_18 rfl ?_
    refine r_istore_n C [(2, .int (0 : Int32)), (0, .ref 50), (1, .int a1)] dX5_kindFor_19 (Nat.le_of_ble_eq_true rfl) rfl ?_
    refine r_iconst C (-1) dX5_kindFor_20 rfl ?_
    refine r_istore_n C [(3, .int (-1 : Int32)), (2, .int (0 : Int32)), (0, .ref 50), (1, .int a1)] dX5_kindFor_21 (Nat.le_of_ble_eq_true rfl) rfl ?_
    refine r_ldc C (1000000) dX5_kindFor_22 m_518 ?_
    refine r_istore C [(4, .int (1000000 : Int32)), (3, .int (-1 : Int32)), (2, .int (0 : Int32)), (0, .ref 50), (1, .int a1)] dX5_kindFor_24 (Nat.le_of_ble_eq_true rfl) rfl ?_
    refine r_iconst C (0) dX5_kindFor_26 rfl ?_
    refine r_istore C [(5, .int (0 : Int32)), (4, .int (1000000 : Int32)), (3, .int (-1 : Int32)), (2, .int (0 : Int32)), (0, .ref 50), (1, .int a1)] dX5_kindFor_27 (Nat.le_of_ble_eq_true rfl) rfl ?_
    refine r_lv [(0, .ref 50), (1, .int a1), (2, .int (0 : Int32)), (3, .int (-1 : Int32)), (4, .int (1000000 : Int32)), (5, .int (0 : Int32))] [4, 5, 3, 2, 1, 0] rfl ?_
    exact k_X5_kindFor_29 C X a1   q_N a1 (0 : Int32) (-1 : Int32) (1000000 : Int32) (0 : Int32) X
set_option maxRecDepth 100000 in
set_option maxHeartbeats 4000000 in
theorem k_X5_mayor_26 {p : Program} {l : Launch} {e : Env} {s : State} {m : MethodId} {args : Array Value} {below : List Frame} {meth : Method} {c : Code} {dC : Nat → ClassId} {dI : Nat → Nat → Nat} {dA : Nat → ClassId} {A : Nat → Prop} {α : Nat → Nat} {t : Int32 × (Nat → q_St)} (C : q_Cx p s m args meth c cX5_mayor 6 RX5 (some .int) "mayor" dC dI dA A α) (X : (Nat → q_St)) (a1 : Int32)  : ∀ (n : Nat) (x1 : Int32) (x2 : Int32) (x3 : Int32) (x4 : Int32) (X' : (Nat → q_St)), q_S p l e (q_rm 6 131) s m args below meth c 6 dC dI dA A α (MQ below (q_Q α dC dI dA A ((fun u => some (.int u.1)) t) ((fun u => w_X5 u.2) t)) args s 0 0 A) 0 0 (f_X5_mayor_26 X a1  n x1 x2 x3 x4 X') t 26 [(0, .ref 50), (1, .int x1), (2, .int x2), (3, .int x3), (4, .int x4)] [] (w_X5 X') := by
  intro n
  induction n with
  | zero =>
    intro x1 x2 x3 x4 X'
    exact r_cut (f_X5_mayor_26.eq_1 _ _ _ _ _ _ _) (r_none True.intro)
  | succ n ih =>
    intro x1 x2 x3 x4 X'
    refine r_cut (f_X5_mayor_26.eq_2 _ _ _ _ _ _ _ _) ?_
    refine r_iload C 4 dX5_mayor_26 rfl ?_
    refine r_aload_n C 0 dX5_mayor_28 rfl ?_
    refine r_get C 0 0 dX5_mayor_29 K_X5 rfl rfl (Nat.le_of_ble_eq_true rfl) rfl m_174 rfl ?_
    refine r_get C 1 0 dX5_mayor_32 K_X0 rfl rfl (Nat.le_of_ble_eq_true rfl) rfl m_30 rfl ?_
    refine r_icmp_ge C 128 dX5_mayor_35 (by decide) (fun h35 => ?_) (fun h35 => ?_)
    · refine r_iload_n C 2 dX5_mayor_128 rfl ?_
      refine r_iconst C (-1) dX5_mayor_129 rfl ?_
      refine r_icmp_ne C 142 dX5_mayor_130 (by decide) (fun h130 => ?_) (fun h130 => ?_)
      · refine r_aload_n C 0 dX5_mayor_133 rfl ?_
        refine r_ldc C (-1000004) dX5_mayor_134 m_517 ?_
        refine r_callV0 C (o_X5_finding l X' (-1000004 : Int32)) v_X5_finding m_207 [.int (-1000004 : Int32)] [] (50) (Or.inl ⟨0, 4, _, TX5, 8, rfl, rfl, rfl⟩) (fun u3 => [.int u3.1]) (fun u3 => w_X5 u3.2) rfl rfl rfl (Nat.le_of_ble_eq_true rfl) ⟨(Nat.le_of_ble_eq_true rfl), (Nat.le_of_ble_eq_true rfl)⟩ ⟨Nat.zero_le _, Nat.zero_le _⟩ dX5_mayor_136 (fun _ => rfl) (fun _ => rfl) (fun _ => rfl) (fun u3 => ?_)
        refine r_goto C 143 dX5_mayor_139 (by decide) ?_
        exact r_reti (x := u3.1) (rv := (fun u => some (.int u.1))) (hpE := (fun u => w_X5 u.2)) (t0 := (u3.1, u3.2)) C dX5_mayor_143 (by rfl) (by rfl) (by rfl)
      · refine r_iload_n C 2 dX5_mayor_142 rfl ?_
        exact r_reti (x := x2) (rv := (fun u => some (.int u.1))) (hpE := (fun u => w_X5 u.2)) (t0 := (x2, X')) C dX5_mayor_143 (by rfl) (by rfl) (by rfl)
    · refine r_iload C 4 dX5_mayor_38 rfl ?_
      refine r_iload_n C 1 dX5_mayor_40 rfl ?_
      refine r_icmp_eq C 122 dX5_mayor_41 (by decide) (fun h41 => ?_) (fun h41 => ?_)
      · refine r_iinc C 4 (x4 + 1) [(4, .int (x4 + 1)), (0, .ref 50), (1, .int x1), (2, .int x2), (3, .int x3)] dX5_mayor_122 rfl rfl (Nat.le_of_ble_eq_true rfl) rfl ?_
        refine r_goto C 26 dX5_mayor_125 (by decide) ?_
        refine r_lv [(0, .ref 50), (1, .int x1), (2, .int x2), (3, .int x3), (4, .int (x4 + 1))] [1, 2, 3, 4, 0] rfl ?_
        exact ih x1 x2 x3 (x4 + 1) X'
      · refine r_aload_n C 0 dX5_mayor_44 rfl ?_
        refine r_get C 0 0 dX5_mayor_45 K_X5 rfl rfl (Nat.le_of_ble_eq_true rfl) rfl m_174 rfl ?_
        refine r_iload_n C 1 dX5_mayor_48 rfl ?_
        refine r_iload C 4 dX5_mayor_49 rfl ?_
        refine r_callV C (o_X0_areTogether l (X' 1) x1 x4) v_X0_areTogether m_547 [1, 2, 3, 4, 5, 6, 7] [.int x1, .int x4] [] (51) (Or.inl ⟨1, 0, _, TX0, 16, rfl, rfl, rfl⟩) (fun u4 => [.int u4]) (fun u4 => w_X5 X') rfl rfl rfl rfl rfl (Nat.le_of_ble_eq_true rfl) ⟨(Nat.le_of_ble_eq_true rfl), (Nat.le_of_ble_eq_true rfl)⟩ ⟨Nat.zero_le _, Nat.zero_le _⟩ dX5_mayor_51 (fun _ => rfl) (fun _ => rfl) (fun _ => rfl) (fun u4 => ?_)
        refine r_if_eq C 60 dX5_mayor_54 (by decide) (fun h54 => ?_) (fun h54 => ?_)
        · refine r_aload_n C 0 dX5_mayor_60 rfl ?_
          refine r_get C 0 2 dX5_mayor_61 K_X5 rfl rfl (Nat.le_of_ble_eq_true rfl) rfl m_176 rfl ?_
          refine r_aload_n C 0 dX5_mayor_64 rfl ?_
          refine r_get C 0 0 dX5_mayor_65 K_X5 rfl rfl (Nat.le_of_ble_eq_true rfl) rfl m_174 rfl ?_
          refine r_callV C (o_X0_take l (X' 3) (X' 1)) v_X0_take m_501 [15, 16, 17, 18, 19, 20, 21, 1, 2, 3, 4, 5, 6, 7] [.ref 51] [] (65) (Or.inl ⟨15, 0, _, TX0, 16, rfl, rfl, rfl⟩) (fun u5 => []) (fun u5 => w_X5 (va_up X' 3 u5)) rfl rfl rfl rfl rfl (Nat.le_of_ble_eq_true rfl) ⟨(Nat.le_of_ble_eq_true rfl), (Nat.le_of_ble_eq_true rfl)⟩ ⟨Nat.zero_le _, Nat.zero_le _⟩ dX5_mayor_68 (fun _ => rfl) (fun _ => rfl) (fun _ => rfl) (fun u5 => ?_)
          refine r_aload_n C 0 dX5_mayor_71 rfl ?_
          refine r_get C 0 2 dX5_mayor_72 K_X5 rfl rfl (Nat.le_of_ble_eq_true rfl) rfl m_176 rfl ?_
          refine r_iload C 4 dX5_mayor_75 rfl ?_
          refine r_iload_n C 1 dX5_mayor_77 rfl ?_
          refine r_callV C (o_X0_replace l u5 x4 x1) v_X0_replace m_551 [15, 16, 17, 18, 19, 20, 21] [.int x4, .int x1] [] (65) (Or.inl ⟨15, 0, _, TX0, 16, rfl, rfl, rfl⟩) (fun u6 => []) (fun u6 => w_X5 (va_up X' 3 u6)) rfl rfl rfl rfl rfl (Nat.le_of_ble_eq_true rfl) ⟨(Nat.le_of_ble_eq_true rfl), (Nat.le_of_ble_eq_true rfl)⟩ ⟨Nat.zero_le _, Nat.zero_le _⟩ dX5_mayor_78 (fun _ => rfl) (fun _ => rfl) (fun _ => rfl) (fun u6 => ?_)
          refine r_aload_n C 0 dX5_mayor_81 rfl ?_
          refine r_get C 0 2 dX5_mayor_82 K_X5 rfl rfl (Nat.le_of_ble_eq_true rfl) rfl m_176 rfl ?_
          refine r_callV C (o_X0_isGoing l u6) v_X0_isGoing m_431 [15, 16, 17, 18, 19, 20, 21] [] [] (65) (Or.inl ⟨15, 0, _, TX0, 16, rfl, rfl, rfl⟩) (fun u7 => [.int u7]) (fun u7 => w_X5 (va_up X' 3 u6)) rfl rfl rfl rfl rfl (Nat.le_of_ble_eq_true rfl) ⟨(Nat.le_of_ble_eq_true rfl), (Nat.le_of_ble_eq_true rfl)⟩ ⟨Nat.zero_le _, Nat.zero_le _⟩ dX5_mayor_85 (fun _ => rfl) (fun _ => rfl) (fun _ => rfl) (fun u7 => ?_)
          refine r_if_eq C 106 dX5_mayor_88 (by decide) (fun h88 => ?_) (fun h88 => ?_)
          · refine r_ldc C (1000000) dX5_mayor_106 m_518 ?_
            refine r_istore C [(5, .int (1000000 : Int32)), (0, .ref 50), (1, .int x1), (2, .int x2), (3, .int x3), (4, .int x4)] dX5_mayor_108 (Nat.le_of_ble_eq_true rfl) rfl ?_
            refine r_iload C 0 dX5_mayor_110 rfl ?_
            refine r_iload_n C 4 dX5_mayor_112 rfl ?_
            refine r_icmp_ge C 122 dX5_mayor_113 (by decide) (fun h113 => ?_) (fun h113 => ?_)
            · refine r_iinc C 5 (x4 + 1) [(4, .int (x4 + 1)), (5, .int (1000000 : Int32)), (0, .ref 50), (1, .int x1), (2, .int x2), (3, .int x3)] dX5_mayor_122 rfl rfl (Nat.le_of_ble_eq_true rfl) rfl ?_
              refine r_goto C 26 dX5_mayor_125 (by decide) ?_
              refine r_lv [(0, .ref 50), (1, .int x1), (2, .int x2), (3, .int x3), (4, .int (x4 + 1))] [2, 3, 4, 5, 0] rfl ?_
              exact ih x1 x2 x3 (x4 + 1) (va_up X' 3 u6)
            · refine r_iload C 5 dX5_mayor_116 rfl ?_
              refine r_istore_n C [(2, .int x4), (5, .int (1000000 : Int32)), (0, .ref 50), (1, .int x1), (3, .int x3), (4, .int x4)] dX5_mayor_118 (Nat.le_of_ble_eq_true rfl) rfl ?_
              refine r_iload C 1 dX5_mayor_119 rfl ?_
              refine r_istore_n C [(3, .int (1000000 : Int32)), (2, .int x4), (5, .int (1000000 : Int32)), (0, .ref 50), (1, .int x1), (4, .int x4)] dX5_mayor_121 (Nat.le_of_ble_eq_true rfl) rfl ?_
              refine r_iinc C 5 (x4 + 1) [(4, .int (x4 + 1)), (3, .int (1000000 : Int32)), (2, .int x4), (5, .int (1000000 : Int32)), (0, .ref 50), (1, .int x1)] dX5_mayor_122 rfl rfl (Nat.le_of_ble_eq_true rfl) rfl ?_
              refine r_goto C 26 dX5_mayor_125 (by decide) ?_
              refine r_lv [(0, .ref 50), (1, .int x1), (2, .int x4), (3, .int (1000000 : Int32)), (4, .int (x4 + 1))] [4, 5, 2, 1, 0] rfl ?_
              exact ih x1 x4 (1000000 : Int32) (x4 + 1) (va_up X' 3 u6)
          · refine r_aload_n C 0 dX5_mayor_91 rfl ?_
            refine r_get C 0 3 dX5_mayor_92 K_X5 rfl rfl (Nat.le_of_ble_eq_true rfl) rfl m_177 rfl ?_
            refine r_aload_n C 0 dX5_mayor_95 rfl ?_
            refine r_get C 0 2 dX5_mayor_96 K_X5 rfl rfl (Nat.le_of_ble_eq_true rfl) rfl m_176 rfl ?_
            refine r_iconst C (0) dX5_mayor_99 rfl ?_
            refine r_callV C (o_X4_worth l (X' 4) u6 (0 : Int32)) v_X4_worth m_436 [22, 23, 24, 25, 26, 27, 28, 15, 16, 17, 18, 19, 20, 21] [.ref 65, .int (0 : Int32)] [] (72) (Or.inl ⟨22, 3, _, TX4, 6, rfl, rfl, rfl⟩) (fun u8 => [.int u8.1]) (fun u8 => w_X5 (va_up (va_up X' 3 u6) 4 u8.2)) rfl rfl rfl rfl rfl (Nat.le_of_ble_eq_true rfl) ⟨(Nat.le_of_ble_eq_true rfl), (Nat.le_of_ble_eq_true rfl)⟩ ⟨Nat.zero_le _, Nat.zero_le _⟩ dX5_mayor_100 (fun _ => rfl) (fun _ => rfl) (fun _ => rfl) (fun u8 => ?_)
            refine r_goto C 108 dX5_mayor_103 (by decide) ?_
            refine r_istore C [(5, .int u8.1), (0, .ref 50), (1, .int x1), (2, .int x2), (3, .int x3), (4, .int x4)] dX5_mayor_108 (Nat.le_of_ble_eq_true rfl) rfl ?_
            refine r_iload C 0 dX5_mayor_110 rfl ?_
            refine r_iload_n C 4 dX5_mayor_112 rfl ?_
            refine r_icmp_ge C 122 dX5_mayor_113 (by decide) (fun h113 => ?_) (fun h113 => ?_)
            · refine r_iinc C 5 (x4 + 1) [(4, .int (x4 + 1)), (5, .int u8.1), (0, .ref 50), (1, .int x1), (2, .int x2), (3, .int x3)] dX5_mayor_122 rfl rfl (Nat.le_of_ble_eq_true rfl) rfl ?_
              refine r_goto C 26 dX5_mayor_125 (by decide) ?_
              refine r_lv [(0, .ref 50), (1, .int x1), (2, .int x2), (3, .int x3), (4, .int (x4 + 1))] [2, 3, 4, 5, 0] rfl ?_
              exact ih x1 x2 x3 (x4 + 1) (va_up (va_up X' 3 u6) 4 u8.2)
            · refine r_iload C 5 dX5_mayor_116 rfl ?_
              refine r_istore_n C [(2, .int x4), (5, .int u8.1), (0, .ref 50), (1, .int x1), (3, .int x3), (4, .int x4)] dX5_mayor_118 (Nat.le_of_ble_eq_true rfl) rfl ?_
              refine r_iload C 1 dX5_mayor_119 rfl ?_
              refine r_istore_n C [(3, .int u8.1), (2, .int x4), (5, .int u8.1), (0, .ref 50), (1, .int x1), (4, .int x4)] dX5_mayor_121 (Nat.le_of_ble_eq_true rfl) rfl ?_
              refine r_iinc C 5 (x4 + 1) [(4, .int (x4 + 1)), (3, .int u8.1), (2, .int x4), (5, .int u8.1), (0, .ref 50), (1, .int x1)] dX5_mayor_122 rfl rfl (Nat.le_of_ble_eq_true rfl) rfl ?_
              refine r_goto C 26 dX5_mayor_125 (by decide) ?_
              refine r_lv [(0, .ref 50), (1, .int x1), (2, .int x4), (3, .int u8.1), (4, .int (x4 + 1))] [4, 5, 2, 1, 0] rfl ?_
              exact ih x1 x4 u8.1 (x4 + 1) (va_up (va_up X' 3 u6) 4 u8.2)
        · refine r_goto C 122 dX5_mayor_57 (by decide) ?_
          refine r_iinc C 4 (x4 + 1) [(4, .int (x4 + 1)), (0, .ref 50), (1, .int x1), (2, .int x2), (3, .int x3)] dX5_mayor_122 rfl rfl (Nat.le_of_ble_eq_true rfl) rfl ?_
          refine r_goto C 26 dX5_mayor_125 (by decide) ?_
          refine r_lv [(0, .ref 50), (1, .int x1), (2, .int x2), (3, .int x3), (4, .int (x4 + 1))] [1, 2, 3, 4, 0] rfl ?_
          exact ih x1 x2 x3 (x4 + 1) X'
set_option maxRecDepth 100000 in
set_option maxHeartbeats 4000000 in
theorem o_X5_mayor (l : Launch) (X : (Nat → q_St)) (a1 : Int32) : q_Ok l yX5_mayor cX5_mayor 6 (some .int) 6 131 [.ref 50, .int a1] (w_X5 X) (f_X5_mayor X a1) (fun u => some (.int u.1)) (fun u => w_X5 u.2) := by
  refine q_enter (by decide +kernel) (Nat.le_of_ble_eq_true rfl) (fun t p e s m args below meth c dC dI dA A α C => ?_)
  refine r_cut (f_X5_mayor.eq_1 _ _) ?_
  show q_S p l e (q_rm 6 131) s m args below meth c 6 dC dI dA A α (MQ below (q_Q α dC dI dA A ((fun u => some (.int u.1)) t) ((fun u => w_X5 u.2) t)) args s 0 0 A) 0 0 _ t 0 [(0, .ref 50), (1, .int a1)] [] (w_X5 X)
  refine r_aload_n C 0 dX5_mayor_0 rfl ?_
  refine r_get C 0 0 dX5_mayor_1 K_X5 rfl rfl (Nat.le_of_ble_eq_true rfl) rfl m_174 rfl ?_
  refine r_iload_n C 1 dX5_mayor_4 rfl ?_
  refine r_callV C (o_X0_isDoll l (X 1) a1) v_X0_isDoll m_220 [1, 2, 3, 4, 5, 6, 7] [.int a1] [] (51) (Or.inl ⟨1, 0, _, TX0, 16, rfl, rfl, rfl⟩) (fun u1 => [.int u1]) (fun u1 => w_X5 X) rfl rfl rfl rfl rfl (Nat.le_of_ble_eq_true rfl) ⟨(Nat.le_of_ble_eq_true rfl), (Nat.le_of_ble_eq_true rfl)⟩ ⟨Nat.zero_le _, Nat.zero_le _⟩ dX5_mayor_5 (fun _ => rfl) (fun _ => rfl) (fun _ => rfl) (fun u1 => ?_)
  refine r_if_ne C 18 dX5_mayor_8 (by decide) (fun h8 => ?_) (fun h8 => ?_)
  · refine r_aload_n C 0 dX5_mayor_11 rfl ?_
    refine r_ldc C (-1000001) dX5_mayor_12 m_206 ?_
    refine r_callV0 C (o_X5_finding l X (-1000001 : Int32)) v_X5_finding m_207 [.int (-1000001 : Int32)] [] (50) (Or.inl ⟨0, 4, _, TX5, 8, rfl, rfl, rfl⟩) (fun u2 => [.int u2.1]) (fun u2 => w_X5 u2.2) rfl rfl rfl (Nat.le_of_ble_eq_true rfl) ⟨(Nat.le_of_ble_eq_true rfl), (Nat.le_of_ble_eq_true rfl)⟩ ⟨Nat.zero_le _, Nat.zero_le _⟩ dX5_mayor_14 (fun _ => rfl) (fun _ => rfl) (fun _ => rfl) (fun u2 => ?_)
    exact r_reti (x := u2.1) (rv := (fun u => some (.int u.1))) (hpE := (fun u => w_X5 u.2)) (t0 := (u2.1, u2.2)) C dX5_mayor_17 (by rfl) (by rfl) (by rfl)
  · refine r_iconst C (-1) dX5_mayor_18 rfl ?_
    refine r_istore_n C [(2, .int (-1 : Int32)), (0, .ref 50), (1, .int a1)] dX5_mayor_19 (Nat.le_of_ble_eq_true rfl) rfl ?_
    refine r_ldc C (1000000) dX5_mayor_20 m_518 ?_
    refine r_istore_n C [(3, .int (1000000 : Int32)), (2, .int (-1 : Int32)), (0, .ref 50), (1, .int a1)] dX5_mayor_22 (Nat.le_of_ble_eq_true rfl) rfl ?_
    refine r_iconst C (0) dX5_mayor_23 rfl ?_
    refine r_istore C [(4, .int (0 : Int32)), (3, .int (1000000 : Int32)), (2, .int (-1 : Int32)), (0, .ref 50), (1, .int a1)] dX5_mayor_24 (Nat.le_of_ble_eq_true rfl) rfl ?_
    refine r_lv [(0, .ref 50), (1, .int a1), (2, .int (-1 : Int32)), (3, .int (1000000 : Int32)), (4, .int (0 : Int32))] [3, 4, 2, 1, 0] rfl ?_
    exact k_X5_mayor_26 C X a1   q_N a1 (-1 : Int32) (1000000 : Int32) (0 : Int32) X
set_option maxRecDepth 100000 in
set_option maxHeartbeats 4000000 in
theorem o_X5_leave (l : Launch) (X : (Nat → q_St)) (a1 : Int32) : q_Ok l yX5_leave cX5_leave 2 (some .int) 5 122 [.ref 50, .int a1] (w_X5 X) (f_X5_leave X a1) (fun u => some (.int u.1)) (fun u => w_X5 u.2) := by
  refine q_enter (by decide +kernel) (Nat.le_of_ble_eq_true rfl) (fun t p e s m args below meth c dC dI dA A α C => ?_)
  refine r_cut (f_X5_leave.eq_1 _ _) ?_
  show q_S p l e (q_rm 5 122) s m args below meth c 2 dC dI dA A α (MQ below (q_Q α dC dI dA A ((fun u => some (.int u.1)) t) ((fun u => w_X5 u.2) t)) args s 0 0 A) 0 0 _ t 0 [(0, .ref 50), (1, .int a1)] [] (w_X5 X)
  refine r_iload_n C 1 dX5_leave_0 rfl ?_
  refine r_if_lt C 10 dX5_leave_1 (by decide) (fun h1 => ?_) (fun h1 => ?_)
  · refine r_aload_n C 0 dX5_leave_10 rfl ?_
    refine r_ldc C (-1000001) dX5_leave_11 m_206 ?_
    refine r_callV0 C (o_X5_finding l X (-1000001 : Int32)) v_X5_finding m_207 [.int (-1000001 : Int32)] [] (50) (Or.inl ⟨0, 4, _, TX5, 8, rfl, rfl, rfl⟩) (fun u1 => [.int u1.1]) (fun u1 => w_X5 u1.2) rfl rfl rfl (Nat.le_of_ble_eq_true rfl) ⟨(Nat.le_of_ble_eq_true rfl), (Nat.le_of_ble_eq_true rfl)⟩ ⟨Nat.zero_le _, Nat.zero_le _⟩ dX5_leave_13 (fun _ => rfl) (fun _ => rfl) (fun _ => rfl) (fun u1 => ?_)
    exact r_reti (x := u1.1) (rv := (fun u => some (.int u.1))) (hpE := (fun u => w_X5 u.2)) (t0 := (u1.1, u1.2)) C dX5_leave_16 (by rfl) (by rfl) (by rfl)
  · refine r_iload_n C 1 dX5_leave_4 rfl ?_
    refine r_bipush C (99) dX5_leave_5 rfl ?_
    refine r_icmp_le C 17 dX5_leave_7 (by decide) (fun h7 => ?_) (fun h7 => ?_)
    · refine r_aload_n C 0 dX5_leave_17 rfl ?_
      refine r_get C 0 3 dX5_leave_18 K_X5 rfl rfl (Nat.le_of_ble_eq_true rfl) rfl m_177 rfl ?_
      refine r_aload_n C 0 dX5_leave_21 rfl ?_
      refine r_get C 0 0 dX5_leave_22 K_X5 rfl rfl (Nat.le_of_ble_eq_true rfl) rfl m_174 rfl ?_
      refine r_iload_n C 1 dX5_leave_25 rfl ?_
      refine r_callV C (o_X4_fewestLeftOut l (X 4) (X 1) a1) v_X4_fewestLeftOut m_559 [22, 23, 24, 25, 26, 27, 28, 1, 2, 3, 4, 5, 6, 7] [.ref 51, .int a1] [] (72) (Or.inl ⟨22, 3, _, TX4, 6, rfl, rfl, rfl⟩) (fun u2 => [.int u2.1]) (fun u2 => w_X5 (va_up X 4 u2.2)) rfl rfl rfl rfl rfl (Nat.le_of_ble_eq_true rfl) ⟨(Nat.le_of_ble_eq_true rfl), (Nat.le_of_ble_eq_true rfl)⟩ ⟨Nat.zero_le _, Nat.zero_le _⟩ dX5_leave_26 (fun _ => rfl) (fun _ => rfl) (fun _ => rfl) (fun u2 => ?_)
      exact r_reti (x := u2.1) (rv := (fun u => some (.int u.1))) (hpE := (fun u => w_X5 u.2)) (t0 := (u2.1, (va_up X 4 u2.2))) C dX5_leave_29 (by rfl) (by rfl) (by rfl)
    · refine r_aload_n C 0 dX5_leave_10 rfl ?_
      refine r_ldc C (-1000001) dX5_leave_11 m_206 ?_
      refine r_callV0 C (o_X5_finding l X (-1000001 : Int32)) v_X5_finding m_207 [.int (-1000001 : Int32)] [] (50) (Or.inl ⟨0, 4, _, TX5, 8, rfl, rfl, rfl⟩) (fun u3 => [.int u3.1]) (fun u3 => w_X5 u3.2) rfl rfl rfl (Nat.le_of_ble_eq_true rfl) ⟨(Nat.le_of_ble_eq_true rfl), (Nat.le_of_ble_eq_true rfl)⟩ ⟨Nat.zero_le _, Nat.zero_le _⟩ dX5_leave_13 (fun _ => rfl) (fun _ => rfl) (fun _ => rfl) (fun u3 => ?_)
      exact r_reti (x := u3.1) (rv := (fun u => some (.int u.1))) (hpE := (fun u => w_X5 u.2)) (t0 := (u3.1, u3.2)) C dX5_leave_16 (by rfl) (by rfl) (by rfl)
set_option maxRecDepth 100000 in
set_option maxHeartbeats 4000000 in
theorem o_X5_sheetAt (l : Launch) (X : (Nat → q_St)) (a1 : Int32) : q_Ok l yX5_sheetAt cX5_sheetAt 2 (some (.object "PunchByHeart$Sheet")) 0 0 [.ref 50, .int a1] (w_X5 X) (f_X5_sheetAt X a1) (fun u => some (va_rf (q_sf u))) (fun u => w_X5 X) := by
  refine q_enter (by decide +kernel) (Nat.le_of_ble_eq_true rfl) (fun t p e s m args below meth c dC dI dA A α C => ?_)
  refine r_cut (f_X5_sheetAt.eq_1 _ _) ?_
  show q_S p l e (q_rm 0 0) s m args below meth c 2 dC dI dA A α (MQ below (q_Q α dC dI dA A ((fun u => some (va_rf (q_sf u))) t) ((fun u => w_X5 X) t)) args s 0 0 A) 0 0 _ t 0 [(0, .ref 50), (1, .int a1)] [] (w_X5 X)
  refine r_iload_n C 1 dX5_sheetAt_0 rfl ?_
  refine r_if_lt C 22 dX5_sheetAt_1 (by decide) (fun h1 => ?_) (fun h1 => ?_)
  · refine r_null C dX5_sheetAt_22 ?_
    exact r_reta (rv := (fun u => some (va_rf (q_sf u)))) (hpE := (fun u => w_X5 X)) (t0 := (4 : Nat)) C dX5_sheetAt_23 (by rfl) (by exact Or.inl rfl) (by rfl) (by rfl)
  · refine r_iload_n C 1 dX5_sheetAt_4 rfl ?_
    refine r_aload_n C 0 dX5_sheetAt_5 rfl ?_
    refine r_get C 0 5 dX5_sheetAt_6 K_X5 rfl rfl (Nat.le_of_ble_eq_true rfl) rfl m_179 rfl ?_
    refine r_alen C 31 (4) dX5_sheetAt_9 rfl rfl rfl rfl ?_
    refine r_icmp_ge C 22 dX5_sheetAt_10 (by decide) (fun h10 => ?_) (fun h10 => ?_)
    · refine r_null C dX5_sheetAt_22 ?_
      exact r_reta (rv := (fun u => some (va_rf (q_sf u)))) (hpE := (fun u => w_X5 X)) (t0 := (4 : Nat)) C dX5_sheetAt_23 (by rfl) (by exact Or.inl rfl) (by rfl) (by rfl)
    · refine r_aload_n C 0 dX5_sheetAt_13 rfl ?_
      refine r_get C 0 5 dX5_sheetAt_14 K_X5 rfl rfl (Nat.le_of_ble_eq_true rfl) rfl m_179 rfl ?_
      refine r_iload_n C 1 dX5_sheetAt_17 rfl ?_
      refine r_aldq C 31 dX5_sheetAt_18 rfl rfl rfl (fun hi18 => ?_)
      refine r_goto C 23 dX5_sheetAt_19 (by decide) ?_
      exact r_reta (rv := (fun u => some (va_rf (q_sf u)))) (hpE := (fun u => w_X5 X)) (t0 := a1.toNatClampNeg) C dX5_sheetAt_23 (by rfl) (by exact q_sf_ref _) (by rfl) (by rfl)
set_option maxRecDepth 100000 in
set_option maxHeartbeats 4000000 in
theorem o_X5_isDrawn_s0 (l : Launch) (X : (Nat → q_St)) (a2 : Int32) (a3 : Int32) : q_Ok l yX5_isDrawn cX5_isDrawn 5 (some .boolean) 2 42 [.ref 50, .ref 82, .int a2, .int a3] (w_X5 X) (f_X5_isDrawn X 0 a2 a3) (fun u => some (.int u)) (fun u => w_X5 X) := by
  refine q_enter (by decide +kernel) (Nat.le_of_ble_eq_true rfl) (fun t p e s m args below meth c dC dI dA A α C => ?_)
  refine r_cut (f_X5_isDrawn.eq_1 _ _ _ _) ?_
  show q_S p l e (q_rm 2 42) s m args below meth c 5 dC dI dA A α (MQ below (q_Q α dC dI dA A ((fun u => some (.int u)) t) ((fun u => w_X5 X) t)) args s 0 0 A) 0 0 _ t 0 [(0, .ref 50), (1, .ref 82), (2, .int a2), (3, .int a3)] [] (w_X5 X)
  refine r_aload_n C 1 dX5_isDrawn_0 rfl ?_
  refine r_iload_n C 2 dX5_isDrawn_1 rfl ?_
  refine r_callV C (o_X2_isPlace l (X (6 + 0)) a2) v_X2_isPlace m_590 [32, 33] [.int a2] [] (82) (Or.inl ⟨32, 1, _, TX2, 3, rfl, rfl, rfl⟩) (fun u1 => [.int u1]) (fun u1 => w_X5 X) rfl rfl rfl rfl rfl (Nat.le_of_ble_eq_true rfl) ⟨(Nat.le_of_ble_eq_true rfl), (Nat.le_of_ble_eq_true rfl)⟩ ⟨Nat.zero_le _, Nat.zero_le _⟩ dX5_isDrawn_2 (fun _ => rfl) (fun _ => rfl) (fun _ => rfl) (fun u1 => ?_)
  refine r_if_ne C 10 dX5_isDrawn_5 (by decide) (fun h5 => ?_) (fun h5 => ?_)
  · refine r_iconst C (1) dX5_isDrawn_8 rfl ?_
    exact r_retz (x := (1 : Int32)) (rv := (fun u => some (.int u))) (hpE := (fun u => w_X5 X)) (t0 := (1 : Int32)) C dX5_isDrawn_9 (by rfl) (by rfl) (by rfl) (by rfl)
  · refine r_aload_n C 1 dX5_isDrawn_10 rfl ?_
    refine r_iload_n C 2 dX5_isDrawn_11 rfl ?_
    refine r_callV C (o_X2_number l (X (6 + 0)) a2) v_X2_number m_594 [32, 33] [.int a2] [] (82) (Or.inl ⟨32, 1, _, TX2, 3, rfl, rfl, rfl⟩) (fun u2 => [.int u2]) (fun u2 => w_X5 X) rfl rfl rfl rfl rfl (Nat.le_of_ble_eq_true rfl) ⟨(Nat.le_of_ble_eq_true rfl), (Nat.le_of_ble_eq_true rfl)⟩ ⟨Nat.zero_le _, Nat.zero_le _⟩ dX5_isDrawn_12 (fun _ => rfl) (fun _ => rfl) (fun _ => rfl) (fun u2 => ?_)
    refine r_istore C [(4, .int u2), (0, .ref 50), (1, .ref 82), (2, .int a2), (3, .int a3)] dX5_isDrawn_15 (Nat.le_of_ble_eq_true rfl) rfl ?_
    refine r_iload C 0 dX5_isDrawn_17 rfl ?_
    refine r_iload_n C 4 dX5_isDrawn_19 rfl ?_
    refine r_icmp_eq C 35 dX5_isDrawn_20 (by decide) (fun h20 => ?_) (fun h20 => ?_)
    · refine r_iconst C (1) dX5_isDrawn_35 rfl ?_
      refine r_goto C 40 dX5_isDrawn_36 (by decide) ?_
      exact r_retz (x := (1 : Int32)) (rv := (fun u => some (.int u))) (hpE := (fun u => w_X5 X)) (t0 := (1 : Int32)) C dX5_isDrawn_40 (by rfl) (by rfl) (by rfl) (by rfl)
    · refine r_aload_n C 1 dX5_isDrawn_23 rfl ?_
      refine r_get C 0 0 dX5_isDrawn_24 K_X5 rfl rfl (Nat.le_of_ble_eq_true rfl) rfl m_174 rfl ?_
      refine r_iload C 0 dX5_isDrawn_27 rfl ?_
      refine r_callV C (o_X0_isDollOrNone l (X 1) u2) v_X0_isDollOrNone m_293 [1, 2, 3, 4, 5, 6, 7] [.int u2] [] (51) (Or.inl ⟨1, 0, _, TX0, 16, rfl, rfl, rfl⟩) (fun u3 => [.int u3]) (fun u3 => w_X5 X) rfl rfl rfl rfl rfl (Nat.le_of_ble_eq_true rfl) ⟨(Nat.le_of_ble_eq_true rfl), (Nat.le_of_ble_eq_true rfl)⟩ ⟨Nat.zero_le _, Nat.zero_le _⟩ dX5_isDrawn_29 (fun _ => rfl) (fun _ => rfl) (fun _ => rfl) (fun u3 => ?_)
      refine r_if_ne C 39 dX5_isDrawn_32 (by decide) (fun h32 => ?_) (fun h32 => ?_)
      · refine r_iconst C (1) dX5_isDrawn_35 rfl ?_
        refine r_goto C 40 dX5_isDrawn_36 (by decide) ?_
        exact r_retz (x := (1 : Int32)) (rv := (fun u => some (.int u))) (hpE := (fun u => w_X5 X)) (t0 := (1 : Int32)) C dX5_isDrawn_40 (by rfl) (by rfl) (by rfl) (by rfl)
      · refine r_iconst C (0) dX5_isDrawn_39 rfl ?_
        exact r_retz (x := (0 : Int32)) (rv := (fun u => some (.int u))) (hpE := (fun u => w_X5 X)) (t0 := (0 : Int32)) C dX5_isDrawn_40 (by rfl) (by rfl) (by rfl) (by rfl)
set_option maxRecDepth 100000 in
set_option maxHeartbeats 4000000 in
theorem o_X5_isDrawn_s1 (l : Launch) (X : (Nat → q_St)) (a2 : Int32) (a3 : Int32) : q_Ok l yX5_isDrawn cX5_isDrawn 5 (some .boolean) 2 42 [.ref 50, .ref 84, .int a2, .int a3] (w_X5 X) (f_X5_isDrawn X 1 a2 a3) (fun u => some (.int u)) (fun u => w_X5 X) := by
  refine q_enter (by decide +kernel) (Nat.le_of_ble_eq_true rfl) (fun t p e s m args below meth c dC dI dA A α C => ?_)
  refine r_cut (f_X5_isDrawn.eq_1 _ _ _ _) ?_
  show q_S p l e (q_rm 2 42) s m args below meth c 5 dC dI dA A α (MQ below (q_Q α dC dI dA A ((fun u => some (.int u)) t) ((fun u => w_X5 X) t)) args s 0 0 A) 0 0 _ t 0 [(0, .ref 50), (1, .ref 84), (2, .int a2), (3, .int a3)] [] (w_X5 X)
  refine r_aload_n C 1 dX5_isDrawn_0 rfl ?_
  refine r_iload_n C 2 dX5_isDrawn_1 rfl ?_
  refine r_callV C (o_X2_isPlace l (X (6 + 1)) a2) v_X2_isPlace m_590 [34, 35] [.int a2] [] (84) (Or.inl ⟨34, 1, _, TX2, 3, rfl, rfl, rfl⟩) (fun u1 => [.int u1]) (fun u1 => w_X5 X) rfl rfl rfl rfl rfl (Nat.le_of_ble_eq_true rfl) ⟨(Nat.le_of_ble_eq_true rfl), (Nat.le_of_ble_eq_true rfl)⟩ ⟨Nat.zero_le _, Nat.zero_le _⟩ dX5_isDrawn_2 (fun _ => rfl) (fun _ => rfl) (fun _ => rfl) (fun u1 => ?_)
  refine r_if_ne C 10 dX5_isDrawn_5 (by decide) (fun h5 => ?_) (fun h5 => ?_)
  · refine r_iconst C (1) dX5_isDrawn_8 rfl ?_
    exact r_retz (x := (1 : Int32)) (rv := (fun u => some (.int u))) (hpE := (fun u => w_X5 X)) (t0 := (1 : Int32)) C dX5_isDrawn_9 (by rfl) (by rfl) (by rfl) (by rfl)
  · refine r_aload_n C 1 dX5_isDrawn_10 rfl ?_
    refine r_iload_n C 2 dX5_isDrawn_11 rfl ?_
    refine r_callV C (o_X2_number l (X (6 + 1)) a2) v_X2_number m_594 [34, 35] [.int a2] [] (84) (Or.inl ⟨34, 1, _, TX2, 3, rfl, rfl, rfl⟩) (fun u2 => [.int u2]) (fun u2 => w_X5 X) rfl rfl rfl rfl rfl (Nat.le_of_ble_eq_true rfl) ⟨(Nat.le_of_ble_eq_true rfl), (Nat.le_of_ble_eq_true rfl)⟩ ⟨Nat.zero_le _, Nat.zero_le _⟩ dX5_isDrawn_12 (fun _ => rfl) (fun _ => rfl) (fun _ => rfl) (fun u2 => ?_)
    refine r_istore C [(4, .int u2), (0, .ref 50), (1, .ref 84), (2, .int a2), (3, .int a3)] dX5_isDrawn_15 (Nat.le_of_ble_eq_true rfl) rfl ?_
    refine r_iload C 0 dX5_isDrawn_17 rfl ?_
    refine r_iload_n C 4 dX5_isDrawn_19 rfl ?_
    refine r_icmp_eq C 35 dX5_isDrawn_20 (by decide) (fun h20 => ?_) (fun h20 => ?_)
    · refine r_iconst C (1) dX5_isDrawn_35 rfl ?_
      refine r_goto C 40 dX5_isDrawn_36 (by decide) ?_
      exact r_retz (x := (1 : Int32)) (rv := (fun u => some (.int u))) (hpE := (fun u => w_X5 X)) (t0 := (1 : Int32)) C dX5_isDrawn_40 (by rfl) (by rfl) (by rfl) (by rfl)
    · refine r_aload_n C 1 dX5_isDrawn_23 rfl ?_
      refine r_get C 0 0 dX5_isDrawn_24 K_X5 rfl rfl (Nat.le_of_ble_eq_true rfl) rfl m_174 rfl ?_
      refine r_iload C 0 dX5_isDrawn_27 rfl ?_
      refine r_callV C (o_X0_isDollOrNone l (X 1) u2) v_X0_isDollOrNone m_293 [1, 2, 3, 4, 5, 6, 7] [.int u2] [] (51) (Or.inl ⟨1, 0, _, TX0, 16, rfl, rfl, rfl⟩) (fun u3 => [.int u3]) (fun u3 => w_X5 X) rfl rfl rfl rfl rfl (Nat.le_of_ble_eq_true rfl) ⟨(Nat.le_of_ble_eq_true rfl), (Nat.le_of_ble_eq_true rfl)⟩ ⟨Nat.zero_le _, Nat.zero_le _⟩ dX5_isDrawn_29 (fun _ => rfl) (fun _ => rfl) (fun _ => rfl) (fun u3 => ?_)
      refine r_if_ne C 39 dX5_isDrawn_32 (by decide) (fun h32 => ?_) (fun h32 => ?_)
      · refine r_iconst C (1) dX5_isDrawn_35 rfl ?_
        refine r_goto C 40 dX5_isDrawn_36 (by decide) ?_
        exact r_retz (x := (1 : Int32)) (rv := (fun u => some (.int u))) (hpE := (fun u => w_X5 X)) (t0 := (1 : Int32)) C dX5_isDrawn_40 (by rfl) (by rfl) (by rfl) (by rfl)
      · refine r_iconst C (0) dX5_isDrawn_39 rfl ?_
        exact r_retz (x := (0 : Int32)) (rv := (fun u => some (.int u))) (hpE := (fun u => w_X5 X)) (t0 := (0 : Int32)) C dX5_isDrawn_40 (by rfl) (by rfl) (by rfl) (by rfl)
set_option maxRecDepth 100000 in
set_option maxHeartbeats 4000000 in
theorem o_X5_isDrawn_s2 (l : Launch) (X : (Nat → q_St)) (a2 : Int32) (a3 : Int32) : q_Ok l yX5_isDrawn cX5_isDrawn 5 (some .boolean) 2 42 [.ref 50, .ref 86, .int a2, .int a3] (w_X5 X) (f_X5_isDrawn X 2 a2 a3) (fun u => some (.int u)) (fun u => w_X5 X) := by
  refine q_enter (by decide +kernel) (Nat.le_of_ble_eq_true rfl) (fun t p e s m args below meth c dC dI dA A α C => ?_)
  refine r_cut (f_X5_isDrawn.eq_1 _ _ _ _) ?_
  show q_S p l e (q_rm 2 42) s m args below meth c 5 dC dI dA A α (MQ below (q_Q α dC dI dA A ((fun u => some (.int u)) t) ((fun u => w_X5 X) t)) args s 0 0 A) 0 0 _ t 0 [(0, .ref 50), (1, .ref 86), (2, .int a2), (3, .int a3)] [] (w_X5 X)
  refine r_aload_n C 1 dX5_isDrawn_0 rfl ?_
  refine r_iload_n C 2 dX5_isDrawn_1 rfl ?_
  refine r_callV C (o_X2_isPlace l (X (6 + 2)) a2) v_X2_isPlace m_590 [36, 37] [.int a2] [] (86) (Or.inl ⟨36, 1, _, TX2, 3, rfl, rfl, rfl⟩) (fun u1 => [.int u1]) (fun u1 => w_X5 X) rfl rfl rfl rfl rfl (Nat.le_of_ble_eq_true rfl) ⟨(Nat.le_of_ble_eq_true rfl), (Nat.le_of_ble_eq_true rfl)⟩ ⟨Nat.zero_le _, Nat.zero_le _⟩ dX5_isDrawn_2 (fun _ => rfl) (fun _ => rfl) (fun _ => rfl) (fun u1 => ?_)
  refine r_if_ne C 10 dX5_isDrawn_5 (by decide) (fun h5 => ?_) (fun h5 => ?_)
  · refine r_iconst C (1) dX5_isDrawn_8 rfl ?_
    exact r_retz (x := (1 : Int32)) (rv := (fun u => some (.int u))) (hpE := (fun u => w_X5 X)) (t0 := (1 : Int32)) C dX5_isDrawn_9 (by rfl) (by rfl) (by rfl) (by rfl)
  · refine r_aload_n C 1 dX5_isDrawn_10 rfl ?_
    refine r_iload_n C 2 dX5_isDrawn_11 rfl ?_
    refine r_callV C (o_X2_number l (X (6 + 2)) a2) v_X2_number m_594 [36, 37] [.int a2] [] (86) (Or.inl ⟨36, 1, _, TX2, 3, rfl, rfl, rfl⟩) (fun u2 => [.int u2]) (fun u2 => w_X5 X) rfl rfl rfl rfl rfl (Nat.le_of_ble_eq_true rfl) ⟨(Nat.le_of_ble_eq_true rfl), (Nat.le_of_ble_eq_true rfl)⟩ ⟨Nat.zero_le _, Nat.zero_le _⟩ dX5_isDrawn_12 (fun _ => rfl) (fun _ => rfl) (fun _ => rfl) (fun u2 => ?_)
    refine r_istore C [(4, .int u2), (0, .ref 50), (1, .ref 86), (2, .int a2), (3, .int a3)] dX5_isDrawn_15 (Nat.le_of_ble_eq_true rfl) rfl ?_
    refine r_iload C 0 dX5_isDrawn_17 rfl ?_
    refine r_iload_n C 4 dX5_isDrawn_19 rfl ?_
    refine r_icmp_eq C 35 dX5_isDrawn_20 (by decide) (fun h20 => ?_) (fun h20 => ?_)
    · refine r_iconst C (1) dX5_isDrawn_35 rfl ?_
      refine r_goto C 40 dX5_isDrawn_36 (by decide) ?_
      exact r_retz (x := (1 : Int32)) (rv := (fun u => some (.int u))) (hpE := (fun u => w_X5 X)) (t0 := (1 : Int32)) C dX5_isDrawn_40 (by rfl) (by rfl) (by rfl) (by rfl)
    · refine r_aload_n C 1 dX5_isDrawn_23 rfl ?_
      refine r_get C 0 0 dX5_isDrawn_24 K_X5 rfl rfl (Nat.le_of_ble_eq_true rfl) rfl m_174 rfl ?_
      refine r_iload C 0 dX5_isDrawn_27 rfl ?_
      refine r_callV C (o_X0_isDollOrNone l (X 1) u2) v_X0_isDollOrNone m_293 [1, 2, 3, 4, 5, 6, 7] [.int u2] [] (51) (Or.inl ⟨1, 0, _, TX0, 16, rfl, rfl, rfl⟩) (fun u3 => [.int u3]) (fun u3 => w_X5 X) rfl rfl rfl rfl rfl (Nat.le_of_ble_eq_true rfl) ⟨(Nat.le_of_ble_eq_true rfl), (Nat.le_of_ble_eq_true rfl)⟩ ⟨Nat.zero_le _, Nat.zero_le _⟩ dX5_isDrawn_29 (fun _ => rfl) (fun _ => rfl) (fun _ => rfl) (fun u3 => ?_)
      refine r_if_ne C 39 dX5_isDrawn_32 (by decide) (fun h32 => ?_) (fun h32 => ?_)
      · refine r_iconst C (1) dX5_isDrawn_35 rfl ?_
        refine r_goto C 40 dX5_isDrawn_36 (by decide) ?_
        exact r_retz (x := (1 : Int32)) (rv := (fun u => some (.int u))) (hpE := (fun u => w_X5 X)) (t0 := (1 : Int32)) C dX5_isDrawn_40 (by rfl) (by rfl) (by rfl) (by rfl)
      · refine r_iconst C (0) dX5_isDrawn_39 rfl ?_
        exact r_retz (x := (0 : Int32)) (rv := (fun u => some (.int u))) (hpE := (fun u => w_X5 X)) (t0 := (0 : Int32)) C dX5_isDrawn_40 (by rfl) (by rfl) (by rfl) (by rfl)
set_option maxRecDepth 100000 in
set_option maxHeartbeats 4000000 in
theorem o_X5_isDrawn_s3 (l : Launch) (X : (Nat → q_St)) (a2 : Int32) (a3 : Int32) : q_Ok l yX5_isDrawn cX5_isDrawn 5 (some .boolean) 2 42 [.ref 50, .ref 88, .int a2, .int a3] (w_X5 X) (f_X5_isDrawn X 3 a2 a3) (fun u => some (.int u)) (fun u => w_X5 X) := by
  refine q_enter (by decide +kernel) (Nat.le_of_ble_eq_true rfl) (fun t p e s m args below meth c dC dI dA A α C => ?_)
  refine r_cut (f_X5_isDrawn.eq_1 _ _ _ _) ?_
  show q_S p l e (q_rm 2 42) s m args below meth c 5 dC dI dA A α (MQ below (q_Q α dC dI dA A ((fun u => some (.int u)) t) ((fun u => w_X5 X) t)) args s 0 0 A) 0 0 _ t 0 [(0, .ref 50), (1, .ref 88), (2, .int a2), (3, .int a3)] [] (w_X5 X)
  refine r_aload_n C 1 dX5_isDrawn_0 rfl ?_
  refine r_iload_n C 2 dX5_isDrawn_1 rfl ?_
  refine r_callV C (o_X2_isPlace l (X (6 + 3)) a2) v_X2_isPlace m_590 [38, 39] [.int a2] [] (88) (Or.inl ⟨38, 1, _, TX2, 3, rfl, rfl, rfl⟩) (fun u1 => [.int u1]) (fun u1 => w_X5 X) rfl rfl rfl rfl rfl (Nat.le_of_ble_eq_true rfl) ⟨(Nat.le_of_ble_eq_true rfl), (Nat.le_of_ble_eq_true rfl)⟩ ⟨Nat.zero_le _, Nat.zero_le _⟩ dX5_isDrawn_2 (fun _ => rfl) (fun _ => rfl) (fun _ => rfl) (fun u1 => ?_)
  refine r_if_ne C 10 dX5_isDrawn_5 (by decide) (fun h5 => ?_) (fun h5 => ?_)
  · refine r_iconst C (1) dX5_isDrawn_8 rfl ?_
    exact r_retz (x := (1 : Int32)) (rv := (fun u => some (.int u))) (hpE := (fun u => w_X5 X)) (t0 := (1 : Int32)) C dX5_isDrawn_9 (by rfl) (by rfl) (by rfl) (by rfl)
  · refine r_aload_n C 1 dX5_isDrawn_10 rfl ?_
    refine r_iload_n C 2 dX5_isDrawn_11 rfl ?_
    refine r_callV C (o_X2_number l (X (6 + 3)) a2) v_X2_number m_594 [38, 39] [.int a2] [] (88) (Or.inl ⟨38, 1, _, TX2, 3, rfl, rfl, rfl⟩) (fun u2 => [.int u2]) (fun u2 => w_X5 X) rfl rfl rfl rfl rfl (Nat.le_of_ble_eq_true rfl) ⟨(Nat.le_of_ble_eq_true rfl), (Nat.le_of_ble_eq_true rfl)⟩ ⟨Nat.zero_le _, Nat.zero_le _⟩ dX5_isDrawn_12 (fun _ => rfl) (fun _ => rfl) (fun _ => rfl) (fun u2 => ?_)
    refine r_istore C [(4, .int u2), (0, .ref 50), (1, .ref 88), (2, .int a2), (3, .int a3)] dX5_isDrawn_15 (Nat.le_of_ble_eq_true rfl) rfl ?_
    refine r_iload C 0 dX5_isDrawn_17 rfl ?_
    refine r_iload_n C 4 dX5_isDrawn_19 rfl ?_
    refine r_icmp_eq C 35 dX5_isDrawn_20 (by decide) (fun h20 => ?_) (fun h20 => ?_)
    · refine r_iconst C (1) dX5_isDrawn_35 rfl ?_
      refine r_goto C 40 dX5_isDrawn_36 (by decide) ?_
      exact r_retz (x := (1 : Int32)) (rv := (fun u => some (.int u))) (hpE := (fun u => w_X5 X)) (t0 := (1 : Int32)) C dX5_isDrawn_40 (by rfl) (by rfl) (by rfl) (by rfl)
    · refine r_aload_n C 1 dX5_isDrawn_23 rfl ?_
      refine r_get C 0 0 dX5_isDrawn_24 K_X5 rfl rfl (Nat.le_of_ble_eq_true rfl) rfl m_174 rfl ?_
      refine r_iload C 0 dX5_isDrawn_27 rfl ?_
      refine r_callV C (o_X0_isDollOrNone l (X 1) u2) v_X0_isDollOrNone m_293 [1, 2, 3, 4, 5, 6, 7] [.int u2] [] (51) (Or.inl ⟨1, 0, _, TX0, 16, rfl, rfl, rfl⟩) (fun u3 => [.int u3]) (fun u3 => w_X5 X) rfl rfl rfl rfl rfl (Nat.le_of_ble_eq_true rfl) ⟨(Nat.le_of_ble_eq_true rfl), (Nat.le_of_ble_eq_true rfl)⟩ ⟨Nat.zero_le _, Nat.zero_le _⟩ dX5_isDrawn_29 (fun _ => rfl) (fun _ => rfl) (fun _ => rfl) (fun u3 => ?_)
      refine r_if_ne C 39 dX5_isDrawn_32 (by decide) (fun h32 => ?_) (fun h32 => ?_)
      · refine r_iconst C (1) dX5_isDrawn_35 rfl ?_
        refine r_goto C 40 dX5_isDrawn_36 (by decide) ?_
        exact r_retz (x := (1 : Int32)) (rv := (fun u => some (.int u))) (hpE := (fun u => w_X5 X)) (t0 := (1 : Int32)) C dX5_isDrawn_40 (by rfl) (by rfl) (by rfl) (by rfl)
      · refine r_iconst C (0) dX5_isDrawn_39 rfl ?_
        exact r_retz (x := (0 : Int32)) (rv := (fun u => some (.int u))) (hpE := (fun u => w_X5 X)) (t0 := (0 : Int32)) C dX5_isDrawn_40 (by rfl) (by rfl) (by rfl) (by rfl)
set_option maxRecDepth 100000 in
set_option maxHeartbeats 4000000 in
theorem k_X5_rowsBy_23_s0 {p : Program} {l : Launch} {e : Env} {s : State} {m : MethodId} {args : Array Value} {below : List Frame} {meth : Method} {c : Code} {dC : Nat → ClassId} {dI : Nat → Nat → Nat} {dA : Nat → ClassId} {A : Nat → Prop} {α : Nat → Nat} {t : Int64} (C : q_Cx p s m args meth c cX5_rowsBy 7 RX5 (some .long) "rowsBy" dC dI dA A α) (X : (Nat → q_St)) (r5 : Int64 → Int32 → Option (Int64))
    (hr5 : ∀ (x2 : Int64) (x4 : Int32), q_S p l e (q_rm 3 68) s m args below meth c 7 dC dI dA A α (MQ below (q_Q α dC dI dA A ((fun u => some (.long u)) t) ((fun u => w_X5 X) t)) args s 0 0 A) 0 0 (r5 x2 x4) t 5 [(0, .ref 50), (1, .ref 82), (2, .long x2), (4, .int x4)] [] (w_X5 X)) : ∀ (n : Nat) (x2 : Int64) (x4 : Int32) (x5 : Int32) (x6 : Int32), q_S p l e (q_rm 3 68) s m args below meth c 7 dC dI dA A α (MQ below (q_Q α dC dI dA A ((fun u => some (.long u)) t) ((fun u => w_X5 X) t)) args s 0 0 A) 0 0 (f_X5_rowsBy_23 X 0 r5 n x2 x4 x5 x6) t 23 [(0, .ref 50), (1, .ref 82), (2, .long x2), (4, .int x4), (5, .int x5), (6, .int x6)] [] (w_X5 X) := by
  intro n
  induction n with
  | zero =>
    intro x2 x4 x5 x6
    exact r_cut (f_X5_rowsBy_23.eq_1 _ _ _ _ _ _ _) (r_none True.intro)
  | succ n ih =>
    intro x2 x4 x5 x6
    refine r_cut (f_X5_rowsBy_23.eq_2 _ _ _ _ _ _ _ _) ?_
    refine r_iload C 5 dX5_rowsBy_23 rfl ?_
    refine r_aload_n C 0 dX5_rowsBy_25 rfl ?_
    refine r_get C 0 0 dX5_rowsBy_26 K_X5 rfl rfl (Nat.le_of_ble_eq_true rfl) rfl m_174 rfl ?_
    refine r_get C 1 0 dX5_rowsBy_29 K_X0 rfl rfl (Nat.le_of_ble_eq_true rfl) rfl m_30 rfl ?_
    refine r_icmp_ge C 72 dX5_rowsBy_32 (by decide) (fun h32 => ?_) (fun h32 => ?_)
    · refine r_lload_n C 2 dX5_rowsBy_72 rfl ?_
      refine r_iload C 4 dX5_rowsBy_73 rfl ?_
      refine r_i2l C dX5_rowsBy_75 ?_
      refine r_lmul C dX5_rowsBy_76 ?_
      refine r_ldc2 C (1000000001) dX5_rowsBy_77 m_601 ?_
      refine r_mminL C dX5_rowsBy_80 m_602 m_603 m_8 m_604 (Nat.le_of_ble_eq_true rfl) (Nat.le_of_ble_eq_true rfl) (Nat.zero_le _) (Nat.zero_le _) ?_
      refine r_lstore_n C [(2, .long (if (1000000001 : Int64) < (x2 * x5.toInt64) then (1000000001 : Int64) else (x2 * x5.toInt64))), (0, .ref 50), (1, .ref 82), (4, .int x4), (5, .int x5), (6, .int x6)] dX5_rowsBy_83 (Nat.le_of_ble_eq_true rfl) rfl ?_
      refine r_iinc C 3 (x4 + 1) [(4, .int (x4 + 1)), (2, .long (if (1000000001 : Int64) < (x2 * x5.toInt64) then (1000000001 : Int64) else (x2 * x5.toInt64))), (0, .ref 50), (1, .ref 82), (5, .int x5), (6, .int x6)] dX5_rowsBy_84 rfl rfl (Nat.le_of_ble_eq_true rfl) rfl ?_
      refine r_goto C 5 dX5_rowsBy_87 (by decide) ?_
      refine r_lv [(0, .ref 50), (1, .ref 82), (2, .long (if (1000000001 : Int64) < (x2 * x5.toInt64) then (1000000001 : Int64) else (x2 * x5.toInt64))), (4, .int (x4 + 1))] [2, 3, 1, 0] rfl ?_
      exact hr5 (if (1000000001 : Int64) < (x2 * x5.toInt64) then (1000000001 : Int64) else (x2 * x5.toInt64)) (x4 + 1)
    · refine r_aload_n C 0 dX5_rowsBy_35 rfl ?_
      refine r_aload_n C 1 dX5_rowsBy_36 rfl ?_
      refine r_iload C 3 dX5_rowsBy_37 rfl ?_
      refine r_iload C 5 dX5_rowsBy_39 rfl ?_
      refine r_callV0 C (o_X5_isDrawn_s0 l X x4 x6) v_X5_isDrawn m_586 [.ref 82, .int x4, .int x6] [] (50) (Or.inl ⟨0, 4, _, TX5, 8, rfl, rfl, rfl⟩) (fun u1 => [.int u1]) (fun u1 => w_X5 X) rfl rfl rfl (Nat.le_of_ble_eq_true rfl) ⟨(Nat.le_of_ble_eq_true rfl), (Nat.le_of_ble_eq_true rfl)⟩ ⟨Nat.zero_le _, Nat.zero_le _⟩ dX5_rowsBy_41 (fun _ => rfl) (fun _ => rfl) (fun _ => rfl) (fun u1 => ?_)
      refine r_if_eq C 66 dX5_rowsBy_44 (by decide) (fun h44 => ?_) (fun h44 => ?_)
      · refine r_iinc C 5 (x6 + 1) [(6, .int (x6 + 1)), (0, .ref 50), (1, .ref 82), (2, .long x2), (4, .int x4), (5, .int x5)] dX5_rowsBy_66 rfl rfl (Nat.le_of_ble_eq_true rfl) rfl ?_
        refine r_goto C 23 dX5_rowsBy_69 (by decide) ?_
        refine r_lv [(0, .ref 50), (1, .ref 82), (2, .long x2), (4, .int x4), (5, .int x5), (6, .int (x6 + 1))] [1, 2, 3, 4, 5, 0] rfl ?_
        exact ih x2 x4 x5 (x6 + 1)
      · refine r_iload C 4 dX5_rowsBy_47 rfl ?_
        refine r_aload_n C 0 dX5_rowsBy_49 rfl ?_
        refine r_get C 0 0 dX5_rowsBy_50 K_X5 rfl rfl (Nat.le_of_ble_eq_true rfl) rfl m_174 rfl ?_
        refine r_iload C 3 dX5_rowsBy_53 rfl ?_
        refine r_iload C 5 dX5_rowsBy_55 rfl ?_
        refine r_callV C (o_X0_rightsBeside l (X 1) x4 x6) v_X0_rightsBeside m_599 [1, 2, 3, 4, 5, 6, 7] [.int x4, .int x6] [.int x5] (51) (Or.inl ⟨1, 0, _, TX0, 16, rfl, rfl, rfl⟩) (fun u2 => [.int u2, .int x5]) (fun u2 => w_X5 X) rfl rfl rfl rfl rfl (Nat.le_of_ble_eq_true rfl) ⟨(Nat.le_of_ble_eq_true rfl), (Nat.le_of_ble_eq_true rfl)⟩ ⟨Nat.zero_le _, Nat.zero_le _⟩ dX5_rowsBy_57 (fun _ => rfl) (fun _ => rfl) (fun _ => rfl) (fun u2 => ?_)
        refine r_callS C (o_J6_bitCount_0f7a4 l u2) v_J6_bitCount_0f7a4 m_600 [] [.int u2] [.int x5] (fun u3 => [.int u3, .int x5]) (fun u3 => w_X5 X) rfl rfl rfl rfl rfl (Nat.le_of_ble_eq_true rfl) ⟨(Nat.le_of_ble_eq_true rfl), (Nat.le_of_ble_eq_true rfl)⟩ ⟨Nat.zero_le _, Nat.zero_le _⟩ dX5_rowsBy_60 (fun _ => rfl) (fun _ => rfl) (fun _ => rfl) (fun u3 => ?_)
        refine r_iadd C dX5_rowsBy_63 ?_
        refine r_istore C [(5, .int (x5 + u3)), (0, .ref 50), (1, .ref 82), (2, .long x2), (4, .int x4), (6, .int x6)] dX5_rowsBy_64 (Nat.le_of_ble_eq_true rfl) rfl ?_
        refine r_iinc C 5 (x6 + 1) [(6, .int (x6 + 1)), (5, .int (x5 + u3)), (0, .ref 50), (1, .ref 82), (2, .long x2), (4, .int x4)] dX5_rowsBy_66 rfl rfl (Nat.le_of_ble_eq_true rfl) rfl ?_
        refine r_goto C 23 dX5_rowsBy_69 (by decide) ?_
        refine r_lv [(0, .ref 50), (1, .ref 82), (2, .long x2), (4, .int x4), (5, .int (x5 + u3)), (6, .int (x6 + 1))] [2, 3, 4, 5, 1, 0] rfl ?_
        exact ih x2 x4 (x5 + u3) (x6 + 1)
set_option maxRecDepth 100000 in
set_option maxHeartbeats 4000000 in
theorem k_X5_rowsBy_5_s0 {p : Program} {l : Launch} {e : Env} {s : State} {m : MethodId} {args : Array Value} {below : List Frame} {meth : Method} {c : Code} {dC : Nat → ClassId} {dI : Nat → Nat → Nat} {dA : Nat → ClassId} {A : Nat → Prop} {α : Nat → Nat} {t : Int64} (C : q_Cx p s m args meth c cX5_rowsBy 7 RX5 (some .long) "rowsBy" dC dI dA A α) (X : (Nat → q_St))  : ∀ (n : Nat) (x2 : Int64) (x4 : Int32), q_S p l e (q_rm 3 68) s m args below meth c 7 dC dI dA A α (MQ below (q_Q α dC dI dA A ((fun u => some (.long u)) t) ((fun u => w_X5 X) t)) args s 0 0 A) 0 0 (f_X5_rowsBy_5 X 0  n x2 x4) t 5 [(0, .ref 50), (1, .ref 82), (2, .long x2), (4, .int x4)] [] (w_X5 X) := by
  intro n
  induction n with
  | zero =>
    intro x2 x4
    exact r_cut (f_X5_rowsBy_5.eq_1 _ _ _ _) (r_none True.intro)
  | succ n ih =>
    intro x2 x4
    refine r_cut (f_X5_rowsBy_5.eq_2 _ _ _ _ _) ?_
    refine r_iload C 3 dX5_rowsBy_5 rfl ?_
    refine r_aload_n C 0 dX5_rowsBy_7 rfl ?_
    refine r_get C 0 0 dX5_rowsBy_8 K_X5 rfl rfl (Nat.le_of_ble_eq_true rfl) rfl m_174 rfl ?_
    refine r_get C 1 1 dX5_rowsBy_11 K_X0 rfl rfl (Nat.le_of_ble_eq_true rfl) rfl m_36 rfl ?_
    refine r_icmp_ge C 90 dX5_rowsBy_14 (by decide) (fun h14 => ?_) (fun h14 => ?_)
    · refine r_lload_n C 2 dX5_rowsBy_90 rfl ?_
      exact r_retl (x := x2) (rv := (fun u => some (.long u))) (hpE := (fun u => w_X5 X)) (t0 := x2) C dX5_rowsBy_91 (by rfl) (by rfl) (by rfl)
    · refine r_iconst C (0) dX5_rowsBy_17 rfl ?_
      refine r_istore C [(5, .int (0 : Int32)), (0, .ref 50), (1, .ref 82), (2, .long x2), (4, .int x4)] dX5_rowsBy_18 (Nat.le_of_ble_eq_true rfl) rfl ?_
      refine r_iconst C (-1) dX5_rowsBy_20 rfl ?_
      refine r_istore C [(6, .int (-1 : Int32)), (5, .int (0 : Int32)), (0, .ref 50), (1, .ref 82), (2, .long x2), (4, .int x4)] dX5_rowsBy_21 (Nat.le_of_ble_eq_true rfl) rfl ?_
      refine r_lv [(0, .ref 50), (1, .ref 82), (2, .long x2), (4, .int x4), (5, .int (0 : Int32)), (6, .int (-1 : Int32))] [2, 3, 4, 5, 1, 0] rfl ?_
      exact k_X5_rowsBy_23_s0 C X (fun x2 x4 => f_X5_rowsBy_5 X 0  n x2 x4) ih q_N x2 x4 (0 : Int32) (-1 : Int32)
set_option maxRecDepth 100000 in
set_option maxHeartbeats 4000000 in
theorem o_X5_rowsBy_s0 (l : Launch) (X : (Nat → q_St)) : q_Ok l yX5_rowsBy cX5_rowsBy 7 (some .long) 3 68 [.ref 50, .ref 82] (w_X5 X) (f_X5_rowsBy X 0) (fun u => some (.long u)) (fun u => w_X5 X) := by
  refine q_enter (by decide +kernel) (Nat.le_of_ble_eq_true rfl) (fun t p e s m args below meth c dC dI dA A α C => ?_)
  refine r_cut (f_X5_rowsBy.eq_1 _ _) ?_
  show q_S p l e (q_rm 3 68) s m args below meth c 7 dC dI dA A α (MQ below (q_Q α dC dI dA A ((fun u => some (.long u)) t) ((fun u => w_X5 X) t)) args s 0 0 A) 0 0 _ t 0 [(0, .ref 50), (1, .ref 82)] [] (w_X5 X)
  refine r_lconst C (1) dX5_rowsBy_0 rfl ?_
  refine r_lstore_n C [(2, .long (1 : Int64)), (0, .ref 50), (1, .ref 82)] dX5_rowsBy_1 (Nat.le_of_ble_eq_true rfl) rfl ?_
  refine r_iconst C (0) dX5_rowsBy_2 rfl ?_
  refine r_istore C [(4, .int (0 : Int32)), (2, .long (1 : Int64)), (0, .ref 50), (1, .ref 82)] dX5_rowsBy_3 (Nat.le_of_ble_eq_true rfl) rfl ?_
  refine r_lv [(0, .ref 50), (1, .ref 82), (2, .long (1 : Int64)), (4, .int (0 : Int32))] [2, 3, 1, 0] rfl ?_
  exact k_X5_rowsBy_5_s0 C X   q_N (1 : Int64) (0 : Int32)
set_option maxRecDepth 100000 in
set_option maxHeartbeats 4000000 in
theorem k_X5_rowsBy_23_s1 {p : Program} {l : Launch} {e : Env} {s : State} {m : MethodId} {args : Array Value} {below : List Frame} {meth : Method} {c : Code} {dC : Nat → ClassId} {dI : Nat → Nat → Nat} {dA : Nat → ClassId} {A : Nat → Prop} {α : Nat → Nat} {t : Int64} (C : q_Cx p s m args meth c cX5_rowsBy 7 RX5 (some .long) "rowsBy" dC dI dA A α) (X : (Nat → q_St)) (r5 : Int64 → Int32 → Option (Int64))
    (hr5 : ∀ (x2 : Int64) (x4 : Int32), q_S p l e (q_rm 3 68) s m args below meth c 7 dC dI dA A α (MQ below (q_Q α dC dI dA A ((fun u => some (.long u)) t) ((fun u => w_X5 X) t)) args s 0 0 A) 0 0 (r5 x2 x4) t 5 [(0, .ref 50), (1, .ref 84), (2, .long x2), (4, .int x4)] [] (w_X5 X)) : ∀ (n : Nat) (x2 : Int64) (x4 : Int32) (x5 : Int32) (x6 : Int32), q_S p l e (q_rm 3 68) s m args below meth c 7 dC dI dA A α (MQ below (q_Q α dC dI dA A ((fun u => some (.long u)) t) ((fun u => w_X5 X) t)) args s 0 0 A) 0 0 (f_X5_rowsBy_23 X 1 r5 n x2 x4 x5 x6) t 23 [(0, .ref 50), (1, .ref 84), (2, .long x2), (4, .int x4), (5, .int x5), (6, .int x6)] [] (w_X5 X) := by
  intro n
  induction n with
  | zero =>
    intro x2 x4 x5 x6
    exact r_cut (f_X5_rowsBy_23.eq_1 _ _ _ _ _ _ _) (r_none True.intro)
  | succ n ih =>
    intro x2 x4 x5 x6
    refine r_cut (f_X5_rowsBy_23.eq_2 _ _ _ _ _ _ _ _) ?_
    refine r_iload C 5 dX5_rowsBy_23 rfl ?_
    refine r_aload_n C 0 dX5_rowsBy_25 rfl ?_
    refine r_get C 0 0 dX5_rowsBy_26 K_X5 rfl rfl (Nat.le_of_ble_eq_true rfl) rfl m_174 rfl ?_
    refine r_get C 1 0 dX5_rowsBy_29 K_X0 rfl rfl (Nat.le_of_ble_eq_true rfl) rfl m_30 rfl ?_
    refine r_icmp_ge C 72 dX5_rowsBy_32 (by decide) (fun h32 => ?_) (fun h32 => ?_)
    · refine r_lload_n C 2 dX5_rowsBy_72 rfl ?_
      refine r_iload C 4 dX5_rowsBy_73 rfl ?_
      refine r_i2l C dX5_rowsBy_75 ?_
      refine r_lmul C dX5_rowsBy_76 ?_
      refine r_ldc2 C (1000000001) dX5_rowsBy_77 m_601 ?_
      refine r_mminL C dX5_rowsBy_80 m_602 m_603 m_8 m_604 (Nat.le_of_ble_eq_true rfl) (Nat.le_of_ble_eq_true rfl) (Nat.zero_le _) (Nat.zero_le _) ?_
      refine r_lstore_n C [(2, .long (if (1000000001 : Int64) < (x2 * x5.toInt64) then (1000000001 : Int64) else (x2 * x5.toInt64))), (0, .ref 50), (1, .ref 84), (4, .int x4), (5, .int x5), (6, .int x6)] dX5_rowsBy_83 (Nat.le_of_ble_eq_true rfl) rfl ?_
      refine r_iinc C 3 (x4 + 1) [(4, .int (x4 + 1)), (2, .long (if (1000000001 : Int64) < (x2 * x5.toInt64) then (1000000001 : Int64) else (x2 * x5.toInt64))), (0, .ref 50), (1, .ref 84), (5, .int x5), (6, .int x6)] dX5_rowsBy_84 rfl rfl (Nat.le_of_ble_eq_true rfl) rfl ?_
      refine r_goto C 5 dX5_rowsBy_87 (by decide) ?_
      refine r_lv [(0, .ref 50), (1, .ref 84), (2, .long (if (1000000001 : Int64) < (x2 * x5.toInt64) then (1000000001 : Int64) else (x2 * x5.toInt64))), (4, .int (x4 + 1))] [2, 3, 1, 0] rfl ?_
      exact hr5 (if (1000000001 : Int64) < (x2 * x5.toInt64) then (1000000001 : Int64) else (x2 * x5.toInt64)) (x4 + 1)
    · refine r_aload_n C 0 dX5_rowsBy_35 rfl ?_
      refine r_aload_n C 1 dX5_rowsBy_36 rfl ?_
      refine r_iload C 3 dX5_rowsBy_37 rfl ?_
      refine r_iload C 5 dX5_rowsBy_39 rfl ?_
      refine r_callV0 C (o_X5_isDrawn_s1 l X x4 x6) v_X5_isDrawn m_586 [.ref 84, .int x4, .int x6] [] (50) (Or.inl ⟨0, 4, _, TX5, 8, rfl, rfl, rfl⟩) (fun u1 => [.int u1]) (fun u1 => w_X5 X) rfl rfl rfl (Nat.le_of_ble_eq_true rfl) ⟨(Nat.le_of_ble_eq_true rfl), (Nat.le_of_ble_eq_true rfl)⟩ ⟨Nat.zero_le _, Nat.zero_le _⟩ dX5_rowsBy_41 (fun _ => rfl) (fun _ => rfl) (fun _ => rfl) (fun u1 => ?_)
      refine r_if_eq C 66 dX5_rowsBy_44 (by decide) (fun h44 => ?_) (fun h44 => ?_)
      · refine r_iinc C 5 (x6 + 1) [(6, .int (x6 + 1)), (0, .ref 50), (1, .ref 84), (2, .long x2), (4, .int x4), (5, .int x5)] dX5_rowsBy_66 rfl rfl (Nat.le_of_ble_eq_true rfl) rfl ?_
        refine r_goto C 23 dX5_rowsBy_69 (by decide) ?_
        refine r_lv [(0, .ref 50), (1, .ref 84), (2, .long x2), (4, .int x4), (5, .int x5), (6, .int (x6 + 1))] [1, 2, 3, 4, 5, 0] rfl ?_
        exact ih x2 x4 x5 (x6 + 1)
      · refine r_iload C 4 dX5_rowsBy_47 rfl ?_
        refine r_aload_n C 0 dX5_rowsBy_49 rfl ?_
        refine r_get C 0 0 dX5_rowsBy_50 K_X5 rfl rfl (Nat.le_of_ble_eq_true rfl) rfl m_174 rfl ?_
        refine r_iload C 3 dX5_rowsBy_53 rfl ?_
        refine r_iload C 5 dX5_rowsBy_55 rfl ?_
        refine r_callV C (o_X0_rightsBeside l (X 1) x4 x6) v_X0_rightsBeside m_599 [1, 2, 3, 4, 5, 6, 7] [.int x4, .int x6] [.int x5] (51) (Or.inl ⟨1, 0, _, TX0, 16, rfl, rfl, rfl⟩) (fun u2 => [.int u2, .int x5]) (fun u2 => w_X5 X) rfl rfl rfl rfl rfl (Nat.le_of_ble_eq_true rfl) ⟨(Nat.le_of_ble_eq_true rfl), (Nat.le_of_ble_eq_true rfl)⟩ ⟨Nat.zero_le _, Nat.zero_le _⟩ dX5_rowsBy_57 (fun _ => rfl) (fun _ => rfl) (fun _ => rfl) (fun u2 => ?_)
        refine r_callS C (o_J6_bitCount_0f7a4 l u2) v_J6_bitCount_0f7a4 m_600 [] [.int u2] [.int x5] (fun u3 => [.int u3, .int x5]) (fun u3 => w_X5 X) rfl rfl rfl rfl rfl (Nat.le_of_ble_eq_true rfl) ⟨(Nat.le_of_ble_eq_true rfl), (Nat.le_of_ble_eq_true rfl)⟩ ⟨Nat.zero_le _, Nat.zero_le _⟩ dX5_rowsBy_60 (fun _ => rfl) (fun _ => rfl) (fun _ => rfl) (fun u3 => ?_)
        refine r_iadd C dX5_rowsBy_63 ?_
        refine r_istore C [(5, .int (x5 + u3)), (0, .ref 50), (1, .ref 84), (2, .long x2), (4, .int x4), (6, .int x6)] dX5_rowsBy_64 (Nat.le_of_ble_eq_true rfl) rfl ?_
        refine r_iinc C 5 (x6 + 1) [(6, .int (x6 + 1)), (5, .int (x5 + u3)), (0, .ref 50), (1, .ref 84), (2, .long x2), (4, .int x4)] dX5_rowsBy_66 rfl rfl (Nat.le_of_ble_eq_true rfl) rfl ?_
        refine r_goto C 23 dX5_rowsBy_69 (by decide) ?_
        refine r_lv [(0, .ref 50), (1, .ref 84), (2, .long x2), (4, .int x4), (5, .int (x5 + u3)), (6, .int (x6 + 1))] [2, 3, 4, 5, 1, 0] rfl ?_
        exact ih x2 x4 (x5 + u3) (x6 + 1)
set_option maxRecDepth 100000 in
set_option maxHeartbeats 4000000 in
theorem k_X5_rowsBy_5_s1 {p : Program} {l : Launch} {e : Env} {s : State} {m : MethodId} {args : Array Value} {below : List Frame} {meth : Method} {c : Code} {dC : Nat → ClassId} {dI : Nat → Nat → Nat} {dA : Nat → ClassId} {A : Nat → Prop} {α : Nat → Nat} {t : Int64} (C : q_Cx p s m args meth c cX5_rowsBy 7 RX5 (some .long) "rowsBy" dC dI dA A α) (X : (Nat → q_St))  : ∀ (n : Nat) (x2 : Int64) (x4 : Int32), q_S p l e (q_rm 3 68) s m args below meth c 7 dC dI dA A α (MQ below (q_Q α dC dI dA A ((fun u => some (.long u)) t) ((fun u => w_X5 X) t)) args s 0 0 A) 0 0 (f_X5_rowsBy_5 X 1  n x2 x4) t 5 [(0, .ref 50), (1, .ref 84), (2, .long x2), (4, .int x4)] [] (w_X5 X) := by
  intro n
  induction n with
  | zero =>
    intro x2 x4
    exact r_cut (f_X5_rowsBy_5.eq_1 _ _ _ _) (r_none True.intro)
  | succ n ih =>
    intro x2 x4
    refine r_cut (f_X5_rowsBy_5.eq_2 _ _ _ _ _) ?_
    refine r_iload C 3 dX5_rowsBy_5 rfl ?_
    refine r_aload_n C 0 dX5_rowsBy_7 rfl ?_
    refine r_get C 0 0 dX5_rowsBy_8 K_X5 rfl rfl (Nat.le_of_ble_eq_true rfl) rfl m_174 rfl ?_
    refine r_get C 1 1 dX5_rowsBy_11 K_X0 rfl rfl (Nat.le_of_ble_eq_true rfl) rfl m_36 rfl ?_
    refine r_icmp_ge C 90 dX5_rowsBy_14 (by decide) (fun h14 => ?_) (fun h14 => ?_)
    · refine r_lload_n C 2 dX5_rowsBy_90 rfl ?_
      exact r_retl (x := x2) (rv := (fun u => some (.long u))) (hpE := (fun u => w_X5 X)) (t0 := x2) C dX5_rowsBy_91 (by rfl) (by rfl) (by rfl)
    · refine r_iconst C (0) dX5_rowsBy_17 rfl ?_
      refine r_istore C [(5, .int (0 : Int32)), (0, .ref 50), (1, .ref 84), (2, .long x2), (4, .int x4)] dX5_rowsBy_18 (Nat.le_of_ble_eq_true rfl) rfl ?_
      refine r_iconst C (-1) dX5_rowsBy_20 rfl ?_
      refine r_istore C [(6, .int (-1 : Int32)), (5, .int (0 : Int32)), (0, .ref 50), (1, .ref 84), (2, .long x2), (4, .int x4)] dX5_rowsBy_21 (Nat.le_of_ble_eq_true rfl) rfl ?_
      refine r_lv [(0, .ref 50), (1, .ref 84), (2, .long x2), (4, .int x4), (5, .int (0 : Int32)), (6, .int (-1 : Int32))] [2, 3, 4, 5, 1, 0] rfl ?_
      exact k_X5_rowsBy_23_s1 C X (fun x2 x4 => f_X5_rowsBy_5 X 1  n x2 x4) ih q_N x2 x4 (0 : Int32) (-1 : Int32)
set_option maxRecDepth 100000 in
set_option maxHeartbeats 4000000 in
theorem o_X5_rowsBy_s1 (l : Launch) (X : (Nat → q_St)) : q_Ok l yX5_rowsBy cX5_rowsBy 7 (some .long) 3 68 [.ref 50, .ref 84] (w_X5 X) (f_X5_rowsBy X 1) (fun u => some (.long u)) (fun u => w_X5 X) := by
  refine q_enter (by decide +kernel) (Nat.le_of_ble_eq_true rfl) (fun t p e s m args below meth c dC dI dA A α C => ?_)
  refine r_cut (f_X5_rowsBy.eq_1 _ _) ?_
  show q_S p l e (q_rm 3 68) s m args below meth c 7 dC dI dA A α (MQ below (q_Q α dC dI dA A ((fun u => some (.long u)) t) ((fun u => w_X5 X) t)) args s 0 0 A) 0 0 _ t 0 [(0, .ref 50), (1, .ref 84)] [] (w_X5 X)
  refine r_lconst C (1) dX5_rowsBy_0 rfl ?_
  refine r_lstore_n C [(2, .long (1 : Int64)), (0, .ref 50), (1, .ref 84)] dX5_rowsBy_1 (Nat.le_of_ble_eq_true rfl) rfl ?_
  refine r_iconst C (0) dX5_rowsBy_2 rfl ?_
  refine r_istore C [(4, .int (0 : Int32)), (2, .long (1 : Int64)), (0, .ref 50), (1, .ref 84)] dX5_rowsBy_3 (Nat.le_of_ble_eq_true rfl) rfl ?_
  refine r_lv [(0, .ref 50), (1, .ref 84), (2, .long (1 : Int64)), (4, .int (0 : Int32))] [2, 3, 1, 0] rfl ?_
  exact k_X5_rowsBy_5_s1 C X   q_N (1 : Int64) (0 : Int32)
set_option maxRecDepth 100000 in
set_option maxHeartbeats 4000000 in
theorem k_X5_rowsBy_23_s2 {p : Program} {l : Launch} {e : Env} {s : State} {m : MethodId} {args : Array Value} {below : List Frame} {meth : Method} {c : Code} {dC : Nat → ClassId} {dI : Nat → Nat → Nat} {dA : Nat → ClassId} {A : Nat → Prop} {α : Nat → Nat} {t : Int64} (C : q_Cx p s m args meth c cX5_rowsBy 7 RX5 (some .long) "rowsBy" dC dI dA A α) (X : (Nat → q_St)) (r5 : Int64 → Int32 → Option (Int64))
    (hr5 : ∀ (x2 : Int64) (x4 : Int32), q_S p l e (q_rm 3 68) s m args below meth c 7 dC dI dA A α (MQ below (q_Q α dC dI dA A ((fun u => some (.long u)) t) ((fun u => w_X5 X) t)) args s 0 0 A) 0 0 (r5 x2 x4) t 5 [(0, .ref 50), (1, .ref 86), (2, .long x2), (4, .int x4)] [] (w_X5 X)) : ∀ (n : Nat) (x2 : Int64) (x4 : Int32) (x5 : Int32) (x6 : Int32), q_S p l e (q_rm 3 68) s m args below meth c 7 dC dI dA A α (MQ below (q_Q α dC dI dA A ((fun u => some (.long u)) t) ((fun u => w_X5 X) t)) args s 0 0 A) 0 0 (f_X5_rowsBy_23 X 2 r5 n x2 x4 x5 x6) t 23 [(0, .ref 50), (1, .ref 86), (2, .long x2), (4, .int x4), (5, .int x5), (6, .int x6)] [] (w_X5 X) := by
  intro n
  induction n with
  | zero =>
    intro x2 x4 x5 x6
    exact r_cut (f_X5_rowsBy_23.eq_1 _ _ _ _ _ _ _) (r_none True.intro)
  | succ n ih =>
    intro x2 x4 x5 x6
    refine r_cut (f_X5_rowsBy_23.eq_2 _ _ _ _ _ _ _ _) ?_
    refine r_iload C 5 dX5_rowsBy_23 rfl ?_
    refine r_aload_n C 0 dX5_rowsBy_25 rfl ?_
    refine r_get C 0 0 dX5_rowsBy_26 K_X5 rfl rfl (Nat.le_of_ble_eq_true rfl) rfl m_174 rfl ?_
    refine r_get C 1 0 dX5_rowsBy_29 K_X0 rfl rfl (Nat.le_of_ble_eq_true rfl) rfl m_30 rfl ?_
    refine r_icmp_ge C 72 dX5_rowsBy_32 (by decide) (fun h32 => ?_) (fun h32 => ?_)
    · refine r_lload_n C 2 dX5_rowsBy_72 rfl ?_
      refine r_iload C 4 dX5_rowsBy_73 rfl ?_
      refine r_i2l C dX5_rowsBy_75 ?_
      refine r_lmul C dX5_rowsBy_76 ?_
      refine r_ldc2 C (1000000001) dX5_rowsBy_77 m_601 ?_
      refine r_mminL C dX5_rowsBy_80 m_602 m_603 m_8 m_604 (Nat.le_of_ble_eq_true rfl) (Nat.le_of_ble_eq_true rfl) (Nat.zero_le _) (Nat.zero_le _) ?_
      refine r_lstore_n C [(2, .long (if (1000000001 : Int64) < (x2 * x5.toInt64) then (1000000001 : Int64) else (x2 * x5.toInt64))), (0, .ref 50), (1, .ref 86), (4, .int x4), (5, .int x5), (6, .int x6)] dX5_rowsBy_83 (Nat.le_of_ble_eq_true rfl) rfl ?_
      refine r_iinc C 3 (x4 + 1) [(4, .int (x4 + 1)), (2, .long (if (1000000001 : Int64) < (x2 * x5.toInt64) then (1000000001 : Int64) else (x2 * x5.toInt64))), (0, .ref 50), (1, .ref 86), (5, .int x5), (6, .int x6)] dX5_rowsBy_84 rfl rfl (Nat.le_of_ble_eq_true rfl) rfl ?_
      refine r_goto C 5 dX5_rowsBy_87 (by decide) ?_
      refine r_lv [(0, .ref 50), (1, .ref 86), (2, .long (if (1000000001 : Int64) < (x2 * x5.toInt64) then (1000000001 : Int64) else (x2 * x5.toInt64))), (4, .int (x4 + 1))] [2, 3, 1, 0] rfl ?_
      exact hr5 (if (1000000001 : Int64) < (x2 * x5.toInt64) then (1000000001 : Int64) else (x2 * x5.toInt64)) (x4 + 1)
    · refine r_aload_n C 0 dX5_rowsBy_35 rfl ?_
      refine r_aload_n C 1 dX5_rowsBy_36 rfl ?_
      refine r_iload C 3 dX5_rowsBy_37 rfl ?_
      refine r_iload C 5 dX5_rowsBy_39 rfl ?_
      refine r_callV0 C (o_X5_isDrawn_s2 l X x4 x6) v_X5_isDrawn m_586 [.ref 86, .int x4, .int x6] [] (50) (Or.inl ⟨0, 4, _, TX5, 8, rfl, rfl, rfl⟩) (fun u1 => [.int u1]) (fun u1 => w_X5 X) rfl rfl rfl (Nat.le_of_ble_eq_true rfl) ⟨(Nat.le_of_ble_eq_true rfl), (Nat.le_of_ble_eq_true rfl)⟩ ⟨Nat.zero_le _, Nat.zero_le _⟩ dX5_rowsBy_41 (fun _ => rfl) (fun _ => rfl) (fun _ => rfl) (fun u1 => ?_)
      refine r_if_eq C 66 dX5_rowsBy_44 (by decide) (fun h44 => ?_) (fun h44 => ?_)
      · refine r_iinc C 5 (x6 + 1) [(6, .int (x6 + 1)), (0, .ref 50), (1, .ref 86), (2, .long x2), (4, .int x4), (5, .int x5)] dX5_rowsBy_66 rfl rfl (Nat.le_of_ble_eq_true rfl) rfl ?_
        refine r_goto C 23 dX5_rowsBy_69 (by decide) ?_
        refine r_lv [(0, .ref 50), (1, .ref 86), (2, .long x2), (4, .int x4), (5, .int x5), (6, .int (x6 + 1))] [1, 2, 3, 4, 5, 0] rfl ?_
        exact ih x2 x4 x5 (x6 + 1)
      · refine r_iload C 4 dX5_rowsBy_47 rfl ?_
        refine r_aload_n C 0 dX5_rowsBy_49 rfl ?_
        refine r_get C 0 0 dX5_rowsBy_50 K_X5 rfl rfl (Nat.le_of_ble_eq_true rfl) rfl m_174 rfl ?_
        refine r_iload C 3 dX5_rowsBy_53 rfl ?_
        refine r_iload C 5 dX5_rowsBy_55 rfl ?_
        refine r_callV C (o_X0_rightsBeside l (X 1) x4 x6) v_X0_rightsBeside m_599 [1, 2, 3, 4, 5, 6, 7] [.int x4, .int x6] [.int x5] (51) (Or.inl ⟨1, 0, _, TX0, 16, rfl, rfl, rfl⟩) (fun u2 => [.int u2, .int x5]) (fun u2 => w_X5 X) rfl rfl rfl rfl rfl (Nat.le_of_ble_eq_true rfl) ⟨(Nat.le_of_ble_eq_true rfl), (Nat.le_of_ble_eq_true rfl)⟩ ⟨Nat.zero_le _, Nat.zero_le _⟩ dX5_rowsBy_57 (fun _ => rfl) (fun _ => rfl) (fun _ => rfl) (fun u2 => ?_)
        refine r_callS C (o_J6_bitCount_0f7a4 l u2) v_J6_bitCount_0f7a4 m_600 [] [.int u2] [.int x5] (fun u3 => [.int u3, .int x5]) (fun u3 => w_X5 X) rfl rfl rfl rfl rfl (Nat.le_of_ble_eq_true rfl) ⟨(Nat.le_of_ble_eq_true rfl), (Nat.le_of_ble_eq_true rfl)⟩ ⟨Nat.zero_le _, Nat.zero_le _⟩ dX5_rowsBy_60 (fun _ => rfl) (fun _ => rfl) (fun _ => rfl) (fun u3 => ?_)
        refine r_iadd C dX5_rowsBy_63 ?_
        refine r_istore C [(5, .int (x5 + u3)), (0, .ref 50), (1, .ref 86), (2, .long x2), (4, .int x4), (6, .int x6)] dX5_rowsBy_64 (Nat.le_of_ble_eq_true rfl) rfl ?_
        refine r_iinc C 5 (x6 + 1) [(6, .int (x6 + 1)), (5, .int (x5 + u3)), (0, .ref 50), (1, .ref 86), (2, .long x2), (4, .int x4)] dX5_rowsBy_66 rfl rfl (Nat.le_of_ble_eq_true rfl) rfl ?_
        refine r_goto C 23 dX5_rowsBy_69 (by decide) ?_
        refine r_lv [(0, .ref 50), (1, .ref 86), (2, .long x2), (4, .int x4), (5, .int (x5 + u3)), (6, .int (x6 + 1))] [2, 3, 4, 5, 1, 0] rfl ?_
        exact ih x2 x4 (x5 + u3) (x6 + 1)
set_option maxRecDepth 100000 in
set_option maxHeartbeats 4000000 in
theorem k_X5_rowsBy_5_s2 {p : Program} {l : Launch} {e : Env} {s : State} {m : MethodId} {args : Array Value} {below : List Frame} {meth : Method} {c : Code} {dC : Nat → ClassId} {dI : Nat → Nat → Nat} {dA : Nat → ClassId} {A : Nat → Prop} {α : Nat → Nat} {t : Int64} (C : q_Cx p s m args meth c cX5_rowsBy 7 RX5 (some .long) "rowsBy" dC dI dA A α) (X : (Nat → q_St))  : ∀ (n : Nat) (x2 : Int64) (x4 : Int32), q_S p l e (q_rm 3 68) s m args below meth c 7 dC dI dA A α (MQ below (q_Q α dC dI dA A ((fun u => some (.long u)) t) ((fun u => w_X5 X) t)) args s 0 0 A) 0 0 (f_X5_rowsBy_5 X 2  n x2 x4) t 5 [(0, .ref 50), (1, .ref 86), (2, .long x2), (4, .int x4)] [] (w_X5 X) := by
  intro n
  induction n with
  | zero =>
    intro x2 x4
    exact r_cut (f_X5_rowsBy_5.eq_1 _ _ _ _) (r_none True.intro)
  | succ n ih =>
    intro x2 x4
    refine r_cut (f_X5_rowsBy_5.eq_2 _ _ _ _ _) ?_
    refine r_iload C 3 dX5_rowsBy_5 rfl ?_
    refine r_aload_n C 0 dX5_rowsBy_7 rfl ?_
    refine r_get C 0 0 dX5_rowsBy_8 K_X5 rfl rfl (Nat.le_of_ble_eq_true rfl) rfl m_174 rfl ?_
    refine r_get C 1 1 dX5_rowsBy_11 K_X0 rfl rfl (Nat.le_of_ble_eq_true rfl) rfl m_36 rfl ?_
    refine r_icmp_ge C 90 dX5_rowsBy_14 (by decide) (fun h14 => ?_) (fun h14 => ?_)
    · refine r_lload_n C 2 dX5_rowsBy_90 rfl ?_
      exact r_retl (x := x2) (rv := (fun u => some (.long u))) (hpE := (fun u => w_X5 X)) (t0 := x2) C dX5_rowsBy_91 (by rfl) (by rfl) (by rfl)
    · refine r_iconst C (0) dX5_rowsBy_17 rfl ?_
      refine r_istore C [(5, .int (0 : Int32)), (0, .ref 50), (1, .ref 86), (2, .long x2), (4, .int x4)] dX5_rowsBy_18 (Nat.le_of_ble_eq_true rfl) rfl ?_
      refine r_iconst C (-1) dX5_rowsBy_20 rfl ?_
      refine r_istore C [(6, .int (-1 : Int32)), (5, .int (0 : Int32)), (0, .ref 50), (1, .ref 86), (2, .long x2), (4, .int x4)] dX5_rowsBy_21 (Nat.le_of_ble_eq_true rfl) rfl ?_
      refine r_lv [(0, .ref 50), (1, .ref 86), (2, .long x2), (4, .int x4), (5, .int (0 : Int32)), (6, .int (-1 : Int32))] [2, 3, 4, 5, 1, 0] rfl ?_
      exact k_X5_rowsBy_23_s2 C X (fun x2 x4 => f_X5_rowsBy_5 X 2  n x2 x4) ih q_N x2 x4 (0 : Int32) (-1 : Int32)
set_option maxRecDepth 100000 in
set_option maxHeartbeats 4000000 in
theorem o_X5_rowsBy_s2 (l : Launch) (X : (Nat → q_St)) : q_Ok l yX5_rowsBy cX5_rowsBy 7 (some .long) 3 68 [.ref 50, .ref 86] (w_X5 X) (f_X5_rowsBy X 2) (fun u => some (.long u)) (fun u => w_X5 X) := by
  refine q_enter (by decide +kernel) (Nat.le_of_ble_eq_true rfl) (fun t p e s m args below meth c dC dI dA A α C => ?_)
  refine r_cut (f_X5_rowsBy.eq_1 _ _) ?_
  show q_S p l e (q_rm 3 68) s m args below meth c 7 dC dI dA A α (MQ below (q_Q α dC dI dA A ((fun u => some (.long u)) t) ((fun u => w_X5 X) t)) args s 0 0 A) 0 0 _ t 0 [(0, .ref 50), (1, .ref 86)] [] (w_X5 X)
  refine r_lconst C (1) dX5_rowsBy_0 rfl ?_
  refine r_lstore_n C [(2, .long (1 : Int64)), (0, .ref 50), (1, .ref 86)] dX5_rowsBy_1 (Nat.le_of_ble_eq_true rfl) rfl ?_
  refine r_iconst C (0) dX5_rowsBy_2 rfl ?_
  refine r_istore C [(4, .int (0 : Int32)), (2, .long (1 : Int64)), (0, .ref 50), (1, .ref 86)] dX5_rowsBy_3 (Nat.le_of_ble_eq_true rfl) rfl ?_
  refine r_lv [(0, .ref 50), (1, .ref 86), (2, .long (1 : Int64)), (4, .int (0 : Int32))] [2, 3, 1, 0] rfl ?_
  exact k_X5_rowsBy_5_s2 C X   q_N (1 : Int64) (0 : Int32)
set_option maxRecDepth 100000 in
set_option maxHeartbeats 4000000 in
theorem k_X5_rowsBy_23_s3 {p : Program} {l : Launch} {e : Env} {s : State} {m : MethodId} {args : Array Value} {below : List Frame} {meth : Method} {c : Code} {dC : Nat → ClassId} {dI : Nat → Nat → Nat} {dA : Nat → ClassId} {A : Nat → Prop} {α : Nat → Nat} {t : Int64} (C : q_Cx p s m args meth c cX5_rowsBy 7 RX5 (some .long) "rowsBy" dC dI dA A α) (X : (Nat → q_St)) (r5 : Int64 → Int32 → Option (Int64))
    (hr5 : ∀ (x2 : Int64) (x4 : Int32), q_S p l e (q_rm 3 68) s m args below meth c 7 dC dI dA A α (MQ below (q_Q α dC dI dA A ((fun u => some (.long u)) t) ((fun u => w_X5 X) t)) args s 0 0 A) 0 0 (r5 x2 x4) t 5 [(0, .ref 50), (1, .ref 88), (2, .long x2), (4, .int x4)] [] (w_X5 X)) : ∀ (n : Nat) (x2 : Int64) (x4 : Int32) (x5 : Int32) (x6 : Int32), q_S p l e (q_rm 3 68) s m args below meth c 7 dC dI dA A α (MQ below (q_Q α dC dI dA A ((fun u => some (.long u)) t) ((fun u => w_X5 X) t)) args s 0 0 A) 0 0 (f_X5_rowsBy_23 X 3 r5 n x2 x4 x5 x6) t 23 [(0, .ref 50), (1, .ref 88), (2, .long x2), (4, .int x4), (5, .int x5), (6, .int x6)] [] (w_X5 X) := by
  intro n
  induction n with
  | zero =>
    intro x2 x4 x5 x6
    exact r_cut (f_X5_rowsBy_23.eq_1 _ _ _ _ _ _ _) (r_none True.intro)
  | succ n ih =>
    intro x2 x4 x5 x6
    refine r_cut (f_X5_rowsBy_23.eq_2 _ _ _ _ _ _ _ _) ?_
    refine r_iload C 5 dX5_rowsBy_23 rfl ?_
    refine r_aload_n C 0 dX5_rowsBy_25 rfl ?_
    refine r_get C 0 0 dX5_rowsBy_26 K_X5 rfl rfl (Nat.le_of_ble_eq_true rfl) rfl m_174 rfl ?_
    refine r_get C 1 0 dX5_rowsBy_29 K_X0 rfl rfl (Nat.le_of_ble_eq_true rfl) rfl m_30 rfl ?_
    refine r_icmp_ge C 72 dX5_rowsBy_32 (by decide) (fun h32 => ?_) (fun h32 => ?_)
    · refine r_lload_n C 2 dX5_rowsBy_72 rfl ?_
      refine r_iload C 4 dX5_rowsBy_73 rfl ?_
      refine r_i2l C dX5_rowsBy_75 ?_
      refine r_lmul C dX5_rowsBy_76 ?_
      refine r_ldc2 C (1000000001) dX5_rowsBy_77 m_601 ?_
      refine r_mminL C dX5_rowsBy_80 m_602 m_603 m_8 m_604 (Nat.le_of_ble_eq_true rfl) (Nat.le_of_ble_eq_true rfl) (Nat.zero_le _) (Nat.zero_le _) ?_
      refine r_lstore_n C [(2, .long (if (1000000001 : Int64) < (x2 * x5.toInt64) then (1000000001 : Int64) else (x2 * x5.toInt64))), (0, .ref 50), (1, .ref 88), (4, .int x4), (5, .int x5), (6, .int x6)] dX5_rowsBy_83 (Nat.le_of_ble_eq_true rfl) rfl ?_
      refine r_iinc C 3 (x4 + 1) [(4, .int (x4 + 1)), (2, .long (if (1000000001 : Int64) < (x2 * x5.toInt64) then (1000000001 : Int64) else (x2 * x5.toInt64))), (0, .ref 50), (1, .ref 88), (5, .int x5), (6, .int x6)] dX5_rowsBy_84 rfl rfl (Nat.le_of_ble_eq_true rfl) rfl ?_
      refine r_goto C 5 dX5_rowsBy_87 (by decide) ?_
      refine r_lv [(0, .ref 50), (1, .ref 88), (2, .long (if (1000000001 : Int64) < (x2 * x5.toInt64) then (1000000001 : Int64) else (x2 * x5.toInt64))), (4, .int (x4 + 1))] [2, 3, 1, 0] rfl ?_
      exact hr5 (if (1000000001 : Int64) < (x2 * x5.toInt64) then (1000000001 : Int64) else (x2 * x5.toInt64)) (x4 + 1)
    · refine r_aload_n C 0 dX5_rowsBy_35 rfl ?_
      refine r_aload_n C 1 dX5_rowsBy_36 rfl ?_
      refine r_iload C 3 dX5_rowsBy_37 rfl ?_
      refine r_iload C 5 dX5_rowsBy_39 rfl ?_
      refine r_callV0 C (o_X5_isDrawn_s3 l X x4 x6) v_X5_isDrawn m_586 [.ref 88, .int x4, .int x6] [] (50) (Or.inl ⟨0, 4, _, TX5, 8, rfl, rfl, rfl⟩) (fun u1 => [.int u1]) (fun u1 => w_X5 X) rfl rfl rfl (Nat.le_of_ble_eq_true rfl) ⟨(Nat.le_of_ble_eq_true rfl), (Nat.le_of_ble_eq_true rfl)⟩ ⟨Nat.zero_le _, Nat.zero_le _⟩ dX5_rowsBy_41 (fun _ => rfl) (fun _ => rfl) (fun _ => rfl) (fun u1 => ?_)
      refine r_if_eq C 66 dX5_rowsBy_44 (by decide) (fun h44 => ?_) (fun h44 => ?_)
      · refine r_iinc C 5 (x6 + 1) [(6, .int (x6 + 1)), (0, .ref 50), (1, .ref 88), (2, .long x2), (4, .int x4), (5, .int x5)] dX5_rowsBy_66 rfl rfl (Nat.le_of_ble_eq_true rfl) rfl ?_
        refine r_goto C 23 dX5_rowsBy_69 (by decide) ?_
        refine r_lv [(0, .ref 50), (1, .ref 88), (2, .long x2), (4, .int x4), (5, .int x5), (6, .int (x6 + 1))] [1, 2, 3, 4, 5, 0] rfl ?_
        exact ih x2 x4 x5 (x6 + 1)
      · refine r_iload C 4 dX5_rowsBy_47 rfl ?_
        refine r_aload_n C 0 dX5_rowsBy_49 rfl ?_
        refine r_get C 0 0 dX5_rowsBy_50 K_X5 rfl rfl (Nat.le_of_ble_eq_true rfl) rfl m_174 rfl ?_
        refine r_iload C 3 dX5_rowsBy_53 rfl ?_
        refine r_iload C 5 dX5_rowsBy_55 rfl ?_
        refine r_callV C (o_X0_rightsBeside l (X 1) x4 x6) v_X0_rightsBeside m_599 [1, 2, 3, 4, 5, 6, 7] [.int x4, .int x6] [.int x5] (51) (Or.inl ⟨1, 0, _, TX0, 16, rfl, rfl, rfl⟩) (fun u2 => [.int u2, .int x5]) (fun u2 => w_X5 X) rfl rfl rfl rfl rfl (Nat.le_of_ble_eq_true rfl) ⟨(Nat.le_of_ble_eq_true rfl), (Nat.le_of_ble_eq_true rfl)⟩ ⟨Nat.zero_le _, Nat.zero_le _⟩ dX5_rowsBy_57 (fun _ => rfl) (fun _ => rfl) (fun _ => rfl) (fun u2 => ?_)
        refine r_callS C (o_J6_bitCount_0f7a4 l u2) v_J6_bitCount_0f7a4 m_600 [] [.int u2] [.int x5] (fun u3 => [.int u3, .int x5]) (fun u3 => w_X5 X) rfl rfl rfl rfl rfl (Nat.le_of_ble_eq_true rfl) ⟨(Nat.le_of_ble_eq_true rfl), (Nat.le_of_ble_eq_true rfl)⟩ ⟨Nat.zero_le _, Nat.zero_le _⟩ dX5_rowsBy_60 (fun _ => rfl) (fun _ => rfl) (fun _ => rfl) (fun u3 => ?_)
        refine r_iadd C dX5_rowsBy_63 ?_
        refine r_istore C [(5, .int (x5 + u3)), (0, .ref 50), (1, .ref 88), (2, .long x2), (4, .int x4), (6, .int x6)] dX5_rowsBy_64 (Nat.le_of_ble_eq_true rfl) rfl ?_
        refine r_iinc C 5 (x6 + 1) [(6, .int (x6 + 1)), (5, .int (x5 + u3)), (0, .ref 50), (1, .ref 88), (2, .long x2), (4, .int x4)] dX5_rowsBy_66 rfl rfl (Nat.le_of_ble_eq_true rfl) rfl ?_
        refine r_goto C 23 dX5_rowsBy_69 (by decide) ?_
        refine r_lv [(0, .ref 50), (1, .ref 88), (2, .long x2), (4, .int x4), (5, .int (x5 + u3)), (6, .int (x6 + 1))] [2, 3, 4, 5, 1, 0] rfl ?_
        exact ih x2 x4 (x5 + u3) (x6 + 1)
set_option maxRecDepth 100000 in
set_option maxHeartbeats 4000000 in
theorem k_X5_rowsBy_5_s3 {p : Program} {l : Launch} {e : Env} {s : State} {m : MethodId} {args : Array Value} {below : List Frame} {meth : Method} {c : Code} {dC : Nat → ClassId} {dI : Nat → Nat → Nat} {dA : Nat → ClassId} {A : Nat → Prop} {α : Nat → Nat} {t : Int64} (C : q_Cx p s m args meth c cX5_rowsBy 7 RX5 (some .long) "rowsBy" dC dI dA A α) (X : (Nat → q_St))  : ∀ (n : Nat) (x2 : Int64) (x4 : Int32), q_S p l e (q_rm 3 68) s m args below meth c 7 dC dI dA A α (MQ below (q_Q α dC dI dA A ((fun u => some (.long u)) t) ((fun u => w_X5 X) t)) args s 0 0 A) 0 0 (f_X5_rowsBy_5 X 3  n x2 x4) t 5 [(0, .ref 50), (1, .ref 88), (2, .long x2), (4, .int x4)] [] (w_X5 X) := by
  intro n
  induction n with
  | zero =>
    intro x2 x4
    exact r_cut (f_X5_rowsBy_5.eq_1 _ _ _ _) (r_none True.intro)
  | succ n ih =>
    intro x2 x4
    refine r_cut (f_X5_rowsBy_5.eq_2 _ _ _ _ _) ?_
    refine r_iload C 3 dX5_rowsBy_5 rfl ?_
    refine r_aload_n C 0 dX5_rowsBy_7 rfl ?_
    refine r_get C 0 0 dX5_rowsBy_8 K_X5 rfl rfl (Nat.le_of_ble_eq_true rfl) rfl m_174 rfl ?_
    refine r_get C 1 1 dX5_rowsBy_11 K_X0 rfl rfl (Nat.le_of_ble_eq_true rfl) rfl m_36 rfl ?_
    refine r_icmp_ge C 90 dX5_rowsBy_14 (by decide) (fun h14 => ?_) (fun h14 => ?_)
    · refine r_lload_n C 2 dX5_rowsBy_90 rfl ?_
      exact r_retl (x := x2) (rv := (fun u => some (.long u))) (hpE := (fun u => w_X5 X)) (t0 := x2) C dX5_rowsBy_91 (by rfl) (by rfl) (by rfl)
    · refine r_iconst C (0) dX5_rowsBy_17 rfl ?_
      refine r_istore C [(5, .int (0 : Int32)), (0, .ref 50), (1, .ref 88), (2, .long x2), (4, .int x4)] dX5_rowsBy_18 (Nat.le_of_ble_eq_true rfl) rfl ?_
      refine r_iconst C (-1) dX5_rowsBy_20 rfl ?_
      refine r_istore C [(6, .int (-1 : Int32)), (5, .int (0 : Int32)), (0, .ref 50), (1, .ref 88), (2, .long x2), (4, .int x4)] dX5_rowsBy_21 (Nat.le_of_ble_eq_true rfl) rfl ?_
      refine r_lv [(0, .ref 50), (1, .ref 88), (2, .long x2), (4, .int x4), (5, .int (0 : Int32)), (6, .int (-1 : Int32))] [2, 3, 4, 5, 1, 0] rfl ?_
      exact k_X5_rowsBy_23_s3 C X (fun x2 x4 => f_X5_rowsBy_5 X 3  n x2 x4) ih q_N x2 x4 (0 : Int32) (-1 : Int32)
set_option maxRecDepth 100000 in
set_option maxHeartbeats 4000000 in
theorem o_X5_rowsBy_s3 (l : Launch) (X : (Nat → q_St)) : q_Ok l yX5_rowsBy cX5_rowsBy 7 (some .long) 3 68 [.ref 50, .ref 88] (w_X5 X) (f_X5_rowsBy X 3) (fun u => some (.long u)) (fun u => w_X5 X) := by
  refine q_enter (by decide +kernel) (Nat.le_of_ble_eq_true rfl) (fun t p e s m args below meth c dC dI dA A α C => ?_)
  refine r_cut (f_X5_rowsBy.eq_1 _ _) ?_
  show q_S p l e (q_rm 3 68) s m args below meth c 7 dC dI dA A α (MQ below (q_Q α dC dI dA A ((fun u => some (.long u)) t) ((fun u => w_X5 X) t)) args s 0 0 A) 0 0 _ t 0 [(0, .ref 50), (1, .ref 88)] [] (w_X5 X)
  refine r_lconst C (1) dX5_rowsBy_0 rfl ?_
  refine r_lstore_n C [(2, .long (1 : Int64)), (0, .ref 50), (1, .ref 88)] dX5_rowsBy_1 (Nat.le_of_ble_eq_true rfl) rfl ?_
  refine r_iconst C (0) dX5_rowsBy_2 rfl ?_
  refine r_istore C [(4, .int (0 : Int32)), (2, .long (1 : Int64)), (0, .ref 50), (1, .ref 88)] dX5_rowsBy_3 (Nat.le_of_ble_eq_true rfl) rfl ?_
  refine r_lv [(0, .ref 50), (1, .ref 88), (2, .long (1 : Int64)), (4, .int (0 : Int32))] [2, 3, 1, 0] rfl ?_
  exact k_X5_rowsBy_5_s3 C X   q_N (1 : Int64) (0 : Int32)
set_option maxRecDepth 100000 in
set_option maxHeartbeats 4000000 in
theorem o_X5_fits (l : Launch) (X : (Nat → q_St)) (a1 : Int32) : q_Ok l yX5_fits cX5_fits 5 (some .int) 4 94 [.ref 50, .int a1] (w_X5 X) (f_X5_fits X a1) (fun u => some (.int u.1)) (fun u => w_X5 u.2) := by
  refine q_enter (by decide +kernel) (Nat.le_of_ble_eq_true rfl) (fun t p e s m args below meth c dC dI dA A α C => ?_)
  refine r_cut (f_X5_fits.eq_1 _ _) ?_
  show q_S p l e (q_rm 4 94) s m args below meth c 5 dC dI dA A α (MQ below (q_Q α dC dI dA A ((fun u => some (.int u.1)) t) ((fun u => w_X5 u.2) t)) args s 0 0 A) 0 0 _ t 0 [(0, .ref 50), (1, .int a1)] [] (w_X5 X)
  refine r_aload_n C 0 dX5_fits_0 rfl ?_
  refine r_iload_n C 1 dX5_fits_1 rfl ?_
  refine r_callV0 C (o_X5_sheetAt l X a1) v_X5_sheetAt m_573 [.int a1] [] (50) (Or.inl ⟨0, 4, _, TX5, 8, rfl, rfl, rfl⟩) (fun u1 => va_rf (q_sf u1) :: []) (fun u1 => w_X5 X) rfl rfl rfl (Nat.le_of_ble_eq_true rfl) ⟨(Nat.le_of_ble_eq_true rfl), (Nat.le_of_ble_eq_true rfl)⟩ ⟨Nat.zero_le _, Nat.zero_le _⟩ dX5_fits_2 (fun _ => rfl) (fun _ => rfl) (fun _ => rfl) (q_case4 ?_ ?_ ?_ ?_ (fun u1 => ?_))
  · refine r_astore_n C [(2, .ref 82), (0, .ref 50), (1, .int a1)] dX5_fits_5 (Nat.le_of_ble_eq_true rfl) rfl ?_
    refine r_aload_n C 0 dX5_fits_6 rfl ?_
    refine r_cut (if_pos (by decide)) ?_
    refine r_ifnonnull_t C 17 dX5_fits_7 (by decide) ?_
    refine r_aload_n C 0 dX5_fits_17 rfl ?_
    refine r_callV C (o_X2_isMissing l (X (6 + 0))) v_X2_isMissing m_577 [32, 33] [] [] (82) (Or.inl ⟨32, 1, _, TX2, 3, rfl, rfl, rfl⟩) (fun u2 => [.int u2]) (fun u2 => w_X5 X) rfl rfl rfl rfl rfl (Nat.le_of_ble_eq_true rfl) ⟨(Nat.le_of_ble_eq_true rfl), (Nat.le_of_ble_eq_true rfl)⟩ ⟨Nat.zero_le _, Nat.zero_le _⟩ dX5_fits_18 (fun _ => rfl) (fun _ => rfl) (fun _ => rfl) (fun u2 => ?_)
    refine r_if_eq C 31 dX5_fits_21 (by decide) (fun h21 => ?_) (fun h21 => ?_)
    · refine r_aload_n C 1 dX5_fits_31 rfl ?_
      refine r_aload_n C 0 dX5_fits_32 rfl ?_
      refine r_callV0 C (o_X5_rowsBy_s0 l X) v_X5_rowsBy m_582 [.ref 82] [] (50) (Or.inl ⟨0, 4, _, TX5, 8, rfl, rfl, rfl⟩) (fun u3 => [.long u3]) (fun u3 => w_X5 X) rfl rfl rfl (Nat.le_of_ble_eq_true rfl) ⟨(Nat.le_of_ble_eq_true rfl), (Nat.le_of_ble_eq_true rfl)⟩ ⟨Nat.zero_le _, Nat.zero_le _⟩ dX5_fits_33 (fun _ => rfl) (fun _ => rfl) (fun _ => rfl) (fun u3 => ?_)
      refine r_lstore_n C [(3, .long u3), (2, .ref 82), (0, .ref 50), (1, .int a1)] dX5_fits_36 (Nat.le_of_ble_eq_true rfl) rfl ?_
      refine r_lload_n C 0 dX5_fits_37 rfl ?_
      refine r_ldc2 C (1000000000) dX5_fits_38 m_605 ?_
      refine r_lcmp C dX5_fits_41 ?_
      refine r_if_le C 54 dX5_fits_42 (by decide) (fun h42 => ?_) (fun h42 => ?_)
      · refine r_lload_n C 0 dX5_fits_54 rfl ?_
        refine r_l2i C dX5_fits_55 ?_
        exact r_reti (x := u3.toInt32) (rv := (fun u => some (.int u.1))) (hpE := (fun u => w_X5 u.2)) (t0 := (u3.toInt32, X)) C dX5_fits_56 (by rfl) (by rfl) (by rfl)
      · refine r_aload_n C 2 dX5_fits_45 rfl ?_
        refine r_ldc C (-1000007) dX5_fits_46 m_606 ?_
        refine r_callV0 C (o_X5_finding l X (-1000007 : Int32)) v_X5_finding m_207 [.int (-1000007 : Int32)] [] (50) (Or.inl ⟨0, 4, _, TX5, 8, rfl, rfl, rfl⟩) (fun u4 => [.int u4.1]) (fun u4 => w_X5 u4.2) rfl rfl rfl (Nat.le_of_ble_eq_true rfl) ⟨(Nat.le_of_ble_eq_true rfl), (Nat.le_of_ble_eq_true rfl)⟩ ⟨Nat.zero_le _, Nat.zero_le _⟩ dX5_fits_48 (fun _ => rfl) (fun _ => rfl) (fun _ => rfl) (fun u4 => ?_)
        refine r_goto C 56 dX5_fits_51 (by decide) ?_
        exact r_reti (x := u4.1) (rv := (fun u => some (.int u.1))) (hpE := (fun u => w_X5 u.2)) (t0 := (u4.1, u4.2)) C dX5_fits_56 (by rfl) (by rfl) (by rfl)
    · refine r_aload_n C 1 dX5_fits_24 rfl ?_
      refine r_ldc C (-1000006) dX5_fits_25 m_581 ?_
      refine r_callV0 C (o_X5_finding l X (-1000006 : Int32)) v_X5_finding m_207 [.int (-1000006 : Int32)] [] (50) (Or.inl ⟨0, 4, _, TX5, 8, rfl, rfl, rfl⟩) (fun u5 => [.int u5.1]) (fun u5 => w_X5 u5.2) rfl rfl rfl (Nat.le_of_ble_eq_true rfl) ⟨(Nat.le_of_ble_eq_true rfl), (Nat.le_of_ble_eq_true rfl)⟩ ⟨Nat.zero_le _, Nat.zero_le _⟩ dX5_fits_27 (fun _ => rfl) (fun _ => rfl) (fun _ => rfl) (fun u5 => ?_)
      exact r_reti (x := u5.1) (rv := (fun u => some (.int u.1))) (hpE := (fun u => w_X5 u.2)) (t0 := (u5.1, u5.2)) C dX5_fits_30 (by rfl) (by rfl) (by rfl)
  · refine r_astore_n C [(2, .ref 84), (0, .ref 50), (1, .int a1)] dX5_fits_5 (Nat.le_of_ble_eq_true rfl) rfl ?_
    refine r_aload_n C 0 dX5_fits_6 rfl ?_
    refine r_cut (if_pos (by decide)) ?_
    refine r_ifnonnull_t C 17 dX5_fits_7 (by decide) ?_
    refine r_aload_n C 0 dX5_fits_17 rfl ?_
    refine r_callV C (o_X2_isMissing l (X (6 + 1))) v_X2_isMissing m_577 [34, 35] [] [] (84) (Or.inl ⟨34, 1, _, TX2, 3, rfl, rfl, rfl⟩) (fun u6 => [.int u6]) (fun u6 => w_X5 X) rfl rfl rfl rfl rfl (Nat.le_of_ble_eq_true rfl) ⟨(Nat.le_of_ble_eq_true rfl), (Nat.le_of_ble_eq_true rfl)⟩ ⟨Nat.zero_le _, Nat.zero_le _⟩ dX5_fits_18 (fun _ => rfl) (fun _ => rfl) (fun _ => rfl) (fun u6 => ?_)
    refine r_if_eq C 31 dX5_fits_21 (by decide) (fun h21 => ?_) (fun h21 => ?_)
    · refine r_aload_n C 1 dX5_fits_31 rfl ?_
      refine r_aload_n C 0 dX5_fits_32 rfl ?_
      refine r_callV0 C (o_X5_rowsBy_s1 l X) v_X5_rowsBy m_582 [.ref 84] [] (50) (Or.inl ⟨0, 4, _, TX5, 8, rfl, rfl, rfl⟩) (fun u7 => [.long u7]) (fun u7 => w_X5 X) rfl rfl rfl (Nat.le_of_ble_eq_true rfl) ⟨(Nat.le_of_ble_eq_true rfl), (Nat.le_of_ble_eq_true rfl)⟩ ⟨Nat.zero_le _, Nat.zero_le _⟩ dX5_fits_33 (fun _ => rfl) (fun _ => rfl) (fun _ => rfl) (fun u7 => ?_)
      refine r_lstore_n C [(3, .long u7), (2, .ref 84), (0, .ref 50), (1, .int a1)] dX5_fits_36 (Nat.le_of_ble_eq_true rfl) rfl ?_
      refine r_lload_n C 0 dX5_fits_37 rfl ?_
      refine r_ldc2 C (1000000000) dX5_fits_38 m_605 ?_
      refine r_lcmp C dX5_fits_41 ?_
      refine r_if_le C 54 dX5_fits_42 (by decide) (fun h42 => ?_) (fun h42 => ?_)
      · refine r_lload_n C 0 dX5_fits_54 rfl ?_
        refine r_l2i C dX5_fits_55 ?_
        exact r_reti (x := u7.toInt32) (rv := (fun u => some (.int u.1))) (hpE := (fun u => w_X5 u.2)) (t0 := (u7.toInt32, X)) C dX5_fits_56 (by rfl) (by rfl) (by rfl)
      · refine r_aload_n C 2 dX5_fits_45 rfl ?_
        refine r_ldc C (-1000007) dX5_fits_46 m_606 ?_
        refine r_callV0 C (o_X5_finding l X (-1000007 : Int32)) v_X5_finding m_207 [.int (-1000007 : Int32)] [] (50) (Or.inl ⟨0, 4, _, TX5, 8, rfl, rfl, rfl⟩) (fun u8 => [.int u8.1]) (fun u8 => w_X5 u8.2) rfl rfl rfl (Nat.le_of_ble_eq_true rfl) ⟨(Nat.le_of_ble_eq_true rfl), (Nat.le_of_ble_eq_true rfl)⟩ ⟨Nat.zero_le _, Nat.zero_le _⟩ dX5_fits_48 (fun _ => rfl) (fun _ => rfl) (fun _ => rfl) (fun u8 => ?_)
        refine r_goto C 56 dX5_fits_51 (by decide) ?_
        exact r_reti (x := u8.1) (rv := (fun u => some (.int u.1))) (hpE := (fun u => w_X5 u.2)) (t0 := (u8.1, u8.2)) C dX5_fits_56 (by rfl) (by rfl) (by rfl)
    · refine r_aload_n C 1 dX5_fits_24 rfl ?_
      refine r_ldc C (-1000006) dX5_fits_25 m_581 ?_
      refine r_callV0 C (o_X5_finding l X (-1000006 : Int32)) v_X5_finding m_207 [.int (-1000006 : Int32)] [] (50) (Or.inl ⟨0, 4, _, TX5, 8, rfl, rfl, rfl⟩) (fun u9 => [.int u9.1]) (fun u9 => w_X5 u9.2) rfl rfl rfl (Nat.le_of_ble_eq_true rfl) ⟨(Nat.le_of_ble_eq_true rfl), (Nat.le_of_ble_eq_true rfl)⟩ ⟨Nat.zero_le _, Nat.zero_le _⟩ dX5_fits_27 (fun _ => rfl) (fun _ => rfl) (fun _ => rfl) (fun u9 => ?_)
      exact r_reti (x := u9.1) (rv := (fun u => some (.int u.1))) (hpE := (fun u => w_X5 u.2)) (t0 := (u9.1, u9.2)) C dX5_fits_30 (by rfl) (by rfl) (by rfl)
  · refine r_astore_n C [(2, .ref 86), (0, .ref 50), (1, .int a1)] dX5_fits_5 (Nat.le_of_ble_eq_true rfl) rfl ?_
    refine r_aload_n C 0 dX5_fits_6 rfl ?_
    refine r_cut (if_pos (by decide)) ?_
    refine r_ifnonnull_t C 17 dX5_fits_7 (by decide) ?_
    refine r_aload_n C 0 dX5_fits_17 rfl ?_
    refine r_callV C (o_X2_isMissing l (X (6 + 2))) v_X2_isMissing m_577 [36, 37] [] [] (86) (Or.inl ⟨36, 1, _, TX2, 3, rfl, rfl, rfl⟩) (fun u10 => [.int u10]) (fun u10 => w_X5 X) rfl rfl rfl rfl rfl (Nat.le_of_ble_eq_true rfl) ⟨(Nat.le_of_ble_eq_true rfl), (Nat.le_of_ble_eq_true rfl)⟩ ⟨Nat.zero_le _, Nat.zero_le _⟩ dX5_fits_18 (fun _ => rfl) (fun _ => rfl) (fun _ => rfl) (fun u10 => ?_)
    refine r_if_eq C 31 dX5_fits_21 (by decide) (fun h21 => ?_) (fun h21 => ?_)
    · refine r_aload_n C 1 dX5_fits_31 rfl ?_
      refine r_aload_n C 0 dX5_fits_32 rfl ?_
      refine r_callV0 C (o_X5_rowsBy_s2 l X) v_X5_rowsBy m_582 [.ref 86] [] (50) (Or.inl ⟨0, 4, _, TX5, 8, rfl, rfl, rfl⟩) (fun u11 => [.long u11]) (fun u11 => w_X5 X) rfl rfl rfl (Nat.le_of_ble_eq_true rfl) ⟨(Nat.le_of_ble_eq_true rfl), (Nat.le_of_ble_eq_true rfl)⟩ ⟨Nat.zero_le _, Nat.zero_le _⟩ dX5_fits_33 (fun _ => rfl) (fun _ => rfl) (fun _ => rfl) (fun u11 => ?_)
      refine r_lstore_n C [(3, .long u11), (2, .ref 86), (0, .ref 50), (1, .int a1)] dX5_fits_36 (Nat.le_of_ble_eq_true rfl) rfl ?_
      refine r_lload_n C 0 dX5_fits_37 rfl ?_
      refine r_ldc2 C (1000000000) dX5_fits_38 m_605 ?_
      refine r_lcmp C dX5_fits_41 ?_
      refine r_if_le C 54 dX5_fits_42 (by decide) (fun h42 => ?_) (fun h42 => ?_)
      · refine r_lload_n C 0 dX5_fits_54 rfl ?_
        refine r_l2i C dX5_fits_55 ?_
        exact r_reti (x := u11.toInt32) (rv := (fun u => some (.int u.1))) (hpE := (fun u => w_X5 u.2)) (t0 := (u11.toInt32, X)) C dX5_fits_56 (by rfl) (by rfl) (by rfl)
      · refine r_aload_n C 2 dX5_fits_45 rfl ?_
        refine r_ldc C (-1000007) dX5_fits_46 m_606 ?_
        refine r_callV0 C (o_X5_finding l X (-1000007 : Int32)) v_X5_finding m_207 [.int (-1000007 : Int32)] [] (50) (Or.inl ⟨0, 4, _, TX5, 8, rfl, rfl, rfl⟩) (fun u12 => [.int u12.1]) (fun u12 => w_X5 u12.2) rfl rfl rfl (Nat.le_of_ble_eq_true rfl) ⟨(Nat.le_of_ble_eq_true rfl), (Nat.le_of_ble_eq_true rfl)⟩ ⟨Nat.zero_le _, Nat.zero_le _⟩ dX5_fits_48 (fun _ => rfl) (fun _ => rfl) (fun _ => rfl) (fun u12 => ?_)
        refine r_goto C 56 dX5_fits_51 (by decide) ?_
        exact r_reti (x := u12.1) (rv := (fun u => some (.int u.1))) (hpE := (fun u => w_X5 u.2)) (t0 := (u12.1, u12.2)) C dX5_fits_56 (by rfl) (by rfl) (by rfl)
    · refine r_aload_n C 1 dX5_fits_24 rfl ?_
      refine r_ldc C (-1000006) dX5_fits_25 m_581 ?_
      refine r_callV0 C (o_X5_finding l X (-1000006 : Int32)) v_X5_finding m_207 [.int (-1000006 : Int32)] [] (50) (Or.inl ⟨0, 4, _, TX5, 8, rfl, rfl, rfl⟩) (fun u13 => [.int u13.1]) (fun u13 => w_X5 u13.2) rfl rfl rfl (Nat.le_of_ble_eq_true rfl) ⟨(Nat.le_of_ble_eq_true rfl), (Nat.le_of_ble_eq_true rfl)⟩ ⟨Nat.zero_le _, Nat.zero_le _⟩ dX5_fits_27 (fun _ => rfl) (fun _ => rfl) (fun _ => rfl) (fun u13 => ?_)
      exact r_reti (x := u13.1) (rv := (fun u => some (.int u.1))) (hpE := (fun u => w_X5 u.2)) (t0 := (u13.1, u13.2)) C dX5_fits_30 (by rfl) (by rfl) (by rfl)
  · refine r_astore_n C [(2, .ref 88), (0, .ref 50), (1, .int a1)] dX5_fits_5 (Nat.le_of_ble_eq_true rfl) rfl ?_
    refine r_aload_n C 0 dX5_fits_6 rfl ?_
    refine r_cut (if_pos (by decide)) ?_
    refine r_ifnonnull_t C 17 dX5_fits_7 (by decide) ?_
    refine r_aload_n C 0 dX5_fits_17 rfl ?_
    refine r_callV C (o_X2_isMissing l (X (6 + 3))) v_X2_isMissing m_577 [38, 39] [] [] (88) (Or.inl ⟨38, 1, _, TX2, 3, rfl, rfl, rfl⟩) (fun u14 => [.int u14]) (fun u14 => w_X5 X) rfl rfl rfl rfl rfl (Nat.le_of_ble_eq_true rfl) ⟨(Nat.le_of_ble_eq_true rfl), (Nat.le_of_ble_eq_true rfl)⟩ ⟨Nat.zero_le _, Nat.zero_le _⟩ dX5_fits_18 (fun _ => rfl) (fun _ => rfl) (fun _ => rfl) (fun u14 => ?_)
    refine r_if_eq C 31 dX5_fits_21 (by decide) (fun h21 => ?_) (fun h21 => ?_)
    · refine r_aload_n C 1 dX5_fits_31 rfl ?_
      refine r_aload_n C 0 dX5_fits_32 rfl ?_
      refine r_callV0 C (o_X5_rowsBy_s3 l X) v_X5_rowsBy m_582 [.ref 88] [] (50) (Or.inl ⟨0, 4, _, TX5, 8, rfl, rfl, rfl⟩) (fun u15 => [.long u15]) (fun u15 => w_X5 X) rfl rfl rfl (Nat.le_of_ble_eq_true rfl) ⟨(Nat.le_of_ble_eq_true rfl), (Nat.le_of_ble_eq_true rfl)⟩ ⟨Nat.zero_le _, Nat.zero_le _⟩ dX5_fits_33 (fun _ => rfl) (fun _ => rfl) (fun _ => rfl) (fun u15 => ?_)
      refine r_lstore_n C [(3, .long u15), (2, .ref 88), (0, .ref 50), (1, .int a1)] dX5_fits_36 (Nat.le_of_ble_eq_true rfl) rfl ?_
      refine r_lload_n C 0 dX5_fits_37 rfl ?_
      refine r_ldc2 C (1000000000) dX5_fits_38 m_605 ?_
      refine r_lcmp C dX5_fits_41 ?_
      refine r_if_le C 54 dX5_fits_42 (by decide) (fun h42 => ?_) (fun h42 => ?_)
      · refine r_lload_n C 0 dX5_fits_54 rfl ?_
        refine r_l2i C dX5_fits_55 ?_
        exact r_reti (x := u15.toInt32) (rv := (fun u => some (.int u.1))) (hpE := (fun u => w_X5 u.2)) (t0 := (u15.toInt32, X)) C dX5_fits_56 (by rfl) (by rfl) (by rfl)
      · refine r_aload_n C 2 dX5_fits_45 rfl ?_
        refine r_ldc C (-1000007) dX5_fits_46 m_606 ?_
        refine r_callV0 C (o_X5_finding l X (-1000007 : Int32)) v_X5_finding m_207 [.int (-1000007 : Int32)] [] (50) (Or.inl ⟨0, 4, _, TX5, 8, rfl, rfl, rfl⟩) (fun u16 => [.int u16.1]) (fun u16 => w_X5 u16.2) rfl rfl rfl (Nat.le_of_ble_eq_true rfl) ⟨(Nat.le_of_ble_eq_true rfl), (Nat.le_of_ble_eq_true rfl)⟩ ⟨Nat.zero_le _, Nat.zero_le _⟩ dX5_fits_48 (fun _ => rfl) (fun _ => rfl) (fun _ => rfl) (fun u16 => ?_)
        refine r_goto C 56 dX5_fits_51 (by decide) ?_
        exact r_reti (x := u16.1) (rv := (fun u => some (.int u.1))) (hpE := (fun u => w_X5 u.2)) (t0 := (u16.1, u16.2)) C dX5_fits_56 (by rfl) (by rfl) (by rfl)
    · refine r_aload_n C 1 dX5_fits_24 rfl ?_
      refine r_ldc C (-1000006) dX5_fits_25 m_581 ?_
      refine r_callV0 C (o_X5_finding l X (-1000006 : Int32)) v_X5_finding m_207 [.int (-1000006 : Int32)] [] (50) (Or.inl ⟨0, 4, _, TX5, 8, rfl, rfl, rfl⟩) (fun u17 => [.int u17.1]) (fun u17 => w_X5 u17.2) rfl rfl rfl (Nat.le_of_ble_eq_true rfl) ⟨(Nat.le_of_ble_eq_true rfl), (Nat.le_of_ble_eq_true rfl)⟩ ⟨Nat.zero_le _, Nat.zero_le _⟩ dX5_fits_27 (fun _ => rfl) (fun _ => rfl) (fun _ => rfl) (fun u17 => ?_)
      exact r_reti (x := u17.1) (rv := (fun u => some (.int u.1))) (hpE := (fun u => w_X5 u.2)) (t0 := (u17.1, u17.2)) C dX5_fits_30 (by rfl) (by rfl) (by rfl)
  · refine r_astore_nN C [(2, .null), (0, .ref 50), (1, .int a1)] dX5_fits_5 (Nat.le_of_ble_eq_true rfl) rfl ?_
    refine r_aload_nN C 0 dX5_fits_6 rfl ?_
    refine r_cut (if_neg (by omega)) ?_
    refine r_ifnonnull_f C dX5_fits_7 ?_
    refine r_aload_n C 1 dX5_fits_10 rfl ?_
    refine r_ldc C (-1000001) dX5_fits_11 m_206 ?_
    refine r_callV0 C (o_X5_finding l X (-1000001 : Int32)) v_X5_finding m_207 [.int (-1000001 : Int32)] [] (50) (Or.inl ⟨0, 4, _, TX5, 8, rfl, rfl, rfl⟩) (fun u18 => [.int u18.1]) (fun u18 => w_X5 u18.2) rfl rfl rfl (Nat.le_of_ble_eq_true rfl) ⟨(Nat.le_of_ble_eq_true rfl), (Nat.le_of_ble_eq_true rfl)⟩ ⟨Nat.zero_le _, Nat.zero_le _⟩ dX5_fits_13 (fun _ => rfl) (fun _ => rfl) (fun _ => rfl) (fun u18 => ?_)
    exact r_reti (x := u18.1) (rv := (fun u => some (.int u.1))) (hpE := (fun u => w_X5 u.2)) (t0 := (u18.1, u18.2)) C dX5_fits_16 (by rfl) (by rfl) (by rfl)
set_option maxRecDepth 100000 in
set_option maxHeartbeats 4000000 in
theorem k_X5_rightsBy_5_s0 {p : Program} {l : Launch} {e : Env} {s : State} {m : MethodId} {args : Array Value} {below : List Frame} {meth : Method} {c : Code} {dC : Nat → ClassId} {dI : Nat → Nat → Nat} {dA : Nat → ClassId} {A : Nat → Prop} {α : Nat → Nat} {t : Int32} (C : q_Cx p s m args meth c cX5_rightsBy 5 RX5 (some .int) "rightsBy" dC dI dA A α) (X : (Nat → q_St)) (a2 : Int32)  : ∀ (n : Nat) (x2 : Int32) (x3 : Int32) (x4 : Int32), q_S p l e (q_rm 3 68) s m args below meth c 5 dC dI dA A α (MQ below (q_Q α dC dI dA A ((fun u => some (.int u)) t) ((fun u => w_X5 X) t)) args s 0 0 A) 0 0 (f_X5_rightsBy_5 X 0 a2  n x2 x3 x4) t 5 [(0, .ref 50), (1, .ref 82), (2, .int x2), (3, .int x3), (4, .int x4)] [] (w_X5 X) := by
  intro n
  induction n with
  | zero =>
    intro x2 x3 x4
    exact r_cut (f_X5_rightsBy_5.eq_1 _ _ _ _ _ _) (r_none True.intro)
  | succ n ih =>
    intro x2 x3 x4
    refine r_cut (f_X5_rightsBy_5.eq_2 _ _ _ _ _ _ _) ?_
    refine r_iload C 4 dX5_rightsBy_5 rfl ?_
    refine r_aload_n C 0 dX5_rightsBy_7 rfl ?_
    refine r_get C 0 0 dX5_rightsBy_8 K_X5 rfl rfl (Nat.le_of_ble_eq_true rfl) rfl m_174 rfl ?_
    refine r_get C 1 0 dX5_rightsBy_11 K_X0 rfl rfl (Nat.le_of_ble_eq_true rfl) rfl m_30 rfl ?_
    refine r_icmp_ge C 47 dX5_rightsBy_14 (by decide) (fun h14 => ?_) (fun h14 => ?_)
    · refine r_iload_n C 3 dX5_rightsBy_47 rfl ?_
      refine r_iconst C (1) dX5_rightsBy_48 rfl ?_
      refine r_ishr C dX5_rightsBy_49 ?_
      exact r_reti (x := (x3 >>> ((1 : Int32) &&& 31))) (rv := (fun u => some (.int u))) (hpE := (fun u => w_X5 X)) (t0 := (x3 >>> ((1 : Int32) &&& 31))) C dX5_rightsBy_50 (by rfl) (by rfl) (by rfl)
    · refine r_aload_n C 0 dX5_rightsBy_17 rfl ?_
      refine r_aload_n C 1 dX5_rightsBy_18 rfl ?_
      refine r_iload_n C 2 dX5_rightsBy_19 rfl ?_
      refine r_iload C 4 dX5_rightsBy_20 rfl ?_
      refine r_callV0 C (o_X5_isDrawn_s0 l X x2 x4) v_X5_isDrawn m_586 [.ref 82, .int x2, .int x4] [] (50) (Or.inl ⟨0, 4, _, TX5, 8, rfl, rfl, rfl⟩) (fun u1 => [.int u1]) (fun u1 => w_X5 X) rfl rfl rfl (Nat.le_of_ble_eq_true rfl) ⟨(Nat.le_of_ble_eq_true rfl), (Nat.le_of_ble_eq_true rfl)⟩ ⟨Nat.zero_le _, Nat.zero_le _⟩ dX5_rightsBy_22 (fun _ => rfl) (fun _ => rfl) (fun _ => rfl) (fun u1 => ?_)
      refine r_if_eq C 41 dX5_rightsBy_25 (by decide) (fun h25 => ?_) (fun h25 => ?_)
      · refine r_iinc C 4 (x4 + 1) [(4, .int (x4 + 1)), (0, .ref 50), (1, .ref 82), (2, .int x2), (3, .int x3)] dX5_rightsBy_41 rfl rfl (Nat.le_of_ble_eq_true rfl) rfl ?_
        refine r_goto C 5 dX5_rightsBy_44 (by decide) ?_
        refine r_lv [(0, .ref 50), (1, .ref 82), (2, .int x2), (3, .int x3), (4, .int (x4 + 1))] [1, 2, 3, 4, 0] rfl ?_
        exact ih x2 x3 (x4 + 1)
      · refine r_iload_n C 3 dX5_rightsBy_28 rfl ?_
        refine r_aload_n C 0 dX5_rightsBy_29 rfl ?_
        refine r_get C 0 0 dX5_rightsBy_30 K_X5 rfl rfl (Nat.le_of_ble_eq_true rfl) rfl m_174 rfl ?_
        refine r_iload_n C 2 dX5_rightsBy_33 rfl ?_
        refine r_iload C 4 dX5_rightsBy_34 rfl ?_
        refine r_callV C (o_X0_rightsBeside l (X 1) x2 x4) v_X0_rightsBeside m_599 [1, 2, 3, 4, 5, 6, 7] [.int x2, .int x4] [.int x3] (51) (Or.inl ⟨1, 0, _, TX0, 16, rfl, rfl, rfl⟩) (fun u2 => [.int u2, .int x3]) (fun u2 => w_X5 X) rfl rfl rfl rfl rfl (Nat.le_of_ble_eq_true rfl) ⟨(Nat.le_of_ble_eq_true rfl), (Nat.le_of_ble_eq_true rfl)⟩ ⟨Nat.zero_le _, Nat.zero_le _⟩ dX5_rightsBy_36 (fun _ => rfl) (fun _ => rfl) (fun _ => rfl) (fun u2 => ?_)
        refine r_ior C dX5_rightsBy_39 ?_
        refine r_istore_n C [(3, .int (x3 ||| u2)), (0, .ref 50), (1, .ref 82), (2, .int x2), (4, .int x4)] dX5_rightsBy_40 (Nat.le_of_ble_eq_true rfl) rfl ?_
        refine r_iinc C 4 (x4 + 1) [(4, .int (x4 + 1)), (3, .int (x3 ||| u2)), (0, .ref 50), (1, .ref 82), (2, .int x2)] dX5_rightsBy_41 rfl rfl (Nat.le_of_ble_eq_true rfl) rfl ?_
        refine r_goto C 5 dX5_rightsBy_44 (by decide) ?_
        refine r_lv [(0, .ref 50), (1, .ref 82), (2, .int x2), (3, .int (x3 ||| u2)), (4, .int (x4 + 1))] [2, 3, 4, 1, 0] rfl ?_
        exact ih x2 (x3 ||| u2) (x4 + 1)
set_option maxRecDepth 100000 in
set_option maxHeartbeats 4000000 in
theorem o_X5_rightsBy_s0 (l : Launch) (X : (Nat → q_St)) (a2 : Int32) : q_Ok l yX5_rightsBy cX5_rightsBy 5 (some .int) 3 68 [.ref 50, .ref 82, .int a2] (w_X5 X) (f_X5_rightsBy X 0 a2) (fun u => some (.int u)) (fun u => w_X5 X) := by
  refine q_enter (by decide +kernel) (Nat.le_of_ble_eq_true rfl) (fun t p e s m args below meth c dC dI dA A α C => ?_)
  refine r_cut (f_X5_rightsBy.eq_1 _ _ _) ?_
  show q_S p l e (q_rm 3 68) s m args below meth c 5 dC dI dA A α (MQ below (q_Q α dC dI dA A ((fun u => some (.int u)) t) ((fun u => w_X5 X) t)) args s 0 0 A) 0 0 _ t 0 [(0, .ref 50), (1, .ref 82), (2, .int a2)] [] (w_X5 X)
  refine r_iconst C (0) dX5_rightsBy_0 rfl ?_
  refine r_istore_n C [(3, .int (0 : Int32)), (0, .ref 50), (1, .ref 82), (2, .int a2)] dX5_rightsBy_1 (Nat.le_of_ble_eq_true rfl) rfl ?_
  refine r_iconst C (-1) dX5_rightsBy_2 rfl ?_
  refine r_istore C [(4, .int (-1 : Int32)), (3, .int (0 : Int32)), (0, .ref 50), (1, .ref 82), (2, .int a2)] dX5_rightsBy_3 (Nat.le_of_ble_eq_true rfl) rfl ?_
  refine r_lv [(0, .ref 50), (1, .ref 82), (2, .int a2), (3, .int (0 : Int32)), (4, .int (-1 : Int32))] [2, 3, 4, 1, 0] rfl ?_
  exact k_X5_rightsBy_5_s0 C X a2   q_N a2 (0 : Int32) (-1 : Int32)
set_option maxRecDepth 100000 in
set_option maxHeartbeats 4000000 in
theorem k_X5_rightsBy_5_s1 {p : Program} {l : Launch} {e : Env} {s : State} {m : MethodId} {args : Array Value} {below : List Frame} {meth : Method} {c : Code} {dC : Nat → ClassId} {dI : Nat → Nat → Nat} {dA : Nat → ClassId} {A : Nat → Prop} {α : Nat → Nat} {t : Int32} (C : q_Cx p s m args meth c cX5_rightsBy 5 RX5 (some .int) "rightsBy" dC dI dA A α) (X : (Nat → q_St)) (a2 : Int32)  : ∀ (n : Nat) (x2 : Int32) (x3 : Int32) (x4 : Int32), q_S p l e (q_rm 3 68) s m args below meth c 5 dC dI dA A α (MQ below (q_Q α dC dI dA A ((fun u => some (.int u)) t) ((fun u => w_X5 X) t)) args s 0 0 A) 0 0 (f_X5_rightsBy_5 X 1 a2  n x2 x3 x4) t 5 [(0, .ref 50), (1, .ref 84), (2, .int x2), (3, .int x3), (4, .int x4)] [] (w_X5 X) := by
  intro n
  induction n with
  | zero =>
    intro x2 x3 x4
    exact r_cut (f_X5_rightsBy_5.eq_1 _ _ _ _ _ _) (r_none True.intro)
  | succ n ih =>
    intro x2 x3 x4
    refine r_cut (f_X5_rightsBy_5.eq_2 _ _ _ _ _ _ _) ?_
    refine r_iload C 4 dX5_rightsBy_5 rfl ?_
    refine r_aload_n C 0 dX5_rightsBy_7 rfl ?_
    refine r_get C 0 0 dX5_rightsBy_8 K_X5 rfl rfl (Nat.le_of_ble_eq_true rfl) rfl m_174 rfl ?_
    refine r_get C 1 0 dX5_rightsBy_11 K_X0 rfl rfl (Nat.le_of_ble_eq_true rfl) rfl m_30 rfl ?_
    refine r_icmp_ge C 47 dX5_rightsBy_14 (by decide) (fun h14 => ?_) (fun h14 => ?_)
    · refine r_iload_n C 3 dX5_rightsBy_47 rfl ?_
      refine r_iconst C (1) dX5_rightsBy_48 rfl ?_
      refine r_ishr C dX5_rightsBy_49 ?_
      exact r_reti (x := (x3 >>> ((1 : Int32) &&& 31))) (rv := (fun u => some (.int u))) (hpE := (fun u => w_X5 X)) (t0 := (x3 >>> ((1 : Int32) &&& 31))) C dX5_rightsBy_50 (by rfl) (by rfl) (by rfl)
    · refine r_aload_n C 0 dX5_rightsBy_17 rfl ?_
      refine r_aload_n C 1 dX5_rightsBy_18 rfl ?_
      refine r_iload_n C 2 dX5_rightsBy_19 rfl ?_
      refine r_iload C 4 dX5_rightsBy_20 rfl ?_
      refine r_callV0 C (o_X5_isDrawn_s1 l X x2 x4) v_X5_isDrawn m_586 [.ref 84, .int x2, .int x4] [] (50) (Or.inl ⟨0, 4, _, TX5, 8, rfl, rfl, rfl⟩) (fun u1 => [.int u1]) (fun u1 => w_X5 X) rfl rfl rfl (Nat.le_of_ble_eq_true rfl) ⟨(Nat.le_of_ble_eq_true rfl), (Nat.le_of_ble_eq_true rfl)⟩ ⟨Nat.zero_le _, Nat.zero_le _⟩ dX5_rightsBy_22 (fun _ => rfl) (fun _ => rfl) (fun _ => rfl) (fun u1 => ?_)
      refine r_if_eq C 41 dX5_rightsBy_25 (by decide) (fun h25 => ?_) (fun h25 => ?_)
      · refine r_iinc C 4 (x4 + 1) [(4, .int (x4 + 1)), (0, .ref 50), (1, .ref 84), (2, .int x2), (3, .int x3)] dX5_rightsBy_41 rfl rfl (Nat.le_of_ble_eq_true rfl) rfl ?_
        refine r_goto C 5 dX5_rightsBy_44 (by decide) ?_
        refine r_lv [(0, .ref 50), (1, .ref 84), (2, .int x2), (3, .int x3), (4, .int (x4 + 1))] [1, 2, 3, 4, 0] rfl ?_
        exact ih x2 x3 (x4 + 1)
      · refine r_iload_n C 3 dX5_rightsBy_28 rfl ?_
        refine r_aload_n C 0 dX5_rightsBy_29 rfl ?_
        refine r_get C 0 0 dX5_rightsBy_30 K_X5 rfl rfl (Nat.le_of_ble_eq_true rfl) rfl m_174 rfl ?_
        refine r_iload_n C 2 dX5_rightsBy_33 rfl ?_
        refine r_iload C 4 dX5_rightsBy_34 rfl ?_
        refine r_callV C (o_X0_rightsBeside l (X 1) x2 x4) v_X0_rightsBeside m_599 [1, 2, 3, 4, 5, 6, 7] [.int x2, .int x4] [.int x3] (51) (Or.inl ⟨1, 0, _, TX0, 16, rfl, rfl, rfl⟩) (fun u2 => [.int u2, .int x3]) (fun u2 => w_X5 X) rfl rfl rfl rfl rfl (Nat.le_of_ble_eq_true rfl) ⟨(Nat.le_of_ble_eq_true rfl), (Nat.le_of_ble_eq_true rfl)⟩ ⟨Nat.zero_le _, Nat.zero_le _⟩ dX5_rightsBy_36 (fun _ => rfl) (fun _ => rfl) (fun _ => rfl) (fun u2 => ?_)
        refine r_ior C dX5_rightsBy_39 ?_
        refine r_istore_n C [(3, .int (x3 ||| u2)), (0, .ref 50), (1, .ref 84), (2, .int x2), (4, .int x4)] dX5_rightsBy_40 (Nat.le_of_ble_eq_true rfl) rfl ?_
        refine r_iinc C 4 (x4 + 1) [(4, .int (x4 + 1)), (3, .int (x3 ||| u2)), (0, .ref 50), (1, .ref 84), (2, .int x2)] dX5_rightsBy_41 rfl rfl (Nat.le_of_ble_eq_true rfl) rfl ?_
        refine r_goto C 5 dX5_rightsBy_44 (by decide) ?_
        refine r_lv [(0, .ref 50), (1, .ref 84), (2, .int x2), (3, .int (x3 ||| u2)), (4, .int (x4 + 1))] [2, 3, 4, 1, 0] rfl ?_
        exact ih x2 (x3 ||| u2) (x4 + 1)
set_option maxRecDepth 100000 in
set_option maxHeartbeats 4000000 in
theorem o_X5_rightsBy_s1 (l : Launch) (X : (Nat → q_St)) (a2 : Int32) : q_Ok l yX5_rightsBy cX5_rightsBy 5 (some .int) 3 68 [.ref 50, .ref 84, .int a2] (w_X5 X) (f_X5_rightsBy X 1 a2) (fun u => some (.int u)) (fun u => w_X5 X) := by
  refine q_enter (by decide +kernel) (Nat.le_of_ble_eq_true rfl) (fun t p e s m args below meth c dC dI dA A α C => ?_)
  refine r_cut (f_X5_rightsBy.eq_1 _ _ _) ?_
  show q_S p l e (q_rm 3 68) s m args below meth c 5 dC dI dA A α (MQ below (q_Q α dC dI dA A ((fun u => some (.int u)) t) ((fun u => w_X5 X) t)) args s 0 0 A) 0 0 _ t 0 [(0, .ref 50), (1, .ref 84), (2, .int a2)] [] (w_X5 X)
  refine r_iconst C (0) dX5_rightsBy_0 rfl ?_
  refine r_istore_n C [(3, .int (0 : Int32)), (0, .ref 50), (1, .ref 84), (2, .int a2)] dX5_rightsBy_1 (Nat.le_of_ble_eq_true rfl) rfl ?_
  refine r_iconst C (-1) dX5_rightsBy_2 rfl ?_
  refine r_istore C [(4, .int (-1 : Int32)), (3, .int (0 : Int32)), (0, .ref 50), (1, .ref 84), (2, .int a2)] dX5_rightsBy_3 (Nat.le_of_ble_eq_true rfl) rfl ?_
  refine r_lv [(0, .ref 50), (1, .ref 84), (2, .int a2), (3, .int (0 : Int32)), (4, .int (-1 : Int32))] [2, 3, 4, 1, 0] rfl ?_
  exact k_X5_rightsBy_5_s1 C X a2   q_N a2 (0 : Int32) (-1 : Int32)
set_option maxRecDepth 100000 in
set_option maxHeartbeats 4000000 in
theorem k_X5_rightsBy_5_s2 {p : Program} {l : Launch} {e : Env} {s : State} {m : MethodId} {args : Array Value} {below : List Frame} {meth : Method} {c : Code} {dC : Nat → ClassId} {dI : Nat → Nat → Nat} {dA : Nat → ClassId} {A : Nat → Prop} {α : Nat → Nat} {t : Int32} (C : q_Cx p s m args meth c cX5_rightsBy 5 RX5 (some .int) "rightsBy" dC dI dA A α) (X : (Nat → q_St)) (a2 : Int32)  : ∀ (n : Nat) (x2 : Int32) (x3 : Int32) (x4 : Int32), q_S p l e (q_rm 3 68) s m args below meth c 5 dC dI dA A α (MQ below (q_Q α dC dI dA A ((fun u => some (.int u)) t) ((fun u => w_X5 X) t)) args s 0 0 A) 0 0 (f_X5_rightsBy_5 X 2 a2  n x2 x3 x4) t 5 [(0, .ref 50), (1, .ref 86), (2, .int x2), (3, .int x3), (4, .int x4)] [] (w_X5 X) := by
  intro n
  induction n with
  | zero =>
    intro x2 x3 x4
    exact r_cut (f_X5_rightsBy_5.eq_1 _ _ _ _ _ _) (r_none True.intro)
  | succ n ih =>
    intro x2 x3 x4
    refine r_cut (f_X5_rightsBy_5.eq_2 _ _ _ _ _ _ _) ?_
    refine r_iload C 4 dX5_rightsBy_5 rfl ?_
    refine r_aload_n C 0 dX5_rightsBy_7 rfl ?_
    refine r_get C 0 0 dX5_rightsBy_8 K_X5 rfl rfl (Nat.le_of_ble_eq_true rfl) rfl m_174 rfl ?_
    refine r_get C 1 0 dX5_rightsBy_11 K_X0 rfl rfl (Nat.le_of_ble_eq_true rfl) rfl m_30 rfl ?_
    refine r_icmp_ge C 47 dX5_rightsBy_14 (by decide) (fun h14 => ?_) (fun h14 => ?_)
    · refine r_iload_n C 3 dX5_rightsBy_47 rfl ?_
      refine r_iconst C (1) dX5_rightsBy_48 rfl ?_
      refine r_ishr C dX5_rightsBy_49 ?_
      exact r_reti (x := (x3 >>> ((1 : Int32) &&& 31))) (rv := (fun u => some (.int u))) (hpE := (fun u => w_X5 X)) (t0 := (x3 >>> ((1 : Int32) &&& 31))) C dX5_rightsBy_50 (by rfl) (by rfl) (by rfl)
    · refine r_aload_n C 0 dX5_rightsBy_17 rfl ?_
      refine r_aload_n C 1 dX5_rightsBy_18 rfl ?_
      refine r_iload_n C 2 dX5_rightsBy_19 rfl ?_
      refine r_iload C 4 dX5_rightsBy_20 rfl ?_
      refine r_callV0 C (o_X5_isDrawn_s2 l X x2 x4) v_X5_isDrawn m_586 [.ref 86, .int x2, .int x4] [] (50) (Or.inl ⟨0, 4, _, TX5, 8, rfl, rfl, rfl⟩) (fun u1 => [.int u1]) (fun u1 => w_X5 X) rfl rfl rfl (Nat.le_of_ble_eq_true rfl) ⟨(Nat.le_of_ble_eq_true rfl), (Nat.le_of_ble_eq_true rfl)⟩ ⟨Nat.zero_le _, Nat.zero_le _⟩ dX5_rightsBy_22 (fun _ => rfl) (fun _ => rfl) (fun _ => rfl) (fun u1 => ?_)
      refine r_if_eq C 41 dX5_rightsBy_25 (by decide) (fun h25 => ?_) (fun h25 => ?_)
      · refine r_iinc C 4 (x4 + 1) [(4, .int (x4 + 1)), (0, .ref 50), (1, .ref 86), (2, .int x2), (3, .int x3)] dX5_rightsBy_41 rfl rfl (Nat.le_of_ble_eq_true rfl) rfl ?_
        refine r_goto C 5 dX5_rightsBy_44 (by decide) ?_
        refine r_lv [(0, .ref 50), (1, .ref 86), (2, .int x2), (3, .int x3), (4, .int (x4 + 1))] [1, 2, 3, 4, 0] rfl ?_
        exact ih x2 x3 (x4 + 1)
      · refine r_iload_n C 3 dX5_rightsBy_28 rfl ?_
        refine r_aload_n C 0 dX5_rightsBy_29 rfl ?_
        refine r_get C 0 0 dX5_rightsBy_30 K_X5 rfl rfl (Nat.le_of_ble_eq_true rfl) rfl m_174 rfl ?_
        refine r_iload_n C 2 dX5_rightsBy_33 rfl ?_
        refine r_iload C 4 dX5_rightsBy_34 rfl ?_
        refine r_callV C (o_X0_rightsBeside l (X 1) x2 x4) v_X0_rightsBeside m_599 [1, 2, 3, 4, 5, 6, 7] [.int x2, .int x4] [.int x3] (51) (Or.inl ⟨1, 0, _, TX0, 16, rfl, rfl, rfl⟩) (fun u2 => [.int u2, .int x3]) (fun u2 => w_X5 X) rfl rfl rfl rfl rfl (Nat.le_of_ble_eq_true rfl) ⟨(Nat.le_of_ble_eq_true rfl), (Nat.le_of_ble_eq_true rfl)⟩ ⟨Nat.zero_le _, Nat.zero_le _⟩ dX5_rightsBy_36 (fun _ => rfl) (fun _ => rfl) (fun _ => rfl) (fun u2 => ?_)
        refine r_ior C dX5_rightsBy_39 ?_
        refine r_istore_n C [(3, .int (x3 ||| u2)), (0, .ref 50), (1, .ref 86), (2, .int x2), (4, .int x4)] dX5_rightsBy_40 (Nat.le_of_ble_eq_true rfl) rfl ?_
        refine r_iinc C 4 (x4 + 1) [(4, .int (x4 + 1)), (3, .int (x3 ||| u2)), (0, .ref 50), (1, .ref 86), (2, .int x2)] dX5_rightsBy_41 rfl rfl (Nat.le_of_ble_eq_true rfl) rfl ?_
        refine r_goto C 5 dX5_rightsBy_44 (by decide) ?_
        refine r_lv [(0, .ref 50), (1, .ref 86), (2, .int x2), (3, .int (x3 ||| u2)), (4, .int (x4 + 1))] [2, 3, 4, 1, 0] rfl ?_
        exact ih x2 (x3 ||| u2) (x4 + 1)
set_option maxRecDepth 100000 in
set_option maxHeartbeats 4000000 in
theorem o_X5_rightsBy_s2 (l : Launch) (X : (Nat → q_St)) (a2 : Int32) : q_Ok l yX5_rightsBy cX5_rightsBy 5 (some .int) 3 68 [.ref 50, .ref 86, .int a2] (w_X5 X) (f_X5_rightsBy X 2 a2) (fun u => some (.int u)) (fun u => w_X5 X) := by
  refine q_enter (by decide +kernel) (Nat.le_of_ble_eq_true rfl) (fun t p e s m args below meth c dC dI dA A α C => ?_)
  refine r_cut (f_X5_rightsBy.eq_1 _ _ _) ?_
  show q_S p l e (q_rm 3 68) s m args below meth c 5 dC dI dA A α (MQ below (q_Q α dC dI dA A ((fun u => some (.int u)) t) ((fun u => w_X5 X) t)) args s 0 0 A) 0 0 _ t 0 [(0, .ref 50), (1, .ref 86), (2, .int a2)] [] (w_X5 X)
  refine r_iconst C (0) dX5_rightsBy_0 rfl ?_
  refine r_istore_n C [(3, .int (0 : Int32)), (0, .ref 50), (1, .ref 86), (2, .int a2)] dX5_rightsBy_1 (Nat.le_of_ble_eq_true rfl) rfl ?_
  refine r_iconst C (-1) dX5_rightsBy_2 rfl ?_
  refine r_istore C [(4, .int (-1 : Int32)), (3, .int (0 : Int32)), (0, .ref 50), (1, .ref 86), (2, .int a2)] dX5_rightsBy_3 (Nat.le_of_ble_eq_true rfl) rfl ?_
  refine r_lv [(0, .ref 50), (1, .ref 86), (2, .int a2), (3, .int (0 : Int32)), (4, .int (-1 : Int32))] [2, 3, 4, 1, 0] rfl ?_
  exact k_X5_rightsBy_5_s2 C X a2   q_N a2 (0 : Int32) (-1 : Int32)
set_option maxRecDepth 100000 in
set_option maxHeartbeats 4000000 in
theorem k_X5_rightsBy_5_s3 {p : Program} {l : Launch} {e : Env} {s : State} {m : MethodId} {args : Array Value} {below : List Frame} {meth : Method} {c : Code} {dC : Nat → ClassId} {dI : Nat → Nat → Nat} {dA : Nat → ClassId} {A : Nat → Prop} {α : Nat → Nat} {t : Int32} (C : q_Cx p s m args meth c cX5_rightsBy 5 RX5 (some .int) "rightsBy" dC dI dA A α) (X : (Nat → q_St)) (a2 : Int32)  : ∀ (n : Nat) (x2 : Int32) (x3 : Int32) (x4 : Int32), q_S p l e (q_rm 3 68) s m args below meth c 5 dC dI dA A α (MQ below (q_Q α dC dI dA A ((fun u => some (.int u)) t) ((fun u => w_X5 X) t)) args s 0 0 A) 0 0 (f_X5_rightsBy_5 X 3 a2  n x2 x3 x4) t 5 [(0, .ref 50), (1, .ref 88), (2, .int x2), (3, .int x3), (4, .int x4)] [] (w_X5 X) := by
  intro n
  induction n with
  | zero =>
    intro x2 x3 x4
    exact r_cut (f_X5_rightsBy_5.eq_1 _ _ _ _ _ _) (r_none True.intro)
  | succ n ih =>
    intro x2 x3 x4
    refine r_cut (f_X5_rightsBy_5.eq_2 _ _ _ _ _ _ _) ?_
    refine r_iload C 4 dX5_rightsBy_5 rfl ?_
    refine r_aload_n C 0 dX5_rightsBy_7 rfl ?_
    refine r_get C 0 0 dX5_rightsBy_8 K_X5 rfl rfl (Nat.le_of_ble_eq_true rfl) rfl m_174 rfl ?_
    refine r_get C 1 0 dX5_rightsBy_11 K_X0 rfl rfl (Nat.le_of_ble_eq_true rfl) rfl m_30 rfl ?_
    refine r_icmp_ge C 47 dX5_rightsBy_14 (by decide) (fun h14 => ?_) (fun h14 => ?_)
    · refine r_iload_n C 3 dX5_rightsBy_47 rfl ?_
      refine r_iconst C (1) dX5_rightsBy_48 rfl ?_
      refine r_ishr C dX5_rightsBy_49 ?_
      exact r_reti (x := (x3 >>> ((1 : Int32) &&& 31))) (rv := (fun u => some (.int u))) (hpE := (fun u => w_X5 X)) (t0 := (x3 >>> ((1 : Int32) &&& 31))) C dX5_rightsBy_50 (by rfl) (by rfl) (by rfl)
    · refine r_aload_n C 0 dX5_rightsBy_17 rfl ?_
      refine r_aload_n C 1 dX5_rightsBy_18 rfl ?_
      refine r_iload_n C 2 dX5_rightsBy_19 rfl ?_
      refine r_iload C 4 dX5_rightsBy_20 rfl ?_
      refine r_callV0 C (o_X5_isDrawn_s3 l X x2 x4) v_X5_isDrawn m_586 [.ref 88, .int x2, .int x4] [] (50) (Or.inl ⟨0, 4, _, TX5, 8, rfl, rfl, rfl⟩) (fun u1 => [.int u1]) (fun u1 => w_X5 X) rfl rfl rfl (Nat.le_of_ble_eq_true rfl) ⟨(Nat.le_of_ble_eq_true rfl), (Nat.le_of_ble_eq_true rfl)⟩ ⟨Nat.zero_le _, Nat.zero_le _⟩ dX5_rightsBy_22 (fun _ => rfl) (fun _ => rfl) (fun _ => rfl) (fun u1 => ?_)
      refine r_if_eq C 41 dX5_rightsBy_25 (by decide) (fun h25 => ?_) (fun h25 => ?_)
      · refine r_iinc C 4 (x4 + 1) [(4, .int (x4 + 1)), (0, .ref 50), (1, .ref 88), (2, .int x2), (3, .int x3)] dX5_rightsBy_41 rfl rfl (Nat.le_of_ble_eq_true rfl) rfl ?_
        refine r_goto C 5 dX5_rightsBy_44 (by decide) ?_
        refine r_lv [(0, .ref 50), (1, .ref 88), (2, .int x2), (3, .int x3), (4, .int (x4 + 1))] [1, 2, 3, 4, 0] rfl ?_
        exact ih x2 x3 (x4 + 1)
      · refine r_iload_n C 3 dX5_rightsBy_28 rfl ?_
        refine r_aload_n C 0 dX5_rightsBy_29 rfl ?_
        refine r_get C 0 0 dX5_rightsBy_30 K_X5 rfl rfl (Nat.le_of_ble_eq_true rfl) rfl m_174 rfl ?_
        refine r_iload_n C 2 dX5_rightsBy_33 rfl ?_
        refine r_iload C 4 dX5_rightsBy_34 rfl ?_
        refine r_callV C (o_X0_rightsBeside l (X 1) x2 x4) v_X0_rightsBeside m_599 [1, 2, 3, 4, 5, 6, 7] [.int x2, .int x4] [.int x3] (51) (Or.inl ⟨1, 0, _, TX0, 16, rfl, rfl, rfl⟩) (fun u2 => [.int u2, .int x3]) (fun u2 => w_X5 X) rfl rfl rfl rfl rfl (Nat.le_of_ble_eq_true rfl) ⟨(Nat.le_of_ble_eq_true rfl), (Nat.le_of_ble_eq_true rfl)⟩ ⟨Nat.zero_le _, Nat.zero_le _⟩ dX5_rightsBy_36 (fun _ => rfl) (fun _ => rfl) (fun _ => rfl) (fun u2 => ?_)
        refine r_ior C dX5_rightsBy_39 ?_
        refine r_istore_n C [(3, .int (x3 ||| u2)), (0, .ref 50), (1, .ref 88), (2, .int x2), (4, .int x4)] dX5_rightsBy_40 (Nat.le_of_ble_eq_true rfl) rfl ?_
        refine r_iinc C 4 (x4 + 1) [(4, .int (x4 + 1)), (3, .int (x3 ||| u2)), (0, .ref 50), (1, .ref 88), (2, .int x2)] dX5_rightsBy_41 rfl rfl (Nat.le_of_ble_eq_true rfl) rfl ?_
        refine r_goto C 5 dX5_rightsBy_44 (by decide) ?_
        refine r_lv [(0, .ref 50), (1, .ref 88), (2, .int x2), (3, .int (x3 ||| u2)), (4, .int (x4 + 1))] [2, 3, 4, 1, 0] rfl ?_
        exact ih x2 (x3 ||| u2) (x4 + 1)
set_option maxRecDepth 100000 in
set_option maxHeartbeats 4000000 in
theorem o_X5_rightsBy_s3 (l : Launch) (X : (Nat → q_St)) (a2 : Int32) : q_Ok l yX5_rightsBy cX5_rightsBy 5 (some .int) 3 68 [.ref 50, .ref 88, .int a2] (w_X5 X) (f_X5_rightsBy X 3 a2) (fun u => some (.int u)) (fun u => w_X5 X) := by
  refine q_enter (by decide +kernel) (Nat.le_of_ble_eq_true rfl) (fun t p e s m args below meth c dC dI dA A α C => ?_)
  refine r_cut (f_X5_rightsBy.eq_1 _ _ _) ?_
  show q_S p l e (q_rm 3 68) s m args below meth c 5 dC dI dA A α (MQ below (q_Q α dC dI dA A ((fun u => some (.int u)) t) ((fun u => w_X5 X) t)) args s 0 0 A) 0 0 _ t 0 [(0, .ref 50), (1, .ref 88), (2, .int a2)] [] (w_X5 X)
  refine r_iconst C (0) dX5_rightsBy_0 rfl ?_
  refine r_istore_n C [(3, .int (0 : Int32)), (0, .ref 50), (1, .ref 88), (2, .int a2)] dX5_rightsBy_1 (Nat.le_of_ble_eq_true rfl) rfl ?_
  refine r_iconst C (-1) dX5_rightsBy_2 rfl ?_
  refine r_istore C [(4, .int (-1 : Int32)), (3, .int (0 : Int32)), (0, .ref 50), (1, .ref 88), (2, .int a2)] dX5_rightsBy_3 (Nat.le_of_ble_eq_true rfl) rfl ?_
  refine r_lv [(0, .ref 50), (1, .ref 88), (2, .int a2), (3, .int (0 : Int32)), (4, .int (-1 : Int32))] [2, 3, 4, 1, 0] rfl ?_
  exact k_X5_rightsBy_5_s3 C X a2   q_N a2 (0 : Int32) (-1 : Int32)
