set_option maxRecDepth 100000 in
set_option maxHeartbeats 4000000 in
theorem o_X5_finding (l : Launch) (X : (Nat → q_St)) (a1 : Int32) : q_Ok l yX5_finding cX5_finding 3 (some .int) 0 0 [.ref 50, .int a1] (w_X5 X) (f_X5_finding X a1) (fun u => some (.int u.1)) (fun u => w_X5 u.2) := by
  refine q_enter (by decide +kernel) (Nat.le_of_ble_eq_true rfl) (fun t p e s m args below meth c dC dI dA A α C => ?_)
  refine r_cut (f_X5_finding.eq_1 _ _) ?_
  show q_S p l e (q_rm 0 0) s m args below meth c 3 dC dI dA A α (MQ below (q_Q α dC dI dA A ((fun u => some (.int u.1)) t) ((fun u => w_X5 u.2) t)) args s 0 0 A) 0 0 _ t 0 [(0, .ref 50), (1, .int a1)] [] (w_X5 X)
  refine r_ldc C (-1000001) dX5_finding_0 m_206 ?_
  refine r_iload_n C 1 dX5_finding_2 rfl ?_
  refine r_isub C dX5_finding_3 ?_
  refine r_istore_n C [(2, .int ((-1000001 : Int32) - a1)), (0, .ref 50), (1, .int a1)] dX5_finding_4 (Nat.le_of_ble_eq_true rfl) rfl ?_
  refine r_iload_n C 0 dX5_finding_5 rfl ?_
  refine r_if_lt C 28 dX5_finding_6 (by decide) (fun h6 => ?_) (fun h6 => ?_)
  · refine r_iload_n C 2 dX5_finding_28 rfl ?_
    exact r_reti (x := a1) (rv := (fun u => some (.int u.1))) (hpE := (fun u => w_X5 u.2)) (t0 := (a1, X)) C dX5_finding_29 (by rfl) (by rfl) (by rfl)
  · refine r_iload_n C 0 dX5_finding_9 rfl ?_
    refine r_aload_n C 1 dX5_finding_10 rfl ?_
    refine r_get C 0 6 dX5_finding_11 K_X5 rfl rfl (Nat.le_of_ble_eq_true rfl) rfl m_180 rfl ?_
    refine r_alen C 40 (7) dX5_finding_14 rfl rfl rfl rfl ?_
    refine r_icmp_ge C 28 dX5_finding_15 (by decide) (fun h15 => ?_) (fun h15 => ?_)
    · refine r_iload_n C 2 dX5_finding_28 rfl ?_
      exact r_reti (x := a1) (rv := (fun u => some (.int u.1))) (hpE := (fun u => w_X5 u.2)) (t0 := (a1, X)) C dX5_finding_29 (by rfl) (by rfl) (by rfl)
    · refine r_aload_n C 1 dX5_finding_18 rfl ?_
      refine r_get C 0 6 dX5_finding_19 K_X5 rfl rfl (Nat.le_of_ble_eq_true rfl) rfl m_180 rfl ?_
      refine r_iload_n C 0 dX5_finding_22 rfl ?_
      refine r_dup2 C dX5_finding_23 rfl rfl ?_
      refine r_iald C 40 dX5_finding_24 rfl rfl (fun hi24 => ?_)
      refine r_iconst C (1) dX5_finding_25 rfl ?_
      refine r_iadd C dX5_finding_26 ?_
      refine r_iast C 40 _ dX5_finding_27 rfl rfl rfl (fun hi27 => ?_)
      refine r_iload_n C 2 dX5_finding_28 rfl ?_
      exact r_reti (x := a1) (rv := (fun u => some (.int u.1))) (hpE := (fun u => w_X5 u.2)) (t0 := (a1, (va_up X 0 ((X 0).1, (va_up (X 0).2 6 (upd ((X 0).2 6) ((-1000001 : Int32) - a1).toNatClampNeg (((X 0).2 6 ((-1000001 : Int32) - a1).toNatClampNeg) + (1 : Int32)))))))) C dX5_finding_29 (by rfl) (by rfl) (by rfl)
set_option maxRecDepth 100000 in
set_option maxHeartbeats 4000000 in
theorem o_X5_doll (l : Launch) (X : (Nat → q_St)) (a1 : Int32) : q_Ok l yX5_doll cX5_doll 2 (some .int) 1 22 [.ref 50, .int a1] (w_X5 X) (f_X5_doll X a1) (fun u => some (.int u.1)) (fun u => w_X5 u.2) := by
  refine q_enter (by decide +kernel) (Nat.le_of_ble_eq_true rfl) (fun t p e s m args below meth c dC dI dA A α C => ?_)
  refine r_cut (f_X5_doll.eq_1 _ _) ?_
  show q_S p l e (q_rm 1 22) s m args below meth c 2 dC dI dA A α (MQ below (q_Q α dC dI dA A ((fun u => some (.int u.1)) t) ((fun u => w_X5 u.2) t)) args s 0 0 A) 0 0 _ t 0 [(0, .ref 50), (1, .int a1)] [] (w_X5 X)
  refine r_iload_n C 1 dX5_doll_0 rfl ?_
  refine r_callS C (o_X1_isKind l a1) v_X1_isKind m_203 [] [.int a1] [] (fun u1 => [.int u1]) (fun u1 => w_X5 X) rfl rfl rfl rfl rfl (Nat.le_of_ble_eq_true rfl) ⟨(Nat.le_of_ble_eq_true rfl), (Nat.le_of_ble_eq_true rfl)⟩ ⟨Nat.zero_le _, Nat.zero_le _⟩ dX5_doll_1 (fun _ => rfl) (fun _ => rfl) (fun _ => rfl) (fun u1 => ?_)
  refine r_if_ne C 14 dX5_doll_4 (by decide) (fun h4 => ?_) (fun h4 => ?_)
  · refine r_aload_n C 0 dX5_doll_7 rfl ?_
    refine r_ldc C (-1000001) dX5_doll_8 m_206 ?_
    refine r_callV0 C (o_X5_finding l X (-1000001 : Int32)) v_X5_finding m_207 [.int (-1000001 : Int32)] [] (50) (Or.inl ⟨0, 4, _, TX5, 8, rfl, rfl, rfl⟩) (fun u4 => [.int u4.1]) (fun u4 => w_X5 u4.2) rfl rfl rfl (Nat.le_of_ble_eq_true rfl) ⟨(Nat.le_of_ble_eq_true rfl), (Nat.le_of_ble_eq_true rfl)⟩ ⟨Nat.zero_le _, Nat.zero_le _⟩ dX5_doll_10 (fun _ => rfl) (fun _ => rfl) (fun _ => rfl) (fun u4 => ?_)
    exact r_reti (x := u4.1) (rv := (fun u => some (.int u.1))) (hpE := (fun u => w_X5 u.2)) (t0 := (u4.1, u4.2)) C dX5_doll_13 (by rfl) (by rfl) (by rfl)
  · refine r_aload_n C 0 dX5_doll_14 rfl ?_
    refine r_get C 0 0 dX5_doll_15 K_X5 rfl rfl (Nat.le_of_ble_eq_true rfl) rfl m_174 rfl ?_
    refine r_get C 1 0 dX5_doll_18 K_X0 rfl rfl (Nat.le_of_ble_eq_true rfl) rfl m_30 rfl ?_
    refine r_bipush C (8) dX5_doll_21 rfl ?_
    refine r_icmp_lt C 33 dX5_doll_23 (by decide) (fun h23 => ?_) (fun h23 => ?_)
    · refine r_aload_n C 0 dX5_doll_33 rfl ?_
      refine r_get C 0 0 dX5_doll_34 K_X5 rfl rfl (Nat.le_of_ble_eq_true rfl) rfl m_174 rfl ?_
      refine r_iload_n C 1 dX5_doll_37 rfl ?_
      refine r_callV C (o_X0_addDoll l (X 1) a1) v_X0_addDoll m_212 [1, 2, 3, 4, 5, 6, 7] [.int a1] [] (51) (Or.inl ⟨1, 0, _, TX0, 16, rfl, rfl, rfl⟩) (fun u2 => [.int u2.1]) (fun u2 => w_X5 (va_up X 1 u2.2)) rfl rfl rfl rfl rfl (Nat.le_of_ble_eq_true rfl) ⟨(Nat.le_of_ble_eq_true rfl), (Nat.le_of_ble_eq_true rfl)⟩ ⟨Nat.zero_le _, Nat.zero_le _⟩ dX5_doll_38 (fun _ => rfl) (fun _ => rfl) (fun _ => rfl) (fun u2 => ?_)
      exact r_reti (x := u2.1) (rv := (fun u => some (.int u.1))) (hpE := (fun u => w_X5 u.2)) (t0 := (u2.1, (va_up X 1 u2.2))) C dX5_doll_41 (by rfl) (by rfl) (by rfl)
    · refine r_aload_n C 0 dX5_doll_26 rfl ?_
      refine r_ldc C (-1000002) dX5_doll_27 m_211 ?_
      refine r_callV0 C (o_X5_finding l X (-1000002 : Int32)) v_X5_finding m_207 [.int (-1000002 : Int32)] [] (50) (Or.inl ⟨0, 4, _, TX5, 8, rfl, rfl, rfl⟩) (fun u3 => [.int u3.1]) (fun u3 => w_X5 u3.2) rfl rfl rfl (Nat.le_of_ble_eq_true rfl) ⟨(Nat.le_of_ble_eq_true rfl), (Nat.le_of_ble_eq_true rfl)⟩ ⟨Nat.zero_le _, Nat.zero_le _⟩ dX5_doll_29 (fun _ => rfl) (fun _ => rfl) (fun _ => rfl) (fun u3 => ?_)
      exact r_reti (x := u3.1) (rv := (fun u => some (.int u.1))) (hpE := (fun u => w_X5 u.2)) (t0 := (u3.1, u3.2)) C dX5_doll_32 (by rfl) (by rfl) (by rfl)
