set_option maxRecDepth 100000 in
set_option maxHeartbeats 4000000 in
theorem o_X5_finding (l : Launch) (X : (Nat → q_St)) (a1 : Int32) : q_Ok l yX5_finding cX5_finding 3 (some .int) 0 0 [.ref 50, .int a1] (w_X5 X) (f_X5_finding X a1) (fun u => some (.int u.1)) (fun u => w_X5 u.2) := by
  refine q_enter (by decide +kernel) (Nat.le_of_ble_eq_true rfl) (fun t p e s m args below meth c dC dI dA A α C => ?_)
  refine r_cut (f_X5_finding.eq_1 _ _) ?_
  show q_S p l e (q_rm 0 0) s m args below meth c 3 dC dI dA A α (MQ below (q_Q α dC dI dA A ((fun u => some (.int u.1)) t) ((fun u => w_X5 u.2) t)) args s 0 0 A) 0 0 _ t 0 [(0, .ref 50), (1, .int a1)] [] (w_X5 X)
  refine r_ldc C (-1000001) dX5_finding_0 m_206 ?_
  refine r_iload_n C 1 dX5_finding_2 rfl ?_
  refine r_isub C dX5_finding_3 ?_
  refine r_istore_n C [(2, .int ((-1000001 : Int32) - a1)), (0, .ref 50), (1, .int a1)] dX5_finding_4 (Nat.le_of_ble_eq_true rfl) rfl ?_
  refine r_iload_n C 0 dX5_finding_5 rfl ?_
  refine r_if_lt C 28 dX5_finding_6 (by decide) (fun h6 => ?_) (fun h6 => ?_)
  · refine r_iload_n C 2 dX5_finding_28 rfl ?_
    exact r_reti (x := a1) (rv := (fun u => some (.int u.1))) (hpE := (fun u => w_X5 u.2)) (t0 := (a1, X)) C dX5_finding_29 (by rfl) (by rfl) (by rfl)
  · refine r_iload_n C 0 dX5_finding_9 rfl ?_
    refine r_aload_n C 1 dX5_finding_10 rfl ?_
    refine r_get C 0 6 dX5_finding_11 K_X5 rfl rfl (Nat.le_of_ble_eq_true rfl) rfl m_180 rfl ?_
    refine r_alen C 40 (7) dX5_finding_14 rfl rfl rfl rfl ?_
    refine r_icmp_ge C 28 dX5_finding_15 (by decide) (fun h15 => ?_) (fun h15 => ?_)
    · refine r_iload_n C 2 dX5_finding_28 rfl ?_
      exact r_reti (x := a1) (rv := (fun u => some (.int u.1))) (hpE := (fun u => w_X5 u.2)) (t0 := (a1, X)) C dX5_finding_29 (by rfl) (by rfl) (by rfl)
    · refine r_aload_n C 1 dX5_finding_18 rfl ?_
      refine r_get C 0 6 dX5_finding_19 K_X5 rfl rfl (Nat.le_of_ble_eq_true rfl) rfl m_180 rfl ?_
      refine r_iload_n C 0 dX5_finding_22 rfl ?_
      refine r_dup2 C dX5_finding_23 rfl rfl ?_
      refine r_iald C 40 dX5_finding_24 rfl rfl (fun hi24 => ?_)
      refine r_iconst C (1) dX5_finding_25 rfl ?_
      refine r_iadd C dX5_finding_26 ?_
      refine r_iast C 40 _ dX5_finding_27 rfl rfl rfl (fun hi27 => ?_)
      refine r_iload_n C 2 dX5_finding_28 rfl ?_
      exact r_reti (x := a1) (rv := (fun u => some (.int u.1))) (hpE := (fun u => w_X5 u.2)) (t0 := (a1, (va_up X 0 ((X 0).1, (va_up (X 0).2 6 (upd ((X 0).2 6) ((-1000001 : Int32) - a1).toNatClampNeg (((X 0).2 6 ((-1000001 : Int32) - a1).toNatClampNeg) + (1 : Int32)))))))) C dX5_finding_29 (by rfl) (by rfl) (by rfl)
set_option maxRecDepth 100000 in
set_option maxHeartbeats 4000000 in
theorem o_X5_doll (l : Launch) (X : (Nat → q_St)) (a1 : Int32) : q_Ok l yX5_doll cX5_doll 2 (some .int) 1 22 [.ref 50, .int a1] (w_X5 X) (f_X5_doll X a1) (fun u => some (.int u.1)) (fun u => w_X5 u.2) := by
  refine q_enter (by decide +kernel) (Nat.le_of_ble_eq_true rfl) (fun t p e s m args below meth c dC dI dA A α C => ?_)
  refine r_cut (f_X5_doll.eq_1 _ _) ?_
  show q_S p l e (q_rm 1 22) s m args below meth c 2 dC dI dA A α (MQ below (q_Q α dC dI dA A ((fun u => some (.int u.1)) t) ((fun u => w_X5 u.2) t)) args s 0 0 A) 0 0 _ t 0 [(0, .ref 50), (1, .int a1)] [] (w_X5 X)
  refine r_iload_n C 1 dX5_doll_0 rfl ?_
  refine r_callS C (o_X1_isKind l a1) v_X1_isKind m_203 [] [.int a1] [] (fun u1 => [.int u1]) (fun u1 => w_X5 X) rfl rfl rfl rfl rfl (Nat.le_of_ble_eq_true rfl) ⟨(Nat.le_of_ble_eq_true rfl), (Nat.le_of_ble_eq_true rfl)⟩ ⟨Nat.zero_le _, Nat.zero_le _⟩ dX5_doll_1 (fun _ => rfl) (fun _ => rfl) (fun _ => rfl) (fun u1 => ?_)
  refine r_if_ne C 14 dX5_doll_4 (by decide) (fun h4 => ?_) (fun h4 => ?_)
  · refine r_aload_n C 0 dX5_doll_7 rfl ?_
    refine r_ldc C (-1000001) dX5_doll_8 m_206 ?_
    refine r_callV0 C (o_X5_finding l X (-1000001 : Int32)) v_X5_finding m_207 [.int (-1000001 : Int32)] [] (50) (Or.inl ⟨0, 4, _, TX5, 8, rfl, rfl, rfl⟩) (fun u4 => [.int u4.1]) (fun u4 => w_X5 u4.2) rfl rfl rfl (Nat.le_of_ble_eq_true rfl) ⟨(Nat.le_of_ble_eq_true rfl), (Nat.le_of_ble_eq_true rfl)⟩ ⟨Nat.zero_le _, Nat.zero_le _⟩ dX5_doll_10 (fun _ => rfl) (fun _ => rfl) (fun _ => rfl) (fun u4 => ?_)
    exact r_reti (x := u4.1) (rv := (fun u => some (.int u.1))) (hpE := (fun u => w_X5 u.2)) (t0 := (u4.1, u4.2)) C dX5_doll_13 (by rfl) (by rfl) (by rfl)
  · refine r_aload_n C 0 dX5_doll_14 rfl ?_
    refine r_get C 0 0 dX5_doll_15 K_X5 rfl rfl (Nat.le_of_ble_eq_true rfl) rfl m_174 rfl ?_
    refine r_get C 1 0 dX5_doll_18 K_X0 rfl rfl (Nat.le_of_ble_eq_true rfl) rfl m_30 rfl ?_
    refine r_bipush C (8) dX5_doll_21 rfl ?_
    refine r_icmp_lt C 33 dX5_doll_23 (by decide) (fun h23 => ?_) (fun h23 => ?_)
    · refine r_aload_n C 0 dX5_doll_33 rfl ?_
      refine r_get C 0 0 dX5_doll_34 K_X5 rfl rfl (Nat.le_of_ble_eq_true rfl) rfl m_174 rfl ?_
      refine r_iload_n C 1 dX5_doll_37 rfl ?_
      refine r_callV C (o_X0_addDoll l (X 1) a1) v_X0_addDoll m_212 [1, 2, 3, 4, 5, 6, 7] [.int a1] [] (51) (Or.inl ⟨1, 0, _, TX0, 16, rfl, rfl, rfl⟩) (fun u2 => [.int u2.1]) (fun u2 => w_X5 (va_up X 1 u2.2)) rfl rfl rfl rfl rfl (Nat.le_of_ble_eq_true rfl) ⟨(Nat.le_of_ble_eq_true rfl), (Nat.le_of_ble_eq_true rfl)⟩ ⟨Nat.zero_le _, Nat.zero_le _⟩ dX5_doll_38 (fun _ => rfl) (fun _ => rfl) (fun _ => rfl) (fun u2 => ?_)
      exact r_reti (x := u2.1) (rv := (fun u => some (.int u.1))) (hpE := (fun u => w_X5 u.2)) (t0 := (u2.1, (va_up X 1 u2.2))) C dX5_doll_41 (by rfl) (by rfl) (by rfl)
    · refine r_aload_n C 0 dX5_doll_26 rfl ?_
      refine r_ldc C (-1000002) dX5_doll_27 m_211 ?_
      refine r_callV0 C (o_X5_finding l X (-1000002 : Int32)) v_X5_finding m_207 [.int (-1000002 : Int32)] [] (50) (Or.inl ⟨0, 4, _, TX5, 8, rfl, rfl, rfl⟩) (fun u3 => [.int u3.1]) (fun u3 => w_X5 u3.2) rfl rfl rfl (Nat.le_of_ble_eq_true rfl) ⟨(Nat.le_of_ble_eq_true rfl), (Nat.le_of_ble_eq_true rfl)⟩ ⟨Nat.zero_le _, Nat.zero_le _⟩ dX5_doll_29 (fun _ => rfl) (fun _ => rfl) (fun _ => rfl) (fun u3 => ?_)
      exact r_reti (x := u3.1) (rv := (fun u => some (.int u.1))) (hpE := (fun u => w_X5 u.2)) (t0 := (u3.1, u3.2)) C dX5_doll_32 (by rfl) (by rfl) (by rfl)
set_option maxRecDepth 100000 in
set_option maxHeartbeats 4000000 in
theorem o_X5_of (l : Launch) (X : (Nat → q_St)) (a1 : Int32) (a2 : Int32) : q_Ok l yX5_of cX5_of 3 (some .int) 2 42 [.ref 50, .int a1, .int a2] (w_X5 X) (f_X5_of X a1 a2) (fun u => some (.int u.1)) (fun u => w_X5 u.2) := by
  refine q_enter (by decide +kernel) (Nat.le_of_ble_eq_true rfl) (fun t p e s m args below meth c dC dI dA A α C => ?_)
  refine r_cut (f_X5_of.eq_1 _ _ _) ?_
  show q_S p l e (q_rm 2 42) s m args below meth c 3 dC dI dA A α (MQ below (q_Q α dC dI dA A ((fun u => some (.int u.1)) t) ((fun u => w_X5 u.2) t)) args s 0 0 A) 0 0 _ t 0 [(0, .ref 50), (1, .int a1), (2, .int a2)] [] (w_X5 X)
  refine r_aload_n C 0 dX5_of_0 rfl ?_
  refine r_get C 0 0 dX5_of_1 K_X5 rfl rfl (Nat.le_of_ble_eq_true rfl) rfl m_174 rfl ?_
  refine r_iload_n C 1 dX5_of_4 rfl ?_
  refine r_callV C (o_X0_isDoll l (X 1) a1) v_X0_isDoll m_220 [1, 2, 3, 4, 5, 6, 7] [.int a1] [] (51) (Or.inl ⟨1, 0, _, TX0, 16, rfl, rfl, rfl⟩) (fun u1 => [.int u1]) (fun u1 => w_X5 X) rfl rfl rfl rfl rfl (Nat.le_of_ble_eq_true rfl) ⟨(Nat.le_of_ble_eq_true rfl), (Nat.le_of_ble_eq_true rfl)⟩ ⟨Nat.zero_le _, Nat.zero_le _⟩ dX5_of_5 (fun _ => rfl) (fun _ => rfl) (fun _ => rfl) (fun u1 => ?_)
  refine r_if_ne C 18 dX5_of_8 (by decide) (fun h8 => ?_) (fun h8 => ?_)
  · refine r_aload_n C 0 dX5_of_11 rfl ?_
    refine r_ldc C (-1000001) dX5_of_12 m_206 ?_
    refine r_callV0 C (o_X5_finding l X (-1000001 : Int32)) v_X5_finding m_207 [.int (-1000001 : Int32)] [] (50) (Or.inl ⟨0, 4, _, TX5, 8, rfl, rfl, rfl⟩) (fun u9 => [.int u9.1]) (fun u9 => w_X5 u9.2) rfl rfl rfl (Nat.le_of_ble_eq_true rfl) ⟨(Nat.le_of_ble_eq_true rfl), (Nat.le_of_ble_eq_true rfl)⟩ ⟨Nat.zero_le _, Nat.zero_le _⟩ dX5_of_14 (fun _ => rfl) (fun _ => rfl) (fun _ => rfl) (fun u9 => ?_)
    exact r_reti (x := u9.1) (rv := (fun u => some (.int u.1))) (hpE := (fun u => w_X5 u.2)) (t0 := (u9.1, u9.2)) C dX5_of_17 (by rfl) (by rfl) (by rfl)
  · refine r_iload_n C 2 dX5_of_18 rfl ?_
    refine r_tsw C (0) 56 dX5_of_19 (by decide) (by decide) rfl (by decide) (fun h19_0 => ?_) (fun h19_0 => ?_)
    · refine r_aload_n C 0 dX5_of_56 rfl ?_
      refine r_get C 0 0 dX5_of_57 K_X5 rfl rfl (Nat.le_of_ble_eq_true rfl) rfl m_174 rfl ?_
      refine r_iload_n C 1 dX5_of_60 rfl ?_
      refine r_callV C (o_X0_kindOf l (X 1) a1) v_X0_kindOf m_224 [1, 2, 3, 4, 5, 6, 7] [.int a1] [] (51) (Or.inl ⟨1, 0, _, TX0, 16, rfl, rfl, rfl⟩) (fun u2 => [.int u2]) (fun u2 => w_X5 X) rfl rfl rfl rfl rfl (Nat.le_of_ble_eq_true rfl) ⟨(Nat.le_of_ble_eq_true rfl), (Nat.le_of_ble_eq_true rfl)⟩ ⟨Nat.zero_le _, Nat.zero_le _⟩ dX5_of_61 (fun _ => rfl) (fun _ => rfl) (fun _ => rfl) (fun u2 => ?_)
      exact r_reti (x := u2) (rv := (fun u => some (.int u.1))) (hpE := (fun u => w_X5 u.2)) (t0 := (u2, X)) C dX5_of_64 (by rfl) (by rfl) (by rfl)
    refine r_tsw C (1) 65 dX5_of_19 (by decide) (by decide) rfl (by decide) (fun h19_1 => ?_) (fun h19_1 => ?_)
    · refine r_aload_n C 0 dX5_of_65 rfl ?_
      refine r_get C 0 0 dX5_of_66 K_X5 rfl rfl (Nat.le_of_ble_eq_true rfl) rfl m_174 rfl ?_
      refine r_iload_n C 1 dX5_of_69 rfl ?_
      refine r_callV C (o_X0_sizeOf l (X 1) a1) v_X0_sizeOf m_229 [1, 2, 3, 4, 5, 6, 7] [.int a1] [] (51) (Or.inl ⟨1, 0, _, TX0, 16, rfl, rfl, rfl⟩) (fun u3 => [.int u3]) (fun u3 => w_X5 X) rfl rfl rfl rfl rfl (Nat.le_of_ble_eq_true rfl) ⟨(Nat.le_of_ble_eq_true rfl), (Nat.le_of_ble_eq_true rfl)⟩ ⟨Nat.zero_le _, Nat.zero_le _⟩ dX5_of_70 (fun _ => rfl) (fun _ => rfl) (fun _ => rfl) (fun u3 => ?_)
      exact r_reti (x := u3) (rv := (fun u => some (.int u.1))) (hpE := (fun u => w_X5 u.2)) (t0 := (u3, X)) C dX5_of_73 (by rfl) (by rfl) (by rfl)
    refine r_tsw C (2) 74 dX5_of_19 (by decide) (by decide) rfl (by decide) (fun h19_2 => ?_) (fun h19_2 => ?_)
    · refine r_aload_n C 0 dX5_of_74 rfl ?_
      refine r_get C 0 0 dX5_of_75 K_X5 rfl rfl (Nat.le_of_ble_eq_true rfl) rfl m_174 rfl ?_
      refine r_iload_n C 1 dX5_of_78 rfl ?_
      refine r_callV C (o_X0_wantOf l (X 1) a1) v_X0_wantOf m_233 [1, 2, 3, 4, 5, 6, 7] [.int a1] [] (51) (Or.inl ⟨1, 0, _, TX0, 16, rfl, rfl, rfl⟩) (fun u4 => [.int u4]) (fun u4 => w_X5 X) rfl rfl rfl rfl rfl (Nat.le_of_ble_eq_true rfl) ⟨(Nat.le_of_ble_eq_true rfl), (Nat.le_of_ble_eq_true rfl)⟩ ⟨Nat.zero_le _, Nat.zero_le _⟩ dX5_of_79 (fun _ => rfl) (fun _ => rfl) (fun _ => rfl) (fun u4 => ?_)
      exact r_reti (x := u4) (rv := (fun u => some (.int u.1))) (hpE := (fun u => w_X5 u.2)) (t0 := (u4, X)) C dX5_of_82 (by rfl) (by rfl) (by rfl)
    refine r_tsw C (3) 83 dX5_of_19 (by decide) (by decide) rfl (by decide) (fun h19_3 => ?_) (fun h19_3 => ?_)
    · refine r_aload_n C 0 dX5_of_83 rfl ?_
      refine r_get C 0 0 dX5_of_84 K_X5 rfl rfl (Nat.le_of_ble_eq_true rfl) rfl m_174 rfl ?_
      refine r_iload_n C 1 dX5_of_87 rfl ?_
      refine r_callV C (o_X0_onOf l (X 1) a1) v_X0_onOf m_240 [1, 2, 3, 4, 5, 6, 7] [.int a1] [] (51) (Or.inl ⟨1, 0, _, TX0, 16, rfl, rfl, rfl⟩) (fun u5 => [.int u5]) (fun u5 => w_X5 X) rfl rfl rfl rfl rfl (Nat.le_of_ble_eq_true rfl) ⟨(Nat.le_of_ble_eq_true rfl), (Nat.le_of_ble_eq_true rfl)⟩ ⟨Nat.zero_le _, Nat.zero_le _⟩ dX5_of_88 (fun _ => rfl) (fun _ => rfl) (fun _ => rfl) (fun u5 => ?_)
      exact r_reti (x := u5) (rv := (fun u => some (.int u.1))) (hpE := (fun u => w_X5 u.2)) (t0 := (u5, X)) C dX5_of_91 (by rfl) (by rfl) (by rfl)
    refine r_tsw C (4) 92 dX5_of_19 (by decide) (by decide) rfl (by decide) (fun h19_4 => ?_) (fun h19_4 => ?_)
    · refine r_aload_n C 0 dX5_of_92 rfl ?_
      refine r_get C 0 0 dX5_of_93 K_X5 rfl rfl (Nat.le_of_ble_eq_true rfl) rfl m_174 rfl ?_
      refine r_iload_n C 1 dX5_of_96 rfl ?_
      refine r_callV C (o_X0_voiceOf l (X 1) a1) v_X0_voiceOf m_247 [1, 2, 3, 4, 5, 6, 7] [.int a1] [] (51) (Or.inl ⟨1, 0, _, TX0, 16, rfl, rfl, rfl⟩) (fun u6 => [.int u6]) (fun u6 => w_X5 X) rfl rfl rfl rfl rfl (Nat.le_of_ble_eq_true rfl) ⟨(Nat.le_of_ble_eq_true rfl), (Nat.le_of_ble_eq_true rfl)⟩ ⟨Nat.zero_le _, Nat.zero_le _⟩ dX5_of_97 (fun _ => rfl) (fun _ => rfl) (fun _ => rfl) (fun u6 => ?_)
      exact r_reti (x := u6) (rv := (fun u => some (.int u.1))) (hpE := (fun u => w_X5 u.2)) (t0 := (u6, X)) C dX5_of_100 (by rfl) (by rfl) (by rfl)
    refine r_tsw C (5) 101 dX5_of_19 (by decide) (by decide) rfl (by decide) (fun h19_5 => ?_) (fun h19_5 => ?_)
    · refine r_aload_n C 0 dX5_of_101 rfl ?_
      refine r_get C 0 0 dX5_of_102 K_X5 rfl rfl (Nat.le_of_ble_eq_true rfl) rfl m_174 rfl ?_
      refine r_iload_n C 1 dX5_of_105 rfl ?_
      refine r_callV C (o_X0_hookOf l (X 1) a1) v_X0_hookOf m_254 [1, 2, 3, 4, 5, 6, 7] [.int a1] [] (51) (Or.inl ⟨1, 0, _, TX0, 16, rfl, rfl, rfl⟩) (fun u7 => [.int u7]) (fun u7 => w_X5 X) rfl rfl rfl rfl rfl (Nat.le_of_ble_eq_true rfl) ⟨(Nat.le_of_ble_eq_true rfl), (Nat.le_of_ble_eq_true rfl)⟩ ⟨Nat.zero_le _, Nat.zero_le _⟩ dX5_of_106 (fun _ => rfl) (fun _ => rfl) (fun _ => rfl) (fun u7 => ?_)
      exact r_reti (x := u7) (rv := (fun u => some (.int u.1))) (hpE := (fun u => w_X5 u.2)) (t0 := (u7, X)) C dX5_of_109 (by rfl) (by rfl) (by rfl)
    have g0 := True.intro
    have g19_0 := q_neI h19_0 (z := 0) (by decide)
    have g19_1 := q_neI h19_1 (z := 1) (by decide)
    have g19_2 := q_neI h19_2 (z := 2) (by decide)
    have g19_3 := q_neI h19_3 (z := 3) (by decide)
    have g19_4 := q_neI h19_4 (z := 4) (by decide)
    have g19_5 := q_neI h19_5 (z := 5) (by decide)
    refine r_tswD C 110 dX5_of_19 (by omega) (by decide) ?_
    refine r_aload_n C 0 dX5_of_110 rfl ?_
    refine r_ldc C (-1000001) dX5_of_111 m_206 ?_
    refine r_callV0 C (o_X5_finding l X (-1000001 : Int32)) v_X5_finding m_207 [.int (-1000001 : Int32)] [] (50) (Or.inl ⟨0, 4, _, TX5, 8, rfl, rfl, rfl⟩) (fun u8 => [.int u8.1]) (fun u8 => w_X5 u8.2) rfl rfl rfl (Nat.le_of_ble_eq_true rfl) ⟨(Nat.le_of_ble_eq_true rfl), (Nat.le_of_ble_eq_true rfl)⟩ ⟨Nat.zero_le _, Nat.zero_le _⟩ dX5_of_113 (fun _ => rfl) (fun _ => rfl) (fun _ => rfl) (fun u8 => ?_)
    exact r_reti (x := u8.1) (rv := (fun u => some (.int u.1))) (hpE := (fun u => w_X5 u.2)) (t0 := (u8.1, u8.2)) C dX5_of_116 (by rfl) (by rfl) (by rfl)
set_option maxRecDepth 100000 in
set_option maxHeartbeats 4000000 in
theorem o_X5_isSize (l : Launch) (a1 : Int32) : q_Ok l yX5_isSize cX5_isSize 1 (some .boolean) 0 0 [.int a1] ([]) (f_X5_isSize a1) (fun u => some (.int u)) (fun _ => []) := by
  refine q_enter (by decide +kernel) (Nat.le_of_ble_eq_true rfl) (fun t p e s m args below meth c dC dI dA A α C => ?_)
  refine r_cut (f_X5_isSize.eq_1 _) ?_
  show q_S p l e (q_rm 0 0) s m args below meth c 1 dC dI dA A α (MQ below (q_Q α dC dI dA A ((fun u => some (.int u)) t) ((fun _ => []) t)) args s 0 0 A) 0 0 _ t 0 [(0, .int a1)] [] ([])
  refine r_iload_n C 0 dX5_isSize_0 rfl ?_
  refine r_iconst C (1) dX5_isSize_1 rfl ?_
  refine r_icmp_lt C 15 dX5_isSize_2 (by decide) (fun h2 => ?_) (fun h2 => ?_)
  · refine r_iconst C (0) dX5_isSize_15 rfl ?_
    exact r_retz (x := (0 : Int32)) (rv := (fun u => some (.int u))) (hpE := (fun _ => [])) (t0 := (0 : Int32)) C dX5_isSize_16 (by rfl) (by rfl) (by rfl) (by rfl)
  · refine r_iload_n C 0 dX5_isSize_5 rfl ?_
    refine r_bipush C (9) dX5_isSize_6 rfl ?_
    refine r_icmp_gt C 15 dX5_isSize_8 (by decide) (fun h8 => ?_) (fun h8 => ?_)
    · refine r_iconst C (0) dX5_isSize_15 rfl ?_
      exact r_retz (x := (0 : Int32)) (rv := (fun u => some (.int u))) (hpE := (fun _ => [])) (t0 := (0 : Int32)) C dX5_isSize_16 (by rfl) (by rfl) (by rfl) (by rfl)
    · refine r_iconst C (1) dX5_isSize_11 rfl ?_
      refine r_goto C 16 dX5_isSize_12 (by decide) ?_
      exact r_retz (x := (1 : Int32)) (rv := (fun u => some (.int u))) (hpE := (fun _ => [])) (t0 := (1 : Int32)) C dX5_isSize_16 (by rfl) (by rfl) (by rfl) (by rfl)
set_option maxRecDepth 100000 in
set_option maxHeartbeats 4000000 in
theorem k_X5_change_51 {p : Program} {l : Launch} {e : Env} {s : State} {m : MethodId} {args : Array Value} {below : List Frame} {meth : Method} {c : Code} {dC : Nat → ClassId} {dI : Nat → Nat → Nat} {dA : Nat → ClassId} {A : Nat → Prop} {α : Nat → Nat} {t : Int32 × (Nat → q_St)} (C : q_Cx p s m args meth c cX5_change 5 RX5 (some .int) "change" dC dI dA A α) (X : (Nat → q_St)) (a1 : Int32) (a2 : Int32) (a3 : Int32)  : ∀ (x1 : Int32) (x2 : Int32) (x3 : Int32) (X' : (Nat → q_St)), q_S p l e (q_rm 2 43) s m args below meth c 5 dC dI dA A α (MQ below (q_Q α dC dI dA A ((fun u => some (.int u.1)) t) ((fun u => w_X5 u.2) t)) args s 0 0 A) 0 0 (f_X5_change_51 X a1 a2 a3  x1 x2 x3 X') t 51 [(0, .ref 50), (1, .int x1), (2, .int x2), (3, .int x3)] [] (w_X5 X') := by
  intro x1 x2 x3 X'
  refine r_cut (f_X5_change_51.eq_1 _ _ _ _ _ _ _ _) ?_
  refine r_iload_n C 2 dX5_change_51 rfl ?_
  refine r_iconst C (1) dX5_change_52 rfl ?_
  refine r_icmp_ne C 85 dX5_change_53 (by decide) (fun h53 => ?_) (fun h53 => ?_)
  · refine r_iload_n C 3 dX5_change_56 rfl ?_
    refine r_callS C (o_X5_isSize l x3) v_X5_isSize m_266 [] [.int x3] [] (fun u7 => [.int u7]) (fun u7 => w_X5 X') rfl rfl rfl rfl rfl (Nat.le_of_ble_eq_true rfl) ⟨(Nat.le_of_ble_eq_true rfl), (Nat.le_of_ble_eq_true rfl)⟩ ⟨Nat.zero_le _, Nat.zero_le _⟩ dX5_change_57 (fun _ => rfl) (fun _ => rfl) (fun _ => rfl) (fun u7 => ?_)
    refine r_if_eq C 85 dX5_change_60 (by decide) (fun h60 => ?_) (fun h60 => ?_)
    · refine r_aload_n C 0 dX5_change_85 rfl ?_
      refine r_ldc C (-1000001) dX5_change_86 m_206 ?_
      refine r_callV0 C (o_X5_finding l X' (-1000001 : Int32)) v_X5_finding m_207 [.int (-1000001 : Int32)] [] (50) (Or.inl ⟨0, 4, _, TX5, 8, rfl, rfl, rfl⟩) (fun u8 => [.int u8.1]) (fun u8 => w_X5 u8.2) rfl rfl rfl (Nat.le_of_ble_eq_true rfl) ⟨(Nat.le_of_ble_eq_true rfl), (Nat.le_of_ble_eq_true rfl)⟩ ⟨Nat.zero_le _, Nat.zero_le _⟩ dX5_change_88 (fun _ => rfl) (fun _ => rfl) (fun _ => rfl) (fun u8 => ?_)
      refine r_istore C [(4, .int u8.1), (0, .ref 50), (1, .int x1), (2, .int x2), (3, .int x3)] dX5_change_91 (Nat.le_of_ble_eq_true rfl) rfl ?_
      refine r_iload C 0 dX5_change_93 rfl ?_
      exact r_reti (x := u8.1) (rv := (fun u => some (.int u.1))) (hpE := (fun u => w_X5 u.2)) (t0 := (u8.1, u8.2)) C dX5_change_95 (by rfl) (by rfl) (by rfl)
    · refine r_aload_n C 0 dX5_change_63 rfl ?_
      refine r_get C 0 0 dX5_change_64 K_X5 rfl rfl (Nat.le_of_ble_eq_true rfl) rfl m_174 rfl ?_
      refine r_iload_n C 1 dX5_change_67 rfl ?_
      refine r_callV C (o_X0_sizeOf l (X' 1) x1) v_X0_sizeOf m_229 [1, 2, 3, 4, 5, 6, 7] [.int x1] [] (51) (Or.inl ⟨1, 0, _, TX0, 16, rfl, rfl, rfl⟩) (fun u9 => [.int u9]) (fun u9 => w_X5 X') rfl rfl rfl rfl rfl (Nat.le_of_ble_eq_true rfl) ⟨(Nat.le_of_ble_eq_true rfl), (Nat.le_of_ble_eq_true rfl)⟩ ⟨Nat.zero_le _, Nat.zero_le _⟩ dX5_change_68 (fun _ => rfl) (fun _ => rfl) (fun _ => rfl) (fun u9 => ?_)
      refine r_istore C [(4, .int u9), (0, .ref 50), (1, .int x1), (2, .int x2), (3, .int x3)] dX5_change_71 (Nat.le_of_ble_eq_true rfl) rfl ?_
      refine r_aload_n C 1 dX5_change_73 rfl ?_
      refine r_get C 0 0 dX5_change_74 K_X5 rfl rfl (Nat.le_of_ble_eq_true rfl) rfl m_174 rfl ?_
      refine r_iload_n C 2 dX5_change_77 rfl ?_
      refine r_iload_n C 4 dX5_change_78 rfl ?_
      refine r_callV C (o_X0_setSize l (X' 1) x1 x3) v_X0_setSize m_269 [1, 2, 3, 4, 5, 6, 7] [.int x1, .int x3] [] (51) (Or.inl ⟨1, 0, _, TX0, 16, rfl, rfl, rfl⟩) (fun u10 => []) (fun u10 => w_X5 (va_up X' 1 u10)) rfl rfl rfl rfl rfl (Nat.le_of_ble_eq_true rfl) ⟨(Nat.le_of_ble_eq_true rfl), (Nat.le_of_ble_eq_true rfl)⟩ ⟨Nat.zero_le _, Nat.zero_le _⟩ dX5_change_79 (fun _ => rfl) (fun _ => rfl) (fun _ => rfl) (fun u10 => ?_)
      refine r_goto C 93 dX5_change_82 (by decide) ?_
      refine r_iload C 0 dX5_change_93 rfl ?_
      exact r_reti (x := u9) (rv := (fun u => some (.int u.1))) (hpE := (fun u => w_X5 u.2)) (t0 := (u9, (va_up X' 1 u10))) C dX5_change_95 (by rfl) (by rfl) (by rfl)
  · refine r_aload_n C 0 dX5_change_85 rfl ?_
    refine r_ldc C (-1000001) dX5_change_86 m_206 ?_
    refine r_callV0 C (o_X5_finding l X' (-1000001 : Int32)) v_X5_finding m_207 [.int (-1000001 : Int32)] [] (50) (Or.inl ⟨0, 4, _, TX5, 8, rfl, rfl, rfl⟩) (fun u6 => [.int u6.1]) (fun u6 => w_X5 u6.2) rfl rfl rfl (Nat.le_of_ble_eq_true rfl) ⟨(Nat.le_of_ble_eq_true rfl), (Nat.le_of_ble_eq_true rfl)⟩ ⟨Nat.zero_le _, Nat.zero_le _⟩ dX5_change_88 (fun _ => rfl) (fun _ => rfl) (fun _ => rfl) (fun u6 => ?_)
    refine r_istore C [(4, .int u6.1), (0, .ref 50), (1, .int x1), (2, .int x2), (3, .int x3)] dX5_change_91 (Nat.le_of_ble_eq_true rfl) rfl ?_
    refine r_iload C 0 dX5_change_93 rfl ?_
    exact r_reti (x := u6.1) (rv := (fun u => some (.int u.1))) (hpE := (fun u => w_X5 u.2)) (t0 := (u6.1, u6.2)) C dX5_change_95 (by rfl) (by rfl) (by rfl)
set_option maxRecDepth 100000 in
set_option maxHeartbeats 4000000 in
theorem o_X5_change (l : Launch) (X : (Nat → q_St)) (a1 : Int32) (a2 : Int32) (a3 : Int32) : q_Ok l yX5_change cX5_change 5 (some .int) 2 43 [.ref 50, .int a1, .int a2, .int a3] (w_X5 X) (f_X5_change X a1 a2 a3) (fun u => some (.int u.1)) (fun u => w_X5 u.2) := by
  refine q_enter (by decide +kernel) (Nat.le_of_ble_eq_true rfl) (fun t p e s m args below meth c dC dI dA A α C => ?_)
  refine r_cut (f_X5_change.eq_1 _ _ _ _) ?_
  show q_S p l e (q_rm 2 43) s m args below meth c 5 dC dI dA A α (MQ below (q_Q α dC dI dA A ((fun u => some (.int u.1)) t) ((fun u => w_X5 u.2) t)) args s 0 0 A) 0 0 _ t 0 [(0, .ref 50), (1, .int a1), (2, .int a2), (3, .int a3)] [] (w_X5 X)
  refine r_aload_n C 0 dX5_change_0 rfl ?_
  refine r_get C 0 0 dX5_change_1 K_X5 rfl rfl (Nat.le_of_ble_eq_true rfl) rfl m_174 rfl ?_
  refine r_iload_n C 1 dX5_change_4 rfl ?_
  refine r_callV C (o_X0_isDoll l (X 1) a1) v_X0_isDoll m_220 [1, 2, 3, 4, 5, 6, 7] [.int a1] [] (51) (Or.inl ⟨1, 0, _, TX0, 16, rfl, rfl, rfl⟩) (fun u1 => [.int u1]) (fun u1 => w_X5 X) rfl rfl rfl rfl rfl (Nat.le_of_ble_eq_true rfl) ⟨(Nat.le_of_ble_eq_true rfl), (Nat.le_of_ble_eq_true rfl)⟩ ⟨Nat.zero_le _, Nat.zero_le _⟩ dX5_change_5 (fun _ => rfl) (fun _ => rfl) (fun _ => rfl) (fun u1 => ?_)
  refine r_if_ne C 18 dX5_change_8 (by decide) (fun h8 => ?_) (fun h8 => ?_)
  · refine r_aload_n C 0 dX5_change_11 rfl ?_
    refine r_ldc C (-1000001) dX5_change_12 m_206 ?_
    refine r_callV0 C (o_X5_finding l X (-1000001 : Int32)) v_X5_finding m_207 [.int (-1000001 : Int32)] [] (50) (Or.inl ⟨0, 4, _, TX5, 8, rfl, rfl, rfl⟩) (fun u5 => [.int u5.1]) (fun u5 => w_X5 u5.2) rfl rfl rfl (Nat.le_of_ble_eq_true rfl) ⟨(Nat.le_of_ble_eq_true rfl), (Nat.le_of_ble_eq_true rfl)⟩ ⟨Nat.zero_le _, Nat.zero_le _⟩ dX5_change_14 (fun _ => rfl) (fun _ => rfl) (fun _ => rfl) (fun u5 => ?_)
    exact r_reti (x := u5.1) (rv := (fun u => some (.int u.1))) (hpE := (fun u => w_X5 u.2)) (t0 := (u5.1, u5.2)) C dX5_change_17 (by rfl) (by rfl) (by rfl)
  · refine r_iload_n C 2 dX5_change_18 rfl ?_
    refine r_if_ne C 51 dX5_change_19 (by decide) (fun h19 => ?_) (fun h19 => ?_)
    · refine r_iload_n C 3 dX5_change_22 rfl ?_
      refine r_callS C (o_X1_isKind l a3) v_X1_isKind m_203 [] [.int a3] [] (fun u2 => [.int u2]) (fun u2 => w_X5 X) rfl rfl rfl rfl rfl (Nat.le_of_ble_eq_true rfl) ⟨(Nat.le_of_ble_eq_true rfl), (Nat.le_of_ble_eq_true rfl)⟩ ⟨Nat.zero_le _, Nat.zero_le _⟩ dX5_change_23 (fun _ => rfl) (fun _ => rfl) (fun _ => rfl) (fun u2 => ?_)
      refine r_if_eq C 51 dX5_change_26 (by decide) (fun h26 => ?_) (fun h26 => ?_)
      · exact k_X5_change_51 C X a1 a2 a3   a1 a2 a3 X
      · refine r_aload_n C 0 dX5_change_29 rfl ?_
        refine r_get C 0 0 dX5_change_30 K_X5 rfl rfl (Nat.le_of_ble_eq_true rfl) rfl m_174 rfl ?_
        refine r_iload_n C 1 dX5_change_33 rfl ?_
        refine r_callV C (o_X0_kindOf l (X 1) a1) v_X0_kindOf m_224 [1, 2, 3, 4, 5, 6, 7] [.int a1] [] (51) (Or.inl ⟨1, 0, _, TX0, 16, rfl, rfl, rfl⟩) (fun u3 => [.int u3]) (fun u3 => w_X5 X) rfl rfl rfl rfl rfl (Nat.le_of_ble_eq_true rfl) ⟨(Nat.le_of_ble_eq_true rfl), (Nat.le_of_ble_eq_true rfl)⟩ ⟨Nat.zero_le _, Nat.zero_le _⟩ dX5_change_34 (fun _ => rfl) (fun _ => rfl) (fun _ => rfl) (fun u3 => ?_)
        refine r_istore C [(4, .int u3), (0, .ref 50), (1, .int a1), (2, .int a2), (3, .int a3)] dX5_change_37 (Nat.le_of_ble_eq_true rfl) rfl ?_
        refine r_aload_n C 1 dX5_change_39 rfl ?_
        refine r_get C 0 0 dX5_change_40 K_X5 rfl rfl (Nat.le_of_ble_eq_true rfl) rfl m_174 rfl ?_
        refine r_iload_n C 2 dX5_change_43 rfl ?_
        refine r_iload_n C 4 dX5_change_44 rfl ?_
        refine r_callV C (o_X0_setKind l (X 1) a1 a3) v_X0_setKind m_262 [1, 2, 3, 4, 5, 6, 7] [.int a1, .int a3] [] (51) (Or.inl ⟨1, 0, _, TX0, 16, rfl, rfl, rfl⟩) (fun u4 => []) (fun u4 => w_X5 (va_up X 1 u4)) rfl rfl rfl rfl rfl (Nat.le_of_ble_eq_true rfl) ⟨(Nat.le_of_ble_eq_true rfl), (Nat.le_of_ble_eq_true rfl)⟩ ⟨Nat.zero_le _, Nat.zero_le _⟩ dX5_change_45 (fun _ => rfl) (fun _ => rfl) (fun _ => rfl) (fun u4 => ?_)
        refine r_goto C 93 dX5_change_48 (by decide) ?_
        refine r_iload C 0 dX5_change_93 rfl ?_
        exact r_reti (x := u3) (rv := (fun u => some (.int u.1))) (hpE := (fun u => w_X5 u.2)) (t0 := (u3, (va_up X 1 u4))) C dX5_change_95 (by rfl) (by rfl) (by rfl)
    · exact k_X5_change_51 C X a1 a2 a3   a1 a2 a3 X
set_option maxRecDepth 100000 in
set_option maxHeartbeats 4000000 in
theorem o_X5_hooks (l : Launch) (X : (Nat → q_St)) (a1 : Int32) (a2 : Int32) : q_Ok l yX5_hooks cX5_hooks 3 (some .int) 2 44 [.ref 50, .int a1, .int a2] (w_X5 X) (f_X5_hooks X a1 a2) (fun u => some (.int u.1)) (fun u => w_X5 u.2) := by
  refine q_enter (by decide +kernel) (Nat.le_of_ble_eq_true rfl) (fun t p e s m args below meth c dC dI dA A α C => ?_)
  refine r_cut (f_X5_hooks.eq_1 _ _ _) ?_
  show q_S p l e (q_rm 2 44) s m args below meth c 3 dC dI dA A α (MQ below (q_Q α dC dI dA A ((fun u => some (.int u.1)) t) ((fun u => w_X5 u.2) t)) args s 0 0 A) 0 0 _ t 0 [(0, .ref 50), (1, .int a1), (2, .int a2)] [] (w_X5 X)
  refine r_aload_n C 0 dX5_hooks_0 rfl ?_
  refine r_get C 0 0 dX5_hooks_1 K_X5 rfl rfl (Nat.le_of_ble_eq_true rfl) rfl m_174 rfl ?_
  refine r_iload_n C 1 dX5_hooks_4 rfl ?_
  refine r_callV C (o_X0_isDoll l (X 1) a1) v_X0_isDoll m_220 [1, 2, 3, 4, 5, 6, 7] [.int a1] [] (51) (Or.inl ⟨1, 0, _, TX0, 16, rfl, rfl, rfl⟩) (fun u1 => [.int u1]) (fun u1 => w_X5 X) rfl rfl rfl rfl rfl (Nat.le_of_ble_eq_true rfl) ⟨(Nat.le_of_ble_eq_true rfl), (Nat.le_of_ble_eq_true rfl)⟩ ⟨Nat.zero_le _, Nat.zero_le _⟩ dX5_hooks_5 (fun _ => rfl) (fun _ => rfl) (fun _ => rfl) (fun u1 => ?_)
  refine r_if_eq C 27 dX5_hooks_8 (by decide) (fun h8 => ?_) (fun h8 => ?_)
  · refine r_aload_n C 0 dX5_hooks_27 rfl ?_
    refine r_ldc C (-1000001) dX5_hooks_28 m_206 ?_
    refine r_callV0 C (o_X5_finding l X (-1000001 : Int32)) v_X5_finding m_207 [.int (-1000001 : Int32)] [] (50) (Or.inl ⟨0, 4, _, TX5, 8, rfl, rfl, rfl⟩) (fun u2 => [.int u2.1]) (fun u2 => w_X5 u2.2) rfl rfl rfl (Nat.le_of_ble_eq_true rfl) ⟨(Nat.le_of_ble_eq_true rfl), (Nat.le_of_ble_eq_true rfl)⟩ ⟨Nat.zero_le _, Nat.zero_le _⟩ dX5_hooks_30 (fun _ => rfl) (fun _ => rfl) (fun _ => rfl) (fun u2 => ?_)
    exact r_reti (x := u2.1) (rv := (fun u => some (.int u.1))) (hpE := (fun u => w_X5 u.2)) (t0 := (u2.1, u2.2)) C dX5_hooks_33 (by rfl) (by rfl) (by rfl)
  · refine r_aload_n C 0 dX5_hooks_11 rfl ?_
    refine r_get C 0 0 dX5_hooks_12 K_X5 rfl rfl (Nat.le_of_ble_eq_true rfl) rfl m_174 rfl ?_
    refine r_iload_n C 2 dX5_hooks_15 rfl ?_
    refine r_callV C (o_X0_isDoll l (X 1) a2) v_X0_isDoll m_220 [1, 2, 3, 4, 5, 6, 7] [.int a2] [] (51) (Or.inl ⟨1, 0, _, TX0, 16, rfl, rfl, rfl⟩) (fun u3 => [.int u3]) (fun u3 => w_X5 X) rfl rfl rfl rfl rfl (Nat.le_of_ble_eq_true rfl) ⟨(Nat.le_of_ble_eq_true rfl), (Nat.le_of_ble_eq_true rfl)⟩ ⟨Nat.zero_le _, Nat.zero_le _⟩ dX5_hooks_16 (fun _ => rfl) (fun _ => rfl) (fun _ => rfl) (fun u3 => ?_)
    refine r_if_eq C 27 dX5_hooks_19 (by decide) (fun h19 => ?_) (fun h19 => ?_)
    · refine r_aload_n C 0 dX5_hooks_27 rfl ?_
      refine r_ldc C (-1000001) dX5_hooks_28 m_206 ?_
      refine r_callV0 C (o_X5_finding l X (-1000001 : Int32)) v_X5_finding m_207 [.int (-1000001 : Int32)] [] (50) (Or.inl ⟨0, 4, _, TX5, 8, rfl, rfl, rfl⟩) (fun u4 => [.int u4.1]) (fun u4 => w_X5 u4.2) rfl rfl rfl (Nat.le_of_ble_eq_true rfl) ⟨(Nat.le_of_ble_eq_true rfl), (Nat.le_of_ble_eq_true rfl)⟩ ⟨Nat.zero_le _, Nat.zero_le _⟩ dX5_hooks_30 (fun _ => rfl) (fun _ => rfl) (fun _ => rfl) (fun u4 => ?_)
      exact r_reti (x := u4.1) (rv := (fun u => some (.int u.1))) (hpE := (fun u => w_X5 u.2)) (t0 := (u4.1, u4.2)) C dX5_hooks_33 (by rfl) (by rfl) (by rfl)
    · refine r_iload_n C 1 dX5_hooks_22 rfl ?_
      refine r_iload_n C 2 dX5_hooks_23 rfl ?_
      refine r_icmp_ne C 34 dX5_hooks_24 (by decide) (fun h24 => ?_) (fun h24 => ?_)
      · refine r_aload_n C 0 dX5_hooks_27 rfl ?_
        refine r_ldc C (-1000001) dX5_hooks_28 m_206 ?_
        refine r_callV0 C (o_X5_finding l X (-1000001 : Int32)) v_X5_finding m_207 [.int (-1000001 : Int32)] [] (50) (Or.inl ⟨0, 4, _, TX5, 8, rfl, rfl, rfl⟩) (fun u7 => [.int u7.1]) (fun u7 => w_X5 u7.2) rfl rfl rfl (Nat.le_of_ble_eq_true rfl) ⟨(Nat.le_of_ble_eq_true rfl), (Nat.le_of_ble_eq_true rfl)⟩ ⟨Nat.zero_le _, Nat.zero_le _⟩ dX5_hooks_30 (fun _ => rfl) (fun _ => rfl) (fun _ => rfl) (fun u7 => ?_)
        exact r_reti (x := u7.1) (rv := (fun u => some (.int u.1))) (hpE := (fun u => w_X5 u.2)) (t0 := (u7.1, u7.2)) C dX5_hooks_33 (by rfl) (by rfl) (by rfl)
      · refine r_aload_n C 0 dX5_hooks_34 rfl ?_
        refine r_get C 0 0 dX5_hooks_35 K_X5 rfl rfl (Nat.le_of_ble_eq_true rfl) rfl m_174 rfl ?_
        refine r_iload_n C 1 dX5_hooks_38 rfl ?_
        refine r_iload_n C 2 dX5_hooks_39 rfl ?_
        refine r_callV C (o_X0_swapHooks l (X 1) a1 a2) v_X0_swapHooks m_277 [1, 2, 3, 4, 5, 6, 7] [.int a1, .int a2] [] (51) (Or.inl ⟨1, 0, _, TX0, 16, rfl, rfl, rfl⟩) (fun u5 => []) (fun u5 => w_X5 (va_up X 1 u5)) rfl rfl rfl rfl rfl (Nat.le_of_ble_eq_true rfl) ⟨(Nat.le_of_ble_eq_true rfl), (Nat.le_of_ble_eq_true rfl)⟩ ⟨Nat.zero_le _, Nat.zero_le _⟩ dX5_hooks_40 (fun _ => rfl) (fun _ => rfl) (fun _ => rfl) (fun u5 => ?_)
        refine r_aload_n C 0 dX5_hooks_43 rfl ?_
        refine r_get C 0 0 dX5_hooks_44 K_X5 rfl rfl (Nat.le_of_ble_eq_true rfl) rfl m_174 rfl ?_
        refine r_iload_n C 1 dX5_hooks_47 rfl ?_
        refine r_callV C (o_X0_hookOf l u5 a1) v_X0_hookOf m_254 [1, 2, 3, 4, 5, 6, 7] [.int a1] [] (51) (Or.inl ⟨1, 0, _, TX0, 16, rfl, rfl, rfl⟩) (fun u6 => [.int u6]) (fun u6 => w_X5 (va_up X 1 u5)) rfl rfl rfl rfl rfl (Nat.le_of_ble_eq_true rfl) ⟨(Nat.le_of_ble_eq_true rfl), (Nat.le_of_ble_eq_true rfl)⟩ ⟨Nat.zero_le _, Nat.zero_le _⟩ dX5_hooks_48 (fun _ => rfl) (fun _ => rfl) (fun _ => rfl) (fun u6 => ?_)
        exact r_reti (x := u6) (rv := (fun u => some (.int u.1))) (hpE := (fun u => w_X5 u.2)) (t0 := (u6, (va_up X 1 u5))) C dX5_hooks_51 (by rfl) (by rfl) (by rfl)
set_option maxRecDepth 100000 in
set_option maxHeartbeats 4000000 in
theorem o_X5_leaves (l : Launch) (X : (Nat → q_St)) (a1 : Int32) : q_Ok l yX5_leaves cX5_leaves 3 (some .int) 1 22 [.ref 50, .int a1] (w_X5 X) (f_X5_leaves X a1) (fun u => some (.int u.1)) (fun u => w_X5 u.2) := by
  refine q_enter (by decide +kernel) (Nat.le_of_ble_eq_true rfl) (fun t p e s m args below meth c dC dI dA A α C => ?_)
  refine r_cut (f_X5_leaves.eq_1 _ _) ?_
  show q_S p l e (q_rm 1 22) s m args below meth c 3 dC dI dA A α (MQ below (q_Q α dC dI dA A ((fun u => some (.int u.1)) t) ((fun u => w_X5 u.2) t)) args s 0 0 A) 0 0 _ t 0 [(0, .ref 50), (1, .int a1)] [] (w_X5 X)
  refine r_iload_n C 1 dX5_leaves_0 rfl ?_
  refine r_if_lt C 10 dX5_leaves_1 (by decide) (fun h1 => ?_) (fun h1 => ?_)
  · refine r_aload_n C 0 dX5_leaves_10 rfl ?_
    refine r_ldc C (-1000001) dX5_leaves_11 m_206 ?_
    refine r_callV0 C (o_X5_finding l X (-1000001 : Int32)) v_X5_finding m_207 [.int (-1000001 : Int32)] [] (50) (Or.inl ⟨0, 4, _, TX5, 8, rfl, rfl, rfl⟩) (fun u1 => [.int u1.1]) (fun u1 => w_X5 u1.2) rfl rfl rfl (Nat.le_of_ble_eq_true rfl) ⟨(Nat.le_of_ble_eq_true rfl), (Nat.le_of_ble_eq_true rfl)⟩ ⟨Nat.zero_le _, Nat.zero_le _⟩ dX5_leaves_13 (fun _ => rfl) (fun _ => rfl) (fun _ => rfl) (fun u1 => ?_)
    exact r_reti (x := u1.1) (rv := (fun u => some (.int u.1))) (hpE := (fun u => w_X5 u.2)) (t0 := (u1.1, u1.2)) C dX5_leaves_16 (by rfl) (by rfl) (by rfl)
  · refine r_iload_n C 1 dX5_leaves_4 rfl ?_
    refine r_bipush C (10) dX5_leaves_5 rfl ?_
    refine r_icmp_le C 17 dX5_leaves_7 (by decide) (fun h7 => ?_) (fun h7 => ?_)
    · refine r_aload_n C 0 dX5_leaves_17 rfl ?_
      refine r_get C 0 0 dX5_leaves_18 K_X5 rfl rfl (Nat.le_of_ble_eq_true rfl) rfl m_174 rfl ?_
      refine r_get C 1 4 dX5_leaves_21 K_X0 rfl rfl (Nat.le_of_ble_eq_true rfl) rfl m_44 rfl ?_
      refine r_istore_n C [(2, .int ((X 1).1 4)), (0, .ref 50), (1, .int a1)] dX5_leaves_24 (Nat.le_of_ble_eq_true rfl) rfl ?_
      refine r_aload_n C 1 dX5_leaves_25 rfl ?_
      refine r_get C 0 0 dX5_leaves_26 K_X5 rfl rfl (Nat.le_of_ble_eq_true rfl) rfl m_174 rfl ?_
      refine r_iload_n C 2 dX5_leaves_29 rfl ?_
      refine r_put C 1 4 _ dX5_leaves_30 K_X0 rfl rfl (Nat.le_of_ble_eq_true rfl) rfl m_44 rfl (fun _ => rfl) (fun _ => rfl) (Nat.le_of_ble_eq_true rfl) rfl ?_
      refine r_iload_n C 0 dX5_leaves_33 rfl ?_
      exact r_reti (x := (X 1).1 4) (rv := (fun u => some (.int u.1))) (hpE := (fun u => w_X5 u.2)) (t0 := ((X 1).1 4, (va_up X 1 ((va_up (X 1).1 4 a1), (X 1).2)))) C dX5_leaves_34 (by rfl) (by rfl) (by rfl)
    · refine r_aload_n C 0 dX5_leaves_10 rfl ?_
      refine r_ldc C (-1000001) dX5_leaves_11 m_206 ?_
      refine r_callV0 C (o_X5_finding l X (-1000001 : Int32)) v_X5_finding m_207 [.int (-1000001 : Int32)] [] (50) (Or.inl ⟨0, 4, _, TX5, 8, rfl, rfl, rfl⟩) (fun u2 => [.int u2.1]) (fun u2 => w_X5 u2.2) rfl rfl rfl (Nat.le_of_ble_eq_true rfl) ⟨(Nat.le_of_ble_eq_true rfl), (Nat.le_of_ble_eq_true rfl)⟩ ⟨Nat.zero_le _, Nat.zero_le _⟩ dX5_leaves_13 (fun _ => rfl) (fun _ => rfl) (fun _ => rfl) (fun u2 => ?_)
      exact r_reti (x := u2.1) (rv := (fun u => some (.int u.1))) (hpE := (fun u => w_X5 u.2)) (t0 := (u2.1, u2.2)) C dX5_leaves_16 (by rfl) (by rfl) (by rfl)
set_option maxRecDepth 100000 in
set_option maxHeartbeats 4000000 in
theorem o_X5_beat (l : Launch) (X : (Nat → q_St)) (a1 : Int32) (a2 : Int32) : q_Ok l yX5_beat cX5_beat 3 (some .int) 2 42 [.ref 50, .int a1, .int a2] (w_X5 X) (f_X5_beat X a1 a2) (fun u => some (.int u.1)) (fun u => w_X5 u.2) := by
  refine q_enter (by decide +kernel) (Nat.le_of_ble_eq_true rfl) (fun t p e s m args below meth c dC dI dA A α C => ?_)
  refine r_cut (f_X5_beat.eq_1 _ _ _) ?_
  show q_S p l e (q_rm 2 42) s m args below meth c 3 dC dI dA A α (MQ below (q_Q α dC dI dA A ((fun u => some (.int u.1)) t) ((fun u => w_X5 u.2) t)) args s 0 0 A) 0 0 _ t 0 [(0, .ref 50), (1, .int a1), (2, .int a2)] [] (w_X5 X)
  refine r_aload_n C 0 dX5_beat_0 rfl ?_
  refine r_get C 0 0 dX5_beat_1 K_X5 rfl rfl (Nat.le_of_ble_eq_true rfl) rfl m_174 rfl ?_
  refine r_iload_n C 1 dX5_beat_4 rfl ?_
  refine r_callV C (o_X0_isCast l (X 1) a1) v_X0_isCast m_289 [1, 2, 3, 4, 5, 6, 7] [.int a1] [] (51) (Or.inl ⟨1, 0, _, TX0, 16, rfl, rfl, rfl⟩) (fun u1 => [.int u1]) (fun u1 => w_X5 X) rfl rfl rfl rfl rfl (Nat.le_of_ble_eq_true rfl) ⟨(Nat.le_of_ble_eq_true rfl), (Nat.le_of_ble_eq_true rfl)⟩ ⟨Nat.zero_le _, Nat.zero_le _⟩ dX5_beat_5 (fun _ => rfl) (fun _ => rfl) (fun _ => rfl) (fun u1 => ?_)
  refine r_if_eq C 22 dX5_beat_8 (by decide) (fun h8 => ?_) (fun h8 => ?_)
  · refine r_aload_n C 0 dX5_beat_22 rfl ?_
    refine r_ldc C (-1000001) dX5_beat_23 m_206 ?_
    refine r_callV0 C (o_X5_finding l X (-1000001 : Int32)) v_X5_finding m_207 [.int (-1000001 : Int32)] [] (50) (Or.inl ⟨0, 4, _, TX5, 8, rfl, rfl, rfl⟩) (fun u2 => [.int u2.1]) (fun u2 => w_X5 u2.2) rfl rfl rfl (Nat.le_of_ble_eq_true rfl) ⟨(Nat.le_of_ble_eq_true rfl), (Nat.le_of_ble_eq_true rfl)⟩ ⟨Nat.zero_le _, Nat.zero_le _⟩ dX5_beat_25 (fun _ => rfl) (fun _ => rfl) (fun _ => rfl) (fun u2 => ?_)
    exact r_reti (x := u2.1) (rv := (fun u => some (.int u.1))) (hpE := (fun u => w_X5 u.2)) (t0 := (u2.1, u2.2)) C dX5_beat_28 (by rfl) (by rfl) (by rfl)
  · refine r_aload_n C 0 dX5_beat_11 rfl ?_
    refine r_get C 0 0 dX5_beat_12 K_X5 rfl rfl (Nat.le_of_ble_eq_true rfl) rfl m_174 rfl ?_
    refine r_iload_n C 2 dX5_beat_15 rfl ?_
    refine r_callV C (o_X0_isDollOrNone l (X 1) a2) v_X0_isDollOrNone m_293 [1, 2, 3, 4, 5, 6, 7] [.int a2] [] (51) (Or.inl ⟨1, 0, _, TX0, 16, rfl, rfl, rfl⟩) (fun u3 => [.int u3]) (fun u3 => w_X5 X) rfl rfl rfl rfl rfl (Nat.le_of_ble_eq_true rfl) ⟨(Nat.le_of_ble_eq_true rfl), (Nat.le_of_ble_eq_true rfl)⟩ ⟨Nat.zero_le _, Nat.zero_le _⟩ dX5_beat_16 (fun _ => rfl) (fun _ => rfl) (fun _ => rfl) (fun u3 => ?_)
    refine r_if_ne C 29 dX5_beat_19 (by decide) (fun h19 => ?_) (fun h19 => ?_)
    · refine r_aload_n C 0 dX5_beat_22 rfl ?_
      refine r_ldc C (-1000001) dX5_beat_23 m_206 ?_
      refine r_callV0 C (o_X5_finding l X (-1000001 : Int32)) v_X5_finding m_207 [.int (-1000001 : Int32)] [] (50) (Or.inl ⟨0, 4, _, TX5, 8, rfl, rfl, rfl⟩) (fun u6 => [.int u6.1]) (fun u6 => w_X5 u6.2) rfl rfl rfl (Nat.le_of_ble_eq_true rfl) ⟨(Nat.le_of_ble_eq_true rfl), (Nat.le_of_ble_eq_true rfl)⟩ ⟨Nat.zero_le _, Nat.zero_le _⟩ dX5_beat_25 (fun _ => rfl) (fun _ => rfl) (fun _ => rfl) (fun u6 => ?_)
      exact r_reti (x := u6.1) (rv := (fun u => some (.int u.1))) (hpE := (fun u => w_X5 u.2)) (t0 := (u6.1, u6.2)) C dX5_beat_28 (by rfl) (by rfl) (by rfl)
    · refine r_aload_n C 0 dX5_beat_29 rfl ?_
      refine r_get C 0 0 dX5_beat_30 K_X5 rfl rfl (Nat.le_of_ble_eq_true rfl) rfl m_174 rfl ?_
      refine r_get C 1 1 dX5_beat_33 K_X0 rfl rfl (Nat.le_of_ble_eq_true rfl) rfl m_36 rfl ?_
      refine r_bipush C (12) dX5_beat_36 rfl ?_
      refine r_icmp_lt C 48 dX5_beat_38 (by decide) (fun h38 => ?_) (fun h38 => ?_)
      · refine r_aload_n C 0 dX5_beat_48 rfl ?_
        refine r_get C 0 0 dX5_beat_49 K_X5 rfl rfl (Nat.le_of_ble_eq_true rfl) rfl m_174 rfl ?_
        refine r_iload_n C 1 dX5_beat_52 rfl ?_
        refine r_iload_n C 2 dX5_beat_53 rfl ?_
        refine r_callV C (o_X0_addBeat l (X 1) a1 a2) v_X0_addBeat m_297 [1, 2, 3, 4, 5, 6, 7] [.int a1, .int a2] [] (51) (Or.inl ⟨1, 0, _, TX0, 16, rfl, rfl, rfl⟩) (fun u4 => [.int u4.1]) (fun u4 => w_X5 (va_up X 1 u4.2)) rfl rfl rfl rfl rfl (Nat.le_of_ble_eq_true rfl) ⟨(Nat.le_of_ble_eq_true rfl), (Nat.le_of_ble_eq_true rfl)⟩ ⟨Nat.zero_le _, Nat.zero_le _⟩ dX5_beat_54 (fun _ => rfl) (fun _ => rfl) (fun _ => rfl) (fun u4 => ?_)
        exact r_reti (x := u4.1) (rv := (fun u => some (.int u.1))) (hpE := (fun u => w_X5 u.2)) (t0 := (u4.1, (va_up X 1 u4.2))) C dX5_beat_57 (by rfl) (by rfl) (by rfl)
      · refine r_aload_n C 0 dX5_beat_41 rfl ?_
        refine r_ldc C (-1000002) dX5_beat_42 m_211 ?_
        refine r_callV0 C (o_X5_finding l X (-1000002 : Int32)) v_X5_finding m_207 [.int (-1000002 : Int32)] [] (50) (Or.inl ⟨0, 4, _, TX5, 8, rfl, rfl, rfl⟩) (fun u5 => [.int u5.1]) (fun u5 => w_X5 u5.2) rfl rfl rfl (Nat.le_of_ble_eq_true rfl) ⟨(Nat.le_of_ble_eq_true rfl), (Nat.le_of_ble_eq_true rfl)⟩ ⟨Nat.zero_le _, Nat.zero_le _⟩ dX5_beat_44 (fun _ => rfl) (fun _ => rfl) (fun _ => rfl) (fun u5 => ?_)
        exact r_reti (x := u5.1) (rv := (fun u => some (.int u.1))) (hpE := (fun u => w_X5 u.2)) (t0 := (u5.1, u5.2)) C dX5_beat_47 (by rfl) (by rfl) (by rfl)
set_option maxRecDepth 100000 in
set_option maxHeartbeats 4000000 in
theorem o_X5_told (l : Launch) (X : (Nat → q_St)) (a1 : Int32) (a2 : Int32) : q_Ok l yX5_told cX5_told 3 (some .int) 4 89 [.ref 50, .int a1, .int a2] (w_X5 X) (f_X5_told X a1 a2) (fun u => some (.int u.1)) (fun u => w_X5 u.2) := by
  refine q_enter (by decide +kernel) (Nat.le_of_ble_eq_true rfl) (fun t p e s m args below meth c dC dI dA A α C => ?_)
  refine r_cut (f_X5_told.eq_1 _ _ _) ?_
  show q_S p l e (q_rm 4 89) s m args below meth c 3 dC dI dA A α (MQ below (q_Q α dC dI dA A ((fun u => some (.int u.1)) t) ((fun u => w_X5 u.2) t)) args s 0 0 A) 0 0 _ t 0 [(0, .ref 50), (1, .int a1), (2, .int a2)] [] (w_X5 X)
  refine r_aload_n C 0 dX5_told_0 rfl ?_
  refine r_get C 0 0 dX5_told_1 K_X5 rfl rfl (Nat.le_of_ble_eq_true rfl) rfl m_174 rfl ?_
  refine r_iload_n C 1 dX5_told_4 rfl ?_
  refine r_callV C (o_X0_isBeat l (X 1) a1) v_X0_isBeat m_305 [1, 2, 3, 4, 5, 6, 7] [.int a1] [] (51) (Or.inl ⟨1, 0, _, TX0, 16, rfl, rfl, rfl⟩) (fun u1 => [.int u1]) (fun u1 => w_X5 X) rfl rfl rfl rfl rfl (Nat.le_of_ble_eq_true rfl) ⟨(Nat.le_of_ble_eq_true rfl), (Nat.le_of_ble_eq_true rfl)⟩ ⟨Nat.zero_le _, Nat.zero_le _⟩ dX5_told_5 (fun _ => rfl) (fun _ => rfl) (fun _ => rfl) (fun u1 => ?_)
  refine r_if_ne C 18 dX5_told_8 (by decide) (fun h8 => ?_) (fun h8 => ?_)
  · refine r_aload_n C 0 dX5_told_11 rfl ?_
    refine r_ldc C (-1000001) dX5_told_12 m_206 ?_
    refine r_callV0 C (o_X5_finding l X (-1000001 : Int32)) v_X5_finding m_207 [.int (-1000001 : Int32)] [] (50) (Or.inl ⟨0, 4, _, TX5, 8, rfl, rfl, rfl⟩) (fun u6 => [.int u6.1]) (fun u6 => w_X5 u6.2) rfl rfl rfl (Nat.le_of_ble_eq_true rfl) ⟨(Nat.le_of_ble_eq_true rfl), (Nat.le_of_ble_eq_true rfl)⟩ ⟨Nat.zero_le _, Nat.zero_le _⟩ dX5_told_14 (fun _ => rfl) (fun _ => rfl) (fun _ => rfl) (fun u6 => ?_)
    exact r_reti (x := u6.1) (rv := (fun u => some (.int u.1))) (hpE := (fun u => w_X5 u.2)) (t0 := (u6.1, u6.2)) C dX5_told_17 (by rfl) (by rfl) (by rfl)
  · refine r_iload_n C 2 dX5_told_18 rfl ?_
    refine r_tsw C (0) 44 dX5_told_19 (by decide) (by decide) rfl (by decide) (fun h19_0 => ?_) (fun h19_0 => ?_)
    · refine r_aload_n C 0 dX5_told_44 rfl ?_
      refine r_get C 0 0 dX5_told_45 K_X5 rfl rfl (Nat.le_of_ble_eq_true rfl) rfl m_174 rfl ?_
      refine r_iload_n C 1 dX5_told_48 rfl ?_
      refine r_callV C (o_X0_castOf l (X 1) a1) v_X0_castOf m_309 [1, 2, 3, 4, 5, 6, 7] [.int a1] [] (51) (Or.inl ⟨1, 0, _, TX0, 16, rfl, rfl, rfl⟩) (fun u2 => [.int u2]) (fun u2 => w_X5 X) rfl rfl rfl rfl rfl (Nat.le_of_ble_eq_true rfl) ⟨(Nat.le_of_ble_eq_true rfl), (Nat.le_of_ble_eq_true rfl)⟩ ⟨Nat.zero_le _, Nat.zero_le _⟩ dX5_told_49 (fun _ => rfl) (fun _ => rfl) (fun _ => rfl) (fun u2 => ?_)
      exact r_reti (x := u2) (rv := (fun u => some (.int u.1))) (hpE := (fun u => w_X5 u.2)) (t0 := (u2, X)) C dX5_told_52 (by rfl) (by rfl) (by rfl)
    refine r_tsw C (1) 53 dX5_told_19 (by decide) (by decide) rfl (by decide) (fun h19_1 => ?_) (fun h19_1 => ?_)
    · refine r_aload_n C 0 dX5_told_53 rfl ?_
      refine r_get C 0 0 dX5_told_54 K_X5 rfl rfl (Nat.le_of_ble_eq_true rfl) rfl m_174 rfl ?_
      refine r_iload_n C 1 dX5_told_57 rfl ?_
      refine r_callV C (o_X0_speakerOf l (X 1) a1) v_X0_speakerOf m_314 [1, 2, 3, 4, 5, 6, 7] [.int a1] [] (51) (Or.inl ⟨1, 0, _, TX0, 16, rfl, rfl, rfl⟩) (fun u3 => [.int u3]) (fun u3 => w_X5 X) rfl rfl rfl rfl rfl (Nat.le_of_ble_eq_true rfl) ⟨(Nat.le_of_ble_eq_true rfl), (Nat.le_of_ble_eq_true rfl)⟩ ⟨Nat.zero_le _, Nat.zero_le _⟩ dX5_told_58 (fun _ => rfl) (fun _ => rfl) (fun _ => rfl) (fun u3 => ?_)
      exact r_reti (x := u3) (rv := (fun u => some (.int u.1))) (hpE := (fun u => w_X5 u.2)) (t0 := (u3, X)) C dX5_told_61 (by rfl) (by rfl) (by rfl)
    refine r_tsw C (2) 62 dX5_told_19 (by decide) (by decide) rfl (by decide) (fun h19_2 => ?_) (fun h19_2 => ?_)
    · refine r_aload_n C 0 dX5_told_62 rfl ?_
      refine r_get C 0 0 dX5_told_63 K_X5 rfl rfl (Nat.le_of_ble_eq_true rfl) rfl m_174 rfl ?_
      refine r_iload_n C 1 dX5_told_66 rfl ?_
      refine r_callV C (o_X0_isWrong l (X 1) a1) v_X0_isWrong m_318 [1, 2, 3, 4, 5, 6, 7] [.int a1] [] (51) (Or.inl ⟨1, 0, _, TX0, 16, rfl, rfl, rfl⟩) (fun u4 => [.int u4]) (fun u4 => w_X5 X) rfl rfl rfl rfl rfl (Nat.le_of_ble_eq_true rfl) ⟨(Nat.le_of_ble_eq_true rfl), (Nat.le_of_ble_eq_true rfl)⟩ ⟨Nat.zero_le _, Nat.zero_le _⟩ dX5_told_67 (fun _ => rfl) (fun _ => rfl) (fun _ => rfl) (fun u4 => ?_)
      refine r_if_eq C 77 dX5_told_70 (by decide) (fun h70 => ?_) (fun h70 => ?_)
      · refine r_iconst C (0) dX5_told_77 rfl ?_
        exact r_reti (x := (0 : Int32)) (rv := (fun u => some (.int u.1))) (hpE := (fun u => w_X5 u.2)) (t0 := ((0 : Int32), X)) C dX5_told_78 (by rfl) (by rfl) (by rfl)
      · refine r_iconst C (1) dX5_told_73 rfl ?_
        refine r_goto C 78 dX5_told_74 (by decide) ?_
        exact r_reti (x := (1 : Int32)) (rv := (fun u => some (.int u.1))) (hpE := (fun u => w_X5 u.2)) (t0 := ((1 : Int32), X)) C dX5_told_78 (by rfl) (by rfl) (by rfl)
    have g0 := True.intro
    have g19_0 := q_neI h19_0 (z := 0) (by decide)
    have g19_1 := q_neI h19_1 (z := 1) (by decide)
    have g19_2 := q_neI h19_2 (z := 2) (by decide)
    refine r_tswD C 79 dX5_told_19 (by omega) (by decide) ?_
    refine r_aload_n C 0 dX5_told_79 rfl ?_
    refine r_ldc C (-1000001) dX5_told_80 m_206 ?_
    refine r_callV0 C (o_X5_finding l X (-1000001 : Int32)) v_X5_finding m_207 [.int (-1000001 : Int32)] [] (50) (Or.inl ⟨0, 4, _, TX5, 8, rfl, rfl, rfl⟩) (fun u5 => [.int u5.1]) (fun u5 => w_X5 u5.2) rfl rfl rfl (Nat.le_of_ble_eq_true rfl) ⟨(Nat.le_of_ble_eq_true rfl), (Nat.le_of_ble_eq_true rfl)⟩ ⟨Nat.zero_le _, Nat.zero_le _⟩ dX5_told_82 (fun _ => rfl) (fun _ => rfl) (fun _ => rfl) (fun u5 => ?_)
    exact r_reti (x := u5.1) (rv := (fun u => some (.int u.1))) (hpE := (fun u => w_X5 u.2)) (t0 := (u5.1, u5.2)) C dX5_told_85 (by rfl) (by rfl) (by rfl)
set_option maxRecDepth 100000 in
set_option maxHeartbeats 4000000 in
theorem k_X5_tell_55 {p : Program} {l : Launch} {e : Env} {s : State} {m : MethodId} {args : Array Value} {below : List Frame} {meth : Method} {c : Code} {dC : Nat → ClassId} {dI : Nat → Nat → Nat} {dA : Nat → ClassId} {A : Nat → Prop} {α : Nat → Nat} {t : Int32 × (Nat → q_St)} (C : q_Cx p s m args meth c cX5_tell 5 RX5 (some .int) "tell" dC dI dA A α) (X : (Nat → q_St)) (a1 : Int32) (a2 : Int32) (a3 : Int32)  : ∀ (x1 : Int32) (x2 : Int32) (x3 : Int32) (X' : (Nat → q_St)), q_S p l e (q_rm 2 43) s m args below meth c 5 dC dI dA A α (MQ below (q_Q α dC dI dA A ((fun u => some (.int u.1)) t) ((fun u => w_X5 u.2) t)) args s 0 0 A) 0 0 (f_X5_tell_55 X a1 a2 a3  x1 x2 x3 X') t 55 [(0, .ref 50), (1, .int x1), (2, .int x2), (3, .int x3)] [] (w_X5 X') := by
  intro x1 x2 x3 X'
  refine r_cut (f_X5_tell_55.eq_1 _ _ _ _ _ _ _ _) ?_
  refine r_iload_n C 2 dX5_tell_55 rfl ?_
  refine r_iconst C (1) dX5_tell_56 rfl ?_
  refine r_icmp_ne C 93 dX5_tell_57 (by decide) (fun h57 => ?_) (fun h57 => ?_)
  · refine r_aload_n C 0 dX5_tell_60 rfl ?_
    refine r_get C 0 0 dX5_tell_61 K_X5 rfl rfl (Nat.le_of_ble_eq_true rfl) rfl m_174 rfl ?_
    refine r_iload_n C 3 dX5_tell_64 rfl ?_
    refine r_callV C (o_X0_isDollOrNone l (X' 1) x3) v_X0_isDollOrNone m_293 [1, 2, 3, 4, 5, 6, 7] [.int x3] [] (51) (Or.inl ⟨1, 0, _, TX0, 16, rfl, rfl, rfl⟩) (fun u7 => [.int u7]) (fun u7 => w_X5 X') rfl rfl rfl rfl rfl (Nat.le_of_ble_eq_true rfl) ⟨(Nat.le_of_ble_eq_true rfl), (Nat.le_of_ble_eq_true rfl)⟩ ⟨Nat.zero_le _, Nat.zero_le _⟩ dX5_tell_65 (fun _ => rfl) (fun _ => rfl) (fun _ => rfl) (fun u7 => ?_)
    refine r_if_eq C 93 dX5_tell_68 (by decide) (fun h68 => ?_) (fun h68 => ?_)
    · refine r_aload_n C 0 dX5_tell_93 rfl ?_
      refine r_ldc C (-1000001) dX5_tell_94 m_206 ?_
      refine r_callV0 C (o_X5_finding l X' (-1000001 : Int32)) v_X5_finding m_207 [.int (-1000001 : Int32)] [] (50) (Or.inl ⟨0, 4, _, TX5, 8, rfl, rfl, rfl⟩) (fun u8 => [.int u8.1]) (fun u8 => w_X5 u8.2) rfl rfl rfl (Nat.le_of_ble_eq_true rfl) ⟨(Nat.le_of_ble_eq_true rfl), (Nat.le_of_ble_eq_true rfl)⟩ ⟨Nat.zero_le _, Nat.zero_le _⟩ dX5_tell_96 (fun _ => rfl) (fun _ => rfl) (fun _ => rfl) (fun u8 => ?_)
      refine r_istore C [(4, .int u8.1), (0, .ref 50), (1, .int x1), (2, .int x2), (3, .int x3)] dX5_tell_99 (Nat.le_of_ble_eq_true rfl) rfl ?_
      refine r_iload C 0 dX5_tell_101 rfl ?_
      exact r_reti (x := u8.1) (rv := (fun u => some (.int u.1))) (hpE := (fun u => w_X5 u.2)) (t0 := (u8.1, u8.2)) C dX5_tell_103 (by rfl) (by rfl) (by rfl)
    · refine r_aload_n C 0 dX5_tell_71 rfl ?_
      refine r_get C 0 0 dX5_tell_72 K_X5 rfl rfl (Nat.le_of_ble_eq_true rfl) rfl m_174 rfl ?_
      refine r_iload_n C 1 dX5_tell_75 rfl ?_
      refine r_callV C (o_X0_speakerOf l (X' 1) x1) v_X0_speakerOf m_314 [1, 2, 3, 4, 5, 6, 7] [.int x1] [] (51) (Or.inl ⟨1, 0, _, TX0, 16, rfl, rfl, rfl⟩) (fun u9 => [.int u9]) (fun u9 => w_X5 X') rfl rfl rfl rfl rfl (Nat.le_of_ble_eq_true rfl) ⟨(Nat.le_of_ble_eq_true rfl), (Nat.le_of_ble_eq_true rfl)⟩ ⟨Nat.zero_le _, Nat.zero_le _⟩ dX5_tell_76 (fun _ => rfl) (fun _ => rfl) (fun _ => rfl) (fun u9 => ?_)
      refine r_istore C [(4, .int u9), (0, .ref 50), (1, .int x1), (2, .int x2), (3, .int x3)] dX5_tell_79 (Nat.le_of_ble_eq_true rfl) rfl ?_
      refine r_aload_n C 1 dX5_tell_81 rfl ?_
      refine r_get C 0 0 dX5_tell_82 K_X5 rfl rfl (Nat.le_of_ble_eq_true rfl) rfl m_174 rfl ?_
      refine r_iload_n C 2 dX5_tell_85 rfl ?_
      refine r_iload_n C 4 dX5_tell_86 rfl ?_
      refine r_callV C (o_X0_setSpeaker l (X' 1) x1 x3) v_X0_setSpeaker m_349 [1, 2, 3, 4, 5, 6, 7] [.int x1, .int x3] [] (51) (Or.inl ⟨1, 0, _, TX0, 16, rfl, rfl, rfl⟩) (fun u10 => []) (fun u10 => w_X5 (va_up X' 1 u10)) rfl rfl rfl rfl rfl (Nat.le_of_ble_eq_true rfl) ⟨(Nat.le_of_ble_eq_true rfl), (Nat.le_of_ble_eq_true rfl)⟩ ⟨Nat.zero_le _, Nat.zero_le _⟩ dX5_tell_87 (fun _ => rfl) (fun _ => rfl) (fun _ => rfl) (fun u10 => ?_)
      refine r_goto C 101 dX5_tell_90 (by decide) ?_
      refine r_iload C 0 dX5_tell_101 rfl ?_
      exact r_reti (x := u9) (rv := (fun u => some (.int u.1))) (hpE := (fun u => w_X5 u.2)) (t0 := (u9, (va_up X' 1 u10))) C dX5_tell_103 (by rfl) (by rfl) (by rfl)
  · refine r_aload_n C 0 dX5_tell_93 rfl ?_
    refine r_ldc C (-1000001) dX5_tell_94 m_206 ?_
    refine r_callV0 C (o_X5_finding l X' (-1000001 : Int32)) v_X5_finding m_207 [.int (-1000001 : Int32)] [] (50) (Or.inl ⟨0, 4, _, TX5, 8, rfl, rfl, rfl⟩) (fun u6 => [.int u6.1]) (fun u6 => w_X5 u6.2) rfl rfl rfl (Nat.le_of_ble_eq_true rfl) ⟨(Nat.le_of_ble_eq_true rfl), (Nat.le_of_ble_eq_true rfl)⟩ ⟨Nat.zero_le _, Nat.zero_le _⟩ dX5_tell_96 (fun _ => rfl) (fun _ => rfl) (fun _ => rfl) (fun u6 => ?_)
    refine r_istore C [(4, .int u6.1), (0, .ref 50), (1, .int x1), (2, .int x2), (3, .int x3)] dX5_tell_99 (Nat.le_of_ble_eq_true rfl) rfl ?_
    refine r_iload C 0 dX5_tell_101 rfl ?_
    exact r_reti (x := u6.1) (rv := (fun u => some (.int u.1))) (hpE := (fun u => w_X5 u.2)) (t0 := (u6.1, u6.2)) C dX5_tell_103 (by rfl) (by rfl) (by rfl)
set_option maxRecDepth 100000 in
set_option maxHeartbeats 4000000 in
theorem o_X5_tell (l : Launch) (X : (Nat → q_St)) (a1 : Int32) (a2 : Int32) (a3 : Int32) : q_Ok l yX5_tell cX5_tell 5 (some .int) 2 43 [.ref 50, .int a1, .int a2, .int a3] (w_X5 X) (f_X5_tell X a1 a2 a3) (fun u => some (.int u.1)) (fun u => w_X5 u.2) := by
  refine q_enter (by decide +kernel) (Nat.le_of_ble_eq_true rfl) (fun t p e s m args below meth c dC dI dA A α C => ?_)
  refine r_cut (f_X5_tell.eq_1 _ _ _ _) ?_
  show q_S p l e (q_rm 2 43) s m args below meth c 5 dC dI dA A α (MQ below (q_Q α dC dI dA A ((fun u => some (.int u.1)) t) ((fun u => w_X5 u.2) t)) args s 0 0 A) 0 0 _ t 0 [(0, .ref 50), (1, .int a1), (2, .int a2), (3, .int a3)] [] (w_X5 X)
  refine r_aload_n C 0 dX5_tell_0 rfl ?_
  refine r_get C 0 0 dX5_tell_1 K_X5 rfl rfl (Nat.le_of_ble_eq_true rfl) rfl m_174 rfl ?_
  refine r_iload_n C 1 dX5_tell_4 rfl ?_
  refine r_callV C (o_X0_isBeat l (X 1) a1) v_X0_isBeat m_305 [1, 2, 3, 4, 5, 6, 7] [.int a1] [] (51) (Or.inl ⟨1, 0, _, TX0, 16, rfl, rfl, rfl⟩) (fun u1 => [.int u1]) (fun u1 => w_X5 X) rfl rfl rfl rfl rfl (Nat.le_of_ble_eq_true rfl) ⟨(Nat.le_of_ble_eq_true rfl), (Nat.le_of_ble_eq_true rfl)⟩ ⟨Nat.zero_le _, Nat.zero_le _⟩ dX5_tell_5 (fun _ => rfl) (fun _ => rfl) (fun _ => rfl) (fun u1 => ?_)
  refine r_if_ne C 18 dX5_tell_8 (by decide) (fun h8 => ?_) (fun h8 => ?_)
  · refine r_aload_n C 0 dX5_tell_11 rfl ?_
    refine r_ldc C (-1000001) dX5_tell_12 m_206 ?_
    refine r_callV0 C (o_X5_finding l X (-1000001 : Int32)) v_X5_finding m_207 [.int (-1000001 : Int32)] [] (50) (Or.inl ⟨0, 4, _, TX5, 8, rfl, rfl, rfl⟩) (fun u5 => [.int u5.1]) (fun u5 => w_X5 u5.2) rfl rfl rfl (Nat.le_of_ble_eq_true rfl) ⟨(Nat.le_of_ble_eq_true rfl), (Nat.le_of_ble_eq_true rfl)⟩ ⟨Nat.zero_le _, Nat.zero_le _⟩ dX5_tell_14 (fun _ => rfl) (fun _ => rfl) (fun _ => rfl) (fun u5 => ?_)
    exact r_reti (x := u5.1) (rv := (fun u => some (.int u.1))) (hpE := (fun u => w_X5 u.2)) (t0 := (u5.1, u5.2)) C dX5_tell_17 (by rfl) (by rfl) (by rfl)
  · refine r_iload_n C 2 dX5_tell_18 rfl ?_
    refine r_if_ne C 55 dX5_tell_19 (by decide) (fun h19 => ?_) (fun h19 => ?_)
    · refine r_aload_n C 0 dX5_tell_22 rfl ?_
      refine r_get C 0 0 dX5_tell_23 K_X5 rfl rfl (Nat.le_of_ble_eq_true rfl) rfl m_174 rfl ?_
      refine r_iload_n C 3 dX5_tell_26 rfl ?_
      refine r_callV C (o_X0_isCast l (X 1) a3) v_X0_isCast m_289 [1, 2, 3, 4, 5, 6, 7] [.int a3] [] (51) (Or.inl ⟨1, 0, _, TX0, 16, rfl, rfl, rfl⟩) (fun u2 => [.int u2]) (fun u2 => w_X5 X) rfl rfl rfl rfl rfl (Nat.le_of_ble_eq_true rfl) ⟨(Nat.le_of_ble_eq_true rfl), (Nat.le_of_ble_eq_true rfl)⟩ ⟨Nat.zero_le _, Nat.zero_le _⟩ dX5_tell_27 (fun _ => rfl) (fun _ => rfl) (fun _ => rfl) (fun u2 => ?_)
      refine r_if_eq C 55 dX5_tell_30 (by decide) (fun h30 => ?_) (fun h30 => ?_)
      · exact k_X5_tell_55 C X a1 a2 a3   a1 a2 a3 X
      · refine r_aload_n C 0 dX5_tell_33 rfl ?_
        refine r_get C 0 0 dX5_tell_34 K_X5 rfl rfl (Nat.le_of_ble_eq_true rfl) rfl m_174 rfl ?_
        refine r_iload_n C 1 dX5_tell_37 rfl ?_
        refine r_callV C (o_X0_castOf l (X 1) a1) v_X0_castOf m_309 [1, 2, 3, 4, 5, 6, 7] [.int a1] [] (51) (Or.inl ⟨1, 0, _, TX0, 16, rfl, rfl, rfl⟩) (fun u3 => [.int u3]) (fun u3 => w_X5 X) rfl rfl rfl rfl rfl (Nat.le_of_ble_eq_true rfl) ⟨(Nat.le_of_ble_eq_true rfl), (Nat.le_of_ble_eq_true rfl)⟩ ⟨Nat.zero_le _, Nat.zero_le _⟩ dX5_tell_38 (fun _ => rfl) (fun _ => rfl) (fun _ => rfl) (fun u3 => ?_)
        refine r_istore C [(4, .int u3), (0, .ref 50), (1, .int a1), (2, .int a2), (3, .int a3)] dX5_tell_41 (Nat.le_of_ble_eq_true rfl) rfl ?_
        refine r_aload_n C 1 dX5_tell_43 rfl ?_
        refine r_get C 0 0 dX5_tell_44 K_X5 rfl rfl (Nat.le_of_ble_eq_true rfl) rfl m_174 rfl ?_
        refine r_iload_n C 2 dX5_tell_47 rfl ?_
        refine r_iload_n C 4 dX5_tell_48 rfl ?_
        refine r_callV C (o_X0_setCast l (X 1) a1 a3) v_X0_setCast m_345 [1, 2, 3, 4, 5, 6, 7] [.int a1, .int a3] [] (51) (Or.inl ⟨1, 0, _, TX0, 16, rfl, rfl, rfl⟩) (fun u4 => []) (fun u4 => w_X5 (va_up X 1 u4)) rfl rfl rfl rfl rfl (Nat.le_of_ble_eq_true rfl) ⟨(Nat.le_of_ble_eq_true rfl), (Nat.le_of_ble_eq_true rfl)⟩ ⟨Nat.zero_le _, Nat.zero_le _⟩ dX5_tell_49 (fun _ => rfl) (fun _ => rfl) (fun _ => rfl) (fun u4 => ?_)
        refine r_goto C 101 dX5_tell_52 (by decide) ?_
        refine r_iload C 0 dX5_tell_101 rfl ?_
        exact r_reti (x := u3) (rv := (fun u => some (.int u.1))) (hpE := (fun u => w_X5 u.2)) (t0 := (u3, (va_up X 1 u4))) C dX5_tell_103 (by rfl) (by rfl) (by rfl)
    · exact k_X5_tell_55 C X a1 a2 a3   a1 a2 a3 X
set_option maxRecDepth 100000 in
set_option maxHeartbeats 4000000 in
theorem o_X5_cut (l : Launch) (X : (Nat → q_St)) (a1 : Int32) : q_Ok l yX5_cut cX5_cut 2 (some .int) 3 65 [.ref 50, .int a1] (w_X5 X) (f_X5_cut X a1) (fun u => some (.int u.1)) (fun u => w_X5 u.2) := by
  refine q_enter (by decide +kernel) (Nat.le_of_ble_eq_true rfl) (fun t p e s m args below meth c dC dI dA A α C => ?_)
  refine r_cut (f_X5_cut.eq_1 _ _) ?_
  show q_S p l e (q_rm 3 65) s m args below meth c 2 dC dI dA A α (MQ below (q_Q α dC dI dA A ((fun u => some (.int u.1)) t) ((fun u => w_X5 u.2) t)) args s 0 0 A) 0 0 _ t 0 [(0, .ref 50), (1, .int a1)] [] (w_X5 X)
  refine r_aload_n C 0 dX5_cut_0 rfl ?_
  refine r_get C 0 0 dX5_cut_1 K_X5 rfl rfl (Nat.le_of_ble_eq_true rfl) rfl m_174 rfl ?_
  refine r_iload_n C 1 dX5_cut_4 rfl ?_
  refine r_callV C (o_X0_isBeat l (X 1) a1) v_X0_isBeat m_305 [1, 2, 3, 4, 5, 6, 7] [.int a1] [] (51) (Or.inl ⟨1, 0, _, TX0, 16, rfl, rfl, rfl⟩) (fun u1 => [.int u1]) (fun u1 => w_X5 X) rfl rfl rfl rfl rfl (Nat.le_of_ble_eq_true rfl) ⟨(Nat.le_of_ble_eq_true rfl), (Nat.le_of_ble_eq_true rfl)⟩ ⟨Nat.zero_le _, Nat.zero_le _⟩ dX5_cut_5 (fun _ => rfl) (fun _ => rfl) (fun _ => rfl) (fun u1 => ?_)
  refine r_if_ne C 18 dX5_cut_8 (by decide) (fun h8 => ?_) (fun h8 => ?_)
  · refine r_aload_n C 0 dX5_cut_11 rfl ?_
    refine r_ldc C (-1000001) dX5_cut_12 m_206 ?_
    refine r_callV0 C (o_X5_finding l X (-1000001 : Int32)) v_X5_finding m_207 [.int (-1000001 : Int32)] [] (50) (Or.inl ⟨0, 4, _, TX5, 8, rfl, rfl, rfl⟩) (fun u3 => [.int u3.1]) (fun u3 => w_X5 u3.2) rfl rfl rfl (Nat.le_of_ble_eq_true rfl) ⟨(Nat.le_of_ble_eq_true rfl), (Nat.le_of_ble_eq_true rfl)⟩ ⟨Nat.zero_le _, Nat.zero_le _⟩ dX5_cut_14 (fun _ => rfl) (fun _ => rfl) (fun _ => rfl) (fun u3 => ?_)
    exact r_reti (x := u3.1) (rv := (fun u => some (.int u.1))) (hpE := (fun u => w_X5 u.2)) (t0 := (u3.1, u3.2)) C dX5_cut_17 (by rfl) (by rfl) (by rfl)
  · refine r_aload_n C 0 dX5_cut_18 rfl ?_
    refine r_get C 0 0 dX5_cut_19 K_X5 rfl rfl (Nat.le_of_ble_eq_true rfl) rfl m_174 rfl ?_
    refine r_iload_n C 1 dX5_cut_22 rfl ?_
    refine r_callV C (o_X0_dropBeat l (X 1) a1) v_X0_dropBeat m_357 [1, 2, 3, 4, 5, 6, 7] [.int a1] [] (51) (Or.inl ⟨1, 0, _, TX0, 16, rfl, rfl, rfl⟩) (fun u2 => []) (fun u2 => w_X5 (va_up X 1 u2)) rfl rfl rfl rfl rfl (Nat.le_of_ble_eq_true rfl) ⟨(Nat.le_of_ble_eq_true rfl), (Nat.le_of_ble_eq_true rfl)⟩ ⟨Nat.zero_le _, Nat.zero_le _⟩ dX5_cut_23 (fun _ => rfl) (fun _ => rfl) (fun _ => rfl) (fun u2 => ?_)
    refine r_aload_n C 0 dX5_cut_26 rfl ?_
    refine r_get C 0 0 dX5_cut_27 K_X5 rfl rfl (Nat.le_of_ble_eq_true rfl) rfl m_174 rfl ?_
    refine r_get C 1 1 dX5_cut_30 K_X0 rfl rfl (Nat.le_of_ble_eq_true rfl) rfl m_36 rfl ?_
    exact r_reti (x := u2.1 1) (rv := (fun u => some (.int u.1))) (hpE := (fun u => w_X5 u.2)) (t0 := (u2.1 1, (va_up X 1 u2))) C dX5_cut_33 (by rfl) (by rfl) (by rfl)
set_option maxRecDepth 100000 in
set_option maxHeartbeats 4000000 in
theorem o_X5_wrong (l : Launch) (X : (Nat → q_St)) : q_Ok l yX5_wrong cX5_wrong 1 (some .int) 5 111 [.ref 50] (w_X5 X) (f_X5_wrong X) (fun u => some (.int u)) (fun u => w_X5 X) := by
  refine q_enter (by decide +kernel) (Nat.le_of_ble_eq_true rfl) (fun t p e s m args below meth c dC dI dA A α C => ?_)
  refine r_cut (f_X5_wrong.eq_1 _) ?_
  show q_S p l e (q_rm 5 111) s m args below meth c 1 dC dI dA A α (MQ below (q_Q α dC dI dA A ((fun u => some (.int u)) t) ((fun u => w_X5 X) t)) args s 0 0 A) 0 0 _ t 0 [(0, .ref 50)] [] (w_X5 X)
  refine r_aload_n C 0 dX5_wrong_0 rfl ?_
  refine r_get C 0 0 dX5_wrong_1 K_X5 rfl rfl (Nat.le_of_ble_eq_true rfl) rfl m_174 rfl ?_
  refine r_callV C (o_X0_wrongBeats l (X 1)) v_X0_wrongBeats m_367 [1, 2, 3, 4, 5, 6, 7] [] [] (51) (Or.inl ⟨1, 0, _, TX0, 16, rfl, rfl, rfl⟩) (fun u1 => [.int u1]) (fun u1 => w_X5 X) rfl rfl rfl rfl rfl (Nat.le_of_ble_eq_true rfl) ⟨(Nat.le_of_ble_eq_true rfl), (Nat.le_of_ble_eq_true rfl)⟩ ⟨Nat.zero_le _, Nat.zero_le _⟩ dX5_wrong_4 (fun _ => rfl) (fun _ => rfl) (fun _ => rfl) (fun u1 => ?_)
  exact r_reti (x := u1) (rv := (fun u => some (.int u))) (hpE := (fun u => w_X5 X)) (t0 := u1) C dX5_wrong_7 (by rfl) (by rfl) (by rfl)
set_option maxRecDepth 100000 in
set_option maxHeartbeats 4000000 in
theorem k_X5_whistle_6 {p : Program} {l : Launch} {e : Env} {s : State} {m : MethodId} {args : Array Value} {below : List Frame} {meth : Method} {c : Code} {dC : Nat → ClassId} {dI : Nat → Nat → Nat} {dA : Nat → ClassId} {A : Nat → Prop} {α : Nat → Nat} {t : Int32} (C : q_Cx p s m args meth c cX5_whistle 5 RX5 (some .int) "whistle" dC dI dA A α) (X : (Nat → q_St))  : ∀ (n : Nat) (x1 : Int32) (x2 : Int32) (x3 : Int32), q_S p l e (q_rm 2 42) s m args below meth c 5 dC dI dA A α (MQ below (q_Q α dC dI dA A ((fun u => some (.int u)) t) ((fun u => w_X5 X) t)) args s 0 0 A) 0 0 (f_X5_whistle_6 X  n x1 x2 x3) t 6 [(0, .ref 50), (1, .int x1), (2, .int x2), (3, .int x3)] [] (w_X5 X) := by
  intro n
  induction n with
  | zero =>
    intro x1 x2 x3
    exact r_cut (f_X5_whistle_6.eq_1 _ _ _ _) (r_none True.intro)
  | succ n ih =>
    intro x1 x2 x3
    refine r_cut (f_X5_whistle_6.eq_2 _ _ _ _ _) ?_
    refine r_iload_n C 3 dX5_whistle_6 rfl ?_
    refine r_aload_n C 0 dX5_whistle_7 rfl ?_
    refine r_get C 0 0 dX5_whistle_8 K_X5 rfl rfl (Nat.le_of_ble_eq_true rfl) rfl m_174 rfl ?_
    refine r_get C 1 1 dX5_whistle_11 K_X0 rfl rfl (Nat.le_of_ble_eq_true rfl) rfl m_36 rfl ?_
    refine r_icmp_ge C 73 dX5_whistle_14 (by decide) (fun h14 => ?_) (fun h14 => ?_)
    · refine r_iload_n C 1 dX5_whistle_73 rfl ?_
      exact r_reti (x := x1) (rv := (fun u => some (.int u))) (hpE := (fun u => w_X5 X)) (t0 := x1) C dX5_whistle_74 (by rfl) (by rfl) (by rfl)
    · refine r_aload_n C 0 dX5_whistle_17 rfl ?_
      refine r_get C 0 0 dX5_whistle_18 K_X5 rfl rfl (Nat.le_of_ble_eq_true rfl) rfl m_174 rfl ?_
      refine r_iload_n C 3 dX5_whistle_21 rfl ?_
      refine r_callV C (o_X0_speakerOf l (X 1) x3) v_X0_speakerOf m_314 [1, 2, 3, 4, 5, 6, 7] [.int x3] [] (51) (Or.inl ⟨1, 0, _, TX0, 16, rfl, rfl, rfl⟩) (fun u1 => [.int u1]) (fun u1 => w_X5 X) rfl rfl rfl rfl rfl (Nat.le_of_ble_eq_true rfl) ⟨(Nat.le_of_ble_eq_true rfl), (Nat.le_of_ble_eq_true rfl)⟩ ⟨Nat.zero_le _, Nat.zero_le _⟩ dX5_whistle_22 (fun _ => rfl) (fun _ => rfl) (fun _ => rfl) (fun u1 => ?_)
      refine r_istore C [(4, .int u1), (0, .ref 50), (1, .int x1), (2, .int x2), (3, .int x3)] dX5_whistle_25 (Nat.le_of_ble_eq_true rfl) rfl ?_
      refine r_iload C 0 dX5_whistle_27 rfl ?_
      refine r_iconst C (-1) dX5_whistle_29 rfl ?_
      refine r_icmp_ne C 36 dX5_whistle_30 (by decide) (fun h30 => ?_) (fun h30 => ?_)
      · refine r_goto C 67 dX5_whistle_33 (by decide) ?_
        refine r_iinc C 4 (x3 + 1) [(3, .int (x3 + 1)), (4, .int u1), (0, .ref 50), (1, .int x1), (2, .int x2)] dX5_whistle_67 rfl rfl (Nat.le_of_ble_eq_true rfl) rfl ?_
        refine r_goto C 6 dX5_whistle_70 (by decide) ?_
        refine r_lv [(0, .ref 50), (1, .int x1), (2, .int x2), (3, .int (x3 + 1))] [2, 3, 4, 0] rfl ?_
        exact ih x1 x2 (x3 + 1)
      · refine r_iload_n C 3 dX5_whistle_36 rfl ?_
        refine r_iconst C (-1) dX5_whistle_37 rfl ?_
        refine r_icmp_eq C 64 dX5_whistle_38 (by decide) (fun h38 => ?_) (fun h38 => ?_)
        · refine r_iload C 0 dX5_whistle_64 rfl ?_
          refine r_istore_n C [(2, .int u1), (4, .int u1), (0, .ref 50), (1, .int x1), (3, .int x3)] dX5_whistle_66 (Nat.le_of_ble_eq_true rfl) rfl ?_
          refine r_iinc C 4 (x3 + 1) [(3, .int (x3 + 1)), (2, .int u1), (4, .int u1), (0, .ref 50), (1, .int x1)] dX5_whistle_67 rfl rfl (Nat.le_of_ble_eq_true rfl) rfl ?_
          refine r_goto C 6 dX5_whistle_70 (by decide) ?_
          refine r_lv [(0, .ref 50), (1, .int x1), (2, .int u1), (3, .int (x3 + 1))] [3, 4, 1, 0] rfl ?_
          exact ih x1 u1 (x3 + 1)
        · refine r_aload_n C 1 dX5_whistle_41 rfl ?_
          refine r_get C 0 0 dX5_whistle_42 K_X5 rfl rfl (Nat.le_of_ble_eq_true rfl) rfl m_174 rfl ?_
          refine r_iload C 0 dX5_whistle_45 rfl ?_
          refine r_callV C (o_X0_voiceOf l (X 1) u1) v_X0_voiceOf m_247 [1, 2, 3, 4, 5, 6, 7] [.int u1] [] (51) (Or.inl ⟨1, 0, _, TX0, 16, rfl, rfl, rfl⟩) (fun u2 => [.int u2]) (fun u2 => w_X5 X) rfl rfl rfl rfl rfl (Nat.le_of_ble_eq_true rfl) ⟨(Nat.le_of_ble_eq_true rfl), (Nat.le_of_ble_eq_true rfl)⟩ ⟨Nat.zero_le _, Nat.zero_le _⟩ dX5_whistle_47 (fun _ => rfl) (fun _ => rfl) (fun _ => rfl) (fun u2 => ?_)
          refine r_aload_n C 1 dX5_whistle_50 rfl ?_
          refine r_get C 0 0 dX5_whistle_51 K_X5 rfl rfl (Nat.le_of_ble_eq_true rfl) rfl m_174 rfl ?_
          refine r_iload_n C 3 dX5_whistle_54 rfl ?_
          refine r_callV C (o_X0_voiceOf l (X 1) x2) v_X0_voiceOf m_247 [1, 2, 3, 4, 5, 6, 7] [.int x2] [.int u2] (51) (Or.inl ⟨1, 0, _, TX0, 16, rfl, rfl, rfl⟩) (fun u3 => [.int u3, .int u2]) (fun u3 => w_X5 X) rfl rfl rfl rfl rfl (Nat.le_of_ble_eq_true rfl) ⟨(Nat.le_of_ble_eq_true rfl), (Nat.le_of_ble_eq_true rfl)⟩ ⟨Nat.zero_le _, Nat.zero_le _⟩ dX5_whistle_55 (fun _ => rfl) (fun _ => rfl) (fun _ => rfl) (fun u3 => ?_)
          refine r_icmp_eq C 64 dX5_whistle_58 (by decide) (fun h58 => ?_) (fun h58 => ?_)
          · refine r_iload C 0 dX5_whistle_64 rfl ?_
            refine r_istore_n C [(2, .int u1), (4, .int u1), (0, .ref 50), (1, .int x1), (3, .int x3)] dX5_whistle_66 (Nat.le_of_ble_eq_true rfl) rfl ?_
            refine r_iinc C 4 (x3 + 1) [(3, .int (x3 + 1)), (2, .int u1), (4, .int u1), (0, .ref 50), (1, .int x1)] dX5_whistle_67 rfl rfl (Nat.le_of_ble_eq_true rfl) rfl ?_
            refine r_goto C 6 dX5_whistle_70 (by decide) ?_
            refine r_lv [(0, .ref 50), (1, .int x1), (2, .int u1), (3, .int (x3 + 1))] [3, 4, 1, 0] rfl ?_
            exact ih x1 u1 (x3 + 1)
          · refine r_iinc C 2 (x1 + 1) [(1, .int (x1 + 1)), (4, .int u1), (0, .ref 50), (2, .int x2), (3, .int x3)] dX5_whistle_61 rfl rfl (Nat.le_of_ble_eq_true rfl) rfl ?_
            refine r_iload C 1 dX5_whistle_64 rfl ?_
            refine r_istore_n C [(2, .int u1), (1, .int (x1 + 1)), (4, .int u1), (0, .ref 50), (3, .int x3)] dX5_whistle_66 (Nat.le_of_ble_eq_true rfl) rfl ?_
            refine r_iinc C 4 (x3 + 1) [(3, .int (x3 + 1)), (2, .int u1), (1, .int (x1 + 1)), (4, .int u1), (0, .ref 50)] dX5_whistle_67 rfl rfl (Nat.le_of_ble_eq_true rfl) rfl ?_
            refine r_goto C 6 dX5_whistle_70 (by decide) ?_
            refine r_lv [(0, .ref 50), (1, .int (x1 + 1)), (2, .int u1), (3, .int (x3 + 1))] [4, 2, 1, 0] rfl ?_
            exact ih (x1 + 1) u1 (x3 + 1)
set_option maxRecDepth 100000 in
set_option maxHeartbeats 4000000 in
theorem o_X5_whistle (l : Launch) (X : (Nat → q_St)) : q_Ok l yX5_whistle cX5_whistle 5 (some .int) 2 42 [.ref 50] (w_X5 X) (f_X5_whistle X) (fun u => some (.int u)) (fun u => w_X5 X) := by
  refine q_enter (by decide +kernel) (Nat.le_of_ble_eq_true rfl) (fun t p e s m args below meth c dC dI dA A α C => ?_)
  refine r_cut (f_X5_whistle.eq_1 _) ?_
  show q_S p l e (q_rm 2 42) s m args below meth c 5 dC dI dA A α (MQ below (q_Q α dC dI dA A ((fun u => some (.int u)) t) ((fun u => w_X5 X) t)) args s 0 0 A) 0 0 _ t 0 [(0, .ref 50)] [] (w_X5 X)
  refine r_iconst C (0) dX5_whistle_0 rfl ?_
  refine r_istore_n C [(1, .int (0 : Int32)), (0, .ref 50)] dX5_whistle_1 (Nat.le_of_ble_eq_true rfl) rfl ?_
  refine r_iconst C (-1) dX5_whistle_2 rfl ?_
  refine r_istore_n C [(2, .int (-1 : Int32)), (1, .int (0 : Int32)), (0, .ref 50)] dX5_whistle_3 (Nat.le_of_ble_eq_true rfl) rfl ?_
  refine r_iconst C (0) dX5_whistle_4 rfl ?_
  refine r_istore_n C [(3, .int (0 : Int32)), (2, .int (-1 : Int32)), (1, .int (0 : Int32)), (0, .ref 50)] dX5_whistle_5 (Nat.le_of_ble_eq_true rfl) rfl ?_
  refine r_lv [(0, .ref 50), (1, .int (0 : Int32)), (2, .int (-1 : Int32)), (3, .int (0 : Int32))] [3, 2, 1, 0] rfl ?_
  exact k_X5_whistle_6 C X   q_N (0 : Int32) (-1 : Int32) (0 : Int32)
set_option maxRecDepth 100000 in
set_option maxHeartbeats 4000000 in
theorem o_X5_isHand (l : Launch) (a1 : Int32) : q_Ok l yX5_isHand cX5_isHand 1 (some .boolean) 0 0 [.int a1] ([]) (f_X5_isHand a1) (fun u => some (.int u)) (fun _ => []) := by
  refine q_enter (by decide +kernel) (Nat.le_of_ble_eq_true rfl) (fun t p e s m args below meth c dC dI dA A α C => ?_)
  refine r_cut (f_X5_isHand.eq_1 _) ?_
  show q_S p l e (q_rm 0 0) s m args below meth c 1 dC dI dA A α (MQ below (q_Q α dC dI dA A ((fun u => some (.int u)) t) ((fun _ => []) t)) args s 0 0 A) 0 0 _ t 0 [(0, .int a1)] [] ([])
  refine r_iload_n C 0 dX5_isHand_0 rfl ?_
  refine r_if_eq C 9 dX5_isHand_1 (by decide) (fun h1 => ?_) (fun h1 => ?_)
  · refine r_iconst C (1) dX5_isHand_9 rfl ?_
    refine r_goto C 14 dX5_isHand_10 (by decide) ?_
    exact r_retz (x := (1 : Int32)) (rv := (fun u => some (.int u))) (hpE := (fun _ => [])) (t0 := (1 : Int32)) C dX5_isHand_14 (by rfl) (by rfl) (by rfl) (by rfl)
  · refine r_iload_n C 0 dX5_isHand_4 rfl ?_
    refine r_iconst C (1) dX5_isHand_5 rfl ?_
    refine r_icmp_ne C 13 dX5_isHand_6 (by decide) (fun h6 => ?_) (fun h6 => ?_)
    · refine r_iconst C (1) dX5_isHand_9 rfl ?_
      refine r_goto C 14 dX5_isHand_10 (by decide) ?_
      exact r_retz (x := (1 : Int32)) (rv := (fun u => some (.int u))) (hpE := (fun _ => [])) (t0 := (1 : Int32)) C dX5_isHand_14 (by rfl) (by rfl) (by rfl) (by rfl)
    · refine r_iconst C (0) dX5_isHand_13 rfl ?_
      exact r_retz (x := (0 : Int32)) (rv := (fun u => some (.int u))) (hpE := (fun _ => [])) (t0 := (0 : Int32)) C dX5_isHand_14 (by rfl) (by rfl) (by rfl) (by rfl)
set_option maxRecDepth 100000 in
set_option maxHeartbeats 4000000 in
theorem o_X5_puts (l : Launch) (X : (Nat → q_St)) (a1 : Int32) (a2 : Int32) : q_Ok l yX5_puts cX5_puts 3 (some .int) 4 88 [.ref 50, .int a1, .int a2] (w_X5 X) (f_X5_puts X a1 a2) (fun u => some (.int u.1)) (fun u => w_X5 u.2) := by
  refine q_enter (by decide +kernel) (Nat.le_of_ble_eq_true rfl) (fun t p e s m args below meth c dC dI dA A α C => ?_)
  refine r_cut (f_X5_puts.eq_1 _ _ _) ?_
  show q_S p l e (q_rm 4 88) s m args below meth c 3 dC dI dA A α (MQ below (q_Q α dC dI dA A ((fun u => some (.int u.1)) t) ((fun u => w_X5 u.2) t)) args s 0 0 A) 0 0 _ t 0 [(0, .ref 50), (1, .int a1), (2, .int a2)] [] (w_X5 X)
  refine r_iload_n C 1 dX5_puts_0 rfl ?_
  refine r_callS C (o_X5_isHand l a1) v_X5_isHand m_380 [] [.int a1] [] (fun u1 => [.int u1]) (fun u1 => w_X5 X) rfl rfl rfl rfl rfl (Nat.le_of_ble_eq_true rfl) ⟨(Nat.le_of_ble_eq_true rfl), (Nat.le_of_ble_eq_true rfl)⟩ ⟨Nat.zero_le _, Nat.zero_le _⟩ dX5_puts_1 (fun _ => rfl) (fun _ => rfl) (fun _ => rfl) (fun u1 => ?_)
  refine r_if_eq C 18 dX5_puts_4 (by decide) (fun h4 => ?_) (fun h4 => ?_)
  · refine r_aload_n C 0 dX5_puts_18 rfl ?_
    refine r_ldc C (-1000001) dX5_puts_19 m_206 ?_
    refine r_callV0 C (o_X5_finding l X (-1000001 : Int32)) v_X5_finding m_207 [.int (-1000001 : Int32)] [] (50) (Or.inl ⟨0, 4, _, TX5, 8, rfl, rfl, rfl⟩) (fun u2 => [.int u2.1]) (fun u2 => w_X5 u2.2) rfl rfl rfl (Nat.le_of_ble_eq_true rfl) ⟨(Nat.le_of_ble_eq_true rfl), (Nat.le_of_ble_eq_true rfl)⟩ ⟨Nat.zero_le _, Nat.zero_le _⟩ dX5_puts_21 (fun _ => rfl) (fun _ => rfl) (fun _ => rfl) (fun u2 => ?_)
    exact r_reti (x := u2.1) (rv := (fun u => some (.int u.1))) (hpE := (fun u => w_X5 u.2)) (t0 := (u2.1, u2.2)) C dX5_puts_24 (by rfl) (by rfl) (by rfl)
  · refine r_aload_n C 0 dX5_puts_7 rfl ?_
    refine r_get C 0 0 dX5_puts_8 K_X5 rfl rfl (Nat.le_of_ble_eq_true rfl) rfl m_174 rfl ?_
    refine r_iload_n C 2 dX5_puts_11 rfl ?_
    refine r_callV C (o_X0_isDollOrNone l (X 1) a2) v_X0_isDollOrNone m_293 [1, 2, 3, 4, 5, 6, 7] [.int a2] [] (51) (Or.inl ⟨1, 0, _, TX0, 16, rfl, rfl, rfl⟩) (fun u3 => [.int u3]) (fun u3 => w_X5 X) rfl rfl rfl rfl rfl (Nat.le_of_ble_eq_true rfl) ⟨(Nat.le_of_ble_eq_true rfl), (Nat.le_of_ble_eq_true rfl)⟩ ⟨Nat.zero_le _, Nat.zero_le _⟩ dX5_puts_12 (fun _ => rfl) (fun _ => rfl) (fun _ => rfl) (fun u3 => ?_)
    refine r_if_ne C 25 dX5_puts_15 (by decide) (fun h15 => ?_) (fun h15 => ?_)
    · refine r_aload_n C 0 dX5_puts_18 rfl ?_
      refine r_ldc C (-1000001) dX5_puts_19 m_206 ?_
      refine r_callV0 C (o_X5_finding l X (-1000001 : Int32)) v_X5_finding m_207 [.int (-1000001 : Int32)] [] (50) (Or.inl ⟨0, 4, _, TX5, 8, rfl, rfl, rfl⟩) (fun u8 => [.int u8.1]) (fun u8 => w_X5 u8.2) rfl rfl rfl (Nat.le_of_ble_eq_true rfl) ⟨(Nat.le_of_ble_eq_true rfl), (Nat.le_of_ble_eq_true rfl)⟩ ⟨Nat.zero_le _, Nat.zero_le _⟩ dX5_puts_21 (fun _ => rfl) (fun _ => rfl) (fun _ => rfl) (fun u8 => ?_)
      exact r_reti (x := u8.1) (rv := (fun u => some (.int u.1))) (hpE := (fun u => w_X5 u.2)) (t0 := (u8.1, u8.2)) C dX5_puts_24 (by rfl) (by rfl) (by rfl)
    · refine r_iload_n C 2 dX5_puts_25 rfl ?_
      refine r_iconst C (-1) dX5_puts_26 rfl ?_
      refine r_icmp_eq C 51 dX5_puts_27 (by decide) (fun h27 => ?_) (fun h27 => ?_)
      · refine r_aload_n C 0 dX5_puts_51 rfl ?_
        refine r_get C 0 0 dX5_puts_52 K_X5 rfl rfl (Nat.le_of_ble_eq_true rfl) rfl m_174 rfl ?_
        refine r_iload_n C 1 dX5_puts_55 rfl ?_
        refine r_iload_n C 2 dX5_puts_56 rfl ?_
        refine r_callV C (o_X0_putInHand l (X 1) a1 a2) v_X0_putInHand m_388 [1, 2, 3, 4, 5, 6, 7] [.int a1, .int a2] [] (51) (Or.inl ⟨1, 0, _, TX0, 16, rfl, rfl, rfl⟩) (fun u4 => [.int u4.1]) (fun u4 => w_X5 (va_up X 1 u4.2)) rfl rfl rfl rfl rfl (Nat.le_of_ble_eq_true rfl) ⟨(Nat.le_of_ble_eq_true rfl), (Nat.le_of_ble_eq_true rfl)⟩ ⟨Nat.zero_le _, Nat.zero_le _⟩ dX5_puts_57 (fun _ => rfl) (fun _ => rfl) (fun _ => rfl) (fun u4 => ?_)
        exact r_reti (x := u4.1) (rv := (fun u => some (.int u.1))) (hpE := (fun u => w_X5 u.2)) (t0 := (u4.1, (va_up X 1 u4.2))) C dX5_puts_60 (by rfl) (by rfl) (by rfl)
      · refine r_aload_n C 0 dX5_puts_30 rfl ?_
        refine r_get C 0 0 dX5_puts_31 K_X5 rfl rfl (Nat.le_of_ble_eq_true rfl) rfl m_174 rfl ?_
        refine r_iconst C (1) dX5_puts_34 rfl ?_
        refine r_iload_n C 1 dX5_puts_35 rfl ?_
        refine r_isub C dX5_puts_36 ?_
        refine r_callV C (o_X0_inHand l (X 1) ((1 : Int32) - a1)) v_X0_inHand m_383 [1, 2, 3, 4, 5, 6, 7] [.int ((1 : Int32) - a1)] [] (51) (Or.inl ⟨1, 0, _, TX0, 16, rfl, rfl, rfl⟩) (fun u5 => [.int u5]) (fun u5 => w_X5 X) rfl rfl rfl rfl rfl (Nat.le_of_ble_eq_true rfl) ⟨(Nat.le_of_ble_eq_true rfl), (Nat.le_of_ble_eq_true rfl)⟩ ⟨Nat.zero_le _, Nat.zero_le _⟩ dX5_puts_37 (fun _ => rfl) (fun _ => rfl) (fun _ => rfl) (fun u5 => ?_)
        refine r_iload_n C 2 dX5_puts_40 rfl ?_
        refine r_icmp_ne C 51 dX5_puts_41 (by decide) (fun h41 => ?_) (fun h41 => ?_)
        · refine r_aload_n C 0 dX5_puts_44 rfl ?_
          refine r_ldc C (-1000005) dX5_puts_45 m_387 ?_
          refine r_callV0 C (o_X5_finding l X (-1000005 : Int32)) v_X5_finding m_207 [.int (-1000005 : Int32)] [] (50) (Or.inl ⟨0, 4, _, TX5, 8, rfl, rfl, rfl⟩) (fun u7 => [.int u7.1]) (fun u7 => w_X5 u7.2) rfl rfl rfl (Nat.le_of_ble_eq_true rfl) ⟨(Nat.le_of_ble_eq_true rfl), (Nat.le_of_ble_eq_true rfl)⟩ ⟨Nat.zero_le _, Nat.zero_le _⟩ dX5_puts_47 (fun _ => rfl) (fun _ => rfl) (fun _ => rfl) (fun u7 => ?_)
          exact r_reti (x := u7.1) (rv := (fun u => some (.int u.1))) (hpE := (fun u => w_X5 u.2)) (t0 := (u7.1, u7.2)) C dX5_puts_50 (by rfl) (by rfl) (by rfl)
        · refine r_aload_n C 0 dX5_puts_51 rfl ?_
          refine r_get C 0 0 dX5_puts_52 K_X5 rfl rfl (Nat.le_of_ble_eq_true rfl) rfl m_174 rfl ?_
          refine r_iload_n C 1 dX5_puts_55 rfl ?_
          refine r_iload_n C 2 dX5_puts_56 rfl ?_
          refine r_callV C (o_X0_putInHand l (X 1) a1 a2) v_X0_putInHand m_388 [1, 2, 3, 4, 5, 6, 7] [.int a1, .int a2] [] (51) (Or.inl ⟨1, 0, _, TX0, 16, rfl, rfl, rfl⟩) (fun u6 => [.int u6.1]) (fun u6 => w_X5 (va_up X 1 u6.2)) rfl rfl rfl rfl rfl (Nat.le_of_ble_eq_true rfl) ⟨(Nat.le_of_ble_eq_true rfl), (Nat.le_of_ble_eq_true rfl)⟩ ⟨Nat.zero_le _, Nat.zero_le _⟩ dX5_puts_57 (fun _ => rfl) (fun _ => rfl) (fun _ => rfl) (fun u6 => ?_)
          exact r_reti (x := u6.1) (rv := (fun u => some (.int u.1))) (hpE := (fun u => w_X5 u.2)) (t0 := (u6.1, (va_up X 1 u6.2))) C dX5_puts_60 (by rfl) (by rfl) (by rfl)
set_option maxRecDepth 100000 in
set_option maxHeartbeats 4000000 in
theorem o_X5_hand (l : Launch) (X : (Nat → q_St)) (a1 : Int32) : q_Ok l yX5_hand cX5_hand 2 (some .int) 1 22 [.ref 50, .int a1] (w_X5 X) (f_X5_hand X a1) (fun u => some (.int u.1)) (fun u => w_X5 u.2) := by
  refine q_enter (by decide +kernel) (Nat.le_of_ble_eq_true rfl) (fun t p e s m args below meth c dC dI dA A α C => ?_)
  refine r_cut (f_X5_hand.eq_1 _ _) ?_
  show q_S p l e (q_rm 1 22) s m args below meth c 2 dC dI dA A α (MQ below (q_Q α dC dI dA A ((fun u => some (.int u.1)) t) ((fun u => w_X5 u.2) t)) args s 0 0 A) 0 0 _ t 0 [(0, .ref 50), (1, .int a1)] [] (w_X5 X)
  refine r_iload_n C 1 dX5_hand_0 rfl ?_
  refine r_callS C (o_X5_isHand l a1) v_X5_isHand m_380 [] [.int a1] [] (fun u1 => [.int u1]) (fun u1 => w_X5 X) rfl rfl rfl rfl rfl (Nat.le_of_ble_eq_true rfl) ⟨(Nat.le_of_ble_eq_true rfl), (Nat.le_of_ble_eq_true rfl)⟩ ⟨Nat.zero_le _, Nat.zero_le _⟩ dX5_hand_1 (fun _ => rfl) (fun _ => rfl) (fun _ => rfl) (fun u1 => ?_)
  refine r_if_ne C 14 dX5_hand_4 (by decide) (fun h4 => ?_) (fun h4 => ?_)
  · refine r_aload_n C 0 dX5_hand_7 rfl ?_
    refine r_ldc C (-1000001) dX5_hand_8 m_206 ?_
    refine r_callV0 C (o_X5_finding l X (-1000001 : Int32)) v_X5_finding m_207 [.int (-1000001 : Int32)] [] (50) (Or.inl ⟨0, 4, _, TX5, 8, rfl, rfl, rfl⟩) (fun u3 => [.int u3.1]) (fun u3 => w_X5 u3.2) rfl rfl rfl (Nat.le_of_ble_eq_true rfl) ⟨(Nat.le_of_ble_eq_true rfl), (Nat.le_of_ble_eq_true rfl)⟩ ⟨Nat.zero_le _, Nat.zero_le _⟩ dX5_hand_10 (fun _ => rfl) (fun _ => rfl) (fun _ => rfl) (fun u3 => ?_)
    exact r_reti (x := u3.1) (rv := (fun u => some (.int u.1))) (hpE := (fun u => w_X5 u.2)) (t0 := (u3.1, u3.2)) C dX5_hand_13 (by rfl) (by rfl) (by rfl)
  · refine r_aload_n C 0 dX5_hand_14 rfl ?_
    refine r_get C 0 0 dX5_hand_15 K_X5 rfl rfl (Nat.le_of_ble_eq_true rfl) rfl m_174 rfl ?_
    refine r_iload_n C 1 dX5_hand_18 rfl ?_
    refine r_callV C (o_X0_inHand l (X 1) a1) v_X0_inHand m_383 [1, 2, 3, 4, 5, 6, 7] [.int a1] [] (51) (Or.inl ⟨1, 0, _, TX0, 16, rfl, rfl, rfl⟩) (fun u2 => [.int u2]) (fun u2 => w_X5 X) rfl rfl rfl rfl rfl (Nat.le_of_ble_eq_true rfl) ⟨(Nat.le_of_ble_eq_true rfl), (Nat.le_of_ble_eq_true rfl)⟩ ⟨Nat.zero_le _, Nat.zero_le _⟩ dX5_hand_19 (fun _ => rfl) (fun _ => rfl) (fun _ => rfl) (fun u2 => ?_)
    exact r_reti (x := u2) (rv := (fun u => some (.int u.1))) (hpE := (fun u => w_X5 u.2)) (t0 := (u2, X)) C dX5_hand_22 (by rfl) (by rfl) (by rfl)
set_option maxRecDepth 100000 in
set_option maxHeartbeats 4000000 in
theorem o_X5_suits (l : Launch) (X : (Nat → q_St)) (a1 : Int32) : q_Ok l yX5_suits cX5_suits 2 (some .int) 4 91 [.ref 50, .int a1] (w_X5 X) (f_X5_suits X a1) (fun u => some (.int u.1)) (fun u => w_X5 u.2) := by
  refine q_enter (by decide +kernel) (Nat.le_of_ble_eq_true rfl) (fun t p e s m args below meth c dC dI dA A α C => ?_)
  refine r_cut (f_X5_suits.eq_1 _ _) ?_
  show q_S p l e (q_rm 4 91) s m args below meth c 2 dC dI dA A α (MQ below (q_Q α dC dI dA A ((fun u => some (.int u.1)) t) ((fun u => w_X5 u.2) t)) args s 0 0 A) 0 0 _ t 0 [(0, .ref 50), (1, .int a1)] [] (w_X5 X)
  refine r_aload_n C 0 dX5_suits_0 rfl ?_
  refine r_get C 0 0 dX5_suits_1 K_X5 rfl rfl (Nat.le_of_ble_eq_true rfl) rfl m_174 rfl ?_
  refine r_iload_n C 1 dX5_suits_4 rfl ?_
  refine r_callV C (o_X0_isBeat l (X 1) a1) v_X0_isBeat m_305 [1, 2, 3, 4, 5, 6, 7] [.int a1] [] (51) (Or.inl ⟨1, 0, _, TX0, 16, rfl, rfl, rfl⟩) (fun u1 => [.int u1]) (fun u1 => w_X5 X) rfl rfl rfl rfl rfl (Nat.le_of_ble_eq_true rfl) ⟨(Nat.le_of_ble_eq_true rfl), (Nat.le_of_ble_eq_true rfl)⟩ ⟨Nat.zero_le _, Nat.zero_le _⟩ dX5_suits_5 (fun _ => rfl) (fun _ => rfl) (fun _ => rfl) (fun u1 => ?_)
  refine r_if_ne C 18 dX5_suits_8 (by decide) (fun h8 => ?_) (fun h8 => ?_)
  · refine r_aload_n C 0 dX5_suits_11 rfl ?_
    refine r_ldc C (-1000001) dX5_suits_12 m_206 ?_
    refine r_callV0 C (o_X5_finding l X (-1000001 : Int32)) v_X5_finding m_207 [.int (-1000001 : Int32)] [] (50) (Or.inl ⟨0, 4, _, TX5, 8, rfl, rfl, rfl⟩) (fun u3 => [.int u3.1]) (fun u3 => w_X5 u3.2) rfl rfl rfl (Nat.le_of_ble_eq_true rfl) ⟨(Nat.le_of_ble_eq_true rfl), (Nat.le_of_ble_eq_true rfl)⟩ ⟨Nat.zero_le _, Nat.zero_le _⟩ dX5_suits_14 (fun _ => rfl) (fun _ => rfl) (fun _ => rfl) (fun u3 => ?_)
    exact r_reti (x := u3.1) (rv := (fun u => some (.int u.1))) (hpE := (fun u => w_X5 u.2)) (t0 := (u3.1, u3.2)) C dX5_suits_17 (by rfl) (by rfl) (by rfl)
  · refine r_aload_n C 0 dX5_suits_18 rfl ?_
    refine r_get C 0 0 dX5_suits_19 K_X5 rfl rfl (Nat.le_of_ble_eq_true rfl) rfl m_174 rfl ?_
    refine r_iload_n C 1 dX5_suits_22 rfl ?_
    refine r_aload_n C 0 dX5_suits_23 rfl ?_
    refine r_get C 0 0 dX5_suits_24 K_X5 rfl rfl (Nat.le_of_ble_eq_true rfl) rfl m_174 rfl ?_
    refine r_get C 1 2 dX5_suits_27 K_X0 rfl rfl (Nat.le_of_ble_eq_true rfl) rfl m_39 rfl ?_
    refine r_aload_n C 0 dX5_suits_30 rfl ?_
    refine r_get C 0 0 dX5_suits_31 K_X5 rfl rfl (Nat.le_of_ble_eq_true rfl) rfl m_174 rfl ?_
    refine r_get C 1 3 dX5_suits_34 K_X0 rfl rfl (Nat.le_of_ble_eq_true rfl) rfl m_42 rfl ?_
    refine r_callV C (o_X0_isSuited l (X 1) a1 ((X 1).1 2) ((X 1).1 3)) v_X0_isSuited m_407 [1, 2, 3, 4, 5, 6, 7] [.int a1, .int ((X 1).1 2), .int ((X 1).1 3)] [] (51) (Or.inl ⟨1, 0, _, TX0, 16, rfl, rfl, rfl⟩) (fun u2 => [.int u2]) (fun u2 => w_X5 X) rfl rfl rfl rfl rfl (Nat.le_of_ble_eq_true rfl) ⟨(Nat.le_of_ble_eq_true rfl), (Nat.le_of_ble_eq_true rfl)⟩ ⟨Nat.zero_le _, Nat.zero_le _⟩ dX5_suits_37 (fun _ => rfl) (fun _ => rfl) (fun _ => rfl) (fun u2 => ?_)
    refine r_if_eq C 47 dX5_suits_40 (by decide) (fun h40 => ?_) (fun h40 => ?_)
    · refine r_iconst C (0) dX5_suits_47 rfl ?_
      exact r_reti (x := (0 : Int32)) (rv := (fun u => some (.int u.1))) (hpE := (fun u => w_X5 u.2)) (t0 := ((0 : Int32), X)) C dX5_suits_48 (by rfl) (by rfl) (by rfl)
    · refine r_iconst C (1) dX5_suits_43 rfl ?_
      refine r_goto C 48 dX5_suits_44 (by decide) ?_
      exact r_reti (x := (1 : Int32)) (rv := (fun u => some (.int u.1))) (hpE := (fun u => w_X5 u.2)) (t0 := ((1 : Int32), X)) C dX5_suits_48 (by rfl) (by rfl) (by rfl)
set_option maxRecDepth 100000 in
set_option maxHeartbeats 4000000 in
theorem o_X5_now (l : Launch) (X : (Nat → q_St)) (a1 : Int32) : q_Ok l yX5_now cX5_now 2 (some .int) 1 22 [.ref 50, .int a1] (w_X5 X) (f_X5_now X a1) (fun u => some (.int u.1)) (fun u => w_X5 u.2) := by
  refine q_enter (by decide +kernel) (Nat.le_of_ble_eq_true rfl) (fun t p e s m args below meth c dC dI dA A α C => ?_)
  refine r_cut (f_X5_now.eq_1 _ _) ?_
  show q_S p l e (q_rm 1 22) s m args below meth c 2 dC dI dA A α (MQ below (q_Q α dC dI dA A ((fun u => some (.int u.1)) t) ((fun u => w_X5 u.2) t)) args s 0 0 A) 0 0 _ t 0 [(0, .ref 50), (1, .int a1)] [] (w_X5 X)
  refine r_iload_n C 1 dX5_now_0 rfl ?_
  refine r_tsw C (0) 36 dX5_now_1 (by decide) (by decide) rfl (by decide) (fun h1_0 => ?_) (fun h1_0 => ?_)
  · refine r_aload_n C 0 dX5_now_36 rfl ?_
    refine r_get C 0 0 dX5_now_37 K_X5 rfl rfl (Nat.le_of_ble_eq_true rfl) rfl m_174 rfl ?_
    refine r_get C 1 6 dX5_now_40 K_X0 rfl rfl (Nat.le_of_ble_eq_true rfl) rfl m_49 rfl ?_
    exact r_reti (x := (X 1).1 6) (rv := (fun u => some (.int u.1))) (hpE := (fun u => w_X5 u.2)) (t0 := ((X 1).1 6, X)) C dX5_now_43 (by rfl) (by rfl) (by rfl)
  refine r_tsw C (1) 44 dX5_now_1 (by decide) (by decide) rfl (by decide) (fun h1_1 => ?_) (fun h1_1 => ?_)
  · refine r_aload_n C 0 dX5_now_44 rfl ?_
    refine r_get C 0 0 dX5_now_45 K_X5 rfl rfl (Nat.le_of_ble_eq_true rfl) rfl m_174 rfl ?_
    refine r_get C 1 7 dX5_now_48 K_X0 rfl rfl (Nat.le_of_ble_eq_true rfl) rfl m_51 rfl ?_
    exact r_reti (x := (X 1).1 7) (rv := (fun u => some (.int u.1))) (hpE := (fun u => w_X5 u.2)) (t0 := ((X 1).1 7, X)) C dX5_now_51 (by rfl) (by rfl) (by rfl)
  refine r_tsw C (2) 52 dX5_now_1 (by decide) (by decide) rfl (by decide) (fun h1_2 => ?_) (fun h1_2 => ?_)
  · refine r_aload_n C 0 dX5_now_52 rfl ?_
    refine r_get C 0 0 dX5_now_53 K_X5 rfl rfl (Nat.le_of_ble_eq_true rfl) rfl m_174 rfl ?_
    refine r_get C 1 8 dX5_now_56 K_X0 rfl rfl (Nat.le_of_ble_eq_true rfl) rfl m_53 rfl ?_
    exact r_reti (x := (X 1).1 8) (rv := (fun u => some (.int u.1))) (hpE := (fun u => w_X5 u.2)) (t0 := ((X 1).1 8, X)) C dX5_now_59 (by rfl) (by rfl) (by rfl)
  refine r_tsw C (3) 60 dX5_now_1 (by decide) (by decide) rfl (by decide) (fun h1_3 => ?_) (fun h1_3 => ?_)
  · refine r_aload_n C 0 dX5_now_60 rfl ?_
    refine r_get C 0 0 dX5_now_61 K_X5 rfl rfl (Nat.le_of_ble_eq_true rfl) rfl m_174 rfl ?_
    refine r_get C 1 9 dX5_now_64 K_X0 rfl rfl (Nat.le_of_ble_eq_true rfl) rfl m_55 rfl ?_
    exact r_reti (x := (X 1).1 9) (rv := (fun u => some (.int u.1))) (hpE := (fun u => w_X5 u.2)) (t0 := ((X 1).1 9, X)) C dX5_now_67 (by rfl) (by rfl) (by rfl)
  refine r_tsw C (4) 68 dX5_now_1 (by decide) (by decide) rfl (by decide) (fun h1_4 => ?_) (fun h1_4 => ?_)
  · refine r_aload_n C 0 dX5_now_68 rfl ?_
    refine r_get C 0 0 dX5_now_69 K_X5 rfl rfl (Nat.le_of_ble_eq_true rfl) rfl m_174 rfl ?_
    refine r_get C 1 4 dX5_now_72 K_X0 rfl rfl (Nat.le_of_ble_eq_true rfl) rfl m_44 rfl ?_
    exact r_reti (x := (X 1).1 4) (rv := (fun u => some (.int u.1))) (hpE := (fun u => w_X5 u.2)) (t0 := ((X 1).1 4, X)) C dX5_now_75 (by rfl) (by rfl) (by rfl)
  have g0 := True.intro
  have g1_0 := q_neI h1_0 (z := 0) (by decide)
  have g1_1 := q_neI h1_1 (z := 1) (by decide)
  have g1_2 := q_neI h1_2 (z := 2) (by decide)
  have g1_3 := q_neI h1_3 (z := 3) (by decide)
  have g1_4 := q_neI h1_4 (z := 4) (by decide)
  refine r_tswD C 76 dX5_now_1 (by omega) (by decide) ?_
  refine r_aload_n C 0 dX5_now_76 rfl ?_
  refine r_ldc C (-1000001) dX5_now_77 m_206 ?_
  refine r_callV0 C (o_X5_finding l X (-1000001 : Int32)) v_X5_finding m_207 [.int (-1000001 : Int32)] [] (50) (Or.inl ⟨0, 4, _, TX5, 8, rfl, rfl, rfl⟩) (fun u1 => [.int u1.1]) (fun u1 => w_X5 u1.2) rfl rfl rfl (Nat.le_of_ble_eq_true rfl) ⟨(Nat.le_of_ble_eq_true rfl), (Nat.le_of_ble_eq_true rfl)⟩ ⟨Nat.zero_le _, Nat.zero_le _⟩ dX5_now_79 (fun _ => rfl) (fun _ => rfl) (fun _ => rfl) (fun u1 => ?_)
  exact r_reti (x := u1.1) (rv := (fun u => some (.int u.1))) (hpE := (fun u => w_X5 u.2)) (t0 := (u1.1, u1.2)) C dX5_now_82 (by rfl) (by rfl) (by rfl)
set_option maxRecDepth 100000 in
set_option maxHeartbeats 4000000 in
theorem o_X5_isWorth (l : Launch) (a1 : Int32) : q_Ok l yX5_isWorth cX5_isWorth 1 (some .boolean) 0 0 [.int a1] ([]) (f_X5_isWorth a1) (fun u => some (.int u)) (fun _ => []) := by
  refine q_enter (by decide +kernel) (Nat.le_of_ble_eq_true rfl) (fun t p e s m args below meth c dC dI dA A α C => ?_)
  refine r_cut (f_X5_isWorth.eq_1 _) ?_
  show q_S p l e (q_rm 0 0) s m args below meth c 1 dC dI dA A α (MQ below (q_Q α dC dI dA A ((fun u => some (.int u)) t) ((fun _ => []) t)) args s 0 0 A) 0 0 _ t 0 [(0, .int a1)] [] ([])
  refine r_iload_n C 0 dX5_isWorth_0 rfl ?_
  refine r_if_eq C 9 dX5_isWorth_1 (by decide) (fun h1 => ?_) (fun h1 => ?_)
  · refine r_iconst C (1) dX5_isWorth_9 rfl ?_
    refine r_goto C 14 dX5_isWorth_10 (by decide) ?_
    exact r_retz (x := (1 : Int32)) (rv := (fun u => some (.int u))) (hpE := (fun _ => [])) (t0 := (1 : Int32)) C dX5_isWorth_14 (by rfl) (by rfl) (by rfl) (by rfl)
  · refine r_iload_n C 0 dX5_isWorth_4 rfl ?_
    refine r_iconst C (1) dX5_isWorth_5 rfl ?_
    refine r_icmp_ne C 13 dX5_isWorth_6 (by decide) (fun h6 => ?_) (fun h6 => ?_)
    · refine r_iconst C (1) dX5_isWorth_9 rfl ?_
      refine r_goto C 14 dX5_isWorth_10 (by decide) ?_
      exact r_retz (x := (1 : Int32)) (rv := (fun u => some (.int u))) (hpE := (fun _ => [])) (t0 := (1 : Int32)) C dX5_isWorth_14 (by rfl) (by rfl) (by rfl) (by rfl)
    · refine r_iconst C (0) dX5_isWorth_13 rfl ?_
      exact r_retz (x := (0 : Int32)) (rv := (fun u => some (.int u))) (hpE := (fun _ => [])) (t0 := (0 : Int32)) C dX5_isWorth_14 (by rfl) (by rfl) (by rfl) (by rfl)
set_option maxRecDepth 100000 in
set_option maxHeartbeats 4000000 in
theorem o_X5_least (l : Launch) (X : (Nat → q_St)) (a1 : Int32) : q_Ok l yX5_least cX5_least 2 (some .int) 6 131 [.ref 50, .int a1] (w_X5 X) (f_X5_least X a1) (fun u => some (.int u.1)) (fun u => w_X5 u.2) := by
  refine q_enter (by decide +kernel) (Nat.le_of_ble_eq_true rfl) (fun t p e s m args below meth c dC dI dA A α C => ?_)
  refine r_cut (f_X5_least.eq_1 _ _) ?_
  show q_S p l e (q_rm 6 131) s m args below meth c 2 dC dI dA A α (MQ below (q_Q α dC dI dA A ((fun u => some (.int u.1)) t) ((fun u => w_X5 u.2) t)) args s 0 0 A) 0 0 _ t 0 [(0, .ref 50), (1, .int a1)] [] (w_X5 X)
  refine r_iload_n C 1 dX5_least_0 rfl ?_
  refine r_callS C (o_X5_isWorth l a1) v_X5_isWorth m_428 [] [.int a1] [] (fun u1 => [.int u1]) (fun u1 => w_X5 X) rfl rfl rfl rfl rfl (Nat.le_of_ble_eq_true rfl) ⟨(Nat.le_of_ble_eq_true rfl), (Nat.le_of_ble_eq_true rfl)⟩ ⟨Nat.zero_le _, Nat.zero_le _⟩ dX5_least_1 (fun _ => rfl) (fun _ => rfl) (fun _ => rfl) (fun u1 => ?_)
  refine r_if_ne C 14 dX5_least_4 (by decide) (fun h4 => ?_) (fun h4 => ?_)
  · refine r_aload_n C 0 dX5_least_7 rfl ?_
    refine r_ldc C (-1000001) dX5_least_8 m_206 ?_
    refine r_callV0 C (o_X5_finding l X (-1000001 : Int32)) v_X5_finding m_207 [.int (-1000001 : Int32)] [] (50) (Or.inl ⟨0, 4, _, TX5, 8, rfl, rfl, rfl⟩) (fun u5 => [.int u5.1]) (fun u5 => w_X5 u5.2) rfl rfl rfl (Nat.le_of_ble_eq_true rfl) ⟨(Nat.le_of_ble_eq_true rfl), (Nat.le_of_ble_eq_true rfl)⟩ ⟨Nat.zero_le _, Nat.zero_le _⟩ dX5_least_10 (fun _ => rfl) (fun _ => rfl) (fun _ => rfl) (fun u5 => ?_)
    exact r_reti (x := u5.1) (rv := (fun u => some (.int u.1))) (hpE := (fun u => w_X5 u.2)) (t0 := (u5.1, u5.2)) C dX5_least_13 (by rfl) (by rfl) (by rfl)
  · refine r_aload_n C 0 dX5_least_14 rfl ?_
    refine r_get C 0 0 dX5_least_15 K_X5 rfl rfl (Nat.le_of_ble_eq_true rfl) rfl m_174 rfl ?_
    refine r_callV C (o_X0_isGoing l (X 1)) v_X0_isGoing m_431 [1, 2, 3, 4, 5, 6, 7] [] [] (51) (Or.inl ⟨1, 0, _, TX0, 16, rfl, rfl, rfl⟩) (fun u2 => [.int u2]) (fun u2 => w_X5 X) rfl rfl rfl rfl rfl (Nat.le_of_ble_eq_true rfl) ⟨(Nat.le_of_ble_eq_true rfl), (Nat.le_of_ble_eq_true rfl)⟩ ⟨Nat.zero_le _, Nat.zero_le _⟩ dX5_least_18 (fun _ => rfl) (fun _ => rfl) (fun _ => rfl) (fun u2 => ?_)
    refine r_if_ne C 31 dX5_least_21 (by decide) (fun h21 => ?_) (fun h21 => ?_)
    · refine r_aload_n C 0 dX5_least_24 rfl ?_
      refine r_ldc C (-1000005) dX5_least_25 m_387 ?_
      refine r_callV0 C (o_X5_finding l X (-1000005 : Int32)) v_X5_finding m_207 [.int (-1000005 : Int32)] [] (50) (Or.inl ⟨0, 4, _, TX5, 8, rfl, rfl, rfl⟩) (fun u4 => [.int u4.1]) (fun u4 => w_X5 u4.2) rfl rfl rfl (Nat.le_of_ble_eq_true rfl) ⟨(Nat.le_of_ble_eq_true rfl), (Nat.le_of_ble_eq_true rfl)⟩ ⟨Nat.zero_le _, Nat.zero_le _⟩ dX5_least_27 (fun _ => rfl) (fun _ => rfl) (fun _ => rfl) (fun u4 => ?_)
      exact r_reti (x := u4.1) (rv := (fun u => some (.int u.1))) (hpE := (fun u => w_X5 u.2)) (t0 := (u4.1, u4.2)) C dX5_least_30 (by rfl) (by rfl) (by rfl)
    · refine r_aload_n C 0 dX5_least_31 rfl ?_
      refine r_get C 0 3 dX5_least_32 K_X5 rfl rfl (Nat.le_of_ble_eq_true rfl) rfl m_177 rfl ?_
      refine r_aload_n C 0 dX5_least_35 rfl ?_
      refine r_get C 0 0 dX5_least_36 K_X5 rfl rfl (Nat.le_of_ble_eq_true rfl) rfl m_174 rfl ?_
      refine r_iload_n C 1 dX5_least_39 rfl ?_
      refine r_callV C (o_X4_worth l (X 4) (X 1) a1) v_X4_worth m_436 [22, 23, 24, 25, 26, 27, 28, 1, 2, 3, 4, 5, 6, 7] [.ref 51, .int a1] [] (72) (Or.inl ⟨22, 3, _, TX4, 6, rfl, rfl, rfl⟩) (fun u3 => [.int u3.1]) (fun u3 => w_X5 (va_up X 4 u3.2)) rfl rfl rfl rfl rfl (Nat.le_of_ble_eq_true rfl) ⟨(Nat.le_of_ble_eq_true rfl), (Nat.le_of_ble_eq_true rfl)⟩ ⟨Nat.zero_le _, Nat.zero_le _⟩ dX5_least_40 (fun _ => rfl) (fun _ => rfl) (fun _ => rfl) (fun u3 => ?_)
      exact r_reti (x := u3.1) (rv := (fun u => some (.int u.1))) (hpE := (fun u => w_X5 u.2)) (t0 := (u3.1, (va_up X 4 u3.2))) C dX5_least_43 (by rfl) (by rfl) (by rfl)
set_option maxRecDepth 100000 in
set_option maxHeartbeats 4000000 in
theorem o_X5_held (l : Launch) (X : (Nat → q_St)) (a1 : Int32) (a2 : Int32) (a3 : Int32) : q_Ok l yX5_held cX5_held 4 (some .int) 6 147 [.ref 50, .int a1, .int a2, .int a3] (w_X5 X) (f_X5_held X a1 a2 a3) (fun u => some (.int u.1)) (fun u => w_X5 u.2) := by
  refine q_enter (by decide +kernel) (Nat.le_of_ble_eq_true rfl) (fun t p e s m args below meth c dC dI dA A α C => ?_)
  refine r_cut (f_X5_held.eq_1 _ _ _ _) ?_
  show q_S p l e (q_rm 6 147) s m args below meth c 4 dC dI dA A α (MQ below (q_Q α dC dI dA A ((fun u => some (.int u.1)) t) ((fun u => w_X5 u.2) t)) args s 0 0 A) 0 0 _ t 0 [(0, .ref 50), (1, .int a1), (2, .int a2), (3, .int a3)] [] (w_X5 X)
  refine r_aload_n C 0 dX5_held_0 rfl ?_
  refine r_get C 0 0 dX5_held_1 K_X5 rfl rfl (Nat.le_of_ble_eq_true rfl) rfl m_174 rfl ?_
  refine r_iload_n C 1 dX5_held_4 rfl ?_
  refine r_callV C (o_X0_isBeat l (X 1) a1) v_X0_isBeat m_305 [1, 2, 3, 4, 5, 6, 7] [.int a1] [] (51) (Or.inl ⟨1, 0, _, TX0, 16, rfl, rfl, rfl⟩) (fun u1 => [.int u1]) (fun u1 => w_X5 X) rfl rfl rfl rfl rfl (Nat.le_of_ble_eq_true rfl) ⟨(Nat.le_of_ble_eq_true rfl), (Nat.le_of_ble_eq_true rfl)⟩ ⟨Nat.zero_le _, Nat.zero_le _⟩ dX5_held_5 (fun _ => rfl) (fun _ => rfl) (fun _ => rfl) (fun u1 => ?_)
  refine r_if_eq C 25 dX5_held_8 (by decide) (fun h8 => ?_) (fun h8 => ?_)
  · refine r_aload_n C 0 dX5_held_25 rfl ?_
    refine r_ldc C (-1000001) dX5_held_26 m_206 ?_
    refine r_callV0 C (o_X5_finding l X (-1000001 : Int32)) v_X5_finding m_207 [.int (-1000001 : Int32)] [] (50) (Or.inl ⟨0, 4, _, TX5, 8, rfl, rfl, rfl⟩) (fun u2 => [.int u2.1]) (fun u2 => w_X5 u2.2) rfl rfl rfl (Nat.le_of_ble_eq_true rfl) ⟨(Nat.le_of_ble_eq_true rfl), (Nat.le_of_ble_eq_true rfl)⟩ ⟨Nat.zero_le _, Nat.zero_le _⟩ dX5_held_28 (fun _ => rfl) (fun _ => rfl) (fun _ => rfl) (fun u2 => ?_)
    exact r_reti (x := u2.1) (rv := (fun u => some (.int u.1))) (hpE := (fun u => w_X5 u.2)) (t0 := (u2.1, u2.2)) C dX5_held_31 (by rfl) (by rfl) (by rfl)
  · refine r_iload_n C 2 dX5_held_11 rfl ?_
    refine r_callS C (o_X5_isHand l a2) v_X5_isHand m_380 [] [.int a2] [] (fun u3 => [.int u3]) (fun u3 => w_X5 X) rfl rfl rfl rfl rfl (Nat.le_of_ble_eq_true rfl) ⟨(Nat.le_of_ble_eq_true rfl), (Nat.le_of_ble_eq_true rfl)⟩ ⟨Nat.zero_le _, Nat.zero_le _⟩ dX5_held_12 (fun _ => rfl) (fun _ => rfl) (fun _ => rfl) (fun u3 => ?_)
    refine r_if_eq C 25 dX5_held_15 (by decide) (fun h15 => ?_) (fun h15 => ?_)
    · refine r_aload_n C 0 dX5_held_25 rfl ?_
      refine r_ldc C (-1000001) dX5_held_26 m_206 ?_
      refine r_callV0 C (o_X5_finding l X (-1000001 : Int32)) v_X5_finding m_207 [.int (-1000001 : Int32)] [] (50) (Or.inl ⟨0, 4, _, TX5, 8, rfl, rfl, rfl⟩) (fun u4 => [.int u4.1]) (fun u4 => w_X5 u4.2) rfl rfl rfl (Nat.le_of_ble_eq_true rfl) ⟨(Nat.le_of_ble_eq_true rfl), (Nat.le_of_ble_eq_true rfl)⟩ ⟨Nat.zero_le _, Nat.zero_le _⟩ dX5_held_28 (fun _ => rfl) (fun _ => rfl) (fun _ => rfl) (fun u4 => ?_)
      exact r_reti (x := u4.1) (rv := (fun u => some (.int u.1))) (hpE := (fun u => w_X5 u.2)) (t0 := (u4.1, u4.2)) C dX5_held_31 (by rfl) (by rfl) (by rfl)
    · refine r_iload_n C 3 dX5_held_18 rfl ?_
      refine r_callS C (o_X5_isWorth l a3) v_X5_isWorth m_428 [] [.int a3] [] (fun u5 => [.int u5]) (fun u5 => w_X5 X) rfl rfl rfl rfl rfl (Nat.le_of_ble_eq_true rfl) ⟨(Nat.le_of_ble_eq_true rfl), (Nat.le_of_ble_eq_true rfl)⟩ ⟨Nat.zero_le _, Nat.zero_le _⟩ dX5_held_19 (fun _ => rfl) (fun _ => rfl) (fun _ => rfl) (fun u5 => ?_)
      refine r_if_ne C 32 dX5_held_22 (by decide) (fun h22 => ?_) (fun h22 => ?_)
      · refine r_aload_n C 0 dX5_held_25 rfl ?_
        refine r_ldc C (-1000001) dX5_held_26 m_206 ?_
        refine r_callV0 C (o_X5_finding l X (-1000001 : Int32)) v_X5_finding m_207 [.int (-1000001 : Int32)] [] (50) (Or.inl ⟨0, 4, _, TX5, 8, rfl, rfl, rfl⟩) (fun u11 => [.int u11.1]) (fun u11 => w_X5 u11.2) rfl rfl rfl (Nat.le_of_ble_eq_true rfl) ⟨(Nat.le_of_ble_eq_true rfl), (Nat.le_of_ble_eq_true rfl)⟩ ⟨Nat.zero_le _, Nat.zero_le _⟩ dX5_held_28 (fun _ => rfl) (fun _ => rfl) (fun _ => rfl) (fun u11 => ?_)
        exact r_reti (x := u11.1) (rv := (fun u => some (.int u.1))) (hpE := (fun u => w_X5 u.2)) (t0 := (u11.1, u11.2)) C dX5_held_31 (by rfl) (by rfl) (by rfl)
      · refine r_aload_n C 0 dX5_held_32 rfl ?_
        refine r_get C 0 0 dX5_held_33 K_X5 rfl rfl (Nat.le_of_ble_eq_true rfl) rfl m_174 rfl ?_
        refine r_callV C (o_X0_isGoing l (X 1)) v_X0_isGoing m_431 [1, 2, 3, 4, 5, 6, 7] [] [] (51) (Or.inl ⟨1, 0, _, TX0, 16, rfl, rfl, rfl⟩) (fun u6 => [.int u6]) (fun u6 => w_X5 X) rfl rfl rfl rfl rfl (Nat.le_of_ble_eq_true rfl) ⟨(Nat.le_of_ble_eq_true rfl), (Nat.le_of_ble_eq_true rfl)⟩ ⟨Nat.zero_le _, Nat.zero_le _⟩ dX5_held_36 (fun _ => rfl) (fun _ => rfl) (fun _ => rfl) (fun u6 => ?_)
        refine r_if_ne C 49 dX5_held_39 (by decide) (fun h39 => ?_) (fun h39 => ?_)
        · refine r_aload_n C 0 dX5_held_42 rfl ?_
          refine r_ldc C (-1000005) dX5_held_43 m_387 ?_
          refine r_callV0 C (o_X5_finding l X (-1000005 : Int32)) v_X5_finding m_207 [.int (-1000005 : Int32)] [] (50) (Or.inl ⟨0, 4, _, TX5, 8, rfl, rfl, rfl⟩) (fun u10 => [.int u10.1]) (fun u10 => w_X5 u10.2) rfl rfl rfl (Nat.le_of_ble_eq_true rfl) ⟨(Nat.le_of_ble_eq_true rfl), (Nat.le_of_ble_eq_true rfl)⟩ ⟨Nat.zero_le _, Nat.zero_le _⟩ dX5_held_45 (fun _ => rfl) (fun _ => rfl) (fun _ => rfl) (fun u10 => ?_)
          exact r_reti (x := u10.1) (rv := (fun u => some (.int u.1))) (hpE := (fun u => w_X5 u.2)) (t0 := (u10.1, u10.2)) C dX5_held_48 (by rfl) (by rfl) (by rfl)
        · refine r_aload_n C 0 dX5_held_49 rfl ?_
          refine r_get C 0 3 dX5_held_50 K_X5 rfl rfl (Nat.le_of_ble_eq_true rfl) rfl m_177 rfl ?_
          refine r_aload_n C 0 dX5_held_53 rfl ?_
          refine r_get C 0 0 dX5_held_54 K_X5 rfl rfl (Nat.le_of_ble_eq_true rfl) rfl m_174 rfl ?_
          refine r_iload_n C 3 dX5_held_57 rfl ?_
          refine r_callV C (o_X4_follow l (X 4) (X 1) a3) v_X4_follow m_475 [22, 23, 24, 25, 26, 27, 28, 1, 2, 3, 4, 5, 6, 7] [.ref 51, .int a3] [] (72) (Or.inl ⟨22, 3, _, TX4, 6, rfl, rfl, rfl⟩) (fun u7 => []) (fun u7 => w_X5 (va_up X 4 u7)) rfl rfl rfl rfl rfl (Nat.le_of_ble_eq_true rfl) ⟨(Nat.le_of_ble_eq_true rfl), (Nat.le_of_ble_eq_true rfl)⟩ ⟨Nat.zero_le _, Nat.zero_le _⟩ dX5_held_58 (fun _ => rfl) (fun _ => rfl) (fun _ => rfl) (fun u7 => ?_)
          refine r_iload_n C 2 dX5_held_61 rfl ?_
          refine r_if_ne C 76 dX5_held_62 (by decide) (fun h62 => ?_) (fun h62 => ?_)
          · refine r_aload_n C 0 dX5_held_65 rfl ?_
            refine r_get C 0 3 dX5_held_66 K_X5 rfl rfl (Nat.le_of_ble_eq_true rfl) rfl m_177 rfl ?_
            refine r_iload_n C 1 dX5_held_69 rfl ?_
            refine r_callV C (o_X4_leftIn l u7 a1) v_X4_leftIn m_489 [22, 23, 24, 25, 26, 27, 28] [.int a1] [] (72) (Or.inl ⟨22, 3, _, TX4, 6, rfl, rfl, rfl⟩) (fun u9 => [.int u9]) (fun u9 => w_X5 (va_up X 4 u7)) rfl rfl rfl rfl rfl (Nat.le_of_ble_eq_true rfl) ⟨(Nat.le_of_ble_eq_true rfl), (Nat.le_of_ble_eq_true rfl)⟩ ⟨Nat.zero_le _, Nat.zero_le _⟩ dX5_held_70 (fun _ => rfl) (fun _ => rfl) (fun _ => rfl) (fun u9 => ?_)
            refine r_goto C 84 dX5_held_73 (by decide) ?_
            exact r_reti (x := u9) (rv := (fun u => some (.int u.1))) (hpE := (fun u => w_X5 u.2)) (t0 := (u9, (va_up X 4 u7))) C dX5_held_84 (by rfl) (by rfl) (by rfl)
          · refine r_aload_n C 0 dX5_held_76 rfl ?_
            refine r_get C 0 3 dX5_held_77 K_X5 rfl rfl (Nat.le_of_ble_eq_true rfl) rfl m_177 rfl ?_
            refine r_iload_n C 1 dX5_held_80 rfl ?_
            refine r_callV C (o_X4_rightIn l u7 a1) v_X4_rightIn m_493 [22, 23, 24, 25, 26, 27, 28] [.int a1] [] (72) (Or.inl ⟨22, 3, _, TX4, 6, rfl, rfl, rfl⟩) (fun u8 => [.int u8]) (fun u8 => w_X5 (va_up X 4 u7)) rfl rfl rfl rfl rfl (Nat.le_of_ble_eq_true rfl) ⟨(Nat.le_of_ble_eq_true rfl), (Nat.le_of_ble_eq_true rfl)⟩ ⟨Nat.zero_le _, Nat.zero_le _⟩ dX5_held_81 (fun _ => rfl) (fun _ => rfl) (fun _ => rfl) (fun u8 => ?_)
            exact r_reti (x := u8) (rv := (fun u => some (.int u.1))) (hpE := (fun u => w_X5 u.2)) (t0 := (u8, (va_up X 4 u7))) C dX5_held_84 (by rfl) (by rfl) (by rfl)
set_option maxRecDepth 100000 in
set_option maxHeartbeats 4000000 in
theorem o_X5_part (l : Launch) (X : (Nat → q_St)) (a1 : Int32) (a2 : Int32) (a3 : Int32) : q_Ok l yX5_part cX5_part 4 (some .int) 6 131 [.ref 50, .int a1, .int a2, .int a3] (w_X5 X) (f_X5_part X a1 a2 a3) (fun u => some (.int u.1)) (fun u => w_X5 u.2) := by
  refine q_enter (by decide +kernel) (Nat.le_of_ble_eq_true rfl) (fun t p e s m args below meth c dC dI dA A α C => ?_)
  refine r_cut (f_X5_part.eq_1 _ _ _ _) ?_
  show q_S p l e (q_rm 6 131) s m args below meth c 4 dC dI dA A α (MQ below (q_Q α dC dI dA A ((fun u => some (.int u.1)) t) ((fun u => w_X5 u.2) t)) args s 0 0 A) 0 0 _ t 0 [(0, .ref 50), (1, .int a1), (2, .int a2), (3, .int a3)] [] (w_X5 X)
  refine r_aload_n C 0 dX5_part_0 rfl ?_
  refine r_get C 0 0 dX5_part_1 K_X5 rfl rfl (Nat.le_of_ble_eq_true rfl) rfl m_174 rfl ?_
  refine r_iload_n C 1 dX5_part_4 rfl ?_
  refine r_callV C (o_X0_isBeat l (X 1) a1) v_X0_isBeat m_305 [1, 2, 3, 4, 5, 6, 7] [.int a1] [] (51) (Or.inl ⟨1, 0, _, TX0, 16, rfl, rfl, rfl⟩) (fun u1 => [.int u1]) (fun u1 => w_X5 X) rfl rfl rfl rfl rfl (Nat.le_of_ble_eq_true rfl) ⟨(Nat.le_of_ble_eq_true rfl), (Nat.le_of_ble_eq_true rfl)⟩ ⟨Nat.zero_le _, Nat.zero_le _⟩ dX5_part_5 (fun _ => rfl) (fun _ => rfl) (fun _ => rfl) (fun u1 => ?_)
  refine r_if_eq C 34 dX5_part_8 (by decide) (fun h8 => ?_) (fun h8 => ?_)
  · refine r_aload_n C 0 dX5_part_34 rfl ?_
    refine r_ldc C (-1000001) dX5_part_35 m_206 ?_
    refine r_callV0 C (o_X5_finding l X (-1000001 : Int32)) v_X5_finding m_207 [.int (-1000001 : Int32)] [] (50) (Or.inl ⟨0, 4, _, TX5, 8, rfl, rfl, rfl⟩) (fun u2 => [.int u2.1]) (fun u2 => w_X5 u2.2) rfl rfl rfl (Nat.le_of_ble_eq_true rfl) ⟨(Nat.le_of_ble_eq_true rfl), (Nat.le_of_ble_eq_true rfl)⟩ ⟨Nat.zero_le _, Nat.zero_le _⟩ dX5_part_37 (fun _ => rfl) (fun _ => rfl) (fun _ => rfl) (fun u2 => ?_)
    exact r_reti (x := u2.1) (rv := (fun u => some (.int u.1))) (hpE := (fun u => w_X5 u.2)) (t0 := (u2.1, u2.2)) C dX5_part_40 (by rfl) (by rfl) (by rfl)
  · refine r_aload_n C 0 dX5_part_11 rfl ?_
    refine r_get C 0 0 dX5_part_12 K_X5 rfl rfl (Nat.le_of_ble_eq_true rfl) rfl m_174 rfl ?_
    refine r_iload_n C 2 dX5_part_15 rfl ?_
    refine r_callV C (o_X0_isBeat l (X 1) a2) v_X0_isBeat m_305 [1, 2, 3, 4, 5, 6, 7] [.int a2] [] (51) (Or.inl ⟨1, 0, _, TX0, 16, rfl, rfl, rfl⟩) (fun u3 => [.int u3]) (fun u3 => w_X5 X) rfl rfl rfl rfl rfl (Nat.le_of_ble_eq_true rfl) ⟨(Nat.le_of_ble_eq_true rfl), (Nat.le_of_ble_eq_true rfl)⟩ ⟨Nat.zero_le _, Nat.zero_le _⟩ dX5_part_16 (fun _ => rfl) (fun _ => rfl) (fun _ => rfl) (fun u3 => ?_)
    refine r_if_eq C 34 dX5_part_19 (by decide) (fun h19 => ?_) (fun h19 => ?_)
    · refine r_aload_n C 0 dX5_part_34 rfl ?_
      refine r_ldc C (-1000001) dX5_part_35 m_206 ?_
      refine r_callV0 C (o_X5_finding l X (-1000001 : Int32)) v_X5_finding m_207 [.int (-1000001 : Int32)] [] (50) (Or.inl ⟨0, 4, _, TX5, 8, rfl, rfl, rfl⟩) (fun u4 => [.int u4.1]) (fun u4 => w_X5 u4.2) rfl rfl rfl (Nat.le_of_ble_eq_true rfl) ⟨(Nat.le_of_ble_eq_true rfl), (Nat.le_of_ble_eq_true rfl)⟩ ⟨Nat.zero_le _, Nat.zero_le _⟩ dX5_part_37 (fun _ => rfl) (fun _ => rfl) (fun _ => rfl) (fun u4 => ?_)
      exact r_reti (x := u4.1) (rv := (fun u => some (.int u.1))) (hpE := (fun u => w_X5 u.2)) (t0 := (u4.1, u4.2)) C dX5_part_40 (by rfl) (by rfl) (by rfl)
    · refine r_iload_n C 1 dX5_part_22 rfl ?_
      refine r_iload_n C 2 dX5_part_23 rfl ?_
      refine r_icmp_gt C 34 dX5_part_24 (by decide) (fun h24 => ?_) (fun h24 => ?_)
      · refine r_aload_n C 0 dX5_part_34 rfl ?_
        refine r_ldc C (-1000001) dX5_part_35 m_206 ?_
        refine r_callV0 C (o_X5_finding l X (-1000001 : Int32)) v_X5_finding m_207 [.int (-1000001 : Int32)] [] (50) (Or.inl ⟨0, 4, _, TX5, 8, rfl, rfl, rfl⟩) (fun u5 => [.int u5.1]) (fun u5 => w_X5 u5.2) rfl rfl rfl (Nat.le_of_ble_eq_true rfl) ⟨(Nat.le_of_ble_eq_true rfl), (Nat.le_of_ble_eq_true rfl)⟩ ⟨Nat.zero_le _, Nat.zero_le _⟩ dX5_part_37 (fun _ => rfl) (fun _ => rfl) (fun _ => rfl) (fun u5 => ?_)
        exact r_reti (x := u5.1) (rv := (fun u => some (.int u.1))) (hpE := (fun u => w_X5 u.2)) (t0 := (u5.1, u5.2)) C dX5_part_40 (by rfl) (by rfl) (by rfl)
      · refine r_iload_n C 3 dX5_part_27 rfl ?_
        refine r_callS C (o_X5_isWorth l a3) v_X5_isWorth m_428 [] [.int a3] [] (fun u6 => [.int u6]) (fun u6 => w_X5 X) rfl rfl rfl rfl rfl (Nat.le_of_ble_eq_true rfl) ⟨(Nat.le_of_ble_eq_true rfl), (Nat.le_of_ble_eq_true rfl)⟩ ⟨Nat.zero_le _, Nat.zero_le _⟩ dX5_part_28 (fun _ => rfl) (fun _ => rfl) (fun _ => rfl) (fun u6 => ?_)
        refine r_if_ne C 41 dX5_part_31 (by decide) (fun h31 => ?_) (fun h31 => ?_)
        · refine r_aload_n C 0 dX5_part_34 rfl ?_
          refine r_ldc C (-1000001) dX5_part_35 m_206 ?_
          refine r_callV0 C (o_X5_finding l X (-1000001 : Int32)) v_X5_finding m_207 [.int (-1000001 : Int32)] [] (50) (Or.inl ⟨0, 4, _, TX5, 8, rfl, rfl, rfl⟩) (fun u12 => [.int u12.1]) (fun u12 => w_X5 u12.2) rfl rfl rfl (Nat.le_of_ble_eq_true rfl) ⟨(Nat.le_of_ble_eq_true rfl), (Nat.le_of_ble_eq_true rfl)⟩ ⟨Nat.zero_le _, Nat.zero_le _⟩ dX5_part_37 (fun _ => rfl) (fun _ => rfl) (fun _ => rfl) (fun u12 => ?_)
          exact r_reti (x := u12.1) (rv := (fun u => some (.int u.1))) (hpE := (fun u => w_X5 u.2)) (t0 := (u12.1, u12.2)) C dX5_part_40 (by rfl) (by rfl) (by rfl)
        · refine r_aload_n C 0 dX5_part_41 rfl ?_
          refine r_get C 0 2 dX5_part_42 K_X5 rfl rfl (Nat.le_of_ble_eq_true rfl) rfl m_176 rfl ?_
          refine r_aload_n C 0 dX5_part_45 rfl ?_
          refine r_get C 0 0 dX5_part_46 K_X5 rfl rfl (Nat.le_of_ble_eq_true rfl) rfl m_174 rfl ?_
          refine r_callV C (o_X0_take l (X 3) (X 1)) v_X0_take m_501 [15, 16, 17, 18, 19, 20, 21, 1, 2, 3, 4, 5, 6, 7] [.ref 51] [] (65) (Or.inl ⟨15, 0, _, TX0, 16, rfl, rfl, rfl⟩) (fun u7 => []) (fun u7 => w_X5 (va_up X 3 u7)) rfl rfl rfl rfl rfl (Nat.le_of_ble_eq_true rfl) ⟨(Nat.le_of_ble_eq_true rfl), (Nat.le_of_ble_eq_true rfl)⟩ ⟨Nat.zero_le _, Nat.zero_le _⟩ dX5_part_49 (fun _ => rfl) (fun _ => rfl) (fun _ => rfl) (fun u7 => ?_)
          refine r_aload_n C 0 dX5_part_52 rfl ?_
          refine r_get C 0 2 dX5_part_53 K_X5 rfl rfl (Nat.le_of_ble_eq_true rfl) rfl m_176 rfl ?_
          refine r_iload_n C 1 dX5_part_56 rfl ?_
          refine r_iload_n C 2 dX5_part_57 rfl ?_
          refine r_callV C (o_X0_keepBeats l u7 a1 a2) v_X0_keepBeats m_508 [15, 16, 17, 18, 19, 20, 21] [.int a1, .int a2] [] (65) (Or.inl ⟨15, 0, _, TX0, 16, rfl, rfl, rfl⟩) (fun u8 => []) (fun u8 => w_X5 (va_up X 3 u8)) rfl rfl rfl rfl rfl (Nat.le_of_ble_eq_true rfl) ⟨(Nat.le_of_ble_eq_true rfl), (Nat.le_of_ble_eq_true rfl)⟩ ⟨Nat.zero_le _, Nat.zero_le _⟩ dX5_part_58 (fun _ => rfl) (fun _ => rfl) (fun _ => rfl) (fun u8 => ?_)
          refine r_aload_n C 0 dX5_part_61 rfl ?_
          refine r_get C 0 2 dX5_part_62 K_X5 rfl rfl (Nat.le_of_ble_eq_true rfl) rfl m_176 rfl ?_
          refine r_callV C (o_X0_isGoing l u8) v_X0_isGoing m_431 [15, 16, 17, 18, 19, 20, 21] [] [] (65) (Or.inl ⟨15, 0, _, TX0, 16, rfl, rfl, rfl⟩) (fun u9 => [.int u9]) (fun u9 => w_X5 (va_up X 3 u8)) rfl rfl rfl rfl rfl (Nat.le_of_ble_eq_true rfl) ⟨(Nat.le_of_ble_eq_true rfl), (Nat.le_of_ble_eq_true rfl)⟩ ⟨Nat.zero_le _, Nat.zero_le _⟩ dX5_part_65 (fun _ => rfl) (fun _ => rfl) (fun _ => rfl) (fun u9 => ?_)
          refine r_if_ne C 78 dX5_part_68 (by decide) (fun h68 => ?_) (fun h68 => ?_)
          · refine r_aload_n C 0 dX5_part_71 rfl ?_
            refine r_ldc C (-1000005) dX5_part_72 m_387 ?_
            refine r_callV0 C (o_X5_finding l (va_up X 3 u8) (-1000005 : Int32)) v_X5_finding m_207 [.int (-1000005 : Int32)] [] (50) (Or.inl ⟨0, 4, _, TX5, 8, rfl, rfl, rfl⟩) (fun u11 => [.int u11.1]) (fun u11 => w_X5 u11.2) rfl rfl rfl (Nat.le_of_ble_eq_true rfl) ⟨(Nat.le_of_ble_eq_true rfl), (Nat.le_of_ble_eq_true rfl)⟩ ⟨Nat.zero_le _, Nat.zero_le _⟩ dX5_part_74 (fun _ => rfl) (fun _ => rfl) (fun _ => rfl) (fun u11 => ?_)
            exact r_reti (x := u11.1) (rv := (fun u => some (.int u.1))) (hpE := (fun u => w_X5 u.2)) (t0 := (u11.1, u11.2)) C dX5_part_77 (by rfl) (by rfl) (by rfl)
          · refine r_aload_n C 0 dX5_part_78 rfl ?_
            refine r_get C 0 3 dX5_part_79 K_X5 rfl rfl (Nat.le_of_ble_eq_true rfl) rfl m_177 rfl ?_
            refine r_aload_n C 0 dX5_part_82 rfl ?_
            refine r_get C 0 2 dX5_part_83 K_X5 rfl rfl (Nat.le_of_ble_eq_true rfl) rfl m_176 rfl ?_
            refine r_iload_n C 3 dX5_part_86 rfl ?_
            refine r_callV C (o_X4_worth l (X 4) u8 a3) v_X4_worth m_436 [22, 23, 24, 25, 26, 27, 28, 15, 16, 17, 18, 19, 20, 21] [.ref 65, .int a3] [] (72) (Or.inl ⟨22, 3, _, TX4, 6, rfl, rfl, rfl⟩) (fun u10 => [.int u10.1]) (fun u10 => w_X5 (va_up (va_up X 3 u8) 4 u10.2)) rfl rfl rfl rfl rfl (Nat.le_of_ble_eq_true rfl) ⟨(Nat.le_of_ble_eq_true rfl), (Nat.le_of_ble_eq_true rfl)⟩ ⟨Nat.zero_le _, Nat.zero_le _⟩ dX5_part_87 (fun _ => rfl) (fun _ => rfl) (fun _ => rfl) (fun u10 => ?_)
            exact r_reti (x := u10.1) (rv := (fun u => some (.int u.1))) (hpE := (fun u => w_X5 u.2)) (t0 := (u10.1, (va_up (va_up X 3 u8) 4 u10.2))) C dX5_part_90 (by rfl) (by rfl) (by rfl)
set_option maxRecDepth 100000 in
set_option maxHeartbeats 4000000 in
theorem k_X5_dear_41 {p : Program} {l : Launch} {e : Env} {s : State} {m : MethodId} {args : Array Value} {below : List Frame} {meth : Method} {c : Code} {dC : Nat → ClassId} {dI : Nat → Nat → Nat} {dA : Nat → ClassId} {A : Nat → Prop} {α : Nat → Nat} {t : Int32 × (Nat → q_St)} (C : q_Cx p s m args meth c cX5_dear 5 RX5 (some .int) "dear" dC dI dA A α) (X : (Nat → q_St))  : ∀ (n : Nat) (x1 : Int32) (x2 : Int32) (x3 : Int32) (X' : (Nat → q_St)), q_S p l e (q_rm 6 131) s m args below meth c 5 dC dI dA A α (MQ below (q_Q α dC dI dA A ((fun u => some (.int u.1)) t) ((fun u => w_X5 u.2) t)) args s 0 0 A) 0 0 (f_X5_dear_41 X  n x1 x2 x3 X') t 41 [(0, .ref 50), (1, .int x1), (2, .int x2), (3, .int x3)] [] (w_X5 X') := by
  intro n
  induction n with
  | zero =>
    intro x1 x2 x3 X'
    exact r_cut (f_X5_dear_41.eq_1 _ _ _ _ _) (r_none True.intro)
  | succ n ih =>
    intro x1 x2 x3 X'
    refine r_cut (f_X5_dear_41.eq_2 _ _ _ _ _ _) ?_
    refine r_iload_n C 3 dX5_dear_41 rfl ?_
    refine r_aload_n C 0 dX5_dear_42 rfl ?_
    refine r_get C 0 0 dX5_dear_43 K_X5 rfl rfl (Nat.le_of_ble_eq_true rfl) rfl m_174 rfl ?_
    refine r_get C 1 1 dX5_dear_46 K_X0 rfl rfl (Nat.le_of_ble_eq_true rfl) rfl m_36 rfl ?_
    refine r_icmp_ge C 102 dX5_dear_49 (by decide) (fun h49 => ?_) (fun h49 => ?_)
    · refine r_iload_n C 1 dX5_dear_102 rfl ?_
      exact r_reti (x := x1) (rv := (fun u => some (.int u.1))) (hpE := (fun u => w_X5 u.2)) (t0 := (x1, X')) C dX5_dear_103 (by rfl) (by rfl) (by rfl)
    · refine r_aload_n C 0 dX5_dear_52 rfl ?_
      refine r_get C 0 2 dX5_dear_53 K_X5 rfl rfl (Nat.le_of_ble_eq_true rfl) rfl m_176 rfl ?_
      refine r_aload_n C 0 dX5_dear_56 rfl ?_
      refine r_get C 0 0 dX5_dear_57 K_X5 rfl rfl (Nat.le_of_ble_eq_true rfl) rfl m_174 rfl ?_
      refine r_callV C (o_X0_take l (X' 3) (X' 1)) v_X0_take m_501 [15, 16, 17, 18, 19, 20, 21, 1, 2, 3, 4, 5, 6, 7] [.ref 51] [] (65) (Or.inl ⟨15, 0, _, TX0, 16, rfl, rfl, rfl⟩) (fun u4 => []) (fun u4 => w_X5 (va_up X' 3 u4)) rfl rfl rfl rfl rfl (Nat.le_of_ble_eq_true rfl) ⟨(Nat.le_of_ble_eq_true rfl), (Nat.le_of_ble_eq_true rfl)⟩ ⟨Nat.zero_le _, Nat.zero_le _⟩ dX5_dear_60 (fun _ => rfl) (fun _ => rfl) (fun _ => rfl) (fun u4 => ?_)
      refine r_aload_n C 0 dX5_dear_63 rfl ?_
      refine r_get C 0 2 dX5_dear_64 K_X5 rfl rfl (Nat.le_of_ble_eq_true rfl) rfl m_176 rfl ?_
      refine r_iload_n C 3 dX5_dear_67 rfl ?_
      refine r_callV C (o_X0_dropBeat l u4 x3) v_X0_dropBeat m_357 [15, 16, 17, 18, 19, 20, 21] [.int x3] [] (65) (Or.inl ⟨15, 0, _, TX0, 16, rfl, rfl, rfl⟩) (fun u5 => []) (fun u5 => w_X5 (va_up X' 3 u5)) rfl rfl rfl rfl rfl (Nat.le_of_ble_eq_true rfl) ⟨(Nat.le_of_ble_eq_true rfl), (Nat.le_of_ble_eq_true rfl)⟩ ⟨Nat.zero_le _, Nat.zero_le _⟩ dX5_dear_68 (fun _ => rfl) (fun _ => rfl) (fun _ => rfl) (fun u5 => ?_)
      refine r_aload_n C 0 dX5_dear_71 rfl ?_
      refine r_get C 0 3 dX5_dear_72 K_X5 rfl rfl (Nat.le_of_ble_eq_true rfl) rfl m_177 rfl ?_
      refine r_aload_n C 0 dX5_dear_75 rfl ?_
      refine r_get C 0 2 dX5_dear_76 K_X5 rfl rfl (Nat.le_of_ble_eq_true rfl) rfl m_176 rfl ?_
      refine r_iconst C (0) dX5_dear_79 rfl ?_
      refine r_callV C (o_X4_worth l (X' 4) u5 (0 : Int32)) v_X4_worth m_436 [22, 23, 24, 25, 26, 27, 28, 15, 16, 17, 18, 19, 20, 21] [.ref 65, .int (0 : Int32)] [] (72) (Or.inl ⟨22, 3, _, TX4, 6, rfl, rfl, rfl⟩) (fun u6 => [.int u6.1]) (fun u6 => w_X5 (va_up (va_up X' 3 u5) 4 u6.2)) rfl rfl rfl rfl rfl (Nat.le_of_ble_eq_true rfl) ⟨(Nat.le_of_ble_eq_true rfl), (Nat.le_of_ble_eq_true rfl)⟩ ⟨Nat.zero_le _, Nat.zero_le _⟩ dX5_dear_80 (fun _ => rfl) (fun _ => rfl) (fun _ => rfl) (fun u6 => ?_)
      refine r_istore C [(4, .int u6.1), (0, .ref 50), (1, .int x1), (2, .int x2), (3, .int x3)] dX5_dear_83 (Nat.le_of_ble_eq_true rfl) rfl ?_
      refine r_iload C 0 dX5_dear_85 rfl ?_
      refine r_iload_n C 3 dX5_dear_87 rfl ?_
      refine r_icmp_ge C 96 dX5_dear_88 (by decide) (fun h88 => ?_) (fun h88 => ?_)
      · refine r_iinc C 4 (x3 + 1) [(3, .int (x3 + 1)), (4, .int u6.1), (0, .ref 50), (1, .int x1), (2, .int x2)] dX5_dear_96 rfl rfl (Nat.le_of_ble_eq_true rfl) rfl ?_
        refine r_goto C 41 dX5_dear_99 (by decide) ?_
        refine r_lv [(0, .ref 50), (1, .int x1), (2, .int x2), (3, .int (x3 + 1))] [2, 3, 4, 0] rfl ?_
        exact ih x1 x2 (x3 + 1) (va_up (va_up X' 3 u5) 4 u6.2)
      · refine r_iload C 0 dX5_dear_91 rfl ?_
        refine r_istore_n C [(2, .int u6.1), (4, .int u6.1), (0, .ref 50), (1, .int x1), (3, .int x3)] dX5_dear_93 (Nat.le_of_ble_eq_true rfl) rfl ?_
        refine r_iload_n C 4 dX5_dear_94 rfl ?_
        refine r_istore_n C [(1, .int x3), (2, .int u6.1), (4, .int u6.1), (0, .ref 50), (3, .int x3)] dX5_dear_95 (Nat.le_of_ble_eq_true rfl) rfl ?_
        refine r_iinc C 4 (x3 + 1) [(3, .int (x3 + 1)), (1, .int x3), (2, .int u6.1), (4, .int u6.1), (0, .ref 50)] dX5_dear_96 rfl rfl (Nat.le_of_ble_eq_true rfl) rfl ?_
        refine r_goto C 41 dX5_dear_99 (by decide) ?_
        refine r_lv [(0, .ref 50), (1, .int x3), (2, .int u6.1), (3, .int (x3 + 1))] [4, 1, 2, 0] rfl ?_
        exact ih x3 u6.1 (x3 + 1) (va_up (va_up X' 3 u5) 4 u6.2)
set_option maxRecDepth 100000 in
set_option maxHeartbeats 4000000 in
theorem o_X5_dear (l : Launch) (X : (Nat → q_St)) : q_Ok l yX5_dear cX5_dear 5 (some .int) 6 131 [.ref 50] (w_X5 X) (f_X5_dear X) (fun u => some (.int u.1)) (fun u => w_X5 u.2) := by
  refine q_enter (by decide +kernel) (Nat.le_of_ble_eq_true rfl) (fun t p e s m args below meth c dC dI dA A α C => ?_)
  refine r_cut (f_X5_dear.eq_1 _) ?_
  show q_S p l e (q_rm 6 131) s m args below meth c 5 dC dI dA A α (MQ below (q_Q α dC dI dA A ((fun u => some (.int u.1)) t) ((fun u => w_X5 u.2) t)) args s 0 0 A) 0 0 _ t 0 [(0, .ref 50)] [] (w_X5 X)
  refine r_aload_n C 0 dX5_dear_0 rfl ?_
  refine r_get C 0 0 dX5_dear_1 K_X5 rfl rfl (Nat.le_of_ble_eq_true rfl) rfl m_174 rfl ?_
  refine r_get C 1 1 dX5_dear_4 K_X0 rfl rfl (Nat.le_of_ble_eq_true rfl) rfl m_36 rfl ?_
  refine r_if_ne C 17 dX5_dear_7 (by decide) (fun h7 => ?_) (fun h7 => ?_)
  · refine r_aload_n C 0 dX5_dear_10 rfl ?_
    refine r_ldc C (-1000004) dX5_dear_11 m_517 ?_
    refine r_callV0 C (o_X5_finding l X (-1000004 : Int32)) v_X5_finding m_207 [.int (-1000004 : Int32)] [] (50) (Or.inl ⟨0, 4, _, TX5, 8, rfl, rfl, rfl⟩) (fun u3 => [.int u3.1]) (fun u3 => w_X5 u3.2) rfl rfl rfl (Nat.le_of_ble_eq_true rfl) ⟨(Nat.le_of_ble_eq_true rfl), (Nat.le_of_ble_eq_true rfl)⟩ ⟨Nat.zero_le _, Nat.zero_le _⟩ dX5_dear_13 (fun _ => rfl) (fun _ => rfl) (fun _ => rfl) (fun u3 => ?_)
    exact r_reti (x := u3.1) (rv := (fun u => some (.int u.1))) (hpE := (fun u => w_X5 u.2)) (t0 := (u3.1, u3.2)) C dX5_dear_16 (by rfl) (by rfl) (by rfl)
  · refine r_aload_n C 0 dX5_dear_17 rfl ?_
    refine r_get C 0 0 dX5_dear_18 K_X5 rfl rfl (Nat.le_of_ble_eq_true rfl) rfl m_174 rfl ?_
    refine r_callV C (o_X0_isGoing l (X 1)) v_X0_isGoing m_431 [1, 2, 3, 4, 5, 6, 7] [] [] (51) (Or.inl ⟨1, 0, _, TX0, 16, rfl, rfl, rfl⟩) (fun u1 => [.int u1]) (fun u1 => w_X5 X) rfl rfl rfl rfl rfl (Nat.le_of_ble_eq_true rfl) ⟨(Nat.le_of_ble_eq_true rfl), (Nat.le_of_ble_eq_true rfl)⟩ ⟨Nat.zero_le _, Nat.zero_le _⟩ dX5_dear_21 (fun _ => rfl) (fun _ => rfl) (fun _ => rfl) (fun u1 => ?_)
    refine r_if_ne C 34 dX5_dear_24 (by decide) (fun h24 => ?_) (fun h24 => ?_)
    · refine r_aload_n C 0 dX5_dear_27 rfl ?_
      refine r_ldc C (-1000005) dX5_dear_28 m_387 ?_
      refine r_callV0 C (o_X5_finding l X (-1000005 : Int32)) v_X5_finding m_207 [.int (-1000005 : Int32)] [] (50) (Or.inl ⟨0, 4, _, TX5, 8, rfl, rfl, rfl⟩) (fun u2 => [.int u2.1]) (fun u2 => w_X5 u2.2) rfl rfl rfl (Nat.le_of_ble_eq_true rfl) ⟨(Nat.le_of_ble_eq_true rfl), (Nat.le_of_ble_eq_true rfl)⟩ ⟨Nat.zero_le _, Nat.zero_le _⟩ dX5_dear_30 (fun _ => rfl) (fun _ => rfl) (fun _ => rfl) (fun u2 => ?_)
      exact r_reti (x := u2.1) (rv := (fun u => some (.int u.1))) (hpE := (fun u => w_X5 u.2)) (t0 := (u2.1, u2.2)) C dX5_dear_33 (by rfl) (by rfl) (by rfl)
    · refine r_iconst C (0) dX5_dear_34 rfl ?_
      refine r_istore_n C [(1, .int (0 : Int32)), (0, .ref 50)] dX5_dear_35 (Nat.le_of_ble_eq_true rfl) rfl ?_
      refine r_ldc C (1000000) dX5_dear_36 m_518 ?_
      refine r_istore_n C [(2, .int (1000000 : Int32)), (1, .int (0 : Int32)), (0, .ref 50)] dX5_dear_38 (Nat.le_of_ble_eq_true rfl) rfl ?_
      refine r_iconst C (0) dX5_dear_39 rfl ?_
      refine r_istore_n C [(3, .int (0 : Int32)), (2, .int (1000000 : Int32)), (1, .int (0 : Int32)), (0, .ref 50)] dX5_dear_40 (Nat.le_of_ble_eq_true rfl) rfl ?_
      refine r_lv [(0, .ref 50), (1, .int (0 : Int32)), (2, .int (1000000 : Int32)), (3, .int (0 : Int32))] [3, 2, 1, 0] rfl ?_
      exact k_X5_dear_41 C X   q_N (0 : Int32) (1000000 : Int32) (0 : Int32) X
set_option maxRecDepth 100000 in
set_option maxHeartbeats 4000000 in
theorem o_X5_worthIfSwapped (l : Launch) (X : (Nat → q_St)) (a1 : Int32) : q_Ok l yX5_worthIfSwapped cX5_worthIfSwapped 2 (some .int) 5 121 [.ref 50, .int a1] (w_X5 X) (f_X5_worthIfSwapped X a1) (fun u => some (.int u.1)) (fun u => w_X5 u.2) := by
  refine q_enter (by decide +kernel) (Nat.le_of_ble_eq_true rfl) (fun t p e s m args below meth c dC dI dA A α C => ?_)
  refine r_cut (f_X5_worthIfSwapped.eq_1 _ _) ?_
  show q_S p l e (q_rm 5 121) s m args below meth c 2 dC dI dA A α (MQ below (q_Q α dC dI dA A ((fun u => some (.int u.1)) t) ((fun u => w_X5 u.2) t)) args s 0 0 A) 0 0 _ t 0 [(0, .ref 50), (1, .int a1)] [] (w_X5 X)
  refine r_aload_n C 0 dX5_worthIfSwapped_0 rfl ?_
  refine r_get C 0 2 dX5_worthIfSwapped_1 K_X5 rfl rfl (Nat.le_of_ble_eq_true rfl) rfl m_176 rfl ?_
  refine r_aload_n C 0 dX5_worthIfSwapped_4 rfl ?_
  refine r_get C 0 0 dX5_worthIfSwapped_5 K_X5 rfl rfl (Nat.le_of_ble_eq_true rfl) rfl m_174 rfl ?_
  refine r_callV C (o_X0_take l (X 3) (X 1)) v_X0_take m_501 [15, 16, 17, 18, 19, 20, 21, 1, 2, 3, 4, 5, 6, 7] [.ref 51] [] (65) (Or.inl ⟨15, 0, _, TX0, 16, rfl, rfl, rfl⟩) (fun u1 => []) (fun u1 => w_X5 (va_up X 3 u1)) rfl rfl rfl rfl rfl (Nat.le_of_ble_eq_true rfl) ⟨(Nat.le_of_ble_eq_true rfl), (Nat.le_of_ble_eq_true rfl)⟩ ⟨Nat.zero_le _, Nat.zero_le _⟩ dX5_worthIfSwapped_8 (fun _ => rfl) (fun _ => rfl) (fun _ => rfl) (fun u1 => ?_)
  refine r_iload_n C 1 dX5_worthIfSwapped_11 rfl ?_
  refine r_if_eq C 30 dX5_worthIfSwapped_12 (by decide) (fun h12 => ?_) (fun h12 => ?_)
  · refine r_aload_n C 0 dX5_worthIfSwapped_30 rfl ?_
    refine r_get C 0 3 dX5_worthIfSwapped_31 K_X5 rfl rfl (Nat.le_of_ble_eq_true rfl) rfl m_177 rfl ?_
    refine r_aload_n C 0 dX5_worthIfSwapped_34 rfl ?_
    refine r_get C 0 2 dX5_worthIfSwapped_35 K_X5 rfl rfl (Nat.le_of_ble_eq_true rfl) rfl m_176 rfl ?_
    refine r_iconst C (1) dX5_worthIfSwapped_38 rfl ?_
    refine r_callV C (o_X4_worth l (X 4) u1 (1 : Int32)) v_X4_worth m_436 [22, 23, 24, 25, 26, 27, 28, 15, 16, 17, 18, 19, 20, 21] [.ref 65, .int (1 : Int32)] [] (72) (Or.inl ⟨22, 3, _, TX4, 6, rfl, rfl, rfl⟩) (fun u2 => [.int u2.1]) (fun u2 => w_X5 (va_up (va_up X 3 u1) 4 u2.2)) rfl rfl rfl rfl rfl (Nat.le_of_ble_eq_true rfl) ⟨(Nat.le_of_ble_eq_true rfl), (Nat.le_of_ble_eq_true rfl)⟩ ⟨Nat.zero_le _, Nat.zero_le _⟩ dX5_worthIfSwapped_39 (fun _ => rfl) (fun _ => rfl) (fun _ => rfl) (fun u2 => ?_)
    exact r_reti (x := u2.1) (rv := (fun u => some (.int u.1))) (hpE := (fun u => w_X5 u.2)) (t0 := (u2.1, (va_up (va_up X 3 u1) 4 u2.2))) C dX5_worthIfSwapped_42 (by rfl) (by rfl) (by rfl)
  · refine r_aload_n C 0 dX5_worthIfSwapped_15 rfl ?_
    refine r_get C 0 2 dX5_worthIfSwapped_16 K_X5 rfl rfl (Nat.le_of_ble_eq_true rfl) rfl m_176 rfl ?_
    refine r_iload_n C 1 dX5_worthIfSwapped_19 rfl ?_
    refine r_bipush C (10) dX5_worthIfSwapped_20 rfl ?_
    refine r_idiv C dX5_worthIfSwapped_22 (by decide) ?_
    refine r_iload_n C 1 dX5_worthIfSwapped_23 rfl ?_
    refine r_bipush C (10) dX5_worthIfSwapped_24 rfl ?_
    refine r_irem C dX5_worthIfSwapped_26 (by decide) ?_
    refine r_callV C (o_X0_swapHooks l u1 (a1 / (10 : Int32)) (a1 - a1 / (10 : Int32) * (10 : Int32))) v_X0_swapHooks m_277 [15, 16, 17, 18, 19, 20, 21] [.int (a1 / (10 : Int32)), .int (a1 - a1 / (10 : Int32) * (10 : Int32))] [] (65) (Or.inl ⟨15, 0, _, TX0, 16, rfl, rfl, rfl⟩) (fun u3 => []) (fun u3 => w_X5 (va_up X 3 u3)) rfl rfl rfl rfl rfl (Nat.le_of_ble_eq_true rfl) ⟨(Nat.le_of_ble_eq_true rfl), (Nat.le_of_ble_eq_true rfl)⟩ ⟨Nat.zero_le _, Nat.zero_le _⟩ dX5_worthIfSwapped_27 (fun _ => rfl) (fun _ => rfl) (fun _ => rfl) (fun u3 => ?_)
    refine r_aload_n C 0 dX5_worthIfSwapped_30 rfl ?_
    refine r_get C 0 3 dX5_worthIfSwapped_31 K_X5 rfl rfl (Nat.le_of_ble_eq_true rfl) rfl m_177 rfl ?_
    refine r_aload_n C 0 dX5_worthIfSwapped_34 rfl ?_
    refine r_get C 0 2 dX5_worthIfSwapped_35 K_X5 rfl rfl (Nat.le_of_ble_eq_true rfl) rfl m_176 rfl ?_
    refine r_iconst C (1) dX5_worthIfSwapped_38 rfl ?_
    refine r_callV C (o_X4_worth l (X 4) u3 (1 : Int32)) v_X4_worth m_436 [22, 23, 24, 25, 26, 27, 28, 15, 16, 17, 18, 19, 20, 21] [.ref 65, .int (1 : Int32)] [] (72) (Or.inl ⟨22, 3, _, TX4, 6, rfl, rfl, rfl⟩) (fun u4 => [.int u4.1]) (fun u4 => w_X5 (va_up (va_up X 3 u3) 4 u4.2)) rfl rfl rfl rfl rfl (Nat.le_of_ble_eq_true rfl) ⟨(Nat.le_of_ble_eq_true rfl), (Nat.le_of_ble_eq_true rfl)⟩ ⟨Nat.zero_le _, Nat.zero_le _⟩ dX5_worthIfSwapped_39 (fun _ => rfl) (fun _ => rfl) (fun _ => rfl) (fun u4 => ?_)
    exact r_reti (x := u4.1) (rv := (fun u => some (.int u.1))) (hpE := (fun u => w_X5 u.2)) (t0 := (u4.1, (va_up (va_up X 3 u3) 4 u4.2))) C dX5_worthIfSwapped_42 (by rfl) (by rfl) (by rfl)
