set_option maxRecDepth 100000 in
set_option maxHeartbeats 4000000 in
theorem o_X1_isKind (l : Launch) (a1 : Int32) : q_Ok l yX1_isKind cX1_isKind 1 (some .boolean) 0 0 [.int a1] ([]) (f_X1_isKind a1) (fun u => some (.int u)) (fun _ => []) := by
  refine q_enter (by decide +kernel) (Nat.le_of_ble_eq_true rfl) (fun t p e s m args below meth c dC dI dA A α C => ?_)
  refine r_cut (f_X1_isKind.eq_1 _) ?_
  show q_S p l e (q_rm 0 0) s m args below meth c 1 dC dI dA A α (MQ below (q_Q α dC dI dA A ((fun u => some (.int u)) t) ((fun _ => []) t)) args s 0 0 A) 0 0 _ t 0 [(0, .int a1)] [] ([])
  refine r_iload_n C 0 dX1_isKind_0 rfl ?_
  refine r_if_lt C 14 dX1_isKind_1 (by decide) (fun h1 => ?_) (fun h1 => ?_)
  · refine r_iconst C (0) dX1_isKind_14 rfl ?_
    exact r_retz (x := (0 : Int32)) (rv := (fun u => some (.int u))) (hpE := (fun _ => [])) (t0 := (0 : Int32)) C dX1_isKind_15 (by rfl) (by rfl) (by rfl) (by rfl)
  · refine r_iload_n C 0 dX1_isKind_4 rfl ?_
    refine r_bipush C (7) dX1_isKind_5 rfl ?_
    refine r_icmp_ge C 14 dX1_isKind_7 (by decide) (fun h7 => ?_) (fun h7 => ?_)
    · refine r_iconst C (0) dX1_isKind_14 rfl ?_
      exact r_retz (x := (0 : Int32)) (rv := (fun u => some (.int u))) (hpE := (fun _ => [])) (t0 := (0 : Int32)) C dX1_isKind_15 (by rfl) (by rfl) (by rfl) (by rfl)
    · refine r_iconst C (1) dX1_isKind_10 rfl ?_
      refine r_goto C 15 dX1_isKind_11 (by decide) ?_
      exact r_retz (x := (1 : Int32)) (rv := (fun u => some (.int u))) (hpE := (fun _ => [])) (t0 := (1 : Int32)) C dX1_isKind_15 (by rfl) (by rfl) (by rfl) (by rfl)
set_option maxRecDepth 100000 in
set_option maxHeartbeats 4000000 in
theorem o_X0_addDoll (l : Launch) (B : q_St) (a1 : Int32) : q_Ok l yX0_addDoll cX0_addDoll 2 (some .int) 0 0 [.ref 50, .int a1] (w_X0 B) (f_X0_addDoll B a1) (fun u => some (.int u.1)) (fun u => w_X0 u.2) := by
  refine q_enter (by decide +kernel) (Nat.le_of_ble_eq_true rfl) (fun t p e s m args below meth c dC dI dA A α C => ?_)
  refine r_cut (f_X0_addDoll.eq_1 _ _) ?_
  show q_S p l e (q_rm 0 0) s m args below meth c 2 dC dI dA A α (MQ below (q_Q α dC dI dA A ((fun u => some (.int u.1)) t) ((fun u => w_X0 u.2) t)) args s 0 0 A) 0 0 _ t 0 [(0, .ref 50), (1, .int a1)] [] (w_X0 B)
  refine r_aload_n C 0 dX0_addDoll_0 rfl ?_
  refine r_get C 0 0 dX0_addDoll_1 K_X0 rfl rfl (Nat.le_of_ble_eq_true rfl) rfl m_29 rfl ?_
  refine r_if_lt C 16 dX0_addDoll_4 (by decide) (fun h4 => ?_) (fun h4 => ?_)
  · refine r_iconst C (-1) dX0_addDoll_16 rfl ?_
    exact r_reti (x := (-1 : Int32)) (rv := (fun u => some (.int u.1))) (hpE := (fun u => w_X0 u.2)) (t0 := ((-1 : Int32), B)) C dX0_addDoll_17 (by rfl) (by rfl) (by rfl)
  · refine r_aload_n C 0 dX0_addDoll_7 rfl ?_
    refine r_get C 0 0 dX0_addDoll_8 K_X0 rfl rfl (Nat.le_of_ble_eq_true rfl) rfl m_29 rfl ?_
    refine r_bipush C (8) dX0_addDoll_11 rfl ?_
    refine r_icmp_lt C 18 dX0_addDoll_13 (by decide) (fun h13 => ?_) (fun h13 => ?_)
    · refine r_aload_n C 0 dX0_addDoll_18 rfl ?_
      refine r_get C 0 10 dX0_addDoll_19 K_X0 rfl rfl (Nat.le_of_ble_eq_true rfl) rfl m_56 rfl ?_
      refine r_aload_n C 0 dX0_addDoll_22 rfl ?_
      refine r_get C 0 0 dX0_addDoll_23 K_X0 rfl rfl (Nat.le_of_ble_eq_true rfl) rfl m_29 rfl ?_
      refine r_iload_n C 1 dX0_addDoll_26 rfl ?_
      refine r_iast C 1 _ dX0_addDoll_27 rfl rfl rfl (fun hi27 => ?_)
      refine r_aload_n C 0 dX0_addDoll_28 rfl ?_
      refine r_get C 0 11 dX0_addDoll_29 K_X0 rfl rfl (Nat.le_of_ble_eq_true rfl) rfl m_57 rfl ?_
      refine r_aload_n C 0 dX0_addDoll_32 rfl ?_
      refine r_get C 0 0 dX0_addDoll_33 K_X0 rfl rfl (Nat.le_of_ble_eq_true rfl) rfl m_29 rfl ?_
      refine r_iconst C (3) dX0_addDoll_36 rfl ?_
      refine r_iast C 2 _ dX0_addDoll_37 rfl rfl rfl (fun hi37 => ?_)
      refine r_aload_n C 0 dX0_addDoll_38 rfl ?_
      refine r_get C 0 12 dX0_addDoll_39 K_X0 rfl rfl (Nat.le_of_ble_eq_true rfl) rfl m_58 rfl ?_
      refine r_aload_n C 0 dX0_addDoll_42 rfl ?_
      refine r_get C 0 0 dX0_addDoll_43 K_X0 rfl rfl (Nat.le_of_ble_eq_true rfl) rfl m_29 rfl ?_
      refine r_aload_n C 0 dX0_addDoll_46 rfl ?_
      refine r_get C 0 0 dX0_addDoll_47 K_X0 rfl rfl (Nat.le_of_ble_eq_true rfl) rfl m_29 rfl ?_
      refine r_iast C 3 _ dX0_addDoll_50 rfl rfl rfl (fun hi50 => ?_)
      refine r_aload_n C 0 dX0_addDoll_51 rfl ?_
      refine r_dup C dX0_addDoll_52 rfl ?_
      refine r_get C 0 0 dX0_addDoll_53 K_X0 rfl rfl (Nat.le_of_ble_eq_true rfl) rfl m_29 rfl ?_
      refine r_iconst C (1) dX0_addDoll_56 rfl ?_
      refine r_iadd C dX0_addDoll_57 ?_
      refine r_put C 0 0 _ dX0_addDoll_58 K_X0 rfl rfl (Nat.le_of_ble_eq_true rfl) rfl m_29 rfl (fun _ => rfl) (fun _ => rfl) (Nat.le_of_ble_eq_true rfl) rfl ?_
      refine r_aload_n C 0 dX0_addDoll_61 rfl ?_
      refine r_get C 0 0 dX0_addDoll_62 K_X0 rfl rfl (Nat.le_of_ble_eq_true rfl) rfl m_29 rfl ?_
      refine r_iconst C (1) dX0_addDoll_65 rfl ?_
      refine r_isub C dX0_addDoll_66 ?_
      exact r_reti (x := ((B.1 0 + (1 : Int32)) - (1 : Int32))) (rv := (fun u => some (.int u.1))) (hpE := (fun u => w_X0 u.2)) (t0 := (((B.1 0 + (1 : Int32)) - (1 : Int32)), ((va_up B.1 0 (B.1 0 + (1 : Int32))), (va_up (va_up (va_up B.2 10 (upd (B.2 10) (B.1 0).toNatClampNeg a1)) 11 (upd (B.2 11) (B.1 0).toNatClampNeg (3 : Int32))) 12 (upd (B.2 12) (B.1 0).toNatClampNeg (B.1 0)))))) C dX0_addDoll_67 (by rfl) (by rfl) (by rfl)
    · refine r_iconst C (-1) dX0_addDoll_16 rfl ?_
      exact r_reti (x := (-1 : Int32)) (rv := (fun u => some (.int u.1))) (hpE := (fun u => w_X0 u.2)) (t0 := ((-1 : Int32), B)) C dX0_addDoll_17 (by rfl) (by rfl) (by rfl)
set_option maxRecDepth 100000 in
set_option maxHeartbeats 4000000 in
theorem o_X0_isDoll (l : Launch) (B : q_St) (a1 : Int32) : q_Ok l yX0_isDoll cX0_isDoll 2 (some .boolean) 0 0 [.ref 50, .int a1] (w_X0 B) (f_X0_isDoll B a1) (fun u => some (.int u)) (fun u => w_X0 B) := by
  refine q_enter (by decide +kernel) (Nat.le_of_ble_eq_true rfl) (fun t p e s m args below meth c dC dI dA A α C => ?_)
  refine r_cut (f_X0_isDoll.eq_1 _ _) ?_
  show q_S p l e (q_rm 0 0) s m args below meth c 2 dC dI dA A α (MQ below (q_Q α dC dI dA A ((fun u => some (.int u)) t) ((fun u => w_X0 B) t)) args s 0 0 A) 0 0 _ t 0 [(0, .ref 50), (1, .int a1)] [] (w_X0 B)
  refine r_iload_n C 1 dX0_isDoll_0 rfl ?_
  refine r_if_lt C 16 dX0_isDoll_1 (by decide) (fun h1 => ?_) (fun h1 => ?_)
  · refine r_iconst C (0) dX0_isDoll_16 rfl ?_
    exact r_retz (x := (0 : Int32)) (rv := (fun u => some (.int u))) (hpE := (fun u => w_X0 B)) (t0 := (0 : Int32)) C dX0_isDoll_17 (by rfl) (by rfl) (by rfl) (by rfl)
  · refine r_iload_n C 1 dX0_isDoll_4 rfl ?_
    refine r_aload_n C 0 dX0_isDoll_5 rfl ?_
    refine r_get C 0 0 dX0_isDoll_6 K_X0 rfl rfl (Nat.le_of_ble_eq_true rfl) rfl m_29 rfl ?_
    refine r_icmp_ge C 16 dX0_isDoll_9 (by decide) (fun h9 => ?_) (fun h9 => ?_)
    · refine r_iconst C (0) dX0_isDoll_16 rfl ?_
      exact r_retz (x := (0 : Int32)) (rv := (fun u => some (.int u))) (hpE := (fun u => w_X0 B)) (t0 := (0 : Int32)) C dX0_isDoll_17 (by rfl) (by rfl) (by rfl) (by rfl)
    · refine r_iconst C (1) dX0_isDoll_12 rfl ?_
      refine r_goto C 17 dX0_isDoll_13 (by decide) ?_
      exact r_retz (x := (1 : Int32)) (rv := (fun u => some (.int u))) (hpE := (fun u => w_X0 B)) (t0 := (1 : Int32)) C dX0_isDoll_17 (by rfl) (by rfl) (by rfl) (by rfl)
set_option maxRecDepth 100000 in
set_option maxHeartbeats 4000000 in
theorem o_X0_kindOf (l : Launch) (B : q_St) (a1 : Int32) : q_Ok l yX0_kindOf cX0_kindOf 2 (some .int) 1 21 [.ref 50, .int a1] (w_X0 B) (f_X0_kindOf B a1) (fun u => some (.int u)) (fun u => w_X0 B) := by
  refine q_enter (by decide +kernel) (Nat.le_of_ble_eq_true rfl) (fun t p e s m args below meth c dC dI dA A α C => ?_)
  refine r_cut (f_X0_kindOf.eq_1 _ _) ?_
  show q_S p l e (q_rm 1 21) s m args below meth c 2 dC dI dA A α (MQ below (q_Q α dC dI dA A ((fun u => some (.int u)) t) ((fun u => w_X0 B) t)) args s 0 0 A) 0 0 _ t 0 [(0, .ref 50), (1, .int a1)] [] (w_X0 B)
  refine r_aload_n C 0 dX0_kindOf_0 rfl ?_
  refine r_iload_n C 1 dX0_kindOf_1 rfl ?_
  refine r_callV0 C (o_X0_isDoll l B a1) v_X0_isDoll m_228 [.int a1] [] (50) (Or.inl ⟨0, 0, _, TX0, 16, rfl, rfl, rfl⟩) (fun u1 => [.int u1]) (fun u1 => w_X0 B) rfl rfl rfl (Nat.le_of_ble_eq_true rfl) ⟨(Nat.le_of_ble_eq_true rfl), (Nat.le_of_ble_eq_true rfl)⟩ ⟨Nat.zero_le _, Nat.zero_le _⟩ dX0_kindOf_2 (fun _ => rfl) (fun _ => rfl) (fun _ => rfl) (fun u1 => ?_)
  refine r_if_eq C 17 dX0_kindOf_5 (by decide) (fun h5 => ?_) (fun h5 => ?_)
  · refine r_iconst C (0) dX0_kindOf_17 rfl ?_
    exact r_reti (x := (0 : Int32)) (rv := (fun u => some (.int u))) (hpE := (fun u => w_X0 B)) (t0 := (0 : Int32)) C dX0_kindOf_18 (by rfl) (by rfl) (by rfl)
  · refine r_aload_n C 0 dX0_kindOf_8 rfl ?_
    refine r_get C 0 10 dX0_kindOf_9 K_X0 rfl rfl (Nat.le_of_ble_eq_true rfl) rfl m_56 rfl ?_
    refine r_iload_n C 1 dX0_kindOf_12 rfl ?_
    refine r_iald C 1 dX0_kindOf_13 rfl rfl (fun hi13 => ?_)
    refine r_goto C 18 dX0_kindOf_14 (by decide) ?_
    exact r_reti (x := (B.2 10 a1.toNatClampNeg)) (rv := (fun u => some (.int u))) (hpE := (fun u => w_X0 B)) (t0 := (B.2 10 a1.toNatClampNeg)) C dX0_kindOf_18 (by rfl) (by rfl) (by rfl)
set_option maxRecDepth 100000 in
set_option maxHeartbeats 4000000 in
theorem o_X0_sizeOf (l : Launch) (B : q_St) (a1 : Int32) : q_Ok l yX0_sizeOf cX0_sizeOf 2 (some .int) 1 21 [.ref 50, .int a1] (w_X0 B) (f_X0_sizeOf B a1) (fun u => some (.int u)) (fun u => w_X0 B) := by
  refine q_enter (by decide +kernel) (Nat.le_of_ble_eq_true rfl) (fun t p e s m args below meth c dC dI dA A α C => ?_)
  refine r_cut (f_X0_sizeOf.eq_1 _ _) ?_
  show q_S p l e (q_rm 1 21) s m args below meth c 2 dC dI dA A α (MQ below (q_Q α dC dI dA A ((fun u => some (.int u)) t) ((fun u => w_X0 B) t)) args s 0 0 A) 0 0 _ t 0 [(0, .ref 50), (1, .int a1)] [] (w_X0 B)
  refine r_aload_n C 0 dX0_sizeOf_0 rfl ?_
  refine r_iload_n C 1 dX0_sizeOf_1 rfl ?_
  refine r_callV0 C (o_X0_isDoll l B a1) v_X0_isDoll m_228 [.int a1] [] (50) (Or.inl ⟨0, 0, _, TX0, 16, rfl, rfl, rfl⟩) (fun u1 => [.int u1]) (fun u1 => w_X0 B) rfl rfl rfl (Nat.le_of_ble_eq_true rfl) ⟨(Nat.le_of_ble_eq_true rfl), (Nat.le_of_ble_eq_true rfl)⟩ ⟨Nat.zero_le _, Nat.zero_le _⟩ dX0_sizeOf_2 (fun _ => rfl) (fun _ => rfl) (fun _ => rfl) (fun u1 => ?_)
  refine r_if_eq C 17 dX0_sizeOf_5 (by decide) (fun h5 => ?_) (fun h5 => ?_)
  · refine r_iconst C (0) dX0_sizeOf_17 rfl ?_
    exact r_reti (x := (0 : Int32)) (rv := (fun u => some (.int u))) (hpE := (fun u => w_X0 B)) (t0 := (0 : Int32)) C dX0_sizeOf_18 (by rfl) (by rfl) (by rfl)
  · refine r_aload_n C 0 dX0_sizeOf_8 rfl ?_
    refine r_get C 0 11 dX0_sizeOf_9 K_X0 rfl rfl (Nat.le_of_ble_eq_true rfl) rfl m_57 rfl ?_
    refine r_iload_n C 1 dX0_sizeOf_12 rfl ?_
    refine r_iald C 2 dX0_sizeOf_13 rfl rfl (fun hi13 => ?_)
    refine r_goto C 18 dX0_sizeOf_14 (by decide) ?_
    exact r_reti (x := (B.2 11 a1.toNatClampNeg)) (rv := (fun u => some (.int u))) (hpE := (fun u => w_X0 B)) (t0 := (B.2 11 a1.toNatClampNeg)) C dX0_sizeOf_18 (by rfl) (by rfl) (by rfl)
set_option maxRecDepth 100000 in
set_option maxHeartbeats 4000000 in
theorem o_X1_wanted (l : Launch) (a1 : Int32) : q_Ok l yX1_wanted cX1_wanted 1 (some .int) 0 0 [.int a1] ([]) (f_X1_wanted a1) (fun u => some (.int u)) (fun _ => []) := by
  refine q_enter (by decide +kernel) (Nat.le_of_ble_eq_true rfl) (fun t p e s m args below meth c dC dI dA A α C => ?_)
  refine r_cut (f_X1_wanted.eq_1 _) ?_
  show q_S p l e (q_rm 0 0) s m args below meth c 1 dC dI dA A α (MQ below (q_Q α dC dI dA A ((fun u => some (.int u)) t) ((fun _ => []) t)) args s 0 0 A) 0 0 _ t 0 [(0, .int a1)] [] ([])
  refine r_iload_n C 0 dX1_wanted_0 rfl ?_
  refine r_tsw C (1) 32 dX1_wanted_1 (by decide) (by decide) rfl (by decide) (fun h1_1 => ?_) (fun h1_1 => ?_)
  · refine r_iconst C (2) dX1_wanted_32 rfl ?_
    exact r_reti (x := (2 : Int32)) (rv := (fun u => some (.int u))) (hpE := (fun _ => [])) (t0 := (2 : Int32)) C dX1_wanted_33 (by rfl) (by rfl) (by rfl)
  refine r_tsw C (2) 36 dX1_wanted_1 (by decide) (by decide) rfl (by decide) (fun h1_2 => ?_) (fun h1_2 => ?_)
  · refine r_iconst C (0) dX1_wanted_36 rfl ?_
    exact r_reti (x := (0 : Int32)) (rv := (fun u => some (.int u))) (hpE := (fun _ => [])) (t0 := (0 : Int32)) C dX1_wanted_37 (by rfl) (by rfl) (by rfl)
  refine r_tsw C (3) 34 dX1_wanted_1 (by decide) (by decide) rfl (by decide) (fun h1_3 => ?_) (fun h1_3 => ?_)
  · refine r_iconst C (1) dX1_wanted_34 rfl ?_
    exact r_reti (x := (1 : Int32)) (rv := (fun u => some (.int u))) (hpE := (fun _ => [])) (t0 := (1 : Int32)) C dX1_wanted_35 (by rfl) (by rfl) (by rfl)
  refine r_tsw C (4) 34 dX1_wanted_1 (by decide) (by decide) rfl (by decide) (fun h1_4 => ?_) (fun h1_4 => ?_)
  · refine r_iconst C (1) dX1_wanted_34 rfl ?_
    exact r_reti (x := (1 : Int32)) (rv := (fun u => some (.int u))) (hpE := (fun _ => [])) (t0 := (1 : Int32)) C dX1_wanted_35 (by rfl) (by rfl) (by rfl)
  have g0 := True.intro
  have g1_1 := q_neI h1_1 (z := 1) (by decide)
  have g1_2 := q_neI h1_2 (z := 2) (by decide)
  have g1_3 := q_neI h1_3 (z := 3) (by decide)
  have g1_4 := q_neI h1_4 (z := 4) (by decide)
  refine r_tswD C 36 dX1_wanted_1 (by omega) (by decide) ?_
  refine r_iconst C (0) dX1_wanted_36 rfl ?_
  exact r_reti (x := (0 : Int32)) (rv := (fun u => some (.int u))) (hpE := (fun _ => [])) (t0 := (0 : Int32)) C dX1_wanted_37 (by rfl) (by rfl) (by rfl)
set_option maxRecDepth 100000 in
set_option maxHeartbeats 4000000 in
theorem o_X0_wantOf (l : Launch) (B : q_St) (a1 : Int32) : q_Ok l yX0_wantOf cX0_wantOf 2 (some .int) 1 21 [.ref 50, .int a1] (w_X0 B) (f_X0_wantOf B a1) (fun u => some (.int u)) (fun u => w_X0 B) := by
  refine q_enter (by decide +kernel) (Nat.le_of_ble_eq_true rfl) (fun t p e s m args below meth c dC dI dA A α C => ?_)
  refine r_cut (f_X0_wantOf.eq_1 _ _) ?_
  show q_S p l e (q_rm 1 21) s m args below meth c 2 dC dI dA A α (MQ below (q_Q α dC dI dA A ((fun u => some (.int u)) t) ((fun u => w_X0 B) t)) args s 0 0 A) 0 0 _ t 0 [(0, .ref 50), (1, .int a1)] [] (w_X0 B)
  refine r_aload_n C 0 dX0_wantOf_0 rfl ?_
  refine r_iload_n C 1 dX0_wantOf_1 rfl ?_
  refine r_callV0 C (o_X0_isDoll l B a1) v_X0_isDoll m_228 [.int a1] [] (50) (Or.inl ⟨0, 0, _, TX0, 16, rfl, rfl, rfl⟩) (fun u1 => [.int u1]) (fun u1 => w_X0 B) rfl rfl rfl (Nat.le_of_ble_eq_true rfl) ⟨(Nat.le_of_ble_eq_true rfl), (Nat.le_of_ble_eq_true rfl)⟩ ⟨Nat.zero_le _, Nat.zero_le _⟩ dX0_wantOf_2 (fun _ => rfl) (fun _ => rfl) (fun _ => rfl) (fun u1 => ?_)
  refine r_if_eq C 20 dX0_wantOf_5 (by decide) (fun h5 => ?_) (fun h5 => ?_)
  · refine r_iconst C (0) dX0_wantOf_20 rfl ?_
    exact r_reti (x := (0 : Int32)) (rv := (fun u => some (.int u))) (hpE := (fun u => w_X0 B)) (t0 := (0 : Int32)) C dX0_wantOf_21 (by rfl) (by rfl) (by rfl)
  · refine r_aload_n C 0 dX0_wantOf_8 rfl ?_
    refine r_get C 0 10 dX0_wantOf_9 K_X0 rfl rfl (Nat.le_of_ble_eq_true rfl) rfl m_56 rfl ?_
    refine r_iload_n C 1 dX0_wantOf_12 rfl ?_
    refine r_iald C 1 dX0_wantOf_13 rfl rfl (fun hi13 => ?_)
    refine r_callS C (o_X1_wanted l (B.2 10 a1.toNatClampNeg)) v_X1_wanted m_237 [] [.int (B.2 10 a1.toNatClampNeg)] [] (fun u2 => [.int u2]) (fun u2 => w_X0 B) rfl rfl rfl rfl rfl (Nat.le_of_ble_eq_true rfl) ⟨(Nat.le_of_ble_eq_true rfl), (Nat.le_of_ble_eq_true rfl)⟩ ⟨Nat.zero_le _, Nat.zero_le _⟩ dX0_wantOf_14 (fun _ => rfl) (fun _ => rfl) (fun _ => rfl) (fun u2 => ?_)
    refine r_goto C 21 dX0_wantOf_17 (by decide) ?_
    exact r_reti (x := u2) (rv := (fun u => some (.int u))) (hpE := (fun u => w_X0 B)) (t0 := u2) C dX0_wantOf_21 (by rfl) (by rfl) (by rfl)
set_option maxRecDepth 100000 in
set_option maxHeartbeats 4000000 in
theorem o_X1_on (l : Launch) (a1 : Int32) (a2 : Int32) : q_Ok l yX1_on cX1_on 2 (some .int) 0 0 [.int a1, .int a2] ([]) (f_X1_on a1 a2) (fun u => some (.int u)) (fun _ => []) := by
  refine q_enter (by decide +kernel) (Nat.le_of_ble_eq_true rfl) (fun t p e s m args below meth c dC dI dA A α C => ?_)
  refine r_cut (f_X1_on.eq_1 _ _) ?_
  show q_S p l e (q_rm 0 0) s m args below meth c 2 dC dI dA A α (MQ below (q_Q α dC dI dA A ((fun u => some (.int u)) t) ((fun _ => []) t)) args s 0 0 A) 0 0 _ t 0 [(0, .int a1), (1, .int a2)] [] ([])
  refine r_iload_n C 0 dX1_on_0 rfl ?_
  refine r_tsw C (1) 40 dX1_on_1 (by decide) (by decide) rfl (by decide) (fun h1_1 => ?_) (fun h1_1 => ?_)
  · refine r_iconst C (1) dX1_on_40 rfl ?_
    exact r_reti (x := (1 : Int32)) (rv := (fun u => some (.int u))) (hpE := (fun _ => [])) (t0 := (1 : Int32)) C dX1_on_41 (by rfl) (by rfl) (by rfl)
  refine r_tsw C (2) 42 dX1_on_1 (by decide) (by decide) rfl (by decide) (fun h1_2 => ?_) (fun h1_2 => ?_)
  · refine r_iconst C (3) dX1_on_42 rfl ?_
    exact r_reti (x := (3 : Int32)) (rv := (fun u => some (.int u))) (hpE := (fun _ => [])) (t0 := (3 : Int32)) C dX1_on_43 (by rfl) (by rfl) (by rfl)
  refine r_tsw C (3) 47 dX1_on_1 (by decide) (by decide) rfl (by decide) (fun h1_3 => ?_) (fun h1_3 => ?_)
  · refine r_iconst C (2) dX1_on_47 rfl ?_
    refine r_iload_n C 1 dX1_on_48 rfl ?_
    refine r_imul C dX1_on_49 ?_
    exact r_reti (x := ((2 : Int32) * a2)) (rv := (fun u => some (.int u))) (hpE := (fun _ => [])) (t0 := ((2 : Int32) * a2)) C dX1_on_50 (by rfl) (by rfl) (by rfl)
  refine r_tsw C (4) 51 dX1_on_1 (by decide) (by decide) rfl (by decide) (fun h1_4 => ?_) (fun h1_4 => ?_)
  · refine r_iconst C (2) dX1_on_51 rfl ?_
    refine r_iload_n C 1 dX1_on_52 rfl ?_
    refine r_imul C dX1_on_53 ?_
    refine r_iconst C (3) dX1_on_54 rfl ?_
    refine r_iadd C dX1_on_55 ?_
    exact r_reti (x := (((2 : Int32) * a2) + (3 : Int32))) (rv := (fun u => some (.int u))) (hpE := (fun _ => [])) (t0 := (((2 : Int32) * a2) + (3 : Int32))) C dX1_on_56 (by rfl) (by rfl) (by rfl)
  refine r_tsw C (5) 57 dX1_on_1 (by decide) (by decide) rfl (by decide) (fun h1_5 => ?_) (fun h1_5 => ?_)
  · refine r_iload_n C 1 dX1_on_57 rfl ?_
    refine r_iconst C (1) dX1_on_58 rfl ?_
    refine r_icmp_le C 68 dX1_on_59 (by decide) (fun h59 => ?_) (fun h59 => ?_)
    · refine r_iconst C (1) dX1_on_68 rfl ?_
      exact r_reti (x := (1 : Int32)) (rv := (fun u => some (.int u))) (hpE := (fun _ => [])) (t0 := (1 : Int32)) C dX1_on_69 (by rfl) (by rfl) (by rfl)
    · refine r_iload_n C 1 dX1_on_62 rfl ?_
      refine r_iconst C (2) dX1_on_63 rfl ?_
      refine r_idiv C dX1_on_64 (by decide) ?_
      refine r_goto C 69 dX1_on_65 (by decide) ?_
      exact r_reti (x := (a2 / (2 : Int32))) (rv := (fun u => some (.int u))) (hpE := (fun _ => [])) (t0 := (a2 / (2 : Int32))) C dX1_on_69 (by rfl) (by rfl) (by rfl)
  refine r_tsw C (6) 44 dX1_on_1 (by decide) (by decide) rfl (by decide) (fun h1_6 => ?_) (fun h1_6 => ?_)
  · refine r_bipush C (6) dX1_on_44 rfl ?_
    exact r_reti (x := (6 : Int32)) (rv := (fun u => some (.int u))) (hpE := (fun _ => [])) (t0 := (6 : Int32)) C dX1_on_46 (by rfl) (by rfl) (by rfl)
  have g0 := True.intro
  have g1_1 := q_neI h1_1 (z := 1) (by decide)
  have g1_2 := q_neI h1_2 (z := 2) (by decide)
  have g1_3 := q_neI h1_3 (z := 3) (by decide)
  have g1_4 := q_neI h1_4 (z := 4) (by decide)
  have g1_5 := q_neI h1_5 (z := 5) (by decide)
  have g1_6 := q_neI h1_6 (z := 6) (by decide)
  refine r_tswD C 70 dX1_on_1 (by omega) (by decide) ?_
  refine r_iload_n C 1 dX1_on_70 rfl ?_
  exact r_reti (x := a2) (rv := (fun u => some (.int u))) (hpE := (fun _ => [])) (t0 := a2) C dX1_on_71 (by rfl) (by rfl) (by rfl)
set_option maxRecDepth 100000 in
set_option maxHeartbeats 4000000 in
theorem o_X0_onOf (l : Launch) (B : q_St) (a1 : Int32) : q_Ok l yX0_onOf cX0_onOf 2 (some .int) 1 21 [.ref 50, .int a1] (w_X0 B) (f_X0_onOf B a1) (fun u => some (.int u)) (fun u => w_X0 B) := by
  refine q_enter (by decide +kernel) (Nat.le_of_ble_eq_true rfl) (fun t p e s m args below meth c dC dI dA A α C => ?_)
  refine r_cut (f_X0_onOf.eq_1 _ _) ?_
  show q_S p l e (q_rm 1 21) s m args below meth c 2 dC dI dA A α (MQ below (q_Q α dC dI dA A ((fun u => some (.int u)) t) ((fun u => w_X0 B) t)) args s 0 0 A) 0 0 _ t 0 [(0, .ref 50), (1, .int a1)] [] (w_X0 B)
  refine r_aload_n C 0 dX0_onOf_0 rfl ?_
  refine r_iload_n C 1 dX0_onOf_1 rfl ?_
  refine r_callV0 C (o_X0_isDoll l B a1) v_X0_isDoll m_228 [.int a1] [] (50) (Or.inl ⟨0, 0, _, TX0, 16, rfl, rfl, rfl⟩) (fun u1 => [.int u1]) (fun u1 => w_X0 B) rfl rfl rfl (Nat.le_of_ble_eq_true rfl) ⟨(Nat.le_of_ble_eq_true rfl), (Nat.le_of_ble_eq_true rfl)⟩ ⟨Nat.zero_le _, Nat.zero_le _⟩ dX0_onOf_2 (fun _ => rfl) (fun _ => rfl) (fun _ => rfl) (fun u1 => ?_)
  refine r_if_eq C 26 dX0_onOf_5 (by decide) (fun h5 => ?_) (fun h5 => ?_)
  · refine r_iconst C (0) dX0_onOf_26 rfl ?_
    exact r_reti (x := (0 : Int32)) (rv := (fun u => some (.int u))) (hpE := (fun u => w_X0 B)) (t0 := (0 : Int32)) C dX0_onOf_27 (by rfl) (by rfl) (by rfl)
  · refine r_aload_n C 0 dX0_onOf_8 rfl ?_
    refine r_get C 0 10 dX0_onOf_9 K_X0 rfl rfl (Nat.le_of_ble_eq_true rfl) rfl m_56 rfl ?_
    refine r_iload_n C 1 dX0_onOf_12 rfl ?_
    refine r_iald C 1 dX0_onOf_13 rfl rfl (fun hi13 => ?_)
    refine r_aload_n C 0 dX0_onOf_14 rfl ?_
    refine r_get C 0 11 dX0_onOf_15 K_X0 rfl rfl (Nat.le_of_ble_eq_true rfl) rfl m_57 rfl ?_
    refine r_iload_n C 1 dX0_onOf_18 rfl ?_
    refine r_iald C 2 dX0_onOf_19 rfl rfl (fun hi19 => ?_)
    refine r_callS C (o_X1_on l (B.2 10 a1.toNatClampNeg) (B.2 11 a1.toNatClampNeg)) v_X1_on m_244 [] [.int (B.2 10 a1.toNatClampNeg), .int (B.2 11 a1.toNatClampNeg)] [] (fun u2 => [.int u2]) (fun u2 => w_X0 B) rfl rfl rfl rfl rfl (Nat.le_of_ble_eq_true rfl) ⟨(Nat.le_of_ble_eq_true rfl), (Nat.le_of_ble_eq_true rfl)⟩ ⟨Nat.zero_le _, Nat.zero_le _⟩ dX0_onOf_20 (fun _ => rfl) (fun _ => rfl) (fun _ => rfl) (fun u2 => ?_)
    refine r_goto C 27 dX0_onOf_23 (by decide) ?_
    exact r_reti (x := u2) (rv := (fun u => some (.int u))) (hpE := (fun u => w_X0 B)) (t0 := u2) C dX0_onOf_27 (by rfl) (by rfl) (by rfl)
set_option maxRecDepth 100000 in
set_option maxHeartbeats 4000000 in
theorem o_X1_voice (l : Launch) (a1 : Int32) : q_Ok l yX1_voice cX1_voice 1 (some .int) 0 0 [.int a1] ([]) (f_X1_voice a1) (fun u => some (.int u)) (fun _ => []) := by
  refine q_enter (by decide +kernel) (Nat.le_of_ble_eq_true rfl) (fun t p e s m args below meth c dC dI dA A α C => ?_)
  refine r_cut (f_X1_voice.eq_1 _) ?_
  show q_S p l e (q_rm 0 0) s m args below meth c 1 dC dI dA A α (MQ below (q_Q α dC dI dA A ((fun u => some (.int u)) t) ((fun _ => []) t)) args s 0 0 A) 0 0 _ t 0 [(0, .int a1)] [] ([])
  refine r_iload_n C 0 dX1_voice_0 rfl ?_
  refine r_iconst C (1) dX1_voice_1 rfl ?_
  refine r_icmp_ne C 9 dX1_voice_2 (by decide) (fun h2 => ?_) (fun h2 => ?_)
  · refine r_iconst C (1) dX1_voice_5 rfl ?_
    refine r_goto C 10 dX1_voice_6 (by decide) ?_
    exact r_reti (x := (1 : Int32)) (rv := (fun u => some (.int u))) (hpE := (fun _ => [])) (t0 := (1 : Int32)) C dX1_voice_10 (by rfl) (by rfl) (by rfl)
  · refine r_iconst C (0) dX1_voice_9 rfl ?_
    exact r_reti (x := (0 : Int32)) (rv := (fun u => some (.int u))) (hpE := (fun _ => [])) (t0 := (0 : Int32)) C dX1_voice_10 (by rfl) (by rfl) (by rfl)
set_option maxRecDepth 100000 in
set_option maxHeartbeats 4000000 in
theorem o_X0_voiceOf (l : Launch) (B : q_St) (a1 : Int32) : q_Ok l yX0_voiceOf cX0_voiceOf 2 (some .int) 1 21 [.ref 50, .int a1] (w_X0 B) (f_X0_voiceOf B a1) (fun u => some (.int u)) (fun u => w_X0 B) := by
  refine q_enter (by decide +kernel) (Nat.le_of_ble_eq_true rfl) (fun t p e s m args below meth c dC dI dA A α C => ?_)
  refine r_cut (f_X0_voiceOf.eq_1 _ _) ?_
  show q_S p l e (q_rm 1 21) s m args below meth c 2 dC dI dA A α (MQ below (q_Q α dC dI dA A ((fun u => some (.int u)) t) ((fun u => w_X0 B) t)) args s 0 0 A) 0 0 _ t 0 [(0, .ref 50), (1, .int a1)] [] (w_X0 B)
  refine r_aload_n C 0 dX0_voiceOf_0 rfl ?_
  refine r_iload_n C 1 dX0_voiceOf_1 rfl ?_
  refine r_callV0 C (o_X0_isDoll l B a1) v_X0_isDoll m_228 [.int a1] [] (50) (Or.inl ⟨0, 0, _, TX0, 16, rfl, rfl, rfl⟩) (fun u1 => [.int u1]) (fun u1 => w_X0 B) rfl rfl rfl (Nat.le_of_ble_eq_true rfl) ⟨(Nat.le_of_ble_eq_true rfl), (Nat.le_of_ble_eq_true rfl)⟩ ⟨Nat.zero_le _, Nat.zero_le _⟩ dX0_voiceOf_2 (fun _ => rfl) (fun _ => rfl) (fun _ => rfl) (fun u1 => ?_)
  refine r_if_eq C 20 dX0_voiceOf_5 (by decide) (fun h5 => ?_) (fun h5 => ?_)
  · refine r_iconst C (0) dX0_voiceOf_20 rfl ?_
    exact r_reti (x := (0 : Int32)) (rv := (fun u => some (.int u))) (hpE := (fun u => w_X0 B)) (t0 := (0 : Int32)) C dX0_voiceOf_21 (by rfl) (by rfl) (by rfl)
  · refine r_aload_n C 0 dX0_voiceOf_8 rfl ?_
    refine r_get C 0 10 dX0_voiceOf_9 K_X0 rfl rfl (Nat.le_of_ble_eq_true rfl) rfl m_56 rfl ?_
    refine r_iload_n C 1 dX0_voiceOf_12 rfl ?_
    refine r_iald C 1 dX0_voiceOf_13 rfl rfl (fun hi13 => ?_)
    refine r_callS C (o_X1_voice l (B.2 10 a1.toNatClampNeg)) v_X1_voice m_251 [] [.int (B.2 10 a1.toNatClampNeg)] [] (fun u2 => [.int u2]) (fun u2 => w_X0 B) rfl rfl rfl rfl rfl (Nat.le_of_ble_eq_true rfl) ⟨(Nat.le_of_ble_eq_true rfl), (Nat.le_of_ble_eq_true rfl)⟩ ⟨Nat.zero_le _, Nat.zero_le _⟩ dX0_voiceOf_14 (fun _ => rfl) (fun _ => rfl) (fun _ => rfl) (fun u2 => ?_)
    refine r_goto C 21 dX0_voiceOf_17 (by decide) ?_
    exact r_reti (x := u2) (rv := (fun u => some (.int u))) (hpE := (fun u => w_X0 B)) (t0 := u2) C dX0_voiceOf_21 (by rfl) (by rfl) (by rfl)
set_option maxRecDepth 100000 in
set_option maxHeartbeats 4000000 in
theorem o_X0_hookOf (l : Launch) (B : q_St) (a1 : Int32) : q_Ok l yX0_hookOf cX0_hookOf 2 (some .int) 1 21 [.ref 50, .int a1] (w_X0 B) (f_X0_hookOf B a1) (fun u => some (.int u)) (fun u => w_X0 B) := by
  refine q_enter (by decide +kernel) (Nat.le_of_ble_eq_true rfl) (fun t p e s m args below meth c dC dI dA A α C => ?_)
  refine r_cut (f_X0_hookOf.eq_1 _ _) ?_
  show q_S p l e (q_rm 1 21) s m args below meth c 2 dC dI dA A α (MQ below (q_Q α dC dI dA A ((fun u => some (.int u)) t) ((fun u => w_X0 B) t)) args s 0 0 A) 0 0 _ t 0 [(0, .ref 50), (1, .int a1)] [] (w_X0 B)
  refine r_aload_n C 0 dX0_hookOf_0 rfl ?_
  refine r_iload_n C 1 dX0_hookOf_1 rfl ?_
  refine r_callV0 C (o_X0_isDoll l B a1) v_X0_isDoll m_228 [.int a1] [] (50) (Or.inl ⟨0, 0, _, TX0, 16, rfl, rfl, rfl⟩) (fun u1 => [.int u1]) (fun u1 => w_X0 B) rfl rfl rfl (Nat.le_of_ble_eq_true rfl) ⟨(Nat.le_of_ble_eq_true rfl), (Nat.le_of_ble_eq_true rfl)⟩ ⟨Nat.zero_le _, Nat.zero_le _⟩ dX0_hookOf_2 (fun _ => rfl) (fun _ => rfl) (fun _ => rfl) (fun u1 => ?_)
  refine r_if_eq C 17 dX0_hookOf_5 (by decide) (fun h5 => ?_) (fun h5 => ?_)
  · refine r_iconst C (0) dX0_hookOf_17 rfl ?_
    exact r_reti (x := (0 : Int32)) (rv := (fun u => some (.int u))) (hpE := (fun u => w_X0 B)) (t0 := (0 : Int32)) C dX0_hookOf_18 (by rfl) (by rfl) (by rfl)
  · refine r_aload_n C 0 dX0_hookOf_8 rfl ?_
    refine r_get C 0 12 dX0_hookOf_9 K_X0 rfl rfl (Nat.le_of_ble_eq_true rfl) rfl m_58 rfl ?_
    refine r_iload_n C 1 dX0_hookOf_12 rfl ?_
    refine r_iald C 3 dX0_hookOf_13 rfl rfl (fun hi13 => ?_)
    refine r_goto C 18 dX0_hookOf_14 (by decide) ?_
    exact r_reti (x := (B.2 12 a1.toNatClampNeg)) (rv := (fun u => some (.int u))) (hpE := (fun u => w_X0 B)) (t0 := (B.2 12 a1.toNatClampNeg)) C dX0_hookOf_18 (by rfl) (by rfl) (by rfl)
set_option maxRecDepth 100000 in
set_option maxHeartbeats 4000000 in
theorem o_X0_setKind (l : Launch) (B : q_St) (a1 : Int32) (a2 : Int32) : q_Ok l yX0_setKind cX0_setKind 3 none 1 21 [.ref 50, .int a1, .int a2] (w_X0 B) (f_X0_setKind B a1 a2) (fun _ => none) (fun u => w_X0 u) := by
  refine q_enter (by decide +kernel) (Nat.le_of_ble_eq_true rfl) (fun t p e s m args below meth c dC dI dA A α C => ?_)
  refine r_cut (f_X0_setKind.eq_1 _ _ _) ?_
  show q_S p l e (q_rm 1 21) s m args below meth c 3 dC dI dA A α (MQ below (q_Q α dC dI dA A ((fun _ => none) t) ((fun u => w_X0 u) t)) args s 0 0 A) 0 0 _ t 0 [(0, .ref 50), (1, .int a1), (2, .int a2)] [] (w_X0 B)
  refine r_aload_n C 0 dX0_setKind_0 rfl ?_
  refine r_iload_n C 1 dX0_setKind_1 rfl ?_
  refine r_callV0 C (o_X0_isDoll l B a1) v_X0_isDoll m_228 [.int a1] [] (50) (Or.inl ⟨0, 0, _, TX0, 16, rfl, rfl, rfl⟩) (fun u1 => [.int u1]) (fun u1 => w_X0 B) rfl rfl rfl (Nat.le_of_ble_eq_true rfl) ⟨(Nat.le_of_ble_eq_true rfl), (Nat.le_of_ble_eq_true rfl)⟩ ⟨Nat.zero_le _, Nat.zero_le _⟩ dX0_setKind_2 (fun _ => rfl) (fun _ => rfl) (fun _ => rfl) (fun u1 => ?_)
  refine r_if_eq C 15 dX0_setKind_5 (by decide) (fun h5 => ?_) (fun h5 => ?_)
  · exact r_retv (rv := (fun _ => none)) (hpE := (fun u => w_X0 u)) (t0 := B) C dX0_setKind_15 (by rfl) (by rfl) (by rfl)
  · refine r_aload_n C 0 dX0_setKind_8 rfl ?_
    refine r_get C 0 10 dX0_setKind_9 K_X0 rfl rfl (Nat.le_of_ble_eq_true rfl) rfl m_56 rfl ?_
    refine r_iload_n C 1 dX0_setKind_12 rfl ?_
    refine r_iload_n C 2 dX0_setKind_13 rfl ?_
    refine r_iast C 1 _ dX0_setKind_14 rfl rfl rfl (fun hi14 => ?_)
    exact r_retv (rv := (fun _ => none)) (hpE := (fun u => w_X0 u)) (t0 := (B.1, (va_up B.2 10 (upd (B.2 10) a1.toNatClampNeg a2)))) C dX0_setKind_15 (by rfl) (by rfl) (by rfl)
set_option maxRecDepth 100000 in
set_option maxHeartbeats 4000000 in
theorem o_X0_setSize (l : Launch) (B : q_St) (a1 : Int32) (a2 : Int32) : q_Ok l yX0_setSize cX0_setSize 3 none 1 21 [.ref 50, .int a1, .int a2] (w_X0 B) (f_X0_setSize B a1 a2) (fun _ => none) (fun u => w_X0 u) := by
  refine q_enter (by decide +kernel) (Nat.le_of_ble_eq_true rfl) (fun t p e s m args below meth c dC dI dA A α C => ?_)
  refine r_cut (f_X0_setSize.eq_1 _ _ _) ?_
  show q_S p l e (q_rm 1 21) s m args below meth c 3 dC dI dA A α (MQ below (q_Q α dC dI dA A ((fun _ => none) t) ((fun u => w_X0 u) t)) args s 0 0 A) 0 0 _ t 0 [(0, .ref 50), (1, .int a1), (2, .int a2)] [] (w_X0 B)
  refine r_aload_n C 0 dX0_setSize_0 rfl ?_
  refine r_iload_n C 1 dX0_setSize_1 rfl ?_
  refine r_callV0 C (o_X0_isDoll l B a1) v_X0_isDoll m_228 [.int a1] [] (50) (Or.inl ⟨0, 0, _, TX0, 16, rfl, rfl, rfl⟩) (fun u1 => [.int u1]) (fun u1 => w_X0 B) rfl rfl rfl (Nat.le_of_ble_eq_true rfl) ⟨(Nat.le_of_ble_eq_true rfl), (Nat.le_of_ble_eq_true rfl)⟩ ⟨Nat.zero_le _, Nat.zero_le _⟩ dX0_setSize_2 (fun _ => rfl) (fun _ => rfl) (fun _ => rfl) (fun u1 => ?_)
  refine r_if_eq C 15 dX0_setSize_5 (by decide) (fun h5 => ?_) (fun h5 => ?_)
  · exact r_retv (rv := (fun _ => none)) (hpE := (fun u => w_X0 u)) (t0 := B) C dX0_setSize_15 (by rfl) (by rfl) (by rfl)
  · refine r_aload_n C 0 dX0_setSize_8 rfl ?_
    refine r_get C 0 11 dX0_setSize_9 K_X0 rfl rfl (Nat.le_of_ble_eq_true rfl) rfl m_57 rfl ?_
    refine r_iload_n C 1 dX0_setSize_12 rfl ?_
    refine r_iload_n C 2 dX0_setSize_13 rfl ?_
    refine r_iast C 2 _ dX0_setSize_14 rfl rfl rfl (fun hi14 => ?_)
    exact r_retv (rv := (fun _ => none)) (hpE := (fun u => w_X0 u)) (t0 := (B.1, (va_up B.2 11 (upd (B.2 11) a1.toNatClampNeg a2)))) C dX0_setSize_15 (by rfl) (by rfl) (by rfl)
set_option maxRecDepth 100000 in
set_option maxHeartbeats 4000000 in
theorem o_X0_swapHooks (l : Launch) (B : q_St) (a1 : Int32) (a2 : Int32) : q_Ok l yX0_swapHooks cX0_swapHooks 4 none 1 21 [.ref 50, .int a1, .int a2] (w_X0 B) (f_X0_swapHooks B a1 a2) (fun _ => none) (fun u => w_X0 u) := by
  refine q_enter (by decide +kernel) (Nat.le_of_ble_eq_true rfl) (fun t p e s m args below meth c dC dI dA A α C => ?_)
  refine r_cut (f_X0_swapHooks.eq_1 _ _ _) ?_
  show q_S p l e (q_rm 1 21) s m args below meth c 4 dC dI dA A α (MQ below (q_Q α dC dI dA A ((fun _ => none) t) ((fun u => w_X0 u) t)) args s 0 0 A) 0 0 _ t 0 [(0, .ref 50), (1, .int a1), (2, .int a2)] [] (w_X0 B)
  refine r_aload_n C 0 dX0_swapHooks_0 rfl ?_
  refine r_iload_n C 1 dX0_swapHooks_1 rfl ?_
  refine r_callV0 C (o_X0_isDoll l B a1) v_X0_isDoll m_228 [.int a1] [] (50) (Or.inl ⟨0, 0, _, TX0, 16, rfl, rfl, rfl⟩) (fun u1 => [.int u1]) (fun u1 => w_X0 B) rfl rfl rfl (Nat.le_of_ble_eq_true rfl) ⟨(Nat.le_of_ble_eq_true rfl), (Nat.le_of_ble_eq_true rfl)⟩ ⟨Nat.zero_le _, Nat.zero_le _⟩ dX0_swapHooks_2 (fun _ => rfl) (fun _ => rfl) (fun _ => rfl) (fun u1 => ?_)
  refine r_if_eq C 42 dX0_swapHooks_5 (by decide) (fun h5 => ?_) (fun h5 => ?_)
  · exact r_retv (rv := (fun _ => none)) (hpE := (fun u => w_X0 u)) (t0 := B) C dX0_swapHooks_42 (by rfl) (by rfl) (by rfl)
  · refine r_aload_n C 0 dX0_swapHooks_8 rfl ?_
    refine r_iload_n C 2 dX0_swapHooks_9 rfl ?_
    refine r_callV0 C (o_X0_isDoll l B a2) v_X0_isDoll m_228 [.int a2] [] (50) (Or.inl ⟨0, 0, _, TX0, 16, rfl, rfl, rfl⟩) (fun u2 => [.int u2]) (fun u2 => w_X0 B) rfl rfl rfl (Nat.le_of_ble_eq_true rfl) ⟨(Nat.le_of_ble_eq_true rfl), (Nat.le_of_ble_eq_true rfl)⟩ ⟨Nat.zero_le _, Nat.zero_le _⟩ dX0_swapHooks_10 (fun _ => rfl) (fun _ => rfl) (fun _ => rfl) (fun u2 => ?_)
    refine r_if_eq C 42 dX0_swapHooks_13 (by decide) (fun h13 => ?_) (fun h13 => ?_)
    · exact r_retv (rv := (fun _ => none)) (hpE := (fun u => w_X0 u)) (t0 := B) C dX0_swapHooks_42 (by rfl) (by rfl) (by rfl)
    · refine r_aload_n C 0 dX0_swapHooks_16 rfl ?_
      refine r_get C 0 12 dX0_swapHooks_17 K_X0 rfl rfl (Nat.le_of_ble_eq_true rfl) rfl m_58 rfl ?_
      refine r_iload_n C 1 dX0_swapHooks_20 rfl ?_
      refine r_iald C 3 dX0_swapHooks_21 rfl rfl (fun hi21 => ?_)
      refine r_istore_n C [(3, .int (B.2 12 a1.toNatClampNeg)), (0, .ref 50), (1, .int a1), (2, .int a2)] dX0_swapHooks_22 (Nat.le_of_ble_eq_true rfl) rfl ?_
      refine r_aload_n C 1 dX0_swapHooks_23 rfl ?_
      refine r_get C 0 12 dX0_swapHooks_24 K_X0 rfl rfl (Nat.le_of_ble_eq_true rfl) rfl m_58 rfl ?_
      refine r_iload_n C 2 dX0_swapHooks_27 rfl ?_
      refine r_aload_n C 1 dX0_swapHooks_28 rfl ?_
      refine r_get C 0 12 dX0_swapHooks_29 K_X0 rfl rfl (Nat.le_of_ble_eq_true rfl) rfl m_58 rfl ?_
      refine r_iload_n C 3 dX0_swapHooks_32 rfl ?_
      refine r_iald C 3 dX0_swapHooks_33 rfl rfl (fun hi33 => ?_)
      refine r_iast C 3 _ dX0_swapHooks_34 rfl rfl rfl (fun hi34 => ?_)
      refine r_aload_n C 1 dX0_swapHooks_35 rfl ?_
      refine r_get C 0 12 dX0_swapHooks_36 K_X0 rfl rfl (Nat.le_of_ble_eq_true rfl) rfl m_58 rfl ?_
      refine r_iload_n C 3 dX0_swapHooks_39 rfl ?_
      refine r_iload_n C 0 dX0_swapHooks_40 rfl ?_
      refine r_iast C 3 _ dX0_swapHooks_41 rfl rfl rfl (fun hi41 => ?_)
      exact r_retv (rv := (fun _ => none)) (hpE := (fun u => w_X0 u)) (t0 := (B.1, (va_up B.2 12 (upd (upd (B.2 12) a1.toNatClampNeg (B.2 12 a2.toNatClampNeg)) a2.toNatClampNeg (B.2 12 a1.toNatClampNeg))))) C dX0_swapHooks_42 (by rfl) (by rfl) (by rfl)
set_option maxRecDepth 100000 in
set_option maxHeartbeats 4000000 in
theorem o_X0_isCast (l : Launch) (B : q_St) (a1 : Int32) : q_Ok l yX0_isCast cX0_isCast 2 (some .boolean) 0 0 [.ref 50, .int a1] (w_X0 B) (f_X0_isCast B a1) (fun u => some (.int u)) (fun u => w_X0 B) := by
  refine q_enter (by decide +kernel) (Nat.le_of_ble_eq_true rfl) (fun t p e s m args below meth c dC dI dA A α C => ?_)
  refine r_cut (f_X0_isCast.eq_1 _ _) ?_
  show q_S p l e (q_rm 0 0) s m args below meth c 2 dC dI dA A α (MQ below (q_Q α dC dI dA A ((fun u => some (.int u)) t) ((fun u => w_X0 B) t)) args s 0 0 A) 0 0 _ t 0 [(0, .ref 50), (1, .int a1)] [] (w_X0 B)
  refine r_iload_n C 1 dX0_isCast_0 rfl ?_
  refine r_if_lt C 18 dX0_isCast_1 (by decide) (fun h1 => ?_) (fun h1 => ?_)
  · refine r_iconst C (0) dX0_isCast_18 rfl ?_
    exact r_retz (x := (0 : Int32)) (rv := (fun u => some (.int u))) (hpE := (fun u => w_X0 B)) (t0 := (0 : Int32)) C dX0_isCast_19 (by rfl) (by rfl) (by rfl) (by rfl)
  · refine r_iload_n C 1 dX0_isCast_4 rfl ?_
    refine r_iconst C (1) dX0_isCast_5 rfl ?_
    refine r_aload_n C 0 dX0_isCast_6 rfl ?_
    refine r_get C 0 0 dX0_isCast_7 K_X0 rfl rfl (Nat.le_of_ble_eq_true rfl) rfl m_29 rfl ?_
    refine r_ishl C dX0_isCast_10 ?_
    refine r_icmp_ge C 18 dX0_isCast_11 (by decide) (fun h11 => ?_) (fun h11 => ?_)
    · refine r_iconst C (0) dX0_isCast_18 rfl ?_
      exact r_retz (x := (0 : Int32)) (rv := (fun u => some (.int u))) (hpE := (fun u => w_X0 B)) (t0 := (0 : Int32)) C dX0_isCast_19 (by rfl) (by rfl) (by rfl) (by rfl)
    · refine r_iconst C (1) dX0_isCast_14 rfl ?_
      refine r_goto C 19 dX0_isCast_15 (by decide) ?_
      exact r_retz (x := (1 : Int32)) (rv := (fun u => some (.int u))) (hpE := (fun u => w_X0 B)) (t0 := (1 : Int32)) C dX0_isCast_19 (by rfl) (by rfl) (by rfl) (by rfl)
set_option maxRecDepth 100000 in
set_option maxHeartbeats 4000000 in
theorem o_X0_isDollOrNone (l : Launch) (B : q_St) (a1 : Int32) : q_Ok l yX0_isDollOrNone cX0_isDollOrNone 2 (some .boolean) 1 21 [.ref 50, .int a1] (w_X0 B) (f_X0_isDollOrNone B a1) (fun u => some (.int u)) (fun u => w_X0 B) := by
  refine q_enter (by decide +kernel) (Nat.le_of_ble_eq_true rfl) (fun t p e s m args below meth c dC dI dA A α C => ?_)
  refine r_cut (f_X0_isDollOrNone.eq_1 _ _) ?_
  show q_S p l e (q_rm 1 21) s m args below meth c 2 dC dI dA A α (MQ below (q_Q α dC dI dA A ((fun u => some (.int u)) t) ((fun u => w_X0 B) t)) args s 0 0 A) 0 0 _ t 0 [(0, .ref 50), (1, .int a1)] [] (w_X0 B)
  refine r_iload_n C 1 dX0_isDollOrNone_0 rfl ?_
  refine r_iconst C (-1) dX0_isDollOrNone_1 rfl ?_
  refine r_icmp_eq C 13 dX0_isDollOrNone_2 (by decide) (fun h2 => ?_) (fun h2 => ?_)
  · refine r_iconst C (1) dX0_isDollOrNone_13 rfl ?_
    refine r_goto C 18 dX0_isDollOrNone_14 (by decide) ?_
    exact r_retz (x := (1 : Int32)) (rv := (fun u => some (.int u))) (hpE := (fun u => w_X0 B)) (t0 := (1 : Int32)) C dX0_isDollOrNone_18 (by rfl) (by rfl) (by rfl) (by rfl)
  · refine r_aload_n C 0 dX0_isDollOrNone_5 rfl ?_
    refine r_iload_n C 1 dX0_isDollOrNone_6 rfl ?_
    refine r_callV0 C (o_X0_isDoll l B a1) v_X0_isDoll m_228 [.int a1] [] (50) (Or.inl ⟨0, 0, _, TX0, 16, rfl, rfl, rfl⟩) (fun u1 => [.int u1]) (fun u1 => w_X0 B) rfl rfl rfl (Nat.le_of_ble_eq_true rfl) ⟨(Nat.le_of_ble_eq_true rfl), (Nat.le_of_ble_eq_true rfl)⟩ ⟨Nat.zero_le _, Nat.zero_le _⟩ dX0_isDollOrNone_7 (fun _ => rfl) (fun _ => rfl) (fun _ => rfl) (fun u1 => ?_)
    refine r_if_eq C 17 dX0_isDollOrNone_10 (by decide) (fun h10 => ?_) (fun h10 => ?_)
    · refine r_iconst C (0) dX0_isDollOrNone_17 rfl ?_
      exact r_retz (x := (0 : Int32)) (rv := (fun u => some (.int u))) (hpE := (fun u => w_X0 B)) (t0 := (0 : Int32)) C dX0_isDollOrNone_18 (by rfl) (by rfl) (by rfl) (by rfl)
    · refine r_iconst C (1) dX0_isDollOrNone_13 rfl ?_
      refine r_goto C 18 dX0_isDollOrNone_14 (by decide) ?_
      exact r_retz (x := (1 : Int32)) (rv := (fun u => some (.int u))) (hpE := (fun u => w_X0 B)) (t0 := (1 : Int32)) C dX0_isDollOrNone_18 (by rfl) (by rfl) (by rfl) (by rfl)
set_option maxRecDepth 100000 in
set_option maxHeartbeats 4000000 in
theorem o_X0_addBeat (l : Launch) (B : q_St) (a1 : Int32) (a2 : Int32) : q_Ok l yX0_addBeat cX0_addBeat 3 (some .int) 0 0 [.ref 50, .int a1, .int a2] (w_X0 B) (f_X0_addBeat B a1 a2) (fun u => some (.int u.1)) (fun u => w_X0 u.2) := by
  refine q_enter (by decide +kernel) (Nat.le_of_ble_eq_true rfl) (fun t p e s m args below meth c dC dI dA A α C => ?_)
  refine r_cut (f_X0_addBeat.eq_1 _ _ _) ?_
  show q_S p l e (q_rm 0 0) s m args below meth c 3 dC dI dA A α (MQ below (q_Q α dC dI dA A ((fun u => some (.int u.1)) t) ((fun u => w_X0 u.2) t)) args s 0 0 A) 0 0 _ t 0 [(0, .ref 50), (1, .int a1), (2, .int a2)] [] (w_X0 B)
  refine r_aload_n C 0 dX0_addBeat_0 rfl ?_
  refine r_get C 0 1 dX0_addBeat_1 K_X0 rfl rfl (Nat.le_of_ble_eq_true rfl) rfl m_34 rfl ?_
  refine r_if_lt C 16 dX0_addBeat_4 (by decide) (fun h4 => ?_) (fun h4 => ?_)
  · refine r_iconst C (-1) dX0_addBeat_16 rfl ?_
    exact r_reti (x := (-1 : Int32)) (rv := (fun u => some (.int u.1))) (hpE := (fun u => w_X0 u.2)) (t0 := ((-1 : Int32), B)) C dX0_addBeat_17 (by rfl) (by rfl) (by rfl)
  · refine r_aload_n C 0 dX0_addBeat_7 rfl ?_
    refine r_get C 0 1 dX0_addBeat_8 K_X0 rfl rfl (Nat.le_of_ble_eq_true rfl) rfl m_34 rfl ?_
    refine r_bipush C (12) dX0_addBeat_11 rfl ?_
    refine r_icmp_lt C 18 dX0_addBeat_13 (by decide) (fun h13 => ?_) (fun h13 => ?_)
    · refine r_aload_n C 0 dX0_addBeat_18 rfl ?_
      refine r_get C 0 13 dX0_addBeat_19 K_X0 rfl rfl (Nat.le_of_ble_eq_true rfl) rfl m_59 rfl ?_
      refine r_aload_n C 0 dX0_addBeat_22 rfl ?_
      refine r_get C 0 1 dX0_addBeat_23 K_X0 rfl rfl (Nat.le_of_ble_eq_true rfl) rfl m_34 rfl ?_
      refine r_iload_n C 1 dX0_addBeat_26 rfl ?_
      refine r_iast C 4 _ dX0_addBeat_27 rfl rfl rfl (fun hi27 => ?_)
      refine r_aload_n C 0 dX0_addBeat_28 rfl ?_
      refine r_get C 0 14 dX0_addBeat_29 K_X0 rfl rfl (Nat.le_of_ble_eq_true rfl) rfl m_60 rfl ?_
      refine r_aload_n C 0 dX0_addBeat_32 rfl ?_
      refine r_get C 0 1 dX0_addBeat_33 K_X0 rfl rfl (Nat.le_of_ble_eq_true rfl) rfl m_34 rfl ?_
      refine r_iload_n C 2 dX0_addBeat_36 rfl ?_
      refine r_iast C 5 _ dX0_addBeat_37 rfl rfl rfl (fun hi37 => ?_)
      refine r_aload_n C 0 dX0_addBeat_38 rfl ?_
      refine r_dup C dX0_addBeat_39 rfl ?_
      refine r_get C 0 1 dX0_addBeat_40 K_X0 rfl rfl (Nat.le_of_ble_eq_true rfl) rfl m_34 rfl ?_
      refine r_iconst C (1) dX0_addBeat_43 rfl ?_
      refine r_iadd C dX0_addBeat_44 ?_
      refine r_put C 0 1 _ dX0_addBeat_45 K_X0 rfl rfl (Nat.le_of_ble_eq_true rfl) rfl m_34 rfl (fun _ => rfl) (fun _ => rfl) (Nat.le_of_ble_eq_true rfl) rfl ?_
      refine r_aload_n C 0 dX0_addBeat_48 rfl ?_
      refine r_get C 0 1 dX0_addBeat_49 K_X0 rfl rfl (Nat.le_of_ble_eq_true rfl) rfl m_34 rfl ?_
      refine r_iconst C (1) dX0_addBeat_52 rfl ?_
      refine r_isub C dX0_addBeat_53 ?_
      exact r_reti (x := ((B.1 1 + (1 : Int32)) - (1 : Int32))) (rv := (fun u => some (.int u.1))) (hpE := (fun u => w_X0 u.2)) (t0 := (((B.1 1 + (1 : Int32)) - (1 : Int32)), ((va_up B.1 1 (B.1 1 + (1 : Int32))), (va_up (va_up B.2 13 (upd (B.2 13) (B.1 1).toNatClampNeg a1)) 14 (upd (B.2 14) (B.1 1).toNatClampNeg a2))))) C dX0_addBeat_54 (by rfl) (by rfl) (by rfl)
    · refine r_iconst C (-1) dX0_addBeat_16 rfl ?_
      exact r_reti (x := (-1 : Int32)) (rv := (fun u => some (.int u.1))) (hpE := (fun u => w_X0 u.2)) (t0 := ((-1 : Int32), B)) C dX0_addBeat_17 (by rfl) (by rfl) (by rfl)
set_option maxRecDepth 100000 in
set_option maxHeartbeats 4000000 in
theorem o_X0_isBeat (l : Launch) (B : q_St) (a1 : Int32) : q_Ok l yX0_isBeat cX0_isBeat 2 (some .boolean) 0 0 [.ref 50, .int a1] (w_X0 B) (f_X0_isBeat B a1) (fun u => some (.int u)) (fun u => w_X0 B) := by
  refine q_enter (by decide +kernel) (Nat.le_of_ble_eq_true rfl) (fun t p e s m args below meth c dC dI dA A α C => ?_)
  refine r_cut (f_X0_isBeat.eq_1 _ _) ?_
  show q_S p l e (q_rm 0 0) s m args below meth c 2 dC dI dA A α (MQ below (q_Q α dC dI dA A ((fun u => some (.int u)) t) ((fun u => w_X0 B) t)) args s 0 0 A) 0 0 _ t 0 [(0, .ref 50), (1, .int a1)] [] (w_X0 B)
  refine r_iload_n C 1 dX0_isBeat_0 rfl ?_
  refine r_if_lt C 16 dX0_isBeat_1 (by decide) (fun h1 => ?_) (fun h1 => ?_)
  · refine r_iconst C (0) dX0_isBeat_16 rfl ?_
    exact r_retz (x := (0 : Int32)) (rv := (fun u => some (.int u))) (hpE := (fun u => w_X0 B)) (t0 := (0 : Int32)) C dX0_isBeat_17 (by rfl) (by rfl) (by rfl) (by rfl)
  · refine r_iload_n C 1 dX0_isBeat_4 rfl ?_
    refine r_aload_n C 0 dX0_isBeat_5 rfl ?_
    refine r_get C 0 1 dX0_isBeat_6 K_X0 rfl rfl (Nat.le_of_ble_eq_true rfl) rfl m_34 rfl ?_
    refine r_icmp_ge C 16 dX0_isBeat_9 (by decide) (fun h9 => ?_) (fun h9 => ?_)
    · refine r_iconst C (0) dX0_isBeat_16 rfl ?_
      exact r_retz (x := (0 : Int32)) (rv := (fun u => some (.int u))) (hpE := (fun u => w_X0 B)) (t0 := (0 : Int32)) C dX0_isBeat_17 (by rfl) (by rfl) (by rfl) (by rfl)
    · refine r_iconst C (1) dX0_isBeat_12 rfl ?_
      refine r_goto C 17 dX0_isBeat_13 (by decide) ?_
      exact r_retz (x := (1 : Int32)) (rv := (fun u => some (.int u))) (hpE := (fun u => w_X0 B)) (t0 := (1 : Int32)) C dX0_isBeat_17 (by rfl) (by rfl) (by rfl) (by rfl)
set_option maxRecDepth 100000 in
set_option maxHeartbeats 4000000 in
theorem o_X0_castOf (l : Launch) (B : q_St) (a1 : Int32) : q_Ok l yX0_castOf cX0_castOf 2 (some .int) 1 21 [.ref 50, .int a1] (w_X0 B) (f_X0_castOf B a1) (fun u => some (.int u)) (fun u => w_X0 B) := by
  refine q_enter (by decide +kernel) (Nat.le_of_ble_eq_true rfl) (fun t p e s m args below meth c dC dI dA A α C => ?_)
  refine r_cut (f_X0_castOf.eq_1 _ _) ?_
  show q_S p l e (q_rm 1 21) s m args below meth c 2 dC dI dA A α (MQ below (q_Q α dC dI dA A ((fun u => some (.int u)) t) ((fun u => w_X0 B) t)) args s 0 0 A) 0 0 _ t 0 [(0, .ref 50), (1, .int a1)] [] (w_X0 B)
  refine r_aload_n C 0 dX0_castOf_0 rfl ?_
  refine r_iload_n C 1 dX0_castOf_1 rfl ?_
  refine r_callV0 C (o_X0_isBeat l B a1) v_X0_isBeat m_313 [.int a1] [] (50) (Or.inl ⟨0, 0, _, TX0, 16, rfl, rfl, rfl⟩) (fun u1 => [.int u1]) (fun u1 => w_X0 B) rfl rfl rfl (Nat.le_of_ble_eq_true rfl) ⟨(Nat.le_of_ble_eq_true rfl), (Nat.le_of_ble_eq_true rfl)⟩ ⟨Nat.zero_le _, Nat.zero_le _⟩ dX0_castOf_2 (fun _ => rfl) (fun _ => rfl) (fun _ => rfl) (fun u1 => ?_)
  refine r_if_eq C 17 dX0_castOf_5 (by decide) (fun h5 => ?_) (fun h5 => ?_)
  · refine r_iconst C (0) dX0_castOf_17 rfl ?_
    exact r_reti (x := (0 : Int32)) (rv := (fun u => some (.int u))) (hpE := (fun u => w_X0 B)) (t0 := (0 : Int32)) C dX0_castOf_18 (by rfl) (by rfl) (by rfl)
  · refine r_aload_n C 0 dX0_castOf_8 rfl ?_
    refine r_get C 0 13 dX0_castOf_9 K_X0 rfl rfl (Nat.le_of_ble_eq_true rfl) rfl m_59 rfl ?_
    refine r_iload_n C 1 dX0_castOf_12 rfl ?_
    refine r_iald C 4 dX0_castOf_13 rfl rfl (fun hi13 => ?_)
    refine r_goto C 18 dX0_castOf_14 (by decide) ?_
    exact r_reti (x := (B.2 13 a1.toNatClampNeg)) (rv := (fun u => some (.int u))) (hpE := (fun u => w_X0 B)) (t0 := (B.2 13 a1.toNatClampNeg)) C dX0_castOf_18 (by rfl) (by rfl) (by rfl)
set_option maxRecDepth 100000 in
set_option maxHeartbeats 4000000 in
theorem o_X0_speakerOf (l : Launch) (B : q_St) (a1 : Int32) : q_Ok l yX0_speakerOf cX0_speakerOf 2 (some .int) 1 21 [.ref 50, .int a1] (w_X0 B) (f_X0_speakerOf B a1) (fun u => some (.int u)) (fun u => w_X0 B) := by
  refine q_enter (by decide +kernel) (Nat.le_of_ble_eq_true rfl) (fun t p e s m args below meth c dC dI dA A α C => ?_)
  refine r_cut (f_X0_speakerOf.eq_1 _ _) ?_
  show q_S p l e (q_rm 1 21) s m args below meth c 2 dC dI dA A α (MQ below (q_Q α dC dI dA A ((fun u => some (.int u)) t) ((fun u => w_X0 B) t)) args s 0 0 A) 0 0 _ t 0 [(0, .ref 50), (1, .int a1)] [] (w_X0 B)
  refine r_aload_n C 0 dX0_speakerOf_0 rfl ?_
  refine r_iload_n C 1 dX0_speakerOf_1 rfl ?_
  refine r_callV0 C (o_X0_isBeat l B a1) v_X0_isBeat m_313 [.int a1] [] (50) (Or.inl ⟨0, 0, _, TX0, 16, rfl, rfl, rfl⟩) (fun u1 => [.int u1]) (fun u1 => w_X0 B) rfl rfl rfl (Nat.le_of_ble_eq_true rfl) ⟨(Nat.le_of_ble_eq_true rfl), (Nat.le_of_ble_eq_true rfl)⟩ ⟨Nat.zero_le _, Nat.zero_le _⟩ dX0_speakerOf_2 (fun _ => rfl) (fun _ => rfl) (fun _ => rfl) (fun u1 => ?_)
  refine r_if_eq C 17 dX0_speakerOf_5 (by decide) (fun h5 => ?_) (fun h5 => ?_)
  · refine r_iconst C (-1) dX0_speakerOf_17 rfl ?_
    exact r_reti (x := (-1 : Int32)) (rv := (fun u => some (.int u))) (hpE := (fun u => w_X0 B)) (t0 := (-1 : Int32)) C dX0_speakerOf_18 (by rfl) (by rfl) (by rfl)
  · refine r_aload_n C 0 dX0_speakerOf_8 rfl ?_
    refine r_get C 0 14 dX0_speakerOf_9 K_X0 rfl rfl (Nat.le_of_ble_eq_true rfl) rfl m_60 rfl ?_
    refine r_iload_n C 1 dX0_speakerOf_12 rfl ?_
    refine r_iald C 5 dX0_speakerOf_13 rfl rfl (fun hi13 => ?_)
    refine r_goto C 18 dX0_speakerOf_14 (by decide) ?_
    exact r_reti (x := (B.2 14 a1.toNatClampNeg)) (rv := (fun u => some (.int u))) (hpE := (fun u => w_X0 B)) (t0 := (B.2 14 a1.toNatClampNeg)) C dX0_speakerOf_18 (by rfl) (by rfl) (by rfl)
set_option maxRecDepth 100000 in
set_option maxHeartbeats 4000000 in
theorem o_X0_bit (l : Launch) (a1 : Int32) : q_Ok l yX0_bit cX0_bit 1 (some .int) 0 0 [.int a1] ([]) (f_X0_bit a1) (fun u => some (.int u)) (fun _ => []) := by
  refine q_enter (by decide +kernel) (Nat.le_of_ble_eq_true rfl) (fun t p e s m args below meth c dC dI dA A α C => ?_)
  refine r_cut (f_X0_bit.eq_1 _) ?_
  show q_S p l e (q_rm 0 0) s m args below meth c 1 dC dI dA A α (MQ below (q_Q α dC dI dA A ((fun u => some (.int u)) t) ((fun _ => []) t)) args s 0 0 A) 0 0 _ t 0 [(0, .int a1)] [] ([])
  refine r_iload_n C 0 dX0_bit_0 rfl ?_
  refine r_iconst C (-1) dX0_bit_1 rfl ?_
  refine r_icmp_ne C 9 dX0_bit_2 (by decide) (fun h2 => ?_) (fun h2 => ?_)
  · refine r_iconst C (0) dX0_bit_5 rfl ?_
    refine r_goto C 12 dX0_bit_6 (by decide) ?_
    exact r_reti (x := (0 : Int32)) (rv := (fun u => some (.int u))) (hpE := (fun _ => [])) (t0 := (0 : Int32)) C dX0_bit_12 (by rfl) (by rfl) (by rfl)
  · refine r_iconst C (1) dX0_bit_9 rfl ?_
    refine r_iload_n C 0 dX0_bit_10 rfl ?_
    refine r_ishl C dX0_bit_11 ?_
    exact r_reti (x := ((1 : Int32) <<< (a1 &&& 31))) (rv := (fun u => some (.int u))) (hpE := (fun _ => [])) (t0 := ((1 : Int32) <<< (a1 &&& 31))) C dX0_bit_12 (by rfl) (by rfl) (by rfl)
set_option maxRecDepth 100000 in
set_option maxHeartbeats 4000000 in
theorem o_X0_contains (l : Launch) (a1 : Int32) (a2 : Int32) : q_Ok l yX0_contains cX0_contains 2 (some .boolean) 1 20 [.int a1, .int a2] ([]) (f_X0_contains a1 a2) (fun u => some (.int u)) (fun _ => []) := by
  refine q_enter (by decide +kernel) (Nat.le_of_ble_eq_true rfl) (fun t p e s m args below meth c dC dI dA A α C => ?_)
  refine r_cut (f_X0_contains.eq_1 _ _) ?_
  show q_S p l e (q_rm 1 20) s m args below meth c 2 dC dI dA A α (MQ below (q_Q α dC dI dA A ((fun u => some (.int u)) t) ((fun _ => []) t)) args s 0 0 A) 0 0 _ t 0 [(0, .int a1), (1, .int a2)] [] ([])
  refine r_iload_n C 0 dX0_contains_0 rfl ?_
  refine r_iload_n C 1 dX0_contains_1 rfl ?_
  refine r_callS C (o_X0_bit l a2) v_X0_bit m_327 [] [.int a2] [.int a1] (fun u1 => [.int u1, .int a1]) (fun u1 => []) rfl rfl rfl rfl rfl (Nat.le_of_ble_eq_true rfl) ⟨(Nat.le_of_ble_eq_true rfl), (Nat.le_of_ble_eq_true rfl)⟩ ⟨Nat.zero_le _, Nat.zero_le _⟩ dX0_contains_2 (fun _ => rfl) (fun _ => rfl) (fun _ => rfl) (fun u1 => ?_)
  refine r_iand C dX0_contains_5 ?_
  refine r_if_eq C 13 dX0_contains_6 (by decide) (fun h6 => ?_) (fun h6 => ?_)
  · refine r_iconst C (0) dX0_contains_13 rfl ?_
    exact r_retz (x := (0 : Int32)) (rv := (fun u => some (.int u))) (hpE := (fun _ => [])) (t0 := (0 : Int32)) C dX0_contains_14 (by rfl) (by rfl) (by rfl) (by rfl)
  · refine r_iconst C (1) dX0_contains_9 rfl ?_
    refine r_goto C 14 dX0_contains_10 (by decide) ?_
    exact r_retz (x := (1 : Int32)) (rv := (fun u => some (.int u))) (hpE := (fun _ => [])) (t0 := (1 : Int32)) C dX0_contains_14 (by rfl) (by rfl) (by rfl) (by rfl)
set_option maxRecDepth 100000 in
set_option maxHeartbeats 4000000 in
theorem o_J6_bitCount_0f7a4 (l : Launch) (a1 : Int32) : q_Ok l yJ6_bitCount_0f7a4 cJ6_bitCount_0f7a4 1 (some .int) 0 0 [.int a1] ([]) (f_J6_bitCount_0f7a4 a1) (fun u => some (.int u)) (fun _ => []) := by
  refine q_enter (by decide +kernel) (Nat.le_of_ble_eq_true rfl) (fun t p e s m args below meth c dC dI dA A α C => ?_)
  refine r_cut (f_J6_bitCount_0f7a4.eq_1 _) ?_
  show q_S p l e (q_rm 0 0) s m args below meth c 1 dC dI dA A α (MQ below (q_Q α dC dI dA A ((fun u => some (.int u)) t) ((fun _ => []) t)) args s 0 0 A) 0 0 _ t 0 [(0, .int a1)] [] ([])
  refine r_iload_n C 0 dJ6_bitCount_0f7a4_0 rfl ?_
  refine r_iload_n C 0 dJ6_bitCount_0f7a4_1 rfl ?_
  refine r_iconst C (1) dJ6_bitCount_0f7a4_2 rfl ?_
  refine r_iushr C dJ6_bitCount_0f7a4_3 ?_
  refine r_ldcw C (1431655765) dJ6_bitCount_0f7a4_4 m_333 ?_
  refine r_iand C dJ6_bitCount_0f7a4_7 ?_
  refine r_isub C dJ6_bitCount_0f7a4_8 ?_
  refine r_istore_n C [(0, .int (a1 - ((a1.toUInt32 >>> ((1 : Int32).toUInt32 &&& Int32.toUInt32 31)).toInt32 &&& (1431655765 : Int32))))] dJ6_bitCount_0f7a4_9 (Nat.le_of_ble_eq_true rfl) rfl ?_
  refine r_iload_n C 0 dJ6_bitCount_0f7a4_10 rfl ?_
  refine r_ldcw C (858993459) dJ6_bitCount_0f7a4_11 m_334 ?_
  refine r_iand C dJ6_bitCount_0f7a4_14 ?_
  refine r_iload_n C 0 dJ6_bitCount_0f7a4_15 rfl ?_
  refine r_iconst C (2) dJ6_bitCount_0f7a4_16 rfl ?_
  refine r_iushr C dJ6_bitCount_0f7a4_17 ?_
  refine r_ldcw C (858993459) dJ6_bitCount_0f7a4_18 m_334 ?_
  refine r_iand C dJ6_bitCount_0f7a4_21 ?_
  refine r_iadd C dJ6_bitCount_0f7a4_22 ?_
  refine r_istore_n C [(0, .int (((a1 - ((a1.toUInt32 >>> ((1 : Int32).toUInt32 &&& Int32.toUInt32 31)).toInt32 &&& (1431655765 : Int32))) &&& (858993459 : Int32)) + (((a1 - ((a1.toUInt32 >>> ((1 : Int32).toUInt32 &&& Int32.toUInt32 31)).toInt32 &&& (1431655765 : Int32))).toUInt32 >>> ((2 : Int32).toUInt32 &&& Int32.toUInt32 31)).toInt32 &&& (858993459 : Int32))))] dJ6_bitCount_0f7a4_23 (Nat.le_of_ble_eq_true rfl) rfl ?_
  refine r_iload_n C 0 dJ6_bitCount_0f7a4_24 rfl ?_
  refine r_iload_n C 0 dJ6_bitCount_0f7a4_25 rfl ?_
  refine r_iconst C (4) dJ6_bitCount_0f7a4_26 rfl ?_
  refine r_iushr C dJ6_bitCount_0f7a4_27 ?_
  refine r_iadd C dJ6_bitCount_0f7a4_28 ?_
  refine r_ldcw C (252645135) dJ6_bitCount_0f7a4_29 m_335 ?_
  refine r_iand C dJ6_bitCount_0f7a4_32 ?_
  refine r_istore_n C [(0, .int (((((a1 - ((a1.toUInt32 >>> ((1 : Int32).toUInt32 &&& Int32.toUInt32 31)).toInt32 &&& (1431655765 : Int32))) &&& (858993459 : Int32)) + (((a1 - ((a1.toUInt32 >>> ((1 : Int32).toUInt32 &&& Int32.toUInt32 31)).toInt32 &&& (1431655765 : Int32))).toUInt32 >>> ((2 : Int32).toUInt32 &&& Int32.toUInt32 31)).toInt32 &&& (858993459 : Int32))) + ((((a1 - ((a1.toUInt32 >>> ((1 : Int32).toUInt32 &&& Int32.toUInt32 31)).toInt32 &&& (1431655765 : Int32))) &&& (858993459 : Int32)) + (((a1 - ((a1.toUInt32 >>> ((1 : Int32).toUInt32 &&& Int32.toUInt32 31)).toInt32 &&& (1431655765 : Int32))).toUInt32 >>> ((2 : Int32).toUInt32 &&& Int32.toUInt32 31)).toInt32 &&& (858993459 : Int32))).toUInt32 >>> ((4 : Int32).toUInt32 &&& Int32.toUInt32 31)).toInt32) &&& (252645135 : Int32)))] dJ6_bitCount_0f7a4_33 (Nat.le_of_ble_eq_true rfl) rfl ?_
  refine r_iload_n C 0 dJ6_bitCount_0f7a4_34 rfl ?_
  refine r_iload_n C 0 dJ6_bitCount_0f7a4_35 rfl ?_
  refine r_bipush C (8) dJ6_bitCount_0f7a4_36 rfl ?_
  refine r_iushr C dJ6_bitCount_0f7a4_38 ?_
  refine r_iadd C dJ6_bitCount_0f7a4_39 ?_
  refine r_istore_n C [(0, .int ((((((a1 - ((a1.toUInt32 >>> ((1 : Int32).toUInt32 &&& Int32.toUInt32 31)).toInt32 &&& (1431655765 : Int32))) &&& (858993459 : Int32)) + (((a1 - ((a1.toUInt32 >>> ((1 : Int32).toUInt32 &&& Int32.toUInt32 31)).toInt32 &&& (1431655765 : Int32))).toUInt32 >>> ((2 : Int32).toUInt32 &&& Int32.toUInt32 31)).toInt32 &&& (858993459 : Int32))) + ((((a1 - ((a1.toUInt32 >>> ((1 : Int32).toUInt32 &&& Int32.toUInt32 31)).toInt32 &&& (1431655765 : Int32))) &&& (858993459 : Int32)) + (((a1 - ((a1.toUInt32 >>> ((1 : Int32).toUInt32 &&& Int32.toUInt32 31)).toInt32 &&& (1431655765 : Int32))).toUInt32 >>> ((2 : Int32).toUInt32 &&& Int32.toUInt32 31)).toInt32 &&& (858993459 : Int32))).toUInt32 >>> ((4 : Int32).toUInt32 &&& Int32.toUInt32 31)).toInt32) &&& (252645135 : Int32)) + ((((((a1 - ((a1.toUInt32 >>> ((1 : Int32).toUInt32 &&& Int32.toUInt32 31)).toInt32 &&& (1431655765 : Int32))) &&& (858993459 : Int32)) + (((a1 - ((a1.toUInt32 >>> ((1 : Int32).toUInt32 &&& Int32.toUInt32 31)).toInt32 &&& (1431655765 : Int32))).toUInt32 >>> ((2 : Int32).toUInt32 &&& Int32.toUInt32 31)).toInt32 &&& (858993459 : Int32))) + ((((a1 - ((a1.toUInt32 >>> ((1 : Int32).toUInt32 &&& Int32.toUInt32 31)).toInt32 &&& (1431655765 : Int32))) &&& (858993459 : Int32)) + (((a1 - ((a1.toUInt32 >>> ((1 : Int32).toUInt32 &&& Int32.toUInt32 31)).toInt32 &&& (1431655765 : Int32))).toUInt32 >>> ((2 : Int32).toUInt32 &&& Int32.toUInt32 31)).toInt32 &&& (858993459 : Int32))).toUInt32 >>> ((4 : Int32).toUInt32 &&& Int32.toUInt32 31)).toInt32) &&& (252645135 : Int32)).toUInt32 >>> ((8 : Int32).toUInt32 &&& Int32.toUInt32 31)).toInt32))] dJ6_bitCount_0f7a4_40 (Nat.le_of_ble_eq_true rfl) rfl ?_
  refine r_iload_n C 0 dJ6_bitCount_0f7a4_41 rfl ?_
  refine r_iload_n C 0 dJ6_bitCount_0f7a4_42 rfl ?_
  refine r_bipush C (16) dJ6_bitCount_0f7a4_43 rfl ?_
  refine r_iushr C dJ6_bitCount_0f7a4_45 ?_
  refine r_iadd C dJ6_bitCount_0f7a4_46 ?_
  refine r_istore_n C [(0, .int (((((((a1 - ((a1.toUInt32 >>> ((1 : Int32).toUInt32 &&& Int32.toUInt32 31)).toInt32 &&& (1431655765 : Int32))) &&& (858993459 : Int32)) + (((a1 - ((a1.toUInt32 >>> ((1 : Int32).toUInt32 &&& Int32.toUInt32 31)).toInt32 &&& (1431655765 : Int32))).toUInt32 >>> ((2 : Int32).toUInt32 &&& Int32.toUInt32 31)).toInt32 &&& (858993459 : Int32))) + ((((a1 - ((a1.toUInt32 >>> ((1 : Int32).toUInt32 &&& Int32.toUInt32 31)).toInt32 &&& (1431655765 : Int32))) &&& (858993459 : Int32)) + (((a1 - ((a1.toUInt32 >>> ((1 : Int32).toUInt32 &&& Int32.toUInt32 31)).toInt32 &&& (1431655765 : Int32))).toUInt32 >>> ((2 : Int32).toUInt32 &&& Int32.toUInt32 31)).toInt32 &&& (858993459 : Int32))).toUInt32 >>> ((4 : Int32).toUInt32 &&& Int32.toUInt32 31)).toInt32) &&& (252645135 : Int32)) + ((((((a1 - ((a1.toUInt32 >>> ((1 : Int32).toUInt32 &&& Int32.toUInt32 31)).toInt32 &&& (1431655765 : Int32))) &&& (858993459 : Int32)) + (((a1 - ((a1.toUInt32 >>> ((1 : Int32).toUInt32 &&& Int32.toUInt32 31)).toInt32 &&& (1431655765 : Int32))).toUInt32 >>> ((2 : Int32).toUInt32 &&& Int32.toUInt32 31)).toInt32 &&& (858993459 : Int32))) + ((((a1 - ((a1.toUInt32 >>> ((1 : Int32).toUInt32 &&& Int32.toUInt32 31)).toInt32 &&& (1431655765 : Int32))) &&& (858993459 : Int32)) + (((a1 - ((a1.toUInt32 >>> ((1 : Int32).toUInt32 &&& Int32.toUInt32 31)).toInt32 &&& (1431655765 : Int32))).toUInt32 >>> ((2 : Int32).toUInt32 &&& Int32.toUInt32 31)).toInt32 &&& (858993459 : Int32))).toUInt32 >>> ((4 : Int32).toUInt32 &&& Int32.toUInt32 31)).toInt32) &&& (252645135 : Int32)).toUInt32 >>> ((8 : Int32).toUInt32 &&& Int32.toUInt32 31)).toInt32) + (((((((a1 - ((a1.toUInt32 >>> ((1 : Int32).toUInt32 &&& Int32.toUInt32 31)).toInt32 &&& (1431655765 : Int32))) &&& (858993459 : Int32)) + (((a1 - ((a1.toUInt32 >>> ((1 : Int32).toUInt32 &&& Int32.toUInt32 31)).toInt32 &&& (1431655765 : Int32))).toUInt32 >>> ((2 : Int32).toUInt32 &&& Int32.toUInt32 31)).toInt32 &&& (858993459 : Int32))) + ((((a1 - ((a1.toUInt32 >>> ((1 : Int32).toUInt32 &&& Int32.toUInt32 31)).toInt32 &&& (1431655765 : Int32))) &&& (858993459 : Int32)) + (((a1 - ((a1.toUInt32 >>> ((1 : Int32).toUInt32 &&& Int32.toUInt32 31)).toInt32 &&& (1431655765 : Int32))).toUInt32 >>> ((2 : Int32).toUInt32 &&& Int32.toUInt32 31)).toInt32 &&& (858993459 : Int32))).toUInt32 >>> ((4 : Int32).toUInt32 &&& Int32.toUInt32 31)).toInt32) &&& (252645135 : Int32)) + ((((((a1 - ((a1.toUInt32 >>> ((1 : Int32).toUInt32 &&& Int32.toUInt32 31)).toInt32 &&& (1431655765 : Int32))) &&& (858993459 : Int32)) + (((a1 - ((a1.toUInt32 >>> ((1 : Int32).toUInt32 &&& Int32.toUInt32 31)).toInt32 &&& (1431655765 : Int32))).toUInt32 >>> ((2 : Int32).toUInt32 &&& Int32.toUInt32 31)).toInt32 &&& (858993459 : Int32))) + ((((a1 - ((a1.toUInt32 >>> ((1 : Int32).toUInt32 &&& Int32.toUInt32 31)).toInt32 &&& (1431655765 : Int32))) &&& (858993459 : Int32)) + (((a1 - ((a1.toUInt32 >>> ((1 : Int32).toUInt32 &&& Int32.toUInt32 31)).toInt32 &&& (1431655765 : Int32))).toUInt32 >>> ((2 : Int32).toUInt32 &&& Int32.toUInt32 31)).toInt32 &&& (858993459 : Int32))).toUInt32 >>> ((4 : Int32).toUInt32 &&& Int32.toUInt32 31)).toInt32) &&& (252645135 : Int32)).toUInt32 >>> ((8 : Int32).toUInt32 &&& Int32.toUInt32 31)).toInt32).toUInt32 >>> ((16 : Int32).toUInt32 &&& Int32.toUInt32 31)).toInt32))] dJ6_bitCount_0f7a4_47 (Nat.le_of_ble_eq_true rfl) rfl ?_
  refine r_iload_n C 0 dJ6_bitCount_0f7a4_48 rfl ?_
  refine r_bipush C (63) dJ6_bitCount_0f7a4_49 rfl ?_
  refine r_iand C dJ6_bitCount_0f7a4_51 ?_
  exact r_reti (x := ((((((((a1 - ((a1.toUInt32 >>> ((1 : Int32).toUInt32 &&& Int32.toUInt32 31)).toInt32 &&& (1431655765 : Int32))) &&& (858993459 : Int32)) + (((a1 - ((a1.toUInt32 >>> ((1 : Int32).toUInt32 &&& Int32.toUInt32 31)).toInt32 &&& (1431655765 : Int32))).toUInt32 >>> ((2 : Int32).toUInt32 &&& Int32.toUInt32 31)).toInt32 &&& (858993459 : Int32))) + ((((a1 - ((a1.toUInt32 >>> ((1 : Int32).toUInt32 &&& Int32.toUInt32 31)).toInt32 &&& (1431655765 : Int32))) &&& (858993459 : Int32)) + (((a1 - ((a1.toUInt32 >>> ((1 : Int32).toUInt32 &&& Int32.toUInt32 31)).toInt32 &&& (1431655765 : Int32))).toUInt32 >>> ((2 : Int32).toUInt32 &&& Int32.toUInt32 31)).toInt32 &&& (858993459 : Int32))).toUInt32 >>> ((4 : Int32).toUInt32 &&& Int32.toUInt32 31)).toInt32) &&& (252645135 : Int32)) + ((((((a1 - ((a1.toUInt32 >>> ((1 : Int32).toUInt32 &&& Int32.toUInt32 31)).toInt32 &&& (1431655765 : Int32))) &&& (858993459 : Int32)) + (((a1 - ((a1.toUInt32 >>> ((1 : Int32).toUInt32 &&& Int32.toUInt32 31)).toInt32 &&& (1431655765 : Int32))).toUInt32 >>> ((2 : Int32).toUInt32 &&& Int32.toUInt32 31)).toInt32 &&& (858993459 : Int32))) + ((((a1 - ((a1.toUInt32 >>> ((1 : Int32).toUInt32 &&& Int32.toUInt32 31)).toInt32 &&& (1431655765 : Int32))) &&& (858993459 : Int32)) + (((a1 - ((a1.toUInt32 >>> ((1 : Int32).toUInt32 &&& Int32.toUInt32 31)).toInt32 &&& (1431655765 : Int32))).toUInt32 >>> ((2 : Int32).toUInt32 &&& Int32.toUInt32 31)).toInt32 &&& (858993459 : Int32))).toUInt32 >>> ((4 : Int32).toUInt32 &&& Int32.toUInt32 31)).toInt32) &&& (252645135 : Int32)).toUInt32 >>> ((8 : Int32).toUInt32 &&& Int32.toUInt32 31)).toInt32) + (((((((a1 - ((a1.toUInt32 >>> ((1 : Int32).toUInt32 &&& Int32.toUInt32 31)).toInt32 &&& (1431655765 : Int32))) &&& (858993459 : Int32)) + (((a1 - ((a1.toUInt32 >>> ((1 : Int32).toUInt32 &&& Int32.toUInt32 31)).toInt32 &&& (1431655765 : Int32))).toUInt32 >>> ((2 : Int32).toUInt32 &&& Int32.toUInt32 31)).toInt32 &&& (858993459 : Int32))) + ((((a1 - ((a1.toUInt32 >>> ((1 : Int32).toUInt32 &&& Int32.toUInt32 31)).toInt32 &&& (1431655765 : Int32))) &&& (858993459 : Int32)) + (((a1 - ((a1.toUInt32 >>> ((1 : Int32).toUInt32 &&& Int32.toUInt32 31)).toInt32 &&& (1431655765 : Int32))).toUInt32 >>> ((2 : Int32).toUInt32 &&& Int32.toUInt32 31)).toInt32 &&& (858993459 : Int32))).toUInt32 >>> ((4 : Int32).toUInt32 &&& Int32.toUInt32 31)).toInt32) &&& (252645135 : Int32)) + ((((((a1 - ((a1.toUInt32 >>> ((1 : Int32).toUInt32 &&& Int32.toUInt32 31)).toInt32 &&& (1431655765 : Int32))) &&& (858993459 : Int32)) + (((a1 - ((a1.toUInt32 >>> ((1 : Int32).toUInt32 &&& Int32.toUInt32 31)).toInt32 &&& (1431655765 : Int32))).toUInt32 >>> ((2 : Int32).toUInt32 &&& Int32.toUInt32 31)).toInt32 &&& (858993459 : Int32))) + ((((a1 - ((a1.toUInt32 >>> ((1 : Int32).toUInt32 &&& Int32.toUInt32 31)).toInt32 &&& (1431655765 : Int32))) &&& (858993459 : Int32)) + (((a1 - ((a1.toUInt32 >>> ((1 : Int32).toUInt32 &&& Int32.toUInt32 31)).toInt32 &&& (1431655765 : Int32))).toUInt32 >>> ((2 : Int32).toUInt32 &&& Int32.toUInt32 31)).toInt32 &&& (858993459 : Int32))).toUInt32 >>> ((4 : Int32).toUInt32 &&& Int32.toUInt32 31)).toInt32) &&& (252645135 : Int32)).toUInt32 >>> ((8 : Int32).toUInt32 &&& Int32.toUInt32 31)).toInt32).toUInt32 >>> ((16 : Int32).toUInt32 &&& Int32.toUInt32 31)).toInt32) &&& (63 : Int32))) (rv := (fun u => some (.int u))) (hpE := (fun _ => [])) (t0 := ((((((((a1 - ((a1.toUInt32 >>> ((1 : Int32).toUInt32 &&& Int32.toUInt32 31)).toInt32 &&& (1431655765 : Int32))) &&& (858993459 : Int32)) + (((a1 - ((a1.toUInt32 >>> ((1 : Int32).toUInt32 &&& Int32.toUInt32 31)).toInt32 &&& (1431655765 : Int32))).toUInt32 >>> ((2 : Int32).toUInt32 &&& Int32.toUInt32 31)).toInt32 &&& (858993459 : Int32))) + ((((a1 - ((a1.toUInt32 >>> ((1 : Int32).toUInt32 &&& Int32.toUInt32 31)).toInt32 &&& (1431655765 : Int32))) &&& (858993459 : Int32)) + (((a1 - ((a1.toUInt32 >>> ((1 : Int32).toUInt32 &&& Int32.toUInt32 31)).toInt32 &&& (1431655765 : Int32))).toUInt32 >>> ((2 : Int32).toUInt32 &&& Int32.toUInt32 31)).toInt32 &&& (858993459 : Int32))).toUInt32 >>> ((4 : Int32).toUInt32 &&& Int32.toUInt32 31)).toInt32) &&& (252645135 : Int32)) + ((((((a1 - ((a1.toUInt32 >>> ((1 : Int32).toUInt32 &&& Int32.toUInt32 31)).toInt32 &&& (1431655765 : Int32))) &&& (858993459 : Int32)) + (((a1 - ((a1.toUInt32 >>> ((1 : Int32).toUInt32 &&& Int32.toUInt32 31)).toInt32 &&& (1431655765 : Int32))).toUInt32 >>> ((2 : Int32).toUInt32 &&& Int32.toUInt32 31)).toInt32 &&& (858993459 : Int32))) + ((((a1 - ((a1.toUInt32 >>> ((1 : Int32).toUInt32 &&& Int32.toUInt32 31)).toInt32 &&& (1431655765 : Int32))) &&& (858993459 : Int32)) + (((a1 - ((a1.toUInt32 >>> ((1 : Int32).toUInt32 &&& Int32.toUInt32 31)).toInt32 &&& (1431655765 : Int32))).toUInt32 >>> ((2 : Int32).toUInt32 &&& Int32.toUInt32 31)).toInt32 &&& (858993459 : Int32))).toUInt32 >>> ((4 : Int32).toUInt32 &&& Int32.toUInt32 31)).toInt32) &&& (252645135 : Int32)).toUInt32 >>> ((8 : Int32).toUInt32 &&& Int32.toUInt32 31)).toInt32) + (((((((a1 - ((a1.toUInt32 >>> ((1 : Int32).toUInt32 &&& Int32.toUInt32 31)).toInt32 &&& (1431655765 : Int32))) &&& (858993459 : Int32)) + (((a1 - ((a1.toUInt32 >>> ((1 : Int32).toUInt32 &&& Int32.toUInt32 31)).toInt32 &&& (1431655765 : Int32))).toUInt32 >>> ((2 : Int32).toUInt32 &&& Int32.toUInt32 31)).toInt32 &&& (858993459 : Int32))) + ((((a1 - ((a1.toUInt32 >>> ((1 : Int32).toUInt32 &&& Int32.toUInt32 31)).toInt32 &&& (1431655765 : Int32))) &&& (858993459 : Int32)) + (((a1 - ((a1.toUInt32 >>> ((1 : Int32).toUInt32 &&& Int32.toUInt32 31)).toInt32 &&& (1431655765 : Int32))).toUInt32 >>> ((2 : Int32).toUInt32 &&& Int32.toUInt32 31)).toInt32 &&& (858993459 : Int32))).toUInt32 >>> ((4 : Int32).toUInt32 &&& Int32.toUInt32 31)).toInt32) &&& (252645135 : Int32)) + ((((((a1 - ((a1.toUInt32 >>> ((1 : Int32).toUInt32 &&& Int32.toUInt32 31)).toInt32 &&& (1431655765 : Int32))) &&& (858993459 : Int32)) + (((a1 - ((a1.toUInt32 >>> ((1 : Int32).toUInt32 &&& Int32.toUInt32 31)).toInt32 &&& (1431655765 : Int32))).toUInt32 >>> ((2 : Int32).toUInt32 &&& Int32.toUInt32 31)).toInt32 &&& (858993459 : Int32))) + ((((a1 - ((a1.toUInt32 >>> ((1 : Int32).toUInt32 &&& Int32.toUInt32 31)).toInt32 &&& (1431655765 : Int32))) &&& (858993459 : Int32)) + (((a1 - ((a1.toUInt32 >>> ((1 : Int32).toUInt32 &&& Int32.toUInt32 31)).toInt32 &&& (1431655765 : Int32))).toUInt32 >>> ((2 : Int32).toUInt32 &&& Int32.toUInt32 31)).toInt32 &&& (858993459 : Int32))).toUInt32 >>> ((4 : Int32).toUInt32 &&& Int32.toUInt32 31)).toInt32) &&& (252645135 : Int32)).toUInt32 >>> ((8 : Int32).toUInt32 &&& Int32.toUInt32 31)).toInt32).toUInt32 >>> ((16 : Int32).toUInt32 &&& Int32.toUInt32 31)).toInt32) &&& (63 : Int32))) C dJ6_bitCount_0f7a4_52 (by rfl) (by rfl) (by rfl)
set_option maxRecDepth 100000 in
set_option maxHeartbeats 4000000 in
theorem k_X0_wanting_5 {p : Program} {l : Launch} {e : Env} {s : State} {m : MethodId} {args : Array Value} {below : List Frame} {meth : Method} {c : Code} {dC : Nat → ClassId} {dI : Nat → Nat → Nat} {dA : Nat → ClassId} {A : Nat → Prop} {α : Nat → Nat} {t : Int32} (C : q_Cx p s m args meth c cX0_wanting 5 RX0 (some .int) "wanting" dC dI dA A α) (B : q_St) (a1 : Int32) (a2 : Int32)  : ∀ (n : Nat) (x1 : Int32) (x2 : Int32) (x3 : Int32) (x4 : Int32), q_S p l e (q_rm 2 42) s m args below meth c 5 dC dI dA A α (MQ below (q_Q α dC dI dA A ((fun u => some (.int u)) t) ((fun u => w_X0 B) t)) args s 0 0 A) 0 0 (f_X0_wanting_5 B a1 a2  n x1 x2 x3 x4) t 5 [(0, .ref 50), (1, .int x1), (2, .int x2), (3, .int x3), (4, .int x4)] [] (w_X0 B) := by
  intro n
  induction n with
  | zero =>
    intro x1 x2 x3 x4
    exact r_cut (f_X0_wanting_5.eq_1 _ _ _ _ _ _ _) (r_none True.intro)
  | succ n ih =>
    intro x1 x2 x3 x4
    refine r_cut (f_X0_wanting_5.eq_2 _ _ _ _ _ _ _ _) ?_
    refine r_iload C 4 dX0_wanting_5 rfl ?_
    refine r_aload_n C 0 dX0_wanting_7 rfl ?_
    refine r_get C 0 0 dX0_wanting_8 K_X0 rfl rfl (Nat.le_of_ble_eq_true rfl) rfl m_29 rfl ?_
    refine r_icmp_ge C 42 dX0_wanting_11 (by decide) (fun h11 => ?_) (fun h11 => ?_)
    · refine r_iload_n C 3 dX0_wanting_42 rfl ?_
      exact r_reti (x := x3) (rv := (fun u => some (.int u))) (hpE := (fun u => w_X0 B)) (t0 := x3) C dX0_wanting_43 (by rfl) (by rfl) (by rfl)
    · refine r_iload_n C 1 dX0_wanting_14 rfl ?_
      refine r_iload C 4 dX0_wanting_15 rfl ?_
      refine r_callS C (o_X0_contains l x1 x4) v_X0_contains m_324 [] [.int x1, .int x4] [] (fun u1 => [.int u1]) (fun u1 => w_X0 B) rfl rfl rfl rfl rfl (Nat.le_of_ble_eq_true rfl) ⟨(Nat.le_of_ble_eq_true rfl), (Nat.le_of_ble_eq_true rfl)⟩ ⟨Nat.zero_le _, Nat.zero_le _⟩ dX0_wanting_17 (fun _ => rfl) (fun _ => rfl) (fun _ => rfl) (fun u1 => ?_)
      refine r_if_eq C 36 dX0_wanting_20 (by decide) (fun h20 => ?_) (fun h20 => ?_)
      · refine r_iinc C 4 (x4 + 1) [(4, .int (x4 + 1)), (0, .ref 50), (1, .int x1), (2, .int x2), (3, .int x3)] dX0_wanting_36 rfl rfl (Nat.le_of_ble_eq_true rfl) rfl ?_
        refine r_goto C 5 dX0_wanting_39 (by decide) ?_
        refine r_lv [(0, .ref 50), (1, .int x1), (2, .int x2), (3, .int x3), (4, .int (x4 + 1))] [1, 2, 3, 4, 0] rfl ?_
        exact ih x1 x2 x3 (x4 + 1)
      · refine r_aload_n C 0 dX0_wanting_23 rfl ?_
        refine r_iload C 4 dX0_wanting_24 rfl ?_
        refine r_callV0 C (o_X0_wantOf l B x4) v_X0_wantOf m_340 [.int x4] [] (50) (Or.inl ⟨0, 0, _, TX0, 16, rfl, rfl, rfl⟩) (fun u2 => [.int u2]) (fun u2 => w_X0 B) rfl rfl rfl (Nat.le_of_ble_eq_true rfl) ⟨(Nat.le_of_ble_eq_true rfl), (Nat.le_of_ble_eq_true rfl)⟩ ⟨Nat.zero_le _, Nat.zero_le _⟩ dX0_wanting_26 (fun _ => rfl) (fun _ => rfl) (fun _ => rfl) (fun u2 => ?_)
        refine r_iload_n C 2 dX0_wanting_29 rfl ?_
        refine r_icmp_ne C 36 dX0_wanting_30 (by decide) (fun h30 => ?_) (fun h30 => ?_)
        · refine r_iinc C 3 (x3 + 1) [(3, .int (x3 + 1)), (0, .ref 50), (1, .int x1), (2, .int x2), (4, .int x4)] dX0_wanting_33 rfl rfl (Nat.le_of_ble_eq_true rfl) rfl ?_
          refine r_iinc C 4 (x4 + 1) [(4, .int (x4 + 1)), (3, .int (x3 + 1)), (0, .ref 50), (1, .int x1), (2, .int x2)] dX0_wanting_36 rfl rfl (Nat.le_of_ble_eq_true rfl) rfl ?_
          refine r_goto C 5 dX0_wanting_39 (by decide) ?_
          refine r_lv [(0, .ref 50), (1, .int x1), (2, .int x2), (3, .int (x3 + 1)), (4, .int (x4 + 1))] [2, 3, 4, 1, 0] rfl ?_
          exact ih x1 x2 (x3 + 1) (x4 + 1)
        · refine r_iinc C 4 (x4 + 1) [(4, .int (x4 + 1)), (0, .ref 50), (1, .int x1), (2, .int x2), (3, .int x3)] dX0_wanting_36 rfl rfl (Nat.le_of_ble_eq_true rfl) rfl ?_
          refine r_goto C 5 dX0_wanting_39 (by decide) ?_
          refine r_lv [(0, .ref 50), (1, .int x1), (2, .int x2), (3, .int x3), (4, .int (x4 + 1))] [1, 2, 3, 4, 0] rfl ?_
          exact ih x1 x2 x3 (x4 + 1)
set_option maxRecDepth 100000 in
set_option maxHeartbeats 4000000 in
theorem o_X0_wanting (l : Launch) (B : q_St) (a1 : Int32) (a2 : Int32) : q_Ok l yX0_wanting cX0_wanting 5 (some .int) 2 42 [.ref 50, .int a1, .int a2] (w_X0 B) (f_X0_wanting B a1 a2) (fun u => some (.int u)) (fun u => w_X0 B) := by
  refine q_enter (by decide +kernel) (Nat.le_of_ble_eq_true rfl) (fun t p e s m args below meth c dC dI dA A α C => ?_)
  refine r_cut (f_X0_wanting.eq_1 _ _ _) ?_
  show q_S p l e (q_rm 2 42) s m args below meth c 5 dC dI dA A α (MQ below (q_Q α dC dI dA A ((fun u => some (.int u)) t) ((fun u => w_X0 B) t)) args s 0 0 A) 0 0 _ t 0 [(0, .ref 50), (1, .int a1), (2, .int a2)] [] (w_X0 B)
  refine r_iconst C (0) dX0_wanting_0 rfl ?_
  refine r_istore_n C [(3, .int (0 : Int32)), (0, .ref 50), (1, .int a1), (2, .int a2)] dX0_wanting_1 (Nat.le_of_ble_eq_true rfl) rfl ?_
  refine r_iconst C (0) dX0_wanting_2 rfl ?_
  refine r_istore C [(4, .int (0 : Int32)), (3, .int (0 : Int32)), (0, .ref 50), (1, .int a1), (2, .int a2)] dX0_wanting_3 (Nat.le_of_ble_eq_true rfl) rfl ?_
  refine r_lv [(0, .ref 50), (1, .int a1), (2, .int a2), (3, .int (0 : Int32)), (4, .int (0 : Int32))] [2, 3, 4, 1, 0] rfl ?_
  exact k_X0_wanting_5 C B a1 a2   q_N a1 a2 (0 : Int32) (0 : Int32)
set_option maxRecDepth 100000 in
set_option maxHeartbeats 4000000 in
theorem k_X0_isWrong_27 {p : Program} {l : Launch} {e : Env} {s : State} {m : MethodId} {args : Array Value} {below : List Frame} {meth : Method} {c : Code} {dC : Nat → ClassId} {dI : Nat → Nat → Nat} {dA : Nat → ClassId} {A : Nat → Prop} {α : Nat → Nat} {t : Int32} (C : q_Cx p s m args meth c cX0_isWrong 4 RX0 (some .boolean) "isWrong" dC dI dA A α) (B : q_St) (a1 : Int32)  : ∀ (x2 : Int32), q_S p l e (q_rm 3 66) s m args below meth c 4 dC dI dA A α (MQ below (q_Q α dC dI dA A ((fun u => some (.int u)) t) ((fun u => w_X0 B) t)) args s 0 0 A) 0 0 (f_X0_isWrong_27 B a1  x2) t 27 [(0, .ref 50), (2, .int x2)] [] (w_X0 B) := by
  intro x2
  refine r_cut (f_X0_isWrong_27.eq_1 _ _ _) ?_
  refine r_iload_n C 1 dX0_isWrong_27 rfl ?_
  refine r_callS C (o_J6_bitCount_0f7a4 l x2) v_J6_bitCount_0f7a4 m_330 [] [.int x2] [] (fun u4 => [.int u4]) (fun u4 => w_X0 B) rfl rfl rfl rfl rfl (Nat.le_of_ble_eq_true rfl) ⟨(Nat.le_of_ble_eq_true rfl), (Nat.le_of_ble_eq_true rfl)⟩ ⟨Nat.zero_le _, Nat.zero_le _⟩ dX0_isWrong_28 (fun _ => rfl) (fun _ => rfl) (fun _ => rfl) (fun u4 => ?_)
  refine r_iconst C (2) dX0_isWrong_31 rfl ?_
  refine r_icmp_le C 37 dX0_isWrong_32 (by decide) (fun h32 => ?_) (fun h32 => ?_)
  · refine r_aload_n C 0 dX0_isWrong_37 rfl ?_
    refine r_iload_n C 1 dX0_isWrong_38 rfl ?_
    refine r_iconst C (1) dX0_isWrong_39 rfl ?_
    refine r_callV0 C (o_X0_wanting l B x2 (1 : Int32)) v_X0_wanting m_336 [.int x2, .int (1 : Int32)] [] (50) (Or.inl ⟨0, 0, _, TX0, 16, rfl, rfl, rfl⟩) (fun u5 => [.int u5]) (fun u5 => w_X0 B) rfl rfl rfl (Nat.le_of_ble_eq_true rfl) ⟨(Nat.le_of_ble_eq_true rfl), (Nat.le_of_ble_eq_true rfl)⟩ ⟨Nat.zero_le _, Nat.zero_le _⟩ dX0_isWrong_40 (fun _ => rfl) (fun _ => rfl) (fun _ => rfl) (fun u5 => ?_)
    refine r_iconst C (1) dX0_isWrong_43 rfl ?_
    refine r_icmp_gt C 57 dX0_isWrong_44 (by decide) (fun h44 => ?_) (fun h44 => ?_)
    · refine r_iconst C (1) dX0_isWrong_57 rfl ?_
      refine r_goto C 62 dX0_isWrong_58 (by decide) ?_
      exact r_retz (x := (1 : Int32)) (rv := (fun u => some (.int u))) (hpE := (fun u => w_X0 B)) (t0 := (1 : Int32)) C dX0_isWrong_62 (by rfl) (by rfl) (by rfl) (by rfl)
    · refine r_aload_n C 0 dX0_isWrong_47 rfl ?_
      refine r_iload_n C 1 dX0_isWrong_48 rfl ?_
      refine r_iconst C (2) dX0_isWrong_49 rfl ?_
      refine r_callV0 C (o_X0_wanting l B x2 (2 : Int32)) v_X0_wanting m_336 [.int x2, .int (2 : Int32)] [] (50) (Or.inl ⟨0, 0, _, TX0, 16, rfl, rfl, rfl⟩) (fun u6 => [.int u6]) (fun u6 => w_X0 B) rfl rfl rfl (Nat.le_of_ble_eq_true rfl) ⟨(Nat.le_of_ble_eq_true rfl), (Nat.le_of_ble_eq_true rfl)⟩ ⟨Nat.zero_le _, Nat.zero_le _⟩ dX0_isWrong_50 (fun _ => rfl) (fun _ => rfl) (fun _ => rfl) (fun u6 => ?_)
      refine r_iconst C (1) dX0_isWrong_53 rfl ?_
      refine r_icmp_le C 61 dX0_isWrong_54 (by decide) (fun h54 => ?_) (fun h54 => ?_)
      · refine r_iconst C (0) dX0_isWrong_61 rfl ?_
        exact r_retz (x := (0 : Int32)) (rv := (fun u => some (.int u))) (hpE := (fun u => w_X0 B)) (t0 := (0 : Int32)) C dX0_isWrong_62 (by rfl) (by rfl) (by rfl) (by rfl)
      · refine r_iconst C (1) dX0_isWrong_57 rfl ?_
        refine r_goto C 62 dX0_isWrong_58 (by decide) ?_
        exact r_retz (x := (1 : Int32)) (rv := (fun u => some (.int u))) (hpE := (fun u => w_X0 B)) (t0 := (1 : Int32)) C dX0_isWrong_62 (by rfl) (by rfl) (by rfl) (by rfl)
  · refine r_iconst C (1) dX0_isWrong_35 rfl ?_
    exact r_retz (x := (1 : Int32)) (rv := (fun u => some (.int u))) (hpE := (fun u => w_X0 B)) (t0 := (1 : Int32)) C dX0_isWrong_36 (by rfl) (by rfl) (by rfl) (by rfl)
set_option maxRecDepth 100000 in
set_option maxHeartbeats 4000000 in
theorem o_X0_isWrong (l : Launch) (B : q_St) (a1 : Int32) : q_Ok l yX0_isWrong cX0_isWrong 4 (some .boolean) 3 66 [.ref 50, .int a1] (w_X0 B) (f_X0_isWrong B a1) (fun u => some (.int u)) (fun u => w_X0 B) := by
  refine q_enter (by decide +kernel) (Nat.le_of_ble_eq_true rfl) (fun t p e s m args below meth c dC dI dA A α C => ?_)
  refine r_cut (f_X0_isWrong.eq_1 _ _) ?_
  show q_S p l e (q_rm 3 66) s m args below meth c 4 dC dI dA A α (MQ below (q_Q α dC dI dA A ((fun u => some (.int u)) t) ((fun u => w_X0 B) t)) args s 0 0 A) 0 0 _ t 0 [(0, .ref 50), (1, .int a1)] [] (w_X0 B)
  refine r_aload_n C 0 dX0_isWrong_0 rfl ?_
  refine r_iload_n C 1 dX0_isWrong_1 rfl ?_
  refine r_callV0 C (o_X0_castOf l B a1) v_X0_castOf m_322 [.int a1] [] (50) (Or.inl ⟨0, 0, _, TX0, 16, rfl, rfl, rfl⟩) (fun u1 => [.int u1]) (fun u1 => w_X0 B) rfl rfl rfl (Nat.le_of_ble_eq_true rfl) ⟨(Nat.le_of_ble_eq_true rfl), (Nat.le_of_ble_eq_true rfl)⟩ ⟨Nat.zero_le _, Nat.zero_le _⟩ dX0_isWrong_2 (fun _ => rfl) (fun _ => rfl) (fun _ => rfl) (fun u1 => ?_)
  refine r_istore_n C [(2, .int u1), (0, .ref 50), (1, .int a1)] dX0_isWrong_5 (Nat.le_of_ble_eq_true rfl) rfl ?_
  refine r_aload_n C 1 dX0_isWrong_6 rfl ?_
  refine r_iload_n C 2 dX0_isWrong_7 rfl ?_
  refine r_callV0 C (o_X0_speakerOf l B a1) v_X0_speakerOf m_323 [.int a1] [] (50) (Or.inl ⟨0, 0, _, TX0, 16, rfl, rfl, rfl⟩) (fun u2 => [.int u2]) (fun u2 => w_X0 B) rfl rfl rfl (Nat.le_of_ble_eq_true rfl) ⟨(Nat.le_of_ble_eq_true rfl), (Nat.le_of_ble_eq_true rfl)⟩ ⟨Nat.zero_le _, Nat.zero_le _⟩ dX0_isWrong_8 (fun _ => rfl) (fun _ => rfl) (fun _ => rfl) (fun u2 => ?_)
  refine r_istore_n C [(3, .int u2), (2, .int u1), (0, .ref 50), (1, .int a1)] dX0_isWrong_11 (Nat.le_of_ble_eq_true rfl) rfl ?_
  refine r_iload_n C 0 dX0_isWrong_12 rfl ?_
  refine r_iconst C (-1) dX0_isWrong_13 rfl ?_
  refine r_icmp_eq C 27 dX0_isWrong_14 (by decide) (fun h14 => ?_) (fun h14 => ?_)
  · refine r_lv [(0, .ref 50), (2, .int u1)] [2, 1] rfl ?_
    exact k_X0_isWrong_27 C B a1   u1
  · refine r_iload_n C 1 dX0_isWrong_17 rfl ?_
    refine r_iload_n C 0 dX0_isWrong_18 rfl ?_
    refine r_callS C (o_X0_contains l u1 u2) v_X0_contains m_324 [] [.int u1, .int u2] [] (fun u3 => [.int u3]) (fun u3 => w_X0 B) rfl rfl rfl rfl rfl (Nat.le_of_ble_eq_true rfl) ⟨(Nat.le_of_ble_eq_true rfl), (Nat.le_of_ble_eq_true rfl)⟩ ⟨Nat.zero_le _, Nat.zero_le _⟩ dX0_isWrong_19 (fun _ => rfl) (fun _ => rfl) (fun _ => rfl) (fun u3 => ?_)
    refine r_if_ne C 27 dX0_isWrong_22 (by decide) (fun h22 => ?_) (fun h22 => ?_)
    · refine r_iconst C (1) dX0_isWrong_25 rfl ?_
      exact r_retz (x := (1 : Int32)) (rv := (fun u => some (.int u))) (hpE := (fun u => w_X0 B)) (t0 := (1 : Int32)) C dX0_isWrong_26 (by rfl) (by rfl) (by rfl) (by rfl)
    · refine r_lv [(0, .ref 50), (2, .int u1)] [2, 1] rfl ?_
      exact k_X0_isWrong_27 C B a1   u1
set_option maxRecDepth 100000 in
set_option maxHeartbeats 4000000 in
theorem o_X0_setCast (l : Launch) (B : q_St) (a1 : Int32) (a2 : Int32) : q_Ok l yX0_setCast cX0_setCast 3 none 1 21 [.ref 50, .int a1, .int a2] (w_X0 B) (f_X0_setCast B a1 a2) (fun _ => none) (fun u => w_X0 u) := by
  refine q_enter (by decide +kernel) (Nat.le_of_ble_eq_true rfl) (fun t p e s m args below meth c dC dI dA A α C => ?_)
  refine r_cut (f_X0_setCast.eq_1 _ _ _) ?_
  show q_S p l e (q_rm 1 21) s m args below meth c 3 dC dI dA A α (MQ below (q_Q α dC dI dA A ((fun _ => none) t) ((fun u => w_X0 u) t)) args s 0 0 A) 0 0 _ t 0 [(0, .ref 50), (1, .int a1), (2, .int a2)] [] (w_X0 B)
  refine r_aload_n C 0 dX0_setCast_0 rfl ?_
  refine r_iload_n C 1 dX0_setCast_1 rfl ?_
  refine r_callV0 C (o_X0_isBeat l B a1) v_X0_isBeat m_313 [.int a1] [] (50) (Or.inl ⟨0, 0, _, TX0, 16, rfl, rfl, rfl⟩) (fun u1 => [.int u1]) (fun u1 => w_X0 B) rfl rfl rfl (Nat.le_of_ble_eq_true rfl) ⟨(Nat.le_of_ble_eq_true rfl), (Nat.le_of_ble_eq_true rfl)⟩ ⟨Nat.zero_le _, Nat.zero_le _⟩ dX0_setCast_2 (fun _ => rfl) (fun _ => rfl) (fun _ => rfl) (fun u1 => ?_)
  refine r_if_eq C 15 dX0_setCast_5 (by decide) (fun h5 => ?_) (fun h5 => ?_)
  · exact r_retv (rv := (fun _ => none)) (hpE := (fun u => w_X0 u)) (t0 := B) C dX0_setCast_15 (by rfl) (by rfl) (by rfl)
  · refine r_aload_n C 0 dX0_setCast_8 rfl ?_
    refine r_get C 0 13 dX0_setCast_9 K_X0 rfl rfl (Nat.le_of_ble_eq_true rfl) rfl m_59 rfl ?_
    refine r_iload_n C 1 dX0_setCast_12 rfl ?_
    refine r_iload_n C 2 dX0_setCast_13 rfl ?_
    refine r_iast C 4 _ dX0_setCast_14 rfl rfl rfl (fun hi14 => ?_)
    exact r_retv (rv := (fun _ => none)) (hpE := (fun u => w_X0 u)) (t0 := (B.1, (va_up B.2 13 (upd (B.2 13) a1.toNatClampNeg a2)))) C dX0_setCast_15 (by rfl) (by rfl) (by rfl)
set_option maxRecDepth 100000 in
set_option maxHeartbeats 4000000 in
theorem o_X0_setSpeaker (l : Launch) (B : q_St) (a1 : Int32) (a2 : Int32) : q_Ok l yX0_setSpeaker cX0_setSpeaker 3 none 1 21 [.ref 50, .int a1, .int a2] (w_X0 B) (f_X0_setSpeaker B a1 a2) (fun _ => none) (fun u => w_X0 u) := by
  refine q_enter (by decide +kernel) (Nat.le_of_ble_eq_true rfl) (fun t p e s m args below meth c dC dI dA A α C => ?_)
  refine r_cut (f_X0_setSpeaker.eq_1 _ _ _) ?_
  show q_S p l e (q_rm 1 21) s m args below meth c 3 dC dI dA A α (MQ below (q_Q α dC dI dA A ((fun _ => none) t) ((fun u => w_X0 u) t)) args s 0 0 A) 0 0 _ t 0 [(0, .ref 50), (1, .int a1), (2, .int a2)] [] (w_X0 B)
  refine r_aload_n C 0 dX0_setSpeaker_0 rfl ?_
  refine r_iload_n C 1 dX0_setSpeaker_1 rfl ?_
  refine r_callV0 C (o_X0_isBeat l B a1) v_X0_isBeat m_313 [.int a1] [] (50) (Or.inl ⟨0, 0, _, TX0, 16, rfl, rfl, rfl⟩) (fun u1 => [.int u1]) (fun u1 => w_X0 B) rfl rfl rfl (Nat.le_of_ble_eq_true rfl) ⟨(Nat.le_of_ble_eq_true rfl), (Nat.le_of_ble_eq_true rfl)⟩ ⟨Nat.zero_le _, Nat.zero_le _⟩ dX0_setSpeaker_2 (fun _ => rfl) (fun _ => rfl) (fun _ => rfl) (fun u1 => ?_)
  refine r_if_eq C 15 dX0_setSpeaker_5 (by decide) (fun h5 => ?_) (fun h5 => ?_)
  · exact r_retv (rv := (fun _ => none)) (hpE := (fun u => w_X0 u)) (t0 := B) C dX0_setSpeaker_15 (by rfl) (by rfl) (by rfl)
  · refine r_aload_n C 0 dX0_setSpeaker_8 rfl ?_
    refine r_get C 0 14 dX0_setSpeaker_9 K_X0 rfl rfl (Nat.le_of_ble_eq_true rfl) rfl m_60 rfl ?_
    refine r_iload_n C 1 dX0_setSpeaker_12 rfl ?_
    refine r_iload_n C 2 dX0_setSpeaker_13 rfl ?_
    refine r_iast C 5 _ dX0_setSpeaker_14 rfl rfl rfl (fun hi14 => ?_)
    exact r_retv (rv := (fun _ => none)) (hpE := (fun u => w_X0 u)) (t0 := (B.1, (va_up B.2 14 (upd (B.2 14) a1.toNatClampNeg a2)))) C dX0_setSpeaker_15 (by rfl) (by rfl) (by rfl)
set_option maxRecDepth 100000 in
set_option maxHeartbeats 4000000 in
theorem k_X0_dropBeat_11 {p : Program} {l : Launch} {e : Env} {s : State} {m : MethodId} {args : Array Value} {below : List Frame} {meth : Method} {c : Code} {dC : Nat → ClassId} {dI : Nat → Nat → Nat} {dA : Nat → ClassId} {A : Nat → Prop} {α : Nat → Nat} {t : q_St} (C : q_Cx p s m args meth c cX0_dropBeat 3 RX0 none "dropBeat" dC dI dA A α) (B : q_St) (a1 : Int32)  : ∀ (n : Nat) (x2 : Int32) (B' : q_St), q_S p l e (q_rm 2 43) s m args below meth c 3 dC dI dA A α (MQ below (q_Q α dC dI dA A ((fun _ => none) t) ((fun u => w_X0 u) t)) args s 0 0 A) 0 0 (f_X0_dropBeat_11 B a1  n x2 B') t 11 [(0, .ref 50), (2, .int x2)] [] (w_X0 B') := by
  intro n
  induction n with
  | zero =>
    intro x2 B'
    exact r_cut (f_X0_dropBeat_11.eq_1 _ _ _ _) (r_none True.intro)
  | succ n ih =>
    intro x2 B'
    refine r_cut (f_X0_dropBeat_11.eq_2 _ _ _ _ _) ?_
    refine r_iload_n C 1 dX0_dropBeat_11 rfl ?_
    refine r_aload_n C 0 dX0_dropBeat_12 rfl ?_
    refine r_get C 0 1 dX0_dropBeat_13 K_X0 rfl rfl (Nat.le_of_ble_eq_true rfl) rfl m_34 rfl ?_
    refine r_iconst C (1) dX0_dropBeat_16 rfl ?_
    refine r_isub C dX0_dropBeat_17 ?_
    refine r_icmp_ge C 51 dX0_dropBeat_18 (by decide) (fun h18 => ?_) (fun h18 => ?_)
    · refine r_aload_n C 0 dX0_dropBeat_51 rfl ?_
      refine r_dup C dX0_dropBeat_52 rfl ?_
      refine r_get C 0 1 dX0_dropBeat_53 K_X0 rfl rfl (Nat.le_of_ble_eq_true rfl) rfl m_34 rfl ?_
      refine r_iconst C (1) dX0_dropBeat_56 rfl ?_
      refine r_isub C dX0_dropBeat_57 ?_
      refine r_put C 0 1 _ dX0_dropBeat_58 K_X0 rfl rfl (Nat.le_of_ble_eq_true rfl) rfl m_34 rfl (fun _ => rfl) (fun _ => rfl) (Nat.le_of_ble_eq_true rfl) rfl ?_
      exact r_retv (rv := (fun _ => none)) (hpE := (fun u => w_X0 u)) (t0 := ((va_up B'.1 1 (B'.1 1 - (1 : Int32))), B'.2)) C dX0_dropBeat_61 (by rfl) (by rfl) (by rfl)
    · refine r_aload_n C 0 dX0_dropBeat_21 rfl ?_
      refine r_iload_n C 1 dX0_dropBeat_22 rfl ?_
      refine r_aload_n C 0 dX0_dropBeat_23 rfl ?_
      refine r_iload_n C 1 dX0_dropBeat_24 rfl ?_
      refine r_iconst C (1) dX0_dropBeat_25 rfl ?_
      refine r_iadd C dX0_dropBeat_26 ?_
      refine r_callV0 C (o_X0_castOf l B' (x2 + (1 : Int32))) v_X0_castOf m_322 [.int (x2 + (1 : Int32))] [.int x2, .ref 50] (50) (Or.inl ⟨0, 0, _, TX0, 16, rfl, rfl, rfl⟩) (fun u2 => [.int u2, .int x2, .ref 50]) (fun u2 => w_X0 B') rfl rfl rfl (Nat.le_of_ble_eq_true rfl) ⟨(Nat.le_of_ble_eq_true rfl), (Nat.le_of_ble_eq_true rfl)⟩ ⟨Nat.zero_le _, Nat.zero_le _⟩ dX0_dropBeat_27 (fun _ => rfl) (fun _ => rfl) (fun _ => rfl) (fun u2 => ?_)
      refine r_callV0 C (o_X0_setCast l B' x2 u2) v_X0_setCast m_361 [.int x2, .int u2] [] (50) (Or.inl ⟨0, 0, _, TX0, 16, rfl, rfl, rfl⟩) (fun u3 => []) (fun u3 => w_X0 u3) rfl rfl rfl (Nat.le_of_ble_eq_true rfl) ⟨(Nat.le_of_ble_eq_true rfl), (Nat.le_of_ble_eq_true rfl)⟩ ⟨Nat.zero_le _, Nat.zero_le _⟩ dX0_dropBeat_30 (fun _ => rfl) (fun _ => rfl) (fun _ => rfl) (fun u3 => ?_)
      refine r_aload_n C 0 dX0_dropBeat_33 rfl ?_
      refine r_iload_n C 1 dX0_dropBeat_34 rfl ?_
      refine r_aload_n C 0 dX0_dropBeat_35 rfl ?_
      refine r_iload_n C 1 dX0_dropBeat_36 rfl ?_
      refine r_iconst C (1) dX0_dropBeat_37 rfl ?_
      refine r_iadd C dX0_dropBeat_38 ?_
      refine r_callV0 C (o_X0_speakerOf l u3 (x2 + (1 : Int32))) v_X0_speakerOf m_323 [.int (x2 + (1 : Int32))] [.int x2, .ref 50] (50) (Or.inl ⟨0, 0, _, TX0, 16, rfl, rfl, rfl⟩) (fun u4 => [.int u4, .int x2, .ref 50]) (fun u4 => w_X0 u3) rfl rfl rfl (Nat.le_of_ble_eq_true rfl) ⟨(Nat.le_of_ble_eq_true rfl), (Nat.le_of_ble_eq_true rfl)⟩ ⟨Nat.zero_le _, Nat.zero_le _⟩ dX0_dropBeat_39 (fun _ => rfl) (fun _ => rfl) (fun _ => rfl) (fun u4 => ?_)
      refine r_callV0 C (o_X0_setSpeaker l u3 x2 u4) v_X0_setSpeaker m_362 [.int x2, .int u4] [] (50) (Or.inl ⟨0, 0, _, TX0, 16, rfl, rfl, rfl⟩) (fun u5 => []) (fun u5 => w_X0 u5) rfl rfl rfl (Nat.le_of_ble_eq_true rfl) ⟨(Nat.le_of_ble_eq_true rfl), (Nat.le_of_ble_eq_true rfl)⟩ ⟨Nat.zero_le _, Nat.zero_le _⟩ dX0_dropBeat_42 (fun _ => rfl) (fun _ => rfl) (fun _ => rfl) (fun u5 => ?_)
      refine r_iinc C 1 (x2 + 1) [(2, .int (x2 + 1)), (0, .ref 50)] dX0_dropBeat_45 rfl rfl (Nat.le_of_ble_eq_true rfl) rfl ?_
      refine r_goto C 11 dX0_dropBeat_48 (by decide) ?_
      refine r_lv [(0, .ref 50), (2, .int (x2 + 1))] [1, 0] rfl ?_
      exact ih (x2 + 1) u5
set_option maxRecDepth 100000 in
set_option maxHeartbeats 4000000 in
theorem o_X0_dropBeat (l : Launch) (B : q_St) (a1 : Int32) : q_Ok l yX0_dropBeat cX0_dropBeat 3 none 2 43 [.ref 50, .int a1] (w_X0 B) (f_X0_dropBeat B a1) (fun _ => none) (fun u => w_X0 u) := by
  refine q_enter (by decide +kernel) (Nat.le_of_ble_eq_true rfl) (fun t p e s m args below meth c dC dI dA A α C => ?_)
  refine r_cut (f_X0_dropBeat.eq_1 _ _) ?_
  show q_S p l e (q_rm 2 43) s m args below meth c 3 dC dI dA A α (MQ below (q_Q α dC dI dA A ((fun _ => none) t) ((fun u => w_X0 u) t)) args s 0 0 A) 0 0 _ t 0 [(0, .ref 50), (1, .int a1)] [] (w_X0 B)
  refine r_aload_n C 0 dX0_dropBeat_0 rfl ?_
  refine r_iload_n C 1 dX0_dropBeat_1 rfl ?_
  refine r_callV0 C (o_X0_isBeat l B a1) v_X0_isBeat m_313 [.int a1] [] (50) (Or.inl ⟨0, 0, _, TX0, 16, rfl, rfl, rfl⟩) (fun u1 => [.int u1]) (fun u1 => w_X0 B) rfl rfl rfl (Nat.le_of_ble_eq_true rfl) ⟨(Nat.le_of_ble_eq_true rfl), (Nat.le_of_ble_eq_true rfl)⟩ ⟨Nat.zero_le _, Nat.zero_le _⟩ dX0_dropBeat_2 (fun _ => rfl) (fun _ => rfl) (fun _ => rfl) (fun u1 => ?_)
  refine r_if_ne C 9 dX0_dropBeat_5 (by decide) (fun h5 => ?_) (fun h5 => ?_)
  · exact r_retv (rv := (fun _ => none)) (hpE := (fun u => w_X0 u)) (t0 := B) C dX0_dropBeat_8 (by rfl) (by rfl) (by rfl)
  · refine r_iload_n C 1 dX0_dropBeat_9 rfl ?_
    refine r_istore_n C [(2, .int a1), (0, .ref 50), (1, .int a1)] dX0_dropBeat_10 (Nat.le_of_ble_eq_true rfl) rfl ?_
    refine r_lv [(0, .ref 50), (2, .int a1)] [1, 0] rfl ?_
    exact k_X0_dropBeat_11 C B a1   q_N a1 B
set_option maxRecDepth 100000 in
set_option maxHeartbeats 4000000 in
theorem k_X0_wrongBeats_4 {p : Program} {l : Launch} {e : Env} {s : State} {m : MethodId} {args : Array Value} {below : List Frame} {meth : Method} {c : Code} {dC : Nat → ClassId} {dI : Nat → Nat → Nat} {dA : Nat → ClassId} {A : Nat → Prop} {α : Nat → Nat} {t : Int32} (C : q_Cx p s m args meth c cX0_wrongBeats 3 RX0 (some .int) "wrongBeats" dC dI dA A α) (B : q_St)  : ∀ (n : Nat) (x1 : Int32) (x2 : Int32), q_S p l e (q_rm 4 89) s m args below meth c 3 dC dI dA A α (MQ below (q_Q α dC dI dA A ((fun u => some (.int u)) t) ((fun u => w_X0 B) t)) args s 0 0 A) 0 0 (f_X0_wrongBeats_4 B  n x1 x2) t 4 [(0, .ref 50), (1, .int x1), (2, .int x2)] [] (w_X0 B) := by
  intro n
  induction n with
  | zero =>
    intro x1 x2
    exact r_cut (f_X0_wrongBeats_4.eq_1 _ _ _) (r_none True.intro)
  | succ n ih =>
    intro x1 x2
    refine r_cut (f_X0_wrongBeats_4.eq_2 _ _ _ _) ?_
    refine r_iload_n C 2 dX0_wrongBeats_4 rfl ?_
    refine r_aload_n C 0 dX0_wrongBeats_5 rfl ?_
    refine r_get C 0 1 dX0_wrongBeats_6 K_X0 rfl rfl (Nat.le_of_ble_eq_true rfl) rfl m_34 rfl ?_
    refine r_icmp_ge C 32 dX0_wrongBeats_9 (by decide) (fun h9 => ?_) (fun h9 => ?_)
    · refine r_iload_n C 1 dX0_wrongBeats_32 rfl ?_
      exact r_reti (x := x1) (rv := (fun u => some (.int u))) (hpE := (fun u => w_X0 B)) (t0 := x1) C dX0_wrongBeats_33 (by rfl) (by rfl) (by rfl)
    · refine r_aload_n C 0 dX0_wrongBeats_12 rfl ?_
      refine r_iload_n C 2 dX0_wrongBeats_13 rfl ?_
      refine r_callV0 C (o_X0_isWrong l B x2) v_X0_isWrong m_371 [.int x2] [] (50) (Or.inl ⟨0, 0, _, TX0, 16, rfl, rfl, rfl⟩) (fun u1 => [.int u1]) (fun u1 => w_X0 B) rfl rfl rfl (Nat.le_of_ble_eq_true rfl) ⟨(Nat.le_of_ble_eq_true rfl), (Nat.le_of_ble_eq_true rfl)⟩ ⟨Nat.zero_le _, Nat.zero_le _⟩ dX0_wrongBeats_14 (fun _ => rfl) (fun _ => rfl) (fun _ => rfl) (fun u1 => ?_)
      refine r_if_eq C 26 dX0_wrongBeats_17 (by decide) (fun h17 => ?_) (fun h17 => ?_)
      · refine r_iinc C 2 (x2 + 1) [(2, .int (x2 + 1)), (0, .ref 50), (1, .int x1)] dX0_wrongBeats_26 rfl rfl (Nat.le_of_ble_eq_true rfl) rfl ?_
        refine r_goto C 4 dX0_wrongBeats_29 (by decide) ?_
        refine r_lv [(0, .ref 50), (1, .int x1), (2, .int (x2 + 1))] [1, 2, 0] rfl ?_
        exact ih x1 (x2 + 1)
      · refine r_iload_n C 1 dX0_wrongBeats_20 rfl ?_
        refine r_iconst C (1) dX0_wrongBeats_21 rfl ?_
        refine r_iload_n C 2 dX0_wrongBeats_22 rfl ?_
        refine r_ishl C dX0_wrongBeats_23 ?_
        refine r_ior C dX0_wrongBeats_24 ?_
        refine r_istore_n C [(1, .int (x1 ||| ((1 : Int32) <<< (x2 &&& 31)))), (0, .ref 50), (2, .int x2)] dX0_wrongBeats_25 (Nat.le_of_ble_eq_true rfl) rfl ?_
        refine r_iinc C 2 (x2 + 1) [(2, .int (x2 + 1)), (1, .int (x1 ||| ((1 : Int32) <<< (x2 &&& 31)))), (0, .ref 50)] dX0_wrongBeats_26 rfl rfl (Nat.le_of_ble_eq_true rfl) rfl ?_
        refine r_goto C 4 dX0_wrongBeats_29 (by decide) ?_
        refine r_lv [(0, .ref 50), (1, .int (x1 ||| ((1 : Int32) <<< (x2 &&& 31)))), (2, .int (x2 + 1))] [2, 1, 0] rfl ?_
        exact ih (x1 ||| ((1 : Int32) <<< (x2 &&& 31))) (x2 + 1)
set_option maxRecDepth 100000 in
set_option maxHeartbeats 4000000 in
theorem o_X0_wrongBeats (l : Launch) (B : q_St) : q_Ok l yX0_wrongBeats cX0_wrongBeats 3 (some .int) 4 89 [.ref 50] (w_X0 B) (f_X0_wrongBeats B) (fun u => some (.int u)) (fun u => w_X0 B) := by
  refine q_enter (by decide +kernel) (Nat.le_of_ble_eq_true rfl) (fun t p e s m args below meth c dC dI dA A α C => ?_)
  refine r_cut (f_X0_wrongBeats.eq_1 _) ?_
  show q_S p l e (q_rm 4 89) s m args below meth c 3 dC dI dA A α (MQ below (q_Q α dC dI dA A ((fun u => some (.int u)) t) ((fun u => w_X0 B) t)) args s 0 0 A) 0 0 _ t 0 [(0, .ref 50)] [] (w_X0 B)
  refine r_iconst C (0) dX0_wrongBeats_0 rfl ?_
  refine r_istore_n C [(1, .int (0 : Int32)), (0, .ref 50)] dX0_wrongBeats_1 (Nat.le_of_ble_eq_true rfl) rfl ?_
  refine r_iconst C (0) dX0_wrongBeats_2 rfl ?_
  refine r_istore_n C [(2, .int (0 : Int32)), (1, .int (0 : Int32)), (0, .ref 50)] dX0_wrongBeats_3 (Nat.le_of_ble_eq_true rfl) rfl ?_
  refine r_lv [(0, .ref 50), (1, .int (0 : Int32)), (2, .int (0 : Int32))] [2, 1, 0] rfl ?_
  exact k_X0_wrongBeats_4 C B   q_N (0 : Int32) (0 : Int32)
set_option maxRecDepth 100000 in
set_option maxHeartbeats 4000000 in
theorem o_X0_inHand (l : Launch) (B : q_St) (a1 : Int32) : q_Ok l yX0_inHand cX0_inHand 2 (some .int) 0 0 [.ref 50, .int a1] (w_X0 B) (f_X0_inHand B a1) (fun u => some (.int u)) (fun u => w_X0 B) := by
  refine q_enter (by decide +kernel) (Nat.le_of_ble_eq_true rfl) (fun t p e s m args below meth c dC dI dA A α C => ?_)
  refine r_cut (f_X0_inHand.eq_1 _ _) ?_
  show q_S p l e (q_rm 0 0) s m args below meth c 2 dC dI dA A α (MQ below (q_Q α dC dI dA A ((fun u => some (.int u)) t) ((fun u => w_X0 B) t)) args s 0 0 A) 0 0 _ t 0 [(0, .ref 50), (1, .int a1)] [] (w_X0 B)
  refine r_iload_n C 1 dX0_inHand_0 rfl ?_
  refine r_if_ne C 11 dX0_inHand_1 (by decide) (fun h1 => ?_) (fun h1 => ?_)
  · refine r_aload_n C 0 dX0_inHand_4 rfl ?_
    refine r_get C 0 2 dX0_inHand_5 K_X0 rfl rfl (Nat.le_of_ble_eq_true rfl) rfl m_37 rfl ?_
    refine r_goto C 15 dX0_inHand_8 (by decide) ?_
    exact r_reti (x := B.1 2) (rv := (fun u => some (.int u))) (hpE := (fun u => w_X0 B)) (t0 := (B.1 2)) C dX0_inHand_15 (by rfl) (by rfl) (by rfl)
  · refine r_aload_n C 0 dX0_inHand_11 rfl ?_
    refine r_get C 0 3 dX0_inHand_12 K_X0 rfl rfl (Nat.le_of_ble_eq_true rfl) rfl m_40 rfl ?_
    exact r_reti (x := B.1 3) (rv := (fun u => some (.int u))) (hpE := (fun u => w_X0 B)) (t0 := (B.1 3)) C dX0_inHand_15 (by rfl) (by rfl) (by rfl)
set_option maxRecDepth 100000 in
set_option maxHeartbeats 4000000 in
theorem o_X0_price (l : Launch) (B : q_St) (a1 : Int32) (a2 : Int32) : q_Ok l yX0_price cX0_price 3 (some .int) 2 42 [.ref 50, .int a1, .int a2] (w_X0 B) (f_X0_price B a1 a2) (fun u => some (.int u)) (fun u => w_X0 B) := by
  refine q_enter (by decide +kernel) (Nat.le_of_ble_eq_true rfl) (fun t p e s m args below meth c dC dI dA A α C => ?_)
  refine r_cut (f_X0_price.eq_1 _ _ _) ?_
  show q_S p l e (q_rm 2 42) s m args below meth c 3 dC dI dA A α (MQ below (q_Q α dC dI dA A ((fun u => some (.int u)) t) ((fun u => w_X0 B) t)) args s 0 0 A) 0 0 _ t 0 [(0, .ref 50), (1, .int a1), (2, .int a2)] [] (w_X0 B)
  refine r_iload_n C 2 dX0_price_0 rfl ?_
  refine r_if_eq C 9 dX0_price_1 (by decide) (fun h1 => ?_) (fun h1 => ?_)
  · refine r_iconst C (1) dX0_price_9 rfl ?_
    exact r_reti (x := (1 : Int32)) (rv := (fun u => some (.int u))) (hpE := (fun u => w_X0 B)) (t0 := (1 : Int32)) C dX0_price_10 (by rfl) (by rfl) (by rfl)
  · refine r_iload_n C 1 dX0_price_4 rfl ?_
    refine r_iconst C (-1) dX0_price_5 rfl ?_
    refine r_icmp_ne C 11 dX0_price_6 (by decide) (fun h6 => ?_) (fun h6 => ?_)
    · refine r_iconst C (1) dX0_price_9 rfl ?_
      exact r_reti (x := (1 : Int32)) (rv := (fun u => some (.int u))) (hpE := (fun u => w_X0 B)) (t0 := (1 : Int32)) C dX0_price_10 (by rfl) (by rfl) (by rfl)
    · refine r_aload_n C 0 dX0_price_11 rfl ?_
      refine r_iload_n C 1 dX0_price_12 rfl ?_
      refine r_callV0 C (o_X0_onOf l B a1) v_X0_onOf m_397 [.int a1] [] (50) (Or.inl ⟨0, 0, _, TX0, 16, rfl, rfl, rfl⟩) (fun u1 => [.int u1]) (fun u1 => w_X0 B) rfl rfl rfl (Nat.le_of_ble_eq_true rfl) ⟨(Nat.le_of_ble_eq_true rfl), (Nat.le_of_ble_eq_true rfl)⟩ ⟨Nat.zero_le _, Nat.zero_le _⟩ dX0_price_13 (fun _ => rfl) (fun _ => rfl) (fun _ => rfl) (fun u1 => ?_)
      refine r_aload_n C 0 dX0_price_16 rfl ?_
      refine r_iload_n C 1 dX0_price_17 rfl ?_
      refine r_callV0 C (o_X0_hookOf l B a1) v_X0_hookOf m_398 [.int a1] [.int u1] (50) (Or.inl ⟨0, 0, _, TX0, 16, rfl, rfl, rfl⟩) (fun u2 => [.int u2, .int u1]) (fun u2 => w_X0 B) rfl rfl rfl (Nat.le_of_ble_eq_true rfl) ⟨(Nat.le_of_ble_eq_true rfl), (Nat.le_of_ble_eq_true rfl)⟩ ⟨Nat.zero_le _, Nat.zero_le _⟩ dX0_price_18 (fun _ => rfl) (fun _ => rfl) (fun _ => rfl) (fun u2 => ?_)
      refine r_iadd C dX0_price_21 ?_
      exact r_reti (x := (u1 + u2)) (rv := (fun u => some (.int u))) (hpE := (fun u => w_X0 B)) (t0 := (u1 + u2)) C dX0_price_22 (by rfl) (by rfl) (by rfl)
set_option maxRecDepth 100000 in
set_option maxHeartbeats 4000000 in
theorem k_X0_putInHand_30 {p : Program} {l : Launch} {e : Env} {s : State} {m : MethodId} {args : Array Value} {below : List Frame} {meth : Method} {c : Code} {dC : Nat → ClassId} {dI : Nat → Nat → Nat} {dA : Nat → ClassId} {A : Nat → Prop} {α : Nat → Nat} {t : Int32 × q_St} (C : q_Cx p s m args meth c cX0_putInHand 5 RX0 (some .int) "putInHand" dC dI dA A α) (B : q_St) (a1 : Int32) (a2 : Int32)  : ∀ (x2 : Int32) (B' : q_St), q_S p l e (q_rm 3 64) s m args below meth c 5 dC dI dA A α (MQ below (q_Q α dC dI dA A ((fun u => some (.int u.1)) t) ((fun u => w_X0 u.2) t)) args s 0 0 A) 0 0 (f_X0_putInHand_30 B a1 a2  x2 B') t 30 [(0, .ref 50), (2, .int x2)] [] (w_X0 B') := by
  intro x2 B'
  refine r_cut (f_X0_putInHand_30.eq_1 _ _ _ _ _) ?_
  refine r_aload_n C 0 dX0_putInHand_30 rfl ?_
  refine r_iload_n C 1 dX0_putInHand_31 rfl ?_
  refine r_iconst C (1) dX0_putInHand_32 rfl ?_
  refine r_callV0 C (o_X0_price l B' x2 (1 : Int32)) v_X0_price m_393 [.int x2, .int (1 : Int32)] [] (50) (Or.inl ⟨0, 0, _, TX0, 16, rfl, rfl, rfl⟩) (fun u2 => [.int u2]) (fun u2 => w_X0 B') rfl rfl rfl (Nat.le_of_ble_eq_true rfl) ⟨(Nat.le_of_ble_eq_true rfl), (Nat.le_of_ble_eq_true rfl)⟩ ⟨Nat.zero_le _, Nat.zero_le _⟩ dX0_putInHand_33 (fun _ => rfl) (fun _ => rfl) (fun _ => rfl) (fun u2 => ?_)
  refine r_istore C [(4, .int u2), (0, .ref 50), (2, .int x2)] dX0_putInHand_36 (Nat.le_of_ble_eq_true rfl) rfl ?_
  refine r_aload_n C 1 dX0_putInHand_38 rfl ?_
  refine r_dup C dX0_putInHand_39 rfl ?_
  refine r_get C 0 6 dX0_putInHand_40 K_X0 rfl rfl (Nat.le_of_ble_eq_true rfl) rfl m_48 rfl ?_
  refine r_iconst C (1) dX0_putInHand_43 rfl ?_
  refine r_iadd C dX0_putInHand_44 ?_
  refine r_put C 0 6 _ dX0_putInHand_45 K_X0 rfl rfl (Nat.le_of_ble_eq_true rfl) rfl m_48 rfl (fun _ => rfl) (fun _ => rfl) (Nat.le_of_ble_eq_true rfl) rfl ?_
  refine r_aload_n C 1 dX0_putInHand_48 rfl ?_
  refine r_dup C dX0_putInHand_49 rfl ?_
  refine r_get C 0 7 dX0_putInHand_50 K_X0 rfl rfl (Nat.le_of_ble_eq_true rfl) rfl m_50 rfl ?_
  refine r_iload C 0 dX0_putInHand_53 rfl ?_
  refine r_iadd C dX0_putInHand_55 ?_
  refine r_put C 0 7 _ dX0_putInHand_56 K_X0 rfl rfl (Nat.le_of_ble_eq_true rfl) rfl m_50 rfl (fun _ => rfl) (fun _ => rfl) (Nat.le_of_ble_eq_true rfl) rfl ?_
  refine r_iload C 0 dX0_putInHand_59 rfl ?_
  exact r_reti (x := u2) (rv := (fun u => some (.int u.1))) (hpE := (fun u => w_X0 u.2)) (t0 := (u2, ((va_up (va_up B'.1 6 (B'.1 6 + (1 : Int32))) 7 (B'.1 7 + u2)), B'.2))) C dX0_putInHand_61 (by rfl) (by rfl) (by rfl)
set_option maxRecDepth 100000 in
set_option maxHeartbeats 4000000 in
theorem o_X0_putInHand (l : Launch) (B : q_St) (a1 : Int32) (a2 : Int32) : q_Ok l yX0_putInHand cX0_putInHand 5 (some .int) 3 64 [.ref 50, .int a1, .int a2] (w_X0 B) (f_X0_putInHand B a1 a2) (fun u => some (.int u.1)) (fun u => w_X0 u.2) := by
  refine q_enter (by decide +kernel) (Nat.le_of_ble_eq_true rfl) (fun t p e s m args below meth c dC dI dA A α C => ?_)
  refine r_cut (f_X0_putInHand.eq_1 _ _ _) ?_
  show q_S p l e (q_rm 3 64) s m args below meth c 5 dC dI dA A α (MQ below (q_Q α dC dI dA A ((fun u => some (.int u.1)) t) ((fun u => w_X0 u.2) t)) args s 0 0 A) 0 0 _ t 0 [(0, .ref 50), (1, .int a1), (2, .int a2)] [] (w_X0 B)
  refine r_aload_n C 0 dX0_putInHand_0 rfl ?_
  refine r_iload_n C 1 dX0_putInHand_1 rfl ?_
  refine r_callV0 C (o_X0_inHand l B a1) v_X0_inHand m_392 [.int a1] [] (50) (Or.inl ⟨0, 0, _, TX0, 16, rfl, rfl, rfl⟩) (fun u1 => [.int u1]) (fun u1 => w_X0 B) rfl rfl rfl (Nat.le_of_ble_eq_true rfl) ⟨(Nat.le_of_ble_eq_true rfl), (Nat.le_of_ble_eq_true rfl)⟩ ⟨Nat.zero_le _, Nat.zero_le _⟩ dX0_putInHand_2 (fun _ => rfl) (fun _ => rfl) (fun _ => rfl) (fun u1 => ?_)
  refine r_istore_n C [(3, .int u1), (0, .ref 50), (1, .int a1), (2, .int a2)] dX0_putInHand_5 (Nat.le_of_ble_eq_true rfl) rfl ?_
  refine r_iload_n C 0 dX0_putInHand_6 rfl ?_
  refine r_iload_n C 3 dX0_putInHand_7 rfl ?_
  refine r_icmp_ne C 13 dX0_putInHand_8 (by decide) (fun h8 => ?_) (fun h8 => ?_)
  · refine r_iconst C (0) dX0_putInHand_11 rfl ?_
    exact r_reti (x := (0 : Int32)) (rv := (fun u => some (.int u.1))) (hpE := (fun u => w_X0 u.2)) (t0 := ((0 : Int32), B)) C dX0_putInHand_12 (by rfl) (by rfl) (by rfl)
  · refine r_iload_n C 2 dX0_putInHand_13 rfl ?_
    refine r_if_ne C 25 dX0_putInHand_14 (by decide) (fun h14 => ?_) (fun h14 => ?_)
    · refine r_aload_n C 1 dX0_putInHand_17 rfl ?_
      refine r_iload_n C 3 dX0_putInHand_18 rfl ?_
      refine r_put C 0 2 _ dX0_putInHand_19 K_X0 rfl rfl (Nat.le_of_ble_eq_true rfl) rfl m_37 rfl (fun _ => rfl) (fun _ => rfl) (Nat.le_of_ble_eq_true rfl) rfl ?_
      refine r_goto C 30 dX0_putInHand_22 (by decide) ?_
      refine r_lv [(0, .ref 50), (2, .int a2)] [1, 3] rfl ?_
      exact k_X0_putInHand_30 C B a1 a2   a2 ((va_up B.1 2 a2), B.2)
    · refine r_aload_n C 1 dX0_putInHand_25 rfl ?_
      refine r_iload_n C 3 dX0_putInHand_26 rfl ?_
      refine r_put C 0 3 _ dX0_putInHand_27 K_X0 rfl rfl (Nat.le_of_ble_eq_true rfl) rfl m_40 rfl (fun _ => rfl) (fun _ => rfl) (Nat.le_of_ble_eq_true rfl) rfl ?_
      refine r_lv [(0, .ref 50), (2, .int a2)] [1, 3] rfl ?_
      exact k_X0_putInHand_30 C B a1 a2   a2 ((va_up B.1 3 a2), B.2)
set_option maxRecDepth 100000 in
set_option maxHeartbeats 4000000 in
theorem k_J6_numberOfTrailingZeros_0f7a4_62 {p : Program} {l : Launch} {e : Env} {s : State} {m : MethodId} {args : Array Value} {below : List Frame} {meth : Method} {c : Code} {dC : Nat → ClassId} {dI : Nat → Nat → Nat} {dA : Nat → ClassId} {A : Nat → Prop} {α : Nat → Nat} {t : Int32} (C : q_Cx p s m args meth c cJ6_numberOfTrailingZeros_0f7a4 2 RJ6 (some .int) "numberOfTrailingZeros" dC dI dA A α) (a1 : Int32)  : ∀ (x0 : Int32) (x1 : Int32), q_S p l e (q_rm 0 0) s m args below meth c 2 dC dI dA A α (MQ below (q_Q α dC dI dA A ((fun u => some (.int u)) t) ((fun _ => []) t)) args s 0 0 A) 0 0 (f_J6_numberOfTrailingZeros_0f7a4_62 a1  x0 x1) t 62 [(0, .int x0), (1, .int x1)] [] ([]) := by
  intro x0 x1
  refine r_cut (f_J6_numberOfTrailingZeros_0f7a4_62.eq_1 _ _ _) ?_
  refine r_iload_n C 0 dJ6_numberOfTrailingZeros_0f7a4_62 rfl ?_
  refine r_iconst C (4) dJ6_numberOfTrailingZeros_0f7a4_63 rfl ?_
  refine r_icmp_le C 74 dJ6_numberOfTrailingZeros_0f7a4_64 (by decide) (fun h64 => ?_) (fun h64 => ?_)
  · refine r_iload_n C 1 dJ6_numberOfTrailingZeros_0f7a4_74 rfl ?_
    refine r_iload_n C 0 dJ6_numberOfTrailingZeros_0f7a4_75 rfl ?_
    refine r_iconst C (1) dJ6_numberOfTrailingZeros_0f7a4_76 rfl ?_
    refine r_iushr C dJ6_numberOfTrailingZeros_0f7a4_77 ?_
    refine r_iadd C dJ6_numberOfTrailingZeros_0f7a4_78 ?_
    exact r_reti (x := (x1 + (x0.toUInt32 >>> ((1 : Int32).toUInt32 &&& Int32.toUInt32 31)).toInt32)) (rv := (fun u => some (.int u))) (hpE := (fun _ => [])) (t0 := (x1 + (x0.toUInt32 >>> ((1 : Int32).toUInt32 &&& Int32.toUInt32 31)).toInt32)) C dJ6_numberOfTrailingZeros_0f7a4_79 (by rfl) (by rfl) (by rfl)
  · refine r_iinc C 1 (x1 + 2) [(1, .int (x1 + 2)), (0, .int x0)] dJ6_numberOfTrailingZeros_0f7a4_67 rfl rfl (Nat.le_of_ble_eq_true rfl) rfl ?_
    refine r_iload_n C 1 dJ6_numberOfTrailingZeros_0f7a4_70 rfl ?_
    refine r_iconst C (2) dJ6_numberOfTrailingZeros_0f7a4_71 rfl ?_
    refine r_iushr C dJ6_numberOfTrailingZeros_0f7a4_72 ?_
    refine r_istore_n C [(0, .int ((x0.toUInt32 >>> ((2 : Int32).toUInt32 &&& Int32.toUInt32 31)).toInt32)), (1, .int (x1 + 2))] dJ6_numberOfTrailingZeros_0f7a4_73 (Nat.le_of_ble_eq_true rfl) rfl ?_
    refine r_iload_n C 1 dJ6_numberOfTrailingZeros_0f7a4_74 rfl ?_
    refine r_iload_n C 0 dJ6_numberOfTrailingZeros_0f7a4_75 rfl ?_
    refine r_iconst C (1) dJ6_numberOfTrailingZeros_0f7a4_76 rfl ?_
    refine r_iushr C dJ6_numberOfTrailingZeros_0f7a4_77 ?_
    refine r_iadd C dJ6_numberOfTrailingZeros_0f7a4_78 ?_
    exact r_reti (x := ((x1 + 2) + (((x0.toUInt32 >>> ((2 : Int32).toUInt32 &&& Int32.toUInt32 31)).toInt32).toUInt32 >>> ((1 : Int32).toUInt32 &&& Int32.toUInt32 31)).toInt32)) (rv := (fun u => some (.int u))) (hpE := (fun _ => [])) (t0 := ((x1 + 2) + (((x0.toUInt32 >>> ((2 : Int32).toUInt32 &&& Int32.toUInt32 31)).toInt32).toUInt32 >>> ((1 : Int32).toUInt32 &&& Int32.toUInt32 31)).toInt32)) C dJ6_numberOfTrailingZeros_0f7a4_79 (by rfl) (by rfl) (by rfl)
set_option maxRecDepth 100000 in
set_option maxHeartbeats 4000000 in
theorem k_J6_numberOfTrailingZeros_0f7a4_34 {p : Program} {l : Launch} {e : Env} {s : State} {m : MethodId} {args : Array Value} {below : List Frame} {meth : Method} {c : Code} {dC : Nat → ClassId} {dI : Nat → Nat → Nat} {dA : Nat → ClassId} {A : Nat → Prop} {α : Nat → Nat} {t : Int32} (C : q_Cx p s m args meth c cJ6_numberOfTrailingZeros_0f7a4 2 RJ6 (some .int) "numberOfTrailingZeros" dC dI dA A α) (a1 : Int32)  : ∀ (x0 : Int32) (x1 : Int32), q_S p l e (q_rm 0 0) s m args below meth c 2 dC dI dA A α (MQ below (q_Q α dC dI dA A ((fun u => some (.int u)) t) ((fun _ => []) t)) args s 0 0 A) 0 0 (f_J6_numberOfTrailingZeros_0f7a4_34 a1  x0 x1) t 34 [(0, .int x0), (1, .int x1)] [] ([]) := by
  intro x0 x1
  refine r_cut (f_J6_numberOfTrailingZeros_0f7a4_34.eq_1 _ _ _) ?_
  refine r_iload_n C 0 dJ6_numberOfTrailingZeros_0f7a4_34 rfl ?_
  refine r_sipush C (256) dJ6_numberOfTrailingZeros_0f7a4_35 rfl ?_
  refine r_icmp_le C 49 dJ6_numberOfTrailingZeros_0f7a4_38 (by decide) (fun h38 => ?_) (fun h38 => ?_)
  · refine r_iload_n C 0 dJ6_numberOfTrailingZeros_0f7a4_49 rfl ?_
    refine r_bipush C (16) dJ6_numberOfTrailingZeros_0f7a4_50 rfl ?_
    refine r_icmp_le C 62 dJ6_numberOfTrailingZeros_0f7a4_52 (by decide) (fun h52 => ?_) (fun h52 => ?_)
    · exact k_J6_numberOfTrailingZeros_0f7a4_62 C a1   x0 x1
    · refine r_iinc C 1 (x1 + 4) [(1, .int (x1 + 4)), (0, .int x0)] dJ6_numberOfTrailingZeros_0f7a4_55 rfl rfl (Nat.le_of_ble_eq_true rfl) rfl ?_
      refine r_iload_n C 1 dJ6_numberOfTrailingZeros_0f7a4_58 rfl ?_
      refine r_iconst C (4) dJ6_numberOfTrailingZeros_0f7a4_59 rfl ?_
      refine r_iushr C dJ6_numberOfTrailingZeros_0f7a4_60 ?_
      refine r_istore_n C [(0, .int ((x0.toUInt32 >>> ((4 : Int32).toUInt32 &&& Int32.toUInt32 31)).toInt32)), (1, .int (x1 + 4))] dJ6_numberOfTrailingZeros_0f7a4_61 (Nat.le_of_ble_eq_true rfl) rfl ?_
      exact k_J6_numberOfTrailingZeros_0f7a4_62 C a1   ((x0.toUInt32 >>> ((4 : Int32).toUInt32 &&& Int32.toUInt32 31)).toInt32) (x1 + 4)
  · refine r_iinc C 1 (x1 + 8) [(1, .int (x1 + 8)), (0, .int x0)] dJ6_numberOfTrailingZeros_0f7a4_41 rfl rfl (Nat.le_of_ble_eq_true rfl) rfl ?_
    refine r_iload_n C 1 dJ6_numberOfTrailingZeros_0f7a4_44 rfl ?_
    refine r_bipush C (8) dJ6_numberOfTrailingZeros_0f7a4_45 rfl ?_
    refine r_iushr C dJ6_numberOfTrailingZeros_0f7a4_47 ?_
    refine r_istore_n C [(0, .int ((x0.toUInt32 >>> ((8 : Int32).toUInt32 &&& Int32.toUInt32 31)).toInt32)), (1, .int (x1 + 8))] dJ6_numberOfTrailingZeros_0f7a4_48 (Nat.le_of_ble_eq_true rfl) rfl ?_
    refine r_iload_n C 0 dJ6_numberOfTrailingZeros_0f7a4_49 rfl ?_
    refine r_bipush C (16) dJ6_numberOfTrailingZeros_0f7a4_50 rfl ?_
    refine r_icmp_le C 62 dJ6_numberOfTrailingZeros_0f7a4_52 (by decide) (fun h52 => ?_) (fun h52 => ?_)
    · exact k_J6_numberOfTrailingZeros_0f7a4_62 C a1   ((x0.toUInt32 >>> ((8 : Int32).toUInt32 &&& Int32.toUInt32 31)).toInt32) (x1 + 8)
    · refine r_iinc C 1 ((x1 + 8) + 4) [(1, .int ((x1 + 8) + 4)), (0, .int ((x0.toUInt32 >>> ((8 : Int32).toUInt32 &&& Int32.toUInt32 31)).toInt32))] dJ6_numberOfTrailingZeros_0f7a4_55 rfl rfl (Nat.le_of_ble_eq_true rfl) rfl ?_
      refine r_iload_n C 1 dJ6_numberOfTrailingZeros_0f7a4_58 rfl ?_
      refine r_iconst C (4) dJ6_numberOfTrailingZeros_0f7a4_59 rfl ?_
      refine r_iushr C dJ6_numberOfTrailingZeros_0f7a4_60 ?_
      refine r_istore_n C [(0, .int ((((x0.toUInt32 >>> ((8 : Int32).toUInt32 &&& Int32.toUInt32 31)).toInt32).toUInt32 >>> ((4 : Int32).toUInt32 &&& Int32.toUInt32 31)).toInt32)), (1, .int ((x1 + 8) + 4))] dJ6_numberOfTrailingZeros_0f7a4_61 (Nat.le_of_ble_eq_true rfl) rfl ?_
      exact k_J6_numberOfTrailingZeros_0f7a4_62 C a1   ((((x0.toUInt32 >>> ((8 : Int32).toUInt32 &&& Int32.toUInt32 31)).toInt32).toUInt32 >>> ((4 : Int32).toUInt32 &&& Int32.toUInt32 31)).toInt32) ((x1 + 8) + 4)
set_option maxRecDepth 100000 in
set_option maxHeartbeats 4000000 in
theorem o_J6_numberOfTrailingZeros_0f7a4 (l : Launch) (a1 : Int32) : q_Ok l yJ6_numberOfTrailingZeros_0f7a4 cJ6_numberOfTrailingZeros_0f7a4 2 (some .int) 0 0 [.int a1] ([]) (f_J6_numberOfTrailingZeros_0f7a4 a1) (fun u => some (.int u)) (fun _ => []) := by
  refine q_enter (by decide +kernel) (Nat.le_of_ble_eq_true rfl) (fun t p e s m args below meth c dC dI dA A α C => ?_)
  refine r_cut (f_J6_numberOfTrailingZeros_0f7a4.eq_1 _) ?_
  show q_S p l e (q_rm 0 0) s m args below meth c 2 dC dI dA A α (MQ below (q_Q α dC dI dA A ((fun u => some (.int u)) t) ((fun _ => []) t)) args s 0 0 A) 0 0 _ t 0 [(0, .int a1)] [] ([])
  refine r_iload_n C 0 dJ6_numberOfTrailingZeros_0f7a4_0 rfl ?_
  refine r_iconst C (-1) dJ6_numberOfTrailingZeros_0f7a4_1 rfl ?_
  refine r_ixor C dJ6_numberOfTrailingZeros_0f7a4_2 ?_
  refine r_iload_n C 0 dJ6_numberOfTrailingZeros_0f7a4_3 rfl ?_
  refine r_iconst C (1) dJ6_numberOfTrailingZeros_0f7a4_4 rfl ?_
  refine r_isub C dJ6_numberOfTrailingZeros_0f7a4_5 ?_
  refine r_iand C dJ6_numberOfTrailingZeros_0f7a4_6 ?_
  refine r_istore_n C [(0, .int ((a1 ^^^ (-1 : Int32)) &&& (a1 - (1 : Int32))))] dJ6_numberOfTrailingZeros_0f7a4_7 (Nat.le_of_ble_eq_true rfl) rfl ?_
  refine r_iload_n C 0 dJ6_numberOfTrailingZeros_0f7a4_8 rfl ?_
  refine r_if_gt C 17 dJ6_numberOfTrailingZeros_0f7a4_9 (by decide) (fun h9 => ?_) (fun h9 => ?_)
  · refine r_iconst C (1) dJ6_numberOfTrailingZeros_0f7a4_17 rfl ?_
    refine r_istore_n C [(1, .int (1 : Int32)), (0, .int ((a1 ^^^ (-1 : Int32)) &&& (a1 - (1 : Int32))))] dJ6_numberOfTrailingZeros_0f7a4_18 (Nat.le_of_ble_eq_true rfl) rfl ?_
    refine r_iload_n C 1 dJ6_numberOfTrailingZeros_0f7a4_19 rfl ?_
    refine r_ldcw C (65536) dJ6_numberOfTrailingZeros_0f7a4_20 m_419 ?_
    refine r_icmp_le C 34 dJ6_numberOfTrailingZeros_0f7a4_23 (by decide) (fun h23 => ?_) (fun h23 => ?_)
    · refine r_lv [(0, .int ((a1 ^^^ (-1 : Int32)) &&& (a1 - (1 : Int32)))), (1, .int (1 : Int32))] [1, 0] rfl ?_
      exact k_J6_numberOfTrailingZeros_0f7a4_34 C a1   ((a1 ^^^ (-1 : Int32)) &&& (a1 - (1 : Int32))) (1 : Int32)
    · refine r_iinc C 0 ((1 : Int32) + 16) [(1, .int ((1 : Int32) + 16)), (0, .int ((a1 ^^^ (-1 : Int32)) &&& (a1 - (1 : Int32))))] dJ6_numberOfTrailingZeros_0f7a4_26 rfl rfl (Nat.le_of_ble_eq_true rfl) rfl ?_
      refine r_iload_n C 1 dJ6_numberOfTrailingZeros_0f7a4_29 rfl ?_
      refine r_bipush C (16) dJ6_numberOfTrailingZeros_0f7a4_30 rfl ?_
      refine r_iushr C dJ6_numberOfTrailingZeros_0f7a4_32 ?_
      refine r_istore_n C [(0, .int ((((a1 ^^^ (-1 : Int32)) &&& (a1 - (1 : Int32))).toUInt32 >>> ((16 : Int32).toUInt32 &&& Int32.toUInt32 31)).toInt32)), (1, .int ((1 : Int32) + 16))] dJ6_numberOfTrailingZeros_0f7a4_33 (Nat.le_of_ble_eq_true rfl) rfl ?_
      exact k_J6_numberOfTrailingZeros_0f7a4_34 C a1   ((((a1 ^^^ (-1 : Int32)) &&& (a1 - (1 : Int32))).toUInt32 >>> ((16 : Int32).toUInt32 &&& Int32.toUInt32 31)).toInt32) ((1 : Int32) + 16)
  · refine r_iload_n C 0 dJ6_numberOfTrailingZeros_0f7a4_12 rfl ?_
    refine r_bipush C (32) dJ6_numberOfTrailingZeros_0f7a4_13 rfl ?_
    refine r_iand C dJ6_numberOfTrailingZeros_0f7a4_15 ?_
    exact r_reti (x := (((a1 ^^^ (-1 : Int32)) &&& (a1 - (1 : Int32))) &&& (32 : Int32))) (rv := (fun u => some (.int u))) (hpE := (fun _ => [])) (t0 := (((a1 ^^^ (-1 : Int32)) &&& (a1 - (1 : Int32))) &&& (32 : Int32))) C dJ6_numberOfTrailingZeros_0f7a4_16 (by rfl) (by rfl) (by rfl)
set_option maxRecDepth 100000 in
set_option maxHeartbeats 4000000 in
theorem k_X0_rightsBeside_35 {p : Program} {l : Launch} {e : Env} {s : State} {m : MethodId} {args : Array Value} {below : List Frame} {meth : Method} {c : Code} {dC : Nat → ClassId} {dI : Nat → Nat → Nat} {dA : Nat → ClassId} {A : Nat → Prop} {α : Nat → Nat} {t : Int32} (C : q_Cx p s m args meth c cX0_rightsBeside 7 RX0 (some .int) "rightsBeside" dC dI dA A α) (B : q_St) (a1 : Int32) (a2 : Int32)  : ∀ (x2 : Int32) (x3 : Int32), q_S p l e (q_rm 2 42) s m args below meth c 7 dC dI dA A α (MQ below (q_Q α dC dI dA A ((fun u => some (.int u)) t) ((fun u => w_X0 B) t)) args s 0 0 A) 0 0 (f_X0_rightsBeside_35 B a1 a2  x2 x3) t 35 [(0, .ref 50), (2, .int x2), (3, .int x3)] [] (w_X0 B) := by
  intro x2 x3
  refine r_cut (f_X0_rightsBeside_35.eq_1 _ _ _ _ _) ?_
  refine r_iload_n C 2 dX0_rightsBeside_35 rfl ?_
  refine r_iload_n C 1 dX0_rightsBeside_36 rfl ?_
  refine r_callS C (o_X0_bit l x2) v_X0_bit m_327 [] [.int x2] [.int x3] (fun u5 => [.int u5, .int x3]) (fun u5 => w_X0 B) rfl rfl rfl rfl rfl (Nat.le_of_ble_eq_true rfl) ⟨(Nat.le_of_ble_eq_true rfl), (Nat.le_of_ble_eq_true rfl)⟩ ⟨Nat.zero_le _, Nat.zero_le _⟩ dX0_rightsBeside_37 (fun _ => rfl) (fun _ => rfl) (fun _ => rfl) (fun u5 => ?_)
  refine r_iconst C (-1) dX0_rightsBeside_40 rfl ?_
  refine r_ixor C dX0_rightsBeside_41 ?_
  refine r_iand C dX0_rightsBeside_42 ?_
  refine r_istore C [(4, .int (x3 &&& (u5 ^^^ (-1 : Int32)))), (0, .ref 50), (2, .int x2), (3, .int x3)] dX0_rightsBeside_43 (Nat.le_of_ble_eq_true rfl) rfl ?_
  refine r_iload C 0 dX0_rightsBeside_45 rfl ?_
  refine r_if_ne C 68 dX0_rightsBeside_47 (by decide) (fun h47 => ?_) (fun h47 => ?_)
  · refine r_iconst C (2) dX0_rightsBeside_50 rfl ?_
    refine r_aload_n C 1 dX0_rightsBeside_51 rfl ?_
    refine r_get C 0 0 dX0_rightsBeside_52 K_X0 rfl rfl (Nat.le_of_ble_eq_true rfl) rfl m_29 rfl ?_
    refine r_ishl C dX0_rightsBeside_55 ?_
    refine r_iconst C (1) dX0_rightsBeside_56 rfl ?_
    refine r_isub C dX0_rightsBeside_57 ?_
    refine r_iconst C (2) dX0_rightsBeside_58 rfl ?_
    refine r_iload_n C 2 dX0_rightsBeside_59 rfl ?_
    refine r_callS C (o_X0_bit l x2) v_X0_bit m_327 [] [.int x2] [.int (2 : Int32), .int (((2 : Int32) <<< (B.1 0 &&& 31)) - (1 : Int32))] (fun u9 => [.int u9, .int (2 : Int32), .int (((2 : Int32) <<< (B.1 0 &&& 31)) - (1 : Int32))]) (fun u9 => w_X0 B) rfl rfl rfl rfl rfl (Nat.le_of_ble_eq_true rfl) ⟨(Nat.le_of_ble_eq_true rfl), (Nat.le_of_ble_eq_true rfl)⟩ ⟨Nat.zero_le _, Nat.zero_le _⟩ dX0_rightsBeside_60 (fun _ => rfl) (fun _ => rfl) (fun _ => rfl) (fun u9 => ?_)
    refine r_imul C dX0_rightsBeside_63 ?_
    refine r_iconst C (-1) dX0_rightsBeside_64 rfl ?_
    refine r_ixor C dX0_rightsBeside_65 ?_
    refine r_iand C dX0_rightsBeside_66 ?_
    exact r_reti (x := ((((2 : Int32) <<< (B.1 0 &&& 31)) - (1 : Int32)) &&& (((2 : Int32) * u9) ^^^ (-1 : Int32)))) (rv := (fun u => some (.int u))) (hpE := (fun u => w_X0 B)) (t0 := ((((2 : Int32) <<< (B.1 0 &&& 31)) - (1 : Int32)) &&& (((2 : Int32) * u9) ^^^ (-1 : Int32)))) C dX0_rightsBeside_67 (by rfl) (by rfl) (by rfl)
  · refine r_iload C 0 dX0_rightsBeside_68 rfl ?_
    refine r_callS C (o_J6_numberOfTrailingZeros_0f7a4 l (x3 &&& (u5 ^^^ (-1 : Int32)))) v_J6_numberOfTrailingZeros_0f7a4 m_416 [] [.int (x3 &&& (u5 ^^^ (-1 : Int32)))] [] (fun u6 => [.int u6]) (fun u6 => w_X0 B) rfl rfl rfl rfl rfl (Nat.le_of_ble_eq_true rfl) ⟨(Nat.le_of_ble_eq_true rfl), (Nat.le_of_ble_eq_true rfl)⟩ ⟨Nat.zero_le _, Nat.zero_le _⟩ dX0_rightsBeside_70 (fun _ => rfl) (fun _ => rfl) (fun _ => rfl) (fun u6 => ?_)
    refine r_istore C [(5, .int u6), (4, .int (x3 &&& (u5 ^^^ (-1 : Int32)))), (0, .ref 50), (2, .int x2), (3, .int x3)] dX0_rightsBeside_73 (Nat.le_of_ble_eq_true rfl) rfl ?_
    refine r_iload C 1 dX0_rightsBeside_75 rfl ?_
    refine r_iload C 0 dX0_rightsBeside_77 rfl ?_
    refine r_callS C (o_X0_bit l u6) v_X0_bit m_327 [] [.int u6] [.int (x3 &&& (u5 ^^^ (-1 : Int32)))] (fun u7 => [.int u7, .int (x3 &&& (u5 ^^^ (-1 : Int32)))]) (fun u7 => w_X0 B) rfl rfl rfl rfl rfl (Nat.le_of_ble_eq_true rfl) ⟨(Nat.le_of_ble_eq_true rfl), (Nat.le_of_ble_eq_true rfl)⟩ ⟨Nat.zero_le _, Nat.zero_le _⟩ dX0_rightsBeside_79 (fun _ => rfl) (fun _ => rfl) (fun _ => rfl) (fun u7 => ?_)
    refine r_icmp_ne C 99 dX0_rightsBeside_82 (by decide) (fun h82 => ?_) (fun h82 => ?_)
    · refine r_aload_n C 2 dX0_rightsBeside_85 rfl ?_
      refine r_iload C 0 dX0_rightsBeside_86 rfl ?_
      refine r_callV0 C (o_X0_wantOf l B u6) v_X0_wantOf m_340 [.int u6] [] (50) (Or.inl ⟨0, 0, _, TX0, 16, rfl, rfl, rfl⟩) (fun u8 => [.int u8]) (fun u8 => w_X0 B) rfl rfl rfl (Nat.le_of_ble_eq_true rfl) ⟨(Nat.le_of_ble_eq_true rfl), (Nat.le_of_ble_eq_true rfl)⟩ ⟨Nat.zero_le _, Nat.zero_le _⟩ dX0_rightsBeside_88 (fun _ => rfl) (fun _ => rfl) (fun _ => rfl) (fun u8 => ?_)
      refine r_iconst C (1) dX0_rightsBeside_91 rfl ?_
      refine r_icmp_eq C 99 dX0_rightsBeside_92 (by decide) (fun h92 => ?_) (fun h92 => ?_)
      · refine r_iconst C (0) dX0_rightsBeside_99 rfl ?_
        refine r_istore C [(6, .int (0 : Int32)), (5, .int u6), (4, .int (x3 &&& (u5 ^^^ (-1 : Int32)))), (0, .ref 50), (2, .int x2), (3, .int x3)] dX0_rightsBeside_100 (Nat.le_of_ble_eq_true rfl) rfl ?_
        refine r_iload C 0 dX0_rightsBeside_102 rfl ?_
        refine r_if_eq C 114 dX0_rightsBeside_104 (by decide) (fun h104 => ?_) (fun h104 => ?_)
        · refine r_iconst C (0) dX0_rightsBeside_114 rfl ?_
          exact r_reti (x := (0 : Int32)) (rv := (fun u => some (.int u))) (hpE := (fun u => w_X0 B)) (t0 := (0 : Int32)) C dX0_rightsBeside_115 (by rfl) (by rfl) (by rfl)
        · refine r_iconst C (2) dX0_rightsBeside_107 rfl ?_
          refine r_iload C 2 dX0_rightsBeside_108 rfl ?_
          refine r_imul C dX0_rightsBeside_110 ?_
          refine r_goto C 115 dX0_rightsBeside_111 (by decide) ?_
          exact r_reti (x := ((2 : Int32) * (x3 &&& (u5 ^^^ (-1 : Int32))))) (rv := (fun u => some (.int u))) (hpE := (fun u => w_X0 B)) (t0 := ((2 : Int32) * (x3 &&& (u5 ^^^ (-1 : Int32))))) C dX0_rightsBeside_115 (by rfl) (by rfl) (by rfl)
      · refine r_iconst C (1) dX0_rightsBeside_95 rfl ?_
        refine r_goto C 100 dX0_rightsBeside_96 (by decide) ?_
        refine r_istore C [(6, .int (1 : Int32)), (5, .int u6), (4, .int (x3 &&& (u5 ^^^ (-1 : Int32)))), (0, .ref 50), (2, .int x2), (3, .int x3)] dX0_rightsBeside_100 (Nat.le_of_ble_eq_true rfl) rfl ?_
        refine r_iload C 0 dX0_rightsBeside_102 rfl ?_
        refine r_if_eq C 114 dX0_rightsBeside_104 (by decide) (fun h104 => ?_) (fun h104 => ?_)
        · refine r_iconst C (0) dX0_rightsBeside_114 rfl ?_
          exact r_reti (x := (0 : Int32)) (rv := (fun u => some (.int u))) (hpE := (fun u => w_X0 B)) (t0 := (0 : Int32)) C dX0_rightsBeside_115 (by rfl) (by rfl) (by rfl)
        · refine r_iconst C (2) dX0_rightsBeside_107 rfl ?_
          refine r_iload C 2 dX0_rightsBeside_108 rfl ?_
          refine r_imul C dX0_rightsBeside_110 ?_
          refine r_goto C 115 dX0_rightsBeside_111 (by decide) ?_
          exact r_reti (x := ((2 : Int32) * (x3 &&& (u5 ^^^ (-1 : Int32))))) (rv := (fun u => some (.int u))) (hpE := (fun u => w_X0 B)) (t0 := ((2 : Int32) * (x3 &&& (u5 ^^^ (-1 : Int32))))) C dX0_rightsBeside_115 (by rfl) (by rfl) (by rfl)
    · refine r_iconst C (0) dX0_rightsBeside_99 rfl ?_
      refine r_istore C [(6, .int (0 : Int32)), (5, .int u6), (4, .int (x3 &&& (u5 ^^^ (-1 : Int32)))), (0, .ref 50), (2, .int x2), (3, .int x3)] dX0_rightsBeside_100 (Nat.le_of_ble_eq_true rfl) rfl ?_
      refine r_iload C 0 dX0_rightsBeside_102 rfl ?_
      refine r_if_eq C 114 dX0_rightsBeside_104 (by decide) (fun h104 => ?_) (fun h104 => ?_)
      · refine r_iconst C (0) dX0_rightsBeside_114 rfl ?_
        exact r_reti (x := (0 : Int32)) (rv := (fun u => some (.int u))) (hpE := (fun u => w_X0 B)) (t0 := (0 : Int32)) C dX0_rightsBeside_115 (by rfl) (by rfl) (by rfl)
      · refine r_iconst C (2) dX0_rightsBeside_107 rfl ?_
        refine r_iload C 2 dX0_rightsBeside_108 rfl ?_
        refine r_imul C dX0_rightsBeside_110 ?_
        refine r_goto C 115 dX0_rightsBeside_111 (by decide) ?_
        exact r_reti (x := ((2 : Int32) * (x3 &&& (u5 ^^^ (-1 : Int32))))) (rv := (fun u => some (.int u))) (hpE := (fun u => w_X0 B)) (t0 := ((2 : Int32) * (x3 &&& (u5 ^^^ (-1 : Int32))))) C dX0_rightsBeside_115 (by rfl) (by rfl) (by rfl)
set_option maxRecDepth 100000 in
set_option maxHeartbeats 4000000 in
theorem o_X0_rightsBeside (l : Launch) (B : q_St) (a1 : Int32) (a2 : Int32) : q_Ok l yX0_rightsBeside cX0_rightsBeside 7 (some .int) 2 42 [.ref 50, .int a1, .int a2] (w_X0 B) (f_X0_rightsBeside B a1 a2) (fun u => some (.int u)) (fun u => w_X0 B) := by
  refine q_enter (by decide +kernel) (Nat.le_of_ble_eq_true rfl) (fun t p e s m args below meth c dC dI dA A α C => ?_)
  refine r_cut (f_X0_rightsBeside.eq_1 _ _ _) ?_
  show q_S p l e (q_rm 2 42) s m args below meth c 7 dC dI dA A α (MQ below (q_Q α dC dI dA A ((fun u => some (.int u)) t) ((fun u => w_X0 B) t)) args s 0 0 A) 0 0 _ t 0 [(0, .ref 50), (1, .int a1), (2, .int a2)] [] (w_X0 B)
  refine r_aload_n C 0 dX0_rightsBeside_0 rfl ?_
  refine r_iload_n C 1 dX0_rightsBeside_1 rfl ?_
  refine r_callV0 C (o_X0_castOf l B a1) v_X0_castOf m_322 [.int a1] [] (50) (Or.inl ⟨0, 0, _, TX0, 16, rfl, rfl, rfl⟩) (fun u1 => [.int u1]) (fun u1 => w_X0 B) rfl rfl rfl (Nat.le_of_ble_eq_true rfl) ⟨(Nat.le_of_ble_eq_true rfl), (Nat.le_of_ble_eq_true rfl)⟩ ⟨Nat.zero_le _, Nat.zero_le _⟩ dX0_rightsBeside_2 (fun _ => rfl) (fun _ => rfl) (fun _ => rfl) (fun u1 => ?_)
  refine r_istore_n C [(3, .int u1), (0, .ref 50), (1, .int a1), (2, .int a2)] dX0_rightsBeside_5 (Nat.le_of_ble_eq_true rfl) rfl ?_
  refine r_aload_n C 1 dX0_rightsBeside_6 rfl ?_
  refine r_iload_n C 3 dX0_rightsBeside_7 rfl ?_
  refine r_callV0 C (o_X0_isDollOrNone l B a2) v_X0_isDollOrNone m_411 [.int a2] [] (50) (Or.inl ⟨0, 0, _, TX0, 16, rfl, rfl, rfl⟩) (fun u2 => [.int u2]) (fun u2 => w_X0 B) rfl rfl rfl (Nat.le_of_ble_eq_true rfl) ⟨(Nat.le_of_ble_eq_true rfl), (Nat.le_of_ble_eq_true rfl)⟩ ⟨Nat.zero_le _, Nat.zero_le _⟩ dX0_rightsBeside_8 (fun _ => rfl) (fun _ => rfl) (fun _ => rfl) (fun u2 => ?_)
  refine r_if_ne C 16 dX0_rightsBeside_11 (by decide) (fun h11 => ?_) (fun h11 => ?_)
  · refine r_iconst C (0) dX0_rightsBeside_14 rfl ?_
    exact r_reti (x := (0 : Int32)) (rv := (fun u => some (.int u))) (hpE := (fun u => w_X0 B)) (t0 := (0 : Int32)) C dX0_rightsBeside_15 (by rfl) (by rfl) (by rfl)
  · refine r_iload_n C 0 dX0_rightsBeside_16 rfl ?_
    refine r_iload_n C 3 dX0_rightsBeside_17 rfl ?_
    refine r_callS C (o_X0_contains l u1 a2) v_X0_contains m_324 [] [.int u1, .int a2] [] (fun u3 => [.int u3]) (fun u3 => w_X0 B) rfl rfl rfl rfl rfl (Nat.le_of_ble_eq_true rfl) ⟨(Nat.le_of_ble_eq_true rfl), (Nat.le_of_ble_eq_true rfl)⟩ ⟨Nat.zero_le _, Nat.zero_le _⟩ dX0_rightsBeside_18 (fun _ => rfl) (fun _ => rfl) (fun _ => rfl) (fun u3 => ?_)
    refine r_if_eq C 35 dX0_rightsBeside_21 (by decide) (fun h21 => ?_) (fun h21 => ?_)
    · refine r_lv [(0, .ref 50), (2, .int a2), (3, .int u1)] [1, 3, 0] rfl ?_
      exact k_X0_rightsBeside_35 C B a1 a2   a2 u1
    · refine r_aload_n C 1 dX0_rightsBeside_24 rfl ?_
      refine r_iload_n C 3 dX0_rightsBeside_25 rfl ?_
      refine r_callV0 C (o_X0_wantOf l B a2) v_X0_wantOf m_340 [.int a2] [] (50) (Or.inl ⟨0, 0, _, TX0, 16, rfl, rfl, rfl⟩) (fun u4 => [.int u4]) (fun u4 => w_X0 B) rfl rfl rfl (Nat.le_of_ble_eq_true rfl) ⟨(Nat.le_of_ble_eq_true rfl), (Nat.le_of_ble_eq_true rfl)⟩ ⟨Nat.zero_le _, Nat.zero_le _⟩ dX0_rightsBeside_26 (fun _ => rfl) (fun _ => rfl) (fun _ => rfl) (fun u4 => ?_)
      refine r_iconst C (2) dX0_rightsBeside_29 rfl ?_
      refine r_icmp_ne C 35 dX0_rightsBeside_30 (by decide) (fun h30 => ?_) (fun h30 => ?_)
      · refine r_iconst C (0) dX0_rightsBeside_33 rfl ?_
        exact r_reti (x := (0 : Int32)) (rv := (fun u => some (.int u))) (hpE := (fun u => w_X0 B)) (t0 := (0 : Int32)) C dX0_rightsBeside_34 (by rfl) (by rfl) (by rfl)
      · refine r_lv [(0, .ref 50), (2, .int a2), (3, .int u1)] [1, 3, 0] rfl ?_
        exact k_X0_rightsBeside_35 C B a1 a2   a2 u1
