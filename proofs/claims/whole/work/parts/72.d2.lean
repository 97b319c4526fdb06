set_option maxRecDepth 100000 in
set_option maxHeartbeats 4000000 in
theorem o_X5_maybe (l : Launch) (X : (Nat → q_St)) (a1 : Int32) (a2 : Int32) : q_Ok l yX5_maybe cX5_maybe 4 (some .int) 4 94 [.ref 50, .int a1, .int a2] (w_X5 X) (f_X5_maybe X a1 a2) (fun u => some (.int u.1)) (fun u => w_X5 u.2) := by
  refine q_enter (by decide +kernel) (Nat.le_of_ble_eq_true rfl) (fun t p e s m args below meth c dC dI dA A α C => ?_)
  refine r_cut (f_X5_maybe.eq_1 _ _ _) ?_
  show q_S p l e (q_rm 4 94) s m args below meth c 4 dC dI dA A α (MQ below (q_Q α dC dI dA A ((fun u => some (.int u.1)) t) ((fun u => w_X5 u.2) t)) args s 0 0 A) 0 0 _ t 0 [(0, .ref 50), (1, .int a1), (2, .int a2)] [] (w_X5 X)
  refine r_aload_n C 0 dX5_maybe_0 rfl ?_
  refine r_iload_n C 1 dX5_maybe_1 rfl ?_
  refine r_callV0 C (o_X5_sheetAt l X a1) v_X5_sheetAt m_573 [.int a1] [] (50) (Or.inl ⟨0, 4, _, TX5, 8, rfl, rfl, rfl⟩) (fun u1 => va_rf (q_sf u1) :: []) (fun u1 => w_X5 X) rfl rfl rfl (Nat.le_of_ble_eq_true rfl) ⟨(Nat.le_of_ble_eq_true rfl), (Nat.le_of_ble_eq_true rfl)⟩ ⟨Nat.zero_le _, Nat.zero_le _⟩ dX5_maybe_2 (fun _ => rfl) (fun _ => rfl) (fun _ => rfl) (q_case4 ?_ ?_ ?_ ?_ (fun u1 => ?_))
  · refine r_astore_n C [(3, .ref 82), (0, .ref 50), (1, .int a1), (2, .int a2)] dX5_maybe_5 (Nat.le_of_ble_eq_true rfl) rfl ?_
    refine r_aload_n C 0 dX5_maybe_6 rfl ?_
    refine r_cut (if_pos (by decide)) ?_
    refine r_ifnonnull_t C 17 dX5_maybe_7 (by decide) ?_
    refine r_aload_n C 0 dX5_maybe_17 rfl ?_
    refine r_callV C (o_X2_isMissing l (X (6 + 0))) v_X2_isMissing m_577 [32, 33] [] [] (82) (Or.inl ⟨32, 1, _, TX2, 3, rfl, rfl, rfl⟩) (fun u2 => [.int u2]) (fun u2 => w_X5 X) rfl rfl rfl rfl rfl (Nat.le_of_ble_eq_true rfl) ⟨(Nat.le_of_ble_eq_true rfl), (Nat.le_of_ble_eq_true rfl)⟩ ⟨Nat.zero_le _, Nat.zero_le _⟩ dX5_maybe_18 (fun _ => rfl) (fun _ => rfl) (fun _ => rfl) (fun u2 => ?_)
    refine r_if_eq C 31 dX5_maybe_21 (by decide) (fun h21 => ?_) (fun h21 => ?_)
    · refine r_aload_n C 1 dX5_maybe_31 rfl ?_
      refine r_get C 0 0 dX5_maybe_32 K_X5 rfl rfl (Nat.le_of_ble_eq_true rfl) rfl m_174 rfl ?_
      refine r_iload_n C 3 dX5_maybe_35 rfl ?_
      refine r_callV C (o_X0_isBeat l (X 1) a2) v_X0_isBeat m_305 [1, 2, 3, 4, 5, 6, 7] [.int a2] [] (51) (Or.inl ⟨1, 0, _, TX0, 16, rfl, rfl, rfl⟩) (fun u3 => [.int u3]) (fun u3 => w_X5 X) rfl rfl rfl rfl rfl (Nat.le_of_ble_eq_true rfl) ⟨(Nat.le_of_ble_eq_true rfl), (Nat.le_of_ble_eq_true rfl)⟩ ⟨Nat.zero_le _, Nat.zero_le _⟩ dX5_maybe_36 (fun _ => rfl) (fun _ => rfl) (fun _ => rfl) (fun u3 => ?_)
      refine r_if_ne C 49 dX5_maybe_39 (by decide) (fun h39 => ?_) (fun h39 => ?_)
      · refine r_aload_n C 1 dX5_maybe_42 rfl ?_
        refine r_ldc C (-1000001) dX5_maybe_43 m_206 ?_
        refine r_callV0 C (o_X5_finding l X (-1000001 : Int32)) v_X5_finding m_207 [.int (-1000001 : Int32)] [] (50) (Or.inl ⟨0, 4, _, TX5, 8, rfl, rfl, rfl⟩) (fun u6 => [.int u6.1]) (fun u6 => w_X5 u6.2) rfl rfl rfl (Nat.le_of_ble_eq_true rfl) ⟨(Nat.le_of_ble_eq_true rfl), (Nat.le_of_ble_eq_true rfl)⟩ ⟨Nat.zero_le _, Nat.zero_le _⟩ dX5_maybe_45 (fun _ => rfl) (fun _ => rfl) (fun _ => rfl) (fun u6 => ?_)
        exact r_reti (x := u6.1) (rv := (fun u => some (.int u.1))) (hpE := (fun u => w_X5 u.2)) (t0 := (u6.1, u6.2)) C dX5_maybe_48 (by rfl) (by rfl) (by rfl)
      · refine r_aload_n C 1 dX5_maybe_49 rfl ?_
        refine r_aload_n C 0 dX5_maybe_50 rfl ?_
        refine r_callV0 C (o_X5_rowsBy_s0 l X) v_X5_rowsBy m_582 [.ref 82] [] (50) (Or.inl ⟨0, 4, _, TX5, 8, rfl, rfl, rfl⟩) (fun u4 => [.long u4]) (fun u4 => w_X5 X) rfl rfl rfl (Nat.le_of_ble_eq_true rfl) ⟨(Nat.le_of_ble_eq_true rfl), (Nat.le_of_ble_eq_true rfl)⟩ ⟨Nat.zero_le _, Nat.zero_le _⟩ dX5_maybe_51 (fun _ => rfl) (fun _ => rfl) (fun _ => rfl) (fun u4 => ?_)
        refine r_lconst C (0) dX5_maybe_54 rfl ?_
        refine r_lcmp C dX5_maybe_55 ?_
        refine r_if_ne C 63 dX5_maybe_56 (by decide) (fun h56 => ?_) (fun h56 => ?_)
        · refine r_iconst C (0) dX5_maybe_59 rfl ?_
          refine r_goto C 69 dX5_maybe_60 (by decide) ?_
          exact r_reti (x := (0 : Int32)) (rv := (fun u => some (.int u.1))) (hpE := (fun u => w_X5 u.2)) (t0 := ((0 : Int32), X)) C dX5_maybe_69 (by rfl) (by rfl) (by rfl)
        · refine r_aload_n C 1 dX5_maybe_63 rfl ?_
          refine r_aload_n C 0 dX5_maybe_64 rfl ?_
          refine r_iload_n C 3 dX5_maybe_65 rfl ?_
          refine r_callV0 C (o_X5_rightsBy_s0 l X a2) v_X5_rightsBy m_611 [.ref 82, .int a2] [] (50) (Or.inl ⟨0, 4, _, TX5, 8, rfl, rfl, rfl⟩) (fun u5 => [.int u5]) (fun u5 => w_X5 X) rfl rfl rfl (Nat.le_of_ble_eq_true rfl) ⟨(Nat.le_of_ble_eq_true rfl), (Nat.le_of_ble_eq_true rfl)⟩ ⟨Nat.zero_le _, Nat.zero_le _⟩ dX5_maybe_66 (fun _ => rfl) (fun _ => rfl) (fun _ => rfl) (fun u5 => ?_)
          exact r_reti (x := u5) (rv := (fun u => some (.int u.1))) (hpE := (fun u => w_X5 u.2)) (t0 := (u5, X)) C dX5_maybe_69 (by rfl) (by rfl) (by rfl)
    · refine r_aload_n C 1 dX5_maybe_24 rfl ?_
      refine r_ldc C (-1000006) dX5_maybe_25 m_581 ?_
      refine r_callV0 C (o_X5_finding l X (-1000006 : Int32)) v_X5_finding m_207 [.int (-1000006 : Int32)] [] (50) (Or.inl ⟨0, 4, _, TX5, 8, rfl, rfl, rfl⟩) (fun u7 => [.int u7.1]) (fun u7 => w_X5 u7.2) rfl rfl rfl (Nat.le_of_ble_eq_true rfl) ⟨(Nat.le_of_ble_eq_true rfl), (Nat.le_of_ble_eq_true rfl)⟩ ⟨Nat.zero_le _, Nat.zero_le _⟩ dX5_maybe_27 (fun _ => rfl) (fun _ => rfl) (fun _ => rfl) (fun u7 => ?_)
      exact r_reti (x := u7.1) (rv := (fun u => some (.int u.1))) (hpE := (fun u => w_X5 u.2)) (t0 := (u7.1, u7.2)) C dX5_maybe_30 (by rfl) (by rfl) (by rfl)
  · refine r_astore_n C [(3, .ref 84), (0, .ref 50), (1, .int a1), (2, .int a2)] dX5_maybe_5 (Nat.le_of_ble_eq_true rfl) rfl ?_
    refine r_aload_n C 0 dX5_maybe_6 rfl ?_
    refine r_cut (if_pos (by decide)) ?_
    refine r_ifnonnull_t C 17 dX5_maybe_7 (by decide) ?_
    refine r_aload_n C 0 dX5_maybe_17 rfl ?_
    refine r_callV C (o_X2_isMissing l (X (6 + 1))) v_X2_isMissing m_577 [34, 35] [] [] (84) (Or.inl ⟨34, 1, _, TX2, 3, rfl, rfl, rfl⟩) (fun u8 => [.int u8]) (fun u8 => w_X5 X) rfl rfl rfl rfl rfl (Nat.le_of_ble_eq_true rfl) ⟨(Nat.le_of_ble_eq_true rfl), (Nat.le_of_ble_eq_true rfl)⟩ ⟨Nat.zero_le _, Nat.zero_le _⟩ dX5_maybe_18 (fun _ => rfl) (fun _ => rfl) (fun _ => rfl) (fun u8 => ?_)
    refine r_if_eq C 31 dX5_maybe_21 (by decide) (fun h21 => ?_) (fun h21 => ?_)
    · refine r_aload_n C 1 dX5_maybe_31 rfl ?_
      refine r_get C 0 0 dX5_maybe_32 K_X5 rfl rfl (Nat.le_of_ble_eq_true rfl) rfl m_174 rfl ?_
      refine r_iload_n C 3 dX5_maybe_35 rfl ?_
      refine r_callV C (o_X0_isBeat l (X 1) a2) v_X0_isBeat m_305 [1, 2, 3, 4, 5, 6, 7] [.int a2] [] (51) (Or.inl ⟨1, 0, _, TX0, 16, rfl, rfl, rfl⟩) (fun u9 => [.int u9]) (fun u9 => w_X5 X) rfl rfl rfl rfl rfl (Nat.le_of_ble_eq_true rfl) ⟨(Nat.le_of_ble_eq_true rfl), (Nat.le_of_ble_eq_true rfl)⟩ ⟨Nat.zero_le _, Nat.zero_le _⟩ dX5_maybe_36 (fun _ => rfl) (fun _ => rfl) (fun _ => rfl) (fun u9 => ?_)
      refine r_if_ne C 49 dX5_maybe_39 (by decide) (fun h39 => ?_) (fun h39 => ?_)
      · refine r_aload_n C 1 dX5_maybe_42 rfl ?_
        refine r_ldc C (-1000001) dX5_maybe_43 m_206 ?_
        refine r_callV0 C (o_X5_finding l X (-1000001 : Int32)) v_X5_finding m_207 [.int (-1000001 : Int32)] [] (50) (Or.inl ⟨0, 4, _, TX5, 8, rfl, rfl, rfl⟩) (fun u12 => [.int u12.1]) (fun u12 => w_X5 u12.2) rfl rfl rfl (Nat.le_of_ble_eq_true rfl) ⟨(Nat.le_of_ble_eq_true rfl), (Nat.le_of_ble_eq_true rfl)⟩ ⟨Nat.zero_le _, Nat.zero_le _⟩ dX5_maybe_45 (fun _ => rfl) (fun _ => rfl) (fun _ => rfl) (fun u12 => ?_)
        exact r_reti (x := u12.1) (rv := (fun u => some (.int u.1))) (hpE := (fun u => w_X5 u.2)) (t0 := (u12.1, u12.2)) C dX5_maybe_48 (by rfl) (by rfl) (by rfl)
      · refine r_aload_n C 1 dX5_maybe_49 rfl ?_
        refine r_aload_n C 0 dX5_maybe_50 rfl ?_
        refine r_callV0 C (o_X5_rowsBy_s1 l X) v_X5_rowsBy m_582 [.ref 84] [] (50) (Or.inl ⟨0, 4, _, TX5, 8, rfl, rfl, rfl⟩) (fun u10 => [.long u10]) (fun u10 => w_X5 X) rfl rfl rfl (Nat.le_of_ble_eq_true rfl) ⟨(Nat.le_of_ble_eq_true rfl), (Nat.le_of_ble_eq_true rfl)⟩ ⟨Nat.zero_le _, Nat.zero_le _⟩ dX5_maybe_51 (fun _ => rfl) (fun _ => rfl) (fun _ => rfl) (fun u10 => ?_)
        refine r_lconst C (0) dX5_maybe_54 rfl ?_
        refine r_lcmp C dX5_maybe_55 ?_
        refine r_if_ne C 63 dX5_maybe_56 (by decide) (fun h56 => ?_) (fun h56 => ?_)
        · refine r_iconst C (0) dX5_maybe_59 rfl ?_
          refine r_goto C 69 dX5_maybe_60 (by decide) ?_
          exact r_reti (x := (0 : Int32)) (rv := (fun u => some (.int u.1))) (hpE := (fun u => w_X5 u.2)) (t0 := ((0 : Int32), X)) C dX5_maybe_69 (by rfl) (by rfl) (by rfl)
        · refine r_aload_n C 1 dX5_maybe_63 rfl ?_
          refine r_aload_n C 0 dX5_maybe_64 rfl ?_
          refine r_iload_n C 3 dX5_maybe_65 rfl ?_
          refine r_callV0 C (o_X5_rightsBy_s1 l X a2) v_X5_rightsBy m_611 [.ref 84, .int a2] [] (50) (Or.inl ⟨0, 4, _, TX5, 8, rfl, rfl, rfl⟩) (fun u11 => [.int u11]) (fun u11 => w_X5 X) rfl rfl rfl (Nat.le_of_ble_eq_true rfl) ⟨(Nat.le_of_ble_eq_true rfl), (Nat.le_of_ble_eq_true rfl)⟩ ⟨Nat.zero_le _, Nat.zero_le _⟩ dX5_maybe_66 (fun _ => rfl) (fun _ => rfl) (fun _ => rfl) (fun u11 => ?_)
          exact r_reti (x := u11) (rv := (fun u => some (.int u.1))) (hpE := (fun u => w_X5 u.2)) (t0 := (u11, X)) C dX5_maybe_69 (by rfl) (by rfl) (by rfl)
    · refine r_aload_n C 1 dX5_maybe_24 rfl ?_
      refine r_ldc C (-1000006) dX5_maybe_25 m_581 ?_
      refine r_callV0 C (o_X5_finding l X (-1000006 : Int32)) v_X5_finding m_207 [.int (-1000006 : Int32)] [] (50) (Or.inl ⟨0, 4, _, TX5, 8, rfl, rfl, rfl⟩) (fun u13 => [.int u13.1]) (fun u13 => w_X5 u13.2) rfl rfl rfl (Nat.le_of_ble_eq_true rfl) ⟨(Nat.le_of_ble_eq_true rfl), (Nat.le_of_ble_eq_true rfl)⟩ ⟨Nat.zero_le _, Nat.zero_le _⟩ dX5_maybe_27 (fun _ => rfl) (fun _ => rfl) (fun _ => rfl) (fun u13 => ?_)
      exact r_reti (x := u13.1) (rv := (fun u => some (.int u.1))) (hpE := (fun u => w_X5 u.2)) (t0 := (u13.1, u13.2)) C dX5_maybe_30 (by rfl) (by rfl) (by rfl)
  · refine r_astore_n C [(3, .ref 86), (0, .ref 50), (1, .int a1), (2, .int a2)] dX5_maybe_5 (Nat.le_of_ble_eq_true rfl) rfl ?_
    refine r_aload_n C 0 dX5_maybe_6 rfl ?_
    refine r_cut (if_pos (by decide)) ?_
    refine r_ifnonnull_t C 17 dX5_maybe_7 (by decide) ?_
    refine r_aload_n C 0 dX5_maybe_17 rfl ?_
    refine r_callV C (o_X2_isMissing l (X (6 + 2))) v_X2_isMissing m_577 [36, 37] [] [] (86) (Or.inl ⟨36, 1, _, TX2, 3, rfl, rfl, rfl⟩) (fun u14 => [.int u14]) (fun u14 => w_X5 X) rfl rfl rfl rfl rfl (Nat.le_of_ble_eq_true rfl) ⟨(Nat.le_of_ble_eq_true rfl), (Nat.le_of_ble_eq_true rfl)⟩ ⟨Nat.zero_le _, Nat.zero_le _⟩ dX5_maybe_18 (fun _ => rfl) (fun _ => rfl) (fun _ => rfl) (fun u14 => ?_)
    refine r_if_eq C 31 dX5_maybe_21 (by decide) (fun h21 => ?_) (fun h21 => ?_)
    · refine r_aload_n C 1 dX5_maybe_31 rfl ?_
      refine r_get C 0 0 dX5_maybe_32 K_X5 rfl rfl (Nat.le_of_ble_eq_true rfl) rfl m_174 rfl ?_
      refine r_iload_n C 3 dX5_maybe_35 rfl ?_
      refine r_callV C (o_X0_isBeat l (X 1) a2) v_X0_isBeat m_305 [1, 2, 3, 4, 5, 6, 7] [.int a2] [] (51) (Or.inl ⟨1, 0, _, TX0, 16, rfl, rfl, rfl⟩) (fun u15 => [.int u15]) (fun u15 => w_X5 X) rfl rfl rfl rfl rfl (Nat.le_of_ble_eq_true rfl) ⟨(Nat.le_of_ble_eq_true rfl), (Nat.le_of_ble_eq_true rfl)⟩ ⟨Nat.zero_le _, Nat.zero_le _⟩ dX5_maybe_36 (fun _ => rfl) (fun _ => rfl) (fun _ => rfl) (fun u15 => ?_)
      refine r_if_ne C 49 dX5_maybe_39 (by decide) (fun h39 => ?_) (fun h39 => ?_)
      · refine r_aload_n C 1 dX5_maybe_42 rfl ?_
        refine r_ldc C (-1000001) dX5_maybe_43 m_206 ?_
        refine r_callV0 C (o_X5_finding l X (-1000001 : Int32)) v_X5_finding m_207 [.int (-1000001 : Int32)] [] (50) (Or.inl ⟨0, 4, _, TX5, 8, rfl, rfl, rfl⟩) (fun u18 => [.int u18.1]) (fun u18 => w_X5 u18.2) rfl rfl rfl (Nat.le_of_ble_eq_true rfl) ⟨(Nat.le_of_ble_eq_true rfl), (Nat.le_of_ble_eq_true rfl)⟩ ⟨Nat.zero_le _, Nat.zero_le _⟩ dX5_maybe_45 (fun _ => rfl) (fun _ => rfl) (fun _ => rfl) (fun u18 => ?_)
        exact r_reti (x := u18.1) (rv := (fun u => some (.int u.1))) (hpE := (fun u => w_X5 u.2)) (t0 := (u18.1, u18.2)) C dX5_maybe_48 (by rfl) (by rfl) (by rfl)
      · refine r_aload_n C 1 dX5_maybe_49 rfl ?_
        refine r_aload_n C 0 dX5_maybe_50 rfl ?_
        refine r_callV0 C (o_X5_rowsBy_s2 l X) v_X5_rowsBy m_582 [.ref 86] [] (50) (Or.inl ⟨0, 4, _, TX5, 8, rfl, rfl, rfl⟩) (fun u16 => [.long u16]) (fun u16 => w_X5 X) rfl rfl rfl (Nat.le_of_ble_eq_true rfl) ⟨(Nat.le_of_ble_eq_true rfl), (Nat.le_of_ble_eq_true rfl)⟩ ⟨Nat.zero_le _, Nat.zero_le _⟩ dX5_maybe_51 (fun _ => rfl) (fun _ => rfl) (fun _ => rfl) (fun u16 => ?_)
        refine r_lconst C (0) dX5_maybe_54 rfl ?_
        refine r_lcmp C dX5_maybe_55 ?_
        refine r_if_ne C 63 dX5_maybe_56 (by decide) (fun h56 => ?_) (fun h56 => ?_)
        · refine r_iconst C (0) dX5_maybe_59 rfl ?_
          refine r_goto C 69 dX5_maybe_60 (by decide) ?_
          exact r_reti (x := (0 : Int32)) (rv := (fun u => some (.int u.1))) (hpE := (fun u => w_X5 u.2)) (t0 := ((0 : Int32), X)) C dX5_maybe_69 (by rfl) (by rfl) (by rfl)
        · refine r_aload_n C 1 dX5_maybe_63 rfl ?_
          refine r_aload_n C 0 dX5_maybe_64 rfl ?_
          refine r_iload_n C 3 dX5_maybe_65 rfl ?_
          refine r_callV0 C (o_X5_rightsBy_s2 l X a2) v_X5_rightsBy m_611 [.ref 86, .int a2] [] (50) (Or.inl ⟨0, 4, _, TX5, 8, rfl, rfl, rfl⟩) (fun u17 => [.int u17]) (fun u17 => w_X5 X) rfl rfl rfl (Nat.le_of_ble_eq_true rfl) ⟨(Nat.le_of_ble_eq_true rfl), (Nat.le_of_ble_eq_true rfl)⟩ ⟨Nat.zero_le _, Nat.zero_le _⟩ dX5_maybe_66 (fun _ => rfl) (fun _ => rfl) (fun _ => rfl) (fun u17 => ?_)
          exact r_reti (x := u17) (rv := (fun u => some (.int u.1))) (hpE := (fun u => w_X5 u.2)) (t0 := (u17, X)) C dX5_maybe_69 (by rfl) (by rfl) (by rfl)
    · refine r_aload_n C 1 dX5_maybe_24 rfl ?_
      refine r_ldc C (-1000006) dX5_maybe_25 m_581 ?_
      refine r_callV0 C (o_X5_finding l X (-1000006 : Int32)) v_X5_finding m_207 [.int (-1000006 : Int32)] [] (50) (Or.inl ⟨0, 4, _, TX5, 8, rfl, rfl, rfl⟩) (fun u19 => [.int u19.1]) (fun u19 => w_X5 u19.2) rfl rfl rfl (Nat.le_of_ble_eq_true rfl) ⟨(Nat.le_of_ble_eq_true rfl), (Nat.le_of_ble_eq_true rfl)⟩ ⟨Nat.zero_le _, Nat.zero_le _⟩ dX5_maybe_27 (fun _ => rfl) (fun _ => rfl) (fun _ => rfl) (fun u19 => ?_)
      exact r_reti (x := u19.1) (rv := (fun u => some (.int u.1))) (hpE := (fun u => w_X5 u.2)) (t0 := (u19.1, u19.2)) C dX5_maybe_30 (by rfl) (by rfl) (by rfl)
  · refine r_astore_n C [(3, .ref 88), (0, .ref 50), (1, .int a1), (2, .int a2)] dX5_maybe_5 (Nat.le_of_ble_eq_true rfl) rfl ?_
    refine r_aload_n C 0 dX5_maybe_6 rfl ?_
    refine r_cut (if_pos (by decide)) ?_
    refine r_ifnonnull_t C 17 dX5_maybe_7 (by decide) ?_
    refine r_aload_n C 0 dX5_maybe_17 rfl ?_
    refine r_callV C (o_X2_isMissing l (X (6 + 3))) v_X2_isMissing m_577 [38, 39] [] [] (88) (Or.inl ⟨38, 1, _, TX2, 3, rfl, rfl, rfl⟩) (fun u20 => [.int u20]) (fun u20 => w_X5 X) rfl rfl rfl rfl rfl (Nat.le_of_ble_eq_true rfl) ⟨(Nat.le_of_ble_eq_true rfl), (Nat.le_of_ble_eq_true rfl)⟩ ⟨Nat.zero_le _, Nat.zero_le _⟩ dX5_maybe_18 (fun _ => rfl) (fun _ => rfl) (fun _ => rfl) (fun u20 => ?_)
    refine r_if_eq C 31 dX5_maybe_21 (by decide) (fun h21 => ?_) (fun h21 => ?_)
    · refine r_aload_n C 1 dX5_maybe_31 rfl ?_
      refine r_get C 0 0 dX5_maybe_32 K_X5 rfl rfl (Nat.le_of_ble_eq_true rfl) rfl m_174 rfl ?_
      refine r_iload_n C 3 dX5_maybe_35 rfl ?_
      refine r_callV C (o_X0_isBeat l (X 1) a2) v_X0_isBeat m_305 [1, 2, 3, 4, 5, 6, 7] [.int a2] [] (51) (Or.inl ⟨1, 0, _, TX0, 16, rfl, rfl, rfl⟩) (fun u21 => [.int u21]) (fun u21 => w_X5 X) rfl rfl rfl rfl rfl (Nat.le_of_ble_eq_true rfl) ⟨(Nat.le_of_ble_eq_true rfl), (Nat.le_of_ble_eq_true rfl)⟩ ⟨Nat.zero_le _, Nat.zero_le _⟩ dX5_maybe_36 (fun _ => rfl) (fun _ => rfl) (fun _ => rfl) (fun u21 => ?_)
      refine r_if_ne C 49 dX5_maybe_39 (by decide) (fun h39 => ?_) (fun h39 => ?_)
      · refine r_aload_n C 1 dX5_maybe_42 rfl ?_
        refine r_ldc C (-1000001) dX5_maybe_43 m_206 ?_
        refine r_callV0 C (o_X5_finding l X (-1000001 : Int32)) v_X5_finding m_207 [.int (-1000001 : Int32)] [] (50) (Or.inl ⟨0, 4, _, TX5, 8, rfl, rfl, rfl⟩) (fun u24 => [.int u24.1]) (fun u24 => w_X5 u24.2) rfl rfl rfl (Nat.le_of_ble_eq_true rfl) ⟨(Nat.le_of_ble_eq_true rfl), (Nat.le_of_ble_eq_true rfl)⟩ ⟨Nat.zero_le _, Nat.zero_le _⟩ dX5_maybe_45 (fun _ => rfl) (fun _ => rfl) (fun _ => rfl) (fun u24 => ?_)
        exact r_reti (x := u24.1) (rv := (fun u => some (.int u.1))) (hpE := (fun u => w_X5 u.2)) (t0 := (u24.1, u24.2)) C dX5_maybe_48 (by rfl) (by rfl) (by rfl)
      · refine r_aload_n C 1 dX5_maybe_49 rfl ?_
        refine r_aload_n C 0 dX5_maybe_50 rfl ?_
        refine r_callV0 C (o_X5_rowsBy_s3 l X) v_X5_rowsBy m_582 [.ref 88] [] (50) (Or.inl ⟨0, 4, _, TX5, 8, rfl, rfl, rfl⟩) (fun u22 => [.long u22]) (fun u22 => w_X5 X) rfl rfl rfl (Nat.le_of_ble_eq_true rfl) ⟨(Nat.le_of_ble_eq_true rfl), (Nat.le_of_ble_eq_true rfl)⟩ ⟨Nat.zero_le _, Nat.zero_le _⟩ dX5_maybe_51 (fun _ => rfl) (fun _ => rfl) (fun _ => rfl) (fun u22 => ?_)
        refine r_lconst C (0) dX5_maybe_54 rfl ?_
        refine r_lcmp C dX5_maybe_55 ?_
        refine r_if_ne C 63 dX5_maybe_56 (by decide) (fun h56 => ?_) (fun h56 => ?_)
        · refine r_iconst C (0) dX5_maybe_59 rfl ?_
          refine r_goto C 69 dX5_maybe_60 (by decide) ?_
          exact r_reti (x := (0 : Int32)) (rv := (fun u => some (.int u.1))) (hpE := (fun u => w_X5 u.2)) (t0 := ((0 : Int32), X)) C dX5_maybe_69 (by rfl) (by rfl) (by rfl)
        · refine r_aload_n C 1 dX5_maybe_63 rfl ?_
          refine r_aload_n C 0 dX5_maybe_64 rfl ?_
          refine r_iload_n C 3 dX5_maybe_65 rfl ?_
          refine r_callV0 C (o_X5_rightsBy_s3 l X a2) v_X5_rightsBy m_611 [.ref 88, .int a2] [] (50) (Or.inl ⟨0, 4, _, TX5, 8, rfl, rfl, rfl⟩) (fun u23 => [.int u23]) (fun u23 => w_X5 X) rfl rfl rfl (Nat.le_of_ble_eq_true rfl) ⟨(Nat.le_of_ble_eq_true rfl), (Nat.le_of_ble_eq_true rfl)⟩ ⟨Nat.zero_le _, Nat.zero_le _⟩ dX5_maybe_66 (fun _ => rfl) (fun _ => rfl) (fun _ => rfl) (fun u23 => ?_)
          exact r_reti (x := u23) (rv := (fun u => some (.int u.1))) (hpE := (fun u => w_X5 u.2)) (t0 := (u23, X)) C dX5_maybe_69 (by rfl) (by rfl) (by rfl)
    · refine r_aload_n C 1 dX5_maybe_24 rfl ?_
      refine r_ldc C (-1000006) dX5_maybe_25 m_581 ?_
      refine r_callV0 C (o_X5_finding l X (-1000006 : Int32)) v_X5_finding m_207 [.int (-1000006 : Int32)] [] (50) (Or.inl ⟨0, 4, _, TX5, 8, rfl, rfl, rfl⟩) (fun u25 => [.int u25.1]) (fun u25 => w_X5 u25.2) rfl rfl rfl (Nat.le_of_ble_eq_true rfl) ⟨(Nat.le_of_ble_eq_true rfl), (Nat.le_of_ble_eq_true rfl)⟩ ⟨Nat.zero_le _, Nat.zero_le _⟩ dX5_maybe_27 (fun _ => rfl) (fun _ => rfl) (fun _ => rfl) (fun u25 => ?_)
      exact r_reti (x := u25.1) (rv := (fun u => some (.int u.1))) (hpE := (fun u => w_X5 u.2)) (t0 := (u25.1, u25.2)) C dX5_maybe_30 (by rfl) (by rfl) (by rfl)
  · refine r_astore_nN C [(3, .null), (0, .ref 50), (1, .int a1), (2, .int a2)] dX5_maybe_5 (Nat.le_of_ble_eq_true rfl) rfl ?_
    refine r_aload_nN C 0 dX5_maybe_6 rfl ?_
    refine r_cut (if_neg (by omega)) ?_
    refine r_ifnonnull_f C dX5_maybe_7 ?_
    refine r_aload_n C 1 dX5_maybe_10 rfl ?_
    refine r_ldc C (-1000001) dX5_maybe_11 m_206 ?_
    refine r_callV0 C (o_X5_finding l X (-1000001 : Int32)) v_X5_finding m_207 [.int (-1000001 : Int32)] [] (50) (Or.inl ⟨0, 4, _, TX5, 8, rfl, rfl, rfl⟩) (fun u26 => [.int u26.1]) (fun u26 => w_X5 u26.2) rfl rfl rfl (Nat.le_of_ble_eq_true rfl) ⟨(Nat.le_of_ble_eq_true rfl), (Nat.le_of_ble_eq_true rfl)⟩ ⟨Nat.zero_le _, Nat.zero_le _⟩ dX5_maybe_13 (fun _ => rfl) (fun _ => rfl) (fun _ => rfl) (fun u26 => ?_)
    exact r_reti (x := u26.1) (rv := (fun u => some (.int u.1))) (hpE := (fun u => w_X5 u.2)) (t0 := (u26.1, u26.2)) C dX5_maybe_16 (by rfl) (by rfl) (by rfl)
set_option maxRecDepth 100000 in
set_option maxHeartbeats 4000000 in
theorem k_X5_dogs_4 {p : Program} {l : Launch} {e : Env} {s : State} {m : MethodId} {args : Array Value} {below : List Frame} {meth : Method} {c : Code} {dC : Nat → ClassId} {dI : Nat → Nat → Nat} {dA : Nat → ClassId} {A : Nat → Prop} {α : Nat → Nat} {t : Int32} (C : q_Cx p s m args meth c cX5_dogs 3 RX5 (some .int) "dogs" dC dI dA A α) (X : (Nat → q_St))  : ∀ (n : Nat) (x1 : Int32) (x2 : Int32), q_S p l e (q_rm 3 66) s m args below meth c 3 dC dI dA A α (MQ below (q_Q α dC dI dA A ((fun u => some (.int u)) t) ((fun u => w_X5 X) t)) args s 0 0 A) 0 0 (f_X5_dogs_4 X  n x1 x2) t 4 [(0, .ref 50), (1, .int x1), (2, .int x2)] [] (w_X5 X) := by
  intro n
  induction n with
  | zero =>
    intro x1 x2
    exact r_cut (f_X5_dogs_4.eq_1 _ _ _) (r_none True.intro)
  | succ n ih =>
    intro x1 x2
    refine r_cut (f_X5_dogs_4.eq_2 _ _ _ _) ?_
    refine r_iload_n C 2 dX5_dogs_4 rfl ?_
    refine r_aload_n C 0 dX5_dogs_5 rfl ?_
    refine r_get C 0 0 dX5_dogs_6 K_X5 rfl rfl (Nat.le_of_ble_eq_true rfl) rfl m_174 rfl ?_
    refine r_get C 1 1 dX5_dogs_9 K_X0 rfl rfl (Nat.le_of_ble_eq_true rfl) rfl m_36 rfl ?_
    refine r_icmp_ge C 38 dX5_dogs_12 (by decide) (fun h12 => ?_) (fun h12 => ?_)
    · refine r_iload_n C 1 dX5_dogs_38 rfl ?_
      exact r_reti (x := x1) (rv := (fun u => some (.int u))) (hpE := (fun u => w_X5 X)) (t0 := x1) C dX5_dogs_39 (by rfl) (by rfl) (by rfl)
    · refine r_aload_n C 0 dX5_dogs_15 rfl ?_
      refine r_get C 0 0 dX5_dogs_16 K_X5 rfl rfl (Nat.le_of_ble_eq_true rfl) rfl m_174 rfl ?_
      refine r_iload_n C 2 dX5_dogs_19 rfl ?_
      refine r_callV C (o_X0_dogsIn l (X 1) x2) v_X0_dogsIn m_619 [1, 2, 3, 4, 5, 6, 7] [.int x2] [] (51) (Or.inl ⟨1, 0, _, TX0, 16, rfl, rfl, rfl⟩) (fun u1 => [.int u1]) (fun u1 => w_X5 X) rfl rfl rfl rfl rfl (Nat.le_of_ble_eq_true rfl) ⟨(Nat.le_of_ble_eq_true rfl), (Nat.le_of_ble_eq_true rfl)⟩ ⟨Nat.zero_le _, Nat.zero_le _⟩ dX5_dogs_20 (fun _ => rfl) (fun _ => rfl) (fun _ => rfl) (fun u1 => ?_)
      refine r_if_le C 32 dX5_dogs_23 (by decide) (fun h23 => ?_) (fun h23 => ?_)
      · refine r_iinc C 2 (x2 + 1) [(2, .int (x2 + 1)), (0, .ref 50), (1, .int x1)] dX5_dogs_32 rfl rfl (Nat.le_of_ble_eq_true rfl) rfl ?_
        refine r_goto C 4 dX5_dogs_35 (by decide) ?_
        refine r_lv [(0, .ref 50), (1, .int x1), (2, .int (x2 + 1))] [1, 2, 0] rfl ?_
        exact ih x1 (x2 + 1)
      · refine r_iload_n C 1 dX5_dogs_26 rfl ?_
        refine r_iconst C (1) dX5_dogs_27 rfl ?_
        refine r_iload_n C 2 dX5_dogs_28 rfl ?_
        refine r_ishl C dX5_dogs_29 ?_
        refine r_ior C dX5_dogs_30 ?_
        refine r_istore_n C [(1, .int (x1 ||| ((1 : Int32) <<< (x2 &&& 31)))), (0, .ref 50), (2, .int x2)] dX5_dogs_31 (Nat.le_of_ble_eq_true rfl) rfl ?_
        refine r_iinc C 2 (x2 + 1) [(2, .int (x2 + 1)), (1, .int (x1 ||| ((1 : Int32) <<< (x2 &&& 31)))), (0, .ref 50)] dX5_dogs_32 rfl rfl (Nat.le_of_ble_eq_true rfl) rfl ?_
        refine r_goto C 4 dX5_dogs_35 (by decide) ?_
        refine r_lv [(0, .ref 50), (1, .int (x1 ||| ((1 : Int32) <<< (x2 &&& 31)))), (2, .int (x2 + 1))] [2, 1, 0] rfl ?_
        exact ih (x1 ||| ((1 : Int32) <<< (x2 &&& 31))) (x2 + 1)
set_option maxRecDepth 100000 in
set_option maxHeartbeats 4000000 in
theorem o_X5_dogs (l : Launch) (X : (Nat → q_St)) : q_Ok l yX5_dogs cX5_dogs 3 (some .int) 3 66 [.ref 50] (w_X5 X) (f_X5_dogs X) (fun u => some (.int u)) (fun u => w_X5 X) := by
  refine q_enter (by decide +kernel) (Nat.le_of_ble_eq_true rfl) (fun t p e s m args below meth c dC dI dA A α C => ?_)
  refine r_cut (f_X5_dogs.eq_1 _) ?_
  show q_S p l e (q_rm 3 66) s m args below meth c 3 dC dI dA A α (MQ below (q_Q α dC dI dA A ((fun u => some (.int u)) t) ((fun u => w_X5 X) t)) args s 0 0 A) 0 0 _ t 0 [(0, .ref 50)] [] (w_X5 X)
  refine r_iconst C (0) dX5_dogs_0 rfl ?_
  refine r_istore_n C [(1, .int (0 : Int32)), (0, .ref 50)] dX5_dogs_1 (Nat.le_of_ble_eq_true rfl) rfl ?_
  refine r_iconst C (0) dX5_dogs_2 rfl ?_
  refine r_istore_n C [(2, .int (0 : Int32)), (1, .int (0 : Int32)), (0, .ref 50)] dX5_dogs_3 (Nat.le_of_ble_eq_true rfl) rfl ?_
  refine r_lv [(0, .ref 50), (1, .int (0 : Int32)), (2, .int (0 : Int32))] [2, 1, 0] rfl ?_
  exact k_X5_dogs_4 C X   q_N (0 : Int32) (0 : Int32)
set_option maxRecDepth 100000 in
set_option maxHeartbeats 4000000 in
theorem k_X5_stays_77 {p : Program} {l : Launch} {e : Env} {s : State} {m : MethodId} {args : Array Value} {below : List Frame} {meth : Method} {c : Code} {dC : Nat → ClassId} {dI : Nat → Nat → Nat} {dA : Nat → ClassId} {A : Nat → Prop} {α : Nat → Nat} {t : Int64 × (Nat → q_St)} (C : q_Cx p s m args meth c cX5_stays 10 RX5 (some .long) "stays" dC dI dA A α) (X : (Nat → q_St)) (a1 : Int32)  : ∀ (n : Nat) (x1 : Int32) (x2 : Int32) (x3 : Int32) (x4 : Int64) (x6 : Int64) (x8 : Int32) (x9 : Int32) (X' : (Nat → q_St)), q_S p l e (q_rm 4 88) s m args below meth c 10 dC dI dA A α (MQ below (q_Q α dC dI dA A ((fun u => some (.long u.1)) t) ((fun u => w_X5 u.2) t)) args s 0 0 A) 0 0 (f_X5_stays_77 X a1  n x1 x2 x3 x4 x6 x8 x9 X') t 77 [(0, .ref 50), (1, .int x1), (2, .int x2), (3, .int x3), (4, .long x4), (6, .long x6), (8, .int x8), (9, .int x9)] [] (w_X5 X') := by
  intro n
  induction n with
  | zero =>
    intro x1 x2 x3 x4 x6 x8 x9 X'
    exact r_cut (f_X5_stays_77.eq_1 _ _ _ _ _ _ _ _ _ _) (r_none True.intro)
  | succ n ih =>
    intro x1 x2 x3 x4 x6 x8 x9 X'
    refine r_cut (f_X5_stays_77.eq_2 _ _ _ _ _ _ _ _ _ _ _) ?_
    refine r_iload C 7 dX5_stays_77 rfl ?_
    refine r_iload C 6 dX5_stays_79 rfl ?_
    refine r_icmp_ge C 121 dX5_stays_81 (by decide) (fun h81 => ?_) (fun h81 => ?_)
    · refine r_iload_n C 1 dX5_stays_121 rfl ?_
      refine r_if_ne C 130 dX5_stays_122 (by decide) (fun h122 => ?_) (fun h122 => ?_)
      · refine r_lload C 4 dX5_stays_125 rfl ?_
        refine r_goto C 132 dX5_stays_127 (by decide) ?_
        exact r_retl (x := x4) (rv := (fun u => some (.long u.1))) (hpE := (fun u => w_X5 u.2)) (t0 := (x4, X')) C dX5_stays_132 (by rfl) (by rfl) (by rfl)
      · refine r_lload C 5 dX5_stays_130 rfl ?_
        exact r_retl (x := x6) (rv := (fun u => some (.long u.1))) (hpE := (fun u => w_X5 u.2)) (t0 := (x6, X')) C dX5_stays_132 (by rfl) (by rfl) (by rfl)
    · refine r_lload C 4 dX5_stays_84 rfl ?_
      refine r_iload_n C 2 dX5_stays_86 rfl ?_
      refine r_i2l C dX5_stays_87 ?_
      refine r_lmul C dX5_stays_88 ?_
      refine r_lstore C [(4, .long (x4 * x2.toInt64)), (0, .ref 50), (1, .int x1), (2, .int x2), (3, .int x3), (6, .long x6), (8, .int x8), (9, .int x9)] dX5_stays_89 (Nat.le_of_ble_eq_true rfl) rfl ?_
      refine r_lload C 5 dX5_stays_91 rfl ?_
      refine r_iload_n C 4 dX5_stays_93 rfl ?_
      refine r_i2l C dX5_stays_94 ?_
      refine r_lmul C dX5_stays_95 ?_
      refine r_lstore C [(6, .long (x6 * x3.toInt64)), (4, .long (x4 * x2.toInt64)), (0, .ref 50), (1, .int x1), (2, .int x2), (3, .int x3), (8, .int x8), (9, .int x9)] dX5_stays_96 (Nat.le_of_ble_eq_true rfl) rfl ?_
      refine r_lload C 0 dX5_stays_98 rfl ?_
      refine r_ldc2 C (1000000000000000) dX5_stays_100 m_639 ?_
      refine r_lcmp C dX5_stays_103 ?_
      refine r_if_le C 115 dX5_stays_104 (by decide) (fun h104 => ?_) (fun h104 => ?_)
      · refine r_iinc C 7 (x9 + 1) [(9, .int (x9 + 1)), (6, .long (x6 * x3.toInt64)), (4, .long (x4 * x2.toInt64)), (0, .ref 50), (1, .int x1), (2, .int x2), (3, .int x3), (8, .int x8)] dX5_stays_115 rfl rfl (Nat.le_of_ble_eq_true rfl) rfl ?_
        refine r_goto C 77 dX5_stays_118 (by decide) ?_
        refine r_lv [(0, .ref 50), (1, .int x1), (2, .int x2), (3, .int x3), (4, .long (x4 * x2.toInt64)), (6, .long (x6 * x3.toInt64)), (8, .int x8), (9, .int (x9 + 1))] [3, 4, 5, 6, 2, 1, 7, 0] rfl ?_
        exact ih x1 x2 x3 (x4 * x2.toInt64) (x6 * x3.toInt64) x8 (x9 + 1) X'
      · refine r_aload_n C 2 dX5_stays_107 rfl ?_
        refine r_ldc C (-1000007) dX5_stays_108 m_606 ?_
        refine r_callV0 C (o_X5_finding l X' (-1000007 : Int32)) v_X5_finding m_207 [.int (-1000007 : Int32)] [] (50) (Or.inl ⟨0, 4, _, TX5, 8, rfl, rfl, rfl⟩) (fun u5 => [.int u5.1]) (fun u5 => w_X5 u5.2) rfl rfl rfl (Nat.le_of_ble_eq_true rfl) ⟨(Nat.le_of_ble_eq_true rfl), (Nat.le_of_ble_eq_true rfl)⟩ ⟨Nat.zero_le _, Nat.zero_le _⟩ dX5_stays_110 (fun _ => rfl) (fun _ => rfl) (fun _ => rfl) (fun u5 => ?_)
        refine r_i2l C dX5_stays_113 ?_
        exact r_retl (x := u5.1.toInt64) (rv := (fun u => some (.long u.1))) (hpE := (fun u => w_X5 u.2)) (t0 := (u5.1.toInt64, u5.2)) C dX5_stays_114 (by rfl) (by rfl) (by rfl)
set_option maxRecDepth 100000 in
set_option maxHeartbeats 4000000 in
theorem k_X5_stays_45 {p : Program} {l : Launch} {e : Env} {s : State} {m : MethodId} {args : Array Value} {below : List Frame} {meth : Method} {c : Code} {dC : Nat → ClassId} {dI : Nat → Nat → Nat} {dA : Nat → ClassId} {A : Nat → Prop} {α : Nat → Nat} {t : Int64 × (Nat → q_St)} (C : q_Cx p s m args meth c cX5_stays 10 RX5 (some .long) "stays" dC dI dA A α) (X : (Nat → q_St)) (a1 : Int32)  : ∀ (x1 : Int32) (x2 : Int32) (x3 : Int32) (X' : (Nat → q_St)), q_S p l e (q_rm 4 88) s m args below meth c 10 dC dI dA A α (MQ below (q_Q α dC dI dA A ((fun u => some (.long u.1)) t) ((fun u => w_X5 u.2) t)) args s 0 0 A) 0 0 (f_X5_stays_45 X a1  x1 x2 x3 X') t 45 [(0, .ref 50), (1, .int x1), (2, .int x2), (3, .int x3)] [] (w_X5 X') := by
  intro x1 x2 x3 X'
  refine r_cut (f_X5_stays_45.eq_1 _ _ _ _ _ _) ?_
  refine r_iload_n C 2 dX5_stays_45 rfl ?_
  refine r_iconst C (5) dX5_stays_46 rfl ?_
  refine r_irem C dX5_stays_47 (by decide) ?_
  refine r_if_ne C 59 dX5_stays_48 (by decide) (fun h48 => ?_) (fun h48 => ?_)
  · refine r_iload_n C 2 dX5_stays_51 rfl ?_
    refine r_iconst C (5) dX5_stays_52 rfl ?_
    refine r_idiv C dX5_stays_53 (by decide) ?_
    refine r_istore_n C [(2, .int (x2 / (5 : Int32))), (0, .ref 50), (1, .int x1), (3, .int x3)] dX5_stays_54 (Nat.le_of_ble_eq_true rfl) rfl ?_
    refine r_iload_n C 3 dX5_stays_55 rfl ?_
    refine r_iconst C (5) dX5_stays_56 rfl ?_
    refine r_idiv C dX5_stays_57 (by decide) ?_
    refine r_istore_n C [(3, .int (x3 / (5 : Int32))), (2, .int (x2 / (5 : Int32))), (0, .ref 50), (1, .int x1)] dX5_stays_58 (Nat.le_of_ble_eq_true rfl) rfl ?_
    refine r_lconst C (1) dX5_stays_59 rfl ?_
    refine r_lstore C [(4, .long (1 : Int64)), (3, .int (x3 / (5 : Int32))), (2, .int (x2 / (5 : Int32))), (0, .ref 50), (1, .int x1)] dX5_stays_60 (Nat.le_of_ble_eq_true rfl) rfl ?_
    refine r_lconst C (1) dX5_stays_62 rfl ?_
    refine r_lstore C [(6, .long (1 : Int64)), (4, .long (1 : Int64)), (3, .int (x3 / (5 : Int32))), (2, .int (x2 / (5 : Int32))), (0, .ref 50), (1, .int x1)] dX5_stays_63 (Nat.le_of_ble_eq_true rfl) rfl ?_
    refine r_aload_n C 4 dX5_stays_65 rfl ?_
    refine r_get C 0 0 dX5_stays_66 K_X5 rfl rfl (Nat.le_of_ble_eq_true rfl) rfl m_174 rfl ?_
    refine r_callV C (o_X0_dogsInAll l (X' 1)) v_X0_dogsInAll m_634 [1, 2, 3, 4, 5, 6, 7] [] [] (51) (Or.inl ⟨1, 0, _, TX0, 16, rfl, rfl, rfl⟩) (fun u4 => [.int u4]) (fun u4 => w_X5 X') rfl rfl rfl rfl rfl (Nat.le_of_ble_eq_true rfl) ⟨(Nat.le_of_ble_eq_true rfl), (Nat.le_of_ble_eq_true rfl)⟩ ⟨Nat.zero_le _, Nat.zero_le _⟩ dX5_stays_69 (fun _ => rfl) (fun _ => rfl) (fun _ => rfl) (fun u4 => ?_)
    refine r_istore C [(8, .int u4), (6, .long (1 : Int64)), (4, .long (1 : Int64)), (3, .int (x3 / (5 : Int32))), (2, .int (x2 / (5 : Int32))), (0, .ref 50), (1, .int x1)] dX5_stays_72 (Nat.le_of_ble_eq_true rfl) rfl ?_
    refine r_iconst C (0) dX5_stays_74 rfl ?_
    refine r_istore C [(9, .int (0 : Int32)), (8, .int u4), (6, .long (1 : Int64)), (4, .long (1 : Int64)), (3, .int (x3 / (5 : Int32))), (2, .int (x2 / (5 : Int32))), (0, .ref 50), (1, .int x1)] dX5_stays_75 (Nat.le_of_ble_eq_true rfl) rfl ?_
    refine r_lv [(0, .ref 50), (1, .int x1), (2, .int (x2 / (5 : Int32))), (3, .int (x3 / (5 : Int32))), (4, .long (1 : Int64)), (6, .long (1 : Int64)), (8, .int u4), (9, .int (0 : Int32))] [6, 7, 5, 4, 3, 2, 1, 0] rfl ?_
    exact k_X5_stays_77 C X a1   q_N x1 (x2 / (5 : Int32)) (x3 / (5 : Int32)) (1 : Int64) (1 : Int64) u4 (0 : Int32) X'
  · refine r_lconst C (1) dX5_stays_59 rfl ?_
    refine r_lstore C [(4, .long (1 : Int64)), (0, .ref 50), (1, .int x1), (2, .int x2), (3, .int x3)] dX5_stays_60 (Nat.le_of_ble_eq_true rfl) rfl ?_
    refine r_lconst C (1) dX5_stays_62 rfl ?_
    refine r_lstore C [(6, .long (1 : Int64)), (4, .long (1 : Int64)), (0, .ref 50), (1, .int x1), (2, .int x2), (3, .int x3)] dX5_stays_63 (Nat.le_of_ble_eq_true rfl) rfl ?_
    refine r_aload_n C 2 dX5_stays_65 rfl ?_
    refine r_get C 0 0 dX5_stays_66 K_X5 rfl rfl (Nat.le_of_ble_eq_true rfl) rfl m_174 rfl ?_
    refine r_callV C (o_X0_dogsInAll l (X' 1)) v_X0_dogsInAll m_634 [1, 2, 3, 4, 5, 6, 7] [] [] (51) (Or.inl ⟨1, 0, _, TX0, 16, rfl, rfl, rfl⟩) (fun u3 => [.int u3]) (fun u3 => w_X5 X') rfl rfl rfl rfl rfl (Nat.le_of_ble_eq_true rfl) ⟨(Nat.le_of_ble_eq_true rfl), (Nat.le_of_ble_eq_true rfl)⟩ ⟨Nat.zero_le _, Nat.zero_le _⟩ dX5_stays_69 (fun _ => rfl) (fun _ => rfl) (fun _ => rfl) (fun u3 => ?_)
    refine r_istore C [(8, .int u3), (6, .long (1 : Int64)), (4, .long (1 : Int64)), (0, .ref 50), (1, .int x1), (2, .int x2), (3, .int x3)] dX5_stays_72 (Nat.le_of_ble_eq_true rfl) rfl ?_
    refine r_iconst C (0) dX5_stays_74 rfl ?_
    refine r_istore C [(9, .int (0 : Int32)), (8, .int u3), (6, .long (1 : Int64)), (4, .long (1 : Int64)), (0, .ref 50), (1, .int x1), (2, .int x2), (3, .int x3)] dX5_stays_75 (Nat.le_of_ble_eq_true rfl) rfl ?_
    refine r_lv [(0, .ref 50), (1, .int x1), (2, .int x2), (3, .int x3), (4, .long (1 : Int64)), (6, .long (1 : Int64)), (8, .int u3), (9, .int (0 : Int32))] [4, 5, 6, 7, 3, 2, 1, 0] rfl ?_
    exact k_X5_stays_77 C X a1   q_N x1 x2 x3 (1 : Int64) (1 : Int64) u3 (0 : Int32) X'
set_option maxRecDepth 100000 in
set_option maxHeartbeats 4000000 in
theorem o_X5_stays (l : Launch) (X : (Nat → q_St)) (a1 : Int32) : q_Ok l yX5_stays cX5_stays 10 (some .long) 4 88 [.ref 50, .int a1] (w_X5 X) (f_X5_stays X a1) (fun u => some (.long u.1)) (fun u => w_X5 u.2) := by
  refine q_enter (by decide +kernel) (Nat.le_of_ble_eq_true rfl) (fun t p e s m args below meth c dC dI dA A α C => ?_)
  refine r_cut (f_X5_stays.eq_1 _ _) ?_
  show q_S p l e (q_rm 4 88) s m args below meth c 10 dC dI dA A α (MQ below (q_Q α dC dI dA A ((fun u => some (.long u.1)) t) ((fun u => w_X5 u.2) t)) args s 0 0 A) 0 0 _ t 0 [(0, .ref 50), (1, .int a1)] [] (w_X5 X)
  refine r_iload_n C 1 dX5_stays_0 rfl ?_
  refine r_if_lt C 9 dX5_stays_1 (by decide) (fun h1 => ?_) (fun h1 => ?_)
  · refine r_aload_n C 0 dX5_stays_9 rfl ?_
    refine r_ldc C (-1000001) dX5_stays_10 m_206 ?_
    refine r_callV0 C (o_X5_finding l X (-1000001 : Int32)) v_X5_finding m_207 [.int (-1000001 : Int32)] [] (50) (Or.inl ⟨0, 4, _, TX5, 8, rfl, rfl, rfl⟩) (fun u1 => [.int u1.1]) (fun u1 => w_X5 u1.2) rfl rfl rfl (Nat.le_of_ble_eq_true rfl) ⟨(Nat.le_of_ble_eq_true rfl), (Nat.le_of_ble_eq_true rfl)⟩ ⟨Nat.zero_le _, Nat.zero_le _⟩ dX5_stays_12 (fun _ => rfl) (fun _ => rfl) (fun _ => rfl) (fun u1 => ?_)
    refine r_i2l C dX5_stays_15 ?_
    exact r_retl (x := u1.1.toInt64) (rv := (fun u => some (.long u.1))) (hpE := (fun u => w_X5 u.2)) (t0 := (u1.1.toInt64, u1.2)) C dX5_stays_16 (by rfl) (by rfl) (by rfl)
  · refine r_iload_n C 1 dX5_stays_4 rfl ?_
    refine r_iconst C (1) dX5_stays_5 rfl ?_
    refine r_icmp_le C 17 dX5_stays_6 (by decide) (fun h6 => ?_) (fun h6 => ?_)
    · refine r_bipush C (10) dX5_stays_17 rfl ?_
      refine r_aload_n C 0 dX5_stays_19 rfl ?_
      refine r_get C 0 0 dX5_stays_20 K_X5 rfl rfl (Nat.le_of_ble_eq_true rfl) rfl m_174 rfl ?_
      refine r_get C 1 4 dX5_stays_23 K_X0 rfl rfl (Nat.le_of_ble_eq_true rfl) rfl m_44 rfl ?_
      refine r_isub C dX5_stays_26 ?_
      refine r_istore_n C [(2, .int ((10 : Int32) - (X 1).1 4)), (0, .ref 50), (1, .int a1)] dX5_stays_27 (Nat.le_of_ble_eq_true rfl) rfl ?_
      refine r_bipush C (10) dX5_stays_28 rfl ?_
      refine r_istore_n C [(3, .int (10 : Int32)), (2, .int ((10 : Int32) - (X 1).1 4)), (0, .ref 50), (1, .int a1)] dX5_stays_30 (Nat.le_of_ble_eq_true rfl) rfl ?_
      refine r_iload_n C 1 dX5_stays_31 rfl ?_
      refine r_iconst C (2) dX5_stays_32 rfl ?_
      refine r_irem C dX5_stays_33 (by decide) ?_
      refine r_if_ne C 45 dX5_stays_34 (by decide) (fun h34 => ?_) (fun h34 => ?_)
      · refine r_iload_n C 1 dX5_stays_37 rfl ?_
        refine r_iconst C (2) dX5_stays_38 rfl ?_
        refine r_idiv C dX5_stays_39 (by decide) ?_
        refine r_istore_n C [(2, .int (((10 : Int32) - (X 1).1 4) / (2 : Int32))), (3, .int (10 : Int32)), (0, .ref 50), (1, .int a1)] dX5_stays_40 (Nat.le_of_ble_eq_true rfl) rfl ?_
        refine r_iload_n C 1 dX5_stays_41 rfl ?_
        refine r_iconst C (2) dX5_stays_42 rfl ?_
        refine r_idiv C dX5_stays_43 (by decide) ?_
        refine r_istore_n C [(3, .int ((10 : Int32) / (2 : Int32))), (2, .int (((10 : Int32) - (X 1).1 4) / (2 : Int32))), (0, .ref 50), (1, .int a1)] dX5_stays_44 (Nat.le_of_ble_eq_true rfl) rfl ?_
        refine r_lv [(0, .ref 50), (1, .int a1), (2, .int (((10 : Int32) - (X 1).1 4) / (2 : Int32))), (3, .int ((10 : Int32) / (2 : Int32)))] [2, 3, 1, 0] rfl ?_
        exact k_X5_stays_45 C X a1   a1 (((10 : Int32) - (X 1).1 4) / (2 : Int32)) ((10 : Int32) / (2 : Int32)) X
      · refine r_lv [(0, .ref 50), (1, .int a1), (2, .int ((10 : Int32) - (X 1).1 4)), (3, .int (10 : Int32))] [2, 3, 1, 0] rfl ?_
        exact k_X5_stays_45 C X a1   a1 ((10 : Int32) - (X 1).1 4) (10 : Int32) X
    · refine r_aload_n C 0 dX5_stays_9 rfl ?_
      refine r_ldc C (-1000001) dX5_stays_10 m_206 ?_
      refine r_callV0 C (o_X5_finding l X (-1000001 : Int32)) v_X5_finding m_207 [.int (-1000001 : Int32)] [] (50) (Or.inl ⟨0, 4, _, TX5, 8, rfl, rfl, rfl⟩) (fun u2 => [.int u2.1]) (fun u2 => w_X5 u2.2) rfl rfl rfl (Nat.le_of_ble_eq_true rfl) ⟨(Nat.le_of_ble_eq_true rfl), (Nat.le_of_ble_eq_true rfl)⟩ ⟨Nat.zero_le _, Nat.zero_le _⟩ dX5_stays_12 (fun _ => rfl) (fun _ => rfl) (fun _ => rfl) (fun u2 => ?_)
      refine r_i2l C dX5_stays_15 ?_
      exact r_retl (x := u2.1.toInt64) (rv := (fun u => some (.long u.1))) (hpE := (fun u => w_X5 u.2)) (t0 := (u2.1.toInt64, u2.2)) C dX5_stays_16 (by rfl) (by rfl) (by rfl)
set_option maxRecDepth 100000 in
set_option maxHeartbeats 4000000 in
theorem k_X5_plays_41 {p : Program} {l : Launch} {e : Env} {s : State} {m : MethodId} {args : Array Value} {below : List Frame} {meth : Method} {c : Code} {dC : Nat → ClassId} {dI : Nat → Nat → Nat} {dA : Nat → ClassId} {A : Nat → Prop} {α : Nat → Nat} {t : Int32 × (Nat → q_St)} (C : q_Cx p s m args meth c cX5_plays 2 RX5 (some .int) "plays" dC dI dA A α) (X : (Nat → q_St))  : ∀ (n : Nat) (x1 : Int32) (X' : (Nat → q_St)), q_S p l e (q_rm 6 147) s m args below meth c 2 dC dI dA A α (MQ below (q_Q α dC dI dA A ((fun u => some (.int u.1)) t) ((fun u => w_X5 u.2) t)) args s 0 0 A) 0 0 (f_X5_plays_41 X  n x1 X') t 41 [(0, .ref 50), (1, .int x1)] [] (w_X5 X') := by
  intro n
  induction n with
  | zero =>
    intro x1 X'
    exact r_cut (f_X5_plays_41.eq_1 _ _ _) (r_none True.intro)
  | succ n ih =>
    intro x1 X'
    refine r_cut (f_X5_plays_41.eq_2 _ _ _ _) ?_
    refine r_iload_n C 1 dX5_plays_41 rfl ?_
    refine r_aload_n C 0 dX5_plays_42 rfl ?_
    refine r_get C 0 0 dX5_plays_43 K_X5 rfl rfl (Nat.le_of_ble_eq_true rfl) rfl m_174 rfl ?_
    refine r_get C 1 1 dX5_plays_46 K_X0 rfl rfl (Nat.le_of_ble_eq_true rfl) rfl m_36 rfl ?_
    refine r_icmp_ge C 92 dX5_plays_49 (by decide) (fun h49 => ?_) (fun h49 => ?_)
    · refine r_aload_n C 0 dX5_plays_92 rfl ?_
      refine r_get C 0 0 dX5_plays_93 K_X5 rfl rfl (Nat.le_of_ble_eq_true rfl) rfl m_174 rfl ?_
      refine r_callV C (o_X0_drawEvening l (X' 1)) v_X0_drawEvening m_644 [1, 2, 3, 4, 5, 6, 7] [] [] (51) (Or.inl ⟨1, 0, _, TX0, 16, rfl, rfl, rfl⟩) (fun u5 => [.int u5.1]) (fun u5 => w_X5 (va_up X' 1 u5.2)) rfl rfl rfl rfl rfl (Nat.le_of_ble_eq_true rfl) ⟨(Nat.le_of_ble_eq_true rfl), (Nat.le_of_ble_eq_true rfl)⟩ ⟨Nat.zero_le _, Nat.zero_le _⟩ dX5_plays_96 (fun _ => rfl) (fun _ => rfl) (fun _ => rfl) (fun u5 => ?_)
      refine r_istore_n C [(1, .int u5.1), (0, .ref 50)] dX5_plays_99 (Nat.le_of_ble_eq_true rfl) rfl ?_
      refine r_aload_n C 1 dX5_plays_100 rfl ?_
      refine r_get C 0 0 dX5_plays_101 K_X5 rfl rfl (Nat.le_of_ble_eq_true rfl) rfl m_174 rfl ?_
      refine r_dup C dX5_plays_104 rfl ?_
      refine r_get C 1 8 dX5_plays_105 K_X0 rfl rfl (Nat.le_of_ble_eq_true rfl) rfl m_53 rfl ?_
      refine r_aload_n C 1 dX5_plays_108 rfl ?_
      refine r_get C 0 0 dX5_plays_109 K_X5 rfl rfl (Nat.le_of_ble_eq_true rfl) rfl m_174 rfl ?_
      refine r_get C 1 1 dX5_plays_112 K_X0 rfl rfl (Nat.le_of_ble_eq_true rfl) rfl m_36 rfl ?_
      refine r_iadd C dX5_plays_115 ?_
      refine r_put C 1 8 _ dX5_plays_116 K_X0 rfl rfl (Nat.le_of_ble_eq_true rfl) rfl m_53 rfl (fun _ => rfl) (fun _ => rfl) (Nat.le_of_ble_eq_true rfl) rfl ?_
      refine r_aload_n C 1 dX5_plays_119 rfl ?_
      refine r_get C 0 0 dX5_plays_120 K_X5 rfl rfl (Nat.le_of_ble_eq_true rfl) rfl m_174 rfl ?_
      refine r_dup C dX5_plays_123 rfl ?_
      refine r_get C 1 9 dX5_plays_124 K_X0 rfl rfl (Nat.le_of_ble_eq_true rfl) rfl m_55 rfl ?_
      refine r_iload_n C 0 dX5_plays_127 rfl ?_
      refine r_iadd C dX5_plays_128 ?_
      refine r_put C 1 9 _ dX5_plays_129 K_X0 rfl rfl (Nat.le_of_ble_eq_true rfl) rfl m_55 rfl (fun _ => rfl) (fun _ => rfl) (Nat.le_of_ble_eq_true rfl) rfl ?_
      refine r_iload_n C 0 dX5_plays_132 rfl ?_
      exact r_reti (x := u5.1) (rv := (fun u => some (.int u.1))) (hpE := (fun u => w_X5 u.2)) (t0 := (u5.1, (va_up X' 1 ((va_up (va_up u5.2.1 8 (u5.2.1 8 + u5.2.1 1)) 9 (u5.2.1 9 + u5.1)), u5.2.2)))) C dX5_plays_133 (by rfl) (by rfl) (by rfl)
    · refine r_aload_n C 0 dX5_plays_52 rfl ?_
      refine r_get C 0 0 dX5_plays_53 K_X5 rfl rfl (Nat.le_of_ble_eq_true rfl) rfl m_174 rfl ?_
      refine r_iconst C (0) dX5_plays_56 rfl ?_
      refine r_aload_n C 0 dX5_plays_57 rfl ?_
      refine r_get C 0 3 dX5_plays_58 K_X5 rfl rfl (Nat.le_of_ble_eq_true rfl) rfl m_177 rfl ?_
      refine r_iload_n C 1 dX5_plays_61 rfl ?_
      refine r_callV C (o_X4_leftIn l (X' 4) x1) v_X4_leftIn m_489 [22, 23, 24, 25, 26, 27, 28] [.int x1] [.int (0 : Int32), .ref 51] (72) (Or.inl ⟨22, 3, _, TX4, 6, rfl, rfl, rfl⟩) (fun u6 => [.int u6, .int (0 : Int32), .ref 51]) (fun u6 => w_X5 X') rfl rfl rfl rfl rfl (Nat.le_of_ble_eq_true rfl) ⟨(Nat.le_of_ble_eq_true rfl), (Nat.le_of_ble_eq_true rfl)⟩ ⟨Nat.zero_le _, Nat.zero_le _⟩ dX5_plays_62 (fun _ => rfl) (fun _ => rfl) (fun _ => rfl) (fun u6 => ?_)
      refine r_callV C (o_X0_putInHand l (X' 1) (0 : Int32) u6) v_X0_putInHand m_388 [1, 2, 3, 4, 5, 6, 7] [.int (0 : Int32), .int u6] [] (51) (Or.inl ⟨1, 0, _, TX0, 16, rfl, rfl, rfl⟩) (fun u7 => [.int u7.1]) (fun u7 => w_X5 (va_up X' 1 u7.2)) rfl rfl rfl rfl rfl (Nat.le_of_ble_eq_true rfl) ⟨(Nat.le_of_ble_eq_true rfl), (Nat.le_of_ble_eq_true rfl)⟩ ⟨Nat.zero_le _, Nat.zero_le _⟩ dX5_plays_65 (fun _ => rfl) (fun _ => rfl) (fun _ => rfl) (fun u7 => ?_)
      refine r_pop C dX5_plays_68 rfl ?_
      refine r_aload_n C 0 dX5_plays_69 rfl ?_
      refine r_get C 0 0 dX5_plays_70 K_X5 rfl rfl (Nat.le_of_ble_eq_true rfl) rfl m_174 rfl ?_
      refine r_iconst C (1) dX5_plays_73 rfl ?_
      refine r_aload_n C 0 dX5_plays_74 rfl ?_
      refine r_get C 0 3 dX5_plays_75 K_X5 rfl rfl (Nat.le_of_ble_eq_true rfl) rfl m_177 rfl ?_
      refine r_iload_n C 1 dX5_plays_78 rfl ?_
      refine r_callV C (o_X4_rightIn l (X' 4) x1) v_X4_rightIn m_493 [22, 23, 24, 25, 26, 27, 28] [.int x1] [.int (1 : Int32), .ref 51] (72) (Or.inl ⟨22, 3, _, TX4, 6, rfl, rfl, rfl⟩) (fun u8 => [.int u8, .int (1 : Int32), .ref 51]) (fun u8 => w_X5 (va_up X' 1 u7.2)) rfl rfl rfl rfl rfl (Nat.le_of_ble_eq_true rfl) ⟨(Nat.le_of_ble_eq_true rfl), (Nat.le_of_ble_eq_true rfl)⟩ ⟨Nat.zero_le _, Nat.zero_le _⟩ dX5_plays_79 (fun _ => rfl) (fun _ => rfl) (fun _ => rfl) (fun u8 => ?_)
      refine r_callV C (o_X0_putInHand l u7.2 (1 : Int32) u8) v_X0_putInHand m_388 [1, 2, 3, 4, 5, 6, 7] [.int (1 : Int32), .int u8] [] (51) (Or.inl ⟨1, 0, _, TX0, 16, rfl, rfl, rfl⟩) (fun u9 => [.int u9.1]) (fun u9 => w_X5 (va_up X' 1 u9.2)) rfl rfl rfl rfl rfl (Nat.le_of_ble_eq_true rfl) ⟨(Nat.le_of_ble_eq_true rfl), (Nat.le_of_ble_eq_true rfl)⟩ ⟨Nat.zero_le _, Nat.zero_le _⟩ dX5_plays_82 (fun _ => rfl) (fun _ => rfl) (fun _ => rfl) (fun u9 => ?_)
      refine r_pop C dX5_plays_85 rfl ?_
      refine r_iinc C 1 (x1 + 1) [(1, .int (x1 + 1)), (0, .ref 50)] dX5_plays_86 rfl rfl (Nat.le_of_ble_eq_true rfl) rfl ?_
      refine r_goto C 41 dX5_plays_89 (by decide) ?_
      refine r_lv [(0, .ref 50), (1, .int (x1 + 1))] [1, 0] rfl ?_
      exact ih (x1 + 1) (va_up X' 1 u9.2)
set_option maxRecDepth 100000 in
set_option maxHeartbeats 4000000 in
theorem o_X5_plays (l : Launch) (X : (Nat → q_St)) : q_Ok l yX5_plays cX5_plays 2 (some .int) 6 147 [.ref 50] (w_X5 X) (f_X5_plays X) (fun u => some (.int u.1)) (fun u => w_X5 u.2) := by
  refine q_enter (by decide +kernel) (Nat.le_of_ble_eq_true rfl) (fun t p e s m args below meth c dC dI dA A α C => ?_)
  refine r_cut (f_X5_plays.eq_1 _) ?_
  show q_S p l e (q_rm 6 147) s m args below meth c 2 dC dI dA A α (MQ below (q_Q α dC dI dA A ((fun u => some (.int u.1)) t) ((fun u => w_X5 u.2) t)) args s 0 0 A) 0 0 _ t 0 [(0, .ref 50)] [] (w_X5 X)
  refine r_aload_n C 0 dX5_plays_0 rfl ?_
  refine r_get C 0 0 dX5_plays_1 K_X5 rfl rfl (Nat.le_of_ble_eq_true rfl) rfl m_174 rfl ?_
  refine r_get C 1 1 dX5_plays_4 K_X0 rfl rfl (Nat.le_of_ble_eq_true rfl) rfl m_36 rfl ?_
  refine r_if_eq C 20 dX5_plays_7 (by decide) (fun h7 => ?_) (fun h7 => ?_)
  · refine r_aload_n C 0 dX5_plays_20 rfl ?_
    refine r_ldc C (-1000005) dX5_plays_21 m_387 ?_
    refine r_callV0 C (o_X5_finding l X (-1000005 : Int32)) v_X5_finding m_207 [.int (-1000005 : Int32)] [] (50) (Or.inl ⟨0, 4, _, TX5, 8, rfl, rfl, rfl⟩) (fun u1 => [.int u1.1]) (fun u1 => w_X5 u1.2) rfl rfl rfl (Nat.le_of_ble_eq_true rfl) ⟨(Nat.le_of_ble_eq_true rfl), (Nat.le_of_ble_eq_true rfl)⟩ ⟨Nat.zero_le _, Nat.zero_le _⟩ dX5_plays_23 (fun _ => rfl) (fun _ => rfl) (fun _ => rfl) (fun u1 => ?_)
    exact r_reti (x := u1.1) (rv := (fun u => some (.int u.1))) (hpE := (fun u => w_X5 u.2)) (t0 := (u1.1, u1.2)) C dX5_plays_26 (by rfl) (by rfl) (by rfl)
  · refine r_aload_n C 0 dX5_plays_10 rfl ?_
    refine r_get C 0 0 dX5_plays_11 K_X5 rfl rfl (Nat.le_of_ble_eq_true rfl) rfl m_174 rfl ?_
    refine r_callV C (o_X0_isGoing l (X 1)) v_X0_isGoing m_431 [1, 2, 3, 4, 5, 6, 7] [] [] (51) (Or.inl ⟨1, 0, _, TX0, 16, rfl, rfl, rfl⟩) (fun u2 => [.int u2]) (fun u2 => w_X5 X) rfl rfl rfl rfl rfl (Nat.le_of_ble_eq_true rfl) ⟨(Nat.le_of_ble_eq_true rfl), (Nat.le_of_ble_eq_true rfl)⟩ ⟨Nat.zero_le _, Nat.zero_le _⟩ dX5_plays_14 (fun _ => rfl) (fun _ => rfl) (fun _ => rfl) (fun u2 => ?_)
    refine r_if_ne C 27 dX5_plays_17 (by decide) (fun h17 => ?_) (fun h17 => ?_)
    · refine r_aload_n C 0 dX5_plays_20 rfl ?_
      refine r_ldc C (-1000005) dX5_plays_21 m_387 ?_
      refine r_callV0 C (o_X5_finding l X (-1000005 : Int32)) v_X5_finding m_207 [.int (-1000005 : Int32)] [] (50) (Or.inl ⟨0, 4, _, TX5, 8, rfl, rfl, rfl⟩) (fun u4 => [.int u4.1]) (fun u4 => w_X5 u4.2) rfl rfl rfl (Nat.le_of_ble_eq_true rfl) ⟨(Nat.le_of_ble_eq_true rfl), (Nat.le_of_ble_eq_true rfl)⟩ ⟨Nat.zero_le _, Nat.zero_le _⟩ dX5_plays_23 (fun _ => rfl) (fun _ => rfl) (fun _ => rfl) (fun u4 => ?_)
      exact r_reti (x := u4.1) (rv := (fun u => some (.int u.1))) (hpE := (fun u => w_X5 u.2)) (t0 := (u4.1, u4.2)) C dX5_plays_26 (by rfl) (by rfl) (by rfl)
    · refine r_aload_n C 0 dX5_plays_27 rfl ?_
      refine r_get C 0 3 dX5_plays_28 K_X5 rfl rfl (Nat.le_of_ble_eq_true rfl) rfl m_177 rfl ?_
      refine r_aload_n C 0 dX5_plays_31 rfl ?_
      refine r_get C 0 0 dX5_plays_32 K_X5 rfl rfl (Nat.le_of_ble_eq_true rfl) rfl m_174 rfl ?_
      refine r_iconst C (0) dX5_plays_35 rfl ?_
      refine r_callV C (o_X4_follow l (X 4) (X 1) (0 : Int32)) v_X4_follow m_475 [22, 23, 24, 25, 26, 27, 28, 1, 2, 3, 4, 5, 6, 7] [.ref 51, .int (0 : Int32)] [] (72) (Or.inl ⟨22, 3, _, TX4, 6, rfl, rfl, rfl⟩) (fun u3 => []) (fun u3 => w_X5 (va_up X 4 u3)) rfl rfl rfl rfl rfl (Nat.le_of_ble_eq_true rfl) ⟨(Nat.le_of_ble_eq_true rfl), (Nat.le_of_ble_eq_true rfl)⟩ ⟨Nat.zero_le _, Nat.zero_le _⟩ dX5_plays_36 (fun _ => rfl) (fun _ => rfl) (fun _ => rfl) (fun u3 => ?_)
      refine r_iconst C (0) dX5_plays_39 rfl ?_
      refine r_istore_n C [(1, .int (0 : Int32)), (0, .ref 50)] dX5_plays_40 (Nat.le_of_ble_eq_true rfl) rfl ?_
      refine r_lv [(0, .ref 50), (1, .int (0 : Int32))] [1, 0] rfl ?_
      exact k_X5_plays_41 C X   q_N (0 : Int32) (va_up X 4 u3)
set_option maxRecDepth 100000 in
set_option maxHeartbeats 4000000 in
theorem k_X5_ahead_59 {p : Program} {l : Launch} {e : Env} {s : State} {m : MethodId} {args : Array Value} {below : List Frame} {meth : Method} {c : Code} {dC : Nat → ClassId} {dI : Nat → Nat → Nat} {dA : Nat → ClassId} {A : Nat → Prop} {α : Nat → Nat} {t : Int32 × (Nat → q_St)} (C : q_Cx p s m args meth c cX5_ahead 4 RX5 (some .int) "ahead" dC dI dA A α) (X : (Nat → q_St)) (a1 : Int32)  : ∀ (n : Nat) (x1 : Int32) (x2 : Int32) (x3 : Int32) (X' : (Nat → q_St)), q_S p l e (q_rm 6 131) s m args below meth c 4 dC dI dA A α (MQ below (q_Q α dC dI dA A ((fun u => some (.int u.1)) t) ((fun u => w_X5 u.2) t)) args s 0 0 A) 0 0 (f_X5_ahead_59 X a1  n x1 x2 x3 X') t 59 [(0, .ref 50), (1, .int x1), (2, .int x2), (3, .int x3)] [] (w_X5 X') := by
  intro n
  induction n with
  | zero =>
    intro x1 x2 x3 X'
    exact r_cut (f_X5_ahead_59.eq_1 _ _ _ _ _ _) (r_none True.intro)
  | succ n ih =>
    intro x1 x2 x3 X'
    refine r_cut (f_X5_ahead_59.eq_2 _ _ _ _ _ _ _) ?_
    refine r_iload_n C 3 dX5_ahead_59 rfl ?_
    refine r_iload_n C 1 dX5_ahead_60 rfl ?_
    refine r_icmp_ge C 80 dX5_ahead_61 (by decide) (fun h61 => ?_) (fun h61 => ?_)
    · refine r_iload_n C 2 dX5_ahead_80 rfl ?_
      exact r_reti (x := x2) (rv := (fun u => some (.int u.1))) (hpE := (fun u => w_X5 u.2)) (t0 := (x2, X')) C dX5_ahead_81 (by rfl) (by rfl) (by rfl)
    · refine r_iload_n C 2 dX5_ahead_64 rfl ?_
      refine r_aload_n C 0 dX5_ahead_65 rfl ?_
      refine r_get C 0 2 dX5_ahead_66 K_X5 rfl rfl (Nat.le_of_ble_eq_true rfl) rfl m_176 rfl ?_
      refine r_callV C (o_X0_drawEvening l (X' 3)) v_X0_drawEvening m_644 [15, 16, 17, 18, 19, 20, 21] [] [.int x2] (65) (Or.inl ⟨15, 0, _, TX0, 16, rfl, rfl, rfl⟩) (fun u7 => [.int u7.1, .int x2]) (fun u7 => w_X5 (va_up X' 3 u7.2)) rfl rfl rfl rfl rfl (Nat.le_of_ble_eq_true rfl) ⟨(Nat.le_of_ble_eq_true rfl), (Nat.le_of_ble_eq_true rfl)⟩ ⟨Nat.zero_le _, Nat.zero_le _⟩ dX5_ahead_69 (fun _ => rfl) (fun _ => rfl) (fun _ => rfl) (fun u7 => ?_)
      refine r_iadd C dX5_ahead_72 ?_
      refine r_istore_n C [(2, .int (x2 + u7.1)), (0, .ref 50), (1, .int x1), (3, .int x3)] dX5_ahead_73 (Nat.le_of_ble_eq_true rfl) rfl ?_
      refine r_iinc C 3 (x3 + 1) [(3, .int (x3 + 1)), (2, .int (x2 + u7.1)), (0, .ref 50), (1, .int x1)] dX5_ahead_74 rfl rfl (Nat.le_of_ble_eq_true rfl) rfl ?_
      refine r_goto C 59 dX5_ahead_77 (by decide) ?_
      refine r_lv [(0, .ref 50), (1, .int x1), (2, .int (x2 + u7.1)), (3, .int (x3 + 1))] [2, 3, 1, 0] rfl ?_
      exact ih x1 (x2 + u7.1) (x3 + 1) (va_up X' 3 u7.2)
set_option maxRecDepth 100000 in
set_option maxHeartbeats 4000000 in
theorem o_X5_ahead (l : Launch) (X : (Nat → q_St)) (a1 : Int32) : q_Ok l yX5_ahead cX5_ahead 4 (some .int) 6 131 [.ref 50, .int a1] (w_X5 X) (f_X5_ahead X a1) (fun u => some (.int u.1)) (fun u => w_X5 u.2) := by
  refine q_enter (by decide +kernel) (Nat.le_of_ble_eq_true rfl) (fun t p e s m args below meth c dC dI dA A α C => ?_)
  refine r_cut (f_X5_ahead.eq_1 _ _) ?_
  show q_S p l e (q_rm 6 131) s m args below meth c 4 dC dI dA A α (MQ below (q_Q α dC dI dA A ((fun u => some (.int u.1)) t) ((fun u => w_X5 u.2) t)) args s 0 0 A) 0 0 _ t 0 [(0, .ref 50), (1, .int a1)] [] (w_X5 X)
  refine r_iload_n C 1 dX5_ahead_0 rfl ?_
  refine r_if_lt C 10 dX5_ahead_1 (by decide) (fun h1 => ?_) (fun h1 => ?_)
  · refine r_aload_n C 0 dX5_ahead_10 rfl ?_
    refine r_ldc C (-1000001) dX5_ahead_11 m_206 ?_
    refine r_callV0 C (o_X5_finding l X (-1000001 : Int32)) v_X5_finding m_207 [.int (-1000001 : Int32)] [] (50) (Or.inl ⟨0, 4, _, TX5, 8, rfl, rfl, rfl⟩) (fun u1 => [.int u1.1]) (fun u1 => w_X5 u1.2) rfl rfl rfl (Nat.le_of_ble_eq_true rfl) ⟨(Nat.le_of_ble_eq_true rfl), (Nat.le_of_ble_eq_true rfl)⟩ ⟨Nat.zero_le _, Nat.zero_le _⟩ dX5_ahead_13 (fun _ => rfl) (fun _ => rfl) (fun _ => rfl) (fun u1 => ?_)
    exact r_reti (x := u1.1) (rv := (fun u => some (.int u.1))) (hpE := (fun u => w_X5 u.2)) (t0 := (u1.1, u1.2)) C dX5_ahead_16 (by rfl) (by rfl) (by rfl)
  · refine r_iload_n C 1 dX5_ahead_4 rfl ?_
    refine r_bipush C (20) dX5_ahead_5 rfl ?_
    refine r_icmp_le C 17 dX5_ahead_7 (by decide) (fun h7 => ?_) (fun h7 => ?_)
    · refine r_aload_n C 0 dX5_ahead_17 rfl ?_
      refine r_get C 0 0 dX5_ahead_18 K_X5 rfl rfl (Nat.le_of_ble_eq_true rfl) rfl m_174 rfl ?_
      refine r_get C 1 1 dX5_ahead_21 K_X0 rfl rfl (Nat.le_of_ble_eq_true rfl) rfl m_36 rfl ?_
      refine r_if_eq C 37 dX5_ahead_24 (by decide) (fun h24 => ?_) (fun h24 => ?_)
      · refine r_aload_n C 0 dX5_ahead_37 rfl ?_
        refine r_ldc C (-1000005) dX5_ahead_38 m_387 ?_
        refine r_callV0 C (o_X5_finding l X (-1000005 : Int32)) v_X5_finding m_207 [.int (-1000005 : Int32)] [] (50) (Or.inl ⟨0, 4, _, TX5, 8, rfl, rfl, rfl⟩) (fun u2 => [.int u2.1]) (fun u2 => w_X5 u2.2) rfl rfl rfl (Nat.le_of_ble_eq_true rfl) ⟨(Nat.le_of_ble_eq_true rfl), (Nat.le_of_ble_eq_true rfl)⟩ ⟨Nat.zero_le _, Nat.zero_le _⟩ dX5_ahead_40 (fun _ => rfl) (fun _ => rfl) (fun _ => rfl) (fun u2 => ?_)
        exact r_reti (x := u2.1) (rv := (fun u => some (.int u.1))) (hpE := (fun u => w_X5 u.2)) (t0 := (u2.1, u2.2)) C dX5_ahead_43 (by rfl) (by rfl) (by rfl)
      · refine r_aload_n C 0 dX5_ahead_27 rfl ?_
        refine r_get C 0 0 dX5_ahead_28 K_X5 rfl rfl (Nat.le_of_ble_eq_true rfl) rfl m_174 rfl ?_
        refine r_callV C (o_X0_isGoing l (X 1)) v_X0_isGoing m_431 [1, 2, 3, 4, 5, 6, 7] [] [] (51) (Or.inl ⟨1, 0, _, TX0, 16, rfl, rfl, rfl⟩) (fun u3 => [.int u3]) (fun u3 => w_X5 X) rfl rfl rfl rfl rfl (Nat.le_of_ble_eq_true rfl) ⟨(Nat.le_of_ble_eq_true rfl), (Nat.le_of_ble_eq_true rfl)⟩ ⟨Nat.zero_le _, Nat.zero_le _⟩ dX5_ahead_31 (fun _ => rfl) (fun _ => rfl) (fun _ => rfl) (fun u3 => ?_)
        refine r_if_ne C 44 dX5_ahead_34 (by decide) (fun h34 => ?_) (fun h34 => ?_)
        · refine r_aload_n C 0 dX5_ahead_37 rfl ?_
          refine r_ldc C (-1000005) dX5_ahead_38 m_387 ?_
          refine r_callV0 C (o_X5_finding l X (-1000005 : Int32)) v_X5_finding m_207 [.int (-1000005 : Int32)] [] (50) (Or.inl ⟨0, 4, _, TX5, 8, rfl, rfl, rfl⟩) (fun u5 => [.int u5.1]) (fun u5 => w_X5 u5.2) rfl rfl rfl (Nat.le_of_ble_eq_true rfl) ⟨(Nat.le_of_ble_eq_true rfl), (Nat.le_of_ble_eq_true rfl)⟩ ⟨Nat.zero_le _, Nat.zero_le _⟩ dX5_ahead_40 (fun _ => rfl) (fun _ => rfl) (fun _ => rfl) (fun u5 => ?_)
          exact r_reti (x := u5.1) (rv := (fun u => some (.int u.1))) (hpE := (fun u => w_X5 u.2)) (t0 := (u5.1, u5.2)) C dX5_ahead_43 (by rfl) (by rfl) (by rfl)
        · refine r_aload_n C 0 dX5_ahead_44 rfl ?_
          refine r_get C 0 2 dX5_ahead_45 K_X5 rfl rfl (Nat.le_of_ble_eq_true rfl) rfl m_176 rfl ?_
          refine r_aload_n C 0 dX5_ahead_48 rfl ?_
          refine r_get C 0 0 dX5_ahead_49 K_X5 rfl rfl (Nat.le_of_ble_eq_true rfl) rfl m_174 rfl ?_
          refine r_callV C (o_X0_take l (X 3) (X 1)) v_X0_take m_501 [15, 16, 17, 18, 19, 20, 21, 1, 2, 3, 4, 5, 6, 7] [.ref 51] [] (65) (Or.inl ⟨15, 0, _, TX0, 16, rfl, rfl, rfl⟩) (fun u4 => []) (fun u4 => w_X5 (va_up X 3 u4)) rfl rfl rfl rfl rfl (Nat.le_of_ble_eq_true rfl) ⟨(Nat.le_of_ble_eq_true rfl), (Nat.le_of_ble_eq_true rfl)⟩ ⟨Nat.zero_le _, Nat.zero_le _⟩ dX5_ahead_52 (fun _ => rfl) (fun _ => rfl) (fun _ => rfl) (fun u4 => ?_)
          refine r_iconst C (0) dX5_ahead_55 rfl ?_
          refine r_istore_n C [(2, .int (0 : Int32)), (0, .ref 50), (1, .int a1)] dX5_ahead_56 (Nat.le_of_ble_eq_true rfl) rfl ?_
          refine r_iconst C (0) dX5_ahead_57 rfl ?_
          refine r_istore_n C [(3, .int (0 : Int32)), (2, .int (0 : Int32)), (0, .ref 50), (1, .int a1)] dX5_ahead_58 (Nat.le_of_ble_eq_true rfl) rfl ?_
          refine r_lv [(0, .ref 50), (1, .int a1), (2, .int (0 : Int32)), (3, .int (0 : Int32))] [2, 3, 1, 0] rfl ?_
          exact k_X5_ahead_59 C X a1   q_N a1 (0 : Int32) (0 : Int32) (va_up X 3 u4)
    · refine r_aload_n C 0 dX5_ahead_10 rfl ?_
      refine r_ldc C (-1000001) dX5_ahead_11 m_206 ?_
      refine r_callV0 C (o_X5_finding l X (-1000001 : Int32)) v_X5_finding m_207 [.int (-1000001 : Int32)] [] (50) (Or.inl ⟨0, 4, _, TX5, 8, rfl, rfl, rfl⟩) (fun u6 => [.int u6.1]) (fun u6 => w_X5 u6.2) rfl rfl rfl (Nat.le_of_ble_eq_true rfl) ⟨(Nat.le_of_ble_eq_true rfl), (Nat.le_of_ble_eq_true rfl)⟩ ⟨Nat.zero_le _, Nat.zero_le _⟩ dX5_ahead_13 (fun _ => rfl) (fun _ => rfl) (fun _ => rfl) (fun u6 => ?_)
      exact r_reti (x := u6.1) (rv := (fun u => some (.int u.1))) (hpE := (fun u => w_X5 u.2)) (t0 := (u6.1, u6.2)) C dX5_ahead_16 (by rfl) (by rfl) (by rfl)
set_option maxRecDepth 100000 in
set_option maxHeartbeats 4000000 in
theorem o_X5_seed (l : Launch) (X : (Nat → q_St)) (a1 : Int32) : q_Ok l yX5_seed cX5_seed 3 (some .int) 0 0 [.ref 50, .int a1] (w_X5 X) (f_X5_seed X a1) (fun u => some (.int u.1)) (fun u => w_X5 u.2) := by
  refine q_enter (by decide +kernel) (Nat.le_of_ble_eq_true rfl) (fun t p e s m args below meth c dC dI dA A α C => ?_)
  refine r_cut (f_X5_seed.eq_1 _ _) ?_
  show q_S p l e (q_rm 0 0) s m args below meth c 3 dC dI dA A α (MQ below (q_Q α dC dI dA A ((fun u => some (.int u.1)) t) ((fun u => w_X5 u.2) t)) args s 0 0 A) 0 0 _ t 0 [(0, .ref 50), (1, .int a1)] [] (w_X5 X)
  refine r_aload_n C 0 dX5_seed_0 rfl ?_
  refine r_get C 0 0 dX5_seed_1 K_X5 rfl rfl (Nat.le_of_ble_eq_true rfl) rfl m_174 rfl ?_
  refine r_get C 1 5 dX5_seed_4 K_X0 rfl rfl (Nat.le_of_ble_eq_true rfl) rfl m_47 rfl ?_
  refine r_istore_n C [(2, .int ((X 1).1 5)), (0, .ref 50), (1, .int a1)] dX5_seed_7 (Nat.le_of_ble_eq_true rfl) rfl ?_
  refine r_aload_n C 1 dX5_seed_8 rfl ?_
  refine r_get C 0 0 dX5_seed_9 K_X5 rfl rfl (Nat.le_of_ble_eq_true rfl) rfl m_174 rfl ?_
  refine r_iload_n C 2 dX5_seed_12 rfl ?_
  refine r_put C 1 5 _ dX5_seed_13 K_X0 rfl rfl (Nat.le_of_ble_eq_true rfl) rfl m_47 rfl (fun _ => rfl) (fun _ => rfl) (Nat.le_of_ble_eq_true rfl) rfl ?_
  refine r_iload_n C 0 dX5_seed_16 rfl ?_
  exact r_reti (x := (X 1).1 5) (rv := (fun u => some (.int u.1))) (hpE := (fun u => w_X5 u.2)) (t0 := ((X 1).1 5, (va_up X 1 ((va_up (X 1).1 5 a1), (X 1).2)))) C dX5_seed_17 (by rfl) (by rfl) (by rfl)
set_option maxRecDepth 100000 in
set_option maxHeartbeats 4000000 in
theorem k_X5_feed_42 {p : Program} {l : Launch} {e : Env} {s : State} {m : MethodId} {args : Array Value} {below : List Frame} {meth : Method} {c : Code} {dC : Nat → ClassId} {dI : Nat → Nat → Nat} {dA : Nat → ClassId} {A : Nat → Prop} {α : Nat → Nat} {t : Int32 × (Nat → q_St)} (C : q_Cx p s m args meth c cX5_feed 4 RX5 (some .int) "feed" dC dI dA A α) (X : (Nat → q_St)) (a1 : Int32) (a2 : Int32)  : ∀ (n : Nat) (x1 : Int32) (x3 : Int32) (X' : (Nat → q_St)), q_S p l e (q_rm 1 22) s m args below meth c 4 dC dI dA A α (MQ below (q_Q α dC dI dA A ((fun u => some (.int u.1)) t) ((fun u => w_X5 u.2) t)) args s 0 0 A) 0 0 (f_X5_feed_42 X a1 a2  n x1 x3 X') t 42 [(0, .ref 50), (1, .int x1), (3, .int x3)] [] (w_X5 X') := by
  intro n
  induction n with
  | zero =>
    intro x1 x3 X'
    exact r_cut (f_X5_feed_42.eq_1 _ _ _ _ _ _) (r_none True.intro)
  | succ n ih =>
    intro x1 x3 X'
    refine r_cut (f_X5_feed_42.eq_2 _ _ _ _ _ _ _) ?_
    refine r_iload_n C 2 dX5_feed_42 rfl ?_
    refine r_if_lt C 69 dX5_feed_43 (by decide) (fun h43 => ?_) (fun h43 => ?_)
    · refine r_aload_n C 0 dX5_feed_69 rfl ?_
      refine r_get C 0 4 dX5_feed_70 K_X5 rfl rfl (Nat.le_of_ble_eq_true rfl) rfl m_178 rfl ?_
      refine r_get C 29 0 dX5_feed_73 K_X3 rfl rfl (Nat.le_of_ble_eq_true rfl) rfl m_128 rfl ?_
      exact r_reti (x := (X' 5).1 0) (rv := (fun u => some (.int u.1))) (hpE := (fun u => w_X5 u.2)) (t0 := ((X' 5).1 0, X')) C dX5_feed_76 (by rfl) (by rfl) (by rfl)
    · refine r_aload_n C 0 dX5_feed_46 rfl ?_
      refine r_get C 0 4 dX5_feed_47 K_X5 rfl rfl (Nat.le_of_ble_eq_true rfl) rfl m_178 rfl ?_
      refine r_iload_n C 1 dX5_feed_50 rfl ?_
      refine r_bipush C (8) dX5_feed_51 rfl ?_
      refine r_iload_n C 2 dX5_feed_53 rfl ?_
      refine r_imul C dX5_feed_54 ?_
      refine r_iushr C dX5_feed_55 ?_
      refine r_sipush C (255) dX5_feed_56 rfl ?_
      refine r_iand C dX5_feed_59 ?_
      refine r_callV C (o_X3_append l (X' 5) ((x1.toUInt32 >>> (((8 : Int32) * x3).toUInt32 &&& Int32.toUInt32 31)).toInt32 &&& (255 : Int32))) v_X3_append m_665 [29, 30] [.int ((x1.toUInt32 >>> (((8 : Int32) * x3).toUInt32 &&& Int32.toUInt32 31)).toInt32 &&& (255 : Int32))] [] (79) (Or.inl ⟨29, 2, _, TX3, 8, rfl, rfl, rfl⟩) (fun u4 => []) (fun u4 => w_X5 (va_up X' 5 u4)) rfl rfl rfl rfl rfl (Nat.le_of_ble_eq_true rfl) ⟨(Nat.le_of_ble_eq_true rfl), (Nat.le_of_ble_eq_true rfl)⟩ ⟨Nat.zero_le _, Nat.zero_le _⟩ dX5_feed_60 (fun _ => rfl) (fun _ => rfl) (fun _ => rfl) (fun u4 => ?_)
      refine r_iinc C 2 (x3 + (-1)) [(3, .int (x3 + (-1))), (0, .ref 50), (1, .int x1)] dX5_feed_63 rfl rfl (Nat.le_of_ble_eq_true rfl) rfl ?_
      refine r_goto C 42 dX5_feed_66 (by decide) ?_
      refine r_lv [(0, .ref 50), (1, .int x1), (3, .int (x3 + (-1)))] [1, 2, 0] rfl ?_
      exact ih x1 (x3 + (-1)) (va_up X' 5 u4)
set_option maxRecDepth 100000 in
set_option maxHeartbeats 4000000 in
theorem o_X5_feed (l : Launch) (X : (Nat → q_St)) (a1 : Int32) (a2 : Int32) : q_Ok l yX5_feed cX5_feed 4 (some .int) 1 22 [.ref 50, .int a1, .int a2] (w_X5 X) (f_X5_feed X a1 a2) (fun u => some (.int u.1)) (fun u => w_X5 u.2) := by
  refine q_enter (by decide +kernel) (Nat.le_of_ble_eq_true rfl) (fun t p e s m args below meth c dC dI dA A α C => ?_)
  refine r_cut (f_X5_feed.eq_1 _ _ _) ?_
  show q_S p l e (q_rm 1 22) s m args below meth c 4 dC dI dA A α (MQ below (q_Q α dC dI dA A ((fun u => some (.int u.1)) t) ((fun u => w_X5 u.2) t)) args s 0 0 A) 0 0 _ t 0 [(0, .ref 50), (1, .int a1), (2, .int a2)] [] (w_X5 X)
  refine r_iload_n C 2 dX5_feed_0 rfl ?_
  refine r_iconst C (1) dX5_feed_1 rfl ?_
  refine r_icmp_lt C 10 dX5_feed_2 (by decide) (fun h2 => ?_) (fun h2 => ?_)
  · refine r_aload_n C 0 dX5_feed_10 rfl ?_
    refine r_ldc C (-1000001) dX5_feed_11 m_206 ?_
    refine r_callV0 C (o_X5_finding l X (-1000001 : Int32)) v_X5_finding m_207 [.int (-1000001 : Int32)] [] (50) (Or.inl ⟨0, 4, _, TX5, 8, rfl, rfl, rfl⟩) (fun u1 => [.int u1.1]) (fun u1 => w_X5 u1.2) rfl rfl rfl (Nat.le_of_ble_eq_true rfl) ⟨(Nat.le_of_ble_eq_true rfl), (Nat.le_of_ble_eq_true rfl)⟩ ⟨Nat.zero_le _, Nat.zero_le _⟩ dX5_feed_13 (fun _ => rfl) (fun _ => rfl) (fun _ => rfl) (fun u1 => ?_)
    exact r_reti (x := u1.1) (rv := (fun u => some (.int u.1))) (hpE := (fun u => w_X5 u.2)) (t0 := (u1.1, u1.2)) C dX5_feed_16 (by rfl) (by rfl) (by rfl)
  · refine r_iload_n C 2 dX5_feed_5 rfl ?_
    refine r_iconst C (4) dX5_feed_6 rfl ?_
    refine r_icmp_le C 17 dX5_feed_7 (by decide) (fun h7 => ?_) (fun h7 => ?_)
    · refine r_aload_n C 0 dX5_feed_17 rfl ?_
      refine r_get C 0 4 dX5_feed_18 K_X5 rfl rfl (Nat.le_of_ble_eq_true rfl) rfl m_178 rfl ?_
      refine r_get C 29 0 dX5_feed_21 K_X3 rfl rfl (Nat.le_of_ble_eq_true rfl) rfl m_128 rfl ?_
      refine r_iload_n C 2 dX5_feed_24 rfl ?_
      refine r_iadd C dX5_feed_25 ?_
      refine r_bipush C (120) dX5_feed_26 rfl ?_
      refine r_icmp_le C 38 dX5_feed_28 (by decide) (fun h28 => ?_) (fun h28 => ?_)
      · refine r_iload_n C 2 dX5_feed_38 rfl ?_
        refine r_iconst C (1) dX5_feed_39 rfl ?_
        refine r_isub C dX5_feed_40 ?_
        refine r_istore_n C [(3, .int (a2 - (1 : Int32))), (0, .ref 50), (1, .int a1), (2, .int a2)] dX5_feed_41 (Nat.le_of_ble_eq_true rfl) rfl ?_
        refine r_lv [(0, .ref 50), (1, .int a1), (3, .int (a2 - (1 : Int32)))] [1, 2, 0] rfl ?_
        exact k_X5_feed_42 C X a1 a2   q_N a1 (a2 - (1 : Int32)) X
      · refine r_aload_n C 0 dX5_feed_31 rfl ?_
        refine r_ldc C (-1000002) dX5_feed_32 m_211 ?_
        refine r_callV0 C (o_X5_finding l X (-1000002 : Int32)) v_X5_finding m_207 [.int (-1000002 : Int32)] [] (50) (Or.inl ⟨0, 4, _, TX5, 8, rfl, rfl, rfl⟩) (fun u2 => [.int u2.1]) (fun u2 => w_X5 u2.2) rfl rfl rfl (Nat.le_of_ble_eq_true rfl) ⟨(Nat.le_of_ble_eq_true rfl), (Nat.le_of_ble_eq_true rfl)⟩ ⟨Nat.zero_le _, Nat.zero_le _⟩ dX5_feed_34 (fun _ => rfl) (fun _ => rfl) (fun _ => rfl) (fun u2 => ?_)
        exact r_reti (x := u2.1) (rv := (fun u => some (.int u.1))) (hpE := (fun u => w_X5 u.2)) (t0 := (u2.1, u2.2)) C dX5_feed_37 (by rfl) (by rfl) (by rfl)
    · refine r_aload_n C 0 dX5_feed_10 rfl ?_
      refine r_ldc C (-1000001) dX5_feed_11 m_206 ?_
      refine r_callV0 C (o_X5_finding l X (-1000001 : Int32)) v_X5_finding m_207 [.int (-1000001 : Int32)] [] (50) (Or.inl ⟨0, 4, _, TX5, 8, rfl, rfl, rfl⟩) (fun u3 => [.int u3.1]) (fun u3 => w_X5 u3.2) rfl rfl rfl (Nat.le_of_ble_eq_true rfl) ⟨(Nat.le_of_ble_eq_true rfl), (Nat.le_of_ble_eq_true rfl)⟩ ⟨Nat.zero_le _, Nat.zero_le _⟩ dX5_feed_13 (fun _ => rfl) (fun _ => rfl) (fun _ => rfl) (fun u3 => ?_)
      exact r_reti (x := u3.1) (rv := (fun u => some (.int u.1))) (hpE := (fun u => w_X5 u.2)) (t0 := (u3.1, u3.2)) C dX5_feed_16 (by rfl) (by rfl) (by rfl)
set_option maxRecDepth 100000 in
set_option maxHeartbeats 4000000 in
theorem o_X5_wipe (l : Launch) (X : (Nat → q_St)) : q_Ok l yX5_wipe cX5_wipe 2 (some .int) 0 0 [.ref 50] (w_X5 X) (f_X5_wipe X) (fun u => some (.int u.1)) (fun u => w_X5 u.2) := by
  refine q_enter (by decide +kernel) (Nat.le_of_ble_eq_true rfl) (fun t p e s m args below meth c dC dI dA A α C => ?_)
  refine r_cut (f_X5_wipe.eq_1 _) ?_
  show q_S p l e (q_rm 0 0) s m args below meth c 2 dC dI dA A α (MQ below (q_Q α dC dI dA A ((fun u => some (.int u.1)) t) ((fun u => w_X5 u.2) t)) args s 0 0 A) 0 0 _ t 0 [(0, .ref 50)] [] (w_X5 X)
  refine r_aload_n C 0 dX5_wipe_0 rfl ?_
  refine r_get C 0 4 dX5_wipe_1 K_X5 rfl rfl (Nat.le_of_ble_eq_true rfl) rfl m_178 rfl ?_
  refine r_get C 29 0 dX5_wipe_4 K_X3 rfl rfl (Nat.le_of_ble_eq_true rfl) rfl m_128 rfl ?_
  refine r_istore_n C [(1, .int ((X 5).1 0)), (0, .ref 50)] dX5_wipe_7 (Nat.le_of_ble_eq_true rfl) rfl ?_
  refine r_aload_n C 1 dX5_wipe_8 rfl ?_
  refine r_get C 0 4 dX5_wipe_9 K_X5 rfl rfl (Nat.le_of_ble_eq_true rfl) rfl m_178 rfl ?_
  refine r_iconst C (0) dX5_wipe_12 rfl ?_
  refine r_put C 29 0 _ dX5_wipe_13 K_X3 rfl rfl (Nat.le_of_ble_eq_true rfl) rfl m_128 rfl (fun _ => rfl) (fun _ => rfl) (Nat.le_of_ble_eq_true rfl) rfl ?_
  refine r_iload_n C 0 dX5_wipe_16 rfl ?_
  exact r_reti (x := (X 5).1 0) (rv := (fun u => some (.int u.1))) (hpE := (fun u => w_X5 u.2)) (t0 := ((X 5).1 0, (va_up X 5 ((va_up (X 5).1 0 (0 : Int32)), (X 5).2)))) C dX5_wipe_17 (by rfl) (by rfl) (by rfl)
set_option maxRecDepth 100000 in
set_option maxHeartbeats 4000000 in
theorem o_X5_text (l : Launch) (X : (Nat → q_St)) : q_Ok l yX5_text cX5_text 2 (some .int) 10 214 [.ref 50] (w_X5 X) (f_X5_text X) (fun u => some (.int u.1)) (fun u => w_X5 u.2) := by
  refine q_enter (by decide +kernel) (Nat.le_of_ble_eq_true rfl) (fun t p e s m args below meth c dC dI dA A α C => ?_)
  refine r_cut (f_X5_text.eq_1 _) ?_
  show q_S p l e (q_rm 10 214) s m args below meth c 2 dC dI dA A α (MQ below (q_Q α dC dI dA A ((fun u => some (.int u.1)) t) ((fun u => w_X5 u.2) t)) args s 0 0 A) 0 0 _ t 0 [(0, .ref 50)] [] (w_X5 X)
  refine r_aload_n C 0 dX5_text_0 rfl ?_
  refine r_get C 0 2 dX5_text_1 K_X5 rfl rfl (Nat.le_of_ble_eq_true rfl) rfl m_176 rfl ?_
  refine r_aload_n C 0 dX5_text_4 rfl ?_
  refine r_get C 0 0 dX5_text_5 K_X5 rfl rfl (Nat.le_of_ble_eq_true rfl) rfl m_174 rfl ?_
  refine r_callV C (o_X0_take l (X 3) (X 1)) v_X0_take m_501 [15, 16, 17, 18, 19, 20, 21, 1, 2, 3, 4, 5, 6, 7] [.ref 51] [] (65) (Or.inl ⟨15, 0, _, TX0, 16, rfl, rfl, rfl⟩) (fun u1 => []) (fun u1 => w_X5 (va_up X 3 u1)) rfl rfl rfl rfl rfl (Nat.le_of_ble_eq_true rfl) ⟨(Nat.le_of_ble_eq_true rfl), (Nat.le_of_ble_eq_true rfl)⟩ ⟨Nat.zero_le _, Nat.zero_le _⟩ dX5_text_8 (fun _ => rfl) (fun _ => rfl) (fun _ => rfl) (fun u1 => ?_)
  refine r_aload_n C 0 dX5_text_11 rfl ?_
  refine r_get C 0 4 dX5_text_12 K_X5 rfl rfl (Nat.le_of_ble_eq_true rfl) rfl m_178 rfl ?_
  refine r_aload_n C 0 dX5_text_15 rfl ?_
  refine r_get C 0 2 dX5_text_16 K_X5 rfl rfl (Nat.le_of_ble_eq_true rfl) rfl m_176 rfl ?_
  refine r_callV C (o_X3_read l (X 5) u1) v_X3_read m_677 [29, 30, 15, 16, 17, 18, 19, 20, 21] [.ref 65] [] (79) (Or.inl ⟨29, 2, _, TX3, 8, rfl, rfl, rfl⟩) (fun u2 => [.int u2.1]) (fun u2 => w_X5 (va_up (va_up X 3 u2.2.2) 5 u2.2.1)) rfl rfl rfl rfl rfl (Nat.le_of_ble_eq_true rfl) ⟨(Nat.le_of_ble_eq_true rfl), (Nat.le_of_ble_eq_true rfl)⟩ ⟨Nat.zero_le _, Nat.zero_le _⟩ dX5_text_19 (fun _ => rfl) (fun _ => rfl) (fun _ => rfl) (fun u2 => ?_)
  refine r_istore_n C [(1, .int u2.1), (0, .ref 50)] dX5_text_22 (Nat.le_of_ble_eq_true rfl) rfl ?_
  refine r_aload_n C 1 dX5_text_23 rfl ?_
  refine r_get C 0 4 dX5_text_24 K_X5 rfl rfl (Nat.le_of_ble_eq_true rfl) rfl m_178 rfl ?_
  refine r_iconst C (0) dX5_text_27 rfl ?_
  refine r_put C 29 0 _ dX5_text_28 K_X3 rfl rfl (Nat.le_of_ble_eq_true rfl) rfl m_128 rfl (fun _ => rfl) (fun _ => rfl) (Nat.le_of_ble_eq_true rfl) rfl ?_
  refine r_iload_n C 0 dX5_text_31 rfl ?_
  refine r_iconst C (-1) dX5_text_32 rfl ?_
  refine r_icmp_eq C 40 dX5_text_33 (by decide) (fun h33 => ?_) (fun h33 => ?_)
  · refine r_aload_n C 1 dX5_text_40 rfl ?_
    refine r_get C 0 0 dX5_text_41 K_X5 rfl rfl (Nat.le_of_ble_eq_true rfl) rfl m_174 rfl ?_
    refine r_aload_n C 1 dX5_text_44 rfl ?_
    refine r_get C 0 2 dX5_text_45 K_X5 rfl rfl (Nat.le_of_ble_eq_true rfl) rfl m_176 rfl ?_
    refine r_callV C (o_X0_take l (X 1) u2.2.2) v_X0_take m_501 [1, 2, 3, 4, 5, 6, 7, 15, 16, 17, 18, 19, 20, 21] [.ref 65] [] (51) (Or.inl ⟨1, 0, _, TX0, 16, rfl, rfl, rfl⟩) (fun u3 => []) (fun u3 => w_X5 (va_up (va_up (va_up X 1 u3) 3 u2.2.2) 5 ((va_up u2.2.1.1 0 (0 : Int32)), u2.2.1.2))) rfl rfl rfl rfl rfl (Nat.le_of_ble_eq_true rfl) ⟨(Nat.le_of_ble_eq_true rfl), (Nat.le_of_ble_eq_true rfl)⟩ ⟨Nat.zero_le _, Nat.zero_le _⟩ dX5_text_48 (fun _ => rfl) (fun _ => rfl) (fun _ => rfl) (fun u3 => ?_)
    refine r_aload_n C 1 dX5_text_51 rfl ?_
    refine r_get C 0 4 dX5_text_52 K_X5 rfl rfl (Nat.le_of_ble_eq_true rfl) rfl m_178 rfl ?_
    refine r_get C 29 1 dX5_text_55 K_X3 rfl rfl (Nat.le_of_ble_eq_true rfl) rfl m_130 rfl ?_
    exact r_reti (x := u2.2.1.1 1) (rv := (fun u => some (.int u.1))) (hpE := (fun u => w_X5 u.2)) (t0 := (u2.2.1.1 1, (va_up (va_up (va_up X 1 u3) 3 u2.2.2) 5 ((va_up u2.2.1.1 0 (0 : Int32)), u2.2.1.2)))) C dX5_text_58 (by rfl) (by rfl) (by rfl)
  · refine r_iconst C (-1) dX5_text_36 rfl ?_
    refine r_iload_n C 0 dX5_text_37 rfl ?_
    refine r_isub C dX5_text_38 ?_
    exact r_reti (x := ((-1 : Int32) - u2.1)) (rv := (fun u => some (.int u.1))) (hpE := (fun u => w_X5 u.2)) (t0 := (((-1 : Int32) - u2.1), (va_up (va_up X 3 u2.2.2) 5 ((va_up u2.2.1.1 0 (0 : Int32)), u2.2.1.2)))) C dX5_text_39 (by rfl) (by rfl) (by rfl)
set_option maxRecDepth 100000 in
set_option maxHeartbeats 4000000 in
theorem o_X5_hold (l : Launch) (X : (Nat → q_St)) (a1 : Int32) (a2 : Int32) : q_Ok l yX5_hold cX5_hold 3 (some .int) 2 43 [.ref 50, .int a1, .int a2] (w_X5 X) (f_X5_hold X a1 a2) (fun u => some (.int u.1)) (fun u => w_X5 u.2) := by
  refine q_enter (by decide +kernel) (Nat.le_of_ble_eq_true rfl) (fun t p e s m args below meth c dC dI dA A α C => ?_)
  refine r_cut (f_X5_hold.eq_1 _ _ _) ?_
  show q_S p l e (q_rm 2 43) s m args below meth c 3 dC dI dA A α (MQ below (q_Q α dC dI dA A ((fun u => some (.int u.1)) t) ((fun u => w_X5 u.2) t)) args s 0 0 A) 0 0 _ t 0 [(0, .ref 50), (1, .int a1), (2, .int a2)] [] (w_X5 X)
  refine r_aload_n C 0 dX5_hold_0 rfl ?_
  refine r_get C 0 0 dX5_hold_1 K_X5 rfl rfl (Nat.le_of_ble_eq_true rfl) rfl m_174 rfl ?_
  refine r_iload_n C 1 dX5_hold_4 rfl ?_
  refine r_callV C (o_X0_isSpot l (X 1) a1) v_X0_isSpot m_812 [1, 2, 3, 4, 5, 6, 7] [.int a1] [] (51) (Or.inl ⟨1, 0, _, TX0, 16, rfl, rfl, rfl⟩) (fun u1 => [.int u1]) (fun u1 => w_X5 X) rfl rfl rfl rfl rfl (Nat.le_of_ble_eq_true rfl) ⟨(Nat.le_of_ble_eq_true rfl), (Nat.le_of_ble_eq_true rfl)⟩ ⟨Nat.zero_le _, Nat.zero_le _⟩ dX5_hold_5 (fun _ => rfl) (fun _ => rfl) (fun _ => rfl) (fun u1 => ?_)
  refine r_if_eq C 22 dX5_hold_8 (by decide) (fun h8 => ?_) (fun h8 => ?_)
  · refine r_aload_n C 0 dX5_hold_22 rfl ?_
    refine r_ldc C (-1000001) dX5_hold_23 m_206 ?_
    refine r_callV0 C (o_X5_finding l X (-1000001 : Int32)) v_X5_finding m_207 [.int (-1000001 : Int32)] [] (50) (Or.inl ⟨0, 4, _, TX5, 8, rfl, rfl, rfl⟩) (fun u2 => [.int u2.1]) (fun u2 => w_X5 u2.2) rfl rfl rfl (Nat.le_of_ble_eq_true rfl) ⟨(Nat.le_of_ble_eq_true rfl), (Nat.le_of_ble_eq_true rfl)⟩ ⟨Nat.zero_le _, Nat.zero_le _⟩ dX5_hold_25 (fun _ => rfl) (fun _ => rfl) (fun _ => rfl) (fun u2 => ?_)
    exact r_reti (x := u2.1) (rv := (fun u => some (.int u.1))) (hpE := (fun u => w_X5 u.2)) (t0 := (u2.1, u2.2)) C dX5_hold_28 (by rfl) (by rfl) (by rfl)
  · refine r_aload_n C 0 dX5_hold_11 rfl ?_
    refine r_get C 0 0 dX5_hold_12 K_X5 rfl rfl (Nat.le_of_ble_eq_true rfl) rfl m_174 rfl ?_
    refine r_iload_n C 2 dX5_hold_15 rfl ?_
    refine r_callV C (o_X0_isDollOrNone l (X 1) a2) v_X0_isDollOrNone m_293 [1, 2, 3, 4, 5, 6, 7] [.int a2] [] (51) (Or.inl ⟨1, 0, _, TX0, 16, rfl, rfl, rfl⟩) (fun u3 => [.int u3]) (fun u3 => w_X5 X) rfl rfl rfl rfl rfl (Nat.le_of_ble_eq_true rfl) ⟨(Nat.le_of_ble_eq_true rfl), (Nat.le_of_ble_eq_true rfl)⟩ ⟨Nat.zero_le _, Nat.zero_le _⟩ dX5_hold_16 (fun _ => rfl) (fun _ => rfl) (fun _ => rfl) (fun u3 => ?_)
    refine r_if_ne C 29 dX5_hold_19 (by decide) (fun h19 => ?_) (fun h19 => ?_)
    · refine r_aload_n C 0 dX5_hold_22 rfl ?_
      refine r_ldc C (-1000001) dX5_hold_23 m_206 ?_
      refine r_callV0 C (o_X5_finding l X (-1000001 : Int32)) v_X5_finding m_207 [.int (-1000001 : Int32)] [] (50) (Or.inl ⟨0, 4, _, TX5, 8, rfl, rfl, rfl⟩) (fun u5 => [.int u5.1]) (fun u5 => w_X5 u5.2) rfl rfl rfl (Nat.le_of_ble_eq_true rfl) ⟨(Nat.le_of_ble_eq_true rfl), (Nat.le_of_ble_eq_true rfl)⟩ ⟨Nat.zero_le _, Nat.zero_le _⟩ dX5_hold_25 (fun _ => rfl) (fun _ => rfl) (fun _ => rfl) (fun u5 => ?_)
      exact r_reti (x := u5.1) (rv := (fun u => some (.int u.1))) (hpE := (fun u => w_X5 u.2)) (t0 := (u5.1, u5.2)) C dX5_hold_28 (by rfl) (by rfl) (by rfl)
    · refine r_aload_n C 0 dX5_hold_29 rfl ?_
      refine r_get C 0 0 dX5_hold_30 K_X5 rfl rfl (Nat.le_of_ble_eq_true rfl) rfl m_174 rfl ?_
      refine r_iload_n C 1 dX5_hold_33 rfl ?_
      refine r_iload_n C 2 dX5_hold_34 rfl ?_
      refine r_callV C (o_X0_setSpot l (X 1) a1 a2) v_X0_setSpot m_816 [1, 2, 3, 4, 5, 6, 7] [.int a1, .int a2] [] (51) (Or.inl ⟨1, 0, _, TX0, 16, rfl, rfl, rfl⟩) (fun u4 => []) (fun u4 => w_X5 (va_up X 1 u4)) rfl rfl rfl rfl rfl (Nat.le_of_ble_eq_true rfl) ⟨(Nat.le_of_ble_eq_true rfl), (Nat.le_of_ble_eq_true rfl)⟩ ⟨Nat.zero_le _, Nat.zero_le _⟩ dX5_hold_35 (fun _ => rfl) (fun _ => rfl) (fun _ => rfl) (fun u4 => ?_)
      refine r_iconst C (1) dX5_hold_38 rfl ?_
      exact r_reti (x := (1 : Int32)) (rv := (fun u => some (.int u.1))) (hpE := (fun u => w_X5 u.2)) (t0 := ((1 : Int32), (va_up X 1 u4))) C dX5_hold_39 (by rfl) (by rfl) (by rfl)
set_option maxRecDepth 100000 in
set_option maxHeartbeats 4000000 in
theorem o_X5_as (l : Launch) (X : (Nat → q_St)) (a1 : Int32) (a2 : Int32) : q_Ok l yX5_as cX5_as 4 (some .int) 2 43 [.ref 50, .int a1, .int a2] (w_X5 X) (f_X5_as X a1 a2) (fun u => some (.int u.1)) (fun u => w_X5 u.2) := by
  refine q_enter (by decide +kernel) (Nat.le_of_ble_eq_true rfl) (fun t p e s m args below meth c dC dI dA A α C => ?_)
  refine r_cut (f_X5_as.eq_1 _ _ _) ?_
  show q_S p l e (q_rm 2 43) s m args below meth c 4 dC dI dA A α (MQ below (q_Q α dC dI dA A ((fun u => some (.int u.1)) t) ((fun u => w_X5 u.2) t)) args s 0 0 A) 0 0 _ t 0 [(0, .ref 50), (1, .int a1), (2, .int a2)] [] (w_X5 X)
  refine r_aload_n C 0 dX5_as_0 rfl ?_
  refine r_get C 0 0 dX5_as_1 K_X5 rfl rfl (Nat.le_of_ble_eq_true rfl) rfl m_174 rfl ?_
  refine r_iload_n C 1 dX5_as_4 rfl ?_
  refine r_callV C (o_X0_isSpot l (X 1) a1) v_X0_isSpot m_812 [1, 2, 3, 4, 5, 6, 7] [.int a1] [] (51) (Or.inl ⟨1, 0, _, TX0, 16, rfl, rfl, rfl⟩) (fun u1 => [.int u1]) (fun u1 => w_X5 X) rfl rfl rfl rfl rfl (Nat.le_of_ble_eq_true rfl) ⟨(Nat.le_of_ble_eq_true rfl), (Nat.le_of_ble_eq_true rfl)⟩ ⟨Nat.zero_le _, Nat.zero_le _⟩ dX5_as_5 (fun _ => rfl) (fun _ => rfl) (fun _ => rfl) (fun u1 => ?_)
  refine r_if_eq C 18 dX5_as_8 (by decide) (fun h8 => ?_) (fun h8 => ?_)
  · refine r_aload_n C 0 dX5_as_18 rfl ?_
    refine r_ldc C (-1000001) dX5_as_19 m_206 ?_
    refine r_callV0 C (o_X5_finding l X (-1000001 : Int32)) v_X5_finding m_207 [.int (-1000001 : Int32)] [] (50) (Or.inl ⟨0, 4, _, TX5, 8, rfl, rfl, rfl⟩) (fun u2 => [.int u2.1]) (fun u2 => w_X5 u2.2) rfl rfl rfl (Nat.le_of_ble_eq_true rfl) ⟨(Nat.le_of_ble_eq_true rfl), (Nat.le_of_ble_eq_true rfl)⟩ ⟨Nat.zero_le _, Nat.zero_le _⟩ dX5_as_21 (fun _ => rfl) (fun _ => rfl) (fun _ => rfl) (fun u2 => ?_)
    exact r_reti (x := u2.1) (rv := (fun u => some (.int u.1))) (hpE := (fun u => w_X5 u.2)) (t0 := (u2.1, u2.2)) C dX5_as_24 (by rfl) (by rfl) (by rfl)
  · refine r_iload_n C 2 dX5_as_11 rfl ?_
    refine r_callS C (o_X1_isKind l a2) v_X1_isKind m_203 [] [.int a2] [] (fun u3 => [.int u3]) (fun u3 => w_X5 X) rfl rfl rfl rfl rfl (Nat.le_of_ble_eq_true rfl) ⟨(Nat.le_of_ble_eq_true rfl), (Nat.le_of_ble_eq_true rfl)⟩ ⟨Nat.zero_le _, Nat.zero_le _⟩ dX5_as_12 (fun _ => rfl) (fun _ => rfl) (fun _ => rfl) (fun u3 => ?_)
    refine r_if_ne C 25 dX5_as_15 (by decide) (fun h15 => ?_) (fun h15 => ?_)
    · refine r_aload_n C 0 dX5_as_18 rfl ?_
      refine r_ldc C (-1000001) dX5_as_19 m_206 ?_
      refine r_callV0 C (o_X5_finding l X (-1000001 : Int32)) v_X5_finding m_207 [.int (-1000001 : Int32)] [] (50) (Or.inl ⟨0, 4, _, TX5, 8, rfl, rfl, rfl⟩) (fun u9 => [.int u9.1]) (fun u9 => w_X5 u9.2) rfl rfl rfl (Nat.le_of_ble_eq_true rfl) ⟨(Nat.le_of_ble_eq_true rfl), (Nat.le_of_ble_eq_true rfl)⟩ ⟨Nat.zero_le _, Nat.zero_le _⟩ dX5_as_21 (fun _ => rfl) (fun _ => rfl) (fun _ => rfl) (fun u9 => ?_)
      exact r_reti (x := u9.1) (rv := (fun u => some (.int u.1))) (hpE := (fun u => w_X5 u.2)) (t0 := (u9.1, u9.2)) C dX5_as_24 (by rfl) (by rfl) (by rfl)
    · refine r_aload_n C 0 dX5_as_25 rfl ?_
      refine r_get C 0 0 dX5_as_26 K_X5 rfl rfl (Nat.le_of_ble_eq_true rfl) rfl m_174 rfl ?_
      refine r_iload_n C 1 dX5_as_29 rfl ?_
      refine r_callV C (o_X0_spotOf l (X 1) a1) v_X0_spotOf m_825 [1, 2, 3, 4, 5, 6, 7] [.int a1] [] (51) (Or.inl ⟨1, 0, _, TX0, 16, rfl, rfl, rfl⟩) (fun u4 => [.int u4]) (fun u4 => w_X5 X) rfl rfl rfl rfl rfl (Nat.le_of_ble_eq_true rfl) ⟨(Nat.le_of_ble_eq_true rfl), (Nat.le_of_ble_eq_true rfl)⟩ ⟨Nat.zero_le _, Nat.zero_le _⟩ dX5_as_30 (fun _ => rfl) (fun _ => rfl) (fun _ => rfl) (fun u4 => ?_)
      refine r_istore_n C [(3, .int u4), (0, .ref 50), (1, .int a1), (2, .int a2)] dX5_as_33 (Nat.le_of_ble_eq_true rfl) rfl ?_
      refine r_iload_n C 0 dX5_as_34 rfl ?_
      refine r_iconst C (-1) dX5_as_35 rfl ?_
      refine r_icmp_ne C 46 dX5_as_36 (by decide) (fun h36 => ?_) (fun h36 => ?_)
      · refine r_aload_n C 1 dX5_as_39 rfl ?_
        refine r_ldc C (-1000006) dX5_as_40 m_581 ?_
        refine r_callV0 C (o_X5_finding l X (-1000006 : Int32)) v_X5_finding m_207 [.int (-1000006 : Int32)] [] (50) (Or.inl ⟨0, 4, _, TX5, 8, rfl, rfl, rfl⟩) (fun u8 => [.int u8.1]) (fun u8 => w_X5 u8.2) rfl rfl rfl (Nat.le_of_ble_eq_true rfl) ⟨(Nat.le_of_ble_eq_true rfl), (Nat.le_of_ble_eq_true rfl)⟩ ⟨Nat.zero_le _, Nat.zero_le _⟩ dX5_as_42 (fun _ => rfl) (fun _ => rfl) (fun _ => rfl) (fun u8 => ?_)
        exact r_reti (x := u8.1) (rv := (fun u => some (.int u.1))) (hpE := (fun u => w_X5 u.2)) (t0 := (u8.1, u8.2)) C dX5_as_45 (by rfl) (by rfl) (by rfl)
      · refine r_aload_n C 1 dX5_as_46 rfl ?_
        refine r_get C 0 0 dX5_as_47 K_X5 rfl rfl (Nat.le_of_ble_eq_true rfl) rfl m_174 rfl ?_
        refine r_iload_n C 0 dX5_as_50 rfl ?_
        refine r_callV C (o_X0_kindOf l (X 1) u4) v_X0_kindOf m_224 [1, 2, 3, 4, 5, 6, 7] [.int u4] [] (51) (Or.inl ⟨1, 0, _, TX0, 16, rfl, rfl, rfl⟩) (fun u5 => [.int u5]) (fun u5 => w_X5 X) rfl rfl rfl rfl rfl (Nat.le_of_ble_eq_true rfl) ⟨(Nat.le_of_ble_eq_true rfl), (Nat.le_of_ble_eq_true rfl)⟩ ⟨Nat.zero_le _, Nat.zero_le _⟩ dX5_as_51 (fun _ => rfl) (fun _ => rfl) (fun _ => rfl) (fun u5 => ?_)
        refine r_iload_n C 3 dX5_as_54 rfl ?_
        refine r_callS C (o_X1_isUnder l u5 a2) v_X1_isUnder m_829 [] [.int u5, .int a2] [] (fun u6 => [.int u6]) (fun u6 => w_X5 X) rfl rfl rfl rfl rfl (Nat.le_of_ble_eq_true rfl) ⟨(Nat.le_of_ble_eq_true rfl), (Nat.le_of_ble_eq_true rfl)⟩ ⟨Nat.zero_le _, Nat.zero_le _⟩ dX5_as_55 (fun _ => rfl) (fun _ => rfl) (fun _ => rfl) (fun u6 => ?_)
        refine r_if_eq C 65 dX5_as_58 (by decide) (fun h58 => ?_) (fun h58 => ?_)
        · refine r_aload_n C 1 dX5_as_65 rfl ?_
          refine r_ldcw C (-1000003) dX5_as_66 m_830 ?_
          refine r_callV0 C (o_X5_finding l X (-1000003 : Int32)) v_X5_finding m_207 [.int (-1000003 : Int32)] [] (50) (Or.inl ⟨0, 4, _, TX5, 8, rfl, rfl, rfl⟩) (fun u7 => [.int u7.1]) (fun u7 => w_X5 u7.2) rfl rfl rfl (Nat.le_of_ble_eq_true rfl) ⟨(Nat.le_of_ble_eq_true rfl), (Nat.le_of_ble_eq_true rfl)⟩ ⟨Nat.zero_le _, Nat.zero_le _⟩ dX5_as_69 (fun _ => rfl) (fun _ => rfl) (fun _ => rfl) (fun u7 => ?_)
          exact r_reti (x := u7.1) (rv := (fun u => some (.int u.1))) (hpE := (fun u => w_X5 u.2)) (t0 := (u7.1, u7.2)) C dX5_as_72 (by rfl) (by rfl) (by rfl)
        · refine r_iload_n C 0 dX5_as_61 rfl ?_
          refine r_goto C 72 dX5_as_62 (by decide) ?_
          exact r_reti (x := u4) (rv := (fun u => some (.int u.1))) (hpE := (fun u => w_X5 u.2)) (t0 := (u4, X)) C dX5_as_72 (by rfl) (by rfl) (by rfl)
set_option maxRecDepth 100000 in
set_option maxHeartbeats 4000000 in
theorem o_X5_sheet (l : Launch) (X : (Nat → q_St)) (a1 : Int32) (a2 : Int32) (a3 : Int32) : q_Ok l yX5_sheet cX5_sheet 5 (some .int) 2 53 [.ref 50, .int a1, .int a2, .int a3] (w_X5 X) (f_X5_sheet X a1 a2 a3) (fun u => some (.int u.1)) (fun u => w_X5 u.2) := by
  refine q_enter (by decide +kernel) (Nat.le_of_ble_eq_true rfl) (fun t p e s m args below meth c dC dI dA A α C => ?_)
  refine r_cut (f_X5_sheet.eq_1 _ _ _ _) ?_
  show q_S p l e (q_rm 2 53) s m args below meth c 5 dC dI dA A α (MQ below (q_Q α dC dI dA A ((fun u => some (.int u.1)) t) ((fun u => w_X5 u.2) t)) args s 0 0 A) 0 0 _ t 0 [(0, .ref 50), (1, .int a1), (2, .int a2), (3, .int a3)] [] (w_X5 X)
  refine r_aload_n C 0 dX5_sheet_0 rfl ?_
  refine r_iload_n C 1 dX5_sheet_1 rfl ?_
  refine r_callV0 C (o_X5_sheetAt l X a1) v_X5_sheetAt m_573 [.int a1] [] (50) (Or.inl ⟨0, 4, _, TX5, 8, rfl, rfl, rfl⟩) (fun u1 => va_rf (q_sf u1) :: []) (fun u1 => w_X5 X) rfl rfl rfl (Nat.le_of_ble_eq_true rfl) ⟨(Nat.le_of_ble_eq_true rfl), (Nat.le_of_ble_eq_true rfl)⟩ ⟨Nat.zero_le _, Nat.zero_le _⟩ dX5_sheet_2 (fun _ => rfl) (fun _ => rfl) (fun _ => rfl) (q_case4 ?_ ?_ ?_ ?_ (fun u1 => ?_))
  · refine r_astore C [(4, .ref 82), (0, .ref 50), (1, .int a1), (2, .int a2), (3, .int a3)] dX5_sheet_5 (Nat.le_of_ble_eq_true rfl) rfl ?_
    refine r_aload C 0 dX5_sheet_7 rfl ?_
    refine r_cut (if_pos (by decide)) ?_
    refine r_ifnull_f C dX5_sheet_9 ?_
    refine r_iload_n C 3 dX5_sheet_12 rfl ?_
    refine r_callS C (o_X2_isBits l a2) v_X2_isBits m_835 [] [.int a2] [] (fun u2 => [.int u2]) (fun u2 => w_X5 X) rfl rfl rfl rfl rfl (Nat.le_of_ble_eq_true rfl) ⟨(Nat.le_of_ble_eq_true rfl), (Nat.le_of_ble_eq_true rfl)⟩ ⟨Nat.zero_le _, Nat.zero_le _⟩ dX5_sheet_13 (fun _ => rfl) (fun _ => rfl) (fun _ => rfl) (fun u2 => ?_)
    refine r_if_ne C 26 dX5_sheet_16 (by decide) (fun h16 => ?_) (fun h16 => ?_)
    · refine r_aload_n C 1 dX5_sheet_19 rfl ?_
      refine r_ldc C (-1000001) dX5_sheet_20 m_206 ?_
      refine r_callV0 C (o_X5_finding l X (-1000001 : Int32)) v_X5_finding m_207 [.int (-1000001 : Int32)] [] (50) (Or.inl ⟨0, 4, _, TX5, 8, rfl, rfl, rfl⟩) (fun u6 => [.int u6.1]) (fun u6 => w_X5 u6.2) rfl rfl rfl (Nat.le_of_ble_eq_true rfl) ⟨(Nat.le_of_ble_eq_true rfl), (Nat.le_of_ble_eq_true rfl)⟩ ⟨Nat.zero_le _, Nat.zero_le _⟩ dX5_sheet_22 (fun _ => rfl) (fun _ => rfl) (fun _ => rfl) (fun u6 => ?_)
      exact r_reti (x := u6.1) (rv := (fun u => some (.int u.1))) (hpE := (fun u => w_X5 u.2)) (t0 := (u6.1, u6.2)) C dX5_sheet_25 (by rfl) (by rfl) (by rfl)
    · refine r_iload_n C 4 dX5_sheet_26 rfl ?_
      refine r_if_ge C 37 dX5_sheet_27 (by decide) (fun h27 => ?_) (fun h27 => ?_)
      · refine r_iload_n C 4 dX5_sheet_37 rfl ?_
        refine r_bipush C (40) dX5_sheet_38 rfl ?_
        refine r_icmp_le C 50 dX5_sheet_40 (by decide) (fun h40 => ?_) (fun h40 => ?_)
        · refine r_aload C 0 dX5_sheet_50 rfl ?_
          refine r_iload_n C 3 dX5_sheet_52 rfl ?_
          refine r_iload_n C 4 dX5_sheet_53 rfl ?_
          refine r_callV C (o_X2_begin l (X (6 + 0)) a2 a3) v_X2_begin m_838 [32, 33] [.int a2, .int a3] [] (82) (Or.inl ⟨32, 1, _, TX2, 3, rfl, rfl, rfl⟩) (fun u3 => []) (fun u3 => w_X5 (va_up X (6 + 0) u3)) rfl rfl rfl rfl rfl (Nat.le_of_ble_eq_true rfl) ⟨(Nat.le_of_ble_eq_true rfl), (Nat.le_of_ble_eq_true rfl)⟩ ⟨Nat.zero_le _, Nat.zero_le _⟩ dX5_sheet_54 (fun _ => rfl) (fun _ => rfl) (fun _ => rfl) (fun u3 => ?_)
          refine r_aload C 0 dX5_sheet_57 rfl ?_
          refine r_get C 32 1 dX5_sheet_59 K_X2 rfl rfl (Nat.le_of_ble_eq_true rfl) rfl m_164 rfl ?_
          exact r_reti (x := u3.1 1) (rv := (fun u => some (.int u.1))) (hpE := (fun u => w_X5 u.2)) (t0 := (u3.1 1, (va_up X (6 + 0) u3))) C dX5_sheet_62 (by rfl) (by rfl) (by rfl)
        · refine r_aload_n C 1 dX5_sheet_43 rfl ?_
          refine r_ldc C (-1000001) dX5_sheet_44 m_206 ?_
          refine r_callV0 C (o_X5_finding l X (-1000001 : Int32)) v_X5_finding m_207 [.int (-1000001 : Int32)] [] (50) (Or.inl ⟨0, 4, _, TX5, 8, rfl, rfl, rfl⟩) (fun u4 => [.int u4.1]) (fun u4 => w_X5 u4.2) rfl rfl rfl (Nat.le_of_ble_eq_true rfl) ⟨(Nat.le_of_ble_eq_true rfl), (Nat.le_of_ble_eq_true rfl)⟩ ⟨Nat.zero_le _, Nat.zero_le _⟩ dX5_sheet_46 (fun _ => rfl) (fun _ => rfl) (fun _ => rfl) (fun u4 => ?_)
          exact r_reti (x := u4.1) (rv := (fun u => some (.int u.1))) (hpE := (fun u => w_X5 u.2)) (t0 := (u4.1, u4.2)) C dX5_sheet_49 (by rfl) (by rfl) (by rfl)
      · refine r_aload_n C 1 dX5_sheet_30 rfl ?_
        refine r_ldc C (-1000007) dX5_sheet_31 m_606 ?_
        refine r_callV0 C (o_X5_finding l X (-1000007 : Int32)) v_X5_finding m_207 [.int (-1000007 : Int32)] [] (50) (Or.inl ⟨0, 4, _, TX5, 8, rfl, rfl, rfl⟩) (fun u5 => [.int u5.1]) (fun u5 => w_X5 u5.2) rfl rfl rfl (Nat.le_of_ble_eq_true rfl) ⟨(Nat.le_of_ble_eq_true rfl), (Nat.le_of_ble_eq_true rfl)⟩ ⟨Nat.zero_le _, Nat.zero_le _⟩ dX5_sheet_33 (fun _ => rfl) (fun _ => rfl) (fun _ => rfl) (fun u5 => ?_)
        exact r_reti (x := u5.1) (rv := (fun u => some (.int u.1))) (hpE := (fun u => w_X5 u.2)) (t0 := (u5.1, u5.2)) C dX5_sheet_36 (by rfl) (by rfl) (by rfl)
  · refine r_astore C [(4, .ref 84), (0, .ref 50), (1, .int a1), (2, .int a2), (3, .int a3)] dX5_sheet_5 (Nat.le_of_ble_eq_true rfl) rfl ?_
    refine r_aload C 0 dX5_sheet_7 rfl ?_
    refine r_cut (if_pos (by decide)) ?_
    refine r_ifnull_f C dX5_sheet_9 ?_
    refine r_iload_n C 3 dX5_sheet_12 rfl ?_
    refine r_callS C (o_X2_isBits l a2) v_X2_isBits m_835 [] [.int a2] [] (fun u7 => [.int u7]) (fun u7 => w_X5 X) rfl rfl rfl rfl rfl (Nat.le_of_ble_eq_true rfl) ⟨(Nat.le_of_ble_eq_true rfl), (Nat.le_of_ble_eq_true rfl)⟩ ⟨Nat.zero_le _, Nat.zero_le _⟩ dX5_sheet_13 (fun _ => rfl) (fun _ => rfl) (fun _ => rfl) (fun u7 => ?_)
    refine r_if_ne C 26 dX5_sheet_16 (by decide) (fun h16 => ?_) (fun h16 => ?_)
    · refine r_aload_n C 1 dX5_sheet_19 rfl ?_
      refine r_ldc C (-1000001) dX5_sheet_20 m_206 ?_
      refine r_callV0 C (o_X5_finding l X (-1000001 : Int32)) v_X5_finding m_207 [.int (-1000001 : Int32)] [] (50) (Or.inl ⟨0, 4, _, TX5, 8, rfl, rfl, rfl⟩) (fun u11 => [.int u11.1]) (fun u11 => w_X5 u11.2) rfl rfl rfl (Nat.le_of_ble_eq_true rfl) ⟨(Nat.le_of_ble_eq_true rfl), (Nat.le_of_ble_eq_true rfl)⟩ ⟨Nat.zero_le _, Nat.zero_le _⟩ dX5_sheet_22 (fun _ => rfl) (fun _ => rfl) (fun _ => rfl) (fun u11 => ?_)
      exact r_reti (x := u11.1) (rv := (fun u => some (.int u.1))) (hpE := (fun u => w_X5 u.2)) (t0 := (u11.1, u11.2)) C dX5_sheet_25 (by rfl) (by rfl) (by rfl)
    · refine r_iload_n C 4 dX5_sheet_26 rfl ?_
      refine r_if_ge C 37 dX5_sheet_27 (by decide) (fun h27 => ?_) (fun h27 => ?_)
      · refine r_iload_n C 4 dX5_sheet_37 rfl ?_
        refine r_bipush C (40) dX5_sheet_38 rfl ?_
        refine r_icmp_le C 50 dX5_sheet_40 (by decide) (fun h40 => ?_) (fun h40 => ?_)
        · refine r_aload C 0 dX5_sheet_50 rfl ?_
          refine r_iload_n C 3 dX5_sheet_52 rfl ?_
          refine r_iload_n C 4 dX5_sheet_53 rfl ?_
          refine r_callV C (o_X2_begin l (X (6 + 1)) a2 a3) v_X2_begin m_838 [34, 35] [.int a2, .int a3] [] (84) (Or.inl ⟨34, 1, _, TX2, 3, rfl, rfl, rfl⟩) (fun u8 => []) (fun u8 => w_X5 (va_up X (6 + 1) u8)) rfl rfl rfl rfl rfl (Nat.le_of_ble_eq_true rfl) ⟨(Nat.le_of_ble_eq_true rfl), (Nat.le_of_ble_eq_true rfl)⟩ ⟨Nat.zero_le _, Nat.zero_le _⟩ dX5_sheet_54 (fun _ => rfl) (fun _ => rfl) (fun _ => rfl) (fun u8 => ?_)
          refine r_aload C 0 dX5_sheet_57 rfl ?_
          refine r_get C 34 1 dX5_sheet_59 K_X2 rfl rfl (Nat.le_of_ble_eq_true rfl) rfl m_164 rfl ?_
          exact r_reti (x := u8.1 1) (rv := (fun u => some (.int u.1))) (hpE := (fun u => w_X5 u.2)) (t0 := (u8.1 1, (va_up X (6 + 1) u8))) C dX5_sheet_62 (by rfl) (by rfl) (by rfl)
        · refine r_aload_n C 1 dX5_sheet_43 rfl ?_
          refine r_ldc C (-1000001) dX5_sheet_44 m_206 ?_
          refine r_callV0 C (o_X5_finding l X (-1000001 : Int32)) v_X5_finding m_207 [.int (-1000001 : Int32)] [] (50) (Or.inl ⟨0, 4, _, TX5, 8, rfl, rfl, rfl⟩) (fun u9 => [.int u9.1]) (fun u9 => w_X5 u9.2) rfl rfl rfl (Nat.le_of_ble_eq_true rfl) ⟨(Nat.le_of_ble_eq_true rfl), (Nat.le_of_ble_eq_true rfl)⟩ ⟨Nat.zero_le _, Nat.zero_le _⟩ dX5_sheet_46 (fun _ => rfl) (fun _ => rfl) (fun _ => rfl) (fun u9 => ?_)
          exact r_reti (x := u9.1) (rv := (fun u => some (.int u.1))) (hpE := (fun u => w_X5 u.2)) (t0 := (u9.1, u9.2)) C dX5_sheet_49 (by rfl) (by rfl) (by rfl)
      · refine r_aload_n C 1 dX5_sheet_30 rfl ?_
        refine r_ldc C (-1000007) dX5_sheet_31 m_606 ?_
        refine r_callV0 C (o_X5_finding l X (-1000007 : Int32)) v_X5_finding m_207 [.int (-1000007 : Int32)] [] (50) (Or.inl ⟨0, 4, _, TX5, 8, rfl, rfl, rfl⟩) (fun u10 => [.int u10.1]) (fun u10 => w_X5 u10.2) rfl rfl rfl (Nat.le_of_ble_eq_true rfl) ⟨(Nat.le_of_ble_eq_true rfl), (Nat.le_of_ble_eq_true rfl)⟩ ⟨Nat.zero_le _, Nat.zero_le _⟩ dX5_sheet_33 (fun _ => rfl) (fun _ => rfl) (fun _ => rfl) (fun u10 => ?_)
        exact r_reti (x := u10.1) (rv := (fun u => some (.int u.1))) (hpE := (fun u => w_X5 u.2)) (t0 := (u10.1, u10.2)) C dX5_sheet_36 (by rfl) (by rfl) (by rfl)
  · refine r_astore C [(4, .ref 86), (0, .ref 50), (1, .int a1), (2, .int a2), (3, .int a3)] dX5_sheet_5 (Nat.le_of_ble_eq_true rfl) rfl ?_
    refine r_aload C 0 dX5_sheet_7 rfl ?_
    refine r_cut (if_pos (by decide)) ?_
    refine r_ifnull_f C dX5_sheet_9 ?_
    refine r_iload_n C 3 dX5_sheet_12 rfl ?_
    refine r_callS C (o_X2_isBits l a2) v_X2_isBits m_835 [] [.int a2] [] (fun u12 => [.int u12]) (fun u12 => w_X5 X) rfl rfl rfl rfl rfl (Nat.le_of_ble_eq_true rfl) ⟨(Nat.le_of_ble_eq_true rfl), (Nat.le_of_ble_eq_true rfl)⟩ ⟨Nat.zero_le _, Nat.zero_le _⟩ dX5_sheet_13 (fun _ => rfl) (fun _ => rfl) (fun _ => rfl) (fun u12 => ?_)
    refine r_if_ne C 26 dX5_sheet_16 (by decide) (fun h16 => ?_) (fun h16 => ?_)
    · refine r_aload_n C 1 dX5_sheet_19 rfl ?_
      refine r_ldc C (-1000001) dX5_sheet_20 m_206 ?_
      refine r_callV0 C (o_X5_finding l X (-1000001 : Int32)) v_X5_finding m_207 [.int (-1000001 : Int32)] [] (50) (Or.inl ⟨0, 4, _, TX5, 8, rfl, rfl, rfl⟩) (fun u16 => [.int u16.1]) (fun u16 => w_X5 u16.2) rfl rfl rfl (Nat.le_of_ble_eq_true rfl) ⟨(Nat.le_of_ble_eq_true rfl), (Nat.le_of_ble_eq_true rfl)⟩ ⟨Nat.zero_le _, Nat.zero_le _⟩ dX5_sheet_22 (fun _ => rfl) (fun _ => rfl) (fun _ => rfl) (fun u16 => ?_)
      exact r_reti (x := u16.1) (rv := (fun u => some (.int u.1))) (hpE := (fun u => w_X5 u.2)) (t0 := (u16.1, u16.2)) C dX5_sheet_25 (by rfl) (by rfl) (by rfl)
    · refine r_iload_n C 4 dX5_sheet_26 rfl ?_
      refine r_if_ge C 37 dX5_sheet_27 (by decide) (fun h27 => ?_) (fun h27 => ?_)
      · refine r_iload_n C 4 dX5_sheet_37 rfl ?_
        refine r_bipush C (40) dX5_sheet_38 rfl ?_
        refine r_icmp_le C 50 dX5_sheet_40 (by decide) (fun h40 => ?_) (fun h40 => ?_)
        · refine r_aload C 0 dX5_sheet_50 rfl ?_
          refine r_iload_n C 3 dX5_sheet_52 rfl ?_
          refine r_iload_n C 4 dX5_sheet_53 rfl ?_
          refine r_callV C (o_X2_begin l (X (6 + 2)) a2 a3) v_X2_begin m_838 [36, 37] [.int a2, .int a3] [] (86) (Or.inl ⟨36, 1, _, TX2, 3, rfl, rfl, rfl⟩) (fun u13 => []) (fun u13 => w_X5 (va_up X (6 + 2) u13)) rfl rfl rfl rfl rfl (Nat.le_of_ble_eq_true rfl) ⟨(Nat.le_of_ble_eq_true rfl), (Nat.le_of_ble_eq_true rfl)⟩ ⟨Nat.zero_le _, Nat.zero_le _⟩ dX5_sheet_54 (fun _ => rfl) (fun _ => rfl) (fun _ => rfl) (fun u13 => ?_)
          refine r_aload C 0 dX5_sheet_57 rfl ?_
          refine r_get C 36 1 dX5_sheet_59 K_X2 rfl rfl (Nat.le_of_ble_eq_true rfl) rfl m_164 rfl ?_
          exact r_reti (x := u13.1 1) (rv := (fun u => some (.int u.1))) (hpE := (fun u => w_X5 u.2)) (t0 := (u13.1 1, (va_up X (6 + 2) u13))) C dX5_sheet_62 (by rfl) (by rfl) (by rfl)
        · refine r_aload_n C 1 dX5_sheet_43 rfl ?_
          refine r_ldc C (-1000001) dX5_sheet_44 m_206 ?_
          refine r_callV0 C (o_X5_finding l X (-1000001 : Int32)) v_X5_finding m_207 [.int (-1000001 : Int32)] [] (50) (Or.inl ⟨0, 4, _, TX5, 8, rfl, rfl, rfl⟩) (fun u14 => [.int u14.1]) (fun u14 => w_X5 u14.2) rfl rfl rfl (Nat.le_of_ble_eq_true rfl) ⟨(Nat.le_of_ble_eq_true rfl), (Nat.le_of_ble_eq_true rfl)⟩ ⟨Nat.zero_le _, Nat.zero_le _⟩ dX5_sheet_46 (fun _ => rfl) (fun _ => rfl) (fun _ => rfl) (fun u14 => ?_)
          exact r_reti (x := u14.1) (rv := (fun u => some (.int u.1))) (hpE := (fun u => w_X5 u.2)) (t0 := (u14.1, u14.2)) C dX5_sheet_49 (by rfl) (by rfl) (by rfl)
      · refine r_aload_n C 1 dX5_sheet_30 rfl ?_
        refine r_ldc C (-1000007) dX5_sheet_31 m_606 ?_
        refine r_callV0 C (o_X5_finding l X (-1000007 : Int32)) v_X5_finding m_207 [.int (-1000007 : Int32)] [] (50) (Or.inl ⟨0, 4, _, TX5, 8, rfl, rfl, rfl⟩) (fun u15 => [.int u15.1]) (fun u15 => w_X5 u15.2) rfl rfl rfl (Nat.le_of_ble_eq_true rfl) ⟨(Nat.le_of_ble_eq_true rfl), (Nat.le_of_ble_eq_true rfl)⟩ ⟨Nat.zero_le _, Nat.zero_le _⟩ dX5_sheet_33 (fun _ => rfl) (fun _ => rfl) (fun _ => rfl) (fun u15 => ?_)
        exact r_reti (x := u15.1) (rv := (fun u => some (.int u.1))) (hpE := (fun u => w_X5 u.2)) (t0 := (u15.1, u15.2)) C dX5_sheet_36 (by rfl) (by rfl) (by rfl)
  · refine r_astore C [(4, .ref 88), (0, .ref 50), (1, .int a1), (2, .int a2), (3, .int a3)] dX5_sheet_5 (Nat.le_of_ble_eq_true rfl) rfl ?_
    refine r_aload C 0 dX5_sheet_7 rfl ?_
    refine r_cut (if_pos (by decide)) ?_
    refine r_ifnull_f C dX5_sheet_9 ?_
    refine r_iload_n C 3 dX5_sheet_12 rfl ?_
    refine r_callS C (o_X2_isBits l a2) v_X2_isBits m_835 [] [.int a2] [] (fun u17 => [.int u17]) (fun u17 => w_X5 X) rfl rfl rfl rfl rfl (Nat.le_of_ble_eq_true rfl) ⟨(Nat.le_of_ble_eq_true rfl), (Nat.le_of_ble_eq_true rfl)⟩ ⟨Nat.zero_le _, Nat.zero_le _⟩ dX5_sheet_13 (fun _ => rfl) (fun _ => rfl) (fun _ => rfl) (fun u17 => ?_)
    refine r_if_ne C 26 dX5_sheet_16 (by decide) (fun h16 => ?_) (fun h16 => ?_)
    · refine r_aload_n C 1 dX5_sheet_19 rfl ?_
      refine r_ldc C (-1000001) dX5_sheet_20 m_206 ?_
      refine r_callV0 C (o_X5_finding l X (-1000001 : Int32)) v_X5_finding m_207 [.int (-1000001 : Int32)] [] (50) (Or.inl ⟨0, 4, _, TX5, 8, rfl, rfl, rfl⟩) (fun u21 => [.int u21.1]) (fun u21 => w_X5 u21.2) rfl rfl rfl (Nat.le_of_ble_eq_true rfl) ⟨(Nat.le_of_ble_eq_true rfl), (Nat.le_of_ble_eq_true rfl)⟩ ⟨Nat.zero_le _, Nat.zero_le _⟩ dX5_sheet_22 (fun _ => rfl) (fun _ => rfl) (fun _ => rfl) (fun u21 => ?_)
      exact r_reti (x := u21.1) (rv := (fun u => some (.int u.1))) (hpE := (fun u => w_X5 u.2)) (t0 := (u21.1, u21.2)) C dX5_sheet_25 (by rfl) (by rfl) (by rfl)
    · refine r_iload_n C 4 dX5_sheet_26 rfl ?_
      refine r_if_ge C 37 dX5_sheet_27 (by decide) (fun h27 => ?_) (fun h27 => ?_)
      · refine r_iload_n C 4 dX5_sheet_37 rfl ?_
        refine r_bipush C (40) dX5_sheet_38 rfl ?_
        refine r_icmp_le C 50 dX5_sheet_40 (by decide) (fun h40 => ?_) (fun h40 => ?_)
        · refine r_aload C 0 dX5_sheet_50 rfl ?_
          refine r_iload_n C 3 dX5_sheet_52 rfl ?_
          refine r_iload_n C 4 dX5_sheet_53 rfl ?_
          refine r_callV C (o_X2_begin l (X (6 + 3)) a2 a3) v_X2_begin m_838 [38, 39] [.int a2, .int a3] [] (88) (Or.inl ⟨38, 1, _, TX2, 3, rfl, rfl, rfl⟩) (fun u18 => []) (fun u18 => w_X5 (va_up X (6 + 3) u18)) rfl rfl rfl rfl rfl (Nat.le_of_ble_eq_true rfl) ⟨(Nat.le_of_ble_eq_true rfl), (Nat.le_of_ble_eq_true rfl)⟩ ⟨Nat.zero_le _, Nat.zero_le _⟩ dX5_sheet_54 (fun _ => rfl) (fun _ => rfl) (fun _ => rfl) (fun u18 => ?_)
          refine r_aload C 0 dX5_sheet_57 rfl ?_
          refine r_get C 38 1 dX5_sheet_59 K_X2 rfl rfl (Nat.le_of_ble_eq_true rfl) rfl m_164 rfl ?_
          exact r_reti (x := u18.1 1) (rv := (fun u => some (.int u.1))) (hpE := (fun u => w_X5 u.2)) (t0 := (u18.1 1, (va_up X (6 + 3) u18))) C dX5_sheet_62 (by rfl) (by rfl) (by rfl)
        · refine r_aload_n C 1 dX5_sheet_43 rfl ?_
          refine r_ldc C (-1000001) dX5_sheet_44 m_206 ?_
          refine r_callV0 C (o_X5_finding l X (-1000001 : Int32)) v_X5_finding m_207 [.int (-1000001 : Int32)] [] (50) (Or.inl ⟨0, 4, _, TX5, 8, rfl, rfl, rfl⟩) (fun u19 => [.int u19.1]) (fun u19 => w_X5 u19.2) rfl rfl rfl (Nat.le_of_ble_eq_true rfl) ⟨(Nat.le_of_ble_eq_true rfl), (Nat.le_of_ble_eq_true rfl)⟩ ⟨Nat.zero_le _, Nat.zero_le _⟩ dX5_sheet_46 (fun _ => rfl) (fun _ => rfl) (fun _ => rfl) (fun u19 => ?_)
          exact r_reti (x := u19.1) (rv := (fun u => some (.int u.1))) (hpE := (fun u => w_X5 u.2)) (t0 := (u19.1, u19.2)) C dX5_sheet_49 (by rfl) (by rfl) (by rfl)
      · refine r_aload_n C 1 dX5_sheet_30 rfl ?_
        refine r_ldc C (-1000007) dX5_sheet_31 m_606 ?_
        refine r_callV0 C (o_X5_finding l X (-1000007 : Int32)) v_X5_finding m_207 [.int (-1000007 : Int32)] [] (50) (Or.inl ⟨0, 4, _, TX5, 8, rfl, rfl, rfl⟩) (fun u20 => [.int u20.1]) (fun u20 => w_X5 u20.2) rfl rfl rfl (Nat.le_of_ble_eq_true rfl) ⟨(Nat.le_of_ble_eq_true rfl), (Nat.le_of_ble_eq_true rfl)⟩ ⟨Nat.zero_le _, Nat.zero_le _⟩ dX5_sheet_33 (fun _ => rfl) (fun _ => rfl) (fun _ => rfl) (fun u20 => ?_)
        exact r_reti (x := u20.1) (rv := (fun u => some (.int u.1))) (hpE := (fun u => w_X5 u.2)) (t0 := (u20.1, u20.2)) C dX5_sheet_36 (by rfl) (by rfl) (by rfl)
  · refine r_astoreN C [(4, .null), (0, .ref 50), (1, .int a1), (2, .int a2), (3, .int a3)] dX5_sheet_5 (Nat.le_of_ble_eq_true rfl) rfl ?_
    refine r_aloadN C 0 dX5_sheet_7 rfl ?_
    refine r_cut (if_neg (by omega)) ?_
    refine r_ifnull_t C 19 dX5_sheet_9 (by decide) ?_
    refine r_aload_n C 1 dX5_sheet_19 rfl ?_
    refine r_ldc C (-1000001) dX5_sheet_20 m_206 ?_
    refine r_callV0 C (o_X5_finding l X (-1000001 : Int32)) v_X5_finding m_207 [.int (-1000001 : Int32)] [] (50) (Or.inl ⟨0, 4, _, TX5, 8, rfl, rfl, rfl⟩) (fun u22 => [.int u22.1]) (fun u22 => w_X5 u22.2) rfl rfl rfl (Nat.le_of_ble_eq_true rfl) ⟨(Nat.le_of_ble_eq_true rfl), (Nat.le_of_ble_eq_true rfl)⟩ ⟨Nat.zero_le _, Nat.zero_le _⟩ dX5_sheet_22 (fun _ => rfl) (fun _ => rfl) (fun _ => rfl) (fun u22 => ?_)
    exact r_reti (x := u22.1) (rv := (fun u => some (.int u.1))) (hpE := (fun u => w_X5 u.2)) (t0 := (u22.1, u22.2)) C dX5_sheet_25 (by rfl) (by rfl) (by rfl)
set_option maxRecDepth 100000 in
set_option maxHeartbeats 4000000 in
theorem o_X5_write (l : Launch) (X : (Nat → q_St)) (a1 : Int32) (a2 : Int32) (a3 : Int32) : q_Ok l yX5_write cX5_write 5 (some .int) 2 43 [.ref 50, .int a1, .int a2, .int a3] (w_X5 X) (f_X5_write X a1 a2 a3) (fun u => some (.int u.1)) (fun u => w_X5 u.2) := by
  refine q_enter (by decide +kernel) (Nat.le_of_ble_eq_true rfl) (fun t p e s m args below meth c dC dI dA A α C => ?_)
  refine r_cut (f_X5_write.eq_1 _ _ _ _) ?_
  show q_S p l e (q_rm 2 43) s m args below meth c 5 dC dI dA A α (MQ below (q_Q α dC dI dA A ((fun u => some (.int u.1)) t) ((fun u => w_X5 u.2) t)) args s 0 0 A) 0 0 _ t 0 [(0, .ref 50), (1, .int a1), (2, .int a2), (3, .int a3)] [] (w_X5 X)
  refine r_aload_n C 0 dX5_write_0 rfl ?_
  refine r_iload_n C 1 dX5_write_1 rfl ?_
  refine r_callV0 C (o_X5_sheetAt l X a1) v_X5_sheetAt m_573 [.int a1] [] (50) (Or.inl ⟨0, 4, _, TX5, 8, rfl, rfl, rfl⟩) (fun u1 => va_rf (q_sf u1) :: []) (fun u1 => w_X5 X) rfl rfl rfl (Nat.le_of_ble_eq_true rfl) ⟨(Nat.le_of_ble_eq_true rfl), (Nat.le_of_ble_eq_true rfl)⟩ ⟨Nat.zero_le _, Nat.zero_le _⟩ dX5_write_2 (fun _ => rfl) (fun _ => rfl) (fun _ => rfl) (q_case4 ?_ ?_ ?_ ?_ (fun u1 => ?_))
  · refine r_astore C [(4, .ref 82), (0, .ref 50), (1, .int a1), (2, .int a2), (3, .int a3)] dX5_write_5 (Nat.le_of_ble_eq_true rfl) rfl ?_
    refine r_aload C 0 dX5_write_7 rfl ?_
    refine r_cut (if_pos (by decide)) ?_
    refine r_ifnonnull_t C 19 dX5_write_9 (by decide) ?_
    refine r_aload C 0 dX5_write_19 rfl ?_
    refine r_callV C (o_X2_isMissing l (X (6 + 0))) v_X2_isMissing m_577 [32, 33] [] [] (82) (Or.inl ⟨32, 1, _, TX2, 3, rfl, rfl, rfl⟩) (fun u2 => [.int u2]) (fun u2 => w_X5 X) rfl rfl rfl rfl rfl (Nat.le_of_ble_eq_true rfl) ⟨(Nat.le_of_ble_eq_true rfl), (Nat.le_of_ble_eq_true rfl)⟩ ⟨Nat.zero_le _, Nat.zero_le _⟩ dX5_write_21 (fun _ => rfl) (fun _ => rfl) (fun _ => rfl) (fun u2 => ?_)
    refine r_if_eq C 34 dX5_write_24 (by decide) (fun h24 => ?_) (fun h24 => ?_)
    · refine r_aload C 0 dX5_write_34 rfl ?_
      refine r_iload_n C 3 dX5_write_36 rfl ?_
      refine r_callV C (o_X2_isPlace l (X (6 + 0)) a2) v_X2_isPlace m_590 [32, 33] [.int a2] [] (82) (Or.inl ⟨32, 1, _, TX2, 3, rfl, rfl, rfl⟩) (fun u3 => [.int u3]) (fun u3 => w_X5 X) rfl rfl rfl rfl rfl (Nat.le_of_ble_eq_true rfl) ⟨(Nat.le_of_ble_eq_true rfl), (Nat.le_of_ble_eq_true rfl)⟩ ⟨Nat.zero_le _, Nat.zero_le _⟩ dX5_write_37 (fun _ => rfl) (fun _ => rfl) (fun _ => rfl) (fun u3 => ?_)
      refine r_if_ne C 50 dX5_write_40 (by decide) (fun h40 => ?_) (fun h40 => ?_)
      · refine r_aload_n C 1 dX5_write_43 rfl ?_
        refine r_ldc C (-1000001) dX5_write_44 m_206 ?_
        refine r_callV0 C (o_X5_finding l X (-1000001 : Int32)) v_X5_finding m_207 [.int (-1000001 : Int32)] [] (50) (Or.inl ⟨0, 4, _, TX5, 8, rfl, rfl, rfl⟩) (fun u5 => [.int u5.1]) (fun u5 => w_X5 u5.2) rfl rfl rfl (Nat.le_of_ble_eq_true rfl) ⟨(Nat.le_of_ble_eq_true rfl), (Nat.le_of_ble_eq_true rfl)⟩ ⟨Nat.zero_le _, Nat.zero_le _⟩ dX5_write_46 (fun _ => rfl) (fun _ => rfl) (fun _ => rfl) (fun u5 => ?_)
        exact r_reti (x := u5.1) (rv := (fun u => some (.int u.1))) (hpE := (fun u => w_X5 u.2)) (t0 := (u5.1, u5.2)) C dX5_write_49 (by rfl) (by rfl) (by rfl)
      · refine r_aload C 0 dX5_write_50 rfl ?_
        refine r_iload_n C 3 dX5_write_52 rfl ?_
        refine r_iload_n C 4 dX5_write_53 rfl ?_
        refine r_callV C (o_X2_put l (X (6 + 0)) a2 a3) v_X2_put m_850 [32, 33] [.int a2, .int a3] [] (82) (Or.inl ⟨32, 1, _, TX2, 3, rfl, rfl, rfl⟩) (fun u4 => []) (fun u4 => w_X5 (va_up X (6 + 0) u4)) rfl rfl rfl rfl rfl (Nat.le_of_ble_eq_true rfl) ⟨(Nat.le_of_ble_eq_true rfl), (Nat.le_of_ble_eq_true rfl)⟩ ⟨Nat.zero_le _, Nat.zero_le _⟩ dX5_write_54 (fun _ => rfl) (fun _ => rfl) (fun _ => rfl) (fun u4 => ?_)
        refine r_iconst C (1) dX5_write_57 rfl ?_
        exact r_reti (x := (1 : Int32)) (rv := (fun u => some (.int u.1))) (hpE := (fun u => w_X5 u.2)) (t0 := ((1 : Int32), (va_up X (6 + 0) u4))) C dX5_write_58 (by rfl) (by rfl) (by rfl)
    · refine r_aload_n C 1 dX5_write_27 rfl ?_
      refine r_ldc C (-1000006) dX5_write_28 m_581 ?_
      refine r_callV0 C (o_X5_finding l X (-1000006 : Int32)) v_X5_finding m_207 [.int (-1000006 : Int32)] [] (50) (Or.inl ⟨0, 4, _, TX5, 8, rfl, rfl, rfl⟩) (fun u6 => [.int u6.1]) (fun u6 => w_X5 u6.2) rfl rfl rfl (Nat.le_of_ble_eq_true rfl) ⟨(Nat.le_of_ble_eq_true rfl), (Nat.le_of_ble_eq_true rfl)⟩ ⟨Nat.zero_le _, Nat.zero_le _⟩ dX5_write_30 (fun _ => rfl) (fun _ => rfl) (fun _ => rfl) (fun u6 => ?_)
      exact r_reti (x := u6.1) (rv := (fun u => some (.int u.1))) (hpE := (fun u => w_X5 u.2)) (t0 := (u6.1, u6.2)) C dX5_write_33 (by rfl) (by rfl) (by rfl)
  · refine r_astore C [(4, .ref 84), (0, .ref 50), (1, .int a1), (2, .int a2), (3, .int a3)] dX5_write_5 (Nat.le_of_ble_eq_true rfl) rfl ?_
    refine r_aload C 0 dX5_write_7 rfl ?_
    refine r_cut (if_pos (by decide)) ?_
    refine r_ifnonnull_t C 19 dX5_write_9 (by decide) ?_
    refine r_aload C 0 dX5_write_19 rfl ?_
    refine r_callV C (o_X2_isMissing l (X (6 + 1))) v_X2_isMissing m_577 [34, 35] [] [] (84) (Or.inl ⟨34, 1, _, TX2, 3, rfl, rfl, rfl⟩) (fun u7 => [.int u7]) (fun u7 => w_X5 X) rfl rfl rfl rfl rfl (Nat.le_of_ble_eq_true rfl) ⟨(Nat.le_of_ble_eq_true rfl), (Nat.le_of_ble_eq_true rfl)⟩ ⟨Nat.zero_le _, Nat.zero_le _⟩ dX5_write_21 (fun _ => rfl) (fun _ => rfl) (fun _ => rfl) (fun u7 => ?_)
    refine r_if_eq C 34 dX5_write_24 (by decide) (fun h24 => ?_) (fun h24 => ?_)
    · refine r_aload C 0 dX5_write_34 rfl ?_
      refine r_iload_n C 3 dX5_write_36 rfl ?_
      refine r_callV C (o_X2_isPlace l (X (6 + 1)) a2) v_X2_isPlace m_590 [34, 35] [.int a2] [] (84) (Or.inl ⟨34, 1, _, TX2, 3, rfl, rfl, rfl⟩) (fun u8 => [.int u8]) (fun u8 => w_X5 X) rfl rfl rfl rfl rfl (Nat.le_of_ble_eq_true rfl) ⟨(Nat.le_of_ble_eq_true rfl), (Nat.le_of_ble_eq_true rfl)⟩ ⟨Nat.zero_le _, Nat.zero_le _⟩ dX5_write_37 (fun _ => rfl) (fun _ => rfl) (fun _ => rfl) (fun u8 => ?_)
      refine r_if_ne C 50 dX5_write_40 (by decide) (fun h40 => ?_) (fun h40 => ?_)
      · refine r_aload_n C 1 dX5_write_43 rfl ?_
        refine r_ldc C (-1000001) dX5_write_44 m_206 ?_
        refine r_callV0 C (o_X5_finding l X (-1000001 : Int32)) v_X5_finding m_207 [.int (-1000001 : Int32)] [] (50) (Or.inl ⟨0, 4, _, TX5, 8, rfl, rfl, rfl⟩) (fun u10 => [.int u10.1]) (fun u10 => w_X5 u10.2) rfl rfl rfl (Nat.le_of_ble_eq_true rfl) ⟨(Nat.le_of_ble_eq_true rfl), (Nat.le_of_ble_eq_true rfl)⟩ ⟨Nat.zero_le _, Nat.zero_le _⟩ dX5_write_46 (fun _ => rfl) (fun _ => rfl) (fun _ => rfl) (fun u10 => ?_)
        exact r_reti (x := u10.1) (rv := (fun u => some (.int u.1))) (hpE := (fun u => w_X5 u.2)) (t0 := (u10.1, u10.2)) C dX5_write_49 (by rfl) (by rfl) (by rfl)
      · refine r_aload C 0 dX5_write_50 rfl ?_
        refine r_iload_n C 3 dX5_write_52 rfl ?_
        refine r_iload_n C 4 dX5_write_53 rfl ?_
        refine r_callV C (o_X2_put l (X (6 + 1)) a2 a3) v_X2_put m_850 [34, 35] [.int a2, .int a3] [] (84) (Or.inl ⟨34, 1, _, TX2, 3, rfl, rfl, rfl⟩) (fun u9 => []) (fun u9 => w_X5 (va_up X (6 + 1) u9)) rfl rfl rfl rfl rfl (Nat.le_of_ble_eq_true rfl) ⟨(Nat.le_of_ble_eq_true rfl), (Nat.le_of_ble_eq_true rfl)⟩ ⟨Nat.zero_le _, Nat.zero_le _⟩ dX5_write_54 (fun _ => rfl) (fun _ => rfl) (fun _ => rfl) (fun u9 => ?_)
        refine r_iconst C (1) dX5_write_57 rfl ?_
        exact r_reti (x := (1 : Int32)) (rv := (fun u => some (.int u.1))) (hpE := (fun u => w_X5 u.2)) (t0 := ((1 : Int32), (va_up X (6 + 1) u9))) C dX5_write_58 (by rfl) (by rfl) (by rfl)
    · refine r_aload_n C 1 dX5_write_27 rfl ?_
      refine r_ldc C (-1000006) dX5_write_28 m_581 ?_
      refine r_callV0 C (o_X5_finding l X (-1000006 : Int32)) v_X5_finding m_207 [.int (-1000006 : Int32)] [] (50) (Or.inl ⟨0, 4, _, TX5, 8, rfl, rfl, rfl⟩) (fun u11 => [.int u11.1]) (fun u11 => w_X5 u11.2) rfl rfl rfl (Nat.le_of_ble_eq_true rfl) ⟨(Nat.le_of_ble_eq_true rfl), (Nat.le_of_ble_eq_true rfl)⟩ ⟨Nat.zero_le _, Nat.zero_le _⟩ dX5_write_30 (fun _ => rfl) (fun _ => rfl) (fun _ => rfl) (fun u11 => ?_)
      exact r_reti (x := u11.1) (rv := (fun u => some (.int u.1))) (hpE := (fun u => w_X5 u.2)) (t0 := (u11.1, u11.2)) C dX5_write_33 (by rfl) (by rfl) (by rfl)
  · refine r_astore C [(4, .ref 86), (0, .ref 50), (1, .int a1), (2, .int a2), (3, .int a3)] dX5_write_5 (Nat.le_of_ble_eq_true rfl) rfl ?_
    refine r_aload C 0 dX5_write_7 rfl ?_
    refine r_cut (if_pos (by decide)) ?_
    refine r_ifnonnull_t C 19 dX5_write_9 (by decide) ?_
    refine r_aload C 0 dX5_write_19 rfl ?_
    refine r_callV C (o_X2_isMissing l (X (6 + 2))) v_X2_isMissing m_577 [36, 37] [] [] (86) (Or.inl ⟨36, 1, _, TX2, 3, rfl, rfl, rfl⟩) (fun u12 => [.int u12]) (fun u12 => w_X5 X) rfl rfl rfl rfl rfl (Nat.le_of_ble_eq_true rfl) ⟨(Nat.le_of_ble_eq_true rfl), (Nat.le_of_ble_eq_true rfl)⟩ ⟨Nat.zero_le _, Nat.zero_le _⟩ dX5_write_21 (fun _ => rfl) (fun _ => rfl) (fun _ => rfl) (fun u12 => ?_)
    refine r_if_eq C 34 dX5_write_24 (by decide) (fun h24 => ?_) (fun h24 => ?_)
    · refine r_aload C 0 dX5_write_34 rfl ?_
      refine r_iload_n C 3 dX5_write_36 rfl ?_
      refine r_callV C (o_X2_isPlace l (X (6 + 2)) a2) v_X2_isPlace m_590 [36, 37] [.int a2] [] (86) (Or.inl ⟨36, 1, _, TX2, 3, rfl, rfl, rfl⟩) (fun u13 => [.int u13]) (fun u13 => w_X5 X) rfl rfl rfl rfl rfl (Nat.le_of_ble_eq_true rfl) ⟨(Nat.le_of_ble_eq_true rfl), (Nat.le_of_ble_eq_true rfl)⟩ ⟨Nat.zero_le _, Nat.zero_le _⟩ dX5_write_37 (fun _ => rfl) (fun _ => rfl) (fun _ => rfl) (fun u13 => ?_)
      refine r_if_ne C 50 dX5_write_40 (by decide) (fun h40 => ?_) (fun h40 => ?_)
      · refine r_aload_n C 1 dX5_write_43 rfl ?_
        refine r_ldc C (-1000001) dX5_write_44 m_206 ?_
        refine r_callV0 C (o_X5_finding l X (-1000001 : Int32)) v_X5_finding m_207 [.int (-1000001 : Int32)] [] (50) (Or.inl ⟨0, 4, _, TX5, 8, rfl, rfl, rfl⟩) (fun u15 => [.int u15.1]) (fun u15 => w_X5 u15.2) rfl rfl rfl (Nat.le_of_ble_eq_true rfl) ⟨(Nat.le_of_ble_eq_true rfl), (Nat.le_of_ble_eq_true rfl)⟩ ⟨Nat.zero_le _, Nat.zero_le _⟩ dX5_write_46 (fun _ => rfl) (fun _ => rfl) (fun _ => rfl) (fun u15 => ?_)
        exact r_reti (x := u15.1) (rv := (fun u => some (.int u.1))) (hpE := (fun u => w_X5 u.2)) (t0 := (u15.1, u15.2)) C dX5_write_49 (by rfl) (by rfl) (by rfl)
      · refine r_aload C 0 dX5_write_50 rfl ?_
        refine r_iload_n C 3 dX5_write_52 rfl ?_
        refine r_iload_n C 4 dX5_write_53 rfl ?_
        refine r_callV C (o_X2_put l (X (6 + 2)) a2 a3) v_X2_put m_850 [36, 37] [.int a2, .int a3] [] (86) (Or.inl ⟨36, 1, _, TX2, 3, rfl, rfl, rfl⟩) (fun u14 => []) (fun u14 => w_X5 (va_up X (6 + 2) u14)) rfl rfl rfl rfl rfl (Nat.le_of_ble_eq_true rfl) ⟨(Nat.le_of_ble_eq_true rfl), (Nat.le_of_ble_eq_true rfl)⟩ ⟨Nat.zero_le _, Nat.zero_le _⟩ dX5_write_54 (fun _ => rfl) (fun _ => rfl) (fun _ => rfl) (fun u14 => ?_)
        refine r_iconst C (1) dX5_write_57 rfl ?_
        exact r_reti (x := (1 : Int32)) (rv := (fun u => some (.int u.1))) (hpE := (fun u => w_X5 u.2)) (t0 := ((1 : Int32), (va_up X (6 + 2) u14))) C dX5_write_58 (by rfl) (by rfl) (by rfl)
    · refine r_aload_n C 1 dX5_write_27 rfl ?_
      refine r_ldc C (-1000006) dX5_write_28 m_581 ?_
      refine r_callV0 C (o_X5_finding l X (-1000006 : Int32)) v_X5_finding m_207 [.int (-1000006 : Int32)] [] (50) (Or.inl ⟨0, 4, _, TX5, 8, rfl, rfl, rfl⟩) (fun u16 => [.int u16.1]) (fun u16 => w_X5 u16.2) rfl rfl rfl (Nat.le_of_ble_eq_true rfl) ⟨(Nat.le_of_ble_eq_true rfl), (Nat.le_of_ble_eq_true rfl)⟩ ⟨Nat.zero_le _, Nat.zero_le _⟩ dX5_write_30 (fun _ => rfl) (fun _ => rfl) (fun _ => rfl) (fun u16 => ?_)
      exact r_reti (x := u16.1) (rv := (fun u => some (.int u.1))) (hpE := (fun u => w_X5 u.2)) (t0 := (u16.1, u16.2)) C dX5_write_33 (by rfl) (by rfl) (by rfl)
  · refine r_astore C [(4, .ref 88), (0, .ref 50), (1, .int a1), (2, .int a2), (3, .int a3)] dX5_write_5 (Nat.le_of_ble_eq_true rfl) rfl ?_
    refine r_aload C 0 dX5_write_7 rfl ?_
    refine r_cut (if_pos (by decide)) ?_
    refine r_ifnonnull_t C 19 dX5_write_9 (by decide) ?_
    refine r_aload C 0 dX5_write_19 rfl ?_
    refine r_callV C (o_X2_isMissing l (X (6 + 3))) v_X2_isMissing m_577 [38, 39] [] [] (88) (Or.inl ⟨38, 1, _, TX2, 3, rfl, rfl, rfl⟩) (fun u17 => [.int u17]) (fun u17 => w_X5 X) rfl rfl rfl rfl rfl (Nat.le_of_ble_eq_true rfl) ⟨(Nat.le_of_ble_eq_true rfl), (Nat.le_of_ble_eq_true rfl)⟩ ⟨Nat.zero_le _, Nat.zero_le _⟩ dX5_write_21 (fun _ => rfl) (fun _ => rfl) (fun _ => rfl) (fun u17 => ?_)
    refine r_if_eq C 34 dX5_write_24 (by decide) (fun h24 => ?_) (fun h24 => ?_)
    · refine r_aload C 0 dX5_write_34 rfl ?_
      refine r_iload_n C 3 dX5_write_36 rfl ?_
      refine r_callV C (o_X2_isPlace l (X (6 + 3)) a2) v_X2_isPlace m_590 [38, 39] [.int a2] [] (88) (Or.inl ⟨38, 1, _, TX2, 3, rfl, rfl, rfl⟩) (fun u18 => [.int u18]) (fun u18 => w_X5 X) rfl rfl rfl rfl rfl (Nat.le_of_ble_eq_true rfl) ⟨(Nat.le_of_ble_eq_true rfl), (Nat.le_of_ble_eq_true rfl)⟩ ⟨Nat.zero_le _, Nat.zero_le _⟩ dX5_write_37 (fun _ => rfl) (fun _ => rfl) (fun _ => rfl) (fun u18 => ?_)
      refine r_if_ne C 50 dX5_write_40 (by decide) (fun h40 => ?_) (fun h40 => ?_)
      · refine r_aload_n C 1 dX5_write_43 rfl ?_
        refine r_ldc C (-1000001) dX5_write_44 m_206 ?_
        refine r_callV0 C (o_X5_finding l X (-1000001 : Int32)) v_X5_finding m_207 [.int (-1000001 : Int32)] [] (50) (Or.inl ⟨0, 4, _, TX5, 8, rfl, rfl, rfl⟩) (fun u20 => [.int u20.1]) (fun u20 => w_X5 u20.2) rfl rfl rfl (Nat.le_of_ble_eq_true rfl) ⟨(Nat.le_of_ble_eq_true rfl), (Nat.le_of_ble_eq_true rfl)⟩ ⟨Nat.zero_le _, Nat.zero_le _⟩ dX5_write_46 (fun _ => rfl) (fun _ => rfl) (fun _ => rfl) (fun u20 => ?_)
        exact r_reti (x := u20.1) (rv := (fun u => some (.int u.1))) (hpE := (fun u => w_X5 u.2)) (t0 := (u20.1, u20.2)) C dX5_write_49 (by rfl) (by rfl) (by rfl)
      · refine r_aload C 0 dX5_write_50 rfl ?_
        refine r_iload_n C 3 dX5_write_52 rfl ?_
        refine r_iload_n C 4 dX5_write_53 rfl ?_
        refine r_callV C (o_X2_put l (X (6 + 3)) a2 a3) v_X2_put m_850 [38, 39] [.int a2, .int a3] [] (88) (Or.inl ⟨38, 1, _, TX2, 3, rfl, rfl, rfl⟩) (fun u19 => []) (fun u19 => w_X5 (va_up X (6 + 3) u19)) rfl rfl rfl rfl rfl (Nat.le_of_ble_eq_true rfl) ⟨(Nat.le_of_ble_eq_true rfl), (Nat.le_of_ble_eq_true rfl)⟩ ⟨Nat.zero_le _, Nat.zero_le _⟩ dX5_write_54 (fun _ => rfl) (fun _ => rfl) (fun _ => rfl) (fun u19 => ?_)
        refine r_iconst C (1) dX5_write_57 rfl ?_
        exact r_reti (x := (1 : Int32)) (rv := (fun u => some (.int u.1))) (hpE := (fun u => w_X5 u.2)) (t0 := ((1 : Int32), (va_up X (6 + 3) u19))) C dX5_write_58 (by rfl) (by rfl) (by rfl)
    · refine r_aload_n C 1 dX5_write_27 rfl ?_
      refine r_ldc C (-1000006) dX5_write_28 m_581 ?_
      refine r_callV0 C (o_X5_finding l X (-1000006 : Int32)) v_X5_finding m_207 [.int (-1000006 : Int32)] [] (50) (Or.inl ⟨0, 4, _, TX5, 8, rfl, rfl, rfl⟩) (fun u21 => [.int u21.1]) (fun u21 => w_X5 u21.2) rfl rfl rfl (Nat.le_of_ble_eq_true rfl) ⟨(Nat.le_of_ble_eq_true rfl), (Nat.le_of_ble_eq_true rfl)⟩ ⟨Nat.zero_le _, Nat.zero_le _⟩ dX5_write_30 (fun _ => rfl) (fun _ => rfl) (fun _ => rfl) (fun u21 => ?_)
      exact r_reti (x := u21.1) (rv := (fun u => some (.int u.1))) (hpE := (fun u => w_X5 u.2)) (t0 := (u21.1, u21.2)) C dX5_write_33 (by rfl) (by rfl) (by rfl)
  · refine r_astoreN C [(4, .null), (0, .ref 50), (1, .int a1), (2, .int a2), (3, .int a3)] dX5_write_5 (Nat.le_of_ble_eq_true rfl) rfl ?_
    refine r_aloadN C 0 dX5_write_7 rfl ?_
    refine r_cut (if_neg (by omega)) ?_
    refine r_ifnonnull_f C dX5_write_9 ?_
    refine r_aload_n C 1 dX5_write_12 rfl ?_
    refine r_ldc C (-1000001) dX5_write_13 m_206 ?_
    refine r_callV0 C (o_X5_finding l X (-1000001 : Int32)) v_X5_finding m_207 [.int (-1000001 : Int32)] [] (50) (Or.inl ⟨0, 4, _, TX5, 8, rfl, rfl, rfl⟩) (fun u22 => [.int u22.1]) (fun u22 => w_X5 u22.2) rfl rfl rfl (Nat.le_of_ble_eq_true rfl) ⟨(Nat.le_of_ble_eq_true rfl), (Nat.le_of_ble_eq_true rfl)⟩ ⟨Nat.zero_le _, Nat.zero_le _⟩ dX5_write_15 (fun _ => rfl) (fun _ => rfl) (fun _ => rfl) (fun u22 => ?_)
    exact r_reti (x := u22.1) (rv := (fun u => some (.int u.1))) (hpE := (fun u => w_X5 u.2)) (t0 := (u22.1, u22.2)) C dX5_write_18 (by rfl) (by rfl) (by rfl)
set_option maxRecDepth 100000 in
set_option maxHeartbeats 4000000 in
theorem o_X5_copy (l : Launch) (X : (Nat → q_St)) (a1 : Int32) (a2 : Int32) (a3 : Int32) (a4 : Int32) (a5 : Int32) : q_Ok l yX5_copy cX5_copy 8 (some .int) 1 30 [.ref 50, .int a1, .int a2, .int a3, .int a4, .int a5] (w_X5 X) (f_X5_copy X a1 a2 a3 a4 a5) (fun u => some (.int u.1)) (fun u => w_X5 u.2) := by
  refine q_enter (by decide +kernel) (Nat.le_of_ble_eq_true rfl) (fun t p e s m args below meth c dC dI dA A α C => ?_)
  refine r_cut (f_X5_copy.eq_1 _ _ _ _ _ _) ?_
  show q_S p l e (q_rm 1 30) s m args below meth c 8 dC dI dA A α (MQ below (q_Q α dC dI dA A ((fun u => some (.int u.1)) t) ((fun u => w_X5 u.2) t)) args s 0 0 A) 0 0 _ t 0 [(0, .ref 50), (1, .int a1), (2, .int a2), (3, .int a3), (4, .int a4), (5, .int a5)] [] (w_X5 X)
  refine r_aload_n C 0 dX5_copy_0 rfl ?_
  refine r_iload_n C 1 dX5_copy_1 rfl ?_
  refine r_callV0 C (o_X5_sheetAt l X a1) v_X5_sheetAt m_573 [.int a1] [] (50) (Or.inl ⟨0, 4, _, TX5, 8, rfl, rfl, rfl⟩) (fun u1 => va_rf (q_sf u1) :: []) (fun u1 => w_X5 X) rfl rfl rfl (Nat.le_of_ble_eq_true rfl) ⟨(Nat.le_of_ble_eq_true rfl), (Nat.le_of_ble_eq_true rfl)⟩ ⟨Nat.zero_le _, Nat.zero_le _⟩ dX5_copy_2 (fun _ => rfl) (fun _ => rfl) (fun _ => rfl) (q_case4 ?_ ?_ ?_ ?_ (fun u1 => ?_))
  · refine r_astore C [(6, .ref 82), (0, .ref 50), (1, .int a1), (2, .int a2), (3, .int a3), (4, .int a4), (5, .int a5)] dX5_copy_5 (Nat.le_of_ble_eq_true rfl) rfl ?_
    refine r_aload_n C 1 dX5_copy_7 rfl ?_
    refine r_iload_n C 4 dX5_copy_8 rfl ?_
    refine r_callV0 C (o_X5_sheetAt l X a3) v_X5_sheetAt m_573 [.int a3] [] (50) (Or.inl ⟨0, 4, _, TX5, 8, rfl, rfl, rfl⟩) (fun u2 => va_rf (q_sf u2) :: []) (fun u2 => w_X5 X) rfl rfl rfl (Nat.le_of_ble_eq_true rfl) ⟨(Nat.le_of_ble_eq_true rfl), (Nat.le_of_ble_eq_true rfl)⟩ ⟨Nat.zero_le _, Nat.zero_le _⟩ dX5_copy_9 (fun _ => rfl) (fun _ => rfl) (fun _ => rfl) (q_case4 ?_ ?_ ?_ ?_ (fun u2 => ?_))
    · refine r_astore C [(7, .ref 82), (6, .ref 82), (0, .ref 50), (1, .int a1), (2, .int a2), (3, .int a3), (4, .int a4), (5, .int a5)] dX5_copy_12 (Nat.le_of_ble_eq_true rfl) rfl ?_
      refine r_aload C 1 dX5_copy_14 rfl ?_
      refine r_cut (if_pos (by decide)) ?_
      refine r_ifnull_f C dX5_copy_16 ?_
      refine r_aload C 0 dX5_copy_19 rfl ?_
      refine r_ifnonnull_t C 31 dX5_copy_21 (by decide) ?_
      refine r_aload C 1 dX5_copy_31 rfl ?_
      refine r_callV C (o_X2_isMissing l (X (6 + 0))) v_X2_isMissing m_577 [32, 33] [] [] (82) (Or.inl ⟨32, 1, _, TX2, 3, rfl, rfl, rfl⟩) (fun u3 => [.int u3]) (fun u3 => w_X5 X) rfl rfl rfl rfl rfl (Nat.le_of_ble_eq_true rfl) ⟨(Nat.le_of_ble_eq_true rfl), (Nat.le_of_ble_eq_true rfl)⟩ ⟨Nat.zero_le _, Nat.zero_le _⟩ dX5_copy_33 (fun _ => rfl) (fun _ => rfl) (fun _ => rfl) (fun u3 => ?_)
      refine r_if_ne C 47 dX5_copy_36 (by decide) (fun h36 => ?_) (fun h36 => ?_)
      · refine r_aload C 0 dX5_copy_39 rfl ?_
        refine r_callV C (o_X2_isMissing l (X (6 + 0))) v_X2_isMissing m_577 [32, 33] [] [] (82) (Or.inl ⟨32, 1, _, TX2, 3, rfl, rfl, rfl⟩) (fun u5 => [.int u5]) (fun u5 => w_X5 X) rfl rfl rfl rfl rfl (Nat.le_of_ble_eq_true rfl) ⟨(Nat.le_of_ble_eq_true rfl), (Nat.le_of_ble_eq_true rfl)⟩ ⟨Nat.zero_le _, Nat.zero_le _⟩ dX5_copy_41 (fun _ => rfl) (fun _ => rfl) (fun _ => rfl) (fun u5 => ?_)
        refine r_if_eq C 54 dX5_copy_44 (by decide) (fun h44 => ?_) (fun h44 => ?_)
        · refine r_aload C 1 dX5_copy_54 rfl ?_
          refine r_get C 32 0 dX5_copy_56 K_X2 rfl rfl (Nat.le_of_ble_eq_true rfl) rfl m_162 rfl ?_
          refine r_aload C 0 dX5_copy_59 rfl ?_
          refine r_get C 32 0 dX5_copy_61 K_X2 rfl rfl (Nat.le_of_ble_eq_true rfl) rfl m_162 rfl ?_
          refine r_icmp_eq C 75 dX5_copy_64 (by decide) (fun h64 => ?_) (fun h64 => ?_)
          · refine r_aload C 1 dX5_copy_75 rfl ?_
            refine r_iload_n C 4 dX5_copy_77 rfl ?_
            refine r_iload C 7 dX5_copy_78 rfl ?_
            refine r_callV C (o_X2_isStretch l (X (6 + 0)) a2 a5) v_X2_isStretch m_858 [32, 33] [.int a2, .int a5] [] (82) (Or.inl ⟨32, 1, _, TX2, 3, rfl, rfl, rfl⟩) (fun u6 => [.int u6]) (fun u6 => w_X5 X) rfl rfl rfl rfl rfl (Nat.le_of_ble_eq_true rfl) ⟨(Nat.le_of_ble_eq_true rfl), (Nat.le_of_ble_eq_true rfl)⟩ ⟨Nat.zero_le _, Nat.zero_le _⟩ dX5_copy_80 (fun _ => rfl) (fun _ => rfl) (fun _ => rfl) (fun u6 => ?_)
            refine r_if_eq C 98 dX5_copy_83 (by decide) (fun h83 => ?_) (fun h83 => ?_)
            · refine r_aload_n C 2 dX5_copy_98 rfl ?_
              refine r_ldc C (-1000001) dX5_copy_99 m_206 ?_
              refine r_callV0 C (o_X5_finding l X (-1000001 : Int32)) v_X5_finding m_207 [.int (-1000001 : Int32)] [] (50) (Or.inl ⟨0, 4, _, TX5, 8, rfl, rfl, rfl⟩) (fun u7 => [.int u7.1]) (fun u7 => w_X5 u7.2) rfl rfl rfl (Nat.le_of_ble_eq_true rfl) ⟨(Nat.le_of_ble_eq_true rfl), (Nat.le_of_ble_eq_true rfl)⟩ ⟨Nat.zero_le _, Nat.zero_le _⟩ dX5_copy_101 (fun _ => rfl) (fun _ => rfl) (fun _ => rfl) (fun u7 => ?_)
              exact r_reti (x := u7.1) (rv := (fun u => some (.int u.1))) (hpE := (fun u => w_X5 u.2)) (t0 := (u7.1, u7.2)) C dX5_copy_104 (by rfl) (by rfl) (by rfl)
            · refine r_aload C 0 dX5_copy_86 rfl ?_
              refine r_iload C 6 dX5_copy_88 rfl ?_
              refine r_iload C 7 dX5_copy_90 rfl ?_
              refine r_callV C (o_X2_isStretch l (X (6 + 0)) a4 a5) v_X2_isStretch m_858 [32, 33] [.int a4, .int a5] [] (82) (Or.inl ⟨32, 1, _, TX2, 3, rfl, rfl, rfl⟩) (fun u8 => [.int u8]) (fun u8 => w_X5 X) rfl rfl rfl rfl rfl (Nat.le_of_ble_eq_true rfl) ⟨(Nat.le_of_ble_eq_true rfl), (Nat.le_of_ble_eq_true rfl)⟩ ⟨Nat.zero_le _, Nat.zero_le _⟩ dX5_copy_92 (fun _ => rfl) (fun _ => rfl) (fun _ => rfl) (fun u8 => ?_)
              refine r_if_ne C 105 dX5_copy_95 (by decide) (fun h95 => ?_) (fun h95 => ?_)
              · refine r_aload_n C 2 dX5_copy_98 rfl ?_
                refine r_ldc C (-1000001) dX5_copy_99 m_206 ?_
                refine r_callV0 C (o_X5_finding l X (-1000001 : Int32)) v_X5_finding m_207 [.int (-1000001 : Int32)] [] (50) (Or.inl ⟨0, 4, _, TX5, 8, rfl, rfl, rfl⟩) (fun u9 => [.int u9.1]) (fun u9 => w_X5 u9.2) rfl rfl rfl (Nat.le_of_ble_eq_true rfl) ⟨(Nat.le_of_ble_eq_true rfl), (Nat.le_of_ble_eq_true rfl)⟩ ⟨Nat.zero_le _, Nat.zero_le _⟩ dX5_copy_101 (fun _ => rfl) (fun _ => rfl) (fun _ => rfl) (fun u9 => ?_)
                exact r_reti (x := u9.1) (rv := (fun u => some (.int u.1))) (hpE := (fun u => w_X5 u.2)) (t0 := (u9.1, u9.2)) C dX5_copy_104 (by rfl) (by rfl) (by rfl)
              · refine r_aload C 1 dX5_copy_105 rfl ?_
                refine r_get C 32 2 dX5_copy_107 K_X2 rfl rfl (Nat.le_of_ble_eq_true rfl) rfl m_166 rfl ?_
                refine r_iload_n C 4 dX5_copy_110 rfl ?_
                refine r_aload C 0 dX5_copy_111 rfl ?_
                refine r_get C 32 2 dX5_copy_113 K_X2 rfl rfl (Nat.le_of_ble_eq_true rfl) rfl m_166 rfl ?_
                refine r_iload C 6 dX5_copy_116 rfl ?_
                refine r_iload C 7 dX5_copy_118 rfl ?_
                refine r_copy C 33 33 _ dX5_copy_120 m_862 m_507 m_506 m_10 rfl rfl rfl rfl (Nat.le_of_ble_eq_true rfl) (Nat.le_of_ble_eq_true rfl) rfl ?_
                refine r_iload C 7 dX5_copy_123 rfl ?_
                exact r_reti (x := a5) (rv := (fun u => some (.int u.1))) (hpE := (fun u => w_X5 u.2)) (t0 := (a5, (va_up X (6 + 0) ((X (6 + 0)).1, (va_up (X (6 + 0)).2 2 (va_cpy ((X (6 + 0)).2 2) ((X (6 + 0)).2 2) a2.toNatClampNeg a4.toNatClampNeg a5.toNatClampNeg)))))) C dX5_copy_125 (by rfl) (by rfl) (by rfl)
          · refine r_aload_n C 2 dX5_copy_67 rfl ?_
            refine r_ldcw C (-1000003) dX5_copy_68 m_830 ?_
            refine r_callV0 C (o_X5_finding l X (-1000003 : Int32)) v_X5_finding m_207 [.int (-1000003 : Int32)] [] (50) (Or.inl ⟨0, 4, _, TX5, 8, rfl, rfl, rfl⟩) (fun u10 => [.int u10.1]) (fun u10 => w_X5 u10.2) rfl rfl rfl (Nat.le_of_ble_eq_true rfl) ⟨(Nat.le_of_ble_eq_true rfl), (Nat.le_of_ble_eq_true rfl)⟩ ⟨Nat.zero_le _, Nat.zero_le _⟩ dX5_copy_71 (fun _ => rfl) (fun _ => rfl) (fun _ => rfl) (fun u10 => ?_)
            exact r_reti (x := u10.1) (rv := (fun u => some (.int u.1))) (hpE := (fun u => w_X5 u.2)) (t0 := (u10.1, u10.2)) C dX5_copy_74 (by rfl) (by rfl) (by rfl)
        · refine r_aload_n C 2 dX5_copy_47 rfl ?_
          refine r_ldc C (-1000006) dX5_copy_48 m_581 ?_
          refine r_callV0 C (o_X5_finding l X (-1000006 : Int32)) v_X5_finding m_207 [.int (-1000006 : Int32)] [] (50) (Or.inl ⟨0, 4, _, TX5, 8, rfl, rfl, rfl⟩) (fun u11 => [.int u11.1]) (fun u11 => w_X5 u11.2) rfl rfl rfl (Nat.le_of_ble_eq_true rfl) ⟨(Nat.le_of_ble_eq_true rfl), (Nat.le_of_ble_eq_true rfl)⟩ ⟨Nat.zero_le _, Nat.zero_le _⟩ dX5_copy_50 (fun _ => rfl) (fun _ => rfl) (fun _ => rfl) (fun u11 => ?_)
          exact r_reti (x := u11.1) (rv := (fun u => some (.int u.1))) (hpE := (fun u => w_X5 u.2)) (t0 := (u11.1, u11.2)) C dX5_copy_53 (by rfl) (by rfl) (by rfl)
      · refine r_aload_n C 2 dX5_copy_47 rfl ?_
        refine r_ldc C (-1000006) dX5_copy_48 m_581 ?_
        refine r_callV0 C (o_X5_finding l X (-1000006 : Int32)) v_X5_finding m_207 [.int (-1000006 : Int32)] [] (50) (Or.inl ⟨0, 4, _, TX5, 8, rfl, rfl, rfl⟩) (fun u4 => [.int u4.1]) (fun u4 => w_X5 u4.2) rfl rfl rfl (Nat.le_of_ble_eq_true rfl) ⟨(Nat.le_of_ble_eq_true rfl), (Nat.le_of_ble_eq_true rfl)⟩ ⟨Nat.zero_le _, Nat.zero_le _⟩ dX5_copy_50 (fun _ => rfl) (fun _ => rfl) (fun _ => rfl) (fun u4 => ?_)
        exact r_reti (x := u4.1) (rv := (fun u => some (.int u.1))) (hpE := (fun u => w_X5 u.2)) (t0 := (u4.1, u4.2)) C dX5_copy_53 (by rfl) (by rfl) (by rfl)
    · refine r_astore C [(7, .ref 84), (6, .ref 82), (0, .ref 50), (1, .int a1), (2, .int a2), (3, .int a3), (4, .int a4), (5, .int a5)] dX5_copy_12 (Nat.le_of_ble_eq_true rfl) rfl ?_
      refine r_aload C 1 dX5_copy_14 rfl ?_
      refine r_cut (if_pos (by decide)) ?_
      refine r_ifnull_f C dX5_copy_16 ?_
      refine r_aload C 0 dX5_copy_19 rfl ?_
      refine r_cut (if_pos (by decide)) ?_
      refine r_ifnonnull_t C 31 dX5_copy_21 (by decide) ?_
      refine r_aload C 1 dX5_copy_31 rfl ?_
      refine r_callV C (o_X2_isMissing l (X (6 + 0))) v_X2_isMissing m_577 [32, 33] [] [] (82) (Or.inl ⟨32, 1, _, TX2, 3, rfl, rfl, rfl⟩) (fun u12 => [.int u12]) (fun u12 => w_X5 X) rfl rfl rfl rfl rfl (Nat.le_of_ble_eq_true rfl) ⟨(Nat.le_of_ble_eq_true rfl), (Nat.le_of_ble_eq_true rfl)⟩ ⟨Nat.zero_le _, Nat.zero_le _⟩ dX5_copy_33 (fun _ => rfl) (fun _ => rfl) (fun _ => rfl) (fun u12 => ?_)
      refine r_if_ne C 47 dX5_copy_36 (by decide) (fun h36 => ?_) (fun h36 => ?_)
      · refine r_aload C 0 dX5_copy_39 rfl ?_
        refine r_callV C (o_X2_isMissing l (X (6 + 1))) v_X2_isMissing m_577 [34, 35] [] [] (84) (Or.inl ⟨34, 1, _, TX2, 3, rfl, rfl, rfl⟩) (fun u14 => [.int u14]) (fun u14 => w_X5 X) rfl rfl rfl rfl rfl (Nat.le_of_ble_eq_true rfl) ⟨(Nat.le_of_ble_eq_true rfl), (Nat.le_of_ble_eq_true rfl)⟩ ⟨Nat.zero_le _, Nat.zero_le _⟩ dX5_copy_41 (fun _ => rfl) (fun _ => rfl) (fun _ => rfl) (fun u14 => ?_)
        refine r_if_eq C 54 dX5_copy_44 (by decide) (fun h44 => ?_) (fun h44 => ?_)
        · refine r_aload C 1 dX5_copy_54 rfl ?_
          refine r_get C 32 0 dX5_copy_56 K_X2 rfl rfl (Nat.le_of_ble_eq_true rfl) rfl m_162 rfl ?_
          refine r_aload C 0 dX5_copy_59 rfl ?_
          refine r_get C 34 0 dX5_copy_61 K_X2 rfl rfl (Nat.le_of_ble_eq_true rfl) rfl m_162 rfl ?_
          refine r_icmp_eq C 75 dX5_copy_64 (by decide) (fun h64 => ?_) (fun h64 => ?_)
          · refine r_aload C 1 dX5_copy_75 rfl ?_
            refine r_iload_n C 4 dX5_copy_77 rfl ?_
            refine r_iload C 7 dX5_copy_78 rfl ?_
            refine r_callV C (o_X2_isStretch l (X (6 + 0)) a2 a5) v_X2_isStretch m_858 [32, 33] [.int a2, .int a5] [] (82) (Or.inl ⟨32, 1, _, TX2, 3, rfl, rfl, rfl⟩) (fun u15 => [.int u15]) (fun u15 => w_X5 X) rfl rfl rfl rfl rfl (Nat.le_of_ble_eq_true rfl) ⟨(Nat.le_of_ble_eq_true rfl), (Nat.le_of_ble_eq_true rfl)⟩ ⟨Nat.zero_le _, Nat.zero_le _⟩ dX5_copy_80 (fun _ => rfl) (fun _ => rfl) (fun _ => rfl) (fun u15 => ?_)
            refine r_if_eq C 98 dX5_copy_83 (by decide) (fun h83 => ?_) (fun h83 => ?_)
            · refine r_aload_n C 2 dX5_copy_98 rfl ?_
              refine r_ldc C (-1000001) dX5_copy_99 m_206 ?_
              refine r_callV0 C (o_X5_finding l X (-1000001 : Int32)) v_X5_finding m_207 [.int (-1000001 : Int32)] [] (50) (Or.inl ⟨0, 4, _, TX5, 8, rfl, rfl, rfl⟩) (fun u16 => [.int u16.1]) (fun u16 => w_X5 u16.2) rfl rfl rfl (Nat.le_of_ble_eq_true rfl) ⟨(Nat.le_of_ble_eq_true rfl), (Nat.le_of_ble_eq_true rfl)⟩ ⟨Nat.zero_le _, Nat.zero_le _⟩ dX5_copy_101 (fun _ => rfl) (fun _ => rfl) (fun _ => rfl) (fun u16 => ?_)
              exact r_reti (x := u16.1) (rv := (fun u => some (.int u.1))) (hpE := (fun u => w_X5 u.2)) (t0 := (u16.1, u16.2)) C dX5_copy_104 (by rfl) (by rfl) (by rfl)
            · refine r_aload C 0 dX5_copy_86 rfl ?_
              refine r_iload C 6 dX5_copy_88 rfl ?_
              refine r_iload C 7 dX5_copy_90 rfl ?_
              refine r_callV C (o_X2_isStretch l (X (6 + 1)) a4 a5) v_X2_isStretch m_858 [34, 35] [.int a4, .int a5] [] (84) (Or.inl ⟨34, 1, _, TX2, 3, rfl, rfl, rfl⟩) (fun u17 => [.int u17]) (fun u17 => w_X5 X) rfl rfl rfl rfl rfl (Nat.le_of_ble_eq_true rfl) ⟨(Nat.le_of_ble_eq_true rfl), (Nat.le_of_ble_eq_true rfl)⟩ ⟨Nat.zero_le _, Nat.zero_le _⟩ dX5_copy_92 (fun _ => rfl) (fun _ => rfl) (fun _ => rfl) (fun u17 => ?_)
              refine r_if_ne C 105 dX5_copy_95 (by decide) (fun h95 => ?_) (fun h95 => ?_)
              · refine r_aload_n C 2 dX5_copy_98 rfl ?_
                refine r_ldc C (-1000001) dX5_copy_99 m_206 ?_
                refine r_callV0 C (o_X5_finding l X (-1000001 : Int32)) v_X5_finding m_207 [.int (-1000001 : Int32)] [] (50) (Or.inl ⟨0, 4, _, TX5, 8, rfl, rfl, rfl⟩) (fun u18 => [.int u18.1]) (fun u18 => w_X5 u18.2) rfl rfl rfl (Nat.le_of_ble_eq_true rfl) ⟨(Nat.le_of_ble_eq_true rfl), (Nat.le_of_ble_eq_true rfl)⟩ ⟨Nat.zero_le _, Nat.zero_le _⟩ dX5_copy_101 (fun _ => rfl) (fun _ => rfl) (fun _ => rfl) (fun u18 => ?_)
                exact r_reti (x := u18.1) (rv := (fun u => some (.int u.1))) (hpE := (fun u => w_X5 u.2)) (t0 := (u18.1, u18.2)) C dX5_copy_104 (by rfl) (by rfl) (by rfl)
              · refine r_aload C 1 dX5_copy_105 rfl ?_
                refine r_get C 32 2 dX5_copy_107 K_X2 rfl rfl (Nat.le_of_ble_eq_true rfl) rfl m_166 rfl ?_
                refine r_iload_n C 4 dX5_copy_110 rfl ?_
                refine r_aload C 0 dX5_copy_111 rfl ?_
                refine r_get C 34 2 dX5_copy_113 K_X2 rfl rfl (Nat.le_of_ble_eq_true rfl) rfl m_166 rfl ?_
                refine r_iload C 6 dX5_copy_116 rfl ?_
                refine r_iload C 7 dX5_copy_118 rfl ?_
                refine r_copy C 33 35 _ dX5_copy_120 m_862 m_507 m_506 m_10 rfl rfl rfl rfl (Nat.le_of_ble_eq_true rfl) (Nat.le_of_ble_eq_true rfl) rfl ?_
                refine r_iload C 7 dX5_copy_123 rfl ?_
                exact r_reti (x := a5) (rv := (fun u => some (.int u.1))) (hpE := (fun u => w_X5 u.2)) (t0 := (a5, (va_up X (6 + 1) ((X (6 + 1)).1, (va_up (X (6 + 1)).2 2 (va_cpy ((X (6 + 0)).2 2) ((X (6 + 1)).2 2) a2.toNatClampNeg a4.toNatClampNeg a5.toNatClampNeg)))))) C dX5_copy_125 (by rfl) (by rfl) (by rfl)
          · refine r_aload_n C 2 dX5_copy_67 rfl ?_
            refine r_ldcw C (-1000003) dX5_copy_68 m_830 ?_
            refine r_callV0 C (o_X5_finding l X (-1000003 : Int32)) v_X5_finding m_207 [.int (-1000003 : Int32)] [] (50) (Or.inl ⟨0, 4, _, TX5, 8, rfl, rfl, rfl⟩) (fun u19 => [.int u19.1]) (fun u19 => w_X5 u19.2) rfl rfl rfl (Nat.le_of_ble_eq_true rfl) ⟨(Nat.le_of_ble_eq_true rfl), (Nat.le_of_ble_eq_true rfl)⟩ ⟨Nat.zero_le _, Nat.zero_le _⟩ dX5_copy_71 (fun _ => rfl) (fun _ => rfl) (fun _ => rfl) (fun u19 => ?_)
            exact r_reti (x := u19.1) (rv := (fun u => some (.int u.1))) (hpE := (fun u => w_X5 u.2)) (t0 := (u19.1, u19.2)) C dX5_copy_74 (by rfl) (by rfl) (by rfl)
        · refine r_aload_n C 2 dX5_copy_47 rfl ?_
          refine r_ldc C (-1000006) dX5_copy_48 m_581 ?_
          refine r_callV0 C (o_X5_finding l X (-1000006 : Int32)) v_X5_finding m_207 [.int (-1000006 : Int32)] [] (50) (Or.inl ⟨0, 4, _, TX5, 8, rfl, rfl, rfl⟩) (fun u20 => [.int u20.1]) (fun u20 => w_X5 u20.2) rfl rfl rfl (Nat.le_of_ble_eq_true rfl) ⟨(Nat.le_of_ble_eq_true rfl), (Nat.le_of_ble_eq_true rfl)⟩ ⟨Nat.zero_le _, Nat.zero_le _⟩ dX5_copy_50 (fun _ => rfl) (fun _ => rfl) (fun _ => rfl) (fun u20 => ?_)
          exact r_reti (x := u20.1) (rv := (fun u => some (.int u.1))) (hpE := (fun u => w_X5 u.2)) (t0 := (u20.1, u20.2)) C dX5_copy_53 (by rfl) (by rfl) (by rfl)
      · refine r_aload_n C 2 dX5_copy_47 rfl ?_
        refine r_ldc C (-1000006) dX5_copy_48 m_581 ?_
        refine r_callV0 C (o_X5_finding l X (-1000006 : Int32)) v_X5_finding m_207 [.int (-1000006 : Int32)] [] (50) (Or.inl ⟨0, 4, _, TX5, 8, rfl, rfl, rfl⟩) (fun u13 => [.int u13.1]) (fun u13 => w_X5 u13.2) rfl rfl rfl (Nat.le_of_ble_eq_true rfl) ⟨(Nat.le_of_ble_eq_true rfl), (Nat.le_of_ble_eq_true rfl)⟩ ⟨Nat.zero_le _, Nat.zero_le _⟩ dX5_copy_50 (fun _ => rfl) (fun _ => rfl) (fun _ => rfl) (fun u13 => ?_)
        exact r_reti (x := u13.1) (rv := (fun u => some (.int u.1))) (hpE := (fun u => w_X5 u.2)) (t0 := (u13.1, u13.2)) C dX5_copy_53 (by rfl) (by rfl) (by rfl)
    · refine r_astore C [(7, .ref 86), (6, .ref 82), (0, .ref 50), (1, .int a1), (2, .int a2), (3, .int a3), (4, .int a4), (5, .int a5)] dX5_copy_12 (Nat.le_of_ble_eq_true rfl) rfl ?_
      refine r_aload C 1 dX5_copy_14 rfl ?_
      refine r_cut (if_pos (by decide)) ?_
      refine r_ifnull_f C dX5_copy_16 ?_
      refine r_aload C 0 dX5_copy_19 rfl ?_
      refine r_cut (if_pos (by decide)) ?_
      refine r_ifnonnull_t C 31 dX5_copy_21 (by decide) ?_
      refine r_aload C 1 dX5_copy_31 rfl ?_
      refine r_callV C (o_X2_isMissing l (X (6 + 0))) v_X2_isMissing m_577 [32, 33] [] [] (82) (Or.inl ⟨32, 1, _, TX2, 3, rfl, rfl, rfl⟩) (fun u21 => [.int u21]) (fun u21 => w_X5 X) rfl rfl rfl rfl rfl (Nat.le_of_ble_eq_true rfl) ⟨(Nat.le_of_ble_eq_true rfl), (Nat.le_of_ble_eq_true rfl)⟩ ⟨Nat.zero_le _, Nat.zero_le _⟩ dX5_copy_33 (fun _ => rfl) (fun _ => rfl) (fun _ => rfl) (fun u21 => ?_)
      refine r_if_ne C 47 dX5_copy_36 (by decide) (fun h36 => ?_) (fun h36 => ?_)
      · refine r_aload C 0 dX5_copy_39 rfl ?_
        refine r_callV C (o_X2_isMissing l (X (6 + 2))) v_X2_isMissing m_577 [36, 37] [] [] (86) (Or.inl ⟨36, 1, _, TX2, 3, rfl, rfl, rfl⟩) (fun u23 => [.int u23]) (fun u23 => w_X5 X) rfl rfl rfl rfl rfl (Nat.le_of_ble_eq_true rfl) ⟨(Nat.le_of_ble_eq_true rfl), (Nat.le_of_ble_eq_true rfl)⟩ ⟨Nat.zero_le _, Nat.zero_le _⟩ dX5_copy_41 (fun _ => rfl) (fun _ => rfl) (fun _ => rfl) (fun u23 => ?_)
        refine r_if_eq C 54 dX5_copy_44 (by decide) (fun h44 => ?_) (fun h44 => ?_)
        · refine r_aload C 1 dX5_copy_54 rfl ?_
          refine r_get C 32 0 dX5_copy_56 K_X2 rfl rfl (Nat.le_of_ble_eq_true rfl) rfl m_162 rfl ?_
          refine r_aload C 0 dX5_copy_59 rfl ?_
          refine r_get C 36 0 dX5_copy_61 K_X2 rfl rfl (Nat.le_of_ble_eq_true rfl) rfl m_162 rfl ?_
          refine r_icmp_eq C 75 dX5_copy_64 (by decide) (fun h64 => ?_) (fun h64 => ?_)
          · refine r_aload C 1 dX5_copy_75 rfl ?_
            refine r_iload_n C 4 dX5_copy_77 rfl ?_
            refine r_iload C 7 dX5_copy_78 rfl ?_
            refine r_callV C (o_X2_isStretch l (X (6 + 0)) a2 a5) v_X2_isStretch m_858 [32, 33] [.int a2, .int a5] [] (82) (Or.inl ⟨32, 1, _, TX2, 3, rfl, rfl, rfl⟩) (fun u24 => [.int u24]) (fun u24 => w_X5 X) rfl rfl rfl rfl rfl (Nat.le_of_ble_eq_true rfl) ⟨(Nat.le_of_ble_eq_true rfl), (Nat.le_of_ble_eq_true rfl)⟩ ⟨Nat.zero_le _, Nat.zero_le _⟩ dX5_copy_80 (fun _ => rfl) (fun _ => rfl) (fun _ => rfl) (fun u24 => ?_)
            refine r_if_eq C 98 dX5_copy_83 (by decide) (fun h83 => ?_) (fun h83 => ?_)
            · refine r_aload_n C 2 dX5_copy_98 rfl ?_
              refine r_ldc C (-1000001) dX5_copy_99 m_206 ?_
              refine r_callV0 C (o_X5_finding l X (-1000001 : Int32)) v_X5_finding m_207 [.int (-1000001 : Int32)] [] (50) (Or.inl ⟨0, 4, _, TX5, 8, rfl, rfl, rfl⟩) (fun u25 => [.int u25.1]) (fun u25 => w_X5 u25.2) rfl rfl rfl (Nat.le_of_ble_eq_true rfl) ⟨(Nat.le_of_ble_eq_true rfl), (Nat.le_of_ble_eq_true rfl)⟩ ⟨Nat.zero_le _, Nat.zero_le _⟩ dX5_copy_101 (fun _ => rfl) (fun _ => rfl) (fun _ => rfl) (fun u25 => ?_)
              exact r_reti (x := u25.1) (rv := (fun u => some (.int u.1))) (hpE := (fun u => w_X5 u.2)) (t0 := (u25.1, u25.2)) C dX5_copy_104 (by rfl) (by rfl) (by rfl)
            · refine r_aload C 0 dX5_copy_86 rfl ?_
              refine r_iload C 6 dX5_copy_88 rfl ?_
              refine r_iload C 7 dX5_copy_90 rfl ?_
              refine r_callV C (o_X2_isStretch l (X (6 + 2)) a4 a5) v_X2_isStretch m_858 [36, 37] [.int a4, .int a5] [] (86) (Or.inl ⟨36, 1, _, TX2, 3, rfl, rfl, rfl⟩) (fun u26 => [.int u26]) (fun u26 => w_X5 X) rfl rfl rfl rfl rfl (Nat.le_of_ble_eq_true rfl) ⟨(Nat.le_of_ble_eq_true rfl), (Nat.le_of_ble_eq_true rfl)⟩ ⟨Nat.zero_le _, Nat.zero_le _⟩ dX5_copy_92 (fun _ => rfl) (fun _ => rfl) (fun _ => rfl) (fun u26 => ?_)
              refine r_if_ne C 105 dX5_copy_95 (by decide) (fun h95 => ?_) (fun h95 => ?_)
              · refine r_aload_n C 2 dX5_copy_98 rfl ?_
                refine r_ldc C (-1000001) dX5_copy_99 m_206 ?_
                refine r_callV0 C (o_X5_finding l X (-1000001 : Int32)) v_X5_finding m_207 [.int (-1000001 : Int32)] [] (50) (Or.inl ⟨0, 4, _, TX5, 8, rfl, rfl, rfl⟩) (fun u27 => [.int u27.1]) (fun u27 => w_X5 u27.2) rfl rfl rfl (Nat.le_of_ble_eq_true rfl) ⟨(Nat.le_of_ble_eq_true rfl), (Nat.le_of_ble_eq_true rfl)⟩ ⟨Nat.zero_le _, Nat.zero_le _⟩ dX5_copy_101 (fun _ => rfl) (fun _ => rfl) (fun _ => rfl) (fun u27 => ?_)
                exact r_reti (x := u27.1) (rv := (fun u => some (.int u.1))) (hpE := (fun u => w_X5 u.2)) (t0 := (u27.1, u27.2)) C dX5_copy_104 (by rfl) (by rfl) (by rfl)
              · refine r_aload C 1 dX5_copy_105 rfl ?_
                refine r_get C 32 2 dX5_copy_107 K_X2 rfl rfl (Nat.le_of_ble_eq_true rfl) rfl m_166 rfl ?_
                refine r_iload_n C 4 dX5_copy_110 rfl ?_
                refine r_aload C 0 dX5_copy_111 rfl ?_
                refine r_get C 36 2 dX5_copy_113 K_X2 rfl rfl (Nat.le_of_ble_eq_true rfl) rfl m_166 rfl ?_
                refine r_iload C 6 dX5_copy_116 rfl ?_
                refine r_iload C 7 dX5_copy_118 rfl ?_
                refine r_copy C 33 37 _ dX5_copy_120 m_862 m_507 m_506 m_10 rfl rfl rfl rfl (Nat.le_of_ble_eq_true rfl) (Nat.le_of_ble_eq_true rfl) rfl ?_
                refine r_iload C 7 dX5_copy_123 rfl ?_
                exact r_reti (x := a5) (rv := (fun u => some (.int u.1))) (hpE := (fun u => w_X5 u.2)) (t0 := (a5, (va_up X (6 + 2) ((X (6 + 2)).1, (va_up (X (6 + 2)).2 2 (va_cpy ((X (6 + 0)).2 2) ((X (6 + 2)).2 2) a2.toNatClampNeg a4.toNatClampNeg a5.toNatClampNeg)))))) C dX5_copy_125 (by rfl) (by rfl) (by rfl)
          · refine r_aload_n C 2 dX5_copy_67 rfl ?_
            refine r_ldcw C (-1000003) dX5_copy_68 m_830 ?_
            refine r_callV0 C (o_X5_finding l X (-1000003 : Int32)) v_X5_finding m_207 [.int (-1000003 : Int32)] [] (50) (Or.inl ⟨0, 4, _, TX5, 8, rfl, rfl, rfl⟩) (fun u28 => [.int u28.1]) (fun u28 => w_X5 u28.2) rfl rfl rfl (Nat.le_of_ble_eq_true rfl) ⟨(Nat.le_of_ble_eq_true rfl), (Nat.le_of_ble_eq_true rfl)⟩ ⟨Nat.zero_le _, Nat.zero_le _⟩ dX5_copy_71 (fun _ => rfl) (fun _ => rfl) (fun _ => rfl) (fun u28 => ?_)
            exact r_reti (x := u28.1) (rv := (fun u => some (.int u.1))) (hpE := (fun u => w_X5 u.2)) (t0 := (u28.1, u28.2)) C dX5_copy_74 (by rfl) (by rfl) (by rfl)
        · refine r_aload_n C 2 dX5_copy_47 rfl ?_
          refine r_ldc C (-1000006) dX5_copy_48 m_581 ?_
          refine r_callV0 C (o_X5_finding l X (-1000006 : Int32)) v_X5_finding m_207 [.int (-1000006 : Int32)] [] (50) (Or.inl ⟨0, 4, _, TX5, 8, rfl, rfl, rfl⟩) (fun u29 => [.int u29.1]) (fun u29 => w_X5 u29.2) rfl rfl rfl (Nat.le_of_ble_eq_true rfl) ⟨(Nat.le_of_ble_eq_true rfl), (Nat.le_of_ble_eq_true rfl)⟩ ⟨Nat.zero_le _, Nat.zero_le _⟩ dX5_copy_50 (fun _ => rfl) (fun _ => rfl) (fun _ => rfl) (fun u29 => ?_)
          exact r_reti (x := u29.1) (rv := (fun u => some (.int u.1))) (hpE := (fun u => w_X5 u.2)) (t0 := (u29.1, u29.2)) C dX5_copy_53 (by rfl) (by rfl) (by rfl)
      · refine r_aload_n C 2 dX5_copy_47 rfl ?_
        refine r_ldc C (-1000006) dX5_copy_48 m_581 ?_
        refine r_callV0 C (o_X5_finding l X (-1000006 : Int32)) v_X5_finding m_207 [.int (-1000006 : Int32)] [] (50) (Or.inl ⟨0, 4, _, TX5, 8, rfl, rfl, rfl⟩) (fun u22 => [.int u22.1]) (fun u22 => w_X5 u22.2) rfl rfl rfl (Nat.le_of_ble_eq_true rfl) ⟨(Nat.le_of_ble_eq_true rfl), (Nat.le_of_ble_eq_true rfl)⟩ ⟨Nat.zero_le _, Nat.zero_le _⟩ dX5_copy_50 (fun _ => rfl) (fun _ => rfl) (fun _ => rfl) (fun u22 => ?_)
        exact r_reti (x := u22.1) (rv := (fun u => some (.int u.1))) (hpE := (fun u => w_X5 u.2)) (t0 := (u22.1, u22.2)) C dX5_copy_53 (by rfl) (by rfl) (by rfl)
    · refine r_astore C [(7, .ref 88), (6, .ref 82), (0, .ref 50), (1, .int a1), (2, .int a2), (3, .int a3), (4, .int a4), (5, .int a5)] dX5_copy_12 (Nat.le_of_ble_eq_true rfl) rfl ?_
      refine r_aload C 1 dX5_copy_14 rfl ?_
      refine r_cut (if_pos (by decide)) ?_
      refine r_ifnull_f C dX5_copy_16 ?_
      refine r_aload C 0 dX5_copy_19 rfl ?_
      refine r_cut (if_pos (by decide)) ?_
      refine r_ifnonnull_t C 31 dX5_copy_21 (by decide) ?_
      refine r_aload C 1 dX5_copy_31 rfl ?_
      refine r_callV C (o_X2_isMissing l (X (6 + 0))) v_X2_isMissing m_577 [32, 33] [] [] (82) (Or.inl ⟨32, 1, _, TX2, 3, rfl, rfl, rfl⟩) (fun u30 => [.int u30]) (fun u30 => w_X5 X) rfl rfl rfl rfl rfl (Nat.le_of_ble_eq_true rfl) ⟨(Nat.le_of_ble_eq_true rfl), (Nat.le_of_ble_eq_true rfl)⟩ ⟨Nat.zero_le _, Nat.zero_le _⟩ dX5_copy_33 (fun _ => rfl) (fun _ => rfl) (fun _ => rfl) (fun u30 => ?_)
      refine r_if_ne C 47 dX5_copy_36 (by decide) (fun h36 => ?_) (fun h36 => ?_)
      · refine r_aload C 0 dX5_copy_39 rfl ?_
        refine r_callV C (o_X2_isMissing l (X (6 + 3))) v_X2_isMissing m_577 [38, 39] [] [] (88) (Or.inl ⟨38, 1, _, TX2, 3, rfl, rfl, rfl⟩) (fun u32 => [.int u32]) (fun u32 => w_X5 X) rfl rfl rfl rfl rfl (Nat.le_of_ble_eq_true rfl) ⟨(Nat.le_of_ble_eq_true rfl), (Nat.le_of_ble_eq_true rfl)⟩ ⟨Nat.zero_le _, Nat.zero_le _⟩ dX5_copy_41 (fun _ => rfl) (fun _ => rfl) (fun _ => rfl) (fun u32 => ?_)
        refine r_if_eq C 54 dX5_copy_44 (by decide) (fun h44 => ?_) (fun h44 => ?_)
        · refine r_aload C 1 dX5_copy_54 rfl ?_
          refine r_get C 32 0 dX5_copy_56 K_X2 rfl rfl (Nat.le_of_ble_eq_true rfl) rfl m_162 rfl ?_
          refine r_aload C 0 dX5_copy_59 rfl ?_
          refine r_get C 38 0 dX5_copy_61 K_X2 rfl rfl (Nat.le_of_ble_eq_true rfl) rfl m_162 rfl ?_
          refine r_icmp_eq C 75 dX5_copy_64 (by decide) (fun h64 => ?_) (fun h64 => ?_)
          · refine r_aload C 1 dX5_copy_75 rfl ?_
            refine r_iload_n C 4 dX5_copy_77 rfl ?_
            refine r_iload C 7 dX5_copy_78 rfl ?_
            refine r_callV C (o_X2_isStretch l (X (6 + 0)) a2 a5) v_X2_isStretch m_858 [32, 33] [.int a2, .int a5] [] (82) (Or.inl ⟨32, 1, _, TX2, 3, rfl, rfl, rfl⟩) (fun u33 => [.int u33]) (fun u33 => w_X5 X) rfl rfl rfl rfl rfl (Nat.le_of_ble_eq_true rfl) ⟨(Nat.le_of_ble_eq_true rfl), (Nat.le_of_ble_eq_true rfl)⟩ ⟨Nat.zero_le _, Nat.zero_le _⟩ dX5_copy_80 (fun _ => rfl) (fun _ => rfl) (fun _ => rfl) (fun u33 => ?_)
            refine r_if_eq C 98 dX5_copy_83 (by decide) (fun h83 => ?_) (fun h83 => ?_)
            · refine r_aload_n C 2 dX5_copy_98 rfl ?_
              refine r_ldc C (-1000001) dX5_copy_99 m_206 ?_
              refine r_callV0 C (o_X5_finding l X (-1000001 : Int32)) v_X5_finding m_207 [.int (-1000001 : Int32)] [] (50) (Or.inl ⟨0, 4, _, TX5, 8, rfl, rfl, rfl⟩) (fun u34 => [.int u34.1]) (fun u34 => w_X5 u34.2) rfl rfl rfl (Nat.le_of_ble_eq_true rfl) ⟨(Nat.le_of_ble_eq_true rfl), (Nat.le_of_ble_eq_true rfl)⟩ ⟨Nat.zero_le _, Nat.zero_le _⟩ dX5_copy_101 (fun _ => rfl) (fun _ => rfl) (fun _ => rfl) (fun u34 => ?_)
              exact r_reti (x := u34.1) (rv := (fun u => some (.int u.1))) (hpE := (fun u => w_X5 u.2)) (t0 := (u34.1, u34.2)) C dX5_copy_104 (by rfl) (by rfl) (by rfl)
            · refine r_aload C 0 dX5_copy_86 rfl ?_
              refine r_iload C 6 dX5_copy_88 rfl ?_
              refine r_iload C 7 dX5_copy_90 rfl ?_
              refine r_callV C (o_X2_isStretch l (X (6 + 3)) a4 a5) v_X2_isStretch m_858 [38, 39] [.int a4, .int a5] [] (88) (Or.inl ⟨38, 1, _, TX2, 3, rfl, rfl, rfl⟩) (fun u35 => [.int u35]) (fun u35 => w_X5 X) rfl rfl rfl rfl rfl (Nat.le_of_ble_eq_true rfl) ⟨(Nat.le_of_ble_eq_true rfl), (Nat.le_of_ble_eq_true rfl)⟩ ⟨Nat.zero_le _, Nat.zero_le _⟩ dX5_copy_92 (fun _ => rfl) (fun _ => rfl) (fun _ => rfl) (fun u35 => ?_)
              refine r_if_ne C 105 dX5_copy_95 (by decide) (fun h95 => ?_) (fun h95 => ?_)
              · refine r_aload_n C 2 dX5_copy_98 rfl ?_
                refine r_ldc C (-1000001) dX5_copy_99 m_206 ?_
                refine r_callV0 C (o_X5_finding l X (-1000001 : Int32)) v_X5_finding m_207 [.int (-1000001 : Int32)] [] (50) (Or.inl ⟨0, 4, _, TX5, 8, rfl, rfl, rfl⟩) (fun u36 => [.int u36.1]) (fun u36 => w_X5 u36.2) rfl rfl rfl (Nat.le_of_ble_eq_true rfl) ⟨(Nat.le_of_ble_eq_true rfl), (Nat.le_of_ble_eq_true rfl)⟩ ⟨Nat.zero_le _, Nat.zero_le _⟩ dX5_copy_101 (fun _ => rfl) (fun _ => rfl) (fun _ => rfl) (fun u36 => ?_)
                exact r_reti (x := u36.1) (rv := (fun u => some (.int u.1))) (hpE := (fun u => w_X5 u.2)) (t0 := (u36.1, u36.2)) C dX5_copy_104 (by rfl) (by rfl) (by rfl)
              · refine r_aload C 1 dX5_copy_105 rfl ?_
                refine r_get C 32 2 dX5_copy_107 K_X2 rfl rfl (Nat.le_of_ble_eq_true rfl) rfl m_166 rfl ?_
                refine r_iload_n C 4 dX5_copy_110 rfl ?_
                refine r_aload C 0 dX5_copy_111 rfl ?_
                refine r_get C 38 2 dX5_copy_113 K_X2 rfl rfl (Nat.le_of_ble_eq_true rfl) rfl m_166 rfl ?_
                refine r_iload C 6 dX5_copy_116 rfl ?_
                refine r_iload C 7 dX5_copy_118 rfl ?_
                refine r_copy C 33 39 _ dX5_copy_120 m_862 m_507 m_506 m_10 rfl rfl rfl rfl (Nat.le_of_ble_eq_true rfl) (Nat.le_of_ble_eq_true rfl) rfl ?_
                refine r_iload C 7 dX5_copy_123 rfl ?_
                exact r_reti (x := a5) (rv := (fun u => some (.int u.1))) (hpE := (fun u => w_X5 u.2)) (t0 := (a5, (va_up X (6 + 3) ((X (6 + 3)).1, (va_up (X (6 + 3)).2 2 (va_cpy ((X (6 + 0)).2 2) ((X (6 + 3)).2 2) a2.toNatClampNeg a4.toNatClampNeg a5.toNatClampNeg)))))) C dX5_copy_125 (by rfl) (by rfl) (by rfl)
          · refine r_aload_n C 2 dX5_copy_67 rfl ?_
            refine r_ldcw C (-1000003) dX5_copy_68 m_830 ?_
            refine r_callV0 C (o_X5_finding l X (-1000003 : Int32)) v_X5_finding m_207 [.int (-1000003 : Int32)] [] (50) (Or.inl ⟨0, 4, _, TX5, 8, rfl, rfl, rfl⟩) (fun u37 => [.int u37.1]) (fun u37 => w_X5 u37.2) rfl rfl rfl (Nat.le_of_ble_eq_true rfl) ⟨(Nat.le_of_ble_eq_true rfl), (Nat.le_of_ble_eq_true rfl)⟩ ⟨Nat.zero_le _, Nat.zero_le _⟩ dX5_copy_71 (fun _ => rfl) (fun _ => rfl) (fun _ => rfl) (fun u37 => ?_)
            exact r_reti (x := u37.1) (rv := (fun u => some (.int u.1))) (hpE := (fun u => w_X5 u.2)) (t0 := (u37.1, u37.2)) C dX5_copy_74 (by rfl) (by rfl) (by rfl)
        · refine r_aload_n C 2 dX5_copy_47 rfl ?_
          refine r_ldc C (-1000006) dX5_copy_48 m_581 ?_
          refine r_callV0 C (o_X5_finding l X (-1000006 : Int32)) v_X5_finding m_207 [.int (-1000006 : Int32)] [] (50) (Or.inl ⟨0, 4, _, TX5, 8, rfl, rfl, rfl⟩) (fun u38 => [.int u38.1]) (fun u38 => w_X5 u38.2) rfl rfl rfl (Nat.le_of_ble_eq_true rfl) ⟨(Nat.le_of_ble_eq_true rfl), (Nat.le_of_ble_eq_true rfl)⟩ ⟨Nat.zero_le _, Nat.zero_le _⟩ dX5_copy_50 (fun _ => rfl) (fun _ => rfl) (fun _ => rfl) (fun u38 => ?_)
          exact r_reti (x := u38.1) (rv := (fun u => some (.int u.1))) (hpE := (fun u => w_X5 u.2)) (t0 := (u38.1, u38.2)) C dX5_copy_53 (by rfl) (by rfl) (by rfl)
      · refine r_aload_n C 2 dX5_copy_47 rfl ?_
        refine r_ldc C (-1000006) dX5_copy_48 m_581 ?_
        refine r_callV0 C (o_X5_finding l X (-1000006 : Int32)) v_X5_finding m_207 [.int (-1000006 : Int32)] [] (50) (Or.inl ⟨0, 4, _, TX5, 8, rfl, rfl, rfl⟩) (fun u31 => [.int u31.1]) (fun u31 => w_X5 u31.2) rfl rfl rfl (Nat.le_of_ble_eq_true rfl) ⟨(Nat.le_of_ble_eq_true rfl), (Nat.le_of_ble_eq_true rfl)⟩ ⟨Nat.zero_le _, Nat.zero_le _⟩ dX5_copy_50 (fun _ => rfl) (fun _ => rfl) (fun _ => rfl) (fun u31 => ?_)
        exact r_reti (x := u31.1) (rv := (fun u => some (.int u.1))) (hpE := (fun u => w_X5 u.2)) (t0 := (u31.1, u31.2)) C dX5_copy_53 (by rfl) (by rfl) (by rfl)
    · refine r_astoreN C [(7, .null), (6, .ref 82), (0, .ref 50), (1, .int a1), (2, .int a2), (3, .int a3), (4, .int a4), (5, .int a5)] dX5_copy_12 (Nat.le_of_ble_eq_true rfl) rfl ?_
      refine r_aload C 1 dX5_copy_14 rfl ?_
      refine r_cut (if_pos (by decide)) ?_
      refine r_ifnull_f C dX5_copy_16 ?_
      refine r_aloadN C 0 dX5_copy_19 rfl ?_
      refine r_cut (if_neg (by omega)) ?_
      refine r_ifnonnull_f C dX5_copy_21 ?_
      refine r_aload_n C 2 dX5_copy_24 rfl ?_
      refine r_ldc C (-1000001) dX5_copy_25 m_206 ?_
      refine r_callV0 C (o_X5_finding l X (-1000001 : Int32)) v_X5_finding m_207 [.int (-1000001 : Int32)] [] (50) (Or.inl ⟨0, 4, _, TX5, 8, rfl, rfl, rfl⟩) (fun u39 => [.int u39.1]) (fun u39 => w_X5 u39.2) rfl rfl rfl (Nat.le_of_ble_eq_true rfl) ⟨(Nat.le_of_ble_eq_true rfl), (Nat.le_of_ble_eq_true rfl)⟩ ⟨Nat.zero_le _, Nat.zero_le _⟩ dX5_copy_27 (fun _ => rfl) (fun _ => rfl) (fun _ => rfl) (fun u39 => ?_)
      exact r_reti (x := u39.1) (rv := (fun u => some (.int u.1))) (hpE := (fun u => w_X5 u.2)) (t0 := (u39.1, u39.2)) C dX5_copy_30 (by rfl) (by rfl) (by rfl)
  · refine r_astore C [(6, .ref 84), (0, .ref 50), (1, .int a1), (2, .int a2), (3, .int a3), (4, .int a4), (5, .int a5)] dX5_copy_5 (Nat.le_of_ble_eq_true rfl) rfl ?_
    refine r_aload_n C 1 dX5_copy_7 rfl ?_
    refine r_iload_n C 4 dX5_copy_8 rfl ?_
    refine r_callV0 C (o_X5_sheetAt l X a3) v_X5_sheetAt m_573 [.int a3] [] (50) (Or.inl ⟨0, 4, _, TX5, 8, rfl, rfl, rfl⟩) (fun u40 => va_rf (q_sf u40) :: []) (fun u40 => w_X5 X) rfl rfl rfl (Nat.le_of_ble_eq_true rfl) ⟨(Nat.le_of_ble_eq_true rfl), (Nat.le_of_ble_eq_true rfl)⟩ ⟨Nat.zero_le _, Nat.zero_le _⟩ dX5_copy_9 (fun _ => rfl) (fun _ => rfl) (fun _ => rfl) (q_case4 ?_ ?_ ?_ ?_ (fun u40 => ?_))
    · refine r_astore C [(7, .ref 82), (6, .ref 84), (0, .ref 50), (1, .int a1), (2, .int a2), (3, .int a3), (4, .int a4), (5, .int a5)] dX5_copy_12 (Nat.le_of_ble_eq_true rfl) rfl ?_
      refine r_aload C 1 dX5_copy_14 rfl ?_
      refine r_cut (if_pos (by decide)) ?_
      refine r_ifnull_f C dX5_copy_16 ?_
      refine r_aload C 0 dX5_copy_19 rfl ?_
      refine r_cut (if_pos (by decide)) ?_
      refine r_ifnonnull_t C 31 dX5_copy_21 (by decide) ?_
      refine r_aload C 1 dX5_copy_31 rfl ?_
      refine r_callV C (o_X2_isMissing l (X (6 + 1))) v_X2_isMissing m_577 [34, 35] [] [] (84) (Or.inl ⟨34, 1, _, TX2, 3, rfl, rfl, rfl⟩) (fun u41 => [.int u41]) (fun u41 => w_X5 X) rfl rfl rfl rfl rfl (Nat.le_of_ble_eq_true rfl) ⟨(Nat.le_of_ble_eq_true rfl), (Nat.le_of_ble_eq_true rfl)⟩ ⟨Nat.zero_le _, Nat.zero_le _⟩ dX5_copy_33 (fun _ => rfl) (fun _ => rfl) (fun _ => rfl) (fun u41 => ?_)
      refine r_if_ne C 47 dX5_copy_36 (by decide) (fun h36 => ?_) (fun h36 => ?_)
      · refine r_aload C 0 dX5_copy_39 rfl ?_
        refine r_callV C (o_X2_isMissing l (X (6 + 0))) v_X2_isMissing m_577 [32, 33] [] [] (82) (Or.inl ⟨32, 1, _, TX2, 3, rfl, rfl, rfl⟩) (fun u43 => [.int u43]) (fun u43 => w_X5 X) rfl rfl rfl rfl rfl (Nat.le_of_ble_eq_true rfl) ⟨(Nat.le_of_ble_eq_true rfl), (Nat.le_of_ble_eq_true rfl)⟩ ⟨Nat.zero_le _, Nat.zero_le _⟩ dX5_copy_41 (fun _ => rfl) (fun _ => rfl) (fun _ => rfl) (fun u43 => ?_)
        refine r_if_eq C 54 dX5_copy_44 (by decide) (fun h44 => ?_) (fun h44 => ?_)
        · refine r_aload C 1 dX5_copy_54 rfl ?_
          refine r_get C 34 0 dX5_copy_56 K_X2 rfl rfl (Nat.le_of_ble_eq_true rfl) rfl m_162 rfl ?_
          refine r_aload C 0 dX5_copy_59 rfl ?_
          refine r_get C 32 0 dX5_copy_61 K_X2 rfl rfl (Nat.le_of_ble_eq_true rfl) rfl m_162 rfl ?_
          refine r_icmp_eq C 75 dX5_copy_64 (by decide) (fun h64 => ?_) (fun h64 => ?_)
          · refine r_aload C 1 dX5_copy_75 rfl ?_
            refine r_iload_n C 4 dX5_copy_77 rfl ?_
            refine r_iload C 7 dX5_copy_78 rfl ?_
            refine r_callV C (o_X2_isStretch l (X (6 + 1)) a2 a5) v_X2_isStretch m_858 [34, 35] [.int a2, .int a5] [] (84) (Or.inl ⟨34, 1, _, TX2, 3, rfl, rfl, rfl⟩) (fun u44 => [.int u44]) (fun u44 => w_X5 X) rfl rfl rfl rfl rfl (Nat.le_of_ble_eq_true rfl) ⟨(Nat.le_of_ble_eq_true rfl), (Nat.le_of_ble_eq_true rfl)⟩ ⟨Nat.zero_le _, Nat.zero_le _⟩ dX5_copy_80 (fun _ => rfl) (fun _ => rfl) (fun _ => rfl) (fun u44 => ?_)
            refine r_if_eq C 98 dX5_copy_83 (by decide) (fun h83 => ?_) (fun h83 => ?_)
            · refine r_aload_n C 2 dX5_copy_98 rfl ?_
              refine r_ldc C (-1000001) dX5_copy_99 m_206 ?_
              refine r_callV0 C (o_X5_finding l X (-1000001 : Int32)) v_X5_finding m_207 [.int (-1000001 : Int32)] [] (50) (Or.inl ⟨0, 4, _, TX5, 8, rfl, rfl, rfl⟩) (fun u45 => [.int u45.1]) (fun u45 => w_X5 u45.2) rfl rfl rfl (Nat.le_of_ble_eq_true rfl) ⟨(Nat.le_of_ble_eq_true rfl), (Nat.le_of_ble_eq_true rfl)⟩ ⟨Nat.zero_le _, Nat.zero_le _⟩ dX5_copy_101 (fun _ => rfl) (fun _ => rfl) (fun _ => rfl) (fun u45 => ?_)
              exact r_reti (x := u45.1) (rv := (fun u => some (.int u.1))) (hpE := (fun u => w_X5 u.2)) (t0 := (u45.1, u45.2)) C dX5_copy_104 (by rfl) (by rfl) (by rfl)
            · refine r_aload C 0 dX5_copy_86 rfl ?_
              refine r_iload C 6 dX5_copy_88 rfl ?_
              refine r_iload C 7 dX5_copy_90 rfl ?_
              refine r_callV C (o_X2_isStretch l (X (6 + 0)) a4 a5) v_X2_isStretch m_858 [32, 33] [.int a4, .int a5] [] (82) (Or.inl ⟨32, 1, _, TX2, 3, rfl, rfl, rfl⟩) (fun u46 => [.int u46]) (fun u46 => w_X5 X) rfl rfl rfl rfl rfl (Nat.le_of_ble_eq_true rfl) ⟨(Nat.le_of_ble_eq_true rfl), (Nat.le_of_ble_eq_true rfl)⟩ ⟨Nat.zero_le _, Nat.zero_le _⟩ dX5_copy_92 (fun _ => rfl) (fun _ => rfl) (fun _ => rfl) (fun u46 => ?_)
              refine r_if_ne C 105 dX5_copy_95 (by decide) (fun h95 => ?_) (fun h95 => ?_)
              · refine r_aload_n C 2 dX5_copy_98 rfl ?_
                refine r_ldc C (-1000001) dX5_copy_99 m_206 ?_
                refine r_callV0 C (o_X5_finding l X (-1000001 : Int32)) v_X5_finding m_207 [.int (-1000001 : Int32)] [] (50) (Or.inl ⟨0, 4, _, TX5, 8, rfl, rfl, rfl⟩) (fun u47 => [.int u47.1]) (fun u47 => w_X5 u47.2) rfl rfl rfl (Nat.le_of_ble_eq_true rfl) ⟨(Nat.le_of_ble_eq_true rfl), (Nat.le_of_ble_eq_true rfl)⟩ ⟨Nat.zero_le _, Nat.zero_le _⟩ dX5_copy_101 (fun _ => rfl) (fun _ => rfl) (fun _ => rfl) (fun u47 => ?_)
                exact r_reti (x := u47.1) (rv := (fun u => some (.int u.1))) (hpE := (fun u => w_X5 u.2)) (t0 := (u47.1, u47.2)) C dX5_copy_104 (by rfl) (by rfl) (by rfl)
              · refine r_aload C 1 dX5_copy_105 rfl ?_
                refine r_get C 34 2 dX5_copy_107 K_X2 rfl rfl (Nat.le_of_ble_eq_true rfl) rfl m_166 rfl ?_
                refine r_iload_n C 4 dX5_copy_110 rfl ?_
                refine r_aload C 0 dX5_copy_111 rfl ?_
                refine r_get C 32 2 dX5_copy_113 K_X2 rfl rfl (Nat.le_of_ble_eq_true rfl) rfl m_166 rfl ?_
                refine r_iload C 6 dX5_copy_116 rfl ?_
                refine r_iload C 7 dX5_copy_118 rfl ?_
                refine r_copy C 35 33 _ dX5_copy_120 m_862 m_507 m_506 m_10 rfl rfl rfl rfl (Nat.le_of_ble_eq_true rfl) (Nat.le_of_ble_eq_true rfl) rfl ?_
                refine r_iload C 7 dX5_copy_123 rfl ?_
                exact r_reti (x := a5) (rv := (fun u => some (.int u.1))) (hpE := (fun u => w_X5 u.2)) (t0 := (a5, (va_up X (6 + 0) ((X (6 + 0)).1, (va_up (X (6 + 0)).2 2 (va_cpy ((X (6 + 1)).2 2) ((X (6 + 0)).2 2) a2.toNatClampNeg a4.toNatClampNeg a5.toNatClampNeg)))))) C dX5_copy_125 (by rfl) (by rfl) (by rfl)
          · refine r_aload_n C 2 dX5_copy_67 rfl ?_
            refine r_ldcw C (-1000003) dX5_copy_68 m_830 ?_
            refine r_callV0 C (o_X5_finding l X (-1000003 : Int32)) v_X5_finding m_207 [.int (-1000003 : Int32)] [] (50) (Or.inl ⟨0, 4, _, TX5, 8, rfl, rfl, rfl⟩) (fun u48 => [.int u48.1]) (fun u48 => w_X5 u48.2) rfl rfl rfl (Nat.le_of_ble_eq_true rfl) ⟨(Nat.le_of_ble_eq_true rfl), (Nat.le_of_ble_eq_true rfl)⟩ ⟨Nat.zero_le _, Nat.zero_le _⟩ dX5_copy_71 (fun _ => rfl) (fun _ => rfl) (fun _ => rfl) (fun u48 => ?_)
            exact r_reti (x := u48.1) (rv := (fun u => some (.int u.1))) (hpE := (fun u => w_X5 u.2)) (t0 := (u48.1, u48.2)) C dX5_copy_74 (by rfl) (by rfl) (by rfl)
        · refine r_aload_n C 2 dX5_copy_47 rfl ?_
          refine r_ldc C (-1000006) dX5_copy_48 m_581 ?_
          refine r_callV0 C (o_X5_finding l X (-1000006 : Int32)) v_X5_finding m_207 [.int (-1000006 : Int32)] [] (50) (Or.inl ⟨0, 4, _, TX5, 8, rfl, rfl, rfl⟩) (fun u49 => [.int u49.1]) (fun u49 => w_X5 u49.2) rfl rfl rfl (Nat.le_of_ble_eq_true rfl) ⟨(Nat.le_of_ble_eq_true rfl), (Nat.le_of_ble_eq_true rfl)⟩ ⟨Nat.zero_le _, Nat.zero_le _⟩ dX5_copy_50 (fun _ => rfl) (fun _ => rfl) (fun _ => rfl) (fun u49 => ?_)
          exact r_reti (x := u49.1) (rv := (fun u => some (.int u.1))) (hpE := (fun u => w_X5 u.2)) (t0 := (u49.1, u49.2)) C dX5_copy_53 (by rfl) (by rfl) (by rfl)
      · refine r_aload_n C 2 dX5_copy_47 rfl ?_
        refine r_ldc C (-1000006) dX5_copy_48 m_581 ?_
        refine r_callV0 C (o_X5_finding l X (-1000006 : Int32)) v_X5_finding m_207 [.int (-1000006 : Int32)] [] (50) (Or.inl ⟨0, 4, _, TX5, 8, rfl, rfl, rfl⟩) (fun u42 => [.int u42.1]) (fun u42 => w_X5 u42.2) rfl rfl rfl (Nat.le_of_ble_eq_true rfl) ⟨(Nat.le_of_ble_eq_true rfl), (Nat.le_of_ble_eq_true rfl)⟩ ⟨Nat.zero_le _, Nat.zero_le _⟩ dX5_copy_50 (fun _ => rfl) (fun _ => rfl) (fun _ => rfl) (fun u42 => ?_)
        exact r_reti (x := u42.1) (rv := (fun u => some (.int u.1))) (hpE := (fun u => w_X5 u.2)) (t0 := (u42.1, u42.2)) C dX5_copy_53 (by rfl) (by rfl) (by rfl)
    · refine r_astore C [(7, .ref 84), (6, .ref 84), (0, .ref 50), (1, .int a1), (2, .int a2), (3, .int a3), (4, .int a4), (5, .int a5)] dX5_copy_12 (Nat.le_of_ble_eq_true rfl) rfl ?_
      refine r_aload C 1 dX5_copy_14 rfl ?_
      refine r_cut (if_pos (by decide)) ?_
      refine r_ifnull_f C dX5_copy_16 ?_
      refine r_aload C 0 dX5_copy_19 rfl ?_
      refine r_ifnonnull_t C 31 dX5_copy_21 (by decide) ?_
      refine r_aload C 1 dX5_copy_31 rfl ?_
      refine r_callV C (o_X2_isMissing l (X (6 + 1))) v_X2_isMissing m_577 [34, 35] [] [] (84) (Or.inl ⟨34, 1, _, TX2, 3, rfl, rfl, rfl⟩) (fun u50 => [.int u50]) (fun u50 => w_X5 X) rfl rfl rfl rfl rfl (Nat.le_of_ble_eq_true rfl) ⟨(Nat.le_of_ble_eq_true rfl), (Nat.le_of_ble_eq_true rfl)⟩ ⟨Nat.zero_le _, Nat.zero_le _⟩ dX5_copy_33 (fun _ => rfl) (fun _ => rfl) (fun _ => rfl) (fun u50 => ?_)
      refine r_if_ne C 47 dX5_copy_36 (by decide) (fun h36 => ?_) (fun h36 => ?_)
      · refine r_aload C 0 dX5_copy_39 rfl ?_
        refine r_callV C (o_X2_isMissing l (X (6 + 1))) v_X2_isMissing m_577 [34, 35] [] [] (84) (Or.inl ⟨34, 1, _, TX2, 3, rfl, rfl, rfl⟩) (fun u52 => [.int u52]) (fun u52 => w_X5 X) rfl rfl rfl rfl rfl (Nat.le_of_ble_eq_true rfl) ⟨(Nat.le_of_ble_eq_true rfl), (Nat.le_of_ble_eq_true rfl)⟩ ⟨Nat.zero_le _, Nat.zero_le _⟩ dX5_copy_41 (fun _ => rfl) (fun _ => rfl) (fun _ => rfl) (fun u52 => ?_)
        refine r_if_eq C 54 dX5_copy_44 (by decide) (fun h44 => ?_) (fun h44 => ?_)
        · refine r_aload C 1 dX5_copy_54 rfl ?_
          refine r_get C 34 0 dX5_copy_56 K_X2 rfl rfl (Nat.le_of_ble_eq_true rfl) rfl m_162 rfl ?_
          refine r_aload C 0 dX5_copy_59 rfl ?_
          refine r_get C 34 0 dX5_copy_61 K_X2 rfl rfl (Nat.le_of_ble_eq_true rfl) rfl m_162 rfl ?_
          refine r_icmp_eq C 75 dX5_copy_64 (by decide) (fun h64 => ?_) (fun h64 => ?_)
          · refine r_aload C 1 dX5_copy_75 rfl ?_
            refine r_iload_n C 4 dX5_copy_77 rfl ?_
            refine r_iload C 7 dX5_copy_78 rfl ?_
            refine r_callV C (o_X2_isStretch l (X (6 + 1)) a2 a5) v_X2_isStretch m_858 [34, 35] [.int a2, .int a5] [] (84) (Or.inl ⟨34, 1, _, TX2, 3, rfl, rfl, rfl⟩) (fun u53 => [.int u53]) (fun u53 => w_X5 X) rfl rfl rfl rfl rfl (Nat.le_of_ble_eq_true rfl) ⟨(Nat.le_of_ble_eq_true rfl), (Nat.le_of_ble_eq_true rfl)⟩ ⟨Nat.zero_le _, Nat.zero_le _⟩ dX5_copy_80 (fun _ => rfl) (fun _ => rfl) (fun _ => rfl) (fun u53 => ?_)
            refine r_if_eq C 98 dX5_copy_83 (by decide) (fun h83 => ?_) (fun h83 => ?_)
            · refine r_aload_n C 2 dX5_copy_98 rfl ?_
              refine r_ldc C (-1000001) dX5_copy_99 m_206 ?_
              refine r_callV0 C (o_X5_finding l X (-1000001 : Int32)) v_X5_finding m_207 [.int (-1000001 : Int32)] [] (50) (Or.inl ⟨0, 4, _, TX5, 8, rfl, rfl, rfl⟩) (fun u54 => [.int u54.1]) (fun u54 => w_X5 u54.2) rfl rfl rfl (Nat.le_of_ble_eq_true rfl) ⟨(Nat.le_of_ble_eq_true rfl), (Nat.le_of_ble_eq_true rfl)⟩ ⟨Nat.zero_le _, Nat.zero_le _⟩ dX5_copy_101 (fun _ => rfl) (fun _ => rfl) (fun _ => rfl) (fun u54 => ?_)
              exact r_reti (x := u54.1) (rv := (fun u => some (.int u.1))) (hpE := (fun u => w_X5 u.2)) (t0 := (u54.1, u54.2)) C dX5_copy_104 (by rfl) (by rfl) (by rfl)
            · refine r_aload C 0 dX5_copy_86 rfl ?_
              refine r_iload C 6 dX5_copy_88 rfl ?_
              refine r_iload C 7 dX5_copy_90 rfl ?_
              refine r_callV C (o_X2_isStretch l (X (6 + 1)) a4 a5) v_X2_isStretch m_858 [34, 35] [.int a4, .int a5] [] (84) (Or.inl ⟨34, 1, _, TX2, 3, rfl, rfl, rfl⟩) (fun u55 => [.int u55]) (fun u55 => w_X5 X) rfl rfl rfl rfl rfl (Nat.le_of_ble_eq_true rfl) ⟨(Nat.le_of_ble_eq_true rfl), (Nat.le_of_ble_eq_true rfl)⟩ ⟨Nat.zero_le _, Nat.zero_le _⟩ dX5_copy_92 (fun _ => rfl) (fun _ => rfl) (fun _ => rfl) (fun u55 => ?_)
              refine r_if_ne C 105 dX5_copy_95 (by decide) (fun h95 => ?_) (fun h95 => ?_)
              · refine r_aload_n C 2 dX5_copy_98 rfl ?_
                refine r_ldc C (-1000001) dX5_copy_99 m_206 ?_
                refine r_callV0 C (o_X5_finding l X (-1000001 : Int32)) v_X5_finding m_207 [.int (-1000001 : Int32)] [] (50) (Or.inl ⟨0, 4, _, TX5, 8, rfl, rfl, rfl⟩) (fun u56 => [.int u56.1]) (fun u56 => w_X5 u56.2) rfl rfl rfl (Nat.le_of_ble_eq_true rfl) ⟨(Nat.le_of_ble_eq_true rfl), (Nat.le_of_ble_eq_true rfl)⟩ ⟨Nat.zero_le _, Nat.zero_le _⟩ dX5_copy_101 (fun _ => rfl) (fun _ => rfl) (fun _ => rfl) (fun u56 => ?_)
                exact r_reti (x := u56.1) (rv := (fun u => some (.int u.1))) (hpE := (fun u => w_X5 u.2)) (t0 := (u56.1, u56.2)) C dX5_copy_104 (by rfl) (by rfl) (by rfl)
              · refine r_aload C 1 dX5_copy_105 rfl ?_
                refine r_get C 34 2 dX5_copy_107 K_X2 rfl rfl (Nat.le_of_ble_eq_true rfl) rfl m_166 rfl ?_
                refine r_iload_n C 4 dX5_copy_110 rfl ?_
                refine r_aload C 0 dX5_copy_111 rfl ?_
                refine r_get C 34 2 dX5_copy_113 K_X2 rfl rfl (Nat.le_of_ble_eq_true rfl) rfl m_166 rfl ?_
                refine r_iload C 6 dX5_copy_116 rfl ?_
                refine r_iload C 7 dX5_copy_118 rfl ?_
                refine r_copy C 35 35 _ dX5_copy_120 m_862 m_507 m_506 m_10 rfl rfl rfl rfl (Nat.le_of_ble_eq_true rfl) (Nat.le_of_ble_eq_true rfl) rfl ?_
                refine r_iload C 7 dX5_copy_123 rfl ?_
                exact r_reti (x := a5) (rv := (fun u => some (.int u.1))) (hpE := (fun u => w_X5 u.2)) (t0 := (a5, (va_up X (6 + 1) ((X (6 + 1)).1, (va_up (X (6 + 1)).2 2 (va_cpy ((X (6 + 1)).2 2) ((X (6 + 1)).2 2) a2.toNatClampNeg a4.toNatClampNeg a5.toNatClampNeg)))))) C dX5_copy_125 (by rfl) (by rfl) (by rfl)
          · refine r_aload_n C 2 dX5_copy_67 rfl ?_
            refine r_ldcw C (-1000003) dX5_copy_68 m_830 ?_
            refine r_callV0 C (o_X5_finding l X (-1000003 : Int32)) v_X5_finding m_207 [.int (-1000003 : Int32)] [] (50) (Or.inl ⟨0, 4, _, TX5, 8, rfl, rfl, rfl⟩) (fun u57 => [.int u57.1]) (fun u57 => w_X5 u57.2) rfl rfl rfl (Nat.le_of_ble_eq_true rfl) ⟨(Nat.le_of_ble_eq_true rfl), (Nat.le_of_ble_eq_true rfl)⟩ ⟨Nat.zero_le _, Nat.zero_le _⟩ dX5_copy_71 (fun _ => rfl) (fun _ => rfl) (fun _ => rfl) (fun u57 => ?_)
            exact r_reti (x := u57.1) (rv := (fun u => some (.int u.1))) (hpE := (fun u => w_X5 u.2)) (t0 := (u57.1, u57.2)) C dX5_copy_74 (by rfl) (by rfl) (by rfl)
        · refine r_aload_n C 2 dX5_copy_47 rfl ?_
          refine r_ldc C (-1000006) dX5_copy_48 m_581 ?_
          refine r_callV0 C (o_X5_finding l X (-1000006 : Int32)) v_X5_finding m_207 [.int (-1000006 : Int32)] [] (50) (Or.inl ⟨0, 4, _, TX5, 8, rfl, rfl, rfl⟩) (fun u58 => [.int u58.1]) (fun u58 => w_X5 u58.2) rfl rfl rfl (Nat.le_of_ble_eq_true rfl) ⟨(Nat.le_of_ble_eq_true rfl), (Nat.le_of_ble_eq_true rfl)⟩ ⟨Nat.zero_le _, Nat.zero_le _⟩ dX5_copy_50 (fun _ => rfl) (fun _ => rfl) (fun _ => rfl) (fun u58 => ?_)
          exact r_reti (x := u58.1) (rv := (fun u => some (.int u.1))) (hpE := (fun u => w_X5 u.2)) (t0 := (u58.1, u58.2)) C dX5_copy_53 (by rfl) (by rfl) (by rfl)
      · refine r_aload_n C 2 dX5_copy_47 rfl ?_
        refine r_ldc C (-1000006) dX5_copy_48 m_581 ?_
        refine r_callV0 C (o_X5_finding l X (-1000006 : Int32)) v_X5_finding m_207 [.int (-1000006 : Int32)] [] (50) (Or.inl ⟨0, 4, _, TX5, 8, rfl, rfl, rfl⟩) (fun u51 => [.int u51.1]) (fun u51 => w_X5 u51.2) rfl rfl rfl (Nat.le_of_ble_eq_true rfl) ⟨(Nat.le_of_ble_eq_true rfl), (Nat.le_of_ble_eq_true rfl)⟩ ⟨Nat.zero_le _, Nat.zero_le _⟩ dX5_copy_50 (fun _ => rfl) (fun _ => rfl) (fun _ => rfl) (fun u51 => ?_)
        exact r_reti (x := u51.1) (rv := (fun u => some (.int u.1))) (hpE := (fun u => w_X5 u.2)) (t0 := (u51.1, u51.2)) C dX5_copy_53 (by rfl) (by rfl) (by rfl)
    · refine r_astore C [(7, .ref 86), (6, .ref 84), (0, .ref 50), (1, .int a1), (2, .int a2), (3, .int a3), (4, .int a4), (5, .int a5)] dX5_copy_12 (Nat.le_of_ble_eq_true rfl) rfl ?_
      refine r_aload C 1 dX5_copy_14 rfl ?_
      refine r_cut (if_pos (by decide)) ?_
      refine r_ifnull_f C dX5_copy_16 ?_
      refine r_aload C 0 dX5_copy_19 rfl ?_
      refine r_cut (if_pos (by decide)) ?_
      refine r_ifnonnull_t C 31 dX5_copy_21 (by decide) ?_
      refine r_aload C 1 dX5_copy_31 rfl ?_
      refine r_callV C (o_X2_isMissing l (X (6 + 1))) v_X2_isMissing m_577 [34, 35] [] [] (84) (Or.inl ⟨34, 1, _, TX2, 3, rfl, rfl, rfl⟩) (fun u59 => [.int u59]) (fun u59 => w_X5 X) rfl rfl rfl rfl rfl (Nat.le_of_ble_eq_true rfl) ⟨(Nat.le_of_ble_eq_true rfl), (Nat.le_of_ble_eq_true rfl)⟩ ⟨Nat.zero_le _, Nat.zero_le _⟩ dX5_copy_33 (fun _ => rfl) (fun _ => rfl) (fun _ => rfl) (fun u59 => ?_)
      refine r_if_ne C 47 dX5_copy_36 (by decide) (fun h36 => ?_) (fun h36 => ?_)
      · refine r_aload C 0 dX5_copy_39 rfl ?_
        refine r_callV C (o_X2_isMissing l (X (6 + 2))) v_X2_isMissing m_577 [36, 37] [] [] (86) (Or.inl ⟨36, 1, _, TX2, 3, rfl, rfl, rfl⟩) (fun u61 => [.int u61]) (fun u61 => w_X5 X) rfl rfl rfl rfl rfl (Nat.le_of_ble_eq_true rfl) ⟨(Nat.le_of_ble_eq_true rfl), (Nat.le_of_ble_eq_true rfl)⟩ ⟨Nat.zero_le _, Nat.zero_le _⟩ dX5_copy_41 (fun _ => rfl) (fun _ => rfl) (fun _ => rfl) (fun u61 => ?_)
        refine r_if_eq C 54 dX5_copy_44 (by decide) (fun h44 => ?_) (fun h44 => ?_)
        · refine r_aload C 1 dX5_copy_54 rfl ?_
          refine r_get C 34 0 dX5_copy_56 K_X2 rfl rfl (Nat.le_of_ble_eq_true rfl) rfl m_162 rfl ?_
          refine r_aload C 0 dX5_copy_59 rfl ?_
          refine r_get C 36 0 dX5_copy_61 K_X2 rfl rfl (Nat.le_of_ble_eq_true rfl) rfl m_162 rfl ?_
          refine r_icmp_eq C 75 dX5_copy_64 (by decide) (fun h64 => ?_) (fun h64 => ?_)
          · refine r_aload C 1 dX5_copy_75 rfl ?_
            refine r_iload_n C 4 dX5_copy_77 rfl ?_
            refine r_iload C 7 dX5_copy_78 rfl ?_
            refine r_callV C (o_X2_isStretch l (X (6 + 1)) a2 a5) v_X2_isStretch m_858 [34, 35] [.int a2, .int a5] [] (84) (Or.inl ⟨34, 1, _, TX2, 3, rfl, rfl, rfl⟩) (fun u62 => [.int u62]) (fun u62 => w_X5 X) rfl rfl rfl rfl rfl (Nat.le_of_ble_eq_true rfl) ⟨(Nat.le_of_ble_eq_true rfl), (Nat.le_of_ble_eq_true rfl)⟩ ⟨Nat.zero_le _, Nat.zero_le _⟩ dX5_copy_80 (fun _ => rfl) (fun _ => rfl) (fun _ => rfl) (fun u62 => ?_)
            refine r_if_eq C 98 dX5_copy_83 (by decide) (fun h83 => ?_) (fun h83 => ?_)
            · refine r_aload_n C 2 dX5_copy_98 rfl ?_
              refine r_ldc C (-1000001) dX5_copy_99 m_206 ?_
              refine r_callV0 C (o_X5_finding l X (-1000001 : Int32)) v_X5_finding m_207 [.int (-1000001 : Int32)] [] (50) (Or.inl ⟨0, 4, _, TX5, 8, rfl, rfl, rfl⟩) (fun u63 => [.int u63.1]) (fun u63 => w_X5 u63.2) rfl rfl rfl (Nat.le_of_ble_eq_true rfl) ⟨(Nat.le_of_ble_eq_true rfl), (Nat.le_of_ble_eq_true rfl)⟩ ⟨Nat.zero_le _, Nat.zero_le _⟩ dX5_copy_101 (fun _ => rfl) (fun _ => rfl) (fun _ => rfl) (fun u63 => ?_)
              exact r_reti (x := u63.1) (rv := (fun u => some (.int u.1))) (hpE := (fun u => w_X5 u.2)) (t0 := (u63.1, u63.2)) C dX5_copy_104 (by rfl) (by rfl) (by rfl)
            · refine r_aload C 0 dX5_copy_86 rfl ?_
              refine r_iload C 6 dX5_copy_88 rfl ?_
              refine r_iload C 7 dX5_copy_90 rfl ?_
              refine r_callV C (o_X2_isStretch l (X (6 + 2)) a4 a5) v_X2_isStretch m_858 [36, 37] [.int a4, .int a5] [] (86) (Or.inl ⟨36, 1, _, TX2, 3, rfl, rfl, rfl⟩) (fun u64 => [.int u64]) (fun u64 => w_X5 X) rfl rfl rfl rfl rfl (Nat.le_of_ble_eq_true rfl) ⟨(Nat.le_of_ble_eq_true rfl), (Nat.le_of_ble_eq_true rfl)⟩ ⟨Nat.zero_le _, Nat.zero_le _⟩ dX5_copy_92 (fun _ => rfl) (fun _ => rfl) (fun _ => rfl) (fun u64 => ?_)
              refine r_if_ne C 105 dX5_copy_95 (by decide) (fun h95 => ?_) (fun h95 => ?_)
              · refine r_aload_n C 2 dX5_copy_98 rfl ?_
                refine r_ldc C (-1000001) dX5_copy_99 m_206 ?_
                refine r_callV0 C (o_X5_finding l X (-1000001 : Int32)) v_X5_finding m_207 [.int (-1000001 : Int32)] [] (50) (Or.inl ⟨0, 4, _, TX5, 8, rfl, rfl, rfl⟩) (fun u65 => [.int u65.1]) (fun u65 => w_X5 u65.2) rfl rfl rfl (Nat.le_of_ble_eq_true rfl) ⟨(Nat.le_of_ble_eq_true rfl), (Nat.le_of_ble_eq_true rfl)⟩ ⟨Nat.zero_le _, Nat.zero_le _⟩ dX5_copy_101 (fun _ => rfl) (fun _ => rfl) (fun _ => rfl) (fun u65 => ?_)
                exact r_reti (x := u65.1) (rv := (fun u => some (.int u.1))) (hpE := (fun u => w_X5 u.2)) (t0 := (u65.1, u65.2)) C dX5_copy_104 (by rfl) (by rfl) (by rfl)
              · refine r_aload C 1 dX5_copy_105 rfl ?_
                refine r_get C 34 2 dX5_copy_107 K_X2 rfl rfl (Nat.le_of_ble_eq_true rfl) rfl m_166 rfl ?_
                refine r_iload_n C 4 dX5_copy_110 rfl ?_
                refine r_aload C 0 dX5_copy_111 rfl ?_
                refine r_get C 36 2 dX5_copy_113 K_X2 rfl rfl (Nat.le_of_ble_eq_true rfl) rfl m_166 rfl ?_
                refine r_iload C 6 dX5_copy_116 rfl ?_
                refine r_iload C 7 dX5_copy_118 rfl ?_
                refine r_copy C 35 37 _ dX5_copy_120 m_862 m_507 m_506 m_10 rfl rfl rfl rfl (Nat.le_of_ble_eq_true rfl) (Nat.le_of_ble_eq_true rfl) rfl ?_
                refine r_iload C 7 dX5_copy_123 rfl ?_
                exact r_reti (x := a5) (rv := (fun u => some (.int u.1))) (hpE := (fun u => w_X5 u.2)) (t0 := (a5, (va_up X (6 + 2) ((X (6 + 2)).1, (va_up (X (6 + 2)).2 2 (va_cpy ((X (6 + 1)).2 2) ((X (6 + 2)).2 2) a2.toNatClampNeg a4.toNatClampNeg a5.toNatClampNeg)))))) C dX5_copy_125 (by rfl) (by rfl) (by rfl)
          · refine r_aload_n C 2 dX5_copy_67 rfl ?_
            refine r_ldcw C (-1000003) dX5_copy_68 m_830 ?_
            refine r_callV0 C (o_X5_finding l X (-1000003 : Int32)) v_X5_finding m_207 [.int (-1000003 : Int32)] [] (50) (Or.inl ⟨0, 4, _, TX5, 8, rfl, rfl, rfl⟩) (fun u66 => [.int u66.1]) (fun u66 => w_X5 u66.2) rfl rfl rfl (Nat.le_of_ble_eq_true rfl) ⟨(Nat.le_of_ble_eq_true rfl), (Nat.le_of_ble_eq_true rfl)⟩ ⟨Nat.zero_le _, Nat.zero_le _⟩ dX5_copy_71 (fun _ => rfl) (fun _ => rfl) (fun _ => rfl) (fun u66 => ?_)
            exact r_reti (x := u66.1) (rv := (fun u => some (.int u.1))) (hpE := (fun u => w_X5 u.2)) (t0 := (u66.1, u66.2)) C dX5_copy_74 (by rfl) (by rfl) (by rfl)
        · refine r_aload_n C 2 dX5_copy_47 rfl ?_
          refine r_ldc C (-1000006) dX5_copy_48 m_581 ?_
          refine r_callV0 C (o_X5_finding l X (-1000006 : Int32)) v_X5_finding m_207 [.int (-1000006 : Int32)] [] (50) (Or.inl ⟨0, 4, _, TX5, 8, rfl, rfl, rfl⟩) (fun u67 => [.int u67.1]) (fun u67 => w_X5 u67.2) rfl rfl rfl (Nat.le_of_ble_eq_true rfl) ⟨(Nat.le_of_ble_eq_true rfl), (Nat.le_of_ble_eq_true rfl)⟩ ⟨Nat.zero_le _, Nat.zero_le _⟩ dX5_copy_50 (fun _ => rfl) (fun _ => rfl) (fun _ => rfl) (fun u67 => ?_)
          exact r_reti (x := u67.1) (rv := (fun u => some (.int u.1))) (hpE := (fun u => w_X5 u.2)) (t0 := (u67.1, u67.2)) C dX5_copy_53 (by rfl) (by rfl) (by rfl)
      · refine r_aload_n C 2 dX5_copy_47 rfl ?_
        refine r_ldc C (-1000006) dX5_copy_48 m_581 ?_
        refine r_callV0 C (o_X5_finding l X (-1000006 : Int32)) v_X5_finding m_207 [.int (-1000006 : Int32)] [] (50) (Or.inl ⟨0, 4, _, TX5, 8, rfl, rfl, rfl⟩) (fun u60 => [.int u60.1]) (fun u60 => w_X5 u60.2) rfl rfl rfl (Nat.le_of_ble_eq_true rfl) ⟨(Nat.le_of_ble_eq_true rfl), (Nat.le_of_ble_eq_true rfl)⟩ ⟨Nat.zero_le _, Nat.zero_le _⟩ dX5_copy_50 (fun _ => rfl) (fun _ => rfl) (fun _ => rfl) (fun u60 => ?_)
        exact r_reti (x := u60.1) (rv := (fun u => some (.int u.1))) (hpE := (fun u => w_X5 u.2)) (t0 := (u60.1, u60.2)) C dX5_copy_53 (by rfl) (by rfl) (by rfl)
    · refine r_astore C [(7, .ref 88), (6, .ref 84), (0, .ref 50), (1, .int a1), (2, .int a2), (3, .int a3), (4, .int a4), (5, .int a5)] dX5_copy_12 (Nat.le_of_ble_eq_true rfl) rfl ?_
      refine r_aload C 1 dX5_copy_14 rfl ?_
      refine r_cut (if_pos (by decide)) ?_
      refine r_ifnull_f C dX5_copy_16 ?_
      refine r_aload C 0 dX5_copy_19 rfl ?_
      refine r_cut (if_pos (by decide)) ?_
      refine r_ifnonnull_t C 31 dX5_copy_21 (by decide) ?_
      refine r_aload C 1 dX5_copy_31 rfl ?_
      refine r_callV C (o_X2_isMissing l (X (6 + 1))) v_X2_isMissing m_577 [34, 35] [] [] (84) (Or.inl ⟨34, 1, _, TX2, 3, rfl, rfl, rfl⟩) (fun u68 => [.int u68]) (fun u68 => w_X5 X) rfl rfl rfl rfl rfl (Nat.le_of_ble_eq_true rfl) ⟨(Nat.le_of_ble_eq_true rfl), (Nat.le_of_ble_eq_true rfl)⟩ ⟨Nat.zero_le _, Nat.zero_le _⟩ dX5_copy_33 (fun _ => rfl) (fun _ => rfl) (fun _ => rfl) (fun u68 => ?_)
      refine r_if_ne C 47 dX5_copy_36 (by decide) (fun h36 => ?_) (fun h36 => ?_)
      · refine r_aload C 0 dX5_copy_39 rfl ?_
        refine r_callV C (o_X2_isMissing l (X (6 + 3))) v_X2_isMissing m_577 [38, 39] [] [] (88) (Or.inl ⟨38, 1, _, TX2, 3, rfl, rfl, rfl⟩) (fun u70 => [.int u70]) (fun u70 => w_X5 X) rfl rfl rfl rfl rfl (Nat.le_of_ble_eq_true rfl) ⟨(Nat.le_of_ble_eq_true rfl), (Nat.le_of_ble_eq_true rfl)⟩ ⟨Nat.zero_le _, Nat.zero_le _⟩ dX5_copy_41 (fun _ => rfl) (fun _ => rfl) (fun _ => rfl) (fun u70 => ?_)
        refine r_if_eq C 54 dX5_copy_44 (by decide) (fun h44 => ?_) (fun h44 => ?_)
        · refine r_aload C 1 dX5_copy_54 rfl ?_
          refine r_get C 34 0 dX5_copy_56 K_X2 rfl rfl (Nat.le_of_ble_eq_true rfl) rfl m_162 rfl ?_
          refine r_aload C 0 dX5_copy_59 rfl ?_
          refine r_get C 38 0 dX5_copy_61 K_X2 rfl rfl (Nat.le_of_ble_eq_true rfl) rfl m_162 rfl ?_
          refine r_icmp_eq C 75 dX5_copy_64 (by decide) (fun h64 => ?_) (fun h64 => ?_)
          · refine r_aload C 1 dX5_copy_75 rfl ?_
            refine r_iload_n C 4 dX5_copy_77 rfl ?_
            refine r_iload C 7 dX5_copy_78 rfl ?_
            refine r_callV C (o_X2_isStretch l (X (6 + 1)) a2 a5) v_X2_isStretch m_858 [34, 35] [.int a2, .int a5] [] (84) (Or.inl ⟨34, 1, _, TX2, 3, rfl, rfl, rfl⟩) (fun u71 => [.int u71]) (fun u71 => w_X5 X) rfl rfl rfl rfl rfl (Nat.le_of_ble_eq_true rfl) ⟨(Nat.le_of_ble_eq_true rfl), (Nat.le_of_ble_eq_true rfl)⟩ ⟨Nat.zero_le _, Nat.zero_le _⟩ dX5_copy_80 (fun _ => rfl) (fun _ => rfl) (fun _ => rfl) (fun u71 => ?_)
            refine r_if_eq C 98 dX5_copy_83 (by decide) (fun h83 => ?_) (fun h83 => ?_)
            · refine r_aload_n C 2 dX5_copy_98 rfl ?_
              refine r_ldc C (-1000001) dX5_copy_99 m_206 ?_
              refine r_callV0 C (o_X5_finding l X (-1000001 : Int32)) v_X5_finding m_207 [.int (-1000001 : Int32)] [] (50) (Or.inl ⟨0, 4, _, TX5, 8, rfl, rfl, rfl⟩) (fun u72 => [.int u72.1]) (fun u72 => w_X5 u72.2) rfl rfl rfl (Nat.le_of_ble_eq_true rfl) ⟨(Nat.le_of_ble_eq_true rfl), (Nat.le_of_ble_eq_true rfl)⟩ ⟨Nat.zero_le _, Nat.zero_le _⟩ dX5_copy_101 (fun _ => rfl) (fun _ => rfl) (fun _ => rfl) (fun u72 => ?_)
              exact r_reti (x := u72.1) (rv := (fun u => some (.int u.1))) (hpE := (fun u => w_X5 u.2)) (t0 := (u72.1, u72.2)) C dX5_copy_104 (by rfl) (by rfl) (by rfl)
            · refine r_aload C 0 dX5_copy_86 rfl ?_
              refine r_iload C 6 dX5_copy_88 rfl ?_
              refine r_iload C 7 dX5_copy_90 rfl ?_
              refine r_callV C (o_X2_isStretch l (X (6 + 3)) a4 a5) v_X2_isStretch m_858 [38, 39] [.int a4, .int a5] [] (88) (Or.inl ⟨38, 1, _, TX2, 3, rfl, rfl, rfl⟩) (fun u73 => [.int u73]) (fun u73 => w_X5 X) rfl rfl rfl rfl rfl (Nat.le_of_ble_eq_true rfl) ⟨(Nat.le_of_ble_eq_true rfl), (Nat.le_of_ble_eq_true rfl)⟩ ⟨Nat.zero_le _, Nat.zero_le _⟩ dX5_copy_92 (fun _ => rfl) (fun _ => rfl) (fun _ => rfl) (fun u73 => ?_)
              refine r_if_ne C 105 dX5_copy_95 (by decide) (fun h95 => ?_) (fun h95 => ?_)
              · refine r_aload_n C 2 dX5_copy_98 rfl ?_
                refine r_ldc C (-1000001) dX5_copy_99 m_206 ?_
                refine r_callV0 C (o_X5_finding l X (-1000001 : Int32)) v_X5_finding m_207 [.int (-1000001 : Int32)] [] (50) (Or.inl ⟨0, 4, _, TX5, 8, rfl, rfl, rfl⟩) (fun u74 => [.int u74.1]) (fun u74 => w_X5 u74.2) rfl rfl rfl (Nat.le_of_ble_eq_true rfl) ⟨(Nat.le_of_ble_eq_true rfl), (Nat.le_of_ble_eq_true rfl)⟩ ⟨Nat.zero_le _, Nat.zero_le _⟩ dX5_copy_101 (fun _ => rfl) (fun _ => rfl) (fun _ => rfl) (fun u74 => ?_)
                exact r_reti (x := u74.1) (rv := (fun u => some (.int u.1))) (hpE := (fun u => w_X5 u.2)) (t0 := (u74.1, u74.2)) C dX5_copy_104 (by rfl) (by rfl) (by rfl)
              · refine r_aload C 1 dX5_copy_105 rfl ?_
                refine r_get C 34 2 dX5_copy_107 K_X2 rfl rfl (Nat.le_of_ble_eq_true rfl) rfl m_166 rfl ?_
                refine r_iload_n C 4 dX5_copy_110 rfl ?_
                refine r_aload C 0 dX5_copy_111 rfl ?_
                refine r_get C 38 2 dX5_copy_113 K_X2 rfl rfl (Nat.le_of_ble_eq_true rfl) rfl m_166 rfl ?_
                refine r_iload C 6 dX5_copy_116 rfl ?_
                refine r_iload C 7 dX5_copy_118 rfl ?_
                refine r_copy C 35 39 _ dX5_copy_120 m_862 m_507 m_506 m_10 rfl rfl rfl rfl (Nat.le_of_ble_eq_true rfl) (Nat.le_of_ble_eq_true rfl) rfl ?_
                refine r_iload C 7 dX5_copy_123 rfl ?_
                exact r_reti (x := a5) (rv := (fun u => some (.int u.1))) (hpE := (fun u => w_X5 u.2)) (t0 := (a5, (va_up X (6 + 3) ((X (6 + 3)).1, (va_up (X (6 + 3)).2 2 (va_cpy ((X (6 + 1)).2 2) ((X (6 + 3)).2 2) a2.toNatClampNeg a4.toNatClampNeg a5.toNatClampNeg)))))) C dX5_copy_125 (by rfl) (by rfl) (by rfl)
          · refine r_aload_n C 2 dX5_copy_67 rfl ?_
            refine r_ldcw C (-1000003) dX5_copy_68 m_830 ?_
            refine r_callV0 C (o_X5_finding l X (-1000003 : Int32)) v_X5_finding m_207 [.int (-1000003 : Int32)] [] (50) (Or.inl ⟨0, 4, _, TX5, 8, rfl, rfl, rfl⟩) (fun u75 => [.int u75.1]) (fun u75 => w_X5 u75.2) rfl rfl rfl (Nat.le_of_ble_eq_true rfl) ⟨(Nat.le_of_ble_eq_true rfl), (Nat.le_of_ble_eq_true rfl)⟩ ⟨Nat.zero_le _, Nat.zero_le _⟩ dX5_copy_71 (fun _ => rfl) (fun _ => rfl) (fun _ => rfl) (fun u75 => ?_)
            exact r_reti (x := u75.1) (rv := (fun u => some (.int u.1))) (hpE := (fun u => w_X5 u.2)) (t0 := (u75.1, u75.2)) C dX5_copy_74 (by rfl) (by rfl) (by rfl)
        · refine r_aload_n C 2 dX5_copy_47 rfl ?_
          refine r_ldc C (-1000006) dX5_copy_48 m_581 ?_
          refine r_callV0 C (o_X5_finding l X (-1000006 : Int32)) v_X5_finding m_207 [.int (-1000006 : Int32)] [] (50) (Or.inl ⟨0, 4, _, TX5, 8, rfl, rfl, rfl⟩) (fun u76 => [.int u76.1]) (fun u76 => w_X5 u76.2) rfl rfl rfl (Nat.le_of_ble_eq_true rfl) ⟨(Nat.le_of_ble_eq_true rfl), (Nat.le_of_ble_eq_true rfl)⟩ ⟨Nat.zero_le _, Nat.zero_le _⟩ dX5_copy_50 (fun _ => rfl) (fun _ => rfl) (fun _ => rfl) (fun u76 => ?_)
          exact r_reti (x := u76.1) (rv := (fun u => some (.int u.1))) (hpE := (fun u => w_X5 u.2)) (t0 := (u76.1, u76.2)) C dX5_copy_53 (by rfl) (by rfl) (by rfl)
      · refine r_aload_n C 2 dX5_copy_47 rfl ?_
        refine r_ldc C (-1000006) dX5_copy_48 m_581 ?_
        refine r_callV0 C (o_X5_finding l X (-1000006 : Int32)) v_X5_finding m_207 [.int (-1000006 : Int32)] [] (50) (Or.inl ⟨0, 4, _, TX5, 8, rfl, rfl, rfl⟩) (fun u69 => [.int u69.1]) (fun u69 => w_X5 u69.2) rfl rfl rfl (Nat.le_of_ble_eq_true rfl) ⟨(Nat.le_of_ble_eq_true rfl), (Nat.le_of_ble_eq_true rfl)⟩ ⟨Nat.zero_le _, Nat.zero_le _⟩ dX5_copy_50 (fun _ => rfl) (fun _ => rfl) (fun _ => rfl) (fun u69 => ?_)
        exact r_reti (x := u69.1) (rv := (fun u => some (.int u.1))) (hpE := (fun u => w_X5 u.2)) (t0 := (u69.1, u69.2)) C dX5_copy_53 (by rfl) (by rfl) (by rfl)
    · refine r_astoreN C [(7, .null), (6, .ref 84), (0, .ref 50), (1, .int a1), (2, .int a2), (3, .int a3), (4, .int a4), (5, .int a5)] dX5_copy_12 (Nat.le_of_ble_eq_true rfl) rfl ?_
      refine r_aload C 1 dX5_copy_14 rfl ?_
      refine r_cut (if_pos (by decide)) ?_
      refine r_ifnull_f C dX5_copy_16 ?_
      refine r_aloadN C 0 dX5_copy_19 rfl ?_
      refine r_cut (if_neg (by omega)) ?_
      refine r_ifnonnull_f C dX5_copy_21 ?_
      refine r_aload_n C 2 dX5_copy_24 rfl ?_
      refine r_ldc C (-1000001) dX5_copy_25 m_206 ?_
      refine r_callV0 C (o_X5_finding l X (-1000001 : Int32)) v_X5_finding m_207 [.int (-1000001 : Int32)] [] (50) (Or.inl ⟨0, 4, _, TX5, 8, rfl, rfl, rfl⟩) (fun u77 => [.int u77.1]) (fun u77 => w_X5 u77.2) rfl rfl rfl (Nat.le_of_ble_eq_true rfl) ⟨(Nat.le_of_ble_eq_true rfl), (Nat.le_of_ble_eq_true rfl)⟩ ⟨Nat.zero_le _, Nat.zero_le _⟩ dX5_copy_27 (fun _ => rfl) (fun _ => rfl) (fun _ => rfl) (fun u77 => ?_)
      exact r_reti (x := u77.1) (rv := (fun u => some (.int u.1))) (hpE := (fun u => w_X5 u.2)) (t0 := (u77.1, u77.2)) C dX5_copy_30 (by rfl) (by rfl) (by rfl)
  · refine r_astore C [(6, .ref 86), (0, .ref 50), (1, .int a1), (2, .int a2), (3, .int a3), (4, .int a4), (5, .int a5)] dX5_copy_5 (Nat.le_of_ble_eq_true rfl) rfl ?_
    refine r_aload_n C 1 dX5_copy_7 rfl ?_
    refine r_iload_n C 4 dX5_copy_8 rfl ?_
    refine r_callV0 C (o_X5_sheetAt l X a3) v_X5_sheetAt m_573 [.int a3] [] (50) (Or.inl ⟨0, 4, _, TX5, 8, rfl, rfl, rfl⟩) (fun u78 => va_rf (q_sf u78) :: []) (fun u78 => w_X5 X) rfl rfl rfl (Nat.le_of_ble_eq_true rfl) ⟨(Nat.le_of_ble_eq_true rfl), (Nat.le_of_ble_eq_true rfl)⟩ ⟨Nat.zero_le _, Nat.zero_le _⟩ dX5_copy_9 (fun _ => rfl) (fun _ => rfl) (fun _ => rfl) (q_case4 ?_ ?_ ?_ ?_ (fun u78 => ?_))
    · refine r_astore C [(7, .ref 82), (6, .ref 86), (0, .ref 50), (1, .int a1), (2, .int a2), (3, .int a3), (4, .int a4), (5, .int a5)] dX5_copy_12 (Nat.le_of_ble_eq_true rfl) rfl ?_
      refine r_aload C 1 dX5_copy_14 rfl ?_
      refine r_cut (if_pos (by decide)) ?_
      refine r_ifnull_f C dX5_copy_16 ?_
      refine r_aload C 0 dX5_copy_19 rfl ?_
      refine r_cut (if_pos (by decide)) ?_
      refine r_ifnonnull_t C 31 dX5_copy_21 (by decide) ?_
      refine r_aload C 1 dX5_copy_31 rfl ?_
      refine r_callV C (o_X2_isMissing l (X (6 + 2))) v_X2_isMissing m_577 [36, 37] [] [] (86) (Or.inl ⟨36, 1, _, TX2, 3, rfl, rfl, rfl⟩) (fun u79 => [.int u79]) (fun u79 => w_X5 X) rfl rfl rfl rfl rfl (Nat.le_of_ble_eq_true rfl) ⟨(Nat.le_of_ble_eq_true rfl), (Nat.le_of_ble_eq_true rfl)⟩ ⟨Nat.zero_le _, Nat.zero_le _⟩ dX5_copy_33 (fun _ => rfl) (fun _ => rfl) (fun _ => rfl) (fun u79 => ?_)
      refine r_if_ne C 47 dX5_copy_36 (by decide) (fun h36 => ?_) (fun h36 => ?_)
      · refine r_aload C 0 dX5_copy_39 rfl ?_
        refine r_callV C (o_X2_isMissing l (X (6 + 0))) v_X2_isMissing m_577 [32, 33] [] [] (82) (Or.inl ⟨32, 1, _, TX2, 3, rfl, rfl, rfl⟩) (fun u81 => [.int u81]) (fun u81 => w_X5 X) rfl rfl rfl rfl rfl (Nat.le_of_ble_eq_true rfl) ⟨(Nat.le_of_ble_eq_true rfl), (Nat.le_of_ble_eq_true rfl)⟩ ⟨Nat.zero_le _, Nat.zero_le _⟩ dX5_copy_41 (fun _ => rfl) (fun _ => rfl) (fun _ => rfl) (fun u81 => ?_)
        refine r_if_eq C 54 dX5_copy_44 (by decide) (fun h44 => ?_) (fun h44 => ?_)
        · refine r_aload C 1 dX5_copy_54 rfl ?_
          refine r_get C 36 0 dX5_copy_56 K_X2 rfl rfl (Nat.le_of_ble_eq_true rfl) rfl m_162 rfl ?_
          refine r_aload C 0 dX5_copy_59 rfl ?_
          refine r_get C 32 0 dX5_copy_61 K_X2 rfl rfl (Nat.le_of_ble_eq_true rfl) rfl m_162 rfl ?_
          refine r_icmp_eq C 75 dX5_copy_64 (by decide) (fun h64 => ?_) (fun h64 => ?_)
          · refine r_aload C 1 dX5_copy_75 rfl ?_
            refine r_iload_n C 4 dX5_copy_77 rfl ?_
            refine r_iload C 7 dX5_copy_78 rfl ?_
            refine r_callV C (o_X2_isStretch l (X (6 + 2)) a2 a5) v_X2_isStretch m_858 [36, 37] [.int a2, .int a5] [] (86) (Or.inl ⟨36, 1, _, TX2, 3, rfl, rfl, rfl⟩) (fun u82 => [.int u82]) (fun u82 => w_X5 X) rfl rfl rfl rfl rfl (Nat.le_of_ble_eq_true rfl) ⟨(Nat.le_of_ble_eq_true rfl), (Nat.le_of_ble_eq_true rfl)⟩ ⟨Nat.zero_le _, Nat.zero_le _⟩ dX5_copy_80 (fun _ => rfl) (fun _ => rfl) (fun _ => rfl) (fun u82 => ?_)
            refine r_if_eq C 98 dX5_copy_83 (by decide) (fun h83 => ?_) (fun h83 => ?_)
            · refine r_aload_n C 2 dX5_copy_98 rfl ?_
              refine r_ldc C (-1000001) dX5_copy_99 m_206 ?_
              refine r_callV0 C (o_X5_finding l X (-1000001 : Int32)) v_X5_finding m_207 [.int (-1000001 : Int32)] [] (50) (Or.inl ⟨0, 4, _, TX5, 8, rfl, rfl, rfl⟩) (fun u83 => [.int u83.1]) (fun u83 => w_X5 u83.2) rfl rfl rfl (Nat.le_of_ble_eq_true rfl) ⟨(Nat.le_of_ble_eq_true rfl), (Nat.le_of_ble_eq_true rfl)⟩ ⟨Nat.zero_le _, Nat.zero_le _⟩ dX5_copy_101 (fun _ => rfl) (fun _ => rfl) (fun _ => rfl) (fun u83 => ?_)
              exact r_reti (x := u83.1) (rv := (fun u => some (.int u.1))) (hpE := (fun u => w_X5 u.2)) (t0 := (u83.1, u83.2)) C dX5_copy_104 (by rfl) (by rfl) (by rfl)
            · refine r_aload C 0 dX5_copy_86 rfl ?_
              refine r_iload C 6 dX5_copy_88 rfl ?_
              refine r_iload C 7 dX5_copy_90 rfl ?_
              refine r_callV C (o_X2_isStretch l (X (6 + 0)) a4 a5) v_X2_isStretch m_858 [32, 33] [.int a4, .int a5] [] (82) (Or.inl ⟨32, 1, _, TX2, 3, rfl, rfl, rfl⟩) (fun u84 => [.int u84]) (fun u84 => w_X5 X) rfl rfl rfl rfl rfl (Nat.le_of_ble_eq_true rfl) ⟨(Nat.le_of_ble_eq_true rfl), (Nat.le_of_ble_eq_true rfl)⟩ ⟨Nat.zero_le _, Nat.zero_le _⟩ dX5_copy_92 (fun _ => rfl) (fun _ => rfl) (fun _ => rfl) (fun u84 => ?_)
              refine r_if_ne C 105 dX5_copy_95 (by decide) (fun h95 => ?_) (fun h95 => ?_)
              · refine r_aload_n C 2 dX5_copy_98 rfl ?_
                refine r_ldc C (-1000001) dX5_copy_99 m_206 ?_
                refine r_callV0 C (o_X5_finding l X (-1000001 : Int32)) v_X5_finding m_207 [.int (-1000001 : Int32)] [] (50) (Or.inl ⟨0, 4, _, TX5, 8, rfl, rfl, rfl⟩) (fun u85 => [.int u85.1]) (fun u85 => w_X5 u85.2) rfl rfl rfl (Nat.le_of_ble_eq_true rfl) ⟨(Nat.le_of_ble_eq_true rfl), (Nat.le_of_ble_eq_true rfl)⟩ ⟨Nat.zero_le _, Nat.zero_le _⟩ dX5_copy_101 (fun _ => rfl) (fun _ => rfl) (fun _ => rfl) (fun u85 => ?_)
                exact r_reti (x := u85.1) (rv := (fun u => some (.int u.1))) (hpE := (fun u => w_X5 u.2)) (t0 := (u85.1, u85.2)) C dX5_copy_104 (by rfl) (by rfl) (by rfl)
              · refine r_aload C 1 dX5_copy_105 rfl ?_
                refine r_get C 36 2 dX5_copy_107 K_X2 rfl rfl (Nat.le_of_ble_eq_true rfl) rfl m_166 rfl ?_
                refine r_iload_n C 4 dX5_copy_110 rfl ?_
                refine r_aload C 0 dX5_copy_111 rfl ?_
                refine r_get C 32 2 dX5_copy_113 K_X2 rfl rfl (Nat.le_of_ble_eq_true rfl) rfl m_166 rfl ?_
                refine r_iload C 6 dX5_copy_116 rfl ?_
                refine r_iload C 7 dX5_copy_118 rfl ?_
                refine r_copy C 37 33 _ dX5_copy_120 m_862 m_507 m_506 m_10 rfl rfl rfl rfl (Nat.le_of_ble_eq_true rfl) (Nat.le_of_ble_eq_true rfl) rfl ?_
                refine r_iload C 7 dX5_copy_123 rfl ?_
                exact r_reti (x := a5) (rv := (fun u => some (.int u.1))) (hpE := (fun u => w_X5 u.2)) (t0 := (a5, (va_up X (6 + 0) ((X (6 + 0)).1, (va_up (X (6 + 0)).2 2 (va_cpy ((X (6 + 2)).2 2) ((X (6 + 0)).2 2) a2.toNatClampNeg a4.toNatClampNeg a5.toNatClampNeg)))))) C dX5_copy_125 (by rfl) (by rfl) (by rfl)
          · refine r_aload_n C 2 dX5_copy_67 rfl ?_
            refine r_ldcw C (-1000003) dX5_copy_68 m_830 ?_
            refine r_callV0 C (o_X5_finding l X (-1000003 : Int32)) v_X5_finding m_207 [.int (-1000003 : Int32)] [] (50) (Or.inl ⟨0, 4, _, TX5, 8, rfl, rfl, rfl⟩) (fun u86 => [.int u86.1]) (fun u86 => w_X5 u86.2) rfl rfl rfl (Nat.le_of_ble_eq_true rfl) ⟨(Nat.le_of_ble_eq_true rfl), (Nat.le_of_ble_eq_true rfl)⟩ ⟨Nat.zero_le _, Nat.zero_le _⟩ dX5_copy_71 (fun _ => rfl) (fun _ => rfl) (fun _ => rfl) (fun u86 => ?_)
            exact r_reti (x := u86.1) (rv := (fun u => some (.int u.1))) (hpE := (fun u => w_X5 u.2)) (t0 := (u86.1, u86.2)) C dX5_copy_74 (by rfl) (by rfl) (by rfl)
        · refine r_aload_n C 2 dX5_copy_47 rfl ?_
          refine r_ldc C (-1000006) dX5_copy_48 m_581 ?_
          refine r_callV0 C (o_X5_finding l X (-1000006 : Int32)) v_X5_finding m_207 [.int (-1000006 : Int32)] [] (50) (Or.inl ⟨0, 4, _, TX5, 8, rfl, rfl, rfl⟩) (fun u87 => [.int u87.1]) (fun u87 => w_X5 u87.2) rfl rfl rfl (Nat.le_of_ble_eq_true rfl) ⟨(Nat.le_of_ble_eq_true rfl), (Nat.le_of_ble_eq_true rfl)⟩ ⟨Nat.zero_le _, Nat.zero_le _⟩ dX5_copy_50 (fun _ => rfl) (fun _ => rfl) (fun _ => rfl) (fun u87 => ?_)
          exact r_reti (x := u87.1) (rv := (fun u => some (.int u.1))) (hpE := (fun u => w_X5 u.2)) (t0 := (u87.1, u87.2)) C dX5_copy_53 (by rfl) (by rfl) (by rfl)
      · refine r_aload_n C 2 dX5_copy_47 rfl ?_
        refine r_ldc C (-1000006) dX5_copy_48 m_581 ?_
        refine r_callV0 C (o_X5_finding l X (-1000006 : Int32)) v_X5_finding m_207 [.int (-1000006 : Int32)] [] (50) (Or.inl ⟨0, 4, _, TX5, 8, rfl, rfl, rfl⟩) (fun u80 => [.int u80.1]) (fun u80 => w_X5 u80.2) rfl rfl rfl (Nat.le_of_ble_eq_true rfl) ⟨(Nat.le_of_ble_eq_true rfl), (Nat.le_of_ble_eq_true rfl)⟩ ⟨Nat.zero_le _, Nat.zero_le _⟩ dX5_copy_50 (fun _ => rfl) (fun _ => rfl) (fun _ => rfl) (fun u80 => ?_)
        exact r_reti (x := u80.1) (rv := (fun u => some (.int u.1))) (hpE := (fun u => w_X5 u.2)) (t0 := (u80.1, u80.2)) C dX5_copy_53 (by rfl) (by rfl) (by rfl)
    · refine r_astore C [(7, .ref 84), (6, .ref 86), (0, .ref 50), (1, .int a1), (2, .int a2), (3, .int a3), (4, .int a4), (5, .int a5)] dX5_copy_12 (Nat.le_of_ble_eq_true rfl) rfl ?_
      refine r_aload C 1 dX5_copy_14 rfl ?_
      refine r_cut (if_pos (by decide)) ?_
      refine r_ifnull_f C dX5_copy_16 ?_
      refine r_aload C 0 dX5_copy_19 rfl ?_
      refine r_cut (if_pos (by decide)) ?_
      refine r_ifnonnull_t C 31 dX5_copy_21 (by decide) ?_
      refine r_aload C 1 dX5_copy_31 rfl ?_
      refine r_callV C (o_X2_isMissing l (X (6 + 2))) v_X2_isMissing m_577 [36, 37] [] [] (86) (Or.inl ⟨36, 1, _, TX2, 3, rfl, rfl, rfl⟩) (fun u88 => [.int u88]) (fun u88 => w_X5 X) rfl rfl rfl rfl rfl (Nat.le_of_ble_eq_true rfl) ⟨(Nat.le_of_ble_eq_true rfl), (Nat.le_of_ble_eq_true rfl)⟩ ⟨Nat.zero_le _, Nat.zero_le _⟩ dX5_copy_33 (fun _ => rfl) (fun _ => rfl) (fun _ => rfl) (fun u88 => ?_)
      refine r_if_ne C 47 dX5_copy_36 (by decide) (fun h36 => ?_) (fun h36 => ?_)
      · refine r_aload C 0 dX5_copy_39 rfl ?_
        refine r_callV C (o_X2_isMissing l (X (6 + 1))) v_X2_isMissing m_577 [34, 35] [] [] (84) (Or.inl ⟨34, 1, _, TX2, 3, rfl, rfl, rfl⟩) (fun u90 => [.int u90]) (fun u90 => w_X5 X) rfl rfl rfl rfl rfl (Nat.le_of_ble_eq_true rfl) ⟨(Nat.le_of_ble_eq_true rfl), (Nat.le_of_ble_eq_true rfl)⟩ ⟨Nat.zero_le _, Nat.zero_le _⟩ dX5_copy_41 (fun _ => rfl) (fun _ => rfl) (fun _ => rfl) (fun u90 => ?_)
        refine r_if_eq C 54 dX5_copy_44 (by decide) (fun h44 => ?_) (fun h44 => ?_)
        · refine r_aload C 1 dX5_copy_54 rfl ?_
          refine r_get C 36 0 dX5_copy_56 K_X2 rfl rfl (Nat.le_of_ble_eq_true rfl) rfl m_162 rfl ?_
          refine r_aload C 0 dX5_copy_59 rfl ?_
          refine r_get C 34 0 dX5_copy_61 K_X2 rfl rfl (Nat.le_of_ble_eq_true rfl) rfl m_162 rfl ?_
          refine r_icmp_eq C 75 dX5_copy_64 (by decide) (fun h64 => ?_) (fun h64 => ?_)
          · refine r_aload C 1 dX5_copy_75 rfl ?_
            refine r_iload_n C 4 dX5_copy_77 rfl ?_
            refine r_iload C 7 dX5_copy_78 rfl ?_
            refine r_callV C (o_X2_isStretch l (X (6 + 2)) a2 a5) v_X2_isStretch m_858 [36, 37] [.int a2, .int a5] [] (86) (Or.inl ⟨36, 1, _, TX2, 3, rfl, rfl, rfl⟩) (fun u91 => [.int u91]) (fun u91 => w_X5 X) rfl rfl rfl rfl rfl (Nat.le_of_ble_eq_true rfl) ⟨(Nat.le_of_ble_eq_true rfl), (Nat.le_of_ble_eq_true rfl)⟩ ⟨Nat.zero_le _, Nat.zero_le _⟩ dX5_copy_80 (fun _ => rfl) (fun _ => rfl) (fun _ => rfl) (fun u91 => ?_)
            refine r_if_eq C 98 dX5_copy_83 (by decide) (fun h83 => ?_) (fun h83 => ?_)
            · refine r_aload_n C 2 dX5_copy_98 rfl ?_
              refine r_ldc C (-1000001) dX5_copy_99 m_206 ?_
              refine r_callV0 C (o_X5_finding l X (-1000001 : Int32)) v_X5_finding m_207 [.int (-1000001 : Int32)] [] (50) (Or.inl ⟨0, 4, _, TX5, 8, rfl, rfl, rfl⟩) (fun u92 => [.int u92.1]) (fun u92 => w_X5 u92.2) rfl rfl rfl (Nat.le_of_ble_eq_true rfl) ⟨(Nat.le_of_ble_eq_true rfl), (Nat.le_of_ble_eq_true rfl)⟩ ⟨Nat.zero_le _, Nat.zero_le _⟩ dX5_copy_101 (fun _ => rfl) (fun _ => rfl) (fun _ => rfl) (fun u92 => ?_)
              exact r_reti (x := u92.1) (rv := (fun u => some (.int u.1))) (hpE := (fun u => w_X5 u.2)) (t0 := (u92.1, u92.2)) C dX5_copy_104 (by rfl) (by rfl) (by rfl)
            · refine r_aload C 0 dX5_copy_86 rfl ?_
              refine r_iload C 6 dX5_copy_88 rfl ?_
              refine r_iload C 7 dX5_copy_90 rfl ?_
              refine r_callV C (o_X2_isStretch l (X (6 + 1)) a4 a5) v_X2_isStretch m_858 [34, 35] [.int a4, .int a5] [] (84) (Or.inl ⟨34, 1, _, TX2, 3, rfl, rfl, rfl⟩) (fun u93 => [.int u93]) (fun u93 => w_X5 X) rfl rfl rfl rfl rfl (Nat.le_of_ble_eq_true rfl) ⟨(Nat.le_of_ble_eq_true rfl), (Nat.le_of_ble_eq_true rfl)⟩ ⟨Nat.zero_le _, Nat.zero_le _⟩ dX5_copy_92 (fun _ => rfl) (fun _ => rfl) (fun _ => rfl) (fun u93 => ?_)
              refine r_if_ne C 105 dX5_copy_95 (by decide) (fun h95 => ?_) (fun h95 => ?_)
              · refine r_aload_n C 2 dX5_copy_98 rfl ?_
                refine r_ldc C (-1000001) dX5_copy_99 m_206 ?_
                refine r_callV0 C (o_X5_finding l X (-1000001 : Int32)) v_X5_finding m_207 [.int (-1000001 : Int32)] [] (50) (Or.inl ⟨0, 4, _, TX5, 8, rfl, rfl, rfl⟩) (fun u94 => [.int u94.1]) (fun u94 => w_X5 u94.2) rfl rfl rfl (Nat.le_of_ble_eq_true rfl) ⟨(Nat.le_of_ble_eq_true rfl), (Nat.le_of_ble_eq_true rfl)⟩ ⟨Nat.zero_le _, Nat.zero_le _⟩ dX5_copy_101 (fun _ => rfl) (fun _ => rfl) (fun _ => rfl) (fun u94 => ?_)
                exact r_reti (x := u94.1) (rv := (fun u => some (.int u.1))) (hpE := (fun u => w_X5 u.2)) (t0 := (u94.1, u94.2)) C dX5_copy_104 (by rfl) (by rfl) (by rfl)
              · refine r_aload C 1 dX5_copy_105 rfl ?_
                refine r_get C 36 2 dX5_copy_107 K_X2 rfl rfl (Nat.le_of_ble_eq_true rfl) rfl m_166 rfl ?_
                refine r_iload_n C 4 dX5_copy_110 rfl ?_
                refine r_aload C 0 dX5_copy_111 rfl ?_
                refine r_get C 34 2 dX5_copy_113 K_X2 rfl rfl (Nat.le_of_ble_eq_true rfl) rfl m_166 rfl ?_
                refine r_iload C 6 dX5_copy_116 rfl ?_
                refine r_iload C 7 dX5_copy_118 rfl ?_
                refine r_copy C 37 35 _ dX5_copy_120 m_862 m_507 m_506 m_10 rfl rfl rfl rfl (Nat.le_of_ble_eq_true rfl) (Nat.le_of_ble_eq_true rfl) rfl ?_
                refine r_iload C 7 dX5_copy_123 rfl ?_
                exact r_reti (x := a5) (rv := (fun u => some (.int u.1))) (hpE := (fun u => w_X5 u.2)) (t0 := (a5, (va_up X (6 + 1) ((X (6 + 1)).1, (va_up (X (6 + 1)).2 2 (va_cpy ((X (6 + 2)).2 2) ((X (6 + 1)).2 2) a2.toNatClampNeg a4.toNatClampNeg a5.toNatClampNeg)))))) C dX5_copy_125 (by rfl) (by rfl) (by rfl)
          · refine r_aload_n C 2 dX5_copy_67 rfl ?_
            refine r_ldcw C (-1000003) dX5_copy_68 m_830 ?_
            refine r_callV0 C (o_X5_finding l X (-1000003 : Int32)) v_X5_finding m_207 [.int (-1000003 : Int32)] [] (50) (Or.inl ⟨0, 4, _, TX5, 8, rfl, rfl, rfl⟩) (fun u95 => [.int u95.1]) (fun u95 => w_X5 u95.2) rfl rfl rfl (Nat.le_of_ble_eq_true rfl) ⟨(Nat.le_of_ble_eq_true rfl), (Nat.le_of_ble_eq_true rfl)⟩ ⟨Nat.zero_le _, Nat.zero_le _⟩ dX5_copy_71 (fun _ => rfl) (fun _ => rfl) (fun _ => rfl) (fun u95 => ?_)
            exact r_reti (x := u95.1) (rv := (fun u => some (.int u.1))) (hpE := (fun u => w_X5 u.2)) (t0 := (u95.1, u95.2)) C dX5_copy_74 (by rfl) (by rfl) (by rfl)
        · refine r_aload_n C 2 dX5_copy_47 rfl ?_
          refine r_ldc C (-1000006) dX5_copy_48 m_581 ?_
          refine r_callV0 C (o_X5_finding l X (-1000006 : Int32)) v_X5_finding m_207 [.int (-1000006 : Int32)] [] (50) (Or.inl ⟨0, 4, _, TX5, 8, rfl, rfl, rfl⟩) (fun u96 => [.int u96.1]) (fun u96 => w_X5 u96.2) rfl rfl rfl (Nat.le_of_ble_eq_true rfl) ⟨(Nat.le_of_ble_eq_true rfl), (Nat.le_of_ble_eq_true rfl)⟩ ⟨Nat.zero_le _, Nat.zero_le _⟩ dX5_copy_50 (fun _ => rfl) (fun _ => rfl) (fun _ => rfl) (fun u96 => ?_)
          exact r_reti (x := u96.1) (rv := (fun u => some (.int u.1))) (hpE := (fun u => w_X5 u.2)) (t0 := (u96.1, u96.2)) C dX5_copy_53 (by rfl) (by rfl) (by rfl)
      · refine r_aload_n C 2 dX5_copy_47 rfl ?_
        refine r_ldc C (-1000006) dX5_copy_48 m_581 ?_
        refine r_callV0 C (o_X5_finding l X (-1000006 : Int32)) v_X5_finding m_207 [.int (-1000006 : Int32)] [] (50) (Or.inl ⟨0, 4, _, TX5, 8, rfl, rfl, rfl⟩) (fun u89 => [.int u89.1]) (fun u89 => w_X5 u89.2) rfl rfl rfl (Nat.le_of_ble_eq_true rfl) ⟨(Nat.le_of_ble_eq_true rfl), (Nat.le_of_ble_eq_true rfl)⟩ ⟨Nat.zero_le _, Nat.zero_le _⟩ dX5_copy_50 (fun _ => rfl) (fun _ => rfl) (fun _ => rfl) (fun u89 => ?_)
        exact r_reti (x := u89.1) (rv := (fun u => some (.int u.1))) (hpE := (fun u => w_X5 u.2)) (t0 := (u89.1, u89.2)) C dX5_copy_53 (by rfl) (by rfl) (by rfl)
    · refine r_astore C [(7, .ref 86), (6, .ref 86), (0, .ref 50), (1, .int a1), (2, .int a2), (3, .int a3), (4, .int a4), (5, .int a5)] dX5_copy_12 (Nat.le_of_ble_eq_true rfl) rfl ?_
      refine r_aload C 1 dX5_copy_14 rfl ?_
      refine r_cut (if_pos (by decide)) ?_
      refine r_ifnull_f C dX5_copy_16 ?_
      refine r_aload C 0 dX5_copy_19 rfl ?_
      refine r_ifnonnull_t C 31 dX5_copy_21 (by decide) ?_
      refine r_aload C 1 dX5_copy_31 rfl ?_
      refine r_callV C (o_X2_isMissing l (X (6 + 2))) v_X2_isMissing m_577 [36, 37] [] [] (86) (Or.inl ⟨36, 1, _, TX2, 3, rfl, rfl, rfl⟩) (fun u97 => [.int u97]) (fun u97 => w_X5 X) rfl rfl rfl rfl rfl (Nat.le_of_ble_eq_true rfl) ⟨(Nat.le_of_ble_eq_true rfl), (Nat.le_of_ble_eq_true rfl)⟩ ⟨Nat.zero_le _, Nat.zero_le _⟩ dX5_copy_33 (fun _ => rfl) (fun _ => rfl) (fun _ => rfl) (fun u97 => ?_)
      refine r_if_ne C 47 dX5_copy_36 (by decide) (fun h36 => ?_) (fun h36 => ?_)
      · refine r_aload C 0 dX5_copy_39 rfl ?_
        refine r_callV C (o_X2_isMissing l (X (6 + 2))) v_X2_isMissing m_577 [36, 37] [] [] (86) (Or.inl ⟨36, 1, _, TX2, 3, rfl, rfl, rfl⟩) (fun u99 => [.int u99]) (fun u99 => w_X5 X) rfl rfl rfl rfl rfl (Nat.le_of_ble_eq_true rfl) ⟨(Nat.le_of_ble_eq_true rfl), (Nat.le_of_ble_eq_true rfl)⟩ ⟨Nat.zero_le _, Nat.zero_le _⟩ dX5_copy_41 (fun _ => rfl) (fun _ => rfl) (fun _ => rfl) (fun u99 => ?_)
        refine r_if_eq C 54 dX5_copy_44 (by decide) (fun h44 => ?_) (fun h44 => ?_)
        · refine r_aload C 1 dX5_copy_54 rfl ?_
          refine r_get C 36 0 dX5_copy_56 K_X2 rfl rfl (Nat.le_of_ble_eq_true rfl) rfl m_162 rfl ?_
          refine r_aload C 0 dX5_copy_59 rfl ?_
          refine r_get C 36 0 dX5_copy_61 K_X2 rfl rfl (Nat.le_of_ble_eq_true rfl) rfl m_162 rfl ?_
          refine r_icmp_eq C 75 dX5_copy_64 (by decide) (fun h64 => ?_) (fun h64 => ?_)
          · refine r_aload C 1 dX5_copy_75 rfl ?_
            refine r_iload_n C 4 dX5_copy_77 rfl ?_
            refine r_iload C 7 dX5_copy_78 rfl ?_
            refine r_callV C (o_X2_isStretch l (X (6 + 2)) a2 a5) v_X2_isStretch m_858 [36, 37] [.int a2, .int a5] [] (86) (Or.inl ⟨36, 1, _, TX2, 3, rfl, rfl, rfl⟩) (fun u100 => [.int u100]) (fun u100 => w_X5 X) rfl rfl rfl rfl rfl (Nat.le_of_ble_eq_true rfl) ⟨(Nat.le_of_ble_eq_true rfl), (Nat.le_of_ble_eq_true rfl)⟩ ⟨Nat.zero_le _, Nat.zero_le _⟩ dX5_copy_80 (fun _ => rfl) (fun _ => rfl) (fun _ => rfl) (fun u100 => ?_)
            refine r_if_eq C 98 dX5_copy_83 (by decide) (fun h83 => ?_) (fun h83 => ?_)
            · refine r_aload_n C 2 dX5_copy_98 rfl ?_
              refine r_ldc C (-1000001) dX5_copy_99 m_206 ?_
              refine r_callV0 C (o_X5_finding l X (-1000001 : Int32)) v_X5_finding m_207 [.int (-1000001 : Int32)] [] (50) (Or.inl ⟨0, 4, _, TX5, 8, rfl, rfl, rfl⟩) (fun u101 => [.int u101.1]) (fun u101 => w_X5 u101.2) rfl rfl rfl (Nat.le_of_ble_eq_true rfl) ⟨(Nat.le_of_ble_eq_true rfl), (Nat.le_of_ble_eq_true rfl)⟩ ⟨Nat.zero_le _, Nat.zero_le _⟩ dX5_copy_101 (fun _ => rfl) (fun _ => rfl) (fun _ => rfl) (fun u101 => ?_)
              exact r_reti (x := u101.1) (rv := (fun u => some (.int u.1))) (hpE := (fun u => w_X5 u.2)) (t0 := (u101.1, u101.2)) C dX5_copy_104 (by rfl) (by rfl) (by rfl)
            · refine r_aload C 0 dX5_copy_86 rfl ?_
              refine r_iload C 6 dX5_copy_88 rfl ?_
              refine r_iload C 7 dX5_copy_90 rfl ?_
              refine r_callV C (o_X2_isStretch l (X (6 + 2)) a4 a5) v_X2_isStretch m_858 [36, 37] [.int a4, .int a5] [] (86) (Or.inl ⟨36, 1, _, TX2, 3, rfl, rfl, rfl⟩) (fun u102 => [.int u102]) (fun u102 => w_X5 X) rfl rfl rfl rfl rfl (Nat.le_of_ble_eq_true rfl) ⟨(Nat.le_of_ble_eq_true rfl), (Nat.le_of_ble_eq_true rfl)⟩ ⟨Nat.zero_le _, Nat.zero_le _⟩ dX5_copy_92 (fun _ => rfl) (fun _ => rfl) (fun _ => rfl) (fun u102 => ?_)
              refine r_if_ne C 105 dX5_copy_95 (by decide) (fun h95 => ?_) (fun h95 => ?_)
              · refine r_aload_n C 2 dX5_copy_98 rfl ?_
                refine r_ldc C (-1000001) dX5_copy_99 m_206 ?_
                refine r_callV0 C (o_X5_finding l X (-1000001 : Int32)) v_X5_finding m_207 [.int (-1000001 : Int32)] [] (50) (Or.inl ⟨0, 4, _, TX5, 8, rfl, rfl, rfl⟩) (fun u103 => [.int u103.1]) (fun u103 => w_X5 u103.2) rfl rfl rfl (Nat.le_of_ble_eq_true rfl) ⟨(Nat.le_of_ble_eq_true rfl), (Nat.le_of_ble_eq_true rfl)⟩ ⟨Nat.zero_le _, Nat.zero_le _⟩ dX5_copy_101 (fun _ => rfl) (fun _ => rfl) (fun _ => rfl) (fun u103 => ?_)
                exact r_reti (x := u103.1) (rv := (fun u => some (.int u.1))) (hpE := (fun u => w_X5 u.2)) (t0 := (u103.1, u103.2)) C dX5_copy_104 (by rfl) (by rfl) (by rfl)
              · refine r_aload C 1 dX5_copy_105 rfl ?_
                refine r_get C 36 2 dX5_copy_107 K_X2 rfl rfl (Nat.le_of_ble_eq_true rfl) rfl m_166 rfl ?_
                refine r_iload_n C 4 dX5_copy_110 rfl ?_
                refine r_aload C 0 dX5_copy_111 rfl ?_
                refine r_get C 36 2 dX5_copy_113 K_X2 rfl rfl (Nat.le_of_ble_eq_true rfl) rfl m_166 rfl ?_
                refine r_iload C 6 dX5_copy_116 rfl ?_
                refine r_iload C 7 dX5_copy_118 rfl ?_
                refine r_copy C 37 37 _ dX5_copy_120 m_862 m_507 m_506 m_10 rfl rfl rfl rfl (Nat.le_of_ble_eq_true rfl) (Nat.le_of_ble_eq_true rfl) rfl ?_
                refine r_iload C 7 dX5_copy_123 rfl ?_
                exact r_reti (x := a5) (rv := (fun u => some (.int u.1))) (hpE := (fun u => w_X5 u.2)) (t0 := (a5, (va_up X (6 + 2) ((X (6 + 2)).1, (va_up (X (6 + 2)).2 2 (va_cpy ((X (6 + 2)).2 2) ((X (6 + 2)).2 2) a2.toNatClampNeg a4.toNatClampNeg a5.toNatClampNeg)))))) C dX5_copy_125 (by rfl) (by rfl) (by rfl)
          · refine r_aload_n C 2 dX5_copy_67 rfl ?_
            refine r_ldcw C (-1000003) dX5_copy_68 m_830 ?_
            refine r_callV0 C (o_X5_finding l X (-1000003 : Int32)) v_X5_finding m_207 [.int (-1000003 : Int32)] [] (50) (Or.inl ⟨0, 4, _, TX5, 8, rfl, rfl, rfl⟩) (fun u104 => [.int u104.1]) (fun u104 => w_X5 u104.2) rfl rfl rfl (Nat.le_of_ble_eq_true rfl) ⟨(Nat.le_of_ble_eq_true rfl), (Nat.le_of_ble_eq_true rfl)⟩ ⟨Nat.zero_le _, Nat.zero_le _⟩ dX5_copy_71 (fun _ => rfl) (fun _ => rfl) (fun _ => rfl) (fun u104 => ?_)
            exact r_reti (x := u104.1) (rv := (fun u => some (.int u.1))) (hpE := (fun u => w_X5 u.2)) (t0 := (u104.1, u104.2)) C dX5_copy_74 (by rfl) (by rfl) (by rfl)
        · refine r_aload_n C 2 dX5_copy_47 rfl ?_
          refine r_ldc C (-1000006) dX5_copy_48 m_581 ?_
          refine r_callV0 C (o_X5_finding l X (-1000006 : Int32)) v_X5_finding m_207 [.int (-1000006 : Int32)] [] (50) (Or.inl ⟨0, 4, _, TX5, 8, rfl, rfl, rfl⟩) (fun u105 => [.int u105.1]) (fun u105 => w_X5 u105.2) rfl rfl rfl (Nat.le_of_ble_eq_true rfl) ⟨(Nat.le_of_ble_eq_true rfl), (Nat.le_of_ble_eq_true rfl)⟩ ⟨Nat.zero_le _, Nat.zero_le _⟩ dX5_copy_50 (fun _ => rfl) (fun _ => rfl) (fun _ => rfl) (fun u105 => ?_)
          exact r_reti (x := u105.1) (rv := (fun u => some (.int u.1))) (hpE := (fun u => w_X5 u.2)) (t0 := (u105.1, u105.2)) C dX5_copy_53 (by rfl) (by rfl) (by rfl)
      · refine r_aload_n C 2 dX5_copy_47 rfl ?_
        refine r_ldc C (-1000006) dX5_copy_48 m_581 ?_
        refine r_callV0 C (o_X5_finding l X (-1000006 : Int32)) v_X5_finding m_207 [.int (-1000006 : Int32)] [] (50) (Or.inl ⟨0, 4, _, TX5, 8, rfl, rfl, rfl⟩) (fun u98 => [.int u98.1]) (fun u98 => w_X5 u98.2) rfl rfl rfl (Nat.le_of_ble_eq_true rfl) ⟨(Nat.le_of_ble_eq_true rfl), (Nat.le_of_ble_eq_true rfl)⟩ ⟨Nat.zero_le _, Nat.zero_le _⟩ dX5_copy_50 (fun _ => rfl) (fun _ => rfl) (fun _ => rfl) (fun u98 => ?_)
        exact r_reti (x := u98.1) (rv := (fun u => some (.int u.1))) (hpE := (fun u => w_X5 u.2)) (t0 := (u98.1, u98.2)) C dX5_copy_53 (by rfl) (by rfl) (by rfl)
    · refine r_astore C [(7, .ref 88), (6, .ref 86), (0, .ref 50), (1, .int a1), (2, .int a2), (3, .int a3), (4, .int a4), (5, .int a5)] dX5_copy_12 (Nat.le_of_ble_eq_true rfl) rfl ?_
      refine r_aload C 1 dX5_copy_14 rfl ?_
      refine r_cut (if_pos (by decide)) ?_
      refine r_ifnull_f C dX5_copy_16 ?_
      refine r_aload C 0 dX5_copy_19 rfl ?_
      refine r_cut (if_pos (by decide)) ?_
      refine r_ifnonnull_t C 31 dX5_copy_21 (by decide) ?_
      refine r_aload C 1 dX5_copy_31 rfl ?_
      refine r_callV C (o_X2_isMissing l (X (6 + 2))) v_X2_isMissing m_577 [36, 37] [] [] (86) (Or.inl ⟨36, 1, _, TX2, 3, rfl, rfl, rfl⟩) (fun u106 => [.int u106]) (fun u106 => w_X5 X) rfl rfl rfl rfl rfl (Nat.le_of_ble_eq_true rfl) ⟨(Nat.le_of_ble_eq_true rfl), (Nat.le_of_ble_eq_true rfl)⟩ ⟨Nat.zero_le _, Nat.zero_le _⟩ dX5_copy_33 (fun _ => rfl) (fun _ => rfl) (fun _ => rfl) (fun u106 => ?_)
      refine r_if_ne C 47 dX5_copy_36 (by decide) (fun h36 => ?_) (fun h36 => ?_)
      · refine r_aload C 0 dX5_copy_39 rfl ?_
        refine r_callV C (o_X2_isMissing l (X (6 + 3))) v_X2_isMissing m_577 [38, 39] [] [] (88) (Or.inl ⟨38, 1, _, TX2, 3, rfl, rfl, rfl⟩) (fun u108 => [.int u108]) (fun u108 => w_X5 X) rfl rfl rfl rfl rfl (Nat.le_of_ble_eq_true rfl) ⟨(Nat.le_of_ble_eq_true rfl), (Nat.le_of_ble_eq_true rfl)⟩ ⟨Nat.zero_le _, Nat.zero_le _⟩ dX5_copy_41 (fun _ => rfl) (fun _ => rfl) (fun _ => rfl) (fun u108 => ?_)
        refine r_if_eq C 54 dX5_copy_44 (by decide) (fun h44 => ?_) (fun h44 => ?_)
        · refine r_aload C 1 dX5_copy_54 rfl ?_
          refine r_get C 36 0 dX5_copy_56 K_X2 rfl rfl (Nat.le_of_ble_eq_true rfl) rfl m_162 rfl ?_
          refine r_aload C 0 dX5_copy_59 rfl ?_
          refine r_get C 38 0 dX5_copy_61 K_X2 rfl rfl (Nat.le_of_ble_eq_true rfl) rfl m_162 rfl ?_
          refine r_icmp_eq C 75 dX5_copy_64 (by decide) (fun h64 => ?_) (fun h64 => ?_)
          · refine r_aload C 1 dX5_copy_75 rfl ?_
            refine r_iload_n C 4 dX5_copy_77 rfl ?_
            refine r_iload C 7 dX5_copy_78 rfl ?_
            refine r_callV C (o_X2_isStretch l (X (6 + 2)) a2 a5) v_X2_isStretch m_858 [36, 37] [.int a2, .int a5] [] (86) (Or.inl ⟨36, 1, _, TX2, 3, rfl, rfl, rfl⟩) (fun u109 => [.int u109]) (fun u109 => w_X5 X) rfl rfl rfl rfl rfl (Nat.le_of_ble_eq_true rfl) ⟨(Nat.le_of_ble_eq_true rfl), (Nat.le_of_ble_eq_true rfl)⟩ ⟨Nat.zero_le _, Nat.zero_le _⟩ dX5_copy_80 (fun _ => rfl) (fun _ => rfl) (fun _ => rfl) (fun u109 => ?_)
            refine r_if_eq C 98 dX5_copy_83 (by decide) (fun h83 => ?_) (fun h83 => ?_)
            · refine r_aload_n C 2 dX5_copy_98 rfl ?_
              refine r_ldc C (-1000001) dX5_copy_99 m_206 ?_
              refine r_callV0 C (o_X5_finding l X (-1000001 : Int32)) v_X5_finding m_207 [.int (-1000001 : Int32)] [] (50) (Or.inl ⟨0, 4, _, TX5, 8, rfl, rfl, rfl⟩) (fun u110 => [.int u110.1]) (fun u110 => w_X5 u110.2) rfl rfl rfl (Nat.le_of_ble_eq_true rfl) ⟨(Nat.le_of_ble_eq_true rfl), (Nat.le_of_ble_eq_true rfl)⟩ ⟨Nat.zero_le _, Nat.zero_le _⟩ dX5_copy_101 (fun _ => rfl) (fun _ => rfl) (fun _ => rfl) (fun u110 => ?_)
              exact r_reti (x := u110.1) (rv := (fun u => some (.int u.1))) (hpE := (fun u => w_X5 u.2)) (t0 := (u110.1, u110.2)) C dX5_copy_104 (by rfl) (by rfl) (by rfl)
            · refine r_aload C 0 dX5_copy_86 rfl ?_
              refine r_iload C 6 dX5_copy_88 rfl ?_
              refine r_iload C 7 dX5_copy_90 rfl ?_
              refine r_callV C (o_X2_isStretch l (X (6 + 3)) a4 a5) v_X2_isStretch m_858 [38, 39] [.int a4, .int a5] [] (88) (Or.inl ⟨38, 1, _, TX2, 3, rfl, rfl, rfl⟩) (fun u111 => [.int u111]) (fun u111 => w_X5 X) rfl rfl rfl rfl rfl (Nat.le_of_ble_eq_true rfl) ⟨(Nat.le_of_ble_eq_true rfl), (Nat.le_of_ble_eq_true rfl)⟩ ⟨Nat.zero_le _, Nat.zero_le _⟩ dX5_copy_92 (fun _ => rfl) (fun _ => rfl) (fun _ => rfl) (fun u111 => ?_)
              refine r_if_ne C 105 dX5_copy_95 (by decide) (fun h95 => ?_) (fun h95 => ?_)
              · refine r_aload_n C 2 dX5_copy_98 rfl ?_
                refine r_ldc C (-1000001) dX5_copy_99 m_206 ?_
                refine r_callV0 C (o_X5_finding l X (-1000001 : Int32)) v_X5_finding m_207 [.int (-1000001 : Int32)] [] (50) (Or.inl ⟨0, 4, _, TX5, 8, rfl, rfl, rfl⟩) (fun u112 => [.int u112.1]) (fun u112 => w_X5 u112.2) rfl rfl rfl (Nat.le_of_ble_eq_true rfl) ⟨(Nat.le_of_ble_eq_true rfl), (Nat.le_of_ble_eq_true rfl)⟩ ⟨Nat.zero_le _, Nat.zero_le _⟩ dX5_copy_101 (fun _ => rfl) (fun _ => rfl) (fun _ => rfl) (fun u112 => ?_)
                exact r_reti (x := u112.1) (rv := (fun u => some (.int u.1))) (hpE := (fun u => w_X5 u.2)) (t0 := (u112.1, u112.2)) C dX5_copy_104 (by rfl) (by rfl) (by rfl)
              · refine r_aload C 1 dX5_copy_105 rfl ?_
                refine r_get C 36 2 dX5_copy_107 K_X2 rfl rfl (Nat.le_of_ble_eq_true rfl) rfl m_166 rfl ?_
                refine r_iload_n C 4 dX5_copy_110 rfl ?_
                refine r_aload C 0 dX5_copy_111 rfl ?_
                refine r_get C 38 2 dX5_copy_113 K_X2 rfl rfl (Nat.le_of_ble_eq_true rfl) rfl m_166 rfl ?_
                refine r_iload C 6 dX5_copy_116 rfl ?_
                refine r_iload C 7 dX5_copy_118 rfl ?_
                refine r_copy C 37 39 _ dX5_copy_120 m_862 m_507 m_506 m_10 rfl rfl rfl rfl (Nat.le_of_ble_eq_true rfl) (Nat.le_of_ble_eq_true rfl) rfl ?_
                refine r_iload C 7 dX5_copy_123 rfl ?_
                exact r_reti (x := a5) (rv := (fun u => some (.int u.1))) (hpE := (fun u => w_X5 u.2)) (t0 := (a5, (va_up X (6 + 3) ((X (6 + 3)).1, (va_up (X (6 + 3)).2 2 (va_cpy ((X (6 + 2)).2 2) ((X (6 + 3)).2 2) a2.toNatClampNeg a4.toNatClampNeg a5.toNatClampNeg)))))) C dX5_copy_125 (by rfl) (by rfl) (by rfl)
          · refine r_aload_n C 2 dX5_copy_67 rfl ?_
            refine r_ldcw C (-1000003) dX5_copy_68 m_830 ?_
            refine r_callV0 C (o_X5_finding l X (-1000003 : Int32)) v_X5_finding m_207 [.int (-1000003 : Int32)] [] (50) (Or.inl ⟨0, 4, _, TX5, 8, rfl, rfl, rfl⟩) (fun u113 => [.int u113.1]) (fun u113 => w_X5 u113.2) rfl rfl rfl (Nat.le_of_ble_eq_true rfl) ⟨(Nat.le_of_ble_eq_true rfl), (Nat.le_of_ble_eq_true rfl)⟩ ⟨Nat.zero_le _, Nat.zero_le _⟩ dX5_copy_71 (fun _ => rfl) (fun _ => rfl) (fun _ => rfl) (fun u113 => ?_)
            exact r_reti (x := u113.1) (rv := (fun u => some (.int u.1))) (hpE := (fun u => w_X5 u.2)) (t0 := (u113.1, u113.2)) C dX5_copy_74 (by rfl) (by rfl) (by rfl)
        · refine r_aload_n C 2 dX5_copy_47 rfl ?_
          refine r_ldc C (-1000006) dX5_copy_48 m_581 ?_
          refine r_callV0 C (o_X5_finding l X (-1000006 : Int32)) v_X5_finding m_207 [.int (-1000006 : Int32)] [] (50) (Or.inl ⟨0, 4, _, TX5, 8, rfl, rfl, rfl⟩) (fun u114 => [.int u114.1]) (fun u114 => w_X5 u114.2) rfl rfl rfl (Nat.le_of_ble_eq_true rfl) ⟨(Nat.le_of_ble_eq_true rfl), (Nat.le_of_ble_eq_true rfl)⟩ ⟨Nat.zero_le _, Nat.zero_le _⟩ dX5_copy_50 (fun _ => rfl) (fun _ => rfl) (fun _ => rfl) (fun u114 => ?_)
          exact r_reti (x := u114.1) (rv := (fun u => some (.int u.1))) (hpE := (fun u => w_X5 u.2)) (t0 := (u114.1, u114.2)) C dX5_copy_53 (by rfl) (by rfl) (by rfl)
      · refine r_aload_n C 2 dX5_copy_47 rfl ?_
        refine r_ldc C (-1000006) dX5_copy_48 m_581 ?_
        refine r_callV0 C (o_X5_finding l X (-1000006 : Int32)) v_X5_finding m_207 [.int (-1000006 : Int32)] [] (50) (Or.inl ⟨0, 4, _, TX5, 8, rfl, rfl, rfl⟩) (fun u107 => [.int u107.1]) (fun u107 => w_X5 u107.2) rfl rfl rfl (Nat.le_of_ble_eq_true rfl) ⟨(Nat.le_of_ble_eq_true rfl), (Nat.le_of_ble_eq_true rfl)⟩ ⟨Nat.zero_le _, Nat.zero_le _⟩ dX5_copy_50 (fun _ => rfl) (fun _ => rfl) (fun _ => rfl) (fun u107 => ?_)
        exact r_reti (x := u107.1) (rv := (fun u => some (.int u.1))) (hpE := (fun u => w_X5 u.2)) (t0 := (u107.1, u107.2)) C dX5_copy_53 (by rfl) (by rfl) (by rfl)
    · refine r_astoreN C [(7, .null), (6, .ref 86), (0, .ref 50), (1, .int a1), (2, .int a2), (3, .int a3), (4, .int a4), (5, .int a5)] dX5_copy_12 (Nat.le_of_ble_eq_true rfl) rfl ?_
      refine r_aload C 1 dX5_copy_14 rfl ?_
      refine r_cut (if_pos (by decide)) ?_
      refine r_ifnull_f C dX5_copy_16 ?_
      refine r_aloadN C 0 dX5_copy_19 rfl ?_
      refine r_cut (if_neg (by omega)) ?_
      refine r_ifnonnull_f C dX5_copy_21 ?_
      refine r_aload_n C 2 dX5_copy_24 rfl ?_
      refine r_ldc C (-1000001) dX5_copy_25 m_206 ?_
      refine r_callV0 C (o_X5_finding l X (-1000001 : Int32)) v_X5_finding m_207 [.int (-1000001 : Int32)] [] (50) (Or.inl ⟨0, 4, _, TX5, 8, rfl, rfl, rfl⟩) (fun u115 => [.int u115.1]) (fun u115 => w_X5 u115.2) rfl rfl rfl (Nat.le_of_ble_eq_true rfl) ⟨(Nat.le_of_ble_eq_true rfl), (Nat.le_of_ble_eq_true rfl)⟩ ⟨Nat.zero_le _, Nat.zero_le _⟩ dX5_copy_27 (fun _ => rfl) (fun _ => rfl) (fun _ => rfl) (fun u115 => ?_)
      exact r_reti (x := u115.1) (rv := (fun u => some (.int u.1))) (hpE := (fun u => w_X5 u.2)) (t0 := (u115.1, u115.2)) C dX5_copy_30 (by rfl) (by rfl) (by rfl)
  · refine r_astore C [(6, .ref 88), (0, .ref 50), (1, .int a1), (2, .int a2), (3, .int a3), (4, .int a4), (5, .int a5)] dX5_copy_5 (Nat.le_of_ble_eq_true rfl) rfl ?_
    refine r_aload_n C 1 dX5_copy_7 rfl ?_
    refine r_iload_n C 4 dX5_copy_8 rfl ?_
    refine r_callV0 C (o_X5_sheetAt l X a3) v_X5_sheetAt m_573 [.int a3] [] (50) (Or.inl ⟨0, 4, _, TX5, 8, rfl, rfl, rfl⟩) (fun u116 => va_rf (q_sf u116) :: []) (fun u116 => w_X5 X) rfl rfl rfl (Nat.le_of_ble_eq_true rfl) ⟨(Nat.le_of_ble_eq_true rfl), (Nat.le_of_ble_eq_true rfl)⟩ ⟨Nat.zero_le _, Nat.zero_le _⟩ dX5_copy_9 (fun _ => rfl) (fun _ => rfl) (fun _ => rfl) (q_case4 ?_ ?_ ?_ ?_ (fun u116 => ?_))
    · refine r_astore C [(7, .ref 82), (6, .ref 88), (0, .ref 50), (1, .int a1), (2, .int a2), (3, .int a3), (4, .int a4), (5, .int a5)] dX5_copy_12 (Nat.le_of_ble_eq_true rfl) rfl ?_
      refine r_aload C 1 dX5_copy_14 rfl ?_
      refine r_cut (if_pos (by decide)) ?_
      refine r_ifnull_f C dX5_copy_16 ?_
      refine r_aload C 0 dX5_copy_19 rfl ?_
      refine r_cut (if_pos (by decide)) ?_
      refine r_ifnonnull_t C 31 dX5_copy_21 (by decide) ?_
      refine r_aload C 1 dX5_copy_31 rfl ?_
      refine r_callV C (o_X2_isMissing l (X (6 + 3))) v_X2_isMissing m_577 [38, 39] [] [] (88) (Or.inl ⟨38, 1, _, TX2, 3, rfl, rfl, rfl⟩) (fun u117 => [.int u117]) (fun u117 => w_X5 X) rfl rfl rfl rfl rfl (Nat.le_of_ble_eq_true rfl) ⟨(Nat.le_of_ble_eq_true rfl), (Nat.le_of_ble_eq_true rfl)⟩ ⟨Nat.zero_le _, Nat.zero_le _⟩ dX5_copy_33 (fun _ => rfl) (fun _ => rfl) (fun _ => rfl) (fun u117 => ?_)
      refine r_if_ne C 47 dX5_copy_36 (by decide) (fun h36 => ?_) (fun h36 => ?_)
      · refine r_aload C 0 dX5_copy_39 rfl ?_
        refine r_callV C (o_X2_isMissing l (X (6 + 0))) v_X2_isMissing m_577 [32, 33] [] [] (82) (Or.inl ⟨32, 1, _, TX2, 3, rfl, rfl, rfl⟩) (fun u119 => [.int u119]) (fun u119 => w_X5 X) rfl rfl rfl rfl rfl (Nat.le_of_ble_eq_true rfl) ⟨(Nat.le_of_ble_eq_true rfl), (Nat.le_of_ble_eq_true rfl)⟩ ⟨Nat.zero_le _, Nat.zero_le _⟩ dX5_copy_41 (fun _ => rfl) (fun _ => rfl) (fun _ => rfl) (fun u119 => ?_)
        refine r_if_eq C 54 dX5_copy_44 (by decide) (fun h44 => ?_) (fun h44 => ?_)
        · refine r_aload C 1 dX5_copy_54 rfl ?_
          refine r_get C 38 0 dX5_copy_56 K_X2 rfl rfl (Nat.le_of_ble_eq_true rfl) rfl m_162 rfl ?_
          refine r_aload C 0 dX5_copy_59 rfl ?_
          refine r_get C 32 0 dX5_copy_61 K_X2 rfl rfl (Nat.le_of_ble_eq_true rfl) rfl m_162 rfl ?_
          refine r_icmp_eq C 75 dX5_copy_64 (by decide) (fun h64 => ?_) (fun h64 => ?_)
          · refine r_aload C 1 dX5_copy_75 rfl ?_
            refine r_iload_n C 4 dX5_copy_77 rfl ?_
            refine r_iload C 7 dX5_copy_78 rfl ?_
            refine r_callV C (o_X2_isStretch l (X (6 + 3)) a2 a5) v_X2_isStretch m_858 [38, 39] [.int a2, .int a5] [] (88) (Or.inl ⟨38, 1, _, TX2, 3, rfl, rfl, rfl⟩) (fun u120 => [.int u120]) (fun u120 => w_X5 X) rfl rfl rfl rfl rfl (Nat.le_of_ble_eq_true rfl) ⟨(Nat.le_of_ble_eq_true rfl), (Nat.le_of_ble_eq_true rfl)⟩ ⟨Nat.zero_le _, Nat.zero_le _⟩ dX5_copy_80 (fun _ => rfl) (fun _ => rfl) (fun _ => rfl) (fun u120 => ?_)
            refine r_if_eq C 98 dX5_copy_83 (by decide) (fun h83 => ?_) (fun h83 => ?_)
            · refine r_aload_n C 2 dX5_copy_98 rfl ?_
              refine r_ldc C (-1000001) dX5_copy_99 m_206 ?_
              refine r_callV0 C (o_X5_finding l X (-1000001 : Int32)) v_X5_finding m_207 [.int (-1000001 : Int32)] [] (50) (Or.inl ⟨0, 4, _, TX5, 8, rfl, rfl, rfl⟩) (fun u121 => [.int u121.1]) (fun u121 => w_X5 u121.2) rfl rfl rfl (Nat.le_of_ble_eq_true rfl) ⟨(Nat.le_of_ble_eq_true rfl), (Nat.le_of_ble_eq_true rfl)⟩ ⟨Nat.zero_le _, Nat.zero_le _⟩ dX5_copy_101 (fun _ => rfl) (fun _ => rfl) (fun _ => rfl) (fun u121 => ?_)
              exact r_reti (x := u121.1) (rv := (fun u => some (.int u.1))) (hpE := (fun u => w_X5 u.2)) (t0 := (u121.1, u121.2)) C dX5_copy_104 (by rfl) (by rfl) (by rfl)
            · refine r_aload C 0 dX5_copy_86 rfl ?_
              refine r_iload C 6 dX5_copy_88 rfl ?_
              refine r_iload C 7 dX5_copy_90 rfl ?_
              refine r_callV C (o_X2_isStretch l (X (6 + 0)) a4 a5) v_X2_isStretch m_858 [32, 33] [.int a4, .int a5] [] (82) (Or.inl ⟨32, 1, _, TX2, 3, rfl, rfl, rfl⟩) (fun u122 => [.int u122]) (fun u122 => w_X5 X) rfl rfl rfl rfl rfl (Nat.le_of_ble_eq_true rfl) ⟨(Nat.le_of_ble_eq_true rfl), (Nat.le_of_ble_eq_true rfl)⟩ ⟨Nat.zero_le _, Nat.zero_le _⟩ dX5_copy_92 (fun _ => rfl) (fun _ => rfl) (fun _ => rfl) (fun u122 => ?_)
              refine r_if_ne C 105 dX5_copy_95 (by decide) (fun h95 => ?_) (fun h95 => ?_)
              · refine r_aload_n C 2 dX5_copy_98 rfl ?_
                refine r_ldc C (-1000001) dX5_copy_99 m_206 ?_
                refine r_callV0 C (o_X5_finding l X (-1000001 : Int32)) v_X5_finding m_207 [.int (-1000001 : Int32)] [] (50) (Or.inl ⟨0, 4, _, TX5, 8, rfl, rfl, rfl⟩) (fun u123 => [.int u123.1]) (fun u123 => w_X5 u123.2) rfl rfl rfl (Nat.le_of_ble_eq_true rfl) ⟨(Nat.le_of_ble_eq_true rfl), (Nat.le_of_ble_eq_true rfl)⟩ ⟨Nat.zero_le _, Nat.zero_le _⟩ dX5_copy_101 (fun _ => rfl) (fun _ => rfl) (fun _ => rfl) (fun u123 => ?_)
                exact r_reti (x := u123.1) (rv := (fun u => some (.int u.1))) (hpE := (fun u => w_X5 u.2)) (t0 := (u123.1, u123.2)) C dX5_copy_104 (by rfl) (by rfl) (by rfl)
              · refine r_aload C 1 dX5_copy_105 rfl ?_
                refine r_get C 38 2 dX5_copy_107 K_X2 rfl rfl (Nat.le_of_ble_eq_true rfl) rfl m_166 rfl ?_
                refine r_iload_n C 4 dX5_copy_110 rfl ?_
                refine r_aload C 0 dX5_copy_111 rfl ?_
                refine r_get C 32 2 dX5_copy_113 K_X2 rfl rfl (Nat.le_of_ble_eq_true rfl) rfl m_166 rfl ?_
                refine r_iload C 6 dX5_copy_116 rfl ?_
                refine r_iload C 7 dX5_copy_118 rfl ?_
                refine r_copy C 39 33 _ dX5_copy_120 m_862 m_507 m_506 m_10 rfl rfl rfl rfl (Nat.le_of_ble_eq_true rfl) (Nat.le_of_ble_eq_true rfl) rfl ?_
                refine r_iload C 7 dX5_copy_123 rfl ?_
                exact r_reti (x := a5) (rv := (fun u => some (.int u.1))) (hpE := (fun u => w_X5 u.2)) (t0 := (a5, (va_up X (6 + 0) ((X (6 + 0)).1, (va_up (X (6 + 0)).2 2 (va_cpy ((X (6 + 3)).2 2) ((X (6 + 0)).2 2) a2.toNatClampNeg a4.toNatClampNeg a5.toNatClampNeg)))))) C dX5_copy_125 (by rfl) (by rfl) (by rfl)
          · refine r_aload_n C 2 dX5_copy_67 rfl ?_
            refine r_ldcw C (-1000003) dX5_copy_68 m_830 ?_
            refine r_callV0 C (o_X5_finding l X (-1000003 : Int32)) v_X5_finding m_207 [.int (-1000003 : Int32)] [] (50) (Or.inl ⟨0, 4, _, TX5, 8, rfl, rfl, rfl⟩) (fun u124 => [.int u124.1]) (fun u124 => w_X5 u124.2) rfl rfl rfl (Nat.le_of_ble_eq_true rfl) ⟨(Nat.le_of_ble_eq_true rfl), (Nat.le_of_ble_eq_true rfl)⟩ ⟨Nat.zero_le _, Nat.zero_le _⟩ dX5_copy_71 (fun _ => rfl) (fun _ => rfl) (fun _ => rfl) (fun u124 => ?_)
            exact r_reti (x := u124.1) (rv := (fun u => some (.int u.1))) (hpE := (fun u => w_X5 u.2)) (t0 := (u124.1, u124.2)) C dX5_copy_74 (by rfl) (by rfl) (by rfl)
        · refine r_aload_n C 2 dX5_copy_47 rfl ?_
          refine r_ldc C (-1000006) dX5_copy_48 m_581 ?_
          refine r_callV0 C (o_X5_finding l X (-1000006 : Int32)) v_X5_finding m_207 [.int (-1000006 : Int32)] [] (50) (Or.inl ⟨0, 4, _, TX5, 8, rfl, rfl, rfl⟩) (fun u125 => [.int u125.1]) (fun u125 => w_X5 u125.2) rfl rfl rfl (Nat.le_of_ble_eq_true rfl) ⟨(Nat.le_of_ble_eq_true rfl), (Nat.le_of_ble_eq_true rfl)⟩ ⟨Nat.zero_le _, Nat.zero_le _⟩ dX5_copy_50 (fun _ => rfl) (fun _ => rfl) (fun _ => rfl) (fun u125 => ?_)
          exact r_reti (x := u125.1) (rv := (fun u => some (.int u.1))) (hpE := (fun u => w_X5 u.2)) (t0 := (u125.1, u125.2)) C dX5_copy_53 (by rfl) (by rfl) (by rfl)
      · refine r_aload_n C 2 dX5_copy_47 rfl ?_
        refine r_ldc C (-1000006) dX5_copy_48 m_581 ?_
        refine r_callV0 C (o_X5_finding l X (-1000006 : Int32)) v_X5_finding m_207 [.int (-1000006 : Int32)] [] (50) (Or.inl ⟨0, 4, _, TX5, 8, rfl, rfl, rfl⟩) (fun u118 => [.int u118.1]) (fun u118 => w_X5 u118.2) rfl rfl rfl (Nat.le_of_ble_eq_true rfl) ⟨(Nat.le_of_ble_eq_true rfl), (Nat.le_of_ble_eq_true rfl)⟩ ⟨Nat.zero_le _, Nat.zero_le _⟩ dX5_copy_50 (fun _ => rfl) (fun _ => rfl) (fun _ => rfl) (fun u118 => ?_)
        exact r_reti (x := u118.1) (rv := (fun u => some (.int u.1))) (hpE := (fun u => w_X5 u.2)) (t0 := (u118.1, u118.2)) C dX5_copy_53 (by rfl) (by rfl) (by rfl)
    · refine r_astore C [(7, .ref 84), (6, .ref 88), (0, .ref 50), (1, .int a1), (2, .int a2), (3, .int a3), (4, .int a4), (5, .int a5)] dX5_copy_12 (Nat.le_of_ble_eq_true rfl) rfl ?_
      refine r_aload C 1 dX5_copy_14 rfl ?_
      refine r_cut (if_pos (by decide)) ?_
      refine r_ifnull_f C dX5_copy_16 ?_
      refine r_aload C 0 dX5_copy_19 rfl ?_
      refine r_cut (if_pos (by decide)) ?_
      refine r_ifnonnull_t C 31 dX5_copy_21 (by decide) ?_
      refine r_aload C 1 dX5_copy_31 rfl ?_
      refine r_callV C (o_X2_isMissing l (X (6 + 3))) v_X2_isMissing m_577 [38, 39] [] [] (88) (Or.inl ⟨38, 1, _, TX2, 3, rfl, rfl, rfl⟩) (fun u126 => [.int u126]) (fun u126 => w_X5 X) rfl rfl rfl rfl rfl (Nat.le_of_ble_eq_true rfl) ⟨(Nat.le_of_ble_eq_true rfl), (Nat.le_of_ble_eq_true rfl)⟩ ⟨Nat.zero_le _, Nat.zero_le _⟩ dX5_copy_33 (fun _ => rfl) (fun _ => rfl) (fun _ => rfl) (fun u126 => ?_)
      refine r_if_ne C 47 dX5_copy_36 (by decide) (fun h36 => ?_) (fun h36 => ?_)
      · refine r_aload C 0 dX5_copy_39 rfl ?_
        refine r_callV C (o_X2_isMissing l (X (6 + 1))) v_X2_isMissing m_577 [34, 35] [] [] (84) (Or.inl ⟨34, 1, _, TX2, 3, rfl, rfl, rfl⟩) (fun u128 => [.int u128]) (fun u128 => w_X5 X) rfl rfl rfl rfl rfl (Nat.le_of_ble_eq_true rfl) ⟨(Nat.le_of_ble_eq_true rfl), (Nat.le_of_ble_eq_true rfl)⟩ ⟨Nat.zero_le _, Nat.zero_le _⟩ dX5_copy_41 (fun _ => rfl) (fun _ => rfl) (fun _ => rfl) (fun u128 => ?_)
        refine r_if_eq C 54 dX5_copy_44 (by decide) (fun h44 => ?_) (fun h44 => ?_)
        · refine r_aload C 1 dX5_copy_54 rfl ?_
          refine r_get C 38 0 dX5_copy_56 K_X2 rfl rfl (Nat.le_of_ble_eq_true rfl) rfl m_162 rfl ?_
          refine r_aload C 0 dX5_copy_59 rfl ?_
          refine r_get C 34 0 dX5_copy_61 K_X2 rfl rfl (Nat.le_of_ble_eq_true rfl) rfl m_162 rfl ?_
          refine r_icmp_eq C 75 dX5_copy_64 (by decide) (fun h64 => ?_) (fun h64 => ?_)
          · refine r_aload C 1 dX5_copy_75 rfl ?_
            refine r_iload_n C 4 dX5_copy_77 rfl ?_
            refine r_iload C 7 dX5_copy_78 rfl ?_
            refine r_callV C (o_X2_isStretch l (X (6 + 3)) a2 a5) v_X2_isStretch m_858 [38, 39] [.int a2, .int a5] [] (88) (Or.inl ⟨38, 1, _, TX2, 3, rfl, rfl, rfl⟩) (fun u129 => [.int u129]) (fun u129 => w_X5 X) rfl rfl rfl rfl rfl (Nat.le_of_ble_eq_true rfl) ⟨(Nat.le_of_ble_eq_true rfl), (Nat.le_of_ble_eq_true rfl)⟩ ⟨Nat.zero_le _, Nat.zero_le _⟩ dX5_copy_80 (fun _ => rfl) (fun _ => rfl) (fun _ => rfl) (fun u129 => ?_)
            refine r_if_eq C 98 dX5_copy_83 (by decide) (fun h83 => ?_) (fun h83 => ?_)
            · refine r_aload_n C 2 dX5_copy_98 rfl ?_
              refine r_ldc C (-1000001) dX5_copy_99 m_206 ?_
              refine r_callV0 C (o_X5_finding l X (-1000001 : Int32)) v_X5_finding m_207 [.int (-1000001 : Int32)] [] (50) (Or.inl ⟨0, 4, _, TX5, 8, rfl, rfl, rfl⟩) (fun u130 => [.int u130.1]) (fun u130 => w_X5 u130.2) rfl rfl rfl (Nat.le_of_ble_eq_true rfl) ⟨(Nat.le_of_ble_eq_true rfl), (Nat.le_of_ble_eq_true rfl)⟩ ⟨Nat.zero_le _, Nat.zero_le _⟩ dX5_copy_101 (fun _ => rfl) (fun _ => rfl) (fun _ => rfl) (fun u130 => ?_)
              exact r_reti (x := u130.1) (rv := (fun u => some (.int u.1))) (hpE := (fun u => w_X5 u.2)) (t0 := (u130.1, u130.2)) C dX5_copy_104 (by rfl) (by rfl) (by rfl)
            · refine r_aload C 0 dX5_copy_86 rfl ?_
              refine r_iload C 6 dX5_copy_88 rfl ?_
              refine r_iload C 7 dX5_copy_90 rfl ?_
              refine r_callV C (o_X2_isStretch l (X (6 + 1)) a4 a5) v_X2_isStretch m_858 [34, 35] [.int a4, .int a5] [] (84) (Or.inl ⟨34, 1, _, TX2, 3, rfl, rfl, rfl⟩) (fun u131 => [.int u131]) (fun u131 => w_X5 X) rfl rfl rfl rfl rfl (Nat.le_of_ble_eq_true rfl) ⟨(Nat.le_of_ble_eq_true rfl), (Nat.le_of_ble_eq_true rfl)⟩ ⟨Nat.zero_le _, Nat.zero_le _⟩ dX5_copy_92 (fun _ => rfl) (fun _ => rfl) (fun _ => rfl) (fun u131 => ?_)
              refine r_if_ne C 105 dX5_copy_95 (by decide) (fun h95 => ?_) (fun h95 => ?_)
              · refine r_aload_n C 2 dX5_copy_98 rfl ?_
                refine r_ldc C (-1000001) dX5_copy_99 m_206 ?_
                refine r_callV0 C (o_X5_finding l X (-1000001 : Int32)) v_X5_finding m_207 [.int (-1000001 : Int32)] [] (50) (Or.inl ⟨0, 4, _, TX5, 8, rfl, rfl, rfl⟩) (fun u132 => [.int u132.1]) (fun u132 => w_X5 u132.2) rfl rfl rfl (Nat.le_of_ble_eq_true rfl) ⟨(Nat.le_of_ble_eq_true rfl), (Nat.le_of_ble_eq_true rfl)⟩ ⟨Nat.zero_le _, Nat.zero_le _⟩ dX5_copy_101 (fun _ => rfl) (fun _ => rfl) (fun _ => rfl) (fun u132 => ?_)
                exact r_reti (x := u132.1) (rv := (fun u => some (.int u.1))) (hpE := (fun u => w_X5 u.2)) (t0 := (u132.1, u132.2)) C dX5_copy_104 (by rfl) (by rfl) (by rfl)
              · refine r_aload C 1 dX5_copy_105 rfl ?_
                refine r_get C 38 2 dX5_copy_107 K_X2 rfl rfl (Nat.le_of_ble_eq_true rfl) rfl m_166 rfl ?_
                refine r_iload_n C 4 dX5_copy_110 rfl ?_
                refine r_aload C 0 dX5_copy_111 rfl ?_
                refine r_get C 34 2 dX5_copy_113 K_X2 rfl rfl (Nat.le_of_ble_eq_true rfl) rfl m_166 rfl ?_
                refine r_iload C 6 dX5_copy_116 rfl ?_
                refine r_iload C 7 dX5_copy_118 rfl ?_
                refine r_copy C 39 35 _ dX5_copy_120 m_862 m_507 m_506 m_10 rfl rfl rfl rfl (Nat.le_of_ble_eq_true rfl) (Nat.le_of_ble_eq_true rfl) rfl ?_
                refine r_iload C 7 dX5_copy_123 rfl ?_
                exact r_reti (x := a5) (rv := (fun u => some (.int u.1))) (hpE := (fun u => w_X5 u.2)) (t0 := (a5, (va_up X (6 + 1) ((X (6 + 1)).1, (va_up (X (6 + 1)).2 2 (va_cpy ((X (6 + 3)).2 2) ((X (6 + 1)).2 2) a2.toNatClampNeg a4.toNatClampNeg a5.toNatClampNeg)))))) C dX5_copy_125 (by rfl) (by rfl) (by rfl)
          · refine r_aload_n C 2 dX5_copy_67 rfl ?_
            refine r_ldcw C (-1000003) dX5_copy_68 m_830 ?_
            refine r_callV0 C (o_X5_finding l X (-1000003 : Int32)) v_X5_finding m_207 [.int (-1000003 : Int32)] [] (50) (Or.inl ⟨0, 4, _, TX5, 8, rfl, rfl, rfl⟩) (fun u133 => [.int u133.1]) (fun u133 => w_X5 u133.2) rfl rfl rfl (Nat.le_of_ble_eq_true rfl) ⟨(Nat.le_of_ble_eq_true rfl), (Nat.le_of_ble_eq_true rfl)⟩ ⟨Nat.zero_le _, Nat.zero_le _⟩ dX5_copy_71 (fun _ => rfl) (fun _ => rfl) (fun _ => rfl) (fun u133 => ?_)
            exact r_reti (x := u133.1) (rv := (fun u => some (.int u.1))) (hpE := (fun u => w_X5 u.2)) (t0 := (u133.1, u133.2)) C dX5_copy_74 (by rfl) (by rfl) (by rfl)
        · refine r_aload_n C 2 dX5_copy_47 rfl ?_
          refine r_ldc C (-1000006) dX5_copy_48 m_581 ?_
          refine r_callV0 C (o_X5_finding l X (-1000006 : Int32)) v_X5_finding m_207 [.int (-1000006 : Int32)] [] (50) (Or.inl ⟨0, 4, _, TX5, 8, rfl, rfl, rfl⟩) (fun u134 => [.int u134.1]) (fun u134 => w_X5 u134.2) rfl rfl rfl (Nat.le_of_ble_eq_true rfl) ⟨(Nat.le_of_ble_eq_true rfl), (Nat.le_of_ble_eq_true rfl)⟩ ⟨Nat.zero_le _, Nat.zero_le _⟩ dX5_copy_50 (fun _ => rfl) (fun _ => rfl) (fun _ => rfl) (fun u134 => ?_)
          exact r_reti (x := u134.1) (rv := (fun u => some (.int u.1))) (hpE := (fun u => w_X5 u.2)) (t0 := (u134.1, u134.2)) C dX5_copy_53 (by rfl) (by rfl) (by rfl)
      · refine r_aload_n C 2 dX5_copy_47 rfl ?_
        refine r_ldc C (-1000006) dX5_copy_48 m_581 ?_
        refine r_callV0 C (o_X5_finding l X (-1000006 : Int32)) v_X5_finding m_207 [.int (-1000006 : Int32)] [] (50) (Or.inl ⟨0, 4, _, TX5, 8, rfl, rfl, rfl⟩) (fun u127 => [.int u127.1]) (fun u127 => w_X5 u127.2) rfl rfl rfl (Nat.le_of_ble_eq_true rfl) ⟨(Nat.le_of_ble_eq_true rfl), (Nat.le_of_ble_eq_true rfl)⟩ ⟨Nat.zero_le _, Nat.zero_le _⟩ dX5_copy_50 (fun _ => rfl) (fun _ => rfl) (fun _ => rfl) (fun u127 => ?_)
        exact r_reti (x := u127.1) (rv := (fun u => some (.int u.1))) (hpE := (fun u => w_X5 u.2)) (t0 := (u127.1, u127.2)) C dX5_copy_53 (by rfl) (by rfl) (by rfl)
    · refine r_astore C [(7, .ref 86), (6, .ref 88), (0, .ref 50), (1, .int a1), (2, .int a2), (3, .int a3), (4, .int a4), (5, .int a5)] dX5_copy_12 (Nat.le_of_ble_eq_true rfl) rfl ?_
      refine r_aload C 1 dX5_copy_14 rfl ?_
      refine r_cut (if_pos (by decide)) ?_
      refine r_ifnull_f C dX5_copy_16 ?_
      refine r_aload C 0 dX5_copy_19 rfl ?_
      refine r_cut (if_pos (by decide)) ?_
      refine r_ifnonnull_t C 31 dX5_copy_21 (by decide) ?_
      refine r_aload C 1 dX5_copy_31 rfl ?_
      refine r_callV C (o_X2_isMissing l (X (6 + 3))) v_X2_isMissing m_577 [38, 39] [] [] (88) (Or.inl ⟨38, 1, _, TX2, 3, rfl, rfl, rfl⟩) (fun u135 => [.int u135]) (fun u135 => w_X5 X) rfl rfl rfl rfl rfl (Nat.le_of_ble_eq_true rfl) ⟨(Nat.le_of_ble_eq_true rfl), (Nat.le_of_ble_eq_true rfl)⟩ ⟨Nat.zero_le _, Nat.zero_le _⟩ dX5_copy_33 (fun _ => rfl) (fun _ => rfl) (fun _ => rfl) (fun u135 => ?_)
      refine r_if_ne C 47 dX5_copy_36 (by decide) (fun h36 => ?_) (fun h36 => ?_)
      · refine r_aload C 0 dX5_copy_39 rfl ?_
        refine r_callV C (o_X2_isMissing l (X (6 + 2))) v_X2_isMissing m_577 [36, 37] [] [] (86) (Or.inl ⟨36, 1, _, TX2, 3, rfl, rfl, rfl⟩) (fun u137 => [.int u137]) (fun u137 => w_X5 X) rfl rfl rfl rfl rfl (Nat.le_of_ble_eq_true rfl) ⟨(Nat.le_of_ble_eq_true rfl), (Nat.le_of_ble_eq_true rfl)⟩ ⟨Nat.zero_le _, Nat.zero_le _⟩ dX5_copy_41 (fun _ => rfl) (fun _ => rfl) (fun _ => rfl) (fun u137 => ?_)
        refine r_if_eq C 54 dX5_copy_44 (by decide) (fun h44 => ?_) (fun h44 => ?_)
        · refine r_aload C 1 dX5_copy_54 rfl ?_
          refine r_get C 38 0 dX5_copy_56 K_X2 rfl rfl (Nat.le_of_ble_eq_true rfl) rfl m_162 rfl ?_
          refine r_aload C 0 dX5_copy_59 rfl ?_
          refine r_get C 36 0 dX5_copy_61 K_X2 rfl rfl (Nat.le_of_ble_eq_true rfl) rfl m_162 rfl ?_
          refine r_icmp_eq C 75 dX5_copy_64 (by decide) (fun h64 => ?_) (fun h64 => ?_)
          · refine r_aload C 1 dX5_copy_75 rfl ?_
            refine r_iload_n C 4 dX5_copy_77 rfl ?_
            refine r_iload C 7 dX5_copy_78 rfl ?_
            refine r_callV C (o_X2_isStretch l (X (6 + 3)) a2 a5) v_X2_isStretch m_858 [38, 39] [.int a2, .int a5] [] (88) (Or.inl ⟨38, 1, _, TX2, 3, rfl, rfl, rfl⟩) (fun u138 => [.int u138]) (fun u138 => w_X5 X) rfl rfl rfl rfl rfl (Nat.le_of_ble_eq_true rfl) ⟨(Nat.le_of_ble_eq_true rfl), (Nat.le_of_ble_eq_true rfl)⟩ ⟨Nat.zero_le _, Nat.zero_le _⟩ dX5_copy_80 (fun _ => rfl) (fun _ => rfl) (fun _ => rfl) (fun u138 => ?_)
            refine r_if_eq C 98 dX5_copy_83 (by decide) (fun h83 => ?_) (fun h83 => ?_)
            · refine r_aload_n C 2 dX5_copy_98 rfl ?_
              refine r_ldc C (-1000001) dX5_copy_99 m_206 ?_
              refine r_callV0 C (o_X5_finding l X (-1000001 : Int32)) v_X5_finding m_207 [.int (-1000001 : Int32)] [] (50) (Or.inl ⟨0, 4, _, TX5, 8, rfl, rfl, rfl⟩) (fun u139 => [.int u139.1]) (fun u139 => w_X5 u139.2) rfl rfl rfl (Nat.le_of_ble_eq_true rfl) ⟨(Nat.le_of_ble_eq_true rfl), (Nat.le_of_ble_eq_true rfl)⟩ ⟨Nat.zero_le _, Nat.zero_le _⟩ dX5_copy_101 (fun _ => rfl) (fun _ => rfl) (fun _ => rfl) (fun u139 => ?_)
              exact r_reti (x := u139.1) (rv := (fun u => some (.int u.1))) (hpE := (fun u => w_X5 u.2)) (t0 := (u139.1, u139.2)) C dX5_copy_104 (by rfl) (by rfl) (by rfl)
            · refine r_aload C 0 dX5_copy_86 rfl ?_
              refine r_iload C 6 dX5_copy_88 rfl ?_
              refine r_iload C 7 dX5_copy_90 rfl ?_
              refine r_callV C (o_X2_isStretch l (X (6 + 2)) a4 a5) v_X2_isStretch m_858 [36, 37] [.int a4, .int a5] [] (86) (Or.inl ⟨36, 1, _, TX2, 3, rfl, rfl, rfl⟩) (fun u140 => [.int u140]) (fun u140 => w_X5 X) rfl rfl rfl rfl rfl (Nat.le_of_ble_eq_true rfl) ⟨(Nat.le_of_ble_eq_true rfl), (Nat.le_of_ble_eq_true rfl)⟩ ⟨Nat.zero_le _, Nat.zero_le _⟩ dX5_copy_92 (fun _ => rfl) (fun _ => rfl) (fun _ => rfl) (fun u140 => ?_)
              refine r_if_ne C 105 dX5_copy_95 (by decide) (fun h95 => ?_) (fun h95 => ?_)
              · refine r_aload_n C 2 dX5_copy_98 rfl ?_
                refine r_ldc C (-1000001) dX5_copy_99 m_206 ?_
                refine r_callV0 C (o_X5_finding l X (-1000001 : Int32)) v_X5_finding m_207 [.int (-1000001 : Int32)] [] (50) (Or.inl ⟨0, 4, _, TX5, 8, rfl, rfl, rfl⟩) (fun u141 => [.int u141.1]) (fun u141 => w_X5 u141.2) rfl rfl rfl (Nat.le_of_ble_eq_true rfl) ⟨(Nat.le_of_ble_eq_true rfl), (Nat.le_of_ble_eq_true rfl)⟩ ⟨Nat.zero_le _, Nat.zero_le _⟩ dX5_copy_101 (fun _ => rfl) (fun _ => rfl) (fun _ => rfl) (fun u141 => ?_)
                exact r_reti (x := u141.1) (rv := (fun u => some (.int u.1))) (hpE := (fun u => w_X5 u.2)) (t0 := (u141.1, u141.2)) C dX5_copy_104 (by rfl) (by rfl) (by rfl)
              · refine r_aload C 1 dX5_copy_105 rfl ?_
                refine r_get C 38 2 dX5_copy_107 K_X2 rfl rfl (Nat.le_of_ble_eq_true rfl) rfl m_166 rfl ?_
                refine r_iload_n C 4 dX5_copy_110 rfl ?_
                refine r_aload C 0 dX5_copy_111 rfl ?_
                refine r_get C 36 2 dX5_copy_113 K_X2 rfl rfl (Nat.le_of_ble_eq_true rfl) rfl m_166 rfl ?_
                refine r_iload C 6 dX5_copy_116 rfl ?_
                refine r_iload C 7 dX5_copy_118 rfl ?_
                refine r_copy C 39 37 _ dX5_copy_120 m_862 m_507 m_506 m_10 rfl rfl rfl rfl (Nat.le_of_ble_eq_true rfl) (Nat.le_of_ble_eq_true rfl) rfl ?_
                refine r_iload C 7 dX5_copy_123 rfl ?_
                exact r_reti (x := a5) (rv := (fun u => some (.int u.1))) (hpE := (fun u => w_X5 u.2)) (t0 := (a5, (va_up X (6 + 2) ((X (6 + 2)).1, (va_up (X (6 + 2)).2 2 (va_cpy ((X (6 + 3)).2 2) ((X (6 + 2)).2 2) a2.toNatClampNeg a4.toNatClampNeg a5.toNatClampNeg)))))) C dX5_copy_125 (by rfl) (by rfl) (by rfl)
          · refine r_aload_n C 2 dX5_copy_67 rfl ?_
            refine r_ldcw C (-1000003) dX5_copy_68 m_830 ?_
            refine r_callV0 C (o_X5_finding l X (-1000003 : Int32)) v_X5_finding m_207 [.int (-1000003 : Int32)] [] (50) (Or.inl ⟨0, 4, _, TX5, 8, rfl, rfl, rfl⟩) (fun u142 => [.int u142.1]) (fun u142 => w_X5 u142.2) rfl rfl rfl (Nat.le_of_ble_eq_true rfl) ⟨(Nat.le_of_ble_eq_true rfl), (Nat.le_of_ble_eq_true rfl)⟩ ⟨Nat.zero_le _, Nat.zero_le _⟩ dX5_copy_71 (fun _ => rfl) (fun _ => rfl) (fun _ => rfl) (fun u142 => ?_)
            exact r_reti (x := u142.1) (rv := (fun u => some (.int u.1))) (hpE := (fun u => w_X5 u.2)) (t0 := (u142.1, u142.2)) C dX5_copy_74 (by rfl) (by rfl) (by rfl)
        · refine r_aload_n C 2 dX5_copy_47 rfl ?_
          refine r_ldc C (-1000006) dX5_copy_48 m_581 ?_
          refine r_callV0 C (o_X5_finding l X (-1000006 : Int32)) v_X5_finding m_207 [.int (-1000006 : Int32)] [] (50) (Or.inl ⟨0, 4, _, TX5, 8, rfl, rfl, rfl⟩) (fun u143 => [.int u143.1]) (fun u143 => w_X5 u143.2) rfl rfl rfl (Nat.le_of_ble_eq_true rfl) ⟨(Nat.le_of_ble_eq_true rfl), (Nat.le_of_ble_eq_true rfl)⟩ ⟨Nat.zero_le _, Nat.zero_le _⟩ dX5_copy_50 (fun _ => rfl) (fun _ => rfl) (fun _ => rfl) (fun u143 => ?_)
          exact r_reti (x := u143.1) (rv := (fun u => some (.int u.1))) (hpE := (fun u => w_X5 u.2)) (t0 := (u143.1, u143.2)) C dX5_copy_53 (by rfl) (by rfl) (by rfl)
      · refine r_aload_n C 2 dX5_copy_47 rfl ?_
        refine r_ldc C (-1000006) dX5_copy_48 m_581 ?_
        refine r_callV0 C (o_X5_finding l X (-1000006 : Int32)) v_X5_finding m_207 [.int (-1000006 : Int32)] [] (50) (Or.inl ⟨0, 4, _, TX5, 8, rfl, rfl, rfl⟩) (fun u136 => [.int u136.1]) (fun u136 => w_X5 u136.2) rfl rfl rfl (Nat.le_of_ble_eq_true rfl) ⟨(Nat.le_of_ble_eq_true rfl), (Nat.le_of_ble_eq_true rfl)⟩ ⟨Nat.zero_le _, Nat.zero_le _⟩ dX5_copy_50 (fun _ => rfl) (fun _ => rfl) (fun _ => rfl) (fun u136 => ?_)
        exact r_reti (x := u136.1) (rv := (fun u => some (.int u.1))) (hpE := (fun u => w_X5 u.2)) (t0 := (u136.1, u136.2)) C dX5_copy_53 (by rfl) (by rfl) (by rfl)
    · refine r_astore C [(7, .ref 88), (6, .ref 88), (0, .ref 50), (1, .int a1), (2, .int a2), (3, .int a3), (4, .int a4), (5, .int a5)] dX5_copy_12 (Nat.le_of_ble_eq_true rfl) rfl ?_
      refine r_aload C 1 dX5_copy_14 rfl ?_
      refine r_cut (if_pos (by decide)) ?_
      refine r_ifnull_f C dX5_copy_16 ?_
      refine r_aload C 0 dX5_copy_19 rfl ?_
      refine r_ifnonnull_t C 31 dX5_copy_21 (by decide) ?_
      refine r_aload C 1 dX5_copy_31 rfl ?_
      refine r_callV C (o_X2_isMissing l (X (6 + 3))) v_X2_isMissing m_577 [38, 39] [] [] (88) (Or.inl ⟨38, 1, _, TX2, 3, rfl, rfl, rfl⟩) (fun u144 => [.int u144]) (fun u144 => w_X5 X) rfl rfl rfl rfl rfl (Nat.le_of_ble_eq_true rfl) ⟨(Nat.le_of_ble_eq_true rfl), (Nat.le_of_ble_eq_true rfl)⟩ ⟨Nat.zero_le _, Nat.zero_le _⟩ dX5_copy_33 (fun _ => rfl) (fun _ => rfl) (fun _ => rfl) (fun u144 => ?_)
      refine r_if_ne C 47 dX5_copy_36 (by decide) (fun h36 => ?_) (fun h36 => ?_)
      · refine r_aload C 0 dX5_copy_39 rfl ?_
        refine r_callV C (o_X2_isMissing l (X (6 + 3))) v_X2_isMissing m_577 [38, 39] [] [] (88) (Or.inl ⟨38, 1, _, TX2, 3, rfl, rfl, rfl⟩) (fun u146 => [.int u146]) (fun u146 => w_X5 X) rfl rfl rfl rfl rfl (Nat.le_of_ble_eq_true rfl) ⟨(Nat.le_of_ble_eq_true rfl), (Nat.le_of_ble_eq_true rfl)⟩ ⟨Nat.zero_le _, Nat.zero_le _⟩ dX5_copy_41 (fun _ => rfl) (fun _ => rfl) (fun _ => rfl) (fun u146 => ?_)
        refine r_if_eq C 54 dX5_copy_44 (by decide) (fun h44 => ?_) (fun h44 => ?_)
        · refine r_aload C 1 dX5_copy_54 rfl ?_
          refine r_get C 38 0 dX5_copy_56 K_X2 rfl rfl (Nat.le_of_ble_eq_true rfl) rfl m_162 rfl ?_
          refine r_aload C 0 dX5_copy_59 rfl ?_
          refine r_get C 38 0 dX5_copy_61 K_X2 rfl rfl (Nat.le_of_ble_eq_true rfl) rfl m_162 rfl ?_
          refine r_icmp_eq C 75 dX5_copy_64 (by decide) (fun h64 => ?_) (fun h64 => ?_)
          · refine r_aload C 1 dX5_copy_75 rfl ?_
            refine r_iload_n C 4 dX5_copy_77 rfl ?_
            refine r_iload C 7 dX5_copy_78 rfl ?_
            refine r_callV C (o_X2_isStretch l (X (6 + 3)) a2 a5) v_X2_isStretch m_858 [38, 39] [.int a2, .int a5] [] (88) (Or.inl ⟨38, 1, _, TX2, 3, rfl, rfl, rfl⟩) (fun u147 => [.int u147]) (fun u147 => w_X5 X) rfl rfl rfl rfl rfl (Nat.le_of_ble_eq_true rfl) ⟨(Nat.le_of_ble_eq_true rfl), (Nat.le_of_ble_eq_true rfl)⟩ ⟨Nat.zero_le _, Nat.zero_le _⟩ dX5_copy_80 (fun _ => rfl) (fun _ => rfl) (fun _ => rfl) (fun u147 => ?_)
            refine r_if_eq C 98 dX5_copy_83 (by decide) (fun h83 => ?_) (fun h83 => ?_)
            · refine r_aload_n C 2 dX5_copy_98 rfl ?_
              refine r_ldc C (-1000001) dX5_copy_99 m_206 ?_
              refine r_callV0 C (o_X5_finding l X (-1000001 : Int32)) v_X5_finding m_207 [.int (-1000001 : Int32)] [] (50) (Or.inl ⟨0, 4, _, TX5, 8, rfl, rfl, rfl⟩) (fun u148 => [.int u148.1]) (fun u148 => w_X5 u148.2) rfl rfl rfl (Nat.le_of_ble_eq_true rfl) ⟨(Nat.le_of_ble_eq_true rfl), (Nat.le_of_ble_eq_true rfl)⟩ ⟨Nat.zero_le _, Nat.zero_le _⟩ dX5_copy_101 (fun _ => rfl) (fun _ => rfl) (fun _ => rfl) (fun u148 => ?_)
              exact r_reti (x := u148.1) (rv := (fun u => some (.int u.1))) (hpE := (fun u => w_X5 u.2)) (t0 := (u148.1, u148.2)) C dX5_copy_104 (by rfl) (by rfl) (by rfl)
            · refine r_aload C 0 dX5_copy_86 rfl ?_
              refine r_iload C 6 dX5_copy_88 rfl ?_
              refine r_iload C 7 dX5_copy_90 rfl ?_
              refine r_callV C (o_X2_isStretch l (X (6 + 3)) a4 a5) v_X2_isStretch m_858 [38, 39] [.int a4, .int a5] [] (88) (Or.inl ⟨38, 1, _, TX2, 3, rfl, rfl, rfl⟩) (fun u149 => [.int u149]) (fun u149 => w_X5 X) rfl rfl rfl rfl rfl (Nat.le_of_ble_eq_true rfl) ⟨(Nat.le_of_ble_eq_true rfl), (Nat.le_of_ble_eq_true rfl)⟩ ⟨Nat.zero_le _, Nat.zero_le _⟩ dX5_copy_92 (fun _ => rfl) (fun _ => rfl) (fun _ => rfl) (fun u149 => ?_)
              refine r_if_ne C 105 dX5_copy_95 (by decide) (fun h95 => ?_) (fun h95 => ?_)
              · refine r_aload_n C 2 dX5_copy_98 rfl ?_
                refine r_ldc C (-1000001) dX5_copy_99 m_206 ?_
                refine r_callV0 C (o_X5_finding l X (-1000001 : Int32)) v_X5_finding m_207 [.int (-1000001 : Int32)] [] (50) (Or.inl ⟨0, 4, _, TX5, 8, rfl, rfl, rfl⟩) (fun u150 => [.int u150.1]) (fun u150 => w_X5 u150.2) rfl rfl rfl (Nat.le_of_ble_eq_true rfl) ⟨(Nat.le_of_ble_eq_true rfl), (Nat.le_of_ble_eq_true rfl)⟩ ⟨Nat.zero_le _, Nat.zero_le _⟩ dX5_copy_101 (fun _ => rfl) (fun _ => rfl) (fun _ => rfl) (fun u150 => ?_)
                exact r_reti (x := u150.1) (rv := (fun u => some (.int u.1))) (hpE := (fun u => w_X5 u.2)) (t0 := (u150.1, u150.2)) C dX5_copy_104 (by rfl) (by rfl) (by rfl)
              · refine r_aload C 1 dX5_copy_105 rfl ?_
                refine r_get C 38 2 dX5_copy_107 K_X2 rfl rfl (Nat.le_of_ble_eq_true rfl) rfl m_166 rfl ?_
                refine r_iload_n C 4 dX5_copy_110 rfl ?_
                refine r_aload C 0 dX5_copy_111 rfl ?_
                refine r_get C 38 2 dX5_copy_113 K_X2 rfl rfl (Nat.le_of_ble_eq_true rfl) rfl m_166 rfl ?_
                refine r_iload C 6 dX5_copy_116 rfl ?_
                refine r_iload C 7 dX5_copy_118 rfl ?_
                refine r_copy C 39 39 _ dX5_copy_120 m_862 m_507 m_506 m_10 rfl rfl rfl rfl (Nat.le_of_ble_eq_true rfl) (Nat.le_of_ble_eq_true rfl) rfl ?_
                refine r_iload C 7 dX5_copy_123 rfl ?_
                exact r_reti (x := a5) (rv := (fun u => some (.int u.1))) (hpE := (fun u => w_X5 u.2)) (t0 := (a5, (va_up X (6 + 3) ((X (6 + 3)).1, (va_up (X (6 + 3)).2 2 (va_cpy ((X (6 + 3)).2 2) ((X (6 + 3)).2 2) a2.toNatClampNeg a4.toNatClampNeg a5.toNatClampNeg)))))) C dX5_copy_125 (by rfl) (by rfl) (by rfl)
          · refine r_aload_n C 2 dX5_copy_67 rfl ?_
            refine r_ldcw C (-1000003) dX5_copy_68 m_830 ?_
            refine r_callV0 C (o_X5_finding l X (-1000003 : Int32)) v_X5_finding m_207 [.int (-1000003 : Int32)] [] (50) (Or.inl ⟨0, 4, _, TX5, 8, rfl, rfl, rfl⟩) (fun u151 => [.int u151.1]) (fun u151 => w_X5 u151.2) rfl rfl rfl (Nat.le_of_ble_eq_true rfl) ⟨(Nat.le_of_ble_eq_true rfl), (Nat.le_of_ble_eq_true rfl)⟩ ⟨Nat.zero_le _, Nat.zero_le _⟩ dX5_copy_71 (fun _ => rfl) (fun _ => rfl) (fun _ => rfl) (fun u151 => ?_)
            exact r_reti (x := u151.1) (rv := (fun u => some (.int u.1))) (hpE := (fun u => w_X5 u.2)) (t0 := (u151.1, u151.2)) C dX5_copy_74 (by rfl) (by rfl) (by rfl)
        · refine r_aload_n C 2 dX5_copy_47 rfl ?_
          refine r_ldc C (-1000006) dX5_copy_48 m_581 ?_
          refine r_callV0 C (o_X5_finding l X (-1000006 : Int32)) v_X5_finding m_207 [.int (-1000006 : Int32)] [] (50) (Or.inl ⟨0, 4, _, TX5, 8, rfl, rfl, rfl⟩) (fun u152 => [.int u152.1]) (fun u152 => w_X5 u152.2) rfl rfl rfl (Nat.le_of_ble_eq_true rfl) ⟨(Nat.le_of_ble_eq_true rfl), (Nat.le_of_ble_eq_true rfl)⟩ ⟨Nat.zero_le _, Nat.zero_le _⟩ dX5_copy_50 (fun _ => rfl) (fun _ => rfl) (fun _ => rfl) (fun u152 => ?_)
          exact r_reti (x := u152.1) (rv := (fun u => some (.int u.1))) (hpE := (fun u => w_X5 u.2)) (t0 := (u152.1, u152.2)) C dX5_copy_53 (by rfl) (by rfl) (by rfl)
      · refine r_aload_n C 2 dX5_copy_47 rfl ?_
        refine r_ldc C (-1000006) dX5_copy_48 m_581 ?_
        refine r_callV0 C (o_X5_finding l X (-1000006 : Int32)) v_X5_finding m_207 [.int (-1000006 : Int32)] [] (50) (Or.inl ⟨0, 4, _, TX5, 8, rfl, rfl, rfl⟩) (fun u145 => [.int u145.1]) (fun u145 => w_X5 u145.2) rfl rfl rfl (Nat.le_of_ble_eq_true rfl) ⟨(Nat.le_of_ble_eq_true rfl), (Nat.le_of_ble_eq_true rfl)⟩ ⟨Nat.zero_le _, Nat.zero_le _⟩ dX5_copy_50 (fun _ => rfl) (fun _ => rfl) (fun _ => rfl) (fun u145 => ?_)
        exact r_reti (x := u145.1) (rv := (fun u => some (.int u.1))) (hpE := (fun u => w_X5 u.2)) (t0 := (u145.1, u145.2)) C dX5_copy_53 (by rfl) (by rfl) (by rfl)
    · refine r_astoreN C [(7, .null), (6, .ref 88), (0, .ref 50), (1, .int a1), (2, .int a2), (3, .int a3), (4, .int a4), (5, .int a5)] dX5_copy_12 (Nat.le_of_ble_eq_true rfl) rfl ?_
      refine r_aload C 1 dX5_copy_14 rfl ?_
      refine r_cut (if_pos (by decide)) ?_
      refine r_ifnull_f C dX5_copy_16 ?_
      refine r_aloadN C 0 dX5_copy_19 rfl ?_
      refine r_cut (if_neg (by omega)) ?_
      refine r_ifnonnull_f C dX5_copy_21 ?_
      refine r_aload_n C 2 dX5_copy_24 rfl ?_
      refine r_ldc C (-1000001) dX5_copy_25 m_206 ?_
      refine r_callV0 C (o_X5_finding l X (-1000001 : Int32)) v_X5_finding m_207 [.int (-1000001 : Int32)] [] (50) (Or.inl ⟨0, 4, _, TX5, 8, rfl, rfl, rfl⟩) (fun u153 => [.int u153.1]) (fun u153 => w_X5 u153.2) rfl rfl rfl (Nat.le_of_ble_eq_true rfl) ⟨(Nat.le_of_ble_eq_true rfl), (Nat.le_of_ble_eq_true rfl)⟩ ⟨Nat.zero_le _, Nat.zero_le _⟩ dX5_copy_27 (fun _ => rfl) (fun _ => rfl) (fun _ => rfl) (fun u153 => ?_)
      exact r_reti (x := u153.1) (rv := (fun u => some (.int u.1))) (hpE := (fun u => w_X5 u.2)) (t0 := (u153.1, u153.2)) C dX5_copy_30 (by rfl) (by rfl) (by rfl)
  · refine r_astoreN C [(6, .null), (0, .ref 50), (1, .int a1), (2, .int a2), (3, .int a3), (4, .int a4), (5, .int a5)] dX5_copy_5 (Nat.le_of_ble_eq_true rfl) rfl ?_
    refine r_aload_n C 1 dX5_copy_7 rfl ?_
    refine r_iload_n C 4 dX5_copy_8 rfl ?_
    refine r_callV0 C (o_X5_sheetAt l X a3) v_X5_sheetAt m_573 [.int a3] [] (50) (Or.inl ⟨0, 4, _, TX5, 8, rfl, rfl, rfl⟩) (fun u154 => va_rf (q_sf u154) :: []) (fun u154 => w_X5 X) rfl rfl rfl (Nat.le_of_ble_eq_true rfl) ⟨(Nat.le_of_ble_eq_true rfl), (Nat.le_of_ble_eq_true rfl)⟩ ⟨Nat.zero_le _, Nat.zero_le _⟩ dX5_copy_9 (fun _ => rfl) (fun _ => rfl) (fun _ => rfl) (q_case4 ?_ ?_ ?_ ?_ (fun u154 => ?_))
    · refine r_astore C [(7, .ref 82), (6, .null), (0, .ref 50), (1, .int a1), (2, .int a2), (3, .int a3), (4, .int a4), (5, .int a5)] dX5_copy_12 (Nat.le_of_ble_eq_true rfl) rfl ?_
      refine r_aloadN C 1 dX5_copy_14 rfl ?_
      refine r_cut (if_neg (by omega)) ?_
      refine r_ifnull_t C 24 dX5_copy_16 (by decide) ?_
      refine r_aload_n C 2 dX5_copy_24 rfl ?_
      refine r_ldc C (-1000001) dX5_copy_25 m_206 ?_
      refine r_callV0 C (o_X5_finding l X (-1000001 : Int32)) v_X5_finding m_207 [.int (-1000001 : Int32)] [] (50) (Or.inl ⟨0, 4, _, TX5, 8, rfl, rfl, rfl⟩) (fun u155 => [.int u155.1]) (fun u155 => w_X5 u155.2) rfl rfl rfl (Nat.le_of_ble_eq_true rfl) ⟨(Nat.le_of_ble_eq_true rfl), (Nat.le_of_ble_eq_true rfl)⟩ ⟨Nat.zero_le _, Nat.zero_le _⟩ dX5_copy_27 (fun _ => rfl) (fun _ => rfl) (fun _ => rfl) (fun u155 => ?_)
      exact r_reti (x := u155.1) (rv := (fun u => some (.int u.1))) (hpE := (fun u => w_X5 u.2)) (t0 := (u155.1, u155.2)) C dX5_copy_30 (by rfl) (by rfl) (by rfl)
    · refine r_astore C [(7, .ref 84), (6, .null), (0, .ref 50), (1, .int a1), (2, .int a2), (3, .int a3), (4, .int a4), (5, .int a5)] dX5_copy_12 (Nat.le_of_ble_eq_true rfl) rfl ?_
      refine r_aloadN C 1 dX5_copy_14 rfl ?_
      refine r_cut (if_neg (by omega)) ?_
      refine r_ifnull_t C 24 dX5_copy_16 (by decide) ?_
      refine r_aload_n C 2 dX5_copy_24 rfl ?_
      refine r_ldc C (-1000001) dX5_copy_25 m_206 ?_
      refine r_callV0 C (o_X5_finding l X (-1000001 : Int32)) v_X5_finding m_207 [.int (-1000001 : Int32)] [] (50) (Or.inl ⟨0, 4, _, TX5, 8, rfl, rfl, rfl⟩) (fun u156 => [.int u156.1]) (fun u156 => w_X5 u156.2) rfl rfl rfl (Nat.le_of_ble_eq_true rfl) ⟨(Nat.le_of_ble_eq_true rfl), (Nat.le_of_ble_eq_true rfl)⟩ ⟨Nat.zero_le _, Nat.zero_le _⟩ dX5_copy_27 (fun _ => rfl) (fun _ => rfl) (fun _ => rfl) (fun u156 => ?_)
      exact r_reti (x := u156.1) (rv := (fun u => some (.int u.1))) (hpE := (fun u => w_X5 u.2)) (t0 := (u156.1, u156.2)) C dX5_copy_30 (by rfl) (by rfl) (by rfl)
    · refine r_astore C [(7, .ref 86), (6, .null), (0, .ref 50), (1, .int a1), (2, .int a2), (3, .int a3), (4, .int a4), (5, .int a5)] dX5_copy_12 (Nat.le_of_ble_eq_true rfl) rfl ?_
      refine r_aloadN C 1 dX5_copy_14 rfl ?_
      refine r_cut (if_neg (by omega)) ?_
      refine r_ifnull_t C 24 dX5_copy_16 (by decide) ?_
      refine r_aload_n C 2 dX5_copy_24 rfl ?_
      refine r_ldc C (-1000001) dX5_copy_25 m_206 ?_
      refine r_callV0 C (o_X5_finding l X (-1000001 : Int32)) v_X5_finding m_207 [.int (-1000001 : Int32)] [] (50) (Or.inl ⟨0, 4, _, TX5, 8, rfl, rfl, rfl⟩) (fun u157 => [.int u157.1]) (fun u157 => w_X5 u157.2) rfl rfl rfl (Nat.le_of_ble_eq_true rfl) ⟨(Nat.le_of_ble_eq_true rfl), (Nat.le_of_ble_eq_true rfl)⟩ ⟨Nat.zero_le _, Nat.zero_le _⟩ dX5_copy_27 (fun _ => rfl) (fun _ => rfl) (fun _ => rfl) (fun u157 => ?_)
      exact r_reti (x := u157.1) (rv := (fun u => some (.int u.1))) (hpE := (fun u => w_X5 u.2)) (t0 := (u157.1, u157.2)) C dX5_copy_30 (by rfl) (by rfl) (by rfl)
    · refine r_astore C [(7, .ref 88), (6, .null), (0, .ref 50), (1, .int a1), (2, .int a2), (3, .int a3), (4, .int a4), (5, .int a5)] dX5_copy_12 (Nat.le_of_ble_eq_true rfl) rfl ?_
      refine r_aloadN C 1 dX5_copy_14 rfl ?_
      refine r_cut (if_neg (by omega)) ?_
      refine r_ifnull_t C 24 dX5_copy_16 (by decide) ?_
      refine r_aload_n C 2 dX5_copy_24 rfl ?_
      refine r_ldc C (-1000001) dX5_copy_25 m_206 ?_
      refine r_callV0 C (o_X5_finding l X (-1000001 : Int32)) v_X5_finding m_207 [.int (-1000001 : Int32)] [] (50) (Or.inl ⟨0, 4, _, TX5, 8, rfl, rfl, rfl⟩) (fun u158 => [.int u158.1]) (fun u158 => w_X5 u158.2) rfl rfl rfl (Nat.le_of_ble_eq_true rfl) ⟨(Nat.le_of_ble_eq_true rfl), (Nat.le_of_ble_eq_true rfl)⟩ ⟨Nat.zero_le _, Nat.zero_le _⟩ dX5_copy_27 (fun _ => rfl) (fun _ => rfl) (fun _ => rfl) (fun u158 => ?_)
      exact r_reti (x := u158.1) (rv := (fun u => some (.int u.1))) (hpE := (fun u => w_X5 u.2)) (t0 := (u158.1, u158.2)) C dX5_copy_30 (by rfl) (by rfl) (by rfl)
    · refine r_astoreN C [(7, .null), (6, .null), (0, .ref 50), (1, .int a1), (2, .int a2), (3, .int a3), (4, .int a4), (5, .int a5)] dX5_copy_12 (Nat.le_of_ble_eq_true rfl) rfl ?_
      refine r_aloadN C 1 dX5_copy_14 rfl ?_
      refine r_cut (if_neg (by omega)) ?_
      refine r_ifnull_t C 24 dX5_copy_16 (by decide) ?_
      refine r_aload_n C 2 dX5_copy_24 rfl ?_
      refine r_ldc C (-1000001) dX5_copy_25 m_206 ?_
      refine r_callV0 C (o_X5_finding l X (-1000001 : Int32)) v_X5_finding m_207 [.int (-1000001 : Int32)] [] (50) (Or.inl ⟨0, 4, _, TX5, 8, rfl, rfl, rfl⟩) (fun u159 => [.int u159.1]) (fun u159 => w_X5 u159.2) rfl rfl rfl (Nat.le_of_ble_eq_true rfl) ⟨(Nat.le_of_ble_eq_true rfl), (Nat.le_of_ble_eq_true rfl)⟩ ⟨Nat.zero_le _, Nat.zero_le _⟩ dX5_copy_27 (fun _ => rfl) (fun _ => rfl) (fun _ => rfl) (fun u159 => ?_)
      exact r_reti (x := u159.1) (rv := (fun u => some (.int u.1))) (hpE := (fun u => w_X5 u.2)) (t0 := (u159.1, u159.2)) C dX5_copy_30 (by rfl) (by rfl) (by rfl)
