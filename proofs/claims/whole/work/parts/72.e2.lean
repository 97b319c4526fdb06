set_option maxRecDepth 100000 in
set_option maxHeartbeats 4000000 in
theorem o_X6_worthBetween (l : Launch) (M : q_St) (a1 : Int32) (a2 : Int32) (a3 : Int32) : q_Ok l yX6_worthBetween cX6_worthBetween 4 (some .int) 4 87 [.ref 50, .int a1, .int a2, .int a3] (w_X6 M) (f_X6_worthBetween M a1 a2 a3) (fun u => some (.int u)) (fun u => w_X6 M) := by
  refine q_enter (by decide +kernel) (Nat.le_of_ble_eq_true rfl) (fun t p e s m args below meth c dC dI dA A α C => ?_)
  refine r_cut (f_X6_worthBetween.eq_1 _ _ _ _) ?_
  show q_S p l e (q_rm 4 87) s m args below meth c 4 dC dI dA A α (MQ below (q_Q α dC dI dA A ((fun u => some (.int u)) t) ((fun u => w_X6 M) t)) args s 0 0 A) 0 0 _ t 0 [(0, .ref 50), (1, .int a1), (2, .int a2), (3, .int a3)] [] (w_X6 M)
  refine r_iload_n C 3 dX6_worthBetween_0 rfl ?_
  refine r_if_ne C 38 dX6_worthBetween_1 (by decide) (fun h1 => ?_) (fun h1 => ?_)
  · refine r_iload_n C 1 dX6_worthBetween_4 rfl ?_
    refine r_callS C (o_X6_leftOf l a1) v_X6_leftOf m_1175 [] [.int a1] [] (fun u7 => [.int u7]) (fun u7 => [.inr (5, [.ref 51, .ref 52, .ref 53, .int (M.1 3), .ref 54, .ref 55, .ref 56, .int (M.1 7), .ref 57, .ref 58, .int (M.1 10), .int (M.1 11), .int (M.1 12), .int (M.1 13), .int (M.1 14), .int (M.1 15), .ref 59, .ref 60, .int (M.1 18), .int (M.1 19), .int (M.1 20), .ref 61, .ref 62, .ref 63, .ref 64]), .inl (0, 68, .inl (M.2 0)), .inl (0, 68, .inl (M.2 1)), .inl (0, 68, .inl (M.2 2)), .inl (0, 8, .inl (M.2 4)), .inl (0, 1053, .inl (M.2 5)), .inl (1, 972, .inl (M.2 6)), .inl (0, 1053, .inl (M.2 8)), .inl (0, 120, .inl (M.2 9)), .inl (3, 7, .inr (.inr (.inr (.inr q_kf)))), .inl (0, 360, .inl (M.2 17)), .inl (0, 4, .inl (M.2 21)), .inl (0, 4, .inl (M.2 22)), .inl (0, 160, .inl (M.2 23)), .inl (0, 40, .inl (M.2 24))]) rfl rfl rfl rfl rfl (Nat.le_of_ble_eq_true rfl) ⟨(Nat.le_of_ble_eq_true rfl), (Nat.le_of_ble_eq_true rfl)⟩ ⟨Nat.zero_le _, Nat.zero_le _⟩ dX6_worthBetween_5 (fun _ => rfl) (fun _ => rfl) (fun _ => rfl) (fun u7 => ?_)
    refine r_iload_n C 2 dX6_worthBetween_8 rfl ?_
    refine r_callS C (o_X6_leftOf l a2) v_X6_leftOf m_1175 [] [.int a2] [.int u7] (fun u8 => [.int u8, .int u7]) (fun u8 => [.inr (5, [.ref 51, .ref 52, .ref 53, .int (M.1 3), .ref 54, .ref 55, .ref 56, .int (M.1 7), .ref 57, .ref 58, .int (M.1 10), .int (M.1 11), .int (M.1 12), .int (M.1 13), .int (M.1 14), .int (M.1 15), .ref 59, .ref 60, .int (M.1 18), .int (M.1 19), .int (M.1 20), .ref 61, .ref 62, .ref 63, .ref 64]), .inl (0, 68, .inl (M.2 0)), .inl (0, 68, .inl (M.2 1)), .inl (0, 68, .inl (M.2 2)), .inl (0, 8, .inl (M.2 4)), .inl (0, 1053, .inl (M.2 5)), .inl (1, 972, .inl (M.2 6)), .inl (0, 1053, .inl (M.2 8)), .inl (0, 120, .inl (M.2 9)), .inl (3, 7, .inr (.inr (.inr (.inr q_kf)))), .inl (0, 360, .inl (M.2 17)), .inl (0, 4, .inl (M.2 21)), .inl (0, 4, .inl (M.2 22)), .inl (0, 160, .inl (M.2 23)), .inl (0, 40, .inl (M.2 24))]) rfl rfl rfl rfl rfl (Nat.le_of_ble_eq_true rfl) ⟨(Nat.le_of_ble_eq_true rfl), (Nat.le_of_ble_eq_true rfl)⟩ ⟨Nat.zero_le _, Nat.zero_le _⟩ dX6_worthBetween_9 (fun _ => rfl) (fun _ => rfl) (fun _ => rfl) (fun u8 => ?_)
    refine r_icmp_ne C 19 dX6_worthBetween_12 (by decide) (fun h12 => ?_) (fun h12 => ?_)
    · refine r_iconst C (0) dX6_worthBetween_15 rfl ?_
      refine r_goto C 20 dX6_worthBetween_16 (by decide) ?_
      refine r_iload_n C 1 dX6_worthBetween_20 rfl ?_
      refine r_callS C (o_X6_rightOf l a1) v_X6_rightOf m_1178 [] [.int a1] [.int (0 : Int32)] (fun u11 => [.int u11, .int (0 : Int32)]) (fun u11 => [.inr (5, [.ref 51, .ref 52, .ref 53, .int (M.1 3), .ref 54, .ref 55, .ref 56, .int (M.1 7), .ref 57, .ref 58, .int (M.1 10), .int (M.1 11), .int (M.1 12), .int (M.1 13), .int (M.1 14), .int (M.1 15), .ref 59, .ref 60, .int (M.1 18), .int (M.1 19), .int (M.1 20), .ref 61, .ref 62, .ref 63, .ref 64]), .inl (0, 68, .inl (M.2 0)), .inl (0, 68, .inl (M.2 1)), .inl (0, 68, .inl (M.2 2)), .inl (0, 8, .inl (M.2 4)), .inl (0, 1053, .inl (M.2 5)), .inl (1, 972, .inl (M.2 6)), .inl (0, 1053, .inl (M.2 8)), .inl (0, 120, .inl (M.2 9)), .inl (3, 7, .inr (.inr (.inr (.inr q_kf)))), .inl (0, 360, .inl (M.2 17)), .inl (0, 4, .inl (M.2 21)), .inl (0, 4, .inl (M.2 22)), .inl (0, 160, .inl (M.2 23)), .inl (0, 40, .inl (M.2 24))]) rfl rfl rfl rfl rfl (Nat.le_of_ble_eq_true rfl) ⟨(Nat.le_of_ble_eq_true rfl), (Nat.le_of_ble_eq_true rfl)⟩ ⟨Nat.zero_le _, Nat.zero_le _⟩ dX6_worthBetween_21 (fun _ => rfl) (fun _ => rfl) (fun _ => rfl) (fun u11 => ?_)
      refine r_iload_n C 2 dX6_worthBetween_24 rfl ?_
      refine r_callS C (o_X6_rightOf l a2) v_X6_rightOf m_1178 [] [.int a2] [.int u11, .int (0 : Int32)] (fun u12 => [.int u12, .int u11, .int (0 : Int32)]) (fun u12 => [.inr (5, [.ref 51, .ref 52, .ref 53, .int (M.1 3), .ref 54, .ref 55, .ref 56, .int (M.1 7), .ref 57, .ref 58, .int (M.1 10), .int (M.1 11), .int (M.1 12), .int (M.1 13), .int (M.1 14), .int (M.1 15), .ref 59, .ref 60, .int (M.1 18), .int (M.1 19), .int (M.1 20), .ref 61, .ref 62, .ref 63, .ref 64]), .inl (0, 68, .inl (M.2 0)), .inl (0, 68, .inl (M.2 1)), .inl (0, 68, .inl (M.2 2)), .inl (0, 8, .inl (M.2 4)), .inl (0, 1053, .inl (M.2 5)), .inl (1, 972, .inl (M.2 6)), .inl (0, 1053, .inl (M.2 8)), .inl (0, 120, .inl (M.2 9)), .inl (3, 7, .inr (.inr (.inr (.inr q_kf)))), .inl (0, 360, .inl (M.2 17)), .inl (0, 4, .inl (M.2 21)), .inl (0, 4, .inl (M.2 22)), .inl (0, 160, .inl (M.2 23)), .inl (0, 40, .inl (M.2 24))]) rfl rfl rfl rfl rfl (Nat.le_of_ble_eq_true rfl) ⟨(Nat.le_of_ble_eq_true rfl), (Nat.le_of_ble_eq_true rfl)⟩ ⟨Nat.zero_le _, Nat.zero_le _⟩ dX6_worthBetween_25 (fun _ => rfl) (fun _ => rfl) (fun _ => rfl) (fun u12 => ?_)
      refine r_icmp_ne C 35 dX6_worthBetween_28 (by decide) (fun h28 => ?_) (fun h28 => ?_)
      · refine r_iconst C (0) dX6_worthBetween_31 rfl ?_
        refine r_goto C 36 dX6_worthBetween_32 (by decide) ?_
        refine r_iadd C dX6_worthBetween_36 ?_
        exact r_reti (x := ((0 : Int32) + (0 : Int32))) (rv := (fun u => some (.int u))) (hpE := (fun u => w_X6 M)) (t0 := ((0 : Int32) + (0 : Int32))) C dX6_worthBetween_37 (by rfl) (by rfl) (by rfl)
      · refine r_iconst C (1) dX6_worthBetween_35 rfl ?_
        refine r_iadd C dX6_worthBetween_36 ?_
        exact r_reti (x := ((0 : Int32) + (1 : Int32))) (rv := (fun u => some (.int u))) (hpE := (fun u => w_X6 M)) (t0 := ((0 : Int32) + (1 : Int32))) C dX6_worthBetween_37 (by rfl) (by rfl) (by rfl)
    · refine r_iconst C (1) dX6_worthBetween_19 rfl ?_
      refine r_iload_n C 1 dX6_worthBetween_20 rfl ?_
      refine r_callS C (o_X6_rightOf l a1) v_X6_rightOf m_1178 [] [.int a1] [.int (1 : Int32)] (fun u9 => [.int u9, .int (1 : Int32)]) (fun u9 => [.inr (5, [.ref 51, .ref 52, .ref 53, .int (M.1 3), .ref 54, .ref 55, .ref 56, .int (M.1 7), .ref 57, .ref 58, .int (M.1 10), .int (M.1 11), .int (M.1 12), .int (M.1 13), .int (M.1 14), .int (M.1 15), .ref 59, .ref 60, .int (M.1 18), .int (M.1 19), .int (M.1 20), .ref 61, .ref 62, .ref 63, .ref 64]), .inl (0, 68, .inl (M.2 0)), .inl (0, 68, .inl (M.2 1)), .inl (0, 68, .inl (M.2 2)), .inl (0, 8, .inl (M.2 4)), .inl (0, 1053, .inl (M.2 5)), .inl (1, 972, .inl (M.2 6)), .inl (0, 1053, .inl (M.2 8)), .inl (0, 120, .inl (M.2 9)), .inl (3, 7, .inr (.inr (.inr (.inr q_kf)))), .inl (0, 360, .inl (M.2 17)), .inl (0, 4, .inl (M.2 21)), .inl (0, 4, .inl (M.2 22)), .inl (0, 160, .inl (M.2 23)), .inl (0, 40, .inl (M.2 24))]) rfl rfl rfl rfl rfl (Nat.le_of_ble_eq_true rfl) ⟨(Nat.le_of_ble_eq_true rfl), (Nat.le_of_ble_eq_true rfl)⟩ ⟨Nat.zero_le _, Nat.zero_le _⟩ dX6_worthBetween_21 (fun _ => rfl) (fun _ => rfl) (fun _ => rfl) (fun u9 => ?_)
      refine r_iload_n C 2 dX6_worthBetween_24 rfl ?_
      refine r_callS C (o_X6_rightOf l a2) v_X6_rightOf m_1178 [] [.int a2] [.int u9, .int (1 : Int32)] (fun u10 => [.int u10, .int u9, .int (1 : Int32)]) (fun u10 => [.inr (5, [.ref 51, .ref 52, .ref 53, .int (M.1 3), .ref 54, .ref 55, .ref 56, .int (M.1 7), .ref 57, .ref 58, .int (M.1 10), .int (M.1 11), .int (M.1 12), .int (M.1 13), .int (M.1 14), .int (M.1 15), .ref 59, .ref 60, .int (M.1 18), .int (M.1 19), .int (M.1 20), .ref 61, .ref 62, .ref 63, .ref 64]), .inl (0, 68, .inl (M.2 0)), .inl (0, 68, .inl (M.2 1)), .inl (0, 68, .inl (M.2 2)), .inl (0, 8, .inl (M.2 4)), .inl (0, 1053, .inl (M.2 5)), .inl (1, 972, .inl (M.2 6)), .inl (0, 1053, .inl (M.2 8)), .inl (0, 120, .inl (M.2 9)), .inl (3, 7, .inr (.inr (.inr (.inr q_kf)))), .inl (0, 360, .inl (M.2 17)), .inl (0, 4, .inl (M.2 21)), .inl (0, 4, .inl (M.2 22)), .inl (0, 160, .inl (M.2 23)), .inl (0, 40, .inl (M.2 24))]) rfl rfl rfl rfl rfl (Nat.le_of_ble_eq_true rfl) ⟨(Nat.le_of_ble_eq_true rfl), (Nat.le_of_ble_eq_true rfl)⟩ ⟨Nat.zero_le _, Nat.zero_le _⟩ dX6_worthBetween_25 (fun _ => rfl) (fun _ => rfl) (fun _ => rfl) (fun u10 => ?_)
      refine r_icmp_ne C 35 dX6_worthBetween_28 (by decide) (fun h28 => ?_) (fun h28 => ?_)
      · refine r_iconst C (0) dX6_worthBetween_31 rfl ?_
        refine r_goto C 36 dX6_worthBetween_32 (by decide) ?_
        refine r_iadd C dX6_worthBetween_36 ?_
        exact r_reti (x := ((1 : Int32) + (0 : Int32))) (rv := (fun u => some (.int u))) (hpE := (fun u => w_X6 M)) (t0 := ((1 : Int32) + (0 : Int32))) C dX6_worthBetween_37 (by rfl) (by rfl) (by rfl)
      · refine r_iconst C (1) dX6_worthBetween_35 rfl ?_
        refine r_iadd C dX6_worthBetween_36 ?_
        exact r_reti (x := ((1 : Int32) + (1 : Int32))) (rv := (fun u => some (.int u))) (hpE := (fun u => w_X6 M)) (t0 := ((1 : Int32) + (1 : Int32))) C dX6_worthBetween_37 (by rfl) (by rfl) (by rfl)
  · refine r_aload_n C 0 dX6_worthBetween_38 rfl ?_
    refine r_iload_n C 1 dX6_worthBetween_39 rfl ?_
    refine r_callS C (o_X6_leftOf l a1) v_X6_leftOf m_1175 [] [.int a1] [.ref 50] (fun u1 => [.int u1, .ref 50]) (fun u1 => [.inr (5, [.ref 51, .ref 52, .ref 53, .int (M.1 3), .ref 54, .ref 55, .ref 56, .int (M.1 7), .ref 57, .ref 58, .int (M.1 10), .int (M.1 11), .int (M.1 12), .int (M.1 13), .int (M.1 14), .int (M.1 15), .ref 59, .ref 60, .int (M.1 18), .int (M.1 19), .int (M.1 20), .ref 61, .ref 62, .ref 63, .ref 64]), .inl (0, 68, .inl (M.2 0)), .inl (0, 68, .inl (M.2 1)), .inl (0, 68, .inl (M.2 2)), .inl (0, 8, .inl (M.2 4)), .inl (0, 1053, .inl (M.2 5)), .inl (1, 972, .inl (M.2 6)), .inl (0, 1053, .inl (M.2 8)), .inl (0, 120, .inl (M.2 9)), .inl (3, 7, .inr (.inr (.inr (.inr q_kf)))), .inl (0, 360, .inl (M.2 17)), .inl (0, 4, .inl (M.2 21)), .inl (0, 4, .inl (M.2 22)), .inl (0, 160, .inl (M.2 23)), .inl (0, 40, .inl (M.2 24))]) rfl rfl rfl rfl rfl (Nat.le_of_ble_eq_true rfl) ⟨(Nat.le_of_ble_eq_true rfl), (Nat.le_of_ble_eq_true rfl)⟩ ⟨Nat.zero_le _, Nat.zero_le _⟩ dX6_worthBetween_40 (fun _ => rfl) (fun _ => rfl) (fun _ => rfl) (fun u1 => ?_)
    refine r_iload_n C 2 dX6_worthBetween_43 rfl ?_
    refine r_callS C (o_X6_leftOf l a2) v_X6_leftOf m_1175 [] [.int a2] [.int u1, .ref 50] (fun u2 => [.int u2, .int u1, .ref 50]) (fun u2 => [.inr (5, [.ref 51, .ref 52, .ref 53, .int (M.1 3), .ref 54, .ref 55, .ref 56, .int (M.1 7), .ref 57, .ref 58, .int (M.1 10), .int (M.1 11), .int (M.1 12), .int (M.1 13), .int (M.1 14), .int (M.1 15), .ref 59, .ref 60, .int (M.1 18), .int (M.1 19), .int (M.1 20), .ref 61, .ref 62, .ref 63, .ref 64]), .inl (0, 68, .inl (M.2 0)), .inl (0, 68, .inl (M.2 1)), .inl (0, 68, .inl (M.2 2)), .inl (0, 8, .inl (M.2 4)), .inl (0, 1053, .inl (M.2 5)), .inl (1, 972, .inl (M.2 6)), .inl (0, 1053, .inl (M.2 8)), .inl (0, 120, .inl (M.2 9)), .inl (3, 7, .inr (.inr (.inr (.inr q_kf)))), .inl (0, 360, .inl (M.2 17)), .inl (0, 4, .inl (M.2 21)), .inl (0, 4, .inl (M.2 22)), .inl (0, 160, .inl (M.2 23)), .inl (0, 40, .inl (M.2 24))]) rfl rfl rfl rfl rfl (Nat.le_of_ble_eq_true rfl) ⟨(Nat.le_of_ble_eq_true rfl), (Nat.le_of_ble_eq_true rfl)⟩ ⟨Nat.zero_le _, Nat.zero_le _⟩ dX6_worthBetween_44 (fun _ => rfl) (fun _ => rfl) (fun _ => rfl) (fun u2 => ?_)
    refine r_callV0 C (o_X6_takes l M u1 u2) v_X6_takes m_1136 [.int u1, .int u2] [] (50) (Or.inl ⟨0, 5, _, TX6, 25, rfl, rfl, rfl⟩) (fun u3 => [.int u3]) (fun u3 => [.inr (5, [.ref 51, .ref 52, .ref 53, .int (M.1 3), .ref 54, .ref 55, .ref 56, .int (M.1 7), .ref 57, .ref 58, .int (M.1 10), .int (M.1 11), .int (M.1 12), .int (M.1 13), .int (M.1 14), .int (M.1 15), .ref 59, .ref 60, .int (M.1 18), .int (M.1 19), .int (M.1 20), .ref 61, .ref 62, .ref 63, .ref 64]), .inl (0, 68, .inl (M.2 0)), .inl (0, 68, .inl (M.2 1)), .inl (0, 68, .inl (M.2 2)), .inl (0, 8, .inl (M.2 4)), .inl (0, 1053, .inl (M.2 5)), .inl (1, 972, .inl (M.2 6)), .inl (0, 1053, .inl (M.2 8)), .inl (0, 120, .inl (M.2 9)), .inl (3, 7, .inr (.inr (.inr (.inr q_kf)))), .inl (0, 360, .inl (M.2 17)), .inl (0, 4, .inl (M.2 21)), .inl (0, 4, .inl (M.2 22)), .inl (0, 160, .inl (M.2 23)), .inl (0, 40, .inl (M.2 24))]) rfl rfl rfl (Nat.le_of_ble_eq_true rfl) ⟨(Nat.le_of_ble_eq_true rfl), (Nat.le_of_ble_eq_true rfl)⟩ ⟨Nat.zero_le _, Nat.zero_le _⟩ dX6_worthBetween_47 (fun _ => rfl) (fun _ => rfl) (fun _ => rfl) (fun u3 => ?_)
    refine r_aload_n C 0 dX6_worthBetween_50 rfl ?_
    refine r_iload_n C 1 dX6_worthBetween_51 rfl ?_
    refine r_callS C (o_X6_rightOf l a1) v_X6_rightOf m_1178 [] [.int a1] [.ref 50, .int u3] (fun u4 => [.int u4, .ref 50, .int u3]) (fun u4 => [.inr (5, [.ref 51, .ref 52, .ref 53, .int (M.1 3), .ref 54, .ref 55, .ref 56, .int (M.1 7), .ref 57, .ref 58, .int (M.1 10), .int (M.1 11), .int (M.1 12), .int (M.1 13), .int (M.1 14), .int (M.1 15), .ref 59, .ref 60, .int (M.1 18), .int (M.1 19), .int (M.1 20), .ref 61, .ref 62, .ref 63, .ref 64]), .inl (0, 68, .inl (M.2 0)), .inl (0, 68, .inl (M.2 1)), .inl (0, 68, .inl (M.2 2)), .inl (0, 8, .inl (M.2 4)), .inl (0, 1053, .inl (M.2 5)), .inl (1, 972, .inl (M.2 6)), .inl (0, 1053, .inl (M.2 8)), .inl (0, 120, .inl (M.2 9)), .inl (3, 7, .inr (.inr (.inr (.inr q_kf)))), .inl (0, 360, .inl (M.2 17)), .inl (0, 4, .inl (M.2 21)), .inl (0, 4, .inl (M.2 22)), .inl (0, 160, .inl (M.2 23)), .inl (0, 40, .inl (M.2 24))]) rfl rfl rfl rfl rfl (Nat.le_of_ble_eq_true rfl) ⟨(Nat.le_of_ble_eq_true rfl), (Nat.le_of_ble_eq_true rfl)⟩ ⟨Nat.zero_le _, Nat.zero_le _⟩ dX6_worthBetween_52 (fun _ => rfl) (fun _ => rfl) (fun _ => rfl) (fun u4 => ?_)
    refine r_iload_n C 2 dX6_worthBetween_55 rfl ?_
    refine r_callS C (o_X6_rightOf l a2) v_X6_rightOf m_1178 [] [.int a2] [.int u4, .ref 50, .int u3] (fun u5 => [.int u5, .int u4, .ref 50, .int u3]) (fun u5 => [.inr (5, [.ref 51, .ref 52, .ref 53, .int (M.1 3), .ref 54, .ref 55, .ref 56, .int (M.1 7), .ref 57, .ref 58, .int (M.1 10), .int (M.1 11), .int (M.1 12), .int (M.1 13), .int (M.1 14), .int (M.1 15), .ref 59, .ref 60, .int (M.1 18), .int (M.1 19), .int (M.1 20), .ref 61, .ref 62, .ref 63, .ref 64]), .inl (0, 68, .inl (M.2 0)), .inl (0, 68, .inl (M.2 1)), .inl (0, 68, .inl (M.2 2)), .inl (0, 8, .inl (M.2 4)), .inl (0, 1053, .inl (M.2 5)), .inl (1, 972, .inl (M.2 6)), .inl (0, 1053, .inl (M.2 8)), .inl (0, 120, .inl (M.2 9)), .inl (3, 7, .inr (.inr (.inr (.inr q_kf)))), .inl (0, 360, .inl (M.2 17)), .inl (0, 4, .inl (M.2 21)), .inl (0, 4, .inl (M.2 22)), .inl (0, 160, .inl (M.2 23)), .inl (0, 40, .inl (M.2 24))]) rfl rfl rfl rfl rfl (Nat.le_of_ble_eq_true rfl) ⟨(Nat.le_of_ble_eq_true rfl), (Nat.le_of_ble_eq_true rfl)⟩ ⟨Nat.zero_le _, Nat.zero_le _⟩ dX6_worthBetween_56 (fun _ => rfl) (fun _ => rfl) (fun _ => rfl) (fun u5 => ?_)
    refine r_callV0 C (o_X6_takes l M u4 u5) v_X6_takes m_1136 [.int u4, .int u5] [.int u3] (50) (Or.inl ⟨0, 5, _, TX6, 25, rfl, rfl, rfl⟩) (fun u6 => [.int u6, .int u3]) (fun u6 => [.inr (5, [.ref 51, .ref 52, .ref 53, .int (M.1 3), .ref 54, .ref 55, .ref 56, .int (M.1 7), .ref 57, .ref 58, .int (M.1 10), .int (M.1 11), .int (M.1 12), .int (M.1 13), .int (M.1 14), .int (M.1 15), .ref 59, .ref 60, .int (M.1 18), .int (M.1 19), .int (M.1 20), .ref 61, .ref 62, .ref 63, .ref 64]), .inl (0, 68, .inl (M.2 0)), .inl (0, 68, .inl (M.2 1)), .inl (0, 68, .inl (M.2 2)), .inl (0, 8, .inl (M.2 4)), .inl (0, 1053, .inl (M.2 5)), .inl (1, 972, .inl (M.2 6)), .inl (0, 1053, .inl (M.2 8)), .inl (0, 120, .inl (M.2 9)), .inl (3, 7, .inr (.inr (.inr (.inr q_kf)))), .inl (0, 360, .inl (M.2 17)), .inl (0, 4, .inl (M.2 21)), .inl (0, 4, .inl (M.2 22)), .inl (0, 160, .inl (M.2 23)), .inl (0, 40, .inl (M.2 24))]) rfl rfl rfl (Nat.le_of_ble_eq_true rfl) ⟨(Nat.le_of_ble_eq_true rfl), (Nat.le_of_ble_eq_true rfl)⟩ ⟨Nat.zero_le _, Nat.zero_le _⟩ dX6_worthBetween_59 (fun _ => rfl) (fun _ => rfl) (fun _ => rfl) (fun u6 => ?_)
    refine r_iadd C dX6_worthBetween_62 ?_
    exact r_reti (x := (u3 + u6)) (rv := (fun u => some (.int u))) (hpE := (fun u => w_X6 M)) (t0 := (u3 + u6)) C dX6_worthBetween_63 (by rfl) (by rfl) (by rfl)
set_option maxRecDepth 100000 in
set_option maxHeartbeats 4000000 in
theorem o_X6_holdNow (l : Launch) (M : q_St) : q_Ok l yX6_holdNow cX6_holdNow 1 (some .int) 0 0 [.ref 50] (w_X6 M) (f_X6_holdNow M) (fun u => some (.int u)) (fun u => w_X6 M) := by
  refine q_enter (by decide +kernel) (Nat.le_of_ble_eq_true rfl) (fun t p e s m args below meth c dC dI dA A α C => ?_)
  refine r_cut (f_X6_holdNow.eq_1 _) ?_
  show q_S p l e (q_rm 0 0) s m args below meth c 1 dC dI dA A α (MQ below (q_Q α dC dI dA A ((fun u => some (.int u)) t) ((fun u => w_X6 M) t)) args s 0 0 A) 0 0 _ t 0 [(0, .ref 50)] [] (w_X6 M)
  refine r_bipush C (9) dX6_holdNow_0 rfl ?_
  refine r_aload_n C 0 dX6_holdNow_2 rfl ?_
  refine r_get C 0 0 dX6_holdNow_3 K_X6 rfl rfl (Nat.le_of_ble_eq_true rfl) rfl m_915 rfl ?_
  refine r_iconst C (2) dX6_holdNow_6 rfl ?_
  refine r_iald C 1 dX6_holdNow_7 rfl rfl (fun hi7 => ?_)
  refine r_iconst C (1) dX6_holdNow_8 rfl ?_
  refine r_iadd C dX6_holdNow_9 ?_
  refine r_imul C dX6_holdNow_10 ?_
  refine r_aload_n C 0 dX6_holdNow_11 rfl ?_
  refine r_get C 0 0 dX6_holdNow_12 K_X6 rfl rfl (Nat.le_of_ble_eq_true rfl) rfl m_915 rfl ?_
  refine r_iconst C (3) dX6_holdNow_15 rfl ?_
  refine r_iald C 1 dX6_holdNow_16 rfl rfl (fun hi16 => ?_)
  refine r_iadd C dX6_holdNow_17 ?_
  refine r_iconst C (1) dX6_holdNow_18 rfl ?_
  refine r_iadd C dX6_holdNow_19 ?_
  exact r_reti (x := ((((9 : Int32) * ((M.2 0 (2 : Int32).toNatClampNeg) + (1 : Int32))) + (M.2 0 (3 : Int32).toNatClampNeg)) + (1 : Int32))) (rv := (fun u => some (.int u))) (hpE := (fun u => w_X6 M)) (t0 := ((((9 : Int32) * ((M.2 0 (2 : Int32).toNatClampNeg) + (1 : Int32))) + (M.2 0 (3 : Int32).toNatClampNeg)) + (1 : Int32))) C dX6_holdNow_20 (by rfl) (by rfl) (by rfl)
set_option maxRecDepth 100000 in
set_option maxHeartbeats 4000000 in
theorem k_X6_findWay_239 {p : Program} {l : Launch} {e : Env} {s : State} {m : MethodId} {args : Array Value} {below : List Frame} {meth : Method} {c : Code} {dC : Nat → ClassId} {dI : Nat → Nat → Nat} {dA : Nat → ClassId} {A : Nat → Prop} {α : Nat → Nat} {t : Int32 × q_St} (C : q_Cx p s m args meth c cX6_findWay 7 RX6 (some .int) "findWay" dC dI dA A α) (M : q_St) (a1 : Int32) (a2 : Int32) (r28 : Int32 → Int32 → Int32 → q_St → Option (Int32 × q_St)) (r111 : Int32 → Int32 → Int32 → Int32 → q_St → Option (Int32 × q_St))
    (hr28 : ∀ (x1 : Int32) (x2 : Int32) (x3 : Int32) (M' : q_St), q_S p l e (q_rm 5 110) s m args below meth c 7 dC dI dA A α (MQ below (q_Q α dC dI dA A ((fun u => some (.int u.1)) t) ((fun u => w_X6 u.2) t)) args s 0 0 A) 0 0 (r28 x1 x2 x3 M') t 28 [(0, .ref 50), (1, .int x1), (2, .int x2), (3, .int x3)] [] (w_X6 M'))
    (hr111 : ∀ (x1 : Int32) (x2 : Int32) (x3 : Int32) (x4 : Int32) (M' : q_St), q_S p l e (q_rm 5 110) s m args below meth c 7 dC dI dA A α (MQ below (q_Q α dC dI dA A ((fun u => some (.int u.1)) t) ((fun u => w_X6 u.2) t)) args s 0 0 A) 0 0 (r111 x1 x2 x3 x4 M') t 111 [(0, .ref 50), (1, .int x1), (2, .int x2), (3, .int x3), (4, .int x4)] [] (w_X6 M')) : ∀ (x1 : Int32) (x2 : Int32) (x3 : Int32) (x4 : Int32) (x5 : Int32) (M' : q_St), q_S p l e (q_rm 5 110) s m args below meth c 7 dC dI dA A α (MQ below (q_Q α dC dI dA A ((fun u => some (.int u.1)) t) ((fun u => w_X6 u.2) t)) args s 0 0 A) 0 0 (f_X6_findWay_239 M a1 a2 r28 r111 x1 x2 x3 x4 x5 M') t 239 [(0, .ref 50), (1, .int x1), (2, .int x2), (3, .int x3), (4, .int x4), (5, .int x5)] [] (w_X6 M') := by
  intro x1 x2 x3 x4 x5 M'
  refine r_cut (f_X6_findWay_239.eq_1 _ _ _ _ _ _ _ _ _ _ _) ?_
  refine r_aload_n C 0 dX6_findWay_239 rfl ?_
  refine r_get C 0 5 dX6_findWay_240 K_X6 rfl rfl (Nat.le_of_ble_eq_true rfl) rfl m_920 rfl ?_
  refine r_iload_n C 3 dX6_findWay_243 rfl ?_
  refine r_bipush C (81) dX6_findWay_244 rfl ?_
  refine r_imul C dX6_findWay_246 ?_
  refine r_iload C 4 dX6_findWay_247 rfl ?_
  refine r_iadd C dX6_findWay_249 ?_
  refine r_iload C 5 dX6_findWay_250 rfl ?_
  refine r_iast C 5 _ dX6_findWay_252 rfl rfl rfl (fun hi252 => ?_)
  refine r_iinc C 4 (x4 + 1) [(4, .int (x4 + 1)), (0, .ref 50), (1, .int x1), (2, .int x2), (3, .int x3), (5, .int x5)] dX6_findWay_253 rfl rfl (Nat.le_of_ble_eq_true rfl) rfl ?_
  refine r_goto C 111 dX6_findWay_256 (by decide) ?_
  refine r_lv [(0, .ref 50), (1, .int x1), (2, .int x2), (3, .int x3), (4, .int (x4 + 1))] [1, 2, 3, 4, 0] rfl ?_
  exact hr111 x1 x2 x3 (x4 + 1) (M'.1, (va_up M'.2 5 (upd (M'.2 5) ((x3 * (81 : Int32)) + x4).toNatClampNeg x5)))
set_option maxRecDepth 100000 in
set_option maxHeartbeats 4000000 in
theorem k_X6_findWay_150 {p : Program} {l : Launch} {e : Env} {s : State} {m : MethodId} {args : Array Value} {below : List Frame} {meth : Method} {c : Code} {dC : Nat → ClassId} {dI : Nat → Nat → Nat} {dA : Nat → ClassId} {A : Nat → Prop} {α : Nat → Nat} {t : Int32 × q_St} (C : q_Cx p s m args meth c cX6_findWay 7 RX6 (some .int) "findWay" dC dI dA A α) (M : q_St) (a1 : Int32) (a2 : Int32) (r28 : Int32 → Int32 → Int32 → q_St → Option (Int32 × q_St)) (r111 : Int32 → Int32 → Int32 → Int32 → q_St → Option (Int32 × q_St))
    (hr28 : ∀ (x1 : Int32) (x2 : Int32) (x3 : Int32) (M' : q_St), q_S p l e (q_rm 5 110) s m args below meth c 7 dC dI dA A α (MQ below (q_Q α dC dI dA A ((fun u => some (.int u.1)) t) ((fun u => w_X6 u.2) t)) args s 0 0 A) 0 0 (r28 x1 x2 x3 M') t 28 [(0, .ref 50), (1, .int x1), (2, .int x2), (3, .int x3)] [] (w_X6 M'))
    (hr111 : ∀ (x1 : Int32) (x2 : Int32) (x3 : Int32) (x4 : Int32) (M' : q_St), q_S p l e (q_rm 5 110) s m args below meth c 7 dC dI dA A α (MQ below (q_Q α dC dI dA A ((fun u => some (.int u.1)) t) ((fun u => w_X6 u.2) t)) args s 0 0 A) 0 0 (r111 x1 x2 x3 x4 M') t 111 [(0, .ref 50), (1, .int x1), (2, .int x2), (3, .int x3), (4, .int x4)] [] (w_X6 M')) : ∀ (n : Nat) (x1 : Int32) (x2 : Int32) (x3 : Int32) (x4 : Int32) (x5 : Int32) (x6 : Int32) (M' : q_St), q_S p l e (q_rm 5 110) s m args below meth c 7 dC dI dA A α (MQ below (q_Q α dC dI dA A ((fun u => some (.int u.1)) t) ((fun u => w_X6 u.2) t)) args s 0 0 A) 0 0 (f_X6_findWay_150 M a1 a2 r28 r111 n x1 x2 x3 x4 x5 x6 M') t 150 [(0, .ref 50), (1, .int x1), (2, .int x2), (3, .int x3), (4, .int x4), (5, .int x5), (6, .int x6)] [] (w_X6 M') := by
  intro n
  induction n with
  | zero =>
    intro x1 x2 x3 x4 x5 x6 M'
    exact r_cut (f_X6_findWay_150.eq_1 _ _ _ _ _ _ _ _ _ _ _ _) (r_none True.intro)
  | succ n ih =>
    intro x1 x2 x3 x4 x5 x6 M'
    refine r_cut (f_X6_findWay_150.eq_2 _ _ _ _ _ _ _ _ _ _ _ _ _) ?_
    refine r_iload C 6 dX6_findWay_150 rfl ?_
    refine r_bipush C (81) dX6_findWay_152 rfl ?_
    refine r_icmp_ge C 239 dX6_findWay_154 (by decide) (fun h154 => ?_) (fun h154 => ?_)
    · refine r_lv [(0, .ref 50), (1, .int x1), (2, .int x2), (3, .int x3), (4, .int x4), (5, .int x5)] [0, 1, 2, 3, 4, 5] rfl ?_
      exact k_X6_findWay_239 C M a1 a2 r28 r111 hr28 hr111 x1 x2 x3 x4 x5 M'
    · refine r_iload_n C 1 dX6_findWay_157 rfl ?_
      refine r_iload_n C 3 dX6_findWay_158 rfl ?_
      refine r_callS C (o_X6_has l x1 x3) v_X6_has m_1094 [] [.int x1, .int x3] [] (fun u10 => [.int u10]) (fun u10 => [.inr (5, [.ref 51, .ref 52, .ref 53, .int (M'.1 3), .ref 54, .ref 55, .ref 56, .int (M'.1 7), .ref 57, .ref 58, .int (M'.1 10), .int (M'.1 11), .int (M'.1 12), .int (M'.1 13), .int (M'.1 14), .int (M'.1 15), .ref 59, .ref 60, .int (M'.1 18), .int (M'.1 19), .int (M'.1 20), .ref 61, .ref 62, .ref 63, .ref 64]), .inl (0, 68, .inl (M'.2 0)), .inl (0, 68, .inl (M'.2 1)), .inl (0, 68, .inl (M'.2 2)), .inl (0, 8, .inl (M'.2 4)), .inl (0, 1053, .inl (M'.2 5)), .inl (1, 972, .inl (M'.2 6)), .inl (0, 1053, .inl (M'.2 8)), .inl (0, 120, .inl (M'.2 9)), .inl (3, 7, .inr (.inr (.inr (.inr q_kf)))), .inl (0, 360, .inl (M'.2 17)), .inl (0, 4, .inl (M'.2 21)), .inl (0, 4, .inl (M'.2 22)), .inl (0, 160, .inl (M'.2 23)), .inl (0, 40, .inl (M'.2 24))]) rfl rfl rfl rfl rfl (Nat.le_of_ble_eq_true rfl) ⟨(Nat.le_of_ble_eq_true rfl), (Nat.le_of_ble_eq_true rfl)⟩ ⟨Nat.zero_le _, Nat.zero_le _⟩ dX6_findWay_159 (fun _ => rfl) (fun _ => rfl) (fun _ => rfl) (fun u10 => ?_)
      refine r_if_eq C 239 dX6_findWay_162 (by decide) (fun h162 => ?_) (fun h162 => ?_)
      · refine r_lv [(0, .ref 50), (1, .int x1), (2, .int x2), (3, .int x3), (4, .int x4), (5, .int x5)] [0, 1, 2, 3, 4, 5] rfl ?_
        exact k_X6_findWay_239 C M a1 a2 r28 r111 hr28 hr111 x1 x2 x3 x4 x5 M'
      · refine r_aload_n C 0 dX6_findWay_165 rfl ?_
        refine r_iload C 4 dX6_findWay_166 rfl ?_
        refine r_callS C (o_X6_leftOf l x4) v_X6_leftOf m_1175 [] [.int x4] [.ref 50] (fun u11 => [.int u11, .ref 50]) (fun u11 => [.inr (5, [.ref 51, .ref 52, .ref 53, .int (M'.1 3), .ref 54, .ref 55, .ref 56, .int (M'.1 7), .ref 57, .ref 58, .int (M'.1 10), .int (M'.1 11), .int (M'.1 12), .int (M'.1 13), .int (M'.1 14), .int (M'.1 15), .ref 59, .ref 60, .int (M'.1 18), .int (M'.1 19), .int (M'.1 20), .ref 61, .ref 62, .ref 63, .ref 64]), .inl (0, 68, .inl (M'.2 0)), .inl (0, 68, .inl (M'.2 1)), .inl (0, 68, .inl (M'.2 2)), .inl (0, 8, .inl (M'.2 4)), .inl (0, 1053, .inl (M'.2 5)), .inl (1, 972, .inl (M'.2 6)), .inl (0, 1053, .inl (M'.2 8)), .inl (0, 120, .inl (M'.2 9)), .inl (3, 7, .inr (.inr (.inr (.inr q_kf)))), .inl (0, 360, .inl (M'.2 17)), .inl (0, 4, .inl (M'.2 21)), .inl (0, 4, .inl (M'.2 22)), .inl (0, 160, .inl (M'.2 23)), .inl (0, 40, .inl (M'.2 24))]) rfl rfl rfl rfl rfl (Nat.le_of_ble_eq_true rfl) ⟨(Nat.le_of_ble_eq_true rfl), (Nat.le_of_ble_eq_true rfl)⟩ ⟨Nat.zero_le _, Nat.zero_le _⟩ dX6_findWay_168 (fun _ => rfl) (fun _ => rfl) (fun _ => rfl) (fun u11 => ?_)
        refine r_iload C 4 dX6_findWay_171 rfl ?_
        refine r_callS C (o_X6_rightOf l x4) v_X6_rightOf m_1178 [] [.int x4] [.int u11, .ref 50] (fun u12 => [.int u12, .int u11, .ref 50]) (fun u12 => [.inr (5, [.ref 51, .ref 52, .ref 53, .int (M'.1 3), .ref 54, .ref 55, .ref 56, .int (M'.1 7), .ref 57, .ref 58, .int (M'.1 10), .int (M'.1 11), .int (M'.1 12), .int (M'.1 13), .int (M'.1 14), .int (M'.1 15), .ref 59, .ref 60, .int (M'.1 18), .int (M'.1 19), .int (M'.1 20), .ref 61, .ref 62, .ref 63, .ref 64]), .inl (0, 68, .inl (M'.2 0)), .inl (0, 68, .inl (M'.2 1)), .inl (0, 68, .inl (M'.2 2)), .inl (0, 8, .inl (M'.2 4)), .inl (0, 1053, .inl (M'.2 5)), .inl (1, 972, .inl (M'.2 6)), .inl (0, 1053, .inl (M'.2 8)), .inl (0, 120, .inl (M'.2 9)), .inl (3, 7, .inr (.inr (.inr (.inr q_kf)))), .inl (0, 360, .inl (M'.2 17)), .inl (0, 4, .inl (M'.2 21)), .inl (0, 4, .inl (M'.2 22)), .inl (0, 160, .inl (M'.2 23)), .inl (0, 40, .inl (M'.2 24))]) rfl rfl rfl rfl rfl (Nat.le_of_ble_eq_true rfl) ⟨(Nat.le_of_ble_eq_true rfl), (Nat.le_of_ble_eq_true rfl)⟩ ⟨Nat.zero_le _, Nat.zero_le _⟩ dX6_findWay_173 (fun _ => rfl) (fun _ => rfl) (fun _ => rfl) (fun u12 => ?_)
        refine r_callV0 C (o_X6_isHold l M' u11 u12) v_X6_isHold m_1181 [.int u11, .int u12] [] (50) (Or.inl ⟨0, 5, _, TX6, 25, rfl, rfl, rfl⟩) (fun u13 => [.int u13]) (fun u13 => [.inr (5, [.ref 51, .ref 52, .ref 53, .int (M'.1 3), .ref 54, .ref 55, .ref 56, .int (M'.1 7), .ref 57, .ref 58, .int (M'.1 10), .int (M'.1 11), .int (M'.1 12), .int (M'.1 13), .int (M'.1 14), .int (M'.1 15), .ref 59, .ref 60, .int (M'.1 18), .int (M'.1 19), .int (M'.1 20), .ref 61, .ref 62, .ref 63, .ref 64]), .inl (0, 68, .inl (M'.2 0)), .inl (0, 68, .inl (M'.2 1)), .inl (0, 68, .inl (M'.2 2)), .inl (0, 8, .inl (M'.2 4)), .inl (0, 1053, .inl (M'.2 5)), .inl (1, 972, .inl (M'.2 6)), .inl (0, 1053, .inl (M'.2 8)), .inl (0, 120, .inl (M'.2 9)), .inl (3, 7, .inr (.inr (.inr (.inr q_kf)))), .inl (0, 360, .inl (M'.2 17)), .inl (0, 4, .inl (M'.2 21)), .inl (0, 4, .inl (M'.2 22)), .inl (0, 160, .inl (M'.2 23)), .inl (0, 40, .inl (M'.2 24))]) rfl rfl rfl (Nat.le_of_ble_eq_true rfl) ⟨(Nat.le_of_ble_eq_true rfl), (Nat.le_of_ble_eq_true rfl)⟩ ⟨Nat.zero_le _, Nat.zero_le _⟩ dX6_findWay_176 (fun _ => rfl) (fun _ => rfl) (fun _ => rfl) (fun u13 => ?_)
        refine r_if_eq C 239 dX6_findWay_179 (by decide) (fun h179 => ?_) (fun h179 => ?_)
        · refine r_lv [(0, .ref 50), (1, .int x1), (2, .int x2), (3, .int x3), (4, .int x4), (5, .int x5)] [0, 1, 2, 3, 4, 5] rfl ?_
          exact k_X6_findWay_239 C M a1 a2 r28 r111 hr28 hr111 x1 x2 x3 x4 x5 M'
        · refine r_aload_n C 0 dX6_findWay_182 rfl ?_
          refine r_get C 0 6 dX6_findWay_183 K_X6 rfl rfl (Nat.le_of_ble_eq_true rfl) rfl m_921 rfl ?_
          refine r_iload_n C 3 dX6_findWay_186 rfl ?_
          refine r_bipush C (81) dX6_findWay_187 rfl ?_
          refine r_imul C dX6_findWay_189 ?_
          refine r_iload C 6 dX6_findWay_190 rfl ?_
          refine r_iadd C dX6_findWay_192 ?_
          refine r_zald C 6 dX6_findWay_193 rfl rfl (fun hi193 => ?_)
          refine r_if_eq C 229 dX6_findWay_194 (by decide) (fun h194 => ?_) (fun h194 => ?_)
          · refine r_iload C 5 dX6_findWay_229 rfl ?_
            refine r_istore C [(5, .int x5), (0, .ref 50), (1, .int x1), (2, .int x2), (3, .int x3), (4, .int x4), (6, .int x6)] dX6_findWay_231 (Nat.le_of_ble_eq_true rfl) rfl ?_
            refine r_iinc C 6 (x6 + 1) [(6, .int (x6 + 1)), (5, .int x5), (0, .ref 50), (1, .int x1), (2, .int x2), (3, .int x3), (4, .int x4)] dX6_findWay_233 rfl rfl (Nat.le_of_ble_eq_true rfl) rfl ?_
            refine r_goto C 150 dX6_findWay_236 (by decide) ?_
            refine r_lv [(0, .ref 50), (1, .int x1), (2, .int x2), (3, .int x3), (4, .int x4), (5, .int x5), (6, .int (x6 + 1))] [2, 3, 4, 5, 6, 1, 0] rfl ?_
            exact ih x1 x2 x3 x4 x5 (x6 + 1) M'
          · refine r_iload C 5 dX6_findWay_197 rfl ?_
            refine r_aload_n C 0 dX6_findWay_199 rfl ?_
            refine r_iload C 4 dX6_findWay_200 rfl ?_
            refine r_iload C 6 dX6_findWay_202 rfl ?_
            refine r_iload_n C 2 dX6_findWay_204 rfl ?_
            refine r_callV0 C (o_X6_worthBetween l M' x4 x6 x2) v_X6_worthBetween m_1186 [.int x4, .int x6, .int x2] [.int x5] (50) (Or.inl ⟨0, 5, _, TX6, 25, rfl, rfl, rfl⟩) (fun u14 => [.int u14, .int x5]) (fun u14 => [.inr (5, [.ref 51, .ref 52, .ref 53, .int (M'.1 3), .ref 54, .ref 55, .ref 56, .int (M'.1 7), .ref 57, .ref 58, .int (M'.1 10), .int (M'.1 11), .int (M'.1 12), .int (M'.1 13), .int (M'.1 14), .int (M'.1 15), .ref 59, .ref 60, .int (M'.1 18), .int (M'.1 19), .int (M'.1 20), .ref 61, .ref 62, .ref 63, .ref 64]), .inl (0, 68, .inl (M'.2 0)), .inl (0, 68, .inl (M'.2 1)), .inl (0, 68, .inl (M'.2 2)), .inl (0, 8, .inl (M'.2 4)), .inl (0, 1053, .inl (M'.2 5)), .inl (1, 972, .inl (M'.2 6)), .inl (0, 1053, .inl (M'.2 8)), .inl (0, 120, .inl (M'.2 9)), .inl (3, 7, .inr (.inr (.inr (.inr q_kf)))), .inl (0, 360, .inl (M'.2 17)), .inl (0, 4, .inl (M'.2 21)), .inl (0, 4, .inl (M'.2 22)), .inl (0, 160, .inl (M'.2 23)), .inl (0, 40, .inl (M'.2 24))]) rfl rfl rfl (Nat.le_of_ble_eq_true rfl) ⟨(Nat.le_of_ble_eq_true rfl), (Nat.le_of_ble_eq_true rfl)⟩ ⟨Nat.zero_le _, Nat.zero_le _⟩ dX6_findWay_205 (fun _ => rfl) (fun _ => rfl) (fun _ => rfl) (fun u14 => ?_)
            refine r_aload_n C 0 dX6_findWay_208 rfl ?_
            refine r_get C 0 5 dX6_findWay_209 K_X6 rfl rfl (Nat.le_of_ble_eq_true rfl) rfl m_920 rfl ?_
            refine r_iload_n C 3 dX6_findWay_212 rfl ?_
            refine r_iconst C (1) dX6_findWay_213 rfl ?_
            refine r_iadd C dX6_findWay_214 ?_
            refine r_bipush C (81) dX6_findWay_215 rfl ?_
            refine r_imul C dX6_findWay_217 ?_
            refine r_iload C 6 dX6_findWay_218 rfl ?_
            refine r_iadd C dX6_findWay_220 ?_
            refine r_iald C 5 dX6_findWay_221 rfl rfl (fun hi221 => ?_)
            refine r_iadd C dX6_findWay_222 ?_
            refine r_mmin C dX6_findWay_223 m_1190 m_465 m_8 m_466 (Nat.le_of_ble_eq_true rfl) (Nat.le_of_ble_eq_true rfl) (Nat.zero_le _) (Nat.zero_le _) ?_
            refine r_goto C 231 dX6_findWay_226 (by decide) ?_
            refine r_istore C [(5, .int (if (u14 + (M'.2 5 (((x3 + (1 : Int32)) * (81 : Int32)) + x6).toNatClampNeg)) < x5 then (u14 + (M'.2 5 (((x3 + (1 : Int32)) * (81 : Int32)) + x6).toNatClampNeg)) else x5)), (0, .ref 50), (1, .int x1), (2, .int x2), (3, .int x3), (4, .int x4), (6, .int x6)] dX6_findWay_231 (Nat.le_of_ble_eq_true rfl) rfl ?_
            refine r_iinc C 6 (x6 + 1) [(6, .int (x6 + 1)), (5, .int (if (u14 + (M'.2 5 (((x3 + (1 : Int32)) * (81 : Int32)) + x6).toNatClampNeg)) < x5 then (u14 + (M'.2 5 (((x3 + (1 : Int32)) * (81 : Int32)) + x6).toNatClampNeg)) else x5)), (0, .ref 50), (1, .int x1), (2, .int x2), (3, .int x3), (4, .int x4)] dX6_findWay_233 rfl rfl (Nat.le_of_ble_eq_true rfl) rfl ?_
            refine r_goto C 150 dX6_findWay_236 (by decide) ?_
            refine r_lv [(0, .ref 50), (1, .int x1), (2, .int x2), (3, .int x3), (4, .int x4), (5, .int (if (u14 + (M'.2 5 (((x3 + (1 : Int32)) * (81 : Int32)) + x6).toNatClampNeg)) < x5 then (u14 + (M'.2 5 (((x3 + (1 : Int32)) * (81 : Int32)) + x6).toNatClampNeg)) else x5)), (6, .int (x6 + 1))] [2, 3, 4, 5, 6, 1, 0] rfl ?_
            exact ih x1 x2 x3 x4 (if (u14 + (M'.2 5 (((x3 + (1 : Int32)) * (81 : Int32)) + x6).toNatClampNeg)) < x5 then (u14 + (M'.2 5 (((x3 + (1 : Int32)) * (81 : Int32)) + x6).toNatClampNeg)) else x5) (x6 + 1) M'
set_option maxRecDepth 100000 in
set_option maxHeartbeats 4000000 in
theorem k_X6_findWay_111 {p : Program} {l : Launch} {e : Env} {s : State} {m : MethodId} {args : Array Value} {below : List Frame} {meth : Method} {c : Code} {dC : Nat → ClassId} {dI : Nat → Nat → Nat} {dA : Nat → ClassId} {A : Nat → Prop} {α : Nat → Nat} {t : Int32 × q_St} (C : q_Cx p s m args meth c cX6_findWay 7 RX6 (some .int) "findWay" dC dI dA A α) (M : q_St) (a1 : Int32) (a2 : Int32) (r28 : Int32 → Int32 → Int32 → q_St → Option (Int32 × q_St))
    (hr28 : ∀ (x1 : Int32) (x2 : Int32) (x3 : Int32) (M' : q_St), q_S p l e (q_rm 5 110) s m args below meth c 7 dC dI dA A α (MQ below (q_Q α dC dI dA A ((fun u => some (.int u.1)) t) ((fun u => w_X6 u.2) t)) args s 0 0 A) 0 0 (r28 x1 x2 x3 M') t 28 [(0, .ref 50), (1, .int x1), (2, .int x2), (3, .int x3)] [] (w_X6 M')) : ∀ (n : Nat) (x1 : Int32) (x2 : Int32) (x3 : Int32) (x4 : Int32) (M' : q_St), q_S p l e (q_rm 5 110) s m args below meth c 7 dC dI dA A α (MQ below (q_Q α dC dI dA A ((fun u => some (.int u.1)) t) ((fun u => w_X6 u.2) t)) args s 0 0 A) 0 0 (f_X6_findWay_111 M a1 a2 r28 n x1 x2 x3 x4 M') t 111 [(0, .ref 50), (1, .int x1), (2, .int x2), (3, .int x3), (4, .int x4)] [] (w_X6 M') := by
  intro n
  induction n with
  | zero =>
    intro x1 x2 x3 x4 M'
    exact r_cut (f_X6_findWay_111.eq_1 _ _ _ _ _ _ _ _ _) (r_none True.intro)
  | succ n ih =>
    intro x1 x2 x3 x4 M'
    refine r_cut (f_X6_findWay_111.eq_2 _ _ _ _ _ _ _ _ _ _) ?_
    refine r_iload C 4 dX6_findWay_111 rfl ?_
    refine r_bipush C (81) dX6_findWay_113 rfl ?_
    refine r_icmp_ge C 259 dX6_findWay_115 (by decide) (fun h115 => ?_) (fun h115 => ?_)
    · refine r_iinc C 3 (x3 + (-1)) [(3, .int (x3 + (-1))), (0, .ref 50), (1, .int x1), (2, .int x2), (4, .int x4)] dX6_findWay_259 rfl rfl (Nat.le_of_ble_eq_true rfl) rfl ?_
      refine r_goto C 28 dX6_findWay_262 (by decide) ?_
      refine r_lv [(0, .ref 50), (1, .int x1), (2, .int x2), (3, .int (x3 + (-1)))] [1, 2, 3, 0] rfl ?_
      exact hr28 x1 x2 (x3 + (-1)) M'
    · refine r_iload_n C 1 dX6_findWay_118 rfl ?_
      refine r_iload_n C 3 dX6_findWay_119 rfl ?_
      refine r_callS C (o_X6_has l x1 x3) v_X6_has m_1094 [] [.int x1, .int x3] [] (fun u9 => [.int u9]) (fun u9 => [.inr (5, [.ref 51, .ref 52, .ref 53, .int (M'.1 3), .ref 54, .ref 55, .ref 56, .int (M'.1 7), .ref 57, .ref 58, .int (M'.1 10), .int (M'.1 11), .int (M'.1 12), .int (M'.1 13), .int (M'.1 14), .int (M'.1 15), .ref 59, .ref 60, .int (M'.1 18), .int (M'.1 19), .int (M'.1 20), .ref 61, .ref 62, .ref 63, .ref 64]), .inl (0, 68, .inl (M'.2 0)), .inl (0, 68, .inl (M'.2 1)), .inl (0, 68, .inl (M'.2 2)), .inl (0, 8, .inl (M'.2 4)), .inl (0, 1053, .inl (M'.2 5)), .inl (1, 972, .inl (M'.2 6)), .inl (0, 1053, .inl (M'.2 8)), .inl (0, 120, .inl (M'.2 9)), .inl (3, 7, .inr (.inr (.inr (.inr q_kf)))), .inl (0, 360, .inl (M'.2 17)), .inl (0, 4, .inl (M'.2 21)), .inl (0, 4, .inl (M'.2 22)), .inl (0, 160, .inl (M'.2 23)), .inl (0, 40, .inl (M'.2 24))]) rfl rfl rfl rfl rfl (Nat.le_of_ble_eq_true rfl) ⟨(Nat.le_of_ble_eq_true rfl), (Nat.le_of_ble_eq_true rfl)⟩ ⟨Nat.zero_le _, Nat.zero_le _⟩ dX6_findWay_120 (fun _ => rfl) (fun _ => rfl) (fun _ => rfl) (fun u9 => ?_)
      refine r_if_eq C 131 dX6_findWay_123 (by decide) (fun h123 => ?_) (fun h123 => ?_)
      · refine r_aload_n C 0 dX6_findWay_131 rfl ?_
        refine r_get C 0 5 dX6_findWay_132 K_X6 rfl rfl (Nat.le_of_ble_eq_true rfl) rfl m_920 rfl ?_
        refine r_iload_n C 3 dX6_findWay_135 rfl ?_
        refine r_iconst C (1) dX6_findWay_136 rfl ?_
        refine r_iadd C dX6_findWay_137 ?_
        refine r_bipush C (81) dX6_findWay_138 rfl ?_
        refine r_imul C dX6_findWay_140 ?_
        refine r_iload C 4 dX6_findWay_141 rfl ?_
        refine r_iadd C dX6_findWay_143 ?_
        refine r_iald C 5 dX6_findWay_144 rfl rfl (fun hi144 => ?_)
        refine r_istore C [(5, .int (M'.2 5 (((x3 + (1 : Int32)) * (81 : Int32)) + x4).toNatClampNeg)), (0, .ref 50), (1, .int x1), (2, .int x2), (3, .int x3), (4, .int x4)] dX6_findWay_145 (Nat.le_of_ble_eq_true rfl) rfl ?_
        refine r_iconst C (0) dX6_findWay_147 rfl ?_
        refine r_istore C [(6, .int (0 : Int32)), (5, .int (M'.2 5 (((x3 + (1 : Int32)) * (81 : Int32)) + x4).toNatClampNeg)), (0, .ref 50), (1, .int x1), (2, .int x2), (3, .int x3), (4, .int x4)] dX6_findWay_148 (Nat.le_of_ble_eq_true rfl) rfl ?_
        refine r_lv [(0, .ref 50), (1, .int x1), (2, .int x2), (3, .int x3), (4, .int x4), (5, .int (M'.2 5 (((x3 + (1 : Int32)) * (81 : Int32)) + x4).toNatClampNeg)), (6, .int (0 : Int32))] [2, 3, 4, 5, 6, 1, 0] rfl ?_
        exact k_X6_findWay_150 C M a1 a2 r28 (fun x1 x2 x3 x4 M' => f_X6_findWay_111 M a1 a2 r28 n x1 x2 x3 x4 M') hr28 ih q_N x1 x2 x3 x4 (M'.2 5 (((x3 + (1 : Int32)) * (81 : Int32)) + x4).toNatClampNeg) (0 : Int32) M'
      · refine r_ldc C (1000000) dX6_findWay_126 m_1185 ?_
        refine r_goto C 145 dX6_findWay_128 (by decide) ?_
        refine r_istore C [(5, .int (1000000 : Int32)), (0, .ref 50), (1, .int x1), (2, .int x2), (3, .int x3), (4, .int x4)] dX6_findWay_145 (Nat.le_of_ble_eq_true rfl) rfl ?_
        refine r_iconst C (0) dX6_findWay_147 rfl ?_
        refine r_istore C [(6, .int (0 : Int32)), (5, .int (1000000 : Int32)), (0, .ref 50), (1, .int x1), (2, .int x2), (3, .int x3), (4, .int x4)] dX6_findWay_148 (Nat.le_of_ble_eq_true rfl) rfl ?_
        refine r_lv [(0, .ref 50), (1, .int x1), (2, .int x2), (3, .int x3), (4, .int x4), (5, .int (1000000 : Int32)), (6, .int (0 : Int32))] [2, 3, 4, 5, 6, 1, 0] rfl ?_
        exact k_X6_findWay_150 C M a1 a2 r28 (fun x1 x2 x3 x4 M' => f_X6_findWay_111 M a1 a2 r28 n x1 x2 x3 x4 M') hr28 ih q_N x1 x2 x3 x4 (1000000 : Int32) (0 : Int32) M'
set_option maxRecDepth 100000 in
set_option maxHeartbeats 4000000 in
theorem k_X6_findWay_35 {p : Program} {l : Launch} {e : Env} {s : State} {m : MethodId} {args : Array Value} {below : List Frame} {meth : Method} {c : Code} {dC : Nat → ClassId} {dI : Nat → Nat → Nat} {dA : Nat → ClassId} {A : Nat → Prop} {α : Nat → Nat} {t : Int32 × q_St} (C : q_Cx p s m args meth c cX6_findWay 7 RX6 (some .int) "findWay" dC dI dA A α) (M : q_St) (a1 : Int32) (a2 : Int32) (r28 : Int32 → Int32 → Int32 → q_St → Option (Int32 × q_St))
    (hr28 : ∀ (x1 : Int32) (x2 : Int32) (x3 : Int32) (M' : q_St), q_S p l e (q_rm 5 110) s m args below meth c 7 dC dI dA A α (MQ below (q_Q α dC dI dA A ((fun u => some (.int u.1)) t) ((fun u => w_X6 u.2) t)) args s 0 0 A) 0 0 (r28 x1 x2 x3 M') t 28 [(0, .ref 50), (1, .int x1), (2, .int x2), (3, .int x3)] [] (w_X6 M')) : ∀ (n : Nat) (x1 : Int32) (x2 : Int32) (x3 : Int32) (x4 : Int32) (M' : q_St), q_S p l e (q_rm 5 110) s m args below meth c 7 dC dI dA A α (MQ below (q_Q α dC dI dA A ((fun u => some (.int u.1)) t) ((fun u => w_X6 u.2) t)) args s 0 0 A) 0 0 (f_X6_findWay_35 M a1 a2 r28 n x1 x2 x3 x4 M') t 35 [(0, .ref 50), (1, .int x1), (2, .int x2), (3, .int x3), (4, .int x4)] [] (w_X6 M') := by
  intro n
  induction n with
  | zero =>
    intro x1 x2 x3 x4 M'
    exact r_cut (f_X6_findWay_35.eq_1 _ _ _ _ _ _ _ _ _) (r_none True.intro)
  | succ n ih =>
    intro x1 x2 x3 x4 M'
    refine r_cut (f_X6_findWay_35.eq_2 _ _ _ _ _ _ _ _ _ _) ?_
    refine r_iload C 4 dX6_findWay_35 rfl ?_
    refine r_bipush C (81) dX6_findWay_37 rfl ?_
    refine r_icmp_ge C 108 dX6_findWay_39 (by decide) (fun h39 => ?_) (fun h39 => ?_)
    · refine r_iconst C (0) dX6_findWay_108 rfl ?_
      refine r_istore C [(4, .int (0 : Int32)), (0, .ref 50), (1, .int x1), (2, .int x2), (3, .int x3)] dX6_findWay_109 (Nat.le_of_ble_eq_true rfl) rfl ?_
      refine r_lv [(0, .ref 50), (1, .int x1), (2, .int x2), (3, .int x3), (4, .int (0 : Int32))] [1, 2, 3, 4, 0] rfl ?_
      exact k_X6_findWay_111 C M a1 a2 r28 hr28 q_N x1 x2 x3 (0 : Int32) M'
    · refine r_aload_n C 0 dX6_findWay_42 rfl ?_
      refine r_get C 0 6 dX6_findWay_43 K_X6 rfl rfl (Nat.le_of_ble_eq_true rfl) rfl m_921 rfl ?_
      refine r_iload_n C 3 dX6_findWay_46 rfl ?_
      refine r_bipush C (81) dX6_findWay_47 rfl ?_
      refine r_imul C dX6_findWay_49 ?_
      refine r_iload C 4 dX6_findWay_50 rfl ?_
      refine r_iadd C dX6_findWay_52 ?_
      refine r_iload_n C 1 dX6_findWay_53 rfl ?_
      refine r_iload_n C 3 dX6_findWay_54 rfl ?_
      refine r_callS C (o_X6_has l x1 x3) v_X6_has m_1094 [] [.int x1, .int x3] [.int ((x3 * (81 : Int32)) + x4), .ref 56] (fun u2 => [.int u2, .int ((x3 * (81 : Int32)) + x4), .ref 56]) (fun u2 => [.inr (5, [.ref 51, .ref 52, .ref 53, .int (M'.1 3), .ref 54, .ref 55, .ref 56, .int (M'.1 7), .ref 57, .ref 58, .int (M'.1 10), .int (M'.1 11), .int (M'.1 12), .int (M'.1 13), .int (M'.1 14), .int (M'.1 15), .ref 59, .ref 60, .int (M'.1 18), .int (M'.1 19), .int (M'.1 20), .ref 61, .ref 62, .ref 63, .ref 64]), .inl (0, 68, .inl (M'.2 0)), .inl (0, 68, .inl (M'.2 1)), .inl (0, 68, .inl (M'.2 2)), .inl (0, 8, .inl (M'.2 4)), .inl (0, 1053, .inl (M'.2 5)), .inl (1, 972, .inl (M'.2 6)), .inl (0, 1053, .inl (M'.2 8)), .inl (0, 120, .inl (M'.2 9)), .inl (3, 7, .inr (.inr (.inr (.inr q_kf)))), .inl (0, 360, .inl (M'.2 17)), .inl (0, 4, .inl (M'.2 21)), .inl (0, 4, .inl (M'.2 22)), .inl (0, 160, .inl (M'.2 23)), .inl (0, 40, .inl (M'.2 24))]) rfl rfl rfl rfl rfl (Nat.le_of_ble_eq_true rfl) ⟨(Nat.le_of_ble_eq_true rfl), (Nat.le_of_ble_eq_true rfl)⟩ ⟨Nat.zero_le _, Nat.zero_le _⟩ dX6_findWay_55 (fun _ => rfl) (fun _ => rfl) (fun _ => rfl) (fun u2 => ?_)
      refine r_if_eq C 100 dX6_findWay_58 (by decide) (fun h58 => ?_) (fun h58 => ?_)
      · refine r_iconst C (0) dX6_findWay_100 rfl ?_
        refine r_zast C 6 _ dX6_findWay_101 rfl rfl rfl (fun hi101 => ?_)
        refine r_iinc C 4 (x4 + 1) [(4, .int (x4 + 1)), (0, .ref 50), (1, .int x1), (2, .int x2), (3, .int x3)] dX6_findWay_102 rfl rfl (Nat.le_of_ble_eq_true rfl) rfl ?_
        refine r_goto C 35 dX6_findWay_105 (by decide) ?_
        refine r_lv [(0, .ref 50), (1, .int x1), (2, .int x2), (3, .int x3), (4, .int (x4 + 1))] [1, 2, 3, 4, 0] rfl ?_
        exact ih x1 x2 x3 (x4 + 1) (M'.1, (va_up M'.2 6 (upd (M'.2 6) ((x3 * (81 : Int32)) + x4).toNatClampNeg (vp_nar .boolean (0 : Int32)))))
      · refine r_aload_n C 0 dX6_findWay_61 rfl ?_
        refine r_iload C 4 dX6_findWay_62 rfl ?_
        refine r_callS C (o_X6_leftOf l x4) v_X6_leftOf m_1175 [] [.int x4] [.ref 50, .int ((x3 * (81 : Int32)) + x4), .ref 56] (fun u3 => [.int u3, .ref 50, .int ((x3 * (81 : Int32)) + x4), .ref 56]) (fun u3 => [.inr (5, [.ref 51, .ref 52, .ref 53, .int (M'.1 3), .ref 54, .ref 55, .ref 56, .int (M'.1 7), .ref 57, .ref 58, .int (M'.1 10), .int (M'.1 11), .int (M'.1 12), .int (M'.1 13), .int (M'.1 14), .int (M'.1 15), .ref 59, .ref 60, .int (M'.1 18), .int (M'.1 19), .int (M'.1 20), .ref 61, .ref 62, .ref 63, .ref 64]), .inl (0, 68, .inl (M'.2 0)), .inl (0, 68, .inl (M'.2 1)), .inl (0, 68, .inl (M'.2 2)), .inl (0, 8, .inl (M'.2 4)), .inl (0, 1053, .inl (M'.2 5)), .inl (1, 972, .inl (M'.2 6)), .inl (0, 1053, .inl (M'.2 8)), .inl (0, 120, .inl (M'.2 9)), .inl (3, 7, .inr (.inr (.inr (.inr q_kf)))), .inl (0, 360, .inl (M'.2 17)), .inl (0, 4, .inl (M'.2 21)), .inl (0, 4, .inl (M'.2 22)), .inl (0, 160, .inl (M'.2 23)), .inl (0, 40, .inl (M'.2 24))]) rfl rfl rfl rfl rfl (Nat.le_of_ble_eq_true rfl) ⟨(Nat.le_of_ble_eq_true rfl), (Nat.le_of_ble_eq_true rfl)⟩ ⟨Nat.zero_le _, Nat.zero_le _⟩ dX6_findWay_64 (fun _ => rfl) (fun _ => rfl) (fun _ => rfl) (fun u3 => ?_)
        refine r_iload C 4 dX6_findWay_67 rfl ?_
        refine r_callS C (o_X6_rightOf l x4) v_X6_rightOf m_1178 [] [.int x4] [.int u3, .ref 50, .int ((x3 * (81 : Int32)) + x4), .ref 56] (fun u4 => [.int u4, .int u3, .ref 50, .int ((x3 * (81 : Int32)) + x4), .ref 56]) (fun u4 => [.inr (5, [.ref 51, .ref 52, .ref 53, .int (M'.1 3), .ref 54, .ref 55, .ref 56, .int (M'.1 7), .ref 57, .ref 58, .int (M'.1 10), .int (M'.1 11), .int (M'.1 12), .int (M'.1 13), .int (M'.1 14), .int (M'.1 15), .ref 59, .ref 60, .int (M'.1 18), .int (M'.1 19), .int (M'.1 20), .ref 61, .ref 62, .ref 63, .ref 64]), .inl (0, 68, .inl (M'.2 0)), .inl (0, 68, .inl (M'.2 1)), .inl (0, 68, .inl (M'.2 2)), .inl (0, 8, .inl (M'.2 4)), .inl (0, 1053, .inl (M'.2 5)), .inl (1, 972, .inl (M'.2 6)), .inl (0, 1053, .inl (M'.2 8)), .inl (0, 120, .inl (M'.2 9)), .inl (3, 7, .inr (.inr (.inr (.inr q_kf)))), .inl (0, 360, .inl (M'.2 17)), .inl (0, 4, .inl (M'.2 21)), .inl (0, 4, .inl (M'.2 22)), .inl (0, 160, .inl (M'.2 23)), .inl (0, 40, .inl (M'.2 24))]) rfl rfl rfl rfl rfl (Nat.le_of_ble_eq_true rfl) ⟨(Nat.le_of_ble_eq_true rfl), (Nat.le_of_ble_eq_true rfl)⟩ ⟨Nat.zero_le _, Nat.zero_le _⟩ dX6_findWay_69 (fun _ => rfl) (fun _ => rfl) (fun _ => rfl) (fun u4 => ?_)
        refine r_callV0 C (o_X6_isHold l M' u3 u4) v_X6_isHold m_1181 [.int u3, .int u4] [.int ((x3 * (81 : Int32)) + x4), .ref 56] (50) (Or.inl ⟨0, 5, _, TX6, 25, rfl, rfl, rfl⟩) (fun u5 => [.int u5, .int ((x3 * (81 : Int32)) + x4), .ref 56]) (fun u5 => [.inr (5, [.ref 51, .ref 52, .ref 53, .int (M'.1 3), .ref 54, .ref 55, .ref 56, .int (M'.1 7), .ref 57, .ref 58, .int (M'.1 10), .int (M'.1 11), .int (M'.1 12), .int (M'.1 13), .int (M'.1 14), .int (M'.1 15), .ref 59, .ref 60, .int (M'.1 18), .int (M'.1 19), .int (M'.1 20), .ref 61, .ref 62, .ref 63, .ref 64]), .inl (0, 68, .inl (M'.2 0)), .inl (0, 68, .inl (M'.2 1)), .inl (0, 68, .inl (M'.2 2)), .inl (0, 8, .inl (M'.2 4)), .inl (0, 1053, .inl (M'.2 5)), .inl (1, 972, .inl (M'.2 6)), .inl (0, 1053, .inl (M'.2 8)), .inl (0, 120, .inl (M'.2 9)), .inl (3, 7, .inr (.inr (.inr (.inr q_kf)))), .inl (0, 360, .inl (M'.2 17)), .inl (0, 4, .inl (M'.2 21)), .inl (0, 4, .inl (M'.2 22)), .inl (0, 160, .inl (M'.2 23)), .inl (0, 40, .inl (M'.2 24))]) rfl rfl rfl (Nat.le_of_ble_eq_true rfl) ⟨(Nat.le_of_ble_eq_true rfl), (Nat.le_of_ble_eq_true rfl)⟩ ⟨Nat.zero_le _, Nat.zero_le _⟩ dX6_findWay_72 (fun _ => rfl) (fun _ => rfl) (fun _ => rfl) (fun u5 => ?_)
        refine r_if_eq C 100 dX6_findWay_75 (by decide) (fun h75 => ?_) (fun h75 => ?_)
        · refine r_iconst C (0) dX6_findWay_100 rfl ?_
          refine r_zast C 6 _ dX6_findWay_101 rfl rfl rfl (fun hi101 => ?_)
          refine r_iinc C 4 (x4 + 1) [(4, .int (x4 + 1)), (0, .ref 50), (1, .int x1), (2, .int x2), (3, .int x3)] dX6_findWay_102 rfl rfl (Nat.le_of_ble_eq_true rfl) rfl ?_
          refine r_goto C 35 dX6_findWay_105 (by decide) ?_
          refine r_lv [(0, .ref 50), (1, .int x1), (2, .int x2), (3, .int x3), (4, .int (x4 + 1))] [1, 2, 3, 4, 0] rfl ?_
          exact ih x1 x2 x3 (x4 + 1) (M'.1, (va_up M'.2 6 (upd (M'.2 6) ((x3 * (81 : Int32)) + x4).toNatClampNeg (vp_nar .boolean (0 : Int32)))))
        · refine r_aload_n C 0 dX6_findWay_78 rfl ?_
          refine r_iload C 4 dX6_findWay_79 rfl ?_
          refine r_callS C (o_X6_leftOf l x4) v_X6_leftOf m_1175 [] [.int x4] [.ref 50, .int ((x3 * (81 : Int32)) + x4), .ref 56] (fun u6 => [.int u6, .ref 50, .int ((x3 * (81 : Int32)) + x4), .ref 56]) (fun u6 => [.inr (5, [.ref 51, .ref 52, .ref 53, .int (M'.1 3), .ref 54, .ref 55, .ref 56, .int (M'.1 7), .ref 57, .ref 58, .int (M'.1 10), .int (M'.1 11), .int (M'.1 12), .int (M'.1 13), .int (M'.1 14), .int (M'.1 15), .ref 59, .ref 60, .int (M'.1 18), .int (M'.1 19), .int (M'.1 20), .ref 61, .ref 62, .ref 63, .ref 64]), .inl (0, 68, .inl (M'.2 0)), .inl (0, 68, .inl (M'.2 1)), .inl (0, 68, .inl (M'.2 2)), .inl (0, 8, .inl (M'.2 4)), .inl (0, 1053, .inl (M'.2 5)), .inl (1, 972, .inl (M'.2 6)), .inl (0, 1053, .inl (M'.2 8)), .inl (0, 120, .inl (M'.2 9)), .inl (3, 7, .inr (.inr (.inr (.inr q_kf)))), .inl (0, 360, .inl (M'.2 17)), .inl (0, 4, .inl (M'.2 21)), .inl (0, 4, .inl (M'.2 22)), .inl (0, 160, .inl (M'.2 23)), .inl (0, 40, .inl (M'.2 24))]) rfl rfl rfl rfl rfl (Nat.le_of_ble_eq_true rfl) ⟨(Nat.le_of_ble_eq_true rfl), (Nat.le_of_ble_eq_true rfl)⟩ ⟨Nat.zero_le _, Nat.zero_le _⟩ dX6_findWay_81 (fun _ => rfl) (fun _ => rfl) (fun _ => rfl) (fun u6 => ?_)
          refine r_iload C 4 dX6_findWay_84 rfl ?_
          refine r_callS C (o_X6_rightOf l x4) v_X6_rightOf m_1178 [] [.int x4] [.int u6, .ref 50, .int ((x3 * (81 : Int32)) + x4), .ref 56] (fun u7 => [.int u7, .int u6, .ref 50, .int ((x3 * (81 : Int32)) + x4), .ref 56]) (fun u7 => [.inr (5, [.ref 51, .ref 52, .ref 53, .int (M'.1 3), .ref 54, .ref 55, .ref 56, .int (M'.1 7), .ref 57, .ref 58, .int (M'.1 10), .int (M'.1 11), .int (M'.1 12), .int (M'.1 13), .int (M'.1 14), .int (M'.1 15), .ref 59, .ref 60, .int (M'.1 18), .int (M'.1 19), .int (M'.1 20), .ref 61, .ref 62, .ref 63, .ref 64]), .inl (0, 68, .inl (M'.2 0)), .inl (0, 68, .inl (M'.2 1)), .inl (0, 68, .inl (M'.2 2)), .inl (0, 8, .inl (M'.2 4)), .inl (0, 1053, .inl (M'.2 5)), .inl (1, 972, .inl (M'.2 6)), .inl (0, 1053, .inl (M'.2 8)), .inl (0, 120, .inl (M'.2 9)), .inl (3, 7, .inr (.inr (.inr (.inr q_kf)))), .inl (0, 360, .inl (M'.2 17)), .inl (0, 4, .inl (M'.2 21)), .inl (0, 4, .inl (M'.2 22)), .inl (0, 160, .inl (M'.2 23)), .inl (0, 40, .inl (M'.2 24))]) rfl rfl rfl rfl rfl (Nat.le_of_ble_eq_true rfl) ⟨(Nat.le_of_ble_eq_true rfl), (Nat.le_of_ble_eq_true rfl)⟩ ⟨Nat.zero_le _, Nat.zero_le _⟩ dX6_findWay_86 (fun _ => rfl) (fun _ => rfl) (fun _ => rfl) (fun u7 => ?_)
          refine r_iload_n C 3 dX6_findWay_89 rfl ?_
          refine r_callV0 C (o_X6_doesSuit l M' u6 u7 x3) v_X6_doesSuit m_1148 [.int u6, .int u7, .int x3] [.int ((x3 * (81 : Int32)) + x4), .ref 56] (50) (Or.inl ⟨0, 5, _, TX6, 25, rfl, rfl, rfl⟩) (fun u8 => [.int u8, .int ((x3 * (81 : Int32)) + x4), .ref 56]) (fun u8 => [.inr (5, [.ref 51, .ref 52, .ref 53, .int (M'.1 3), .ref 54, .ref 55, .ref 56, .int (M'.1 7), .ref 57, .ref 58, .int (M'.1 10), .int (M'.1 11), .int (M'.1 12), .int (M'.1 13), .int (M'.1 14), .int (M'.1 15), .ref 59, .ref 60, .int (M'.1 18), .int (M'.1 19), .int (M'.1 20), .ref 61, .ref 62, .ref 63, .ref 64]), .inl (0, 68, .inl (M'.2 0)), .inl (0, 68, .inl (M'.2 1)), .inl (0, 68, .inl (M'.2 2)), .inl (0, 8, .inl (M'.2 4)), .inl (0, 1053, .inl (M'.2 5)), .inl (1, 972, .inl (M'.2 6)), .inl (0, 1053, .inl (M'.2 8)), .inl (0, 120, .inl (M'.2 9)), .inl (3, 7, .inr (.inr (.inr (.inr q_kf)))), .inl (0, 360, .inl (M'.2 17)), .inl (0, 4, .inl (M'.2 21)), .inl (0, 4, .inl (M'.2 22)), .inl (0, 160, .inl (M'.2 23)), .inl (0, 40, .inl (M'.2 24))]) rfl rfl rfl (Nat.le_of_ble_eq_true rfl) ⟨(Nat.le_of_ble_eq_true rfl), (Nat.le_of_ble_eq_true rfl)⟩ ⟨Nat.zero_le _, Nat.zero_le _⟩ dX6_findWay_90 (fun _ => rfl) (fun _ => rfl) (fun _ => rfl) (fun u8 => ?_)
          refine r_if_eq C 100 dX6_findWay_93 (by decide) (fun h93 => ?_) (fun h93 => ?_)
          · refine r_iconst C (0) dX6_findWay_100 rfl ?_
            refine r_zast C 6 _ dX6_findWay_101 rfl rfl rfl (fun hi101 => ?_)
            refine r_iinc C 4 (x4 + 1) [(4, .int (x4 + 1)), (0, .ref 50), (1, .int x1), (2, .int x2), (3, .int x3)] dX6_findWay_102 rfl rfl (Nat.le_of_ble_eq_true rfl) rfl ?_
            refine r_goto C 35 dX6_findWay_105 (by decide) ?_
            refine r_lv [(0, .ref 50), (1, .int x1), (2, .int x2), (3, .int x3), (4, .int (x4 + 1))] [1, 2, 3, 4, 0] rfl ?_
            exact ih x1 x2 x3 (x4 + 1) (M'.1, (va_up M'.2 6 (upd (M'.2 6) ((x3 * (81 : Int32)) + x4).toNatClampNeg (vp_nar .boolean (0 : Int32)))))
          · refine r_iconst C (1) dX6_findWay_96 rfl ?_
            refine r_goto C 101 dX6_findWay_97 (by decide) ?_
            refine r_zast C 6 _ dX6_findWay_101 rfl rfl rfl (fun hi101 => ?_)
            refine r_iinc C 4 (x4 + 1) [(4, .int (x4 + 1)), (0, .ref 50), (1, .int x1), (2, .int x2), (3, .int x3)] dX6_findWay_102 rfl rfl (Nat.le_of_ble_eq_true rfl) rfl ?_
            refine r_goto C 35 dX6_findWay_105 (by decide) ?_
            refine r_lv [(0, .ref 50), (1, .int x1), (2, .int x2), (3, .int x3), (4, .int (x4 + 1))] [1, 2, 3, 4, 0] rfl ?_
            exact ih x1 x2 x3 (x4 + 1) (M'.1, (va_up M'.2 6 (upd (M'.2 6) ((x3 * (81 : Int32)) + x4).toNatClampNeg (vp_nar .boolean (1 : Int32)))))
set_option maxRecDepth 100000 in
set_option maxHeartbeats 4000000 in
theorem k_X6_findWay_28 {p : Program} {l : Launch} {e : Env} {s : State} {m : MethodId} {args : Array Value} {below : List Frame} {meth : Method} {c : Code} {dC : Nat → ClassId} {dI : Nat → Nat → Nat} {dA : Nat → ClassId} {A : Nat → Prop} {α : Nat → Nat} {t : Int32 × q_St} (C : q_Cx p s m args meth c cX6_findWay 7 RX6 (some .int) "findWay" dC dI dA A α) (M : q_St) (a1 : Int32) (a2 : Int32)  : ∀ (n : Nat) (x1 : Int32) (x2 : Int32) (x3 : Int32) (M' : q_St), q_S p l e (q_rm 5 110) s m args below meth c 7 dC dI dA A α (MQ below (q_Q α dC dI dA A ((fun u => some (.int u.1)) t) ((fun u => w_X6 u.2) t)) args s 0 0 A) 0 0 (f_X6_findWay_28 M a1 a2  n x1 x2 x3 M') t 28 [(0, .ref 50), (1, .int x1), (2, .int x2), (3, .int x3)] [] (w_X6 M') := by
  intro n
  induction n with
  | zero =>
    intro x1 x2 x3 M'
    exact r_cut (f_X6_findWay_28.eq_1 _ _ _ _ _ _ _) (r_none True.intro)
  | succ n ih =>
    intro x1 x2 x3 M'
    refine r_cut (f_X6_findWay_28.eq_2 _ _ _ _ _ _ _ _) ?_
    refine r_iload_n C 3 dX6_findWay_28 rfl ?_
    refine r_if_lt C 265 dX6_findWay_29 (by decide) (fun h29 => ?_) (fun h29 => ?_)
    · refine r_aload_n C 0 dX6_findWay_265 rfl ?_
      refine r_get C 0 5 dX6_findWay_266 K_X6 rfl rfl (Nat.le_of_ble_eq_true rfl) rfl m_920 rfl ?_
      refine r_aload_n C 0 dX6_findWay_269 rfl ?_
      refine r_callV0 C (o_X6_holdNow l M') v_X6_holdNow m_1191 [] [.ref 55] (50) (Or.inl ⟨0, 5, _, TX6, 25, rfl, rfl, rfl⟩) (fun u1 => [.int u1, .ref 55]) (fun u1 => [.inr (5, [.ref 51, .ref 52, .ref 53, .int (M'.1 3), .ref 54, .ref 55, .ref 56, .int (M'.1 7), .ref 57, .ref 58, .int (M'.1 10), .int (M'.1 11), .int (M'.1 12), .int (M'.1 13), .int (M'.1 14), .int (M'.1 15), .ref 59, .ref 60, .int (M'.1 18), .int (M'.1 19), .int (M'.1 20), .ref 61, .ref 62, .ref 63, .ref 64]), .inl (0, 68, .inl (M'.2 0)), .inl (0, 68, .inl (M'.2 1)), .inl (0, 68, .inl (M'.2 2)), .inl (0, 8, .inl (M'.2 4)), .inl (0, 1053, .inl (M'.2 5)), .inl (1, 972, .inl (M'.2 6)), .inl (0, 1053, .inl (M'.2 8)), .inl (0, 120, .inl (M'.2 9)), .inl (3, 7, .inr (.inr (.inr (.inr q_kf)))), .inl (0, 360, .inl (M'.2 17)), .inl (0, 4, .inl (M'.2 21)), .inl (0, 4, .inl (M'.2 22)), .inl (0, 160, .inl (M'.2 23)), .inl (0, 40, .inl (M'.2 24))]) rfl rfl rfl (Nat.le_of_ble_eq_true rfl) ⟨(Nat.le_of_ble_eq_true rfl), (Nat.le_of_ble_eq_true rfl)⟩ ⟨Nat.zero_le _, Nat.zero_le _⟩ dX6_findWay_270 (fun _ => rfl) (fun _ => rfl) (fun _ => rfl) (fun u1 => ?_)
      refine r_iald C 5 dX6_findWay_273 rfl rfl (fun hi273 => ?_)
      exact r_reti (x := (M'.2 5 u1.toNatClampNeg)) (rv := (fun u => some (.int u.1))) (hpE := (fun u => w_X6 u.2)) (t0 := ((M'.2 5 u1.toNatClampNeg), M')) C dX6_findWay_274 (by rfl) (by rfl) (by rfl)
    · refine r_iconst C (0) dX6_findWay_32 rfl ?_
      refine r_istore C [(4, .int (0 : Int32)), (0, .ref 50), (1, .int x1), (2, .int x2), (3, .int x3)] dX6_findWay_33 (Nat.le_of_ble_eq_true rfl) rfl ?_
      refine r_lv [(0, .ref 50), (1, .int x1), (2, .int x2), (3, .int x3), (4, .int (0 : Int32))] [1, 2, 3, 4, 0] rfl ?_
      exact k_X6_findWay_35 C M a1 a2 (fun x1 x2 x3 M' => f_X6_findWay_28 M a1 a2  n x1 x2 x3 M') ih q_N x1 x2 x3 (0 : Int32) M'
set_option maxRecDepth 100000 in
set_option maxHeartbeats 4000000 in
theorem k_X6_findWay_2 {p : Program} {l : Launch} {e : Env} {s : State} {m : MethodId} {args : Array Value} {below : List Frame} {meth : Method} {c : Code} {dC : Nat → ClassId} {dI : Nat → Nat → Nat} {dA : Nat → ClassId} {A : Nat → Prop} {α : Nat → Nat} {t : Int32 × q_St} (C : q_Cx p s m args meth c cX6_findWay 7 RX6 (some .int) "findWay" dC dI dA A α) (M : q_St) (a1 : Int32) (a2 : Int32)  : ∀ (n : Nat) (x1 : Int32) (x2 : Int32) (x3 : Int32) (M' : q_St), q_S p l e (q_rm 5 110) s m args below meth c 7 dC dI dA A α (MQ below (q_Q α dC dI dA A ((fun u => some (.int u.1)) t) ((fun u => w_X6 u.2) t)) args s 0 0 A) 0 0 (f_X6_findWay_2 M a1 a2  n x1 x2 x3 M') t 2 [(0, .ref 50), (1, .int x1), (2, .int x2), (3, .int x3)] [] (w_X6 M') := by
  intro n
  induction n with
  | zero =>
    intro x1 x2 x3 M'
    exact r_cut (f_X6_findWay_2.eq_1 _ _ _ _ _ _ _) (r_none True.intro)
  | succ n ih =>
    intro x1 x2 x3 M'
    refine r_cut (f_X6_findWay_2.eq_2 _ _ _ _ _ _ _ _) ?_
    refine r_iload_n C 3 dX6_findWay_2 rfl ?_
    refine r_bipush C (81) dX6_findWay_3 rfl ?_
    refine r_icmp_ge C 25 dX6_findWay_5 (by decide) (fun h5 => ?_) (fun h5 => ?_)
    · refine r_bipush C (11) dX6_findWay_25 rfl ?_
      refine r_istore_n C [(3, .int (11 : Int32)), (0, .ref 50), (1, .int x1), (2, .int x2)] dX6_findWay_27 (Nat.le_of_ble_eq_true rfl) rfl ?_
      refine r_lv [(0, .ref 50), (1, .int x1), (2, .int x2), (3, .int (11 : Int32))] [1, 2, 3, 0] rfl ?_
      exact k_X6_findWay_28 C M a1 a2   q_N x1 x2 (11 : Int32) M'
    · refine r_aload_n C 0 dX6_findWay_8 rfl ?_
      refine r_get C 0 5 dX6_findWay_9 K_X6 rfl rfl (Nat.le_of_ble_eq_true rfl) rfl m_920 rfl ?_
      refine r_sipush C (972) dX6_findWay_12 rfl ?_
      refine r_iload_n C 3 dX6_findWay_15 rfl ?_
      refine r_iadd C dX6_findWay_16 ?_
      refine r_iconst C (0) dX6_findWay_17 rfl ?_
      refine r_iast C 5 _ dX6_findWay_18 rfl rfl rfl (fun hi18 => ?_)
      refine r_iinc C 3 (x3 + 1) [(3, .int (x3 + 1)), (0, .ref 50), (1, .int x1), (2, .int x2)] dX6_findWay_19 rfl rfl (Nat.le_of_ble_eq_true rfl) rfl ?_
      refine r_goto C 2 dX6_findWay_22 (by decide) ?_
      refine r_lv [(0, .ref 50), (1, .int x1), (2, .int x2), (3, .int (x3 + 1))] [1, 2, 3, 0] rfl ?_
      exact ih x1 x2 (x3 + 1) (M'.1, (va_up M'.2 5 (upd (M'.2 5) ((972 : Int32) + x3).toNatClampNeg (0 : Int32))))
set_option maxRecDepth 100000 in
set_option maxHeartbeats 4000000 in
theorem o_X6_findWay (l : Launch) (M : q_St) (a1 : Int32) (a2 : Int32) : q_Ok l yX6_findWay cX6_findWay 7 (some .int) 5 110 [.ref 50, .int a1, .int a2] (w_X6 M) (f_X6_findWay M a1 a2) (fun u => some (.int u.1)) (fun u => w_X6 u.2) := by
  refine q_enter (by decide +kernel) (Nat.le_of_ble_eq_true rfl) (fun t p e s m args below meth c dC dI dA A α C => ?_)
  refine r_cut (f_X6_findWay.eq_1 _ _ _) ?_
  show q_S p l e (q_rm 5 110) s m args below meth c 7 dC dI dA A α (MQ below (q_Q α dC dI dA A ((fun u => some (.int u.1)) t) ((fun u => w_X6 u.2) t)) args s 0 0 A) 0 0 _ t 0 [(0, .ref 50), (1, .int a1), (2, .int a2)] [] (w_X6 M)
  refine r_iconst C (0) dX6_findWay_0 rfl ?_
  refine r_istore_n C [(3, .int (0 : Int32)), (0, .ref 50), (1, .int a1), (2, .int a2)] dX6_findWay_1 (Nat.le_of_ble_eq_true rfl) rfl ?_
  refine r_lv [(0, .ref 50), (1, .int a1), (2, .int a2), (3, .int (0 : Int32))] [1, 2, 3, 0] rfl ?_
  exact k_X6_findWay_2 C M a1 a2   q_N a1 a2 (0 : Int32) M
set_option maxRecDepth 100000 in
set_option maxHeartbeats 4000000 in
theorem o_X6_allBeats (l : Launch) (M : q_St) : q_Ok l yX6_allBeats cX6_allBeats 1 (some .int) 0 0 [.ref 50] (w_X6 M) (f_X6_allBeats M) (fun u => some (.int u)) (fun u => w_X6 M) := by
  refine q_enter (by decide +kernel) (Nat.le_of_ble_eq_true rfl) (fun t p e s m args below meth c dC dI dA A α C => ?_)
  refine r_cut (f_X6_allBeats.eq_1 _) ?_
  show q_S p l e (q_rm 0 0) s m args below meth c 1 dC dI dA A α (MQ below (q_Q α dC dI dA A ((fun u => some (.int u)) t) ((fun u => w_X6 M) t)) args s 0 0 A) 0 0 _ t 0 [(0, .ref 50)] [] (w_X6 M)
  refine r_iconst C (1) dX6_allBeats_0 rfl ?_
  refine r_aload_n C 0 dX6_allBeats_1 rfl ?_
  refine r_get C 0 0 dX6_allBeats_2 K_X6 rfl rfl (Nat.le_of_ble_eq_true rfl) rfl m_915 rfl ?_
  refine r_iconst C (1) dX6_allBeats_5 rfl ?_
  refine r_iald C 1 dX6_allBeats_6 rfl rfl (fun hi6 => ?_)
  refine r_ishl C dX6_allBeats_7 ?_
  refine r_iconst C (1) dX6_allBeats_8 rfl ?_
  refine r_isub C dX6_allBeats_9 ?_
  exact r_reti (x := (((1 : Int32) <<< ((M.2 0 (1 : Int32).toNatClampNeg) &&& 31)) - (1 : Int32))) (rv := (fun u => some (.int u))) (hpE := (fun u => w_X6 M)) (t0 := (((1 : Int32) <<< ((M.2 0 (1 : Int32).toNatClampNeg) &&& 31)) - (1 : Int32))) C dX6_allBeats_10 (by rfl) (by rfl) (by rfl)
set_option maxRecDepth 100000 in
set_option maxHeartbeats 4000000 in
theorem o_X6_doesGo (l : Launch) (M : q_St) : q_Ok l yX6_doesGo cX6_doesGo 1 (some .boolean) 5 112 [.ref 50] (w_X6 M) (f_X6_doesGo M) (fun u => some (.int u)) (fun u => w_X6 M) := by
  refine q_enter (by decide +kernel) (Nat.le_of_ble_eq_true rfl) (fun t p e s m args below meth c dC dI dA A α C => ?_)
  refine r_cut (f_X6_doesGo.eq_1 _) ?_
  show q_S p l e (q_rm 5 112) s m args below meth c 1 dC dI dA A α (MQ below (q_Q α dC dI dA A ((fun u => some (.int u)) t) ((fun u => w_X6 M) t)) args s 0 0 A) 0 0 _ t 0 [(0, .ref 50)] [] (w_X6 M)
  refine r_aload_n C 0 dX6_doesGo_0 rfl ?_
  refine r_callV0 C (o_X6_wrongBeats l M) v_X6_wrongBeats m_1116 [] [] (50) (Or.inl ⟨0, 5, _, TX6, 25, rfl, rfl, rfl⟩) (fun u1 => [.int u1]) (fun u1 => [.inr (5, [.ref 51, .ref 52, .ref 53, .int (M.1 3), .ref 54, .ref 55, .ref 56, .int (M.1 7), .ref 57, .ref 58, .int (M.1 10), .int (M.1 11), .int (M.1 12), .int (M.1 13), .int (M.1 14), .int (M.1 15), .ref 59, .ref 60, .int (M.1 18), .int (M.1 19), .int (M.1 20), .ref 61, .ref 62, .ref 63, .ref 64]), .inl (0, 68, .inl (M.2 0)), .inl (0, 68, .inl (M.2 1)), .inl (0, 68, .inl (M.2 2)), .inl (0, 8, .inl (M.2 4)), .inl (0, 1053, .inl (M.2 5)), .inl (1, 972, .inl (M.2 6)), .inl (0, 1053, .inl (M.2 8)), .inl (0, 120, .inl (M.2 9)), .inl (3, 7, .inr (.inr (.inr (.inr q_kf)))), .inl (0, 360, .inl (M.2 17)), .inl (0, 4, .inl (M.2 21)), .inl (0, 4, .inl (M.2 22)), .inl (0, 160, .inl (M.2 23)), .inl (0, 40, .inl (M.2 24))]) rfl rfl rfl (Nat.le_of_ble_eq_true rfl) ⟨(Nat.le_of_ble_eq_true rfl), (Nat.le_of_ble_eq_true rfl)⟩ ⟨Nat.zero_le _, Nat.zero_le _⟩ dX6_doesGo_1 (fun _ => rfl) (fun _ => rfl) (fun _ => rfl) (fun u1 => ?_)
  refine r_if_ne C 11 dX6_doesGo_4 (by decide) (fun h4 => ?_) (fun h4 => ?_)
  · refine r_iconst C (1) dX6_doesGo_7 rfl ?_
    refine r_goto C 12 dX6_doesGo_8 (by decide) ?_
    exact r_retz (x := (1 : Int32)) (rv := (fun u => some (.int u))) (hpE := (fun u => w_X6 M)) (t0 := (1 : Int32)) C dX6_doesGo_12 (by rfl) (by rfl) (by rfl) (by rfl)
  · refine r_iconst C (0) dX6_doesGo_11 rfl ?_
    exact r_retz (x := (0 : Int32)) (rv := (fun u => some (.int u))) (hpE := (fun u => w_X6 M)) (t0 := (0 : Int32)) C dX6_doesGo_12 (by rfl) (by rfl) (by rfl) (by rfl)
set_option maxRecDepth 100000 in
set_option maxHeartbeats 4000000 in
theorem o_X6_least (l : Launch) (M : q_St) (a1 : Int32) : q_Ok l yX6_least cX6_least 2 (some .int) 6 136 [.ref 50, .int a1] (w_X6 M) (f_X6_least M a1) (fun u => some (.int u.1)) (fun u => w_X6 u.2) := by
  refine q_enter (by decide +kernel) (Nat.le_of_ble_eq_true rfl) (fun t p e s m args below meth c dC dI dA A α C => ?_)
  refine r_cut (f_X6_least.eq_1 _ _) ?_
  show q_S p l e (q_rm 6 136) s m args below meth c 2 dC dI dA A α (MQ below (q_Q α dC dI dA A ((fun u => some (.int u.1)) t) ((fun u => w_X6 u.2) t)) args s 0 0 A) 0 0 _ t 0 [(0, .ref 50), (1, .int a1)] [] (w_X6 M)
  refine r_iload_n C 1 dX6_least_0 rfl ?_
  refine r_callS C (o_X6_isWhat l a1) v_X6_isWhat m_1160 [] [.int a1] [] (fun u1 => [.int u1]) (fun u1 => [.inr (5, [.ref 51, .ref 52, .ref 53, .int (M.1 3), .ref 54, .ref 55, .ref 56, .int (M.1 7), .ref 57, .ref 58, .int (M.1 10), .int (M.1 11), .int (M.1 12), .int (M.1 13), .int (M.1 14), .int (M.1 15), .ref 59, .ref 60, .int (M.1 18), .int (M.1 19), .int (M.1 20), .ref 61, .ref 62, .ref 63, .ref 64]), .inl (0, 68, .inl (M.2 0)), .inl (0, 68, .inl (M.2 1)), .inl (0, 68, .inl (M.2 2)), .inl (0, 8, .inl (M.2 4)), .inl (0, 1053, .inl (M.2 5)), .inl (1, 972, .inl (M.2 6)), .inl (0, 1053, .inl (M.2 8)), .inl (0, 120, .inl (M.2 9)), .inl (3, 7, .inr (.inr (.inr (.inr q_kf)))), .inl (0, 360, .inl (M.2 17)), .inl (0, 4, .inl (M.2 21)), .inl (0, 4, .inl (M.2 22)), .inl (0, 160, .inl (M.2 23)), .inl (0, 40, .inl (M.2 24))]) rfl rfl rfl rfl rfl (Nat.le_of_ble_eq_true rfl) ⟨(Nat.le_of_ble_eq_true rfl), (Nat.le_of_ble_eq_true rfl)⟩ ⟨Nat.zero_le _, Nat.zero_le _⟩ dX6_least_1 (fun _ => rfl) (fun _ => rfl) (fun _ => rfl) (fun u1 => ?_)
  refine r_if_ne C 14 dX6_least_4 (by decide) (fun h4 => ?_) (fun h4 => ?_)
  · refine r_aload_n C 0 dX6_least_7 rfl ?_
    refine r_ldc C (-1000001) dX6_least_8 m_1002 ?_
    refine r_callV0 C (o_X6_finding l M (-1000001 : Int32)) v_X6_finding m_1003 [.int (-1000001 : Int32)] [] (50) (Or.inl ⟨0, 5, _, TX6, 25, rfl, rfl, rfl⟩) (fun u6 => [.int u6.1]) (fun u6 => [.inr (5, [.ref 51, .ref 52, .ref 53, .int (u6.2.1 3), .ref 54, .ref 55, .ref 56, .int (u6.2.1 7), .ref 57, .ref 58, .int (u6.2.1 10), .int (u6.2.1 11), .int (u6.2.1 12), .int (u6.2.1 13), .int (u6.2.1 14), .int (u6.2.1 15), .ref 59, .ref 60, .int (u6.2.1 18), .int (u6.2.1 19), .int (u6.2.1 20), .ref 61, .ref 62, .ref 63, .ref 64]), .inl (0, 68, .inl (u6.2.2 0)), .inl (0, 68, .inl (u6.2.2 1)), .inl (0, 68, .inl (u6.2.2 2)), .inl (0, 8, .inl (u6.2.2 4)), .inl (0, 1053, .inl (u6.2.2 5)), .inl (1, 972, .inl (u6.2.2 6)), .inl (0, 1053, .inl (u6.2.2 8)), .inl (0, 120, .inl (u6.2.2 9)), .inl (3, 7, .inr (.inr (.inr (.inr q_kf)))), .inl (0, 360, .inl (u6.2.2 17)), .inl (0, 4, .inl (u6.2.2 21)), .inl (0, 4, .inl (u6.2.2 22)), .inl (0, 160, .inl (u6.2.2 23)), .inl (0, 40, .inl (u6.2.2 24))]) rfl rfl rfl (Nat.le_of_ble_eq_true rfl) ⟨(Nat.le_of_ble_eq_true rfl), (Nat.le_of_ble_eq_true rfl)⟩ ⟨Nat.zero_le _, Nat.zero_le _⟩ dX6_least_10 (fun _ => rfl) (fun _ => rfl) (fun _ => rfl) (fun u6 => ?_)
    exact r_reti (x := u6.1) (rv := (fun u => some (.int u.1))) (hpE := (fun u => w_X6 u.2)) (t0 := (u6.1, u6.2)) C dX6_least_13 (by rfl) (by rfl) (by rfl)
  · refine r_aload_n C 0 dX6_least_14 rfl ?_
    refine r_callV0 C (o_X6_doesGo l M) v_X6_doesGo m_1163 [] [] (50) (Or.inl ⟨0, 5, _, TX6, 25, rfl, rfl, rfl⟩) (fun u2 => [.int u2]) (fun u2 => [.inr (5, [.ref 51, .ref 52, .ref 53, .int (M.1 3), .ref 54, .ref 55, .ref 56, .int (M.1 7), .ref 57, .ref 58, .int (M.1 10), .int (M.1 11), .int (M.1 12), .int (M.1 13), .int (M.1 14), .int (M.1 15), .ref 59, .ref 60, .int (M.1 18), .int (M.1 19), .int (M.1 20), .ref 61, .ref 62, .ref 63, .ref 64]), .inl (0, 68, .inl (M.2 0)), .inl (0, 68, .inl (M.2 1)), .inl (0, 68, .inl (M.2 2)), .inl (0, 8, .inl (M.2 4)), .inl (0, 1053, .inl (M.2 5)), .inl (1, 972, .inl (M.2 6)), .inl (0, 1053, .inl (M.2 8)), .inl (0, 120, .inl (M.2 9)), .inl (3, 7, .inr (.inr (.inr (.inr q_kf)))), .inl (0, 360, .inl (M.2 17)), .inl (0, 4, .inl (M.2 21)), .inl (0, 4, .inl (M.2 22)), .inl (0, 160, .inl (M.2 23)), .inl (0, 40, .inl (M.2 24))]) rfl rfl rfl (Nat.le_of_ble_eq_true rfl) ⟨(Nat.le_of_ble_eq_true rfl), (Nat.le_of_ble_eq_true rfl)⟩ ⟨Nat.zero_le _, Nat.zero_le _⟩ dX6_least_15 (fun _ => rfl) (fun _ => rfl) (fun _ => rfl) (fun u2 => ?_)
    refine r_if_eq C 33 dX6_least_18 (by decide) (fun h18 => ?_) (fun h18 => ?_)
    · refine r_aload_n C 0 dX6_least_33 rfl ?_
      refine r_ldc C (-1000005) dX6_least_34 m_1131 ?_
      refine r_callV0 C (o_X6_finding l M (-1000005 : Int32)) v_X6_finding m_1003 [.int (-1000005 : Int32)] [] (50) (Or.inl ⟨0, 5, _, TX6, 25, rfl, rfl, rfl⟩) (fun u3 => [.int u3.1]) (fun u3 => [.inr (5, [.ref 51, .ref 52, .ref 53, .int (u3.2.1 3), .ref 54, .ref 55, .ref 56, .int (u3.2.1 7), .ref 57, .ref 58, .int (u3.2.1 10), .int (u3.2.1 11), .int (u3.2.1 12), .int (u3.2.1 13), .int (u3.2.1 14), .int (u3.2.1 15), .ref 59, .ref 60, .int (u3.2.1 18), .int (u3.2.1 19), .int (u3.2.1 20), .ref 61, .ref 62, .ref 63, .ref 64]), .inl (0, 68, .inl (u3.2.2 0)), .inl (0, 68, .inl (u3.2.2 1)), .inl (0, 68, .inl (u3.2.2 2)), .inl (0, 8, .inl (u3.2.2 4)), .inl (0, 1053, .inl (u3.2.2 5)), .inl (1, 972, .inl (u3.2.2 6)), .inl (0, 1053, .inl (u3.2.2 8)), .inl (0, 120, .inl (u3.2.2 9)), .inl (3, 7, .inr (.inr (.inr (.inr q_kf)))), .inl (0, 360, .inl (u3.2.2 17)), .inl (0, 4, .inl (u3.2.2 21)), .inl (0, 4, .inl (u3.2.2 22)), .inl (0, 160, .inl (u3.2.2 23)), .inl (0, 40, .inl (u3.2.2 24))]) rfl rfl rfl (Nat.le_of_ble_eq_true rfl) ⟨(Nat.le_of_ble_eq_true rfl), (Nat.le_of_ble_eq_true rfl)⟩ ⟨Nat.zero_le _, Nat.zero_le _⟩ dX6_least_36 (fun _ => rfl) (fun _ => rfl) (fun _ => rfl) (fun u3 => ?_)
      exact r_reti (x := u3.1) (rv := (fun u => some (.int u.1))) (hpE := (fun u => w_X6 u.2)) (t0 := (u3.1, u3.2)) C dX6_least_39 (by rfl) (by rfl) (by rfl)
    · refine r_aload_n C 0 dX6_least_21 rfl ?_
      refine r_aload_n C 0 dX6_least_22 rfl ?_
      refine r_callV0 C (o_X6_allBeats l M) v_X6_allBeats m_1167 [] [.ref 50] (50) (Or.inl ⟨0, 5, _, TX6, 25, rfl, rfl, rfl⟩) (fun u4 => [.int u4, .ref 50]) (fun u4 => [.inr (5, [.ref 51, .ref 52, .ref 53, .int (M.1 3), .ref 54, .ref 55, .ref 56, .int (M.1 7), .ref 57, .ref 58, .int (M.1 10), .int (M.1 11), .int (M.1 12), .int (M.1 13), .int (M.1 14), .int (M.1 15), .ref 59, .ref 60, .int (M.1 18), .int (M.1 19), .int (M.1 20), .ref 61, .ref 62, .ref 63, .ref 64]), .inl (0, 68, .inl (M.2 0)), .inl (0, 68, .inl (M.2 1)), .inl (0, 68, .inl (M.2 2)), .inl (0, 8, .inl (M.2 4)), .inl (0, 1053, .inl (M.2 5)), .inl (1, 972, .inl (M.2 6)), .inl (0, 1053, .inl (M.2 8)), .inl (0, 120, .inl (M.2 9)), .inl (3, 7, .inr (.inr (.inr (.inr q_kf)))), .inl (0, 360, .inl (M.2 17)), .inl (0, 4, .inl (M.2 21)), .inl (0, 4, .inl (M.2 22)), .inl (0, 160, .inl (M.2 23)), .inl (0, 40, .inl (M.2 24))]) rfl rfl rfl (Nat.le_of_ble_eq_true rfl) ⟨(Nat.le_of_ble_eq_true rfl), (Nat.le_of_ble_eq_true rfl)⟩ ⟨Nat.zero_le _, Nat.zero_le _⟩ dX6_least_23 (fun _ => rfl) (fun _ => rfl) (fun _ => rfl) (fun u4 => ?_)
      refine r_iload_n C 1 dX6_least_26 rfl ?_
      refine r_callV0 C (o_X6_findWay l M u4 a1) v_X6_findWay m_1171 [.int u4, .int a1] [] (50) (Or.inl ⟨0, 5, _, TX6, 25, rfl, rfl, rfl⟩) (fun u5 => [.int u5.1]) (fun u5 => [.inr (5, [.ref 51, .ref 52, .ref 53, .int (u5.2.1 3), .ref 54, .ref 55, .ref 56, .int (u5.2.1 7), .ref 57, .ref 58, .int (u5.2.1 10), .int (u5.2.1 11), .int (u5.2.1 12), .int (u5.2.1 13), .int (u5.2.1 14), .int (u5.2.1 15), .ref 59, .ref 60, .int (u5.2.1 18), .int (u5.2.1 19), .int (u5.2.1 20), .ref 61, .ref 62, .ref 63, .ref 64]), .inl (0, 68, .inl (u5.2.2 0)), .inl (0, 68, .inl (u5.2.2 1)), .inl (0, 68, .inl (u5.2.2 2)), .inl (0, 8, .inl (u5.2.2 4)), .inl (0, 1053, .inl (u5.2.2 5)), .inl (1, 972, .inl (u5.2.2 6)), .inl (0, 1053, .inl (u5.2.2 8)), .inl (0, 120, .inl (u5.2.2 9)), .inl (3, 7, .inr (.inr (.inr (.inr q_kf)))), .inl (0, 360, .inl (u5.2.2 17)), .inl (0, 4, .inl (u5.2.2 21)), .inl (0, 4, .inl (u5.2.2 22)), .inl (0, 160, .inl (u5.2.2 23)), .inl (0, 40, .inl (u5.2.2 24))]) rfl rfl rfl (Nat.le_of_ble_eq_true rfl) ⟨(Nat.le_of_ble_eq_true rfl), (Nat.le_of_ble_eq_true rfl)⟩ ⟨Nat.zero_le _, Nat.zero_le _⟩ dX6_least_27 (fun _ => rfl) (fun _ => rfl) (fun _ => rfl) (fun u5 => ?_)
      refine r_goto C 39 dX6_least_30 (by decide) ?_
      exact r_reti (x := u5.1) (rv := (fun u => some (.int u.1))) (hpE := (fun u => w_X6 u.2)) (t0 := (u5.1, u5.2)) C dX6_least_39 (by rfl) (by rfl) (by rfl)
set_option maxRecDepth 100000 in
set_option maxHeartbeats 4000000 in
theorem k_X6_nextHold_3 {p : Program} {l : Launch} {e : Env} {s : State} {m : MethodId} {args : Array Value} {below : List Frame} {meth : Method} {c : Code} {dC : Nat → ClassId} {dI : Nat → Nat → Nat} {dA : Nat → ClassId} {A : Nat → Prop} {α : Nat → Nat} {t : Int32} (C : q_Cx p s m args meth c cX6_nextHold 5 RX6 (some .int) "nextHold" dC dI dA A α) (M : q_St) (a1 : Int32) (a2 : Int32) (a3 : Int32)  : ∀ (n : Nat) (x1 : Int32) (x2 : Int32) (x3 : Int32) (x4 : Int32), q_S p l e (q_rm 5 110) s m args below meth c 5 dC dI dA A α (MQ below (q_Q α dC dI dA A ((fun u => some (.int u)) t) ((fun u => w_X6 M) t)) args s 0 0 A) 0 0 (f_X6_nextHold_3 M a1 a2 a3  n x1 x2 x3 x4) t 3 [(0, .ref 50), (1, .int x1), (2, .int x2), (3, .int x3), (4, .int x4)] [] (w_X6 M) := by
  intro n
  induction n with
  | zero =>
    intro x1 x2 x3 x4
    exact r_cut (f_X6_nextHold_3.eq_1 _ _ _ _ _ _ _ _) (r_none True.intro)
  | succ n ih =>
    intro x1 x2 x3 x4
    refine r_cut (f_X6_nextHold_3.eq_2 _ _ _ _ _ _ _ _ _) ?_
    refine r_aload_n C 0 dX6_nextHold_3 rfl ?_
    refine r_get C 0 6 dX6_nextHold_4 K_X6 rfl rfl (Nat.le_of_ble_eq_true rfl) rfl m_921 rfl ?_
    refine r_iload_n C 2 dX6_nextHold_7 rfl ?_
    refine r_bipush C (81) dX6_nextHold_8 rfl ?_
    refine r_imul C dX6_nextHold_10 ?_
    refine r_iload C 4 dX6_nextHold_11 rfl ?_
    refine r_iadd C dX6_nextHold_13 ?_
    refine r_zald C 6 dX6_nextHold_14 rfl rfl (fun hi14 => ?_)
    refine r_if_eq C 55 dX6_nextHold_15 (by decide) (fun h15 => ?_) (fun h15 => ?_)
    · refine r_iinc C 4 (x4 + 1) [(4, .int (x4 + 1)), (0, .ref 50), (1, .int x1), (2, .int x2), (3, .int x3)] dX6_nextHold_55 rfl rfl (Nat.le_of_ble_eq_true rfl) rfl ?_
      refine r_goto C 3 dX6_nextHold_58 (by decide) ?_
      refine r_lv [(0, .ref 50), (1, .int x1), (2, .int x2), (3, .int x3), (4, .int (x4 + 1))] [1, 2, 3, 4, 0] rfl ?_
      exact ih x1 x2 x3 (x4 + 1)
    · refine r_aload_n C 0 dX6_nextHold_18 rfl ?_
      refine r_iload_n C 1 dX6_nextHold_19 rfl ?_
      refine r_iload C 4 dX6_nextHold_20 rfl ?_
      refine r_iload_n C 3 dX6_nextHold_22 rfl ?_
      refine r_callV0 C (o_X6_worthBetween l M x1 x4 x3) v_X6_worthBetween m_1186 [.int x1, .int x4, .int x3] [] (50) (Or.inl ⟨0, 5, _, TX6, 25, rfl, rfl, rfl⟩) (fun u1 => [.int u1]) (fun u1 => [.inr (5, [.ref 51, .ref 52, .ref 53, .int (M.1 3), .ref 54, .ref 55, .ref 56, .int (M.1 7), .ref 57, .ref 58, .int (M.1 10), .int (M.1 11), .int (M.1 12), .int (M.1 13), .int (M.1 14), .int (M.1 15), .ref 59, .ref 60, .int (M.1 18), .int (M.1 19), .int (M.1 20), .ref 61, .ref 62, .ref 63, .ref 64]), .inl (0, 68, .inl (M.2 0)), .inl (0, 68, .inl (M.2 1)), .inl (0, 68, .inl (M.2 2)), .inl (0, 8, .inl (M.2 4)), .inl (0, 1053, .inl (M.2 5)), .inl (1, 972, .inl (M.2 6)), .inl (0, 1053, .inl (M.2 8)), .inl (0, 120, .inl (M.2 9)), .inl (3, 7, .inr (.inr (.inr (.inr q_kf)))), .inl (0, 360, .inl (M.2 17)), .inl (0, 4, .inl (M.2 21)), .inl (0, 4, .inl (M.2 22)), .inl (0, 160, .inl (M.2 23)), .inl (0, 40, .inl (M.2 24))]) rfl rfl rfl (Nat.le_of_ble_eq_true rfl) ⟨(Nat.le_of_ble_eq_true rfl), (Nat.le_of_ble_eq_true rfl)⟩ ⟨Nat.zero_le _, Nat.zero_le _⟩ dX6_nextHold_23 (fun _ => rfl) (fun _ => rfl) (fun _ => rfl) (fun u1 => ?_)
      refine r_aload_n C 0 dX6_nextHold_26 rfl ?_
      refine r_get C 0 5 dX6_nextHold_27 K_X6 rfl rfl (Nat.le_of_ble_eq_true rfl) rfl m_920 rfl ?_
      refine r_iload_n C 2 dX6_nextHold_30 rfl ?_
      refine r_iconst C (1) dX6_nextHold_31 rfl ?_
      refine r_iadd C dX6_nextHold_32 ?_
      refine r_bipush C (81) dX6_nextHold_33 rfl ?_
      refine r_imul C dX6_nextHold_35 ?_
      refine r_iload C 4 dX6_nextHold_36 rfl ?_
      refine r_iadd C dX6_nextHold_38 ?_
      refine r_iald C 5 dX6_nextHold_39 rfl rfl (fun hi39 => ?_)
      refine r_iadd C dX6_nextHold_40 ?_
      refine r_aload_n C 0 dX6_nextHold_41 rfl ?_
      refine r_get C 0 5 dX6_nextHold_42 K_X6 rfl rfl (Nat.le_of_ble_eq_true rfl) rfl m_920 rfl ?_
      refine r_iload_n C 2 dX6_nextHold_45 rfl ?_
      refine r_bipush C (81) dX6_nextHold_46 rfl ?_
      refine r_imul C dX6_nextHold_48 ?_
      refine r_iload_n C 1 dX6_nextHold_49 rfl ?_
      refine r_iadd C dX6_nextHold_50 ?_
      refine r_iald C 5 dX6_nextHold_51 rfl rfl (fun hi51 => ?_)
      refine r_icmp_eq C 61 dX6_nextHold_52 (by decide) (fun h52 => ?_) (fun h52 => ?_)
      · refine r_iload C 4 dX6_nextHold_61 rfl ?_
        exact r_reti (x := x4) (rv := (fun u => some (.int u))) (hpE := (fun u => w_X6 M)) (t0 := x4) C dX6_nextHold_63 (by rfl) (by rfl) (by rfl)
      · refine r_iinc C 4 (x4 + 1) [(4, .int (x4 + 1)), (0, .ref 50), (1, .int x1), (2, .int x2), (3, .int x3)] dX6_nextHold_55 rfl rfl (Nat.le_of_ble_eq_true rfl) rfl ?_
        refine r_goto C 3 dX6_nextHold_58 (by decide) ?_
        refine r_lv [(0, .ref 50), (1, .int x1), (2, .int x2), (3, .int x3), (4, .int (x4 + 1))] [1, 2, 3, 4, 0] rfl ?_
        exact ih x1 x2 x3 (x4 + 1)
set_option maxRecDepth 100000 in
set_option maxHeartbeats 4000000 in
theorem o_X6_nextHold (l : Launch) (M : q_St) (a1 : Int32) (a2 : Int32) (a3 : Int32) : q_Ok l yX6_nextHold cX6_nextHold 5 (some .int) 5 110 [.ref 50, .int a1, .int a2, .int a3] (w_X6 M) (f_X6_nextHold M a1 a2 a3) (fun u => some (.int u)) (fun u => w_X6 M) := by
  refine q_enter (by decide +kernel) (Nat.le_of_ble_eq_true rfl) (fun t p e s m args below meth c dC dI dA A α C => ?_)
  refine r_cut (f_X6_nextHold.eq_1 _ _ _ _) ?_
  show q_S p l e (q_rm 5 110) s m args below meth c 5 dC dI dA A α (MQ below (q_Q α dC dI dA A ((fun u => some (.int u)) t) ((fun u => w_X6 M) t)) args s 0 0 A) 0 0 _ t 0 [(0, .ref 50), (1, .int a1), (2, .int a2), (3, .int a3)] [] (w_X6 M)
  refine r_iconst C (0) dX6_nextHold_0 rfl ?_
  refine r_istore C [(4, .int (0 : Int32)), (0, .ref 50), (1, .int a1), (2, .int a2), (3, .int a3)] dX6_nextHold_1 (Nat.le_of_ble_eq_true rfl) rfl ?_
  refine r_lv [(0, .ref 50), (1, .int a1), (2, .int a2), (3, .int a3), (4, .int (0 : Int32))] [1, 2, 3, 4, 0] rfl ?_
  exact k_X6_nextHold_3 C M a1 a2 a3   q_N a1 a2 a3 (0 : Int32)
set_option maxRecDepth 100000 in
set_option maxHeartbeats 4000000 in
theorem k_X6_held_74 {p : Program} {l : Launch} {e : Env} {s : State} {m : MethodId} {args : Array Value} {below : List Frame} {meth : Method} {c : Code} {dC : Nat → ClassId} {dI : Nat → Nat → Nat} {dA : Nat → ClassId} {A : Nat → Prop} {α : Nat → Nat} {t : Int32 × q_St} (C : q_Cx p s m args meth c cX6_held 7 RX6 (some .int) "held" dC dI dA A α) (M : q_St) (a1 : Int32) (a2 : Int32) (a3 : Int32)  : ∀ (n : Nat) (x1 : Int32) (x2 : Int32) (x3 : Int32) (x5 : Int32) (x6 : Int32) (M' : q_St), q_S p l e (q_rm 6 136) s m args below meth c 7 dC dI dA A α (MQ below (q_Q α dC dI dA A ((fun u => some (.int u.1)) t) ((fun u => w_X6 u.2) t)) args s 0 0 A) 0 0 (f_X6_held_74 M a1 a2 a3  n x1 x2 x3 x5 x6 M') t 74 [(0, .ref 50), (1, .int x1), (2, .int x2), (3, .int x3), (5, .int x5), (6, .int x6)] [] (w_X6 M') := by
  intro n
  induction n with
  | zero =>
    intro x1 x2 x3 x5 x6 M'
    exact r_cut (f_X6_held_74.eq_1 _ _ _ _ _ _ _ _ _ _) (r_none True.intro)
  | succ n ih =>
    intro x1 x2 x3 x5 x6 M'
    refine r_cut (f_X6_held_74.eq_2 _ _ _ _ _ _ _ _ _ _ _) ?_
    refine r_iload C 5 dX6_held_74 rfl ?_
    refine r_iload_n C 1 dX6_held_76 rfl ?_
    refine r_icmp_gt C 97 dX6_held_77 (by decide) (fun h77 => ?_) (fun h77 => ?_)
    · refine r_iload_n C 2 dX6_held_97 rfl ?_
      refine r_if_ne C 109 dX6_held_98 (by decide) (fun h98 => ?_) (fun h98 => ?_)
      · refine r_iload C 4 dX6_held_101 rfl ?_
        refine r_callS C (o_X6_leftOf l x5) v_X6_leftOf m_1175 [] [.int x5] [] (fun u13 => [.int u13]) (fun u13 => [.inr (5, [.ref 51, .ref 52, .ref 53, .int (M'.1 3), .ref 54, .ref 55, .ref 56, .int (M'.1 7), .ref 57, .ref 58, .int (M'.1 10), .int (M'.1 11), .int (M'.1 12), .int (M'.1 13), .int (M'.1 14), .int (M'.1 15), .ref 59, .ref 60, .int (M'.1 18), .int (M'.1 19), .int (M'.1 20), .ref 61, .ref 62, .ref 63, .ref 64]), .inl (0, 68, .inl (M'.2 0)), .inl (0, 68, .inl (M'.2 1)), .inl (0, 68, .inl (M'.2 2)), .inl (0, 8, .inl (M'.2 4)), .inl (0, 1053, .inl (M'.2 5)), .inl (1, 972, .inl (M'.2 6)), .inl (0, 1053, .inl (M'.2 8)), .inl (0, 120, .inl (M'.2 9)), .inl (3, 7, .inr (.inr (.inr (.inr q_kf)))), .inl (0, 360, .inl (M'.2 17)), .inl (0, 4, .inl (M'.2 21)), .inl (0, 4, .inl (M'.2 22)), .inl (0, 160, .inl (M'.2 23)), .inl (0, 40, .inl (M'.2 24))]) rfl rfl rfl rfl rfl (Nat.le_of_ble_eq_true rfl) ⟨(Nat.le_of_ble_eq_true rfl), (Nat.le_of_ble_eq_true rfl)⟩ ⟨Nat.zero_le _, Nat.zero_le _⟩ dX6_held_103 (fun _ => rfl) (fun _ => rfl) (fun _ => rfl) (fun u13 => ?_)
        refine r_goto C 114 dX6_held_106 (by decide) ?_
        exact r_reti (x := u13) (rv := (fun u => some (.int u.1))) (hpE := (fun u => w_X6 u.2)) (t0 := (u13, M')) C dX6_held_114 (by rfl) (by rfl) (by rfl)
      · refine r_iload C 4 dX6_held_109 rfl ?_
        refine r_callS C (o_X6_rightOf l x5) v_X6_rightOf m_1178 [] [.int x5] [] (fun u12 => [.int u12]) (fun u12 => [.inr (5, [.ref 51, .ref 52, .ref 53, .int (M'.1 3), .ref 54, .ref 55, .ref 56, .int (M'.1 7), .ref 57, .ref 58, .int (M'.1 10), .int (M'.1 11), .int (M'.1 12), .int (M'.1 13), .int (M'.1 14), .int (M'.1 15), .ref 59, .ref 60, .int (M'.1 18), .int (M'.1 19), .int (M'.1 20), .ref 61, .ref 62, .ref 63, .ref 64]), .inl (0, 68, .inl (M'.2 0)), .inl (0, 68, .inl (M'.2 1)), .inl (0, 68, .inl (M'.2 2)), .inl (0, 8, .inl (M'.2 4)), .inl (0, 1053, .inl (M'.2 5)), .inl (1, 972, .inl (M'.2 6)), .inl (0, 1053, .inl (M'.2 8)), .inl (0, 120, .inl (M'.2 9)), .inl (3, 7, .inr (.inr (.inr (.inr q_kf)))), .inl (0, 360, .inl (M'.2 17)), .inl (0, 4, .inl (M'.2 21)), .inl (0, 4, .inl (M'.2 22)), .inl (0, 160, .inl (M'.2 23)), .inl (0, 40, .inl (M'.2 24))]) rfl rfl rfl rfl rfl (Nat.le_of_ble_eq_true rfl) ⟨(Nat.le_of_ble_eq_true rfl), (Nat.le_of_ble_eq_true rfl)⟩ ⟨Nat.zero_le _, Nat.zero_le _⟩ dX6_held_111 (fun _ => rfl) (fun _ => rfl) (fun _ => rfl) (fun u12 => ?_)
        exact r_reti (x := u12) (rv := (fun u => some (.int u.1))) (hpE := (fun u => w_X6 u.2)) (t0 := (u12, M')) C dX6_held_114 (by rfl) (by rfl) (by rfl)
    · refine r_aload_n C 0 dX6_held_80 rfl ?_
      refine r_iload C 4 dX6_held_81 rfl ?_
      refine r_iload C 5 dX6_held_83 rfl ?_
      refine r_iload_n C 3 dX6_held_85 rfl ?_
      refine r_callV0 C (o_X6_nextHold l M' x5 x6 x3) v_X6_nextHold m_1199 [.int x5, .int x6, .int x3] [] (50) (Or.inl ⟨0, 5, _, TX6, 25, rfl, rfl, rfl⟩) (fun u14 => [.int u14]) (fun u14 => [.inr (5, [.ref 51, .ref 52, .ref 53, .int (M'.1 3), .ref 54, .ref 55, .ref 56, .int (M'.1 7), .ref 57, .ref 58, .int (M'.1 10), .int (M'.1 11), .int (M'.1 12), .int (M'.1 13), .int (M'.1 14), .int (M'.1 15), .ref 59, .ref 60, .int (M'.1 18), .int (M'.1 19), .int (M'.1 20), .ref 61, .ref 62, .ref 63, .ref 64]), .inl (0, 68, .inl (M'.2 0)), .inl (0, 68, .inl (M'.2 1)), .inl (0, 68, .inl (M'.2 2)), .inl (0, 8, .inl (M'.2 4)), .inl (0, 1053, .inl (M'.2 5)), .inl (1, 972, .inl (M'.2 6)), .inl (0, 1053, .inl (M'.2 8)), .inl (0, 120, .inl (M'.2 9)), .inl (3, 7, .inr (.inr (.inr (.inr q_kf)))), .inl (0, 360, .inl (M'.2 17)), .inl (0, 4, .inl (M'.2 21)), .inl (0, 4, .inl (M'.2 22)), .inl (0, 160, .inl (M'.2 23)), .inl (0, 40, .inl (M'.2 24))]) rfl rfl rfl (Nat.le_of_ble_eq_true rfl) ⟨(Nat.le_of_ble_eq_true rfl), (Nat.le_of_ble_eq_true rfl)⟩ ⟨Nat.zero_le _, Nat.zero_le _⟩ dX6_held_86 (fun _ => rfl) (fun _ => rfl) (fun _ => rfl) (fun u14 => ?_)
      refine r_istore C [(5, .int u14), (0, .ref 50), (1, .int x1), (2, .int x2), (3, .int x3), (6, .int x6)] dX6_held_89 (Nat.le_of_ble_eq_true rfl) rfl ?_
      refine r_iinc C 5 (x6 + 1) [(6, .int (x6 + 1)), (5, .int u14), (0, .ref 50), (1, .int x1), (2, .int x2), (3, .int x3)] dX6_held_91 rfl rfl (Nat.le_of_ble_eq_true rfl) rfl ?_
      refine r_goto C 74 dX6_held_94 (by decide) ?_
      refine r_lv [(0, .ref 50), (1, .int x1), (2, .int x2), (3, .int x3), (5, .int u14), (6, .int (x6 + 1))] [2, 3, 4, 5, 1, 0] rfl ?_
      exact ih x1 x2 x3 u14 (x6 + 1) M'
set_option maxRecDepth 100000 in
set_option maxHeartbeats 4000000 in
theorem o_X6_held (l : Launch) (M : q_St) (a1 : Int32) (a2 : Int32) (a3 : Int32) : q_Ok l yX6_held cX6_held 7 (some .int) 6 136 [.ref 50, .int a1, .int a2, .int a3] (w_X6 M) (f_X6_held M a1 a2 a3) (fun u => some (.int u.1)) (fun u => w_X6 u.2) := by
  refine q_enter (by decide +kernel) (Nat.le_of_ble_eq_true rfl) (fun t p e s m args below meth c dC dI dA A α C => ?_)
  refine r_cut (f_X6_held.eq_1 _ _ _ _) ?_
  show q_S p l e (q_rm 6 136) s m args below meth c 7 dC dI dA A α (MQ below (q_Q α dC dI dA A ((fun u => some (.int u.1)) t) ((fun u => w_X6 u.2) t)) args s 0 0 A) 0 0 _ t 0 [(0, .ref 50), (1, .int a1), (2, .int a2), (3, .int a3)] [] (w_X6 M)
  refine r_aload_n C 0 dX6_held_0 rfl ?_
  refine r_iload_n C 1 dX6_held_1 rfl ?_
  refine r_callV0 C (o_X6_isBeat l M a1) v_X6_isBeat m_1086 [.int a1] [] (50) (Or.inl ⟨0, 5, _, TX6, 25, rfl, rfl, rfl⟩) (fun u1 => [.int u1]) (fun u1 => [.inr (5, [.ref 51, .ref 52, .ref 53, .int (M.1 3), .ref 54, .ref 55, .ref 56, .int (M.1 7), .ref 57, .ref 58, .int (M.1 10), .int (M.1 11), .int (M.1 12), .int (M.1 13), .int (M.1 14), .int (M.1 15), .ref 59, .ref 60, .int (M.1 18), .int (M.1 19), .int (M.1 20), .ref 61, .ref 62, .ref 63, .ref 64]), .inl (0, 68, .inl (M.2 0)), .inl (0, 68, .inl (M.2 1)), .inl (0, 68, .inl (M.2 2)), .inl (0, 8, .inl (M.2 4)), .inl (0, 1053, .inl (M.2 5)), .inl (1, 972, .inl (M.2 6)), .inl (0, 1053, .inl (M.2 8)), .inl (0, 120, .inl (M.2 9)), .inl (3, 7, .inr (.inr (.inr (.inr q_kf)))), .inl (0, 360, .inl (M.2 17)), .inl (0, 4, .inl (M.2 21)), .inl (0, 4, .inl (M.2 22)), .inl (0, 160, .inl (M.2 23)), .inl (0, 40, .inl (M.2 24))]) rfl rfl rfl (Nat.le_of_ble_eq_true rfl) ⟨(Nat.le_of_ble_eq_true rfl), (Nat.le_of_ble_eq_true rfl)⟩ ⟨Nat.zero_le _, Nat.zero_le _⟩ dX6_held_2 (fun _ => rfl) (fun _ => rfl) (fun _ => rfl) (fun u1 => ?_)
  refine r_if_eq C 22 dX6_held_5 (by decide) (fun h5 => ?_) (fun h5 => ?_)
  · refine r_aload_n C 0 dX6_held_22 rfl ?_
    refine r_ldc C (-1000001) dX6_held_23 m_1002 ?_
    refine r_callV0 C (o_X6_finding l M (-1000001 : Int32)) v_X6_finding m_1003 [.int (-1000001 : Int32)] [] (50) (Or.inl ⟨0, 5, _, TX6, 25, rfl, rfl, rfl⟩) (fun u2 => [.int u2.1]) (fun u2 => [.inr (5, [.ref 51, .ref 52, .ref 53, .int (u2.2.1 3), .ref 54, .ref 55, .ref 56, .int (u2.2.1 7), .ref 57, .ref 58, .int (u2.2.1 10), .int (u2.2.1 11), .int (u2.2.1 12), .int (u2.2.1 13), .int (u2.2.1 14), .int (u2.2.1 15), .ref 59, .ref 60, .int (u2.2.1 18), .int (u2.2.1 19), .int (u2.2.1 20), .ref 61, .ref 62, .ref 63, .ref 64]), .inl (0, 68, .inl (u2.2.2 0)), .inl (0, 68, .inl (u2.2.2 1)), .inl (0, 68, .inl (u2.2.2 2)), .inl (0, 8, .inl (u2.2.2 4)), .inl (0, 1053, .inl (u2.2.2 5)), .inl (1, 972, .inl (u2.2.2 6)), .inl (0, 1053, .inl (u2.2.2 8)), .inl (0, 120, .inl (u2.2.2 9)), .inl (3, 7, .inr (.inr (.inr (.inr q_kf)))), .inl (0, 360, .inl (u2.2.2 17)), .inl (0, 4, .inl (u2.2.2 21)), .inl (0, 4, .inl (u2.2.2 22)), .inl (0, 160, .inl (u2.2.2 23)), .inl (0, 40, .inl (u2.2.2 24))]) rfl rfl rfl (Nat.le_of_ble_eq_true rfl) ⟨(Nat.le_of_ble_eq_true rfl), (Nat.le_of_ble_eq_true rfl)⟩ ⟨Nat.zero_le _, Nat.zero_le _⟩ dX6_held_25 (fun _ => rfl) (fun _ => rfl) (fun _ => rfl) (fun u2 => ?_)
    exact r_reti (x := u2.1) (rv := (fun u => some (.int u.1))) (hpE := (fun u => w_X6 u.2)) (t0 := (u2.1, u2.2)) C dX6_held_28 (by rfl) (by rfl) (by rfl)
  · refine r_iload_n C 2 dX6_held_8 rfl ?_
    refine r_callS C (o_X6_isHand l a2) v_X6_isHand m_1128 [] [.int a2] [] (fun u3 => [.int u3]) (fun u3 => [.inr (5, [.ref 51, .ref 52, .ref 53, .int (M.1 3), .ref 54, .ref 55, .ref 56, .int (M.1 7), .ref 57, .ref 58, .int (M.1 10), .int (M.1 11), .int (M.1 12), .int (M.1 13), .int (M.1 14), .int (M.1 15), .ref 59, .ref 60, .int (M.1 18), .int (M.1 19), .int (M.1 20), .ref 61, .ref 62, .ref 63, .ref 64]), .inl (0, 68, .inl (M.2 0)), .inl (0, 68, .inl (M.2 1)), .inl (0, 68, .inl (M.2 2)), .inl (0, 8, .inl (M.2 4)), .inl (0, 1053, .inl (M.2 5)), .inl (1, 972, .inl (M.2 6)), .inl (0, 1053, .inl (M.2 8)), .inl (0, 120, .inl (M.2 9)), .inl (3, 7, .inr (.inr (.inr (.inr q_kf)))), .inl (0, 360, .inl (M.2 17)), .inl (0, 4, .inl (M.2 21)), .inl (0, 4, .inl (M.2 22)), .inl (0, 160, .inl (M.2 23)), .inl (0, 40, .inl (M.2 24))]) rfl rfl rfl rfl rfl (Nat.le_of_ble_eq_true rfl) ⟨(Nat.le_of_ble_eq_true rfl), (Nat.le_of_ble_eq_true rfl)⟩ ⟨Nat.zero_le _, Nat.zero_le _⟩ dX6_held_9 (fun _ => rfl) (fun _ => rfl) (fun _ => rfl) (fun u3 => ?_)
    refine r_if_eq C 22 dX6_held_12 (by decide) (fun h12 => ?_) (fun h12 => ?_)
    · refine r_aload_n C 0 dX6_held_22 rfl ?_
      refine r_ldc C (-1000001) dX6_held_23 m_1002 ?_
      refine r_callV0 C (o_X6_finding l M (-1000001 : Int32)) v_X6_finding m_1003 [.int (-1000001 : Int32)] [] (50) (Or.inl ⟨0, 5, _, TX6, 25, rfl, rfl, rfl⟩) (fun u4 => [.int u4.1]) (fun u4 => [.inr (5, [.ref 51, .ref 52, .ref 53, .int (u4.2.1 3), .ref 54, .ref 55, .ref 56, .int (u4.2.1 7), .ref 57, .ref 58, .int (u4.2.1 10), .int (u4.2.1 11), .int (u4.2.1 12), .int (u4.2.1 13), .int (u4.2.1 14), .int (u4.2.1 15), .ref 59, .ref 60, .int (u4.2.1 18), .int (u4.2.1 19), .int (u4.2.1 20), .ref 61, .ref 62, .ref 63, .ref 64]), .inl (0, 68, .inl (u4.2.2 0)), .inl (0, 68, .inl (u4.2.2 1)), .inl (0, 68, .inl (u4.2.2 2)), .inl (0, 8, .inl (u4.2.2 4)), .inl (0, 1053, .inl (u4.2.2 5)), .inl (1, 972, .inl (u4.2.2 6)), .inl (0, 1053, .inl (u4.2.2 8)), .inl (0, 120, .inl (u4.2.2 9)), .inl (3, 7, .inr (.inr (.inr (.inr q_kf)))), .inl (0, 360, .inl (u4.2.2 17)), .inl (0, 4, .inl (u4.2.2 21)), .inl (0, 4, .inl (u4.2.2 22)), .inl (0, 160, .inl (u4.2.2 23)), .inl (0, 40, .inl (u4.2.2 24))]) rfl rfl rfl (Nat.le_of_ble_eq_true rfl) ⟨(Nat.le_of_ble_eq_true rfl), (Nat.le_of_ble_eq_true rfl)⟩ ⟨Nat.zero_le _, Nat.zero_le _⟩ dX6_held_25 (fun _ => rfl) (fun _ => rfl) (fun _ => rfl) (fun u4 => ?_)
      exact r_reti (x := u4.1) (rv := (fun u => some (.int u.1))) (hpE := (fun u => w_X6 u.2)) (t0 := (u4.1, u4.2)) C dX6_held_28 (by rfl) (by rfl) (by rfl)
    · refine r_iload_n C 3 dX6_held_15 rfl ?_
      refine r_callS C (o_X6_isWhat l a3) v_X6_isWhat m_1160 [] [.int a3] [] (fun u5 => [.int u5]) (fun u5 => [.inr (5, [.ref 51, .ref 52, .ref 53, .int (M.1 3), .ref 54, .ref 55, .ref 56, .int (M.1 7), .ref 57, .ref 58, .int (M.1 10), .int (M.1 11), .int (M.1 12), .int (M.1 13), .int (M.1 14), .int (M.1 15), .ref 59, .ref 60, .int (M.1 18), .int (M.1 19), .int (M.1 20), .ref 61, .ref 62, .ref 63, .ref 64]), .inl (0, 68, .inl (M.2 0)), .inl (0, 68, .inl (M.2 1)), .inl (0, 68, .inl (M.2 2)), .inl (0, 8, .inl (M.2 4)), .inl (0, 1053, .inl (M.2 5)), .inl (1, 972, .inl (M.2 6)), .inl (0, 1053, .inl (M.2 8)), .inl (0, 120, .inl (M.2 9)), .inl (3, 7, .inr (.inr (.inr (.inr q_kf)))), .inl (0, 360, .inl (M.2 17)), .inl (0, 4, .inl (M.2 21)), .inl (0, 4, .inl (M.2 22)), .inl (0, 160, .inl (M.2 23)), .inl (0, 40, .inl (M.2 24))]) rfl rfl rfl rfl rfl (Nat.le_of_ble_eq_true rfl) ⟨(Nat.le_of_ble_eq_true rfl), (Nat.le_of_ble_eq_true rfl)⟩ ⟨Nat.zero_le _, Nat.zero_le _⟩ dX6_held_16 (fun _ => rfl) (fun _ => rfl) (fun _ => rfl) (fun u5 => ?_)
      refine r_if_ne C 29 dX6_held_19 (by decide) (fun h19 => ?_) (fun h19 => ?_)
      · refine r_aload_n C 0 dX6_held_22 rfl ?_
        refine r_ldc C (-1000001) dX6_held_23 m_1002 ?_
        refine r_callV0 C (o_X6_finding l M (-1000001 : Int32)) v_X6_finding m_1003 [.int (-1000001 : Int32)] [] (50) (Or.inl ⟨0, 5, _, TX6, 25, rfl, rfl, rfl⟩) (fun u11 => [.int u11.1]) (fun u11 => [.inr (5, [.ref 51, .ref 52, .ref 53, .int (u11.2.1 3), .ref 54, .ref 55, .ref 56, .int (u11.2.1 7), .ref 57, .ref 58, .int (u11.2.1 10), .int (u11.2.1 11), .int (u11.2.1 12), .int (u11.2.1 13), .int (u11.2.1 14), .int (u11.2.1 15), .ref 59, .ref 60, .int (u11.2.1 18), .int (u11.2.1 19), .int (u11.2.1 20), .ref 61, .ref 62, .ref 63, .ref 64]), .inl (0, 68, .inl (u11.2.2 0)), .inl (0, 68, .inl (u11.2.2 1)), .inl (0, 68, .inl (u11.2.2 2)), .inl (0, 8, .inl (u11.2.2 4)), .inl (0, 1053, .inl (u11.2.2 5)), .inl (1, 972, .inl (u11.2.2 6)), .inl (0, 1053, .inl (u11.2.2 8)), .inl (0, 120, .inl (u11.2.2 9)), .inl (3, 7, .inr (.inr (.inr (.inr q_kf)))), .inl (0, 360, .inl (u11.2.2 17)), .inl (0, 4, .inl (u11.2.2 21)), .inl (0, 4, .inl (u11.2.2 22)), .inl (0, 160, .inl (u11.2.2 23)), .inl (0, 40, .inl (u11.2.2 24))]) rfl rfl rfl (Nat.le_of_ble_eq_true rfl) ⟨(Nat.le_of_ble_eq_true rfl), (Nat.le_of_ble_eq_true rfl)⟩ ⟨Nat.zero_le _, Nat.zero_le _⟩ dX6_held_25 (fun _ => rfl) (fun _ => rfl) (fun _ => rfl) (fun u11 => ?_)
        exact r_reti (x := u11.1) (rv := (fun u => some (.int u.1))) (hpE := (fun u => w_X6 u.2)) (t0 := (u11.1, u11.2)) C dX6_held_28 (by rfl) (by rfl) (by rfl)
      · refine r_aload_n C 0 dX6_held_29 rfl ?_
        refine r_callV0 C (o_X6_doesGo l M) v_X6_doesGo m_1163 [] [] (50) (Or.inl ⟨0, 5, _, TX6, 25, rfl, rfl, rfl⟩) (fun u6 => [.int u6]) (fun u6 => [.inr (5, [.ref 51, .ref 52, .ref 53, .int (M.1 3), .ref 54, .ref 55, .ref 56, .int (M.1 7), .ref 57, .ref 58, .int (M.1 10), .int (M.1 11), .int (M.1 12), .int (M.1 13), .int (M.1 14), .int (M.1 15), .ref 59, .ref 60, .int (M.1 18), .int (M.1 19), .int (M.1 20), .ref 61, .ref 62, .ref 63, .ref 64]), .inl (0, 68, .inl (M.2 0)), .inl (0, 68, .inl (M.2 1)), .inl (0, 68, .inl (M.2 2)), .inl (0, 8, .inl (M.2 4)), .inl (0, 1053, .inl (M.2 5)), .inl (1, 972, .inl (M.2 6)), .inl (0, 1053, .inl (M.2 8)), .inl (0, 120, .inl (M.2 9)), .inl (3, 7, .inr (.inr (.inr (.inr q_kf)))), .inl (0, 360, .inl (M.2 17)), .inl (0, 4, .inl (M.2 21)), .inl (0, 4, .inl (M.2 22)), .inl (0, 160, .inl (M.2 23)), .inl (0, 40, .inl (M.2 24))]) rfl rfl rfl (Nat.le_of_ble_eq_true rfl) ⟨(Nat.le_of_ble_eq_true rfl), (Nat.le_of_ble_eq_true rfl)⟩ ⟨Nat.zero_le _, Nat.zero_le _⟩ dX6_held_30 (fun _ => rfl) (fun _ => rfl) (fun _ => rfl) (fun u6 => ?_)
        refine r_if_ne C 43 dX6_held_33 (by decide) (fun h33 => ?_) (fun h33 => ?_)
        · refine r_aload_n C 0 dX6_held_36 rfl ?_
          refine r_ldc C (-1000005) dX6_held_37 m_1131 ?_
          refine r_callV0 C (o_X6_finding l M (-1000005 : Int32)) v_X6_finding m_1003 [.int (-1000005 : Int32)] [] (50) (Or.inl ⟨0, 5, _, TX6, 25, rfl, rfl, rfl⟩) (fun u10 => [.int u10.1]) (fun u10 => [.inr (5, [.ref 51, .ref 52, .ref 53, .int (u10.2.1 3), .ref 54, .ref 55, .ref 56, .int (u10.2.1 7), .ref 57, .ref 58, .int (u10.2.1 10), .int (u10.2.1 11), .int (u10.2.1 12), .int (u10.2.1 13), .int (u10.2.1 14), .int (u10.2.1 15), .ref 59, .ref 60, .int (u10.2.1 18), .int (u10.2.1 19), .int (u10.2.1 20), .ref 61, .ref 62, .ref 63, .ref 64]), .inl (0, 68, .inl (u10.2.2 0)), .inl (0, 68, .inl (u10.2.2 1)), .inl (0, 68, .inl (u10.2.2 2)), .inl (0, 8, .inl (u10.2.2 4)), .inl (0, 1053, .inl (u10.2.2 5)), .inl (1, 972, .inl (u10.2.2 6)), .inl (0, 1053, .inl (u10.2.2 8)), .inl (0, 120, .inl (u10.2.2 9)), .inl (3, 7, .inr (.inr (.inr (.inr q_kf)))), .inl (0, 360, .inl (u10.2.2 17)), .inl (0, 4, .inl (u10.2.2 21)), .inl (0, 4, .inl (u10.2.2 22)), .inl (0, 160, .inl (u10.2.2 23)), .inl (0, 40, .inl (u10.2.2 24))]) rfl rfl rfl (Nat.le_of_ble_eq_true rfl) ⟨(Nat.le_of_ble_eq_true rfl), (Nat.le_of_ble_eq_true rfl)⟩ ⟨Nat.zero_le _, Nat.zero_le _⟩ dX6_held_39 (fun _ => rfl) (fun _ => rfl) (fun _ => rfl) (fun u10 => ?_)
          exact r_reti (x := u10.1) (rv := (fun u => some (.int u.1))) (hpE := (fun u => w_X6 u.2)) (t0 := (u10.1, u10.2)) C dX6_held_42 (by rfl) (by rfl) (by rfl)
        · refine r_aload_n C 0 dX6_held_43 rfl ?_
          refine r_aload_n C 0 dX6_held_44 rfl ?_
          refine r_callV0 C (o_X6_allBeats l M) v_X6_allBeats m_1167 [] [.ref 50] (50) (Or.inl ⟨0, 5, _, TX6, 25, rfl, rfl, rfl⟩) (fun u7 => [.int u7, .ref 50]) (fun u7 => [.inr (5, [.ref 51, .ref 52, .ref 53, .int (M.1 3), .ref 54, .ref 55, .ref 56, .int (M.1 7), .ref 57, .ref 58, .int (M.1 10), .int (M.1 11), .int (M.1 12), .int (M.1 13), .int (M.1 14), .int (M.1 15), .ref 59, .ref 60, .int (M.1 18), .int (M.1 19), .int (M.1 20), .ref 61, .ref 62, .ref 63, .ref 64]), .inl (0, 68, .inl (M.2 0)), .inl (0, 68, .inl (M.2 1)), .inl (0, 68, .inl (M.2 2)), .inl (0, 8, .inl (M.2 4)), .inl (0, 1053, .inl (M.2 5)), .inl (1, 972, .inl (M.2 6)), .inl (0, 1053, .inl (M.2 8)), .inl (0, 120, .inl (M.2 9)), .inl (3, 7, .inr (.inr (.inr (.inr q_kf)))), .inl (0, 360, .inl (M.2 17)), .inl (0, 4, .inl (M.2 21)), .inl (0, 4, .inl (M.2 22)), .inl (0, 160, .inl (M.2 23)), .inl (0, 40, .inl (M.2 24))]) rfl rfl rfl (Nat.le_of_ble_eq_true rfl) ⟨(Nat.le_of_ble_eq_true rfl), (Nat.le_of_ble_eq_true rfl)⟩ ⟨Nat.zero_le _, Nat.zero_le _⟩ dX6_held_45 (fun _ => rfl) (fun _ => rfl) (fun _ => rfl) (fun u7 => ?_)
          refine r_iload_n C 3 dX6_held_48 rfl ?_
          refine r_callV0 C (o_X6_findWay l M u7 a3) v_X6_findWay m_1171 [.int u7, .int a3] [] (50) (Or.inl ⟨0, 5, _, TX6, 25, rfl, rfl, rfl⟩) (fun u8 => [.int u8.1]) (fun u8 => [.inr (5, [.ref 51, .ref 52, .ref 53, .int (u8.2.1 3), .ref 54, .ref 55, .ref 56, .int (u8.2.1 7), .ref 57, .ref 58, .int (u8.2.1 10), .int (u8.2.1 11), .int (u8.2.1 12), .int (u8.2.1 13), .int (u8.2.1 14), .int (u8.2.1 15), .ref 59, .ref 60, .int (u8.2.1 18), .int (u8.2.1 19), .int (u8.2.1 20), .ref 61, .ref 62, .ref 63, .ref 64]), .inl (0, 68, .inl (u8.2.2 0)), .inl (0, 68, .inl (u8.2.2 1)), .inl (0, 68, .inl (u8.2.2 2)), .inl (0, 8, .inl (u8.2.2 4)), .inl (0, 1053, .inl (u8.2.2 5)), .inl (1, 972, .inl (u8.2.2 6)), .inl (0, 1053, .inl (u8.2.2 8)), .inl (0, 120, .inl (u8.2.2 9)), .inl (3, 7, .inr (.inr (.inr (.inr q_kf)))), .inl (0, 360, .inl (u8.2.2 17)), .inl (0, 4, .inl (u8.2.2 21)), .inl (0, 4, .inl (u8.2.2 22)), .inl (0, 160, .inl (u8.2.2 23)), .inl (0, 40, .inl (u8.2.2 24))]) rfl rfl rfl (Nat.le_of_ble_eq_true rfl) ⟨(Nat.le_of_ble_eq_true rfl), (Nat.le_of_ble_eq_true rfl)⟩ ⟨Nat.zero_le _, Nat.zero_le _⟩ dX6_held_49 (fun _ => rfl) (fun _ => rfl) (fun _ => rfl) (fun u8 => ?_)
          refine r_istore C [(4, .int u8.1), (0, .ref 50), (1, .int a1), (2, .int a2), (3, .int a3)] dX6_held_52 (Nat.le_of_ble_eq_true rfl) rfl ?_
          refine r_iload C 0 dX6_held_54 rfl ?_
          refine r_ldc C (1000000) dX6_held_56 m_1185 ?_
          refine r_icmp_ge C 68 dX6_held_58 (by decide) (fun h58 => ?_) (fun h58 => ?_)
          · refine r_iconst C (0) dX6_held_68 rfl ?_
            refine r_istore C [(5, .int (0 : Int32)), (4, .int u8.1), (0, .ref 50), (1, .int a1), (2, .int a2), (3, .int a3)] dX6_held_69 (Nat.le_of_ble_eq_true rfl) rfl ?_
            refine r_iconst C (0) dX6_held_71 rfl ?_
            refine r_istore C [(6, .int (0 : Int32)), (5, .int (0 : Int32)), (4, .int u8.1), (0, .ref 50), (1, .int a1), (2, .int a2), (3, .int a3)] dX6_held_72 (Nat.le_of_ble_eq_true rfl) rfl ?_
            refine r_lv [(0, .ref 50), (1, .int a1), (2, .int a2), (3, .int a3), (5, .int (0 : Int32)), (6, .int (0 : Int32))] [3, 4, 5, 6, 1, 0] rfl ?_
            exact k_X6_held_74 C M a1 a2 a3   q_N a1 a2 a3 (0 : Int32) (0 : Int32) u8.2
          · refine r_aload_n C 1 dX6_held_61 rfl ?_
            refine r_callV0 C (o_X6_holdNow l u8.2) v_X6_holdNow m_1191 [] [] (50) (Or.inl ⟨0, 5, _, TX6, 25, rfl, rfl, rfl⟩) (fun u9 => [.int u9]) (fun u9 => [.inr (5, [.ref 51, .ref 52, .ref 53, .int (u8.2.1 3), .ref 54, .ref 55, .ref 56, .int (u8.2.1 7), .ref 57, .ref 58, .int (u8.2.1 10), .int (u8.2.1 11), .int (u8.2.1 12), .int (u8.2.1 13), .int (u8.2.1 14), .int (u8.2.1 15), .ref 59, .ref 60, .int (u8.2.1 18), .int (u8.2.1 19), .int (u8.2.1 20), .ref 61, .ref 62, .ref 63, .ref 64]), .inl (0, 68, .inl (u8.2.2 0)), .inl (0, 68, .inl (u8.2.2 1)), .inl (0, 68, .inl (u8.2.2 2)), .inl (0, 8, .inl (u8.2.2 4)), .inl (0, 1053, .inl (u8.2.2 5)), .inl (1, 972, .inl (u8.2.2 6)), .inl (0, 1053, .inl (u8.2.2 8)), .inl (0, 120, .inl (u8.2.2 9)), .inl (3, 7, .inr (.inr (.inr (.inr q_kf)))), .inl (0, 360, .inl (u8.2.2 17)), .inl (0, 4, .inl (u8.2.2 21)), .inl (0, 4, .inl (u8.2.2 22)), .inl (0, 160, .inl (u8.2.2 23)), .inl (0, 40, .inl (u8.2.2 24))]) rfl rfl rfl (Nat.le_of_ble_eq_true rfl) ⟨(Nat.le_of_ble_eq_true rfl), (Nat.le_of_ble_eq_true rfl)⟩ ⟨Nat.zero_le _, Nat.zero_le _⟩ dX6_held_62 (fun _ => rfl) (fun _ => rfl) (fun _ => rfl) (fun u9 => ?_)
            refine r_goto C 69 dX6_held_65 (by decide) ?_
            refine r_istore C [(5, .int u9), (4, .int u8.1), (0, .ref 50), (1, .int a1), (2, .int a2), (3, .int a3)] dX6_held_69 (Nat.le_of_ble_eq_true rfl) rfl ?_
            refine r_iconst C (0) dX6_held_71 rfl ?_
            refine r_istore C [(6, .int (0 : Int32)), (5, .int u9), (4, .int u8.1), (0, .ref 50), (1, .int a1), (2, .int a2), (3, .int a3)] dX6_held_72 (Nat.le_of_ble_eq_true rfl) rfl ?_
            refine r_lv [(0, .ref 50), (1, .int a1), (2, .int a2), (3, .int a3), (5, .int u9), (6, .int (0 : Int32))] [3, 4, 5, 6, 1, 0] rfl ?_
            exact k_X6_held_74 C M a1 a2 a3   q_N a1 a2 a3 u9 (0 : Int32) u8.2
set_option maxRecDepth 100000 in
set_option maxHeartbeats 4000000 in
theorem o_X6_part (l : Launch) (M : q_St) (a1 : Int32) (a2 : Int32) (a3 : Int32) : q_Ok l yX6_part cX6_part 5 (some .int) 6 136 [.ref 50, .int a1, .int a2, .int a3] (w_X6 M) (f_X6_part M a1 a2 a3) (fun u => some (.int u.1)) (fun u => w_X6 u.2) := by
  refine q_enter (by decide +kernel) (Nat.le_of_ble_eq_true rfl) (fun t p e s m args below meth c dC dI dA A α C => ?_)
  refine r_cut (f_X6_part.eq_1 _ _ _ _) ?_
  show q_S p l e (q_rm 6 136) s m args below meth c 5 dC dI dA A α (MQ below (q_Q α dC dI dA A ((fun u => some (.int u.1)) t) ((fun u => w_X6 u.2) t)) args s 0 0 A) 0 0 _ t 0 [(0, .ref 50), (1, .int a1), (2, .int a2), (3, .int a3)] [] (w_X6 M)
  refine r_aload_n C 0 dX6_part_0 rfl ?_
  refine r_iload_n C 1 dX6_part_1 rfl ?_
  refine r_callV0 C (o_X6_isBeat l M a1) v_X6_isBeat m_1086 [.int a1] [] (50) (Or.inl ⟨0, 5, _, TX6, 25, rfl, rfl, rfl⟩) (fun u1 => [.int u1]) (fun u1 => [.inr (5, [.ref 51, .ref 52, .ref 53, .int (M.1 3), .ref 54, .ref 55, .ref 56, .int (M.1 7), .ref 57, .ref 58, .int (M.1 10), .int (M.1 11), .int (M.1 12), .int (M.1 13), .int (M.1 14), .int (M.1 15), .ref 59, .ref 60, .int (M.1 18), .int (M.1 19), .int (M.1 20), .ref 61, .ref 62, .ref 63, .ref 64]), .inl (0, 68, .inl (M.2 0)), .inl (0, 68, .inl (M.2 1)), .inl (0, 68, .inl (M.2 2)), .inl (0, 8, .inl (M.2 4)), .inl (0, 1053, .inl (M.2 5)), .inl (1, 972, .inl (M.2 6)), .inl (0, 1053, .inl (M.2 8)), .inl (0, 120, .inl (M.2 9)), .inl (3, 7, .inr (.inr (.inr (.inr q_kf)))), .inl (0, 360, .inl (M.2 17)), .inl (0, 4, .inl (M.2 21)), .inl (0, 4, .inl (M.2 22)), .inl (0, 160, .inl (M.2 23)), .inl (0, 40, .inl (M.2 24))]) rfl rfl rfl (Nat.le_of_ble_eq_true rfl) ⟨(Nat.le_of_ble_eq_true rfl), (Nat.le_of_ble_eq_true rfl)⟩ ⟨Nat.zero_le _, Nat.zero_le _⟩ dX6_part_2 (fun _ => rfl) (fun _ => rfl) (fun _ => rfl) (fun u1 => ?_)
  refine r_if_eq C 28 dX6_part_5 (by decide) (fun h5 => ?_) (fun h5 => ?_)
  · refine r_aload_n C 0 dX6_part_28 rfl ?_
    refine r_ldc C (-1000001) dX6_part_29 m_1002 ?_
    refine r_callV0 C (o_X6_finding l M (-1000001 : Int32)) v_X6_finding m_1003 [.int (-1000001 : Int32)] [] (50) (Or.inl ⟨0, 5, _, TX6, 25, rfl, rfl, rfl⟩) (fun u2 => [.int u2.1]) (fun u2 => [.inr (5, [.ref 51, .ref 52, .ref 53, .int (u2.2.1 3), .ref 54, .ref 55, .ref 56, .int (u2.2.1 7), .ref 57, .ref 58, .int (u2.2.1 10), .int (u2.2.1 11), .int (u2.2.1 12), .int (u2.2.1 13), .int (u2.2.1 14), .int (u2.2.1 15), .ref 59, .ref 60, .int (u2.2.1 18), .int (u2.2.1 19), .int (u2.2.1 20), .ref 61, .ref 62, .ref 63, .ref 64]), .inl (0, 68, .inl (u2.2.2 0)), .inl (0, 68, .inl (u2.2.2 1)), .inl (0, 68, .inl (u2.2.2 2)), .inl (0, 8, .inl (u2.2.2 4)), .inl (0, 1053, .inl (u2.2.2 5)), .inl (1, 972, .inl (u2.2.2 6)), .inl (0, 1053, .inl (u2.2.2 8)), .inl (0, 120, .inl (u2.2.2 9)), .inl (3, 7, .inr (.inr (.inr (.inr q_kf)))), .inl (0, 360, .inl (u2.2.2 17)), .inl (0, 4, .inl (u2.2.2 21)), .inl (0, 4, .inl (u2.2.2 22)), .inl (0, 160, .inl (u2.2.2 23)), .inl (0, 40, .inl (u2.2.2 24))]) rfl rfl rfl (Nat.le_of_ble_eq_true rfl) ⟨(Nat.le_of_ble_eq_true rfl), (Nat.le_of_ble_eq_true rfl)⟩ ⟨Nat.zero_le _, Nat.zero_le _⟩ dX6_part_31 (fun _ => rfl) (fun _ => rfl) (fun _ => rfl) (fun u2 => ?_)
    exact r_reti (x := u2.1) (rv := (fun u => some (.int u.1))) (hpE := (fun u => w_X6 u.2)) (t0 := (u2.1, u2.2)) C dX6_part_34 (by rfl) (by rfl) (by rfl)
  · refine r_aload_n C 0 dX6_part_8 rfl ?_
    refine r_iload_n C 2 dX6_part_9 rfl ?_
    refine r_callV0 C (o_X6_isBeat l M a2) v_X6_isBeat m_1086 [.int a2] [] (50) (Or.inl ⟨0, 5, _, TX6, 25, rfl, rfl, rfl⟩) (fun u3 => [.int u3]) (fun u3 => [.inr (5, [.ref 51, .ref 52, .ref 53, .int (M.1 3), .ref 54, .ref 55, .ref 56, .int (M.1 7), .ref 57, .ref 58, .int (M.1 10), .int (M.1 11), .int (M.1 12), .int (M.1 13), .int (M.1 14), .int (M.1 15), .ref 59, .ref 60, .int (M.1 18), .int (M.1 19), .int (M.1 20), .ref 61, .ref 62, .ref 63, .ref 64]), .inl (0, 68, .inl (M.2 0)), .inl (0, 68, .inl (M.2 1)), .inl (0, 68, .inl (M.2 2)), .inl (0, 8, .inl (M.2 4)), .inl (0, 1053, .inl (M.2 5)), .inl (1, 972, .inl (M.2 6)), .inl (0, 1053, .inl (M.2 8)), .inl (0, 120, .inl (M.2 9)), .inl (3, 7, .inr (.inr (.inr (.inr q_kf)))), .inl (0, 360, .inl (M.2 17)), .inl (0, 4, .inl (M.2 21)), .inl (0, 4, .inl (M.2 22)), .inl (0, 160, .inl (M.2 23)), .inl (0, 40, .inl (M.2 24))]) rfl rfl rfl (Nat.le_of_ble_eq_true rfl) ⟨(Nat.le_of_ble_eq_true rfl), (Nat.le_of_ble_eq_true rfl)⟩ ⟨Nat.zero_le _, Nat.zero_le _⟩ dX6_part_10 (fun _ => rfl) (fun _ => rfl) (fun _ => rfl) (fun u3 => ?_)
    refine r_if_eq C 28 dX6_part_13 (by decide) (fun h13 => ?_) (fun h13 => ?_)
    · refine r_aload_n C 0 dX6_part_28 rfl ?_
      refine r_ldc C (-1000001) dX6_part_29 m_1002 ?_
      refine r_callV0 C (o_X6_finding l M (-1000001 : Int32)) v_X6_finding m_1003 [.int (-1000001 : Int32)] [] (50) (Or.inl ⟨0, 5, _, TX6, 25, rfl, rfl, rfl⟩) (fun u4 => [.int u4.1]) (fun u4 => [.inr (5, [.ref 51, .ref 52, .ref 53, .int (u4.2.1 3), .ref 54, .ref 55, .ref 56, .int (u4.2.1 7), .ref 57, .ref 58, .int (u4.2.1 10), .int (u4.2.1 11), .int (u4.2.1 12), .int (u4.2.1 13), .int (u4.2.1 14), .int (u4.2.1 15), .ref 59, .ref 60, .int (u4.2.1 18), .int (u4.2.1 19), .int (u4.2.1 20), .ref 61, .ref 62, .ref 63, .ref 64]), .inl (0, 68, .inl (u4.2.2 0)), .inl (0, 68, .inl (u4.2.2 1)), .inl (0, 68, .inl (u4.2.2 2)), .inl (0, 8, .inl (u4.2.2 4)), .inl (0, 1053, .inl (u4.2.2 5)), .inl (1, 972, .inl (u4.2.2 6)), .inl (0, 1053, .inl (u4.2.2 8)), .inl (0, 120, .inl (u4.2.2 9)), .inl (3, 7, .inr (.inr (.inr (.inr q_kf)))), .inl (0, 360, .inl (u4.2.2 17)), .inl (0, 4, .inl (u4.2.2 21)), .inl (0, 4, .inl (u4.2.2 22)), .inl (0, 160, .inl (u4.2.2 23)), .inl (0, 40, .inl (u4.2.2 24))]) rfl rfl rfl (Nat.le_of_ble_eq_true rfl) ⟨(Nat.le_of_ble_eq_true rfl), (Nat.le_of_ble_eq_true rfl)⟩ ⟨Nat.zero_le _, Nat.zero_le _⟩ dX6_part_31 (fun _ => rfl) (fun _ => rfl) (fun _ => rfl) (fun u4 => ?_)
      exact r_reti (x := u4.1) (rv := (fun u => some (.int u.1))) (hpE := (fun u => w_X6 u.2)) (t0 := (u4.1, u4.2)) C dX6_part_34 (by rfl) (by rfl) (by rfl)
    · refine r_iload_n C 1 dX6_part_16 rfl ?_
      refine r_iload_n C 2 dX6_part_17 rfl ?_
      refine r_icmp_gt C 28 dX6_part_18 (by decide) (fun h18 => ?_) (fun h18 => ?_)
      · refine r_aload_n C 0 dX6_part_28 rfl ?_
        refine r_ldc C (-1000001) dX6_part_29 m_1002 ?_
        refine r_callV0 C (o_X6_finding l M (-1000001 : Int32)) v_X6_finding m_1003 [.int (-1000001 : Int32)] [] (50) (Or.inl ⟨0, 5, _, TX6, 25, rfl, rfl, rfl⟩) (fun u5 => [.int u5.1]) (fun u5 => [.inr (5, [.ref 51, .ref 52, .ref 53, .int (u5.2.1 3), .ref 54, .ref 55, .ref 56, .int (u5.2.1 7), .ref 57, .ref 58, .int (u5.2.1 10), .int (u5.2.1 11), .int (u5.2.1 12), .int (u5.2.1 13), .int (u5.2.1 14), .int (u5.2.1 15), .ref 59, .ref 60, .int (u5.2.1 18), .int (u5.2.1 19), .int (u5.2.1 20), .ref 61, .ref 62, .ref 63, .ref 64]), .inl (0, 68, .inl (u5.2.2 0)), .inl (0, 68, .inl (u5.2.2 1)), .inl (0, 68, .inl (u5.2.2 2)), .inl (0, 8, .inl (u5.2.2 4)), .inl (0, 1053, .inl (u5.2.2 5)), .inl (1, 972, .inl (u5.2.2 6)), .inl (0, 1053, .inl (u5.2.2 8)), .inl (0, 120, .inl (u5.2.2 9)), .inl (3, 7, .inr (.inr (.inr (.inr q_kf)))), .inl (0, 360, .inl (u5.2.2 17)), .inl (0, 4, .inl (u5.2.2 21)), .inl (0, 4, .inl (u5.2.2 22)), .inl (0, 160, .inl (u5.2.2 23)), .inl (0, 40, .inl (u5.2.2 24))]) rfl rfl rfl (Nat.le_of_ble_eq_true rfl) ⟨(Nat.le_of_ble_eq_true rfl), (Nat.le_of_ble_eq_true rfl)⟩ ⟨Nat.zero_le _, Nat.zero_le _⟩ dX6_part_31 (fun _ => rfl) (fun _ => rfl) (fun _ => rfl) (fun u5 => ?_)
        exact r_reti (x := u5.1) (rv := (fun u => some (.int u.1))) (hpE := (fun u => w_X6 u.2)) (t0 := (u5.1, u5.2)) C dX6_part_34 (by rfl) (by rfl) (by rfl)
      · refine r_iload_n C 3 dX6_part_21 rfl ?_
        refine r_callS C (o_X6_isWhat l a3) v_X6_isWhat m_1160 [] [.int a3] [] (fun u6 => [.int u6]) (fun u6 => [.inr (5, [.ref 51, .ref 52, .ref 53, .int (M.1 3), .ref 54, .ref 55, .ref 56, .int (M.1 7), .ref 57, .ref 58, .int (M.1 10), .int (M.1 11), .int (M.1 12), .int (M.1 13), .int (M.1 14), .int (M.1 15), .ref 59, .ref 60, .int (M.1 18), .int (M.1 19), .int (M.1 20), .ref 61, .ref 62, .ref 63, .ref 64]), .inl (0, 68, .inl (M.2 0)), .inl (0, 68, .inl (M.2 1)), .inl (0, 68, .inl (M.2 2)), .inl (0, 8, .inl (M.2 4)), .inl (0, 1053, .inl (M.2 5)), .inl (1, 972, .inl (M.2 6)), .inl (0, 1053, .inl (M.2 8)), .inl (0, 120, .inl (M.2 9)), .inl (3, 7, .inr (.inr (.inr (.inr q_kf)))), .inl (0, 360, .inl (M.2 17)), .inl (0, 4, .inl (M.2 21)), .inl (0, 4, .inl (M.2 22)), .inl (0, 160, .inl (M.2 23)), .inl (0, 40, .inl (M.2 24))]) rfl rfl rfl rfl rfl (Nat.le_of_ble_eq_true rfl) ⟨(Nat.le_of_ble_eq_true rfl), (Nat.le_of_ble_eq_true rfl)⟩ ⟨Nat.zero_le _, Nat.zero_le _⟩ dX6_part_22 (fun _ => rfl) (fun _ => rfl) (fun _ => rfl) (fun u6 => ?_)
        refine r_if_ne C 35 dX6_part_25 (by decide) (fun h25 => ?_) (fun h25 => ?_)
        · refine r_aload_n C 0 dX6_part_28 rfl ?_
          refine r_ldc C (-1000001) dX6_part_29 m_1002 ?_
          refine r_callV0 C (o_X6_finding l M (-1000001 : Int32)) v_X6_finding m_1003 [.int (-1000001 : Int32)] [] (50) (Or.inl ⟨0, 5, _, TX6, 25, rfl, rfl, rfl⟩) (fun u10 => [.int u10.1]) (fun u10 => [.inr (5, [.ref 51, .ref 52, .ref 53, .int (u10.2.1 3), .ref 54, .ref 55, .ref 56, .int (u10.2.1 7), .ref 57, .ref 58, .int (u10.2.1 10), .int (u10.2.1 11), .int (u10.2.1 12), .int (u10.2.1 13), .int (u10.2.1 14), .int (u10.2.1 15), .ref 59, .ref 60, .int (u10.2.1 18), .int (u10.2.1 19), .int (u10.2.1 20), .ref 61, .ref 62, .ref 63, .ref 64]), .inl (0, 68, .inl (u10.2.2 0)), .inl (0, 68, .inl (u10.2.2 1)), .inl (0, 68, .inl (u10.2.2 2)), .inl (0, 8, .inl (u10.2.2 4)), .inl (0, 1053, .inl (u10.2.2 5)), .inl (1, 972, .inl (u10.2.2 6)), .inl (0, 1053, .inl (u10.2.2 8)), .inl (0, 120, .inl (u10.2.2 9)), .inl (3, 7, .inr (.inr (.inr (.inr q_kf)))), .inl (0, 360, .inl (u10.2.2 17)), .inl (0, 4, .inl (u10.2.2 21)), .inl (0, 4, .inl (u10.2.2 22)), .inl (0, 160, .inl (u10.2.2 23)), .inl (0, 40, .inl (u10.2.2 24))]) rfl rfl rfl (Nat.le_of_ble_eq_true rfl) ⟨(Nat.le_of_ble_eq_true rfl), (Nat.le_of_ble_eq_true rfl)⟩ ⟨Nat.zero_le _, Nat.zero_le _⟩ dX6_part_31 (fun _ => rfl) (fun _ => rfl) (fun _ => rfl) (fun u10 => ?_)
          exact r_reti (x := u10.1) (rv := (fun u => some (.int u.1))) (hpE := (fun u => w_X6 u.2)) (t0 := (u10.1, u10.2)) C dX6_part_34 (by rfl) (by rfl) (by rfl)
        · refine r_iconst C (1) dX6_part_35 rfl ?_
          refine r_iload_n C 2 dX6_part_36 rfl ?_
          refine r_iconst C (1) dX6_part_37 rfl ?_
          refine r_iadd C dX6_part_38 ?_
          refine r_ishl C dX6_part_39 ?_
          refine r_iconst C (1) dX6_part_40 rfl ?_
          refine r_iload_n C 1 dX6_part_41 rfl ?_
          refine r_ishl C dX6_part_42 ?_
          refine r_isub C dX6_part_43 ?_
          refine r_istore C [(4, .int (((1 : Int32) <<< ((a2 + (1 : Int32)) &&& 31)) - ((1 : Int32) <<< (a1 &&& 31)))), (0, .ref 50), (1, .int a1), (2, .int a2), (3, .int a3)] dX6_part_44 (Nat.le_of_ble_eq_true rfl) rfl ?_
          refine r_aload_n C 1 dX6_part_46 rfl ?_
          refine r_callV0 C (o_X6_wrongBeats l M) v_X6_wrongBeats m_1116 [] [] (50) (Or.inl ⟨0, 5, _, TX6, 25, rfl, rfl, rfl⟩) (fun u7 => [.int u7]) (fun u7 => [.inr (5, [.ref 51, .ref 52, .ref 53, .int (M.1 3), .ref 54, .ref 55, .ref 56, .int (M.1 7), .ref 57, .ref 58, .int (M.1 10), .int (M.1 11), .int (M.1 12), .int (M.1 13), .int (M.1 14), .int (M.1 15), .ref 59, .ref 60, .int (M.1 18), .int (M.1 19), .int (M.1 20), .ref 61, .ref 62, .ref 63, .ref 64]), .inl (0, 68, .inl (M.2 0)), .inl (0, 68, .inl (M.2 1)), .inl (0, 68, .inl (M.2 2)), .inl (0, 8, .inl (M.2 4)), .inl (0, 1053, .inl (M.2 5)), .inl (1, 972, .inl (M.2 6)), .inl (0, 1053, .inl (M.2 8)), .inl (0, 120, .inl (M.2 9)), .inl (3, 7, .inr (.inr (.inr (.inr q_kf)))), .inl (0, 360, .inl (M.2 17)), .inl (0, 4, .inl (M.2 21)), .inl (0, 4, .inl (M.2 22)), .inl (0, 160, .inl (M.2 23)), .inl (0, 40, .inl (M.2 24))]) rfl rfl rfl (Nat.le_of_ble_eq_true rfl) ⟨(Nat.le_of_ble_eq_true rfl), (Nat.le_of_ble_eq_true rfl)⟩ ⟨Nat.zero_le _, Nat.zero_le _⟩ dX6_part_47 (fun _ => rfl) (fun _ => rfl) (fun _ => rfl) (fun u7 => ?_)
          refine r_iload C 0 dX6_part_50 rfl ?_
          refine r_iand C dX6_part_52 ?_
          refine r_if_ne C 66 dX6_part_53 (by decide) (fun h53 => ?_) (fun h53 => ?_)
          · refine r_aload_n C 1 dX6_part_56 rfl ?_
            refine r_iload C 0 dX6_part_57 rfl ?_
            refine r_iload_n C 4 dX6_part_59 rfl ?_
            refine r_callV0 C (o_X6_findWay l M (((1 : Int32) <<< ((a2 + (1 : Int32)) &&& 31)) - ((1 : Int32) <<< (a1 &&& 31))) a3) v_X6_findWay m_1171 [.int (((1 : Int32) <<< ((a2 + (1 : Int32)) &&& 31)) - ((1 : Int32) <<< (a1 &&& 31))), .int a3] [] (50) (Or.inl ⟨0, 5, _, TX6, 25, rfl, rfl, rfl⟩) (fun u9 => [.int u9.1]) (fun u9 => [.inr (5, [.ref 51, .ref 52, .ref 53, .int (u9.2.1 3), .ref 54, .ref 55, .ref 56, .int (u9.2.1 7), .ref 57, .ref 58, .int (u9.2.1 10), .int (u9.2.1 11), .int (u9.2.1 12), .int (u9.2.1 13), .int (u9.2.1 14), .int (u9.2.1 15), .ref 59, .ref 60, .int (u9.2.1 18), .int (u9.2.1 19), .int (u9.2.1 20), .ref 61, .ref 62, .ref 63, .ref 64]), .inl (0, 68, .inl (u9.2.2 0)), .inl (0, 68, .inl (u9.2.2 1)), .inl (0, 68, .inl (u9.2.2 2)), .inl (0, 8, .inl (u9.2.2 4)), .inl (0, 1053, .inl (u9.2.2 5)), .inl (1, 972, .inl (u9.2.2 6)), .inl (0, 1053, .inl (u9.2.2 8)), .inl (0, 120, .inl (u9.2.2 9)), .inl (3, 7, .inr (.inr (.inr (.inr q_kf)))), .inl (0, 360, .inl (u9.2.2 17)), .inl (0, 4, .inl (u9.2.2 21)), .inl (0, 4, .inl (u9.2.2 22)), .inl (0, 160, .inl (u9.2.2 23)), .inl (0, 40, .inl (u9.2.2 24))]) rfl rfl rfl (Nat.le_of_ble_eq_true rfl) ⟨(Nat.le_of_ble_eq_true rfl), (Nat.le_of_ble_eq_true rfl)⟩ ⟨Nat.zero_le _, Nat.zero_le _⟩ dX6_part_60 (fun _ => rfl) (fun _ => rfl) (fun _ => rfl) (fun u9 => ?_)
            refine r_goto C 72 dX6_part_63 (by decide) ?_
            exact r_reti (x := u9.1) (rv := (fun u => some (.int u.1))) (hpE := (fun u => w_X6 u.2)) (t0 := (u9.1, u9.2)) C dX6_part_72 (by rfl) (by rfl) (by rfl)
          · refine r_aload_n C 1 dX6_part_66 rfl ?_
            refine r_ldc C (-1000005) dX6_part_67 m_1131 ?_
            refine r_callV0 C (o_X6_finding l M (-1000005 : Int32)) v_X6_finding m_1003 [.int (-1000005 : Int32)] [] (50) (Or.inl ⟨0, 5, _, TX6, 25, rfl, rfl, rfl⟩) (fun u8 => [.int u8.1]) (fun u8 => [.inr (5, [.ref 51, .ref 52, .ref 53, .int (u8.2.1 3), .ref 54, .ref 55, .ref 56, .int (u8.2.1 7), .ref 57, .ref 58, .int (u8.2.1 10), .int (u8.2.1 11), .int (u8.2.1 12), .int (u8.2.1 13), .int (u8.2.1 14), .int (u8.2.1 15), .ref 59, .ref 60, .int (u8.2.1 18), .int (u8.2.1 19), .int (u8.2.1 20), .ref 61, .ref 62, .ref 63, .ref 64]), .inl (0, 68, .inl (u8.2.2 0)), .inl (0, 68, .inl (u8.2.2 1)), .inl (0, 68, .inl (u8.2.2 2)), .inl (0, 8, .inl (u8.2.2 4)), .inl (0, 1053, .inl (u8.2.2 5)), .inl (1, 972, .inl (u8.2.2 6)), .inl (0, 1053, .inl (u8.2.2 8)), .inl (0, 120, .inl (u8.2.2 9)), .inl (3, 7, .inr (.inr (.inr (.inr q_kf)))), .inl (0, 360, .inl (u8.2.2 17)), .inl (0, 4, .inl (u8.2.2 21)), .inl (0, 4, .inl (u8.2.2 22)), .inl (0, 160, .inl (u8.2.2 23)), .inl (0, 40, .inl (u8.2.2 24))]) rfl rfl rfl (Nat.le_of_ble_eq_true rfl) ⟨(Nat.le_of_ble_eq_true rfl), (Nat.le_of_ble_eq_true rfl)⟩ ⟨Nat.zero_le _, Nat.zero_le _⟩ dX6_part_69 (fun _ => rfl) (fun _ => rfl) (fun _ => rfl) (fun u8 => ?_)
            exact r_reti (x := u8.1) (rv := (fun u => some (.int u.1))) (hpE := (fun u => w_X6 u.2)) (t0 := (u8.1, u8.2)) C dX6_part_72 (by rfl) (by rfl) (by rfl)
set_option maxRecDepth 100000 in
set_option maxHeartbeats 4000000 in
theorem k_X6_dear_37 {p : Program} {l : Launch} {e : Env} {s : State} {m : MethodId} {args : Array Value} {below : List Frame} {meth : Method} {c : Code} {dC : Nat → ClassId} {dI : Nat → Nat → Nat} {dA : Nat → ClassId} {A : Nat → Prop} {α : Nat → Nat} {t : Int32 × q_St} (C : q_Cx p s m args meth c cX6_dear 5 RX6 (some .int) "dear" dC dI dA A α) (M : q_St)  : ∀ (n : Nat) (x1 : Int32) (x2 : Int32) (x3 : Int32) (M' : q_St), q_S p l e (q_rm 6 136) s m args below meth c 5 dC dI dA A α (MQ below (q_Q α dC dI dA A ((fun u => some (.int u.1)) t) ((fun u => w_X6 u.2) t)) args s 0 0 A) 0 0 (f_X6_dear_37 M  n x1 x2 x3 M') t 37 [(0, .ref 50), (1, .int x1), (2, .int x2), (3, .int x3)] [] (w_X6 M') := by
  intro n
  induction n with
  | zero =>
    intro x1 x2 x3 M'
    exact r_cut (f_X6_dear_37.eq_1 _ _ _ _ _) (r_none True.intro)
  | succ n ih =>
    intro x1 x2 x3 M'
    refine r_cut (f_X6_dear_37.eq_2 _ _ _ _ _ _) ?_
    refine r_iload_n C 3 dX6_dear_37 rfl ?_
    refine r_aload_n C 0 dX6_dear_38 rfl ?_
    refine r_get C 0 0 dX6_dear_39 K_X6 rfl rfl (Nat.le_of_ble_eq_true rfl) rfl m_915 rfl ?_
    refine r_iconst C (1) dX6_dear_42 rfl ?_
    refine r_iald C 1 dX6_dear_43 rfl rfl (fun hi43 => ?_)
    refine r_icmp_ge C 89 dX6_dear_44 (by decide) (fun h44 => ?_) (fun h44 => ?_)
    · refine r_iload_n C 1 dX6_dear_89 rfl ?_
      exact r_reti (x := x1) (rv := (fun u => some (.int u.1))) (hpE := (fun u => w_X6 u.2)) (t0 := (x1, M')) C dX6_dear_90 (by rfl) (by rfl) (by rfl)
    · refine r_aload_n C 0 dX6_dear_47 rfl ?_
      refine r_aload_n C 0 dX6_dear_48 rfl ?_
      refine r_callV0 C (o_X6_allBeats l M') v_X6_allBeats m_1167 [] [.ref 50] (50) (Or.inl ⟨0, 5, _, TX6, 25, rfl, rfl, rfl⟩) (fun u4 => [.int u4, .ref 50]) (fun u4 => [.inr (5, [.ref 51, .ref 52, .ref 53, .int (M'.1 3), .ref 54, .ref 55, .ref 56, .int (M'.1 7), .ref 57, .ref 58, .int (M'.1 10), .int (M'.1 11), .int (M'.1 12), .int (M'.1 13), .int (M'.1 14), .int (M'.1 15), .ref 59, .ref 60, .int (M'.1 18), .int (M'.1 19), .int (M'.1 20), .ref 61, .ref 62, .ref 63, .ref 64]), .inl (0, 68, .inl (M'.2 0)), .inl (0, 68, .inl (M'.2 1)), .inl (0, 68, .inl (M'.2 2)), .inl (0, 8, .inl (M'.2 4)), .inl (0, 1053, .inl (M'.2 5)), .inl (1, 972, .inl (M'.2 6)), .inl (0, 1053, .inl (M'.2 8)), .inl (0, 120, .inl (M'.2 9)), .inl (3, 7, .inr (.inr (.inr (.inr q_kf)))), .inl (0, 360, .inl (M'.2 17)), .inl (0, 4, .inl (M'.2 21)), .inl (0, 4, .inl (M'.2 22)), .inl (0, 160, .inl (M'.2 23)), .inl (0, 40, .inl (M'.2 24))]) rfl rfl rfl (Nat.le_of_ble_eq_true rfl) ⟨(Nat.le_of_ble_eq_true rfl), (Nat.le_of_ble_eq_true rfl)⟩ ⟨Nat.zero_le _, Nat.zero_le _⟩ dX6_dear_49 (fun _ => rfl) (fun _ => rfl) (fun _ => rfl) (fun u4 => ?_)
      refine r_iconst C (1) dX6_dear_52 rfl ?_
      refine r_iload_n C 3 dX6_dear_53 rfl ?_
      refine r_ishl C dX6_dear_54 ?_
      refine r_iconst C (-1) dX6_dear_55 rfl ?_
      refine r_ixor C dX6_dear_56 ?_
      refine r_iand C dX6_dear_57 ?_
      refine r_iconst C (0) dX6_dear_58 rfl ?_
      refine r_callV0 C (o_X6_findWay l M' (u4 &&& (((1 : Int32) <<< (x3 &&& 31)) ^^^ (-1 : Int32))) (0 : Int32)) v_X6_findWay m_1171 [.int (u4 &&& (((1 : Int32) <<< (x3 &&& 31)) ^^^ (-1 : Int32))), .int (0 : Int32)] [] (50) (Or.inl ⟨0, 5, _, TX6, 25, rfl, rfl, rfl⟩) (fun u5 => [.int u5.1]) (fun u5 => [.inr (5, [.ref 51, .ref 52, .ref 53, .int (u5.2.1 3), .ref 54, .ref 55, .ref 56, .int (u5.2.1 7), .ref 57, .ref 58, .int (u5.2.1 10), .int (u5.2.1 11), .int (u5.2.1 12), .int (u5.2.1 13), .int (u5.2.1 14), .int (u5.2.1 15), .ref 59, .ref 60, .int (u5.2.1 18), .int (u5.2.1 19), .int (u5.2.1 20), .ref 61, .ref 62, .ref 63, .ref 64]), .inl (0, 68, .inl (u5.2.2 0)), .inl (0, 68, .inl (u5.2.2 1)), .inl (0, 68, .inl (u5.2.2 2)), .inl (0, 8, .inl (u5.2.2 4)), .inl (0, 1053, .inl (u5.2.2 5)), .inl (1, 972, .inl (u5.2.2 6)), .inl (0, 1053, .inl (u5.2.2 8)), .inl (0, 120, .inl (u5.2.2 9)), .inl (3, 7, .inr (.inr (.inr (.inr q_kf)))), .inl (0, 360, .inl (u5.2.2 17)), .inl (0, 4, .inl (u5.2.2 21)), .inl (0, 4, .inl (u5.2.2 22)), .inl (0, 160, .inl (u5.2.2 23)), .inl (0, 40, .inl (u5.2.2 24))]) rfl rfl rfl (Nat.le_of_ble_eq_true rfl) ⟨(Nat.le_of_ble_eq_true rfl), (Nat.le_of_ble_eq_true rfl)⟩ ⟨Nat.zero_le _, Nat.zero_le _⟩ dX6_dear_59 (fun _ => rfl) (fun _ => rfl) (fun _ => rfl) (fun u5 => ?_)
      refine r_istore C [(4, .int u5.1), (0, .ref 50), (1, .int x1), (2, .int x2), (3, .int x3)] dX6_dear_62 (Nat.le_of_ble_eq_true rfl) rfl ?_
      refine r_iload C 0 dX6_dear_64 rfl ?_
      refine r_iload_n C 3 dX6_dear_66 rfl ?_
      refine r_icmp_ge C 74 dX6_dear_67 (by decide) (fun h67 => ?_) (fun h67 => ?_)
      · refine r_iload_n C 2 dX6_dear_74 rfl ?_
        refine r_istore_n C [(1, .int x1), (4, .int u5.1), (0, .ref 50), (2, .int x2), (3, .int x3)] dX6_dear_75 (Nat.le_of_ble_eq_true rfl) rfl ?_
        refine r_iload_n C 3 dX6_dear_76 rfl ?_
        refine r_iload C 1 dX6_dear_77 rfl ?_
        refine r_mmin C dX6_dear_79 m_1190 m_465 m_8 m_466 (Nat.le_of_ble_eq_true rfl) (Nat.le_of_ble_eq_true rfl) (Nat.zero_le _) (Nat.zero_le _) ?_
        refine r_istore_n C [(2, .int (if u5.1 < x2 then u5.1 else x2)), (1, .int x1), (4, .int u5.1), (0, .ref 50), (3, .int x3)] dX6_dear_82 (Nat.le_of_ble_eq_true rfl) rfl ?_
        refine r_iinc C 4 (x3 + 1) [(3, .int (x3 + 1)), (2, .int (if u5.1 < x2 then u5.1 else x2)), (1, .int x1), (4, .int u5.1), (0, .ref 50)] dX6_dear_83 rfl rfl (Nat.le_of_ble_eq_true rfl) rfl ?_
        refine r_goto C 37 dX6_dear_86 (by decide) ?_
        refine r_lv [(0, .ref 50), (1, .int x1), (2, .int (if u5.1 < x2 then u5.1 else x2)), (3, .int (x3 + 1))] [4, 2, 1, 0] rfl ?_
        exact ih x1 (if u5.1 < x2 then u5.1 else x2) (x3 + 1) u5.2
      · refine r_iload_n C 4 dX6_dear_70 rfl ?_
        refine r_goto C 75 dX6_dear_71 (by decide) ?_
        refine r_istore_n C [(1, .int x3), (4, .int u5.1), (0, .ref 50), (2, .int x2), (3, .int x3)] dX6_dear_75 (Nat.le_of_ble_eq_true rfl) rfl ?_
        refine r_iload_n C 3 dX6_dear_76 rfl ?_
        refine r_iload C 1 dX6_dear_77 rfl ?_
        refine r_mmin C dX6_dear_79 m_1190 m_465 m_8 m_466 (Nat.le_of_ble_eq_true rfl) (Nat.le_of_ble_eq_true rfl) (Nat.zero_le _) (Nat.zero_le _) ?_
        refine r_istore_n C [(2, .int (if u5.1 < x2 then u5.1 else x2)), (1, .int x3), (4, .int u5.1), (0, .ref 50), (3, .int x3)] dX6_dear_82 (Nat.le_of_ble_eq_true rfl) rfl ?_
        refine r_iinc C 4 (x3 + 1) [(3, .int (x3 + 1)), (2, .int (if u5.1 < x2 then u5.1 else x2)), (1, .int x3), (4, .int u5.1), (0, .ref 50)] dX6_dear_83 rfl rfl (Nat.le_of_ble_eq_true rfl) rfl ?_
        refine r_goto C 37 dX6_dear_86 (by decide) ?_
        refine r_lv [(0, .ref 50), (1, .int x3), (2, .int (if u5.1 < x2 then u5.1 else x2)), (3, .int (x3 + 1))] [4, 2, 1, 0] rfl ?_
        exact ih x3 (if u5.1 < x2 then u5.1 else x2) (x3 + 1) u5.2
set_option maxRecDepth 100000 in
set_option maxHeartbeats 4000000 in
theorem o_X6_dear (l : Launch) (M : q_St) : q_Ok l yX6_dear cX6_dear 5 (some .int) 6 136 [.ref 50] (w_X6 M) (f_X6_dear M) (fun u => some (.int u.1)) (fun u => w_X6 u.2) := by
  refine q_enter (by decide +kernel) (Nat.le_of_ble_eq_true rfl) (fun t p e s m args below meth c dC dI dA A α C => ?_)
  refine r_cut (f_X6_dear.eq_1 _) ?_
  show q_S p l e (q_rm 6 136) s m args below meth c 5 dC dI dA A α (MQ below (q_Q α dC dI dA A ((fun u => some (.int u.1)) t) ((fun u => w_X6 u.2) t)) args s 0 0 A) 0 0 _ t 0 [(0, .ref 50)] [] (w_X6 M)
  refine r_aload_n C 0 dX6_dear_0 rfl ?_
  refine r_get C 0 0 dX6_dear_1 K_X6 rfl rfl (Nat.le_of_ble_eq_true rfl) rfl m_915 rfl ?_
  refine r_iconst C (1) dX6_dear_4 rfl ?_
  refine r_iald C 1 dX6_dear_5 rfl rfl (fun hi5 => ?_)
  refine r_if_ne C 16 dX6_dear_6 (by decide) (fun h6 => ?_) (fun h6 => ?_)
  · refine r_aload_n C 0 dX6_dear_9 rfl ?_
    refine r_ldc C (-1000004) dX6_dear_10 m_1211 ?_
    refine r_callV0 C (o_X6_finding l M (-1000004 : Int32)) v_X6_finding m_1003 [.int (-1000004 : Int32)] [] (50) (Or.inl ⟨0, 5, _, TX6, 25, rfl, rfl, rfl⟩) (fun u3 => [.int u3.1]) (fun u3 => [.inr (5, [.ref 51, .ref 52, .ref 53, .int (u3.2.1 3), .ref 54, .ref 55, .ref 56, .int (u3.2.1 7), .ref 57, .ref 58, .int (u3.2.1 10), .int (u3.2.1 11), .int (u3.2.1 12), .int (u3.2.1 13), .int (u3.2.1 14), .int (u3.2.1 15), .ref 59, .ref 60, .int (u3.2.1 18), .int (u3.2.1 19), .int (u3.2.1 20), .ref 61, .ref 62, .ref 63, .ref 64]), .inl (0, 68, .inl (u3.2.2 0)), .inl (0, 68, .inl (u3.2.2 1)), .inl (0, 68, .inl (u3.2.2 2)), .inl (0, 8, .inl (u3.2.2 4)), .inl (0, 1053, .inl (u3.2.2 5)), .inl (1, 972, .inl (u3.2.2 6)), .inl (0, 1053, .inl (u3.2.2 8)), .inl (0, 120, .inl (u3.2.2 9)), .inl (3, 7, .inr (.inr (.inr (.inr q_kf)))), .inl (0, 360, .inl (u3.2.2 17)), .inl (0, 4, .inl (u3.2.2 21)), .inl (0, 4, .inl (u3.2.2 22)), .inl (0, 160, .inl (u3.2.2 23)), .inl (0, 40, .inl (u3.2.2 24))]) rfl rfl rfl (Nat.le_of_ble_eq_true rfl) ⟨(Nat.le_of_ble_eq_true rfl), (Nat.le_of_ble_eq_true rfl)⟩ ⟨Nat.zero_le _, Nat.zero_le _⟩ dX6_dear_12 (fun _ => rfl) (fun _ => rfl) (fun _ => rfl) (fun u3 => ?_)
    exact r_reti (x := u3.1) (rv := (fun u => some (.int u.1))) (hpE := (fun u => w_X6 u.2)) (t0 := (u3.1, u3.2)) C dX6_dear_15 (by rfl) (by rfl) (by rfl)
  · refine r_aload_n C 0 dX6_dear_16 rfl ?_
    refine r_callV0 C (o_X6_doesGo l M) v_X6_doesGo m_1163 [] [] (50) (Or.inl ⟨0, 5, _, TX6, 25, rfl, rfl, rfl⟩) (fun u1 => [.int u1]) (fun u1 => [.inr (5, [.ref 51, .ref 52, .ref 53, .int (M.1 3), .ref 54, .ref 55, .ref 56, .int (M.1 7), .ref 57, .ref 58, .int (M.1 10), .int (M.1 11), .int (M.1 12), .int (M.1 13), .int (M.1 14), .int (M.1 15), .ref 59, .ref 60, .int (M.1 18), .int (M.1 19), .int (M.1 20), .ref 61, .ref 62, .ref 63, .ref 64]), .inl (0, 68, .inl (M.2 0)), .inl (0, 68, .inl (M.2 1)), .inl (0, 68, .inl (M.2 2)), .inl (0, 8, .inl (M.2 4)), .inl (0, 1053, .inl (M.2 5)), .inl (1, 972, .inl (M.2 6)), .inl (0, 1053, .inl (M.2 8)), .inl (0, 120, .inl (M.2 9)), .inl (3, 7, .inr (.inr (.inr (.inr q_kf)))), .inl (0, 360, .inl (M.2 17)), .inl (0, 4, .inl (M.2 21)), .inl (0, 4, .inl (M.2 22)), .inl (0, 160, .inl (M.2 23)), .inl (0, 40, .inl (M.2 24))]) rfl rfl rfl (Nat.le_of_ble_eq_true rfl) ⟨(Nat.le_of_ble_eq_true rfl), (Nat.le_of_ble_eq_true rfl)⟩ ⟨Nat.zero_le _, Nat.zero_le _⟩ dX6_dear_17 (fun _ => rfl) (fun _ => rfl) (fun _ => rfl) (fun u1 => ?_)
    refine r_if_ne C 30 dX6_dear_20 (by decide) (fun h20 => ?_) (fun h20 => ?_)
    · refine r_aload_n C 0 dX6_dear_23 rfl ?_
      refine r_ldc C (-1000005) dX6_dear_24 m_1131 ?_
      refine r_callV0 C (o_X6_finding l M (-1000005 : Int32)) v_X6_finding m_1003 [.int (-1000005 : Int32)] [] (50) (Or.inl ⟨0, 5, _, TX6, 25, rfl, rfl, rfl⟩) (fun u2 => [.int u2.1]) (fun u2 => [.inr (5, [.ref 51, .ref 52, .ref 53, .int (u2.2.1 3), .ref 54, .ref 55, .ref 56, .int (u2.2.1 7), .ref 57, .ref 58, .int (u2.2.1 10), .int (u2.2.1 11), .int (u2.2.1 12), .int (u2.2.1 13), .int (u2.2.1 14), .int (u2.2.1 15), .ref 59, .ref 60, .int (u2.2.1 18), .int (u2.2.1 19), .int (u2.2.1 20), .ref 61, .ref 62, .ref 63, .ref 64]), .inl (0, 68, .inl (u2.2.2 0)), .inl (0, 68, .inl (u2.2.2 1)), .inl (0, 68, .inl (u2.2.2 2)), .inl (0, 8, .inl (u2.2.2 4)), .inl (0, 1053, .inl (u2.2.2 5)), .inl (1, 972, .inl (u2.2.2 6)), .inl (0, 1053, .inl (u2.2.2 8)), .inl (0, 120, .inl (u2.2.2 9)), .inl (3, 7, .inr (.inr (.inr (.inr q_kf)))), .inl (0, 360, .inl (u2.2.2 17)), .inl (0, 4, .inl (u2.2.2 21)), .inl (0, 4, .inl (u2.2.2 22)), .inl (0, 160, .inl (u2.2.2 23)), .inl (0, 40, .inl (u2.2.2 24))]) rfl rfl rfl (Nat.le_of_ble_eq_true rfl) ⟨(Nat.le_of_ble_eq_true rfl), (Nat.le_of_ble_eq_true rfl)⟩ ⟨Nat.zero_le _, Nat.zero_le _⟩ dX6_dear_26 (fun _ => rfl) (fun _ => rfl) (fun _ => rfl) (fun u2 => ?_)
      exact r_reti (x := u2.1) (rv := (fun u => some (.int u.1))) (hpE := (fun u => w_X6 u.2)) (t0 := (u2.1, u2.2)) C dX6_dear_29 (by rfl) (by rfl) (by rfl)
    · refine r_iconst C (-1) dX6_dear_30 rfl ?_
      refine r_istore_n C [(1, .int (-1 : Int32)), (0, .ref 50)] dX6_dear_31 (Nat.le_of_ble_eq_true rfl) rfl ?_
      refine r_ldc C (1000000) dX6_dear_32 m_1185 ?_
      refine r_istore_n C [(2, .int (1000000 : Int32)), (1, .int (-1 : Int32)), (0, .ref 50)] dX6_dear_34 (Nat.le_of_ble_eq_true rfl) rfl ?_
      refine r_iconst C (0) dX6_dear_35 rfl ?_
      refine r_istore_n C [(3, .int (0 : Int32)), (2, .int (1000000 : Int32)), (1, .int (-1 : Int32)), (0, .ref 50)] dX6_dear_36 (Nat.le_of_ble_eq_true rfl) rfl ?_
      refine r_lv [(0, .ref 50), (1, .int (-1 : Int32)), (2, .int (1000000 : Int32)), (3, .int (0 : Int32))] [3, 2, 1, 0] rfl ?_
      exact k_X6_dear_37 C M   q_N (-1 : Int32) (1000000 : Int32) (0 : Int32) M
