set_option maxRecDepth 100000 in
set_option maxHeartbeats 4000000 in
theorem o_X6_isDrawn (l : Launch) (M : q_St) (a1 : Int32) (a2 : Int32) (a3 : Int32) : q_Ok l yX6_isDrawn cX6_isDrawn 5 (some .boolean) 3 64 [.ref 50, .int a1, .int a2, .int a3] (w_X6 M) (f_X6_isDrawn M a1 a2 a3) (fun u => some (.int u)) (fun u => w_X6 M) := by
  refine q_enter (by decide +kernel) (Nat.le_of_ble_eq_true rfl) (fun t p e s m args below meth c dC dI dA A α C => ?_)
  refine r_cut (f_X6_isDrawn.eq_1 _ _ _ _) ?_
  show q_S p l e (q_rm 3 64) s m args below meth c 5 dC dI dA A α (MQ below (q_Q α dC dI dA A ((fun u => some (.int u)) t) ((fun u => w_X6 M) t)) args s 0 0 A) 0 0 _ t 0 [(0, .ref 50), (1, .int a1), (2, .int a2), (3, .int a3)] [] (w_X6 M)
  refine r_iload_n C 2 dX6_isDrawn_0 rfl ?_
  refine r_aload_n C 0 dX6_isDrawn_1 rfl ?_
  refine r_get C 0 22 dX6_isDrawn_2 K_X6 rfl rfl (Nat.le_of_ble_eq_true rfl) rfl m_937 rfl ?_
  refine r_iload_n C 1 dX6_isDrawn_5 rfl ?_
  refine r_iald C 12 dX6_isDrawn_6 rfl rfl (fun hi6 => ?_)
  refine r_icmp_lt C 12 dX6_isDrawn_7 (by decide) (fun h7 => ?_) (fun h7 => ?_)
  · refine r_aload_n C 0 dX6_isDrawn_12 rfl ?_
    refine r_get C 0 23 dX6_isDrawn_13 K_X6 rfl rfl (Nat.le_of_ble_eq_true rfl) rfl m_938 rfl ?_
    refine r_bipush C (40) dX6_isDrawn_16 rfl ?_
    refine r_iload_n C 1 dX6_isDrawn_18 rfl ?_
    refine r_imul C dX6_isDrawn_19 ?_
    refine r_iload_n C 2 dX6_isDrawn_20 rfl ?_
    refine r_iadd C dX6_isDrawn_21 ?_
    refine r_iald C 13 dX6_isDrawn_22 rfl rfl (fun hi22 => ?_)
    refine r_istore C [(4, .int (M.2 23 (((40 : Int32) * a1) + a2).toNatClampNeg)), (0, .ref 50), (1, .int a1), (2, .int a2), (3, .int a3)] dX6_isDrawn_23 (Nat.le_of_ble_eq_true rfl) rfl ?_
    refine r_aload_n C 1 dX6_isDrawn_25 rfl ?_
    refine r_iload C 0 dX6_isDrawn_26 rfl ?_
    refine r_callV0 C (o_X6_maySpeak l M (M.2 23 (((40 : Int32) * a1) + a2).toNatClampNeg)) v_X6_maySpeak m_1074 [.int (M.2 23 (((40 : Int32) * a1) + a2).toNatClampNeg)] [] (50) (Or.inl ⟨0, 5, _, TX6, 25, rfl, rfl, rfl⟩) (fun u1 => [.int u1]) (fun u1 => [.inr (5, [.ref 51, .ref 52, .ref 53, .int (M.1 3), .ref 54, .ref 55, .ref 56, .int (M.1 7), .ref 57, .ref 58, .int (M.1 10), .int (M.1 11), .int (M.1 12), .int (M.1 13), .int (M.1 14), .int (M.1 15), .ref 59, .ref 60, .int (M.1 18), .int (M.1 19), .int (M.1 20), .ref 61, .ref 62, .ref 63, .ref 64]), .inl (0, 68, .inl (M.2 0)), .inl (0, 68, .inl (M.2 1)), .inl (0, 68, .inl (M.2 2)), .inl (0, 8, .inl (M.2 4)), .inl (0, 1053, .inl (M.2 5)), .inl (1, 972, .inl (M.2 6)), .inl (0, 1053, .inl (M.2 8)), .inl (0, 120, .inl (M.2 9)), .inl (3, 7, .inr (.inr (.inr (.inr q_kf)))), .inl (0, 360, .inl (M.2 17)), .inl (0, 4, .inl (M.2 21)), .inl (0, 4, .inl (M.2 22)), .inl (0, 160, .inl (M.2 23)), .inl (0, 40, .inl (M.2 24))]) rfl rfl rfl (Nat.le_of_ble_eq_true rfl) ⟨(Nat.le_of_ble_eq_true rfl), (Nat.le_of_ble_eq_true rfl)⟩ ⟨Nat.zero_le _, Nat.zero_le _⟩ dX6_isDrawn_28 (fun _ => rfl) (fun _ => rfl) (fun _ => rfl) (fun u1 => ?_)
    refine r_if_eq C 40 dX6_isDrawn_31 (by decide) (fun h31 => ?_) (fun h31 => ?_)
    · refine r_iconst C (1) dX6_isDrawn_40 rfl ?_
      refine r_goto C 45 dX6_isDrawn_41 (by decide) ?_
      exact r_retz (x := (1 : Int32)) (rv := (fun u => some (.int u))) (hpE := (fun u => w_X6 M)) (t0 := (1 : Int32)) C dX6_isDrawn_45 (by rfl) (by rfl) (by rfl) (by rfl)
    · refine r_iload C 0 dX6_isDrawn_34 rfl ?_
      refine r_iload_n C 4 dX6_isDrawn_36 rfl ?_
      refine r_icmp_ne C 44 dX6_isDrawn_37 (by decide) (fun h37 => ?_) (fun h37 => ?_)
      · refine r_iconst C (1) dX6_isDrawn_40 rfl ?_
        refine r_goto C 45 dX6_isDrawn_41 (by decide) ?_
        exact r_retz (x := (1 : Int32)) (rv := (fun u => some (.int u))) (hpE := (fun u => w_X6 M)) (t0 := (1 : Int32)) C dX6_isDrawn_45 (by rfl) (by rfl) (by rfl) (by rfl)
      · refine r_iconst C (0) dX6_isDrawn_44 rfl ?_
        exact r_retz (x := (0 : Int32)) (rv := (fun u => some (.int u))) (hpE := (fun u => w_X6 M)) (t0 := (0 : Int32)) C dX6_isDrawn_45 (by rfl) (by rfl) (by rfl) (by rfl)
  · refine r_iconst C (1) dX6_isDrawn_10 rfl ?_
    exact r_retz (x := (1 : Int32)) (rv := (fun u => some (.int u))) (hpE := (fun u => w_X6 M)) (t0 := (1 : Int32)) C dX6_isDrawn_11 (by rfl) (by rfl) (by rfl) (by rfl)
set_option maxRecDepth 100000 in
set_option maxHeartbeats 4000000 in
theorem k_X6_holdsFor_5 {p : Program} {l : Launch} {e : Env} {s : State} {m : MethodId} {args : Array Value} {below : List Frame} {meth : Method} {c : Code} {dC : Nat → ClassId} {dI : Nat → Nat → Nat} {dA : Nat → ClassId} {A : Nat → Prop} {α : Nat → Nat} {t : Int32} (C : q_Cx p s m args meth c cX6_holdsFor 6 RX6 (some .int) "holdsFor" dC dI dA A α) (M : q_St) (a1 : Int32) (a2 : Int32)  : ∀ (n : Nat) (x1 : Int32) (x2 : Int32) (x3 : Int32) (x4 : Int32), q_S p l e (q_rm 4 89) s m args below meth c 6 dC dI dA A α (MQ below (q_Q α dC dI dA A ((fun u => some (.int u)) t) ((fun u => w_X6 M) t)) args s 0 0 A) 0 0 (f_X6_holdsFor_5 M a1 a2  n x1 x2 x3 x4) t 5 [(0, .ref 50), (1, .int x1), (2, .int x2), (3, .int x3), (4, .int x4)] [] (w_X6 M) := by
  intro n
  induction n with
  | zero =>
    intro x1 x2 x3 x4
    exact r_cut (f_X6_holdsFor_5.eq_1 _ _ _ _ _ _ _) (r_none True.intro)
  | succ n ih =>
    intro x1 x2 x3 x4
    refine r_cut (f_X6_holdsFor_5.eq_2 _ _ _ _ _ _ _ _) ?_
    refine r_iload C 4 dX6_holdsFor_5 rfl ?_
    refine r_bipush C (81) dX6_holdsFor_7 rfl ?_
    refine r_icmp_ge C 73 dX6_holdsFor_9 (by decide) (fun h9 => ?_) (fun h9 => ?_)
    · refine r_iload_n C 3 dX6_holdsFor_73 rfl ?_
      exact r_reti (x := x3) (rv := (fun u => some (.int u))) (hpE := (fun u => w_X6 M)) (t0 := x3) C dX6_holdsFor_74 (by rfl) (by rfl) (by rfl)
    · refine r_iload C 4 dX6_holdsFor_12 rfl ?_
      refine r_callS C (o_X6_leftOf l x4) v_X6_leftOf m_1175 [] [.int x4] [] (fun u1 => [.int u1]) (fun u1 => [.inr (5, [.ref 51, .ref 52, .ref 53, .int (M.1 3), .ref 54, .ref 55, .ref 56, .int (M.1 7), .ref 57, .ref 58, .int (M.1 10), .int (M.1 11), .int (M.1 12), .int (M.1 13), .int (M.1 14), .int (M.1 15), .ref 59, .ref 60, .int (M.1 18), .int (M.1 19), .int (M.1 20), .ref 61, .ref 62, .ref 63, .ref 64]), .inl (0, 68, .inl (M.2 0)), .inl (0, 68, .inl (M.2 1)), .inl (0, 68, .inl (M.2 2)), .inl (0, 8, .inl (M.2 4)), .inl (0, 1053, .inl (M.2 5)), .inl (1, 972, .inl (M.2 6)), .inl (0, 1053, .inl (M.2 8)), .inl (0, 120, .inl (M.2 9)), .inl (3, 7, .inr (.inr (.inr (.inr q_kf)))), .inl (0, 360, .inl (M.2 17)), .inl (0, 4, .inl (M.2 21)), .inl (0, 4, .inl (M.2 22)), .inl (0, 160, .inl (M.2 23)), .inl (0, 40, .inl (M.2 24))]) rfl rfl rfl rfl rfl (Nat.le_of_ble_eq_true rfl) ⟨(Nat.le_of_ble_eq_true rfl), (Nat.le_of_ble_eq_true rfl)⟩ ⟨Nat.zero_le _, Nat.zero_le _⟩ dX6_holdsFor_14 (fun _ => rfl) (fun _ => rfl) (fun _ => rfl) (fun u1 => ?_)
      refine r_istore C [(5, .int u1), (0, .ref 50), (1, .int x1), (2, .int x2), (3, .int x3), (4, .int x4)] dX6_holdsFor_17 (Nat.le_of_ble_eq_true rfl) rfl ?_
      refine r_iload_n C 4 dX6_holdsFor_19 rfl ?_
      refine r_aload_n C 1 dX6_holdsFor_20 rfl ?_
      refine r_iload C 0 dX6_holdsFor_21 rfl ?_
      refine r_iload C 5 dX6_holdsFor_23 rfl ?_
      refine r_callS C (o_X6_rightOf l x4) v_X6_rightOf m_1178 [] [.int x4] [.int u1, .ref 50, .int x3] (fun u2 => [.int u2, .int u1, .ref 50, .int x3]) (fun u2 => [.inr (5, [.ref 51, .ref 52, .ref 53, .int (M.1 3), .ref 54, .ref 55, .ref 56, .int (M.1 7), .ref 57, .ref 58, .int (M.1 10), .int (M.1 11), .int (M.1 12), .int (M.1 13), .int (M.1 14), .int (M.1 15), .ref 59, .ref 60, .int (M.1 18), .int (M.1 19), .int (M.1 20), .ref 61, .ref 62, .ref 63, .ref 64]), .inl (0, 68, .inl (M.2 0)), .inl (0, 68, .inl (M.2 1)), .inl (0, 68, .inl (M.2 2)), .inl (0, 8, .inl (M.2 4)), .inl (0, 1053, .inl (M.2 5)), .inl (1, 972, .inl (M.2 6)), .inl (0, 1053, .inl (M.2 8)), .inl (0, 120, .inl (M.2 9)), .inl (3, 7, .inr (.inr (.inr (.inr q_kf)))), .inl (0, 360, .inl (M.2 17)), .inl (0, 4, .inl (M.2 21)), .inl (0, 4, .inl (M.2 22)), .inl (0, 160, .inl (M.2 23)), .inl (0, 40, .inl (M.2 24))]) rfl rfl rfl rfl rfl (Nat.le_of_ble_eq_true rfl) ⟨(Nat.le_of_ble_eq_true rfl), (Nat.le_of_ble_eq_true rfl)⟩ ⟨Nat.zero_le _, Nat.zero_le _⟩ dX6_holdsFor_25 (fun _ => rfl) (fun _ => rfl) (fun _ => rfl) (fun u2 => ?_)
      refine r_callV0 C (o_X6_isHold l M u1 u2) v_X6_isHold m_1181 [.int u1, .int u2] [.int x3] (50) (Or.inl ⟨0, 5, _, TX6, 25, rfl, rfl, rfl⟩) (fun u3 => [.int u3, .int x3]) (fun u3 => [.inr (5, [.ref 51, .ref 52, .ref 53, .int (M.1 3), .ref 54, .ref 55, .ref 56, .int (M.1 7), .ref 57, .ref 58, .int (M.1 10), .int (M.1 11), .int (M.1 12), .int (M.1 13), .int (M.1 14), .int (M.1 15), .ref 59, .ref 60, .int (M.1 18), .int (M.1 19), .int (M.1 20), .ref 61, .ref 62, .ref 63, .ref 64]), .inl (0, 68, .inl (M.2 0)), .inl (0, 68, .inl (M.2 1)), .inl (0, 68, .inl (M.2 2)), .inl (0, 8, .inl (M.2 4)), .inl (0, 1053, .inl (M.2 5)), .inl (1, 972, .inl (M.2 6)), .inl (0, 1053, .inl (M.2 8)), .inl (0, 120, .inl (M.2 9)), .inl (3, 7, .inr (.inr (.inr (.inr q_kf)))), .inl (0, 360, .inl (M.2 17)), .inl (0, 4, .inl (M.2 21)), .inl (0, 4, .inl (M.2 22)), .inl (0, 160, .inl (M.2 23)), .inl (0, 40, .inl (M.2 24))]) rfl rfl rfl (Nat.le_of_ble_eq_true rfl) ⟨(Nat.le_of_ble_eq_true rfl), (Nat.le_of_ble_eq_true rfl)⟩ ⟨Nat.zero_le _, Nat.zero_le _⟩ dX6_holdsFor_28 (fun _ => rfl) (fun _ => rfl) (fun _ => rfl) (fun u3 => ?_)
      refine r_if_eq C 64 dX6_holdsFor_31 (by decide) (fun h31 => ?_) (fun h31 => ?_)
      · refine r_iconst C (0) dX6_holdsFor_64 rfl ?_
        refine r_iadd C dX6_holdsFor_65 ?_
        refine r_istore_n C [(3, .int (x3 + (0 : Int32))), (5, .int u1), (0, .ref 50), (1, .int x1), (2, .int x2), (4, .int x4)] dX6_holdsFor_66 (Nat.le_of_ble_eq_true rfl) rfl ?_
        refine r_iinc C 5 (x4 + 1) [(4, .int (x4 + 1)), (3, .int (x3 + (0 : Int32))), (5, .int u1), (0, .ref 50), (1, .int x1), (2, .int x2)] dX6_holdsFor_67 rfl rfl (Nat.le_of_ble_eq_true rfl) rfl ?_
        refine r_goto C 5 dX6_holdsFor_70 (by decide) ?_
        refine r_lv [(0, .ref 50), (1, .int x1), (2, .int x2), (3, .int (x3 + (0 : Int32))), (4, .int (x4 + 1))] [3, 4, 5, 1, 0] rfl ?_
        exact ih x1 x2 (x3 + (0 : Int32)) (x4 + 1)
      · refine r_aload_n C 1 dX6_holdsFor_34 rfl ?_
        refine r_iload C 0 dX6_holdsFor_35 rfl ?_
        refine r_iload C 5 dX6_holdsFor_37 rfl ?_
        refine r_callS C (o_X6_rightOf l x4) v_X6_rightOf m_1178 [] [.int x4] [.int u1, .ref 50, .int x3] (fun u4 => [.int u4, .int u1, .ref 50, .int x3]) (fun u4 => [.inr (5, [.ref 51, .ref 52, .ref 53, .int (M.1 3), .ref 54, .ref 55, .ref 56, .int (M.1 7), .ref 57, .ref 58, .int (M.1 10), .int (M.1 11), .int (M.1 12), .int (M.1 13), .int (M.1 14), .int (M.1 15), .ref 59, .ref 60, .int (M.1 18), .int (M.1 19), .int (M.1 20), .ref 61, .ref 62, .ref 63, .ref 64]), .inl (0, 68, .inl (M.2 0)), .inl (0, 68, .inl (M.2 1)), .inl (0, 68, .inl (M.2 2)), .inl (0, 8, .inl (M.2 4)), .inl (0, 1053, .inl (M.2 5)), .inl (1, 972, .inl (M.2 6)), .inl (0, 1053, .inl (M.2 8)), .inl (0, 120, .inl (M.2 9)), .inl (3, 7, .inr (.inr (.inr (.inr q_kf)))), .inl (0, 360, .inl (M.2 17)), .inl (0, 4, .inl (M.2 21)), .inl (0, 4, .inl (M.2 22)), .inl (0, 160, .inl (M.2 23)), .inl (0, 40, .inl (M.2 24))]) rfl rfl rfl rfl rfl (Nat.le_of_ble_eq_true rfl) ⟨(Nat.le_of_ble_eq_true rfl), (Nat.le_of_ble_eq_true rfl)⟩ ⟨Nat.zero_le _, Nat.zero_le _⟩ dX6_holdsFor_39 (fun _ => rfl) (fun _ => rfl) (fun _ => rfl) (fun u4 => ?_)
        refine r_iload_n C 3 dX6_holdsFor_42 rfl ?_
        refine r_callV0 C (o_X6_doesSuit l M u1 u4 x2) v_X6_doesSuit m_1148 [.int u1, .int u4, .int x2] [.int x3] (50) (Or.inl ⟨0, 5, _, TX6, 25, rfl, rfl, rfl⟩) (fun u5 => [.int u5, .int x3]) (fun u5 => [.inr (5, [.ref 51, .ref 52, .ref 53, .int (M.1 3), .ref 54, .ref 55, .ref 56, .int (M.1 7), .ref 57, .ref 58, .int (M.1 10), .int (M.1 11), .int (M.1 12), .int (M.1 13), .int (M.1 14), .int (M.1 15), .ref 59, .ref 60, .int (M.1 18), .int (M.1 19), .int (M.1 20), .ref 61, .ref 62, .ref 63, .ref 64]), .inl (0, 68, .inl (M.2 0)), .inl (0, 68, .inl (M.2 1)), .inl (0, 68, .inl (M.2 2)), .inl (0, 8, .inl (M.2 4)), .inl (0, 1053, .inl (M.2 5)), .inl (1, 972, .inl (M.2 6)), .inl (0, 1053, .inl (M.2 8)), .inl (0, 120, .inl (M.2 9)), .inl (3, 7, .inr (.inr (.inr (.inr q_kf)))), .inl (0, 360, .inl (M.2 17)), .inl (0, 4, .inl (M.2 21)), .inl (0, 4, .inl (M.2 22)), .inl (0, 160, .inl (M.2 23)), .inl (0, 40, .inl (M.2 24))]) rfl rfl rfl (Nat.le_of_ble_eq_true rfl) ⟨(Nat.le_of_ble_eq_true rfl), (Nat.le_of_ble_eq_true rfl)⟩ ⟨Nat.zero_le _, Nat.zero_le _⟩ dX6_holdsFor_43 (fun _ => rfl) (fun _ => rfl) (fun _ => rfl) (fun u5 => ?_)
        refine r_if_eq C 64 dX6_holdsFor_46 (by decide) (fun h46 => ?_) (fun h46 => ?_)
        · refine r_iconst C (0) dX6_holdsFor_64 rfl ?_
          refine r_iadd C dX6_holdsFor_65 ?_
          refine r_istore_n C [(3, .int (x3 + (0 : Int32))), (5, .int u1), (0, .ref 50), (1, .int x1), (2, .int x2), (4, .int x4)] dX6_holdsFor_66 (Nat.le_of_ble_eq_true rfl) rfl ?_
          refine r_iinc C 5 (x4 + 1) [(4, .int (x4 + 1)), (3, .int (x3 + (0 : Int32))), (5, .int u1), (0, .ref 50), (1, .int x1), (2, .int x2)] dX6_holdsFor_67 rfl rfl (Nat.le_of_ble_eq_true rfl) rfl ?_
          refine r_goto C 5 dX6_holdsFor_70 (by decide) ?_
          refine r_lv [(0, .ref 50), (1, .int x1), (2, .int x2), (3, .int (x3 + (0 : Int32))), (4, .int (x4 + 1))] [3, 4, 5, 1, 0] rfl ?_
          exact ih x1 x2 (x3 + (0 : Int32)) (x4 + 1)
        · refine r_aload_n C 1 dX6_holdsFor_49 rfl ?_
          refine r_iload_n C 2 dX6_holdsFor_50 rfl ?_
          refine r_iload_n C 3 dX6_holdsFor_51 rfl ?_
          refine r_iload C 0 dX6_holdsFor_52 rfl ?_
          refine r_callV0 C (o_X6_isDrawn l M x1 x2 u1) v_X6_isDrawn m_1263 [.int x1, .int x2, .int u1] [.int x3] (50) (Or.inl ⟨0, 5, _, TX6, 25, rfl, rfl, rfl⟩) (fun u6 => [.int u6, .int x3]) (fun u6 => [.inr (5, [.ref 51, .ref 52, .ref 53, .int (M.1 3), .ref 54, .ref 55, .ref 56, .int (M.1 7), .ref 57, .ref 58, .int (M.1 10), .int (M.1 11), .int (M.1 12), .int (M.1 13), .int (M.1 14), .int (M.1 15), .ref 59, .ref 60, .int (M.1 18), .int (M.1 19), .int (M.1 20), .ref 61, .ref 62, .ref 63, .ref 64]), .inl (0, 68, .inl (M.2 0)), .inl (0, 68, .inl (M.2 1)), .inl (0, 68, .inl (M.2 2)), .inl (0, 8, .inl (M.2 4)), .inl (0, 1053, .inl (M.2 5)), .inl (1, 972, .inl (M.2 6)), .inl (0, 1053, .inl (M.2 8)), .inl (0, 120, .inl (M.2 9)), .inl (3, 7, .inr (.inr (.inr (.inr q_kf)))), .inl (0, 360, .inl (M.2 17)), .inl (0, 4, .inl (M.2 21)), .inl (0, 4, .inl (M.2 22)), .inl (0, 160, .inl (M.2 23)), .inl (0, 40, .inl (M.2 24))]) rfl rfl rfl (Nat.le_of_ble_eq_true rfl) ⟨(Nat.le_of_ble_eq_true rfl), (Nat.le_of_ble_eq_true rfl)⟩ ⟨Nat.zero_le _, Nat.zero_le _⟩ dX6_holdsFor_54 (fun _ => rfl) (fun _ => rfl) (fun _ => rfl) (fun u6 => ?_)
          refine r_if_eq C 64 dX6_holdsFor_57 (by decide) (fun h57 => ?_) (fun h57 => ?_)
          · refine r_iconst C (0) dX6_holdsFor_64 rfl ?_
            refine r_iadd C dX6_holdsFor_65 ?_
            refine r_istore_n C [(3, .int (x3 + (0 : Int32))), (5, .int u1), (0, .ref 50), (1, .int x1), (2, .int x2), (4, .int x4)] dX6_holdsFor_66 (Nat.le_of_ble_eq_true rfl) rfl ?_
            refine r_iinc C 5 (x4 + 1) [(4, .int (x4 + 1)), (3, .int (x3 + (0 : Int32))), (5, .int u1), (0, .ref 50), (1, .int x1), (2, .int x2)] dX6_holdsFor_67 rfl rfl (Nat.le_of_ble_eq_true rfl) rfl ?_
            refine r_goto C 5 dX6_holdsFor_70 (by decide) ?_
            refine r_lv [(0, .ref 50), (1, .int x1), (2, .int x2), (3, .int (x3 + (0 : Int32))), (4, .int (x4 + 1))] [3, 4, 5, 1, 0] rfl ?_
            exact ih x1 x2 (x3 + (0 : Int32)) (x4 + 1)
          · refine r_iconst C (1) dX6_holdsFor_60 rfl ?_
            refine r_goto C 65 dX6_holdsFor_61 (by decide) ?_
            refine r_iadd C dX6_holdsFor_65 ?_
            refine r_istore_n C [(3, .int (x3 + (1 : Int32))), (5, .int u1), (0, .ref 50), (1, .int x1), (2, .int x2), (4, .int x4)] dX6_holdsFor_66 (Nat.le_of_ble_eq_true rfl) rfl ?_
            refine r_iinc C 5 (x4 + 1) [(4, .int (x4 + 1)), (3, .int (x3 + (1 : Int32))), (5, .int u1), (0, .ref 50), (1, .int x1), (2, .int x2)] dX6_holdsFor_67 rfl rfl (Nat.le_of_ble_eq_true rfl) rfl ?_
            refine r_goto C 5 dX6_holdsFor_70 (by decide) ?_
            refine r_lv [(0, .ref 50), (1, .int x1), (2, .int x2), (3, .int (x3 + (1 : Int32))), (4, .int (x4 + 1))] [3, 4, 5, 1, 0] rfl ?_
            exact ih x1 x2 (x3 + (1 : Int32)) (x4 + 1)
set_option maxRecDepth 100000 in
set_option maxHeartbeats 4000000 in
theorem o_X6_holdsFor (l : Launch) (M : q_St) (a1 : Int32) (a2 : Int32) : q_Ok l yX6_holdsFor cX6_holdsFor 6 (some .int) 4 89 [.ref 50, .int a1, .int a2] (w_X6 M) (f_X6_holdsFor M a1 a2) (fun u => some (.int u)) (fun u => w_X6 M) := by
  refine q_enter (by decide +kernel) (Nat.le_of_ble_eq_true rfl) (fun t p e s m args below meth c dC dI dA A α C => ?_)
  refine r_cut (f_X6_holdsFor.eq_1 _ _ _) ?_
  show q_S p l e (q_rm 4 89) s m args below meth c 6 dC dI dA A α (MQ below (q_Q α dC dI dA A ((fun u => some (.int u)) t) ((fun u => w_X6 M) t)) args s 0 0 A) 0 0 _ t 0 [(0, .ref 50), (1, .int a1), (2, .int a2)] [] (w_X6 M)
  refine r_iconst C (0) dX6_holdsFor_0 rfl ?_
  refine r_istore_n C [(3, .int (0 : Int32)), (0, .ref 50), (1, .int a1), (2, .int a2)] dX6_holdsFor_1 (Nat.le_of_ble_eq_true rfl) rfl ?_
  refine r_iconst C (0) dX6_holdsFor_2 rfl ?_
  refine r_istore C [(4, .int (0 : Int32)), (3, .int (0 : Int32)), (0, .ref 50), (1, .int a1), (2, .int a2)] dX6_holdsFor_3 (Nat.le_of_ble_eq_true rfl) rfl ?_
  refine r_lv [(0, .ref 50), (1, .int a1), (2, .int a2), (3, .int (0 : Int32)), (4, .int (0 : Int32))] [2, 3, 4, 1, 0] rfl ?_
  exact k_X6_holdsFor_5 C M a1 a2   q_N a1 a2 (0 : Int32) (0 : Int32)
set_option maxRecDepth 100000 in
set_option maxHeartbeats 4000000 in
theorem k_X6_rowsOf_8 {p : Program} {l : Launch} {e : Env} {s : State} {m : MethodId} {args : Array Value} {below : List Frame} {meth : Method} {c : Code} {dC : Nat → ClassId} {dI : Nat → Nat → Nat} {dA : Nat → ClassId} {A : Nat → Prop} {α : Nat → Nat} {t : Int32} (C : q_Cx p s m args meth c cX6_rowsOf 7 RX6 (some .int) "rowsOf" dC dI dA A α) (M : q_St) (a1 : Int32)  : ∀ (n : Nat) (x1 : Int32) (x2 : Int64) (x4 : Int32) (x5 : Int32), q_S p l e (q_rm 5 114) s m args below meth c 7 dC dI dA A α (MQ below (q_Q α dC dI dA A ((fun u => some (.int u)) t) ((fun u => w_X6 M) t)) args s 0 0 A) 0 0 (f_X6_rowsOf_8 M a1  n x1 x2 x4 x5) t 8 [(0, .ref 50), (1, .int x1), (2, .long x2), (4, .int x4), (5, .int x5)] [] (w_X6 M) := by
  intro n
  induction n with
  | zero =>
    intro x1 x2 x4 x5
    exact r_cut (f_X6_rowsOf_8.eq_1 _ _ _ _ _ _) (r_none True.intro)
  | succ n ih =>
    intro x1 x2 x4 x5
    refine r_cut (f_X6_rowsOf_8.eq_2 _ _ _ _ _ _ _) ?_
    refine r_iload C 4 dX6_rowsOf_8 rfl ?_
    refine r_aload_n C 0 dX6_rowsOf_10 rfl ?_
    refine r_get C 0 0 dX6_rowsOf_11 K_X6 rfl rfl (Nat.le_of_ble_eq_true rfl) rfl m_915 rfl ?_
    refine r_iconst C (1) dX6_rowsOf_14 rfl ?_
    refine r_iald C 1 dX6_rowsOf_15 rfl rfl (fun hi15 => ?_)
    refine r_icmp_ge C 63 dX6_rowsOf_16 (by decide) (fun h16 => ?_) (fun h16 => ?_)
    · refine r_iload C 3 dX6_rowsOf_63 rfl ?_
      refine r_if_eq C 72 dX6_rowsOf_65 (by decide) (fun h65 => ?_) (fun h65 => ?_)
      · refine r_lload_n C 2 dX6_rowsOf_72 rfl ?_
        refine r_l2i C dX6_rowsOf_73 ?_
        exact r_reti (x := x2.toInt32) (rv := (fun u => some (.int u))) (hpE := (fun u => w_X6 M)) (t0 := x2.toInt32) C dX6_rowsOf_74 (by rfl) (by rfl) (by rfl)
      · refine r_iconst C (0) dX6_rowsOf_68 rfl ?_
        refine r_goto C 74 dX6_rowsOf_69 (by decide) ?_
        exact r_reti (x := (0 : Int32)) (rv := (fun u => some (.int u))) (hpE := (fun u => w_X6 M)) (t0 := (0 : Int32)) C dX6_rowsOf_74 (by rfl) (by rfl) (by rfl)
    · refine r_aload_n C 0 dX6_rowsOf_19 rfl ?_
      refine r_iload_n C 1 dX6_rowsOf_20 rfl ?_
      refine r_iload C 4 dX6_rowsOf_21 rfl ?_
      refine r_callV0 C (o_X6_holdsFor l M x1 x5) v_X6_holdsFor m_1259 [.int x1, .int x5] [] (50) (Or.inl ⟨0, 5, _, TX6, 25, rfl, rfl, rfl⟩) (fun u1 => [.int u1]) (fun u1 => [.inr (5, [.ref 51, .ref 52, .ref 53, .int (M.1 3), .ref 54, .ref 55, .ref 56, .int (M.1 7), .ref 57, .ref 58, .int (M.1 10), .int (M.1 11), .int (M.1 12), .int (M.1 13), .int (M.1 14), .int (M.1 15), .ref 59, .ref 60, .int (M.1 18), .int (M.1 19), .int (M.1 20), .ref 61, .ref 62, .ref 63, .ref 64]), .inl (0, 68, .inl (M.2 0)), .inl (0, 68, .inl (M.2 1)), .inl (0, 68, .inl (M.2 2)), .inl (0, 8, .inl (M.2 4)), .inl (0, 1053, .inl (M.2 5)), .inl (1, 972, .inl (M.2 6)), .inl (0, 1053, .inl (M.2 8)), .inl (0, 120, .inl (M.2 9)), .inl (3, 7, .inr (.inr (.inr (.inr q_kf)))), .inl (0, 360, .inl (M.2 17)), .inl (0, 4, .inl (M.2 21)), .inl (0, 4, .inl (M.2 22)), .inl (0, 160, .inl (M.2 23)), .inl (0, 40, .inl (M.2 24))]) rfl rfl rfl (Nat.le_of_ble_eq_true rfl) ⟨(Nat.le_of_ble_eq_true rfl), (Nat.le_of_ble_eq_true rfl)⟩ ⟨Nat.zero_le _, Nat.zero_le _⟩ dX6_rowsOf_23 (fun _ => rfl) (fun _ => rfl) (fun _ => rfl) (fun u1 => ?_)
      refine r_istore C [(6, .int u1), (0, .ref 50), (1, .int x1), (2, .long x2), (4, .int x4), (5, .int x5)] dX6_rowsOf_26 (Nat.le_of_ble_eq_true rfl) rfl ?_
      refine r_iload C 4 dX6_rowsOf_28 rfl ?_
      refine r_if_ne C 38 dX6_rowsOf_30 (by decide) (fun h30 => ?_) (fun h30 => ?_)
      · refine r_iload C 0 dX6_rowsOf_33 rfl ?_
        refine r_if_ne C 42 dX6_rowsOf_35 (by decide) (fun h35 => ?_) (fun h35 => ?_)
        · refine r_iconst C (1) dX6_rowsOf_38 rfl ?_
          refine r_goto C 43 dX6_rowsOf_39 (by decide) ?_
          refine r_istore C [(4, .int (1 : Int32)), (6, .int u1), (0, .ref 50), (1, .int x1), (2, .long x2), (5, .int x5)] dX6_rowsOf_43 (Nat.le_of_ble_eq_true rfl) rfl ?_
          refine r_ldc2 C (1000000001) dX6_rowsOf_45 m_1267 ?_
          refine r_lload_n C 4 dX6_rowsOf_48 rfl ?_
          refine r_iload C 1 dX6_rowsOf_49 rfl ?_
          refine r_i2l C dX6_rowsOf_51 ?_
          refine r_lmul C dX6_rowsOf_52 ?_
          refine r_mminL C dX6_rowsOf_53 m_1268 m_603 m_8 m_604 (Nat.le_of_ble_eq_true rfl) (Nat.le_of_ble_eq_true rfl) (Nat.zero_le _) (Nat.zero_le _) ?_
          refine r_lstore_n C [(2, .long (if (x2 * u1.toInt64) < (1000000001 : Int64) then (x2 * u1.toInt64) else (1000000001 : Int64))), (4, .int (1 : Int32)), (6, .int u1), (0, .ref 50), (1, .int x1), (5, .int x5)] dX6_rowsOf_56 (Nat.le_of_ble_eq_true rfl) rfl ?_
          refine r_iinc C 5 (x5 + 1) [(5, .int (x5 + 1)), (2, .long (if (x2 * u1.toInt64) < (1000000001 : Int64) then (x2 * u1.toInt64) else (1000000001 : Int64))), (4, .int (1 : Int32)), (6, .int u1), (0, .ref 50), (1, .int x1)] dX6_rowsOf_57 rfl rfl (Nat.le_of_ble_eq_true rfl) rfl ?_
          refine r_goto C 8 dX6_rowsOf_60 (by decide) ?_
          refine r_lv [(0, .ref 50), (1, .int x1), (2, .long (if (x2 * u1.toInt64) < (1000000001 : Int64) then (x2 * u1.toInt64) else (1000000001 : Int64))), (4, .int (1 : Int32)), (5, .int (x5 + 1))] [4, 5, 1, 2, 0] rfl ?_
          exact ih x1 (if (x2 * u1.toInt64) < (1000000001 : Int64) then (x2 * u1.toInt64) else (1000000001 : Int64)) (1 : Int32) (x5 + 1)
        · refine r_iconst C (0) dX6_rowsOf_42 rfl ?_
          refine r_istore C [(4, .int (0 : Int32)), (6, .int u1), (0, .ref 50), (1, .int x1), (2, .long x2), (5, .int x5)] dX6_rowsOf_43 (Nat.le_of_ble_eq_true rfl) rfl ?_
          refine r_ldc2 C (1000000001) dX6_rowsOf_45 m_1267 ?_
          refine r_lload_n C 4 dX6_rowsOf_48 rfl ?_
          refine r_iload C 1 dX6_rowsOf_49 rfl ?_
          refine r_i2l C dX6_rowsOf_51 ?_
          refine r_lmul C dX6_rowsOf_52 ?_
          refine r_mminL C dX6_rowsOf_53 m_1268 m_603 m_8 m_604 (Nat.le_of_ble_eq_true rfl) (Nat.le_of_ble_eq_true rfl) (Nat.zero_le _) (Nat.zero_le _) ?_
          refine r_lstore_n C [(2, .long (if (x2 * u1.toInt64) < (1000000001 : Int64) then (x2 * u1.toInt64) else (1000000001 : Int64))), (4, .int (0 : Int32)), (6, .int u1), (0, .ref 50), (1, .int x1), (5, .int x5)] dX6_rowsOf_56 (Nat.le_of_ble_eq_true rfl) rfl ?_
          refine r_iinc C 5 (x5 + 1) [(5, .int (x5 + 1)), (2, .long (if (x2 * u1.toInt64) < (1000000001 : Int64) then (x2 * u1.toInt64) else (1000000001 : Int64))), (4, .int (0 : Int32)), (6, .int u1), (0, .ref 50), (1, .int x1)] dX6_rowsOf_57 rfl rfl (Nat.le_of_ble_eq_true rfl) rfl ?_
          refine r_goto C 8 dX6_rowsOf_60 (by decide) ?_
          refine r_lv [(0, .ref 50), (1, .int x1), (2, .long (if (x2 * u1.toInt64) < (1000000001 : Int64) then (x2 * u1.toInt64) else (1000000001 : Int64))), (4, .int (0 : Int32)), (5, .int (x5 + 1))] [4, 5, 1, 2, 0] rfl ?_
          exact ih x1 (if (x2 * u1.toInt64) < (1000000001 : Int64) then (x2 * u1.toInt64) else (1000000001 : Int64)) (0 : Int32) (x5 + 1)
      · refine r_iconst C (1) dX6_rowsOf_38 rfl ?_
        refine r_goto C 43 dX6_rowsOf_39 (by decide) ?_
        refine r_istore C [(4, .int (1 : Int32)), (6, .int u1), (0, .ref 50), (1, .int x1), (2, .long x2), (5, .int x5)] dX6_rowsOf_43 (Nat.le_of_ble_eq_true rfl) rfl ?_
        refine r_ldc2 C (1000000001) dX6_rowsOf_45 m_1267 ?_
        refine r_lload_n C 4 dX6_rowsOf_48 rfl ?_
        refine r_iload C 1 dX6_rowsOf_49 rfl ?_
        refine r_i2l C dX6_rowsOf_51 ?_
        refine r_lmul C dX6_rowsOf_52 ?_
        refine r_mminL C dX6_rowsOf_53 m_1268 m_603 m_8 m_604 (Nat.le_of_ble_eq_true rfl) (Nat.le_of_ble_eq_true rfl) (Nat.zero_le _) (Nat.zero_le _) ?_
        refine r_lstore_n C [(2, .long (if (x2 * u1.toInt64) < (1000000001 : Int64) then (x2 * u1.toInt64) else (1000000001 : Int64))), (4, .int (1 : Int32)), (6, .int u1), (0, .ref 50), (1, .int x1), (5, .int x5)] dX6_rowsOf_56 (Nat.le_of_ble_eq_true rfl) rfl ?_
        refine r_iinc C 5 (x5 + 1) [(5, .int (x5 + 1)), (2, .long (if (x2 * u1.toInt64) < (1000000001 : Int64) then (x2 * u1.toInt64) else (1000000001 : Int64))), (4, .int (1 : Int32)), (6, .int u1), (0, .ref 50), (1, .int x1)] dX6_rowsOf_57 rfl rfl (Nat.le_of_ble_eq_true rfl) rfl ?_
        refine r_goto C 8 dX6_rowsOf_60 (by decide) ?_
        refine r_lv [(0, .ref 50), (1, .int x1), (2, .long (if (x2 * u1.toInt64) < (1000000001 : Int64) then (x2 * u1.toInt64) else (1000000001 : Int64))), (4, .int (1 : Int32)), (5, .int (x5 + 1))] [4, 5, 1, 2, 0] rfl ?_
        exact ih x1 (if (x2 * u1.toInt64) < (1000000001 : Int64) then (x2 * u1.toInt64) else (1000000001 : Int64)) (1 : Int32) (x5 + 1)
set_option maxRecDepth 100000 in
set_option maxHeartbeats 4000000 in
theorem o_X6_rowsOf (l : Launch) (M : q_St) (a1 : Int32) : q_Ok l yX6_rowsOf cX6_rowsOf 7 (some .int) 5 114 [.ref 50, .int a1] (w_X6 M) (f_X6_rowsOf M a1) (fun u => some (.int u)) (fun u => w_X6 M) := by
  refine q_enter (by decide +kernel) (Nat.le_of_ble_eq_true rfl) (fun t p e s m args below meth c dC dI dA A α C => ?_)
  refine r_cut (f_X6_rowsOf.eq_1 _ _) ?_
  show q_S p l e (q_rm 5 114) s m args below meth c 7 dC dI dA A α (MQ below (q_Q α dC dI dA A ((fun u => some (.int u)) t) ((fun u => w_X6 M) t)) args s 0 0 A) 0 0 _ t 0 [(0, .ref 50), (1, .int a1)] [] (w_X6 M)
  refine r_lconst C (1) dX6_rowsOf_0 rfl ?_
  refine r_lstore_n C [(2, .long (1 : Int64)), (0, .ref 50), (1, .int a1)] dX6_rowsOf_1 (Nat.le_of_ble_eq_true rfl) rfl ?_
  refine r_iconst C (0) dX6_rowsOf_2 rfl ?_
  refine r_istore C [(4, .int (0 : Int32)), (2, .long (1 : Int64)), (0, .ref 50), (1, .int a1)] dX6_rowsOf_3 (Nat.le_of_ble_eq_true rfl) rfl ?_
  refine r_iconst C (0) dX6_rowsOf_5 rfl ?_
  refine r_istore C [(5, .int (0 : Int32)), (4, .int (0 : Int32)), (2, .long (1 : Int64)), (0, .ref 50), (1, .int a1)] dX6_rowsOf_6 (Nat.le_of_ble_eq_true rfl) rfl ?_
  refine r_lv [(0, .ref 50), (1, .int a1), (2, .long (1 : Int64)), (4, .int (0 : Int32)), (5, .int (0 : Int32))] [3, 4, 2, 1, 0] rfl ?_
  exact k_X6_rowsOf_8 C M a1   q_N a1 (1 : Int64) (0 : Int32) (0 : Int32)
set_option maxRecDepth 100000 in
set_option maxHeartbeats 4000000 in
theorem o_X6_isSheet (l : Launch) (a1 : Int32) : q_Ok l yX6_isSheet cX6_isSheet 1 (some .boolean) 1 22 [.int a1] ([]) (f_X6_isSheet a1) (fun u => some (.int u)) (fun _ => []) := by
  refine q_enter (by decide +kernel) (Nat.le_of_ble_eq_true rfl) (fun t p e s m args below meth c dC dI dA A α C => ?_)
  refine r_cut (f_X6_isSheet.eq_1 _) ?_
  show q_S p l e (q_rm 1 22) s m args below meth c 1 dC dI dA A α (MQ below (q_Q α dC dI dA A ((fun u => some (.int u)) t) ((fun _ => []) t)) args s 0 0 A) 0 0 _ t 0 [(0, .int a1)] [] ([])
  refine r_iload_n C 0 dX6_isSheet_0 rfl ?_
  refine r_iconst C (0) dX6_isSheet_1 rfl ?_
  refine r_iconst C (3) dX6_isSheet_2 rfl ?_
  refine r_callS C (o_X6_within l a1 (0 : Int32) (3 : Int32)) v_X6_within m_999 [] [.int a1, .int (0 : Int32), .int (3 : Int32)] [] (fun u1 => [.int u1]) (fun u1 => []) rfl rfl rfl rfl rfl (Nat.le_of_ble_eq_true rfl) ⟨(Nat.le_of_ble_eq_true rfl), (Nat.le_of_ble_eq_true rfl)⟩ ⟨Nat.zero_le _, Nat.zero_le _⟩ dX6_isSheet_3 (fun _ => rfl) (fun _ => rfl) (fun _ => rfl) (fun u1 => ?_)
  refine r_gbz (fun hz => ?_)
  exact r_retz (x := u1) (rv := (fun u => some (.int u))) (hpE := (fun _ => [])) (t0 := u1) C dX6_isSheet_6 (by rfl) (by exact q_nz1 hz) (by rfl) (by rfl)
set_option maxRecDepth 100000 in
set_option maxHeartbeats 4000000 in
theorem o_X6_fits (l : Launch) (M : q_St) (a1 : Int32) : q_Ok l yX6_fits cX6_fits 3 (some .int) 6 140 [.ref 50, .int a1] (w_X6 M) (f_X6_fits M a1) (fun u => some (.int u.1)) (fun u => w_X6 u.2) := by
  refine q_enter (by decide +kernel) (Nat.le_of_ble_eq_true rfl) (fun t p e s m args below meth c dC dI dA A α C => ?_)
  refine r_cut (f_X6_fits.eq_1 _ _) ?_
  show q_S p l e (q_rm 6 140) s m args below meth c 3 dC dI dA A α (MQ below (q_Q α dC dI dA A ((fun u => some (.int u.1)) t) ((fun u => w_X6 u.2) t)) args s 0 0 A) 0 0 _ t 0 [(0, .ref 50), (1, .int a1)] [] (w_X6 M)
  refine r_iload_n C 1 dX6_fits_0 rfl ?_
  refine r_callS C (o_X6_isSheet l a1) v_X6_isSheet m_1251 [] [.int a1] [] (fun u1 => [.int u1]) (fun u1 => [.inr (5, [.ref 51, .ref 52, .ref 53, .int (M.1 3), .ref 54, .ref 55, .ref 56, .int (M.1 7), .ref 57, .ref 58, .int (M.1 10), .int (M.1 11), .int (M.1 12), .int (M.1 13), .int (M.1 14), .int (M.1 15), .ref 59, .ref 60, .int (M.1 18), .int (M.1 19), .int (M.1 20), .ref 61, .ref 62, .ref 63, .ref 64]), .inl (0, 68, .inl (M.2 0)), .inl (0, 68, .inl (M.2 1)), .inl (0, 68, .inl (M.2 2)), .inl (0, 8, .inl (M.2 4)), .inl (0, 1053, .inl (M.2 5)), .inl (1, 972, .inl (M.2 6)), .inl (0, 1053, .inl (M.2 8)), .inl (0, 120, .inl (M.2 9)), .inl (3, 7, .inr (.inr (.inr (.inr q_kf)))), .inl (0, 360, .inl (M.2 17)), .inl (0, 4, .inl (M.2 21)), .inl (0, 4, .inl (M.2 22)), .inl (0, 160, .inl (M.2 23)), .inl (0, 40, .inl (M.2 24))]) rfl rfl rfl rfl rfl (Nat.le_of_ble_eq_true rfl) ⟨(Nat.le_of_ble_eq_true rfl), (Nat.le_of_ble_eq_true rfl)⟩ ⟨Nat.zero_le _, Nat.zero_le _⟩ dX6_fits_1 (fun _ => rfl) (fun _ => rfl) (fun _ => rfl) (fun u1 => ?_)
  refine r_if_ne C 14 dX6_fits_4 (by decide) (fun h4 => ?_) (fun h4 => ?_)
  · refine r_aload_n C 0 dX6_fits_7 rfl ?_
    refine r_ldc C (-1000001) dX6_fits_8 m_1002 ?_
    refine r_callV0 C (o_X6_finding l M (-1000001 : Int32)) v_X6_finding m_1003 [.int (-1000001 : Int32)] [] (50) (Or.inl ⟨0, 5, _, TX6, 25, rfl, rfl, rfl⟩) (fun u5 => [.int u5.1]) (fun u5 => [.inr (5, [.ref 51, .ref 52, .ref 53, .int (u5.2.1 3), .ref 54, .ref 55, .ref 56, .int (u5.2.1 7), .ref 57, .ref 58, .int (u5.2.1 10), .int (u5.2.1 11), .int (u5.2.1 12), .int (u5.2.1 13), .int (u5.2.1 14), .int (u5.2.1 15), .ref 59, .ref 60, .int (u5.2.1 18), .int (u5.2.1 19), .int (u5.2.1 20), .ref 61, .ref 62, .ref 63, .ref 64]), .inl (0, 68, .inl (u5.2.2 0)), .inl (0, 68, .inl (u5.2.2 1)), .inl (0, 68, .inl (u5.2.2 2)), .inl (0, 8, .inl (u5.2.2 4)), .inl (0, 1053, .inl (u5.2.2 5)), .inl (1, 972, .inl (u5.2.2 6)), .inl (0, 1053, .inl (u5.2.2 8)), .inl (0, 120, .inl (u5.2.2 9)), .inl (3, 7, .inr (.inr (.inr (.inr q_kf)))), .inl (0, 360, .inl (u5.2.2 17)), .inl (0, 4, .inl (u5.2.2 21)), .inl (0, 4, .inl (u5.2.2 22)), .inl (0, 160, .inl (u5.2.2 23)), .inl (0, 40, .inl (u5.2.2 24))]) rfl rfl rfl (Nat.le_of_ble_eq_true rfl) ⟨(Nat.le_of_ble_eq_true rfl), (Nat.le_of_ble_eq_true rfl)⟩ ⟨Nat.zero_le _, Nat.zero_le _⟩ dX6_fits_10 (fun _ => rfl) (fun _ => rfl) (fun _ => rfl) (fun u5 => ?_)
    exact r_reti (x := u5.1) (rv := (fun u => some (.int u.1))) (hpE := (fun u => w_X6 u.2)) (t0 := (u5.1, u5.2)) C dX6_fits_13 (by rfl) (by rfl) (by rfl)
  · refine r_aload_n C 0 dX6_fits_14 rfl ?_
    refine r_get C 0 21 dX6_fits_15 K_X6 rfl rfl (Nat.le_of_ble_eq_true rfl) rfl m_936 rfl ?_
    refine r_iload_n C 1 dX6_fits_18 rfl ?_
    refine r_iald C 11 dX6_fits_19 rfl rfl (fun hi19 => ?_)
    refine r_if_ne C 30 dX6_fits_20 (by decide) (fun h20 => ?_) (fun h20 => ?_)
    · refine r_aload_n C 0 dX6_fits_23 rfl ?_
      refine r_ldc C (-1000006) dX6_fits_24 m_1254 ?_
      refine r_callV0 C (o_X6_finding l M (-1000006 : Int32)) v_X6_finding m_1003 [.int (-1000006 : Int32)] [] (50) (Or.inl ⟨0, 5, _, TX6, 25, rfl, rfl, rfl⟩) (fun u4 => [.int u4.1]) (fun u4 => [.inr (5, [.ref 51, .ref 52, .ref 53, .int (u4.2.1 3), .ref 54, .ref 55, .ref 56, .int (u4.2.1 7), .ref 57, .ref 58, .int (u4.2.1 10), .int (u4.2.1 11), .int (u4.2.1 12), .int (u4.2.1 13), .int (u4.2.1 14), .int (u4.2.1 15), .ref 59, .ref 60, .int (u4.2.1 18), .int (u4.2.1 19), .int (u4.2.1 20), .ref 61, .ref 62, .ref 63, .ref 64]), .inl (0, 68, .inl (u4.2.2 0)), .inl (0, 68, .inl (u4.2.2 1)), .inl (0, 68, .inl (u4.2.2 2)), .inl (0, 8, .inl (u4.2.2 4)), .inl (0, 1053, .inl (u4.2.2 5)), .inl (1, 972, .inl (u4.2.2 6)), .inl (0, 1053, .inl (u4.2.2 8)), .inl (0, 120, .inl (u4.2.2 9)), .inl (3, 7, .inr (.inr (.inr (.inr q_kf)))), .inl (0, 360, .inl (u4.2.2 17)), .inl (0, 4, .inl (u4.2.2 21)), .inl (0, 4, .inl (u4.2.2 22)), .inl (0, 160, .inl (u4.2.2 23)), .inl (0, 40, .inl (u4.2.2 24))]) rfl rfl rfl (Nat.le_of_ble_eq_true rfl) ⟨(Nat.le_of_ble_eq_true rfl), (Nat.le_of_ble_eq_true rfl)⟩ ⟨Nat.zero_le _, Nat.zero_le _⟩ dX6_fits_26 (fun _ => rfl) (fun _ => rfl) (fun _ => rfl) (fun u4 => ?_)
      exact r_reti (x := u4.1) (rv := (fun u => some (.int u.1))) (hpE := (fun u => w_X6 u.2)) (t0 := (u4.1, u4.2)) C dX6_fits_29 (by rfl) (by rfl) (by rfl)
    · refine r_aload_n C 0 dX6_fits_30 rfl ?_
      refine r_iload_n C 1 dX6_fits_31 rfl ?_
      refine r_callV0 C (o_X6_rowsOf l M a1) v_X6_rowsOf m_1255 [.int a1] [] (50) (Or.inl ⟨0, 5, _, TX6, 25, rfl, rfl, rfl⟩) (fun u2 => [.int u2]) (fun u2 => [.inr (5, [.ref 51, .ref 52, .ref 53, .int (M.1 3), .ref 54, .ref 55, .ref 56, .int (M.1 7), .ref 57, .ref 58, .int (M.1 10), .int (M.1 11), .int (M.1 12), .int (M.1 13), .int (M.1 14), .int (M.1 15), .ref 59, .ref 60, .int (M.1 18), .int (M.1 19), .int (M.1 20), .ref 61, .ref 62, .ref 63, .ref 64]), .inl (0, 68, .inl (M.2 0)), .inl (0, 68, .inl (M.2 1)), .inl (0, 68, .inl (M.2 2)), .inl (0, 8, .inl (M.2 4)), .inl (0, 1053, .inl (M.2 5)), .inl (1, 972, .inl (M.2 6)), .inl (0, 1053, .inl (M.2 8)), .inl (0, 120, .inl (M.2 9)), .inl (3, 7, .inr (.inr (.inr (.inr q_kf)))), .inl (0, 360, .inl (M.2 17)), .inl (0, 4, .inl (M.2 21)), .inl (0, 4, .inl (M.2 22)), .inl (0, 160, .inl (M.2 23)), .inl (0, 40, .inl (M.2 24))]) rfl rfl rfl (Nat.le_of_ble_eq_true rfl) ⟨(Nat.le_of_ble_eq_true rfl), (Nat.le_of_ble_eq_true rfl)⟩ ⟨Nat.zero_le _, Nat.zero_le _⟩ dX6_fits_32 (fun _ => rfl) (fun _ => rfl) (fun _ => rfl) (fun u2 => ?_)
      refine r_istore_n C [(2, .int u2), (0, .ref 50), (1, .int a1)] dX6_fits_35 (Nat.le_of_ble_eq_true rfl) rfl ?_
      refine r_iload_n C 0 dX6_fits_36 rfl ?_
      refine r_ldc C (1000000000) dX6_fits_37 m_1269 ?_
      refine r_icmp_le C 51 dX6_fits_39 (by decide) (fun h39 => ?_) (fun h39 => ?_)
      · refine r_iload_n C 0 dX6_fits_51 rfl ?_
        exact r_reti (x := u2) (rv := (fun u => some (.int u.1))) (hpE := (fun u => w_X6 u.2)) (t0 := (u2, M)) C dX6_fits_52 (by rfl) (by rfl) (by rfl)
      · refine r_aload_n C 1 dX6_fits_42 rfl ?_
        refine r_ldc C (-1000007) dX6_fits_43 m_1270 ?_
        refine r_callV0 C (o_X6_finding l M (-1000007 : Int32)) v_X6_finding m_1003 [.int (-1000007 : Int32)] [] (50) (Or.inl ⟨0, 5, _, TX6, 25, rfl, rfl, rfl⟩) (fun u3 => [.int u3.1]) (fun u3 => [.inr (5, [.ref 51, .ref 52, .ref 53, .int (u3.2.1 3), .ref 54, .ref 55, .ref 56, .int (u3.2.1 7), .ref 57, .ref 58, .int (u3.2.1 10), .int (u3.2.1 11), .int (u3.2.1 12), .int (u3.2.1 13), .int (u3.2.1 14), .int (u3.2.1 15), .ref 59, .ref 60, .int (u3.2.1 18), .int (u3.2.1 19), .int (u3.2.1 20), .ref 61, .ref 62, .ref 63, .ref 64]), .inl (0, 68, .inl (u3.2.2 0)), .inl (0, 68, .inl (u3.2.2 1)), .inl (0, 68, .inl (u3.2.2 2)), .inl (0, 8, .inl (u3.2.2 4)), .inl (0, 1053, .inl (u3.2.2 5)), .inl (1, 972, .inl (u3.2.2 6)), .inl (0, 1053, .inl (u3.2.2 8)), .inl (0, 120, .inl (u3.2.2 9)), .inl (3, 7, .inr (.inr (.inr (.inr q_kf)))), .inl (0, 360, .inl (u3.2.2 17)), .inl (0, 4, .inl (u3.2.2 21)), .inl (0, 4, .inl (u3.2.2 22)), .inl (0, 160, .inl (u3.2.2 23)), .inl (0, 40, .inl (u3.2.2 24))]) rfl rfl rfl (Nat.le_of_ble_eq_true rfl) ⟨(Nat.le_of_ble_eq_true rfl), (Nat.le_of_ble_eq_true rfl)⟩ ⟨Nat.zero_le _, Nat.zero_le _⟩ dX6_fits_45 (fun _ => rfl) (fun _ => rfl) (fun _ => rfl) (fun u3 => ?_)
        refine r_goto C 52 dX6_fits_48 (by decide) ?_
        exact r_reti (x := u3.1) (rv := (fun u => some (.int u.1))) (hpE := (fun u => w_X6 u.2)) (t0 := (u3.1, u3.2)) C dX6_fits_52 (by rfl) (by rfl) (by rfl)
set_option maxRecDepth 100000 in
set_option maxHeartbeats 4000000 in
theorem k_X6_maybe_138 {p : Program} {l : Launch} {e : Env} {s : State} {m : MethodId} {args : Array Value} {below : List Frame} {meth : Method} {c : Code} {dC : Nat → ClassId} {dI : Nat → Nat → Nat} {dA : Nat → ClassId} {A : Nat → Prop} {α : Nat → Nat} {t : Int32 × q_St} (C : q_Cx p s m args meth c cX6_maybe 8 RX6 (some .int) "maybe" dC dI dA A α) (M : q_St) (a1 : Int32) (a2 : Int32) (r65 : Int32 → Int32 → Int32 → Int32 → Int32 → q_St → Option (Int32 × q_St))
    (hr65 : ∀ (x1 : Int32) (x2 : Int32) (x3 : Int32) (x4 : Int32) (x5 : Int32) (M' : q_St), q_S p l e (q_rm 6 140) s m args below meth c 8 dC dI dA A α (MQ below (q_Q α dC dI dA A ((fun u => some (.int u.1)) t) ((fun u => w_X6 u.2) t)) args s 0 0 A) 0 0 (r65 x1 x2 x3 x4 x5 M') t 65 [(0, .ref 50), (1, .int x1), (2, .int x2), (3, .int x3), (4, .int x4), (5, .int x5)] [] (w_X6 M')) : ∀ (x1 : Int32) (x2 : Int32) (x4 : Int32) (x5 : Int32) (s0 : Int32) (M' : q_St), q_S p l e (q_rm 6 140) s m args below meth c 8 dC dI dA A α (MQ below (q_Q α dC dI dA A ((fun u => some (.int u.1)) t) ((fun u => w_X6 u.2) t)) args s 0 0 A) 0 0 (f_X6_maybe_138 M a1 a2 r65 x1 x2 x4 x5 s0 M') t 138 [(0, .ref 50), (1, .int x1), (2, .int x2), (4, .int x4), (5, .int x5)] [.int s0] (w_X6 M') := by
  intro x1 x2 x4 x5 s0 M'
  refine r_cut (f_X6_maybe_138.eq_1 _ _ _ _ _ _ _ _ _ _) ?_
  refine r_iconst C (0) dX6_maybe_138 rfl ?_
  refine r_ior C dX6_maybe_139 ?_
  refine r_istore_n C [(3, .int (s0 ||| (0 : Int32))), (0, .ref 50), (1, .int x1), (2, .int x2), (4, .int x4), (5, .int x5)] dX6_maybe_140 (Nat.le_of_ble_eq_true rfl) rfl ?_
  refine r_iinc C 5 (x5 + 1) [(5, .int (x5 + 1)), (3, .int (s0 ||| (0 : Int32))), (0, .ref 50), (1, .int x1), (2, .int x2), (4, .int x4)] dX6_maybe_141 rfl rfl (Nat.le_of_ble_eq_true rfl) rfl ?_
  refine r_goto C 65 dX6_maybe_144 (by decide) ?_
  refine r_lv [(0, .ref 50), (1, .int x1), (2, .int x2), (3, .int (s0 ||| (0 : Int32))), (4, .int x4), (5, .int (x5 + 1))] [2, 3, 4, 1, 5, 0] rfl ?_
  exact hr65 x1 x2 (s0 ||| (0 : Int32)) x4 (x5 + 1) M'
set_option maxRecDepth 100000 in
set_option maxHeartbeats 4000000 in
theorem k_X6_maybe_65 {p : Program} {l : Launch} {e : Env} {s : State} {m : MethodId} {args : Array Value} {below : List Frame} {meth : Method} {c : Code} {dC : Nat → ClassId} {dI : Nat → Nat → Nat} {dA : Nat → ClassId} {A : Nat → Prop} {α : Nat → Nat} {t : Int32 × q_St} (C : q_Cx p s m args meth c cX6_maybe 8 RX6 (some .int) "maybe" dC dI dA A α) (M : q_St) (a1 : Int32) (a2 : Int32)  : ∀ (n : Nat) (x1 : Int32) (x2 : Int32) (x3 : Int32) (x4 : Int32) (x5 : Int32) (M' : q_St), q_S p l e (q_rm 6 140) s m args below meth c 8 dC dI dA A α (MQ below (q_Q α dC dI dA A ((fun u => some (.int u.1)) t) ((fun u => w_X6 u.2) t)) args s 0 0 A) 0 0 (f_X6_maybe_65 M a1 a2  n x1 x2 x3 x4 x5 M') t 65 [(0, .ref 50), (1, .int x1), (2, .int x2), (3, .int x3), (4, .int x4), (5, .int x5)] [] (w_X6 M') := by
  intro n
  induction n with
  | zero =>
    intro x1 x2 x3 x4 x5 M'
    exact r_cut (f_X6_maybe_65.eq_1 _ _ _ _ _ _ _ _ _) (r_none True.intro)
  | succ n ih =>
    intro x1 x2 x3 x4 x5 M'
    refine r_cut (f_X6_maybe_65.eq_2 _ _ _ _ _ _ _ _ _ _) ?_
    refine r_iload C 5 dX6_maybe_65 rfl ?_
    refine r_bipush C (81) dX6_maybe_67 rfl ?_
    refine r_icmp_ge C 147 dX6_maybe_69 (by decide) (fun h69 => ?_) (fun h69 => ?_)
    · refine r_iload_n C 3 dX6_maybe_147 rfl ?_
      exact r_reti (x := x3) (rv := (fun u => some (.int u.1))) (hpE := (fun u => w_X6 u.2)) (t0 := (x3, M')) C dX6_maybe_148 (by rfl) (by rfl) (by rfl)
    · refine r_iload C 4 dX6_maybe_72 rfl ?_
      refine r_if_eq C 147 dX6_maybe_74 (by decide) (fun h74 => ?_) (fun h74 => ?_)
      · refine r_iload_n C 3 dX6_maybe_147 rfl ?_
        exact r_reti (x := x3) (rv := (fun u => some (.int u.1))) (hpE := (fun u => w_X6 u.2)) (t0 := (x3, M')) C dX6_maybe_148 (by rfl) (by rfl) (by rfl)
      · refine r_iload C 5 dX6_maybe_77 rfl ?_
        refine r_callS C (o_X6_leftOf l x5) v_X6_leftOf m_1175 [] [.int x5] [] (fun u7 => [.int u7]) (fun u7 => [.inr (5, [.ref 51, .ref 52, .ref 53, .int (M'.1 3), .ref 54, .ref 55, .ref 56, .int (M'.1 7), .ref 57, .ref 58, .int (M'.1 10), .int (M'.1 11), .int (M'.1 12), .int (M'.1 13), .int (M'.1 14), .int (M'.1 15), .ref 59, .ref 60, .int (M'.1 18), .int (M'.1 19), .int (M'.1 20), .ref 61, .ref 62, .ref 63, .ref 64]), .inl (0, 68, .inl (M'.2 0)), .inl (0, 68, .inl (M'.2 1)), .inl (0, 68, .inl (M'.2 2)), .inl (0, 8, .inl (M'.2 4)), .inl (0, 1053, .inl (M'.2 5)), .inl (1, 972, .inl (M'.2 6)), .inl (0, 1053, .inl (M'.2 8)), .inl (0, 120, .inl (M'.2 9)), .inl (3, 7, .inr (.inr (.inr (.inr q_kf)))), .inl (0, 360, .inl (M'.2 17)), .inl (0, 4, .inl (M'.2 21)), .inl (0, 4, .inl (M'.2 22)), .inl (0, 160, .inl (M'.2 23)), .inl (0, 40, .inl (M'.2 24))]) rfl rfl rfl rfl rfl (Nat.le_of_ble_eq_true rfl) ⟨(Nat.le_of_ble_eq_true rfl), (Nat.le_of_ble_eq_true rfl)⟩ ⟨Nat.zero_le _, Nat.zero_le _⟩ dX6_maybe_79 (fun _ => rfl) (fun _ => rfl) (fun _ => rfl) (fun u7 => ?_)
        refine r_istore C [(6, .int u7), (0, .ref 50), (1, .int x1), (2, .int x2), (3, .int x3), (4, .int x4), (5, .int x5)] dX6_maybe_82 (Nat.le_of_ble_eq_true rfl) rfl ?_
        refine r_iload C 6 dX6_maybe_84 rfl ?_
        refine r_callS C (o_X6_rightOf l x5) v_X6_rightOf m_1178 [] [.int x5] [] (fun u8 => [.int u8]) (fun u8 => [.inr (5, [.ref 51, .ref 52, .ref 53, .int (M'.1 3), .ref 54, .ref 55, .ref 56, .int (M'.1 7), .ref 57, .ref 58, .int (M'.1 10), .int (M'.1 11), .int (M'.1 12), .int (M'.1 13), .int (M'.1 14), .int (M'.1 15), .ref 59, .ref 60, .int (M'.1 18), .int (M'.1 19), .int (M'.1 20), .ref 61, .ref 62, .ref 63, .ref 64]), .inl (0, 68, .inl (M'.2 0)), .inl (0, 68, .inl (M'.2 1)), .inl (0, 68, .inl (M'.2 2)), .inl (0, 8, .inl (M'.2 4)), .inl (0, 1053, .inl (M'.2 5)), .inl (1, 972, .inl (M'.2 6)), .inl (0, 1053, .inl (M'.2 8)), .inl (0, 120, .inl (M'.2 9)), .inl (3, 7, .inr (.inr (.inr (.inr q_kf)))), .inl (0, 360, .inl (M'.2 17)), .inl (0, 4, .inl (M'.2 21)), .inl (0, 4, .inl (M'.2 22)), .inl (0, 160, .inl (M'.2 23)), .inl (0, 40, .inl (M'.2 24))]) rfl rfl rfl rfl rfl (Nat.le_of_ble_eq_true rfl) ⟨(Nat.le_of_ble_eq_true rfl), (Nat.le_of_ble_eq_true rfl)⟩ ⟨Nat.zero_le _, Nat.zero_le _⟩ dX6_maybe_86 (fun _ => rfl) (fun _ => rfl) (fun _ => rfl) (fun u8 => ?_)
        refine r_istore C [(7, .int u8), (6, .int u7), (0, .ref 50), (1, .int x1), (2, .int x2), (3, .int x3), (4, .int x4), (5, .int x5)] dX6_maybe_89 (Nat.le_of_ble_eq_true rfl) rfl ?_
        refine r_iload_n C 5 dX6_maybe_91 rfl ?_
        refine r_iload C 0 dX6_maybe_92 rfl ?_
        refine r_if_lt C 138 dX6_maybe_94 (by decide) (fun h94 => ?_) (fun h94 => ?_)
        · refine r_lv [(0, .ref 50), (1, .int x1), (2, .int x2), (4, .int x4), (5, .int x5)] [2, 3, 4, 6, 7] rfl ?_
          exact k_X6_maybe_138 C M a1 a2 (fun x1 x2 x3 x4 x5 M' => f_X6_maybe_65 M a1 a2  n x1 x2 x3 x4 x5 M') ih x1 x2 x4 x5 x3 M'
        · refine r_aload_n C 2 dX6_maybe_97 rfl ?_
          refine r_iload C 1 dX6_maybe_98 rfl ?_
          refine r_iload C 0 dX6_maybe_100 rfl ?_
          refine r_callV0 C (o_X6_isHold l M' u7 u8) v_X6_isHold m_1181 [.int u7, .int u8] [.int x3] (50) (Or.inl ⟨0, 5, _, TX6, 25, rfl, rfl, rfl⟩) (fun u9 => [.int u9, .int x3]) (fun u9 => [.inr (5, [.ref 51, .ref 52, .ref 53, .int (M'.1 3), .ref 54, .ref 55, .ref 56, .int (M'.1 7), .ref 57, .ref 58, .int (M'.1 10), .int (M'.1 11), .int (M'.1 12), .int (M'.1 13), .int (M'.1 14), .int (M'.1 15), .ref 59, .ref 60, .int (M'.1 18), .int (M'.1 19), .int (M'.1 20), .ref 61, .ref 62, .ref 63, .ref 64]), .inl (0, 68, .inl (M'.2 0)), .inl (0, 68, .inl (M'.2 1)), .inl (0, 68, .inl (M'.2 2)), .inl (0, 8, .inl (M'.2 4)), .inl (0, 1053, .inl (M'.2 5)), .inl (1, 972, .inl (M'.2 6)), .inl (0, 1053, .inl (M'.2 8)), .inl (0, 120, .inl (M'.2 9)), .inl (3, 7, .inr (.inr (.inr (.inr q_kf)))), .inl (0, 360, .inl (M'.2 17)), .inl (0, 4, .inl (M'.2 21)), .inl (0, 4, .inl (M'.2 22)), .inl (0, 160, .inl (M'.2 23)), .inl (0, 40, .inl (M'.2 24))]) rfl rfl rfl (Nat.le_of_ble_eq_true rfl) ⟨(Nat.le_of_ble_eq_true rfl), (Nat.le_of_ble_eq_true rfl)⟩ ⟨Nat.zero_le _, Nat.zero_le _⟩ dX6_maybe_102 (fun _ => rfl) (fun _ => rfl) (fun _ => rfl) (fun u9 => ?_)
          refine r_if_eq C 138 dX6_maybe_105 (by decide) (fun h105 => ?_) (fun h105 => ?_)
          · refine r_lv [(0, .ref 50), (1, .int x1), (2, .int x2), (4, .int x4), (5, .int x5)] [2, 3, 4, 6, 7] rfl ?_
            exact k_X6_maybe_138 C M a1 a2 (fun x1 x2 x3 x4 x5 M' => f_X6_maybe_65 M a1 a2  n x1 x2 x3 x4 x5 M') ih x1 x2 x4 x5 x3 M'
          · refine r_aload_n C 2 dX6_maybe_108 rfl ?_
            refine r_iload C 1 dX6_maybe_109 rfl ?_
            refine r_iload C 0 dX6_maybe_111 rfl ?_
            refine r_iload_n C 4 dX6_maybe_113 rfl ?_
            refine r_callV0 C (o_X6_doesSuit l M' u7 u8 x2) v_X6_doesSuit m_1148 [.int u7, .int u8, .int x2] [.int x3] (50) (Or.inl ⟨0, 5, _, TX6, 25, rfl, rfl, rfl⟩) (fun u10 => [.int u10, .int x3]) (fun u10 => [.inr (5, [.ref 51, .ref 52, .ref 53, .int (M'.1 3), .ref 54, .ref 55, .ref 56, .int (M'.1 7), .ref 57, .ref 58, .int (M'.1 10), .int (M'.1 11), .int (M'.1 12), .int (M'.1 13), .int (M'.1 14), .int (M'.1 15), .ref 59, .ref 60, .int (M'.1 18), .int (M'.1 19), .int (M'.1 20), .ref 61, .ref 62, .ref 63, .ref 64]), .inl (0, 68, .inl (M'.2 0)), .inl (0, 68, .inl (M'.2 1)), .inl (0, 68, .inl (M'.2 2)), .inl (0, 8, .inl (M'.2 4)), .inl (0, 1053, .inl (M'.2 5)), .inl (1, 972, .inl (M'.2 6)), .inl (0, 1053, .inl (M'.2 8)), .inl (0, 120, .inl (M'.2 9)), .inl (3, 7, .inr (.inr (.inr (.inr q_kf)))), .inl (0, 360, .inl (M'.2 17)), .inl (0, 4, .inl (M'.2 21)), .inl (0, 4, .inl (M'.2 22)), .inl (0, 160, .inl (M'.2 23)), .inl (0, 40, .inl (M'.2 24))]) rfl rfl rfl (Nat.le_of_ble_eq_true rfl) ⟨(Nat.le_of_ble_eq_true rfl), (Nat.le_of_ble_eq_true rfl)⟩ ⟨Nat.zero_le _, Nat.zero_le _⟩ dX6_maybe_114 (fun _ => rfl) (fun _ => rfl) (fun _ => rfl) (fun u10 => ?_)
            refine r_if_eq C 138 dX6_maybe_117 (by decide) (fun h117 => ?_) (fun h117 => ?_)
            · refine r_lv [(0, .ref 50), (1, .int x1), (2, .int x2), (4, .int x4), (5, .int x5)] [2, 3, 4, 6, 7] rfl ?_
              exact k_X6_maybe_138 C M a1 a2 (fun x1 x2 x3 x4 x5 M' => f_X6_maybe_65 M a1 a2  n x1 x2 x3 x4 x5 M') ih x1 x2 x4 x5 x3 M'
            · refine r_aload_n C 2 dX6_maybe_120 rfl ?_
              refine r_iload_n C 3 dX6_maybe_121 rfl ?_
              refine r_iload_n C 4 dX6_maybe_122 rfl ?_
              refine r_iload C 1 dX6_maybe_123 rfl ?_
              refine r_callV0 C (o_X6_isDrawn l M' x1 x2 u7) v_X6_isDrawn m_1263 [.int x1, .int x2, .int u7] [.int x3] (50) (Or.inl ⟨0, 5, _, TX6, 25, rfl, rfl, rfl⟩) (fun u11 => [.int u11, .int x3]) (fun u11 => [.inr (5, [.ref 51, .ref 52, .ref 53, .int (M'.1 3), .ref 54, .ref 55, .ref 56, .int (M'.1 7), .ref 57, .ref 58, .int (M'.1 10), .int (M'.1 11), .int (M'.1 12), .int (M'.1 13), .int (M'.1 14), .int (M'.1 15), .ref 59, .ref 60, .int (M'.1 18), .int (M'.1 19), .int (M'.1 20), .ref 61, .ref 62, .ref 63, .ref 64]), .inl (0, 68, .inl (M'.2 0)), .inl (0, 68, .inl (M'.2 1)), .inl (0, 68, .inl (M'.2 2)), .inl (0, 8, .inl (M'.2 4)), .inl (0, 1053, .inl (M'.2 5)), .inl (1, 972, .inl (M'.2 6)), .inl (0, 1053, .inl (M'.2 8)), .inl (0, 120, .inl (M'.2 9)), .inl (3, 7, .inr (.inr (.inr (.inr q_kf)))), .inl (0, 360, .inl (M'.2 17)), .inl (0, 4, .inl (M'.2 21)), .inl (0, 4, .inl (M'.2 22)), .inl (0, 160, .inl (M'.2 23)), .inl (0, 40, .inl (M'.2 24))]) rfl rfl rfl (Nat.le_of_ble_eq_true rfl) ⟨(Nat.le_of_ble_eq_true rfl), (Nat.le_of_ble_eq_true rfl)⟩ ⟨Nat.zero_le _, Nat.zero_le _⟩ dX6_maybe_125 (fun _ => rfl) (fun _ => rfl) (fun _ => rfl) (fun u11 => ?_)
              refine r_if_eq C 138 dX6_maybe_128 (by decide) (fun h128 => ?_) (fun h128 => ?_)
              · refine r_lv [(0, .ref 50), (1, .int x1), (2, .int x2), (4, .int x4), (5, .int x5)] [2, 3, 4, 6, 7] rfl ?_
                exact k_X6_maybe_138 C M a1 a2 (fun x1 x2 x3 x4 x5 M' => f_X6_maybe_65 M a1 a2  n x1 x2 x3 x4 x5 M') ih x1 x2 x4 x5 x3 M'
              · refine r_iconst C (1) dX6_maybe_131 rfl ?_
                refine r_iload C 0 dX6_maybe_132 rfl ?_
                refine r_ishl C dX6_maybe_134 ?_
                refine r_goto C 139 dX6_maybe_135 (by decide) ?_
                refine r_ior C dX6_maybe_139 ?_
                refine r_istore_n C [(3, .int (x3 ||| ((1 : Int32) <<< (u8 &&& 31)))), (7, .int u8), (6, .int u7), (0, .ref 50), (1, .int x1), (2, .int x2), (4, .int x4), (5, .int x5)] dX6_maybe_140 (Nat.le_of_ble_eq_true rfl) rfl ?_
                refine r_iinc C 7 (x5 + 1) [(5, .int (x5 + 1)), (3, .int (x3 ||| ((1 : Int32) <<< (u8 &&& 31)))), (7, .int u8), (6, .int u7), (0, .ref 50), (1, .int x1), (2, .int x2), (4, .int x4)] dX6_maybe_141 rfl rfl (Nat.le_of_ble_eq_true rfl) rfl ?_
                refine r_goto C 65 dX6_maybe_144 (by decide) ?_
                refine r_lv [(0, .ref 50), (1, .int x1), (2, .int x2), (3, .int (x3 ||| ((1 : Int32) <<< (u8 &&& 31)))), (4, .int x4), (5, .int (x5 + 1))] [4, 5, 6, 1, 7, 0] rfl ?_
                exact ih x1 x2 (x3 ||| ((1 : Int32) <<< (u8 &&& 31))) x4 (x5 + 1) M'
set_option maxRecDepth 100000 in
set_option maxHeartbeats 4000000 in
theorem o_X6_maybe (l : Launch) (M : q_St) (a1 : Int32) (a2 : Int32) : q_Ok l yX6_maybe cX6_maybe 8 (some .int) 6 140 [.ref 50, .int a1, .int a2] (w_X6 M) (f_X6_maybe M a1 a2) (fun u => some (.int u.1)) (fun u => w_X6 u.2) := by
  refine q_enter (by decide +kernel) (Nat.le_of_ble_eq_true rfl) (fun t p e s m args below meth c dC dI dA A α C => ?_)
  refine r_cut (f_X6_maybe.eq_1 _ _ _) ?_
  show q_S p l e (q_rm 6 140) s m args below meth c 8 dC dI dA A α (MQ below (q_Q α dC dI dA A ((fun u => some (.int u.1)) t) ((fun u => w_X6 u.2) t)) args s 0 0 A) 0 0 _ t 0 [(0, .ref 50), (1, .int a1), (2, .int a2)] [] (w_X6 M)
  refine r_iload_n C 1 dX6_maybe_0 rfl ?_
  refine r_callS C (o_X6_isSheet l a1) v_X6_isSheet m_1251 [] [.int a1] [] (fun u1 => [.int u1]) (fun u1 => [.inr (5, [.ref 51, .ref 52, .ref 53, .int (M.1 3), .ref 54, .ref 55, .ref 56, .int (M.1 7), .ref 57, .ref 58, .int (M.1 10), .int (M.1 11), .int (M.1 12), .int (M.1 13), .int (M.1 14), .int (M.1 15), .ref 59, .ref 60, .int (M.1 18), .int (M.1 19), .int (M.1 20), .ref 61, .ref 62, .ref 63, .ref 64]), .inl (0, 68, .inl (M.2 0)), .inl (0, 68, .inl (M.2 1)), .inl (0, 68, .inl (M.2 2)), .inl (0, 8, .inl (M.2 4)), .inl (0, 1053, .inl (M.2 5)), .inl (1, 972, .inl (M.2 6)), .inl (0, 1053, .inl (M.2 8)), .inl (0, 120, .inl (M.2 9)), .inl (3, 7, .inr (.inr (.inr (.inr q_kf)))), .inl (0, 360, .inl (M.2 17)), .inl (0, 4, .inl (M.2 21)), .inl (0, 4, .inl (M.2 22)), .inl (0, 160, .inl (M.2 23)), .inl (0, 40, .inl (M.2 24))]) rfl rfl rfl rfl rfl (Nat.le_of_ble_eq_true rfl) ⟨(Nat.le_of_ble_eq_true rfl), (Nat.le_of_ble_eq_true rfl)⟩ ⟨Nat.zero_le _, Nat.zero_le _⟩ dX6_maybe_1 (fun _ => rfl) (fun _ => rfl) (fun _ => rfl) (fun u1 => ?_)
  refine r_if_ne C 14 dX6_maybe_4 (by decide) (fun h4 => ?_) (fun h4 => ?_)
  · refine r_aload_n C 0 dX6_maybe_7 rfl ?_
    refine r_ldc C (-1000001) dX6_maybe_8 m_1002 ?_
    refine r_callV0 C (o_X6_finding l M (-1000001 : Int32)) v_X6_finding m_1003 [.int (-1000001 : Int32)] [] (50) (Or.inl ⟨0, 5, _, TX6, 25, rfl, rfl, rfl⟩) (fun u6 => [.int u6.1]) (fun u6 => [.inr (5, [.ref 51, .ref 52, .ref 53, .int (u6.2.1 3), .ref 54, .ref 55, .ref 56, .int (u6.2.1 7), .ref 57, .ref 58, .int (u6.2.1 10), .int (u6.2.1 11), .int (u6.2.1 12), .int (u6.2.1 13), .int (u6.2.1 14), .int (u6.2.1 15), .ref 59, .ref 60, .int (u6.2.1 18), .int (u6.2.1 19), .int (u6.2.1 20), .ref 61, .ref 62, .ref 63, .ref 64]), .inl (0, 68, .inl (u6.2.2 0)), .inl (0, 68, .inl (u6.2.2 1)), .inl (0, 68, .inl (u6.2.2 2)), .inl (0, 8, .inl (u6.2.2 4)), .inl (0, 1053, .inl (u6.2.2 5)), .inl (1, 972, .inl (u6.2.2 6)), .inl (0, 1053, .inl (u6.2.2 8)), .inl (0, 120, .inl (u6.2.2 9)), .inl (3, 7, .inr (.inr (.inr (.inr q_kf)))), .inl (0, 360, .inl (u6.2.2 17)), .inl (0, 4, .inl (u6.2.2 21)), .inl (0, 4, .inl (u6.2.2 22)), .inl (0, 160, .inl (u6.2.2 23)), .inl (0, 40, .inl (u6.2.2 24))]) rfl rfl rfl (Nat.le_of_ble_eq_true rfl) ⟨(Nat.le_of_ble_eq_true rfl), (Nat.le_of_ble_eq_true rfl)⟩ ⟨Nat.zero_le _, Nat.zero_le _⟩ dX6_maybe_10 (fun _ => rfl) (fun _ => rfl) (fun _ => rfl) (fun u6 => ?_)
    exact r_reti (x := u6.1) (rv := (fun u => some (.int u.1))) (hpE := (fun u => w_X6 u.2)) (t0 := (u6.1, u6.2)) C dX6_maybe_13 (by rfl) (by rfl) (by rfl)
  · refine r_aload_n C 0 dX6_maybe_14 rfl ?_
    refine r_get C 0 21 dX6_maybe_15 K_X6 rfl rfl (Nat.le_of_ble_eq_true rfl) rfl m_936 rfl ?_
    refine r_iload_n C 1 dX6_maybe_18 rfl ?_
    refine r_iald C 11 dX6_maybe_19 rfl rfl (fun hi19 => ?_)
    refine r_if_ne C 30 dX6_maybe_20 (by decide) (fun h20 => ?_) (fun h20 => ?_)
    · refine r_aload_n C 0 dX6_maybe_23 rfl ?_
      refine r_ldc C (-1000006) dX6_maybe_24 m_1254 ?_
      refine r_callV0 C (o_X6_finding l M (-1000006 : Int32)) v_X6_finding m_1003 [.int (-1000006 : Int32)] [] (50) (Or.inl ⟨0, 5, _, TX6, 25, rfl, rfl, rfl⟩) (fun u5 => [.int u5.1]) (fun u5 => [.inr (5, [.ref 51, .ref 52, .ref 53, .int (u5.2.1 3), .ref 54, .ref 55, .ref 56, .int (u5.2.1 7), .ref 57, .ref 58, .int (u5.2.1 10), .int (u5.2.1 11), .int (u5.2.1 12), .int (u5.2.1 13), .int (u5.2.1 14), .int (u5.2.1 15), .ref 59, .ref 60, .int (u5.2.1 18), .int (u5.2.1 19), .int (u5.2.1 20), .ref 61, .ref 62, .ref 63, .ref 64]), .inl (0, 68, .inl (u5.2.2 0)), .inl (0, 68, .inl (u5.2.2 1)), .inl (0, 68, .inl (u5.2.2 2)), .inl (0, 8, .inl (u5.2.2 4)), .inl (0, 1053, .inl (u5.2.2 5)), .inl (1, 972, .inl (u5.2.2 6)), .inl (0, 1053, .inl (u5.2.2 8)), .inl (0, 120, .inl (u5.2.2 9)), .inl (3, 7, .inr (.inr (.inr (.inr q_kf)))), .inl (0, 360, .inl (u5.2.2 17)), .inl (0, 4, .inl (u5.2.2 21)), .inl (0, 4, .inl (u5.2.2 22)), .inl (0, 160, .inl (u5.2.2 23)), .inl (0, 40, .inl (u5.2.2 24))]) rfl rfl rfl (Nat.le_of_ble_eq_true rfl) ⟨(Nat.le_of_ble_eq_true rfl), (Nat.le_of_ble_eq_true rfl)⟩ ⟨Nat.zero_le _, Nat.zero_le _⟩ dX6_maybe_26 (fun _ => rfl) (fun _ => rfl) (fun _ => rfl) (fun u5 => ?_)
      exact r_reti (x := u5.1) (rv := (fun u => some (.int u.1))) (hpE := (fun u => w_X6 u.2)) (t0 := (u5.1, u5.2)) C dX6_maybe_29 (by rfl) (by rfl) (by rfl)
    · refine r_aload_n C 0 dX6_maybe_30 rfl ?_
      refine r_iload_n C 2 dX6_maybe_31 rfl ?_
      refine r_callV0 C (o_X6_isBeat l M a2) v_X6_isBeat m_1086 [.int a2] [] (50) (Or.inl ⟨0, 5, _, TX6, 25, rfl, rfl, rfl⟩) (fun u2 => [.int u2]) (fun u2 => [.inr (5, [.ref 51, .ref 52, .ref 53, .int (M.1 3), .ref 54, .ref 55, .ref 56, .int (M.1 7), .ref 57, .ref 58, .int (M.1 10), .int (M.1 11), .int (M.1 12), .int (M.1 13), .int (M.1 14), .int (M.1 15), .ref 59, .ref 60, .int (M.1 18), .int (M.1 19), .int (M.1 20), .ref 61, .ref 62, .ref 63, .ref 64]), .inl (0, 68, .inl (M.2 0)), .inl (0, 68, .inl (M.2 1)), .inl (0, 68, .inl (M.2 2)), .inl (0, 8, .inl (M.2 4)), .inl (0, 1053, .inl (M.2 5)), .inl (1, 972, .inl (M.2 6)), .inl (0, 1053, .inl (M.2 8)), .inl (0, 120, .inl (M.2 9)), .inl (3, 7, .inr (.inr (.inr (.inr q_kf)))), .inl (0, 360, .inl (M.2 17)), .inl (0, 4, .inl (M.2 21)), .inl (0, 4, .inl (M.2 22)), .inl (0, 160, .inl (M.2 23)), .inl (0, 40, .inl (M.2 24))]) rfl rfl rfl (Nat.le_of_ble_eq_true rfl) ⟨(Nat.le_of_ble_eq_true rfl), (Nat.le_of_ble_eq_true rfl)⟩ ⟨Nat.zero_le _, Nat.zero_le _⟩ dX6_maybe_32 (fun _ => rfl) (fun _ => rfl) (fun _ => rfl) (fun u2 => ?_)
      refine r_if_ne C 45 dX6_maybe_35 (by decide) (fun h35 => ?_) (fun h35 => ?_)
      · refine r_aload_n C 0 dX6_maybe_38 rfl ?_
        refine r_ldc C (-1000001) dX6_maybe_39 m_1002 ?_
        refine r_callV0 C (o_X6_finding l M (-1000001 : Int32)) v_X6_finding m_1003 [.int (-1000001 : Int32)] [] (50) (Or.inl ⟨0, 5, _, TX6, 25, rfl, rfl, rfl⟩) (fun u4 => [.int u4.1]) (fun u4 => [.inr (5, [.ref 51, .ref 52, .ref 53, .int (u4.2.1 3), .ref 54, .ref 55, .ref 56, .int (u4.2.1 7), .ref 57, .ref 58, .int (u4.2.1 10), .int (u4.2.1 11), .int (u4.2.1 12), .int (u4.2.1 13), .int (u4.2.1 14), .int (u4.2.1 15), .ref 59, .ref 60, .int (u4.2.1 18), .int (u4.2.1 19), .int (u4.2.1 20), .ref 61, .ref 62, .ref 63, .ref 64]), .inl (0, 68, .inl (u4.2.2 0)), .inl (0, 68, .inl (u4.2.2 1)), .inl (0, 68, .inl (u4.2.2 2)), .inl (0, 8, .inl (u4.2.2 4)), .inl (0, 1053, .inl (u4.2.2 5)), .inl (1, 972, .inl (u4.2.2 6)), .inl (0, 1053, .inl (u4.2.2 8)), .inl (0, 120, .inl (u4.2.2 9)), .inl (3, 7, .inr (.inr (.inr (.inr q_kf)))), .inl (0, 360, .inl (u4.2.2 17)), .inl (0, 4, .inl (u4.2.2 21)), .inl (0, 4, .inl (u4.2.2 22)), .inl (0, 160, .inl (u4.2.2 23)), .inl (0, 40, .inl (u4.2.2 24))]) rfl rfl rfl (Nat.le_of_ble_eq_true rfl) ⟨(Nat.le_of_ble_eq_true rfl), (Nat.le_of_ble_eq_true rfl)⟩ ⟨Nat.zero_le _, Nat.zero_le _⟩ dX6_maybe_41 (fun _ => rfl) (fun _ => rfl) (fun _ => rfl) (fun u4 => ?_)
        exact r_reti (x := u4.1) (rv := (fun u => some (.int u.1))) (hpE := (fun u => w_X6 u.2)) (t0 := (u4.1, u4.2)) C dX6_maybe_44 (by rfl) (by rfl) (by rfl)
      · refine r_iconst C (0) dX6_maybe_45 rfl ?_
        refine r_istore_n C [(3, .int (0 : Int32)), (0, .ref 50), (1, .int a1), (2, .int a2)] dX6_maybe_46 (Nat.le_of_ble_eq_true rfl) rfl ?_
        refine r_aload_n C 1 dX6_maybe_47 rfl ?_
        refine r_iload_n C 2 dX6_maybe_48 rfl ?_
        refine r_callV0 C (o_X6_rowsOf l M a1) v_X6_rowsOf m_1255 [.int a1] [] (50) (Or.inl ⟨0, 5, _, TX6, 25, rfl, rfl, rfl⟩) (fun u3 => [.int u3]) (fun u3 => [.inr (5, [.ref 51, .ref 52, .ref 53, .int (M.1 3), .ref 54, .ref 55, .ref 56, .int (M.1 7), .ref 57, .ref 58, .int (M.1 10), .int (M.1 11), .int (M.1 12), .int (M.1 13), .int (M.1 14), .int (M.1 15), .ref 59, .ref 60, .int (M.1 18), .int (M.1 19), .int (M.1 20), .ref 61, .ref 62, .ref 63, .ref 64]), .inl (0, 68, .inl (M.2 0)), .inl (0, 68, .inl (M.2 1)), .inl (0, 68, .inl (M.2 2)), .inl (0, 8, .inl (M.2 4)), .inl (0, 1053, .inl (M.2 5)), .inl (1, 972, .inl (M.2 6)), .inl (0, 1053, .inl (M.2 8)), .inl (0, 120, .inl (M.2 9)), .inl (3, 7, .inr (.inr (.inr (.inr q_kf)))), .inl (0, 360, .inl (M.2 17)), .inl (0, 4, .inl (M.2 21)), .inl (0, 4, .inl (M.2 22)), .inl (0, 160, .inl (M.2 23)), .inl (0, 40, .inl (M.2 24))]) rfl rfl rfl (Nat.le_of_ble_eq_true rfl) ⟨(Nat.le_of_ble_eq_true rfl), (Nat.le_of_ble_eq_true rfl)⟩ ⟨Nat.zero_le _, Nat.zero_le _⟩ dX6_maybe_49 (fun _ => rfl) (fun _ => rfl) (fun _ => rfl) (fun u3 => ?_)
        refine r_if_le C 59 dX6_maybe_52 (by decide) (fun h52 => ?_) (fun h52 => ?_)
        · refine r_iconst C (0) dX6_maybe_59 rfl ?_
          refine r_istore C [(4, .int (0 : Int32)), (3, .int (0 : Int32)), (0, .ref 50), (1, .int a1), (2, .int a2)] dX6_maybe_60 (Nat.le_of_ble_eq_true rfl) rfl ?_
          refine r_iconst C (0) dX6_maybe_62 rfl ?_
          refine r_istore C [(5, .int (0 : Int32)), (4, .int (0 : Int32)), (3, .int (0 : Int32)), (0, .ref 50), (1, .int a1), (2, .int a2)] dX6_maybe_63 (Nat.le_of_ble_eq_true rfl) rfl ?_
          refine r_lv [(0, .ref 50), (1, .int a1), (2, .int a2), (3, .int (0 : Int32)), (4, .int (0 : Int32)), (5, .int (0 : Int32))] [3, 4, 5, 2, 1, 0] rfl ?_
          exact k_X6_maybe_65 C M a1 a2   q_N a1 a2 (0 : Int32) (0 : Int32) (0 : Int32) M
        · refine r_iconst C (1) dX6_maybe_55 rfl ?_
          refine r_goto C 60 dX6_maybe_56 (by decide) ?_
          refine r_istore C [(4, .int (1 : Int32)), (3, .int (0 : Int32)), (0, .ref 50), (1, .int a1), (2, .int a2)] dX6_maybe_60 (Nat.le_of_ble_eq_true rfl) rfl ?_
          refine r_iconst C (0) dX6_maybe_62 rfl ?_
          refine r_istore C [(5, .int (0 : Int32)), (4, .int (1 : Int32)), (3, .int (0 : Int32)), (0, .ref 50), (1, .int a1), (2, .int a2)] dX6_maybe_63 (Nat.le_of_ble_eq_true rfl) rfl ?_
          refine r_lv [(0, .ref 50), (1, .int a1), (2, .int a2), (3, .int (0 : Int32)), (4, .int (1 : Int32)), (5, .int (0 : Int32))] [3, 4, 5, 2, 1, 0] rfl ?_
          exact k_X6_maybe_65 C M a1 a2   q_N a1 a2 (0 : Int32) (1 : Int32) (0 : Int32) M
set_option maxRecDepth 100000 in
set_option maxHeartbeats 4000000 in
theorem k_X6_dogsIn_4 {p : Program} {l : Launch} {e : Env} {s : State} {m : MethodId} {args : Array Value} {below : List Frame} {meth : Method} {c : Code} {dC : Nat → ClassId} {dI : Nat → Nat → Nat} {dA : Nat → ClassId} {A : Nat → Prop} {α : Nat → Nat} {t : Int32} (C : q_Cx p s m args meth c cX6_dogsIn 4 RX6 (some .int) "dogsIn" dC dI dA A α) (M : q_St) (a1 : Int32)  : ∀ (n : Nat) (x1 : Int32) (x2 : Int32) (x3 : Int32), q_S p l e (q_rm 2 43) s m args below meth c 4 dC dI dA A α (MQ below (q_Q α dC dI dA A ((fun u => some (.int u)) t) ((fun u => w_X6 M) t)) args s 0 0 A) 0 0 (f_X6_dogsIn_4 M a1  n x1 x2 x3) t 4 [(0, .ref 50), (1, .int x1), (2, .int x2), (3, .int x3)] [] (w_X6 M) := by
  intro n
  induction n with
  | zero =>
    intro x1 x2 x3
    exact r_cut (f_X6_dogsIn_4.eq_1 _ _ _ _ _) (r_none True.intro)
  | succ n ih =>
    intro x1 x2 x3
    refine r_cut (f_X6_dogsIn_4.eq_2 _ _ _ _ _ _) ?_
    refine r_iload_n C 3 dX6_dogsIn_4 rfl ?_
    refine r_aload_n C 0 dX6_dogsIn_5 rfl ?_
    refine r_get C 0 0 dX6_dogsIn_6 K_X6 rfl rfl (Nat.le_of_ble_eq_true rfl) rfl m_915 rfl ?_
    refine r_iconst C (0) dX6_dogsIn_9 rfl ?_
    refine r_iald C 1 dX6_dogsIn_10 rfl rfl (fun hi10 => ?_)
    refine r_icmp_ge C 56 dX6_dogsIn_11 (by decide) (fun h11 => ?_) (fun h11 => ?_)
    · refine r_iload_n C 2 dX6_dogsIn_56 rfl ?_
      exact r_reti (x := x2) (rv := (fun u => some (.int u))) (hpE := (fun u => w_X6 M)) (t0 := x2) C dX6_dogsIn_57 (by rfl) (by rfl) (by rfl)
    · refine r_iload_n C 2 dX6_dogsIn_14 rfl ?_
      refine r_aload_n C 0 dX6_dogsIn_15 rfl ?_
      refine r_get C 0 0 dX6_dogsIn_16 K_X6 rfl rfl (Nat.le_of_ble_eq_true rfl) rfl m_915 rfl ?_
      refine r_bipush C (44) dX6_dogsIn_19 rfl ?_
      refine r_iload_n C 1 dX6_dogsIn_21 rfl ?_
      refine r_iadd C dX6_dogsIn_22 ?_
      refine r_iald C 1 dX6_dogsIn_23 rfl rfl (fun hi23 => ?_)
      refine r_iload_n C 3 dX6_dogsIn_24 rfl ?_
      refine r_callS C (o_X6_has l (M.2 0 ((44 : Int32) + x1).toNatClampNeg) x3) v_X6_has m_1094 [] [.int (M.2 0 ((44 : Int32) + x1).toNatClampNeg), .int x3] [.int x2] (fun u1 => [.int u1, .int x2]) (fun u1 => [.inr (5, [.ref 51, .ref 52, .ref 53, .int (M.1 3), .ref 54, .ref 55, .ref 56, .int (M.1 7), .ref 57, .ref 58, .int (M.1 10), .int (M.1 11), .int (M.1 12), .int (M.1 13), .int (M.1 14), .int (M.1 15), .ref 59, .ref 60, .int (M.1 18), .int (M.1 19), .int (M.1 20), .ref 61, .ref 62, .ref 63, .ref 64]), .inl (0, 68, .inl (M.2 0)), .inl (0, 68, .inl (M.2 1)), .inl (0, 68, .inl (M.2 2)), .inl (0, 8, .inl (M.2 4)), .inl (0, 1053, .inl (M.2 5)), .inl (1, 972, .inl (M.2 6)), .inl (0, 1053, .inl (M.2 8)), .inl (0, 120, .inl (M.2 9)), .inl (3, 7, .inr (.inr (.inr (.inr q_kf)))), .inl (0, 360, .inl (M.2 17)), .inl (0, 4, .inl (M.2 21)), .inl (0, 4, .inl (M.2 22)), .inl (0, 160, .inl (M.2 23)), .inl (0, 40, .inl (M.2 24))]) rfl rfl rfl rfl rfl (Nat.le_of_ble_eq_true rfl) ⟨(Nat.le_of_ble_eq_true rfl), (Nat.le_of_ble_eq_true rfl)⟩ ⟨Nat.zero_le _, Nat.zero_le _⟩ dX6_dogsIn_25 (fun _ => rfl) (fun _ => rfl) (fun _ => rfl) (fun u1 => ?_)
      refine r_if_eq C 47 dX6_dogsIn_28 (by decide) (fun h28 => ?_) (fun h28 => ?_)
      · refine r_iconst C (0) dX6_dogsIn_47 rfl ?_
        refine r_ior C dX6_dogsIn_48 ?_
        refine r_istore_n C [(2, .int (x2 ||| (0 : Int32))), (0, .ref 50), (1, .int x1), (3, .int x3)] dX6_dogsIn_49 (Nat.le_of_ble_eq_true rfl) rfl ?_
        refine r_iinc C 3 (x3 + 1) [(3, .int (x3 + 1)), (2, .int (x2 ||| (0 : Int32))), (0, .ref 50), (1, .int x1)] dX6_dogsIn_50 rfl rfl (Nat.le_of_ble_eq_true rfl) rfl ?_
        refine r_goto C 4 dX6_dogsIn_53 (by decide) ?_
        refine r_lv [(0, .ref 50), (1, .int x1), (2, .int (x2 ||| (0 : Int32))), (3, .int (x3 + 1))] [2, 3, 1, 0] rfl ?_
        exact ih x1 (x2 ||| (0 : Int32)) (x3 + 1)
      · refine r_aload_n C 0 dX6_dogsIn_31 rfl ?_
        refine r_iload_n C 3 dX6_dogsIn_32 rfl ?_
        refine r_iconst C (0) dX6_dogsIn_33 rfl ?_
        refine r_callV0 C (o_X6_dollIs l M x3 (0 : Int32)) v_X6_dollIs m_1023 [.int x3, .int (0 : Int32)] [.int x2] (50) (Or.inl ⟨0, 5, _, TX6, 25, rfl, rfl, rfl⟩) (fun u2 => [.int u2, .int x2]) (fun u2 => [.inr (5, [.ref 51, .ref 52, .ref 53, .int (M.1 3), .ref 54, .ref 55, .ref 56, .int (M.1 7), .ref 57, .ref 58, .int (M.1 10), .int (M.1 11), .int (M.1 12), .int (M.1 13), .int (M.1 14), .int (M.1 15), .ref 59, .ref 60, .int (M.1 18), .int (M.1 19), .int (M.1 20), .ref 61, .ref 62, .ref 63, .ref 64]), .inl (0, 68, .inl (M.2 0)), .inl (0, 68, .inl (M.2 1)), .inl (0, 68, .inl (M.2 2)), .inl (0, 8, .inl (M.2 4)), .inl (0, 1053, .inl (M.2 5)), .inl (1, 972, .inl (M.2 6)), .inl (0, 1053, .inl (M.2 8)), .inl (0, 120, .inl (M.2 9)), .inl (3, 7, .inr (.inr (.inr (.inr q_kf)))), .inl (0, 360, .inl (M.2 17)), .inl (0, 4, .inl (M.2 21)), .inl (0, 4, .inl (M.2 22)), .inl (0, 160, .inl (M.2 23)), .inl (0, 40, .inl (M.2 24))]) rfl rfl rfl (Nat.le_of_ble_eq_true rfl) ⟨(Nat.le_of_ble_eq_true rfl), (Nat.le_of_ble_eq_true rfl)⟩ ⟨Nat.zero_le _, Nat.zero_le _⟩ dX6_dogsIn_34 (fun _ => rfl) (fun _ => rfl) (fun _ => rfl) (fun u2 => ?_)
        refine r_iconst C (5) dX6_dogsIn_37 rfl ?_
        refine r_icmp_ne C 47 dX6_dogsIn_38 (by decide) (fun h38 => ?_) (fun h38 => ?_)
        · refine r_iconst C (1) dX6_dogsIn_41 rfl ?_
          refine r_iload_n C 3 dX6_dogsIn_42 rfl ?_
          refine r_ishl C dX6_dogsIn_43 ?_
          refine r_goto C 48 dX6_dogsIn_44 (by decide) ?_
          refine r_ior C dX6_dogsIn_48 ?_
          refine r_istore_n C [(2, .int (x2 ||| ((1 : Int32) <<< (x3 &&& 31)))), (0, .ref 50), (1, .int x1), (3, .int x3)] dX6_dogsIn_49 (Nat.le_of_ble_eq_true rfl) rfl ?_
          refine r_iinc C 3 (x3 + 1) [(3, .int (x3 + 1)), (2, .int (x2 ||| ((1 : Int32) <<< (x3 &&& 31)))), (0, .ref 50), (1, .int x1)] dX6_dogsIn_50 rfl rfl (Nat.le_of_ble_eq_true rfl) rfl ?_
          refine r_goto C 4 dX6_dogsIn_53 (by decide) ?_
          refine r_lv [(0, .ref 50), (1, .int x1), (2, .int (x2 ||| ((1 : Int32) <<< (x3 &&& 31)))), (3, .int (x3 + 1))] [2, 3, 1, 0] rfl ?_
          exact ih x1 (x2 ||| ((1 : Int32) <<< (x3 &&& 31))) (x3 + 1)
        · refine r_iconst C (0) dX6_dogsIn_47 rfl ?_
          refine r_ior C dX6_dogsIn_48 ?_
          refine r_istore_n C [(2, .int (x2 ||| (0 : Int32))), (0, .ref 50), (1, .int x1), (3, .int x3)] dX6_dogsIn_49 (Nat.le_of_ble_eq_true rfl) rfl ?_
          refine r_iinc C 3 (x3 + 1) [(3, .int (x3 + 1)), (2, .int (x2 ||| (0 : Int32))), (0, .ref 50), (1, .int x1)] dX6_dogsIn_50 rfl rfl (Nat.le_of_ble_eq_true rfl) rfl ?_
          refine r_goto C 4 dX6_dogsIn_53 (by decide) ?_
          refine r_lv [(0, .ref 50), (1, .int x1), (2, .int (x2 ||| (0 : Int32))), (3, .int (x3 + 1))] [2, 3, 1, 0] rfl ?_
          exact ih x1 (x2 ||| (0 : Int32)) (x3 + 1)
set_option maxRecDepth 100000 in
set_option maxHeartbeats 4000000 in
theorem o_X6_dogsIn (l : Launch) (M : q_St) (a1 : Int32) : q_Ok l yX6_dogsIn cX6_dogsIn 4 (some .int) 2 43 [.ref 50, .int a1] (w_X6 M) (f_X6_dogsIn M a1) (fun u => some (.int u)) (fun u => w_X6 M) := by
  refine q_enter (by decide +kernel) (Nat.le_of_ble_eq_true rfl) (fun t p e s m args below meth c dC dI dA A α C => ?_)
  refine r_cut (f_X6_dogsIn.eq_1 _ _) ?_
  show q_S p l e (q_rm 2 43) s m args below meth c 4 dC dI dA A α (MQ below (q_Q α dC dI dA A ((fun u => some (.int u)) t) ((fun u => w_X6 M) t)) args s 0 0 A) 0 0 _ t 0 [(0, .ref 50), (1, .int a1)] [] (w_X6 M)
  refine r_iconst C (0) dX6_dogsIn_0 rfl ?_
  refine r_istore_n C [(2, .int (0 : Int32)), (0, .ref 50), (1, .int a1)] dX6_dogsIn_1 (Nat.le_of_ble_eq_true rfl) rfl ?_
  refine r_iconst C (0) dX6_dogsIn_2 rfl ?_
  refine r_istore_n C [(3, .int (0 : Int32)), (2, .int (0 : Int32)), (0, .ref 50), (1, .int a1)] dX6_dogsIn_3 (Nat.le_of_ble_eq_true rfl) rfl ?_
  refine r_lv [(0, .ref 50), (1, .int a1), (2, .int (0 : Int32)), (3, .int (0 : Int32))] [2, 3, 1, 0] rfl ?_
  exact k_X6_dogsIn_4 C M a1   q_N a1 (0 : Int32) (0 : Int32)
set_option maxRecDepth 100000 in
set_option maxHeartbeats 4000000 in
theorem k_X6_dogs_4 {p : Program} {l : Launch} {e : Env} {s : State} {m : MethodId} {args : Array Value} {below : List Frame} {meth : Method} {c : Code} {dC : Nat → ClassId} {dI : Nat → Nat → Nat} {dA : Nat → ClassId} {A : Nat → Prop} {α : Nat → Nat} {t : Int32} (C : q_Cx p s m args meth c cX6_dogs 3 RX6 (some .int) "dogs" dC dI dA A α) (M : q_St)  : ∀ (n : Nat) (x1 : Int32) (x2 : Int32), q_S p l e (q_rm 3 66) s m args below meth c 3 dC dI dA A α (MQ below (q_Q α dC dI dA A ((fun u => some (.int u)) t) ((fun u => w_X6 M) t)) args s 0 0 A) 0 0 (f_X6_dogs_4 M  n x1 x2) t 4 [(0, .ref 50), (1, .int x1), (2, .int x2)] [] (w_X6 M) := by
  intro n
  induction n with
  | zero =>
    intro x1 x2
    exact r_cut (f_X6_dogs_4.eq_1 _ _ _) (r_none True.intro)
  | succ n ih =>
    intro x1 x2
    refine r_cut (f_X6_dogs_4.eq_2 _ _ _ _) ?_
    refine r_iload_n C 2 dX6_dogs_4 rfl ?_
    refine r_aload_n C 0 dX6_dogs_5 rfl ?_
    refine r_get C 0 0 dX6_dogs_6 K_X6 rfl rfl (Nat.le_of_ble_eq_true rfl) rfl m_915 rfl ?_
    refine r_iconst C (1) dX6_dogs_9 rfl ?_
    refine r_iald C 1 dX6_dogs_10 rfl rfl (fun hi10 => ?_)
    refine r_icmp_ge C 38 dX6_dogs_11 (by decide) (fun h11 => ?_) (fun h11 => ?_)
    · refine r_iload_n C 1 dX6_dogs_38 rfl ?_
      exact r_reti (x := x1) (rv := (fun u => some (.int u))) (hpE := (fun u => w_X6 M)) (t0 := x1) C dX6_dogs_39 (by rfl) (by rfl) (by rfl)
    · refine r_iload_n C 1 dX6_dogs_14 rfl ?_
      refine r_aload_n C 0 dX6_dogs_15 rfl ?_
      refine r_iload_n C 2 dX6_dogs_16 rfl ?_
      refine r_callV0 C (o_X6_dogsIn l M x2) v_X6_dogsIn m_1279 [.int x2] [.int x1] (50) (Or.inl ⟨0, 5, _, TX6, 25, rfl, rfl, rfl⟩) (fun u1 => [.int u1, .int x1]) (fun u1 => [.inr (5, [.ref 51, .ref 52, .ref 53, .int (M.1 3), .ref 54, .ref 55, .ref 56, .int (M.1 7), .ref 57, .ref 58, .int (M.1 10), .int (M.1 11), .int (M.1 12), .int (M.1 13), .int (M.1 14), .int (M.1 15), .ref 59, .ref 60, .int (M.1 18), .int (M.1 19), .int (M.1 20), .ref 61, .ref 62, .ref 63, .ref 64]), .inl (0, 68, .inl (M.2 0)), .inl (0, 68, .inl (M.2 1)), .inl (0, 68, .inl (M.2 2)), .inl (0, 8, .inl (M.2 4)), .inl (0, 1053, .inl (M.2 5)), .inl (1, 972, .inl (M.2 6)), .inl (0, 1053, .inl (M.2 8)), .inl (0, 120, .inl (M.2 9)), .inl (3, 7, .inr (.inr (.inr (.inr q_kf)))), .inl (0, 360, .inl (M.2 17)), .inl (0, 4, .inl (M.2 21)), .inl (0, 4, .inl (M.2 22)), .inl (0, 160, .inl (M.2 23)), .inl (0, 40, .inl (M.2 24))]) rfl rfl rfl (Nat.le_of_ble_eq_true rfl) ⟨(Nat.le_of_ble_eq_true rfl), (Nat.le_of_ble_eq_true rfl)⟩ ⟨Nat.zero_le _, Nat.zero_le _⟩ dX6_dogs_17 (fun _ => rfl) (fun _ => rfl) (fun _ => rfl) (fun u1 => ?_)
      refine r_if_eq C 29 dX6_dogs_20 (by decide) (fun h20 => ?_) (fun h20 => ?_)
      · refine r_iconst C (0) dX6_dogs_29 rfl ?_
        refine r_ior C dX6_dogs_30 ?_
        refine r_istore_n C [(1, .int (x1 ||| (0 : Int32))), (0, .ref 50), (2, .int x2)] dX6_dogs_31 (Nat.le_of_ble_eq_true rfl) rfl ?_
        refine r_iinc C 2 (x2 + 1) [(2, .int (x2 + 1)), (1, .int (x1 ||| (0 : Int32))), (0, .ref 50)] dX6_dogs_32 rfl rfl (Nat.le_of_ble_eq_true rfl) rfl ?_
        refine r_goto C 4 dX6_dogs_35 (by decide) ?_
        refine r_lv [(0, .ref 50), (1, .int (x1 ||| (0 : Int32))), (2, .int (x2 + 1))] [2, 1, 0] rfl ?_
        exact ih (x1 ||| (0 : Int32)) (x2 + 1)
      · refine r_iconst C (1) dX6_dogs_23 rfl ?_
        refine r_iload_n C 2 dX6_dogs_24 rfl ?_
        refine r_ishl C dX6_dogs_25 ?_
        refine r_goto C 30 dX6_dogs_26 (by decide) ?_
        refine r_ior C dX6_dogs_30 ?_
        refine r_istore_n C [(1, .int (x1 ||| ((1 : Int32) <<< (x2 &&& 31)))), (0, .ref 50), (2, .int x2)] dX6_dogs_31 (Nat.le_of_ble_eq_true rfl) rfl ?_
        refine r_iinc C 2 (x2 + 1) [(2, .int (x2 + 1)), (1, .int (x1 ||| ((1 : Int32) <<< (x2 &&& 31)))), (0, .ref 50)] dX6_dogs_32 rfl rfl (Nat.le_of_ble_eq_true rfl) rfl ?_
        refine r_goto C 4 dX6_dogs_35 (by decide) ?_
        refine r_lv [(0, .ref 50), (1, .int (x1 ||| ((1 : Int32) <<< (x2 &&& 31)))), (2, .int (x2 + 1))] [2, 1, 0] rfl ?_
        exact ih (x1 ||| ((1 : Int32) <<< (x2 &&& 31))) (x2 + 1)
set_option maxRecDepth 100000 in
set_option maxHeartbeats 4000000 in
theorem o_X6_dogs (l : Launch) (M : q_St) : q_Ok l yX6_dogs cX6_dogs 3 (some .int) 3 66 [.ref 50] (w_X6 M) (f_X6_dogs M) (fun u => some (.int u)) (fun u => w_X6 M) := by
  refine q_enter (by decide +kernel) (Nat.le_of_ble_eq_true rfl) (fun t p e s m args below meth c dC dI dA A α C => ?_)
  refine r_cut (f_X6_dogs.eq_1 _) ?_
  show q_S p l e (q_rm 3 66) s m args below meth c 3 dC dI dA A α (MQ below (q_Q α dC dI dA A ((fun u => some (.int u)) t) ((fun u => w_X6 M) t)) args s 0 0 A) 0 0 _ t 0 [(0, .ref 50)] [] (w_X6 M)
  refine r_iconst C (0) dX6_dogs_0 rfl ?_
  refine r_istore_n C [(1, .int (0 : Int32)), (0, .ref 50)] dX6_dogs_1 (Nat.le_of_ble_eq_true rfl) rfl ?_
  refine r_iconst C (0) dX6_dogs_2 rfl ?_
  refine r_istore_n C [(2, .int (0 : Int32)), (1, .int (0 : Int32)), (0, .ref 50)] dX6_dogs_3 (Nat.le_of_ble_eq_true rfl) rfl ?_
  refine r_lv [(0, .ref 50), (1, .int (0 : Int32)), (2, .int (0 : Int32))] [2, 1, 0] rfl ?_
  exact k_X6_dogs_4 C M   q_N (0 : Int32) (0 : Int32)
set_option maxRecDepth 100000 in
set_option maxHeartbeats 4000000 in
theorem k_X6_common_6 {p : Program} {l : Launch} {e : Env} {s : State} {m : MethodId} {args : Array Value} {below : List Frame} {meth : Method} {c : Code} {dC : Nat → ClassId} {dI : Nat → Nat → Nat} {dA : Nat → ClassId} {A : Nat → Prop} {α : Nat → Nat} {t : Int64} (C : q_Cx p s m args meth c cX6_common 10 RX6 (some .long) "common" dC dI dA A α) (a1 : Int64) (a2 : Int64)  : ∀ (n : Nat) (x4 : Int64) (x6 : Int64), q_S p l e (q_rm 0 0) s m args below meth c 10 dC dI dA A α (MQ below (q_Q α dC dI dA A ((fun u => some (.long u)) t) ((fun _ => []) t)) args s 0 0 A) 0 0 (f_X6_common_6 a1 a2  n x4 x6) t 6 [(4, .long x4), (6, .long x6)] [] ([]) := by
  intro n
  induction n with
  | zero =>
    intro x4 x6
    exact r_cut (f_X6_common_6.eq_1 _ _ _ _) (r_none True.intro)
  | succ n ih =>
    intro x4 x6
    refine r_cut (f_X6_common_6.eq_2 _ _ _ _ _) ?_
    refine r_lload C 1 dX6_common_6 rfl ?_
    refine r_lconst C (0) dX6_common_8 rfl ?_
    refine r_lcmp C dX6_common_9 ?_
    refine r_if_eq C 31 dX6_common_10 (by decide) (fun h10 => ?_) (fun h10 => ?_)
    · refine r_lload C 0 dX6_common_31 rfl ?_
      exact r_retl (x := x4) (rv := (fun u => some (.long u))) (hpE := (fun _ => [])) (t0 := x4) C dX6_common_33 (by rfl) (by rfl) (by rfl)
    · refine r_lload C 0 dX6_common_13 rfl ?_
      refine r_lload C 1 dX6_common_15 rfl ?_
      refine r_gnzL (fun hz => ?_)
      refine r_lrem C dX6_common_17 hz ?_
      refine r_lstore C [(8, .long (x4 - x4 / x6 * x6)), (4, .long x4), (6, .long x6)] dX6_common_18 (Nat.le_of_ble_eq_true rfl) rfl ?_
      refine r_lload C 2 dX6_common_20 rfl ?_
      refine r_lstore C [(4, .long x6), (8, .long (x4 - x4 / x6 * x6)), (6, .long x6)] dX6_common_22 (Nat.le_of_ble_eq_true rfl) rfl ?_
      refine r_lload C 1 dX6_common_24 rfl ?_
      refine r_lstore C [(6, .long (x4 - x4 / x6 * x6)), (4, .long x6), (8, .long (x4 - x4 / x6 * x6))] dX6_common_26 (Nat.le_of_ble_eq_true rfl) rfl ?_
      refine r_goto C 6 dX6_common_28 (by decide) ?_
      refine r_lv [(4, .long x6), (6, .long (x4 - x4 / x6 * x6))] [1, 0] rfl ?_
      exact ih x6 (x4 - x4 / x6 * x6)
set_option maxRecDepth 100000 in
set_option maxHeartbeats 4000000 in
theorem o_X6_common (l : Launch) (a1 : Int64) (a2 : Int64) : q_Ok l yX6_common cX6_common 10 (some .long) 0 0 [.long a1, .long a2] ([]) (f_X6_common a1 a2) (fun u => some (.long u)) (fun _ => []) := by
  refine q_enter (by decide +kernel) (Nat.le_of_ble_eq_true rfl) (fun t p e s m args below meth c dC dI dA A α C => ?_)
  refine r_cut (f_X6_common.eq_1 _ _) ?_
  show q_S p l e (q_rm 0 0) s m args below meth c 10 dC dI dA A α (MQ below (q_Q α dC dI dA A ((fun u => some (.long u)) t) ((fun _ => []) t)) args s 0 0 A) 0 0 _ t 0 [(0, .long a1), (2, .long a2)] [] ([])
  refine r_lload_n C 0 dX6_common_0 rfl ?_
  refine r_lstore C [(4, .long a1), (0, .long a1), (2, .long a2)] dX6_common_1 (Nat.le_of_ble_eq_true rfl) rfl ?_
  refine r_lload_n C 2 dX6_common_3 rfl ?_
  refine r_lstore C [(6, .long a2), (4, .long a1), (0, .long a1), (2, .long a2)] dX6_common_4 (Nat.le_of_ble_eq_true rfl) rfl ?_
  refine r_lv [(4, .long a1), (6, .long a2)] [1, 0] rfl ?_
  exact k_X6_common_6 C a1 a2   q_N a1 a2
set_option maxRecDepth 100000 in
set_option maxHeartbeats 4000000 in
theorem k_X6_stays_64 {p : Program} {l : Launch} {e : Env} {s : State} {m : MethodId} {args : Array Value} {below : List Frame} {meth : Method} {c : Code} {dC : Nat → ClassId} {dI : Nat → Nat → Nat} {dA : Nat → ClassId} {A : Nat → Prop} {α : Nat → Nat} {t : Int64 × q_St} (C : q_Cx p s m args meth c cX6_stays 10 RX6 (some .long) "stays" dC dI dA A α) (M : q_St) (a1 : Int32) (r42 : Int32 → Int64 → Int64 → Int64 → Int32 → q_St → Option (Int64 × q_St))
    (hr42 : ∀ (x1 : Int32) (x2 : Int64) (x4 : Int64) (x6 : Int64) (x8 : Int32) (M' : q_St), q_S p l e (q_rm 3 66) s m args below meth c 10 dC dI dA A α (MQ below (q_Q α dC dI dA A ((fun u => some (.long u.1)) t) ((fun u => w_X6 u.2) t)) args s 0 0 A) 0 0 (r42 x1 x2 x4 x6 x8 M') t 42 [(0, .ref 50), (1, .int x1), (2, .long x2), (4, .long x4), (6, .long x6), (8, .int x8)] [] (w_X6 M')) : ∀ (n : Nat) (x1 : Int32) (x2 : Int64) (x4 : Int64) (x6 : Int64) (x8 : Int32) (x9 : Int32) (M' : q_St), q_S p l e (q_rm 3 66) s m args below meth c 10 dC dI dA A α (MQ below (q_Q α dC dI dA A ((fun u => some (.long u.1)) t) ((fun u => w_X6 u.2) t)) args s 0 0 A) 0 0 (f_X6_stays_64 M a1 r42 n x1 x2 x4 x6 x8 x9 M') t 64 [(0, .ref 50), (1, .int x1), (2, .long x2), (4, .long x4), (6, .long x6), (8, .int x8), (9, .int x9)] [] (w_X6 M') := by
  intro n
  induction n with
  | zero =>
    intro x1 x2 x4 x6 x8 x9 M'
    exact r_cut (f_X6_stays_64.eq_1 _ _ _ _ _ _ _ _ _ _) (r_none True.intro)
  | succ n ih =>
    intro x1 x2 x4 x6 x8 x9 M'
    refine r_cut (f_X6_stays_64.eq_2 _ _ _ _ _ _ _ _ _ _ _) ?_
    refine r_iload C 6 dX6_stays_64 rfl ?_
    refine r_if_le C 112 dX6_stays_66 (by decide) (fun h66 => ?_) (fun h66 => ?_)
    · refine r_iinc C 5 (x8 + 1) [(8, .int (x8 + 1)), (0, .ref 50), (1, .int x1), (2, .long x2), (4, .long x4), (6, .long x6), (9, .int x9)] dX6_stays_112 rfl rfl (Nat.le_of_ble_eq_true rfl) rfl ?_
      refine r_goto C 42 dX6_stays_115 (by decide) ?_
      refine r_lv [(0, .ref 50), (1, .int x1), (2, .long x2), (4, .long x4), (6, .long x6), (8, .int (x8 + 1))] [1, 2, 3, 4, 5, 0] rfl ?_
      exact hr42 x1 x2 x4 x6 (x8 + 1) M'
    · refine r_lload C 3 dX6_stays_69 rfl ?_
      refine r_ldc2 C (1000000000000000) dX6_stays_71 m_1291 ?_
      refine r_lcmp C dX6_stays_74 ?_
      refine r_if_gt C 112 dX6_stays_75 (by decide) (fun h75 => ?_) (fun h75 => ?_)
      · refine r_iinc C 5 (x8 + 1) [(8, .int (x8 + 1)), (0, .ref 50), (1, .int x1), (2, .long x2), (4, .long x4), (6, .long x6), (9, .int x9)] dX6_stays_112 rfl rfl (Nat.le_of_ble_eq_true rfl) rfl ?_
        refine r_goto C 42 dX6_stays_115 (by decide) ?_
        refine r_lv [(0, .ref 50), (1, .int x1), (2, .long x2), (4, .long x4), (6, .long x6), (8, .int (x8 + 1))] [1, 2, 3, 4, 5, 0] rfl ?_
        exact hr42 x1 x2 x4 x6 (x8 + 1) M'
      · refine r_lload_n C 2 dX6_stays_78 rfl ?_
        refine r_bipush C (10) dX6_stays_79 rfl ?_
        refine r_aload_n C 0 dX6_stays_81 rfl ?_
        refine r_get C 0 0 dX6_stays_82 K_X6 rfl rfl (Nat.le_of_ble_eq_true rfl) rfl m_915 rfl ?_
        refine r_bipush C (8) dX6_stays_85 rfl ?_
        refine r_iald C 1 dX6_stays_87 rfl rfl (fun hi87 => ?_)
        refine r_isub C dX6_stays_88 ?_
        refine r_i2l C dX6_stays_89 ?_
        refine r_lload C 4 dX6_stays_90 rfl ?_
        refine r_gnzL (fun hz => ?_)
        refine r_ldiv C dX6_stays_92 hz ?_
        refine r_lmul C dX6_stays_93 ?_
        refine r_lstore_n C [(2, .long (x2 * (((10 : Int32) - (M'.2 0 (8 : Int32).toNatClampNeg)).toInt64 / x6))), (0, .ref 50), (1, .int x1), (4, .long x4), (6, .long x6), (8, .int x8), (9, .int x9)] dX6_stays_94 (Nat.le_of_ble_eq_true rfl) rfl ?_
        refine r_lload C 3 dX6_stays_95 rfl ?_
        refine r_ldc2 C (10) dX6_stays_97 m_1287 ?_
        refine r_lload C 4 dX6_stays_100 rfl ?_
        refine r_gnzL (fun hz => ?_)
        refine r_ldiv C dX6_stays_102 hz ?_
        refine r_lmul C dX6_stays_103 ?_
        refine r_lstore C [(4, .long (x4 * ((10 : Int64) / x6))), (2, .long (x2 * (((10 : Int32) - (M'.2 0 (8 : Int32).toNatClampNeg)).toInt64 / x6))), (0, .ref 50), (1, .int x1), (6, .long x6), (8, .int x8), (9, .int x9)] dX6_stays_104 (Nat.le_of_ble_eq_true rfl) rfl ?_
        refine r_iinc C 6 (x9 + (-1)) [(9, .int (x9 + (-1))), (4, .long (x4 * ((10 : Int64) / x6))), (2, .long (x2 * (((10 : Int32) - (M'.2 0 (8 : Int32).toNatClampNeg)).toInt64 / x6))), (0, .ref 50), (1, .int x1), (6, .long x6), (8, .int x8)] dX6_stays_106 rfl rfl (Nat.le_of_ble_eq_true rfl) rfl ?_
        refine r_goto C 64 dX6_stays_109 (by decide) ?_
        refine r_lv [(0, .ref 50), (1, .int x1), (2, .long (x2 * (((10 : Int32) - (M'.2 0 (8 : Int32).toNatClampNeg)).toInt64 / x6))), (4, .long (x4 * ((10 : Int64) / x6))), (6, .long x6), (8, .int x8), (9, .int (x9 + (-1)))] [3, 4, 2, 1, 5, 6, 0] rfl ?_
        exact ih x1 (x2 * (((10 : Int32) - (M'.2 0 (8 : Int32).toNatClampNeg)).toInt64 / x6)) (x4 * ((10 : Int64) / x6)) x6 x8 (x9 + (-1)) M'
set_option maxRecDepth 100000 in
set_option maxHeartbeats 4000000 in
theorem k_X6_stays_42 {p : Program} {l : Launch} {e : Env} {s : State} {m : MethodId} {args : Array Value} {below : List Frame} {meth : Method} {c : Code} {dC : Nat → ClassId} {dI : Nat → Nat → Nat} {dA : Nat → ClassId} {A : Nat → Prop} {α : Nat → Nat} {t : Int64 × q_St} (C : q_Cx p s m args meth c cX6_stays 10 RX6 (some .long) "stays" dC dI dA A α) (M : q_St) (a1 : Int32)  : ∀ (n : Nat) (x1 : Int32) (x2 : Int64) (x4 : Int64) (x6 : Int64) (x8 : Int32) (M' : q_St), q_S p l e (q_rm 3 66) s m args below meth c 10 dC dI dA A α (MQ below (q_Q α dC dI dA A ((fun u => some (.long u.1)) t) ((fun u => w_X6 u.2) t)) args s 0 0 A) 0 0 (f_X6_stays_42 M a1  n x1 x2 x4 x6 x8 M') t 42 [(0, .ref 50), (1, .int x1), (2, .long x2), (4, .long x4), (6, .long x6), (8, .int x8)] [] (w_X6 M') := by
  intro n
  induction n with
  | zero =>
    intro x1 x2 x4 x6 x8 M'
    exact r_cut (f_X6_stays_42.eq_1 _ _ _ _ _ _ _ _) (r_none True.intro)
  | succ n ih =>
    intro x1 x2 x4 x6 x8 M'
    refine r_cut (f_X6_stays_42.eq_2 _ _ _ _ _ _ _ _ _) ?_
    refine r_iload C 5 dX6_stays_42 rfl ?_
    refine r_aload_n C 0 dX6_stays_44 rfl ?_
    refine r_get C 0 0 dX6_stays_45 K_X6 rfl rfl (Nat.le_of_ble_eq_true rfl) rfl m_915 rfl ?_
    refine r_iconst C (1) dX6_stays_48 rfl ?_
    refine r_iald C 1 dX6_stays_49 rfl rfl (fun hi49 => ?_)
    refine r_icmp_ge C 118 dX6_stays_50 (by decide) (fun h50 => ?_) (fun h50 => ?_)
    · refine r_lload C 3 dX6_stays_118 rfl ?_
      refine r_ldc2 C (1000000000000000) dX6_stays_120 m_1291 ?_
      refine r_lcmp C dX6_stays_123 ?_
      refine r_if_le C 137 dX6_stays_124 (by decide) (fun h124 => ?_) (fun h124 => ?_)
      · refine r_iload_n C 1 dX6_stays_137 rfl ?_
        refine r_if_ne C 145 dX6_stays_138 (by decide) (fun h138 => ?_) (fun h138 => ?_)
        · refine r_lload_n C 2 dX6_stays_141 rfl ?_
          refine r_goto C 147 dX6_stays_142 (by decide) ?_
          exact r_retl (x := x2) (rv := (fun u => some (.long u.1))) (hpE := (fun u => w_X6 u.2)) (t0 := (x2, M')) C dX6_stays_147 (by rfl) (by rfl) (by rfl)
        · refine r_lload C 3 dX6_stays_145 rfl ?_
          exact r_retl (x := x4) (rv := (fun u => some (.long u.1))) (hpE := (fun u => w_X6 u.2)) (t0 := (x4, M')) C dX6_stays_147 (by rfl) (by rfl) (by rfl)
      · refine r_aload_n C 0 dX6_stays_127 rfl ?_
        refine r_ldc C (-1000007) dX6_stays_128 m_1270 ?_
        refine r_callV0 C (o_X6_finding l M' (-1000007 : Int32)) v_X6_finding m_1003 [.int (-1000007 : Int32)] [] (50) (Or.inl ⟨0, 5, _, TX6, 25, rfl, rfl, rfl⟩) (fun u4 => [.int u4.1]) (fun u4 => [.inr (5, [.ref 51, .ref 52, .ref 53, .int (u4.2.1 3), .ref 54, .ref 55, .ref 56, .int (u4.2.1 7), .ref 57, .ref 58, .int (u4.2.1 10), .int (u4.2.1 11), .int (u4.2.1 12), .int (u4.2.1 13), .int (u4.2.1 14), .int (u4.2.1 15), .ref 59, .ref 60, .int (u4.2.1 18), .int (u4.2.1 19), .int (u4.2.1 20), .ref 61, .ref 62, .ref 63, .ref 64]), .inl (0, 68, .inl (u4.2.2 0)), .inl (0, 68, .inl (u4.2.2 1)), .inl (0, 68, .inl (u4.2.2 2)), .inl (0, 8, .inl (u4.2.2 4)), .inl (0, 1053, .inl (u4.2.2 5)), .inl (1, 972, .inl (u4.2.2 6)), .inl (0, 1053, .inl (u4.2.2 8)), .inl (0, 120, .inl (u4.2.2 9)), .inl (3, 7, .inr (.inr (.inr (.inr q_kf)))), .inl (0, 360, .inl (u4.2.2 17)), .inl (0, 4, .inl (u4.2.2 21)), .inl (0, 4, .inl (u4.2.2 22)), .inl (0, 160, .inl (u4.2.2 23)), .inl (0, 40, .inl (u4.2.2 24))]) rfl rfl rfl (Nat.le_of_ble_eq_true rfl) ⟨(Nat.le_of_ble_eq_true rfl), (Nat.le_of_ble_eq_true rfl)⟩ ⟨Nat.zero_le _, Nat.zero_le _⟩ dX6_stays_130 (fun _ => rfl) (fun _ => rfl) (fun _ => rfl) (fun u4 => ?_)
        refine r_i2l C dX6_stays_133 ?_
        refine r_goto C 147 dX6_stays_134 (by decide) ?_
        exact r_retl (x := u4.1.toInt64) (rv := (fun u => some (.long u.1))) (hpE := (fun u => w_X6 u.2)) (t0 := (u4.1.toInt64, u4.2)) C dX6_stays_147 (by rfl) (by rfl) (by rfl)
    · refine r_aload_n C 0 dX6_stays_53 rfl ?_
      refine r_iload C 5 dX6_stays_54 rfl ?_
      refine r_callV0 C (o_X6_dogsIn l M' x8) v_X6_dogsIn m_1279 [.int x8] [] (50) (Or.inl ⟨0, 5, _, TX6, 25, rfl, rfl, rfl⟩) (fun u5 => [.int u5]) (fun u5 => [.inr (5, [.ref 51, .ref 52, .ref 53, .int (M'.1 3), .ref 54, .ref 55, .ref 56, .int (M'.1 7), .ref 57, .ref 58, .int (M'.1 10), .int (M'.1 11), .int (M'.1 12), .int (M'.1 13), .int (M'.1 14), .int (M'.1 15), .ref 59, .ref 60, .int (M'.1 18), .int (M'.1 19), .int (M'.1 20), .ref 61, .ref 62, .ref 63, .ref 64]), .inl (0, 68, .inl (M'.2 0)), .inl (0, 68, .inl (M'.2 1)), .inl (0, 68, .inl (M'.2 2)), .inl (0, 8, .inl (M'.2 4)), .inl (0, 1053, .inl (M'.2 5)), .inl (1, 972, .inl (M'.2 6)), .inl (0, 1053, .inl (M'.2 8)), .inl (0, 120, .inl (M'.2 9)), .inl (3, 7, .inr (.inr (.inr (.inr q_kf)))), .inl (0, 360, .inl (M'.2 17)), .inl (0, 4, .inl (M'.2 21)), .inl (0, 4, .inl (M'.2 22)), .inl (0, 160, .inl (M'.2 23)), .inl (0, 40, .inl (M'.2 24))]) rfl rfl rfl (Nat.le_of_ble_eq_true rfl) ⟨(Nat.le_of_ble_eq_true rfl), (Nat.le_of_ble_eq_true rfl)⟩ ⟨Nat.zero_le _, Nat.zero_le _⟩ dX6_stays_56 (fun _ => rfl) (fun _ => rfl) (fun _ => rfl) (fun u5 => ?_)
      refine r_callS C (o_X6_bits l u5) v_X6_bits m_1097 [] [.int u5] [] (fun u6 => [.int u6]) (fun u6 => [.inr (5, [.ref 51, .ref 52, .ref 53, .int (M'.1 3), .ref 54, .ref 55, .ref 56, .int (M'.1 7), .ref 57, .ref 58, .int (M'.1 10), .int (M'.1 11), .int (M'.1 12), .int (M'.1 13), .int (M'.1 14), .int (M'.1 15), .ref 59, .ref 60, .int (M'.1 18), .int (M'.1 19), .int (M'.1 20), .ref 61, .ref 62, .ref 63, .ref 64]), .inl (0, 68, .inl (M'.2 0)), .inl (0, 68, .inl (M'.2 1)), .inl (0, 68, .inl (M'.2 2)), .inl (0, 8, .inl (M'.2 4)), .inl (0, 1053, .inl (M'.2 5)), .inl (1, 972, .inl (M'.2 6)), .inl (0, 1053, .inl (M'.2 8)), .inl (0, 120, .inl (M'.2 9)), .inl (3, 7, .inr (.inr (.inr (.inr q_kf)))), .inl (0, 360, .inl (M'.2 17)), .inl (0, 4, .inl (M'.2 21)), .inl (0, 4, .inl (M'.2 22)), .inl (0, 160, .inl (M'.2 23)), .inl (0, 40, .inl (M'.2 24))]) rfl rfl rfl rfl rfl (Nat.le_of_ble_eq_true rfl) ⟨(Nat.le_of_ble_eq_true rfl), (Nat.le_of_ble_eq_true rfl)⟩ ⟨Nat.zero_le _, Nat.zero_le _⟩ dX6_stays_59 (fun _ => rfl) (fun _ => rfl) (fun _ => rfl) (fun u6 => ?_)
      refine r_istore C [(9, .int u6), (0, .ref 50), (1, .int x1), (2, .long x2), (4, .long x4), (6, .long x6), (8, .int x8)] dX6_stays_62 (Nat.le_of_ble_eq_true rfl) rfl ?_
      refine r_lv [(0, .ref 50), (1, .int x1), (2, .long x2), (4, .long x4), (6, .long x6), (8, .int x8), (9, .int u6)] [1, 2, 3, 4, 5, 6, 0] rfl ?_
      exact k_X6_stays_64 C M a1 (fun x1 x2 x4 x6 x8 M' => f_X6_stays_42 M a1  n x1 x2 x4 x6 x8 M') ih q_N x1 x2 x4 x6 x8 u6 M'
set_option maxRecDepth 100000 in
set_option maxHeartbeats 4000000 in
theorem o_X6_stays (l : Launch) (M : q_St) (a1 : Int32) : q_Ok l yX6_stays cX6_stays 10 (some .long) 3 66 [.ref 50, .int a1] (w_X6 M) (f_X6_stays M a1) (fun u => some (.long u.1)) (fun u => w_X6 u.2) := by
  refine q_enter (by decide +kernel) (Nat.le_of_ble_eq_true rfl) (fun t p e s m args below meth c dC dI dA A α C => ?_)
  refine r_cut (f_X6_stays.eq_1 _ _) ?_
  show q_S p l e (q_rm 3 66) s m args below meth c 10 dC dI dA A α (MQ below (q_Q α dC dI dA A ((fun u => some (.long u.1)) t) ((fun u => w_X6 u.2) t)) args s 0 0 A) 0 0 _ t 0 [(0, .ref 50), (1, .int a1)] [] (w_X6 M)
  refine r_iload_n C 1 dX6_stays_0 rfl ?_
  refine r_callS C (o_X6_isWhat l a1) v_X6_isWhat m_1160 [] [.int a1] [] (fun u1 => [.int u1]) (fun u1 => [.inr (5, [.ref 51, .ref 52, .ref 53, .int (M.1 3), .ref 54, .ref 55, .ref 56, .int (M.1 7), .ref 57, .ref 58, .int (M.1 10), .int (M.1 11), .int (M.1 12), .int (M.1 13), .int (M.1 14), .int (M.1 15), .ref 59, .ref 60, .int (M.1 18), .int (M.1 19), .int (M.1 20), .ref 61, .ref 62, .ref 63, .ref 64]), .inl (0, 68, .inl (M.2 0)), .inl (0, 68, .inl (M.2 1)), .inl (0, 68, .inl (M.2 2)), .inl (0, 8, .inl (M.2 4)), .inl (0, 1053, .inl (M.2 5)), .inl (1, 972, .inl (M.2 6)), .inl (0, 1053, .inl (M.2 8)), .inl (0, 120, .inl (M.2 9)), .inl (3, 7, .inr (.inr (.inr (.inr q_kf)))), .inl (0, 360, .inl (M.2 17)), .inl (0, 4, .inl (M.2 21)), .inl (0, 4, .inl (M.2 22)), .inl (0, 160, .inl (M.2 23)), .inl (0, 40, .inl (M.2 24))]) rfl rfl rfl rfl rfl (Nat.le_of_ble_eq_true rfl) ⟨(Nat.le_of_ble_eq_true rfl), (Nat.le_of_ble_eq_true rfl)⟩ ⟨Nat.zero_le _, Nat.zero_le _⟩ dX6_stays_1 (fun _ => rfl) (fun _ => rfl) (fun _ => rfl) (fun u1 => ?_)
  refine r_if_ne C 15 dX6_stays_4 (by decide) (fun h4 => ?_) (fun h4 => ?_)
  · refine r_aload_n C 0 dX6_stays_7 rfl ?_
    refine r_ldc C (-1000001) dX6_stays_8 m_1002 ?_
    refine r_callV0 C (o_X6_finding l M (-1000001 : Int32)) v_X6_finding m_1003 [.int (-1000001 : Int32)] [] (50) (Or.inl ⟨0, 5, _, TX6, 25, rfl, rfl, rfl⟩) (fun u3 => [.int u3.1]) (fun u3 => [.inr (5, [.ref 51, .ref 52, .ref 53, .int (u3.2.1 3), .ref 54, .ref 55, .ref 56, .int (u3.2.1 7), .ref 57, .ref 58, .int (u3.2.1 10), .int (u3.2.1 11), .int (u3.2.1 12), .int (u3.2.1 13), .int (u3.2.1 14), .int (u3.2.1 15), .ref 59, .ref 60, .int (u3.2.1 18), .int (u3.2.1 19), .int (u3.2.1 20), .ref 61, .ref 62, .ref 63, .ref 64]), .inl (0, 68, .inl (u3.2.2 0)), .inl (0, 68, .inl (u3.2.2 1)), .inl (0, 68, .inl (u3.2.2 2)), .inl (0, 8, .inl (u3.2.2 4)), .inl (0, 1053, .inl (u3.2.2 5)), .inl (1, 972, .inl (u3.2.2 6)), .inl (0, 1053, .inl (u3.2.2 8)), .inl (0, 120, .inl (u3.2.2 9)), .inl (3, 7, .inr (.inr (.inr (.inr q_kf)))), .inl (0, 360, .inl (u3.2.2 17)), .inl (0, 4, .inl (u3.2.2 21)), .inl (0, 4, .inl (u3.2.2 22)), .inl (0, 160, .inl (u3.2.2 23)), .inl (0, 40, .inl (u3.2.2 24))]) rfl rfl rfl (Nat.le_of_ble_eq_true rfl) ⟨(Nat.le_of_ble_eq_true rfl), (Nat.le_of_ble_eq_true rfl)⟩ ⟨Nat.zero_le _, Nat.zero_le _⟩ dX6_stays_10 (fun _ => rfl) (fun _ => rfl) (fun _ => rfl) (fun u3 => ?_)
    refine r_i2l C dX6_stays_13 ?_
    exact r_retl (x := u3.1.toInt64) (rv := (fun u => some (.long u.1))) (hpE := (fun u => w_X6 u.2)) (t0 := (u3.1.toInt64, u3.2)) C dX6_stays_14 (by rfl) (by rfl) (by rfl)
  · refine r_lconst C (1) dX6_stays_15 rfl ?_
    refine r_lstore_n C [(2, .long (1 : Int64)), (0, .ref 50), (1, .int a1)] dX6_stays_16 (Nat.le_of_ble_eq_true rfl) rfl ?_
    refine r_lconst C (1) dX6_stays_17 rfl ?_
    refine r_lstore C [(4, .long (1 : Int64)), (2, .long (1 : Int64)), (0, .ref 50), (1, .int a1)] dX6_stays_18 (Nat.le_of_ble_eq_true rfl) rfl ?_
    refine r_bipush C (10) dX6_stays_20 rfl ?_
    refine r_aload_n C 2 dX6_stays_22 rfl ?_
    refine r_get C 0 0 dX6_stays_23 K_X6 rfl rfl (Nat.le_of_ble_eq_true rfl) rfl m_915 rfl ?_
    refine r_bipush C (8) dX6_stays_26 rfl ?_
    refine r_iald C 1 dX6_stays_28 rfl rfl (fun hi28 => ?_)
    refine r_isub C dX6_stays_29 ?_
    refine r_i2l C dX6_stays_30 ?_
    refine r_ldc2 C (10) dX6_stays_31 m_1287 ?_
    refine r_callS C (o_X6_common l (((10 : Int32) - (M.2 0 (8 : Int32).toNatClampNeg)).toInt64) (10 : Int64)) v_X6_common m_1288 [] [.long (((10 : Int32) - (M.2 0 (8 : Int32).toNatClampNeg)).toInt64), .long (10 : Int64)] [] (fun u2 => [.long u2]) (fun u2 => [.inr (5, [.ref 51, .ref 52, .ref 53, .int (M.1 3), .ref 54, .ref 55, .ref 56, .int (M.1 7), .ref 57, .ref 58, .int (M.1 10), .int (M.1 11), .int (M.1 12), .int (M.1 13), .int (M.1 14), .int (M.1 15), .ref 59, .ref 60, .int (M.1 18), .int (M.1 19), .int (M.1 20), .ref 61, .ref 62, .ref 63, .ref 64]), .inl (0, 68, .inl (M.2 0)), .inl (0, 68, .inl (M.2 1)), .inl (0, 68, .inl (M.2 2)), .inl (0, 8, .inl (M.2 4)), .inl (0, 1053, .inl (M.2 5)), .inl (1, 972, .inl (M.2 6)), .inl (0, 1053, .inl (M.2 8)), .inl (0, 120, .inl (M.2 9)), .inl (3, 7, .inr (.inr (.inr (.inr q_kf)))), .inl (0, 360, .inl (M.2 17)), .inl (0, 4, .inl (M.2 21)), .inl (0, 4, .inl (M.2 22)), .inl (0, 160, .inl (M.2 23)), .inl (0, 40, .inl (M.2 24))]) rfl rfl rfl rfl rfl (Nat.le_of_ble_eq_true rfl) ⟨(Nat.le_of_ble_eq_true rfl), (Nat.le_of_ble_eq_true rfl)⟩ ⟨Nat.zero_le _, Nat.zero_le _⟩ dX6_stays_34 (fun _ => rfl) (fun _ => rfl) (fun _ => rfl) (fun u2 => ?_)
    refine r_lstore C [(6, .long u2), (4, .long (1 : Int64)), (2, .long (1 : Int64)), (0, .ref 50), (1, .int a1)] dX6_stays_37 (Nat.le_of_ble_eq_true rfl) rfl ?_
    refine r_iconst C (0) dX6_stays_39 rfl ?_
    refine r_istore C [(8, .int (0 : Int32)), (6, .long u2), (4, .long (1 : Int64)), (2, .long (1 : Int64)), (0, .ref 50), (1, .int a1)] dX6_stays_40 (Nat.le_of_ble_eq_true rfl) rfl ?_
    refine r_lv [(0, .ref 50), (1, .int a1), (2, .long (1 : Int64)), (4, .long (1 : Int64)), (6, .long u2), (8, .int (0 : Int32))] [4, 5, 3, 2, 1, 0] rfl ?_
    exact k_X6_stays_42 C M a1   q_N a1 (1 : Int64) (1 : Int64) u2 (0 : Int32) M
set_option maxRecDepth 100000 in
set_option maxHeartbeats 4000000 in
theorem o_X6_drawn (l : Launch) (M : q_St) (a1 : Int32) : q_Ok l yX6_drawn cX6_drawn 2 (some .int) 0 0 [.ref 50, .int a1] (w_X6 M) (f_X6_drawn M a1) (fun u => some (.int u.1)) (fun u => w_X6 u.2) := by
  refine q_enter (by decide +kernel) (Nat.le_of_ble_eq_true rfl) (fun t p e s m args below meth c dC dI dA A α C => ?_)
  refine r_cut (f_X6_drawn.eq_1 _ _) ?_
  show q_S p l e (q_rm 0 0) s m args below meth c 2 dC dI dA A α (MQ below (q_Q α dC dI dA A ((fun u => some (.int u.1)) t) ((fun u => w_X6 u.2) t)) args s 0 0 A) 0 0 _ t 0 [(0, .ref 50), (1, .int a1)] [] (w_X6 M)
  refine r_aload_n C 0 dX6_drawn_0 rfl ?_
  refine r_get C 0 0 dX6_drawn_1 K_X6 rfl rfl (Nat.le_of_ble_eq_true rfl) rfl m_915 rfl ?_
  refine r_bipush C (9) dX6_drawn_4 rfl ?_
  refine r_aload_n C 0 dX6_drawn_6 rfl ?_
  refine r_get C 0 0 dX6_drawn_7 K_X6 rfl rfl (Nat.le_of_ble_eq_true rfl) rfl m_915 rfl ?_
  refine r_bipush C (9) dX6_drawn_10 rfl ?_
  refine r_iald C 1 dX6_drawn_12 rfl rfl (fun hi12 => ?_)
  refine r_ldc C (1103515245) dX6_drawn_13 m_1308 ?_
  refine r_imul C dX6_drawn_15 ?_
  refine r_sipush C (12345) dX6_drawn_16 rfl ?_
  refine r_iadd C dX6_drawn_19 ?_
  refine r_iast C 1 _ dX6_drawn_20 rfl rfl rfl (fun hi20 => ?_)
  refine r_aload_n C 0 dX6_drawn_21 rfl ?_
  refine r_get C 0 0 dX6_drawn_22 K_X6 rfl rfl (Nat.le_of_ble_eq_true rfl) rfl m_915 rfl ?_
  refine r_bipush C (9) dX6_drawn_25 rfl ?_
  refine r_iald C 1 dX6_drawn_27 rfl rfl (fun hi27 => ?_)
  refine r_bipush C (8) dX6_drawn_28 rfl ?_
  refine r_iushr C dX6_drawn_30 ?_
  refine r_iload_n C 1 dX6_drawn_31 rfl ?_
  refine r_gnz (fun hz => ?_)
  refine r_irem C dX6_drawn_32 hz ?_
  exact r_reti (x := ((((upd (M.2 0) (9 : Int32).toNatClampNeg (((M.2 0 (9 : Int32).toNatClampNeg) * (1103515245 : Int32)) + (12345 : Int32))) (9 : Int32).toNatClampNeg).toUInt32 >>> ((8 : Int32).toUInt32 &&& Int32.toUInt32 31)).toInt32 - (((upd (M.2 0) (9 : Int32).toNatClampNeg (((M.2 0 (9 : Int32).toNatClampNeg) * (1103515245 : Int32)) + (12345 : Int32))) (9 : Int32).toNatClampNeg).toUInt32 >>> ((8 : Int32).toUInt32 &&& Int32.toUInt32 31)).toInt32 / a1 * a1)) (rv := (fun u => some (.int u.1))) (hpE := (fun u => w_X6 u.2)) (t0 := (((((upd (M.2 0) (9 : Int32).toNatClampNeg (((M.2 0 (9 : Int32).toNatClampNeg) * (1103515245 : Int32)) + (12345 : Int32))) (9 : Int32).toNatClampNeg).toUInt32 >>> ((8 : Int32).toUInt32 &&& Int32.toUInt32 31)).toInt32 - (((upd (M.2 0) (9 : Int32).toNatClampNeg (((M.2 0 (9 : Int32).toNatClampNeg) * (1103515245 : Int32)) + (12345 : Int32))) (9 : Int32).toNatClampNeg).toUInt32 >>> ((8 : Int32).toUInt32 &&& Int32.toUInt32 31)).toInt32 / a1 * a1), (M.1, (va_up M.2 0 (upd (M.2 0) (9 : Int32).toNatClampNeg (((M.2 0 (9 : Int32).toNatClampNeg) * (1103515245 : Int32)) + (12345 : Int32))))))) C dX6_drawn_33 (by rfl) (by rfl) (by rfl)
set_option maxRecDepth 100000 in
set_option maxHeartbeats 4000000 in
theorem k_X6_evening_128 {p : Program} {l : Launch} {e : Env} {s : State} {m : MethodId} {args : Array Value} {below : List Frame} {meth : Method} {c : Code} {dC : Nat → ClassId} {dI : Nat → Nat → Nat} {dA : Nat → ClassId} {A : Nat → Prop} {α : Nat → Nat} {t : Int32 × q_St} (C : q_Cx p s m args meth c cX6_evening 9 RX6 (some .int) "evening" dC dI dA A α) (M : q_St) (r30 : Int32 → Int32 → Int32 → q_St → Option (Int32 × q_St)) (r102 : Int32 → Int32 → Int32 → Int32 → Int32 → q_St → Option (Int32 × q_St))
    (hr30 : ∀ (x2 : Int32) (x3 : Int32) (x4 : Int32) (M' : q_St), q_S p l e (q_rm 6 136) s m args below meth c 9 dC dI dA A α (MQ below (q_Q α dC dI dA A ((fun u => some (.int u.1)) t) ((fun u => w_X6 u.2) t)) args s 0 0 A) 0 0 (r30 x2 x3 x4 M') t 30 [(0, .ref 50), (2, .int x2), (3, .int x3), (4, .int x4)] [] (w_X6 M'))
    (hr102 : ∀ (x2 : Int32) (x3 : Int32) (x4 : Int32) (x6 : Int32) (x7 : Int32) (M' : q_St), q_S p l e (q_rm 6 136) s m args below meth c 9 dC dI dA A α (MQ below (q_Q α dC dI dA A ((fun u => some (.int u.1)) t) ((fun u => w_X6 u.2) t)) args s 0 0 A) 0 0 (r102 x2 x3 x4 x6 x7 M') t 102 [(0, .ref 50), (2, .int x2), (3, .int x3), (4, .int x4), (6, .int x6), (7, .int x7)] [] (w_X6 M')) : ∀ (x2 : Int32) (x3 : Int32) (x4 : Int32) (x6 : Int32) (x7 : Int32) (s0 : Int32) (M' : q_St), q_S p l e (q_rm 6 136) s m args below meth c 9 dC dI dA A α (MQ below (q_Q α dC dI dA A ((fun u => some (.int u.1)) t) ((fun u => w_X6 u.2) t)) args s 0 0 A) 0 0 (f_X6_evening_128 M r30 r102 x2 x3 x4 x6 x7 s0 M') t 128 [(0, .ref 50), (2, .int x2), (3, .int x3), (4, .int x4), (6, .int x6), (7, .int x7)] [.int s0] (w_X6 M') := by
  intro x2 x3 x4 x6 x7 s0 M'
  refine r_cut (f_X6_evening_128.eq_1 _ _ _ _ _ _ _ _ _ _) ?_
  refine r_istore C [(8, .int s0), (0, .ref 50), (2, .int x2), (3, .int x3), (4, .int x4), (6, .int x6), (7, .int x7)] dX6_evening_128 (Nat.le_of_ble_eq_true rfl) rfl ?_
  refine r_iload C 5 dX6_evening_130 rfl ?_
  refine r_if_ne C 140 dX6_evening_132 (by decide) (fun h132 => ?_) (fun h132 => ?_)
  · refine r_iload C 0 dX6_evening_135 rfl ?_
    refine r_if_eq C 144 dX6_evening_137 (by decide) (fun h137 => ?_) (fun h137 => ?_)
    · refine r_iconst C (0) dX6_evening_144 rfl ?_
      refine r_istore C [(6, .int (0 : Int32)), (8, .int s0), (0, .ref 50), (2, .int x2), (3, .int x3), (4, .int x4), (7, .int x7)] dX6_evening_145 (Nat.le_of_ble_eq_true rfl) rfl ?_
      refine r_iinc C 6 (x7 + (-1)) [(7, .int (x7 + (-1))), (6, .int (0 : Int32)), (8, .int s0), (0, .ref 50), (2, .int x2), (3, .int x3), (4, .int x4)] dX6_evening_147 rfl rfl (Nat.le_of_ble_eq_true rfl) rfl ?_
      refine r_goto C 102 dX6_evening_150 (by decide) ?_
      refine r_lv [(0, .ref 50), (2, .int x2), (3, .int x3), (4, .int x4), (6, .int (0 : Int32)), (7, .int (x7 + (-1)))] [3, 4, 5, 6, 1, 0] rfl ?_
      exact hr102 x2 x3 x4 (0 : Int32) (x7 + (-1)) M'
    · refine r_iconst C (1) dX6_evening_140 rfl ?_
      refine r_goto C 145 dX6_evening_141 (by decide) ?_
      refine r_istore C [(6, .int (1 : Int32)), (8, .int s0), (0, .ref 50), (2, .int x2), (3, .int x3), (4, .int x4), (7, .int x7)] dX6_evening_145 (Nat.le_of_ble_eq_true rfl) rfl ?_
      refine r_iinc C 6 (x7 + (-1)) [(7, .int (x7 + (-1))), (6, .int (1 : Int32)), (8, .int s0), (0, .ref 50), (2, .int x2), (3, .int x3), (4, .int x4)] dX6_evening_147 rfl rfl (Nat.le_of_ble_eq_true rfl) rfl ?_
      refine r_goto C 102 dX6_evening_150 (by decide) ?_
      refine r_lv [(0, .ref 50), (2, .int x2), (3, .int x3), (4, .int x4), (6, .int (1 : Int32)), (7, .int (x7 + (-1)))] [3, 4, 5, 6, 1, 0] rfl ?_
      exact hr102 x2 x3 x4 (1 : Int32) (x7 + (-1)) M'
  · refine r_iconst C (1) dX6_evening_140 rfl ?_
    refine r_goto C 145 dX6_evening_141 (by decide) ?_
    refine r_istore C [(6, .int (1 : Int32)), (8, .int s0), (0, .ref 50), (2, .int x2), (3, .int x3), (4, .int x4), (7, .int x7)] dX6_evening_145 (Nat.le_of_ble_eq_true rfl) rfl ?_
    refine r_iinc C 6 (x7 + (-1)) [(7, .int (x7 + (-1))), (6, .int (1 : Int32)), (8, .int s0), (0, .ref 50), (2, .int x2), (3, .int x3), (4, .int x4)] dX6_evening_147 rfl rfl (Nat.le_of_ble_eq_true rfl) rfl ?_
    refine r_goto C 102 dX6_evening_150 (by decide) ?_
    refine r_lv [(0, .ref 50), (2, .int x2), (3, .int x3), (4, .int x4), (6, .int (1 : Int32)), (7, .int (x7 + (-1)))] [3, 4, 5, 6, 1, 0] rfl ?_
    exact hr102 x2 x3 x4 (1 : Int32) (x7 + (-1)) M'
set_option maxRecDepth 100000 in
set_option maxHeartbeats 4000000 in
theorem k_X6_evening_102 {p : Program} {l : Launch} {e : Env} {s : State} {m : MethodId} {args : Array Value} {below : List Frame} {meth : Method} {c : Code} {dC : Nat → ClassId} {dI : Nat → Nat → Nat} {dA : Nat → ClassId} {A : Nat → Prop} {α : Nat → Nat} {t : Int32 × q_St} (C : q_Cx p s m args meth c cX6_evening 9 RX6 (some .int) "evening" dC dI dA A α) (M : q_St) (r30 : Int32 → Int32 → Int32 → q_St → Option (Int32 × q_St))
    (hr30 : ∀ (x2 : Int32) (x3 : Int32) (x4 : Int32) (M' : q_St), q_S p l e (q_rm 6 136) s m args below meth c 9 dC dI dA A α (MQ below (q_Q α dC dI dA A ((fun u => some (.int u.1)) t) ((fun u => w_X6 u.2) t)) args s 0 0 A) 0 0 (r30 x2 x3 x4 M') t 30 [(0, .ref 50), (2, .int x2), (3, .int x3), (4, .int x4)] [] (w_X6 M')) : ∀ (n : Nat) (x2 : Int32) (x3 : Int32) (x4 : Int32) (x6 : Int32) (x7 : Int32) (M' : q_St), q_S p l e (q_rm 6 136) s m args below meth c 9 dC dI dA A α (MQ below (q_Q α dC dI dA A ((fun u => some (.int u.1)) t) ((fun u => w_X6 u.2) t)) args s 0 0 A) 0 0 (f_X6_evening_102 M r30 n x2 x3 x4 x6 x7 M') t 102 [(0, .ref 50), (2, .int x2), (3, .int x3), (4, .int x4), (6, .int x6), (7, .int x7)] [] (w_X6 M') := by
  intro n
  induction n with
  | zero =>
    intro x2 x3 x4 x6 x7 M'
    exact r_cut (f_X6_evening_102.eq_1 _ _ _ _ _ _ _ _) (r_none True.intro)
  | succ n ih =>
    intro x2 x3 x4 x6 x7 M'
    refine r_cut (f_X6_evening_102.eq_2 _ _ _ _ _ _ _ _ _) ?_
    refine r_iload C 5 dX6_evening_102 rfl ?_
    refine r_if_le C 153 dX6_evening_104 (by decide) (fun h104 => ?_) (fun h104 => ?_)
    · refine r_iload_n C 2 dX6_evening_153 rfl ?_
      refine r_iload C 4 dX6_evening_154 rfl ?_
      refine r_if_eq C 163 dX6_evening_156 (by decide) (fun h156 => ?_) (fun h156 => ?_)
      · refine r_iconst C (0) dX6_evening_163 rfl ?_
        refine r_iadd C dX6_evening_164 ?_
        refine r_istore_n C [(3, .int (x3 + (0 : Int32))), (0, .ref 50), (2, .int x2), (4, .int x4), (6, .int x6), (7, .int x7)] dX6_evening_165 (Nat.le_of_ble_eq_true rfl) rfl ?_
        refine r_iinc C 3 (x4 + 1) [(4, .int (x4 + 1)), (3, .int (x3 + (0 : Int32))), (0, .ref 50), (2, .int x2), (6, .int x6), (7, .int x7)] dX6_evening_166 rfl rfl (Nat.le_of_ble_eq_true rfl) rfl ?_
        refine r_goto C 30 dX6_evening_169 (by decide) ?_
        refine r_lv [(0, .ref 50), (2, .int x2), (3, .int (x3 + (0 : Int32))), (4, .int (x4 + 1))] [2, 3, 1, 0] rfl ?_
        exact hr30 x2 (x3 + (0 : Int32)) (x4 + 1) M'
      · refine r_iconst C (1) dX6_evening_159 rfl ?_
        refine r_goto C 164 dX6_evening_160 (by decide) ?_
        refine r_iadd C dX6_evening_164 ?_
        refine r_istore_n C [(3, .int (x3 + (1 : Int32))), (0, .ref 50), (2, .int x2), (4, .int x4), (6, .int x6), (7, .int x7)] dX6_evening_165 (Nat.le_of_ble_eq_true rfl) rfl ?_
        refine r_iinc C 3 (x4 + 1) [(4, .int (x4 + 1)), (3, .int (x3 + (1 : Int32))), (0, .ref 50), (2, .int x2), (6, .int x6), (7, .int x7)] dX6_evening_166 rfl rfl (Nat.le_of_ble_eq_true rfl) rfl ?_
        refine r_goto C 30 dX6_evening_169 (by decide) ?_
        refine r_lv [(0, .ref 50), (2, .int x2), (3, .int (x3 + (1 : Int32))), (4, .int (x4 + 1))] [2, 3, 1, 0] rfl ?_
        exact hr30 x2 (x3 + (1 : Int32)) (x4 + 1) M'
    · refine r_aload_n C 0 dX6_evening_107 rfl ?_
      refine r_bipush C (10) dX6_evening_108 rfl ?_
      refine r_callV0 C (o_X6_drawn l M' (10 : Int32)) v_X6_drawn m_1304 [.int (10 : Int32)] [] (50) (Or.inl ⟨0, 5, _, TX6, 25, rfl, rfl, rfl⟩) (fun u11 => [.int u11.1]) (fun u11 => [.inr (5, [.ref 51, .ref 52, .ref 53, .int (u11.2.1 3), .ref 54, .ref 55, .ref 56, .int (u11.2.1 7), .ref 57, .ref 58, .int (u11.2.1 10), .int (u11.2.1 11), .int (u11.2.1 12), .int (u11.2.1 13), .int (u11.2.1 14), .int (u11.2.1 15), .ref 59, .ref 60, .int (u11.2.1 18), .int (u11.2.1 19), .int (u11.2.1 20), .ref 61, .ref 62, .ref 63, .ref 64]), .inl (0, 68, .inl (u11.2.2 0)), .inl (0, 68, .inl (u11.2.2 1)), .inl (0, 68, .inl (u11.2.2 2)), .inl (0, 8, .inl (u11.2.2 4)), .inl (0, 1053, .inl (u11.2.2 5)), .inl (1, 972, .inl (u11.2.2 6)), .inl (0, 1053, .inl (u11.2.2 8)), .inl (0, 120, .inl (u11.2.2 9)), .inl (3, 7, .inr (.inr (.inr (.inr q_kf)))), .inl (0, 360, .inl (u11.2.2 17)), .inl (0, 4, .inl (u11.2.2 21)), .inl (0, 4, .inl (u11.2.2 22)), .inl (0, 160, .inl (u11.2.2 23)), .inl (0, 40, .inl (u11.2.2 24))]) rfl rfl rfl (Nat.le_of_ble_eq_true rfl) ⟨(Nat.le_of_ble_eq_true rfl), (Nat.le_of_ble_eq_true rfl)⟩ ⟨Nat.zero_le _, Nat.zero_le _⟩ dX6_evening_110 (fun _ => rfl) (fun _ => rfl) (fun _ => rfl) (fun u11 => ?_)
      refine r_aload_n C 0 dX6_evening_113 rfl ?_
      refine r_get C 0 0 dX6_evening_114 K_X6 rfl rfl (Nat.le_of_ble_eq_true rfl) rfl m_915 rfl ?_
      refine r_bipush C (8) dX6_evening_117 rfl ?_
      refine r_iald C 1 dX6_evening_119 rfl rfl (fun hi119 => ?_)
      refine r_icmp_ge C 127 dX6_evening_120 (by decide) (fun h120 => ?_) (fun h120 => ?_)
      · refine r_iconst C (0) dX6_evening_127 rfl ?_
        exact k_X6_evening_128 C M r30 (fun x2 x3 x4 x6 x7 M' => f_X6_evening_102 M r30 n x2 x3 x4 x6 x7 M') hr30 ih x2 x3 x4 x6 x7 (0 : Int32) u11.2
      · refine r_iconst C (1) dX6_evening_123 rfl ?_
        refine r_goto C 128 dX6_evening_124 (by decide) ?_
        exact k_X6_evening_128 C M r30 (fun x2 x3 x4 x6 x7 M' => f_X6_evening_102 M r30 n x2 x3 x4 x6 x7 M') hr30 ih x2 x3 x4 x6 x7 (1 : Int32) u11.2
set_option maxRecDepth 100000 in
set_option maxHeartbeats 4000000 in
theorem k_X6_evening_30 {p : Program} {l : Launch} {e : Env} {s : State} {m : MethodId} {args : Array Value} {below : List Frame} {meth : Method} {c : Code} {dC : Nat → ClassId} {dI : Nat → Nat → Nat} {dA : Nat → ClassId} {A : Nat → Prop} {α : Nat → Nat} {t : Int32 × q_St} (C : q_Cx p s m args meth c cX6_evening 9 RX6 (some .int) "evening" dC dI dA A α) (M : q_St)  : ∀ (n : Nat) (x2 : Int32) (x3 : Int32) (x4 : Int32) (M' : q_St), q_S p l e (q_rm 6 136) s m args below meth c 9 dC dI dA A α (MQ below (q_Q α dC dI dA A ((fun u => some (.int u.1)) t) ((fun u => w_X6 u.2) t)) args s 0 0 A) 0 0 (f_X6_evening_30 M  n x2 x3 x4 M') t 30 [(0, .ref 50), (2, .int x2), (3, .int x3), (4, .int x4)] [] (w_X6 M') := by
  intro n
  induction n with
  | zero =>
    intro x2 x3 x4 M'
    exact r_cut (f_X6_evening_30.eq_1 _ _ _ _ _) (r_none True.intro)
  | succ n ih =>
    intro x2 x3 x4 M'
    refine r_cut (f_X6_evening_30.eq_2 _ _ _ _ _ _) ?_
    refine r_iload C 3 dX6_evening_30 rfl ?_
    refine r_aload_n C 0 dX6_evening_32 rfl ?_
    refine r_get C 0 0 dX6_evening_33 K_X6 rfl rfl (Nat.le_of_ble_eq_true rfl) rfl m_915 rfl ?_
    refine r_iconst C (1) dX6_evening_36 rfl ?_
    refine r_iald C 1 dX6_evening_37 rfl rfl (fun hi37 => ?_)
    refine r_icmp_ge C 172 dX6_evening_38 (by decide) (fun h38 => ?_) (fun h38 => ?_)
    · refine r_aload_n C 0 dX6_evening_172 rfl ?_
      refine r_get C 0 0 dX6_evening_173 K_X6 rfl rfl (Nat.le_of_ble_eq_true rfl) rfl m_915 rfl ?_
      refine r_iconst C (2) dX6_evening_176 rfl ?_
      refine r_iload_n C 1 dX6_evening_177 rfl ?_
      refine r_callS C (o_X6_leftOf l x2) v_X6_leftOf m_1175 [] [.int x2] [.int (2 : Int32), .ref 51] (fun u4 => [.int u4, .int (2 : Int32), .ref 51]) (fun u4 => [.inr (5, [.ref 51, .ref 52, .ref 53, .int (M'.1 3), .ref 54, .ref 55, .ref 56, .int (M'.1 7), .ref 57, .ref 58, .int (M'.1 10), .int (M'.1 11), .int (M'.1 12), .int (M'.1 13), .int (M'.1 14), .int (M'.1 15), .ref 59, .ref 60, .int (M'.1 18), .int (M'.1 19), .int (M'.1 20), .ref 61, .ref 62, .ref 63, .ref 64]), .inl (0, 68, .inl (M'.2 0)), .inl (0, 68, .inl (M'.2 1)), .inl (0, 68, .inl (M'.2 2)), .inl (0, 8, .inl (M'.2 4)), .inl (0, 1053, .inl (M'.2 5)), .inl (1, 972, .inl (M'.2 6)), .inl (0, 1053, .inl (M'.2 8)), .inl (0, 120, .inl (M'.2 9)), .inl (3, 7, .inr (.inr (.inr (.inr q_kf)))), .inl (0, 360, .inl (M'.2 17)), .inl (0, 4, .inl (M'.2 21)), .inl (0, 4, .inl (M'.2 22)), .inl (0, 160, .inl (M'.2 23)), .inl (0, 40, .inl (M'.2 24))]) rfl rfl rfl rfl rfl (Nat.le_of_ble_eq_true rfl) ⟨(Nat.le_of_ble_eq_true rfl), (Nat.le_of_ble_eq_true rfl)⟩ ⟨Nat.zero_le _, Nat.zero_le _⟩ dX6_evening_178 (fun _ => rfl) (fun _ => rfl) (fun _ => rfl) (fun u4 => ?_)
      refine r_iast C 1 _ dX6_evening_181 rfl rfl rfl (fun hi181 => ?_)
      refine r_aload_n C 0 dX6_evening_182 rfl ?_
      refine r_get C 0 0 dX6_evening_183 K_X6 rfl rfl (Nat.le_of_ble_eq_true rfl) rfl m_915 rfl ?_
      refine r_iconst C (3) dX6_evening_186 rfl ?_
      refine r_iload_n C 1 dX6_evening_187 rfl ?_
      refine r_callS C (o_X6_rightOf l x2) v_X6_rightOf m_1178 [] [.int x2] [.int (3 : Int32), .ref 51] (fun u5 => [.int u5, .int (3 : Int32), .ref 51]) (fun u5 => [.inr (5, [.ref 51, .ref 52, .ref 53, .int (M'.1 3), .ref 54, .ref 55, .ref 56, .int (M'.1 7), .ref 57, .ref 58, .int (M'.1 10), .int (M'.1 11), .int (M'.1 12), .int (M'.1 13), .int (M'.1 14), .int (M'.1 15), .ref 59, .ref 60, .int (M'.1 18), .int (M'.1 19), .int (M'.1 20), .ref 61, .ref 62, .ref 63, .ref 64]), .inl (0, 68, .inl ((upd (M'.2 0) (2 : Int32).toNatClampNeg u4))), .inl (0, 68, .inl (M'.2 1)), .inl (0, 68, .inl (M'.2 2)), .inl (0, 8, .inl (M'.2 4)), .inl (0, 1053, .inl (M'.2 5)), .inl (1, 972, .inl (M'.2 6)), .inl (0, 1053, .inl (M'.2 8)), .inl (0, 120, .inl (M'.2 9)), .inl (3, 7, .inr (.inr (.inr (.inr q_kf)))), .inl (0, 360, .inl (M'.2 17)), .inl (0, 4, .inl (M'.2 21)), .inl (0, 4, .inl (M'.2 22)), .inl (0, 160, .inl (M'.2 23)), .inl (0, 40, .inl (M'.2 24))]) rfl rfl rfl rfl rfl (Nat.le_of_ble_eq_true rfl) ⟨(Nat.le_of_ble_eq_true rfl), (Nat.le_of_ble_eq_true rfl)⟩ ⟨Nat.zero_le _, Nat.zero_le _⟩ dX6_evening_188 (fun _ => rfl) (fun _ => rfl) (fun _ => rfl) (fun u5 => ?_)
      refine r_iast C 1 _ dX6_evening_191 rfl rfl rfl (fun hi191 => ?_)
      refine r_aload_n C 0 dX6_evening_192 rfl ?_
      refine r_get C 0 0 dX6_evening_193 K_X6 rfl rfl (Nat.le_of_ble_eq_true rfl) rfl m_915 rfl ?_
      refine r_bipush C (6) dX6_evening_196 rfl ?_
      refine r_dup2 C dX6_evening_198 rfl rfl ?_
      refine r_iald C 1 dX6_evening_199 rfl rfl (fun hi199 => ?_)
      refine r_aload_n C 0 dX6_evening_200 rfl ?_
      refine r_get C 0 0 dX6_evening_201 K_X6 rfl rfl (Nat.le_of_ble_eq_true rfl) rfl m_915 rfl ?_
      refine r_iconst C (1) dX6_evening_204 rfl ?_
      refine r_iald C 1 dX6_evening_205 rfl rfl (fun hi205 => ?_)
      refine r_iadd C dX6_evening_206 ?_
      refine r_iast C 1 _ dX6_evening_207 rfl rfl rfl (fun hi207 => ?_)
      refine r_aload_n C 0 dX6_evening_208 rfl ?_
      refine r_get C 0 0 dX6_evening_209 K_X6 rfl rfl (Nat.le_of_ble_eq_true rfl) rfl m_915 rfl ?_
      refine r_bipush C (7) dX6_evening_212 rfl ?_
      refine r_dup2 C dX6_evening_214 rfl rfl ?_
      refine r_iald C 1 dX6_evening_215 rfl rfl (fun hi215 => ?_)
      refine r_iload_n C 2 dX6_evening_216 rfl ?_
      refine r_iadd C dX6_evening_217 ?_
      refine r_iast C 1 _ dX6_evening_218 rfl rfl rfl (fun hi218 => ?_)
      refine r_iload_n C 2 dX6_evening_219 rfl ?_
      exact r_reti (x := x3) (rv := (fun u => some (.int u.1))) (hpE := (fun u => w_X6 u.2)) (t0 := (x3, (M'.1, (va_up M'.2 0 (upd (upd (upd (upd (M'.2 0) (2 : Int32).toNatClampNeg u4) (3 : Int32).toNatClampNeg u5) (6 : Int32).toNatClampNeg (((upd (upd (M'.2 0) (2 : Int32).toNatClampNeg u4) (3 : Int32).toNatClampNeg u5) (6 : Int32).toNatClampNeg) + ((upd (upd (M'.2 0) (2 : Int32).toNatClampNeg u4) (3 : Int32).toNatClampNeg u5) (1 : Int32).toNatClampNeg))) (7 : Int32).toNatClampNeg (((upd (upd (upd (M'.2 0) (2 : Int32).toNatClampNeg u4) (3 : Int32).toNatClampNeg u5) (6 : Int32).toNatClampNeg (((upd (upd (M'.2 0) (2 : Int32).toNatClampNeg u4) (3 : Int32).toNatClampNeg u5) (6 : Int32).toNatClampNeg) + ((upd (upd (M'.2 0) (2 : Int32).toNatClampNeg u4) (3 : Int32).toNatClampNeg u5) (1 : Int32).toNatClampNeg))) (7 : Int32).toNatClampNeg) + x3)))))) C dX6_evening_220 (by rfl) (by rfl) (by rfl)
    · refine r_aload_n C 0 dX6_evening_41 rfl ?_
      refine r_iload_n C 1 dX6_evening_42 rfl ?_
      refine r_iload C 3 dX6_evening_43 rfl ?_
      refine r_iconst C (0) dX6_evening_45 rfl ?_
      refine r_callV0 C (o_X6_nextHold l M' x2 x4 (0 : Int32)) v_X6_nextHold m_1199 [.int x2, .int x4, .int (0 : Int32)] [] (50) (Or.inl ⟨0, 5, _, TX6, 25, rfl, rfl, rfl⟩) (fun u6 => [.int u6]) (fun u6 => [.inr (5, [.ref 51, .ref 52, .ref 53, .int (M'.1 3), .ref 54, .ref 55, .ref 56, .int (M'.1 7), .ref 57, .ref 58, .int (M'.1 10), .int (M'.1 11), .int (M'.1 12), .int (M'.1 13), .int (M'.1 14), .int (M'.1 15), .ref 59, .ref 60, .int (M'.1 18), .int (M'.1 19), .int (M'.1 20), .ref 61, .ref 62, .ref 63, .ref 64]), .inl (0, 68, .inl (M'.2 0)), .inl (0, 68, .inl (M'.2 1)), .inl (0, 68, .inl (M'.2 2)), .inl (0, 8, .inl (M'.2 4)), .inl (0, 1053, .inl (M'.2 5)), .inl (1, 972, .inl (M'.2 6)), .inl (0, 1053, .inl (M'.2 8)), .inl (0, 120, .inl (M'.2 9)), .inl (3, 7, .inr (.inr (.inr (.inr q_kf)))), .inl (0, 360, .inl (M'.2 17)), .inl (0, 4, .inl (M'.2 21)), .inl (0, 4, .inl (M'.2 22)), .inl (0, 160, .inl (M'.2 23)), .inl (0, 40, .inl (M'.2 24))]) rfl rfl rfl (Nat.le_of_ble_eq_true rfl) ⟨(Nat.le_of_ble_eq_true rfl), (Nat.le_of_ble_eq_true rfl)⟩ ⟨Nat.zero_le _, Nat.zero_le _⟩ dX6_evening_46 (fun _ => rfl) (fun _ => rfl) (fun _ => rfl) (fun u6 => ?_)
      refine r_istore C [(5, .int u6), (0, .ref 50), (2, .int x2), (3, .int x3), (4, .int x4)] dX6_evening_49 (Nat.le_of_ble_eq_true rfl) rfl ?_
      refine r_aload_n C 1 dX6_evening_51 rfl ?_
      refine r_get C 0 0 dX6_evening_52 K_X6 rfl rfl (Nat.le_of_ble_eq_true rfl) rfl m_915 rfl ?_
      refine r_iconst C (4) dX6_evening_55 rfl ?_
      refine r_dup2 C dX6_evening_56 rfl rfl ?_
      refine r_iald C 1 dX6_evening_57 rfl rfl (fun hi57 => ?_)
      refine r_aload_n C 1 dX6_evening_58 rfl ?_
      refine r_iload_n C 2 dX6_evening_59 rfl ?_
      refine r_iload C 0 dX6_evening_60 rfl ?_
      refine r_iconst C (0) dX6_evening_62 rfl ?_
      refine r_callV0 C (o_X6_worthBetween l M' x2 u6 (0 : Int32)) v_X6_worthBetween m_1186 [.int x2, .int u6, .int (0 : Int32)] [.int (M'.2 0 (4 : Int32).toNatClampNeg), .int (4 : Int32), .ref 51] (50) (Or.inl ⟨0, 5, _, TX6, 25, rfl, rfl, rfl⟩) (fun u7 => [.int u7, .int (M'.2 0 (4 : Int32).toNatClampNeg), .int (4 : Int32), .ref 51]) (fun u7 => [.inr (5, [.ref 51, .ref 52, .ref 53, .int (M'.1 3), .ref 54, .ref 55, .ref 56, .int (M'.1 7), .ref 57, .ref 58, .int (M'.1 10), .int (M'.1 11), .int (M'.1 12), .int (M'.1 13), .int (M'.1 14), .int (M'.1 15), .ref 59, .ref 60, .int (M'.1 18), .int (M'.1 19), .int (M'.1 20), .ref 61, .ref 62, .ref 63, .ref 64]), .inl (0, 68, .inl (M'.2 0)), .inl (0, 68, .inl (M'.2 1)), .inl (0, 68, .inl (M'.2 2)), .inl (0, 8, .inl (M'.2 4)), .inl (0, 1053, .inl (M'.2 5)), .inl (1, 972, .inl (M'.2 6)), .inl (0, 1053, .inl (M'.2 8)), .inl (0, 120, .inl (M'.2 9)), .inl (3, 7, .inr (.inr (.inr (.inr q_kf)))), .inl (0, 360, .inl (M'.2 17)), .inl (0, 4, .inl (M'.2 21)), .inl (0, 4, .inl (M'.2 22)), .inl (0, 160, .inl (M'.2 23)), .inl (0, 40, .inl (M'.2 24))]) rfl rfl rfl (Nat.le_of_ble_eq_true rfl) ⟨(Nat.le_of_ble_eq_true rfl), (Nat.le_of_ble_eq_true rfl)⟩ ⟨Nat.zero_le _, Nat.zero_le _⟩ dX6_evening_63 (fun _ => rfl) (fun _ => rfl) (fun _ => rfl) (fun u7 => ?_)
      refine r_iadd C dX6_evening_66 ?_
      refine r_iast C 1 _ dX6_evening_67 rfl rfl rfl (fun hi67 => ?_)
      refine r_aload_n C 1 dX6_evening_68 rfl ?_
      refine r_get C 0 0 dX6_evening_69 K_X6 rfl rfl (Nat.le_of_ble_eq_true rfl) rfl m_915 rfl ?_
      refine r_iconst C (5) dX6_evening_72 rfl ?_
      refine r_dup2 C dX6_evening_73 rfl rfl ?_
      refine r_iald C 1 dX6_evening_74 rfl rfl (fun hi74 => ?_)
      refine r_aload_n C 1 dX6_evening_75 rfl ?_
      refine r_iload_n C 2 dX6_evening_76 rfl ?_
      refine r_iload C 0 dX6_evening_77 rfl ?_
      refine r_iconst C (1) dX6_evening_79 rfl ?_
      refine r_callV0 C (o_X6_worthBetween l (M'.1, (va_up M'.2 0 (upd (M'.2 0) (4 : Int32).toNatClampNeg ((M'.2 0 (4 : Int32).toNatClampNeg) + u7)))) x2 u6 (1 : Int32)) v_X6_worthBetween m_1186 [.int x2, .int u6, .int (1 : Int32)] [.int ((upd (M'.2 0) (4 : Int32).toNatClampNeg ((M'.2 0 (4 : Int32).toNatClampNeg) + u7)) (5 : Int32).toNatClampNeg), .int (5 : Int32), .ref 51] (50) (Or.inl ⟨0, 5, _, TX6, 25, rfl, rfl, rfl⟩) (fun u8 => [.int u8, .int ((upd (M'.2 0) (4 : Int32).toNatClampNeg ((M'.2 0 (4 : Int32).toNatClampNeg) + u7)) (5 : Int32).toNatClampNeg), .int (5 : Int32), .ref 51]) (fun u8 => [.inr (5, [.ref 51, .ref 52, .ref 53, .int (M'.1 3), .ref 54, .ref 55, .ref 56, .int (M'.1 7), .ref 57, .ref 58, .int (M'.1 10), .int (M'.1 11), .int (M'.1 12), .int (M'.1 13), .int (M'.1 14), .int (M'.1 15), .ref 59, .ref 60, .int (M'.1 18), .int (M'.1 19), .int (M'.1 20), .ref 61, .ref 62, .ref 63, .ref 64]), .inl (0, 68, .inl ((upd (M'.2 0) (4 : Int32).toNatClampNeg ((M'.2 0 (4 : Int32).toNatClampNeg) + u7)))), .inl (0, 68, .inl (M'.2 1)), .inl (0, 68, .inl (M'.2 2)), .inl (0, 8, .inl (M'.2 4)), .inl (0, 1053, .inl (M'.2 5)), .inl (1, 972, .inl (M'.2 6)), .inl (0, 1053, .inl (M'.2 8)), .inl (0, 120, .inl (M'.2 9)), .inl (3, 7, .inr (.inr (.inr (.inr q_kf)))), .inl (0, 360, .inl (M'.2 17)), .inl (0, 4, .inl (M'.2 21)), .inl (0, 4, .inl (M'.2 22)), .inl (0, 160, .inl (M'.2 23)), .inl (0, 40, .inl (M'.2 24))]) rfl rfl rfl (Nat.le_of_ble_eq_true rfl) ⟨(Nat.le_of_ble_eq_true rfl), (Nat.le_of_ble_eq_true rfl)⟩ ⟨Nat.zero_le _, Nat.zero_le _⟩ dX6_evening_80 (fun _ => rfl) (fun _ => rfl) (fun _ => rfl) (fun u8 => ?_)
      refine r_iadd C dX6_evening_83 ?_
      refine r_iast C 1 _ dX6_evening_84 rfl rfl rfl (fun hi84 => ?_)
      refine r_iload C 0 dX6_evening_85 rfl ?_
      refine r_istore_n C [(2, .int u6), (5, .int u6), (0, .ref 50), (3, .int x3), (4, .int x4)] dX6_evening_87 (Nat.le_of_ble_eq_true rfl) rfl ?_
      refine r_iconst C (0) dX6_evening_88 rfl ?_
      refine r_istore C [(6, .int (0 : Int32)), (2, .int u6), (5, .int u6), (0, .ref 50), (3, .int x3), (4, .int x4)] dX6_evening_89 (Nat.le_of_ble_eq_true rfl) rfl ?_
      refine r_aload_n C 3 dX6_evening_91 rfl ?_
      refine r_iload C 5 dX6_evening_92 rfl ?_
      refine r_callV0 C (o_X6_dogsIn l (M'.1, (va_up M'.2 0 (upd (upd (M'.2 0) (4 : Int32).toNatClampNeg ((M'.2 0 (4 : Int32).toNatClampNeg) + u7)) (5 : Int32).toNatClampNeg (((upd (M'.2 0) (4 : Int32).toNatClampNeg ((M'.2 0 (4 : Int32).toNatClampNeg) + u7)) (5 : Int32).toNatClampNeg) + u8)))) x4) v_X6_dogsIn m_1279 [.int x4] [] (50) (Or.inl ⟨0, 5, _, TX6, 25, rfl, rfl, rfl⟩) (fun u9 => [.int u9]) (fun u9 => [.inr (5, [.ref 51, .ref 52, .ref 53, .int (M'.1 3), .ref 54, .ref 55, .ref 56, .int (M'.1 7), .ref 57, .ref 58, .int (M'.1 10), .int (M'.1 11), .int (M'.1 12), .int (M'.1 13), .int (M'.1 14), .int (M'.1 15), .ref 59, .ref 60, .int (M'.1 18), .int (M'.1 19), .int (M'.1 20), .ref 61, .ref 62, .ref 63, .ref 64]), .inl (0, 68, .inl ((upd (upd (M'.2 0) (4 : Int32).toNatClampNeg ((M'.2 0 (4 : Int32).toNatClampNeg) + u7)) (5 : Int32).toNatClampNeg (((upd (M'.2 0) (4 : Int32).toNatClampNeg ((M'.2 0 (4 : Int32).toNatClampNeg) + u7)) (5 : Int32).toNatClampNeg) + u8)))), .inl (0, 68, .inl (M'.2 1)), .inl (0, 68, .inl (M'.2 2)), .inl (0, 8, .inl (M'.2 4)), .inl (0, 1053, .inl (M'.2 5)), .inl (1, 972, .inl (M'.2 6)), .inl (0, 1053, .inl (M'.2 8)), .inl (0, 120, .inl (M'.2 9)), .inl (3, 7, .inr (.inr (.inr (.inr q_kf)))), .inl (0, 360, .inl (M'.2 17)), .inl (0, 4, .inl (M'.2 21)), .inl (0, 4, .inl (M'.2 22)), .inl (0, 160, .inl (M'.2 23)), .inl (0, 40, .inl (M'.2 24))]) rfl rfl rfl (Nat.le_of_ble_eq_true rfl) ⟨(Nat.le_of_ble_eq_true rfl), (Nat.le_of_ble_eq_true rfl)⟩ ⟨Nat.zero_le _, Nat.zero_le _⟩ dX6_evening_94 (fun _ => rfl) (fun _ => rfl) (fun _ => rfl) (fun u9 => ?_)
      refine r_callS C (o_X6_bits l u9) v_X6_bits m_1097 [] [.int u9] [] (fun u10 => [.int u10]) (fun u10 => [.inr (5, [.ref 51, .ref 52, .ref 53, .int (M'.1 3), .ref 54, .ref 55, .ref 56, .int (M'.1 7), .ref 57, .ref 58, .int (M'.1 10), .int (M'.1 11), .int (M'.1 12), .int (M'.1 13), .int (M'.1 14), .int (M'.1 15), .ref 59, .ref 60, .int (M'.1 18), .int (M'.1 19), .int (M'.1 20), .ref 61, .ref 62, .ref 63, .ref 64]), .inl (0, 68, .inl ((upd (upd (M'.2 0) (4 : Int32).toNatClampNeg ((M'.2 0 (4 : Int32).toNatClampNeg) + u7)) (5 : Int32).toNatClampNeg (((upd (M'.2 0) (4 : Int32).toNatClampNeg ((M'.2 0 (4 : Int32).toNatClampNeg) + u7)) (5 : Int32).toNatClampNeg) + u8)))), .inl (0, 68, .inl (M'.2 1)), .inl (0, 68, .inl (M'.2 2)), .inl (0, 8, .inl (M'.2 4)), .inl (0, 1053, .inl (M'.2 5)), .inl (1, 972, .inl (M'.2 6)), .inl (0, 1053, .inl (M'.2 8)), .inl (0, 120, .inl (M'.2 9)), .inl (3, 7, .inr (.inr (.inr (.inr q_kf)))), .inl (0, 360, .inl (M'.2 17)), .inl (0, 4, .inl (M'.2 21)), .inl (0, 4, .inl (M'.2 22)), .inl (0, 160, .inl (M'.2 23)), .inl (0, 40, .inl (M'.2 24))]) rfl rfl rfl rfl rfl (Nat.le_of_ble_eq_true rfl) ⟨(Nat.le_of_ble_eq_true rfl), (Nat.le_of_ble_eq_true rfl)⟩ ⟨Nat.zero_le _, Nat.zero_le _⟩ dX6_evening_97 (fun _ => rfl) (fun _ => rfl) (fun _ => rfl) (fun u10 => ?_)
      refine r_istore C [(7, .int u10), (6, .int (0 : Int32)), (2, .int u6), (5, .int u6), (0, .ref 50), (3, .int x3), (4, .int x4)] dX6_evening_100 (Nat.le_of_ble_eq_true rfl) rfl ?_
      refine r_lv [(0, .ref 50), (2, .int u6), (3, .int x3), (4, .int x4), (6, .int (0 : Int32)), (7, .int u10)] [4, 2, 5, 6, 1, 0] rfl ?_
      exact k_X6_evening_102 C M (fun x2 x3 x4 M' => f_X6_evening_30 M  n x2 x3 x4 M') ih q_N u6 x3 x4 (0 : Int32) u10 (M'.1, (va_up M'.2 0 (upd (upd (M'.2 0) (4 : Int32).toNatClampNeg ((M'.2 0 (4 : Int32).toNatClampNeg) + u7)) (5 : Int32).toNatClampNeg (((upd (M'.2 0) (4 : Int32).toNatClampNeg ((M'.2 0 (4 : Int32).toNatClampNeg) + u7)) (5 : Int32).toNatClampNeg) + u8))))
set_option maxRecDepth 100000 in
set_option maxHeartbeats 4000000 in
theorem o_X6_evening (l : Launch) (M : q_St) : q_Ok l yX6_evening cX6_evening 9 (some .int) 6 136 [.ref 50] (w_X6 M) (f_X6_evening M) (fun u => some (.int u.1)) (fun u => w_X6 u.2) := by
  refine q_enter (by decide +kernel) (Nat.le_of_ble_eq_true rfl) (fun t p e s m args below meth c dC dI dA A α C => ?_)
  refine r_cut (f_X6_evening.eq_1 _) ?_
  show q_S p l e (q_rm 6 136) s m args below meth c 9 dC dI dA A α (MQ below (q_Q α dC dI dA A ((fun u => some (.int u.1)) t) ((fun u => w_X6 u.2) t)) args s 0 0 A) 0 0 _ t 0 [(0, .ref 50)] [] (w_X6 M)
  refine r_aload_n C 0 dX6_evening_0 rfl ?_
  refine r_aload_n C 0 dX6_evening_1 rfl ?_
  refine r_callV0 C (o_X6_allBeats l M) v_X6_allBeats m_1167 [] [.ref 50] (50) (Or.inl ⟨0, 5, _, TX6, 25, rfl, rfl, rfl⟩) (fun u1 => [.int u1, .ref 50]) (fun u1 => [.inr (5, [.ref 51, .ref 52, .ref 53, .int (M.1 3), .ref 54, .ref 55, .ref 56, .int (M.1 7), .ref 57, .ref 58, .int (M.1 10), .int (M.1 11), .int (M.1 12), .int (M.1 13), .int (M.1 14), .int (M.1 15), .ref 59, .ref 60, .int (M.1 18), .int (M.1 19), .int (M.1 20), .ref 61, .ref 62, .ref 63, .ref 64]), .inl (0, 68, .inl (M.2 0)), .inl (0, 68, .inl (M.2 1)), .inl (0, 68, .inl (M.2 2)), .inl (0, 8, .inl (M.2 4)), .inl (0, 1053, .inl (M.2 5)), .inl (1, 972, .inl (M.2 6)), .inl (0, 1053, .inl (M.2 8)), .inl (0, 120, .inl (M.2 9)), .inl (3, 7, .inr (.inr (.inr (.inr q_kf)))), .inl (0, 360, .inl (M.2 17)), .inl (0, 4, .inl (M.2 21)), .inl (0, 4, .inl (M.2 22)), .inl (0, 160, .inl (M.2 23)), .inl (0, 40, .inl (M.2 24))]) rfl rfl rfl (Nat.le_of_ble_eq_true rfl) ⟨(Nat.le_of_ble_eq_true rfl), (Nat.le_of_ble_eq_true rfl)⟩ ⟨Nat.zero_le _, Nat.zero_le _⟩ dX6_evening_2 (fun _ => rfl) (fun _ => rfl) (fun _ => rfl) (fun u1 => ?_)
  refine r_iconst C (0) dX6_evening_5 rfl ?_
  refine r_callV0 C (o_X6_findWay l M u1 (0 : Int32)) v_X6_findWay m_1171 [.int u1, .int (0 : Int32)] [] (50) (Or.inl ⟨0, 5, _, TX6, 25, rfl, rfl, rfl⟩) (fun u2 => [.int u2.1]) (fun u2 => [.inr (5, [.ref 51, .ref 52, .ref 53, .int (u2.2.1 3), .ref 54, .ref 55, .ref 56, .int (u2.2.1 7), .ref 57, .ref 58, .int (u2.2.1 10), .int (u2.2.1 11), .int (u2.2.1 12), .int (u2.2.1 13), .int (u2.2.1 14), .int (u2.2.1 15), .ref 59, .ref 60, .int (u2.2.1 18), .int (u2.2.1 19), .int (u2.2.1 20), .ref 61, .ref 62, .ref 63, .ref 64]), .inl (0, 68, .inl (u2.2.2 0)), .inl (0, 68, .inl (u2.2.2 1)), .inl (0, 68, .inl (u2.2.2 2)), .inl (0, 8, .inl (u2.2.2 4)), .inl (0, 1053, .inl (u2.2.2 5)), .inl (1, 972, .inl (u2.2.2 6)), .inl (0, 1053, .inl (u2.2.2 8)), .inl (0, 120, .inl (u2.2.2 9)), .inl (3, 7, .inr (.inr (.inr (.inr q_kf)))), .inl (0, 360, .inl (u2.2.2 17)), .inl (0, 4, .inl (u2.2.2 21)), .inl (0, 4, .inl (u2.2.2 22)), .inl (0, 160, .inl (u2.2.2 23)), .inl (0, 40, .inl (u2.2.2 24))]) rfl rfl rfl (Nat.le_of_ble_eq_true rfl) ⟨(Nat.le_of_ble_eq_true rfl), (Nat.le_of_ble_eq_true rfl)⟩ ⟨Nat.zero_le _, Nat.zero_le _⟩ dX6_evening_6 (fun _ => rfl) (fun _ => rfl) (fun _ => rfl) (fun u2 => ?_)
  refine r_istore_n C [(1, .int u2.1), (0, .ref 50)] dX6_evening_9 (Nat.le_of_ble_eq_true rfl) rfl ?_
  refine r_iload_n C 0 dX6_evening_10 rfl ?_
  refine r_ldc C (1000000) dX6_evening_11 m_1185 ?_
  refine r_icmp_ge C 23 dX6_evening_13 (by decide) (fun h13 => ?_) (fun h13 => ?_)
  · refine r_iconst C (0) dX6_evening_23 rfl ?_
    refine r_istore_n C [(2, .int (0 : Int32)), (1, .int u2.1), (0, .ref 50)] dX6_evening_24 (Nat.le_of_ble_eq_true rfl) rfl ?_
    refine r_iconst C (0) dX6_evening_25 rfl ?_
    refine r_istore_n C [(3, .int (0 : Int32)), (2, .int (0 : Int32)), (1, .int u2.1), (0, .ref 50)] dX6_evening_26 (Nat.le_of_ble_eq_true rfl) rfl ?_
    refine r_iconst C (0) dX6_evening_27 rfl ?_
    refine r_istore C [(4, .int (0 : Int32)), (3, .int (0 : Int32)), (2, .int (0 : Int32)), (1, .int u2.1), (0, .ref 50)] dX6_evening_28 (Nat.le_of_ble_eq_true rfl) rfl ?_
    refine r_lv [(0, .ref 50), (2, .int (0 : Int32)), (3, .int (0 : Int32)), (4, .int (0 : Int32))] [4, 2, 1, 0] rfl ?_
    exact k_X6_evening_30 C M   q_N (0 : Int32) (0 : Int32) (0 : Int32) u2.2
  · refine r_aload_n C 1 dX6_evening_16 rfl ?_
    refine r_callV0 C (o_X6_holdNow l u2.2) v_X6_holdNow m_1191 [] [] (50) (Or.inl ⟨0, 5, _, TX6, 25, rfl, rfl, rfl⟩) (fun u3 => [.int u3]) (fun u3 => [.inr (5, [.ref 51, .ref 52, .ref 53, .int (u2.2.1 3), .ref 54, .ref 55, .ref 56, .int (u2.2.1 7), .ref 57, .ref 58, .int (u2.2.1 10), .int (u2.2.1 11), .int (u2.2.1 12), .int (u2.2.1 13), .int (u2.2.1 14), .int (u2.2.1 15), .ref 59, .ref 60, .int (u2.2.1 18), .int (u2.2.1 19), .int (u2.2.1 20), .ref 61, .ref 62, .ref 63, .ref 64]), .inl (0, 68, .inl (u2.2.2 0)), .inl (0, 68, .inl (u2.2.2 1)), .inl (0, 68, .inl (u2.2.2 2)), .inl (0, 8, .inl (u2.2.2 4)), .inl (0, 1053, .inl (u2.2.2 5)), .inl (1, 972, .inl (u2.2.2 6)), .inl (0, 1053, .inl (u2.2.2 8)), .inl (0, 120, .inl (u2.2.2 9)), .inl (3, 7, .inr (.inr (.inr (.inr q_kf)))), .inl (0, 360, .inl (u2.2.2 17)), .inl (0, 4, .inl (u2.2.2 21)), .inl (0, 4, .inl (u2.2.2 22)), .inl (0, 160, .inl (u2.2.2 23)), .inl (0, 40, .inl (u2.2.2 24))]) rfl rfl rfl (Nat.le_of_ble_eq_true rfl) ⟨(Nat.le_of_ble_eq_true rfl), (Nat.le_of_ble_eq_true rfl)⟩ ⟨Nat.zero_le _, Nat.zero_le _⟩ dX6_evening_17 (fun _ => rfl) (fun _ => rfl) (fun _ => rfl) (fun u3 => ?_)
    refine r_goto C 24 dX6_evening_20 (by decide) ?_
    refine r_istore_n C [(2, .int u3), (1, .int u2.1), (0, .ref 50)] dX6_evening_24 (Nat.le_of_ble_eq_true rfl) rfl ?_
    refine r_iconst C (0) dX6_evening_25 rfl ?_
    refine r_istore_n C [(3, .int (0 : Int32)), (2, .int u3), (1, .int u2.1), (0, .ref 50)] dX6_evening_26 (Nat.le_of_ble_eq_true rfl) rfl ?_
    refine r_iconst C (0) dX6_evening_27 rfl ?_
    refine r_istore C [(4, .int (0 : Int32)), (3, .int (0 : Int32)), (2, .int u3), (1, .int u2.1), (0, .ref 50)] dX6_evening_28 (Nat.le_of_ble_eq_true rfl) rfl ?_
    refine r_lv [(0, .ref 50), (2, .int u3), (3, .int (0 : Int32)), (4, .int (0 : Int32))] [4, 2, 1, 0] rfl ?_
    exact k_X6_evening_30 C M   q_N u3 (0 : Int32) (0 : Int32) u2.2
