set_option maxRecDepth 100000 in
set_option maxHeartbeats 4000000 in
theorem o_X6_isSo (l : Launch) (M : q_St) (a1 : Int32) : q_Ok l yX6_isSo cX6_isSo 4 (some .int) 3 66 [.ref 50, .int a1] (w_X6 M) (f_X6_isSo M a1) (fun u => some (.int u.1)) (fun u => w_X6 u.2) := by
  refine q_enter (by decide +kernel) (Nat.le_of_ble_eq_true rfl) (fun t p e s m args below meth c dC dI dA A α C => ?_)
  refine r_cut (f_X6_isSo.eq_1 _ _) ?_
  show q_S p l e (q_rm 3 66) s m args below meth c 4 dC dI dA A α (MQ below (q_Q α dC dI dA A ((fun u => some (.int u.1)) t) ((fun u => w_X6 u.2) t)) args s 0 0 A) 0 0 _ t 0 [(0, .ref 50), (1, .int a1)] [] (w_X6 M)
  refine r_aload_n C 0 dX6_isSo_0 rfl ?_
  refine r_get C 0 17 dX6_isSo_1 K_X6 rfl rfl (Nat.le_of_ble_eq_true rfl) rfl m_932 rfl ?_
  refine r_iload_n C 1 dX6_isSo_4 rfl ?_
  refine r_iconst C (1) dX6_isSo_5 rfl ?_
  refine r_iadd C dX6_isSo_6 ?_
  refine r_iald C 10 dX6_isSo_7 rfl rfl (fun hi7 => ?_)
  refine r_istore_n C [(2, .int (M.2 17 (a1 + (1 : Int32)).toNatClampNeg)), (0, .ref 50), (1, .int a1)] dX6_isSo_8 (Nat.le_of_ble_eq_true rfl) rfl ?_
  refine r_aload_n C 1 dX6_isSo_9 rfl ?_
  refine r_get C 0 17 dX6_isSo_10 K_X6 rfl rfl (Nat.le_of_ble_eq_true rfl) rfl m_932 rfl ?_
  refine r_iload_n C 2 dX6_isSo_13 rfl ?_
  refine r_iconst C (2) dX6_isSo_14 rfl ?_
  refine r_iadd C dX6_isSo_15 ?_
  refine r_iald C 10 dX6_isSo_16 rfl rfl (fun hi16 => ?_)
  refine r_istore_n C [(3, .int (M.2 17 (a1 + (2 : Int32)).toNatClampNeg)), (2, .int (M.2 17 (a1 + (1 : Int32)).toNatClampNeg)), (0, .ref 50), (1, .int a1)] dX6_isSo_17 (Nat.le_of_ble_eq_true rfl) rfl ?_
  refine r_aload_n C 2 dX6_isSo_18 rfl ?_
  refine r_get C 0 17 dX6_isSo_19 K_X6 rfl rfl (Nat.le_of_ble_eq_true rfl) rfl m_932 rfl ?_
  refine r_iload_n C 3 dX6_isSo_22 rfl ?_
  refine r_iald C 10 dX6_isSo_23 rfl rfl (fun hi23 => ?_)
  refine r_tsw C (10) 52 dX6_isSo_24 (by decide) (by decide) rfl (by decide) (fun h24_10 => ?_) (fun h24_10 => ?_)
  · refine r_aload_n C 2 dX6_isSo_52 rfl ?_
    refine r_iload_n C 1 dX6_isSo_53 rfl ?_
    refine r_iload_n C 0 dX6_isSo_54 rfl ?_
    refine r_callV0 C (o_X6_comesBeat l M (M.2 17 (a1 + (1 : Int32)).toNatClampNeg) (M.2 17 (a1 + (2 : Int32)).toNatClampNeg)) v_X6_comesBeat m_1078 [.int (M.2 17 (a1 + (1 : Int32)).toNatClampNeg), .int (M.2 17 (a1 + (2 : Int32)).toNatClampNeg)] [] (50) (Or.inl ⟨0, 5, _, TX6, 25, rfl, rfl, rfl⟩) (fun u1 => [.int u1.1]) (fun u1 => [.inr (5, [.ref 51, .ref 52, .ref 53, .int (u1.2.1 3), .ref 54, .ref 55, .ref 56, .int (u1.2.1 7), .ref 57, .ref 58, .int (u1.2.1 10), .int (u1.2.1 11), .int (u1.2.1 12), .int (u1.2.1 13), .int (u1.2.1 14), .int (u1.2.1 15), .ref 59, .ref 60, .int (u1.2.1 18), .int (u1.2.1 19), .int (u1.2.1 20), .ref 61, .ref 62, .ref 63, .ref 64]), .inl (0, 68, .inl (u1.2.2 0)), .inl (0, 68, .inl (u1.2.2 1)), .inl (0, 68, .inl (u1.2.2 2)), .inl (0, 8, .inl (u1.2.2 4)), .inl (0, 1053, .inl (u1.2.2 5)), .inl (1, 972, .inl (u1.2.2 6)), .inl (0, 1053, .inl (u1.2.2 8)), .inl (0, 120, .inl (u1.2.2 9)), .inl (3, 7, .inr (.inr (.inr (.inr q_kf)))), .inl (0, 360, .inl (u1.2.2 17)), .inl (0, 4, .inl (u1.2.2 21)), .inl (0, 4, .inl (u1.2.2 22)), .inl (0, 160, .inl (u1.2.2 23)), .inl (0, 40, .inl (u1.2.2 24))]) rfl rfl rfl (Nat.le_of_ble_eq_true rfl) ⟨(Nat.le_of_ble_eq_true rfl), (Nat.le_of_ble_eq_true rfl)⟩ ⟨Nat.zero_le _, Nat.zero_le _⟩ dX6_isSo_55 (fun _ => rfl) (fun _ => rfl) (fun _ => rfl) (fun u1 => ?_)
    exact r_reti (x := u1.1) (rv := (fun u => some (.int u.1))) (hpE := (fun u => w_X6 u.2)) (t0 := (u1.1, u1.2)) C dX6_isSo_58 (by rfl) (by rfl) (by rfl)
  refine r_tsw C (11) 59 dX6_isSo_24 (by decide) (by decide) rfl (by decide) (fun h24_11 => ?_) (fun h24_11 => ?_)
  · refine r_aload_n C 2 dX6_isSo_59 rfl ?_
    refine r_bipush C (8) dX6_isSo_60 rfl ?_
    refine r_iload_n C 1 dX6_isSo_62 rfl ?_
    refine r_callV0 C (o_X6_become l M (8 : Int32) (M.2 17 (a1 + (1 : Int32)).toNatClampNeg)) v_X6_become m_1050 [.int (8 : Int32), .int (M.2 17 (a1 + (1 : Int32)).toNatClampNeg)] [] (50) (Or.inl ⟨0, 5, _, TX6, 25, rfl, rfl, rfl⟩) (fun u2 => [.int u2.1]) (fun u2 => [.inr (5, [.ref 51, .ref 52, .ref 53, .int (u2.2.1 3), .ref 54, .ref 55, .ref 56, .int (u2.2.1 7), .ref 57, .ref 58, .int (u2.2.1 10), .int (u2.2.1 11), .int (u2.2.1 12), .int (u2.2.1 13), .int (u2.2.1 14), .int (u2.2.1 15), .ref 59, .ref 60, .int (u2.2.1 18), .int (u2.2.1 19), .int (u2.2.1 20), .ref 61, .ref 62, .ref 63, .ref 64]), .inl (0, 68, .inl (u2.2.2 0)), .inl (0, 68, .inl (u2.2.2 1)), .inl (0, 68, .inl (u2.2.2 2)), .inl (0, 8, .inl (u2.2.2 4)), .inl (0, 1053, .inl (u2.2.2 5)), .inl (1, 972, .inl (u2.2.2 6)), .inl (0, 1053, .inl (u2.2.2 8)), .inl (0, 120, .inl (u2.2.2 9)), .inl (3, 7, .inr (.inr (.inr (.inr q_kf)))), .inl (0, 360, .inl (u2.2.2 17)), .inl (0, 4, .inl (u2.2.2 21)), .inl (0, 4, .inl (u2.2.2 22)), .inl (0, 160, .inl (u2.2.2 23)), .inl (0, 40, .inl (u2.2.2 24))]) rfl rfl rfl (Nat.le_of_ble_eq_true rfl) ⟨(Nat.le_of_ble_eq_true rfl), (Nat.le_of_ble_eq_true rfl)⟩ ⟨Nat.zero_le _, Nat.zero_le _⟩ dX6_isSo_63 (fun _ => rfl) (fun _ => rfl) (fun _ => rfl) (fun u2 => ?_)
    exact r_reti (x := u2.1) (rv := (fun u => some (.int u.1))) (hpE := (fun u => w_X6 u.2)) (t0 := (u2.1, u2.2)) C dX6_isSo_66 (by rfl) (by rfl) (by rfl)
  refine r_tsw C (12) 67 dX6_isSo_24 (by decide) (by decide) rfl (by decide) (fun h24_12 => ?_) (fun h24_12 => ?_)
  · refine r_aload_n C 2 dX6_isSo_67 rfl ?_
    refine r_iload_n C 1 dX6_isSo_68 rfl ?_
    refine r_iload_n C 0 dX6_isSo_69 rfl ?_
    refine r_callV0 C (o_X6_swapsHooks l M (M.2 17 (a1 + (1 : Int32)).toNatClampNeg) (M.2 17 (a1 + (2 : Int32)).toNatClampNeg)) v_X6_swapsHooks m_1058 [.int (M.2 17 (a1 + (1 : Int32)).toNatClampNeg), .int (M.2 17 (a1 + (2 : Int32)).toNatClampNeg)] [] (50) (Or.inl ⟨0, 5, _, TX6, 25, rfl, rfl, rfl⟩) (fun u3 => [.int u3.1]) (fun u3 => [.inr (5, [.ref 51, .ref 52, .ref 53, .int (u3.2.1 3), .ref 54, .ref 55, .ref 56, .int (u3.2.1 7), .ref 57, .ref 58, .int (u3.2.1 10), .int (u3.2.1 11), .int (u3.2.1 12), .int (u3.2.1 13), .int (u3.2.1 14), .int (u3.2.1 15), .ref 59, .ref 60, .int (u3.2.1 18), .int (u3.2.1 19), .int (u3.2.1 20), .ref 61, .ref 62, .ref 63, .ref 64]), .inl (0, 68, .inl (u3.2.2 0)), .inl (0, 68, .inl (u3.2.2 1)), .inl (0, 68, .inl (u3.2.2 2)), .inl (0, 8, .inl (u3.2.2 4)), .inl (0, 1053, .inl (u3.2.2 5)), .inl (1, 972, .inl (u3.2.2 6)), .inl (0, 1053, .inl (u3.2.2 8)), .inl (0, 120, .inl (u3.2.2 9)), .inl (3, 7, .inr (.inr (.inr (.inr q_kf)))), .inl (0, 360, .inl (u3.2.2 17)), .inl (0, 4, .inl (u3.2.2 21)), .inl (0, 4, .inl (u3.2.2 22)), .inl (0, 160, .inl (u3.2.2 23)), .inl (0, 40, .inl (u3.2.2 24))]) rfl rfl rfl (Nat.le_of_ble_eq_true rfl) ⟨(Nat.le_of_ble_eq_true rfl), (Nat.le_of_ble_eq_true rfl)⟩ ⟨Nat.zero_le _, Nat.zero_le _⟩ dX6_isSo_70 (fun _ => rfl) (fun _ => rfl) (fun _ => rfl) (fun u3 => ?_)
    exact r_reti (x := u3.1) (rv := (fun u => some (.int u.1))) (hpE := (fun u => w_X6 u.2)) (t0 := (u3.1, u3.2)) C dX6_isSo_73 (by rfl) (by rfl) (by rfl)
  have g0 := True.intro
  have g24_10 := q_neI h24_10 (z := 10) (by decide)
  have g24_11 := q_neI h24_11 (z := 11) (by decide)
  have g24_12 := q_neI h24_12 (z := 12) (by decide)
  refine r_tswD C 74 dX6_isSo_24 (by omega) (by decide) ?_
  refine r_aload_n C 2 dX6_isSo_74 rfl ?_
  refine r_aload_n C 2 dX6_isSo_75 rfl ?_
  refine r_get C 0 17 dX6_isSo_76 K_X6 rfl rfl (Nat.le_of_ble_eq_true rfl) rfl m_932 rfl ?_
  refine r_iload_n C 3 dX6_isSo_79 rfl ?_
  refine r_iald C 10 dX6_isSo_80 rfl rfl (fun hi80 => ?_)
  refine r_iload_n C 1 dX6_isSo_81 rfl ?_
  refine r_callV0 C (o_X6_comes l M (M.2 17 a1.toNatClampNeg) (M.2 17 (a1 + (1 : Int32)).toNatClampNeg)) v_X6_comes m_1008 [.int (M.2 17 a1.toNatClampNeg), .int (M.2 17 (a1 + (1 : Int32)).toNatClampNeg)] [] (50) (Or.inl ⟨0, 5, _, TX6, 25, rfl, rfl, rfl⟩) (fun u4 => [.int u4.1]) (fun u4 => [.inr (5, [.ref 51, .ref 52, .ref 53, .int (u4.2.1 3), .ref 54, .ref 55, .ref 56, .int (u4.2.1 7), .ref 57, .ref 58, .int (u4.2.1 10), .int (u4.2.1 11), .int (u4.2.1 12), .int (u4.2.1 13), .int (u4.2.1 14), .int (u4.2.1 15), .ref 59, .ref 60, .int (u4.2.1 18), .int (u4.2.1 19), .int (u4.2.1 20), .ref 61, .ref 62, .ref 63, .ref 64]), .inl (0, 68, .inl (u4.2.2 0)), .inl (0, 68, .inl (u4.2.2 1)), .inl (0, 68, .inl (u4.2.2 2)), .inl (0, 8, .inl (u4.2.2 4)), .inl (0, 1053, .inl (u4.2.2 5)), .inl (1, 972, .inl (u4.2.2 6)), .inl (0, 1053, .inl (u4.2.2 8)), .inl (0, 120, .inl (u4.2.2 9)), .inl (3, 7, .inr (.inr (.inr (.inr q_kf)))), .inl (0, 360, .inl (u4.2.2 17)), .inl (0, 4, .inl (u4.2.2 21)), .inl (0, 4, .inl (u4.2.2 22)), .inl (0, 160, .inl (u4.2.2 23)), .inl (0, 40, .inl (u4.2.2 24))]) rfl rfl rfl (Nat.le_of_ble_eq_true rfl) ⟨(Nat.le_of_ble_eq_true rfl), (Nat.le_of_ble_eq_true rfl)⟩ ⟨Nat.zero_le _, Nat.zero_le _⟩ dX6_isSo_82 (fun _ => rfl) (fun _ => rfl) (fun _ => rfl) (fun u4 => ?_)
  exact r_reti (x := u4.1) (rv := (fun u => some (.int u.1))) (hpE := (fun u => w_X6 u.2)) (t0 := (u4.1, u4.2)) C dX6_isSo_85 (by rfl) (by rfl) (by rfl)
set_option maxRecDepth 100000 in
set_option maxHeartbeats 4000000 in
theorem k_X6_text_123 {p : Program} {l : Launch} {e : Env} {s : State} {m : MethodId} {args : Array Value} {below : List Frame} {meth : Method} {c : Code} {dC : Nat → ClassId} {dI : Nat → Nat → Nat} {dA : Nat → ClassId} {A : Nat → Prop} {α : Nat → Nat} {t : Int32 × q_St} (C : q_Cx p s m args meth c cX6_text 3 RX6 (some .int) "text" dC dI dA A α) (M : q_St)  : ∀ (n : Nat) (x1 : Int32) (x2 : Int32) (M' : q_St), q_S p l e (q_rm 7 152) s m args below meth c 3 dC dI dA A α (MQ below (q_Q α dC dI dA A ((fun u => some (.int u.1)) t) ((fun u => w_X6 u.2) t)) args s 0 0 A) 0 0 (f_X6_text_123 M  n x1 x2 M') t 123 [(0, .ref 50), (1, .int x1), (2, .int x2)] [] (w_X6 M') := by
  intro n
  induction n with
  | zero =>
    intro x1 x2 M'
    exact r_cut (f_X6_text_123.eq_1 _ _ _ _) (r_none True.intro)
  | succ n ih =>
    intro x1 x2 M'
    refine r_cut (f_X6_text_123.eq_2 _ _ _ _ _) ?_
    refine r_iload_n C 2 dX6_text_123 rfl ?_
    refine r_aload_n C 0 dX6_text_124 rfl ?_
    refine r_get C 0 18 dX6_text_125 K_X6 rfl rfl (Nat.le_of_ble_eq_true rfl) rfl m_933 rfl ?_
    refine r_icmp_ge C 155 dX6_text_128 (by decide) (fun h128 => ?_) (fun h128 => ?_)
    · refine r_iload_n C 1 dX6_text_155 rfl ?_
      exact r_reti (x := x1) (rv := (fun u => some (.int u.1))) (hpE := (fun u => w_X6 u.2)) (t0 := (x1, M')) C dX6_text_156 (by rfl) (by rfl) (by rfl)
    · refine r_iload_n C 1 dX6_text_131 rfl ?_
      refine r_aload_n C 0 dX6_text_132 rfl ?_
      refine r_iconst C (3) dX6_text_133 rfl ?_
      refine r_iload_n C 2 dX6_text_134 rfl ?_
      refine r_imul C dX6_text_135 ?_
      refine r_callV0 C (o_X6_isSo l M' ((3 : Int32) * x2)) v_X6_isSo m_1376 [.int ((3 : Int32) * x2)] [.int x1] (50) (Or.inl ⟨0, 5, _, TX6, 25, rfl, rfl, rfl⟩) (fun u6 => [.int u6.1, .int x1]) (fun u6 => [.inr (5, [.ref 51, .ref 52, .ref 53, .int (u6.2.1 3), .ref 54, .ref 55, .ref 56, .int (u6.2.1 7), .ref 57, .ref 58, .int (u6.2.1 10), .int (u6.2.1 11), .int (u6.2.1 12), .int (u6.2.1 13), .int (u6.2.1 14), .int (u6.2.1 15), .ref 59, .ref 60, .int (u6.2.1 18), .int (u6.2.1 19), .int (u6.2.1 20), .ref 61, .ref 62, .ref 63, .ref 64]), .inl (0, 68, .inl (u6.2.2 0)), .inl (0, 68, .inl (u6.2.2 1)), .inl (0, 68, .inl (u6.2.2 2)), .inl (0, 8, .inl (u6.2.2 4)), .inl (0, 1053, .inl (u6.2.2 5)), .inl (1, 972, .inl (u6.2.2 6)), .inl (0, 1053, .inl (u6.2.2 8)), .inl (0, 120, .inl (u6.2.2 9)), .inl (3, 7, .inr (.inr (.inr (.inr q_kf)))), .inl (0, 360, .inl (u6.2.2 17)), .inl (0, 4, .inl (u6.2.2 21)), .inl (0, 4, .inl (u6.2.2 22)), .inl (0, 160, .inl (u6.2.2 23)), .inl (0, 40, .inl (u6.2.2 24))]) rfl rfl rfl (Nat.le_of_ble_eq_true rfl) ⟨(Nat.le_of_ble_eq_true rfl), (Nat.le_of_ble_eq_true rfl)⟩ ⟨Nat.zero_le _, Nat.zero_le _⟩ dX6_text_136 (fun _ => rfl) (fun _ => rfl) (fun _ => rfl) (fun u6 => ?_)
      refine r_if_ge C 146 dX6_text_139 (by decide) (fun h139 => ?_) (fun h139 => ?_)
      · refine r_iconst C (1) dX6_text_146 rfl ?_
        refine r_iadd C dX6_text_147 ?_
        refine r_istore_n C [(1, .int (x1 + (1 : Int32))), (0, .ref 50), (2, .int x2)] dX6_text_148 (Nat.le_of_ble_eq_true rfl) rfl ?_
        refine r_iinc C 2 (x2 + 1) [(2, .int (x2 + 1)), (1, .int (x1 + (1 : Int32))), (0, .ref 50)] dX6_text_149 rfl rfl (Nat.le_of_ble_eq_true rfl) rfl ?_
        refine r_goto C 123 dX6_text_152 (by decide) ?_
        refine r_lv [(0, .ref 50), (1, .int (x1 + (1 : Int32))), (2, .int (x2 + 1))] [2, 1, 0] rfl ?_
        exact ih (x1 + (1 : Int32)) (x2 + 1) u6.2
      · refine r_iconst C (0) dX6_text_142 rfl ?_
        refine r_goto C 147 dX6_text_143 (by decide) ?_
        refine r_iadd C dX6_text_147 ?_
        refine r_istore_n C [(1, .int (x1 + (0 : Int32))), (0, .ref 50), (2, .int x2)] dX6_text_148 (Nat.le_of_ble_eq_true rfl) rfl ?_
        refine r_iinc C 2 (x2 + 1) [(2, .int (x2 + 1)), (1, .int (x1 + (0 : Int32))), (0, .ref 50)] dX6_text_149 rfl rfl (Nat.le_of_ble_eq_true rfl) rfl ?_
        refine r_goto C 123 dX6_text_152 (by decide) ?_
        refine r_lv [(0, .ref 50), (1, .int (x1 + (0 : Int32))), (2, .int (x2 + 1))] [2, 1, 0] rfl ?_
        exact ih (x1 + (0 : Int32)) (x2 + 1) u6.2
set_option maxRecDepth 100000 in
set_option maxHeartbeats 4000000 in
theorem k_X6_text_97 {p : Program} {l : Launch} {e : Env} {s : State} {m : MethodId} {args : Array Value} {below : List Frame} {meth : Method} {c : Code} {dC : Nat → ClassId} {dI : Nat → Nat → Nat} {dA : Nat → ClassId} {A : Nat → Prop} {α : Nat → Nat} {t : Int32 × q_St} (C : q_Cx p s m args meth c cX6_text 3 RX6 (some .int) "text" dC dI dA A α) (M : q_St)  : ∀ (s0 : Int32) (M' : q_St), q_S p l e (q_rm 7 152) s m args below meth c 3 dC dI dA A α (MQ below (q_Q α dC dI dA A ((fun u => some (.int u.1)) t) ((fun u => w_X6 u.2) t)) args s 0 0 A) 0 0 (f_X6_text_97 M  s0 M') t 97 [(0, .ref 50)] [.int s0, .ref 50] (w_X6 M') := by
  intro s0 M'
  refine r_cut (f_X6_text_97.eq_1 _ _ _) ?_
  refine r_callV0 C (o_X6_must l M' s0) v_X6_must m_1355 [.int s0] [] (50) (Or.inl ⟨0, 5, _, TX6, 25, rfl, rfl, rfl⟩) (fun u5 => []) (fun u5 => [.inr (5, [.ref 51, .ref 52, .ref 53, .int (u5.1 3), .ref 54, .ref 55, .ref 56, .int (u5.1 7), .ref 57, .ref 58, .int (u5.1 10), .int (u5.1 11), .int (u5.1 12), .int (u5.1 13), .int (u5.1 14), .int (u5.1 15), .ref 59, .ref 60, .int (u5.1 18), .int (u5.1 19), .int (u5.1 20), .ref 61, .ref 62, .ref 63, .ref 64]), .inl (0, 68, .inl (u5.2 0)), .inl (0, 68, .inl (u5.2 1)), .inl (0, 68, .inl (u5.2 2)), .inl (0, 8, .inl (u5.2 4)), .inl (0, 1053, .inl (u5.2 5)), .inl (1, 972, .inl (u5.2 6)), .inl (0, 1053, .inl (u5.2 8)), .inl (0, 120, .inl (u5.2 9)), .inl (3, 7, .inr (.inr (.inr (.inr q_kf)))), .inl (0, 360, .inl (u5.2 17)), .inl (0, 4, .inl (u5.2 21)), .inl (0, 4, .inl (u5.2 22)), .inl (0, 160, .inl (u5.2 23)), .inl (0, 40, .inl (u5.2 24))]) rfl rfl rfl (Nat.le_of_ble_eq_true rfl) ⟨(Nat.le_of_ble_eq_true rfl), (Nat.le_of_ble_eq_true rfl)⟩ ⟨Nat.zero_le _, Nat.zero_le _⟩ dX6_text_97 (fun _ => rfl) (fun _ => rfl) (fun _ => rfl) (fun u5 => ?_)
  refine r_aload_n C 0 dX6_text_100 rfl ?_
  refine r_iconst C (0) dX6_text_101 rfl ?_
  refine r_put C 0 10 _ dX6_text_102 K_X6 rfl rfl (Nat.le_of_ble_eq_true rfl) rfl m_925 rfl (fun _ => rfl) (fun _ => rfl) (Nat.le_of_ble_eq_true rfl) rfl ?_
  refine r_aload_n C 0 dX6_text_105 rfl ?_
  refine r_get C 0 15 dX6_text_106 K_X6 rfl rfl (Nat.le_of_ble_eq_true rfl) rfl m_930 rfl ?_
  refine r_if_eq C 119 dX6_text_109 (by decide) (fun h109 => ?_) (fun h109 => ?_)
  · refine r_iconst C (0) dX6_text_119 rfl ?_
    refine r_istore_n C [(1, .int (0 : Int32)), (0, .ref 50)] dX6_text_120 (Nat.le_of_ble_eq_true rfl) rfl ?_
    refine r_iconst C (0) dX6_text_121 rfl ?_
    refine r_istore_n C [(2, .int (0 : Int32)), (1, .int (0 : Int32)), (0, .ref 50)] dX6_text_122 (Nat.le_of_ble_eq_true rfl) rfl ?_
    refine r_lv [(0, .ref 50), (1, .int (0 : Int32)), (2, .int (0 : Int32))] [2, 1, 0] rfl ?_
    exact k_X6_text_123 C M   q_N (0 : Int32) (0 : Int32) ((va_up u5.1 10 (0 : Int32)), u5.2)
  · refine r_iconst C (-1) dX6_text_112 rfl ?_
    refine r_aload_n C 0 dX6_text_113 rfl ?_
    refine r_get C 0 11 dX6_text_114 K_X6 rfl rfl (Nat.le_of_ble_eq_true rfl) rfl m_926 rfl ?_
    refine r_isub C dX6_text_117 ?_
    exact r_reti (x := ((-1 : Int32) - u5.1 11)) (rv := (fun u => some (.int u.1))) (hpE := (fun u => w_X6 u.2)) (t0 := (((-1 : Int32) - u5.1 11), ((va_up u5.1 10 (0 : Int32)), u5.2))) C dX6_text_118 (by rfl) (by rfl) (by rfl)
set_option maxRecDepth 100000 in
set_option maxHeartbeats 4000000 in
theorem k_X6_text_84 {p : Program} {l : Launch} {e : Env} {s : State} {m : MethodId} {args : Array Value} {below : List Frame} {meth : Method} {c : Code} {dC : Nat → ClassId} {dI : Nat → Nat → Nat} {dA : Nat → ClassId} {A : Nat → Prop} {α : Nat → Nat} {t : Int32 × q_St} (C : q_Cx p s m args meth c cX6_text 3 RX6 (some .int) "text" dC dI dA A α) (M : q_St)  : ∀ (M' : q_St), q_S p l e (q_rm 7 152) s m args below meth c 3 dC dI dA A α (MQ below (q_Q α dC dI dA A ((fun u => some (.int u.1)) t) ((fun u => w_X6 u.2) t)) args s 0 0 A) 0 0 (f_X6_text_84 M  M') t 84 [(0, .ref 50)] [] (w_X6 M') := by
  intro M'
  refine r_cut (f_X6_text_84.eq_1 _ _) ?_
  refine r_aload_n C 0 dX6_text_84 rfl ?_
  refine r_aload_n C 0 dX6_text_85 rfl ?_
  refine r_get C 0 13 dX6_text_86 K_X6 rfl rfl (Nat.le_of_ble_eq_true rfl) rfl m_928 rfl ?_
  refine r_if_ne C 96 dX6_text_89 (by decide) (fun h89 => ?_) (fun h89 => ?_)
  · refine r_iconst C (1) dX6_text_92 rfl ?_
    refine r_goto C 97 dX6_text_93 (by decide) ?_
    exact k_X6_text_97 C M   (1 : Int32) M'
  · refine r_iconst C (0) dX6_text_96 rfl ?_
    exact k_X6_text_97 C M   (0 : Int32) M'
set_option maxRecDepth 100000 in
set_option maxHeartbeats 4000000 in
theorem k_X6_text_43 {p : Program} {l : Launch} {e : Env} {s : State} {m : MethodId} {args : Array Value} {below : List Frame} {meth : Method} {c : Code} {dC : Nat → ClassId} {dI : Nat → Nat → Nat} {dA : Nat → ClassId} {A : Nat → Prop} {α : Nat → Nat} {t : Int32 × q_St} (C : q_Cx p s m args meth c cX6_text 3 RX6 (some .int) "text" dC dI dA A α) (M : q_St)  : ∀ (n : Nat) (M' : q_St), q_S p l e (q_rm 7 152) s m args below meth c 3 dC dI dA A α (MQ below (q_Q α dC dI dA A ((fun u => some (.int u.1)) t) ((fun u => w_X6 u.2) t)) args s 0 0 A) 0 0 (f_X6_text_43 M  n M') t 43 [(0, .ref 50)] [] (w_X6 M') := by
  intro n
  induction n with
  | zero =>
    intro M'
    exact r_cut (f_X6_text_43.eq_1 _ _) (r_none True.intro)
  | succ n ih =>
    intro M'
    refine r_cut (f_X6_text_43.eq_2 _ _ _) ?_
    refine r_aload_n C 0 dX6_text_43 rfl ?_
    refine r_get C 0 15 dX6_text_44 K_X6 rfl rfl (Nat.le_of_ble_eq_true rfl) rfl m_930 rfl ?_
    refine r_if_ne C 84 dX6_text_47 (by decide) (fun h47 => ?_) (fun h47 => ?_)
    · refine r_aload_n C 0 dX6_text_50 rfl ?_
      refine r_get C 0 13 dX6_text_51 K_X6 rfl rfl (Nat.le_of_ble_eq_true rfl) rfl m_928 rfl ?_
      refine r_iconst C (3) dX6_text_54 rfl ?_
      refine r_icmp_ne C 84 dX6_text_55 (by decide) (fun h55 => ?_) (fun h55 => ?_)
      · refine r_aload_n C 0 dX6_text_58 rfl ?_
        refine r_get C 0 9 dX6_text_59 K_X6 rfl rfl (Nat.le_of_ble_eq_true rfl) rfl m_924 rfl ?_
        refine r_aload_n C 0 dX6_text_62 rfl ?_
        refine r_get C 0 11 dX6_text_63 K_X6 rfl rfl (Nat.le_of_ble_eq_true rfl) rfl m_926 rfl ?_
        refine r_iald C 8 dX6_text_66 rfl rfl (fun hi66 => ?_)
        refine r_bipush C (59) dX6_text_67 rfl ?_
        refine r_icmp_ne C 84 dX6_text_69 (by decide) (fun h69 => ?_) (fun h69 => ?_)
        · refine r_aload_n C 0 dX6_text_72 rfl ?_
          refine r_iconst C (1) dX6_text_73 rfl ?_
          refine r_callV0 C (o_X6_must l M' (1 : Int32)) v_X6_must m_1355 [.int (1 : Int32)] [] (50) (Or.inl ⟨0, 5, _, TX6, 25, rfl, rfl, rfl⟩) (fun u3 => []) (fun u3 => [.inr (5, [.ref 51, .ref 52, .ref 53, .int (u3.1 3), .ref 54, .ref 55, .ref 56, .int (u3.1 7), .ref 57, .ref 58, .int (u3.1 10), .int (u3.1 11), .int (u3.1 12), .int (u3.1 13), .int (u3.1 14), .int (u3.1 15), .ref 59, .ref 60, .int (u3.1 18), .int (u3.1 19), .int (u3.1 20), .ref 61, .ref 62, .ref 63, .ref 64]), .inl (0, 68, .inl (u3.2 0)), .inl (0, 68, .inl (u3.2 1)), .inl (0, 68, .inl (u3.2 2)), .inl (0, 8, .inl (u3.2 4)), .inl (0, 1053, .inl (u3.2 5)), .inl (1, 972, .inl (u3.2 6)), .inl (0, 1053, .inl (u3.2 8)), .inl (0, 120, .inl (u3.2 9)), .inl (3, 7, .inr (.inr (.inr (.inr q_kf)))), .inl (0, 360, .inl (u3.2 17)), .inl (0, 4, .inl (u3.2 21)), .inl (0, 4, .inl (u3.2 22)), .inl (0, 160, .inl (u3.2 23)), .inl (0, 40, .inl (u3.2 24))]) rfl rfl rfl (Nat.le_of_ble_eq_true rfl) ⟨(Nat.le_of_ble_eq_true rfl), (Nat.le_of_ble_eq_true rfl)⟩ ⟨Nat.zero_le _, Nat.zero_le _⟩ dX6_text_74 (fun _ => rfl) (fun _ => rfl) (fun _ => rfl) (fun u3 => ?_)
          refine r_aload_n C 0 dX6_text_77 rfl ?_
          refine r_callV0 C (o_X6_readItem l u3) v_X6_readItem m_1341 [] [] (50) (Or.inl ⟨0, 5, _, TX6, 25, rfl, rfl, rfl⟩) (fun u4 => []) (fun u4 => [.inr (5, [.ref 51, .ref 52, .ref 53, .int (u4.1 3), .ref 54, .ref 55, .ref 56, .int (u4.1 7), .ref 57, .ref 58, .int (u4.1 10), .int (u4.1 11), .int (u4.1 12), .int (u4.1 13), .int (u4.1 14), .int (u4.1 15), .ref 59, .ref 60, .int (u4.1 18), .int (u4.1 19), .int (u4.1 20), .ref 61, .ref 62, .ref 63, .ref 64]), .inl (0, 68, .inl (u4.2 0)), .inl (0, 68, .inl (u4.2 1)), .inl (0, 68, .inl (u4.2 2)), .inl (0, 8, .inl (u4.2 4)), .inl (0, 1053, .inl (u4.2 5)), .inl (1, 972, .inl (u4.2 6)), .inl (0, 1053, .inl (u4.2 8)), .inl (0, 120, .inl (u4.2 9)), .inl (3, 7, .inr (.inr (.inr (.inr q_kf)))), .inl (0, 360, .inl (u4.2 17)), .inl (0, 4, .inl (u4.2 21)), .inl (0, 4, .inl (u4.2 22)), .inl (0, 160, .inl (u4.2 23)), .inl (0, 40, .inl (u4.2 24))]) rfl rfl rfl (Nat.le_of_ble_eq_true rfl) ⟨(Nat.le_of_ble_eq_true rfl), (Nat.le_of_ble_eq_true rfl)⟩ ⟨Nat.zero_le _, Nat.zero_le _⟩ dX6_text_78 (fun _ => rfl) (fun _ => rfl) (fun _ => rfl) (fun u4 => ?_)
          refine r_goto C 43 dX6_text_81 (by decide) ?_
          exact ih u4
        · exact k_X6_text_84 C M   M'
      · exact k_X6_text_84 C M   M'
    · exact k_X6_text_84 C M   M'
set_option maxRecDepth 100000 in
set_option maxHeartbeats 4000000 in
theorem o_X6_text (l : Launch) (M : q_St) : q_Ok l yX6_text cX6_text 3 (some .int) 7 152 [.ref 50] (w_X6 M) (f_X6_text M) (fun u => some (.int u.1)) (fun u => w_X6 u.2) := by
  refine q_enter (by decide +kernel) (Nat.le_of_ble_eq_true rfl) (fun t p e s m args below meth c dC dI dA A α C => ?_)
  refine r_cut (f_X6_text.eq_1 _) ?_
  show q_S p l e (q_rm 7 152) s m args below meth c 3 dC dI dA A α (MQ below (q_Q α dC dI dA A ((fun u => some (.int u.1)) t) ((fun u => w_X6 u.2) t)) args s 0 0 A) 0 0 _ t 0 [(0, .ref 50)] [] (w_X6 M)
  refine r_aload_n C 0 dX6_text_0 rfl ?_
  refine r_iconst C (0) dX6_text_1 rfl ?_
  refine r_put C 0 12 _ dX6_text_2 K_X6 rfl rfl (Nat.le_of_ble_eq_true rfl) rfl m_927 rfl (fun _ => rfl) (fun _ => rfl) (Nat.le_of_ble_eq_true rfl) rfl ?_
  refine r_aload_n C 0 dX6_text_5 rfl ?_
  refine r_iconst C (0) dX6_text_6 rfl ?_
  refine r_put C 0 15 _ dX6_text_7 K_X6 rfl rfl (Nat.le_of_ble_eq_true rfl) rfl m_930 rfl (fun _ => rfl) (fun _ => rfl) (Nat.le_of_ble_eq_true rfl) rfl ?_
  refine r_aload_n C 0 dX6_text_10 rfl ?_
  refine r_iconst C (0) dX6_text_11 rfl ?_
  refine r_put C 0 18 _ dX6_text_12 K_X6 rfl rfl (Nat.le_of_ble_eq_true rfl) rfl m_933 rfl (fun _ => rfl) (fun _ => rfl) (Nat.le_of_ble_eq_true rfl) rfl ?_
  refine r_aload_n C 0 dX6_text_15 rfl ?_
  refine r_aload_n C 0 dX6_text_16 rfl ?_
  refine r_get C 0 0 dX6_text_17 K_X6 rfl rfl (Nat.le_of_ble_eq_true rfl) rfl m_915 rfl ?_
  refine r_iconst C (0) dX6_text_20 rfl ?_
  refine r_iald C 1 dX6_text_21 rfl rfl (fun hi21 => ?_)
  refine r_put C 0 19 _ dX6_text_22 K_X6 rfl rfl (Nat.le_of_ble_eq_true rfl) rfl m_934 rfl (fun _ => rfl) (fun _ => rfl) (Nat.le_of_ble_eq_true rfl) rfl ?_
  refine r_aload_n C 0 dX6_text_25 rfl ?_
  refine r_aload_n C 0 dX6_text_26 rfl ?_
  refine r_get C 0 0 dX6_text_27 K_X6 rfl rfl (Nat.le_of_ble_eq_true rfl) rfl m_915 rfl ?_
  refine r_iconst C (1) dX6_text_30 rfl ?_
  refine r_iald C 1 dX6_text_31 rfl rfl (fun hi31 => ?_)
  refine r_put C 0 20 _ dX6_text_32 K_X6 rfl rfl (Nat.le_of_ble_eq_true rfl) rfl m_935 rfl (fun _ => rfl) (fun _ => rfl) (Nat.le_of_ble_eq_true rfl) rfl ?_
  refine r_aload_n C 0 dX6_text_35 rfl ?_
  refine r_callV0 C (o_X6_next l ((va_up (va_up (va_up (va_up (va_up M.1 12 (0 : Int32)) 15 (0 : Int32)) 18 (0 : Int32)) 19 (M.2 0 (0 : Int32).toNatClampNeg)) 20 (M.2 0 (1 : Int32).toNatClampNeg)), M.2)) v_X6_next m_1333 [] [] (50) (Or.inl ⟨0, 5, _, TX6, 25, rfl, rfl, rfl⟩) (fun u1 => []) (fun u1 => [.inr (5, [.ref 51, .ref 52, .ref 53, .int (u1.1 3), .ref 54, .ref 55, .ref 56, .int (u1.1 7), .ref 57, .ref 58, .int (u1.1 10), .int (u1.1 11), .int (u1.1 12), .int (u1.1 13), .int (u1.1 14), .int (u1.1 15), .ref 59, .ref 60, .int (u1.1 18), .int (u1.1 19), .int (u1.1 20), .ref 61, .ref 62, .ref 63, .ref 64]), .inl (0, 68, .inl (u1.2 0)), .inl (0, 68, .inl (u1.2 1)), .inl (0, 68, .inl (u1.2 2)), .inl (0, 8, .inl (u1.2 4)), .inl (0, 1053, .inl (u1.2 5)), .inl (1, 972, .inl (u1.2 6)), .inl (0, 1053, .inl (u1.2 8)), .inl (0, 120, .inl (u1.2 9)), .inl (3, 7, .inr (.inr (.inr (.inr q_kf)))), .inl (0, 360, .inl (u1.2 17)), .inl (0, 4, .inl (u1.2 21)), .inl (0, 4, .inl (u1.2 22)), .inl (0, 160, .inl (u1.2 23)), .inl (0, 40, .inl (u1.2 24))]) rfl rfl rfl (Nat.le_of_ble_eq_true rfl) ⟨(Nat.le_of_ble_eq_true rfl), (Nat.le_of_ble_eq_true rfl)⟩ ⟨Nat.zero_le _, Nat.zero_le _⟩ dX6_text_36 (fun _ => rfl) (fun _ => rfl) (fun _ => rfl) (fun u1 => ?_)
  refine r_aload_n C 0 dX6_text_39 rfl ?_
  refine r_callV0 C (o_X6_readItem l u1) v_X6_readItem m_1341 [] [] (50) (Or.inl ⟨0, 5, _, TX6, 25, rfl, rfl, rfl⟩) (fun u2 => []) (fun u2 => [.inr (5, [.ref 51, .ref 52, .ref 53, .int (u2.1 3), .ref 54, .ref 55, .ref 56, .int (u2.1 7), .ref 57, .ref 58, .int (u2.1 10), .int (u2.1 11), .int (u2.1 12), .int (u2.1 13), .int (u2.1 14), .int (u2.1 15), .ref 59, .ref 60, .int (u2.1 18), .int (u2.1 19), .int (u2.1 20), .ref 61, .ref 62, .ref 63, .ref 64]), .inl (0, 68, .inl (u2.2 0)), .inl (0, 68, .inl (u2.2 1)), .inl (0, 68, .inl (u2.2 2)), .inl (0, 8, .inl (u2.2 4)), .inl (0, 1053, .inl (u2.2 5)), .inl (1, 972, .inl (u2.2 6)), .inl (0, 1053, .inl (u2.2 8)), .inl (0, 120, .inl (u2.2 9)), .inl (3, 7, .inr (.inr (.inr (.inr q_kf)))), .inl (0, 360, .inl (u2.2 17)), .inl (0, 4, .inl (u2.2 21)), .inl (0, 4, .inl (u2.2 22)), .inl (0, 160, .inl (u2.2 23)), .inl (0, 40, .inl (u2.2 24))]) rfl rfl rfl (Nat.le_of_ble_eq_true rfl) ⟨(Nat.le_of_ble_eq_true rfl), (Nat.le_of_ble_eq_true rfl)⟩ ⟨Nat.zero_le _, Nat.zero_le _⟩ dX6_text_40 (fun _ => rfl) (fun _ => rfl) (fun _ => rfl) (fun u2 => ?_)
  exact k_X6_text_43 C M   q_N u2
set_option maxRecDepth 100000 in
set_option maxHeartbeats 4000000 in
theorem o_X6_isSpot (l : Launch) (a1 : Int32) : q_Ok l yX6_isSpot cX6_isSpot 1 (some .boolean) 1 22 [.int a1] ([]) (f_X6_isSpot a1) (fun u => some (.int u)) (fun _ => []) := by
  refine q_enter (by decide +kernel) (Nat.le_of_ble_eq_true rfl) (fun t p e s m args below meth c dC dI dA A α C => ?_)
  refine r_cut (f_X6_isSpot.eq_1 _) ?_
  show q_S p l e (q_rm 1 22) s m args below meth c 1 dC dI dA A α (MQ below (q_Q α dC dI dA A ((fun u => some (.int u)) t) ((fun _ => []) t)) args s 0 0 A) 0 0 _ t 0 [(0, .int a1)] [] ([])
  refine r_iload_n C 0 dX6_isSpot_0 rfl ?_
  refine r_iconst C (0) dX6_isSpot_1 rfl ?_
  refine r_bipush C (9) dX6_isSpot_2 rfl ?_
  refine r_callS C (o_X6_within l a1 (0 : Int32) (9 : Int32)) v_X6_within m_999 [] [.int a1, .int (0 : Int32), .int (9 : Int32)] [] (fun u1 => [.int u1]) (fun u1 => []) rfl rfl rfl rfl rfl (Nat.le_of_ble_eq_true rfl) ⟨(Nat.le_of_ble_eq_true rfl), (Nat.le_of_ble_eq_true rfl)⟩ ⟨Nat.zero_le _, Nat.zero_le _⟩ dX6_isSpot_4 (fun _ => rfl) (fun _ => rfl) (fun _ => rfl) (fun u1 => ?_)
  refine r_gbz (fun hz => ?_)
  exact r_retz (x := u1) (rv := (fun u => some (.int u))) (hpE := (fun _ => [])) (t0 := u1) C dX6_isSpot_7 (by rfl) (by exact q_nz1 hz) (by rfl) (by rfl)
set_option maxRecDepth 100000 in
set_option maxHeartbeats 4000000 in
theorem o_X6_hold (l : Launch) (M : q_St) (a1 : Int32) (a2 : Int32) : q_Ok l yX6_hold cX6_hold 3 (some .int) 2 43 [.ref 50, .int a1, .int a2] (w_X6 M) (f_X6_hold M a1 a2) (fun u => some (.int u.1)) (fun u => w_X6 u.2) := by
  refine q_enter (by decide +kernel) (Nat.le_of_ble_eq_true rfl) (fun t p e s m args below meth c dC dI dA A α C => ?_)
  refine r_cut (f_X6_hold.eq_1 _ _ _) ?_
  show q_S p l e (q_rm 2 43) s m args below meth c 3 dC dI dA A α (MQ below (q_Q α dC dI dA A ((fun u => some (.int u.1)) t) ((fun u => w_X6 u.2) t)) args s 0 0 A) 0 0 _ t 0 [(0, .ref 50), (1, .int a1), (2, .int a2)] [] (w_X6 M)
  refine r_iload_n C 1 dX6_hold_0 rfl ?_
  refine r_callS C (o_X6_isSpot l a1) v_X6_isSpot m_1384 [] [.int a1] [] (fun u1 => [.int u1]) (fun u1 => [.inr (5, [.ref 51, .ref 52, .ref 53, .int (M.1 3), .ref 54, .ref 55, .ref 56, .int (M.1 7), .ref 57, .ref 58, .int (M.1 10), .int (M.1 11), .int (M.1 12), .int (M.1 13), .int (M.1 14), .int (M.1 15), .ref 59, .ref 60, .int (M.1 18), .int (M.1 19), .int (M.1 20), .ref 61, .ref 62, .ref 63, .ref 64]), .inl (0, 68, .inl (M.2 0)), .inl (0, 68, .inl (M.2 1)), .inl (0, 68, .inl (M.2 2)), .inl (0, 8, .inl (M.2 4)), .inl (0, 1053, .inl (M.2 5)), .inl (1, 972, .inl (M.2 6)), .inl (0, 1053, .inl (M.2 8)), .inl (0, 120, .inl (M.2 9)), .inl (3, 7, .inr (.inr (.inr (.inr q_kf)))), .inl (0, 360, .inl (M.2 17)), .inl (0, 4, .inl (M.2 21)), .inl (0, 4, .inl (M.2 22)), .inl (0, 160, .inl (M.2 23)), .inl (0, 40, .inl (M.2 24))]) rfl rfl rfl rfl rfl (Nat.le_of_ble_eq_true rfl) ⟨(Nat.le_of_ble_eq_true rfl), (Nat.le_of_ble_eq_true rfl)⟩ ⟨Nat.zero_le _, Nat.zero_le _⟩ dX6_hold_1 (fun _ => rfl) (fun _ => rfl) (fun _ => rfl) (fun u1 => ?_)
  refine r_if_eq C 20 dX6_hold_4 (by decide) (fun h4 => ?_) (fun h4 => ?_)
  · refine r_aload_n C 0 dX6_hold_20 rfl ?_
    refine r_ldc C (-1000001) dX6_hold_21 m_1002 ?_
    refine r_callV0 C (o_X6_finding l M (-1000001 : Int32)) v_X6_finding m_1003 [.int (-1000001 : Int32)] [] (50) (Or.inl ⟨0, 5, _, TX6, 25, rfl, rfl, rfl⟩) (fun u2 => [.int u2.1]) (fun u2 => [.inr (5, [.ref 51, .ref 52, .ref 53, .int (u2.2.1 3), .ref 54, .ref 55, .ref 56, .int (u2.2.1 7), .ref 57, .ref 58, .int (u2.2.1 10), .int (u2.2.1 11), .int (u2.2.1 12), .int (u2.2.1 13), .int (u2.2.1 14), .int (u2.2.1 15), .ref 59, .ref 60, .int (u2.2.1 18), .int (u2.2.1 19), .int (u2.2.1 20), .ref 61, .ref 62, .ref 63, .ref 64]), .inl (0, 68, .inl (u2.2.2 0)), .inl (0, 68, .inl (u2.2.2 1)), .inl (0, 68, .inl (u2.2.2 2)), .inl (0, 8, .inl (u2.2.2 4)), .inl (0, 1053, .inl (u2.2.2 5)), .inl (1, 972, .inl (u2.2.2 6)), .inl (0, 1053, .inl (u2.2.2 8)), .inl (0, 120, .inl (u2.2.2 9)), .inl (3, 7, .inr (.inr (.inr (.inr q_kf)))), .inl (0, 360, .inl (u2.2.2 17)), .inl (0, 4, .inl (u2.2.2 21)), .inl (0, 4, .inl (u2.2.2 22)), .inl (0, 160, .inl (u2.2.2 23)), .inl (0, 40, .inl (u2.2.2 24))]) rfl rfl rfl (Nat.le_of_ble_eq_true rfl) ⟨(Nat.le_of_ble_eq_true rfl), (Nat.le_of_ble_eq_true rfl)⟩ ⟨Nat.zero_le _, Nat.zero_le _⟩ dX6_hold_23 (fun _ => rfl) (fun _ => rfl) (fun _ => rfl) (fun u2 => ?_)
    exact r_reti (x := u2.1) (rv := (fun u => some (.int u.1))) (hpE := (fun u => w_X6 u.2)) (t0 := (u2.1, u2.2)) C dX6_hold_26 (by rfl) (by rfl) (by rfl)
  · refine r_iload_n C 2 dX6_hold_7 rfl ?_
    refine r_iconst C (-1) dX6_hold_8 rfl ?_
    refine r_icmp_eq C 27 dX6_hold_9 (by decide) (fun h9 => ?_) (fun h9 => ?_)
    · refine r_aload_n C 0 dX6_hold_27 rfl ?_
      refine r_get C 0 0 dX6_hold_28 K_X6 rfl rfl (Nat.le_of_ble_eq_true rfl) rfl m_915 rfl ?_
      refine r_bipush C (10) dX6_hold_31 rfl ?_
      refine r_iload_n C 1 dX6_hold_33 rfl ?_
      refine r_iadd C dX6_hold_34 ?_
      refine r_iload_n C 2 dX6_hold_35 rfl ?_
      refine r_iast C 1 _ dX6_hold_36 rfl rfl rfl (fun hi36 => ?_)
      refine r_iconst C (1) dX6_hold_37 rfl ?_
      exact r_reti (x := (1 : Int32)) (rv := (fun u => some (.int u.1))) (hpE := (fun u => w_X6 u.2)) (t0 := ((1 : Int32), (M.1, (va_up M.2 0 (upd (M.2 0) ((10 : Int32) + a1).toNatClampNeg a2))))) C dX6_hold_38 (by rfl) (by rfl) (by rfl)
    · refine r_aload_n C 0 dX6_hold_12 rfl ?_
      refine r_iload_n C 2 dX6_hold_13 rfl ?_
      refine r_callV0 C (o_X6_isDoll l M a2) v_X6_isDoll m_1019 [.int a2] [] (50) (Or.inl ⟨0, 5, _, TX6, 25, rfl, rfl, rfl⟩) (fun u3 => [.int u3]) (fun u3 => [.inr (5, [.ref 51, .ref 52, .ref 53, .int (M.1 3), .ref 54, .ref 55, .ref 56, .int (M.1 7), .ref 57, .ref 58, .int (M.1 10), .int (M.1 11), .int (M.1 12), .int (M.1 13), .int (M.1 14), .int (M.1 15), .ref 59, .ref 60, .int (M.1 18), .int (M.1 19), .int (M.1 20), .ref 61, .ref 62, .ref 63, .ref 64]), .inl (0, 68, .inl (M.2 0)), .inl (0, 68, .inl (M.2 1)), .inl (0, 68, .inl (M.2 2)), .inl (0, 8, .inl (M.2 4)), .inl (0, 1053, .inl (M.2 5)), .inl (1, 972, .inl (M.2 6)), .inl (0, 1053, .inl (M.2 8)), .inl (0, 120, .inl (M.2 9)), .inl (3, 7, .inr (.inr (.inr (.inr q_kf)))), .inl (0, 360, .inl (M.2 17)), .inl (0, 4, .inl (M.2 21)), .inl (0, 4, .inl (M.2 22)), .inl (0, 160, .inl (M.2 23)), .inl (0, 40, .inl (M.2 24))]) rfl rfl rfl (Nat.le_of_ble_eq_true rfl) ⟨(Nat.le_of_ble_eq_true rfl), (Nat.le_of_ble_eq_true rfl)⟩ ⟨Nat.zero_le _, Nat.zero_le _⟩ dX6_hold_14 (fun _ => rfl) (fun _ => rfl) (fun _ => rfl) (fun u3 => ?_)
      refine r_if_ne C 27 dX6_hold_17 (by decide) (fun h17 => ?_) (fun h17 => ?_)
      · refine r_aload_n C 0 dX6_hold_20 rfl ?_
        refine r_ldc C (-1000001) dX6_hold_21 m_1002 ?_
        refine r_callV0 C (o_X6_finding l M (-1000001 : Int32)) v_X6_finding m_1003 [.int (-1000001 : Int32)] [] (50) (Or.inl ⟨0, 5, _, TX6, 25, rfl, rfl, rfl⟩) (fun u4 => [.int u4.1]) (fun u4 => [.inr (5, [.ref 51, .ref 52, .ref 53, .int (u4.2.1 3), .ref 54, .ref 55, .ref 56, .int (u4.2.1 7), .ref 57, .ref 58, .int (u4.2.1 10), .int (u4.2.1 11), .int (u4.2.1 12), .int (u4.2.1 13), .int (u4.2.1 14), .int (u4.2.1 15), .ref 59, .ref 60, .int (u4.2.1 18), .int (u4.2.1 19), .int (u4.2.1 20), .ref 61, .ref 62, .ref 63, .ref 64]), .inl (0, 68, .inl (u4.2.2 0)), .inl (0, 68, .inl (u4.2.2 1)), .inl (0, 68, .inl (u4.2.2 2)), .inl (0, 8, .inl (u4.2.2 4)), .inl (0, 1053, .inl (u4.2.2 5)), .inl (1, 972, .inl (u4.2.2 6)), .inl (0, 1053, .inl (u4.2.2 8)), .inl (0, 120, .inl (u4.2.2 9)), .inl (3, 7, .inr (.inr (.inr (.inr q_kf)))), .inl (0, 360, .inl (u4.2.2 17)), .inl (0, 4, .inl (u4.2.2 21)), .inl (0, 4, .inl (u4.2.2 22)), .inl (0, 160, .inl (u4.2.2 23)), .inl (0, 40, .inl (u4.2.2 24))]) rfl rfl rfl (Nat.le_of_ble_eq_true rfl) ⟨(Nat.le_of_ble_eq_true rfl), (Nat.le_of_ble_eq_true rfl)⟩ ⟨Nat.zero_le _, Nat.zero_le _⟩ dX6_hold_23 (fun _ => rfl) (fun _ => rfl) (fun _ => rfl) (fun u4 => ?_)
        exact r_reti (x := u4.1) (rv := (fun u => some (.int u.1))) (hpE := (fun u => w_X6 u.2)) (t0 := (u4.1, u4.2)) C dX6_hold_26 (by rfl) (by rfl) (by rfl)
      · refine r_aload_n C 0 dX6_hold_27 rfl ?_
        refine r_get C 0 0 dX6_hold_28 K_X6 rfl rfl (Nat.le_of_ble_eq_true rfl) rfl m_915 rfl ?_
        refine r_bipush C (10) dX6_hold_31 rfl ?_
        refine r_iload_n C 1 dX6_hold_33 rfl ?_
        refine r_iadd C dX6_hold_34 ?_
        refine r_iload_n C 2 dX6_hold_35 rfl ?_
        refine r_iast C 1 _ dX6_hold_36 rfl rfl rfl (fun hi36 => ?_)
        refine r_iconst C (1) dX6_hold_37 rfl ?_
        exact r_reti (x := (1 : Int32)) (rv := (fun u => some (.int u.1))) (hpE := (fun u => w_X6 u.2)) (t0 := ((1 : Int32), (M.1, (va_up M.2 0 (upd (M.2 0) ((10 : Int32) + a1).toNatClampNeg a2))))) C dX6_hold_38 (by rfl) (by rfl) (by rfl)
set_option maxRecDepth 100000 in
set_option maxHeartbeats 4000000 in
theorem o_X6_as (l : Launch) (M : q_St) (a1 : Int32) (a2 : Int32) : q_Ok l yX6_as cX6_as 4 (some .int) 2 43 [.ref 50, .int a1, .int a2] (w_X6 M) (f_X6_as M a1 a2) (fun u => some (.int u.1)) (fun u => w_X6 u.2) := by
  refine q_enter (by decide +kernel) (Nat.le_of_ble_eq_true rfl) (fun t p e s m args below meth c dC dI dA A α C => ?_)
  refine r_cut (f_X6_as.eq_1 _ _ _) ?_
  show q_S p l e (q_rm 2 43) s m args below meth c 4 dC dI dA A α (MQ below (q_Q α dC dI dA A ((fun u => some (.int u.1)) t) ((fun u => w_X6 u.2) t)) args s 0 0 A) 0 0 _ t 0 [(0, .ref 50), (1, .int a1), (2, .int a2)] [] (w_X6 M)
  refine r_iload_n C 1 dX6_as_0 rfl ?_
  refine r_callS C (o_X6_isSpot l a1) v_X6_isSpot m_1384 [] [.int a1] [] (fun u1 => [.int u1]) (fun u1 => [.inr (5, [.ref 51, .ref 52, .ref 53, .int (M.1 3), .ref 54, .ref 55, .ref 56, .int (M.1 7), .ref 57, .ref 58, .int (M.1 10), .int (M.1 11), .int (M.1 12), .int (M.1 13), .int (M.1 14), .int (M.1 15), .ref 59, .ref 60, .int (M.1 18), .int (M.1 19), .int (M.1 20), .ref 61, .ref 62, .ref 63, .ref 64]), .inl (0, 68, .inl (M.2 0)), .inl (0, 68, .inl (M.2 1)), .inl (0, 68, .inl (M.2 2)), .inl (0, 8, .inl (M.2 4)), .inl (0, 1053, .inl (M.2 5)), .inl (1, 972, .inl (M.2 6)), .inl (0, 1053, .inl (M.2 8)), .inl (0, 120, .inl (M.2 9)), .inl (3, 7, .inr (.inr (.inr (.inr q_kf)))), .inl (0, 360, .inl (M.2 17)), .inl (0, 4, .inl (M.2 21)), .inl (0, 4, .inl (M.2 22)), .inl (0, 160, .inl (M.2 23)), .inl (0, 40, .inl (M.2 24))]) rfl rfl rfl rfl rfl (Nat.le_of_ble_eq_true rfl) ⟨(Nat.le_of_ble_eq_true rfl), (Nat.le_of_ble_eq_true rfl)⟩ ⟨Nat.zero_le _, Nat.zero_le _⟩ dX6_as_1 (fun _ => rfl) (fun _ => rfl) (fun _ => rfl) (fun u1 => ?_)
  refine r_if_eq C 14 dX6_as_4 (by decide) (fun h4 => ?_) (fun h4 => ?_)
  · refine r_aload_n C 0 dX6_as_14 rfl ?_
    refine r_ldc C (-1000001) dX6_as_15 m_1002 ?_
    refine r_callV0 C (o_X6_finding l M (-1000001 : Int32)) v_X6_finding m_1003 [.int (-1000001 : Int32)] [] (50) (Or.inl ⟨0, 5, _, TX6, 25, rfl, rfl, rfl⟩) (fun u2 => [.int u2.1]) (fun u2 => [.inr (5, [.ref 51, .ref 52, .ref 53, .int (u2.2.1 3), .ref 54, .ref 55, .ref 56, .int (u2.2.1 7), .ref 57, .ref 58, .int (u2.2.1 10), .int (u2.2.1 11), .int (u2.2.1 12), .int (u2.2.1 13), .int (u2.2.1 14), .int (u2.2.1 15), .ref 59, .ref 60, .int (u2.2.1 18), .int (u2.2.1 19), .int (u2.2.1 20), .ref 61, .ref 62, .ref 63, .ref 64]), .inl (0, 68, .inl (u2.2.2 0)), .inl (0, 68, .inl (u2.2.2 1)), .inl (0, 68, .inl (u2.2.2 2)), .inl (0, 8, .inl (u2.2.2 4)), .inl (0, 1053, .inl (u2.2.2 5)), .inl (1, 972, .inl (u2.2.2 6)), .inl (0, 1053, .inl (u2.2.2 8)), .inl (0, 120, .inl (u2.2.2 9)), .inl (3, 7, .inr (.inr (.inr (.inr q_kf)))), .inl (0, 360, .inl (u2.2.2 17)), .inl (0, 4, .inl (u2.2.2 21)), .inl (0, 4, .inl (u2.2.2 22)), .inl (0, 160, .inl (u2.2.2 23)), .inl (0, 40, .inl (u2.2.2 24))]) rfl rfl rfl (Nat.le_of_ble_eq_true rfl) ⟨(Nat.le_of_ble_eq_true rfl), (Nat.le_of_ble_eq_true rfl)⟩ ⟨Nat.zero_le _, Nat.zero_le _⟩ dX6_as_17 (fun _ => rfl) (fun _ => rfl) (fun _ => rfl) (fun u2 => ?_)
    exact r_reti (x := u2.1) (rv := (fun u => some (.int u.1))) (hpE := (fun u => w_X6 u.2)) (t0 := (u2.1, u2.2)) C dX6_as_20 (by rfl) (by rfl) (by rfl)
  · refine r_iload_n C 2 dX6_as_7 rfl ?_
    refine r_callS C (o_X6_isKind l a2) v_X6_isKind m_996 [] [.int a2] [] (fun u3 => [.int u3]) (fun u3 => [.inr (5, [.ref 51, .ref 52, .ref 53, .int (M.1 3), .ref 54, .ref 55, .ref 56, .int (M.1 7), .ref 57, .ref 58, .int (M.1 10), .int (M.1 11), .int (M.1 12), .int (M.1 13), .int (M.1 14), .int (M.1 15), .ref 59, .ref 60, .int (M.1 18), .int (M.1 19), .int (M.1 20), .ref 61, .ref 62, .ref 63, .ref 64]), .inl (0, 68, .inl (M.2 0)), .inl (0, 68, .inl (M.2 1)), .inl (0, 68, .inl (M.2 2)), .inl (0, 8, .inl (M.2 4)), .inl (0, 1053, .inl (M.2 5)), .inl (1, 972, .inl (M.2 6)), .inl (0, 1053, .inl (M.2 8)), .inl (0, 120, .inl (M.2 9)), .inl (3, 7, .inr (.inr (.inr (.inr q_kf)))), .inl (0, 360, .inl (M.2 17)), .inl (0, 4, .inl (M.2 21)), .inl (0, 4, .inl (M.2 22)), .inl (0, 160, .inl (M.2 23)), .inl (0, 40, .inl (M.2 24))]) rfl rfl rfl rfl rfl (Nat.le_of_ble_eq_true rfl) ⟨(Nat.le_of_ble_eq_true rfl), (Nat.le_of_ble_eq_true rfl)⟩ ⟨Nat.zero_le _, Nat.zero_le _⟩ dX6_as_8 (fun _ => rfl) (fun _ => rfl) (fun _ => rfl) (fun u3 => ?_)
    refine r_if_ne C 21 dX6_as_11 (by decide) (fun h11 => ?_) (fun h11 => ?_)
    · refine r_aload_n C 0 dX6_as_14 rfl ?_
      refine r_ldc C (-1000001) dX6_as_15 m_1002 ?_
      refine r_callV0 C (o_X6_finding l M (-1000001 : Int32)) v_X6_finding m_1003 [.int (-1000001 : Int32)] [] (50) (Or.inl ⟨0, 5, _, TX6, 25, rfl, rfl, rfl⟩) (fun u8 => [.int u8.1]) (fun u8 => [.inr (5, [.ref 51, .ref 52, .ref 53, .int (u8.2.1 3), .ref 54, .ref 55, .ref 56, .int (u8.2.1 7), .ref 57, .ref 58, .int (u8.2.1 10), .int (u8.2.1 11), .int (u8.2.1 12), .int (u8.2.1 13), .int (u8.2.1 14), .int (u8.2.1 15), .ref 59, .ref 60, .int (u8.2.1 18), .int (u8.2.1 19), .int (u8.2.1 20), .ref 61, .ref 62, .ref 63, .ref 64]), .inl (0, 68, .inl (u8.2.2 0)), .inl (0, 68, .inl (u8.2.2 1)), .inl (0, 68, .inl (u8.2.2 2)), .inl (0, 8, .inl (u8.2.2 4)), .inl (0, 1053, .inl (u8.2.2 5)), .inl (1, 972, .inl (u8.2.2 6)), .inl (0, 1053, .inl (u8.2.2 8)), .inl (0, 120, .inl (u8.2.2 9)), .inl (3, 7, .inr (.inr (.inr (.inr q_kf)))), .inl (0, 360, .inl (u8.2.2 17)), .inl (0, 4, .inl (u8.2.2 21)), .inl (0, 4, .inl (u8.2.2 22)), .inl (0, 160, .inl (u8.2.2 23)), .inl (0, 40, .inl (u8.2.2 24))]) rfl rfl rfl (Nat.le_of_ble_eq_true rfl) ⟨(Nat.le_of_ble_eq_true rfl), (Nat.le_of_ble_eq_true rfl)⟩ ⟨Nat.zero_le _, Nat.zero_le _⟩ dX6_as_17 (fun _ => rfl) (fun _ => rfl) (fun _ => rfl) (fun u8 => ?_)
      exact r_reti (x := u8.1) (rv := (fun u => some (.int u.1))) (hpE := (fun u => w_X6 u.2)) (t0 := (u8.1, u8.2)) C dX6_as_20 (by rfl) (by rfl) (by rfl)
    · refine r_aload_n C 0 dX6_as_21 rfl ?_
      refine r_get C 0 0 dX6_as_22 K_X6 rfl rfl (Nat.le_of_ble_eq_true rfl) rfl m_915 rfl ?_
      refine r_bipush C (10) dX6_as_25 rfl ?_
      refine r_iload_n C 1 dX6_as_27 rfl ?_
      refine r_iadd C dX6_as_28 ?_
      refine r_iald C 1 dX6_as_29 rfl rfl (fun hi29 => ?_)
      refine r_istore_n C [(3, .int (M.2 0 ((10 : Int32) + a1).toNatClampNeg)), (0, .ref 50), (1, .int a1), (2, .int a2)] dX6_as_30 (Nat.le_of_ble_eq_true rfl) rfl ?_
      refine r_iload_n C 0 dX6_as_31 rfl ?_
      refine r_if_ge C 42 dX6_as_32 (by decide) (fun h32 => ?_) (fun h32 => ?_)
      · refine r_aload_n C 1 dX6_as_42 rfl ?_
        refine r_iload_n C 0 dX6_as_43 rfl ?_
        refine r_iconst C (0) dX6_as_44 rfl ?_
        refine r_callV0 C (o_X6_dollIs l M (M.2 0 ((10 : Int32) + a1).toNatClampNeg) (0 : Int32)) v_X6_dollIs m_1023 [.int (M.2 0 ((10 : Int32) + a1).toNatClampNeg), .int (0 : Int32)] [] (50) (Or.inl ⟨0, 5, _, TX6, 25, rfl, rfl, rfl⟩) (fun u4 => [.int u4]) (fun u4 => [.inr (5, [.ref 51, .ref 52, .ref 53, .int (M.1 3), .ref 54, .ref 55, .ref 56, .int (M.1 7), .ref 57, .ref 58, .int (M.1 10), .int (M.1 11), .int (M.1 12), .int (M.1 13), .int (M.1 14), .int (M.1 15), .ref 59, .ref 60, .int (M.1 18), .int (M.1 19), .int (M.1 20), .ref 61, .ref 62, .ref 63, .ref 64]), .inl (0, 68, .inl (M.2 0)), .inl (0, 68, .inl (M.2 1)), .inl (0, 68, .inl (M.2 2)), .inl (0, 8, .inl (M.2 4)), .inl (0, 1053, .inl (M.2 5)), .inl (1, 972, .inl (M.2 6)), .inl (0, 1053, .inl (M.2 8)), .inl (0, 120, .inl (M.2 9)), .inl (3, 7, .inr (.inr (.inr (.inr q_kf)))), .inl (0, 360, .inl (M.2 17)), .inl (0, 4, .inl (M.2 21)), .inl (0, 4, .inl (M.2 22)), .inl (0, 160, .inl (M.2 23)), .inl (0, 40, .inl (M.2 24))]) rfl rfl rfl (Nat.le_of_ble_eq_true rfl) ⟨(Nat.le_of_ble_eq_true rfl), (Nat.le_of_ble_eq_true rfl)⟩ ⟨Nat.zero_le _, Nat.zero_le _⟩ dX6_as_45 (fun _ => rfl) (fun _ => rfl) (fun _ => rfl) (fun u4 => ?_)
        refine r_iload_n C 3 dX6_as_48 rfl ?_
        refine r_callS C (o_X6_isUnder l u4 a2) v_X6_isUnder m_1031 [] [.int u4, .int a2] [] (fun u5 => [.int u5]) (fun u5 => [.inr (5, [.ref 51, .ref 52, .ref 53, .int (M.1 3), .ref 54, .ref 55, .ref 56, .int (M.1 7), .ref 57, .ref 58, .int (M.1 10), .int (M.1 11), .int (M.1 12), .int (M.1 13), .int (M.1 14), .int (M.1 15), .ref 59, .ref 60, .int (M.1 18), .int (M.1 19), .int (M.1 20), .ref 61, .ref 62, .ref 63, .ref 64]), .inl (0, 68, .inl (M.2 0)), .inl (0, 68, .inl (M.2 1)), .inl (0, 68, .inl (M.2 2)), .inl (0, 8, .inl (M.2 4)), .inl (0, 1053, .inl (M.2 5)), .inl (1, 972, .inl (M.2 6)), .inl (0, 1053, .inl (M.2 8)), .inl (0, 120, .inl (M.2 9)), .inl (3, 7, .inr (.inr (.inr (.inr q_kf)))), .inl (0, 360, .inl (M.2 17)), .inl (0, 4, .inl (M.2 21)), .inl (0, 4, .inl (M.2 22)), .inl (0, 160, .inl (M.2 23)), .inl (0, 40, .inl (M.2 24))]) rfl rfl rfl rfl rfl (Nat.le_of_ble_eq_true rfl) ⟨(Nat.le_of_ble_eq_true rfl), (Nat.le_of_ble_eq_true rfl)⟩ ⟨Nat.zero_le _, Nat.zero_le _⟩ dX6_as_49 (fun _ => rfl) (fun _ => rfl) (fun _ => rfl) (fun u5 => ?_)
        refine r_if_eq C 59 dX6_as_52 (by decide) (fun h52 => ?_) (fun h52 => ?_)
        · refine r_aload_n C 1 dX6_as_59 rfl ?_
          refine r_ldcw C (-1000003) dX6_as_60 m_1391 ?_
          refine r_callV0 C (o_X6_finding l M (-1000003 : Int32)) v_X6_finding m_1003 [.int (-1000003 : Int32)] [] (50) (Or.inl ⟨0, 5, _, TX6, 25, rfl, rfl, rfl⟩) (fun u6 => [.int u6.1]) (fun u6 => [.inr (5, [.ref 51, .ref 52, .ref 53, .int (u6.2.1 3), .ref 54, .ref 55, .ref 56, .int (u6.2.1 7), .ref 57, .ref 58, .int (u6.2.1 10), .int (u6.2.1 11), .int (u6.2.1 12), .int (u6.2.1 13), .int (u6.2.1 14), .int (u6.2.1 15), .ref 59, .ref 60, .int (u6.2.1 18), .int (u6.2.1 19), .int (u6.2.1 20), .ref 61, .ref 62, .ref 63, .ref 64]), .inl (0, 68, .inl (u6.2.2 0)), .inl (0, 68, .inl (u6.2.2 1)), .inl (0, 68, .inl (u6.2.2 2)), .inl (0, 8, .inl (u6.2.2 4)), .inl (0, 1053, .inl (u6.2.2 5)), .inl (1, 972, .inl (u6.2.2 6)), .inl (0, 1053, .inl (u6.2.2 8)), .inl (0, 120, .inl (u6.2.2 9)), .inl (3, 7, .inr (.inr (.inr (.inr q_kf)))), .inl (0, 360, .inl (u6.2.2 17)), .inl (0, 4, .inl (u6.2.2 21)), .inl (0, 4, .inl (u6.2.2 22)), .inl (0, 160, .inl (u6.2.2 23)), .inl (0, 40, .inl (u6.2.2 24))]) rfl rfl rfl (Nat.le_of_ble_eq_true rfl) ⟨(Nat.le_of_ble_eq_true rfl), (Nat.le_of_ble_eq_true rfl)⟩ ⟨Nat.zero_le _, Nat.zero_le _⟩ dX6_as_63 (fun _ => rfl) (fun _ => rfl) (fun _ => rfl) (fun u6 => ?_)
          exact r_reti (x := u6.1) (rv := (fun u => some (.int u.1))) (hpE := (fun u => w_X6 u.2)) (t0 := (u6.1, u6.2)) C dX6_as_66 (by rfl) (by rfl) (by rfl)
        · refine r_iload_n C 0 dX6_as_55 rfl ?_
          refine r_goto C 66 dX6_as_56 (by decide) ?_
          exact r_reti (x := (M.2 0 ((10 : Int32) + a1).toNatClampNeg)) (rv := (fun u => some (.int u.1))) (hpE := (fun u => w_X6 u.2)) (t0 := ((M.2 0 ((10 : Int32) + a1).toNatClampNeg), M)) C dX6_as_66 (by rfl) (by rfl) (by rfl)
      · refine r_aload_n C 1 dX6_as_35 rfl ?_
        refine r_ldc C (-1000006) dX6_as_36 m_1254 ?_
        refine r_callV0 C (o_X6_finding l M (-1000006 : Int32)) v_X6_finding m_1003 [.int (-1000006 : Int32)] [] (50) (Or.inl ⟨0, 5, _, TX6, 25, rfl, rfl, rfl⟩) (fun u7 => [.int u7.1]) (fun u7 => [.inr (5, [.ref 51, .ref 52, .ref 53, .int (u7.2.1 3), .ref 54, .ref 55, .ref 56, .int (u7.2.1 7), .ref 57, .ref 58, .int (u7.2.1 10), .int (u7.2.1 11), .int (u7.2.1 12), .int (u7.2.1 13), .int (u7.2.1 14), .int (u7.2.1 15), .ref 59, .ref 60, .int (u7.2.1 18), .int (u7.2.1 19), .int (u7.2.1 20), .ref 61, .ref 62, .ref 63, .ref 64]), .inl (0, 68, .inl (u7.2.2 0)), .inl (0, 68, .inl (u7.2.2 1)), .inl (0, 68, .inl (u7.2.2 2)), .inl (0, 8, .inl (u7.2.2 4)), .inl (0, 1053, .inl (u7.2.2 5)), .inl (1, 972, .inl (u7.2.2 6)), .inl (0, 1053, .inl (u7.2.2 8)), .inl (0, 120, .inl (u7.2.2 9)), .inl (3, 7, .inr (.inr (.inr (.inr q_kf)))), .inl (0, 360, .inl (u7.2.2 17)), .inl (0, 4, .inl (u7.2.2 21)), .inl (0, 4, .inl (u7.2.2 22)), .inl (0, 160, .inl (u7.2.2 23)), .inl (0, 40, .inl (u7.2.2 24))]) rfl rfl rfl (Nat.le_of_ble_eq_true rfl) ⟨(Nat.le_of_ble_eq_true rfl), (Nat.le_of_ble_eq_true rfl)⟩ ⟨Nat.zero_le _, Nat.zero_le _⟩ dX6_as_38 (fun _ => rfl) (fun _ => rfl) (fun _ => rfl) (fun u7 => ?_)
        exact r_reti (x := u7.1) (rv := (fun u => some (.int u.1))) (hpE := (fun u => w_X6 u.2)) (t0 := (u7.1, u7.2)) C dX6_as_41 (by rfl) (by rfl) (by rfl)
set_option maxRecDepth 100000 in
set_option maxHeartbeats 4000000 in
theorem o_X6_cutTo (l : Launch) (a1 : Int32) (a2 : Int32) : q_Ok l yX6_cutTo cX6_cutTo 2 (some .int) 0 0 [.int a1, .int a2] ([]) (f_X6_cutTo a1 a2) (fun u => some (.int u)) (fun _ => []) := by
  refine q_enter (by decide +kernel) (Nat.le_of_ble_eq_true rfl) (fun t p e s m args below meth c dC dI dA A α C => ?_)
  refine r_cut (f_X6_cutTo.eq_1 _ _) ?_
  show q_S p l e (q_rm 0 0) s m args below meth c 2 dC dI dA A α (MQ below (q_Q α dC dI dA A ((fun u => some (.int u)) t) ((fun _ => []) t)) args s 0 0 A) 0 0 _ t 0 [(0, .int a1), (1, .int a2)] [] ([])
  refine r_iload_n C 1 dX6_cutTo_0 rfl ?_
  refine r_bipush C (8) dX6_cutTo_1 rfl ?_
  refine r_icmp_ne C 11 dX6_cutTo_3 (by decide) (fun h3 => ?_) (fun h3 => ?_)
  · refine r_iload_n C 0 dX6_cutTo_6 rfl ?_
    refine r_i2b C dX6_cutTo_7 ?_
    refine r_goto C 23 dX6_cutTo_8 (by decide) ?_
    exact r_reti (x := a1.toInt8.toInt32) (rv := (fun u => some (.int u))) (hpE := (fun _ => [])) (t0 := a1.toInt8.toInt32) C dX6_cutTo_23 (by rfl) (by rfl) (by rfl)
  · refine r_iload_n C 1 dX6_cutTo_11 rfl ?_
    refine r_bipush C (16) dX6_cutTo_12 rfl ?_
    refine r_icmp_ne C 22 dX6_cutTo_14 (by decide) (fun h14 => ?_) (fun h14 => ?_)
    · refine r_iload_n C 0 dX6_cutTo_17 rfl ?_
      refine r_i2s C dX6_cutTo_18 ?_
      refine r_goto C 23 dX6_cutTo_19 (by decide) ?_
      exact r_reti (x := a1.toInt16.toInt32) (rv := (fun u => some (.int u))) (hpE := (fun _ => [])) (t0 := a1.toInt16.toInt32) C dX6_cutTo_23 (by rfl) (by rfl) (by rfl)
    · refine r_iload_n C 0 dX6_cutTo_22 rfl ?_
      exact r_reti (x := a1) (rv := (fun u => some (.int u))) (hpE := (fun _ => [])) (t0 := a1) C dX6_cutTo_23 (by rfl) (by rfl) (by rfl)
set_option maxRecDepth 100000 in
set_option maxHeartbeats 4000000 in
theorem k_X6_sheet_85 {p : Program} {l : Launch} {e : Env} {s : State} {m : MethodId} {args : Array Value} {below : List Frame} {meth : Method} {c : Code} {dC : Nat → ClassId} {dI : Nat → Nat → Nat} {dA : Nat → ClassId} {A : Nat → Prop} {α : Nat → Nat} {t : Int32 × q_St} (C : q_Cx p s m args meth c cX6_sheet 5 RX6 (some .int) "sheet" dC dI dA A α) (M : q_St) (a1 : Int32) (a2 : Int32) (a3 : Int32)  : ∀ (n : Nat) (x1 : Int32) (x4 : Int32) (M' : q_St), q_S p l e (q_rm 2 42) s m args below meth c 5 dC dI dA A α (MQ below (q_Q α dC dI dA A ((fun u => some (.int u.1)) t) ((fun u => w_X6 u.2) t)) args s 0 0 A) 0 0 (f_X6_sheet_85 M a1 a2 a3  n x1 x4 M') t 85 [(0, .ref 50), (1, .int x1), (4, .int x4)] [] (w_X6 M') := by
  intro n
  induction n with
  | zero =>
    intro x1 x4 M'
    exact r_cut (f_X6_sheet_85.eq_1 _ _ _ _ _ _ _) (r_none True.intro)
  | succ n ih =>
    intro x1 x4 M'
    refine r_cut (f_X6_sheet_85.eq_2 _ _ _ _ _ _ _ _) ?_
    refine r_iload C 2 dX6_sheet_85 rfl ?_
    refine r_bipush C (40) dX6_sheet_87 rfl ?_
    refine r_icmp_ge C 111 dX6_sheet_89 (by decide) (fun h89 => ?_) (fun h89 => ?_)
    · refine r_aload_n C 0 dX6_sheet_111 rfl ?_
      refine r_get C 0 22 dX6_sheet_112 K_X6 rfl rfl (Nat.le_of_ble_eq_true rfl) rfl m_937 rfl ?_
      refine r_iload_n C 1 dX6_sheet_115 rfl ?_
      refine r_iald C 12 dX6_sheet_116 rfl rfl (fun hi116 => ?_)
      exact r_reti (x := (M'.2 22 x1.toNatClampNeg)) (rv := (fun u => some (.int u.1))) (hpE := (fun u => w_X6 u.2)) (t0 := ((M'.2 22 x1.toNatClampNeg), M')) C dX6_sheet_117 (by rfl) (by rfl) (by rfl)
    · refine r_aload_n C 0 dX6_sheet_92 rfl ?_
      refine r_get C 0 23 dX6_sheet_93 K_X6 rfl rfl (Nat.le_of_ble_eq_true rfl) rfl m_938 rfl ?_
      refine r_bipush C (40) dX6_sheet_96 rfl ?_
      refine r_iload_n C 1 dX6_sheet_98 rfl ?_
      refine r_imul C dX6_sheet_99 ?_
      refine r_iload C 2 dX6_sheet_100 rfl ?_
      refine r_iadd C dX6_sheet_102 ?_
      refine r_iconst C (0) dX6_sheet_103 rfl ?_
      refine r_iast C 13 _ dX6_sheet_104 rfl rfl rfl (fun hi104 => ?_)
      refine r_iinc C 2 (x4 + 1) [(4, .int (x4 + 1)), (0, .ref 50), (1, .int x1)] dX6_sheet_105 rfl rfl (Nat.le_of_ble_eq_true rfl) rfl ?_
      refine r_goto C 85 dX6_sheet_108 (by decide) ?_
      refine r_lv [(0, .ref 50), (1, .int x1), (4, .int (x4 + 1))] [1, 2, 0] rfl ?_
      exact ih x1 (x4 + 1) (M'.1, (va_up M'.2 23 (upd (M'.2 23) (((40 : Int32) * x1) + x4).toNatClampNeg (0 : Int32))))
set_option maxRecDepth 100000 in
set_option maxHeartbeats 4000000 in
theorem k_X6_sheet_36 {p : Program} {l : Launch} {e : Env} {s : State} {m : MethodId} {args : Array Value} {below : List Frame} {meth : Method} {c : Code} {dC : Nat → ClassId} {dI : Nat → Nat → Nat} {dA : Nat → ClassId} {A : Nat → Prop} {α : Nat → Nat} {t : Int32 × q_St} (C : q_Cx p s m args meth c cX6_sheet 5 RX6 (some .int) "sheet" dC dI dA A α) (M : q_St) (a1 : Int32) (a2 : Int32) (a3 : Int32)  : ∀ (x1 : Int32) (x2 : Int32) (x3 : Int32) (M' : q_St), q_S p l e (q_rm 2 42) s m args below meth c 5 dC dI dA A α (MQ below (q_Q α dC dI dA A ((fun u => some (.int u.1)) t) ((fun u => w_X6 u.2) t)) args s 0 0 A) 0 0 (f_X6_sheet_36 M a1 a2 a3  x1 x2 x3 M') t 36 [(0, .ref 50), (1, .int x1), (2, .int x2), (3, .int x3)] [] (w_X6 M') := by
  intro x1 x2 x3 M'
  refine r_cut (f_X6_sheet_36.eq_1 _ _ _ _ _ _ _ _) ?_
  refine r_iload_n C 3 dX6_sheet_36 rfl ?_
  refine r_if_ge C 47 dX6_sheet_37 (by decide) (fun h37 => ?_) (fun h37 => ?_)
  · refine r_iload_n C 3 dX6_sheet_47 rfl ?_
    refine r_bipush C (40) dX6_sheet_48 rfl ?_
    refine r_icmp_le C 60 dX6_sheet_50 (by decide) (fun h50 => ?_) (fun h50 => ?_)
    · refine r_aload_n C 0 dX6_sheet_60 rfl ?_
      refine r_get C 0 21 dX6_sheet_61 K_X6 rfl rfl (Nat.le_of_ble_eq_true rfl) rfl m_936 rfl ?_
      refine r_iload_n C 1 dX6_sheet_64 rfl ?_
      refine r_iload_n C 2 dX6_sheet_65 rfl ?_
      refine r_iast C 11 _ dX6_sheet_66 rfl rfl rfl (fun hi66 => ?_)
      refine r_aload_n C 0 dX6_sheet_67 rfl ?_
      refine r_get C 0 22 dX6_sheet_68 K_X6 rfl rfl (Nat.le_of_ble_eq_true rfl) rfl m_937 rfl ?_
      refine r_iload_n C 1 dX6_sheet_71 rfl ?_
      refine r_iload_n C 2 dX6_sheet_72 rfl ?_
      refine r_if_ne C 80 dX6_sheet_73 (by decide) (fun h73 => ?_) (fun h73 => ?_)
      · refine r_iconst C (0) dX6_sheet_76 rfl ?_
        refine r_goto C 81 dX6_sheet_77 (by decide) ?_
        refine r_iast C 12 _ dX6_sheet_81 rfl rfl rfl (fun hi81 => ?_)
        refine r_iconst C (0) dX6_sheet_82 rfl ?_
        refine r_istore C [(4, .int (0 : Int32)), (0, .ref 50), (1, .int x1), (2, .int x2), (3, .int x3)] dX6_sheet_83 (Nat.le_of_ble_eq_true rfl) rfl ?_
        refine r_lv [(0, .ref 50), (1, .int x1), (4, .int (0 : Int32))] [1, 2, 0] rfl ?_
        exact k_X6_sheet_85 C M a1 a2 a3   q_N x1 (0 : Int32) (M'.1, (va_up (va_up M'.2 21 (upd (M'.2 21) x1.toNatClampNeg x2)) 22 (upd (M'.2 22) x1.toNatClampNeg (0 : Int32))))
      · refine r_iload_n C 3 dX6_sheet_80 rfl ?_
        refine r_iast C 12 _ dX6_sheet_81 rfl rfl rfl (fun hi81 => ?_)
        refine r_iconst C (0) dX6_sheet_82 rfl ?_
        refine r_istore C [(4, .int (0 : Int32)), (0, .ref 50), (1, .int x1), (2, .int x2), (3, .int x3)] dX6_sheet_83 (Nat.le_of_ble_eq_true rfl) rfl ?_
        refine r_lv [(0, .ref 50), (1, .int x1), (4, .int (0 : Int32))] [1, 2, 0] rfl ?_
        exact k_X6_sheet_85 C M a1 a2 a3   q_N x1 (0 : Int32) (M'.1, (va_up (va_up M'.2 21 (upd (M'.2 21) x1.toNatClampNeg x2)) 22 (upd (M'.2 22) x1.toNatClampNeg x3)))
    · refine r_aload_n C 0 dX6_sheet_53 rfl ?_
      refine r_ldc C (-1000001) dX6_sheet_54 m_1002 ?_
      refine r_callV0 C (o_X6_finding l M' (-1000001 : Int32)) v_X6_finding m_1003 [.int (-1000001 : Int32)] [] (50) (Or.inl ⟨0, 5, _, TX6, 25, rfl, rfl, rfl⟩) (fun u4 => [.int u4.1]) (fun u4 => [.inr (5, [.ref 51, .ref 52, .ref 53, .int (u4.2.1 3), .ref 54, .ref 55, .ref 56, .int (u4.2.1 7), .ref 57, .ref 58, .int (u4.2.1 10), .int (u4.2.1 11), .int (u4.2.1 12), .int (u4.2.1 13), .int (u4.2.1 14), .int (u4.2.1 15), .ref 59, .ref 60, .int (u4.2.1 18), .int (u4.2.1 19), .int (u4.2.1 20), .ref 61, .ref 62, .ref 63, .ref 64]), .inl (0, 68, .inl (u4.2.2 0)), .inl (0, 68, .inl (u4.2.2 1)), .inl (0, 68, .inl (u4.2.2 2)), .inl (0, 8, .inl (u4.2.2 4)), .inl (0, 1053, .inl (u4.2.2 5)), .inl (1, 972, .inl (u4.2.2 6)), .inl (0, 1053, .inl (u4.2.2 8)), .inl (0, 120, .inl (u4.2.2 9)), .inl (3, 7, .inr (.inr (.inr (.inr q_kf)))), .inl (0, 360, .inl (u4.2.2 17)), .inl (0, 4, .inl (u4.2.2 21)), .inl (0, 4, .inl (u4.2.2 22)), .inl (0, 160, .inl (u4.2.2 23)), .inl (0, 40, .inl (u4.2.2 24))]) rfl rfl rfl (Nat.le_of_ble_eq_true rfl) ⟨(Nat.le_of_ble_eq_true rfl), (Nat.le_of_ble_eq_true rfl)⟩ ⟨Nat.zero_le _, Nat.zero_le _⟩ dX6_sheet_56 (fun _ => rfl) (fun _ => rfl) (fun _ => rfl) (fun u4 => ?_)
      exact r_reti (x := u4.1) (rv := (fun u => some (.int u.1))) (hpE := (fun u => w_X6 u.2)) (t0 := (u4.1, u4.2)) C dX6_sheet_59 (by rfl) (by rfl) (by rfl)
  · refine r_aload_n C 0 dX6_sheet_40 rfl ?_
    refine r_ldc C (-1000007) dX6_sheet_41 m_1270 ?_
    refine r_callV0 C (o_X6_finding l M' (-1000007 : Int32)) v_X6_finding m_1003 [.int (-1000007 : Int32)] [] (50) (Or.inl ⟨0, 5, _, TX6, 25, rfl, rfl, rfl⟩) (fun u5 => [.int u5.1]) (fun u5 => [.inr (5, [.ref 51, .ref 52, .ref 53, .int (u5.2.1 3), .ref 54, .ref 55, .ref 56, .int (u5.2.1 7), .ref 57, .ref 58, .int (u5.2.1 10), .int (u5.2.1 11), .int (u5.2.1 12), .int (u5.2.1 13), .int (u5.2.1 14), .int (u5.2.1 15), .ref 59, .ref 60, .int (u5.2.1 18), .int (u5.2.1 19), .int (u5.2.1 20), .ref 61, .ref 62, .ref 63, .ref 64]), .inl (0, 68, .inl (u5.2.2 0)), .inl (0, 68, .inl (u5.2.2 1)), .inl (0, 68, .inl (u5.2.2 2)), .inl (0, 8, .inl (u5.2.2 4)), .inl (0, 1053, .inl (u5.2.2 5)), .inl (1, 972, .inl (u5.2.2 6)), .inl (0, 1053, .inl (u5.2.2 8)), .inl (0, 120, .inl (u5.2.2 9)), .inl (3, 7, .inr (.inr (.inr (.inr q_kf)))), .inl (0, 360, .inl (u5.2.2 17)), .inl (0, 4, .inl (u5.2.2 21)), .inl (0, 4, .inl (u5.2.2 22)), .inl (0, 160, .inl (u5.2.2 23)), .inl (0, 40, .inl (u5.2.2 24))]) rfl rfl rfl (Nat.le_of_ble_eq_true rfl) ⟨(Nat.le_of_ble_eq_true rfl), (Nat.le_of_ble_eq_true rfl)⟩ ⟨Nat.zero_le _, Nat.zero_le _⟩ dX6_sheet_43 (fun _ => rfl) (fun _ => rfl) (fun _ => rfl) (fun u5 => ?_)
    exact r_reti (x := u5.1) (rv := (fun u => some (.int u.1))) (hpE := (fun u => w_X6 u.2)) (t0 := (u5.1, u5.2)) C dX6_sheet_46 (by rfl) (by rfl) (by rfl)
set_option maxRecDepth 100000 in
set_option maxHeartbeats 4000000 in
theorem o_X6_sheet (l : Launch) (M : q_St) (a1 : Int32) (a2 : Int32) (a3 : Int32) : q_Ok l yX6_sheet cX6_sheet 5 (some .int) 2 42 [.ref 50, .int a1, .int a2, .int a3] (w_X6 M) (f_X6_sheet M a1 a2 a3) (fun u => some (.int u.1)) (fun u => w_X6 u.2) := by
  refine q_enter (by decide +kernel) (Nat.le_of_ble_eq_true rfl) (fun t p e s m args below meth c dC dI dA A α C => ?_)
  refine r_cut (f_X6_sheet.eq_1 _ _ _ _) ?_
  show q_S p l e (q_rm 2 42) s m args below meth c 5 dC dI dA A α (MQ below (q_Q α dC dI dA A ((fun u => some (.int u.1)) t) ((fun u => w_X6 u.2) t)) args s 0 0 A) 0 0 _ t 0 [(0, .ref 50), (1, .int a1), (2, .int a2), (3, .int a3)] [] (w_X6 M)
  refine r_iload_n C 1 dX6_sheet_0 rfl ?_
  refine r_callS C (o_X6_isSheet l a1) v_X6_isSheet m_1251 [] [.int a1] [] (fun u1 => [.int u1]) (fun u1 => [.inr (5, [.ref 51, .ref 52, .ref 53, .int (M.1 3), .ref 54, .ref 55, .ref 56, .int (M.1 7), .ref 57, .ref 58, .int (M.1 10), .int (M.1 11), .int (M.1 12), .int (M.1 13), .int (M.1 14), .int (M.1 15), .ref 59, .ref 60, .int (M.1 18), .int (M.1 19), .int (M.1 20), .ref 61, .ref 62, .ref 63, .ref 64]), .inl (0, 68, .inl (M.2 0)), .inl (0, 68, .inl (M.2 1)), .inl (0, 68, .inl (M.2 2)), .inl (0, 8, .inl (M.2 4)), .inl (0, 1053, .inl (M.2 5)), .inl (1, 972, .inl (M.2 6)), .inl (0, 1053, .inl (M.2 8)), .inl (0, 120, .inl (M.2 9)), .inl (3, 7, .inr (.inr (.inr (.inr q_kf)))), .inl (0, 360, .inl (M.2 17)), .inl (0, 4, .inl (M.2 21)), .inl (0, 4, .inl (M.2 22)), .inl (0, 160, .inl (M.2 23)), .inl (0, 40, .inl (M.2 24))]) rfl rfl rfl rfl rfl (Nat.le_of_ble_eq_true rfl) ⟨(Nat.le_of_ble_eq_true rfl), (Nat.le_of_ble_eq_true rfl)⟩ ⟨Nat.zero_le _, Nat.zero_le _⟩ dX6_sheet_1 (fun _ => rfl) (fun _ => rfl) (fun _ => rfl) (fun u1 => ?_)
  refine r_if_eq C 29 dX6_sheet_4 (by decide) (fun h4 => ?_) (fun h4 => ?_)
  · refine r_aload_n C 0 dX6_sheet_29 rfl ?_
    refine r_ldc C (-1000001) dX6_sheet_30 m_1002 ?_
    refine r_callV0 C (o_X6_finding l M (-1000001 : Int32)) v_X6_finding m_1003 [.int (-1000001 : Int32)] [] (50) (Or.inl ⟨0, 5, _, TX6, 25, rfl, rfl, rfl⟩) (fun u2 => [.int u2.1]) (fun u2 => [.inr (5, [.ref 51, .ref 52, .ref 53, .int (u2.2.1 3), .ref 54, .ref 55, .ref 56, .int (u2.2.1 7), .ref 57, .ref 58, .int (u2.2.1 10), .int (u2.2.1 11), .int (u2.2.1 12), .int (u2.2.1 13), .int (u2.2.1 14), .int (u2.2.1 15), .ref 59, .ref 60, .int (u2.2.1 18), .int (u2.2.1 19), .int (u2.2.1 20), .ref 61, .ref 62, .ref 63, .ref 64]), .inl (0, 68, .inl (u2.2.2 0)), .inl (0, 68, .inl (u2.2.2 1)), .inl (0, 68, .inl (u2.2.2 2)), .inl (0, 8, .inl (u2.2.2 4)), .inl (0, 1053, .inl (u2.2.2 5)), .inl (1, 972, .inl (u2.2.2 6)), .inl (0, 1053, .inl (u2.2.2 8)), .inl (0, 120, .inl (u2.2.2 9)), .inl (3, 7, .inr (.inr (.inr (.inr q_kf)))), .inl (0, 360, .inl (u2.2.2 17)), .inl (0, 4, .inl (u2.2.2 21)), .inl (0, 4, .inl (u2.2.2 22)), .inl (0, 160, .inl (u2.2.2 23)), .inl (0, 40, .inl (u2.2.2 24))]) rfl rfl rfl (Nat.le_of_ble_eq_true rfl) ⟨(Nat.le_of_ble_eq_true rfl), (Nat.le_of_ble_eq_true rfl)⟩ ⟨Nat.zero_le _, Nat.zero_le _⟩ dX6_sheet_32 (fun _ => rfl) (fun _ => rfl) (fun _ => rfl) (fun u2 => ?_)
    exact r_reti (x := u2.1) (rv := (fun u => some (.int u.1))) (hpE := (fun u => w_X6 u.2)) (t0 := (u2.1, u2.2)) C dX6_sheet_35 (by rfl) (by rfl) (by rfl)
  · refine r_iload_n C 2 dX6_sheet_7 rfl ?_
    refine r_if_eq C 36 dX6_sheet_8 (by decide) (fun h8 => ?_) (fun h8 => ?_)
    · exact k_X6_sheet_36 C M a1 a2 a3   a1 a2 a3 M
    · refine r_iload_n C 2 dX6_sheet_11 rfl ?_
      refine r_bipush C (8) dX6_sheet_12 rfl ?_
      refine r_icmp_eq C 36 dX6_sheet_14 (by decide) (fun h14 => ?_) (fun h14 => ?_)
      · exact k_X6_sheet_36 C M a1 a2 a3   a1 a2 a3 M
      · refine r_iload_n C 2 dX6_sheet_17 rfl ?_
        refine r_bipush C (16) dX6_sheet_18 rfl ?_
        refine r_icmp_eq C 36 dX6_sheet_20 (by decide) (fun h20 => ?_) (fun h20 => ?_)
        · exact k_X6_sheet_36 C M a1 a2 a3   a1 a2 a3 M
        · refine r_iload_n C 2 dX6_sheet_23 rfl ?_
          refine r_bipush C (32) dX6_sheet_24 rfl ?_
          refine r_icmp_eq C 36 dX6_sheet_26 (by decide) (fun h26 => ?_) (fun h26 => ?_)
          · exact k_X6_sheet_36 C M a1 a2 a3   a1 a2 a3 M
          · refine r_aload_n C 0 dX6_sheet_29 rfl ?_
            refine r_ldc C (-1000001) dX6_sheet_30 m_1002 ?_
            refine r_callV0 C (o_X6_finding l M (-1000001 : Int32)) v_X6_finding m_1003 [.int (-1000001 : Int32)] [] (50) (Or.inl ⟨0, 5, _, TX6, 25, rfl, rfl, rfl⟩) (fun u3 => [.int u3.1]) (fun u3 => [.inr (5, [.ref 51, .ref 52, .ref 53, .int (u3.2.1 3), .ref 54, .ref 55, .ref 56, .int (u3.2.1 7), .ref 57, .ref 58, .int (u3.2.1 10), .int (u3.2.1 11), .int (u3.2.1 12), .int (u3.2.1 13), .int (u3.2.1 14), .int (u3.2.1 15), .ref 59, .ref 60, .int (u3.2.1 18), .int (u3.2.1 19), .int (u3.2.1 20), .ref 61, .ref 62, .ref 63, .ref 64]), .inl (0, 68, .inl (u3.2.2 0)), .inl (0, 68, .inl (u3.2.2 1)), .inl (0, 68, .inl (u3.2.2 2)), .inl (0, 8, .inl (u3.2.2 4)), .inl (0, 1053, .inl (u3.2.2 5)), .inl (1, 972, .inl (u3.2.2 6)), .inl (0, 1053, .inl (u3.2.2 8)), .inl (0, 120, .inl (u3.2.2 9)), .inl (3, 7, .inr (.inr (.inr (.inr q_kf)))), .inl (0, 360, .inl (u3.2.2 17)), .inl (0, 4, .inl (u3.2.2 21)), .inl (0, 4, .inl (u3.2.2 22)), .inl (0, 160, .inl (u3.2.2 23)), .inl (0, 40, .inl (u3.2.2 24))]) rfl rfl rfl (Nat.le_of_ble_eq_true rfl) ⟨(Nat.le_of_ble_eq_true rfl), (Nat.le_of_ble_eq_true rfl)⟩ ⟨Nat.zero_le _, Nat.zero_le _⟩ dX6_sheet_32 (fun _ => rfl) (fun _ => rfl) (fun _ => rfl) (fun u3 => ?_)
            exact r_reti (x := u3.1) (rv := (fun u => some (.int u.1))) (hpE := (fun u => w_X6 u.2)) (t0 := (u3.1, u3.2)) C dX6_sheet_35 (by rfl) (by rfl) (by rfl)
set_option maxRecDepth 100000 in
set_option maxHeartbeats 4000000 in
theorem o_X6_write (l : Launch) (M : q_St) (a1 : Int32) (a2 : Int32) (a3 : Int32) : q_Ok l yX6_write cX6_write 4 (some .int) 2 42 [.ref 50, .int a1, .int a2, .int a3] (w_X6 M) (f_X6_write M a1 a2 a3) (fun u => some (.int u.1)) (fun u => w_X6 u.2) := by
  refine q_enter (by decide +kernel) (Nat.le_of_ble_eq_true rfl) (fun t p e s m args below meth c dC dI dA A α C => ?_)
  refine r_cut (f_X6_write.eq_1 _ _ _ _) ?_
  show q_S p l e (q_rm 2 42) s m args below meth c 4 dC dI dA A α (MQ below (q_Q α dC dI dA A ((fun u => some (.int u.1)) t) ((fun u => w_X6 u.2) t)) args s 0 0 A) 0 0 _ t 0 [(0, .ref 50), (1, .int a1), (2, .int a2), (3, .int a3)] [] (w_X6 M)
  refine r_iload_n C 1 dX6_write_0 rfl ?_
  refine r_callS C (o_X6_isSheet l a1) v_X6_isSheet m_1251 [] [.int a1] [] (fun u1 => [.int u1]) (fun u1 => [.inr (5, [.ref 51, .ref 52, .ref 53, .int (M.1 3), .ref 54, .ref 55, .ref 56, .int (M.1 7), .ref 57, .ref 58, .int (M.1 10), .int (M.1 11), .int (M.1 12), .int (M.1 13), .int (M.1 14), .int (M.1 15), .ref 59, .ref 60, .int (M.1 18), .int (M.1 19), .int (M.1 20), .ref 61, .ref 62, .ref 63, .ref 64]), .inl (0, 68, .inl (M.2 0)), .inl (0, 68, .inl (M.2 1)), .inl (0, 68, .inl (M.2 2)), .inl (0, 8, .inl (M.2 4)), .inl (0, 1053, .inl (M.2 5)), .inl (1, 972, .inl (M.2 6)), .inl (0, 1053, .inl (M.2 8)), .inl (0, 120, .inl (M.2 9)), .inl (3, 7, .inr (.inr (.inr (.inr q_kf)))), .inl (0, 360, .inl (M.2 17)), .inl (0, 4, .inl (M.2 21)), .inl (0, 4, .inl (M.2 22)), .inl (0, 160, .inl (M.2 23)), .inl (0, 40, .inl (M.2 24))]) rfl rfl rfl rfl rfl (Nat.le_of_ble_eq_true rfl) ⟨(Nat.le_of_ble_eq_true rfl), (Nat.le_of_ble_eq_true rfl)⟩ ⟨Nat.zero_le _, Nat.zero_le _⟩ dX6_write_1 (fun _ => rfl) (fun _ => rfl) (fun _ => rfl) (fun u1 => ?_)
  refine r_if_ne C 14 dX6_write_4 (by decide) (fun h4 => ?_) (fun h4 => ?_)
  · refine r_aload_n C 0 dX6_write_7 rfl ?_
    refine r_ldc C (-1000001) dX6_write_8 m_1002 ?_
    refine r_callV0 C (o_X6_finding l M (-1000001 : Int32)) v_X6_finding m_1003 [.int (-1000001 : Int32)] [] (50) (Or.inl ⟨0, 5, _, TX6, 25, rfl, rfl, rfl⟩) (fun u6 => [.int u6.1]) (fun u6 => [.inr (5, [.ref 51, .ref 52, .ref 53, .int (u6.2.1 3), .ref 54, .ref 55, .ref 56, .int (u6.2.1 7), .ref 57, .ref 58, .int (u6.2.1 10), .int (u6.2.1 11), .int (u6.2.1 12), .int (u6.2.1 13), .int (u6.2.1 14), .int (u6.2.1 15), .ref 59, .ref 60, .int (u6.2.1 18), .int (u6.2.1 19), .int (u6.2.1 20), .ref 61, .ref 62, .ref 63, .ref 64]), .inl (0, 68, .inl (u6.2.2 0)), .inl (0, 68, .inl (u6.2.2 1)), .inl (0, 68, .inl (u6.2.2 2)), .inl (0, 8, .inl (u6.2.2 4)), .inl (0, 1053, .inl (u6.2.2 5)), .inl (1, 972, .inl (u6.2.2 6)), .inl (0, 1053, .inl (u6.2.2 8)), .inl (0, 120, .inl (u6.2.2 9)), .inl (3, 7, .inr (.inr (.inr (.inr q_kf)))), .inl (0, 360, .inl (u6.2.2 17)), .inl (0, 4, .inl (u6.2.2 21)), .inl (0, 4, .inl (u6.2.2 22)), .inl (0, 160, .inl (u6.2.2 23)), .inl (0, 40, .inl (u6.2.2 24))]) rfl rfl rfl (Nat.le_of_ble_eq_true rfl) ⟨(Nat.le_of_ble_eq_true rfl), (Nat.le_of_ble_eq_true rfl)⟩ ⟨Nat.zero_le _, Nat.zero_le _⟩ dX6_write_10 (fun _ => rfl) (fun _ => rfl) (fun _ => rfl) (fun u6 => ?_)
    exact r_reti (x := u6.1) (rv := (fun u => some (.int u.1))) (hpE := (fun u => w_X6 u.2)) (t0 := (u6.1, u6.2)) C dX6_write_13 (by rfl) (by rfl) (by rfl)
  · refine r_aload_n C 0 dX6_write_14 rfl ?_
    refine r_get C 0 21 dX6_write_15 K_X6 rfl rfl (Nat.le_of_ble_eq_true rfl) rfl m_936 rfl ?_
    refine r_iload_n C 1 dX6_write_18 rfl ?_
    refine r_iald C 11 dX6_write_19 rfl rfl (fun hi19 => ?_)
    refine r_if_ne C 30 dX6_write_20 (by decide) (fun h20 => ?_) (fun h20 => ?_)
    · refine r_aload_n C 0 dX6_write_23 rfl ?_
      refine r_ldc C (-1000006) dX6_write_24 m_1254 ?_
      refine r_callV0 C (o_X6_finding l M (-1000006 : Int32)) v_X6_finding m_1003 [.int (-1000006 : Int32)] [] (50) (Or.inl ⟨0, 5, _, TX6, 25, rfl, rfl, rfl⟩) (fun u5 => [.int u5.1]) (fun u5 => [.inr (5, [.ref 51, .ref 52, .ref 53, .int (u5.2.1 3), .ref 54, .ref 55, .ref 56, .int (u5.2.1 7), .ref 57, .ref 58, .int (u5.2.1 10), .int (u5.2.1 11), .int (u5.2.1 12), .int (u5.2.1 13), .int (u5.2.1 14), .int (u5.2.1 15), .ref 59, .ref 60, .int (u5.2.1 18), .int (u5.2.1 19), .int (u5.2.1 20), .ref 61, .ref 62, .ref 63, .ref 64]), .inl (0, 68, .inl (u5.2.2 0)), .inl (0, 68, .inl (u5.2.2 1)), .inl (0, 68, .inl (u5.2.2 2)), .inl (0, 8, .inl (u5.2.2 4)), .inl (0, 1053, .inl (u5.2.2 5)), .inl (1, 972, .inl (u5.2.2 6)), .inl (0, 1053, .inl (u5.2.2 8)), .inl (0, 120, .inl (u5.2.2 9)), .inl (3, 7, .inr (.inr (.inr (.inr q_kf)))), .inl (0, 360, .inl (u5.2.2 17)), .inl (0, 4, .inl (u5.2.2 21)), .inl (0, 4, .inl (u5.2.2 22)), .inl (0, 160, .inl (u5.2.2 23)), .inl (0, 40, .inl (u5.2.2 24))]) rfl rfl rfl (Nat.le_of_ble_eq_true rfl) ⟨(Nat.le_of_ble_eq_true rfl), (Nat.le_of_ble_eq_true rfl)⟩ ⟨Nat.zero_le _, Nat.zero_le _⟩ dX6_write_26 (fun _ => rfl) (fun _ => rfl) (fun _ => rfl) (fun u5 => ?_)
      exact r_reti (x := u5.1) (rv := (fun u => some (.int u.1))) (hpE := (fun u => w_X6 u.2)) (t0 := (u5.1, u5.2)) C dX6_write_29 (by rfl) (by rfl) (by rfl)
    · refine r_iload_n C 2 dX6_write_30 rfl ?_
      refine r_iconst C (0) dX6_write_31 rfl ?_
      refine r_aload_n C 0 dX6_write_32 rfl ?_
      refine r_get C 0 22 dX6_write_33 K_X6 rfl rfl (Nat.le_of_ble_eq_true rfl) rfl m_937 rfl ?_
      refine r_iload_n C 1 dX6_write_36 rfl ?_
      refine r_iald C 12 dX6_write_37 rfl rfl (fun hi37 => ?_)
      refine r_iconst C (1) dX6_write_38 rfl ?_
      refine r_isub C dX6_write_39 ?_
      refine r_callS C (o_X6_within l a2 (0 : Int32) ((M.2 22 a1.toNatClampNeg) - (1 : Int32))) v_X6_within m_999 [] [.int a2, .int (0 : Int32), .int ((M.2 22 a1.toNatClampNeg) - (1 : Int32))] [] (fun u2 => [.int u2]) (fun u2 => [.inr (5, [.ref 51, .ref 52, .ref 53, .int (M.1 3), .ref 54, .ref 55, .ref 56, .int (M.1 7), .ref 57, .ref 58, .int (M.1 10), .int (M.1 11), .int (M.1 12), .int (M.1 13), .int (M.1 14), .int (M.1 15), .ref 59, .ref 60, .int (M.1 18), .int (M.1 19), .int (M.1 20), .ref 61, .ref 62, .ref 63, .ref 64]), .inl (0, 68, .inl (M.2 0)), .inl (0, 68, .inl (M.2 1)), .inl (0, 68, .inl (M.2 2)), .inl (0, 8, .inl (M.2 4)), .inl (0, 1053, .inl (M.2 5)), .inl (1, 972, .inl (M.2 6)), .inl (0, 1053, .inl (M.2 8)), .inl (0, 120, .inl (M.2 9)), .inl (3, 7, .inr (.inr (.inr (.inr q_kf)))), .inl (0, 360, .inl (M.2 17)), .inl (0, 4, .inl (M.2 21)), .inl (0, 4, .inl (M.2 22)), .inl (0, 160, .inl (M.2 23)), .inl (0, 40, .inl (M.2 24))]) rfl rfl rfl rfl rfl (Nat.le_of_ble_eq_true rfl) ⟨(Nat.le_of_ble_eq_true rfl), (Nat.le_of_ble_eq_true rfl)⟩ ⟨Nat.zero_le _, Nat.zero_le _⟩ dX6_write_40 (fun _ => rfl) (fun _ => rfl) (fun _ => rfl) (fun u2 => ?_)
      refine r_if_ne C 53 dX6_write_43 (by decide) (fun h43 => ?_) (fun h43 => ?_)
      · refine r_aload_n C 0 dX6_write_46 rfl ?_
        refine r_ldc C (-1000001) dX6_write_47 m_1002 ?_
        refine r_callV0 C (o_X6_finding l M (-1000001 : Int32)) v_X6_finding m_1003 [.int (-1000001 : Int32)] [] (50) (Or.inl ⟨0, 5, _, TX6, 25, rfl, rfl, rfl⟩) (fun u4 => [.int u4.1]) (fun u4 => [.inr (5, [.ref 51, .ref 52, .ref 53, .int (u4.2.1 3), .ref 54, .ref 55, .ref 56, .int (u4.2.1 7), .ref 57, .ref 58, .int (u4.2.1 10), .int (u4.2.1 11), .int (u4.2.1 12), .int (u4.2.1 13), .int (u4.2.1 14), .int (u4.2.1 15), .ref 59, .ref 60, .int (u4.2.1 18), .int (u4.2.1 19), .int (u4.2.1 20), .ref 61, .ref 62, .ref 63, .ref 64]), .inl (0, 68, .inl (u4.2.2 0)), .inl (0, 68, .inl (u4.2.2 1)), .inl (0, 68, .inl (u4.2.2 2)), .inl (0, 8, .inl (u4.2.2 4)), .inl (0, 1053, .inl (u4.2.2 5)), .inl (1, 972, .inl (u4.2.2 6)), .inl (0, 1053, .inl (u4.2.2 8)), .inl (0, 120, .inl (u4.2.2 9)), .inl (3, 7, .inr (.inr (.inr (.inr q_kf)))), .inl (0, 360, .inl (u4.2.2 17)), .inl (0, 4, .inl (u4.2.2 21)), .inl (0, 4, .inl (u4.2.2 22)), .inl (0, 160, .inl (u4.2.2 23)), .inl (0, 40, .inl (u4.2.2 24))]) rfl rfl rfl (Nat.le_of_ble_eq_true rfl) ⟨(Nat.le_of_ble_eq_true rfl), (Nat.le_of_ble_eq_true rfl)⟩ ⟨Nat.zero_le _, Nat.zero_le _⟩ dX6_write_49 (fun _ => rfl) (fun _ => rfl) (fun _ => rfl) (fun u4 => ?_)
        exact r_reti (x := u4.1) (rv := (fun u => some (.int u.1))) (hpE := (fun u => w_X6 u.2)) (t0 := (u4.1, u4.2)) C dX6_write_52 (by rfl) (by rfl) (by rfl)
      · refine r_aload_n C 0 dX6_write_53 rfl ?_
        refine r_get C 0 23 dX6_write_54 K_X6 rfl rfl (Nat.le_of_ble_eq_true rfl) rfl m_938 rfl ?_
        refine r_bipush C (40) dX6_write_57 rfl ?_
        refine r_iload_n C 1 dX6_write_59 rfl ?_
        refine r_imul C dX6_write_60 ?_
        refine r_iload_n C 2 dX6_write_61 rfl ?_
        refine r_iadd C dX6_write_62 ?_
        refine r_iload_n C 3 dX6_write_63 rfl ?_
        refine r_aload_n C 0 dX6_write_64 rfl ?_
        refine r_get C 0 21 dX6_write_65 K_X6 rfl rfl (Nat.le_of_ble_eq_true rfl) rfl m_936 rfl ?_
        refine r_iload_n C 1 dX6_write_68 rfl ?_
        refine r_iald C 11 dX6_write_69 rfl rfl (fun hi69 => ?_)
        refine r_callS C (o_X6_cutTo l a3 (M.2 21 a1.toNatClampNeg)) v_X6_cutTo m_1400 [] [.int a3, .int (M.2 21 a1.toNatClampNeg)] [.int (((40 : Int32) * a1) + a2), .ref 63] (fun u3 => [.int u3, .int (((40 : Int32) * a1) + a2), .ref 63]) (fun u3 => [.inr (5, [.ref 51, .ref 52, .ref 53, .int (M.1 3), .ref 54, .ref 55, .ref 56, .int (M.1 7), .ref 57, .ref 58, .int (M.1 10), .int (M.1 11), .int (M.1 12), .int (M.1 13), .int (M.1 14), .int (M.1 15), .ref 59, .ref 60, .int (M.1 18), .int (M.1 19), .int (M.1 20), .ref 61, .ref 62, .ref 63, .ref 64]), .inl (0, 68, .inl (M.2 0)), .inl (0, 68, .inl (M.2 1)), .inl (0, 68, .inl (M.2 2)), .inl (0, 8, .inl (M.2 4)), .inl (0, 1053, .inl (M.2 5)), .inl (1, 972, .inl (M.2 6)), .inl (0, 1053, .inl (M.2 8)), .inl (0, 120, .inl (M.2 9)), .inl (3, 7, .inr (.inr (.inr (.inr q_kf)))), .inl (0, 360, .inl (M.2 17)), .inl (0, 4, .inl (M.2 21)), .inl (0, 4, .inl (M.2 22)), .inl (0, 160, .inl (M.2 23)), .inl (0, 40, .inl (M.2 24))]) rfl rfl rfl rfl rfl (Nat.le_of_ble_eq_true rfl) ⟨(Nat.le_of_ble_eq_true rfl), (Nat.le_of_ble_eq_true rfl)⟩ ⟨Nat.zero_le _, Nat.zero_le _⟩ dX6_write_70 (fun _ => rfl) (fun _ => rfl) (fun _ => rfl) (fun u3 => ?_)
        refine r_iast C 13 _ dX6_write_73 rfl rfl rfl (fun hi73 => ?_)
        refine r_iconst C (1) dX6_write_74 rfl ?_
        exact r_reti (x := (1 : Int32)) (rv := (fun u => some (.int u.1))) (hpE := (fun u => w_X6 u.2)) (t0 := ((1 : Int32), (M.1, (va_up M.2 23 (upd (M.2 23) (((40 : Int32) * a1) + a2).toNatClampNeg u3))))) C dX6_write_75 (by rfl) (by rfl) (by rfl)
set_option maxRecDepth 100000 in
set_option maxHeartbeats 4000000 in
theorem k_X6_copy_165 {p : Program} {l : Launch} {e : Env} {s : State} {m : MethodId} {args : Array Value} {below : List Frame} {meth : Method} {c : Code} {dC : Nat → ClassId} {dI : Nat → Nat → Nat} {dA : Nat → ClassId} {A : Nat → Prop} {α : Nat → Nat} {t : Int32 × q_St} (C : q_Cx p s m args meth c cX6_copy 7 RX6 (some .int) "copy" dC dI dA A α) (M : q_St) (a1 : Int32) (a2 : Int32) (a3 : Int32) (a4 : Int32) (a5 : Int32)  : ∀ (n : Nat) (x3 : Int32) (x4 : Int32) (x5 : Int32) (x6 : Int32) (M' : q_St), q_S p l e (q_rm 2 42) s m args below meth c 7 dC dI dA A α (MQ below (q_Q α dC dI dA A ((fun u => some (.int u.1)) t) ((fun u => w_X6 u.2) t)) args s 0 0 A) 0 0 (f_X6_copy_165 M a1 a2 a3 a4 a5  n x3 x4 x5 x6 M') t 165 [(0, .ref 50), (3, .int x3), (4, .int x4), (5, .int x5), (6, .int x6)] [] (w_X6 M') := by
  intro n
  induction n with
  | zero =>
    intro x3 x4 x5 x6 M'
    exact r_cut (f_X6_copy_165.eq_1 _ _ _ _ _ _ _ _ _ _ _) (r_none True.intro)
  | succ n ih =>
    intro x3 x4 x5 x6 M'
    refine r_cut (f_X6_copy_165.eq_2 _ _ _ _ _ _ _ _ _ _ _ _) ?_
    refine r_iload C 4 dX6_copy_165 rfl ?_
    refine r_iload C 3 dX6_copy_167 rfl ?_
    refine r_icmp_ge C 200 dX6_copy_169 (by decide) (fun h169 => ?_) (fun h169 => ?_)
    · refine r_iload C 3 dX6_copy_200 rfl ?_
      exact r_reti (x := x5) (rv := (fun u => some (.int u.1))) (hpE := (fun u => w_X6 u.2)) (t0 := (x5, M')) C dX6_copy_202 (by rfl) (by rfl) (by rfl)
    · refine r_aload_n C 0 dX6_copy_172 rfl ?_
      refine r_get C 0 23 dX6_copy_173 K_X6 rfl rfl (Nat.le_of_ble_eq_true rfl) rfl m_938 rfl ?_
      refine r_bipush C (40) dX6_copy_176 rfl ?_
      refine r_iload_n C 1 dX6_copy_178 rfl ?_
      refine r_imul C dX6_copy_179 ?_
      refine r_iload C 2 dX6_copy_180 rfl ?_
      refine r_iadd C dX6_copy_182 ?_
      refine r_iload C 4 dX6_copy_183 rfl ?_
      refine r_iadd C dX6_copy_185 ?_
      refine r_aload_n C 0 dX6_copy_186 rfl ?_
      refine r_get C 0 24 dX6_copy_187 K_X6 rfl rfl (Nat.le_of_ble_eq_true rfl) rfl m_939 rfl ?_
      refine r_iload C 4 dX6_copy_190 rfl ?_
      refine r_iald C 14 dX6_copy_192 rfl rfl (fun hi192 => ?_)
      refine r_iast C 13 _ dX6_copy_193 rfl rfl rfl (fun hi193 => ?_)
      refine r_iinc C 4 (x6 + 1) [(6, .int (x6 + 1)), (0, .ref 50), (3, .int x3), (4, .int x4), (5, .int x5)] dX6_copy_194 rfl rfl (Nat.le_of_ble_eq_true rfl) rfl ?_
      refine r_goto C 165 dX6_copy_197 (by decide) ?_
      refine r_lv [(0, .ref 50), (3, .int x3), (4, .int x4), (5, .int x5), (6, .int (x6 + 1))] [1, 2, 3, 4, 0] rfl ?_
      exact ih x3 x4 x5 (x6 + 1) (M'.1, (va_up M'.2 23 (upd (M'.2 23) ((((40 : Int32) * x3) + x4) + x6).toNatClampNeg (M'.2 24 x6.toNatClampNeg))))
set_option maxRecDepth 100000 in
set_option maxHeartbeats 4000000 in
theorem k_X6_copy_128 {p : Program} {l : Launch} {e : Env} {s : State} {m : MethodId} {args : Array Value} {below : List Frame} {meth : Method} {c : Code} {dC : Nat → ClassId} {dI : Nat → Nat → Nat} {dA : Nat → ClassId} {A : Nat → Prop} {α : Nat → Nat} {t : Int32 × q_St} (C : q_Cx p s m args meth c cX6_copy 7 RX6 (some .int) "copy" dC dI dA A α) (M : q_St) (a1 : Int32) (a2 : Int32) (a3 : Int32) (a4 : Int32) (a5 : Int32)  : ∀ (n : Nat) (x1 : Int32) (x2 : Int32) (x3 : Int32) (x4 : Int32) (x5 : Int32) (x6 : Int32) (M' : q_St), q_S p l e (q_rm 2 42) s m args below meth c 7 dC dI dA A α (MQ below (q_Q α dC dI dA A ((fun u => some (.int u.1)) t) ((fun u => w_X6 u.2) t)) args s 0 0 A) 0 0 (f_X6_copy_128 M a1 a2 a3 a4 a5  n x1 x2 x3 x4 x5 x6 M') t 128 [(0, .ref 50), (1, .int x1), (2, .int x2), (3, .int x3), (4, .int x4), (5, .int x5), (6, .int x6)] [] (w_X6 M') := by
  intro n
  induction n with
  | zero =>
    intro x1 x2 x3 x4 x5 x6 M'
    exact r_cut (f_X6_copy_128.eq_1 _ _ _ _ _ _ _ _ _ _ _ _ _) (r_none True.intro)
  | succ n ih =>
    intro x1 x2 x3 x4 x5 x6 M'
    refine r_cut (f_X6_copy_128.eq_2 _ _ _ _ _ _ _ _ _ _ _ _ _ _) ?_
    refine r_iload C 6 dX6_copy_128 rfl ?_
    refine r_iload C 5 dX6_copy_130 rfl ?_
    refine r_icmp_ge C 162 dX6_copy_132 (by decide) (fun h132 => ?_) (fun h132 => ?_)
    · refine r_iconst C (0) dX6_copy_162 rfl ?_
      refine r_istore C [(6, .int (0 : Int32)), (0, .ref 50), (1, .int x1), (2, .int x2), (3, .int x3), (4, .int x4), (5, .int x5)] dX6_copy_163 (Nat.le_of_ble_eq_true rfl) rfl ?_
      refine r_lv [(0, .ref 50), (3, .int x3), (4, .int x4), (5, .int x5), (6, .int (0 : Int32))] [1, 4, 5, 6, 0] rfl ?_
      exact k_X6_copy_165 C M a1 a2 a3 a4 a5   q_N x3 x4 x5 (0 : Int32) M'
    · refine r_aload_n C 0 dX6_copy_135 rfl ?_
      refine r_get C 0 24 dX6_copy_136 K_X6 rfl rfl (Nat.le_of_ble_eq_true rfl) rfl m_939 rfl ?_
      refine r_iload C 6 dX6_copy_139 rfl ?_
      refine r_aload_n C 0 dX6_copy_141 rfl ?_
      refine r_get C 0 23 dX6_copy_142 K_X6 rfl rfl (Nat.le_of_ble_eq_true rfl) rfl m_938 rfl ?_
      refine r_bipush C (40) dX6_copy_145 rfl ?_
      refine r_iload_n C 1 dX6_copy_147 rfl ?_
      refine r_imul C dX6_copy_148 ?_
      refine r_iload_n C 2 dX6_copy_149 rfl ?_
      refine r_iadd C dX6_copy_150 ?_
      refine r_iload C 6 dX6_copy_151 rfl ?_
      refine r_iadd C dX6_copy_153 ?_
      refine r_iald C 13 dX6_copy_154 rfl rfl (fun hi154 => ?_)
      refine r_iast C 14 _ dX6_copy_155 rfl rfl rfl (fun hi155 => ?_)
      refine r_iinc C 6 (x6 + 1) [(6, .int (x6 + 1)), (0, .ref 50), (1, .int x1), (2, .int x2), (3, .int x3), (4, .int x4), (5, .int x5)] dX6_copy_156 rfl rfl (Nat.le_of_ble_eq_true rfl) rfl ?_
      refine r_goto C 128 dX6_copy_159 (by decide) ?_
      refine r_lv [(0, .ref 50), (1, .int x1), (2, .int x2), (3, .int x3), (4, .int x4), (5, .int x5), (6, .int (x6 + 1))] [1, 2, 3, 4, 5, 6, 0] rfl ?_
      exact ih x1 x2 x3 x4 x5 (x6 + 1) (M'.1, (va_up M'.2 24 (upd (M'.2 24) x6.toNatClampNeg (M'.2 23 ((((40 : Int32) * x1) + x2) + x6).toNatClampNeg))))
set_option maxRecDepth 100000 in
set_option maxHeartbeats 4000000 in
theorem o_X6_copy (l : Launch) (M : q_St) (a1 : Int32) (a2 : Int32) (a3 : Int32) (a4 : Int32) (a5 : Int32) : q_Ok l yX6_copy cX6_copy 7 (some .int) 2 42 [.ref 50, .int a1, .int a2, .int a3, .int a4, .int a5] (w_X6 M) (f_X6_copy M a1 a2 a3 a4 a5) (fun u => some (.int u.1)) (fun u => w_X6 u.2) := by
  refine q_enter (by decide +kernel) (Nat.le_of_ble_eq_true rfl) (fun t p e s m args below meth c dC dI dA A α C => ?_)
  refine r_cut (f_X6_copy.eq_1 _ _ _ _ _ _) ?_
  show q_S p l e (q_rm 2 42) s m args below meth c 7 dC dI dA A α (MQ below (q_Q α dC dI dA A ((fun u => some (.int u.1)) t) ((fun u => w_X6 u.2) t)) args s 0 0 A) 0 0 _ t 0 [(0, .ref 50), (1, .int a1), (2, .int a2), (3, .int a3), (4, .int a4), (5, .int a5)] [] (w_X6 M)
  refine r_iload_n C 1 dX6_copy_0 rfl ?_
  refine r_callS C (o_X6_isSheet l a1) v_X6_isSheet m_1251 [] [.int a1] [] (fun u1 => [.int u1]) (fun u1 => [.inr (5, [.ref 51, .ref 52, .ref 53, .int (M.1 3), .ref 54, .ref 55, .ref 56, .int (M.1 7), .ref 57, .ref 58, .int (M.1 10), .int (M.1 11), .int (M.1 12), .int (M.1 13), .int (M.1 14), .int (M.1 15), .ref 59, .ref 60, .int (M.1 18), .int (M.1 19), .int (M.1 20), .ref 61, .ref 62, .ref 63, .ref 64]), .inl (0, 68, .inl (M.2 0)), .inl (0, 68, .inl (M.2 1)), .inl (0, 68, .inl (M.2 2)), .inl (0, 8, .inl (M.2 4)), .inl (0, 1053, .inl (M.2 5)), .inl (1, 972, .inl (M.2 6)), .inl (0, 1053, .inl (M.2 8)), .inl (0, 120, .inl (M.2 9)), .inl (3, 7, .inr (.inr (.inr (.inr q_kf)))), .inl (0, 360, .inl (M.2 17)), .inl (0, 4, .inl (M.2 21)), .inl (0, 4, .inl (M.2 22)), .inl (0, 160, .inl (M.2 23)), .inl (0, 40, .inl (M.2 24))]) rfl rfl rfl rfl rfl (Nat.le_of_ble_eq_true rfl) ⟨(Nat.le_of_ble_eq_true rfl), (Nat.le_of_ble_eq_true rfl)⟩ ⟨Nat.zero_le _, Nat.zero_le _⟩ dX6_copy_1 (fun _ => rfl) (fun _ => rfl) (fun _ => rfl) (fun u1 => ?_)
  refine r_if_eq C 14 dX6_copy_4 (by decide) (fun h4 => ?_) (fun h4 => ?_)
  · refine r_aload_n C 0 dX6_copy_14 rfl ?_
    refine r_ldc C (-1000001) dX6_copy_15 m_1002 ?_
    refine r_callV0 C (o_X6_finding l M (-1000001 : Int32)) v_X6_finding m_1003 [.int (-1000001 : Int32)] [] (50) (Or.inl ⟨0, 5, _, TX6, 25, rfl, rfl, rfl⟩) (fun u2 => [.int u2.1]) (fun u2 => [.inr (5, [.ref 51, .ref 52, .ref 53, .int (u2.2.1 3), .ref 54, .ref 55, .ref 56, .int (u2.2.1 7), .ref 57, .ref 58, .int (u2.2.1 10), .int (u2.2.1 11), .int (u2.2.1 12), .int (u2.2.1 13), .int (u2.2.1 14), .int (u2.2.1 15), .ref 59, .ref 60, .int (u2.2.1 18), .int (u2.2.1 19), .int (u2.2.1 20), .ref 61, .ref 62, .ref 63, .ref 64]), .inl (0, 68, .inl (u2.2.2 0)), .inl (0, 68, .inl (u2.2.2 1)), .inl (0, 68, .inl (u2.2.2 2)), .inl (0, 8, .inl (u2.2.2 4)), .inl (0, 1053, .inl (u2.2.2 5)), .inl (1, 972, .inl (u2.2.2 6)), .inl (0, 1053, .inl (u2.2.2 8)), .inl (0, 120, .inl (u2.2.2 9)), .inl (3, 7, .inr (.inr (.inr (.inr q_kf)))), .inl (0, 360, .inl (u2.2.2 17)), .inl (0, 4, .inl (u2.2.2 21)), .inl (0, 4, .inl (u2.2.2 22)), .inl (0, 160, .inl (u2.2.2 23)), .inl (0, 40, .inl (u2.2.2 24))]) rfl rfl rfl (Nat.le_of_ble_eq_true rfl) ⟨(Nat.le_of_ble_eq_true rfl), (Nat.le_of_ble_eq_true rfl)⟩ ⟨Nat.zero_le _, Nat.zero_le _⟩ dX6_copy_17 (fun _ => rfl) (fun _ => rfl) (fun _ => rfl) (fun u2 => ?_)
    exact r_reti (x := u2.1) (rv := (fun u => some (.int u.1))) (hpE := (fun u => w_X6 u.2)) (t0 := (u2.1, u2.2)) C dX6_copy_20 (by rfl) (by rfl) (by rfl)
  · refine r_iload_n C 3 dX6_copy_7 rfl ?_
    refine r_callS C (o_X6_isSheet l a3) v_X6_isSheet m_1251 [] [.int a3] [] (fun u3 => [.int u3]) (fun u3 => [.inr (5, [.ref 51, .ref 52, .ref 53, .int (M.1 3), .ref 54, .ref 55, .ref 56, .int (M.1 7), .ref 57, .ref 58, .int (M.1 10), .int (M.1 11), .int (M.1 12), .int (M.1 13), .int (M.1 14), .int (M.1 15), .ref 59, .ref 60, .int (M.1 18), .int (M.1 19), .int (M.1 20), .ref 61, .ref 62, .ref 63, .ref 64]), .inl (0, 68, .inl (M.2 0)), .inl (0, 68, .inl (M.2 1)), .inl (0, 68, .inl (M.2 2)), .inl (0, 8, .inl (M.2 4)), .inl (0, 1053, .inl (M.2 5)), .inl (1, 972, .inl (M.2 6)), .inl (0, 1053, .inl (M.2 8)), .inl (0, 120, .inl (M.2 9)), .inl (3, 7, .inr (.inr (.inr (.inr q_kf)))), .inl (0, 360, .inl (M.2 17)), .inl (0, 4, .inl (M.2 21)), .inl (0, 4, .inl (M.2 22)), .inl (0, 160, .inl (M.2 23)), .inl (0, 40, .inl (M.2 24))]) rfl rfl rfl rfl rfl (Nat.le_of_ble_eq_true rfl) ⟨(Nat.le_of_ble_eq_true rfl), (Nat.le_of_ble_eq_true rfl)⟩ ⟨Nat.zero_le _, Nat.zero_le _⟩ dX6_copy_8 (fun _ => rfl) (fun _ => rfl) (fun _ => rfl) (fun u3 => ?_)
    refine r_if_ne C 21 dX6_copy_11 (by decide) (fun h11 => ?_) (fun h11 => ?_)
    · refine r_aload_n C 0 dX6_copy_14 rfl ?_
      refine r_ldc C (-1000001) dX6_copy_15 m_1002 ?_
      refine r_callV0 C (o_X6_finding l M (-1000001 : Int32)) v_X6_finding m_1003 [.int (-1000001 : Int32)] [] (50) (Or.inl ⟨0, 5, _, TX6, 25, rfl, rfl, rfl⟩) (fun u12 => [.int u12.1]) (fun u12 => [.inr (5, [.ref 51, .ref 52, .ref 53, .int (u12.2.1 3), .ref 54, .ref 55, .ref 56, .int (u12.2.1 7), .ref 57, .ref 58, .int (u12.2.1 10), .int (u12.2.1 11), .int (u12.2.1 12), .int (u12.2.1 13), .int (u12.2.1 14), .int (u12.2.1 15), .ref 59, .ref 60, .int (u12.2.1 18), .int (u12.2.1 19), .int (u12.2.1 20), .ref 61, .ref 62, .ref 63, .ref 64]), .inl (0, 68, .inl (u12.2.2 0)), .inl (0, 68, .inl (u12.2.2 1)), .inl (0, 68, .inl (u12.2.2 2)), .inl (0, 8, .inl (u12.2.2 4)), .inl (0, 1053, .inl (u12.2.2 5)), .inl (1, 972, .inl (u12.2.2 6)), .inl (0, 1053, .inl (u12.2.2 8)), .inl (0, 120, .inl (u12.2.2 9)), .inl (3, 7, .inr (.inr (.inr (.inr q_kf)))), .inl (0, 360, .inl (u12.2.2 17)), .inl (0, 4, .inl (u12.2.2 21)), .inl (0, 4, .inl (u12.2.2 22)), .inl (0, 160, .inl (u12.2.2 23)), .inl (0, 40, .inl (u12.2.2 24))]) rfl rfl rfl (Nat.le_of_ble_eq_true rfl) ⟨(Nat.le_of_ble_eq_true rfl), (Nat.le_of_ble_eq_true rfl)⟩ ⟨Nat.zero_le _, Nat.zero_le _⟩ dX6_copy_17 (fun _ => rfl) (fun _ => rfl) (fun _ => rfl) (fun u12 => ?_)
      exact r_reti (x := u12.1) (rv := (fun u => some (.int u.1))) (hpE := (fun u => w_X6 u.2)) (t0 := (u12.1, u12.2)) C dX6_copy_20 (by rfl) (by rfl) (by rfl)
    · refine r_aload_n C 0 dX6_copy_21 rfl ?_
      refine r_get C 0 21 dX6_copy_22 K_X6 rfl rfl (Nat.le_of_ble_eq_true rfl) rfl m_936 rfl ?_
      refine r_iload_n C 1 dX6_copy_25 rfl ?_
      refine r_iald C 11 dX6_copy_26 rfl rfl (fun hi26 => ?_)
      refine r_if_eq C 39 dX6_copy_27 (by decide) (fun h27 => ?_) (fun h27 => ?_)
      · refine r_aload_n C 0 dX6_copy_39 rfl ?_
        refine r_ldc C (-1000006) dX6_copy_40 m_1254 ?_
        refine r_callV0 C (o_X6_finding l M (-1000006 : Int32)) v_X6_finding m_1003 [.int (-1000006 : Int32)] [] (50) (Or.inl ⟨0, 5, _, TX6, 25, rfl, rfl, rfl⟩) (fun u4 => [.int u4.1]) (fun u4 => [.inr (5, [.ref 51, .ref 52, .ref 53, .int (u4.2.1 3), .ref 54, .ref 55, .ref 56, .int (u4.2.1 7), .ref 57, .ref 58, .int (u4.2.1 10), .int (u4.2.1 11), .int (u4.2.1 12), .int (u4.2.1 13), .int (u4.2.1 14), .int (u4.2.1 15), .ref 59, .ref 60, .int (u4.2.1 18), .int (u4.2.1 19), .int (u4.2.1 20), .ref 61, .ref 62, .ref 63, .ref 64]), .inl (0, 68, .inl (u4.2.2 0)), .inl (0, 68, .inl (u4.2.2 1)), .inl (0, 68, .inl (u4.2.2 2)), .inl (0, 8, .inl (u4.2.2 4)), .inl (0, 1053, .inl (u4.2.2 5)), .inl (1, 972, .inl (u4.2.2 6)), .inl (0, 1053, .inl (u4.2.2 8)), .inl (0, 120, .inl (u4.2.2 9)), .inl (3, 7, .inr (.inr (.inr (.inr q_kf)))), .inl (0, 360, .inl (u4.2.2 17)), .inl (0, 4, .inl (u4.2.2 21)), .inl (0, 4, .inl (u4.2.2 22)), .inl (0, 160, .inl (u4.2.2 23)), .inl (0, 40, .inl (u4.2.2 24))]) rfl rfl rfl (Nat.le_of_ble_eq_true rfl) ⟨(Nat.le_of_ble_eq_true rfl), (Nat.le_of_ble_eq_true rfl)⟩ ⟨Nat.zero_le _, Nat.zero_le _⟩ dX6_copy_42 (fun _ => rfl) (fun _ => rfl) (fun _ => rfl) (fun u4 => ?_)
        exact r_reti (x := u4.1) (rv := (fun u => some (.int u.1))) (hpE := (fun u => w_X6 u.2)) (t0 := (u4.1, u4.2)) C dX6_copy_45 (by rfl) (by rfl) (by rfl)
      · refine r_aload_n C 0 dX6_copy_30 rfl ?_
        refine r_get C 0 21 dX6_copy_31 K_X6 rfl rfl (Nat.le_of_ble_eq_true rfl) rfl m_936 rfl ?_
        refine r_iload_n C 3 dX6_copy_34 rfl ?_
        refine r_iald C 11 dX6_copy_35 rfl rfl (fun hi35 => ?_)
        refine r_if_ne C 46 dX6_copy_36 (by decide) (fun h36 => ?_) (fun h36 => ?_)
        · refine r_aload_n C 0 dX6_copy_39 rfl ?_
          refine r_ldc C (-1000006) dX6_copy_40 m_1254 ?_
          refine r_callV0 C (o_X6_finding l M (-1000006 : Int32)) v_X6_finding m_1003 [.int (-1000006 : Int32)] [] (50) (Or.inl ⟨0, 5, _, TX6, 25, rfl, rfl, rfl⟩) (fun u11 => [.int u11.1]) (fun u11 => [.inr (5, [.ref 51, .ref 52, .ref 53, .int (u11.2.1 3), .ref 54, .ref 55, .ref 56, .int (u11.2.1 7), .ref 57, .ref 58, .int (u11.2.1 10), .int (u11.2.1 11), .int (u11.2.1 12), .int (u11.2.1 13), .int (u11.2.1 14), .int (u11.2.1 15), .ref 59, .ref 60, .int (u11.2.1 18), .int (u11.2.1 19), .int (u11.2.1 20), .ref 61, .ref 62, .ref 63, .ref 64]), .inl (0, 68, .inl (u11.2.2 0)), .inl (0, 68, .inl (u11.2.2 1)), .inl (0, 68, .inl (u11.2.2 2)), .inl (0, 8, .inl (u11.2.2 4)), .inl (0, 1053, .inl (u11.2.2 5)), .inl (1, 972, .inl (u11.2.2 6)), .inl (0, 1053, .inl (u11.2.2 8)), .inl (0, 120, .inl (u11.2.2 9)), .inl (3, 7, .inr (.inr (.inr (.inr q_kf)))), .inl (0, 360, .inl (u11.2.2 17)), .inl (0, 4, .inl (u11.2.2 21)), .inl (0, 4, .inl (u11.2.2 22)), .inl (0, 160, .inl (u11.2.2 23)), .inl (0, 40, .inl (u11.2.2 24))]) rfl rfl rfl (Nat.le_of_ble_eq_true rfl) ⟨(Nat.le_of_ble_eq_true rfl), (Nat.le_of_ble_eq_true rfl)⟩ ⟨Nat.zero_le _, Nat.zero_le _⟩ dX6_copy_42 (fun _ => rfl) (fun _ => rfl) (fun _ => rfl) (fun u11 => ?_)
          exact r_reti (x := u11.1) (rv := (fun u => some (.int u.1))) (hpE := (fun u => w_X6 u.2)) (t0 := (u11.1, u11.2)) C dX6_copy_45 (by rfl) (by rfl) (by rfl)
        · refine r_aload_n C 0 dX6_copy_46 rfl ?_
          refine r_get C 0 21 dX6_copy_47 K_X6 rfl rfl (Nat.le_of_ble_eq_true rfl) rfl m_936 rfl ?_
          refine r_iload_n C 1 dX6_copy_50 rfl ?_
          refine r_iald C 11 dX6_copy_51 rfl rfl (fun hi51 => ?_)
          refine r_aload_n C 0 dX6_copy_52 rfl ?_
          refine r_get C 0 21 dX6_copy_53 K_X6 rfl rfl (Nat.le_of_ble_eq_true rfl) rfl m_936 rfl ?_
          refine r_iload_n C 3 dX6_copy_56 rfl ?_
          refine r_iald C 11 dX6_copy_57 rfl rfl (fun hi57 => ?_)
          refine r_icmp_eq C 69 dX6_copy_58 (by decide) (fun h58 => ?_) (fun h58 => ?_)
          · refine r_iload_n C 2 dX6_copy_69 rfl ?_
            refine r_if_lt C 118 dX6_copy_70 (by decide) (fun h70 => ?_) (fun h70 => ?_)
            · refine r_aload_n C 0 dX6_copy_118 rfl ?_
              refine r_ldc C (-1000001) dX6_copy_119 m_1002 ?_
              refine r_callV0 C (o_X6_finding l M (-1000001 : Int32)) v_X6_finding m_1003 [.int (-1000001 : Int32)] [] (50) (Or.inl ⟨0, 5, _, TX6, 25, rfl, rfl, rfl⟩) (fun u5 => [.int u5.1]) (fun u5 => [.inr (5, [.ref 51, .ref 52, .ref 53, .int (u5.2.1 3), .ref 54, .ref 55, .ref 56, .int (u5.2.1 7), .ref 57, .ref 58, .int (u5.2.1 10), .int (u5.2.1 11), .int (u5.2.1 12), .int (u5.2.1 13), .int (u5.2.1 14), .int (u5.2.1 15), .ref 59, .ref 60, .int (u5.2.1 18), .int (u5.2.1 19), .int (u5.2.1 20), .ref 61, .ref 62, .ref 63, .ref 64]), .inl (0, 68, .inl (u5.2.2 0)), .inl (0, 68, .inl (u5.2.2 1)), .inl (0, 68, .inl (u5.2.2 2)), .inl (0, 8, .inl (u5.2.2 4)), .inl (0, 1053, .inl (u5.2.2 5)), .inl (1, 972, .inl (u5.2.2 6)), .inl (0, 1053, .inl (u5.2.2 8)), .inl (0, 120, .inl (u5.2.2 9)), .inl (3, 7, .inr (.inr (.inr (.inr q_kf)))), .inl (0, 360, .inl (u5.2.2 17)), .inl (0, 4, .inl (u5.2.2 21)), .inl (0, 4, .inl (u5.2.2 22)), .inl (0, 160, .inl (u5.2.2 23)), .inl (0, 40, .inl (u5.2.2 24))]) rfl rfl rfl (Nat.le_of_ble_eq_true rfl) ⟨(Nat.le_of_ble_eq_true rfl), (Nat.le_of_ble_eq_true rfl)⟩ ⟨Nat.zero_le _, Nat.zero_le _⟩ dX6_copy_121 (fun _ => rfl) (fun _ => rfl) (fun _ => rfl) (fun u5 => ?_)
              exact r_reti (x := u5.1) (rv := (fun u => some (.int u.1))) (hpE := (fun u => w_X6 u.2)) (t0 := (u5.1, u5.2)) C dX6_copy_124 (by rfl) (by rfl) (by rfl)
            · refine r_iload C 4 dX6_copy_73 rfl ?_
              refine r_if_lt C 118 dX6_copy_75 (by decide) (fun h75 => ?_) (fun h75 => ?_)
              · refine r_aload_n C 0 dX6_copy_118 rfl ?_
                refine r_ldc C (-1000001) dX6_copy_119 m_1002 ?_
                refine r_callV0 C (o_X6_finding l M (-1000001 : Int32)) v_X6_finding m_1003 [.int (-1000001 : Int32)] [] (50) (Or.inl ⟨0, 5, _, TX6, 25, rfl, rfl, rfl⟩) (fun u6 => [.int u6.1]) (fun u6 => [.inr (5, [.ref 51, .ref 52, .ref 53, .int (u6.2.1 3), .ref 54, .ref 55, .ref 56, .int (u6.2.1 7), .ref 57, .ref 58, .int (u6.2.1 10), .int (u6.2.1 11), .int (u6.2.1 12), .int (u6.2.1 13), .int (u6.2.1 14), .int (u6.2.1 15), .ref 59, .ref 60, .int (u6.2.1 18), .int (u6.2.1 19), .int (u6.2.1 20), .ref 61, .ref 62, .ref 63, .ref 64]), .inl (0, 68, .inl (u6.2.2 0)), .inl (0, 68, .inl (u6.2.2 1)), .inl (0, 68, .inl (u6.2.2 2)), .inl (0, 8, .inl (u6.2.2 4)), .inl (0, 1053, .inl (u6.2.2 5)), .inl (1, 972, .inl (u6.2.2 6)), .inl (0, 1053, .inl (u6.2.2 8)), .inl (0, 120, .inl (u6.2.2 9)), .inl (3, 7, .inr (.inr (.inr (.inr q_kf)))), .inl (0, 360, .inl (u6.2.2 17)), .inl (0, 4, .inl (u6.2.2 21)), .inl (0, 4, .inl (u6.2.2 22)), .inl (0, 160, .inl (u6.2.2 23)), .inl (0, 40, .inl (u6.2.2 24))]) rfl rfl rfl (Nat.le_of_ble_eq_true rfl) ⟨(Nat.le_of_ble_eq_true rfl), (Nat.le_of_ble_eq_true rfl)⟩ ⟨Nat.zero_le _, Nat.zero_le _⟩ dX6_copy_121 (fun _ => rfl) (fun _ => rfl) (fun _ => rfl) (fun u6 => ?_)
                exact r_reti (x := u6.1) (rv := (fun u => some (.int u.1))) (hpE := (fun u => w_X6 u.2)) (t0 := (u6.1, u6.2)) C dX6_copy_124 (by rfl) (by rfl) (by rfl)
              · refine r_iload C 5 dX6_copy_78 rfl ?_
                refine r_if_lt C 118 dX6_copy_80 (by decide) (fun h80 => ?_) (fun h80 => ?_)
                · refine r_aload_n C 0 dX6_copy_118 rfl ?_
                  refine r_ldc C (-1000001) dX6_copy_119 m_1002 ?_
                  refine r_callV0 C (o_X6_finding l M (-1000001 : Int32)) v_X6_finding m_1003 [.int (-1000001 : Int32)] [] (50) (Or.inl ⟨0, 5, _, TX6, 25, rfl, rfl, rfl⟩) (fun u7 => [.int u7.1]) (fun u7 => [.inr (5, [.ref 51, .ref 52, .ref 53, .int (u7.2.1 3), .ref 54, .ref 55, .ref 56, .int (u7.2.1 7), .ref 57, .ref 58, .int (u7.2.1 10), .int (u7.2.1 11), .int (u7.2.1 12), .int (u7.2.1 13), .int (u7.2.1 14), .int (u7.2.1 15), .ref 59, .ref 60, .int (u7.2.1 18), .int (u7.2.1 19), .int (u7.2.1 20), .ref 61, .ref 62, .ref 63, .ref 64]), .inl (0, 68, .inl (u7.2.2 0)), .inl (0, 68, .inl (u7.2.2 1)), .inl (0, 68, .inl (u7.2.2 2)), .inl (0, 8, .inl (u7.2.2 4)), .inl (0, 1053, .inl (u7.2.2 5)), .inl (1, 972, .inl (u7.2.2 6)), .inl (0, 1053, .inl (u7.2.2 8)), .inl (0, 120, .inl (u7.2.2 9)), .inl (3, 7, .inr (.inr (.inr (.inr q_kf)))), .inl (0, 360, .inl (u7.2.2 17)), .inl (0, 4, .inl (u7.2.2 21)), .inl (0, 4, .inl (u7.2.2 22)), .inl (0, 160, .inl (u7.2.2 23)), .inl (0, 40, .inl (u7.2.2 24))]) rfl rfl rfl (Nat.le_of_ble_eq_true rfl) ⟨(Nat.le_of_ble_eq_true rfl), (Nat.le_of_ble_eq_true rfl)⟩ ⟨Nat.zero_le _, Nat.zero_le _⟩ dX6_copy_121 (fun _ => rfl) (fun _ => rfl) (fun _ => rfl) (fun u7 => ?_)
                  exact r_reti (x := u7.1) (rv := (fun u => some (.int u.1))) (hpE := (fun u => w_X6 u.2)) (t0 := (u7.1, u7.2)) C dX6_copy_124 (by rfl) (by rfl) (by rfl)
                · refine r_iload_n C 2 dX6_copy_83 rfl ?_
                  refine r_i2l C dX6_copy_84 ?_
                  refine r_iload C 5 dX6_copy_85 rfl ?_
                  refine r_i2l C dX6_copy_87 ?_
                  refine r_ladd C dX6_copy_88 ?_
                  refine r_aload_n C 0 dX6_copy_89 rfl ?_
                  refine r_get C 0 22 dX6_copy_90 K_X6 rfl rfl (Nat.le_of_ble_eq_true rfl) rfl m_937 rfl ?_
                  refine r_iload_n C 1 dX6_copy_93 rfl ?_
                  refine r_iald C 12 dX6_copy_94 rfl rfl (fun hi94 => ?_)
                  refine r_i2l C dX6_copy_95 ?_
                  refine r_lcmp C dX6_copy_96 ?_
                  refine r_if_gt C 118 dX6_copy_97 (by decide) (fun h97 => ?_) (fun h97 => ?_)
                  · refine r_aload_n C 0 dX6_copy_118 rfl ?_
                    refine r_ldc C (-1000001) dX6_copy_119 m_1002 ?_
                    refine r_callV0 C (o_X6_finding l M (-1000001 : Int32)) v_X6_finding m_1003 [.int (-1000001 : Int32)] [] (50) (Or.inl ⟨0, 5, _, TX6, 25, rfl, rfl, rfl⟩) (fun u8 => [.int u8.1]) (fun u8 => [.inr (5, [.ref 51, .ref 52, .ref 53, .int (u8.2.1 3), .ref 54, .ref 55, .ref 56, .int (u8.2.1 7), .ref 57, .ref 58, .int (u8.2.1 10), .int (u8.2.1 11), .int (u8.2.1 12), .int (u8.2.1 13), .int (u8.2.1 14), .int (u8.2.1 15), .ref 59, .ref 60, .int (u8.2.1 18), .int (u8.2.1 19), .int (u8.2.1 20), .ref 61, .ref 62, .ref 63, .ref 64]), .inl (0, 68, .inl (u8.2.2 0)), .inl (0, 68, .inl (u8.2.2 1)), .inl (0, 68, .inl (u8.2.2 2)), .inl (0, 8, .inl (u8.2.2 4)), .inl (0, 1053, .inl (u8.2.2 5)), .inl (1, 972, .inl (u8.2.2 6)), .inl (0, 1053, .inl (u8.2.2 8)), .inl (0, 120, .inl (u8.2.2 9)), .inl (3, 7, .inr (.inr (.inr (.inr q_kf)))), .inl (0, 360, .inl (u8.2.2 17)), .inl (0, 4, .inl (u8.2.2 21)), .inl (0, 4, .inl (u8.2.2 22)), .inl (0, 160, .inl (u8.2.2 23)), .inl (0, 40, .inl (u8.2.2 24))]) rfl rfl rfl (Nat.le_of_ble_eq_true rfl) ⟨(Nat.le_of_ble_eq_true rfl), (Nat.le_of_ble_eq_true rfl)⟩ ⟨Nat.zero_le _, Nat.zero_le _⟩ dX6_copy_121 (fun _ => rfl) (fun _ => rfl) (fun _ => rfl) (fun u8 => ?_)
                    exact r_reti (x := u8.1) (rv := (fun u => some (.int u.1))) (hpE := (fun u => w_X6 u.2)) (t0 := (u8.1, u8.2)) C dX6_copy_124 (by rfl) (by rfl) (by rfl)
                  · refine r_iload C 4 dX6_copy_100 rfl ?_
                    refine r_i2l C dX6_copy_102 ?_
                    refine r_iload C 5 dX6_copy_103 rfl ?_
                    refine r_i2l C dX6_copy_105 ?_
                    refine r_ladd C dX6_copy_106 ?_
                    refine r_aload_n C 0 dX6_copy_107 rfl ?_
                    refine r_get C 0 22 dX6_copy_108 K_X6 rfl rfl (Nat.le_of_ble_eq_true rfl) rfl m_937 rfl ?_
                    refine r_iload_n C 3 dX6_copy_111 rfl ?_
                    refine r_iald C 12 dX6_copy_112 rfl rfl (fun hi112 => ?_)
                    refine r_i2l C dX6_copy_113 ?_
                    refine r_lcmp C dX6_copy_114 ?_
                    refine r_if_le C 125 dX6_copy_115 (by decide) (fun h115 => ?_) (fun h115 => ?_)
                    · refine r_iconst C (0) dX6_copy_125 rfl ?_
                      refine r_istore C [(6, .int (0 : Int32)), (0, .ref 50), (1, .int a1), (2, .int a2), (3, .int a3), (4, .int a4), (5, .int a5)] dX6_copy_126 (Nat.le_of_ble_eq_true rfl) rfl ?_
                      refine r_lv [(0, .ref 50), (1, .int a1), (2, .int a2), (3, .int a3), (4, .int a4), (5, .int a5), (6, .int (0 : Int32))] [1, 2, 3, 4, 5, 6, 0] rfl ?_
                      exact k_X6_copy_128 C M a1 a2 a3 a4 a5   q_N a1 a2 a3 a4 a5 (0 : Int32) M
                    · refine r_aload_n C 0 dX6_copy_118 rfl ?_
                      refine r_ldc C (-1000001) dX6_copy_119 m_1002 ?_
                      refine r_callV0 C (o_X6_finding l M (-1000001 : Int32)) v_X6_finding m_1003 [.int (-1000001 : Int32)] [] (50) (Or.inl ⟨0, 5, _, TX6, 25, rfl, rfl, rfl⟩) (fun u9 => [.int u9.1]) (fun u9 => [.inr (5, [.ref 51, .ref 52, .ref 53, .int (u9.2.1 3), .ref 54, .ref 55, .ref 56, .int (u9.2.1 7), .ref 57, .ref 58, .int (u9.2.1 10), .int (u9.2.1 11), .int (u9.2.1 12), .int (u9.2.1 13), .int (u9.2.1 14), .int (u9.2.1 15), .ref 59, .ref 60, .int (u9.2.1 18), .int (u9.2.1 19), .int (u9.2.1 20), .ref 61, .ref 62, .ref 63, .ref 64]), .inl (0, 68, .inl (u9.2.2 0)), .inl (0, 68, .inl (u9.2.2 1)), .inl (0, 68, .inl (u9.2.2 2)), .inl (0, 8, .inl (u9.2.2 4)), .inl (0, 1053, .inl (u9.2.2 5)), .inl (1, 972, .inl (u9.2.2 6)), .inl (0, 1053, .inl (u9.2.2 8)), .inl (0, 120, .inl (u9.2.2 9)), .inl (3, 7, .inr (.inr (.inr (.inr q_kf)))), .inl (0, 360, .inl (u9.2.2 17)), .inl (0, 4, .inl (u9.2.2 21)), .inl (0, 4, .inl (u9.2.2 22)), .inl (0, 160, .inl (u9.2.2 23)), .inl (0, 40, .inl (u9.2.2 24))]) rfl rfl rfl (Nat.le_of_ble_eq_true rfl) ⟨(Nat.le_of_ble_eq_true rfl), (Nat.le_of_ble_eq_true rfl)⟩ ⟨Nat.zero_le _, Nat.zero_le _⟩ dX6_copy_121 (fun _ => rfl) (fun _ => rfl) (fun _ => rfl) (fun u9 => ?_)
                      exact r_reti (x := u9.1) (rv := (fun u => some (.int u.1))) (hpE := (fun u => w_X6 u.2)) (t0 := (u9.1, u9.2)) C dX6_copy_124 (by rfl) (by rfl) (by rfl)
          · refine r_aload_n C 0 dX6_copy_61 rfl ?_
            refine r_ldcw C (-1000003) dX6_copy_62 m_1391 ?_
            refine r_callV0 C (o_X6_finding l M (-1000003 : Int32)) v_X6_finding m_1003 [.int (-1000003 : Int32)] [] (50) (Or.inl ⟨0, 5, _, TX6, 25, rfl, rfl, rfl⟩) (fun u10 => [.int u10.1]) (fun u10 => [.inr (5, [.ref 51, .ref 52, .ref 53, .int (u10.2.1 3), .ref 54, .ref 55, .ref 56, .int (u10.2.1 7), .ref 57, .ref 58, .int (u10.2.1 10), .int (u10.2.1 11), .int (u10.2.1 12), .int (u10.2.1 13), .int (u10.2.1 14), .int (u10.2.1 15), .ref 59, .ref 60, .int (u10.2.1 18), .int (u10.2.1 19), .int (u10.2.1 20), .ref 61, .ref 62, .ref 63, .ref 64]), .inl (0, 68, .inl (u10.2.2 0)), .inl (0, 68, .inl (u10.2.2 1)), .inl (0, 68, .inl (u10.2.2 2)), .inl (0, 8, .inl (u10.2.2 4)), .inl (0, 1053, .inl (u10.2.2 5)), .inl (1, 972, .inl (u10.2.2 6)), .inl (0, 1053, .inl (u10.2.2 8)), .inl (0, 120, .inl (u10.2.2 9)), .inl (3, 7, .inr (.inr (.inr (.inr q_kf)))), .inl (0, 360, .inl (u10.2.2 17)), .inl (0, 4, .inl (u10.2.2 21)), .inl (0, 4, .inl (u10.2.2 22)), .inl (0, 160, .inl (u10.2.2 23)), .inl (0, 40, .inl (u10.2.2 24))]) rfl rfl rfl (Nat.le_of_ble_eq_true rfl) ⟨(Nat.le_of_ble_eq_true rfl), (Nat.le_of_ble_eq_true rfl)⟩ ⟨Nat.zero_le _, Nat.zero_le _⟩ dX6_copy_65 (fun _ => rfl) (fun _ => rfl) (fun _ => rfl) (fun u10 => ?_)
            exact r_reti (x := u10.1) (rv := (fun u => some (.int u.1))) (hpE := (fun u => w_X6 u.2)) (t0 := (u10.1, u10.2)) C dX6_copy_68 (by rfl) (by rfl) (by rfl)
set_option maxRecDepth 100000 in
set_option maxHeartbeats 4000000 in
theorem k_X6_load_32 {p : Program} {l : Launch} {e : Env} {s : State} {m : MethodId} {args : Array Value} {below : List Frame} {meth : Method} {c : Code} {dC : Nat → ClassId} {dI : Nat → Nat → Nat} {dA : Nat → ClassId} {A : Nat → Prop} {α : Nat → Nat} {t : Int32 × q_St} (C : q_Cx p s m args meth c cX6_load 3 RX6 (some .int) "load" dC dI dA A α) (M : q_St) (a1 : Int32)  : ∀ (n : Nat) (x1 : Int32) (x2 : Int32) (M' : q_St), q_S p l e (q_rm 2 43) s m args below meth c 3 dC dI dA A α (MQ below (q_Q α dC dI dA A ((fun u => some (.int u.1)) t) ((fun u => w_X6 u.2) t)) args s 0 0 A) 0 0 (f_X6_load_32 M a1  n x1 x2 M') t 32 [(0, .ref 50), (1, .int x1), (2, .int x2)] [] (w_X6 M') := by
  intro n
  induction n with
  | zero =>
    intro x1 x2 M'
    exact r_cut (f_X6_load_32.eq_1 _ _ _ _ _) (r_none True.intro)
  | succ n ih =>
    intro x1 x2 M'
    refine r_cut (f_X6_load_32.eq_2 _ _ _ _ _ _) ?_
    refine r_iload_n C 2 dX6_load_32 rfl ?_
    refine r_aload_n C 0 dX6_load_33 rfl ?_
    refine r_get C 0 22 dX6_load_34 K_X6 rfl rfl (Nat.le_of_ble_eq_true rfl) rfl m_937 rfl ?_
    refine r_iload_n C 1 dX6_load_37 rfl ?_
    refine r_iald C 12 dX6_load_38 rfl rfl (fun hi38 => ?_)
    refine r_icmp_ge C 97 dX6_load_39 (by decide) (fun h39 => ?_) (fun h39 => ?_)
    · refine r_iload_n C 2 dX6_load_97 rfl ?_
      exact r_reti (x := x2) (rv := (fun u => some (.int u.1))) (hpE := (fun u => w_X6 u.2)) (t0 := (x2, M')) C dX6_load_98 (by rfl) (by rfl) (by rfl)
    · refine r_aload_n C 0 dX6_load_42 rfl ?_
      refine r_iload_n C 2 dX6_load_43 rfl ?_
      refine r_callV0 C (o_X6_isDoll l M' x2) v_X6_isDoll m_1019 [.int x2] [] (50) (Or.inl ⟨0, 5, _, TX6, 25, rfl, rfl, rfl⟩) (fun u4 => [.int u4]) (fun u4 => [.inr (5, [.ref 51, .ref 52, .ref 53, .int (M'.1 3), .ref 54, .ref 55, .ref 56, .int (M'.1 7), .ref 57, .ref 58, .int (M'.1 10), .int (M'.1 11), .int (M'.1 12), .int (M'.1 13), .int (M'.1 14), .int (M'.1 15), .ref 59, .ref 60, .int (M'.1 18), .int (M'.1 19), .int (M'.1 20), .ref 61, .ref 62, .ref 63, .ref 64]), .inl (0, 68, .inl (M'.2 0)), .inl (0, 68, .inl (M'.2 1)), .inl (0, 68, .inl (M'.2 2)), .inl (0, 8, .inl (M'.2 4)), .inl (0, 1053, .inl (M'.2 5)), .inl (1, 972, .inl (M'.2 6)), .inl (0, 1053, .inl (M'.2 8)), .inl (0, 120, .inl (M'.2 9)), .inl (3, 7, .inr (.inr (.inr (.inr q_kf)))), .inl (0, 360, .inl (M'.2 17)), .inl (0, 4, .inl (M'.2 21)), .inl (0, 4, .inl (M'.2 22)), .inl (0, 160, .inl (M'.2 23)), .inl (0, 40, .inl (M'.2 24))]) rfl rfl rfl (Nat.le_of_ble_eq_true rfl) ⟨(Nat.le_of_ble_eq_true rfl), (Nat.le_of_ble_eq_true rfl)⟩ ⟨Nat.zero_le _, Nat.zero_le _⟩ dX6_load_44 (fun _ => rfl) (fun _ => rfl) (fun _ => rfl) (fun u4 => ?_)
      refine r_if_eq C 97 dX6_load_47 (by decide) (fun h47 => ?_) (fun h47 => ?_)
      · refine r_iload_n C 2 dX6_load_97 rfl ?_
        exact r_reti (x := x2) (rv := (fun u => some (.int u.1))) (hpE := (fun u => w_X6 u.2)) (t0 := (x2, M')) C dX6_load_98 (by rfl) (by rfl) (by rfl)
      · refine r_aload_n C 0 dX6_load_50 rfl ?_
        refine r_get C 0 23 dX6_load_51 K_X6 rfl rfl (Nat.le_of_ble_eq_true rfl) rfl m_938 rfl ?_
        refine r_bipush C (40) dX6_load_54 rfl ?_
        refine r_iload_n C 1 dX6_load_56 rfl ?_
        refine r_imul C dX6_load_57 ?_
        refine r_iload_n C 2 dX6_load_58 rfl ?_
        refine r_iadd C dX6_load_59 ?_
        refine r_iald C 13 dX6_load_60 rfl rfl (fun hi60 => ?_)
        refine r_iconst C (1) dX6_load_61 rfl ?_
        refine r_bipush C (9) dX6_load_62 rfl ?_
        refine r_callS C (o_X6_within l (M'.2 23 (((40 : Int32) * x1) + x2).toNatClampNeg) (1 : Int32) (9 : Int32)) v_X6_within m_999 [] [.int (M'.2 23 (((40 : Int32) * x1) + x2).toNatClampNeg), .int (1 : Int32), .int (9 : Int32)] [] (fun u5 => [.int u5]) (fun u5 => [.inr (5, [.ref 51, .ref 52, .ref 53, .int (M'.1 3), .ref 54, .ref 55, .ref 56, .int (M'.1 7), .ref 57, .ref 58, .int (M'.1 10), .int (M'.1 11), .int (M'.1 12), .int (M'.1 13), .int (M'.1 14), .int (M'.1 15), .ref 59, .ref 60, .int (M'.1 18), .int (M'.1 19), .int (M'.1 20), .ref 61, .ref 62, .ref 63, .ref 64]), .inl (0, 68, .inl (M'.2 0)), .inl (0, 68, .inl (M'.2 1)), .inl (0, 68, .inl (M'.2 2)), .inl (0, 8, .inl (M'.2 4)), .inl (0, 1053, .inl (M'.2 5)), .inl (1, 972, .inl (M'.2 6)), .inl (0, 1053, .inl (M'.2 8)), .inl (0, 120, .inl (M'.2 9)), .inl (3, 7, .inr (.inr (.inr (.inr q_kf)))), .inl (0, 360, .inl (M'.2 17)), .inl (0, 4, .inl (M'.2 21)), .inl (0, 4, .inl (M'.2 22)), .inl (0, 160, .inl (M'.2 23)), .inl (0, 40, .inl (M'.2 24))]) rfl rfl rfl rfl rfl (Nat.le_of_ble_eq_true rfl) ⟨(Nat.le_of_ble_eq_true rfl), (Nat.le_of_ble_eq_true rfl)⟩ ⟨Nat.zero_le _, Nat.zero_le _⟩ dX6_load_64 (fun _ => rfl) (fun _ => rfl) (fun _ => rfl) (fun u5 => ?_)
        refine r_if_eq C 97 dX6_load_67 (by decide) (fun h67 => ?_) (fun h67 => ?_)
        · refine r_iload_n C 2 dX6_load_97 rfl ?_
          exact r_reti (x := x2) (rv := (fun u => some (.int u.1))) (hpE := (fun u => w_X6 u.2)) (t0 := (x2, M')) C dX6_load_98 (by rfl) (by rfl) (by rfl)
        · refine r_aload_n C 0 dX6_load_70 rfl ?_
          refine r_get C 0 0 dX6_load_71 K_X6 rfl rfl (Nat.le_of_ble_eq_true rfl) rfl m_915 rfl ?_
          refine r_iload_n C 2 dX6_load_74 rfl ?_
          refine r_iconst C (1) dX6_load_75 rfl ?_
          refine r_callS C (o_X6_at l x2 (1 : Int32)) v_X6_at m_1012 [] [.int x2, .int (1 : Int32)] [.ref 51] (fun u6 => [.int u6, .ref 51]) (fun u6 => [.inr (5, [.ref 51, .ref 52, .ref 53, .int (M'.1 3), .ref 54, .ref 55, .ref 56, .int (M'.1 7), .ref 57, .ref 58, .int (M'.1 10), .int (M'.1 11), .int (M'.1 12), .int (M'.1 13), .int (M'.1 14), .int (M'.1 15), .ref 59, .ref 60, .int (M'.1 18), .int (M'.1 19), .int (M'.1 20), .ref 61, .ref 62, .ref 63, .ref 64]), .inl (0, 68, .inl (M'.2 0)), .inl (0, 68, .inl (M'.2 1)), .inl (0, 68, .inl (M'.2 2)), .inl (0, 8, .inl (M'.2 4)), .inl (0, 1053, .inl (M'.2 5)), .inl (1, 972, .inl (M'.2 6)), .inl (0, 1053, .inl (M'.2 8)), .inl (0, 120, .inl (M'.2 9)), .inl (3, 7, .inr (.inr (.inr (.inr q_kf)))), .inl (0, 360, .inl (M'.2 17)), .inl (0, 4, .inl (M'.2 21)), .inl (0, 4, .inl (M'.2 22)), .inl (0, 160, .inl (M'.2 23)), .inl (0, 40, .inl (M'.2 24))]) rfl rfl rfl rfl rfl (Nat.le_of_ble_eq_true rfl) ⟨(Nat.le_of_ble_eq_true rfl), (Nat.le_of_ble_eq_true rfl)⟩ ⟨Nat.zero_le _, Nat.zero_le _⟩ dX6_load_76 (fun _ => rfl) (fun _ => rfl) (fun _ => rfl) (fun u6 => ?_)
          refine r_aload_n C 0 dX6_load_79 rfl ?_
          refine r_get C 0 23 dX6_load_80 K_X6 rfl rfl (Nat.le_of_ble_eq_true rfl) rfl m_938 rfl ?_
          refine r_bipush C (40) dX6_load_83 rfl ?_
          refine r_iload_n C 1 dX6_load_85 rfl ?_
          refine r_imul C dX6_load_86 ?_
          refine r_iload_n C 2 dX6_load_87 rfl ?_
          refine r_iadd C dX6_load_88 ?_
          refine r_iald C 13 dX6_load_89 rfl rfl (fun hi89 => ?_)
          refine r_iast C 1 _ dX6_load_90 rfl rfl rfl (fun hi90 => ?_)
          refine r_iinc C 2 (x2 + 1) [(2, .int (x2 + 1)), (0, .ref 50), (1, .int x1)] dX6_load_91 rfl rfl (Nat.le_of_ble_eq_true rfl) rfl ?_
          refine r_goto C 32 dX6_load_94 (by decide) ?_
          refine r_lv [(0, .ref 50), (1, .int x1), (2, .int (x2 + 1))] [1, 2, 0] rfl ?_
          exact ih x1 (x2 + 1) (M'.1, (va_up M'.2 0 (upd (M'.2 0) u6.toNatClampNeg (M'.2 23 (((40 : Int32) * x1) + x2).toNatClampNeg))))
set_option maxRecDepth 100000 in
set_option maxHeartbeats 4000000 in
theorem o_X6_load (l : Launch) (M : q_St) (a1 : Int32) : q_Ok l yX6_load cX6_load 3 (some .int) 2 43 [.ref 50, .int a1] (w_X6 M) (f_X6_load M a1) (fun u => some (.int u.1)) (fun u => w_X6 u.2) := by
  refine q_enter (by decide +kernel) (Nat.le_of_ble_eq_true rfl) (fun t p e s m args below meth c dC dI dA A α C => ?_)
  refine r_cut (f_X6_load.eq_1 _ _) ?_
  show q_S p l e (q_rm 2 43) s m args below meth c 3 dC dI dA A α (MQ below (q_Q α dC dI dA A ((fun u => some (.int u.1)) t) ((fun u => w_X6 u.2) t)) args s 0 0 A) 0 0 _ t 0 [(0, .ref 50), (1, .int a1)] [] (w_X6 M)
  refine r_iload_n C 1 dX6_load_0 rfl ?_
  refine r_callS C (o_X6_isSheet l a1) v_X6_isSheet m_1251 [] [.int a1] [] (fun u1 => [.int u1]) (fun u1 => [.inr (5, [.ref 51, .ref 52, .ref 53, .int (M.1 3), .ref 54, .ref 55, .ref 56, .int (M.1 7), .ref 57, .ref 58, .int (M.1 10), .int (M.1 11), .int (M.1 12), .int (M.1 13), .int (M.1 14), .int (M.1 15), .ref 59, .ref 60, .int (M.1 18), .int (M.1 19), .int (M.1 20), .ref 61, .ref 62, .ref 63, .ref 64]), .inl (0, 68, .inl (M.2 0)), .inl (0, 68, .inl (M.2 1)), .inl (0, 68, .inl (M.2 2)), .inl (0, 8, .inl (M.2 4)), .inl (0, 1053, .inl (M.2 5)), .inl (1, 972, .inl (M.2 6)), .inl (0, 1053, .inl (M.2 8)), .inl (0, 120, .inl (M.2 9)), .inl (3, 7, .inr (.inr (.inr (.inr q_kf)))), .inl (0, 360, .inl (M.2 17)), .inl (0, 4, .inl (M.2 21)), .inl (0, 4, .inl (M.2 22)), .inl (0, 160, .inl (M.2 23)), .inl (0, 40, .inl (M.2 24))]) rfl rfl rfl rfl rfl (Nat.le_of_ble_eq_true rfl) ⟨(Nat.le_of_ble_eq_true rfl), (Nat.le_of_ble_eq_true rfl)⟩ ⟨Nat.zero_le _, Nat.zero_le _⟩ dX6_load_1 (fun _ => rfl) (fun _ => rfl) (fun _ => rfl) (fun u1 => ?_)
  refine r_if_ne C 14 dX6_load_4 (by decide) (fun h4 => ?_) (fun h4 => ?_)
  · refine r_aload_n C 0 dX6_load_7 rfl ?_
    refine r_ldc C (-1000001) dX6_load_8 m_1002 ?_
    refine r_callV0 C (o_X6_finding l M (-1000001 : Int32)) v_X6_finding m_1003 [.int (-1000001 : Int32)] [] (50) (Or.inl ⟨0, 5, _, TX6, 25, rfl, rfl, rfl⟩) (fun u3 => [.int u3.1]) (fun u3 => [.inr (5, [.ref 51, .ref 52, .ref 53, .int (u3.2.1 3), .ref 54, .ref 55, .ref 56, .int (u3.2.1 7), .ref 57, .ref 58, .int (u3.2.1 10), .int (u3.2.1 11), .int (u3.2.1 12), .int (u3.2.1 13), .int (u3.2.1 14), .int (u3.2.1 15), .ref 59, .ref 60, .int (u3.2.1 18), .int (u3.2.1 19), .int (u3.2.1 20), .ref 61, .ref 62, .ref 63, .ref 64]), .inl (0, 68, .inl (u3.2.2 0)), .inl (0, 68, .inl (u3.2.2 1)), .inl (0, 68, .inl (u3.2.2 2)), .inl (0, 8, .inl (u3.2.2 4)), .inl (0, 1053, .inl (u3.2.2 5)), .inl (1, 972, .inl (u3.2.2 6)), .inl (0, 1053, .inl (u3.2.2 8)), .inl (0, 120, .inl (u3.2.2 9)), .inl (3, 7, .inr (.inr (.inr (.inr q_kf)))), .inl (0, 360, .inl (u3.2.2 17)), .inl (0, 4, .inl (u3.2.2 21)), .inl (0, 4, .inl (u3.2.2 22)), .inl (0, 160, .inl (u3.2.2 23)), .inl (0, 40, .inl (u3.2.2 24))]) rfl rfl rfl (Nat.le_of_ble_eq_true rfl) ⟨(Nat.le_of_ble_eq_true rfl), (Nat.le_of_ble_eq_true rfl)⟩ ⟨Nat.zero_le _, Nat.zero_le _⟩ dX6_load_10 (fun _ => rfl) (fun _ => rfl) (fun _ => rfl) (fun u3 => ?_)
    exact r_reti (x := u3.1) (rv := (fun u => some (.int u.1))) (hpE := (fun u => w_X6 u.2)) (t0 := (u3.1, u3.2)) C dX6_load_13 (by rfl) (by rfl) (by rfl)
  · refine r_aload_n C 0 dX6_load_14 rfl ?_
    refine r_get C 0 21 dX6_load_15 K_X6 rfl rfl (Nat.le_of_ble_eq_true rfl) rfl m_936 rfl ?_
    refine r_iload_n C 1 dX6_load_18 rfl ?_
    refine r_iald C 11 dX6_load_19 rfl rfl (fun hi19 => ?_)
    refine r_if_ne C 30 dX6_load_20 (by decide) (fun h20 => ?_) (fun h20 => ?_)
    · refine r_aload_n C 0 dX6_load_23 rfl ?_
      refine r_ldc C (-1000006) dX6_load_24 m_1254 ?_
      refine r_callV0 C (o_X6_finding l M (-1000006 : Int32)) v_X6_finding m_1003 [.int (-1000006 : Int32)] [] (50) (Or.inl ⟨0, 5, _, TX6, 25, rfl, rfl, rfl⟩) (fun u2 => [.int u2.1]) (fun u2 => [.inr (5, [.ref 51, .ref 52, .ref 53, .int (u2.2.1 3), .ref 54, .ref 55, .ref 56, .int (u2.2.1 7), .ref 57, .ref 58, .int (u2.2.1 10), .int (u2.2.1 11), .int (u2.2.1 12), .int (u2.2.1 13), .int (u2.2.1 14), .int (u2.2.1 15), .ref 59, .ref 60, .int (u2.2.1 18), .int (u2.2.1 19), .int (u2.2.1 20), .ref 61, .ref 62, .ref 63, .ref 64]), .inl (0, 68, .inl (u2.2.2 0)), .inl (0, 68, .inl (u2.2.2 1)), .inl (0, 68, .inl (u2.2.2 2)), .inl (0, 8, .inl (u2.2.2 4)), .inl (0, 1053, .inl (u2.2.2 5)), .inl (1, 972, .inl (u2.2.2 6)), .inl (0, 1053, .inl (u2.2.2 8)), .inl (0, 120, .inl (u2.2.2 9)), .inl (3, 7, .inr (.inr (.inr (.inr q_kf)))), .inl (0, 360, .inl (u2.2.2 17)), .inl (0, 4, .inl (u2.2.2 21)), .inl (0, 4, .inl (u2.2.2 22)), .inl (0, 160, .inl (u2.2.2 23)), .inl (0, 40, .inl (u2.2.2 24))]) rfl rfl rfl (Nat.le_of_ble_eq_true rfl) ⟨(Nat.le_of_ble_eq_true rfl), (Nat.le_of_ble_eq_true rfl)⟩ ⟨Nat.zero_le _, Nat.zero_le _⟩ dX6_load_26 (fun _ => rfl) (fun _ => rfl) (fun _ => rfl) (fun u2 => ?_)
      exact r_reti (x := u2.1) (rv := (fun u => some (.int u.1))) (hpE := (fun u => w_X6 u.2)) (t0 := (u2.1, u2.2)) C dX6_load_29 (by rfl) (by rfl) (by rfl)
    · refine r_iconst C (0) dX6_load_30 rfl ?_
      refine r_istore_n C [(2, .int (0 : Int32)), (0, .ref 50), (1, .int a1)] dX6_load_31 (Nat.le_of_ble_eq_true rfl) rfl ?_
      refine r_lv [(0, .ref 50), (1, .int a1), (2, .int (0 : Int32))] [1, 2, 0] rfl ?_
      exact k_X6_load_32 C M a1   q_N a1 (0 : Int32) M
set_option maxRecDepth 100000 in
set_option maxHeartbeats 4000000 in
theorem k_X6_judge_144 {p : Program} {l : Launch} {e : Env} {s : State} {m : MethodId} {args : Array Value} {below : List Frame} {meth : Method} {c : Code} {dC : Nat → ClassId} {dI : Nat → Nat → Nat} {dA : Nat → ClassId} {A : Nat → Prop} {α : Nat → Nat} {t : Int32 × q_St} (C : q_Cx p s m args meth c cX6_judge 6 RX6 (some .int) "judge" dC dI dA A α) (M : q_St) (a1 : Int32) (r34 : Int32 → Int32 → Int32 → q_St → Option (Int32 × q_St))
    (hr34 : ∀ (x1 : Int32) (x2 : Int32) (x3 : Int32) (M' : q_St), q_S p l e (q_rm 4 89) s m args below meth c 6 dC dI dA A α (MQ below (q_Q α dC dI dA A ((fun u => some (.int u.1)) t) ((fun u => w_X6 u.2) t)) args s 0 0 A) 0 0 (r34 x1 x2 x3 M') t 34 [(0, .ref 50), (1, .int x1), (2, .int x2), (3, .int x3)] [] (w_X6 M')) : ∀ (x1 : Int32) (x2 : Int32) (s0 : Int32) (M' : q_St), q_S p l e (q_rm 4 89) s m args below meth c 6 dC dI dA A α (MQ below (q_Q α dC dI dA A ((fun u => some (.int u.1)) t) ((fun u => w_X6 u.2) t)) args s 0 0 A) 0 0 (f_X6_judge_144 M a1 r34 x1 x2 s0 M') t 144 [(0, .ref 50), (1, .int x1), (2, .int x2)] [.int s0] (w_X6 M') := by
  intro x1 x2 s0 M'
  refine r_cut (f_X6_judge_144.eq_1 _ _ _ _ _ _ _) ?_
  refine r_istore_n C [(3, .int s0), (0, .ref 50), (1, .int x1), (2, .int x2)] dX6_judge_144 (Nat.le_of_ble_eq_true rfl) rfl ?_
  refine r_iload_n C 3 dX6_judge_145 rfl ?_
  refine r_iload_n C 0 dX6_judge_146 rfl ?_
  refine r_if_eq C 154 dX6_judge_147 (by decide) (fun h147 => ?_) (fun h147 => ?_)
  · refine r_iconst C (0) dX6_judge_154 rfl ?_
    refine r_iadd C dX6_judge_155 ?_
    refine r_istore_n C [(2, .int (x2 + (0 : Int32))), (3, .int s0), (0, .ref 50), (1, .int x1)] dX6_judge_156 (Nat.le_of_ble_eq_true rfl) rfl ?_
    refine r_goto C 34 dX6_judge_157 (by decide) ?_
    refine r_lv [(0, .ref 50), (1, .int x1), (2, .int (x2 + (0 : Int32))), (3, .int s0)] [2, 3, 0, 1] rfl ?_
    exact hr34 x1 (x2 + (0 : Int32)) s0 M'
  · refine r_iconst C (2) dX6_judge_150 rfl ?_
    refine r_goto C 155 dX6_judge_151 (by decide) ?_
    refine r_iadd C dX6_judge_155 ?_
    refine r_istore_n C [(2, .int (x2 + (2 : Int32))), (3, .int s0), (0, .ref 50), (1, .int x1)] dX6_judge_156 (Nat.le_of_ble_eq_true rfl) rfl ?_
    refine r_goto C 34 dX6_judge_157 (by decide) ?_
    refine r_lv [(0, .ref 50), (1, .int x1), (2, .int (x2 + (2 : Int32))), (3, .int s0)] [2, 3, 0, 1] rfl ?_
    exact hr34 x1 (x2 + (2 : Int32)) s0 M'
set_option maxRecDepth 100000 in
set_option maxHeartbeats 4000000 in
theorem k_X6_judge_90 {p : Program} {l : Launch} {e : Env} {s : State} {m : MethodId} {args : Array Value} {below : List Frame} {meth : Method} {c : Code} {dC : Nat → ClassId} {dI : Nat → Nat → Nat} {dA : Nat → ClassId} {A : Nat → Prop} {α : Nat → Nat} {t : Int32 × q_St} (C : q_Cx p s m args meth c cX6_judge 6 RX6 (some .int) "judge" dC dI dA A α) (M : q_St) (a1 : Int32) (r34 : Int32 → Int32 → Int32 → q_St → Option (Int32 × q_St))
    (hr34 : ∀ (x1 : Int32) (x2 : Int32) (x3 : Int32) (M' : q_St), q_S p l e (q_rm 4 89) s m args below meth c 6 dC dI dA A α (MQ below (q_Q α dC dI dA A ((fun u => some (.int u.1)) t) ((fun u => w_X6 u.2) t)) args s 0 0 A) 0 0 (r34 x1 x2 x3 M') t 34 [(0, .ref 50), (1, .int x1), (2, .int x2), (3, .int x3)] [] (w_X6 M')) : ∀ (x1 : Int32) (x2 : Int32) (x4 : Int32) (s0 : Int32) (M' : q_St), q_S p l e (q_rm 4 89) s m args below meth c 6 dC dI dA A α (MQ below (q_Q α dC dI dA A ((fun u => some (.int u.1)) t) ((fun u => w_X6 u.2) t)) args s 0 0 A) 0 0 (f_X6_judge_90 M a1 r34 x1 x2 x4 s0 M') t 90 [(0, .ref 50), (1, .int x1), (2, .int x2), (4, .int x4)] [.int s0] (w_X6 M') := by
  intro x1 x2 x4 s0 M'
  refine r_cut (f_X6_judge_90.eq_1 _ _ _ _ _ _ _ _) ?_
  refine r_istore C [(5, .int s0), (0, .ref 50), (1, .int x1), (2, .int x2), (4, .int x4)] dX6_judge_90 (Nat.le_of_ble_eq_true rfl) rfl ?_
  refine r_iload_n C 3 dX6_judge_92 rfl ?_
  refine r_iconst C (1) dX6_judge_93 rfl ?_
  refine r_iadd C dX6_judge_94 ?_
  refine r_aload_n C 1 dX6_judge_95 rfl ?_
  refine r_get C 0 22 dX6_judge_96 K_X6 rfl rfl (Nat.le_of_ble_eq_true rfl) rfl m_937 rfl ?_
  refine r_iload_n C 2 dX6_judge_99 rfl ?_
  refine r_iald C 12 dX6_judge_100 rfl rfl (fun hi100 => ?_)
  refine r_icmp_ge C 143 dX6_judge_101 (by decide) (fun h101 => ?_) (fun h101 => ?_)
  · refine r_iconst C (0) dX6_judge_143 rfl ?_
    refine r_lv [(0, .ref 50), (1, .int x1), (2, .int x2)] [1, 2, 3] rfl ?_
    exact k_X6_judge_144 C M a1 r34 hr34 x1 x2 (0 : Int32) M'
  · refine r_aload_n C 1 dX6_judge_104 rfl ?_
    refine r_iload_n C 3 dX6_judge_105 rfl ?_
    refine r_iconst C (2) dX6_judge_106 rfl ?_
    refine r_idiv C dX6_judge_107 (by decide) ?_
    refine r_callV0 C (o_X6_isBeat l M' (x2 / (2 : Int32))) v_X6_isBeat m_1086 [.int (x2 / (2 : Int32))] [] (50) (Or.inl ⟨0, 5, _, TX6, 25, rfl, rfl, rfl⟩) (fun u4 => [.int u4]) (fun u4 => [.inr (5, [.ref 51, .ref 52, .ref 53, .int (M'.1 3), .ref 54, .ref 55, .ref 56, .int (M'.1 7), .ref 57, .ref 58, .int (M'.1 10), .int (M'.1 11), .int (M'.1 12), .int (M'.1 13), .int (M'.1 14), .int (M'.1 15), .ref 59, .ref 60, .int (M'.1 18), .int (M'.1 19), .int (M'.1 20), .ref 61, .ref 62, .ref 63, .ref 64]), .inl (0, 68, .inl (M'.2 0)), .inl (0, 68, .inl (M'.2 1)), .inl (0, 68, .inl (M'.2 2)), .inl (0, 8, .inl (M'.2 4)), .inl (0, 1053, .inl (M'.2 5)), .inl (1, 972, .inl (M'.2 6)), .inl (0, 1053, .inl (M'.2 8)), .inl (0, 120, .inl (M'.2 9)), .inl (3, 7, .inr (.inr (.inr (.inr q_kf)))), .inl (0, 360, .inl (M'.2 17)), .inl (0, 4, .inl (M'.2 21)), .inl (0, 4, .inl (M'.2 22)), .inl (0, 160, .inl (M'.2 23)), .inl (0, 40, .inl (M'.2 24))]) rfl rfl rfl (Nat.le_of_ble_eq_true rfl) ⟨(Nat.le_of_ble_eq_true rfl), (Nat.le_of_ble_eq_true rfl)⟩ ⟨Nat.zero_le _, Nat.zero_le _⟩ dX6_judge_108 (fun _ => rfl) (fun _ => rfl) (fun _ => rfl) (fun u4 => ?_)
    refine r_if_eq C 143 dX6_judge_111 (by decide) (fun h111 => ?_) (fun h111 => ?_)
    · refine r_iconst C (0) dX6_judge_143 rfl ?_
      refine r_lv [(0, .ref 50), (1, .int x1), (2, .int x2)] [1, 2, 3] rfl ?_
      exact k_X6_judge_144 C M a1 r34 hr34 x1 x2 (0 : Int32) M'
    · refine r_aload_n C 1 dX6_judge_114 rfl ?_
      refine r_iload C 4 dX6_judge_115 rfl ?_
      refine r_iload C 0 dX6_judge_117 rfl ?_
      refine r_callV0 C (o_X6_isHold l M' x4 s0) v_X6_isHold m_1181 [.int x4, .int s0] [] (50) (Or.inl ⟨0, 5, _, TX6, 25, rfl, rfl, rfl⟩) (fun u5 => [.int u5]) (fun u5 => [.inr (5, [.ref 51, .ref 52, .ref 53, .int (M'.1 3), .ref 54, .ref 55, .ref 56, .int (M'.1 7), .ref 57, .ref 58, .int (M'.1 10), .int (M'.1 11), .int (M'.1 12), .int (M'.1 13), .int (M'.1 14), .int (M'.1 15), .ref 59, .ref 60, .int (M'.1 18), .int (M'.1 19), .int (M'.1 20), .ref 61, .ref 62, .ref 63, .ref 64]), .inl (0, 68, .inl (M'.2 0)), .inl (0, 68, .inl (M'.2 1)), .inl (0, 68, .inl (M'.2 2)), .inl (0, 8, .inl (M'.2 4)), .inl (0, 1053, .inl (M'.2 5)), .inl (1, 972, .inl (M'.2 6)), .inl (0, 1053, .inl (M'.2 8)), .inl (0, 120, .inl (M'.2 9)), .inl (3, 7, .inr (.inr (.inr (.inr q_kf)))), .inl (0, 360, .inl (M'.2 17)), .inl (0, 4, .inl (M'.2 21)), .inl (0, 4, .inl (M'.2 22)), .inl (0, 160, .inl (M'.2 23)), .inl (0, 40, .inl (M'.2 24))]) rfl rfl rfl (Nat.le_of_ble_eq_true rfl) ⟨(Nat.le_of_ble_eq_true rfl), (Nat.le_of_ble_eq_true rfl)⟩ ⟨Nat.zero_le _, Nat.zero_le _⟩ dX6_judge_119 (fun _ => rfl) (fun _ => rfl) (fun _ => rfl) (fun u5 => ?_)
      refine r_if_eq C 143 dX6_judge_122 (by decide) (fun h122 => ?_) (fun h122 => ?_)
      · refine r_iconst C (0) dX6_judge_143 rfl ?_
        refine r_lv [(0, .ref 50), (1, .int x1), (2, .int x2)] [1, 2, 3] rfl ?_
        exact k_X6_judge_144 C M a1 r34 hr34 x1 x2 (0 : Int32) M'
      · refine r_aload_n C 1 dX6_judge_125 rfl ?_
        refine r_iload C 4 dX6_judge_126 rfl ?_
        refine r_iload C 0 dX6_judge_128 rfl ?_
        refine r_iload_n C 3 dX6_judge_130 rfl ?_
        refine r_iconst C (2) dX6_judge_131 rfl ?_
        refine r_idiv C dX6_judge_132 (by decide) ?_
        refine r_callV0 C (o_X6_doesSuit l M' x4 s0 (x2 / (2 : Int32))) v_X6_doesSuit m_1148 [.int x4, .int s0, .int (x2 / (2 : Int32))] [] (50) (Or.inl ⟨0, 5, _, TX6, 25, rfl, rfl, rfl⟩) (fun u6 => [.int u6]) (fun u6 => [.inr (5, [.ref 51, .ref 52, .ref 53, .int (M'.1 3), .ref 54, .ref 55, .ref 56, .int (M'.1 7), .ref 57, .ref 58, .int (M'.1 10), .int (M'.1 11), .int (M'.1 12), .int (M'.1 13), .int (M'.1 14), .int (M'.1 15), .ref 59, .ref 60, .int (M'.1 18), .int (M'.1 19), .int (M'.1 20), .ref 61, .ref 62, .ref 63, .ref 64]), .inl (0, 68, .inl (M'.2 0)), .inl (0, 68, .inl (M'.2 1)), .inl (0, 68, .inl (M'.2 2)), .inl (0, 8, .inl (M'.2 4)), .inl (0, 1053, .inl (M'.2 5)), .inl (1, 972, .inl (M'.2 6)), .inl (0, 1053, .inl (M'.2 8)), .inl (0, 120, .inl (M'.2 9)), .inl (3, 7, .inr (.inr (.inr (.inr q_kf)))), .inl (0, 360, .inl (M'.2 17)), .inl (0, 4, .inl (M'.2 21)), .inl (0, 4, .inl (M'.2 22)), .inl (0, 160, .inl (M'.2 23)), .inl (0, 40, .inl (M'.2 24))]) rfl rfl rfl (Nat.le_of_ble_eq_true rfl) ⟨(Nat.le_of_ble_eq_true rfl), (Nat.le_of_ble_eq_true rfl)⟩ ⟨Nat.zero_le _, Nat.zero_le _⟩ dX6_judge_133 (fun _ => rfl) (fun _ => rfl) (fun _ => rfl) (fun u6 => ?_)
        refine r_if_eq C 143 dX6_judge_136 (by decide) (fun h136 => ?_) (fun h136 => ?_)
        · refine r_iconst C (0) dX6_judge_143 rfl ?_
          refine r_lv [(0, .ref 50), (1, .int x1), (2, .int x2)] [1, 2, 3] rfl ?_
          exact k_X6_judge_144 C M a1 r34 hr34 x1 x2 (0 : Int32) M'
        · refine r_iconst C (1) dX6_judge_139 rfl ?_
          refine r_goto C 144 dX6_judge_140 (by decide) ?_
          refine r_lv [(0, .ref 50), (1, .int x1), (2, .int x2)] [1, 2, 3] rfl ?_
          exact k_X6_judge_144 C M a1 r34 hr34 x1 x2 (1 : Int32) M'
set_option maxRecDepth 100000 in
set_option maxHeartbeats 4000000 in
theorem k_X6_judge_34 {p : Program} {l : Launch} {e : Env} {s : State} {m : MethodId} {args : Array Value} {below : List Frame} {meth : Method} {c : Code} {dC : Nat → ClassId} {dI : Nat → Nat → Nat} {dA : Nat → ClassId} {A : Nat → Prop} {α : Nat → Nat} {t : Int32 × q_St} (C : q_Cx p s m args meth c cX6_judge 6 RX6 (some .int) "judge" dC dI dA A α) (M : q_St) (a1 : Int32)  : ∀ (n : Nat) (x1 : Int32) (x2 : Int32) (x3 : Int32) (M' : q_St), q_S p l e (q_rm 4 89) s m args below meth c 6 dC dI dA A α (MQ below (q_Q α dC dI dA A ((fun u => some (.int u.1)) t) ((fun u => w_X6 u.2) t)) args s 0 0 A) 0 0 (f_X6_judge_34 M a1  n x1 x2 x3 M') t 34 [(0, .ref 50), (1, .int x1), (2, .int x2), (3, .int x3)] [] (w_X6 M') := by
  intro n
  induction n with
  | zero =>
    intro x1 x2 x3 M'
    exact r_cut (f_X6_judge_34.eq_1 _ _ _ _ _ _) (r_none True.intro)
  | succ n ih =>
    intro x1 x2 x3 M'
    refine r_cut (f_X6_judge_34.eq_2 _ _ _ _ _ _ _) ?_
    refine r_iload_n C 2 dX6_judge_34 rfl ?_
    refine r_aload_n C 0 dX6_judge_35 rfl ?_
    refine r_get C 0 22 dX6_judge_36 K_X6 rfl rfl (Nat.le_of_ble_eq_true rfl) rfl m_937 rfl ?_
    refine r_iload_n C 1 dX6_judge_39 rfl ?_
    refine r_iald C 12 dX6_judge_40 rfl rfl (fun hi40 => ?_)
    refine r_icmp_ge C 160 dX6_judge_41 (by decide) (fun h41 => ?_) (fun h41 => ?_)
    · refine r_iload_n C 3 dX6_judge_160 rfl ?_
      refine r_if_eq C 168 dX6_judge_161 (by decide) (fun h161 => ?_) (fun h161 => ?_)
      · refine r_iconst C (1) dX6_judge_168 rfl ?_
        refine r_iload_n C 2 dX6_judge_169 rfl ?_
        refine r_iadd C dX6_judge_170 ?_
        exact r_reti (x := ((1 : Int32) + x2)) (rv := (fun u => some (.int u.1))) (hpE := (fun u => w_X6 u.2)) (t0 := (((1 : Int32) + x2), M')) C dX6_judge_171 (by rfl) (by rfl) (by rfl)
      · refine r_iconst C (0) dX6_judge_164 rfl ?_
        refine r_goto C 171 dX6_judge_165 (by decide) ?_
        exact r_reti (x := (0 : Int32)) (rv := (fun u => some (.int u.1))) (hpE := (fun u => w_X6 u.2)) (t0 := ((0 : Int32), M')) C dX6_judge_171 (by rfl) (by rfl) (by rfl)
    · refine r_iload_n C 3 dX6_judge_44 rfl ?_
      refine r_if_eq C 160 dX6_judge_45 (by decide) (fun h45 => ?_) (fun h45 => ?_)
      · refine r_iload_n C 3 dX6_judge_160 rfl ?_
        refine r_if_eq C 168 dX6_judge_161 (by decide) (fun h161 => ?_) (fun h161 => ?_)
        · refine r_iconst C (1) dX6_judge_168 rfl ?_
          refine r_iload_n C 2 dX6_judge_169 rfl ?_
          refine r_iadd C dX6_judge_170 ?_
          exact r_reti (x := ((1 : Int32) + x2)) (rv := (fun u => some (.int u.1))) (hpE := (fun u => w_X6 u.2)) (t0 := (((1 : Int32) + x2), M')) C dX6_judge_171 (by rfl) (by rfl) (by rfl)
        · refine r_iconst C (0) dX6_judge_164 rfl ?_
          refine r_goto C 171 dX6_judge_165 (by decide) ?_
          exact r_reti (x := (0 : Int32)) (rv := (fun u => some (.int u.1))) (hpE := (fun u => w_X6 u.2)) (t0 := ((0 : Int32), M')) C dX6_judge_171 (by rfl) (by rfl) (by rfl)
      · refine r_aload_n C 0 dX6_judge_48 rfl ?_
        refine r_get C 0 23 dX6_judge_49 K_X6 rfl rfl (Nat.le_of_ble_eq_true rfl) rfl m_938 rfl ?_
        refine r_bipush C (40) dX6_judge_52 rfl ?_
        refine r_iload_n C 1 dX6_judge_54 rfl ?_
        refine r_imul C dX6_judge_55 ?_
        refine r_iload_n C 2 dX6_judge_56 rfl ?_
        refine r_iadd C dX6_judge_57 ?_
        refine r_iald C 13 dX6_judge_58 rfl rfl (fun hi58 => ?_)
        refine r_istore C [(4, .int (M'.2 23 (((40 : Int32) * x1) + x2).toNatClampNeg)), (0, .ref 50), (1, .int x1), (2, .int x2), (3, .int x3)] dX6_judge_59 (Nat.le_of_ble_eq_true rfl) rfl ?_
        refine r_iload_n C 3 dX6_judge_61 rfl ?_
        refine r_iconst C (1) dX6_judge_62 rfl ?_
        refine r_iadd C dX6_judge_63 ?_
        refine r_aload_n C 1 dX6_judge_64 rfl ?_
        refine r_get C 0 22 dX6_judge_65 K_X6 rfl rfl (Nat.le_of_ble_eq_true rfl) rfl m_937 rfl ?_
        refine r_iload_n C 2 dX6_judge_68 rfl ?_
        refine r_iald C 12 dX6_judge_69 rfl rfl (fun hi69 => ?_)
        refine r_icmp_ge C 89 dX6_judge_70 (by decide) (fun h70 => ?_) (fun h70 => ?_)
        · refine r_iconst C (-1) dX6_judge_89 rfl ?_
          refine r_lv [(0, .ref 50), (1, .int x1), (2, .int x2), (4, .int (M'.2 23 (((40 : Int32) * x1) + x2).toNatClampNeg))] [1, 2, 3, 0] rfl ?_
          exact k_X6_judge_90 C M a1 (fun x1 x2 x3 M' => f_X6_judge_34 M a1  n x1 x2 x3 M') ih x1 x2 (M'.2 23 (((40 : Int32) * x1) + x2).toNatClampNeg) (-1 : Int32) M'
        · refine r_aload_n C 1 dX6_judge_73 rfl ?_
          refine r_get C 0 23 dX6_judge_74 K_X6 rfl rfl (Nat.le_of_ble_eq_true rfl) rfl m_938 rfl ?_
          refine r_bipush C (40) dX6_judge_77 rfl ?_
          refine r_iload_n C 2 dX6_judge_79 rfl ?_
          refine r_imul C dX6_judge_80 ?_
          refine r_iload_n C 3 dX6_judge_81 rfl ?_
          refine r_iadd C dX6_judge_82 ?_
          refine r_iconst C (1) dX6_judge_83 rfl ?_
          refine r_iadd C dX6_judge_84 ?_
          refine r_iald C 13 dX6_judge_85 rfl rfl (fun hi85 => ?_)
          refine r_goto C 90 dX6_judge_86 (by decide) ?_
          refine r_lv [(0, .ref 50), (1, .int x1), (2, .int x2), (4, .int (M'.2 23 (((40 : Int32) * x1) + x2).toNatClampNeg))] [1, 2, 3, 0] rfl ?_
          exact k_X6_judge_90 C M a1 (fun x1 x2 x3 M' => f_X6_judge_34 M a1  n x1 x2 x3 M') ih x1 x2 (M'.2 23 (((40 : Int32) * x1) + x2).toNatClampNeg) (M'.2 23 ((((40 : Int32) * x1) + x2) + (1 : Int32)).toNatClampNeg) M'
set_option maxRecDepth 100000 in
set_option maxHeartbeats 4000000 in
theorem o_X6_judge (l : Launch) (M : q_St) (a1 : Int32) : q_Ok l yX6_judge cX6_judge 6 (some .int) 4 89 [.ref 50, .int a1] (w_X6 M) (f_X6_judge M a1) (fun u => some (.int u.1)) (fun u => w_X6 u.2) := by
  refine q_enter (by decide +kernel) (Nat.le_of_ble_eq_true rfl) (fun t p e s m args below meth c dC dI dA A α C => ?_)
  refine r_cut (f_X6_judge.eq_1 _ _) ?_
  show q_S p l e (q_rm 4 89) s m args below meth c 6 dC dI dA A α (MQ below (q_Q α dC dI dA A ((fun u => some (.int u.1)) t) ((fun u => w_X6 u.2) t)) args s 0 0 A) 0 0 _ t 0 [(0, .ref 50), (1, .int a1)] [] (w_X6 M)
  refine r_iload_n C 1 dX6_judge_0 rfl ?_
  refine r_callS C (o_X6_isSheet l a1) v_X6_isSheet m_1251 [] [.int a1] [] (fun u1 => [.int u1]) (fun u1 => [.inr (5, [.ref 51, .ref 52, .ref 53, .int (M.1 3), .ref 54, .ref 55, .ref 56, .int (M.1 7), .ref 57, .ref 58, .int (M.1 10), .int (M.1 11), .int (M.1 12), .int (M.1 13), .int (M.1 14), .int (M.1 15), .ref 59, .ref 60, .int (M.1 18), .int (M.1 19), .int (M.1 20), .ref 61, .ref 62, .ref 63, .ref 64]), .inl (0, 68, .inl (M.2 0)), .inl (0, 68, .inl (M.2 1)), .inl (0, 68, .inl (M.2 2)), .inl (0, 8, .inl (M.2 4)), .inl (0, 1053, .inl (M.2 5)), .inl (1, 972, .inl (M.2 6)), .inl (0, 1053, .inl (M.2 8)), .inl (0, 120, .inl (M.2 9)), .inl (3, 7, .inr (.inr (.inr (.inr q_kf)))), .inl (0, 360, .inl (M.2 17)), .inl (0, 4, .inl (M.2 21)), .inl (0, 4, .inl (M.2 22)), .inl (0, 160, .inl (M.2 23)), .inl (0, 40, .inl (M.2 24))]) rfl rfl rfl rfl rfl (Nat.le_of_ble_eq_true rfl) ⟨(Nat.le_of_ble_eq_true rfl), (Nat.le_of_ble_eq_true rfl)⟩ ⟨Nat.zero_le _, Nat.zero_le _⟩ dX6_judge_1 (fun _ => rfl) (fun _ => rfl) (fun _ => rfl) (fun u1 => ?_)
  refine r_if_ne C 14 dX6_judge_4 (by decide) (fun h4 => ?_) (fun h4 => ?_)
  · refine r_aload_n C 0 dX6_judge_7 rfl ?_
    refine r_ldc C (-1000001) dX6_judge_8 m_1002 ?_
    refine r_callV0 C (o_X6_finding l M (-1000001 : Int32)) v_X6_finding m_1003 [.int (-1000001 : Int32)] [] (50) (Or.inl ⟨0, 5, _, TX6, 25, rfl, rfl, rfl⟩) (fun u3 => [.int u3.1]) (fun u3 => [.inr (5, [.ref 51, .ref 52, .ref 53, .int (u3.2.1 3), .ref 54, .ref 55, .ref 56, .int (u3.2.1 7), .ref 57, .ref 58, .int (u3.2.1 10), .int (u3.2.1 11), .int (u3.2.1 12), .int (u3.2.1 13), .int (u3.2.1 14), .int (u3.2.1 15), .ref 59, .ref 60, .int (u3.2.1 18), .int (u3.2.1 19), .int (u3.2.1 20), .ref 61, .ref 62, .ref 63, .ref 64]), .inl (0, 68, .inl (u3.2.2 0)), .inl (0, 68, .inl (u3.2.2 1)), .inl (0, 68, .inl (u3.2.2 2)), .inl (0, 8, .inl (u3.2.2 4)), .inl (0, 1053, .inl (u3.2.2 5)), .inl (1, 972, .inl (u3.2.2 6)), .inl (0, 1053, .inl (u3.2.2 8)), .inl (0, 120, .inl (u3.2.2 9)), .inl (3, 7, .inr (.inr (.inr (.inr q_kf)))), .inl (0, 360, .inl (u3.2.2 17)), .inl (0, 4, .inl (u3.2.2 21)), .inl (0, 4, .inl (u3.2.2 22)), .inl (0, 160, .inl (u3.2.2 23)), .inl (0, 40, .inl (u3.2.2 24))]) rfl rfl rfl (Nat.le_of_ble_eq_true rfl) ⟨(Nat.le_of_ble_eq_true rfl), (Nat.le_of_ble_eq_true rfl)⟩ ⟨Nat.zero_le _, Nat.zero_le _⟩ dX6_judge_10 (fun _ => rfl) (fun _ => rfl) (fun _ => rfl) (fun u3 => ?_)
    exact r_reti (x := u3.1) (rv := (fun u => some (.int u.1))) (hpE := (fun u => w_X6 u.2)) (t0 := (u3.1, u3.2)) C dX6_judge_13 (by rfl) (by rfl) (by rfl)
  · refine r_aload_n C 0 dX6_judge_14 rfl ?_
    refine r_get C 0 21 dX6_judge_15 K_X6 rfl rfl (Nat.le_of_ble_eq_true rfl) rfl m_936 rfl ?_
    refine r_iload_n C 1 dX6_judge_18 rfl ?_
    refine r_iald C 11 dX6_judge_19 rfl rfl (fun hi19 => ?_)
    refine r_if_ne C 30 dX6_judge_20 (by decide) (fun h20 => ?_) (fun h20 => ?_)
    · refine r_aload_n C 0 dX6_judge_23 rfl ?_
      refine r_ldc C (-1000006) dX6_judge_24 m_1254 ?_
      refine r_callV0 C (o_X6_finding l M (-1000006 : Int32)) v_X6_finding m_1003 [.int (-1000006 : Int32)] [] (50) (Or.inl ⟨0, 5, _, TX6, 25, rfl, rfl, rfl⟩) (fun u2 => [.int u2.1]) (fun u2 => [.inr (5, [.ref 51, .ref 52, .ref 53, .int (u2.2.1 3), .ref 54, .ref 55, .ref 56, .int (u2.2.1 7), .ref 57, .ref 58, .int (u2.2.1 10), .int (u2.2.1 11), .int (u2.2.1 12), .int (u2.2.1 13), .int (u2.2.1 14), .int (u2.2.1 15), .ref 59, .ref 60, .int (u2.2.1 18), .int (u2.2.1 19), .int (u2.2.1 20), .ref 61, .ref 62, .ref 63, .ref 64]), .inl (0, 68, .inl (u2.2.2 0)), .inl (0, 68, .inl (u2.2.2 1)), .inl (0, 68, .inl (u2.2.2 2)), .inl (0, 8, .inl (u2.2.2 4)), .inl (0, 1053, .inl (u2.2.2 5)), .inl (1, 972, .inl (u2.2.2 6)), .inl (0, 1053, .inl (u2.2.2 8)), .inl (0, 120, .inl (u2.2.2 9)), .inl (3, 7, .inr (.inr (.inr (.inr q_kf)))), .inl (0, 360, .inl (u2.2.2 17)), .inl (0, 4, .inl (u2.2.2 21)), .inl (0, 4, .inl (u2.2.2 22)), .inl (0, 160, .inl (u2.2.2 23)), .inl (0, 40, .inl (u2.2.2 24))]) rfl rfl rfl (Nat.le_of_ble_eq_true rfl) ⟨(Nat.le_of_ble_eq_true rfl), (Nat.le_of_ble_eq_true rfl)⟩ ⟨Nat.zero_le _, Nat.zero_le _⟩ dX6_judge_26 (fun _ => rfl) (fun _ => rfl) (fun _ => rfl) (fun u2 => ?_)
      exact r_reti (x := u2.1) (rv := (fun u => some (.int u.1))) (hpE := (fun u => w_X6 u.2)) (t0 := (u2.1, u2.2)) C dX6_judge_29 (by rfl) (by rfl) (by rfl)
    · refine r_iconst C (0) dX6_judge_30 rfl ?_
      refine r_istore_n C [(2, .int (0 : Int32)), (0, .ref 50), (1, .int a1)] dX6_judge_31 (Nat.le_of_ble_eq_true rfl) rfl ?_
      refine r_iconst C (1) dX6_judge_32 rfl ?_
      refine r_istore_n C [(3, .int (1 : Int32)), (2, .int (0 : Int32)), (0, .ref 50), (1, .int a1)] dX6_judge_33 (Nat.le_of_ble_eq_true rfl) rfl ?_
      refine r_lv [(0, .ref 50), (1, .int a1), (2, .int (0 : Int32)), (3, .int (1 : Int32))] [2, 3, 1, 0] rfl ?_
      exact k_X6_judge_34 C M a1   q_N a1 (0 : Int32) (1 : Int32) M
