set_option maxRecDepth 100000 in
set_option maxHeartbeats 4000000 in
theorem k_X6_isWrongBeat_54 {p : Program} {l : Launch} {e : Env} {s : State} {m : MethodId} {args : Array Value} {below : List Frame} {meth : Method} {c : Code} {dC : Nat → ClassId} {dI : Nat → Nat → Nat} {dA : Nat → ClassId} {A : Nat → Prop} {α : Nat → Nat} {t : Int32} (C : q_Cx p s m args meth c cX6_isWrongBeat 6 RX6 (some .boolean) "isWrongBeat" dC dI dA A α) (M : q_St) (a1 : Int32) (r18 : Int32 → Int32 → Int32 → Int32 → Int32 → Option (Int32))
    (hr18 : ∀ (x1 : Int32) (x2 : Int32) (x3 : Int32) (x4 : Int32) (x5 : Int32), q_S p l e (q_rm 3 65) s m args below meth c 6 dC dI dA A α (MQ below (q_Q α dC dI dA A ((fun u => some (.int u)) t) ((fun u => w_X6 M) t)) args s 0 0 A) 0 0 (r18 x1 x2 x3 x4 x5) t 18 [(0, .ref 50), (1, .int x1), (2, .int x2), (3, .int x3), (4, .int x4), (5, .int x5)] [] (w_X6 M)) : ∀ (x1 : Int32) (x2 : Int32) (x4 : Int32) (x5 : Int32) (s0 : Int32) (s1 : Int32), q_S p l e (q_rm 3 65) s m args below meth c 6 dC dI dA A α (MQ below (q_Q α dC dI dA A ((fun u => some (.int u)) t) ((fun u => w_X6 M) t)) args s 0 0 A) 0 0 (f_X6_isWrongBeat_54 M a1 r18 x1 x2 x4 x5 s0 s1) t 54 [(0, .ref 50), (1, .int x1), (2, .int x2), (4, .int x4), (5, .int x5)] [.int s0, .int s1] (w_X6 M) := by
  intro x1 x2 x4 x5 s0 s1
  refine r_cut (f_X6_isWrongBeat_54.eq_1 _ _ _ _ _ _ _ _ _) ?_
  refine r_iadd C dX6_isWrongBeat_54 ?_
  refine r_istore_n C [(3, .int (s1 + s0)), (0, .ref 50), (1, .int x1), (2, .int x2), (4, .int x4), (5, .int x5)] dX6_isWrongBeat_55 (Nat.le_of_ble_eq_true rfl) rfl ?_
  refine r_iload C 4 dX6_isWrongBeat_56 rfl ?_
  refine r_iload_n C 3 dX6_isWrongBeat_58 rfl ?_
  refine r_iload C 5 dX6_isWrongBeat_59 rfl ?_
  refine r_callS C (o_X6_has l x2 x5) v_X6_has m_1094 [] [.int x2, .int x5] [.int x4] (fun u5 => [.int u5, .int x4]) (fun u5 => [.inr (5, [.ref 51, .ref 52, .ref 53, .int (M.1 3), .ref 54, .ref 55, .ref 56, .int (M.1 7), .ref 57, .ref 58, .int (M.1 10), .int (M.1 11), .int (M.1 12), .int (M.1 13), .int (M.1 14), .int (M.1 15), .ref 59, .ref 60, .int (M.1 18), .int (M.1 19), .int (M.1 20), .ref 61, .ref 62, .ref 63, .ref 64]), .inl (0, 68, .inl (M.2 0)), .inl (0, 68, .inl (M.2 1)), .inl (0, 68, .inl (M.2 2)), .inl (0, 8, .inl (M.2 4)), .inl (0, 1053, .inl (M.2 5)), .inl (1, 972, .inl (M.2 6)), .inl (0, 1053, .inl (M.2 8)), .inl (0, 120, .inl (M.2 9)), .inl (3, 7, .inr (.inr (.inr (.inr q_kf)))), .inl (0, 360, .inl (M.2 17)), .inl (0, 4, .inl (M.2 21)), .inl (0, 4, .inl (M.2 22)), .inl (0, 160, .inl (M.2 23)), .inl (0, 40, .inl (M.2 24))]) rfl rfl rfl rfl rfl (Nat.le_of_ble_eq_true rfl) ⟨(Nat.le_of_ble_eq_true rfl), (Nat.le_of_ble_eq_true rfl)⟩ ⟨Nat.zero_le _, Nat.zero_le _⟩ dX6_isWrongBeat_61 (fun _ => rfl) (fun _ => rfl) (fun _ => rfl) (fun u5 => ?_)
  refine r_if_eq C 81 dX6_isWrongBeat_64 (by decide) (fun h64 => ?_) (fun h64 => ?_)
  · refine r_iconst C (0) dX6_isWrongBeat_81 rfl ?_
    refine r_iadd C dX6_isWrongBeat_82 ?_
    refine r_istore C [(4, .int (x4 + (0 : Int32))), (3, .int (s1 + s0)), (0, .ref 50), (1, .int x1), (2, .int x2), (5, .int x5)] dX6_isWrongBeat_83 (Nat.le_of_ble_eq_true rfl) rfl ?_
    refine r_iinc C 5 (x5 + 1) [(5, .int (x5 + 1)), (4, .int (x4 + (0 : Int32))), (3, .int (s1 + s0)), (0, .ref 50), (1, .int x1), (2, .int x2)] dX6_isWrongBeat_85 rfl rfl (Nat.le_of_ble_eq_true rfl) rfl ?_
    refine r_goto C 18 dX6_isWrongBeat_88 (by decide) ?_
    refine r_lv [(0, .ref 50), (1, .int x1), (2, .int x2), (3, .int (s1 + s0)), (4, .int (x4 + (0 : Int32))), (5, .int (x5 + 1))] [3, 4, 5, 2, 1, 0] rfl ?_
    exact hr18 x1 x2 (s1 + s0) (x4 + (0 : Int32)) (x5 + 1)
  · refine r_aload_n C 1 dX6_isWrongBeat_67 rfl ?_
    refine r_iload C 5 dX6_isWrongBeat_68 rfl ?_
    refine r_callV0 C (o_X6_wants l M x5) v_X6_wants m_1027 [.int x5] [.int x4] (50) (Or.inl ⟨0, 5, _, TX6, 25, rfl, rfl, rfl⟩) (fun u6 => [.int u6, .int x4]) (fun u6 => [.inr (5, [.ref 51, .ref 52, .ref 53, .int (M.1 3), .ref 54, .ref 55, .ref 56, .int (M.1 7), .ref 57, .ref 58, .int (M.1 10), .int (M.1 11), .int (M.1 12), .int (M.1 13), .int (M.1 14), .int (M.1 15), .ref 59, .ref 60, .int (M.1 18), .int (M.1 19), .int (M.1 20), .ref 61, .ref 62, .ref 63, .ref 64]), .inl (0, 68, .inl (M.2 0)), .inl (0, 68, .inl (M.2 1)), .inl (0, 68, .inl (M.2 2)), .inl (0, 8, .inl (M.2 4)), .inl (0, 1053, .inl (M.2 5)), .inl (1, 972, .inl (M.2 6)), .inl (0, 1053, .inl (M.2 8)), .inl (0, 120, .inl (M.2 9)), .inl (3, 7, .inr (.inr (.inr (.inr q_kf)))), .inl (0, 360, .inl (M.2 17)), .inl (0, 4, .inl (M.2 21)), .inl (0, 4, .inl (M.2 22)), .inl (0, 160, .inl (M.2 23)), .inl (0, 40, .inl (M.2 24))]) rfl rfl rfl (Nat.le_of_ble_eq_true rfl) ⟨(Nat.le_of_ble_eq_true rfl), (Nat.le_of_ble_eq_true rfl)⟩ ⟨Nat.zero_le _, Nat.zero_le _⟩ dX6_isWrongBeat_70 (fun _ => rfl) (fun _ => rfl) (fun _ => rfl) (fun u6 => ?_)
    refine r_iconst C (2) dX6_isWrongBeat_73 rfl ?_
    refine r_icmp_ne C 81 dX6_isWrongBeat_74 (by decide) (fun h74 => ?_) (fun h74 => ?_)
    · refine r_iconst C (1) dX6_isWrongBeat_77 rfl ?_
      refine r_goto C 82 dX6_isWrongBeat_78 (by decide) ?_
      refine r_iadd C dX6_isWrongBeat_82 ?_
      refine r_istore C [(4, .int (x4 + (1 : Int32))), (3, .int (s1 + s0)), (0, .ref 50), (1, .int x1), (2, .int x2), (5, .int x5)] dX6_isWrongBeat_83 (Nat.le_of_ble_eq_true rfl) rfl ?_
      refine r_iinc C 5 (x5 + 1) [(5, .int (x5 + 1)), (4, .int (x4 + (1 : Int32))), (3, .int (s1 + s0)), (0, .ref 50), (1, .int x1), (2, .int x2)] dX6_isWrongBeat_85 rfl rfl (Nat.le_of_ble_eq_true rfl) rfl ?_
      refine r_goto C 18 dX6_isWrongBeat_88 (by decide) ?_
      refine r_lv [(0, .ref 50), (1, .int x1), (2, .int x2), (3, .int (s1 + s0)), (4, .int (x4 + (1 : Int32))), (5, .int (x5 + 1))] [3, 4, 5, 2, 1, 0] rfl ?_
      exact hr18 x1 x2 (s1 + s0) (x4 + (1 : Int32)) (x5 + 1)
    · refine r_iconst C (0) dX6_isWrongBeat_81 rfl ?_
      refine r_iadd C dX6_isWrongBeat_82 ?_
      refine r_istore C [(4, .int (x4 + (0 : Int32))), (3, .int (s1 + s0)), (0, .ref 50), (1, .int x1), (2, .int x2), (5, .int x5)] dX6_isWrongBeat_83 (Nat.le_of_ble_eq_true rfl) rfl ?_
      refine r_iinc C 5 (x5 + 1) [(5, .int (x5 + 1)), (4, .int (x4 + (0 : Int32))), (3, .int (s1 + s0)), (0, .ref 50), (1, .int x1), (2, .int x2)] dX6_isWrongBeat_85 rfl rfl (Nat.le_of_ble_eq_true rfl) rfl ?_
      refine r_goto C 18 dX6_isWrongBeat_88 (by decide) ?_
      refine r_lv [(0, .ref 50), (1, .int x1), (2, .int x2), (3, .int (s1 + s0)), (4, .int (x4 + (0 : Int32))), (5, .int (x5 + 1))] [3, 4, 5, 2, 1, 0] rfl ?_
      exact hr18 x1 x2 (s1 + s0) (x4 + (0 : Int32)) (x5 + 1)
set_option maxRecDepth 100000 in
set_option maxHeartbeats 4000000 in
theorem k_X6_isWrongBeat_18 {p : Program} {l : Launch} {e : Env} {s : State} {m : MethodId} {args : Array Value} {below : List Frame} {meth : Method} {c : Code} {dC : Nat → ClassId} {dI : Nat → Nat → Nat} {dA : Nat → ClassId} {A : Nat → Prop} {α : Nat → Nat} {t : Int32} (C : q_Cx p s m args meth c cX6_isWrongBeat 6 RX6 (some .boolean) "isWrongBeat" dC dI dA A α) (M : q_St) (a1 : Int32)  : ∀ (n : Nat) (x1 : Int32) (x2 : Int32) (x3 : Int32) (x4 : Int32) (x5 : Int32), q_S p l e (q_rm 3 65) s m args below meth c 6 dC dI dA A α (MQ below (q_Q α dC dI dA A ((fun u => some (.int u)) t) ((fun u => w_X6 M) t)) args s 0 0 A) 0 0 (f_X6_isWrongBeat_18 M a1  n x1 x2 x3 x4 x5) t 18 [(0, .ref 50), (1, .int x1), (2, .int x2), (3, .int x3), (4, .int x4), (5, .int x5)] [] (w_X6 M) := by
  intro n
  induction n with
  | zero =>
    intro x1 x2 x3 x4 x5
    exact r_cut (f_X6_isWrongBeat_18.eq_1 _ _ _ _ _ _ _) (r_none True.intro)
  | succ n ih =>
    intro x1 x2 x3 x4 x5
    refine r_cut (f_X6_isWrongBeat_18.eq_2 _ _ _ _ _ _ _ _) ?_
    refine r_iload C 5 dX6_isWrongBeat_18 rfl ?_
    refine r_aload_n C 0 dX6_isWrongBeat_20 rfl ?_
    refine r_get C 0 0 dX6_isWrongBeat_21 K_X6 rfl rfl (Nat.le_of_ble_eq_true rfl) rfl m_915 rfl ?_
    refine r_iconst C (0) dX6_isWrongBeat_24 rfl ?_
    refine r_iald C 1 dX6_isWrongBeat_25 rfl rfl (fun hi25 => ?_)
    refine r_icmp_ge C 91 dX6_isWrongBeat_26 (by decide) (fun h26 => ?_) (fun h26 => ?_)
    · refine r_aload_n C 0 dX6_isWrongBeat_91 rfl ?_
      refine r_get C 0 0 dX6_isWrongBeat_92 K_X6 rfl rfl (Nat.le_of_ble_eq_true rfl) rfl m_915 rfl ?_
      refine r_bipush C (56) dX6_isWrongBeat_95 rfl ?_
      refine r_iload_n C 1 dX6_isWrongBeat_97 rfl ?_
      refine r_iadd C dX6_isWrongBeat_98 ?_
      refine r_iald C 1 dX6_isWrongBeat_99 rfl rfl (fun hi99 => ?_)
      refine r_istore C [(5, .int (M.2 0 ((56 : Int32) + x1).toNatClampNeg)), (0, .ref 50), (1, .int x1), (2, .int x2), (3, .int x3), (4, .int x4)] dX6_isWrongBeat_100 (Nat.le_of_ble_eq_true rfl) rfl ?_
      refine r_iload_n C 3 dX6_isWrongBeat_102 rfl ?_
      refine r_callS C (o_X6_bits l x2) v_X6_bits m_1097 [] [.int x2] [] (fun u1 => [.int u1]) (fun u1 => [.inr (5, [.ref 51, .ref 52, .ref 53, .int (M.1 3), .ref 54, .ref 55, .ref 56, .int (M.1 7), .ref 57, .ref 58, .int (M.1 10), .int (M.1 11), .int (M.1 12), .int (M.1 13), .int (M.1 14), .int (M.1 15), .ref 59, .ref 60, .int (M.1 18), .int (M.1 19), .int (M.1 20), .ref 61, .ref 62, .ref 63, .ref 64]), .inl (0, 68, .inl (M.2 0)), .inl (0, 68, .inl (M.2 1)), .inl (0, 68, .inl (M.2 2)), .inl (0, 8, .inl (M.2 4)), .inl (0, 1053, .inl (M.2 5)), .inl (1, 972, .inl (M.2 6)), .inl (0, 1053, .inl (M.2 8)), .inl (0, 120, .inl (M.2 9)), .inl (3, 7, .inr (.inr (.inr (.inr q_kf)))), .inl (0, 360, .inl (M.2 17)), .inl (0, 4, .inl (M.2 21)), .inl (0, 4, .inl (M.2 22)), .inl (0, 160, .inl (M.2 23)), .inl (0, 40, .inl (M.2 24))]) rfl rfl rfl rfl rfl (Nat.le_of_ble_eq_true rfl) ⟨(Nat.le_of_ble_eq_true rfl), (Nat.le_of_ble_eq_true rfl)⟩ ⟨Nat.zero_le _, Nat.zero_le _⟩ dX6_isWrongBeat_103 (fun _ => rfl) (fun _ => rfl) (fun _ => rfl) (fun u1 => ?_)
      refine r_iconst C (2) dX6_isWrongBeat_106 rfl ?_
      refine r_icmp_gt C 135 dX6_isWrongBeat_107 (by decide) (fun h107 => ?_) (fun h107 => ?_)
      · refine r_iconst C (1) dX6_isWrongBeat_135 rfl ?_
        refine r_goto C 140 dX6_isWrongBeat_136 (by decide) ?_
        exact r_retz (x := (1 : Int32)) (rv := (fun u => some (.int u))) (hpE := (fun u => w_X6 M)) (t0 := (1 : Int32)) C dX6_isWrongBeat_140 (by rfl) (by rfl) (by rfl) (by rfl)
      · refine r_iload_n C 4 dX6_isWrongBeat_110 rfl ?_
        refine r_iconst C (1) dX6_isWrongBeat_111 rfl ?_
        refine r_icmp_gt C 135 dX6_isWrongBeat_112 (by decide) (fun h112 => ?_) (fun h112 => ?_)
        · refine r_iconst C (1) dX6_isWrongBeat_135 rfl ?_
          refine r_goto C 140 dX6_isWrongBeat_136 (by decide) ?_
          exact r_retz (x := (1 : Int32)) (rv := (fun u => some (.int u))) (hpE := (fun u => w_X6 M)) (t0 := (1 : Int32)) C dX6_isWrongBeat_140 (by rfl) (by rfl) (by rfl) (by rfl)
        · refine r_iload C 5 dX6_isWrongBeat_115 rfl ?_
          refine r_iconst C (1) dX6_isWrongBeat_117 rfl ?_
          refine r_icmp_gt C 135 dX6_isWrongBeat_118 (by decide) (fun h118 => ?_) (fun h118 => ?_)
          · refine r_iconst C (1) dX6_isWrongBeat_135 rfl ?_
            refine r_goto C 140 dX6_isWrongBeat_136 (by decide) ?_
            exact r_retz (x := (1 : Int32)) (rv := (fun u => some (.int u))) (hpE := (fun u => w_X6 M)) (t0 := (1 : Int32)) C dX6_isWrongBeat_140 (by rfl) (by rfl) (by rfl) (by rfl)
          · refine r_iload C 0 dX6_isWrongBeat_121 rfl ?_
            refine r_if_lt C 139 dX6_isWrongBeat_123 (by decide) (fun h123 => ?_) (fun h123 => ?_)
            · refine r_iconst C (0) dX6_isWrongBeat_139 rfl ?_
              exact r_retz (x := (0 : Int32)) (rv := (fun u => some (.int u))) (hpE := (fun u => w_X6 M)) (t0 := (0 : Int32)) C dX6_isWrongBeat_140 (by rfl) (by rfl) (by rfl) (by rfl)
            · refine r_iload_n C 3 dX6_isWrongBeat_126 rfl ?_
              refine r_iload C 0 dX6_isWrongBeat_127 rfl ?_
              refine r_callS C (o_X6_has l x2 (M.2 0 ((56 : Int32) + x1).toNatClampNeg)) v_X6_has m_1094 [] [.int x2, .int (M.2 0 ((56 : Int32) + x1).toNatClampNeg)] [] (fun u2 => [.int u2]) (fun u2 => [.inr (5, [.ref 51, .ref 52, .ref 53, .int (M.1 3), .ref 54, .ref 55, .ref 56, .int (M.1 7), .ref 57, .ref 58, .int (M.1 10), .int (M.1 11), .int (M.1 12), .int (M.1 13), .int (M.1 14), .int (M.1 15), .ref 59, .ref 60, .int (M.1 18), .int (M.1 19), .int (M.1 20), .ref 61, .ref 62, .ref 63, .ref 64]), .inl (0, 68, .inl (M.2 0)), .inl (0, 68, .inl (M.2 1)), .inl (0, 68, .inl (M.2 2)), .inl (0, 8, .inl (M.2 4)), .inl (0, 1053, .inl (M.2 5)), .inl (1, 972, .inl (M.2 6)), .inl (0, 1053, .inl (M.2 8)), .inl (0, 120, .inl (M.2 9)), .inl (3, 7, .inr (.inr (.inr (.inr q_kf)))), .inl (0, 360, .inl (M.2 17)), .inl (0, 4, .inl (M.2 21)), .inl (0, 4, .inl (M.2 22)), .inl (0, 160, .inl (M.2 23)), .inl (0, 40, .inl (M.2 24))]) rfl rfl rfl rfl rfl (Nat.le_of_ble_eq_true rfl) ⟨(Nat.le_of_ble_eq_true rfl), (Nat.le_of_ble_eq_true rfl)⟩ ⟨Nat.zero_le _, Nat.zero_le _⟩ dX6_isWrongBeat_129 (fun _ => rfl) (fun _ => rfl) (fun _ => rfl) (fun u2 => ?_)
              refine r_if_ne C 139 dX6_isWrongBeat_132 (by decide) (fun h132 => ?_) (fun h132 => ?_)
              · refine r_iconst C (1) dX6_isWrongBeat_135 rfl ?_
                refine r_goto C 140 dX6_isWrongBeat_136 (by decide) ?_
                exact r_retz (x := (1 : Int32)) (rv := (fun u => some (.int u))) (hpE := (fun u => w_X6 M)) (t0 := (1 : Int32)) C dX6_isWrongBeat_140 (by rfl) (by rfl) (by rfl) (by rfl)
              · refine r_iconst C (0) dX6_isWrongBeat_139 rfl ?_
                exact r_retz (x := (0 : Int32)) (rv := (fun u => some (.int u))) (hpE := (fun u => w_X6 M)) (t0 := (0 : Int32)) C dX6_isWrongBeat_140 (by rfl) (by rfl) (by rfl) (by rfl)
    · refine r_iload_n C 3 dX6_isWrongBeat_29 rfl ?_
      refine r_iload_n C 2 dX6_isWrongBeat_30 rfl ?_
      refine r_iload C 5 dX6_isWrongBeat_31 rfl ?_
      refine r_callS C (o_X6_has l x2 x5) v_X6_has m_1094 [] [.int x2, .int x5] [.int x3] (fun u3 => [.int u3, .int x3]) (fun u3 => [.inr (5, [.ref 51, .ref 52, .ref 53, .int (M.1 3), .ref 54, .ref 55, .ref 56, .int (M.1 7), .ref 57, .ref 58, .int (M.1 10), .int (M.1 11), .int (M.1 12), .int (M.1 13), .int (M.1 14), .int (M.1 15), .ref 59, .ref 60, .int (M.1 18), .int (M.1 19), .int (M.1 20), .ref 61, .ref 62, .ref 63, .ref 64]), .inl (0, 68, .inl (M.2 0)), .inl (0, 68, .inl (M.2 1)), .inl (0, 68, .inl (M.2 2)), .inl (0, 8, .inl (M.2 4)), .inl (0, 1053, .inl (M.2 5)), .inl (1, 972, .inl (M.2 6)), .inl (0, 1053, .inl (M.2 8)), .inl (0, 120, .inl (M.2 9)), .inl (3, 7, .inr (.inr (.inr (.inr q_kf)))), .inl (0, 360, .inl (M.2 17)), .inl (0, 4, .inl (M.2 21)), .inl (0, 4, .inl (M.2 22)), .inl (0, 160, .inl (M.2 23)), .inl (0, 40, .inl (M.2 24))]) rfl rfl rfl rfl rfl (Nat.le_of_ble_eq_true rfl) ⟨(Nat.le_of_ble_eq_true rfl), (Nat.le_of_ble_eq_true rfl)⟩ ⟨Nat.zero_le _, Nat.zero_le _⟩ dX6_isWrongBeat_33 (fun _ => rfl) (fun _ => rfl) (fun _ => rfl) (fun u3 => ?_)
      refine r_if_eq C 53 dX6_isWrongBeat_36 (by decide) (fun h36 => ?_) (fun h36 => ?_)
      · refine r_iconst C (0) dX6_isWrongBeat_53 rfl ?_
        refine r_lv [(0, .ref 50), (1, .int x1), (2, .int x2), (4, .int x4), (5, .int x5)] [0, 1, 2, 4, 5] rfl ?_
        exact k_X6_isWrongBeat_54 C M a1 (fun x1 x2 x3 x4 x5 => f_X6_isWrongBeat_18 M a1  n x1 x2 x3 x4 x5) ih x1 x2 x4 x5 (0 : Int32) x3
      · refine r_aload_n C 0 dX6_isWrongBeat_39 rfl ?_
        refine r_iload C 5 dX6_isWrongBeat_40 rfl ?_
        refine r_callV0 C (o_X6_wants l M x5) v_X6_wants m_1027 [.int x5] [.int x3] (50) (Or.inl ⟨0, 5, _, TX6, 25, rfl, rfl, rfl⟩) (fun u4 => [.int u4, .int x3]) (fun u4 => [.inr (5, [.ref 51, .ref 52, .ref 53, .int (M.1 3), .ref 54, .ref 55, .ref 56, .int (M.1 7), .ref 57, .ref 58, .int (M.1 10), .int (M.1 11), .int (M.1 12), .int (M.1 13), .int (M.1 14), .int (M.1 15), .ref 59, .ref 60, .int (M.1 18), .int (M.1 19), .int (M.1 20), .ref 61, .ref 62, .ref 63, .ref 64]), .inl (0, 68, .inl (M.2 0)), .inl (0, 68, .inl (M.2 1)), .inl (0, 68, .inl (M.2 2)), .inl (0, 8, .inl (M.2 4)), .inl (0, 1053, .inl (M.2 5)), .inl (1, 972, .inl (M.2 6)), .inl (0, 1053, .inl (M.2 8)), .inl (0, 120, .inl (M.2 9)), .inl (3, 7, .inr (.inr (.inr (.inr q_kf)))), .inl (0, 360, .inl (M.2 17)), .inl (0, 4, .inl (M.2 21)), .inl (0, 4, .inl (M.2 22)), .inl (0, 160, .inl (M.2 23)), .inl (0, 40, .inl (M.2 24))]) rfl rfl rfl (Nat.le_of_ble_eq_true rfl) ⟨(Nat.le_of_ble_eq_true rfl), (Nat.le_of_ble_eq_true rfl)⟩ ⟨Nat.zero_le _, Nat.zero_le _⟩ dX6_isWrongBeat_42 (fun _ => rfl) (fun _ => rfl) (fun _ => rfl) (fun u4 => ?_)
        refine r_iconst C (1) dX6_isWrongBeat_45 rfl ?_
        refine r_icmp_ne C 53 dX6_isWrongBeat_46 (by decide) (fun h46 => ?_) (fun h46 => ?_)
        · refine r_iconst C (1) dX6_isWrongBeat_49 rfl ?_
          refine r_goto C 54 dX6_isWrongBeat_50 (by decide) ?_
          refine r_lv [(0, .ref 50), (1, .int x1), (2, .int x2), (4, .int x4), (5, .int x5)] [0, 1, 2, 4, 5] rfl ?_
          exact k_X6_isWrongBeat_54 C M a1 (fun x1 x2 x3 x4 x5 => f_X6_isWrongBeat_18 M a1  n x1 x2 x3 x4 x5) ih x1 x2 x4 x5 (1 : Int32) x3
        · refine r_iconst C (0) dX6_isWrongBeat_53 rfl ?_
          refine r_lv [(0, .ref 50), (1, .int x1), (2, .int x2), (4, .int x4), (5, .int x5)] [0, 1, 2, 4, 5] rfl ?_
          exact k_X6_isWrongBeat_54 C M a1 (fun x1 x2 x3 x4 x5 => f_X6_isWrongBeat_18 M a1  n x1 x2 x3 x4 x5) ih x1 x2 x4 x5 (0 : Int32) x3
set_option maxRecDepth 100000 in
set_option maxHeartbeats 4000000 in
theorem o_X6_isWrongBeat (l : Launch) (M : q_St) (a1 : Int32) : q_Ok l yX6_isWrongBeat cX6_isWrongBeat 6 (some .boolean) 3 65 [.ref 50, .int a1] (w_X6 M) (f_X6_isWrongBeat M a1) (fun u => some (.int u)) (fun u => w_X6 M) := by
  refine q_enter (by decide +kernel) (Nat.le_of_ble_eq_true rfl) (fun t p e s m args below meth c dC dI dA A α C => ?_)
  refine r_cut (f_X6_isWrongBeat.eq_1 _ _) ?_
  show q_S p l e (q_rm 3 65) s m args below meth c 6 dC dI dA A α (MQ below (q_Q α dC dI dA A ((fun u => some (.int u)) t) ((fun u => w_X6 M) t)) args s 0 0 A) 0 0 _ t 0 [(0, .ref 50), (1, .int a1)] [] (w_X6 M)
  refine r_aload_n C 0 dX6_isWrongBeat_0 rfl ?_
  refine r_get C 0 0 dX6_isWrongBeat_1 K_X6 rfl rfl (Nat.le_of_ble_eq_true rfl) rfl m_915 rfl ?_
  refine r_bipush C (44) dX6_isWrongBeat_4 rfl ?_
  refine r_iload_n C 1 dX6_isWrongBeat_6 rfl ?_
  refine r_iadd C dX6_isWrongBeat_7 ?_
  refine r_iald C 1 dX6_isWrongBeat_8 rfl rfl (fun hi8 => ?_)
  refine r_istore_n C [(2, .int (M.2 0 ((44 : Int32) + a1).toNatClampNeg)), (0, .ref 50), (1, .int a1)] dX6_isWrongBeat_9 (Nat.le_of_ble_eq_true rfl) rfl ?_
  refine r_iconst C (0) dX6_isWrongBeat_10 rfl ?_
  refine r_istore_n C [(3, .int (0 : Int32)), (2, .int (M.2 0 ((44 : Int32) + a1).toNatClampNeg)), (0, .ref 50), (1, .int a1)] dX6_isWrongBeat_11 (Nat.le_of_ble_eq_true rfl) rfl ?_
  refine r_iconst C (0) dX6_isWrongBeat_12 rfl ?_
  refine r_istore C [(4, .int (0 : Int32)), (3, .int (0 : Int32)), (2, .int (M.2 0 ((44 : Int32) + a1).toNatClampNeg)), (0, .ref 50), (1, .int a1)] dX6_isWrongBeat_13 (Nat.le_of_ble_eq_true rfl) rfl ?_
  refine r_iconst C (0) dX6_isWrongBeat_15 rfl ?_
  refine r_istore C [(5, .int (0 : Int32)), (4, .int (0 : Int32)), (3, .int (0 : Int32)), (2, .int (M.2 0 ((44 : Int32) + a1).toNatClampNeg)), (0, .ref 50), (1, .int a1)] dX6_isWrongBeat_16 (Nat.le_of_ble_eq_true rfl) rfl ?_
  refine r_lv [(0, .ref 50), (1, .int a1), (2, .int (M.2 0 ((44 : Int32) + a1).toNatClampNeg)), (3, .int (0 : Int32)), (4, .int (0 : Int32)), (5, .int (0 : Int32))] [4, 5, 3, 2, 1, 0] rfl ?_
  exact k_X6_isWrongBeat_18 C M a1   q_N a1 (M.2 0 ((44 : Int32) + a1).toNatClampNeg) (0 : Int32) (0 : Int32) (0 : Int32)
set_option maxRecDepth 100000 in
set_option maxHeartbeats 4000000 in
theorem o_X6_told (l : Launch) (M : q_St) (a1 : Int32) (a2 : Int32) : q_Ok l yX6_told cX6_told 3 (some .int) 4 90 [.ref 50, .int a1, .int a2] (w_X6 M) (f_X6_told M a1 a2) (fun u => some (.int u.1)) (fun u => w_X6 u.2) := by
  refine q_enter (by decide +kernel) (Nat.le_of_ble_eq_true rfl) (fun t p e s m args below meth c dC dI dA A α C => ?_)
  refine r_cut (f_X6_told.eq_1 _ _ _) ?_
  show q_S p l e (q_rm 4 90) s m args below meth c 3 dC dI dA A α (MQ below (q_Q α dC dI dA A ((fun u => some (.int u.1)) t) ((fun u => w_X6 u.2) t)) args s 0 0 A) 0 0 _ t 0 [(0, .ref 50), (1, .int a1), (2, .int a2)] [] (w_X6 M)
  refine r_aload_n C 0 dX6_told_0 rfl ?_
  refine r_iload_n C 1 dX6_told_1 rfl ?_
  refine r_callV0 C (o_X6_isBeat l M a1) v_X6_isBeat m_1086 [.int a1] [] (50) (Or.inl ⟨0, 5, _, TX6, 25, rfl, rfl, rfl⟩) (fun u1 => [.int u1]) (fun u1 => [.inr (5, [.ref 51, .ref 52, .ref 53, .int (M.1 3), .ref 54, .ref 55, .ref 56, .int (M.1 7), .ref 57, .ref 58, .int (M.1 10), .int (M.1 11), .int (M.1 12), .int (M.1 13), .int (M.1 14), .int (M.1 15), .ref 59, .ref 60, .int (M.1 18), .int (M.1 19), .int (M.1 20), .ref 61, .ref 62, .ref 63, .ref 64]), .inl (0, 68, .inl (M.2 0)), .inl (0, 68, .inl (M.2 1)), .inl (0, 68, .inl (M.2 2)), .inl (0, 8, .inl (M.2 4)), .inl (0, 1053, .inl (M.2 5)), .inl (1, 972, .inl (M.2 6)), .inl (0, 1053, .inl (M.2 8)), .inl (0, 120, .inl (M.2 9)), .inl (3, 7, .inr (.inr (.inr (.inr q_kf)))), .inl (0, 360, .inl (M.2 17)), .inl (0, 4, .inl (M.2 21)), .inl (0, 4, .inl (M.2 22)), .inl (0, 160, .inl (M.2 23)), .inl (0, 40, .inl (M.2 24))]) rfl rfl rfl (Nat.le_of_ble_eq_true rfl) ⟨(Nat.le_of_ble_eq_true rfl), (Nat.le_of_ble_eq_true rfl)⟩ ⟨Nat.zero_le _, Nat.zero_le _⟩ dX6_told_2 (fun _ => rfl) (fun _ => rfl) (fun _ => rfl) (fun u1 => ?_)
  refine r_if_eq C 17 dX6_told_5 (by decide) (fun h5 => ?_) (fun h5 => ?_)
  · refine r_aload_n C 0 dX6_told_17 rfl ?_
    refine r_ldc C (-1000001) dX6_told_18 m_1002 ?_
    refine r_callV0 C (o_X6_finding l M (-1000001 : Int32)) v_X6_finding m_1003 [.int (-1000001 : Int32)] [] (50) (Or.inl ⟨0, 5, _, TX6, 25, rfl, rfl, rfl⟩) (fun u2 => [.int u2.1]) (fun u2 => [.inr (5, [.ref 51, .ref 52, .ref 53, .int (u2.2.1 3), .ref 54, .ref 55, .ref 56, .int (u2.2.1 7), .ref 57, .ref 58, .int (u2.2.1 10), .int (u2.2.1 11), .int (u2.2.1 12), .int (u2.2.1 13), .int (u2.2.1 14), .int (u2.2.1 15), .ref 59, .ref 60, .int (u2.2.1 18), .int (u2.2.1 19), .int (u2.2.1 20), .ref 61, .ref 62, .ref 63, .ref 64]), .inl (0, 68, .inl (u2.2.2 0)), .inl (0, 68, .inl (u2.2.2 1)), .inl (0, 68, .inl (u2.2.2 2)), .inl (0, 8, .inl (u2.2.2 4)), .inl (0, 1053, .inl (u2.2.2 5)), .inl (1, 972, .inl (u2.2.2 6)), .inl (0, 1053, .inl (u2.2.2 8)), .inl (0, 120, .inl (u2.2.2 9)), .inl (3, 7, .inr (.inr (.inr (.inr q_kf)))), .inl (0, 360, .inl (u2.2.2 17)), .inl (0, 4, .inl (u2.2.2 21)), .inl (0, 4, .inl (u2.2.2 22)), .inl (0, 160, .inl (u2.2.2 23)), .inl (0, 40, .inl (u2.2.2 24))]) rfl rfl rfl (Nat.le_of_ble_eq_true rfl) ⟨(Nat.le_of_ble_eq_true rfl), (Nat.le_of_ble_eq_true rfl)⟩ ⟨Nat.zero_le _, Nat.zero_le _⟩ dX6_told_20 (fun _ => rfl) (fun _ => rfl) (fun _ => rfl) (fun u2 => ?_)
    exact r_reti (x := u2.1) (rv := (fun u => some (.int u.1))) (hpE := (fun u => w_X6 u.2)) (t0 := (u2.1, u2.2)) C dX6_told_23 (by rfl) (by rfl) (by rfl)
  · refine r_iload_n C 2 dX6_told_8 rfl ?_
    refine r_iconst C (0) dX6_told_9 rfl ?_
    refine r_iconst C (2) dX6_told_10 rfl ?_
    refine r_callS C (o_X6_within l a2 (0 : Int32) (2 : Int32)) v_X6_within m_999 [] [.int a2, .int (0 : Int32), .int (2 : Int32)] [] (fun u3 => [.int u3]) (fun u3 => [.inr (5, [.ref 51, .ref 52, .ref 53, .int (M.1 3), .ref 54, .ref 55, .ref 56, .int (M.1 7), .ref 57, .ref 58, .int (M.1 10), .int (M.1 11), .int (M.1 12), .int (M.1 13), .int (M.1 14), .int (M.1 15), .ref 59, .ref 60, .int (M.1 18), .int (M.1 19), .int (M.1 20), .ref 61, .ref 62, .ref 63, .ref 64]), .inl (0, 68, .inl (M.2 0)), .inl (0, 68, .inl (M.2 1)), .inl (0, 68, .inl (M.2 2)), .inl (0, 8, .inl (M.2 4)), .inl (0, 1053, .inl (M.2 5)), .inl (1, 972, .inl (M.2 6)), .inl (0, 1053, .inl (M.2 8)), .inl (0, 120, .inl (M.2 9)), .inl (3, 7, .inr (.inr (.inr (.inr q_kf)))), .inl (0, 360, .inl (M.2 17)), .inl (0, 4, .inl (M.2 21)), .inl (0, 4, .inl (M.2 22)), .inl (0, 160, .inl (M.2 23)), .inl (0, 40, .inl (M.2 24))]) rfl rfl rfl rfl rfl (Nat.le_of_ble_eq_true rfl) ⟨(Nat.le_of_ble_eq_true rfl), (Nat.le_of_ble_eq_true rfl)⟩ ⟨Nat.zero_le _, Nat.zero_le _⟩ dX6_told_11 (fun _ => rfl) (fun _ => rfl) (fun _ => rfl) (fun u3 => ?_)
    refine r_if_ne C 24 dX6_told_14 (by decide) (fun h14 => ?_) (fun h14 => ?_)
    · refine r_aload_n C 0 dX6_told_17 rfl ?_
      refine r_ldc C (-1000001) dX6_told_18 m_1002 ?_
      refine r_callV0 C (o_X6_finding l M (-1000001 : Int32)) v_X6_finding m_1003 [.int (-1000001 : Int32)] [] (50) (Or.inl ⟨0, 5, _, TX6, 25, rfl, rfl, rfl⟩) (fun u5 => [.int u5.1]) (fun u5 => [.inr (5, [.ref 51, .ref 52, .ref 53, .int (u5.2.1 3), .ref 54, .ref 55, .ref 56, .int (u5.2.1 7), .ref 57, .ref 58, .int (u5.2.1 10), .int (u5.2.1 11), .int (u5.2.1 12), .int (u5.2.1 13), .int (u5.2.1 14), .int (u5.2.1 15), .ref 59, .ref 60, .int (u5.2.1 18), .int (u5.2.1 19), .int (u5.2.1 20), .ref 61, .ref 62, .ref 63, .ref 64]), .inl (0, 68, .inl (u5.2.2 0)), .inl (0, 68, .inl (u5.2.2 1)), .inl (0, 68, .inl (u5.2.2 2)), .inl (0, 8, .inl (u5.2.2 4)), .inl (0, 1053, .inl (u5.2.2 5)), .inl (1, 972, .inl (u5.2.2 6)), .inl (0, 1053, .inl (u5.2.2 8)), .inl (0, 120, .inl (u5.2.2 9)), .inl (3, 7, .inr (.inr (.inr (.inr q_kf)))), .inl (0, 360, .inl (u5.2.2 17)), .inl (0, 4, .inl (u5.2.2 21)), .inl (0, 4, .inl (u5.2.2 22)), .inl (0, 160, .inl (u5.2.2 23)), .inl (0, 40, .inl (u5.2.2 24))]) rfl rfl rfl (Nat.le_of_ble_eq_true rfl) ⟨(Nat.le_of_ble_eq_true rfl), (Nat.le_of_ble_eq_true rfl)⟩ ⟨Nat.zero_le _, Nat.zero_le _⟩ dX6_told_20 (fun _ => rfl) (fun _ => rfl) (fun _ => rfl) (fun u5 => ?_)
      exact r_reti (x := u5.1) (rv := (fun u => some (.int u.1))) (hpE := (fun u => w_X6 u.2)) (t0 := (u5.1, u5.2)) C dX6_told_23 (by rfl) (by rfl) (by rfl)
    · refine r_iload_n C 2 dX6_told_24 rfl ?_
      refine r_if_ne C 40 dX6_told_25 (by decide) (fun h25 => ?_) (fun h25 => ?_)
      · refine r_aload_n C 0 dX6_told_28 rfl ?_
        refine r_get C 0 0 dX6_told_29 K_X6 rfl rfl (Nat.le_of_ble_eq_true rfl) rfl m_915 rfl ?_
        refine r_bipush C (44) dX6_told_32 rfl ?_
        refine r_iload_n C 1 dX6_told_34 rfl ?_
        refine r_iadd C dX6_told_35 ?_
        refine r_iald C 1 dX6_told_36 rfl rfl (fun hi36 => ?_)
        refine r_goto C 70 dX6_told_37 (by decide) ?_
        exact r_reti (x := (M.2 0 ((44 : Int32) + a1).toNatClampNeg)) (rv := (fun u => some (.int u.1))) (hpE := (fun u => w_X6 u.2)) (t0 := ((M.2 0 ((44 : Int32) + a1).toNatClampNeg), M)) C dX6_told_70 (by rfl) (by rfl) (by rfl)
      · refine r_iload_n C 2 dX6_told_40 rfl ?_
        refine r_iconst C (1) dX6_told_41 rfl ?_
        refine r_icmp_ne C 57 dX6_told_42 (by decide) (fun h42 => ?_) (fun h42 => ?_)
        · refine r_aload_n C 0 dX6_told_45 rfl ?_
          refine r_get C 0 0 dX6_told_46 K_X6 rfl rfl (Nat.le_of_ble_eq_true rfl) rfl m_915 rfl ?_
          refine r_bipush C (56) dX6_told_49 rfl ?_
          refine r_iload_n C 1 dX6_told_51 rfl ?_
          refine r_iadd C dX6_told_52 ?_
          refine r_iald C 1 dX6_told_53 rfl rfl (fun hi53 => ?_)
          refine r_goto C 70 dX6_told_54 (by decide) ?_
          exact r_reti (x := (M.2 0 ((56 : Int32) + a1).toNatClampNeg)) (rv := (fun u => some (.int u.1))) (hpE := (fun u => w_X6 u.2)) (t0 := ((M.2 0 ((56 : Int32) + a1).toNatClampNeg), M)) C dX6_told_70 (by rfl) (by rfl) (by rfl)
        · refine r_aload_n C 0 dX6_told_57 rfl ?_
          refine r_iload_n C 1 dX6_told_58 rfl ?_
          refine r_callV0 C (o_X6_isWrongBeat l M a1) v_X6_isWrongBeat m_1090 [.int a1] [] (50) (Or.inl ⟨0, 5, _, TX6, 25, rfl, rfl, rfl⟩) (fun u4 => [.int u4]) (fun u4 => [.inr (5, [.ref 51, .ref 52, .ref 53, .int (M.1 3), .ref 54, .ref 55, .ref 56, .int (M.1 7), .ref 57, .ref 58, .int (M.1 10), .int (M.1 11), .int (M.1 12), .int (M.1 13), .int (M.1 14), .int (M.1 15), .ref 59, .ref 60, .int (M.1 18), .int (M.1 19), .int (M.1 20), .ref 61, .ref 62, .ref 63, .ref 64]), .inl (0, 68, .inl (M.2 0)), .inl (0, 68, .inl (M.2 1)), .inl (0, 68, .inl (M.2 2)), .inl (0, 8, .inl (M.2 4)), .inl (0, 1053, .inl (M.2 5)), .inl (1, 972, .inl (M.2 6)), .inl (0, 1053, .inl (M.2 8)), .inl (0, 120, .inl (M.2 9)), .inl (3, 7, .inr (.inr (.inr (.inr q_kf)))), .inl (0, 360, .inl (M.2 17)), .inl (0, 4, .inl (M.2 21)), .inl (0, 4, .inl (M.2 22)), .inl (0, 160, .inl (M.2 23)), .inl (0, 40, .inl (M.2 24))]) rfl rfl rfl (Nat.le_of_ble_eq_true rfl) ⟨(Nat.le_of_ble_eq_true rfl), (Nat.le_of_ble_eq_true rfl)⟩ ⟨Nat.zero_le _, Nat.zero_le _⟩ dX6_told_59 (fun _ => rfl) (fun _ => rfl) (fun _ => rfl) (fun u4 => ?_)
          refine r_if_eq C 69 dX6_told_62 (by decide) (fun h62 => ?_) (fun h62 => ?_)
          · refine r_iconst C (0) dX6_told_69 rfl ?_
            exact r_reti (x := (0 : Int32)) (rv := (fun u => some (.int u.1))) (hpE := (fun u => w_X6 u.2)) (t0 := ((0 : Int32), M)) C dX6_told_70 (by rfl) (by rfl) (by rfl)
          · refine r_iconst C (1) dX6_told_65 rfl ?_
            refine r_goto C 70 dX6_told_66 (by decide) ?_
            exact r_reti (x := (1 : Int32)) (rv := (fun u => some (.int u.1))) (hpE := (fun u => w_X6 u.2)) (t0 := ((1 : Int32), M)) C dX6_told_70 (by rfl) (by rfl) (by rfl)
set_option maxRecDepth 100000 in
set_option maxHeartbeats 4000000 in
theorem k_X6_tell_30 {p : Program} {l : Launch} {e : Env} {s : State} {m : MethodId} {args : Array Value} {below : List Frame} {meth : Method} {c : Code} {dC : Nat → ClassId} {dI : Nat → Nat → Nat} {dA : Nat → ClassId} {A : Nat → Prop} {α : Nat → Nat} {t : Int32 × q_St} (C : q_Cx p s m args meth c cX6_tell 5 RX6 (some .int) "tell" dC dI dA A α) (M : q_St) (a1 : Int32) (a2 : Int32) (a3 : Int32)  : ∀ (x1 : Int32) (x2 : Int32) (x3 : Int32) (s0 : Int32) (M' : q_St), q_S p l e (q_rm 3 64) s m args below meth c 5 dC dI dA A α (MQ below (q_Q α dC dI dA A ((fun u => some (.int u.1)) t) ((fun u => w_X6 u.2) t)) args s 0 0 A) 0 0 (f_X6_tell_30 M a1 a2 a3  x1 x2 x3 s0 M') t 30 [(0, .ref 50), (1, .int x1), (2, .int x2), (3, .int x3)] [.int s0] (w_X6 M') := by
  intro x1 x2 x3 s0 M'
  refine r_cut (f_X6_tell_30.eq_1 _ _ _ _ _ _ _ _ _) ?_
  refine r_istore C [(4, .int s0), (0, .ref 50), (1, .int x1), (2, .int x2), (3, .int x3)] dX6_tell_30 (Nat.le_of_ble_eq_true rfl) rfl ?_
  refine r_aload_n C 1 dX6_tell_32 rfl ?_
  refine r_iload_n C 2 dX6_tell_33 rfl ?_
  refine r_callV0 C (o_X6_isBeat l M' x1) v_X6_isBeat m_1086 [.int x1] [] (50) (Or.inl ⟨0, 5, _, TX6, 25, rfl, rfl, rfl⟩) (fun u3 => [.int u3]) (fun u3 => [.inr (5, [.ref 51, .ref 52, .ref 53, .int (M'.1 3), .ref 54, .ref 55, .ref 56, .int (M'.1 7), .ref 57, .ref 58, .int (M'.1 10), .int (M'.1 11), .int (M'.1 12), .int (M'.1 13), .int (M'.1 14), .int (M'.1 15), .ref 59, .ref 60, .int (M'.1 18), .int (M'.1 19), .int (M'.1 20), .ref 61, .ref 62, .ref 63, .ref 64]), .inl (0, 68, .inl (M'.2 0)), .inl (0, 68, .inl (M'.2 1)), .inl (0, 68, .inl (M'.2 2)), .inl (0, 8, .inl (M'.2 4)), .inl (0, 1053, .inl (M'.2 5)), .inl (1, 972, .inl (M'.2 6)), .inl (0, 1053, .inl (M'.2 8)), .inl (0, 120, .inl (M'.2 9)), .inl (3, 7, .inr (.inr (.inr (.inr q_kf)))), .inl (0, 360, .inl (M'.2 17)), .inl (0, 4, .inl (M'.2 21)), .inl (0, 4, .inl (M'.2 22)), .inl (0, 160, .inl (M'.2 23)), .inl (0, 40, .inl (M'.2 24))]) rfl rfl rfl (Nat.le_of_ble_eq_true rfl) ⟨(Nat.le_of_ble_eq_true rfl), (Nat.le_of_ble_eq_true rfl)⟩ ⟨Nat.zero_le _, Nat.zero_le _⟩ dX6_tell_34 (fun _ => rfl) (fun _ => rfl) (fun _ => rfl) (fun u3 => ?_)
  refine r_if_eq C 66 dX6_tell_37 (by decide) (fun h37 => ?_) (fun h37 => ?_)
  · refine r_aload_n C 1 dX6_tell_66 rfl ?_
    refine r_ldc C (-1000001) dX6_tell_67 m_1002 ?_
    refine r_callV0 C (o_X6_finding l M' (-1000001 : Int32)) v_X6_finding m_1003 [.int (-1000001 : Int32)] [] (50) (Or.inl ⟨0, 5, _, TX6, 25, rfl, rfl, rfl⟩) (fun u4 => [.int u4.1]) (fun u4 => [.inr (5, [.ref 51, .ref 52, .ref 53, .int (u4.2.1 3), .ref 54, .ref 55, .ref 56, .int (u4.2.1 7), .ref 57, .ref 58, .int (u4.2.1 10), .int (u4.2.1 11), .int (u4.2.1 12), .int (u4.2.1 13), .int (u4.2.1 14), .int (u4.2.1 15), .ref 59, .ref 60, .int (u4.2.1 18), .int (u4.2.1 19), .int (u4.2.1 20), .ref 61, .ref 62, .ref 63, .ref 64]), .inl (0, 68, .inl (u4.2.2 0)), .inl (0, 68, .inl (u4.2.2 1)), .inl (0, 68, .inl (u4.2.2 2)), .inl (0, 8, .inl (u4.2.2 4)), .inl (0, 1053, .inl (u4.2.2 5)), .inl (1, 972, .inl (u4.2.2 6)), .inl (0, 1053, .inl (u4.2.2 8)), .inl (0, 120, .inl (u4.2.2 9)), .inl (3, 7, .inr (.inr (.inr (.inr q_kf)))), .inl (0, 360, .inl (u4.2.2 17)), .inl (0, 4, .inl (u4.2.2 21)), .inl (0, 4, .inl (u4.2.2 22)), .inl (0, 160, .inl (u4.2.2 23)), .inl (0, 40, .inl (u4.2.2 24))]) rfl rfl rfl (Nat.le_of_ble_eq_true rfl) ⟨(Nat.le_of_ble_eq_true rfl), (Nat.le_of_ble_eq_true rfl)⟩ ⟨Nat.zero_le _, Nat.zero_le _⟩ dX6_tell_69 (fun _ => rfl) (fun _ => rfl) (fun _ => rfl) (fun u4 => ?_)
    exact r_reti (x := u4.1) (rv := (fun u => some (.int u.1))) (hpE := (fun u => w_X6 u.2)) (t0 := (u4.1, u4.2)) C dX6_tell_72 (by rfl) (by rfl) (by rfl)
  · refine r_iload C 0 dX6_tell_40 rfl ?_
    refine r_if_eq C 66 dX6_tell_42 (by decide) (fun h42 => ?_) (fun h42 => ?_)
    · refine r_aload_n C 1 dX6_tell_66 rfl ?_
      refine r_ldc C (-1000001) dX6_tell_67 m_1002 ?_
      refine r_callV0 C (o_X6_finding l M' (-1000001 : Int32)) v_X6_finding m_1003 [.int (-1000001 : Int32)] [] (50) (Or.inl ⟨0, 5, _, TX6, 25, rfl, rfl, rfl⟩) (fun u5 => [.int u5.1]) (fun u5 => [.inr (5, [.ref 51, .ref 52, .ref 53, .int (u5.2.1 3), .ref 54, .ref 55, .ref 56, .int (u5.2.1 7), .ref 57, .ref 58, .int (u5.2.1 10), .int (u5.2.1 11), .int (u5.2.1 12), .int (u5.2.1 13), .int (u5.2.1 14), .int (u5.2.1 15), .ref 59, .ref 60, .int (u5.2.1 18), .int (u5.2.1 19), .int (u5.2.1 20), .ref 61, .ref 62, .ref 63, .ref 64]), .inl (0, 68, .inl (u5.2.2 0)), .inl (0, 68, .inl (u5.2.2 1)), .inl (0, 68, .inl (u5.2.2 2)), .inl (0, 8, .inl (u5.2.2 4)), .inl (0, 1053, .inl (u5.2.2 5)), .inl (1, 972, .inl (u5.2.2 6)), .inl (0, 1053, .inl (u5.2.2 8)), .inl (0, 120, .inl (u5.2.2 9)), .inl (3, 7, .inr (.inr (.inr (.inr q_kf)))), .inl (0, 360, .inl (u5.2.2 17)), .inl (0, 4, .inl (u5.2.2 21)), .inl (0, 4, .inl (u5.2.2 22)), .inl (0, 160, .inl (u5.2.2 23)), .inl (0, 40, .inl (u5.2.2 24))]) rfl rfl rfl (Nat.le_of_ble_eq_true rfl) ⟨(Nat.le_of_ble_eq_true rfl), (Nat.le_of_ble_eq_true rfl)⟩ ⟨Nat.zero_le _, Nat.zero_le _⟩ dX6_tell_69 (fun _ => rfl) (fun _ => rfl) (fun _ => rfl) (fun u5 => ?_)
      exact r_reti (x := u5.1) (rv := (fun u => some (.int u.1))) (hpE := (fun u => w_X6 u.2)) (t0 := (u5.1, u5.2)) C dX6_tell_72 (by rfl) (by rfl) (by rfl)
    · refine r_aload_n C 1 dX6_tell_45 rfl ?_
      refine r_iload_n C 3 dX6_tell_46 rfl ?_
      refine r_if_ne C 55 dX6_tell_47 (by decide) (fun h47 => ?_) (fun h47 => ?_)
      · refine r_bipush C (44) dX6_tell_50 rfl ?_
        refine r_goto C 57 dX6_tell_52 (by decide) ?_
        refine r_iload_n C 2 dX6_tell_57 rfl ?_
        refine r_iadd C dX6_tell_58 ?_
        refine r_iload_n C 4 dX6_tell_59 rfl ?_
        refine r_callV0 C (o_X6_become l M' ((44 : Int32) + x1) x3) v_X6_become m_1050 [.int ((44 : Int32) + x1), .int x3] [] (50) (Or.inl ⟨0, 5, _, TX6, 25, rfl, rfl, rfl⟩) (fun u7 => [.int u7.1]) (fun u7 => [.inr (5, [.ref 51, .ref 52, .ref 53, .int (u7.2.1 3), .ref 54, .ref 55, .ref 56, .int (u7.2.1 7), .ref 57, .ref 58, .int (u7.2.1 10), .int (u7.2.1 11), .int (u7.2.1 12), .int (u7.2.1 13), .int (u7.2.1 14), .int (u7.2.1 15), .ref 59, .ref 60, .int (u7.2.1 18), .int (u7.2.1 19), .int (u7.2.1 20), .ref 61, .ref 62, .ref 63, .ref 64]), .inl (0, 68, .inl (u7.2.2 0)), .inl (0, 68, .inl (u7.2.2 1)), .inl (0, 68, .inl (u7.2.2 2)), .inl (0, 8, .inl (u7.2.2 4)), .inl (0, 1053, .inl (u7.2.2 5)), .inl (1, 972, .inl (u7.2.2 6)), .inl (0, 1053, .inl (u7.2.2 8)), .inl (0, 120, .inl (u7.2.2 9)), .inl (3, 7, .inr (.inr (.inr (.inr q_kf)))), .inl (0, 360, .inl (u7.2.2 17)), .inl (0, 4, .inl (u7.2.2 21)), .inl (0, 4, .inl (u7.2.2 22)), .inl (0, 160, .inl (u7.2.2 23)), .inl (0, 40, .inl (u7.2.2 24))]) rfl rfl rfl (Nat.le_of_ble_eq_true rfl) ⟨(Nat.le_of_ble_eq_true rfl), (Nat.le_of_ble_eq_true rfl)⟩ ⟨Nat.zero_le _, Nat.zero_le _⟩ dX6_tell_60 (fun _ => rfl) (fun _ => rfl) (fun _ => rfl) (fun u7 => ?_)
        refine r_goto C 72 dX6_tell_63 (by decide) ?_
        exact r_reti (x := u7.1) (rv := (fun u => some (.int u.1))) (hpE := (fun u => w_X6 u.2)) (t0 := (u7.1, u7.2)) C dX6_tell_72 (by rfl) (by rfl) (by rfl)
      · refine r_bipush C (56) dX6_tell_55 rfl ?_
        refine r_iload_n C 2 dX6_tell_57 rfl ?_
        refine r_iadd C dX6_tell_58 ?_
        refine r_iload_n C 4 dX6_tell_59 rfl ?_
        refine r_callV0 C (o_X6_become l M' ((56 : Int32) + x1) x3) v_X6_become m_1050 [.int ((56 : Int32) + x1), .int x3] [] (50) (Or.inl ⟨0, 5, _, TX6, 25, rfl, rfl, rfl⟩) (fun u6 => [.int u6.1]) (fun u6 => [.inr (5, [.ref 51, .ref 52, .ref 53, .int (u6.2.1 3), .ref 54, .ref 55, .ref 56, .int (u6.2.1 7), .ref 57, .ref 58, .int (u6.2.1 10), .int (u6.2.1 11), .int (u6.2.1 12), .int (u6.2.1 13), .int (u6.2.1 14), .int (u6.2.1 15), .ref 59, .ref 60, .int (u6.2.1 18), .int (u6.2.1 19), .int (u6.2.1 20), .ref 61, .ref 62, .ref 63, .ref 64]), .inl (0, 68, .inl (u6.2.2 0)), .inl (0, 68, .inl (u6.2.2 1)), .inl (0, 68, .inl (u6.2.2 2)), .inl (0, 8, .inl (u6.2.2 4)), .inl (0, 1053, .inl (u6.2.2 5)), .inl (1, 972, .inl (u6.2.2 6)), .inl (0, 1053, .inl (u6.2.2 8)), .inl (0, 120, .inl (u6.2.2 9)), .inl (3, 7, .inr (.inr (.inr (.inr q_kf)))), .inl (0, 360, .inl (u6.2.2 17)), .inl (0, 4, .inl (u6.2.2 21)), .inl (0, 4, .inl (u6.2.2 22)), .inl (0, 160, .inl (u6.2.2 23)), .inl (0, 40, .inl (u6.2.2 24))]) rfl rfl rfl (Nat.le_of_ble_eq_true rfl) ⟨(Nat.le_of_ble_eq_true rfl), (Nat.le_of_ble_eq_true rfl)⟩ ⟨Nat.zero_le _, Nat.zero_le _⟩ dX6_tell_60 (fun _ => rfl) (fun _ => rfl) (fun _ => rfl) (fun u6 => ?_)
        refine r_goto C 72 dX6_tell_63 (by decide) ?_
        exact r_reti (x := u6.1) (rv := (fun u => some (.int u.1))) (hpE := (fun u => w_X6 u.2)) (t0 := (u6.1, u6.2)) C dX6_tell_72 (by rfl) (by rfl) (by rfl)
set_option maxRecDepth 100000 in
set_option maxHeartbeats 4000000 in
theorem k_X6_tell_12 {p : Program} {l : Launch} {e : Env} {s : State} {m : MethodId} {args : Array Value} {below : List Frame} {meth : Method} {c : Code} {dC : Nat → ClassId} {dI : Nat → Nat → Nat} {dA : Nat → ClassId} {A : Nat → Prop} {α : Nat → Nat} {t : Int32 × q_St} (C : q_Cx p s m args meth c cX6_tell 5 RX6 (some .int) "tell" dC dI dA A α) (M : q_St) (a1 : Int32) (a2 : Int32) (a3 : Int32)  : ∀ (x1 : Int32) (x2 : Int32) (x3 : Int32) (M' : q_St), q_S p l e (q_rm 3 64) s m args below meth c 5 dC dI dA A α (MQ below (q_Q α dC dI dA A ((fun u => some (.int u.1)) t) ((fun u => w_X6 u.2) t)) args s 0 0 A) 0 0 (f_X6_tell_12 M a1 a2 a3  x1 x2 x3 M') t 12 [(0, .ref 50), (1, .int x1), (2, .int x2), (3, .int x3)] [] (w_X6 M') := by
  intro x1 x2 x3 M'
  refine r_cut (f_X6_tell_12.eq_1 _ _ _ _ _ _ _ _) ?_
  refine r_iload_n C 2 dX6_tell_12 rfl ?_
  refine r_iconst C (1) dX6_tell_13 rfl ?_
  refine r_icmp_ne C 29 dX6_tell_14 (by decide) (fun h14 => ?_) (fun h14 => ?_)
  · refine r_aload_n C 0 dX6_tell_17 rfl ?_
    refine r_iload_n C 3 dX6_tell_18 rfl ?_
    refine r_callV0 C (o_X6_maySpeak l M' x3) v_X6_maySpeak m_1074 [.int x3] [] (50) (Or.inl ⟨0, 5, _, TX6, 25, rfl, rfl, rfl⟩) (fun u2 => [.int u2]) (fun u2 => [.inr (5, [.ref 51, .ref 52, .ref 53, .int (M'.1 3), .ref 54, .ref 55, .ref 56, .int (M'.1 7), .ref 57, .ref 58, .int (M'.1 10), .int (M'.1 11), .int (M'.1 12), .int (M'.1 13), .int (M'.1 14), .int (M'.1 15), .ref 59, .ref 60, .int (M'.1 18), .int (M'.1 19), .int (M'.1 20), .ref 61, .ref 62, .ref 63, .ref 64]), .inl (0, 68, .inl (M'.2 0)), .inl (0, 68, .inl (M'.2 1)), .inl (0, 68, .inl (M'.2 2)), .inl (0, 8, .inl (M'.2 4)), .inl (0, 1053, .inl (M'.2 5)), .inl (1, 972, .inl (M'.2 6)), .inl (0, 1053, .inl (M'.2 8)), .inl (0, 120, .inl (M'.2 9)), .inl (3, 7, .inr (.inr (.inr (.inr q_kf)))), .inl (0, 360, .inl (M'.2 17)), .inl (0, 4, .inl (M'.2 21)), .inl (0, 4, .inl (M'.2 22)), .inl (0, 160, .inl (M'.2 23)), .inl (0, 40, .inl (M'.2 24))]) rfl rfl rfl (Nat.le_of_ble_eq_true rfl) ⟨(Nat.le_of_ble_eq_true rfl), (Nat.le_of_ble_eq_true rfl)⟩ ⟨Nat.zero_le _, Nat.zero_le _⟩ dX6_tell_19 (fun _ => rfl) (fun _ => rfl) (fun _ => rfl) (fun u2 => ?_)
    refine r_if_eq C 29 dX6_tell_22 (by decide) (fun h22 => ?_) (fun h22 => ?_)
    · refine r_iconst C (0) dX6_tell_29 rfl ?_
      exact k_X6_tell_30 C M a1 a2 a3   x1 x2 x3 (0 : Int32) M'
    · refine r_iconst C (1) dX6_tell_25 rfl ?_
      refine r_goto C 30 dX6_tell_26 (by decide) ?_
      exact k_X6_tell_30 C M a1 a2 a3   x1 x2 x3 (1 : Int32) M'
  · refine r_iconst C (0) dX6_tell_29 rfl ?_
    exact k_X6_tell_30 C M a1 a2 a3   x1 x2 x3 (0 : Int32) M'
set_option maxRecDepth 100000 in
set_option maxHeartbeats 4000000 in
theorem o_X6_tell (l : Launch) (M : q_St) (a1 : Int32) (a2 : Int32) (a3 : Int32) : q_Ok l yX6_tell cX6_tell 5 (some .int) 3 64 [.ref 50, .int a1, .int a2, .int a3] (w_X6 M) (f_X6_tell M a1 a2 a3) (fun u => some (.int u.1)) (fun u => w_X6 u.2) := by
  refine q_enter (by decide +kernel) (Nat.le_of_ble_eq_true rfl) (fun t p e s m args below meth c dC dI dA A α C => ?_)
  refine r_cut (f_X6_tell.eq_1 _ _ _ _) ?_
  show q_S p l e (q_rm 3 64) s m args below meth c 5 dC dI dA A α (MQ below (q_Q α dC dI dA A ((fun u => some (.int u.1)) t) ((fun u => w_X6 u.2) t)) args s 0 0 A) 0 0 _ t 0 [(0, .ref 50), (1, .int a1), (2, .int a2), (3, .int a3)] [] (w_X6 M)
  refine r_iload_n C 2 dX6_tell_0 rfl ?_
  refine r_if_ne C 12 dX6_tell_1 (by decide) (fun h1 => ?_) (fun h1 => ?_)
  · refine r_aload_n C 0 dX6_tell_4 rfl ?_
    refine r_iload_n C 3 dX6_tell_5 rfl ?_
    refine r_callV0 C (o_X6_isCast l M a3) v_X6_isCast m_1070 [.int a3] [] (50) (Or.inl ⟨0, 5, _, TX6, 25, rfl, rfl, rfl⟩) (fun u1 => [.int u1]) (fun u1 => [.inr (5, [.ref 51, .ref 52, .ref 53, .int (M.1 3), .ref 54, .ref 55, .ref 56, .int (M.1 7), .ref 57, .ref 58, .int (M.1 10), .int (M.1 11), .int (M.1 12), .int (M.1 13), .int (M.1 14), .int (M.1 15), .ref 59, .ref 60, .int (M.1 18), .int (M.1 19), .int (M.1 20), .ref 61, .ref 62, .ref 63, .ref 64]), .inl (0, 68, .inl (M.2 0)), .inl (0, 68, .inl (M.2 1)), .inl (0, 68, .inl (M.2 2)), .inl (0, 8, .inl (M.2 4)), .inl (0, 1053, .inl (M.2 5)), .inl (1, 972, .inl (M.2 6)), .inl (0, 1053, .inl (M.2 8)), .inl (0, 120, .inl (M.2 9)), .inl (3, 7, .inr (.inr (.inr (.inr q_kf)))), .inl (0, 360, .inl (M.2 17)), .inl (0, 4, .inl (M.2 21)), .inl (0, 4, .inl (M.2 22)), .inl (0, 160, .inl (M.2 23)), .inl (0, 40, .inl (M.2 24))]) rfl rfl rfl (Nat.le_of_ble_eq_true rfl) ⟨(Nat.le_of_ble_eq_true rfl), (Nat.le_of_ble_eq_true rfl)⟩ ⟨Nat.zero_le _, Nat.zero_le _⟩ dX6_tell_6 (fun _ => rfl) (fun _ => rfl) (fun _ => rfl) (fun u1 => ?_)
    refine r_if_ne C 25 dX6_tell_9 (by decide) (fun h9 => ?_) (fun h9 => ?_)
    · exact k_X6_tell_12 C M a1 a2 a3   a1 a2 a3 M
    · refine r_iconst C (1) dX6_tell_25 rfl ?_
      refine r_goto C 30 dX6_tell_26 (by decide) ?_
      exact k_X6_tell_30 C M a1 a2 a3   a1 a2 a3 (1 : Int32) M
  · exact k_X6_tell_12 C M a1 a2 a3   a1 a2 a3 M
set_option maxRecDepth 100000 in
set_option maxHeartbeats 4000000 in
theorem k_X6_goes_12 {p : Program} {l : Launch} {e : Env} {s : State} {m : MethodId} {args : Array Value} {below : List Frame} {meth : Method} {c : Code} {dC : Nat → ClassId} {dI : Nat → Nat → Nat} {dA : Nat → ClassId} {A : Nat → Prop} {α : Nat → Nat} {t : Int32 × q_St} (C : q_Cx p s m args meth c cX6_goes 3 RX6 (some .int) "goes" dC dI dA A α) (M : q_St) (a1 : Int32)  : ∀ (n : Nat) (x2 : Int32) (M' : q_St), q_S p l e (q_rm 0 0) s m args below meth c 3 dC dI dA A α (MQ below (q_Q α dC dI dA A ((fun u => some (.int u.1)) t) ((fun u => w_X6 u.2) t)) args s 0 0 A) 0 0 (f_X6_goes_12 M a1  n x2 M') t 12 [(0, .ref 50), (2, .int x2)] [] (w_X6 M') := by
  intro n
  induction n with
  | zero =>
    intro x2 M'
    exact r_cut (f_X6_goes_12.eq_1 _ _ _ _) (r_none True.intro)
  | succ n ih =>
    intro x2 M'
    refine r_cut (f_X6_goes_12.eq_2 _ _ _ _ _) ?_
    refine r_iload_n C 1 dX6_goes_12 rfl ?_
    refine r_aload_n C 0 dX6_goes_13 rfl ?_
    refine r_get C 0 0 dX6_goes_14 K_X6 rfl rfl (Nat.le_of_ble_eq_true rfl) rfl m_915 rfl ?_
    refine r_iconst C (1) dX6_goes_17 rfl ?_
    refine r_iald C 1 dX6_goes_18 rfl rfl (fun hi18 => ?_)
    refine r_icmp_ge C 68 dX6_goes_19 (by decide) (fun h19 => ?_) (fun h19 => ?_)
    · refine r_aload_n C 0 dX6_goes_68 rfl ?_
      refine r_get C 0 0 dX6_goes_69 K_X6 rfl rfl (Nat.le_of_ble_eq_true rfl) rfl m_915 rfl ?_
      refine r_iconst C (1) dX6_goes_72 rfl ?_
      refine r_iald C 1 dX6_goes_73 rfl rfl (fun hi73 => ?_)
      exact r_reti (x := (M'.2 0 (1 : Int32).toNatClampNeg)) (rv := (fun u => some (.int u.1))) (hpE := (fun u => w_X6 u.2)) (t0 := ((M'.2 0 (1 : Int32).toNatClampNeg), M')) C dX6_goes_74 (by rfl) (by rfl) (by rfl)
    · refine r_aload_n C 0 dX6_goes_22 rfl ?_
      refine r_get C 0 0 dX6_goes_23 K_X6 rfl rfl (Nat.le_of_ble_eq_true rfl) rfl m_915 rfl ?_
      refine r_bipush C (44) dX6_goes_26 rfl ?_
      refine r_iload_n C 1 dX6_goes_28 rfl ?_
      refine r_iadd C dX6_goes_29 ?_
      refine r_aload_n C 0 dX6_goes_30 rfl ?_
      refine r_get C 0 0 dX6_goes_31 K_X6 rfl rfl (Nat.le_of_ble_eq_true rfl) rfl m_915 rfl ?_
      refine r_bipush C (44) dX6_goes_34 rfl ?_
      refine r_iload_n C 1 dX6_goes_36 rfl ?_
      refine r_iadd C dX6_goes_37 ?_
      refine r_iconst C (1) dX6_goes_38 rfl ?_
      refine r_iadd C dX6_goes_39 ?_
      refine r_iald C 1 dX6_goes_40 rfl rfl (fun hi40 => ?_)
      refine r_iast C 1 _ dX6_goes_41 rfl rfl rfl (fun hi41 => ?_)
      refine r_aload_n C 0 dX6_goes_42 rfl ?_
      refine r_get C 0 0 dX6_goes_43 K_X6 rfl rfl (Nat.le_of_ble_eq_true rfl) rfl m_915 rfl ?_
      refine r_bipush C (56) dX6_goes_46 rfl ?_
      refine r_iload_n C 1 dX6_goes_48 rfl ?_
      refine r_iadd C dX6_goes_49 ?_
      refine r_aload_n C 0 dX6_goes_50 rfl ?_
      refine r_get C 0 0 dX6_goes_51 K_X6 rfl rfl (Nat.le_of_ble_eq_true rfl) rfl m_915 rfl ?_
      refine r_bipush C (56) dX6_goes_54 rfl ?_
      refine r_iload_n C 1 dX6_goes_56 rfl ?_
      refine r_iadd C dX6_goes_57 ?_
      refine r_iconst C (1) dX6_goes_58 rfl ?_
      refine r_iadd C dX6_goes_59 ?_
      refine r_iald C 1 dX6_goes_60 rfl rfl (fun hi60 => ?_)
      refine r_iast C 1 _ dX6_goes_61 rfl rfl rfl (fun hi61 => ?_)
      refine r_iinc C 1 (x2 + 1) [(2, .int (x2 + 1)), (0, .ref 50)] dX6_goes_62 rfl rfl (Nat.le_of_ble_eq_true rfl) rfl ?_
      refine r_goto C 12 dX6_goes_65 (by decide) ?_
      refine r_lv [(0, .ref 50), (2, .int (x2 + 1))] [1, 0] rfl ?_
      exact ih (x2 + 1) (M'.1, (va_up M'.2 0 (upd (upd (M'.2 0) ((44 : Int32) + x2).toNatClampNeg (M'.2 0 (((44 : Int32) + x2) + (1 : Int32)).toNatClampNeg)) ((56 : Int32) + x2).toNatClampNeg ((upd (M'.2 0) ((44 : Int32) + x2).toNatClampNeg (M'.2 0 (((44 : Int32) + x2) + (1 : Int32)).toNatClampNeg)) (((56 : Int32) + x2) + (1 : Int32)).toNatClampNeg))))
set_option maxRecDepth 100000 in
set_option maxHeartbeats 4000000 in
theorem o_X6_goes (l : Launch) (M : q_St) (a1 : Int32) : q_Ok l yX6_goes cX6_goes 3 (some .int) 0 0 [.ref 50, .int a1] (w_X6 M) (f_X6_goes M a1) (fun u => some (.int u.1)) (fun u => w_X6 u.2) := by
  refine q_enter (by decide +kernel) (Nat.le_of_ble_eq_true rfl) (fun t p e s m args below meth c dC dI dA A α C => ?_)
  refine r_cut (f_X6_goes.eq_1 _ _) ?_
  show q_S p l e (q_rm 0 0) s m args below meth c 3 dC dI dA A α (MQ below (q_Q α dC dI dA A ((fun u => some (.int u.1)) t) ((fun u => w_X6 u.2) t)) args s 0 0 A) 0 0 _ t 0 [(0, .ref 50), (1, .int a1)] [] (w_X6 M)
  refine r_aload_n C 0 dX6_goes_0 rfl ?_
  refine r_get C 0 0 dX6_goes_1 K_X6 rfl rfl (Nat.le_of_ble_eq_true rfl) rfl m_915 rfl ?_
  refine r_iconst C (1) dX6_goes_4 rfl ?_
  refine r_dup2 C dX6_goes_5 rfl rfl ?_
  refine r_iald C 1 dX6_goes_6 rfl rfl (fun hi6 => ?_)
  refine r_iconst C (1) dX6_goes_7 rfl ?_
  refine r_isub C dX6_goes_8 ?_
  refine r_iast C 1 _ dX6_goes_9 rfl rfl rfl (fun hi9 => ?_)
  refine r_iload_n C 1 dX6_goes_10 rfl ?_
  refine r_istore_n C [(2, .int a1), (0, .ref 50), (1, .int a1)] dX6_goes_11 (Nat.le_of_ble_eq_true rfl) rfl ?_
  refine r_lv [(0, .ref 50), (2, .int a1)] [1, 0] rfl ?_
  exact k_X6_goes_12 C M a1   q_N a1 (M.1, (va_up M.2 0 (upd (M.2 0) (1 : Int32).toNatClampNeg ((M.2 0 (1 : Int32).toNatClampNeg) - (1 : Int32)))))
set_option maxRecDepth 100000 in
set_option maxHeartbeats 4000000 in
theorem o_X6_cut (l : Launch) (M : q_St) (a1 : Int32) : q_Ok l yX6_cut cX6_cut 2 (some .int) 2 43 [.ref 50, .int a1] (w_X6 M) (f_X6_cut M a1) (fun u => some (.int u.1)) (fun u => w_X6 u.2) := by
  refine q_enter (by decide +kernel) (Nat.le_of_ble_eq_true rfl) (fun t p e s m args below meth c dC dI dA A α C => ?_)
  refine r_cut (f_X6_cut.eq_1 _ _) ?_
  show q_S p l e (q_rm 2 43) s m args below meth c 2 dC dI dA A α (MQ below (q_Q α dC dI dA A ((fun u => some (.int u.1)) t) ((fun u => w_X6 u.2) t)) args s 0 0 A) 0 0 _ t 0 [(0, .ref 50), (1, .int a1)] [] (w_X6 M)
  refine r_aload_n C 0 dX6_cut_0 rfl ?_
  refine r_iload_n C 1 dX6_cut_1 rfl ?_
  refine r_callV0 C (o_X6_isBeat l M a1) v_X6_isBeat m_1086 [.int a1] [] (50) (Or.inl ⟨0, 5, _, TX6, 25, rfl, rfl, rfl⟩) (fun u1 => [.int u1]) (fun u1 => [.inr (5, [.ref 51, .ref 52, .ref 53, .int (M.1 3), .ref 54, .ref 55, .ref 56, .int (M.1 7), .ref 57, .ref 58, .int (M.1 10), .int (M.1 11), .int (M.1 12), .int (M.1 13), .int (M.1 14), .int (M.1 15), .ref 59, .ref 60, .int (M.1 18), .int (M.1 19), .int (M.1 20), .ref 61, .ref 62, .ref 63, .ref 64]), .inl (0, 68, .inl (M.2 0)), .inl (0, 68, .inl (M.2 1)), .inl (0, 68, .inl (M.2 2)), .inl (0, 8, .inl (M.2 4)), .inl (0, 1053, .inl (M.2 5)), .inl (1, 972, .inl (M.2 6)), .inl (0, 1053, .inl (M.2 8)), .inl (0, 120, .inl (M.2 9)), .inl (3, 7, .inr (.inr (.inr (.inr q_kf)))), .inl (0, 360, .inl (M.2 17)), .inl (0, 4, .inl (M.2 21)), .inl (0, 4, .inl (M.2 22)), .inl (0, 160, .inl (M.2 23)), .inl (0, 40, .inl (M.2 24))]) rfl rfl rfl (Nat.le_of_ble_eq_true rfl) ⟨(Nat.le_of_ble_eq_true rfl), (Nat.le_of_ble_eq_true rfl)⟩ ⟨Nat.zero_le _, Nat.zero_le _⟩ dX6_cut_2 (fun _ => rfl) (fun _ => rfl) (fun _ => rfl) (fun u1 => ?_)
  refine r_if_eq C 16 dX6_cut_5 (by decide) (fun h5 => ?_) (fun h5 => ?_)
  · refine r_aload_n C 0 dX6_cut_16 rfl ?_
    refine r_ldc C (-1000001) dX6_cut_17 m_1002 ?_
    refine r_callV0 C (o_X6_finding l M (-1000001 : Int32)) v_X6_finding m_1003 [.int (-1000001 : Int32)] [] (50) (Or.inl ⟨0, 5, _, TX6, 25, rfl, rfl, rfl⟩) (fun u2 => [.int u2.1]) (fun u2 => [.inr (5, [.ref 51, .ref 52, .ref 53, .int (u2.2.1 3), .ref 54, .ref 55, .ref 56, .int (u2.2.1 7), .ref 57, .ref 58, .int (u2.2.1 10), .int (u2.2.1 11), .int (u2.2.1 12), .int (u2.2.1 13), .int (u2.2.1 14), .int (u2.2.1 15), .ref 59, .ref 60, .int (u2.2.1 18), .int (u2.2.1 19), .int (u2.2.1 20), .ref 61, .ref 62, .ref 63, .ref 64]), .inl (0, 68, .inl (u2.2.2 0)), .inl (0, 68, .inl (u2.2.2 1)), .inl (0, 68, .inl (u2.2.2 2)), .inl (0, 8, .inl (u2.2.2 4)), .inl (0, 1053, .inl (u2.2.2 5)), .inl (1, 972, .inl (u2.2.2 6)), .inl (0, 1053, .inl (u2.2.2 8)), .inl (0, 120, .inl (u2.2.2 9)), .inl (3, 7, .inr (.inr (.inr (.inr q_kf)))), .inl (0, 360, .inl (u2.2.2 17)), .inl (0, 4, .inl (u2.2.2 21)), .inl (0, 4, .inl (u2.2.2 22)), .inl (0, 160, .inl (u2.2.2 23)), .inl (0, 40, .inl (u2.2.2 24))]) rfl rfl rfl (Nat.le_of_ble_eq_true rfl) ⟨(Nat.le_of_ble_eq_true rfl), (Nat.le_of_ble_eq_true rfl)⟩ ⟨Nat.zero_le _, Nat.zero_le _⟩ dX6_cut_19 (fun _ => rfl) (fun _ => rfl) (fun _ => rfl) (fun u2 => ?_)
    exact r_reti (x := u2.1) (rv := (fun u => some (.int u.1))) (hpE := (fun u => w_X6 u.2)) (t0 := (u2.1, u2.2)) C dX6_cut_22 (by rfl) (by rfl) (by rfl)
  · refine r_aload_n C 0 dX6_cut_8 rfl ?_
    refine r_iload_n C 1 dX6_cut_9 rfl ?_
    refine r_callV0 C (o_X6_goes l M a1) v_X6_goes m_1108 [.int a1] [] (50) (Or.inl ⟨0, 5, _, TX6, 25, rfl, rfl, rfl⟩) (fun u3 => [.int u3.1]) (fun u3 => [.inr (5, [.ref 51, .ref 52, .ref 53, .int (u3.2.1 3), .ref 54, .ref 55, .ref 56, .int (u3.2.1 7), .ref 57, .ref 58, .int (u3.2.1 10), .int (u3.2.1 11), .int (u3.2.1 12), .int (u3.2.1 13), .int (u3.2.1 14), .int (u3.2.1 15), .ref 59, .ref 60, .int (u3.2.1 18), .int (u3.2.1 19), .int (u3.2.1 20), .ref 61, .ref 62, .ref 63, .ref 64]), .inl (0, 68, .inl (u3.2.2 0)), .inl (0, 68, .inl (u3.2.2 1)), .inl (0, 68, .inl (u3.2.2 2)), .inl (0, 8, .inl (u3.2.2 4)), .inl (0, 1053, .inl (u3.2.2 5)), .inl (1, 972, .inl (u3.2.2 6)), .inl (0, 1053, .inl (u3.2.2 8)), .inl (0, 120, .inl (u3.2.2 9)), .inl (3, 7, .inr (.inr (.inr (.inr q_kf)))), .inl (0, 360, .inl (u3.2.2 17)), .inl (0, 4, .inl (u3.2.2 21)), .inl (0, 4, .inl (u3.2.2 22)), .inl (0, 160, .inl (u3.2.2 23)), .inl (0, 40, .inl (u3.2.2 24))]) rfl rfl rfl (Nat.le_of_ble_eq_true rfl) ⟨(Nat.le_of_ble_eq_true rfl), (Nat.le_of_ble_eq_true rfl)⟩ ⟨Nat.zero_le _, Nat.zero_le _⟩ dX6_cut_10 (fun _ => rfl) (fun _ => rfl) (fun _ => rfl) (fun u3 => ?_)
    refine r_goto C 22 dX6_cut_13 (by decide) ?_
    exact r_reti (x := u3.1) (rv := (fun u => some (.int u.1))) (hpE := (fun u => w_X6 u.2)) (t0 := (u3.1, u3.2)) C dX6_cut_22 (by rfl) (by rfl) (by rfl)
set_option maxRecDepth 100000 in
set_option maxHeartbeats 4000000 in
theorem k_X6_wrongBeats_4 {p : Program} {l : Launch} {e : Env} {s : State} {m : MethodId} {args : Array Value} {below : List Frame} {meth : Method} {c : Code} {dC : Nat → ClassId} {dI : Nat → Nat → Nat} {dA : Nat → ClassId} {A : Nat → Prop} {α : Nat → Nat} {t : Int32} (C : q_Cx p s m args meth c cX6_wrongBeats 3 RX6 (some .int) "wrongBeats" dC dI dA A α) (M : q_St)  : ∀ (n : Nat) (x1 : Int32) (x2 : Int32), q_S p l e (q_rm 4 90) s m args below meth c 3 dC dI dA A α (MQ below (q_Q α dC dI dA A ((fun u => some (.int u)) t) ((fun u => w_X6 M) t)) args s 0 0 A) 0 0 (f_X6_wrongBeats_4 M  n x1 x2) t 4 [(0, .ref 50), (1, .int x1), (2, .int x2)] [] (w_X6 M) := by
  intro n
  induction n with
  | zero =>
    intro x1 x2
    exact r_cut (f_X6_wrongBeats_4.eq_1 _ _ _) (r_none True.intro)
  | succ n ih =>
    intro x1 x2
    refine r_cut (f_X6_wrongBeats_4.eq_2 _ _ _ _) ?_
    refine r_iload_n C 2 dX6_wrongBeats_4 rfl ?_
    refine r_aload_n C 0 dX6_wrongBeats_5 rfl ?_
    refine r_get C 0 0 dX6_wrongBeats_6 K_X6 rfl rfl (Nat.le_of_ble_eq_true rfl) rfl m_915 rfl ?_
    refine r_iconst C (1) dX6_wrongBeats_9 rfl ?_
    refine r_iald C 1 dX6_wrongBeats_10 rfl rfl (fun hi10 => ?_)
    refine r_icmp_ge C 38 dX6_wrongBeats_11 (by decide) (fun h11 => ?_) (fun h11 => ?_)
    · refine r_iload_n C 1 dX6_wrongBeats_38 rfl ?_
      exact r_reti (x := x1) (rv := (fun u => some (.int u))) (hpE := (fun u => w_X6 M)) (t0 := x1) C dX6_wrongBeats_39 (by rfl) (by rfl) (by rfl)
    · refine r_iload_n C 1 dX6_wrongBeats_14 rfl ?_
      refine r_aload_n C 0 dX6_wrongBeats_15 rfl ?_
      refine r_iload_n C 2 dX6_wrongBeats_16 rfl ?_
      refine r_callV0 C (o_X6_isWrongBeat l M x2) v_X6_isWrongBeat m_1090 [.int x2] [.int x1] (50) (Or.inl ⟨0, 5, _, TX6, 25, rfl, rfl, rfl⟩) (fun u1 => [.int u1, .int x1]) (fun u1 => [.inr (5, [.ref 51, .ref 52, .ref 53, .int (M.1 3), .ref 54, .ref 55, .ref 56, .int (M.1 7), .ref 57, .ref 58, .int (M.1 10), .int (M.1 11), .int (M.1 12), .int (M.1 13), .int (M.1 14), .int (M.1 15), .ref 59, .ref 60, .int (M.1 18), .int (M.1 19), .int (M.1 20), .ref 61, .ref 62, .ref 63, .ref 64]), .inl (0, 68, .inl (M.2 0)), .inl (0, 68, .inl (M.2 1)), .inl (0, 68, .inl (M.2 2)), .inl (0, 8, .inl (M.2 4)), .inl (0, 1053, .inl (M.2 5)), .inl (1, 972, .inl (M.2 6)), .inl (0, 1053, .inl (M.2 8)), .inl (0, 120, .inl (M.2 9)), .inl (3, 7, .inr (.inr (.inr (.inr q_kf)))), .inl (0, 360, .inl (M.2 17)), .inl (0, 4, .inl (M.2 21)), .inl (0, 4, .inl (M.2 22)), .inl (0, 160, .inl (M.2 23)), .inl (0, 40, .inl (M.2 24))]) rfl rfl rfl (Nat.le_of_ble_eq_true rfl) ⟨(Nat.le_of_ble_eq_true rfl), (Nat.le_of_ble_eq_true rfl)⟩ ⟨Nat.zero_le _, Nat.zero_le _⟩ dX6_wrongBeats_17 (fun _ => rfl) (fun _ => rfl) (fun _ => rfl) (fun u1 => ?_)
      refine r_if_eq C 29 dX6_wrongBeats_20 (by decide) (fun h20 => ?_) (fun h20 => ?_)
      · refine r_iconst C (0) dX6_wrongBeats_29 rfl ?_
        refine r_ior C dX6_wrongBeats_30 ?_
        refine r_istore_n C [(1, .int (x1 ||| (0 : Int32))), (0, .ref 50), (2, .int x2)] dX6_wrongBeats_31 (Nat.le_of_ble_eq_true rfl) rfl ?_
        refine r_iinc C 2 (x2 + 1) [(2, .int (x2 + 1)), (1, .int (x1 ||| (0 : Int32))), (0, .ref 50)] dX6_wrongBeats_32 rfl rfl (Nat.le_of_ble_eq_true rfl) rfl ?_
        refine r_goto C 4 dX6_wrongBeats_35 (by decide) ?_
        refine r_lv [(0, .ref 50), (1, .int (x1 ||| (0 : Int32))), (2, .int (x2 + 1))] [2, 1, 0] rfl ?_
        exact ih (x1 ||| (0 : Int32)) (x2 + 1)
      · refine r_iconst C (1) dX6_wrongBeats_23 rfl ?_
        refine r_iload_n C 2 dX6_wrongBeats_24 rfl ?_
        refine r_ishl C dX6_wrongBeats_25 ?_
        refine r_goto C 30 dX6_wrongBeats_26 (by decide) ?_
        refine r_ior C dX6_wrongBeats_30 ?_
        refine r_istore_n C [(1, .int (x1 ||| ((1 : Int32) <<< (x2 &&& 31)))), (0, .ref 50), (2, .int x2)] dX6_wrongBeats_31 (Nat.le_of_ble_eq_true rfl) rfl ?_
        refine r_iinc C 2 (x2 + 1) [(2, .int (x2 + 1)), (1, .int (x1 ||| ((1 : Int32) <<< (x2 &&& 31)))), (0, .ref 50)] dX6_wrongBeats_32 rfl rfl (Nat.le_of_ble_eq_true rfl) rfl ?_
        refine r_goto C 4 dX6_wrongBeats_35 (by decide) ?_
        refine r_lv [(0, .ref 50), (1, .int (x1 ||| ((1 : Int32) <<< (x2 &&& 31)))), (2, .int (x2 + 1))] [2, 1, 0] rfl ?_
        exact ih (x1 ||| ((1 : Int32) <<< (x2 &&& 31))) (x2 + 1)
set_option maxRecDepth 100000 in
set_option maxHeartbeats 4000000 in
theorem o_X6_wrongBeats (l : Launch) (M : q_St) : q_Ok l yX6_wrongBeats cX6_wrongBeats 3 (some .int) 4 90 [.ref 50] (w_X6 M) (f_X6_wrongBeats M) (fun u => some (.int u)) (fun u => w_X6 M) := by
  refine q_enter (by decide +kernel) (Nat.le_of_ble_eq_true rfl) (fun t p e s m args below meth c dC dI dA A α C => ?_)
  refine r_cut (f_X6_wrongBeats.eq_1 _) ?_
  show q_S p l e (q_rm 4 90) s m args below meth c 3 dC dI dA A α (MQ below (q_Q α dC dI dA A ((fun u => some (.int u)) t) ((fun u => w_X6 M) t)) args s 0 0 A) 0 0 _ t 0 [(0, .ref 50)] [] (w_X6 M)
  refine r_iconst C (0) dX6_wrongBeats_0 rfl ?_
  refine r_istore_n C [(1, .int (0 : Int32)), (0, .ref 50)] dX6_wrongBeats_1 (Nat.le_of_ble_eq_true rfl) rfl ?_
  refine r_iconst C (0) dX6_wrongBeats_2 rfl ?_
  refine r_istore_n C [(2, .int (0 : Int32)), (1, .int (0 : Int32)), (0, .ref 50)] dX6_wrongBeats_3 (Nat.le_of_ble_eq_true rfl) rfl ?_
  refine r_lv [(0, .ref 50), (1, .int (0 : Int32)), (2, .int (0 : Int32))] [2, 1, 0] rfl ?_
  exact k_X6_wrongBeats_4 C M   q_N (0 : Int32) (0 : Int32)
set_option maxRecDepth 100000 in
set_option maxHeartbeats 4000000 in
theorem o_X6_wrong (l : Launch) (M : q_St) : q_Ok l yX6_wrong cX6_wrong 1 (some .int) 5 112 [.ref 50] (w_X6 M) (f_X6_wrong M) (fun u => some (.int u)) (fun u => w_X6 M) := by
  refine q_enter (by decide +kernel) (Nat.le_of_ble_eq_true rfl) (fun t p e s m args below meth c dC dI dA A α C => ?_)
  refine r_cut (f_X6_wrong.eq_1 _) ?_
  show q_S p l e (q_rm 5 112) s m args below meth c 1 dC dI dA A α (MQ below (q_Q α dC dI dA A ((fun u => some (.int u)) t) ((fun u => w_X6 M) t)) args s 0 0 A) 0 0 _ t 0 [(0, .ref 50)] [] (w_X6 M)
  refine r_aload_n C 0 dX6_wrong_0 rfl ?_
  refine r_callV0 C (o_X6_wrongBeats l M) v_X6_wrongBeats m_1116 [] [] (50) (Or.inl ⟨0, 5, _, TX6, 25, rfl, rfl, rfl⟩) (fun u1 => [.int u1]) (fun u1 => [.inr (5, [.ref 51, .ref 52, .ref 53, .int (M.1 3), .ref 54, .ref 55, .ref 56, .int (M.1 7), .ref 57, .ref 58, .int (M.1 10), .int (M.1 11), .int (M.1 12), .int (M.1 13), .int (M.1 14), .int (M.1 15), .ref 59, .ref 60, .int (M.1 18), .int (M.1 19), .int (M.1 20), .ref 61, .ref 62, .ref 63, .ref 64]), .inl (0, 68, .inl (M.2 0)), .inl (0, 68, .inl (M.2 1)), .inl (0, 68, .inl (M.2 2)), .inl (0, 8, .inl (M.2 4)), .inl (0, 1053, .inl (M.2 5)), .inl (1, 972, .inl (M.2 6)), .inl (0, 1053, .inl (M.2 8)), .inl (0, 120, .inl (M.2 9)), .inl (3, 7, .inr (.inr (.inr (.inr q_kf)))), .inl (0, 360, .inl (M.2 17)), .inl (0, 4, .inl (M.2 21)), .inl (0, 4, .inl (M.2 22)), .inl (0, 160, .inl (M.2 23)), .inl (0, 40, .inl (M.2 24))]) rfl rfl rfl (Nat.le_of_ble_eq_true rfl) ⟨(Nat.le_of_ble_eq_true rfl), (Nat.le_of_ble_eq_true rfl)⟩ ⟨Nat.zero_le _, Nat.zero_le _⟩ dX6_wrong_1 (fun _ => rfl) (fun _ => rfl) (fun _ => rfl) (fun u1 => ?_)
  exact r_reti (x := u1) (rv := (fun u => some (.int u))) (hpE := (fun u => w_X6 M)) (t0 := u1) C dX6_wrong_4 (by rfl) (by rfl) (by rfl)
set_option maxRecDepth 100000 in
set_option maxHeartbeats 4000000 in
theorem k_X6_whistle_42 {p : Program} {l : Launch} {e : Env} {s : State} {m : MethodId} {args : Array Value} {below : List Frame} {meth : Method} {c : Code} {dC : Nat → ClassId} {dI : Nat → Nat → Nat} {dA : Nat → ClassId} {A : Nat → Prop} {α : Nat → Nat} {t : Int32} (C : q_Cx p s m args meth c cX6_whistle 6 RX6 (some .int) "whistle" dC dI dA A α) (M : q_St) (r6 : Int32 → Int32 → Int32 → Option (Int32))
    (hr6 : ∀ (x1 : Int32) (x2 : Int32) (x3 : Int32), q_S p l e (q_rm 3 64) s m args below meth c 6 dC dI dA A α (MQ below (q_Q α dC dI dA A ((fun u => some (.int u)) t) ((fun u => w_X6 M) t)) args s 0 0 A) 0 0 (r6 x1 x2 x3) t 6 [(0, .ref 50), (1, .int x1), (2, .int x2), (3, .int x3)] [] (w_X6 M)) : ∀ (x1 : Int32) (x2 : Int32) (x3 : Int32) (s0 : Int32), q_S p l e (q_rm 3 64) s m args below meth c 6 dC dI dA A α (MQ below (q_Q α dC dI dA A ((fun u => some (.int u)) t) ((fun u => w_X6 M) t)) args s 0 0 A) 0 0 (f_X6_whistle_42 M r6 x1 x2 x3 s0) t 42 [(0, .ref 50), (1, .int x1), (2, .int x2), (3, .int x3)] [.int s0] (w_X6 M) := by
  intro x1 x2 x3 s0
  refine r_cut (f_X6_whistle_42.eq_1 _ _ _ _ _ _) ?_
  refine r_istore C [(5, .int s0), (0, .ref 50), (1, .int x1), (2, .int x2), (3, .int x3)] dX6_whistle_42 (Nat.le_of_ble_eq_true rfl) rfl ?_
  refine r_iload_n C 2 dX6_whistle_44 rfl ?_
  refine r_iload_n C 3 dX6_whistle_45 rfl ?_
  refine r_if_lt C 59 dX6_whistle_46 (by decide) (fun h46 => ?_) (fun h46 => ?_)
  · refine r_iconst C (0) dX6_whistle_59 rfl ?_
    refine r_iadd C dX6_whistle_60 ?_
    refine r_istore_n C [(1, .int (x1 + (0 : Int32))), (5, .int s0), (0, .ref 50), (2, .int x2), (3, .int x3)] dX6_whistle_61 (Nat.le_of_ble_eq_true rfl) rfl ?_
    refine r_iload C 1 dX6_whistle_62 rfl ?_
    refine r_istore_n C [(2, .int s0), (1, .int (x1 + (0 : Int32))), (5, .int s0), (0, .ref 50), (3, .int x3)] dX6_whistle_64 (Nat.le_of_ble_eq_true rfl) rfl ?_
    refine r_iinc C 4 (x3 + 1) [(3, .int (x3 + 1)), (2, .int s0), (1, .int (x1 + (0 : Int32))), (5, .int s0), (0, .ref 50)] dX6_whistle_65 rfl rfl (Nat.le_of_ble_eq_true rfl) rfl ?_
    refine r_goto C 6 dX6_whistle_68 (by decide) ?_
    refine r_lv [(0, .ref 50), (1, .int (x1 + (0 : Int32))), (2, .int s0), (3, .int (x3 + 1))] [4, 2, 1, 0] rfl ?_
    exact hr6 (x1 + (0 : Int32)) s0 (x3 + 1)
  · refine r_iload C 0 dX6_whistle_49 rfl ?_
    refine r_iload_n C 3 dX6_whistle_51 rfl ?_
    refine r_icmp_eq C 59 dX6_whistle_52 (by decide) (fun h52 => ?_) (fun h52 => ?_)
    · refine r_iconst C (0) dX6_whistle_59 rfl ?_
      refine r_iadd C dX6_whistle_60 ?_
      refine r_istore_n C [(1, .int (x1 + (0 : Int32))), (5, .int s0), (0, .ref 50), (2, .int x2), (3, .int x3)] dX6_whistle_61 (Nat.le_of_ble_eq_true rfl) rfl ?_
      refine r_iload C 1 dX6_whistle_62 rfl ?_
      refine r_istore_n C [(2, .int s0), (1, .int (x1 + (0 : Int32))), (5, .int s0), (0, .ref 50), (3, .int x3)] dX6_whistle_64 (Nat.le_of_ble_eq_true rfl) rfl ?_
      refine r_iinc C 4 (x3 + 1) [(3, .int (x3 + 1)), (2, .int s0), (1, .int (x1 + (0 : Int32))), (5, .int s0), (0, .ref 50)] dX6_whistle_65 rfl rfl (Nat.le_of_ble_eq_true rfl) rfl ?_
      refine r_goto C 6 dX6_whistle_68 (by decide) ?_
      refine r_lv [(0, .ref 50), (1, .int (x1 + (0 : Int32))), (2, .int s0), (3, .int (x3 + 1))] [4, 2, 1, 0] rfl ?_
      exact hr6 (x1 + (0 : Int32)) s0 (x3 + 1)
    · refine r_iconst C (1) dX6_whistle_55 rfl ?_
      refine r_goto C 60 dX6_whistle_56 (by decide) ?_
      refine r_iadd C dX6_whistle_60 ?_
      refine r_istore_n C [(1, .int (x1 + (1 : Int32))), (5, .int s0), (0, .ref 50), (2, .int x2), (3, .int x3)] dX6_whistle_61 (Nat.le_of_ble_eq_true rfl) rfl ?_
      refine r_iload C 1 dX6_whistle_62 rfl ?_
      refine r_istore_n C [(2, .int s0), (1, .int (x1 + (1 : Int32))), (5, .int s0), (0, .ref 50), (3, .int x3)] dX6_whistle_64 (Nat.le_of_ble_eq_true rfl) rfl ?_
      refine r_iinc C 4 (x3 + 1) [(3, .int (x3 + 1)), (2, .int s0), (1, .int (x1 + (1 : Int32))), (5, .int s0), (0, .ref 50)] dX6_whistle_65 rfl rfl (Nat.le_of_ble_eq_true rfl) rfl ?_
      refine r_goto C 6 dX6_whistle_68 (by decide) ?_
      refine r_lv [(0, .ref 50), (1, .int (x1 + (1 : Int32))), (2, .int s0), (3, .int (x3 + 1))] [4, 2, 1, 0] rfl ?_
      exact hr6 (x1 + (1 : Int32)) s0 (x3 + 1)
set_option maxRecDepth 100000 in
set_option maxHeartbeats 4000000 in
theorem k_X6_whistle_6 {p : Program} {l : Launch} {e : Env} {s : State} {m : MethodId} {args : Array Value} {below : List Frame} {meth : Method} {c : Code} {dC : Nat → ClassId} {dI : Nat → Nat → Nat} {dA : Nat → ClassId} {A : Nat → Prop} {α : Nat → Nat} {t : Int32} (C : q_Cx p s m args meth c cX6_whistle 6 RX6 (some .int) "whistle" dC dI dA A α) (M : q_St)  : ∀ (n : Nat) (x1 : Int32) (x2 : Int32) (x3 : Int32), q_S p l e (q_rm 3 64) s m args below meth c 6 dC dI dA A α (MQ below (q_Q α dC dI dA A ((fun u => some (.int u)) t) ((fun u => w_X6 M) t)) args s 0 0 A) 0 0 (f_X6_whistle_6 M  n x1 x2 x3) t 6 [(0, .ref 50), (1, .int x1), (2, .int x2), (3, .int x3)] [] (w_X6 M) := by
  intro n
  induction n with
  | zero =>
    intro x1 x2 x3
    exact r_cut (f_X6_whistle_6.eq_1 _ _ _ _) (r_none True.intro)
  | succ n ih =>
    intro x1 x2 x3
    refine r_cut (f_X6_whistle_6.eq_2 _ _ _ _ _) ?_
    refine r_iload_n C 3 dX6_whistle_6 rfl ?_
    refine r_aload_n C 0 dX6_whistle_7 rfl ?_
    refine r_get C 0 0 dX6_whistle_8 K_X6 rfl rfl (Nat.le_of_ble_eq_true rfl) rfl m_915 rfl ?_
    refine r_iconst C (1) dX6_whistle_11 rfl ?_
    refine r_iald C 1 dX6_whistle_12 rfl rfl (fun hi12 => ?_)
    refine r_icmp_ge C 71 dX6_whistle_13 (by decide) (fun h13 => ?_) (fun h13 => ?_)
    · refine r_iload_n C 1 dX6_whistle_71 rfl ?_
      exact r_reti (x := x1) (rv := (fun u => some (.int u))) (hpE := (fun u => w_X6 M)) (t0 := x1) C dX6_whistle_72 (by rfl) (by rfl) (by rfl)
    · refine r_aload_n C 0 dX6_whistle_16 rfl ?_
      refine r_get C 0 0 dX6_whistle_17 K_X6 rfl rfl (Nat.le_of_ble_eq_true rfl) rfl m_915 rfl ?_
      refine r_bipush C (56) dX6_whistle_20 rfl ?_
      refine r_iload_n C 3 dX6_whistle_22 rfl ?_
      refine r_iadd C dX6_whistle_23 ?_
      refine r_iald C 1 dX6_whistle_24 rfl rfl (fun hi24 => ?_)
      refine r_istore C [(4, .int (M.2 0 ((56 : Int32) + x3).toNatClampNeg)), (0, .ref 50), (1, .int x1), (2, .int x2), (3, .int x3)] dX6_whistle_25 (Nat.le_of_ble_eq_true rfl) rfl ?_
      refine r_iload C 0 dX6_whistle_27 rfl ?_
      refine r_if_ge C 36 dX6_whistle_29 (by decide) (fun h29 => ?_) (fun h29 => ?_)
      · refine r_aload_n C 1 dX6_whistle_36 rfl ?_
        refine r_iload C 0 dX6_whistle_37 rfl ?_
        refine r_callV0 C (o_X6_voice l M (M.2 0 ((56 : Int32) + x3).toNatClampNeg)) v_X6_voice m_1042 [.int (M.2 0 ((56 : Int32) + x3).toNatClampNeg)] [] (50) (Or.inl ⟨0, 5, _, TX6, 25, rfl, rfl, rfl⟩) (fun u1 => [.int u1]) (fun u1 => [.inr (5, [.ref 51, .ref 52, .ref 53, .int (M.1 3), .ref 54, .ref 55, .ref 56, .int (M.1 7), .ref 57, .ref 58, .int (M.1 10), .int (M.1 11), .int (M.1 12), .int (M.1 13), .int (M.1 14), .int (M.1 15), .ref 59, .ref 60, .int (M.1 18), .int (M.1 19), .int (M.1 20), .ref 61, .ref 62, .ref 63, .ref 64]), .inl (0, 68, .inl (M.2 0)), .inl (0, 68, .inl (M.2 1)), .inl (0, 68, .inl (M.2 2)), .inl (0, 8, .inl (M.2 4)), .inl (0, 1053, .inl (M.2 5)), .inl (1, 972, .inl (M.2 6)), .inl (0, 1053, .inl (M.2 8)), .inl (0, 120, .inl (M.2 9)), .inl (3, 7, .inr (.inr (.inr (.inr q_kf)))), .inl (0, 360, .inl (M.2 17)), .inl (0, 4, .inl (M.2 21)), .inl (0, 4, .inl (M.2 22)), .inl (0, 160, .inl (M.2 23)), .inl (0, 40, .inl (M.2 24))]) rfl rfl rfl (Nat.le_of_ble_eq_true rfl) ⟨(Nat.le_of_ble_eq_true rfl), (Nat.le_of_ble_eq_true rfl)⟩ ⟨Nat.zero_le _, Nat.zero_le _⟩ dX6_whistle_39 (fun _ => rfl) (fun _ => rfl) (fun _ => rfl) (fun u1 => ?_)
        refine r_lv [(0, .ref 50), (1, .int x1), (2, .int x2), (3, .int x3)] [1, 2, 3, 4] rfl ?_
        exact k_X6_whistle_42 C M (fun x1 x2 x3 => f_X6_whistle_6 M  n x1 x2 x3) ih x1 x2 x3 u1
      · refine r_iload_n C 3 dX6_whistle_32 rfl ?_
        refine r_goto C 42 dX6_whistle_33 (by decide) ?_
        refine r_lv [(0, .ref 50), (1, .int x1), (2, .int x2), (3, .int x3)] [1, 2, 3, 4] rfl ?_
        exact k_X6_whistle_42 C M (fun x1 x2 x3 => f_X6_whistle_6 M  n x1 x2 x3) ih x1 x2 x3 x2
set_option maxRecDepth 100000 in
set_option maxHeartbeats 4000000 in
theorem o_X6_whistle (l : Launch) (M : q_St) : q_Ok l yX6_whistle cX6_whistle 6 (some .int) 3 64 [.ref 50] (w_X6 M) (f_X6_whistle M) (fun u => some (.int u)) (fun u => w_X6 M) := by
  refine q_enter (by decide +kernel) (Nat.le_of_ble_eq_true rfl) (fun t p e s m args below meth c dC dI dA A α C => ?_)
  refine r_cut (f_X6_whistle.eq_1 _) ?_
  show q_S p l e (q_rm 3 64) s m args below meth c 6 dC dI dA A α (MQ below (q_Q α dC dI dA A ((fun u => some (.int u)) t) ((fun u => w_X6 M) t)) args s 0 0 A) 0 0 _ t 0 [(0, .ref 50)] [] (w_X6 M)
  refine r_iconst C (0) dX6_whistle_0 rfl ?_
  refine r_istore_n C [(1, .int (0 : Int32)), (0, .ref 50)] dX6_whistle_1 (Nat.le_of_ble_eq_true rfl) rfl ?_
  refine r_iconst C (-1) dX6_whistle_2 rfl ?_
  refine r_istore_n C [(2, .int (-1 : Int32)), (1, .int (0 : Int32)), (0, .ref 50)] dX6_whistle_3 (Nat.le_of_ble_eq_true rfl) rfl ?_
  refine r_iconst C (0) dX6_whistle_4 rfl ?_
  refine r_istore_n C [(3, .int (0 : Int32)), (2, .int (-1 : Int32)), (1, .int (0 : Int32)), (0, .ref 50)] dX6_whistle_5 (Nat.le_of_ble_eq_true rfl) rfl ?_
  refine r_lv [(0, .ref 50), (1, .int (0 : Int32)), (2, .int (-1 : Int32)), (3, .int (0 : Int32))] [3, 2, 1, 0] rfl ?_
  exact k_X6_whistle_6 C M   q_N (0 : Int32) (-1 : Int32) (0 : Int32)
set_option maxRecDepth 100000 in
set_option maxHeartbeats 4000000 in
theorem o_X6_isHand (l : Launch) (a1 : Int32) : q_Ok l yX6_isHand cX6_isHand 1 (some .boolean) 1 22 [.int a1] ([]) (f_X6_isHand a1) (fun u => some (.int u)) (fun _ => []) := by
  refine q_enter (by decide +kernel) (Nat.le_of_ble_eq_true rfl) (fun t p e s m args below meth c dC dI dA A α C => ?_)
  refine r_cut (f_X6_isHand.eq_1 _) ?_
  show q_S p l e (q_rm 1 22) s m args below meth c 1 dC dI dA A α (MQ below (q_Q α dC dI dA A ((fun u => some (.int u)) t) ((fun _ => []) t)) args s 0 0 A) 0 0 _ t 0 [(0, .int a1)] [] ([])
  refine r_iload_n C 0 dX6_isHand_0 rfl ?_
  refine r_iconst C (0) dX6_isHand_1 rfl ?_
  refine r_iconst C (1) dX6_isHand_2 rfl ?_
  refine r_callS C (o_X6_within l a1 (0 : Int32) (1 : Int32)) v_X6_within m_999 [] [.int a1, .int (0 : Int32), .int (1 : Int32)] [] (fun u1 => [.int u1]) (fun u1 => []) rfl rfl rfl rfl rfl (Nat.le_of_ble_eq_true rfl) ⟨(Nat.le_of_ble_eq_true rfl), (Nat.le_of_ble_eq_true rfl)⟩ ⟨Nat.zero_le _, Nat.zero_le _⟩ dX6_isHand_3 (fun _ => rfl) (fun _ => rfl) (fun _ => rfl) (fun u1 => ?_)
  refine r_gbz (fun hz => ?_)
  exact r_retz (x := u1) (rv := (fun u => some (.int u))) (hpE := (fun _ => [])) (t0 := u1) C dX6_isHand_6 (by rfl) (by exact q_nz1 hz) (by rfl) (by rfl)
set_option maxRecDepth 100000 in
set_option maxHeartbeats 4000000 in
theorem o_X6_takes (l : Launch) (M : q_St) (a1 : Int32) (a2 : Int32) : q_Ok l yX6_takes cX6_takes 3 (some .int) 3 65 [.ref 50, .int a1, .int a2] (w_X6 M) (f_X6_takes M a1 a2) (fun u => some (.int u)) (fun u => w_X6 M) := by
  refine q_enter (by decide +kernel) (Nat.le_of_ble_eq_true rfl) (fun t p e s m args below meth c dC dI dA A α C => ?_)
  refine r_cut (f_X6_takes.eq_1 _ _ _) ?_
  show q_S p l e (q_rm 3 65) s m args below meth c 3 dC dI dA A α (MQ below (q_Q α dC dI dA A ((fun u => some (.int u)) t) ((fun u => w_X6 M) t)) args s 0 0 A) 0 0 _ t 0 [(0, .ref 50), (1, .int a1), (2, .int a2)] [] (w_X6 M)
  refine r_iload_n C 1 dX6_takes_0 rfl ?_
  refine r_iload_n C 2 dX6_takes_1 rfl ?_
  refine r_icmp_ne C 9 dX6_takes_2 (by decide) (fun h2 => ?_) (fun h2 => ?_)
  · refine r_iconst C (0) dX6_takes_5 rfl ?_
    refine r_goto C 29 dX6_takes_6 (by decide) ?_
    exact r_reti (x := (0 : Int32)) (rv := (fun u => some (.int u))) (hpE := (fun u => w_X6 M)) (t0 := (0 : Int32)) C dX6_takes_29 (by rfl) (by rfl) (by rfl)
  · refine r_iload_n C 2 dX6_takes_9 rfl ?_
    refine r_if_ge C 17 dX6_takes_10 (by decide) (fun h10 => ?_) (fun h10 => ?_)
    · refine r_aload_n C 0 dX6_takes_17 rfl ?_
      refine r_iload_n C 2 dX6_takes_18 rfl ?_
      refine r_callV0 C (o_X6_takesOn l M a2) v_X6_takesOn m_1037 [.int a2] [] (50) (Or.inl ⟨0, 5, _, TX6, 25, rfl, rfl, rfl⟩) (fun u1 => [.int u1]) (fun u1 => [.inr (5, [.ref 51, .ref 52, .ref 53, .int (M.1 3), .ref 54, .ref 55, .ref 56, .int (M.1 7), .ref 57, .ref 58, .int (M.1 10), .int (M.1 11), .int (M.1 12), .int (M.1 13), .int (M.1 14), .int (M.1 15), .ref 59, .ref 60, .int (M.1 18), .int (M.1 19), .int (M.1 20), .ref 61, .ref 62, .ref 63, .ref 64]), .inl (0, 68, .inl (M.2 0)), .inl (0, 68, .inl (M.2 1)), .inl (0, 68, .inl (M.2 2)), .inl (0, 8, .inl (M.2 4)), .inl (0, 1053, .inl (M.2 5)), .inl (1, 972, .inl (M.2 6)), .inl (0, 1053, .inl (M.2 8)), .inl (0, 120, .inl (M.2 9)), .inl (3, 7, .inr (.inr (.inr (.inr q_kf)))), .inl (0, 360, .inl (M.2 17)), .inl (0, 4, .inl (M.2 21)), .inl (0, 4, .inl (M.2 22)), .inl (0, 160, .inl (M.2 23)), .inl (0, 40, .inl (M.2 24))]) rfl rfl rfl (Nat.le_of_ble_eq_true rfl) ⟨(Nat.le_of_ble_eq_true rfl), (Nat.le_of_ble_eq_true rfl)⟩ ⟨Nat.zero_le _, Nat.zero_le _⟩ dX6_takes_19 (fun _ => rfl) (fun _ => rfl) (fun _ => rfl) (fun u1 => ?_)
      refine r_aload_n C 0 dX6_takes_22 rfl ?_
      refine r_iload_n C 2 dX6_takes_23 rfl ?_
      refine r_iconst C (2) dX6_takes_24 rfl ?_
      refine r_callV0 C (o_X6_dollIs l M a2 (2 : Int32)) v_X6_dollIs m_1023 [.int a2, .int (2 : Int32)] [.int u1] (50) (Or.inl ⟨0, 5, _, TX6, 25, rfl, rfl, rfl⟩) (fun u2 => [.int u2, .int u1]) (fun u2 => [.inr (5, [.ref 51, .ref 52, .ref 53, .int (M.1 3), .ref 54, .ref 55, .ref 56, .int (M.1 7), .ref 57, .ref 58, .int (M.1 10), .int (M.1 11), .int (M.1 12), .int (M.1 13), .int (M.1 14), .int (M.1 15), .ref 59, .ref 60, .int (M.1 18), .int (M.1 19), .int (M.1 20), .ref 61, .ref 62, .ref 63, .ref 64]), .inl (0, 68, .inl (M.2 0)), .inl (0, 68, .inl (M.2 1)), .inl (0, 68, .inl (M.2 2)), .inl (0, 8, .inl (M.2 4)), .inl (0, 1053, .inl (M.2 5)), .inl (1, 972, .inl (M.2 6)), .inl (0, 1053, .inl (M.2 8)), .inl (0, 120, .inl (M.2 9)), .inl (3, 7, .inr (.inr (.inr (.inr q_kf)))), .inl (0, 360, .inl (M.2 17)), .inl (0, 4, .inl (M.2 21)), .inl (0, 4, .inl (M.2 22)), .inl (0, 160, .inl (M.2 23)), .inl (0, 40, .inl (M.2 24))]) rfl rfl rfl (Nat.le_of_ble_eq_true rfl) ⟨(Nat.le_of_ble_eq_true rfl), (Nat.le_of_ble_eq_true rfl)⟩ ⟨Nat.zero_le _, Nat.zero_le _⟩ dX6_takes_25 (fun _ => rfl) (fun _ => rfl) (fun _ => rfl) (fun u2 => ?_)
      refine r_iadd C dX6_takes_28 ?_
      exact r_reti (x := (u1 + u2)) (rv := (fun u => some (.int u))) (hpE := (fun u => w_X6 M)) (t0 := (u1 + u2)) C dX6_takes_29 (by rfl) (by rfl) (by rfl)
    · refine r_iconst C (1) dX6_takes_13 rfl ?_
      refine r_goto C 29 dX6_takes_14 (by decide) ?_
      exact r_reti (x := (1 : Int32)) (rv := (fun u => some (.int u))) (hpE := (fun u => w_X6 M)) (t0 := (1 : Int32)) C dX6_takes_29 (by rfl) (by rfl) (by rfl)
set_option maxRecDepth 100000 in
set_option maxHeartbeats 4000000 in
theorem k_X6_putsIt_38 {p : Program} {l : Launch} {e : Env} {s : State} {m : MethodId} {args : Array Value} {below : List Frame} {meth : Method} {c : Code} {dC : Nat → ClassId} {dI : Nat → Nat → Nat} {dA : Nat → ClassId} {A : Nat → Prop} {α : Nat → Nat} {t : Int32 × q_St} (C : q_Cx p s m args meth c cX6_putsIt 4 RX6 (some .int) "putsIt" dC dI dA A α) (M : q_St) (a1 : Int32) (a2 : Int32)  : ∀ (x1 : Int32) (x2 : Int32) (x3 : Int32) (s0 : Int32) (s1 : Int32) (s2 : Int32) (M' : q_St), q_S p l e (q_rm 4 87) s m args below meth c 4 dC dI dA A α (MQ below (q_Q α dC dI dA A ((fun u => some (.int u.1)) t) ((fun u => w_X6 u.2) t)) args s 0 0 A) 0 0 (f_X6_putsIt_38 M a1 a2  x1 x2 x3 s0 s1 s2 M') t 38 [(0, .ref 50), (1, .int x1), (2, .int x2), (3, .int x3)] [.int s0, .int s1, .int s2, .ref 51] (w_X6 M') := by
  intro x1 x2 x3 s0 s1 s2 M'
  refine r_cut (f_X6_putsIt_38.eq_1 _ _ _ _ _ _ _ _ _ _) ?_
  refine r_iadd C dX6_putsIt_38 ?_
  refine r_iast C 1 _ dX6_putsIt_39 rfl rfl rfl (fun hi39 => ?_)
  refine r_aload_n C 0 dX6_putsIt_40 rfl ?_
  refine r_get C 0 0 dX6_putsIt_41 K_X6 rfl rfl (Nat.le_of_ble_eq_true rfl) rfl m_915 rfl ?_
  refine r_iconst C (5) dX6_putsIt_44 rfl ?_
  refine r_dup2 C dX6_putsIt_45 rfl rfl ?_
  refine r_iald C 1 dX6_putsIt_46 rfl rfl (fun hi46 => ?_)
  refine r_iload_n C 3 dX6_putsIt_47 rfl ?_
  refine r_iadd C dX6_putsIt_48 ?_
  refine r_iast C 1 _ dX6_putsIt_49 rfl rfl rfl (fun hi49 => ?_)
  refine r_aload_n C 0 dX6_putsIt_50 rfl ?_
  refine r_get C 0 0 dX6_putsIt_51 K_X6 rfl rfl (Nat.le_of_ble_eq_true rfl) rfl m_915 rfl ?_
  refine r_iconst C (2) dX6_putsIt_54 rfl ?_
  refine r_iload_n C 1 dX6_putsIt_55 rfl ?_
  refine r_iadd C dX6_putsIt_56 ?_
  refine r_iload_n C 2 dX6_putsIt_57 rfl ?_
  refine r_iast C 1 _ dX6_putsIt_58 rfl rfl rfl (fun hi58 => ?_)
  refine r_iload_n C 3 dX6_putsIt_59 rfl ?_
  exact r_reti (x := x3) (rv := (fun u => some (.int u.1))) (hpE := (fun u => w_X6 u.2)) (t0 := (x3, (M'.1, (va_up M'.2 0 (upd (upd (upd (M'.2 0) s2.toNatClampNeg (s1 + s0)) (5 : Int32).toNatClampNeg (((upd (M'.2 0) s2.toNatClampNeg (s1 + s0)) (5 : Int32).toNatClampNeg) + x3)) ((2 : Int32) + x1).toNatClampNeg x2))))) C dX6_putsIt_60 (by rfl) (by rfl) (by rfl)
set_option maxRecDepth 100000 in
set_option maxHeartbeats 4000000 in
theorem o_X6_putsIt (l : Launch) (M : q_St) (a1 : Int32) (a2 : Int32) : q_Ok l yX6_putsIt cX6_putsIt 4 (some .int) 4 87 [.ref 50, .int a1, .int a2] (w_X6 M) (f_X6_putsIt M a1 a2) (fun u => some (.int u.1)) (fun u => w_X6 u.2) := by
  refine q_enter (by decide +kernel) (Nat.le_of_ble_eq_true rfl) (fun t p e s m args below meth c dC dI dA A α C => ?_)
  refine r_cut (f_X6_putsIt.eq_1 _ _ _) ?_
  show q_S p l e (q_rm 4 87) s m args below meth c 4 dC dI dA A α (MQ below (q_Q α dC dI dA A ((fun u => some (.int u.1)) t) ((fun u => w_X6 u.2) t)) args s 0 0 A) 0 0 _ t 0 [(0, .ref 50), (1, .int a1), (2, .int a2)] [] (w_X6 M)
  refine r_aload_n C 0 dX6_putsIt_0 rfl ?_
  refine r_aload_n C 0 dX6_putsIt_1 rfl ?_
  refine r_get C 0 0 dX6_putsIt_2 K_X6 rfl rfl (Nat.le_of_ble_eq_true rfl) rfl m_915 rfl ?_
  refine r_iconst C (2) dX6_putsIt_5 rfl ?_
  refine r_iload_n C 1 dX6_putsIt_6 rfl ?_
  refine r_iadd C dX6_putsIt_7 ?_
  refine r_iald C 1 dX6_putsIt_8 rfl rfl (fun hi8 => ?_)
  refine r_iload_n C 2 dX6_putsIt_9 rfl ?_
  refine r_callV0 C (o_X6_takes l M (M.2 0 ((2 : Int32) + a1).toNatClampNeg) a2) v_X6_takes m_1136 [.int (M.2 0 ((2 : Int32) + a1).toNatClampNeg), .int a2] [] (50) (Or.inl ⟨0, 5, _, TX6, 25, rfl, rfl, rfl⟩) (fun u1 => [.int u1]) (fun u1 => [.inr (5, [.ref 51, .ref 52, .ref 53, .int (M.1 3), .ref 54, .ref 55, .ref 56, .int (M.1 7), .ref 57, .ref 58, .int (M.1 10), .int (M.1 11), .int (M.1 12), .int (M.1 13), .int (M.1 14), .int (M.1 15), .ref 59, .ref 60, .int (M.1 18), .int (M.1 19), .int (M.1 20), .ref 61, .ref 62, .ref 63, .ref 64]), .inl (0, 68, .inl (M.2 0)), .inl (0, 68, .inl (M.2 1)), .inl (0, 68, .inl (M.2 2)), .inl (0, 8, .inl (M.2 4)), .inl (0, 1053, .inl (M.2 5)), .inl (1, 972, .inl (M.2 6)), .inl (0, 1053, .inl (M.2 8)), .inl (0, 120, .inl (M.2 9)), .inl (3, 7, .inr (.inr (.inr (.inr q_kf)))), .inl (0, 360, .inl (M.2 17)), .inl (0, 4, .inl (M.2 21)), .inl (0, 4, .inl (M.2 22)), .inl (0, 160, .inl (M.2 23)), .inl (0, 40, .inl (M.2 24))]) rfl rfl rfl (Nat.le_of_ble_eq_true rfl) ⟨(Nat.le_of_ble_eq_true rfl), (Nat.le_of_ble_eq_true rfl)⟩ ⟨Nat.zero_le _, Nat.zero_le _⟩ dX6_putsIt_10 (fun _ => rfl) (fun _ => rfl) (fun _ => rfl) (fun u1 => ?_)
  refine r_istore_n C [(3, .int u1), (0, .ref 50), (1, .int a1), (2, .int a2)] dX6_putsIt_13 (Nat.le_of_ble_eq_true rfl) rfl ?_
  refine r_aload_n C 1 dX6_putsIt_14 rfl ?_
  refine r_get C 0 0 dX6_putsIt_15 K_X6 rfl rfl (Nat.le_of_ble_eq_true rfl) rfl m_915 rfl ?_
  refine r_iconst C (4) dX6_putsIt_18 rfl ?_
  refine r_dup2 C dX6_putsIt_19 rfl rfl ?_
  refine r_iald C 1 dX6_putsIt_20 rfl rfl (fun hi20 => ?_)
  refine r_aload_n C 1 dX6_putsIt_21 rfl ?_
  refine r_get C 0 0 dX6_putsIt_22 K_X6 rfl rfl (Nat.le_of_ble_eq_true rfl) rfl m_915 rfl ?_
  refine r_iconst C (2) dX6_putsIt_25 rfl ?_
  refine r_iload_n C 2 dX6_putsIt_26 rfl ?_
  refine r_iadd C dX6_putsIt_27 ?_
  refine r_iald C 1 dX6_putsIt_28 rfl rfl (fun hi28 => ?_)
  refine r_iload_n C 3 dX6_putsIt_29 rfl ?_
  refine r_icmp_ne C 37 dX6_putsIt_30 (by decide) (fun h30 => ?_) (fun h30 => ?_)
  · refine r_iconst C (0) dX6_putsIt_33 rfl ?_
    refine r_goto C 38 dX6_putsIt_34 (by decide) ?_
    refine r_lv [(0, .ref 50), (1, .int a1), (2, .int a2), (3, .int u1)] [1, 2, 3, 0] rfl ?_
    exact k_X6_putsIt_38 C M a1 a2   a1 a2 u1 (0 : Int32) (M.2 0 (4 : Int32).toNatClampNeg) (4 : Int32) M
  · refine r_iconst C (1) dX6_putsIt_37 rfl ?_
    refine r_lv [(0, .ref 50), (1, .int a1), (2, .int a2), (3, .int u1)] [1, 2, 3, 0] rfl ?_
    exact k_X6_putsIt_38 C M a1 a2   a1 a2 u1 (1 : Int32) (M.2 0 (4 : Int32).toNatClampNeg) (4 : Int32) M
set_option maxRecDepth 100000 in
set_option maxHeartbeats 4000000 in
theorem o_X6_puts (l : Launch) (M : q_St) (a1 : Int32) (a2 : Int32) : q_Ok l yX6_puts cX6_puts 3 (some .int) 5 110 [.ref 50, .int a1, .int a2] (w_X6 M) (f_X6_puts M a1 a2) (fun u => some (.int u.1)) (fun u => w_X6 u.2) := by
  refine q_enter (by decide +kernel) (Nat.le_of_ble_eq_true rfl) (fun t p e s m args below meth c dC dI dA A α C => ?_)
  refine r_cut (f_X6_puts.eq_1 _ _ _) ?_
  show q_S p l e (q_rm 5 110) s m args below meth c 3 dC dI dA A α (MQ below (q_Q α dC dI dA A ((fun u => some (.int u.1)) t) ((fun u => w_X6 u.2) t)) args s 0 0 A) 0 0 _ t 0 [(0, .ref 50), (1, .int a1), (2, .int a2)] [] (w_X6 M)
  refine r_iload_n C 1 dX6_puts_0 rfl ?_
  refine r_callS C (o_X6_isHand l a1) v_X6_isHand m_1128 [] [.int a1] [] (fun u1 => [.int u1]) (fun u1 => [.inr (5, [.ref 51, .ref 52, .ref 53, .int (M.1 3), .ref 54, .ref 55, .ref 56, .int (M.1 7), .ref 57, .ref 58, .int (M.1 10), .int (M.1 11), .int (M.1 12), .int (M.1 13), .int (M.1 14), .int (M.1 15), .ref 59, .ref 60, .int (M.1 18), .int (M.1 19), .int (M.1 20), .ref 61, .ref 62, .ref 63, .ref 64]), .inl (0, 68, .inl (M.2 0)), .inl (0, 68, .inl (M.2 1)), .inl (0, 68, .inl (M.2 2)), .inl (0, 8, .inl (M.2 4)), .inl (0, 1053, .inl (M.2 5)), .inl (1, 972, .inl (M.2 6)), .inl (0, 1053, .inl (M.2 8)), .inl (0, 120, .inl (M.2 9)), .inl (3, 7, .inr (.inr (.inr (.inr q_kf)))), .inl (0, 360, .inl (M.2 17)), .inl (0, 4, .inl (M.2 21)), .inl (0, 4, .inl (M.2 22)), .inl (0, 160, .inl (M.2 23)), .inl (0, 40, .inl (M.2 24))]) rfl rfl rfl rfl rfl (Nat.le_of_ble_eq_true rfl) ⟨(Nat.le_of_ble_eq_true rfl), (Nat.le_of_ble_eq_true rfl)⟩ ⟨Nat.zero_le _, Nat.zero_le _⟩ dX6_puts_1 (fun _ => rfl) (fun _ => rfl) (fun _ => rfl) (fun u1 => ?_)
  refine r_if_eq C 15 dX6_puts_4 (by decide) (fun h4 => ?_) (fun h4 => ?_)
  · refine r_aload_n C 0 dX6_puts_15 rfl ?_
    refine r_ldc C (-1000001) dX6_puts_16 m_1002 ?_
    refine r_callV0 C (o_X6_finding l M (-1000001 : Int32)) v_X6_finding m_1003 [.int (-1000001 : Int32)] [] (50) (Or.inl ⟨0, 5, _, TX6, 25, rfl, rfl, rfl⟩) (fun u2 => [.int u2.1]) (fun u2 => [.inr (5, [.ref 51, .ref 52, .ref 53, .int (u2.2.1 3), .ref 54, .ref 55, .ref 56, .int (u2.2.1 7), .ref 57, .ref 58, .int (u2.2.1 10), .int (u2.2.1 11), .int (u2.2.1 12), .int (u2.2.1 13), .int (u2.2.1 14), .int (u2.2.1 15), .ref 59, .ref 60, .int (u2.2.1 18), .int (u2.2.1 19), .int (u2.2.1 20), .ref 61, .ref 62, .ref 63, .ref 64]), .inl (0, 68, .inl (u2.2.2 0)), .inl (0, 68, .inl (u2.2.2 1)), .inl (0, 68, .inl (u2.2.2 2)), .inl (0, 8, .inl (u2.2.2 4)), .inl (0, 1053, .inl (u2.2.2 5)), .inl (1, 972, .inl (u2.2.2 6)), .inl (0, 1053, .inl (u2.2.2 8)), .inl (0, 120, .inl (u2.2.2 9)), .inl (3, 7, .inr (.inr (.inr (.inr q_kf)))), .inl (0, 360, .inl (u2.2.2 17)), .inl (0, 4, .inl (u2.2.2 21)), .inl (0, 4, .inl (u2.2.2 22)), .inl (0, 160, .inl (u2.2.2 23)), .inl (0, 40, .inl (u2.2.2 24))]) rfl rfl rfl (Nat.le_of_ble_eq_true rfl) ⟨(Nat.le_of_ble_eq_true rfl), (Nat.le_of_ble_eq_true rfl)⟩ ⟨Nat.zero_le _, Nat.zero_le _⟩ dX6_puts_18 (fun _ => rfl) (fun _ => rfl) (fun _ => rfl) (fun u2 => ?_)
    exact r_reti (x := u2.1) (rv := (fun u => some (.int u.1))) (hpE := (fun u => w_X6 u.2)) (t0 := (u2.1, u2.2)) C dX6_puts_21 (by rfl) (by rfl) (by rfl)
  · refine r_aload_n C 0 dX6_puts_7 rfl ?_
    refine r_iload_n C 2 dX6_puts_8 rfl ?_
    refine r_callV0 C (o_X6_maySpeak l M a2) v_X6_maySpeak m_1074 [.int a2] [] (50) (Or.inl ⟨0, 5, _, TX6, 25, rfl, rfl, rfl⟩) (fun u3 => [.int u3]) (fun u3 => [.inr (5, [.ref 51, .ref 52, .ref 53, .int (M.1 3), .ref 54, .ref 55, .ref 56, .int (M.1 7), .ref 57, .ref 58, .int (M.1 10), .int (M.1 11), .int (M.1 12), .int (M.1 13), .int (M.1 14), .int (M.1 15), .ref 59, .ref 60, .int (M.1 18), .int (M.1 19), .int (M.1 20), .ref 61, .ref 62, .ref 63, .ref 64]), .inl (0, 68, .inl (M.2 0)), .inl (0, 68, .inl (M.2 1)), .inl (0, 68, .inl (M.2 2)), .inl (0, 8, .inl (M.2 4)), .inl (0, 1053, .inl (M.2 5)), .inl (1, 972, .inl (M.2 6)), .inl (0, 1053, .inl (M.2 8)), .inl (0, 120, .inl (M.2 9)), .inl (3, 7, .inr (.inr (.inr (.inr q_kf)))), .inl (0, 360, .inl (M.2 17)), .inl (0, 4, .inl (M.2 21)), .inl (0, 4, .inl (M.2 22)), .inl (0, 160, .inl (M.2 23)), .inl (0, 40, .inl (M.2 24))]) rfl rfl rfl (Nat.le_of_ble_eq_true rfl) ⟨(Nat.le_of_ble_eq_true rfl), (Nat.le_of_ble_eq_true rfl)⟩ ⟨Nat.zero_le _, Nat.zero_le _⟩ dX6_puts_9 (fun _ => rfl) (fun _ => rfl) (fun _ => rfl) (fun u3 => ?_)
    refine r_if_ne C 22 dX6_puts_12 (by decide) (fun h12 => ?_) (fun h12 => ?_)
    · refine r_aload_n C 0 dX6_puts_15 rfl ?_
      refine r_ldc C (-1000001) dX6_puts_16 m_1002 ?_
      refine r_callV0 C (o_X6_finding l M (-1000001 : Int32)) v_X6_finding m_1003 [.int (-1000001 : Int32)] [] (50) (Or.inl ⟨0, 5, _, TX6, 25, rfl, rfl, rfl⟩) (fun u7 => [.int u7.1]) (fun u7 => [.inr (5, [.ref 51, .ref 52, .ref 53, .int (u7.2.1 3), .ref 54, .ref 55, .ref 56, .int (u7.2.1 7), .ref 57, .ref 58, .int (u7.2.1 10), .int (u7.2.1 11), .int (u7.2.1 12), .int (u7.2.1 13), .int (u7.2.1 14), .int (u7.2.1 15), .ref 59, .ref 60, .int (u7.2.1 18), .int (u7.2.1 19), .int (u7.2.1 20), .ref 61, .ref 62, .ref 63, .ref 64]), .inl (0, 68, .inl (u7.2.2 0)), .inl (0, 68, .inl (u7.2.2 1)), .inl (0, 68, .inl (u7.2.2 2)), .inl (0, 8, .inl (u7.2.2 4)), .inl (0, 1053, .inl (u7.2.2 5)), .inl (1, 972, .inl (u7.2.2 6)), .inl (0, 1053, .inl (u7.2.2 8)), .inl (0, 120, .inl (u7.2.2 9)), .inl (3, 7, .inr (.inr (.inr (.inr q_kf)))), .inl (0, 360, .inl (u7.2.2 17)), .inl (0, 4, .inl (u7.2.2 21)), .inl (0, 4, .inl (u7.2.2 22)), .inl (0, 160, .inl (u7.2.2 23)), .inl (0, 40, .inl (u7.2.2 24))]) rfl rfl rfl (Nat.le_of_ble_eq_true rfl) ⟨(Nat.le_of_ble_eq_true rfl), (Nat.le_of_ble_eq_true rfl)⟩ ⟨Nat.zero_le _, Nat.zero_le _⟩ dX6_puts_18 (fun _ => rfl) (fun _ => rfl) (fun _ => rfl) (fun u7 => ?_)
      exact r_reti (x := u7.1) (rv := (fun u => some (.int u.1))) (hpE := (fun u => w_X6 u.2)) (t0 := (u7.1, u7.2)) C dX6_puts_21 (by rfl) (by rfl) (by rfl)
    · refine r_iload_n C 2 dX6_puts_22 rfl ?_
      refine r_if_lt C 47 dX6_puts_23 (by decide) (fun h23 => ?_) (fun h23 => ?_)
      · refine r_aload_n C 0 dX6_puts_47 rfl ?_
        refine r_iload_n C 1 dX6_puts_48 rfl ?_
        refine r_iload_n C 2 dX6_puts_49 rfl ?_
        refine r_callV0 C (o_X6_putsIt l M a1 a2) v_X6_putsIt m_1132 [.int a1, .int a2] [] (50) (Or.inl ⟨0, 5, _, TX6, 25, rfl, rfl, rfl⟩) (fun u4 => [.int u4.1]) (fun u4 => [.inr (5, [.ref 51, .ref 52, .ref 53, .int (u4.2.1 3), .ref 54, .ref 55, .ref 56, .int (u4.2.1 7), .ref 57, .ref 58, .int (u4.2.1 10), .int (u4.2.1 11), .int (u4.2.1 12), .int (u4.2.1 13), .int (u4.2.1 14), .int (u4.2.1 15), .ref 59, .ref 60, .int (u4.2.1 18), .int (u4.2.1 19), .int (u4.2.1 20), .ref 61, .ref 62, .ref 63, .ref 64]), .inl (0, 68, .inl (u4.2.2 0)), .inl (0, 68, .inl (u4.2.2 1)), .inl (0, 68, .inl (u4.2.2 2)), .inl (0, 8, .inl (u4.2.2 4)), .inl (0, 1053, .inl (u4.2.2 5)), .inl (1, 972, .inl (u4.2.2 6)), .inl (0, 1053, .inl (u4.2.2 8)), .inl (0, 120, .inl (u4.2.2 9)), .inl (3, 7, .inr (.inr (.inr (.inr q_kf)))), .inl (0, 360, .inl (u4.2.2 17)), .inl (0, 4, .inl (u4.2.2 21)), .inl (0, 4, .inl (u4.2.2 22)), .inl (0, 160, .inl (u4.2.2 23)), .inl (0, 40, .inl (u4.2.2 24))]) rfl rfl rfl (Nat.le_of_ble_eq_true rfl) ⟨(Nat.le_of_ble_eq_true rfl), (Nat.le_of_ble_eq_true rfl)⟩ ⟨Nat.zero_le _, Nat.zero_le _⟩ dX6_puts_50 (fun _ => rfl) (fun _ => rfl) (fun _ => rfl) (fun u4 => ?_)
        exact r_reti (x := u4.1) (rv := (fun u => some (.int u.1))) (hpE := (fun u => w_X6 u.2)) (t0 := (u4.1, u4.2)) C dX6_puts_53 (by rfl) (by rfl) (by rfl)
      · refine r_aload_n C 0 dX6_puts_26 rfl ?_
        refine r_get C 0 0 dX6_puts_27 K_X6 rfl rfl (Nat.le_of_ble_eq_true rfl) rfl m_915 rfl ?_
        refine r_iconst C (3) dX6_puts_30 rfl ?_
        refine r_iload_n C 1 dX6_puts_31 rfl ?_
        refine r_isub C dX6_puts_32 ?_
        refine r_iald C 1 dX6_puts_33 rfl rfl (fun hi33 => ?_)
        refine r_iload_n C 2 dX6_puts_34 rfl ?_
        refine r_icmp_ne C 47 dX6_puts_35 (by decide) (fun h35 => ?_) (fun h35 => ?_)
        · refine r_aload_n C 0 dX6_puts_38 rfl ?_
          refine r_ldc C (-1000005) dX6_puts_39 m_1131 ?_
          refine r_callV0 C (o_X6_finding l M (-1000005 : Int32)) v_X6_finding m_1003 [.int (-1000005 : Int32)] [] (50) (Or.inl ⟨0, 5, _, TX6, 25, rfl, rfl, rfl⟩) (fun u6 => [.int u6.1]) (fun u6 => [.inr (5, [.ref 51, .ref 52, .ref 53, .int (u6.2.1 3), .ref 54, .ref 55, .ref 56, .int (u6.2.1 7), .ref 57, .ref 58, .int (u6.2.1 10), .int (u6.2.1 11), .int (u6.2.1 12), .int (u6.2.1 13), .int (u6.2.1 14), .int (u6.2.1 15), .ref 59, .ref 60, .int (u6.2.1 18), .int (u6.2.1 19), .int (u6.2.1 20), .ref 61, .ref 62, .ref 63, .ref 64]), .inl (0, 68, .inl (u6.2.2 0)), .inl (0, 68, .inl (u6.2.2 1)), .inl (0, 68, .inl (u6.2.2 2)), .inl (0, 8, .inl (u6.2.2 4)), .inl (0, 1053, .inl (u6.2.2 5)), .inl (1, 972, .inl (u6.2.2 6)), .inl (0, 1053, .inl (u6.2.2 8)), .inl (0, 120, .inl (u6.2.2 9)), .inl (3, 7, .inr (.inr (.inr (.inr q_kf)))), .inl (0, 360, .inl (u6.2.2 17)), .inl (0, 4, .inl (u6.2.2 21)), .inl (0, 4, .inl (u6.2.2 22)), .inl (0, 160, .inl (u6.2.2 23)), .inl (0, 40, .inl (u6.2.2 24))]) rfl rfl rfl (Nat.le_of_ble_eq_true rfl) ⟨(Nat.le_of_ble_eq_true rfl), (Nat.le_of_ble_eq_true rfl)⟩ ⟨Nat.zero_le _, Nat.zero_le _⟩ dX6_puts_41 (fun _ => rfl) (fun _ => rfl) (fun _ => rfl) (fun u6 => ?_)
          refine r_goto C 53 dX6_puts_44 (by decide) ?_
          exact r_reti (x := u6.1) (rv := (fun u => some (.int u.1))) (hpE := (fun u => w_X6 u.2)) (t0 := (u6.1, u6.2)) C dX6_puts_53 (by rfl) (by rfl) (by rfl)
        · refine r_aload_n C 0 dX6_puts_47 rfl ?_
          refine r_iload_n C 1 dX6_puts_48 rfl ?_
          refine r_iload_n C 2 dX6_puts_49 rfl ?_
          refine r_callV0 C (o_X6_putsIt l M a1 a2) v_X6_putsIt m_1132 [.int a1, .int a2] [] (50) (Or.inl ⟨0, 5, _, TX6, 25, rfl, rfl, rfl⟩) (fun u5 => [.int u5.1]) (fun u5 => [.inr (5, [.ref 51, .ref 52, .ref 53, .int (u5.2.1 3), .ref 54, .ref 55, .ref 56, .int (u5.2.1 7), .ref 57, .ref 58, .int (u5.2.1 10), .int (u5.2.1 11), .int (u5.2.1 12), .int (u5.2.1 13), .int (u5.2.1 14), .int (u5.2.1 15), .ref 59, .ref 60, .int (u5.2.1 18), .int (u5.2.1 19), .int (u5.2.1 20), .ref 61, .ref 62, .ref 63, .ref 64]), .inl (0, 68, .inl (u5.2.2 0)), .inl (0, 68, .inl (u5.2.2 1)), .inl (0, 68, .inl (u5.2.2 2)), .inl (0, 8, .inl (u5.2.2 4)), .inl (0, 1053, .inl (u5.2.2 5)), .inl (1, 972, .inl (u5.2.2 6)), .inl (0, 1053, .inl (u5.2.2 8)), .inl (0, 120, .inl (u5.2.2 9)), .inl (3, 7, .inr (.inr (.inr (.inr q_kf)))), .inl (0, 360, .inl (u5.2.2 17)), .inl (0, 4, .inl (u5.2.2 21)), .inl (0, 4, .inl (u5.2.2 22)), .inl (0, 160, .inl (u5.2.2 23)), .inl (0, 40, .inl (u5.2.2 24))]) rfl rfl rfl (Nat.le_of_ble_eq_true rfl) ⟨(Nat.le_of_ble_eq_true rfl), (Nat.le_of_ble_eq_true rfl)⟩ ⟨Nat.zero_le _, Nat.zero_le _⟩ dX6_puts_50 (fun _ => rfl) (fun _ => rfl) (fun _ => rfl) (fun u5 => ?_)
          exact r_reti (x := u5.1) (rv := (fun u => some (.int u.1))) (hpE := (fun u => w_X6 u.2)) (t0 := (u5.1, u5.2)) C dX6_puts_53 (by rfl) (by rfl) (by rfl)
set_option maxRecDepth 100000 in
set_option maxHeartbeats 4000000 in
theorem o_X6_hand (l : Launch) (M : q_St) (a1 : Int32) : q_Ok l yX6_hand cX6_hand 2 (some .int) 2 42 [.ref 50, .int a1] (w_X6 M) (f_X6_hand M a1) (fun u => some (.int u.1)) (fun u => w_X6 u.2) := by
  refine q_enter (by decide +kernel) (Nat.le_of_ble_eq_true rfl) (fun t p e s m args below meth c dC dI dA A α C => ?_)
  refine r_cut (f_X6_hand.eq_1 _ _) ?_
  show q_S p l e (q_rm 2 42) s m args below meth c 2 dC dI dA A α (MQ below (q_Q α dC dI dA A ((fun u => some (.int u.1)) t) ((fun u => w_X6 u.2) t)) args s 0 0 A) 0 0 _ t 0 [(0, .ref 50), (1, .int a1)] [] (w_X6 M)
  refine r_iload_n C 1 dX6_hand_0 rfl ?_
  refine r_callS C (o_X6_isHand l a1) v_X6_isHand m_1128 [] [.int a1] [] (fun u1 => [.int u1]) (fun u1 => [.inr (5, [.ref 51, .ref 52, .ref 53, .int (M.1 3), .ref 54, .ref 55, .ref 56, .int (M.1 7), .ref 57, .ref 58, .int (M.1 10), .int (M.1 11), .int (M.1 12), .int (M.1 13), .int (M.1 14), .int (M.1 15), .ref 59, .ref 60, .int (M.1 18), .int (M.1 19), .int (M.1 20), .ref 61, .ref 62, .ref 63, .ref 64]), .inl (0, 68, .inl (M.2 0)), .inl (0, 68, .inl (M.2 1)), .inl (0, 68, .inl (M.2 2)), .inl (0, 8, .inl (M.2 4)), .inl (0, 1053, .inl (M.2 5)), .inl (1, 972, .inl (M.2 6)), .inl (0, 1053, .inl (M.2 8)), .inl (0, 120, .inl (M.2 9)), .inl (3, 7, .inr (.inr (.inr (.inr q_kf)))), .inl (0, 360, .inl (M.2 17)), .inl (0, 4, .inl (M.2 21)), .inl (0, 4, .inl (M.2 22)), .inl (0, 160, .inl (M.2 23)), .inl (0, 40, .inl (M.2 24))]) rfl rfl rfl rfl rfl (Nat.le_of_ble_eq_true rfl) ⟨(Nat.le_of_ble_eq_true rfl), (Nat.le_of_ble_eq_true rfl)⟩ ⟨Nat.zero_le _, Nat.zero_le _⟩ dX6_hand_1 (fun _ => rfl) (fun _ => rfl) (fun _ => rfl) (fun u1 => ?_)
  refine r_if_eq C 18 dX6_hand_4 (by decide) (fun h4 => ?_) (fun h4 => ?_)
  · refine r_aload_n C 0 dX6_hand_18 rfl ?_
    refine r_ldc C (-1000001) dX6_hand_19 m_1002 ?_
    refine r_callV0 C (o_X6_finding l M (-1000001 : Int32)) v_X6_finding m_1003 [.int (-1000001 : Int32)] [] (50) (Or.inl ⟨0, 5, _, TX6, 25, rfl, rfl, rfl⟩) (fun u2 => [.int u2.1]) (fun u2 => [.inr (5, [.ref 51, .ref 52, .ref 53, .int (u2.2.1 3), .ref 54, .ref 55, .ref 56, .int (u2.2.1 7), .ref 57, .ref 58, .int (u2.2.1 10), .int (u2.2.1 11), .int (u2.2.1 12), .int (u2.2.1 13), .int (u2.2.1 14), .int (u2.2.1 15), .ref 59, .ref 60, .int (u2.2.1 18), .int (u2.2.1 19), .int (u2.2.1 20), .ref 61, .ref 62, .ref 63, .ref 64]), .inl (0, 68, .inl (u2.2.2 0)), .inl (0, 68, .inl (u2.2.2 1)), .inl (0, 68, .inl (u2.2.2 2)), .inl (0, 8, .inl (u2.2.2 4)), .inl (0, 1053, .inl (u2.2.2 5)), .inl (1, 972, .inl (u2.2.2 6)), .inl (0, 1053, .inl (u2.2.2 8)), .inl (0, 120, .inl (u2.2.2 9)), .inl (3, 7, .inr (.inr (.inr (.inr q_kf)))), .inl (0, 360, .inl (u2.2.2 17)), .inl (0, 4, .inl (u2.2.2 21)), .inl (0, 4, .inl (u2.2.2 22)), .inl (0, 160, .inl (u2.2.2 23)), .inl (0, 40, .inl (u2.2.2 24))]) rfl rfl rfl (Nat.le_of_ble_eq_true rfl) ⟨(Nat.le_of_ble_eq_true rfl), (Nat.le_of_ble_eq_true rfl)⟩ ⟨Nat.zero_le _, Nat.zero_le _⟩ dX6_hand_21 (fun _ => rfl) (fun _ => rfl) (fun _ => rfl) (fun u2 => ?_)
    exact r_reti (x := u2.1) (rv := (fun u => some (.int u.1))) (hpE := (fun u => w_X6 u.2)) (t0 := (u2.1, u2.2)) C dX6_hand_24 (by rfl) (by rfl) (by rfl)
  · refine r_aload_n C 0 dX6_hand_7 rfl ?_
    refine r_get C 0 0 dX6_hand_8 K_X6 rfl rfl (Nat.le_of_ble_eq_true rfl) rfl m_915 rfl ?_
    refine r_iconst C (2) dX6_hand_11 rfl ?_
    refine r_iload_n C 1 dX6_hand_12 rfl ?_
    refine r_iadd C dX6_hand_13 ?_
    refine r_iald C 1 dX6_hand_14 rfl rfl (fun hi14 => ?_)
    refine r_goto C 24 dX6_hand_15 (by decide) ?_
    exact r_reti (x := (M.2 0 ((2 : Int32) + a1).toNatClampNeg)) (rv := (fun u => some (.int u.1))) (hpE := (fun u => w_X6 u.2)) (t0 := ((M.2 0 ((2 : Int32) + a1).toNatClampNeg), M)) C dX6_hand_24 (by rfl) (by rfl) (by rfl)
set_option maxRecDepth 100000 in
set_option maxHeartbeats 4000000 in
theorem k_X6_doesSuit_35 {p : Program} {l : Launch} {e : Env} {s : State} {m : MethodId} {args : Array Value} {below : List Frame} {meth : Method} {c : Code} {dC : Nat → ClassId} {dI : Nat → Nat → Nat} {dA : Nat → ClassId} {A : Nat → Prop} {α : Nat → Nat} {t : Int32} (C : q_Cx p s m args meth c cX6_doesSuit 5 RX6 (some .boolean) "doesSuit" dC dI dA A α) (M : q_St) (a1 : Int32) (a2 : Int32) (a3 : Int32)  : ∀ (x2 : Int32) (s0 : Int32) (s1 : Int32), q_S p l e (q_rm 3 65) s m args below meth c 5 dC dI dA A α (MQ below (q_Q α dC dI dA A ((fun u => some (.int u)) t) ((fun u => w_X6 M) t)) args s 0 0 A) 0 0 (f_X6_doesSuit_35 M a1 a2 a3  x2 s0 s1) t 35 [(0, .ref 50), (2, .int x2)] [.int s0, .int s1] (w_X6 M) := by
  intro x2 s0 s1
  refine r_cut (f_X6_doesSuit_35.eq_1 _ _ _ _ _ _ _) ?_
  refine r_iand C dX6_doesSuit_35 ?_
  refine r_istore C [(4, .int (s1 &&& s0)), (0, .ref 50), (2, .int x2)] dX6_doesSuit_36 (Nat.le_of_ble_eq_true rfl) rfl ?_
  refine r_iload C 0 dX6_doesSuit_38 rfl ?_
  refine r_iload_n C 2 dX6_doesSuit_40 rfl ?_
  refine r_if_lt C 61 dX6_doesSuit_41 (by decide) (fun h41 => ?_) (fun h41 => ?_)
  · refine r_iconst C (-1) dX6_doesSuit_61 rfl ?_
    refine r_iand C dX6_doesSuit_62 ?_
    refine r_istore C [(4, .int ((s1 &&& s0) &&& (-1 : Int32))), (0, .ref 50), (2, .int x2)] dX6_doesSuit_63 (Nat.le_of_ble_eq_true rfl) rfl ?_
    refine r_iload C 0 dX6_doesSuit_65 rfl ?_
    refine r_if_ne C 74 dX6_doesSuit_67 (by decide) (fun h67 => ?_) (fun h67 => ?_)
    · refine r_iconst C (1) dX6_doesSuit_70 rfl ?_
      refine r_goto C 75 dX6_doesSuit_71 (by decide) ?_
      exact r_retz (x := (1 : Int32)) (rv := (fun u => some (.int u))) (hpE := (fun u => w_X6 M)) (t0 := (1 : Int32)) C dX6_doesSuit_75 (by rfl) (by rfl) (by rfl) (by rfl)
    · refine r_iconst C (0) dX6_doesSuit_74 rfl ?_
      exact r_retz (x := (0 : Int32)) (rv := (fun u => some (.int u))) (hpE := (fun u => w_X6 M)) (t0 := (0 : Int32)) C dX6_doesSuit_75 (by rfl) (by rfl) (by rfl) (by rfl)
  · refine r_aload_n C 1 dX6_doesSuit_44 rfl ?_
    refine r_iload_n C 2 dX6_doesSuit_45 rfl ?_
    refine r_callV0 C (o_X6_wants l M x2) v_X6_wants m_1027 [.int x2] [.int (s1 &&& s0)] (50) (Or.inl ⟨0, 5, _, TX6, 25, rfl, rfl, rfl⟩) (fun u2 => [.int u2, .int (s1 &&& s0)]) (fun u2 => [.inr (5, [.ref 51, .ref 52, .ref 53, .int (M.1 3), .ref 54, .ref 55, .ref 56, .int (M.1 7), .ref 57, .ref 58, .int (M.1 10), .int (M.1 11), .int (M.1 12), .int (M.1 13), .int (M.1 14), .int (M.1 15), .ref 59, .ref 60, .int (M.1 18), .int (M.1 19), .int (M.1 20), .ref 61, .ref 62, .ref 63, .ref 64]), .inl (0, 68, .inl (M.2 0)), .inl (0, 68, .inl (M.2 1)), .inl (0, 68, .inl (M.2 2)), .inl (0, 8, .inl (M.2 4)), .inl (0, 1053, .inl (M.2 5)), .inl (1, 972, .inl (M.2 6)), .inl (0, 1053, .inl (M.2 8)), .inl (0, 120, .inl (M.2 9)), .inl (3, 7, .inr (.inr (.inr (.inr q_kf)))), .inl (0, 360, .inl (M.2 17)), .inl (0, 4, .inl (M.2 21)), .inl (0, 4, .inl (M.2 22)), .inl (0, 160, .inl (M.2 23)), .inl (0, 40, .inl (M.2 24))]) rfl rfl rfl (Nat.le_of_ble_eq_true rfl) ⟨(Nat.le_of_ble_eq_true rfl), (Nat.le_of_ble_eq_true rfl)⟩ ⟨Nat.zero_le _, Nat.zero_le _⟩ dX6_doesSuit_46 (fun _ => rfl) (fun _ => rfl) (fun _ => rfl) (fun u2 => ?_)
    refine r_iconst C (1) dX6_doesSuit_49 rfl ?_
    refine r_icmp_eq C 61 dX6_doesSuit_50 (by decide) (fun h50 => ?_) (fun h50 => ?_)
    · refine r_iconst C (-1) dX6_doesSuit_61 rfl ?_
      refine r_iand C dX6_doesSuit_62 ?_
      refine r_istore C [(4, .int ((s1 &&& s0) &&& (-1 : Int32))), (0, .ref 50), (2, .int x2)] dX6_doesSuit_63 (Nat.le_of_ble_eq_true rfl) rfl ?_
      refine r_iload C 0 dX6_doesSuit_65 rfl ?_
      refine r_if_ne C 74 dX6_doesSuit_67 (by decide) (fun h67 => ?_) (fun h67 => ?_)
      · refine r_iconst C (1) dX6_doesSuit_70 rfl ?_
        refine r_goto C 75 dX6_doesSuit_71 (by decide) ?_
        exact r_retz (x := (1 : Int32)) (rv := (fun u => some (.int u))) (hpE := (fun u => w_X6 M)) (t0 := (1 : Int32)) C dX6_doesSuit_75 (by rfl) (by rfl) (by rfl) (by rfl)
      · refine r_iconst C (0) dX6_doesSuit_74 rfl ?_
        exact r_retz (x := (0 : Int32)) (rv := (fun u => some (.int u))) (hpE := (fun u => w_X6 M)) (t0 := (0 : Int32)) C dX6_doesSuit_75 (by rfl) (by rfl) (by rfl) (by rfl)
    · refine r_iconst C (1) dX6_doesSuit_53 rfl ?_
      refine r_iload_n C 2 dX6_doesSuit_54 rfl ?_
      refine r_ishl C dX6_doesSuit_55 ?_
      refine r_iconst C (-1) dX6_doesSuit_56 rfl ?_
      refine r_ixor C dX6_doesSuit_57 ?_
      refine r_goto C 62 dX6_doesSuit_58 (by decide) ?_
      refine r_iand C dX6_doesSuit_62 ?_
      refine r_istore C [(4, .int ((s1 &&& s0) &&& (((1 : Int32) <<< (x2 &&& 31)) ^^^ (-1 : Int32)))), (0, .ref 50), (2, .int x2)] dX6_doesSuit_63 (Nat.le_of_ble_eq_true rfl) rfl ?_
      refine r_iload C 0 dX6_doesSuit_65 rfl ?_
      refine r_if_ne C 74 dX6_doesSuit_67 (by decide) (fun h67 => ?_) (fun h67 => ?_)
      · refine r_iconst C (1) dX6_doesSuit_70 rfl ?_
        refine r_goto C 75 dX6_doesSuit_71 (by decide) ?_
        exact r_retz (x := (1 : Int32)) (rv := (fun u => some (.int u))) (hpE := (fun u => w_X6 M)) (t0 := (1 : Int32)) C dX6_doesSuit_75 (by rfl) (by rfl) (by rfl) (by rfl)
      · refine r_iconst C (0) dX6_doesSuit_74 rfl ?_
        exact r_retz (x := (0 : Int32)) (rv := (fun u => some (.int u))) (hpE := (fun u => w_X6 M)) (t0 := (0 : Int32)) C dX6_doesSuit_75 (by rfl) (by rfl) (by rfl) (by rfl)
set_option maxRecDepth 100000 in
set_option maxHeartbeats 4000000 in
theorem o_X6_doesSuit (l : Launch) (M : q_St) (a1 : Int32) (a2 : Int32) (a3 : Int32) : q_Ok l yX6_doesSuit cX6_doesSuit 5 (some .boolean) 3 65 [.ref 50, .int a1, .int a2, .int a3] (w_X6 M) (f_X6_doesSuit M a1 a2 a3) (fun u => some (.int u)) (fun u => w_X6 M) := by
  refine q_enter (by decide +kernel) (Nat.le_of_ble_eq_true rfl) (fun t p e s m args below meth c dC dI dA A α C => ?_)
  refine r_cut (f_X6_doesSuit.eq_1 _ _ _ _) ?_
  show q_S p l e (q_rm 3 65) s m args below meth c 5 dC dI dA A α (MQ below (q_Q α dC dI dA A ((fun u => some (.int u)) t) ((fun u => w_X6 M) t)) args s 0 0 A) 0 0 _ t 0 [(0, .ref 50), (1, .int a1), (2, .int a2), (3, .int a3)] [] (w_X6 M)
  refine r_aload_n C 0 dX6_doesSuit_0 rfl ?_
  refine r_get C 0 0 dX6_doesSuit_1 K_X6 rfl rfl (Nat.le_of_ble_eq_true rfl) rfl m_915 rfl ?_
  refine r_bipush C (44) dX6_doesSuit_4 rfl ?_
  refine r_iload_n C 3 dX6_doesSuit_6 rfl ?_
  refine r_iadd C dX6_doesSuit_7 ?_
  refine r_iald C 1 dX6_doesSuit_8 rfl rfl (fun hi8 => ?_)
  refine r_istore C [(4, .int (M.2 0 ((44 : Int32) + a3).toNatClampNeg)), (0, .ref 50), (1, .int a1), (2, .int a2), (3, .int a3)] dX6_doesSuit_9 (Nat.le_of_ble_eq_true rfl) rfl ?_
  refine r_iload C 0 dX6_doesSuit_11 rfl ?_
  refine r_iload_n C 2 dX6_doesSuit_13 rfl ?_
  refine r_if_lt C 34 dX6_doesSuit_14 (by decide) (fun h14 => ?_) (fun h14 => ?_)
  · refine r_iconst C (-1) dX6_doesSuit_34 rfl ?_
    refine r_lv [(0, .ref 50), (2, .int a2)] [1, 3] rfl ?_
    exact k_X6_doesSuit_35 C M a1 a2 a3   a2 (-1 : Int32) (M.2 0 ((44 : Int32) + a3).toNatClampNeg)
  · refine r_aload_n C 1 dX6_doesSuit_17 rfl ?_
    refine r_iload_n C 2 dX6_doesSuit_18 rfl ?_
    refine r_callV0 C (o_X6_wants l M a1) v_X6_wants m_1027 [.int a1] [.int (M.2 0 ((44 : Int32) + a3).toNatClampNeg)] (50) (Or.inl ⟨0, 5, _, TX6, 25, rfl, rfl, rfl⟩) (fun u1 => [.int u1, .int (M.2 0 ((44 : Int32) + a3).toNatClampNeg)]) (fun u1 => [.inr (5, [.ref 51, .ref 52, .ref 53, .int (M.1 3), .ref 54, .ref 55, .ref 56, .int (M.1 7), .ref 57, .ref 58, .int (M.1 10), .int (M.1 11), .int (M.1 12), .int (M.1 13), .int (M.1 14), .int (M.1 15), .ref 59, .ref 60, .int (M.1 18), .int (M.1 19), .int (M.1 20), .ref 61, .ref 62, .ref 63, .ref 64]), .inl (0, 68, .inl (M.2 0)), .inl (0, 68, .inl (M.2 1)), .inl (0, 68, .inl (M.2 2)), .inl (0, 8, .inl (M.2 4)), .inl (0, 1053, .inl (M.2 5)), .inl (1, 972, .inl (M.2 6)), .inl (0, 1053, .inl (M.2 8)), .inl (0, 120, .inl (M.2 9)), .inl (3, 7, .inr (.inr (.inr (.inr q_kf)))), .inl (0, 360, .inl (M.2 17)), .inl (0, 4, .inl (M.2 21)), .inl (0, 4, .inl (M.2 22)), .inl (0, 160, .inl (M.2 23)), .inl (0, 40, .inl (M.2 24))]) rfl rfl rfl (Nat.le_of_ble_eq_true rfl) ⟨(Nat.le_of_ble_eq_true rfl), (Nat.le_of_ble_eq_true rfl)⟩ ⟨Nat.zero_le _, Nat.zero_le _⟩ dX6_doesSuit_19 (fun _ => rfl) (fun _ => rfl) (fun _ => rfl) (fun u1 => ?_)
    refine r_iconst C (2) dX6_doesSuit_22 rfl ?_
    refine r_icmp_eq C 34 dX6_doesSuit_23 (by decide) (fun h23 => ?_) (fun h23 => ?_)
    · refine r_iconst C (-1) dX6_doesSuit_34 rfl ?_
      refine r_lv [(0, .ref 50), (2, .int a2)] [1, 3] rfl ?_
      exact k_X6_doesSuit_35 C M a1 a2 a3   a2 (-1 : Int32) (M.2 0 ((44 : Int32) + a3).toNatClampNeg)
    · refine r_iconst C (1) dX6_doesSuit_26 rfl ?_
      refine r_iload_n C 2 dX6_doesSuit_27 rfl ?_
      refine r_ishl C dX6_doesSuit_28 ?_
      refine r_iconst C (-1) dX6_doesSuit_29 rfl ?_
      refine r_ixor C dX6_doesSuit_30 ?_
      refine r_goto C 35 dX6_doesSuit_31 (by decide) ?_
      refine r_lv [(0, .ref 50), (2, .int a2)] [1, 3] rfl ?_
      exact k_X6_doesSuit_35 C M a1 a2 a3   a2 (((1 : Int32) <<< (a1 &&& 31)) ^^^ (-1 : Int32)) (M.2 0 ((44 : Int32) + a3).toNatClampNeg)
set_option maxRecDepth 100000 in
set_option maxHeartbeats 4000000 in
theorem o_X6_suits (l : Launch) (M : q_St) (a1 : Int32) : q_Ok l yX6_suits cX6_suits 2 (some .int) 4 89 [.ref 50, .int a1] (w_X6 M) (f_X6_suits M a1) (fun u => some (.int u.1)) (fun u => w_X6 u.2) := by
  refine q_enter (by decide +kernel) (Nat.le_of_ble_eq_true rfl) (fun t p e s m args below meth c dC dI dA A α C => ?_)
  refine r_cut (f_X6_suits.eq_1 _ _) ?_
  show q_S p l e (q_rm 4 89) s m args below meth c 2 dC dI dA A α (MQ below (q_Q α dC dI dA A ((fun u => some (.int u.1)) t) ((fun u => w_X6 u.2) t)) args s 0 0 A) 0 0 _ t 0 [(0, .ref 50), (1, .int a1)] [] (w_X6 M)
  refine r_aload_n C 0 dX6_suits_0 rfl ?_
  refine r_iload_n C 1 dX6_suits_1 rfl ?_
  refine r_callV0 C (o_X6_isBeat l M a1) v_X6_isBeat m_1086 [.int a1] [] (50) (Or.inl ⟨0, 5, _, TX6, 25, rfl, rfl, rfl⟩) (fun u1 => [.int u1]) (fun u1 => [.inr (5, [.ref 51, .ref 52, .ref 53, .int (M.1 3), .ref 54, .ref 55, .ref 56, .int (M.1 7), .ref 57, .ref 58, .int (M.1 10), .int (M.1 11), .int (M.1 12), .int (M.1 13), .int (M.1 14), .int (M.1 15), .ref 59, .ref 60, .int (M.1 18), .int (M.1 19), .int (M.1 20), .ref 61, .ref 62, .ref 63, .ref 64]), .inl (0, 68, .inl (M.2 0)), .inl (0, 68, .inl (M.2 1)), .inl (0, 68, .inl (M.2 2)), .inl (0, 8, .inl (M.2 4)), .inl (0, 1053, .inl (M.2 5)), .inl (1, 972, .inl (M.2 6)), .inl (0, 1053, .inl (M.2 8)), .inl (0, 120, .inl (M.2 9)), .inl (3, 7, .inr (.inr (.inr (.inr q_kf)))), .inl (0, 360, .inl (M.2 17)), .inl (0, 4, .inl (M.2 21)), .inl (0, 4, .inl (M.2 22)), .inl (0, 160, .inl (M.2 23)), .inl (0, 40, .inl (M.2 24))]) rfl rfl rfl (Nat.le_of_ble_eq_true rfl) ⟨(Nat.le_of_ble_eq_true rfl), (Nat.le_of_ble_eq_true rfl)⟩ ⟨Nat.zero_le _, Nat.zero_le _⟩ dX6_suits_2 (fun _ => rfl) (fun _ => rfl) (fun _ => rfl) (fun u1 => ?_)
  refine r_if_ne C 17 dX6_suits_5 (by decide) (fun h5 => ?_) (fun h5 => ?_)
  · refine r_aload_n C 0 dX6_suits_8 rfl ?_
    refine r_ldc C (-1000001) dX6_suits_9 m_1002 ?_
    refine r_callV0 C (o_X6_finding l M (-1000001 : Int32)) v_X6_finding m_1003 [.int (-1000001 : Int32)] [] (50) (Or.inl ⟨0, 5, _, TX6, 25, rfl, rfl, rfl⟩) (fun u3 => [.int u3.1]) (fun u3 => [.inr (5, [.ref 51, .ref 52, .ref 53, .int (u3.2.1 3), .ref 54, .ref 55, .ref 56, .int (u3.2.1 7), .ref 57, .ref 58, .int (u3.2.1 10), .int (u3.2.1 11), .int (u3.2.1 12), .int (u3.2.1 13), .int (u3.2.1 14), .int (u3.2.1 15), .ref 59, .ref 60, .int (u3.2.1 18), .int (u3.2.1 19), .int (u3.2.1 20), .ref 61, .ref 62, .ref 63, .ref 64]), .inl (0, 68, .inl (u3.2.2 0)), .inl (0, 68, .inl (u3.2.2 1)), .inl (0, 68, .inl (u3.2.2 2)), .inl (0, 8, .inl (u3.2.2 4)), .inl (0, 1053, .inl (u3.2.2 5)), .inl (1, 972, .inl (u3.2.2 6)), .inl (0, 1053, .inl (u3.2.2 8)), .inl (0, 120, .inl (u3.2.2 9)), .inl (3, 7, .inr (.inr (.inr (.inr q_kf)))), .inl (0, 360, .inl (u3.2.2 17)), .inl (0, 4, .inl (u3.2.2 21)), .inl (0, 4, .inl (u3.2.2 22)), .inl (0, 160, .inl (u3.2.2 23)), .inl (0, 40, .inl (u3.2.2 24))]) rfl rfl rfl (Nat.le_of_ble_eq_true rfl) ⟨(Nat.le_of_ble_eq_true rfl), (Nat.le_of_ble_eq_true rfl)⟩ ⟨Nat.zero_le _, Nat.zero_le _⟩ dX6_suits_11 (fun _ => rfl) (fun _ => rfl) (fun _ => rfl) (fun u3 => ?_)
    refine r_goto C 42 dX6_suits_14 (by decide) ?_
    exact r_reti (x := u3.1) (rv := (fun u => some (.int u.1))) (hpE := (fun u => w_X6 u.2)) (t0 := (u3.1, u3.2)) C dX6_suits_42 (by rfl) (by rfl) (by rfl)
  · refine r_aload_n C 0 dX6_suits_17 rfl ?_
    refine r_aload_n C 0 dX6_suits_18 rfl ?_
    refine r_get C 0 0 dX6_suits_19 K_X6 rfl rfl (Nat.le_of_ble_eq_true rfl) rfl m_915 rfl ?_
    refine r_iconst C (2) dX6_suits_22 rfl ?_
    refine r_iald C 1 dX6_suits_23 rfl rfl (fun hi23 => ?_)
    refine r_aload_n C 0 dX6_suits_24 rfl ?_
    refine r_get C 0 0 dX6_suits_25 K_X6 rfl rfl (Nat.le_of_ble_eq_true rfl) rfl m_915 rfl ?_
    refine r_iconst C (3) dX6_suits_28 rfl ?_
    refine r_iald C 1 dX6_suits_29 rfl rfl (fun hi29 => ?_)
    refine r_iload_n C 1 dX6_suits_30 rfl ?_
    refine r_callV0 C (o_X6_doesSuit l M (M.2 0 (2 : Int32).toNatClampNeg) (M.2 0 (3 : Int32).toNatClampNeg) a1) v_X6_doesSuit m_1148 [.int (M.2 0 (2 : Int32).toNatClampNeg), .int (M.2 0 (3 : Int32).toNatClampNeg), .int a1] [] (50) (Or.inl ⟨0, 5, _, TX6, 25, rfl, rfl, rfl⟩) (fun u2 => [.int u2]) (fun u2 => [.inr (5, [.ref 51, .ref 52, .ref 53, .int (M.1 3), .ref 54, .ref 55, .ref 56, .int (M.1 7), .ref 57, .ref 58, .int (M.1 10), .int (M.1 11), .int (M.1 12), .int (M.1 13), .int (M.1 14), .int (M.1 15), .ref 59, .ref 60, .int (M.1 18), .int (M.1 19), .int (M.1 20), .ref 61, .ref 62, .ref 63, .ref 64]), .inl (0, 68, .inl (M.2 0)), .inl (0, 68, .inl (M.2 1)), .inl (0, 68, .inl (M.2 2)), .inl (0, 8, .inl (M.2 4)), .inl (0, 1053, .inl (M.2 5)), .inl (1, 972, .inl (M.2 6)), .inl (0, 1053, .inl (M.2 8)), .inl (0, 120, .inl (M.2 9)), .inl (3, 7, .inr (.inr (.inr (.inr q_kf)))), .inl (0, 360, .inl (M.2 17)), .inl (0, 4, .inl (M.2 21)), .inl (0, 4, .inl (M.2 22)), .inl (0, 160, .inl (M.2 23)), .inl (0, 40, .inl (M.2 24))]) rfl rfl rfl (Nat.le_of_ble_eq_true rfl) ⟨(Nat.le_of_ble_eq_true rfl), (Nat.le_of_ble_eq_true rfl)⟩ ⟨Nat.zero_le _, Nat.zero_le _⟩ dX6_suits_31 (fun _ => rfl) (fun _ => rfl) (fun _ => rfl) (fun u2 => ?_)
    refine r_if_eq C 41 dX6_suits_34 (by decide) (fun h34 => ?_) (fun h34 => ?_)
    · refine r_iconst C (0) dX6_suits_41 rfl ?_
      exact r_reti (x := (0 : Int32)) (rv := (fun u => some (.int u.1))) (hpE := (fun u => w_X6 u.2)) (t0 := ((0 : Int32), M)) C dX6_suits_42 (by rfl) (by rfl) (by rfl)
    · refine r_iconst C (1) dX6_suits_37 rfl ?_
      refine r_goto C 42 dX6_suits_38 (by decide) ?_
      exact r_reti (x := (1 : Int32)) (rv := (fun u => some (.int u.1))) (hpE := (fun u => w_X6 u.2)) (t0 := ((1 : Int32), M)) C dX6_suits_42 (by rfl) (by rfl) (by rfl)
set_option maxRecDepth 100000 in
set_option maxHeartbeats 4000000 in
theorem o_X6_now (l : Launch) (M : q_St) (a1 : Int32) : q_Ok l yX6_now cX6_now 2 (some .int) 1 22 [.ref 50, .int a1] (w_X6 M) (f_X6_now M a1) (fun u => some (.int u.1)) (fun u => w_X6 u.2) := by
  refine q_enter (by decide +kernel) (Nat.le_of_ble_eq_true rfl) (fun t p e s m args below meth c dC dI dA A α C => ?_)
  refine r_cut (f_X6_now.eq_1 _ _) ?_
  show q_S p l e (q_rm 1 22) s m args below meth c 2 dC dI dA A α (MQ below (q_Q α dC dI dA A ((fun u => some (.int u.1)) t) ((fun u => w_X6 u.2) t)) args s 0 0 A) 0 0 _ t 0 [(0, .ref 50), (1, .int a1)] [] (w_X6 M)
  refine r_iload_n C 1 dX6_now_0 rfl ?_
  refine r_iconst C (0) dX6_now_1 rfl ?_
  refine r_iconst C (4) dX6_now_2 rfl ?_
  refine r_callS C (o_X6_within l a1 (0 : Int32) (4 : Int32)) v_X6_within m_999 [] [.int a1, .int (0 : Int32), .int (4 : Int32)] [] (fun u1 => [.int u1]) (fun u1 => [.inr (5, [.ref 51, .ref 52, .ref 53, .int (M.1 3), .ref 54, .ref 55, .ref 56, .int (M.1 7), .ref 57, .ref 58, .int (M.1 10), .int (M.1 11), .int (M.1 12), .int (M.1 13), .int (M.1 14), .int (M.1 15), .ref 59, .ref 60, .int (M.1 18), .int (M.1 19), .int (M.1 20), .ref 61, .ref 62, .ref 63, .ref 64]), .inl (0, 68, .inl (M.2 0)), .inl (0, 68, .inl (M.2 1)), .inl (0, 68, .inl (M.2 2)), .inl (0, 8, .inl (M.2 4)), .inl (0, 1053, .inl (M.2 5)), .inl (1, 972, .inl (M.2 6)), .inl (0, 1053, .inl (M.2 8)), .inl (0, 120, .inl (M.2 9)), .inl (3, 7, .inr (.inr (.inr (.inr q_kf)))), .inl (0, 360, .inl (M.2 17)), .inl (0, 4, .inl (M.2 21)), .inl (0, 4, .inl (M.2 22)), .inl (0, 160, .inl (M.2 23)), .inl (0, 40, .inl (M.2 24))]) rfl rfl rfl rfl rfl (Nat.le_of_ble_eq_true rfl) ⟨(Nat.le_of_ble_eq_true rfl), (Nat.le_of_ble_eq_true rfl)⟩ ⟨Nat.zero_le _, Nat.zero_le _⟩ dX6_now_3 (fun _ => rfl) (fun _ => rfl) (fun _ => rfl) (fun u1 => ?_)
  refine r_if_eq C 20 dX6_now_6 (by decide) (fun h6 => ?_) (fun h6 => ?_)
  · refine r_aload_n C 0 dX6_now_20 rfl ?_
    refine r_ldc C (-1000001) dX6_now_21 m_1002 ?_
    refine r_callV0 C (o_X6_finding l M (-1000001 : Int32)) v_X6_finding m_1003 [.int (-1000001 : Int32)] [] (50) (Or.inl ⟨0, 5, _, TX6, 25, rfl, rfl, rfl⟩) (fun u2 => [.int u2.1]) (fun u2 => [.inr (5, [.ref 51, .ref 52, .ref 53, .int (u2.2.1 3), .ref 54, .ref 55, .ref 56, .int (u2.2.1 7), .ref 57, .ref 58, .int (u2.2.1 10), .int (u2.2.1 11), .int (u2.2.1 12), .int (u2.2.1 13), .int (u2.2.1 14), .int (u2.2.1 15), .ref 59, .ref 60, .int (u2.2.1 18), .int (u2.2.1 19), .int (u2.2.1 20), .ref 61, .ref 62, .ref 63, .ref 64]), .inl (0, 68, .inl (u2.2.2 0)), .inl (0, 68, .inl (u2.2.2 1)), .inl (0, 68, .inl (u2.2.2 2)), .inl (0, 8, .inl (u2.2.2 4)), .inl (0, 1053, .inl (u2.2.2 5)), .inl (1, 972, .inl (u2.2.2 6)), .inl (0, 1053, .inl (u2.2.2 8)), .inl (0, 120, .inl (u2.2.2 9)), .inl (3, 7, .inr (.inr (.inr (.inr q_kf)))), .inl (0, 360, .inl (u2.2.2 17)), .inl (0, 4, .inl (u2.2.2 21)), .inl (0, 4, .inl (u2.2.2 22)), .inl (0, 160, .inl (u2.2.2 23)), .inl (0, 40, .inl (u2.2.2 24))]) rfl rfl rfl (Nat.le_of_ble_eq_true rfl) ⟨(Nat.le_of_ble_eq_true rfl), (Nat.le_of_ble_eq_true rfl)⟩ ⟨Nat.zero_le _, Nat.zero_le _⟩ dX6_now_23 (fun _ => rfl) (fun _ => rfl) (fun _ => rfl) (fun u2 => ?_)
    exact r_reti (x := u2.1) (rv := (fun u => some (.int u.1))) (hpE := (fun u => w_X6 u.2)) (t0 := (u2.1, u2.2)) C dX6_now_26 (by rfl) (by rfl) (by rfl)
  · refine r_aload_n C 0 dX6_now_9 rfl ?_
    refine r_get C 0 0 dX6_now_10 K_X6 rfl rfl (Nat.le_of_ble_eq_true rfl) rfl m_915 rfl ?_
    refine r_iconst C (4) dX6_now_13 rfl ?_
    refine r_iload_n C 1 dX6_now_14 rfl ?_
    refine r_iadd C dX6_now_15 ?_
    refine r_iald C 1 dX6_now_16 rfl rfl (fun hi16 => ?_)
    refine r_goto C 26 dX6_now_17 (by decide) ?_
    exact r_reti (x := (M.2 0 ((4 : Int32) + a1).toNatClampNeg)) (rv := (fun u => some (.int u.1))) (hpE := (fun u => w_X6 u.2)) (t0 := ((M.2 0 ((4 : Int32) + a1).toNatClampNeg), M)) C dX6_now_26 (by rfl) (by rfl) (by rfl)
set_option maxRecDepth 100000 in
set_option maxHeartbeats 4000000 in
theorem o_X6_leftOf (l : Launch) (a1 : Int32) : q_Ok l yX6_leftOf cX6_leftOf 1 (some .int) 0 0 [.int a1] ([]) (f_X6_leftOf a1) (fun u => some (.int u)) (fun _ => []) := by
  refine q_enter (by decide +kernel) (Nat.le_of_ble_eq_true rfl) (fun t p e s m args below meth c dC dI dA A α C => ?_)
  refine r_cut (f_X6_leftOf.eq_1 _) ?_
  show q_S p l e (q_rm 0 0) s m args below meth c 1 dC dI dA A α (MQ below (q_Q α dC dI dA A ((fun u => some (.int u)) t) ((fun _ => []) t)) args s 0 0 A) 0 0 _ t 0 [(0, .int a1)] [] ([])
  refine r_iload_n C 0 dX6_leftOf_0 rfl ?_
  refine r_bipush C (9) dX6_leftOf_1 rfl ?_
  refine r_idiv C dX6_leftOf_3 (by decide) ?_
  refine r_iconst C (1) dX6_leftOf_4 rfl ?_
  refine r_isub C dX6_leftOf_5 ?_
  exact r_reti (x := ((a1 / (9 : Int32)) - (1 : Int32))) (rv := (fun u => some (.int u))) (hpE := (fun _ => [])) (t0 := ((a1 / (9 : Int32)) - (1 : Int32))) C dX6_leftOf_6 (by rfl) (by rfl) (by rfl)
set_option maxRecDepth 100000 in
set_option maxHeartbeats 4000000 in
theorem o_X6_rightOf (l : Launch) (a1 : Int32) : q_Ok l yX6_rightOf cX6_rightOf 1 (some .int) 0 0 [.int a1] ([]) (f_X6_rightOf a1) (fun u => some (.int u)) (fun _ => []) := by
  refine q_enter (by decide +kernel) (Nat.le_of_ble_eq_true rfl) (fun t p e s m args below meth c dC dI dA A α C => ?_)
  refine r_cut (f_X6_rightOf.eq_1 _) ?_
  show q_S p l e (q_rm 0 0) s m args below meth c 1 dC dI dA A α (MQ below (q_Q α dC dI dA A ((fun u => some (.int u)) t) ((fun _ => []) t)) args s 0 0 A) 0 0 _ t 0 [(0, .int a1)] [] ([])
  refine r_iload_n C 0 dX6_rightOf_0 rfl ?_
  refine r_bipush C (9) dX6_rightOf_1 rfl ?_
  refine r_irem C dX6_rightOf_3 (by decide) ?_
  refine r_iconst C (1) dX6_rightOf_4 rfl ?_
  refine r_isub C dX6_rightOf_5 ?_
  exact r_reti (x := ((a1 - a1 / (9 : Int32) * (9 : Int32)) - (1 : Int32))) (rv := (fun u => some (.int u))) (hpE := (fun _ => [])) (t0 := ((a1 - a1 / (9 : Int32) * (9 : Int32)) - (1 : Int32))) C dX6_rightOf_6 (by rfl) (by rfl) (by rfl)
set_option maxRecDepth 100000 in
set_option maxHeartbeats 4000000 in
theorem o_X6_isHold (l : Launch) (M : q_St) (a1 : Int32) (a2 : Int32) : q_Ok l yX6_isHold cX6_isHold 3 (some .boolean) 3 64 [.ref 50, .int a1, .int a2] (w_X6 M) (f_X6_isHold M a1 a2) (fun u => some (.int u)) (fun u => w_X6 M) := by
  refine q_enter (by decide +kernel) (Nat.le_of_ble_eq_true rfl) (fun t p e s m args below meth c dC dI dA A α C => ?_)
  refine r_cut (f_X6_isHold.eq_1 _ _ _) ?_
  show q_S p l e (q_rm 3 64) s m args below meth c 3 dC dI dA A α (MQ below (q_Q α dC dI dA A ((fun u => some (.int u)) t) ((fun u => w_X6 M) t)) args s 0 0 A) 0 0 _ t 0 [(0, .ref 50), (1, .int a1), (2, .int a2)] [] (w_X6 M)
  refine r_aload_n C 0 dX6_isHold_0 rfl ?_
  refine r_iload_n C 1 dX6_isHold_1 rfl ?_
  refine r_callV0 C (o_X6_maySpeak l M a1) v_X6_maySpeak m_1074 [.int a1] [] (50) (Or.inl ⟨0, 5, _, TX6, 25, rfl, rfl, rfl⟩) (fun u1 => [.int u1]) (fun u1 => [.inr (5, [.ref 51, .ref 52, .ref 53, .int (M.1 3), .ref 54, .ref 55, .ref 56, .int (M.1 7), .ref 57, .ref 58, .int (M.1 10), .int (M.1 11), .int (M.1 12), .int (M.1 13), .int (M.1 14), .int (M.1 15), .ref 59, .ref 60, .int (M.1 18), .int (M.1 19), .int (M.1 20), .ref 61, .ref 62, .ref 63, .ref 64]), .inl (0, 68, .inl (M.2 0)), .inl (0, 68, .inl (M.2 1)), .inl (0, 68, .inl (M.2 2)), .inl (0, 8, .inl (M.2 4)), .inl (0, 1053, .inl (M.2 5)), .inl (1, 972, .inl (M.2 6)), .inl (0, 1053, .inl (M.2 8)), .inl (0, 120, .inl (M.2 9)), .inl (3, 7, .inr (.inr (.inr (.inr q_kf)))), .inl (0, 360, .inl (M.2 17)), .inl (0, 4, .inl (M.2 21)), .inl (0, 4, .inl (M.2 22)), .inl (0, 160, .inl (M.2 23)), .inl (0, 40, .inl (M.2 24))]) rfl rfl rfl (Nat.le_of_ble_eq_true rfl) ⟨(Nat.le_of_ble_eq_true rfl), (Nat.le_of_ble_eq_true rfl)⟩ ⟨Nat.zero_le _, Nat.zero_le _⟩ dX6_isHold_2 (fun _ => rfl) (fun _ => rfl) (fun _ => rfl) (fun u1 => ?_)
  refine r_if_eq C 29 dX6_isHold_5 (by decide) (fun h5 => ?_) (fun h5 => ?_)
  · refine r_iconst C (0) dX6_isHold_29 rfl ?_
    exact r_retz (x := (0 : Int32)) (rv := (fun u => some (.int u))) (hpE := (fun u => w_X6 M)) (t0 := (0 : Int32)) C dX6_isHold_30 (by rfl) (by rfl) (by rfl) (by rfl)
  · refine r_aload_n C 0 dX6_isHold_8 rfl ?_
    refine r_iload_n C 2 dX6_isHold_9 rfl ?_
    refine r_callV0 C (o_X6_maySpeak l M a2) v_X6_maySpeak m_1074 [.int a2] [] (50) (Or.inl ⟨0, 5, _, TX6, 25, rfl, rfl, rfl⟩) (fun u2 => [.int u2]) (fun u2 => [.inr (5, [.ref 51, .ref 52, .ref 53, .int (M.1 3), .ref 54, .ref 55, .ref 56, .int (M.1 7), .ref 57, .ref 58, .int (M.1 10), .int (M.1 11), .int (M.1 12), .int (M.1 13), .int (M.1 14), .int (M.1 15), .ref 59, .ref 60, .int (M.1 18), .int (M.1 19), .int (M.1 20), .ref 61, .ref 62, .ref 63, .ref 64]), .inl (0, 68, .inl (M.2 0)), .inl (0, 68, .inl (M.2 1)), .inl (0, 68, .inl (M.2 2)), .inl (0, 8, .inl (M.2 4)), .inl (0, 1053, .inl (M.2 5)), .inl (1, 972, .inl (M.2 6)), .inl (0, 1053, .inl (M.2 8)), .inl (0, 120, .inl (M.2 9)), .inl (3, 7, .inr (.inr (.inr (.inr q_kf)))), .inl (0, 360, .inl (M.2 17)), .inl (0, 4, .inl (M.2 21)), .inl (0, 4, .inl (M.2 22)), .inl (0, 160, .inl (M.2 23)), .inl (0, 40, .inl (M.2 24))]) rfl rfl rfl (Nat.le_of_ble_eq_true rfl) ⟨(Nat.le_of_ble_eq_true rfl), (Nat.le_of_ble_eq_true rfl)⟩ ⟨Nat.zero_le _, Nat.zero_le _⟩ dX6_isHold_10 (fun _ => rfl) (fun _ => rfl) (fun _ => rfl) (fun u2 => ?_)
    refine r_if_eq C 29 dX6_isHold_13 (by decide) (fun h13 => ?_) (fun h13 => ?_)
    · refine r_iconst C (0) dX6_isHold_29 rfl ?_
      exact r_retz (x := (0 : Int32)) (rv := (fun u => some (.int u))) (hpE := (fun u => w_X6 M)) (t0 := (0 : Int32)) C dX6_isHold_30 (by rfl) (by rfl) (by rfl) (by rfl)
    · refine r_iload_n C 1 dX6_isHold_16 rfl ?_
      refine r_iload_n C 2 dX6_isHold_17 rfl ?_
      refine r_icmp_ne C 25 dX6_isHold_18 (by decide) (fun h18 => ?_) (fun h18 => ?_)
      · refine r_iload_n C 1 dX6_isHold_21 rfl ?_
        refine r_if_ge C 29 dX6_isHold_22 (by decide) (fun h22 => ?_) (fun h22 => ?_)
        · refine r_iconst C (0) dX6_isHold_29 rfl ?_
          exact r_retz (x := (0 : Int32)) (rv := (fun u => some (.int u))) (hpE := (fun u => w_X6 M)) (t0 := (0 : Int32)) C dX6_isHold_30 (by rfl) (by rfl) (by rfl) (by rfl)
        · refine r_iconst C (1) dX6_isHold_25 rfl ?_
          refine r_goto C 30 dX6_isHold_26 (by decide) ?_
          exact r_retz (x := (1 : Int32)) (rv := (fun u => some (.int u))) (hpE := (fun u => w_X6 M)) (t0 := (1 : Int32)) C dX6_isHold_30 (by rfl) (by rfl) (by rfl) (by rfl)
      · refine r_iconst C (1) dX6_isHold_25 rfl ?_
        refine r_goto C 30 dX6_isHold_26 (by decide) ?_
        exact r_retz (x := (1 : Int32)) (rv := (fun u => some (.int u))) (hpE := (fun u => w_X6 M)) (t0 := (1 : Int32)) C dX6_isHold_30 (by rfl) (by rfl) (by rfl) (by rfl)
