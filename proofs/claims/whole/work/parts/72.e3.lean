set_option maxRecDepth 100000 in
set_option maxHeartbeats 4000000 in
theorem k_X6_bestRehang_89 {p : Program} {l : Launch} {e : Env} {s : State} {m : MethodId} {args : Array Value} {below : List Frame} {meth : Method} {c : Code} {dC : Nat → ClassId} {dI : Nat → Nat → Nat} {dA : Nat → ClassId} {A : Nat → Prop} {α : Nat → Nat} {t : Int32 × q_St} (C : q_Cx p s m args meth c cX6_bestRehang 6 RX6 (some .int) "bestRehang" dC dI dA A α) (M : q_St) (r17 : Int32 → Int32 → q_St → Option (Int32 × q_St)) (r31 : Int32 → Int32 → Int32 → q_St → Option (Int32 × q_St))
    (hr17 : ∀ (x1 : Int32) (x2 : Int32) (M' : q_St), q_S p l e (q_rm 6 136) s m args below meth c 6 dC dI dA A α (MQ below (q_Q α dC dI dA A ((fun u => some (.int u.1)) t) ((fun u => w_X6 u.2) t)) args s 0 0 A) 0 0 (r17 x1 x2 M') t 17 [(0, .ref 50), (1, .int x1), (2, .int x2)] [] (w_X6 M'))
    (hr31 : ∀ (x1 : Int32) (x2 : Int32) (x3 : Int32) (M' : q_St), q_S p l e (q_rm 6 136) s m args below meth c 6 dC dI dA A α (MQ below (q_Q α dC dI dA A ((fun u => some (.int u.1)) t) ((fun u => w_X6 u.2) t)) args s 0 0 A) 0 0 (r31 x1 x2 x3 M') t 31 [(0, .ref 50), (1, .int x1), (2, .int x2), (3, .int x3)] [] (w_X6 M')) : ∀ (x2 : Int32) (x3 : Int32) (x4 : Int32) (x5 : Int32) (s0 : Int32) (M' : q_St), q_S p l e (q_rm 6 136) s m args below meth c 6 dC dI dA A α (MQ below (q_Q α dC dI dA A ((fun u => some (.int u.1)) t) ((fun u => w_X6 u.2) t)) args s 0 0 A) 0 0 (f_X6_bestRehang_89 M r17 r31 x2 x3 x4 x5 s0 M') t 89 [(0, .ref 50), (2, .int x2), (3, .int x3), (4, .int x4), (5, .int x5)] [.int s0] (w_X6 M') := by
  intro x2 x3 x4 x5 s0 M'
  refine r_cut (f_X6_bestRehang_89.eq_1 _ _ _ _ _ _ _ _ _) ?_
  refine r_istore_n C [(1, .int s0), (0, .ref 50), (2, .int x2), (3, .int x3), (4, .int x4), (5, .int x5)] dX6_bestRehang_89 (Nat.le_of_ble_eq_true rfl) rfl ?_
  refine r_aload_n C 1 dX6_bestRehang_90 rfl ?_
  refine r_aload_n C 1 dX6_bestRehang_91 rfl ?_
  refine r_get C 0 7 dX6_bestRehang_92 K_X6 rfl rfl (Nat.le_of_ble_eq_true rfl) rfl m_922 rfl ?_
  refine r_iload C 5 dX6_bestRehang_95 rfl ?_
  refine r_mmin C dX6_bestRehang_97 m_1190 m_465 m_8 m_466 (Nat.le_of_ble_eq_true rfl) (Nat.le_of_ble_eq_true rfl) (Nat.zero_le _) (Nat.zero_le _) ?_
  refine r_put C 0 7 _ dX6_bestRehang_100 K_X6 rfl rfl (Nat.le_of_ble_eq_true rfl) rfl m_922 rfl (fun _ => rfl) (fun _ => rfl) (Nat.le_of_ble_eq_true rfl) rfl ?_
  refine r_iload C 4 dX6_bestRehang_103 rfl ?_
  refine r_aload_n C 1 dX6_bestRehang_105 rfl ?_
  refine r_iload_n C 2 dX6_bestRehang_106 rfl ?_
  refine r_iload_n C 3 dX6_bestRehang_107 rfl ?_
  refine r_callV0 C (o_X6_swapsHooks l ((va_up M'.1 7 (if x5 < M'.1 7 then x5 else M'.1 7)), M'.2) x2 x3) v_X6_swapsHooks m_1058 [.int x2, .int x3] [.int x4] (50) (Or.inl ⟨0, 5, _, TX6, 25, rfl, rfl, rfl⟩) (fun u6 => [.int u6.1, .int x4]) (fun u6 => [.inr (5, [.ref 51, .ref 52, .ref 53, .int (u6.2.1 3), .ref 54, .ref 55, .ref 56, .int (u6.2.1 7), .ref 57, .ref 58, .int (u6.2.1 10), .int (u6.2.1 11), .int (u6.2.1 12), .int (u6.2.1 13), .int (u6.2.1 14), .int (u6.2.1 15), .ref 59, .ref 60, .int (u6.2.1 18), .int (u6.2.1 19), .int (u6.2.1 20), .ref 61, .ref 62, .ref 63, .ref 64]), .inl (0, 68, .inl (u6.2.2 0)), .inl (0, 68, .inl (u6.2.2 1)), .inl (0, 68, .inl (u6.2.2 2)), .inl (0, 8, .inl (u6.2.2 4)), .inl (0, 1053, .inl (u6.2.2 5)), .inl (1, 972, .inl (u6.2.2 6)), .inl (0, 1053, .inl (u6.2.2 8)), .inl (0, 120, .inl (u6.2.2 9)), .inl (3, 7, .inr (.inr (.inr (.inr q_kf)))), .inl (0, 360, .inl (u6.2.2 17)), .inl (0, 4, .inl (u6.2.2 21)), .inl (0, 4, .inl (u6.2.2 22)), .inl (0, 160, .inl (u6.2.2 23)), .inl (0, 40, .inl (u6.2.2 24))]) rfl rfl rfl (Nat.le_of_ble_eq_true rfl) ⟨(Nat.le_of_ble_eq_true rfl), (Nat.le_of_ble_eq_true rfl)⟩ ⟨Nat.zero_le _, Nat.zero_le _⟩ dX6_bestRehang_108 (fun _ => rfl) (fun _ => rfl) (fun _ => rfl) (fun u6 => ?_)
  refine r_iadd C dX6_bestRehang_111 ?_
  refine r_istore C [(4, .int (x4 + u6.1)), (1, .int s0), (0, .ref 50), (2, .int x2), (3, .int x3), (5, .int x5)] dX6_bestRehang_112 (Nat.le_of_ble_eq_true rfl) rfl ?_
  refine r_iinc C 4 (x3 + 1) [(3, .int (x3 + 1)), (4, .int (x4 + u6.1)), (1, .int s0), (0, .ref 50), (2, .int x2), (5, .int x5)] dX6_bestRehang_114 rfl rfl (Nat.le_of_ble_eq_true rfl) rfl ?_
  refine r_goto C 31 dX6_bestRehang_117 (by decide) ?_
  refine r_lv [(0, .ref 50), (1, .int s0), (2, .int x2), (3, .int (x3 + 1))] [3, 2, 4, 0] rfl ?_
  exact hr31 s0 x2 (x3 + 1) u6.2
set_option maxRecDepth 100000 in
set_option maxHeartbeats 4000000 in
theorem k_X6_bestRehang_31 {p : Program} {l : Launch} {e : Env} {s : State} {m : MethodId} {args : Array Value} {below : List Frame} {meth : Method} {c : Code} {dC : Nat → ClassId} {dI : Nat → Nat → Nat} {dA : Nat → ClassId} {A : Nat → Prop} {α : Nat → Nat} {t : Int32 × q_St} (C : q_Cx p s m args meth c cX6_bestRehang 6 RX6 (some .int) "bestRehang" dC dI dA A α) (M : q_St) (r17 : Int32 → Int32 → q_St → Option (Int32 × q_St))
    (hr17 : ∀ (x1 : Int32) (x2 : Int32) (M' : q_St), q_S p l e (q_rm 6 136) s m args below meth c 6 dC dI dA A α (MQ below (q_Q α dC dI dA A ((fun u => some (.int u.1)) t) ((fun u => w_X6 u.2) t)) args s 0 0 A) 0 0 (r17 x1 x2 M') t 17 [(0, .ref 50), (1, .int x1), (2, .int x2)] [] (w_X6 M')) : ∀ (n : Nat) (x1 : Int32) (x2 : Int32) (x3 : Int32) (M' : q_St), q_S p l e (q_rm 6 136) s m args below meth c 6 dC dI dA A α (MQ below (q_Q α dC dI dA A ((fun u => some (.int u.1)) t) ((fun u => w_X6 u.2) t)) args s 0 0 A) 0 0 (f_X6_bestRehang_31 M r17 n x1 x2 x3 M') t 31 [(0, .ref 50), (1, .int x1), (2, .int x2), (3, .int x3)] [] (w_X6 M') := by
  intro n
  induction n with
  | zero =>
    intro x1 x2 x3 M'
    exact r_cut (f_X6_bestRehang_31.eq_1 _ _ _ _ _ _) (r_none True.intro)
  | succ n ih =>
    intro x1 x2 x3 M'
    refine r_cut (f_X6_bestRehang_31.eq_2 _ _ _ _ _ _ _) ?_
    refine r_iload_n C 3 dX6_bestRehang_31 rfl ?_
    refine r_aload_n C 0 dX6_bestRehang_32 rfl ?_
    refine r_get C 0 0 dX6_bestRehang_33 K_X6 rfl rfl (Nat.le_of_ble_eq_true rfl) rfl m_915 rfl ?_
    refine r_iconst C (0) dX6_bestRehang_36 rfl ?_
    refine r_iald C 1 dX6_bestRehang_37 rfl rfl (fun hi37 => ?_)
    refine r_icmp_ge C 120 dX6_bestRehang_38 (by decide) (fun h38 => ?_) (fun h38 => ?_)
    · refine r_iinc C 2 (x2 + 1) [(2, .int (x2 + 1)), (0, .ref 50), (1, .int x1), (3, .int x3)] dX6_bestRehang_120 rfl rfl (Nat.le_of_ble_eq_true rfl) rfl ?_
      refine r_goto C 17 dX6_bestRehang_123 (by decide) ?_
      refine r_lv [(0, .ref 50), (1, .int x1), (2, .int (x2 + 1))] [1, 2, 0] rfl ?_
      exact hr17 x1 (x2 + 1) M'
    · refine r_aload_n C 0 dX6_bestRehang_41 rfl ?_
      refine r_iload_n C 2 dX6_bestRehang_42 rfl ?_
      refine r_iload_n C 3 dX6_bestRehang_43 rfl ?_
      refine r_callV0 C (o_X6_swapsHooks l M' x2 x3) v_X6_swapsHooks m_1058 [.int x2, .int x3] [] (50) (Or.inl ⟨0, 5, _, TX6, 25, rfl, rfl, rfl⟩) (fun u3 => [.int u3.1]) (fun u3 => [.inr (5, [.ref 51, .ref 52, .ref 53, .int (u3.2.1 3), .ref 54, .ref 55, .ref 56, .int (u3.2.1 7), .ref 57, .ref 58, .int (u3.2.1 10), .int (u3.2.1 11), .int (u3.2.1 12), .int (u3.2.1 13), .int (u3.2.1 14), .int (u3.2.1 15), .ref 59, .ref 60, .int (u3.2.1 18), .int (u3.2.1 19), .int (u3.2.1 20), .ref 61, .ref 62, .ref 63, .ref 64]), .inl (0, 68, .inl (u3.2.2 0)), .inl (0, 68, .inl (u3.2.2 1)), .inl (0, 68, .inl (u3.2.2 2)), .inl (0, 8, .inl (u3.2.2 4)), .inl (0, 1053, .inl (u3.2.2 5)), .inl (1, 972, .inl (u3.2.2 6)), .inl (0, 1053, .inl (u3.2.2 8)), .inl (0, 120, .inl (u3.2.2 9)), .inl (3, 7, .inr (.inr (.inr (.inr q_kf)))), .inl (0, 360, .inl (u3.2.2 17)), .inl (0, 4, .inl (u3.2.2 21)), .inl (0, 4, .inl (u3.2.2 22)), .inl (0, 160, .inl (u3.2.2 23)), .inl (0, 40, .inl (u3.2.2 24))]) rfl rfl rfl (Nat.le_of_ble_eq_true rfl) ⟨(Nat.le_of_ble_eq_true rfl), (Nat.le_of_ble_eq_true rfl)⟩ ⟨Nat.zero_le _, Nat.zero_le _⟩ dX6_bestRehang_44 (fun _ => rfl) (fun _ => rfl) (fun _ => rfl) (fun u3 => ?_)
      refine r_istore C [(4, .int u3.1), (0, .ref 50), (1, .int x1), (2, .int x2), (3, .int x3)] dX6_bestRehang_47 (Nat.le_of_ble_eq_true rfl) rfl ?_
      refine r_iload C 0 dX6_bestRehang_49 rfl ?_
      refine r_if_ge C 59 dX6_bestRehang_51 (by decide) (fun h51 => ?_) (fun h51 => ?_)
      · refine r_aload_n C 1 dX6_bestRehang_59 rfl ?_
        refine r_aload_n C 1 dX6_bestRehang_60 rfl ?_
        refine r_callV0 C (o_X6_allBeats l u3.2) v_X6_allBeats m_1167 [] [.ref 50] (50) (Or.inl ⟨0, 5, _, TX6, 25, rfl, rfl, rfl⟩) (fun u4 => [.int u4, .ref 50]) (fun u4 => [.inr (5, [.ref 51, .ref 52, .ref 53, .int (u3.2.1 3), .ref 54, .ref 55, .ref 56, .int (u3.2.1 7), .ref 57, .ref 58, .int (u3.2.1 10), .int (u3.2.1 11), .int (u3.2.1 12), .int (u3.2.1 13), .int (u3.2.1 14), .int (u3.2.1 15), .ref 59, .ref 60, .int (u3.2.1 18), .int (u3.2.1 19), .int (u3.2.1 20), .ref 61, .ref 62, .ref 63, .ref 64]), .inl (0, 68, .inl (u3.2.2 0)), .inl (0, 68, .inl (u3.2.2 1)), .inl (0, 68, .inl (u3.2.2 2)), .inl (0, 8, .inl (u3.2.2 4)), .inl (0, 1053, .inl (u3.2.2 5)), .inl (1, 972, .inl (u3.2.2 6)), .inl (0, 1053, .inl (u3.2.2 8)), .inl (0, 120, .inl (u3.2.2 9)), .inl (3, 7, .inr (.inr (.inr (.inr q_kf)))), .inl (0, 360, .inl (u3.2.2 17)), .inl (0, 4, .inl (u3.2.2 21)), .inl (0, 4, .inl (u3.2.2 22)), .inl (0, 160, .inl (u3.2.2 23)), .inl (0, 40, .inl (u3.2.2 24))]) rfl rfl rfl (Nat.le_of_ble_eq_true rfl) ⟨(Nat.le_of_ble_eq_true rfl), (Nat.le_of_ble_eq_true rfl)⟩ ⟨Nat.zero_le _, Nat.zero_le _⟩ dX6_bestRehang_61 (fun _ => rfl) (fun _ => rfl) (fun _ => rfl) (fun u4 => ?_)
        refine r_iconst C (1) dX6_bestRehang_64 rfl ?_
        refine r_callV0 C (o_X6_findWay l u3.2 u4 (1 : Int32)) v_X6_findWay m_1171 [.int u4, .int (1 : Int32)] [] (50) (Or.inl ⟨0, 5, _, TX6, 25, rfl, rfl, rfl⟩) (fun u5 => [.int u5.1]) (fun u5 => [.inr (5, [.ref 51, .ref 52, .ref 53, .int (u5.2.1 3), .ref 54, .ref 55, .ref 56, .int (u5.2.1 7), .ref 57, .ref 58, .int (u5.2.1 10), .int (u5.2.1 11), .int (u5.2.1 12), .int (u5.2.1 13), .int (u5.2.1 14), .int (u5.2.1 15), .ref 59, .ref 60, .int (u5.2.1 18), .int (u5.2.1 19), .int (u5.2.1 20), .ref 61, .ref 62, .ref 63, .ref 64]), .inl (0, 68, .inl (u5.2.2 0)), .inl (0, 68, .inl (u5.2.2 1)), .inl (0, 68, .inl (u5.2.2 2)), .inl (0, 8, .inl (u5.2.2 4)), .inl (0, 1053, .inl (u5.2.2 5)), .inl (1, 972, .inl (u5.2.2 6)), .inl (0, 1053, .inl (u5.2.2 8)), .inl (0, 120, .inl (u5.2.2 9)), .inl (3, 7, .inr (.inr (.inr (.inr q_kf)))), .inl (0, 360, .inl (u5.2.2 17)), .inl (0, 4, .inl (u5.2.2 21)), .inl (0, 4, .inl (u5.2.2 22)), .inl (0, 160, .inl (u5.2.2 23)), .inl (0, 40, .inl (u5.2.2 24))]) rfl rfl rfl (Nat.le_of_ble_eq_true rfl) ⟨(Nat.le_of_ble_eq_true rfl), (Nat.le_of_ble_eq_true rfl)⟩ ⟨Nat.zero_le _, Nat.zero_le _⟩ dX6_bestRehang_65 (fun _ => rfl) (fun _ => rfl) (fun _ => rfl) (fun u5 => ?_)
        refine r_istore C [(5, .int u5.1), (4, .int u3.1), (0, .ref 50), (1, .int x1), (2, .int x2), (3, .int x3)] dX6_bestRehang_68 (Nat.le_of_ble_eq_true rfl) rfl ?_
        refine r_iload C 0 dX6_bestRehang_70 rfl ?_
        refine r_aload_n C 2 dX6_bestRehang_72 rfl ?_
        refine r_get C 0 7 dX6_bestRehang_73 K_X6 rfl rfl (Nat.le_of_ble_eq_true rfl) rfl m_922 rfl ?_
        refine r_icmp_ge C 88 dX6_bestRehang_76 (by decide) (fun h76 => ?_) (fun h76 => ?_)
        · refine r_iload_n C 3 dX6_bestRehang_88 rfl ?_
          refine r_lv [(0, .ref 50), (2, .int x2), (3, .int x3), (4, .int u3.1), (5, .int u5.1)] [2, 4, 5, 1, 0] rfl ?_
          exact k_X6_bestRehang_89 C M r17 (fun x1 x2 x3 M' => f_X6_bestRehang_31 M r17 n x1 x2 x3 M') hr17 ih x2 x3 u3.1 u5.1 x1 u5.2
        · refine r_bipush C (10) dX6_bestRehang_79 rfl ?_
          refine r_iload_n C 4 dX6_bestRehang_81 rfl ?_
          refine r_imul C dX6_bestRehang_82 ?_
          refine r_iload_n C 5 dX6_bestRehang_83 rfl ?_
          refine r_iadd C dX6_bestRehang_84 ?_
          refine r_goto C 89 dX6_bestRehang_85 (by decide) ?_
          refine r_lv [(0, .ref 50), (2, .int x2), (3, .int x3), (4, .int u3.1), (5, .int u5.1)] [2, 4, 5, 1, 0] rfl ?_
          exact k_X6_bestRehang_89 C M r17 (fun x1 x2 x3 M' => f_X6_bestRehang_31 M r17 n x1 x2 x3 M') hr17 ih x2 x3 u3.1 u5.1 (((10 : Int32) * x2) + x3) u5.2
      · refine r_ldc C (1000000) dX6_bestRehang_54 m_1185 ?_
        refine r_goto C 68 dX6_bestRehang_56 (by decide) ?_
        refine r_istore C [(5, .int (1000000 : Int32)), (4, .int u3.1), (0, .ref 50), (1, .int x1), (2, .int x2), (3, .int x3)] dX6_bestRehang_68 (Nat.le_of_ble_eq_true rfl) rfl ?_
        refine r_iload C 0 dX6_bestRehang_70 rfl ?_
        refine r_aload_n C 2 dX6_bestRehang_72 rfl ?_
        refine r_get C 0 7 dX6_bestRehang_73 K_X6 rfl rfl (Nat.le_of_ble_eq_true rfl) rfl m_922 rfl ?_
        refine r_icmp_ge C 88 dX6_bestRehang_76 (by decide) (fun h76 => ?_) (fun h76 => ?_)
        · refine r_iload_n C 3 dX6_bestRehang_88 rfl ?_
          refine r_lv [(0, .ref 50), (2, .int x2), (3, .int x3), (4, .int u3.1), (5, .int (1000000 : Int32))] [2, 4, 5, 1, 0] rfl ?_
          exact k_X6_bestRehang_89 C M r17 (fun x1 x2 x3 M' => f_X6_bestRehang_31 M r17 n x1 x2 x3 M') hr17 ih x2 x3 u3.1 (1000000 : Int32) x1 u3.2
        · refine r_bipush C (10) dX6_bestRehang_79 rfl ?_
          refine r_iload_n C 4 dX6_bestRehang_81 rfl ?_
          refine r_imul C dX6_bestRehang_82 ?_
          refine r_iload_n C 5 dX6_bestRehang_83 rfl ?_
          refine r_iadd C dX6_bestRehang_84 ?_
          refine r_goto C 89 dX6_bestRehang_85 (by decide) ?_
          refine r_lv [(0, .ref 50), (2, .int x2), (3, .int x3), (4, .int u3.1), (5, .int (1000000 : Int32))] [2, 4, 5, 1, 0] rfl ?_
          exact k_X6_bestRehang_89 C M r17 (fun x1 x2 x3 M' => f_X6_bestRehang_31 M r17 n x1 x2 x3 M') hr17 ih x2 x3 u3.1 (1000000 : Int32) (((10 : Int32) * x2) + x3) u3.2
set_option maxRecDepth 100000 in
set_option maxHeartbeats 4000000 in
theorem k_X6_bestRehang_17 {p : Program} {l : Launch} {e : Env} {s : State} {m : MethodId} {args : Array Value} {below : List Frame} {meth : Method} {c : Code} {dC : Nat → ClassId} {dI : Nat → Nat → Nat} {dA : Nat → ClassId} {A : Nat → Prop} {α : Nat → Nat} {t : Int32 × q_St} (C : q_Cx p s m args meth c cX6_bestRehang 6 RX6 (some .int) "bestRehang" dC dI dA A α) (M : q_St)  : ∀ (n : Nat) (x1 : Int32) (x2 : Int32) (M' : q_St), q_S p l e (q_rm 6 136) s m args below meth c 6 dC dI dA A α (MQ below (q_Q α dC dI dA A ((fun u => some (.int u.1)) t) ((fun u => w_X6 u.2) t)) args s 0 0 A) 0 0 (f_X6_bestRehang_17 M  n x1 x2 M') t 17 [(0, .ref 50), (1, .int x1), (2, .int x2)] [] (w_X6 M') := by
  intro n
  induction n with
  | zero =>
    intro x1 x2 M'
    exact r_cut (f_X6_bestRehang_17.eq_1 _ _ _ _) (r_none True.intro)
  | succ n ih =>
    intro x1 x2 M'
    refine r_cut (f_X6_bestRehang_17.eq_2 _ _ _ _ _) ?_
    refine r_iload_n C 2 dX6_bestRehang_17 rfl ?_
    refine r_aload_n C 0 dX6_bestRehang_18 rfl ?_
    refine r_get C 0 0 dX6_bestRehang_19 K_X6 rfl rfl (Nat.le_of_ble_eq_true rfl) rfl m_915 rfl ?_
    refine r_iconst C (0) dX6_bestRehang_22 rfl ?_
    refine r_iald C 1 dX6_bestRehang_23 rfl rfl (fun hi23 => ?_)
    refine r_icmp_ge C 126 dX6_bestRehang_24 (by decide) (fun h24 => ?_) (fun h24 => ?_)
    · refine r_iload_n C 1 dX6_bestRehang_126 rfl ?_
      exact r_reti (x := x1) (rv := (fun u => some (.int u.1))) (hpE := (fun u => w_X6 u.2)) (t0 := (x1, M')) C dX6_bestRehang_127 (by rfl) (by rfl) (by rfl)
    · refine r_iload_n C 2 dX6_bestRehang_27 rfl ?_
      refine r_iconst C (1) dX6_bestRehang_28 rfl ?_
      refine r_iadd C dX6_bestRehang_29 ?_
      refine r_istore_n C [(3, .int (x2 + (1 : Int32))), (0, .ref 50), (1, .int x1), (2, .int x2)] dX6_bestRehang_30 (Nat.le_of_ble_eq_true rfl) rfl ?_
      refine r_lv [(0, .ref 50), (1, .int x1), (2, .int x2), (3, .int (x2 + (1 : Int32)))] [1, 2, 3, 0] rfl ?_
      exact k_X6_bestRehang_31 C M (fun x1 x2 M' => f_X6_bestRehang_17 M  n x1 x2 M') ih q_N x1 x2 (x2 + (1 : Int32)) M'
set_option maxRecDepth 100000 in
set_option maxHeartbeats 4000000 in
theorem o_X6_bestRehang (l : Launch) (M : q_St) : q_Ok l yX6_bestRehang cX6_bestRehang 6 (some .int) 6 136 [.ref 50] (w_X6 M) (f_X6_bestRehang M) (fun u => some (.int u.1)) (fun u => w_X6 u.2) := by
  refine q_enter (by decide +kernel) (Nat.le_of_ble_eq_true rfl) (fun t p e s m args below meth c dC dI dA A α C => ?_)
  refine r_cut (f_X6_bestRehang.eq_1 _) ?_
  show q_S p l e (q_rm 6 136) s m args below meth c 6 dC dI dA A α (MQ below (q_Q α dC dI dA A ((fun u => some (.int u.1)) t) ((fun u => w_X6 u.2) t)) args s 0 0 A) 0 0 _ t 0 [(0, .ref 50)] [] (w_X6 M)
  refine r_iconst C (0) dX6_bestRehang_0 rfl ?_
  refine r_istore_n C [(1, .int (0 : Int32)), (0, .ref 50)] dX6_bestRehang_1 (Nat.le_of_ble_eq_true rfl) rfl ?_
  refine r_aload_n C 1 dX6_bestRehang_2 rfl ?_
  refine r_aload_n C 1 dX6_bestRehang_3 rfl ?_
  refine r_aload_n C 1 dX6_bestRehang_4 rfl ?_
  refine r_callV0 C (o_X6_allBeats l M) v_X6_allBeats m_1167 [] [.ref 50, .ref 50] (50) (Or.inl ⟨0, 5, _, TX6, 25, rfl, rfl, rfl⟩) (fun u1 => [.int u1, .ref 50, .ref 50]) (fun u1 => [.inr (5, [.ref 51, .ref 52, .ref 53, .int (M.1 3), .ref 54, .ref 55, .ref 56, .int (M.1 7), .ref 57, .ref 58, .int (M.1 10), .int (M.1 11), .int (M.1 12), .int (M.1 13), .int (M.1 14), .int (M.1 15), .ref 59, .ref 60, .int (M.1 18), .int (M.1 19), .int (M.1 20), .ref 61, .ref 62, .ref 63, .ref 64]), .inl (0, 68, .inl (M.2 0)), .inl (0, 68, .inl (M.2 1)), .inl (0, 68, .inl (M.2 2)), .inl (0, 8, .inl (M.2 4)), .inl (0, 1053, .inl (M.2 5)), .inl (1, 972, .inl (M.2 6)), .inl (0, 1053, .inl (M.2 8)), .inl (0, 120, .inl (M.2 9)), .inl (3, 7, .inr (.inr (.inr (.inr q_kf)))), .inl (0, 360, .inl (M.2 17)), .inl (0, 4, .inl (M.2 21)), .inl (0, 4, .inl (M.2 22)), .inl (0, 160, .inl (M.2 23)), .inl (0, 40, .inl (M.2 24))]) rfl rfl rfl (Nat.le_of_ble_eq_true rfl) ⟨(Nat.le_of_ble_eq_true rfl), (Nat.le_of_ble_eq_true rfl)⟩ ⟨Nat.zero_le _, Nat.zero_le _⟩ dX6_bestRehang_5 (fun _ => rfl) (fun _ => rfl) (fun _ => rfl) (fun u1 => ?_)
  refine r_iconst C (1) dX6_bestRehang_8 rfl ?_
  refine r_callV0 C (o_X6_findWay l M u1 (1 : Int32)) v_X6_findWay m_1171 [.int u1, .int (1 : Int32)] [.ref 50] (50) (Or.inl ⟨0, 5, _, TX6, 25, rfl, rfl, rfl⟩) (fun u2 => [.int u2.1, .ref 50]) (fun u2 => [.inr (5, [.ref 51, .ref 52, .ref 53, .int (u2.2.1 3), .ref 54, .ref 55, .ref 56, .int (u2.2.1 7), .ref 57, .ref 58, .int (u2.2.1 10), .int (u2.2.1 11), .int (u2.2.1 12), .int (u2.2.1 13), .int (u2.2.1 14), .int (u2.2.1 15), .ref 59, .ref 60, .int (u2.2.1 18), .int (u2.2.1 19), .int (u2.2.1 20), .ref 61, .ref 62, .ref 63, .ref 64]), .inl (0, 68, .inl (u2.2.2 0)), .inl (0, 68, .inl (u2.2.2 1)), .inl (0, 68, .inl (u2.2.2 2)), .inl (0, 8, .inl (u2.2.2 4)), .inl (0, 1053, .inl (u2.2.2 5)), .inl (1, 972, .inl (u2.2.2 6)), .inl (0, 1053, .inl (u2.2.2 8)), .inl (0, 120, .inl (u2.2.2 9)), .inl (3, 7, .inr (.inr (.inr (.inr q_kf)))), .inl (0, 360, .inl (u2.2.2 17)), .inl (0, 4, .inl (u2.2.2 21)), .inl (0, 4, .inl (u2.2.2 22)), .inl (0, 160, .inl (u2.2.2 23)), .inl (0, 40, .inl (u2.2.2 24))]) rfl rfl rfl (Nat.le_of_ble_eq_true rfl) ⟨(Nat.le_of_ble_eq_true rfl), (Nat.le_of_ble_eq_true rfl)⟩ ⟨Nat.zero_le _, Nat.zero_le _⟩ dX6_bestRehang_9 (fun _ => rfl) (fun _ => rfl) (fun _ => rfl) (fun u2 => ?_)
  refine r_put C 0 7 _ dX6_bestRehang_12 K_X6 rfl rfl (Nat.le_of_ble_eq_true rfl) rfl m_922 rfl (fun _ => rfl) (fun _ => rfl) (Nat.le_of_ble_eq_true rfl) rfl ?_
  refine r_iconst C (0) dX6_bestRehang_15 rfl ?_
  refine r_istore_n C [(2, .int (0 : Int32)), (1, .int (0 : Int32)), (0, .ref 50)] dX6_bestRehang_16 (Nat.le_of_ble_eq_true rfl) rfl ?_
  refine r_lv [(0, .ref 50), (1, .int (0 : Int32)), (2, .int (0 : Int32))] [2, 1, 0] rfl ?_
  exact k_X6_bestRehang_17 C M   q_N (0 : Int32) (0 : Int32) ((va_up u2.2.1 7 u2.1), u2.2.2)
set_option maxRecDepth 100000 in
set_option maxHeartbeats 4000000 in
theorem o_X6_rehang (l : Launch) (M : q_St) : q_Ok l yX6_rehang cX6_rehang 1 (some .int) 7 161 [.ref 50] (w_X6 M) (f_X6_rehang M) (fun u => some (.int u.1)) (fun u => w_X6 u.2) := by
  refine q_enter (by decide +kernel) (Nat.le_of_ble_eq_true rfl) (fun t p e s m args below meth c dC dI dA A α C => ?_)
  refine r_cut (f_X6_rehang.eq_1 _) ?_
  show q_S p l e (q_rm 7 161) s m args below meth c 1 dC dI dA A α (MQ below (q_Q α dC dI dA A ((fun u => some (.int u.1)) t) ((fun u => w_X6 u.2) t)) args s 0 0 A) 0 0 _ t 0 [(0, .ref 50)] [] (w_X6 M)
  refine r_aload_n C 0 dX6_rehang_0 rfl ?_
  refine r_callV0 C (o_X6_doesGo l M) v_X6_doesGo m_1163 [] [] (50) (Or.inl ⟨0, 5, _, TX6, 25, rfl, rfl, rfl⟩) (fun u1 => [.int u1]) (fun u1 => [.inr (5, [.ref 51, .ref 52, .ref 53, .int (M.1 3), .ref 54, .ref 55, .ref 56, .int (M.1 7), .ref 57, .ref 58, .int (M.1 10), .int (M.1 11), .int (M.1 12), .int (M.1 13), .int (M.1 14), .int (M.1 15), .ref 59, .ref 60, .int (M.1 18), .int (M.1 19), .int (M.1 20), .ref 61, .ref 62, .ref 63, .ref 64]), .inl (0, 68, .inl (M.2 0)), .inl (0, 68, .inl (M.2 1)), .inl (0, 68, .inl (M.2 2)), .inl (0, 8, .inl (M.2 4)), .inl (0, 1053, .inl (M.2 5)), .inl (1, 972, .inl (M.2 6)), .inl (0, 1053, .inl (M.2 8)), .inl (0, 120, .inl (M.2 9)), .inl (3, 7, .inr (.inr (.inr (.inr q_kf)))), .inl (0, 360, .inl (M.2 17)), .inl (0, 4, .inl (M.2 21)), .inl (0, 4, .inl (M.2 22)), .inl (0, 160, .inl (M.2 23)), .inl (0, 40, .inl (M.2 24))]) rfl rfl rfl (Nat.le_of_ble_eq_true rfl) ⟨(Nat.le_of_ble_eq_true rfl), (Nat.le_of_ble_eq_true rfl)⟩ ⟨Nat.zero_le _, Nat.zero_le _⟩ dX6_rehang_1 (fun _ => rfl) (fun _ => rfl) (fun _ => rfl) (fun u1 => ?_)
  refine r_if_eq C 14 dX6_rehang_4 (by decide) (fun h4 => ?_) (fun h4 => ?_)
  · refine r_aload_n C 0 dX6_rehang_14 rfl ?_
    refine r_ldc C (-1000005) dX6_rehang_15 m_1131 ?_
    refine r_callV0 C (o_X6_finding l M (-1000005 : Int32)) v_X6_finding m_1003 [.int (-1000005 : Int32)] [] (50) (Or.inl ⟨0, 5, _, TX6, 25, rfl, rfl, rfl⟩) (fun u2 => [.int u2.1]) (fun u2 => [.inr (5, [.ref 51, .ref 52, .ref 53, .int (u2.2.1 3), .ref 54, .ref 55, .ref 56, .int (u2.2.1 7), .ref 57, .ref 58, .int (u2.2.1 10), .int (u2.2.1 11), .int (u2.2.1 12), .int (u2.2.1 13), .int (u2.2.1 14), .int (u2.2.1 15), .ref 59, .ref 60, .int (u2.2.1 18), .int (u2.2.1 19), .int (u2.2.1 20), .ref 61, .ref 62, .ref 63, .ref 64]), .inl (0, 68, .inl (u2.2.2 0)), .inl (0, 68, .inl (u2.2.2 1)), .inl (0, 68, .inl (u2.2.2 2)), .inl (0, 8, .inl (u2.2.2 4)), .inl (0, 1053, .inl (u2.2.2 5)), .inl (1, 972, .inl (u2.2.2 6)), .inl (0, 1053, .inl (u2.2.2 8)), .inl (0, 120, .inl (u2.2.2 9)), .inl (3, 7, .inr (.inr (.inr (.inr q_kf)))), .inl (0, 360, .inl (u2.2.2 17)), .inl (0, 4, .inl (u2.2.2 21)), .inl (0, 4, .inl (u2.2.2 22)), .inl (0, 160, .inl (u2.2.2 23)), .inl (0, 40, .inl (u2.2.2 24))]) rfl rfl rfl (Nat.le_of_ble_eq_true rfl) ⟨(Nat.le_of_ble_eq_true rfl), (Nat.le_of_ble_eq_true rfl)⟩ ⟨Nat.zero_le _, Nat.zero_le _⟩ dX6_rehang_17 (fun _ => rfl) (fun _ => rfl) (fun _ => rfl) (fun u2 => ?_)
    exact r_reti (x := u2.1) (rv := (fun u => some (.int u.1))) (hpE := (fun u => w_X6 u.2)) (t0 := (u2.1, u2.2)) C dX6_rehang_20 (by rfl) (by rfl) (by rfl)
  · refine r_aload_n C 0 dX6_rehang_7 rfl ?_
    refine r_callV0 C (o_X6_bestRehang l M) v_X6_bestRehang m_1216 [] [] (50) (Or.inl ⟨0, 5, _, TX6, 25, rfl, rfl, rfl⟩) (fun u3 => [.int u3.1]) (fun u3 => [.inr (5, [.ref 51, .ref 52, .ref 53, .int (u3.2.1 3), .ref 54, .ref 55, .ref 56, .int (u3.2.1 7), .ref 57, .ref 58, .int (u3.2.1 10), .int (u3.2.1 11), .int (u3.2.1 12), .int (u3.2.1 13), .int (u3.2.1 14), .int (u3.2.1 15), .ref 59, .ref 60, .int (u3.2.1 18), .int (u3.2.1 19), .int (u3.2.1 20), .ref 61, .ref 62, .ref 63, .ref 64]), .inl (0, 68, .inl (u3.2.2 0)), .inl (0, 68, .inl (u3.2.2 1)), .inl (0, 68, .inl (u3.2.2 2)), .inl (0, 8, .inl (u3.2.2 4)), .inl (0, 1053, .inl (u3.2.2 5)), .inl (1, 972, .inl (u3.2.2 6)), .inl (0, 1053, .inl (u3.2.2 8)), .inl (0, 120, .inl (u3.2.2 9)), .inl (3, 7, .inr (.inr (.inr (.inr q_kf)))), .inl (0, 360, .inl (u3.2.2 17)), .inl (0, 4, .inl (u3.2.2 21)), .inl (0, 4, .inl (u3.2.2 22)), .inl (0, 160, .inl (u3.2.2 23)), .inl (0, 40, .inl (u3.2.2 24))]) rfl rfl rfl (Nat.le_of_ble_eq_true rfl) ⟨(Nat.le_of_ble_eq_true rfl), (Nat.le_of_ble_eq_true rfl)⟩ ⟨Nat.zero_le _, Nat.zero_le _⟩ dX6_rehang_8 (fun _ => rfl) (fun _ => rfl) (fun _ => rfl) (fun u3 => ?_)
    refine r_goto C 20 dX6_rehang_11 (by decide) ?_
    exact r_reti (x := u3.1) (rv := (fun u => some (.int u.1))) (hpE := (fun u => w_X6 u.2)) (t0 := (u3.1, u3.2)) C dX6_rehang_20 (by rfl) (by rfl) (by rfl)
set_option maxRecDepth 100000 in
set_option maxHeartbeats 4000000 in
theorem o_X6_rehung (l : Launch) (M : q_St) : q_Ok l yX6_rehung cX6_rehung 2 (some .int) 7 161 [.ref 50] (w_X6 M) (f_X6_rehung M) (fun u => some (.int u.1)) (fun u => w_X6 u.2) := by
  refine q_enter (by decide +kernel) (Nat.le_of_ble_eq_true rfl) (fun t p e s m args below meth c dC dI dA A α C => ?_)
  refine r_cut (f_X6_rehung.eq_1 _) ?_
  show q_S p l e (q_rm 7 161) s m args below meth c 2 dC dI dA A α (MQ below (q_Q α dC dI dA A ((fun u => some (.int u.1)) t) ((fun u => w_X6 u.2) t)) args s 0 0 A) 0 0 _ t 0 [(0, .ref 50)] [] (w_X6 M)
  refine r_aload_n C 0 dX6_rehung_0 rfl ?_
  refine r_callV0 C (o_X6_doesGo l M) v_X6_doesGo m_1163 [] [] (50) (Or.inl ⟨0, 5, _, TX6, 25, rfl, rfl, rfl⟩) (fun u1 => [.int u1]) (fun u1 => [.inr (5, [.ref 51, .ref 52, .ref 53, .int (M.1 3), .ref 54, .ref 55, .ref 56, .int (M.1 7), .ref 57, .ref 58, .int (M.1 10), .int (M.1 11), .int (M.1 12), .int (M.1 13), .int (M.1 14), .int (M.1 15), .ref 59, .ref 60, .int (M.1 18), .int (M.1 19), .int (M.1 20), .ref 61, .ref 62, .ref 63, .ref 64]), .inl (0, 68, .inl (M.2 0)), .inl (0, 68, .inl (M.2 1)), .inl (0, 68, .inl (M.2 2)), .inl (0, 8, .inl (M.2 4)), .inl (0, 1053, .inl (M.2 5)), .inl (1, 972, .inl (M.2 6)), .inl (0, 1053, .inl (M.2 8)), .inl (0, 120, .inl (M.2 9)), .inl (3, 7, .inr (.inr (.inr (.inr q_kf)))), .inl (0, 360, .inl (M.2 17)), .inl (0, 4, .inl (M.2 21)), .inl (0, 4, .inl (M.2 22)), .inl (0, 160, .inl (M.2 23)), .inl (0, 40, .inl (M.2 24))]) rfl rfl rfl (Nat.le_of_ble_eq_true rfl) ⟨(Nat.le_of_ble_eq_true rfl), (Nat.le_of_ble_eq_true rfl)⟩ ⟨Nat.zero_le _, Nat.zero_le _⟩ dX6_rehung_1 (fun _ => rfl) (fun _ => rfl) (fun _ => rfl) (fun u1 => ?_)
  refine r_if_ne C 14 dX6_rehung_4 (by decide) (fun h4 => ?_) (fun h4 => ?_)
  · refine r_aload_n C 0 dX6_rehung_7 rfl ?_
    refine r_ldc C (-1000005) dX6_rehung_8 m_1131 ?_
    refine r_callV0 C (o_X6_finding l M (-1000005 : Int32)) v_X6_finding m_1003 [.int (-1000005 : Int32)] [] (50) (Or.inl ⟨0, 5, _, TX6, 25, rfl, rfl, rfl⟩) (fun u3 => [.int u3.1]) (fun u3 => [.inr (5, [.ref 51, .ref 52, .ref 53, .int (u3.2.1 3), .ref 54, .ref 55, .ref 56, .int (u3.2.1 7), .ref 57, .ref 58, .int (u3.2.1 10), .int (u3.2.1 11), .int (u3.2.1 12), .int (u3.2.1 13), .int (u3.2.1 14), .int (u3.2.1 15), .ref 59, .ref 60, .int (u3.2.1 18), .int (u3.2.1 19), .int (u3.2.1 20), .ref 61, .ref 62, .ref 63, .ref 64]), .inl (0, 68, .inl (u3.2.2 0)), .inl (0, 68, .inl (u3.2.2 1)), .inl (0, 68, .inl (u3.2.2 2)), .inl (0, 8, .inl (u3.2.2 4)), .inl (0, 1053, .inl (u3.2.2 5)), .inl (1, 972, .inl (u3.2.2 6)), .inl (0, 1053, .inl (u3.2.2 8)), .inl (0, 120, .inl (u3.2.2 9)), .inl (3, 7, .inr (.inr (.inr (.inr q_kf)))), .inl (0, 360, .inl (u3.2.2 17)), .inl (0, 4, .inl (u3.2.2 21)), .inl (0, 4, .inl (u3.2.2 22)), .inl (0, 160, .inl (u3.2.2 23)), .inl (0, 40, .inl (u3.2.2 24))]) rfl rfl rfl (Nat.le_of_ble_eq_true rfl) ⟨(Nat.le_of_ble_eq_true rfl), (Nat.le_of_ble_eq_true rfl)⟩ ⟨Nat.zero_le _, Nat.zero_le _⟩ dX6_rehung_10 (fun _ => rfl) (fun _ => rfl) (fun _ => rfl) (fun u3 => ?_)
    exact r_reti (x := u3.1) (rv := (fun u => some (.int u.1))) (hpE := (fun u => w_X6 u.2)) (t0 := (u3.1, u3.2)) C dX6_rehung_13 (by rfl) (by rfl) (by rfl)
  · refine r_aload_n C 0 dX6_rehung_14 rfl ?_
    refine r_callV0 C (o_X6_bestRehang l M) v_X6_bestRehang m_1216 [] [] (50) (Or.inl ⟨0, 5, _, TX6, 25, rfl, rfl, rfl⟩) (fun u2 => [.int u2.1]) (fun u2 => [.inr (5, [.ref 51, .ref 52, .ref 53, .int (u2.2.1 3), .ref 54, .ref 55, .ref 56, .int (u2.2.1 7), .ref 57, .ref 58, .int (u2.2.1 10), .int (u2.2.1 11), .int (u2.2.1 12), .int (u2.2.1 13), .int (u2.2.1 14), .int (u2.2.1 15), .ref 59, .ref 60, .int (u2.2.1 18), .int (u2.2.1 19), .int (u2.2.1 20), .ref 61, .ref 62, .ref 63, .ref 64]), .inl (0, 68, .inl (u2.2.2 0)), .inl (0, 68, .inl (u2.2.2 1)), .inl (0, 68, .inl (u2.2.2 2)), .inl (0, 8, .inl (u2.2.2 4)), .inl (0, 1053, .inl (u2.2.2 5)), .inl (1, 972, .inl (u2.2.2 6)), .inl (0, 1053, .inl (u2.2.2 8)), .inl (0, 120, .inl (u2.2.2 9)), .inl (3, 7, .inr (.inr (.inr (.inr q_kf)))), .inl (0, 360, .inl (u2.2.2 17)), .inl (0, 4, .inl (u2.2.2 21)), .inl (0, 4, .inl (u2.2.2 22)), .inl (0, 160, .inl (u2.2.2 23)), .inl (0, 40, .inl (u2.2.2 24))]) rfl rfl rfl (Nat.le_of_ble_eq_true rfl) ⟨(Nat.le_of_ble_eq_true rfl), (Nat.le_of_ble_eq_true rfl)⟩ ⟨Nat.zero_le _, Nat.zero_le _⟩ dX6_rehung_15 (fun _ => rfl) (fun _ => rfl) (fun _ => rfl) (fun u2 => ?_)
    refine r_istore_n C [(1, .int u2.1), (0, .ref 50)] dX6_rehung_18 (Nat.le_of_ble_eq_true rfl) rfl ?_
    refine r_iload_n C 0 dX6_rehung_19 rfl ?_
    refine r_if_ge C 28 dX6_rehung_20 (by decide) (fun h20 => ?_) (fun h20 => ?_)
    · refine r_aload_n C 1 dX6_rehung_28 rfl ?_
      refine r_get C 0 7 dX6_rehung_29 K_X6 rfl rfl (Nat.le_of_ble_eq_true rfl) rfl m_922 rfl ?_
      exact r_reti (x := u2.2.1 7) (rv := (fun u => some (.int u.1))) (hpE := (fun u => w_X6 u.2)) (t0 := (u2.2.1 7, u2.2)) C dX6_rehung_32 (by rfl) (by rfl) (by rfl)
    · refine r_ldc C (1000000) dX6_rehung_23 m_1185 ?_
      refine r_goto C 32 dX6_rehung_25 (by decide) ?_
      exact r_reti (x := (1000000 : Int32)) (rv := (fun u => some (.int u.1))) (hpE := (fun u => w_X6 u.2)) (t0 := ((1000000 : Int32), u2.2)) C dX6_rehung_32 (by rfl) (by rfl) (by rfl)
set_option maxRecDepth 100000 in
set_option maxHeartbeats 4000000 in
theorem k_X6_kindFor_33 {p : Program} {l : Launch} {e : Env} {s : State} {m : MethodId} {args : Array Value} {below : List Frame} {meth : Method} {c : Code} {dC : Nat → ClassId} {dI : Nat → Nat → Nat} {dA : Nat → ClassId} {A : Nat → Prop} {α : Nat → Nat} {t : Int32 × q_St} (C : q_Cx p s m args meth c cX6_kindFor 9 RX6 (some .int) "kindFor" dC dI dA A α) (M : q_St) (a1 : Int32)  : ∀ (n : Nat) (x1 : Int32) (x2 : Int32) (x3 : Int32) (x4 : Int32) (x5 : Int32) (x6 : Int32) (M' : q_St), q_S p l e (q_rm 6 136) s m args below meth c 9 dC dI dA A α (MQ below (q_Q α dC dI dA A ((fun u => some (.int u.1)) t) ((fun u => w_X6 u.2) t)) args s 0 0 A) 0 0 (f_X6_kindFor_33 M a1  n x1 x2 x3 x4 x5 x6 M') t 33 [(0, .ref 50), (1, .int x1), (2, .int x2), (3, .int x3), (4, .int x4), (5, .int x5), (6, .int x6)] [] (w_X6 M') := by
  intro n
  induction n with
  | zero =>
    intro x1 x2 x3 x4 x5 x6 M'
    exact r_cut (f_X6_kindFor_33.eq_1 _ _ _ _ _ _ _ _ _) (r_none True.intro)
  | succ n ih =>
    intro x1 x2 x3 x4 x5 x6 M'
    refine r_cut (f_X6_kindFor_33.eq_2 _ _ _ _ _ _ _ _ _ _) ?_
    refine r_iload C 6 dX6_kindFor_33 rfl ?_
    refine r_bipush C (6) dX6_kindFor_35 rfl ?_
    refine r_icmp_gt C 121 dX6_kindFor_37 (by decide) (fun h37 => ?_) (fun h37 => ?_)
    · refine r_aload_n C 0 dX6_kindFor_121 rfl ?_
      refine r_get C 0 0 dX6_kindFor_122 K_X6 rfl rfl (Nat.le_of_ble_eq_true rfl) rfl m_915 rfl ?_
      refine r_iload_n C 1 dX6_kindFor_125 rfl ?_
      refine r_iconst C (0) dX6_kindFor_126 rfl ?_
      refine r_callS C (o_X6_at l x1 (0 : Int32)) v_X6_at m_1012 [] [.int x1, .int (0 : Int32)] [.ref 51] (fun u4 => [.int u4, .ref 51]) (fun u4 => [.inr (5, [.ref 51, .ref 52, .ref 53, .int (M'.1 3), .ref 54, .ref 55, .ref 56, .int (M'.1 7), .ref 57, .ref 58, .int (M'.1 10), .int (M'.1 11), .int (M'.1 12), .int (M'.1 13), .int (M'.1 14), .int (M'.1 15), .ref 59, .ref 60, .int (M'.1 18), .int (M'.1 19), .int (M'.1 20), .ref 61, .ref 62, .ref 63, .ref 64]), .inl (0, 68, .inl (M'.2 0)), .inl (0, 68, .inl (M'.2 1)), .inl (0, 68, .inl (M'.2 2)), .inl (0, 8, .inl (M'.2 4)), .inl (0, 1053, .inl (M'.2 5)), .inl (1, 972, .inl (M'.2 6)), .inl (0, 1053, .inl (M'.2 8)), .inl (0, 120, .inl (M'.2 9)), .inl (3, 7, .inr (.inr (.inr (.inr q_kf)))), .inl (0, 360, .inl (M'.2 17)), .inl (0, 4, .inl (M'.2 21)), .inl (0, 4, .inl (M'.2 22)), .inl (0, 160, .inl (M'.2 23)), .inl (0, 40, .inl (M'.2 24))]) rfl rfl rfl rfl rfl (Nat.le_of_ble_eq_true rfl) ⟨(Nat.le_of_ble_eq_true rfl), (Nat.le_of_ble_eq_true rfl)⟩ ⟨Nat.zero_le _, Nat.zero_le _⟩ dX6_kindFor_127 (fun _ => rfl) (fun _ => rfl) (fun _ => rfl) (fun u4 => ?_)
      refine r_iload_n C 2 dX6_kindFor_130 rfl ?_
      refine r_iast C 1 _ dX6_kindFor_131 rfl rfl rfl (fun hi131 => ?_)
      refine r_iload_n C 3 dX6_kindFor_132 rfl ?_
      exact r_reti (x := x3) (rv := (fun u => some (.int u.1))) (hpE := (fun u => w_X6 u.2)) (t0 := (x3, (M'.1, (va_up M'.2 0 (upd (M'.2 0) u4.toNatClampNeg x2))))) C dX6_kindFor_133 (by rfl) (by rfl) (by rfl)
    · refine r_aload_n C 0 dX6_kindFor_40 rfl ?_
      refine r_get C 0 0 dX6_kindFor_41 K_X6 rfl rfl (Nat.le_of_ble_eq_true rfl) rfl m_915 rfl ?_
      refine r_iload_n C 1 dX6_kindFor_44 rfl ?_
      refine r_iconst C (0) dX6_kindFor_45 rfl ?_
      refine r_callS C (o_X6_at l x1 (0 : Int32)) v_X6_at m_1012 [] [.int x1, .int (0 : Int32)] [.ref 51] (fun u5 => [.int u5, .ref 51]) (fun u5 => [.inr (5, [.ref 51, .ref 52, .ref 53, .int (M'.1 3), .ref 54, .ref 55, .ref 56, .int (M'.1 7), .ref 57, .ref 58, .int (M'.1 10), .int (M'.1 11), .int (M'.1 12), .int (M'.1 13), .int (M'.1 14), .int (M'.1 15), .ref 59, .ref 60, .int (M'.1 18), .int (M'.1 19), .int (M'.1 20), .ref 61, .ref 62, .ref 63, .ref 64]), .inl (0, 68, .inl (M'.2 0)), .inl (0, 68, .inl (M'.2 1)), .inl (0, 68, .inl (M'.2 2)), .inl (0, 8, .inl (M'.2 4)), .inl (0, 1053, .inl (M'.2 5)), .inl (1, 972, .inl (M'.2 6)), .inl (0, 1053, .inl (M'.2 8)), .inl (0, 120, .inl (M'.2 9)), .inl (3, 7, .inr (.inr (.inr (.inr q_kf)))), .inl (0, 360, .inl (M'.2 17)), .inl (0, 4, .inl (M'.2 21)), .inl (0, 4, .inl (M'.2 22)), .inl (0, 160, .inl (M'.2 23)), .inl (0, 40, .inl (M'.2 24))]) rfl rfl rfl rfl rfl (Nat.le_of_ble_eq_true rfl) ⟨(Nat.le_of_ble_eq_true rfl), (Nat.le_of_ble_eq_true rfl)⟩ ⟨Nat.zero_le _, Nat.zero_le _⟩ dX6_kindFor_46 (fun _ => rfl) (fun _ => rfl) (fun _ => rfl) (fun u5 => ?_)
      refine r_iload C 6 dX6_kindFor_49 rfl ?_
      refine r_iast C 1 _ dX6_kindFor_51 rfl rfl rfl (fun hi51 => ?_)
      refine r_aload_n C 0 dX6_kindFor_52 rfl ?_
      refine r_callV0 C (o_X6_allBeats l (M'.1, (va_up M'.2 0 (upd (M'.2 0) u5.toNatClampNeg x6)))) v_X6_allBeats m_1167 [] [] (50) (Or.inl ⟨0, 5, _, TX6, 25, rfl, rfl, rfl⟩) (fun u6 => [.int u6]) (fun u6 => [.inr (5, [.ref 51, .ref 52, .ref 53, .int (M'.1 3), .ref 54, .ref 55, .ref 56, .int (M'.1 7), .ref 57, .ref 58, .int (M'.1 10), .int (M'.1 11), .int (M'.1 12), .int (M'.1 13), .int (M'.1 14), .int (M'.1 15), .ref 59, .ref 60, .int (M'.1 18), .int (M'.1 19), .int (M'.1 20), .ref 61, .ref 62, .ref 63, .ref 64]), .inl (0, 68, .inl ((upd (M'.2 0) u5.toNatClampNeg x6))), .inl (0, 68, .inl (M'.2 1)), .inl (0, 68, .inl (M'.2 2)), .inl (0, 8, .inl (M'.2 4)), .inl (0, 1053, .inl (M'.2 5)), .inl (1, 972, .inl (M'.2 6)), .inl (0, 1053, .inl (M'.2 8)), .inl (0, 120, .inl (M'.2 9)), .inl (3, 7, .inr (.inr (.inr (.inr q_kf)))), .inl (0, 360, .inl (M'.2 17)), .inl (0, 4, .inl (M'.2 21)), .inl (0, 4, .inl (M'.2 22)), .inl (0, 160, .inl (M'.2 23)), .inl (0, 40, .inl (M'.2 24))]) rfl rfl rfl (Nat.le_of_ble_eq_true rfl) ⟨(Nat.le_of_ble_eq_true rfl), (Nat.le_of_ble_eq_true rfl)⟩ ⟨Nat.zero_le _, Nat.zero_le _⟩ dX6_kindFor_53 (fun _ => rfl) (fun _ => rfl) (fun _ => rfl) (fun u6 => ?_)
      refine r_aload_n C 0 dX6_kindFor_56 rfl ?_
      refine r_callV0 C (o_X6_wrongBeats l (M'.1, (va_up M'.2 0 (upd (M'.2 0) u5.toNatClampNeg x6)))) v_X6_wrongBeats m_1116 [] [.int u6] (50) (Or.inl ⟨0, 5, _, TX6, 25, rfl, rfl, rfl⟩) (fun u7 => [.int u7, .int u6]) (fun u7 => [.inr (5, [.ref 51, .ref 52, .ref 53, .int (M'.1 3), .ref 54, .ref 55, .ref 56, .int (M'.1 7), .ref 57, .ref 58, .int (M'.1 10), .int (M'.1 11), .int (M'.1 12), .int (M'.1 13), .int (M'.1 14), .int (M'.1 15), .ref 59, .ref 60, .int (M'.1 18), .int (M'.1 19), .int (M'.1 20), .ref 61, .ref 62, .ref 63, .ref 64]), .inl (0, 68, .inl ((upd (M'.2 0) u5.toNatClampNeg x6))), .inl (0, 68, .inl (M'.2 1)), .inl (0, 68, .inl (M'.2 2)), .inl (0, 8, .inl (M'.2 4)), .inl (0, 1053, .inl (M'.2 5)), .inl (1, 972, .inl (M'.2 6)), .inl (0, 1053, .inl (M'.2 8)), .inl (0, 120, .inl (M'.2 9)), .inl (3, 7, .inr (.inr (.inr (.inr q_kf)))), .inl (0, 360, .inl (M'.2 17)), .inl (0, 4, .inl (M'.2 21)), .inl (0, 4, .inl (M'.2 22)), .inl (0, 160, .inl (M'.2 23)), .inl (0, 40, .inl (M'.2 24))]) rfl rfl rfl (Nat.le_of_ble_eq_true rfl) ⟨(Nat.le_of_ble_eq_true rfl), (Nat.le_of_ble_eq_true rfl)⟩ ⟨Nat.zero_le _, Nat.zero_le _⟩ dX6_kindFor_57 (fun _ => rfl) (fun _ => rfl) (fun _ => rfl) (fun u7 => ?_)
      refine r_iconst C (-1) dX6_kindFor_60 rfl ?_
      refine r_ixor C dX6_kindFor_61 ?_
      refine r_iand C dX6_kindFor_62 ?_
      refine r_istore C [(7, .int (u6 &&& (u7 ^^^ (-1 : Int32)))), (0, .ref 50), (1, .int x1), (2, .int x2), (3, .int x3), (4, .int x4), (5, .int x5), (6, .int x6)] dX6_kindFor_63 (Nat.le_of_ble_eq_true rfl) rfl ?_
      refine r_aload_n C 1 dX6_kindFor_65 rfl ?_
      refine r_iload C 0 dX6_kindFor_66 rfl ?_
      refine r_iconst C (0) dX6_kindFor_68 rfl ?_
      refine r_callV0 C (o_X6_findWay l (M'.1, (va_up M'.2 0 (upd (M'.2 0) u5.toNatClampNeg x6))) (u6 &&& (u7 ^^^ (-1 : Int32))) (0 : Int32)) v_X6_findWay m_1171 [.int (u6 &&& (u7 ^^^ (-1 : Int32))), .int (0 : Int32)] [] (50) (Or.inl ⟨0, 5, _, TX6, 25, rfl, rfl, rfl⟩) (fun u8 => [.int u8.1]) (fun u8 => [.inr (5, [.ref 51, .ref 52, .ref 53, .int (u8.2.1 3), .ref 54, .ref 55, .ref 56, .int (u8.2.1 7), .ref 57, .ref 58, .int (u8.2.1 10), .int (u8.2.1 11), .int (u8.2.1 12), .int (u8.2.1 13), .int (u8.2.1 14), .int (u8.2.1 15), .ref 59, .ref 60, .int (u8.2.1 18), .int (u8.2.1 19), .int (u8.2.1 20), .ref 61, .ref 62, .ref 63, .ref 64]), .inl (0, 68, .inl (u8.2.2 0)), .inl (0, 68, .inl (u8.2.2 1)), .inl (0, 68, .inl (u8.2.2 2)), .inl (0, 8, .inl (u8.2.2 4)), .inl (0, 1053, .inl (u8.2.2 5)), .inl (1, 972, .inl (u8.2.2 6)), .inl (0, 1053, .inl (u8.2.2 8)), .inl (0, 120, .inl (u8.2.2 9)), .inl (3, 7, .inr (.inr (.inr (.inr q_kf)))), .inl (0, 360, .inl (u8.2.2 17)), .inl (0, 4, .inl (u8.2.2 21)), .inl (0, 4, .inl (u8.2.2 22)), .inl (0, 160, .inl (u8.2.2 23)), .inl (0, 40, .inl (u8.2.2 24))]) rfl rfl rfl (Nat.le_of_ble_eq_true rfl) ⟨(Nat.le_of_ble_eq_true rfl), (Nat.le_of_ble_eq_true rfl)⟩ ⟨Nat.zero_le _, Nat.zero_le _⟩ dX6_kindFor_69 (fun _ => rfl) (fun _ => rfl) (fun _ => rfl) (fun u8 => ?_)
      refine r_istore C [(8, .int u8.1), (7, .int (u6 &&& (u7 ^^^ (-1 : Int32)))), (0, .ref 50), (1, .int x1), (2, .int x2), (3, .int x3), (4, .int x4), (5, .int x5), (6, .int x6)] dX6_kindFor_72 (Nat.le_of_ble_eq_true rfl) rfl ?_
      refine r_iload C 1 dX6_kindFor_74 rfl ?_
      refine r_callS C (o_X6_bits l (u6 &&& (u7 ^^^ (-1 : Int32)))) v_X6_bits m_1097 [] [.int (u6 &&& (u7 ^^^ (-1 : Int32)))] [] (fun u9 => [.int u9]) (fun u9 => [.inr (5, [.ref 51, .ref 52, .ref 53, .int (u8.2.1 3), .ref 54, .ref 55, .ref 56, .int (u8.2.1 7), .ref 57, .ref 58, .int (u8.2.1 10), .int (u8.2.1 11), .int (u8.2.1 12), .int (u8.2.1 13), .int (u8.2.1 14), .int (u8.2.1 15), .ref 59, .ref 60, .int (u8.2.1 18), .int (u8.2.1 19), .int (u8.2.1 20), .ref 61, .ref 62, .ref 63, .ref 64]), .inl (0, 68, .inl (u8.2.2 0)), .inl (0, 68, .inl (u8.2.2 1)), .inl (0, 68, .inl (u8.2.2 2)), .inl (0, 8, .inl (u8.2.2 4)), .inl (0, 1053, .inl (u8.2.2 5)), .inl (1, 972, .inl (u8.2.2 6)), .inl (0, 1053, .inl (u8.2.2 8)), .inl (0, 120, .inl (u8.2.2 9)), .inl (3, 7, .inr (.inr (.inr (.inr q_kf)))), .inl (0, 360, .inl (u8.2.2 17)), .inl (0, 4, .inl (u8.2.2 21)), .inl (0, 4, .inl (u8.2.2 22)), .inl (0, 160, .inl (u8.2.2 23)), .inl (0, 40, .inl (u8.2.2 24))]) rfl rfl rfl rfl rfl (Nat.le_of_ble_eq_true rfl) ⟨(Nat.le_of_ble_eq_true rfl), (Nat.le_of_ble_eq_true rfl)⟩ ⟨Nat.zero_le _, Nat.zero_le _⟩ dX6_kindFor_76 (fun _ => rfl) (fun _ => rfl) (fun _ => rfl) (fun u9 => ?_)
      refine r_iload C 6 dX6_kindFor_79 rfl ?_
      refine r_icmp_gt C 101 dX6_kindFor_81 (by decide) (fun h81 => ?_) (fun h81 => ?_)
      · refine r_iload C 8 dX6_kindFor_101 rfl ?_
        refine r_istore_n C [(3, .int x6), (8, .int u8.1), (7, .int (u6 &&& (u7 ^^^ (-1 : Int32)))), (0, .ref 50), (1, .int x1), (2, .int x2), (4, .int x4), (5, .int x5), (6, .int x6)] dX6_kindFor_103 (Nat.le_of_ble_eq_true rfl) rfl ?_
        refine r_iload C 2 dX6_kindFor_104 rfl ?_
        refine r_callS C (o_X6_bits l (u6 &&& (u7 ^^^ (-1 : Int32)))) v_X6_bits m_1097 [] [.int (u6 &&& (u7 ^^^ (-1 : Int32)))] [] (fun u10 => [.int u10]) (fun u10 => [.inr (5, [.ref 51, .ref 52, .ref 53, .int (u8.2.1 3), .ref 54, .ref 55, .ref 56, .int (u8.2.1 7), .ref 57, .ref 58, .int (u8.2.1 10), .int (u8.2.1 11), .int (u8.2.1 12), .int (u8.2.1 13), .int (u8.2.1 14), .int (u8.2.1 15), .ref 59, .ref 60, .int (u8.2.1 18), .int (u8.2.1 19), .int (u8.2.1 20), .ref 61, .ref 62, .ref 63, .ref 64]), .inl (0, 68, .inl (u8.2.2 0)), .inl (0, 68, .inl (u8.2.2 1)), .inl (0, 68, .inl (u8.2.2 2)), .inl (0, 8, .inl (u8.2.2 4)), .inl (0, 1053, .inl (u8.2.2 5)), .inl (1, 972, .inl (u8.2.2 6)), .inl (0, 1053, .inl (u8.2.2 8)), .inl (0, 120, .inl (u8.2.2 9)), .inl (3, 7, .inr (.inr (.inr (.inr q_kf)))), .inl (0, 360, .inl (u8.2.2 17)), .inl (0, 4, .inl (u8.2.2 21)), .inl (0, 4, .inl (u8.2.2 22)), .inl (0, 160, .inl (u8.2.2 23)), .inl (0, 40, .inl (u8.2.2 24))]) rfl rfl rfl rfl rfl (Nat.le_of_ble_eq_true rfl) ⟨(Nat.le_of_ble_eq_true rfl), (Nat.le_of_ble_eq_true rfl)⟩ ⟨Nat.zero_le _, Nat.zero_le _⟩ dX6_kindFor_106 (fun _ => rfl) (fun _ => rfl) (fun _ => rfl) (fun u10 => ?_)
        refine r_istore C [(4, .int u10), (3, .int x6), (8, .int u8.1), (7, .int (u6 &&& (u7 ^^^ (-1 : Int32)))), (0, .ref 50), (1, .int x1), (2, .int x2), (5, .int x5), (6, .int x6)] dX6_kindFor_109 (Nat.le_of_ble_eq_true rfl) rfl ?_
        refine r_iload C 2 dX6_kindFor_111 rfl ?_
        refine r_istore C [(5, .int u8.1), (4, .int u10), (3, .int x6), (8, .int u8.1), (7, .int (u6 &&& (u7 ^^^ (-1 : Int32)))), (0, .ref 50), (1, .int x1), (2, .int x2), (6, .int x6)] dX6_kindFor_113 (Nat.le_of_ble_eq_true rfl) rfl ?_
        refine r_iinc C 8 (x6 + 1) [(6, .int (x6 + 1)), (5, .int u8.1), (4, .int u10), (3, .int x6), (8, .int u8.1), (7, .int (u6 &&& (u7 ^^^ (-1 : Int32)))), (0, .ref 50), (1, .int x1), (2, .int x2)] dX6_kindFor_115 rfl rfl (Nat.le_of_ble_eq_true rfl) rfl ?_
        refine r_goto C 33 dX6_kindFor_118 (by decide) ?_
        refine r_lv [(0, .ref 50), (1, .int x1), (2, .int x2), (3, .int x6), (4, .int u10), (5, .int u8.1), (6, .int (x6 + 1))] [6, 7, 8, 3, 2, 1, 0] rfl ?_
        exact ih x1 x2 x6 u10 u8.1 (x6 + 1) u8.2
      · refine r_iload C 1 dX6_kindFor_84 rfl ?_
        refine r_callS C (o_X6_bits l (u6 &&& (u7 ^^^ (-1 : Int32)))) v_X6_bits m_1097 [] [.int (u6 &&& (u7 ^^^ (-1 : Int32)))] [] (fun u11 => [.int u11]) (fun u11 => [.inr (5, [.ref 51, .ref 52, .ref 53, .int (u8.2.1 3), .ref 54, .ref 55, .ref 56, .int (u8.2.1 7), .ref 57, .ref 58, .int (u8.2.1 10), .int (u8.2.1 11), .int (u8.2.1 12), .int (u8.2.1 13), .int (u8.2.1 14), .int (u8.2.1 15), .ref 59, .ref 60, .int (u8.2.1 18), .int (u8.2.1 19), .int (u8.2.1 20), .ref 61, .ref 62, .ref 63, .ref 64]), .inl (0, 68, .inl (u8.2.2 0)), .inl (0, 68, .inl (u8.2.2 1)), .inl (0, 68, .inl (u8.2.2 2)), .inl (0, 8, .inl (u8.2.2 4)), .inl (0, 1053, .inl (u8.2.2 5)), .inl (1, 972, .inl (u8.2.2 6)), .inl (0, 1053, .inl (u8.2.2 8)), .inl (0, 120, .inl (u8.2.2 9)), .inl (3, 7, .inr (.inr (.inr (.inr q_kf)))), .inl (0, 360, .inl (u8.2.2 17)), .inl (0, 4, .inl (u8.2.2 21)), .inl (0, 4, .inl (u8.2.2 22)), .inl (0, 160, .inl (u8.2.2 23)), .inl (0, 40, .inl (u8.2.2 24))]) rfl rfl rfl rfl rfl (Nat.le_of_ble_eq_true rfl) ⟨(Nat.le_of_ble_eq_true rfl), (Nat.le_of_ble_eq_true rfl)⟩ ⟨Nat.zero_le _, Nat.zero_le _⟩ dX6_kindFor_86 (fun _ => rfl) (fun _ => rfl) (fun _ => rfl) (fun u11 => ?_)
        refine r_iload C 6 dX6_kindFor_89 rfl ?_
        refine r_icmp_ne C 115 dX6_kindFor_91 (by decide) (fun h91 => ?_) (fun h91 => ?_)
        · refine r_iload C 0 dX6_kindFor_94 rfl ?_
          refine r_iload C 7 dX6_kindFor_96 rfl ?_
          refine r_icmp_ge C 115 dX6_kindFor_98 (by decide) (fun h98 => ?_) (fun h98 => ?_)
          · refine r_iinc C 8 (x6 + 1) [(6, .int (x6 + 1)), (8, .int u8.1), (7, .int (u6 &&& (u7 ^^^ (-1 : Int32)))), (0, .ref 50), (1, .int x1), (2, .int x2), (3, .int x3), (4, .int x4), (5, .int x5)] dX6_kindFor_115 rfl rfl (Nat.le_of_ble_eq_true rfl) rfl ?_
            refine r_goto C 33 dX6_kindFor_118 (by decide) ?_
            refine r_lv [(0, .ref 50), (1, .int x1), (2, .int x2), (3, .int x3), (4, .int x4), (5, .int x5), (6, .int (x6 + 1))] [3, 4, 5, 6, 7, 8, 0] rfl ?_
            exact ih x1 x2 x3 x4 x5 (x6 + 1) u8.2
          · refine r_iload C 8 dX6_kindFor_101 rfl ?_
            refine r_istore_n C [(3, .int x6), (8, .int u8.1), (7, .int (u6 &&& (u7 ^^^ (-1 : Int32)))), (0, .ref 50), (1, .int x1), (2, .int x2), (4, .int x4), (5, .int x5), (6, .int x6)] dX6_kindFor_103 (Nat.le_of_ble_eq_true rfl) rfl ?_
            refine r_iload C 2 dX6_kindFor_104 rfl ?_
            refine r_callS C (o_X6_bits l (u6 &&& (u7 ^^^ (-1 : Int32)))) v_X6_bits m_1097 [] [.int (u6 &&& (u7 ^^^ (-1 : Int32)))] [] (fun u12 => [.int u12]) (fun u12 => [.inr (5, [.ref 51, .ref 52, .ref 53, .int (u8.2.1 3), .ref 54, .ref 55, .ref 56, .int (u8.2.1 7), .ref 57, .ref 58, .int (u8.2.1 10), .int (u8.2.1 11), .int (u8.2.1 12), .int (u8.2.1 13), .int (u8.2.1 14), .int (u8.2.1 15), .ref 59, .ref 60, .int (u8.2.1 18), .int (u8.2.1 19), .int (u8.2.1 20), .ref 61, .ref 62, .ref 63, .ref 64]), .inl (0, 68, .inl (u8.2.2 0)), .inl (0, 68, .inl (u8.2.2 1)), .inl (0, 68, .inl (u8.2.2 2)), .inl (0, 8, .inl (u8.2.2 4)), .inl (0, 1053, .inl (u8.2.2 5)), .inl (1, 972, .inl (u8.2.2 6)), .inl (0, 1053, .inl (u8.2.2 8)), .inl (0, 120, .inl (u8.2.2 9)), .inl (3, 7, .inr (.inr (.inr (.inr q_kf)))), .inl (0, 360, .inl (u8.2.2 17)), .inl (0, 4, .inl (u8.2.2 21)), .inl (0, 4, .inl (u8.2.2 22)), .inl (0, 160, .inl (u8.2.2 23)), .inl (0, 40, .inl (u8.2.2 24))]) rfl rfl rfl rfl rfl (Nat.le_of_ble_eq_true rfl) ⟨(Nat.le_of_ble_eq_true rfl), (Nat.le_of_ble_eq_true rfl)⟩ ⟨Nat.zero_le _, Nat.zero_le _⟩ dX6_kindFor_106 (fun _ => rfl) (fun _ => rfl) (fun _ => rfl) (fun u12 => ?_)
            refine r_istore C [(4, .int u12), (3, .int x6), (8, .int u8.1), (7, .int (u6 &&& (u7 ^^^ (-1 : Int32)))), (0, .ref 50), (1, .int x1), (2, .int x2), (5, .int x5), (6, .int x6)] dX6_kindFor_109 (Nat.le_of_ble_eq_true rfl) rfl ?_
            refine r_iload C 2 dX6_kindFor_111 rfl ?_
            refine r_istore C [(5, .int u8.1), (4, .int u12), (3, .int x6), (8, .int u8.1), (7, .int (u6 &&& (u7 ^^^ (-1 : Int32)))), (0, .ref 50), (1, .int x1), (2, .int x2), (6, .int x6)] dX6_kindFor_113 (Nat.le_of_ble_eq_true rfl) rfl ?_
            refine r_iinc C 8 (x6 + 1) [(6, .int (x6 + 1)), (5, .int u8.1), (4, .int u12), (3, .int x6), (8, .int u8.1), (7, .int (u6 &&& (u7 ^^^ (-1 : Int32)))), (0, .ref 50), (1, .int x1), (2, .int x2)] dX6_kindFor_115 rfl rfl (Nat.le_of_ble_eq_true rfl) rfl ?_
            refine r_goto C 33 dX6_kindFor_118 (by decide) ?_
            refine r_lv [(0, .ref 50), (1, .int x1), (2, .int x2), (3, .int x6), (4, .int u12), (5, .int u8.1), (6, .int (x6 + 1))] [6, 7, 8, 3, 2, 1, 0] rfl ?_
            exact ih x1 x2 x6 u12 u8.1 (x6 + 1) u8.2
        · refine r_iinc C 8 (x6 + 1) [(6, .int (x6 + 1)), (8, .int u8.1), (7, .int (u6 &&& (u7 ^^^ (-1 : Int32)))), (0, .ref 50), (1, .int x1), (2, .int x2), (3, .int x3), (4, .int x4), (5, .int x5)] dX6_kindFor_115 rfl rfl (Nat.le_of_ble_eq_true rfl) rfl ?_
          refine r_goto C 33 dX6_kindFor_118 (by decide) ?_
          refine r_lv [(0, .ref 50), (1, .int x1), (2, .int x2), (3, .int x3), (4, .int x4), (5, .int x5), (6, .int (x6 + 1))] [3, 4, 5, 6, 7, 8, 0] rfl ?_
          exact ih x1 x2 x3 x4 x5 (x6 + 1) u8.2
set_option maxRecDepth 100000 in
set_option maxHeartbeats 4000000 in
theorem o_X6_kindFor (l : Launch) (M : q_St) (a1 : Int32) : q_Ok l yX6_kindFor cX6_kindFor 9 (some .int) 6 136 [.ref 50, .int a1] (w_X6 M) (f_X6_kindFor M a1) (fun u => some (.int u.1)) (fun u => w_X6 u.2) := by
  refine q_enter (by decide +kernel) (Nat.le_of_ble_eq_true rfl) (fun t p e s m args below meth c dC dI dA A α C => ?_)
  refine r_cut (f_X6_kindFor.eq_1 _ _) ?_
  show q_S p l e (q_rm 6 136) s m args below meth c 9 dC dI dA A α (MQ below (q_Q α dC dI dA A ((fun u => some (.int u.1)) t) ((fun u => w_X6 u.2) t)) args s 0 0 A) 0 0 _ t 0 [(0, .ref 50), (1, .int a1)] [] (w_X6 M)
  refine r_aload_n C 0 dX6_kindFor_0 rfl ?_
  refine r_iload_n C 1 dX6_kindFor_1 rfl ?_
  refine r_callV0 C (o_X6_isDoll l M a1) v_X6_isDoll m_1019 [.int a1] [] (50) (Or.inl ⟨0, 5, _, TX6, 25, rfl, rfl, rfl⟩) (fun u1 => [.int u1]) (fun u1 => [.inr (5, [.ref 51, .ref 52, .ref 53, .int (M.1 3), .ref 54, .ref 55, .ref 56, .int (M.1 7), .ref 57, .ref 58, .int (M.1 10), .int (M.1 11), .int (M.1 12), .int (M.1 13), .int (M.1 14), .int (M.1 15), .ref 59, .ref 60, .int (M.1 18), .int (M.1 19), .int (M.1 20), .ref 61, .ref 62, .ref 63, .ref 64]), .inl (0, 68, .inl (M.2 0)), .inl (0, 68, .inl (M.2 1)), .inl (0, 68, .inl (M.2 2)), .inl (0, 8, .inl (M.2 4)), .inl (0, 1053, .inl (M.2 5)), .inl (1, 972, .inl (M.2 6)), .inl (0, 1053, .inl (M.2 8)), .inl (0, 120, .inl (M.2 9)), .inl (3, 7, .inr (.inr (.inr (.inr q_kf)))), .inl (0, 360, .inl (M.2 17)), .inl (0, 4, .inl (M.2 21)), .inl (0, 4, .inl (M.2 22)), .inl (0, 160, .inl (M.2 23)), .inl (0, 40, .inl (M.2 24))]) rfl rfl rfl (Nat.le_of_ble_eq_true rfl) ⟨(Nat.le_of_ble_eq_true rfl), (Nat.le_of_ble_eq_true rfl)⟩ ⟨Nat.zero_le _, Nat.zero_le _⟩ dX6_kindFor_2 (fun _ => rfl) (fun _ => rfl) (fun _ => rfl) (fun u1 => ?_)
  refine r_if_ne C 15 dX6_kindFor_5 (by decide) (fun h5 => ?_) (fun h5 => ?_)
  · refine r_aload_n C 0 dX6_kindFor_8 rfl ?_
    refine r_ldc C (-1000001) dX6_kindFor_9 m_1002 ?_
    refine r_callV0 C (o_X6_finding l M (-1000001 : Int32)) v_X6_finding m_1003 [.int (-1000001 : Int32)] [] (50) (Or.inl ⟨0, 5, _, TX6, 25, rfl, rfl, rfl⟩) (fun u3 => [.int u3.1]) (fun u3 => [.inr (5, [.ref 51, .ref 52, .ref 53, .int (u3.2.1 3), .ref 54, .ref 55, .ref 56, .int (u3.2.1 7), .ref 57, .ref 58, .int (u3.2.1 10), .int (u3.2.1 11), .int (u3.2.1 12), .int (u3.2.1 13), .int (u3.2.1 14), .int (u3.2.1 15), .ref 59, .ref 60, .int (u3.2.1 18), .int (u3.2.1 19), .int (u3.2.1 20), .ref 61, .ref 62, .ref 63, .ref 64]), .inl (0, 68, .inl (u3.2.2 0)), .inl (0, 68, .inl (u3.2.2 1)), .inl (0, 68, .inl (u3.2.2 2)), .inl (0, 8, .inl (u3.2.2 4)), .inl (0, 1053, .inl (u3.2.2 5)), .inl (1, 972, .inl (u3.2.2 6)), .inl (0, 1053, .inl (u3.2.2 8)), .inl (0, 120, .inl (u3.2.2 9)), .inl (3, 7, .inr (.inr (.inr (.inr q_kf)))), .inl (0, 360, .inl (u3.2.2 17)), .inl (0, 4, .inl (u3.2.2 21)), .inl (0, 4, .inl (u3.2.2 22)), .inl (0, 160, .inl (u3.2.2 23)), .inl (0, 40, .inl (u3.2.2 24))]) rfl rfl rfl (Nat.le_of_ble_eq_true rfl) ⟨(Nat.le_of_ble_eq_true rfl), (Nat.le_of_ble_eq_true rfl)⟩ ⟨Nat.zero_le _, Nat.zero_le _⟩ dX6_kindFor_11 (fun _ => rfl) (fun _ => rfl) (fun _ => rfl) (fun u3 => ?_)
    exact r_reti (x := u3.1) (rv := (fun u => some (.int u.1))) (hpE := (fun u => w_X6 u.2)) (t0 := (u3.1, u3.2)) C dX6_kindFor_14 (by rfl) (by rfl) (by rfl)
  · refine r_aload_n C 0 dX6_kindFor_15 rfl ?_
    refine r_iload_n C 1 dX6_kindFor_16 rfl ?_
    refine r_iconst C (0) dX6_kindFor_17 rfl ?_
    refine r_callV0 C (o_X6_dollIs l M a1 (0 : Int32)) v_X6_dollIs m_1023 [.int a1, .int (0 : Int32)] [] (50) (Or.inl ⟨0, 5, _, TX6, 25, rfl, rfl, rfl⟩) (fun u2 => [.int u2]) (fun u2 => [.inr (5, [.ref 51, .ref 52, .ref 53, .int (M.1 3), .ref 54, .ref 55, .ref 56, .int (M.1 7), .ref 57, .ref 58, .int (M.1 10), .int (M.1 11), .int (M.1 12), .int (M.1 13), .int (M.1 14), .int (M.1 15), .ref 59, .ref 60, .int (M.1 18), .int (M.1 19), .int (M.1 20), .ref 61, .ref 62, .ref 63, .ref 64]), .inl (0, 68, .inl (M.2 0)), .inl (0, 68, .inl (M.2 1)), .inl (0, 68, .inl (M.2 2)), .inl (0, 8, .inl (M.2 4)), .inl (0, 1053, .inl (M.2 5)), .inl (1, 972, .inl (M.2 6)), .inl (0, 1053, .inl (M.2 8)), .inl (0, 120, .inl (M.2 9)), .inl (3, 7, .inr (.inr (.inr (.inr q_kf)))), .inl (0, 360, .inl (M.2 17)), .inl (0, 4, .inl (M.2 21)), .inl (0, 4, .inl (M.2 22)), .inl (0, 160, .inl (M.2 23)), .inl (0, 40, .inl (M.2 24))]) rfl rfl rfl (Nat.le_of_ble_eq_true rfl) ⟨(Nat.le_of_ble_eq_true rfl), (Nat.le_of_ble_eq_true rfl)⟩ ⟨Nat.zero_le _, Nat.zero_le _⟩ dX6_kindFor_18 (fun _ => rfl) (fun _ => rfl) (fun _ => rfl) (fun u2 => ?_)
    refine r_istore_n C [(2, .int u2), (0, .ref 50), (1, .int a1)] dX6_kindFor_21 (Nat.le_of_ble_eq_true rfl) rfl ?_
    refine r_iconst C (-1) dX6_kindFor_22 rfl ?_
    refine r_istore_n C [(3, .int (-1 : Int32)), (2, .int u2), (0, .ref 50), (1, .int a1)] dX6_kindFor_23 (Nat.le_of_ble_eq_true rfl) rfl ?_
    refine r_iconst C (-1) dX6_kindFor_24 rfl ?_
    refine r_istore C [(4, .int (-1 : Int32)), (3, .int (-1 : Int32)), (2, .int u2), (0, .ref 50), (1, .int a1)] dX6_kindFor_25 (Nat.le_of_ble_eq_true rfl) rfl ?_
    refine r_iconst C (0) dX6_kindFor_27 rfl ?_
    refine r_istore C [(5, .int (0 : Int32)), (4, .int (-1 : Int32)), (3, .int (-1 : Int32)), (2, .int u2), (0, .ref 50), (1, .int a1)] dX6_kindFor_28 (Nat.le_of_ble_eq_true rfl) rfl ?_
    refine r_iconst C (0) dX6_kindFor_30 rfl ?_
    refine r_istore C [(6, .int (0 : Int32)), (5, .int (0 : Int32)), (4, .int (-1 : Int32)), (3, .int (-1 : Int32)), (2, .int u2), (0, .ref 50), (1, .int a1)] dX6_kindFor_31 (Nat.le_of_ble_eq_true rfl) rfl ?_
    refine r_lv [(0, .ref 50), (1, .int a1), (2, .int u2), (3, .int (-1 : Int32)), (4, .int (-1 : Int32)), (5, .int (0 : Int32)), (6, .int (0 : Int32))] [5, 6, 4, 3, 2, 1, 0] rfl ?_
    exact k_X6_kindFor_33 C M a1   q_N a1 u2 (-1 : Int32) (-1 : Int32) (0 : Int32) (0 : Int32) M
set_option maxRecDepth 100000 in
set_option maxHeartbeats 4000000 in
theorem k_X6_areTogether_5 {p : Program} {l : Launch} {e : Env} {s : State} {m : MethodId} {args : Array Value} {below : List Frame} {meth : Method} {c : Code} {dC : Nat → ClassId} {dI : Nat → Nat → Nat} {dA : Nat → ClassId} {A : Nat → Prop} {α : Nat → Nat} {t : Int32} (C : q_Cx p s m args meth c cX6_areTogether 5 RX6 (some .boolean) "areTogether" dC dI dA A α) (M : q_St) (a1 : Int32) (a2 : Int32)  : ∀ (n : Nat) (x1 : Int32) (x2 : Int32) (x3 : Int32) (x4 : Int32), q_S p l e (q_rm 1 21) s m args below meth c 5 dC dI dA A α (MQ below (q_Q α dC dI dA A ((fun u => some (.int u)) t) ((fun u => w_X6 M) t)) args s 0 0 A) 0 0 (f_X6_areTogether_5 M a1 a2  n x1 x2 x3 x4) t 5 [(0, .ref 50), (1, .int x1), (2, .int x2), (3, .int x3), (4, .int x4)] [] (w_X6 M) := by
  intro n
  induction n with
  | zero =>
    intro x1 x2 x3 x4
    exact r_cut (f_X6_areTogether_5.eq_1 _ _ _ _ _ _ _) (r_none True.intro)
  | succ n ih =>
    intro x1 x2 x3 x4
    refine r_cut (f_X6_areTogether_5.eq_2 _ _ _ _ _ _ _ _) ?_
    refine r_iload C 4 dX6_areTogether_5 rfl ?_
    refine r_aload_n C 0 dX6_areTogether_7 rfl ?_
    refine r_get C 0 0 dX6_areTogether_8 K_X6 rfl rfl (Nat.le_of_ble_eq_true rfl) rfl m_915 rfl ?_
    refine r_iconst C (1) dX6_areTogether_11 rfl ?_
    refine r_iald C 1 dX6_areTogether_12 rfl rfl (fun hi12 => ?_)
    refine r_icmp_ge C 66 dX6_areTogether_13 (by decide) (fun h13 => ?_) (fun h13 => ?_)
    · refine r_iload_n C 3 dX6_areTogether_66 rfl ?_
      refine r_gbz (fun hz => ?_)
      exact r_retz (x := x3) (rv := (fun u => some (.int u))) (hpE := (fun u => w_X6 M)) (t0 := x3) C dX6_areTogether_67 (by rfl) (by exact q_nz1 hz) (by rfl) (by rfl)
    · refine r_iload_n C 3 dX6_areTogether_16 rfl ?_
      refine r_if_ne C 54 dX6_areTogether_17 (by decide) (fun h17 => ?_) (fun h17 => ?_)
      · refine r_aload_n C 0 dX6_areTogether_20 rfl ?_
        refine r_get C 0 0 dX6_areTogether_21 K_X6 rfl rfl (Nat.le_of_ble_eq_true rfl) rfl m_915 rfl ?_
        refine r_bipush C (44) dX6_areTogether_24 rfl ?_
        refine r_iload C 4 dX6_areTogether_26 rfl ?_
        refine r_iadd C dX6_areTogether_28 ?_
        refine r_iald C 1 dX6_areTogether_29 rfl rfl (fun hi29 => ?_)
        refine r_iload_n C 1 dX6_areTogether_30 rfl ?_
        refine r_callS C (o_X6_has l (M.2 0 ((44 : Int32) + x4).toNatClampNeg) x1) v_X6_has m_1094 [] [.int (M.2 0 ((44 : Int32) + x4).toNatClampNeg), .int x1] [] (fun u1 => [.int u1]) (fun u1 => [.inr (5, [.ref 51, .ref 52, .ref 53, .int (M.1 3), .ref 54, .ref 55, .ref 56, .int (M.1 7), .ref 57, .ref 58, .int (M.1 10), .int (M.1 11), .int (M.1 12), .int (M.1 13), .int (M.1 14), .int (M.1 15), .ref 59, .ref 60, .int (M.1 18), .int (M.1 19), .int (M.1 20), .ref 61, .ref 62, .ref 63, .ref 64]), .inl (0, 68, .inl (M.2 0)), .inl (0, 68, .inl (M.2 1)), .inl (0, 68, .inl (M.2 2)), .inl (0, 8, .inl (M.2 4)), .inl (0, 1053, .inl (M.2 5)), .inl (1, 972, .inl (M.2 6)), .inl (0, 1053, .inl (M.2 8)), .inl (0, 120, .inl (M.2 9)), .inl (3, 7, .inr (.inr (.inr (.inr q_kf)))), .inl (0, 360, .inl (M.2 17)), .inl (0, 4, .inl (M.2 21)), .inl (0, 4, .inl (M.2 22)), .inl (0, 160, .inl (M.2 23)), .inl (0, 40, .inl (M.2 24))]) rfl rfl rfl rfl rfl (Nat.le_of_ble_eq_true rfl) ⟨(Nat.le_of_ble_eq_true rfl), (Nat.le_of_ble_eq_true rfl)⟩ ⟨Nat.zero_le _, Nat.zero_le _⟩ dX6_areTogether_31 (fun _ => rfl) (fun _ => rfl) (fun _ => rfl) (fun u1 => ?_)
        refine r_if_eq C 58 dX6_areTogether_34 (by decide) (fun h34 => ?_) (fun h34 => ?_)
        · refine r_iconst C (0) dX6_areTogether_58 rfl ?_
          refine r_istore_n C [(3, .int (0 : Int32)), (0, .ref 50), (1, .int x1), (2, .int x2), (4, .int x4)] dX6_areTogether_59 (Nat.le_of_ble_eq_true rfl) rfl ?_
          refine r_iinc C 4 (x4 + 1) [(4, .int (x4 + 1)), (3, .int (0 : Int32)), (0, .ref 50), (1, .int x1), (2, .int x2)] dX6_areTogether_60 rfl rfl (Nat.le_of_ble_eq_true rfl) rfl ?_
          refine r_goto C 5 dX6_areTogether_63 (by decide) ?_
          refine r_lv [(0, .ref 50), (1, .int x1), (2, .int x2), (3, .int (0 : Int32)), (4, .int (x4 + 1))] [2, 3, 4, 1, 0] rfl ?_
          exact ih x1 x2 (0 : Int32) (x4 + 1)
        · refine r_aload_n C 0 dX6_areTogether_37 rfl ?_
          refine r_get C 0 0 dX6_areTogether_38 K_X6 rfl rfl (Nat.le_of_ble_eq_true rfl) rfl m_915 rfl ?_
          refine r_bipush C (44) dX6_areTogether_41 rfl ?_
          refine r_iload C 4 dX6_areTogether_43 rfl ?_
          refine r_iadd C dX6_areTogether_45 ?_
          refine r_iald C 1 dX6_areTogether_46 rfl rfl (fun hi46 => ?_)
          refine r_iload_n C 2 dX6_areTogether_47 rfl ?_
          refine r_callS C (o_X6_has l (M.2 0 ((44 : Int32) + x4).toNatClampNeg) x2) v_X6_has m_1094 [] [.int (M.2 0 ((44 : Int32) + x4).toNatClampNeg), .int x2] [] (fun u2 => [.int u2]) (fun u2 => [.inr (5, [.ref 51, .ref 52, .ref 53, .int (M.1 3), .ref 54, .ref 55, .ref 56, .int (M.1 7), .ref 57, .ref 58, .int (M.1 10), .int (M.1 11), .int (M.1 12), .int (M.1 13), .int (M.1 14), .int (M.1 15), .ref 59, .ref 60, .int (M.1 18), .int (M.1 19), .int (M.1 20), .ref 61, .ref 62, .ref 63, .ref 64]), .inl (0, 68, .inl (M.2 0)), .inl (0, 68, .inl (M.2 1)), .inl (0, 68, .inl (M.2 2)), .inl (0, 8, .inl (M.2 4)), .inl (0, 1053, .inl (M.2 5)), .inl (1, 972, .inl (M.2 6)), .inl (0, 1053, .inl (M.2 8)), .inl (0, 120, .inl (M.2 9)), .inl (3, 7, .inr (.inr (.inr (.inr q_kf)))), .inl (0, 360, .inl (M.2 17)), .inl (0, 4, .inl (M.2 21)), .inl (0, 4, .inl (M.2 22)), .inl (0, 160, .inl (M.2 23)), .inl (0, 40, .inl (M.2 24))]) rfl rfl rfl rfl rfl (Nat.le_of_ble_eq_true rfl) ⟨(Nat.le_of_ble_eq_true rfl), (Nat.le_of_ble_eq_true rfl)⟩ ⟨Nat.zero_le _, Nat.zero_le _⟩ dX6_areTogether_48 (fun _ => rfl) (fun _ => rfl) (fun _ => rfl) (fun u2 => ?_)
          refine r_if_eq C 58 dX6_areTogether_51 (by decide) (fun h51 => ?_) (fun h51 => ?_)
          · refine r_iconst C (0) dX6_areTogether_58 rfl ?_
            refine r_istore_n C [(3, .int (0 : Int32)), (0, .ref 50), (1, .int x1), (2, .int x2), (4, .int x4)] dX6_areTogether_59 (Nat.le_of_ble_eq_true rfl) rfl ?_
            refine r_iinc C 4 (x4 + 1) [(4, .int (x4 + 1)), (3, .int (0 : Int32)), (0, .ref 50), (1, .int x1), (2, .int x2)] dX6_areTogether_60 rfl rfl (Nat.le_of_ble_eq_true rfl) rfl ?_
            refine r_goto C 5 dX6_areTogether_63 (by decide) ?_
            refine r_lv [(0, .ref 50), (1, .int x1), (2, .int x2), (3, .int (0 : Int32)), (4, .int (x4 + 1))] [2, 3, 4, 1, 0] rfl ?_
            exact ih x1 x2 (0 : Int32) (x4 + 1)
          · refine r_iconst C (1) dX6_areTogether_54 rfl ?_
            refine r_goto C 59 dX6_areTogether_55 (by decide) ?_
            refine r_istore_n C [(3, .int (1 : Int32)), (0, .ref 50), (1, .int x1), (2, .int x2), (4, .int x4)] dX6_areTogether_59 (Nat.le_of_ble_eq_true rfl) rfl ?_
            refine r_iinc C 4 (x4 + 1) [(4, .int (x4 + 1)), (3, .int (1 : Int32)), (0, .ref 50), (1, .int x1), (2, .int x2)] dX6_areTogether_60 rfl rfl (Nat.le_of_ble_eq_true rfl) rfl ?_
            refine r_goto C 5 dX6_areTogether_63 (by decide) ?_
            refine r_lv [(0, .ref 50), (1, .int x1), (2, .int x2), (3, .int (1 : Int32)), (4, .int (x4 + 1))] [2, 3, 4, 1, 0] rfl ?_
            exact ih x1 x2 (1 : Int32) (x4 + 1)
      · refine r_iconst C (1) dX6_areTogether_54 rfl ?_
        refine r_goto C 59 dX6_areTogether_55 (by decide) ?_
        refine r_istore_n C [(3, .int (1 : Int32)), (0, .ref 50), (1, .int x1), (2, .int x2), (4, .int x4)] dX6_areTogether_59 (Nat.le_of_ble_eq_true rfl) rfl ?_
        refine r_iinc C 4 (x4 + 1) [(4, .int (x4 + 1)), (3, .int (1 : Int32)), (0, .ref 50), (1, .int x1), (2, .int x2)] dX6_areTogether_60 rfl rfl (Nat.le_of_ble_eq_true rfl) rfl ?_
        refine r_goto C 5 dX6_areTogether_63 (by decide) ?_
        refine r_lv [(0, .ref 50), (1, .int x1), (2, .int x2), (3, .int (1 : Int32)), (4, .int (x4 + 1))] [2, 3, 4, 1, 0] rfl ?_
        exact ih x1 x2 (1 : Int32) (x4 + 1)
set_option maxRecDepth 100000 in
set_option maxHeartbeats 4000000 in
theorem o_X6_areTogether (l : Launch) (M : q_St) (a1 : Int32) (a2 : Int32) : q_Ok l yX6_areTogether cX6_areTogether 5 (some .boolean) 1 21 [.ref 50, .int a1, .int a2] (w_X6 M) (f_X6_areTogether M a1 a2) (fun u => some (.int u)) (fun u => w_X6 M) := by
  refine q_enter (by decide +kernel) (Nat.le_of_ble_eq_true rfl) (fun t p e s m args below meth c dC dI dA A α C => ?_)
  refine r_cut (f_X6_areTogether.eq_1 _ _ _) ?_
  show q_S p l e (q_rm 1 21) s m args below meth c 5 dC dI dA A α (MQ below (q_Q α dC dI dA A ((fun u => some (.int u)) t) ((fun u => w_X6 M) t)) args s 0 0 A) 0 0 _ t 0 [(0, .ref 50), (1, .int a1), (2, .int a2)] [] (w_X6 M)
  refine r_iconst C (0) dX6_areTogether_0 rfl ?_
  refine r_istore_n C [(3, .int (0 : Int32)), (0, .ref 50), (1, .int a1), (2, .int a2)] dX6_areTogether_1 (Nat.le_of_ble_eq_true rfl) rfl ?_
  refine r_iconst C (0) dX6_areTogether_2 rfl ?_
  refine r_istore C [(4, .int (0 : Int32)), (3, .int (0 : Int32)), (0, .ref 50), (1, .int a1), (2, .int a2)] dX6_areTogether_3 (Nat.le_of_ble_eq_true rfl) rfl ?_
  refine r_lv [(0, .ref 50), (1, .int a1), (2, .int a2), (3, .int (0 : Int32)), (4, .int (0 : Int32))] [2, 3, 4, 1, 0] rfl ?_
  exact k_X6_areTogether_5 C M a1 a2   q_N a1 a2 (0 : Int32) (0 : Int32)
set_option maxRecDepth 100000 in
set_option maxHeartbeats 4000000 in
theorem k_X6_comesFor_57 {p : Program} {l : Launch} {e : Env} {s : State} {m : MethodId} {args : Array Value} {below : List Frame} {meth : Method} {c : Code} {dC : Nat → ClassId} {dI : Nat → Nat → Nat} {dA : Nat → ClassId} {A : Nat → Prop} {α : Nat → Nat} {t : q_St} (C : q_Cx p s m args meth c cX6_comesFor 5 RX6 none "comesFor" dC dI dA A α) (M : q_St) (a1 : Int32) (a2 : Int32) (r2 : Int32 → Int32 → Int32 → q_St → Option (q_St))
    (hr2 : ∀ (x1 : Int32) (x2 : Int32) (x3 : Int32) (M' : q_St), q_S p l e (q_rm 1 21) s m args below meth c 5 dC dI dA A α (MQ below (q_Q α dC dI dA A ((fun _ => none) t) ((fun u => w_X6 u) t)) args s 0 0 A) 0 0 (r2 x1 x2 x3 M') t 2 [(0, .ref 50), (1, .int x1), (2, .int x2), (3, .int x3)] [] (w_X6 M')) : ∀ (x1 : Int32) (x2 : Int32) (x3 : Int32) (s0 : Int32) (s1 : Int32) (M' : q_St), q_S p l e (q_rm 1 21) s m args below meth c 5 dC dI dA A α (MQ below (q_Q α dC dI dA A ((fun _ => none) t) ((fun u => w_X6 u) t)) args s 0 0 A) 0 0 (f_X6_comesFor_57 M a1 a2 r2 x1 x2 x3 s0 s1 M') t 57 [(0, .ref 50), (1, .int x1), (2, .int x2), (3, .int x3)] [.int s0, .int s1, .ref 51] (w_X6 M') := by
  intro x1 x2 x3 s0 s1 M'
  refine r_cut (f_X6_comesFor_57.eq_1 _ _ _ _ _ _ _ _ _ _) ?_
  refine r_iast C 1 _ dX6_comesFor_57 rfl rfl rfl (fun hi57 => ?_)
  refine r_aload_n C 0 dX6_comesFor_58 rfl ?_
  refine r_get C 0 0 dX6_comesFor_59 K_X6 rfl rfl (Nat.le_of_ble_eq_true rfl) rfl m_915 rfl ?_
  refine r_bipush C (56) dX6_comesFor_62 rfl ?_
  refine r_iload_n C 3 dX6_comesFor_64 rfl ?_
  refine r_iadd C dX6_comesFor_65 ?_
  refine r_aload_n C 0 dX6_comesFor_66 rfl ?_
  refine r_get C 0 0 dX6_comesFor_67 K_X6 rfl rfl (Nat.le_of_ble_eq_true rfl) rfl m_915 rfl ?_
  refine r_bipush C (56) dX6_comesFor_70 rfl ?_
  refine r_iload_n C 3 dX6_comesFor_72 rfl ?_
  refine r_iadd C dX6_comesFor_73 ?_
  refine r_iald C 1 dX6_comesFor_74 rfl rfl (fun hi74 => ?_)
  refine r_iload_n C 2 dX6_comesFor_75 rfl ?_
  refine r_icmp_ne C 83 dX6_comesFor_76 (by decide) (fun h76 => ?_) (fun h76 => ?_)
  · refine r_iload_n C 1 dX6_comesFor_79 rfl ?_
    refine r_goto C 92 dX6_comesFor_80 (by decide) ?_
    refine r_iast C 1 _ dX6_comesFor_92 rfl rfl rfl (fun hi92 => ?_)
    refine r_iinc C 3 (x3 + 1) [(3, .int (x3 + 1)), (0, .ref 50), (1, .int x1), (2, .int x2)] dX6_comesFor_93 rfl rfl (Nat.le_of_ble_eq_true rfl) rfl ?_
    refine r_goto C 2 dX6_comesFor_96 (by decide) ?_
    refine r_lv [(0, .ref 50), (1, .int x1), (2, .int x2), (3, .int (x3 + 1))] [1, 2, 3, 0] rfl ?_
    exact hr2 x1 x2 (x3 + 1) (M'.1, (va_up M'.2 0 (upd (upd (M'.2 0) s1.toNatClampNeg s0) ((56 : Int32) + x3).toNatClampNeg x1)))
  · refine r_aload_n C 0 dX6_comesFor_83 rfl ?_
    refine r_get C 0 0 dX6_comesFor_84 K_X6 rfl rfl (Nat.le_of_ble_eq_true rfl) rfl m_915 rfl ?_
    refine r_bipush C (56) dX6_comesFor_87 rfl ?_
    refine r_iload_n C 3 dX6_comesFor_89 rfl ?_
    refine r_iadd C dX6_comesFor_90 ?_
    refine r_iald C 1 dX6_comesFor_91 rfl rfl (fun hi91 => ?_)
    refine r_iast C 1 _ dX6_comesFor_92 rfl rfl rfl (fun hi92 => ?_)
    refine r_iinc C 3 (x3 + 1) [(3, .int (x3 + 1)), (0, .ref 50), (1, .int x1), (2, .int x2)] dX6_comesFor_93 rfl rfl (Nat.le_of_ble_eq_true rfl) rfl ?_
    refine r_goto C 2 dX6_comesFor_96 (by decide) ?_
    refine r_lv [(0, .ref 50), (1, .int x1), (2, .int x2), (3, .int (x3 + 1))] [1, 2, 3, 0] rfl ?_
    exact hr2 x1 x2 (x3 + 1) (M'.1, (va_up M'.2 0 (upd (upd (M'.2 0) s1.toNatClampNeg s0) ((56 : Int32) + x3).toNatClampNeg ((upd (M'.2 0) s1.toNatClampNeg s0) ((56 : Int32) + x3).toNatClampNeg))))
set_option maxRecDepth 100000 in
set_option maxHeartbeats 4000000 in
theorem k_X6_comesFor_2 {p : Program} {l : Launch} {e : Env} {s : State} {m : MethodId} {args : Array Value} {below : List Frame} {meth : Method} {c : Code} {dC : Nat → ClassId} {dI : Nat → Nat → Nat} {dA : Nat → ClassId} {A : Nat → Prop} {α : Nat → Nat} {t : q_St} (C : q_Cx p s m args meth c cX6_comesFor 5 RX6 none "comesFor" dC dI dA A α) (M : q_St) (a1 : Int32) (a2 : Int32)  : ∀ (n : Nat) (x1 : Int32) (x2 : Int32) (x3 : Int32) (M' : q_St), q_S p l e (q_rm 1 21) s m args below meth c 5 dC dI dA A α (MQ below (q_Q α dC dI dA A ((fun _ => none) t) ((fun u => w_X6 u) t)) args s 0 0 A) 0 0 (f_X6_comesFor_2 M a1 a2  n x1 x2 x3 M') t 2 [(0, .ref 50), (1, .int x1), (2, .int x2), (3, .int x3)] [] (w_X6 M') := by
  intro n
  induction n with
  | zero =>
    intro x1 x2 x3 M'
    exact r_cut (f_X6_comesFor_2.eq_1 _ _ _ _ _ _ _) (r_none True.intro)
  | succ n ih =>
    intro x1 x2 x3 M'
    refine r_cut (f_X6_comesFor_2.eq_2 _ _ _ _ _ _ _ _) ?_
    refine r_iload_n C 3 dX6_comesFor_2 rfl ?_
    refine r_aload_n C 0 dX6_comesFor_3 rfl ?_
    refine r_get C 0 0 dX6_comesFor_4 K_X6 rfl rfl (Nat.le_of_ble_eq_true rfl) rfl m_915 rfl ?_
    refine r_iconst C (1) dX6_comesFor_7 rfl ?_
    refine r_iald C 1 dX6_comesFor_8 rfl rfl (fun hi8 => ?_)
    refine r_icmp_ge C 99 dX6_comesFor_9 (by decide) (fun h9 => ?_) (fun h9 => ?_)
    · exact r_retv (rv := (fun _ => none)) (hpE := (fun u => w_X6 u)) (t0 := M') C dX6_comesFor_99 (by rfl) (by rfl) (by rfl)
    · refine r_aload_n C 0 dX6_comesFor_12 rfl ?_
      refine r_get C 0 0 dX6_comesFor_13 K_X6 rfl rfl (Nat.le_of_ble_eq_true rfl) rfl m_915 rfl ?_
      refine r_bipush C (44) dX6_comesFor_16 rfl ?_
      refine r_iload_n C 3 dX6_comesFor_18 rfl ?_
      refine r_iadd C dX6_comesFor_19 ?_
      refine r_iald C 1 dX6_comesFor_20 rfl rfl (fun hi20 => ?_)
      refine r_istore C [(4, .int (M'.2 0 ((44 : Int32) + x3).toNatClampNeg)), (0, .ref 50), (1, .int x1), (2, .int x2), (3, .int x3)] dX6_comesFor_21 (Nat.le_of_ble_eq_true rfl) rfl ?_
      refine r_aload_n C 1 dX6_comesFor_23 rfl ?_
      refine r_get C 0 0 dX6_comesFor_24 K_X6 rfl rfl (Nat.le_of_ble_eq_true rfl) rfl m_915 rfl ?_
      refine r_bipush C (44) dX6_comesFor_27 rfl ?_
      refine r_iload_n C 4 dX6_comesFor_29 rfl ?_
      refine r_iadd C dX6_comesFor_30 ?_
      refine r_iload C 0 dX6_comesFor_31 rfl ?_
      refine r_iload_n C 3 dX6_comesFor_33 rfl ?_
      refine r_callS C (o_X6_has l (M'.2 0 ((44 : Int32) + x3).toNatClampNeg) x2) v_X6_has m_1094 [] [.int (M'.2 0 ((44 : Int32) + x3).toNatClampNeg), .int x2] [.int ((44 : Int32) + x3), .ref 51] (fun u1 => [.int u1, .int ((44 : Int32) + x3), .ref 51]) (fun u1 => [.inr (5, [.ref 51, .ref 52, .ref 53, .int (M'.1 3), .ref 54, .ref 55, .ref 56, .int (M'.1 7), .ref 57, .ref 58, .int (M'.1 10), .int (M'.1 11), .int (M'.1 12), .int (M'.1 13), .int (M'.1 14), .int (M'.1 15), .ref 59, .ref 60, .int (M'.1 18), .int (M'.1 19), .int (M'.1 20), .ref 61, .ref 62, .ref 63, .ref 64]), .inl (0, 68, .inl (M'.2 0)), .inl (0, 68, .inl (M'.2 1)), .inl (0, 68, .inl (M'.2 2)), .inl (0, 8, .inl (M'.2 4)), .inl (0, 1053, .inl (M'.2 5)), .inl (1, 972, .inl (M'.2 6)), .inl (0, 1053, .inl (M'.2 8)), .inl (0, 120, .inl (M'.2 9)), .inl (3, 7, .inr (.inr (.inr (.inr q_kf)))), .inl (0, 360, .inl (M'.2 17)), .inl (0, 4, .inl (M'.2 21)), .inl (0, 4, .inl (M'.2 22)), .inl (0, 160, .inl (M'.2 23)), .inl (0, 40, .inl (M'.2 24))]) rfl rfl rfl rfl rfl (Nat.le_of_ble_eq_true rfl) ⟨(Nat.le_of_ble_eq_true rfl), (Nat.le_of_ble_eq_true rfl)⟩ ⟨Nat.zero_le _, Nat.zero_le _⟩ dX6_comesFor_34 (fun _ => rfl) (fun _ => rfl) (fun _ => rfl) (fun u1 => ?_)
      refine r_if_eq C 55 dX6_comesFor_37 (by decide) (fun h37 => ?_) (fun h37 => ?_)
      · refine r_iload C 0 dX6_comesFor_55 rfl ?_
        refine r_lv [(0, .ref 50), (1, .int x1), (2, .int x2), (3, .int x3)] [1, 2, 3, 4] rfl ?_
        exact k_X6_comesFor_57 C M a1 a2 (fun x1 x2 x3 M' => f_X6_comesFor_2 M a1 a2  n x1 x2 x3 M') ih x1 x2 x3 (M'.2 0 ((44 : Int32) + x3).toNatClampNeg) ((44 : Int32) + x3) M'
      · refine r_iload C 0 dX6_comesFor_40 rfl ?_
        refine r_iconst C (1) dX6_comesFor_42 rfl ?_
        refine r_iload_n C 3 dX6_comesFor_43 rfl ?_
        refine r_ishl C dX6_comesFor_44 ?_
        refine r_iconst C (-1) dX6_comesFor_45 rfl ?_
        refine r_ixor C dX6_comesFor_46 ?_
        refine r_iand C dX6_comesFor_47 ?_
        refine r_iconst C (1) dX6_comesFor_48 rfl ?_
        refine r_iload_n C 2 dX6_comesFor_49 rfl ?_
        refine r_ishl C dX6_comesFor_50 ?_
        refine r_ior C dX6_comesFor_51 ?_
        refine r_goto C 57 dX6_comesFor_52 (by decide) ?_
        refine r_lv [(0, .ref 50), (1, .int x1), (2, .int x2), (3, .int x3)] [1, 2, 3, 4] rfl ?_
        exact k_X6_comesFor_57 C M a1 a2 (fun x1 x2 x3 M' => f_X6_comesFor_2 M a1 a2  n x1 x2 x3 M') ih x1 x2 x3 (((M'.2 0 ((44 : Int32) + x3).toNatClampNeg) &&& (((1 : Int32) <<< (x2 &&& 31)) ^^^ (-1 : Int32))) ||| ((1 : Int32) <<< (x1 &&& 31))) ((44 : Int32) + x3) M'
set_option maxRecDepth 100000 in
set_option maxHeartbeats 4000000 in
theorem o_X6_comesFor (l : Launch) (M : q_St) (a1 : Int32) (a2 : Int32) : q_Ok l yX6_comesFor cX6_comesFor 5 none 1 21 [.ref 50, .int a1, .int a2] (w_X6 M) (f_X6_comesFor M a1 a2) (fun _ => none) (fun u => w_X6 u) := by
  refine q_enter (by decide +kernel) (Nat.le_of_ble_eq_true rfl) (fun t p e s m args below meth c dC dI dA A α C => ?_)
  refine r_cut (f_X6_comesFor.eq_1 _ _ _) ?_
  show q_S p l e (q_rm 1 21) s m args below meth c 5 dC dI dA A α (MQ below (q_Q α dC dI dA A ((fun _ => none) t) ((fun u => w_X6 u) t)) args s 0 0 A) 0 0 _ t 0 [(0, .ref 50), (1, .int a1), (2, .int a2)] [] (w_X6 M)
  refine r_iconst C (0) dX6_comesFor_0 rfl ?_
  refine r_istore_n C [(3, .int (0 : Int32)), (0, .ref 50), (1, .int a1), (2, .int a2)] dX6_comesFor_1 (Nat.le_of_ble_eq_true rfl) rfl ?_
  refine r_lv [(0, .ref 50), (1, .int a1), (2, .int a2), (3, .int (0 : Int32))] [1, 2, 3, 0] rfl ?_
  exact k_X6_comesFor_2 C M a1 a2   q_N a1 a2 (0 : Int32) M
set_option maxRecDepth 100000 in
set_option maxHeartbeats 4000000 in
theorem k_X6_mayor_89 {p : Program} {l : Launch} {e : Env} {s : State} {m : MethodId} {args : Array Value} {below : List Frame} {meth : Method} {c : Code} {dC : Nat → ClassId} {dI : Nat → Nat → Nat} {dA : Nat → ClassId} {A : Nat → Prop} {α : Nat → Nat} {t : Int32 × q_St} (C : q_Cx p s m args meth c cX6_mayor 6 RX6 (some .int) "mayor" dC dI dA A α) (M : q_St) (a1 : Int32) (r34 : Int32 → Int32 → Int32 → Int32 → q_St → Option (Int32 × q_St))
    (hr34 : ∀ (x1 : Int32) (x2 : Int32) (x3 : Int32) (x4 : Int32) (M' : q_St), q_S p l e (q_rm 6 136) s m args below meth c 6 dC dI dA A α (MQ below (q_Q α dC dI dA A ((fun u => some (.int u.1)) t) ((fun u => w_X6 u.2) t)) args s 0 0 A) 0 0 (r34 x1 x2 x3 x4 M') t 34 [(0, .ref 50), (1, .int x1), (2, .int x2), (3, .int x3), (4, .int x4)] [] (w_X6 M')) : ∀ (x1 : Int32) (x2 : Int32) (x3 : Int32) (x4 : Int32) (s0 : Int32) (M' : q_St), q_S p l e (q_rm 6 136) s m args below meth c 6 dC dI dA A α (MQ below (q_Q α dC dI dA A ((fun u => some (.int u.1)) t) ((fun u => w_X6 u.2) t)) args s 0 0 A) 0 0 (f_X6_mayor_89 M a1 r34 x1 x2 x3 x4 s0 M') t 89 [(0, .ref 50), (1, .int x1), (2, .int x2), (3, .int x3), (4, .int x4)] [.int s0] (w_X6 M') := by
  intro x1 x2 x3 x4 s0 M'
  refine r_cut (f_X6_mayor_89.eq_1 _ _ _ _ _ _ _ _ _) ?_
  refine r_istore C [(5, .int s0), (0, .ref 50), (1, .int x1), (2, .int x2), (3, .int x3), (4, .int x4)] dX6_mayor_89 (Nat.le_of_ble_eq_true rfl) rfl ?_
  refine r_iload C 0 dX6_mayor_91 rfl ?_
  refine r_iload_n C 4 dX6_mayor_93 rfl ?_
  refine r_icmp_ge C 102 dX6_mayor_94 (by decide) (fun h94 => ?_) (fun h94 => ?_)
  · refine r_iload_n C 3 dX6_mayor_102 rfl ?_
    refine r_istore_n C [(2, .int x2), (5, .int s0), (0, .ref 50), (1, .int x1), (3, .int x3), (4, .int x4)] dX6_mayor_103 (Nat.le_of_ble_eq_true rfl) rfl ?_
    refine r_iload_n C 4 dX6_mayor_104 rfl ?_
    refine r_iload C 1 dX6_mayor_105 rfl ?_
    refine r_mmin C dX6_mayor_107 m_1190 m_465 m_8 m_466 (Nat.le_of_ble_eq_true rfl) (Nat.le_of_ble_eq_true rfl) (Nat.zero_le _) (Nat.zero_le _) ?_
    refine r_istore_n C [(3, .int (if s0 < x3 then s0 else x3)), (2, .int x2), (5, .int s0), (0, .ref 50), (1, .int x1), (4, .int x4)] dX6_mayor_110 (Nat.le_of_ble_eq_true rfl) rfl ?_
    refine r_aload_n C 3 dX6_mayor_111 rfl ?_
    refine r_get C 0 2 dX6_mayor_112 K_X6 rfl rfl (Nat.le_of_ble_eq_true rfl) rfl m_917 rfl ?_
    refine r_aload_n C 3 dX6_mayor_115 rfl ?_
    refine r_get C 0 0 dX6_mayor_116 K_X6 rfl rfl (Nat.le_of_ble_eq_true rfl) rfl m_915 rfl ?_
    refine r_callS C (o_X6_copyRow l ((fun _ => (0 : Int32)), va_up (va_up (fun _ _ => (0 : Int32)) 0 (M'.2 2)) 1 (M'.2 0))) v_X6_copyRow m_1232 [3, 1] [.ref 53, .ref 51] [] (fun u10 => []) (fun u10 => [.inr (5, [.ref 51, .ref 52, .ref 53, .int (M'.1 3), .ref 54, .ref 55, .ref 56, .int (M'.1 7), .ref 57, .ref 58, .int (M'.1 10), .int (M'.1 11), .int (M'.1 12), .int (M'.1 13), .int (M'.1 14), .int (M'.1 15), .ref 59, .ref 60, .int (M'.1 18), .int (M'.1 19), .int (M'.1 20), .ref 61, .ref 62, .ref 63, .ref 64]), .inl (0, 68, .inl (u10.2 1)), .inl (0, 68, .inl (M'.2 1)), .inl (0, 68, .inl (u10.2 0)), .inl (0, 8, .inl (M'.2 4)), .inl (0, 1053, .inl (M'.2 5)), .inl (1, 972, .inl (M'.2 6)), .inl (0, 1053, .inl (M'.2 8)), .inl (0, 120, .inl (M'.2 9)), .inl (3, 7, .inr (.inr (.inr (.inr q_kf)))), .inl (0, 360, .inl (M'.2 17)), .inl (0, 4, .inl (M'.2 21)), .inl (0, 4, .inl (M'.2 22)), .inl (0, 160, .inl (M'.2 23)), .inl (0, 40, .inl (M'.2 24))]) rfl rfl rfl rfl rfl (Nat.le_of_ble_eq_true rfl) ⟨(Nat.le_of_ble_eq_true rfl), (Nat.le_of_ble_eq_true rfl)⟩ ⟨Nat.zero_le _, Nat.zero_le _⟩ dX6_mayor_119 (fun _ => rfl) (fun _ => rfl) (fun _ => rfl) (fun u10 => ?_)
    refine r_iinc C 5 (x4 + 1) [(4, .int (x4 + 1)), (3, .int (if s0 < x3 then s0 else x3)), (2, .int x2), (5, .int s0), (0, .ref 50), (1, .int x1)] dX6_mayor_122 rfl rfl (Nat.le_of_ble_eq_true rfl) rfl ?_
    refine r_goto C 34 dX6_mayor_125 (by decide) ?_
    refine r_lv [(0, .ref 50), (1, .int x1), (2, .int x2), (3, .int (if s0 < x3 then s0 else x3)), (4, .int (x4 + 1))] [4, 5, 2, 1, 0] rfl ?_
    exact hr34 x1 x2 (if s0 < x3 then s0 else x3) (x4 + 1) (M'.1, (va_up (va_up M'.2 0 (u10.2 1)) 2 (u10.2 0)))
  · refine r_iload C 5 dX6_mayor_97 rfl ?_
    refine r_goto C 103 dX6_mayor_99 (by decide) ?_
    refine r_istore_n C [(2, .int x4), (5, .int s0), (0, .ref 50), (1, .int x1), (3, .int x3), (4, .int x4)] dX6_mayor_103 (Nat.le_of_ble_eq_true rfl) rfl ?_
    refine r_iload_n C 4 dX6_mayor_104 rfl ?_
    refine r_iload C 1 dX6_mayor_105 rfl ?_
    refine r_mmin C dX6_mayor_107 m_1190 m_465 m_8 m_466 (Nat.le_of_ble_eq_true rfl) (Nat.le_of_ble_eq_true rfl) (Nat.zero_le _) (Nat.zero_le _) ?_
    refine r_istore_n C [(3, .int (if s0 < x3 then s0 else x3)), (2, .int x4), (5, .int s0), (0, .ref 50), (1, .int x1), (4, .int x4)] dX6_mayor_110 (Nat.le_of_ble_eq_true rfl) rfl ?_
    refine r_aload_n C 3 dX6_mayor_111 rfl ?_
    refine r_get C 0 2 dX6_mayor_112 K_X6 rfl rfl (Nat.le_of_ble_eq_true rfl) rfl m_917 rfl ?_
    refine r_aload_n C 3 dX6_mayor_115 rfl ?_
    refine r_get C 0 0 dX6_mayor_116 K_X6 rfl rfl (Nat.le_of_ble_eq_true rfl) rfl m_915 rfl ?_
    refine r_callS C (o_X6_copyRow l ((fun _ => (0 : Int32)), va_up (va_up (fun _ _ => (0 : Int32)) 0 (M'.2 2)) 1 (M'.2 0))) v_X6_copyRow m_1232 [3, 1] [.ref 53, .ref 51] [] (fun u11 => []) (fun u11 => [.inr (5, [.ref 51, .ref 52, .ref 53, .int (M'.1 3), .ref 54, .ref 55, .ref 56, .int (M'.1 7), .ref 57, .ref 58, .int (M'.1 10), .int (M'.1 11), .int (M'.1 12), .int (M'.1 13), .int (M'.1 14), .int (M'.1 15), .ref 59, .ref 60, .int (M'.1 18), .int (M'.1 19), .int (M'.1 20), .ref 61, .ref 62, .ref 63, .ref 64]), .inl (0, 68, .inl (u11.2 1)), .inl (0, 68, .inl (M'.2 1)), .inl (0, 68, .inl (u11.2 0)), .inl (0, 8, .inl (M'.2 4)), .inl (0, 1053, .inl (M'.2 5)), .inl (1, 972, .inl (M'.2 6)), .inl (0, 1053, .inl (M'.2 8)), .inl (0, 120, .inl (M'.2 9)), .inl (3, 7, .inr (.inr (.inr (.inr q_kf)))), .inl (0, 360, .inl (M'.2 17)), .inl (0, 4, .inl (M'.2 21)), .inl (0, 4, .inl (M'.2 22)), .inl (0, 160, .inl (M'.2 23)), .inl (0, 40, .inl (M'.2 24))]) rfl rfl rfl rfl rfl (Nat.le_of_ble_eq_true rfl) ⟨(Nat.le_of_ble_eq_true rfl), (Nat.le_of_ble_eq_true rfl)⟩ ⟨Nat.zero_le _, Nat.zero_le _⟩ dX6_mayor_119 (fun _ => rfl) (fun _ => rfl) (fun _ => rfl) (fun u11 => ?_)
    refine r_iinc C 5 (x4 + 1) [(4, .int (x4 + 1)), (3, .int (if s0 < x3 then s0 else x3)), (2, .int x4), (5, .int s0), (0, .ref 50), (1, .int x1)] dX6_mayor_122 rfl rfl (Nat.le_of_ble_eq_true rfl) rfl ?_
    refine r_goto C 34 dX6_mayor_125 (by decide) ?_
    refine r_lv [(0, .ref 50), (1, .int x1), (2, .int x4), (3, .int (if s0 < x3 then s0 else x3)), (4, .int (x4 + 1))] [4, 5, 2, 1, 0] rfl ?_
    exact hr34 x1 x4 (if s0 < x3 then s0 else x3) (x4 + 1) (M'.1, (va_up (va_up M'.2 0 (u11.2 1)) 2 (u11.2 0)))
set_option maxRecDepth 100000 in
set_option maxHeartbeats 4000000 in
theorem k_X6_mayor_34 {p : Program} {l : Launch} {e : Env} {s : State} {m : MethodId} {args : Array Value} {below : List Frame} {meth : Method} {c : Code} {dC : Nat → ClassId} {dI : Nat → Nat → Nat} {dA : Nat → ClassId} {A : Nat → Prop} {α : Nat → Nat} {t : Int32 × q_St} (C : q_Cx p s m args meth c cX6_mayor 6 RX6 (some .int) "mayor" dC dI dA A α) (M : q_St) (a1 : Int32)  : ∀ (n : Nat) (x1 : Int32) (x2 : Int32) (x3 : Int32) (x4 : Int32) (M' : q_St), q_S p l e (q_rm 6 136) s m args below meth c 6 dC dI dA A α (MQ below (q_Q α dC dI dA A ((fun u => some (.int u.1)) t) ((fun u => w_X6 u.2) t)) args s 0 0 A) 0 0 (f_X6_mayor_34 M a1  n x1 x2 x3 x4 M') t 34 [(0, .ref 50), (1, .int x1), (2, .int x2), (3, .int x3), (4, .int x4)] [] (w_X6 M') := by
  intro n
  induction n with
  | zero =>
    intro x1 x2 x3 x4 M'
    exact r_cut (f_X6_mayor_34.eq_1 _ _ _ _ _ _ _) (r_none True.intro)
  | succ n ih =>
    intro x1 x2 x3 x4 M'
    refine r_cut (f_X6_mayor_34.eq_2 _ _ _ _ _ _ _ _) ?_
    refine r_iload C 4 dX6_mayor_34 rfl ?_
    refine r_aload_n C 0 dX6_mayor_36 rfl ?_
    refine r_get C 0 0 dX6_mayor_37 K_X6 rfl rfl (Nat.le_of_ble_eq_true rfl) rfl m_915 rfl ?_
    refine r_iconst C (0) dX6_mayor_40 rfl ?_
    refine r_iald C 1 dX6_mayor_41 rfl rfl (fun hi41 => ?_)
    refine r_icmp_ge C 128 dX6_mayor_42 (by decide) (fun h42 => ?_) (fun h42 => ?_)
    · refine r_iload_n C 2 dX6_mayor_128 rfl ?_
      refine r_if_ge C 141 dX6_mayor_129 (by decide) (fun h129 => ?_) (fun h129 => ?_)
      · refine r_iload_n C 2 dX6_mayor_141 rfl ?_
        exact r_reti (x := x2) (rv := (fun u => some (.int u.1))) (hpE := (fun u => w_X6 u.2)) (t0 := (x2, M')) C dX6_mayor_142 (by rfl) (by rfl) (by rfl)
      · refine r_aload_n C 0 dX6_mayor_132 rfl ?_
        refine r_ldc C (-1000004) dX6_mayor_133 m_1211 ?_
        refine r_callV0 C (o_X6_finding l M' (-1000004 : Int32)) v_X6_finding m_1003 [.int (-1000004 : Int32)] [] (50) (Or.inl ⟨0, 5, _, TX6, 25, rfl, rfl, rfl⟩) (fun u4 => [.int u4.1]) (fun u4 => [.inr (5, [.ref 51, .ref 52, .ref 53, .int (u4.2.1 3), .ref 54, .ref 55, .ref 56, .int (u4.2.1 7), .ref 57, .ref 58, .int (u4.2.1 10), .int (u4.2.1 11), .int (u4.2.1 12), .int (u4.2.1 13), .int (u4.2.1 14), .int (u4.2.1 15), .ref 59, .ref 60, .int (u4.2.1 18), .int (u4.2.1 19), .int (u4.2.1 20), .ref 61, .ref 62, .ref 63, .ref 64]), .inl (0, 68, .inl (u4.2.2 0)), .inl (0, 68, .inl (u4.2.2 1)), .inl (0, 68, .inl (u4.2.2 2)), .inl (0, 8, .inl (u4.2.2 4)), .inl (0, 1053, .inl (u4.2.2 5)), .inl (1, 972, .inl (u4.2.2 6)), .inl (0, 1053, .inl (u4.2.2 8)), .inl (0, 120, .inl (u4.2.2 9)), .inl (3, 7, .inr (.inr (.inr (.inr q_kf)))), .inl (0, 360, .inl (u4.2.2 17)), .inl (0, 4, .inl (u4.2.2 21)), .inl (0, 4, .inl (u4.2.2 22)), .inl (0, 160, .inl (u4.2.2 23)), .inl (0, 40, .inl (u4.2.2 24))]) rfl rfl rfl (Nat.le_of_ble_eq_true rfl) ⟨(Nat.le_of_ble_eq_true rfl), (Nat.le_of_ble_eq_true rfl)⟩ ⟨Nat.zero_le _, Nat.zero_le _⟩ dX6_mayor_135 (fun _ => rfl) (fun _ => rfl) (fun _ => rfl) (fun u4 => ?_)
        refine r_goto C 142 dX6_mayor_138 (by decide) ?_
        exact r_reti (x := u4.1) (rv := (fun u => some (.int u.1))) (hpE := (fun u => w_X6 u.2)) (t0 := (u4.1, u4.2)) C dX6_mayor_142 (by rfl) (by rfl) (by rfl)
    · refine r_iload C 4 dX6_mayor_45 rfl ?_
      refine r_iload_n C 1 dX6_mayor_47 rfl ?_
      refine r_icmp_eq C 122 dX6_mayor_48 (by decide) (fun h48 => ?_) (fun h48 => ?_)
      · refine r_iinc C 4 (x4 + 1) [(4, .int (x4 + 1)), (0, .ref 50), (1, .int x1), (2, .int x2), (3, .int x3)] dX6_mayor_122 rfl rfl (Nat.le_of_ble_eq_true rfl) rfl ?_
        refine r_goto C 34 dX6_mayor_125 (by decide) ?_
        refine r_lv [(0, .ref 50), (1, .int x1), (2, .int x2), (3, .int x3), (4, .int (x4 + 1))] [1, 2, 3, 4, 0] rfl ?_
        exact ih x1 x2 x3 (x4 + 1) M'
      · refine r_aload_n C 0 dX6_mayor_51 rfl ?_
        refine r_iload_n C 1 dX6_mayor_52 rfl ?_
        refine r_iload C 4 dX6_mayor_53 rfl ?_
        refine r_callV0 C (o_X6_areTogether l M' x1 x4) v_X6_areTogether m_1235 [.int x1, .int x4] [] (50) (Or.inl ⟨0, 5, _, TX6, 25, rfl, rfl, rfl⟩) (fun u5 => [.int u5]) (fun u5 => [.inr (5, [.ref 51, .ref 52, .ref 53, .int (M'.1 3), .ref 54, .ref 55, .ref 56, .int (M'.1 7), .ref 57, .ref 58, .int (M'.1 10), .int (M'.1 11), .int (M'.1 12), .int (M'.1 13), .int (M'.1 14), .int (M'.1 15), .ref 59, .ref 60, .int (M'.1 18), .int (M'.1 19), .int (M'.1 20), .ref 61, .ref 62, .ref 63, .ref 64]), .inl (0, 68, .inl (M'.2 0)), .inl (0, 68, .inl (M'.2 1)), .inl (0, 68, .inl (M'.2 2)), .inl (0, 8, .inl (M'.2 4)), .inl (0, 1053, .inl (M'.2 5)), .inl (1, 972, .inl (M'.2 6)), .inl (0, 1053, .inl (M'.2 8)), .inl (0, 120, .inl (M'.2 9)), .inl (3, 7, .inr (.inr (.inr (.inr q_kf)))), .inl (0, 360, .inl (M'.2 17)), .inl (0, 4, .inl (M'.2 21)), .inl (0, 4, .inl (M'.2 22)), .inl (0, 160, .inl (M'.2 23)), .inl (0, 40, .inl (M'.2 24))]) rfl rfl rfl (Nat.le_of_ble_eq_true rfl) ⟨(Nat.le_of_ble_eq_true rfl), (Nat.le_of_ble_eq_true rfl)⟩ ⟨Nat.zero_le _, Nat.zero_le _⟩ dX6_mayor_55 (fun _ => rfl) (fun _ => rfl) (fun _ => rfl) (fun u5 => ?_)
        refine r_if_ne C 122 dX6_mayor_58 (by decide) (fun h58 => ?_) (fun h58 => ?_)
        · refine r_aload_n C 0 dX6_mayor_61 rfl ?_
          refine r_iload_n C 1 dX6_mayor_62 rfl ?_
          refine r_iload C 4 dX6_mayor_63 rfl ?_
          refine r_callV0 C (o_X6_comesFor l M' x1 x4) v_X6_comesFor m_1239 [.int x1, .int x4] [] (50) (Or.inl ⟨0, 5, _, TX6, 25, rfl, rfl, rfl⟩) (fun u6 => []) (fun u6 => [.inr (5, [.ref 51, .ref 52, .ref 53, .int (u6.1 3), .ref 54, .ref 55, .ref 56, .int (u6.1 7), .ref 57, .ref 58, .int (u6.1 10), .int (u6.1 11), .int (u6.1 12), .int (u6.1 13), .int (u6.1 14), .int (u6.1 15), .ref 59, .ref 60, .int (u6.1 18), .int (u6.1 19), .int (u6.1 20), .ref 61, .ref 62, .ref 63, .ref 64]), .inl (0, 68, .inl (u6.2 0)), .inl (0, 68, .inl (u6.2 1)), .inl (0, 68, .inl (u6.2 2)), .inl (0, 8, .inl (u6.2 4)), .inl (0, 1053, .inl (u6.2 5)), .inl (1, 972, .inl (u6.2 6)), .inl (0, 1053, .inl (u6.2 8)), .inl (0, 120, .inl (u6.2 9)), .inl (3, 7, .inr (.inr (.inr (.inr q_kf)))), .inl (0, 360, .inl (u6.2 17)), .inl (0, 4, .inl (u6.2 21)), .inl (0, 4, .inl (u6.2 22)), .inl (0, 160, .inl (u6.2 23)), .inl (0, 40, .inl (u6.2 24))]) rfl rfl rfl (Nat.le_of_ble_eq_true rfl) ⟨(Nat.le_of_ble_eq_true rfl), (Nat.le_of_ble_eq_true rfl)⟩ ⟨Nat.zero_le _, Nat.zero_le _⟩ dX6_mayor_65 (fun _ => rfl) (fun _ => rfl) (fun _ => rfl) (fun u6 => ?_)
          refine r_aload_n C 0 dX6_mayor_68 rfl ?_
          refine r_callV0 C (o_X6_doesGo l u6) v_X6_doesGo m_1163 [] [] (50) (Or.inl ⟨0, 5, _, TX6, 25, rfl, rfl, rfl⟩) (fun u7 => [.int u7]) (fun u7 => [.inr (5, [.ref 51, .ref 52, .ref 53, .int (u6.1 3), .ref 54, .ref 55, .ref 56, .int (u6.1 7), .ref 57, .ref 58, .int (u6.1 10), .int (u6.1 11), .int (u6.1 12), .int (u6.1 13), .int (u6.1 14), .int (u6.1 15), .ref 59, .ref 60, .int (u6.1 18), .int (u6.1 19), .int (u6.1 20), .ref 61, .ref 62, .ref 63, .ref 64]), .inl (0, 68, .inl (u6.2 0)), .inl (0, 68, .inl (u6.2 1)), .inl (0, 68, .inl (u6.2 2)), .inl (0, 8, .inl (u6.2 4)), .inl (0, 1053, .inl (u6.2 5)), .inl (1, 972, .inl (u6.2 6)), .inl (0, 1053, .inl (u6.2 8)), .inl (0, 120, .inl (u6.2 9)), .inl (3, 7, .inr (.inr (.inr (.inr q_kf)))), .inl (0, 360, .inl (u6.2 17)), .inl (0, 4, .inl (u6.2 21)), .inl (0, 4, .inl (u6.2 22)), .inl (0, 160, .inl (u6.2 23)), .inl (0, 40, .inl (u6.2 24))]) rfl rfl rfl (Nat.le_of_ble_eq_true rfl) ⟨(Nat.le_of_ble_eq_true rfl), (Nat.le_of_ble_eq_true rfl)⟩ ⟨Nat.zero_le _, Nat.zero_le _⟩ dX6_mayor_69 (fun _ => rfl) (fun _ => rfl) (fun _ => rfl) (fun u7 => ?_)
          refine r_if_eq C 87 dX6_mayor_72 (by decide) (fun h72 => ?_) (fun h72 => ?_)
          · refine r_ldc C (1000000) dX6_mayor_87 m_1185 ?_
            exact k_X6_mayor_89 C M a1 (fun x1 x2 x3 x4 M' => f_X6_mayor_34 M a1  n x1 x2 x3 x4 M') ih x1 x2 x3 x4 (1000000 : Int32) u6
          · refine r_aload_n C 0 dX6_mayor_75 rfl ?_
            refine r_aload_n C 0 dX6_mayor_76 rfl ?_
            refine r_callV0 C (o_X6_allBeats l u6) v_X6_allBeats m_1167 [] [.ref 50] (50) (Or.inl ⟨0, 5, _, TX6, 25, rfl, rfl, rfl⟩) (fun u8 => [.int u8, .ref 50]) (fun u8 => [.inr (5, [.ref 51, .ref 52, .ref 53, .int (u6.1 3), .ref 54, .ref 55, .ref 56, .int (u6.1 7), .ref 57, .ref 58, .int (u6.1 10), .int (u6.1 11), .int (u6.1 12), .int (u6.1 13), .int (u6.1 14), .int (u6.1 15), .ref 59, .ref 60, .int (u6.1 18), .int (u6.1 19), .int (u6.1 20), .ref 61, .ref 62, .ref 63, .ref 64]), .inl (0, 68, .inl (u6.2 0)), .inl (0, 68, .inl (u6.2 1)), .inl (0, 68, .inl (u6.2 2)), .inl (0, 8, .inl (u6.2 4)), .inl (0, 1053, .inl (u6.2 5)), .inl (1, 972, .inl (u6.2 6)), .inl (0, 1053, .inl (u6.2 8)), .inl (0, 120, .inl (u6.2 9)), .inl (3, 7, .inr (.inr (.inr (.inr q_kf)))), .inl (0, 360, .inl (u6.2 17)), .inl (0, 4, .inl (u6.2 21)), .inl (0, 4, .inl (u6.2 22)), .inl (0, 160, .inl (u6.2 23)), .inl (0, 40, .inl (u6.2 24))]) rfl rfl rfl (Nat.le_of_ble_eq_true rfl) ⟨(Nat.le_of_ble_eq_true rfl), (Nat.le_of_ble_eq_true rfl)⟩ ⟨Nat.zero_le _, Nat.zero_le _⟩ dX6_mayor_77 (fun _ => rfl) (fun _ => rfl) (fun _ => rfl) (fun u8 => ?_)
            refine r_iconst C (0) dX6_mayor_80 rfl ?_
            refine r_callV0 C (o_X6_findWay l u6 u8 (0 : Int32)) v_X6_findWay m_1171 [.int u8, .int (0 : Int32)] [] (50) (Or.inl ⟨0, 5, _, TX6, 25, rfl, rfl, rfl⟩) (fun u9 => [.int u9.1]) (fun u9 => [.inr (5, [.ref 51, .ref 52, .ref 53, .int (u9.2.1 3), .ref 54, .ref 55, .ref 56, .int (u9.2.1 7), .ref 57, .ref 58, .int (u9.2.1 10), .int (u9.2.1 11), .int (u9.2.1 12), .int (u9.2.1 13), .int (u9.2.1 14), .int (u9.2.1 15), .ref 59, .ref 60, .int (u9.2.1 18), .int (u9.2.1 19), .int (u9.2.1 20), .ref 61, .ref 62, .ref 63, .ref 64]), .inl (0, 68, .inl (u9.2.2 0)), .inl (0, 68, .inl (u9.2.2 1)), .inl (0, 68, .inl (u9.2.2 2)), .inl (0, 8, .inl (u9.2.2 4)), .inl (0, 1053, .inl (u9.2.2 5)), .inl (1, 972, .inl (u9.2.2 6)), .inl (0, 1053, .inl (u9.2.2 8)), .inl (0, 120, .inl (u9.2.2 9)), .inl (3, 7, .inr (.inr (.inr (.inr q_kf)))), .inl (0, 360, .inl (u9.2.2 17)), .inl (0, 4, .inl (u9.2.2 21)), .inl (0, 4, .inl (u9.2.2 22)), .inl (0, 160, .inl (u9.2.2 23)), .inl (0, 40, .inl (u9.2.2 24))]) rfl rfl rfl (Nat.le_of_ble_eq_true rfl) ⟨(Nat.le_of_ble_eq_true rfl), (Nat.le_of_ble_eq_true rfl)⟩ ⟨Nat.zero_le _, Nat.zero_le _⟩ dX6_mayor_81 (fun _ => rfl) (fun _ => rfl) (fun _ => rfl) (fun u9 => ?_)
            refine r_goto C 89 dX6_mayor_84 (by decide) ?_
            exact k_X6_mayor_89 C M a1 (fun x1 x2 x3 x4 M' => f_X6_mayor_34 M a1  n x1 x2 x3 x4 M') ih x1 x2 x3 x4 u9.1 u9.2
        · refine r_iinc C 4 (x4 + 1) [(4, .int (x4 + 1)), (0, .ref 50), (1, .int x1), (2, .int x2), (3, .int x3)] dX6_mayor_122 rfl rfl (Nat.le_of_ble_eq_true rfl) rfl ?_
          refine r_goto C 34 dX6_mayor_125 (by decide) ?_
          refine r_lv [(0, .ref 50), (1, .int x1), (2, .int x2), (3, .int x3), (4, .int (x4 + 1))] [1, 2, 3, 4, 0] rfl ?_
          exact ih x1 x2 x3 (x4 + 1) M'
set_option maxRecDepth 100000 in
set_option maxHeartbeats 4000000 in
theorem o_X6_mayor (l : Launch) (M : q_St) (a1 : Int32) : q_Ok l yX6_mayor cX6_mayor 6 (some .int) 6 136 [.ref 50, .int a1] (w_X6 M) (f_X6_mayor M a1) (fun u => some (.int u.1)) (fun u => w_X6 u.2) := by
  refine q_enter (by decide +kernel) (Nat.le_of_ble_eq_true rfl) (fun t p e s m args below meth c dC dI dA A α C => ?_)
  refine r_cut (f_X6_mayor.eq_1 _ _) ?_
  show q_S p l e (q_rm 6 136) s m args below meth c 6 dC dI dA A α (MQ below (q_Q α dC dI dA A ((fun u => some (.int u.1)) t) ((fun u => w_X6 u.2) t)) args s 0 0 A) 0 0 _ t 0 [(0, .ref 50), (1, .int a1)] [] (w_X6 M)
  refine r_aload_n C 0 dX6_mayor_0 rfl ?_
  refine r_iload_n C 1 dX6_mayor_1 rfl ?_
  refine r_callV0 C (o_X6_isDoll l M a1) v_X6_isDoll m_1019 [.int a1] [] (50) (Or.inl ⟨0, 5, _, TX6, 25, rfl, rfl, rfl⟩) (fun u1 => [.int u1]) (fun u1 => [.inr (5, [.ref 51, .ref 52, .ref 53, .int (M.1 3), .ref 54, .ref 55, .ref 56, .int (M.1 7), .ref 57, .ref 58, .int (M.1 10), .int (M.1 11), .int (M.1 12), .int (M.1 13), .int (M.1 14), .int (M.1 15), .ref 59, .ref 60, .int (M.1 18), .int (M.1 19), .int (M.1 20), .ref 61, .ref 62, .ref 63, .ref 64]), .inl (0, 68, .inl (M.2 0)), .inl (0, 68, .inl (M.2 1)), .inl (0, 68, .inl (M.2 2)), .inl (0, 8, .inl (M.2 4)), .inl (0, 1053, .inl (M.2 5)), .inl (1, 972, .inl (M.2 6)), .inl (0, 1053, .inl (M.2 8)), .inl (0, 120, .inl (M.2 9)), .inl (3, 7, .inr (.inr (.inr (.inr q_kf)))), .inl (0, 360, .inl (M.2 17)), .inl (0, 4, .inl (M.2 21)), .inl (0, 4, .inl (M.2 22)), .inl (0, 160, .inl (M.2 23)), .inl (0, 40, .inl (M.2 24))]) rfl rfl rfl (Nat.le_of_ble_eq_true rfl) ⟨(Nat.le_of_ble_eq_true rfl), (Nat.le_of_ble_eq_true rfl)⟩ ⟨Nat.zero_le _, Nat.zero_le _⟩ dX6_mayor_2 (fun _ => rfl) (fun _ => rfl) (fun _ => rfl) (fun u1 => ?_)
  refine r_if_ne C 15 dX6_mayor_5 (by decide) (fun h5 => ?_) (fun h5 => ?_)
  · refine r_aload_n C 0 dX6_mayor_8 rfl ?_
    refine r_ldc C (-1000001) dX6_mayor_9 m_1002 ?_
    refine r_callV0 C (o_X6_finding l M (-1000001 : Int32)) v_X6_finding m_1003 [.int (-1000001 : Int32)] [] (50) (Or.inl ⟨0, 5, _, TX6, 25, rfl, rfl, rfl⟩) (fun u3 => [.int u3.1]) (fun u3 => [.inr (5, [.ref 51, .ref 52, .ref 53, .int (u3.2.1 3), .ref 54, .ref 55, .ref 56, .int (u3.2.1 7), .ref 57, .ref 58, .int (u3.2.1 10), .int (u3.2.1 11), .int (u3.2.1 12), .int (u3.2.1 13), .int (u3.2.1 14), .int (u3.2.1 15), .ref 59, .ref 60, .int (u3.2.1 18), .int (u3.2.1 19), .int (u3.2.1 20), .ref 61, .ref 62, .ref 63, .ref 64]), .inl (0, 68, .inl (u3.2.2 0)), .inl (0, 68, .inl (u3.2.2 1)), .inl (0, 68, .inl (u3.2.2 2)), .inl (0, 8, .inl (u3.2.2 4)), .inl (0, 1053, .inl (u3.2.2 5)), .inl (1, 972, .inl (u3.2.2 6)), .inl (0, 1053, .inl (u3.2.2 8)), .inl (0, 120, .inl (u3.2.2 9)), .inl (3, 7, .inr (.inr (.inr (.inr q_kf)))), .inl (0, 360, .inl (u3.2.2 17)), .inl (0, 4, .inl (u3.2.2 21)), .inl (0, 4, .inl (u3.2.2 22)), .inl (0, 160, .inl (u3.2.2 23)), .inl (0, 40, .inl (u3.2.2 24))]) rfl rfl rfl (Nat.le_of_ble_eq_true rfl) ⟨(Nat.le_of_ble_eq_true rfl), (Nat.le_of_ble_eq_true rfl)⟩ ⟨Nat.zero_le _, Nat.zero_le _⟩ dX6_mayor_11 (fun _ => rfl) (fun _ => rfl) (fun _ => rfl) (fun u3 => ?_)
    exact r_reti (x := u3.1) (rv := (fun u => some (.int u.1))) (hpE := (fun u => w_X6 u.2)) (t0 := (u3.1, u3.2)) C dX6_mayor_14 (by rfl) (by rfl) (by rfl)
  · refine r_aload_n C 0 dX6_mayor_15 rfl ?_
    refine r_get C 0 0 dX6_mayor_16 K_X6 rfl rfl (Nat.le_of_ble_eq_true rfl) rfl m_915 rfl ?_
    refine r_aload_n C 0 dX6_mayor_19 rfl ?_
    refine r_get C 0 2 dX6_mayor_20 K_X6 rfl rfl (Nat.le_of_ble_eq_true rfl) rfl m_917 rfl ?_
    refine r_callS C (o_X6_copyRow l ((fun _ => (0 : Int32)), va_up (va_up (fun _ _ => (0 : Int32)) 0 (M.2 0)) 1 (M.2 2))) v_X6_copyRow m_1232 [1, 3] [.ref 51, .ref 53] [] (fun u2 => []) (fun u2 => [.inr (5, [.ref 51, .ref 52, .ref 53, .int (M.1 3), .ref 54, .ref 55, .ref 56, .int (M.1 7), .ref 57, .ref 58, .int (M.1 10), .int (M.1 11), .int (M.1 12), .int (M.1 13), .int (M.1 14), .int (M.1 15), .ref 59, .ref 60, .int (M.1 18), .int (M.1 19), .int (M.1 20), .ref 61, .ref 62, .ref 63, .ref 64]), .inl (0, 68, .inl (u2.2 0)), .inl (0, 68, .inl (M.2 1)), .inl (0, 68, .inl (u2.2 1)), .inl (0, 8, .inl (M.2 4)), .inl (0, 1053, .inl (M.2 5)), .inl (1, 972, .inl (M.2 6)), .inl (0, 1053, .inl (M.2 8)), .inl (0, 120, .inl (M.2 9)), .inl (3, 7, .inr (.inr (.inr (.inr q_kf)))), .inl (0, 360, .inl (M.2 17)), .inl (0, 4, .inl (M.2 21)), .inl (0, 4, .inl (M.2 22)), .inl (0, 160, .inl (M.2 23)), .inl (0, 40, .inl (M.2 24))]) rfl rfl rfl rfl rfl (Nat.le_of_ble_eq_true rfl) ⟨(Nat.le_of_ble_eq_true rfl), (Nat.le_of_ble_eq_true rfl)⟩ ⟨Nat.zero_le _, Nat.zero_le _⟩ dX6_mayor_23 (fun _ => rfl) (fun _ => rfl) (fun _ => rfl) (fun u2 => ?_)
    refine r_iconst C (-1) dX6_mayor_26 rfl ?_
    refine r_istore_n C [(2, .int (-1 : Int32)), (0, .ref 50), (1, .int a1)] dX6_mayor_27 (Nat.le_of_ble_eq_true rfl) rfl ?_
    refine r_ldc C (1000000) dX6_mayor_28 m_1185 ?_
    refine r_istore_n C [(3, .int (1000000 : Int32)), (2, .int (-1 : Int32)), (0, .ref 50), (1, .int a1)] dX6_mayor_30 (Nat.le_of_ble_eq_true rfl) rfl ?_
    refine r_iconst C (0) dX6_mayor_31 rfl ?_
    refine r_istore C [(4, .int (0 : Int32)), (3, .int (1000000 : Int32)), (2, .int (-1 : Int32)), (0, .ref 50), (1, .int a1)] dX6_mayor_32 (Nat.le_of_ble_eq_true rfl) rfl ?_
    refine r_lv [(0, .ref 50), (1, .int a1), (2, .int (-1 : Int32)), (3, .int (1000000 : Int32)), (4, .int (0 : Int32))] [3, 4, 2, 1, 0] rfl ?_
    exact k_X6_mayor_34 C M a1   q_N a1 (-1 : Int32) (1000000 : Int32) (0 : Int32) (M.1, (va_up (va_up M.2 0 (u2.2 0)) 2 (u2.2 1)))
set_option maxRecDepth 100000 in
set_option maxHeartbeats 4000000 in
theorem k_X6_leave_232 {p : Program} {l : Launch} {e : Env} {s : State} {m : MethodId} {args : Array Value} {below : List Frame} {meth : Method} {c : Code} {dC : Nat → ClassId} {dI : Nat → Nat → Nat} {dA : Nat → ClassId} {A : Nat → Prop} {α : Nat → Nat} {t : Int32 × q_St} (C : q_Cx p s m args meth c cX6_leave 8 RX6 (some .int) "leave" dC dI dA A α) (M : q_St) (a1 : Int32)  : ∀ (n : Nat) (x1 : Int32) (x2 : Int32) (x3 : Int32) (M' : q_St), q_S p l e (q_rm 5 110) s m args below meth c 8 dC dI dA A α (MQ below (q_Q α dC dI dA A ((fun u => some (.int u.1)) t) ((fun u => w_X6 u.2) t)) args s 0 0 A) 0 0 (f_X6_leave_232 M a1  n x1 x2 x3 M') t 232 [(0, .ref 50), (1, .int x1), (2, .int x2), (3, .int x3)] [] (w_X6 M') := by
  intro n
  induction n with
  | zero =>
    intro x1 x2 x3 M'
    exact r_cut (f_X6_leave_232.eq_1 _ _ _ _ _ _) (r_none True.intro)
  | succ n ih =>
    intro x1 x2 x3 M'
    refine r_cut (f_X6_leave_232.eq_2 _ _ _ _ _ _ _) ?_
    refine r_iload_n C 3 dX6_leave_232 rfl ?_
    refine r_sipush C (1053) dX6_leave_233 rfl ?_
    refine r_icmp_ge C 268 dX6_leave_236 (by decide) (fun h236 => ?_) (fun h236 => ?_)
    · refine r_aload_n C 0 dX6_leave_268 rfl ?_
      refine r_get C 0 0 dX6_leave_269 K_X6 rfl rfl (Nat.le_of_ble_eq_true rfl) rfl m_915 rfl ?_
      refine r_iconst C (1) dX6_leave_272 rfl ?_
      refine r_iald C 1 dX6_leave_273 rfl rfl (fun hi273 => ?_)
      refine r_iload_n C 2 dX6_leave_274 rfl ?_
      refine r_isub C dX6_leave_275 ?_
      exact r_reti (x := ((M'.2 0 (1 : Int32).toNatClampNeg) - x2)) (rv := (fun u => some (.int u.1))) (hpE := (fun u => w_X6 u.2)) (t0 := (((M'.2 0 (1 : Int32).toNatClampNeg) - x2), M')) C dX6_leave_276 (by rfl) (by rfl) (by rfl)
    · refine r_aload_n C 0 dX6_leave_239 rfl ?_
      refine r_get C 0 8 dX6_leave_240 K_X6 rfl rfl (Nat.le_of_ble_eq_true rfl) rfl m_923 rfl ?_
      refine r_iload_n C 3 dX6_leave_243 rfl ?_
      refine r_iald C 7 dX6_leave_244 rfl rfl (fun hi244 => ?_)
      refine r_iload_n C 1 dX6_leave_245 rfl ?_
      refine r_icmp_gt C 260 dX6_leave_246 (by decide) (fun h246 => ?_) (fun h246 => ?_)
      · refine r_iload_n C 2 dX6_leave_260 rfl ?_
        refine r_istore_n C [(2, .int x2), (0, .ref 50), (1, .int x1), (3, .int x3)] dX6_leave_261 (Nat.le_of_ble_eq_true rfl) rfl ?_
        refine r_iinc C 3 (x3 + 1) [(3, .int (x3 + 1)), (2, .int x2), (0, .ref 50), (1, .int x1)] dX6_leave_262 rfl rfl (Nat.le_of_ble_eq_true rfl) rfl ?_
        refine r_goto C 232 dX6_leave_265 (by decide) ?_
        refine r_lv [(0, .ref 50), (1, .int x1), (2, .int x2), (3, .int (x3 + 1))] [2, 3, 1, 0] rfl ?_
        exact ih x1 x2 (x3 + 1) M'
      · refine r_iload_n C 2 dX6_leave_249 rfl ?_
        refine r_iload_n C 3 dX6_leave_250 rfl ?_
        refine r_bipush C (81) dX6_leave_251 rfl ?_
        refine r_idiv C dX6_leave_253 (by decide) ?_
        refine r_mmax C dX6_leave_254 m_1041 m_844 m_8 m_845 (Nat.le_of_ble_eq_true rfl) (Nat.le_of_ble_eq_true rfl) (Nat.zero_le _) (Nat.zero_le _) ?_
        refine r_goto C 261 dX6_leave_257 (by decide) ?_
        refine r_istore_n C [(2, .int (if x2 < (x3 / (81 : Int32)) then (x3 / (81 : Int32)) else x2)), (0, .ref 50), (1, .int x1), (3, .int x3)] dX6_leave_261 (Nat.le_of_ble_eq_true rfl) rfl ?_
        refine r_iinc C 3 (x3 + 1) [(3, .int (x3 + 1)), (2, .int (if x2 < (x3 / (81 : Int32)) then (x3 / (81 : Int32)) else x2)), (0, .ref 50), (1, .int x1)] dX6_leave_262 rfl rfl (Nat.le_of_ble_eq_true rfl) rfl ?_
        refine r_goto C 232 dX6_leave_265 (by decide) ?_
        refine r_lv [(0, .ref 50), (1, .int x1), (2, .int (if x2 < (x3 / (81 : Int32)) then (x3 / (81 : Int32)) else x2)), (3, .int (x3 + 1))] [2, 3, 1, 0] rfl ?_
        exact ih x1 (if x2 < (x3 / (81 : Int32)) then (x3 / (81 : Int32)) else x2) (x3 + 1) M'
set_option maxRecDepth 100000 in
set_option maxHeartbeats 4000000 in
theorem k_X6_leave_147 {p : Program} {l : Launch} {e : Env} {s : State} {m : MethodId} {args : Array Value} {below : List Frame} {meth : Method} {c : Code} {dC : Nat → ClassId} {dI : Nat → Nat → Nat} {dA : Nat → ClassId} {A : Nat → Prop} {α : Nat → Nat} {t : Int32 × q_St} (C : q_Cx p s m args meth c cX6_leave 8 RX6 (some .int) "leave" dC dI dA A α) (M : q_St) (a1 : Int32) (r52 : Int32 → Int32 → q_St → Option (Int32 × q_St)) (r64 : Int32 → Int32 → Int32 → q_St → Option (Int32 × q_St)) (r79 : Int32 → Int32 → Int32 → Int32 → q_St → Option (Int32 × q_St))
    (hr52 : ∀ (x1 : Int32) (x2 : Int32) (M' : q_St), q_S p l e (q_rm 5 110) s m args below meth c 8 dC dI dA A α (MQ below (q_Q α dC dI dA A ((fun u => some (.int u.1)) t) ((fun u => w_X6 u.2) t)) args s 0 0 A) 0 0 (r52 x1 x2 M') t 52 [(0, .ref 50), (1, .int x1), (2, .int x2)] [] (w_X6 M'))
    (hr64 : ∀ (x1 : Int32) (x2 : Int32) (x3 : Int32) (M' : q_St), q_S p l e (q_rm 5 110) s m args below meth c 8 dC dI dA A α (MQ below (q_Q α dC dI dA A ((fun u => some (.int u.1)) t) ((fun u => w_X6 u.2) t)) args s 0 0 A) 0 0 (r64 x1 x2 x3 M') t 64 [(0, .ref 50), (1, .int x1), (2, .int x2), (3, .int x3)] [] (w_X6 M'))
    (hr79 : ∀ (x1 : Int32) (x2 : Int32) (x3 : Int32) (x4 : Int32) (M' : q_St), q_S p l e (q_rm 5 110) s m args below meth c 8 dC dI dA A α (MQ below (q_Q α dC dI dA A ((fun u => some (.int u.1)) t) ((fun u => w_X6 u.2) t)) args s 0 0 A) 0 0 (r79 x1 x2 x3 x4 M') t 79 [(0, .ref 50), (1, .int x1), (2, .int x2), (3, .int x3), (4, .int x4)] [] (w_X6 M')) : ∀ (n : Nat) (x1 : Int32) (x2 : Int32) (x3 : Int32) (x4 : Int32) (x5 : Int32) (x6 : Int32) (x7 : Int32) (M' : q_St), q_S p l e (q_rm 5 110) s m args below meth c 8 dC dI dA A α (MQ below (q_Q α dC dI dA A ((fun u => some (.int u.1)) t) ((fun u => w_X6 u.2) t)) args s 0 0 A) 0 0 (f_X6_leave_147 M a1 r52 r64 r79 n x1 x2 x3 x4 x5 x6 x7 M') t 147 [(0, .ref 50), (1, .int x1), (2, .int x2), (3, .int x3), (4, .int x4), (5, .int x5), (6, .int x6), (7, .int x7)] [] (w_X6 M') := by
  intro n
  induction n with
  | zero =>
    intro x1 x2 x3 x4 x5 x6 x7 M'
    exact r_cut (f_X6_leave_147.eq_1 _ _ _ _ _ _ _ _ _ _ _ _ _) (r_none True.intro)
  | succ n ih =>
    intro x1 x2 x3 x4 x5 x6 x7 M'
    refine r_cut (f_X6_leave_147.eq_2 _ _ _ _ _ _ _ _ _ _ _ _ _ _) ?_
    refine r_iload C 7 dX6_leave_147 rfl ?_
    refine r_bipush C (81) dX6_leave_149 rfl ?_
    refine r_icmp_ge C 194 dX6_leave_151 (by decide) (fun h151 => ?_) (fun h151 => ?_)
    · refine r_aload_n C 0 dX6_leave_194 rfl ?_
      refine r_get C 0 8 dX6_leave_195 K_X6 rfl rfl (Nat.le_of_ble_eq_true rfl) rfl m_923 rfl ?_
      refine r_iload_n C 3 dX6_leave_198 rfl ?_
      refine r_iconst C (1) dX6_leave_199 rfl ?_
      refine r_iadd C dX6_leave_200 ?_
      refine r_bipush C (81) dX6_leave_201 rfl ?_
      refine r_imul C dX6_leave_203 ?_
      refine r_iload C 4 dX6_leave_204 rfl ?_
      refine r_iadd C dX6_leave_206 ?_
      refine r_iload C 6 dX6_leave_207 rfl ?_
      refine r_iast C 7 _ dX6_leave_209 rfl rfl rfl (fun hi209 => ?_)
      refine r_iinc C 4 (x4 + 1) [(4, .int (x4 + 1)), (0, .ref 50), (1, .int x1), (2, .int x2), (3, .int x3), (5, .int x5), (6, .int x6), (7, .int x7)] dX6_leave_210 rfl rfl (Nat.le_of_ble_eq_true rfl) rfl ?_
      refine r_goto C 79 dX6_leave_213 (by decide) ?_
      refine r_lv [(0, .ref 50), (1, .int x1), (2, .int x2), (3, .int x3), (4, .int (x4 + 1))] [1, 2, 3, 4, 0] rfl ?_
      exact hr79 x1 x2 x3 (x4 + 1) (M'.1, (va_up M'.2 8 (upd (M'.2 8) (((x3 + (1 : Int32)) * (81 : Int32)) + x4).toNatClampNeg x6)))
    · refine r_iload C 5 dX6_leave_154 rfl ?_
      refine r_if_eq C 194 dX6_leave_156 (by decide) (fun h156 => ?_) (fun h156 => ?_)
      · refine r_aload_n C 0 dX6_leave_194 rfl ?_
        refine r_get C 0 8 dX6_leave_195 K_X6 rfl rfl (Nat.le_of_ble_eq_true rfl) rfl m_923 rfl ?_
        refine r_iload_n C 3 dX6_leave_198 rfl ?_
        refine r_iconst C (1) dX6_leave_199 rfl ?_
        refine r_iadd C dX6_leave_200 ?_
        refine r_bipush C (81) dX6_leave_201 rfl ?_
        refine r_imul C dX6_leave_203 ?_
        refine r_iload C 4 dX6_leave_204 rfl ?_
        refine r_iadd C dX6_leave_206 ?_
        refine r_iload C 6 dX6_leave_207 rfl ?_
        refine r_iast C 7 _ dX6_leave_209 rfl rfl rfl (fun hi209 => ?_)
        refine r_iinc C 4 (x4 + 1) [(4, .int (x4 + 1)), (0, .ref 50), (1, .int x1), (2, .int x2), (3, .int x3), (5, .int x5), (6, .int x6), (7, .int x7)] dX6_leave_210 rfl rfl (Nat.le_of_ble_eq_true rfl) rfl ?_
        refine r_goto C 79 dX6_leave_213 (by decide) ?_
        refine r_lv [(0, .ref 50), (1, .int x1), (2, .int x2), (3, .int x3), (4, .int (x4 + 1))] [1, 2, 3, 4, 0] rfl ?_
        exact hr79 x1 x2 x3 (x4 + 1) (M'.1, (va_up M'.2 8 (upd (M'.2 8) (((x3 + (1 : Int32)) * (81 : Int32)) + x4).toNatClampNeg x6)))
      · refine r_iload C 6 dX6_leave_159 rfl ?_
        refine r_aload_n C 0 dX6_leave_161 rfl ?_
        refine r_get C 0 8 dX6_leave_162 K_X6 rfl rfl (Nat.le_of_ble_eq_true rfl) rfl m_923 rfl ?_
        refine r_iload_n C 3 dX6_leave_165 rfl ?_
        refine r_bipush C (81) dX6_leave_166 rfl ?_
        refine r_imul C dX6_leave_168 ?_
        refine r_iload C 7 dX6_leave_169 rfl ?_
        refine r_iadd C dX6_leave_171 ?_
        refine r_iald C 7 dX6_leave_172 rfl rfl (fun hi172 => ?_)
        refine r_aload_n C 0 dX6_leave_173 rfl ?_
        refine r_iload C 7 dX6_leave_174 rfl ?_
        refine r_iload C 4 dX6_leave_176 rfl ?_
        refine r_iconst C (0) dX6_leave_178 rfl ?_
        refine r_callV0 C (o_X6_worthBetween l M' x7 x4 (0 : Int32)) v_X6_worthBetween m_1186 [.int x7, .int x4, .int (0 : Int32)] [.int (M'.2 8 ((x3 * (81 : Int32)) + x7).toNatClampNeg), .int x6] (50) (Or.inl ⟨0, 5, _, TX6, 25, rfl, rfl, rfl⟩) (fun u11 => [.int u11, .int (M'.2 8 ((x3 * (81 : Int32)) + x7).toNatClampNeg), .int x6]) (fun u11 => [.inr (5, [.ref 51, .ref 52, .ref 53, .int (M'.1 3), .ref 54, .ref 55, .ref 56, .int (M'.1 7), .ref 57, .ref 58, .int (M'.1 10), .int (M'.1 11), .int (M'.1 12), .int (M'.1 13), .int (M'.1 14), .int (M'.1 15), .ref 59, .ref 60, .int (M'.1 18), .int (M'.1 19), .int (M'.1 20), .ref 61, .ref 62, .ref 63, .ref 64]), .inl (0, 68, .inl (M'.2 0)), .inl (0, 68, .inl (M'.2 1)), .inl (0, 68, .inl (M'.2 2)), .inl (0, 8, .inl (M'.2 4)), .inl (0, 1053, .inl (M'.2 5)), .inl (1, 972, .inl (M'.2 6)), .inl (0, 1053, .inl (M'.2 8)), .inl (0, 120, .inl (M'.2 9)), .inl (3, 7, .inr (.inr (.inr (.inr q_kf)))), .inl (0, 360, .inl (M'.2 17)), .inl (0, 4, .inl (M'.2 21)), .inl (0, 4, .inl (M'.2 22)), .inl (0, 160, .inl (M'.2 23)), .inl (0, 40, .inl (M'.2 24))]) rfl rfl rfl (Nat.le_of_ble_eq_true rfl) ⟨(Nat.le_of_ble_eq_true rfl), (Nat.le_of_ble_eq_true rfl)⟩ ⟨Nat.zero_le _, Nat.zero_le _⟩ dX6_leave_179 (fun _ => rfl) (fun _ => rfl) (fun _ => rfl) (fun u11 => ?_)
        refine r_iadd C dX6_leave_182 ?_
        refine r_mmin C dX6_leave_183 m_1190 m_465 m_8 m_466 (Nat.le_of_ble_eq_true rfl) (Nat.le_of_ble_eq_true rfl) (Nat.zero_le _) (Nat.zero_le _) ?_
        refine r_istore C [(6, .int (if ((M'.2 8 ((x3 * (81 : Int32)) + x7).toNatClampNeg) + u11) < x6 then ((M'.2 8 ((x3 * (81 : Int32)) + x7).toNatClampNeg) + u11) else x6)), (0, .ref 50), (1, .int x1), (2, .int x2), (3, .int x3), (4, .int x4), (5, .int x5), (7, .int x7)] dX6_leave_186 (Nat.le_of_ble_eq_true rfl) rfl ?_
        refine r_iinc C 7 (x7 + 1) [(7, .int (x7 + 1)), (6, .int (if ((M'.2 8 ((x3 * (81 : Int32)) + x7).toNatClampNeg) + u11) < x6 then ((M'.2 8 ((x3 * (81 : Int32)) + x7).toNatClampNeg) + u11) else x6)), (0, .ref 50), (1, .int x1), (2, .int x2), (3, .int x3), (4, .int x4), (5, .int x5)] dX6_leave_188 rfl rfl (Nat.le_of_ble_eq_true rfl) rfl ?_
        refine r_goto C 147 dX6_leave_191 (by decide) ?_
        refine r_lv [(0, .ref 50), (1, .int x1), (2, .int x2), (3, .int x3), (4, .int x4), (5, .int x5), (6, .int (if ((M'.2 8 ((x3 * (81 : Int32)) + x7).toNatClampNeg) + u11) < x6 then ((M'.2 8 ((x3 * (81 : Int32)) + x7).toNatClampNeg) + u11) else x6)), (7, .int (x7 + 1))] [2, 3, 4, 5, 6, 7, 1, 0] rfl ?_
        exact ih x1 x2 x3 x4 x5 (if ((M'.2 8 ((x3 * (81 : Int32)) + x7).toNatClampNeg) + u11) < x6 then ((M'.2 8 ((x3 * (81 : Int32)) + x7).toNatClampNeg) + u11) else x6) (x7 + 1) M'
set_option maxRecDepth 100000 in
set_option maxHeartbeats 4000000 in
theorem k_X6_leave_125 {p : Program} {l : Launch} {e : Env} {s : State} {m : MethodId} {args : Array Value} {below : List Frame} {meth : Method} {c : Code} {dC : Nat → ClassId} {dI : Nat → Nat → Nat} {dA : Nat → ClassId} {A : Nat → Prop} {α : Nat → Nat} {t : Int32 × q_St} (C : q_Cx p s m args meth c cX6_leave 8 RX6 (some .int) "leave" dC dI dA A α) (M : q_St) (a1 : Int32) (r52 : Int32 → Int32 → q_St → Option (Int32 × q_St)) (r64 : Int32 → Int32 → Int32 → q_St → Option (Int32 × q_St)) (r79 : Int32 → Int32 → Int32 → Int32 → q_St → Option (Int32 × q_St))
    (hr52 : ∀ (x1 : Int32) (x2 : Int32) (M' : q_St), q_S p l e (q_rm 5 110) s m args below meth c 8 dC dI dA A α (MQ below (q_Q α dC dI dA A ((fun u => some (.int u.1)) t) ((fun u => w_X6 u.2) t)) args s 0 0 A) 0 0 (r52 x1 x2 M') t 52 [(0, .ref 50), (1, .int x1), (2, .int x2)] [] (w_X6 M'))
    (hr64 : ∀ (x1 : Int32) (x2 : Int32) (x3 : Int32) (M' : q_St), q_S p l e (q_rm 5 110) s m args below meth c 8 dC dI dA A α (MQ below (q_Q α dC dI dA A ((fun u => some (.int u.1)) t) ((fun u => w_X6 u.2) t)) args s 0 0 A) 0 0 (r64 x1 x2 x3 M') t 64 [(0, .ref 50), (1, .int x1), (2, .int x2), (3, .int x3)] [] (w_X6 M'))
    (hr79 : ∀ (x1 : Int32) (x2 : Int32) (x3 : Int32) (x4 : Int32) (M' : q_St), q_S p l e (q_rm 5 110) s m args below meth c 8 dC dI dA A α (MQ below (q_Q α dC dI dA A ((fun u => some (.int u.1)) t) ((fun u => w_X6 u.2) t)) args s 0 0 A) 0 0 (r79 x1 x2 x3 x4 M') t 79 [(0, .ref 50), (1, .int x1), (2, .int x2), (3, .int x3), (4, .int x4)] [] (w_X6 M')) : ∀ (x1 : Int32) (x2 : Int32) (x3 : Int32) (x4 : Int32) (M' : q_St), q_S p l e (q_rm 5 110) s m args below meth c 8 dC dI dA A α (MQ below (q_Q α dC dI dA A ((fun u => some (.int u.1)) t) ((fun u => w_X6 u.2) t)) args s 0 0 A) 0 0 (f_X6_leave_125 M a1 r52 r64 r79 x1 x2 x3 x4 M') t 125 [(0, .ref 50), (1, .int x1), (2, .int x2), (3, .int x3), (4, .int x4)] [] (w_X6 M') := by
  intro x1 x2 x3 x4 M'
  refine r_cut (f_X6_leave_125.eq_1 _ _ _ _ _ _ _ _ _ _) ?_
  refine r_iconst C (0) dX6_leave_125 rfl ?_
  refine r_istore C [(5, .int (0 : Int32)), (0, .ref 50), (1, .int x1), (2, .int x2), (3, .int x3), (4, .int x4)] dX6_leave_126 (Nat.le_of_ble_eq_true rfl) rfl ?_
  refine r_aload_n C 1 dX6_leave_128 rfl ?_
  refine r_get C 0 8 dX6_leave_129 K_X6 rfl rfl (Nat.le_of_ble_eq_true rfl) rfl m_923 rfl ?_
  refine r_iload_n C 4 dX6_leave_132 rfl ?_
  refine r_iconst C (1) dX6_leave_133 rfl ?_
  refine r_iadd C dX6_leave_134 ?_
  refine r_bipush C (81) dX6_leave_135 rfl ?_
  refine r_imul C dX6_leave_137 ?_
  refine r_iload C 5 dX6_leave_138 rfl ?_
  refine r_iadd C dX6_leave_140 ?_
  refine r_iald C 7 dX6_leave_141 rfl rfl (fun hi141 => ?_)
  refine r_istore C [(6, .int (M'.2 8 (((x3 + (1 : Int32)) * (81 : Int32)) + x4).toNatClampNeg)), (5, .int (0 : Int32)), (0, .ref 50), (1, .int x1), (2, .int x2), (3, .int x3), (4, .int x4)] dX6_leave_142 (Nat.le_of_ble_eq_true rfl) rfl ?_
  refine r_iconst C (0) dX6_leave_144 rfl ?_
  refine r_istore C [(7, .int (0 : Int32)), (6, .int (M'.2 8 (((x3 + (1 : Int32)) * (81 : Int32)) + x4).toNatClampNeg)), (5, .int (0 : Int32)), (0, .ref 50), (1, .int x1), (2, .int x2), (3, .int x3), (4, .int x4)] dX6_leave_145 (Nat.le_of_ble_eq_true rfl) rfl ?_
  refine r_lv [(0, .ref 50), (1, .int x1), (2, .int x2), (3, .int x3), (4, .int x4), (5, .int (0 : Int32)), (6, .int (M'.2 8 (((x3 + (1 : Int32)) * (81 : Int32)) + x4).toNatClampNeg)), (7, .int (0 : Int32))] [3, 4, 5, 6, 7, 2, 1, 0] rfl ?_
  exact k_X6_leave_147 C M a1 r52 r64 r79 hr52 hr64 hr79 q_N x1 x2 x3 x4 (0 : Int32) (M'.2 8 (((x3 + (1 : Int32)) * (81 : Int32)) + x4).toNatClampNeg) (0 : Int32) M'
set_option maxRecDepth 100000 in
set_option maxHeartbeats 4000000 in
theorem k_X6_leave_79 {p : Program} {l : Launch} {e : Env} {s : State} {m : MethodId} {args : Array Value} {below : List Frame} {meth : Method} {c : Code} {dC : Nat → ClassId} {dI : Nat → Nat → Nat} {dA : Nat → ClassId} {A : Nat → Prop} {α : Nat → Nat} {t : Int32 × q_St} (C : q_Cx p s m args meth c cX6_leave 8 RX6 (some .int) "leave" dC dI dA A α) (M : q_St) (a1 : Int32) (r52 : Int32 → Int32 → q_St → Option (Int32 × q_St)) (r64 : Int32 → Int32 → Int32 → q_St → Option (Int32 × q_St))
    (hr52 : ∀ (x1 : Int32) (x2 : Int32) (M' : q_St), q_S p l e (q_rm 5 110) s m args below meth c 8 dC dI dA A α (MQ below (q_Q α dC dI dA A ((fun u => some (.int u.1)) t) ((fun u => w_X6 u.2) t)) args s 0 0 A) 0 0 (r52 x1 x2 M') t 52 [(0, .ref 50), (1, .int x1), (2, .int x2)] [] (w_X6 M'))
    (hr64 : ∀ (x1 : Int32) (x2 : Int32) (x3 : Int32) (M' : q_St), q_S p l e (q_rm 5 110) s m args below meth c 8 dC dI dA A α (MQ below (q_Q α dC dI dA A ((fun u => some (.int u.1)) t) ((fun u => w_X6 u.2) t)) args s 0 0 A) 0 0 (r64 x1 x2 x3 M') t 64 [(0, .ref 50), (1, .int x1), (2, .int x2), (3, .int x3)] [] (w_X6 M')) : ∀ (n : Nat) (x1 : Int32) (x2 : Int32) (x3 : Int32) (x4 : Int32) (M' : q_St), q_S p l e (q_rm 5 110) s m args below meth c 8 dC dI dA A α (MQ below (q_Q α dC dI dA A ((fun u => some (.int u.1)) t) ((fun u => w_X6 u.2) t)) args s 0 0 A) 0 0 (f_X6_leave_79 M a1 r52 r64 n x1 x2 x3 x4 M') t 79 [(0, .ref 50), (1, .int x1), (2, .int x2), (3, .int x3), (4, .int x4)] [] (w_X6 M') := by
  intro n
  induction n with
  | zero =>
    intro x1 x2 x3 x4 M'
    exact r_cut (f_X6_leave_79.eq_1 _ _ _ _ _ _ _ _ _) (r_none True.intro)
  | succ n ih =>
    intro x1 x2 x3 x4 M'
    refine r_cut (f_X6_leave_79.eq_2 _ _ _ _ _ _ _ _ _ _) ?_
    refine r_iload C 4 dX6_leave_79 rfl ?_
    refine r_bipush C (81) dX6_leave_81 rfl ?_
    refine r_icmp_ge C 216 dX6_leave_83 (by decide) (fun h83 => ?_) (fun h83 => ?_)
    · refine r_iinc C 3 (x3 + (-1)) [(3, .int (x3 + (-1))), (0, .ref 50), (1, .int x1), (2, .int x2), (4, .int x4)] dX6_leave_216 rfl rfl (Nat.le_of_ble_eq_true rfl) rfl ?_
      refine r_goto C 64 dX6_leave_219 (by decide) ?_
      refine r_lv [(0, .ref 50), (1, .int x1), (2, .int x2), (3, .int (x3 + (-1)))] [1, 2, 3, 0] rfl ?_
      exact hr64 x1 x2 (x3 + (-1)) M'
    · refine r_aload_n C 0 dX6_leave_86 rfl ?_
      refine r_iload C 4 dX6_leave_87 rfl ?_
      refine r_callS C (o_X6_leftOf l x4) v_X6_leftOf m_1175 [] [.int x4] [.ref 50] (fun u5 => [.int u5, .ref 50]) (fun u5 => [.inr (5, [.ref 51, .ref 52, .ref 53, .int (M'.1 3), .ref 54, .ref 55, .ref 56, .int (M'.1 7), .ref 57, .ref 58, .int (M'.1 10), .int (M'.1 11), .int (M'.1 12), .int (M'.1 13), .int (M'.1 14), .int (M'.1 15), .ref 59, .ref 60, .int (M'.1 18), .int (M'.1 19), .int (M'.1 20), .ref 61, .ref 62, .ref 63, .ref 64]), .inl (0, 68, .inl (M'.2 0)), .inl (0, 68, .inl (M'.2 1)), .inl (0, 68, .inl (M'.2 2)), .inl (0, 8, .inl (M'.2 4)), .inl (0, 1053, .inl (M'.2 5)), .inl (1, 972, .inl (M'.2 6)), .inl (0, 1053, .inl (M'.2 8)), .inl (0, 120, .inl (M'.2 9)), .inl (3, 7, .inr (.inr (.inr (.inr q_kf)))), .inl (0, 360, .inl (M'.2 17)), .inl (0, 4, .inl (M'.2 21)), .inl (0, 4, .inl (M'.2 22)), .inl (0, 160, .inl (M'.2 23)), .inl (0, 40, .inl (M'.2 24))]) rfl rfl rfl rfl rfl (Nat.le_of_ble_eq_true rfl) ⟨(Nat.le_of_ble_eq_true rfl), (Nat.le_of_ble_eq_true rfl)⟩ ⟨Nat.zero_le _, Nat.zero_le _⟩ dX6_leave_89 (fun _ => rfl) (fun _ => rfl) (fun _ => rfl) (fun u5 => ?_)
      refine r_iload C 4 dX6_leave_92 rfl ?_
      refine r_callS C (o_X6_rightOf l x4) v_X6_rightOf m_1178 [] [.int x4] [.int u5, .ref 50] (fun u6 => [.int u6, .int u5, .ref 50]) (fun u6 => [.inr (5, [.ref 51, .ref 52, .ref 53, .int (M'.1 3), .ref 54, .ref 55, .ref 56, .int (M'.1 7), .ref 57, .ref 58, .int (M'.1 10), .int (M'.1 11), .int (M'.1 12), .int (M'.1 13), .int (M'.1 14), .int (M'.1 15), .ref 59, .ref 60, .int (M'.1 18), .int (M'.1 19), .int (M'.1 20), .ref 61, .ref 62, .ref 63, .ref 64]), .inl (0, 68, .inl (M'.2 0)), .inl (0, 68, .inl (M'.2 1)), .inl (0, 68, .inl (M'.2 2)), .inl (0, 8, .inl (M'.2 4)), .inl (0, 1053, .inl (M'.2 5)), .inl (1, 972, .inl (M'.2 6)), .inl (0, 1053, .inl (M'.2 8)), .inl (0, 120, .inl (M'.2 9)), .inl (3, 7, .inr (.inr (.inr (.inr q_kf)))), .inl (0, 360, .inl (M'.2 17)), .inl (0, 4, .inl (M'.2 21)), .inl (0, 4, .inl (M'.2 22)), .inl (0, 160, .inl (M'.2 23)), .inl (0, 40, .inl (M'.2 24))]) rfl rfl rfl rfl rfl (Nat.le_of_ble_eq_true rfl) ⟨(Nat.le_of_ble_eq_true rfl), (Nat.le_of_ble_eq_true rfl)⟩ ⟨Nat.zero_le _, Nat.zero_le _⟩ dX6_leave_94 (fun _ => rfl) (fun _ => rfl) (fun _ => rfl) (fun u6 => ?_)
      refine r_callV0 C (o_X6_isHold l M' u5 u6) v_X6_isHold m_1181 [.int u5, .int u6] [] (50) (Or.inl ⟨0, 5, _, TX6, 25, rfl, rfl, rfl⟩) (fun u7 => [.int u7]) (fun u7 => [.inr (5, [.ref 51, .ref 52, .ref 53, .int (M'.1 3), .ref 54, .ref 55, .ref 56, .int (M'.1 7), .ref 57, .ref 58, .int (M'.1 10), .int (M'.1 11), .int (M'.1 12), .int (M'.1 13), .int (M'.1 14), .int (M'.1 15), .ref 59, .ref 60, .int (M'.1 18), .int (M'.1 19), .int (M'.1 20), .ref 61, .ref 62, .ref 63, .ref 64]), .inl (0, 68, .inl (M'.2 0)), .inl (0, 68, .inl (M'.2 1)), .inl (0, 68, .inl (M'.2 2)), .inl (0, 8, .inl (M'.2 4)), .inl (0, 1053, .inl (M'.2 5)), .inl (1, 972, .inl (M'.2 6)), .inl (0, 1053, .inl (M'.2 8)), .inl (0, 120, .inl (M'.2 9)), .inl (3, 7, .inr (.inr (.inr (.inr q_kf)))), .inl (0, 360, .inl (M'.2 17)), .inl (0, 4, .inl (M'.2 21)), .inl (0, 4, .inl (M'.2 22)), .inl (0, 160, .inl (M'.2 23)), .inl (0, 40, .inl (M'.2 24))]) rfl rfl rfl (Nat.le_of_ble_eq_true rfl) ⟨(Nat.le_of_ble_eq_true rfl), (Nat.le_of_ble_eq_true rfl)⟩ ⟨Nat.zero_le _, Nat.zero_le _⟩ dX6_leave_97 (fun _ => rfl) (fun _ => rfl) (fun _ => rfl) (fun u7 => ?_)
      refine r_if_eq C 125 dX6_leave_100 (by decide) (fun h100 => ?_) (fun h100 => ?_)
      · exact k_X6_leave_125 C M a1 r52 r64 (fun x1 x2 x3 x4 M' => f_X6_leave_79 M a1 r52 r64 n x1 x2 x3 x4 M') hr52 hr64 ih x1 x2 x3 x4 M'
      · refine r_aload_n C 0 dX6_leave_103 rfl ?_
        refine r_iload C 4 dX6_leave_104 rfl ?_
        refine r_callS C (o_X6_leftOf l x4) v_X6_leftOf m_1175 [] [.int x4] [.ref 50] (fun u8 => [.int u8, .ref 50]) (fun u8 => [.inr (5, [.ref 51, .ref 52, .ref 53, .int (M'.1 3), .ref 54, .ref 55, .ref 56, .int (M'.1 7), .ref 57, .ref 58, .int (M'.1 10), .int (M'.1 11), .int (M'.1 12), .int (M'.1 13), .int (M'.1 14), .int (M'.1 15), .ref 59, .ref 60, .int (M'.1 18), .int (M'.1 19), .int (M'.1 20), .ref 61, .ref 62, .ref 63, .ref 64]), .inl (0, 68, .inl (M'.2 0)), .inl (0, 68, .inl (M'.2 1)), .inl (0, 68, .inl (M'.2 2)), .inl (0, 8, .inl (M'.2 4)), .inl (0, 1053, .inl (M'.2 5)), .inl (1, 972, .inl (M'.2 6)), .inl (0, 1053, .inl (M'.2 8)), .inl (0, 120, .inl (M'.2 9)), .inl (3, 7, .inr (.inr (.inr (.inr q_kf)))), .inl (0, 360, .inl (M'.2 17)), .inl (0, 4, .inl (M'.2 21)), .inl (0, 4, .inl (M'.2 22)), .inl (0, 160, .inl (M'.2 23)), .inl (0, 40, .inl (M'.2 24))]) rfl rfl rfl rfl rfl (Nat.le_of_ble_eq_true rfl) ⟨(Nat.le_of_ble_eq_true rfl), (Nat.le_of_ble_eq_true rfl)⟩ ⟨Nat.zero_le _, Nat.zero_le _⟩ dX6_leave_106 (fun _ => rfl) (fun _ => rfl) (fun _ => rfl) (fun u8 => ?_)
        refine r_iload C 4 dX6_leave_109 rfl ?_
        refine r_callS C (o_X6_rightOf l x4) v_X6_rightOf m_1178 [] [.int x4] [.int u8, .ref 50] (fun u9 => [.int u9, .int u8, .ref 50]) (fun u9 => [.inr (5, [.ref 51, .ref 52, .ref 53, .int (M'.1 3), .ref 54, .ref 55, .ref 56, .int (M'.1 7), .ref 57, .ref 58, .int (M'.1 10), .int (M'.1 11), .int (M'.1 12), .int (M'.1 13), .int (M'.1 14), .int (M'.1 15), .ref 59, .ref 60, .int (M'.1 18), .int (M'.1 19), .int (M'.1 20), .ref 61, .ref 62, .ref 63, .ref 64]), .inl (0, 68, .inl (M'.2 0)), .inl (0, 68, .inl (M'.2 1)), .inl (0, 68, .inl (M'.2 2)), .inl (0, 8, .inl (M'.2 4)), .inl (0, 1053, .inl (M'.2 5)), .inl (1, 972, .inl (M'.2 6)), .inl (0, 1053, .inl (M'.2 8)), .inl (0, 120, .inl (M'.2 9)), .inl (3, 7, .inr (.inr (.inr (.inr q_kf)))), .inl (0, 360, .inl (M'.2 17)), .inl (0, 4, .inl (M'.2 21)), .inl (0, 4, .inl (M'.2 22)), .inl (0, 160, .inl (M'.2 23)), .inl (0, 40, .inl (M'.2 24))]) rfl rfl rfl rfl rfl (Nat.le_of_ble_eq_true rfl) ⟨(Nat.le_of_ble_eq_true rfl), (Nat.le_of_ble_eq_true rfl)⟩ ⟨Nat.zero_le _, Nat.zero_le _⟩ dX6_leave_111 (fun _ => rfl) (fun _ => rfl) (fun _ => rfl) (fun u9 => ?_)
        refine r_iload_n C 2 dX6_leave_114 rfl ?_
        refine r_callV0 C (o_X6_doesSuit l M' u8 u9 x2) v_X6_doesSuit m_1148 [.int u8, .int u9, .int x2] [] (50) (Or.inl ⟨0, 5, _, TX6, 25, rfl, rfl, rfl⟩) (fun u10 => [.int u10]) (fun u10 => [.inr (5, [.ref 51, .ref 52, .ref 53, .int (M'.1 3), .ref 54, .ref 55, .ref 56, .int (M'.1 7), .ref 57, .ref 58, .int (M'.1 10), .int (M'.1 11), .int (M'.1 12), .int (M'.1 13), .int (M'.1 14), .int (M'.1 15), .ref 59, .ref 60, .int (M'.1 18), .int (M'.1 19), .int (M'.1 20), .ref 61, .ref 62, .ref 63, .ref 64]), .inl (0, 68, .inl (M'.2 0)), .inl (0, 68, .inl (M'.2 1)), .inl (0, 68, .inl (M'.2 2)), .inl (0, 8, .inl (M'.2 4)), .inl (0, 1053, .inl (M'.2 5)), .inl (1, 972, .inl (M'.2 6)), .inl (0, 1053, .inl (M'.2 8)), .inl (0, 120, .inl (M'.2 9)), .inl (3, 7, .inr (.inr (.inr (.inr q_kf)))), .inl (0, 360, .inl (M'.2 17)), .inl (0, 4, .inl (M'.2 21)), .inl (0, 4, .inl (M'.2 22)), .inl (0, 160, .inl (M'.2 23)), .inl (0, 40, .inl (M'.2 24))]) rfl rfl rfl (Nat.le_of_ble_eq_true rfl) ⟨(Nat.le_of_ble_eq_true rfl), (Nat.le_of_ble_eq_true rfl)⟩ ⟨Nat.zero_le _, Nat.zero_le _⟩ dX6_leave_115 (fun _ => rfl) (fun _ => rfl) (fun _ => rfl) (fun u10 => ?_)
        refine r_if_eq C 125 dX6_leave_118 (by decide) (fun h118 => ?_) (fun h118 => ?_)
        · exact k_X6_leave_125 C M a1 r52 r64 (fun x1 x2 x3 x4 M' => f_X6_leave_79 M a1 r52 r64 n x1 x2 x3 x4 M') hr52 hr64 ih x1 x2 x3 x4 M'
        · refine r_iconst C (1) dX6_leave_121 rfl ?_
          refine r_goto C 126 dX6_leave_122 (by decide) ?_
          refine r_istore C [(5, .int (1 : Int32)), (0, .ref 50), (1, .int x1), (2, .int x2), (3, .int x3), (4, .int x4)] dX6_leave_126 (Nat.le_of_ble_eq_true rfl) rfl ?_
          refine r_aload_n C 1 dX6_leave_128 rfl ?_
          refine r_get C 0 8 dX6_leave_129 K_X6 rfl rfl (Nat.le_of_ble_eq_true rfl) rfl m_923 rfl ?_
          refine r_iload_n C 4 dX6_leave_132 rfl ?_
          refine r_iconst C (1) dX6_leave_133 rfl ?_
          refine r_iadd C dX6_leave_134 ?_
          refine r_bipush C (81) dX6_leave_135 rfl ?_
          refine r_imul C dX6_leave_137 ?_
          refine r_iload C 5 dX6_leave_138 rfl ?_
          refine r_iadd C dX6_leave_140 ?_
          refine r_iald C 7 dX6_leave_141 rfl rfl (fun hi141 => ?_)
          refine r_istore C [(6, .int (M'.2 8 (((x3 + (1 : Int32)) * (81 : Int32)) + x4).toNatClampNeg)), (5, .int (1 : Int32)), (0, .ref 50), (1, .int x1), (2, .int x2), (3, .int x3), (4, .int x4)] dX6_leave_142 (Nat.le_of_ble_eq_true rfl) rfl ?_
          refine r_iconst C (0) dX6_leave_144 rfl ?_
          refine r_istore C [(7, .int (0 : Int32)), (6, .int (M'.2 8 (((x3 + (1 : Int32)) * (81 : Int32)) + x4).toNatClampNeg)), (5, .int (1 : Int32)), (0, .ref 50), (1, .int x1), (2, .int x2), (3, .int x3), (4, .int x4)] dX6_leave_145 (Nat.le_of_ble_eq_true rfl) rfl ?_
          refine r_lv [(0, .ref 50), (1, .int x1), (2, .int x2), (3, .int x3), (4, .int x4), (5, .int (1 : Int32)), (6, .int (M'.2 8 (((x3 + (1 : Int32)) * (81 : Int32)) + x4).toNatClampNeg)), (7, .int (0 : Int32))] [3, 4, 5, 6, 7, 2, 1, 0] rfl ?_
          exact k_X6_leave_147 C M a1 r52 r64 (fun x1 x2 x3 x4 M' => f_X6_leave_79 M a1 r52 r64 n x1 x2 x3 x4 M') hr52 hr64 ih q_N x1 x2 x3 x4 (1 : Int32) (M'.2 8 (((x3 + (1 : Int32)) * (81 : Int32)) + x4).toNatClampNeg) (0 : Int32) M'
set_option maxRecDepth 100000 in
set_option maxHeartbeats 4000000 in
theorem k_X6_leave_64 {p : Program} {l : Launch} {e : Env} {s : State} {m : MethodId} {args : Array Value} {below : List Frame} {meth : Method} {c : Code} {dC : Nat → ClassId} {dI : Nat → Nat → Nat} {dA : Nat → ClassId} {A : Nat → Prop} {α : Nat → Nat} {t : Int32 × q_St} (C : q_Cx p s m args meth c cX6_leave 8 RX6 (some .int) "leave" dC dI dA A α) (M : q_St) (a1 : Int32) (r52 : Int32 → Int32 → q_St → Option (Int32 × q_St))
    (hr52 : ∀ (x1 : Int32) (x2 : Int32) (M' : q_St), q_S p l e (q_rm 5 110) s m args below meth c 8 dC dI dA A α (MQ below (q_Q α dC dI dA A ((fun u => some (.int u.1)) t) ((fun u => w_X6 u.2) t)) args s 0 0 A) 0 0 (r52 x1 x2 M') t 52 [(0, .ref 50), (1, .int x1), (2, .int x2)] [] (w_X6 M')) : ∀ (n : Nat) (x1 : Int32) (x2 : Int32) (x3 : Int32) (M' : q_St), q_S p l e (q_rm 5 110) s m args below meth c 8 dC dI dA A α (MQ below (q_Q α dC dI dA A ((fun u => some (.int u.1)) t) ((fun u => w_X6 u.2) t)) args s 0 0 A) 0 0 (f_X6_leave_64 M a1 r52 n x1 x2 x3 M') t 64 [(0, .ref 50), (1, .int x1), (2, .int x2), (3, .int x3)] [] (w_X6 M') := by
  intro n
  induction n with
  | zero =>
    intro x1 x2 x3 M'
    exact r_cut (f_X6_leave_64.eq_1 _ _ _ _ _ _ _) (r_none True.intro)
  | succ n ih =>
    intro x1 x2 x3 M'
    refine r_cut (f_X6_leave_64.eq_2 _ _ _ _ _ _ _ _) ?_
    refine r_iload_n C 3 dX6_leave_64 rfl ?_
    refine r_if_lt C 222 dX6_leave_65 (by decide) (fun h65 => ?_) (fun h65 => ?_)
    · refine r_iinc C 2 (x2 + 1) [(2, .int (x2 + 1)), (0, .ref 50), (1, .int x1), (3, .int x3)] dX6_leave_222 rfl rfl (Nat.le_of_ble_eq_true rfl) rfl ?_
      refine r_goto C 52 dX6_leave_225 (by decide) ?_
      refine r_lv [(0, .ref 50), (1, .int x1), (2, .int (x2 + 1))] [1, 2, 0] rfl ?_
      exact hr52 x1 (x2 + 1) M'
    · refine r_aload_n C 0 dX6_leave_68 rfl ?_
      refine r_iload_n C 2 dX6_leave_69 rfl ?_
      refine r_callV0 C (o_X6_isWrongBeat l M' x2) v_X6_isWrongBeat m_1090 [.int x2] [] (50) (Or.inl ⟨0, 5, _, TX6, 25, rfl, rfl, rfl⟩) (fun u4 => [.int u4]) (fun u4 => [.inr (5, [.ref 51, .ref 52, .ref 53, .int (M'.1 3), .ref 54, .ref 55, .ref 56, .int (M'.1 7), .ref 57, .ref 58, .int (M'.1 10), .int (M'.1 11), .int (M'.1 12), .int (M'.1 13), .int (M'.1 14), .int (M'.1 15), .ref 59, .ref 60, .int (M'.1 18), .int (M'.1 19), .int (M'.1 20), .ref 61, .ref 62, .ref 63, .ref 64]), .inl (0, 68, .inl (M'.2 0)), .inl (0, 68, .inl (M'.2 1)), .inl (0, 68, .inl (M'.2 2)), .inl (0, 8, .inl (M'.2 4)), .inl (0, 1053, .inl (M'.2 5)), .inl (1, 972, .inl (M'.2 6)), .inl (0, 1053, .inl (M'.2 8)), .inl (0, 120, .inl (M'.2 9)), .inl (3, 7, .inr (.inr (.inr (.inr q_kf)))), .inl (0, 360, .inl (M'.2 17)), .inl (0, 4, .inl (M'.2 21)), .inl (0, 4, .inl (M'.2 22)), .inl (0, 160, .inl (M'.2 23)), .inl (0, 40, .inl (M'.2 24))]) rfl rfl rfl (Nat.le_of_ble_eq_true rfl) ⟨(Nat.le_of_ble_eq_true rfl), (Nat.le_of_ble_eq_true rfl)⟩ ⟨Nat.zero_le _, Nat.zero_le _⟩ dX6_leave_70 (fun _ => rfl) (fun _ => rfl) (fun _ => rfl) (fun u4 => ?_)
      refine r_if_ne C 222 dX6_leave_73 (by decide) (fun h73 => ?_) (fun h73 => ?_)
      · refine r_iconst C (0) dX6_leave_76 rfl ?_
        refine r_istore C [(4, .int (0 : Int32)), (0, .ref 50), (1, .int x1), (2, .int x2), (3, .int x3)] dX6_leave_77 (Nat.le_of_ble_eq_true rfl) rfl ?_
        refine r_lv [(0, .ref 50), (1, .int x1), (2, .int x2), (3, .int x3), (4, .int (0 : Int32))] [1, 2, 3, 4, 0] rfl ?_
        exact k_X6_leave_79 C M a1 r52 (fun x1 x2 x3 M' => f_X6_leave_64 M a1 r52 n x1 x2 x3 M') hr52 ih q_N x1 x2 x3 (0 : Int32) M'
      · refine r_iinc C 2 (x2 + 1) [(2, .int (x2 + 1)), (0, .ref 50), (1, .int x1), (3, .int x3)] dX6_leave_222 rfl rfl (Nat.le_of_ble_eq_true rfl) rfl ?_
        refine r_goto C 52 dX6_leave_225 (by decide) ?_
        refine r_lv [(0, .ref 50), (1, .int x1), (2, .int (x2 + 1))] [1, 2, 0] rfl ?_
        exact hr52 x1 (x2 + 1) M'
set_option maxRecDepth 100000 in
set_option maxHeartbeats 4000000 in
theorem k_X6_leave_52 {p : Program} {l : Launch} {e : Env} {s : State} {m : MethodId} {args : Array Value} {below : List Frame} {meth : Method} {c : Code} {dC : Nat → ClassId} {dI : Nat → Nat → Nat} {dA : Nat → ClassId} {A : Nat → Prop} {α : Nat → Nat} {t : Int32 × q_St} (C : q_Cx p s m args meth c cX6_leave 8 RX6 (some .int) "leave" dC dI dA A α) (M : q_St) (a1 : Int32)  : ∀ (n : Nat) (x1 : Int32) (x2 : Int32) (M' : q_St), q_S p l e (q_rm 5 110) s m args below meth c 8 dC dI dA A α (MQ below (q_Q α dC dI dA A ((fun u => some (.int u.1)) t) ((fun u => w_X6 u.2) t)) args s 0 0 A) 0 0 (f_X6_leave_52 M a1  n x1 x2 M') t 52 [(0, .ref 50), (1, .int x1), (2, .int x2)] [] (w_X6 M') := by
  intro n
  induction n with
  | zero =>
    intro x1 x2 M'
    exact r_cut (f_X6_leave_52.eq_1 _ _ _ _ _) (r_none True.intro)
  | succ n ih =>
    intro x1 x2 M'
    refine r_cut (f_X6_leave_52.eq_2 _ _ _ _ _ _) ?_
    refine r_iload_n C 2 dX6_leave_52 rfl ?_
    refine r_aload_n C 0 dX6_leave_53 rfl ?_
    refine r_get C 0 0 dX6_leave_54 K_X6 rfl rfl (Nat.le_of_ble_eq_true rfl) rfl m_915 rfl ?_
    refine r_iconst C (1) dX6_leave_57 rfl ?_
    refine r_iald C 1 dX6_leave_58 rfl rfl (fun hi58 => ?_)
    refine r_icmp_ge C 228 dX6_leave_59 (by decide) (fun h59 => ?_) (fun h59 => ?_)
    · refine r_iconst C (0) dX6_leave_228 rfl ?_
      refine r_istore_n C [(2, .int (0 : Int32)), (0, .ref 50), (1, .int x1)] dX6_leave_229 (Nat.le_of_ble_eq_true rfl) rfl ?_
      refine r_iconst C (0) dX6_leave_230 rfl ?_
      refine r_istore_n C [(3, .int (0 : Int32)), (2, .int (0 : Int32)), (0, .ref 50), (1, .int x1)] dX6_leave_231 (Nat.le_of_ble_eq_true rfl) rfl ?_
      refine r_lv [(0, .ref 50), (1, .int x1), (2, .int (0 : Int32)), (3, .int (0 : Int32))] [2, 3, 1, 0] rfl ?_
      exact k_X6_leave_232 C M a1   q_N x1 (0 : Int32) (0 : Int32) M'
    · refine r_iload_n C 2 dX6_leave_62 rfl ?_
      refine r_istore_n C [(3, .int x2), (0, .ref 50), (1, .int x1), (2, .int x2)] dX6_leave_63 (Nat.le_of_ble_eq_true rfl) rfl ?_
      refine r_lv [(0, .ref 50), (1, .int x1), (2, .int x2), (3, .int x2)] [1, 2, 3, 0] rfl ?_
      exact k_X6_leave_64 C M a1 (fun x1 x2 M' => f_X6_leave_52 M a1  n x1 x2 M') ih q_N x1 x2 x2 M'
set_option maxRecDepth 100000 in
set_option maxHeartbeats 4000000 in
theorem k_X6_leave_19 {p : Program} {l : Launch} {e : Env} {s : State} {m : MethodId} {args : Array Value} {below : List Frame} {meth : Method} {c : Code} {dC : Nat → ClassId} {dI : Nat → Nat → Nat} {dA : Nat → ClassId} {A : Nat → Prop} {α : Nat → Nat} {t : Int32 × q_St} (C : q_Cx p s m args meth c cX6_leave 8 RX6 (some .int) "leave" dC dI dA A α) (M : q_St) (a1 : Int32)  : ∀ (n : Nat) (x1 : Int32) (x2 : Int32) (M' : q_St), q_S p l e (q_rm 5 110) s m args below meth c 8 dC dI dA A α (MQ below (q_Q α dC dI dA A ((fun u => some (.int u.1)) t) ((fun u => w_X6 u.2) t)) args s 0 0 A) 0 0 (f_X6_leave_19 M a1  n x1 x2 M') t 19 [(0, .ref 50), (1, .int x1), (2, .int x2)] [] (w_X6 M') := by
  intro n
  induction n with
  | zero =>
    intro x1 x2 M'
    exact r_cut (f_X6_leave_19.eq_1 _ _ _ _ _) (r_none True.intro)
  | succ n ih =>
    intro x1 x2 M'
    refine r_cut (f_X6_leave_19.eq_2 _ _ _ _ _ _) ?_
    refine r_iload_n C 2 dX6_leave_19 rfl ?_
    refine r_sipush C (1053) dX6_leave_20 rfl ?_
    refine r_icmp_ge C 40 dX6_leave_23 (by decide) (fun h23 => ?_) (fun h23 => ?_)
    · refine r_aload_n C 0 dX6_leave_40 rfl ?_
      refine r_get C 0 8 dX6_leave_41 K_X6 rfl rfl (Nat.le_of_ble_eq_true rfl) rfl m_923 rfl ?_
      refine r_aload_n C 0 dX6_leave_44 rfl ?_
      refine r_callV0 C (o_X6_holdNow l M') v_X6_holdNow m_1191 [] [.ref 57] (50) (Or.inl ⟨0, 5, _, TX6, 25, rfl, rfl, rfl⟩) (fun u3 => [.int u3, .ref 57]) (fun u3 => [.inr (5, [.ref 51, .ref 52, .ref 53, .int (M'.1 3), .ref 54, .ref 55, .ref 56, .int (M'.1 7), .ref 57, .ref 58, .int (M'.1 10), .int (M'.1 11), .int (M'.1 12), .int (M'.1 13), .int (M'.1 14), .int (M'.1 15), .ref 59, .ref 60, .int (M'.1 18), .int (M'.1 19), .int (M'.1 20), .ref 61, .ref 62, .ref 63, .ref 64]), .inl (0, 68, .inl (M'.2 0)), .inl (0, 68, .inl (M'.2 1)), .inl (0, 68, .inl (M'.2 2)), .inl (0, 8, .inl (M'.2 4)), .inl (0, 1053, .inl (M'.2 5)), .inl (1, 972, .inl (M'.2 6)), .inl (0, 1053, .inl (M'.2 8)), .inl (0, 120, .inl (M'.2 9)), .inl (3, 7, .inr (.inr (.inr (.inr q_kf)))), .inl (0, 360, .inl (M'.2 17)), .inl (0, 4, .inl (M'.2 21)), .inl (0, 4, .inl (M'.2 22)), .inl (0, 160, .inl (M'.2 23)), .inl (0, 40, .inl (M'.2 24))]) rfl rfl rfl (Nat.le_of_ble_eq_true rfl) ⟨(Nat.le_of_ble_eq_true rfl), (Nat.le_of_ble_eq_true rfl)⟩ ⟨Nat.zero_le _, Nat.zero_le _⟩ dX6_leave_45 (fun _ => rfl) (fun _ => rfl) (fun _ => rfl) (fun u3 => ?_)
      refine r_iconst C (0) dX6_leave_48 rfl ?_
      refine r_iast C 7 _ dX6_leave_49 rfl rfl rfl (fun hi49 => ?_)
      refine r_iconst C (0) dX6_leave_50 rfl ?_
      refine r_istore_n C [(2, .int (0 : Int32)), (0, .ref 50), (1, .int x1)] dX6_leave_51 (Nat.le_of_ble_eq_true rfl) rfl ?_
      refine r_lv [(0, .ref 50), (1, .int x1), (2, .int (0 : Int32))] [1, 2, 0] rfl ?_
      exact k_X6_leave_52 C M a1   q_N x1 (0 : Int32) (M'.1, (va_up M'.2 8 (upd (M'.2 8) u3.toNatClampNeg (0 : Int32))))
    · refine r_aload_n C 0 dX6_leave_26 rfl ?_
      refine r_get C 0 8 dX6_leave_27 K_X6 rfl rfl (Nat.le_of_ble_eq_true rfl) rfl m_923 rfl ?_
      refine r_iload_n C 2 dX6_leave_30 rfl ?_
      refine r_ldc C (1000000) dX6_leave_31 m_1185 ?_
      refine r_iast C 7 _ dX6_leave_33 rfl rfl rfl (fun hi33 => ?_)
      refine r_iinc C 2 (x2 + 1) [(2, .int (x2 + 1)), (0, .ref 50), (1, .int x1)] dX6_leave_34 rfl rfl (Nat.le_of_ble_eq_true rfl) rfl ?_
      refine r_goto C 19 dX6_leave_37 (by decide) ?_
      refine r_lv [(0, .ref 50), (1, .int x1), (2, .int (x2 + 1))] [1, 2, 0] rfl ?_
      exact ih x1 (x2 + 1) (M'.1, (va_up M'.2 8 (upd (M'.2 8) x2.toNatClampNeg (1000000 : Int32))))
set_option maxRecDepth 100000 in
set_option maxHeartbeats 4000000 in
theorem o_X6_leave (l : Launch) (M : q_St) (a1 : Int32) : q_Ok l yX6_leave cX6_leave 8 (some .int) 5 110 [.ref 50, .int a1] (w_X6 M) (f_X6_leave M a1) (fun u => some (.int u.1)) (fun u => w_X6 u.2) := by
  refine q_enter (by decide +kernel) (Nat.le_of_ble_eq_true rfl) (fun t p e s m args below meth c dC dI dA A α C => ?_)
  refine r_cut (f_X6_leave.eq_1 _ _) ?_
  show q_S p l e (q_rm 5 110) s m args below meth c 8 dC dI dA A α (MQ below (q_Q α dC dI dA A ((fun u => some (.int u.1)) t) ((fun u => w_X6 u.2) t)) args s 0 0 A) 0 0 _ t 0 [(0, .ref 50), (1, .int a1)] [] (w_X6 M)
  refine r_iload_n C 1 dX6_leave_0 rfl ?_
  refine r_iconst C (0) dX6_leave_1 rfl ?_
  refine r_bipush C (99) dX6_leave_2 rfl ?_
  refine r_callS C (o_X6_within l a1 (0 : Int32) (99 : Int32)) v_X6_within m_999 [] [.int a1, .int (0 : Int32), .int (99 : Int32)] [] (fun u1 => [.int u1]) (fun u1 => [.inr (5, [.ref 51, .ref 52, .ref 53, .int (M.1 3), .ref 54, .ref 55, .ref 56, .int (M.1 7), .ref 57, .ref 58, .int (M.1 10), .int (M.1 11), .int (M.1 12), .int (M.1 13), .int (M.1 14), .int (M.1 15), .ref 59, .ref 60, .int (M.1 18), .int (M.1 19), .int (M.1 20), .ref 61, .ref 62, .ref 63, .ref 64]), .inl (0, 68, .inl (M.2 0)), .inl (0, 68, .inl (M.2 1)), .inl (0, 68, .inl (M.2 2)), .inl (0, 8, .inl (M.2 4)), .inl (0, 1053, .inl (M.2 5)), .inl (1, 972, .inl (M.2 6)), .inl (0, 1053, .inl (M.2 8)), .inl (0, 120, .inl (M.2 9)), .inl (3, 7, .inr (.inr (.inr (.inr q_kf)))), .inl (0, 360, .inl (M.2 17)), .inl (0, 4, .inl (M.2 21)), .inl (0, 4, .inl (M.2 22)), .inl (0, 160, .inl (M.2 23)), .inl (0, 40, .inl (M.2 24))]) rfl rfl rfl rfl rfl (Nat.le_of_ble_eq_true rfl) ⟨(Nat.le_of_ble_eq_true rfl), (Nat.le_of_ble_eq_true rfl)⟩ ⟨Nat.zero_le _, Nat.zero_le _⟩ dX6_leave_4 (fun _ => rfl) (fun _ => rfl) (fun _ => rfl) (fun u1 => ?_)
  refine r_if_ne C 17 dX6_leave_7 (by decide) (fun h7 => ?_) (fun h7 => ?_)
  · refine r_aload_n C 0 dX6_leave_10 rfl ?_
    refine r_ldc C (-1000001) dX6_leave_11 m_1002 ?_
    refine r_callV0 C (o_X6_finding l M (-1000001 : Int32)) v_X6_finding m_1003 [.int (-1000001 : Int32)] [] (50) (Or.inl ⟨0, 5, _, TX6, 25, rfl, rfl, rfl⟩) (fun u2 => [.int u2.1]) (fun u2 => [.inr (5, [.ref 51, .ref 52, .ref 53, .int (u2.2.1 3), .ref 54, .ref 55, .ref 56, .int (u2.2.1 7), .ref 57, .ref 58, .int (u2.2.1 10), .int (u2.2.1 11), .int (u2.2.1 12), .int (u2.2.1 13), .int (u2.2.1 14), .int (u2.2.1 15), .ref 59, .ref 60, .int (u2.2.1 18), .int (u2.2.1 19), .int (u2.2.1 20), .ref 61, .ref 62, .ref 63, .ref 64]), .inl (0, 68, .inl (u2.2.2 0)), .inl (0, 68, .inl (u2.2.2 1)), .inl (0, 68, .inl (u2.2.2 2)), .inl (0, 8, .inl (u2.2.2 4)), .inl (0, 1053, .inl (u2.2.2 5)), .inl (1, 972, .inl (u2.2.2 6)), .inl (0, 1053, .inl (u2.2.2 8)), .inl (0, 120, .inl (u2.2.2 9)), .inl (3, 7, .inr (.inr (.inr (.inr q_kf)))), .inl (0, 360, .inl (u2.2.2 17)), .inl (0, 4, .inl (u2.2.2 21)), .inl (0, 4, .inl (u2.2.2 22)), .inl (0, 160, .inl (u2.2.2 23)), .inl (0, 40, .inl (u2.2.2 24))]) rfl rfl rfl (Nat.le_of_ble_eq_true rfl) ⟨(Nat.le_of_ble_eq_true rfl), (Nat.le_of_ble_eq_true rfl)⟩ ⟨Nat.zero_le _, Nat.zero_le _⟩ dX6_leave_13 (fun _ => rfl) (fun _ => rfl) (fun _ => rfl) (fun u2 => ?_)
    exact r_reti (x := u2.1) (rv := (fun u => some (.int u.1))) (hpE := (fun u => w_X6 u.2)) (t0 := (u2.1, u2.2)) C dX6_leave_16 (by rfl) (by rfl) (by rfl)
  · refine r_iconst C (0) dX6_leave_17 rfl ?_
    refine r_istore_n C [(2, .int (0 : Int32)), (0, .ref 50), (1, .int a1)] dX6_leave_18 (Nat.le_of_ble_eq_true rfl) rfl ?_
    refine r_lv [(0, .ref 50), (1, .int a1), (2, .int (0 : Int32))] [1, 2, 0] rfl ?_
    exact k_X6_leave_19 C M a1   q_N a1 (0 : Int32) M
