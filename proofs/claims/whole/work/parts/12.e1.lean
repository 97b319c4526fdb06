set_option maxRecDepth 100000 in
set_option maxHeartbeats 4000000 in
theorem o_X6_cut (l : Launch) (M : q_St) (a1 : Int32) : q_Ok l yX6_cut cX6_cut 2 (some .int) 2 43 [.ref 50, .int a1] (w_X6 M) (f_X6_cut M a1) (fun u => some (.int u.1)) (fun u => w_X6 u.2) := by
  refine q_enter (by decide +kernel) (Nat.le_of_ble_eq_true rfl) (fun t p e s m args below meth c dC dI dA A α C => ?_)
  refine r_cut (f_X6_cut.eq_1 _ _) ?_
  show q_S p l e (q_rm 2 43) s m args below meth c 2 dC dI dA A α (MQ below (q_Q α dC dI dA A ((fun u => some (.int u.1)) t) ((fun u => w_X6 u.2) t)) args s 0 0 A) 0 0 _ t 0 [(0, .ref 50), (1, .int a1)] [] (w_X6 M)
  refine r_aload_n C 0 dX6_cut_0 rfl ?_
  refine r_iload_n C 1 dX6_cut_1 rfl ?_
  refine r_callV0 C (o_X6_isBeat l M a1) v_X6_isBeat m_1081 [.int a1] [] (50) (Or.inl ⟨0, 5, _, TX6, 25, rfl, rfl, rfl⟩) (fun u1 => [.int u1]) (fun u1 => w_X6 M) rfl rfl rfl (Nat.le_of_ble_eq_true rfl) ⟨(Nat.le_of_ble_eq_true rfl), (Nat.le_of_ble_eq_true rfl)⟩ ⟨Nat.zero_le _, Nat.zero_le _⟩ dX6_cut_2 (fun _ => rfl) (fun _ => rfl) (fun _ => rfl) (fun u1 => ?_)
  refine r_if_eq C 16 dX6_cut_5 (by decide) (fun h5 => ?_) (fun h5 => ?_)
  · refine r_aload_n C 0 dX6_cut_16 rfl ?_
    refine r_ldc C (-1000001) dX6_cut_17 m_997 ?_
    refine r_callV0 C (o_X6_finding l M (-1000001 : Int32)) v_X6_finding m_998 [.int (-1000001 : Int32)] [] (50) (Or.inl ⟨0, 5, _, TX6, 25, rfl, rfl, rfl⟩) (fun u2 => [.int u2.1]) (fun u2 => w_X6 u2.2) rfl rfl rfl (Nat.le_of_ble_eq_true rfl) ⟨(Nat.le_of_ble_eq_true rfl), (Nat.le_of_ble_eq_true rfl)⟩ ⟨Nat.zero_le _, Nat.zero_le _⟩ dX6_cut_19 (fun _ => rfl) (fun _ => rfl) (fun _ => rfl) (fun u2 => ?_)
    exact r_reti (x := u2.1) (rv := (fun u => some (.int u.1))) (hpE := (fun u => w_X6 u.2)) (t0 := (u2.1, u2.2)) C dX6_cut_22 (by rfl) (by rfl) (by rfl)
  · refine r_aload_n C 0 dX6_cut_8 rfl ?_
    refine r_iload_n C 1 dX6_cut_9 rfl ?_
    refine r_callV0 C (o_X6_goes l M a1) v_X6_goes m_1103 [.int a1] [] (50) (Or.inl ⟨0, 5, _, TX6, 25, rfl, rfl, rfl⟩) (fun u3 => [.int u3.1]) (fun u3 => w_X6 u3.2) rfl rfl rfl (Nat.le_of_ble_eq_true rfl) ⟨(Nat.le_of_ble_eq_true rfl), (Nat.le_of_ble_eq_true rfl)⟩ ⟨Nat.zero_le _, Nat.zero_le _⟩ dX6_cut_10 (fun _ => rfl) (fun _ => rfl) (fun _ => rfl) (fun u3 => ?_)
    refine r_goto C 22 dX6_cut_13 (by decide) ?_
    exact r_reti (x := u3.1) (rv := (fun u => some (.int u.1))) (hpE := (fun u => w_X6 u.2)) (t0 := (u3.1, u3.2)) C dX6_cut_22 (by rfl) (by rfl) (by rfl)
set_option maxRecDepth 100000 in
set_option maxHeartbeats 4000000 in
theorem k_X6_wrongBeats_4 {p : Program} {l : Launch} {e : Env} {s : State} {m : MethodId} {args : Array Value} {below : List Frame} {meth : Method} {c : Code} {dC : Nat → ClassId} {dI : Nat → Nat → Nat} {dA : Nat → ClassId} {A : Nat → Prop} {α : Nat → Nat} {t : Int32} (C : q_Cx p s m args meth c cX6_wrongBeats 3 RX6 (some .int) "wrongBeats" dC dI dA A α) (M : q_St)  : ∀ (n : Nat) (x1 : Int32) (x2 : Int32), q_S p l e (q_rm 4 90) s m args below meth c 3 dC dI dA A α (MQ below (q_Q α dC dI dA A ((fun u => some (.int u)) t) ((fun u => w_X6 M) t)) args s 0 0 A) 0 0 (f_X6_wrongBeats_4 M  n x1 x2) t 4 [(0, .ref 50), (1, .int x1), (2, .int x2)] [] (w_X6 M) := by
  intro n
  induction n with
  | zero =>
    intro x1 x2
    exact r_cut (f_X6_wrongBeats_4.eq_1 _ _ _) (r_none True.intro)
  | succ n ih =>
    intro x1 x2
    refine r_cut (f_X6_wrongBeats_4.eq_2 _ _ _ _) ?_
    refine r_iload_n C 2 dX6_wrongBeats_4 rfl ?_
    refine r_aload_n C 0 dX6_wrongBeats_5 rfl ?_
    refine r_get C 0 0 dX6_wrongBeats_6 K_X6 rfl rfl (Nat.le_of_ble_eq_true rfl) rfl m_910 rfl ?_
    refine r_iconst C (1) dX6_wrongBeats_9 rfl ?_
    refine r_iald C 1 dX6_wrongBeats_10 rfl rfl (fun hi10 => ?_)
    refine r_icmp_ge C 38 dX6_wrongBeats_11 (by decide) (fun h11 => ?_) (fun h11 => ?_)
    · refine r_iload_n C 1 dX6_wrongBeats_38 rfl ?_
      exact r_reti (x := x1) (rv := (fun u => some (.int u))) (hpE := (fun u => w_X6 M)) (t0 := x1) C dX6_wrongBeats_39 (by rfl) (by rfl) (by rfl)
    · refine r_iload_n C 1 dX6_wrongBeats_14 rfl ?_
      refine r_aload_n C 0 dX6_wrongBeats_15 rfl ?_
      refine r_iload_n C 2 dX6_wrongBeats_16 rfl ?_
      refine r_callV0 C (o_X6_isWrongBeat l M x2) v_X6_isWrongBeat m_1085 [.int x2] [.int x1] (50) (Or.inl ⟨0, 5, _, TX6, 25, rfl, rfl, rfl⟩) (fun u1 => [.int u1, .int x1]) (fun u1 => w_X6 M) rfl rfl rfl (Nat.le_of_ble_eq_true rfl) ⟨(Nat.le_of_ble_eq_true rfl), (Nat.le_of_ble_eq_true rfl)⟩ ⟨Nat.zero_le _, Nat.zero_le _⟩ dX6_wrongBeats_17 (fun _ => rfl) (fun _ => rfl) (fun _ => rfl) (fun u1 => ?_)
      refine r_if_eq C 29 dX6_wrongBeats_20 (by decide) (fun h20 => ?_) (fun h20 => ?_)
      · refine r_iconst C (0) dX6_wrongBeats_29 rfl ?_
        refine r_ior C dX6_wrongBeats_30 ?_
        refine r_istore_n C [(1, .int (x1 ||| (0 : Int32))), (0, .ref 50), (2, .int x2)] dX6_wrongBeats_31 (Nat.le_of_ble_eq_true rfl) rfl ?_
        refine r_iinc C 2 (x2 + 1) [(2, .int (x2 + 1)), (1, .int (x1 ||| (0 : Int32))), (0, .ref 50)] dX6_wrongBeats_32 rfl rfl (Nat.le_of_ble_eq_true rfl) rfl ?_
        refine r_goto C 4 dX6_wrongBeats_35 (by decide) ?_
        refine r_lv [(0, .ref 50), (1, .int (x1 ||| (0 : Int32))), (2, .int (x2 + 1))] [2, 1, 0] rfl ?_
        exact ih (x1 ||| (0 : Int32)) (x2 + 1)
      · refine r_iconst C (1) dX6_wrongBeats_23 rfl ?_
        refine r_iload_n C 2 dX6_wrongBeats_24 rfl ?_
        refine r_ishl C dX6_wrongBeats_25 ?_
        refine r_goto C 30 dX6_wrongBeats_26 (by decide) ?_
        refine r_ior C dX6_wrongBeats_30 ?_
        refine r_istore_n C [(1, .int (x1 ||| ((1 : Int32) <<< (x2 &&& 31)))), (0, .ref 50), (2, .int x2)] dX6_wrongBeats_31 (Nat.le_of_ble_eq_true rfl) rfl ?_
        refine r_iinc C 2 (x2 + 1) [(2, .int (x2 + 1)), (1, .int (x1 ||| ((1 : Int32) <<< (x2 &&& 31)))), (0, .ref 50)] dX6_wrongBeats_32 rfl rfl (Nat.le_of_ble_eq_true rfl) rfl ?_
        refine r_goto C 4 dX6_wrongBeats_35 (by decide) ?_
        refine r_lv [(0, .ref 50), (1, .int (x1 ||| ((1 : Int32) <<< (x2 &&& 31)))), (2, .int (x2 + 1))] [2, 1, 0] rfl ?_
        exact ih (x1 ||| ((1 : Int32) <<< (x2 &&& 31))) (x2 + 1)
set_option maxRecDepth 100000 in
set_option maxHeartbeats 4000000 in
theorem o_X6_wrongBeats (l : Launch) (M : q_St) : q_Ok l yX6_wrongBeats cX6_wrongBeats 3 (some .int) 4 90 [.ref 50] (w_X6 M) (f_X6_wrongBeats M) (fun u => some (.int u)) (fun u => w_X6 M) := by
  refine q_enter (by decide +kernel) (Nat.le_of_ble_eq_true rfl) (fun t p e s m args below meth c dC dI dA A α C => ?_)
  refine r_cut (f_X6_wrongBeats.eq_1 _) ?_
  show q_S p l e (q_rm 4 90) s m args below meth c 3 dC dI dA A α (MQ below (q_Q α dC dI dA A ((fun u => some (.int u)) t) ((fun u => w_X6 M) t)) args s 0 0 A) 0 0 _ t 0 [(0, .ref 50)] [] (w_X6 M)
  refine r_iconst C (0) dX6_wrongBeats_0 rfl ?_
  refine r_istore_n C [(1, .int (0 : Int32)), (0, .ref 50)] dX6_wrongBeats_1 (Nat.le_of_ble_eq_true rfl) rfl ?_
  refine r_iconst C (0) dX6_wrongBeats_2 rfl ?_
  refine r_istore_n C [(2, .int (0 : Int32)), (1, .int (0 : Int32)), (0, .ref 50)] dX6_wrongBeats_3 (Nat.le_of_ble_eq_true rfl) rfl ?_
  refine r_lv [(0, .ref 50), (1, .int (0 : Int32)), (2, .int (0 : Int32))] [2, 1, 0] rfl ?_
  exact k_X6_wrongBeats_4 C M   q_N (0 : Int32) (0 : Int32)
set_option maxRecDepth 100000 in
set_option maxHeartbeats 4000000 in
theorem o_X6_wrong (l : Launch) (M : q_St) : q_Ok l yX6_wrong cX6_wrong 1 (some .int) 5 112 [.ref 50] (w_X6 M) (f_X6_wrong M) (fun u => some (.int u)) (fun u => w_X6 M) := by
  refine q_enter (by decide +kernel) (Nat.le_of_ble_eq_true rfl) (fun t p e s m args below meth c dC dI dA A α C => ?_)
  refine r_cut (f_X6_wrong.eq_1 _) ?_
  show q_S p l e (q_rm 5 112) s m args below meth c 1 dC dI dA A α (MQ below (q_Q α dC dI dA A ((fun u => some (.int u)) t) ((fun u => w_X6 M) t)) args s 0 0 A) 0 0 _ t 0 [(0, .ref 50)] [] (w_X6 M)
  refine r_aload_n C 0 dX6_wrong_0 rfl ?_
  refine r_callV0 C (o_X6_wrongBeats l M) v_X6_wrongBeats m_1111 [] [] (50) (Or.inl ⟨0, 5, _, TX6, 25, rfl, rfl, rfl⟩) (fun u1 => [.int u1]) (fun u1 => w_X6 M) rfl rfl rfl (Nat.le_of_ble_eq_true rfl) ⟨(Nat.le_of_ble_eq_true rfl), (Nat.le_of_ble_eq_true rfl)⟩ ⟨Nat.zero_le _, Nat.zero_le _⟩ dX6_wrong_1 (fun _ => rfl) (fun _ => rfl) (fun _ => rfl) (fun u1 => ?_)
  exact r_reti (x := u1) (rv := (fun u => some (.int u))) (hpE := (fun u => w_X6 M)) (t0 := u1) C dX6_wrong_4 (by rfl) (by rfl) (by rfl)
set_option maxRecDepth 100000 in
set_option maxHeartbeats 4000000 in
theorem k_X6_whistle_42 {p : Program} {l : Launch} {e : Env} {s : State} {m : MethodId} {args : Array Value} {below : List Frame} {meth : Method} {c : Code} {dC : Nat → ClassId} {dI : Nat → Nat → Nat} {dA : Nat → ClassId} {A : Nat → Prop} {α : Nat → Nat} {t : Int32} (C : q_Cx p s m args meth c cX6_whistle 6 RX6 (some .int) "whistle" dC dI dA A α) (M : q_St) (r6 : Int32 → Int32 → Int32 → Option (Int32))
    (hr6 : ∀ (x1 : Int32) (x2 : Int32) (x3 : Int32), q_S p l e (q_rm 3 64) s m args below meth c 6 dC dI dA A α (MQ below (q_Q α dC dI dA A ((fun u => some (.int u)) t) ((fun u => w_X6 M) t)) args s 0 0 A) 0 0 (r6 x1 x2 x3) t 6 [(0, .ref 50), (1, .int x1), (2, .int x2), (3, .int x3)] [] (w_X6 M)) : ∀ (x1 : Int32) (x2 : Int32) (x3 : Int32) (s0 : Int32), q_S p l e (q_rm 3 64) s m args below meth c 6 dC dI dA A α (MQ below (q_Q α dC dI dA A ((fun u => some (.int u)) t) ((fun u => w_X6 M) t)) args s 0 0 A) 0 0 (f_X6_whistle_42 M r6 x1 x2 x3 s0) t 42 [(0, .ref 50), (1, .int x1), (2, .int x2), (3, .int x3)] [.int s0] (w_X6 M) := by
  intro x1 x2 x3 s0
  refine r_cut (f_X6_whistle_42.eq_1 _ _ _ _ _ _) ?_
  refine r_istore C [(5, .int s0), (0, .ref 50), (1, .int x1), (2, .int x2), (3, .int x3)] dX6_whistle_42 (Nat.le_of_ble_eq_true rfl) rfl ?_
  refine r_iload_n C 2 dX6_whistle_44 rfl ?_
  refine r_iload_n C 3 dX6_whistle_45 rfl ?_
  refine r_if_lt C 59 dX6_whistle_46 (by decide) (fun h46 => ?_) (fun h46 => ?_)
  · refine r_iconst C (0) dX6_whistle_59 rfl ?_
    refine r_iadd C dX6_whistle_60 ?_
    refine r_istore_n C [(1, .int (x1 + (0 : Int32))), (5, .int s0), (0, .ref 50), (2, .int x2), (3, .int x3)] dX6_whistle_61 (Nat.le_of_ble_eq_true rfl) rfl ?_
    refine r_iload C 1 dX6_whistle_62 rfl ?_
    refine r_istore_n C [(2, .int s0), (1, .int (x1 + (0 : Int32))), (5, .int s0), (0, .ref 50), (3, .int x3)] dX6_whistle_64 (Nat.le_of_ble_eq_true rfl) rfl ?_
    refine r_iinc C 4 (x3 + 1) [(3, .int (x3 + 1)), (2, .int s0), (1, .int (x1 + (0 : Int32))), (5, .int s0), (0, .ref 50)] dX6_whistle_65 rfl rfl (Nat.le_of_ble_eq_true rfl) rfl ?_
    refine r_goto C 6 dX6_whistle_68 (by decide) ?_
    refine r_lv [(0, .ref 50), (1, .int (x1 + (0 : Int32))), (2, .int s0), (3, .int (x3 + 1))] [4, 2, 1, 0] rfl ?_
    exact hr6 (x1 + (0 : Int32)) s0 (x3 + 1)
  · refine r_iload C 0 dX6_whistle_49 rfl ?_
    refine r_iload_n C 3 dX6_whistle_51 rfl ?_
    refine r_icmp_eq C 59 dX6_whistle_52 (by decide) (fun h52 => ?_) (fun h52 => ?_)
    · refine r_iconst C (0) dX6_whistle_59 rfl ?_
      refine r_iadd C dX6_whistle_60 ?_
      refine r_istore_n C [(1, .int (x1 + (0 : Int32))), (5, .int s0), (0, .ref 50), (2, .int x2), (3, .int x3)] dX6_whistle_61 (Nat.le_of_ble_eq_true rfl) rfl ?_
      refine r_iload C 1 dX6_whistle_62 rfl ?_
      refine r_istore_n C [(2, .int s0), (1, .int (x1 + (0 : Int32))), (5, .int s0), (0, .ref 50), (3, .int x3)] dX6_whistle_64 (Nat.le_of_ble_eq_true rfl) rfl ?_
      refine r_iinc C 4 (x3 + 1) [(3, .int (x3 + 1)), (2, .int s0), (1, .int (x1 + (0 : Int32))), (5, .int s0), (0, .ref 50)] dX6_whistle_65 rfl rfl (Nat.le_of_ble_eq_true rfl) rfl ?_
      refine r_goto C 6 dX6_whistle_68 (by decide) ?_
      refine r_lv [(0, .ref 50), (1, .int (x1 + (0 : Int32))), (2, .int s0), (3, .int (x3 + 1))] [4, 2, 1, 0] rfl ?_
      exact hr6 (x1 + (0 : Int32)) s0 (x3 + 1)
    · refine r_iconst C (1) dX6_whistle_55 rfl ?_
      refine r_goto C 60 dX6_whistle_56 (by decide) ?_
      refine r_iadd C dX6_whistle_60 ?_
      refine r_istore_n C [(1, .int (x1 + (1 : Int32))), (5, .int s0), (0, .ref 50), (2, .int x2), (3, .int x3)] dX6_whistle_61 (Nat.le_of_ble_eq_true rfl) rfl ?_
      refine r_iload C 1 dX6_whistle_62 rfl ?_
      refine r_istore_n C [(2, .int s0), (1, .int (x1 + (1 : Int32))), (5, .int s0), (0, .ref 50), (3, .int x3)] dX6_whistle_64 (Nat.le_of_ble_eq_true rfl) rfl ?_
      refine r_iinc C 4 (x3 + 1) [(3, .int (x3 + 1)), (2, .int s0), (1, .int (x1 + (1 : Int32))), (5, .int s0), (0, .ref 50)] dX6_whistle_65 rfl rfl (Nat.le_of_ble_eq_true rfl) rfl ?_
      refine r_goto C 6 dX6_whistle_68 (by decide) ?_
      refine r_lv [(0, .ref 50), (1, .int (x1 + (1 : Int32))), (2, .int s0), (3, .int (x3 + 1))] [4, 2, 1, 0] rfl ?_
      exact hr6 (x1 + (1 : Int32)) s0 (x3 + 1)
set_option maxRecDepth 100000 in
set_option maxHeartbeats 4000000 in
theorem k_X6_whistle_6 {p : Program} {l : Launch} {e : Env} {s : State} {m : MethodId} {args : Array Value} {below : List Frame} {meth : Method} {c : Code} {dC : Nat → ClassId} {dI : Nat → Nat → Nat} {dA : Nat → ClassId} {A : Nat → Prop} {α : Nat → Nat} {t : Int32} (C : q_Cx p s m args meth c cX6_whistle 6 RX6 (some .int) "whistle" dC dI dA A α) (M : q_St)  : ∀ (n : Nat) (x1 : Int32) (x2 : Int32) (x3 : Int32), q_S p l e (q_rm 3 64) s m args below meth c 6 dC dI dA A α (MQ below (q_Q α dC dI dA A ((fun u => some (.int u)) t) ((fun u => w_X6 M) t)) args s 0 0 A) 0 0 (f_X6_whistle_6 M  n x1 x2 x3) t 6 [(0, .ref 50), (1, .int x1), (2, .int x2), (3, .int x3)] [] (w_X6 M) := by
  intro n
  induction n with
  | zero =>
    intro x1 x2 x3
    exact r_cut (f_X6_whistle_6.eq_1 _ _ _ _) (r_none True.intro)
  | succ n ih =>
    intro x1 x2 x3
    refine r_cut (f_X6_whistle_6.eq_2 _ _ _ _ _) ?_
    refine r_iload_n C 3 dX6_whistle_6 rfl ?_
    refine r_aload_n C 0 dX6_whistle_7 rfl ?_
    refine r_get C 0 0 dX6_whistle_8 K_X6 rfl rfl (Nat.le_of_ble_eq_true rfl) rfl m_910 rfl ?_
    refine r_iconst C (1) dX6_whistle_11 rfl ?_
    refine r_iald C 1 dX6_whistle_12 rfl rfl (fun hi12 => ?_)
    refine r_icmp_ge C 71 dX6_whistle_13 (by decide) (fun h13 => ?_) (fun h13 => ?_)
    · refine r_iload_n C 1 dX6_whistle_71 rfl ?_
      exact r_reti (x := x1) (rv := (fun u => some (.int u))) (hpE := (fun u => w_X6 M)) (t0 := x1) C dX6_whistle_72 (by rfl) (by rfl) (by rfl)
    · refine r_aload_n C 0 dX6_whistle_16 rfl ?_
      refine r_get C 0 0 dX6_whistle_17 K_X6 rfl rfl (Nat.le_of_ble_eq_true rfl) rfl m_910 rfl ?_
      refine r_bipush C (56) dX6_whistle_20 rfl ?_
      refine r_iload_n C 3 dX6_whistle_22 rfl ?_
      refine r_iadd C dX6_whistle_23 ?_
      refine r_iald C 1 dX6_whistle_24 rfl rfl (fun hi24 => ?_)
      refine r_istore C [(4, .int (M.2 0 ((56 : Int32) + x3).toNatClampNeg)), (0, .ref 50), (1, .int x1), (2, .int x2), (3, .int x3)] dX6_whistle_25 (Nat.le_of_ble_eq_true rfl) rfl ?_
      refine r_iload C 0 dX6_whistle_27 rfl ?_
      refine r_if_ge C 36 dX6_whistle_29 (by decide) (fun h29 => ?_) (fun h29 => ?_)
      · refine r_aload_n C 1 dX6_whistle_36 rfl ?_
        refine r_iload C 0 dX6_whistle_37 rfl ?_
        refine r_callV0 C (o_X6_voice l M (M.2 0 ((56 : Int32) + x3).toNatClampNeg)) v_X6_voice m_1037 [.int (M.2 0 ((56 : Int32) + x3).toNatClampNeg)] [] (50) (Or.inl ⟨0, 5, _, TX6, 25, rfl, rfl, rfl⟩) (fun u1 => [.int u1]) (fun u1 => w_X6 M) rfl rfl rfl (Nat.le_of_ble_eq_true rfl) ⟨(Nat.le_of_ble_eq_true rfl), (Nat.le_of_ble_eq_true rfl)⟩ ⟨Nat.zero_le _, Nat.zero_le _⟩ dX6_whistle_39 (fun _ => rfl) (fun _ => rfl) (fun _ => rfl) (fun u1 => ?_)
        refine r_lv [(0, .ref 50), (1, .int x1), (2, .int x2), (3, .int x3)] [1, 2, 3, 4] rfl ?_
        exact k_X6_whistle_42 C M (fun x1 x2 x3 => f_X6_whistle_6 M  n x1 x2 x3) ih x1 x2 x3 u1
      · refine r_iload_n C 3 dX6_whistle_32 rfl ?_
        refine r_goto C 42 dX6_whistle_33 (by decide) ?_
        refine r_lv [(0, .ref 50), (1, .int x1), (2, .int x2), (3, .int x3)] [1, 2, 3, 4] rfl ?_
        exact k_X6_whistle_42 C M (fun x1 x2 x3 => f_X6_whistle_6 M  n x1 x2 x3) ih x1 x2 x3 x2
set_option maxRecDepth 100000 in
set_option maxHeartbeats 4000000 in
theorem o_X6_whistle (l : Launch) (M : q_St) : q_Ok l yX6_whistle cX6_whistle 6 (some .int) 3 64 [.ref 50] (w_X6 M) (f_X6_whistle M) (fun u => some (.int u)) (fun u => w_X6 M) := by
  refine q_enter (by decide +kernel) (Nat.le_of_ble_eq_true rfl) (fun t p e s m args below meth c dC dI dA A α C => ?_)
  refine r_cut (f_X6_whistle.eq_1 _) ?_
  show q_S p l e (q_rm 3 64) s m args below meth c 6 dC dI dA A α (MQ below (q_Q α dC dI dA A ((fun u => some (.int u)) t) ((fun u => w_X6 M) t)) args s 0 0 A) 0 0 _ t 0 [(0, .ref 50)] [] (w_X6 M)
  refine r_iconst C (0) dX6_whistle_0 rfl ?_
  refine r_istore_n C [(1, .int (0 : Int32)), (0, .ref 50)] dX6_whistle_1 (Nat.le_of_ble_eq_true rfl) rfl ?_
  refine r_iconst C (-1) dX6_whistle_2 rfl ?_
  refine r_istore_n C [(2, .int (-1 : Int32)), (1, .int (0 : Int32)), (0, .ref 50)] dX6_whistle_3 (Nat.le_of_ble_eq_true rfl) rfl ?_
  refine r_iconst C (0) dX6_whistle_4 rfl ?_
  refine r_istore_n C [(3, .int (0 : Int32)), (2, .int (-1 : Int32)), (1, .int (0 : Int32)), (0, .ref 50)] dX6_whistle_5 (Nat.le_of_ble_eq_true rfl) rfl ?_
  refine r_lv [(0, .ref 50), (1, .int (0 : Int32)), (2, .int (-1 : Int32)), (3, .int (0 : Int32))] [3, 2, 1, 0] rfl ?_
  exact k_X6_whistle_6 C M   q_N (0 : Int32) (-1 : Int32) (0 : Int32)
set_option maxRecDepth 100000 in
set_option maxHeartbeats 4000000 in
theorem o_X6_isHand (l : Launch) (a1 : Int32) : q_Ok l yX6_isHand cX6_isHand 1 (some .boolean) 1 22 [.int a1] ([]) (f_X6_isHand a1) (fun u => some (.int u)) (fun _ => []) := by
  refine q_enter (by decide +kernel) (Nat.le_of_ble_eq_true rfl) (fun t p e s m args below meth c dC dI dA A α C => ?_)
  refine r_cut (f_X6_isHand.eq_1 _) ?_
  show q_S p l e (q_rm 1 22) s m args below meth c 1 dC dI dA A α (MQ below (q_Q α dC dI dA A ((fun u => some (.int u)) t) ((fun _ => []) t)) args s 0 0 A) 0 0 _ t 0 [(0, .int a1)] [] ([])
  refine r_iload_n C 0 dX6_isHand_0 rfl ?_
  refine r_iconst C (0) dX6_isHand_1 rfl ?_
  refine r_iconst C (1) dX6_isHand_2 rfl ?_
  refine r_callS C (o_X6_within l a1 (0 : Int32) (1 : Int32)) v_X6_within m_994 [] [.int a1, .int (0 : Int32), .int (1 : Int32)] [] (fun u1 => [.int u1]) (fun u1 => []) rfl rfl rfl rfl rfl (Nat.le_of_ble_eq_true rfl) ⟨(Nat.le_of_ble_eq_true rfl), (Nat.le_of_ble_eq_true rfl)⟩ ⟨Nat.zero_le _, Nat.zero_le _⟩ dX6_isHand_3 (fun _ => rfl) (fun _ => rfl) (fun _ => rfl) (fun u1 => ?_)
  refine r_gbz (fun hz => ?_)
  exact r_retz (x := u1) (rv := (fun u => some (.int u))) (hpE := (fun _ => [])) (t0 := u1) C dX6_isHand_6 (by rfl) (by exact q_nz1 hz) (by rfl) (by rfl)
set_option maxRecDepth 100000 in
set_option maxHeartbeats 4000000 in
theorem o_X6_takes (l : Launch) (M : q_St) (a1 : Int32) (a2 : Int32) : q_Ok l yX6_takes cX6_takes 3 (some .int) 3 65 [.ref 50, .int a1, .int a2] (w_X6 M) (f_X6_takes M a1 a2) (fun u => some (.int u)) (fun u => w_X6 M) := by
  refine q_enter (by decide +kernel) (Nat.le_of_ble_eq_true rfl) (fun t p e s m args below meth c dC dI dA A α C => ?_)
  refine r_cut (f_X6_takes.eq_1 _ _ _) ?_
  show q_S p l e (q_rm 3 65) s m args below meth c 3 dC dI dA A α (MQ below (q_Q α dC dI dA A ((fun u => some (.int u)) t) ((fun u => w_X6 M) t)) args s 0 0 A) 0 0 _ t 0 [(0, .ref 50), (1, .int a1), (2, .int a2)] [] (w_X6 M)
  refine r_iload_n C 1 dX6_takes_0 rfl ?_
  refine r_iload_n C 2 dX6_takes_1 rfl ?_
  refine r_icmp_ne C 9 dX6_takes_2 (by decide) (fun h2 => ?_) (fun h2 => ?_)
  · refine r_iconst C (0) dX6_takes_5 rfl ?_
    refine r_goto C 29 dX6_takes_6 (by decide) ?_
    exact r_reti (x := (0 : Int32)) (rv := (fun u => some (.int u))) (hpE := (fun u => w_X6 M)) (t0 := (0 : Int32)) C dX6_takes_29 (by rfl) (by rfl) (by rfl)
  · refine r_iload_n C 2 dX6_takes_9 rfl ?_
    refine r_if_ge C 17 dX6_takes_10 (by decide) (fun h10 => ?_) (fun h10 => ?_)
    · refine r_aload_n C 0 dX6_takes_17 rfl ?_
      refine r_iload_n C 2 dX6_takes_18 rfl ?_
      refine r_callV0 C (o_X6_takesOn l M a2) v_X6_takesOn m_1032 [.int a2] [] (50) (Or.inl ⟨0, 5, _, TX6, 25, rfl, rfl, rfl⟩) (fun u1 => [.int u1]) (fun u1 => w_X6 M) rfl rfl rfl (Nat.le_of_ble_eq_true rfl) ⟨(Nat.le_of_ble_eq_true rfl), (Nat.le_of_ble_eq_true rfl)⟩ ⟨Nat.zero_le _, Nat.zero_le _⟩ dX6_takes_19 (fun _ => rfl) (fun _ => rfl) (fun _ => rfl) (fun u1 => ?_)
      refine r_aload_n C 0 dX6_takes_22 rfl ?_
      refine r_iload_n C 2 dX6_takes_23 rfl ?_
      refine r_iconst C (2) dX6_takes_24 rfl ?_
      refine r_callV0 C (o_X6_dollIs l M a2 (2 : Int32)) v_X6_dollIs m_1018 [.int a2, .int (2 : Int32)] [.int u1] (50) (Or.inl ⟨0, 5, _, TX6, 25, rfl, rfl, rfl⟩) (fun u2 => [.int u2, .int u1]) (fun u2 => w_X6 M) rfl rfl rfl (Nat.le_of_ble_eq_true rfl) ⟨(Nat.le_of_ble_eq_true rfl), (Nat.le_of_ble_eq_true rfl)⟩ ⟨Nat.zero_le _, Nat.zero_le _⟩ dX6_takes_25 (fun _ => rfl) (fun _ => rfl) (fun _ => rfl) (fun u2 => ?_)
      refine r_iadd C dX6_takes_28 ?_
      exact r_reti (x := (u1 + u2)) (rv := (fun u => some (.int u))) (hpE := (fun u => w_X6 M)) (t0 := (u1 + u2)) C dX6_takes_29 (by rfl) (by rfl) (by rfl)
    · refine r_iconst C (1) dX6_takes_13 rfl ?_
      refine r_goto C 29 dX6_takes_14 (by decide) ?_
      exact r_reti (x := (1 : Int32)) (rv := (fun u => some (.int u))) (hpE := (fun u => w_X6 M)) (t0 := (1 : Int32)) C dX6_takes_29 (by rfl) (by rfl) (by rfl)
set_option maxRecDepth 100000 in
set_option maxHeartbeats 4000000 in
theorem k_X6_putsIt_38 {p : Program} {l : Launch} {e : Env} {s : State} {m : MethodId} {args : Array Value} {below : List Frame} {meth : Method} {c : Code} {dC : Nat → ClassId} {dI : Nat → Nat → Nat} {dA : Nat → ClassId} {A : Nat → Prop} {α : Nat → Nat} {t : Int32 × q_St} (C : q_Cx p s m args meth c cX6_putsIt 4 RX6 (some .int) "putsIt" dC dI dA A α) (M : q_St) (a1 : Int32) (a2 : Int32)  : ∀ (x1 : Int32) (x2 : Int32) (x3 : Int32) (s0 : Int32) (s1 : Int32) (s2 : Int32) (M' : q_St), q_S p l e (q_rm 4 87) s m args below meth c 4 dC dI dA A α (MQ below (q_Q α dC dI dA A ((fun u => some (.int u.1)) t) ((fun u => w_X6 u.2) t)) args s 0 0 A) 0 0 (f_X6_putsIt_38 M a1 a2  x1 x2 x3 s0 s1 s2 M') t 38 [(0, .ref 50), (1, .int x1), (2, .int x2), (3, .int x3)] [.int s0, .int s1, .int s2, .ref 51] (w_X6 M') := by
  intro x1 x2 x3 s0 s1 s2 M'
  refine r_cut (f_X6_putsIt_38.eq_1 _ _ _ _ _ _ _ _ _ _) ?_
  refine r_iadd C dX6_putsIt_38 ?_
  refine r_iast C 1 _ dX6_putsIt_39 rfl rfl rfl (fun hi39 => ?_)
  refine r_aload_n C 0 dX6_putsIt_40 rfl ?_
  refine r_get C 0 0 dX6_putsIt_41 K_X6 rfl rfl (Nat.le_of_ble_eq_true rfl) rfl m_910 rfl ?_
  refine r_iconst C (5) dX6_putsIt_44 rfl ?_
  refine r_dup2 C dX6_putsIt_45 rfl rfl ?_
  refine r_iald C 1 dX6_putsIt_46 rfl rfl (fun hi46 => ?_)
  refine r_iload_n C 3 dX6_putsIt_47 rfl ?_
  refine r_iadd C dX6_putsIt_48 ?_
  refine r_iast C 1 _ dX6_putsIt_49 rfl rfl rfl (fun hi49 => ?_)
  refine r_aload_n C 0 dX6_putsIt_50 rfl ?_
  refine r_get C 0 0 dX6_putsIt_51 K_X6 rfl rfl (Nat.le_of_ble_eq_true rfl) rfl m_910 rfl ?_
  refine r_iconst C (2) dX6_putsIt_54 rfl ?_
  refine r_iload_n C 1 dX6_putsIt_55 rfl ?_
  refine r_iadd C dX6_putsIt_56 ?_
  refine r_iload_n C 2 dX6_putsIt_57 rfl ?_
  refine r_iast C 1 _ dX6_putsIt_58 rfl rfl rfl (fun hi58 => ?_)
  refine r_iload_n C 3 dX6_putsIt_59 rfl ?_
  exact r_reti (x := x3) (rv := (fun u => some (.int u.1))) (hpE := (fun u => w_X6 u.2)) (t0 := (x3, (M'.1, (va_up M'.2 0 (upd (upd (upd (M'.2 0) s2.toNatClampNeg (s1 + s0)) (5 : Int32).toNatClampNeg (((upd (M'.2 0) s2.toNatClampNeg (s1 + s0)) (5 : Int32).toNatClampNeg) + x3)) ((2 : Int32) + x1).toNatClampNeg x2))))) C dX6_putsIt_60 (by rfl) (by rfl) (by rfl)
set_option maxRecDepth 100000 in
set_option maxHeartbeats 4000000 in
theorem o_X6_putsIt (l : Launch) (M : q_St) (a1 : Int32) (a2 : Int32) : q_Ok l yX6_putsIt cX6_putsIt 4 (some .int) 4 87 [.ref 50, .int a1, .int a2] (w_X6 M) (f_X6_putsIt M a1 a2) (fun u => some (.int u.1)) (fun u => w_X6 u.2) := by
  refine q_enter (by decide +kernel) (Nat.le_of_ble_eq_true rfl) (fun t p e s m args below meth c dC dI dA A α C => ?_)
  refine r_cut (f_X6_putsIt.eq_1 _ _ _) ?_
  show q_S p l e (q_rm 4 87) s m args below meth c 4 dC dI dA A α (MQ below (q_Q α dC dI dA A ((fun u => some (.int u.1)) t) ((fun u => w_X6 u.2) t)) args s 0 0 A) 0 0 _ t 0 [(0, .ref 50), (1, .int a1), (2, .int a2)] [] (w_X6 M)
  refine r_aload_n C 0 dX6_putsIt_0 rfl ?_
  refine r_aload_n C 0 dX6_putsIt_1 rfl ?_
  refine r_get C 0 0 dX6_putsIt_2 K_X6 rfl rfl (Nat.le_of_ble_eq_true rfl) rfl m_910 rfl ?_
  refine r_iconst C (2) dX6_putsIt_5 rfl ?_
  refine r_iload_n C 1 dX6_putsIt_6 rfl ?_
  refine r_iadd C dX6_putsIt_7 ?_
  refine r_iald C 1 dX6_putsIt_8 rfl rfl (fun hi8 => ?_)
  refine r_iload_n C 2 dX6_putsIt_9 rfl ?_
  refine r_callV0 C (o_X6_takes l M (M.2 0 ((2 : Int32) + a1).toNatClampNeg) a2) v_X6_takes m_1131 [.int (M.2 0 ((2 : Int32) + a1).toNatClampNeg), .int a2] [] (50) (Or.inl ⟨0, 5, _, TX6, 25, rfl, rfl, rfl⟩) (fun u1 => [.int u1]) (fun u1 => w_X6 M) rfl rfl rfl (Nat.le_of_ble_eq_true rfl) ⟨(Nat.le_of_ble_eq_true rfl), (Nat.le_of_ble_eq_true rfl)⟩ ⟨Nat.zero_le _, Nat.zero_le _⟩ dX6_putsIt_10 (fun _ => rfl) (fun _ => rfl) (fun _ => rfl) (fun u1 => ?_)
  refine r_istore_n C [(3, .int u1), (0, .ref 50), (1, .int a1), (2, .int a2)] dX6_putsIt_13 (Nat.le_of_ble_eq_true rfl) rfl ?_
  refine r_aload_n C 1 dX6_putsIt_14 rfl ?_
  refine r_get C 0 0 dX6_putsIt_15 K_X6 rfl rfl (Nat.le_of_ble_eq_true rfl) rfl m_910 rfl ?_
  refine r_iconst C (4) dX6_putsIt_18 rfl ?_
  refine r_dup2 C dX6_putsIt_19 rfl rfl ?_
  refine r_iald C 1 dX6_putsIt_20 rfl rfl (fun hi20 => ?_)
  refine r_aload_n C 1 dX6_putsIt_21 rfl ?_
  refine r_get C 0 0 dX6_putsIt_22 K_X6 rfl rfl (Nat.le_of_ble_eq_true rfl) rfl m_910 rfl ?_
  refine r_iconst C (2) dX6_putsIt_25 rfl ?_
  refine r_iload_n C 2 dX6_putsIt_26 rfl ?_
  refine r_iadd C dX6_putsIt_27 ?_
  refine r_iald C 1 dX6_putsIt_28 rfl rfl (fun hi28 => ?_)
  refine r_iload_n C 3 dX6_putsIt_29 rfl ?_
  refine r_icmp_ne C 37 dX6_putsIt_30 (by decide) (fun h30 => ?_) (fun h30 => ?_)
  · refine r_iconst C (0) dX6_putsIt_33 rfl ?_
    refine r_goto C 38 dX6_putsIt_34 (by decide) ?_
    refine r_lv [(0, .ref 50), (1, .int a1), (2, .int a2), (3, .int u1)] [1, 2, 3, 0] rfl ?_
    exact k_X6_putsIt_38 C M a1 a2   a1 a2 u1 (0 : Int32) (M.2 0 (4 : Int32).toNatClampNeg) (4 : Int32) M
  · refine r_iconst C (1) dX6_putsIt_37 rfl ?_
    refine r_lv [(0, .ref 50), (1, .int a1), (2, .int a2), (3, .int u1)] [1, 2, 3, 0] rfl ?_
    exact k_X6_putsIt_38 C M a1 a2   a1 a2 u1 (1 : Int32) (M.2 0 (4 : Int32).toNatClampNeg) (4 : Int32) M
set_option maxRecDepth 100000 in
set_option maxHeartbeats 4000000 in
theorem o_X6_puts (l : Launch) (M : q_St) (a1 : Int32) (a2 : Int32) : q_Ok l yX6_puts cX6_puts 3 (some .int) 5 110 [.ref 50, .int a1, .int a2] (w_X6 M) (f_X6_puts M a1 a2) (fun u => some (.int u.1)) (fun u => w_X6 u.2) := by
  refine q_enter (by decide +kernel) (Nat.le_of_ble_eq_true rfl) (fun t p e s m args below meth c dC dI dA A α C => ?_)
  refine r_cut (f_X6_puts.eq_1 _ _ _) ?_
  show q_S p l e (q_rm 5 110) s m args below meth c 3 dC dI dA A α (MQ below (q_Q α dC dI dA A ((fun u => some (.int u.1)) t) ((fun u => w_X6 u.2) t)) args s 0 0 A) 0 0 _ t 0 [(0, .ref 50), (1, .int a1), (2, .int a2)] [] (w_X6 M)
  refine r_iload_n C 1 dX6_puts_0 rfl ?_
  refine r_callS C (o_X6_isHand l a1) v_X6_isHand m_1123 [] [.int a1] [] (fun u1 => [.int u1]) (fun u1 => w_X6 M) rfl rfl rfl rfl rfl (Nat.le_of_ble_eq_true rfl) ⟨(Nat.le_of_ble_eq_true rfl), (Nat.le_of_ble_eq_true rfl)⟩ ⟨Nat.zero_le _, Nat.zero_le _⟩ dX6_puts_1 (fun _ => rfl) (fun _ => rfl) (fun _ => rfl) (fun u1 => ?_)
  refine r_if_eq C 15 dX6_puts_4 (by decide) (fun h4 => ?_) (fun h4 => ?_)
  · refine r_aload_n C 0 dX6_puts_15 rfl ?_
    refine r_ldc C (-1000001) dX6_puts_16 m_997 ?_
    refine r_callV0 C (o_X6_finding l M (-1000001 : Int32)) v_X6_finding m_998 [.int (-1000001 : Int32)] [] (50) (Or.inl ⟨0, 5, _, TX6, 25, rfl, rfl, rfl⟩) (fun u2 => [.int u2.1]) (fun u2 => w_X6 u2.2) rfl rfl rfl (Nat.le_of_ble_eq_true rfl) ⟨(Nat.le_of_ble_eq_true rfl), (Nat.le_of_ble_eq_true rfl)⟩ ⟨Nat.zero_le _, Nat.zero_le _⟩ dX6_puts_18 (fun _ => rfl) (fun _ => rfl) (fun _ => rfl) (fun u2 => ?_)
    exact r_reti (x := u2.1) (rv := (fun u => some (.int u.1))) (hpE := (fun u => w_X6 u.2)) (t0 := (u2.1, u2.2)) C dX6_puts_21 (by rfl) (by rfl) (by rfl)
  · refine r_aload_n C 0 dX6_puts_7 rfl ?_
    refine r_iload_n C 2 dX6_puts_8 rfl ?_
    refine r_callV0 C (o_X6_maySpeak l M a2) v_X6_maySpeak m_1069 [.int a2] [] (50) (Or.inl ⟨0, 5, _, TX6, 25, rfl, rfl, rfl⟩) (fun u3 => [.int u3]) (fun u3 => w_X6 M) rfl rfl rfl (Nat.le_of_ble_eq_true rfl) ⟨(Nat.le_of_ble_eq_true rfl), (Nat.le_of_ble_eq_true rfl)⟩ ⟨Nat.zero_le _, Nat.zero_le _⟩ dX6_puts_9 (fun _ => rfl) (fun _ => rfl) (fun _ => rfl) (fun u3 => ?_)
    refine r_if_ne C 22 dX6_puts_12 (by decide) (fun h12 => ?_) (fun h12 => ?_)
    · refine r_aload_n C 0 dX6_puts_15 rfl ?_
      refine r_ldc C (-1000001) dX6_puts_16 m_997 ?_
      refine r_callV0 C (o_X6_finding l M (-1000001 : Int32)) v_X6_finding m_998 [.int (-1000001 : Int32)] [] (50) (Or.inl ⟨0, 5, _, TX6, 25, rfl, rfl, rfl⟩) (fun u7 => [.int u7.1]) (fun u7 => w_X6 u7.2) rfl rfl rfl (Nat.le_of_ble_eq_true rfl) ⟨(Nat.le_of_ble_eq_true rfl), (Nat.le_of_ble_eq_true rfl)⟩ ⟨Nat.zero_le _, Nat.zero_le _⟩ dX6_puts_18 (fun _ => rfl) (fun _ => rfl) (fun _ => rfl) (fun u7 => ?_)
      exact r_reti (x := u7.1) (rv := (fun u => some (.int u.1))) (hpE := (fun u => w_X6 u.2)) (t0 := (u7.1, u7.2)) C dX6_puts_21 (by rfl) (by rfl) (by rfl)
    · refine r_iload_n C 2 dX6_puts_22 rfl ?_
      refine r_if_lt C 47 dX6_puts_23 (by decide) (fun h23 => ?_) (fun h23 => ?_)
      · refine r_aload_n C 0 dX6_puts_47 rfl ?_
        refine r_iload_n C 1 dX6_puts_48 rfl ?_
        refine r_iload_n C 2 dX6_puts_49 rfl ?_
        refine r_callV0 C (o_X6_putsIt l M a1 a2) v_X6_putsIt m_1127 [.int a1, .int a2] [] (50) (Or.inl ⟨0, 5, _, TX6, 25, rfl, rfl, rfl⟩) (fun u4 => [.int u4.1]) (fun u4 => w_X6 u4.2) rfl rfl rfl (Nat.le_of_ble_eq_true rfl) ⟨(Nat.le_of_ble_eq_true rfl), (Nat.le_of_ble_eq_true rfl)⟩ ⟨Nat.zero_le _, Nat.zero_le _⟩ dX6_puts_50 (fun _ => rfl) (fun _ => rfl) (fun _ => rfl) (fun u4 => ?_)
        exact r_reti (x := u4.1) (rv := (fun u => some (.int u.1))) (hpE := (fun u => w_X6 u.2)) (t0 := (u4.1, u4.2)) C dX6_puts_53 (by rfl) (by rfl) (by rfl)
      · refine r_aload_n C 0 dX6_puts_26 rfl ?_
        refine r_get C 0 0 dX6_puts_27 K_X6 rfl rfl (Nat.le_of_ble_eq_true rfl) rfl m_910 rfl ?_
        refine r_iconst C (3) dX6_puts_30 rfl ?_
        refine r_iload_n C 1 dX6_puts_31 rfl ?_
        refine r_isub C dX6_puts_32 ?_
        refine r_iald C 1 dX6_puts_33 rfl rfl (fun hi33 => ?_)
        refine r_iload_n C 2 dX6_puts_34 rfl ?_
        refine r_icmp_ne C 47 dX6_puts_35 (by decide) (fun h35 => ?_) (fun h35 => ?_)
        · refine r_aload_n C 0 dX6_puts_38 rfl ?_
          refine r_ldc C (-1000005) dX6_puts_39 m_1126 ?_
          refine r_callV0 C (o_X6_finding l M (-1000005 : Int32)) v_X6_finding m_998 [.int (-1000005 : Int32)] [] (50) (Or.inl ⟨0, 5, _, TX6, 25, rfl, rfl, rfl⟩) (fun u6 => [.int u6.1]) (fun u6 => w_X6 u6.2) rfl rfl rfl (Nat.le_of_ble_eq_true rfl) ⟨(Nat.le_of_ble_eq_true rfl), (Nat.le_of_ble_eq_true rfl)⟩ ⟨Nat.zero_le _, Nat.zero_le _⟩ dX6_puts_41 (fun _ => rfl) (fun _ => rfl) (fun _ => rfl) (fun u6 => ?_)
          refine r_goto C 53 dX6_puts_44 (by decide) ?_
          exact r_reti (x := u6.1) (rv := (fun u => some (.int u.1))) (hpE := (fun u => w_X6 u.2)) (t0 := (u6.1, u6.2)) C dX6_puts_53 (by rfl) (by rfl) (by rfl)
        · refine r_aload_n C 0 dX6_puts_47 rfl ?_
          refine r_iload_n C 1 dX6_puts_48 rfl ?_
          refine r_iload_n C 2 dX6_puts_49 rfl ?_
          refine r_callV0 C (o_X6_putsIt l M a1 a2) v_X6_putsIt m_1127 [.int a1, .int a2] [] (50) (Or.inl ⟨0, 5, _, TX6, 25, rfl, rfl, rfl⟩) (fun u5 => [.int u5.1]) (fun u5 => w_X6 u5.2) rfl rfl rfl (Nat.le_of_ble_eq_true rfl) ⟨(Nat.le_of_ble_eq_true rfl), (Nat.le_of_ble_eq_true rfl)⟩ ⟨Nat.zero_le _, Nat.zero_le _⟩ dX6_puts_50 (fun _ => rfl) (fun _ => rfl) (fun _ => rfl) (fun u5 => ?_)
          exact r_reti (x := u5.1) (rv := (fun u => some (.int u.1))) (hpE := (fun u => w_X6 u.2)) (t0 := (u5.1, u5.2)) C dX6_puts_53 (by rfl) (by rfl) (by rfl)
set_option maxRecDepth 100000 in
set_option maxHeartbeats 4000000 in
theorem o_X6_hand (l : Launch) (M : q_St) (a1 : Int32) : q_Ok l yX6_hand cX6_hand 2 (some .int) 2 42 [.ref 50, .int a1] (w_X6 M) (f_X6_hand M a1) (fun u => some (.int u.1)) (fun u => w_X6 u.2) := by
  refine q_enter (by decide +kernel) (Nat.le_of_ble_eq_true rfl) (fun t p e s m args below meth c dC dI dA A α C => ?_)
  refine r_cut (f_X6_hand.eq_1 _ _) ?_
  show q_S p l e (q_rm 2 42) s m args below meth c 2 dC dI dA A α (MQ below (q_Q α dC dI dA A ((fun u => some (.int u.1)) t) ((fun u => w_X6 u.2) t)) args s 0 0 A) 0 0 _ t 0 [(0, .ref 50), (1, .int a1)] [] (w_X6 M)
  refine r_iload_n C 1 dX6_hand_0 rfl ?_
  refine r_callS C (o_X6_isHand l a1) v_X6_isHand m_1123 [] [.int a1] [] (fun u1 => [.int u1]) (fun u1 => w_X6 M) rfl rfl rfl rfl rfl (Nat.le_of_ble_eq_true rfl) ⟨(Nat.le_of_ble_eq_true rfl), (Nat.le_of_ble_eq_true rfl)⟩ ⟨Nat.zero_le _, Nat.zero_le _⟩ dX6_hand_1 (fun _ => rfl) (fun _ => rfl) (fun _ => rfl) (fun u1 => ?_)
  refine r_if_eq C 18 dX6_hand_4 (by decide) (fun h4 => ?_) (fun h4 => ?_)
  · refine r_aload_n C 0 dX6_hand_18 rfl ?_
    refine r_ldc C (-1000001) dX6_hand_19 m_997 ?_
    refine r_callV0 C (o_X6_finding l M (-1000001 : Int32)) v_X6_finding m_998 [.int (-1000001 : Int32)] [] (50) (Or.inl ⟨0, 5, _, TX6, 25, rfl, rfl, rfl⟩) (fun u2 => [.int u2.1]) (fun u2 => w_X6 u2.2) rfl rfl rfl (Nat.le_of_ble_eq_true rfl) ⟨(Nat.le_of_ble_eq_true rfl), (Nat.le_of_ble_eq_true rfl)⟩ ⟨Nat.zero_le _, Nat.zero_le _⟩ dX6_hand_21 (fun _ => rfl) (fun _ => rfl) (fun _ => rfl) (fun u2 => ?_)
    exact r_reti (x := u2.1) (rv := (fun u => some (.int u.1))) (hpE := (fun u => w_X6 u.2)) (t0 := (u2.1, u2.2)) C dX6_hand_24 (by rfl) (by rfl) (by rfl)
  · refine r_aload_n C 0 dX6_hand_7 rfl ?_
    refine r_get C 0 0 dX6_hand_8 K_X6 rfl rfl (Nat.le_of_ble_eq_true rfl) rfl m_910 rfl ?_
    refine r_iconst C (2) dX6_hand_11 rfl ?_
    refine r_iload_n C 1 dX6_hand_12 rfl ?_
    refine r_iadd C dX6_hand_13 ?_
    refine r_iald C 1 dX6_hand_14 rfl rfl (fun hi14 => ?_)
    refine r_goto C 24 dX6_hand_15 (by decide) ?_
    exact r_reti (x := (M.2 0 ((2 : Int32) + a1).toNatClampNeg)) (rv := (fun u => some (.int u.1))) (hpE := (fun u => w_X6 u.2)) (t0 := ((M.2 0 ((2 : Int32) + a1).toNatClampNeg), M)) C dX6_hand_24 (by rfl) (by rfl) (by rfl)
set_option maxRecDepth 100000 in
set_option maxHeartbeats 4000000 in
theorem k_X6_doesSuit_35 {p : Program} {l : Launch} {e : Env} {s : State} {m : MethodId} {args : Array Value} {below : List Frame} {meth : Method} {c : Code} {dC : Nat → ClassId} {dI : Nat → Nat → Nat} {dA : Nat → ClassId} {A : Nat → Prop} {α : Nat → Nat} {t : Int32} (C : q_Cx p s m args meth c cX6_doesSuit 5 RX6 (some .boolean) "doesSuit" dC dI dA A α) (M : q_St) (a1 : Int32) (a2 : Int32) (a3 : Int32)  : ∀ (x2 : Int32) (s0 : Int32) (s1 : Int32), q_S p l e (q_rm 3 65) s m args below meth c 5 dC dI dA A α (MQ below (q_Q α dC dI dA A ((fun u => some (.int u)) t) ((fun u => w_X6 M) t)) args s 0 0 A) 0 0 (f_X6_doesSuit_35 M a1 a2 a3  x2 s0 s1) t 35 [(0, .ref 50), (2, .int x2)] [.int s0, .int s1] (w_X6 M) := by
  intro x2 s0 s1
  refine r_cut (f_X6_doesSuit_35.eq_1 _ _ _ _ _ _ _) ?_
  refine r_iand C dX6_doesSuit_35 ?_
  refine r_istore C [(4, .int (s1 &&& s0)), (0, .ref 50), (2, .int x2)] dX6_doesSuit_36 (Nat.le_of_ble_eq_true rfl) rfl ?_
  refine r_iload C 0 dX6_doesSuit_38 rfl ?_
  refine r_iload_n C 2 dX6_doesSuit_40 rfl ?_
  refine r_if_lt C 61 dX6_doesSuit_41 (by decide) (fun h41 => ?_) (fun h41 => ?_)
  · refine r_iconst C (-1) dX6_doesSuit_61 rfl ?_
    refine r_iand C dX6_doesSuit_62 ?_
    refine r_istore C [(4, .int ((s1 &&& s0) &&& (-1 : Int32))), (0, .ref 50), (2, .int x2)] dX6_doesSuit_63 (Nat.le_of_ble_eq_true rfl) rfl ?_
    refine r_iload C 0 dX6_doesSuit_65 rfl ?_
    refine r_if_ne C 74 dX6_doesSuit_67 (by decide) (fun h67 => ?_) (fun h67 => ?_)
    · refine r_iconst C (1) dX6_doesSuit_70 rfl ?_
      refine r_goto C 75 dX6_doesSuit_71 (by decide) ?_
      exact r_retz (x := (1 : Int32)) (rv := (fun u => some (.int u))) (hpE := (fun u => w_X6 M)) (t0 := (1 : Int32)) C dX6_doesSuit_75 (by rfl) (by rfl) (by rfl) (by rfl)
    · refine r_iconst C (0) dX6_doesSuit_74 rfl ?_
      exact r_retz (x := (0 : Int32)) (rv := (fun u => some (.int u))) (hpE := (fun u => w_X6 M)) (t0 := (0 : Int32)) C dX6_doesSuit_75 (by rfl) (by rfl) (by rfl) (by rfl)
  · refine r_aload_n C 1 dX6_doesSuit_44 rfl ?_
    refine r_iload_n C 2 dX6_doesSuit_45 rfl ?_
    refine r_callV0 C (o_X6_wants l M x2) v_X6_wants m_1022 [.int x2] [.int (s1 &&& s0)] (50) (Or.inl ⟨0, 5, _, TX6, 25, rfl, rfl, rfl⟩) (fun u2 => [.int u2, .int (s1 &&& s0)]) (fun u2 => w_X6 M) rfl rfl rfl (Nat.le_of_ble_eq_true rfl) ⟨(Nat.le_of_ble_eq_true rfl), (Nat.le_of_ble_eq_true rfl)⟩ ⟨Nat.zero_le _, Nat.zero_le _⟩ dX6_doesSuit_46 (fun _ => rfl) (fun _ => rfl) (fun _ => rfl) (fun u2 => ?_)
    refine r_iconst C (1) dX6_doesSuit_49 rfl ?_
    refine r_icmp_eq C 61 dX6_doesSuit_50 (by decide) (fun h50 => ?_) (fun h50 => ?_)
    · refine r_iconst C (-1) dX6_doesSuit_61 rfl ?_
      refine r_iand C dX6_doesSuit_62 ?_
      refine r_istore C [(4, .int ((s1 &&& s0) &&& (-1 : Int32))), (0, .ref 50), (2, .int x2)] dX6_doesSuit_63 (Nat.le_of_ble_eq_true rfl) rfl ?_
      refine r_iload C 0 dX6_doesSuit_65 rfl ?_
      refine r_if_ne C 74 dX6_doesSuit_67 (by decide) (fun h67 => ?_) (fun h67 => ?_)
      · refine r_iconst C (1) dX6_doesSuit_70 rfl ?_
        refine r_goto C 75 dX6_doesSuit_71 (by decide) ?_
        exact r_retz (x := (1 : Int32)) (rv := (fun u => some (.int u))) (hpE := (fun u => w_X6 M)) (t0 := (1 : Int32)) C dX6_doesSuit_75 (by rfl) (by rfl) (by rfl) (by rfl)
      · refine r_iconst C (0) dX6_doesSuit_74 rfl ?_
        exact r_retz (x := (0 : Int32)) (rv := (fun u => some (.int u))) (hpE := (fun u => w_X6 M)) (t0 := (0 : Int32)) C dX6_doesSuit_75 (by rfl) (by rfl) (by rfl) (by rfl)
    · refine r_iconst C (1) dX6_doesSuit_53 rfl ?_
      refine r_iload_n C 2 dX6_doesSuit_54 rfl ?_
      refine r_ishl C dX6_doesSuit_55 ?_
      refine r_iconst C (-1) dX6_doesSuit_56 rfl ?_
      refine r_ixor C dX6_doesSuit_57 ?_
      refine r_goto C 62 dX6_doesSuit_58 (by decide) ?_
      refine r_iand C dX6_doesSuit_62 ?_
      refine r_istore C [(4, .int ((s1 &&& s0) &&& (((1 : Int32) <<< (x2 &&& 31)) ^^^ (-1 : Int32)))), (0, .ref 50), (2, .int x2)] dX6_doesSuit_63 (Nat.le_of_ble_eq_true rfl) rfl ?_
      refine r_iload C 0 dX6_doesSuit_65 rfl ?_
      refine r_if_ne C 74 dX6_doesSuit_67 (by decide) (fun h67 => ?_) (fun h67 => ?_)
      · refine r_iconst C (1) dX6_doesSuit_70 rfl ?_
        refine r_goto C 75 dX6_doesSuit_71 (by decide) ?_
        exact r_retz (x := (1 : Int32)) (rv := (fun u => some (.int u))) (hpE := (fun u => w_X6 M)) (t0 := (1 : Int32)) C dX6_doesSuit_75 (by rfl) (by rfl) (by rfl) (by rfl)
      · refine r_iconst C (0) dX6_doesSuit_74 rfl ?_
        exact r_retz (x := (0 : Int32)) (rv := (fun u => some (.int u))) (hpE := (fun u => w_X6 M)) (t0 := (0 : Int32)) C dX6_doesSuit_75 (by rfl) (by rfl) (by rfl) (by rfl)
set_option maxRecDepth 100000 in
set_option maxHeartbeats 4000000 in
theorem o_X6_doesSuit (l : Launch) (M : q_St) (a1 : Int32) (a2 : Int32) (a3 : Int32) : q_Ok l yX6_doesSuit cX6_doesSuit 5 (some .boolean) 3 65 [.ref 50, .int a1, .int a2, .int a3] (w_X6 M) (f_X6_doesSuit M a1 a2 a3) (fun u => some (.int u)) (fun u => w_X6 M) := by
  refine q_enter (by decide +kernel) (Nat.le_of_ble_eq_true rfl) (fun t p e s m args below meth c dC dI dA A α C => ?_)
  refine r_cut (f_X6_doesSuit.eq_1 _ _ _ _) ?_
  show q_S p l e (q_rm 3 65) s m args below meth c 5 dC dI dA A α (MQ below (q_Q α dC dI dA A ((fun u => some (.int u)) t) ((fun u => w_X6 M) t)) args s 0 0 A) 0 0 _ t 0 [(0, .ref 50), (1, .int a1), (2, .int a2), (3, .int a3)] [] (w_X6 M)
  refine r_aload_n C 0 dX6_doesSuit_0 rfl ?_
  refine r_get C 0 0 dX6_doesSuit_1 K_X6 rfl rfl (Nat.le_of_ble_eq_true rfl) rfl m_910 rfl ?_
  refine r_bipush C (44) dX6_doesSuit_4 rfl ?_
  refine r_iload_n C 3 dX6_doesSuit_6 rfl ?_
  refine r_iadd C dX6_doesSuit_7 ?_
  refine r_iald C 1 dX6_doesSuit_8 rfl rfl (fun hi8 => ?_)
  refine r_istore C [(4, .int (M.2 0 ((44 : Int32) + a3).toNatClampNeg)), (0, .ref 50), (1, .int a1), (2, .int a2), (3, .int a3)] dX6_doesSuit_9 (Nat.le_of_ble_eq_true rfl) rfl ?_
  refine r_iload C 0 dX6_doesSuit_11 rfl ?_
  refine r_iload_n C 2 dX6_doesSuit_13 rfl ?_
  refine r_if_lt C 34 dX6_doesSuit_14 (by decide) (fun h14 => ?_) (fun h14 => ?_)
  · refine r_iconst C (-1) dX6_doesSuit_34 rfl ?_
    refine r_lv [(0, .ref 50), (2, .int a2)] [1, 3] rfl ?_
    exact k_X6_doesSuit_35 C M a1 a2 a3   a2 (-1 : Int32) (M.2 0 ((44 : Int32) + a3).toNatClampNeg)
  · refine r_aload_n C 1 dX6_doesSuit_17 rfl ?_
    refine r_iload_n C 2 dX6_doesSuit_18 rfl ?_
    refine r_callV0 C (o_X6_wants l M a1) v_X6_wants m_1022 [.int a1] [.int (M.2 0 ((44 : Int32) + a3).toNatClampNeg)] (50) (Or.inl ⟨0, 5, _, TX6, 25, rfl, rfl, rfl⟩) (fun u1 => [.int u1, .int (M.2 0 ((44 : Int32) + a3).toNatClampNeg)]) (fun u1 => w_X6 M) rfl rfl rfl (Nat.le_of_ble_eq_true rfl) ⟨(Nat.le_of_ble_eq_true rfl), (Nat.le_of_ble_eq_true rfl)⟩ ⟨Nat.zero_le _, Nat.zero_le _⟩ dX6_doesSuit_19 (fun _ => rfl) (fun _ => rfl) (fun _ => rfl) (fun u1 => ?_)
    refine r_iconst C (2) dX6_doesSuit_22 rfl ?_
    refine r_icmp_eq C 34 dX6_doesSuit_23 (by decide) (fun h23 => ?_) (fun h23 => ?_)
    · refine r_iconst C (-1) dX6_doesSuit_34 rfl ?_
      refine r_lv [(0, .ref 50), (2, .int a2)] [1, 3] rfl ?_
      exact k_X6_doesSuit_35 C M a1 a2 a3   a2 (-1 : Int32) (M.2 0 ((44 : Int32) + a3).toNatClampNeg)
    · refine r_iconst C (1) dX6_doesSuit_26 rfl ?_
      refine r_iload_n C 2 dX6_doesSuit_27 rfl ?_
      refine r_ishl C dX6_doesSuit_28 ?_
      refine r_iconst C (-1) dX6_doesSuit_29 rfl ?_
      refine r_ixor C dX6_doesSuit_30 ?_
      refine r_goto C 35 dX6_doesSuit_31 (by decide) ?_
      refine r_lv [(0, .ref 50), (2, .int a2)] [1, 3] rfl ?_
      exact k_X6_doesSuit_35 C M a1 a2 a3   a2 (((1 : Int32) <<< (a1 &&& 31)) ^^^ (-1 : Int32)) (M.2 0 ((44 : Int32) + a3).toNatClampNeg)
set_option maxRecDepth 100000 in
set_option maxHeartbeats 4000000 in
theorem o_X6_suits (l : Launch) (M : q_St) (a1 : Int32) : q_Ok l yX6_suits cX6_suits 2 (some .int) 4 89 [.ref 50, .int a1] (w_X6 M) (f_X6_suits M a1) (fun u => some (.int u.1)) (fun u => w_X6 u.2) := by
  refine q_enter (by decide +kernel) (Nat.le_of_ble_eq_true rfl) (fun t p e s m args below meth c dC dI dA A α C => ?_)
  refine r_cut (f_X6_suits.eq_1 _ _) ?_
  show q_S p l e (q_rm 4 89) s m args below meth c 2 dC dI dA A α (MQ below (q_Q α dC dI dA A ((fun u => some (.int u.1)) t) ((fun u => w_X6 u.2) t)) args s 0 0 A) 0 0 _ t 0 [(0, .ref 50), (1, .int a1)] [] (w_X6 M)
  refine r_aload_n C 0 dX6_suits_0 rfl ?_
  refine r_iload_n C 1 dX6_suits_1 rfl ?_
  refine r_callV0 C (o_X6_isBeat l M a1) v_X6_isBeat m_1081 [.int a1] [] (50) (Or.inl ⟨0, 5, _, TX6, 25, rfl, rfl, rfl⟩) (fun u1 => [.int u1]) (fun u1 => w_X6 M) rfl rfl rfl (Nat.le_of_ble_eq_true rfl) ⟨(Nat.le_of_ble_eq_true rfl), (Nat.le_of_ble_eq_true rfl)⟩ ⟨Nat.zero_le _, Nat.zero_le _⟩ dX6_suits_2 (fun _ => rfl) (fun _ => rfl) (fun _ => rfl) (fun u1 => ?_)
  refine r_if_ne C 17 dX6_suits_5 (by decide) (fun h5 => ?_) (fun h5 => ?_)
  · refine r_aload_n C 0 dX6_suits_8 rfl ?_
    refine r_ldc C (-1000001) dX6_suits_9 m_997 ?_
    refine r_callV0 C (o_X6_finding l M (-1000001 : Int32)) v_X6_finding m_998 [.int (-1000001 : Int32)] [] (50) (Or.inl ⟨0, 5, _, TX6, 25, rfl, rfl, rfl⟩) (fun u3 => [.int u3.1]) (fun u3 => w_X6 u3.2) rfl rfl rfl (Nat.le_of_ble_eq_true rfl) ⟨(Nat.le_of_ble_eq_true rfl), (Nat.le_of_ble_eq_true rfl)⟩ ⟨Nat.zero_le _, Nat.zero_le _⟩ dX6_suits_11 (fun _ => rfl) (fun _ => rfl) (fun _ => rfl) (fun u3 => ?_)
    refine r_goto C 42 dX6_suits_14 (by decide) ?_
    exact r_reti (x := u3.1) (rv := (fun u => some (.int u.1))) (hpE := (fun u => w_X6 u.2)) (t0 := (u3.1, u3.2)) C dX6_suits_42 (by rfl) (by rfl) (by rfl)
  · refine r_aload_n C 0 dX6_suits_17 rfl ?_
    refine r_aload_n C 0 dX6_suits_18 rfl ?_
    refine r_get C 0 0 dX6_suits_19 K_X6 rfl rfl (Nat.le_of_ble_eq_true rfl) rfl m_910 rfl ?_
    refine r_iconst C (2) dX6_suits_22 rfl ?_
    refine r_iald C 1 dX6_suits_23 rfl rfl (fun hi23 => ?_)
    refine r_aload_n C 0 dX6_suits_24 rfl ?_
    refine r_get C 0 0 dX6_suits_25 K_X6 rfl rfl (Nat.le_of_ble_eq_true rfl) rfl m_910 rfl ?_
    refine r_iconst C (3) dX6_suits_28 rfl ?_
    refine r_iald C 1 dX6_suits_29 rfl rfl (fun hi29 => ?_)
    refine r_iload_n C 1 dX6_suits_30 rfl ?_
    refine r_callV0 C (o_X6_doesSuit l M (M.2 0 (2 : Int32).toNatClampNeg) (M.2 0 (3 : Int32).toNatClampNeg) a1) v_X6_doesSuit m_1143 [.int (M.2 0 (2 : Int32).toNatClampNeg), .int (M.2 0 (3 : Int32).toNatClampNeg), .int a1] [] (50) (Or.inl ⟨0, 5, _, TX6, 25, rfl, rfl, rfl⟩) (fun u2 => [.int u2]) (fun u2 => w_X6 M) rfl rfl rfl (Nat.le_of_ble_eq_true rfl) ⟨(Nat.le_of_ble_eq_true rfl), (Nat.le_of_ble_eq_true rfl)⟩ ⟨Nat.zero_le _, Nat.zero_le _⟩ dX6_suits_31 (fun _ => rfl) (fun _ => rfl) (fun _ => rfl) (fun u2 => ?_)
    refine r_if_eq C 41 dX6_suits_34 (by decide) (fun h34 => ?_) (fun h34 => ?_)
    · refine r_iconst C (0) dX6_suits_41 rfl ?_
      exact r_reti (x := (0 : Int32)) (rv := (fun u => some (.int u.1))) (hpE := (fun u => w_X6 u.2)) (t0 := ((0 : Int32), M)) C dX6_suits_42 (by rfl) (by rfl) (by rfl)
    · refine r_iconst C (1) dX6_suits_37 rfl ?_
      refine r_goto C 42 dX6_suits_38 (by decide) ?_
      exact r_reti (x := (1 : Int32)) (rv := (fun u => some (.int u.1))) (hpE := (fun u => w_X6 u.2)) (t0 := ((1 : Int32), M)) C dX6_suits_42 (by rfl) (by rfl) (by rfl)
set_option maxRecDepth 100000 in
set_option maxHeartbeats 4000000 in
theorem o_X6_now (l : Launch) (M : q_St) (a1 : Int32) : q_Ok l yX6_now cX6_now 2 (some .int) 1 22 [.ref 50, .int a1] (w_X6 M) (f_X6_now M a1) (fun u => some (.int u.1)) (fun u => w_X6 u.2) := by
  refine q_enter (by decide +kernel) (Nat.le_of_ble_eq_true rfl) (fun t p e s m args below meth c dC dI dA A α C => ?_)
  refine r_cut (f_X6_now.eq_1 _ _) ?_
  show q_S p l e (q_rm 1 22) s m args below meth c 2 dC dI dA A α (MQ below (q_Q α dC dI dA A ((fun u => some (.int u.1)) t) ((fun u => w_X6 u.2) t)) args s 0 0 A) 0 0 _ t 0 [(0, .ref 50), (1, .int a1)] [] (w_X6 M)
  refine r_iload_n C 1 dX6_now_0 rfl ?_
  refine r_iconst C (0) dX6_now_1 rfl ?_
  refine r_iconst C (4) dX6_now_2 rfl ?_
  refine r_callS C (o_X6_within l a1 (0 : Int32) (4 : Int32)) v_X6_within m_994 [] [.int a1, .int (0 : Int32), .int (4 : Int32)] [] (fun u1 => [.int u1]) (fun u1 => w_X6 M) rfl rfl rfl rfl rfl (Nat.le_of_ble_eq_true rfl) ⟨(Nat.le_of_ble_eq_true rfl), (Nat.le_of_ble_eq_true rfl)⟩ ⟨Nat.zero_le _, Nat.zero_le _⟩ dX6_now_3 (fun _ => rfl) (fun _ => rfl) (fun _ => rfl) (fun u1 => ?_)
  refine r_if_eq C 20 dX6_now_6 (by decide) (fun h6 => ?_) (fun h6 => ?_)
  · refine r_aload_n C 0 dX6_now_20 rfl ?_
    refine r_ldc C (-1000001) dX6_now_21 m_997 ?_
    refine r_callV0 C (o_X6_finding l M (-1000001 : Int32)) v_X6_finding m_998 [.int (-1000001 : Int32)] [] (50) (Or.inl ⟨0, 5, _, TX6, 25, rfl, rfl, rfl⟩) (fun u2 => [.int u2.1]) (fun u2 => w_X6 u2.2) rfl rfl rfl (Nat.le_of_ble_eq_true rfl) ⟨(Nat.le_of_ble_eq_true rfl), (Nat.le_of_ble_eq_true rfl)⟩ ⟨Nat.zero_le _, Nat.zero_le _⟩ dX6_now_23 (fun _ => rfl) (fun _ => rfl) (fun _ => rfl) (fun u2 => ?_)
    exact r_reti (x := u2.1) (rv := (fun u => some (.int u.1))) (hpE := (fun u => w_X6 u.2)) (t0 := (u2.1, u2.2)) C dX6_now_26 (by rfl) (by rfl) (by rfl)
  · refine r_aload_n C 0 dX6_now_9 rfl ?_
    refine r_get C 0 0 dX6_now_10 K_X6 rfl rfl (Nat.le_of_ble_eq_true rfl) rfl m_910 rfl ?_
    refine r_iconst C (4) dX6_now_13 rfl ?_
    refine r_iload_n C 1 dX6_now_14 rfl ?_
    refine r_iadd C dX6_now_15 ?_
    refine r_iald C 1 dX6_now_16 rfl rfl (fun hi16 => ?_)
    refine r_goto C 26 dX6_now_17 (by decide) ?_
    exact r_reti (x := (M.2 0 ((4 : Int32) + a1).toNatClampNeg)) (rv := (fun u => some (.int u.1))) (hpE := (fun u => w_X6 u.2)) (t0 := ((M.2 0 ((4 : Int32) + a1).toNatClampNeg), M)) C dX6_now_26 (by rfl) (by rfl) (by rfl)
set_option maxRecDepth 100000 in
set_option maxHeartbeats 4000000 in
theorem o_X6_leftOf (l : Launch) (a1 : Int32) : q_Ok l yX6_leftOf cX6_leftOf 1 (some .int) 0 0 [.int a1] ([]) (f_X6_leftOf a1) (fun u => some (.int u)) (fun _ => []) := by
  refine q_enter (by decide +kernel) (Nat.le_of_ble_eq_true rfl) (fun t p e s m args below meth c dC dI dA A α C => ?_)
  refine r_cut (f_X6_leftOf.eq_1 _) ?_
  show q_S p l e (q_rm 0 0) s m args below meth c 1 dC dI dA A α (MQ below (q_Q α dC dI dA A ((fun u => some (.int u)) t) ((fun _ => []) t)) args s 0 0 A) 0 0 _ t 0 [(0, .int a1)] [] ([])
  refine r_iload_n C 0 dX6_leftOf_0 rfl ?_
  refine r_bipush C (9) dX6_leftOf_1 rfl ?_
  refine r_idiv C dX6_leftOf_3 (by decide) ?_
  refine r_iconst C (1) dX6_leftOf_4 rfl ?_
  refine r_isub C dX6_leftOf_5 ?_
  exact r_reti (x := ((a1 / (9 : Int32)) - (1 : Int32))) (rv := (fun u => some (.int u))) (hpE := (fun _ => [])) (t0 := ((a1 / (9 : Int32)) - (1 : Int32))) C dX6_leftOf_6 (by rfl) (by rfl) (by rfl)
set_option maxRecDepth 100000 in
set_option maxHeartbeats 4000000 in
theorem o_X6_rightOf (l : Launch) (a1 : Int32) : q_Ok l yX6_rightOf cX6_rightOf 1 (some .int) 0 0 [.int a1] ([]) (f_X6_rightOf a1) (fun u => some (.int u)) (fun _ => []) := by
  refine q_enter (by decide +kernel) (Nat.le_of_ble_eq_true rfl) (fun t p e s m args below meth c dC dI dA A α C => ?_)
  refine r_cut (f_X6_rightOf.eq_1 _) ?_
  show q_S p l e (q_rm 0 0) s m args below meth c 1 dC dI dA A α (MQ below (q_Q α dC dI dA A ((fun u => some (.int u)) t) ((fun _ => []) t)) args s 0 0 A) 0 0 _ t 0 [(0, .int a1)] [] ([])
  refine r_iload_n C 0 dX6_rightOf_0 rfl ?_
  refine r_bipush C (9) dX6_rightOf_1 rfl ?_
  refine r_irem C dX6_rightOf_3 (by decide) ?_
  refine r_iconst C (1) dX6_rightOf_4 rfl ?_
  refine r_isub C dX6_rightOf_5 ?_
  exact r_reti (x := ((a1 - a1 / (9 : Int32) * (9 : Int32)) - (1 : Int32))) (rv := (fun u => some (.int u))) (hpE := (fun _ => [])) (t0 := ((a1 - a1 / (9 : Int32) * (9 : Int32)) - (1 : Int32))) C dX6_rightOf_6 (by rfl) (by rfl) (by rfl)
set_option maxRecDepth 100000 in
set_option maxHeartbeats 4000000 in
theorem o_X6_isHold (l : Launch) (M : q_St) (a1 : Int32) (a2 : Int32) : q_Ok l yX6_isHold cX6_isHold 3 (some .boolean) 3 64 [.ref 50, .int a1, .int a2] (w_X6 M) (f_X6_isHold M a1 a2) (fun u => some (.int u)) (fun u => w_X6 M) := by
  refine q_enter (by decide +kernel) (Nat.le_of_ble_eq_true rfl) (fun t p e s m args below meth c dC dI dA A α C => ?_)
  refine r_cut (f_X6_isHold.eq_1 _ _ _) ?_
  show q_S p l e (q_rm 3 64) s m args below meth c 3 dC dI dA A α (MQ below (q_Q α dC dI dA A ((fun u => some (.int u)) t) ((fun u => w_X6 M) t)) args s 0 0 A) 0 0 _ t 0 [(0, .ref 50), (1, .int a1), (2, .int a2)] [] (w_X6 M)
  refine r_aload_n C 0 dX6_isHold_0 rfl ?_
  refine r_iload_n C 1 dX6_isHold_1 rfl ?_
  refine r_callV0 C (o_X6_maySpeak l M a1) v_X6_maySpeak m_1069 [.int a1] [] (50) (Or.inl ⟨0, 5, _, TX6, 25, rfl, rfl, rfl⟩) (fun u1 => [.int u1]) (fun u1 => w_X6 M) rfl rfl rfl (Nat.le_of_ble_eq_true rfl) ⟨(Nat.le_of_ble_eq_true rfl), (Nat.le_of_ble_eq_true rfl)⟩ ⟨Nat.zero_le _, Nat.zero_le _⟩ dX6_isHold_2 (fun _ => rfl) (fun _ => rfl) (fun _ => rfl) (fun u1 => ?_)
  refine r_if_eq C 29 dX6_isHold_5 (by decide) (fun h5 => ?_) (fun h5 => ?_)
  · refine r_iconst C (0) dX6_isHold_29 rfl ?_
    exact r_retz (x := (0 : Int32)) (rv := (fun u => some (.int u))) (hpE := (fun u => w_X6 M)) (t0 := (0 : Int32)) C dX6_isHold_30 (by rfl) (by rfl) (by rfl) (by rfl)
  · refine r_aload_n C 0 dX6_isHold_8 rfl ?_
    refine r_iload_n C 2 dX6_isHold_9 rfl ?_
    refine r_callV0 C (o_X6_maySpeak l M a2) v_X6_maySpeak m_1069 [.int a2] [] (50) (Or.inl ⟨0, 5, _, TX6, 25, rfl, rfl, rfl⟩) (fun u2 => [.int u2]) (fun u2 => w_X6 M) rfl rfl rfl (Nat.le_of_ble_eq_true rfl) ⟨(Nat.le_of_ble_eq_true rfl), (Nat.le_of_ble_eq_true rfl)⟩ ⟨Nat.zero_le _, Nat.zero_le _⟩ dX6_isHold_10 (fun _ => rfl) (fun _ => rfl) (fun _ => rfl) (fun u2 => ?_)
    refine r_if_eq C 29 dX6_isHold_13 (by decide) (fun h13 => ?_) (fun h13 => ?_)
    · refine r_iconst C (0) dX6_isHold_29 rfl ?_
      exact r_retz (x := (0 : Int32)) (rv := (fun u => some (.int u))) (hpE := (fun u => w_X6 M)) (t0 := (0 : Int32)) C dX6_isHold_30 (by rfl) (by rfl) (by rfl) (by rfl)
    · refine r_iload_n C 1 dX6_isHold_16 rfl ?_
      refine r_iload_n C 2 dX6_isHold_17 rfl ?_
      refine r_icmp_ne C 25 dX6_isHold_18 (by decide) (fun h18 => ?_) (fun h18 => ?_)
      · refine r_iload_n C 1 dX6_isHold_21 rfl ?_
        refine r_if_ge C 29 dX6_isHold_22 (by decide) (fun h22 => ?_) (fun h22 => ?_)
        · refine r_iconst C (0) dX6_isHold_29 rfl ?_
          exact r_retz (x := (0 : Int32)) (rv := (fun u => some (.int u))) (hpE := (fun u => w_X6 M)) (t0 := (0 : Int32)) C dX6_isHold_30 (by rfl) (by rfl) (by rfl) (by rfl)
        · refine r_iconst C (1) dX6_isHold_25 rfl ?_
          refine r_goto C 30 dX6_isHold_26 (by decide) ?_
          exact r_retz (x := (1 : Int32)) (rv := (fun u => some (.int u))) (hpE := (fun u => w_X6 M)) (t0 := (1 : Int32)) C dX6_isHold_30 (by rfl) (by rfl) (by rfl) (by rfl)
      · refine r_iconst C (1) dX6_isHold_25 rfl ?_
        refine r_goto C 30 dX6_isHold_26 (by decide) ?_
        exact r_retz (x := (1 : Int32)) (rv := (fun u => some (.int u))) (hpE := (fun u => w_X6 M)) (t0 := (1 : Int32)) C dX6_isHold_30 (by rfl) (by rfl) (by rfl) (by rfl)
set_option maxRecDepth 100000 in
set_option maxHeartbeats 4000000 in
theorem o_X6_worthBetween (l : Launch) (M : q_St) (a1 : Int32) (a2 : Int32) (a3 : Int32) : q_Ok l yX6_worthBetween cX6_worthBetween 4 (some .int) 4 87 [.ref 50, .int a1, .int a2, .int a3] (w_X6 M) (f_X6_worthBetween M a1 a2 a3) (fun u => some (.int u)) (fun u => w_X6 M) := by
  refine q_enter (by decide +kernel) (Nat.le_of_ble_eq_true rfl) (fun t p e s m args below meth c dC dI dA A α C => ?_)
  refine r_cut (f_X6_worthBetween.eq_1 _ _ _ _) ?_
  show q_S p l e (q_rm 4 87) s m args below meth c 4 dC dI dA A α (MQ below (q_Q α dC dI dA A ((fun u => some (.int u)) t) ((fun u => w_X6 M) t)) args s 0 0 A) 0 0 _ t 0 [(0, .ref 50), (1, .int a1), (2, .int a2), (3, .int a3)] [] (w_X6 M)
  refine r_iload_n C 3 dX6_worthBetween_0 rfl ?_
  refine r_if_ne C 38 dX6_worthBetween_1 (by decide) (fun h1 => ?_) (fun h1 => ?_)
  · refine r_iload_n C 1 dX6_worthBetween_4 rfl ?_
    refine r_callS C (o_X6_leftOf l a1) v_X6_leftOf m_1170 [] [.int a1] [] (fun u7 => [.int u7]) (fun u7 => w_X6 M) rfl rfl rfl rfl rfl (Nat.le_of_ble_eq_true rfl) ⟨(Nat.le_of_ble_eq_true rfl), (Nat.le_of_ble_eq_true rfl)⟩ ⟨Nat.zero_le _, Nat.zero_le _⟩ dX6_worthBetween_5 (fun _ => rfl) (fun _ => rfl) (fun _ => rfl) (fun u7 => ?_)
    refine r_iload_n C 2 dX6_worthBetween_8 rfl ?_
    refine r_callS C (o_X6_leftOf l a2) v_X6_leftOf m_1170 [] [.int a2] [.int u7] (fun u8 => [.int u8, .int u7]) (fun u8 => w_X6 M) rfl rfl rfl rfl rfl (Nat.le_of_ble_eq_true rfl) ⟨(Nat.le_of_ble_eq_true rfl), (Nat.le_of_ble_eq_true rfl)⟩ ⟨Nat.zero_le _, Nat.zero_le _⟩ dX6_worthBetween_9 (fun _ => rfl) (fun _ => rfl) (fun _ => rfl) (fun u8 => ?_)
    refine r_icmp_ne C 19 dX6_worthBetween_12 (by decide) (fun h12 => ?_) (fun h12 => ?_)
    · refine r_iconst C (0) dX6_worthBetween_15 rfl ?_
      refine r_goto C 20 dX6_worthBetween_16 (by decide) ?_
      refine r_iload_n C 1 dX6_worthBetween_20 rfl ?_
      refine r_callS C (o_X6_rightOf l a1) v_X6_rightOf m_1173 [] [.int a1] [.int (0 : Int32)] (fun u11 => [.int u11, .int (0 : Int32)]) (fun u11 => w_X6 M) rfl rfl rfl rfl rfl (Nat.le_of_ble_eq_true rfl) ⟨(Nat.le_of_ble_eq_true rfl), (Nat.le_of_ble_eq_true rfl)⟩ ⟨Nat.zero_le _, Nat.zero_le _⟩ dX6_worthBetween_21 (fun _ => rfl) (fun _ => rfl) (fun _ => rfl) (fun u11 => ?_)
      refine r_iload_n C 2 dX6_worthBetween_24 rfl ?_
      refine r_callS C (o_X6_rightOf l a2) v_X6_rightOf m_1173 [] [.int a2] [.int u11, .int (0 : Int32)] (fun u12 => [.int u12, .int u11, .int (0 : Int32)]) (fun u12 => w_X6 M) rfl rfl rfl rfl rfl (Nat.le_of_ble_eq_true rfl) ⟨(Nat.le_of_ble_eq_true rfl), (Nat.le_of_ble_eq_true rfl)⟩ ⟨Nat.zero_le _, Nat.zero_le _⟩ dX6_worthBetween_25 (fun _ => rfl) (fun _ => rfl) (fun _ => rfl) (fun u12 => ?_)
      refine r_icmp_ne C 35 dX6_worthBetween_28 (by decide) (fun h28 => ?_) (fun h28 => ?_)
      · refine r_iconst C (0) dX6_worthBetween_31 rfl ?_
        refine r_goto C 36 dX6_worthBetween_32 (by decide) ?_
        refine r_iadd C dX6_worthBetween_36 ?_
        exact r_reti (x := ((0 : Int32) + (0 : Int32))) (rv := (fun u => some (.int u))) (hpE := (fun u => w_X6 M)) (t0 := ((0 : Int32) + (0 : Int32))) C dX6_worthBetween_37 (by rfl) (by rfl) (by rfl)
      · refine r_iconst C (1) dX6_worthBetween_35 rfl ?_
        refine r_iadd C dX6_worthBetween_36 ?_
        exact r_reti (x := ((0 : Int32) + (1 : Int32))) (rv := (fun u => some (.int u))) (hpE := (fun u => w_X6 M)) (t0 := ((0 : Int32) + (1 : Int32))) C dX6_worthBetween_37 (by rfl) (by rfl) (by rfl)
    · refine r_iconst C (1) dX6_worthBetween_19 rfl ?_
      refine r_iload_n C 1 dX6_worthBetween_20 rfl ?_
      refine r_callS C (o_X6_rightOf l a1) v_X6_rightOf m_1173 [] [.int a1] [.int (1 : Int32)] (fun u9 => [.int u9, .int (1 : Int32)]) (fun u9 => w_X6 M) rfl rfl rfl rfl rfl (Nat.le_of_ble_eq_true rfl) ⟨(Nat.le_of_ble_eq_true rfl), (Nat.le_of_ble_eq_true rfl)⟩ ⟨Nat.zero_le _, Nat.zero_le _⟩ dX6_worthBetween_21 (fun _ => rfl) (fun _ => rfl) (fun _ => rfl) (fun u9 => ?_)
      refine r_iload_n C 2 dX6_worthBetween_24 rfl ?_
      refine r_callS C (o_X6_rightOf l a2) v_X6_rightOf m_1173 [] [.int a2] [.int u9, .int (1 : Int32)] (fun u10 => [.int u10, .int u9, .int (1 : Int32)]) (fun u10 => w_X6 M) rfl rfl rfl rfl rfl (Nat.le_of_ble_eq_true rfl) ⟨(Nat.le_of_ble_eq_true rfl), (Nat.le_of_ble_eq_true rfl)⟩ ⟨Nat.zero_le _, Nat.zero_le _⟩ dX6_worthBetween_25 (fun _ => rfl) (fun _ => rfl) (fun _ => rfl) (fun u10 => ?_)
      refine r_icmp_ne C 35 dX6_worthBetween_28 (by decide) (fun h28 => ?_) (fun h28 => ?_)
      · refine r_iconst C (0) dX6_worthBetween_31 rfl ?_
        refine r_goto C 36 dX6_worthBetween_32 (by decide) ?_
        refine r_iadd C dX6_worthBetween_36 ?_
        exact r_reti (x := ((1 : Int32) + (0 : Int32))) (rv := (fun u => some (.int u))) (hpE := (fun u => w_X6 M)) (t0 := ((1 : Int32) + (0 : Int32))) C dX6_worthBetween_37 (by rfl) (by rfl) (by rfl)
      · refine r_iconst C (1) dX6_worthBetween_35 rfl ?_
        refine r_iadd C dX6_worthBetween_36 ?_
        exact r_reti (x := ((1 : Int32) + (1 : Int32))) (rv := (fun u => some (.int u))) (hpE := (fun u => w_X6 M)) (t0 := ((1 : Int32) + (1 : Int32))) C dX6_worthBetween_37 (by rfl) (by rfl) (by rfl)
  · refine r_aload_n C 0 dX6_worthBetween_38 rfl ?_
    refine r_iload_n C 1 dX6_worthBetween_39 rfl ?_
    refine r_callS C (o_X6_leftOf l a1) v_X6_leftOf m_1170 [] [.int a1] [.ref 50] (fun u1 => [.int u1, .ref 50]) (fun u1 => w_X6 M) rfl rfl rfl rfl rfl (Nat.le_of_ble_eq_true rfl) ⟨(Nat.le_of_ble_eq_true rfl), (Nat.le_of_ble_eq_true rfl)⟩ ⟨Nat.zero_le _, Nat.zero_le _⟩ dX6_worthBetween_40 (fun _ => rfl) (fun _ => rfl) (fun _ => rfl) (fun u1 => ?_)
    refine r_iload_n C 2 dX6_worthBetween_43 rfl ?_
    refine r_callS C (o_X6_leftOf l a2) v_X6_leftOf m_1170 [] [.int a2] [.int u1, .ref 50] (fun u2 => [.int u2, .int u1, .ref 50]) (fun u2 => w_X6 M) rfl rfl rfl rfl rfl (Nat.le_of_ble_eq_true rfl) ⟨(Nat.le_of_ble_eq_true rfl), (Nat.le_of_ble_eq_true rfl)⟩ ⟨Nat.zero_le _, Nat.zero_le _⟩ dX6_worthBetween_44 (fun _ => rfl) (fun _ => rfl) (fun _ => rfl) (fun u2 => ?_)
    refine r_callV0 C (o_X6_takes l M u1 u2) v_X6_takes m_1131 [.int u1, .int u2] [] (50) (Or.inl ⟨0, 5, _, TX6, 25, rfl, rfl, rfl⟩) (fun u3 => [.int u3]) (fun u3 => w_X6 M) rfl rfl rfl (Nat.le_of_ble_eq_true rfl) ⟨(Nat.le_of_ble_eq_true rfl), (Nat.le_of_ble_eq_true rfl)⟩ ⟨Nat.zero_le _, Nat.zero_le _⟩ dX6_worthBetween_47 (fun _ => rfl) (fun _ => rfl) (fun _ => rfl) (fun u3 => ?_)
    refine r_aload_n C 0 dX6_worthBetween_50 rfl ?_
    refine r_iload_n C 1 dX6_worthBetween_51 rfl ?_
    refine r_callS C (o_X6_rightOf l a1) v_X6_rightOf m_1173 [] [.int a1] [.ref 50, .int u3] (fun u4 => [.int u4, .ref 50, .int u3]) (fun u4 => w_X6 M) rfl rfl rfl rfl rfl (Nat.le_of_ble_eq_true rfl) ⟨(Nat.le_of_ble_eq_true rfl), (Nat.le_of_ble_eq_true rfl)⟩ ⟨Nat.zero_le _, Nat.zero_le _⟩ dX6_worthBetween_52 (fun _ => rfl) (fun _ => rfl) (fun _ => rfl) (fun u4 => ?_)
    refine r_iload_n C 2 dX6_worthBetween_55 rfl ?_
    refine r_callS C (o_X6_rightOf l a2) v_X6_rightOf m_1173 [] [.int a2] [.int u4, .ref 50, .int u3] (fun u5 => [.int u5, .int u4, .ref 50, .int u3]) (fun u5 => w_X6 M) rfl rfl rfl rfl rfl (Nat.le_of_ble_eq_true rfl) ⟨(Nat.le_of_ble_eq_true rfl), (Nat.le_of_ble_eq_true rfl)⟩ ⟨Nat.zero_le _, Nat.zero_le _⟩ dX6_worthBetween_56 (fun _ => rfl) (fun _ => rfl) (fun _ => rfl) (fun u5 => ?_)
    refine r_callV0 C (o_X6_takes l M u4 u5) v_X6_takes m_1131 [.int u4, .int u5] [.int u3] (50) (Or.inl ⟨0, 5, _, TX6, 25, rfl, rfl, rfl⟩) (fun u6 => [.int u6, .int u3]) (fun u6 => w_X6 M) rfl rfl rfl (Nat.le_of_ble_eq_true rfl) ⟨(Nat.le_of_ble_eq_true rfl), (Nat.le_of_ble_eq_true rfl)⟩ ⟨Nat.zero_le _, Nat.zero_le _⟩ dX6_worthBetween_59 (fun _ => rfl) (fun _ => rfl) (fun _ => rfl) (fun u6 => ?_)
    refine r_iadd C dX6_worthBetween_62 ?_
    exact r_reti (x := (u3 + u6)) (rv := (fun u => some (.int u))) (hpE := (fun u => w_X6 M)) (t0 := (u3 + u6)) C dX6_worthBetween_63 (by rfl) (by rfl) (by rfl)
set_option maxRecDepth 100000 in
set_option maxHeartbeats 4000000 in
theorem o_X6_holdNow (l : Launch) (M : q_St) : q_Ok l yX6_holdNow cX6_holdNow 1 (some .int) 0 0 [.ref 50] (w_X6 M) (f_X6_holdNow M) (fun u => some (.int u)) (fun u => w_X6 M) := by
  refine q_enter (by decide +kernel) (Nat.le_of_ble_eq_true rfl) (fun t p e s m args below meth c dC dI dA A α C => ?_)
  refine r_cut (f_X6_holdNow.eq_1 _) ?_
  show q_S p l e (q_rm 0 0) s m args below meth c 1 dC dI dA A α (MQ below (q_Q α dC dI dA A ((fun u => some (.int u)) t) ((fun u => w_X6 M) t)) args s 0 0 A) 0 0 _ t 0 [(0, .ref 50)] [] (w_X6 M)
  refine r_bipush C (9) dX6_holdNow_0 rfl ?_
  refine r_aload_n C 0 dX6_holdNow_2 rfl ?_
  refine r_get C 0 0 dX6_holdNow_3 K_X6 rfl rfl (Nat.le_of_ble_eq_true rfl) rfl m_910 rfl ?_
  refine r_iconst C (2) dX6_holdNow_6 rfl ?_
  refine r_iald C 1 dX6_holdNow_7 rfl rfl (fun hi7 => ?_)
  refine r_iconst C (1) dX6_holdNow_8 rfl ?_
  refine r_iadd C dX6_holdNow_9 ?_
  refine r_imul C dX6_holdNow_10 ?_
  refine r_aload_n C 0 dX6_holdNow_11 rfl ?_
  refine r_get C 0 0 dX6_holdNow_12 K_X6 rfl rfl (Nat.le_of_ble_eq_true rfl) rfl m_910 rfl ?_
  refine r_iconst C (3) dX6_holdNow_15 rfl ?_
  refine r_iald C 1 dX6_holdNow_16 rfl rfl (fun hi16 => ?_)
  refine r_iadd C dX6_holdNow_17 ?_
  refine r_iconst C (1) dX6_holdNow_18 rfl ?_
  refine r_iadd C dX6_holdNow_19 ?_
  exact r_reti (x := ((((9 : Int32) * ((M.2 0 (2 : Int32).toNatClampNeg) + (1 : Int32))) + (M.2 0 (3 : Int32).toNatClampNeg)) + (1 : Int32))) (rv := (fun u => some (.int u))) (hpE := (fun u => w_X6 M)) (t0 := ((((9 : Int32) * ((M.2 0 (2 : Int32).toNatClampNeg) + (1 : Int32))) + (M.2 0 (3 : Int32).toNatClampNeg)) + (1 : Int32))) C dX6_holdNow_20 (by rfl) (by rfl) (by rfl)
set_option maxRecDepth 100000 in
set_option maxHeartbeats 4000000 in
theorem k_X6_findWay_239 {p : Program} {l : Launch} {e : Env} {s : State} {m : MethodId} {args : Array Value} {below : List Frame} {meth : Method} {c : Code} {dC : Nat → ClassId} {dI : Nat → Nat → Nat} {dA : Nat → ClassId} {A : Nat → Prop} {α : Nat → Nat} {t : Int32 × q_St} (C : q_Cx p s m args meth c cX6_findWay 7 RX6 (some .int) "findWay" dC dI dA A α) (M : q_St) (a1 : Int32) (a2 : Int32) (r28 : Int32 → Int32 → Int32 → q_St → Option (Int32 × q_St)) (r111 : Int32 → Int32 → Int32 → Int32 → q_St → Option (Int32 × q_St))
    (hr28 : ∀ (x1 : Int32) (x2 : Int32) (x3 : Int32) (M' : q_St), q_S p l e (q_rm 5 110) s m args below meth c 7 dC dI dA A α (MQ below (q_Q α dC dI dA A ((fun u => some (.int u.1)) t) ((fun u => w_X6 u.2) t)) args s 0 0 A) 0 0 (r28 x1 x2 x3 M') t 28 [(0, .ref 50), (1, .int x1), (2, .int x2), (3, .int x3)] [] (w_X6 M'))
    (hr111 : ∀ (x1 : Int32) (x2 : Int32) (x3 : Int32) (x4 : Int32) (M' : q_St), q_S p l e (q_rm 5 110) s m args below meth c 7 dC dI dA A α (MQ below (q_Q α dC dI dA A ((fun u => some (.int u.1)) t) ((fun u => w_X6 u.2) t)) args s 0 0 A) 0 0 (r111 x1 x2 x3 x4 M') t 111 [(0, .ref 50), (1, .int x1), (2, .int x2), (3, .int x3), (4, .int x4)] [] (w_X6 M')) : ∀ (x1 : Int32) (x2 : Int32) (x3 : Int32) (x4 : Int32) (x5 : Int32) (M' : q_St), q_S p l e (q_rm 5 110) s m args below meth c 7 dC dI dA A α (MQ below (q_Q α dC dI dA A ((fun u => some (.int u.1)) t) ((fun u => w_X6 u.2) t)) args s 0 0 A) 0 0 (f_X6_findWay_239 M a1 a2 r28 r111 x1 x2 x3 x4 x5 M') t 239 [(0, .ref 50), (1, .int x1), (2, .int x2), (3, .int x3), (4, .int x4), (5, .int x5)] [] (w_X6 M') := by
  intro x1 x2 x3 x4 x5 M'
  refine r_cut (f_X6_findWay_239.eq_1 _ _ _ _ _ _ _ _ _ _ _) ?_
  refine r_aload_n C 0 dX6_findWay_239 rfl ?_
  refine r_get C 0 5 dX6_findWay_240 K_X6 rfl rfl (Nat.le_of_ble_eq_true rfl) rfl m_915 rfl ?_
  refine r_iload_n C 3 dX6_findWay_243 rfl ?_
  refine r_bipush C (81) dX6_findWay_244 rfl ?_
  refine r_imul C dX6_findWay_246 ?_
  refine r_iload C 4 dX6_findWay_247 rfl ?_
  refine r_iadd C dX6_findWay_249 ?_
  refine r_iload C 5 dX6_findWay_250 rfl ?_
  refine r_iast C 5 _ dX6_findWay_252 rfl rfl rfl (fun hi252 => ?_)
  refine r_iinc C 4 (x4 + 1) [(4, .int (x4 + 1)), (0, .ref 50), (1, .int x1), (2, .int x2), (3, .int x3), (5, .int x5)] dX6_findWay_253 rfl rfl (Nat.le_of_ble_eq_true rfl) rfl ?_
  refine r_goto C 111 dX6_findWay_256 (by decide) ?_
  refine r_lv [(0, .ref 50), (1, .int x1), (2, .int x2), (3, .int x3), (4, .int (x4 + 1))] [1, 2, 3, 4, 0] rfl ?_
  exact hr111 x1 x2 x3 (x4 + 1) (M'.1, (va_up M'.2 5 (upd (M'.2 5) ((x3 * (81 : Int32)) + x4).toNatClampNeg x5)))
set_option maxRecDepth 100000 in
set_option maxHeartbeats 4000000 in
theorem k_X6_findWay_150 {p : Program} {l : Launch} {e : Env} {s : State} {m : MethodId} {args : Array Value} {below : List Frame} {meth : Method} {c : Code} {dC : Nat → ClassId} {dI : Nat → Nat → Nat} {dA : Nat → ClassId} {A : Nat → Prop} {α : Nat → Nat} {t : Int32 × q_St} (C : q_Cx p s m args meth c cX6_findWay 7 RX6 (some .int) "findWay" dC dI dA A α) (M : q_St) (a1 : Int32) (a2 : Int32) (r28 : Int32 → Int32 → Int32 → q_St → Option (Int32 × q_St)) (r111 : Int32 → Int32 → Int32 → Int32 → q_St → Option (Int32 × q_St))
    (hr28 : ∀ (x1 : Int32) (x2 : Int32) (x3 : Int32) (M' : q_St), q_S p l e (q_rm 5 110) s m args below meth c 7 dC dI dA A α (MQ below (q_Q α dC dI dA A ((fun u => some (.int u.1)) t) ((fun u => w_X6 u.2) t)) args s 0 0 A) 0 0 (r28 x1 x2 x3 M') t 28 [(0, .ref 50), (1, .int x1), (2, .int x2), (3, .int x3)] [] (w_X6 M'))
    (hr111 : ∀ (x1 : Int32) (x2 : Int32) (x3 : Int32) (x4 : Int32) (M' : q_St), q_S p l e (q_rm 5 110) s m args below meth c 7 dC dI dA A α (MQ below (q_Q α dC dI dA A ((fun u => some (.int u.1)) t) ((fun u => w_X6 u.2) t)) args s 0 0 A) 0 0 (r111 x1 x2 x3 x4 M') t 111 [(0, .ref 50), (1, .int x1), (2, .int x2), (3, .int x3), (4, .int x4)] [] (w_X6 M')) : ∀ (n : Nat) (x1 : Int32) (x2 : Int32) (x3 : Int32) (x4 : Int32) (x5 : Int32) (x6 : Int32) (M' : q_St), q_S p l e (q_rm 5 110) s m args below meth c 7 dC dI dA A α (MQ below (q_Q α dC dI dA A ((fun u => some (.int u.1)) t) ((fun u => w_X6 u.2) t)) args s 0 0 A) 0 0 (f_X6_findWay_150 M a1 a2 r28 r111 n x1 x2 x3 x4 x5 x6 M') t 150 [(0, .ref 50), (1, .int x1), (2, .int x2), (3, .int x3), (4, .int x4), (5, .int x5), (6, .int x6)] [] (w_X6 M') := by
  intro n
  induction n with
  | zero =>
    intro x1 x2 x3 x4 x5 x6 M'
    exact r_cut (f_X6_findWay_150.eq_1 _ _ _ _ _ _ _ _ _ _ _ _) (r_none True.intro)
  | succ n ih =>
    intro x1 x2 x3 x4 x5 x6 M'
    refine r_cut (f_X6_findWay_150.eq_2 _ _ _ _ _ _ _ _ _ _ _ _ _) ?_
    refine r_iload C 6 dX6_findWay_150 rfl ?_
    refine r_bipush C (81) dX6_findWay_152 rfl ?_
    refine r_icmp_ge C 239 dX6_findWay_154 (by decide) (fun h154 => ?_) (fun h154 => ?_)
    · refine r_lv [(0, .ref 50), (1, .int x1), (2, .int x2), (3, .int x3), (4, .int x4), (5, .int x5)] [0, 1, 2, 3, 4, 5] rfl ?_
      exact k_X6_findWay_239 C M a1 a2 r28 r111 hr28 hr111 x1 x2 x3 x4 x5 M'
    · refine r_iload_n C 1 dX6_findWay_157 rfl ?_
      refine r_iload_n C 3 dX6_findWay_158 rfl ?_
      refine r_callS C (o_X6_has l x1 x3) v_X6_has m_1089 [] [.int x1, .int x3] [] (fun u10 => [.int u10]) (fun u10 => w_X6 M') rfl rfl rfl rfl rfl (Nat.le_of_ble_eq_true rfl) ⟨(Nat.le_of_ble_eq_true rfl), (Nat.le_of_ble_eq_true rfl)⟩ ⟨Nat.zero_le _, Nat.zero_le _⟩ dX6_findWay_159 (fun _ => rfl) (fun _ => rfl) (fun _ => rfl) (fun u10 => ?_)
      refine r_if_eq C 239 dX6_findWay_162 (by decide) (fun h162 => ?_) (fun h162 => ?_)
      · refine r_lv [(0, .ref 50), (1, .int x1), (2, .int x2), (3, .int x3), (4, .int x4), (5, .int x5)] [0, 1, 2, 3, 4, 5] rfl ?_
        exact k_X6_findWay_239 C M a1 a2 r28 r111 hr28 hr111 x1 x2 x3 x4 x5 M'
      · refine r_aload_n C 0 dX6_findWay_165 rfl ?_
        refine r_iload C 4 dX6_findWay_166 rfl ?_
        refine r_callS C (o_X6_leftOf l x4) v_X6_leftOf m_1170 [] [.int x4] [.ref 50] (fun u11 => [.int u11, .ref 50]) (fun u11 => w_X6 M') rfl rfl rfl rfl rfl (Nat.le_of_ble_eq_true rfl) ⟨(Nat.le_of_ble_eq_true rfl), (Nat.le_of_ble_eq_true rfl)⟩ ⟨Nat.zero_le _, Nat.zero_le _⟩ dX6_findWay_168 (fun _ => rfl) (fun _ => rfl) (fun _ => rfl) (fun u11 => ?_)
        refine r_iload C 4 dX6_findWay_171 rfl ?_
        refine r_callS C (o_X6_rightOf l x4) v_X6_rightOf m_1173 [] [.int x4] [.int u11, .ref 50] (fun u12 => [.int u12, .int u11, .ref 50]) (fun u12 => w_X6 M') rfl rfl rfl rfl rfl (Nat.le_of_ble_eq_true rfl) ⟨(Nat.le_of_ble_eq_true rfl), (Nat.le_of_ble_eq_true rfl)⟩ ⟨Nat.zero_le _, Nat.zero_le _⟩ dX6_findWay_173 (fun _ => rfl) (fun _ => rfl) (fun _ => rfl) (fun u12 => ?_)
        refine r_callV0 C (o_X6_isHold l M' u11 u12) v_X6_isHold m_1176 [.int u11, .int u12] [] (50) (Or.inl ⟨0, 5, _, TX6, 25, rfl, rfl, rfl⟩) (fun u13 => [.int u13]) (fun u13 => w_X6 M') rfl rfl rfl (Nat.le_of_ble_eq_true rfl) ⟨(Nat.le_of_ble_eq_true rfl), (Nat.le_of_ble_eq_true rfl)⟩ ⟨Nat.zero_le _, Nat.zero_le _⟩ dX6_findWay_176 (fun _ => rfl) (fun _ => rfl) (fun _ => rfl) (fun u13 => ?_)
        refine r_if_eq C 239 dX6_findWay_179 (by decide) (fun h179 => ?_) (fun h179 => ?_)
        · refine r_lv [(0, .ref 50), (1, .int x1), (2, .int x2), (3, .int x3), (4, .int x4), (5, .int x5)] [0, 1, 2, 3, 4, 5] rfl ?_
          exact k_X6_findWay_239 C M a1 a2 r28 r111 hr28 hr111 x1 x2 x3 x4 x5 M'
        · refine r_aload_n C 0 dX6_findWay_182 rfl ?_
          refine r_get C 0 6 dX6_findWay_183 K_X6 rfl rfl (Nat.le_of_ble_eq_true rfl) rfl m_916 rfl ?_
          refine r_iload_n C 3 dX6_findWay_186 rfl ?_
          refine r_bipush C (81) dX6_findWay_187 rfl ?_
          refine r_imul C dX6_findWay_189 ?_
          refine r_iload C 6 dX6_findWay_190 rfl ?_
          refine r_iadd C dX6_findWay_192 ?_
          refine r_zald C 6 dX6_findWay_193 rfl rfl (fun hi193 => ?_)
          refine r_if_eq C 229 dX6_findWay_194 (by decide) (fun h194 => ?_) (fun h194 => ?_)
          · refine r_iload C 5 dX6_findWay_229 rfl ?_
            refine r_istore C [(5, .int x5), (0, .ref 50), (1, .int x1), (2, .int x2), (3, .int x3), (4, .int x4), (6, .int x6)] dX6_findWay_231 (Nat.le_of_ble_eq_true rfl) rfl ?_
            refine r_iinc C 6 (x6 + 1) [(6, .int (x6 + 1)), (5, .int x5), (0, .ref 50), (1, .int x1), (2, .int x2), (3, .int x3), (4, .int x4)] dX6_findWay_233 rfl rfl (Nat.le_of_ble_eq_true rfl) rfl ?_
            refine r_goto C 150 dX6_findWay_236 (by decide) ?_
            refine r_lv [(0, .ref 50), (1, .int x1), (2, .int x2), (3, .int x3), (4, .int x4), (5, .int x5), (6, .int (x6 + 1))] [2, 3, 4, 5, 6, 1, 0] rfl ?_
            exact ih x1 x2 x3 x4 x5 (x6 + 1) M'
          · refine r_iload C 5 dX6_findWay_197 rfl ?_
            refine r_aload_n C 0 dX6_findWay_199 rfl ?_
            refine r_iload C 4 dX6_findWay_200 rfl ?_
            refine r_iload C 6 dX6_findWay_202 rfl ?_
            refine r_iload_n C 2 dX6_findWay_204 rfl ?_
            refine r_callV0 C (o_X6_worthBetween l M' x4 x6 x2) v_X6_worthBetween m_1181 [.int x4, .int x6, .int x2] [.int x5] (50) (Or.inl ⟨0, 5, _, TX6, 25, rfl, rfl, rfl⟩) (fun u14 => [.int u14, .int x5]) (fun u14 => w_X6 M') rfl rfl rfl (Nat.le_of_ble_eq_true rfl) ⟨(Nat.le_of_ble_eq_true rfl), (Nat.le_of_ble_eq_true rfl)⟩ ⟨Nat.zero_le _, Nat.zero_le _⟩ dX6_findWay_205 (fun _ => rfl) (fun _ => rfl) (fun _ => rfl) (fun u14 => ?_)
            refine r_aload_n C 0 dX6_findWay_208 rfl ?_
            refine r_get C 0 5 dX6_findWay_209 K_X6 rfl rfl (Nat.le_of_ble_eq_true rfl) rfl m_915 rfl ?_
            refine r_iload_n C 3 dX6_findWay_212 rfl ?_
            refine r_iconst C (1) dX6_findWay_213 rfl ?_
            refine r_iadd C dX6_findWay_214 ?_
            refine r_bipush C (81) dX6_findWay_215 rfl ?_
            refine r_imul C dX6_findWay_217 ?_
            refine r_iload C 6 dX6_findWay_218 rfl ?_
            refine r_iadd C dX6_findWay_220 ?_
            refine r_iald C 5 dX6_findWay_221 rfl rfl (fun hi221 => ?_)
            refine r_iadd C dX6_findWay_222 ?_
            refine r_mmin C dX6_findWay_223 m_1185 m_462 m_8 m_463 (Nat.le_of_ble_eq_true rfl) (Nat.le_of_ble_eq_true rfl) (Nat.zero_le _) (Nat.zero_le _) ?_
            refine r_goto C 231 dX6_findWay_226 (by decide) ?_
            refine r_istore C [(5, .int (if (u14 + (M'.2 5 (((x3 + (1 : Int32)) * (81 : Int32)) + x6).toNatClampNeg)) < x5 then (u14 + (M'.2 5 (((x3 + (1 : Int32)) * (81 : Int32)) + x6).toNatClampNeg)) else x5)), (0, .ref 50), (1, .int x1), (2, .int x2), (3, .int x3), (4, .int x4), (6, .int x6)] dX6_findWay_231 (Nat.le_of_ble_eq_true rfl) rfl ?_
            refine r_iinc C 6 (x6 + 1) [(6, .int (x6 + 1)), (5, .int (if (u14 + (M'.2 5 (((x3 + (1 : Int32)) * (81 : Int32)) + x6).toNatClampNeg)) < x5 then (u14 + (M'.2 5 (((x3 + (1 : Int32)) * (81 : Int32)) + x6).toNatClampNeg)) else x5)), (0, .ref 50), (1, .int x1), (2, .int x2), (3, .int x3), (4, .int x4)] dX6_findWay_233 rfl rfl (Nat.le_of_ble_eq_true rfl) rfl ?_
            refine r_goto C 150 dX6_findWay_236 (by decide) ?_
            refine r_lv [(0, .ref 50), (1, .int x1), (2, .int x2), (3, .int x3), (4, .int x4), (5, .int (if (u14 + (M'.2 5 (((x3 + (1 : Int32)) * (81 : Int32)) + x6).toNatClampNeg)) < x5 then (u14 + (M'.2 5 (((x3 + (1 : Int32)) * (81 : Int32)) + x6).toNatClampNeg)) else x5)), (6, .int (x6 + 1))] [2, 3, 4, 5, 6, 1, 0] rfl ?_
            exact ih x1 x2 x3 x4 (if (u14 + (M'.2 5 (((x3 + (1 : Int32)) * (81 : Int32)) + x6).toNatClampNeg)) < x5 then (u14 + (M'.2 5 (((x3 + (1 : Int32)) * (81 : Int32)) + x6).toNatClampNeg)) else x5) (x6 + 1) M'
set_option maxRecDepth 100000 in
set_option maxHeartbeats 4000000 in
theorem k_X6_findWay_111 {p : Program} {l : Launch} {e : Env} {s : State} {m : MethodId} {args : Array Value} {below : List Frame} {meth : Method} {c : Code} {dC : Nat → ClassId} {dI : Nat → Nat → Nat} {dA : Nat → ClassId} {A : Nat → Prop} {α : Nat → Nat} {t : Int32 × q_St} (C : q_Cx p s m args meth c cX6_findWay 7 RX6 (some .int) "findWay" dC dI dA A α) (M : q_St) (a1 : Int32) (a2 : Int32) (r28 : Int32 → Int32 → Int32 → q_St → Option (Int32 × q_St))
    (hr28 : ∀ (x1 : Int32) (x2 : Int32) (x3 : Int32) (M' : q_St), q_S p l e (q_rm 5 110) s m args below meth c 7 dC dI dA A α (MQ below (q_Q α dC dI dA A ((fun u => some (.int u.1)) t) ((fun u => w_X6 u.2) t)) args s 0 0 A) 0 0 (r28 x1 x2 x3 M') t 28 [(0, .ref 50), (1, .int x1), (2, .int x2), (3, .int x3)] [] (w_X6 M')) : ∀ (n : Nat) (x1 : Int32) (x2 : Int32) (x3 : Int32) (x4 : Int32) (M' : q_St), q_S p l e (q_rm 5 110) s m args below meth c 7 dC dI dA A α (MQ below (q_Q α dC dI dA A ((fun u => some (.int u.1)) t) ((fun u => w_X6 u.2) t)) args s 0 0 A) 0 0 (f_X6_findWay_111 M a1 a2 r28 n x1 x2 x3 x4 M') t 111 [(0, .ref 50), (1, .int x1), (2, .int x2), (3, .int x3), (4, .int x4)] [] (w_X6 M') := by
  intro n
  induction n with
  | zero =>
    intro x1 x2 x3 x4 M'
    exact r_cut (f_X6_findWay_111.eq_1 _ _ _ _ _ _ _ _ _) (r_none True.intro)
  | succ n ih =>
    intro x1 x2 x3 x4 M'
    refine r_cut (f_X6_findWay_111.eq_2 _ _ _ _ _ _ _ _ _ _) ?_
    refine r_iload C 4 dX6_findWay_111 rfl ?_
    refine r_bipush C (81) dX6_findWay_113 rfl ?_
    refine r_icmp_ge C 259 dX6_findWay_115 (by decide) (fun h115 => ?_) (fun h115 => ?_)
    · refine r_iinc C 3 (x3 + (-1)) [(3, .int (x3 + (-1))), (0, .ref 50), (1, .int x1), (2, .int x2), (4, .int x4)] dX6_findWay_259 rfl rfl (Nat.le_of_ble_eq_true rfl) rfl ?_
      refine r_goto C 28 dX6_findWay_262 (by decide) ?_
      refine r_lv [(0, .ref 50), (1, .int x1), (2, .int x2), (3, .int (x3 + (-1)))] [1, 2, 3, 0] rfl ?_
      exact hr28 x1 x2 (x3 + (-1)) M'
    · refine r_iload_n C 1 dX6_findWay_118 rfl ?_
      refine r_iload_n C 3 dX6_findWay_119 rfl ?_
      refine r_callS C (o_X6_has l x1 x3) v_X6_has m_1089 [] [.int x1, .int x3] [] (fun u9 => [.int u9]) (fun u9 => w_X6 M') rfl rfl rfl rfl rfl (Nat.le_of_ble_eq_true rfl) ⟨(Nat.le_of_ble_eq_true rfl), (Nat.le_of_ble_eq_true rfl)⟩ ⟨Nat.zero_le _, Nat.zero_le _⟩ dX6_findWay_120 (fun _ => rfl) (fun _ => rfl) (fun _ => rfl) (fun u9 => ?_)
      refine r_if_eq C 131 dX6_findWay_123 (by decide) (fun h123 => ?_) (fun h123 => ?_)
      · refine r_aload_n C 0 dX6_findWay_131 rfl ?_
        refine r_get C 0 5 dX6_findWay_132 K_X6 rfl rfl (Nat.le_of_ble_eq_true rfl) rfl m_915 rfl ?_
        refine r_iload_n C 3 dX6_findWay_135 rfl ?_
        refine r_iconst C (1) dX6_findWay_136 rfl ?_
        refine r_iadd C dX6_findWay_137 ?_
        refine r_bipush C (81) dX6_findWay_138 rfl ?_
        refine r_imul C dX6_findWay_140 ?_
        refine r_iload C 4 dX6_findWay_141 rfl ?_
        refine r_iadd C dX6_findWay_143 ?_
        refine r_iald C 5 dX6_findWay_144 rfl rfl (fun hi144 => ?_)
        refine r_istore C [(5, .int (M'.2 5 (((x3 + (1 : Int32)) * (81 : Int32)) + x4).toNatClampNeg)), (0, .ref 50), (1, .int x1), (2, .int x2), (3, .int x3), (4, .int x4)] dX6_findWay_145 (Nat.le_of_ble_eq_true rfl) rfl ?_
        refine r_iconst C (0) dX6_findWay_147 rfl ?_
        refine r_istore C [(6, .int (0 : Int32)), (5, .int (M'.2 5 (((x3 + (1 : Int32)) * (81 : Int32)) + x4).toNatClampNeg)), (0, .ref 50), (1, .int x1), (2, .int x2), (3, .int x3), (4, .int x4)] dX6_findWay_148 (Nat.le_of_ble_eq_true rfl) rfl ?_
        refine r_lv [(0, .ref 50), (1, .int x1), (2, .int x2), (3, .int x3), (4, .int x4), (5, .int (M'.2 5 (((x3 + (1 : Int32)) * (81 : Int32)) + x4).toNatClampNeg)), (6, .int (0 : Int32))] [2, 3, 4, 5, 6, 1, 0] rfl ?_
        exact k_X6_findWay_150 C M a1 a2 r28 (fun x1 x2 x3 x4 M' => f_X6_findWay_111 M a1 a2 r28 n x1 x2 x3 x4 M') hr28 ih q_N x1 x2 x3 x4 (M'.2 5 (((x3 + (1 : Int32)) * (81 : Int32)) + x4).toNatClampNeg) (0 : Int32) M'
      · refine r_ldc C (1000000) dX6_findWay_126 m_1180 ?_
        refine r_goto C 145 dX6_findWay_128 (by decide) ?_
        refine r_istore C [(5, .int (1000000 : Int32)), (0, .ref 50), (1, .int x1), (2, .int x2), (3, .int x3), (4, .int x4)] dX6_findWay_145 (Nat.le_of_ble_eq_true rfl) rfl ?_
        refine r_iconst C (0) dX6_findWay_147 rfl ?_
        refine r_istore C [(6, .int (0 : Int32)), (5, .int (1000000 : Int32)), (0, .ref 50), (1, .int x1), (2, .int x2), (3, .int x3), (4, .int x4)] dX6_findWay_148 (Nat.le_of_ble_eq_true rfl) rfl ?_
        refine r_lv [(0, .ref 50), (1, .int x1), (2, .int x2), (3, .int x3), (4, .int x4), (5, .int (1000000 : Int32)), (6, .int (0 : Int32))] [2, 3, 4, 5, 6, 1, 0] rfl ?_
        exact k_X6_findWay_150 C M a1 a2 r28 (fun x1 x2 x3 x4 M' => f_X6_findWay_111 M a1 a2 r28 n x1 x2 x3 x4 M') hr28 ih q_N x1 x2 x3 x4 (1000000 : Int32) (0 : Int32) M'
set_option maxRecDepth 100000 in
set_option maxHeartbeats 4000000 in
theorem k_X6_findWay_35 {p : Program} {l : Launch} {e : Env} {s : State} {m : MethodId} {args : Array Value} {below : List Frame} {meth : Method} {c : Code} {dC : Nat → ClassId} {dI : Nat → Nat → Nat} {dA : Nat → ClassId} {A : Nat → Prop} {α : Nat → Nat} {t : Int32 × q_St} (C : q_Cx p s m args meth c cX6_findWay 7 RX6 (some .int) "findWay" dC dI dA A α) (M : q_St) (a1 : Int32) (a2 : Int32) (r28 : Int32 → Int32 → Int32 → q_St → Option (Int32 × q_St))
    (hr28 : ∀ (x1 : Int32) (x2 : Int32) (x3 : Int32) (M' : q_St), q_S p l e (q_rm 5 110) s m args below meth c 7 dC dI dA A α (MQ below (q_Q α dC dI dA A ((fun u => some (.int u.1)) t) ((fun u => w_X6 u.2) t)) args s 0 0 A) 0 0 (r28 x1 x2 x3 M') t 28 [(0, .ref 50), (1, .int x1), (2, .int x2), (3, .int x3)] [] (w_X6 M')) : ∀ (n : Nat) (x1 : Int32) (x2 : Int32) (x3 : Int32) (x4 : Int32) (M' : q_St), q_S p l e (q_rm 5 110) s m args below meth c 7 dC dI dA A α (MQ below (q_Q α dC dI dA A ((fun u => some (.int u.1)) t) ((fun u => w_X6 u.2) t)) args s 0 0 A) 0 0 (f_X6_findWay_35 M a1 a2 r28 n x1 x2 x3 x4 M') t 35 [(0, .ref 50), (1, .int x1), (2, .int x2), (3, .int x3), (4, .int x4)] [] (w_X6 M') := by
  intro n
  induction n with
  | zero =>
    intro x1 x2 x3 x4 M'
    exact r_cut (f_X6_findWay_35.eq_1 _ _ _ _ _ _ _ _ _) (r_none True.intro)
  | succ n ih =>
    intro x1 x2 x3 x4 M'
    refine r_cut (f_X6_findWay_35.eq_2 _ _ _ _ _ _ _ _ _ _) ?_
    refine r_iload C 4 dX6_findWay_35 rfl ?_
    refine r_bipush C (81) dX6_findWay_37 rfl ?_
    refine r_icmp_ge C 108 dX6_findWay_39 (by decide) (fun h39 => ?_) (fun h39 => ?_)
    · refine r_iconst C (0) dX6_findWay_108 rfl ?_
      refine r_istore C [(4, .int (0 : Int32)), (0, .ref 50), (1, .int x1), (2, .int x2), (3, .int x3)] dX6_findWay_109 (Nat.le_of_ble_eq_true rfl) rfl ?_
      refine r_lv [(0, .ref 50), (1, .int x1), (2, .int x2), (3, .int x3), (4, .int (0 : Int32))] [1, 2, 3, 4, 0] rfl ?_
      exact k_X6_findWay_111 C M a1 a2 r28 hr28 q_N x1 x2 x3 (0 : Int32) M'
    · refine r_aload_n C 0 dX6_findWay_42 rfl ?_
      refine r_get C 0 6 dX6_findWay_43 K_X6 rfl rfl (Nat.le_of_ble_eq_true rfl) rfl m_916 rfl ?_
      refine r_iload_n C 3 dX6_findWay_46 rfl ?_
      refine r_bipush C (81) dX6_findWay_47 rfl ?_
      refine r_imul C dX6_findWay_49 ?_
      refine r_iload C 4 dX6_findWay_50 rfl ?_
      refine r_iadd C dX6_findWay_52 ?_
      refine r_iload_n C 1 dX6_findWay_53 rfl ?_
      refine r_iload_n C 3 dX6_findWay_54 rfl ?_
      refine r_callS C (o_X6_has l x1 x3) v_X6_has m_1089 [] [.int x1, .int x3] [.int ((x3 * (81 : Int32)) + x4), .ref 56] (fun u2 => [.int u2, .int ((x3 * (81 : Int32)) + x4), .ref 56]) (fun u2 => w_X6 M') rfl rfl rfl rfl rfl (Nat.le_of_ble_eq_true rfl) ⟨(Nat.le_of_ble_eq_true rfl), (Nat.le_of_ble_eq_true rfl)⟩ ⟨Nat.zero_le _, Nat.zero_le _⟩ dX6_findWay_55 (fun _ => rfl) (fun _ => rfl) (fun _ => rfl) (fun u2 => ?_)
      refine r_if_eq C 100 dX6_findWay_58 (by decide) (fun h58 => ?_) (fun h58 => ?_)
      · refine r_iconst C (0) dX6_findWay_100 rfl ?_
        refine r_zast C 6 _ dX6_findWay_101 rfl rfl rfl (fun hi101 => ?_)
        refine r_iinc C 4 (x4 + 1) [(4, .int (x4 + 1)), (0, .ref 50), (1, .int x1), (2, .int x2), (3, .int x3)] dX6_findWay_102 rfl rfl (Nat.le_of_ble_eq_true rfl) rfl ?_
        refine r_goto C 35 dX6_findWay_105 (by decide) ?_
        refine r_lv [(0, .ref 50), (1, .int x1), (2, .int x2), (3, .int x3), (4, .int (x4 + 1))] [1, 2, 3, 4, 0] rfl ?_
        exact ih x1 x2 x3 (x4 + 1) (M'.1, (va_up M'.2 6 (upd (M'.2 6) ((x3 * (81 : Int32)) + x4).toNatClampNeg (vp_nar .boolean (0 : Int32)))))
      · refine r_aload_n C 0 dX6_findWay_61 rfl ?_
        refine r_iload C 4 dX6_findWay_62 rfl ?_
        refine r_callS C (o_X6_leftOf l x4) v_X6_leftOf m_1170 [] [.int x4] [.ref 50, .int ((x3 * (81 : Int32)) + x4), .ref 56] (fun u3 => [.int u3, .ref 50, .int ((x3 * (81 : Int32)) + x4), .ref 56]) (fun u3 => w_X6 M') rfl rfl rfl rfl rfl (Nat.le_of_ble_eq_true rfl) ⟨(Nat.le_of_ble_eq_true rfl), (Nat.le_of_ble_eq_true rfl)⟩ ⟨Nat.zero_le _, Nat.zero_le _⟩ dX6_findWay_64 (fun _ => rfl) (fun _ => rfl) (fun _ => rfl) (fun u3 => ?_)
        refine r_iload C 4 dX6_findWay_67 rfl ?_
        refine r_callS C (o_X6_rightOf l x4) v_X6_rightOf m_1173 [] [.int x4] [.int u3, .ref 50, .int ((x3 * (81 : Int32)) + x4), .ref 56] (fun u4 => [.int u4, .int u3, .ref 50, .int ((x3 * (81 : Int32)) + x4), .ref 56]) (fun u4 => w_X6 M') rfl rfl rfl rfl rfl (Nat.le_of_ble_eq_true rfl) ⟨(Nat.le_of_ble_eq_true rfl), (Nat.le_of_ble_eq_true rfl)⟩ ⟨Nat.zero_le _, Nat.zero_le _⟩ dX6_findWay_69 (fun _ => rfl) (fun _ => rfl) (fun _ => rfl) (fun u4 => ?_)
        refine r_callV0 C (o_X6_isHold l M' u3 u4) v_X6_isHold m_1176 [.int u3, .int u4] [.int ((x3 * (81 : Int32)) + x4), .ref 56] (50) (Or.inl ⟨0, 5, _, TX6, 25, rfl, rfl, rfl⟩) (fun u5 => [.int u5, .int ((x3 * (81 : Int32)) + x4), .ref 56]) (fun u5 => w_X6 M') rfl rfl rfl (Nat.le_of_ble_eq_true rfl) ⟨(Nat.le_of_ble_eq_true rfl), (Nat.le_of_ble_eq_true rfl)⟩ ⟨Nat.zero_le _, Nat.zero_le _⟩ dX6_findWay_72 (fun _ => rfl) (fun _ => rfl) (fun _ => rfl) (fun u5 => ?_)
        refine r_if_eq C 100 dX6_findWay_75 (by decide) (fun h75 => ?_) (fun h75 => ?_)
        · refine r_iconst C (0) dX6_findWay_100 rfl ?_
          refine r_zast C 6 _ dX6_findWay_101 rfl rfl rfl (fun hi101 => ?_)
          refine r_iinc C 4 (x4 + 1) [(4, .int (x4 + 1)), (0, .ref 50), (1, .int x1), (2, .int x2), (3, .int x3)] dX6_findWay_102 rfl rfl (Nat.le_of_ble_eq_true rfl) rfl ?_
          refine r_goto C 35 dX6_findWay_105 (by decide) ?_
          refine r_lv [(0, .ref 50), (1, .int x1), (2, .int x2), (3, .int x3), (4, .int (x4 + 1))] [1, 2, 3, 4, 0] rfl ?_
          exact ih x1 x2 x3 (x4 + 1) (M'.1, (va_up M'.2 6 (upd (M'.2 6) ((x3 * (81 : Int32)) + x4).toNatClampNeg (vp_nar .boolean (0 : Int32)))))
        · refine r_aload_n C 0 dX6_findWay_78 rfl ?_
          refine r_iload C 4 dX6_findWay_79 rfl ?_
          refine r_callS C (o_X6_leftOf l x4) v_X6_leftOf m_1170 [] [.int x4] [.ref 50, .int ((x3 * (81 : Int32)) + x4), .ref 56] (fun u6 => [.int u6, .ref 50, .int ((x3 * (81 : Int32)) + x4), .ref 56]) (fun u6 => w_X6 M') rfl rfl rfl rfl rfl (Nat.le_of_ble_eq_true rfl) ⟨(Nat.le_of_ble_eq_true rfl), (Nat.le_of_ble_eq_true rfl)⟩ ⟨Nat.zero_le _, Nat.zero_le _⟩ dX6_findWay_81 (fun _ => rfl) (fun _ => rfl) (fun _ => rfl) (fun u6 => ?_)
          refine r_iload C 4 dX6_findWay_84 rfl ?_
          refine r_callS C (o_X6_rightOf l x4) v_X6_rightOf m_1173 [] [.int x4] [.int u6, .ref 50, .int ((x3 * (81 : Int32)) + x4), .ref 56] (fun u7 => [.int u7, .int u6, .ref 50, .int ((x3 * (81 : Int32)) + x4), .ref 56]) (fun u7 => w_X6 M') rfl rfl rfl rfl rfl (Nat.le_of_ble_eq_true rfl) ⟨(Nat.le_of_ble_eq_true rfl), (Nat.le_of_ble_eq_true rfl)⟩ ⟨Nat.zero_le _, Nat.zero_le _⟩ dX6_findWay_86 (fun _ => rfl) (fun _ => rfl) (fun _ => rfl) (fun u7 => ?_)
          refine r_iload_n C 3 dX6_findWay_89 rfl ?_
          refine r_callV0 C (o_X6_doesSuit l M' u6 u7 x3) v_X6_doesSuit m_1143 [.int u6, .int u7, .int x3] [.int ((x3 * (81 : Int32)) + x4), .ref 56] (50) (Or.inl ⟨0, 5, _, TX6, 25, rfl, rfl, rfl⟩) (fun u8 => [.int u8, .int ((x3 * (81 : Int32)) + x4), .ref 56]) (fun u8 => w_X6 M') rfl rfl rfl (Nat.le_of_ble_eq_true rfl) ⟨(Nat.le_of_ble_eq_true rfl), (Nat.le_of_ble_eq_true rfl)⟩ ⟨Nat.zero_le _, Nat.zero_le _⟩ dX6_findWay_90 (fun _ => rfl) (fun _ => rfl) (fun _ => rfl) (fun u8 => ?_)
          refine r_if_eq C 100 dX6_findWay_93 (by decide) (fun h93 => ?_) (fun h93 => ?_)
          · refine r_iconst C (0) dX6_findWay_100 rfl ?_
            refine r_zast C 6 _ dX6_findWay_101 rfl rfl rfl (fun hi101 => ?_)
            refine r_iinc C 4 (x4 + 1) [(4, .int (x4 + 1)), (0, .ref 50), (1, .int x1), (2, .int x2), (3, .int x3)] dX6_findWay_102 rfl rfl (Nat.le_of_ble_eq_true rfl) rfl ?_
            refine r_goto C 35 dX6_findWay_105 (by decide) ?_
            refine r_lv [(0, .ref 50), (1, .int x1), (2, .int x2), (3, .int x3), (4, .int (x4 + 1))] [1, 2, 3, 4, 0] rfl ?_
            exact ih x1 x2 x3 (x4 + 1) (M'.1, (va_up M'.2 6 (upd (M'.2 6) ((x3 * (81 : Int32)) + x4).toNatClampNeg (vp_nar .boolean (0 : Int32)))))
          · refine r_iconst C (1) dX6_findWay_96 rfl ?_
            refine r_goto C 101 dX6_findWay_97 (by decide) ?_
            refine r_zast C 6 _ dX6_findWay_101 rfl rfl rfl (fun hi101 => ?_)
            refine r_iinc C 4 (x4 + 1) [(4, .int (x4 + 1)), (0, .ref 50), (1, .int x1), (2, .int x2), (3, .int x3)] dX6_findWay_102 rfl rfl (Nat.le_of_ble_eq_true rfl) rfl ?_
            refine r_goto C 35 dX6_findWay_105 (by decide) ?_
            refine r_lv [(0, .ref 50), (1, .int x1), (2, .int x2), (3, .int x3), (4, .int (x4 + 1))] [1, 2, 3, 4, 0] rfl ?_
            exact ih x1 x2 x3 (x4 + 1) (M'.1, (va_up M'.2 6 (upd (M'.2 6) ((x3 * (81 : Int32)) + x4).toNatClampNeg (vp_nar .boolean (1 : Int32)))))
set_option maxRecDepth 100000 in
set_option maxHeartbeats 4000000 in
theorem k_X6_findWay_28 {p : Program} {l : Launch} {e : Env} {s : State} {m : MethodId} {args : Array Value} {below : List Frame} {meth : Method} {c : Code} {dC : Nat → ClassId} {dI : Nat → Nat → Nat} {dA : Nat → ClassId} {A : Nat → Prop} {α : Nat → Nat} {t : Int32 × q_St} (C : q_Cx p s m args meth c cX6_findWay 7 RX6 (some .int) "findWay" dC dI dA A α) (M : q_St) (a1 : Int32) (a2 : Int32)  : ∀ (n : Nat) (x1 : Int32) (x2 : Int32) (x3 : Int32) (M' : q_St), q_S p l e (q_rm 5 110) s m args below meth c 7 dC dI dA A α (MQ below (q_Q α dC dI dA A ((fun u => some (.int u.1)) t) ((fun u => w_X6 u.2) t)) args s 0 0 A) 0 0 (f_X6_findWay_28 M a1 a2  n x1 x2 x3 M') t 28 [(0, .ref 50), (1, .int x1), (2, .int x2), (3, .int x3)] [] (w_X6 M') := by
  intro n
  induction n with
  | zero =>
    intro x1 x2 x3 M'
    exact r_cut (f_X6_findWay_28.eq_1 _ _ _ _ _ _ _) (r_none True.intro)
  | succ n ih =>
    intro x1 x2 x3 M'
    refine r_cut (f_X6_findWay_28.eq_2 _ _ _ _ _ _ _ _) ?_
    refine r_iload_n C 3 dX6_findWay_28 rfl ?_
    refine r_if_lt C 265 dX6_findWay_29 (by decide) (fun h29 => ?_) (fun h29 => ?_)
    · refine r_aload_n C 0 dX6_findWay_265 rfl ?_
      refine r_get C 0 5 dX6_findWay_266 K_X6 rfl rfl (Nat.le_of_ble_eq_true rfl) rfl m_915 rfl ?_
      refine r_aload_n C 0 dX6_findWay_269 rfl ?_
      refine r_callV0 C (o_X6_holdNow l M') v_X6_holdNow m_1186 [] [.ref 55] (50) (Or.inl ⟨0, 5, _, TX6, 25, rfl, rfl, rfl⟩) (fun u1 => [.int u1, .ref 55]) (fun u1 => w_X6 M') rfl rfl rfl (Nat.le_of_ble_eq_true rfl) ⟨(Nat.le_of_ble_eq_true rfl), (Nat.le_of_ble_eq_true rfl)⟩ ⟨Nat.zero_le _, Nat.zero_le _⟩ dX6_findWay_270 (fun _ => rfl) (fun _ => rfl) (fun _ => rfl) (fun u1 => ?_)
      refine r_iald C 5 dX6_findWay_273 rfl rfl (fun hi273 => ?_)
      exact r_reti (x := (M'.2 5 u1.toNatClampNeg)) (rv := (fun u => some (.int u.1))) (hpE := (fun u => w_X6 u.2)) (t0 := ((M'.2 5 u1.toNatClampNeg), M')) C dX6_findWay_274 (by rfl) (by rfl) (by rfl)
    · refine r_iconst C (0) dX6_findWay_32 rfl ?_
      refine r_istore C [(4, .int (0 : Int32)), (0, .ref 50), (1, .int x1), (2, .int x2), (3, .int x3)] dX6_findWay_33 (Nat.le_of_ble_eq_true rfl) rfl ?_
      refine r_lv [(0, .ref 50), (1, .int x1), (2, .int x2), (3, .int x3), (4, .int (0 : Int32))] [1, 2, 3, 4, 0] rfl ?_
      exact k_X6_findWay_35 C M a1 a2 (fun x1 x2 x3 M' => f_X6_findWay_28 M a1 a2  n x1 x2 x3 M') ih q_N x1 x2 x3 (0 : Int32) M'
set_option maxRecDepth 100000 in
set_option maxHeartbeats 4000000 in
theorem k_X6_findWay_2 {p : Program} {l : Launch} {e : Env} {s : State} {m : MethodId} {args : Array Value} {below : List Frame} {meth : Method} {c : Code} {dC : Nat → ClassId} {dI : Nat → Nat → Nat} {dA : Nat → ClassId} {A : Nat → Prop} {α : Nat → Nat} {t : Int32 × q_St} (C : q_Cx p s m args meth c cX6_findWay 7 RX6 (some .int) "findWay" dC dI dA A α) (M : q_St) (a1 : Int32) (a2 : Int32)  : ∀ (n : Nat) (x1 : Int32) (x2 : Int32) (x3 : Int32) (M' : q_St), q_S p l e (q_rm 5 110) s m args below meth c 7 dC dI dA A α (MQ below (q_Q α dC dI dA A ((fun u => some (.int u.1)) t) ((fun u => w_X6 u.2) t)) args s 0 0 A) 0 0 (f_X6_findWay_2 M a1 a2  n x1 x2 x3 M') t 2 [(0, .ref 50), (1, .int x1), (2, .int x2), (3, .int x3)] [] (w_X6 M') := by
  intro n
  induction n with
  | zero =>
    intro x1 x2 x3 M'
    exact r_cut (f_X6_findWay_2.eq_1 _ _ _ _ _ _ _) (r_none True.intro)
  | succ n ih =>
    intro x1 x2 x3 M'
    refine r_cut (f_X6_findWay_2.eq_2 _ _ _ _ _ _ _ _) ?_
    refine r_iload_n C 3 dX6_findWay_2 rfl ?_
    refine r_bipush C (81) dX6_findWay_3 rfl ?_
    refine r_icmp_ge C 25 dX6_findWay_5 (by decide) (fun h5 => ?_) (fun h5 => ?_)
    · refine r_bipush C (11) dX6_findWay_25 rfl ?_
      refine r_istore_n C [(3, .int (11 : Int32)), (0, .ref 50), (1, .int x1), (2, .int x2)] dX6_findWay_27 (Nat.le_of_ble_eq_true rfl) rfl ?_
      refine r_lv [(0, .ref 50), (1, .int x1), (2, .int x2), (3, .int (11 : Int32))] [1, 2, 3, 0] rfl ?_
      exact k_X6_findWay_28 C M a1 a2   q_N x1 x2 (11 : Int32) M'
    · refine r_aload_n C 0 dX6_findWay_8 rfl ?_
      refine r_get C 0 5 dX6_findWay_9 K_X6 rfl rfl (Nat.le_of_ble_eq_true rfl) rfl m_915 rfl ?_
      refine r_sipush C (972) dX6_findWay_12 rfl ?_
      refine r_iload_n C 3 dX6_findWay_15 rfl ?_
      refine r_iadd C dX6_findWay_16 ?_
      refine r_iconst C (0) dX6_findWay_17 rfl ?_
      refine r_iast C 5 _ dX6_findWay_18 rfl rfl rfl (fun hi18 => ?_)
      refine r_iinc C 3 (x3 + 1) [(3, .int (x3 + 1)), (0, .ref 50), (1, .int x1), (2, .int x2)] dX6_findWay_19 rfl rfl (Nat.le_of_ble_eq_true rfl) rfl ?_
      refine r_goto C 2 dX6_findWay_22 (by decide) ?_
      refine r_lv [(0, .ref 50), (1, .int x1), (2, .int x2), (3, .int (x3 + 1))] [1, 2, 3, 0] rfl ?_
      exact ih x1 x2 (x3 + 1) (M'.1, (va_up M'.2 5 (upd (M'.2 5) ((972 : Int32) + x3).toNatClampNeg (0 : Int32))))
set_option maxRecDepth 100000 in
set_option maxHeartbeats 4000000 in
theorem o_X6_findWay (l : Launch) (M : q_St) (a1 : Int32) (a2 : Int32) : q_Ok l yX6_findWay cX6_findWay 7 (some .int) 5 110 [.ref 50, .int a1, .int a2] (w_X6 M) (f_X6_findWay M a1 a2) (fun u => some (.int u.1)) (fun u => w_X6 u.2) := by
  refine q_enter (by decide +kernel) (Nat.le_of_ble_eq_true rfl) (fun t p e s m args below meth c dC dI dA A α C => ?_)
  refine r_cut (f_X6_findWay.eq_1 _ _ _) ?_
  show q_S p l e (q_rm 5 110) s m args below meth c 7 dC dI dA A α (MQ below (q_Q α dC dI dA A ((fun u => some (.int u.1)) t) ((fun u => w_X6 u.2) t)) args s 0 0 A) 0 0 _ t 0 [(0, .ref 50), (1, .int a1), (2, .int a2)] [] (w_X6 M)
  refine r_iconst C (0) dX6_findWay_0 rfl ?_
  refine r_istore_n C [(3, .int (0 : Int32)), (0, .ref 50), (1, .int a1), (2, .int a2)] dX6_findWay_1 (Nat.le_of_ble_eq_true rfl) rfl ?_
  refine r_lv [(0, .ref 50), (1, .int a1), (2, .int a2), (3, .int (0 : Int32))] [1, 2, 3, 0] rfl ?_
  exact k_X6_findWay_2 C M a1 a2   q_N a1 a2 (0 : Int32) M
set_option maxRecDepth 100000 in
set_option maxHeartbeats 4000000 in
theorem o_X6_allBeats (l : Launch) (M : q_St) : q_Ok l yX6_allBeats cX6_allBeats 1 (some .int) 0 0 [.ref 50] (w_X6 M) (f_X6_allBeats M) (fun u => some (.int u)) (fun u => w_X6 M) := by
  refine q_enter (by decide +kernel) (Nat.le_of_ble_eq_true rfl) (fun t p e s m args below meth c dC dI dA A α C => ?_)
  refine r_cut (f_X6_allBeats.eq_1 _) ?_
  show q_S p l e (q_rm 0 0) s m args below meth c 1 dC dI dA A α (MQ below (q_Q α dC dI dA A ((fun u => some (.int u)) t) ((fun u => w_X6 M) t)) args s 0 0 A) 0 0 _ t 0 [(0, .ref 50)] [] (w_X6 M)
  refine r_iconst C (1) dX6_allBeats_0 rfl ?_
  refine r_aload_n C 0 dX6_allBeats_1 rfl ?_
  refine r_get C 0 0 dX6_allBeats_2 K_X6 rfl rfl (Nat.le_of_ble_eq_true rfl) rfl m_910 rfl ?_
  refine r_iconst C (1) dX6_allBeats_5 rfl ?_
  refine r_iald C 1 dX6_allBeats_6 rfl rfl (fun hi6 => ?_)
  refine r_ishl C dX6_allBeats_7 ?_
  refine r_iconst C (1) dX6_allBeats_8 rfl ?_
  refine r_isub C dX6_allBeats_9 ?_
  exact r_reti (x := (((1 : Int32) <<< ((M.2 0 (1 : Int32).toNatClampNeg) &&& 31)) - (1 : Int32))) (rv := (fun u => some (.int u))) (hpE := (fun u => w_X6 M)) (t0 := (((1 : Int32) <<< ((M.2 0 (1 : Int32).toNatClampNeg) &&& 31)) - (1 : Int32))) C dX6_allBeats_10 (by rfl) (by rfl) (by rfl)
set_option maxRecDepth 100000 in
set_option maxHeartbeats 4000000 in
theorem o_X6_doesGo (l : Launch) (M : q_St) : q_Ok l yX6_doesGo cX6_doesGo 1 (some .boolean) 5 112 [.ref 50] (w_X6 M) (f_X6_doesGo M) (fun u => some (.int u)) (fun u => w_X6 M) := by
  refine q_enter (by decide +kernel) (Nat.le_of_ble_eq_true rfl) (fun t p e s m args below meth c dC dI dA A α C => ?_)
  refine r_cut (f_X6_doesGo.eq_1 _) ?_
  show q_S p l e (q_rm 5 112) s m args below meth c 1 dC dI dA A α (MQ below (q_Q α dC dI dA A ((fun u => some (.int u)) t) ((fun u => w_X6 M) t)) args s 0 0 A) 0 0 _ t 0 [(0, .ref 50)] [] (w_X6 M)
  refine r_aload_n C 0 dX6_doesGo_0 rfl ?_
  refine r_callV0 C (o_X6_wrongBeats l M) v_X6_wrongBeats m_1111 [] [] (50) (Or.inl ⟨0, 5, _, TX6, 25, rfl, rfl, rfl⟩) (fun u1 => [.int u1]) (fun u1 => w_X6 M) rfl rfl rfl (Nat.le_of_ble_eq_true rfl) ⟨(Nat.le_of_ble_eq_true rfl), (Nat.le_of_ble_eq_true rfl)⟩ ⟨Nat.zero_le _, Nat.zero_le _⟩ dX6_doesGo_1 (fun _ => rfl) (fun _ => rfl) (fun _ => rfl) (fun u1 => ?_)
  refine r_if_ne C 11 dX6_doesGo_4 (by decide) (fun h4 => ?_) (fun h4 => ?_)
  · refine r_iconst C (1) dX6_doesGo_7 rfl ?_
    refine r_goto C 12 dX6_doesGo_8 (by decide) ?_
    exact r_retz (x := (1 : Int32)) (rv := (fun u => some (.int u))) (hpE := (fun u => w_X6 M)) (t0 := (1 : Int32)) C dX6_doesGo_12 (by rfl) (by rfl) (by rfl) (by rfl)
  · refine r_iconst C (0) dX6_doesGo_11 rfl ?_
    exact r_retz (x := (0 : Int32)) (rv := (fun u => some (.int u))) (hpE := (fun u => w_X6 M)) (t0 := (0 : Int32)) C dX6_doesGo_12 (by rfl) (by rfl) (by rfl) (by rfl)
set_option maxRecDepth 100000 in
set_option maxHeartbeats 4000000 in
theorem o_X6_least (l : Launch) (M : q_St) (a1 : Int32) : q_Ok l yX6_least cX6_least 2 (some .int) 6 136 [.ref 50, .int a1] (w_X6 M) (f_X6_least M a1) (fun u => some (.int u.1)) (fun u => w_X6 u.2) := by
  refine q_enter (by decide +kernel) (Nat.le_of_ble_eq_true rfl) (fun t p e s m args below meth c dC dI dA A α C => ?_)
  refine r_cut (f_X6_least.eq_1 _ _) ?_
  show q_S p l e (q_rm 6 136) s m args below meth c 2 dC dI dA A α (MQ below (q_Q α dC dI dA A ((fun u => some (.int u.1)) t) ((fun u => w_X6 u.2) t)) args s 0 0 A) 0 0 _ t 0 [(0, .ref 50), (1, .int a1)] [] (w_X6 M)
  refine r_iload_n C 1 dX6_least_0 rfl ?_
  refine r_callS C (o_X6_isWhat l a1) v_X6_isWhat m_1155 [] [.int a1] [] (fun u1 => [.int u1]) (fun u1 => w_X6 M) rfl rfl rfl rfl rfl (Nat.le_of_ble_eq_true rfl) ⟨(Nat.le_of_ble_eq_true rfl), (Nat.le_of_ble_eq_true rfl)⟩ ⟨Nat.zero_le _, Nat.zero_le _⟩ dX6_least_1 (fun _ => rfl) (fun _ => rfl) (fun _ => rfl) (fun u1 => ?_)
  refine r_if_ne C 14 dX6_least_4 (by decide) (fun h4 => ?_) (fun h4 => ?_)
  · refine r_aload_n C 0 dX6_least_7 rfl ?_
    refine r_ldc C (-1000001) dX6_least_8 m_997 ?_
    refine r_callV0 C (o_X6_finding l M (-1000001 : Int32)) v_X6_finding m_998 [.int (-1000001 : Int32)] [] (50) (Or.inl ⟨0, 5, _, TX6, 25, rfl, rfl, rfl⟩) (fun u6 => [.int u6.1]) (fun u6 => w_X6 u6.2) rfl rfl rfl (Nat.le_of_ble_eq_true rfl) ⟨(Nat.le_of_ble_eq_true rfl), (Nat.le_of_ble_eq_true rfl)⟩ ⟨Nat.zero_le _, Nat.zero_le _⟩ dX6_least_10 (fun _ => rfl) (fun _ => rfl) (fun _ => rfl) (fun u6 => ?_)
    exact r_reti (x := u6.1) (rv := (fun u => some (.int u.1))) (hpE := (fun u => w_X6 u.2)) (t0 := (u6.1, u6.2)) C dX6_least_13 (by rfl) (by rfl) (by rfl)
  · refine r_aload_n C 0 dX6_least_14 rfl ?_
    refine r_callV0 C (o_X6_doesGo l M) v_X6_doesGo m_1158 [] [] (50) (Or.inl ⟨0, 5, _, TX6, 25, rfl, rfl, rfl⟩) (fun u2 => [.int u2]) (fun u2 => w_X6 M) rfl rfl rfl (Nat.le_of_ble_eq_true rfl) ⟨(Nat.le_of_ble_eq_true rfl), (Nat.le_of_ble_eq_true rfl)⟩ ⟨Nat.zero_le _, Nat.zero_le _⟩ dX6_least_15 (fun _ => rfl) (fun _ => rfl) (fun _ => rfl) (fun u2 => ?_)
    refine r_if_eq C 33 dX6_least_18 (by decide) (fun h18 => ?_) (fun h18 => ?_)
    · refine r_aload_n C 0 dX6_least_33 rfl ?_
      refine r_ldc C (-1000005) dX6_least_34 m_1126 ?_
      refine r_callV0 C (o_X6_finding l M (-1000005 : Int32)) v_X6_finding m_998 [.int (-1000005 : Int32)] [] (50) (Or.inl ⟨0, 5, _, TX6, 25, rfl, rfl, rfl⟩) (fun u3 => [.int u3.1]) (fun u3 => w_X6 u3.2) rfl rfl rfl (Nat.le_of_ble_eq_true rfl) ⟨(Nat.le_of_ble_eq_true rfl), (Nat.le_of_ble_eq_true rfl)⟩ ⟨Nat.zero_le _, Nat.zero_le _⟩ dX6_least_36 (fun _ => rfl) (fun _ => rfl) (fun _ => rfl) (fun u3 => ?_)
      exact r_reti (x := u3.1) (rv := (fun u => some (.int u.1))) (hpE := (fun u => w_X6 u.2)) (t0 := (u3.1, u3.2)) C dX6_least_39 (by rfl) (by rfl) (by rfl)
    · refine r_aload_n C 0 dX6_least_21 rfl ?_
      refine r_aload_n C 0 dX6_least_22 rfl ?_
      refine r_callV0 C (o_X6_allBeats l M) v_X6_allBeats m_1162 [] [.ref 50] (50) (Or.inl ⟨0, 5, _, TX6, 25, rfl, rfl, rfl⟩) (fun u4 => [.int u4, .ref 50]) (fun u4 => w_X6 M) rfl rfl rfl (Nat.le_of_ble_eq_true rfl) ⟨(Nat.le_of_ble_eq_true rfl), (Nat.le_of_ble_eq_true rfl)⟩ ⟨Nat.zero_le _, Nat.zero_le _⟩ dX6_least_23 (fun _ => rfl) (fun _ => rfl) (fun _ => rfl) (fun u4 => ?_)
      refine r_iload_n C 1 dX6_least_26 rfl ?_
      refine r_callV0 C (o_X6_findWay l M u4 a1) v_X6_findWay m_1166 [.int u4, .int a1] [] (50) (Or.inl ⟨0, 5, _, TX6, 25, rfl, rfl, rfl⟩) (fun u5 => [.int u5.1]) (fun u5 => w_X6 u5.2) rfl rfl rfl (Nat.le_of_ble_eq_true rfl) ⟨(Nat.le_of_ble_eq_true rfl), (Nat.le_of_ble_eq_true rfl)⟩ ⟨Nat.zero_le _, Nat.zero_le _⟩ dX6_least_27 (fun _ => rfl) (fun _ => rfl) (fun _ => rfl) (fun u5 => ?_)
      refine r_goto C 39 dX6_least_30 (by decide) ?_
      exact r_reti (x := u5.1) (rv := (fun u => some (.int u.1))) (hpE := (fun u => w_X6 u.2)) (t0 := (u5.1, u5.2)) C dX6_least_39 (by rfl) (by rfl) (by rfl)
set_option maxRecDepth 100000 in
set_option maxHeartbeats 4000000 in
theorem k_X6_nextHold_3 {p : Program} {l : Launch} {e : Env} {s : State} {m : MethodId} {args : Array Value} {below : List Frame} {meth : Method} {c : Code} {dC : Nat → ClassId} {dI : Nat → Nat → Nat} {dA : Nat → ClassId} {A : Nat → Prop} {α : Nat → Nat} {t : Int32} (C : q_Cx p s m args meth c cX6_nextHold 5 RX6 (some .int) "nextHold" dC dI dA A α) (M : q_St) (a1 : Int32) (a2 : Int32) (a3 : Int32)  : ∀ (n : Nat) (x1 : Int32) (x2 : Int32) (x3 : Int32) (x4 : Int32), q_S p l e (q_rm 5 110) s m args below meth c 5 dC dI dA A α (MQ below (q_Q α dC dI dA A ((fun u => some (.int u)) t) ((fun u => w_X6 M) t)) args s 0 0 A) 0 0 (f_X6_nextHold_3 M a1 a2 a3  n x1 x2 x3 x4) t 3 [(0, .ref 50), (1, .int x1), (2, .int x2), (3, .int x3), (4, .int x4)] [] (w_X6 M) := by
  intro n
  induction n with
  | zero =>
    intro x1 x2 x3 x4
    exact r_cut (f_X6_nextHold_3.eq_1 _ _ _ _ _ _ _ _) (r_none True.intro)
  | succ n ih =>
    intro x1 x2 x3 x4
    refine r_cut (f_X6_nextHold_3.eq_2 _ _ _ _ _ _ _ _ _) ?_
    refine r_aload_n C 0 dX6_nextHold_3 rfl ?_
    refine r_get C 0 6 dX6_nextHold_4 K_X6 rfl rfl (Nat.le_of_ble_eq_true rfl) rfl m_916 rfl ?_
    refine r_iload_n C 2 dX6_nextHold_7 rfl ?_
    refine r_bipush C (81) dX6_nextHold_8 rfl ?_
    refine r_imul C dX6_nextHold_10 ?_
    refine r_iload C 4 dX6_nextHold_11 rfl ?_
    refine r_iadd C dX6_nextHold_13 ?_
    refine r_zald C 6 dX6_nextHold_14 rfl rfl (fun hi14 => ?_)
    refine r_if_eq C 55 dX6_nextHold_15 (by decide) (fun h15 => ?_) (fun h15 => ?_)
    · refine r_iinc C 4 (x4 + 1) [(4, .int (x4 + 1)), (0, .ref 50), (1, .int x1), (2, .int x2), (3, .int x3)] dX6_nextHold_55 rfl rfl (Nat.le_of_ble_eq_true rfl) rfl ?_
      refine r_goto C 3 dX6_nextHold_58 (by decide) ?_
      refine r_lv [(0, .ref 50), (1, .int x1), (2, .int x2), (3, .int x3), (4, .int (x4 + 1))] [1, 2, 3, 4, 0] rfl ?_
      exact ih x1 x2 x3 (x4 + 1)
    · refine r_aload_n C 0 dX6_nextHold_18 rfl ?_
      refine r_iload_n C 1 dX6_nextHold_19 rfl ?_
      refine r_iload C 4 dX6_nextHold_20 rfl ?_
      refine r_iload_n C 3 dX6_nextHold_22 rfl ?_
      refine r_callV0 C (o_X6_worthBetween l M x1 x4 x3) v_X6_worthBetween m_1181 [.int x1, .int x4, .int x3] [] (50) (Or.inl ⟨0, 5, _, TX6, 25, rfl, rfl, rfl⟩) (fun u1 => [.int u1]) (fun u1 => w_X6 M) rfl rfl rfl (Nat.le_of_ble_eq_true rfl) ⟨(Nat.le_of_ble_eq_true rfl), (Nat.le_of_ble_eq_true rfl)⟩ ⟨Nat.zero_le _, Nat.zero_le _⟩ dX6_nextHold_23 (fun _ => rfl) (fun _ => rfl) (fun _ => rfl) (fun u1 => ?_)
      refine r_aload_n C 0 dX6_nextHold_26 rfl ?_
      refine r_get C 0 5 dX6_nextHold_27 K_X6 rfl rfl (Nat.le_of_ble_eq_true rfl) rfl m_915 rfl ?_
      refine r_iload_n C 2 dX6_nextHold_30 rfl ?_
      refine r_iconst C (1) dX6_nextHold_31 rfl ?_
      refine r_iadd C dX6_nextHold_32 ?_
      refine r_bipush C (81) dX6_nextHold_33 rfl ?_
      refine r_imul C dX6_nextHold_35 ?_
      refine r_iload C 4 dX6_nextHold_36 rfl ?_
      refine r_iadd C dX6_nextHold_38 ?_
      refine r_iald C 5 dX6_nextHold_39 rfl rfl (fun hi39 => ?_)
      refine r_iadd C dX6_nextHold_40 ?_
      refine r_aload_n C 0 dX6_nextHold_41 rfl ?_
      refine r_get C 0 5 dX6_nextHold_42 K_X6 rfl rfl (Nat.le_of_ble_eq_true rfl) rfl m_915 rfl ?_
      refine r_iload_n C 2 dX6_nextHold_45 rfl ?_
      refine r_bipush C (81) dX6_nextHold_46 rfl ?_
      refine r_imul C dX6_nextHold_48 ?_
      refine r_iload_n C 1 dX6_nextHold_49 rfl ?_
      refine r_iadd C dX6_nextHold_50 ?_
      refine r_iald C 5 dX6_nextHold_51 rfl rfl (fun hi51 => ?_)
      refine r_icmp_eq C 61 dX6_nextHold_52 (by decide) (fun h52 => ?_) (fun h52 => ?_)
      · refine r_iload C 4 dX6_nextHold_61 rfl ?_
        exact r_reti (x := x4) (rv := (fun u => some (.int u))) (hpE := (fun u => w_X6 M)) (t0 := x4) C dX6_nextHold_63 (by rfl) (by rfl) (by rfl)
      · refine r_iinc C 4 (x4 + 1) [(4, .int (x4 + 1)), (0, .ref 50), (1, .int x1), (2, .int x2), (3, .int x3)] dX6_nextHold_55 rfl rfl (Nat.le_of_ble_eq_true rfl) rfl ?_
        refine r_goto C 3 dX6_nextHold_58 (by decide) ?_
        refine r_lv [(0, .ref 50), (1, .int x1), (2, .int x2), (3, .int x3), (4, .int (x4 + 1))] [1, 2, 3, 4, 0] rfl ?_
        exact ih x1 x2 x3 (x4 + 1)
set_option maxRecDepth 100000 in
set_option maxHeartbeats 4000000 in
theorem o_X6_nextHold (l : Launch) (M : q_St) (a1 : Int32) (a2 : Int32) (a3 : Int32) : q_Ok l yX6_nextHold cX6_nextHold 5 (some .int) 5 110 [.ref 50, .int a1, .int a2, .int a3] (w_X6 M) (f_X6_nextHold M a1 a2 a3) (fun u => some (.int u)) (fun u => w_X6 M) := by
  refine q_enter (by decide +kernel) (Nat.le_of_ble_eq_true rfl) (fun t p e s m args below meth c dC dI dA A α C => ?_)
  refine r_cut (f_X6_nextHold.eq_1 _ _ _ _) ?_
  show q_S p l e (q_rm 5 110) s m args below meth c 5 dC dI dA A α (MQ below (q_Q α dC dI dA A ((fun u => some (.int u)) t) ((fun u => w_X6 M) t)) args s 0 0 A) 0 0 _ t 0 [(0, .ref 50), (1, .int a1), (2, .int a2), (3, .int a3)] [] (w_X6 M)
  refine r_iconst C (0) dX6_nextHold_0 rfl ?_
  refine r_istore C [(4, .int (0 : Int32)), (0, .ref 50), (1, .int a1), (2, .int a2), (3, .int a3)] dX6_nextHold_1 (Nat.le_of_ble_eq_true rfl) rfl ?_
  refine r_lv [(0, .ref 50), (1, .int a1), (2, .int a2), (3, .int a3), (4, .int (0 : Int32))] [1, 2, 3, 4, 0] rfl ?_
  exact k_X6_nextHold_3 C M a1 a2 a3   q_N a1 a2 a3 (0 : Int32)
set_option maxRecDepth 100000 in
set_option maxHeartbeats 4000000 in
theorem k_X6_held_74 {p : Program} {l : Launch} {e : Env} {s : State} {m : MethodId} {args : Array Value} {below : List Frame} {meth : Method} {c : Code} {dC : Nat → ClassId} {dI : Nat → Nat → Nat} {dA : Nat → ClassId} {A : Nat → Prop} {α : Nat → Nat} {t : Int32 × q_St} (C : q_Cx p s m args meth c cX6_held 7 RX6 (some .int) "held" dC dI dA A α) (M : q_St) (a1 : Int32) (a2 : Int32) (a3 : Int32)  : ∀ (n : Nat) (x1 : Int32) (x2 : Int32) (x3 : Int32) (x5 : Int32) (x6 : Int32) (M' : q_St), q_S p l e (q_rm 6 136) s m args below meth c 7 dC dI dA A α (MQ below (q_Q α dC dI dA A ((fun u => some (.int u.1)) t) ((fun u => w_X6 u.2) t)) args s 0 0 A) 0 0 (f_X6_held_74 M a1 a2 a3  n x1 x2 x3 x5 x6 M') t 74 [(0, .ref 50), (1, .int x1), (2, .int x2), (3, .int x3), (5, .int x5), (6, .int x6)] [] (w_X6 M') := by
  intro n
  induction n with
  | zero =>
    intro x1 x2 x3 x5 x6 M'
    exact r_cut (f_X6_held_74.eq_1 _ _ _ _ _ _ _ _ _ _) (r_none True.intro)
  | succ n ih =>
    intro x1 x2 x3 x5 x6 M'
    refine r_cut (f_X6_held_74.eq_2 _ _ _ _ _ _ _ _ _ _ _) ?_
    refine r_iload C 5 dX6_held_74 rfl ?_
    refine r_iload_n C 1 dX6_held_76 rfl ?_
    refine r_icmp_gt C 97 dX6_held_77 (by decide) (fun h77 => ?_) (fun h77 => ?_)
    · refine r_iload_n C 2 dX6_held_97 rfl ?_
      refine r_if_ne C 109 dX6_held_98 (by decide) (fun h98 => ?_) (fun h98 => ?_)
      · refine r_iload C 4 dX6_held_101 rfl ?_
        refine r_callS C (o_X6_leftOf l x5) v_X6_leftOf m_1170 [] [.int x5] [] (fun u13 => [.int u13]) (fun u13 => w_X6 M') rfl rfl rfl rfl rfl (Nat.le_of_ble_eq_true rfl) ⟨(Nat.le_of_ble_eq_true rfl), (Nat.le_of_ble_eq_true rfl)⟩ ⟨Nat.zero_le _, Nat.zero_le _⟩ dX6_held_103 (fun _ => rfl) (fun _ => rfl) (fun _ => rfl) (fun u13 => ?_)
        refine r_goto C 114 dX6_held_106 (by decide) ?_
        exact r_reti (x := u13) (rv := (fun u => some (.int u.1))) (hpE := (fun u => w_X6 u.2)) (t0 := (u13, M')) C dX6_held_114 (by rfl) (by rfl) (by rfl)
      · refine r_iload C 4 dX6_held_109 rfl ?_
        refine r_callS C (o_X6_rightOf l x5) v_X6_rightOf m_1173 [] [.int x5] [] (fun u12 => [.int u12]) (fun u12 => w_X6 M') rfl rfl rfl rfl rfl (Nat.le_of_ble_eq_true rfl) ⟨(Nat.le_of_ble_eq_true rfl), (Nat.le_of_ble_eq_true rfl)⟩ ⟨Nat.zero_le _, Nat.zero_le _⟩ dX6_held_111 (fun _ => rfl) (fun _ => rfl) (fun _ => rfl) (fun u12 => ?_)
        exact r_reti (x := u12) (rv := (fun u => some (.int u.1))) (hpE := (fun u => w_X6 u.2)) (t0 := (u12, M')) C dX6_held_114 (by rfl) (by rfl) (by rfl)
    · refine r_aload_n C 0 dX6_held_80 rfl ?_
      refine r_iload C 4 dX6_held_81 rfl ?_
      refine r_iload C 5 dX6_held_83 rfl ?_
      refine r_iload_n C 3 dX6_held_85 rfl ?_
      refine r_callV0 C (o_X6_nextHold l M' x5 x6 x3) v_X6_nextHold m_1194 [.int x5, .int x6, .int x3] [] (50) (Or.inl ⟨0, 5, _, TX6, 25, rfl, rfl, rfl⟩) (fun u14 => [.int u14]) (fun u14 => w_X6 M') rfl rfl rfl (Nat.le_of_ble_eq_true rfl) ⟨(Nat.le_of_ble_eq_true rfl), (Nat.le_of_ble_eq_true rfl)⟩ ⟨Nat.zero_le _, Nat.zero_le _⟩ dX6_held_86 (fun _ => rfl) (fun _ => rfl) (fun _ => rfl) (fun u14 => ?_)
      refine r_istore C [(5, .int u14), (0, .ref 50), (1, .int x1), (2, .int x2), (3, .int x3), (6, .int x6)] dX6_held_89 (Nat.le_of_ble_eq_true rfl) rfl ?_
      refine r_iinc C 5 (x6 + 1) [(6, .int (x6 + 1)), (5, .int u14), (0, .ref 50), (1, .int x1), (2, .int x2), (3, .int x3)] dX6_held_91 rfl rfl (Nat.le_of_ble_eq_true rfl) rfl ?_
      refine r_goto C 74 dX6_held_94 (by decide) ?_
      refine r_lv [(0, .ref 50), (1, .int x1), (2, .int x2), (3, .int x3), (5, .int u14), (6, .int (x6 + 1))] [2, 3, 4, 5, 1, 0] rfl ?_
      exact ih x1 x2 x3 u14 (x6 + 1) M'
set_option maxRecDepth 100000 in
set_option maxHeartbeats 4000000 in
theorem o_X6_held (l : Launch) (M : q_St) (a1 : Int32) (a2 : Int32) (a3 : Int32) : q_Ok l yX6_held cX6_held 7 (some .int) 6 136 [.ref 50, .int a1, .int a2, .int a3] (w_X6 M) (f_X6_held M a1 a2 a3) (fun u => some (.int u.1)) (fun u => w_X6 u.2) := by
  refine q_enter (by decide +kernel) (Nat.le_of_ble_eq_true rfl) (fun t p e s m args below meth c dC dI dA A α C => ?_)
  refine r_cut (f_X6_held.eq_1 _ _ _ _) ?_
  show q_S p l e (q_rm 6 136) s m args below meth c 7 dC dI dA A α (MQ below (q_Q α dC dI dA A ((fun u => some (.int u.1)) t) ((fun u => w_X6 u.2) t)) args s 0 0 A) 0 0 _ t 0 [(0, .ref 50), (1, .int a1), (2, .int a2), (3, .int a3)] [] (w_X6 M)
  refine r_aload_n C 0 dX6_held_0 rfl ?_
  refine r_iload_n C 1 dX6_held_1 rfl ?_
  refine r_callV0 C (o_X6_isBeat l M a1) v_X6_isBeat m_1081 [.int a1] [] (50) (Or.inl ⟨0, 5, _, TX6, 25, rfl, rfl, rfl⟩) (fun u1 => [.int u1]) (fun u1 => w_X6 M) rfl rfl rfl (Nat.le_of_ble_eq_true rfl) ⟨(Nat.le_of_ble_eq_true rfl), (Nat.le_of_ble_eq_true rfl)⟩ ⟨Nat.zero_le _, Nat.zero_le _⟩ dX6_held_2 (fun _ => rfl) (fun _ => rfl) (fun _ => rfl) (fun u1 => ?_)
  refine r_if_eq C 22 dX6_held_5 (by decide) (fun h5 => ?_) (fun h5 => ?_)
  · refine r_aload_n C 0 dX6_held_22 rfl ?_
    refine r_ldc C (-1000001) dX6_held_23 m_997 ?_
    refine r_callV0 C (o_X6_finding l M (-1000001 : Int32)) v_X6_finding m_998 [.int (-1000001 : Int32)] [] (50) (Or.inl ⟨0, 5, _, TX6, 25, rfl, rfl, rfl⟩) (fun u2 => [.int u2.1]) (fun u2 => w_X6 u2.2) rfl rfl rfl (Nat.le_of_ble_eq_true rfl) ⟨(Nat.le_of_ble_eq_true rfl), (Nat.le_of_ble_eq_true rfl)⟩ ⟨Nat.zero_le _, Nat.zero_le _⟩ dX6_held_25 (fun _ => rfl) (fun _ => rfl) (fun _ => rfl) (fun u2 => ?_)
    exact r_reti (x := u2.1) (rv := (fun u => some (.int u.1))) (hpE := (fun u => w_X6 u.2)) (t0 := (u2.1, u2.2)) C dX6_held_28 (by rfl) (by rfl) (by rfl)
  · refine r_iload_n C 2 dX6_held_8 rfl ?_
    refine r_callS C (o_X6_isHand l a2) v_X6_isHand m_1123 [] [.int a2] [] (fun u3 => [.int u3]) (fun u3 => w_X6 M) rfl rfl rfl rfl rfl (Nat.le_of_ble_eq_true rfl) ⟨(Nat.le_of_ble_eq_true rfl), (Nat.le_of_ble_eq_true rfl)⟩ ⟨Nat.zero_le _, Nat.zero_le _⟩ dX6_held_9 (fun _ => rfl) (fun _ => rfl) (fun _ => rfl) (fun u3 => ?_)
    refine r_if_eq C 22 dX6_held_12 (by decide) (fun h12 => ?_) (fun h12 => ?_)
    · refine r_aload_n C 0 dX6_held_22 rfl ?_
      refine r_ldc C (-1000001) dX6_held_23 m_997 ?_
      refine r_callV0 C (o_X6_finding l M (-1000001 : Int32)) v_X6_finding m_998 [.int (-1000001 : Int32)] [] (50) (Or.inl ⟨0, 5, _, TX6, 25, rfl, rfl, rfl⟩) (fun u4 => [.int u4.1]) (fun u4 => w_X6 u4.2) rfl rfl rfl (Nat.le_of_ble_eq_true rfl) ⟨(Nat.le_of_ble_eq_true rfl), (Nat.le_of_ble_eq_true rfl)⟩ ⟨Nat.zero_le _, Nat.zero_le _⟩ dX6_held_25 (fun _ => rfl) (fun _ => rfl) (fun _ => rfl) (fun u4 => ?_)
      exact r_reti (x := u4.1) (rv := (fun u => some (.int u.1))) (hpE := (fun u => w_X6 u.2)) (t0 := (u4.1, u4.2)) C dX6_held_28 (by rfl) (by rfl) (by rfl)
    · refine r_iload_n C 3 dX6_held_15 rfl ?_
      refine r_callS C (o_X6_isWhat l a3) v_X6_isWhat m_1155 [] [.int a3] [] (fun u5 => [.int u5]) (fun u5 => w_X6 M) rfl rfl rfl rfl rfl (Nat.le_of_ble_eq_true rfl) ⟨(Nat.le_of_ble_eq_true rfl), (Nat.le_of_ble_eq_true rfl)⟩ ⟨Nat.zero_le _, Nat.zero_le _⟩ dX6_held_16 (fun _ => rfl) (fun _ => rfl) (fun _ => rfl) (fun u5 => ?_)
      refine r_if_ne C 29 dX6_held_19 (by decide) (fun h19 => ?_) (fun h19 => ?_)
      · refine r_aload_n C 0 dX6_held_22 rfl ?_
        refine r_ldc C (-1000001) dX6_held_23 m_997 ?_
        refine r_callV0 C (o_X6_finding l M (-1000001 : Int32)) v_X6_finding m_998 [.int (-1000001 : Int32)] [] (50) (Or.inl ⟨0, 5, _, TX6, 25, rfl, rfl, rfl⟩) (fun u11 => [.int u11.1]) (fun u11 => w_X6 u11.2) rfl rfl rfl (Nat.le_of_ble_eq_true rfl) ⟨(Nat.le_of_ble_eq_true rfl), (Nat.le_of_ble_eq_true rfl)⟩ ⟨Nat.zero_le _, Nat.zero_le _⟩ dX6_held_25 (fun _ => rfl) (fun _ => rfl) (fun _ => rfl) (fun u11 => ?_)
        exact r_reti (x := u11.1) (rv := (fun u => some (.int u.1))) (hpE := (fun u => w_X6 u.2)) (t0 := (u11.1, u11.2)) C dX6_held_28 (by rfl) (by rfl) (by rfl)
      · refine r_aload_n C 0 dX6_held_29 rfl ?_
        refine r_callV0 C (o_X6_doesGo l M) v_X6_doesGo m_1158 [] [] (50) (Or.inl ⟨0, 5, _, TX6, 25, rfl, rfl, rfl⟩) (fun u6 => [.int u6]) (fun u6 => w_X6 M) rfl rfl rfl (Nat.le_of_ble_eq_true rfl) ⟨(Nat.le_of_ble_eq_true rfl), (Nat.le_of_ble_eq_true rfl)⟩ ⟨Nat.zero_le _, Nat.zero_le _⟩ dX6_held_30 (fun _ => rfl) (fun _ => rfl) (fun _ => rfl) (fun u6 => ?_)
        refine r_if_ne C 43 dX6_held_33 (by decide) (fun h33 => ?_) (fun h33 => ?_)
        · refine r_aload_n C 0 dX6_held_36 rfl ?_
          refine r_ldc C (-1000005) dX6_held_37 m_1126 ?_
          refine r_callV0 C (o_X6_finding l M (-1000005 : Int32)) v_X6_finding m_998 [.int (-1000005 : Int32)] [] (50) (Or.inl ⟨0, 5, _, TX6, 25, rfl, rfl, rfl⟩) (fun u10 => [.int u10.1]) (fun u10 => w_X6 u10.2) rfl rfl rfl (Nat.le_of_ble_eq_true rfl) ⟨(Nat.le_of_ble_eq_true rfl), (Nat.le_of_ble_eq_true rfl)⟩ ⟨Nat.zero_le _, Nat.zero_le _⟩ dX6_held_39 (fun _ => rfl) (fun _ => rfl) (fun _ => rfl) (fun u10 => ?_)
          exact r_reti (x := u10.1) (rv := (fun u => some (.int u.1))) (hpE := (fun u => w_X6 u.2)) (t0 := (u10.1, u10.2)) C dX6_held_42 (by rfl) (by rfl) (by rfl)
        · refine r_aload_n C 0 dX6_held_43 rfl ?_
          refine r_aload_n C 0 dX6_held_44 rfl ?_
          refine r_callV0 C (o_X6_allBeats l M) v_X6_allBeats m_1162 [] [.ref 50] (50) (Or.inl ⟨0, 5, _, TX6, 25, rfl, rfl, rfl⟩) (fun u7 => [.int u7, .ref 50]) (fun u7 => w_X6 M) rfl rfl rfl (Nat.le_of_ble_eq_true rfl) ⟨(Nat.le_of_ble_eq_true rfl), (Nat.le_of_ble_eq_true rfl)⟩ ⟨Nat.zero_le _, Nat.zero_le _⟩ dX6_held_45 (fun _ => rfl) (fun _ => rfl) (fun _ => rfl) (fun u7 => ?_)
          refine r_iload_n C 3 dX6_held_48 rfl ?_
          refine r_callV0 C (o_X6_findWay l M u7 a3) v_X6_findWay m_1166 [.int u7, .int a3] [] (50) (Or.inl ⟨0, 5, _, TX6, 25, rfl, rfl, rfl⟩) (fun u8 => [.int u8.1]) (fun u8 => w_X6 u8.2) rfl rfl rfl (Nat.le_of_ble_eq_true rfl) ⟨(Nat.le_of_ble_eq_true rfl), (Nat.le_of_ble_eq_true rfl)⟩ ⟨Nat.zero_le _, Nat.zero_le _⟩ dX6_held_49 (fun _ => rfl) (fun _ => rfl) (fun _ => rfl) (fun u8 => ?_)
          refine r_istore C [(4, .int u8.1), (0, .ref 50), (1, .int a1), (2, .int a2), (3, .int a3)] dX6_held_52 (Nat.le_of_ble_eq_true rfl) rfl ?_
          refine r_iload C 0 dX6_held_54 rfl ?_
          refine r_ldc C (1000000) dX6_held_56 m_1180 ?_
          refine r_icmp_ge C 68 dX6_held_58 (by decide) (fun h58 => ?_) (fun h58 => ?_)
          · refine r_iconst C (0) dX6_held_68 rfl ?_
            refine r_istore C [(5, .int (0 : Int32)), (4, .int u8.1), (0, .ref 50), (1, .int a1), (2, .int a2), (3, .int a3)] dX6_held_69 (Nat.le_of_ble_eq_true rfl) rfl ?_
            refine r_iconst C (0) dX6_held_71 rfl ?_
            refine r_istore C [(6, .int (0 : Int32)), (5, .int (0 : Int32)), (4, .int u8.1), (0, .ref 50), (1, .int a1), (2, .int a2), (3, .int a3)] dX6_held_72 (Nat.le_of_ble_eq_true rfl) rfl ?_
            refine r_lv [(0, .ref 50), (1, .int a1), (2, .int a2), (3, .int a3), (5, .int (0 : Int32)), (6, .int (0 : Int32))] [3, 4, 5, 6, 1, 0] rfl ?_
            exact k_X6_held_74 C M a1 a2 a3   q_N a1 a2 a3 (0 : Int32) (0 : Int32) u8.2
          · refine r_aload_n C 1 dX6_held_61 rfl ?_
            refine r_callV0 C (o_X6_holdNow l u8.2) v_X6_holdNow m_1186 [] [] (50) (Or.inl ⟨0, 5, _, TX6, 25, rfl, rfl, rfl⟩) (fun u9 => [.int u9]) (fun u9 => w_X6 u8.2) rfl rfl rfl (Nat.le_of_ble_eq_true rfl) ⟨(Nat.le_of_ble_eq_true rfl), (Nat.le_of_ble_eq_true rfl)⟩ ⟨Nat.zero_le _, Nat.zero_le _⟩ dX6_held_62 (fun _ => rfl) (fun _ => rfl) (fun _ => rfl) (fun u9 => ?_)
            refine r_goto C 69 dX6_held_65 (by decide) ?_
            refine r_istore C [(5, .int u9), (4, .int u8.1), (0, .ref 50), (1, .int a1), (2, .int a2), (3, .int a3)] dX6_held_69 (Nat.le_of_ble_eq_true rfl) rfl ?_
            refine r_iconst C (0) dX6_held_71 rfl ?_
            refine r_istore C [(6, .int (0 : Int32)), (5, .int u9), (4, .int u8.1), (0, .ref 50), (1, .int a1), (2, .int a2), (3, .int a3)] dX6_held_72 (Nat.le_of_ble_eq_true rfl) rfl ?_
            refine r_lv [(0, .ref 50), (1, .int a1), (2, .int a2), (3, .int a3), (5, .int u9), (6, .int (0 : Int32))] [3, 4, 5, 6, 1, 0] rfl ?_
            exact k_X6_held_74 C M a1 a2 a3   q_N a1 a2 a3 u9 (0 : Int32) u8.2
set_option maxRecDepth 100000 in
set_option maxHeartbeats 4000000 in
theorem o_X6_part (l : Launch) (M : q_St) (a1 : Int32) (a2 : Int32) (a3 : Int32) : q_Ok l yX6_part cX6_part 5 (some .int) 6 136 [.ref 50, .int a1, .int a2, .int a3] (w_X6 M) (f_X6_part M a1 a2 a3) (fun u => some (.int u.1)) (fun u => w_X6 u.2) := by
  refine q_enter (by decide +kernel) (Nat.le_of_ble_eq_true rfl) (fun t p e s m args below meth c dC dI dA A α C => ?_)
  refine r_cut (f_X6_part.eq_1 _ _ _ _) ?_
  show q_S p l e (q_rm 6 136) s m args below meth c 5 dC dI dA A α (MQ below (q_Q α dC dI dA A ((fun u => some (.int u.1)) t) ((fun u => w_X6 u.2) t)) args s 0 0 A) 0 0 _ t 0 [(0, .ref 50), (1, .int a1), (2, .int a2), (3, .int a3)] [] (w_X6 M)
  refine r_aload_n C 0 dX6_part_0 rfl ?_
  refine r_iload_n C 1 dX6_part_1 rfl ?_
  refine r_callV0 C (o_X6_isBeat l M a1) v_X6_isBeat m_1081 [.int a1] [] (50) (Or.inl ⟨0, 5, _, TX6, 25, rfl, rfl, rfl⟩) (fun u1 => [.int u1]) (fun u1 => w_X6 M) rfl rfl rfl (Nat.le_of_ble_eq_true rfl) ⟨(Nat.le_of_ble_eq_true rfl), (Nat.le_of_ble_eq_true rfl)⟩ ⟨Nat.zero_le _, Nat.zero_le _⟩ dX6_part_2 (fun _ => rfl) (fun _ => rfl) (fun _ => rfl) (fun u1 => ?_)
  refine r_if_eq C 28 dX6_part_5 (by decide) (fun h5 => ?_) (fun h5 => ?_)
  · refine r_aload_n C 0 dX6_part_28 rfl ?_
    refine r_ldc C (-1000001) dX6_part_29 m_997 ?_
    refine r_callV0 C (o_X6_finding l M (-1000001 : Int32)) v_X6_finding m_998 [.int (-1000001 : Int32)] [] (50) (Or.inl ⟨0, 5, _, TX6, 25, rfl, rfl, rfl⟩) (fun u2 => [.int u2.1]) (fun u2 => w_X6 u2.2) rfl rfl rfl (Nat.le_of_ble_eq_true rfl) ⟨(Nat.le_of_ble_eq_true rfl), (Nat.le_of_ble_eq_true rfl)⟩ ⟨Nat.zero_le _, Nat.zero_le _⟩ dX6_part_31 (fun _ => rfl) (fun _ => rfl) (fun _ => rfl) (fun u2 => ?_)
    exact r_reti (x := u2.1) (rv := (fun u => some (.int u.1))) (hpE := (fun u => w_X6 u.2)) (t0 := (u2.1, u2.2)) C dX6_part_34 (by rfl) (by rfl) (by rfl)
  · refine r_aload_n C 0 dX6_part_8 rfl ?_
    refine r_iload_n C 2 dX6_part_9 rfl ?_
    refine r_callV0 C (o_X6_isBeat l M a2) v_X6_isBeat m_1081 [.int a2] [] (50) (Or.inl ⟨0, 5, _, TX6, 25, rfl, rfl, rfl⟩) (fun u3 => [.int u3]) (fun u3 => w_X6 M) rfl rfl rfl (Nat.le_of_ble_eq_true rfl) ⟨(Nat.le_of_ble_eq_true rfl), (Nat.le_of_ble_eq_true rfl)⟩ ⟨Nat.zero_le _, Nat.zero_le _⟩ dX6_part_10 (fun _ => rfl) (fun _ => rfl) (fun _ => rfl) (fun u3 => ?_)
    refine r_if_eq C 28 dX6_part_13 (by decide) (fun h13 => ?_) (fun h13 => ?_)
    · refine r_aload_n C 0 dX6_part_28 rfl ?_
      refine r_ldc C (-1000001) dX6_part_29 m_997 ?_
      refine r_callV0 C (o_X6_finding l M (-1000001 : Int32)) v_X6_finding m_998 [.int (-1000001 : Int32)] [] (50) (Or.inl ⟨0, 5, _, TX6, 25, rfl, rfl, rfl⟩) (fun u4 => [.int u4.1]) (fun u4 => w_X6 u4.2) rfl rfl rfl (Nat.le_of_ble_eq_true rfl) ⟨(Nat.le_of_ble_eq_true rfl), (Nat.le_of_ble_eq_true rfl)⟩ ⟨Nat.zero_le _, Nat.zero_le _⟩ dX6_part_31 (fun _ => rfl) (fun _ => rfl) (fun _ => rfl) (fun u4 => ?_)
      exact r_reti (x := u4.1) (rv := (fun u => some (.int u.1))) (hpE := (fun u => w_X6 u.2)) (t0 := (u4.1, u4.2)) C dX6_part_34 (by rfl) (by rfl) (by rfl)
    · refine r_iload_n C 1 dX6_part_16 rfl ?_
      refine r_iload_n C 2 dX6_part_17 rfl ?_
      refine r_icmp_gt C 28 dX6_part_18 (by decide) (fun h18 => ?_) (fun h18 => ?_)
      · refine r_aload_n C 0 dX6_part_28 rfl ?_
        refine r_ldc C (-1000001) dX6_part_29 m_997 ?_
        refine r_callV0 C (o_X6_finding l M (-1000001 : Int32)) v_X6_finding m_998 [.int (-1000001 : Int32)] [] (50) (Or.inl ⟨0, 5, _, TX6, 25, rfl, rfl, rfl⟩) (fun u5 => [.int u5.1]) (fun u5 => w_X6 u5.2) rfl rfl rfl (Nat.le_of_ble_eq_true rfl) ⟨(Nat.le_of_ble_eq_true rfl), (Nat.le_of_ble_eq_true rfl)⟩ ⟨Nat.zero_le _, Nat.zero_le _⟩ dX6_part_31 (fun _ => rfl) (fun _ => rfl) (fun _ => rfl) (fun u5 => ?_)
        exact r_reti (x := u5.1) (rv := (fun u => some (.int u.1))) (hpE := (fun u => w_X6 u.2)) (t0 := (u5.1, u5.2)) C dX6_part_34 (by rfl) (by rfl) (by rfl)
      · refine r_iload_n C 3 dX6_part_21 rfl ?_
        refine r_callS C (o_X6_isWhat l a3) v_X6_isWhat m_1155 [] [.int a3] [] (fun u6 => [.int u6]) (fun u6 => w_X6 M) rfl rfl rfl rfl rfl (Nat.le_of_ble_eq_true rfl) ⟨(Nat.le_of_ble_eq_true rfl), (Nat.le_of_ble_eq_true rfl)⟩ ⟨Nat.zero_le _, Nat.zero_le _⟩ dX6_part_22 (fun _ => rfl) (fun _ => rfl) (fun _ => rfl) (fun u6 => ?_)
        refine r_if_ne C 35 dX6_part_25 (by decide) (fun h25 => ?_) (fun h25 => ?_)
        · refine r_aload_n C 0 dX6_part_28 rfl ?_
          refine r_ldc C (-1000001) dX6_part_29 m_997 ?_
          refine r_callV0 C (o_X6_finding l M (-1000001 : Int32)) v_X6_finding m_998 [.int (-1000001 : Int32)] [] (50) (Or.inl ⟨0, 5, _, TX6, 25, rfl, rfl, rfl⟩) (fun u10 => [.int u10.1]) (fun u10 => w_X6 u10.2) rfl rfl rfl (Nat.le_of_ble_eq_true rfl) ⟨(Nat.le_of_ble_eq_true rfl), (Nat.le_of_ble_eq_true rfl)⟩ ⟨Nat.zero_le _, Nat.zero_le _⟩ dX6_part_31 (fun _ => rfl) (fun _ => rfl) (fun _ => rfl) (fun u10 => ?_)
          exact r_reti (x := u10.1) (rv := (fun u => some (.int u.1))) (hpE := (fun u => w_X6 u.2)) (t0 := (u10.1, u10.2)) C dX6_part_34 (by rfl) (by rfl) (by rfl)
        · refine r_iconst C (1) dX6_part_35 rfl ?_
          refine r_iload_n C 2 dX6_part_36 rfl ?_
          refine r_iconst C (1) dX6_part_37 rfl ?_
          refine r_iadd C dX6_part_38 ?_
          refine r_ishl C dX6_part_39 ?_
          refine r_iconst C (1) dX6_part_40 rfl ?_
          refine r_iload_n C 1 dX6_part_41 rfl ?_
          refine r_ishl C dX6_part_42 ?_
          refine r_isub C dX6_part_43 ?_
          refine r_istore C [(4, .int (((1 : Int32) <<< ((a2 + (1 : Int32)) &&& 31)) - ((1 : Int32) <<< (a1 &&& 31)))), (0, .ref 50), (1, .int a1), (2, .int a2), (3, .int a3)] dX6_part_44 (Nat.le_of_ble_eq_true rfl) rfl ?_
          refine r_aload_n C 1 dX6_part_46 rfl ?_
          refine r_callV0 C (o_X6_wrongBeats l M) v_X6_wrongBeats m_1111 [] [] (50) (Or.inl ⟨0, 5, _, TX6, 25, rfl, rfl, rfl⟩) (fun u7 => [.int u7]) (fun u7 => w_X6 M) rfl rfl rfl (Nat.le_of_ble_eq_true rfl) ⟨(Nat.le_of_ble_eq_true rfl), (Nat.le_of_ble_eq_true rfl)⟩ ⟨Nat.zero_le _, Nat.zero_le _⟩ dX6_part_47 (fun _ => rfl) (fun _ => rfl) (fun _ => rfl) (fun u7 => ?_)
          refine r_iload C 0 dX6_part_50 rfl ?_
          refine r_iand C dX6_part_52 ?_
          refine r_if_ne C 66 dX6_part_53 (by decide) (fun h53 => ?_) (fun h53 => ?_)
          · refine r_aload_n C 1 dX6_part_56 rfl ?_
            refine r_iload C 0 dX6_part_57 rfl ?_
            refine r_iload_n C 4 dX6_part_59 rfl ?_
            refine r_callV0 C (o_X6_findWay l M (((1 : Int32) <<< ((a2 + (1 : Int32)) &&& 31)) - ((1 : Int32) <<< (a1 &&& 31))) a3) v_X6_findWay m_1166 [.int (((1 : Int32) <<< ((a2 + (1 : Int32)) &&& 31)) - ((1 : Int32) <<< (a1 &&& 31))), .int a3] [] (50) (Or.inl ⟨0, 5, _, TX6, 25, rfl, rfl, rfl⟩) (fun u9 => [.int u9.1]) (fun u9 => w_X6 u9.2) rfl rfl rfl (Nat.le_of_ble_eq_true rfl) ⟨(Nat.le_of_ble_eq_true rfl), (Nat.le_of_ble_eq_true rfl)⟩ ⟨Nat.zero_le _, Nat.zero_le _⟩ dX6_part_60 (fun _ => rfl) (fun _ => rfl) (fun _ => rfl) (fun u9 => ?_)
            refine r_goto C 72 dX6_part_63 (by decide) ?_
            exact r_reti (x := u9.1) (rv := (fun u => some (.int u.1))) (hpE := (fun u => w_X6 u.2)) (t0 := (u9.1, u9.2)) C dX6_part_72 (by rfl) (by rfl) (by rfl)
          · refine r_aload_n C 1 dX6_part_66 rfl ?_
            refine r_ldc C (-1000005) dX6_part_67 m_1126 ?_
            refine r_callV0 C (o_X6_finding l M (-1000005 : Int32)) v_X6_finding m_998 [.int (-1000005 : Int32)] [] (50) (Or.inl ⟨0, 5, _, TX6, 25, rfl, rfl, rfl⟩) (fun u8 => [.int u8.1]) (fun u8 => w_X6 u8.2) rfl rfl rfl (Nat.le_of_ble_eq_true rfl) ⟨(Nat.le_of_ble_eq_true rfl), (Nat.le_of_ble_eq_true rfl)⟩ ⟨Nat.zero_le _, Nat.zero_le _⟩ dX6_part_69 (fun _ => rfl) (fun _ => rfl) (fun _ => rfl) (fun u8 => ?_)
            exact r_reti (x := u8.1) (rv := (fun u => some (.int u.1))) (hpE := (fun u => w_X6 u.2)) (t0 := (u8.1, u8.2)) C dX6_part_72 (by rfl) (by rfl) (by rfl)
