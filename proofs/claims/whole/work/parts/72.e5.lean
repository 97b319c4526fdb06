set_option maxRecDepth 100000 in
set_option maxHeartbeats 4000000 in
theorem o_X6_canPlay (l : Launch) (M : q_St) : q_Ok l yX6_canPlay cX6_canPlay 1 (some .boolean) 6 132 [.ref 50] (w_X6 M) (f_X6_canPlay M) (fun u => some (.int u)) (fun u => w_X6 M) := by
  refine q_enter (by decide +kernel) (Nat.le_of_ble_eq_true rfl) (fun t p e s m args below meth c dC dI dA A α C => ?_)
  refine r_cut (f_X6_canPlay.eq_1 _) ?_
  show q_S p l e (q_rm 6 132) s m args below meth c 1 dC dI dA A α (MQ below (q_Q α dC dI dA A ((fun u => some (.int u)) t) ((fun u => w_X6 M) t)) args s 0 0 A) 0 0 _ t 0 [(0, .ref 50)] [] (w_X6 M)
  refine r_aload_n C 0 dX6_canPlay_0 rfl ?_
  refine r_get C 0 0 dX6_canPlay_1 K_X6 rfl rfl (Nat.le_of_ble_eq_true rfl) rfl m_915 rfl ?_
  refine r_iconst C (1) dX6_canPlay_4 rfl ?_
  refine r_iald C 1 dX6_canPlay_5 rfl rfl (fun hi5 => ?_)
  refine r_if_le C 20 dX6_canPlay_6 (by decide) (fun h6 => ?_) (fun h6 => ?_)
  · refine r_iconst C (0) dX6_canPlay_20 rfl ?_
    exact r_retz (x := (0 : Int32)) (rv := (fun u => some (.int u))) (hpE := (fun u => w_X6 M)) (t0 := (0 : Int32)) C dX6_canPlay_21 (by rfl) (by rfl) (by rfl) (by rfl)
  · refine r_aload_n C 0 dX6_canPlay_9 rfl ?_
    refine r_callV0 C (o_X6_doesGo l M) v_X6_doesGo m_1163 [] [] (50) (Or.inl ⟨0, 5, _, TX6, 25, rfl, rfl, rfl⟩) (fun u1 => [.int u1]) (fun u1 => [.inr (5, [.ref 51, .ref 52, .ref 53, .int (M.1 3), .ref 54, .ref 55, .ref 56, .int (M.1 7), .ref 57, .ref 58, .int (M.1 10), .int (M.1 11), .int (M.1 12), .int (M.1 13), .int (M.1 14), .int (M.1 15), .ref 59, .ref 60, .int (M.1 18), .int (M.1 19), .int (M.1 20), .ref 61, .ref 62, .ref 63, .ref 64]), .inl (0, 68, .inl (M.2 0)), .inl (0, 68, .inl (M.2 1)), .inl (0, 68, .inl (M.2 2)), .inl (0, 8, .inl (M.2 4)), .inl (0, 1053, .inl (M.2 5)), .inl (1, 972, .inl (M.2 6)), .inl (0, 1053, .inl (M.2 8)), .inl (0, 120, .inl (M.2 9)), .inl (3, 7, .inr (.inr (.inr (.inr q_kf)))), .inl (0, 360, .inl (M.2 17)), .inl (0, 4, .inl (M.2 21)), .inl (0, 4, .inl (M.2 22)), .inl (0, 160, .inl (M.2 23)), .inl (0, 40, .inl (M.2 24))]) rfl rfl rfl (Nat.le_of_ble_eq_true rfl) ⟨(Nat.le_of_ble_eq_true rfl), (Nat.le_of_ble_eq_true rfl)⟩ ⟨Nat.zero_le _, Nat.zero_le _⟩ dX6_canPlay_10 (fun _ => rfl) (fun _ => rfl) (fun _ => rfl) (fun u1 => ?_)
    refine r_if_eq C 20 dX6_canPlay_13 (by decide) (fun h13 => ?_) (fun h13 => ?_)
    · refine r_iconst C (0) dX6_canPlay_20 rfl ?_
      exact r_retz (x := (0 : Int32)) (rv := (fun u => some (.int u))) (hpE := (fun u => w_X6 M)) (t0 := (0 : Int32)) C dX6_canPlay_21 (by rfl) (by rfl) (by rfl) (by rfl)
    · refine r_iconst C (1) dX6_canPlay_16 rfl ?_
      refine r_goto C 21 dX6_canPlay_17 (by decide) ?_
      exact r_retz (x := (1 : Int32)) (rv := (fun u => some (.int u))) (hpE := (fun u => w_X6 M)) (t0 := (1 : Int32)) C dX6_canPlay_21 (by rfl) (by rfl) (by rfl) (by rfl)
set_option maxRecDepth 100000 in
set_option maxHeartbeats 4000000 in
theorem o_X6_plays (l : Launch) (M : q_St) : q_Ok l yX6_plays cX6_plays 1 (some .int) 7 164 [.ref 50] (w_X6 M) (f_X6_plays M) (fun u => some (.int u.1)) (fun u => w_X6 u.2) := by
  refine q_enter (by decide +kernel) (Nat.le_of_ble_eq_true rfl) (fun t p e s m args below meth c dC dI dA A α C => ?_)
  refine r_cut (f_X6_plays.eq_1 _) ?_
  show q_S p l e (q_rm 7 164) s m args below meth c 1 dC dI dA A α (MQ below (q_Q α dC dI dA A ((fun u => some (.int u.1)) t) ((fun u => w_X6 u.2) t)) args s 0 0 A) 0 0 _ t 0 [(0, .ref 50)] [] (w_X6 M)
  refine r_aload_n C 0 dX6_plays_0 rfl ?_
  refine r_callV0 C (o_X6_canPlay l M) v_X6_canPlay m_1296 [] [] (50) (Or.inl ⟨0, 5, _, TX6, 25, rfl, rfl, rfl⟩) (fun u1 => [.int u1]) (fun u1 => [.inr (5, [.ref 51, .ref 52, .ref 53, .int (M.1 3), .ref 54, .ref 55, .ref 56, .int (M.1 7), .ref 57, .ref 58, .int (M.1 10), .int (M.1 11), .int (M.1 12), .int (M.1 13), .int (M.1 14), .int (M.1 15), .ref 59, .ref 60, .int (M.1 18), .int (M.1 19), .int (M.1 20), .ref 61, .ref 62, .ref 63, .ref 64]), .inl (0, 68, .inl (M.2 0)), .inl (0, 68, .inl (M.2 1)), .inl (0, 68, .inl (M.2 2)), .inl (0, 8, .inl (M.2 4)), .inl (0, 1053, .inl (M.2 5)), .inl (1, 972, .inl (M.2 6)), .inl (0, 1053, .inl (M.2 8)), .inl (0, 120, .inl (M.2 9)), .inl (3, 7, .inr (.inr (.inr (.inr q_kf)))), .inl (0, 360, .inl (M.2 17)), .inl (0, 4, .inl (M.2 21)), .inl (0, 4, .inl (M.2 22)), .inl (0, 160, .inl (M.2 23)), .inl (0, 40, .inl (M.2 24))]) rfl rfl rfl (Nat.le_of_ble_eq_true rfl) ⟨(Nat.le_of_ble_eq_true rfl), (Nat.le_of_ble_eq_true rfl)⟩ ⟨Nat.zero_le _, Nat.zero_le _⟩ dX6_plays_1 (fun _ => rfl) (fun _ => rfl) (fun _ => rfl) (fun u1 => ?_)
  refine r_if_eq C 14 dX6_plays_4 (by decide) (fun h4 => ?_) (fun h4 => ?_)
  · refine r_aload_n C 0 dX6_plays_14 rfl ?_
    refine r_ldc C (-1000005) dX6_plays_15 m_1131 ?_
    refine r_callV0 C (o_X6_finding l M (-1000005 : Int32)) v_X6_finding m_1003 [.int (-1000005 : Int32)] [] (50) (Or.inl ⟨0, 5, _, TX6, 25, rfl, rfl, rfl⟩) (fun u2 => [.int u2.1]) (fun u2 => [.inr (5, [.ref 51, .ref 52, .ref 53, .int (u2.2.1 3), .ref 54, .ref 55, .ref 56, .int (u2.2.1 7), .ref 57, .ref 58, .int (u2.2.1 10), .int (u2.2.1 11), .int (u2.2.1 12), .int (u2.2.1 13), .int (u2.2.1 14), .int (u2.2.1 15), .ref 59, .ref 60, .int (u2.2.1 18), .int (u2.2.1 19), .int (u2.2.1 20), .ref 61, .ref 62, .ref 63, .ref 64]), .inl (0, 68, .inl (u2.2.2 0)), .inl (0, 68, .inl (u2.2.2 1)), .inl (0, 68, .inl (u2.2.2 2)), .inl (0, 8, .inl (u2.2.2 4)), .inl (0, 1053, .inl (u2.2.2 5)), .inl (1, 972, .inl (u2.2.2 6)), .inl (0, 1053, .inl (u2.2.2 8)), .inl (0, 120, .inl (u2.2.2 9)), .inl (3, 7, .inr (.inr (.inr (.inr q_kf)))), .inl (0, 360, .inl (u2.2.2 17)), .inl (0, 4, .inl (u2.2.2 21)), .inl (0, 4, .inl (u2.2.2 22)), .inl (0, 160, .inl (u2.2.2 23)), .inl (0, 40, .inl (u2.2.2 24))]) rfl rfl rfl (Nat.le_of_ble_eq_true rfl) ⟨(Nat.le_of_ble_eq_true rfl), (Nat.le_of_ble_eq_true rfl)⟩ ⟨Nat.zero_le _, Nat.zero_le _⟩ dX6_plays_17 (fun _ => rfl) (fun _ => rfl) (fun _ => rfl) (fun u2 => ?_)
    exact r_reti (x := u2.1) (rv := (fun u => some (.int u.1))) (hpE := (fun u => w_X6 u.2)) (t0 := (u2.1, u2.2)) C dX6_plays_20 (by rfl) (by rfl) (by rfl)
  · refine r_aload_n C 0 dX6_plays_7 rfl ?_
    refine r_callV0 C (o_X6_evening l M) v_X6_evening m_1300 [] [] (50) (Or.inl ⟨0, 5, _, TX6, 25, rfl, rfl, rfl⟩) (fun u3 => [.int u3.1]) (fun u3 => [.inr (5, [.ref 51, .ref 52, .ref 53, .int (u3.2.1 3), .ref 54, .ref 55, .ref 56, .int (u3.2.1 7), .ref 57, .ref 58, .int (u3.2.1 10), .int (u3.2.1 11), .int (u3.2.1 12), .int (u3.2.1 13), .int (u3.2.1 14), .int (u3.2.1 15), .ref 59, .ref 60, .int (u3.2.1 18), .int (u3.2.1 19), .int (u3.2.1 20), .ref 61, .ref 62, .ref 63, .ref 64]), .inl (0, 68, .inl (u3.2.2 0)), .inl (0, 68, .inl (u3.2.2 1)), .inl (0, 68, .inl (u3.2.2 2)), .inl (0, 8, .inl (u3.2.2 4)), .inl (0, 1053, .inl (u3.2.2 5)), .inl (1, 972, .inl (u3.2.2 6)), .inl (0, 1053, .inl (u3.2.2 8)), .inl (0, 120, .inl (u3.2.2 9)), .inl (3, 7, .inr (.inr (.inr (.inr q_kf)))), .inl (0, 360, .inl (u3.2.2 17)), .inl (0, 4, .inl (u3.2.2 21)), .inl (0, 4, .inl (u3.2.2 22)), .inl (0, 160, .inl (u3.2.2 23)), .inl (0, 40, .inl (u3.2.2 24))]) rfl rfl rfl (Nat.le_of_ble_eq_true rfl) ⟨(Nat.le_of_ble_eq_true rfl), (Nat.le_of_ble_eq_true rfl)⟩ ⟨Nat.zero_le _, Nat.zero_le _⟩ dX6_plays_8 (fun _ => rfl) (fun _ => rfl) (fun _ => rfl) (fun u3 => ?_)
    refine r_goto C 20 dX6_plays_11 (by decide) ?_
    exact r_reti (x := u3.1) (rv := (fun u => some (.int u.1))) (hpE := (fun u => w_X6 u.2)) (t0 := (u3.1, u3.2)) C dX6_plays_20 (by rfl) (by rfl) (by rfl)
set_option maxRecDepth 100000 in
set_option maxHeartbeats 4000000 in
theorem k_X6_ahead_46 {p : Program} {l : Launch} {e : Env} {s : State} {m : MethodId} {args : Array Value} {below : List Frame} {meth : Method} {c : Code} {dC : Nat → ClassId} {dI : Nat → Nat → Nat} {dA : Nat → ClassId} {A : Nat → Prop} {α : Nat → Nat} {t : Int32 × q_St} (C : q_Cx p s m args meth c cX6_ahead 4 RX6 (some .int) "ahead" dC dI dA A α) (M : q_St) (a1 : Int32)  : ∀ (n : Nat) (x1 : Int32) (x2 : Int32) (x3 : Int32) (M' : q_St), q_S p l e (q_rm 7 164) s m args below meth c 4 dC dI dA A α (MQ below (q_Q α dC dI dA A ((fun u => some (.int u.1)) t) ((fun u => w_X6 u.2) t)) args s 0 0 A) 0 0 (f_X6_ahead_46 M a1  n x1 x2 x3 M') t 46 [(0, .ref 50), (1, .int x1), (2, .int x2), (3, .int x3)] [] (w_X6 M') := by
  intro n
  induction n with
  | zero =>
    intro x1 x2 x3 M'
    exact r_cut (f_X6_ahead_46.eq_1 _ _ _ _ _ _) (r_none True.intro)
  | succ n ih =>
    intro x1 x2 x3 M'
    refine r_cut (f_X6_ahead_46.eq_2 _ _ _ _ _ _ _) ?_
    refine r_iload_n C 3 dX6_ahead_46 rfl ?_
    refine r_iload_n C 1 dX6_ahead_47 rfl ?_
    refine r_icmp_ge C 64 dX6_ahead_48 (by decide) (fun h48 => ?_) (fun h48 => ?_)
    · refine r_aload_n C 0 dX6_ahead_64 rfl ?_
      refine r_iload_n C 2 dX6_ahead_65 rfl ?_
      refine r_callV0 C (o_X6_putBack l M' x2) v_X6_putBack m_1313 [.int x2] [] (50) (Or.inl ⟨0, 5, _, TX6, 25, rfl, rfl, rfl⟩) (fun u6 => [.int u6.1]) (fun u6 => [.inr (5, [.ref 51, .ref 52, .ref 53, .int (u6.2.1 3), .ref 54, .ref 55, .ref 56, .int (u6.2.1 7), .ref 57, .ref 58, .int (u6.2.1 10), .int (u6.2.1 11), .int (u6.2.1 12), .int (u6.2.1 13), .int (u6.2.1 14), .int (u6.2.1 15), .ref 59, .ref 60, .int (u6.2.1 18), .int (u6.2.1 19), .int (u6.2.1 20), .ref 61, .ref 62, .ref 63, .ref 64]), .inl (0, 68, .inl (u6.2.2 0)), .inl (0, 68, .inl (u6.2.2 1)), .inl (0, 68, .inl (u6.2.2 2)), .inl (0, 8, .inl (u6.2.2 4)), .inl (0, 1053, .inl (u6.2.2 5)), .inl (1, 972, .inl (u6.2.2 6)), .inl (0, 1053, .inl (u6.2.2 8)), .inl (0, 120, .inl (u6.2.2 9)), .inl (3, 7, .inr (.inr (.inr (.inr q_kf)))), .inl (0, 360, .inl (u6.2.2 17)), .inl (0, 4, .inl (u6.2.2 21)), .inl (0, 4, .inl (u6.2.2 22)), .inl (0, 160, .inl (u6.2.2 23)), .inl (0, 40, .inl (u6.2.2 24))]) rfl rfl rfl (Nat.le_of_ble_eq_true rfl) ⟨(Nat.le_of_ble_eq_true rfl), (Nat.le_of_ble_eq_true rfl)⟩ ⟨Nat.zero_le _, Nat.zero_le _⟩ dX6_ahead_66 (fun _ => rfl) (fun _ => rfl) (fun _ => rfl) (fun u6 => ?_)
      exact r_reti (x := u6.1) (rv := (fun u => some (.int u.1))) (hpE := (fun u => w_X6 u.2)) (t0 := (u6.1, u6.2)) C dX6_ahead_69 (by rfl) (by rfl) (by rfl)
    · refine r_iload_n C 2 dX6_ahead_51 rfl ?_
      refine r_aload_n C 0 dX6_ahead_52 rfl ?_
      refine r_callV0 C (o_X6_evening l M') v_X6_evening m_1300 [] [.int x2] (50) (Or.inl ⟨0, 5, _, TX6, 25, rfl, rfl, rfl⟩) (fun u7 => [.int u7.1, .int x2]) (fun u7 => [.inr (5, [.ref 51, .ref 52, .ref 53, .int (u7.2.1 3), .ref 54, .ref 55, .ref 56, .int (u7.2.1 7), .ref 57, .ref 58, .int (u7.2.1 10), .int (u7.2.1 11), .int (u7.2.1 12), .int (u7.2.1 13), .int (u7.2.1 14), .int (u7.2.1 15), .ref 59, .ref 60, .int (u7.2.1 18), .int (u7.2.1 19), .int (u7.2.1 20), .ref 61, .ref 62, .ref 63, .ref 64]), .inl (0, 68, .inl (u7.2.2 0)), .inl (0, 68, .inl (u7.2.2 1)), .inl (0, 68, .inl (u7.2.2 2)), .inl (0, 8, .inl (u7.2.2 4)), .inl (0, 1053, .inl (u7.2.2 5)), .inl (1, 972, .inl (u7.2.2 6)), .inl (0, 1053, .inl (u7.2.2 8)), .inl (0, 120, .inl (u7.2.2 9)), .inl (3, 7, .inr (.inr (.inr (.inr q_kf)))), .inl (0, 360, .inl (u7.2.2 17)), .inl (0, 4, .inl (u7.2.2 21)), .inl (0, 4, .inl (u7.2.2 22)), .inl (0, 160, .inl (u7.2.2 23)), .inl (0, 40, .inl (u7.2.2 24))]) rfl rfl rfl (Nat.le_of_ble_eq_true rfl) ⟨(Nat.le_of_ble_eq_true rfl), (Nat.le_of_ble_eq_true rfl)⟩ ⟨Nat.zero_le _, Nat.zero_le _⟩ dX6_ahead_53 (fun _ => rfl) (fun _ => rfl) (fun _ => rfl) (fun u7 => ?_)
      refine r_iadd C dX6_ahead_56 ?_
      refine r_istore_n C [(2, .int (x2 + u7.1)), (0, .ref 50), (1, .int x1), (3, .int x3)] dX6_ahead_57 (Nat.le_of_ble_eq_true rfl) rfl ?_
      refine r_iinc C 3 (x3 + 1) [(3, .int (x3 + 1)), (2, .int (x2 + u7.1)), (0, .ref 50), (1, .int x1)] dX6_ahead_58 rfl rfl (Nat.le_of_ble_eq_true rfl) rfl ?_
      refine r_goto C 46 dX6_ahead_61 (by decide) ?_
      refine r_lv [(0, .ref 50), (1, .int x1), (2, .int (x2 + u7.1)), (3, .int (x3 + 1))] [2, 3, 1, 0] rfl ?_
      exact ih x1 (x2 + u7.1) (x3 + 1) u7.2
set_option maxRecDepth 100000 in
set_option maxHeartbeats 4000000 in
theorem o_X6_ahead (l : Launch) (M : q_St) (a1 : Int32) : q_Ok l yX6_ahead cX6_ahead 4 (some .int) 7 164 [.ref 50, .int a1] (w_X6 M) (f_X6_ahead M a1) (fun u => some (.int u.1)) (fun u => w_X6 u.2) := by
  refine q_enter (by decide +kernel) (Nat.le_of_ble_eq_true rfl) (fun t p e s m args below meth c dC dI dA A α C => ?_)
  refine r_cut (f_X6_ahead.eq_1 _ _) ?_
  show q_S p l e (q_rm 7 164) s m args below meth c 4 dC dI dA A α (MQ below (q_Q α dC dI dA A ((fun u => some (.int u.1)) t) ((fun u => w_X6 u.2) t)) args s 0 0 A) 0 0 _ t 0 [(0, .ref 50), (1, .int a1)] [] (w_X6 M)
  refine r_iload_n C 1 dX6_ahead_0 rfl ?_
  refine r_iconst C (0) dX6_ahead_1 rfl ?_
  refine r_bipush C (20) dX6_ahead_2 rfl ?_
  refine r_callS C (o_X6_within l a1 (0 : Int32) (20 : Int32)) v_X6_within m_999 [] [.int a1, .int (0 : Int32), .int (20 : Int32)] [] (fun u1 => [.int u1]) (fun u1 => [.inr (5, [.ref 51, .ref 52, .ref 53, .int (M.1 3), .ref 54, .ref 55, .ref 56, .int (M.1 7), .ref 57, .ref 58, .int (M.1 10), .int (M.1 11), .int (M.1 12), .int (M.1 13), .int (M.1 14), .int (M.1 15), .ref 59, .ref 60, .int (M.1 18), .int (M.1 19), .int (M.1 20), .ref 61, .ref 62, .ref 63, .ref 64]), .inl (0, 68, .inl (M.2 0)), .inl (0, 68, .inl (M.2 1)), .inl (0, 68, .inl (M.2 2)), .inl (0, 8, .inl (M.2 4)), .inl (0, 1053, .inl (M.2 5)), .inl (1, 972, .inl (M.2 6)), .inl (0, 1053, .inl (M.2 8)), .inl (0, 120, .inl (M.2 9)), .inl (3, 7, .inr (.inr (.inr (.inr q_kf)))), .inl (0, 360, .inl (M.2 17)), .inl (0, 4, .inl (M.2 21)), .inl (0, 4, .inl (M.2 22)), .inl (0, 160, .inl (M.2 23)), .inl (0, 40, .inl (M.2 24))]) rfl rfl rfl rfl rfl (Nat.le_of_ble_eq_true rfl) ⟨(Nat.le_of_ble_eq_true rfl), (Nat.le_of_ble_eq_true rfl)⟩ ⟨Nat.zero_le _, Nat.zero_le _⟩ dX6_ahead_4 (fun _ => rfl) (fun _ => rfl) (fun _ => rfl) (fun u1 => ?_)
  refine r_if_ne C 17 dX6_ahead_7 (by decide) (fun h7 => ?_) (fun h7 => ?_)
  · refine r_aload_n C 0 dX6_ahead_10 rfl ?_
    refine r_ldc C (-1000001) dX6_ahead_11 m_1002 ?_
    refine r_callV0 C (o_X6_finding l M (-1000001 : Int32)) v_X6_finding m_1003 [.int (-1000001 : Int32)] [] (50) (Or.inl ⟨0, 5, _, TX6, 25, rfl, rfl, rfl⟩) (fun u5 => [.int u5.1]) (fun u5 => [.inr (5, [.ref 51, .ref 52, .ref 53, .int (u5.2.1 3), .ref 54, .ref 55, .ref 56, .int (u5.2.1 7), .ref 57, .ref 58, .int (u5.2.1 10), .int (u5.2.1 11), .int (u5.2.1 12), .int (u5.2.1 13), .int (u5.2.1 14), .int (u5.2.1 15), .ref 59, .ref 60, .int (u5.2.1 18), .int (u5.2.1 19), .int (u5.2.1 20), .ref 61, .ref 62, .ref 63, .ref 64]), .inl (0, 68, .inl (u5.2.2 0)), .inl (0, 68, .inl (u5.2.2 1)), .inl (0, 68, .inl (u5.2.2 2)), .inl (0, 8, .inl (u5.2.2 4)), .inl (0, 1053, .inl (u5.2.2 5)), .inl (1, 972, .inl (u5.2.2 6)), .inl (0, 1053, .inl (u5.2.2 8)), .inl (0, 120, .inl (u5.2.2 9)), .inl (3, 7, .inr (.inr (.inr (.inr q_kf)))), .inl (0, 360, .inl (u5.2.2 17)), .inl (0, 4, .inl (u5.2.2 21)), .inl (0, 4, .inl (u5.2.2 22)), .inl (0, 160, .inl (u5.2.2 23)), .inl (0, 40, .inl (u5.2.2 24))]) rfl rfl rfl (Nat.le_of_ble_eq_true rfl) ⟨(Nat.le_of_ble_eq_true rfl), (Nat.le_of_ble_eq_true rfl)⟩ ⟨Nat.zero_le _, Nat.zero_le _⟩ dX6_ahead_13 (fun _ => rfl) (fun _ => rfl) (fun _ => rfl) (fun u5 => ?_)
    exact r_reti (x := u5.1) (rv := (fun u => some (.int u.1))) (hpE := (fun u => w_X6 u.2)) (t0 := (u5.1, u5.2)) C dX6_ahead_16 (by rfl) (by rfl) (by rfl)
  · refine r_aload_n C 0 dX6_ahead_17 rfl ?_
    refine r_callV0 C (o_X6_canPlay l M) v_X6_canPlay m_1296 [] [] (50) (Or.inl ⟨0, 5, _, TX6, 25, rfl, rfl, rfl⟩) (fun u2 => [.int u2]) (fun u2 => [.inr (5, [.ref 51, .ref 52, .ref 53, .int (M.1 3), .ref 54, .ref 55, .ref 56, .int (M.1 7), .ref 57, .ref 58, .int (M.1 10), .int (M.1 11), .int (M.1 12), .int (M.1 13), .int (M.1 14), .int (M.1 15), .ref 59, .ref 60, .int (M.1 18), .int (M.1 19), .int (M.1 20), .ref 61, .ref 62, .ref 63, .ref 64]), .inl (0, 68, .inl (M.2 0)), .inl (0, 68, .inl (M.2 1)), .inl (0, 68, .inl (M.2 2)), .inl (0, 8, .inl (M.2 4)), .inl (0, 1053, .inl (M.2 5)), .inl (1, 972, .inl (M.2 6)), .inl (0, 1053, .inl (M.2 8)), .inl (0, 120, .inl (M.2 9)), .inl (3, 7, .inr (.inr (.inr (.inr q_kf)))), .inl (0, 360, .inl (M.2 17)), .inl (0, 4, .inl (M.2 21)), .inl (0, 4, .inl (M.2 22)), .inl (0, 160, .inl (M.2 23)), .inl (0, 40, .inl (M.2 24))]) rfl rfl rfl (Nat.le_of_ble_eq_true rfl) ⟨(Nat.le_of_ble_eq_true rfl), (Nat.le_of_ble_eq_true rfl)⟩ ⟨Nat.zero_le _, Nat.zero_le _⟩ dX6_ahead_18 (fun _ => rfl) (fun _ => rfl) (fun _ => rfl) (fun u2 => ?_)
    refine r_if_ne C 31 dX6_ahead_21 (by decide) (fun h21 => ?_) (fun h21 => ?_)
    · refine r_aload_n C 0 dX6_ahead_24 rfl ?_
      refine r_ldc C (-1000005) dX6_ahead_25 m_1131 ?_
      refine r_callV0 C (o_X6_finding l M (-1000005 : Int32)) v_X6_finding m_1003 [.int (-1000005 : Int32)] [] (50) (Or.inl ⟨0, 5, _, TX6, 25, rfl, rfl, rfl⟩) (fun u4 => [.int u4.1]) (fun u4 => [.inr (5, [.ref 51, .ref 52, .ref 53, .int (u4.2.1 3), .ref 54, .ref 55, .ref 56, .int (u4.2.1 7), .ref 57, .ref 58, .int (u4.2.1 10), .int (u4.2.1 11), .int (u4.2.1 12), .int (u4.2.1 13), .int (u4.2.1 14), .int (u4.2.1 15), .ref 59, .ref 60, .int (u4.2.1 18), .int (u4.2.1 19), .int (u4.2.1 20), .ref 61, .ref 62, .ref 63, .ref 64]), .inl (0, 68, .inl (u4.2.2 0)), .inl (0, 68, .inl (u4.2.2 1)), .inl (0, 68, .inl (u4.2.2 2)), .inl (0, 8, .inl (u4.2.2 4)), .inl (0, 1053, .inl (u4.2.2 5)), .inl (1, 972, .inl (u4.2.2 6)), .inl (0, 1053, .inl (u4.2.2 8)), .inl (0, 120, .inl (u4.2.2 9)), .inl (3, 7, .inr (.inr (.inr (.inr q_kf)))), .inl (0, 360, .inl (u4.2.2 17)), .inl (0, 4, .inl (u4.2.2 21)), .inl (0, 4, .inl (u4.2.2 22)), .inl (0, 160, .inl (u4.2.2 23)), .inl (0, 40, .inl (u4.2.2 24))]) rfl rfl rfl (Nat.le_of_ble_eq_true rfl) ⟨(Nat.le_of_ble_eq_true rfl), (Nat.le_of_ble_eq_true rfl)⟩ ⟨Nat.zero_le _, Nat.zero_le _⟩ dX6_ahead_27 (fun _ => rfl) (fun _ => rfl) (fun _ => rfl) (fun u4 => ?_)
      exact r_reti (x := u4.1) (rv := (fun u => some (.int u.1))) (hpE := (fun u => w_X6 u.2)) (t0 := (u4.1, u4.2)) C dX6_ahead_30 (by rfl) (by rfl) (by rfl)
    · refine r_aload_n C 0 dX6_ahead_31 rfl ?_
      refine r_get C 0 0 dX6_ahead_32 K_X6 rfl rfl (Nat.le_of_ble_eq_true rfl) rfl m_915 rfl ?_
      refine r_aload_n C 0 dX6_ahead_35 rfl ?_
      refine r_get C 0 2 dX6_ahead_36 K_X6 rfl rfl (Nat.le_of_ble_eq_true rfl) rfl m_917 rfl ?_
      refine r_callS C (o_X6_copyRow l ((fun _ => (0 : Int32)), va_up (va_up (fun _ _ => (0 : Int32)) 0 (M.2 0)) 1 (M.2 2))) v_X6_copyRow m_1232 [1, 3] [.ref 51, .ref 53] [] (fun u3 => []) (fun u3 => [.inr (5, [.ref 51, .ref 52, .ref 53, .int (M.1 3), .ref 54, .ref 55, .ref 56, .int (M.1 7), .ref 57, .ref 58, .int (M.1 10), .int (M.1 11), .int (M.1 12), .int (M.1 13), .int (M.1 14), .int (M.1 15), .ref 59, .ref 60, .int (M.1 18), .int (M.1 19), .int (M.1 20), .ref 61, .ref 62, .ref 63, .ref 64]), .inl (0, 68, .inl (u3.2 0)), .inl (0, 68, .inl (M.2 1)), .inl (0, 68, .inl (u3.2 1)), .inl (0, 8, .inl (M.2 4)), .inl (0, 1053, .inl (M.2 5)), .inl (1, 972, .inl (M.2 6)), .inl (0, 1053, .inl (M.2 8)), .inl (0, 120, .inl (M.2 9)), .inl (3, 7, .inr (.inr (.inr (.inr q_kf)))), .inl (0, 360, .inl (M.2 17)), .inl (0, 4, .inl (M.2 21)), .inl (0, 4, .inl (M.2 22)), .inl (0, 160, .inl (M.2 23)), .inl (0, 40, .inl (M.2 24))]) rfl rfl rfl rfl rfl (Nat.le_of_ble_eq_true rfl) ⟨(Nat.le_of_ble_eq_true rfl), (Nat.le_of_ble_eq_true rfl)⟩ ⟨Nat.zero_le _, Nat.zero_le _⟩ dX6_ahead_39 (fun _ => rfl) (fun _ => rfl) (fun _ => rfl) (fun u3 => ?_)
      refine r_iconst C (0) dX6_ahead_42 rfl ?_
      refine r_istore_n C [(2, .int (0 : Int32)), (0, .ref 50), (1, .int a1)] dX6_ahead_43 (Nat.le_of_ble_eq_true rfl) rfl ?_
      refine r_iconst C (0) dX6_ahead_44 rfl ?_
      refine r_istore_n C [(3, .int (0 : Int32)), (2, .int (0 : Int32)), (0, .ref 50), (1, .int a1)] dX6_ahead_45 (Nat.le_of_ble_eq_true rfl) rfl ?_
      refine r_lv [(0, .ref 50), (1, .int a1), (2, .int (0 : Int32)), (3, .int (0 : Int32))] [2, 3, 1, 0] rfl ?_
      exact k_X6_ahead_46 C M a1   q_N a1 (0 : Int32) (0 : Int32) (M.1, (va_up (va_up M.2 0 (u3.2 0)) 2 (u3.2 1)))
set_option maxRecDepth 100000 in
set_option maxHeartbeats 4000000 in
theorem o_X6_seed (l : Launch) (M : q_St) (a1 : Int32) : q_Ok l yX6_seed cX6_seed 2 (some .int) 1 23 [.ref 50, .int a1] (w_X6 M) (f_X6_seed M a1) (fun u => some (.int u.1)) (fun u => w_X6 u.2) := by
  refine q_enter (by decide +kernel) (Nat.le_of_ble_eq_true rfl) (fun t p e s m args below meth c dC dI dA A α C => ?_)
  refine r_cut (f_X6_seed.eq_1 _ _) ?_
  show q_S p l e (q_rm 1 23) s m args below meth c 2 dC dI dA A α (MQ below (q_Q α dC dI dA A ((fun u => some (.int u.1)) t) ((fun u => w_X6 u.2) t)) args s 0 0 A) 0 0 _ t 0 [(0, .ref 50), (1, .int a1)] [] (w_X6 M)
  refine r_aload_n C 0 dX6_seed_0 rfl ?_
  refine r_bipush C (9) dX6_seed_1 rfl ?_
  refine r_iload_n C 1 dX6_seed_3 rfl ?_
  refine r_callV0 C (o_X6_become l M (9 : Int32) a1) v_X6_become m_1050 [.int (9 : Int32), .int a1] [] (50) (Or.inl ⟨0, 5, _, TX6, 25, rfl, rfl, rfl⟩) (fun u1 => [.int u1.1]) (fun u1 => [.inr (5, [.ref 51, .ref 52, .ref 53, .int (u1.2.1 3), .ref 54, .ref 55, .ref 56, .int (u1.2.1 7), .ref 57, .ref 58, .int (u1.2.1 10), .int (u1.2.1 11), .int (u1.2.1 12), .int (u1.2.1 13), .int (u1.2.1 14), .int (u1.2.1 15), .ref 59, .ref 60, .int (u1.2.1 18), .int (u1.2.1 19), .int (u1.2.1 20), .ref 61, .ref 62, .ref 63, .ref 64]), .inl (0, 68, .inl (u1.2.2 0)), .inl (0, 68, .inl (u1.2.2 1)), .inl (0, 68, .inl (u1.2.2 2)), .inl (0, 8, .inl (u1.2.2 4)), .inl (0, 1053, .inl (u1.2.2 5)), .inl (1, 972, .inl (u1.2.2 6)), .inl (0, 1053, .inl (u1.2.2 8)), .inl (0, 120, .inl (u1.2.2 9)), .inl (3, 7, .inr (.inr (.inr (.inr q_kf)))), .inl (0, 360, .inl (u1.2.2 17)), .inl (0, 4, .inl (u1.2.2 21)), .inl (0, 4, .inl (u1.2.2 22)), .inl (0, 160, .inl (u1.2.2 23)), .inl (0, 40, .inl (u1.2.2 24))]) rfl rfl rfl (Nat.le_of_ble_eq_true rfl) ⟨(Nat.le_of_ble_eq_true rfl), (Nat.le_of_ble_eq_true rfl)⟩ ⟨Nat.zero_le _, Nat.zero_le _⟩ dX6_seed_4 (fun _ => rfl) (fun _ => rfl) (fun _ => rfl) (fun u1 => ?_)
  exact r_reti (x := u1.1) (rv := (fun u => some (.int u.1))) (hpE := (fun u => w_X6 u.2)) (t0 := (u1.1, u1.2)) C dX6_seed_7 (by rfl) (by rfl) (by rfl)
set_option maxRecDepth 100000 in
set_option maxHeartbeats 4000000 in
theorem k_X6_feed_38 {p : Program} {l : Launch} {e : Env} {s : State} {m : MethodId} {args : Array Value} {below : List Frame} {meth : Method} {c : Code} {dC : Nat → ClassId} {dI : Nat → Nat → Nat} {dA : Nat → ClassId} {A : Nat → Prop} {α : Nat → Nat} {t : Int32 × q_St} (C : q_Cx p s m args meth c cX6_feed 4 RX6 (some .int) "feed" dC dI dA A α) (M : q_St) (a1 : Int32) (a2 : Int32)  : ∀ (n : Nat) (x1 : Int32) (x3 : Int32) (M' : q_St), q_S p l e (q_rm 1 22) s m args below meth c 4 dC dI dA A α (MQ below (q_Q α dC dI dA A ((fun u => some (.int u.1)) t) ((fun u => w_X6 u.2) t)) args s 0 0 A) 0 0 (f_X6_feed_38 M a1 a2  n x1 x3 M') t 38 [(0, .ref 50), (1, .int x1), (3, .int x3)] [] (w_X6 M') := by
  intro n
  induction n with
  | zero =>
    intro x1 x3 M'
    exact r_cut (f_X6_feed_38.eq_1 _ _ _ _ _ _) (r_none True.intro)
  | succ n ih =>
    intro x1 x3 M'
    refine r_cut (f_X6_feed_38.eq_2 _ _ _ _ _ _ _) ?_
    refine r_iload_n C 2 dX6_feed_38 rfl ?_
    refine r_if_lt C 77 dX6_feed_39 (by decide) (fun h39 => ?_) (fun h39 => ?_)
    · refine r_aload_n C 0 dX6_feed_77 rfl ?_
      refine r_get C 0 10 dX6_feed_78 K_X6 rfl rfl (Nat.le_of_ble_eq_true rfl) rfl m_925 rfl ?_
      exact r_reti (x := M'.1 10) (rv := (fun u => some (.int u.1))) (hpE := (fun u => w_X6 u.2)) (t0 := (M'.1 10, M')) C dX6_feed_81 (by rfl) (by rfl) (by rfl)
    · refine r_aload_n C 0 dX6_feed_42 rfl ?_
      refine r_get C 0 9 dX6_feed_43 K_X6 rfl rfl (Nat.le_of_ble_eq_true rfl) rfl m_924 rfl ?_
      refine r_aload_n C 0 dX6_feed_46 rfl ?_
      refine r_get C 0 10 dX6_feed_47 K_X6 rfl rfl (Nat.le_of_ble_eq_true rfl) rfl m_925 rfl ?_
      refine r_iload_n C 1 dX6_feed_50 rfl ?_
      refine r_bipush C (8) dX6_feed_51 rfl ?_
      refine r_iload_n C 2 dX6_feed_53 rfl ?_
      refine r_imul C dX6_feed_54 ?_
      refine r_ishr C dX6_feed_55 ?_
      refine r_sipush C (255) dX6_feed_56 rfl ?_
      refine r_iand C dX6_feed_59 ?_
      refine r_iast C 8 _ dX6_feed_60 rfl rfl rfl (fun hi60 => ?_)
      refine r_aload_n C 0 dX6_feed_61 rfl ?_
      refine r_dup C dX6_feed_62 rfl ?_
      refine r_get C 0 10 dX6_feed_63 K_X6 rfl rfl (Nat.le_of_ble_eq_true rfl) rfl m_925 rfl ?_
      refine r_iconst C (1) dX6_feed_66 rfl ?_
      refine r_iadd C dX6_feed_67 ?_
      refine r_put C 0 10 _ dX6_feed_68 K_X6 rfl rfl (Nat.le_of_ble_eq_true rfl) rfl m_925 rfl (fun _ => rfl) (fun _ => rfl) (Nat.le_of_ble_eq_true rfl) rfl ?_
      refine r_iinc C 2 (x3 + (-1)) [(3, .int (x3 + (-1))), (0, .ref 50), (1, .int x1)] dX6_feed_71 rfl rfl (Nat.le_of_ble_eq_true rfl) rfl ?_
      refine r_goto C 38 dX6_feed_74 (by decide) ?_
      refine r_lv [(0, .ref 50), (1, .int x1), (3, .int (x3 + (-1)))] [1, 2, 0] rfl ?_
      exact ih x1 (x3 + (-1)) ((va_up M'.1 10 (M'.1 10 + (1 : Int32))), (va_up M'.2 9 (upd (M'.2 9) (M'.1 10).toNatClampNeg ((x1 >>> (((8 : Int32) * x3) &&& 31)) &&& (255 : Int32)))))
set_option maxRecDepth 100000 in
set_option maxHeartbeats 4000000 in
theorem o_X6_feed (l : Launch) (M : q_St) (a1 : Int32) (a2 : Int32) : q_Ok l yX6_feed cX6_feed 4 (some .int) 1 22 [.ref 50, .int a1, .int a2] (w_X6 M) (f_X6_feed M a1 a2) (fun u => some (.int u.1)) (fun u => w_X6 u.2) := by
  refine q_enter (by decide +kernel) (Nat.le_of_ble_eq_true rfl) (fun t p e s m args below meth c dC dI dA A α C => ?_)
  refine r_cut (f_X6_feed.eq_1 _ _ _) ?_
  show q_S p l e (q_rm 1 22) s m args below meth c 4 dC dI dA A α (MQ below (q_Q α dC dI dA A ((fun u => some (.int u.1)) t) ((fun u => w_X6 u.2) t)) args s 0 0 A) 0 0 _ t 0 [(0, .ref 50), (1, .int a1), (2, .int a2)] [] (w_X6 M)
  refine r_iload_n C 2 dX6_feed_0 rfl ?_
  refine r_iconst C (1) dX6_feed_1 rfl ?_
  refine r_iconst C (4) dX6_feed_2 rfl ?_
  refine r_callS C (o_X6_within l a2 (1 : Int32) (4 : Int32)) v_X6_within m_999 [] [.int a2, .int (1 : Int32), .int (4 : Int32)] [] (fun u1 => [.int u1]) (fun u1 => [.inr (5, [.ref 51, .ref 52, .ref 53, .int (M.1 3), .ref 54, .ref 55, .ref 56, .int (M.1 7), .ref 57, .ref 58, .int (M.1 10), .int (M.1 11), .int (M.1 12), .int (M.1 13), .int (M.1 14), .int (M.1 15), .ref 59, .ref 60, .int (M.1 18), .int (M.1 19), .int (M.1 20), .ref 61, .ref 62, .ref 63, .ref 64]), .inl (0, 68, .inl (M.2 0)), .inl (0, 68, .inl (M.2 1)), .inl (0, 68, .inl (M.2 2)), .inl (0, 8, .inl (M.2 4)), .inl (0, 1053, .inl (M.2 5)), .inl (1, 972, .inl (M.2 6)), .inl (0, 1053, .inl (M.2 8)), .inl (0, 120, .inl (M.2 9)), .inl (3, 7, .inr (.inr (.inr (.inr q_kf)))), .inl (0, 360, .inl (M.2 17)), .inl (0, 4, .inl (M.2 21)), .inl (0, 4, .inl (M.2 22)), .inl (0, 160, .inl (M.2 23)), .inl (0, 40, .inl (M.2 24))]) rfl rfl rfl rfl rfl (Nat.le_of_ble_eq_true rfl) ⟨(Nat.le_of_ble_eq_true rfl), (Nat.le_of_ble_eq_true rfl)⟩ ⟨Nat.zero_le _, Nat.zero_le _⟩ dX6_feed_3 (fun _ => rfl) (fun _ => rfl) (fun _ => rfl) (fun u1 => ?_)
  refine r_if_ne C 16 dX6_feed_6 (by decide) (fun h6 => ?_) (fun h6 => ?_)
  · refine r_aload_n C 0 dX6_feed_9 rfl ?_
    refine r_ldc C (-1000001) dX6_feed_10 m_1002 ?_
    refine r_callV0 C (o_X6_finding l M (-1000001 : Int32)) v_X6_finding m_1003 [.int (-1000001 : Int32)] [] (50) (Or.inl ⟨0, 5, _, TX6, 25, rfl, rfl, rfl⟩) (fun u3 => [.int u3.1]) (fun u3 => [.inr (5, [.ref 51, .ref 52, .ref 53, .int (u3.2.1 3), .ref 54, .ref 55, .ref 56, .int (u3.2.1 7), .ref 57, .ref 58, .int (u3.2.1 10), .int (u3.2.1 11), .int (u3.2.1 12), .int (u3.2.1 13), .int (u3.2.1 14), .int (u3.2.1 15), .ref 59, .ref 60, .int (u3.2.1 18), .int (u3.2.1 19), .int (u3.2.1 20), .ref 61, .ref 62, .ref 63, .ref 64]), .inl (0, 68, .inl (u3.2.2 0)), .inl (0, 68, .inl (u3.2.2 1)), .inl (0, 68, .inl (u3.2.2 2)), .inl (0, 8, .inl (u3.2.2 4)), .inl (0, 1053, .inl (u3.2.2 5)), .inl (1, 972, .inl (u3.2.2 6)), .inl (0, 1053, .inl (u3.2.2 8)), .inl (0, 120, .inl (u3.2.2 9)), .inl (3, 7, .inr (.inr (.inr (.inr q_kf)))), .inl (0, 360, .inl (u3.2.2 17)), .inl (0, 4, .inl (u3.2.2 21)), .inl (0, 4, .inl (u3.2.2 22)), .inl (0, 160, .inl (u3.2.2 23)), .inl (0, 40, .inl (u3.2.2 24))]) rfl rfl rfl (Nat.le_of_ble_eq_true rfl) ⟨(Nat.le_of_ble_eq_true rfl), (Nat.le_of_ble_eq_true rfl)⟩ ⟨Nat.zero_le _, Nat.zero_le _⟩ dX6_feed_12 (fun _ => rfl) (fun _ => rfl) (fun _ => rfl) (fun u3 => ?_)
    exact r_reti (x := u3.1) (rv := (fun u => some (.int u.1))) (hpE := (fun u => w_X6 u.2)) (t0 := (u3.1, u3.2)) C dX6_feed_15 (by rfl) (by rfl) (by rfl)
  · refine r_aload_n C 0 dX6_feed_16 rfl ?_
    refine r_get C 0 10 dX6_feed_17 K_X6 rfl rfl (Nat.le_of_ble_eq_true rfl) rfl m_925 rfl ?_
    refine r_iload_n C 2 dX6_feed_20 rfl ?_
    refine r_iadd C dX6_feed_21 ?_
    refine r_bipush C (120) dX6_feed_22 rfl ?_
    refine r_icmp_le C 34 dX6_feed_24 (by decide) (fun h24 => ?_) (fun h24 => ?_)
    · refine r_iload_n C 2 dX6_feed_34 rfl ?_
      refine r_iconst C (1) dX6_feed_35 rfl ?_
      refine r_isub C dX6_feed_36 ?_
      refine r_istore_n C [(3, .int (a2 - (1 : Int32))), (0, .ref 50), (1, .int a1), (2, .int a2)] dX6_feed_37 (Nat.le_of_ble_eq_true rfl) rfl ?_
      refine r_lv [(0, .ref 50), (1, .int a1), (3, .int (a2 - (1 : Int32)))] [1, 2, 0] rfl ?_
      exact k_X6_feed_38 C M a1 a2   q_N a1 (a2 - (1 : Int32)) M
    · refine r_aload_n C 0 dX6_feed_27 rfl ?_
      refine r_ldc C (-1000002) dX6_feed_28 m_1007 ?_
      refine r_callV0 C (o_X6_finding l M (-1000002 : Int32)) v_X6_finding m_1003 [.int (-1000002 : Int32)] [] (50) (Or.inl ⟨0, 5, _, TX6, 25, rfl, rfl, rfl⟩) (fun u2 => [.int u2.1]) (fun u2 => [.inr (5, [.ref 51, .ref 52, .ref 53, .int (u2.2.1 3), .ref 54, .ref 55, .ref 56, .int (u2.2.1 7), .ref 57, .ref 58, .int (u2.2.1 10), .int (u2.2.1 11), .int (u2.2.1 12), .int (u2.2.1 13), .int (u2.2.1 14), .int (u2.2.1 15), .ref 59, .ref 60, .int (u2.2.1 18), .int (u2.2.1 19), .int (u2.2.1 20), .ref 61, .ref 62, .ref 63, .ref 64]), .inl (0, 68, .inl (u2.2.2 0)), .inl (0, 68, .inl (u2.2.2 1)), .inl (0, 68, .inl (u2.2.2 2)), .inl (0, 8, .inl (u2.2.2 4)), .inl (0, 1053, .inl (u2.2.2 5)), .inl (1, 972, .inl (u2.2.2 6)), .inl (0, 1053, .inl (u2.2.2 8)), .inl (0, 120, .inl (u2.2.2 9)), .inl (3, 7, .inr (.inr (.inr (.inr q_kf)))), .inl (0, 360, .inl (u2.2.2 17)), .inl (0, 4, .inl (u2.2.2 21)), .inl (0, 4, .inl (u2.2.2 22)), .inl (0, 160, .inl (u2.2.2 23)), .inl (0, 40, .inl (u2.2.2 24))]) rfl rfl rfl (Nat.le_of_ble_eq_true rfl) ⟨(Nat.le_of_ble_eq_true rfl), (Nat.le_of_ble_eq_true rfl)⟩ ⟨Nat.zero_le _, Nat.zero_le _⟩ dX6_feed_30 (fun _ => rfl) (fun _ => rfl) (fun _ => rfl) (fun u2 => ?_)
      exact r_reti (x := u2.1) (rv := (fun u => some (.int u.1))) (hpE := (fun u => w_X6 u.2)) (t0 := (u2.1, u2.2)) C dX6_feed_33 (by rfl) (by rfl) (by rfl)
set_option maxRecDepth 100000 in
set_option maxHeartbeats 4000000 in
theorem o_X6_wipe (l : Launch) (M : q_St) : q_Ok l yX6_wipe cX6_wipe 2 (some .int) 0 0 [.ref 50] (w_X6 M) (f_X6_wipe M) (fun u => some (.int u.1)) (fun u => w_X6 u.2) := by
  refine q_enter (by decide +kernel) (Nat.le_of_ble_eq_true rfl) (fun t p e s m args below meth c dC dI dA A α C => ?_)
  refine r_cut (f_X6_wipe.eq_1 _) ?_
  show q_S p l e (q_rm 0 0) s m args below meth c 2 dC dI dA A α (MQ below (q_Q α dC dI dA A ((fun u => some (.int u.1)) t) ((fun u => w_X6 u.2) t)) args s 0 0 A) 0 0 _ t 0 [(0, .ref 50)] [] (w_X6 M)
  refine r_aload_n C 0 dX6_wipe_0 rfl ?_
  refine r_get C 0 10 dX6_wipe_1 K_X6 rfl rfl (Nat.le_of_ble_eq_true rfl) rfl m_925 rfl ?_
  refine r_istore_n C [(1, .int (M.1 10)), (0, .ref 50)] dX6_wipe_4 (Nat.le_of_ble_eq_true rfl) rfl ?_
  refine r_aload_n C 1 dX6_wipe_5 rfl ?_
  refine r_iconst C (0) dX6_wipe_6 rfl ?_
  refine r_put C 0 10 _ dX6_wipe_7 K_X6 rfl rfl (Nat.le_of_ble_eq_true rfl) rfl m_925 rfl (fun _ => rfl) (fun _ => rfl) (Nat.le_of_ble_eq_true rfl) rfl ?_
  refine r_iload_n C 0 dX6_wipe_10 rfl ?_
  exact r_reti (x := M.1 10) (rv := (fun u => some (.int u.1))) (hpE := (fun u => w_X6 u.2)) (t0 := (M.1 10, ((va_up M.1 10 (0 : Int32)), M.2))) C dX6_wipe_11 (by rfl) (by rfl) (by rfl)
set_option maxRecDepth 100000 in
set_option maxHeartbeats 4000000 in
theorem o_X6_byteAt (l : Launch) (M : q_St) (a1 : Int32) : q_Ok l yX6_byteAt cX6_byteAt 2 (some .int) 0 0 [.ref 50, .int a1] (w_X6 M) (f_X6_byteAt M a1) (fun u => some (.int u)) (fun u => w_X6 M) := by
  refine q_enter (by decide +kernel) (Nat.le_of_ble_eq_true rfl) (fun t p e s m args below meth c dC dI dA A α C => ?_)
  refine r_cut (f_X6_byteAt.eq_1 _ _) ?_
  show q_S p l e (q_rm 0 0) s m args below meth c 2 dC dI dA A α (MQ below (q_Q α dC dI dA A ((fun u => some (.int u)) t) ((fun u => w_X6 M) t)) args s 0 0 A) 0 0 _ t 0 [(0, .ref 50), (1, .int a1)] [] (w_X6 M)
  refine r_iload_n C 1 dX6_byteAt_0 rfl ?_
  refine r_aload_n C 0 dX6_byteAt_1 rfl ?_
  refine r_get C 0 10 dX6_byteAt_2 K_X6 rfl rfl (Nat.le_of_ble_eq_true rfl) rfl m_925 rfl ?_
  refine r_icmp_ge C 17 dX6_byteAt_5 (by decide) (fun h5 => ?_) (fun h5 => ?_)
  · refine r_iconst C (-1) dX6_byteAt_17 rfl ?_
    exact r_reti (x := (-1 : Int32)) (rv := (fun u => some (.int u))) (hpE := (fun u => w_X6 M)) (t0 := (-1 : Int32)) C dX6_byteAt_18 (by rfl) (by rfl) (by rfl)
  · refine r_aload_n C 0 dX6_byteAt_8 rfl ?_
    refine r_get C 0 9 dX6_byteAt_9 K_X6 rfl rfl (Nat.le_of_ble_eq_true rfl) rfl m_924 rfl ?_
    refine r_iload_n C 1 dX6_byteAt_12 rfl ?_
    refine r_iald C 8 dX6_byteAt_13 rfl rfl (fun hi13 => ?_)
    refine r_goto C 18 dX6_byteAt_14 (by decide) ?_
    exact r_reti (x := (M.2 9 a1.toNatClampNeg)) (rv := (fun u => some (.int u))) (hpE := (fun u => w_X6 M)) (t0 := (M.2 9 a1.toNatClampNeg)) C dX6_byteAt_18 (by rfl) (by rfl) (by rfl)
set_option maxRecDepth 100000 in
set_option maxHeartbeats 4000000 in
theorem k_X6_next_131 {p : Program} {l : Launch} {e : Env} {s : State} {m : MethodId} {args : Array Value} {below : List Frame} {meth : Method} {c : Code} {dC : Nat → ClassId} {dI : Nat → Nat → Nat} {dA : Nat → ClassId} {A : Nat → Prop} {α : Nat → Nat} {t : q_St} (C : q_Cx p s m args meth c cX6_next 2 RX6 none "next" dC dI dA A α) (M : q_St)  : ∀ (n : Nat) (M' : q_St), q_S p l e (q_rm 1 30) s m args below meth c 2 dC dI dA A α (MQ below (q_Q α dC dI dA A ((fun _ => none) t) ((fun u => w_X6 u) t)) args s 0 0 A) 0 0 (f_X6_next_131 M  n M') t 131 [(0, .ref 50)] [] (w_X6 M') := by
  intro n
  induction n with
  | zero =>
    intro M'
    exact r_cut (f_X6_next_131.eq_1 _ _) (r_none True.intro)
  | succ n ih =>
    intro M'
    refine r_cut (f_X6_next_131.eq_2 _ _ _) ?_
    refine r_aload_n C 0 dX6_next_131 rfl ?_
    refine r_aload_n C 0 dX6_next_132 rfl ?_
    refine r_get C 0 12 dX6_next_133 K_X6 rfl rfl (Nat.le_of_ble_eq_true rfl) rfl m_927 rfl ?_
    refine r_callV0 C (o_X6_byteAt l M' (M'.1 12)) v_X6_byteAt m_1337 [.int (M'.1 12)] [] (50) (Or.inl ⟨0, 5, _, TX6, 25, rfl, rfl, rfl⟩) (fun u5 => [.int u5]) (fun u5 => [.inr (5, [.ref 51, .ref 52, .ref 53, .int (M'.1 3), .ref 54, .ref 55, .ref 56, .int (M'.1 7), .ref 57, .ref 58, .int (M'.1 10), .int (M'.1 11), .int (M'.1 12), .int (M'.1 13), .int (M'.1 14), .int (M'.1 15), .ref 59, .ref 60, .int (M'.1 18), .int (M'.1 19), .int (M'.1 20), .ref 61, .ref 62, .ref 63, .ref 64]), .inl (0, 68, .inl (M'.2 0)), .inl (0, 68, .inl (M'.2 1)), .inl (0, 68, .inl (M'.2 2)), .inl (0, 8, .inl (M'.2 4)), .inl (0, 1053, .inl (M'.2 5)), .inl (1, 972, .inl (M'.2 6)), .inl (0, 1053, .inl (M'.2 8)), .inl (0, 120, .inl (M'.2 9)), .inl (3, 7, .inr (.inr (.inr (.inr q_kf)))), .inl (0, 360, .inl (M'.2 17)), .inl (0, 4, .inl (M'.2 21)), .inl (0, 4, .inl (M'.2 22)), .inl (0, 160, .inl (M'.2 23)), .inl (0, 40, .inl (M'.2 24))]) rfl rfl rfl (Nat.le_of_ble_eq_true rfl) ⟨(Nat.le_of_ble_eq_true rfl), (Nat.le_of_ble_eq_true rfl)⟩ ⟨Nat.zero_le _, Nat.zero_le _⟩ dX6_next_136 (fun _ => rfl) (fun _ => rfl) (fun _ => rfl) (fun u5 => ?_)
    refine r_bipush C (48) dX6_next_139 rfl ?_
    refine r_bipush C (57) dX6_next_141 rfl ?_
    refine r_callS C (o_X6_within l u5 (48 : Int32) (57 : Int32)) v_X6_within m_999 [] [.int u5, .int (48 : Int32), .int (57 : Int32)] [] (fun u6 => [.int u6]) (fun u6 => [.inr (5, [.ref 51, .ref 52, .ref 53, .int (M'.1 3), .ref 54, .ref 55, .ref 56, .int (M'.1 7), .ref 57, .ref 58, .int (M'.1 10), .int (M'.1 11), .int (M'.1 12), .int (M'.1 13), .int (M'.1 14), .int (M'.1 15), .ref 59, .ref 60, .int (M'.1 18), .int (M'.1 19), .int (M'.1 20), .ref 61, .ref 62, .ref 63, .ref 64]), .inl (0, 68, .inl (M'.2 0)), .inl (0, 68, .inl (M'.2 1)), .inl (0, 68, .inl (M'.2 2)), .inl (0, 8, .inl (M'.2 4)), .inl (0, 1053, .inl (M'.2 5)), .inl (1, 972, .inl (M'.2 6)), .inl (0, 1053, .inl (M'.2 8)), .inl (0, 120, .inl (M'.2 9)), .inl (3, 7, .inr (.inr (.inr (.inr q_kf)))), .inl (0, 360, .inl (M'.2 17)), .inl (0, 4, .inl (M'.2 21)), .inl (0, 4, .inl (M'.2 22)), .inl (0, 160, .inl (M'.2 23)), .inl (0, 40, .inl (M'.2 24))]) rfl rfl rfl rfl rfl (Nat.le_of_ble_eq_true rfl) ⟨(Nat.le_of_ble_eq_true rfl), (Nat.le_of_ble_eq_true rfl)⟩ ⟨Nat.zero_le _, Nat.zero_le _⟩ dX6_next_143 (fun _ => rfl) (fun _ => rfl) (fun _ => rfl) (fun u6 => ?_)
    refine r_if_eq C 206 dX6_next_146 (by decide) (fun h146 => ?_) (fun h146 => ?_)
    · exact r_retv (rv := (fun _ => none)) (hpE := (fun u => w_X6 u)) (t0 := M') C dX6_next_206 (by rfl) (by rfl) (by rfl)
    · refine r_aload_n C 0 dX6_next_149 rfl ?_
      refine r_sipush C (1000) dX6_next_150 rfl ?_
      refine r_bipush C (10) dX6_next_153 rfl ?_
      refine r_aload_n C 0 dX6_next_155 rfl ?_
      refine r_get C 0 14 dX6_next_156 K_X6 rfl rfl (Nat.le_of_ble_eq_true rfl) rfl m_929 rfl ?_
      refine r_imul C dX6_next_159 ?_
      refine r_aload_n C 0 dX6_next_160 rfl ?_
      refine r_aload_n C 0 dX6_next_161 rfl ?_
      refine r_get C 0 12 dX6_next_162 K_X6 rfl rfl (Nat.le_of_ble_eq_true rfl) rfl m_927 rfl ?_
      refine r_callV0 C (o_X6_byteAt l M' (M'.1 12)) v_X6_byteAt m_1337 [.int (M'.1 12)] [.int ((10 : Int32) * M'.1 14), .int (1000 : Int32), .ref 50] (50) (Or.inl ⟨0, 5, _, TX6, 25, rfl, rfl, rfl⟩) (fun u7 => [.int u7, .int ((10 : Int32) * M'.1 14), .int (1000 : Int32), .ref 50]) (fun u7 => [.inr (5, [.ref 51, .ref 52, .ref 53, .int (M'.1 3), .ref 54, .ref 55, .ref 56, .int (M'.1 7), .ref 57, .ref 58, .int (M'.1 10), .int (M'.1 11), .int (M'.1 12), .int (M'.1 13), .int (M'.1 14), .int (M'.1 15), .ref 59, .ref 60, .int (M'.1 18), .int (M'.1 19), .int (M'.1 20), .ref 61, .ref 62, .ref 63, .ref 64]), .inl (0, 68, .inl (M'.2 0)), .inl (0, 68, .inl (M'.2 1)), .inl (0, 68, .inl (M'.2 2)), .inl (0, 8, .inl (M'.2 4)), .inl (0, 1053, .inl (M'.2 5)), .inl (1, 972, .inl (M'.2 6)), .inl (0, 1053, .inl (M'.2 8)), .inl (0, 120, .inl (M'.2 9)), .inl (3, 7, .inr (.inr (.inr (.inr q_kf)))), .inl (0, 360, .inl (M'.2 17)), .inl (0, 4, .inl (M'.2 21)), .inl (0, 4, .inl (M'.2 22)), .inl (0, 160, .inl (M'.2 23)), .inl (0, 40, .inl (M'.2 24))]) rfl rfl rfl (Nat.le_of_ble_eq_true rfl) ⟨(Nat.le_of_ble_eq_true rfl), (Nat.le_of_ble_eq_true rfl)⟩ ⟨Nat.zero_le _, Nat.zero_le _⟩ dX6_next_165 (fun _ => rfl) (fun _ => rfl) (fun _ => rfl) (fun u7 => ?_)
      refine r_iadd C dX6_next_168 ?_
      refine r_bipush C (48) dX6_next_169 rfl ?_
      refine r_isub C dX6_next_171 ?_
      refine r_mmin C dX6_next_172 m_1190 m_465 m_8 m_466 (Nat.le_of_ble_eq_true rfl) (Nat.le_of_ble_eq_true rfl) (Nat.zero_le _) (Nat.zero_le _) ?_
      refine r_put C 0 14 _ dX6_next_175 K_X6 rfl rfl (Nat.le_of_ble_eq_true rfl) rfl m_929 rfl (fun _ => rfl) (fun _ => rfl) (Nat.le_of_ble_eq_true rfl) rfl ?_
      refine r_aload_n C 0 dX6_next_178 rfl ?_
      refine r_dup C dX6_next_179 rfl ?_
      refine r_get C 0 12 dX6_next_180 K_X6 rfl rfl (Nat.le_of_ble_eq_true rfl) rfl m_927 rfl ?_
      refine r_iconst C (1) dX6_next_183 rfl ?_
      refine r_iadd C dX6_next_184 ?_
      refine r_put C 0 12 _ dX6_next_185 K_X6 rfl rfl (Nat.le_of_ble_eq_true rfl) rfl m_927 rfl (fun _ => rfl) (fun _ => rfl) (Nat.le_of_ble_eq_true rfl) rfl ?_
      refine r_goto C 131 dX6_next_188 (by decide) ?_
      exact ih ((va_up (va_up M'.1 12 (M'.1 12 + (1 : Int32))) 14 (if ((((10 : Int32) * M'.1 14) + u7) - (48 : Int32)) < (1000 : Int32) then ((((10 : Int32) * M'.1 14) + u7) - (48 : Int32)) else (1000 : Int32))), M'.2)
set_option maxRecDepth 100000 in
set_option maxHeartbeats 4000000 in
theorem k_X6_next_84 {p : Program} {l : Launch} {e : Env} {s : State} {m : MethodId} {args : Array Value} {below : List Frame} {meth : Method} {c : Code} {dC : Nat → ClassId} {dI : Nat → Nat → Nat} {dA : Nat → ClassId} {A : Nat → Prop} {α : Nat → Nat} {t : q_St} (C : q_Cx p s m args meth c cX6_next 2 RX6 none "next" dC dI dA A α) (M : q_St)  : ∀ (n : Nat) (M' : q_St), q_S p l e (q_rm 1 30) s m args below meth c 2 dC dI dA A α (MQ below (q_Q α dC dI dA A ((fun _ => none) t) ((fun u => w_X6 u) t)) args s 0 0 A) 0 0 (f_X6_next_84 M  n M') t 84 [(0, .ref 50)] [] (w_X6 M') := by
  intro n
  induction n with
  | zero =>
    intro M'
    exact r_cut (f_X6_next_84.eq_1 _ _) (r_none True.intro)
  | succ n ih =>
    intro M'
    refine r_cut (f_X6_next_84.eq_2 _ _ _) ?_
    refine r_aload_n C 0 dX6_next_84 rfl ?_
    refine r_aload_n C 0 dX6_next_85 rfl ?_
    refine r_get C 0 12 dX6_next_86 K_X6 rfl rfl (Nat.le_of_ble_eq_true rfl) rfl m_927 rfl ?_
    refine r_callV0 C (o_X6_byteAt l M' (M'.1 12)) v_X6_byteAt m_1337 [.int (M'.1 12)] [] (50) (Or.inl ⟨0, 5, _, TX6, 25, rfl, rfl, rfl⟩) (fun u8 => [.int u8]) (fun u8 => [.inr (5, [.ref 51, .ref 52, .ref 53, .int (M'.1 3), .ref 54, .ref 55, .ref 56, .int (M'.1 7), .ref 57, .ref 58, .int (M'.1 10), .int (M'.1 11), .int (M'.1 12), .int (M'.1 13), .int (M'.1 14), .int (M'.1 15), .ref 59, .ref 60, .int (M'.1 18), .int (M'.1 19), .int (M'.1 20), .ref 61, .ref 62, .ref 63, .ref 64]), .inl (0, 68, .inl (M'.2 0)), .inl (0, 68, .inl (M'.2 1)), .inl (0, 68, .inl (M'.2 2)), .inl (0, 8, .inl (M'.2 4)), .inl (0, 1053, .inl (M'.2 5)), .inl (1, 972, .inl (M'.2 6)), .inl (0, 1053, .inl (M'.2 8)), .inl (0, 120, .inl (M'.2 9)), .inl (3, 7, .inr (.inr (.inr (.inr q_kf)))), .inl (0, 360, .inl (M'.2 17)), .inl (0, 4, .inl (M'.2 21)), .inl (0, 4, .inl (M'.2 22)), .inl (0, 160, .inl (M'.2 23)), .inl (0, 40, .inl (M'.2 24))]) rfl rfl rfl (Nat.le_of_ble_eq_true rfl) ⟨(Nat.le_of_ble_eq_true rfl), (Nat.le_of_ble_eq_true rfl)⟩ ⟨Nat.zero_le _, Nat.zero_le _⟩ dX6_next_89 (fun _ => rfl) (fun _ => rfl) (fun _ => rfl) (fun u8 => ?_)
    refine r_bipush C (97) dX6_next_92 rfl ?_
    refine r_bipush C (122) dX6_next_94 rfl ?_
    refine r_callS C (o_X6_within l u8 (97 : Int32) (122 : Int32)) v_X6_within m_999 [] [.int u8, .int (97 : Int32), .int (122 : Int32)] [] (fun u9 => [.int u9]) (fun u9 => [.inr (5, [.ref 51, .ref 52, .ref 53, .int (M'.1 3), .ref 54, .ref 55, .ref 56, .int (M'.1 7), .ref 57, .ref 58, .int (M'.1 10), .int (M'.1 11), .int (M'.1 12), .int (M'.1 13), .int (M'.1 14), .int (M'.1 15), .ref 59, .ref 60, .int (M'.1 18), .int (M'.1 19), .int (M'.1 20), .ref 61, .ref 62, .ref 63, .ref 64]), .inl (0, 68, .inl (M'.2 0)), .inl (0, 68, .inl (M'.2 1)), .inl (0, 68, .inl (M'.2 2)), .inl (0, 8, .inl (M'.2 4)), .inl (0, 1053, .inl (M'.2 5)), .inl (1, 972, .inl (M'.2 6)), .inl (0, 1053, .inl (M'.2 8)), .inl (0, 120, .inl (M'.2 9)), .inl (3, 7, .inr (.inr (.inr (.inr q_kf)))), .inl (0, 360, .inl (M'.2 17)), .inl (0, 4, .inl (M'.2 21)), .inl (0, 4, .inl (M'.2 22)), .inl (0, 160, .inl (M'.2 23)), .inl (0, 40, .inl (M'.2 24))]) rfl rfl rfl rfl rfl (Nat.le_of_ble_eq_true rfl) ⟨(Nat.le_of_ble_eq_true rfl), (Nat.le_of_ble_eq_true rfl)⟩ ⟨Nat.zero_le _, Nat.zero_le _⟩ dX6_next_96 (fun _ => rfl) (fun _ => rfl) (fun _ => rfl) (fun u9 => ?_)
    refine r_if_eq C 206 dX6_next_99 (by decide) (fun h99 => ?_) (fun h99 => ?_)
    · exact r_retv (rv := (fun _ => none)) (hpE := (fun u => w_X6 u)) (t0 := M') C dX6_next_206 (by rfl) (by rfl) (by rfl)
    · refine r_aload_n C 0 dX6_next_102 rfl ?_
      refine r_dup C dX6_next_103 rfl ?_
      refine r_get C 0 12 dX6_next_104 K_X6 rfl rfl (Nat.le_of_ble_eq_true rfl) rfl m_927 rfl ?_
      refine r_iconst C (1) dX6_next_107 rfl ?_
      refine r_iadd C dX6_next_108 ?_
      refine r_put C 0 12 _ dX6_next_109 K_X6 rfl rfl (Nat.le_of_ble_eq_true rfl) rfl m_927 rfl (fun _ => rfl) (fun _ => rfl) (Nat.le_of_ble_eq_true rfl) rfl ?_
      refine r_goto C 84 dX6_next_112 (by decide) ?_
      exact ih ((va_up M'.1 12 (M'.1 12 + (1 : Int32))), M'.2)
set_option maxRecDepth 100000 in
set_option maxHeartbeats 4000000 in
theorem k_X6_next_8 {p : Program} {l : Launch} {e : Env} {s : State} {m : MethodId} {args : Array Value} {below : List Frame} {meth : Method} {c : Code} {dC : Nat → ClassId} {dI : Nat → Nat → Nat} {dA : Nat → ClassId} {A : Nat → Prop} {α : Nat → Nat} {t : q_St} (C : q_Cx p s m args meth c cX6_next 2 RX6 none "next" dC dI dA A α) (M : q_St)  : ∀ (n : Nat) (M' : q_St), q_S p l e (q_rm 1 30) s m args below meth c 2 dC dI dA A α (MQ below (q_Q α dC dI dA A ((fun _ => none) t) ((fun u => w_X6 u) t)) args s 0 0 A) 0 0 (f_X6_next_8 M  n M') t 8 [(0, .ref 50)] [] (w_X6 M') := by
  intro n
  induction n with
  | zero =>
    intro M'
    exact r_cut (f_X6_next_8.eq_1 _ _) (r_none True.intro)
  | succ n ih =>
    intro M'
    refine r_cut (f_X6_next_8.eq_2 _ _ _) ?_
    refine r_aload_n C 0 dX6_next_8 rfl ?_
    refine r_aload_n C 0 dX6_next_9 rfl ?_
    refine r_get C 0 11 dX6_next_10 K_X6 rfl rfl (Nat.le_of_ble_eq_true rfl) rfl m_926 rfl ?_
    refine r_callV0 C (o_X6_byteAt l M' (M'.1 11)) v_X6_byteAt m_1337 [.int (M'.1 11)] [] (50) (Or.inl ⟨0, 5, _, TX6, 25, rfl, rfl, rfl⟩) (fun u1 => [.int u1]) (fun u1 => [.inr (5, [.ref 51, .ref 52, .ref 53, .int (M'.1 3), .ref 54, .ref 55, .ref 56, .int (M'.1 7), .ref 57, .ref 58, .int (M'.1 10), .int (M'.1 11), .int (M'.1 12), .int (M'.1 13), .int (M'.1 14), .int (M'.1 15), .ref 59, .ref 60, .int (M'.1 18), .int (M'.1 19), .int (M'.1 20), .ref 61, .ref 62, .ref 63, .ref 64]), .inl (0, 68, .inl (M'.2 0)), .inl (0, 68, .inl (M'.2 1)), .inl (0, 68, .inl (M'.2 2)), .inl (0, 8, .inl (M'.2 4)), .inl (0, 1053, .inl (M'.2 5)), .inl (1, 972, .inl (M'.2 6)), .inl (0, 1053, .inl (M'.2 8)), .inl (0, 120, .inl (M'.2 9)), .inl (3, 7, .inr (.inr (.inr (.inr q_kf)))), .inl (0, 360, .inl (M'.2 17)), .inl (0, 4, .inl (M'.2 21)), .inl (0, 4, .inl (M'.2 22)), .inl (0, 160, .inl (M'.2 23)), .inl (0, 40, .inl (M'.2 24))]) rfl rfl rfl (Nat.le_of_ble_eq_true rfl) ⟨(Nat.le_of_ble_eq_true rfl), (Nat.le_of_ble_eq_true rfl)⟩ ⟨Nat.zero_le _, Nat.zero_le _⟩ dX6_next_13 (fun _ => rfl) (fun _ => rfl) (fun _ => rfl) (fun u1 => ?_)
    refine r_bipush C (32) dX6_next_16 rfl ?_
    refine r_icmp_ne C 34 dX6_next_18 (by decide) (fun h18 => ?_) (fun h18 => ?_)
    · refine r_aload_n C 0 dX6_next_21 rfl ?_
      refine r_dup C dX6_next_22 rfl ?_
      refine r_get C 0 11 dX6_next_23 K_X6 rfl rfl (Nat.le_of_ble_eq_true rfl) rfl m_926 rfl ?_
      refine r_iconst C (1) dX6_next_26 rfl ?_
      refine r_iadd C dX6_next_27 ?_
      refine r_put C 0 11 _ dX6_next_28 K_X6 rfl rfl (Nat.le_of_ble_eq_true rfl) rfl m_926 rfl (fun _ => rfl) (fun _ => rfl) (Nat.le_of_ble_eq_true rfl) rfl ?_
      refine r_goto C 8 dX6_next_31 (by decide) ?_
      exact ih ((va_up M'.1 11 (M'.1 11 + (1 : Int32))), M'.2)
    · refine r_aload_n C 0 dX6_next_34 rfl ?_
      refine r_aload_n C 0 dX6_next_35 rfl ?_
      refine r_get C 0 11 dX6_next_36 K_X6 rfl rfl (Nat.le_of_ble_eq_true rfl) rfl m_926 rfl ?_
      refine r_callV0 C (o_X6_byteAt l M' (M'.1 11)) v_X6_byteAt m_1337 [.int (M'.1 11)] [] (50) (Or.inl ⟨0, 5, _, TX6, 25, rfl, rfl, rfl⟩) (fun u2 => [.int u2]) (fun u2 => [.inr (5, [.ref 51, .ref 52, .ref 53, .int (M'.1 3), .ref 54, .ref 55, .ref 56, .int (M'.1 7), .ref 57, .ref 58, .int (M'.1 10), .int (M'.1 11), .int (M'.1 12), .int (M'.1 13), .int (M'.1 14), .int (M'.1 15), .ref 59, .ref 60, .int (M'.1 18), .int (M'.1 19), .int (M'.1 20), .ref 61, .ref 62, .ref 63, .ref 64]), .inl (0, 68, .inl (M'.2 0)), .inl (0, 68, .inl (M'.2 1)), .inl (0, 68, .inl (M'.2 2)), .inl (0, 8, .inl (M'.2 4)), .inl (0, 1053, .inl (M'.2 5)), .inl (1, 972, .inl (M'.2 6)), .inl (0, 1053, .inl (M'.2 8)), .inl (0, 120, .inl (M'.2 9)), .inl (3, 7, .inr (.inr (.inr (.inr q_kf)))), .inl (0, 360, .inl (M'.2 17)), .inl (0, 4, .inl (M'.2 21)), .inl (0, 4, .inl (M'.2 22)), .inl (0, 160, .inl (M'.2 23)), .inl (0, 40, .inl (M'.2 24))]) rfl rfl rfl (Nat.le_of_ble_eq_true rfl) ⟨(Nat.le_of_ble_eq_true rfl), (Nat.le_of_ble_eq_true rfl)⟩ ⟨Nat.zero_le _, Nat.zero_le _⟩ dX6_next_39 (fun _ => rfl) (fun _ => rfl) (fun _ => rfl) (fun u2 => ?_)
      refine r_istore_n C [(1, .int u2), (0, .ref 50)] dX6_next_42 (Nat.le_of_ble_eq_true rfl) rfl ?_
      refine r_aload_n C 1 dX6_next_43 rfl ?_
      refine r_aload_n C 1 dX6_next_44 rfl ?_
      refine r_get C 0 11 dX6_next_45 K_X6 rfl rfl (Nat.le_of_ble_eq_true rfl) rfl m_926 rfl ?_
      refine r_put C 0 12 _ dX6_next_48 K_X6 rfl rfl (Nat.le_of_ble_eq_true rfl) rfl m_927 rfl (fun _ => rfl) (fun _ => rfl) (Nat.le_of_ble_eq_true rfl) rfl ?_
      refine r_aload_n C 1 dX6_next_51 rfl ?_
      refine r_iconst C (0) dX6_next_52 rfl ?_
      refine r_put C 0 14 _ dX6_next_53 K_X6 rfl rfl (Nat.le_of_ble_eq_true rfl) rfl m_929 rfl (fun _ => rfl) (fun _ => rfl) (Nat.le_of_ble_eq_true rfl) rfl ?_
      refine r_iload_n C 0 dX6_next_56 rfl ?_
      refine r_if_ge C 68 dX6_next_57 (by decide) (fun h57 => ?_) (fun h57 => ?_)
      · refine r_iload_n C 0 dX6_next_68 rfl ?_
        refine r_bipush C (97) dX6_next_69 rfl ?_
        refine r_bipush C (122) dX6_next_71 rfl ?_
        refine r_callS C (o_X6_within l u2 (97 : Int32) (122 : Int32)) v_X6_within m_999 [] [.int u2, .int (97 : Int32), .int (122 : Int32)] [] (fun u3 => [.int u3]) (fun u3 => [.inr (5, [.ref 51, .ref 52, .ref 53, .int (M'.1 3), .ref 54, .ref 55, .ref 56, .int (M'.1 7), .ref 57, .ref 58, .int (M'.1 10), .int (M'.1 11), .int (M'.1 11), .int (M'.1 13), .int ((0 : Int32)), .int (M'.1 15), .ref 59, .ref 60, .int (M'.1 18), .int (M'.1 19), .int (M'.1 20), .ref 61, .ref 62, .ref 63, .ref 64]), .inl (0, 68, .inl (M'.2 0)), .inl (0, 68, .inl (M'.2 1)), .inl (0, 68, .inl (M'.2 2)), .inl (0, 8, .inl (M'.2 4)), .inl (0, 1053, .inl (M'.2 5)), .inl (1, 972, .inl (M'.2 6)), .inl (0, 1053, .inl (M'.2 8)), .inl (0, 120, .inl (M'.2 9)), .inl (3, 7, .inr (.inr (.inr (.inr q_kf)))), .inl (0, 360, .inl (M'.2 17)), .inl (0, 4, .inl (M'.2 21)), .inl (0, 4, .inl (M'.2 22)), .inl (0, 160, .inl (M'.2 23)), .inl (0, 40, .inl (M'.2 24))]) rfl rfl rfl rfl rfl (Nat.le_of_ble_eq_true rfl) ⟨(Nat.le_of_ble_eq_true rfl), (Nat.le_of_ble_eq_true rfl)⟩ ⟨Nat.zero_le _, Nat.zero_le _⟩ dX6_next_73 (fun _ => rfl) (fun _ => rfl) (fun _ => rfl) (fun u3 => ?_)
        refine r_if_eq C 115 dX6_next_76 (by decide) (fun h76 => ?_) (fun h76 => ?_)
        · refine r_iload_n C 0 dX6_next_115 rfl ?_
          refine r_bipush C (48) dX6_next_116 rfl ?_
          refine r_bipush C (57) dX6_next_118 rfl ?_
          refine r_callS C (o_X6_within l u2 (48 : Int32) (57 : Int32)) v_X6_within m_999 [] [.int u2, .int (48 : Int32), .int (57 : Int32)] [] (fun u4 => [.int u4]) (fun u4 => [.inr (5, [.ref 51, .ref 52, .ref 53, .int (M'.1 3), .ref 54, .ref 55, .ref 56, .int (M'.1 7), .ref 57, .ref 58, .int (M'.1 10), .int (M'.1 11), .int (M'.1 11), .int (M'.1 13), .int ((0 : Int32)), .int (M'.1 15), .ref 59, .ref 60, .int (M'.1 18), .int (M'.1 19), .int (M'.1 20), .ref 61, .ref 62, .ref 63, .ref 64]), .inl (0, 68, .inl (M'.2 0)), .inl (0, 68, .inl (M'.2 1)), .inl (0, 68, .inl (M'.2 2)), .inl (0, 8, .inl (M'.2 4)), .inl (0, 1053, .inl (M'.2 5)), .inl (1, 972, .inl (M'.2 6)), .inl (0, 1053, .inl (M'.2 8)), .inl (0, 120, .inl (M'.2 9)), .inl (3, 7, .inr (.inr (.inr (.inr q_kf)))), .inl (0, 360, .inl (M'.2 17)), .inl (0, 4, .inl (M'.2 21)), .inl (0, 4, .inl (M'.2 22)), .inl (0, 160, .inl (M'.2 23)), .inl (0, 40, .inl (M'.2 24))]) rfl rfl rfl rfl rfl (Nat.le_of_ble_eq_true rfl) ⟨(Nat.le_of_ble_eq_true rfl), (Nat.le_of_ble_eq_true rfl)⟩ ⟨Nat.zero_le _, Nat.zero_le _⟩ dX6_next_120 (fun _ => rfl) (fun _ => rfl) (fun _ => rfl) (fun u4 => ?_)
          refine r_if_eq C 191 dX6_next_123 (by decide) (fun h123 => ?_) (fun h123 => ?_)
          · refine r_aload_n C 1 dX6_next_191 rfl ?_
            refine r_iconst C (3) dX6_next_192 rfl ?_
            refine r_put C 0 13 _ dX6_next_193 K_X6 rfl rfl (Nat.le_of_ble_eq_true rfl) rfl m_928 rfl (fun _ => rfl) (fun _ => rfl) (Nat.le_of_ble_eq_true rfl) rfl ?_
            refine r_aload_n C 1 dX6_next_196 rfl ?_
            refine r_dup C dX6_next_197 rfl ?_
            refine r_get C 0 12 dX6_next_198 K_X6 rfl rfl (Nat.le_of_ble_eq_true rfl) rfl m_927 rfl ?_
            refine r_iconst C (1) dX6_next_201 rfl ?_
            refine r_iadd C dX6_next_202 ?_
            refine r_put C 0 12 _ dX6_next_203 K_X6 rfl rfl (Nat.le_of_ble_eq_true rfl) rfl m_927 rfl (fun _ => rfl) (fun _ => rfl) (Nat.le_of_ble_eq_true rfl) rfl ?_
            exact r_retv (rv := (fun _ => none)) (hpE := (fun u => w_X6 u)) (t0 := ((va_up (va_up (va_up M'.1 12 (M'.1 11 + (1 : Int32))) 13 (3 : Int32)) 14 (0 : Int32)), M'.2)) C dX6_next_206 (by rfl) (by rfl) (by rfl)
          · refine r_aload_n C 1 dX6_next_126 rfl ?_
            refine r_iconst C (2) dX6_next_127 rfl ?_
            refine r_put C 0 13 _ dX6_next_128 K_X6 rfl rfl (Nat.le_of_ble_eq_true rfl) rfl m_928 rfl (fun _ => rfl) (fun _ => rfl) (Nat.le_of_ble_eq_true rfl) rfl ?_
            refine r_lv [(0, .ref 50)] [1] rfl ?_
            exact k_X6_next_131 C M   q_N ((va_up (va_up (va_up M'.1 12 (M'.1 11)) 13 (2 : Int32)) 14 (0 : Int32)), M'.2)
        · refine r_aload_n C 1 dX6_next_79 rfl ?_
          refine r_iconst C (1) dX6_next_80 rfl ?_
          refine r_put C 0 13 _ dX6_next_81 K_X6 rfl rfl (Nat.le_of_ble_eq_true rfl) rfl m_928 rfl (fun _ => rfl) (fun _ => rfl) (Nat.le_of_ble_eq_true rfl) rfl ?_
          refine r_lv [(0, .ref 50)] [1] rfl ?_
          exact k_X6_next_84 C M   q_N ((va_up (va_up (va_up M'.1 12 (M'.1 11)) 13 (1 : Int32)) 14 (0 : Int32)), M'.2)
      · refine r_aload_n C 1 dX6_next_60 rfl ?_
        refine r_iconst C (0) dX6_next_61 rfl ?_
        refine r_put C 0 13 _ dX6_next_62 K_X6 rfl rfl (Nat.le_of_ble_eq_true rfl) rfl m_928 rfl (fun _ => rfl) (fun _ => rfl) (Nat.le_of_ble_eq_true rfl) rfl ?_
        refine r_goto C 206 dX6_next_65 (by decide) ?_
        exact r_retv (rv := (fun _ => none)) (hpE := (fun u => w_X6 u)) (t0 := ((va_up (va_up (va_up M'.1 12 (M'.1 11)) 13 (0 : Int32)) 14 (0 : Int32)), M'.2)) C dX6_next_206 (by rfl) (by rfl) (by rfl)
set_option maxRecDepth 100000 in
set_option maxHeartbeats 4000000 in
theorem o_X6_next (l : Launch) (M : q_St) : q_Ok l yX6_next cX6_next 2 none 1 30 [.ref 50] (w_X6 M) (f_X6_next M) (fun _ => none) (fun u => w_X6 u) := by
  refine q_enter (by decide +kernel) (Nat.le_of_ble_eq_true rfl) (fun t p e s m args below meth c dC dI dA A α C => ?_)
  refine r_cut (f_X6_next.eq_1 _) ?_
  show q_S p l e (q_rm 1 30) s m args below meth c 2 dC dI dA A α (MQ below (q_Q α dC dI dA A ((fun _ => none) t) ((fun u => w_X6 u) t)) args s 0 0 A) 0 0 _ t 0 [(0, .ref 50)] [] (w_X6 M)
  refine r_aload_n C 0 dX6_next_0 rfl ?_
  refine r_aload_n C 0 dX6_next_1 rfl ?_
  refine r_get C 0 12 dX6_next_2 K_X6 rfl rfl (Nat.le_of_ble_eq_true rfl) rfl m_927 rfl ?_
  refine r_put C 0 11 _ dX6_next_5 K_X6 rfl rfl (Nat.le_of_ble_eq_true rfl) rfl m_926 rfl (fun _ => rfl) (fun _ => rfl) (Nat.le_of_ble_eq_true rfl) rfl ?_
  exact k_X6_next_8 C M   q_N ((va_up M.1 11 (M.1 12)), M.2)
set_option maxRecDepth 100000 in
set_option maxHeartbeats 4000000 in
theorem k_X6_isWord_32 {p : Program} {l : Launch} {e : Env} {s : State} {m : MethodId} {args : Array Value} {below : List Frame} {meth : Method} {c : Code} {dC : Nat → ClassId} {dI : Nat → Nat → Nat} {dA : Nat → ClassId} {A : Nat → Prop} {α : Nat → Nat} {t : Int32} (C : q_Cx p s m args meth c cX6_isWord 4 RX6 (some .boolean) "isWord" dC dI dA A α) (M : q_St) (a1 : Nat) (hj : a1 < 13)  : ∀ (n : Nat) (x2 : Int32) (x3 : Int32), q_S p l e (q_rm 4 85) s m args below meth c 4 dC dI dA A α (MQ below (q_Q α dC dI dA A ((fun u => some (.int u)) t) ((fun u => w_X6 M) t)) args s 0 0 A) 0 0 (f_X6_isWord_32 M a1  n x2 x3) t 32 [(0, .ref 50), (1, .ref a1), (2, .int x2), (3, .int x3)] [] (w_X6 M) := by
  intro n
  induction n with
  | zero =>
    intro x2 x3
    exact r_cut (f_X6_isWord_32.eq_1 _ _ _ _) (r_none True.intro)
  | succ n ih =>
    intro x2 x3
    refine r_cut (f_X6_isWord_32.eq_2 _ _ _ _ _) ?_
    refine r_iload_n C 3 dX6_isWord_32 rfl ?_
    refine r_aload_n C 1 dX6_isWord_33 rfl ?_
    refine r_callV C (o_J0_length_8abf5 l a1 hj) v_J0_length_8abf5 m_1353 [] [] [.int x3] (a1) (Or.inr ⟨hj, rfl⟩) (fun u2 => [.int u2, .int x3]) (fun u2 => [.inr (5, [.ref 51, .ref 52, .ref 53, .int (M.1 3), .ref 54, .ref 55, .ref 56, .int (M.1 7), .ref 57, .ref 58, .int (M.1 10), .int (M.1 11), .int (M.1 12), .int (M.1 13), .int (M.1 14), .int (M.1 15), .ref 59, .ref 60, .int (M.1 18), .int (M.1 19), .int (M.1 20), .ref 61, .ref 62, .ref 63, .ref 64]), .inl (0, 68, .inl (M.2 0)), .inl (0, 68, .inl (M.2 1)), .inl (0, 68, .inl (M.2 2)), .inl (0, 8, .inl (M.2 4)), .inl (0, 1053, .inl (M.2 5)), .inl (1, 972, .inl (M.2 6)), .inl (0, 1053, .inl (M.2 8)), .inl (0, 120, .inl (M.2 9)), .inl (3, 7, .inr (.inr (.inr (.inr q_kf)))), .inl (0, 360, .inl (M.2 17)), .inl (0, 4, .inl (M.2 21)), .inl (0, 4, .inl (M.2 22)), .inl (0, 160, .inl (M.2 23)), .inl (0, 40, .inl (M.2 24))]) rfl rfl (by simp only [List.map_cons, List.map_nil, q_v, q_ix_j hj, q_ix_b hj] <;> rfl) rfl rfl (Nat.le_of_ble_eq_true rfl) ⟨(Nat.le_of_ble_eq_true rfl), (Nat.le_of_ble_eq_true rfl)⟩ ⟨Nat.zero_le _, Nat.zero_le _⟩ dX6_isWord_34 (fun _ => rfl) (fun _ => rfl) (fun _ => rfl) (fun u2 => ?_)
    refine r_icmp_ge C 75 dX6_isWord_37 (by decide) (fun h37 => ?_) (fun h37 => ?_)
    · refine r_iload_n C 2 dX6_isWord_75 rfl ?_
      refine r_gbz (fun hz => ?_)
      exact r_retz (x := x2) (rv := (fun u => some (.int u))) (hpE := (fun u => w_X6 M)) (t0 := x2) C dX6_isWord_76 (by rfl) (by exact q_nz1 hz) (by rfl) (by rfl)
    · refine r_iload_n C 2 dX6_isWord_40 rfl ?_
      refine r_if_eq C 75 dX6_isWord_41 (by decide) (fun h41 => ?_) (fun h41 => ?_)
      · refine r_iload_n C 2 dX6_isWord_75 rfl ?_
        refine r_gbz (fun hz => ?_)
        exact r_retz (x := x2) (rv := (fun u => some (.int u))) (hpE := (fun u => w_X6 M)) (t0 := x2) C dX6_isWord_76 (by rfl) (by exact q_nz1 hz) (by rfl) (by rfl)
      · refine r_aload_n C 0 dX6_isWord_44 rfl ?_
        refine r_get C 0 9 dX6_isWord_45 K_X6 rfl rfl (Nat.le_of_ble_eq_true rfl) rfl m_924 rfl ?_
        refine r_aload_n C 0 dX6_isWord_48 rfl ?_
        refine r_get C 0 11 dX6_isWord_49 K_X6 rfl rfl (Nat.le_of_ble_eq_true rfl) rfl m_926 rfl ?_
        refine r_iload_n C 3 dX6_isWord_52 rfl ?_
        refine r_iadd C dX6_isWord_53 ?_
        refine r_iald C 8 dX6_isWord_54 rfl rfl (fun hi54 => ?_)
        refine r_aload_n C 1 dX6_isWord_55 rfl ?_
        refine r_iload_n C 3 dX6_isWord_56 rfl ?_
        refine r_callV C (o_J0_charAt_5068e l a1 x3 hj) v_J0_charAt_5068e m_1354 [] [.int x3] [.int (M.2 9 (M.1 11 + x3).toNatClampNeg)] (a1) (Or.inr ⟨hj, rfl⟩) (fun u3 => [.int u3, .int (M.2 9 (M.1 11 + x3).toNatClampNeg)]) (fun u3 => [.inr (5, [.ref 51, .ref 52, .ref 53, .int (M.1 3), .ref 54, .ref 55, .ref 56, .int (M.1 7), .ref 57, .ref 58, .int (M.1 10), .int (M.1 11), .int (M.1 12), .int (M.1 13), .int (M.1 14), .int (M.1 15), .ref 59, .ref 60, .int (M.1 18), .int (M.1 19), .int (M.1 20), .ref 61, .ref 62, .ref 63, .ref 64]), .inl (0, 68, .inl (M.2 0)), .inl (0, 68, .inl (M.2 1)), .inl (0, 68, .inl (M.2 2)), .inl (0, 8, .inl (M.2 4)), .inl (0, 1053, .inl (M.2 5)), .inl (1, 972, .inl (M.2 6)), .inl (0, 1053, .inl (M.2 8)), .inl (0, 120, .inl (M.2 9)), .inl (3, 7, .inr (.inr (.inr (.inr q_kf)))), .inl (0, 360, .inl (M.2 17)), .inl (0, 4, .inl (M.2 21)), .inl (0, 4, .inl (M.2 22)), .inl (0, 160, .inl (M.2 23)), .inl (0, 40, .inl (M.2 24))]) rfl rfl (by simp only [List.map_cons, List.map_nil, q_v, q_ix_j hj, q_ix_b hj] <;> rfl) rfl rfl (Nat.le_of_ble_eq_true rfl) ⟨(Nat.le_of_ble_eq_true rfl), (Nat.le_of_ble_eq_true rfl)⟩ ⟨Nat.zero_le _, Nat.zero_le _⟩ dX6_isWord_57 (fun _ => rfl) (fun _ => rfl) (fun _ => rfl) (fun u3 => ?_)
        refine r_icmp_ne C 67 dX6_isWord_60 (by decide) (fun h60 => ?_) (fun h60 => ?_)
        · refine r_iconst C (1) dX6_isWord_63 rfl ?_
          refine r_goto C 68 dX6_isWord_64 (by decide) ?_
          refine r_istore_n C [(2, .int (1 : Int32)), (0, .ref 50), (1, .ref a1), (3, .int x3)] dX6_isWord_68 (Nat.le_of_ble_eq_true rfl) rfl ?_
          refine r_iinc C 3 (x3 + 1) [(3, .int (x3 + 1)), (2, .int (1 : Int32)), (0, .ref 50), (1, .ref a1)] dX6_isWord_69 rfl rfl (Nat.le_of_ble_eq_true rfl) rfl ?_
          refine r_goto C 32 dX6_isWord_72 (by decide) ?_
          refine r_lv [(0, .ref 50), (1, .ref a1), (2, .int (1 : Int32)), (3, .int (x3 + 1))] [2, 3, 1, 0] rfl ?_
          exact ih (1 : Int32) (x3 + 1)
        · refine r_iconst C (0) dX6_isWord_67 rfl ?_
          refine r_istore_n C [(2, .int (0 : Int32)), (0, .ref 50), (1, .ref a1), (3, .int x3)] dX6_isWord_68 (Nat.le_of_ble_eq_true rfl) rfl ?_
          refine r_iinc C 3 (x3 + 1) [(3, .int (x3 + 1)), (2, .int (0 : Int32)), (0, .ref 50), (1, .ref a1)] dX6_isWord_69 rfl rfl (Nat.le_of_ble_eq_true rfl) rfl ?_
          refine r_goto C 32 dX6_isWord_72 (by decide) ?_
          refine r_lv [(0, .ref 50), (1, .ref a1), (2, .int (0 : Int32)), (3, .int (x3 + 1))] [2, 3, 1, 0] rfl ?_
          exact ih (0 : Int32) (x3 + 1)
set_option maxRecDepth 100000 in
set_option maxHeartbeats 4000000 in
theorem o_X6_isWord (l : Launch) (M : q_St) (a1 : Nat) (hj : a1 < 13) : q_Ok l yX6_isWord cX6_isWord 4 (some .boolean) 4 85 [.ref 50, .ref a1] (w_X6 M) (f_X6_isWord M a1) (fun u => some (.int u)) (fun u => w_X6 M) := by
  refine q_enter (by decide +kernel) (Nat.le_of_ble_eq_true rfl) (fun t p e s m args below meth c dC dI dA A α C => ?_)
  refine r_cut (f_X6_isWord.eq_1 _ _) ?_
  show q_S p l e (q_rm 4 85) s m args below meth c 4 dC dI dA A α (MQ below (q_Q α dC dI dA A ((fun u => some (.int u)) t) ((fun u => w_X6 M) t)) args s 0 0 A) 0 0 _ t 0 [(0, .ref 50), (1, .ref a1)] [] (w_X6 M)
  refine r_aload_n C 0 dX6_isWord_0 rfl ?_
  refine r_get C 0 13 dX6_isWord_1 K_X6 rfl rfl (Nat.le_of_ble_eq_true rfl) rfl m_928 rfl ?_
  refine r_iconst C (1) dX6_isWord_4 rfl ?_
  refine r_icmp_ne C 28 dX6_isWord_5 (by decide) (fun h5 => ?_) (fun h5 => ?_)
  · refine r_aload_n C 0 dX6_isWord_8 rfl ?_
    refine r_get C 0 12 dX6_isWord_9 K_X6 rfl rfl (Nat.le_of_ble_eq_true rfl) rfl m_927 rfl ?_
    refine r_aload_n C 0 dX6_isWord_12 rfl ?_
    refine r_get C 0 11 dX6_isWord_13 K_X6 rfl rfl (Nat.le_of_ble_eq_true rfl) rfl m_926 rfl ?_
    refine r_isub C dX6_isWord_16 ?_
    refine r_aload_n C 1 dX6_isWord_17 rfl ?_
    refine r_callV C (o_J0_length_8abf5 l a1 hj) v_J0_length_8abf5 m_1353 [] [] [.int (M.1 12 - M.1 11)] (a1) (Or.inr ⟨hj, rfl⟩) (fun u1 => [.int u1, .int (M.1 12 - M.1 11)]) (fun u1 => [.inr (5, [.ref 51, .ref 52, .ref 53, .int (M.1 3), .ref 54, .ref 55, .ref 56, .int (M.1 7), .ref 57, .ref 58, .int (M.1 10), .int (M.1 11), .int (M.1 12), .int (M.1 13), .int (M.1 14), .int (M.1 15), .ref 59, .ref 60, .int (M.1 18), .int (M.1 19), .int (M.1 20), .ref 61, .ref 62, .ref 63, .ref 64]), .inl (0, 68, .inl (M.2 0)), .inl (0, 68, .inl (M.2 1)), .inl (0, 68, .inl (M.2 2)), .inl (0, 8, .inl (M.2 4)), .inl (0, 1053, .inl (M.2 5)), .inl (1, 972, .inl (M.2 6)), .inl (0, 1053, .inl (M.2 8)), .inl (0, 120, .inl (M.2 9)), .inl (3, 7, .inr (.inr (.inr (.inr q_kf)))), .inl (0, 360, .inl (M.2 17)), .inl (0, 4, .inl (M.2 21)), .inl (0, 4, .inl (M.2 22)), .inl (0, 160, .inl (M.2 23)), .inl (0, 40, .inl (M.2 24))]) rfl rfl (by simp only [List.map_cons, List.map_nil, q_v, q_ix_j hj, q_ix_b hj] <;> rfl) rfl rfl (Nat.le_of_ble_eq_true rfl) ⟨(Nat.le_of_ble_eq_true rfl), (Nat.le_of_ble_eq_true rfl)⟩ ⟨Nat.zero_le _, Nat.zero_le _⟩ dX6_isWord_18 (fun _ => rfl) (fun _ => rfl) (fun _ => rfl) (fun u1 => ?_)
    refine r_icmp_ne C 28 dX6_isWord_21 (by decide) (fun h21 => ?_) (fun h21 => ?_)
    · refine r_iconst C (1) dX6_isWord_24 rfl ?_
      refine r_goto C 29 dX6_isWord_25 (by decide) ?_
      refine r_istore_n C [(2, .int (1 : Int32)), (0, .ref 50), (1, .ref a1)] dX6_isWord_29 (Nat.le_of_ble_eq_true rfl) rfl ?_
      refine r_iconst C (0) dX6_isWord_30 rfl ?_
      refine r_istore_n C [(3, .int (0 : Int32)), (2, .int (1 : Int32)), (0, .ref 50), (1, .ref a1)] dX6_isWord_31 (Nat.le_of_ble_eq_true rfl) rfl ?_
      refine r_lv [(0, .ref 50), (1, .ref a1), (2, .int (1 : Int32)), (3, .int (0 : Int32))] [2, 3, 1, 0] rfl ?_
      exact k_X6_isWord_32 C M a1 hj   q_N (1 : Int32) (0 : Int32)
    · refine r_iconst C (0) dX6_isWord_28 rfl ?_
      refine r_istore_n C [(2, .int (0 : Int32)), (0, .ref 50), (1, .ref a1)] dX6_isWord_29 (Nat.le_of_ble_eq_true rfl) rfl ?_
      refine r_iconst C (0) dX6_isWord_30 rfl ?_
      refine r_istore_n C [(3, .int (0 : Int32)), (2, .int (0 : Int32)), (0, .ref 50), (1, .ref a1)] dX6_isWord_31 (Nat.le_of_ble_eq_true rfl) rfl ?_
      refine r_lv [(0, .ref 50), (1, .ref a1), (2, .int (0 : Int32)), (3, .int (0 : Int32))] [2, 3, 1, 0] rfl ?_
      exact k_X6_isWord_32 C M a1 hj   q_N (0 : Int32) (0 : Int32)
  · refine r_iconst C (0) dX6_isWord_28 rfl ?_
    refine r_istore_n C [(2, .int (0 : Int32)), (0, .ref 50), (1, .ref a1)] dX6_isWord_29 (Nat.le_of_ble_eq_true rfl) rfl ?_
    refine r_iconst C (0) dX6_isWord_30 rfl ?_
    refine r_istore_n C [(3, .int (0 : Int32)), (2, .int (0 : Int32)), (0, .ref 50), (1, .ref a1)] dX6_isWord_31 (Nat.le_of_ble_eq_true rfl) rfl ?_
    refine r_lv [(0, .ref 50), (1, .ref a1), (2, .int (0 : Int32)), (3, .int (0 : Int32))] [2, 3, 1, 0] rfl ?_
    exact k_X6_isWord_32 C M a1 hj   q_N (0 : Int32) (0 : Int32)
set_option maxRecDepth 100000 in
set_option maxHeartbeats 4000000 in
theorem o_X6_must (l : Launch) (M : q_St) (a1 : Int32) : q_Ok l yX6_must cX6_must 2 none 2 51 [.ref 50, .int a1] (w_X6 M) (f_X6_must M a1) (fun _ => none) (fun u => w_X6 u) := by
  refine q_enter (by decide +kernel) (Nat.le_of_ble_eq_true rfl) (fun t p e s m args below meth c dC dI dA A α C => ?_)
  refine r_cut (f_X6_must.eq_1 _ _) ?_
  show q_S p l e (q_rm 2 51) s m args below meth c 2 dC dI dA A α (MQ below (q_Q α dC dI dA A ((fun _ => none) t) ((fun u => w_X6 u) t)) args s 0 0 A) 0 0 _ t 0 [(0, .ref 50), (1, .int a1)] [] (w_X6 M)
  refine r_aload_n C 0 dX6_must_0 rfl ?_
  refine r_aload_n C 0 dX6_must_1 rfl ?_
  refine r_get C 0 15 dX6_must_2 K_X6 rfl rfl (Nat.le_of_ble_eq_true rfl) rfl m_930 rfl ?_
  refine r_if_ne C 12 dX6_must_5 (by decide) (fun h5 => ?_) (fun h5 => ?_)
  · refine r_iload_n C 1 dX6_must_8 rfl ?_
    refine r_if_ne C 16 dX6_must_9 (by decide) (fun h9 => ?_) (fun h9 => ?_)
    · refine r_iconst C (1) dX6_must_12 rfl ?_
      refine r_goto C 17 dX6_must_13 (by decide) ?_
      refine r_put C 0 15 _ dX6_must_17 K_X6 rfl rfl (Nat.le_of_ble_eq_true rfl) rfl m_930 rfl (fun _ => rfl) (fun _ => rfl) (Nat.le_of_ble_eq_true rfl) rfl ?_
      refine r_aload_n C 0 dX6_must_20 rfl ?_
      refine r_get C 0 15 dX6_must_21 K_X6 rfl rfl (Nat.le_of_ble_eq_true rfl) rfl m_930 rfl ?_
      refine r_if_ne C 31 dX6_must_24 (by decide) (fun h24 => ?_) (fun h24 => ?_)
      · refine r_aload_n C 0 dX6_must_27 rfl ?_
        refine r_callV0 C (o_X6_next l ((va_up M.1 15 (1 : Int32)), M.2)) v_X6_next m_1333 [] [] (50) (Or.inl ⟨0, 5, _, TX6, 25, rfl, rfl, rfl⟩) (fun u3 => []) (fun u3 => [.inr (5, [.ref 51, .ref 52, .ref 53, .int (u3.1 3), .ref 54, .ref 55, .ref 56, .int (u3.1 7), .ref 57, .ref 58, .int (u3.1 10), .int (u3.1 11), .int (u3.1 12), .int (u3.1 13), .int (u3.1 14), .int (u3.1 15), .ref 59, .ref 60, .int (u3.1 18), .int (u3.1 19), .int (u3.1 20), .ref 61, .ref 62, .ref 63, .ref 64]), .inl (0, 68, .inl (u3.2 0)), .inl (0, 68, .inl (u3.2 1)), .inl (0, 68, .inl (u3.2 2)), .inl (0, 8, .inl (u3.2 4)), .inl (0, 1053, .inl (u3.2 5)), .inl (1, 972, .inl (u3.2 6)), .inl (0, 1053, .inl (u3.2 8)), .inl (0, 120, .inl (u3.2 9)), .inl (3, 7, .inr (.inr (.inr (.inr q_kf)))), .inl (0, 360, .inl (u3.2 17)), .inl (0, 4, .inl (u3.2 21)), .inl (0, 4, .inl (u3.2 22)), .inl (0, 160, .inl (u3.2 23)), .inl (0, 40, .inl (u3.2 24))]) rfl rfl rfl (Nat.le_of_ble_eq_true rfl) ⟨(Nat.le_of_ble_eq_true rfl), (Nat.le_of_ble_eq_true rfl)⟩ ⟨Nat.zero_le _, Nat.zero_le _⟩ dX6_must_28 (fun _ => rfl) (fun _ => rfl) (fun _ => rfl) (fun u3 => ?_)
        exact r_retv (rv := (fun _ => none)) (hpE := (fun u => w_X6 u)) (t0 := u3) C dX6_must_31 (by rfl) (by rfl) (by rfl)
      · exact r_retv (rv := (fun _ => none)) (hpE := (fun u => w_X6 u)) (t0 := ((va_up M.1 15 (1 : Int32)), M.2)) C dX6_must_31 (by rfl) (by rfl) (by rfl)
    · refine r_iconst C (0) dX6_must_16 rfl ?_
      refine r_put C 0 15 _ dX6_must_17 K_X6 rfl rfl (Nat.le_of_ble_eq_true rfl) rfl m_930 rfl (fun _ => rfl) (fun _ => rfl) (Nat.le_of_ble_eq_true rfl) rfl ?_
      refine r_aload_n C 0 dX6_must_20 rfl ?_
      refine r_get C 0 15 dX6_must_21 K_X6 rfl rfl (Nat.le_of_ble_eq_true rfl) rfl m_930 rfl ?_
      refine r_if_ne C 31 dX6_must_24 (by decide) (fun h24 => ?_) (fun h24 => ?_)
      · refine r_aload_n C 0 dX6_must_27 rfl ?_
        refine r_callV0 C (o_X6_next l ((va_up M.1 15 (0 : Int32)), M.2)) v_X6_next m_1333 [] [] (50) (Or.inl ⟨0, 5, _, TX6, 25, rfl, rfl, rfl⟩) (fun u2 => []) (fun u2 => [.inr (5, [.ref 51, .ref 52, .ref 53, .int (u2.1 3), .ref 54, .ref 55, .ref 56, .int (u2.1 7), .ref 57, .ref 58, .int (u2.1 10), .int (u2.1 11), .int (u2.1 12), .int (u2.1 13), .int (u2.1 14), .int (u2.1 15), .ref 59, .ref 60, .int (u2.1 18), .int (u2.1 19), .int (u2.1 20), .ref 61, .ref 62, .ref 63, .ref 64]), .inl (0, 68, .inl (u2.2 0)), .inl (0, 68, .inl (u2.2 1)), .inl (0, 68, .inl (u2.2 2)), .inl (0, 8, .inl (u2.2 4)), .inl (0, 1053, .inl (u2.2 5)), .inl (1, 972, .inl (u2.2 6)), .inl (0, 1053, .inl (u2.2 8)), .inl (0, 120, .inl (u2.2 9)), .inl (3, 7, .inr (.inr (.inr (.inr q_kf)))), .inl (0, 360, .inl (u2.2 17)), .inl (0, 4, .inl (u2.2 21)), .inl (0, 4, .inl (u2.2 22)), .inl (0, 160, .inl (u2.2 23)), .inl (0, 40, .inl (u2.2 24))]) rfl rfl rfl (Nat.le_of_ble_eq_true rfl) ⟨(Nat.le_of_ble_eq_true rfl), (Nat.le_of_ble_eq_true rfl)⟩ ⟨Nat.zero_le _, Nat.zero_le _⟩ dX6_must_28 (fun _ => rfl) (fun _ => rfl) (fun _ => rfl) (fun u2 => ?_)
        exact r_retv (rv := (fun _ => none)) (hpE := (fun u => w_X6 u)) (t0 := u2) C dX6_must_31 (by rfl) (by rfl) (by rfl)
      · exact r_retv (rv := (fun _ => none)) (hpE := (fun u => w_X6 u)) (t0 := ((va_up M.1 15 (0 : Int32)), M.2)) C dX6_must_31 (by rfl) (by rfl) (by rfl)
  · refine r_iconst C (1) dX6_must_12 rfl ?_
    refine r_goto C 17 dX6_must_13 (by decide) ?_
    refine r_put C 0 15 _ dX6_must_17 K_X6 rfl rfl (Nat.le_of_ble_eq_true rfl) rfl m_930 rfl (fun _ => rfl) (fun _ => rfl) (Nat.le_of_ble_eq_true rfl) rfl ?_
    refine r_aload_n C 0 dX6_must_20 rfl ?_
    refine r_get C 0 15 dX6_must_21 K_X6 rfl rfl (Nat.le_of_ble_eq_true rfl) rfl m_930 rfl ?_
    refine r_if_ne C 31 dX6_must_24 (by decide) (fun h24 => ?_) (fun h24 => ?_)
    · refine r_aload_n C 0 dX6_must_27 rfl ?_
      refine r_callV0 C (o_X6_next l ((va_up M.1 15 (1 : Int32)), M.2)) v_X6_next m_1333 [] [] (50) (Or.inl ⟨0, 5, _, TX6, 25, rfl, rfl, rfl⟩) (fun u1 => []) (fun u1 => [.inr (5, [.ref 51, .ref 52, .ref 53, .int (u1.1 3), .ref 54, .ref 55, .ref 56, .int (u1.1 7), .ref 57, .ref 58, .int (u1.1 10), .int (u1.1 11), .int (u1.1 12), .int (u1.1 13), .int (u1.1 14), .int (u1.1 15), .ref 59, .ref 60, .int (u1.1 18), .int (u1.1 19), .int (u1.1 20), .ref 61, .ref 62, .ref 63, .ref 64]), .inl (0, 68, .inl (u1.2 0)), .inl (0, 68, .inl (u1.2 1)), .inl (0, 68, .inl (u1.2 2)), .inl (0, 8, .inl (u1.2 4)), .inl (0, 1053, .inl (u1.2 5)), .inl (1, 972, .inl (u1.2 6)), .inl (0, 1053, .inl (u1.2 8)), .inl (0, 120, .inl (u1.2 9)), .inl (3, 7, .inr (.inr (.inr (.inr q_kf)))), .inl (0, 360, .inl (u1.2 17)), .inl (0, 4, .inl (u1.2 21)), .inl (0, 4, .inl (u1.2 22)), .inl (0, 160, .inl (u1.2 23)), .inl (0, 40, .inl (u1.2 24))]) rfl rfl rfl (Nat.le_of_ble_eq_true rfl) ⟨(Nat.le_of_ble_eq_true rfl), (Nat.le_of_ble_eq_true rfl)⟩ ⟨Nat.zero_le _, Nat.zero_le _⟩ dX6_must_28 (fun _ => rfl) (fun _ => rfl) (fun _ => rfl) (fun u1 => ?_)
      exact r_retv (rv := (fun _ => none)) (hpE := (fun u => w_X6 u)) (t0 := u1) C dX6_must_31 (by rfl) (by rfl) (by rfl)
    · exact r_retv (rv := (fun _ => none)) (hpE := (fun u => w_X6 u)) (t0 := ((va_up M.1 15 (1 : Int32)), M.2)) C dX6_must_31 (by rfl) (by rfl) (by rfl)
set_option maxRecDepth 100000 in
set_option maxHeartbeats 4000000 in
theorem o_X6_number (l : Launch) (M : q_St) (a1 : Int32) (a2 : Int32) : q_Ok l yX6_number cX6_number 4 (some .int) 3 72 [.ref 50, .int a1, .int a2] (w_X6 M) (f_X6_number M a1 a2) (fun u => some (.int u.1)) (fun u => w_X6 u.2) := by
  refine q_enter (by decide +kernel) (Nat.le_of_ble_eq_true rfl) (fun t p e s m args below meth c dC dI dA A α C => ?_)
  refine r_cut (f_X6_number.eq_1 _ _ _) ?_
  show q_S p l e (q_rm 3 72) s m args below meth c 4 dC dI dA A α (MQ below (q_Q α dC dI dA A ((fun u => some (.int u.1)) t) ((fun u => w_X6 u.2) t)) args s 0 0 A) 0 0 _ t 0 [(0, .ref 50), (1, .int a1), (2, .int a2)] [] (w_X6 M)
  refine r_aload_n C 0 dX6_number_0 rfl ?_
  refine r_get C 0 14 dX6_number_1 K_X6 rfl rfl (Nat.le_of_ble_eq_true rfl) rfl m_929 rfl ?_
  refine r_istore_n C [(3, .int (M.1 14)), (0, .ref 50), (1, .int a1), (2, .int a2)] dX6_number_4 (Nat.le_of_ble_eq_true rfl) rfl ?_
  refine r_aload_n C 1 dX6_number_5 rfl ?_
  refine r_aload_n C 1 dX6_number_6 rfl ?_
  refine r_get C 0 13 dX6_number_7 K_X6 rfl rfl (Nat.le_of_ble_eq_true rfl) rfl m_928 rfl ?_
  refine r_iconst C (2) dX6_number_10 rfl ?_
  refine r_icmp_ne C 27 dX6_number_11 (by decide) (fun h11 => ?_) (fun h11 => ?_)
  · refine r_iload_n C 0 dX6_number_14 rfl ?_
    refine r_iload_n C 2 dX6_number_15 rfl ?_
    refine r_iload_n C 3 dX6_number_16 rfl ?_
    refine r_callS C (o_X6_within l (M.1 14) a1 a2) v_X6_within m_999 [] [.int (M.1 14), .int a1, .int a2] [.ref 50] (fun u2 => [.int u2, .ref 50]) (fun u2 => [.inr (5, [.ref 51, .ref 52, .ref 53, .int (M.1 3), .ref 54, .ref 55, .ref 56, .int (M.1 7), .ref 57, .ref 58, .int (M.1 10), .int (M.1 11), .int (M.1 12), .int (M.1 13), .int (M.1 14), .int (M.1 15), .ref 59, .ref 60, .int (M.1 18), .int (M.1 19), .int (M.1 20), .ref 61, .ref 62, .ref 63, .ref 64]), .inl (0, 68, .inl (M.2 0)), .inl (0, 68, .inl (M.2 1)), .inl (0, 68, .inl (M.2 2)), .inl (0, 8, .inl (M.2 4)), .inl (0, 1053, .inl (M.2 5)), .inl (1, 972, .inl (M.2 6)), .inl (0, 1053, .inl (M.2 8)), .inl (0, 120, .inl (M.2 9)), .inl (3, 7, .inr (.inr (.inr (.inr q_kf)))), .inl (0, 360, .inl (M.2 17)), .inl (0, 4, .inl (M.2 21)), .inl (0, 4, .inl (M.2 22)), .inl (0, 160, .inl (M.2 23)), .inl (0, 40, .inl (M.2 24))]) rfl rfl rfl rfl rfl (Nat.le_of_ble_eq_true rfl) ⟨(Nat.le_of_ble_eq_true rfl), (Nat.le_of_ble_eq_true rfl)⟩ ⟨Nat.zero_le _, Nat.zero_le _⟩ dX6_number_17 (fun _ => rfl) (fun _ => rfl) (fun _ => rfl) (fun u2 => ?_)
    refine r_if_eq C 27 dX6_number_20 (by decide) (fun h20 => ?_) (fun h20 => ?_)
    · refine r_iconst C (0) dX6_number_27 rfl ?_
      refine r_callV0 C (o_X6_must l M (0 : Int32)) v_X6_must m_1355 [.int (0 : Int32)] [] (50) (Or.inl ⟨0, 5, _, TX6, 25, rfl, rfl, rfl⟩) (fun u3 => []) (fun u3 => [.inr (5, [.ref 51, .ref 52, .ref 53, .int (u3.1 3), .ref 54, .ref 55, .ref 56, .int (u3.1 7), .ref 57, .ref 58, .int (u3.1 10), .int (u3.1 11), .int (u3.1 12), .int (u3.1 13), .int (u3.1 14), .int (u3.1 15), .ref 59, .ref 60, .int (u3.1 18), .int (u3.1 19), .int (u3.1 20), .ref 61, .ref 62, .ref 63, .ref 64]), .inl (0, 68, .inl (u3.2 0)), .inl (0, 68, .inl (u3.2 1)), .inl (0, 68, .inl (u3.2 2)), .inl (0, 8, .inl (u3.2 4)), .inl (0, 1053, .inl (u3.2 5)), .inl (1, 972, .inl (u3.2 6)), .inl (0, 1053, .inl (u3.2 8)), .inl (0, 120, .inl (u3.2 9)), .inl (3, 7, .inr (.inr (.inr (.inr q_kf)))), .inl (0, 360, .inl (u3.2 17)), .inl (0, 4, .inl (u3.2 21)), .inl (0, 4, .inl (u3.2 22)), .inl (0, 160, .inl (u3.2 23)), .inl (0, 40, .inl (u3.2 24))]) rfl rfl rfl (Nat.le_of_ble_eq_true rfl) ⟨(Nat.le_of_ble_eq_true rfl), (Nat.le_of_ble_eq_true rfl)⟩ ⟨Nat.zero_le _, Nat.zero_le _⟩ dX6_number_28 (fun _ => rfl) (fun _ => rfl) (fun _ => rfl) (fun u3 => ?_)
      refine r_iload_n C 0 dX6_number_31 rfl ?_
      exact r_reti (x := M.1 14) (rv := (fun u => some (.int u.1))) (hpE := (fun u => w_X6 u.2)) (t0 := (M.1 14, u3)) C dX6_number_32 (by rfl) (by rfl) (by rfl)
    · refine r_iconst C (1) dX6_number_23 rfl ?_
      refine r_goto C 28 dX6_number_24 (by decide) ?_
      refine r_callV0 C (o_X6_must l M (1 : Int32)) v_X6_must m_1355 [.int (1 : Int32)] [] (50) (Or.inl ⟨0, 5, _, TX6, 25, rfl, rfl, rfl⟩) (fun u4 => []) (fun u4 => [.inr (5, [.ref 51, .ref 52, .ref 53, .int (u4.1 3), .ref 54, .ref 55, .ref 56, .int (u4.1 7), .ref 57, .ref 58, .int (u4.1 10), .int (u4.1 11), .int (u4.1 12), .int (u4.1 13), .int (u4.1 14), .int (u4.1 15), .ref 59, .ref 60, .int (u4.1 18), .int (u4.1 19), .int (u4.1 20), .ref 61, .ref 62, .ref 63, .ref 64]), .inl (0, 68, .inl (u4.2 0)), .inl (0, 68, .inl (u4.2 1)), .inl (0, 68, .inl (u4.2 2)), .inl (0, 8, .inl (u4.2 4)), .inl (0, 1053, .inl (u4.2 5)), .inl (1, 972, .inl (u4.2 6)), .inl (0, 1053, .inl (u4.2 8)), .inl (0, 120, .inl (u4.2 9)), .inl (3, 7, .inr (.inr (.inr (.inr q_kf)))), .inl (0, 360, .inl (u4.2 17)), .inl (0, 4, .inl (u4.2 21)), .inl (0, 4, .inl (u4.2 22)), .inl (0, 160, .inl (u4.2 23)), .inl (0, 40, .inl (u4.2 24))]) rfl rfl rfl (Nat.le_of_ble_eq_true rfl) ⟨(Nat.le_of_ble_eq_true rfl), (Nat.le_of_ble_eq_true rfl)⟩ ⟨Nat.zero_le _, Nat.zero_le _⟩ dX6_number_28 (fun _ => rfl) (fun _ => rfl) (fun _ => rfl) (fun u4 => ?_)
      refine r_iload_n C 0 dX6_number_31 rfl ?_
      exact r_reti (x := M.1 14) (rv := (fun u => some (.int u.1))) (hpE := (fun u => w_X6 u.2)) (t0 := (M.1 14, u4)) C dX6_number_32 (by rfl) (by rfl) (by rfl)
  · refine r_iconst C (0) dX6_number_27 rfl ?_
    refine r_callV0 C (o_X6_must l M (0 : Int32)) v_X6_must m_1355 [.int (0 : Int32)] [] (50) (Or.inl ⟨0, 5, _, TX6, 25, rfl, rfl, rfl⟩) (fun u1 => []) (fun u1 => [.inr (5, [.ref 51, .ref 52, .ref 53, .int (u1.1 3), .ref 54, .ref 55, .ref 56, .int (u1.1 7), .ref 57, .ref 58, .int (u1.1 10), .int (u1.1 11), .int (u1.1 12), .int (u1.1 13), .int (u1.1 14), .int (u1.1 15), .ref 59, .ref 60, .int (u1.1 18), .int (u1.1 19), .int (u1.1 20), .ref 61, .ref 62, .ref 63, .ref 64]), .inl (0, 68, .inl (u1.2 0)), .inl (0, 68, .inl (u1.2 1)), .inl (0, 68, .inl (u1.2 2)), .inl (0, 8, .inl (u1.2 4)), .inl (0, 1053, .inl (u1.2 5)), .inl (1, 972, .inl (u1.2 6)), .inl (0, 1053, .inl (u1.2 8)), .inl (0, 120, .inl (u1.2 9)), .inl (3, 7, .inr (.inr (.inr (.inr q_kf)))), .inl (0, 360, .inl (u1.2 17)), .inl (0, 4, .inl (u1.2 21)), .inl (0, 4, .inl (u1.2 22)), .inl (0, 160, .inl (u1.2 23)), .inl (0, 40, .inl (u1.2 24))]) rfl rfl rfl (Nat.le_of_ble_eq_true rfl) ⟨(Nat.le_of_ble_eq_true rfl), (Nat.le_of_ble_eq_true rfl)⟩ ⟨Nat.zero_le _, Nat.zero_le _⟩ dX6_number_28 (fun _ => rfl) (fun _ => rfl) (fun _ => rfl) (fun u1 => ?_)
    refine r_iload_n C 0 dX6_number_31 rfl ?_
    exact r_reti (x := M.1 14) (rv := (fun u => some (.int u.1))) (hpE := (fun u => w_X6 u.2)) (t0 := (M.1 14, u1)) C dX6_number_32 (by rfl) (by rfl) (by rfl)
set_option maxRecDepth 100000 in
set_option maxHeartbeats 4000000 in
theorem o_X6_item (l : Launch) (M : q_St) (a1 : Int32) (a2 : Int32) (a3 : Int32) : q_Ok l yX6_item cX6_item 5 none 0 0 [.ref 50, .int a1, .int a2, .int a3] (w_X6 M) (f_X6_item M a1 a2 a3) (fun _ => none) (fun u => w_X6 u) := by
  refine q_enter (by decide +kernel) (Nat.le_of_ble_eq_true rfl) (fun t p e s m args below meth c dC dI dA A α C => ?_)
  refine r_cut (f_X6_item.eq_1 _ _ _ _) ?_
  show q_S p l e (q_rm 0 0) s m args below meth c 5 dC dI dA A α (MQ below (q_Q α dC dI dA A ((fun _ => none) t) ((fun u => w_X6 u) t)) args s 0 0 A) 0 0 _ t 0 [(0, .ref 50), (1, .int a1), (2, .int a2), (3, .int a3)] [] (w_X6 M)
  refine r_iconst C (3) dX6_item_0 rfl ?_
  refine r_aload_n C 0 dX6_item_1 rfl ?_
  refine r_get C 0 18 dX6_item_2 K_X6 rfl rfl (Nat.le_of_ble_eq_true rfl) rfl m_933 rfl ?_
  refine r_imul C dX6_item_5 ?_
  refine r_istore C [(4, .int ((3 : Int32) * M.1 18)), (0, .ref 50), (1, .int a1), (2, .int a2), (3, .int a3)] dX6_item_6 (Nat.le_of_ble_eq_true rfl) rfl ?_
  refine r_aload_n C 1 dX6_item_8 rfl ?_
  refine r_get C 0 17 dX6_item_9 K_X6 rfl rfl (Nat.le_of_ble_eq_true rfl) rfl m_932 rfl ?_
  refine r_iload C 0 dX6_item_12 rfl ?_
  refine r_iload_n C 2 dX6_item_14 rfl ?_
  refine r_iast C 10 _ dX6_item_15 rfl rfl rfl (fun hi15 => ?_)
  refine r_aload_n C 1 dX6_item_16 rfl ?_
  refine r_get C 0 17 dX6_item_17 K_X6 rfl rfl (Nat.le_of_ble_eq_true rfl) rfl m_932 rfl ?_
  refine r_iload C 0 dX6_item_20 rfl ?_
  refine r_iconst C (1) dX6_item_22 rfl ?_
  refine r_iadd C dX6_item_23 ?_
  refine r_iload_n C 3 dX6_item_24 rfl ?_
  refine r_iast C 10 _ dX6_item_25 rfl rfl rfl (fun hi25 => ?_)
  refine r_aload_n C 1 dX6_item_26 rfl ?_
  refine r_get C 0 17 dX6_item_27 K_X6 rfl rfl (Nat.le_of_ble_eq_true rfl) rfl m_932 rfl ?_
  refine r_iload C 0 dX6_item_30 rfl ?_
  refine r_iconst C (2) dX6_item_32 rfl ?_
  refine r_iadd C dX6_item_33 ?_
  refine r_iload_n C 4 dX6_item_34 rfl ?_
  refine r_iast C 10 _ dX6_item_35 rfl rfl rfl (fun hi35 => ?_)
  refine r_aload_n C 1 dX6_item_36 rfl ?_
  refine r_dup C dX6_item_37 rfl ?_
  refine r_get C 0 18 dX6_item_38 K_X6 rfl rfl (Nat.le_of_ble_eq_true rfl) rfl m_933 rfl ?_
  refine r_iconst C (1) dX6_item_41 rfl ?_
  refine r_iadd C dX6_item_42 ?_
  refine r_put C 0 18 _ dX6_item_43 K_X6 rfl rfl (Nat.le_of_ble_eq_true rfl) rfl m_933 rfl (fun _ => rfl) (fun _ => rfl) (Nat.le_of_ble_eq_true rfl) rfl ?_
  exact r_retv (rv := (fun _ => none)) (hpE := (fun u => w_X6 u)) (t0 := ((va_up M.1 18 (M.1 18 + (1 : Int32))), (va_up M.2 17 (upd (upd (upd (M.2 17) ((3 : Int32) * M.1 18).toNatClampNeg a1) (((3 : Int32) * M.1 18) + (1 : Int32)).toNatClampNeg a2) (((3 : Int32) * M.1 18) + (2 : Int32)).toNatClampNeg a3)))) C dX6_item_46 (by rfl) (by rfl) (by rfl)
set_option maxRecDepth 100000 in
set_option maxHeartbeats 4000000 in
theorem k_X6_kindTold_4 {p : Program} {l : Launch} {e : Env} {s : State} {m : MethodId} {args : Array Value} {below : List Frame} {meth : Method} {c : Code} {dC : Nat → ClassId} {dI : Nat → Nat → Nat} {dA : Nat → ClassId} {A : Nat → Prop} {α : Nat → Nat} {t : Int32} (C : q_Cx p s m args meth c cX6_kindTold 3 RX6 (some .int) "kindTold" dC dI dA A α) (M : q_St)  : ∀ (n : Nat) (x1 : Int32) (x2 : Int32), q_S p l e (q_rm 5 108) s m args below meth c 3 dC dI dA A α (MQ below (q_Q α dC dI dA A ((fun u => some (.int u)) t) ((fun u => w_X6 M) t)) args s 0 0 A) 0 0 (f_X6_kindTold_4 M  n x1 x2) t 4 [(0, .ref 50), (1, .int x1), (2, .int x2)] [] (w_X6 M) := by
  intro n
  induction n with
  | zero =>
    intro x1 x2
    exact r_cut (f_X6_kindTold_4.eq_1 _ _ _) (r_none True.intro)
  | succ n ih =>
    intro x1 x2
    refine r_cut (f_X6_kindTold_4.eq_2 _ _ _ _) ?_
    refine r_iload_n C 2 dX6_kindTold_4 rfl ?_
    refine r_aload_n C 0 dX6_kindTold_5 rfl ?_
    refine r_get C 0 16 dX6_kindTold_6 K_X6 rfl rfl (Nat.le_of_ble_eq_true rfl) rfl m_931 rfl ?_
    refine r_alen C 9 (7) dX6_kindTold_9 rfl rfl rfl rfl ?_
    refine r_icmp_ge C 38 dX6_kindTold_10 (by decide) (fun h10 => ?_) (fun h10 => ?_)
    · refine r_iload_n C 1 dX6_kindTold_38 rfl ?_
      exact r_reti (x := x1) (rv := (fun u => some (.int u))) (hpE := (fun u => w_X6 M)) (t0 := x1) C dX6_kindTold_39 (by rfl) (by rfl) (by rfl)
    · refine r_aload_n C 0 dX6_kindTold_13 rfl ?_
      refine r_aload_n C 0 dX6_kindTold_14 rfl ?_
      refine r_get C 0 16 dX6_kindTold_15 K_X6 rfl rfl (Nat.le_of_ble_eq_true rfl) rfl m_931 rfl ?_
      refine r_iload_n C 2 dX6_kindTold_18 rfl ?_
      refine r_aldq C 9 dX6_kindTold_19 rfl rfl rfl (fun hi19 => ?_)
      rw [q_kf_at (Nat.not_le.mp fun z => hi19 (Or.inr z))]
      refine r_callV0 C (o_X6_isWord l M x2.toNatClampNeg (Nat.lt_trans (Nat.not_le.mp fun z => hi19 (Or.inr z)) (Nat.le_of_ble_eq_true rfl))) v_X6_isWord m_1349 [.ref x2.toNatClampNeg] [] (50) (Or.inl ⟨0, 5, _, TX6, 25, rfl, rfl, rfl⟩) (fun u1 => [.int u1]) (fun u1 => [.inr (5, [.ref 51, .ref 52, .ref 53, .int (M.1 3), .ref 54, .ref 55, .ref 56, .int (M.1 7), .ref 57, .ref 58, .int (M.1 10), .int (M.1 11), .int (M.1 12), .int (M.1 13), .int (M.1 14), .int (M.1 15), .ref 59, .ref 60, .int (M.1 18), .int (M.1 19), .int (M.1 20), .ref 61, .ref 62, .ref 63, .ref 64]), .inl (0, 68, .inl (M.2 0)), .inl (0, 68, .inl (M.2 1)), .inl (0, 68, .inl (M.2 2)), .inl (0, 8, .inl (M.2 4)), .inl (0, 1053, .inl (M.2 5)), .inl (1, 972, .inl (M.2 6)), .inl (0, 1053, .inl (M.2 8)), .inl (0, 120, .inl (M.2 9)), .inl (3, 7, .inr (.inr (.inr (.inr q_kf)))), .inl (0, 360, .inl (M.2 17)), .inl (0, 4, .inl (M.2 21)), .inl (0, 4, .inl (M.2 22)), .inl (0, 160, .inl (M.2 23)), .inl (0, 40, .inl (M.2 24))]) rfl rfl rfl (Nat.le_of_ble_eq_true rfl) ⟨(Nat.le_of_ble_eq_true rfl), (Nat.le_of_ble_eq_true rfl)⟩ ⟨Nat.zero_le _, Nat.zero_le _⟩ dX6_kindTold_20 (fun _ => rfl) (fun _ => rfl) (fun _ => rfl) (fun u1 => ?_)
      refine r_if_eq C 30 dX6_kindTold_23 (by decide) (fun h23 => ?_) (fun h23 => ?_)
      · refine r_iload_n C 1 dX6_kindTold_30 rfl ?_
        refine r_istore_n C [(1, .int x1), (0, .ref 50), (2, .int x2)] dX6_kindTold_31 (Nat.le_of_ble_eq_true rfl) rfl ?_
        refine r_iinc C 2 (x2 + 1) [(2, .int (x2 + 1)), (1, .int x1), (0, .ref 50)] dX6_kindTold_32 rfl rfl (Nat.le_of_ble_eq_true rfl) rfl ?_
        refine r_goto C 4 dX6_kindTold_35 (by decide) ?_
        refine r_lv [(0, .ref 50), (1, .int x1), (2, .int (x2 + 1))] [2, 1, 0] rfl ?_
        exact ih x1 (x2 + 1)
      · refine r_iload_n C 2 dX6_kindTold_26 rfl ?_
        refine r_goto C 31 dX6_kindTold_27 (by decide) ?_
        refine r_istore_n C [(1, .int x2), (0, .ref 50), (2, .int x2)] dX6_kindTold_31 (Nat.le_of_ble_eq_true rfl) rfl ?_
        refine r_iinc C 2 (x2 + 1) [(2, .int (x2 + 1)), (1, .int x2), (0, .ref 50)] dX6_kindTold_32 rfl rfl (Nat.le_of_ble_eq_true rfl) rfl ?_
        refine r_goto C 4 dX6_kindTold_35 (by decide) ?_
        refine r_lv [(0, .ref 50), (1, .int x2), (2, .int (x2 + 1))] [2, 1, 0] rfl ?_
        exact ih x2 (x2 + 1)
set_option maxRecDepth 100000 in
set_option maxHeartbeats 4000000 in
theorem o_X6_kindTold (l : Launch) (M : q_St) : q_Ok l yX6_kindTold cX6_kindTold 3 (some .int) 5 108 [.ref 50] (w_X6 M) (f_X6_kindTold M) (fun u => some (.int u)) (fun u => w_X6 M) := by
  refine q_enter (by decide +kernel) (Nat.le_of_ble_eq_true rfl) (fun t p e s m args below meth c dC dI dA A α C => ?_)
  refine r_cut (f_X6_kindTold.eq_1 _) ?_
  show q_S p l e (q_rm 5 108) s m args below meth c 3 dC dI dA A α (MQ below (q_Q α dC dI dA A ((fun u => some (.int u)) t) ((fun u => w_X6 M) t)) args s 0 0 A) 0 0 _ t 0 [(0, .ref 50)] [] (w_X6 M)
  refine r_iconst C (-1) dX6_kindTold_0 rfl ?_
  refine r_istore_n C [(1, .int (-1 : Int32)), (0, .ref 50)] dX6_kindTold_1 (Nat.le_of_ble_eq_true rfl) rfl ?_
  refine r_iconst C (0) dX6_kindTold_2 rfl ?_
  refine r_istore_n C [(2, .int (0 : Int32)), (1, .int (-1 : Int32)), (0, .ref 50)] dX6_kindTold_3 (Nat.le_of_ble_eq_true rfl) rfl ?_
  refine r_lv [(0, .ref 50), (1, .int (-1 : Int32)), (2, .int (0 : Int32))] [2, 1, 0] rfl ?_
  exact k_X6_kindTold_4 C M   q_N (-1 : Int32) (0 : Int32)
set_option maxRecDepth 100000 in
set_option maxHeartbeats 4000000 in
theorem o_X6_isNext (l : Launch) (M : q_St) (a1 : Nat) (hj : a1 < 13) : q_Ok l yX6_isNext cX6_isNext 3 (some .boolean) 5 108 [.ref 50, .ref a1] (w_X6 M) (f_X6_isNext M a1) (fun u => some (.int u.1)) (fun u => w_X6 u.2) := by
  refine q_enter (by decide +kernel) (Nat.le_of_ble_eq_true rfl) (fun t p e s m args below meth c dC dI dA A α C => ?_)
  refine r_cut (f_X6_isNext.eq_1 _ _) ?_
  show q_S p l e (q_rm 5 108) s m args below meth c 3 dC dI dA A α (MQ below (q_Q α dC dI dA A ((fun u => some (.int u.1)) t) ((fun u => w_X6 u.2) t)) args s 0 0 A) 0 0 _ t 0 [(0, .ref 50), (1, .ref a1)] [] (w_X6 M)
  refine r_aload_n C 0 dX6_isNext_0 rfl ?_
  refine r_get C 0 15 dX6_isNext_1 K_X6 rfl rfl (Nat.le_of_ble_eq_true rfl) rfl m_930 rfl ?_
  refine r_if_ne C 19 dX6_isNext_4 (by decide) (fun h4 => ?_) (fun h4 => ?_)
  · refine r_aload_n C 0 dX6_isNext_7 rfl ?_
    refine r_aload_n C 1 dX6_isNext_8 rfl ?_
    refine r_callV0 C (o_X6_isWord l M a1 hj) v_X6_isWord m_1349 [.ref a1] [] (50) (Or.inl ⟨0, 5, _, TX6, 25, rfl, rfl, rfl⟩) (fun u2 => [.int u2]) (fun u2 => [.inr (5, [.ref 51, .ref 52, .ref 53, .int (M.1 3), .ref 54, .ref 55, .ref 56, .int (M.1 7), .ref 57, .ref 58, .int (M.1 10), .int (M.1 11), .int (M.1 12), .int (M.1 13), .int (M.1 14), .int (M.1 15), .ref 59, .ref 60, .int (M.1 18), .int (M.1 19), .int (M.1 20), .ref 61, .ref 62, .ref 63, .ref 64]), .inl (0, 68, .inl (M.2 0)), .inl (0, 68, .inl (M.2 1)), .inl (0, 68, .inl (M.2 2)), .inl (0, 8, .inl (M.2 4)), .inl (0, 1053, .inl (M.2 5)), .inl (1, 972, .inl (M.2 6)), .inl (0, 1053, .inl (M.2 8)), .inl (0, 120, .inl (M.2 9)), .inl (3, 7, .inr (.inr (.inr (.inr q_kf)))), .inl (0, 360, .inl (M.2 17)), .inl (0, 4, .inl (M.2 21)), .inl (0, 4, .inl (M.2 22)), .inl (0, 160, .inl (M.2 23)), .inl (0, 40, .inl (M.2 24))]) rfl rfl rfl (Nat.le_of_ble_eq_true rfl) ⟨(Nat.le_of_ble_eq_true rfl), (Nat.le_of_ble_eq_true rfl)⟩ ⟨Nat.zero_le _, Nat.zero_le _⟩ dX6_isNext_9 (fun _ => rfl) (fun _ => rfl) (fun _ => rfl) (fun u2 => ?_)
    refine r_if_eq C 19 dX6_isNext_12 (by decide) (fun h12 => ?_) (fun h12 => ?_)
    · refine r_iconst C (0) dX6_isNext_19 rfl ?_
      refine r_istore_n C [(2, .int (0 : Int32)), (0, .ref 50), (1, .ref a1)] dX6_isNext_20 (Nat.le_of_ble_eq_true rfl) rfl ?_
      refine r_iload_n C 0 dX6_isNext_21 rfl ?_
      refine r_if_eq C 30 dX6_isNext_22 (by decide) (fun h22 => ?_) (fun h22 => ?_)
      · refine r_iload_n C 0 dX6_isNext_30 rfl ?_
        exact r_retz (x := (0 : Int32)) (rv := (fun u => some (.int u.1))) (hpE := (fun u => w_X6 u.2)) (t0 := ((0 : Int32), M)) C dX6_isNext_31 (by rfl) (by rfl) (by rfl) (by rfl)
      · refine r_aload_n C 1 dX6_isNext_25 rfl ?_
        refine r_iconst C (1) dX6_isNext_26 rfl ?_
        refine r_callV0 C (o_X6_must l M (1 : Int32)) v_X6_must m_1355 [.int (1 : Int32)] [] (50) (Or.inl ⟨0, 5, _, TX6, 25, rfl, rfl, rfl⟩) (fun u3 => []) (fun u3 => [.inr (5, [.ref 51, .ref 52, .ref 53, .int (u3.1 3), .ref 54, .ref 55, .ref 56, .int (u3.1 7), .ref 57, .ref 58, .int (u3.1 10), .int (u3.1 11), .int (u3.1 12), .int (u3.1 13), .int (u3.1 14), .int (u3.1 15), .ref 59, .ref 60, .int (u3.1 18), .int (u3.1 19), .int (u3.1 20), .ref 61, .ref 62, .ref 63, .ref 64]), .inl (0, 68, .inl (u3.2 0)), .inl (0, 68, .inl (u3.2 1)), .inl (0, 68, .inl (u3.2 2)), .inl (0, 8, .inl (u3.2 4)), .inl (0, 1053, .inl (u3.2 5)), .inl (1, 972, .inl (u3.2 6)), .inl (0, 1053, .inl (u3.2 8)), .inl (0, 120, .inl (u3.2 9)), .inl (3, 7, .inr (.inr (.inr (.inr q_kf)))), .inl (0, 360, .inl (u3.2 17)), .inl (0, 4, .inl (u3.2 21)), .inl (0, 4, .inl (u3.2 22)), .inl (0, 160, .inl (u3.2 23)), .inl (0, 40, .inl (u3.2 24))]) rfl rfl rfl (Nat.le_of_ble_eq_true rfl) ⟨(Nat.le_of_ble_eq_true rfl), (Nat.le_of_ble_eq_true rfl)⟩ ⟨Nat.zero_le _, Nat.zero_le _⟩ dX6_isNext_27 (fun _ => rfl) (fun _ => rfl) (fun _ => rfl) (fun u3 => ?_)
        refine r_iload_n C 0 dX6_isNext_30 rfl ?_
        exact r_retz (x := (0 : Int32)) (rv := (fun u => some (.int u.1))) (hpE := (fun u => w_X6 u.2)) (t0 := ((0 : Int32), u3)) C dX6_isNext_31 (by rfl) (by rfl) (by rfl) (by rfl)
    · refine r_iconst C (1) dX6_isNext_15 rfl ?_
      refine r_goto C 20 dX6_isNext_16 (by decide) ?_
      refine r_istore_n C [(2, .int (1 : Int32)), (0, .ref 50), (1, .ref a1)] dX6_isNext_20 (Nat.le_of_ble_eq_true rfl) rfl ?_
      refine r_iload_n C 0 dX6_isNext_21 rfl ?_
      refine r_if_eq C 30 dX6_isNext_22 (by decide) (fun h22 => ?_) (fun h22 => ?_)
      · refine r_iload_n C 0 dX6_isNext_30 rfl ?_
        exact r_retz (x := (1 : Int32)) (rv := (fun u => some (.int u.1))) (hpE := (fun u => w_X6 u.2)) (t0 := ((1 : Int32), M)) C dX6_isNext_31 (by rfl) (by rfl) (by rfl) (by rfl)
      · refine r_aload_n C 1 dX6_isNext_25 rfl ?_
        refine r_iconst C (1) dX6_isNext_26 rfl ?_
        refine r_callV0 C (o_X6_must l M (1 : Int32)) v_X6_must m_1355 [.int (1 : Int32)] [] (50) (Or.inl ⟨0, 5, _, TX6, 25, rfl, rfl, rfl⟩) (fun u4 => []) (fun u4 => [.inr (5, [.ref 51, .ref 52, .ref 53, .int (u4.1 3), .ref 54, .ref 55, .ref 56, .int (u4.1 7), .ref 57, .ref 58, .int (u4.1 10), .int (u4.1 11), .int (u4.1 12), .int (u4.1 13), .int (u4.1 14), .int (u4.1 15), .ref 59, .ref 60, .int (u4.1 18), .int (u4.1 19), .int (u4.1 20), .ref 61, .ref 62, .ref 63, .ref 64]), .inl (0, 68, .inl (u4.2 0)), .inl (0, 68, .inl (u4.2 1)), .inl (0, 68, .inl (u4.2 2)), .inl (0, 8, .inl (u4.2 4)), .inl (0, 1053, .inl (u4.2 5)), .inl (1, 972, .inl (u4.2 6)), .inl (0, 1053, .inl (u4.2 8)), .inl (0, 120, .inl (u4.2 9)), .inl (3, 7, .inr (.inr (.inr (.inr q_kf)))), .inl (0, 360, .inl (u4.2 17)), .inl (0, 4, .inl (u4.2 21)), .inl (0, 4, .inl (u4.2 22)), .inl (0, 160, .inl (u4.2 23)), .inl (0, 40, .inl (u4.2 24))]) rfl rfl rfl (Nat.le_of_ble_eq_true rfl) ⟨(Nat.le_of_ble_eq_true rfl), (Nat.le_of_ble_eq_true rfl)⟩ ⟨Nat.zero_le _, Nat.zero_le _⟩ dX6_isNext_27 (fun _ => rfl) (fun _ => rfl) (fun _ => rfl) (fun u4 => ?_)
        refine r_iload_n C 0 dX6_isNext_30 rfl ?_
        exact r_retz (x := (1 : Int32)) (rv := (fun u => some (.int u.1))) (hpE := (fun u => w_X6 u.2)) (t0 := ((1 : Int32), u4)) C dX6_isNext_31 (by rfl) (by rfl) (by rfl) (by rfl)
  · refine r_iconst C (0) dX6_isNext_19 rfl ?_
    refine r_istore_n C [(2, .int (0 : Int32)), (0, .ref 50), (1, .ref a1)] dX6_isNext_20 (Nat.le_of_ble_eq_true rfl) rfl ?_
    refine r_iload_n C 0 dX6_isNext_21 rfl ?_
    refine r_if_eq C 30 dX6_isNext_22 (by decide) (fun h22 => ?_) (fun h22 => ?_)
    · refine r_iload_n C 0 dX6_isNext_30 rfl ?_
      exact r_retz (x := (0 : Int32)) (rv := (fun u => some (.int u.1))) (hpE := (fun u => w_X6 u.2)) (t0 := ((0 : Int32), M)) C dX6_isNext_31 (by rfl) (by rfl) (by rfl) (by rfl)
    · refine r_aload_n C 1 dX6_isNext_25 rfl ?_
      refine r_iconst C (1) dX6_isNext_26 rfl ?_
      refine r_callV0 C (o_X6_must l M (1 : Int32)) v_X6_must m_1355 [.int (1 : Int32)] [] (50) (Or.inl ⟨0, 5, _, TX6, 25, rfl, rfl, rfl⟩) (fun u1 => []) (fun u1 => [.inr (5, [.ref 51, .ref 52, .ref 53, .int (u1.1 3), .ref 54, .ref 55, .ref 56, .int (u1.1 7), .ref 57, .ref 58, .int (u1.1 10), .int (u1.1 11), .int (u1.1 12), .int (u1.1 13), .int (u1.1 14), .int (u1.1 15), .ref 59, .ref 60, .int (u1.1 18), .int (u1.1 19), .int (u1.1 20), .ref 61, .ref 62, .ref 63, .ref 64]), .inl (0, 68, .inl (u1.2 0)), .inl (0, 68, .inl (u1.2 1)), .inl (0, 68, .inl (u1.2 2)), .inl (0, 8, .inl (u1.2 4)), .inl (0, 1053, .inl (u1.2 5)), .inl (1, 972, .inl (u1.2 6)), .inl (0, 1053, .inl (u1.2 8)), .inl (0, 120, .inl (u1.2 9)), .inl (3, 7, .inr (.inr (.inr (.inr q_kf)))), .inl (0, 360, .inl (u1.2 17)), .inl (0, 4, .inl (u1.2 21)), .inl (0, 4, .inl (u1.2 22)), .inl (0, 160, .inl (u1.2 23)), .inl (0, 40, .inl (u1.2 24))]) rfl rfl rfl (Nat.le_of_ble_eq_true rfl) ⟨(Nat.le_of_ble_eq_true rfl), (Nat.le_of_ble_eq_true rfl)⟩ ⟨Nat.zero_le _, Nat.zero_le _⟩ dX6_isNext_27 (fun _ => rfl) (fun _ => rfl) (fun _ => rfl) (fun u1 => ?_)
      refine r_iload_n C 0 dX6_isNext_30 rfl ?_
      exact r_retz (x := (0 : Int32)) (rv := (fun u => some (.int u.1))) (hpE := (fun u => w_X6 u.2)) (t0 := ((0 : Int32), u1)) C dX6_isNext_31 (by rfl) (by rfl) (by rfl) (by rfl)
set_option maxRecDepth 100000 in
set_option maxHeartbeats 4000000 in
theorem k_X6_readItem_92 {p : Program} {l : Launch} {e : Env} {s : State} {m : MethodId} {args : Array Value} {below : List Frame} {meth : Method} {c : Code} {dC : Nat → ClassId} {dI : Nat → Nat → Nat} {dA : Nat → ClassId} {A : Nat → Prop} {α : Nat → Nat} {t : q_St} (C : q_Cx p s m args meth c cX6_readItem 3 RX6 none "readItem" dC dI dA A α) (M : q_St)  : ∀ (s0 : Int32) (M' : q_St), q_S p l e (q_rm 6 130) s m args below meth c 3 dC dI dA A α (MQ below (q_Q α dC dI dA A ((fun _ => none) t) ((fun u => w_X6 u) t)) args s 0 0 A) 0 0 (f_X6_readItem_92 M  s0 M') t 92 [(0, .ref 50)] [.int s0, .ref 50] (w_X6 M') := by
  intro s0 M'
  refine r_cut (f_X6_readItem_92.eq_1 _ _ _) ?_
  refine r_callV0 C (o_X6_must l M' s0) v_X6_must m_1355 [.int s0] [] (50) (Or.inl ⟨0, 5, _, TX6, 25, rfl, rfl, rfl⟩) (fun u11 => []) (fun u11 => [.inr (5, [.ref 51, .ref 52, .ref 53, .int (u11.1 3), .ref 54, .ref 55, .ref 56, .int (u11.1 7), .ref 57, .ref 58, .int (u11.1 10), .int (u11.1 11), .int (u11.1 12), .int (u11.1 13), .int (u11.1 14), .int (u11.1 15), .ref 59, .ref 60, .int (u11.1 18), .int (u11.1 19), .int (u11.1 20), .ref 61, .ref 62, .ref 63, .ref 64]), .inl (0, 68, .inl (u11.2 0)), .inl (0, 68, .inl (u11.2 1)), .inl (0, 68, .inl (u11.2 2)), .inl (0, 8, .inl (u11.2 4)), .inl (0, 1053, .inl (u11.2 5)), .inl (1, 972, .inl (u11.2 6)), .inl (0, 1053, .inl (u11.2 8)), .inl (0, 120, .inl (u11.2 9)), .inl (3, 7, .inr (.inr (.inr (.inr q_kf)))), .inl (0, 360, .inl (u11.2 17)), .inl (0, 4, .inl (u11.2 21)), .inl (0, 4, .inl (u11.2 22)), .inl (0, 160, .inl (u11.2 23)), .inl (0, 40, .inl (u11.2 24))]) rfl rfl rfl (Nat.le_of_ble_eq_true rfl) ⟨(Nat.le_of_ble_eq_true rfl), (Nat.le_of_ble_eq_true rfl)⟩ ⟨Nat.zero_le _, Nat.zero_le _⟩ dX6_readItem_92 (fun _ => rfl) (fun _ => rfl) (fun _ => rfl) (fun u11 => ?_)
  refine r_aload_n C 0 dX6_readItem_95 rfl ?_
  refine r_dup C dX6_readItem_96 rfl ?_
  refine r_get C 0 20 dX6_readItem_97 K_X6 rfl rfl (Nat.le_of_ble_eq_true rfl) rfl m_935 rfl ?_
  refine r_iconst C (1) dX6_readItem_100 rfl ?_
  refine r_iadd C dX6_readItem_101 ?_
  refine r_put C 0 20 _ dX6_readItem_102 K_X6 rfl rfl (Nat.le_of_ble_eq_true rfl) rfl m_935 rfl (fun _ => rfl) (fun _ => rfl) (Nat.le_of_ble_eq_true rfl) rfl ?_
  refine r_aload_n C 0 dX6_readItem_105 rfl ?_
  refine r_iconst C (0) dX6_readItem_106 rfl ?_
  refine r_iconst C (1) dX6_readItem_107 rfl ?_
  refine r_aload_n C 0 dX6_readItem_108 rfl ?_
  refine r_get C 0 19 dX6_readItem_109 K_X6 rfl rfl (Nat.le_of_ble_eq_true rfl) rfl m_934 rfl ?_
  refine r_ishl C dX6_readItem_112 ?_
  refine r_iconst C (1) dX6_readItem_113 rfl ?_
  refine r_isub C dX6_readItem_114 ?_
  refine r_callV0 C (o_X6_number l ((va_up u11.1 20 (u11.1 20 + (1 : Int32))), u11.2) (0 : Int32) (((1 : Int32) <<< (u11.1 19 &&& 31)) - (1 : Int32))) v_X6_number m_1364 [.int (0 : Int32), .int (((1 : Int32) <<< (u11.1 19 &&& 31)) - (1 : Int32))] [] (50) (Or.inl ⟨0, 5, _, TX6, 25, rfl, rfl, rfl⟩) (fun u12 => [.int u12.1]) (fun u12 => [.inr (5, [.ref 51, .ref 52, .ref 53, .int (u12.2.1 3), .ref 54, .ref 55, .ref 56, .int (u12.2.1 7), .ref 57, .ref 58, .int (u12.2.1 10), .int (u12.2.1 11), .int (u12.2.1 12), .int (u12.2.1 13), .int (u12.2.1 14), .int (u12.2.1 15), .ref 59, .ref 60, .int (u12.2.1 18), .int (u12.2.1 19), .int (u12.2.1 20), .ref 61, .ref 62, .ref 63, .ref 64]), .inl (0, 68, .inl (u12.2.2 0)), .inl (0, 68, .inl (u12.2.2 1)), .inl (0, 68, .inl (u12.2.2 2)), .inl (0, 8, .inl (u12.2.2 4)), .inl (0, 1053, .inl (u12.2.2 5)), .inl (1, 972, .inl (u12.2.2 6)), .inl (0, 1053, .inl (u12.2.2 8)), .inl (0, 120, .inl (u12.2.2 9)), .inl (3, 7, .inr (.inr (.inr (.inr q_kf)))), .inl (0, 360, .inl (u12.2.2 17)), .inl (0, 4, .inl (u12.2.2 21)), .inl (0, 4, .inl (u12.2.2 22)), .inl (0, 160, .inl (u12.2.2 23)), .inl (0, 40, .inl (u12.2.2 24))]) rfl rfl rfl (Nat.le_of_ble_eq_true rfl) ⟨(Nat.le_of_ble_eq_true rfl), (Nat.le_of_ble_eq_true rfl)⟩ ⟨Nat.zero_le _, Nat.zero_le _⟩ dX6_readItem_115 (fun _ => rfl) (fun _ => rfl) (fun _ => rfl) (fun u12 => ?_)
  refine r_istore_n C [(2, .int u12.1), (0, .ref 50)] dX6_readItem_118 (Nat.le_of_ble_eq_true rfl) rfl ?_
  refine r_aload_n C 1 dX6_readItem_119 rfl ?_
  refine r_bipush C (10) dX6_readItem_120 rfl ?_
  refine r_iload_n C 0 dX6_readItem_122 rfl ?_
  refine r_aload_n C 1 dX6_readItem_123 rfl ?_
  refine r_ldcSw C "speaks" 11 dX6_readItem_124 (by decide +kernel) ?_
  refine r_callV0 C (o_X6_isNext l u12.2 11 (by decide)) v_X6_isNext m_1360 [.ref 11] [.int u12.1, .int (10 : Int32), .ref 50] (50) (Or.inl ⟨0, 5, _, TX6, 25, rfl, rfl, rfl⟩) (fun u13 => [.int u13.1, .int u12.1, .int (10 : Int32), .ref 50]) (fun u13 => [.inr (5, [.ref 51, .ref 52, .ref 53, .int (u13.2.1 3), .ref 54, .ref 55, .ref 56, .int (u13.2.1 7), .ref 57, .ref 58, .int (u13.2.1 10), .int (u13.2.1 11), .int (u13.2.1 12), .int (u13.2.1 13), .int (u13.2.1 14), .int (u13.2.1 15), .ref 59, .ref 60, .int (u13.2.1 18), .int (u13.2.1 19), .int (u13.2.1 20), .ref 61, .ref 62, .ref 63, .ref 64]), .inl (0, 68, .inl (u13.2.2 0)), .inl (0, 68, .inl (u13.2.2 1)), .inl (0, 68, .inl (u13.2.2 2)), .inl (0, 8, .inl (u13.2.2 4)), .inl (0, 1053, .inl (u13.2.2 5)), .inl (1, 972, .inl (u13.2.2 6)), .inl (0, 1053, .inl (u13.2.2 8)), .inl (0, 120, .inl (u13.2.2 9)), .inl (3, 7, .inr (.inr (.inr (.inr q_kf)))), .inl (0, 360, .inl (u13.2.2 17)), .inl (0, 4, .inl (u13.2.2 21)), .inl (0, 4, .inl (u13.2.2 22)), .inl (0, 160, .inl (u13.2.2 23)), .inl (0, 40, .inl (u13.2.2 24))]) rfl rfl rfl (Nat.le_of_ble_eq_true rfl) ⟨(Nat.le_of_ble_eq_true rfl), (Nat.le_of_ble_eq_true rfl)⟩ ⟨Nat.zero_le _, Nat.zero_le _⟩ dX6_readItem_127 (fun _ => rfl) (fun _ => rfl) (fun _ => rfl) (fun u13 => ?_)
  refine r_if_eq C 147 dX6_readItem_130 (by decide) (fun h130 => ?_) (fun h130 => ?_)
  · refine r_iconst C (-1) dX6_readItem_147 rfl ?_
    refine r_callV0 C (o_X6_item l u13.2 (10 : Int32) u12.1 (-1 : Int32)) v_X6_item m_1368 [.int (10 : Int32), .int u12.1, .int (-1 : Int32)] [] (50) (Or.inl ⟨0, 5, _, TX6, 25, rfl, rfl, rfl⟩) (fun u14 => []) (fun u14 => [.inr (5, [.ref 51, .ref 52, .ref 53, .int (u14.1 3), .ref 54, .ref 55, .ref 56, .int (u14.1 7), .ref 57, .ref 58, .int (u14.1 10), .int (u14.1 11), .int (u14.1 12), .int (u14.1 13), .int (u14.1 14), .int (u14.1 15), .ref 59, .ref 60, .int (u14.1 18), .int (u14.1 19), .int (u14.1 20), .ref 61, .ref 62, .ref 63, .ref 64]), .inl (0, 68, .inl (u14.2 0)), .inl (0, 68, .inl (u14.2 1)), .inl (0, 68, .inl (u14.2 2)), .inl (0, 8, .inl (u14.2 4)), .inl (0, 1053, .inl (u14.2 5)), .inl (1, 972, .inl (u14.2 6)), .inl (0, 1053, .inl (u14.2 8)), .inl (0, 120, .inl (u14.2 9)), .inl (3, 7, .inr (.inr (.inr (.inr q_kf)))), .inl (0, 360, .inl (u14.2 17)), .inl (0, 4, .inl (u14.2 21)), .inl (0, 4, .inl (u14.2 22)), .inl (0, 160, .inl (u14.2 23)), .inl (0, 40, .inl (u14.2 24))]) rfl rfl rfl (Nat.le_of_ble_eq_true rfl) ⟨(Nat.le_of_ble_eq_true rfl), (Nat.le_of_ble_eq_true rfl)⟩ ⟨Nat.zero_le _, Nat.zero_le _⟩ dX6_readItem_148 (fun _ => rfl) (fun _ => rfl) (fun _ => rfl) (fun u14 => ?_)
    refine r_goto C 222 dX6_readItem_151 (by decide) ?_
    exact r_retv (rv := (fun _ => none)) (hpE := (fun u => w_X6 u)) (t0 := u14) C dX6_readItem_222 (by rfl) (by rfl) (by rfl)
  · refine r_aload_n C 1 dX6_readItem_133 rfl ?_
    refine r_iconst C (0) dX6_readItem_134 rfl ?_
    refine r_aload_n C 1 dX6_readItem_135 rfl ?_
    refine r_get C 0 19 dX6_readItem_136 K_X6 rfl rfl (Nat.le_of_ble_eq_true rfl) rfl m_934 rfl ?_
    refine r_iconst C (1) dX6_readItem_139 rfl ?_
    refine r_isub C dX6_readItem_140 ?_
    refine r_callV0 C (o_X6_number l u13.2 (0 : Int32) (u13.2.1 19 - (1 : Int32))) v_X6_number m_1364 [.int (0 : Int32), .int (u13.2.1 19 - (1 : Int32))] [.int u12.1, .int (10 : Int32), .ref 50] (50) (Or.inl ⟨0, 5, _, TX6, 25, rfl, rfl, rfl⟩) (fun u15 => [.int u15.1, .int u12.1, .int (10 : Int32), .ref 50]) (fun u15 => [.inr (5, [.ref 51, .ref 52, .ref 53, .int (u15.2.1 3), .ref 54, .ref 55, .ref 56, .int (u15.2.1 7), .ref 57, .ref 58, .int (u15.2.1 10), .int (u15.2.1 11), .int (u15.2.1 12), .int (u15.2.1 13), .int (u15.2.1 14), .int (u15.2.1 15), .ref 59, .ref 60, .int (u15.2.1 18), .int (u15.2.1 19), .int (u15.2.1 20), .ref 61, .ref 62, .ref 63, .ref 64]), .inl (0, 68, .inl (u15.2.2 0)), .inl (0, 68, .inl (u15.2.2 1)), .inl (0, 68, .inl (u15.2.2 2)), .inl (0, 8, .inl (u15.2.2 4)), .inl (0, 1053, .inl (u15.2.2 5)), .inl (1, 972, .inl (u15.2.2 6)), .inl (0, 1053, .inl (u15.2.2 8)), .inl (0, 120, .inl (u15.2.2 9)), .inl (3, 7, .inr (.inr (.inr (.inr q_kf)))), .inl (0, 360, .inl (u15.2.2 17)), .inl (0, 4, .inl (u15.2.2 21)), .inl (0, 4, .inl (u15.2.2 22)), .inl (0, 160, .inl (u15.2.2 23)), .inl (0, 40, .inl (u15.2.2 24))]) rfl rfl rfl (Nat.le_of_ble_eq_true rfl) ⟨(Nat.le_of_ble_eq_true rfl), (Nat.le_of_ble_eq_true rfl)⟩ ⟨Nat.zero_le _, Nat.zero_le _⟩ dX6_readItem_141 (fun _ => rfl) (fun _ => rfl) (fun _ => rfl) (fun u15 => ?_)
    refine r_goto C 148 dX6_readItem_144 (by decide) ?_
    refine r_callV0 C (o_X6_item l u15.2 (10 : Int32) u12.1 u15.1) v_X6_item m_1368 [.int (10 : Int32), .int u12.1, .int u15.1] [] (50) (Or.inl ⟨0, 5, _, TX6, 25, rfl, rfl, rfl⟩) (fun u16 => []) (fun u16 => [.inr (5, [.ref 51, .ref 52, .ref 53, .int (u16.1 3), .ref 54, .ref 55, .ref 56, .int (u16.1 7), .ref 57, .ref 58, .int (u16.1 10), .int (u16.1 11), .int (u16.1 12), .int (u16.1 13), .int (u16.1 14), .int (u16.1 15), .ref 59, .ref 60, .int (u16.1 18), .int (u16.1 19), .int (u16.1 20), .ref 61, .ref 62, .ref 63, .ref 64]), .inl (0, 68, .inl (u16.2 0)), .inl (0, 68, .inl (u16.2 1)), .inl (0, 68, .inl (u16.2 2)), .inl (0, 8, .inl (u16.2 4)), .inl (0, 1053, .inl (u16.2 5)), .inl (1, 972, .inl (u16.2 6)), .inl (0, 1053, .inl (u16.2 8)), .inl (0, 120, .inl (u16.2 9)), .inl (3, 7, .inr (.inr (.inr (.inr q_kf)))), .inl (0, 360, .inl (u16.2 17)), .inl (0, 4, .inl (u16.2 21)), .inl (0, 4, .inl (u16.2 22)), .inl (0, 160, .inl (u16.2 23)), .inl (0, 40, .inl (u16.2 24))]) rfl rfl rfl (Nat.le_of_ble_eq_true rfl) ⟨(Nat.le_of_ble_eq_true rfl), (Nat.le_of_ble_eq_true rfl)⟩ ⟨Nat.zero_le _, Nat.zero_le _⟩ dX6_readItem_148 (fun _ => rfl) (fun _ => rfl) (fun _ => rfl) (fun u16 => ?_)
    refine r_goto C 222 dX6_readItem_151 (by decide) ?_
    exact r_retv (rv := (fun _ => none)) (hpE := (fun u => w_X6 u)) (t0 := u16) C dX6_readItem_222 (by rfl) (by rfl) (by rfl)
set_option maxRecDepth 100000 in
set_option maxHeartbeats 4000000 in
theorem k_X6_readItem_24 {p : Program} {l : Launch} {e : Env} {s : State} {m : MethodId} {args : Array Value} {below : List Frame} {meth : Method} {c : Code} {dC : Nat → ClassId} {dI : Nat → Nat → Nat} {dA : Nat → ClassId} {A : Nat → Prop} {α : Nat → Nat} {t : q_St} (C : q_Cx p s m args meth c cX6_readItem 3 RX6 none "readItem" dC dI dA A α) (M : q_St)  : ∀ (x1 : Int32) (s0 : Int32) (M' : q_St), q_S p l e (q_rm 6 130) s m args below meth c 3 dC dI dA A α (MQ below (q_Q α dC dI dA A ((fun _ => none) t) ((fun u => w_X6 u) t)) args s 0 0 A) 0 0 (f_X6_readItem_24 M  x1 s0 M') t 24 [(0, .ref 50), (1, .int x1)] [.int s0, .ref 50] (w_X6 M') := by
  intro x1 s0 M'
  refine r_cut (f_X6_readItem_24.eq_1 _ _ _ _) ?_
  refine r_callV0 C (o_X6_must l M' s0) v_X6_must m_1355 [.int s0] [] (50) (Or.inl ⟨0, 5, _, TX6, 25, rfl, rfl, rfl⟩) (fun u17 => []) (fun u17 => [.inr (5, [.ref 51, .ref 52, .ref 53, .int (u17.1 3), .ref 54, .ref 55, .ref 56, .int (u17.1 7), .ref 57, .ref 58, .int (u17.1 10), .int (u17.1 11), .int (u17.1 12), .int (u17.1 13), .int (u17.1 14), .int (u17.1 15), .ref 59, .ref 60, .int (u17.1 18), .int (u17.1 19), .int (u17.1 20), .ref 61, .ref 62, .ref 63, .ref 64]), .inl (0, 68, .inl (u17.2 0)), .inl (0, 68, .inl (u17.2 1)), .inl (0, 68, .inl (u17.2 2)), .inl (0, 8, .inl (u17.2 4)), .inl (0, 1053, .inl (u17.2 5)), .inl (1, 972, .inl (u17.2 6)), .inl (0, 1053, .inl (u17.2 8)), .inl (0, 120, .inl (u17.2 9)), .inl (3, 7, .inr (.inr (.inr (.inr q_kf)))), .inl (0, 360, .inl (u17.2 17)), .inl (0, 4, .inl (u17.2 21)), .inl (0, 4, .inl (u17.2 22)), .inl (0, 160, .inl (u17.2 23)), .inl (0, 40, .inl (u17.2 24))]) rfl rfl rfl (Nat.le_of_ble_eq_true rfl) ⟨(Nat.le_of_ble_eq_true rfl), (Nat.le_of_ble_eq_true rfl)⟩ ⟨Nat.zero_le _, Nat.zero_le _⟩ dX6_readItem_24 (fun _ => rfl) (fun _ => rfl) (fun _ => rfl) (fun u17 => ?_)
  refine r_aload_n C 0 dX6_readItem_27 rfl ?_
  refine r_dup C dX6_readItem_28 rfl ?_
  refine r_get C 0 19 dX6_readItem_29 K_X6 rfl rfl (Nat.le_of_ble_eq_true rfl) rfl m_934 rfl ?_
  refine r_iconst C (1) dX6_readItem_32 rfl ?_
  refine r_iadd C dX6_readItem_33 ?_
  refine r_put C 0 19 _ dX6_readItem_34 K_X6 rfl rfl (Nat.le_of_ble_eq_true rfl) rfl m_934 rfl (fun _ => rfl) (fun _ => rfl) (Nat.le_of_ble_eq_true rfl) rfl ?_
  refine r_aload_n C 0 dX6_readItem_37 rfl ?_
  refine r_iload_n C 1 dX6_readItem_38 rfl ?_
  refine r_aload_n C 0 dX6_readItem_39 rfl ?_
  refine r_ldcSw C "size" 10 dX6_readItem_40 (by decide +kernel) ?_
  refine r_callV0 C (o_X6_isNext l ((va_up u17.1 19 (u17.1 19 + (1 : Int32))), u17.2) 10 (by decide)) v_X6_isNext m_1360 [.ref 10] [.int x1, .ref 50] (50) (Or.inl ⟨0, 5, _, TX6, 25, rfl, rfl, rfl⟩) (fun u18 => [.int u18.1, .int x1, .ref 50]) (fun u18 => [.inr (5, [.ref 51, .ref 52, .ref 53, .int (u18.2.1 3), .ref 54, .ref 55, .ref 56, .int (u18.2.1 7), .ref 57, .ref 58, .int (u18.2.1 10), .int (u18.2.1 11), .int (u18.2.1 12), .int (u18.2.1 13), .int (u18.2.1 14), .int (u18.2.1 15), .ref 59, .ref 60, .int (u18.2.1 18), .int (u18.2.1 19), .int (u18.2.1 20), .ref 61, .ref 62, .ref 63, .ref 64]), .inl (0, 68, .inl (u18.2.2 0)), .inl (0, 68, .inl (u18.2.2 1)), .inl (0, 68, .inl (u18.2.2 2)), .inl (0, 8, .inl (u18.2.2 4)), .inl (0, 1053, .inl (u18.2.2 5)), .inl (1, 972, .inl (u18.2.2 6)), .inl (0, 1053, .inl (u18.2.2 8)), .inl (0, 120, .inl (u18.2.2 9)), .inl (3, 7, .inr (.inr (.inr (.inr q_kf)))), .inl (0, 360, .inl (u18.2.2 17)), .inl (0, 4, .inl (u18.2.2 21)), .inl (0, 4, .inl (u18.2.2 22)), .inl (0, 160, .inl (u18.2.2 23)), .inl (0, 40, .inl (u18.2.2 24))]) rfl rfl rfl (Nat.le_of_ble_eq_true rfl) ⟨(Nat.le_of_ble_eq_true rfl), (Nat.le_of_ble_eq_true rfl)⟩ ⟨Nat.zero_le _, Nat.zero_le _⟩ dX6_readItem_43 (fun _ => rfl) (fun _ => rfl) (fun _ => rfl) (fun u18 => ?_)
  refine r_if_eq C 59 dX6_readItem_46 (by decide) (fun h46 => ?_) (fun h46 => ?_)
  · refine r_iconst C (3) dX6_readItem_59 rfl ?_
    refine r_iconst C (0) dX6_readItem_60 rfl ?_
    refine r_callV0 C (o_X6_item l u18.2 x1 (3 : Int32) (0 : Int32)) v_X6_item m_1368 [.int x1, .int (3 : Int32), .int (0 : Int32)] [] (50) (Or.inl ⟨0, 5, _, TX6, 25, rfl, rfl, rfl⟩) (fun u19 => []) (fun u19 => [.inr (5, [.ref 51, .ref 52, .ref 53, .int (u19.1 3), .ref 54, .ref 55, .ref 56, .int (u19.1 7), .ref 57, .ref 58, .int (u19.1 10), .int (u19.1 11), .int (u19.1 12), .int (u19.1 13), .int (u19.1 14), .int (u19.1 15), .ref 59, .ref 60, .int (u19.1 18), .int (u19.1 19), .int (u19.1 20), .ref 61, .ref 62, .ref 63, .ref 64]), .inl (0, 68, .inl (u19.2 0)), .inl (0, 68, .inl (u19.2 1)), .inl (0, 68, .inl (u19.2 2)), .inl (0, 8, .inl (u19.2 4)), .inl (0, 1053, .inl (u19.2 5)), .inl (1, 972, .inl (u19.2 6)), .inl (0, 1053, .inl (u19.2 8)), .inl (0, 120, .inl (u19.2 9)), .inl (3, 7, .inr (.inr (.inr (.inr q_kf)))), .inl (0, 360, .inl (u19.2 17)), .inl (0, 4, .inl (u19.2 21)), .inl (0, 4, .inl (u19.2 22)), .inl (0, 160, .inl (u19.2 23)), .inl (0, 40, .inl (u19.2 24))]) rfl rfl rfl (Nat.le_of_ble_eq_true rfl) ⟨(Nat.le_of_ble_eq_true rfl), (Nat.le_of_ble_eq_true rfl)⟩ ⟨Nat.zero_le _, Nat.zero_le _⟩ dX6_readItem_61 (fun _ => rfl) (fun _ => rfl) (fun _ => rfl) (fun u19 => ?_)
    refine r_goto C 222 dX6_readItem_64 (by decide) ?_
    exact r_retv (rv := (fun _ => none)) (hpE := (fun u => w_X6 u)) (t0 := u19) C dX6_readItem_222 (by rfl) (by rfl) (by rfl)
  · refine r_aload_n C 0 dX6_readItem_49 rfl ?_
    refine r_iconst C (1) dX6_readItem_50 rfl ?_
    refine r_bipush C (9) dX6_readItem_51 rfl ?_
    refine r_callV0 C (o_X6_number l u18.2 (1 : Int32) (9 : Int32)) v_X6_number m_1364 [.int (1 : Int32), .int (9 : Int32)] [.int x1, .ref 50] (50) (Or.inl ⟨0, 5, _, TX6, 25, rfl, rfl, rfl⟩) (fun u20 => [.int u20.1, .int x1, .ref 50]) (fun u20 => [.inr (5, [.ref 51, .ref 52, .ref 53, .int (u20.2.1 3), .ref 54, .ref 55, .ref 56, .int (u20.2.1 7), .ref 57, .ref 58, .int (u20.2.1 10), .int (u20.2.1 11), .int (u20.2.1 12), .int (u20.2.1 13), .int (u20.2.1 14), .int (u20.2.1 15), .ref 59, .ref 60, .int (u20.2.1 18), .int (u20.2.1 19), .int (u20.2.1 20), .ref 61, .ref 62, .ref 63, .ref 64]), .inl (0, 68, .inl (u20.2.2 0)), .inl (0, 68, .inl (u20.2.2 1)), .inl (0, 68, .inl (u20.2.2 2)), .inl (0, 8, .inl (u20.2.2 4)), .inl (0, 1053, .inl (u20.2.2 5)), .inl (1, 972, .inl (u20.2.2 6)), .inl (0, 1053, .inl (u20.2.2 8)), .inl (0, 120, .inl (u20.2.2 9)), .inl (3, 7, .inr (.inr (.inr (.inr q_kf)))), .inl (0, 360, .inl (u20.2.2 17)), .inl (0, 4, .inl (u20.2.2 21)), .inl (0, 4, .inl (u20.2.2 22)), .inl (0, 160, .inl (u20.2.2 23)), .inl (0, 40, .inl (u20.2.2 24))]) rfl rfl rfl (Nat.le_of_ble_eq_true rfl) ⟨(Nat.le_of_ble_eq_true rfl), (Nat.le_of_ble_eq_true rfl)⟩ ⟨Nat.zero_le _, Nat.zero_le _⟩ dX6_readItem_53 (fun _ => rfl) (fun _ => rfl) (fun _ => rfl) (fun u20 => ?_)
    refine r_goto C 60 dX6_readItem_56 (by decide) ?_
    refine r_iconst C (0) dX6_readItem_60 rfl ?_
    refine r_callV0 C (o_X6_item l u20.2 x1 u20.1 (0 : Int32)) v_X6_item m_1368 [.int x1, .int u20.1, .int (0 : Int32)] [] (50) (Or.inl ⟨0, 5, _, TX6, 25, rfl, rfl, rfl⟩) (fun u21 => []) (fun u21 => [.inr (5, [.ref 51, .ref 52, .ref 53, .int (u21.1 3), .ref 54, .ref 55, .ref 56, .int (u21.1 7), .ref 57, .ref 58, .int (u21.1 10), .int (u21.1 11), .int (u21.1 12), .int (u21.1 13), .int (u21.1 14), .int (u21.1 15), .ref 59, .ref 60, .int (u21.1 18), .int (u21.1 19), .int (u21.1 20), .ref 61, .ref 62, .ref 63, .ref 64]), .inl (0, 68, .inl (u21.2 0)), .inl (0, 68, .inl (u21.2 1)), .inl (0, 68, .inl (u21.2 2)), .inl (0, 8, .inl (u21.2 4)), .inl (0, 1053, .inl (u21.2 5)), .inl (1, 972, .inl (u21.2 6)), .inl (0, 1053, .inl (u21.2 8)), .inl (0, 120, .inl (u21.2 9)), .inl (3, 7, .inr (.inr (.inr (.inr q_kf)))), .inl (0, 360, .inl (u21.2 17)), .inl (0, 4, .inl (u21.2 21)), .inl (0, 4, .inl (u21.2 22)), .inl (0, 160, .inl (u21.2 23)), .inl (0, 40, .inl (u21.2 24))]) rfl rfl rfl (Nat.le_of_ble_eq_true rfl) ⟨(Nat.le_of_ble_eq_true rfl), (Nat.le_of_ble_eq_true rfl)⟩ ⟨Nat.zero_le _, Nat.zero_le _⟩ dX6_readItem_61 (fun _ => rfl) (fun _ => rfl) (fun _ => rfl) (fun u21 => ?_)
    refine r_goto C 222 dX6_readItem_64 (by decide) ?_
    exact r_retv (rv := (fun _ => none)) (hpE := (fun u => w_X6 u)) (t0 := u21) C dX6_readItem_222 (by rfl) (by rfl) (by rfl)
set_option maxRecDepth 100000 in
set_option maxHeartbeats 4000000 in
theorem o_X6_readItem (l : Launch) (M : q_St) : q_Ok l yX6_readItem cX6_readItem 3 none 6 130 [.ref 50] (w_X6 M) (f_X6_readItem M) (fun _ => none) (fun u => w_X6 u) := by
  refine q_enter (by decide +kernel) (Nat.le_of_ble_eq_true rfl) (fun t p e s m args below meth c dC dI dA A α C => ?_)
  refine r_cut (f_X6_readItem.eq_1 _) ?_
  show q_S p l e (q_rm 6 130) s m args below meth c 3 dC dI dA A α (MQ below (q_Q α dC dI dA A ((fun _ => none) t) ((fun u => w_X6 u) t)) args s 0 0 A) 0 0 _ t 0 [(0, .ref 50)] [] (w_X6 M)
  refine r_aload_n C 0 dX6_readItem_0 rfl ?_
  refine r_callV0 C (o_X6_kindTold l M) v_X6_kindTold m_1345 [] [] (50) (Or.inl ⟨0, 5, _, TX6, 25, rfl, rfl, rfl⟩) (fun u1 => [.int u1]) (fun u1 => [.inr (5, [.ref 51, .ref 52, .ref 53, .int (M.1 3), .ref 54, .ref 55, .ref 56, .int (M.1 7), .ref 57, .ref 58, .int (M.1 10), .int (M.1 11), .int (M.1 12), .int (M.1 13), .int (M.1 14), .int (M.1 15), .ref 59, .ref 60, .int (M.1 18), .int (M.1 19), .int (M.1 20), .ref 61, .ref 62, .ref 63, .ref 64]), .inl (0, 68, .inl (M.2 0)), .inl (0, 68, .inl (M.2 1)), .inl (0, 68, .inl (M.2 2)), .inl (0, 8, .inl (M.2 4)), .inl (0, 1053, .inl (M.2 5)), .inl (1, 972, .inl (M.2 6)), .inl (0, 1053, .inl (M.2 8)), .inl (0, 120, .inl (M.2 9)), .inl (3, 7, .inr (.inr (.inr (.inr q_kf)))), .inl (0, 360, .inl (M.2 17)), .inl (0, 4, .inl (M.2 21)), .inl (0, 4, .inl (M.2 22)), .inl (0, 160, .inl (M.2 23)), .inl (0, 40, .inl (M.2 24))]) rfl rfl rfl (Nat.le_of_ble_eq_true rfl) ⟨(Nat.le_of_ble_eq_true rfl), (Nat.le_of_ble_eq_true rfl)⟩ ⟨Nat.zero_le _, Nat.zero_le _⟩ dX6_readItem_1 (fun _ => rfl) (fun _ => rfl) (fun _ => rfl) (fun u1 => ?_)
  refine r_istore_n C [(1, .int u1), (0, .ref 50)] dX6_readItem_4 (Nat.le_of_ble_eq_true rfl) rfl ?_
  refine r_iload_n C 0 dX6_readItem_5 rfl ?_
  refine r_if_lt C 67 dX6_readItem_6 (by decide) (fun h6 => ?_) (fun h6 => ?_)
  · refine r_aload_n C 1 dX6_readItem_67 rfl ?_
    refine r_ldcSw C "beat" 7 dX6_readItem_68 (by decide +kernel) ?_
    refine r_callV0 C (o_X6_isWord l M 7 (by decide)) v_X6_isWord m_1349 [.ref 7] [] (50) (Or.inl ⟨0, 5, _, TX6, 25, rfl, rfl, rfl⟩) (fun u2 => [.int u2]) (fun u2 => [.inr (5, [.ref 51, .ref 52, .ref 53, .int (M.1 3), .ref 54, .ref 55, .ref 56, .int (M.1 7), .ref 57, .ref 58, .int (M.1 10), .int (M.1 11), .int (M.1 12), .int (M.1 13), .int (M.1 14), .int (M.1 15), .ref 59, .ref 60, .int (M.1 18), .int (M.1 19), .int (M.1 20), .ref 61, .ref 62, .ref 63, .ref 64]), .inl (0, 68, .inl (M.2 0)), .inl (0, 68, .inl (M.2 1)), .inl (0, 68, .inl (M.2 2)), .inl (0, 8, .inl (M.2 4)), .inl (0, 1053, .inl (M.2 5)), .inl (1, 972, .inl (M.2 6)), .inl (0, 1053, .inl (M.2 8)), .inl (0, 120, .inl (M.2 9)), .inl (3, 7, .inr (.inr (.inr (.inr q_kf)))), .inl (0, 360, .inl (M.2 17)), .inl (0, 4, .inl (M.2 21)), .inl (0, 4, .inl (M.2 22)), .inl (0, 160, .inl (M.2 23)), .inl (0, 40, .inl (M.2 24))]) rfl rfl rfl (Nat.le_of_ble_eq_true rfl) ⟨(Nat.le_of_ble_eq_true rfl), (Nat.le_of_ble_eq_true rfl)⟩ ⟨Nat.zero_le _, Nat.zero_le _⟩ dX6_readItem_71 (fun _ => rfl) (fun _ => rfl) (fun _ => rfl) (fun u2 => ?_)
    refine r_if_eq C 154 dX6_readItem_74 (by decide) (fun h74 => ?_) (fun h74 => ?_)
    · refine r_aload_n C 1 dX6_readItem_154 rfl ?_
      refine r_ldcSw C "leaves" 8 dX6_readItem_155 (by decide +kernel) ?_
      refine r_callV0 C (o_X6_isNext l M 8 (by decide)) v_X6_isNext m_1360 [.ref 8] [] (50) (Or.inl ⟨0, 5, _, TX6, 25, rfl, rfl, rfl⟩) (fun u3 => [.int u3.1]) (fun u3 => [.inr (5, [.ref 51, .ref 52, .ref 53, .int (u3.2.1 3), .ref 54, .ref 55, .ref 56, .int (u3.2.1 7), .ref 57, .ref 58, .int (u3.2.1 10), .int (u3.2.1 11), .int (u3.2.1 12), .int (u3.2.1 13), .int (u3.2.1 14), .int (u3.2.1 15), .ref 59, .ref 60, .int (u3.2.1 18), .int (u3.2.1 19), .int (u3.2.1 20), .ref 61, .ref 62, .ref 63, .ref 64]), .inl (0, 68, .inl (u3.2.2 0)), .inl (0, 68, .inl (u3.2.2 1)), .inl (0, 68, .inl (u3.2.2 2)), .inl (0, 8, .inl (u3.2.2 4)), .inl (0, 1053, .inl (u3.2.2 5)), .inl (1, 972, .inl (u3.2.2 6)), .inl (0, 1053, .inl (u3.2.2 8)), .inl (0, 120, .inl (u3.2.2 9)), .inl (3, 7, .inr (.inr (.inr (.inr q_kf)))), .inl (0, 360, .inl (u3.2.2 17)), .inl (0, 4, .inl (u3.2.2 21)), .inl (0, 4, .inl (u3.2.2 22)), .inl (0, 160, .inl (u3.2.2 23)), .inl (0, 40, .inl (u3.2.2 24))]) rfl rfl rfl (Nat.le_of_ble_eq_true rfl) ⟨(Nat.le_of_ble_eq_true rfl), (Nat.le_of_ble_eq_true rfl)⟩ ⟨Nat.zero_le _, Nat.zero_le _⟩ dX6_readItem_158 (fun _ => rfl) (fun _ => rfl) (fun _ => rfl) (fun u3 => ?_)
      refine r_if_eq C 181 dX6_readItem_161 (by decide) (fun h161 => ?_) (fun h161 => ?_)
      · refine r_aload_n C 1 dX6_readItem_181 rfl ?_
        refine r_aload_n C 1 dX6_readItem_182 rfl ?_
        refine r_ldcSw C "hook" 9 dX6_readItem_183 (by decide +kernel) ?_
        refine r_callV0 C (o_X6_isWord l u3.2 9 (by decide)) v_X6_isWord m_1349 [.ref 9] [.ref 50] (50) (Or.inl ⟨0, 5, _, TX6, 25, rfl, rfl, rfl⟩) (fun u4 => [.int u4, .ref 50]) (fun u4 => [.inr (5, [.ref 51, .ref 52, .ref 53, .int (u3.2.1 3), .ref 54, .ref 55, .ref 56, .int (u3.2.1 7), .ref 57, .ref 58, .int (u3.2.1 10), .int (u3.2.1 11), .int (u3.2.1 12), .int (u3.2.1 13), .int (u3.2.1 14), .int (u3.2.1 15), .ref 59, .ref 60, .int (u3.2.1 18), .int (u3.2.1 19), .int (u3.2.1 20), .ref 61, .ref 62, .ref 63, .ref 64]), .inl (0, 68, .inl (u3.2.2 0)), .inl (0, 68, .inl (u3.2.2 1)), .inl (0, 68, .inl (u3.2.2 2)), .inl (0, 8, .inl (u3.2.2 4)), .inl (0, 1053, .inl (u3.2.2 5)), .inl (1, 972, .inl (u3.2.2 6)), .inl (0, 1053, .inl (u3.2.2 8)), .inl (0, 120, .inl (u3.2.2 9)), .inl (3, 7, .inr (.inr (.inr (.inr q_kf)))), .inl (0, 360, .inl (u3.2.2 17)), .inl (0, 4, .inl (u3.2.2 21)), .inl (0, 4, .inl (u3.2.2 22)), .inl (0, 160, .inl (u3.2.2 23)), .inl (0, 40, .inl (u3.2.2 24))]) rfl rfl rfl (Nat.le_of_ble_eq_true rfl) ⟨(Nat.le_of_ble_eq_true rfl), (Nat.le_of_ble_eq_true rfl)⟩ ⟨Nat.zero_le _, Nat.zero_le _⟩ dX6_readItem_186 (fun _ => rfl) (fun _ => rfl) (fun _ => rfl) (fun u4 => ?_)
        refine r_callV0 C (o_X6_must l u3.2 u4) v_X6_must m_1355 [.int u4] [] (50) (Or.inl ⟨0, 5, _, TX6, 25, rfl, rfl, rfl⟩) (fun u5 => []) (fun u5 => [.inr (5, [.ref 51, .ref 52, .ref 53, .int (u5.1 3), .ref 54, .ref 55, .ref 56, .int (u5.1 7), .ref 57, .ref 58, .int (u5.1 10), .int (u5.1 11), .int (u5.1 12), .int (u5.1 13), .int (u5.1 14), .int (u5.1 15), .ref 59, .ref 60, .int (u5.1 18), .int (u5.1 19), .int (u5.1 20), .ref 61, .ref 62, .ref 63, .ref 64]), .inl (0, 68, .inl (u5.2 0)), .inl (0, 68, .inl (u5.2 1)), .inl (0, 68, .inl (u5.2 2)), .inl (0, 8, .inl (u5.2 4)), .inl (0, 1053, .inl (u5.2 5)), .inl (1, 972, .inl (u5.2 6)), .inl (0, 1053, .inl (u5.2 8)), .inl (0, 120, .inl (u5.2 9)), .inl (3, 7, .inr (.inr (.inr (.inr q_kf)))), .inl (0, 360, .inl (u5.2 17)), .inl (0, 4, .inl (u5.2 21)), .inl (0, 4, .inl (u5.2 22)), .inl (0, 160, .inl (u5.2 23)), .inl (0, 40, .inl (u5.2 24))]) rfl rfl rfl (Nat.le_of_ble_eq_true rfl) ⟨(Nat.le_of_ble_eq_true rfl), (Nat.le_of_ble_eq_true rfl)⟩ ⟨Nat.zero_le _, Nat.zero_le _⟩ dX6_readItem_189 (fun _ => rfl) (fun _ => rfl) (fun _ => rfl) (fun u5 => ?_)
        refine r_aload_n C 1 dX6_readItem_192 rfl ?_
        refine r_iconst C (0) dX6_readItem_193 rfl ?_
        refine r_aload_n C 1 dX6_readItem_194 rfl ?_
        refine r_get C 0 19 dX6_readItem_195 K_X6 rfl rfl (Nat.le_of_ble_eq_true rfl) rfl m_934 rfl ?_
        refine r_iconst C (1) dX6_readItem_198 rfl ?_
        refine r_isub C dX6_readItem_199 ?_
        refine r_callV0 C (o_X6_number l u5 (0 : Int32) (u5.1 19 - (1 : Int32))) v_X6_number m_1364 [.int (0 : Int32), .int (u5.1 19 - (1 : Int32))] [] (50) (Or.inl ⟨0, 5, _, TX6, 25, rfl, rfl, rfl⟩) (fun u6 => [.int u6.1]) (fun u6 => [.inr (5, [.ref 51, .ref 52, .ref 53, .int (u6.2.1 3), .ref 54, .ref 55, .ref 56, .int (u6.2.1 7), .ref 57, .ref 58, .int (u6.2.1 10), .int (u6.2.1 11), .int (u6.2.1 12), .int (u6.2.1 13), .int (u6.2.1 14), .int (u6.2.1 15), .ref 59, .ref 60, .int (u6.2.1 18), .int (u6.2.1 19), .int (u6.2.1 20), .ref 61, .ref 62, .ref 63, .ref 64]), .inl (0, 68, .inl (u6.2.2 0)), .inl (0, 68, .inl (u6.2.2 1)), .inl (0, 68, .inl (u6.2.2 2)), .inl (0, 8, .inl (u6.2.2 4)), .inl (0, 1053, .inl (u6.2.2 5)), .inl (1, 972, .inl (u6.2.2 6)), .inl (0, 1053, .inl (u6.2.2 8)), .inl (0, 120, .inl (u6.2.2 9)), .inl (3, 7, .inr (.inr (.inr (.inr q_kf)))), .inl (0, 360, .inl (u6.2.2 17)), .inl (0, 4, .inl (u6.2.2 21)), .inl (0, 4, .inl (u6.2.2 22)), .inl (0, 160, .inl (u6.2.2 23)), .inl (0, 40, .inl (u6.2.2 24))]) rfl rfl rfl (Nat.le_of_ble_eq_true rfl) ⟨(Nat.le_of_ble_eq_true rfl), (Nat.le_of_ble_eq_true rfl)⟩ ⟨Nat.zero_le _, Nat.zero_le _⟩ dX6_readItem_200 (fun _ => rfl) (fun _ => rfl) (fun _ => rfl) (fun u6 => ?_)
        refine r_istore_n C [(2, .int u6.1), (1, .int u1), (0, .ref 50)] dX6_readItem_203 (Nat.le_of_ble_eq_true rfl) rfl ?_
        refine r_aload_n C 2 dX6_readItem_204 rfl ?_
        refine r_bipush C (12) dX6_readItem_205 rfl ?_
        refine r_iload_n C 0 dX6_readItem_207 rfl ?_
        refine r_aload_n C 2 dX6_readItem_208 rfl ?_
        refine r_iconst C (0) dX6_readItem_209 rfl ?_
        refine r_aload_n C 2 dX6_readItem_210 rfl ?_
        refine r_get C 0 19 dX6_readItem_211 K_X6 rfl rfl (Nat.le_of_ble_eq_true rfl) rfl m_934 rfl ?_
        refine r_iconst C (1) dX6_readItem_214 rfl ?_
        refine r_isub C dX6_readItem_215 ?_
        refine r_callV0 C (o_X6_number l u6.2 (0 : Int32) (u6.2.1 19 - (1 : Int32))) v_X6_number m_1364 [.int (0 : Int32), .int (u6.2.1 19 - (1 : Int32))] [.int u6.1, .int (12 : Int32), .ref 50] (50) (Or.inl ⟨0, 5, _, TX6, 25, rfl, rfl, rfl⟩) (fun u7 => [.int u7.1, .int u6.1, .int (12 : Int32), .ref 50]) (fun u7 => [.inr (5, [.ref 51, .ref 52, .ref 53, .int (u7.2.1 3), .ref 54, .ref 55, .ref 56, .int (u7.2.1 7), .ref 57, .ref 58, .int (u7.2.1 10), .int (u7.2.1 11), .int (u7.2.1 12), .int (u7.2.1 13), .int (u7.2.1 14), .int (u7.2.1 15), .ref 59, .ref 60, .int (u7.2.1 18), .int (u7.2.1 19), .int (u7.2.1 20), .ref 61, .ref 62, .ref 63, .ref 64]), .inl (0, 68, .inl (u7.2.2 0)), .inl (0, 68, .inl (u7.2.2 1)), .inl (0, 68, .inl (u7.2.2 2)), .inl (0, 8, .inl (u7.2.2 4)), .inl (0, 1053, .inl (u7.2.2 5)), .inl (1, 972, .inl (u7.2.2 6)), .inl (0, 1053, .inl (u7.2.2 8)), .inl (0, 120, .inl (u7.2.2 9)), .inl (3, 7, .inr (.inr (.inr (.inr q_kf)))), .inl (0, 360, .inl (u7.2.2 17)), .inl (0, 4, .inl (u7.2.2 21)), .inl (0, 4, .inl (u7.2.2 22)), .inl (0, 160, .inl (u7.2.2 23)), .inl (0, 40, .inl (u7.2.2 24))]) rfl rfl rfl (Nat.le_of_ble_eq_true rfl) ⟨(Nat.le_of_ble_eq_true rfl), (Nat.le_of_ble_eq_true rfl)⟩ ⟨Nat.zero_le _, Nat.zero_le _⟩ dX6_readItem_216 (fun _ => rfl) (fun _ => rfl) (fun _ => rfl) (fun u7 => ?_)
        refine r_callV0 C (o_X6_item l u7.2 (12 : Int32) u6.1 u7.1) v_X6_item m_1368 [.int (12 : Int32), .int u6.1, .int u7.1] [] (50) (Or.inl ⟨0, 5, _, TX6, 25, rfl, rfl, rfl⟩) (fun u8 => []) (fun u8 => [.inr (5, [.ref 51, .ref 52, .ref 53, .int (u8.1 3), .ref 54, .ref 55, .ref 56, .int (u8.1 7), .ref 57, .ref 58, .int (u8.1 10), .int (u8.1 11), .int (u8.1 12), .int (u8.1 13), .int (u8.1 14), .int (u8.1 15), .ref 59, .ref 60, .int (u8.1 18), .int (u8.1 19), .int (u8.1 20), .ref 61, .ref 62, .ref 63, .ref 64]), .inl (0, 68, .inl (u8.2 0)), .inl (0, 68, .inl (u8.2 1)), .inl (0, 68, .inl (u8.2 2)), .inl (0, 8, .inl (u8.2 4)), .inl (0, 1053, .inl (u8.2 5)), .inl (1, 972, .inl (u8.2 6)), .inl (0, 1053, .inl (u8.2 8)), .inl (0, 120, .inl (u8.2 9)), .inl (3, 7, .inr (.inr (.inr (.inr q_kf)))), .inl (0, 360, .inl (u8.2 17)), .inl (0, 4, .inl (u8.2 21)), .inl (0, 4, .inl (u8.2 22)), .inl (0, 160, .inl (u8.2 23)), .inl (0, 40, .inl (u8.2 24))]) rfl rfl rfl (Nat.le_of_ble_eq_true rfl) ⟨(Nat.le_of_ble_eq_true rfl), (Nat.le_of_ble_eq_true rfl)⟩ ⟨Nat.zero_le _, Nat.zero_le _⟩ dX6_readItem_219 (fun _ => rfl) (fun _ => rfl) (fun _ => rfl) (fun u8 => ?_)
        exact r_retv (rv := (fun _ => none)) (hpE := (fun u => w_X6 u)) (t0 := u8) C dX6_readItem_222 (by rfl) (by rfl) (by rfl)
      · refine r_aload_n C 1 dX6_readItem_164 rfl ?_
        refine r_bipush C (11) dX6_readItem_165 rfl ?_
        refine r_aload_n C 1 dX6_readItem_167 rfl ?_
        refine r_iconst C (0) dX6_readItem_168 rfl ?_
        refine r_bipush C (10) dX6_readItem_169 rfl ?_
        refine r_callV0 C (o_X6_number l u3.2 (0 : Int32) (10 : Int32)) v_X6_number m_1364 [.int (0 : Int32), .int (10 : Int32)] [.int (11 : Int32), .ref 50] (50) (Or.inl ⟨0, 5, _, TX6, 25, rfl, rfl, rfl⟩) (fun u9 => [.int u9.1, .int (11 : Int32), .ref 50]) (fun u9 => [.inr (5, [.ref 51, .ref 52, .ref 53, .int (u9.2.1 3), .ref 54, .ref 55, .ref 56, .int (u9.2.1 7), .ref 57, .ref 58, .int (u9.2.1 10), .int (u9.2.1 11), .int (u9.2.1 12), .int (u9.2.1 13), .int (u9.2.1 14), .int (u9.2.1 15), .ref 59, .ref 60, .int (u9.2.1 18), .int (u9.2.1 19), .int (u9.2.1 20), .ref 61, .ref 62, .ref 63, .ref 64]), .inl (0, 68, .inl (u9.2.2 0)), .inl (0, 68, .inl (u9.2.2 1)), .inl (0, 68, .inl (u9.2.2 2)), .inl (0, 8, .inl (u9.2.2 4)), .inl (0, 1053, .inl (u9.2.2 5)), .inl (1, 972, .inl (u9.2.2 6)), .inl (0, 1053, .inl (u9.2.2 8)), .inl (0, 120, .inl (u9.2.2 9)), .inl (3, 7, .inr (.inr (.inr (.inr q_kf)))), .inl (0, 360, .inl (u9.2.2 17)), .inl (0, 4, .inl (u9.2.2 21)), .inl (0, 4, .inl (u9.2.2 22)), .inl (0, 160, .inl (u9.2.2 23)), .inl (0, 40, .inl (u9.2.2 24))]) rfl rfl rfl (Nat.le_of_ble_eq_true rfl) ⟨(Nat.le_of_ble_eq_true rfl), (Nat.le_of_ble_eq_true rfl)⟩ ⟨Nat.zero_le _, Nat.zero_le _⟩ dX6_readItem_171 (fun _ => rfl) (fun _ => rfl) (fun _ => rfl) (fun u9 => ?_)
        refine r_iconst C (0) dX6_readItem_174 rfl ?_
        refine r_callV0 C (o_X6_item l u9.2 (11 : Int32) u9.1 (0 : Int32)) v_X6_item m_1368 [.int (11 : Int32), .int u9.1, .int (0 : Int32)] [] (50) (Or.inl ⟨0, 5, _, TX6, 25, rfl, rfl, rfl⟩) (fun u10 => []) (fun u10 => [.inr (5, [.ref 51, .ref 52, .ref 53, .int (u10.1 3), .ref 54, .ref 55, .ref 56, .int (u10.1 7), .ref 57, .ref 58, .int (u10.1 10), .int (u10.1 11), .int (u10.1 12), .int (u10.1 13), .int (u10.1 14), .int (u10.1 15), .ref 59, .ref 60, .int (u10.1 18), .int (u10.1 19), .int (u10.1 20), .ref 61, .ref 62, .ref 63, .ref 64]), .inl (0, 68, .inl (u10.2 0)), .inl (0, 68, .inl (u10.2 1)), .inl (0, 68, .inl (u10.2 2)), .inl (0, 8, .inl (u10.2 4)), .inl (0, 1053, .inl (u10.2 5)), .inl (1, 972, .inl (u10.2 6)), .inl (0, 1053, .inl (u10.2 8)), .inl (0, 120, .inl (u10.2 9)), .inl (3, 7, .inr (.inr (.inr (.inr q_kf)))), .inl (0, 360, .inl (u10.2 17)), .inl (0, 4, .inl (u10.2 21)), .inl (0, 4, .inl (u10.2 22)), .inl (0, 160, .inl (u10.2 23)), .inl (0, 40, .inl (u10.2 24))]) rfl rfl rfl (Nat.le_of_ble_eq_true rfl) ⟨(Nat.le_of_ble_eq_true rfl), (Nat.le_of_ble_eq_true rfl)⟩ ⟨Nat.zero_le _, Nat.zero_le _⟩ dX6_readItem_175 (fun _ => rfl) (fun _ => rfl) (fun _ => rfl) (fun u10 => ?_)
        refine r_goto C 222 dX6_readItem_178 (by decide) ?_
        exact r_retv (rv := (fun _ => none)) (hpE := (fun u => w_X6 u)) (t0 := u10) C dX6_readItem_222 (by rfl) (by rfl) (by rfl)
    · refine r_aload_n C 1 dX6_readItem_77 rfl ?_
      refine r_aload_n C 1 dX6_readItem_78 rfl ?_
      refine r_get C 0 20 dX6_readItem_79 K_X6 rfl rfl (Nat.le_of_ble_eq_true rfl) rfl m_935 rfl ?_
      refine r_bipush C (12) dX6_readItem_82 rfl ?_
      refine r_icmp_ge C 91 dX6_readItem_84 (by decide) (fun h84 => ?_) (fun h84 => ?_)
      · refine r_iconst C (0) dX6_readItem_91 rfl ?_
        refine r_lv [(0, .ref 50)] [1] rfl ?_
        exact k_X6_readItem_92 C M   (0 : Int32) M
      · refine r_iconst C (1) dX6_readItem_87 rfl ?_
        refine r_goto C 92 dX6_readItem_88 (by decide) ?_
        refine r_lv [(0, .ref 50)] [1] rfl ?_
        exact k_X6_readItem_92 C M   (1 : Int32) M
  · refine r_aload_n C 1 dX6_readItem_9 rfl ?_
    refine r_aload_n C 1 dX6_readItem_10 rfl ?_
    refine r_get C 0 19 dX6_readItem_11 K_X6 rfl rfl (Nat.le_of_ble_eq_true rfl) rfl m_934 rfl ?_
    refine r_bipush C (8) dX6_readItem_14 rfl ?_
    refine r_icmp_ge C 23 dX6_readItem_16 (by decide) (fun h16 => ?_) (fun h16 => ?_)
    · refine r_iconst C (0) dX6_readItem_23 rfl ?_
      refine r_lv [(0, .ref 50), (1, .int u1)] [1, 0] rfl ?_
      exact k_X6_readItem_24 C M   u1 (0 : Int32) M
    · refine r_iconst C (1) dX6_readItem_19 rfl ?_
      refine r_goto C 24 dX6_readItem_20 (by decide) ?_
      refine r_lv [(0, .ref 50), (1, .int u1)] [1, 0] rfl ?_
      exact k_X6_readItem_24 C M   u1 (1 : Int32) M
