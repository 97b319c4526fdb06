set_option maxRecDepth 100000 in
set_option maxHeartbeats 4000000 in
theorem o_X0_isSuited (l : Launch) (B : q_St) (a1 : Int32) (a2 : Int32) (a3 : Int32) : q_Ok l yX0_isSuited cX0_isSuited 4 (some .boolean) 3 68 [.ref 50, .int a1, .int a2, .int a3] (w_X0 B) (f_X0_isSuited B a1 a2 a3) (fun u => some (.int u)) (fun u => w_X0 B) := by
  refine q_enter (by decide +kernel) (Nat.le_of_ble_eq_true rfl) (fun t p e s m args below meth c dC dI dA A α C => ?_)
  refine r_cut (f_X0_isSuited.eq_1 _ _ _ _) ?_
  show q_S p l e (q_rm 3 68) s m args below meth c 4 dC dI dA A α (MQ below (q_Q α dC dI dA A ((fun u => some (.int u)) t) ((fun u => w_X0 B) t)) args s 0 0 A) 0 0 _ t 0 [(0, .ref 50), (1, .int a1), (2, .int a2), (3, .int a3)] [] (w_X0 B)
  refine r_aload_n C 0 dX0_isSuited_0 rfl ?_
  refine r_iload_n C 3 dX0_isSuited_1 rfl ?_
  refine r_callV0 C (o_X0_isDollOrNone l B a3) v_X0_isDollOrNone m_411 [.int a3] [] (50) (Or.inl ⟨0, 0, _, TX0, 16, rfl, rfl, rfl⟩) (fun u1 => [.int u1]) (fun u1 => w_X0 B) rfl rfl rfl (Nat.le_of_ble_eq_true rfl) ⟨(Nat.le_of_ble_eq_true rfl), (Nat.le_of_ble_eq_true rfl)⟩ ⟨Nat.zero_le _, Nat.zero_le _⟩ dX0_isSuited_2 (fun _ => rfl) (fun _ => rfl) (fun _ => rfl) (fun u1 => ?_)
  refine r_if_eq C 27 dX0_isSuited_5 (by decide) (fun h5 => ?_) (fun h5 => ?_)
  · refine r_iconst C (0) dX0_isSuited_27 rfl ?_
    exact r_retz (x := (0 : Int32)) (rv := (fun u => some (.int u))) (hpE := (fun u => w_X0 B)) (t0 := (0 : Int32)) C dX0_isSuited_28 (by rfl) (by rfl) (by rfl) (by rfl)
  · refine r_aload_n C 0 dX0_isSuited_8 rfl ?_
    refine r_iload_n C 1 dX0_isSuited_9 rfl ?_
    refine r_iload_n C 2 dX0_isSuited_10 rfl ?_
    refine r_callV0 C (o_X0_rightsBeside l B a1 a2) v_X0_rightsBeside m_412 [.int a1, .int a2] [] (50) (Or.inl ⟨0, 0, _, TX0, 16, rfl, rfl, rfl⟩) (fun u2 => [.int u2]) (fun u2 => w_X0 B) rfl rfl rfl (Nat.le_of_ble_eq_true rfl) ⟨(Nat.le_of_ble_eq_true rfl), (Nat.le_of_ble_eq_true rfl)⟩ ⟨Nat.zero_le _, Nat.zero_le _⟩ dX0_isSuited_11 (fun _ => rfl) (fun _ => rfl) (fun _ => rfl) (fun u2 => ?_)
    refine r_iload_n C 3 dX0_isSuited_14 rfl ?_
    refine r_iconst C (1) dX0_isSuited_15 rfl ?_
    refine r_iadd C dX0_isSuited_16 ?_
    refine r_callS C (o_X0_contains l u2 (a3 + (1 : Int32))) v_X0_contains m_324 [] [.int u2, .int (a3 + (1 : Int32))] [] (fun u3 => [.int u3]) (fun u3 => w_X0 B) rfl rfl rfl rfl rfl (Nat.le_of_ble_eq_true rfl) ⟨(Nat.le_of_ble_eq_true rfl), (Nat.le_of_ble_eq_true rfl)⟩ ⟨Nat.zero_le _, Nat.zero_le _⟩ dX0_isSuited_17 (fun _ => rfl) (fun _ => rfl) (fun _ => rfl) (fun u3 => ?_)
    refine r_if_eq C 27 dX0_isSuited_20 (by decide) (fun h20 => ?_) (fun h20 => ?_)
    · refine r_iconst C (0) dX0_isSuited_27 rfl ?_
      exact r_retz (x := (0 : Int32)) (rv := (fun u => some (.int u))) (hpE := (fun u => w_X0 B)) (t0 := (0 : Int32)) C dX0_isSuited_28 (by rfl) (by rfl) (by rfl) (by rfl)
    · refine r_iconst C (1) dX0_isSuited_23 rfl ?_
      refine r_goto C 28 dX0_isSuited_24 (by decide) ?_
      exact r_retz (x := (1 : Int32)) (rv := (fun u => some (.int u))) (hpE := (fun u => w_X0 B)) (t0 := (1 : Int32)) C dX0_isSuited_28 (by rfl) (by rfl) (by rfl) (by rfl)
set_option maxRecDepth 100000 in
set_option maxHeartbeats 4000000 in
theorem o_X0_isGoing (l : Launch) (B : q_St) : q_Ok l yX0_isGoing cX0_isGoing 1 (some .boolean) 5 111 [.ref 50] (w_X0 B) (f_X0_isGoing B) (fun u => some (.int u)) (fun u => w_X0 B) := by
  refine q_enter (by decide +kernel) (Nat.le_of_ble_eq_true rfl) (fun t p e s m args below meth c dC dI dA A α C => ?_)
  refine r_cut (f_X0_isGoing.eq_1 _) ?_
  show q_S p l e (q_rm 5 111) s m args below meth c 1 dC dI dA A α (MQ below (q_Q α dC dI dA A ((fun u => some (.int u)) t) ((fun u => w_X0 B) t)) args s 0 0 A) 0 0 _ t 0 [(0, .ref 50)] [] (w_X0 B)
  refine r_aload_n C 0 dX0_isGoing_0 rfl ?_
  refine r_callV0 C (o_X0_wrongBeats l B) v_X0_wrongBeats m_435 [] [] (50) (Or.inl ⟨0, 0, _, TX0, 16, rfl, rfl, rfl⟩) (fun u1 => [.int u1]) (fun u1 => w_X0 B) rfl rfl rfl (Nat.le_of_ble_eq_true rfl) ⟨(Nat.le_of_ble_eq_true rfl), (Nat.le_of_ble_eq_true rfl)⟩ ⟨Nat.zero_le _, Nat.zero_le _⟩ dX0_isGoing_1 (fun _ => rfl) (fun _ => rfl) (fun _ => rfl) (fun u1 => ?_)
  refine r_if_ne C 11 dX0_isGoing_4 (by decide) (fun h4 => ?_) (fun h4 => ?_)
  · refine r_iconst C (1) dX0_isGoing_7 rfl ?_
    refine r_goto C 12 dX0_isGoing_8 (by decide) ?_
    exact r_retz (x := (1 : Int32)) (rv := (fun u => some (.int u))) (hpE := (fun u => w_X0 B)) (t0 := (1 : Int32)) C dX0_isGoing_12 (by rfl) (by rfl) (by rfl) (by rfl)
  · refine r_iconst C (0) dX0_isGoing_11 rfl ?_
    exact r_retz (x := (0 : Int32)) (rv := (fun u => some (.int u))) (hpE := (fun u => w_X0 B)) (t0 := (0 : Int32)) C dX0_isGoing_12 (by rfl) (by rfl) (by rfl) (by rfl)
set_option maxRecDepth 100000 in
set_option maxHeartbeats 4000000 in
theorem o_X0_take (l : Launch) (B : q_St) (B2 : q_St) : q_Ok l yX0_take cX0_take 2 none 1 30 [.ref 50, .ref 57] (w_X0X0 B B2) (f_X0_take B B2) (fun _ => none) (fun u => w_X0X0 u B2) := by
  refine q_enter (by decide +kernel) (Nat.le_of_ble_eq_true rfl) (fun t p e s m args below meth c dC dI dA A α C => ?_)
  refine r_cut (f_X0_take.eq_1 _ _) ?_
  show q_S p l e (q_rm 1 30) s m args below meth c 2 dC dI dA A α (MQ below (q_Q α dC dI dA A ((fun _ => none) t) ((fun u => w_X0X0 u B2) t)) args s 0 0 A) 0 0 _ t 0 [(0, .ref 50), (1, .ref 57)] [] (w_X0X0 B B2)
  refine r_aload_n C 0 dX0_take_0 rfl ?_
  refine r_aload_n C 1 dX0_take_1 rfl ?_
  refine r_get C 7 0 dX0_take_2 K_X0 rfl rfl (Nat.le_of_ble_eq_true rfl) rfl m_29 rfl ?_
  refine r_put C 0 0 _ dX0_take_5 K_X0 rfl rfl (Nat.le_of_ble_eq_true rfl) rfl m_29 rfl (fun _ => rfl) (fun _ => rfl) (Nat.le_of_ble_eq_true rfl) rfl ?_
  refine r_aload_n C 0 dX0_take_8 rfl ?_
  refine r_aload_n C 1 dX0_take_9 rfl ?_
  refine r_get C 7 1 dX0_take_10 K_X0 rfl rfl (Nat.le_of_ble_eq_true rfl) rfl m_34 rfl ?_
  refine r_put C 0 1 _ dX0_take_13 K_X0 rfl rfl (Nat.le_of_ble_eq_true rfl) rfl m_34 rfl (fun _ => rfl) (fun _ => rfl) (Nat.le_of_ble_eq_true rfl) rfl ?_
  refine r_aload_n C 0 dX0_take_16 rfl ?_
  refine r_aload_n C 1 dX0_take_17 rfl ?_
  refine r_get C 7 2 dX0_take_18 K_X0 rfl rfl (Nat.le_of_ble_eq_true rfl) rfl m_37 rfl ?_
  refine r_put C 0 2 _ dX0_take_21 K_X0 rfl rfl (Nat.le_of_ble_eq_true rfl) rfl m_37 rfl (fun _ => rfl) (fun _ => rfl) (Nat.le_of_ble_eq_true rfl) rfl ?_
  refine r_aload_n C 0 dX0_take_24 rfl ?_
  refine r_aload_n C 1 dX0_take_25 rfl ?_
  refine r_get C 7 3 dX0_take_26 K_X0 rfl rfl (Nat.le_of_ble_eq_true rfl) rfl m_40 rfl ?_
  refine r_put C 0 3 _ dX0_take_29 K_X0 rfl rfl (Nat.le_of_ble_eq_true rfl) rfl m_40 rfl (fun _ => rfl) (fun _ => rfl) (Nat.le_of_ble_eq_true rfl) rfl ?_
  refine r_aload_n C 0 dX0_take_32 rfl ?_
  refine r_aload_n C 1 dX0_take_33 rfl ?_
  refine r_get C 7 4 dX0_take_34 K_X0 rfl rfl (Nat.le_of_ble_eq_true rfl) rfl m_43 rfl ?_
  refine r_put C 0 4 _ dX0_take_37 K_X0 rfl rfl (Nat.le_of_ble_eq_true rfl) rfl m_43 rfl (fun _ => rfl) (fun _ => rfl) (Nat.le_of_ble_eq_true rfl) rfl ?_
  refine r_aload_n C 0 dX0_take_40 rfl ?_
  refine r_aload_n C 1 dX0_take_41 rfl ?_
  refine r_get C 7 5 dX0_take_42 K_X0 rfl rfl (Nat.le_of_ble_eq_true rfl) rfl m_46 rfl ?_
  refine r_put C 0 5 _ dX0_take_45 K_X0 rfl rfl (Nat.le_of_ble_eq_true rfl) rfl m_46 rfl (fun _ => rfl) (fun _ => rfl) (Nat.le_of_ble_eq_true rfl) rfl ?_
  refine r_aload_n C 0 dX0_take_48 rfl ?_
  refine r_aload_n C 1 dX0_take_49 rfl ?_
  refine r_get C 7 6 dX0_take_50 K_X0 rfl rfl (Nat.le_of_ble_eq_true rfl) rfl m_48 rfl ?_
  refine r_put C 0 6 _ dX0_take_53 K_X0 rfl rfl (Nat.le_of_ble_eq_true rfl) rfl m_48 rfl (fun _ => rfl) (fun _ => rfl) (Nat.le_of_ble_eq_true rfl) rfl ?_
  refine r_aload_n C 0 dX0_take_56 rfl ?_
  refine r_aload_n C 1 dX0_take_57 rfl ?_
  refine r_get C 7 7 dX0_take_58 K_X0 rfl rfl (Nat.le_of_ble_eq_true rfl) rfl m_50 rfl ?_
  refine r_put C 0 7 _ dX0_take_61 K_X0 rfl rfl (Nat.le_of_ble_eq_true rfl) rfl m_50 rfl (fun _ => rfl) (fun _ => rfl) (Nat.le_of_ble_eq_true rfl) rfl ?_
  refine r_aload_n C 0 dX0_take_64 rfl ?_
  refine r_aload_n C 1 dX0_take_65 rfl ?_
  refine r_get C 7 8 dX0_take_66 K_X0 rfl rfl (Nat.le_of_ble_eq_true rfl) rfl m_52 rfl ?_
  refine r_put C 0 8 _ dX0_take_69 K_X0 rfl rfl (Nat.le_of_ble_eq_true rfl) rfl m_52 rfl (fun _ => rfl) (fun _ => rfl) (Nat.le_of_ble_eq_true rfl) rfl ?_
  refine r_aload_n C 0 dX0_take_72 rfl ?_
  refine r_aload_n C 1 dX0_take_73 rfl ?_
  refine r_get C 7 9 dX0_take_74 K_X0 rfl rfl (Nat.le_of_ble_eq_true rfl) rfl m_54 rfl ?_
  refine r_put C 0 9 _ dX0_take_77 K_X0 rfl rfl (Nat.le_of_ble_eq_true rfl) rfl m_54 rfl (fun _ => rfl) (fun _ => rfl) (Nat.le_of_ble_eq_true rfl) rfl ?_
  refine r_aload_n C 1 dX0_take_80 rfl ?_
  refine r_get C 7 10 dX0_take_81 K_X0 rfl rfl (Nat.le_of_ble_eq_true rfl) rfl m_56 rfl ?_
  refine r_iconst C (0) dX0_take_84 rfl ?_
  refine r_aload_n C 0 dX0_take_85 rfl ?_
  refine r_get C 0 10 dX0_take_86 K_X0 rfl rfl (Nat.le_of_ble_eq_true rfl) rfl m_56 rfl ?_
  refine r_iconst C (0) dX0_take_89 rfl ?_
  refine r_bipush C (8) dX0_take_90 rfl ?_
  refine r_copy C 8 1 _ dX0_take_92 m_505 m_507 m_506 m_10 rfl rfl rfl rfl (Nat.le_of_ble_eq_true rfl) (Nat.le_of_ble_eq_true rfl) rfl ?_
  refine r_aload_n C 1 dX0_take_95 rfl ?_
  refine r_get C 7 11 dX0_take_96 K_X0 rfl rfl (Nat.le_of_ble_eq_true rfl) rfl m_57 rfl ?_
  refine r_iconst C (0) dX0_take_99 rfl ?_
  refine r_aload_n C 0 dX0_take_100 rfl ?_
  refine r_get C 0 11 dX0_take_101 K_X0 rfl rfl (Nat.le_of_ble_eq_true rfl) rfl m_57 rfl ?_
  refine r_iconst C (0) dX0_take_104 rfl ?_
  refine r_bipush C (8) dX0_take_105 rfl ?_
  refine r_copy C 9 2 _ dX0_take_107 m_505 m_507 m_506 m_10 rfl rfl rfl rfl (Nat.le_of_ble_eq_true rfl) (Nat.le_of_ble_eq_true rfl) rfl ?_
  refine r_aload_n C 1 dX0_take_110 rfl ?_
  refine r_get C 7 12 dX0_take_111 K_X0 rfl rfl (Nat.le_of_ble_eq_true rfl) rfl m_58 rfl ?_
  refine r_iconst C (0) dX0_take_114 rfl ?_
  refine r_aload_n C 0 dX0_take_115 rfl ?_
  refine r_get C 0 12 dX0_take_116 K_X0 rfl rfl (Nat.le_of_ble_eq_true rfl) rfl m_58 rfl ?_
  refine r_iconst C (0) dX0_take_119 rfl ?_
  refine r_bipush C (8) dX0_take_120 rfl ?_
  refine r_copy C 10 3 _ dX0_take_122 m_505 m_507 m_506 m_10 rfl rfl rfl rfl (Nat.le_of_ble_eq_true rfl) (Nat.le_of_ble_eq_true rfl) rfl ?_
  refine r_aload_n C 1 dX0_take_125 rfl ?_
  refine r_get C 7 13 dX0_take_126 K_X0 rfl rfl (Nat.le_of_ble_eq_true rfl) rfl m_59 rfl ?_
  refine r_iconst C (0) dX0_take_129 rfl ?_
  refine r_aload_n C 0 dX0_take_130 rfl ?_
  refine r_get C 0 13 dX0_take_131 K_X0 rfl rfl (Nat.le_of_ble_eq_true rfl) rfl m_59 rfl ?_
  refine r_iconst C (0) dX0_take_134 rfl ?_
  refine r_bipush C (12) dX0_take_135 rfl ?_
  refine r_copy C 11 4 _ dX0_take_137 m_505 m_507 m_506 m_10 rfl rfl rfl rfl (Nat.le_of_ble_eq_true rfl) (Nat.le_of_ble_eq_true rfl) rfl ?_
  refine r_aload_n C 1 dX0_take_140 rfl ?_
  refine r_get C 7 14 dX0_take_141 K_X0 rfl rfl (Nat.le_of_ble_eq_true rfl) rfl m_60 rfl ?_
  refine r_iconst C (0) dX0_take_144 rfl ?_
  refine r_aload_n C 0 dX0_take_145 rfl ?_
  refine r_get C 0 14 dX0_take_146 K_X0 rfl rfl (Nat.le_of_ble_eq_true rfl) rfl m_60 rfl ?_
  refine r_iconst C (0) dX0_take_149 rfl ?_
  refine r_bipush C (12) dX0_take_150 rfl ?_
  refine r_copy C 12 5 _ dX0_take_152 m_505 m_507 m_506 m_10 rfl rfl rfl rfl (Nat.le_of_ble_eq_true rfl) (Nat.le_of_ble_eq_true rfl) rfl ?_
  refine r_aload_n C 1 dX0_take_155 rfl ?_
  refine r_get C 7 15 dX0_take_156 K_X0 rfl rfl (Nat.le_of_ble_eq_true rfl) rfl m_61 rfl ?_
  refine r_iconst C (0) dX0_take_159 rfl ?_
  refine r_aload_n C 0 dX0_take_160 rfl ?_
  refine r_get C 0 15 dX0_take_161 K_X0 rfl rfl (Nat.le_of_ble_eq_true rfl) rfl m_61 rfl ?_
  refine r_iconst C (0) dX0_take_164 rfl ?_
  refine r_bipush C (10) dX0_take_165 rfl ?_
  refine r_copy C 13 6 _ dX0_take_167 m_505 m_507 m_506 m_10 rfl rfl rfl rfl (Nat.le_of_ble_eq_true rfl) (Nat.le_of_ble_eq_true rfl) rfl ?_
  exact r_retv (rv := (fun _ => none)) (hpE := (fun u => w_X0X0 u B2)) (t0 := ((va_up (va_up (va_up (va_up (va_up (va_up (va_up (va_up (va_up (va_up B.1 0 (B2.1 0)) 1 (B2.1 1)) 2 (B2.1 2)) 3 (B2.1 3)) 4 (B2.1 4)) 5 (B2.1 5)) 6 (B2.1 6)) 7 (B2.1 7)) 8 (B2.1 8)) 9 (B2.1 9)), (va_up (va_up (va_up (va_up (va_up (va_up B.2 10 (va_cpy (B2.2 10) (B.2 10) (0 : Int32).toNatClampNeg (0 : Int32).toNatClampNeg (8 : Int32).toNatClampNeg)) 11 (va_cpy (B2.2 11) (B.2 11) (0 : Int32).toNatClampNeg (0 : Int32).toNatClampNeg (8 : Int32).toNatClampNeg)) 12 (va_cpy (B2.2 12) (B.2 12) (0 : Int32).toNatClampNeg (0 : Int32).toNatClampNeg (8 : Int32).toNatClampNeg)) 13 (va_cpy (B2.2 13) (B.2 13) (0 : Int32).toNatClampNeg (0 : Int32).toNatClampNeg (12 : Int32).toNatClampNeg)) 14 (va_cpy (B2.2 14) (B.2 14) (0 : Int32).toNatClampNeg (0 : Int32).toNatClampNeg (12 : Int32).toNatClampNeg)) 15 (va_cpy (B2.2 15) (B.2 15) (0 : Int32).toNatClampNeg (0 : Int32).toNatClampNeg (10 : Int32).toNatClampNeg)))) C dX0_take_170 (by rfl) (by rfl) (by rfl)
set_option maxRecDepth 100000 in
set_option maxHeartbeats 4000000 in
theorem k_X0_keepBeats_7 {p : Program} {l : Launch} {e : Env} {s : State} {m : MethodId} {args : Array Value} {below : List Frame} {meth : Method} {c : Code} {dC : Nat → ClassId} {dI : Nat → Nat → Nat} {dA : Nat → ClassId} {A : Nat → Prop} {α : Nat → Nat} {t : q_St} (C : q_Cx p s m args meth c cX0_keepBeats 4 RX0 none "keepBeats" dC dI dA A α) (B : q_St) (a1 : Int32) (a2 : Int32)  : ∀ (n : Nat) (x1 : Int32) (x2 : Int32) (x3 : Int32) (B' : q_St), q_S p l e (q_rm 3 65) s m args below meth c 4 dC dI dA A α (MQ below (q_Q α dC dI dA A ((fun _ => none) t) ((fun u => w_X0 u) t)) args s 0 0 A) 0 0 (f_X0_keepBeats_7 B a1 a2  n x1 x2 x3 B') t 7 [(0, .ref 50), (1, .int x1), (2, .int x2), (3, .int x3)] [] (w_X0 B') := by
  intro n
  induction n with
  | zero =>
    intro x1 x2 x3 B'
    exact r_cut (f_X0_keepBeats_7.eq_1 _ _ _ _ _ _ _) (r_none True.intro)
  | succ n ih =>
    intro x1 x2 x3 B'
    refine r_cut (f_X0_keepBeats_7.eq_2 _ _ _ _ _ _ _ _) ?_
    refine r_iload_n C 3 dX0_keepBeats_7 rfl ?_
    refine r_if_lt C 32 dX0_keepBeats_8 (by decide) (fun h8 => ?_) (fun h8 => ?_)
    · exact r_retv (rv := (fun _ => none)) (hpE := (fun u => w_X0 u)) (t0 := B') C dX0_keepBeats_32 (by rfl) (by rfl) (by rfl)
    · refine r_iload_n C 3 dX0_keepBeats_11 rfl ?_
      refine r_iload_n C 1 dX0_keepBeats_12 rfl ?_
      refine r_icmp_lt C 21 dX0_keepBeats_13 (by decide) (fun h13 => ?_) (fun h13 => ?_)
      · refine r_aload_n C 0 dX0_keepBeats_21 rfl ?_
        refine r_iload_n C 3 dX0_keepBeats_22 rfl ?_
        refine r_callV0 C (o_X0_dropBeat l B' x3) v_X0_dropBeat m_512 [.int x3] [] (50) (Or.inl ⟨0, 0, _, TX0, 16, rfl, rfl, rfl⟩) (fun u1 => []) (fun u1 => w_X0 u1) rfl rfl rfl (Nat.le_of_ble_eq_true rfl) ⟨(Nat.le_of_ble_eq_true rfl), (Nat.le_of_ble_eq_true rfl)⟩ ⟨Nat.zero_le _, Nat.zero_le _⟩ dX0_keepBeats_23 (fun _ => rfl) (fun _ => rfl) (fun _ => rfl) (fun u1 => ?_)
        refine r_iinc C 3 (x3 + (-1)) [(3, .int (x3 + (-1))), (0, .ref 50), (1, .int x1), (2, .int x2)] dX0_keepBeats_26 rfl rfl (Nat.le_of_ble_eq_true rfl) rfl ?_
        refine r_goto C 7 dX0_keepBeats_29 (by decide) ?_
        refine r_lv [(0, .ref 50), (1, .int x1), (2, .int x2), (3, .int (x3 + (-1)))] [1, 2, 3, 0] rfl ?_
        exact ih x1 x2 (x3 + (-1)) u1
      · refine r_iload_n C 3 dX0_keepBeats_16 rfl ?_
        refine r_iload_n C 2 dX0_keepBeats_17 rfl ?_
        refine r_icmp_le C 26 dX0_keepBeats_18 (by decide) (fun h18 => ?_) (fun h18 => ?_)
        · refine r_iinc C 3 (x3 + (-1)) [(3, .int (x3 + (-1))), (0, .ref 50), (1, .int x1), (2, .int x2)] dX0_keepBeats_26 rfl rfl (Nat.le_of_ble_eq_true rfl) rfl ?_
          refine r_goto C 7 dX0_keepBeats_29 (by decide) ?_
          refine r_lv [(0, .ref 50), (1, .int x1), (2, .int x2), (3, .int (x3 + (-1)))] [1, 2, 3, 0] rfl ?_
          exact ih x1 x2 (x3 + (-1)) B'
        · refine r_aload_n C 0 dX0_keepBeats_21 rfl ?_
          refine r_iload_n C 3 dX0_keepBeats_22 rfl ?_
          refine r_callV0 C (o_X0_dropBeat l B' x3) v_X0_dropBeat m_512 [.int x3] [] (50) (Or.inl ⟨0, 0, _, TX0, 16, rfl, rfl, rfl⟩) (fun u2 => []) (fun u2 => w_X0 u2) rfl rfl rfl (Nat.le_of_ble_eq_true rfl) ⟨(Nat.le_of_ble_eq_true rfl), (Nat.le_of_ble_eq_true rfl)⟩ ⟨Nat.zero_le _, Nat.zero_le _⟩ dX0_keepBeats_23 (fun _ => rfl) (fun _ => rfl) (fun _ => rfl) (fun u2 => ?_)
          refine r_iinc C 3 (x3 + (-1)) [(3, .int (x3 + (-1))), (0, .ref 50), (1, .int x1), (2, .int x2)] dX0_keepBeats_26 rfl rfl (Nat.le_of_ble_eq_true rfl) rfl ?_
          refine r_goto C 7 dX0_keepBeats_29 (by decide) ?_
          refine r_lv [(0, .ref 50), (1, .int x1), (2, .int x2), (3, .int (x3 + (-1)))] [1, 2, 3, 0] rfl ?_
          exact ih x1 x2 (x3 + (-1)) u2
set_option maxRecDepth 100000 in
set_option maxHeartbeats 4000000 in
theorem o_X0_keepBeats (l : Launch) (B : q_St) (a1 : Int32) (a2 : Int32) : q_Ok l yX0_keepBeats cX0_keepBeats 4 none 3 65 [.ref 50, .int a1, .int a2] (w_X0 B) (f_X0_keepBeats B a1 a2) (fun _ => none) (fun u => w_X0 u) := by
  refine q_enter (by decide +kernel) (Nat.le_of_ble_eq_true rfl) (fun t p e s m args below meth c dC dI dA A α C => ?_)
  refine r_cut (f_X0_keepBeats.eq_1 _ _ _) ?_
  show q_S p l e (q_rm 3 65) s m args below meth c 4 dC dI dA A α (MQ below (q_Q α dC dI dA A ((fun _ => none) t) ((fun u => w_X0 u) t)) args s 0 0 A) 0 0 _ t 0 [(0, .ref 50), (1, .int a1), (2, .int a2)] [] (w_X0 B)
  refine r_aload_n C 0 dX0_keepBeats_0 rfl ?_
  refine r_get C 0 1 dX0_keepBeats_1 K_X0 rfl rfl (Nat.le_of_ble_eq_true rfl) rfl m_34 rfl ?_
  refine r_iconst C (1) dX0_keepBeats_4 rfl ?_
  refine r_isub C dX0_keepBeats_5 ?_
  refine r_istore_n C [(3, .int (B.1 1 - (1 : Int32))), (0, .ref 50), (1, .int a1), (2, .int a2)] dX0_keepBeats_6 (Nat.le_of_ble_eq_true rfl) rfl ?_
  refine r_lv [(0, .ref 50), (1, .int a1), (2, .int a2), (3, .int (B.1 1 - (1 : Int32)))] [1, 2, 3, 0] rfl ?_
  exact k_X0_keepBeats_7 C B a1 a2   q_N a1 a2 (B.1 1 - (1 : Int32)) B
set_option maxRecDepth 100000 in
set_option maxHeartbeats 4000000 in
theorem k_X0_dropWrongBeats_7 {p : Program} {l : Launch} {e : Env} {s : State} {m : MethodId} {args : Array Value} {below : List Frame} {meth : Method} {c : Code} {dC : Nat → ClassId} {dI : Nat → Nat → Nat} {dA : Nat → ClassId} {A : Nat → Prop} {α : Nat → Nat} {t : q_St} (C : q_Cx p s m args meth c cX0_dropWrongBeats 2 RX0 none "dropWrongBeats" dC dI dA A α) (B : q_St)  : ∀ (n : Nat) (x1 : Int32) (B' : q_St), q_S p l e (q_rm 4 89) s m args below meth c 2 dC dI dA A α (MQ below (q_Q α dC dI dA A ((fun _ => none) t) ((fun u => w_X0 u) t)) args s 0 0 A) 0 0 (f_X0_dropWrongBeats_7 B  n x1 B') t 7 [(0, .ref 50), (1, .int x1)] [] (w_X0 B') := by
  intro n
  induction n with
  | zero =>
    intro x1 B'
    exact r_cut (f_X0_dropWrongBeats_7.eq_1 _ _ _) (r_none True.intro)
  | succ n ih =>
    intro x1 B'
    refine r_cut (f_X0_dropWrongBeats_7.eq_2 _ _ _ _) ?_
    refine r_iload_n C 1 dX0_dropWrongBeats_7 rfl ?_
    refine r_if_lt C 30 dX0_dropWrongBeats_8 (by decide) (fun h8 => ?_) (fun h8 => ?_)
    · exact r_retv (rv := (fun _ => none)) (hpE := (fun u => w_X0 u)) (t0 := B') C dX0_dropWrongBeats_30 (by rfl) (by rfl) (by rfl)
    · refine r_aload_n C 0 dX0_dropWrongBeats_11 rfl ?_
      refine r_iload_n C 1 dX0_dropWrongBeats_12 rfl ?_
      refine r_callV0 C (o_X0_isWrong l B' x1) v_X0_isWrong m_371 [.int x1] [] (50) (Or.inl ⟨0, 0, _, TX0, 16, rfl, rfl, rfl⟩) (fun u1 => [.int u1]) (fun u1 => w_X0 B') rfl rfl rfl (Nat.le_of_ble_eq_true rfl) ⟨(Nat.le_of_ble_eq_true rfl), (Nat.le_of_ble_eq_true rfl)⟩ ⟨Nat.zero_le _, Nat.zero_le _⟩ dX0_dropWrongBeats_13 (fun _ => rfl) (fun _ => rfl) (fun _ => rfl) (fun u1 => ?_)
      refine r_if_eq C 24 dX0_dropWrongBeats_16 (by decide) (fun h16 => ?_) (fun h16 => ?_)
      · refine r_iinc C 1 (x1 + (-1)) [(1, .int (x1 + (-1))), (0, .ref 50)] dX0_dropWrongBeats_24 rfl rfl (Nat.le_of_ble_eq_true rfl) rfl ?_
        refine r_goto C 7 dX0_dropWrongBeats_27 (by decide) ?_
        refine r_lv [(0, .ref 50), (1, .int (x1 + (-1)))] [1, 0] rfl ?_
        exact ih (x1 + (-1)) B'
      · refine r_aload_n C 0 dX0_dropWrongBeats_19 rfl ?_
        refine r_iload_n C 1 dX0_dropWrongBeats_20 rfl ?_
        refine r_callV0 C (o_X0_dropBeat l B' x1) v_X0_dropBeat m_512 [.int x1] [] (50) (Or.inl ⟨0, 0, _, TX0, 16, rfl, rfl, rfl⟩) (fun u2 => []) (fun u2 => w_X0 u2) rfl rfl rfl (Nat.le_of_ble_eq_true rfl) ⟨(Nat.le_of_ble_eq_true rfl), (Nat.le_of_ble_eq_true rfl)⟩ ⟨Nat.zero_le _, Nat.zero_le _⟩ dX0_dropWrongBeats_21 (fun _ => rfl) (fun _ => rfl) (fun _ => rfl) (fun u2 => ?_)
        refine r_iinc C 1 (x1 + (-1)) [(1, .int (x1 + (-1))), (0, .ref 50)] dX0_dropWrongBeats_24 rfl rfl (Nat.le_of_ble_eq_true rfl) rfl ?_
        refine r_goto C 7 dX0_dropWrongBeats_27 (by decide) ?_
        refine r_lv [(0, .ref 50), (1, .int (x1 + (-1)))] [1, 0] rfl ?_
        exact ih (x1 + (-1)) u2
set_option maxRecDepth 100000 in
set_option maxHeartbeats 4000000 in
theorem o_X0_dropWrongBeats (l : Launch) (B : q_St) : q_Ok l yX0_dropWrongBeats cX0_dropWrongBeats 2 none 4 89 [.ref 50] (w_X0 B) (f_X0_dropWrongBeats B) (fun _ => none) (fun u => w_X0 u) := by
  refine q_enter (by decide +kernel) (Nat.le_of_ble_eq_true rfl) (fun t p e s m args below meth c dC dI dA A α C => ?_)
  refine r_cut (f_X0_dropWrongBeats.eq_1 _) ?_
  show q_S p l e (q_rm 4 89) s m args below meth c 2 dC dI dA A α (MQ below (q_Q α dC dI dA A ((fun _ => none) t) ((fun u => w_X0 u) t)) args s 0 0 A) 0 0 _ t 0 [(0, .ref 50)] [] (w_X0 B)
  refine r_aload_n C 0 dX0_dropWrongBeats_0 rfl ?_
  refine r_get C 0 1 dX0_dropWrongBeats_1 K_X0 rfl rfl (Nat.le_of_ble_eq_true rfl) rfl m_34 rfl ?_
  refine r_iconst C (1) dX0_dropWrongBeats_4 rfl ?_
  refine r_isub C dX0_dropWrongBeats_5 ?_
  refine r_istore_n C [(1, .int (B.1 1 - (1 : Int32))), (0, .ref 50)] dX0_dropWrongBeats_6 (Nat.le_of_ble_eq_true rfl) rfl ?_
  refine r_lv [(0, .ref 50), (1, .int (B.1 1 - (1 : Int32)))] [1, 0] rfl ?_
  exact k_X0_dropWrongBeats_7 C B   q_N (B.1 1 - (1 : Int32)) B
set_option maxRecDepth 100000 in
set_option maxHeartbeats 4000000 in
theorem k_X0_areTogether_2 {p : Program} {l : Launch} {e : Env} {s : State} {m : MethodId} {args : Array Value} {below : List Frame} {meth : Method} {c : Code} {dC : Nat → ClassId} {dI : Nat → Nat → Nat} {dA : Nat → ClassId} {A : Nat → Prop} {α : Nat → Nat} {t : Int32} (C : q_Cx p s m args meth c cX0_areTogether 4 RX0 (some .boolean) "areTogether" dC dI dA A α) (B : q_St) (a1 : Int32) (a2 : Int32)  : ∀ (n : Nat) (x1 : Int32) (x2 : Int32) (x3 : Int32), q_S p l e (q_rm 2 42) s m args below meth c 4 dC dI dA A α (MQ below (q_Q α dC dI dA A ((fun u => some (.int u)) t) ((fun u => w_X0 B) t)) args s 0 0 A) 0 0 (f_X0_areTogether_2 B a1 a2  n x1 x2 x3) t 2 [(0, .ref 50), (1, .int x1), (2, .int x2), (3, .int x3)] [] (w_X0 B) := by
  intro n
  induction n with
  | zero =>
    intro x1 x2 x3
    exact r_cut (f_X0_areTogether_2.eq_1 _ _ _ _ _ _) (r_none True.intro)
  | succ n ih =>
    intro x1 x2 x3
    refine r_cut (f_X0_areTogether_2.eq_2 _ _ _ _ _ _ _) ?_
    refine r_iload_n C 3 dX0_areTogether_2 rfl ?_
    refine r_aload_n C 0 dX0_areTogether_3 rfl ?_
    refine r_get C 0 1 dX0_areTogether_4 K_X0 rfl rfl (Nat.le_of_ble_eq_true rfl) rfl m_34 rfl ?_
    refine r_icmp_ge C 42 dX0_areTogether_7 (by decide) (fun h7 => ?_) (fun h7 => ?_)
    · refine r_iconst C (0) dX0_areTogether_42 rfl ?_
      exact r_retz (x := (0 : Int32)) (rv := (fun u => some (.int u))) (hpE := (fun u => w_X0 B)) (t0 := (0 : Int32)) C dX0_areTogether_43 (by rfl) (by rfl) (by rfl) (by rfl)
    · refine r_aload_n C 0 dX0_areTogether_10 rfl ?_
      refine r_iload_n C 3 dX0_areTogether_11 rfl ?_
      refine r_callV0 C (o_X0_castOf l B x3) v_X0_castOf m_322 [.int x3] [] (50) (Or.inl ⟨0, 0, _, TX0, 16, rfl, rfl, rfl⟩) (fun u1 => [.int u1]) (fun u1 => w_X0 B) rfl rfl rfl (Nat.le_of_ble_eq_true rfl) ⟨(Nat.le_of_ble_eq_true rfl), (Nat.le_of_ble_eq_true rfl)⟩ ⟨Nat.zero_le _, Nat.zero_le _⟩ dX0_areTogether_12 (fun _ => rfl) (fun _ => rfl) (fun _ => rfl) (fun u1 => ?_)
      refine r_iload_n C 1 dX0_areTogether_15 rfl ?_
      refine r_callS C (o_X0_contains l u1 x1) v_X0_contains m_324 [] [.int u1, .int x1] [] (fun u2 => [.int u2]) (fun u2 => w_X0 B) rfl rfl rfl rfl rfl (Nat.le_of_ble_eq_true rfl) ⟨(Nat.le_of_ble_eq_true rfl), (Nat.le_of_ble_eq_true rfl)⟩ ⟨Nat.zero_le _, Nat.zero_le _⟩ dX0_areTogether_16 (fun _ => rfl) (fun _ => rfl) (fun _ => rfl) (fun u2 => ?_)
      refine r_if_eq C 36 dX0_areTogether_19 (by decide) (fun h19 => ?_) (fun h19 => ?_)
      · refine r_iinc C 3 (x3 + 1) [(3, .int (x3 + 1)), (0, .ref 50), (1, .int x1), (2, .int x2)] dX0_areTogether_36 rfl rfl (Nat.le_of_ble_eq_true rfl) rfl ?_
        refine r_goto C 2 dX0_areTogether_39 (by decide) ?_
        refine r_lv [(0, .ref 50), (1, .int x1), (2, .int x2), (3, .int (x3 + 1))] [1, 2, 3, 0] rfl ?_
        exact ih x1 x2 (x3 + 1)
      · refine r_aload_n C 0 dX0_areTogether_22 rfl ?_
        refine r_iload_n C 3 dX0_areTogether_23 rfl ?_
        refine r_callV0 C (o_X0_castOf l B x3) v_X0_castOf m_322 [.int x3] [] (50) (Or.inl ⟨0, 0, _, TX0, 16, rfl, rfl, rfl⟩) (fun u3 => [.int u3]) (fun u3 => w_X0 B) rfl rfl rfl (Nat.le_of_ble_eq_true rfl) ⟨(Nat.le_of_ble_eq_true rfl), (Nat.le_of_ble_eq_true rfl)⟩ ⟨Nat.zero_le _, Nat.zero_le _⟩ dX0_areTogether_24 (fun _ => rfl) (fun _ => rfl) (fun _ => rfl) (fun u3 => ?_)
        refine r_iload_n C 2 dX0_areTogether_27 rfl ?_
        refine r_callS C (o_X0_contains l u3 x2) v_X0_contains m_324 [] [.int u3, .int x2] [] (fun u4 => [.int u4]) (fun u4 => w_X0 B) rfl rfl rfl rfl rfl (Nat.le_of_ble_eq_true rfl) ⟨(Nat.le_of_ble_eq_true rfl), (Nat.le_of_ble_eq_true rfl)⟩ ⟨Nat.zero_le _, Nat.zero_le _⟩ dX0_areTogether_28 (fun _ => rfl) (fun _ => rfl) (fun _ => rfl) (fun u4 => ?_)
        refine r_if_eq C 36 dX0_areTogether_31 (by decide) (fun h31 => ?_) (fun h31 => ?_)
        · refine r_iinc C 3 (x3 + 1) [(3, .int (x3 + 1)), (0, .ref 50), (1, .int x1), (2, .int x2)] dX0_areTogether_36 rfl rfl (Nat.le_of_ble_eq_true rfl) rfl ?_
          refine r_goto C 2 dX0_areTogether_39 (by decide) ?_
          refine r_lv [(0, .ref 50), (1, .int x1), (2, .int x2), (3, .int (x3 + 1))] [1, 2, 3, 0] rfl ?_
          exact ih x1 x2 (x3 + 1)
        · refine r_iconst C (1) dX0_areTogether_34 rfl ?_
          exact r_retz (x := (1 : Int32)) (rv := (fun u => some (.int u))) (hpE := (fun u => w_X0 B)) (t0 := (1 : Int32)) C dX0_areTogether_35 (by rfl) (by rfl) (by rfl) (by rfl)
set_option maxRecDepth 100000 in
set_option maxHeartbeats 4000000 in
theorem o_X0_areTogether (l : Launch) (B : q_St) (a1 : Int32) (a2 : Int32) : q_Ok l yX0_areTogether cX0_areTogether 4 (some .boolean) 2 42 [.ref 50, .int a1, .int a2] (w_X0 B) (f_X0_areTogether B a1 a2) (fun u => some (.int u)) (fun u => w_X0 B) := by
  refine q_enter (by decide +kernel) (Nat.le_of_ble_eq_true rfl) (fun t p e s m args below meth c dC dI dA A α C => ?_)
  refine r_cut (f_X0_areTogether.eq_1 _ _ _) ?_
  show q_S p l e (q_rm 2 42) s m args below meth c 4 dC dI dA A α (MQ below (q_Q α dC dI dA A ((fun u => some (.int u)) t) ((fun u => w_X0 B) t)) args s 0 0 A) 0 0 _ t 0 [(0, .ref 50), (1, .int a1), (2, .int a2)] [] (w_X0 B)
  refine r_iconst C (0) dX0_areTogether_0 rfl ?_
  refine r_istore_n C [(3, .int (0 : Int32)), (0, .ref 50), (1, .int a1), (2, .int a2)] dX0_areTogether_1 (Nat.le_of_ble_eq_true rfl) rfl ?_
  refine r_lv [(0, .ref 50), (1, .int a1), (2, .int a2), (3, .int (0 : Int32))] [1, 2, 3, 0] rfl ?_
  exact k_X0_areTogether_2 C B a1 a2   q_N a1 a2 (0 : Int32)
set_option maxRecDepth 100000 in
set_option maxHeartbeats 4000000 in
theorem k_X0_replace_45 {p : Program} {l : Launch} {e : Env} {s : State} {m : MethodId} {args : Array Value} {below : List Frame} {meth : Method} {c : Code} {dC : Nat → ClassId} {dI : Nat → Nat → Nat} {dA : Nat → ClassId} {A : Nat → Prop} {α : Nat → Nat} {t : q_St} (C : q_Cx p s m args meth c cX0_replace 5 RX0 none "replace" dC dI dA A α) (B : q_St) (a1 : Int32) (a2 : Int32) (r2 : Int32 → Int32 → Int32 → q_St → Option (q_St))
    (hr2 : ∀ (x1 : Int32) (x2 : Int32) (x3 : Int32) (B' : q_St), q_S p l e (q_rm 2 43) s m args below meth c 5 dC dI dA A α (MQ below (q_Q α dC dI dA A ((fun _ => none) t) ((fun u => w_X0 u) t)) args s 0 0 A) 0 0 (r2 x1 x2 x3 B') t 2 [(0, .ref 50), (1, .int x1), (2, .int x2), (3, .int x3)] [] (w_X0 B')) : ∀ (x1 : Int32) (x2 : Int32) (x3 : Int32) (B' : q_St), q_S p l e (q_rm 2 43) s m args below meth c 5 dC dI dA A α (MQ below (q_Q α dC dI dA A ((fun _ => none) t) ((fun u => w_X0 u) t)) args s 0 0 A) 0 0 (f_X0_replace_45 B a1 a2 r2 x1 x2 x3 B') t 45 [(0, .ref 50), (1, .int x1), (2, .int x2), (3, .int x3)] [] (w_X0 B') := by
  intro x1 x2 x3 B'
  refine r_cut (f_X0_replace_45.eq_1 _ _ _ _ _ _ _ _) ?_
  refine r_aload_n C 0 dX0_replace_45 rfl ?_
  refine r_iload_n C 3 dX0_replace_46 rfl ?_
  refine r_callV0 C (o_X0_speakerOf l B' x3) v_X0_speakerOf m_323 [.int x3] [] (50) (Or.inl ⟨0, 0, _, TX0, 16, rfl, rfl, rfl⟩) (fun u6 => [.int u6]) (fun u6 => w_X0 B') rfl rfl rfl (Nat.le_of_ble_eq_true rfl) ⟨(Nat.le_of_ble_eq_true rfl), (Nat.le_of_ble_eq_true rfl)⟩ ⟨Nat.zero_le _, Nat.zero_le _⟩ dX0_replace_47 (fun _ => rfl) (fun _ => rfl) (fun _ => rfl) (fun u6 => ?_)
  refine r_iload_n C 1 dX0_replace_50 rfl ?_
  refine r_icmp_ne C 60 dX0_replace_51 (by decide) (fun h51 => ?_) (fun h51 => ?_)
  · refine r_aload_n C 0 dX0_replace_54 rfl ?_
    refine r_iload_n C 3 dX0_replace_55 rfl ?_
    refine r_iload_n C 2 dX0_replace_56 rfl ?_
    refine r_callV0 C (o_X0_setSpeaker l B' x3 x2) v_X0_setSpeaker m_362 [.int x3, .int x2] [] (50) (Or.inl ⟨0, 0, _, TX0, 16, rfl, rfl, rfl⟩) (fun u7 => []) (fun u7 => w_X0 u7) rfl rfl rfl (Nat.le_of_ble_eq_true rfl) ⟨(Nat.le_of_ble_eq_true rfl), (Nat.le_of_ble_eq_true rfl)⟩ ⟨Nat.zero_le _, Nat.zero_le _⟩ dX0_replace_57 (fun _ => rfl) (fun _ => rfl) (fun _ => rfl) (fun u7 => ?_)
    refine r_iinc C 3 (x3 + 1) [(3, .int (x3 + 1)), (0, .ref 50), (1, .int x1), (2, .int x2)] dX0_replace_60 rfl rfl (Nat.le_of_ble_eq_true rfl) rfl ?_
    refine r_goto C 2 dX0_replace_63 (by decide) ?_
    refine r_lv [(0, .ref 50), (1, .int x1), (2, .int x2), (3, .int (x3 + 1))] [1, 2, 3, 0] rfl ?_
    exact hr2 x1 x2 (x3 + 1) u7
  · refine r_iinc C 3 (x3 + 1) [(3, .int (x3 + 1)), (0, .ref 50), (1, .int x1), (2, .int x2)] dX0_replace_60 rfl rfl (Nat.le_of_ble_eq_true rfl) rfl ?_
    refine r_goto C 2 dX0_replace_63 (by decide) ?_
    refine r_lv [(0, .ref 50), (1, .int x1), (2, .int x2), (3, .int (x3 + 1))] [1, 2, 3, 0] rfl ?_
    exact hr2 x1 x2 (x3 + 1) B'
set_option maxRecDepth 100000 in
set_option maxHeartbeats 4000000 in
theorem k_X0_replace_2 {p : Program} {l : Launch} {e : Env} {s : State} {m : MethodId} {args : Array Value} {below : List Frame} {meth : Method} {c : Code} {dC : Nat → ClassId} {dI : Nat → Nat → Nat} {dA : Nat → ClassId} {A : Nat → Prop} {α : Nat → Nat} {t : q_St} (C : q_Cx p s m args meth c cX0_replace 5 RX0 none "replace" dC dI dA A α) (B : q_St) (a1 : Int32) (a2 : Int32)  : ∀ (n : Nat) (x1 : Int32) (x2 : Int32) (x3 : Int32) (B' : q_St), q_S p l e (q_rm 2 43) s m args below meth c 5 dC dI dA A α (MQ below (q_Q α dC dI dA A ((fun _ => none) t) ((fun u => w_X0 u) t)) args s 0 0 A) 0 0 (f_X0_replace_2 B a1 a2  n x1 x2 x3 B') t 2 [(0, .ref 50), (1, .int x1), (2, .int x2), (3, .int x3)] [] (w_X0 B') := by
  intro n
  induction n with
  | zero =>
    intro x1 x2 x3 B'
    exact r_cut (f_X0_replace_2.eq_1 _ _ _ _ _ _ _) (r_none True.intro)
  | succ n ih =>
    intro x1 x2 x3 B'
    refine r_cut (f_X0_replace_2.eq_2 _ _ _ _ _ _ _ _) ?_
    refine r_iload_n C 3 dX0_replace_2 rfl ?_
    refine r_aload_n C 0 dX0_replace_3 rfl ?_
    refine r_get C 0 1 dX0_replace_4 K_X0 rfl rfl (Nat.le_of_ble_eq_true rfl) rfl m_34 rfl ?_
    refine r_icmp_ge C 66 dX0_replace_7 (by decide) (fun h7 => ?_) (fun h7 => ?_)
    · exact r_retv (rv := (fun _ => none)) (hpE := (fun u => w_X0 u)) (t0 := B') C dX0_replace_66 (by rfl) (by rfl) (by rfl)
    · refine r_aload_n C 0 dX0_replace_10 rfl ?_
      refine r_iload_n C 3 dX0_replace_11 rfl ?_
      refine r_callV0 C (o_X0_castOf l B' x3) v_X0_castOf m_322 [.int x3] [] (50) (Or.inl ⟨0, 0, _, TX0, 16, rfl, rfl, rfl⟩) (fun u1 => [.int u1]) (fun u1 => w_X0 B') rfl rfl rfl (Nat.le_of_ble_eq_true rfl) ⟨(Nat.le_of_ble_eq_true rfl), (Nat.le_of_ble_eq_true rfl)⟩ ⟨Nat.zero_le _, Nat.zero_le _⟩ dX0_replace_12 (fun _ => rfl) (fun _ => rfl) (fun _ => rfl) (fun u1 => ?_)
      refine r_istore C [(4, .int u1), (0, .ref 50), (1, .int x1), (2, .int x2), (3, .int x3)] dX0_replace_15 (Nat.le_of_ble_eq_true rfl) rfl ?_
      refine r_iload C 0 dX0_replace_17 rfl ?_
      refine r_iload_n C 2 dX0_replace_19 rfl ?_
      refine r_callS C (o_X0_contains l u1 x1) v_X0_contains m_324 [] [.int u1, .int x1] [] (fun u2 => [.int u2]) (fun u2 => w_X0 B') rfl rfl rfl rfl rfl (Nat.le_of_ble_eq_true rfl) ⟨(Nat.le_of_ble_eq_true rfl), (Nat.le_of_ble_eq_true rfl)⟩ ⟨Nat.zero_le _, Nat.zero_le _⟩ dX0_replace_20 (fun _ => rfl) (fun _ => rfl) (fun _ => rfl) (fun u2 => ?_)
      refine r_if_eq C 45 dX0_replace_23 (by decide) (fun h23 => ?_) (fun h23 => ?_)
      · refine r_lv [(0, .ref 50), (1, .int x1), (2, .int x2), (3, .int x3)] [1, 2, 3, 4] rfl ?_
        exact k_X0_replace_45 C B a1 a2 (fun x1 x2 x3 B' => f_X0_replace_2 B a1 a2  n x1 x2 x3 B') ih x1 x2 x3 B'
      · refine r_aload_n C 1 dX0_replace_26 rfl ?_
        refine r_iload_n C 4 dX0_replace_27 rfl ?_
        refine r_iload C 0 dX0_replace_28 rfl ?_
        refine r_iload_n C 2 dX0_replace_30 rfl ?_
        refine r_callS C (o_X0_bit l x1) v_X0_bit m_327 [] [.int x1] [.int u1, .int x3, .ref 50] (fun u3 => [.int u3, .int u1, .int x3, .ref 50]) (fun u3 => w_X0 B') rfl rfl rfl rfl rfl (Nat.le_of_ble_eq_true rfl) ⟨(Nat.le_of_ble_eq_true rfl), (Nat.le_of_ble_eq_true rfl)⟩ ⟨Nat.zero_le _, Nat.zero_le _⟩ dX0_replace_31 (fun _ => rfl) (fun _ => rfl) (fun _ => rfl) (fun u3 => ?_)
        refine r_iconst C (-1) dX0_replace_34 rfl ?_
        refine r_ixor C dX0_replace_35 ?_
        refine r_iand C dX0_replace_36 ?_
        refine r_iload_n C 3 dX0_replace_37 rfl ?_
        refine r_callS C (o_X0_bit l x2) v_X0_bit m_327 [] [.int x2] [.int (u1 &&& (u3 ^^^ (-1 : Int32))), .int x3, .ref 50] (fun u4 => [.int u4, .int (u1 &&& (u3 ^^^ (-1 : Int32))), .int x3, .ref 50]) (fun u4 => w_X0 B') rfl rfl rfl rfl rfl (Nat.le_of_ble_eq_true rfl) ⟨(Nat.le_of_ble_eq_true rfl), (Nat.le_of_ble_eq_true rfl)⟩ ⟨Nat.zero_le _, Nat.zero_le _⟩ dX0_replace_38 (fun _ => rfl) (fun _ => rfl) (fun _ => rfl) (fun u4 => ?_)
        refine r_ior C dX0_replace_41 ?_
        refine r_callV0 C (o_X0_setCast l B' x3 ((u1 &&& (u3 ^^^ (-1 : Int32))) ||| u4)) v_X0_setCast m_361 [.int x3, .int ((u1 &&& (u3 ^^^ (-1 : Int32))) ||| u4)] [] (50) (Or.inl ⟨0, 0, _, TX0, 16, rfl, rfl, rfl⟩) (fun u5 => []) (fun u5 => w_X0 u5) rfl rfl rfl (Nat.le_of_ble_eq_true rfl) ⟨(Nat.le_of_ble_eq_true rfl), (Nat.le_of_ble_eq_true rfl)⟩ ⟨Nat.zero_le _, Nat.zero_le _⟩ dX0_replace_42 (fun _ => rfl) (fun _ => rfl) (fun _ => rfl) (fun u5 => ?_)
        refine r_lv [(0, .ref 50), (1, .int x1), (2, .int x2), (3, .int x3)] [1, 2, 3, 4] rfl ?_
        exact k_X0_replace_45 C B a1 a2 (fun x1 x2 x3 B' => f_X0_replace_2 B a1 a2  n x1 x2 x3 B') ih x1 x2 x3 u5
set_option maxRecDepth 100000 in
set_option maxHeartbeats 4000000 in
theorem o_X0_replace (l : Launch) (B : q_St) (a1 : Int32) (a2 : Int32) : q_Ok l yX0_replace cX0_replace 5 none 2 43 [.ref 50, .int a1, .int a2] (w_X0 B) (f_X0_replace B a1 a2) (fun _ => none) (fun u => w_X0 u) := by
  refine q_enter (by decide +kernel) (Nat.le_of_ble_eq_true rfl) (fun t p e s m args below meth c dC dI dA A α C => ?_)
  refine r_cut (f_X0_replace.eq_1 _ _ _) ?_
  show q_S p l e (q_rm 2 43) s m args below meth c 5 dC dI dA A α (MQ below (q_Q α dC dI dA A ((fun _ => none) t) ((fun u => w_X0 u) t)) args s 0 0 A) 0 0 _ t 0 [(0, .ref 50), (1, .int a1), (2, .int a2)] [] (w_X0 B)
  refine r_iconst C (0) dX0_replace_0 rfl ?_
  refine r_istore_n C [(3, .int (0 : Int32)), (0, .ref 50), (1, .int a1), (2, .int a2)] dX0_replace_1 (Nat.le_of_ble_eq_true rfl) rfl ?_
  refine r_lv [(0, .ref 50), (1, .int a1), (2, .int a2), (3, .int (0 : Int32))] [1, 2, 3, 0] rfl ?_
  exact k_X0_replace_2 C B a1 a2   q_N a1 a2 (0 : Int32) B
set_option maxRecDepth 100000 in
set_option maxHeartbeats 4000000 in
theorem o_X2_isMissing (l : Launch) (S : q_St) : q_Ok l yX2_isMissing cX2_isMissing 1 (some .boolean) 0 0 [.ref 50] (w_X2 S) (f_X2_isMissing S) (fun u => some (.int u)) (fun u => w_X2 S) := by
  refine q_enter (by decide +kernel) (Nat.le_of_ble_eq_true rfl) (fun t p e s m args below meth c dC dI dA A α C => ?_)
  refine r_cut (f_X2_isMissing.eq_1 _) ?_
  show q_S p l e (q_rm 0 0) s m args below meth c 1 dC dI dA A α (MQ below (q_Q α dC dI dA A ((fun u => some (.int u)) t) ((fun u => w_X2 S) t)) args s 0 0 A) 0 0 _ t 0 [(0, .ref 50)] [] (w_X2 S)
  refine r_aload_n C 0 dX2_isMissing_0 rfl ?_
  refine r_get C 0 0 dX2_isMissing_1 K_X2 rfl rfl (Nat.le_of_ble_eq_true rfl) rfl m_161 rfl ?_
  refine r_if_ne C 11 dX2_isMissing_4 (by decide) (fun h4 => ?_) (fun h4 => ?_)
  · refine r_iconst C (1) dX2_isMissing_7 rfl ?_
    refine r_goto C 12 dX2_isMissing_8 (by decide) ?_
    exact r_retz (x := (1 : Int32)) (rv := (fun u => some (.int u))) (hpE := (fun u => w_X2 S)) (t0 := (1 : Int32)) C dX2_isMissing_12 (by rfl) (by rfl) (by rfl) (by rfl)
  · refine r_iconst C (0) dX2_isMissing_11 rfl ?_
    exact r_retz (x := (0 : Int32)) (rv := (fun u => some (.int u))) (hpE := (fun u => w_X2 S)) (t0 := (0 : Int32)) C dX2_isMissing_12 (by rfl) (by rfl) (by rfl) (by rfl)
set_option maxRecDepth 100000 in
set_option maxHeartbeats 4000000 in
theorem o_X2_isPlace (l : Launch) (S : q_St) (a1 : Int32) : q_Ok l yX2_isPlace cX2_isPlace 2 (some .boolean) 0 0 [.ref 50, .int a1] (w_X2 S) (f_X2_isPlace S a1) (fun u => some (.int u)) (fun u => w_X2 S) := by
  refine q_enter (by decide +kernel) (Nat.le_of_ble_eq_true rfl) (fun t p e s m args below meth c dC dI dA A α C => ?_)
  refine r_cut (f_X2_isPlace.eq_1 _ _) ?_
  show q_S p l e (q_rm 0 0) s m args below meth c 2 dC dI dA A α (MQ below (q_Q α dC dI dA A ((fun u => some (.int u)) t) ((fun u => w_X2 S) t)) args s 0 0 A) 0 0 _ t 0 [(0, .ref 50), (1, .int a1)] [] (w_X2 S)
  refine r_iload_n C 1 dX2_isPlace_0 rfl ?_
  refine r_if_lt C 16 dX2_isPlace_1 (by decide) (fun h1 => ?_) (fun h1 => ?_)
  · refine r_iconst C (0) dX2_isPlace_16 rfl ?_
    exact r_retz (x := (0 : Int32)) (rv := (fun u => some (.int u))) (hpE := (fun u => w_X2 S)) (t0 := (0 : Int32)) C dX2_isPlace_17 (by rfl) (by rfl) (by rfl) (by rfl)
  · refine r_iload_n C 1 dX2_isPlace_4 rfl ?_
    refine r_aload_n C 0 dX2_isPlace_5 rfl ?_
    refine r_get C 0 1 dX2_isPlace_6 K_X2 rfl rfl (Nat.le_of_ble_eq_true rfl) rfl m_163 rfl ?_
    refine r_icmp_ge C 16 dX2_isPlace_9 (by decide) (fun h9 => ?_) (fun h9 => ?_)
    · refine r_iconst C (0) dX2_isPlace_16 rfl ?_
      exact r_retz (x := (0 : Int32)) (rv := (fun u => some (.int u))) (hpE := (fun u => w_X2 S)) (t0 := (0 : Int32)) C dX2_isPlace_17 (by rfl) (by rfl) (by rfl) (by rfl)
    · refine r_iconst C (1) dX2_isPlace_12 rfl ?_
      refine r_goto C 17 dX2_isPlace_13 (by decide) ?_
      exact r_retz (x := (1 : Int32)) (rv := (fun u => some (.int u))) (hpE := (fun u => w_X2 S)) (t0 := (1 : Int32)) C dX2_isPlace_17 (by rfl) (by rfl) (by rfl) (by rfl)
set_option maxRecDepth 100000 in
set_option maxHeartbeats 4000000 in
theorem o_X2_number (l : Launch) (S : q_St) (a1 : Int32) : q_Ok l yX2_number cX2_number 2 (some .int) 1 21 [.ref 50, .int a1] (w_X2 S) (f_X2_number S a1) (fun u => some (.int u)) (fun u => w_X2 S) := by
  refine q_enter (by decide +kernel) (Nat.le_of_ble_eq_true rfl) (fun t p e s m args below meth c dC dI dA A α C => ?_)
  refine r_cut (f_X2_number.eq_1 _ _) ?_
  show q_S p l e (q_rm 1 21) s m args below meth c 2 dC dI dA A α (MQ below (q_Q α dC dI dA A ((fun u => some (.int u)) t) ((fun u => w_X2 S) t)) args s 0 0 A) 0 0 _ t 0 [(0, .ref 50), (1, .int a1)] [] (w_X2 S)
  refine r_aload_n C 0 dX2_number_0 rfl ?_
  refine r_iload_n C 1 dX2_number_1 rfl ?_
  refine r_callV0 C (o_X2_isPlace l S a1) v_X2_isPlace m_598 [.int a1] [] (50) (Or.inl ⟨0, 1, _, TX2, 3, rfl, rfl, rfl⟩) (fun u1 => [.int u1]) (fun u1 => w_X2 S) rfl rfl rfl (Nat.le_of_ble_eq_true rfl) ⟨(Nat.le_of_ble_eq_true rfl), (Nat.le_of_ble_eq_true rfl)⟩ ⟨Nat.zero_le _, Nat.zero_le _⟩ dX2_number_2 (fun _ => rfl) (fun _ => rfl) (fun _ => rfl) (fun u1 => ?_)
  refine r_if_eq C 17 dX2_number_5 (by decide) (fun h5 => ?_) (fun h5 => ?_)
  · refine r_iconst C (0) dX2_number_17 rfl ?_
    exact r_reti (x := (0 : Int32)) (rv := (fun u => some (.int u))) (hpE := (fun u => w_X2 S)) (t0 := (0 : Int32)) C dX2_number_18 (by rfl) (by rfl) (by rfl)
  · refine r_aload_n C 0 dX2_number_8 rfl ?_
    refine r_get C 0 2 dX2_number_9 K_X2 rfl rfl (Nat.le_of_ble_eq_true rfl) rfl m_165 rfl ?_
    refine r_iload_n C 1 dX2_number_12 rfl ?_
    refine r_iald C 1 dX2_number_13 rfl rfl (fun hi13 => ?_)
    refine r_goto C 18 dX2_number_14 (by decide) ?_
    exact r_reti (x := (S.2 2 a1.toNatClampNeg)) (rv := (fun u => some (.int u))) (hpE := (fun u => w_X2 S)) (t0 := (S.2 2 a1.toNatClampNeg)) C dX2_number_18 (by rfl) (by rfl) (by rfl)
set_option maxRecDepth 100000 in
set_option maxHeartbeats 4000000 in
theorem k_X1_isUnder_4 {p : Program} {l : Launch} {e : Env} {s : State} {m : MethodId} {args : Array Value} {below : List Frame} {meth : Method} {c : Code} {dC : Nat → ClassId} {dI : Nat → Nat → Nat} {dA : Nat → ClassId} {A : Nat → Prop} {α : Nat → Nat} {t : Int32} (C : q_Cx p s m args meth c cX1_isUnder 4 RX1 (some .boolean) "isUnder" dC dI dA A α) (a1 : Int32) (a2 : Int32)  : ∀ (n : Nat) (x1 : Int32) (x2 : Int32) (x3 : Int32), q_S p l e (q_rm 1 20) s m args below meth c 4 dC dI dA A α (MQ below (q_Q α dC dI dA A ((fun u => some (.int u)) t) ((fun _ => []) t)) args s 0 0 A) 0 0 (f_X1_isUnder_4 a1 a2  n x1 x2 x3) t 4 [(1, .int x1), (2, .int x2), (3, .int x3)] [] ([]) := by
  intro n
  induction n with
  | zero =>
    intro x1 x2 x3
    exact r_cut (f_X1_isUnder_4.eq_1 _ _ _ _ _) (r_none True.intro)
  | succ n ih =>
    intro x1 x2 x3
    refine r_cut (f_X1_isUnder_4.eq_2 _ _ _ _ _ _) ?_
    refine r_iload_n C 2 dX1_isUnder_4 rfl ?_
    refine r_bipush C (7) dX1_isUnder_5 rfl ?_
    refine r_icmp_ge C 36 dX1_isUnder_7 (by decide) (fun h7 => ?_) (fun h7 => ?_)
    · refine r_iconst C (0) dX1_isUnder_36 rfl ?_
      exact r_retz (x := (0 : Int32)) (rv := (fun u => some (.int u))) (hpE := (fun _ => [])) (t0 := (0 : Int32)) C dX1_isUnder_37 (by rfl) (by rfl) (by rfl) (by rfl)
    · refine r_iload_n C 1 dX1_isUnder_10 rfl ?_
      refine r_callS C (o_X1_isKind l x2) v_X1_isKind m_627 [] [.int x2] [] (fun u1 => [.int u1]) (fun u1 => []) rfl rfl rfl rfl rfl (Nat.le_of_ble_eq_true rfl) ⟨(Nat.le_of_ble_eq_true rfl), (Nat.le_of_ble_eq_true rfl)⟩ ⟨Nat.zero_le _, Nat.zero_le _⟩ dX1_isUnder_11 (fun _ => rfl) (fun _ => rfl) (fun _ => rfl) (fun u1 => ?_)
      refine r_if_eq C 36 dX1_isUnder_14 (by decide) (fun h14 => ?_) (fun h14 => ?_)
      · refine r_iconst C (0) dX1_isUnder_36 rfl ?_
        exact r_retz (x := (0 : Int32)) (rv := (fun u => some (.int u))) (hpE := (fun _ => [])) (t0 := (0 : Int32)) C dX1_isUnder_37 (by rfl) (by rfl) (by rfl) (by rfl)
      · refine r_iload_n C 1 dX1_isUnder_17 rfl ?_
        refine r_iload_n C 0 dX1_isUnder_18 rfl ?_
        refine r_icmp_ne C 24 dX1_isUnder_19 (by decide) (fun h19 => ?_) (fun h19 => ?_)
        · refine r_iconst C (1) dX1_isUnder_22 rfl ?_
          exact r_retz (x := (1 : Int32)) (rv := (fun u => some (.int u))) (hpE := (fun _ => [])) (t0 := (1 : Int32)) C dX1_isUnder_23 (by rfl) (by rfl) (by rfl) (by rfl)
        · refine r_gsAbove C dX1_isUnder_24 m_628 ?_
          refine r_iload_n C 1 dX1_isUnder_27 rfl ?_
          refine r_tabAbove C dX1_isUnder_28 (fun hi28 => ?_)
          refine r_istore_n C [(2, .int (q_above x2.toNatClampNeg)), (1, .int x1), (3, .int x3)] dX1_isUnder_29 (Nat.le_of_ble_eq_true rfl) rfl ?_
          refine r_iinc C 2 (x3 + 1) [(3, .int (x3 + 1)), (2, .int (q_above x2.toNatClampNeg)), (1, .int x1)] dX1_isUnder_30 rfl rfl (Nat.le_of_ble_eq_true rfl) rfl ?_
          refine r_goto C 4 dX1_isUnder_33 (by decide) ?_
          refine r_lv [(1, .int x1), (2, .int (q_above x2.toNatClampNeg)), (3, .int (x3 + 1))] [2, 1, 0] rfl ?_
          exact ih x1 (q_above x2.toNatClampNeg) (x3 + 1)
set_option maxRecDepth 100000 in
set_option maxHeartbeats 4000000 in
theorem o_X1_isUnder (l : Launch) (a1 : Int32) (a2 : Int32) : q_Ok l yX1_isUnder cX1_isUnder 4 (some .boolean) 1 20 [.int a1, .int a2] ([]) (f_X1_isUnder a1 a2) (fun u => some (.int u)) (fun _ => []) := by
  refine q_enter (by decide +kernel) (Nat.le_of_ble_eq_true rfl) (fun t p e s m args below meth c dC dI dA A α C => ?_)
  refine r_cut (f_X1_isUnder.eq_1 _ _) ?_
  show q_S p l e (q_rm 1 20) s m args below meth c 4 dC dI dA A α (MQ below (q_Q α dC dI dA A ((fun u => some (.int u)) t) ((fun _ => []) t)) args s 0 0 A) 0 0 _ t 0 [(0, .int a1), (1, .int a2)] [] ([])
  refine r_iload_n C 0 dX1_isUnder_0 rfl ?_
  refine r_istore_n C [(2, .int a1), (0, .int a1), (1, .int a2)] dX1_isUnder_1 (Nat.le_of_ble_eq_true rfl) rfl ?_
  refine r_iconst C (0) dX1_isUnder_2 rfl ?_
  refine r_istore_n C [(3, .int (0 : Int32)), (2, .int a1), (0, .int a1), (1, .int a2)] dX1_isUnder_3 (Nat.le_of_ble_eq_true rfl) rfl ?_
  refine r_lv [(1, .int a2), (2, .int a1), (3, .int (0 : Int32))] [3, 1, 0] rfl ?_
  exact k_X1_isUnder_4 C a1 a2   q_N a2 a1 (0 : Int32)
set_option maxRecDepth 100000 in
set_option maxHeartbeats 4000000 in
theorem k_X0_dogsIn_4 {p : Program} {l : Launch} {e : Env} {s : State} {m : MethodId} {args : Array Value} {below : List Frame} {meth : Method} {c : Code} {dC : Nat → ClassId} {dI : Nat → Nat → Nat} {dA : Nat → ClassId} {A : Nat → Prop} {α : Nat → Nat} {t : Int32} (C : q_Cx p s m args meth c cX0_dogsIn 4 RX0 (some .int) "dogsIn" dC dI dA A α) (B : q_St) (a1 : Int32)  : ∀ (n : Nat) (x1 : Int32) (x2 : Int32) (x3 : Int32), q_S p l e (q_rm 2 43) s m args below meth c 4 dC dI dA A α (MQ below (q_Q α dC dI dA A ((fun u => some (.int u)) t) ((fun u => w_X0 B) t)) args s 0 0 A) 0 0 (f_X0_dogsIn_4 B a1  n x1 x2 x3) t 4 [(0, .ref 50), (1, .int x1), (2, .int x2), (3, .int x3)] [] (w_X0 B) := by
  intro n
  induction n with
  | zero =>
    intro x1 x2 x3
    exact r_cut (f_X0_dogsIn_4.eq_1 _ _ _ _ _) (r_none True.intro)
  | succ n ih =>
    intro x1 x2 x3
    refine r_cut (f_X0_dogsIn_4.eq_2 _ _ _ _ _ _) ?_
    refine r_iload_n C 3 dX0_dogsIn_4 rfl ?_
    refine r_aload_n C 0 dX0_dogsIn_5 rfl ?_
    refine r_get C 0 0 dX0_dogsIn_6 K_X0 rfl rfl (Nat.le_of_ble_eq_true rfl) rfl m_29 rfl ?_
    refine r_icmp_ge C 45 dX0_dogsIn_9 (by decide) (fun h9 => ?_) (fun h9 => ?_)
    · refine r_iload_n C 2 dX0_dogsIn_45 rfl ?_
      exact r_reti (x := x2) (rv := (fun u => some (.int u))) (hpE := (fun u => w_X0 B)) (t0 := x2) C dX0_dogsIn_46 (by rfl) (by rfl) (by rfl)
    · refine r_aload_n C 0 dX0_dogsIn_12 rfl ?_
      refine r_iload_n C 1 dX0_dogsIn_13 rfl ?_
      refine r_callV0 C (o_X0_castOf l B x1) v_X0_castOf m_322 [.int x1] [] (50) (Or.inl ⟨0, 0, _, TX0, 16, rfl, rfl, rfl⟩) (fun u1 => [.int u1]) (fun u1 => w_X0 B) rfl rfl rfl (Nat.le_of_ble_eq_true rfl) ⟨(Nat.le_of_ble_eq_true rfl), (Nat.le_of_ble_eq_true rfl)⟩ ⟨Nat.zero_le _, Nat.zero_le _⟩ dX0_dogsIn_14 (fun _ => rfl) (fun _ => rfl) (fun _ => rfl) (fun u1 => ?_)
      refine r_iload_n C 3 dX0_dogsIn_17 rfl ?_
      refine r_callS C (o_X0_contains l u1 x3) v_X0_contains m_324 [] [.int u1, .int x3] [] (fun u2 => [.int u2]) (fun u2 => w_X0 B) rfl rfl rfl rfl rfl (Nat.le_of_ble_eq_true rfl) ⟨(Nat.le_of_ble_eq_true rfl), (Nat.le_of_ble_eq_true rfl)⟩ ⟨Nat.zero_le _, Nat.zero_le _⟩ dX0_dogsIn_18 (fun _ => rfl) (fun _ => rfl) (fun _ => rfl) (fun u2 => ?_)
      refine r_if_eq C 39 dX0_dogsIn_21 (by decide) (fun h21 => ?_) (fun h21 => ?_)
      · refine r_iinc C 3 (x3 + 1) [(3, .int (x3 + 1)), (0, .ref 50), (1, .int x1), (2, .int x2)] dX0_dogsIn_39 rfl rfl (Nat.le_of_ble_eq_true rfl) rfl ?_
        refine r_goto C 4 dX0_dogsIn_42 (by decide) ?_
        refine r_lv [(0, .ref 50), (1, .int x1), (2, .int x2), (3, .int (x3 + 1))] [1, 2, 3, 0] rfl ?_
        exact ih x1 x2 (x3 + 1)
      · refine r_aload_n C 0 dX0_dogsIn_24 rfl ?_
        refine r_iload_n C 3 dX0_dogsIn_25 rfl ?_
        refine r_callV0 C (o_X0_kindOf l B x3) v_X0_kindOf m_623 [.int x3] [] (50) (Or.inl ⟨0, 0, _, TX0, 16, rfl, rfl, rfl⟩) (fun u3 => [.int u3]) (fun u3 => w_X0 B) rfl rfl rfl (Nat.le_of_ble_eq_true rfl) ⟨(Nat.le_of_ble_eq_true rfl), (Nat.le_of_ble_eq_true rfl)⟩ ⟨Nat.zero_le _, Nat.zero_le _⟩ dX0_dogsIn_26 (fun _ => rfl) (fun _ => rfl) (fun _ => rfl) (fun u3 => ?_)
        refine r_iconst C (5) dX0_dogsIn_29 rfl ?_
        refine r_callS C (o_X1_isUnder l u3 (5 : Int32)) v_X1_isUnder m_624 [] [.int u3, .int (5 : Int32)] [] (fun u4 => [.int u4]) (fun u4 => w_X0 B) rfl rfl rfl rfl rfl (Nat.le_of_ble_eq_true rfl) ⟨(Nat.le_of_ble_eq_true rfl), (Nat.le_of_ble_eq_true rfl)⟩ ⟨Nat.zero_le _, Nat.zero_le _⟩ dX0_dogsIn_30 (fun _ => rfl) (fun _ => rfl) (fun _ => rfl) (fun u4 => ?_)
        refine r_if_eq C 39 dX0_dogsIn_33 (by decide) (fun h33 => ?_) (fun h33 => ?_)
        · refine r_iinc C 3 (x3 + 1) [(3, .int (x3 + 1)), (0, .ref 50), (1, .int x1), (2, .int x2)] dX0_dogsIn_39 rfl rfl (Nat.le_of_ble_eq_true rfl) rfl ?_
          refine r_goto C 4 dX0_dogsIn_42 (by decide) ?_
          refine r_lv [(0, .ref 50), (1, .int x1), (2, .int x2), (3, .int (x3 + 1))] [1, 2, 3, 0] rfl ?_
          exact ih x1 x2 (x3 + 1)
        · refine r_iinc C 2 (x2 + 1) [(2, .int (x2 + 1)), (0, .ref 50), (1, .int x1), (3, .int x3)] dX0_dogsIn_36 rfl rfl (Nat.le_of_ble_eq_true rfl) rfl ?_
          refine r_iinc C 3 (x3 + 1) [(3, .int (x3 + 1)), (2, .int (x2 + 1)), (0, .ref 50), (1, .int x1)] dX0_dogsIn_39 rfl rfl (Nat.le_of_ble_eq_true rfl) rfl ?_
          refine r_goto C 4 dX0_dogsIn_42 (by decide) ?_
          refine r_lv [(0, .ref 50), (1, .int x1), (2, .int (x2 + 1)), (3, .int (x3 + 1))] [2, 3, 1, 0] rfl ?_
          exact ih x1 (x2 + 1) (x3 + 1)
set_option maxRecDepth 100000 in
set_option maxHeartbeats 4000000 in
theorem o_X0_dogsIn (l : Launch) (B : q_St) (a1 : Int32) : q_Ok l yX0_dogsIn cX0_dogsIn 4 (some .int) 2 43 [.ref 50, .int a1] (w_X0 B) (f_X0_dogsIn B a1) (fun u => some (.int u)) (fun u => w_X0 B) := by
  refine q_enter (by decide +kernel) (Nat.le_of_ble_eq_true rfl) (fun t p e s m args below meth c dC dI dA A α C => ?_)
  refine r_cut (f_X0_dogsIn.eq_1 _ _) ?_
  show q_S p l e (q_rm 2 43) s m args below meth c 4 dC dI dA A α (MQ below (q_Q α dC dI dA A ((fun u => some (.int u)) t) ((fun u => w_X0 B) t)) args s 0 0 A) 0 0 _ t 0 [(0, .ref 50), (1, .int a1)] [] (w_X0 B)
  refine r_iconst C (0) dX0_dogsIn_0 rfl ?_
  refine r_istore_n C [(2, .int (0 : Int32)), (0, .ref 50), (1, .int a1)] dX0_dogsIn_1 (Nat.le_of_ble_eq_true rfl) rfl ?_
  refine r_iconst C (0) dX0_dogsIn_2 rfl ?_
  refine r_istore_n C [(3, .int (0 : Int32)), (2, .int (0 : Int32)), (0, .ref 50), (1, .int a1)] dX0_dogsIn_3 (Nat.le_of_ble_eq_true rfl) rfl ?_
  refine r_lv [(0, .ref 50), (1, .int a1), (2, .int (0 : Int32)), (3, .int (0 : Int32))] [2, 3, 1, 0] rfl ?_
  exact k_X0_dogsIn_4 C B a1   q_N a1 (0 : Int32) (0 : Int32)
set_option maxRecDepth 100000 in
set_option maxHeartbeats 4000000 in
theorem k_X0_dogsInAll_4 {p : Program} {l : Launch} {e : Env} {s : State} {m : MethodId} {args : Array Value} {below : List Frame} {meth : Method} {c : Code} {dC : Nat → ClassId} {dI : Nat → Nat → Nat} {dA : Nat → ClassId} {A : Nat → Prop} {α : Nat → Nat} {t : Int32} (C : q_Cx p s m args meth c cX0_dogsInAll 3 RX0 (some .int) "dogsInAll" dC dI dA A α) (B : q_St)  : ∀ (n : Nat) (x1 : Int32) (x2 : Int32), q_S p l e (q_rm 3 66) s m args below meth c 3 dC dI dA A α (MQ below (q_Q α dC dI dA A ((fun u => some (.int u)) t) ((fun u => w_X0 B) t)) args s 0 0 A) 0 0 (f_X0_dogsInAll_4 B  n x1 x2) t 4 [(0, .ref 50), (1, .int x1), (2, .int x2)] [] (w_X0 B) := by
  intro n
  induction n with
  | zero =>
    intro x1 x2
    exact r_cut (f_X0_dogsInAll_4.eq_1 _ _ _) (r_none True.intro)
  | succ n ih =>
    intro x1 x2
    refine r_cut (f_X0_dogsInAll_4.eq_2 _ _ _ _) ?_
    refine r_iload_n C 2 dX0_dogsInAll_4 rfl ?_
    refine r_aload_n C 0 dX0_dogsInAll_5 rfl ?_
    refine r_get C 0 1 dX0_dogsInAll_6 K_X0 rfl rfl (Nat.le_of_ble_eq_true rfl) rfl m_34 rfl ?_
    refine r_icmp_ge C 26 dX0_dogsInAll_9 (by decide) (fun h9 => ?_) (fun h9 => ?_)
    · refine r_iload_n C 1 dX0_dogsInAll_26 rfl ?_
      exact r_reti (x := x1) (rv := (fun u => some (.int u))) (hpE := (fun u => w_X0 B)) (t0 := x1) C dX0_dogsInAll_27 (by rfl) (by rfl) (by rfl)
    · refine r_iload_n C 1 dX0_dogsInAll_12 rfl ?_
      refine r_aload_n C 0 dX0_dogsInAll_13 rfl ?_
      refine r_iload_n C 2 dX0_dogsInAll_14 rfl ?_
      refine r_callV0 C (o_X0_dogsIn l B x2) v_X0_dogsIn m_638 [.int x2] [.int x1] (50) (Or.inl ⟨0, 0, _, TX0, 16, rfl, rfl, rfl⟩) (fun u1 => [.int u1, .int x1]) (fun u1 => w_X0 B) rfl rfl rfl (Nat.le_of_ble_eq_true rfl) ⟨(Nat.le_of_ble_eq_true rfl), (Nat.le_of_ble_eq_true rfl)⟩ ⟨Nat.zero_le _, Nat.zero_le _⟩ dX0_dogsInAll_15 (fun _ => rfl) (fun _ => rfl) (fun _ => rfl) (fun u1 => ?_)
      refine r_iadd C dX0_dogsInAll_18 ?_
      refine r_istore_n C [(1, .int (x1 + u1)), (0, .ref 50), (2, .int x2)] dX0_dogsInAll_19 (Nat.le_of_ble_eq_true rfl) rfl ?_
      refine r_iinc C 2 (x2 + 1) [(2, .int (x2 + 1)), (1, .int (x1 + u1)), (0, .ref 50)] dX0_dogsInAll_20 rfl rfl (Nat.le_of_ble_eq_true rfl) rfl ?_
      refine r_goto C 4 dX0_dogsInAll_23 (by decide) ?_
      refine r_lv [(0, .ref 50), (1, .int (x1 + u1)), (2, .int (x2 + 1))] [2, 1, 0] rfl ?_
      exact ih (x1 + u1) (x2 + 1)
set_option maxRecDepth 100000 in
set_option maxHeartbeats 4000000 in
theorem o_X0_dogsInAll (l : Launch) (B : q_St) : q_Ok l yX0_dogsInAll cX0_dogsInAll 3 (some .int) 3 66 [.ref 50] (w_X0 B) (f_X0_dogsInAll B) (fun u => some (.int u)) (fun u => w_X0 B) := by
  refine q_enter (by decide +kernel) (Nat.le_of_ble_eq_true rfl) (fun t p e s m args below meth c dC dI dA A α C => ?_)
  refine r_cut (f_X0_dogsInAll.eq_1 _) ?_
  show q_S p l e (q_rm 3 66) s m args below meth c 3 dC dI dA A α (MQ below (q_Q α dC dI dA A ((fun u => some (.int u)) t) ((fun u => w_X0 B) t)) args s 0 0 A) 0 0 _ t 0 [(0, .ref 50)] [] (w_X0 B)
  refine r_iconst C (0) dX0_dogsInAll_0 rfl ?_
  refine r_istore_n C [(1, .int (0 : Int32)), (0, .ref 50)] dX0_dogsInAll_1 (Nat.le_of_ble_eq_true rfl) rfl ?_
  refine r_iconst C (0) dX0_dogsInAll_2 rfl ?_
  refine r_istore_n C [(2, .int (0 : Int32)), (1, .int (0 : Int32)), (0, .ref 50)] dX0_dogsInAll_3 (Nat.le_of_ble_eq_true rfl) rfl ?_
  refine r_lv [(0, .ref 50), (1, .int (0 : Int32)), (2, .int (0 : Int32))] [2, 1, 0] rfl ?_
  exact k_X0_dogsInAll_4 C B   q_N (0 : Int32) (0 : Int32)
set_option maxRecDepth 100000 in
set_option maxHeartbeats 4000000 in
theorem o_X0_draw (l : Launch) (B : q_St) : q_Ok l yX0_draw cX0_draw 1 (some .int) 0 0 [.ref 50] (w_X0 B) (f_X0_draw B) (fun u => some (.int u.1)) (fun u => w_X0 u.2) := by
  refine q_enter (by decide +kernel) (Nat.le_of_ble_eq_true rfl) (fun t p e s m args below meth c dC dI dA A α C => ?_)
  refine r_cut (f_X0_draw.eq_1 _) ?_
  show q_S p l e (q_rm 0 0) s m args below meth c 1 dC dI dA A α (MQ below (q_Q α dC dI dA A ((fun u => some (.int u.1)) t) ((fun u => w_X0 u.2) t)) args s 0 0 A) 0 0 _ t 0 [(0, .ref 50)] [] (w_X0 B)
  refine r_aload_n C 0 dX0_draw_0 rfl ?_
  refine r_aload_n C 0 dX0_draw_1 rfl ?_
  refine r_get C 0 5 dX0_draw_2 K_X0 rfl rfl (Nat.le_of_ble_eq_true rfl) rfl m_46 rfl ?_
  refine r_ldc C (1103515245) dX0_draw_5 m_652 ?_
  refine r_imul C dX0_draw_7 ?_
  refine r_sipush C (12345) dX0_draw_8 rfl ?_
  refine r_iadd C dX0_draw_11 ?_
  refine r_put C 0 5 _ dX0_draw_12 K_X0 rfl rfl (Nat.le_of_ble_eq_true rfl) rfl m_46 rfl (fun _ => rfl) (fun _ => rfl) (Nat.le_of_ble_eq_true rfl) rfl ?_
  refine r_aload_n C 0 dX0_draw_15 rfl ?_
  refine r_get C 0 5 dX0_draw_16 K_X0 rfl rfl (Nat.le_of_ble_eq_true rfl) rfl m_46 rfl ?_
  refine r_bipush C (8) dX0_draw_19 rfl ?_
  refine r_iushr C dX0_draw_21 ?_
  exact r_reti (x := (((B.1 5 * (1103515245 : Int32)) + (12345 : Int32)).toUInt32 >>> ((8 : Int32).toUInt32 &&& Int32.toUInt32 31)).toInt32) (rv := (fun u => some (.int u.1))) (hpE := (fun u => w_X0 u.2)) (t0 := ((((B.1 5 * (1103515245 : Int32)) + (12345 : Int32)).toUInt32 >>> ((8 : Int32).toUInt32 &&& Int32.toUInt32 31)).toInt32, ((va_up B.1 5 ((B.1 5 * (1103515245 : Int32)) + (12345 : Int32))), B.2))) C dX0_draw_22 (by rfl) (by rfl) (by rfl)
set_option maxRecDepth 100000 in
set_option maxHeartbeats 4000000 in
theorem k_X0_drawEvening_24 {p : Program} {l : Launch} {e : Env} {s : State} {m : MethodId} {args : Array Value} {below : List Frame} {meth : Method} {c : Code} {dC : Nat → ClassId} {dI : Nat → Nat → Nat} {dA : Nat → ClassId} {A : Nat → Prop} {α : Nat → Nat} {t : Int32 × q_St} (C : q_Cx p s m args meth c cX0_drawEvening 6 RX0 (some .int) "drawEvening" dC dI dA A α) (B : q_St) (r4 : Int32 → Int32 → q_St → Option (Int32 × q_St))
    (hr4 : ∀ (x1 : Int32) (x2 : Int32) (B' : q_St), q_S p l e (q_rm 3 66) s m args below meth c 6 dC dI dA A α (MQ below (q_Q α dC dI dA A ((fun u => some (.int u.1)) t) ((fun u => w_X0 u.2) t)) args s 0 0 A) 0 0 (r4 x1 x2 B') t 4 [(0, .ref 50), (1, .int x1), (2, .int x2)] [] (w_X0 B')) : ∀ (n : Nat) (x1 : Int32) (x2 : Int32) (x3 : Int32) (x4 : Int32) (x5 : Int32) (B' : q_St), q_S p l e (q_rm 3 66) s m args below meth c 6 dC dI dA A α (MQ below (q_Q α dC dI dA A ((fun u => some (.int u.1)) t) ((fun u => w_X0 u.2) t)) args s 0 0 A) 0 0 (f_X0_drawEvening_24 B r4 n x1 x2 x3 x4 x5 B') t 24 [(0, .ref 50), (1, .int x1), (2, .int x2), (3, .int x3), (4, .int x4), (5, .int x5)] [] (w_X0 B') := by
  intro n
  induction n with
  | zero =>
    intro x1 x2 x3 x4 x5 B'
    exact r_cut (f_X0_drawEvening_24.eq_1 _ _ _ _ _ _ _ _) (r_none True.intro)
  | succ n ih =>
    intro x1 x2 x3 x4 x5 B'
    refine r_cut (f_X0_drawEvening_24.eq_2 _ _ _ _ _ _ _ _ _) ?_
    refine r_iload C 5 dX0_drawEvening_24 rfl ?_
    refine r_iload_n C 3 dX0_drawEvening_26 rfl ?_
    refine r_icmp_ge C 53 dX0_drawEvening_27 (by decide) (fun h27 => ?_) (fun h27 => ?_)
    · refine r_iload C 4 dX0_drawEvening_53 rfl ?_
      refine r_if_eq C 61 dX0_drawEvening_55 (by decide) (fun h55 => ?_) (fun h55 => ?_)
      · refine r_iinc C 2 (x2 + 1) [(2, .int (x2 + 1)), (0, .ref 50), (1, .int x1), (3, .int x3), (4, .int x4), (5, .int x5)] dX0_drawEvening_61 rfl rfl (Nat.le_of_ble_eq_true rfl) rfl ?_
        refine r_goto C 4 dX0_drawEvening_64 (by decide) ?_
        refine r_lv [(0, .ref 50), (1, .int x1), (2, .int (x2 + 1))] [1, 2, 0] rfl ?_
        exact hr4 x1 (x2 + 1) B'
      · refine r_iinc C 1 (x1 + 1) [(1, .int (x1 + 1)), (0, .ref 50), (2, .int x2), (3, .int x3), (4, .int x4), (5, .int x5)] dX0_drawEvening_58 rfl rfl (Nat.le_of_ble_eq_true rfl) rfl ?_
        refine r_iinc C 2 (x2 + 1) [(2, .int (x2 + 1)), (1, .int (x1 + 1)), (0, .ref 50), (3, .int x3), (4, .int x4), (5, .int x5)] dX0_drawEvening_61 rfl rfl (Nat.le_of_ble_eq_true rfl) rfl ?_
        refine r_goto C 4 dX0_drawEvening_64 (by decide) ?_
        refine r_lv [(0, .ref 50), (1, .int (x1 + 1)), (2, .int (x2 + 1))] [2, 1, 0] rfl ?_
        exact hr4 (x1 + 1) (x2 + 1) B'
    · refine r_aload_n C 0 dX0_drawEvening_30 rfl ?_
      refine r_callV0 C (o_X0_draw l B') v_X0_draw m_648 [] [] (50) (Or.inl ⟨0, 0, _, TX0, 16, rfl, rfl, rfl⟩) (fun u2 => [.int u2.1]) (fun u2 => w_X0 u2.2) rfl rfl rfl (Nat.le_of_ble_eq_true rfl) ⟨(Nat.le_of_ble_eq_true rfl), (Nat.le_of_ble_eq_true rfl)⟩ ⟨Nat.zero_le _, Nat.zero_le _⟩ dX0_drawEvening_31 (fun _ => rfl) (fun _ => rfl) (fun _ => rfl) (fun u2 => ?_)
      refine r_bipush C (10) dX0_drawEvening_34 rfl ?_
      refine r_irem C dX0_drawEvening_36 (by decide) ?_
      refine r_aload_n C 0 dX0_drawEvening_37 rfl ?_
      refine r_get C 0 4 dX0_drawEvening_38 K_X0 rfl rfl (Nat.le_of_ble_eq_true rfl) rfl m_43 rfl ?_
      refine r_icmp_ge C 47 dX0_drawEvening_41 (by decide) (fun h41 => ?_) (fun h41 => ?_)
      · refine r_iinc C 5 (x5 + 1) [(5, .int (x5 + 1)), (0, .ref 50), (1, .int x1), (2, .int x2), (3, .int x3), (4, .int x4)] dX0_drawEvening_47 rfl rfl (Nat.le_of_ble_eq_true rfl) rfl ?_
        refine r_goto C 24 dX0_drawEvening_50 (by decide) ?_
        refine r_lv [(0, .ref 50), (1, .int x1), (2, .int x2), (3, .int x3), (4, .int x4), (5, .int (x5 + 1))] [1, 2, 3, 4, 5, 0] rfl ?_
        exact ih x1 x2 x3 x4 (x5 + 1) u2.2
      · refine r_iconst C (1) dX0_drawEvening_44 rfl ?_
        refine r_istore C [(4, .int (1 : Int32)), (0, .ref 50), (1, .int x1), (2, .int x2), (3, .int x3), (5, .int x5)] dX0_drawEvening_45 (Nat.le_of_ble_eq_true rfl) rfl ?_
        refine r_iinc C 5 (x5 + 1) [(5, .int (x5 + 1)), (4, .int (1 : Int32)), (0, .ref 50), (1, .int x1), (2, .int x2), (3, .int x3)] dX0_drawEvening_47 rfl rfl (Nat.le_of_ble_eq_true rfl) rfl ?_
        refine r_goto C 24 dX0_drawEvening_50 (by decide) ?_
        refine r_lv [(0, .ref 50), (1, .int x1), (2, .int x2), (3, .int x3), (4, .int (1 : Int32)), (5, .int (x5 + 1))] [2, 3, 4, 5, 1, 0] rfl ?_
        exact ih x1 x2 x3 (1 : Int32) (x5 + 1) u2.2
set_option maxRecDepth 100000 in
set_option maxHeartbeats 4000000 in
theorem k_X0_drawEvening_4 {p : Program} {l : Launch} {e : Env} {s : State} {m : MethodId} {args : Array Value} {below : List Frame} {meth : Method} {c : Code} {dC : Nat → ClassId} {dI : Nat → Nat → Nat} {dA : Nat → ClassId} {A : Nat → Prop} {α : Nat → Nat} {t : Int32 × q_St} (C : q_Cx p s m args meth c cX0_drawEvening 6 RX0 (some .int) "drawEvening" dC dI dA A α) (B : q_St)  : ∀ (n : Nat) (x1 : Int32) (x2 : Int32) (B' : q_St), q_S p l e (q_rm 3 66) s m args below meth c 6 dC dI dA A α (MQ below (q_Q α dC dI dA A ((fun u => some (.int u.1)) t) ((fun u => w_X0 u.2) t)) args s 0 0 A) 0 0 (f_X0_drawEvening_4 B  n x1 x2 B') t 4 [(0, .ref 50), (1, .int x1), (2, .int x2)] [] (w_X0 B') := by
  intro n
  induction n with
  | zero =>
    intro x1 x2 B'
    exact r_cut (f_X0_drawEvening_4.eq_1 _ _ _ _) (r_none True.intro)
  | succ n ih =>
    intro x1 x2 B'
    refine r_cut (f_X0_drawEvening_4.eq_2 _ _ _ _ _) ?_
    refine r_iload_n C 2 dX0_drawEvening_4 rfl ?_
    refine r_aload_n C 0 dX0_drawEvening_5 rfl ?_
    refine r_get C 0 1 dX0_drawEvening_6 K_X0 rfl rfl (Nat.le_of_ble_eq_true rfl) rfl m_34 rfl ?_
    refine r_icmp_ge C 67 dX0_drawEvening_9 (by decide) (fun h9 => ?_) (fun h9 => ?_)
    · refine r_iload_n C 1 dX0_drawEvening_67 rfl ?_
      exact r_reti (x := x1) (rv := (fun u => some (.int u.1))) (hpE := (fun u => w_X0 u.2)) (t0 := (x1, B')) C dX0_drawEvening_68 (by rfl) (by rfl) (by rfl)
    · refine r_aload_n C 0 dX0_drawEvening_12 rfl ?_
      refine r_iload_n C 2 dX0_drawEvening_13 rfl ?_
      refine r_callV0 C (o_X0_dogsIn l B' x2) v_X0_dogsIn m_638 [.int x2] [] (50) (Or.inl ⟨0, 0, _, TX0, 16, rfl, rfl, rfl⟩) (fun u1 => [.int u1]) (fun u1 => w_X0 B') rfl rfl rfl (Nat.le_of_ble_eq_true rfl) ⟨(Nat.le_of_ble_eq_true rfl), (Nat.le_of_ble_eq_true rfl)⟩ ⟨Nat.zero_le _, Nat.zero_le _⟩ dX0_drawEvening_14 (fun _ => rfl) (fun _ => rfl) (fun _ => rfl) (fun u1 => ?_)
      refine r_istore_n C [(3, .int u1), (0, .ref 50), (1, .int x1), (2, .int x2)] dX0_drawEvening_17 (Nat.le_of_ble_eq_true rfl) rfl ?_
      refine r_iconst C (0) dX0_drawEvening_18 rfl ?_
      refine r_istore C [(4, .int (0 : Int32)), (3, .int u1), (0, .ref 50), (1, .int x1), (2, .int x2)] dX0_drawEvening_19 (Nat.le_of_ble_eq_true rfl) rfl ?_
      refine r_iconst C (0) dX0_drawEvening_21 rfl ?_
      refine r_istore C [(5, .int (0 : Int32)), (4, .int (0 : Int32)), (3, .int u1), (0, .ref 50), (1, .int x1), (2, .int x2)] dX0_drawEvening_22 (Nat.le_of_ble_eq_true rfl) rfl ?_
      refine r_lv [(0, .ref 50), (1, .int x1), (2, .int x2), (3, .int u1), (4, .int (0 : Int32)), (5, .int (0 : Int32))] [3, 4, 5, 2, 1, 0] rfl ?_
      exact k_X0_drawEvening_24 C B (fun x1 x2 B' => f_X0_drawEvening_4 B  n x1 x2 B') ih q_N x1 x2 u1 (0 : Int32) (0 : Int32) B'
set_option maxRecDepth 100000 in
set_option maxHeartbeats 4000000 in
theorem o_X0_drawEvening (l : Launch) (B : q_St) : q_Ok l yX0_drawEvening cX0_drawEvening 6 (some .int) 3 66 [.ref 50] (w_X0 B) (f_X0_drawEvening B) (fun u => some (.int u.1)) (fun u => w_X0 u.2) := by
  refine q_enter (by decide +kernel) (Nat.le_of_ble_eq_true rfl) (fun t p e s m args below meth c dC dI dA A α C => ?_)
  refine r_cut (f_X0_drawEvening.eq_1 _) ?_
  show q_S p l e (q_rm 3 66) s m args below meth c 6 dC dI dA A α (MQ below (q_Q α dC dI dA A ((fun u => some (.int u.1)) t) ((fun u => w_X0 u.2) t)) args s 0 0 A) 0 0 _ t 0 [(0, .ref 50)] [] (w_X0 B)
  refine r_iconst C (0) dX0_drawEvening_0 rfl ?_
  refine r_istore_n C [(1, .int (0 : Int32)), (0, .ref 50)] dX0_drawEvening_1 (Nat.le_of_ble_eq_true rfl) rfl ?_
  refine r_iconst C (0) dX0_drawEvening_2 rfl ?_
  refine r_istore_n C [(2, .int (0 : Int32)), (1, .int (0 : Int32)), (0, .ref 50)] dX0_drawEvening_3 (Nat.le_of_ble_eq_true rfl) rfl ?_
  refine r_lv [(0, .ref 50), (1, .int (0 : Int32)), (2, .int (0 : Int32))] [2, 1, 0] rfl ?_
  exact k_X0_drawEvening_4 C B   q_N (0 : Int32) (0 : Int32) B
set_option maxRecDepth 100000 in
set_option maxHeartbeats 4000000 in
theorem o_J0_coder_7d493 (l : Launch) (j : Nat) (hj : j < 13) : q_Ok l yJ0_coder_7d493 cJ0_coder_7d493 1 (some .byte) 0 0 [.ref j] ([]) (f_J0_coder_7d493 j) (fun u => some (.int u)) (fun _ => []) := by
  refine q_enter (by decide +kernel) (Nat.le_of_ble_eq_true rfl) (fun t p e s m args below meth c dC dI dA A α C => ?_)
  refine r_cut (f_J0_coder_7d493.eq_1 _) ?_
  show q_S p l e (q_rm 0 0) s m args below meth c 1 dC dI dA A α (MQ below (q_Q α dC dI dA A ((fun u => some (.int u)) t) ((fun _ => []) t)) args s 0 0 A) 0 0 _ t 0 [(0, .ref j)] [] ([])
  refine r_gsCompact C dJ0_coder_7d493_0 m_724 ?_
  refine r_if_eq C 13 dJ0_coder_7d493_3 (by decide) (fun h3 => ?_) (fun h3 => ?_)
  · refine r_iconst C (1) dJ0_coder_7d493_13 rfl ?_
    exact r_retz (x := (1 : Int32)) (rv := (fun u => some (.int u))) (hpE := (fun _ => [])) (t0 := (1 : Int32)) C dJ0_coder_7d493_14 (by rfl) (by rfl) (by rfl) (by rfl)
  · refine r_aload_n C 0 dJ0_coder_7d493_6 rfl ?_
    refine r_strCod C dJ0_coder_7d493_7 hj m_1436 ?_
    refine r_goto C 14 dJ0_coder_7d493_10 (by decide) ?_
    exact r_retz (x := (0 : Int32)) (rv := (fun u => some (.int u))) (hpE := (fun _ => [])) (t0 := (0 : Int32)) C dJ0_coder_7d493_14 (by rfl) (by rfl) (by rfl) (by rfl)
set_option maxRecDepth 100000 in
set_option maxHeartbeats 4000000 in
theorem o_J0_length_8abf5 (l : Launch) (j : Nat) (hj : j < 13) : q_Ok l yJ0_length_8abf5 cJ0_length_8abf5 1 (some .int) 1 20 [.ref j] ([]) (f_J0_length_8abf5 j) (fun u => some (.int u)) (fun _ => []) := by
  refine q_enter (by decide +kernel) (Nat.le_of_ble_eq_true rfl) (fun t p e s m args below meth c dC dI dA A α C => ?_)
  refine r_cut (f_J0_length_8abf5.eq_1 _) ?_
  show q_S p l e (q_rm 1 20) s m args below meth c 1 dC dI dA A α (MQ below (q_Q α dC dI dA A ((fun u => some (.int u)) t) ((fun _ => []) t)) args s 0 0 A) 0 0 _ t 0 [(0, .ref j)] [] ([])
  refine r_aload_n C 0 dJ0_length_8abf5_0 rfl ?_
  refine r_strVal C dJ0_length_8abf5_1 hj m_1435 ?_
  refine r_strLen C dJ0_length_8abf5_4 hj ?_
  refine r_aload_n C 0 dJ0_length_8abf5_5 rfl ?_
  refine r_callV C (o_J0_coder_7d493 l j hj) v_J0_coder_7d493 m_720 [] [] [.int (Int32.ofNat (q_len.getD j 0))] (j) (Or.inr ⟨hj, rfl⟩) (fun u1 => [.int u1, .int (Int32.ofNat (q_len.getD j 0))]) (fun u1 => []) rfl rfl (by simp only [List.map_cons, List.map_nil, q_v, q_ix_j hj, q_ix_b hj] <;> rfl) rfl rfl (Nat.le_of_ble_eq_true rfl) ⟨(Nat.le_of_ble_eq_true rfl), (Nat.le_of_ble_eq_true rfl)⟩ ⟨Nat.zero_le _, Nat.zero_le _⟩ dJ0_length_8abf5_6 (fun _ => rfl) (fun _ => rfl) (fun _ => rfl) (fun u1 => ?_)
  refine r_ishr C dJ0_length_8abf5_9 ?_
  exact r_reti (x := ((Int32.ofNat (q_len.getD j 0)) >>> (u1 &&& 31))) (rv := (fun u => some (.int u))) (hpE := (fun _ => [])) (t0 := ((Int32.ofNat (q_len.getD j 0)) >>> (u1 &&& 31))) C dJ0_length_8abf5_10 (by rfl) (by rfl) (by rfl)
set_option maxRecDepth 100000 in
set_option maxHeartbeats 4000000 in
theorem o_J0_isLatin1_aae02 (l : Launch) (j : Nat) (hj : j < 13) : q_Ok l yJ0_isLatin1_aae02 cJ0_isLatin1_aae02 1 (some .boolean) 0 0 [.ref j] ([]) (f_J0_isLatin1_aae02 j) (fun u => some (.int u)) (fun _ => []) := by
  refine q_enter (by decide +kernel) (Nat.le_of_ble_eq_true rfl) (fun t p e s m args below meth c dC dI dA A α C => ?_)
  refine r_cut (f_J0_isLatin1_aae02.eq_1 _) ?_
  show q_S p l e (q_rm 0 0) s m args below meth c 1 dC dI dA A α (MQ below (q_Q α dC dI dA A ((fun u => some (.int u)) t) ((fun _ => []) t)) args s 0 0 A) 0 0 _ t 0 [(0, .ref j)] [] ([])
  refine r_gsCompact C dJ0_isLatin1_aae02_0 m_724 ?_
  refine r_if_eq C 17 dJ0_isLatin1_aae02_3 (by decide) (fun h3 => ?_) (fun h3 => ?_)
  · refine r_iconst C (0) dJ0_isLatin1_aae02_17 rfl ?_
    exact r_retz (x := (0 : Int32)) (rv := (fun u => some (.int u))) (hpE := (fun _ => [])) (t0 := (0 : Int32)) C dJ0_isLatin1_aae02_18 (by rfl) (by rfl) (by rfl) (by rfl)
  · refine r_aload_n C 0 dJ0_isLatin1_aae02_6 rfl ?_
    refine r_strCod C dJ0_isLatin1_aae02_7 hj m_1436 ?_
    refine r_if_ne C 17 dJ0_isLatin1_aae02_10 (by decide) (fun h10 => ?_) (fun h10 => ?_)
    · refine r_iconst C (1) dJ0_isLatin1_aae02_13 rfl ?_
      refine r_goto C 18 dJ0_isLatin1_aae02_14 (by decide) ?_
      exact r_retz (x := (1 : Int32)) (rv := (fun u => some (.int u))) (hpE := (fun _ => [])) (t0 := (1 : Int32)) C dJ0_isLatin1_aae02_18 (by rfl) (by rfl) (by rfl) (by rfl)
    · refine r_iconst C (0) dJ0_isLatin1_aae02_17 rfl ?_
      exact r_retz (x := (0 : Int32)) (rv := (fun u => some (.int u))) (hpE := (fun _ => [])) (t0 := (0 : Int32)) C dJ0_isLatin1_aae02_18 (by rfl) (by rfl) (by rfl) (by rfl)
set_option maxRecDepth 100000 in
set_option maxHeartbeats 4000000 in
theorem o_J3_checkIndex_8e157 (l : Launch) (a1 : Int32) (a2 : Int32) (a3 : Value) (hv_a3 : a3 = .null ∨ a3 = .ref 41) : q_Ok l yJ3_checkIndex_8e157 cJ3_checkIndex_8e157 3 (some .int) 0 0 [.int a1, .int a2, a3] ([]) (f_J3_checkIndex_8e157 a1 a2) (fun u => some (.int u)) (fun _ => []) := by
  rcases hv_a3 with rfl | rfl
  · refine q_enter (by decide +kernel) (Nat.le_of_ble_eq_true rfl) (fun t p e s m args below meth c dC dI dA A α C => ?_)
    refine r_cut (f_J3_checkIndex_8e157.eq_1 _ _) ?_
    show q_S p l e (q_rm 0 0) s m args below meth c 3 dC dI dA A α (MQ below (q_Q α dC dI dA A ((fun u => some (.int u)) t) ((fun _ => []) t)) args s 0 0 A) 0 0 _ t 0 [(0, .int a1), (1, .int a2), (2, .null)] [] ([])
    refine r_iload_n C 0 dJ3_checkIndex_8e157_0 rfl ?_
    refine r_if_lt C 9 dJ3_checkIndex_8e157_1 (by decide) (fun h1 => ?_) (fun h1 => ?_)
    · exact r_none True.intro
    · refine r_iload_n C 0 dJ3_checkIndex_8e157_4 rfl ?_
      refine r_iload_n C 1 dJ3_checkIndex_8e157_5 rfl ?_
      refine r_icmp_lt C 16 dJ3_checkIndex_8e157_6 (by decide) (fun h6 => ?_) (fun h6 => ?_)
      · refine r_iload_n C 0 dJ3_checkIndex_8e157_16 rfl ?_
        exact r_reti (x := a1) (rv := (fun u => some (.int u))) (hpE := (fun _ => [])) (t0 := a1) C dJ3_checkIndex_8e157_17 (by rfl) (by rfl) (by rfl)
      · exact r_none True.intro
  · refine q_enter (by decide +kernel) (Nat.le_of_ble_eq_true rfl) (fun t p e s m args below meth c dC dI dA A α C => ?_)
    refine r_cut (f_J3_checkIndex_8e157.eq_1 _ _) ?_
    show q_S p l e (q_rm 0 0) s m args below meth c 3 dC dI dA A α (MQ below (q_Q α dC dI dA A ((fun u => some (.int u)) t) ((fun _ => []) t)) args s 0 0 A) 0 0 _ t 0 [(0, .int a1), (1, .int a2), (2, .ref 41)] [] ([])
    refine r_iload_n C 0 dJ3_checkIndex_8e157_0 rfl ?_
    refine r_if_lt C 9 dJ3_checkIndex_8e157_1 (by decide) (fun h1 => ?_) (fun h1 => ?_)
    · exact r_none True.intro
    · refine r_iload_n C 0 dJ3_checkIndex_8e157_4 rfl ?_
      refine r_iload_n C 1 dJ3_checkIndex_8e157_5 rfl ?_
      refine r_icmp_lt C 16 dJ3_checkIndex_8e157_6 (by decide) (fun h6 => ?_) (fun h6 => ?_)
      · refine r_iload_n C 0 dJ3_checkIndex_8e157_16 rfl ?_
        exact r_reti (x := a1) (rv := (fun u => some (.int u))) (hpE := (fun _ => [])) (t0 := a1) C dJ3_checkIndex_8e157_17 (by rfl) (by rfl) (by rfl)
      · exact r_none True.intro
set_option maxRecDepth 100000 in
set_option maxHeartbeats 4000000 in
theorem o_J0_checkIndex_df160 (l : Launch) (a1 : Int32) (a2 : Int32) : q_Ok l yJ0_checkIndex_df160 cJ0_checkIndex_df160 2 none 1 22 [.int a1, .int a2] ([]) (f_J0_checkIndex_df160 a1 a2) (fun _ => none) (fun _ => []) := by
  refine q_enter (by decide +kernel) (Nat.le_of_ble_eq_true rfl) (fun t p e s m args below meth c dC dI dA A α C => ?_)
  refine r_cut (f_J0_checkIndex_df160.eq_1 _ _) ?_
  show q_S p l e (q_rm 1 22) s m args below meth c 2 dC dI dA A α (MQ below (q_Q α dC dI dA A ((fun _ => none) t) ((fun _ => []) t)) args s 0 0 A) 0 0 _ t 0 [(0, .int a1), (1, .int a2)] [] ([])
  refine r_iload_n C 0 dJ0_checkIndex_df160_0 rfl ?_
  refine r_iload_n C 1 dJ0_checkIndex_df160_1 rfl ?_
  refine r_gsForm C dJ0_checkIndex_df160_2 m_740 (fun vf hvf => ?_)
  refine r_callS C (o_J3_checkIndex_8e157 l a1 a2 vf hvf) v_J3_checkIndex_8e157 m_742 [] [.int a1, .int a2, vf] [] (fun u1 => [.int u1]) (fun u1 => []) rfl rfl (by rcases hvf with rfl | rfl <;> rfl) rfl rfl (Nat.le_of_ble_eq_true rfl) ⟨(Nat.le_of_ble_eq_true rfl), (Nat.le_of_ble_eq_true rfl)⟩ ⟨Nat.zero_le _, Nat.zero_le _⟩ dJ0_checkIndex_df160_5 (fun _ => rfl) (fun _ => rfl) (fun _ => rfl) (fun u1 => ?_)
  refine r_pop C dJ0_checkIndex_df160_8 rfl ?_
  exact r_retv (rv := (fun _ => none)) (hpE := (fun _ => [])) (t0 := ()) C dJ0_checkIndex_df160_9 (by rfl) (by rfl) (by rfl)
set_option maxRecDepth 100000 in
set_option maxHeartbeats 4000000 in
theorem o_J1_charAt_3b067 (l : Launch) (j : Nat) (a2 : Int32) (hj : j < 13) : q_Ok l yJ1_charAt_3b067 cJ1_charAt_3b067 2 (some .char) 2 43 [.ref (20 + j), .int a2] ([]) (f_J1_charAt_3b067 j a2) (fun u => some (.int u)) (fun _ => []) := by
  refine q_enter (by decide +kernel) (Nat.le_of_ble_eq_true rfl) (fun t p e s m args below meth c dC dI dA A α C => ?_)
  refine r_cut (f_J1_charAt_3b067.eq_1 _ _) ?_
  show q_S p l e (q_rm 2 43) s m args below meth c 2 dC dI dA A α (MQ below (q_Q α dC dI dA A ((fun u => some (.int u)) t) ((fun _ => []) t)) args s 0 0 A) 0 0 _ t 0 [(0, .ref (20 + j)), (1, .int a2)] [] ([])
  refine r_iload_n C 1 dJ1_charAt_3b067_0 rfl ?_
  refine r_aload_n C 0 dJ1_charAt_3b067_1 rfl ?_
  refine r_strLen C dJ1_charAt_3b067_2 hj ?_
  refine r_callS C (o_J0_checkIndex_df160 l a2 (Int32.ofNat (q_len.getD j 0))) v_J0_checkIndex_df160 m_737 [] [.int a2, .int (Int32.ofNat (q_len.getD j 0))] [] (fun u1 => []) (fun u1 => []) rfl rfl rfl rfl rfl (Nat.le_of_ble_eq_true rfl) ⟨(Nat.le_of_ble_eq_true rfl), (Nat.le_of_ble_eq_true rfl)⟩ ⟨Nat.zero_le _, Nat.zero_le _⟩ dJ1_charAt_3b067_3 (fun _ => rfl) (fun _ => rfl) (fun _ => rfl) (fun u1 => ?_)
  refine r_aload_n C 0 dJ1_charAt_3b067_6 rfl ?_
  refine r_iload_n C 1 dJ1_charAt_3b067_7 rfl ?_
  refine r_strByte C dJ1_charAt_3b067_8 hj (fun hi8 => ?_)
  refine r_sipush C (255) dJ1_charAt_3b067_9 rfl ?_
  refine r_iand C dJ1_charAt_3b067_12 ?_
  refine r_i2c C dJ1_charAt_3b067_13 ?_
  exact r_retz (x := ((((q_byt.getD j []).getD a2.toNatClampNeg 0) &&& (255 : Int32)).toUInt32 % 65536).toInt32) (rv := (fun u => some (.int u))) (hpE := (fun _ => [])) (t0 := (((((q_byt.getD j []).getD a2.toNatClampNeg 0) &&& (255 : Int32)).toUInt32 % 65536).toInt32)) C dJ1_charAt_3b067_14 (by rfl) (by exact pk_nc _) (by rfl) (by rfl)
set_option maxRecDepth 100000 in
set_option maxHeartbeats 4000000 in
theorem o_J0_charAt_5068e (l : Launch) (j : Nat) (a1 : Int32) (hj : j < 13) : q_Ok l yJ0_charAt_5068e cJ0_charAt_5068e 2 (some .char) 3 64 [.ref j, .int a1] ([]) (f_J0_charAt_5068e j a1) (fun u => some (.int u)) (fun _ => []) := by
  refine q_enter (by decide +kernel) (Nat.le_of_ble_eq_true rfl) (fun t p e s m args below meth c dC dI dA A α C => ?_)
  refine r_cut (f_J0_charAt_5068e.eq_1 _ _) ?_
  show q_S p l e (q_rm 3 64) s m args below meth c 2 dC dI dA A α (MQ below (q_Q α dC dI dA A ((fun u => some (.int u)) t) ((fun _ => []) t)) args s 0 0 A) 0 0 _ t 0 [(0, .ref j), (1, .int a1)] [] ([])
  refine r_aload_n C 0 dJ0_charAt_5068e_0 rfl ?_
  refine r_callV C (o_J0_isLatin1_aae02 l j hj) v_J0_isLatin1_aae02 m_730 [] [] [] (j) (Or.inr ⟨hj, rfl⟩) (fun u1 => [.int u1]) (fun u1 => []) rfl rfl (by simp only [List.map_cons, List.map_nil, q_v, q_ix_j hj, q_ix_b hj] <;> rfl) rfl rfl (Nat.le_of_ble_eq_true rfl) ⟨(Nat.le_of_ble_eq_true rfl), (Nat.le_of_ble_eq_true rfl)⟩ ⟨Nat.zero_le _, Nat.zero_le _⟩ dJ0_charAt_5068e_1 (fun _ => rfl) (fun _ => rfl) (fun _ => rfl) (fun u1 => ?_)
  refine r_if_eq C 16 dJ0_charAt_5068e_4 (by decide) (fun h4 => ?_) (fun h4 => ?_)
  · exact r_none True.intro
  · refine r_aload_n C 0 dJ0_charAt_5068e_7 rfl ?_
    refine r_strVal C dJ0_charAt_5068e_8 hj m_1435 ?_
    refine r_iload_n C 1 dJ0_charAt_5068e_11 rfl ?_
    refine r_callS C (o_J1_charAt_3b067 l j a1 hj) v_J1_charAt_3b067 m_734 [] [.ref (20 + j), .int a1] [] (fun u2 => [.int u2]) (fun u2 => []) rfl rfl (by simp only [List.map_cons, List.map_nil, q_v, q_ix_j hj, q_ix_b hj] <;> rfl) rfl rfl (Nat.le_of_ble_eq_true rfl) ⟨(Nat.le_of_ble_eq_true rfl), (Nat.le_of_ble_eq_true rfl)⟩ ⟨Nat.zero_le _, Nat.zero_le _⟩ dJ0_charAt_5068e_12 (fun _ => rfl) (fun _ => rfl) (fun _ => rfl) (fun u2 => ?_)
    refine r_gchz (fun hz => ?_)
    exact r_retz (x := u2) (rv := (fun u => some (.int u))) (hpE := (fun _ => [])) (t0 := u2) C dJ0_charAt_5068e_15 (by rfl) (by exact hz) (by rfl) (by rfl)
set_option maxRecDepth 100000 in
set_option maxHeartbeats 4000000 in
theorem o_X0_isSpot (l : Launch) (B : q_St) (a1 : Int32) : q_Ok l yX0_isSpot cX0_isSpot 2 (some .boolean) 0 0 [.ref 50, .int a1] (w_X0 B) (f_X0_isSpot B a1) (fun u => some (.int u)) (fun u => w_X0 B) := by
  refine q_enter (by decide +kernel) (Nat.le_of_ble_eq_true rfl) (fun t p e s m args below meth c dC dI dA A α C => ?_)
  refine r_cut (f_X0_isSpot.eq_1 _ _) ?_
  show q_S p l e (q_rm 0 0) s m args below meth c 2 dC dI dA A α (MQ below (q_Q α dC dI dA A ((fun u => some (.int u)) t) ((fun u => w_X0 B) t)) args s 0 0 A) 0 0 _ t 0 [(0, .ref 50), (1, .int a1)] [] (w_X0 B)
  refine r_iload_n C 1 dX0_isSpot_0 rfl ?_
  refine r_if_lt C 14 dX0_isSpot_1 (by decide) (fun h1 => ?_) (fun h1 => ?_)
  · refine r_iconst C (0) dX0_isSpot_14 rfl ?_
    exact r_retz (x := (0 : Int32)) (rv := (fun u => some (.int u))) (hpE := (fun u => w_X0 B)) (t0 := (0 : Int32)) C dX0_isSpot_15 (by rfl) (by rfl) (by rfl) (by rfl)
  · refine r_iload_n C 1 dX0_isSpot_4 rfl ?_
    refine r_bipush C (10) dX0_isSpot_5 rfl ?_
    refine r_icmp_ge C 14 dX0_isSpot_7 (by decide) (fun h7 => ?_) (fun h7 => ?_)
    · refine r_iconst C (0) dX0_isSpot_14 rfl ?_
      exact r_retz (x := (0 : Int32)) (rv := (fun u => some (.int u))) (hpE := (fun u => w_X0 B)) (t0 := (0 : Int32)) C dX0_isSpot_15 (by rfl) (by rfl) (by rfl) (by rfl)
    · refine r_iconst C (1) dX0_isSpot_10 rfl ?_
      refine r_goto C 15 dX0_isSpot_11 (by decide) ?_
      exact r_retz (x := (1 : Int32)) (rv := (fun u => some (.int u))) (hpE := (fun u => w_X0 B)) (t0 := (1 : Int32)) C dX0_isSpot_15 (by rfl) (by rfl) (by rfl) (by rfl)
set_option maxRecDepth 100000 in
set_option maxHeartbeats 4000000 in
theorem o_X0_setSpot (l : Launch) (B : q_St) (a1 : Int32) (a2 : Int32) : q_Ok l yX0_setSpot cX0_setSpot 3 none 1 21 [.ref 50, .int a1, .int a2] (w_X0 B) (f_X0_setSpot B a1 a2) (fun _ => none) (fun u => w_X0 u) := by
  refine q_enter (by decide +kernel) (Nat.le_of_ble_eq_true rfl) (fun t p e s m args below meth c dC dI dA A α C => ?_)
  refine r_cut (f_X0_setSpot.eq_1 _ _ _) ?_
  show q_S p l e (q_rm 1 21) s m args below meth c 3 dC dI dA A α (MQ below (q_Q α dC dI dA A ((fun _ => none) t) ((fun u => w_X0 u) t)) args s 0 0 A) 0 0 _ t 0 [(0, .ref 50), (1, .int a1), (2, .int a2)] [] (w_X0 B)
  refine r_aload_n C 0 dX0_setSpot_0 rfl ?_
  refine r_iload_n C 1 dX0_setSpot_1 rfl ?_
  refine r_callV0 C (o_X0_isSpot l B a1) v_X0_isSpot m_820 [.int a1] [] (50) (Or.inl ⟨0, 0, _, TX0, 16, rfl, rfl, rfl⟩) (fun u1 => [.int u1]) (fun u1 => w_X0 B) rfl rfl rfl (Nat.le_of_ble_eq_true rfl) ⟨(Nat.le_of_ble_eq_true rfl), (Nat.le_of_ble_eq_true rfl)⟩ ⟨Nat.zero_le _, Nat.zero_le _⟩ dX0_setSpot_2 (fun _ => rfl) (fun _ => rfl) (fun _ => rfl) (fun u1 => ?_)
  refine r_if_eq C 15 dX0_setSpot_5 (by decide) (fun h5 => ?_) (fun h5 => ?_)
  · exact r_retv (rv := (fun _ => none)) (hpE := (fun u => w_X0 u)) (t0 := B) C dX0_setSpot_15 (by rfl) (by rfl) (by rfl)
  · refine r_aload_n C 0 dX0_setSpot_8 rfl ?_
    refine r_get C 0 15 dX0_setSpot_9 K_X0 rfl rfl (Nat.le_of_ble_eq_true rfl) rfl m_61 rfl ?_
    refine r_iload_n C 1 dX0_setSpot_12 rfl ?_
    refine r_iload_n C 2 dX0_setSpot_13 rfl ?_
    refine r_iast C 6 _ dX0_setSpot_14 rfl rfl rfl (fun hi14 => ?_)
    exact r_retv (rv := (fun _ => none)) (hpE := (fun u => w_X0 u)) (t0 := (B.1, (va_up B.2 15 (upd (B.2 15) a1.toNatClampNeg a2)))) C dX0_setSpot_15 (by rfl) (by rfl) (by rfl)
set_option maxRecDepth 100000 in
set_option maxHeartbeats 4000000 in
theorem o_X0_spotOf (l : Launch) (B : q_St) (a1 : Int32) : q_Ok l yX0_spotOf cX0_spotOf 2 (some .int) 1 21 [.ref 50, .int a1] (w_X0 B) (f_X0_spotOf B a1) (fun u => some (.int u)) (fun u => w_X0 B) := by
  refine q_enter (by decide +kernel) (Nat.le_of_ble_eq_true rfl) (fun t p e s m args below meth c dC dI dA A α C => ?_)
  refine r_cut (f_X0_spotOf.eq_1 _ _) ?_
  show q_S p l e (q_rm 1 21) s m args below meth c 2 dC dI dA A α (MQ below (q_Q α dC dI dA A ((fun u => some (.int u)) t) ((fun u => w_X0 B) t)) args s 0 0 A) 0 0 _ t 0 [(0, .ref 50), (1, .int a1)] [] (w_X0 B)
  refine r_aload_n C 0 dX0_spotOf_0 rfl ?_
  refine r_iload_n C 1 dX0_spotOf_1 rfl ?_
  refine r_callV0 C (o_X0_isSpot l B a1) v_X0_isSpot m_820 [.int a1] [] (50) (Or.inl ⟨0, 0, _, TX0, 16, rfl, rfl, rfl⟩) (fun u1 => [.int u1]) (fun u1 => w_X0 B) rfl rfl rfl (Nat.le_of_ble_eq_true rfl) ⟨(Nat.le_of_ble_eq_true rfl), (Nat.le_of_ble_eq_true rfl)⟩ ⟨Nat.zero_le _, Nat.zero_le _⟩ dX0_spotOf_2 (fun _ => rfl) (fun _ => rfl) (fun _ => rfl) (fun u1 => ?_)
  refine r_if_eq C 17 dX0_spotOf_5 (by decide) (fun h5 => ?_) (fun h5 => ?_)
  · refine r_iconst C (-1) dX0_spotOf_17 rfl ?_
    exact r_reti (x := (-1 : Int32)) (rv := (fun u => some (.int u))) (hpE := (fun u => w_X0 B)) (t0 := (-1 : Int32)) C dX0_spotOf_18 (by rfl) (by rfl) (by rfl)
  · refine r_aload_n C 0 dX0_spotOf_8 rfl ?_
    refine r_get C 0 15 dX0_spotOf_9 K_X0 rfl rfl (Nat.le_of_ble_eq_true rfl) rfl m_61 rfl ?_
    refine r_iload_n C 1 dX0_spotOf_12 rfl ?_
    refine r_iald C 6 dX0_spotOf_13 rfl rfl (fun hi13 => ?_)
    refine r_goto C 18 dX0_spotOf_14 (by decide) ?_
    exact r_reti (x := (B.2 15 a1.toNatClampNeg)) (rv := (fun u => some (.int u))) (hpE := (fun u => w_X0 B)) (t0 := (B.2 15 a1.toNatClampNeg)) C dX0_spotOf_18 (by rfl) (by rfl) (by rfl)
set_option maxRecDepth 100000 in
set_option maxHeartbeats 4000000 in
theorem o_X2_isBits (l : Launch) (a1 : Int32) : q_Ok l yX2_isBits cX2_isBits 1 (some .boolean) 0 0 [.int a1] ([]) (f_X2_isBits a1) (fun u => some (.int u)) (fun _ => []) := by
  refine q_enter (by decide +kernel) (Nat.le_of_ble_eq_true rfl) (fun t p e s m args below meth c dC dI dA A α C => ?_)
  refine r_cut (f_X2_isBits.eq_1 _) ?_
  show q_S p l e (q_rm 0 0) s m args below meth c 1 dC dI dA A α (MQ below (q_Q α dC dI dA A ((fun u => some (.int u)) t) ((fun _ => []) t)) args s 0 0 A) 0 0 _ t 0 [(0, .int a1)] [] ([])
  refine r_iload_n C 0 dX2_isBits_0 rfl ?_
  refine r_if_eq C 22 dX2_isBits_1 (by decide) (fun h1 => ?_) (fun h1 => ?_)
  · refine r_iconst C (1) dX2_isBits_22 rfl ?_
    refine r_goto C 27 dX2_isBits_23 (by decide) ?_
    exact r_retz (x := (1 : Int32)) (rv := (fun u => some (.int u))) (hpE := (fun _ => [])) (t0 := (1 : Int32)) C dX2_isBits_27 (by rfl) (by rfl) (by rfl) (by rfl)
  · refine r_iload_n C 0 dX2_isBits_4 rfl ?_
    refine r_bipush C (8) dX2_isBits_5 rfl ?_
    refine r_icmp_eq C 22 dX2_isBits_7 (by decide) (fun h7 => ?_) (fun h7 => ?_)
    · refine r_iconst C (1) dX2_isBits_22 rfl ?_
      refine r_goto C 27 dX2_isBits_23 (by decide) ?_
      exact r_retz (x := (1 : Int32)) (rv := (fun u => some (.int u))) (hpE := (fun _ => [])) (t0 := (1 : Int32)) C dX2_isBits_27 (by rfl) (by rfl) (by rfl) (by rfl)
    · refine r_iload_n C 0 dX2_isBits_10 rfl ?_
      refine r_bipush C (16) dX2_isBits_11 rfl ?_
      refine r_icmp_eq C 22 dX2_isBits_13 (by decide) (fun h13 => ?_) (fun h13 => ?_)
      · refine r_iconst C (1) dX2_isBits_22 rfl ?_
        refine r_goto C 27 dX2_isBits_23 (by decide) ?_
        exact r_retz (x := (1 : Int32)) (rv := (fun u => some (.int u))) (hpE := (fun _ => [])) (t0 := (1 : Int32)) C dX2_isBits_27 (by rfl) (by rfl) (by rfl) (by rfl)
      · refine r_iload_n C 0 dX2_isBits_16 rfl ?_
        refine r_bipush C (32) dX2_isBits_17 rfl ?_
        refine r_icmp_ne C 26 dX2_isBits_19 (by decide) (fun h19 => ?_) (fun h19 => ?_)
        · refine r_iconst C (1) dX2_isBits_22 rfl ?_
          refine r_goto C 27 dX2_isBits_23 (by decide) ?_
          exact r_retz (x := (1 : Int32)) (rv := (fun u => some (.int u))) (hpE := (fun _ => [])) (t0 := (1 : Int32)) C dX2_isBits_27 (by rfl) (by rfl) (by rfl) (by rfl)
        · refine r_iconst C (0) dX2_isBits_26 rfl ?_
          exact r_retz (x := (0 : Int32)) (rv := (fun u => some (.int u))) (hpE := (fun _ => [])) (t0 := (0 : Int32)) C dX2_isBits_27 (by rfl) (by rfl) (by rfl) (by rfl)
set_option maxRecDepth 100000 in
set_option maxHeartbeats 4000000 in
theorem k_X2_begin_32 {p : Program} {l : Launch} {e : Env} {s : State} {m : MethodId} {args : Array Value} {below : List Frame} {meth : Method} {c : Code} {dC : Nat → ClassId} {dI : Nat → Nat → Nat} {dA : Nat → ClassId} {A : Nat → Prop} {α : Nat → Nat} {t : q_St} (C : q_Cx p s m args meth c cX2_begin 4 RX2 none "begin" dC dI dA A α) (S : q_St) (a1 : Int32) (a2 : Int32)  : ∀ (n : Nat) (x3 : Int32) (S' : q_St), q_S p l e (q_rm 1 30) s m args below meth c 4 dC dI dA A α (MQ below (q_Q α dC dI dA A ((fun _ => none) t) ((fun u => w_X2 u) t)) args s 0 0 A) 0 0 (f_X2_begin_32 S a1 a2  n x3 S') t 32 [(0, .ref 50), (3, .int x3)] [] (w_X2 S') := by
  intro n
  induction n with
  | zero =>
    intro x3 S'
    exact r_cut (f_X2_begin_32.eq_1 _ _ _ _ _) (r_none True.intro)
  | succ n ih =>
    intro x3 S'
    refine r_cut (f_X2_begin_32.eq_2 _ _ _ _ _ _) ?_
    refine r_iload_n C 1 dX2_begin_32 rfl ?_
    refine r_aload_n C 0 dX2_begin_33 rfl ?_
    refine r_get C 0 2 dX2_begin_34 K_X2 rfl rfl (Nat.le_of_ble_eq_true rfl) rfl m_165 rfl ?_
    refine r_alen C 1 (40) dX2_begin_37 rfl rfl rfl rfl ?_
    refine r_icmp_ge C 54 dX2_begin_38 (by decide) (fun h38 => ?_) (fun h38 => ?_)
    · exact r_retv (rv := (fun _ => none)) (hpE := (fun u => w_X2 u)) (t0 := S') C dX2_begin_54 (by rfl) (by rfl) (by rfl)
    · refine r_aload_n C 0 dX2_begin_41 rfl ?_
      refine r_get C 0 2 dX2_begin_42 K_X2 rfl rfl (Nat.le_of_ble_eq_true rfl) rfl m_165 rfl ?_
      refine r_iload_n C 1 dX2_begin_45 rfl ?_
      refine r_iconst C (0) dX2_begin_46 rfl ?_
      refine r_iast C 1 _ dX2_begin_47 rfl rfl rfl (fun hi47 => ?_)
      refine r_iinc C 1 (x3 + 1) [(3, .int (x3 + 1)), (0, .ref 50)] dX2_begin_48 rfl rfl (Nat.le_of_ble_eq_true rfl) rfl ?_
      refine r_goto C 32 dX2_begin_51 (by decide) ?_
      refine r_lv [(0, .ref 50), (3, .int (x3 + 1))] [1, 0] rfl ?_
      exact ih (x3 + 1) (S'.1, (va_up S'.2 2 (upd (S'.2 2) x3.toNatClampNeg (0 : Int32))))
set_option maxRecDepth 100000 in
set_option maxHeartbeats 4000000 in
theorem o_X2_begin (l : Launch) (S : q_St) (a1 : Int32) (a2 : Int32) : q_Ok l yX2_begin cX2_begin 4 none 1 30 [.ref 50, .int a1, .int a2] (w_X2 S) (f_X2_begin S a1 a2) (fun _ => none) (fun u => w_X2 u) := by
  refine q_enter (by decide +kernel) (Nat.le_of_ble_eq_true rfl) (fun t p e s m args below meth c dC dI dA A α C => ?_)
  refine r_cut (f_X2_begin.eq_1 _ _ _) ?_
  show q_S p l e (q_rm 1 30) s m args below meth c 4 dC dI dA A α (MQ below (q_Q α dC dI dA A ((fun _ => none) t) ((fun u => w_X2 u) t)) args s 0 0 A) 0 0 _ t 0 [(0, .ref 50), (1, .int a1), (2, .int a2)] [] (w_X2 S)
  refine r_aload_n C 0 dX2_begin_0 rfl ?_
  refine r_iload_n C 1 dX2_begin_1 rfl ?_
  refine r_put C 0 0 _ dX2_begin_2 K_X2 rfl rfl (Nat.le_of_ble_eq_true rfl) rfl m_161 rfl (fun _ => rfl) (fun _ => rfl) (Nat.le_of_ble_eq_true rfl) rfl ?_
  refine r_aload_n C 0 dX2_begin_5 rfl ?_
  refine r_iload_n C 1 dX2_begin_6 rfl ?_
  refine r_if_ne C 14 dX2_begin_7 (by decide) (fun h7 => ?_) (fun h7 => ?_)
  · refine r_iconst C (0) dX2_begin_10 rfl ?_
    refine r_goto C 27 dX2_begin_11 (by decide) ?_
    refine r_put C 0 1 _ dX2_begin_27 K_X2 rfl rfl (Nat.le_of_ble_eq_true rfl) rfl m_163 rfl (fun _ => rfl) (fun _ => rfl) (Nat.le_of_ble_eq_true rfl) rfl ?_
    refine r_iconst C (0) dX2_begin_30 rfl ?_
    refine r_istore_n C [(3, .int (0 : Int32)), (0, .ref 50), (1, .int a1), (2, .int a2)] dX2_begin_31 (Nat.le_of_ble_eq_true rfl) rfl ?_
    refine r_lv [(0, .ref 50), (3, .int (0 : Int32))] [1, 0] rfl ?_
    exact k_X2_begin_32 C S a1 a2   q_N (0 : Int32) ((va_up (va_up S.1 0 a1) 1 (0 : Int32)), S.2)
  · refine r_iconst C (0) dX2_begin_14 rfl ?_
    refine r_iload_n C 2 dX2_begin_15 rfl ?_
    refine r_aload_n C 0 dX2_begin_16 rfl ?_
    refine r_get C 0 2 dX2_begin_17 K_X2 rfl rfl (Nat.le_of_ble_eq_true rfl) rfl m_165 rfl ?_
    refine r_alen C 1 (40) dX2_begin_20 rfl rfl rfl rfl ?_
    refine r_mmin C dX2_begin_21 m_842 m_465 m_8 m_466 (Nat.le_of_ble_eq_true rfl) (Nat.le_of_ble_eq_true rfl) (Nat.zero_le _) (Nat.zero_le _) ?_
    refine r_mmax C dX2_begin_24 m_843 m_844 m_8 m_845 (Nat.le_of_ble_eq_true rfl) (Nat.le_of_ble_eq_true rfl) (Nat.zero_le _) (Nat.zero_le _) ?_
    refine r_put C 0 1 _ dX2_begin_27 K_X2 rfl rfl (Nat.le_of_ble_eq_true rfl) rfl m_163 rfl (fun _ => rfl) (fun _ => rfl) (Nat.le_of_ble_eq_true rfl) rfl ?_
    refine r_iconst C (0) dX2_begin_30 rfl ?_
    refine r_istore_n C [(3, .int (0 : Int32)), (0, .ref 50), (1, .int a1), (2, .int a2)] dX2_begin_31 (Nat.le_of_ble_eq_true rfl) rfl ?_
    refine r_lv [(0, .ref 50), (3, .int (0 : Int32))] [1, 0] rfl ?_
    exact k_X2_begin_32 C S a1 a2   q_N (0 : Int32) ((va_up (va_up S.1 0 a1) 1 (if (0 : Int32) < (if (40 : Int32) < a2 then (40 : Int32) else a2) then (if (40 : Int32) < a2 then (40 : Int32) else a2) else (0 : Int32))), S.2)
set_option maxRecDepth 100000 in
set_option maxHeartbeats 4000000 in
theorem o_X2_put (l : Launch) (S : q_St) (a1 : Int32) (a2 : Int32) : q_Ok l yX2_put cX2_put 3 none 1 21 [.ref 50, .int a1, .int a2] (w_X2 S) (f_X2_put S a1 a2) (fun _ => none) (fun u => w_X2 u) := by
  refine q_enter (by decide +kernel) (Nat.le_of_ble_eq_true rfl) (fun t p e s m args below meth c dC dI dA A α C => ?_)
  refine r_cut (f_X2_put.eq_1 _ _ _) ?_
  show q_S p l e (q_rm 1 21) s m args below meth c 3 dC dI dA A α (MQ below (q_Q α dC dI dA A ((fun _ => none) t) ((fun u => w_X2 u) t)) args s 0 0 A) 0 0 _ t 0 [(0, .ref 50), (1, .int a1), (2, .int a2)] [] (w_X2 S)
  refine r_aload_n C 0 dX2_put_0 rfl ?_
  refine r_iload_n C 1 dX2_put_1 rfl ?_
  refine r_callV0 C (o_X2_isPlace l S a1) v_X2_isPlace m_598 [.int a1] [] (50) (Or.inl ⟨0, 1, _, TX2, 3, rfl, rfl, rfl⟩) (fun u1 => [.int u1]) (fun u1 => w_X2 S) rfl rfl rfl (Nat.le_of_ble_eq_true rfl) ⟨(Nat.le_of_ble_eq_true rfl), (Nat.le_of_ble_eq_true rfl)⟩ ⟨Nat.zero_le _, Nat.zero_le _⟩ dX2_put_2 (fun _ => rfl) (fun _ => rfl) (fun _ => rfl) (fun u1 => ?_)
  refine r_if_ne C 9 dX2_put_5 (by decide) (fun h5 => ?_) (fun h5 => ?_)
  · exact r_retv (rv := (fun _ => none)) (hpE := (fun u => w_X2 u)) (t0 := S) C dX2_put_8 (by rfl) (by rfl) (by rfl)
  · refine r_aload_n C 0 dX2_put_9 rfl ?_
    refine r_get C 0 0 dX2_put_10 K_X2 rfl rfl (Nat.le_of_ble_eq_true rfl) rfl m_161 rfl ?_
    refine r_bipush C (8) dX2_put_13 rfl ?_
    refine r_icmp_ne C 29 dX2_put_15 (by decide) (fun h15 => ?_) (fun h15 => ?_)
    · refine r_aload_n C 0 dX2_put_18 rfl ?_
      refine r_get C 0 2 dX2_put_19 K_X2 rfl rfl (Nat.le_of_ble_eq_true rfl) rfl m_165 rfl ?_
      refine r_iload_n C 1 dX2_put_22 rfl ?_
      refine r_iload_n C 2 dX2_put_23 rfl ?_
      refine r_i2b C dX2_put_24 ?_
      refine r_iast C 1 _ dX2_put_25 rfl rfl rfl (fun hi25 => ?_)
      refine r_goto C 56 dX2_put_26 (by decide) ?_
      exact r_retv (rv := (fun _ => none)) (hpE := (fun u => w_X2 u)) (t0 := (S.1, (va_up S.2 2 (upd (S.2 2) a1.toNatClampNeg a2.toInt8.toInt32)))) C dX2_put_56 (by rfl) (by rfl) (by rfl)
    · refine r_aload_n C 0 dX2_put_29 rfl ?_
      refine r_get C 0 0 dX2_put_30 K_X2 rfl rfl (Nat.le_of_ble_eq_true rfl) rfl m_161 rfl ?_
      refine r_bipush C (16) dX2_put_33 rfl ?_
      refine r_icmp_ne C 49 dX2_put_35 (by decide) (fun h35 => ?_) (fun h35 => ?_)
      · refine r_aload_n C 0 dX2_put_38 rfl ?_
        refine r_get C 0 2 dX2_put_39 K_X2 rfl rfl (Nat.le_of_ble_eq_true rfl) rfl m_165 rfl ?_
        refine r_iload_n C 1 dX2_put_42 rfl ?_
        refine r_iload_n C 2 dX2_put_43 rfl ?_
        refine r_i2s C dX2_put_44 ?_
        refine r_iast C 1 _ dX2_put_45 rfl rfl rfl (fun hi45 => ?_)
        refine r_goto C 56 dX2_put_46 (by decide) ?_
        exact r_retv (rv := (fun _ => none)) (hpE := (fun u => w_X2 u)) (t0 := (S.1, (va_up S.2 2 (upd (S.2 2) a1.toNatClampNeg a2.toInt16.toInt32)))) C dX2_put_56 (by rfl) (by rfl) (by rfl)
      · refine r_aload_n C 0 dX2_put_49 rfl ?_
        refine r_get C 0 2 dX2_put_50 K_X2 rfl rfl (Nat.le_of_ble_eq_true rfl) rfl m_165 rfl ?_
        refine r_iload_n C 1 dX2_put_53 rfl ?_
        refine r_iload_n C 2 dX2_put_54 rfl ?_
        refine r_iast C 1 _ dX2_put_55 rfl rfl rfl (fun hi55 => ?_)
        exact r_retv (rv := (fun _ => none)) (hpE := (fun u => w_X2 u)) (t0 := (S.1, (va_up S.2 2 (upd (S.2 2) a1.toNatClampNeg a2)))) C dX2_put_56 (by rfl) (by rfl) (by rfl)
set_option maxRecDepth 100000 in
set_option maxHeartbeats 4000000 in
theorem o_X2_isStretch (l : Launch) (S : q_St) (a1 : Int32) (a2 : Int32) : q_Ok l yX2_isStretch cX2_isStretch 3 (some .boolean) 0 0 [.ref 50, .int a1, .int a2] (w_X2 S) (f_X2_isStretch S a1 a2) (fun u => some (.int u)) (fun u => w_X2 S) := by
  refine q_enter (by decide +kernel) (Nat.le_of_ble_eq_true rfl) (fun t p e s m args below meth c dC dI dA A α C => ?_)
  refine r_cut (f_X2_isStretch.eq_1 _ _ _) ?_
  show q_S p l e (q_rm 0 0) s m args below meth c 3 dC dI dA A α (MQ below (q_Q α dC dI dA A ((fun u => some (.int u)) t) ((fun u => w_X2 S) t)) args s 0 0 A) 0 0 _ t 0 [(0, .ref 50), (1, .int a1), (2, .int a2)] [] (w_X2 S)
  refine r_iload_n C 1 dX2_isStretch_0 rfl ?_
  refine r_if_lt C 30 dX2_isStretch_1 (by decide) (fun h1 => ?_) (fun h1 => ?_)
  · refine r_iconst C (0) dX2_isStretch_30 rfl ?_
    exact r_retz (x := (0 : Int32)) (rv := (fun u => some (.int u))) (hpE := (fun u => w_X2 S)) (t0 := (0 : Int32)) C dX2_isStretch_31 (by rfl) (by rfl) (by rfl) (by rfl)
  · refine r_iload_n C 2 dX2_isStretch_4 rfl ?_
    refine r_if_lt C 30 dX2_isStretch_5 (by decide) (fun h5 => ?_) (fun h5 => ?_)
    · refine r_iconst C (0) dX2_isStretch_30 rfl ?_
      exact r_retz (x := (0 : Int32)) (rv := (fun u => some (.int u))) (hpE := (fun u => w_X2 S)) (t0 := (0 : Int32)) C dX2_isStretch_31 (by rfl) (by rfl) (by rfl) (by rfl)
    · refine r_iload_n C 1 dX2_isStretch_8 rfl ?_
      refine r_aload_n C 0 dX2_isStretch_9 rfl ?_
      refine r_get C 0 1 dX2_isStretch_10 K_X2 rfl rfl (Nat.le_of_ble_eq_true rfl) rfl m_163 rfl ?_
      refine r_icmp_gt C 30 dX2_isStretch_13 (by decide) (fun h13 => ?_) (fun h13 => ?_)
      · refine r_iconst C (0) dX2_isStretch_30 rfl ?_
        exact r_retz (x := (0 : Int32)) (rv := (fun u => some (.int u))) (hpE := (fun u => w_X2 S)) (t0 := (0 : Int32)) C dX2_isStretch_31 (by rfl) (by rfl) (by rfl) (by rfl)
      · refine r_iload_n C 2 dX2_isStretch_16 rfl ?_
        refine r_aload_n C 0 dX2_isStretch_17 rfl ?_
        refine r_get C 0 1 dX2_isStretch_18 K_X2 rfl rfl (Nat.le_of_ble_eq_true rfl) rfl m_163 rfl ?_
        refine r_iload_n C 1 dX2_isStretch_21 rfl ?_
        refine r_isub C dX2_isStretch_22 ?_
        refine r_icmp_gt C 30 dX2_isStretch_23 (by decide) (fun h23 => ?_) (fun h23 => ?_)
        · refine r_iconst C (0) dX2_isStretch_30 rfl ?_
          exact r_retz (x := (0 : Int32)) (rv := (fun u => some (.int u))) (hpE := (fun u => w_X2 S)) (t0 := (0 : Int32)) C dX2_isStretch_31 (by rfl) (by rfl) (by rfl) (by rfl)
        · refine r_iconst C (1) dX2_isStretch_26 rfl ?_
          refine r_goto C 31 dX2_isStretch_27 (by decide) ?_
          exact r_retz (x := (1 : Int32)) (rv := (fun u => some (.int u))) (hpE := (fun u => w_X2 S)) (t0 := (1 : Int32)) C dX2_isStretch_31 (by rfl) (by rfl) (by rfl) (by rfl)
set_option maxRecDepth 100000 in
set_option maxHeartbeats 4000000 in
theorem k_X0_sizesTogether_4 {p : Program} {l : Launch} {e : Env} {s : State} {m : MethodId} {args : Array Value} {below : List Frame} {meth : Method} {c : Code} {dC : Nat → ClassId} {dI : Nat → Nat → Nat} {dA : Nat → ClassId} {A : Nat → Prop} {α : Nat → Nat} {t : Int32} (C : q_Cx p s m args meth c cX0_sizesTogether 3 RX0 (some .int) "sizesTogether" dC dI dA A α) (B : q_St)  : ∀ (n : Nat) (x1 : Int32) (x2 : Int32), q_S p l e (q_rm 2 42) s m args below meth c 3 dC dI dA A α (MQ below (q_Q α dC dI dA A ((fun u => some (.int u)) t) ((fun u => w_X0 B) t)) args s 0 0 A) 0 0 (f_X0_sizesTogether_4 B  n x1 x2) t 4 [(0, .ref 50), (1, .int x1), (2, .int x2)] [] (w_X0 B) := by
  intro n
  induction n with
  | zero =>
    intro x1 x2
    exact r_cut (f_X0_sizesTogether_4.eq_1 _ _ _) (r_none True.intro)
  | succ n ih =>
    intro x1 x2
    refine r_cut (f_X0_sizesTogether_4.eq_2 _ _ _ _) ?_
    refine r_iload_n C 2 dX0_sizesTogether_4 rfl ?_
    refine r_aload_n C 0 dX0_sizesTogether_5 rfl ?_
    refine r_get C 0 0 dX0_sizesTogether_6 K_X0 rfl rfl (Nat.le_of_ble_eq_true rfl) rfl m_29 rfl ?_
    refine r_icmp_ge C 26 dX0_sizesTogether_9 (by decide) (fun h9 => ?_) (fun h9 => ?_)
    · refine r_iload_n C 1 dX0_sizesTogether_26 rfl ?_
      exact r_reti (x := x1) (rv := (fun u => some (.int u))) (hpE := (fun u => w_X0 B)) (t0 := x1) C dX0_sizesTogether_27 (by rfl) (by rfl) (by rfl)
    · refine r_iload_n C 1 dX0_sizesTogether_12 rfl ?_
      refine r_aload_n C 0 dX0_sizesTogether_13 rfl ?_
      refine r_iload_n C 2 dX0_sizesTogether_14 rfl ?_
      refine r_callV0 C (o_X0_sizeOf l B x2) v_X0_sizeOf m_891 [.int x2] [.int x1] (50) (Or.inl ⟨0, 0, _, TX0, 16, rfl, rfl, rfl⟩) (fun u1 => [.int u1, .int x1]) (fun u1 => w_X0 B) rfl rfl rfl (Nat.le_of_ble_eq_true rfl) ⟨(Nat.le_of_ble_eq_true rfl), (Nat.le_of_ble_eq_true rfl)⟩ ⟨Nat.zero_le _, Nat.zero_le _⟩ dX0_sizesTogether_15 (fun _ => rfl) (fun _ => rfl) (fun _ => rfl) (fun u1 => ?_)
      refine r_iadd C dX0_sizesTogether_18 ?_
      refine r_istore_n C [(1, .int (x1 + u1)), (0, .ref 50), (2, .int x2)] dX0_sizesTogether_19 (Nat.le_of_ble_eq_true rfl) rfl ?_
      refine r_iinc C 2 (x2 + 1) [(2, .int (x2 + 1)), (1, .int (x1 + u1)), (0, .ref 50)] dX0_sizesTogether_20 rfl rfl (Nat.le_of_ble_eq_true rfl) rfl ?_
      refine r_goto C 4 dX0_sizesTogether_23 (by decide) ?_
      refine r_lv [(0, .ref 50), (1, .int (x1 + u1)), (2, .int (x2 + 1))] [2, 1, 0] rfl ?_
      exact ih (x1 + u1) (x2 + 1)
set_option maxRecDepth 100000 in
set_option maxHeartbeats 4000000 in
theorem o_X0_sizesTogether (l : Launch) (B : q_St) : q_Ok l yX0_sizesTogether cX0_sizesTogether 3 (some .int) 2 42 [.ref 50] (w_X0 B) (f_X0_sizesTogether B) (fun u => some (.int u)) (fun u => w_X0 B) := by
  refine q_enter (by decide +kernel) (Nat.le_of_ble_eq_true rfl) (fun t p e s m args below meth c dC dI dA A α C => ?_)
  refine r_cut (f_X0_sizesTogether.eq_1 _) ?_
  show q_S p l e (q_rm 2 42) s m args below meth c 3 dC dI dA A α (MQ below (q_Q α dC dI dA A ((fun u => some (.int u)) t) ((fun u => w_X0 B) t)) args s 0 0 A) 0 0 _ t 0 [(0, .ref 50)] [] (w_X0 B)
  refine r_iconst C (0) dX0_sizesTogether_0 rfl ?_
  refine r_istore_n C [(1, .int (0 : Int32)), (0, .ref 50)] dX0_sizesTogether_1 (Nat.le_of_ble_eq_true rfl) rfl ?_
  refine r_iconst C (0) dX0_sizesTogether_2 rfl ?_
  refine r_istore_n C [(2, .int (0 : Int32)), (1, .int (0 : Int32)), (0, .ref 50)] dX0_sizesTogether_3 (Nat.le_of_ble_eq_true rfl) rfl ?_
  refine r_lv [(0, .ref 50), (1, .int (0 : Int32)), (2, .int (0 : Int32))] [2, 1, 0] rfl ?_
  exact k_X0_sizesTogether_4 C B   q_N (0 : Int32) (0 : Int32)
set_option maxRecDepth 100000 in
set_option maxHeartbeats 4000000 in
theorem k_X0_spotsInUse_4 {p : Program} {l : Launch} {e : Env} {s : State} {m : MethodId} {args : Array Value} {below : List Frame} {meth : Method} {c : Code} {dC : Nat → ClassId} {dI : Nat → Nat → Nat} {dA : Nat → ClassId} {A : Nat → Prop} {α : Nat → Nat} {t : Int32} (C : q_Cx p s m args meth c cX0_spotsInUse 3 RX0 (some .int) "spotsInUse" dC dI dA A α) (B : q_St)  : ∀ (n : Nat) (x1 : Int32) (x2 : Int32), q_S p l e (q_rm 0 0) s m args below meth c 3 dC dI dA A α (MQ below (q_Q α dC dI dA A ((fun u => some (.int u)) t) ((fun u => w_X0 B) t)) args s 0 0 A) 0 0 (f_X0_spotsInUse_4 B  n x1 x2) t 4 [(0, .ref 50), (1, .int x1), (2, .int x2)] [] (w_X0 B) := by
  intro n
  induction n with
  | zero =>
    intro x1 x2
    exact r_cut (f_X0_spotsInUse_4.eq_1 _ _ _) (r_none True.intro)
  | succ n ih =>
    intro x1 x2
    refine r_cut (f_X0_spotsInUse_4.eq_2 _ _ _ _) ?_
    refine r_iload_n C 2 dX0_spotsInUse_4 rfl ?_
    refine r_aload_n C 0 dX0_spotsInUse_5 rfl ?_
    refine r_get C 0 15 dX0_spotsInUse_6 K_X0 rfl rfl (Nat.le_of_ble_eq_true rfl) rfl m_61 rfl ?_
    refine r_alen C 6 (10) dX0_spotsInUse_9 rfl rfl rfl rfl ?_
    refine r_icmp_ge C 32 dX0_spotsInUse_10 (by decide) (fun h10 => ?_) (fun h10 => ?_)
    · refine r_iload_n C 1 dX0_spotsInUse_32 rfl ?_
      exact r_reti (x := x1) (rv := (fun u => some (.int u))) (hpE := (fun u => w_X0 B)) (t0 := x1) C dX0_spotsInUse_33 (by rfl) (by rfl) (by rfl)
    · refine r_aload_n C 0 dX0_spotsInUse_13 rfl ?_
      refine r_get C 0 15 dX0_spotsInUse_14 K_X0 rfl rfl (Nat.le_of_ble_eq_true rfl) rfl m_61 rfl ?_
      refine r_iload_n C 2 dX0_spotsInUse_17 rfl ?_
      refine r_iald C 6 dX0_spotsInUse_18 rfl rfl (fun hi18 => ?_)
      refine r_iconst C (-1) dX0_spotsInUse_19 rfl ?_
      refine r_icmp_eq C 26 dX0_spotsInUse_20 (by decide) (fun h20 => ?_) (fun h20 => ?_)
      · refine r_iinc C 2 (x2 + 1) [(2, .int (x2 + 1)), (0, .ref 50), (1, .int x1)] dX0_spotsInUse_26 rfl rfl (Nat.le_of_ble_eq_true rfl) rfl ?_
        refine r_goto C 4 dX0_spotsInUse_29 (by decide) ?_
        refine r_lv [(0, .ref 50), (1, .int x1), (2, .int (x2 + 1))] [1, 2, 0] rfl ?_
        exact ih x1 (x2 + 1)
      · refine r_iinc C 1 (x1 + 1) [(1, .int (x1 + 1)), (0, .ref 50), (2, .int x2)] dX0_spotsInUse_23 rfl rfl (Nat.le_of_ble_eq_true rfl) rfl ?_
        refine r_iinc C 2 (x2 + 1) [(2, .int (x2 + 1)), (1, .int (x1 + 1)), (0, .ref 50)] dX0_spotsInUse_26 rfl rfl (Nat.le_of_ble_eq_true rfl) rfl ?_
        refine r_goto C 4 dX0_spotsInUse_29 (by decide) ?_
        refine r_lv [(0, .ref 50), (1, .int (x1 + 1)), (2, .int (x2 + 1))] [2, 1, 0] rfl ?_
        exact ih (x1 + 1) (x2 + 1)
set_option maxRecDepth 100000 in
set_option maxHeartbeats 4000000 in
theorem o_X0_spotsInUse (l : Launch) (B : q_St) : q_Ok l yX0_spotsInUse cX0_spotsInUse 3 (some .int) 0 0 [.ref 50] (w_X0 B) (f_X0_spotsInUse B) (fun u => some (.int u)) (fun u => w_X0 B) := by
  refine q_enter (by decide +kernel) (Nat.le_of_ble_eq_true rfl) (fun t p e s m args below meth c dC dI dA A α C => ?_)
  refine r_cut (f_X0_spotsInUse.eq_1 _) ?_
  show q_S p l e (q_rm 0 0) s m args below meth c 3 dC dI dA A α (MQ below (q_Q α dC dI dA A ((fun u => some (.int u)) t) ((fun u => w_X0 B) t)) args s 0 0 A) 0 0 _ t 0 [(0, .ref 50)] [] (w_X0 B)
  refine r_iconst C (0) dX0_spotsInUse_0 rfl ?_
  refine r_istore_n C [(1, .int (0 : Int32)), (0, .ref 50)] dX0_spotsInUse_1 (Nat.le_of_ble_eq_true rfl) rfl ?_
  refine r_iconst C (0) dX0_spotsInUse_2 rfl ?_
  refine r_istore_n C [(2, .int (0 : Int32)), (1, .int (0 : Int32)), (0, .ref 50)] dX0_spotsInUse_3 (Nat.le_of_ble_eq_true rfl) rfl ?_
  refine r_lv [(0, .ref 50), (1, .int (0 : Int32)), (2, .int (0 : Int32))] [2, 1, 0] rfl ?_
  exact k_X0_spotsInUse_4 C B   q_N (0 : Int32) (0 : Int32)
