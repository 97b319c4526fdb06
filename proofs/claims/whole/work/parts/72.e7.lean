set_option maxRecDepth 100000 in
set_option maxHeartbeats 4000000 in
theorem o_X6_image (l : Launch) (M : q_St) : q_Ok l yX6_image cX6_image 1 (some .int) 1 22 [.ref 50] (w_X6 M) (f_X6_image M) (fun u => some (.int u.1)) (fun u => w_X6 u.2) := by
  refine q_enter (by decide +kernel) (Nat.le_of_ble_eq_true rfl) (fun t p e s m args below meth c dC dI dA A α C => ?_)
  refine r_cut (f_X6_image.eq_1 _) ?_
  show q_S p l e (q_rm 1 22) s m args below meth c 1 dC dI dA A α (MQ below (q_Q α dC dI dA A ((fun u => some (.int u.1)) t) ((fun u => w_X6 u.2) t)) args s 0 0 A) 0 0 _ t 0 [(0, .ref 50)] [] (w_X6 M)
  refine r_aload_n C 0 dX6_image_0 rfl ?_
  refine r_get C 0 0 dX6_image_1 K_X6 rfl rfl (Nat.le_of_ble_eq_true rfl) rfl m_915 rfl ?_
  refine r_aload_n C 0 dX6_image_4 rfl ?_
  refine r_get C 0 1 dX6_image_5 K_X6 rfl rfl (Nat.le_of_ble_eq_true rfl) rfl m_916 rfl ?_
  refine r_callS C (o_X6_copyRow l ((fun _ => (0 : Int32)), va_up (va_up (fun _ _ => (0 : Int32)) 0 (M.2 0)) 1 (M.2 1))) v_X6_copyRow m_1232 [1, 2] [.ref 51, .ref 52] [] (fun u1 => []) (fun u1 => [.inr (5, [.ref 51, .ref 52, .ref 53, .int (M.1 3), .ref 54, .ref 55, .ref 56, .int (M.1 7), .ref 57, .ref 58, .int (M.1 10), .int (M.1 11), .int (M.1 12), .int (M.1 13), .int (M.1 14), .int (M.1 15), .ref 59, .ref 60, .int (M.1 18), .int (M.1 19), .int (M.1 20), .ref 61, .ref 62, .ref 63, .ref 64]), .inl (0, 68, .inl (u1.2 0)), .inl (0, 68, .inl (u1.2 1)), .inl (0, 68, .inl (M.2 2)), .inl (0, 8, .inl (M.2 4)), .inl (0, 1053, .inl (M.2 5)), .inl (1, 972, .inl (M.2 6)), .inl (0, 1053, .inl (M.2 8)), .inl (0, 120, .inl (M.2 9)), .inl (3, 7, .inr (.inr (.inr (.inr q_kf)))), .inl (0, 360, .inl (M.2 17)), .inl (0, 4, .inl (M.2 21)), .inl (0, 4, .inl (M.2 22)), .inl (0, 160, .inl (M.2 23)), .inl (0, 40, .inl (M.2 24))]) rfl rfl rfl rfl rfl (Nat.le_of_ble_eq_true rfl) ⟨(Nat.le_of_ble_eq_true rfl), (Nat.le_of_ble_eq_true rfl)⟩ ⟨Nat.zero_le _, Nat.zero_le _⟩ dX6_image_8 (fun _ => rfl) (fun _ => rfl) (fun _ => rfl) (fun u1 => ?_)
  refine r_aload_n C 0 dX6_image_11 rfl ?_
  refine r_iconst C (1) dX6_image_12 rfl ?_
  refine r_put C 0 3 _ dX6_image_13 K_X6 rfl rfl (Nat.le_of_ble_eq_true rfl) rfl m_918 rfl (fun _ => rfl) (fun _ => rfl) (Nat.le_of_ble_eq_true rfl) rfl ?_
  refine r_iconst C (1) dX6_image_16 rfl ?_
  exact r_reti (x := (1 : Int32)) (rv := (fun u => some (.int u.1))) (hpE := (fun u => w_X6 u.2)) (t0 := ((1 : Int32), ((va_up M.1 3 (1 : Int32)), (va_up (va_up M.2 0 (u1.2 0)) 1 (u1.2 1))))) C dX6_image_17 (by rfl) (by rfl) (by rfl)
set_option maxRecDepth 100000 in
set_option maxHeartbeats 4000000 in
theorem o_X6_undo (l : Launch) (M : q_St) : q_Ok l yX6_undo cX6_undo 1 (some .int) 1 22 [.ref 50] (w_X6 M) (f_X6_undo M) (fun u => some (.int u.1)) (fun u => w_X6 u.2) := by
  refine q_enter (by decide +kernel) (Nat.le_of_ble_eq_true rfl) (fun t p e s m args below meth c dC dI dA A α C => ?_)
  refine r_cut (f_X6_undo.eq_1 _) ?_
  show q_S p l e (q_rm 1 22) s m args below meth c 1 dC dI dA A α (MQ below (q_Q α dC dI dA A ((fun u => some (.int u.1)) t) ((fun u => w_X6 u.2) t)) args s 0 0 A) 0 0 _ t 0 [(0, .ref 50)] [] (w_X6 M)
  refine r_aload_n C 0 dX6_undo_0 rfl ?_
  refine r_get C 0 3 dX6_undo_1 K_X6 rfl rfl (Nat.le_of_ble_eq_true rfl) rfl m_918 rfl ?_
  refine r_if_ne C 14 dX6_undo_4 (by decide) (fun h4 => ?_) (fun h4 => ?_)
  · refine r_aload_n C 0 dX6_undo_7 rfl ?_
    refine r_ldc C (-1000004) dX6_undo_8 m_1211 ?_
    refine r_callV0 C (o_X6_finding l M (-1000004 : Int32)) v_X6_finding m_1003 [.int (-1000004 : Int32)] [] (50) (Or.inl ⟨0, 5, _, TX6, 25, rfl, rfl, rfl⟩) (fun u2 => [.int u2.1]) (fun u2 => [.inr (5, [.ref 51, .ref 52, .ref 53, .int (u2.2.1 3), .ref 54, .ref 55, .ref 56, .int (u2.2.1 7), .ref 57, .ref 58, .int (u2.2.1 10), .int (u2.2.1 11), .int (u2.2.1 12), .int (u2.2.1 13), .int (u2.2.1 14), .int (u2.2.1 15), .ref 59, .ref 60, .int (u2.2.1 18), .int (u2.2.1 19), .int (u2.2.1 20), .ref 61, .ref 62, .ref 63, .ref 64]), .inl (0, 68, .inl (u2.2.2 0)), .inl (0, 68, .inl (u2.2.2 1)), .inl (0, 68, .inl (u2.2.2 2)), .inl (0, 8, .inl (u2.2.2 4)), .inl (0, 1053, .inl (u2.2.2 5)), .inl (1, 972, .inl (u2.2.2 6)), .inl (0, 1053, .inl (u2.2.2 8)), .inl (0, 120, .inl (u2.2.2 9)), .inl (3, 7, .inr (.inr (.inr (.inr q_kf)))), .inl (0, 360, .inl (u2.2.2 17)), .inl (0, 4, .inl (u2.2.2 21)), .inl (0, 4, .inl (u2.2.2 22)), .inl (0, 160, .inl (u2.2.2 23)), .inl (0, 40, .inl (u2.2.2 24))]) rfl rfl rfl (Nat.le_of_ble_eq_true rfl) ⟨(Nat.le_of_ble_eq_true rfl), (Nat.le_of_ble_eq_true rfl)⟩ ⟨Nat.zero_le _, Nat.zero_le _⟩ dX6_undo_10 (fun _ => rfl) (fun _ => rfl) (fun _ => rfl) (fun u2 => ?_)
    exact r_reti (x := u2.1) (rv := (fun u => some (.int u.1))) (hpE := (fun u => w_X6 u.2)) (t0 := (u2.1, u2.2)) C dX6_undo_13 (by rfl) (by rfl) (by rfl)
  · refine r_aload_n C 0 dX6_undo_14 rfl ?_
    refine r_get C 0 1 dX6_undo_15 K_X6 rfl rfl (Nat.le_of_ble_eq_true rfl) rfl m_916 rfl ?_
    refine r_aload_n C 0 dX6_undo_18 rfl ?_
    refine r_get C 0 0 dX6_undo_19 K_X6 rfl rfl (Nat.le_of_ble_eq_true rfl) rfl m_915 rfl ?_
    refine r_callS C (o_X6_copyRow l ((fun _ => (0 : Int32)), va_up (va_up (fun _ _ => (0 : Int32)) 0 (M.2 1)) 1 (M.2 0))) v_X6_copyRow m_1232 [2, 1] [.ref 52, .ref 51] [] (fun u1 => []) (fun u1 => [.inr (5, [.ref 51, .ref 52, .ref 53, .int (M.1 3), .ref 54, .ref 55, .ref 56, .int (M.1 7), .ref 57, .ref 58, .int (M.1 10), .int (M.1 11), .int (M.1 12), .int (M.1 13), .int (M.1 14), .int (M.1 15), .ref 59, .ref 60, .int (M.1 18), .int (M.1 19), .int (M.1 20), .ref 61, .ref 62, .ref 63, .ref 64]), .inl (0, 68, .inl (u1.2 1)), .inl (0, 68, .inl (u1.2 0)), .inl (0, 68, .inl (M.2 2)), .inl (0, 8, .inl (M.2 4)), .inl (0, 1053, .inl (M.2 5)), .inl (1, 972, .inl (M.2 6)), .inl (0, 1053, .inl (M.2 8)), .inl (0, 120, .inl (M.2 9)), .inl (3, 7, .inr (.inr (.inr (.inr q_kf)))), .inl (0, 360, .inl (M.2 17)), .inl (0, 4, .inl (M.2 21)), .inl (0, 4, .inl (M.2 22)), .inl (0, 160, .inl (M.2 23)), .inl (0, 40, .inl (M.2 24))]) rfl rfl rfl rfl rfl (Nat.le_of_ble_eq_true rfl) ⟨(Nat.le_of_ble_eq_true rfl), (Nat.le_of_ble_eq_true rfl)⟩ ⟨Nat.zero_le _, Nat.zero_le _⟩ dX6_undo_22 (fun _ => rfl) (fun _ => rfl) (fun _ => rfl) (fun u1 => ?_)
    refine r_aload_n C 0 dX6_undo_25 rfl ?_
    refine r_get C 0 0 dX6_undo_26 K_X6 rfl rfl (Nat.le_of_ble_eq_true rfl) rfl m_915 rfl ?_
    refine r_iconst C (1) dX6_undo_29 rfl ?_
    refine r_iald C 1 dX6_undo_30 rfl rfl (fun hi30 => ?_)
    exact r_reti (x := (u1.2 1 (1 : Int32).toNatClampNeg)) (rv := (fun u => some (.int u.1))) (hpE := (fun u => w_X6 u.2)) (t0 := ((u1.2 1 (1 : Int32).toNatClampNeg), (M.1, (va_up (va_up M.2 0 (u1.2 1)) 1 (u1.2 0))))) C dX6_undo_31 (by rfl) (by rfl) (by rfl)
set_option maxRecDepth 100000 in
set_option maxHeartbeats 4000000 in
theorem o_X6_tear (l : Launch) (M : q_St) : q_Ok l yX6_tear cX6_tear 2 (some .int) 0 0 [.ref 50] (w_X6 M) (f_X6_tear M) (fun u => some (.int u.1)) (fun u => w_X6 u.2) := by
  refine q_enter (by decide +kernel) (Nat.le_of_ble_eq_true rfl) (fun t p e s m args below meth c dC dI dA A α C => ?_)
  refine r_cut (f_X6_tear.eq_1 _) ?_
  show q_S p l e (q_rm 0 0) s m args below meth c 2 dC dI dA A α (MQ below (q_Q α dC dI dA A ((fun u => some (.int u.1)) t) ((fun u => w_X6 u.2) t)) args s 0 0 A) 0 0 _ t 0 [(0, .ref 50)] [] (w_X6 M)
  refine r_aload_n C 0 dX6_tear_0 rfl ?_
  refine r_get C 0 3 dX6_tear_1 K_X6 rfl rfl (Nat.le_of_ble_eq_true rfl) rfl m_918 rfl ?_
  refine r_if_eq C 11 dX6_tear_4 (by decide) (fun h4 => ?_) (fun h4 => ?_)
  · refine r_iconst C (0) dX6_tear_11 rfl ?_
    refine r_istore_n C [(1, .int (0 : Int32)), (0, .ref 50)] dX6_tear_12 (Nat.le_of_ble_eq_true rfl) rfl ?_
    refine r_aload_n C 1 dX6_tear_13 rfl ?_
    refine r_iconst C (0) dX6_tear_14 rfl ?_
    refine r_put C 0 3 _ dX6_tear_15 K_X6 rfl rfl (Nat.le_of_ble_eq_true rfl) rfl m_918 rfl (fun _ => rfl) (fun _ => rfl) (Nat.le_of_ble_eq_true rfl) rfl ?_
    refine r_iload_n C 0 dX6_tear_18 rfl ?_
    exact r_reti (x := (0 : Int32)) (rv := (fun u => some (.int u.1))) (hpE := (fun u => w_X6 u.2)) (t0 := ((0 : Int32), ((va_up M.1 3 (0 : Int32)), M.2))) C dX6_tear_19 (by rfl) (by rfl) (by rfl)
  · refine r_iconst C (1) dX6_tear_7 rfl ?_
    refine r_goto C 12 dX6_tear_8 (by decide) ?_
    refine r_istore_n C [(1, .int (1 : Int32)), (0, .ref 50)] dX6_tear_12 (Nat.le_of_ble_eq_true rfl) rfl ?_
    refine r_aload_n C 1 dX6_tear_13 rfl ?_
    refine r_iconst C (0) dX6_tear_14 rfl ?_
    refine r_put C 0 3 _ dX6_tear_15 K_X6 rfl rfl (Nat.le_of_ble_eq_true rfl) rfl m_918 rfl (fun _ => rfl) (fun _ => rfl) (Nat.le_of_ble_eq_true rfl) rfl ?_
    refine r_iload_n C 0 dX6_tear_18 rfl ?_
    exact r_reti (x := (1 : Int32)) (rv := (fun u => some (.int u.1))) (hpE := (fun u => w_X6 u.2)) (t0 := ((1 : Int32), ((va_up M.1 3 (0 : Int32)), M.2))) C dX6_tear_19 (by rfl) (by rfl) (by rfl)
set_option maxRecDepth 100000 in
set_option maxHeartbeats 4000000 in
theorem k_X6_count_79 {p : Program} {l : Launch} {e : Env} {s : State} {m : MethodId} {args : Array Value} {below : List Frame} {meth : Method} {c : Code} {dC : Nat → ClassId} {dI : Nat → Nat → Nat} {dA : Nat → ClassId} {A : Nat → Prop} {α : Nat → Nat} {t : Int32 × q_St} (C : q_Cx p s m args meth c cX6_count 4 RX6 (some .int) "count" dC dI dA A α) (M : q_St) (a1 : Int32)  : ∀ (n : Nat) (x2 : Int32) (x3 : Int32) (M' : q_St), q_S p l e (q_rm 2 43) s m args below meth c 4 dC dI dA A α (MQ below (q_Q α dC dI dA A ((fun u => some (.int u.1)) t) ((fun u => w_X6 u.2) t)) args s 0 0 A) 0 0 (f_X6_count_79 M a1  n x2 x3 M') t 79 [(0, .ref 50), (2, .int x2), (3, .int x3)] [] (w_X6 M') := by
  intro n
  induction n with
  | zero =>
    intro x2 x3 M'
    exact r_cut (f_X6_count_79.eq_1 _ _ _ _ _) (r_none True.intro)
  | succ n ih =>
    intro x2 x3 M'
    refine r_cut (f_X6_count_79.eq_2 _ _ _ _ _ _) ?_
    refine r_iload_n C 2 dX6_count_79 rfl ?_
    refine r_aload_n C 0 dX6_count_80 rfl ?_
    refine r_get C 0 0 dX6_count_81 K_X6 rfl rfl (Nat.le_of_ble_eq_true rfl) rfl m_915 rfl ?_
    refine r_iconst C (0) dX6_count_84 rfl ?_
    refine r_iald C 1 dX6_count_85 rfl rfl (fun hi85 => ?_)
    refine r_icmp_ge C 104 dX6_count_86 (by decide) (fun h86 => ?_) (fun h86 => ?_)
    · refine r_iload_n C 1 dX6_count_104 rfl ?_
      exact r_reti (x := x2) (rv := (fun u => some (.int u.1))) (hpE := (fun u => w_X6 u.2)) (t0 := (x2, M')) C dX6_count_105 (by rfl) (by rfl) (by rfl)
    · refine r_iload_n C 1 dX6_count_89 rfl ?_
      refine r_aload_n C 0 dX6_count_90 rfl ?_
      refine r_iload_n C 2 dX6_count_91 rfl ?_
      refine r_iconst C (1) dX6_count_92 rfl ?_
      refine r_callV0 C (o_X6_dollIs l M' x3 (1 : Int32)) v_X6_dollIs m_1023 [.int x3, .int (1 : Int32)] [.int x2] (50) (Or.inl ⟨0, 5, _, TX6, 25, rfl, rfl, rfl⟩) (fun u2 => [.int u2, .int x2]) (fun u2 => [.inr (5, [.ref 51, .ref 52, .ref 53, .int (M'.1 3), .ref 54, .ref 55, .ref 56, .int (M'.1 7), .ref 57, .ref 58, .int (M'.1 10), .int (M'.1 11), .int (M'.1 12), .int (M'.1 13), .int (M'.1 14), .int (M'.1 15), .ref 59, .ref 60, .int (M'.1 18), .int (M'.1 19), .int (M'.1 20), .ref 61, .ref 62, .ref 63, .ref 64]), .inl (0, 68, .inl (M'.2 0)), .inl (0, 68, .inl (M'.2 1)), .inl (0, 68, .inl (M'.2 2)), .inl (0, 8, .inl (M'.2 4)), .inl (0, 1053, .inl (M'.2 5)), .inl (1, 972, .inl (M'.2 6)), .inl (0, 1053, .inl (M'.2 8)), .inl (0, 120, .inl (M'.2 9)), .inl (3, 7, .inr (.inr (.inr (.inr q_kf)))), .inl (0, 360, .inl (M'.2 17)), .inl (0, 4, .inl (M'.2 21)), .inl (0, 4, .inl (M'.2 22)), .inl (0, 160, .inl (M'.2 23)), .inl (0, 40, .inl (M'.2 24))]) rfl rfl rfl (Nat.le_of_ble_eq_true rfl) ⟨(Nat.le_of_ble_eq_true rfl), (Nat.le_of_ble_eq_true rfl)⟩ ⟨Nat.zero_le _, Nat.zero_le _⟩ dX6_count_93 (fun _ => rfl) (fun _ => rfl) (fun _ => rfl) (fun u2 => ?_)
      refine r_iadd C dX6_count_96 ?_
      refine r_istore_n C [(2, .int (x2 + u2)), (0, .ref 50), (3, .int x3)] dX6_count_97 (Nat.le_of_ble_eq_true rfl) rfl ?_
      refine r_iinc C 2 (x3 + 1) [(3, .int (x3 + 1)), (2, .int (x2 + u2)), (0, .ref 50)] dX6_count_98 rfl rfl (Nat.le_of_ble_eq_true rfl) rfl ?_
      refine r_goto C 79 dX6_count_101 (by decide) ?_
      refine r_lv [(0, .ref 50), (2, .int (x2 + u2)), (3, .int (x3 + 1))] [2, 1, 0] rfl ?_
      exact ih (x2 + u2) (x3 + 1) M'
set_option maxRecDepth 100000 in
set_option maxHeartbeats 4000000 in
theorem k_X6_count_121 {p : Program} {l : Launch} {e : Env} {s : State} {m : MethodId} {args : Array Value} {below : List Frame} {meth : Method} {c : Code} {dC : Nat → ClassId} {dI : Nat → Nat → Nat} {dA : Nat → ClassId} {A : Nat → Prop} {α : Nat → Nat} {t : Int32 × q_St} (C : q_Cx p s m args meth c cX6_count 4 RX6 (some .int) "count" dC dI dA A α) (M : q_St) (a1 : Int32)  : ∀ (n : Nat) (x2 : Int32) (x3 : Int32) (M' : q_St), q_S p l e (q_rm 2 43) s m args below meth c 4 dC dI dA A α (MQ below (q_Q α dC dI dA A ((fun u => some (.int u.1)) t) ((fun u => w_X6 u.2) t)) args s 0 0 A) 0 0 (f_X6_count_121 M a1  n x2 x3 M') t 121 [(0, .ref 50), (2, .int x2), (3, .int x3)] [] (w_X6 M') := by
  intro n
  induction n with
  | zero =>
    intro x2 x3 M'
    exact r_cut (f_X6_count_121.eq_1 _ _ _ _ _) (r_none True.intro)
  | succ n ih =>
    intro x2 x3 M'
    refine r_cut (f_X6_count_121.eq_2 _ _ _ _ _ _) ?_
    refine r_iload_n C 2 dX6_count_121 rfl ?_
    refine r_bipush C (10) dX6_count_122 rfl ?_
    refine r_icmp_ge C 153 dX6_count_124 (by decide) (fun h124 => ?_) (fun h124 => ?_)
    · refine r_iload_n C 1 dX6_count_153 rfl ?_
      exact r_reti (x := x2) (rv := (fun u => some (.int u.1))) (hpE := (fun u => w_X6 u.2)) (t0 := (x2, M')) C dX6_count_154 (by rfl) (by rfl) (by rfl)
    · refine r_iload_n C 1 dX6_count_127 rfl ?_
      refine r_aload_n C 0 dX6_count_128 rfl ?_
      refine r_get C 0 0 dX6_count_129 K_X6 rfl rfl (Nat.le_of_ble_eq_true rfl) rfl m_915 rfl ?_
      refine r_bipush C (10) dX6_count_132 rfl ?_
      refine r_iload_n C 2 dX6_count_134 rfl ?_
      refine r_iadd C dX6_count_135 ?_
      refine r_iald C 1 dX6_count_136 rfl rfl (fun hi136 => ?_)
      refine r_if_ge C 144 dX6_count_137 (by decide) (fun h137 => ?_) (fun h137 => ?_)
      · refine r_iconst C (1) dX6_count_144 rfl ?_
        refine r_iadd C dX6_count_145 ?_
        refine r_istore_n C [(2, .int (x2 + (1 : Int32))), (0, .ref 50), (3, .int x3)] dX6_count_146 (Nat.le_of_ble_eq_true rfl) rfl ?_
        refine r_iinc C 2 (x3 + 1) [(3, .int (x3 + 1)), (2, .int (x2 + (1 : Int32))), (0, .ref 50)] dX6_count_147 rfl rfl (Nat.le_of_ble_eq_true rfl) rfl ?_
        refine r_goto C 121 dX6_count_150 (by decide) ?_
        refine r_lv [(0, .ref 50), (2, .int (x2 + (1 : Int32))), (3, .int (x3 + 1))] [2, 1, 0] rfl ?_
        exact ih (x2 + (1 : Int32)) (x3 + 1) M'
      · refine r_iconst C (0) dX6_count_140 rfl ?_
        refine r_goto C 145 dX6_count_141 (by decide) ?_
        refine r_iadd C dX6_count_145 ?_
        refine r_istore_n C [(2, .int (x2 + (0 : Int32))), (0, .ref 50), (3, .int x3)] dX6_count_146 (Nat.le_of_ble_eq_true rfl) rfl ?_
        refine r_iinc C 2 (x3 + 1) [(3, .int (x3 + 1)), (2, .int (x2 + (0 : Int32))), (0, .ref 50)] dX6_count_147 rfl rfl (Nat.le_of_ble_eq_true rfl) rfl ?_
        refine r_goto C 121 dX6_count_150 (by decide) ?_
        refine r_lv [(0, .ref 50), (2, .int (x2 + (0 : Int32))), (3, .int (x3 + 1))] [2, 1, 0] rfl ?_
        exact ih (x2 + (0 : Int32)) (x3 + 1) M'
set_option maxRecDepth 100000 in
set_option maxHeartbeats 4000000 in
theorem o_X6_count (l : Launch) (M : q_St) (a1 : Int32) : q_Ok l yX6_count cX6_count 4 (some .int) 2 43 [.ref 50, .int a1] (w_X6 M) (f_X6_count M a1) (fun u => some (.int u.1)) (fun u => w_X6 u.2) := by
  refine q_enter (by decide +kernel) (Nat.le_of_ble_eq_true rfl) (fun t p e s m args below meth c dC dI dA A α C => ?_)
  refine r_cut (f_X6_count.eq_1 _ _) ?_
  show q_S p l e (q_rm 2 43) s m args below meth c 4 dC dI dA A α (MQ below (q_Q α dC dI dA A ((fun u => some (.int u.1)) t) ((fun u => w_X6 u.2) t)) args s 0 0 A) 0 0 _ t 0 [(0, .ref 50), (1, .int a1)] [] (w_X6 M)
  refine r_iconst C (0) dX6_count_0 rfl ?_
  refine r_istore_n C [(2, .int (0 : Int32)), (0, .ref 50), (1, .int a1)] dX6_count_1 (Nat.le_of_ble_eq_true rfl) rfl ?_
  refine r_iload_n C 2 dX6_count_2 rfl ?_
  refine r_tsw C (0) 48 dX6_count_3 (by decide) (by decide) rfl (by decide) (fun h3_0 => ?_) (fun h3_0 => ?_)
  · refine r_aload_n C 1 dX6_count_48 rfl ?_
    refine r_get C 0 0 dX6_count_49 K_X6 rfl rfl (Nat.le_of_ble_eq_true rfl) rfl m_915 rfl ?_
    refine r_iconst C (1) dX6_count_52 rfl ?_
    refine r_iald C 1 dX6_count_53 rfl rfl (fun hi53 => ?_)
    exact r_reti (x := (M.2 0 (1 : Int32).toNatClampNeg)) (rv := (fun u => some (.int u.1))) (hpE := (fun u => w_X6 u.2)) (t0 := ((M.2 0 (1 : Int32).toNatClampNeg), M)) C dX6_count_54 (by rfl) (by rfl) (by rfl)
  refine r_tsw C (1) 55 dX6_count_3 (by decide) (by decide) rfl (by decide) (fun h3_1 => ?_) (fun h3_1 => ?_)
  · refine r_aload_n C 1 dX6_count_55 rfl ?_
    refine r_get C 0 0 dX6_count_56 K_X6 rfl rfl (Nat.le_of_ble_eq_true rfl) rfl m_915 rfl ?_
    refine r_iconst C (0) dX6_count_59 rfl ?_
    refine r_iald C 1 dX6_count_60 rfl rfl (fun hi60 => ?_)
    exact r_reti (x := (M.2 0 (0 : Int32).toNatClampNeg)) (rv := (fun u => some (.int u.1))) (hpE := (fun u => w_X6 u.2)) (t0 := ((M.2 0 (0 : Int32).toNatClampNeg), M)) C dX6_count_61 (by rfl) (by rfl) (by rfl)
  refine r_tsw C (2) 62 dX6_count_3 (by decide) (by decide) rfl (by decide) (fun h3_2 => ?_) (fun h3_2 => ?_)
  · refine r_aload_n C 1 dX6_count_62 rfl ?_
    refine r_get C 0 0 dX6_count_63 K_X6 rfl rfl (Nat.le_of_ble_eq_true rfl) rfl m_915 rfl ?_
    refine r_iconst C (4) dX6_count_66 rfl ?_
    refine r_iald C 1 dX6_count_67 rfl rfl (fun hi67 => ?_)
    exact r_reti (x := (M.2 0 (4 : Int32).toNatClampNeg)) (rv := (fun u => some (.int u.1))) (hpE := (fun u => w_X6 u.2)) (t0 := ((M.2 0 (4 : Int32).toNatClampNeg), M)) C dX6_count_68 (by rfl) (by rfl) (by rfl)
  refine r_tsw C (3) 69 dX6_count_3 (by decide) (by decide) rfl (by decide) (fun h3_3 => ?_) (fun h3_3 => ?_)
  · refine r_aload_n C 1 dX6_count_69 rfl ?_
    refine r_get C 0 0 dX6_count_70 K_X6 rfl rfl (Nat.le_of_ble_eq_true rfl) rfl m_915 rfl ?_
    refine r_bipush C (6) dX6_count_73 rfl ?_
    refine r_iald C 1 dX6_count_75 rfl rfl (fun hi75 => ?_)
    exact r_reti (x := (M.2 0 (6 : Int32).toNatClampNeg)) (rv := (fun u => some (.int u.1))) (hpE := (fun u => w_X6 u.2)) (t0 := ((M.2 0 (6 : Int32).toNatClampNeg), M)) C dX6_count_76 (by rfl) (by rfl) (by rfl)
  refine r_tsw C (4) 77 dX6_count_3 (by decide) (by decide) rfl (by decide) (fun h3_4 => ?_) (fun h3_4 => ?_)
  · refine r_iconst C (0) dX6_count_77 rfl ?_
    refine r_istore_n C [(3, .int (0 : Int32)), (2, .int (0 : Int32)), (0, .ref 50), (1, .int a1)] dX6_count_78 (Nat.le_of_ble_eq_true rfl) rfl ?_
    refine r_lv [(0, .ref 50), (2, .int (0 : Int32)), (3, .int (0 : Int32))] [2, 1, 0] rfl ?_
    exact k_X6_count_79 C M a1   q_N (0 : Int32) (0 : Int32) M
  refine r_tsw C (5) 106 dX6_count_3 (by decide) (by decide) rfl (by decide) (fun h3_5 => ?_) (fun h3_5 => ?_)
  · refine r_aload_n C 1 dX6_count_106 rfl ?_
    refine r_get C 0 10 dX6_count_107 K_X6 rfl rfl (Nat.le_of_ble_eq_true rfl) rfl m_925 rfl ?_
    exact r_reti (x := M.1 10) (rv := (fun u => some (.int u.1))) (hpE := (fun u => w_X6 u.2)) (t0 := (M.1 10, M)) C dX6_count_110 (by rfl) (by rfl) (by rfl)
  refine r_tsw C (6) 111 dX6_count_3 (by decide) (by decide) rfl (by decide) (fun h3_6 => ?_) (fun h3_6 => ?_)
  · refine r_aload_n C 1 dX6_count_111 rfl ?_
    refine r_get C 0 0 dX6_count_112 K_X6 rfl rfl (Nat.le_of_ble_eq_true rfl) rfl m_915 rfl ?_
    refine r_bipush C (9) dX6_count_115 rfl ?_
    refine r_iald C 1 dX6_count_117 rfl rfl (fun hi117 => ?_)
    exact r_reti (x := (M.2 0 (9 : Int32).toNatClampNeg)) (rv := (fun u => some (.int u.1))) (hpE := (fun u => w_X6 u.2)) (t0 := ((M.2 0 (9 : Int32).toNatClampNeg), M)) C dX6_count_118 (by rfl) (by rfl) (by rfl)
  refine r_tsw C (7) 119 dX6_count_3 (by decide) (by decide) rfl (by decide) (fun h3_7 => ?_) (fun h3_7 => ?_)
  · refine r_iconst C (0) dX6_count_119 rfl ?_
    refine r_istore_n C [(3, .int (0 : Int32)), (2, .int (0 : Int32)), (0, .ref 50), (1, .int a1)] dX6_count_120 (Nat.le_of_ble_eq_true rfl) rfl ?_
    refine r_lv [(0, .ref 50), (2, .int (0 : Int32)), (3, .int (0 : Int32))] [2, 1, 0] rfl ?_
    exact k_X6_count_121 C M a1   q_N (0 : Int32) (0 : Int32) M
  have g0 := True.intro
  have g3_0 := q_neI h3_0 (z := 0) (by decide)
  have g3_1 := q_neI h3_1 (z := 1) (by decide)
  have g3_2 := q_neI h3_2 (z := 2) (by decide)
  have g3_3 := q_neI h3_3 (z := 3) (by decide)
  have g3_4 := q_neI h3_4 (z := 4) (by decide)
  have g3_5 := q_neI h3_5 (z := 5) (by decide)
  have g3_6 := q_neI h3_6 (z := 6) (by decide)
  have g3_7 := q_neI h3_7 (z := 7) (by decide)
  refine r_tswD C 155 dX6_count_3 (by omega) (by decide) ?_
  refine r_aload_n C 1 dX6_count_155 rfl ?_
  refine r_ldc C (-1000001) dX6_count_156 m_1002 ?_
  refine r_callV0 C (o_X6_finding l M (-1000001 : Int32)) v_X6_finding m_1003 [.int (-1000001 : Int32)] [] (50) (Or.inl ⟨0, 5, _, TX6, 25, rfl, rfl, rfl⟩) (fun u1 => [.int u1.1]) (fun u1 => [.inr (5, [.ref 51, .ref 52, .ref 53, .int (u1.2.1 3), .ref 54, .ref 55, .ref 56, .int (u1.2.1 7), .ref 57, .ref 58, .int (u1.2.1 10), .int (u1.2.1 11), .int (u1.2.1 12), .int (u1.2.1 13), .int (u1.2.1 14), .int (u1.2.1 15), .ref 59, .ref 60, .int (u1.2.1 18), .int (u1.2.1 19), .int (u1.2.1 20), .ref 61, .ref 62, .ref 63, .ref 64]), .inl (0, 68, .inl (u1.2.2 0)), .inl (0, 68, .inl (u1.2.2 1)), .inl (0, 68, .inl (u1.2.2 2)), .inl (0, 8, .inl (u1.2.2 4)), .inl (0, 1053, .inl (u1.2.2 5)), .inl (1, 972, .inl (u1.2.2 6)), .inl (0, 1053, .inl (u1.2.2 8)), .inl (0, 120, .inl (u1.2.2 9)), .inl (3, 7, .inr (.inr (.inr (.inr q_kf)))), .inl (0, 360, .inl (u1.2.2 17)), .inl (0, 4, .inl (u1.2.2 21)), .inl (0, 4, .inl (u1.2.2 22)), .inl (0, 160, .inl (u1.2.2 23)), .inl (0, 40, .inl (u1.2.2 24))]) rfl rfl rfl (Nat.le_of_ble_eq_true rfl) ⟨(Nat.le_of_ble_eq_true rfl), (Nat.le_of_ble_eq_true rfl)⟩ ⟨Nat.zero_le _, Nat.zero_le _⟩ dX6_count_158 (fun _ => rfl) (fun _ => rfl) (fun _ => rfl) (fun u1 => ?_)
  exact r_reti (x := u1.1) (rv := (fun u => some (.int u.1))) (hpE := (fun u => w_X6 u.2)) (t0 := (u1.1, u1.2)) C dX6_count_161 (by rfl) (by rfl) (by rfl)
set_option maxRecDepth 100000 in
set_option maxHeartbeats 4000000 in
theorem o_X6_status (l : Launch) (M : q_St) (a1 : Int32) : q_Ok l yX6_status cX6_status 2 (some .int) 1 22 [.ref 50, .int a1] (w_X6 M) (f_X6_status M a1) (fun u => some (.int u.1)) (fun u => w_X6 u.2) := by
  refine q_enter (by decide +kernel) (Nat.le_of_ble_eq_true rfl) (fun t p e s m args below meth c dC dI dA A α C => ?_)
  refine r_cut (f_X6_status.eq_1 _ _) ?_
  show q_S p l e (q_rm 1 22) s m args below meth c 2 dC dI dA A α (MQ below (q_Q α dC dI dA A ((fun u => some (.int u.1)) t) ((fun u => w_X6 u.2) t)) args s 0 0 A) 0 0 _ t 0 [(0, .ref 50), (1, .int a1)] [] (w_X6 M)
  refine r_iload_n C 1 dX6_status_0 rfl ?_
  refine r_iconst C (-1) dX6_status_1 rfl ?_
  refine r_bipush C (6) dX6_status_2 rfl ?_
  refine r_callS C (o_X6_within l a1 (-1 : Int32) (6 : Int32)) v_X6_within m_999 [] [.int a1, .int (-1 : Int32), .int (6 : Int32)] [] (fun u1 => [.int u1]) (fun u1 => [.inr (5, [.ref 51, .ref 52, .ref 53, .int (M.1 3), .ref 54, .ref 55, .ref 56, .int (M.1 7), .ref 57, .ref 58, .int (M.1 10), .int (M.1 11), .int (M.1 12), .int (M.1 13), .int (M.1 14), .int (M.1 15), .ref 59, .ref 60, .int (M.1 18), .int (M.1 19), .int (M.1 20), .ref 61, .ref 62, .ref 63, .ref 64]), .inl (0, 68, .inl (M.2 0)), .inl (0, 68, .inl (M.2 1)), .inl (0, 68, .inl (M.2 2)), .inl (0, 8, .inl (M.2 4)), .inl (0, 1053, .inl (M.2 5)), .inl (1, 972, .inl (M.2 6)), .inl (0, 1053, .inl (M.2 8)), .inl (0, 120, .inl (M.2 9)), .inl (3, 7, .inr (.inr (.inr (.inr q_kf)))), .inl (0, 360, .inl (M.2 17)), .inl (0, 4, .inl (M.2 21)), .inl (0, 4, .inl (M.2 22)), .inl (0, 160, .inl (M.2 23)), .inl (0, 40, .inl (M.2 24))]) rfl rfl rfl rfl rfl (Nat.le_of_ble_eq_true rfl) ⟨(Nat.le_of_ble_eq_true rfl), (Nat.le_of_ble_eq_true rfl)⟩ ⟨Nat.zero_le _, Nat.zero_le _⟩ dX6_status_4 (fun _ => rfl) (fun _ => rfl) (fun _ => rfl) (fun u1 => ?_)
  refine r_if_eq C 21 dX6_status_7 (by decide) (fun h7 => ?_) (fun h7 => ?_)
  · refine r_aload_n C 0 dX6_status_21 rfl ?_
    refine r_ldc C (-1000001) dX6_status_22 m_1002 ?_
    refine r_callV0 C (o_X6_finding l M (-1000001 : Int32)) v_X6_finding m_1003 [.int (-1000001 : Int32)] [] (50) (Or.inl ⟨0, 5, _, TX6, 25, rfl, rfl, rfl⟩) (fun u2 => [.int u2.1]) (fun u2 => [.inr (5, [.ref 51, .ref 52, .ref 53, .int (u2.2.1 3), .ref 54, .ref 55, .ref 56, .int (u2.2.1 7), .ref 57, .ref 58, .int (u2.2.1 10), .int (u2.2.1 11), .int (u2.2.1 12), .int (u2.2.1 13), .int (u2.2.1 14), .int (u2.2.1 15), .ref 59, .ref 60, .int (u2.2.1 18), .int (u2.2.1 19), .int (u2.2.1 20), .ref 61, .ref 62, .ref 63, .ref 64]), .inl (0, 68, .inl (u2.2.2 0)), .inl (0, 68, .inl (u2.2.2 1)), .inl (0, 68, .inl (u2.2.2 2)), .inl (0, 8, .inl (u2.2.2 4)), .inl (0, 1053, .inl (u2.2.2 5)), .inl (1, 972, .inl (u2.2.2 6)), .inl (0, 1053, .inl (u2.2.2 8)), .inl (0, 120, .inl (u2.2.2 9)), .inl (3, 7, .inr (.inr (.inr (.inr q_kf)))), .inl (0, 360, .inl (u2.2.2 17)), .inl (0, 4, .inl (u2.2.2 21)), .inl (0, 4, .inl (u2.2.2 22)), .inl (0, 160, .inl (u2.2.2 23)), .inl (0, 40, .inl (u2.2.2 24))]) rfl rfl rfl (Nat.le_of_ble_eq_true rfl) ⟨(Nat.le_of_ble_eq_true rfl), (Nat.le_of_ble_eq_true rfl)⟩ ⟨Nat.zero_le _, Nat.zero_le _⟩ dX6_status_24 (fun _ => rfl) (fun _ => rfl) (fun _ => rfl) (fun u2 => ?_)
    exact r_reti (x := u2.1) (rv := (fun u => some (.int u.1))) (hpE := (fun u => w_X6 u.2)) (t0 := (u2.1, u2.2)) C dX6_status_27 (by rfl) (by rfl) (by rfl)
  · refine r_aload_n C 0 dX6_status_10 rfl ?_
    refine r_get C 0 4 dX6_status_11 K_X6 rfl rfl (Nat.le_of_ble_eq_true rfl) rfl m_919 rfl ?_
    refine r_iload_n C 1 dX6_status_14 rfl ?_
    refine r_iconst C (1) dX6_status_15 rfl ?_
    refine r_iadd C dX6_status_16 ?_
    refine r_iald C 4 dX6_status_17 rfl rfl (fun hi17 => ?_)
    refine r_goto C 27 dX6_status_18 (by decide) ?_
    exact r_reti (x := (M.2 4 (a1 + (1 : Int32)).toNatClampNeg)) (rv := (fun u => some (.int u.1))) (hpE := (fun u => w_X6 u.2)) (t0 := ((M.2 4 (a1 + (1 : Int32)).toNatClampNeg), M)) C dX6_status_27 (by rfl) (by rfl) (by rfl)
