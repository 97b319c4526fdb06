set_option maxRecDepth 100000 in
set_option maxHeartbeats 4000000 in
theorem k_X5_load_33_u0 {p : Program} {l : Launch} {e : Env} {s : State} {m : MethodId} {args : Array Value} {below : List Frame} {meth : Method} {c : Code} {dC : Nat → ClassId} {dI : Nat → Nat → Nat} {dA : Nat → ClassId} {A : Nat → Prop} {α : Nat → Nat} {t : Int32 × (Nat → q_St)} (C : q_Cx p s m args meth c cX5_load 4 RX5 (some .int) "load" dC dI dA A α) (X : (Nat → q_St)) (a1 : Int32)  : ∀ (n : Nat) (x3 : Int32) (X' : (Nat → q_St)), q_S p l e (q_rm 2 43) s m args below meth c 4 dC dI dA A α (MQ below (q_Q α dC dI dA A ((fun u => some (.int u.1)) t) ((fun u => w_X5 u.2) t)) args s 0 0 A) 0 0 (f_X5_load_33 X a1 0  n x3 X') t 33 [(0, .ref 50), (2, .ref 82), (3, .int x3)] [] (w_X5 X') := by
  intro n
  induction n with
  | zero =>
    intro x3 X'
    exact r_cut (f_X5_load_33.eq_1 _ _ _ _ _) (r_none True.intro)
  | succ n ih =>
    intro x3 X'
    refine r_cut (f_X5_load_33.eq_2 _ _ _ _ _ _) ?_
    refine r_iload_n C 2 dX5_load_33 rfl ?_
    refine r_aload_n C 1 dX5_load_34 rfl ?_
    refine r_get C 32 1 dX5_load_35 K_X2 rfl rfl (Nat.le_of_ble_eq_true rfl) rfl m_164 rfl ?_
    refine r_icmp_ge C 82 dX5_load_38 (by decide) (fun h38 => ?_) (fun h38 => ?_)
    · refine r_iload_n C 2 dX5_load_82 rfl ?_
      exact r_reti (x := x3) (rv := (fun u => some (.int u.1))) (hpE := (fun u => w_X5 u.2)) (t0 := (x3, X')) C dX5_load_83 (by rfl) (by rfl) (by rfl)
    · refine r_iload_n C 2 dX5_load_41 rfl ?_
      refine r_aload_n C 0 dX5_load_42 rfl ?_
      refine r_get C 0 0 dX5_load_43 K_X5 rfl rfl (Nat.le_of_ble_eq_true rfl) rfl m_174 rfl ?_
      refine r_get C 1 0 dX5_load_46 K_X0 rfl rfl (Nat.le_of_ble_eq_true rfl) rfl m_30 rfl ?_
      refine r_icmp_ge C 82 dX5_load_49 (by decide) (fun h49 => ?_) (fun h49 => ?_)
      · refine r_iload_n C 2 dX5_load_82 rfl ?_
        exact r_reti (x := x3) (rv := (fun u => some (.int u.1))) (hpE := (fun u => w_X5 u.2)) (t0 := (x3, X')) C dX5_load_83 (by rfl) (by rfl) (by rfl)
      · refine r_aload_n C 1 dX5_load_52 rfl ?_
        refine r_iload_n C 2 dX5_load_53 rfl ?_
        refine r_callV C (o_X2_number l (X' (6 + 0)) x3) v_X2_number m_594 [32, 33] [.int x3] [] (82) (Or.inl ⟨32, 1, _, TX2, 3, rfl, rfl, rfl⟩) (fun u11 => [.int u11]) (fun u11 => w_X5 X') rfl rfl rfl rfl rfl (Nat.le_of_ble_eq_true rfl) ⟨(Nat.le_of_ble_eq_true rfl), (Nat.le_of_ble_eq_true rfl)⟩ ⟨Nat.zero_le _, Nat.zero_le _⟩ dX5_load_54 (fun _ => rfl) (fun _ => rfl) (fun _ => rfl) (fun u11 => ?_)
        refine r_callS C (o_X5_isSize l u11) v_X5_isSize m_266 [] [.int u11] [] (fun u12 => [.int u12]) (fun u12 => w_X5 X') rfl rfl rfl rfl rfl (Nat.le_of_ble_eq_true rfl) ⟨(Nat.le_of_ble_eq_true rfl), (Nat.le_of_ble_eq_true rfl)⟩ ⟨Nat.zero_le _, Nat.zero_le _⟩ dX5_load_57 (fun _ => rfl) (fun _ => rfl) (fun _ => rfl) (fun u12 => ?_)
        refine r_if_eq C 82 dX5_load_60 (by decide) (fun h60 => ?_) (fun h60 => ?_)
        · refine r_iload_n C 2 dX5_load_82 rfl ?_
          exact r_reti (x := x3) (rv := (fun u => some (.int u.1))) (hpE := (fun u => w_X5 u.2)) (t0 := (x3, X')) C dX5_load_83 (by rfl) (by rfl) (by rfl)
        · refine r_aload_n C 0 dX5_load_63 rfl ?_
          refine r_get C 0 0 dX5_load_64 K_X5 rfl rfl (Nat.le_of_ble_eq_true rfl) rfl m_174 rfl ?_
          refine r_iload_n C 2 dX5_load_67 rfl ?_
          refine r_aload_n C 1 dX5_load_68 rfl ?_
          refine r_iload_n C 2 dX5_load_69 rfl ?_
          refine r_callV C (o_X2_number l (X' (6 + 0)) x3) v_X2_number m_594 [32, 33] [.int x3] [.int x3, .ref 51] (82) (Or.inl ⟨32, 1, _, TX2, 3, rfl, rfl, rfl⟩) (fun u13 => [.int u13, .int x3, .ref 51]) (fun u13 => w_X5 X') rfl rfl rfl rfl rfl (Nat.le_of_ble_eq_true rfl) ⟨(Nat.le_of_ble_eq_true rfl), (Nat.le_of_ble_eq_true rfl)⟩ ⟨Nat.zero_le _, Nat.zero_le _⟩ dX5_load_70 (fun _ => rfl) (fun _ => rfl) (fun _ => rfl) (fun u13 => ?_)
          refine r_callV C (o_X0_setSize l (X' 1) x3 u13) v_X0_setSize m_269 [1, 2, 3, 4, 5, 6, 7] [.int x3, .int u13] [] (51) (Or.inl ⟨1, 0, _, TX0, 16, rfl, rfl, rfl⟩) (fun u14 => []) (fun u14 => w_X5 (va_up X' 1 u14)) rfl rfl rfl rfl rfl (Nat.le_of_ble_eq_true rfl) ⟨(Nat.le_of_ble_eq_true rfl), (Nat.le_of_ble_eq_true rfl)⟩ ⟨Nat.zero_le _, Nat.zero_le _⟩ dX5_load_73 (fun _ => rfl) (fun _ => rfl) (fun _ => rfl) (fun u14 => ?_)
          refine r_iinc C 2 (x3 + 1) [(3, .int (x3 + 1)), (0, .ref 50), (2, .ref 82)] dX5_load_76 rfl rfl (Nat.le_of_ble_eq_true rfl) rfl ?_
          refine r_goto C 33 dX5_load_79 (by decide) ?_
          refine r_lv [(0, .ref 50), (2, .ref 82), (3, .int (x3 + 1))] [1, 2, 0] rfl ?_
          exact ih (x3 + 1) (va_up X' 1 u14)
set_option maxRecDepth 100000 in
set_option maxHeartbeats 4000000 in
theorem k_X5_load_33_u1 {p : Program} {l : Launch} {e : Env} {s : State} {m : MethodId} {args : Array Value} {below : List Frame} {meth : Method} {c : Code} {dC : Nat → ClassId} {dI : Nat → Nat → Nat} {dA : Nat → ClassId} {A : Nat → Prop} {α : Nat → Nat} {t : Int32 × (Nat → q_St)} (C : q_Cx p s m args meth c cX5_load 4 RX5 (some .int) "load" dC dI dA A α) (X : (Nat → q_St)) (a1 : Int32)  : ∀ (n : Nat) (x3 : Int32) (X' : (Nat → q_St)), q_S p l e (q_rm 2 43) s m args below meth c 4 dC dI dA A α (MQ below (q_Q α dC dI dA A ((fun u => some (.int u.1)) t) ((fun u => w_X5 u.2) t)) args s 0 0 A) 0 0 (f_X5_load_33 X a1 1  n x3 X') t 33 [(0, .ref 50), (2, .ref 84), (3, .int x3)] [] (w_X5 X') := by
  intro n
  induction n with
  | zero =>
    intro x3 X'
    exact r_cut (f_X5_load_33.eq_1 _ _ _ _ _) (r_none True.intro)
  | succ n ih =>
    intro x3 X'
    refine r_cut (f_X5_load_33.eq_2 _ _ _ _ _ _) ?_
    refine r_iload_n C 2 dX5_load_33 rfl ?_
    refine r_aload_n C 1 dX5_load_34 rfl ?_
    refine r_get C 34 1 dX5_load_35 K_X2 rfl rfl (Nat.le_of_ble_eq_true rfl) rfl m_164 rfl ?_
    refine r_icmp_ge C 82 dX5_load_38 (by decide) (fun h38 => ?_) (fun h38 => ?_)
    · refine r_iload_n C 2 dX5_load_82 rfl ?_
      exact r_reti (x := x3) (rv := (fun u => some (.int u.1))) (hpE := (fun u => w_X5 u.2)) (t0 := (x3, X')) C dX5_load_83 (by rfl) (by rfl) (by rfl)
    · refine r_iload_n C 2 dX5_load_41 rfl ?_
      refine r_aload_n C 0 dX5_load_42 rfl ?_
      refine r_get C 0 0 dX5_load_43 K_X5 rfl rfl (Nat.le_of_ble_eq_true rfl) rfl m_174 rfl ?_
      refine r_get C 1 0 dX5_load_46 K_X0 rfl rfl (Nat.le_of_ble_eq_true rfl) rfl m_30 rfl ?_
      refine r_icmp_ge C 82 dX5_load_49 (by decide) (fun h49 => ?_) (fun h49 => ?_)
      · refine r_iload_n C 2 dX5_load_82 rfl ?_
        exact r_reti (x := x3) (rv := (fun u => some (.int u.1))) (hpE := (fun u => w_X5 u.2)) (t0 := (x3, X')) C dX5_load_83 (by rfl) (by rfl) (by rfl)
      · refine r_aload_n C 1 dX5_load_52 rfl ?_
        refine r_iload_n C 2 dX5_load_53 rfl ?_
        refine r_callV C (o_X2_number l (X' (6 + 1)) x3) v_X2_number m_594 [34, 35] [.int x3] [] (84) (Or.inl ⟨34, 1, _, TX2, 3, rfl, rfl, rfl⟩) (fun u15 => [.int u15]) (fun u15 => w_X5 X') rfl rfl rfl rfl rfl (Nat.le_of_ble_eq_true rfl) ⟨(Nat.le_of_ble_eq_true rfl), (Nat.le_of_ble_eq_true rfl)⟩ ⟨Nat.zero_le _, Nat.zero_le _⟩ dX5_load_54 (fun _ => rfl) (fun _ => rfl) (fun _ => rfl) (fun u15 => ?_)
        refine r_callS C (o_X5_isSize l u15) v_X5_isSize m_266 [] [.int u15] [] (fun u16 => [.int u16]) (fun u16 => w_X5 X') rfl rfl rfl rfl rfl (Nat.le_of_ble_eq_true rfl) ⟨(Nat.le_of_ble_eq_true rfl), (Nat.le_of_ble_eq_true rfl)⟩ ⟨Nat.zero_le _, Nat.zero_le _⟩ dX5_load_57 (fun _ => rfl) (fun _ => rfl) (fun _ => rfl) (fun u16 => ?_)
        refine r_if_eq C 82 dX5_load_60 (by decide) (fun h60 => ?_) (fun h60 => ?_)
        · refine r_iload_n C 2 dX5_load_82 rfl ?_
          exact r_reti (x := x3) (rv := (fun u => some (.int u.1))) (hpE := (fun u => w_X5 u.2)) (t0 := (x3, X')) C dX5_load_83 (by rfl) (by rfl) (by rfl)
        · refine r_aload_n C 0 dX5_load_63 rfl ?_
          refine r_get C 0 0 dX5_load_64 K_X5 rfl rfl (Nat.le_of_ble_eq_true rfl) rfl m_174 rfl ?_
          refine r_iload_n C 2 dX5_load_67 rfl ?_
          refine r_aload_n C 1 dX5_load_68 rfl ?_
          refine r_iload_n C 2 dX5_load_69 rfl ?_
          refine r_callV C (o_X2_number l (X' (6 + 1)) x3) v_X2_number m_594 [34, 35] [.int x3] [.int x3, .ref 51] (84) (Or.inl ⟨34, 1, _, TX2, 3, rfl, rfl, rfl⟩) (fun u17 => [.int u17, .int x3, .ref 51]) (fun u17 => w_X5 X') rfl rfl rfl rfl rfl (Nat.le_of_ble_eq_true rfl) ⟨(Nat.le_of_ble_eq_true rfl), (Nat.le_of_ble_eq_true rfl)⟩ ⟨Nat.zero_le _, Nat.zero_le _⟩ dX5_load_70 (fun _ => rfl) (fun _ => rfl) (fun _ => rfl) (fun u17 => ?_)
          refine r_callV C (o_X0_setSize l (X' 1) x3 u17) v_X0_setSize m_269 [1, 2, 3, 4, 5, 6, 7] [.int x3, .int u17] [] (51) (Or.inl ⟨1, 0, _, TX0, 16, rfl, rfl, rfl⟩) (fun u18 => []) (fun u18 => w_X5 (va_up X' 1 u18)) rfl rfl rfl rfl rfl (Nat.le_of_ble_eq_true rfl) ⟨(Nat.le_of_ble_eq_true rfl), (Nat.le_of_ble_eq_true rfl)⟩ ⟨Nat.zero_le _, Nat.zero_le _⟩ dX5_load_73 (fun _ => rfl) (fun _ => rfl) (fun _ => rfl) (fun u18 => ?_)
          refine r_iinc C 2 (x3 + 1) [(3, .int (x3 + 1)), (0, .ref 50), (2, .ref 84)] dX5_load_76 rfl rfl (Nat.le_of_ble_eq_true rfl) rfl ?_
          refine r_goto C 33 dX5_load_79 (by decide) ?_
          refine r_lv [(0, .ref 50), (2, .ref 84), (3, .int (x3 + 1))] [1, 2, 0] rfl ?_
          exact ih (x3 + 1) (va_up X' 1 u18)
set_option maxRecDepth 100000 in
set_option maxHeartbeats 4000000 in
theorem k_X5_load_33_u2 {p : Program} {l : Launch} {e : Env} {s : State} {m : MethodId} {args : Array Value} {below : List Frame} {meth : Method} {c : Code} {dC : Nat → ClassId} {dI : Nat → Nat → Nat} {dA : Nat → ClassId} {A : Nat → Prop} {α : Nat → Nat} {t : Int32 × (Nat → q_St)} (C : q_Cx p s m args meth c cX5_load 4 RX5 (some .int) "load" dC dI dA A α) (X : (Nat → q_St)) (a1 : Int32)  : ∀ (n : Nat) (x3 : Int32) (X' : (Nat → q_St)), q_S p l e (q_rm 2 43) s m args below meth c 4 dC dI dA A α (MQ below (q_Q α dC dI dA A ((fun u => some (.int u.1)) t) ((fun u => w_X5 u.2) t)) args s 0 0 A) 0 0 (f_X5_load_33 X a1 2  n x3 X') t 33 [(0, .ref 50), (2, .ref 86), (3, .int x3)] [] (w_X5 X') := by
  intro n
  induction n with
  | zero =>
    intro x3 X'
    exact r_cut (f_X5_load_33.eq_1 _ _ _ _ _) (r_none True.intro)
  | succ n ih =>
    intro x3 X'
    refine r_cut (f_X5_load_33.eq_2 _ _ _ _ _ _) ?_
    refine r_iload_n C 2 dX5_load_33 rfl ?_
    refine r_aload_n C 1 dX5_load_34 rfl ?_
    refine r_get C 36 1 dX5_load_35 K_X2 rfl rfl (Nat.le_of_ble_eq_true rfl) rfl m_164 rfl ?_
    refine r_icmp_ge C 82 dX5_load_38 (by decide) (fun h38 => ?_) (fun h38 => ?_)
    · refine r_iload_n C 2 dX5_load_82 rfl ?_
      exact r_reti (x := x3) (rv := (fun u => some (.int u.1))) (hpE := (fun u => w_X5 u.2)) (t0 := (x3, X')) C dX5_load_83 (by rfl) (by rfl) (by rfl)
    · refine r_iload_n C 2 dX5_load_41 rfl ?_
      refine r_aload_n C 0 dX5_load_42 rfl ?_
      refine r_get C 0 0 dX5_load_43 K_X5 rfl rfl (Nat.le_of_ble_eq_true rfl) rfl m_174 rfl ?_
      refine r_get C 1 0 dX5_load_46 K_X0 rfl rfl (Nat.le_of_ble_eq_true rfl) rfl m_30 rfl ?_
      refine r_icmp_ge C 82 dX5_load_49 (by decide) (fun h49 => ?_) (fun h49 => ?_)
      · refine r_iload_n C 2 dX5_load_82 rfl ?_
        exact r_reti (x := x3) (rv := (fun u => some (.int u.1))) (hpE := (fun u => w_X5 u.2)) (t0 := (x3, X')) C dX5_load_83 (by rfl) (by rfl) (by rfl)
      · refine r_aload_n C 1 dX5_load_52 rfl ?_
        refine r_iload_n C 2 dX5_load_53 rfl ?_
        refine r_callV C (o_X2_number l (X' (6 + 2)) x3) v_X2_number m_594 [36, 37] [.int x3] [] (86) (Or.inl ⟨36, 1, _, TX2, 3, rfl, rfl, rfl⟩) (fun u19 => [.int u19]) (fun u19 => w_X5 X') rfl rfl rfl rfl rfl (Nat.le_of_ble_eq_true rfl) ⟨(Nat.le_of_ble_eq_true rfl), (Nat.le_of_ble_eq_true rfl)⟩ ⟨Nat.zero_le _, Nat.zero_le _⟩ dX5_load_54 (fun _ => rfl) (fun _ => rfl) (fun _ => rfl) (fun u19 => ?_)
        refine r_callS C (o_X5_isSize l u19) v_X5_isSize m_266 [] [.int u19] [] (fun u20 => [.int u20]) (fun u20 => w_X5 X') rfl rfl rfl rfl rfl (Nat.le_of_ble_eq_true rfl) ⟨(Nat.le_of_ble_eq_true rfl), (Nat.le_of_ble_eq_true rfl)⟩ ⟨Nat.zero_le _, Nat.zero_le _⟩ dX5_load_57 (fun _ => rfl) (fun _ => rfl) (fun _ => rfl) (fun u20 => ?_)
        refine r_if_eq C 82 dX5_load_60 (by decide) (fun h60 => ?_) (fun h60 => ?_)
        · refine r_iload_n C 2 dX5_load_82 rfl ?_
          exact r_reti (x := x3) (rv := (fun u => some (.int u.1))) (hpE := (fun u => w_X5 u.2)) (t0 := (x3, X')) C dX5_load_83 (by rfl) (by rfl) (by rfl)
        · refine r_aload_n C 0 dX5_load_63 rfl ?_
          refine r_get C 0 0 dX5_load_64 K_X5 rfl rfl (Nat.le_of_ble_eq_true rfl) rfl m_174 rfl ?_
          refine r_iload_n C 2 dX5_load_67 rfl ?_
          refine r_aload_n C 1 dX5_load_68 rfl ?_
          refine r_iload_n C 2 dX5_load_69 rfl ?_
          refine r_callV C (o_X2_number l (X' (6 + 2)) x3) v_X2_number m_594 [36, 37] [.int x3] [.int x3, .ref 51] (86) (Or.inl ⟨36, 1, _, TX2, 3, rfl, rfl, rfl⟩) (fun u21 => [.int u21, .int x3, .ref 51]) (fun u21 => w_X5 X') rfl rfl rfl rfl rfl (Nat.le_of_ble_eq_true rfl) ⟨(Nat.le_of_ble_eq_true rfl), (Nat.le_of_ble_eq_true rfl)⟩ ⟨Nat.zero_le _, Nat.zero_le _⟩ dX5_load_70 (fun _ => rfl) (fun _ => rfl) (fun _ => rfl) (fun u21 => ?_)
          refine r_callV C (o_X0_setSize l (X' 1) x3 u21) v_X0_setSize m_269 [1, 2, 3, 4, 5, 6, 7] [.int x3, .int u21] [] (51) (Or.inl ⟨1, 0, _, TX0, 16, rfl, rfl, rfl⟩) (fun u22 => []) (fun u22 => w_X5 (va_up X' 1 u22)) rfl rfl rfl rfl rfl (Nat.le_of_ble_eq_true rfl) ⟨(Nat.le_of_ble_eq_true rfl), (Nat.le_of_ble_eq_true rfl)⟩ ⟨Nat.zero_le _, Nat.zero_le _⟩ dX5_load_73 (fun _ => rfl) (fun _ => rfl) (fun _ => rfl) (fun u22 => ?_)
          refine r_iinc C 2 (x3 + 1) [(3, .int (x3 + 1)), (0, .ref 50), (2, .ref 86)] dX5_load_76 rfl rfl (Nat.le_of_ble_eq_true rfl) rfl ?_
          refine r_goto C 33 dX5_load_79 (by decide) ?_
          refine r_lv [(0, .ref 50), (2, .ref 86), (3, .int (x3 + 1))] [1, 2, 0] rfl ?_
          exact ih (x3 + 1) (va_up X' 1 u22)
set_option maxRecDepth 100000 in
set_option maxHeartbeats 4000000 in
theorem k_X5_load_33_u3 {p : Program} {l : Launch} {e : Env} {s : State} {m : MethodId} {args : Array Value} {below : List Frame} {meth : Method} {c : Code} {dC : Nat → ClassId} {dI : Nat → Nat → Nat} {dA : Nat → ClassId} {A : Nat → Prop} {α : Nat → Nat} {t : Int32 × (Nat → q_St)} (C : q_Cx p s m args meth c cX5_load 4 RX5 (some .int) "load" dC dI dA A α) (X : (Nat → q_St)) (a1 : Int32)  : ∀ (n : Nat) (x3 : Int32) (X' : (Nat → q_St)), q_S p l e (q_rm 2 43) s m args below meth c 4 dC dI dA A α (MQ below (q_Q α dC dI dA A ((fun u => some (.int u.1)) t) ((fun u => w_X5 u.2) t)) args s 0 0 A) 0 0 (f_X5_load_33 X a1 3  n x3 X') t 33 [(0, .ref 50), (2, .ref 88), (3, .int x3)] [] (w_X5 X') := by
  intro n
  induction n with
  | zero =>
    intro x3 X'
    exact r_cut (f_X5_load_33.eq_1 _ _ _ _ _) (r_none True.intro)
  | succ n ih =>
    intro x3 X'
    refine r_cut (f_X5_load_33.eq_2 _ _ _ _ _ _) ?_
    refine r_iload_n C 2 dX5_load_33 rfl ?_
    refine r_aload_n C 1 dX5_load_34 rfl ?_
    refine r_get C 38 1 dX5_load_35 K_X2 rfl rfl (Nat.le_of_ble_eq_true rfl) rfl m_164 rfl ?_
    refine r_icmp_ge C 82 dX5_load_38 (by decide) (fun h38 => ?_) (fun h38 => ?_)
    · refine r_iload_n C 2 dX5_load_82 rfl ?_
      exact r_reti (x := x3) (rv := (fun u => some (.int u.1))) (hpE := (fun u => w_X5 u.2)) (t0 := (x3, X')) C dX5_load_83 (by rfl) (by rfl) (by rfl)
    · refine r_iload_n C 2 dX5_load_41 rfl ?_
      refine r_aload_n C 0 dX5_load_42 rfl ?_
      refine r_get C 0 0 dX5_load_43 K_X5 rfl rfl (Nat.le_of_ble_eq_true rfl) rfl m_174 rfl ?_
      refine r_get C 1 0 dX5_load_46 K_X0 rfl rfl (Nat.le_of_ble_eq_true rfl) rfl m_30 rfl ?_
      refine r_icmp_ge C 82 dX5_load_49 (by decide) (fun h49 => ?_) (fun h49 => ?_)
      · refine r_iload_n C 2 dX5_load_82 rfl ?_
        exact r_reti (x := x3) (rv := (fun u => some (.int u.1))) (hpE := (fun u => w_X5 u.2)) (t0 := (x3, X')) C dX5_load_83 (by rfl) (by rfl) (by rfl)
      · refine r_aload_n C 1 dX5_load_52 rfl ?_
        refine r_iload_n C 2 dX5_load_53 rfl ?_
        refine r_callV C (o_X2_number l (X' (6 + 3)) x3) v_X2_number m_594 [38, 39] [.int x3] [] (88) (Or.inl ⟨38, 1, _, TX2, 3, rfl, rfl, rfl⟩) (fun u23 => [.int u23]) (fun u23 => w_X5 X') rfl rfl rfl rfl rfl (Nat.le_of_ble_eq_true rfl) ⟨(Nat.le_of_ble_eq_true rfl), (Nat.le_of_ble_eq_true rfl)⟩ ⟨Nat.zero_le _, Nat.zero_le _⟩ dX5_load_54 (fun _ => rfl) (fun _ => rfl) (fun _ => rfl) (fun u23 => ?_)
        refine r_callS C (o_X5_isSize l u23) v_X5_isSize m_266 [] [.int u23] [] (fun u24 => [.int u24]) (fun u24 => w_X5 X') rfl rfl rfl rfl rfl (Nat.le_of_ble_eq_true rfl) ⟨(Nat.le_of_ble_eq_true rfl), (Nat.le_of_ble_eq_true rfl)⟩ ⟨Nat.zero_le _, Nat.zero_le _⟩ dX5_load_57 (fun _ => rfl) (fun _ => rfl) (fun _ => rfl) (fun u24 => ?_)
        refine r_if_eq C 82 dX5_load_60 (by decide) (fun h60 => ?_) (fun h60 => ?_)
        · refine r_iload_n C 2 dX5_load_82 rfl ?_
          exact r_reti (x := x3) (rv := (fun u => some (.int u.1))) (hpE := (fun u => w_X5 u.2)) (t0 := (x3, X')) C dX5_load_83 (by rfl) (by rfl) (by rfl)
        · refine r_aload_n C 0 dX5_load_63 rfl ?_
          refine r_get C 0 0 dX5_load_64 K_X5 rfl rfl (Nat.le_of_ble_eq_true rfl) rfl m_174 rfl ?_
          refine r_iload_n C 2 dX5_load_67 rfl ?_
          refine r_aload_n C 1 dX5_load_68 rfl ?_
          refine r_iload_n C 2 dX5_load_69 rfl ?_
          refine r_callV C (o_X2_number l (X' (6 + 3)) x3) v_X2_number m_594 [38, 39] [.int x3] [.int x3, .ref 51] (88) (Or.inl ⟨38, 1, _, TX2, 3, rfl, rfl, rfl⟩) (fun u25 => [.int u25, .int x3, .ref 51]) (fun u25 => w_X5 X') rfl rfl rfl rfl rfl (Nat.le_of_ble_eq_true rfl) ⟨(Nat.le_of_ble_eq_true rfl), (Nat.le_of_ble_eq_true rfl)⟩ ⟨Nat.zero_le _, Nat.zero_le _⟩ dX5_load_70 (fun _ => rfl) (fun _ => rfl) (fun _ => rfl) (fun u25 => ?_)
          refine r_callV C (o_X0_setSize l (X' 1) x3 u25) v_X0_setSize m_269 [1, 2, 3, 4, 5, 6, 7] [.int x3, .int u25] [] (51) (Or.inl ⟨1, 0, _, TX0, 16, rfl, rfl, rfl⟩) (fun u26 => []) (fun u26 => w_X5 (va_up X' 1 u26)) rfl rfl rfl rfl rfl (Nat.le_of_ble_eq_true rfl) ⟨(Nat.le_of_ble_eq_true rfl), (Nat.le_of_ble_eq_true rfl)⟩ ⟨Nat.zero_le _, Nat.zero_le _⟩ dX5_load_73 (fun _ => rfl) (fun _ => rfl) (fun _ => rfl) (fun u26 => ?_)
          refine r_iinc C 2 (x3 + 1) [(3, .int (x3 + 1)), (0, .ref 50), (2, .ref 88)] dX5_load_76 rfl rfl (Nat.le_of_ble_eq_true rfl) rfl ?_
          refine r_goto C 33 dX5_load_79 (by decide) ?_
          refine r_lv [(0, .ref 50), (2, .ref 88), (3, .int (x3 + 1))] [1, 2, 0] rfl ?_
          exact ih (x3 + 1) (va_up X' 1 u26)
set_option maxRecDepth 100000 in
set_option maxHeartbeats 4000000 in
theorem o_X5_load (l : Launch) (X : (Nat → q_St)) (a1 : Int32) : q_Ok l yX5_load cX5_load 4 (some .int) 2 43 [.ref 50, .int a1] (w_X5 X) (f_X5_load X a1) (fun u => some (.int u.1)) (fun u => w_X5 u.2) := by
  refine q_enter (by decide +kernel) (Nat.le_of_ble_eq_true rfl) (fun t p e s m args below meth c dC dI dA A α C => ?_)
  refine r_cut (f_X5_load.eq_1 _ _) ?_
  show q_S p l e (q_rm 2 43) s m args below meth c 4 dC dI dA A α (MQ below (q_Q α dC dI dA A ((fun u => some (.int u.1)) t) ((fun u => w_X5 u.2) t)) args s 0 0 A) 0 0 _ t 0 [(0, .ref 50), (1, .int a1)] [] (w_X5 X)
  refine r_aload_n C 0 dX5_load_0 rfl ?_
  refine r_iload_n C 1 dX5_load_1 rfl ?_
  refine r_callV0 C (o_X5_sheetAt l X a1) v_X5_sheetAt m_573 [.int a1] [] (50) (Or.inl ⟨0, 4, _, TX5, 8, rfl, rfl, rfl⟩) (fun u1 => va_rf (q_sf u1) :: []) (fun u1 => w_X5 X) rfl rfl rfl (Nat.le_of_ble_eq_true rfl) ⟨(Nat.le_of_ble_eq_true rfl), (Nat.le_of_ble_eq_true rfl)⟩ ⟨Nat.zero_le _, Nat.zero_le _⟩ dX5_load_2 (fun _ => rfl) (fun _ => rfl) (fun _ => rfl) (q_case4 ?_ ?_ ?_ ?_ (fun u1 => ?_))
  · refine r_astore_n C [(2, .ref 82), (0, .ref 50), (1, .int a1)] dX5_load_5 (Nat.le_of_ble_eq_true rfl) rfl ?_
    refine r_aload_n C 0 dX5_load_6 rfl ?_
    refine r_cut (if_pos (by decide)) ?_
    refine r_ifnonnull_t C 17 dX5_load_7 (by decide) ?_
    refine r_aload_n C 0 dX5_load_17 rfl ?_
    refine r_callV C (o_X2_isMissing l (X (6 + 0))) v_X2_isMissing m_577 [32, 33] [] [] (82) (Or.inl ⟨32, 1, _, TX2, 3, rfl, rfl, rfl⟩) (fun u2 => [.int u2]) (fun u2 => w_X5 X) rfl rfl rfl rfl rfl (Nat.le_of_ble_eq_true rfl) ⟨(Nat.le_of_ble_eq_true rfl), (Nat.le_of_ble_eq_true rfl)⟩ ⟨Nat.zero_le _, Nat.zero_le _⟩ dX5_load_18 (fun _ => rfl) (fun _ => rfl) (fun _ => rfl) (fun u2 => ?_)
    refine r_if_eq C 31 dX5_load_21 (by decide) (fun h21 => ?_) (fun h21 => ?_)
    · refine r_iconst C (0) dX5_load_31 rfl ?_
      refine r_istore_n C [(3, .int (0 : Int32)), (2, .ref 82), (0, .ref 50), (1, .int a1)] dX5_load_32 (Nat.le_of_ble_eq_true rfl) rfl ?_
      refine r_lv [(0, .ref 50), (2, .ref 82), (3, .int (0 : Int32))] [2, 1, 0] rfl ?_
      exact k_X5_load_33_u0 C X a1   q_N (0 : Int32) X
    · refine r_aload_n C 1 dX5_load_24 rfl ?_
      refine r_ldc C (-1000006) dX5_load_25 m_581 ?_
      refine r_callV0 C (o_X5_finding l X (-1000006 : Int32)) v_X5_finding m_207 [.int (-1000006 : Int32)] [] (50) (Or.inl ⟨0, 4, _, TX5, 8, rfl, rfl, rfl⟩) (fun u3 => [.int u3.1]) (fun u3 => w_X5 u3.2) rfl rfl rfl (Nat.le_of_ble_eq_true rfl) ⟨(Nat.le_of_ble_eq_true rfl), (Nat.le_of_ble_eq_true rfl)⟩ ⟨Nat.zero_le _, Nat.zero_le _⟩ dX5_load_27 (fun _ => rfl) (fun _ => rfl) (fun _ => rfl) (fun u3 => ?_)
      exact r_reti (x := u3.1) (rv := (fun u => some (.int u.1))) (hpE := (fun u => w_X5 u.2)) (t0 := (u3.1, u3.2)) C dX5_load_30 (by rfl) (by rfl) (by rfl)
  · refine r_astore_n C [(2, .ref 84), (0, .ref 50), (1, .int a1)] dX5_load_5 (Nat.le_of_ble_eq_true rfl) rfl ?_
    refine r_aload_n C 0 dX5_load_6 rfl ?_
    refine r_cut (if_pos (by decide)) ?_
    refine r_ifnonnull_t C 17 dX5_load_7 (by decide) ?_
    refine r_aload_n C 0 dX5_load_17 rfl ?_
    refine r_callV C (o_X2_isMissing l (X (6 + 1))) v_X2_isMissing m_577 [34, 35] [] [] (84) (Or.inl ⟨34, 1, _, TX2, 3, rfl, rfl, rfl⟩) (fun u4 => [.int u4]) (fun u4 => w_X5 X) rfl rfl rfl rfl rfl (Nat.le_of_ble_eq_true rfl) ⟨(Nat.le_of_ble_eq_true rfl), (Nat.le_of_ble_eq_true rfl)⟩ ⟨Nat.zero_le _, Nat.zero_le _⟩ dX5_load_18 (fun _ => rfl) (fun _ => rfl) (fun _ => rfl) (fun u4 => ?_)
    refine r_if_eq C 31 dX5_load_21 (by decide) (fun h21 => ?_) (fun h21 => ?_)
    · refine r_iconst C (0) dX5_load_31 rfl ?_
      refine r_istore_n C [(3, .int (0 : Int32)), (2, .ref 84), (0, .ref 50), (1, .int a1)] dX5_load_32 (Nat.le_of_ble_eq_true rfl) rfl ?_
      refine r_lv [(0, .ref 50), (2, .ref 84), (3, .int (0 : Int32))] [2, 1, 0] rfl ?_
      exact k_X5_load_33_u1 C X a1   q_N (0 : Int32) X
    · refine r_aload_n C 1 dX5_load_24 rfl ?_
      refine r_ldc C (-1000006) dX5_load_25 m_581 ?_
      refine r_callV0 C (o_X5_finding l X (-1000006 : Int32)) v_X5_finding m_207 [.int (-1000006 : Int32)] [] (50) (Or.inl ⟨0, 4, _, TX5, 8, rfl, rfl, rfl⟩) (fun u5 => [.int u5.1]) (fun u5 => w_X5 u5.2) rfl rfl rfl (Nat.le_of_ble_eq_true rfl) ⟨(Nat.le_of_ble_eq_true rfl), (Nat.le_of_ble_eq_true rfl)⟩ ⟨Nat.zero_le _, Nat.zero_le _⟩ dX5_load_27 (fun _ => rfl) (fun _ => rfl) (fun _ => rfl) (fun u5 => ?_)
      exact r_reti (x := u5.1) (rv := (fun u => some (.int u.1))) (hpE := (fun u => w_X5 u.2)) (t0 := (u5.1, u5.2)) C dX5_load_30 (by rfl) (by rfl) (by rfl)
  · refine r_astore_n C [(2, .ref 86), (0, .ref 50), (1, .int a1)] dX5_load_5 (Nat.le_of_ble_eq_true rfl) rfl ?_
    refine r_aload_n C 0 dX5_load_6 rfl ?_
    refine r_cut (if_pos (by decide)) ?_
    refine r_ifnonnull_t C 17 dX5_load_7 (by decide) ?_
    refine r_aload_n C 0 dX5_load_17 rfl ?_
    refine r_callV C (o_X2_isMissing l (X (6 + 2))) v_X2_isMissing m_577 [36, 37] [] [] (86) (Or.inl ⟨36, 1, _, TX2, 3, rfl, rfl, rfl⟩) (fun u6 => [.int u6]) (fun u6 => w_X5 X) rfl rfl rfl rfl rfl (Nat.le_of_ble_eq_true rfl) ⟨(Nat.le_of_ble_eq_true rfl), (Nat.le_of_ble_eq_true rfl)⟩ ⟨Nat.zero_le _, Nat.zero_le _⟩ dX5_load_18 (fun _ => rfl) (fun _ => rfl) (fun _ => rfl) (fun u6 => ?_)
    refine r_if_eq C 31 dX5_load_21 (by decide) (fun h21 => ?_) (fun h21 => ?_)
    · refine r_iconst C (0) dX5_load_31 rfl ?_
      refine r_istore_n C [(3, .int (0 : Int32)), (2, .ref 86), (0, .ref 50), (1, .int a1)] dX5_load_32 (Nat.le_of_ble_eq_true rfl) rfl ?_
      refine r_lv [(0, .ref 50), (2, .ref 86), (3, .int (0 : Int32))] [2, 1, 0] rfl ?_
      exact k_X5_load_33_u2 C X a1   q_N (0 : Int32) X
    · refine r_aload_n C 1 dX5_load_24 rfl ?_
      refine r_ldc C (-1000006) dX5_load_25 m_581 ?_
      refine r_callV0 C (o_X5_finding l X (-1000006 : Int32)) v_X5_finding m_207 [.int (-1000006 : Int32)] [] (50) (Or.inl ⟨0, 4, _, TX5, 8, rfl, rfl, rfl⟩) (fun u7 => [.int u7.1]) (fun u7 => w_X5 u7.2) rfl rfl rfl (Nat.le_of_ble_eq_true rfl) ⟨(Nat.le_of_ble_eq_true rfl), (Nat.le_of_ble_eq_true rfl)⟩ ⟨Nat.zero_le _, Nat.zero_le _⟩ dX5_load_27 (fun _ => rfl) (fun _ => rfl) (fun _ => rfl) (fun u7 => ?_)
      exact r_reti (x := u7.1) (rv := (fun u => some (.int u.1))) (hpE := (fun u => w_X5 u.2)) (t0 := (u7.1, u7.2)) C dX5_load_30 (by rfl) (by rfl) (by rfl)
  · refine r_astore_n C [(2, .ref 88), (0, .ref 50), (1, .int a1)] dX5_load_5 (Nat.le_of_ble_eq_true rfl) rfl ?_
    refine r_aload_n C 0 dX5_load_6 rfl ?_
    refine r_cut (if_pos (by decide)) ?_
    refine r_ifnonnull_t C 17 dX5_load_7 (by decide) ?_
    refine r_aload_n C 0 dX5_load_17 rfl ?_
    refine r_callV C (o_X2_isMissing l (X (6 + 3))) v_X2_isMissing m_577 [38, 39] [] [] (88) (Or.inl ⟨38, 1, _, TX2, 3, rfl, rfl, rfl⟩) (fun u8 => [.int u8]) (fun u8 => w_X5 X) rfl rfl rfl rfl rfl (Nat.le_of_ble_eq_true rfl) ⟨(Nat.le_of_ble_eq_true rfl), (Nat.le_of_ble_eq_true rfl)⟩ ⟨Nat.zero_le _, Nat.zero_le _⟩ dX5_load_18 (fun _ => rfl) (fun _ => rfl) (fun _ => rfl) (fun u8 => ?_)
    refine r_if_eq C 31 dX5_load_21 (by decide) (fun h21 => ?_) (fun h21 => ?_)
    · refine r_iconst C (0) dX5_load_31 rfl ?_
      refine r_istore_n C [(3, .int (0 : Int32)), (2, .ref 88), (0, .ref 50), (1, .int a1)] dX5_load_32 (Nat.le_of_ble_eq_true rfl) rfl ?_
      refine r_lv [(0, .ref 50), (2, .ref 88), (3, .int (0 : Int32))] [2, 1, 0] rfl ?_
      exact k_X5_load_33_u3 C X a1   q_N (0 : Int32) X
    · refine r_aload_n C 1 dX5_load_24 rfl ?_
      refine r_ldc C (-1000006) dX5_load_25 m_581 ?_
      refine r_callV0 C (o_X5_finding l X (-1000006 : Int32)) v_X5_finding m_207 [.int (-1000006 : Int32)] [] (50) (Or.inl ⟨0, 4, _, TX5, 8, rfl, rfl, rfl⟩) (fun u9 => [.int u9.1]) (fun u9 => w_X5 u9.2) rfl rfl rfl (Nat.le_of_ble_eq_true rfl) ⟨(Nat.le_of_ble_eq_true rfl), (Nat.le_of_ble_eq_true rfl)⟩ ⟨Nat.zero_le _, Nat.zero_le _⟩ dX5_load_27 (fun _ => rfl) (fun _ => rfl) (fun _ => rfl) (fun u9 => ?_)
      exact r_reti (x := u9.1) (rv := (fun u => some (.int u.1))) (hpE := (fun u => w_X5 u.2)) (t0 := (u9.1, u9.2)) C dX5_load_30 (by rfl) (by rfl) (by rfl)
  · refine r_astore_nN C [(2, .null), (0, .ref 50), (1, .int a1)] dX5_load_5 (Nat.le_of_ble_eq_true rfl) rfl ?_
    refine r_aload_nN C 0 dX5_load_6 rfl ?_
    refine r_cut (if_neg (by omega)) ?_
    refine r_ifnonnull_f C dX5_load_7 ?_
    refine r_aload_n C 1 dX5_load_10 rfl ?_
    refine r_ldc C (-1000001) dX5_load_11 m_206 ?_
    refine r_callV0 C (o_X5_finding l X (-1000001 : Int32)) v_X5_finding m_207 [.int (-1000001 : Int32)] [] (50) (Or.inl ⟨0, 4, _, TX5, 8, rfl, rfl, rfl⟩) (fun u10 => [.int u10.1]) (fun u10 => w_X5 u10.2) rfl rfl rfl (Nat.le_of_ble_eq_true rfl) ⟨(Nat.le_of_ble_eq_true rfl), (Nat.le_of_ble_eq_true rfl)⟩ ⟨Nat.zero_le _, Nat.zero_le _⟩ dX5_load_13 (fun _ => rfl) (fun _ => rfl) (fun _ => rfl) (fun u10 => ?_)
    exact r_reti (x := u10.1) (rv := (fun u => some (.int u.1))) (hpE := (fun u => w_X5 u.2)) (t0 := (u10.1, u10.2)) C dX5_load_16 (by rfl) (by rfl) (by rfl)
set_option maxRecDepth 100000 in
set_option maxHeartbeats 4000000 in
theorem k_X5_judge_56_u0 {p : Program} {l : Launch} {e : Env} {s : State} {m : MethodId} {args : Array Value} {below : List Frame} {meth : Method} {c : Code} {dC : Nat → ClassId} {dI : Nat → Nat → Nat} {dA : Nat → ClassId} {A : Nat → Prop} {α : Nat → Nat} {t : Int32 × (Nat → q_St)} (C : q_Cx p s m args meth c cX5_judge 5 RX5 (some .int) "judge" dC dI dA A α) (X : (Nat → q_St)) (a1 : Int32) (r33 : Int32 → (Nat → q_St) → Option (Int32 × (Nat → q_St)))
    (hr33 : ∀ (x3 : Int32) (X' : (Nat → q_St)), q_S p l e (q_rm 4 91) s m args below meth c 5 dC dI dA A α (MQ below (q_Q α dC dI dA A ((fun u => some (.int u.1)) t) ((fun u => w_X5 u.2) t)) args s 0 0 A) 0 0 (r33 x3 X') t 33 [(0, .ref 50), (2, .ref 82), (3, .int x3)] [] (w_X5 X')) : ∀ (x3 : Int32) (s0 : Int32) (X' : (Nat → q_St)), q_S p l e (q_rm 4 91) s m args below meth c 5 dC dI dA A α (MQ below (q_Q α dC dI dA A ((fun u => some (.int u.1)) t) ((fun u => w_X5 u.2) t)) args s 0 0 A) 0 0 (f_X5_judge_56 X a1 0 r33 x3 s0 X') t 56 [(0, .ref 50), (2, .ref 82), (3, .int x3)] [.int s0] (w_X5 X') := by
  intro x3 s0 X'
  refine r_cut (f_X5_judge_56.eq_1 _ _ _ _ _ _ _) ?_
  refine r_istore C [(4, .int s0), (0, .ref 50), (2, .ref 82), (3, .int x3)] dX5_judge_56 (Nat.le_of_ble_eq_true rfl) rfl ?_
  refine r_iload C 0 dX5_judge_58 rfl ?_
  refine r_if_ne C 101 dX5_judge_60 (by decide) (fun h60 => ?_) (fun h60 => ?_)
  · refine r_aload_n C 1 dX5_judge_63 rfl ?_
    refine r_get C 0 0 dX5_judge_64 K_X5 rfl rfl (Nat.le_of_ble_eq_true rfl) rfl m_174 rfl ?_
    refine r_iload_n C 3 dX5_judge_67 rfl ?_
    refine r_iconst C (2) dX5_judge_68 rfl ?_
    refine r_idiv C dX5_judge_69 (by decide) ?_
    refine r_callV C (o_X0_isBeat l (X' 1) (x3 / (2 : Int32))) v_X0_isBeat m_305 [1, 2, 3, 4, 5, 6, 7] [.int (x3 / (2 : Int32))] [] (51) (Or.inl ⟨1, 0, _, TX0, 16, rfl, rfl, rfl⟩) (fun u15 => [.int u15]) (fun u15 => w_X5 X') rfl rfl rfl rfl rfl (Nat.le_of_ble_eq_true rfl) ⟨(Nat.le_of_ble_eq_true rfl), (Nat.le_of_ble_eq_true rfl)⟩ ⟨Nat.zero_le _, Nat.zero_le _⟩ dX5_judge_70 (fun _ => rfl) (fun _ => rfl) (fun _ => rfl) (fun u15 => ?_)
    refine r_if_eq C 101 dX5_judge_73 (by decide) (fun h73 => ?_) (fun h73 => ?_)
    · refine r_iconst C (1) dX5_judge_101 rfl ?_
      refine r_iload_n C 3 dX5_judge_102 rfl ?_
      refine r_iadd C dX5_judge_103 ?_
      exact r_reti (x := ((1 : Int32) + x3)) (rv := (fun u => some (.int u.1))) (hpE := (fun u => w_X5 u.2)) (t0 := (((1 : Int32) + x3), X')) C dX5_judge_104 (by rfl) (by rfl) (by rfl)
    · refine r_aload_n C 1 dX5_judge_76 rfl ?_
      refine r_get C 0 0 dX5_judge_77 K_X5 rfl rfl (Nat.le_of_ble_eq_true rfl) rfl m_174 rfl ?_
      refine r_iload_n C 3 dX5_judge_80 rfl ?_
      refine r_iconst C (2) dX5_judge_81 rfl ?_
      refine r_idiv C dX5_judge_82 (by decide) ?_
      refine r_aload_n C 2 dX5_judge_83 rfl ?_
      refine r_iload_n C 3 dX5_judge_84 rfl ?_
      refine r_callV C (o_X2_number l (X' (6 + 0)) x3) v_X2_number m_594 [32, 33] [.int x3] [.int (x3 / (2 : Int32)), .ref 51] (82) (Or.inl ⟨32, 1, _, TX2, 3, rfl, rfl, rfl⟩) (fun u16 => [.int u16, .int (x3 / (2 : Int32)), .ref 51]) (fun u16 => w_X5 X') rfl rfl rfl rfl rfl (Nat.le_of_ble_eq_true rfl) ⟨(Nat.le_of_ble_eq_true rfl), (Nat.le_of_ble_eq_true rfl)⟩ ⟨Nat.zero_le _, Nat.zero_le _⟩ dX5_judge_85 (fun _ => rfl) (fun _ => rfl) (fun _ => rfl) (fun u16 => ?_)
      refine r_aload_n C 2 dX5_judge_88 rfl ?_
      refine r_iload_n C 3 dX5_judge_89 rfl ?_
      refine r_iconst C (1) dX5_judge_90 rfl ?_
      refine r_iadd C dX5_judge_91 ?_
      refine r_callV C (o_X2_number l (X' (6 + 0)) (x3 + (1 : Int32))) v_X2_number m_594 [32, 33] [.int (x3 + (1 : Int32))] [.int u16, .int (x3 / (2 : Int32)), .ref 51] (82) (Or.inl ⟨32, 1, _, TX2, 3, rfl, rfl, rfl⟩) (fun u17 => [.int u17, .int u16, .int (x3 / (2 : Int32)), .ref 51]) (fun u17 => w_X5 X') rfl rfl rfl rfl rfl (Nat.le_of_ble_eq_true rfl) ⟨(Nat.le_of_ble_eq_true rfl), (Nat.le_of_ble_eq_true rfl)⟩ ⟨Nat.zero_le _, Nat.zero_le _⟩ dX5_judge_92 (fun _ => rfl) (fun _ => rfl) (fun _ => rfl) (fun u17 => ?_)
      refine r_callV C (o_X0_isSuited l (X' 1) (x3 / (2 : Int32)) u16 u17) v_X0_isSuited m_407 [1, 2, 3, 4, 5, 6, 7] [.int (x3 / (2 : Int32)), .int u16, .int u17] [] (51) (Or.inl ⟨1, 0, _, TX0, 16, rfl, rfl, rfl⟩) (fun u18 => [.int u18]) (fun u18 => w_X5 X') rfl rfl rfl rfl rfl (Nat.le_of_ble_eq_true rfl) ⟨(Nat.le_of_ble_eq_true rfl), (Nat.le_of_ble_eq_true rfl)⟩ ⟨Nat.zero_le _, Nat.zero_le _⟩ dX5_judge_95 (fun _ => rfl) (fun _ => rfl) (fun _ => rfl) (fun u18 => ?_)
      refine r_if_ne C 105 dX5_judge_98 (by decide) (fun h98 => ?_) (fun h98 => ?_)
      · refine r_iconst C (1) dX5_judge_101 rfl ?_
        refine r_iload_n C 3 dX5_judge_102 rfl ?_
        refine r_iadd C dX5_judge_103 ?_
        exact r_reti (x := ((1 : Int32) + x3)) (rv := (fun u => some (.int u.1))) (hpE := (fun u => w_X5 u.2)) (t0 := (((1 : Int32) + x3), X')) C dX5_judge_104 (by rfl) (by rfl) (by rfl)
      · refine r_iinc C 3 (x3 + 2) [(3, .int (x3 + 2)), (4, .int s0), (0, .ref 50), (2, .ref 82)] dX5_judge_105 rfl rfl (Nat.le_of_ble_eq_true rfl) rfl ?_
        refine r_goto C 33 dX5_judge_108 (by decide) ?_
        refine r_lv [(0, .ref 50), (2, .ref 82), (3, .int (x3 + 2))] [2, 3, 0] rfl ?_
        exact hr33 (x3 + 2) X'
  · refine r_iconst C (1) dX5_judge_101 rfl ?_
    refine r_iload_n C 3 dX5_judge_102 rfl ?_
    refine r_iadd C dX5_judge_103 ?_
    exact r_reti (x := ((1 : Int32) + x3)) (rv := (fun u => some (.int u.1))) (hpE := (fun u => w_X5 u.2)) (t0 := (((1 : Int32) + x3), X')) C dX5_judge_104 (by rfl) (by rfl) (by rfl)
set_option maxRecDepth 100000 in
set_option maxHeartbeats 4000000 in
theorem k_X5_judge_33_u0 {p : Program} {l : Launch} {e : Env} {s : State} {m : MethodId} {args : Array Value} {below : List Frame} {meth : Method} {c : Code} {dC : Nat → ClassId} {dI : Nat → Nat → Nat} {dA : Nat → ClassId} {A : Nat → Prop} {α : Nat → Nat} {t : Int32 × (Nat → q_St)} (C : q_Cx p s m args meth c cX5_judge 5 RX5 (some .int) "judge" dC dI dA A α) (X : (Nat → q_St)) (a1 : Int32)  : ∀ (n : Nat) (x3 : Int32) (X' : (Nat → q_St)), q_S p l e (q_rm 4 91) s m args below meth c 5 dC dI dA A α (MQ below (q_Q α dC dI dA A ((fun u => some (.int u.1)) t) ((fun u => w_X5 u.2) t)) args s 0 0 A) 0 0 (f_X5_judge_33 X a1 0  n x3 X') t 33 [(0, .ref 50), (2, .ref 82), (3, .int x3)] [] (w_X5 X') := by
  intro n
  induction n with
  | zero =>
    intro x3 X'
    exact r_cut (f_X5_judge_33.eq_1 _ _ _ _ _) (r_none True.intro)
  | succ n ih =>
    intro x3 X'
    refine r_cut (f_X5_judge_33.eq_2 _ _ _ _ _ _) ?_
    refine r_iload_n C 2 dX5_judge_33 rfl ?_
    refine r_aload_n C 1 dX5_judge_34 rfl ?_
    refine r_get C 32 1 dX5_judge_35 K_X2 rfl rfl (Nat.le_of_ble_eq_true rfl) rfl m_164 rfl ?_
    refine r_icmp_ge C 111 dX5_judge_38 (by decide) (fun h38 => ?_) (fun h38 => ?_)
    · refine r_iconst C (0) dX5_judge_111 rfl ?_
      exact r_reti (x := (0 : Int32)) (rv := (fun u => some (.int u.1))) (hpE := (fun u => w_X5 u.2)) (t0 := ((0 : Int32), X')) C dX5_judge_112 (by rfl) (by rfl) (by rfl)
    · refine r_aload_n C 1 dX5_judge_41 rfl ?_
      refine r_iload_n C 2 dX5_judge_42 rfl ?_
      refine r_iconst C (1) dX5_judge_43 rfl ?_
      refine r_iadd C dX5_judge_44 ?_
      refine r_callV C (o_X2_isPlace l (X' (6 + 0)) (x3 + (1 : Int32))) v_X2_isPlace m_590 [32, 33] [.int (x3 + (1 : Int32))] [] (82) (Or.inl ⟨32, 1, _, TX2, 3, rfl, rfl, rfl⟩) (fun u11 => [.int u11]) (fun u11 => w_X5 X') rfl rfl rfl rfl rfl (Nat.le_of_ble_eq_true rfl) ⟨(Nat.le_of_ble_eq_true rfl), (Nat.le_of_ble_eq_true rfl)⟩ ⟨Nat.zero_le _, Nat.zero_le _⟩ dX5_judge_45 (fun _ => rfl) (fun _ => rfl) (fun _ => rfl) (fun u11 => ?_)
      refine r_if_ne C 55 dX5_judge_48 (by decide) (fun h48 => ?_) (fun h48 => ?_)
      · refine r_iconst C (1) dX5_judge_51 rfl ?_
        refine r_goto C 56 dX5_judge_52 (by decide) ?_
        exact k_X5_judge_56_u0 C X a1 (fun x3 X' => f_X5_judge_33 X a1 0  n x3 X') ih x3 (1 : Int32) X'
      · refine r_iconst C (0) dX5_judge_55 rfl ?_
        exact k_X5_judge_56_u0 C X a1 (fun x3 X' => f_X5_judge_33 X a1 0  n x3 X') ih x3 (0 : Int32) X'
set_option maxRecDepth 100000 in
set_option maxHeartbeats 4000000 in
theorem k_X5_judge_56_u1 {p : Program} {l : Launch} {e : Env} {s : State} {m : MethodId} {args : Array Value} {below : List Frame} {meth : Method} {c : Code} {dC : Nat → ClassId} {dI : Nat → Nat → Nat} {dA : Nat → ClassId} {A : Nat → Prop} {α : Nat → Nat} {t : Int32 × (Nat → q_St)} (C : q_Cx p s m args meth c cX5_judge 5 RX5 (some .int) "judge" dC dI dA A α) (X : (Nat → q_St)) (a1 : Int32) (r33 : Int32 → (Nat → q_St) → Option (Int32 × (Nat → q_St)))
    (hr33 : ∀ (x3 : Int32) (X' : (Nat → q_St)), q_S p l e (q_rm 4 91) s m args below meth c 5 dC dI dA A α (MQ below (q_Q α dC dI dA A ((fun u => some (.int u.1)) t) ((fun u => w_X5 u.2) t)) args s 0 0 A) 0 0 (r33 x3 X') t 33 [(0, .ref 50), (2, .ref 84), (3, .int x3)] [] (w_X5 X')) : ∀ (x3 : Int32) (s0 : Int32) (X' : (Nat → q_St)), q_S p l e (q_rm 4 91) s m args below meth c 5 dC dI dA A α (MQ below (q_Q α dC dI dA A ((fun u => some (.int u.1)) t) ((fun u => w_X5 u.2) t)) args s 0 0 A) 0 0 (f_X5_judge_56 X a1 1 r33 x3 s0 X') t 56 [(0, .ref 50), (2, .ref 84), (3, .int x3)] [.int s0] (w_X5 X') := by
  intro x3 s0 X'
  refine r_cut (f_X5_judge_56.eq_1 _ _ _ _ _ _ _) ?_
  refine r_istore C [(4, .int s0), (0, .ref 50), (2, .ref 84), (3, .int x3)] dX5_judge_56 (Nat.le_of_ble_eq_true rfl) rfl ?_
  refine r_iload C 0 dX5_judge_58 rfl ?_
  refine r_if_ne C 101 dX5_judge_60 (by decide) (fun h60 => ?_) (fun h60 => ?_)
  · refine r_aload_n C 1 dX5_judge_63 rfl ?_
    refine r_get C 0 0 dX5_judge_64 K_X5 rfl rfl (Nat.le_of_ble_eq_true rfl) rfl m_174 rfl ?_
    refine r_iload_n C 3 dX5_judge_67 rfl ?_
    refine r_iconst C (2) dX5_judge_68 rfl ?_
    refine r_idiv C dX5_judge_69 (by decide) ?_
    refine r_callV C (o_X0_isBeat l (X' 1) (x3 / (2 : Int32))) v_X0_isBeat m_305 [1, 2, 3, 4, 5, 6, 7] [.int (x3 / (2 : Int32))] [] (51) (Or.inl ⟨1, 0, _, TX0, 16, rfl, rfl, rfl⟩) (fun u19 => [.int u19]) (fun u19 => w_X5 X') rfl rfl rfl rfl rfl (Nat.le_of_ble_eq_true rfl) ⟨(Nat.le_of_ble_eq_true rfl), (Nat.le_of_ble_eq_true rfl)⟩ ⟨Nat.zero_le _, Nat.zero_le _⟩ dX5_judge_70 (fun _ => rfl) (fun _ => rfl) (fun _ => rfl) (fun u19 => ?_)
    refine r_if_eq C 101 dX5_judge_73 (by decide) (fun h73 => ?_) (fun h73 => ?_)
    · refine r_iconst C (1) dX5_judge_101 rfl ?_
      refine r_iload_n C 3 dX5_judge_102 rfl ?_
      refine r_iadd C dX5_judge_103 ?_
      exact r_reti (x := ((1 : Int32) + x3)) (rv := (fun u => some (.int u.1))) (hpE := (fun u => w_X5 u.2)) (t0 := (((1 : Int32) + x3), X')) C dX5_judge_104 (by rfl) (by rfl) (by rfl)
    · refine r_aload_n C 1 dX5_judge_76 rfl ?_
      refine r_get C 0 0 dX5_judge_77 K_X5 rfl rfl (Nat.le_of_ble_eq_true rfl) rfl m_174 rfl ?_
      refine r_iload_n C 3 dX5_judge_80 rfl ?_
      refine r_iconst C (2) dX5_judge_81 rfl ?_
      refine r_idiv C dX5_judge_82 (by decide) ?_
      refine r_aload_n C 2 dX5_judge_83 rfl ?_
      refine r_iload_n C 3 dX5_judge_84 rfl ?_
      refine r_callV C (o_X2_number l (X' (6 + 1)) x3) v_X2_number m_594 [34, 35] [.int x3] [.int (x3 / (2 : Int32)), .ref 51] (84) (Or.inl ⟨34, 1, _, TX2, 3, rfl, rfl, rfl⟩) (fun u20 => [.int u20, .int (x3 / (2 : Int32)), .ref 51]) (fun u20 => w_X5 X') rfl rfl rfl rfl rfl (Nat.le_of_ble_eq_true rfl) ⟨(Nat.le_of_ble_eq_true rfl), (Nat.le_of_ble_eq_true rfl)⟩ ⟨Nat.zero_le _, Nat.zero_le _⟩ dX5_judge_85 (fun _ => rfl) (fun _ => rfl) (fun _ => rfl) (fun u20 => ?_)
      refine r_aload_n C 2 dX5_judge_88 rfl ?_
      refine r_iload_n C 3 dX5_judge_89 rfl ?_
      refine r_iconst C (1) dX5_judge_90 rfl ?_
      refine r_iadd C dX5_judge_91 ?_
      refine r_callV C (o_X2_number l (X' (6 + 1)) (x3 + (1 : Int32))) v_X2_number m_594 [34, 35] [.int (x3 + (1 : Int32))] [.int u20, .int (x3 / (2 : Int32)), .ref 51] (84) (Or.inl ⟨34, 1, _, TX2, 3, rfl, rfl, rfl⟩) (fun u21 => [.int u21, .int u20, .int (x3 / (2 : Int32)), .ref 51]) (fun u21 => w_X5 X') rfl rfl rfl rfl rfl (Nat.le_of_ble_eq_true rfl) ⟨(Nat.le_of_ble_eq_true rfl), (Nat.le_of_ble_eq_true rfl)⟩ ⟨Nat.zero_le _, Nat.zero_le _⟩ dX5_judge_92 (fun _ => rfl) (fun _ => rfl) (fun _ => rfl) (fun u21 => ?_)
      refine r_callV C (o_X0_isSuited l (X' 1) (x3 / (2 : Int32)) u20 u21) v_X0_isSuited m_407 [1, 2, 3, 4, 5, 6, 7] [.int (x3 / (2 : Int32)), .int u20, .int u21] [] (51) (Or.inl ⟨1, 0, _, TX0, 16, rfl, rfl, rfl⟩) (fun u22 => [.int u22]) (fun u22 => w_X5 X') rfl rfl rfl rfl rfl (Nat.le_of_ble_eq_true rfl) ⟨(Nat.le_of_ble_eq_true rfl), (Nat.le_of_ble_eq_true rfl)⟩ ⟨Nat.zero_le _, Nat.zero_le _⟩ dX5_judge_95 (fun _ => rfl) (fun _ => rfl) (fun _ => rfl) (fun u22 => ?_)
      refine r_if_ne C 105 dX5_judge_98 (by decide) (fun h98 => ?_) (fun h98 => ?_)
      · refine r_iconst C (1) dX5_judge_101 rfl ?_
        refine r_iload_n C 3 dX5_judge_102 rfl ?_
        refine r_iadd C dX5_judge_103 ?_
        exact r_reti (x := ((1 : Int32) + x3)) (rv := (fun u => some (.int u.1))) (hpE := (fun u => w_X5 u.2)) (t0 := (((1 : Int32) + x3), X')) C dX5_judge_104 (by rfl) (by rfl) (by rfl)
      · refine r_iinc C 3 (x3 + 2) [(3, .int (x3 + 2)), (4, .int s0), (0, .ref 50), (2, .ref 84)] dX5_judge_105 rfl rfl (Nat.le_of_ble_eq_true rfl) rfl ?_
        refine r_goto C 33 dX5_judge_108 (by decide) ?_
        refine r_lv [(0, .ref 50), (2, .ref 84), (3, .int (x3 + 2))] [2, 3, 0] rfl ?_
        exact hr33 (x3 + 2) X'
  · refine r_iconst C (1) dX5_judge_101 rfl ?_
    refine r_iload_n C 3 dX5_judge_102 rfl ?_
    refine r_iadd C dX5_judge_103 ?_
    exact r_reti (x := ((1 : Int32) + x3)) (rv := (fun u => some (.int u.1))) (hpE := (fun u => w_X5 u.2)) (t0 := (((1 : Int32) + x3), X')) C dX5_judge_104 (by rfl) (by rfl) (by rfl)
set_option maxRecDepth 100000 in
set_option maxHeartbeats 4000000 in
theorem k_X5_judge_33_u1 {p : Program} {l : Launch} {e : Env} {s : State} {m : MethodId} {args : Array Value} {below : List Frame} {meth : Method} {c : Code} {dC : Nat → ClassId} {dI : Nat → Nat → Nat} {dA : Nat → ClassId} {A : Nat → Prop} {α : Nat → Nat} {t : Int32 × (Nat → q_St)} (C : q_Cx p s m args meth c cX5_judge 5 RX5 (some .int) "judge" dC dI dA A α) (X : (Nat → q_St)) (a1 : Int32)  : ∀ (n : Nat) (x3 : Int32) (X' : (Nat → q_St)), q_S p l e (q_rm 4 91) s m args below meth c 5 dC dI dA A α (MQ below (q_Q α dC dI dA A ((fun u => some (.int u.1)) t) ((fun u => w_X5 u.2) t)) args s 0 0 A) 0 0 (f_X5_judge_33 X a1 1  n x3 X') t 33 [(0, .ref 50), (2, .ref 84), (3, .int x3)] [] (w_X5 X') := by
  intro n
  induction n with
  | zero =>
    intro x3 X'
    exact r_cut (f_X5_judge_33.eq_1 _ _ _ _ _) (r_none True.intro)
  | succ n ih =>
    intro x3 X'
    refine r_cut (f_X5_judge_33.eq_2 _ _ _ _ _ _) ?_
    refine r_iload_n C 2 dX5_judge_33 rfl ?_
    refine r_aload_n C 1 dX5_judge_34 rfl ?_
    refine r_get C 34 1 dX5_judge_35 K_X2 rfl rfl (Nat.le_of_ble_eq_true rfl) rfl m_164 rfl ?_
    refine r_icmp_ge C 111 dX5_judge_38 (by decide) (fun h38 => ?_) (fun h38 => ?_)
    · refine r_iconst C (0) dX5_judge_111 rfl ?_
      exact r_reti (x := (0 : Int32)) (rv := (fun u => some (.int u.1))) (hpE := (fun u => w_X5 u.2)) (t0 := ((0 : Int32), X')) C dX5_judge_112 (by rfl) (by rfl) (by rfl)
    · refine r_aload_n C 1 dX5_judge_41 rfl ?_
      refine r_iload_n C 2 dX5_judge_42 rfl ?_
      refine r_iconst C (1) dX5_judge_43 rfl ?_
      refine r_iadd C dX5_judge_44 ?_
      refine r_callV C (o_X2_isPlace l (X' (6 + 1)) (x3 + (1 : Int32))) v_X2_isPlace m_590 [34, 35] [.int (x3 + (1 : Int32))] [] (84) (Or.inl ⟨34, 1, _, TX2, 3, rfl, rfl, rfl⟩) (fun u12 => [.int u12]) (fun u12 => w_X5 X') rfl rfl rfl rfl rfl (Nat.le_of_ble_eq_true rfl) ⟨(Nat.le_of_ble_eq_true rfl), (Nat.le_of_ble_eq_true rfl)⟩ ⟨Nat.zero_le _, Nat.zero_le _⟩ dX5_judge_45 (fun _ => rfl) (fun _ => rfl) (fun _ => rfl) (fun u12 => ?_)
      refine r_if_ne C 55 dX5_judge_48 (by decide) (fun h48 => ?_) (fun h48 => ?_)
      · refine r_iconst C (1) dX5_judge_51 rfl ?_
        refine r_goto C 56 dX5_judge_52 (by decide) ?_
        exact k_X5_judge_56_u1 C X a1 (fun x3 X' => f_X5_judge_33 X a1 1  n x3 X') ih x3 (1 : Int32) X'
      · refine r_iconst C (0) dX5_judge_55 rfl ?_
        exact k_X5_judge_56_u1 C X a1 (fun x3 X' => f_X5_judge_33 X a1 1  n x3 X') ih x3 (0 : Int32) X'
set_option maxRecDepth 100000 in
set_option maxHeartbeats 4000000 in
theorem k_X5_judge_56_u2 {p : Program} {l : Launch} {e : Env} {s : State} {m : MethodId} {args : Array Value} {below : List Frame} {meth : Method} {c : Code} {dC : Nat → ClassId} {dI : Nat → Nat → Nat} {dA : Nat → ClassId} {A : Nat → Prop} {α : Nat → Nat} {t : Int32 × (Nat → q_St)} (C : q_Cx p s m args meth c cX5_judge 5 RX5 (some .int) "judge" dC dI dA A α) (X : (Nat → q_St)) (a1 : Int32) (r33 : Int32 → (Nat → q_St) → Option (Int32 × (Nat → q_St)))
    (hr33 : ∀ (x3 : Int32) (X' : (Nat → q_St)), q_S p l e (q_rm 4 91) s m args below meth c 5 dC dI dA A α (MQ below (q_Q α dC dI dA A ((fun u => some (.int u.1)) t) ((fun u => w_X5 u.2) t)) args s 0 0 A) 0 0 (r33 x3 X') t 33 [(0, .ref 50), (2, .ref 86), (3, .int x3)] [] (w_X5 X')) : ∀ (x3 : Int32) (s0 : Int32) (X' : (Nat → q_St)), q_S p l e (q_rm 4 91) s m args below meth c 5 dC dI dA A α (MQ below (q_Q α dC dI dA A ((fun u => some (.int u.1)) t) ((fun u => w_X5 u.2) t)) args s 0 0 A) 0 0 (f_X5_judge_56 X a1 2 r33 x3 s0 X') t 56 [(0, .ref 50), (2, .ref 86), (3, .int x3)] [.int s0] (w_X5 X') := by
  intro x3 s0 X'
  refine r_cut (f_X5_judge_56.eq_1 _ _ _ _ _ _ _) ?_
  refine r_istore C [(4, .int s0), (0, .ref 50), (2, .ref 86), (3, .int x3)] dX5_judge_56 (Nat.le_of_ble_eq_true rfl) rfl ?_
  refine r_iload C 0 dX5_judge_58 rfl ?_
  refine r_if_ne C 101 dX5_judge_60 (by decide) (fun h60 => ?_) (fun h60 => ?_)
  · refine r_aload_n C 1 dX5_judge_63 rfl ?_
    refine r_get C 0 0 dX5_judge_64 K_X5 rfl rfl (Nat.le_of_ble_eq_true rfl) rfl m_174 rfl ?_
    refine r_iload_n C 3 dX5_judge_67 rfl ?_
    refine r_iconst C (2) dX5_judge_68 rfl ?_
    refine r_idiv C dX5_judge_69 (by decide) ?_
    refine r_callV C (o_X0_isBeat l (X' 1) (x3 / (2 : Int32))) v_X0_isBeat m_305 [1, 2, 3, 4, 5, 6, 7] [.int (x3 / (2 : Int32))] [] (51) (Or.inl ⟨1, 0, _, TX0, 16, rfl, rfl, rfl⟩) (fun u23 => [.int u23]) (fun u23 => w_X5 X') rfl rfl rfl rfl rfl (Nat.le_of_ble_eq_true rfl) ⟨(Nat.le_of_ble_eq_true rfl), (Nat.le_of_ble_eq_true rfl)⟩ ⟨Nat.zero_le _, Nat.zero_le _⟩ dX5_judge_70 (fun _ => rfl) (fun _ => rfl) (fun _ => rfl) (fun u23 => ?_)
    refine r_if_eq C 101 dX5_judge_73 (by decide) (fun h73 => ?_) (fun h73 => ?_)
    · refine r_iconst C (1) dX5_judge_101 rfl ?_
      refine r_iload_n C 3 dX5_judge_102 rfl ?_
      refine r_iadd C dX5_judge_103 ?_
      exact r_reti (x := ((1 : Int32) + x3)) (rv := (fun u => some (.int u.1))) (hpE := (fun u => w_X5 u.2)) (t0 := (((1 : Int32) + x3), X')) C dX5_judge_104 (by rfl) (by rfl) (by rfl)
    · refine r_aload_n C 1 dX5_judge_76 rfl ?_
      refine r_get C 0 0 dX5_judge_77 K_X5 rfl rfl (Nat.le_of_ble_eq_true rfl) rfl m_174 rfl ?_
      refine r_iload_n C 3 dX5_judge_80 rfl ?_
      refine r_iconst C (2) dX5_judge_81 rfl ?_
      refine r_idiv C dX5_judge_82 (by decide) ?_
      refine r_aload_n C 2 dX5_judge_83 rfl ?_
      refine r_iload_n C 3 dX5_judge_84 rfl ?_
      refine r_callV C (o_X2_number l (X' (6 + 2)) x3) v_X2_number m_594 [36, 37] [.int x3] [.int (x3 / (2 : Int32)), .ref 51] (86) (Or.inl ⟨36, 1, _, TX2, 3, rfl, rfl, rfl⟩) (fun u24 => [.int u24, .int (x3 / (2 : Int32)), .ref 51]) (fun u24 => w_X5 X') rfl rfl rfl rfl rfl (Nat.le_of_ble_eq_true rfl) ⟨(Nat.le_of_ble_eq_true rfl), (Nat.le_of_ble_eq_true rfl)⟩ ⟨Nat.zero_le _, Nat.zero_le _⟩ dX5_judge_85 (fun _ => rfl) (fun _ => rfl) (fun _ => rfl) (fun u24 => ?_)
      refine r_aload_n C 2 dX5_judge_88 rfl ?_
      refine r_iload_n C 3 dX5_judge_89 rfl ?_
      refine r_iconst C (1) dX5_judge_90 rfl ?_
      refine r_iadd C dX5_judge_91 ?_
      refine r_callV C (o_X2_number l (X' (6 + 2)) (x3 + (1 : Int32))) v_X2_number m_594 [36, 37] [.int (x3 + (1 : Int32))] [.int u24, .int (x3 / (2 : Int32)), .ref 51] (86) (Or.inl ⟨36, 1, _, TX2, 3, rfl, rfl, rfl⟩) (fun u25 => [.int u25, .int u24, .int (x3 / (2 : Int32)), .ref 51]) (fun u25 => w_X5 X') rfl rfl rfl rfl rfl (Nat.le_of_ble_eq_true rfl) ⟨(Nat.le_of_ble_eq_true rfl), (Nat.le_of_ble_eq_true rfl)⟩ ⟨Nat.zero_le _, Nat.zero_le _⟩ dX5_judge_92 (fun _ => rfl) (fun _ => rfl) (fun _ => rfl) (fun u25 => ?_)
      refine r_callV C (o_X0_isSuited l (X' 1) (x3 / (2 : Int32)) u24 u25) v_X0_isSuited m_407 [1, 2, 3, 4, 5, 6, 7] [.int (x3 / (2 : Int32)), .int u24, .int u25] [] (51) (Or.inl ⟨1, 0, _, TX0, 16, rfl, rfl, rfl⟩) (fun u26 => [.int u26]) (fun u26 => w_X5 X') rfl rfl rfl rfl rfl (Nat.le_of_ble_eq_true rfl) ⟨(Nat.le_of_ble_eq_true rfl), (Nat.le_of_ble_eq_true rfl)⟩ ⟨Nat.zero_le _, Nat.zero_le _⟩ dX5_judge_95 (fun _ => rfl) (fun _ => rfl) (fun _ => rfl) (fun u26 => ?_)
      refine r_if_ne C 105 dX5_judge_98 (by decide) (fun h98 => ?_) (fun h98 => ?_)
      · refine r_iconst C (1) dX5_judge_101 rfl ?_
        refine r_iload_n C 3 dX5_judge_102 rfl ?_
        refine r_iadd C dX5_judge_103 ?_
        exact r_reti (x := ((1 : Int32) + x3)) (rv := (fun u => some (.int u.1))) (hpE := (fun u => w_X5 u.2)) (t0 := (((1 : Int32) + x3), X')) C dX5_judge_104 (by rfl) (by rfl) (by rfl)
      · refine r_iinc C 3 (x3 + 2) [(3, .int (x3 + 2)), (4, .int s0), (0, .ref 50), (2, .ref 86)] dX5_judge_105 rfl rfl (Nat.le_of_ble_eq_true rfl) rfl ?_
        refine r_goto C 33 dX5_judge_108 (by decide) ?_
        refine r_lv [(0, .ref 50), (2, .ref 86), (3, .int (x3 + 2))] [2, 3, 0] rfl ?_
        exact hr33 (x3 + 2) X'
  · refine r_iconst C (1) dX5_judge_101 rfl ?_
    refine r_iload_n C 3 dX5_judge_102 rfl ?_
    refine r_iadd C dX5_judge_103 ?_
    exact r_reti (x := ((1 : Int32) + x3)) (rv := (fun u => some (.int u.1))) (hpE := (fun u => w_X5 u.2)) (t0 := (((1 : Int32) + x3), X')) C dX5_judge_104 (by rfl) (by rfl) (by rfl)
set_option maxRecDepth 100000 in
set_option maxHeartbeats 4000000 in
theorem k_X5_judge_33_u2 {p : Program} {l : Launch} {e : Env} {s : State} {m : MethodId} {args : Array Value} {below : List Frame} {meth : Method} {c : Code} {dC : Nat → ClassId} {dI : Nat → Nat → Nat} {dA : Nat → ClassId} {A : Nat → Prop} {α : Nat → Nat} {t : Int32 × (Nat → q_St)} (C : q_Cx p s m args meth c cX5_judge 5 RX5 (some .int) "judge" dC dI dA A α) (X : (Nat → q_St)) (a1 : Int32)  : ∀ (n : Nat) (x3 : Int32) (X' : (Nat → q_St)), q_S p l e (q_rm 4 91) s m args below meth c 5 dC dI dA A α (MQ below (q_Q α dC dI dA A ((fun u => some (.int u.1)) t) ((fun u => w_X5 u.2) t)) args s 0 0 A) 0 0 (f_X5_judge_33 X a1 2  n x3 X') t 33 [(0, .ref 50), (2, .ref 86), (3, .int x3)] [] (w_X5 X') := by
  intro n
  induction n with
  | zero =>
    intro x3 X'
    exact r_cut (f_X5_judge_33.eq_1 _ _ _ _ _) (r_none True.intro)
  | succ n ih =>
    intro x3 X'
    refine r_cut (f_X5_judge_33.eq_2 _ _ _ _ _ _) ?_
    refine r_iload_n C 2 dX5_judge_33 rfl ?_
    refine r_aload_n C 1 dX5_judge_34 rfl ?_
    refine r_get C 36 1 dX5_judge_35 K_X2 rfl rfl (Nat.le_of_ble_eq_true rfl) rfl m_164 rfl ?_
    refine r_icmp_ge C 111 dX5_judge_38 (by decide) (fun h38 => ?_) (fun h38 => ?_)
    · refine r_iconst C (0) dX5_judge_111 rfl ?_
      exact r_reti (x := (0 : Int32)) (rv := (fun u => some (.int u.1))) (hpE := (fun u => w_X5 u.2)) (t0 := ((0 : Int32), X')) C dX5_judge_112 (by rfl) (by rfl) (by rfl)
    · refine r_aload_n C 1 dX5_judge_41 rfl ?_
      refine r_iload_n C 2 dX5_judge_42 rfl ?_
      refine r_iconst C (1) dX5_judge_43 rfl ?_
      refine r_iadd C dX5_judge_44 ?_
      refine r_callV C (o_X2_isPlace l (X' (6 + 2)) (x3 + (1 : Int32))) v_X2_isPlace m_590 [36, 37] [.int (x3 + (1 : Int32))] [] (86) (Or.inl ⟨36, 1, _, TX2, 3, rfl, rfl, rfl⟩) (fun u13 => [.int u13]) (fun u13 => w_X5 X') rfl rfl rfl rfl rfl (Nat.le_of_ble_eq_true rfl) ⟨(Nat.le_of_ble_eq_true rfl), (Nat.le_of_ble_eq_true rfl)⟩ ⟨Nat.zero_le _, Nat.zero_le _⟩ dX5_judge_45 (fun _ => rfl) (fun _ => rfl) (fun _ => rfl) (fun u13 => ?_)
      refine r_if_ne C 55 dX5_judge_48 (by decide) (fun h48 => ?_) (fun h48 => ?_)
      · refine r_iconst C (1) dX5_judge_51 rfl ?_
        refine r_goto C 56 dX5_judge_52 (by decide) ?_
        exact k_X5_judge_56_u2 C X a1 (fun x3 X' => f_X5_judge_33 X a1 2  n x3 X') ih x3 (1 : Int32) X'
      · refine r_iconst C (0) dX5_judge_55 rfl ?_
        exact k_X5_judge_56_u2 C X a1 (fun x3 X' => f_X5_judge_33 X a1 2  n x3 X') ih x3 (0 : Int32) X'
set_option maxRecDepth 100000 in
set_option maxHeartbeats 4000000 in
theorem k_X5_judge_56_u3 {p : Program} {l : Launch} {e : Env} {s : State} {m : MethodId} {args : Array Value} {below : List Frame} {meth : Method} {c : Code} {dC : Nat → ClassId} {dI : Nat → Nat → Nat} {dA : Nat → ClassId} {A : Nat → Prop} {α : Nat → Nat} {t : Int32 × (Nat → q_St)} (C : q_Cx p s m args meth c cX5_judge 5 RX5 (some .int) "judge" dC dI dA A α) (X : (Nat → q_St)) (a1 : Int32) (r33 : Int32 → (Nat → q_St) → Option (Int32 × (Nat → q_St)))
    (hr33 : ∀ (x3 : Int32) (X' : (Nat → q_St)), q_S p l e (q_rm 4 91) s m args below meth c 5 dC dI dA A α (MQ below (q_Q α dC dI dA A ((fun u => some (.int u.1)) t) ((fun u => w_X5 u.2) t)) args s 0 0 A) 0 0 (r33 x3 X') t 33 [(0, .ref 50), (2, .ref 88), (3, .int x3)] [] (w_X5 X')) : ∀ (x3 : Int32) (s0 : Int32) (X' : (Nat → q_St)), q_S p l e (q_rm 4 91) s m args below meth c 5 dC dI dA A α (MQ below (q_Q α dC dI dA A ((fun u => some (.int u.1)) t) ((fun u => w_X5 u.2) t)) args s 0 0 A) 0 0 (f_X5_judge_56 X a1 3 r33 x3 s0 X') t 56 [(0, .ref 50), (2, .ref 88), (3, .int x3)] [.int s0] (w_X5 X') := by
  intro x3 s0 X'
  refine r_cut (f_X5_judge_56.eq_1 _ _ _ _ _ _ _) ?_
  refine r_istore C [(4, .int s0), (0, .ref 50), (2, .ref 88), (3, .int x3)] dX5_judge_56 (Nat.le_of_ble_eq_true rfl) rfl ?_
  refine r_iload C 0 dX5_judge_58 rfl ?_
  refine r_if_ne C 101 dX5_judge_60 (by decide) (fun h60 => ?_) (fun h60 => ?_)
  · refine r_aload_n C 1 dX5_judge_63 rfl ?_
    refine r_get C 0 0 dX5_judge_64 K_X5 rfl rfl (Nat.le_of_ble_eq_true rfl) rfl m_174 rfl ?_
    refine r_iload_n C 3 dX5_judge_67 rfl ?_
    refine r_iconst C (2) dX5_judge_68 rfl ?_
    refine r_idiv C dX5_judge_69 (by decide) ?_
    refine r_callV C (o_X0_isBeat l (X' 1) (x3 / (2 : Int32))) v_X0_isBeat m_305 [1, 2, 3, 4, 5, 6, 7] [.int (x3 / (2 : Int32))] [] (51) (Or.inl ⟨1, 0, _, TX0, 16, rfl, rfl, rfl⟩) (fun u27 => [.int u27]) (fun u27 => w_X5 X') rfl rfl rfl rfl rfl (Nat.le_of_ble_eq_true rfl) ⟨(Nat.le_of_ble_eq_true rfl), (Nat.le_of_ble_eq_true rfl)⟩ ⟨Nat.zero_le _, Nat.zero_le _⟩ dX5_judge_70 (fun _ => rfl) (fun _ => rfl) (fun _ => rfl) (fun u27 => ?_)
    refine r_if_eq C 101 dX5_judge_73 (by decide) (fun h73 => ?_) (fun h73 => ?_)
    · refine r_iconst C (1) dX5_judge_101 rfl ?_
      refine r_iload_n C 3 dX5_judge_102 rfl ?_
      refine r_iadd C dX5_judge_103 ?_
      exact r_reti (x := ((1 : Int32) + x3)) (rv := (fun u => some (.int u.1))) (hpE := (fun u => w_X5 u.2)) (t0 := (((1 : Int32) + x3), X')) C dX5_judge_104 (by rfl) (by rfl) (by rfl)
    · refine r_aload_n C 1 dX5_judge_76 rfl ?_
      refine r_get C 0 0 dX5_judge_77 K_X5 rfl rfl (Nat.le_of_ble_eq_true rfl) rfl m_174 rfl ?_
      refine r_iload_n C 3 dX5_judge_80 rfl ?_
      refine r_iconst C (2) dX5_judge_81 rfl ?_
      refine r_idiv C dX5_judge_82 (by decide) ?_
      refine r_aload_n C 2 dX5_judge_83 rfl ?_
      refine r_iload_n C 3 dX5_judge_84 rfl ?_
      refine r_callV C (o_X2_number l (X' (6 + 3)) x3) v_X2_number m_594 [38, 39] [.int x3] [.int (x3 / (2 : Int32)), .ref 51] (88) (Or.inl ⟨38, 1, _, TX2, 3, rfl, rfl, rfl⟩) (fun u28 => [.int u28, .int (x3 / (2 : Int32)), .ref 51]) (fun u28 => w_X5 X') rfl rfl rfl rfl rfl (Nat.le_of_ble_eq_true rfl) ⟨(Nat.le_of_ble_eq_true rfl), (Nat.le_of_ble_eq_true rfl)⟩ ⟨Nat.zero_le _, Nat.zero_le _⟩ dX5_judge_85 (fun _ => rfl) (fun _ => rfl) (fun _ => rfl) (fun u28 => ?_)
      refine r_aload_n C 2 dX5_judge_88 rfl ?_
      refine r_iload_n C 3 dX5_judge_89 rfl ?_
      refine r_iconst C (1) dX5_judge_90 rfl ?_
      refine r_iadd C dX5_judge_91 ?_
      refine r_callV C (o_X2_number l (X' (6 + 3)) (x3 + (1 : Int32))) v_X2_number m_594 [38, 39] [.int (x3 + (1 : Int32))] [.int u28, .int (x3 / (2 : Int32)), .ref 51] (88) (Or.inl ⟨38, 1, _, TX2, 3, rfl, rfl, rfl⟩) (fun u29 => [.int u29, .int u28, .int (x3 / (2 : Int32)), .ref 51]) (fun u29 => w_X5 X') rfl rfl rfl rfl rfl (Nat.le_of_ble_eq_true rfl) ⟨(Nat.le_of_ble_eq_true rfl), (Nat.le_of_ble_eq_true rfl)⟩ ⟨Nat.zero_le _, Nat.zero_le _⟩ dX5_judge_92 (fun _ => rfl) (fun _ => rfl) (fun _ => rfl) (fun u29 => ?_)
      refine r_callV C (o_X0_isSuited l (X' 1) (x3 / (2 : Int32)) u28 u29) v_X0_isSuited m_407 [1, 2, 3, 4, 5, 6, 7] [.int (x3 / (2 : Int32)), .int u28, .int u29] [] (51) (Or.inl ⟨1, 0, _, TX0, 16, rfl, rfl, rfl⟩) (fun u30 => [.int u30]) (fun u30 => w_X5 X') rfl rfl rfl rfl rfl (Nat.le_of_ble_eq_true rfl) ⟨(Nat.le_of_ble_eq_true rfl), (Nat.le_of_ble_eq_true rfl)⟩ ⟨Nat.zero_le _, Nat.zero_le _⟩ dX5_judge_95 (fun _ => rfl) (fun _ => rfl) (fun _ => rfl) (fun u30 => ?_)
      refine r_if_ne C 105 dX5_judge_98 (by decide) (fun h98 => ?_) (fun h98 => ?_)
      · refine r_iconst C (1) dX5_judge_101 rfl ?_
        refine r_iload_n C 3 dX5_judge_102 rfl ?_
        refine r_iadd C dX5_judge_103 ?_
        exact r_reti (x := ((1 : Int32) + x3)) (rv := (fun u => some (.int u.1))) (hpE := (fun u => w_X5 u.2)) (t0 := (((1 : Int32) + x3), X')) C dX5_judge_104 (by rfl) (by rfl) (by rfl)
      · refine r_iinc C 3 (x3 + 2) [(3, .int (x3 + 2)), (4, .int s0), (0, .ref 50), (2, .ref 88)] dX5_judge_105 rfl rfl (Nat.le_of_ble_eq_true rfl) rfl ?_
        refine r_goto C 33 dX5_judge_108 (by decide) ?_
        refine r_lv [(0, .ref 50), (2, .ref 88), (3, .int (x3 + 2))] [2, 3, 0] rfl ?_
        exact hr33 (x3 + 2) X'
  · refine r_iconst C (1) dX5_judge_101 rfl ?_
    refine r_iload_n C 3 dX5_judge_102 rfl ?_
    refine r_iadd C dX5_judge_103 ?_
    exact r_reti (x := ((1 : Int32) + x3)) (rv := (fun u => some (.int u.1))) (hpE := (fun u => w_X5 u.2)) (t0 := (((1 : Int32) + x3), X')) C dX5_judge_104 (by rfl) (by rfl) (by rfl)
set_option maxRecDepth 100000 in
set_option maxHeartbeats 4000000 in
theorem k_X5_judge_33_u3 {p : Program} {l : Launch} {e : Env} {s : State} {m : MethodId} {args : Array Value} {below : List Frame} {meth : Method} {c : Code} {dC : Nat → ClassId} {dI : Nat → Nat → Nat} {dA : Nat → ClassId} {A : Nat → Prop} {α : Nat → Nat} {t : Int32 × (Nat → q_St)} (C : q_Cx p s m args meth c cX5_judge 5 RX5 (some .int) "judge" dC dI dA A α) (X : (Nat → q_St)) (a1 : Int32)  : ∀ (n : Nat) (x3 : Int32) (X' : (Nat → q_St)), q_S p l e (q_rm 4 91) s m args below meth c 5 dC dI dA A α (MQ below (q_Q α dC dI dA A ((fun u => some (.int u.1)) t) ((fun u => w_X5 u.2) t)) args s 0 0 A) 0 0 (f_X5_judge_33 X a1 3  n x3 X') t 33 [(0, .ref 50), (2, .ref 88), (3, .int x3)] [] (w_X5 X') := by
  intro n
  induction n with
  | zero =>
    intro x3 X'
    exact r_cut (f_X5_judge_33.eq_1 _ _ _ _ _) (r_none True.intro)
  | succ n ih =>
    intro x3 X'
    refine r_cut (f_X5_judge_33.eq_2 _ _ _ _ _ _) ?_
    refine r_iload_n C 2 dX5_judge_33 rfl ?_
    refine r_aload_n C 1 dX5_judge_34 rfl ?_
    refine r_get C 38 1 dX5_judge_35 K_X2 rfl rfl (Nat.le_of_ble_eq_true rfl) rfl m_164 rfl ?_
    refine r_icmp_ge C 111 dX5_judge_38 (by decide) (fun h38 => ?_) (fun h38 => ?_)
    · refine r_iconst C (0) dX5_judge_111 rfl ?_
      exact r_reti (x := (0 : Int32)) (rv := (fun u => some (.int u.1))) (hpE := (fun u => w_X5 u.2)) (t0 := ((0 : Int32), X')) C dX5_judge_112 (by rfl) (by rfl) (by rfl)
    · refine r_aload_n C 1 dX5_judge_41 rfl ?_
      refine r_iload_n C 2 dX5_judge_42 rfl ?_
      refine r_iconst C (1) dX5_judge_43 rfl ?_
      refine r_iadd C dX5_judge_44 ?_
      refine r_callV C (o_X2_isPlace l (X' (6 + 3)) (x3 + (1 : Int32))) v_X2_isPlace m_590 [38, 39] [.int (x3 + (1 : Int32))] [] (88) (Or.inl ⟨38, 1, _, TX2, 3, rfl, rfl, rfl⟩) (fun u14 => [.int u14]) (fun u14 => w_X5 X') rfl rfl rfl rfl rfl (Nat.le_of_ble_eq_true rfl) ⟨(Nat.le_of_ble_eq_true rfl), (Nat.le_of_ble_eq_true rfl)⟩ ⟨Nat.zero_le _, Nat.zero_le _⟩ dX5_judge_45 (fun _ => rfl) (fun _ => rfl) (fun _ => rfl) (fun u14 => ?_)
      refine r_if_ne C 55 dX5_judge_48 (by decide) (fun h48 => ?_) (fun h48 => ?_)
      · refine r_iconst C (1) dX5_judge_51 rfl ?_
        refine r_goto C 56 dX5_judge_52 (by decide) ?_
        exact k_X5_judge_56_u3 C X a1 (fun x3 X' => f_X5_judge_33 X a1 3  n x3 X') ih x3 (1 : Int32) X'
      · refine r_iconst C (0) dX5_judge_55 rfl ?_
        exact k_X5_judge_56_u3 C X a1 (fun x3 X' => f_X5_judge_33 X a1 3  n x3 X') ih x3 (0 : Int32) X'
set_option maxRecDepth 100000 in
set_option maxHeartbeats 4000000 in
theorem o_X5_judge (l : Launch) (X : (Nat → q_St)) (a1 : Int32) : q_Ok l yX5_judge cX5_judge 5 (some .int) 4 91 [.ref 50, .int a1] (w_X5 X) (f_X5_judge X a1) (fun u => some (.int u.1)) (fun u => w_X5 u.2) := by
  refine q_enter (by decide +kernel) (Nat.le_of_ble_eq_true rfl) (fun t p e s m args below meth c dC dI dA A α C => ?_)
  refine r_cut (f_X5_judge.eq_1 _ _) ?_
  show q_S p l e (q_rm 4 91) s m args below meth c 5 dC dI dA A α (MQ below (q_Q α dC dI dA A ((fun u => some (.int u.1)) t) ((fun u => w_X5 u.2) t)) args s 0 0 A) 0 0 _ t 0 [(0, .ref 50), (1, .int a1)] [] (w_X5 X)
  refine r_aload_n C 0 dX5_judge_0 rfl ?_
  refine r_iload_n C 1 dX5_judge_1 rfl ?_
  refine r_callV0 C (o_X5_sheetAt l X a1) v_X5_sheetAt m_573 [.int a1] [] (50) (Or.inl ⟨0, 4, _, TX5, 8, rfl, rfl, rfl⟩) (fun u1 => va_rf (q_sf u1) :: []) (fun u1 => w_X5 X) rfl rfl rfl (Nat.le_of_ble_eq_true rfl) ⟨(Nat.le_of_ble_eq_true rfl), (Nat.le_of_ble_eq_true rfl)⟩ ⟨Nat.zero_le _, Nat.zero_le _⟩ dX5_judge_2 (fun _ => rfl) (fun _ => rfl) (fun _ => rfl) (q_case4 ?_ ?_ ?_ ?_ (fun u1 => ?_))
  · refine r_astore_n C [(2, .ref 82), (0, .ref 50), (1, .int a1)] dX5_judge_5 (Nat.le_of_ble_eq_true rfl) rfl ?_
    refine r_aload_n C 0 dX5_judge_6 rfl ?_
    refine r_cut (if_pos (by decide)) ?_
    refine r_ifnonnull_t C 17 dX5_judge_7 (by decide) ?_
    refine r_aload_n C 0 dX5_judge_17 rfl ?_
    refine r_callV C (o_X2_isMissing l (X (6 + 0))) v_X2_isMissing m_577 [32, 33] [] [] (82) (Or.inl ⟨32, 1, _, TX2, 3, rfl, rfl, rfl⟩) (fun u2 => [.int u2]) (fun u2 => w_X5 X) rfl rfl rfl rfl rfl (Nat.le_of_ble_eq_true rfl) ⟨(Nat.le_of_ble_eq_true rfl), (Nat.le_of_ble_eq_true rfl)⟩ ⟨Nat.zero_le _, Nat.zero_le _⟩ dX5_judge_18 (fun _ => rfl) (fun _ => rfl) (fun _ => rfl) (fun u2 => ?_)
    refine r_if_eq C 31 dX5_judge_21 (by decide) (fun h21 => ?_) (fun h21 => ?_)
    · refine r_iconst C (0) dX5_judge_31 rfl ?_
      refine r_istore_n C [(3, .int (0 : Int32)), (2, .ref 82), (0, .ref 50), (1, .int a1)] dX5_judge_32 (Nat.le_of_ble_eq_true rfl) rfl ?_
      refine r_lv [(0, .ref 50), (2, .ref 82), (3, .int (0 : Int32))] [2, 1, 0] rfl ?_
      exact k_X5_judge_33_u0 C X a1   q_N (0 : Int32) X
    · refine r_aload_n C 1 dX5_judge_24 rfl ?_
      refine r_ldc C (-1000006) dX5_judge_25 m_581 ?_
      refine r_callV0 C (o_X5_finding l X (-1000006 : Int32)) v_X5_finding m_207 [.int (-1000006 : Int32)] [] (50) (Or.inl ⟨0, 4, _, TX5, 8, rfl, rfl, rfl⟩) (fun u3 => [.int u3.1]) (fun u3 => w_X5 u3.2) rfl rfl rfl (Nat.le_of_ble_eq_true rfl) ⟨(Nat.le_of_ble_eq_true rfl), (Nat.le_of_ble_eq_true rfl)⟩ ⟨Nat.zero_le _, Nat.zero_le _⟩ dX5_judge_27 (fun _ => rfl) (fun _ => rfl) (fun _ => rfl) (fun u3 => ?_)
      exact r_reti (x := u3.1) (rv := (fun u => some (.int u.1))) (hpE := (fun u => w_X5 u.2)) (t0 := (u3.1, u3.2)) C dX5_judge_30 (by rfl) (by rfl) (by rfl)
  · refine r_astore_n C [(2, .ref 84), (0, .ref 50), (1, .int a1)] dX5_judge_5 (Nat.le_of_ble_eq_true rfl) rfl ?_
    refine r_aload_n C 0 dX5_judge_6 rfl ?_
    refine r_cut (if_pos (by decide)) ?_
    refine r_ifnonnull_t C 17 dX5_judge_7 (by decide) ?_
    refine r_aload_n C 0 dX5_judge_17 rfl ?_
    refine r_callV C (o_X2_isMissing l (X (6 + 1))) v_X2_isMissing m_577 [34, 35] [] [] (84) (Or.inl ⟨34, 1, _, TX2, 3, rfl, rfl, rfl⟩) (fun u4 => [.int u4]) (fun u4 => w_X5 X) rfl rfl rfl rfl rfl (Nat.le_of_ble_eq_true rfl) ⟨(Nat.le_of_ble_eq_true rfl), (Nat.le_of_ble_eq_true rfl)⟩ ⟨Nat.zero_le _, Nat.zero_le _⟩ dX5_judge_18 (fun _ => rfl) (fun _ => rfl) (fun _ => rfl) (fun u4 => ?_)
    refine r_if_eq C 31 dX5_judge_21 (by decide) (fun h21 => ?_) (fun h21 => ?_)
    · refine r_iconst C (0) dX5_judge_31 rfl ?_
      refine r_istore_n C [(3, .int (0 : Int32)), (2, .ref 84), (0, .ref 50), (1, .int a1)] dX5_judge_32 (Nat.le_of_ble_eq_true rfl) rfl ?_
      refine r_lv [(0, .ref 50), (2, .ref 84), (3, .int (0 : Int32))] [2, 1, 0] rfl ?_
      exact k_X5_judge_33_u1 C X a1   q_N (0 : Int32) X
    · refine r_aload_n C 1 dX5_judge_24 rfl ?_
      refine r_ldc C (-1000006) dX5_judge_25 m_581 ?_
      refine r_callV0 C (o_X5_finding l X (-1000006 : Int32)) v_X5_finding m_207 [.int (-1000006 : Int32)] [] (50) (Or.inl ⟨0, 4, _, TX5, 8, rfl, rfl, rfl⟩) (fun u5 => [.int u5.1]) (fun u5 => w_X5 u5.2) rfl rfl rfl (Nat.le_of_ble_eq_true rfl) ⟨(Nat.le_of_ble_eq_true rfl), (Nat.le_of_ble_eq_true rfl)⟩ ⟨Nat.zero_le _, Nat.zero_le _⟩ dX5_judge_27 (fun _ => rfl) (fun _ => rfl) (fun _ => rfl) (fun u5 => ?_)
      exact r_reti (x := u5.1) (rv := (fun u => some (.int u.1))) (hpE := (fun u => w_X5 u.2)) (t0 := (u5.1, u5.2)) C dX5_judge_30 (by rfl) (by rfl) (by rfl)
  · refine r_astore_n C [(2, .ref 86), (0, .ref 50), (1, .int a1)] dX5_judge_5 (Nat.le_of_ble_eq_true rfl) rfl ?_
    refine r_aload_n C 0 dX5_judge_6 rfl ?_
    refine r_cut (if_pos (by decide)) ?_
    refine r_ifnonnull_t C 17 dX5_judge_7 (by decide) ?_
    refine r_aload_n C 0 dX5_judge_17 rfl ?_
    refine r_callV C (o_X2_isMissing l (X (6 + 2))) v_X2_isMissing m_577 [36, 37] [] [] (86) (Or.inl ⟨36, 1, _, TX2, 3, rfl, rfl, rfl⟩) (fun u6 => [.int u6]) (fun u6 => w_X5 X) rfl rfl rfl rfl rfl (Nat.le_of_ble_eq_true rfl) ⟨(Nat.le_of_ble_eq_true rfl), (Nat.le_of_ble_eq_true rfl)⟩ ⟨Nat.zero_le _, Nat.zero_le _⟩ dX5_judge_18 (fun _ => rfl) (fun _ => rfl) (fun _ => rfl) (fun u6 => ?_)
    refine r_if_eq C 31 dX5_judge_21 (by decide) (fun h21 => ?_) (fun h21 => ?_)
    · refine r_iconst C (0) dX5_judge_31 rfl ?_
      refine r_istore_n C [(3, .int (0 : Int32)), (2, .ref 86), (0, .ref 50), (1, .int a1)] dX5_judge_32 (Nat.le_of_ble_eq_true rfl) rfl ?_
      refine r_lv [(0, .ref 50), (2, .ref 86), (3, .int (0 : Int32))] [2, 1, 0] rfl ?_
      exact k_X5_judge_33_u2 C X a1   q_N (0 : Int32) X
    · refine r_aload_n C 1 dX5_judge_24 rfl ?_
      refine r_ldc C (-1000006) dX5_judge_25 m_581 ?_
      refine r_callV0 C (o_X5_finding l X (-1000006 : Int32)) v_X5_finding m_207 [.int (-1000006 : Int32)] [] (50) (Or.inl ⟨0, 4, _, TX5, 8, rfl, rfl, rfl⟩) (fun u7 => [.int u7.1]) (fun u7 => w_X5 u7.2) rfl rfl rfl (Nat.le_of_ble_eq_true rfl) ⟨(Nat.le_of_ble_eq_true rfl), (Nat.le_of_ble_eq_true rfl)⟩ ⟨Nat.zero_le _, Nat.zero_le _⟩ dX5_judge_27 (fun _ => rfl) (fun _ => rfl) (fun _ => rfl) (fun u7 => ?_)
      exact r_reti (x := u7.1) (rv := (fun u => some (.int u.1))) (hpE := (fun u => w_X5 u.2)) (t0 := (u7.1, u7.2)) C dX5_judge_30 (by rfl) (by rfl) (by rfl)
  · refine r_astore_n C [(2, .ref 88), (0, .ref 50), (1, .int a1)] dX5_judge_5 (Nat.le_of_ble_eq_true rfl) rfl ?_
    refine r_aload_n C 0 dX5_judge_6 rfl ?_
    refine r_cut (if_pos (by decide)) ?_
    refine r_ifnonnull_t C 17 dX5_judge_7 (by decide) ?_
    refine r_aload_n C 0 dX5_judge_17 rfl ?_
    refine r_callV C (o_X2_isMissing l (X (6 + 3))) v_X2_isMissing m_577 [38, 39] [] [] (88) (Or.inl ⟨38, 1, _, TX2, 3, rfl, rfl, rfl⟩) (fun u8 => [.int u8]) (fun u8 => w_X5 X) rfl rfl rfl rfl rfl (Nat.le_of_ble_eq_true rfl) ⟨(Nat.le_of_ble_eq_true rfl), (Nat.le_of_ble_eq_true rfl)⟩ ⟨Nat.zero_le _, Nat.zero_le _⟩ dX5_judge_18 (fun _ => rfl) (fun _ => rfl) (fun _ => rfl) (fun u8 => ?_)
    refine r_if_eq C 31 dX5_judge_21 (by decide) (fun h21 => ?_) (fun h21 => ?_)
    · refine r_iconst C (0) dX5_judge_31 rfl ?_
      refine r_istore_n C [(3, .int (0 : Int32)), (2, .ref 88), (0, .ref 50), (1, .int a1)] dX5_judge_32 (Nat.le_of_ble_eq_true rfl) rfl ?_
      refine r_lv [(0, .ref 50), (2, .ref 88), (3, .int (0 : Int32))] [2, 1, 0] rfl ?_
      exact k_X5_judge_33_u3 C X a1   q_N (0 : Int32) X
    · refine r_aload_n C 1 dX5_judge_24 rfl ?_
      refine r_ldc C (-1000006) dX5_judge_25 m_581 ?_
      refine r_callV0 C (o_X5_finding l X (-1000006 : Int32)) v_X5_finding m_207 [.int (-1000006 : Int32)] [] (50) (Or.inl ⟨0, 4, _, TX5, 8, rfl, rfl, rfl⟩) (fun u9 => [.int u9.1]) (fun u9 => w_X5 u9.2) rfl rfl rfl (Nat.le_of_ble_eq_true rfl) ⟨(Nat.le_of_ble_eq_true rfl), (Nat.le_of_ble_eq_true rfl)⟩ ⟨Nat.zero_le _, Nat.zero_le _⟩ dX5_judge_27 (fun _ => rfl) (fun _ => rfl) (fun _ => rfl) (fun u9 => ?_)
      exact r_reti (x := u9.1) (rv := (fun u => some (.int u.1))) (hpE := (fun u => w_X5 u.2)) (t0 := (u9.1, u9.2)) C dX5_judge_30 (by rfl) (by rfl) (by rfl)
  · refine r_astore_nN C [(2, .null), (0, .ref 50), (1, .int a1)] dX5_judge_5 (Nat.le_of_ble_eq_true rfl) rfl ?_
    refine r_aload_nN C 0 dX5_judge_6 rfl ?_
    refine r_cut (if_neg (by omega)) ?_
    refine r_ifnonnull_f C dX5_judge_7 ?_
    refine r_aload_n C 1 dX5_judge_10 rfl ?_
    refine r_ldc C (-1000001) dX5_judge_11 m_206 ?_
    refine r_callV0 C (o_X5_finding l X (-1000001 : Int32)) v_X5_finding m_207 [.int (-1000001 : Int32)] [] (50) (Or.inl ⟨0, 4, _, TX5, 8, rfl, rfl, rfl⟩) (fun u10 => [.int u10.1]) (fun u10 => w_X5 u10.2) rfl rfl rfl (Nat.le_of_ble_eq_true rfl) ⟨(Nat.le_of_ble_eq_true rfl), (Nat.le_of_ble_eq_true rfl)⟩ ⟨Nat.zero_le _, Nat.zero_le _⟩ dX5_judge_13 (fun _ => rfl) (fun _ => rfl) (fun _ => rfl) (fun u10 => ?_)
    exact r_reti (x := u10.1) (rv := (fun u => some (.int u.1))) (hpE := (fun u => w_X5 u.2)) (t0 := (u10.1, u10.2)) C dX5_judge_16 (by rfl) (by rfl) (by rfl)
set_option maxRecDepth 100000 in
set_option maxHeartbeats 4000000 in
theorem o_X5_image (l : Launch) (X : (Nat → q_St)) : q_Ok l yX5_image cX5_image 1 (some .int) 2 51 [.ref 50] (w_X5 X) (f_X5_image X) (fun u => some (.int u.1)) (fun u => w_X5 u.2) := by
  refine q_enter (by decide +kernel) (Nat.le_of_ble_eq_true rfl) (fun t p e s m args below meth c dC dI dA A α C => ?_)
  refine r_cut (f_X5_image.eq_1 _) ?_
  show q_S p l e (q_rm 2 51) s m args below meth c 1 dC dI dA A α (MQ below (q_Q α dC dI dA A ((fun u => some (.int u.1)) t) ((fun u => w_X5 u.2) t)) args s 0 0 A) 0 0 _ t 0 [(0, .ref 50)] [] (w_X5 X)
  refine r_aload_n C 0 dX5_image_0 rfl ?_
  refine r_get C 0 1 dX5_image_1 K_X5 rfl rfl (Nat.le_of_ble_eq_true rfl) rfl m_175 rfl ?_
  refine r_aload_n C 0 dX5_image_4 rfl ?_
  refine r_get C 0 0 dX5_image_5 K_X5 rfl rfl (Nat.le_of_ble_eq_true rfl) rfl m_174 rfl ?_
  refine r_callV C (o_X0_take l (X 2) (X 1)) v_X0_take m_501 [8, 9, 10, 11, 12, 13, 14, 1, 2, 3, 4, 5, 6, 7] [.ref 51] [] (58) (Or.inl ⟨8, 0, _, TX0, 16, rfl, rfl, rfl⟩) (fun u1 => []) (fun u1 => w_X5 (va_up X 2 u1)) rfl rfl rfl rfl rfl (Nat.le_of_ble_eq_true rfl) ⟨(Nat.le_of_ble_eq_true rfl), (Nat.le_of_ble_eq_true rfl)⟩ ⟨Nat.zero_le _, Nat.zero_le _⟩ dX5_image_8 (fun _ => rfl) (fun _ => rfl) (fun _ => rfl) (fun u1 => ?_)
  refine r_aload_n C 0 dX5_image_11 rfl ?_
  refine r_iconst C (1) dX5_image_12 rfl ?_
  refine r_put C 0 7 _ dX5_image_13 K_X5 rfl rfl (Nat.le_of_ble_eq_true rfl) rfl m_181 rfl (fun _ => rfl) (fun _ => rfl) (Nat.le_of_ble_eq_true rfl) rfl ?_
  refine r_iconst C (1) dX5_image_16 rfl ?_
  exact r_reti (x := (1 : Int32)) (rv := (fun u => some (.int u.1))) (hpE := (fun u => w_X5 u.2)) (t0 := ((1 : Int32), (va_up (va_up X 0 ((va_up (X 0).1 7 (1 : Int32)), (X 0).2)) 2 u1))) C dX5_image_17 (by rfl) (by rfl) (by rfl)
set_option maxRecDepth 100000 in
set_option maxHeartbeats 4000000 in
theorem o_X5_undo (l : Launch) (X : (Nat → q_St)) : q_Ok l yX5_undo cX5_undo 1 (some .int) 2 51 [.ref 50] (w_X5 X) (f_X5_undo X) (fun u => some (.int u.1)) (fun u => w_X5 u.2) := by
  refine q_enter (by decide +kernel) (Nat.le_of_ble_eq_true rfl) (fun t p e s m args below meth c dC dI dA A α C => ?_)
  refine r_cut (f_X5_undo.eq_1 _) ?_
  show q_S p l e (q_rm 2 51) s m args below meth c 1 dC dI dA A α (MQ below (q_Q α dC dI dA A ((fun u => some (.int u.1)) t) ((fun u => w_X5 u.2) t)) args s 0 0 A) 0 0 _ t 0 [(0, .ref 50)] [] (w_X5 X)
  refine r_aload_n C 0 dX5_undo_0 rfl ?_
  refine r_get C 0 7 dX5_undo_1 K_X5 rfl rfl (Nat.le_of_ble_eq_true rfl) rfl m_181 rfl ?_
  refine r_if_ne C 14 dX5_undo_4 (by decide) (fun h4 => ?_) (fun h4 => ?_)
  · refine r_aload_n C 0 dX5_undo_7 rfl ?_
    refine r_ldc C (-1000004) dX5_undo_8 m_517 ?_
    refine r_callV0 C (o_X5_finding l X (-1000004 : Int32)) v_X5_finding m_207 [.int (-1000004 : Int32)] [] (50) (Or.inl ⟨0, 4, _, TX5, 8, rfl, rfl, rfl⟩) (fun u2 => [.int u2.1]) (fun u2 => w_X5 u2.2) rfl rfl rfl (Nat.le_of_ble_eq_true rfl) ⟨(Nat.le_of_ble_eq_true rfl), (Nat.le_of_ble_eq_true rfl)⟩ ⟨Nat.zero_le _, Nat.zero_le _⟩ dX5_undo_10 (fun _ => rfl) (fun _ => rfl) (fun _ => rfl) (fun u2 => ?_)
    exact r_reti (x := u2.1) (rv := (fun u => some (.int u.1))) (hpE := (fun u => w_X5 u.2)) (t0 := (u2.1, u2.2)) C dX5_undo_13 (by rfl) (by rfl) (by rfl)
  · refine r_aload_n C 0 dX5_undo_14 rfl ?_
    refine r_get C 0 0 dX5_undo_15 K_X5 rfl rfl (Nat.le_of_ble_eq_true rfl) rfl m_174 rfl ?_
    refine r_aload_n C 0 dX5_undo_18 rfl ?_
    refine r_get C 0 1 dX5_undo_19 K_X5 rfl rfl (Nat.le_of_ble_eq_true rfl) rfl m_175 rfl ?_
    refine r_callV C (o_X0_take l (X 1) (X 2)) v_X0_take m_501 [1, 2, 3, 4, 5, 6, 7, 8, 9, 10, 11, 12, 13, 14] [.ref 58] [] (51) (Or.inl ⟨1, 0, _, TX0, 16, rfl, rfl, rfl⟩) (fun u1 => []) (fun u1 => w_X5 (va_up X 1 u1)) rfl rfl rfl rfl rfl (Nat.le_of_ble_eq_true rfl) ⟨(Nat.le_of_ble_eq_true rfl), (Nat.le_of_ble_eq_true rfl)⟩ ⟨Nat.zero_le _, Nat.zero_le _⟩ dX5_undo_22 (fun _ => rfl) (fun _ => rfl) (fun _ => rfl) (fun u1 => ?_)
    refine r_aload_n C 0 dX5_undo_25 rfl ?_
    refine r_get C 0 0 dX5_undo_26 K_X5 rfl rfl (Nat.le_of_ble_eq_true rfl) rfl m_174 rfl ?_
    refine r_get C 1 1 dX5_undo_29 K_X0 rfl rfl (Nat.le_of_ble_eq_true rfl) rfl m_36 rfl ?_
    exact r_reti (x := u1.1 1) (rv := (fun u => some (.int u.1))) (hpE := (fun u => w_X5 u.2)) (t0 := (u1.1 1, (va_up X 1 u1))) C dX5_undo_32 (by rfl) (by rfl) (by rfl)
set_option maxRecDepth 100000 in
set_option maxHeartbeats 4000000 in
theorem o_X5_tear (l : Launch) (X : (Nat → q_St)) : q_Ok l yX5_tear cX5_tear 2 (some .int) 0 0 [.ref 50] (w_X5 X) (f_X5_tear X) (fun u => some (.int u.1)) (fun u => w_X5 u.2) := by
  refine q_enter (by decide +kernel) (Nat.le_of_ble_eq_true rfl) (fun t p e s m args below meth c dC dI dA A α C => ?_)
  refine r_cut (f_X5_tear.eq_1 _) ?_
  show q_S p l e (q_rm 0 0) s m args below meth c 2 dC dI dA A α (MQ below (q_Q α dC dI dA A ((fun u => some (.int u.1)) t) ((fun u => w_X5 u.2) t)) args s 0 0 A) 0 0 _ t 0 [(0, .ref 50)] [] (w_X5 X)
  refine r_aload_n C 0 dX5_tear_0 rfl ?_
  refine r_get C 0 7 dX5_tear_1 K_X5 rfl rfl (Nat.le_of_ble_eq_true rfl) rfl m_181 rfl ?_
  refine r_if_eq C 11 dX5_tear_4 (by decide) (fun h4 => ?_) (fun h4 => ?_)
  · refine r_iconst C (0) dX5_tear_11 rfl ?_
    refine r_istore_n C [(1, .int (0 : Int32)), (0, .ref 50)] dX5_tear_12 (Nat.le_of_ble_eq_true rfl) rfl ?_
    refine r_aload_n C 1 dX5_tear_13 rfl ?_
    refine r_iconst C (0) dX5_tear_14 rfl ?_
    refine r_put C 0 7 _ dX5_tear_15 K_X5 rfl rfl (Nat.le_of_ble_eq_true rfl) rfl m_181 rfl (fun _ => rfl) (fun _ => rfl) (Nat.le_of_ble_eq_true rfl) rfl ?_
    refine r_iload_n C 0 dX5_tear_18 rfl ?_
    exact r_reti (x := (0 : Int32)) (rv := (fun u => some (.int u.1))) (hpE := (fun u => w_X5 u.2)) (t0 := ((0 : Int32), (va_up X 0 ((va_up (X 0).1 7 (0 : Int32)), (X 0).2)))) C dX5_tear_19 (by rfl) (by rfl) (by rfl)
  · refine r_iconst C (1) dX5_tear_7 rfl ?_
    refine r_goto C 12 dX5_tear_8 (by decide) ?_
    refine r_istore_n C [(1, .int (1 : Int32)), (0, .ref 50)] dX5_tear_12 (Nat.le_of_ble_eq_true rfl) rfl ?_
    refine r_aload_n C 1 dX5_tear_13 rfl ?_
    refine r_iconst C (0) dX5_tear_14 rfl ?_
    refine r_put C 0 7 _ dX5_tear_15 K_X5 rfl rfl (Nat.le_of_ble_eq_true rfl) rfl m_181 rfl (fun _ => rfl) (fun _ => rfl) (Nat.le_of_ble_eq_true rfl) rfl ?_
    refine r_iload_n C 0 dX5_tear_18 rfl ?_
    exact r_reti (x := (1 : Int32)) (rv := (fun u => some (.int u.1))) (hpE := (fun u => w_X5 u.2)) (t0 := ((1 : Int32), (va_up X 0 ((va_up (X 0).1 7 (0 : Int32)), (X 0).2)))) C dX5_tear_19 (by rfl) (by rfl) (by rfl)
set_option maxRecDepth 100000 in
set_option maxHeartbeats 4000000 in
theorem o_X5_count (l : Launch) (X : (Nat → q_St)) (a1 : Int32) : q_Ok l yX5_count cX5_count 2 (some .int) 3 64 [.ref 50, .int a1] (w_X5 X) (f_X5_count X a1) (fun u => some (.int u.1)) (fun u => w_X5 u.2) := by
  refine q_enter (by decide +kernel) (Nat.le_of_ble_eq_true rfl) (fun t p e s m args below meth c dC dI dA A α C => ?_)
  refine r_cut (f_X5_count.eq_1 _ _) ?_
  show q_S p l e (q_rm 3 64) s m args below meth c 2 dC dI dA A α (MQ below (q_Q α dC dI dA A ((fun u => some (.int u.1)) t) ((fun u => w_X5 u.2) t)) args s 0 0 A) 0 0 _ t 0 [(0, .ref 50), (1, .int a1)] [] (w_X5 X)
  refine r_iload_n C 1 dX5_count_0 rfl ?_
  refine r_tsw C (0) 48 dX5_count_1 (by decide) (by decide) rfl (by decide) (fun h1_0 => ?_) (fun h1_0 => ?_)
  · refine r_aload_n C 0 dX5_count_48 rfl ?_
    refine r_get C 0 0 dX5_count_49 K_X5 rfl rfl (Nat.le_of_ble_eq_true rfl) rfl m_174 rfl ?_
    refine r_get C 1 1 dX5_count_52 K_X0 rfl rfl (Nat.le_of_ble_eq_true rfl) rfl m_36 rfl ?_
    exact r_reti (x := (X 1).1 1) (rv := (fun u => some (.int u.1))) (hpE := (fun u => w_X5 u.2)) (t0 := ((X 1).1 1, X)) C dX5_count_55 (by rfl) (by rfl) (by rfl)
  refine r_tsw C (1) 56 dX5_count_1 (by decide) (by decide) rfl (by decide) (fun h1_1 => ?_) (fun h1_1 => ?_)
  · refine r_aload_n C 0 dX5_count_56 rfl ?_
    refine r_get C 0 0 dX5_count_57 K_X5 rfl rfl (Nat.le_of_ble_eq_true rfl) rfl m_174 rfl ?_
    refine r_get C 1 0 dX5_count_60 K_X0 rfl rfl (Nat.le_of_ble_eq_true rfl) rfl m_30 rfl ?_
    exact r_reti (x := (X 1).1 0) (rv := (fun u => some (.int u.1))) (hpE := (fun u => w_X5 u.2)) (t0 := ((X 1).1 0, X)) C dX5_count_63 (by rfl) (by rfl) (by rfl)
  refine r_tsw C (2) 64 dX5_count_1 (by decide) (by decide) rfl (by decide) (fun h1_2 => ?_) (fun h1_2 => ?_)
  · refine r_aload_n C 0 dX5_count_64 rfl ?_
    refine r_get C 0 0 dX5_count_65 K_X5 rfl rfl (Nat.le_of_ble_eq_true rfl) rfl m_174 rfl ?_
    refine r_get C 1 6 dX5_count_68 K_X0 rfl rfl (Nat.le_of_ble_eq_true rfl) rfl m_49 rfl ?_
    exact r_reti (x := (X 1).1 6) (rv := (fun u => some (.int u.1))) (hpE := (fun u => w_X5 u.2)) (t0 := ((X 1).1 6, X)) C dX5_count_71 (by rfl) (by rfl) (by rfl)
  refine r_tsw C (3) 72 dX5_count_1 (by decide) (by decide) rfl (by decide) (fun h1_3 => ?_) (fun h1_3 => ?_)
  · refine r_aload_n C 0 dX5_count_72 rfl ?_
    refine r_get C 0 0 dX5_count_73 K_X5 rfl rfl (Nat.le_of_ble_eq_true rfl) rfl m_174 rfl ?_
    refine r_get C 1 8 dX5_count_76 K_X0 rfl rfl (Nat.le_of_ble_eq_true rfl) rfl m_53 rfl ?_
    exact r_reti (x := (X 1).1 8) (rv := (fun u => some (.int u.1))) (hpE := (fun u => w_X5 u.2)) (t0 := ((X 1).1 8, X)) C dX5_count_79 (by rfl) (by rfl) (by rfl)
  refine r_tsw C (4) 80 dX5_count_1 (by decide) (by decide) rfl (by decide) (fun h1_4 => ?_) (fun h1_4 => ?_)
  · refine r_aload_n C 0 dX5_count_80 rfl ?_
    refine r_get C 0 0 dX5_count_81 K_X5 rfl rfl (Nat.le_of_ble_eq_true rfl) rfl m_174 rfl ?_
    refine r_callV C (o_X0_sizesTogether l (X 1)) v_X0_sizesTogether m_887 [1, 2, 3, 4, 5, 6, 7] [] [] (51) (Or.inl ⟨1, 0, _, TX0, 16, rfl, rfl, rfl⟩) (fun u1 => [.int u1]) (fun u1 => w_X5 X) rfl rfl rfl rfl rfl (Nat.le_of_ble_eq_true rfl) ⟨(Nat.le_of_ble_eq_true rfl), (Nat.le_of_ble_eq_true rfl)⟩ ⟨Nat.zero_le _, Nat.zero_le _⟩ dX5_count_84 (fun _ => rfl) (fun _ => rfl) (fun _ => rfl) (fun u1 => ?_)
    exact r_reti (x := u1) (rv := (fun u => some (.int u.1))) (hpE := (fun u => w_X5 u.2)) (t0 := (u1, X)) C dX5_count_87 (by rfl) (by rfl) (by rfl)
  refine r_tsw C (5) 88 dX5_count_1 (by decide) (by decide) rfl (by decide) (fun h1_5 => ?_) (fun h1_5 => ?_)
  · refine r_aload_n C 0 dX5_count_88 rfl ?_
    refine r_get C 0 4 dX5_count_89 K_X5 rfl rfl (Nat.le_of_ble_eq_true rfl) rfl m_178 rfl ?_
    refine r_get C 29 0 dX5_count_92 K_X3 rfl rfl (Nat.le_of_ble_eq_true rfl) rfl m_128 rfl ?_
    exact r_reti (x := (X 5).1 0) (rv := (fun u => some (.int u.1))) (hpE := (fun u => w_X5 u.2)) (t0 := ((X 5).1 0, X)) C dX5_count_95 (by rfl) (by rfl) (by rfl)
  refine r_tsw C (6) 96 dX5_count_1 (by decide) (by decide) rfl (by decide) (fun h1_6 => ?_) (fun h1_6 => ?_)
  · refine r_aload_n C 0 dX5_count_96 rfl ?_
    refine r_get C 0 0 dX5_count_97 K_X5 rfl rfl (Nat.le_of_ble_eq_true rfl) rfl m_174 rfl ?_
    refine r_get C 1 5 dX5_count_100 K_X0 rfl rfl (Nat.le_of_ble_eq_true rfl) rfl m_47 rfl ?_
    exact r_reti (x := (X 1).1 5) (rv := (fun u => some (.int u.1))) (hpE := (fun u => w_X5 u.2)) (t0 := ((X 1).1 5, X)) C dX5_count_103 (by rfl) (by rfl) (by rfl)
  refine r_tsw C (7) 104 dX5_count_1 (by decide) (by decide) rfl (by decide) (fun h1_7 => ?_) (fun h1_7 => ?_)
  · refine r_aload_n C 0 dX5_count_104 rfl ?_
    refine r_get C 0 0 dX5_count_105 K_X5 rfl rfl (Nat.le_of_ble_eq_true rfl) rfl m_174 rfl ?_
    refine r_callV C (o_X0_spotsInUse l (X 1)) v_X0_spotsInUse m_892 [1, 2, 3, 4, 5, 6, 7] [] [] (51) (Or.inl ⟨1, 0, _, TX0, 16, rfl, rfl, rfl⟩) (fun u2 => [.int u2]) (fun u2 => w_X5 X) rfl rfl rfl rfl rfl (Nat.le_of_ble_eq_true rfl) ⟨(Nat.le_of_ble_eq_true rfl), (Nat.le_of_ble_eq_true rfl)⟩ ⟨Nat.zero_le _, Nat.zero_le _⟩ dX5_count_108 (fun _ => rfl) (fun _ => rfl) (fun _ => rfl) (fun u2 => ?_)
    exact r_reti (x := u2) (rv := (fun u => some (.int u.1))) (hpE := (fun u => w_X5 u.2)) (t0 := (u2, X)) C dX5_count_111 (by rfl) (by rfl) (by rfl)
  have g0 := True.intro
  have g1_0 := q_neI h1_0 (z := 0) (by decide)
  have g1_1 := q_neI h1_1 (z := 1) (by decide)
  have g1_2 := q_neI h1_2 (z := 2) (by decide)
  have g1_3 := q_neI h1_3 (z := 3) (by decide)
  have g1_4 := q_neI h1_4 (z := 4) (by decide)
  have g1_5 := q_neI h1_5 (z := 5) (by decide)
  have g1_6 := q_neI h1_6 (z := 6) (by decide)
  have g1_7 := q_neI h1_7 (z := 7) (by decide)
  refine r_tswD C 112 dX5_count_1 (by omega) (by decide) ?_
  refine r_aload_n C 0 dX5_count_112 rfl ?_
  refine r_ldc C (-1000001) dX5_count_113 m_206 ?_
  refine r_callV0 C (o_X5_finding l X (-1000001 : Int32)) v_X5_finding m_207 [.int (-1000001 : Int32)] [] (50) (Or.inl ⟨0, 4, _, TX5, 8, rfl, rfl, rfl⟩) (fun u3 => [.int u3.1]) (fun u3 => w_X5 u3.2) rfl rfl rfl (Nat.le_of_ble_eq_true rfl) ⟨(Nat.le_of_ble_eq_true rfl), (Nat.le_of_ble_eq_true rfl)⟩ ⟨Nat.zero_le _, Nat.zero_le _⟩ dX5_count_115 (fun _ => rfl) (fun _ => rfl) (fun _ => rfl) (fun u3 => ?_)
  exact r_reti (x := u3.1) (rv := (fun u => some (.int u.1))) (hpE := (fun u => w_X5 u.2)) (t0 := (u3.1, u3.2)) C dX5_count_118 (by rfl) (by rfl) (by rfl)
set_option maxRecDepth 100000 in
set_option maxHeartbeats 4000000 in
theorem k_X5_status_33 {p : Program} {l : Launch} {e : Env} {s : State} {m : MethodId} {args : Array Value} {below : List Frame} {meth : Method} {c : Code} {dC : Nat → ClassId} {dI : Nat → Nat → Nat} {dA : Nat → ClassId} {A : Nat → Prop} {α : Nat → Nat} {t : Int32 × (Nat → q_St)} (C : q_Cx p s m args meth c cX5_status 4 RX5 (some .int) "status" dC dI dA A α) (X : (Nat → q_St)) (a1 : Int32)  : ∀ (n : Nat) (x2 : Int32) (x3 : Int32) (X' : (Nat → q_St)), q_S p l e (q_rm 1 22) s m args below meth c 4 dC dI dA A α (MQ below (q_Q α dC dI dA A ((fun u => some (.int u.1)) t) ((fun u => w_X5 u.2) t)) args s 0 0 A) 0 0 (f_X5_status_33 X a1  n x2 x3 X') t 33 [(0, .ref 50), (2, .int x2), (3, .int x3)] [] (w_X5 X') := by
  intro n
  induction n with
  | zero =>
    intro x2 x3 X'
    exact r_cut (f_X5_status_33.eq_1 _ _ _ _ _) (r_none True.intro)
  | succ n ih =>
    intro x2 x3 X'
    refine r_cut (f_X5_status_33.eq_2 _ _ _ _ _ _) ?_
    refine r_iload_n C 2 dX5_status_33 rfl ?_
    refine r_bipush C (7) dX5_status_34 rfl ?_
    refine r_icmp_ge C 54 dX5_status_36 (by decide) (fun h36 => ?_) (fun h36 => ?_)
    · refine r_iload_n C 1 dX5_status_54 rfl ?_
      exact r_reti (x := x2) (rv := (fun u => some (.int u.1))) (hpE := (fun u => w_X5 u.2)) (t0 := (x2, X')) C dX5_status_55 (by rfl) (by rfl) (by rfl)
    · refine r_iload_n C 1 dX5_status_39 rfl ?_
      refine r_aload_n C 0 dX5_status_40 rfl ?_
      refine r_get C 0 6 dX5_status_41 K_X5 rfl rfl (Nat.le_of_ble_eq_true rfl) rfl m_180 rfl ?_
      refine r_iload_n C 2 dX5_status_44 rfl ?_
      refine r_iald C 40 dX5_status_45 rfl rfl (fun hi45 => ?_)
      refine r_iadd C dX5_status_46 ?_
      refine r_istore_n C [(2, .int (x2 + ((X' 0).2 6 x3.toNatClampNeg))), (0, .ref 50), (3, .int x3)] dX5_status_47 (Nat.le_of_ble_eq_true rfl) rfl ?_
      refine r_iinc C 2 (x3 + 1) [(3, .int (x3 + 1)), (2, .int (x2 + ((X' 0).2 6 x3.toNatClampNeg))), (0, .ref 50)] dX5_status_48 rfl rfl (Nat.le_of_ble_eq_true rfl) rfl ?_
      refine r_goto C 33 dX5_status_51 (by decide) ?_
      refine r_lv [(0, .ref 50), (2, .int (x2 + ((X' 0).2 6 x3.toNatClampNeg))), (3, .int (x3 + 1))] [2, 1, 0] rfl ?_
      exact ih (x2 + ((X' 0).2 6 x3.toNatClampNeg)) (x3 + 1) X'
set_option maxRecDepth 100000 in
set_option maxHeartbeats 4000000 in
theorem o_X5_status (l : Launch) (X : (Nat → q_St)) (a1 : Int32) : q_Ok l yX5_status cX5_status 4 (some .int) 1 22 [.ref 50, .int a1] (w_X5 X) (f_X5_status X a1) (fun u => some (.int u.1)) (fun u => w_X5 u.2) := by
  refine q_enter (by decide +kernel) (Nat.le_of_ble_eq_true rfl) (fun t p e s m args below meth c dC dI dA A α C => ?_)
  refine r_cut (f_X5_status.eq_1 _ _) ?_
  show q_S p l e (q_rm 1 22) s m args below meth c 4 dC dI dA A α (MQ below (q_Q α dC dI dA A ((fun u => some (.int u.1)) t) ((fun u => w_X5 u.2) t)) args s 0 0 A) 0 0 _ t 0 [(0, .ref 50), (1, .int a1)] [] (w_X5 X)
  refine r_iload_n C 1 dX5_status_0 rfl ?_
  refine r_iconst C (-1) dX5_status_1 rfl ?_
  refine r_icmp_lt C 11 dX5_status_2 (by decide) (fun h2 => ?_) (fun h2 => ?_)
  · refine r_aload_n C 0 dX5_status_11 rfl ?_
    refine r_ldc C (-1000001) dX5_status_12 m_206 ?_
    refine r_callV0 C (o_X5_finding l X (-1000001 : Int32)) v_X5_finding m_207 [.int (-1000001 : Int32)] [] (50) (Or.inl ⟨0, 4, _, TX5, 8, rfl, rfl, rfl⟩) (fun u1 => [.int u1.1]) (fun u1 => w_X5 u1.2) rfl rfl rfl (Nat.le_of_ble_eq_true rfl) ⟨(Nat.le_of_ble_eq_true rfl), (Nat.le_of_ble_eq_true rfl)⟩ ⟨Nat.zero_le _, Nat.zero_le _⟩ dX5_status_14 (fun _ => rfl) (fun _ => rfl) (fun _ => rfl) (fun u1 => ?_)
    exact r_reti (x := u1.1) (rv := (fun u => some (.int u.1))) (hpE := (fun u => w_X5 u.2)) (t0 := (u1.1, u1.2)) C dX5_status_17 (by rfl) (by rfl) (by rfl)
  · refine r_iload_n C 1 dX5_status_5 rfl ?_
    refine r_bipush C (7) dX5_status_6 rfl ?_
    refine r_icmp_lt C 18 dX5_status_8 (by decide) (fun h8 => ?_) (fun h8 => ?_)
    · refine r_iload_n C 1 dX5_status_18 rfl ?_
      refine r_if_lt C 29 dX5_status_19 (by decide) (fun h19 => ?_) (fun h19 => ?_)
      · refine r_iconst C (0) dX5_status_29 rfl ?_
        refine r_istore_n C [(2, .int (0 : Int32)), (0, .ref 50), (1, .int a1)] dX5_status_30 (Nat.le_of_ble_eq_true rfl) rfl ?_
        refine r_iconst C (0) dX5_status_31 rfl ?_
        refine r_istore_n C [(3, .int (0 : Int32)), (2, .int (0 : Int32)), (0, .ref 50), (1, .int a1)] dX5_status_32 (Nat.le_of_ble_eq_true rfl) rfl ?_
        refine r_lv [(0, .ref 50), (2, .int (0 : Int32)), (3, .int (0 : Int32))] [2, 1, 0] rfl ?_
        exact k_X5_status_33 C X a1   q_N (0 : Int32) (0 : Int32) X
      · refine r_aload_n C 0 dX5_status_22 rfl ?_
        refine r_get C 0 6 dX5_status_23 K_X5 rfl rfl (Nat.le_of_ble_eq_true rfl) rfl m_180 rfl ?_
        refine r_iload_n C 1 dX5_status_26 rfl ?_
        refine r_iald C 40 dX5_status_27 rfl rfl (fun hi27 => ?_)
        exact r_reti (x := ((X 0).2 6 a1.toNatClampNeg)) (rv := (fun u => some (.int u.1))) (hpE := (fun u => w_X5 u.2)) (t0 := (((X 0).2 6 a1.toNatClampNeg), X)) C dX5_status_28 (by rfl) (by rfl) (by rfl)
    · refine r_aload_n C 0 dX5_status_11 rfl ?_
      refine r_ldc C (-1000001) dX5_status_12 m_206 ?_
      refine r_callV0 C (o_X5_finding l X (-1000001 : Int32)) v_X5_finding m_207 [.int (-1000001 : Int32)] [] (50) (Or.inl ⟨0, 4, _, TX5, 8, rfl, rfl, rfl⟩) (fun u2 => [.int u2.1]) (fun u2 => w_X5 u2.2) rfl rfl rfl (Nat.le_of_ble_eq_true rfl) ⟨(Nat.le_of_ble_eq_true rfl), (Nat.le_of_ble_eq_true rfl)⟩ ⟨Nat.zero_le _, Nat.zero_le _⟩ dX5_status_14 (fun _ => rfl) (fun _ => rfl) (fun _ => rfl) (fun u2 => ?_)
      exact r_reti (x := u2.1) (rv := (fun u => some (.int u.1))) (hpE := (fun u => w_X5 u.2)) (t0 := (u2.1, u2.2)) C dX5_status_17 (by rfl) (by rfl) (by rfl)
