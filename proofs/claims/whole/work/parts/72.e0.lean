set_option maxRecDepth 100000 in
set_option maxHeartbeats 4000000 in
theorem o_X6_finding (l : Launch) (M : q_St) (a1 : Int32) : q_Ok l yX6_finding cX6_finding 2 (some .int) 0 0 [.ref 50, .int a1] (w_X6 M) (f_X6_finding M a1) (fun u => some (.int u.1)) (fun u => w_X6 u.2) := by
  refine q_enter (by decide +kernel) (Nat.le_of_ble_eq_true rfl) (fun t p e s m args below meth c dC dI dA A α C => ?_)
  refine r_cut (f_X6_finding.eq_1 _ _) ?_
  show q_S p l e (q_rm 0 0) s m args below meth c 2 dC dI dA A α (MQ below (q_Q α dC dI dA A ((fun u => some (.int u.1)) t) ((fun u => w_X6 u.2) t)) args s 0 0 A) 0 0 _ t 0 [(0, .ref 50), (1, .int a1)] [] (w_X6 M)
  refine r_aload_n C 0 dX6_finding_0 rfl ?_
  refine r_get C 0 4 dX6_finding_1 K_X6 rfl rfl (Nat.le_of_ble_eq_true rfl) rfl m_919 rfl ?_
  refine r_ldc C (-1000001) dX6_finding_4 m_1002 ?_
  refine r_iload_n C 1 dX6_finding_6 rfl ?_
  refine r_isub C dX6_finding_7 ?_
  refine r_iconst C (1) dX6_finding_8 rfl ?_
  refine r_iadd C dX6_finding_9 ?_
  refine r_dup2 C dX6_finding_10 rfl rfl ?_
  refine r_iald C 4 dX6_finding_11 rfl rfl (fun hi11 => ?_)
  refine r_iconst C (1) dX6_finding_12 rfl ?_
  refine r_iadd C dX6_finding_13 ?_
  refine r_iast C 4 _ dX6_finding_14 rfl rfl rfl (fun hi14 => ?_)
  refine r_aload_n C 0 dX6_finding_15 rfl ?_
  refine r_get C 0 4 dX6_finding_16 K_X6 rfl rfl (Nat.le_of_ble_eq_true rfl) rfl m_919 rfl ?_
  refine r_iconst C (0) dX6_finding_19 rfl ?_
  refine r_dup2 C dX6_finding_20 rfl rfl ?_
  refine r_iald C 4 dX6_finding_21 rfl rfl (fun hi21 => ?_)
  refine r_iconst C (1) dX6_finding_22 rfl ?_
  refine r_iadd C dX6_finding_23 ?_
  refine r_iast C 4 _ dX6_finding_24 rfl rfl rfl (fun hi24 => ?_)
  refine r_iload_n C 1 dX6_finding_25 rfl ?_
  exact r_reti (x := a1) (rv := (fun u => some (.int u.1))) (hpE := (fun u => w_X6 u.2)) (t0 := (a1, (M.1, (va_up M.2 4 (upd (upd (M.2 4) (((-1000001 : Int32) - a1) + (1 : Int32)).toNatClampNeg ((M.2 4 (((-1000001 : Int32) - a1) + (1 : Int32)).toNatClampNeg) + (1 : Int32))) (0 : Int32).toNatClampNeg (((upd (M.2 4) (((-1000001 : Int32) - a1) + (1 : Int32)).toNatClampNeg ((M.2 4 (((-1000001 : Int32) - a1) + (1 : Int32)).toNatClampNeg) + (1 : Int32))) (0 : Int32).toNatClampNeg) + (1 : Int32))))))) C dX6_finding_26 (by rfl) (by rfl) (by rfl)
set_option maxRecDepth 100000 in
set_option maxHeartbeats 4000000 in
theorem o_X6_within (l : Launch) (a1 : Int32) (a2 : Int32) (a3 : Int32) : q_Ok l yX6_within cX6_within 3 (some .boolean) 0 0 [.int a1, .int a2, .int a3] ([]) (f_X6_within a1 a2 a3) (fun u => some (.int u)) (fun _ => []) := by
  refine q_enter (by decide +kernel) (Nat.le_of_ble_eq_true rfl) (fun t p e s m args below meth c dC dI dA A α C => ?_)
  refine r_cut (f_X6_within.eq_1 _ _ _) ?_
  show q_S p l e (q_rm 0 0) s m args below meth c 3 dC dI dA A α (MQ below (q_Q α dC dI dA A ((fun u => some (.int u)) t) ((fun _ => []) t)) args s 0 0 A) 0 0 _ t 0 [(0, .int a1), (1, .int a2), (2, .int a3)] [] ([])
  refine r_iload_n C 0 dX6_within_0 rfl ?_
  refine r_iload_n C 1 dX6_within_1 rfl ?_
  refine r_icmp_lt C 14 dX6_within_2 (by decide) (fun h2 => ?_) (fun h2 => ?_)
  · refine r_iconst C (0) dX6_within_14 rfl ?_
    exact r_retz (x := (0 : Int32)) (rv := (fun u => some (.int u))) (hpE := (fun _ => [])) (t0 := (0 : Int32)) C dX6_within_15 (by rfl) (by rfl) (by rfl) (by rfl)
  · refine r_iload_n C 0 dX6_within_5 rfl ?_
    refine r_iload_n C 2 dX6_within_6 rfl ?_
    refine r_icmp_gt C 14 dX6_within_7 (by decide) (fun h7 => ?_) (fun h7 => ?_)
    · refine r_iconst C (0) dX6_within_14 rfl ?_
      exact r_retz (x := (0 : Int32)) (rv := (fun u => some (.int u))) (hpE := (fun _ => [])) (t0 := (0 : Int32)) C dX6_within_15 (by rfl) (by rfl) (by rfl) (by rfl)
    · refine r_iconst C (1) dX6_within_10 rfl ?_
      refine r_goto C 15 dX6_within_11 (by decide) ?_
      exact r_retz (x := (1 : Int32)) (rv := (fun u => some (.int u))) (hpE := (fun _ => [])) (t0 := (1 : Int32)) C dX6_within_15 (by rfl) (by rfl) (by rfl) (by rfl)
set_option maxRecDepth 100000 in
set_option maxHeartbeats 4000000 in
theorem o_X6_become (l : Launch) (M : q_St) (a1 : Int32) (a2 : Int32) : q_Ok l yX6_become cX6_become 4 (some .int) 0 0 [.ref 50, .int a1, .int a2] (w_X6 M) (f_X6_become M a1 a2) (fun u => some (.int u.1)) (fun u => w_X6 u.2) := by
  refine q_enter (by decide +kernel) (Nat.le_of_ble_eq_true rfl) (fun t p e s m args below meth c dC dI dA A α C => ?_)
  refine r_cut (f_X6_become.eq_1 _ _ _) ?_
  show q_S p l e (q_rm 0 0) s m args below meth c 4 dC dI dA A α (MQ below (q_Q α dC dI dA A ((fun u => some (.int u.1)) t) ((fun u => w_X6 u.2) t)) args s 0 0 A) 0 0 _ t 0 [(0, .ref 50), (1, .int a1), (2, .int a2)] [] (w_X6 M)
  refine r_aload_n C 0 dX6_become_0 rfl ?_
  refine r_get C 0 0 dX6_become_1 K_X6 rfl rfl (Nat.le_of_ble_eq_true rfl) rfl m_915 rfl ?_
  refine r_iload_n C 1 dX6_become_4 rfl ?_
  refine r_iald C 1 dX6_become_5 rfl rfl (fun hi5 => ?_)
  refine r_istore_n C [(3, .int (M.2 0 a1.toNatClampNeg)), (0, .ref 50), (1, .int a1), (2, .int a2)] dX6_become_6 (Nat.le_of_ble_eq_true rfl) rfl ?_
  refine r_aload_n C 1 dX6_become_7 rfl ?_
  refine r_get C 0 0 dX6_become_8 K_X6 rfl rfl (Nat.le_of_ble_eq_true rfl) rfl m_915 rfl ?_
  refine r_iload_n C 2 dX6_become_11 rfl ?_
  refine r_iload_n C 3 dX6_become_12 rfl ?_
  refine r_iast C 1 _ dX6_become_13 rfl rfl rfl (fun hi13 => ?_)
  refine r_iload_n C 0 dX6_become_14 rfl ?_
  exact r_reti (x := (M.2 0 a1.toNatClampNeg)) (rv := (fun u => some (.int u.1))) (hpE := (fun u => w_X6 u.2)) (t0 := ((M.2 0 a1.toNatClampNeg), (M.1, (va_up M.2 0 (upd (M.2 0) a1.toNatClampNeg a2))))) C dX6_become_15 (by rfl) (by rfl) (by rfl)
set_option maxRecDepth 100000 in
set_option maxHeartbeats 4000000 in
theorem k_X6_copyRow_2 {p : Program} {l : Launch} {e : Env} {s : State} {m : MethodId} {args : Array Value} {below : List Frame} {meth : Method} {c : Code} {dC : Nat → ClassId} {dI : Nat → Nat → Nat} {dA : Nat → ClassId} {A : Nat → Prop} {α : Nat → Nat} {t : q_St} (C : q_Cx p s m args meth c cX6_copyRow 3 RX6 none "copyRow" dC dI dA A α) (P : q_St)  : ∀ (n : Nat) (x2 : Int32) (P' : q_St), q_S p l e (q_rm 0 0) s m args below meth c 3 dC dI dA A α (MQ below (q_Q α dC dI dA A ((fun _ => none) t) ((fun u => w_AA u) t)) args s 0 0 A) 0 0 (f_X6_copyRow_2 P  n x2 P') t 2 [(0, .ref 50), (1, .ref 51), (2, .int x2)] [] (w_AA P') := by
  intro n
  induction n with
  | zero =>
    intro x2 P'
    exact r_cut (f_X6_copyRow_2.eq_1 _ _ _) (r_none True.intro)
  | succ n ih =>
    intro x2 P'
    refine r_cut (f_X6_copyRow_2.eq_2 _ _ _ _) ?_
    refine r_iload_n C 2 dX6_copyRow_2 rfl ?_
    refine r_bipush C (68) dX6_copyRow_3 rfl ?_
    refine r_icmp_ge C 20 dX6_copyRow_5 (by decide) (fun h5 => ?_) (fun h5 => ?_)
    · exact r_retv (rv := (fun _ => none)) (hpE := (fun u => w_AA u)) (t0 := P') C dX6_copyRow_20 (by rfl) (by rfl) (by rfl)
    · refine r_aload_n C 1 dX6_copyRow_8 rfl ?_
      refine r_iload_n C 2 dX6_copyRow_9 rfl ?_
      refine r_aload_n C 0 dX6_copyRow_10 rfl ?_
      refine r_iload_n C 2 dX6_copyRow_11 rfl ?_
      refine r_iald C 0 dX6_copyRow_12 rfl rfl (fun hi12 => ?_)
      refine r_iast C 1 _ dX6_copyRow_13 rfl rfl rfl (fun hi13 => ?_)
      refine r_iinc C 2 (x2 + 1) [(2, .int (x2 + 1)), (0, .ref 50), (1, .ref 51)] dX6_copyRow_14 rfl rfl (Nat.le_of_ble_eq_true rfl) rfl ?_
      refine r_goto C 2 dX6_copyRow_17 (by decide) ?_
      refine r_lv [(0, .ref 50), (1, .ref 51), (2, .int (x2 + 1))] [1, 2, 0] rfl ?_
      exact ih (x2 + 1) (P'.1, (va_up P'.2 1 (upd (P'.2 1) x2.toNatClampNeg (P'.2 0 x2.toNatClampNeg))))
set_option maxRecDepth 100000 in
set_option maxHeartbeats 4000000 in
theorem o_X6_copyRow (l : Launch) (P : q_St) : q_Ok l yX6_copyRow cX6_copyRow 3 none 0 0 [.ref 50, .ref 51] (w_AA P) (f_X6_copyRow P) (fun _ => none) (fun u => w_AA u) := by
  refine q_enter (by decide +kernel) (Nat.le_of_ble_eq_true rfl) (fun t p e s m args below meth c dC dI dA A α C => ?_)
  refine r_cut (f_X6_copyRow.eq_1 _) ?_
  show q_S p l e (q_rm 0 0) s m args below meth c 3 dC dI dA A α (MQ below (q_Q α dC dI dA A ((fun _ => none) t) ((fun u => w_AA u) t)) args s 0 0 A) 0 0 _ t 0 [(0, .ref 50), (1, .ref 51)] [] (w_AA P)
  refine r_iconst C (0) dX6_copyRow_0 rfl ?_
  refine r_istore_n C [(2, .int (0 : Int32)), (0, .ref 50), (1, .ref 51)] dX6_copyRow_1 (Nat.le_of_ble_eq_true rfl) rfl ?_
  refine r_lv [(0, .ref 50), (1, .ref 51), (2, .int (0 : Int32))] [1, 2, 0] rfl ?_
  exact k_X6_copyRow_2 C P   q_N (0 : Int32) P
set_option maxRecDepth 100000 in
set_option maxHeartbeats 4000000 in
theorem o_X6_putBack (l : Launch) (M : q_St) (a1 : Int32) : q_Ok l yX6_putBack cX6_putBack 2 (some .int) 1 22 [.ref 50, .int a1] (w_X6 M) (f_X6_putBack M a1) (fun u => some (.int u.1)) (fun u => w_X6 u.2) := by
  refine q_enter (by decide +kernel) (Nat.le_of_ble_eq_true rfl) (fun t p e s m args below meth c dC dI dA A α C => ?_)
  refine r_cut (f_X6_putBack.eq_1 _ _) ?_
  show q_S p l e (q_rm 1 22) s m args below meth c 2 dC dI dA A α (MQ below (q_Q α dC dI dA A ((fun u => some (.int u.1)) t) ((fun u => w_X6 u.2) t)) args s 0 0 A) 0 0 _ t 0 [(0, .ref 50), (1, .int a1)] [] (w_X6 M)
  refine r_aload_n C 0 dX6_putBack_0 rfl ?_
  refine r_get C 0 2 dX6_putBack_1 K_X6 rfl rfl (Nat.le_of_ble_eq_true rfl) rfl m_917 rfl ?_
  refine r_aload_n C 0 dX6_putBack_4 rfl ?_
  refine r_get C 0 0 dX6_putBack_5 K_X6 rfl rfl (Nat.le_of_ble_eq_true rfl) rfl m_915 rfl ?_
  refine r_callS C (o_X6_copyRow l ((fun _ => (0 : Int32)), va_up (va_up (fun _ _ => (0 : Int32)) 0 (M.2 2)) 1 (M.2 0))) v_X6_copyRow m_1232 [3, 1] [.ref 53, .ref 51] [] (fun u1 => []) (fun u1 => [.inr (5, [.ref 51, .ref 52, .ref 53, .int (M.1 3), .ref 54, .ref 55, .ref 56, .int (M.1 7), .ref 57, .ref 58, .int (M.1 10), .int (M.1 11), .int (M.1 12), .int (M.1 13), .int (M.1 14), .int (M.1 15), .ref 59, .ref 60, .int (M.1 18), .int (M.1 19), .int (M.1 20), .ref 61, .ref 62, .ref 63, .ref 64]), .inl (0, 68, .inl (u1.2 1)), .inl (0, 68, .inl (M.2 1)), .inl (0, 68, .inl (u1.2 0)), .inl (0, 8, .inl (M.2 4)), .inl (0, 1053, .inl (M.2 5)), .inl (1, 972, .inl (M.2 6)), .inl (0, 1053, .inl (M.2 8)), .inl (0, 120, .inl (M.2 9)), .inl (3, 7, .inr (.inr (.inr (.inr q_kf)))), .inl (0, 360, .inl (M.2 17)), .inl (0, 4, .inl (M.2 21)), .inl (0, 4, .inl (M.2 22)), .inl (0, 160, .inl (M.2 23)), .inl (0, 40, .inl (M.2 24))]) rfl rfl rfl rfl rfl (Nat.le_of_ble_eq_true rfl) ⟨(Nat.le_of_ble_eq_true rfl), (Nat.le_of_ble_eq_true rfl)⟩ ⟨Nat.zero_le _, Nat.zero_le _⟩ dX6_putBack_8 (fun _ => rfl) (fun _ => rfl) (fun _ => rfl) (fun u1 => ?_)
  refine r_iload_n C 1 dX6_putBack_11 rfl ?_
  exact r_reti (x := a1) (rv := (fun u => some (.int u.1))) (hpE := (fun u => w_X6 u.2)) (t0 := (a1, (M.1, (va_up (va_up M.2 0 (u1.2 1)) 2 (u1.2 0))))) C dX6_putBack_12 (by rfl) (by rfl) (by rfl)
set_option maxRecDepth 100000 in
set_option maxHeartbeats 4000000 in
theorem o_X6_has (l : Launch) (a1 : Int32) (a2 : Int32) : q_Ok l yX6_has cX6_has 2 (some .boolean) 0 0 [.int a1, .int a2] ([]) (f_X6_has a1 a2) (fun u => some (.int u)) (fun _ => []) := by
  refine q_enter (by decide +kernel) (Nat.le_of_ble_eq_true rfl) (fun t p e s m args below meth c dC dI dA A α C => ?_)
  refine r_cut (f_X6_has.eq_1 _ _) ?_
  show q_S p l e (q_rm 0 0) s m args below meth c 2 dC dI dA A α (MQ below (q_Q α dC dI dA A ((fun u => some (.int u)) t) ((fun _ => []) t)) args s 0 0 A) 0 0 _ t 0 [(0, .int a1), (1, .int a2)] [] ([])
  refine r_iload_n C 0 dX6_has_0 rfl ?_
  refine r_iload_n C 1 dX6_has_1 rfl ?_
  refine r_ishr C dX6_has_2 ?_
  refine r_iconst C (1) dX6_has_3 rfl ?_
  refine r_iand C dX6_has_4 ?_
  refine r_iconst C (1) dX6_has_5 rfl ?_
  refine r_icmp_ne C 13 dX6_has_6 (by decide) (fun h6 => ?_) (fun h6 => ?_)
  · refine r_iconst C (1) dX6_has_9 rfl ?_
    refine r_goto C 14 dX6_has_10 (by decide) ?_
    exact r_retz (x := (1 : Int32)) (rv := (fun u => some (.int u))) (hpE := (fun _ => [])) (t0 := (1 : Int32)) C dX6_has_14 (by rfl) (by rfl) (by rfl) (by rfl)
  · refine r_iconst C (0) dX6_has_13 rfl ?_
    exact r_retz (x := (0 : Int32)) (rv := (fun u => some (.int u))) (hpE := (fun _ => [])) (t0 := (0 : Int32)) C dX6_has_14 (by rfl) (by rfl) (by rfl) (by rfl)
set_option maxRecDepth 100000 in
set_option maxHeartbeats 4000000 in
theorem k_X6_bits_4 {p : Program} {l : Launch} {e : Env} {s : State} {m : MethodId} {args : Array Value} {below : List Frame} {meth : Method} {c : Code} {dC : Nat → ClassId} {dI : Nat → Nat → Nat} {dA : Nat → ClassId} {A : Nat → Prop} {α : Nat → Nat} {t : Int32} (C : q_Cx p s m args meth c cX6_bits 3 RX6 (some .int) "bits" dC dI dA A α) (a1 : Int32)  : ∀ (n : Nat) (x1 : Int32) (x2 : Int32), q_S p l e (q_rm 0 0) s m args below meth c 3 dC dI dA A α (MQ below (q_Q α dC dI dA A ((fun u => some (.int u)) t) ((fun _ => []) t)) args s 0 0 A) 0 0 (f_X6_bits_4 a1  n x1 x2) t 4 [(1, .int x1), (2, .int x2)] [] ([]) := by
  intro n
  induction n with
  | zero =>
    intro x1 x2
    exact r_cut (f_X6_bits_4.eq_1 _ _ _) (r_none True.intro)
  | succ n ih =>
    intro x1 x2
    refine r_cut (f_X6_bits_4.eq_2 _ _ _ _) ?_
    refine r_iload_n C 1 dX6_bits_4 rfl ?_
    refine r_if_eq C 20 dX6_bits_5 (by decide) (fun h5 => ?_) (fun h5 => ?_)
    · refine r_iload_n C 0 dX6_bits_20 rfl ?_
      exact r_reti (x := x1) (rv := (fun u => some (.int u))) (hpE := (fun _ => [])) (t0 := x1) C dX6_bits_21 (by rfl) (by rfl) (by rfl)
    · refine r_iinc C 0 (x1 + 1) [(1, .int (x1 + 1)), (2, .int x2)] dX6_bits_8 rfl rfl (Nat.le_of_ble_eq_true rfl) rfl ?_
      refine r_iload_n C 1 dX6_bits_11 rfl ?_
      refine r_iload_n C 1 dX6_bits_12 rfl ?_
      refine r_iconst C (1) dX6_bits_13 rfl ?_
      refine r_isub C dX6_bits_14 ?_
      refine r_iand C dX6_bits_15 ?_
      refine r_istore_n C [(2, .int (x2 &&& (x2 - (1 : Int32)))), (1, .int (x1 + 1))] dX6_bits_16 (Nat.le_of_ble_eq_true rfl) rfl ?_
      refine r_goto C 4 dX6_bits_17 (by decide) ?_
      refine r_lv [(1, .int (x1 + 1)), (2, .int (x2 &&& (x2 - (1 : Int32))))] [1, 0] rfl ?_
      exact ih (x1 + 1) (x2 &&& (x2 - (1 : Int32)))
set_option maxRecDepth 100000 in
set_option maxHeartbeats 4000000 in
theorem o_X6_bits (l : Launch) (a1 : Int32) : q_Ok l yX6_bits cX6_bits 3 (some .int) 0 0 [.int a1] ([]) (f_X6_bits a1) (fun u => some (.int u)) (fun _ => []) := by
  refine q_enter (by decide +kernel) (Nat.le_of_ble_eq_true rfl) (fun t p e s m args below meth c dC dI dA A α C => ?_)
  refine r_cut (f_X6_bits.eq_1 _) ?_
  show q_S p l e (q_rm 0 0) s m args below meth c 3 dC dI dA A α (MQ below (q_Q α dC dI dA A ((fun u => some (.int u)) t) ((fun _ => []) t)) args s 0 0 A) 0 0 _ t 0 [(0, .int a1)] [] ([])
  refine r_iconst C (0) dX6_bits_0 rfl ?_
  refine r_istore_n C [(1, .int (0 : Int32)), (0, .int a1)] dX6_bits_1 (Nat.le_of_ble_eq_true rfl) rfl ?_
  refine r_iload_n C 1 dX6_bits_2 rfl ?_
  refine r_istore_n C [(2, .int a1), (1, .int (0 : Int32)), (0, .int a1)] dX6_bits_3 (Nat.le_of_ble_eq_true rfl) rfl ?_
  refine r_lv [(1, .int (0 : Int32)), (2, .int a1)] [1, 0] rfl ?_
  exact k_X6_bits_4 C a1   q_N (0 : Int32) a1
set_option maxRecDepth 100000 in
set_option maxHeartbeats 4000000 in
theorem o_X6_isDoll (l : Launch) (M : q_St) (a1 : Int32) : q_Ok l yX6_isDoll cX6_isDoll 2 (some .boolean) 1 22 [.ref 50, .int a1] (w_X6 M) (f_X6_isDoll M a1) (fun u => some (.int u)) (fun u => w_X6 M) := by
  refine q_enter (by decide +kernel) (Nat.le_of_ble_eq_true rfl) (fun t p e s m args below meth c dC dI dA A α C => ?_)
  refine r_cut (f_X6_isDoll.eq_1 _ _) ?_
  show q_S p l e (q_rm 1 22) s m args below meth c 2 dC dI dA A α (MQ below (q_Q α dC dI dA A ((fun u => some (.int u)) t) ((fun u => w_X6 M) t)) args s 0 0 A) 0 0 _ t 0 [(0, .ref 50), (1, .int a1)] [] (w_X6 M)
  refine r_iload_n C 1 dX6_isDoll_0 rfl ?_
  refine r_iconst C (0) dX6_isDoll_1 rfl ?_
  refine r_aload_n C 0 dX6_isDoll_2 rfl ?_
  refine r_get C 0 0 dX6_isDoll_3 K_X6 rfl rfl (Nat.le_of_ble_eq_true rfl) rfl m_915 rfl ?_
  refine r_iconst C (0) dX6_isDoll_6 rfl ?_
  refine r_iald C 1 dX6_isDoll_7 rfl rfl (fun hi7 => ?_)
  refine r_iconst C (1) dX6_isDoll_8 rfl ?_
  refine r_isub C dX6_isDoll_9 ?_
  refine r_callS C (o_X6_within l a1 (0 : Int32) ((M.2 0 (0 : Int32).toNatClampNeg) - (1 : Int32))) v_X6_within m_999 [] [.int a1, .int (0 : Int32), .int ((M.2 0 (0 : Int32).toNatClampNeg) - (1 : Int32))] [] (fun u1 => [.int u1]) (fun u1 => [.inr (5, [.ref 51, .ref 52, .ref 53, .int (M.1 3), .ref 54, .ref 55, .ref 56, .int (M.1 7), .ref 57, .ref 58, .int (M.1 10), .int (M.1 11), .int (M.1 12), .int (M.1 13), .int (M.1 14), .int (M.1 15), .ref 59, .ref 60, .int (M.1 18), .int (M.1 19), .int (M.1 20), .ref 61, .ref 62, .ref 63, .ref 64]), .inl (0, 68, .inl (M.2 0)), .inl (0, 68, .inl (M.2 1)), .inl (0, 68, .inl (M.2 2)), .inl (0, 8, .inl (M.2 4)), .inl (0, 1053, .inl (M.2 5)), .inl (1, 972, .inl (M.2 6)), .inl (0, 1053, .inl (M.2 8)), .inl (0, 120, .inl (M.2 9)), .inl (3, 7, .inr (.inr (.inr (.inr q_kf)))), .inl (0, 360, .inl (M.2 17)), .inl (0, 4, .inl (M.2 21)), .inl (0, 4, .inl (M.2 22)), .inl (0, 160, .inl (M.2 23)), .inl (0, 40, .inl (M.2 24))]) rfl rfl rfl rfl rfl (Nat.le_of_ble_eq_true rfl) ⟨(Nat.le_of_ble_eq_true rfl), (Nat.le_of_ble_eq_true rfl)⟩ ⟨Nat.zero_le _, Nat.zero_le _⟩ dX6_isDoll_10 (fun _ => rfl) (fun _ => rfl) (fun _ => rfl) (fun u1 => ?_)
  refine r_gbz (fun hz => ?_)
  exact r_retz (x := u1) (rv := (fun u => some (.int u))) (hpE := (fun u => w_X6 M)) (t0 := u1) C dX6_isDoll_13 (by rfl) (by exact q_nz1 hz) (by rfl) (by rfl)
set_option maxRecDepth 100000 in
set_option maxHeartbeats 4000000 in
theorem o_X6_isBeat (l : Launch) (M : q_St) (a1 : Int32) : q_Ok l yX6_isBeat cX6_isBeat 2 (some .boolean) 1 22 [.ref 50, .int a1] (w_X6 M) (f_X6_isBeat M a1) (fun u => some (.int u)) (fun u => w_X6 M) := by
  refine q_enter (by decide +kernel) (Nat.le_of_ble_eq_true rfl) (fun t p e s m args below meth c dC dI dA A α C => ?_)
  refine r_cut (f_X6_isBeat.eq_1 _ _) ?_
  show q_S p l e (q_rm 1 22) s m args below meth c 2 dC dI dA A α (MQ below (q_Q α dC dI dA A ((fun u => some (.int u)) t) ((fun u => w_X6 M) t)) args s 0 0 A) 0 0 _ t 0 [(0, .ref 50), (1, .int a1)] [] (w_X6 M)
  refine r_iload_n C 1 dX6_isBeat_0 rfl ?_
  refine r_iconst C (0) dX6_isBeat_1 rfl ?_
  refine r_aload_n C 0 dX6_isBeat_2 rfl ?_
  refine r_get C 0 0 dX6_isBeat_3 K_X6 rfl rfl (Nat.le_of_ble_eq_true rfl) rfl m_915 rfl ?_
  refine r_iconst C (1) dX6_isBeat_6 rfl ?_
  refine r_iald C 1 dX6_isBeat_7 rfl rfl (fun hi7 => ?_)
  refine r_iconst C (1) dX6_isBeat_8 rfl ?_
  refine r_isub C dX6_isBeat_9 ?_
  refine r_callS C (o_X6_within l a1 (0 : Int32) ((M.2 0 (1 : Int32).toNatClampNeg) - (1 : Int32))) v_X6_within m_999 [] [.int a1, .int (0 : Int32), .int ((M.2 0 (1 : Int32).toNatClampNeg) - (1 : Int32))] [] (fun u1 => [.int u1]) (fun u1 => [.inr (5, [.ref 51, .ref 52, .ref 53, .int (M.1 3), .ref 54, .ref 55, .ref 56, .int (M.1 7), .ref 57, .ref 58, .int (M.1 10), .int (M.1 11), .int (M.1 12), .int (M.1 13), .int (M.1 14), .int (M.1 15), .ref 59, .ref 60, .int (M.1 18), .int (M.1 19), .int (M.1 20), .ref 61, .ref 62, .ref 63, .ref 64]), .inl (0, 68, .inl (M.2 0)), .inl (0, 68, .inl (M.2 1)), .inl (0, 68, .inl (M.2 2)), .inl (0, 8, .inl (M.2 4)), .inl (0, 1053, .inl (M.2 5)), .inl (1, 972, .inl (M.2 6)), .inl (0, 1053, .inl (M.2 8)), .inl (0, 120, .inl (M.2 9)), .inl (3, 7, .inr (.inr (.inr (.inr q_kf)))), .inl (0, 360, .inl (M.2 17)), .inl (0, 4, .inl (M.2 21)), .inl (0, 4, .inl (M.2 22)), .inl (0, 160, .inl (M.2 23)), .inl (0, 40, .inl (M.2 24))]) rfl rfl rfl rfl rfl (Nat.le_of_ble_eq_true rfl) ⟨(Nat.le_of_ble_eq_true rfl), (Nat.le_of_ble_eq_true rfl)⟩ ⟨Nat.zero_le _, Nat.zero_le _⟩ dX6_isBeat_10 (fun _ => rfl) (fun _ => rfl) (fun _ => rfl) (fun u1 => ?_)
  refine r_gbz (fun hz => ?_)
  exact r_retz (x := u1) (rv := (fun u => some (.int u))) (hpE := (fun u => w_X6 M)) (t0 := u1) C dX6_isBeat_13 (by rfl) (by exact q_nz1 hz) (by rfl) (by rfl)
set_option maxRecDepth 100000 in
set_option maxHeartbeats 4000000 in
theorem o_X6_isKind (l : Launch) (a1 : Int32) : q_Ok l yX6_isKind cX6_isKind 1 (some .boolean) 1 22 [.int a1] ([]) (f_X6_isKind a1) (fun u => some (.int u)) (fun _ => []) := by
  refine q_enter (by decide +kernel) (Nat.le_of_ble_eq_true rfl) (fun t p e s m args below meth c dC dI dA A α C => ?_)
  refine r_cut (f_X6_isKind.eq_1 _) ?_
  show q_S p l e (q_rm 1 22) s m args below meth c 1 dC dI dA A α (MQ below (q_Q α dC dI dA A ((fun u => some (.int u)) t) ((fun _ => []) t)) args s 0 0 A) 0 0 _ t 0 [(0, .int a1)] [] ([])
  refine r_iload_n C 0 dX6_isKind_0 rfl ?_
  refine r_iconst C (0) dX6_isKind_1 rfl ?_
  refine r_bipush C (6) dX6_isKind_2 rfl ?_
  refine r_callS C (o_X6_within l a1 (0 : Int32) (6 : Int32)) v_X6_within m_999 [] [.int a1, .int (0 : Int32), .int (6 : Int32)] [] (fun u1 => [.int u1]) (fun u1 => []) rfl rfl rfl rfl rfl (Nat.le_of_ble_eq_true rfl) ⟨(Nat.le_of_ble_eq_true rfl), (Nat.le_of_ble_eq_true rfl)⟩ ⟨Nat.zero_le _, Nat.zero_le _⟩ dX6_isKind_4 (fun _ => rfl) (fun _ => rfl) (fun _ => rfl) (fun u1 => ?_)
  refine r_gbz (fun hz => ?_)
  exact r_retz (x := u1) (rv := (fun u => some (.int u))) (hpE := (fun _ => [])) (t0 := u1) C dX6_isKind_7 (by rfl) (by exact q_nz1 hz) (by rfl) (by rfl)
set_option maxRecDepth 100000 in
set_option maxHeartbeats 4000000 in
theorem o_X6_isWhat (l : Launch) (a1 : Int32) : q_Ok l yX6_isWhat cX6_isWhat 1 (some .boolean) 1 22 [.int a1] ([]) (f_X6_isWhat a1) (fun u => some (.int u)) (fun _ => []) := by
  refine q_enter (by decide +kernel) (Nat.le_of_ble_eq_true rfl) (fun t p e s m args below meth c dC dI dA A α C => ?_)
  refine r_cut (f_X6_isWhat.eq_1 _) ?_
  show q_S p l e (q_rm 1 22) s m args below meth c 1 dC dI dA A α (MQ below (q_Q α dC dI dA A ((fun u => some (.int u)) t) ((fun _ => []) t)) args s 0 0 A) 0 0 _ t 0 [(0, .int a1)] [] ([])
  refine r_iload_n C 0 dX6_isWhat_0 rfl ?_
  refine r_iconst C (0) dX6_isWhat_1 rfl ?_
  refine r_iconst C (1) dX6_isWhat_2 rfl ?_
  refine r_callS C (o_X6_within l a1 (0 : Int32) (1 : Int32)) v_X6_within m_999 [] [.int a1, .int (0 : Int32), .int (1 : Int32)] [] (fun u1 => [.int u1]) (fun u1 => []) rfl rfl rfl rfl rfl (Nat.le_of_ble_eq_true rfl) ⟨(Nat.le_of_ble_eq_true rfl), (Nat.le_of_ble_eq_true rfl)⟩ ⟨Nat.zero_le _, Nat.zero_le _⟩ dX6_isWhat_3 (fun _ => rfl) (fun _ => rfl) (fun _ => rfl) (fun u1 => ?_)
  refine r_gbz (fun hz => ?_)
  exact r_retz (x := u1) (rv := (fun u => some (.int u))) (hpE := (fun _ => [])) (t0 := u1) C dX6_isWhat_6 (by rfl) (by exact q_nz1 hz) (by rfl) (by rfl)
set_option maxRecDepth 100000 in
set_option maxHeartbeats 4000000 in
theorem o_X6_isCast (l : Launch) (M : q_St) (a1 : Int32) : q_Ok l yX6_isCast cX6_isCast 2 (some .boolean) 1 22 [.ref 50, .int a1] (w_X6 M) (f_X6_isCast M a1) (fun u => some (.int u)) (fun u => w_X6 M) := by
  refine q_enter (by decide +kernel) (Nat.le_of_ble_eq_true rfl) (fun t p e s m args below meth c dC dI dA A α C => ?_)
  refine r_cut (f_X6_isCast.eq_1 _ _) ?_
  show q_S p l e (q_rm 1 22) s m args below meth c 2 dC dI dA A α (MQ below (q_Q α dC dI dA A ((fun u => some (.int u)) t) ((fun u => w_X6 M) t)) args s 0 0 A) 0 0 _ t 0 [(0, .ref 50), (1, .int a1)] [] (w_X6 M)
  refine r_iload_n C 1 dX6_isCast_0 rfl ?_
  refine r_iconst C (0) dX6_isCast_1 rfl ?_
  refine r_iconst C (1) dX6_isCast_2 rfl ?_
  refine r_aload_n C 0 dX6_isCast_3 rfl ?_
  refine r_get C 0 0 dX6_isCast_4 K_X6 rfl rfl (Nat.le_of_ble_eq_true rfl) rfl m_915 rfl ?_
  refine r_iconst C (0) dX6_isCast_7 rfl ?_
  refine r_iald C 1 dX6_isCast_8 rfl rfl (fun hi8 => ?_)
  refine r_ishl C dX6_isCast_9 ?_
  refine r_iconst C (1) dX6_isCast_10 rfl ?_
  refine r_isub C dX6_isCast_11 ?_
  refine r_callS C (o_X6_within l a1 (0 : Int32) (((1 : Int32) <<< ((M.2 0 (0 : Int32).toNatClampNeg) &&& 31)) - (1 : Int32))) v_X6_within m_999 [] [.int a1, .int (0 : Int32), .int (((1 : Int32) <<< ((M.2 0 (0 : Int32).toNatClampNeg) &&& 31)) - (1 : Int32))] [] (fun u1 => [.int u1]) (fun u1 => [.inr (5, [.ref 51, .ref 52, .ref 53, .int (M.1 3), .ref 54, .ref 55, .ref 56, .int (M.1 7), .ref 57, .ref 58, .int (M.1 10), .int (M.1 11), .int (M.1 12), .int (M.1 13), .int (M.1 14), .int (M.1 15), .ref 59, .ref 60, .int (M.1 18), .int (M.1 19), .int (M.1 20), .ref 61, .ref 62, .ref 63, .ref 64]), .inl (0, 68, .inl (M.2 0)), .inl (0, 68, .inl (M.2 1)), .inl (0, 68, .inl (M.2 2)), .inl (0, 8, .inl (M.2 4)), .inl (0, 1053, .inl (M.2 5)), .inl (1, 972, .inl (M.2 6)), .inl (0, 1053, .inl (M.2 8)), .inl (0, 120, .inl (M.2 9)), .inl (3, 7, .inr (.inr (.inr (.inr q_kf)))), .inl (0, 360, .inl (M.2 17)), .inl (0, 4, .inl (M.2 21)), .inl (0, 4, .inl (M.2 22)), .inl (0, 160, .inl (M.2 23)), .inl (0, 40, .inl (M.2 24))]) rfl rfl rfl rfl rfl (Nat.le_of_ble_eq_true rfl) ⟨(Nat.le_of_ble_eq_true rfl), (Nat.le_of_ble_eq_true rfl)⟩ ⟨Nat.zero_le _, Nat.zero_le _⟩ dX6_isCast_12 (fun _ => rfl) (fun _ => rfl) (fun _ => rfl) (fun u1 => ?_)
  refine r_gbz (fun hz => ?_)
  exact r_retz (x := u1) (rv := (fun u => some (.int u))) (hpE := (fun u => w_X6 M)) (t0 := u1) C dX6_isCast_15 (by rfl) (by exact q_nz1 hz) (by rfl) (by rfl)
set_option maxRecDepth 100000 in
set_option maxHeartbeats 4000000 in
theorem o_X6_at (l : Launch) (a1 : Int32) (a2 : Int32) : q_Ok l yX6_at cX6_at 2 (some .int) 0 0 [.int a1, .int a2] ([]) (f_X6_at a1 a2) (fun u => some (.int u)) (fun _ => []) := by
  refine q_enter (by decide +kernel) (Nat.le_of_ble_eq_true rfl) (fun t p e s m args below meth c dC dI dA A α C => ?_)
  refine r_cut (f_X6_at.eq_1 _ _) ?_
  show q_S p l e (q_rm 0 0) s m args below meth c 2 dC dI dA A α (MQ below (q_Q α dC dI dA A ((fun u => some (.int u)) t) ((fun _ => []) t)) args s 0 0 A) 0 0 _ t 0 [(0, .int a1), (1, .int a2)] [] ([])
  refine r_bipush C (20) dX6_at_0 rfl ?_
  refine r_iconst C (3) dX6_at_2 rfl ?_
  refine r_iload_n C 0 dX6_at_3 rfl ?_
  refine r_imul C dX6_at_4 ?_
  refine r_iadd C dX6_at_5 ?_
  refine r_iload_n C 1 dX6_at_6 rfl ?_
  refine r_iadd C dX6_at_7 ?_
  exact r_reti (x := (((20 : Int32) + ((3 : Int32) * a1)) + a2)) (rv := (fun u => some (.int u))) (hpE := (fun _ => [])) (t0 := (((20 : Int32) + ((3 : Int32) * a1)) + a2)) C dX6_at_8 (by rfl) (by rfl) (by rfl)
set_option maxRecDepth 100000 in
set_option maxHeartbeats 4000000 in
theorem o_X6_dollIs (l : Launch) (M : q_St) (a1 : Int32) (a2 : Int32) : q_Ok l yX6_dollIs cX6_dollIs 3 (some .int) 1 21 [.ref 50, .int a1, .int a2] (w_X6 M) (f_X6_dollIs M a1 a2) (fun u => some (.int u)) (fun u => w_X6 M) := by
  refine q_enter (by decide +kernel) (Nat.le_of_ble_eq_true rfl) (fun t p e s m args below meth c dC dI dA A α C => ?_)
  refine r_cut (f_X6_dollIs.eq_1 _ _ _) ?_
  show q_S p l e (q_rm 1 21) s m args below meth c 3 dC dI dA A α (MQ below (q_Q α dC dI dA A ((fun u => some (.int u)) t) ((fun u => w_X6 M) t)) args s 0 0 A) 0 0 _ t 0 [(0, .ref 50), (1, .int a1), (2, .int a2)] [] (w_X6 M)
  refine r_aload_n C 0 dX6_dollIs_0 rfl ?_
  refine r_get C 0 0 dX6_dollIs_1 K_X6 rfl rfl (Nat.le_of_ble_eq_true rfl) rfl m_915 rfl ?_
  refine r_iload_n C 1 dX6_dollIs_4 rfl ?_
  refine r_iload_n C 2 dX6_dollIs_5 rfl ?_
  refine r_callS C (o_X6_at l a1 a2) v_X6_at m_1012 [] [.int a1, .int a2] [.ref 51] (fun u1 => [.int u1, .ref 51]) (fun u1 => [.inr (5, [.ref 51, .ref 52, .ref 53, .int (M.1 3), .ref 54, .ref 55, .ref 56, .int (M.1 7), .ref 57, .ref 58, .int (M.1 10), .int (M.1 11), .int (M.1 12), .int (M.1 13), .int (M.1 14), .int (M.1 15), .ref 59, .ref 60, .int (M.1 18), .int (M.1 19), .int (M.1 20), .ref 61, .ref 62, .ref 63, .ref 64]), .inl (0, 68, .inl (M.2 0)), .inl (0, 68, .inl (M.2 1)), .inl (0, 68, .inl (M.2 2)), .inl (0, 8, .inl (M.2 4)), .inl (0, 1053, .inl (M.2 5)), .inl (1, 972, .inl (M.2 6)), .inl (0, 1053, .inl (M.2 8)), .inl (0, 120, .inl (M.2 9)), .inl (3, 7, .inr (.inr (.inr (.inr q_kf)))), .inl (0, 360, .inl (M.2 17)), .inl (0, 4, .inl (M.2 21)), .inl (0, 4, .inl (M.2 22)), .inl (0, 160, .inl (M.2 23)), .inl (0, 40, .inl (M.2 24))]) rfl rfl rfl rfl rfl (Nat.le_of_ble_eq_true rfl) ⟨(Nat.le_of_ble_eq_true rfl), (Nat.le_of_ble_eq_true rfl)⟩ ⟨Nat.zero_le _, Nat.zero_le _⟩ dX6_dollIs_6 (fun _ => rfl) (fun _ => rfl) (fun _ => rfl) (fun u1 => ?_)
  refine r_iald C 1 dX6_dollIs_9 rfl rfl (fun hi9 => ?_)
  exact r_reti (x := (M.2 0 u1.toNatClampNeg)) (rv := (fun u => some (.int u))) (hpE := (fun u => w_X6 M)) (t0 := (M.2 0 u1.toNatClampNeg)) C dX6_dollIs_10 (by rfl) (by rfl) (by rfl)
set_option maxRecDepth 100000 in
set_option maxHeartbeats 4000000 in
theorem o_X6_comes (l : Launch) (M : q_St) (a1 : Int32) (a2 : Int32) : q_Ok l yX6_comes cX6_comes 4 (some .int) 1 21 [.ref 50, .int a1, .int a2] (w_X6 M) (f_X6_comes M a1 a2) (fun u => some (.int u.1)) (fun u => w_X6 u.2) := by
  refine q_enter (by decide +kernel) (Nat.le_of_ble_eq_true rfl) (fun t p e s m args below meth c dC dI dA A α C => ?_)
  refine r_cut (f_X6_comes.eq_1 _ _ _) ?_
  show q_S p l e (q_rm 1 21) s m args below meth c 4 dC dI dA A α (MQ below (q_Q α dC dI dA A ((fun u => some (.int u.1)) t) ((fun u => w_X6 u.2) t)) args s 0 0 A) 0 0 _ t 0 [(0, .ref 50), (1, .int a1), (2, .int a2)] [] (w_X6 M)
  refine r_aload_n C 0 dX6_comes_0 rfl ?_
  refine r_get C 0 0 dX6_comes_1 K_X6 rfl rfl (Nat.le_of_ble_eq_true rfl) rfl m_915 rfl ?_
  refine r_iconst C (0) dX6_comes_4 rfl ?_
  refine r_iald C 1 dX6_comes_5 rfl rfl (fun hi5 => ?_)
  refine r_istore_n C [(3, .int (M.2 0 (0 : Int32).toNatClampNeg)), (0, .ref 50), (1, .int a1), (2, .int a2)] dX6_comes_6 (Nat.le_of_ble_eq_true rfl) rfl ?_
  refine r_aload_n C 1 dX6_comes_7 rfl ?_
  refine r_get C 0 0 dX6_comes_8 K_X6 rfl rfl (Nat.le_of_ble_eq_true rfl) rfl m_915 rfl ?_
  refine r_iload_n C 0 dX6_comes_11 rfl ?_
  refine r_iconst C (0) dX6_comes_12 rfl ?_
  refine r_callS C (o_X6_at l (M.2 0 (0 : Int32).toNatClampNeg) (0 : Int32)) v_X6_at m_1012 [] [.int (M.2 0 (0 : Int32).toNatClampNeg), .int (0 : Int32)] [.ref 51] (fun u1 => [.int u1, .ref 51]) (fun u1 => [.inr (5, [.ref 51, .ref 52, .ref 53, .int (M.1 3), .ref 54, .ref 55, .ref 56, .int (M.1 7), .ref 57, .ref 58, .int (M.1 10), .int (M.1 11), .int (M.1 12), .int (M.1 13), .int (M.1 14), .int (M.1 15), .ref 59, .ref 60, .int (M.1 18), .int (M.1 19), .int (M.1 20), .ref 61, .ref 62, .ref 63, .ref 64]), .inl (0, 68, .inl (M.2 0)), .inl (0, 68, .inl (M.2 1)), .inl (0, 68, .inl (M.2 2)), .inl (0, 8, .inl (M.2 4)), .inl (0, 1053, .inl (M.2 5)), .inl (1, 972, .inl (M.2 6)), .inl (0, 1053, .inl (M.2 8)), .inl (0, 120, .inl (M.2 9)), .inl (3, 7, .inr (.inr (.inr (.inr q_kf)))), .inl (0, 360, .inl (M.2 17)), .inl (0, 4, .inl (M.2 21)), .inl (0, 4, .inl (M.2 22)), .inl (0, 160, .inl (M.2 23)), .inl (0, 40, .inl (M.2 24))]) rfl rfl rfl rfl rfl (Nat.le_of_ble_eq_true rfl) ⟨(Nat.le_of_ble_eq_true rfl), (Nat.le_of_ble_eq_true rfl)⟩ ⟨Nat.zero_le _, Nat.zero_le _⟩ dX6_comes_13 (fun _ => rfl) (fun _ => rfl) (fun _ => rfl) (fun u1 => ?_)
  refine r_iload_n C 2 dX6_comes_16 rfl ?_
  refine r_iast C 1 _ dX6_comes_17 rfl rfl rfl (fun hi17 => ?_)
  refine r_aload_n C 1 dX6_comes_18 rfl ?_
  refine r_get C 0 0 dX6_comes_19 K_X6 rfl rfl (Nat.le_of_ble_eq_true rfl) rfl m_915 rfl ?_
  refine r_iload_n C 0 dX6_comes_22 rfl ?_
  refine r_iconst C (1) dX6_comes_23 rfl ?_
  refine r_callS C (o_X6_at l (M.2 0 (0 : Int32).toNatClampNeg) (1 : Int32)) v_X6_at m_1012 [] [.int (M.2 0 (0 : Int32).toNatClampNeg), .int (1 : Int32)] [.ref 51] (fun u2 => [.int u2, .ref 51]) (fun u2 => [.inr (5, [.ref 51, .ref 52, .ref 53, .int (M.1 3), .ref 54, .ref 55, .ref 56, .int (M.1 7), .ref 57, .ref 58, .int (M.1 10), .int (M.1 11), .int (M.1 12), .int (M.1 13), .int (M.1 14), .int (M.1 15), .ref 59, .ref 60, .int (M.1 18), .int (M.1 19), .int (M.1 20), .ref 61, .ref 62, .ref 63, .ref 64]), .inl (0, 68, .inl ((upd (M.2 0) u1.toNatClampNeg a1))), .inl (0, 68, .inl (M.2 1)), .inl (0, 68, .inl (M.2 2)), .inl (0, 8, .inl (M.2 4)), .inl (0, 1053, .inl (M.2 5)), .inl (1, 972, .inl (M.2 6)), .inl (0, 1053, .inl (M.2 8)), .inl (0, 120, .inl (M.2 9)), .inl (3, 7, .inr (.inr (.inr (.inr q_kf)))), .inl (0, 360, .inl (M.2 17)), .inl (0, 4, .inl (M.2 21)), .inl (0, 4, .inl (M.2 22)), .inl (0, 160, .inl (M.2 23)), .inl (0, 40, .inl (M.2 24))]) rfl rfl rfl rfl rfl (Nat.le_of_ble_eq_true rfl) ⟨(Nat.le_of_ble_eq_true rfl), (Nat.le_of_ble_eq_true rfl)⟩ ⟨Nat.zero_le _, Nat.zero_le _⟩ dX6_comes_24 (fun _ => rfl) (fun _ => rfl) (fun _ => rfl) (fun u2 => ?_)
  refine r_iload_n C 3 dX6_comes_27 rfl ?_
  refine r_iast C 1 _ dX6_comes_28 rfl rfl rfl (fun hi28 => ?_)
  refine r_aload_n C 1 dX6_comes_29 rfl ?_
  refine r_get C 0 0 dX6_comes_30 K_X6 rfl rfl (Nat.le_of_ble_eq_true rfl) rfl m_915 rfl ?_
  refine r_iload_n C 0 dX6_comes_33 rfl ?_
  refine r_iconst C (2) dX6_comes_34 rfl ?_
  refine r_callS C (o_X6_at l (M.2 0 (0 : Int32).toNatClampNeg) (2 : Int32)) v_X6_at m_1012 [] [.int (M.2 0 (0 : Int32).toNatClampNeg), .int (2 : Int32)] [.ref 51] (fun u3 => [.int u3, .ref 51]) (fun u3 => [.inr (5, [.ref 51, .ref 52, .ref 53, .int (M.1 3), .ref 54, .ref 55, .ref 56, .int (M.1 7), .ref 57, .ref 58, .int (M.1 10), .int (M.1 11), .int (M.1 12), .int (M.1 13), .int (M.1 14), .int (M.1 15), .ref 59, .ref 60, .int (M.1 18), .int (M.1 19), .int (M.1 20), .ref 61, .ref 62, .ref 63, .ref 64]), .inl (0, 68, .inl ((upd (upd (M.2 0) u1.toNatClampNeg a1) u2.toNatClampNeg a2))), .inl (0, 68, .inl (M.2 1)), .inl (0, 68, .inl (M.2 2)), .inl (0, 8, .inl (M.2 4)), .inl (0, 1053, .inl (M.2 5)), .inl (1, 972, .inl (M.2 6)), .inl (0, 1053, .inl (M.2 8)), .inl (0, 120, .inl (M.2 9)), .inl (3, 7, .inr (.inr (.inr (.inr q_kf)))), .inl (0, 360, .inl (M.2 17)), .inl (0, 4, .inl (M.2 21)), .inl (0, 4, .inl (M.2 22)), .inl (0, 160, .inl (M.2 23)), .inl (0, 40, .inl (M.2 24))]) rfl rfl rfl rfl rfl (Nat.le_of_ble_eq_true rfl) ⟨(Nat.le_of_ble_eq_true rfl), (Nat.le_of_ble_eq_true rfl)⟩ ⟨Nat.zero_le _, Nat.zero_le _⟩ dX6_comes_35 (fun _ => rfl) (fun _ => rfl) (fun _ => rfl) (fun u3 => ?_)
  refine r_iload_n C 0 dX6_comes_38 rfl ?_
  refine r_iast C 1 _ dX6_comes_39 rfl rfl rfl (fun hi39 => ?_)
  refine r_aload_n C 1 dX6_comes_40 rfl ?_
  refine r_get C 0 0 dX6_comes_41 K_X6 rfl rfl (Nat.le_of_ble_eq_true rfl) rfl m_915 rfl ?_
  refine r_iconst C (0) dX6_comes_44 rfl ?_
  refine r_dup2 C dX6_comes_45 rfl rfl ?_
  refine r_iald C 1 dX6_comes_46 rfl rfl (fun hi46 => ?_)
  refine r_iconst C (1) dX6_comes_47 rfl ?_
  refine r_iadd C dX6_comes_48 ?_
  refine r_iast C 1 _ dX6_comes_49 rfl rfl rfl (fun hi49 => ?_)
  refine r_iload_n C 0 dX6_comes_50 rfl ?_
  exact r_reti (x := (M.2 0 (0 : Int32).toNatClampNeg)) (rv := (fun u => some (.int u.1))) (hpE := (fun u => w_X6 u.2)) (t0 := ((M.2 0 (0 : Int32).toNatClampNeg), (M.1, (va_up M.2 0 (upd (upd (upd (upd (M.2 0) u1.toNatClampNeg a1) u2.toNatClampNeg a2) u3.toNatClampNeg (M.2 0 (0 : Int32).toNatClampNeg)) (0 : Int32).toNatClampNeg (((upd (upd (upd (M.2 0) u1.toNatClampNeg a1) u2.toNatClampNeg a2) u3.toNatClampNeg (M.2 0 (0 : Int32).toNatClampNeg)) (0 : Int32).toNatClampNeg) + (1 : Int32))))))) C dX6_comes_51 (by rfl) (by rfl) (by rfl)
set_option maxRecDepth 100000 in
set_option maxHeartbeats 4000000 in
theorem o_X6_doll (l : Launch) (M : q_St) (a1 : Int32) : q_Ok l yX6_doll cX6_doll 2 (some .int) 2 44 [.ref 50, .int a1] (w_X6 M) (f_X6_doll M a1) (fun u => some (.int u.1)) (fun u => w_X6 u.2) := by
  refine q_enter (by decide +kernel) (Nat.le_of_ble_eq_true rfl) (fun t p e s m args below meth c dC dI dA A α C => ?_)
  refine r_cut (f_X6_doll.eq_1 _ _) ?_
  show q_S p l e (q_rm 2 44) s m args below meth c 2 dC dI dA A α (MQ below (q_Q α dC dI dA A ((fun u => some (.int u.1)) t) ((fun u => w_X6 u.2) t)) args s 0 0 A) 0 0 _ t 0 [(0, .ref 50), (1, .int a1)] [] (w_X6 M)
  refine r_iload_n C 1 dX6_doll_0 rfl ?_
  refine r_callS C (o_X6_isKind l a1) v_X6_isKind m_996 [] [.int a1] [] (fun u1 => [.int u1]) (fun u1 => [.inr (5, [.ref 51, .ref 52, .ref 53, .int (M.1 3), .ref 54, .ref 55, .ref 56, .int (M.1 7), .ref 57, .ref 58, .int (M.1 10), .int (M.1 11), .int (M.1 12), .int (M.1 13), .int (M.1 14), .int (M.1 15), .ref 59, .ref 60, .int (M.1 18), .int (M.1 19), .int (M.1 20), .ref 61, .ref 62, .ref 63, .ref 64]), .inl (0, 68, .inl (M.2 0)), .inl (0, 68, .inl (M.2 1)), .inl (0, 68, .inl (M.2 2)), .inl (0, 8, .inl (M.2 4)), .inl (0, 1053, .inl (M.2 5)), .inl (1, 972, .inl (M.2 6)), .inl (0, 1053, .inl (M.2 8)), .inl (0, 120, .inl (M.2 9)), .inl (3, 7, .inr (.inr (.inr (.inr q_kf)))), .inl (0, 360, .inl (M.2 17)), .inl (0, 4, .inl (M.2 21)), .inl (0, 4, .inl (M.2 22)), .inl (0, 160, .inl (M.2 23)), .inl (0, 40, .inl (M.2 24))]) rfl rfl rfl rfl rfl (Nat.le_of_ble_eq_true rfl) ⟨(Nat.le_of_ble_eq_true rfl), (Nat.le_of_ble_eq_true rfl)⟩ ⟨Nat.zero_le _, Nat.zero_le _⟩ dX6_doll_1 (fun _ => rfl) (fun _ => rfl) (fun _ => rfl) (fun u1 => ?_)
  refine r_if_ne C 14 dX6_doll_4 (by decide) (fun h4 => ?_) (fun h4 => ?_)
  · refine r_aload_n C 0 dX6_doll_7 rfl ?_
    refine r_ldc C (-1000001) dX6_doll_8 m_1002 ?_
    refine r_callV0 C (o_X6_finding l M (-1000001 : Int32)) v_X6_finding m_1003 [.int (-1000001 : Int32)] [] (50) (Or.inl ⟨0, 5, _, TX6, 25, rfl, rfl, rfl⟩) (fun u4 => [.int u4.1]) (fun u4 => [.inr (5, [.ref 51, .ref 52, .ref 53, .int (u4.2.1 3), .ref 54, .ref 55, .ref 56, .int (u4.2.1 7), .ref 57, .ref 58, .int (u4.2.1 10), .int (u4.2.1 11), .int (u4.2.1 12), .int (u4.2.1 13), .int (u4.2.1 14), .int (u4.2.1 15), .ref 59, .ref 60, .int (u4.2.1 18), .int (u4.2.1 19), .int (u4.2.1 20), .ref 61, .ref 62, .ref 63, .ref 64]), .inl (0, 68, .inl (u4.2.2 0)), .inl (0, 68, .inl (u4.2.2 1)), .inl (0, 68, .inl (u4.2.2 2)), .inl (0, 8, .inl (u4.2.2 4)), .inl (0, 1053, .inl (u4.2.2 5)), .inl (1, 972, .inl (u4.2.2 6)), .inl (0, 1053, .inl (u4.2.2 8)), .inl (0, 120, .inl (u4.2.2 9)), .inl (3, 7, .inr (.inr (.inr (.inr q_kf)))), .inl (0, 360, .inl (u4.2.2 17)), .inl (0, 4, .inl (u4.2.2 21)), .inl (0, 4, .inl (u4.2.2 22)), .inl (0, 160, .inl (u4.2.2 23)), .inl (0, 40, .inl (u4.2.2 24))]) rfl rfl rfl (Nat.le_of_ble_eq_true rfl) ⟨(Nat.le_of_ble_eq_true rfl), (Nat.le_of_ble_eq_true rfl)⟩ ⟨Nat.zero_le _, Nat.zero_le _⟩ dX6_doll_10 (fun _ => rfl) (fun _ => rfl) (fun _ => rfl) (fun u4 => ?_)
    exact r_reti (x := u4.1) (rv := (fun u => some (.int u.1))) (hpE := (fun u => w_X6 u.2)) (t0 := (u4.1, u4.2)) C dX6_doll_13 (by rfl) (by rfl) (by rfl)
  · refine r_aload_n C 0 dX6_doll_14 rfl ?_
    refine r_get C 0 0 dX6_doll_15 K_X6 rfl rfl (Nat.le_of_ble_eq_true rfl) rfl m_915 rfl ?_
    refine r_iconst C (0) dX6_doll_18 rfl ?_
    refine r_iald C 1 dX6_doll_19 rfl rfl (fun hi19 => ?_)
    refine r_bipush C (8) dX6_doll_20 rfl ?_
    refine r_icmp_ne C 34 dX6_doll_22 (by decide) (fun h22 => ?_) (fun h22 => ?_)
    · refine r_aload_n C 0 dX6_doll_25 rfl ?_
      refine r_ldc C (-1000002) dX6_doll_26 m_1007 ?_
      refine r_callV0 C (o_X6_finding l M (-1000002 : Int32)) v_X6_finding m_1003 [.int (-1000002 : Int32)] [] (50) (Or.inl ⟨0, 5, _, TX6, 25, rfl, rfl, rfl⟩) (fun u3 => [.int u3.1]) (fun u3 => [.inr (5, [.ref 51, .ref 52, .ref 53, .int (u3.2.1 3), .ref 54, .ref 55, .ref 56, .int (u3.2.1 7), .ref 57, .ref 58, .int (u3.2.1 10), .int (u3.2.1 11), .int (u3.2.1 12), .int (u3.2.1 13), .int (u3.2.1 14), .int (u3.2.1 15), .ref 59, .ref 60, .int (u3.2.1 18), .int (u3.2.1 19), .int (u3.2.1 20), .ref 61, .ref 62, .ref 63, .ref 64]), .inl (0, 68, .inl (u3.2.2 0)), .inl (0, 68, .inl (u3.2.2 1)), .inl (0, 68, .inl (u3.2.2 2)), .inl (0, 8, .inl (u3.2.2 4)), .inl (0, 1053, .inl (u3.2.2 5)), .inl (1, 972, .inl (u3.2.2 6)), .inl (0, 1053, .inl (u3.2.2 8)), .inl (0, 120, .inl (u3.2.2 9)), .inl (3, 7, .inr (.inr (.inr (.inr q_kf)))), .inl (0, 360, .inl (u3.2.2 17)), .inl (0, 4, .inl (u3.2.2 21)), .inl (0, 4, .inl (u3.2.2 22)), .inl (0, 160, .inl (u3.2.2 23)), .inl (0, 40, .inl (u3.2.2 24))]) rfl rfl rfl (Nat.le_of_ble_eq_true rfl) ⟨(Nat.le_of_ble_eq_true rfl), (Nat.le_of_ble_eq_true rfl)⟩ ⟨Nat.zero_le _, Nat.zero_le _⟩ dX6_doll_28 (fun _ => rfl) (fun _ => rfl) (fun _ => rfl) (fun u3 => ?_)
      refine r_goto C 40 dX6_doll_31 (by decide) ?_
      exact r_reti (x := u3.1) (rv := (fun u => some (.int u.1))) (hpE := (fun u => w_X6 u.2)) (t0 := (u3.1, u3.2)) C dX6_doll_40 (by rfl) (by rfl) (by rfl)
    · refine r_aload_n C 0 dX6_doll_34 rfl ?_
      refine r_iload_n C 1 dX6_doll_35 rfl ?_
      refine r_iconst C (3) dX6_doll_36 rfl ?_
      refine r_callV0 C (o_X6_comes l M a1 (3 : Int32)) v_X6_comes m_1008 [.int a1, .int (3 : Int32)] [] (50) (Or.inl ⟨0, 5, _, TX6, 25, rfl, rfl, rfl⟩) (fun u2 => [.int u2.1]) (fun u2 => [.inr (5, [.ref 51, .ref 52, .ref 53, .int (u2.2.1 3), .ref 54, .ref 55, .ref 56, .int (u2.2.1 7), .ref 57, .ref 58, .int (u2.2.1 10), .int (u2.2.1 11), .int (u2.2.1 12), .int (u2.2.1 13), .int (u2.2.1 14), .int (u2.2.1 15), .ref 59, .ref 60, .int (u2.2.1 18), .int (u2.2.1 19), .int (u2.2.1 20), .ref 61, .ref 62, .ref 63, .ref 64]), .inl (0, 68, .inl (u2.2.2 0)), .inl (0, 68, .inl (u2.2.2 1)), .inl (0, 68, .inl (u2.2.2 2)), .inl (0, 8, .inl (u2.2.2 4)), .inl (0, 1053, .inl (u2.2.2 5)), .inl (1, 972, .inl (u2.2.2 6)), .inl (0, 1053, .inl (u2.2.2 8)), .inl (0, 120, .inl (u2.2.2 9)), .inl (3, 7, .inr (.inr (.inr (.inr q_kf)))), .inl (0, 360, .inl (u2.2.2 17)), .inl (0, 4, .inl (u2.2.2 21)), .inl (0, 4, .inl (u2.2.2 22)), .inl (0, 160, .inl (u2.2.2 23)), .inl (0, 40, .inl (u2.2.2 24))]) rfl rfl rfl (Nat.le_of_ble_eq_true rfl) ⟨(Nat.le_of_ble_eq_true rfl), (Nat.le_of_ble_eq_true rfl)⟩ ⟨Nat.zero_le _, Nat.zero_le _⟩ dX6_doll_37 (fun _ => rfl) (fun _ => rfl) (fun _ => rfl) (fun u2 => ?_)
      exact r_reti (x := u2.1) (rv := (fun u => some (.int u.1))) (hpE := (fun u => w_X6 u.2)) (t0 := (u2.1, u2.2)) C dX6_doll_40 (by rfl) (by rfl) (by rfl)
set_option maxRecDepth 100000 in
set_option maxHeartbeats 4000000 in
theorem o_X6_above (l : Launch) (a1 : Int32) : q_Ok l yX6_above cX6_above 1 (some .int) 0 0 [.int a1] ([]) (f_X6_above a1) (fun u => some (.int u)) (fun _ => []) := by
  refine q_enter (by decide +kernel) (Nat.le_of_ble_eq_true rfl) (fun t p e s m args below meth c dC dI dA A α C => ?_)
  refine r_cut (f_X6_above.eq_1 _) ?_
  show q_S p l e (q_rm 0 0) s m args below meth c 1 dC dI dA A α (MQ below (q_Q α dC dI dA A ((fun u => some (.int u)) t) ((fun _ => []) t)) args s 0 0 A) 0 0 _ t 0 [(0, .int a1)] [] ([])
  refine r_iload_n C 0 dX6_above_0 rfl ?_
  refine r_if_ne C 8 dX6_above_1 (by decide) (fun h1 => ?_) (fun h1 => ?_)
  · refine r_iconst C (-1) dX6_above_4 rfl ?_
    refine r_goto C 37 dX6_above_5 (by decide) ?_
    exact r_reti (x := (-1 : Int32)) (rv := (fun u => some (.int u))) (hpE := (fun _ => [])) (t0 := (-1 : Int32)) C dX6_above_37 (by rfl) (by rfl) (by rfl)
  · refine r_iload_n C 0 dX6_above_8 rfl ?_
    refine r_iconst C (2) dX6_above_9 rfl ?_
    refine r_icmp_ne C 17 dX6_above_10 (by decide) (fun h10 => ?_) (fun h10 => ?_)
    · refine r_iconst C (1) dX6_above_13 rfl ?_
      refine r_goto C 37 dX6_above_14 (by decide) ?_
      exact r_reti (x := (1 : Int32)) (rv := (fun u => some (.int u))) (hpE := (fun _ => [])) (t0 := (1 : Int32)) C dX6_above_37 (by rfl) (by rfl) (by rfl)
    · refine r_iload_n C 0 dX6_above_17 rfl ?_
      refine r_iconst C (4) dX6_above_18 rfl ?_
      refine r_icmp_ne C 26 dX6_above_19 (by decide) (fun h19 => ?_) (fun h19 => ?_)
      · refine r_iconst C (3) dX6_above_22 rfl ?_
        refine r_goto C 37 dX6_above_23 (by decide) ?_
        exact r_reti (x := (3 : Int32)) (rv := (fun u => some (.int u))) (hpE := (fun _ => [])) (t0 := (3 : Int32)) C dX6_above_37 (by rfl) (by rfl) (by rfl)
      · refine r_iload_n C 0 dX6_above_26 rfl ?_
        refine r_bipush C (6) dX6_above_27 rfl ?_
        refine r_icmp_ne C 36 dX6_above_29 (by decide) (fun h29 => ?_) (fun h29 => ?_)
        · refine r_iconst C (2) dX6_above_32 rfl ?_
          refine r_goto C 37 dX6_above_33 (by decide) ?_
          exact r_reti (x := (2 : Int32)) (rv := (fun u => some (.int u))) (hpE := (fun _ => [])) (t0 := (2 : Int32)) C dX6_above_37 (by rfl) (by rfl) (by rfl)
        · refine r_iconst C (0) dX6_above_36 rfl ?_
          exact r_reti (x := (0 : Int32)) (rv := (fun u => some (.int u))) (hpE := (fun _ => [])) (t0 := (0 : Int32)) C dX6_above_37 (by rfl) (by rfl) (by rfl)
set_option maxRecDepth 100000 in
set_option maxHeartbeats 4000000 in
theorem k_X6_isUnder_2 {p : Program} {l : Launch} {e : Env} {s : State} {m : MethodId} {args : Array Value} {below : List Frame} {meth : Method} {c : Code} {dC : Nat → ClassId} {dI : Nat → Nat → Nat} {dA : Nat → ClassId} {A : Nat → Prop} {α : Nat → Nat} {t : Int32} (C : q_Cx p s m args meth c cX6_isUnder 3 RX6 (some .boolean) "isUnder" dC dI dA A α) (a1 : Int32) (a2 : Int32)  : ∀ (n : Nat) (x1 : Int32) (x2 : Int32), q_S p l e (q_rm 1 20) s m args below meth c 3 dC dI dA A α (MQ below (q_Q α dC dI dA A ((fun u => some (.int u)) t) ((fun _ => []) t)) args s 0 0 A) 0 0 (f_X6_isUnder_2 a1 a2  n x1 x2) t 2 [(1, .int x1), (2, .int x2)] [] ([]) := by
  intro n
  induction n with
  | zero =>
    intro x1 x2
    exact r_cut (f_X6_isUnder_2.eq_1 _ _ _ _) (r_none True.intro)
  | succ n ih =>
    intro x1 x2
    refine r_cut (f_X6_isUnder_2.eq_2 _ _ _ _ _) ?_
    refine r_iload_n C 1 dX6_isUnder_2 rfl ?_
    refine r_if_lt C 19 dX6_isUnder_3 (by decide) (fun h3 => ?_) (fun h3 => ?_)
    · refine r_iload_n C 1 dX6_isUnder_19 rfl ?_
      refine r_if_lt C 27 dX6_isUnder_20 (by decide) (fun h20 => ?_) (fun h20 => ?_)
      · refine r_iconst C (0) dX6_isUnder_27 rfl ?_
        exact r_retz (x := (0 : Int32)) (rv := (fun u => some (.int u))) (hpE := (fun _ => [])) (t0 := (0 : Int32)) C dX6_isUnder_28 (by rfl) (by rfl) (by rfl) (by rfl)
      · refine r_iconst C (1) dX6_isUnder_23 rfl ?_
        refine r_goto C 28 dX6_isUnder_24 (by decide) ?_
        exact r_retz (x := (1 : Int32)) (rv := (fun u => some (.int u))) (hpE := (fun _ => [])) (t0 := (1 : Int32)) C dX6_isUnder_28 (by rfl) (by rfl) (by rfl) (by rfl)
    · refine r_iload_n C 1 dX6_isUnder_6 rfl ?_
      refine r_iload_n C 0 dX6_isUnder_7 rfl ?_
      refine r_icmp_eq C 19 dX6_isUnder_8 (by decide) (fun h8 => ?_) (fun h8 => ?_)
      · refine r_iload_n C 1 dX6_isUnder_19 rfl ?_
        refine r_if_lt C 27 dX6_isUnder_20 (by decide) (fun h20 => ?_) (fun h20 => ?_)
        · refine r_iconst C (0) dX6_isUnder_27 rfl ?_
          exact r_retz (x := (0 : Int32)) (rv := (fun u => some (.int u))) (hpE := (fun _ => [])) (t0 := (0 : Int32)) C dX6_isUnder_28 (by rfl) (by rfl) (by rfl) (by rfl)
        · refine r_iconst C (1) dX6_isUnder_23 rfl ?_
          refine r_goto C 28 dX6_isUnder_24 (by decide) ?_
          exact r_retz (x := (1 : Int32)) (rv := (fun u => some (.int u))) (hpE := (fun _ => [])) (t0 := (1 : Int32)) C dX6_isUnder_28 (by rfl) (by rfl) (by rfl) (by rfl)
      · refine r_iload_n C 1 dX6_isUnder_11 rfl ?_
        refine r_callS C (o_X6_above l x2) v_X6_above m_1034 [] [.int x2] [] (fun u1 => [.int u1]) (fun u1 => []) rfl rfl rfl rfl rfl (Nat.le_of_ble_eq_true rfl) ⟨(Nat.le_of_ble_eq_true rfl), (Nat.le_of_ble_eq_true rfl)⟩ ⟨Nat.zero_le _, Nat.zero_le _⟩ dX6_isUnder_12 (fun _ => rfl) (fun _ => rfl) (fun _ => rfl) (fun u1 => ?_)
        refine r_istore_n C [(2, .int u1), (1, .int x1)] dX6_isUnder_15 (Nat.le_of_ble_eq_true rfl) rfl ?_
        refine r_goto C 2 dX6_isUnder_16 (by decide) ?_
        refine r_lv [(1, .int x1), (2, .int u1)] [1, 0] rfl ?_
        exact ih x1 u1
set_option maxRecDepth 100000 in
set_option maxHeartbeats 4000000 in
theorem o_X6_isUnder (l : Launch) (a1 : Int32) (a2 : Int32) : q_Ok l yX6_isUnder cX6_isUnder 3 (some .boolean) 1 20 [.int a1, .int a2] ([]) (f_X6_isUnder a1 a2) (fun u => some (.int u)) (fun _ => []) := by
  refine q_enter (by decide +kernel) (Nat.le_of_ble_eq_true rfl) (fun t p e s m args below meth c dC dI dA A α C => ?_)
  refine r_cut (f_X6_isUnder.eq_1 _ _) ?_
  show q_S p l e (q_rm 1 20) s m args below meth c 3 dC dI dA A α (MQ below (q_Q α dC dI dA A ((fun u => some (.int u)) t) ((fun _ => []) t)) args s 0 0 A) 0 0 _ t 0 [(0, .int a1), (1, .int a2)] [] ([])
  refine r_iload_n C 0 dX6_isUnder_0 rfl ?_
  refine r_istore_n C [(2, .int a1), (0, .int a1), (1, .int a2)] dX6_isUnder_1 (Nat.le_of_ble_eq_true rfl) rfl ?_
  refine r_lv [(1, .int a2), (2, .int a1)] [2, 0] rfl ?_
  exact k_X6_isUnder_2 C a1 a2   q_N a2 a1
set_option maxRecDepth 100000 in
set_option maxHeartbeats 4000000 in
theorem o_X6_wants (l : Launch) (M : q_St) (a1 : Int32) : q_Ok l yX6_wants cX6_wants 3 (some .int) 2 43 [.ref 50, .int a1] (w_X6 M) (f_X6_wants M a1) (fun u => some (.int u)) (fun u => w_X6 M) := by
  refine q_enter (by decide +kernel) (Nat.le_of_ble_eq_true rfl) (fun t p e s m args below meth c dC dI dA A α C => ?_)
  refine r_cut (f_X6_wants.eq_1 _ _) ?_
  show q_S p l e (q_rm 2 43) s m args below meth c 3 dC dI dA A α (MQ below (q_Q α dC dI dA A ((fun u => some (.int u)) t) ((fun u => w_X6 M) t)) args s 0 0 A) 0 0 _ t 0 [(0, .ref 50), (1, .int a1)] [] (w_X6 M)
  refine r_aload_n C 0 dX6_wants_0 rfl ?_
  refine r_iload_n C 1 dX6_wants_1 rfl ?_
  refine r_iconst C (0) dX6_wants_2 rfl ?_
  refine r_callV0 C (o_X6_dollIs l M a1 (0 : Int32)) v_X6_dollIs m_1023 [.int a1, .int (0 : Int32)] [] (50) (Or.inl ⟨0, 5, _, TX6, 25, rfl, rfl, rfl⟩) (fun u1 => [.int u1]) (fun u1 => [.inr (5, [.ref 51, .ref 52, .ref 53, .int (M.1 3), .ref 54, .ref 55, .ref 56, .int (M.1 7), .ref 57, .ref 58, .int (M.1 10), .int (M.1 11), .int (M.1 12), .int (M.1 13), .int (M.1 14), .int (M.1 15), .ref 59, .ref 60, .int (M.1 18), .int (M.1 19), .int (M.1 20), .ref 61, .ref 62, .ref 63, .ref 64]), .inl (0, 68, .inl (M.2 0)), .inl (0, 68, .inl (M.2 1)), .inl (0, 68, .inl (M.2 2)), .inl (0, 8, .inl (M.2 4)), .inl (0, 1053, .inl (M.2 5)), .inl (1, 972, .inl (M.2 6)), .inl (0, 1053, .inl (M.2 8)), .inl (0, 120, .inl (M.2 9)), .inl (3, 7, .inr (.inr (.inr (.inr q_kf)))), .inl (0, 360, .inl (M.2 17)), .inl (0, 4, .inl (M.2 21)), .inl (0, 4, .inl (M.2 22)), .inl (0, 160, .inl (M.2 23)), .inl (0, 40, .inl (M.2 24))]) rfl rfl rfl (Nat.le_of_ble_eq_true rfl) ⟨(Nat.le_of_ble_eq_true rfl), (Nat.le_of_ble_eq_true rfl)⟩ ⟨Nat.zero_le _, Nat.zero_le _⟩ dX6_wants_3 (fun _ => rfl) (fun _ => rfl) (fun _ => rfl) (fun u1 => ?_)
  refine r_istore_n C [(2, .int u1), (0, .ref 50), (1, .int a1)] dX6_wants_6 (Nat.le_of_ble_eq_true rfl) rfl ?_
  refine r_iload_n C 0 dX6_wants_7 rfl ?_
  refine r_iconst C (1) dX6_wants_8 rfl ?_
  refine r_icmp_ne C 16 dX6_wants_9 (by decide) (fun h9 => ?_) (fun h9 => ?_)
  · refine r_iconst C (2) dX6_wants_12 rfl ?_
    refine r_goto C 29 dX6_wants_13 (by decide) ?_
    exact r_reti (x := (2 : Int32)) (rv := (fun u => some (.int u))) (hpE := (fun u => w_X6 M)) (t0 := (2 : Int32)) C dX6_wants_29 (by rfl) (by rfl) (by rfl)
  · refine r_iload_n C 0 dX6_wants_16 rfl ?_
    refine r_iconst C (3) dX6_wants_17 rfl ?_
    refine r_callS C (o_X6_isUnder l u1 (3 : Int32)) v_X6_isUnder m_1031 [] [.int u1, .int (3 : Int32)] [] (fun u2 => [.int u2]) (fun u2 => [.inr (5, [.ref 51, .ref 52, .ref 53, .int (M.1 3), .ref 54, .ref 55, .ref 56, .int (M.1 7), .ref 57, .ref 58, .int (M.1 10), .int (M.1 11), .int (M.1 12), .int (M.1 13), .int (M.1 14), .int (M.1 15), .ref 59, .ref 60, .int (M.1 18), .int (M.1 19), .int (M.1 20), .ref 61, .ref 62, .ref 63, .ref 64]), .inl (0, 68, .inl (M.2 0)), .inl (0, 68, .inl (M.2 1)), .inl (0, 68, .inl (M.2 2)), .inl (0, 8, .inl (M.2 4)), .inl (0, 1053, .inl (M.2 5)), .inl (1, 972, .inl (M.2 6)), .inl (0, 1053, .inl (M.2 8)), .inl (0, 120, .inl (M.2 9)), .inl (3, 7, .inr (.inr (.inr (.inr q_kf)))), .inl (0, 360, .inl (M.2 17)), .inl (0, 4, .inl (M.2 21)), .inl (0, 4, .inl (M.2 22)), .inl (0, 160, .inl (M.2 23)), .inl (0, 40, .inl (M.2 24))]) rfl rfl rfl rfl rfl (Nat.le_of_ble_eq_true rfl) ⟨(Nat.le_of_ble_eq_true rfl), (Nat.le_of_ble_eq_true rfl)⟩ ⟨Nat.zero_le _, Nat.zero_le _⟩ dX6_wants_18 (fun _ => rfl) (fun _ => rfl) (fun _ => rfl) (fun u2 => ?_)
    refine r_if_eq C 28 dX6_wants_21 (by decide) (fun h21 => ?_) (fun h21 => ?_)
    · refine r_iconst C (0) dX6_wants_28 rfl ?_
      exact r_reti (x := (0 : Int32)) (rv := (fun u => some (.int u))) (hpE := (fun u => w_X6 M)) (t0 := (0 : Int32)) C dX6_wants_29 (by rfl) (by rfl) (by rfl)
    · refine r_iconst C (1) dX6_wants_24 rfl ?_
      refine r_goto C 29 dX6_wants_25 (by decide) ?_
      exact r_reti (x := (1 : Int32)) (rv := (fun u => some (.int u))) (hpE := (fun u => w_X6 M)) (t0 := (1 : Int32)) C dX6_wants_29 (by rfl) (by rfl) (by rfl)
set_option maxRecDepth 100000 in
set_option maxHeartbeats 4000000 in
theorem o_X6_takesOn (l : Launch) (M : q_St) (a1 : Int32) : q_Ok l yX6_takesOn cX6_takesOn 3 (some .int) 2 43 [.ref 50, .int a1] (w_X6 M) (f_X6_takesOn M a1) (fun u => some (.int u)) (fun u => w_X6 M) := by
  refine q_enter (by decide +kernel) (Nat.le_of_ble_eq_true rfl) (fun t p e s m args below meth c dC dI dA A α C => ?_)
  refine r_cut (f_X6_takesOn.eq_1 _ _) ?_
  show q_S p l e (q_rm 2 43) s m args below meth c 3 dC dI dA A α (MQ below (q_Q α dC dI dA A ((fun u => some (.int u)) t) ((fun u => w_X6 M) t)) args s 0 0 A) 0 0 _ t 0 [(0, .ref 50), (1, .int a1)] [] (w_X6 M)
  refine r_aload_n C 0 dX6_takesOn_0 rfl ?_
  refine r_iload_n C 1 dX6_takesOn_1 rfl ?_
  refine r_iconst C (1) dX6_takesOn_2 rfl ?_
  refine r_callV0 C (o_X6_dollIs l M a1 (1 : Int32)) v_X6_dollIs m_1023 [.int a1, .int (1 : Int32)] [] (50) (Or.inl ⟨0, 5, _, TX6, 25, rfl, rfl, rfl⟩) (fun u1 => [.int u1]) (fun u1 => [.inr (5, [.ref 51, .ref 52, .ref 53, .int (M.1 3), .ref 54, .ref 55, .ref 56, .int (M.1 7), .ref 57, .ref 58, .int (M.1 10), .int (M.1 11), .int (M.1 12), .int (M.1 13), .int (M.1 14), .int (M.1 15), .ref 59, .ref 60, .int (M.1 18), .int (M.1 19), .int (M.1 20), .ref 61, .ref 62, .ref 63, .ref 64]), .inl (0, 68, .inl (M.2 0)), .inl (0, 68, .inl (M.2 1)), .inl (0, 68, .inl (M.2 2)), .inl (0, 8, .inl (M.2 4)), .inl (0, 1053, .inl (M.2 5)), .inl (1, 972, .inl (M.2 6)), .inl (0, 1053, .inl (M.2 8)), .inl (0, 120, .inl (M.2 9)), .inl (3, 7, .inr (.inr (.inr (.inr q_kf)))), .inl (0, 360, .inl (M.2 17)), .inl (0, 4, .inl (M.2 21)), .inl (0, 4, .inl (M.2 22)), .inl (0, 160, .inl (M.2 23)), .inl (0, 40, .inl (M.2 24))]) rfl rfl rfl (Nat.le_of_ble_eq_true rfl) ⟨(Nat.le_of_ble_eq_true rfl), (Nat.le_of_ble_eq_true rfl)⟩ ⟨Nat.zero_le _, Nat.zero_le _⟩ dX6_takesOn_3 (fun _ => rfl) (fun _ => rfl) (fun _ => rfl) (fun u1 => ?_)
  refine r_istore_n C [(2, .int u1), (0, .ref 50), (1, .int a1)] dX6_takesOn_6 (Nat.le_of_ble_eq_true rfl) rfl ?_
  refine r_aload_n C 1 dX6_takesOn_7 rfl ?_
  refine r_iload_n C 2 dX6_takesOn_8 rfl ?_
  refine r_iconst C (0) dX6_takesOn_9 rfl ?_
  refine r_callV0 C (o_X6_dollIs l M a1 (0 : Int32)) v_X6_dollIs m_1023 [.int a1, .int (0 : Int32)] [] (50) (Or.inl ⟨0, 5, _, TX6, 25, rfl, rfl, rfl⟩) (fun u2 => [.int u2]) (fun u2 => [.inr (5, [.ref 51, .ref 52, .ref 53, .int (M.1 3), .ref 54, .ref 55, .ref 56, .int (M.1 7), .ref 57, .ref 58, .int (M.1 10), .int (M.1 11), .int (M.1 12), .int (M.1 13), .int (M.1 14), .int (M.1 15), .ref 59, .ref 60, .int (M.1 18), .int (M.1 19), .int (M.1 20), .ref 61, .ref 62, .ref 63, .ref 64]), .inl (0, 68, .inl (M.2 0)), .inl (0, 68, .inl (M.2 1)), .inl (0, 68, .inl (M.2 2)), .inl (0, 8, .inl (M.2 4)), .inl (0, 1053, .inl (M.2 5)), .inl (1, 972, .inl (M.2 6)), .inl (0, 1053, .inl (M.2 8)), .inl (0, 120, .inl (M.2 9)), .inl (3, 7, .inr (.inr (.inr (.inr q_kf)))), .inl (0, 360, .inl (M.2 17)), .inl (0, 4, .inl (M.2 21)), .inl (0, 4, .inl (M.2 22)), .inl (0, 160, .inl (M.2 23)), .inl (0, 40, .inl (M.2 24))]) rfl rfl rfl (Nat.le_of_ble_eq_true rfl) ⟨(Nat.le_of_ble_eq_true rfl), (Nat.le_of_ble_eq_true rfl)⟩ ⟨Nat.zero_le _, Nat.zero_le _⟩ dX6_takesOn_10 (fun _ => rfl) (fun _ => rfl) (fun _ => rfl) (fun u2 => ?_)
  refine r_tsw C (1) 52 dX6_takesOn_13 (by decide) (by decide) rfl (by decide) (fun h13_1 => ?_) (fun h13_1 => ?_)
  · refine r_iconst C (1) dX6_takesOn_52 rfl ?_
    exact r_reti (x := (1 : Int32)) (rv := (fun u => some (.int u))) (hpE := (fun u => w_X6 M)) (t0 := (1 : Int32)) C dX6_takesOn_53 (by rfl) (by rfl) (by rfl)
  refine r_tsw C (2) 54 dX6_takesOn_13 (by decide) (by decide) rfl (by decide) (fun h13_2 => ?_) (fun h13_2 => ?_)
  · refine r_iconst C (3) dX6_takesOn_54 rfl ?_
    exact r_reti (x := (3 : Int32)) (rv := (fun u => some (.int u))) (hpE := (fun u => w_X6 M)) (t0 := (3 : Int32)) C dX6_takesOn_55 (by rfl) (by rfl) (by rfl)
  refine r_tsw C (3) 56 dX6_takesOn_13 (by decide) (by decide) rfl (by decide) (fun h13_3 => ?_) (fun h13_3 => ?_)
  · refine r_iconst C (2) dX6_takesOn_56 rfl ?_
    refine r_iload_n C 0 dX6_takesOn_57 rfl ?_
    refine r_imul C dX6_takesOn_58 ?_
    exact r_reti (x := ((2 : Int32) * u1)) (rv := (fun u => some (.int u))) (hpE := (fun u => w_X6 M)) (t0 := ((2 : Int32) * u1)) C dX6_takesOn_59 (by rfl) (by rfl) (by rfl)
  refine r_tsw C (4) 60 dX6_takesOn_13 (by decide) (by decide) rfl (by decide) (fun h13_4 => ?_) (fun h13_4 => ?_)
  · refine r_iconst C (2) dX6_takesOn_60 rfl ?_
    refine r_iload_n C 0 dX6_takesOn_61 rfl ?_
    refine r_imul C dX6_takesOn_62 ?_
    refine r_iconst C (3) dX6_takesOn_63 rfl ?_
    refine r_iadd C dX6_takesOn_64 ?_
    exact r_reti (x := (((2 : Int32) * u1) + (3 : Int32))) (rv := (fun u => some (.int u))) (hpE := (fun u => w_X6 M)) (t0 := (((2 : Int32) * u1) + (3 : Int32))) C dX6_takesOn_65 (by rfl) (by rfl) (by rfl)
  refine r_tsw C (5) 66 dX6_takesOn_13 (by decide) (by decide) rfl (by decide) (fun h13_5 => ?_) (fun h13_5 => ?_)
  · refine r_iconst C (1) dX6_takesOn_66 rfl ?_
    refine r_iload_n C 0 dX6_takesOn_67 rfl ?_
    refine r_iconst C (2) dX6_takesOn_68 rfl ?_
    refine r_idiv C dX6_takesOn_69 (by decide) ?_
    refine r_mmax C dX6_takesOn_70 m_1041 m_844 m_8 m_845 (Nat.le_of_ble_eq_true rfl) (Nat.le_of_ble_eq_true rfl) (Nat.zero_le _) (Nat.zero_le _) ?_
    exact r_reti (x := (if (1 : Int32) < (u1 / (2 : Int32)) then (u1 / (2 : Int32)) else (1 : Int32))) (rv := (fun u => some (.int u))) (hpE := (fun u => w_X6 M)) (t0 := (if (1 : Int32) < (u1 / (2 : Int32)) then (u1 / (2 : Int32)) else (1 : Int32))) C dX6_takesOn_73 (by rfl) (by rfl) (by rfl)
  refine r_tsw C (6) 74 dX6_takesOn_13 (by decide) (by decide) rfl (by decide) (fun h13_6 => ?_) (fun h13_6 => ?_)
  · refine r_bipush C (6) dX6_takesOn_74 rfl ?_
    exact r_reti (x := (6 : Int32)) (rv := (fun u => some (.int u))) (hpE := (fun u => w_X6 M)) (t0 := (6 : Int32)) C dX6_takesOn_76 (by rfl) (by rfl) (by rfl)
  have g0 := True.intro
  have g13_1 := q_neI h13_1 (z := 1) (by decide)
  have g13_2 := q_neI h13_2 (z := 2) (by decide)
  have g13_3 := q_neI h13_3 (z := 3) (by decide)
  have g13_4 := q_neI h13_4 (z := 4) (by decide)
  have g13_5 := q_neI h13_5 (z := 5) (by decide)
  have g13_6 := q_neI h13_6 (z := 6) (by decide)
  refine r_tswD C 77 dX6_takesOn_13 (by omega) (by decide) ?_
  refine r_iload_n C 0 dX6_takesOn_77 rfl ?_
  exact r_reti (x := u1) (rv := (fun u => some (.int u))) (hpE := (fun u => w_X6 M)) (t0 := u1) C dX6_takesOn_78 (by rfl) (by rfl) (by rfl)
set_option maxRecDepth 100000 in
set_option maxHeartbeats 4000000 in
theorem o_X6_voice (l : Launch) (M : q_St) (a1 : Int32) : q_Ok l yX6_voice cX6_voice 2 (some .int) 2 43 [.ref 50, .int a1] (w_X6 M) (f_X6_voice M a1) (fun u => some (.int u)) (fun u => w_X6 M) := by
  refine q_enter (by decide +kernel) (Nat.le_of_ble_eq_true rfl) (fun t p e s m args below meth c dC dI dA A α C => ?_)
  refine r_cut (f_X6_voice.eq_1 _ _) ?_
  show q_S p l e (q_rm 2 43) s m args below meth c 2 dC dI dA A α (MQ below (q_Q α dC dI dA A ((fun u => some (.int u)) t) ((fun u => w_X6 M) t)) args s 0 0 A) 0 0 _ t 0 [(0, .ref 50), (1, .int a1)] [] (w_X6 M)
  refine r_aload_n C 0 dX6_voice_0 rfl ?_
  refine r_iload_n C 1 dX6_voice_1 rfl ?_
  refine r_iconst C (0) dX6_voice_2 rfl ?_
  refine r_callV0 C (o_X6_dollIs l M a1 (0 : Int32)) v_X6_dollIs m_1023 [.int a1, .int (0 : Int32)] [] (50) (Or.inl ⟨0, 5, _, TX6, 25, rfl, rfl, rfl⟩) (fun u1 => [.int u1]) (fun u1 => [.inr (5, [.ref 51, .ref 52, .ref 53, .int (M.1 3), .ref 54, .ref 55, .ref 56, .int (M.1 7), .ref 57, .ref 58, .int (M.1 10), .int (M.1 11), .int (M.1 12), .int (M.1 13), .int (M.1 14), .int (M.1 15), .ref 59, .ref 60, .int (M.1 18), .int (M.1 19), .int (M.1 20), .ref 61, .ref 62, .ref 63, .ref 64]), .inl (0, 68, .inl (M.2 0)), .inl (0, 68, .inl (M.2 1)), .inl (0, 68, .inl (M.2 2)), .inl (0, 8, .inl (M.2 4)), .inl (0, 1053, .inl (M.2 5)), .inl (1, 972, .inl (M.2 6)), .inl (0, 1053, .inl (M.2 8)), .inl (0, 120, .inl (M.2 9)), .inl (3, 7, .inr (.inr (.inr (.inr q_kf)))), .inl (0, 360, .inl (M.2 17)), .inl (0, 4, .inl (M.2 21)), .inl (0, 4, .inl (M.2 22)), .inl (0, 160, .inl (M.2 23)), .inl (0, 40, .inl (M.2 24))]) rfl rfl rfl (Nat.le_of_ble_eq_true rfl) ⟨(Nat.le_of_ble_eq_true rfl), (Nat.le_of_ble_eq_true rfl)⟩ ⟨Nat.zero_le _, Nat.zero_le _⟩ dX6_voice_3 (fun _ => rfl) (fun _ => rfl) (fun _ => rfl) (fun u1 => ?_)
  refine r_iconst C (1) dX6_voice_6 rfl ?_
  refine r_icmp_ne C 14 dX6_voice_7 (by decide) (fun h7 => ?_) (fun h7 => ?_)
  · refine r_iconst C (1) dX6_voice_10 rfl ?_
    refine r_goto C 15 dX6_voice_11 (by decide) ?_
    exact r_reti (x := (1 : Int32)) (rv := (fun u => some (.int u))) (hpE := (fun u => w_X6 M)) (t0 := (1 : Int32)) C dX6_voice_15 (by rfl) (by rfl) (by rfl)
  · refine r_iconst C (0) dX6_voice_14 rfl ?_
    exact r_reti (x := (0 : Int32)) (rv := (fun u => some (.int u))) (hpE := (fun u => w_X6 M)) (t0 := (0 : Int32)) C dX6_voice_15 (by rfl) (by rfl) (by rfl)
set_option maxRecDepth 100000 in
set_option maxHeartbeats 4000000 in
theorem o_X6_of (l : Launch) (M : q_St) (a1 : Int32) (a2 : Int32) : q_Ok l yX6_of cX6_of 3 (some .int) 3 65 [.ref 50, .int a1, .int a2] (w_X6 M) (f_X6_of M a1 a2) (fun u => some (.int u.1)) (fun u => w_X6 u.2) := by
  refine q_enter (by decide +kernel) (Nat.le_of_ble_eq_true rfl) (fun t p e s m args below meth c dC dI dA A α C => ?_)
  refine r_cut (f_X6_of.eq_1 _ _ _) ?_
  show q_S p l e (q_rm 3 65) s m args below meth c 3 dC dI dA A α (MQ below (q_Q α dC dI dA A ((fun u => some (.int u.1)) t) ((fun u => w_X6 u.2) t)) args s 0 0 A) 0 0 _ t 0 [(0, .ref 50), (1, .int a1), (2, .int a2)] [] (w_X6 M)
  refine r_aload_n C 0 dX6_of_0 rfl ?_
  refine r_iload_n C 1 dX6_of_1 rfl ?_
  refine r_callV0 C (o_X6_isDoll l M a1) v_X6_isDoll m_1019 [.int a1] [] (50) (Or.inl ⟨0, 5, _, TX6, 25, rfl, rfl, rfl⟩) (fun u1 => [.int u1]) (fun u1 => [.inr (5, [.ref 51, .ref 52, .ref 53, .int (M.1 3), .ref 54, .ref 55, .ref 56, .int (M.1 7), .ref 57, .ref 58, .int (M.1 10), .int (M.1 11), .int (M.1 12), .int (M.1 13), .int (M.1 14), .int (M.1 15), .ref 59, .ref 60, .int (M.1 18), .int (M.1 19), .int (M.1 20), .ref 61, .ref 62, .ref 63, .ref 64]), .inl (0, 68, .inl (M.2 0)), .inl (0, 68, .inl (M.2 1)), .inl (0, 68, .inl (M.2 2)), .inl (0, 8, .inl (M.2 4)), .inl (0, 1053, .inl (M.2 5)), .inl (1, 972, .inl (M.2 6)), .inl (0, 1053, .inl (M.2 8)), .inl (0, 120, .inl (M.2 9)), .inl (3, 7, .inr (.inr (.inr (.inr q_kf)))), .inl (0, 360, .inl (M.2 17)), .inl (0, 4, .inl (M.2 21)), .inl (0, 4, .inl (M.2 22)), .inl (0, 160, .inl (M.2 23)), .inl (0, 40, .inl (M.2 24))]) rfl rfl rfl (Nat.le_of_ble_eq_true rfl) ⟨(Nat.le_of_ble_eq_true rfl), (Nat.le_of_ble_eq_true rfl)⟩ ⟨Nat.zero_le _, Nat.zero_le _⟩ dX6_of_2 (fun _ => rfl) (fun _ => rfl) (fun _ => rfl) (fun u1 => ?_)
  refine r_if_eq C 17 dX6_of_5 (by decide) (fun h5 => ?_) (fun h5 => ?_)
  · refine r_aload_n C 0 dX6_of_17 rfl ?_
    refine r_ldc C (-1000001) dX6_of_18 m_1002 ?_
    refine r_callV0 C (o_X6_finding l M (-1000001 : Int32)) v_X6_finding m_1003 [.int (-1000001 : Int32)] [] (50) (Or.inl ⟨0, 5, _, TX6, 25, rfl, rfl, rfl⟩) (fun u2 => [.int u2.1]) (fun u2 => [.inr (5, [.ref 51, .ref 52, .ref 53, .int (u2.2.1 3), .ref 54, .ref 55, .ref 56, .int (u2.2.1 7), .ref 57, .ref 58, .int (u2.2.1 10), .int (u2.2.1 11), .int (u2.2.1 12), .int (u2.2.1 13), .int (u2.2.1 14), .int (u2.2.1 15), .ref 59, .ref 60, .int (u2.2.1 18), .int (u2.2.1 19), .int (u2.2.1 20), .ref 61, .ref 62, .ref 63, .ref 64]), .inl (0, 68, .inl (u2.2.2 0)), .inl (0, 68, .inl (u2.2.2 1)), .inl (0, 68, .inl (u2.2.2 2)), .inl (0, 8, .inl (u2.2.2 4)), .inl (0, 1053, .inl (u2.2.2 5)), .inl (1, 972, .inl (u2.2.2 6)), .inl (0, 1053, .inl (u2.2.2 8)), .inl (0, 120, .inl (u2.2.2 9)), .inl (3, 7, .inr (.inr (.inr (.inr q_kf)))), .inl (0, 360, .inl (u2.2.2 17)), .inl (0, 4, .inl (u2.2.2 21)), .inl (0, 4, .inl (u2.2.2 22)), .inl (0, 160, .inl (u2.2.2 23)), .inl (0, 40, .inl (u2.2.2 24))]) rfl rfl rfl (Nat.le_of_ble_eq_true rfl) ⟨(Nat.le_of_ble_eq_true rfl), (Nat.le_of_ble_eq_true rfl)⟩ ⟨Nat.zero_le _, Nat.zero_le _⟩ dX6_of_20 (fun _ => rfl) (fun _ => rfl) (fun _ => rfl) (fun u2 => ?_)
    exact r_reti (x := u2.1) (rv := (fun u => some (.int u.1))) (hpE := (fun u => w_X6 u.2)) (t0 := (u2.1, u2.2)) C dX6_of_23 (by rfl) (by rfl) (by rfl)
  · refine r_iload_n C 2 dX6_of_8 rfl ?_
    refine r_iconst C (0) dX6_of_9 rfl ?_
    refine r_iconst C (5) dX6_of_10 rfl ?_
    refine r_callS C (o_X6_within l a2 (0 : Int32) (5 : Int32)) v_X6_within m_999 [] [.int a2, .int (0 : Int32), .int (5 : Int32)] [] (fun u3 => [.int u3]) (fun u3 => [.inr (5, [.ref 51, .ref 52, .ref 53, .int (M.1 3), .ref 54, .ref 55, .ref 56, .int (M.1 7), .ref 57, .ref 58, .int (M.1 10), .int (M.1 11), .int (M.1 12), .int (M.1 13), .int (M.1 14), .int (M.1 15), .ref 59, .ref 60, .int (M.1 18), .int (M.1 19), .int (M.1 20), .ref 61, .ref 62, .ref 63, .ref 64]), .inl (0, 68, .inl (M.2 0)), .inl (0, 68, .inl (M.2 1)), .inl (0, 68, .inl (M.2 2)), .inl (0, 8, .inl (M.2 4)), .inl (0, 1053, .inl (M.2 5)), .inl (1, 972, .inl (M.2 6)), .inl (0, 1053, .inl (M.2 8)), .inl (0, 120, .inl (M.2 9)), .inl (3, 7, .inr (.inr (.inr (.inr q_kf)))), .inl (0, 360, .inl (M.2 17)), .inl (0, 4, .inl (M.2 21)), .inl (0, 4, .inl (M.2 22)), .inl (0, 160, .inl (M.2 23)), .inl (0, 40, .inl (M.2 24))]) rfl rfl rfl rfl rfl (Nat.le_of_ble_eq_true rfl) ⟨(Nat.le_of_ble_eq_true rfl), (Nat.le_of_ble_eq_true rfl)⟩ ⟨Nat.zero_le _, Nat.zero_le _⟩ dX6_of_11 (fun _ => rfl) (fun _ => rfl) (fun _ => rfl) (fun u3 => ?_)
    refine r_if_ne C 24 dX6_of_14 (by decide) (fun h14 => ?_) (fun h14 => ?_)
    · refine r_aload_n C 0 dX6_of_17 rfl ?_
      refine r_ldc C (-1000001) dX6_of_18 m_1002 ?_
      refine r_callV0 C (o_X6_finding l M (-1000001 : Int32)) v_X6_finding m_1003 [.int (-1000001 : Int32)] [] (50) (Or.inl ⟨0, 5, _, TX6, 25, rfl, rfl, rfl⟩) (fun u10 => [.int u10.1]) (fun u10 => [.inr (5, [.ref 51, .ref 52, .ref 53, .int (u10.2.1 3), .ref 54, .ref 55, .ref 56, .int (u10.2.1 7), .ref 57, .ref 58, .int (u10.2.1 10), .int (u10.2.1 11), .int (u10.2.1 12), .int (u10.2.1 13), .int (u10.2.1 14), .int (u10.2.1 15), .ref 59, .ref 60, .int (u10.2.1 18), .int (u10.2.1 19), .int (u10.2.1 20), .ref 61, .ref 62, .ref 63, .ref 64]), .inl (0, 68, .inl (u10.2.2 0)), .inl (0, 68, .inl (u10.2.2 1)), .inl (0, 68, .inl (u10.2.2 2)), .inl (0, 8, .inl (u10.2.2 4)), .inl (0, 1053, .inl (u10.2.2 5)), .inl (1, 972, .inl (u10.2.2 6)), .inl (0, 1053, .inl (u10.2.2 8)), .inl (0, 120, .inl (u10.2.2 9)), .inl (3, 7, .inr (.inr (.inr (.inr q_kf)))), .inl (0, 360, .inl (u10.2.2 17)), .inl (0, 4, .inl (u10.2.2 21)), .inl (0, 4, .inl (u10.2.2 22)), .inl (0, 160, .inl (u10.2.2 23)), .inl (0, 40, .inl (u10.2.2 24))]) rfl rfl rfl (Nat.le_of_ble_eq_true rfl) ⟨(Nat.le_of_ble_eq_true rfl), (Nat.le_of_ble_eq_true rfl)⟩ ⟨Nat.zero_le _, Nat.zero_le _⟩ dX6_of_20 (fun _ => rfl) (fun _ => rfl) (fun _ => rfl) (fun u10 => ?_)
      exact r_reti (x := u10.1) (rv := (fun u => some (.int u.1))) (hpE := (fun u => w_X6 u.2)) (t0 := (u10.1, u10.2)) C dX6_of_23 (by rfl) (by rfl) (by rfl)
    · refine r_iload_n C 2 dX6_of_24 rfl ?_
      refine r_tsw C (0) 60 dX6_of_25 (by decide) (by decide) rfl (by decide) (fun h25_0 => ?_) (fun h25_0 => ?_)
      · refine r_aload_n C 0 dX6_of_60 rfl ?_
        refine r_iload_n C 1 dX6_of_61 rfl ?_
        refine r_iconst C (0) dX6_of_62 rfl ?_
        refine r_callV0 C (o_X6_dollIs l M a1 (0 : Int32)) v_X6_dollIs m_1023 [.int a1, .int (0 : Int32)] [] (50) (Or.inl ⟨0, 5, _, TX6, 25, rfl, rfl, rfl⟩) (fun u4 => [.int u4]) (fun u4 => [.inr (5, [.ref 51, .ref 52, .ref 53, .int (M.1 3), .ref 54, .ref 55, .ref 56, .int (M.1 7), .ref 57, .ref 58, .int (M.1 10), .int (M.1 11), .int (M.1 12), .int (M.1 13), .int (M.1 14), .int (M.1 15), .ref 59, .ref 60, .int (M.1 18), .int (M.1 19), .int (M.1 20), .ref 61, .ref 62, .ref 63, .ref 64]), .inl (0, 68, .inl (M.2 0)), .inl (0, 68, .inl (M.2 1)), .inl (0, 68, .inl (M.2 2)), .inl (0, 8, .inl (M.2 4)), .inl (0, 1053, .inl (M.2 5)), .inl (1, 972, .inl (M.2 6)), .inl (0, 1053, .inl (M.2 8)), .inl (0, 120, .inl (M.2 9)), .inl (3, 7, .inr (.inr (.inr (.inr q_kf)))), .inl (0, 360, .inl (M.2 17)), .inl (0, 4, .inl (M.2 21)), .inl (0, 4, .inl (M.2 22)), .inl (0, 160, .inl (M.2 23)), .inl (0, 40, .inl (M.2 24))]) rfl rfl rfl (Nat.le_of_ble_eq_true rfl) ⟨(Nat.le_of_ble_eq_true rfl), (Nat.le_of_ble_eq_true rfl)⟩ ⟨Nat.zero_le _, Nat.zero_le _⟩ dX6_of_63 (fun _ => rfl) (fun _ => rfl) (fun _ => rfl) (fun u4 => ?_)
        exact r_reti (x := u4) (rv := (fun u => some (.int u.1))) (hpE := (fun u => w_X6 u.2)) (t0 := (u4, M)) C dX6_of_66 (by rfl) (by rfl) (by rfl)
      refine r_tsw C (1) 67 dX6_of_25 (by decide) (by decide) rfl (by decide) (fun h25_1 => ?_) (fun h25_1 => ?_)
      · refine r_aload_n C 0 dX6_of_67 rfl ?_
        refine r_iload_n C 1 dX6_of_68 rfl ?_
        refine r_iconst C (1) dX6_of_69 rfl ?_
        refine r_callV0 C (o_X6_dollIs l M a1 (1 : Int32)) v_X6_dollIs m_1023 [.int a1, .int (1 : Int32)] [] (50) (Or.inl ⟨0, 5, _, TX6, 25, rfl, rfl, rfl⟩) (fun u5 => [.int u5]) (fun u5 => [.inr (5, [.ref 51, .ref 52, .ref 53, .int (M.1 3), .ref 54, .ref 55, .ref 56, .int (M.1 7), .ref 57, .ref 58, .int (M.1 10), .int (M.1 11), .int (M.1 12), .int (M.1 13), .int (M.1 14), .int (M.1 15), .ref 59, .ref 60, .int (M.1 18), .int (M.1 19), .int (M.1 20), .ref 61, .ref 62, .ref 63, .ref 64]), .inl (0, 68, .inl (M.2 0)), .inl (0, 68, .inl (M.2 1)), .inl (0, 68, .inl (M.2 2)), .inl (0, 8, .inl (M.2 4)), .inl (0, 1053, .inl (M.2 5)), .inl (1, 972, .inl (M.2 6)), .inl (0, 1053, .inl (M.2 8)), .inl (0, 120, .inl (M.2 9)), .inl (3, 7, .inr (.inr (.inr (.inr q_kf)))), .inl (0, 360, .inl (M.2 17)), .inl (0, 4, .inl (M.2 21)), .inl (0, 4, .inl (M.2 22)), .inl (0, 160, .inl (M.2 23)), .inl (0, 40, .inl (M.2 24))]) rfl rfl rfl (Nat.le_of_ble_eq_true rfl) ⟨(Nat.le_of_ble_eq_true rfl), (Nat.le_of_ble_eq_true rfl)⟩ ⟨Nat.zero_le _, Nat.zero_le _⟩ dX6_of_70 (fun _ => rfl) (fun _ => rfl) (fun _ => rfl) (fun u5 => ?_)
        exact r_reti (x := u5) (rv := (fun u => some (.int u.1))) (hpE := (fun u => w_X6 u.2)) (t0 := (u5, M)) C dX6_of_73 (by rfl) (by rfl) (by rfl)
      refine r_tsw C (2) 74 dX6_of_25 (by decide) (by decide) rfl (by decide) (fun h25_2 => ?_) (fun h25_2 => ?_)
      · refine r_aload_n C 0 dX6_of_74 rfl ?_
        refine r_iload_n C 1 dX6_of_75 rfl ?_
        refine r_callV0 C (o_X6_wants l M a1) v_X6_wants m_1027 [.int a1] [] (50) (Or.inl ⟨0, 5, _, TX6, 25, rfl, rfl, rfl⟩) (fun u6 => [.int u6]) (fun u6 => [.inr (5, [.ref 51, .ref 52, .ref 53, .int (M.1 3), .ref 54, .ref 55, .ref 56, .int (M.1 7), .ref 57, .ref 58, .int (M.1 10), .int (M.1 11), .int (M.1 12), .int (M.1 13), .int (M.1 14), .int (M.1 15), .ref 59, .ref 60, .int (M.1 18), .int (M.1 19), .int (M.1 20), .ref 61, .ref 62, .ref 63, .ref 64]), .inl (0, 68, .inl (M.2 0)), .inl (0, 68, .inl (M.2 1)), .inl (0, 68, .inl (M.2 2)), .inl (0, 8, .inl (M.2 4)), .inl (0, 1053, .inl (M.2 5)), .inl (1, 972, .inl (M.2 6)), .inl (0, 1053, .inl (M.2 8)), .inl (0, 120, .inl (M.2 9)), .inl (3, 7, .inr (.inr (.inr (.inr q_kf)))), .inl (0, 360, .inl (M.2 17)), .inl (0, 4, .inl (M.2 21)), .inl (0, 4, .inl (M.2 22)), .inl (0, 160, .inl (M.2 23)), .inl (0, 40, .inl (M.2 24))]) rfl rfl rfl (Nat.le_of_ble_eq_true rfl) ⟨(Nat.le_of_ble_eq_true rfl), (Nat.le_of_ble_eq_true rfl)⟩ ⟨Nat.zero_le _, Nat.zero_le _⟩ dX6_of_76 (fun _ => rfl) (fun _ => rfl) (fun _ => rfl) (fun u6 => ?_)
        exact r_reti (x := u6) (rv := (fun u => some (.int u.1))) (hpE := (fun u => w_X6 u.2)) (t0 := (u6, M)) C dX6_of_79 (by rfl) (by rfl) (by rfl)
      refine r_tsw C (3) 80 dX6_of_25 (by decide) (by decide) rfl (by decide) (fun h25_3 => ?_) (fun h25_3 => ?_)
      · refine r_aload_n C 0 dX6_of_80 rfl ?_
        refine r_iload_n C 1 dX6_of_81 rfl ?_
        refine r_callV0 C (o_X6_takesOn l M a1) v_X6_takesOn m_1037 [.int a1] [] (50) (Or.inl ⟨0, 5, _, TX6, 25, rfl, rfl, rfl⟩) (fun u7 => [.int u7]) (fun u7 => [.inr (5, [.ref 51, .ref 52, .ref 53, .int (M.1 3), .ref 54, .ref 55, .ref 56, .int (M.1 7), .ref 57, .ref 58, .int (M.1 10), .int (M.1 11), .int (M.1 12), .int (M.1 13), .int (M.1 14), .int (M.1 15), .ref 59, .ref 60, .int (M.1 18), .int (M.1 19), .int (M.1 20), .ref 61, .ref 62, .ref 63, .ref 64]), .inl (0, 68, .inl (M.2 0)), .inl (0, 68, .inl (M.2 1)), .inl (0, 68, .inl (M.2 2)), .inl (0, 8, .inl (M.2 4)), .inl (0, 1053, .inl (M.2 5)), .inl (1, 972, .inl (M.2 6)), .inl (0, 1053, .inl (M.2 8)), .inl (0, 120, .inl (M.2 9)), .inl (3, 7, .inr (.inr (.inr (.inr q_kf)))), .inl (0, 360, .inl (M.2 17)), .inl (0, 4, .inl (M.2 21)), .inl (0, 4, .inl (M.2 22)), .inl (0, 160, .inl (M.2 23)), .inl (0, 40, .inl (M.2 24))]) rfl rfl rfl (Nat.le_of_ble_eq_true rfl) ⟨(Nat.le_of_ble_eq_true rfl), (Nat.le_of_ble_eq_true rfl)⟩ ⟨Nat.zero_le _, Nat.zero_le _⟩ dX6_of_82 (fun _ => rfl) (fun _ => rfl) (fun _ => rfl) (fun u7 => ?_)
        exact r_reti (x := u7) (rv := (fun u => some (.int u.1))) (hpE := (fun u => w_X6 u.2)) (t0 := (u7, M)) C dX6_of_85 (by rfl) (by rfl) (by rfl)
      refine r_tsw C (4) 86 dX6_of_25 (by decide) (by decide) rfl (by decide) (fun h25_4 => ?_) (fun h25_4 => ?_)
      · refine r_aload_n C 0 dX6_of_86 rfl ?_
        refine r_iload_n C 1 dX6_of_87 rfl ?_
        refine r_callV0 C (o_X6_voice l M a1) v_X6_voice m_1042 [.int a1] [] (50) (Or.inl ⟨0, 5, _, TX6, 25, rfl, rfl, rfl⟩) (fun u8 => [.int u8]) (fun u8 => [.inr (5, [.ref 51, .ref 52, .ref 53, .int (M.1 3), .ref 54, .ref 55, .ref 56, .int (M.1 7), .ref 57, .ref 58, .int (M.1 10), .int (M.1 11), .int (M.1 12), .int (M.1 13), .int (M.1 14), .int (M.1 15), .ref 59, .ref 60, .int (M.1 18), .int (M.1 19), .int (M.1 20), .ref 61, .ref 62, .ref 63, .ref 64]), .inl (0, 68, .inl (M.2 0)), .inl (0, 68, .inl (M.2 1)), .inl (0, 68, .inl (M.2 2)), .inl (0, 8, .inl (M.2 4)), .inl (0, 1053, .inl (M.2 5)), .inl (1, 972, .inl (M.2 6)), .inl (0, 1053, .inl (M.2 8)), .inl (0, 120, .inl (M.2 9)), .inl (3, 7, .inr (.inr (.inr (.inr q_kf)))), .inl (0, 360, .inl (M.2 17)), .inl (0, 4, .inl (M.2 21)), .inl (0, 4, .inl (M.2 22)), .inl (0, 160, .inl (M.2 23)), .inl (0, 40, .inl (M.2 24))]) rfl rfl rfl (Nat.le_of_ble_eq_true rfl) ⟨(Nat.le_of_ble_eq_true rfl), (Nat.le_of_ble_eq_true rfl)⟩ ⟨Nat.zero_le _, Nat.zero_le _⟩ dX6_of_88 (fun _ => rfl) (fun _ => rfl) (fun _ => rfl) (fun u8 => ?_)
        exact r_reti (x := u8) (rv := (fun u => some (.int u.1))) (hpE := (fun u => w_X6 u.2)) (t0 := (u8, M)) C dX6_of_91 (by rfl) (by rfl) (by rfl)
      have g0 := True.intro
      have g25_0 := q_neI h25_0 (z := 0) (by decide)
      have g25_1 := q_neI h25_1 (z := 1) (by decide)
      have g25_2 := q_neI h25_2 (z := 2) (by decide)
      have g25_3 := q_neI h25_3 (z := 3) (by decide)
      have g25_4 := q_neI h25_4 (z := 4) (by decide)
      refine r_tswD C 92 dX6_of_25 (by omega) (by decide) ?_
      refine r_aload_n C 0 dX6_of_92 rfl ?_
      refine r_iload_n C 1 dX6_of_93 rfl ?_
      refine r_iconst C (2) dX6_of_94 rfl ?_
      refine r_callV0 C (o_X6_dollIs l M a1 (2 : Int32)) v_X6_dollIs m_1023 [.int a1, .int (2 : Int32)] [] (50) (Or.inl ⟨0, 5, _, TX6, 25, rfl, rfl, rfl⟩) (fun u9 => [.int u9]) (fun u9 => [.inr (5, [.ref 51, .ref 52, .ref 53, .int (M.1 3), .ref 54, .ref 55, .ref 56, .int (M.1 7), .ref 57, .ref 58, .int (M.1 10), .int (M.1 11), .int (M.1 12), .int (M.1 13), .int (M.1 14), .int (M.1 15), .ref 59, .ref 60, .int (M.1 18), .int (M.1 19), .int (M.1 20), .ref 61, .ref 62, .ref 63, .ref 64]), .inl (0, 68, .inl (M.2 0)), .inl (0, 68, .inl (M.2 1)), .inl (0, 68, .inl (M.2 2)), .inl (0, 8, .inl (M.2 4)), .inl (0, 1053, .inl (M.2 5)), .inl (1, 972, .inl (M.2 6)), .inl (0, 1053, .inl (M.2 8)), .inl (0, 120, .inl (M.2 9)), .inl (3, 7, .inr (.inr (.inr (.inr q_kf)))), .inl (0, 360, .inl (M.2 17)), .inl (0, 4, .inl (M.2 21)), .inl (0, 4, .inl (M.2 22)), .inl (0, 160, .inl (M.2 23)), .inl (0, 40, .inl (M.2 24))]) rfl rfl rfl (Nat.le_of_ble_eq_true rfl) ⟨(Nat.le_of_ble_eq_true rfl), (Nat.le_of_ble_eq_true rfl)⟩ ⟨Nat.zero_le _, Nat.zero_le _⟩ dX6_of_95 (fun _ => rfl) (fun _ => rfl) (fun _ => rfl) (fun u9 => ?_)
      exact r_reti (x := u9) (rv := (fun u => some (.int u.1))) (hpE := (fun u => w_X6 u.2)) (t0 := (u9, M)) C dX6_of_98 (by rfl) (by rfl) (by rfl)
set_option maxRecDepth 100000 in
set_option maxHeartbeats 4000000 in
theorem k_X6_change_31 {p : Program} {l : Launch} {e : Env} {s : State} {m : MethodId} {args : Array Value} {below : List Frame} {meth : Method} {c : Code} {dC : Nat → ClassId} {dI : Nat → Nat → Nat} {dA : Nat → ClassId} {A : Nat → Prop} {α : Nat → Nat} {t : Int32 × q_St} (C : q_Cx p s m args meth c cX6_change 5 RX6 (some .int) "change" dC dI dA A α) (M : q_St) (a1 : Int32) (a2 : Int32) (a3 : Int32)  : ∀ (x1 : Int32) (x2 : Int32) (x3 : Int32) (s0 : Int32) (M' : q_St), q_S p l e (q_rm 2 43) s m args below meth c 5 dC dI dA A α (MQ below (q_Q α dC dI dA A ((fun u => some (.int u.1)) t) ((fun u => w_X6 u.2) t)) args s 0 0 A) 0 0 (f_X6_change_31 M a1 a2 a3  x1 x2 x3 s0 M') t 31 [(0, .ref 50), (1, .int x1), (2, .int x2), (3, .int x3)] [.int s0] (w_X6 M') := by
  intro x1 x2 x3 s0 M'
  refine r_cut (f_X6_change_31.eq_1 _ _ _ _ _ _ _ _ _) ?_
  refine r_istore C [(4, .int s0), (0, .ref 50), (1, .int x1), (2, .int x2), (3, .int x3)] dX6_change_31 (Nat.le_of_ble_eq_true rfl) rfl ?_
  refine r_aload_n C 1 dX6_change_33 rfl ?_
  refine r_iload_n C 2 dX6_change_34 rfl ?_
  refine r_callV0 C (o_X6_isDoll l M' x1) v_X6_isDoll m_1019 [.int x1] [] (50) (Or.inl ⟨0, 5, _, TX6, 25, rfl, rfl, rfl⟩) (fun u3 => [.int u3]) (fun u3 => [.inr (5, [.ref 51, .ref 52, .ref 53, .int (M'.1 3), .ref 54, .ref 55, .ref 56, .int (M'.1 7), .ref 57, .ref 58, .int (M'.1 10), .int (M'.1 11), .int (M'.1 12), .int (M'.1 13), .int (M'.1 14), .int (M'.1 15), .ref 59, .ref 60, .int (M'.1 18), .int (M'.1 19), .int (M'.1 20), .ref 61, .ref 62, .ref 63, .ref 64]), .inl (0, 68, .inl (M'.2 0)), .inl (0, 68, .inl (M'.2 1)), .inl (0, 68, .inl (M'.2 2)), .inl (0, 8, .inl (M'.2 4)), .inl (0, 1053, .inl (M'.2 5)), .inl (1, 972, .inl (M'.2 6)), .inl (0, 1053, .inl (M'.2 8)), .inl (0, 120, .inl (M'.2 9)), .inl (3, 7, .inr (.inr (.inr (.inr q_kf)))), .inl (0, 360, .inl (M'.2 17)), .inl (0, 4, .inl (M'.2 21)), .inl (0, 4, .inl (M'.2 22)), .inl (0, 160, .inl (M'.2 23)), .inl (0, 40, .inl (M'.2 24))]) rfl rfl rfl (Nat.le_of_ble_eq_true rfl) ⟨(Nat.le_of_ble_eq_true rfl), (Nat.le_of_ble_eq_true rfl)⟩ ⟨Nat.zero_le _, Nat.zero_le _⟩ dX6_change_35 (fun _ => rfl) (fun _ => rfl) (fun _ => rfl) (fun u3 => ?_)
  refine r_if_eq C 59 dX6_change_38 (by decide) (fun h38 => ?_) (fun h38 => ?_)
  · refine r_aload_n C 1 dX6_change_59 rfl ?_
    refine r_ldc C (-1000001) dX6_change_60 m_1002 ?_
    refine r_callV0 C (o_X6_finding l M' (-1000001 : Int32)) v_X6_finding m_1003 [.int (-1000001 : Int32)] [] (50) (Or.inl ⟨0, 5, _, TX6, 25, rfl, rfl, rfl⟩) (fun u4 => [.int u4.1]) (fun u4 => [.inr (5, [.ref 51, .ref 52, .ref 53, .int (u4.2.1 3), .ref 54, .ref 55, .ref 56, .int (u4.2.1 7), .ref 57, .ref 58, .int (u4.2.1 10), .int (u4.2.1 11), .int (u4.2.1 12), .int (u4.2.1 13), .int (u4.2.1 14), .int (u4.2.1 15), .ref 59, .ref 60, .int (u4.2.1 18), .int (u4.2.1 19), .int (u4.2.1 20), .ref 61, .ref 62, .ref 63, .ref 64]), .inl (0, 68, .inl (u4.2.2 0)), .inl (0, 68, .inl (u4.2.2 1)), .inl (0, 68, .inl (u4.2.2 2)), .inl (0, 8, .inl (u4.2.2 4)), .inl (0, 1053, .inl (u4.2.2 5)), .inl (1, 972, .inl (u4.2.2 6)), .inl (0, 1053, .inl (u4.2.2 8)), .inl (0, 120, .inl (u4.2.2 9)), .inl (3, 7, .inr (.inr (.inr (.inr q_kf)))), .inl (0, 360, .inl (u4.2.2 17)), .inl (0, 4, .inl (u4.2.2 21)), .inl (0, 4, .inl (u4.2.2 22)), .inl (0, 160, .inl (u4.2.2 23)), .inl (0, 40, .inl (u4.2.2 24))]) rfl rfl rfl (Nat.le_of_ble_eq_true rfl) ⟨(Nat.le_of_ble_eq_true rfl), (Nat.le_of_ble_eq_true rfl)⟩ ⟨Nat.zero_le _, Nat.zero_le _⟩ dX6_change_62 (fun _ => rfl) (fun _ => rfl) (fun _ => rfl) (fun u4 => ?_)
    exact r_reti (x := u4.1) (rv := (fun u => some (.int u.1))) (hpE := (fun u => w_X6 u.2)) (t0 := (u4.1, u4.2)) C dX6_change_65 (by rfl) (by rfl) (by rfl)
  · refine r_iload C 0 dX6_change_41 rfl ?_
    refine r_if_eq C 59 dX6_change_43 (by decide) (fun h43 => ?_) (fun h43 => ?_)
    · refine r_aload_n C 1 dX6_change_59 rfl ?_
      refine r_ldc C (-1000001) dX6_change_60 m_1002 ?_
      refine r_callV0 C (o_X6_finding l M' (-1000001 : Int32)) v_X6_finding m_1003 [.int (-1000001 : Int32)] [] (50) (Or.inl ⟨0, 5, _, TX6, 25, rfl, rfl, rfl⟩) (fun u5 => [.int u5.1]) (fun u5 => [.inr (5, [.ref 51, .ref 52, .ref 53, .int (u5.2.1 3), .ref 54, .ref 55, .ref 56, .int (u5.2.1 7), .ref 57, .ref 58, .int (u5.2.1 10), .int (u5.2.1 11), .int (u5.2.1 12), .int (u5.2.1 13), .int (u5.2.1 14), .int (u5.2.1 15), .ref 59, .ref 60, .int (u5.2.1 18), .int (u5.2.1 19), .int (u5.2.1 20), .ref 61, .ref 62, .ref 63, .ref 64]), .inl (0, 68, .inl (u5.2.2 0)), .inl (0, 68, .inl (u5.2.2 1)), .inl (0, 68, .inl (u5.2.2 2)), .inl (0, 8, .inl (u5.2.2 4)), .inl (0, 1053, .inl (u5.2.2 5)), .inl (1, 972, .inl (u5.2.2 6)), .inl (0, 1053, .inl (u5.2.2 8)), .inl (0, 120, .inl (u5.2.2 9)), .inl (3, 7, .inr (.inr (.inr (.inr q_kf)))), .inl (0, 360, .inl (u5.2.2 17)), .inl (0, 4, .inl (u5.2.2 21)), .inl (0, 4, .inl (u5.2.2 22)), .inl (0, 160, .inl (u5.2.2 23)), .inl (0, 40, .inl (u5.2.2 24))]) rfl rfl rfl (Nat.le_of_ble_eq_true rfl) ⟨(Nat.le_of_ble_eq_true rfl), (Nat.le_of_ble_eq_true rfl)⟩ ⟨Nat.zero_le _, Nat.zero_le _⟩ dX6_change_62 (fun _ => rfl) (fun _ => rfl) (fun _ => rfl) (fun u5 => ?_)
      exact r_reti (x := u5.1) (rv := (fun u => some (.int u.1))) (hpE := (fun u => w_X6 u.2)) (t0 := (u5.1, u5.2)) C dX6_change_65 (by rfl) (by rfl) (by rfl)
    · refine r_aload_n C 1 dX6_change_46 rfl ?_
      refine r_iload_n C 2 dX6_change_47 rfl ?_
      refine r_iload_n C 3 dX6_change_48 rfl ?_
      refine r_callS C (o_X6_at l x1 x2) v_X6_at m_1012 [] [.int x1, .int x2] [.ref 50] (fun u6 => [.int u6, .ref 50]) (fun u6 => [.inr (5, [.ref 51, .ref 52, .ref 53, .int (M'.1 3), .ref 54, .ref 55, .ref 56, .int (M'.1 7), .ref 57, .ref 58, .int (M'.1 10), .int (M'.1 11), .int (M'.1 12), .int (M'.1 13), .int (M'.1 14), .int (M'.1 15), .ref 59, .ref 60, .int (M'.1 18), .int (M'.1 19), .int (M'.1 20), .ref 61, .ref 62, .ref 63, .ref 64]), .inl (0, 68, .inl (M'.2 0)), .inl (0, 68, .inl (M'.2 1)), .inl (0, 68, .inl (M'.2 2)), .inl (0, 8, .inl (M'.2 4)), .inl (0, 1053, .inl (M'.2 5)), .inl (1, 972, .inl (M'.2 6)), .inl (0, 1053, .inl (M'.2 8)), .inl (0, 120, .inl (M'.2 9)), .inl (3, 7, .inr (.inr (.inr (.inr q_kf)))), .inl (0, 360, .inl (M'.2 17)), .inl (0, 4, .inl (M'.2 21)), .inl (0, 4, .inl (M'.2 22)), .inl (0, 160, .inl (M'.2 23)), .inl (0, 40, .inl (M'.2 24))]) rfl rfl rfl rfl rfl (Nat.le_of_ble_eq_true rfl) ⟨(Nat.le_of_ble_eq_true rfl), (Nat.le_of_ble_eq_true rfl)⟩ ⟨Nat.zero_le _, Nat.zero_le _⟩ dX6_change_49 (fun _ => rfl) (fun _ => rfl) (fun _ => rfl) (fun u6 => ?_)
      refine r_iload_n C 4 dX6_change_52 rfl ?_
      refine r_callV0 C (o_X6_become l M' u6 x3) v_X6_become m_1050 [.int u6, .int x3] [] (50) (Or.inl ⟨0, 5, _, TX6, 25, rfl, rfl, rfl⟩) (fun u7 => [.int u7.1]) (fun u7 => [.inr (5, [.ref 51, .ref 52, .ref 53, .int (u7.2.1 3), .ref 54, .ref 55, .ref 56, .int (u7.2.1 7), .ref 57, .ref 58, .int (u7.2.1 10), .int (u7.2.1 11), .int (u7.2.1 12), .int (u7.2.1 13), .int (u7.2.1 14), .int (u7.2.1 15), .ref 59, .ref 60, .int (u7.2.1 18), .int (u7.2.1 19), .int (u7.2.1 20), .ref 61, .ref 62, .ref 63, .ref 64]), .inl (0, 68, .inl (u7.2.2 0)), .inl (0, 68, .inl (u7.2.2 1)), .inl (0, 68, .inl (u7.2.2 2)), .inl (0, 8, .inl (u7.2.2 4)), .inl (0, 1053, .inl (u7.2.2 5)), .inl (1, 972, .inl (u7.2.2 6)), .inl (0, 1053, .inl (u7.2.2 8)), .inl (0, 120, .inl (u7.2.2 9)), .inl (3, 7, .inr (.inr (.inr (.inr q_kf)))), .inl (0, 360, .inl (u7.2.2 17)), .inl (0, 4, .inl (u7.2.2 21)), .inl (0, 4, .inl (u7.2.2 22)), .inl (0, 160, .inl (u7.2.2 23)), .inl (0, 40, .inl (u7.2.2 24))]) rfl rfl rfl (Nat.le_of_ble_eq_true rfl) ⟨(Nat.le_of_ble_eq_true rfl), (Nat.le_of_ble_eq_true rfl)⟩ ⟨Nat.zero_le _, Nat.zero_le _⟩ dX6_change_53 (fun _ => rfl) (fun _ => rfl) (fun _ => rfl) (fun u7 => ?_)
      refine r_goto C 65 dX6_change_56 (by decide) ?_
      exact r_reti (x := u7.1) (rv := (fun u => some (.int u.1))) (hpE := (fun u => w_X6 u.2)) (t0 := (u7.1, u7.2)) C dX6_change_65 (by rfl) (by rfl) (by rfl)
set_option maxRecDepth 100000 in
set_option maxHeartbeats 4000000 in
theorem k_X6_change_11 {p : Program} {l : Launch} {e : Env} {s : State} {m : MethodId} {args : Array Value} {below : List Frame} {meth : Method} {c : Code} {dC : Nat → ClassId} {dI : Nat → Nat → Nat} {dA : Nat → ClassId} {A : Nat → Prop} {α : Nat → Nat} {t : Int32 × q_St} (C : q_Cx p s m args meth c cX6_change 5 RX6 (some .int) "change" dC dI dA A α) (M : q_St) (a1 : Int32) (a2 : Int32) (a3 : Int32)  : ∀ (x1 : Int32) (x2 : Int32) (x3 : Int32) (M' : q_St), q_S p l e (q_rm 2 43) s m args below meth c 5 dC dI dA A α (MQ below (q_Q α dC dI dA A ((fun u => some (.int u.1)) t) ((fun u => w_X6 u.2) t)) args s 0 0 A) 0 0 (f_X6_change_11 M a1 a2 a3  x1 x2 x3 M') t 11 [(0, .ref 50), (1, .int x1), (2, .int x2), (3, .int x3)] [] (w_X6 M') := by
  intro x1 x2 x3 M'
  refine r_cut (f_X6_change_11.eq_1 _ _ _ _ _ _ _ _) ?_
  refine r_iload_n C 2 dX6_change_11 rfl ?_
  refine r_iconst C (1) dX6_change_12 rfl ?_
  refine r_icmp_ne C 30 dX6_change_13 (by decide) (fun h13 => ?_) (fun h13 => ?_)
  · refine r_iload_n C 3 dX6_change_16 rfl ?_
    refine r_iconst C (1) dX6_change_17 rfl ?_
    refine r_bipush C (9) dX6_change_18 rfl ?_
    refine r_callS C (o_X6_within l x3 (1 : Int32) (9 : Int32)) v_X6_within m_999 [] [.int x3, .int (1 : Int32), .int (9 : Int32)] [] (fun u2 => [.int u2]) (fun u2 => [.inr (5, [.ref 51, .ref 52, .ref 53, .int (M'.1 3), .ref 54, .ref 55, .ref 56, .int (M'.1 7), .ref 57, .ref 58, .int (M'.1 10), .int (M'.1 11), .int (M'.1 12), .int (M'.1 13), .int (M'.1 14), .int (M'.1 15), .ref 59, .ref 60, .int (M'.1 18), .int (M'.1 19), .int (M'.1 20), .ref 61, .ref 62, .ref 63, .ref 64]), .inl (0, 68, .inl (M'.2 0)), .inl (0, 68, .inl (M'.2 1)), .inl (0, 68, .inl (M'.2 2)), .inl (0, 8, .inl (M'.2 4)), .inl (0, 1053, .inl (M'.2 5)), .inl (1, 972, .inl (M'.2 6)), .inl (0, 1053, .inl (M'.2 8)), .inl (0, 120, .inl (M'.2 9)), .inl (3, 7, .inr (.inr (.inr (.inr q_kf)))), .inl (0, 360, .inl (M'.2 17)), .inl (0, 4, .inl (M'.2 21)), .inl (0, 4, .inl (M'.2 22)), .inl (0, 160, .inl (M'.2 23)), .inl (0, 40, .inl (M'.2 24))]) rfl rfl rfl rfl rfl (Nat.le_of_ble_eq_true rfl) ⟨(Nat.le_of_ble_eq_true rfl), (Nat.le_of_ble_eq_true rfl)⟩ ⟨Nat.zero_le _, Nat.zero_le _⟩ dX6_change_20 (fun _ => rfl) (fun _ => rfl) (fun _ => rfl) (fun u2 => ?_)
    refine r_if_eq C 30 dX6_change_23 (by decide) (fun h23 => ?_) (fun h23 => ?_)
    · refine r_iconst C (0) dX6_change_30 rfl ?_
      exact k_X6_change_31 C M a1 a2 a3   x1 x2 x3 (0 : Int32) M'
    · refine r_iconst C (1) dX6_change_26 rfl ?_
      refine r_goto C 31 dX6_change_27 (by decide) ?_
      exact k_X6_change_31 C M a1 a2 a3   x1 x2 x3 (1 : Int32) M'
  · refine r_iconst C (0) dX6_change_30 rfl ?_
    exact k_X6_change_31 C M a1 a2 a3   x1 x2 x3 (0 : Int32) M'
set_option maxRecDepth 100000 in
set_option maxHeartbeats 4000000 in
theorem o_X6_change (l : Launch) (M : q_St) (a1 : Int32) (a2 : Int32) (a3 : Int32) : q_Ok l yX6_change cX6_change 5 (some .int) 2 43 [.ref 50, .int a1, .int a2, .int a3] (w_X6 M) (f_X6_change M a1 a2 a3) (fun u => some (.int u.1)) (fun u => w_X6 u.2) := by
  refine q_enter (by decide +kernel) (Nat.le_of_ble_eq_true rfl) (fun t p e s m args below meth c dC dI dA A α C => ?_)
  refine r_cut (f_X6_change.eq_1 _ _ _ _) ?_
  show q_S p l e (q_rm 2 43) s m args below meth c 5 dC dI dA A α (MQ below (q_Q α dC dI dA A ((fun u => some (.int u.1)) t) ((fun u => w_X6 u.2) t)) args s 0 0 A) 0 0 _ t 0 [(0, .ref 50), (1, .int a1), (2, .int a2), (3, .int a3)] [] (w_X6 M)
  refine r_iload_n C 2 dX6_change_0 rfl ?_
  refine r_if_ne C 11 dX6_change_1 (by decide) (fun h1 => ?_) (fun h1 => ?_)
  · refine r_iload_n C 3 dX6_change_4 rfl ?_
    refine r_callS C (o_X6_isKind l a3) v_X6_isKind m_996 [] [.int a3] [] (fun u1 => [.int u1]) (fun u1 => [.inr (5, [.ref 51, .ref 52, .ref 53, .int (M.1 3), .ref 54, .ref 55, .ref 56, .int (M.1 7), .ref 57, .ref 58, .int (M.1 10), .int (M.1 11), .int (M.1 12), .int (M.1 13), .int (M.1 14), .int (M.1 15), .ref 59, .ref 60, .int (M.1 18), .int (M.1 19), .int (M.1 20), .ref 61, .ref 62, .ref 63, .ref 64]), .inl (0, 68, .inl (M.2 0)), .inl (0, 68, .inl (M.2 1)), .inl (0, 68, .inl (M.2 2)), .inl (0, 8, .inl (M.2 4)), .inl (0, 1053, .inl (M.2 5)), .inl (1, 972, .inl (M.2 6)), .inl (0, 1053, .inl (M.2 8)), .inl (0, 120, .inl (M.2 9)), .inl (3, 7, .inr (.inr (.inr (.inr q_kf)))), .inl (0, 360, .inl (M.2 17)), .inl (0, 4, .inl (M.2 21)), .inl (0, 4, .inl (M.2 22)), .inl (0, 160, .inl (M.2 23)), .inl (0, 40, .inl (M.2 24))]) rfl rfl rfl rfl rfl (Nat.le_of_ble_eq_true rfl) ⟨(Nat.le_of_ble_eq_true rfl), (Nat.le_of_ble_eq_true rfl)⟩ ⟨Nat.zero_le _, Nat.zero_le _⟩ dX6_change_5 (fun _ => rfl) (fun _ => rfl) (fun _ => rfl) (fun u1 => ?_)
    refine r_if_ne C 26 dX6_change_8 (by decide) (fun h8 => ?_) (fun h8 => ?_)
    · exact k_X6_change_11 C M a1 a2 a3   a1 a2 a3 M
    · refine r_iconst C (1) dX6_change_26 rfl ?_
      refine r_goto C 31 dX6_change_27 (by decide) ?_
      exact k_X6_change_31 C M a1 a2 a3   a1 a2 a3 (1 : Int32) M
  · exact k_X6_change_11 C M a1 a2 a3   a1 a2 a3 M
set_option maxRecDepth 100000 in
set_option maxHeartbeats 4000000 in
theorem o_X6_swapsHooks (l : Launch) (M : q_St) (a1 : Int32) (a2 : Int32) : q_Ok l yX6_swapsHooks cX6_swapsHooks 4 (some .int) 2 43 [.ref 50, .int a1, .int a2] (w_X6 M) (f_X6_swapsHooks M a1 a2) (fun u => some (.int u.1)) (fun u => w_X6 u.2) := by
  refine q_enter (by decide +kernel) (Nat.le_of_ble_eq_true rfl) (fun t p e s m args below meth c dC dI dA A α C => ?_)
  refine r_cut (f_X6_swapsHooks.eq_1 _ _ _) ?_
  show q_S p l e (q_rm 2 43) s m args below meth c 4 dC dI dA A α (MQ below (q_Q α dC dI dA A ((fun u => some (.int u.1)) t) ((fun u => w_X6 u.2) t)) args s 0 0 A) 0 0 _ t 0 [(0, .ref 50), (1, .int a1), (2, .int a2)] [] (w_X6 M)
  refine r_aload_n C 0 dX6_swapsHooks_0 rfl ?_
  refine r_iload_n C 1 dX6_swapsHooks_1 rfl ?_
  refine r_iconst C (2) dX6_swapsHooks_2 rfl ?_
  refine r_callS C (o_X6_at l a1 (2 : Int32)) v_X6_at m_1012 [] [.int a1, .int (2 : Int32)] [.ref 50] (fun u1 => [.int u1, .ref 50]) (fun u1 => [.inr (5, [.ref 51, .ref 52, .ref 53, .int (M.1 3), .ref 54, .ref 55, .ref 56, .int (M.1 7), .ref 57, .ref 58, .int (M.1 10), .int (M.1 11), .int (M.1 12), .int (M.1 13), .int (M.1 14), .int (M.1 15), .ref 59, .ref 60, .int (M.1 18), .int (M.1 19), .int (M.1 20), .ref 61, .ref 62, .ref 63, .ref 64]), .inl (0, 68, .inl (M.2 0)), .inl (0, 68, .inl (M.2 1)), .inl (0, 68, .inl (M.2 2)), .inl (0, 8, .inl (M.2 4)), .inl (0, 1053, .inl (M.2 5)), .inl (1, 972, .inl (M.2 6)), .inl (0, 1053, .inl (M.2 8)), .inl (0, 120, .inl (M.2 9)), .inl (3, 7, .inr (.inr (.inr (.inr q_kf)))), .inl (0, 360, .inl (M.2 17)), .inl (0, 4, .inl (M.2 21)), .inl (0, 4, .inl (M.2 22)), .inl (0, 160, .inl (M.2 23)), .inl (0, 40, .inl (M.2 24))]) rfl rfl rfl rfl rfl (Nat.le_of_ble_eq_true rfl) ⟨(Nat.le_of_ble_eq_true rfl), (Nat.le_of_ble_eq_true rfl)⟩ ⟨Nat.zero_le _, Nat.zero_le _⟩ dX6_swapsHooks_3 (fun _ => rfl) (fun _ => rfl) (fun _ => rfl) (fun u1 => ?_)
  refine r_aload_n C 0 dX6_swapsHooks_6 rfl ?_
  refine r_iload_n C 2 dX6_swapsHooks_7 rfl ?_
  refine r_iconst C (2) dX6_swapsHooks_8 rfl ?_
  refine r_callV0 C (o_X6_dollIs l M a2 (2 : Int32)) v_X6_dollIs m_1023 [.int a2, .int (2 : Int32)] [.int u1, .ref 50] (50) (Or.inl ⟨0, 5, _, TX6, 25, rfl, rfl, rfl⟩) (fun u2 => [.int u2, .int u1, .ref 50]) (fun u2 => [.inr (5, [.ref 51, .ref 52, .ref 53, .int (M.1 3), .ref 54, .ref 55, .ref 56, .int (M.1 7), .ref 57, .ref 58, .int (M.1 10), .int (M.1 11), .int (M.1 12), .int (M.1 13), .int (M.1 14), .int (M.1 15), .ref 59, .ref 60, .int (M.1 18), .int (M.1 19), .int (M.1 20), .ref 61, .ref 62, .ref 63, .ref 64]), .inl (0, 68, .inl (M.2 0)), .inl (0, 68, .inl (M.2 1)), .inl (0, 68, .inl (M.2 2)), .inl (0, 8, .inl (M.2 4)), .inl (0, 1053, .inl (M.2 5)), .inl (1, 972, .inl (M.2 6)), .inl (0, 1053, .inl (M.2 8)), .inl (0, 120, .inl (M.2 9)), .inl (3, 7, .inr (.inr (.inr (.inr q_kf)))), .inl (0, 360, .inl (M.2 17)), .inl (0, 4, .inl (M.2 21)), .inl (0, 4, .inl (M.2 22)), .inl (0, 160, .inl (M.2 23)), .inl (0, 40, .inl (M.2 24))]) rfl rfl rfl (Nat.le_of_ble_eq_true rfl) ⟨(Nat.le_of_ble_eq_true rfl), (Nat.le_of_ble_eq_true rfl)⟩ ⟨Nat.zero_le _, Nat.zero_le _⟩ dX6_swapsHooks_9 (fun _ => rfl) (fun _ => rfl) (fun _ => rfl) (fun u2 => ?_)
  refine r_callV0 C (o_X6_become l M u1 u2) v_X6_become m_1050 [.int u1, .int u2] [] (50) (Or.inl ⟨0, 5, _, TX6, 25, rfl, rfl, rfl⟩) (fun u3 => [.int u3.1]) (fun u3 => [.inr (5, [.ref 51, .ref 52, .ref 53, .int (u3.2.1 3), .ref 54, .ref 55, .ref 56, .int (u3.2.1 7), .ref 57, .ref 58, .int (u3.2.1 10), .int (u3.2.1 11), .int (u3.2.1 12), .int (u3.2.1 13), .int (u3.2.1 14), .int (u3.2.1 15), .ref 59, .ref 60, .int (u3.2.1 18), .int (u3.2.1 19), .int (u3.2.1 20), .ref 61, .ref 62, .ref 63, .ref 64]), .inl (0, 68, .inl (u3.2.2 0)), .inl (0, 68, .inl (u3.2.2 1)), .inl (0, 68, .inl (u3.2.2 2)), .inl (0, 8, .inl (u3.2.2 4)), .inl (0, 1053, .inl (u3.2.2 5)), .inl (1, 972, .inl (u3.2.2 6)), .inl (0, 1053, .inl (u3.2.2 8)), .inl (0, 120, .inl (u3.2.2 9)), .inl (3, 7, .inr (.inr (.inr (.inr q_kf)))), .inl (0, 360, .inl (u3.2.2 17)), .inl (0, 4, .inl (u3.2.2 21)), .inl (0, 4, .inl (u3.2.2 22)), .inl (0, 160, .inl (u3.2.2 23)), .inl (0, 40, .inl (u3.2.2 24))]) rfl rfl rfl (Nat.le_of_ble_eq_true rfl) ⟨(Nat.le_of_ble_eq_true rfl), (Nat.le_of_ble_eq_true rfl)⟩ ⟨Nat.zero_le _, Nat.zero_le _⟩ dX6_swapsHooks_12 (fun _ => rfl) (fun _ => rfl) (fun _ => rfl) (fun u3 => ?_)
  refine r_istore_n C [(3, .int u3.1), (0, .ref 50), (1, .int a1), (2, .int a2)] dX6_swapsHooks_15 (Nat.le_of_ble_eq_true rfl) rfl ?_
  refine r_aload_n C 1 dX6_swapsHooks_16 rfl ?_
  refine r_get C 0 0 dX6_swapsHooks_17 K_X6 rfl rfl (Nat.le_of_ble_eq_true rfl) rfl m_915 rfl ?_
  refine r_iload_n C 3 dX6_swapsHooks_20 rfl ?_
  refine r_iconst C (2) dX6_swapsHooks_21 rfl ?_
  refine r_callS C (o_X6_at l a2 (2 : Int32)) v_X6_at m_1012 [] [.int a2, .int (2 : Int32)] [.ref 51] (fun u4 => [.int u4, .ref 51]) (fun u4 => [.inr (5, [.ref 51, .ref 52, .ref 53, .int (u3.2.1 3), .ref 54, .ref 55, .ref 56, .int (u3.2.1 7), .ref 57, .ref 58, .int (u3.2.1 10), .int (u3.2.1 11), .int (u3.2.1 12), .int (u3.2.1 13), .int (u3.2.1 14), .int (u3.2.1 15), .ref 59, .ref 60, .int (u3.2.1 18), .int (u3.2.1 19), .int (u3.2.1 20), .ref 61, .ref 62, .ref 63, .ref 64]), .inl (0, 68, .inl (u3.2.2 0)), .inl (0, 68, .inl (u3.2.2 1)), .inl (0, 68, .inl (u3.2.2 2)), .inl (0, 8, .inl (u3.2.2 4)), .inl (0, 1053, .inl (u3.2.2 5)), .inl (1, 972, .inl (u3.2.2 6)), .inl (0, 1053, .inl (u3.2.2 8)), .inl (0, 120, .inl (u3.2.2 9)), .inl (3, 7, .inr (.inr (.inr (.inr q_kf)))), .inl (0, 360, .inl (u3.2.2 17)), .inl (0, 4, .inl (u3.2.2 21)), .inl (0, 4, .inl (u3.2.2 22)), .inl (0, 160, .inl (u3.2.2 23)), .inl (0, 40, .inl (u3.2.2 24))]) rfl rfl rfl rfl rfl (Nat.le_of_ble_eq_true rfl) ⟨(Nat.le_of_ble_eq_true rfl), (Nat.le_of_ble_eq_true rfl)⟩ ⟨Nat.zero_le _, Nat.zero_le _⟩ dX6_swapsHooks_22 (fun _ => rfl) (fun _ => rfl) (fun _ => rfl) (fun u4 => ?_)
  refine r_iload_n C 0 dX6_swapsHooks_25 rfl ?_
  refine r_iast C 1 _ dX6_swapsHooks_26 rfl rfl rfl (fun hi26 => ?_)
  refine r_aload_n C 1 dX6_swapsHooks_27 rfl ?_
  refine r_iload_n C 2 dX6_swapsHooks_28 rfl ?_
  refine r_iconst C (2) dX6_swapsHooks_29 rfl ?_
  refine r_callV0 C (o_X6_dollIs l (u3.2.1, (va_up u3.2.2 0 (upd (u3.2.2 0) u4.toNatClampNeg u3.1))) a1 (2 : Int32)) v_X6_dollIs m_1023 [.int a1, .int (2 : Int32)] [] (50) (Or.inl ⟨0, 5, _, TX6, 25, rfl, rfl, rfl⟩) (fun u5 => [.int u5]) (fun u5 => [.inr (5, [.ref 51, .ref 52, .ref 53, .int (u3.2.1 3), .ref 54, .ref 55, .ref 56, .int (u3.2.1 7), .ref 57, .ref 58, .int (u3.2.1 10), .int (u3.2.1 11), .int (u3.2.1 12), .int (u3.2.1 13), .int (u3.2.1 14), .int (u3.2.1 15), .ref 59, .ref 60, .int (u3.2.1 18), .int (u3.2.1 19), .int (u3.2.1 20), .ref 61, .ref 62, .ref 63, .ref 64]), .inl (0, 68, .inl ((upd (u3.2.2 0) u4.toNatClampNeg u3.1))), .inl (0, 68, .inl (u3.2.2 1)), .inl (0, 68, .inl (u3.2.2 2)), .inl (0, 8, .inl (u3.2.2 4)), .inl (0, 1053, .inl (u3.2.2 5)), .inl (1, 972, .inl (u3.2.2 6)), .inl (0, 1053, .inl (u3.2.2 8)), .inl (0, 120, .inl (u3.2.2 9)), .inl (3, 7, .inr (.inr (.inr (.inr q_kf)))), .inl (0, 360, .inl (u3.2.2 17)), .inl (0, 4, .inl (u3.2.2 21)), .inl (0, 4, .inl (u3.2.2 22)), .inl (0, 160, .inl (u3.2.2 23)), .inl (0, 40, .inl (u3.2.2 24))]) rfl rfl rfl (Nat.le_of_ble_eq_true rfl) ⟨(Nat.le_of_ble_eq_true rfl), (Nat.le_of_ble_eq_true rfl)⟩ ⟨Nat.zero_le _, Nat.zero_le _⟩ dX6_swapsHooks_30 (fun _ => rfl) (fun _ => rfl) (fun _ => rfl) (fun u5 => ?_)
  exact r_reti (x := u5) (rv := (fun u => some (.int u.1))) (hpE := (fun u => w_X6 u.2)) (t0 := (u5, (u3.2.1, (va_up u3.2.2 0 (upd (u3.2.2 0) u4.toNatClampNeg u3.1))))) C dX6_swapsHooks_33 (by rfl) (by rfl) (by rfl)
set_option maxRecDepth 100000 in
set_option maxHeartbeats 4000000 in
theorem o_X6_hooks (l : Launch) (M : q_St) (a1 : Int32) (a2 : Int32) : q_Ok l yX6_hooks cX6_hooks 3 (some .int) 3 66 [.ref 50, .int a1, .int a2] (w_X6 M) (f_X6_hooks M a1 a2) (fun u => some (.int u.1)) (fun u => w_X6 u.2) := by
  refine q_enter (by decide +kernel) (Nat.le_of_ble_eq_true rfl) (fun t p e s m args below meth c dC dI dA A α C => ?_)
  refine r_cut (f_X6_hooks.eq_1 _ _ _) ?_
  show q_S p l e (q_rm 3 66) s m args below meth c 3 dC dI dA A α (MQ below (q_Q α dC dI dA A ((fun u => some (.int u.1)) t) ((fun u => w_X6 u.2) t)) args s 0 0 A) 0 0 _ t 0 [(0, .ref 50), (1, .int a1), (2, .int a2)] [] (w_X6 M)
  refine r_aload_n C 0 dX6_hooks_0 rfl ?_
  refine r_iload_n C 1 dX6_hooks_1 rfl ?_
  refine r_callV0 C (o_X6_isDoll l M a1) v_X6_isDoll m_1019 [.int a1] [] (50) (Or.inl ⟨0, 5, _, TX6, 25, rfl, rfl, rfl⟩) (fun u1 => [.int u1]) (fun u1 => [.inr (5, [.ref 51, .ref 52, .ref 53, .int (M.1 3), .ref 54, .ref 55, .ref 56, .int (M.1 7), .ref 57, .ref 58, .int (M.1 10), .int (M.1 11), .int (M.1 12), .int (M.1 13), .int (M.1 14), .int (M.1 15), .ref 59, .ref 60, .int (M.1 18), .int (M.1 19), .int (M.1 20), .ref 61, .ref 62, .ref 63, .ref 64]), .inl (0, 68, .inl (M.2 0)), .inl (0, 68, .inl (M.2 1)), .inl (0, 68, .inl (M.2 2)), .inl (0, 8, .inl (M.2 4)), .inl (0, 1053, .inl (M.2 5)), .inl (1, 972, .inl (M.2 6)), .inl (0, 1053, .inl (M.2 8)), .inl (0, 120, .inl (M.2 9)), .inl (3, 7, .inr (.inr (.inr (.inr q_kf)))), .inl (0, 360, .inl (M.2 17)), .inl (0, 4, .inl (M.2 21)), .inl (0, 4, .inl (M.2 22)), .inl (0, 160, .inl (M.2 23)), .inl (0, 40, .inl (M.2 24))]) rfl rfl rfl (Nat.le_of_ble_eq_true rfl) ⟨(Nat.le_of_ble_eq_true rfl), (Nat.le_of_ble_eq_true rfl)⟩ ⟨Nat.zero_le _, Nat.zero_le _⟩ dX6_hooks_2 (fun _ => rfl) (fun _ => rfl) (fun _ => rfl) (fun u1 => ?_)
  refine r_if_eq C 30 dX6_hooks_5 (by decide) (fun h5 => ?_) (fun h5 => ?_)
  · refine r_aload_n C 0 dX6_hooks_30 rfl ?_
    refine r_ldc C (-1000001) dX6_hooks_31 m_1002 ?_
    refine r_callV0 C (o_X6_finding l M (-1000001 : Int32)) v_X6_finding m_1003 [.int (-1000001 : Int32)] [] (50) (Or.inl ⟨0, 5, _, TX6, 25, rfl, rfl, rfl⟩) (fun u2 => [.int u2.1]) (fun u2 => [.inr (5, [.ref 51, .ref 52, .ref 53, .int (u2.2.1 3), .ref 54, .ref 55, .ref 56, .int (u2.2.1 7), .ref 57, .ref 58, .int (u2.2.1 10), .int (u2.2.1 11), .int (u2.2.1 12), .int (u2.2.1 13), .int (u2.2.1 14), .int (u2.2.1 15), .ref 59, .ref 60, .int (u2.2.1 18), .int (u2.2.1 19), .int (u2.2.1 20), .ref 61, .ref 62, .ref 63, .ref 64]), .inl (0, 68, .inl (u2.2.2 0)), .inl (0, 68, .inl (u2.2.2 1)), .inl (0, 68, .inl (u2.2.2 2)), .inl (0, 8, .inl (u2.2.2 4)), .inl (0, 1053, .inl (u2.2.2 5)), .inl (1, 972, .inl (u2.2.2 6)), .inl (0, 1053, .inl (u2.2.2 8)), .inl (0, 120, .inl (u2.2.2 9)), .inl (3, 7, .inr (.inr (.inr (.inr q_kf)))), .inl (0, 360, .inl (u2.2.2 17)), .inl (0, 4, .inl (u2.2.2 21)), .inl (0, 4, .inl (u2.2.2 22)), .inl (0, 160, .inl (u2.2.2 23)), .inl (0, 40, .inl (u2.2.2 24))]) rfl rfl rfl (Nat.le_of_ble_eq_true rfl) ⟨(Nat.le_of_ble_eq_true rfl), (Nat.le_of_ble_eq_true rfl)⟩ ⟨Nat.zero_le _, Nat.zero_le _⟩ dX6_hooks_33 (fun _ => rfl) (fun _ => rfl) (fun _ => rfl) (fun u2 => ?_)
    exact r_reti (x := u2.1) (rv := (fun u => some (.int u.1))) (hpE := (fun u => w_X6 u.2)) (t0 := (u2.1, u2.2)) C dX6_hooks_36 (by rfl) (by rfl) (by rfl)
  · refine r_aload_n C 0 dX6_hooks_8 rfl ?_
    refine r_iload_n C 2 dX6_hooks_9 rfl ?_
    refine r_callV0 C (o_X6_isDoll l M a2) v_X6_isDoll m_1019 [.int a2] [] (50) (Or.inl ⟨0, 5, _, TX6, 25, rfl, rfl, rfl⟩) (fun u3 => [.int u3]) (fun u3 => [.inr (5, [.ref 51, .ref 52, .ref 53, .int (M.1 3), .ref 54, .ref 55, .ref 56, .int (M.1 7), .ref 57, .ref 58, .int (M.1 10), .int (M.1 11), .int (M.1 12), .int (M.1 13), .int (M.1 14), .int (M.1 15), .ref 59, .ref 60, .int (M.1 18), .int (M.1 19), .int (M.1 20), .ref 61, .ref 62, .ref 63, .ref 64]), .inl (0, 68, .inl (M.2 0)), .inl (0, 68, .inl (M.2 1)), .inl (0, 68, .inl (M.2 2)), .inl (0, 8, .inl (M.2 4)), .inl (0, 1053, .inl (M.2 5)), .inl (1, 972, .inl (M.2 6)), .inl (0, 1053, .inl (M.2 8)), .inl (0, 120, .inl (M.2 9)), .inl (3, 7, .inr (.inr (.inr (.inr q_kf)))), .inl (0, 360, .inl (M.2 17)), .inl (0, 4, .inl (M.2 21)), .inl (0, 4, .inl (M.2 22)), .inl (0, 160, .inl (M.2 23)), .inl (0, 40, .inl (M.2 24))]) rfl rfl rfl (Nat.le_of_ble_eq_true rfl) ⟨(Nat.le_of_ble_eq_true rfl), (Nat.le_of_ble_eq_true rfl)⟩ ⟨Nat.zero_le _, Nat.zero_le _⟩ dX6_hooks_10 (fun _ => rfl) (fun _ => rfl) (fun _ => rfl) (fun u3 => ?_)
    refine r_if_eq C 30 dX6_hooks_13 (by decide) (fun h13 => ?_) (fun h13 => ?_)
    · refine r_aload_n C 0 dX6_hooks_30 rfl ?_
      refine r_ldc C (-1000001) dX6_hooks_31 m_1002 ?_
      refine r_callV0 C (o_X6_finding l M (-1000001 : Int32)) v_X6_finding m_1003 [.int (-1000001 : Int32)] [] (50) (Or.inl ⟨0, 5, _, TX6, 25, rfl, rfl, rfl⟩) (fun u4 => [.int u4.1]) (fun u4 => [.inr (5, [.ref 51, .ref 52, .ref 53, .int (u4.2.1 3), .ref 54, .ref 55, .ref 56, .int (u4.2.1 7), .ref 57, .ref 58, .int (u4.2.1 10), .int (u4.2.1 11), .int (u4.2.1 12), .int (u4.2.1 13), .int (u4.2.1 14), .int (u4.2.1 15), .ref 59, .ref 60, .int (u4.2.1 18), .int (u4.2.1 19), .int (u4.2.1 20), .ref 61, .ref 62, .ref 63, .ref 64]), .inl (0, 68, .inl (u4.2.2 0)), .inl (0, 68, .inl (u4.2.2 1)), .inl (0, 68, .inl (u4.2.2 2)), .inl (0, 8, .inl (u4.2.2 4)), .inl (0, 1053, .inl (u4.2.2 5)), .inl (1, 972, .inl (u4.2.2 6)), .inl (0, 1053, .inl (u4.2.2 8)), .inl (0, 120, .inl (u4.2.2 9)), .inl (3, 7, .inr (.inr (.inr (.inr q_kf)))), .inl (0, 360, .inl (u4.2.2 17)), .inl (0, 4, .inl (u4.2.2 21)), .inl (0, 4, .inl (u4.2.2 22)), .inl (0, 160, .inl (u4.2.2 23)), .inl (0, 40, .inl (u4.2.2 24))]) rfl rfl rfl (Nat.le_of_ble_eq_true rfl) ⟨(Nat.le_of_ble_eq_true rfl), (Nat.le_of_ble_eq_true rfl)⟩ ⟨Nat.zero_le _, Nat.zero_le _⟩ dX6_hooks_33 (fun _ => rfl) (fun _ => rfl) (fun _ => rfl) (fun u4 => ?_)
      exact r_reti (x := u4.1) (rv := (fun u => some (.int u.1))) (hpE := (fun u => w_X6 u.2)) (t0 := (u4.1, u4.2)) C dX6_hooks_36 (by rfl) (by rfl) (by rfl)
    · refine r_iload_n C 1 dX6_hooks_16 rfl ?_
      refine r_iload_n C 2 dX6_hooks_17 rfl ?_
      refine r_icmp_eq C 30 dX6_hooks_18 (by decide) (fun h18 => ?_) (fun h18 => ?_)
      · refine r_aload_n C 0 dX6_hooks_30 rfl ?_
        refine r_ldc C (-1000001) dX6_hooks_31 m_1002 ?_
        refine r_callV0 C (o_X6_finding l M (-1000001 : Int32)) v_X6_finding m_1003 [.int (-1000001 : Int32)] [] (50) (Or.inl ⟨0, 5, _, TX6, 25, rfl, rfl, rfl⟩) (fun u5 => [.int u5.1]) (fun u5 => [.inr (5, [.ref 51, .ref 52, .ref 53, .int (u5.2.1 3), .ref 54, .ref 55, .ref 56, .int (u5.2.1 7), .ref 57, .ref 58, .int (u5.2.1 10), .int (u5.2.1 11), .int (u5.2.1 12), .int (u5.2.1 13), .int (u5.2.1 14), .int (u5.2.1 15), .ref 59, .ref 60, .int (u5.2.1 18), .int (u5.2.1 19), .int (u5.2.1 20), .ref 61, .ref 62, .ref 63, .ref 64]), .inl (0, 68, .inl (u5.2.2 0)), .inl (0, 68, .inl (u5.2.2 1)), .inl (0, 68, .inl (u5.2.2 2)), .inl (0, 8, .inl (u5.2.2 4)), .inl (0, 1053, .inl (u5.2.2 5)), .inl (1, 972, .inl (u5.2.2 6)), .inl (0, 1053, .inl (u5.2.2 8)), .inl (0, 120, .inl (u5.2.2 9)), .inl (3, 7, .inr (.inr (.inr (.inr q_kf)))), .inl (0, 360, .inl (u5.2.2 17)), .inl (0, 4, .inl (u5.2.2 21)), .inl (0, 4, .inl (u5.2.2 22)), .inl (0, 160, .inl (u5.2.2 23)), .inl (0, 40, .inl (u5.2.2 24))]) rfl rfl rfl (Nat.le_of_ble_eq_true rfl) ⟨(Nat.le_of_ble_eq_true rfl), (Nat.le_of_ble_eq_true rfl)⟩ ⟨Nat.zero_le _, Nat.zero_le _⟩ dX6_hooks_33 (fun _ => rfl) (fun _ => rfl) (fun _ => rfl) (fun u5 => ?_)
        exact r_reti (x := u5.1) (rv := (fun u => some (.int u.1))) (hpE := (fun u => w_X6 u.2)) (t0 := (u5.1, u5.2)) C dX6_hooks_36 (by rfl) (by rfl) (by rfl)
      · refine r_aload_n C 0 dX6_hooks_21 rfl ?_
        refine r_iload_n C 1 dX6_hooks_22 rfl ?_
        refine r_iload_n C 2 dX6_hooks_23 rfl ?_
        refine r_callV0 C (o_X6_swapsHooks l M a1 a2) v_X6_swapsHooks m_1058 [.int a1, .int a2] [] (50) (Or.inl ⟨0, 5, _, TX6, 25, rfl, rfl, rfl⟩) (fun u6 => [.int u6.1]) (fun u6 => [.inr (5, [.ref 51, .ref 52, .ref 53, .int (u6.2.1 3), .ref 54, .ref 55, .ref 56, .int (u6.2.1 7), .ref 57, .ref 58, .int (u6.2.1 10), .int (u6.2.1 11), .int (u6.2.1 12), .int (u6.2.1 13), .int (u6.2.1 14), .int (u6.2.1 15), .ref 59, .ref 60, .int (u6.2.1 18), .int (u6.2.1 19), .int (u6.2.1 20), .ref 61, .ref 62, .ref 63, .ref 64]), .inl (0, 68, .inl (u6.2.2 0)), .inl (0, 68, .inl (u6.2.2 1)), .inl (0, 68, .inl (u6.2.2 2)), .inl (0, 8, .inl (u6.2.2 4)), .inl (0, 1053, .inl (u6.2.2 5)), .inl (1, 972, .inl (u6.2.2 6)), .inl (0, 1053, .inl (u6.2.2 8)), .inl (0, 120, .inl (u6.2.2 9)), .inl (3, 7, .inr (.inr (.inr (.inr q_kf)))), .inl (0, 360, .inl (u6.2.2 17)), .inl (0, 4, .inl (u6.2.2 21)), .inl (0, 4, .inl (u6.2.2 22)), .inl (0, 160, .inl (u6.2.2 23)), .inl (0, 40, .inl (u6.2.2 24))]) rfl rfl rfl (Nat.le_of_ble_eq_true rfl) ⟨(Nat.le_of_ble_eq_true rfl), (Nat.le_of_ble_eq_true rfl)⟩ ⟨Nat.zero_le _, Nat.zero_le _⟩ dX6_hooks_24 (fun _ => rfl) (fun _ => rfl) (fun _ => rfl) (fun u6 => ?_)
        refine r_goto C 36 dX6_hooks_27 (by decide) ?_
        exact r_reti (x := u6.1) (rv := (fun u => some (.int u.1))) (hpE := (fun u => w_X6 u.2)) (t0 := (u6.1, u6.2)) C dX6_hooks_36 (by rfl) (by rfl) (by rfl)
set_option maxRecDepth 100000 in
set_option maxHeartbeats 4000000 in
theorem o_X6_leaves (l : Launch) (M : q_St) (a1 : Int32) : q_Ok l yX6_leaves cX6_leaves 2 (some .int) 1 23 [.ref 50, .int a1] (w_X6 M) (f_X6_leaves M a1) (fun u => some (.int u.1)) (fun u => w_X6 u.2) := by
  refine q_enter (by decide +kernel) (Nat.le_of_ble_eq_true rfl) (fun t p e s m args below meth c dC dI dA A α C => ?_)
  refine r_cut (f_X6_leaves.eq_1 _ _) ?_
  show q_S p l e (q_rm 1 23) s m args below meth c 2 dC dI dA A α (MQ below (q_Q α dC dI dA A ((fun u => some (.int u.1)) t) ((fun u => w_X6 u.2) t)) args s 0 0 A) 0 0 _ t 0 [(0, .ref 50), (1, .int a1)] [] (w_X6 M)
  refine r_iload_n C 1 dX6_leaves_0 rfl ?_
  refine r_iconst C (0) dX6_leaves_1 rfl ?_
  refine r_bipush C (10) dX6_leaves_2 rfl ?_
  refine r_callS C (o_X6_within l a1 (0 : Int32) (10 : Int32)) v_X6_within m_999 [] [.int a1, .int (0 : Int32), .int (10 : Int32)] [] (fun u1 => [.int u1]) (fun u1 => [.inr (5, [.ref 51, .ref 52, .ref 53, .int (M.1 3), .ref 54, .ref 55, .ref 56, .int (M.1 7), .ref 57, .ref 58, .int (M.1 10), .int (M.1 11), .int (M.1 12), .int (M.1 13), .int (M.1 14), .int (M.1 15), .ref 59, .ref 60, .int (M.1 18), .int (M.1 19), .int (M.1 20), .ref 61, .ref 62, .ref 63, .ref 64]), .inl (0, 68, .inl (M.2 0)), .inl (0, 68, .inl (M.2 1)), .inl (0, 68, .inl (M.2 2)), .inl (0, 8, .inl (M.2 4)), .inl (0, 1053, .inl (M.2 5)), .inl (1, 972, .inl (M.2 6)), .inl (0, 1053, .inl (M.2 8)), .inl (0, 120, .inl (M.2 9)), .inl (3, 7, .inr (.inr (.inr (.inr q_kf)))), .inl (0, 360, .inl (M.2 17)), .inl (0, 4, .inl (M.2 21)), .inl (0, 4, .inl (M.2 22)), .inl (0, 160, .inl (M.2 23)), .inl (0, 40, .inl (M.2 24))]) rfl rfl rfl rfl rfl (Nat.le_of_ble_eq_true rfl) ⟨(Nat.le_of_ble_eq_true rfl), (Nat.le_of_ble_eq_true rfl)⟩ ⟨Nat.zero_le _, Nat.zero_le _⟩ dX6_leaves_4 (fun _ => rfl) (fun _ => rfl) (fun _ => rfl) (fun u1 => ?_)
  refine r_if_eq C 20 dX6_leaves_7 (by decide) (fun h7 => ?_) (fun h7 => ?_)
  · refine r_aload_n C 0 dX6_leaves_20 rfl ?_
    refine r_ldc C (-1000001) dX6_leaves_21 m_1002 ?_
    refine r_callV0 C (o_X6_finding l M (-1000001 : Int32)) v_X6_finding m_1003 [.int (-1000001 : Int32)] [] (50) (Or.inl ⟨0, 5, _, TX6, 25, rfl, rfl, rfl⟩) (fun u2 => [.int u2.1]) (fun u2 => [.inr (5, [.ref 51, .ref 52, .ref 53, .int (u2.2.1 3), .ref 54, .ref 55, .ref 56, .int (u2.2.1 7), .ref 57, .ref 58, .int (u2.2.1 10), .int (u2.2.1 11), .int (u2.2.1 12), .int (u2.2.1 13), .int (u2.2.1 14), .int (u2.2.1 15), .ref 59, .ref 60, .int (u2.2.1 18), .int (u2.2.1 19), .int (u2.2.1 20), .ref 61, .ref 62, .ref 63, .ref 64]), .inl (0, 68, .inl (u2.2.2 0)), .inl (0, 68, .inl (u2.2.2 1)), .inl (0, 68, .inl (u2.2.2 2)), .inl (0, 8, .inl (u2.2.2 4)), .inl (0, 1053, .inl (u2.2.2 5)), .inl (1, 972, .inl (u2.2.2 6)), .inl (0, 1053, .inl (u2.2.2 8)), .inl (0, 120, .inl (u2.2.2 9)), .inl (3, 7, .inr (.inr (.inr (.inr q_kf)))), .inl (0, 360, .inl (u2.2.2 17)), .inl (0, 4, .inl (u2.2.2 21)), .inl (0, 4, .inl (u2.2.2 22)), .inl (0, 160, .inl (u2.2.2 23)), .inl (0, 40, .inl (u2.2.2 24))]) rfl rfl rfl (Nat.le_of_ble_eq_true rfl) ⟨(Nat.le_of_ble_eq_true rfl), (Nat.le_of_ble_eq_true rfl)⟩ ⟨Nat.zero_le _, Nat.zero_le _⟩ dX6_leaves_23 (fun _ => rfl) (fun _ => rfl) (fun _ => rfl) (fun u2 => ?_)
    exact r_reti (x := u2.1) (rv := (fun u => some (.int u.1))) (hpE := (fun u => w_X6 u.2)) (t0 := (u2.1, u2.2)) C dX6_leaves_26 (by rfl) (by rfl) (by rfl)
  · refine r_aload_n C 0 dX6_leaves_10 rfl ?_
    refine r_bipush C (8) dX6_leaves_11 rfl ?_
    refine r_iload_n C 1 dX6_leaves_13 rfl ?_
    refine r_callV0 C (o_X6_become l M (8 : Int32) a1) v_X6_become m_1050 [.int (8 : Int32), .int a1] [] (50) (Or.inl ⟨0, 5, _, TX6, 25, rfl, rfl, rfl⟩) (fun u3 => [.int u3.1]) (fun u3 => [.inr (5, [.ref 51, .ref 52, .ref 53, .int (u3.2.1 3), .ref 54, .ref 55, .ref 56, .int (u3.2.1 7), .ref 57, .ref 58, .int (u3.2.1 10), .int (u3.2.1 11), .int (u3.2.1 12), .int (u3.2.1 13), .int (u3.2.1 14), .int (u3.2.1 15), .ref 59, .ref 60, .int (u3.2.1 18), .int (u3.2.1 19), .int (u3.2.1 20), .ref 61, .ref 62, .ref 63, .ref 64]), .inl (0, 68, .inl (u3.2.2 0)), .inl (0, 68, .inl (u3.2.2 1)), .inl (0, 68, .inl (u3.2.2 2)), .inl (0, 8, .inl (u3.2.2 4)), .inl (0, 1053, .inl (u3.2.2 5)), .inl (1, 972, .inl (u3.2.2 6)), .inl (0, 1053, .inl (u3.2.2 8)), .inl (0, 120, .inl (u3.2.2 9)), .inl (3, 7, .inr (.inr (.inr (.inr q_kf)))), .inl (0, 360, .inl (u3.2.2 17)), .inl (0, 4, .inl (u3.2.2 21)), .inl (0, 4, .inl (u3.2.2 22)), .inl (0, 160, .inl (u3.2.2 23)), .inl (0, 40, .inl (u3.2.2 24))]) rfl rfl rfl (Nat.le_of_ble_eq_true rfl) ⟨(Nat.le_of_ble_eq_true rfl), (Nat.le_of_ble_eq_true rfl)⟩ ⟨Nat.zero_le _, Nat.zero_le _⟩ dX6_leaves_14 (fun _ => rfl) (fun _ => rfl) (fun _ => rfl) (fun u3 => ?_)
    refine r_goto C 26 dX6_leaves_17 (by decide) ?_
    exact r_reti (x := u3.1) (rv := (fun u => some (.int u.1))) (hpE := (fun u => w_X6 u.2)) (t0 := (u3.1, u3.2)) C dX6_leaves_26 (by rfl) (by rfl) (by rfl)
set_option maxRecDepth 100000 in
set_option maxHeartbeats 4000000 in
theorem o_X6_comesBeat (l : Launch) (M : q_St) (a1 : Int32) (a2 : Int32) : q_Ok l yX6_comesBeat cX6_comesBeat 4 (some .int) 0 0 [.ref 50, .int a1, .int a2] (w_X6 M) (f_X6_comesBeat M a1 a2) (fun u => some (.int u.1)) (fun u => w_X6 u.2) := by
  refine q_enter (by decide +kernel) (Nat.le_of_ble_eq_true rfl) (fun t p e s m args below meth c dC dI dA A α C => ?_)
  refine r_cut (f_X6_comesBeat.eq_1 _ _ _) ?_
  show q_S p l e (q_rm 0 0) s m args below meth c 4 dC dI dA A α (MQ below (q_Q α dC dI dA A ((fun u => some (.int u.1)) t) ((fun u => w_X6 u.2) t)) args s 0 0 A) 0 0 _ t 0 [(0, .ref 50), (1, .int a1), (2, .int a2)] [] (w_X6 M)
  refine r_aload_n C 0 dX6_comesBeat_0 rfl ?_
  refine r_get C 0 0 dX6_comesBeat_1 K_X6 rfl rfl (Nat.le_of_ble_eq_true rfl) rfl m_915 rfl ?_
  refine r_iconst C (1) dX6_comesBeat_4 rfl ?_
  refine r_iald C 1 dX6_comesBeat_5 rfl rfl (fun hi5 => ?_)
  refine r_istore_n C [(3, .int (M.2 0 (1 : Int32).toNatClampNeg)), (0, .ref 50), (1, .int a1), (2, .int a2)] dX6_comesBeat_6 (Nat.le_of_ble_eq_true rfl) rfl ?_
  refine r_aload_n C 1 dX6_comesBeat_7 rfl ?_
  refine r_get C 0 0 dX6_comesBeat_8 K_X6 rfl rfl (Nat.le_of_ble_eq_true rfl) rfl m_915 rfl ?_
  refine r_bipush C (44) dX6_comesBeat_11 rfl ?_
  refine r_iload_n C 0 dX6_comesBeat_13 rfl ?_
  refine r_iadd C dX6_comesBeat_14 ?_
  refine r_iload_n C 2 dX6_comesBeat_15 rfl ?_
  refine r_iast C 1 _ dX6_comesBeat_16 rfl rfl rfl (fun hi16 => ?_)
  refine r_aload_n C 1 dX6_comesBeat_17 rfl ?_
  refine r_get C 0 0 dX6_comesBeat_18 K_X6 rfl rfl (Nat.le_of_ble_eq_true rfl) rfl m_915 rfl ?_
  refine r_bipush C (56) dX6_comesBeat_21 rfl ?_
  refine r_iload_n C 0 dX6_comesBeat_23 rfl ?_
  refine r_iadd C dX6_comesBeat_24 ?_
  refine r_iload_n C 3 dX6_comesBeat_25 rfl ?_
  refine r_iast C 1 _ dX6_comesBeat_26 rfl rfl rfl (fun hi26 => ?_)
  refine r_aload_n C 1 dX6_comesBeat_27 rfl ?_
  refine r_get C 0 0 dX6_comesBeat_28 K_X6 rfl rfl (Nat.le_of_ble_eq_true rfl) rfl m_915 rfl ?_
  refine r_iconst C (1) dX6_comesBeat_31 rfl ?_
  refine r_dup2 C dX6_comesBeat_32 rfl rfl ?_
  refine r_iald C 1 dX6_comesBeat_33 rfl rfl (fun hi33 => ?_)
  refine r_iconst C (1) dX6_comesBeat_34 rfl ?_
  refine r_iadd C dX6_comesBeat_35 ?_
  refine r_iast C 1 _ dX6_comesBeat_36 rfl rfl rfl (fun hi36 => ?_)
  refine r_iload_n C 0 dX6_comesBeat_37 rfl ?_
  exact r_reti (x := (M.2 0 (1 : Int32).toNatClampNeg)) (rv := (fun u => some (.int u.1))) (hpE := (fun u => w_X6 u.2)) (t0 := ((M.2 0 (1 : Int32).toNatClampNeg), (M.1, (va_up M.2 0 (upd (upd (upd (M.2 0) ((44 : Int32) + (M.2 0 (1 : Int32).toNatClampNeg)).toNatClampNeg a1) ((56 : Int32) + (M.2 0 (1 : Int32).toNatClampNeg)).toNatClampNeg a2) (1 : Int32).toNatClampNeg (((upd (upd (M.2 0) ((44 : Int32) + (M.2 0 (1 : Int32).toNatClampNeg)).toNatClampNeg a1) ((56 : Int32) + (M.2 0 (1 : Int32).toNatClampNeg)).toNatClampNeg a2) (1 : Int32).toNatClampNeg) + (1 : Int32))))))) C dX6_comesBeat_38 (by rfl) (by rfl) (by rfl)
set_option maxRecDepth 100000 in
set_option maxHeartbeats 4000000 in
theorem o_X6_maySpeak (l : Launch) (M : q_St) (a1 : Int32) : q_Ok l yX6_maySpeak cX6_maySpeak 2 (some .boolean) 2 43 [.ref 50, .int a1] (w_X6 M) (f_X6_maySpeak M a1) (fun u => some (.int u)) (fun u => w_X6 M) := by
  refine q_enter (by decide +kernel) (Nat.le_of_ble_eq_true rfl) (fun t p e s m args below meth c dC dI dA A α C => ?_)
  refine r_cut (f_X6_maySpeak.eq_1 _ _) ?_
  show q_S p l e (q_rm 2 43) s m args below meth c 2 dC dI dA A α (MQ below (q_Q α dC dI dA A ((fun u => some (.int u)) t) ((fun u => w_X6 M) t)) args s 0 0 A) 0 0 _ t 0 [(0, .ref 50), (1, .int a1)] [] (w_X6 M)
  refine r_iload_n C 1 dX6_maySpeak_0 rfl ?_
  refine r_iconst C (-1) dX6_maySpeak_1 rfl ?_
  refine r_icmp_eq C 13 dX6_maySpeak_2 (by decide) (fun h2 => ?_) (fun h2 => ?_)
  · refine r_iconst C (1) dX6_maySpeak_13 rfl ?_
    refine r_goto C 18 dX6_maySpeak_14 (by decide) ?_
    exact r_retz (x := (1 : Int32)) (rv := (fun u => some (.int u))) (hpE := (fun u => w_X6 M)) (t0 := (1 : Int32)) C dX6_maySpeak_18 (by rfl) (by rfl) (by rfl) (by rfl)
  · refine r_aload_n C 0 dX6_maySpeak_5 rfl ?_
    refine r_iload_n C 1 dX6_maySpeak_6 rfl ?_
    refine r_callV0 C (o_X6_isDoll l M a1) v_X6_isDoll m_1019 [.int a1] [] (50) (Or.inl ⟨0, 5, _, TX6, 25, rfl, rfl, rfl⟩) (fun u1 => [.int u1]) (fun u1 => [.inr (5, [.ref 51, .ref 52, .ref 53, .int (M.1 3), .ref 54, .ref 55, .ref 56, .int (M.1 7), .ref 57, .ref 58, .int (M.1 10), .int (M.1 11), .int (M.1 12), .int (M.1 13), .int (M.1 14), .int (M.1 15), .ref 59, .ref 60, .int (M.1 18), .int (M.1 19), .int (M.1 20), .ref 61, .ref 62, .ref 63, .ref 64]), .inl (0, 68, .inl (M.2 0)), .inl (0, 68, .inl (M.2 1)), .inl (0, 68, .inl (M.2 2)), .inl (0, 8, .inl (M.2 4)), .inl (0, 1053, .inl (M.2 5)), .inl (1, 972, .inl (M.2 6)), .inl (0, 1053, .inl (M.2 8)), .inl (0, 120, .inl (M.2 9)), .inl (3, 7, .inr (.inr (.inr (.inr q_kf)))), .inl (0, 360, .inl (M.2 17)), .inl (0, 4, .inl (M.2 21)), .inl (0, 4, .inl (M.2 22)), .inl (0, 160, .inl (M.2 23)), .inl (0, 40, .inl (M.2 24))]) rfl rfl rfl (Nat.le_of_ble_eq_true rfl) ⟨(Nat.le_of_ble_eq_true rfl), (Nat.le_of_ble_eq_true rfl)⟩ ⟨Nat.zero_le _, Nat.zero_le _⟩ dX6_maySpeak_7 (fun _ => rfl) (fun _ => rfl) (fun _ => rfl) (fun u1 => ?_)
    refine r_if_eq C 17 dX6_maySpeak_10 (by decide) (fun h10 => ?_) (fun h10 => ?_)
    · refine r_iconst C (0) dX6_maySpeak_17 rfl ?_
      exact r_retz (x := (0 : Int32)) (rv := (fun u => some (.int u))) (hpE := (fun u => w_X6 M)) (t0 := (0 : Int32)) C dX6_maySpeak_18 (by rfl) (by rfl) (by rfl) (by rfl)
    · refine r_iconst C (1) dX6_maySpeak_13 rfl ?_
      refine r_goto C 18 dX6_maySpeak_14 (by decide) ?_
      exact r_retz (x := (1 : Int32)) (rv := (fun u => some (.int u))) (hpE := (fun u => w_X6 M)) (t0 := (1 : Int32)) C dX6_maySpeak_18 (by rfl) (by rfl) (by rfl) (by rfl)
set_option maxRecDepth 100000 in
set_option maxHeartbeats 4000000 in
theorem o_X6_beat (l : Launch) (M : q_St) (a1 : Int32) (a2 : Int32) : q_Ok l yX6_beat cX6_beat 3 (some .int) 3 64 [.ref 50, .int a1, .int a2] (w_X6 M) (f_X6_beat M a1 a2) (fun u => some (.int u.1)) (fun u => w_X6 u.2) := by
  refine q_enter (by decide +kernel) (Nat.le_of_ble_eq_true rfl) (fun t p e s m args below meth c dC dI dA A α C => ?_)
  refine r_cut (f_X6_beat.eq_1 _ _ _) ?_
  show q_S p l e (q_rm 3 64) s m args below meth c 3 dC dI dA A α (MQ below (q_Q α dC dI dA A ((fun u => some (.int u.1)) t) ((fun u => w_X6 u.2) t)) args s 0 0 A) 0 0 _ t 0 [(0, .ref 50), (1, .int a1), (2, .int a2)] [] (w_X6 M)
  refine r_aload_n C 0 dX6_beat_0 rfl ?_
  refine r_iload_n C 1 dX6_beat_1 rfl ?_
  refine r_callV0 C (o_X6_isCast l M a1) v_X6_isCast m_1070 [.int a1] [] (50) (Or.inl ⟨0, 5, _, TX6, 25, rfl, rfl, rfl⟩) (fun u1 => [.int u1]) (fun u1 => [.inr (5, [.ref 51, .ref 52, .ref 53, .int (M.1 3), .ref 54, .ref 55, .ref 56, .int (M.1 7), .ref 57, .ref 58, .int (M.1 10), .int (M.1 11), .int (M.1 12), .int (M.1 13), .int (M.1 14), .int (M.1 15), .ref 59, .ref 60, .int (M.1 18), .int (M.1 19), .int (M.1 20), .ref 61, .ref 62, .ref 63, .ref 64]), .inl (0, 68, .inl (M.2 0)), .inl (0, 68, .inl (M.2 1)), .inl (0, 68, .inl (M.2 2)), .inl (0, 8, .inl (M.2 4)), .inl (0, 1053, .inl (M.2 5)), .inl (1, 972, .inl (M.2 6)), .inl (0, 1053, .inl (M.2 8)), .inl (0, 120, .inl (M.2 9)), .inl (3, 7, .inr (.inr (.inr (.inr q_kf)))), .inl (0, 360, .inl (M.2 17)), .inl (0, 4, .inl (M.2 21)), .inl (0, 4, .inl (M.2 22)), .inl (0, 160, .inl (M.2 23)), .inl (0, 40, .inl (M.2 24))]) rfl rfl rfl (Nat.le_of_ble_eq_true rfl) ⟨(Nat.le_of_ble_eq_true rfl), (Nat.le_of_ble_eq_true rfl)⟩ ⟨Nat.zero_le _, Nat.zero_le _⟩ dX6_beat_2 (fun _ => rfl) (fun _ => rfl) (fun _ => rfl) (fun u1 => ?_)
  refine r_if_eq C 16 dX6_beat_5 (by decide) (fun h5 => ?_) (fun h5 => ?_)
  · refine r_aload_n C 0 dX6_beat_16 rfl ?_
    refine r_ldc C (-1000001) dX6_beat_17 m_1002 ?_
    refine r_callV0 C (o_X6_finding l M (-1000001 : Int32)) v_X6_finding m_1003 [.int (-1000001 : Int32)] [] (50) (Or.inl ⟨0, 5, _, TX6, 25, rfl, rfl, rfl⟩) (fun u2 => [.int u2.1]) (fun u2 => [.inr (5, [.ref 51, .ref 52, .ref 53, .int (u2.2.1 3), .ref 54, .ref 55, .ref 56, .int (u2.2.1 7), .ref 57, .ref 58, .int (u2.2.1 10), .int (u2.2.1 11), .int (u2.2.1 12), .int (u2.2.1 13), .int (u2.2.1 14), .int (u2.2.1 15), .ref 59, .ref 60, .int (u2.2.1 18), .int (u2.2.1 19), .int (u2.2.1 20), .ref 61, .ref 62, .ref 63, .ref 64]), .inl (0, 68, .inl (u2.2.2 0)), .inl (0, 68, .inl (u2.2.2 1)), .inl (0, 68, .inl (u2.2.2 2)), .inl (0, 8, .inl (u2.2.2 4)), .inl (0, 1053, .inl (u2.2.2 5)), .inl (1, 972, .inl (u2.2.2 6)), .inl (0, 1053, .inl (u2.2.2 8)), .inl (0, 120, .inl (u2.2.2 9)), .inl (3, 7, .inr (.inr (.inr (.inr q_kf)))), .inl (0, 360, .inl (u2.2.2 17)), .inl (0, 4, .inl (u2.2.2 21)), .inl (0, 4, .inl (u2.2.2 22)), .inl (0, 160, .inl (u2.2.2 23)), .inl (0, 40, .inl (u2.2.2 24))]) rfl rfl rfl (Nat.le_of_ble_eq_true rfl) ⟨(Nat.le_of_ble_eq_true rfl), (Nat.le_of_ble_eq_true rfl)⟩ ⟨Nat.zero_le _, Nat.zero_le _⟩ dX6_beat_19 (fun _ => rfl) (fun _ => rfl) (fun _ => rfl) (fun u2 => ?_)
    exact r_reti (x := u2.1) (rv := (fun u => some (.int u.1))) (hpE := (fun u => w_X6 u.2)) (t0 := (u2.1, u2.2)) C dX6_beat_22 (by rfl) (by rfl) (by rfl)
  · refine r_aload_n C 0 dX6_beat_8 rfl ?_
    refine r_iload_n C 2 dX6_beat_9 rfl ?_
    refine r_callV0 C (o_X6_maySpeak l M a2) v_X6_maySpeak m_1074 [.int a2] [] (50) (Or.inl ⟨0, 5, _, TX6, 25, rfl, rfl, rfl⟩) (fun u3 => [.int u3]) (fun u3 => [.inr (5, [.ref 51, .ref 52, .ref 53, .int (M.1 3), .ref 54, .ref 55, .ref 56, .int (M.1 7), .ref 57, .ref 58, .int (M.1 10), .int (M.1 11), .int (M.1 12), .int (M.1 13), .int (M.1 14), .int (M.1 15), .ref 59, .ref 60, .int (M.1 18), .int (M.1 19), .int (M.1 20), .ref 61, .ref 62, .ref 63, .ref 64]), .inl (0, 68, .inl (M.2 0)), .inl (0, 68, .inl (M.2 1)), .inl (0, 68, .inl (M.2 2)), .inl (0, 8, .inl (M.2 4)), .inl (0, 1053, .inl (M.2 5)), .inl (1, 972, .inl (M.2 6)), .inl (0, 1053, .inl (M.2 8)), .inl (0, 120, .inl (M.2 9)), .inl (3, 7, .inr (.inr (.inr (.inr q_kf)))), .inl (0, 360, .inl (M.2 17)), .inl (0, 4, .inl (M.2 21)), .inl (0, 4, .inl (M.2 22)), .inl (0, 160, .inl (M.2 23)), .inl (0, 40, .inl (M.2 24))]) rfl rfl rfl (Nat.le_of_ble_eq_true rfl) ⟨(Nat.le_of_ble_eq_true rfl), (Nat.le_of_ble_eq_true rfl)⟩ ⟨Nat.zero_le _, Nat.zero_le _⟩ dX6_beat_10 (fun _ => rfl) (fun _ => rfl) (fun _ => rfl) (fun u3 => ?_)
    refine r_if_ne C 23 dX6_beat_13 (by decide) (fun h13 => ?_) (fun h13 => ?_)
    · refine r_aload_n C 0 dX6_beat_16 rfl ?_
      refine r_ldc C (-1000001) dX6_beat_17 m_1002 ?_
      refine r_callV0 C (o_X6_finding l M (-1000001 : Int32)) v_X6_finding m_1003 [.int (-1000001 : Int32)] [] (50) (Or.inl ⟨0, 5, _, TX6, 25, rfl, rfl, rfl⟩) (fun u6 => [.int u6.1]) (fun u6 => [.inr (5, [.ref 51, .ref 52, .ref 53, .int (u6.2.1 3), .ref 54, .ref 55, .ref 56, .int (u6.2.1 7), .ref 57, .ref 58, .int (u6.2.1 10), .int (u6.2.1 11), .int (u6.2.1 12), .int (u6.2.1 13), .int (u6.2.1 14), .int (u6.2.1 15), .ref 59, .ref 60, .int (u6.2.1 18), .int (u6.2.1 19), .int (u6.2.1 20), .ref 61, .ref 62, .ref 63, .ref 64]), .inl (0, 68, .inl (u6.2.2 0)), .inl (0, 68, .inl (u6.2.2 1)), .inl (0, 68, .inl (u6.2.2 2)), .inl (0, 8, .inl (u6.2.2 4)), .inl (0, 1053, .inl (u6.2.2 5)), .inl (1, 972, .inl (u6.2.2 6)), .inl (0, 1053, .inl (u6.2.2 8)), .inl (0, 120, .inl (u6.2.2 9)), .inl (3, 7, .inr (.inr (.inr (.inr q_kf)))), .inl (0, 360, .inl (u6.2.2 17)), .inl (0, 4, .inl (u6.2.2 21)), .inl (0, 4, .inl (u6.2.2 22)), .inl (0, 160, .inl (u6.2.2 23)), .inl (0, 40, .inl (u6.2.2 24))]) rfl rfl rfl (Nat.le_of_ble_eq_true rfl) ⟨(Nat.le_of_ble_eq_true rfl), (Nat.le_of_ble_eq_true rfl)⟩ ⟨Nat.zero_le _, Nat.zero_le _⟩ dX6_beat_19 (fun _ => rfl) (fun _ => rfl) (fun _ => rfl) (fun u6 => ?_)
      exact r_reti (x := u6.1) (rv := (fun u => some (.int u.1))) (hpE := (fun u => w_X6 u.2)) (t0 := (u6.1, u6.2)) C dX6_beat_22 (by rfl) (by rfl) (by rfl)
    · refine r_aload_n C 0 dX6_beat_23 rfl ?_
      refine r_get C 0 0 dX6_beat_24 K_X6 rfl rfl (Nat.le_of_ble_eq_true rfl) rfl m_915 rfl ?_
      refine r_iconst C (1) dX6_beat_27 rfl ?_
      refine r_iald C 1 dX6_beat_28 rfl rfl (fun hi28 => ?_)
      refine r_bipush C (12) dX6_beat_29 rfl ?_
      refine r_icmp_ne C 43 dX6_beat_31 (by decide) (fun h31 => ?_) (fun h31 => ?_)
      · refine r_aload_n C 0 dX6_beat_34 rfl ?_
        refine r_ldc C (-1000002) dX6_beat_35 m_1007 ?_
        refine r_callV0 C (o_X6_finding l M (-1000002 : Int32)) v_X6_finding m_1003 [.int (-1000002 : Int32)] [] (50) (Or.inl ⟨0, 5, _, TX6, 25, rfl, rfl, rfl⟩) (fun u5 => [.int u5.1]) (fun u5 => [.inr (5, [.ref 51, .ref 52, .ref 53, .int (u5.2.1 3), .ref 54, .ref 55, .ref 56, .int (u5.2.1 7), .ref 57, .ref 58, .int (u5.2.1 10), .int (u5.2.1 11), .int (u5.2.1 12), .int (u5.2.1 13), .int (u5.2.1 14), .int (u5.2.1 15), .ref 59, .ref 60, .int (u5.2.1 18), .int (u5.2.1 19), .int (u5.2.1 20), .ref 61, .ref 62, .ref 63, .ref 64]), .inl (0, 68, .inl (u5.2.2 0)), .inl (0, 68, .inl (u5.2.2 1)), .inl (0, 68, .inl (u5.2.2 2)), .inl (0, 8, .inl (u5.2.2 4)), .inl (0, 1053, .inl (u5.2.2 5)), .inl (1, 972, .inl (u5.2.2 6)), .inl (0, 1053, .inl (u5.2.2 8)), .inl (0, 120, .inl (u5.2.2 9)), .inl (3, 7, .inr (.inr (.inr (.inr q_kf)))), .inl (0, 360, .inl (u5.2.2 17)), .inl (0, 4, .inl (u5.2.2 21)), .inl (0, 4, .inl (u5.2.2 22)), .inl (0, 160, .inl (u5.2.2 23)), .inl (0, 40, .inl (u5.2.2 24))]) rfl rfl rfl (Nat.le_of_ble_eq_true rfl) ⟨(Nat.le_of_ble_eq_true rfl), (Nat.le_of_ble_eq_true rfl)⟩ ⟨Nat.zero_le _, Nat.zero_le _⟩ dX6_beat_37 (fun _ => rfl) (fun _ => rfl) (fun _ => rfl) (fun u5 => ?_)
        refine r_goto C 49 dX6_beat_40 (by decide) ?_
        exact r_reti (x := u5.1) (rv := (fun u => some (.int u.1))) (hpE := (fun u => w_X6 u.2)) (t0 := (u5.1, u5.2)) C dX6_beat_49 (by rfl) (by rfl) (by rfl)
      · refine r_aload_n C 0 dX6_beat_43 rfl ?_
        refine r_iload_n C 1 dX6_beat_44 rfl ?_
        refine r_iload_n C 2 dX6_beat_45 rfl ?_
        refine r_callV0 C (o_X6_comesBeat l M a1 a2) v_X6_comesBeat m_1078 [.int a1, .int a2] [] (50) (Or.inl ⟨0, 5, _, TX6, 25, rfl, rfl, rfl⟩) (fun u4 => [.int u4.1]) (fun u4 => [.inr (5, [.ref 51, .ref 52, .ref 53, .int (u4.2.1 3), .ref 54, .ref 55, .ref 56, .int (u4.2.1 7), .ref 57, .ref 58, .int (u4.2.1 10), .int (u4.2.1 11), .int (u4.2.1 12), .int (u4.2.1 13), .int (u4.2.1 14), .int (u4.2.1 15), .ref 59, .ref 60, .int (u4.2.1 18), .int (u4.2.1 19), .int (u4.2.1 20), .ref 61, .ref 62, .ref 63, .ref 64]), .inl (0, 68, .inl (u4.2.2 0)), .inl (0, 68, .inl (u4.2.2 1)), .inl (0, 68, .inl (u4.2.2 2)), .inl (0, 8, .inl (u4.2.2 4)), .inl (0, 1053, .inl (u4.2.2 5)), .inl (1, 972, .inl (u4.2.2 6)), .inl (0, 1053, .inl (u4.2.2 8)), .inl (0, 120, .inl (u4.2.2 9)), .inl (3, 7, .inr (.inr (.inr (.inr q_kf)))), .inl (0, 360, .inl (u4.2.2 17)), .inl (0, 4, .inl (u4.2.2 21)), .inl (0, 4, .inl (u4.2.2 22)), .inl (0, 160, .inl (u4.2.2 23)), .inl (0, 40, .inl (u4.2.2 24))]) rfl rfl rfl (Nat.le_of_ble_eq_true rfl) ⟨(Nat.le_of_ble_eq_true rfl), (Nat.le_of_ble_eq_true rfl)⟩ ⟨Nat.zero_le _, Nat.zero_le _⟩ dX6_beat_46 (fun _ => rfl) (fun _ => rfl) (fun _ => rfl) (fun u4 => ?_)
        exact r_reti (x := u4.1) (rv := (fun u => some (.int u.1))) (hpE := (fun u => w_X6 u.2)) (t0 := (u4.1, u4.2)) C dX6_beat_49 (by rfl) (by rfl) (by rfl)
