set_option maxRecDepth 100000 in
set_option maxHeartbeats 4000000 in
theorem k_X4_fillRow_2 {p : Program} {l : Launch} {e : Env} {s : State} {m : MethodId} {args : Array Value} {below : List Frame} {meth : Method} {c : Code} {dC : Nat → ClassId} {dI : Nat → Nat → Nat} {dA : Nat → ClassId} {A : Nat → Prop} {α : Nat → Nat} {t : q_St} (C : q_Cx p s m args meth c cX4_fillRow 4 RX4 none "fillRow" dC dI dA A α) (Y : q_St) (a1 : Int32) (a2 : Int32)  : ∀ (n : Nat) (x1 : Int32) (x2 : Int32) (x3 : Int32) (Y' : q_St), q_S p l e (q_rm 1 22) s m args below meth c 4 dC dI dA A α (MQ below (q_Q α dC dI dA A ((fun _ => none) t) ((fun u => w_X4 u) t)) args s 0 0 A) 0 0 (f_X4_fillRow_2 Y a1 a2  n x1 x2 x3 Y') t 2 [(0, .ref 50), (1, .int x1), (2, .int x2), (3, .int x3)] [] (w_X4 Y') := by
  intro n
  induction n with
  | zero =>
    intro x1 x2 x3 Y'
    exact r_cut (f_X4_fillRow_2.eq_1 _ _ _ _ _ _ _) (r_none True.intro)
  | succ n ih =>
    intro x1 x2 x3 Y'
    refine r_cut (f_X4_fillRow_2.eq_2 _ _ _ _ _ _ _ _) ?_
    refine r_iload_n C 3 dX4_fillRow_2 rfl ?_
    refine r_bipush C (81) dX4_fillRow_3 rfl ?_
    refine r_icmp_ge C 28 dX4_fillRow_5 (by decide) (fun h5 => ?_) (fun h5 => ?_)
    · exact r_retv (rv := (fun _ => none)) (hpE := (fun u => w_X4 u)) (t0 := Y') C dX4_fillRow_28 (by rfl) (by rfl) (by rfl)
    · refine r_aload_n C 0 dX4_fillRow_8 rfl ?_
      refine r_get C 0 0 dX4_fillRow_9 K_X4 rfl rfl (Nat.le_of_ble_eq_true rfl) rfl m_102 rfl ?_
      refine r_iload_n C 1 dX4_fillRow_12 rfl ?_
      refine r_bipush C (81) dX4_fillRow_13 rfl ?_
      refine r_imul C dX4_fillRow_15 ?_
      refine r_iload_n C 3 dX4_fillRow_16 rfl ?_
      refine r_iadd C dX4_fillRow_17 ?_
      refine r_iload_n C 2 dX4_fillRow_18 rfl ?_
      refine r_gix (fun hi19 => ?_)
      refine r_cut (q_knw (u0 := (upd (Y'.2 0) ((x1 * (81 : Int32)) + x3).toNatClampNeg x2)) (q_kix hi19)) ?_
      refine r_callS C (o_X4_put l 1053 (by decide) (Y'.2 0) ((x1 * (81 : Int32)) + x3) x2) v_X4_put m_445 [1] [.ref 51, .int ((x1 * (81 : Int32)) + x3), .int x2] [] (fun u1 => []) (fun u1 => w_X4 (Y'.1, (va_up Y'.2 0 u1))) rfl rfl rfl rfl rfl (Nat.le_of_ble_eq_true rfl) ⟨(Nat.le_of_ble_eq_true rfl), (Nat.le_of_ble_eq_true rfl)⟩ ⟨Nat.zero_le _, Nat.zero_le _⟩ dX4_fillRow_19 (fun _ => rfl) (fun _ => rfl) (fun _ => rfl) (fun u1 => ?_)
      refine r_kn (fun hu19 => ?_)
      subst hu19
      refine r_iinc C 3 (x3 + 1) [(3, .int (x3 + 1)), (0, .ref 50), (1, .int x1), (2, .int x2)] dX4_fillRow_22 rfl rfl (Nat.le_of_ble_eq_true rfl) rfl ?_
      refine r_goto C 2 dX4_fillRow_25 (by decide) ?_
      refine r_lv [(0, .ref 50), (1, .int x1), (2, .int x2), (3, .int (x3 + 1))] [1, 2, 3, 0] rfl ?_
      exact ih x1 x2 (x3 + 1) (Y'.1, (va_up Y'.2 0 (upd (Y'.2 0) ((x1 * (81 : Int32)) + x3).toNatClampNeg x2)))
set_option maxRecDepth 100000 in
set_option maxHeartbeats 4000000 in
theorem o_X4_fillRow (l : Launch) (Y : q_St) (a1 : Int32) (a2 : Int32) : q_Ok l yX4_fillRow cX4_fillRow 4 none 1 22 [.ref 50, .int a1, .int a2] (w_X4 Y) (f_X4_fillRow Y a1 a2) (fun _ => none) (fun u => w_X4 u) := by
  refine q_enter (by decide +kernel) (Nat.le_of_ble_eq_true rfl) (fun t p e s m args below meth c dC dI dA A α C => ?_)
  refine r_cut (f_X4_fillRow.eq_1 _ _ _) ?_
  show q_S p l e (q_rm 1 22) s m args below meth c 4 dC dI dA A α (MQ below (q_Q α dC dI dA A ((fun _ => none) t) ((fun u => w_X4 u) t)) args s 0 0 A) 0 0 _ t 0 [(0, .ref 50), (1, .int a1), (2, .int a2)] [] (w_X4 Y)
  refine r_iconst C (0) dX4_fillRow_0 rfl ?_
  refine r_istore_n C [(3, .int (0 : Int32)), (0, .ref 50), (1, .int a1), (2, .int a2)] dX4_fillRow_1 (Nat.le_of_ble_eq_true rfl) rfl ?_
  refine r_lv [(0, .ref 50), (1, .int a1), (2, .int a2), (3, .int (0 : Int32))] [1, 2, 3, 0] rfl ?_
  exact k_X4_fillRow_2 C Y a1 a2   q_N a1 a2 (0 : Int32) Y
set_option maxRecDepth 100000 in
set_option maxHeartbeats 4000000 in
theorem k_X4_begin_2 {p : Program} {l : Launch} {e : Env} {s : State} {m : MethodId} {args : Array Value} {below : List Frame} {meth : Method} {c : Code} {dC : Nat → ClassId} {dI : Nat → Nat → Nat} {dA : Nat → ClassId} {A : Nat → Prop} {α : Nat → Nat} {t : q_St} (C : q_Cx p s m args meth c cX4_begin 4 RX4 none "begin" dC dI dA A α) (Y : q_St) (B : q_St) (a2 : Int32)  : ∀ (n : Nat) (x2 : Int32) (x3 : Int32) (Y' : q_St), q_S p l e (q_rm 3 64) s m args below meth c 4 dC dI dA A α (MQ below (q_Q α dC dI dA A ((fun _ => none) t) ((fun u => w_X4X0 u B) t)) args s 0 0 A) 0 0 (f_X4_begin_2 Y B a2  n x2 x3 Y') t 2 [(0, .ref 50), (1, .ref 57), (2, .int x2), (3, .int x3)] [] (w_X4X0 Y' B) := by
  intro n
  induction n with
  | zero =>
    intro x2 x3 Y'
    exact r_cut (f_X4_begin_2.eq_1 _ _ _ _ _ _) (r_none True.intro)
  | succ n ih =>
    intro x2 x3 Y'
    refine r_cut (f_X4_begin_2.eq_2 _ _ _ _ _ _ _) ?_
    refine r_iload_n C 3 dX4_begin_2 rfl ?_
    refine r_aload_n C 1 dX4_begin_3 rfl ?_
    refine r_get C 7 0 dX4_begin_4 K_X0 rfl rfl (Nat.le_of_ble_eq_true rfl) rfl m_32 rfl ?_
    refine r_icmp_ge C 32 dX4_begin_7 (by decide) (fun h7 => ?_) (fun h7 => ?_)
    · refine r_aload_n C 0 dX4_begin_32 rfl ?_
      refine r_aload_n C 1 dX4_begin_33 rfl ?_
      refine r_get C 7 1 dX4_begin_34 K_X0 rfl rfl (Nat.le_of_ble_eq_true rfl) rfl m_33 rfl ?_
      refine r_iconst C (0) dX4_begin_37 rfl ?_
      refine r_callV C (o_X4_fillRow l Y' (B.1 1) (0 : Int32)) v_X4_fillRow m_448 [0, 1, 2, 3, 4, 5, 6] [.int (B.1 1), .int (0 : Int32)] [] (50) (Or.inl ⟨0, 3, _, TX4, 6, rfl, rfl, rfl⟩) (fun u1 => []) (fun u1 => w_X4X0 u1 B) rfl rfl rfl rfl rfl (Nat.le_of_ble_eq_true rfl) ⟨(Nat.le_of_ble_eq_true rfl), (Nat.le_of_ble_eq_true rfl)⟩ ⟨Nat.zero_le _, Nat.zero_le _⟩ dX4_begin_38 (fun _ => rfl) (fun _ => rfl) (fun _ => rfl) (fun u1 => ?_)
      exact r_retv (rv := (fun _ => none)) (hpE := (fun u => w_X4X0 u B)) (t0 := u1) C dX4_begin_41 (by rfl) (by rfl) (by rfl)
    · refine r_aload_n C 0 dX4_begin_10 rfl ?_
      refine r_get C 0 3 dX4_begin_11 K_X4 rfl rfl (Nat.le_of_ble_eq_true rfl) rfl m_105 rfl ?_
      refine r_iload_n C 3 dX4_begin_14 rfl ?_
      refine r_iconst C (1) dX4_begin_15 rfl ?_
      refine r_iadd C dX4_begin_16 ?_
      refine r_aload_n C 1 dX4_begin_17 rfl ?_
      refine r_iload_n C 3 dX4_begin_18 rfl ?_
      refine r_iload_n C 2 dX4_begin_19 rfl ?_
      refine r_callV C (o_X0_price l B x3 x2) v_X0_price m_444 [7, 8, 9, 10, 11, 12, 13] [.int x3, .int x2] [.int (x3 + (1 : Int32)), .ref 54] (57) (Or.inl ⟨7, 0, _, TX0, 16, rfl, rfl, rfl⟩) (fun u2 => [.int u2, .int (x3 + (1 : Int32)), .ref 54]) (fun u2 => w_X4X0 Y' B) rfl rfl rfl rfl rfl (Nat.le_of_ble_eq_true rfl) ⟨(Nat.le_of_ble_eq_true rfl), (Nat.le_of_ble_eq_true rfl)⟩ ⟨Nat.zero_le _, Nat.zero_le _⟩ dX4_begin_20 (fun _ => rfl) (fun _ => rfl) (fun _ => rfl) (fun u2 => ?_)
      refine r_gix (fun hi23 => ?_)
      refine r_cut (q_knw (u0 := (upd (Y'.2 3) (x3 + (1 : Int32)).toNatClampNeg u2)) (q_kix hi23)) ?_
      refine r_callS C (o_X4_put l 9 (by decide) (Y'.2 3) (x3 + (1 : Int32)) u2) v_X4_put m_445 [4] [.ref 54, .int (x3 + (1 : Int32)), .int u2] [] (fun u3 => []) (fun u3 => w_X4X0 (Y'.1, (va_up Y'.2 3 u3)) B) rfl rfl rfl rfl rfl (Nat.le_of_ble_eq_true rfl) ⟨(Nat.le_of_ble_eq_true rfl), (Nat.le_of_ble_eq_true rfl)⟩ ⟨Nat.zero_le _, Nat.zero_le _⟩ dX4_begin_23 (fun _ => rfl) (fun _ => rfl) (fun _ => rfl) (fun u3 => ?_)
      refine r_kn (fun hu23 => ?_)
      subst hu23
      refine r_iinc C 3 (x3 + 1) [(3, .int (x3 + 1)), (0, .ref 50), (1, .ref 57), (2, .int x2)] dX4_begin_26 rfl rfl (Nat.le_of_ble_eq_true rfl) rfl ?_
      refine r_goto C 2 dX4_begin_29 (by decide) ?_
      refine r_lv [(0, .ref 50), (1, .ref 57), (2, .int x2), (3, .int (x3 + 1))] [1, 2, 3, 0] rfl ?_
      exact ih x2 (x3 + 1) (Y'.1, (va_up Y'.2 3 (upd (Y'.2 3) (x3 + (1 : Int32)).toNatClampNeg u2)))
set_option maxRecDepth 100000 in
set_option maxHeartbeats 4000000 in
theorem o_X4_begin (l : Launch) (Y : q_St) (B : q_St) (a2 : Int32) : q_Ok l yX4_begin cX4_begin 4 none 3 64 [.ref 50, .ref 57, .int a2] (w_X4X0 Y B) (f_X4_begin Y B a2) (fun _ => none) (fun u => w_X4X0 u B) := by
  refine q_enter (by decide +kernel) (Nat.le_of_ble_eq_true rfl) (fun t p e s m args below meth c dC dI dA A α C => ?_)
  refine r_cut (f_X4_begin.eq_1 _ _ _) ?_
  show q_S p l e (q_rm 3 64) s m args below meth c 4 dC dI dA A α (MQ below (q_Q α dC dI dA A ((fun _ => none) t) ((fun u => w_X4X0 u B) t)) args s 0 0 A) 0 0 _ t 0 [(0, .ref 50), (1, .ref 57), (2, .int a2)] [] (w_X4X0 Y B)
  refine r_iconst C (-1) dX4_begin_0 rfl ?_
  refine r_istore_n C [(3, .int (-1 : Int32)), (0, .ref 50), (1, .ref 57), (2, .int a2)] dX4_begin_1 (Nat.le_of_ble_eq_true rfl) rfl ?_
  refine r_lv [(0, .ref 50), (1, .ref 57), (2, .int a2), (3, .int (-1 : Int32))] [1, 2, 3, 0] rfl ?_
  exact k_X4_begin_2 C Y B a2   q_N a2 (-1 : Int32) Y
set_option maxRecDepth 100000 in
set_option maxHeartbeats 4000000 in
theorem o_X4_place (l : Launch) (a1 : Int32) (a2 : Int32) : q_Ok l yX4_place cX4_place 2 (some .int) 0 0 [.int a1, .int a2] ([]) (f_X4_place a1 a2) (fun u => some (.int u)) (fun _ => []) := by
  refine q_enter (by decide +kernel) (Nat.le_of_ble_eq_true rfl) (fun t p e s m args below meth c dC dI dA A α C => ?_)
  refine r_cut (f_X4_place.eq_1 _ _) ?_
  show q_S p l e (q_rm 0 0) s m args below meth c 2 dC dI dA A α (MQ below (q_Q α dC dI dA A ((fun u => some (.int u)) t) ((fun _ => []) t)) args s 0 0 A) 0 0 _ t 0 [(0, .int a1), (1, .int a2)] [] ([])
  refine r_iload_n C 0 dX4_place_0 rfl ?_
  refine r_iconst C (1) dX4_place_1 rfl ?_
  refine r_iadd C dX4_place_2 ?_
  refine r_bipush C (9) dX4_place_3 rfl ?_
  refine r_imul C dX4_place_5 ?_
  refine r_iload_n C 1 dX4_place_6 rfl ?_
  refine r_iadd C dX4_place_7 ?_
  refine r_iconst C (1) dX4_place_8 rfl ?_
  refine r_iadd C dX4_place_9 ?_
  exact r_reti (x := ((((a1 + (1 : Int32)) * (9 : Int32)) + a2) + (1 : Int32))) (rv := (fun u => some (.int u))) (hpE := (fun _ => [])) (t0 := ((((a1 + (1 : Int32)) * (9 : Int32)) + a2) + (1 : Int32))) C dX4_place_10 (by rfl) (by rfl) (by rfl)
set_option maxRecDepth 100000 in
set_option maxHeartbeats 4000000 in
theorem k_X4_stepBack_256 {p : Program} {l : Launch} {e : Env} {s : State} {m : MethodId} {args : Array Value} {below : List Frame} {meth : Method} {c : Code} {dC : Nat → ClassId} {dI : Nat → Nat → Nat} {dA : Nat → ClassId} {A : Nat → Prop} {α : Nat → Nat} {t : q_St} (C : q_Cx p s m args meth c cX4_stepBack 11 RX4 none "stepBack" dC dI dA A α) (Y : q_St) (B : q_St) (a2 : Int32) (r185 : Int32 → Int32 → q_St → Option (q_St))
    (hr185 : ∀ (x3 : Int32) (x5 : Int32) (Y' : q_St), q_S p l e (q_rm 3 68) s m args below meth c 11 dC dI dA A α (MQ below (q_Q α dC dI dA A ((fun _ => none) t) ((fun u => w_X4X0 u B) t)) args s 0 0 A) 0 0 (r185 x3 x5 Y') t 185 [(0, .ref 50), (1, .ref 57), (3, .int x3), (5, .int x5)] [] (w_X4X0 Y' B)) : ∀ (n : Nat) (x3 : Int32) (x5 : Int32) (x6 : Int32) (x7 : Int32) (Y' : q_St), q_S p l e (q_rm 3 68) s m args below meth c 11 dC dI dA A α (MQ below (q_Q α dC dI dA A ((fun _ => none) t) ((fun u => w_X4X0 u B) t)) args s 0 0 A) 0 0 (f_X4_stepBack_256 Y B a2 r185 n x3 x5 x6 x7 Y') t 256 [(0, .ref 50), (1, .ref 57), (3, .int x3), (5, .int x5), (6, .int x6), (7, .int x7)] [] (w_X4X0 Y' B) := by
  intro n
  induction n with
  | zero =>
    intro x3 x5 x6 x7 Y'
    exact r_cut (f_X4_stepBack_256.eq_1 _ _ _ _ _ _ _ _ _) (r_none True.intro)
  | succ n ih =>
    intro x3 x5 x6 x7 Y'
    refine r_cut (f_X4_stepBack_256.eq_2 _ _ _ _ _ _ _ _ _ _) ?_
    refine r_iload C 5 dX4_stepBack_256 rfl ?_
    refine r_aload_n C 1 dX4_stepBack_258 rfl ?_
    refine r_get C 7 0 dX4_stepBack_259 K_X0 rfl rfl (Nat.le_of_ble_eq_true rfl) rfl m_32 rfl ?_
    refine r_icmp_ge C 305 dX4_stepBack_262 (by decide) (fun h262 => ?_) (fun h262 => ?_)
    · refine r_iinc C 3 (x5 + 1) [(5, .int (x5 + 1)), (0, .ref 50), (1, .ref 57), (3, .int x3), (6, .int x6), (7, .int x7)] dX4_stepBack_305 rfl rfl (Nat.le_of_ble_eq_true rfl) rfl ?_
      refine r_goto C 185 dX4_stepBack_308 (by decide) ?_
      refine r_lv [(0, .ref 50), (1, .ref 57), (3, .int x3), (5, .int (x5 + 1))] [1, 2, 3, 0] rfl ?_
      exact hr185 x3 (x5 + 1) Y'
    · refine r_iload C 5 dX4_stepBack_265 rfl ?_
      refine r_iload C 3 dX4_stepBack_267 rfl ?_
      refine r_callS C (o_X4_place l x7 x5) v_X4_place m_458 [] [.int x7, .int x5] [] (fun u12 => [.int u12]) (fun u12 => w_X4X0 Y' B) rfl rfl rfl rfl rfl (Nat.le_of_ble_eq_true rfl) ⟨(Nat.le_of_ble_eq_true rfl), (Nat.le_of_ble_eq_true rfl)⟩ ⟨Nat.zero_le _, Nat.zero_le _⟩ dX4_stepBack_269 (fun _ => rfl) (fun _ => rfl) (fun _ => rfl) (fun u12 => ?_)
      refine r_istore C [(8, .int u12), (0, .ref 50), (1, .ref 57), (3, .int x3), (5, .int x5), (6, .int x6), (7, .int x7)] dX4_stepBack_272 (Nat.le_of_ble_eq_true rfl) rfl ?_
      refine r_aload_n C 1 dX4_stepBack_274 rfl ?_
      refine r_get C 0 0 dX4_stepBack_275 K_X4 rfl rfl (Nat.le_of_ble_eq_true rfl) rfl m_102 rfl ?_
      refine r_iload_n C 3 dX4_stepBack_278 rfl ?_
      refine r_iload C 0 dX4_stepBack_279 rfl ?_
      refine r_iadd C dX4_stepBack_281 ?_
      refine r_aload_n C 1 dX4_stepBack_282 rfl ?_
      refine r_get C 0 2 dX4_stepBack_283 K_X4 rfl rfl (Nat.le_of_ble_eq_true rfl) rfl m_104 rfl ?_
      refine r_iload C 0 dX4_stepBack_286 rfl ?_
      refine r_gix (fun hi288 => ?_)
      refine r_cut (q_knw (u0 := (Y'.2 2 u12.toNatClampNeg)) (q_kix hi288)) ?_
      refine r_callS C (o_X4_at l 81 (by decide) (Y'.2 2) u12) v_X4_at m_461 [3] [.ref 53, .int u12] [.int (x3 + u12), .ref 51] (fun u13 => [.int u13, .int (x3 + u12), .ref 51]) (fun u13 => w_X4X0 Y' B) rfl rfl rfl rfl rfl (Nat.le_of_ble_eq_true rfl) ⟨(Nat.le_of_ble_eq_true rfl), (Nat.le_of_ble_eq_true rfl)⟩ ⟨Nat.zero_le _, Nat.zero_le _⟩ dX4_stepBack_288 (fun _ => rfl) (fun _ => rfl) (fun _ => rfl) (fun u13 => ?_)
      refine r_kn (fun hu288 => ?_)
      subst hu288
      refine r_iload C 5 dX4_stepBack_291 rfl ?_
      refine r_mmin C dX4_stepBack_293 m_464 m_465 m_8 m_466 (Nat.le_of_ble_eq_true rfl) (Nat.le_of_ble_eq_true rfl) (Nat.zero_le _) (Nat.zero_le _) ?_
      refine r_gix (fun hi296 => ?_)
      refine r_cut (q_knw (u0 := (upd (Y'.2 0) (x3 + u12).toNatClampNeg (if x6 < (Y'.2 2 u12.toNatClampNeg) then x6 else (Y'.2 2 u12.toNatClampNeg)))) (q_kix hi296)) ?_
      refine r_callS C (o_X4_put l 1053 (by decide) (Y'.2 0) (x3 + u12) (if x6 < (Y'.2 2 u12.toNatClampNeg) then x6 else (Y'.2 2 u12.toNatClampNeg))) v_X4_put m_445 [1] [.ref 51, .int (x3 + u12), .int (if x6 < (Y'.2 2 u12.toNatClampNeg) then x6 else (Y'.2 2 u12.toNatClampNeg))] [] (fun u14 => []) (fun u14 => w_X4X0 (Y'.1, (va_up Y'.2 0 u14)) B) rfl rfl rfl rfl rfl (Nat.le_of_ble_eq_true rfl) ⟨(Nat.le_of_ble_eq_true rfl), (Nat.le_of_ble_eq_true rfl)⟩ ⟨Nat.zero_le _, Nat.zero_le _⟩ dX4_stepBack_296 (fun _ => rfl) (fun _ => rfl) (fun _ => rfl) (fun u14 => ?_)
      refine r_kn (fun hu296 => ?_)
      subst hu296
      refine r_iinc C 6 (x7 + 1) [(7, .int (x7 + 1)), (8, .int u12), (0, .ref 50), (1, .ref 57), (3, .int x3), (5, .int x5), (6, .int x6)] dX4_stepBack_299 rfl rfl (Nat.le_of_ble_eq_true rfl) rfl ?_
      refine r_goto C 256 dX4_stepBack_302 (by decide) ?_
      refine r_lv [(0, .ref 50), (1, .ref 57), (3, .int x3), (5, .int x5), (6, .int x6), (7, .int (x7 + 1))] [2, 3, 4, 5, 6, 0] rfl ?_
      exact ih x3 x5 x6 (x7 + 1) (Y'.1, (va_up Y'.2 0 (upd (Y'.2 0) (x3 + u12).toNatClampNeg (if x6 < (Y'.2 2 u12.toNatClampNeg) then x6 else (Y'.2 2 u12.toNatClampNeg)))))
set_option maxRecDepth 100000 in
set_option maxHeartbeats 4000000 in
theorem k_X4_stepBack_201 {p : Program} {l : Launch} {e : Env} {s : State} {m : MethodId} {args : Array Value} {below : List Frame} {meth : Method} {c : Code} {dC : Nat → ClassId} {dI : Nat → Nat → Nat} {dA : Nat → ClassId} {A : Nat → Prop} {α : Nat → Nat} {t : q_St} (C : q_Cx p s m args meth c cX4_stepBack 11 RX4 none "stepBack" dC dI dA A α) (Y : q_St) (B : q_St) (a2 : Int32) (r185 : Int32 → Int32 → q_St → Option (q_St))
    (hr185 : ∀ (x3 : Int32) (x5 : Int32) (Y' : q_St), q_S p l e (q_rm 3 68) s m args below meth c 11 dC dI dA A α (MQ below (q_Q α dC dI dA A ((fun _ => none) t) ((fun u => w_X4X0 u B) t)) args s 0 0 A) 0 0 (r185 x3 x5 Y') t 185 [(0, .ref 50), (1, .ref 57), (3, .int x3), (5, .int x5)] [] (w_X4X0 Y' B)) : ∀ (n : Nat) (x3 : Int32) (x5 : Int32) (x6 : Int32) (x7 : Int32) (Y' : q_St), q_S p l e (q_rm 3 68) s m args below meth c 11 dC dI dA A α (MQ below (q_Q α dC dI dA A ((fun _ => none) t) ((fun u => w_X4X0 u B) t)) args s 0 0 A) 0 0 (f_X4_stepBack_201 Y B a2 r185 n x3 x5 x6 x7 Y') t 201 [(0, .ref 50), (1, .ref 57), (3, .int x3), (5, .int x5), (6, .int x6), (7, .int x7)] [] (w_X4X0 Y' B) := by
  intro n
  induction n with
  | zero =>
    intro x3 x5 x6 x7 Y'
    exact r_cut (f_X4_stepBack_201.eq_1 _ _ _ _ _ _ _ _ _) (r_none True.intro)
  | succ n ih =>
    intro x3 x5 x6 x7 Y'
    refine r_cut (f_X4_stepBack_201.eq_2 _ _ _ _ _ _ _ _ _ _) ?_
    refine r_iload C 5 dX4_stepBack_201 rfl ?_
    refine r_aload_n C 1 dX4_stepBack_203 rfl ?_
    refine r_get C 7 0 dX4_stepBack_204 K_X0 rfl rfl (Nat.le_of_ble_eq_true rfl) rfl m_32 rfl ?_
    refine r_icmp_ge C 253 dX4_stepBack_207 (by decide) (fun h207 => ?_) (fun h207 => ?_)
    · refine r_iconst C (-1) dX4_stepBack_253 rfl ?_
      refine r_istore C [(7, .int (-1 : Int32)), (0, .ref 50), (1, .ref 57), (3, .int x3), (5, .int x5), (6, .int x6)] dX4_stepBack_254 (Nat.le_of_ble_eq_true rfl) rfl ?_
      refine r_lv [(0, .ref 50), (1, .ref 57), (3, .int x3), (5, .int x5), (6, .int x6), (7, .int (-1 : Int32))] [1, 2, 3, 4, 5, 0] rfl ?_
      exact k_X4_stepBack_256 C Y B a2 r185 hr185 q_N x3 x5 x6 (-1 : Int32) Y'
    · refine r_aload_n C 0 dX4_stepBack_210 rfl ?_
      refine r_get C 0 2 dX4_stepBack_211 K_X4 rfl rfl (Nat.le_of_ble_eq_true rfl) rfl m_104 rfl ?_
      refine r_iload C 5 dX4_stepBack_214 rfl ?_
      refine r_iload C 3 dX4_stepBack_216 rfl ?_
      refine r_callS C (o_X4_place l x7 x5) v_X4_place m_458 [] [.int x7, .int x5] [.ref 53] (fun u4 => [.int u4, .ref 53]) (fun u4 => w_X4X0 Y' B) rfl rfl rfl rfl rfl (Nat.le_of_ble_eq_true rfl) ⟨(Nat.le_of_ble_eq_true rfl), (Nat.le_of_ble_eq_true rfl)⟩ ⟨Nat.zero_le _, Nat.zero_le _⟩ dX4_stepBack_218 (fun _ => rfl) (fun _ => rfl) (fun _ => rfl) (fun u4 => ?_)
      refine r_gix (fun hi221 => ?_)
      refine r_cut (q_knw (u0 := (Y'.2 2 u4.toNatClampNeg)) (q_kix hi221)) ?_
      refine r_callS C (o_X4_at l 81 (by decide) (Y'.2 2) u4) v_X4_at m_461 [3] [.ref 53, .int u4] [] (fun u5 => [.int u5]) (fun u5 => w_X4X0 Y' B) rfl rfl rfl rfl rfl (Nat.le_of_ble_eq_true rfl) ⟨(Nat.le_of_ble_eq_true rfl), (Nat.le_of_ble_eq_true rfl)⟩ ⟨Nat.zero_le _, Nat.zero_le _⟩ dX4_stepBack_221 (fun _ => rfl) (fun _ => rfl) (fun _ => rfl) (fun u5 => ?_)
      refine r_kn (fun hu221 => ?_)
      subst hu221
      refine r_istore C [(8, .int (Y'.2 2 u4.toNatClampNeg)), (0, .ref 50), (1, .ref 57), (3, .int x3), (5, .int x5), (6, .int x6), (7, .int x7)] dX4_stepBack_224 (Nat.le_of_ble_eq_true rfl) rfl ?_
      refine r_iload C 5 dX4_stepBack_226 rfl ?_
      refine r_iload C 0 dX4_stepBack_228 rfl ?_
      refine r_aload_n C 1 dX4_stepBack_230 rfl ?_
      refine r_get C 0 3 dX4_stepBack_231 K_X4 rfl rfl (Nat.le_of_ble_eq_true rfl) rfl m_105 rfl ?_
      refine r_iload C 6 dX4_stepBack_234 rfl ?_
      refine r_iconst C (1) dX4_stepBack_236 rfl ?_
      refine r_iadd C dX4_stepBack_237 ?_
      refine r_gix (fun hi238 => ?_)
      refine r_cut (q_knw (u0 := (Y'.2 3 (x7 + (1 : Int32)).toNatClampNeg)) (q_kix hi238)) ?_
      refine r_callS C (o_X4_at l 9 (by decide) (Y'.2 3) (x7 + (1 : Int32))) v_X4_at m_461 [4] [.ref 54, .int (x7 + (1 : Int32))] [.int (Y'.2 2 u4.toNatClampNeg), .int x6] (fun u6 => [.int u6, .int (Y'.2 2 u4.toNatClampNeg), .int x6]) (fun u6 => w_X4X0 Y' B) rfl rfl rfl rfl rfl (Nat.le_of_ble_eq_true rfl) ⟨(Nat.le_of_ble_eq_true rfl), (Nat.le_of_ble_eq_true rfl)⟩ ⟨Nat.zero_le _, Nat.zero_le _⟩ dX4_stepBack_238 (fun _ => rfl) (fun _ => rfl) (fun _ => rfl) (fun u6 => ?_)
      refine r_kn (fun hu238 => ?_)
      subst hu238
      refine r_iadd C dX4_stepBack_241 ?_
      refine r_mmin C dX4_stepBack_242 m_464 m_465 m_8 m_466 (Nat.le_of_ble_eq_true rfl) (Nat.le_of_ble_eq_true rfl) (Nat.zero_le _) (Nat.zero_le _) ?_
      refine r_istore C [(6, .int (if ((Y'.2 2 u4.toNatClampNeg) + (Y'.2 3 (x7 + (1 : Int32)).toNatClampNeg)) < x6 then ((Y'.2 2 u4.toNatClampNeg) + (Y'.2 3 (x7 + (1 : Int32)).toNatClampNeg)) else x6)), (8, .int (Y'.2 2 u4.toNatClampNeg)), (0, .ref 50), (1, .ref 57), (3, .int x3), (5, .int x5), (7, .int x7)] dX4_stepBack_245 (Nat.le_of_ble_eq_true rfl) rfl ?_
      refine r_iinc C 6 (x7 + 1) [(7, .int (x7 + 1)), (6, .int (if ((Y'.2 2 u4.toNatClampNeg) + (Y'.2 3 (x7 + (1 : Int32)).toNatClampNeg)) < x6 then ((Y'.2 2 u4.toNatClampNeg) + (Y'.2 3 (x7 + (1 : Int32)).toNatClampNeg)) else x6)), (8, .int (Y'.2 2 u4.toNatClampNeg)), (0, .ref 50), (1, .ref 57), (3, .int x3), (5, .int x5)] dX4_stepBack_247 rfl rfl (Nat.le_of_ble_eq_true rfl) rfl ?_
      refine r_goto C 201 dX4_stepBack_250 (by decide) ?_
      refine r_lv [(0, .ref 50), (1, .ref 57), (3, .int x3), (5, .int x5), (6, .int (if ((Y'.2 2 u4.toNatClampNeg) + (Y'.2 3 (x7 + (1 : Int32)).toNatClampNeg)) < x6 then ((Y'.2 2 u4.toNatClampNeg) + (Y'.2 3 (x7 + (1 : Int32)).toNatClampNeg)) else x6)), (7, .int (x7 + 1))] [3, 4, 5, 6, 1, 0] rfl ?_
      exact ih x3 x5 (if ((Y'.2 2 u4.toNatClampNeg) + (Y'.2 3 (x7 + (1 : Int32)).toNatClampNeg)) < x6 then ((Y'.2 2 u4.toNatClampNeg) + (Y'.2 3 (x7 + (1 : Int32)).toNatClampNeg)) else x6) (x7 + 1) Y'
set_option maxRecDepth 100000 in
set_option maxHeartbeats 4000000 in
theorem k_X4_stepBack_185 {p : Program} {l : Launch} {e : Env} {s : State} {m : MethodId} {args : Array Value} {below : List Frame} {meth : Method} {c : Code} {dC : Nat → ClassId} {dI : Nat → Nat → Nat} {dA : Nat → ClassId} {A : Nat → Prop} {α : Nat → Nat} {t : q_St} (C : q_Cx p s m args meth c cX4_stepBack 11 RX4 none "stepBack" dC dI dA A α) (Y : q_St) (B : q_St) (a2 : Int32)  : ∀ (n : Nat) (x3 : Int32) (x5 : Int32) (Y' : q_St), q_S p l e (q_rm 3 68) s m args below meth c 11 dC dI dA A α (MQ below (q_Q α dC dI dA A ((fun _ => none) t) ((fun u => w_X4X0 u B) t)) args s 0 0 A) 0 0 (f_X4_stepBack_185 Y B a2  n x3 x5 Y') t 185 [(0, .ref 50), (1, .ref 57), (3, .int x3), (5, .int x5)] [] (w_X4X0 Y' B) := by
  intro n
  induction n with
  | zero =>
    intro x3 x5 Y'
    exact r_cut (f_X4_stepBack_185.eq_1 _ _ _ _ _ _) (r_none True.intro)
  | succ n ih =>
    intro x3 x5 Y'
    refine r_cut (f_X4_stepBack_185.eq_2 _ _ _ _ _ _ _) ?_
    refine r_iload C 3 dX4_stepBack_185 rfl ?_
    refine r_aload_n C 1 dX4_stepBack_187 rfl ?_
    refine r_get C 7 0 dX4_stepBack_188 K_X0 rfl rfl (Nat.le_of_ble_eq_true rfl) rfl m_32 rfl ?_
    refine r_icmp_ge C 311 dX4_stepBack_191 (by decide) (fun h191 => ?_) (fun h191 => ?_)
    · exact r_retv (rv := (fun _ => none)) (hpE := (fun u => w_X4X0 u B)) (t0 := Y') C dX4_stepBack_311 (by rfl) (by rfl) (by rfl)
    · refine r_ldc C (1000000) dX4_stepBack_194 m_457 ?_
      refine r_istore C [(6, .int (1000000 : Int32)), (0, .ref 50), (1, .ref 57), (3, .int x3), (5, .int x5)] dX4_stepBack_196 (Nat.le_of_ble_eq_true rfl) rfl ?_
      refine r_iconst C (-1) dX4_stepBack_198 rfl ?_
      refine r_istore C [(7, .int (-1 : Int32)), (6, .int (1000000 : Int32)), (0, .ref 50), (1, .ref 57), (3, .int x3), (5, .int x5)] dX4_stepBack_199 (Nat.le_of_ble_eq_true rfl) rfl ?_
      refine r_lv [(0, .ref 50), (1, .ref 57), (3, .int x3), (5, .int x5), (6, .int (1000000 : Int32)), (7, .int (-1 : Int32))] [2, 3, 4, 5, 1, 0] rfl ?_
      exact k_X4_stepBack_201 C Y B a2 (fun x3 x5 Y' => f_X4_stepBack_185 Y B a2  n x3 x5 Y') ih q_N x3 x5 (1000000 : Int32) (-1 : Int32) Y'
set_option maxRecDepth 100000 in
set_option maxHeartbeats 4000000 in
theorem k_X4_stepBack_129 {p : Program} {l : Launch} {e : Env} {s : State} {m : MethodId} {args : Array Value} {below : List Frame} {meth : Method} {c : Code} {dC : Nat → ClassId} {dI : Nat → Nat → Nat} {dA : Nat → ClassId} {A : Nat → Prop} {α : Nat → Nat} {t : q_St} (C : q_Cx p s m args meth c cX4_stepBack 11 RX4 none "stepBack" dC dI dA A α) (Y : q_St) (B : q_St) (a2 : Int32) (r14 : Int32 → Int32 → Int32 → Int32 → q_St → Option (q_St))
    (hr14 : ∀ (x2 : Int32) (x3 : Int32) (x4 : Int32) (x5 : Int32) (Y' : q_St), q_S p l e (q_rm 3 68) s m args below meth c 11 dC dI dA A α (MQ below (q_Q α dC dI dA A ((fun _ => none) t) ((fun u => w_X4X0 u B) t)) args s 0 0 A) 0 0 (r14 x2 x3 x4 x5 Y') t 14 [(0, .ref 50), (1, .ref 57), (2, .int x2), (3, .int x3), (4, .int x4), (5, .int x5)] [] (w_X4X0 Y' B)) : ∀ (n : Nat) (x2 : Int32) (x3 : Int32) (x4 : Int32) (x5 : Int32) (x7 : Int32) (x8 : Int32) (Y' : q_St), q_S p l e (q_rm 3 68) s m args below meth c 11 dC dI dA A α (MQ below (q_Q α dC dI dA A ((fun _ => none) t) ((fun u => w_X4X0 u B) t)) args s 0 0 A) 0 0 (f_X4_stepBack_129 Y B a2 r14 n x2 x3 x4 x5 x7 x8 Y') t 129 [(0, .ref 50), (1, .ref 57), (2, .int x2), (3, .int x3), (4, .int x4), (5, .int x5), (7, .int x7), (8, .int x8)] [] (w_X4X0 Y' B) := by
  intro n
  induction n with
  | zero =>
    intro x2 x3 x4 x5 x7 x8 Y'
    exact r_cut (f_X4_stepBack_129.eq_1 _ _ _ _ _ _ _ _ _ _ _) (r_none True.intro)
  | succ n ih =>
    intro x2 x3 x4 x5 x7 x8 Y'
    refine r_cut (f_X4_stepBack_129.eq_2 _ _ _ _ _ _ _ _ _ _ _ _) ?_
    refine r_iload C 7 dX4_stepBack_129 rfl ?_
    refine r_aload_n C 1 dX4_stepBack_131 rfl ?_
    refine r_get C 7 0 dX4_stepBack_132 K_X0 rfl rfl (Nat.le_of_ble_eq_true rfl) rfl m_32 rfl ?_
    refine r_icmp_ge C 176 dX4_stepBack_135 (by decide) (fun h135 => ?_) (fun h135 => ?_)
    · refine r_iinc C 5 (x5 + 1) [(5, .int (x5 + 1)), (0, .ref 50), (1, .ref 57), (2, .int x2), (3, .int x3), (4, .int x4), (7, .int x7), (8, .int x8)] dX4_stepBack_176 rfl rfl (Nat.le_of_ble_eq_true rfl) rfl ?_
      refine r_goto C 14 dX4_stepBack_179 (by decide) ?_
      refine r_lv [(0, .ref 50), (1, .ref 57), (2, .int x2), (3, .int x3), (4, .int x4), (5, .int (x5 + 1))] [1, 2, 3, 4, 5, 0] rfl ?_
      exact hr14 x2 x3 x4 (x5 + 1) Y'
    · refine r_iload C 5 dX4_stepBack_138 rfl ?_
      refine r_iload C 7 dX4_stepBack_140 rfl ?_
      refine r_callS C (o_X4_place l x5 x8) v_X4_place m_458 [] [.int x5, .int x8] [] (fun u7 => [.int u7]) (fun u7 => w_X4X0 Y' B) rfl rfl rfl rfl rfl (Nat.le_of_ble_eq_true rfl) ⟨(Nat.le_of_ble_eq_true rfl), (Nat.le_of_ble_eq_true rfl)⟩ ⟨Nat.zero_le _, Nat.zero_le _⟩ dX4_stepBack_142 (fun _ => rfl) (fun _ => rfl) (fun _ => rfl) (fun u7 => ?_)
      refine r_istore C [(9, .int u7), (0, .ref 50), (1, .ref 57), (2, .int x2), (3, .int x3), (4, .int x4), (5, .int x5), (7, .int x7), (8, .int x8)] dX4_stepBack_145 (Nat.le_of_ble_eq_true rfl) rfl ?_
      refine r_aload_n C 1 dX4_stepBack_147 rfl ?_
      refine r_get C 0 2 dX4_stepBack_148 K_X4 rfl rfl (Nat.le_of_ble_eq_true rfl) rfl m_104 rfl ?_
      refine r_iload C 0 dX4_stepBack_151 rfl ?_
      refine r_aload_n C 1 dX4_stepBack_153 rfl ?_
      refine r_get C 0 2 dX4_stepBack_154 K_X4 rfl rfl (Nat.le_of_ble_eq_true rfl) rfl m_104 rfl ?_
      refine r_iload C 0 dX4_stepBack_157 rfl ?_
      refine r_gix (fun hi159 => ?_)
      refine r_cut (q_knw (u0 := (Y'.2 2 u7.toNatClampNeg)) (q_kix hi159)) ?_
      refine r_callS C (o_X4_at l 81 (by decide) (Y'.2 2) u7) v_X4_at m_461 [3] [.ref 53, .int u7] [.int u7, .ref 53] (fun u8 => [.int u8, .int u7, .ref 53]) (fun u8 => w_X4X0 Y' B) rfl rfl rfl rfl rfl (Nat.le_of_ble_eq_true rfl) ⟨(Nat.le_of_ble_eq_true rfl), (Nat.le_of_ble_eq_true rfl)⟩ ⟨Nat.zero_le _, Nat.zero_le _⟩ dX4_stepBack_159 (fun _ => rfl) (fun _ => rfl) (fun _ => rfl) (fun u8 => ?_)
      refine r_kn (fun hu159 => ?_)
      subst hu159
      refine r_iload C 7 dX4_stepBack_162 rfl ?_
      refine r_mmin C dX4_stepBack_164 m_464 m_465 m_8 m_466 (Nat.le_of_ble_eq_true rfl) (Nat.le_of_ble_eq_true rfl) (Nat.zero_le _) (Nat.zero_le _) ?_
      refine r_gix (fun hi167 => ?_)
      refine r_cut (q_knw (u0 := (upd (Y'.2 2) u7.toNatClampNeg (if x7 < (Y'.2 2 u7.toNatClampNeg) then x7 else (Y'.2 2 u7.toNatClampNeg)))) (q_kix hi167)) ?_
      refine r_callS C (o_X4_put l 81 (by decide) (Y'.2 2) u7 (if x7 < (Y'.2 2 u7.toNatClampNeg) then x7 else (Y'.2 2 u7.toNatClampNeg))) v_X4_put m_445 [3] [.ref 53, .int u7, .int (if x7 < (Y'.2 2 u7.toNatClampNeg) then x7 else (Y'.2 2 u7.toNatClampNeg))] [] (fun u9 => []) (fun u9 => w_X4X0 (Y'.1, (va_up Y'.2 2 u9)) B) rfl rfl rfl rfl rfl (Nat.le_of_ble_eq_true rfl) ⟨(Nat.le_of_ble_eq_true rfl), (Nat.le_of_ble_eq_true rfl)⟩ ⟨Nat.zero_le _, Nat.zero_le _⟩ dX4_stepBack_167 (fun _ => rfl) (fun _ => rfl) (fun _ => rfl) (fun u9 => ?_)
      refine r_kn (fun hu167 => ?_)
      subst hu167
      refine r_iinc C 8 (x8 + 1) [(8, .int (x8 + 1)), (9, .int u7), (0, .ref 50), (1, .ref 57), (2, .int x2), (3, .int x3), (4, .int x4), (5, .int x5), (7, .int x7)] dX4_stepBack_170 rfl rfl (Nat.le_of_ble_eq_true rfl) rfl ?_
      refine r_goto C 129 dX4_stepBack_173 (by decide) ?_
      refine r_lv [(0, .ref 50), (1, .ref 57), (2, .int x2), (3, .int x3), (4, .int x4), (5, .int x5), (7, .int x7), (8, .int (x8 + 1))] [2, 3, 4, 5, 6, 7, 8, 0] rfl ?_
      exact ih x2 x3 x4 x5 x7 (x8 + 1) (Y'.1, (va_up Y'.2 2 (upd (Y'.2 2) u7.toNatClampNeg (if x7 < (Y'.2 2 u7.toNatClampNeg) then x7 else (Y'.2 2 u7.toNatClampNeg)))))
set_option maxRecDepth 100000 in
set_option maxHeartbeats 4000000 in
theorem k_X4_stepBack_86 {p : Program} {l : Launch} {e : Env} {s : State} {m : MethodId} {args : Array Value} {below : List Frame} {meth : Method} {c : Code} {dC : Nat → ClassId} {dI : Nat → Nat → Nat} {dA : Nat → ClassId} {A : Nat → Prop} {α : Nat → Nat} {t : q_St} (C : q_Cx p s m args meth c cX4_stepBack 11 RX4 none "stepBack" dC dI dA A α) (Y : q_St) (B : q_St) (a2 : Int32) (r14 : Int32 → Int32 → Int32 → Int32 → q_St → Option (q_St)) (r39 : Int32 → Int32 → Int32 → Int32 → Int32 → Int32 → Int32 → q_St → Option (q_St))
    (hr14 : ∀ (x2 : Int32) (x3 : Int32) (x4 : Int32) (x5 : Int32) (Y' : q_St), q_S p l e (q_rm 3 68) s m args below meth c 11 dC dI dA A α (MQ below (q_Q α dC dI dA A ((fun _ => none) t) ((fun u => w_X4X0 u B) t)) args s 0 0 A) 0 0 (r14 x2 x3 x4 x5 Y') t 14 [(0, .ref 50), (1, .ref 57), (2, .int x2), (3, .int x3), (4, .int x4), (5, .int x5)] [] (w_X4X0 Y' B))
    (hr39 : ∀ (x2 : Int32) (x3 : Int32) (x4 : Int32) (x5 : Int32) (x6 : Int32) (x7 : Int32) (x8 : Int32) (Y' : q_St), q_S p l e (q_rm 3 68) s m args below meth c 11 dC dI dA A α (MQ below (q_Q α dC dI dA A ((fun _ => none) t) ((fun u => w_X4X0 u B) t)) args s 0 0 A) 0 0 (r39 x2 x3 x4 x5 x6 x7 x8 Y') t 39 [(0, .ref 50), (1, .ref 57), (2, .int x2), (3, .int x3), (4, .int x4), (5, .int x5), (6, .int x6), (7, .int x7), (8, .int x8)] [] (w_X4X0 Y' B)) : ∀ (x2 : Int32) (x3 : Int32) (x4 : Int32) (x5 : Int32) (x6 : Int32) (x7 : Int32) (x8 : Int32) (x9 : Int32) (s0 : Int32) (Y' : q_St), q_S p l e (q_rm 3 68) s m args below meth c 11 dC dI dA A α (MQ below (q_Q α dC dI dA A ((fun _ => none) t) ((fun u => w_X4X0 u B) t)) args s 0 0 A) 0 0 (f_X4_stepBack_86 Y B a2 r14 r39 x2 x3 x4 x5 x6 x7 x8 x9 s0 Y') t 86 [(0, .ref 50), (1, .ref 57), (2, .int x2), (3, .int x3), (4, .int x4), (5, .int x5), (6, .int x6), (7, .int x7), (8, .int x8), (9, .int x9)] [.int s0] (w_X4X0 Y' B) := by
  intro x2 x3 x4 x5 x6 x7 x8 x9 s0 Y'
  refine r_cut (f_X4_stepBack_86.eq_1 _ _ _ _ _ _ _ _ _ _ _ _ _ _ _) ?_
  refine r_istore C [(10, .int s0), (0, .ref 50), (1, .ref 57), (2, .int x2), (3, .int x3), (4, .int x4), (5, .int x5), (6, .int x6), (7, .int x7), (8, .int x8), (9, .int x9)] dX4_stepBack_86 (Nat.le_of_ble_eq_true rfl) rfl ?_
  refine r_aload_n C 1 dX4_stepBack_88 rfl ?_
  refine r_get C 0 2 dX4_stepBack_89 K_X4 rfl rfl (Nat.le_of_ble_eq_true rfl) rfl m_104 rfl ?_
  refine r_iload C 10 dX4_stepBack_92 rfl ?_
  refine r_iload C 0 dX4_stepBack_94 rfl ?_
  refine r_gix (fun hi96 => ?_)
  refine r_cut (q_knw (u0 := (upd (Y'.2 2) x9.toNatClampNeg s0)) (q_kix hi96)) ?_
  refine r_callS C (o_X4_put l 81 (by decide) (Y'.2 2) x9 s0) v_X4_put m_445 [3] [.ref 53, .int x9, .int s0] [] (fun u10 => []) (fun u10 => w_X4X0 (Y'.1, (va_up Y'.2 2 u10)) B) rfl rfl rfl rfl rfl (Nat.le_of_ble_eq_true rfl) ⟨(Nat.le_of_ble_eq_true rfl), (Nat.le_of_ble_eq_true rfl)⟩ ⟨Nat.zero_le _, Nat.zero_le _⟩ dX4_stepBack_96 (fun _ => rfl) (fun _ => rfl) (fun _ => rfl) (fun u10 => ?_)
  refine r_kn (fun hu96 => ?_)
  subst hu96
  refine r_iload C 8 dX4_stepBack_99 rfl ?_
  refine r_iload C 0 dX4_stepBack_101 rfl ?_
  refine r_aload_n C 1 dX4_stepBack_103 rfl ?_
  refine r_get C 0 3 dX4_stepBack_104 K_X4 rfl rfl (Nat.le_of_ble_eq_true rfl) rfl m_105 rfl ?_
  refine r_iload C 9 dX4_stepBack_107 rfl ?_
  refine r_iconst C (1) dX4_stepBack_109 rfl ?_
  refine r_iadd C dX4_stepBack_110 ?_
  refine r_gix (fun hi111 => ?_)
  refine r_cut (q_knw (u0 := (Y'.2 3 (x8 + (1 : Int32)).toNatClampNeg)) (q_kix hi111)) ?_
  refine r_callS C (o_X4_at l 9 (by decide) (Y'.2 3) (x8 + (1 : Int32))) v_X4_at m_461 [4] [.ref 54, .int (x8 + (1 : Int32))] [.int s0, .int x7] (fun u11 => [.int u11, .int s0, .int x7]) (fun u11 => w_X4X0 (Y'.1, (va_up Y'.2 2 (upd (Y'.2 2) x9.toNatClampNeg s0))) B) rfl rfl rfl rfl rfl (Nat.le_of_ble_eq_true rfl) ⟨(Nat.le_of_ble_eq_true rfl), (Nat.le_of_ble_eq_true rfl)⟩ ⟨Nat.zero_le _, Nat.zero_le _⟩ dX4_stepBack_111 (fun _ => rfl) (fun _ => rfl) (fun _ => rfl) (fun u11 => ?_)
  refine r_kn (fun hu111 => ?_)
  subst hu111
  refine r_iadd C dX4_stepBack_114 ?_
  refine r_mmin C dX4_stepBack_115 m_464 m_465 m_8 m_466 (Nat.le_of_ble_eq_true rfl) (Nat.le_of_ble_eq_true rfl) (Nat.zero_le _) (Nat.zero_le _) ?_
  refine r_istore C [(7, .int (if (s0 + (Y'.2 3 (x8 + (1 : Int32)).toNatClampNeg)) < x7 then (s0 + (Y'.2 3 (x8 + (1 : Int32)).toNatClampNeg)) else x7)), (10, .int s0), (0, .ref 50), (1, .ref 57), (2, .int x2), (3, .int x3), (4, .int x4), (5, .int x5), (6, .int x6), (8, .int x8), (9, .int x9)] dX4_stepBack_118 (Nat.le_of_ble_eq_true rfl) rfl ?_
  refine r_iinc C 9 (x8 + 1) [(8, .int (x8 + 1)), (7, .int (if (s0 + (Y'.2 3 (x8 + (1 : Int32)).toNatClampNeg)) < x7 then (s0 + (Y'.2 3 (x8 + (1 : Int32)).toNatClampNeg)) else x7)), (10, .int s0), (0, .ref 50), (1, .ref 57), (2, .int x2), (3, .int x3), (4, .int x4), (5, .int x5), (6, .int x6), (9, .int x9)] dX4_stepBack_120 rfl rfl (Nat.le_of_ble_eq_true rfl) rfl ?_
  refine r_goto C 39 dX4_stepBack_123 (by decide) ?_
  refine r_lv [(0, .ref 50), (1, .ref 57), (2, .int x2), (3, .int x3), (4, .int x4), (5, .int x5), (6, .int x6), (7, .int (if (s0 + (Y'.2 3 (x8 + (1 : Int32)).toNatClampNeg)) < x7 then (s0 + (Y'.2 3 (x8 + (1 : Int32)).toNatClampNeg)) else x7)), (8, .int (x8 + 1))] [3, 4, 5, 6, 7, 8, 9, 1, 0] rfl ?_
  exact hr39 x2 x3 x4 x5 x6 (if (s0 + (Y'.2 3 (x8 + (1 : Int32)).toNatClampNeg)) < x7 then (s0 + (Y'.2 3 (x8 + (1 : Int32)).toNatClampNeg)) else x7) (x8 + 1) (Y'.1, (va_up Y'.2 2 (upd (Y'.2 2) x9.toNatClampNeg s0)))
set_option maxRecDepth 100000 in
set_option maxHeartbeats 4000000 in
theorem k_X4_stepBack_39 {p : Program} {l : Launch} {e : Env} {s : State} {m : MethodId} {args : Array Value} {below : List Frame} {meth : Method} {c : Code} {dC : Nat → ClassId} {dI : Nat → Nat → Nat} {dA : Nat → ClassId} {A : Nat → Prop} {α : Nat → Nat} {t : q_St} (C : q_Cx p s m args meth c cX4_stepBack 11 RX4 none "stepBack" dC dI dA A α) (Y : q_St) (B : q_St) (a2 : Int32) (r14 : Int32 → Int32 → Int32 → Int32 → q_St → Option (q_St))
    (hr14 : ∀ (x2 : Int32) (x3 : Int32) (x4 : Int32) (x5 : Int32) (Y' : q_St), q_S p l e (q_rm 3 68) s m args below meth c 11 dC dI dA A α (MQ below (q_Q α dC dI dA A ((fun _ => none) t) ((fun u => w_X4X0 u B) t)) args s 0 0 A) 0 0 (r14 x2 x3 x4 x5 Y') t 14 [(0, .ref 50), (1, .ref 57), (2, .int x2), (3, .int x3), (4, .int x4), (5, .int x5)] [] (w_X4X0 Y' B)) : ∀ (n : Nat) (x2 : Int32) (x3 : Int32) (x4 : Int32) (x5 : Int32) (x6 : Int32) (x7 : Int32) (x8 : Int32) (Y' : q_St), q_S p l e (q_rm 3 68) s m args below meth c 11 dC dI dA A α (MQ below (q_Q α dC dI dA A ((fun _ => none) t) ((fun u => w_X4X0 u B) t)) args s 0 0 A) 0 0 (f_X4_stepBack_39 Y B a2 r14 n x2 x3 x4 x5 x6 x7 x8 Y') t 39 [(0, .ref 50), (1, .ref 57), (2, .int x2), (3, .int x3), (4, .int x4), (5, .int x5), (6, .int x6), (7, .int x7), (8, .int x8)] [] (w_X4X0 Y' B) := by
  intro n
  induction n with
  | zero =>
    intro x2 x3 x4 x5 x6 x7 x8 Y'
    exact r_cut (f_X4_stepBack_39.eq_1 _ _ _ _ _ _ _ _ _ _ _ _) (r_none True.intro)
  | succ n ih =>
    intro x2 x3 x4 x5 x6 x7 x8 Y'
    refine r_cut (f_X4_stepBack_39.eq_2 _ _ _ _ _ _ _ _ _ _ _ _ _) ?_
    refine r_iload C 8 dX4_stepBack_39 rfl ?_
    refine r_aload_n C 1 dX4_stepBack_41 rfl ?_
    refine r_get C 7 0 dX4_stepBack_42 K_X0 rfl rfl (Nat.le_of_ble_eq_true rfl) rfl m_32 rfl ?_
    refine r_icmp_ge C 126 dX4_stepBack_45 (by decide) (fun h45 => ?_) (fun h45 => ?_)
    · refine r_iconst C (-1) dX4_stepBack_126 rfl ?_
      refine r_istore C [(8, .int (-1 : Int32)), (0, .ref 50), (1, .ref 57), (2, .int x2), (3, .int x3), (4, .int x4), (5, .int x5), (6, .int x6), (7, .int x7)] dX4_stepBack_127 (Nat.le_of_ble_eq_true rfl) rfl ?_
      refine r_lv [(0, .ref 50), (1, .ref 57), (2, .int x2), (3, .int x3), (4, .int x4), (5, .int x5), (7, .int x7), (8, .int (-1 : Int32))] [1, 2, 3, 4, 5, 6, 8, 0] rfl ?_
      exact k_X4_stepBack_129 C Y B a2 r14 hr14 q_N x2 x3 x4 x5 x7 (-1 : Int32) Y'
    · refine r_iload C 5 dX4_stepBack_48 rfl ?_
      refine r_iload C 8 dX4_stepBack_50 rfl ?_
      refine r_callS C (o_X4_place l x5 x8) v_X4_place m_458 [] [.int x5, .int x8] [] (fun u2 => [.int u2]) (fun u2 => w_X4X0 Y' B) rfl rfl rfl rfl rfl (Nat.le_of_ble_eq_true rfl) ⟨(Nat.le_of_ble_eq_true rfl), (Nat.le_of_ble_eq_true rfl)⟩ ⟨Nat.zero_le _, Nat.zero_le _⟩ dX4_stepBack_52 (fun _ => rfl) (fun _ => rfl) (fun _ => rfl) (fun u2 => ?_)
      refine r_istore C [(9, .int u2), (0, .ref 50), (1, .ref 57), (2, .int x2), (3, .int x3), (4, .int x4), (5, .int x5), (6, .int x6), (7, .int x7), (8, .int x8)] dX4_stepBack_55 (Nat.le_of_ble_eq_true rfl) rfl ?_
      refine r_iload C 7 dX4_stepBack_57 rfl ?_
      refine r_iload C 9 dX4_stepBack_59 rfl ?_
      refine r_iconst C (1) dX4_stepBack_61 rfl ?_
      refine r_iadd C dX4_stepBack_62 ?_
      refine r_ishr C dX4_stepBack_63 ?_
      refine r_iconst C (1) dX4_stepBack_64 rfl ?_
      refine r_iand C dX4_stepBack_65 ?_
      refine r_if_eq C 84 dX4_stepBack_66 (by decide) (fun h66 => ?_) (fun h66 => ?_)
      · refine r_ldc C (1000000) dX4_stepBack_84 m_457 ?_
        refine r_lv [(0, .ref 50), (1, .ref 57), (2, .int x2), (3, .int x3), (4, .int x4), (5, .int x5), (6, .int x6), (7, .int x7), (8, .int x8), (9, .int u2)] [1, 2, 3, 4, 5, 6, 7, 8, 9, 0] rfl ?_
        exact k_X4_stepBack_86 C Y B a2 r14 (fun x2 x3 x4 x5 x6 x7 x8 Y' => f_X4_stepBack_39 Y B a2 r14 n x2 x3 x4 x5 x6 x7 x8 Y') hr14 ih x2 x3 x4 x5 x6 x7 x8 u2 (1000000 : Int32) Y'
      · refine r_aload_n C 1 dX4_stepBack_69 rfl ?_
        refine r_get C 0 0 dX4_stepBack_70 K_X4 rfl rfl (Nat.le_of_ble_eq_true rfl) rfl m_102 rfl ?_
        refine r_iload C 5 dX4_stepBack_73 rfl ?_
        refine r_iload C 0 dX4_stepBack_75 rfl ?_
        refine r_iadd C dX4_stepBack_77 ?_
        refine r_gix (fun hi78 => ?_)
        refine r_cut (q_knw (u0 := (Y'.2 0 (x4 + u2).toNatClampNeg)) (q_kix hi78)) ?_
        refine r_callS C (o_X4_at l 1053 (by decide) (Y'.2 0) (x4 + u2)) v_X4_at m_461 [1] [.ref 51, .int (x4 + u2)] [] (fun u3 => [.int u3]) (fun u3 => w_X4X0 Y' B) rfl rfl rfl rfl rfl (Nat.le_of_ble_eq_true rfl) ⟨(Nat.le_of_ble_eq_true rfl), (Nat.le_of_ble_eq_true rfl)⟩ ⟨Nat.zero_le _, Nat.zero_le _⟩ dX4_stepBack_78 (fun _ => rfl) (fun _ => rfl) (fun _ => rfl) (fun u3 => ?_)
        refine r_kn (fun hu78 => ?_)
        subst hu78
        refine r_goto C 86 dX4_stepBack_81 (by decide) ?_
        refine r_lv [(0, .ref 50), (1, .ref 57), (2, .int x2), (3, .int x3), (4, .int x4), (5, .int x5), (6, .int x6), (7, .int x7), (8, .int x8), (9, .int u2)] [1, 2, 3, 4, 5, 6, 7, 8, 9, 0] rfl ?_
        exact k_X4_stepBack_86 C Y B a2 r14 (fun x2 x3 x4 x5 x6 x7 x8 Y' => f_X4_stepBack_39 Y B a2 r14 n x2 x3 x4 x5 x6 x7 x8 Y') hr14 ih x2 x3 x4 x5 x6 x7 x8 u2 (Y'.2 0 (x4 + u2).toNatClampNeg) Y'
set_option maxRecDepth 100000 in
set_option maxHeartbeats 4000000 in
theorem k_X4_stepBack_14 {p : Program} {l : Launch} {e : Env} {s : State} {m : MethodId} {args : Array Value} {below : List Frame} {meth : Method} {c : Code} {dC : Nat → ClassId} {dI : Nat → Nat → Nat} {dA : Nat → ClassId} {A : Nat → Prop} {α : Nat → Nat} {t : q_St} (C : q_Cx p s m args meth c cX4_stepBack 11 RX4 none "stepBack" dC dI dA A α) (Y : q_St) (B : q_St) (a2 : Int32)  : ∀ (n : Nat) (x2 : Int32) (x3 : Int32) (x4 : Int32) (x5 : Int32) (Y' : q_St), q_S p l e (q_rm 3 68) s m args below meth c 11 dC dI dA A α (MQ below (q_Q α dC dI dA A ((fun _ => none) t) ((fun u => w_X4X0 u B) t)) args s 0 0 A) 0 0 (f_X4_stepBack_14 Y B a2  n x2 x3 x4 x5 Y') t 14 [(0, .ref 50), (1, .ref 57), (2, .int x2), (3, .int x3), (4, .int x4), (5, .int x5)] [] (w_X4X0 Y' B) := by
  intro n
  induction n with
  | zero =>
    intro x2 x3 x4 x5 Y'
    exact r_cut (f_X4_stepBack_14.eq_1 _ _ _ _ _ _ _ _) (r_none True.intro)
  | succ n ih =>
    intro x2 x3 x4 x5 Y'
    refine r_cut (f_X4_stepBack_14.eq_2 _ _ _ _ _ _ _ _ _) ?_
    refine r_iload C 5 dX4_stepBack_14 rfl ?_
    refine r_aload_n C 1 dX4_stepBack_16 rfl ?_
    refine r_get C 7 0 dX4_stepBack_17 K_X0 rfl rfl (Nat.le_of_ble_eq_true rfl) rfl m_32 rfl ?_
    refine r_icmp_ge C 182 dX4_stepBack_20 (by decide) (fun h20 => ?_) (fun h20 => ?_)
    · refine r_iconst C (-1) dX4_stepBack_182 rfl ?_
      refine r_istore C [(5, .int (-1 : Int32)), (0, .ref 50), (1, .ref 57), (2, .int x2), (3, .int x3), (4, .int x4)] dX4_stepBack_183 (Nat.le_of_ble_eq_true rfl) rfl ?_
      refine r_lv [(0, .ref 50), (1, .ref 57), (3, .int x3), (5, .int (-1 : Int32))] [1, 2, 4, 0] rfl ?_
      exact k_X4_stepBack_185 C Y B a2   q_N x3 (-1 : Int32) Y'
    · refine r_aload_n C 1 dX4_stepBack_23 rfl ?_
      refine r_iload_n C 2 dX4_stepBack_24 rfl ?_
      refine r_iload C 5 dX4_stepBack_25 rfl ?_
      refine r_callV C (o_X0_rightsBeside l B x2 x5) v_X0_rightsBeside m_456 [7, 8, 9, 10, 11, 12, 13] [.int x2, .int x5] [] (57) (Or.inl ⟨7, 0, _, TX0, 16, rfl, rfl, rfl⟩) (fun u1 => [.int u1]) (fun u1 => w_X4X0 Y' B) rfl rfl rfl rfl rfl (Nat.le_of_ble_eq_true rfl) ⟨(Nat.le_of_ble_eq_true rfl), (Nat.le_of_ble_eq_true rfl)⟩ ⟨Nat.zero_le _, Nat.zero_le _⟩ dX4_stepBack_27 (fun _ => rfl) (fun _ => rfl) (fun _ => rfl) (fun u1 => ?_)
      refine r_istore C [(6, .int u1), (0, .ref 50), (1, .ref 57), (2, .int x2), (3, .int x3), (4, .int x4), (5, .int x5)] dX4_stepBack_30 (Nat.le_of_ble_eq_true rfl) rfl ?_
      refine r_ldc C (1000000) dX4_stepBack_32 m_457 ?_
      refine r_istore C [(7, .int (1000000 : Int32)), (6, .int u1), (0, .ref 50), (1, .ref 57), (2, .int x2), (3, .int x3), (4, .int x4), (5, .int x5)] dX4_stepBack_34 (Nat.le_of_ble_eq_true rfl) rfl ?_
      refine r_iconst C (-1) dX4_stepBack_36 rfl ?_
      refine r_istore C [(8, .int (-1 : Int32)), (7, .int (1000000 : Int32)), (6, .int u1), (0, .ref 50), (1, .ref 57), (2, .int x2), (3, .int x3), (4, .int x4), (5, .int x5)] dX4_stepBack_37 (Nat.le_of_ble_eq_true rfl) rfl ?_
      refine r_lv [(0, .ref 50), (1, .ref 57), (2, .int x2), (3, .int x3), (4, .int x4), (5, .int x5), (6, .int u1), (7, .int (1000000 : Int32)), (8, .int (-1 : Int32))] [3, 4, 5, 6, 7, 8, 2, 1, 0] rfl ?_
      exact k_X4_stepBack_39 C Y B a2 (fun x2 x3 x4 x5 Y' => f_X4_stepBack_14 Y B a2  n x2 x3 x4 x5 Y') ih q_N x2 x3 x4 x5 u1 (1000000 : Int32) (-1 : Int32) Y'
set_option maxRecDepth 100000 in
set_option maxHeartbeats 4000000 in
theorem o_X4_stepBack (l : Launch) (Y : q_St) (B : q_St) (a2 : Int32) : q_Ok l yX4_stepBack cX4_stepBack 11 none 3 68 [.ref 50, .ref 57, .int a2] (w_X4X0 Y B) (f_X4_stepBack Y B a2) (fun _ => none) (fun u => w_X4X0 u B) := by
  refine q_enter (by decide +kernel) (Nat.le_of_ble_eq_true rfl) (fun t p e s m args below meth c dC dI dA A α C => ?_)
  refine r_cut (f_X4_stepBack.eq_1 _ _ _) ?_
  show q_S p l e (q_rm 3 68) s m args below meth c 11 dC dI dA A α (MQ below (q_Q α dC dI dA A ((fun _ => none) t) ((fun u => w_X4X0 u B) t)) args s 0 0 A) 0 0 _ t 0 [(0, .ref 50), (1, .ref 57), (2, .int a2)] [] (w_X4X0 Y B)
  refine r_iload_n C 2 dX4_stepBack_0 rfl ?_
  refine r_bipush C (81) dX4_stepBack_1 rfl ?_
  refine r_imul C dX4_stepBack_3 ?_
  refine r_istore_n C [(3, .int (a2 * (81 : Int32))), (0, .ref 50), (1, .ref 57), (2, .int a2)] dX4_stepBack_4 (Nat.le_of_ble_eq_true rfl) rfl ?_
  refine r_iload_n C 0 dX4_stepBack_5 rfl ?_
  refine r_bipush C (81) dX4_stepBack_6 rfl ?_
  refine r_iadd C dX4_stepBack_8 ?_
  refine r_istore C [(4, .int ((a2 * (81 : Int32)) + (81 : Int32))), (3, .int (a2 * (81 : Int32))), (0, .ref 50), (1, .ref 57), (2, .int a2)] dX4_stepBack_9 (Nat.le_of_ble_eq_true rfl) rfl ?_
  refine r_iconst C (-1) dX4_stepBack_11 rfl ?_
  refine r_istore C [(5, .int (-1 : Int32)), (4, .int ((a2 * (81 : Int32)) + (81 : Int32))), (3, .int (a2 * (81 : Int32))), (0, .ref 50), (1, .ref 57), (2, .int a2)] dX4_stepBack_12 (Nat.le_of_ble_eq_true rfl) rfl ?_
  refine r_lv [(0, .ref 50), (1, .ref 57), (2, .int a2), (3, .int (a2 * (81 : Int32))), (4, .int ((a2 * (81 : Int32)) + (81 : Int32))), (5, .int (-1 : Int32))] [3, 4, 5, 2, 1, 0] rfl ?_
  exact k_X4_stepBack_14 C Y B a2   q_N a2 (a2 * (81 : Int32)) ((a2 * (81 : Int32)) + (81 : Int32)) (-1 : Int32) Y
set_option maxRecDepth 100000 in
set_option maxHeartbeats 4000000 in
theorem o_X4_worthFrom (l : Launch) (Y : q_St) (a1 : Int32) (a2 : Int32) (a3 : Int32) : q_Ok l yX4_worthFrom cX4_worthFrom 4 (some .int) 1 21 [.ref 50, .int a1, .int a2, .int a3] (w_X4 Y) (f_X4_worthFrom Y a1 a2 a3) (fun u => some (.int u)) (fun u => w_X4 Y) := by
  refine q_enter (by decide +kernel) (Nat.le_of_ble_eq_true rfl) (fun t p e s m args below meth c dC dI dA A α C => ?_)
  refine r_cut (f_X4_worthFrom.eq_1 _ _ _ _) ?_
  show q_S p l e (q_rm 1 21) s m args below meth c 4 dC dI dA A α (MQ below (q_Q α dC dI dA A ((fun u => some (.int u)) t) ((fun u => w_X4 Y) t)) args s 0 0 A) 0 0 _ t 0 [(0, .ref 50), (1, .int a1), (2, .int a2), (3, .int a3)] [] (w_X4 Y)
  refine r_aload_n C 0 dX4_worthFrom_0 rfl ?_
  refine r_get C 0 0 dX4_worthFrom_1 K_X4 rfl rfl (Nat.le_of_ble_eq_true rfl) rfl m_102 rfl ?_
  refine r_iload_n C 1 dX4_worthFrom_4 rfl ?_
  refine r_bipush C (81) dX4_worthFrom_5 rfl ?_
  refine r_imul C dX4_worthFrom_7 ?_
  refine r_iload_n C 2 dX4_worthFrom_8 rfl ?_
  refine r_iload_n C 3 dX4_worthFrom_9 rfl ?_
  refine r_callS C (o_X4_place l a2 a3) v_X4_place m_458 [] [.int a2, .int a3] [.int (a1 * (81 : Int32)), .ref 51] (fun u1 => [.int u1, .int (a1 * (81 : Int32)), .ref 51]) (fun u1 => w_X4 Y) rfl rfl rfl rfl rfl (Nat.le_of_ble_eq_true rfl) ⟨(Nat.le_of_ble_eq_true rfl), (Nat.le_of_ble_eq_true rfl)⟩ ⟨Nat.zero_le _, Nat.zero_le _⟩ dX4_worthFrom_10 (fun _ => rfl) (fun _ => rfl) (fun _ => rfl) (fun u1 => ?_)
  refine r_iadd C dX4_worthFrom_13 ?_
  refine r_gix (fun hi14 => ?_)
  refine r_cut (q_knw (u0 := (Y.2 0 ((a1 * (81 : Int32)) + u1).toNatClampNeg)) (q_kix hi14)) ?_
  refine r_callS C (o_X4_at l 1053 (by decide) (Y.2 0) ((a1 * (81 : Int32)) + u1)) v_X4_at m_461 [1] [.ref 51, .int ((a1 * (81 : Int32)) + u1)] [] (fun u2 => [.int u2]) (fun u2 => w_X4 Y) rfl rfl rfl rfl rfl (Nat.le_of_ble_eq_true rfl) ⟨(Nat.le_of_ble_eq_true rfl), (Nat.le_of_ble_eq_true rfl)⟩ ⟨Nat.zero_le _, Nat.zero_le _⟩ dX4_worthFrom_14 (fun _ => rfl) (fun _ => rfl) (fun _ => rfl) (fun u2 => ?_)
  refine r_kn (fun hu14 => ?_)
  subst hu14
  exact r_reti (x := (Y.2 0 ((a1 * (81 : Int32)) + u1).toNatClampNeg)) (rv := (fun u => some (.int u))) (hpE := (fun u => w_X4 Y)) (t0 := (Y.2 0 ((a1 * (81 : Int32)) + u1).toNatClampNeg)) C dX4_worthFrom_17 (by rfl) (by rfl) (by rfl)
set_option maxRecDepth 100000 in
set_option maxHeartbeats 4000000 in
theorem k_X4_worth_13 {p : Program} {l : Launch} {e : Env} {s : State} {m : MethodId} {args : Array Value} {below : List Frame} {meth : Method} {c : Code} {dC : Nat → ClassId} {dI : Nat → Nat → Nat} {dA : Nat → ClassId} {A : Nat → Prop} {α : Nat → Nat} {t : Int32 × q_St} (C : q_Cx p s m args meth c cX4_worth 4 RX4 (some .int) "worth" dC dI dA A α) (Y : q_St) (B : q_St) (a2 : Int32)  : ∀ (n : Nat) (x3 : Int32) (Y' : q_St), q_S p l e (q_rm 4 98) s m args below meth c 4 dC dI dA A α (MQ below (q_Q α dC dI dA A ((fun u => some (.int u.1)) t) ((fun u => w_X4X0 u.2 B) t)) args s 0 0 A) 0 0 (f_X4_worth_13 Y B a2  n x3 Y') t 13 [(0, .ref 50), (1, .ref 57), (3, .int x3)] [] (w_X4X0 Y' B) := by
  intro n
  induction n with
  | zero =>
    intro x3 Y'
    exact r_cut (f_X4_worth_13.eq_1 _ _ _ _ _) (r_none True.intro)
  | succ n ih =>
    intro x3 Y'
    refine r_cut (f_X4_worth_13.eq_2 _ _ _ _ _ _) ?_
    refine r_iload_n C 2 dX4_worth_13 rfl ?_
    refine r_if_lt C 29 dX4_worth_14 (by decide) (fun h14 => ?_) (fun h14 => ?_)
    · refine r_aload_n C 0 dX4_worth_29 rfl ?_
      refine r_iconst C (0) dX4_worth_30 rfl ?_
      refine r_aload_n C 1 dX4_worth_31 rfl ?_
      refine r_get C 7 2 dX4_worth_32 K_X0 rfl rfl (Nat.le_of_ble_eq_true rfl) rfl m_38 rfl ?_
      refine r_aload_n C 1 dX4_worth_35 rfl ?_
      refine r_get C 7 3 dX4_worth_36 K_X0 rfl rfl (Nat.le_of_ble_eq_true rfl) rfl m_41 rfl ?_
      refine r_callV C (o_X4_worthFrom l Y' (0 : Int32) (B.1 2) (B.1 3)) v_X4_worthFrom m_467 [0, 1, 2, 3, 4, 5, 6] [.int (0 : Int32), .int (B.1 2), .int (B.1 3)] [] (50) (Or.inl ⟨0, 3, _, TX4, 6, rfl, rfl, rfl⟩) (fun u2 => [.int u2]) (fun u2 => w_X4X0 Y' B) rfl rfl rfl rfl rfl (Nat.le_of_ble_eq_true rfl) ⟨(Nat.le_of_ble_eq_true rfl), (Nat.le_of_ble_eq_true rfl)⟩ ⟨Nat.zero_le _, Nat.zero_le _⟩ dX4_worth_39 (fun _ => rfl) (fun _ => rfl) (fun _ => rfl) (fun u2 => ?_)
      exact r_reti (x := u2) (rv := (fun u => some (.int u.1))) (hpE := (fun u => w_X4X0 u.2 B)) (t0 := (u2, Y')) C dX4_worth_42 (by rfl) (by rfl) (by rfl)
    · refine r_aload_n C 0 dX4_worth_17 rfl ?_
      refine r_aload_n C 1 dX4_worth_18 rfl ?_
      refine r_iload_n C 2 dX4_worth_19 rfl ?_
      refine r_callV0 C (o_X4_stepBack l Y' B x3) v_X4_stepBack m_452 [.ref 57, .int x3] [] (50) (Or.inl ⟨0, 3, _, TX4, 6, rfl, rfl, rfl⟩) (fun u3 => []) (fun u3 => w_X4X0 u3 B) rfl rfl rfl (Nat.le_of_ble_eq_true rfl) ⟨(Nat.le_of_ble_eq_true rfl), (Nat.le_of_ble_eq_true rfl)⟩ ⟨Nat.zero_le _, Nat.zero_le _⟩ dX4_worth_20 (fun _ => rfl) (fun _ => rfl) (fun _ => rfl) (fun u3 => ?_)
      refine r_iinc C 2 (x3 + (-1)) [(3, .int (x3 + (-1))), (0, .ref 50), (1, .ref 57)] dX4_worth_23 rfl rfl (Nat.le_of_ble_eq_true rfl) rfl ?_
      refine r_goto C 13 dX4_worth_26 (by decide) ?_
      refine r_lv [(0, .ref 50), (1, .ref 57), (3, .int (x3 + (-1)))] [1, 2, 0] rfl ?_
      exact ih (x3 + (-1)) u3
set_option maxRecDepth 100000 in
set_option maxHeartbeats 4000000 in
theorem o_X4_worth (l : Launch) (Y : q_St) (B : q_St) (a2 : Int32) : q_Ok l yX4_worth cX4_worth 4 (some .int) 4 98 [.ref 50, .ref 57, .int a2] (w_X4X0 Y B) (f_X4_worth Y B a2) (fun u => some (.int u.1)) (fun u => w_X4X0 u.2 B) := by
  refine q_enter (by decide +kernel) (Nat.le_of_ble_eq_true rfl) (fun t p e s m args below meth c dC dI dA A α C => ?_)
  refine r_cut (f_X4_worth.eq_1 _ _ _) ?_
  show q_S p l e (q_rm 4 98) s m args below meth c 4 dC dI dA A α (MQ below (q_Q α dC dI dA A ((fun u => some (.int u.1)) t) ((fun u => w_X4X0 u.2 B) t)) args s 0 0 A) 0 0 _ t 0 [(0, .ref 50), (1, .ref 57), (2, .int a2)] [] (w_X4X0 Y B)
  refine r_aload_n C 0 dX4_worth_0 rfl ?_
  refine r_aload_n C 1 dX4_worth_1 rfl ?_
  refine r_iload_n C 2 dX4_worth_2 rfl ?_
  refine r_callV0 C (o_X4_begin l Y B a2) v_X4_begin m_440 [.ref 57, .int a2] [] (50) (Or.inl ⟨0, 3, _, TX4, 6, rfl, rfl, rfl⟩) (fun u1 => []) (fun u1 => w_X4X0 u1 B) rfl rfl rfl (Nat.le_of_ble_eq_true rfl) ⟨(Nat.le_of_ble_eq_true rfl), (Nat.le_of_ble_eq_true rfl)⟩ ⟨Nat.zero_le _, Nat.zero_le _⟩ dX4_worth_3 (fun _ => rfl) (fun _ => rfl) (fun _ => rfl) (fun u1 => ?_)
  refine r_aload_n C 1 dX4_worth_6 rfl ?_
  refine r_get C 7 1 dX4_worth_7 K_X0 rfl rfl (Nat.le_of_ble_eq_true rfl) rfl m_33 rfl ?_
  refine r_iconst C (1) dX4_worth_10 rfl ?_
  refine r_isub C dX4_worth_11 ?_
  refine r_istore_n C [(3, .int (B.1 1 - (1 : Int32))), (0, .ref 50), (1, .ref 57), (2, .int a2)] dX4_worth_12 (Nat.le_of_ble_eq_true rfl) rfl ?_
  refine r_lv [(0, .ref 50), (1, .ref 57), (3, .int (B.1 1 - (1 : Int32)))] [1, 2, 0] rfl ?_
  exact k_X4_worth_13 C Y B a2   q_N (B.1 1 - (1 : Int32)) u1
set_option maxRecDepth 100000 in
set_option maxHeartbeats 4000000 in
theorem o_X4_move (l : Launch) (Y : q_St) (a1 : Int32) (a2 : Int32) : q_Ok l yX4_move cX4_move 3 (some .int) 1 21 [.ref 50, .int a1, .int a2] (w_X4 Y) (f_X4_move Y a1 a2) (fun u => some (.int u)) (fun u => w_X4 Y) := by
  refine q_enter (by decide +kernel) (Nat.le_of_ble_eq_true rfl) (fun t p e s m args below meth c dC dI dA A α C => ?_)
  refine r_cut (f_X4_move.eq_1 _ _ _) ?_
  show q_S p l e (q_rm 1 21) s m args below meth c 3 dC dI dA A α (MQ below (q_Q α dC dI dA A ((fun u => some (.int u)) t) ((fun u => w_X4 Y) t)) args s 0 0 A) 0 0 _ t 0 [(0, .ref 50), (1, .int a1), (2, .int a2)] [] (w_X4 Y)
  refine r_iload_n C 1 dX4_move_0 rfl ?_
  refine r_iload_n C 2 dX4_move_1 rfl ?_
  refine r_icmp_ne C 9 dX4_move_2 (by decide) (fun h2 => ?_) (fun h2 => ?_)
  · refine r_iconst C (0) dX4_move_5 rfl ?_
    refine r_goto C 19 dX4_move_6 (by decide) ?_
    exact r_reti (x := (0 : Int32)) (rv := (fun u => some (.int u))) (hpE := (fun u => w_X4 Y)) (t0 := (0 : Int32)) C dX4_move_19 (by rfl) (by rfl) (by rfl)
  · refine r_aload_n C 0 dX4_move_9 rfl ?_
    refine r_get C 0 3 dX4_move_10 K_X4 rfl rfl (Nat.le_of_ble_eq_true rfl) rfl m_105 rfl ?_
    refine r_iload_n C 2 dX4_move_13 rfl ?_
    refine r_iconst C (1) dX4_move_14 rfl ?_
    refine r_iadd C dX4_move_15 ?_
    refine r_gix (fun hi16 => ?_)
    refine r_cut (q_knw (u0 := (Y.2 3 (a2 + (1 : Int32)).toNatClampNeg)) (q_kix hi16)) ?_
    refine r_callS C (o_X4_at l 9 (by decide) (Y.2 3) (a2 + (1 : Int32))) v_X4_at m_461 [4] [.ref 54, .int (a2 + (1 : Int32))] [] (fun u1 => [.int u1]) (fun u1 => w_X4 Y) rfl rfl rfl rfl rfl (Nat.le_of_ble_eq_true rfl) ⟨(Nat.le_of_ble_eq_true rfl), (Nat.le_of_ble_eq_true rfl)⟩ ⟨Nat.zero_le _, Nat.zero_le _⟩ dX4_move_16 (fun _ => rfl) (fun _ => rfl) (fun _ => rfl) (fun u1 => ?_)
    refine r_kn (fun hu16 => ?_)
    subst hu16
    exact r_reti (x := (Y.2 3 (a2 + (1 : Int32)).toNatClampNeg)) (rv := (fun u => some (.int u))) (hpE := (fun u => w_X4 Y)) (t0 := (Y.2 3 (a2 + (1 : Int32)).toNatClampNeg)) C dX4_move_19 (by rfl) (by rfl) (by rfl)
set_option maxRecDepth 100000 in
set_option maxHeartbeats 4000000 in
theorem k_X4_firstBest_25 {p : Program} {l : Launch} {e : Env} {s : State} {m : MethodId} {args : Array Value} {below : List Frame} {meth : Method} {c : Code} {dC : Nat → ClassId} {dI : Nat → Nat → Nat} {dA : Nat → ClassId} {A : Nat → Prop} {α : Nat → Nat} {t : Int32} (C : q_Cx p s m args meth c cX4_firstBest 9 RX4 (some .int) "firstBest" dC dI dA A α) (Y : q_St) (B : q_St) (a2 : Int32) (a3 : Int32) (a4 : Int32) (r13 : Int32 → Int32 → Int32 → Int32 → Int32 → Option (Int32))
    (hr13 : ∀ (x2 : Int32) (x3 : Int32) (x4 : Int32) (x5 : Int32) (x6 : Int32), q_S p l e (q_rm 4 91) s m args below meth c 9 dC dI dA A α (MQ below (q_Q α dC dI dA A ((fun u => some (.int u)) t) ((fun u => w_X4X0 Y B) t)) args s 0 0 A) 0 0 (r13 x2 x3 x4 x5 x6) t 13 [(0, .ref 50), (1, .ref 57), (2, .int x2), (3, .int x3), (4, .int x4), (5, .int x5), (6, .int x6)] [] (w_X4X0 Y B)) : ∀ (n : Nat) (x2 : Int32) (x3 : Int32) (x4 : Int32) (x5 : Int32) (x6 : Int32) (x7 : Int32), q_S p l e (q_rm 4 91) s m args below meth c 9 dC dI dA A α (MQ below (q_Q α dC dI dA A ((fun u => some (.int u)) t) ((fun u => w_X4X0 Y B) t)) args s 0 0 A) 0 0 (f_X4_firstBest_25 Y B a2 a3 a4 r13 n x2 x3 x4 x5 x6 x7) t 25 [(0, .ref 50), (1, .ref 57), (2, .int x2), (3, .int x3), (4, .int x4), (5, .int x5), (6, .int x6), (7, .int x7)] [] (w_X4X0 Y B) := by
  intro n
  induction n with
  | zero =>
    intro x2 x3 x4 x5 x6 x7
    exact r_cut (f_X4_firstBest_25.eq_1 _ _ _ _ _ _ _ _ _ _ _ _) (r_none True.intro)
  | succ n ih =>
    intro x2 x3 x4 x5 x6 x7
    refine r_cut (f_X4_firstBest_25.eq_2 _ _ _ _ _ _ _ _ _ _ _ _ _) ?_
    refine r_iload C 7 dX4_firstBest_25 rfl ?_
    refine r_aload_n C 1 dX4_firstBest_27 rfl ?_
    refine r_get C 7 0 dX4_firstBest_28 K_X0 rfl rfl (Nat.le_of_ble_eq_true rfl) rfl m_32 rfl ?_
    refine r_icmp_ge C 97 dX4_firstBest_31 (by decide) (fun h31 => ?_) (fun h31 => ?_)
    · refine r_iinc C 6 (x6 + 1) [(6, .int (x6 + 1)), (0, .ref 50), (1, .ref 57), (2, .int x2), (3, .int x3), (4, .int x4), (5, .int x5), (7, .int x7)] dX4_firstBest_97 rfl rfl (Nat.le_of_ble_eq_true rfl) rfl ?_
      refine r_goto C 13 dX4_firstBest_100 (by decide) ?_
      refine r_lv [(0, .ref 50), (1, .ref 57), (2, .int x2), (3, .int x3), (4, .int x4), (5, .int x5), (6, .int (x6 + 1))] [1, 2, 3, 4, 5, 6, 0] rfl ?_
      exact hr13 x2 x3 x4 x5 (x6 + 1)
    · refine r_aload_n C 0 dX4_firstBest_34 rfl ?_
      refine r_iload_n C 2 dX4_firstBest_35 rfl ?_
      refine r_iconst C (1) dX4_firstBest_36 rfl ?_
      refine r_iadd C dX4_firstBest_37 ?_
      refine r_iload C 6 dX4_firstBest_38 rfl ?_
      refine r_iload C 7 dX4_firstBest_40 rfl ?_
      refine r_callV C (o_X4_worthFrom l Y (x2 + (1 : Int32)) x6 x7) v_X4_worthFrom m_467 [0, 1, 2, 3, 4, 5, 6] [.int (x2 + (1 : Int32)), .int x6, .int x7] [] (50) (Or.inl ⟨0, 3, _, TX4, 6, rfl, rfl, rfl⟩) (fun u3 => [.int u3]) (fun u3 => w_X4X0 Y B) rfl rfl rfl rfl rfl (Nat.le_of_ble_eq_true rfl) ⟨(Nat.le_of_ble_eq_true rfl), (Nat.le_of_ble_eq_true rfl)⟩ ⟨Nat.zero_le _, Nat.zero_le _⟩ dX4_firstBest_42 (fun _ => rfl) (fun _ => rfl) (fun _ => rfl) (fun u3 => ?_)
      refine r_aload_n C 0 dX4_firstBest_45 rfl ?_
      refine r_iload_n C 3 dX4_firstBest_46 rfl ?_
      refine r_iload C 6 dX4_firstBest_47 rfl ?_
      refine r_callV C (o_X4_move l Y x3 x6) v_X4_move m_484 [0, 1, 2, 3, 4, 5, 6] [.int x3, .int x6] [.int u3] (50) (Or.inl ⟨0, 3, _, TX4, 6, rfl, rfl, rfl⟩) (fun u4 => [.int u4, .int u3]) (fun u4 => w_X4X0 Y B) rfl rfl rfl rfl rfl (Nat.le_of_ble_eq_true rfl) ⟨(Nat.le_of_ble_eq_true rfl), (Nat.le_of_ble_eq_true rfl)⟩ ⟨Nat.zero_le _, Nat.zero_le _⟩ dX4_firstBest_49 (fun _ => rfl) (fun _ => rfl) (fun _ => rfl) (fun u4 => ?_)
      refine r_iadd C dX4_firstBest_52 ?_
      refine r_aload_n C 0 dX4_firstBest_53 rfl ?_
      refine r_iload C 4 dX4_firstBest_54 rfl ?_
      refine r_iload C 7 dX4_firstBest_56 rfl ?_
      refine r_callV C (o_X4_move l Y x4 x7) v_X4_move m_484 [0, 1, 2, 3, 4, 5, 6] [.int x4, .int x7] [.int (u3 + u4)] (50) (Or.inl ⟨0, 3, _, TX4, 6, rfl, rfl, rfl⟩) (fun u5 => [.int u5, .int (u3 + u4)]) (fun u5 => w_X4X0 Y B) rfl rfl rfl rfl rfl (Nat.le_of_ble_eq_true rfl) ⟨(Nat.le_of_ble_eq_true rfl), (Nat.le_of_ble_eq_true rfl)⟩ ⟨Nat.zero_le _, Nat.zero_le _⟩ dX4_firstBest_58 (fun _ => rfl) (fun _ => rfl) (fun _ => rfl) (fun u5 => ?_)
      refine r_iadd C dX4_firstBest_61 ?_
      refine r_istore C [(8, .int ((u3 + u4) + u5)), (0, .ref 50), (1, .ref 57), (2, .int x2), (3, .int x3), (4, .int x4), (5, .int x5), (6, .int x6), (7, .int x7)] dX4_firstBest_62 (Nat.le_of_ble_eq_true rfl) rfl ?_
      refine r_iload C 0 dX4_firstBest_64 rfl ?_
      refine r_iload C 6 dX4_firstBest_66 rfl ?_
      refine r_icmp_ne C 91 dX4_firstBest_68 (by decide) (fun h68 => ?_) (fun h68 => ?_)
      · refine r_aload_n C 2 dX4_firstBest_71 rfl ?_
        refine r_iload_n C 3 dX4_firstBest_72 rfl ?_
        refine r_iload C 7 dX4_firstBest_73 rfl ?_
        refine r_iload C 8 dX4_firstBest_75 rfl ?_
        refine r_callV C (o_X0_isSuited l B x2 x6 x7) v_X0_isSuited m_488 [7, 8, 9, 10, 11, 12, 13] [.int x2, .int x6, .int x7] [] (57) (Or.inl ⟨7, 0, _, TX0, 16, rfl, rfl, rfl⟩) (fun u6 => [.int u6]) (fun u6 => w_X4X0 Y B) rfl rfl rfl rfl rfl (Nat.le_of_ble_eq_true rfl) ⟨(Nat.le_of_ble_eq_true rfl), (Nat.le_of_ble_eq_true rfl)⟩ ⟨Nat.zero_le _, Nat.zero_le _⟩ dX4_firstBest_77 (fun _ => rfl) (fun _ => rfl) (fun _ => rfl) (fun u6 => ?_)
        refine r_if_eq C 91 dX4_firstBest_80 (by decide) (fun h80 => ?_) (fun h80 => ?_)
        · refine r_iinc C 8 (x7 + 1) [(7, .int (x7 + 1)), (8, .int ((u3 + u4) + u5)), (0, .ref 50), (1, .ref 57), (2, .int x2), (3, .int x3), (4, .int x4), (5, .int x5), (6, .int x6)] dX4_firstBest_91 rfl rfl (Nat.le_of_ble_eq_true rfl) rfl ?_
          refine r_goto C 25 dX4_firstBest_94 (by decide) ?_
          refine r_lv [(0, .ref 50), (1, .ref 57), (2, .int x2), (3, .int x3), (4, .int x4), (5, .int x5), (6, .int x6), (7, .int (x7 + 1))] [2, 3, 4, 5, 6, 7, 8, 0] rfl ?_
          exact ih x2 x3 x4 x5 x6 (x7 + 1)
        · refine r_iload C 7 dX4_firstBest_83 rfl ?_
          refine r_iload C 8 dX4_firstBest_85 rfl ?_
          refine r_callS C (o_X4_place l x6 x7) v_X4_place m_458 [] [.int x6, .int x7] [] (fun u7 => [.int u7]) (fun u7 => w_X4X0 Y B) rfl rfl rfl rfl rfl (Nat.le_of_ble_eq_true rfl) ⟨(Nat.le_of_ble_eq_true rfl), (Nat.le_of_ble_eq_true rfl)⟩ ⟨Nat.zero_le _, Nat.zero_le _⟩ dX4_firstBest_87 (fun _ => rfl) (fun _ => rfl) (fun _ => rfl) (fun u7 => ?_)
          exact r_reti (x := u7) (rv := (fun u => some (.int u))) (hpE := (fun u => w_X4X0 Y B)) (t0 := u7) C dX4_firstBest_90 (by rfl) (by rfl) (by rfl)
      · refine r_iinc C 8 (x7 + 1) [(7, .int (x7 + 1)), (8, .int ((u3 + u4) + u5)), (0, .ref 50), (1, .ref 57), (2, .int x2), (3, .int x3), (4, .int x4), (5, .int x5), (6, .int x6)] dX4_firstBest_91 rfl rfl (Nat.le_of_ble_eq_true rfl) rfl ?_
        refine r_goto C 25 dX4_firstBest_94 (by decide) ?_
        refine r_lv [(0, .ref 50), (1, .ref 57), (2, .int x2), (3, .int x3), (4, .int x4), (5, .int x5), (6, .int x6), (7, .int (x7 + 1))] [2, 3, 4, 5, 6, 7, 8, 0] rfl ?_
        exact ih x2 x3 x4 x5 x6 (x7 + 1)
set_option maxRecDepth 100000 in
set_option maxHeartbeats 4000000 in
theorem k_X4_firstBest_13 {p : Program} {l : Launch} {e : Env} {s : State} {m : MethodId} {args : Array Value} {below : List Frame} {meth : Method} {c : Code} {dC : Nat → ClassId} {dI : Nat → Nat → Nat} {dA : Nat → ClassId} {A : Nat → Prop} {α : Nat → Nat} {t : Int32} (C : q_Cx p s m args meth c cX4_firstBest 9 RX4 (some .int) "firstBest" dC dI dA A α) (Y : q_St) (B : q_St) (a2 : Int32) (a3 : Int32) (a4 : Int32)  : ∀ (n : Nat) (x2 : Int32) (x3 : Int32) (x4 : Int32) (x5 : Int32) (x6 : Int32), q_S p l e (q_rm 4 91) s m args below meth c 9 dC dI dA A α (MQ below (q_Q α dC dI dA A ((fun u => some (.int u)) t) ((fun u => w_X4X0 Y B) t)) args s 0 0 A) 0 0 (f_X4_firstBest_13 Y B a2 a3 a4  n x2 x3 x4 x5 x6) t 13 [(0, .ref 50), (1, .ref 57), (2, .int x2), (3, .int x3), (4, .int x4), (5, .int x5), (6, .int x6)] [] (w_X4X0 Y B) := by
  intro n
  induction n with
  | zero =>
    intro x2 x3 x4 x5 x6
    exact r_cut (f_X4_firstBest_13.eq_1 _ _ _ _ _ _ _ _ _ _) (r_none True.intro)
  | succ n ih =>
    intro x2 x3 x4 x5 x6
    refine r_cut (f_X4_firstBest_13.eq_2 _ _ _ _ _ _ _ _ _ _ _) ?_
    refine r_iload C 6 dX4_firstBest_13 rfl ?_
    refine r_aload_n C 1 dX4_firstBest_15 rfl ?_
    refine r_get C 7 0 dX4_firstBest_16 K_X0 rfl rfl (Nat.le_of_ble_eq_true rfl) rfl m_32 rfl ?_
    refine r_icmp_ge C 103 dX4_firstBest_19 (by decide) (fun h19 => ?_) (fun h19 => ?_)
    · refine r_iload_n C 3 dX4_firstBest_103 rfl ?_
      refine r_iload C 4 dX4_firstBest_104 rfl ?_
      refine r_callS C (o_X4_place l x3 x4) v_X4_place m_458 [] [.int x3, .int x4] [] (fun u2 => [.int u2]) (fun u2 => w_X4X0 Y B) rfl rfl rfl rfl rfl (Nat.le_of_ble_eq_true rfl) ⟨(Nat.le_of_ble_eq_true rfl), (Nat.le_of_ble_eq_true rfl)⟩ ⟨Nat.zero_le _, Nat.zero_le _⟩ dX4_firstBest_106 (fun _ => rfl) (fun _ => rfl) (fun _ => rfl) (fun u2 => ?_)
      exact r_reti (x := u2) (rv := (fun u => some (.int u))) (hpE := (fun u => w_X4X0 Y B)) (t0 := u2) C dX4_firstBest_109 (by rfl) (by rfl) (by rfl)
    · refine r_iconst C (-1) dX4_firstBest_22 rfl ?_
      refine r_istore C [(7, .int (-1 : Int32)), (0, .ref 50), (1, .ref 57), (2, .int x2), (3, .int x3), (4, .int x4), (5, .int x5), (6, .int x6)] dX4_firstBest_23 (Nat.le_of_ble_eq_true rfl) rfl ?_
      refine r_lv [(0, .ref 50), (1, .ref 57), (2, .int x2), (3, .int x3), (4, .int x4), (5, .int x5), (6, .int x6), (7, .int (-1 : Int32))] [1, 2, 3, 4, 5, 6, 7, 0] rfl ?_
      exact k_X4_firstBest_25 C Y B a2 a3 a4 (fun x2 x3 x4 x5 x6 => f_X4_firstBest_13 Y B a2 a3 a4  n x2 x3 x4 x5 x6) ih q_N x2 x3 x4 x5 x6 (-1 : Int32)
set_option maxRecDepth 100000 in
set_option maxHeartbeats 4000000 in
theorem o_X4_firstBest (l : Launch) (Y : q_St) (B : q_St) (a2 : Int32) (a3 : Int32) (a4 : Int32) : q_Ok l yX4_firstBest cX4_firstBest 9 (some .int) 4 91 [.ref 50, .ref 57, .int a2, .int a3, .int a4] (w_X4X0 Y B) (f_X4_firstBest Y B a2 a3 a4) (fun u => some (.int u)) (fun u => w_X4X0 Y B) := by
  refine q_enter (by decide +kernel) (Nat.le_of_ble_eq_true rfl) (fun t p e s m args below meth c dC dI dA A α C => ?_)
  refine r_cut (f_X4_firstBest.eq_1 _ _ _ _ _) ?_
  show q_S p l e (q_rm 4 91) s m args below meth c 9 dC dI dA A α (MQ below (q_Q α dC dI dA A ((fun u => some (.int u)) t) ((fun u => w_X4X0 Y B) t)) args s 0 0 A) 0 0 _ t 0 [(0, .ref 50), (1, .ref 57), (2, .int a2), (3, .int a3), (4, .int a4)] [] (w_X4X0 Y B)
  refine r_aload_n C 0 dX4_firstBest_0 rfl ?_
  refine r_iload_n C 2 dX4_firstBest_1 rfl ?_
  refine r_iload_n C 3 dX4_firstBest_2 rfl ?_
  refine r_iload C 4 dX4_firstBest_3 rfl ?_
  refine r_callV C (o_X4_worthFrom l Y a2 a3 a4) v_X4_worthFrom m_467 [0, 1, 2, 3, 4, 5, 6] [.int a2, .int a3, .int a4] [] (50) (Or.inl ⟨0, 3, _, TX4, 6, rfl, rfl, rfl⟩) (fun u1 => [.int u1]) (fun u1 => w_X4X0 Y B) rfl rfl rfl rfl rfl (Nat.le_of_ble_eq_true rfl) ⟨(Nat.le_of_ble_eq_true rfl), (Nat.le_of_ble_eq_true rfl)⟩ ⟨Nat.zero_le _, Nat.zero_le _⟩ dX4_firstBest_5 (fun _ => rfl) (fun _ => rfl) (fun _ => rfl) (fun u1 => ?_)
  refine r_istore C [(5, .int u1), (0, .ref 50), (1, .ref 57), (2, .int a2), (3, .int a3), (4, .int a4)] dX4_firstBest_8 (Nat.le_of_ble_eq_true rfl) rfl ?_
  refine r_iconst C (-1) dX4_firstBest_10 rfl ?_
  refine r_istore C [(6, .int (-1 : Int32)), (5, .int u1), (0, .ref 50), (1, .ref 57), (2, .int a2), (3, .int a3), (4, .int a4)] dX4_firstBest_11 (Nat.le_of_ble_eq_true rfl) rfl ?_
  refine r_lv [(0, .ref 50), (1, .ref 57), (2, .int a2), (3, .int a3), (4, .int a4), (5, .int u1), (6, .int (-1 : Int32))] [2, 3, 4, 5, 6, 1, 0] rfl ?_
  exact k_X4_firstBest_13 C Y B a2 a3 a4   q_N a2 a3 a4 u1 (-1 : Int32)
set_option maxRecDepth 100000 in
set_option maxHeartbeats 4000000 in
theorem k_X4_follow_21 {p : Program} {l : Launch} {e : Env} {s : State} {m : MethodId} {args : Array Value} {below : List Frame} {meth : Method} {c : Code} {dC : Nat → ClassId} {dI : Nat → Nat → Nat} {dA : Nat → ClassId} {A : Nat → Prop} {α : Nat → Nat} {t : q_St} (C : q_Cx p s m args meth c cX4_follow 7 RX4 none "follow" dC dI dA A α) (Y : q_St) (B : q_St) (a2 : Int32)  : ∀ (n : Nat) (x3 : Int32) (x4 : Int32) (x5 : Int32) (Y' : q_St), q_S p l e (q_rm 5 121) s m args below meth c 7 dC dI dA A α (MQ below (q_Q α dC dI dA A ((fun _ => none) t) ((fun u => w_X4X0 u B) t)) args s 0 0 A) 0 0 (f_X4_follow_21 Y B a2  n x3 x4 x5 Y') t 21 [(0, .ref 50), (1, .ref 57), (3, .int x3), (4, .int x4), (5, .int x5)] [] (w_X4X0 Y' B) := by
  intro n
  induction n with
  | zero =>
    intro x3 x4 x5 Y'
    exact r_cut (f_X4_follow_21.eq_1 _ _ _ _ _ _ _) (r_none True.intro)
  | succ n ih =>
    intro x3 x4 x5 Y'
    refine r_cut (f_X4_follow_21.eq_2 _ _ _ _ _ _ _ _) ?_
    refine r_iload C 4 dX4_follow_21 rfl ?_
    refine r_aload_n C 1 dX4_follow_23 rfl ?_
    refine r_get C 7 1 dX4_follow_24 K_X0 rfl rfl (Nat.le_of_ble_eq_true rfl) rfl m_33 rfl ?_
    refine r_icmp_ge C 86 dX4_follow_27 (by decide) (fun h27 => ?_) (fun h27 => ?_)
    · exact r_retv (rv := (fun _ => none)) (hpE := (fun u => w_X4X0 u B)) (t0 := Y') C dX4_follow_86 (by rfl) (by rfl) (by rfl)
    · refine r_aload_n C 0 dX4_follow_30 rfl ?_
      refine r_aload_n C 1 dX4_follow_31 rfl ?_
      refine r_iload C 4 dX4_follow_32 rfl ?_
      refine r_iload_n C 2 dX4_follow_34 rfl ?_
      refine r_iload C 3 dX4_follow_35 rfl ?_
      refine r_callV0 C (o_X4_firstBest l Y' B x5 x3 x4) v_X4_firstBest m_480 [.ref 57, .int x5, .int x3, .int x4] [] (50) (Or.inl ⟨0, 3, _, TX4, 6, rfl, rfl, rfl⟩) (fun u2 => [.int u2]) (fun u2 => w_X4X0 Y' B) rfl rfl rfl (Nat.le_of_ble_eq_true rfl) ⟨(Nat.le_of_ble_eq_true rfl), (Nat.le_of_ble_eq_true rfl)⟩ ⟨Nat.zero_le _, Nat.zero_le _⟩ dX4_follow_37 (fun _ => rfl) (fun _ => rfl) (fun _ => rfl) (fun u2 => ?_)
      refine r_istore C [(6, .int u2), (0, .ref 50), (1, .ref 57), (3, .int x3), (4, .int x4), (5, .int x5)] dX4_follow_40 (Nat.le_of_ble_eq_true rfl) rfl ?_
      refine r_iload C 0 dX4_follow_42 rfl ?_
      refine r_bipush C (9) dX4_follow_44 rfl ?_
      refine r_idiv C dX4_follow_46 (by decide) ?_
      refine r_iconst C (1) dX4_follow_47 rfl ?_
      refine r_isub C dX4_follow_48 ?_
      refine r_istore_n C [(3, .int ((u2 / (9 : Int32)) - (1 : Int32))), (6, .int u2), (0, .ref 50), (1, .ref 57), (4, .int x4), (5, .int x5)] dX4_follow_49 (Nat.le_of_ble_eq_true rfl) rfl ?_
      refine r_iload C 1 dX4_follow_50 rfl ?_
      refine r_bipush C (9) dX4_follow_52 rfl ?_
      refine r_irem C dX4_follow_54 (by decide) ?_
      refine r_iconst C (1) dX4_follow_55 rfl ?_
      refine r_isub C dX4_follow_56 ?_
      refine r_istore C [(4, .int ((u2 - u2 / (9 : Int32) * (9 : Int32)) - (1 : Int32))), (3, .int ((u2 / (9 : Int32)) - (1 : Int32))), (6, .int u2), (0, .ref 50), (1, .ref 57), (5, .int x5)] dX4_follow_57 (Nat.le_of_ble_eq_true rfl) rfl ?_
      refine r_aload_n C 3 dX4_follow_59 rfl ?_
      refine r_get C 0 4 dX4_follow_60 K_X4 rfl rfl (Nat.le_of_ble_eq_true rfl) rfl m_106 rfl ?_
      refine r_iload C 5 dX4_follow_63 rfl ?_
      refine r_iload_n C 1 dX4_follow_65 rfl ?_
      refine r_gix (fun hi66 => ?_)
      refine r_cut (q_knw (u0 := (upd (Y'.2 4) x5.toNatClampNeg ((u2 / (9 : Int32)) - (1 : Int32)))) (q_kix hi66)) ?_
      refine r_callS C (o_X4_put l 12 (by decide) (Y'.2 4) x5 ((u2 / (9 : Int32)) - (1 : Int32))) v_X4_put m_445 [5] [.ref 55, .int x5, .int ((u2 / (9 : Int32)) - (1 : Int32))] [] (fun u3 => []) (fun u3 => w_X4X0 (Y'.1, (va_up Y'.2 4 u3)) B) rfl rfl rfl rfl rfl (Nat.le_of_ble_eq_true rfl) ⟨(Nat.le_of_ble_eq_true rfl), (Nat.le_of_ble_eq_true rfl)⟩ ⟨Nat.zero_le _, Nat.zero_le _⟩ dX4_follow_66 (fun _ => rfl) (fun _ => rfl) (fun _ => rfl) (fun u3 => ?_)
      refine r_kn (fun hu66 => ?_)
      subst hu66
      refine r_aload_n C 3 dX4_follow_69 rfl ?_
      refine r_get C 0 5 dX4_follow_70 K_X4 rfl rfl (Nat.le_of_ble_eq_true rfl) rfl m_107 rfl ?_
      refine r_iload C 5 dX4_follow_73 rfl ?_
      refine r_iload C 0 dX4_follow_75 rfl ?_
      refine r_gix (fun hi77 => ?_)
      refine r_cut (q_knw (u0 := (upd (Y'.2 5) x5.toNatClampNeg ((u2 - u2 / (9 : Int32) * (9 : Int32)) - (1 : Int32)))) (q_kix hi77)) ?_
      refine r_callS C (o_X4_put l 12 (by decide) (Y'.2 5) x5 ((u2 - u2 / (9 : Int32) * (9 : Int32)) - (1 : Int32))) v_X4_put m_445 [6] [.ref 56, .int x5, .int ((u2 - u2 / (9 : Int32) * (9 : Int32)) - (1 : Int32))] [] (fun u4 => []) (fun u4 => w_X4X0 (Y'.1, (va_up (va_up Y'.2 4 (upd (Y'.2 4) x5.toNatClampNeg ((u2 / (9 : Int32)) - (1 : Int32)))) 5 u4)) B) rfl rfl rfl rfl rfl (Nat.le_of_ble_eq_true rfl) ⟨(Nat.le_of_ble_eq_true rfl), (Nat.le_of_ble_eq_true rfl)⟩ ⟨Nat.zero_le _, Nat.zero_le _⟩ dX4_follow_77 (fun _ => rfl) (fun _ => rfl) (fun _ => rfl) (fun u4 => ?_)
      refine r_kn (fun hu77 => ?_)
      subst hu77
      refine r_iinc C 5 (x5 + 1) [(5, .int (x5 + 1)), (4, .int ((u2 - u2 / (9 : Int32) * (9 : Int32)) - (1 : Int32))), (3, .int ((u2 / (9 : Int32)) - (1 : Int32))), (6, .int u2), (0, .ref 50), (1, .ref 57)] dX4_follow_80 rfl rfl (Nat.le_of_ble_eq_true rfl) rfl ?_
      refine r_goto C 21 dX4_follow_83 (by decide) ?_
      refine r_lv [(0, .ref 50), (1, .ref 57), (3, .int ((u2 / (9 : Int32)) - (1 : Int32))), (4, .int ((u2 - u2 / (9 : Int32) * (9 : Int32)) - (1 : Int32))), (5, .int (x5 + 1))] [4, 5, 2, 1, 0] rfl ?_
      exact ih ((u2 / (9 : Int32)) - (1 : Int32)) ((u2 - u2 / (9 : Int32) * (9 : Int32)) - (1 : Int32)) (x5 + 1) (Y'.1, (va_up (va_up Y'.2 4 (upd (Y'.2 4) x5.toNatClampNeg ((u2 / (9 : Int32)) - (1 : Int32)))) 5 (upd (Y'.2 5) x5.toNatClampNeg ((u2 - u2 / (9 : Int32) * (9 : Int32)) - (1 : Int32)))))
set_option maxRecDepth 100000 in
set_option maxHeartbeats 4000000 in
theorem o_X4_follow (l : Launch) (Y : q_St) (B : q_St) (a2 : Int32) : q_Ok l yX4_follow cX4_follow 7 none 5 121 [.ref 50, .ref 57, .int a2] (w_X4X0 Y B) (f_X4_follow Y B a2) (fun _ => none) (fun u => w_X4X0 u B) := by
  refine q_enter (by decide +kernel) (Nat.le_of_ble_eq_true rfl) (fun t p e s m args below meth c dC dI dA A α C => ?_)
  refine r_cut (f_X4_follow.eq_1 _ _ _) ?_
  show q_S p l e (q_rm 5 121) s m args below meth c 7 dC dI dA A α (MQ below (q_Q α dC dI dA A ((fun _ => none) t) ((fun u => w_X4X0 u B) t)) args s 0 0 A) 0 0 _ t 0 [(0, .ref 50), (1, .ref 57), (2, .int a2)] [] (w_X4X0 Y B)
  refine r_aload_n C 0 dX4_follow_0 rfl ?_
  refine r_aload_n C 1 dX4_follow_1 rfl ?_
  refine r_iload_n C 2 dX4_follow_2 rfl ?_
  refine r_callV0 C (o_X4_worth l Y B a2) v_X4_worth m_479 [.ref 57, .int a2] [] (50) (Or.inl ⟨0, 3, _, TX4, 6, rfl, rfl, rfl⟩) (fun u1 => [.int u1.1]) (fun u1 => w_X4X0 u1.2 B) rfl rfl rfl (Nat.le_of_ble_eq_true rfl) ⟨(Nat.le_of_ble_eq_true rfl), (Nat.le_of_ble_eq_true rfl)⟩ ⟨Nat.zero_le _, Nat.zero_le _⟩ dX4_follow_3 (fun _ => rfl) (fun _ => rfl) (fun _ => rfl) (fun u1 => ?_)
  refine r_pop C dX4_follow_6 rfl ?_
  refine r_aload_n C 1 dX4_follow_7 rfl ?_
  refine r_get C 7 2 dX4_follow_8 K_X0 rfl rfl (Nat.le_of_ble_eq_true rfl) rfl m_38 rfl ?_
  refine r_istore_n C [(3, .int (B.1 2)), (0, .ref 50), (1, .ref 57), (2, .int a2)] dX4_follow_11 (Nat.le_of_ble_eq_true rfl) rfl ?_
  refine r_aload_n C 2 dX4_follow_12 rfl ?_
  refine r_get C 7 3 dX4_follow_13 K_X0 rfl rfl (Nat.le_of_ble_eq_true rfl) rfl m_41 rfl ?_
  refine r_istore C [(4, .int (B.1 3)), (3, .int (B.1 2)), (0, .ref 50), (1, .ref 57), (2, .int a2)] dX4_follow_16 (Nat.le_of_ble_eq_true rfl) rfl ?_
  refine r_iconst C (0) dX4_follow_18 rfl ?_
  refine r_istore C [(5, .int (0 : Int32)), (4, .int (B.1 3)), (3, .int (B.1 2)), (0, .ref 50), (1, .ref 57), (2, .int a2)] dX4_follow_19 (Nat.le_of_ble_eq_true rfl) rfl ?_
  refine r_lv [(0, .ref 50), (1, .ref 57), (3, .int (B.1 2)), (4, .int (B.1 3)), (5, .int (0 : Int32))] [3, 4, 2, 1, 0] rfl ?_
  exact k_X4_follow_21 C Y B a2   q_N (B.1 2) (B.1 3) (0 : Int32) u1.2
set_option maxRecDepth 100000 in
set_option maxHeartbeats 4000000 in
theorem o_X4_leftIn (l : Launch) (Y : q_St) (a1 : Int32) : q_Ok l yX4_leftIn cX4_leftIn 2 (some .int) 0 0 [.ref 50, .int a1] (w_X4 Y) (f_X4_leftIn Y a1) (fun u => some (.int u)) (fun u => w_X4 Y) := by
  refine q_enter (by decide +kernel) (Nat.le_of_ble_eq_true rfl) (fun t p e s m args below meth c dC dI dA A α C => ?_)
  refine r_cut (f_X4_leftIn.eq_1 _ _) ?_
  show q_S p l e (q_rm 0 0) s m args below meth c 2 dC dI dA A α (MQ below (q_Q α dC dI dA A ((fun u => some (.int u)) t) ((fun u => w_X4 Y) t)) args s 0 0 A) 0 0 _ t 0 [(0, .ref 50), (1, .int a1)] [] (w_X4 Y)
  refine r_iload_n C 1 dX4_leftIn_0 rfl ?_
  refine r_if_lt C 22 dX4_leftIn_1 (by decide) (fun h1 => ?_) (fun h1 => ?_)
  · refine r_iconst C (-1) dX4_leftIn_22 rfl ?_
    exact r_reti (x := (-1 : Int32)) (rv := (fun u => some (.int u))) (hpE := (fun u => w_X4 Y)) (t0 := (-1 : Int32)) C dX4_leftIn_23 (by rfl) (by rfl) (by rfl)
  · refine r_iload_n C 1 dX4_leftIn_4 rfl ?_
    refine r_aload_n C 0 dX4_leftIn_5 rfl ?_
    refine r_get C 0 4 dX4_leftIn_6 K_X4 rfl rfl (Nat.le_of_ble_eq_true rfl) rfl m_106 rfl ?_
    refine r_alen C 5 (12) dX4_leftIn_9 rfl rfl rfl rfl ?_
    refine r_icmp_ge C 22 dX4_leftIn_10 (by decide) (fun h10 => ?_) (fun h10 => ?_)
    · refine r_iconst C (-1) dX4_leftIn_22 rfl ?_
      exact r_reti (x := (-1 : Int32)) (rv := (fun u => some (.int u))) (hpE := (fun u => w_X4 Y)) (t0 := (-1 : Int32)) C dX4_leftIn_23 (by rfl) (by rfl) (by rfl)
    · refine r_aload_n C 0 dX4_leftIn_13 rfl ?_
      refine r_get C 0 4 dX4_leftIn_14 K_X4 rfl rfl (Nat.le_of_ble_eq_true rfl) rfl m_106 rfl ?_
      refine r_iload_n C 1 dX4_leftIn_17 rfl ?_
      refine r_iald C 5 dX4_leftIn_18 rfl rfl (fun hi18 => ?_)
      refine r_goto C 23 dX4_leftIn_19 (by decide) ?_
      exact r_reti (x := (Y.2 4 a1.toNatClampNeg)) (rv := (fun u => some (.int u))) (hpE := (fun u => w_X4 Y)) (t0 := (Y.2 4 a1.toNatClampNeg)) C dX4_leftIn_23 (by rfl) (by rfl) (by rfl)
set_option maxRecDepth 100000 in
set_option maxHeartbeats 4000000 in
theorem o_X4_rightIn (l : Launch) (Y : q_St) (a1 : Int32) : q_Ok l yX4_rightIn cX4_rightIn 2 (some .int) 0 0 [.ref 50, .int a1] (w_X4 Y) (f_X4_rightIn Y a1) (fun u => some (.int u)) (fun u => w_X4 Y) := by
  refine q_enter (by decide +kernel) (Nat.le_of_ble_eq_true rfl) (fun t p e s m args below meth c dC dI dA A α C => ?_)
  refine r_cut (f_X4_rightIn.eq_1 _ _) ?_
  show q_S p l e (q_rm 0 0) s m args below meth c 2 dC dI dA A α (MQ below (q_Q α dC dI dA A ((fun u => some (.int u)) t) ((fun u => w_X4 Y) t)) args s 0 0 A) 0 0 _ t 0 [(0, .ref 50), (1, .int a1)] [] (w_X4 Y)
  refine r_iload_n C 1 dX4_rightIn_0 rfl ?_
  refine r_if_lt C 22 dX4_rightIn_1 (by decide) (fun h1 => ?_) (fun h1 => ?_)
  · refine r_iconst C (-1) dX4_rightIn_22 rfl ?_
    exact r_reti (x := (-1 : Int32)) (rv := (fun u => some (.int u))) (hpE := (fun u => w_X4 Y)) (t0 := (-1 : Int32)) C dX4_rightIn_23 (by rfl) (by rfl) (by rfl)
  · refine r_iload_n C 1 dX4_rightIn_4 rfl ?_
    refine r_aload_n C 0 dX4_rightIn_5 rfl ?_
    refine r_get C 0 5 dX4_rightIn_6 K_X4 rfl rfl (Nat.le_of_ble_eq_true rfl) rfl m_107 rfl ?_
    refine r_alen C 6 (12) dX4_rightIn_9 rfl rfl rfl rfl ?_
    refine r_icmp_ge C 22 dX4_rightIn_10 (by decide) (fun h10 => ?_) (fun h10 => ?_)
    · refine r_iconst C (-1) dX4_rightIn_22 rfl ?_
      exact r_reti (x := (-1 : Int32)) (rv := (fun u => some (.int u))) (hpE := (fun u => w_X4 Y)) (t0 := (-1 : Int32)) C dX4_rightIn_23 (by rfl) (by rfl) (by rfl)
    · refine r_aload_n C 0 dX4_rightIn_13 rfl ?_
      refine r_get C 0 5 dX4_rightIn_14 K_X4 rfl rfl (Nat.le_of_ble_eq_true rfl) rfl m_107 rfl ?_
      refine r_iload_n C 1 dX4_rightIn_17 rfl ?_
      refine r_iald C 6 dX4_rightIn_18 rfl rfl (fun hi18 => ?_)
      refine r_goto C 23 dX4_rightIn_19 (by decide) ?_
      exact r_reti (x := (Y.2 5 a1.toNatClampNeg)) (rv := (fun u => some (.int u))) (hpE := (fun u => w_X4 Y)) (t0 := (Y.2 5 a1.toNatClampNeg)) C dX4_rightIn_23 (by rfl) (by rfl) (by rfl)
set_option maxRecDepth 100000 in
set_option maxHeartbeats 4000000 in
theorem k_X4_leaveOut_2 {p : Program} {l : Launch} {e : Env} {s : State} {m : MethodId} {args : Array Value} {below : List Frame} {meth : Method} {c : Code} {dC : Nat → ClassId} {dI : Nat → Nat → Nat} {dA : Nat → ClassId} {A : Nat → Prop} {α : Nat → Nat} {t : q_St} (C : q_Cx p s m args meth c cX4_leaveOut 5 RX4 none "leaveOut" dC dI dA A α) (Y : q_St) (a1 : Int32)  : ∀ (n : Nat) (x1 : Int32) (x2 : Int32) (Y' : q_St), q_S p l e (q_rm 1 30) s m args below meth c 5 dC dI dA A α (MQ below (q_Q α dC dI dA A ((fun _ => none) t) ((fun u => w_X4 u) t)) args s 0 0 A) 0 0 (f_X4_leaveOut_2 Y a1  n x1 x2 Y') t 2 [(0, .ref 50), (1, .int x1), (2, .int x2)] [] (w_X4 Y') := by
  intro n
  induction n with
  | zero =>
    intro x1 x2 Y'
    exact r_cut (f_X4_leaveOut_2.eq_1 _ _ _ _ _) (r_none True.intro)
  | succ n ih =>
    intro x1 x2 Y'
    refine r_cut (f_X4_leaveOut_2.eq_2 _ _ _ _ _ _) ?_
    refine r_iload_n C 2 dX4_leaveOut_2 rfl ?_
    refine r_bipush C (81) dX4_leaveOut_3 rfl ?_
    refine r_icmp_ge C 55 dX4_leaveOut_5 (by decide) (fun h5 => ?_) (fun h5 => ?_)
    · exact r_retv (rv := (fun _ => none)) (hpE := (fun u => w_X4 u)) (t0 := Y') C dX4_leaveOut_55 (by rfl) (by rfl) (by rfl)
    · refine r_iload_n C 1 dX4_leaveOut_8 rfl ?_
      refine r_bipush C (81) dX4_leaveOut_9 rfl ?_
      refine r_imul C dX4_leaveOut_11 ?_
      refine r_iload_n C 2 dX4_leaveOut_12 rfl ?_
      refine r_iadd C dX4_leaveOut_13 ?_
      refine r_istore_n C [(3, .int ((x1 * (81 : Int32)) + x2)), (0, .ref 50), (1, .int x1), (2, .int x2)] dX4_leaveOut_14 (Nat.le_of_ble_eq_true rfl) rfl ?_
      refine r_aload_n C 1 dX4_leaveOut_15 rfl ?_
      refine r_get C 0 1 dX4_leaveOut_16 K_X4 rfl rfl (Nat.le_of_ble_eq_true rfl) rfl m_103 rfl ?_
      refine r_iload_n C 0 dX4_leaveOut_19 rfl ?_
      refine r_bipush C (81) dX4_leaveOut_20 rfl ?_
      refine r_iadd C dX4_leaveOut_22 ?_
      refine r_gix (fun hi23 => ?_)
      refine r_cut (q_knw (u0 := (Y'.2 1 (((x1 * (81 : Int32)) + x2) + (81 : Int32)).toNatClampNeg)) (q_kix hi23)) ?_
      refine r_callS C (o_X4_at l 1053 (by decide) (Y'.2 1) (((x1 * (81 : Int32)) + x2) + (81 : Int32))) v_X4_at m_461 [2] [.ref 52, .int (((x1 * (81 : Int32)) + x2) + (81 : Int32))] [] (fun u1 => [.int u1]) (fun u1 => w_X4 Y') rfl rfl rfl rfl rfl (Nat.le_of_ble_eq_true rfl) ⟨(Nat.le_of_ble_eq_true rfl), (Nat.le_of_ble_eq_true rfl)⟩ ⟨Nat.zero_le _, Nat.zero_le _⟩ dX4_leaveOut_23 (fun _ => rfl) (fun _ => rfl) (fun _ => rfl) (fun u1 => ?_)
      refine r_kn (fun hu23 => ?_)
      subst hu23
      refine r_istore C [(4, .int (Y'.2 1 (((x1 * (81 : Int32)) + x2) + (81 : Int32)).toNatClampNeg)), (3, .int ((x1 * (81 : Int32)) + x2)), (0, .ref 50), (1, .int x1), (2, .int x2)] dX4_leaveOut_26 (Nat.le_of_ble_eq_true rfl) rfl ?_
      refine r_aload_n C 2 dX4_leaveOut_28 rfl ?_
      refine r_get C 0 0 dX4_leaveOut_29 K_X4 rfl rfl (Nat.le_of_ble_eq_true rfl) rfl m_102 rfl ?_
      refine r_iload_n C 1 dX4_leaveOut_32 rfl ?_
      refine r_aload_n C 2 dX4_leaveOut_33 rfl ?_
      refine r_get C 0 0 dX4_leaveOut_34 K_X4 rfl rfl (Nat.le_of_ble_eq_true rfl) rfl m_102 rfl ?_
      refine r_iload_n C 1 dX4_leaveOut_37 rfl ?_
      refine r_gix (fun hi38 => ?_)
      refine r_cut (q_knw (u0 := (Y'.2 0 ((x1 * (81 : Int32)) + x2).toNatClampNeg)) (q_kix hi38)) ?_
      refine r_callS C (o_X4_at l 1053 (by decide) (Y'.2 0) ((x1 * (81 : Int32)) + x2)) v_X4_at m_461 [1] [.ref 51, .int ((x1 * (81 : Int32)) + x2)] [.int ((x1 * (81 : Int32)) + x2), .ref 51] (fun u2 => [.int u2, .int ((x1 * (81 : Int32)) + x2), .ref 51]) (fun u2 => w_X4 Y') rfl rfl rfl rfl rfl (Nat.le_of_ble_eq_true rfl) ⟨(Nat.le_of_ble_eq_true rfl), (Nat.le_of_ble_eq_true rfl)⟩ ⟨Nat.zero_le _, Nat.zero_le _⟩ dX4_leaveOut_38 (fun _ => rfl) (fun _ => rfl) (fun _ => rfl) (fun u2 => ?_)
      refine r_kn (fun hu38 => ?_)
      subst hu38
      refine r_iload C 0 dX4_leaveOut_41 rfl ?_
      refine r_mmin C dX4_leaveOut_43 m_464 m_465 m_8 m_466 (Nat.le_of_ble_eq_true rfl) (Nat.le_of_ble_eq_true rfl) (Nat.zero_le _) (Nat.zero_le _) ?_
      refine r_gix (fun hi46 => ?_)
      refine r_cut (q_knw (u0 := (upd (Y'.2 0) ((x1 * (81 : Int32)) + x2).toNatClampNeg (if (Y'.2 1 (((x1 * (81 : Int32)) + x2) + (81 : Int32)).toNatClampNeg) < (Y'.2 0 ((x1 * (81 : Int32)) + x2).toNatClampNeg) then (Y'.2 1 (((x1 * (81 : Int32)) + x2) + (81 : Int32)).toNatClampNeg) else (Y'.2 0 ((x1 * (81 : Int32)) + x2).toNatClampNeg)))) (q_kix hi46)) ?_
      refine r_callS C (o_X4_put l 1053 (by decide) (Y'.2 0) ((x1 * (81 : Int32)) + x2) (if (Y'.2 1 (((x1 * (81 : Int32)) + x2) + (81 : Int32)).toNatClampNeg) < (Y'.2 0 ((x1 * (81 : Int32)) + x2).toNatClampNeg) then (Y'.2 1 (((x1 * (81 : Int32)) + x2) + (81 : Int32)).toNatClampNeg) else (Y'.2 0 ((x1 * (81 : Int32)) + x2).toNatClampNeg))) v_X4_put m_445 [1] [.ref 51, .int ((x1 * (81 : Int32)) + x2), .int (if (Y'.2 1 (((x1 * (81 : Int32)) + x2) + (81 : Int32)).toNatClampNeg) < (Y'.2 0 ((x1 * (81 : Int32)) + x2).toNatClampNeg) then (Y'.2 1 (((x1 * (81 : Int32)) + x2) + (81 : Int32)).toNatClampNeg) else (Y'.2 0 ((x1 * (81 : Int32)) + x2).toNatClampNeg))] [] (fun u3 => []) (fun u3 => w_X4 (Y'.1, (va_up Y'.2 0 u3))) rfl rfl rfl rfl rfl (Nat.le_of_ble_eq_true rfl) ⟨(Nat.le_of_ble_eq_true rfl), (Nat.le_of_ble_eq_true rfl)⟩ ⟨Nat.zero_le _, Nat.zero_le _⟩ dX4_leaveOut_46 (fun _ => rfl) (fun _ => rfl) (fun _ => rfl) (fun u3 => ?_)
      refine r_kn (fun hu46 => ?_)
      subst hu46
      refine r_iinc C 4 (x2 + 1) [(2, .int (x2 + 1)), (4, .int (Y'.2 1 (((x1 * (81 : Int32)) + x2) + (81 : Int32)).toNatClampNeg)), (3, .int ((x1 * (81 : Int32)) + x2)), (0, .ref 50), (1, .int x1)] dX4_leaveOut_49 rfl rfl (Nat.le_of_ble_eq_true rfl) rfl ?_
      refine r_goto C 2 dX4_leaveOut_52 (by decide) ?_
      refine r_lv [(0, .ref 50), (1, .int x1), (2, .int (x2 + 1))] [3, 4, 0] rfl ?_
      exact ih x1 (x2 + 1) (Y'.1, (va_up Y'.2 0 (upd (Y'.2 0) ((x1 * (81 : Int32)) + x2).toNatClampNeg (if (Y'.2 1 (((x1 * (81 : Int32)) + x2) + (81 : Int32)).toNatClampNeg) < (Y'.2 0 ((x1 * (81 : Int32)) + x2).toNatClampNeg) then (Y'.2 1 (((x1 * (81 : Int32)) + x2) + (81 : Int32)).toNatClampNeg) else (Y'.2 0 ((x1 * (81 : Int32)) + x2).toNatClampNeg)))))
set_option maxRecDepth 100000 in
set_option maxHeartbeats 4000000 in
theorem o_X4_leaveOut (l : Launch) (Y : q_St) (a1 : Int32) : q_Ok l yX4_leaveOut cX4_leaveOut 5 none 1 30 [.ref 50, .int a1] (w_X4 Y) (f_X4_leaveOut Y a1) (fun _ => none) (fun u => w_X4 u) := by
  refine q_enter (by decide +kernel) (Nat.le_of_ble_eq_true rfl) (fun t p e s m args below meth c dC dI dA A α C => ?_)
  refine r_cut (f_X4_leaveOut.eq_1 _ _) ?_
  show q_S p l e (q_rm 1 30) s m args below meth c 5 dC dI dA A α (MQ below (q_Q α dC dI dA A ((fun _ => none) t) ((fun u => w_X4 u) t)) args s 0 0 A) 0 0 _ t 0 [(0, .ref 50), (1, .int a1)] [] (w_X4 Y)
  refine r_iconst C (0) dX4_leaveOut_0 rfl ?_
  refine r_istore_n C [(2, .int (0 : Int32)), (0, .ref 50), (1, .int a1)] dX4_leaveOut_1 (Nat.le_of_ble_eq_true rfl) rfl ?_
  refine r_lv [(0, .ref 50), (1, .int a1), (2, .int (0 : Int32))] [1, 2, 0] rfl ?_
  exact k_X4_leaveOut_2 C Y a1   q_N a1 (0 : Int32) Y
set_option maxRecDepth 100000 in
set_option maxHeartbeats 4000000 in
theorem k_X4_fewestLeftOut_24 {p : Program} {l : Launch} {e : Env} {s : State} {m : MethodId} {args : Array Value} {below : List Frame} {meth : Method} {c : Code} {dC : Nat → ClassId} {dI : Nat → Nat → Nat} {dA : Nat → ClassId} {A : Nat → Prop} {α : Nat → Nat} {t : Int32 × q_St} (C : q_Cx p s m args meth c cX4_fewestLeftOut 5 RX4 (some .int) "fewestLeftOut" dC dI dA A α) (Y : q_St) (B : q_St) (a2 : Int32) (r8 : Int32 → Int32 → q_St → Option (Int32 × q_St))
    (hr8 : ∀ (x2 : Int32) (x3 : Int32) (Y' : q_St), q_S p l e (q_rm 4 98) s m args below meth c 5 dC dI dA A α (MQ below (q_Q α dC dI dA A ((fun u => some (.int u.1)) t) ((fun u => w_X4X0 u.2 B) t)) args s 0 0 A) 0 0 (r8 x2 x3 Y') t 8 [(0, .ref 50), (1, .ref 57), (2, .int x2), (3, .int x3)] [] (w_X4X0 Y' B)) : ∀ (n : Nat) (x2 : Int32) (x3 : Int32) (x4 : Int32) (Y' : q_St), q_S p l e (q_rm 4 98) s m args below meth c 5 dC dI dA A α (MQ below (q_Q α dC dI dA A ((fun u => some (.int u.1)) t) ((fun u => w_X4X0 u.2 B) t)) args s 0 0 A) 0 0 (f_X4_fewestLeftOut_24 Y B a2 r8 n x2 x3 x4 Y') t 24 [(0, .ref 50), (1, .ref 57), (2, .int x2), (3, .int x3), (4, .int x4)] [] (w_X4X0 Y' B) := by
  intro n
  induction n with
  | zero =>
    intro x2 x3 x4 Y'
    exact r_cut (f_X4_fewestLeftOut_24.eq_1 _ _ _ _ _ _ _ _) (r_none True.intro)
  | succ n ih =>
    intro x2 x3 x4 Y'
    refine r_cut (f_X4_fewestLeftOut_24.eq_2 _ _ _ _ _ _ _ _ _) ?_
    refine r_iload C 4 dX4_fewestLeftOut_24 rfl ?_
    refine r_if_lt C 72 dX4_fewestLeftOut_26 (by decide) (fun h26 => ?_) (fun h26 => ?_)
    · refine r_aload_n C 0 dX4_fewestLeftOut_72 rfl ?_
      refine r_iconst C (0) dX4_fewestLeftOut_73 rfl ?_
      refine r_aload_n C 1 dX4_fewestLeftOut_74 rfl ?_
      refine r_get C 7 2 dX4_fewestLeftOut_75 K_X0 rfl rfl (Nat.le_of_ble_eq_true rfl) rfl m_38 rfl ?_
      refine r_aload_n C 1 dX4_fewestLeftOut_78 rfl ?_
      refine r_get C 7 3 dX4_fewestLeftOut_79 K_X0 rfl rfl (Nat.le_of_ble_eq_true rfl) rfl m_41 rfl ?_
      refine r_callV C (o_X4_worthFrom l Y' (0 : Int32) (B.1 2) (B.1 3)) v_X4_worthFrom m_467 [0, 1, 2, 3, 4, 5, 6] [.int (0 : Int32), .int (B.1 2), .int (B.1 3)] [] (50) (Or.inl ⟨0, 3, _, TX4, 6, rfl, rfl, rfl⟩) (fun u2 => [.int u2]) (fun u2 => w_X4X0 Y' B) rfl rfl rfl rfl rfl (Nat.le_of_ble_eq_true rfl) ⟨(Nat.le_of_ble_eq_true rfl), (Nat.le_of_ble_eq_true rfl)⟩ ⟨Nat.zero_le _, Nat.zero_le _⟩ dX4_fewestLeftOut_82 (fun _ => rfl) (fun _ => rfl) (fun _ => rfl) (fun u2 => ?_)
      refine r_iload_n C 2 dX4_fewestLeftOut_85 rfl ?_
      refine r_icmp_gt C 91 dX4_fewestLeftOut_86 (by decide) (fun h86 => ?_) (fun h86 => ?_)
      · refine r_aload_n C 0 dX4_fewestLeftOut_91 rfl ?_
        refine r_get C 0 0 dX4_fewestLeftOut_92 K_X4 rfl rfl (Nat.le_of_ble_eq_true rfl) rfl m_102 rfl ?_
        refine r_iconst C (0) dX4_fewestLeftOut_95 rfl ?_
        refine r_aload_n C 0 dX4_fewestLeftOut_96 rfl ?_
        refine r_get C 0 1 dX4_fewestLeftOut_97 K_X4 rfl rfl (Nat.le_of_ble_eq_true rfl) rfl m_103 rfl ?_
        refine r_iconst C (0) dX4_fewestLeftOut_100 rfl ?_
        refine r_aload_n C 0 dX4_fewestLeftOut_101 rfl ?_
        refine r_get C 0 0 dX4_fewestLeftOut_102 K_X4 rfl rfl (Nat.le_of_ble_eq_true rfl) rfl m_102 rfl ?_
        refine r_alen C 1 (1053) dX4_fewestLeftOut_105 rfl rfl rfl rfl ?_
        refine r_copy C 1 2 _ dX4_fewestLeftOut_106 m_568 m_507 m_506 m_10 rfl rfl rfl rfl (Nat.le_of_ble_eq_true rfl) (Nat.le_of_ble_eq_true rfl) rfl ?_
        refine r_iinc C 3 (x3 + 1) [(3, .int (x3 + 1)), (0, .ref 50), (1, .ref 57), (2, .int x2), (4, .int x4)] dX4_fewestLeftOut_109 rfl rfl (Nat.le_of_ble_eq_true rfl) rfl ?_
        refine r_goto C 8 dX4_fewestLeftOut_112 (by decide) ?_
        refine r_lv [(0, .ref 50), (1, .ref 57), (2, .int x2), (3, .int (x3 + 1))] [1, 2, 3, 0] rfl ?_
        exact hr8 x2 (x3 + 1) (Y'.1, (va_up Y'.2 1 (va_cpy (Y'.2 0) (Y'.2 1) (0 : Int32).toNatClampNeg (0 : Int32).toNatClampNeg (1053 : Int32).toNatClampNeg)))
      · refine r_iload_n C 3 dX4_fewestLeftOut_89 rfl ?_
        exact r_reti (x := x3) (rv := (fun u => some (.int u.1))) (hpE := (fun u => w_X4X0 u.2 B)) (t0 := (x3, Y')) C dX4_fewestLeftOut_90 (by rfl) (by rfl) (by rfl)
    · refine r_aload_n C 1 dX4_fewestLeftOut_29 rfl ?_
      refine r_iload C 4 dX4_fewestLeftOut_30 rfl ?_
      refine r_callV C (o_X0_isWrong l B x4) v_X0_isWrong m_563 [7, 8, 9, 10, 11, 12, 13] [.int x4] [] (57) (Or.inl ⟨7, 0, _, TX0, 16, rfl, rfl, rfl⟩) (fun u3 => [.int u3]) (fun u3 => w_X4X0 Y' B) rfl rfl rfl rfl rfl (Nat.le_of_ble_eq_true rfl) ⟨(Nat.le_of_ble_eq_true rfl), (Nat.le_of_ble_eq_true rfl)⟩ ⟨Nat.zero_le _, Nat.zero_le _⟩ dX4_fewestLeftOut_32 (fun _ => rfl) (fun _ => rfl) (fun _ => rfl) (fun u3 => ?_)
      refine r_if_eq C 49 dX4_fewestLeftOut_35 (by decide) (fun h35 => ?_) (fun h35 => ?_)
      · refine r_aload_n C 0 dX4_fewestLeftOut_49 rfl ?_
        refine r_aload_n C 1 dX4_fewestLeftOut_50 rfl ?_
        refine r_iload C 4 dX4_fewestLeftOut_51 rfl ?_
        refine r_callV0 C (o_X4_stepBack l Y' B x4) v_X4_stepBack m_452 [.ref 57, .int x4] [] (50) (Or.inl ⟨0, 3, _, TX4, 6, rfl, rfl, rfl⟩) (fun u4 => []) (fun u4 => w_X4X0 u4 B) rfl rfl rfl (Nat.le_of_ble_eq_true rfl) ⟨(Nat.le_of_ble_eq_true rfl), (Nat.le_of_ble_eq_true rfl)⟩ ⟨Nat.zero_le _, Nat.zero_le _⟩ dX4_fewestLeftOut_53 (fun _ => rfl) (fun _ => rfl) (fun _ => rfl) (fun u4 => ?_)
        refine r_iload_n C 3 dX4_fewestLeftOut_56 rfl ?_
        refine r_if_le C 66 dX4_fewestLeftOut_57 (by decide) (fun h57 => ?_) (fun h57 => ?_)
        · refine r_iinc C 4 (x4 + (-1)) [(4, .int (x4 + (-1))), (0, .ref 50), (1, .ref 57), (2, .int x2), (3, .int x3)] dX4_fewestLeftOut_66 rfl rfl (Nat.le_of_ble_eq_true rfl) rfl ?_
          refine r_goto C 24 dX4_fewestLeftOut_69 (by decide) ?_
          refine r_lv [(0, .ref 50), (1, .ref 57), (2, .int x2), (3, .int x3), (4, .int (x4 + (-1)))] [1, 2, 3, 4, 0] rfl ?_
          exact ih x2 x3 (x4 + (-1)) u4
        · refine r_aload_n C 0 dX4_fewestLeftOut_60 rfl ?_
          refine r_iload C 4 dX4_fewestLeftOut_61 rfl ?_
          refine r_callV C (o_X4_leaveOut l u4 x4) v_X4_leaveOut m_564 [0, 1, 2, 3, 4, 5, 6] [.int x4] [] (50) (Or.inl ⟨0, 3, _, TX4, 6, rfl, rfl, rfl⟩) (fun u5 => []) (fun u5 => w_X4X0 u5 B) rfl rfl rfl rfl rfl (Nat.le_of_ble_eq_true rfl) ⟨(Nat.le_of_ble_eq_true rfl), (Nat.le_of_ble_eq_true rfl)⟩ ⟨Nat.zero_le _, Nat.zero_le _⟩ dX4_fewestLeftOut_63 (fun _ => rfl) (fun _ => rfl) (fun _ => rfl) (fun u5 => ?_)
          refine r_iinc C 4 (x4 + (-1)) [(4, .int (x4 + (-1))), (0, .ref 50), (1, .ref 57), (2, .int x2), (3, .int x3)] dX4_fewestLeftOut_66 rfl rfl (Nat.le_of_ble_eq_true rfl) rfl ?_
          refine r_goto C 24 dX4_fewestLeftOut_69 (by decide) ?_
          refine r_lv [(0, .ref 50), (1, .ref 57), (2, .int x2), (3, .int x3), (4, .int (x4 + (-1)))] [1, 2, 3, 4, 0] rfl ?_
          exact ih x2 x3 (x4 + (-1)) u5
      · refine r_aload_n C 0 dX4_fewestLeftOut_38 rfl ?_
        refine r_iload C 4 dX4_fewestLeftOut_39 rfl ?_
        refine r_ldc C (1000000) dX4_fewestLeftOut_41 m_457 ?_
        refine r_callV C (o_X4_fillRow l Y' x4 (1000000 : Int32)) v_X4_fillRow m_448 [0, 1, 2, 3, 4, 5, 6] [.int x4, .int (1000000 : Int32)] [] (50) (Or.inl ⟨0, 3, _, TX4, 6, rfl, rfl, rfl⟩) (fun u6 => []) (fun u6 => w_X4X0 u6 B) rfl rfl rfl rfl rfl (Nat.le_of_ble_eq_true rfl) ⟨(Nat.le_of_ble_eq_true rfl), (Nat.le_of_ble_eq_true rfl)⟩ ⟨Nat.zero_le _, Nat.zero_le _⟩ dX4_fewestLeftOut_43 (fun _ => rfl) (fun _ => rfl) (fun _ => rfl) (fun u6 => ?_)
        refine r_goto C 56 dX4_fewestLeftOut_46 (by decide) ?_
        refine r_iload_n C 3 dX4_fewestLeftOut_56 rfl ?_
        refine r_if_le C 66 dX4_fewestLeftOut_57 (by decide) (fun h57 => ?_) (fun h57 => ?_)
        · refine r_iinc C 4 (x4 + (-1)) [(4, .int (x4 + (-1))), (0, .ref 50), (1, .ref 57), (2, .int x2), (3, .int x3)] dX4_fewestLeftOut_66 rfl rfl (Nat.le_of_ble_eq_true rfl) rfl ?_
          refine r_goto C 24 dX4_fewestLeftOut_69 (by decide) ?_
          refine r_lv [(0, .ref 50), (1, .ref 57), (2, .int x2), (3, .int x3), (4, .int (x4 + (-1)))] [1, 2, 3, 4, 0] rfl ?_
          exact ih x2 x3 (x4 + (-1)) u6
        · refine r_aload_n C 0 dX4_fewestLeftOut_60 rfl ?_
          refine r_iload C 4 dX4_fewestLeftOut_61 rfl ?_
          refine r_callV C (o_X4_leaveOut l u6 x4) v_X4_leaveOut m_564 [0, 1, 2, 3, 4, 5, 6] [.int x4] [] (50) (Or.inl ⟨0, 3, _, TX4, 6, rfl, rfl, rfl⟩) (fun u7 => []) (fun u7 => w_X4X0 u7 B) rfl rfl rfl rfl rfl (Nat.le_of_ble_eq_true rfl) ⟨(Nat.le_of_ble_eq_true rfl), (Nat.le_of_ble_eq_true rfl)⟩ ⟨Nat.zero_le _, Nat.zero_le _⟩ dX4_fewestLeftOut_63 (fun _ => rfl) (fun _ => rfl) (fun _ => rfl) (fun u7 => ?_)
          refine r_iinc C 4 (x4 + (-1)) [(4, .int (x4 + (-1))), (0, .ref 50), (1, .ref 57), (2, .int x2), (3, .int x3)] dX4_fewestLeftOut_66 rfl rfl (Nat.le_of_ble_eq_true rfl) rfl ?_
          refine r_goto C 24 dX4_fewestLeftOut_69 (by decide) ?_
          refine r_lv [(0, .ref 50), (1, .ref 57), (2, .int x2), (3, .int x3), (4, .int (x4 + (-1)))] [1, 2, 3, 4, 0] rfl ?_
          exact ih x2 x3 (x4 + (-1)) u7
set_option maxRecDepth 100000 in
set_option maxHeartbeats 4000000 in
theorem k_X4_fewestLeftOut_8 {p : Program} {l : Launch} {e : Env} {s : State} {m : MethodId} {args : Array Value} {below : List Frame} {meth : Method} {c : Code} {dC : Nat → ClassId} {dI : Nat → Nat → Nat} {dA : Nat → ClassId} {A : Nat → Prop} {α : Nat → Nat} {t : Int32 × q_St} (C : q_Cx p s m args meth c cX4_fewestLeftOut 5 RX4 (some .int) "fewestLeftOut" dC dI dA A α) (Y : q_St) (B : q_St) (a2 : Int32)  : ∀ (n : Nat) (x2 : Int32) (x3 : Int32) (Y' : q_St), q_S p l e (q_rm 4 98) s m args below meth c 5 dC dI dA A α (MQ below (q_Q α dC dI dA A ((fun u => some (.int u.1)) t) ((fun u => w_X4X0 u.2 B) t)) args s 0 0 A) 0 0 (f_X4_fewestLeftOut_8 Y B a2  n x2 x3 Y') t 8 [(0, .ref 50), (1, .ref 57), (2, .int x2), (3, .int x3)] [] (w_X4X0 Y' B) := by
  intro n
  induction n with
  | zero =>
    intro x2 x3 Y'
    exact r_cut (f_X4_fewestLeftOut_8.eq_1 _ _ _ _ _ _) (r_none True.intro)
  | succ n ih =>
    intro x2 x3 Y'
    refine r_cut (f_X4_fewestLeftOut_8.eq_2 _ _ _ _ _ _ _) ?_
    refine r_iload_n C 3 dX4_fewestLeftOut_8 rfl ?_
    refine r_aload_n C 1 dX4_fewestLeftOut_9 rfl ?_
    refine r_get C 7 1 dX4_fewestLeftOut_10 K_X0 rfl rfl (Nat.le_of_ble_eq_true rfl) rfl m_33 rfl ?_
    refine r_icmp_ge C 115 dX4_fewestLeftOut_13 (by decide) (fun h13 => ?_) (fun h13 => ?_)
    · refine r_aload_n C 1 dX4_fewestLeftOut_115 rfl ?_
      refine r_get C 7 1 dX4_fewestLeftOut_116 K_X0 rfl rfl (Nat.le_of_ble_eq_true rfl) rfl m_33 rfl ?_
      exact r_reti (x := B.1 1) (rv := (fun u => some (.int u.1))) (hpE := (fun u => w_X4X0 u.2 B)) (t0 := (B.1 1, Y')) C dX4_fewestLeftOut_119 (by rfl) (by rfl) (by rfl)
    · refine r_aload_n C 1 dX4_fewestLeftOut_16 rfl ?_
      refine r_get C 7 1 dX4_fewestLeftOut_17 K_X0 rfl rfl (Nat.le_of_ble_eq_true rfl) rfl m_33 rfl ?_
      refine r_iconst C (1) dX4_fewestLeftOut_20 rfl ?_
      refine r_isub C dX4_fewestLeftOut_21 ?_
      refine r_istore C [(4, .int (B.1 1 - (1 : Int32))), (0, .ref 50), (1, .ref 57), (2, .int x2), (3, .int x3)] dX4_fewestLeftOut_22 (Nat.le_of_ble_eq_true rfl) rfl ?_
      refine r_lv [(0, .ref 50), (1, .ref 57), (2, .int x2), (3, .int x3), (4, .int (B.1 1 - (1 : Int32)))] [1, 2, 3, 4, 0] rfl ?_
      exact k_X4_fewestLeftOut_24 C Y B a2 (fun x2 x3 Y' => f_X4_fewestLeftOut_8 Y B a2  n x2 x3 Y') ih q_N x2 x3 (B.1 1 - (1 : Int32)) Y'
set_option maxRecDepth 100000 in
set_option maxHeartbeats 4000000 in
theorem o_X4_fewestLeftOut (l : Launch) (Y : q_St) (B : q_St) (a2 : Int32) : q_Ok l yX4_fewestLeftOut cX4_fewestLeftOut 5 (some .int) 4 98 [.ref 50, .ref 57, .int a2] (w_X4X0 Y B) (f_X4_fewestLeftOut Y B a2) (fun u => some (.int u.1)) (fun u => w_X4X0 u.2 B) := by
  refine q_enter (by decide +kernel) (Nat.le_of_ble_eq_true rfl) (fun t p e s m args below meth c dC dI dA A α C => ?_)
  refine r_cut (f_X4_fewestLeftOut.eq_1 _ _ _) ?_
  show q_S p l e (q_rm 4 98) s m args below meth c 5 dC dI dA A α (MQ below (q_Q α dC dI dA A ((fun u => some (.int u.1)) t) ((fun u => w_X4X0 u.2 B) t)) args s 0 0 A) 0 0 _ t 0 [(0, .ref 50), (1, .ref 57), (2, .int a2)] [] (w_X4X0 Y B)
  refine r_aload_n C 0 dX4_fewestLeftOut_0 rfl ?_
  refine r_aload_n C 1 dX4_fewestLeftOut_1 rfl ?_
  refine r_iconst C (0) dX4_fewestLeftOut_2 rfl ?_
  refine r_callV0 C (o_X4_begin l Y B (0 : Int32)) v_X4_begin m_440 [.ref 57, .int (0 : Int32)] [] (50) (Or.inl ⟨0, 3, _, TX4, 6, rfl, rfl, rfl⟩) (fun u1 => []) (fun u1 => w_X4X0 u1 B) rfl rfl rfl (Nat.le_of_ble_eq_true rfl) ⟨(Nat.le_of_ble_eq_true rfl), (Nat.le_of_ble_eq_true rfl)⟩ ⟨Nat.zero_le _, Nat.zero_le _⟩ dX4_fewestLeftOut_3 (fun _ => rfl) (fun _ => rfl) (fun _ => rfl) (fun u1 => ?_)
  refine r_iconst C (0) dX4_fewestLeftOut_6 rfl ?_
  refine r_istore_n C [(3, .int (0 : Int32)), (0, .ref 50), (1, .ref 57), (2, .int a2)] dX4_fewestLeftOut_7 (Nat.le_of_ble_eq_true rfl) rfl ?_
  refine r_lv [(0, .ref 50), (1, .ref 57), (2, .int a2), (3, .int (0 : Int32))] [1, 2, 3, 0] rfl ?_
  exact k_X4_fewestLeftOut_8 C Y B a2   q_N a2 (0 : Int32) u1
