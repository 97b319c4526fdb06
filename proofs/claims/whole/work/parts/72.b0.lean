set_option maxRecDepth 100000 in
set_option maxHeartbeats 4000000 in
theorem k_X4_fillRow_2 {p : Program} {l : Launch} {e : Env} {s : State} {m : MethodId} {args : Array Value} {below : List Frame} {meth : Method} {c : Code} {dC : Nat → ClassId} {dI : Nat → Nat → Nat} {dA : Nat → ClassId} {A : Nat → Prop} {α : Nat → Nat} {t : q_St} (C : q_Cx p s m args meth c cX4_fillRow 4 RX4 none "fillRow" dC dI dA A α) (Y : q_St) (a1 : Int32) (a2 : Int32)  : ∀ (n : Nat) (x1 : Int32) (x2 : Int32) (x3 : Int32) (Y' : q_St), q_S p l e (q_rm 0 0) s m args below meth c 4 dC dI dA A α (MQ below (q_Q α dC dI dA A ((fun _ => none) t) ((fun u => w_X4 u) t)) args s 0 0 A) 0 0 (f_X4_fillRow_2 Y a1 a2  n x1 x2 x3 Y') t 2 [(0, .ref 50), (1, .int x1), (2, .int x2), (3, .int x3)] [] (w_X4 Y') := by
  intro n
  induction n with
  | zero =>
    intro x1 x2 x3 Y'
    exact r_cut (f_X4_fillRow_2.eq_1 _ _ _ _ _ _ _) (r_none True.intro)
  | succ n ih =>
    intro x1 x2 x3 Y'
    refine r_cut (f_X4_fillRow_2.eq_2 _ _ _ _ _ _ _ _) ?_
    refine r_iload_n C 3 dX4_fillRow_2 rfl ?_
    refine r_bipush C (81) dX4_fillRow_3 rfl ?_
    refine r_icmp_ge C 26 dX4_fillRow_5 (by decide) (fun h5 => ?_) (fun h5 => ?_)
    · exact r_retv (rv := (fun _ => none)) (hpE := (fun u => w_X4 u)) (t0 := Y') C dX4_fillRow_26 (by rfl) (by rfl) (by rfl)
    · refine r_aload_n C 0 dX4_fillRow_8 rfl ?_
      refine r_get C 0 0 dX4_fillRow_9 K_X4 rfl rfl (Nat.le_of_ble_eq_true rfl) rfl m_102 rfl ?_
      refine r_iload_n C 1 dX4_fillRow_12 rfl ?_
      refine r_bipush C (81) dX4_fillRow_13 rfl ?_
      refine r_imul C dX4_fillRow_15 ?_
      refine r_iload_n C 3 dX4_fillRow_16 rfl ?_
      refine r_iadd C dX4_fillRow_17 ?_
      refine r_iload_n C 2 dX4_fillRow_18 rfl ?_
      refine r_iast C 1 _ dX4_fillRow_19 rfl rfl rfl (fun hi19 => ?_)
      refine r_iinc C 3 (x3 + 1) [(3, .int (x3 + 1)), (0, .ref 50), (1, .int x1), (2, .int x2)] dX4_fillRow_20 rfl rfl (Nat.le_of_ble_eq_true rfl) rfl ?_
      refine r_goto C 2 dX4_fillRow_23 (by decide) ?_
      refine r_lv [(0, .ref 50), (1, .int x1), (2, .int x2), (3, .int (x3 + 1))] [1, 2, 3, 0] rfl ?_
      exact ih x1 x2 (x3 + 1) (Y'.1, (va_up Y'.2 0 (upd (Y'.2 0) ((x1 * (81 : Int32)) + x3).toNatClampNeg x2)))
set_option maxRecDepth 100000 in
set_option maxHeartbeats 4000000 in
theorem o_X4_fillRow (l : Launch) (Y : q_St) (a1 : Int32) (a2 : Int32) : q_Ok l yX4_fillRow cX4_fillRow 4 none 0 0 [.ref 50, .int a1, .int a2] (w_X4 Y) (f_X4_fillRow Y a1 a2) (fun _ => none) (fun u => w_X4 u) := by
  refine q_enter (by decide +kernel) (Nat.le_of_ble_eq_true rfl) (fun t p e s m args below meth c dC dI dA A α C => ?_)
  refine r_cut (f_X4_fillRow.eq_1 _ _ _) ?_
  show q_S p l e (q_rm 0 0) s m args below meth c 4 dC dI dA A α (MQ below (q_Q α dC dI dA A ((fun _ => none) t) ((fun u => w_X4 u) t)) args s 0 0 A) 0 0 _ t 0 [(0, .ref 50), (1, .int a1), (2, .int a2)] [] (w_X4 Y)
  refine r_iconst C (0) dX4_fillRow_0 rfl ?_
  refine r_istore_n C [(3, .int (0 : Int32)), (0, .ref 50), (1, .int a1), (2, .int a2)] dX4_fillRow_1 (Nat.le_of_ble_eq_true rfl) rfl ?_
  refine r_lv [(0, .ref 50), (1, .int a1), (2, .int a2), (3, .int (0 : Int32))] [1, 2, 3, 0] rfl ?_
  exact k_X4_fillRow_2 C Y a1 a2   q_N a1 a2 (0 : Int32) Y
set_option maxRecDepth 100000 in
set_option maxHeartbeats 4000000 in
theorem k_X4_begin_2 {p : Program} {l : Launch} {e : Env} {s : State} {m : MethodId} {args : Array Value} {below : List Frame} {meth : Method} {c : Code} {dC : Nat → ClassId} {dI : Nat → Nat → Nat} {dA : Nat → ClassId} {A : Nat → Prop} {α : Nat → Nat} {t : q_St} (C : q_Cx p s m args meth c cX4_begin 4 RX4 none "begin" dC dI dA A α) (Y : q_St) (B : q_St) (a2 : Int32)  : ∀ (n : Nat) (x2 : Int32) (x3 : Int32) (Y' : q_St), q_S p l e (q_rm 4 94) s m args below meth c 4 dC dI dA A α (MQ below (q_Q α dC dI dA A ((fun _ => none) t) ((fun u => w_X4X0 u B) t)) args s 0 0 A) 0 0 (f_X4_begin_2 Y B a2  n x2 x3 Y') t 2 [(0, .ref 50), (1, .ref 57), (2, .int x2), (3, .int x3)] [] (w_X4X0 Y' B) := by
  intro n
  induction n with
  | zero =>
    intro x2 x3 Y'
    exact r_cut (f_X4_begin_2.eq_1 _ _ _ _ _ _) (r_none True.intro)
  | succ n ih =>
    intro x2 x3 Y'
    refine r_cut (f_X4_begin_2.eq_2 _ _ _ _ _ _ _) ?_
    refine r_iload_n C 3 dX4_begin_2 rfl ?_
    refine r_aload_n C 1 dX4_begin_3 rfl ?_
    refine r_get C 7 0 dX4_begin_4 K_X0 rfl rfl (Nat.le_of_ble_eq_true rfl) rfl m_32 rfl ?_
    refine r_icmp_ge C 30 dX4_begin_7 (by decide) (fun h7 => ?_) (fun h7 => ?_)
    · refine r_aload_n C 0 dX4_begin_30 rfl ?_
      refine r_aload_n C 1 dX4_begin_31 rfl ?_
      refine r_get C 7 1 dX4_begin_32 K_X0 rfl rfl (Nat.le_of_ble_eq_true rfl) rfl m_33 rfl ?_
      refine r_iconst C (0) dX4_begin_35 rfl ?_
      refine r_callV C (o_X4_fillRow l Y' (B.1 1) (0 : Int32)) v_X4_fillRow m_448 [0, 1, 2, 3, 4, 5, 6] [.int (B.1 1), .int (0 : Int32)] [] (50) (Or.inl ⟨0, 3, _, TX4, 6, rfl, rfl, rfl⟩) (fun u1 => []) (fun u1 => w_X4X0 u1 B) rfl rfl rfl rfl rfl (Nat.le_of_ble_eq_true rfl) ⟨(Nat.le_of_ble_eq_true rfl), (Nat.le_of_ble_eq_true rfl)⟩ ⟨Nat.zero_le _, Nat.zero_le _⟩ dX4_begin_36 (fun _ => rfl) (fun _ => rfl) (fun _ => rfl) (fun u1 => ?_)
      exact r_retv (rv := (fun _ => none)) (hpE := (fun u => w_X4X0 u B)) (t0 := u1) C dX4_begin_39 (by rfl) (by rfl) (by rfl)
    · refine r_aload_n C 0 dX4_begin_10 rfl ?_
      refine r_get C 0 3 dX4_begin_11 K_X4 rfl rfl (Nat.le_of_ble_eq_true rfl) rfl m_105 rfl ?_
      refine r_iload_n C 3 dX4_begin_14 rfl ?_
      refine r_iconst C (1) dX4_begin_15 rfl ?_
      refine r_iadd C dX4_begin_16 ?_
      refine r_aload_n C 1 dX4_begin_17 rfl ?_
      refine r_iload_n C 3 dX4_begin_18 rfl ?_
      refine r_iload_n C 2 dX4_begin_19 rfl ?_
      refine r_callV C (o_X0_price l B x3 x2) v_X0_price m_447 [7, 8, 9, 10, 11, 12, 13] [.int x3, .int x2] [.int (x3 + (1 : Int32)), .ref 54] (57) (Or.inl ⟨7, 0, _, TX0, 16, rfl, rfl, rfl⟩) (fun u2 => [.int u2, .int (x3 + (1 : Int32)), .ref 54]) (fun u2 => w_X4X0 Y' B) rfl rfl rfl rfl rfl (Nat.le_of_ble_eq_true rfl) ⟨(Nat.le_of_ble_eq_true rfl), (Nat.le_of_ble_eq_true rfl)⟩ ⟨Nat.zero_le _, Nat.zero_le _⟩ dX4_begin_20 (fun _ => rfl) (fun _ => rfl) (fun _ => rfl) (fun u2 => ?_)
      refine r_iast C 4 _ dX4_begin_23 rfl rfl rfl (fun hi23 => ?_)
      refine r_iinc C 3 (x3 + 1) [(3, .int (x3 + 1)), (0, .ref 50), (1, .ref 57), (2, .int x2)] dX4_begin_24 rfl rfl (Nat.le_of_ble_eq_true rfl) rfl ?_
      refine r_goto C 2 dX4_begin_27 (by decide) ?_
      refine r_lv [(0, .ref 50), (1, .ref 57), (2, .int x2), (3, .int (x3 + 1))] [1, 2, 3, 0] rfl ?_
      exact ih x2 (x3 + 1) (Y'.1, (va_up Y'.2 3 (upd (Y'.2 3) (x3 + (1 : Int32)).toNatClampNeg u2)))
set_option maxRecDepth 100000 in
set_option maxHeartbeats 4000000 in
theorem o_X4_begin (l : Launch) (Y : q_St) (B : q_St) (a2 : Int32) : q_Ok l yX4_begin cX4_begin 4 none 4 94 [.ref 50, .ref 57, .int a2] (w_X4X0 Y B) (f_X4_begin Y B a2) (fun _ => none) (fun u => w_X4X0 u B) := by
  refine q_enter (by decide +kernel) (Nat.le_of_ble_eq_true rfl) (fun t p e s m args below meth c dC dI dA A α C => ?_)
  refine r_cut (f_X4_begin.eq_1 _ _ _) ?_
  show q_S p l e (q_rm 4 94) s m args below meth c 4 dC dI dA A α (MQ below (q_Q α dC dI dA A ((fun _ => none) t) ((fun u => w_X4X0 u B) t)) args s 0 0 A) 0 0 _ t 0 [(0, .ref 50), (1, .ref 57), (2, .int a2)] [] (w_X4X0 Y B)
  refine r_iconst C (-1) dX4_begin_0 rfl ?_
  refine r_istore_n C [(3, .int (-1 : Int32)), (0, .ref 50), (1, .ref 57), (2, .int a2)] dX4_begin_1 (Nat.le_of_ble_eq_true rfl) rfl ?_
  refine r_lv [(0, .ref 50), (1, .ref 57), (2, .int a2), (3, .int (-1 : Int32))] [1, 2, 3, 0] rfl ?_
  exact k_X4_begin_2 C Y B a2   q_N a2 (-1 : Int32) Y
set_option maxRecDepth 100000 in
set_option maxHeartbeats 4000000 in
theorem o_X4_place (l : Launch) (a1 : Int32) (a2 : Int32) : q_Ok l yX4_place cX4_place 2 (some .int) 0 0 [.int a1, .int a2] ([]) (f_X4_place a1 a2) (fun u => some (.int u)) (fun _ => []) := by
  refine q_enter (by decide +kernel) (Nat.le_of_ble_eq_true rfl) (fun t p e s m args below meth c dC dI dA A α C => ?_)
  refine r_cut (f_X4_place.eq_1 _ _) ?_
  show q_S p l e (q_rm 0 0) s m args below meth c 2 dC dI dA A α (MQ below (q_Q α dC dI dA A ((fun u => some (.int u)) t) ((fun _ => []) t)) args s 0 0 A) 0 0 _ t 0 [(0, .int a1), (1, .int a2)] [] ([])
  refine r_iload_n C 0 dX4_place_0 rfl ?_
  refine r_iconst C (1) dX4_place_1 rfl ?_
  refine r_iadd C dX4_place_2 ?_
  refine r_bipush C (9) dX4_place_3 rfl ?_
  refine r_imul C dX4_place_5 ?_
  refine r_iload_n C 1 dX4_place_6 rfl ?_
  refine r_iadd C dX4_place_7 ?_
  refine r_iconst C (1) dX4_place_8 rfl ?_
  refine r_iadd C dX4_place_9 ?_
  exact r_reti (x := ((((a1 + (1 : Int32)) * (9 : Int32)) + a2) + (1 : Int32))) (rv := (fun u => some (.int u))) (hpE := (fun _ => [])) (t0 := ((((a1 + (1 : Int32)) * (9 : Int32)) + a2) + (1 : Int32))) C dX4_place_10 (by rfl) (by rfl) (by rfl)
set_option maxRecDepth 100000 in
set_option maxHeartbeats 4000000 in
theorem k_X4_stepBack_239 {p : Program} {l : Launch} {e : Env} {s : State} {m : MethodId} {args : Array Value} {below : List Frame} {meth : Method} {c : Code} {dC : Nat → ClassId} {dI : Nat → Nat → Nat} {dA : Nat → ClassId} {A : Nat → Prop} {α : Nat → Nat} {t : q_St} (C : q_Cx p s m args meth c cX4_stepBack 10 RX4 none "stepBack" dC dI dA A α) (Y : q_St) (B : q_St) (a2 : Int32) (r176 : Int32 → Int32 → q_St → Option (q_St))
    (hr176 : ∀ (x3 : Int32) (x5 : Int32) (Y' : q_St), q_S p l e (q_rm 3 68) s m args below meth c 10 dC dI dA A α (MQ below (q_Q α dC dI dA A ((fun _ => none) t) ((fun u => w_X4X0 u B) t)) args s 0 0 A) 0 0 (r176 x3 x5 Y') t 176 [(0, .ref 50), (1, .ref 57), (3, .int x3), (5, .int x5)] [] (w_X4X0 Y' B)) : ∀ (n : Nat) (x3 : Int32) (x5 : Int32) (x6 : Int32) (x7 : Int32) (Y' : q_St), q_S p l e (q_rm 3 68) s m args below meth c 10 dC dI dA A α (MQ below (q_Q α dC dI dA A ((fun _ => none) t) ((fun u => w_X4X0 u B) t)) args s 0 0 A) 0 0 (f_X4_stepBack_239 Y B a2 r176 n x3 x5 x6 x7 Y') t 239 [(0, .ref 50), (1, .ref 57), (3, .int x3), (5, .int x5), (6, .int x6), (7, .int x7)] [] (w_X4X0 Y' B) := by
  intro n
  induction n with
  | zero =>
    intro x3 x5 x6 x7 Y'
    exact r_cut (f_X4_stepBack_239.eq_1 _ _ _ _ _ _ _ _ _) (r_none True.intro)
  | succ n ih =>
    intro x3 x5 x6 x7 Y'
    refine r_cut (f_X4_stepBack_239.eq_2 _ _ _ _ _ _ _ _ _ _) ?_
    refine r_iload C 5 dX4_stepBack_239 rfl ?_
    refine r_aload_n C 1 dX4_stepBack_241 rfl ?_
    refine r_get C 7 0 dX4_stepBack_242 K_X0 rfl rfl (Nat.le_of_ble_eq_true rfl) rfl m_32 rfl ?_
    refine r_icmp_ge C 284 dX4_stepBack_245 (by decide) (fun h245 => ?_) (fun h245 => ?_)
    · refine r_iinc C 3 (x5 + 1) [(5, .int (x5 + 1)), (0, .ref 50), (1, .ref 57), (3, .int x3), (6, .int x6), (7, .int x7)] dX4_stepBack_284 rfl rfl (Nat.le_of_ble_eq_true rfl) rfl ?_
      refine r_goto C 176 dX4_stepBack_287 (by decide) ?_
      refine r_lv [(0, .ref 50), (1, .ref 57), (3, .int x3), (5, .int (x5 + 1))] [1, 2, 3, 0] rfl ?_
      exact hr176 x3 (x5 + 1) Y'
    · refine r_iload C 5 dX4_stepBack_248 rfl ?_
      refine r_iload C 3 dX4_stepBack_250 rfl ?_
      refine r_callS C (o_X4_place l x7 x5) v_X4_place m_458 [] [.int x7, .int x5] [] (fun u5 => [.int u5]) (fun u5 => w_X4X0 Y' B) rfl rfl rfl rfl rfl (Nat.le_of_ble_eq_true rfl) ⟨(Nat.le_of_ble_eq_true rfl), (Nat.le_of_ble_eq_true rfl)⟩ ⟨Nat.zero_le _, Nat.zero_le _⟩ dX4_stepBack_252 (fun _ => rfl) (fun _ => rfl) (fun _ => rfl) (fun u5 => ?_)
      refine r_istore C [(8, .int u5), (0, .ref 50), (1, .ref 57), (3, .int x3), (5, .int x5), (6, .int x6), (7, .int x7)] dX4_stepBack_255 (Nat.le_of_ble_eq_true rfl) rfl ?_
      refine r_aload_n C 1 dX4_stepBack_257 rfl ?_
      refine r_get C 0 0 dX4_stepBack_258 K_X4 rfl rfl (Nat.le_of_ble_eq_true rfl) rfl m_102 rfl ?_
      refine r_iload_n C 3 dX4_stepBack_261 rfl ?_
      refine r_iload C 0 dX4_stepBack_262 rfl ?_
      refine r_iadd C dX4_stepBack_264 ?_
      refine r_aload_n C 1 dX4_stepBack_265 rfl ?_
      refine r_get C 0 2 dX4_stepBack_266 K_X4 rfl rfl (Nat.le_of_ble_eq_true rfl) rfl m_104 rfl ?_
      refine r_iload C 0 dX4_stepBack_269 rfl ?_
      refine r_iald C 3 dX4_stepBack_271 rfl rfl (fun hi271 => ?_)
      refine r_iload C 5 dX4_stepBack_272 rfl ?_
      refine r_mmin C dX4_stepBack_274 m_461 m_462 m_8 m_463 (Nat.le_of_ble_eq_true rfl) (Nat.le_of_ble_eq_true rfl) (Nat.zero_le _) (Nat.zero_le _) ?_
      refine r_iast C 1 _ dX4_stepBack_277 rfl rfl rfl (fun hi277 => ?_)
      refine r_iinc C 6 (x7 + 1) [(7, .int (x7 + 1)), (8, .int u5), (0, .ref 50), (1, .ref 57), (3, .int x3), (5, .int x5), (6, .int x6)] dX4_stepBack_278 rfl rfl (Nat.le_of_ble_eq_true rfl) rfl ?_
      refine r_goto C 239 dX4_stepBack_281 (by decide) ?_
      refine r_lv [(0, .ref 50), (1, .ref 57), (3, .int x3), (5, .int x5), (6, .int x6), (7, .int (x7 + 1))] [2, 3, 4, 5, 6, 0] rfl ?_
      exact ih x3 x5 x6 (x7 + 1) (Y'.1, (va_up Y'.2 0 (upd (Y'.2 0) (x3 + u5).toNatClampNeg (if x6 < (Y'.2 2 u5.toNatClampNeg) then x6 else (Y'.2 2 u5.toNatClampNeg)))))
set_option maxRecDepth 100000 in
set_option maxHeartbeats 4000000 in
theorem k_X4_stepBack_192 {p : Program} {l : Launch} {e : Env} {s : State} {m : MethodId} {args : Array Value} {below : List Frame} {meth : Method} {c : Code} {dC : Nat → ClassId} {dI : Nat → Nat → Nat} {dA : Nat → ClassId} {A : Nat → Prop} {α : Nat → Nat} {t : q_St} (C : q_Cx p s m args meth c cX4_stepBack 10 RX4 none "stepBack" dC dI dA A α) (Y : q_St) (B : q_St) (a2 : Int32) (r176 : Int32 → Int32 → q_St → Option (q_St))
    (hr176 : ∀ (x3 : Int32) (x5 : Int32) (Y' : q_St), q_S p l e (q_rm 3 68) s m args below meth c 10 dC dI dA A α (MQ below (q_Q α dC dI dA A ((fun _ => none) t) ((fun u => w_X4X0 u B) t)) args s 0 0 A) 0 0 (r176 x3 x5 Y') t 176 [(0, .ref 50), (1, .ref 57), (3, .int x3), (5, .int x5)] [] (w_X4X0 Y' B)) : ∀ (n : Nat) (x3 : Int32) (x5 : Int32) (x6 : Int32) (x7 : Int32) (Y' : q_St), q_S p l e (q_rm 3 68) s m args below meth c 10 dC dI dA A α (MQ below (q_Q α dC dI dA A ((fun _ => none) t) ((fun u => w_X4X0 u B) t)) args s 0 0 A) 0 0 (f_X4_stepBack_192 Y B a2 r176 n x3 x5 x6 x7 Y') t 192 [(0, .ref 50), (1, .ref 57), (3, .int x3), (5, .int x5), (6, .int x6), (7, .int x7)] [] (w_X4X0 Y' B) := by
  intro n
  induction n with
  | zero =>
    intro x3 x5 x6 x7 Y'
    exact r_cut (f_X4_stepBack_192.eq_1 _ _ _ _ _ _ _ _ _) (r_none True.intro)
  | succ n ih =>
    intro x3 x5 x6 x7 Y'
    refine r_cut (f_X4_stepBack_192.eq_2 _ _ _ _ _ _ _ _ _ _) ?_
    refine r_iload C 5 dX4_stepBack_192 rfl ?_
    refine r_aload_n C 1 dX4_stepBack_194 rfl ?_
    refine r_get C 7 0 dX4_stepBack_195 K_X0 rfl rfl (Nat.le_of_ble_eq_true rfl) rfl m_32 rfl ?_
    refine r_icmp_ge C 236 dX4_stepBack_198 (by decide) (fun h198 => ?_) (fun h198 => ?_)
    · refine r_iconst C (-1) dX4_stepBack_236 rfl ?_
      refine r_istore C [(7, .int (-1 : Int32)), (0, .ref 50), (1, .ref 57), (3, .int x3), (5, .int x5), (6, .int x6)] dX4_stepBack_237 (Nat.le_of_ble_eq_true rfl) rfl ?_
      refine r_lv [(0, .ref 50), (1, .ref 57), (3, .int x3), (5, .int x5), (6, .int x6), (7, .int (-1 : Int32))] [1, 2, 3, 4, 5, 0] rfl ?_
      exact k_X4_stepBack_239 C Y B a2 r176 hr176 q_N x3 x5 x6 (-1 : Int32) Y'
    · refine r_iload C 4 dX4_stepBack_201 rfl ?_
      refine r_aload_n C 0 dX4_stepBack_203 rfl ?_
      refine r_get C 0 2 dX4_stepBack_204 K_X4 rfl rfl (Nat.le_of_ble_eq_true rfl) rfl m_104 rfl ?_
      refine r_iload C 5 dX4_stepBack_207 rfl ?_
      refine r_iload C 3 dX4_stepBack_209 rfl ?_
      refine r_callS C (o_X4_place l x7 x5) v_X4_place m_458 [] [.int x7, .int x5] [.ref 53, .int x6] (fun u3 => [.int u3, .ref 53, .int x6]) (fun u3 => w_X4X0 Y' B) rfl rfl rfl rfl rfl (Nat.le_of_ble_eq_true rfl) ⟨(Nat.le_of_ble_eq_true rfl), (Nat.le_of_ble_eq_true rfl)⟩ ⟨Nat.zero_le _, Nat.zero_le _⟩ dX4_stepBack_211 (fun _ => rfl) (fun _ => rfl) (fun _ => rfl) (fun u3 => ?_)
      refine r_iald C 3 dX4_stepBack_214 rfl rfl (fun hi214 => ?_)
      refine r_aload_n C 0 dX4_stepBack_215 rfl ?_
      refine r_get C 0 3 dX4_stepBack_216 K_X4 rfl rfl (Nat.le_of_ble_eq_true rfl) rfl m_105 rfl ?_
      refine r_iload C 5 dX4_stepBack_219 rfl ?_
      refine r_iconst C (1) dX4_stepBack_221 rfl ?_
      refine r_iadd C dX4_stepBack_222 ?_
      refine r_iald C 4 dX4_stepBack_223 rfl rfl (fun hi223 => ?_)
      refine r_iadd C dX4_stepBack_224 ?_
      refine r_mmin C dX4_stepBack_225 m_461 m_462 m_8 m_463 (Nat.le_of_ble_eq_true rfl) (Nat.le_of_ble_eq_true rfl) (Nat.zero_le _) (Nat.zero_le _) ?_
      refine r_istore C [(6, .int (if ((Y'.2 2 u3.toNatClampNeg) + (Y'.2 3 (x7 + (1 : Int32)).toNatClampNeg)) < x6 then ((Y'.2 2 u3.toNatClampNeg) + (Y'.2 3 (x7 + (1 : Int32)).toNatClampNeg)) else x6)), (0, .ref 50), (1, .ref 57), (3, .int x3), (5, .int x5), (7, .int x7)] dX4_stepBack_228 (Nat.le_of_ble_eq_true rfl) rfl ?_
      refine r_iinc C 5 (x7 + 1) [(7, .int (x7 + 1)), (6, .int (if ((Y'.2 2 u3.toNatClampNeg) + (Y'.2 3 (x7 + (1 : Int32)).toNatClampNeg)) < x6 then ((Y'.2 2 u3.toNatClampNeg) + (Y'.2 3 (x7 + (1 : Int32)).toNatClampNeg)) else x6)), (0, .ref 50), (1, .ref 57), (3, .int x3), (5, .int x5)] dX4_stepBack_230 rfl rfl (Nat.le_of_ble_eq_true rfl) rfl ?_
      refine r_goto C 192 dX4_stepBack_233 (by decide) ?_
      refine r_lv [(0, .ref 50), (1, .ref 57), (3, .int x3), (5, .int x5), (6, .int (if ((Y'.2 2 u3.toNatClampNeg) + (Y'.2 3 (x7 + (1 : Int32)).toNatClampNeg)) < x6 then ((Y'.2 2 u3.toNatClampNeg) + (Y'.2 3 (x7 + (1 : Int32)).toNatClampNeg)) else x6)), (7, .int (x7 + 1))] [2, 3, 4, 5, 1, 0] rfl ?_
      exact ih x3 x5 (if ((Y'.2 2 u3.toNatClampNeg) + (Y'.2 3 (x7 + (1 : Int32)).toNatClampNeg)) < x6 then ((Y'.2 2 u3.toNatClampNeg) + (Y'.2 3 (x7 + (1 : Int32)).toNatClampNeg)) else x6) (x7 + 1) Y'
set_option maxRecDepth 100000 in
set_option maxHeartbeats 4000000 in
theorem k_X4_stepBack_176 {p : Program} {l : Launch} {e : Env} {s : State} {m : MethodId} {args : Array Value} {below : List Frame} {meth : Method} {c : Code} {dC : Nat → ClassId} {dI : Nat → Nat → Nat} {dA : Nat → ClassId} {A : Nat → Prop} {α : Nat → Nat} {t : q_St} (C : q_Cx p s m args meth c cX4_stepBack 10 RX4 none "stepBack" dC dI dA A α) (Y : q_St) (B : q_St) (a2 : Int32)  : ∀ (n : Nat) (x3 : Int32) (x5 : Int32) (Y' : q_St), q_S p l e (q_rm 3 68) s m args below meth c 10 dC dI dA A α (MQ below (q_Q α dC dI dA A ((fun _ => none) t) ((fun u => w_X4X0 u B) t)) args s 0 0 A) 0 0 (f_X4_stepBack_176 Y B a2  n x3 x5 Y') t 176 [(0, .ref 50), (1, .ref 57), (3, .int x3), (5, .int x5)] [] (w_X4X0 Y' B) := by
  intro n
  induction n with
  | zero =>
    intro x3 x5 Y'
    exact r_cut (f_X4_stepBack_176.eq_1 _ _ _ _ _ _) (r_none True.intro)
  | succ n ih =>
    intro x3 x5 Y'
    refine r_cut (f_X4_stepBack_176.eq_2 _ _ _ _ _ _ _) ?_
    refine r_iload C 3 dX4_stepBack_176 rfl ?_
    refine r_aload_n C 1 dX4_stepBack_178 rfl ?_
    refine r_get C 7 0 dX4_stepBack_179 K_X0 rfl rfl (Nat.le_of_ble_eq_true rfl) rfl m_32 rfl ?_
    refine r_icmp_ge C 290 dX4_stepBack_182 (by decide) (fun h182 => ?_) (fun h182 => ?_)
    · exact r_retv (rv := (fun _ => none)) (hpE := (fun u => w_X4X0 u B)) (t0 := Y') C dX4_stepBack_290 (by rfl) (by rfl) (by rfl)
    · refine r_ldc C (1000000) dX4_stepBack_185 m_457 ?_
      refine r_istore C [(6, .int (1000000 : Int32)), (0, .ref 50), (1, .ref 57), (3, .int x3), (5, .int x5)] dX4_stepBack_187 (Nat.le_of_ble_eq_true rfl) rfl ?_
      refine r_iconst C (-1) dX4_stepBack_189 rfl ?_
      refine r_istore C [(7, .int (-1 : Int32)), (6, .int (1000000 : Int32)), (0, .ref 50), (1, .ref 57), (3, .int x3), (5, .int x5)] dX4_stepBack_190 (Nat.le_of_ble_eq_true rfl) rfl ?_
      refine r_lv [(0, .ref 50), (1, .ref 57), (3, .int x3), (5, .int x5), (6, .int (1000000 : Int32)), (7, .int (-1 : Int32))] [2, 3, 4, 5, 1, 0] rfl ?_
      exact k_X4_stepBack_192 C Y B a2 (fun x3 x5 Y' => f_X4_stepBack_176 Y B a2  n x3 x5 Y') ih q_N x3 x5 (1000000 : Int32) (-1 : Int32) Y'
set_option maxRecDepth 100000 in
set_option maxHeartbeats 4000000 in
theorem k_X4_stepBack_124 {p : Program} {l : Launch} {e : Env} {s : State} {m : MethodId} {args : Array Value} {below : List Frame} {meth : Method} {c : Code} {dC : Nat → ClassId} {dI : Nat → Nat → Nat} {dA : Nat → ClassId} {A : Nat → Prop} {α : Nat → Nat} {t : q_St} (C : q_Cx p s m args meth c cX4_stepBack 10 RX4 none "stepBack" dC dI dA A α) (Y : q_St) (B : q_St) (a2 : Int32) (r14 : Int32 → Int32 → Int32 → Int32 → q_St → Option (q_St))
    (hr14 : ∀ (x2 : Int32) (x3 : Int32) (x4 : Int32) (x5 : Int32) (Y' : q_St), q_S p l e (q_rm 3 68) s m args below meth c 10 dC dI dA A α (MQ below (q_Q α dC dI dA A ((fun _ => none) t) ((fun u => w_X4X0 u B) t)) args s 0 0 A) 0 0 (r14 x2 x3 x4 x5 Y') t 14 [(0, .ref 50), (1, .ref 57), (2, .int x2), (3, .int x3), (4, .int x4), (5, .int x5)] [] (w_X4X0 Y' B)) : ∀ (n : Nat) (x2 : Int32) (x3 : Int32) (x4 : Int32) (x5 : Int32) (x7 : Int32) (x8 : Int32) (Y' : q_St), q_S p l e (q_rm 3 68) s m args below meth c 10 dC dI dA A α (MQ below (q_Q α dC dI dA A ((fun _ => none) t) ((fun u => w_X4X0 u B) t)) args s 0 0 A) 0 0 (f_X4_stepBack_124 Y B a2 r14 n x2 x3 x4 x5 x7 x8 Y') t 124 [(0, .ref 50), (1, .ref 57), (2, .int x2), (3, .int x3), (4, .int x4), (5, .int x5), (7, .int x7), (8, .int x8)] [] (w_X4X0 Y' B) := by
  intro n
  induction n with
  | zero =>
    intro x2 x3 x4 x5 x7 x8 Y'
    exact r_cut (f_X4_stepBack_124.eq_1 _ _ _ _ _ _ _ _ _ _ _) (r_none True.intro)
  | succ n ih =>
    intro x2 x3 x4 x5 x7 x8 Y'
    refine r_cut (f_X4_stepBack_124.eq_2 _ _ _ _ _ _ _ _ _ _ _ _) ?_
    refine r_iload C 7 dX4_stepBack_124 rfl ?_
    refine r_aload_n C 1 dX4_stepBack_126 rfl ?_
    refine r_get C 7 0 dX4_stepBack_127 K_X0 rfl rfl (Nat.le_of_ble_eq_true rfl) rfl m_32 rfl ?_
    refine r_icmp_ge C 167 dX4_stepBack_130 (by decide) (fun h130 => ?_) (fun h130 => ?_)
    · refine r_iinc C 5 (x5 + 1) [(5, .int (x5 + 1)), (0, .ref 50), (1, .ref 57), (2, .int x2), (3, .int x3), (4, .int x4), (7, .int x7), (8, .int x8)] dX4_stepBack_167 rfl rfl (Nat.le_of_ble_eq_true rfl) rfl ?_
      refine r_goto C 14 dX4_stepBack_170 (by decide) ?_
      refine r_lv [(0, .ref 50), (1, .ref 57), (2, .int x2), (3, .int x3), (4, .int x4), (5, .int (x5 + 1))] [1, 2, 3, 4, 5, 0] rfl ?_
      exact hr14 x2 x3 x4 (x5 + 1) Y'
    · refine r_iload C 5 dX4_stepBack_133 rfl ?_
      refine r_iload C 7 dX4_stepBack_135 rfl ?_
      refine r_callS C (o_X4_place l x5 x8) v_X4_place m_458 [] [.int x5, .int x8] [] (fun u4 => [.int u4]) (fun u4 => w_X4X0 Y' B) rfl rfl rfl rfl rfl (Nat.le_of_ble_eq_true rfl) ⟨(Nat.le_of_ble_eq_true rfl), (Nat.le_of_ble_eq_true rfl)⟩ ⟨Nat.zero_le _, Nat.zero_le _⟩ dX4_stepBack_137 (fun _ => rfl) (fun _ => rfl) (fun _ => rfl) (fun u4 => ?_)
      refine r_istore C [(9, .int u4), (0, .ref 50), (1, .ref 57), (2, .int x2), (3, .int x3), (4, .int x4), (5, .int x5), (7, .int x7), (8, .int x8)] dX4_stepBack_140 (Nat.le_of_ble_eq_true rfl) rfl ?_
      refine r_aload_n C 1 dX4_stepBack_142 rfl ?_
      refine r_get C 0 2 dX4_stepBack_143 K_X4 rfl rfl (Nat.le_of_ble_eq_true rfl) rfl m_104 rfl ?_
      refine r_iload C 0 dX4_stepBack_146 rfl ?_
      refine r_aload_n C 1 dX4_stepBack_148 rfl ?_
      refine r_get C 0 2 dX4_stepBack_149 K_X4 rfl rfl (Nat.le_of_ble_eq_true rfl) rfl m_104 rfl ?_
      refine r_iload C 0 dX4_stepBack_152 rfl ?_
      refine r_iald C 3 dX4_stepBack_154 rfl rfl (fun hi154 => ?_)
      refine r_iload C 7 dX4_stepBack_155 rfl ?_
      refine r_mmin C dX4_stepBack_157 m_461 m_462 m_8 m_463 (Nat.le_of_ble_eq_true rfl) (Nat.le_of_ble_eq_true rfl) (Nat.zero_le _) (Nat.zero_le _) ?_
      refine r_iast C 3 _ dX4_stepBack_160 rfl rfl rfl (fun hi160 => ?_)
      refine r_iinc C 8 (x8 + 1) [(8, .int (x8 + 1)), (9, .int u4), (0, .ref 50), (1, .ref 57), (2, .int x2), (3, .int x3), (4, .int x4), (5, .int x5), (7, .int x7)] dX4_stepBack_161 rfl rfl (Nat.le_of_ble_eq_true rfl) rfl ?_
      refine r_goto C 124 dX4_stepBack_164 (by decide) ?_
      refine r_lv [(0, .ref 50), (1, .ref 57), (2, .int x2), (3, .int x3), (4, .int x4), (5, .int x5), (7, .int x7), (8, .int (x8 + 1))] [2, 3, 4, 5, 6, 7, 8, 0] rfl ?_
      exact ih x2 x3 x4 x5 x7 (x8 + 1) (Y'.1, (va_up Y'.2 2 (upd (Y'.2 2) u4.toNatClampNeg (if x7 < (Y'.2 2 u4.toNatClampNeg) then x7 else (Y'.2 2 u4.toNatClampNeg)))))
set_option maxRecDepth 100000 in
set_option maxHeartbeats 4000000 in
theorem k_X4_stepBack_90 {p : Program} {l : Launch} {e : Env} {s : State} {m : MethodId} {args : Array Value} {below : List Frame} {meth : Method} {c : Code} {dC : Nat → ClassId} {dI : Nat → Nat → Nat} {dA : Nat → ClassId} {A : Nat → Prop} {α : Nat → Nat} {t : q_St} (C : q_Cx p s m args meth c cX4_stepBack 10 RX4 none "stepBack" dC dI dA A α) (Y : q_St) (B : q_St) (a2 : Int32) (r14 : Int32 → Int32 → Int32 → Int32 → q_St → Option (q_St)) (r39 : Int32 → Int32 → Int32 → Int32 → Int32 → Int32 → Int32 → q_St → Option (q_St))
    (hr14 : ∀ (x2 : Int32) (x3 : Int32) (x4 : Int32) (x5 : Int32) (Y' : q_St), q_S p l e (q_rm 3 68) s m args below meth c 10 dC dI dA A α (MQ below (q_Q α dC dI dA A ((fun _ => none) t) ((fun u => w_X4X0 u B) t)) args s 0 0 A) 0 0 (r14 x2 x3 x4 x5 Y') t 14 [(0, .ref 50), (1, .ref 57), (2, .int x2), (3, .int x3), (4, .int x4), (5, .int x5)] [] (w_X4X0 Y' B))
    (hr39 : ∀ (x2 : Int32) (x3 : Int32) (x4 : Int32) (x5 : Int32) (x6 : Int32) (x7 : Int32) (x8 : Int32) (Y' : q_St), q_S p l e (q_rm 3 68) s m args below meth c 10 dC dI dA A α (MQ below (q_Q α dC dI dA A ((fun _ => none) t) ((fun u => w_X4X0 u B) t)) args s 0 0 A) 0 0 (r39 x2 x3 x4 x5 x6 x7 x8 Y') t 39 [(0, .ref 50), (1, .ref 57), (2, .int x2), (3, .int x3), (4, .int x4), (5, .int x5), (6, .int x6), (7, .int x7), (8, .int x8)] [] (w_X4X0 Y' B)) : ∀ (x2 : Int32) (x3 : Int32) (x4 : Int32) (x5 : Int32) (x6 : Int32) (x7 : Int32) (x8 : Int32) (x9 : Int32) (s0 : Int32) (s1 : Int32) (Y' : q_St), q_S p l e (q_rm 3 68) s m args below meth c 10 dC dI dA A α (MQ below (q_Q α dC dI dA A ((fun _ => none) t) ((fun u => w_X4X0 u B) t)) args s 0 0 A) 0 0 (f_X4_stepBack_90 Y B a2 r14 r39 x2 x3 x4 x5 x6 x7 x8 x9 s0 s1 Y') t 90 [(0, .ref 50), (1, .ref 57), (2, .int x2), (3, .int x3), (4, .int x4), (5, .int x5), (6, .int x6), (7, .int x7), (8, .int x8), (9, .int x9)] [.int s0, .int s1, .ref 53] (w_X4X0 Y' B) := by
  intro x2 x3 x4 x5 x6 x7 x8 x9 s0 s1 Y'
  refine r_cut (f_X4_stepBack_90.eq_1 _ _ _ _ _ _ _ _ _ _ _ _ _ _ _ _) ?_
  refine r_iast C 3 _ dX4_stepBack_90 rfl rfl rfl (fun hi90 => ?_)
  refine r_iload C 7 dX4_stepBack_91 rfl ?_
  refine r_aload_n C 0 dX4_stepBack_93 rfl ?_
  refine r_get C 0 2 dX4_stepBack_94 K_X4 rfl rfl (Nat.le_of_ble_eq_true rfl) rfl m_104 rfl ?_
  refine r_iload C 9 dX4_stepBack_97 rfl ?_
  refine r_iald C 3 dX4_stepBack_99 rfl rfl (fun hi99 => ?_)
  refine r_aload_n C 0 dX4_stepBack_100 rfl ?_
  refine r_get C 0 3 dX4_stepBack_101 K_X4 rfl rfl (Nat.le_of_ble_eq_true rfl) rfl m_105 rfl ?_
  refine r_iload C 8 dX4_stepBack_104 rfl ?_
  refine r_iconst C (1) dX4_stepBack_106 rfl ?_
  refine r_iadd C dX4_stepBack_107 ?_
  refine r_iald C 4 dX4_stepBack_108 rfl rfl (fun hi108 => ?_)
  refine r_iadd C dX4_stepBack_109 ?_
  refine r_mmin C dX4_stepBack_110 m_461 m_462 m_8 m_463 (Nat.le_of_ble_eq_true rfl) (Nat.le_of_ble_eq_true rfl) (Nat.zero_le _) (Nat.zero_le _) ?_
  refine r_istore C [(7, .int (if (((upd (Y'.2 2) s1.toNatClampNeg s0) x9.toNatClampNeg) + (Y'.2 3 (x8 + (1 : Int32)).toNatClampNeg)) < x7 then (((upd (Y'.2 2) s1.toNatClampNeg s0) x9.toNatClampNeg) + (Y'.2 3 (x8 + (1 : Int32)).toNatClampNeg)) else x7)), (0, .ref 50), (1, .ref 57), (2, .int x2), (3, .int x3), (4, .int x4), (5, .int x5), (6, .int x6), (8, .int x8), (9, .int x9)] dX4_stepBack_113 (Nat.le_of_ble_eq_true rfl) rfl ?_
  refine r_iinc C 8 (x8 + 1) [(8, .int (x8 + 1)), (7, .int (if (((upd (Y'.2 2) s1.toNatClampNeg s0) x9.toNatClampNeg) + (Y'.2 3 (x8 + (1 : Int32)).toNatClampNeg)) < x7 then (((upd (Y'.2 2) s1.toNatClampNeg s0) x9.toNatClampNeg) + (Y'.2 3 (x8 + (1 : Int32)).toNatClampNeg)) else x7)), (0, .ref 50), (1, .ref 57), (2, .int x2), (3, .int x3), (4, .int x4), (5, .int x5), (6, .int x6), (9, .int x9)] dX4_stepBack_115 rfl rfl (Nat.le_of_ble_eq_true rfl) rfl ?_
  refine r_goto C 39 dX4_stepBack_118 (by decide) ?_
  refine r_lv [(0, .ref 50), (1, .ref 57), (2, .int x2), (3, .int x3), (4, .int x4), (5, .int x5), (6, .int x6), (7, .int (if (((upd (Y'.2 2) s1.toNatClampNeg s0) x9.toNatClampNeg) + (Y'.2 3 (x8 + (1 : Int32)).toNatClampNeg)) < x7 then (((upd (Y'.2 2) s1.toNatClampNeg s0) x9.toNatClampNeg) + (Y'.2 3 (x8 + (1 : Int32)).toNatClampNeg)) else x7)), (8, .int (x8 + 1))] [2, 3, 4, 5, 6, 7, 8, 1, 0] rfl ?_
  exact hr39 x2 x3 x4 x5 x6 (if (((upd (Y'.2 2) s1.toNatClampNeg s0) x9.toNatClampNeg) + (Y'.2 3 (x8 + (1 : Int32)).toNatClampNeg)) < x7 then (((upd (Y'.2 2) s1.toNatClampNeg s0) x9.toNatClampNeg) + (Y'.2 3 (x8 + (1 : Int32)).toNatClampNeg)) else x7) (x8 + 1) (Y'.1, (va_up Y'.2 2 (upd (Y'.2 2) s1.toNatClampNeg s0)))
set_option maxRecDepth 100000 in
set_option maxHeartbeats 4000000 in
theorem k_X4_stepBack_39 {p : Program} {l : Launch} {e : Env} {s : State} {m : MethodId} {args : Array Value} {below : List Frame} {meth : Method} {c : Code} {dC : Nat → ClassId} {dI : Nat → Nat → Nat} {dA : Nat → ClassId} {A : Nat → Prop} {α : Nat → Nat} {t : q_St} (C : q_Cx p s m args meth c cX4_stepBack 10 RX4 none "stepBack" dC dI dA A α) (Y : q_St) (B : q_St) (a2 : Int32) (r14 : Int32 → Int32 → Int32 → Int32 → q_St → Option (q_St))
    (hr14 : ∀ (x2 : Int32) (x3 : Int32) (x4 : Int32) (x5 : Int32) (Y' : q_St), q_S p l e (q_rm 3 68) s m args below meth c 10 dC dI dA A α (MQ below (q_Q α dC dI dA A ((fun _ => none) t) ((fun u => w_X4X0 u B) t)) args s 0 0 A) 0 0 (r14 x2 x3 x4 x5 Y') t 14 [(0, .ref 50), (1, .ref 57), (2, .int x2), (3, .int x3), (4, .int x4), (5, .int x5)] [] (w_X4X0 Y' B)) : ∀ (n : Nat) (x2 : Int32) (x3 : Int32) (x4 : Int32) (x5 : Int32) (x6 : Int32) (x7 : Int32) (x8 : Int32) (Y' : q_St), q_S p l e (q_rm 3 68) s m args below meth c 10 dC dI dA A α (MQ below (q_Q α dC dI dA A ((fun _ => none) t) ((fun u => w_X4X0 u B) t)) args s 0 0 A) 0 0 (f_X4_stepBack_39 Y B a2 r14 n x2 x3 x4 x5 x6 x7 x8 Y') t 39 [(0, .ref 50), (1, .ref 57), (2, .int x2), (3, .int x3), (4, .int x4), (5, .int x5), (6, .int x6), (7, .int x7), (8, .int x8)] [] (w_X4X0 Y' B) := by
  intro n
  induction n with
  | zero =>
    intro x2 x3 x4 x5 x6 x7 x8 Y'
    exact r_cut (f_X4_stepBack_39.eq_1 _ _ _ _ _ _ _ _ _ _ _ _) (r_none True.intro)
  | succ n ih =>
    intro x2 x3 x4 x5 x6 x7 x8 Y'
    refine r_cut (f_X4_stepBack_39.eq_2 _ _ _ _ _ _ _ _ _ _ _ _ _) ?_
    refine r_iload C 8 dX4_stepBack_39 rfl ?_
    refine r_aload_n C 1 dX4_stepBack_41 rfl ?_
    refine r_get C 7 0 dX4_stepBack_42 K_X0 rfl rfl (Nat.le_of_ble_eq_true rfl) rfl m_32 rfl ?_
    refine r_icmp_ge C 121 dX4_stepBack_45 (by decide) (fun h45 => ?_) (fun h45 => ?_)
    · refine r_iconst C (-1) dX4_stepBack_121 rfl ?_
      refine r_istore C [(8, .int (-1 : Int32)), (0, .ref 50), (1, .ref 57), (2, .int x2), (3, .int x3), (4, .int x4), (5, .int x5), (6, .int x6), (7, .int x7)] dX4_stepBack_122 (Nat.le_of_ble_eq_true rfl) rfl ?_
      refine r_lv [(0, .ref 50), (1, .ref 57), (2, .int x2), (3, .int x3), (4, .int x4), (5, .int x5), (7, .int x7), (8, .int (-1 : Int32))] [1, 2, 3, 4, 5, 6, 8, 0] rfl ?_
      exact k_X4_stepBack_124 C Y B a2 r14 hr14 q_N x2 x3 x4 x5 x7 (-1 : Int32) Y'
    · refine r_iload C 5 dX4_stepBack_48 rfl ?_
      refine r_iload C 8 dX4_stepBack_50 rfl ?_
      refine r_callS C (o_X4_place l x5 x8) v_X4_place m_458 [] [.int x5, .int x8] [] (fun u2 => [.int u2]) (fun u2 => w_X4X0 Y' B) rfl rfl rfl rfl rfl (Nat.le_of_ble_eq_true rfl) ⟨(Nat.le_of_ble_eq_true rfl), (Nat.le_of_ble_eq_true rfl)⟩ ⟨Nat.zero_le _, Nat.zero_le _⟩ dX4_stepBack_52 (fun _ => rfl) (fun _ => rfl) (fun _ => rfl) (fun u2 => ?_)
      refine r_istore C [(9, .int u2), (0, .ref 50), (1, .ref 57), (2, .int x2), (3, .int x3), (4, .int x4), (5, .int x5), (6, .int x6), (7, .int x7), (8, .int x8)] dX4_stepBack_55 (Nat.le_of_ble_eq_true rfl) rfl ?_
      refine r_aload_n C 1 dX4_stepBack_57 rfl ?_
      refine r_get C 0 2 dX4_stepBack_58 K_X4 rfl rfl (Nat.le_of_ble_eq_true rfl) rfl m_104 rfl ?_
      refine r_iload C 0 dX4_stepBack_61 rfl ?_
      refine r_iload C 7 dX4_stepBack_63 rfl ?_
      refine r_iload C 9 dX4_stepBack_65 rfl ?_
      refine r_iconst C (1) dX4_stepBack_67 rfl ?_
      refine r_iadd C dX4_stepBack_68 ?_
      refine r_ishr C dX4_stepBack_69 ?_
      refine r_iconst C (1) dX4_stepBack_70 rfl ?_
      refine r_iand C dX4_stepBack_71 ?_
      refine r_if_eq C 88 dX4_stepBack_72 (by decide) (fun h72 => ?_) (fun h72 => ?_)
      · refine r_ldc C (1000000) dX4_stepBack_88 m_457 ?_
        refine r_lv [(0, .ref 50), (1, .ref 57), (2, .int x2), (3, .int x3), (4, .int x4), (5, .int x5), (6, .int x6), (7, .int x7), (8, .int x8), (9, .int u2)] [1, 2, 3, 4, 5, 6, 7, 8, 9, 0] rfl ?_
        exact k_X4_stepBack_90 C Y B a2 r14 (fun x2 x3 x4 x5 x6 x7 x8 Y' => f_X4_stepBack_39 Y B a2 r14 n x2 x3 x4 x5 x6 x7 x8 Y') hr14 ih x2 x3 x4 x5 x6 x7 x8 u2 (1000000 : Int32) u2 Y'
      · refine r_aload_n C 1 dX4_stepBack_75 rfl ?_
        refine r_get C 0 0 dX4_stepBack_76 K_X4 rfl rfl (Nat.le_of_ble_eq_true rfl) rfl m_102 rfl ?_
        refine r_iload C 5 dX4_stepBack_79 rfl ?_
        refine r_iload C 0 dX4_stepBack_81 rfl ?_
        refine r_iadd C dX4_stepBack_83 ?_
        refine r_iald C 1 dX4_stepBack_84 rfl rfl (fun hi84 => ?_)
        refine r_goto C 90 dX4_stepBack_85 (by decide) ?_
        refine r_lv [(0, .ref 50), (1, .ref 57), (2, .int x2), (3, .int x3), (4, .int x4), (5, .int x5), (6, .int x6), (7, .int x7), (8, .int x8), (9, .int u2)] [1, 2, 3, 4, 5, 6, 7, 8, 9, 0] rfl ?_
        exact k_X4_stepBack_90 C Y B a2 r14 (fun x2 x3 x4 x5 x6 x7 x8 Y' => f_X4_stepBack_39 Y B a2 r14 n x2 x3 x4 x5 x6 x7 x8 Y') hr14 ih x2 x3 x4 x5 x6 x7 x8 u2 (Y'.2 0 (x4 + u2).toNatClampNeg) u2 Y'
set_option maxRecDepth 100000 in
set_option maxHeartbeats 4000000 in
theorem k_X4_stepBack_14 {p : Program} {l : Launch} {e : Env} {s : State} {m : MethodId} {args : Array Value} {below : List Frame} {meth : Method} {c : Code} {dC : Nat → ClassId} {dI : Nat → Nat → Nat} {dA : Nat → ClassId} {A : Nat → Prop} {α : Nat → Nat} {t : q_St} (C : q_Cx p s m args meth c cX4_stepBack 10 RX4 none "stepBack" dC dI dA A α) (Y : q_St) (B : q_St) (a2 : Int32)  : ∀ (n : Nat) (x2 : Int32) (x3 : Int32) (x4 : Int32) (x5 : Int32) (Y' : q_St), q_S p l e (q_rm 3 68) s m args below meth c 10 dC dI dA A α (MQ below (q_Q α dC dI dA A ((fun _ => none) t) ((fun u => w_X4X0 u B) t)) args s 0 0 A) 0 0 (f_X4_stepBack_14 Y B a2  n x2 x3 x4 x5 Y') t 14 [(0, .ref 50), (1, .ref 57), (2, .int x2), (3, .int x3), (4, .int x4), (5, .int x5)] [] (w_X4X0 Y' B) := by
  intro n
  induction n with
  | zero =>
    intro x2 x3 x4 x5 Y'
    exact r_cut (f_X4_stepBack_14.eq_1 _ _ _ _ _ _ _ _) (r_none True.intro)
  | succ n ih =>
    intro x2 x3 x4 x5 Y'
    refine r_cut (f_X4_stepBack_14.eq_2 _ _ _ _ _ _ _ _ _) ?_
    refine r_iload C 5 dX4_stepBack_14 rfl ?_
    refine r_aload_n C 1 dX4_stepBack_16 rfl ?_
    refine r_get C 7 0 dX4_stepBack_17 K_X0 rfl rfl (Nat.le_of_ble_eq_true rfl) rfl m_32 rfl ?_
    refine r_icmp_ge C 173 dX4_stepBack_20 (by decide) (fun h20 => ?_) (fun h20 => ?_)
    · refine r_iconst C (-1) dX4_stepBack_173 rfl ?_
      refine r_istore C [(5, .int (-1 : Int32)), (0, .ref 50), (1, .ref 57), (2, .int x2), (3, .int x3), (4, .int x4)] dX4_stepBack_174 (Nat.le_of_ble_eq_true rfl) rfl ?_
      refine r_lv [(0, .ref 50), (1, .ref 57), (3, .int x3), (5, .int (-1 : Int32))] [1, 2, 4, 0] rfl ?_
      exact k_X4_stepBack_176 C Y B a2   q_N x3 (-1 : Int32) Y'
    · refine r_aload_n C 1 dX4_stepBack_23 rfl ?_
      refine r_iload_n C 2 dX4_stepBack_24 rfl ?_
      refine r_iload C 5 dX4_stepBack_25 rfl ?_
      refine r_callV C (o_X0_rightsBeside l B x2 x5) v_X0_rightsBeside m_456 [7, 8, 9, 10, 11, 12, 13] [.int x2, .int x5] [] (57) (Or.inl ⟨7, 0, _, TX0, 16, rfl, rfl, rfl⟩) (fun u1 => [.int u1]) (fun u1 => w_X4X0 Y' B) rfl rfl rfl rfl rfl (Nat.le_of_ble_eq_true rfl) ⟨(Nat.le_of_ble_eq_true rfl), (Nat.le_of_ble_eq_true rfl)⟩ ⟨Nat.zero_le _, Nat.zero_le _⟩ dX4_stepBack_27 (fun _ => rfl) (fun _ => rfl) (fun _ => rfl) (fun u1 => ?_)
      refine r_istore C [(6, .int u1), (0, .ref 50), (1, .ref 57), (2, .int x2), (3, .int x3), (4, .int x4), (5, .int x5)] dX4_stepBack_30 (Nat.le_of_ble_eq_true rfl) rfl ?_
      refine r_ldc C (1000000) dX4_stepBack_32 m_457 ?_
      refine r_istore C [(7, .int (1000000 : Int32)), (6, .int u1), (0, .ref 50), (1, .ref 57), (2, .int x2), (3, .int x3), (4, .int x4), (5, .int x5)] dX4_stepBack_34 (Nat.le_of_ble_eq_true rfl) rfl ?_
      refine r_iconst C (-1) dX4_stepBack_36 rfl ?_
      refine r_istore C [(8, .int (-1 : Int32)), (7, .int (1000000 : Int32)), (6, .int u1), (0, .ref 50), (1, .ref 57), (2, .int x2), (3, .int x3), (4, .int x4), (5, .int x5)] dX4_stepBack_37 (Nat.le_of_ble_eq_true rfl) rfl ?_
      refine r_lv [(0, .ref 50), (1, .ref 57), (2, .int x2), (3, .int x3), (4, .int x4), (5, .int x5), (6, .int u1), (7, .int (1000000 : Int32)), (8, .int (-1 : Int32))] [3, 4, 5, 6, 7, 8, 2, 1, 0] rfl ?_
      exact k_X4_stepBack_39 C Y B a2 (fun x2 x3 x4 x5 Y' => f_X4_stepBack_14 Y B a2  n x2 x3 x4 x5 Y') ih q_N x2 x3 x4 x5 u1 (1000000 : Int32) (-1 : Int32) Y'
set_option maxRecDepth 100000 in
set_option maxHeartbeats 4000000 in
theorem o_X4_stepBack (l : Launch) (Y : q_St) (B : q_St) (a2 : Int32) : q_Ok l yX4_stepBack cX4_stepBack 10 none 3 68 [.ref 50, .ref 57, .int a2] (w_X4X0 Y B) (f_X4_stepBack Y B a2) (fun _ => none) (fun u => w_X4X0 u B) := by
  refine q_enter (by decide +kernel) (Nat.le_of_ble_eq_true rfl) (fun t p e s m args below meth c dC dI dA A α C => ?_)
  refine r_cut (f_X4_stepBack.eq_1 _ _ _) ?_
  show q_S p l e (q_rm 3 68) s m args below meth c 10 dC dI dA A α (MQ below (q_Q α dC dI dA A ((fun _ => none) t) ((fun u => w_X4X0 u B) t)) args s 0 0 A) 0 0 _ t 0 [(0, .ref 50), (1, .ref 57), (2, .int a2)] [] (w_X4X0 Y B)
  refine r_iload_n C 2 dX4_stepBack_0 rfl ?_
  refine r_bipush C (81) dX4_stepBack_1 rfl ?_
  refine r_imul C dX4_stepBack_3 ?_
  refine r_istore_n C [(3, .int (a2 * (81 : Int32))), (0, .ref 50), (1, .ref 57), (2, .int a2)] dX4_stepBack_4 (Nat.le_of_ble_eq_true rfl) rfl ?_
  refine r_iload_n C 0 dX4_stepBack_5 rfl ?_
  refine r_bipush C (81) dX4_stepBack_6 rfl ?_
  refine r_iadd C dX4_stepBack_8 ?_
  refine r_istore C [(4, .int ((a2 * (81 : Int32)) + (81 : Int32))), (3, .int (a2 * (81 : Int32))), (0, .ref 50), (1, .ref 57), (2, .int a2)] dX4_stepBack_9 (Nat.le_of_ble_eq_true rfl) rfl ?_
  refine r_iconst C (-1) dX4_stepBack_11 rfl ?_
  refine r_istore C [(5, .int (-1 : Int32)), (4, .int ((a2 * (81 : Int32)) + (81 : Int32))), (3, .int (a2 * (81 : Int32))), (0, .ref 50), (1, .ref 57), (2, .int a2)] dX4_stepBack_12 (Nat.le_of_ble_eq_true rfl) rfl ?_
  refine r_lv [(0, .ref 50), (1, .ref 57), (2, .int a2), (3, .int (a2 * (81 : Int32))), (4, .int ((a2 * (81 : Int32)) + (81 : Int32))), (5, .int (-1 : Int32))] [3, 4, 5, 2, 1, 0] rfl ?_
  exact k_X4_stepBack_14 C Y B a2   q_N a2 (a2 * (81 : Int32)) ((a2 * (81 : Int32)) + (81 : Int32)) (-1 : Int32) Y
set_option maxRecDepth 100000 in
set_option maxHeartbeats 4000000 in
theorem o_X4_worthFrom (l : Launch) (Y : q_St) (a1 : Int32) (a2 : Int32) (a3 : Int32) : q_Ok l yX4_worthFrom cX4_worthFrom 5 (some .int) 1 21 [.ref 50, .int a1, .int a2, .int a3] (w_X4 Y) (f_X4_worthFrom Y a1 a2 a3) (fun u => some (.int u)) (fun u => w_X4 Y) := by
  refine q_enter (by decide +kernel) (Nat.le_of_ble_eq_true rfl) (fun t p e s m args below meth c dC dI dA A α C => ?_)
  refine r_cut (f_X4_worthFrom.eq_1 _ _ _ _) ?_
  show q_S p l e (q_rm 1 21) s m args below meth c 5 dC dI dA A α (MQ below (q_Q α dC dI dA A ((fun u => some (.int u)) t) ((fun u => w_X4 Y) t)) args s 0 0 A) 0 0 _ t 0 [(0, .ref 50), (1, .int a1), (2, .int a2), (3, .int a3)] [] (w_X4 Y)
  refine r_iload_n C 1 dX4_worthFrom_0 rfl ?_
  refine r_bipush C (81) dX4_worthFrom_1 rfl ?_
  refine r_imul C dX4_worthFrom_3 ?_
  refine r_iload_n C 2 dX4_worthFrom_4 rfl ?_
  refine r_iload_n C 3 dX4_worthFrom_5 rfl ?_
  refine r_callS C (o_X4_place l a2 a3) v_X4_place m_458 [] [.int a2, .int a3] [.int (a1 * (81 : Int32))] (fun u1 => [.int u1, .int (a1 * (81 : Int32))]) (fun u1 => w_X4 Y) rfl rfl rfl rfl rfl (Nat.le_of_ble_eq_true rfl) ⟨(Nat.le_of_ble_eq_true rfl), (Nat.le_of_ble_eq_true rfl)⟩ ⟨Nat.zero_le _, Nat.zero_le _⟩ dX4_worthFrom_6 (fun _ => rfl) (fun _ => rfl) (fun _ => rfl) (fun u1 => ?_)
  refine r_iadd C dX4_worthFrom_9 ?_
  refine r_istore C [(4, .int ((a1 * (81 : Int32)) + u1)), (0, .ref 50), (1, .int a1), (2, .int a2), (3, .int a3)] dX4_worthFrom_10 (Nat.le_of_ble_eq_true rfl) rfl ?_
  refine r_iload C 0 dX4_worthFrom_12 rfl ?_
  refine r_if_lt C 37 dX4_worthFrom_14 (by decide) (fun h14 => ?_) (fun h14 => ?_)
  · refine r_ldc C (1000000) dX4_worthFrom_37 m_457 ?_
    exact r_reti (x := (1000000 : Int32)) (rv := (fun u => some (.int u))) (hpE := (fun u => w_X4 Y)) (t0 := (1000000 : Int32)) C dX4_worthFrom_39 (by rfl) (by rfl) (by rfl)
  · refine r_iload C 0 dX4_worthFrom_17 rfl ?_
    refine r_aload_n C 1 dX4_worthFrom_19 rfl ?_
    refine r_get C 0 0 dX4_worthFrom_20 K_X4 rfl rfl (Nat.le_of_ble_eq_true rfl) rfl m_102 rfl ?_
    refine r_alen C 1 (1053) dX4_worthFrom_23 rfl rfl rfl rfl ?_
    refine r_icmp_ge C 37 dX4_worthFrom_24 (by decide) (fun h24 => ?_) (fun h24 => ?_)
    · refine r_ldc C (1000000) dX4_worthFrom_37 m_457 ?_
      exact r_reti (x := (1000000 : Int32)) (rv := (fun u => some (.int u))) (hpE := (fun u => w_X4 Y)) (t0 := (1000000 : Int32)) C dX4_worthFrom_39 (by rfl) (by rfl) (by rfl)
    · refine r_aload_n C 1 dX4_worthFrom_27 rfl ?_
      refine r_get C 0 0 dX4_worthFrom_28 K_X4 rfl rfl (Nat.le_of_ble_eq_true rfl) rfl m_102 rfl ?_
      refine r_iload C 0 dX4_worthFrom_31 rfl ?_
      refine r_iald C 1 dX4_worthFrom_33 rfl rfl (fun hi33 => ?_)
      refine r_goto C 39 dX4_worthFrom_34 (by decide) ?_
      exact r_reti (x := (Y.2 0 ((a1 * (81 : Int32)) + u1).toNatClampNeg)) (rv := (fun u => some (.int u))) (hpE := (fun u => w_X4 Y)) (t0 := (Y.2 0 ((a1 * (81 : Int32)) + u1).toNatClampNeg)) C dX4_worthFrom_39 (by rfl) (by rfl) (by rfl)
set_option maxRecDepth 100000 in
set_option maxHeartbeats 4000000 in
theorem k_X4_worth_13 {p : Program} {l : Launch} {e : Env} {s : State} {m : MethodId} {args : Array Value} {below : List Frame} {meth : Method} {c : Code} {dC : Nat → ClassId} {dI : Nat → Nat → Nat} {dA : Nat → ClassId} {A : Nat → Prop} {α : Nat → Nat} {t : Int32 × q_St} (C : q_Cx p s m args meth c cX4_worth 4 RX4 (some .int) "worth" dC dI dA A α) (Y : q_St) (B : q_St) (a2 : Int32)  : ∀ (n : Nat) (x3 : Int32) (Y' : q_St), q_S p l e (q_rm 5 117) s m args below meth c 4 dC dI dA A α (MQ below (q_Q α dC dI dA A ((fun u => some (.int u.1)) t) ((fun u => w_X4X0 u.2 B) t)) args s 0 0 A) 0 0 (f_X4_worth_13 Y B a2  n x3 Y') t 13 [(0, .ref 50), (1, .ref 57), (3, .int x3)] [] (w_X4X0 Y' B) := by
  intro n
  induction n with
  | zero =>
    intro x3 Y'
    exact r_cut (f_X4_worth_13.eq_1 _ _ _ _ _) (r_none True.intro)
  | succ n ih =>
    intro x3 Y'
    refine r_cut (f_X4_worth_13.eq_2 _ _ _ _ _ _) ?_
    refine r_iload_n C 2 dX4_worth_13 rfl ?_
    refine r_if_lt C 29 dX4_worth_14 (by decide) (fun h14 => ?_) (fun h14 => ?_)
    · refine r_aload_n C 0 dX4_worth_29 rfl ?_
      refine r_iconst C (0) dX4_worth_30 rfl ?_
      refine r_aload_n C 1 dX4_worth_31 rfl ?_
      refine r_get C 7 2 dX4_worth_32 K_X0 rfl rfl (Nat.le_of_ble_eq_true rfl) rfl m_38 rfl ?_
      refine r_aload_n C 1 dX4_worth_35 rfl ?_
      refine r_get C 7 3 dX4_worth_36 K_X0 rfl rfl (Nat.le_of_ble_eq_true rfl) rfl m_41 rfl ?_
      refine r_callV C (o_X4_worthFrom l Y' (0 : Int32) (B.1 2) (B.1 3)) v_X4_worthFrom m_464 [0, 1, 2, 3, 4, 5, 6] [.int (0 : Int32), .int (B.1 2), .int (B.1 3)] [] (50) (Or.inl ⟨0, 3, _, TX4, 6, rfl, rfl, rfl⟩) (fun u2 => [.int u2]) (fun u2 => w_X4X0 Y' B) rfl rfl rfl rfl rfl (Nat.le_of_ble_eq_true rfl) ⟨(Nat.le_of_ble_eq_true rfl), (Nat.le_of_ble_eq_true rfl)⟩ ⟨Nat.zero_le _, Nat.zero_le _⟩ dX4_worth_39 (fun _ => rfl) (fun _ => rfl) (fun _ => rfl) (fun u2 => ?_)
      exact r_reti (x := u2) (rv := (fun u => some (.int u.1))) (hpE := (fun u => w_X4X0 u.2 B)) (t0 := (u2, Y')) C dX4_worth_42 (by rfl) (by rfl) (by rfl)
    · refine r_aload_n C 0 dX4_worth_17 rfl ?_
      refine r_aload_n C 1 dX4_worth_18 rfl ?_
      refine r_iload_n C 2 dX4_worth_19 rfl ?_
      refine r_callV0 C (o_X4_stepBack l Y' B x3) v_X4_stepBack m_452 [.ref 57, .int x3] [] (50) (Or.inl ⟨0, 3, _, TX4, 6, rfl, rfl, rfl⟩) (fun u3 => []) (fun u3 => w_X4X0 u3 B) rfl rfl rfl (Nat.le_of_ble_eq_true rfl) ⟨(Nat.le_of_ble_eq_true rfl), (Nat.le_of_ble_eq_true rfl)⟩ ⟨Nat.zero_le _, Nat.zero_le _⟩ dX4_worth_20 (fun _ => rfl) (fun _ => rfl) (fun _ => rfl) (fun u3 => ?_)
      refine r_iinc C 2 (x3 + (-1)) [(3, .int (x3 + (-1))), (0, .ref 50), (1, .ref 57)] dX4_worth_23 rfl rfl (Nat.le_of_ble_eq_true rfl) rfl ?_
      refine r_goto C 13 dX4_worth_26 (by decide) ?_
      refine r_lv [(0, .ref 50), (1, .ref 57), (3, .int (x3 + (-1)))] [1, 2, 0] rfl ?_
      exact ih (x3 + (-1)) u3
set_option maxRecDepth 100000 in
set_option maxHeartbeats 4000000 in
theorem o_X4_worth (l : Launch) (Y : q_St) (B : q_St) (a2 : Int32) : q_Ok l yX4_worth cX4_worth 4 (some .int) 5 117 [.ref 50, .ref 57, .int a2] (w_X4X0 Y B) (f_X4_worth Y B a2) (fun u => some (.int u.1)) (fun u => w_X4X0 u.2 B) := by
  refine q_enter (by decide +kernel) (Nat.le_of_ble_eq_true rfl) (fun t p e s m args below meth c dC dI dA A α C => ?_)
  refine r_cut (f_X4_worth.eq_1 _ _ _) ?_
  show q_S p l e (q_rm 5 117) s m args below meth c 4 dC dI dA A α (MQ below (q_Q α dC dI dA A ((fun u => some (.int u.1)) t) ((fun u => w_X4X0 u.2 B) t)) args s 0 0 A) 0 0 _ t 0 [(0, .ref 50), (1, .ref 57), (2, .int a2)] [] (w_X4X0 Y B)
  refine r_aload_n C 0 dX4_worth_0 rfl ?_
  refine r_aload_n C 1 dX4_worth_1 rfl ?_
  refine r_iload_n C 2 dX4_worth_2 rfl ?_
  refine r_callV0 C (o_X4_begin l Y B a2) v_X4_begin m_443 [.ref 57, .int a2] [] (50) (Or.inl ⟨0, 3, _, TX4, 6, rfl, rfl, rfl⟩) (fun u1 => []) (fun u1 => w_X4X0 u1 B) rfl rfl rfl (Nat.le_of_ble_eq_true rfl) ⟨(Nat.le_of_ble_eq_true rfl), (Nat.le_of_ble_eq_true rfl)⟩ ⟨Nat.zero_le _, Nat.zero_le _⟩ dX4_worth_3 (fun _ => rfl) (fun _ => rfl) (fun _ => rfl) (fun u1 => ?_)
  refine r_aload_n C 1 dX4_worth_6 rfl ?_
  refine r_get C 7 1 dX4_worth_7 K_X0 rfl rfl (Nat.le_of_ble_eq_true rfl) rfl m_33 rfl ?_
  refine r_iconst C (1) dX4_worth_10 rfl ?_
  refine r_isub C dX4_worth_11 ?_
  refine r_istore_n C [(3, .int (B.1 1 - (1 : Int32))), (0, .ref 50), (1, .ref 57), (2, .int a2)] dX4_worth_12 (Nat.le_of_ble_eq_true rfl) rfl ?_
  refine r_lv [(0, .ref 50), (1, .ref 57), (3, .int (B.1 1 - (1 : Int32)))] [1, 2, 0] rfl ?_
  exact k_X4_worth_13 C Y B a2   q_N (B.1 1 - (1 : Int32)) u1
set_option maxRecDepth 100000 in
set_option maxHeartbeats 4000000 in
theorem o_X4_move (l : Launch) (Y : q_St) (a1 : Int32) (a2 : Int32) : q_Ok l yX4_move cX4_move 3 (some .int) 0 0 [.ref 50, .int a1, .int a2] (w_X4 Y) (f_X4_move Y a1 a2) (fun u => some (.int u)) (fun u => w_X4 Y) := by
  refine q_enter (by decide +kernel) (Nat.le_of_ble_eq_true rfl) (fun t p e s m args below meth c dC dI dA A α C => ?_)
  refine r_cut (f_X4_move.eq_1 _ _ _) ?_
  show q_S p l e (q_rm 0 0) s m args below meth c 3 dC dI dA A α (MQ below (q_Q α dC dI dA A ((fun u => some (.int u)) t) ((fun u => w_X4 Y) t)) args s 0 0 A) 0 0 _ t 0 [(0, .ref 50), (1, .int a1), (2, .int a2)] [] (w_X4 Y)
  refine r_iload_n C 1 dX4_move_0 rfl ?_
  refine r_iload_n C 2 dX4_move_1 rfl ?_
  refine r_icmp_ne C 9 dX4_move_2 (by decide) (fun h2 => ?_) (fun h2 => ?_)
  · refine r_iconst C (0) dX4_move_5 rfl ?_
    refine r_goto C 17 dX4_move_6 (by decide) ?_
    exact r_reti (x := (0 : Int32)) (rv := (fun u => some (.int u))) (hpE := (fun u => w_X4 Y)) (t0 := (0 : Int32)) C dX4_move_17 (by rfl) (by rfl) (by rfl)
  · refine r_aload_n C 0 dX4_move_9 rfl ?_
    refine r_get C 0 3 dX4_move_10 K_X4 rfl rfl (Nat.le_of_ble_eq_true rfl) rfl m_105 rfl ?_
    refine r_iload_n C 2 dX4_move_13 rfl ?_
    refine r_iconst C (1) dX4_move_14 rfl ?_
    refine r_iadd C dX4_move_15 ?_
    refine r_iald C 4 dX4_move_16 rfl rfl (fun hi16 => ?_)
    exact r_reti (x := (Y.2 3 (a2 + (1 : Int32)).toNatClampNeg)) (rv := (fun u => some (.int u))) (hpE := (fun u => w_X4 Y)) (t0 := (Y.2 3 (a2 + (1 : Int32)).toNatClampNeg)) C dX4_move_17 (by rfl) (by rfl) (by rfl)
set_option maxRecDepth 100000 in
set_option maxHeartbeats 4000000 in
theorem k_X4_firstBest_25 {p : Program} {l : Launch} {e : Env} {s : State} {m : MethodId} {args : Array Value} {below : List Frame} {meth : Method} {c : Code} {dC : Nat → ClassId} {dI : Nat → Nat → Nat} {dA : Nat → ClassId} {A : Nat → Prop} {α : Nat → Nat} {t : Int32} (C : q_Cx p s m args meth c cX4_firstBest 9 RX4 (some .int) "firstBest" dC dI dA A α) (Y : q_St) (B : q_St) (a2 : Int32) (a3 : Int32) (a4 : Int32) (r13 : Int32 → Int32 → Int32 → Int32 → Int32 → Option (Int32))
    (hr13 : ∀ (x2 : Int32) (x3 : Int32) (x4 : Int32) (x5 : Int32) (x6 : Int32), q_S p l e (q_rm 4 91) s m args below meth c 9 dC dI dA A α (MQ below (q_Q α dC dI dA A ((fun u => some (.int u)) t) ((fun u => w_X4X0 Y B) t)) args s 0 0 A) 0 0 (r13 x2 x3 x4 x5 x6) t 13 [(0, .ref 50), (1, .ref 57), (2, .int x2), (3, .int x3), (4, .int x4), (5, .int x5), (6, .int x6)] [] (w_X4X0 Y B)) : ∀ (n : Nat) (x2 : Int32) (x3 : Int32) (x4 : Int32) (x5 : Int32) (x6 : Int32) (x7 : Int32), q_S p l e (q_rm 4 91) s m args below meth c 9 dC dI dA A α (MQ below (q_Q α dC dI dA A ((fun u => some (.int u)) t) ((fun u => w_X4X0 Y B) t)) args s 0 0 A) 0 0 (f_X4_firstBest_25 Y B a2 a3 a4 r13 n x2 x3 x4 x5 x6 x7) t 25 [(0, .ref 50), (1, .ref 57), (2, .int x2), (3, .int x3), (4, .int x4), (5, .int x5), (6, .int x6), (7, .int x7)] [] (w_X4X0 Y B) := by
  intro n
  induction n with
  | zero =>
    intro x2 x3 x4 x5 x6 x7
    exact r_cut (f_X4_firstBest_25.eq_1 _ _ _ _ _ _ _ _ _ _ _ _) (r_none True.intro)
  | succ n ih =>
    intro x2 x3 x4 x5 x6 x7
    refine r_cut (f_X4_firstBest_25.eq_2 _ _ _ _ _ _ _ _ _ _ _ _ _) ?_
    refine r_iload C 7 dX4_firstBest_25 rfl ?_
    refine r_aload_n C 1 dX4_firstBest_27 rfl ?_
    refine r_get C 7 0 dX4_firstBest_28 K_X0 rfl rfl (Nat.le_of_ble_eq_true rfl) rfl m_32 rfl ?_
    refine r_icmp_ge C 97 dX4_firstBest_31 (by decide) (fun h31 => ?_) (fun h31 => ?_)
    · refine r_iinc C 6 (x6 + 1) [(6, .int (x6 + 1)), (0, .ref 50), (1, .ref 57), (2, .int x2), (3, .int x3), (4, .int x4), (5, .int x5), (7, .int x7)] dX4_firstBest_97 rfl rfl (Nat.le_of_ble_eq_true rfl) rfl ?_
      refine r_goto C 13 dX4_firstBest_100 (by decide) ?_
      refine r_lv [(0, .ref 50), (1, .ref 57), (2, .int x2), (3, .int x3), (4, .int x4), (5, .int x5), (6, .int (x6 + 1))] [1, 2, 3, 4, 5, 6, 0] rfl ?_
      exact hr13 x2 x3 x4 x5 (x6 + 1)
    · refine r_aload_n C 0 dX4_firstBest_34 rfl ?_
      refine r_iload_n C 2 dX4_firstBest_35 rfl ?_
      refine r_iconst C (1) dX4_firstBest_36 rfl ?_
      refine r_iadd C dX4_firstBest_37 ?_
      refine r_iload C 6 dX4_firstBest_38 rfl ?_
      refine r_iload C 7 dX4_firstBest_40 rfl ?_
      refine r_callV C (o_X4_worthFrom l Y (x2 + (1 : Int32)) x6 x7) v_X4_worthFrom m_464 [0, 1, 2, 3, 4, 5, 6] [.int (x2 + (1 : Int32)), .int x6, .int x7] [] (50) (Or.inl ⟨0, 3, _, TX4, 6, rfl, rfl, rfl⟩) (fun u3 => [.int u3]) (fun u3 => w_X4X0 Y B) rfl rfl rfl rfl rfl (Nat.le_of_ble_eq_true rfl) ⟨(Nat.le_of_ble_eq_true rfl), (Nat.le_of_ble_eq_true rfl)⟩ ⟨Nat.zero_le _, Nat.zero_le _⟩ dX4_firstBest_42 (fun _ => rfl) (fun _ => rfl) (fun _ => rfl) (fun u3 => ?_)
      refine r_aload_n C 0 dX4_firstBest_45 rfl ?_
      refine r_iload_n C 3 dX4_firstBest_46 rfl ?_
      refine r_iload C 6 dX4_firstBest_47 rfl ?_
      refine r_callV C (o_X4_move l Y x3 x6) v_X4_move m_481 [0, 1, 2, 3, 4, 5, 6] [.int x3, .int x6] [.int u3] (50) (Or.inl ⟨0, 3, _, TX4, 6, rfl, rfl, rfl⟩) (fun u4 => [.int u4, .int u3]) (fun u4 => w_X4X0 Y B) rfl rfl rfl rfl rfl (Nat.le_of_ble_eq_true rfl) ⟨(Nat.le_of_ble_eq_true rfl), (Nat.le_of_ble_eq_true rfl)⟩ ⟨Nat.zero_le _, Nat.zero_le _⟩ dX4_firstBest_49 (fun _ => rfl) (fun _ => rfl) (fun _ => rfl) (fun u4 => ?_)
      refine r_iadd C dX4_firstBest_52 ?_
      refine r_aload_n C 0 dX4_firstBest_53 rfl ?_
      refine r_iload C 4 dX4_firstBest_54 rfl ?_
      refine r_iload C 7 dX4_firstBest_56 rfl ?_
      refine r_callV C (o_X4_move l Y x4 x7) v_X4_move m_481 [0, 1, 2, 3, 4, 5, 6] [.int x4, .int x7] [.int (u3 + u4)] (50) (Or.inl ⟨0, 3, _, TX4, 6, rfl, rfl, rfl⟩) (fun u5 => [.int u5, .int (u3 + u4)]) (fun u5 => w_X4X0 Y B) rfl rfl rfl rfl rfl (Nat.le_of_ble_eq_true rfl) ⟨(Nat.le_of_ble_eq_true rfl), (Nat.le_of_ble_eq_true rfl)⟩ ⟨Nat.zero_le _, Nat.zero_le _⟩ dX4_firstBest_58 (fun _ => rfl) (fun _ => rfl) (fun _ => rfl) (fun u5 => ?_)
      refine r_iadd C dX4_firstBest_61 ?_
      refine r_istore C [(8, .int ((u3 + u4) + u5)), (0, .ref 50), (1, .ref 57), (2, .int x2), (3, .int x3), (4, .int x4), (5, .int x5), (6, .int x6), (7, .int x7)] dX4_firstBest_62 (Nat.le_of_ble_eq_true rfl) rfl ?_
      refine r_iload C 0 dX4_firstBest_64 rfl ?_
      refine r_iload C 6 dX4_firstBest_66 rfl ?_
      refine r_icmp_ne C 91 dX4_firstBest_68 (by decide) (fun h68 => ?_) (fun h68 => ?_)
      · refine r_aload_n C 2 dX4_firstBest_71 rfl ?_
        refine r_iload_n C 3 dX4_firstBest_72 rfl ?_
        refine r_iload C 7 dX4_firstBest_73 rfl ?_
        refine r_iload C 8 dX4_firstBest_75 rfl ?_
        refine r_callV C (o_X0_isSuited l B x2 x6 x7) v_X0_isSuited m_485 [7, 8, 9, 10, 11, 12, 13] [.int x2, .int x6, .int x7] [] (57) (Or.inl ⟨7, 0, _, TX0, 16, rfl, rfl, rfl⟩) (fun u6 => [.int u6]) (fun u6 => w_X4X0 Y B) rfl rfl rfl rfl rfl (Nat.le_of_ble_eq_true rfl) ⟨(Nat.le_of_ble_eq_true rfl), (Nat.le_of_ble_eq_true rfl)⟩ ⟨Nat.zero_le _, Nat.zero_le _⟩ dX4_firstBest_77 (fun _ => rfl) (fun _ => rfl) (fun _ => rfl) (fun u6 => ?_)
        refine r_if_eq C 91 dX4_firstBest_80 (by decide) (fun h80 => ?_) (fun h80 => ?_)
        · refine r_iinc C 8 (x7 + 1) [(7, .int (x7 + 1)), (8, .int ((u3 + u4) + u5)), (0, .ref 50), (1, .ref 57), (2, .int x2), (3, .int x3), (4, .int x4), (5, .int x5), (6, .int x6)] dX4_firstBest_91 rfl rfl (Nat.le_of_ble_eq_true rfl) rfl ?_
          refine r_goto C 25 dX4_firstBest_94 (by decide) ?_
          refine r_lv [(0, .ref 50), (1, .ref 57), (2, .int x2), (3, .int x3), (4, .int x4), (5, .int x5), (6, .int x6), (7, .int (x7 + 1))] [2, 3, 4, 5, 6, 7, 8, 0] rfl ?_
          exact ih x2 x3 x4 x5 x6 (x7 + 1)
        · refine r_iload C 7 dX4_firstBest_83 rfl ?_
          refine r_iload C 8 dX4_firstBest_85 rfl ?_
          refine r_callS C (o_X4_place l x6 x7) v_X4_place m_458 [] [.int x6, .int x7] [] (fun u7 => [.int u7]) (fun u7 => w_X4X0 Y B) rfl rfl rfl rfl rfl (Nat.le_of_ble_eq_true rfl) ⟨(Nat.le_of_ble_eq_true rfl), (Nat.le_of_ble_eq_true rfl)⟩ ⟨Nat.zero_le _, Nat.zero_le _⟩ dX4_firstBest_87 (fun _ => rfl) (fun _ => rfl) (fun _ => rfl) (fun u7 => ?_)
          exact r_reti (x := u7) (rv := (fun u => some (.int u))) (hpE := (fun u => w_X4X0 Y B)) (t0 := u7) C dX4_firstBest_90 (by rfl) (by rfl) (by rfl)
      · refine r_iinc C 8 (x7 + 1) [(7, .int (x7 + 1)), (8, .int ((u3 + u4) + u5)), (0, .ref 50), (1, .ref 57), (2, .int x2), (3, .int x3), (4, .int x4), (5, .int x5), (6, .int x6)] dX4_firstBest_91 rfl rfl (Nat.le_of_ble_eq_true rfl) rfl ?_
        refine r_goto C 25 dX4_firstBest_94 (by decide) ?_
        refine r_lv [(0, .ref 50), (1, .ref 57), (2, .int x2), (3, .int x3), (4, .int x4), (5, .int x5), (6, .int x6), (7, .int (x7 + 1))] [2, 3, 4, 5, 6, 7, 8, 0] rfl ?_
        exact ih x2 x3 x4 x5 x6 (x7 + 1)
set_option maxRecDepth 100000 in
set_option maxHeartbeats 4000000 in
theorem k_X4_firstBest_13 {p : Program} {l : Launch} {e : Env} {s : State} {m : MethodId} {args : Array Value} {below : List Frame} {meth : Method} {c : Code} {dC : Nat → ClassId} {dI : Nat → Nat → Nat} {dA : Nat → ClassId} {A : Nat → Prop} {α : Nat → Nat} {t : Int32} (C : q_Cx p s m args meth c cX4_firstBest 9 RX4 (some .int) "firstBest" dC dI dA A α) (Y : q_St) (B : q_St) (a2 : Int32) (a3 : Int32) (a4 : Int32)  : ∀ (n : Nat) (x2 : Int32) (x3 : Int32) (x4 : Int32) (x5 : Int32) (x6 : Int32), q_S p l e (q_rm 4 91) s m args below meth c 9 dC dI dA A α (MQ below (q_Q α dC dI dA A ((fun u => some (.int u)) t) ((fun u => w_X4X0 Y B) t)) args s 0 0 A) 0 0 (f_X4_firstBest_13 Y B a2 a3 a4  n x2 x3 x4 x5 x6) t 13 [(0, .ref 50), (1, .ref 57), (2, .int x2), (3, .int x3), (4, .int x4), (5, .int x5), (6, .int x6)] [] (w_X4X0 Y B) := by
  intro n
  induction n with
  | zero =>
    intro x2 x3 x4 x5 x6
    exact r_cut (f_X4_firstBest_13.eq_1 _ _ _ _ _ _ _ _ _ _) (r_none True.intro)
  | succ n ih =>
    intro x2 x3 x4 x5 x6
    refine r_cut (f_X4_firstBest_13.eq_2 _ _ _ _ _ _ _ _ _ _ _) ?_
    refine r_iload C 6 dX4_firstBest_13 rfl ?_
    refine r_aload_n C 1 dX4_firstBest_15 rfl ?_
    refine r_get C 7 0 dX4_firstBest_16 K_X0 rfl rfl (Nat.le_of_ble_eq_true rfl) rfl m_32 rfl ?_
    refine r_icmp_ge C 103 dX4_firstBest_19 (by decide) (fun h19 => ?_) (fun h19 => ?_)
    · refine r_iload_n C 3 dX4_firstBest_103 rfl ?_
      refine r_iload C 4 dX4_firstBest_104 rfl ?_
      refine r_callS C (o_X4_place l x3 x4) v_X4_place m_458 [] [.int x3, .int x4] [] (fun u2 => [.int u2]) (fun u2 => w_X4X0 Y B) rfl rfl rfl rfl rfl (Nat.le_of_ble_eq_true rfl) ⟨(Nat.le_of_ble_eq_true rfl), (Nat.le_of_ble_eq_true rfl)⟩ ⟨Nat.zero_le _, Nat.zero_le _⟩ dX4_firstBest_106 (fun _ => rfl) (fun _ => rfl) (fun _ => rfl) (fun u2 => ?_)
      exact r_reti (x := u2) (rv := (fun u => some (.int u))) (hpE := (fun u => w_X4X0 Y B)) (t0 := u2) C dX4_firstBest_109 (by rfl) (by rfl) (by rfl)
    · refine r_iconst C (-1) dX4_firstBest_22 rfl ?_
      refine r_istore C [(7, .int (-1 : Int32)), (0, .ref 50), (1, .ref 57), (2, .int x2), (3, .int x3), (4, .int x4), (5, .int x5), (6, .int x6)] dX4_firstBest_23 (Nat.le_of_ble_eq_true rfl) rfl ?_
      refine r_lv [(0, .ref 50), (1, .ref 57), (2, .int x2), (3, .int x3), (4, .int x4), (5, .int x5), (6, .int x6), (7, .int (-1 : Int32))] [1, 2, 3, 4, 5, 6, 7, 0] rfl ?_
      exact k_X4_firstBest_25 C Y B a2 a3 a4 (fun x2 x3 x4 x5 x6 => f_X4_firstBest_13 Y B a2 a3 a4  n x2 x3 x4 x5 x6) ih q_N x2 x3 x4 x5 x6 (-1 : Int32)
set_option maxRecDepth 100000 in
set_option maxHeartbeats 4000000 in
theorem o_X4_firstBest (l : Launch) (Y : q_St) (B : q_St) (a2 : Int32) (a3 : Int32) (a4 : Int32) : q_Ok l yX4_firstBest cX4_firstBest 9 (some .int) 4 91 [.ref 50, .ref 57, .int a2, .int a3, .int a4] (w_X4X0 Y B) (f_X4_firstBest Y B a2 a3 a4) (fun u => some (.int u)) (fun u => w_X4X0 Y B) := by
  refine q_enter (by decide +kernel) (Nat.le_of_ble_eq_true rfl) (fun t p e s m args below meth c dC dI dA A α C => ?_)
  refine r_cut (f_X4_firstBest.eq_1 _ _ _ _ _) ?_
  show q_S p l e (q_rm 4 91) s m args below meth c 9 dC dI dA A α (MQ below (q_Q α dC dI dA A ((fun u => some (.int u)) t) ((fun u => w_X4X0 Y B) t)) args s 0 0 A) 0 0 _ t 0 [(0, .ref 50), (1, .ref 57), (2, .int a2), (3, .int a3), (4, .int a4)] [] (w_X4X0 Y B)
  refine r_aload_n C 0 dX4_firstBest_0 rfl ?_
  refine r_iload_n C 2 dX4_firstBest_1 rfl ?_
  refine r_iload_n C 3 dX4_firstBest_2 rfl ?_
  refine r_iload C 4 dX4_firstBest_3 rfl ?_
  refine r_callV C (o_X4_worthFrom l Y a2 a3 a4) v_X4_worthFrom m_464 [0, 1, 2, 3, 4, 5, 6] [.int a2, .int a3, .int a4] [] (50) (Or.inl ⟨0, 3, _, TX4, 6, rfl, rfl, rfl⟩) (fun u1 => [.int u1]) (fun u1 => w_X4X0 Y B) rfl rfl rfl rfl rfl (Nat.le_of_ble_eq_true rfl) ⟨(Nat.le_of_ble_eq_true rfl), (Nat.le_of_ble_eq_true rfl)⟩ ⟨Nat.zero_le _, Nat.zero_le _⟩ dX4_firstBest_5 (fun _ => rfl) (fun _ => rfl) (fun _ => rfl) (fun u1 => ?_)
  refine r_istore C [(5, .int u1), (0, .ref 50), (1, .ref 57), (2, .int a2), (3, .int a3), (4, .int a4)] dX4_firstBest_8 (Nat.le_of_ble_eq_true rfl) rfl ?_
  refine r_iconst C (-1) dX4_firstBest_10 rfl ?_
  refine r_istore C [(6, .int (-1 : Int32)), (5, .int u1), (0, .ref 50), (1, .ref 57), (2, .int a2), (3, .int a3), (4, .int a4)] dX4_firstBest_11 (Nat.le_of_ble_eq_true rfl) rfl ?_
  refine r_lv [(0, .ref 50), (1, .ref 57), (2, .int a2), (3, .int a3), (4, .int a4), (5, .int u1), (6, .int (-1 : Int32))] [2, 3, 4, 5, 6, 1, 0] rfl ?_
  exact k_X4_firstBest_13 C Y B a2 a3 a4   q_N a2 a3 a4 u1 (-1 : Int32)
set_option maxRecDepth 100000 in
set_option maxHeartbeats 4000000 in
theorem k_X4_follow_21 {p : Program} {l : Launch} {e : Env} {s : State} {m : MethodId} {args : Array Value} {below : List Frame} {meth : Method} {c : Code} {dC : Nat → ClassId} {dI : Nat → Nat → Nat} {dA : Nat → ClassId} {A : Nat → Prop} {α : Nat → Nat} {t : q_St} (C : q_Cx p s m args meth c cX4_follow 7 RX4 none "follow" dC dI dA A α) (Y : q_St) (B : q_St) (a2 : Int32)  : ∀ (n : Nat) (x3 : Int32) (x4 : Int32) (x5 : Int32) (Y' : q_St), q_S p l e (q_rm 6 140) s m args below meth c 7 dC dI dA A α (MQ below (q_Q α dC dI dA A ((fun _ => none) t) ((fun u => w_X4X0 u B) t)) args s 0 0 A) 0 0 (f_X4_follow_21 Y B a2  n x3 x4 x5 Y') t 21 [(0, .ref 50), (1, .ref 57), (3, .int x3), (4, .int x4), (5, .int x5)] [] (w_X4X0 Y' B) := by
  intro n
  induction n with
  | zero =>
    intro x3 x4 x5 Y'
    exact r_cut (f_X4_follow_21.eq_1 _ _ _ _ _ _ _) (r_none True.intro)
  | succ n ih =>
    intro x3 x4 x5 Y'
    refine r_cut (f_X4_follow_21.eq_2 _ _ _ _ _ _ _ _) ?_
    refine r_iload C 4 dX4_follow_21 rfl ?_
    refine r_aload_n C 1 dX4_follow_23 rfl ?_
    refine r_get C 7 1 dX4_follow_24 K_X0 rfl rfl (Nat.le_of_ble_eq_true rfl) rfl m_33 rfl ?_
    refine r_icmp_ge C 82 dX4_follow_27 (by decide) (fun h27 => ?_) (fun h27 => ?_)
    · exact r_retv (rv := (fun _ => none)) (hpE := (fun u => w_X4X0 u B)) (t0 := Y') C dX4_follow_82 (by rfl) (by rfl) (by rfl)
    · refine r_aload_n C 0 dX4_follow_30 rfl ?_
      refine r_aload_n C 1 dX4_follow_31 rfl ?_
      refine r_iload C 4 dX4_follow_32 rfl ?_
      refine r_iload_n C 2 dX4_follow_34 rfl ?_
      refine r_iload C 3 dX4_follow_35 rfl ?_
      refine r_callV0 C (o_X4_firstBest l Y' B x5 x3 x4) v_X4_firstBest m_477 [.ref 57, .int x5, .int x3, .int x4] [] (50) (Or.inl ⟨0, 3, _, TX4, 6, rfl, rfl, rfl⟩) (fun u2 => [.int u2]) (fun u2 => w_X4X0 Y' B) rfl rfl rfl (Nat.le_of_ble_eq_true rfl) ⟨(Nat.le_of_ble_eq_true rfl), (Nat.le_of_ble_eq_true rfl)⟩ ⟨Nat.zero_le _, Nat.zero_le _⟩ dX4_follow_37 (fun _ => rfl) (fun _ => rfl) (fun _ => rfl) (fun u2 => ?_)
      refine r_istore C [(6, .int u2), (0, .ref 50), (1, .ref 57), (3, .int x3), (4, .int x4), (5, .int x5)] dX4_follow_40 (Nat.le_of_ble_eq_true rfl) rfl ?_
      refine r_iload C 0 dX4_follow_42 rfl ?_
      refine r_bipush C (9) dX4_follow_44 rfl ?_
      refine r_idiv C dX4_follow_46 (by decide) ?_
      refine r_iconst C (1) dX4_follow_47 rfl ?_
      refine r_isub C dX4_follow_48 ?_
      refine r_istore_n C [(3, .int ((u2 / (9 : Int32)) - (1 : Int32))), (6, .int u2), (0, .ref 50), (1, .ref 57), (4, .int x4), (5, .int x5)] dX4_follow_49 (Nat.le_of_ble_eq_true rfl) rfl ?_
      refine r_iload C 1 dX4_follow_50 rfl ?_
      refine r_bipush C (9) dX4_follow_52 rfl ?_
      refine r_irem C dX4_follow_54 (by decide) ?_
      refine r_iconst C (1) dX4_follow_55 rfl ?_
      refine r_isub C dX4_follow_56 ?_
      refine r_istore C [(4, .int ((u2 - u2 / (9 : Int32) * (9 : Int32)) - (1 : Int32))), (3, .int ((u2 / (9 : Int32)) - (1 : Int32))), (6, .int u2), (0, .ref 50), (1, .ref 57), (5, .int x5)] dX4_follow_57 (Nat.le_of_ble_eq_true rfl) rfl ?_
      refine r_aload_n C 3 dX4_follow_59 rfl ?_
      refine r_get C 0 4 dX4_follow_60 K_X4 rfl rfl (Nat.le_of_ble_eq_true rfl) rfl m_106 rfl ?_
      refine r_iload C 5 dX4_follow_63 rfl ?_
      refine r_iload_n C 1 dX4_follow_65 rfl ?_
      refine r_iast C 5 _ dX4_follow_66 rfl rfl rfl (fun hi66 => ?_)
      refine r_aload_n C 3 dX4_follow_67 rfl ?_
      refine r_get C 0 5 dX4_follow_68 K_X4 rfl rfl (Nat.le_of_ble_eq_true rfl) rfl m_107 rfl ?_
      refine r_iload C 5 dX4_follow_71 rfl ?_
      refine r_iload C 0 dX4_follow_73 rfl ?_
      refine r_iast C 6 _ dX4_follow_75 rfl rfl rfl (fun hi75 => ?_)
      refine r_iinc C 5 (x5 + 1) [(5, .int (x5 + 1)), (4, .int ((u2 - u2 / (9 : Int32) * (9 : Int32)) - (1 : Int32))), (3, .int ((u2 / (9 : Int32)) - (1 : Int32))), (6, .int u2), (0, .ref 50), (1, .ref 57)] dX4_follow_76 rfl rfl (Nat.le_of_ble_eq_true rfl) rfl ?_
      refine r_goto C 21 dX4_follow_79 (by decide) ?_
      refine r_lv [(0, .ref 50), (1, .ref 57), (3, .int ((u2 / (9 : Int32)) - (1 : Int32))), (4, .int ((u2 - u2 / (9 : Int32) * (9 : Int32)) - (1 : Int32))), (5, .int (x5 + 1))] [4, 5, 2, 1, 0] rfl ?_
      exact ih ((u2 / (9 : Int32)) - (1 : Int32)) ((u2 - u2 / (9 : Int32) * (9 : Int32)) - (1 : Int32)) (x5 + 1) (Y'.1, (va_up (va_up Y'.2 4 (upd (Y'.2 4) x5.toNatClampNeg ((u2 / (9 : Int32)) - (1 : Int32)))) 5 (upd (Y'.2 5) x5.toNatClampNeg ((u2 - u2 / (9 : Int32) * (9 : Int32)) - (1 : Int32)))))
set_option maxRecDepth 100000 in
set_option maxHeartbeats 4000000 in
theorem o_X4_follow (l : Launch) (Y : q_St) (B : q_St) (a2 : Int32) : q_Ok l yX4_follow cX4_follow 7 none 6 140 [.ref 50, .ref 57, .int a2] (w_X4X0 Y B) (f_X4_follow Y B a2) (fun _ => none) (fun u => w_X4X0 u B) := by
  refine q_enter (by decide +kernel) (Nat.le_of_ble_eq_true rfl) (fun t p e s m args below meth c dC dI dA A α C => ?_)
  refine r_cut (f_X4_follow.eq_1 _ _ _) ?_
  show q_S p l e (q_rm 6 140) s m args below meth c 7 dC dI dA A α (MQ below (q_Q α dC dI dA A ((fun _ => none) t) ((fun u => w_X4X0 u B) t)) args s 0 0 A) 0 0 _ t 0 [(0, .ref 50), (1, .ref 57), (2, .int a2)] [] (w_X4X0 Y B)
  refine r_aload_n C 0 dX4_follow_0 rfl ?_
  refine r_aload_n C 1 dX4_follow_1 rfl ?_
  refine r_iload_n C 2 dX4_follow_2 rfl ?_
  refine r_callV0 C (o_X4_worth l Y B a2) v_X4_worth m_476 [.ref 57, .int a2] [] (50) (Or.inl ⟨0, 3, _, TX4, 6, rfl, rfl, rfl⟩) (fun u1 => [.int u1.1]) (fun u1 => w_X4X0 u1.2 B) rfl rfl rfl (Nat.le_of_ble_eq_true rfl) ⟨(Nat.le_of_ble_eq_true rfl), (Nat.le_of_ble_eq_true rfl)⟩ ⟨Nat.zero_le _, Nat.zero_le _⟩ dX4_follow_3 (fun _ => rfl) (fun _ => rfl) (fun _ => rfl) (fun u1 => ?_)
  refine r_pop C dX4_follow_6 rfl ?_
  refine r_aload_n C 1 dX4_follow_7 rfl ?_
  refine r_get C 7 2 dX4_follow_8 K_X0 rfl rfl (Nat.le_of_ble_eq_true rfl) rfl m_38 rfl ?_
  refine r_istore_n C [(3, .int (B.1 2)), (0, .ref 50), (1, .ref 57), (2, .int a2)] dX4_follow_11 (Nat.le_of_ble_eq_true rfl) rfl ?_
  refine r_aload_n C 2 dX4_follow_12 rfl ?_
  refine r_get C 7 3 dX4_follow_13 K_X0 rfl rfl (Nat.le_of_ble_eq_true rfl) rfl m_41 rfl ?_
  refine r_istore C [(4, .int (B.1 3)), (3, .int (B.1 2)), (0, .ref 50), (1, .ref 57), (2, .int a2)] dX4_follow_16 (Nat.le_of_ble_eq_true rfl) rfl ?_
  refine r_iconst C (0) dX4_follow_18 rfl ?_
  refine r_istore C [(5, .int (0 : Int32)), (4, .int (B.1 3)), (3, .int (B.1 2)), (0, .ref 50), (1, .ref 57), (2, .int a2)] dX4_follow_19 (Nat.le_of_ble_eq_true rfl) rfl ?_
  refine r_lv [(0, .ref 50), (1, .ref 57), (3, .int (B.1 2)), (4, .int (B.1 3)), (5, .int (0 : Int32))] [3, 4, 2, 1, 0] rfl ?_
  exact k_X4_follow_21 C Y B a2   q_N (B.1 2) (B.1 3) (0 : Int32) u1.2
set_option maxRecDepth 100000 in
set_option maxHeartbeats 4000000 in
theorem o_X4_leftIn (l : Launch) (Y : q_St) (a1 : Int32) : q_Ok l yX4_leftIn cX4_leftIn 2 (some .int) 0 0 [.ref 50, .int a1] (w_X4 Y) (f_X4_leftIn Y a1) (fun u => some (.int u)) (fun u => w_X4 Y) := by
  refine q_enter (by decide +kernel) (Nat.le_of_ble_eq_true rfl) (fun t p e s m args below meth c dC dI dA A α C => ?_)
  refine r_cut (f_X4_leftIn.eq_1 _ _) ?_
  show q_S p l e (q_rm 0 0) s m args below meth c 2 dC dI dA A α (MQ below (q_Q α dC dI dA A ((fun u => some (.int u)) t) ((fun u => w_X4 Y) t)) args s 0 0 A) 0 0 _ t 0 [(0, .ref 50), (1, .int a1)] [] (w_X4 Y)
  refine r_iload_n C 1 dX4_leftIn_0 rfl ?_
  refine r_if_lt C 22 dX4_leftIn_1 (by decide) (fun h1 => ?_) (fun h1 => ?_)
  · refine r_iconst C (-1) dX4_leftIn_22 rfl ?_
    exact r_reti (x := (-1 : Int32)) (rv := (fun u => some (.int u))) (hpE := (fun u => w_X4 Y)) (t0 := (-1 : Int32)) C dX4_leftIn_23 (by rfl) (by rfl) (by rfl)
  · refine r_iload_n C 1 dX4_leftIn_4 rfl ?_
    refine r_aload_n C 0 dX4_leftIn_5 rfl ?_
    refine r_get C 0 4 dX4_leftIn_6 K_X4 rfl rfl (Nat.le_of_ble_eq_true rfl) rfl m_106 rfl ?_
    refine r_alen C 5 (12) dX4_leftIn_9 rfl rfl rfl rfl ?_
    refine r_icmp_ge C 22 dX4_leftIn_10 (by decide) (fun h10 => ?_) (fun h10 => ?_)
    · refine r_iconst C (-1) dX4_leftIn_22 rfl ?_
      exact r_reti (x := (-1 : Int32)) (rv := (fun u => some (.int u))) (hpE := (fun u => w_X4 Y)) (t0 := (-1 : Int32)) C dX4_leftIn_23 (by rfl) (by rfl) (by rfl)
    · refine r_aload_n C 0 dX4_leftIn_13 rfl ?_
      refine r_get C 0 4 dX4_leftIn_14 K_X4 rfl rfl (Nat.le_of_ble_eq_true rfl) rfl m_106 rfl ?_
      refine r_iload_n C 1 dX4_leftIn_17 rfl ?_
      refine r_iald C 5 dX4_leftIn_18 rfl rfl (fun hi18 => ?_)
      refine r_goto C 23 dX4_leftIn_19 (by decide) ?_
      exact r_reti (x := (Y.2 4 a1.toNatClampNeg)) (rv := (fun u => some (.int u))) (hpE := (fun u => w_X4 Y)) (t0 := (Y.2 4 a1.toNatClampNeg)) C dX4_leftIn_23 (by rfl) (by rfl) (by rfl)
set_option maxRecDepth 100000 in
set_option maxHeartbeats 4000000 in
theorem o_X4_rightIn (l : Launch) (Y : q_St) (a1 : Int32) : q_Ok l yX4_rightIn cX4_rightIn 2 (some .int) 0 0 [.ref 50, .int a1] (w_X4 Y) (f_X4_rightIn Y a1) (fun u => some (.int u)) (fun u => w_X4 Y) := by
  refine q_enter (by decide +kernel) (Nat.le_of_ble_eq_true rfl) (fun t p e s m args below meth c dC dI dA A α C => ?_)
  refine r_cut (f_X4_rightIn.eq_1 _ _) ?_
  show q_S p l e (q_rm 0 0) s m args below meth c 2 dC dI dA A α (MQ below (q_Q α dC dI dA A ((fun u => some (.int u)) t) ((fun u => w_X4 Y) t)) args s 0 0 A) 0 0 _ t 0 [(0, .ref 50), (1, .int a1)] [] (w_X4 Y)
  refine r_iload_n C 1 dX4_rightIn_0 rfl ?_
  refine r_if_lt C 22 dX4_rightIn_1 (by decide) (fun h1 => ?_) (fun h1 => ?_)
  · refine r_iconst C (-1) dX4_rightIn_22 rfl ?_
    exact r_reti (x := (-1 : Int32)) (rv := (fun u => some (.int u))) (hpE := (fun u => w_X4 Y)) (t0 := (-1 : Int32)) C dX4_rightIn_23 (by rfl) (by rfl) (by rfl)
  · refine r_iload_n C 1 dX4_rightIn_4 rfl ?_
    refine r_aload_n C 0 dX4_rightIn_5 rfl ?_
    refine r_get C 0 5 dX4_rightIn_6 K_X4 rfl rfl (Nat.le_of_ble_eq_true rfl) rfl m_107 rfl ?_
    refine r_alen C 6 (12) dX4_rightIn_9 rfl rfl rfl rfl ?_
    refine r_icmp_ge C 22 dX4_rightIn_10 (by decide) (fun h10 => ?_) (fun h10 => ?_)
    · refine r_iconst C (-1) dX4_rightIn_22 rfl ?_
      exact r_reti (x := (-1 : Int32)) (rv := (fun u => some (.int u))) (hpE := (fun u => w_X4 Y)) (t0 := (-1 : Int32)) C dX4_rightIn_23 (by rfl) (by rfl) (by rfl)
    · refine r_aload_n C 0 dX4_rightIn_13 rfl ?_
      refine r_get C 0 5 dX4_rightIn_14 K_X4 rfl rfl (Nat.le_of_ble_eq_true rfl) rfl m_107 rfl ?_
      refine r_iload_n C 1 dX4_rightIn_17 rfl ?_
      refine r_iald C 6 dX4_rightIn_18 rfl rfl (fun hi18 => ?_)
      refine r_goto C 23 dX4_rightIn_19 (by decide) ?_
      exact r_reti (x := (Y.2 5 a1.toNatClampNeg)) (rv := (fun u => some (.int u))) (hpE := (fun u => w_X4 Y)) (t0 := (Y.2 5 a1.toNatClampNeg)) C dX4_rightIn_23 (by rfl) (by rfl) (by rfl)
set_option maxRecDepth 100000 in
set_option maxHeartbeats 4000000 in
theorem k_X4_leaveOut_2 {p : Program} {l : Launch} {e : Env} {s : State} {m : MethodId} {args : Array Value} {below : List Frame} {meth : Method} {c : Code} {dC : Nat → ClassId} {dI : Nat → Nat → Nat} {dA : Nat → ClassId} {A : Nat → Prop} {α : Nat → Nat} {t : q_St} (C : q_Cx p s m args meth c cX4_leaveOut 4 RX4 none "leaveOut" dC dI dA A α) (Y : q_St) (a1 : Int32)  : ∀ (n : Nat) (x1 : Int32) (x2 : Int32) (Y' : q_St), q_S p l e (q_rm 1 30) s m args below meth c 4 dC dI dA A α (MQ below (q_Q α dC dI dA A ((fun _ => none) t) ((fun u => w_X4 u) t)) args s 0 0 A) 0 0 (f_X4_leaveOut_2 Y a1  n x1 x2 Y') t 2 [(0, .ref 50), (1, .int x1), (2, .int x2)] [] (w_X4 Y') := by
  intro n
  induction n with
  | zero =>
    intro x1 x2 Y'
    exact r_cut (f_X4_leaveOut_2.eq_1 _ _ _ _ _) (r_none True.intro)
  | succ n ih =>
    intro x1 x2 Y'
    refine r_cut (f_X4_leaveOut_2.eq_2 _ _ _ _ _ _) ?_
    refine r_iload_n C 2 dX4_leaveOut_2 rfl ?_
    refine r_bipush C (81) dX4_leaveOut_3 rfl ?_
    refine r_icmp_ge C 45 dX4_leaveOut_5 (by decide) (fun h5 => ?_) (fun h5 => ?_)
    · exact r_retv (rv := (fun _ => none)) (hpE := (fun u => w_X4 u)) (t0 := Y') C dX4_leaveOut_45 (by rfl) (by rfl) (by rfl)
    · refine r_iload_n C 1 dX4_leaveOut_8 rfl ?_
      refine r_bipush C (81) dX4_leaveOut_9 rfl ?_
      refine r_imul C dX4_leaveOut_11 ?_
      refine r_iload_n C 2 dX4_leaveOut_12 rfl ?_
      refine r_iadd C dX4_leaveOut_13 ?_
      refine r_istore_n C [(3, .int ((x1 * (81 : Int32)) + x2)), (0, .ref 50), (1, .int x1), (2, .int x2)] dX4_leaveOut_14 (Nat.le_of_ble_eq_true rfl) rfl ?_
      refine r_aload_n C 1 dX4_leaveOut_15 rfl ?_
      refine r_get C 0 0 dX4_leaveOut_16 K_X4 rfl rfl (Nat.le_of_ble_eq_true rfl) rfl m_102 rfl ?_
      refine r_iload_n C 0 dX4_leaveOut_19 rfl ?_
      refine r_aload_n C 1 dX4_leaveOut_20 rfl ?_
      refine r_get C 0 0 dX4_leaveOut_21 K_X4 rfl rfl (Nat.le_of_ble_eq_true rfl) rfl m_102 rfl ?_
      refine r_iload_n C 0 dX4_leaveOut_24 rfl ?_
      refine r_iald C 1 dX4_leaveOut_25 rfl rfl (fun hi25 => ?_)
      refine r_aload_n C 1 dX4_leaveOut_26 rfl ?_
      refine r_get C 0 1 dX4_leaveOut_27 K_X4 rfl rfl (Nat.le_of_ble_eq_true rfl) rfl m_103 rfl ?_
      refine r_iload_n C 0 dX4_leaveOut_30 rfl ?_
      refine r_bipush C (81) dX4_leaveOut_31 rfl ?_
      refine r_iadd C dX4_leaveOut_33 ?_
      refine r_iald C 2 dX4_leaveOut_34 rfl rfl (fun hi34 => ?_)
      refine r_mmin C dX4_leaveOut_35 m_461 m_462 m_8 m_463 (Nat.le_of_ble_eq_true rfl) (Nat.le_of_ble_eq_true rfl) (Nat.zero_le _) (Nat.zero_le _) ?_
      refine r_iast C 1 _ dX4_leaveOut_38 rfl rfl rfl (fun hi38 => ?_)
      refine r_iinc C 3 (x2 + 1) [(2, .int (x2 + 1)), (3, .int ((x1 * (81 : Int32)) + x2)), (0, .ref 50), (1, .int x1)] dX4_leaveOut_39 rfl rfl (Nat.le_of_ble_eq_true rfl) rfl ?_
      refine r_goto C 2 dX4_leaveOut_42 (by decide) ?_
      refine r_lv [(0, .ref 50), (1, .int x1), (2, .int (x2 + 1))] [2, 3, 0] rfl ?_
      exact ih x1 (x2 + 1) (Y'.1, (va_up Y'.2 0 (upd (Y'.2 0) ((x1 * (81 : Int32)) + x2).toNatClampNeg (if (Y'.2 1 (((x1 * (81 : Int32)) + x2) + (81 : Int32)).toNatClampNeg) < (Y'.2 0 ((x1 * (81 : Int32)) + x2).toNatClampNeg) then (Y'.2 1 (((x1 * (81 : Int32)) + x2) + (81 : Int32)).toNatClampNeg) else (Y'.2 0 ((x1 * (81 : Int32)) + x2).toNatClampNeg)))))
set_option maxRecDepth 100000 in
set_option maxHeartbeats 4000000 in
theorem o_X4_leaveOut (l : Launch) (Y : q_St) (a1 : Int32) : q_Ok l yX4_leaveOut cX4_leaveOut 4 none 1 30 [.ref 50, .int a1] (w_X4 Y) (f_X4_leaveOut Y a1) (fun _ => none) (fun u => w_X4 u) := by
  refine q_enter (by decide +kernel) (Nat.le_of_ble_eq_true rfl) (fun t p e s m args below meth c dC dI dA A α C => ?_)
  refine r_cut (f_X4_leaveOut.eq_1 _ _) ?_
  show q_S p l e (q_rm 1 30) s m args below meth c 4 dC dI dA A α (MQ below (q_Q α dC dI dA A ((fun _ => none) t) ((fun u => w_X4 u) t)) args s 0 0 A) 0 0 _ t 0 [(0, .ref 50), (1, .int a1)] [] (w_X4 Y)
  refine r_iconst C (0) dX4_leaveOut_0 rfl ?_
  refine r_istore_n C [(2, .int (0 : Int32)), (0, .ref 50), (1, .int a1)] dX4_leaveOut_1 (Nat.le_of_ble_eq_true rfl) rfl ?_
  refine r_lv [(0, .ref 50), (1, .int a1), (2, .int (0 : Int32))] [1, 2, 0] rfl ?_
  exact k_X4_leaveOut_2 C Y a1   q_N a1 (0 : Int32) Y
set_option maxRecDepth 100000 in
set_option maxHeartbeats 4000000 in
theorem k_X4_fewestLeftOut_24 {p : Program} {l : Launch} {e : Env} {s : State} {m : MethodId} {args : Array Value} {below : List Frame} {meth : Method} {c : Code} {dC : Nat → ClassId} {dI : Nat → Nat → Nat} {dA : Nat → ClassId} {A : Nat → Prop} {α : Nat → Nat} {t : Int32 × q_St} (C : q_Cx p s m args meth c cX4_fewestLeftOut 5 RX4 (some .int) "fewestLeftOut" dC dI dA A α) (Y : q_St) (B : q_St) (a2 : Int32) (r8 : Int32 → Int32 → q_St → Option (Int32 × q_St))
    (hr8 : ∀ (x2 : Int32) (x3 : Int32) (Y' : q_St), q_S p l e (q_rm 5 117) s m args below meth c 5 dC dI dA A α (MQ below (q_Q α dC dI dA A ((fun u => some (.int u.1)) t) ((fun u => w_X4X0 u.2 B) t)) args s 0 0 A) 0 0 (r8 x2 x3 Y') t 8 [(0, .ref 50), (1, .ref 57), (2, .int x2), (3, .int x3)] [] (w_X4X0 Y' B)) : ∀ (n : Nat) (x2 : Int32) (x3 : Int32) (x4 : Int32) (Y' : q_St), q_S p l e (q_rm 5 117) s m args below meth c 5 dC dI dA A α (MQ below (q_Q α dC dI dA A ((fun u => some (.int u.1)) t) ((fun u => w_X4X0 u.2 B) t)) args s 0 0 A) 0 0 (f_X4_fewestLeftOut_24 Y B a2 r8 n x2 x3 x4 Y') t 24 [(0, .ref 50), (1, .ref 57), (2, .int x2), (3, .int x3), (4, .int x4)] [] (w_X4X0 Y' B) := by
  intro n
  induction n with
  | zero =>
    intro x2 x3 x4 Y'
    exact r_cut (f_X4_fewestLeftOut_24.eq_1 _ _ _ _ _ _ _ _) (r_none True.intro)
  | succ n ih =>
    intro x2 x3 x4 Y'
    refine r_cut (f_X4_fewestLeftOut_24.eq_2 _ _ _ _ _ _ _ _ _) ?_
    refine r_iload C 4 dX4_fewestLeftOut_24 rfl ?_
    refine r_if_lt C 72 dX4_fewestLeftOut_26 (by decide) (fun h26 => ?_) (fun h26 => ?_)
    · refine r_aload_n C 0 dX4_fewestLeftOut_72 rfl ?_
      refine r_iconst C (0) dX4_fewestLeftOut_73 rfl ?_
      refine r_aload_n C 1 dX4_fewestLeftOut_74 rfl ?_
      refine r_get C 7 2 dX4_fewestLeftOut_75 K_X0 rfl rfl (Nat.le_of_ble_eq_true rfl) rfl m_38 rfl ?_
      refine r_aload_n C 1 dX4_fewestLeftOut_78 rfl ?_
      refine r_get C 7 3 dX4_fewestLeftOut_79 K_X0 rfl rfl (Nat.le_of_ble_eq_true rfl) rfl m_41 rfl ?_
      refine r_callV C (o_X4_worthFrom l Y' (0 : Int32) (B.1 2) (B.1 3)) v_X4_worthFrom m_464 [0, 1, 2, 3, 4, 5, 6] [.int (0 : Int32), .int (B.1 2), .int (B.1 3)] [] (50) (Or.inl ⟨0, 3, _, TX4, 6, rfl, rfl, rfl⟩) (fun u2 => [.int u2]) (fun u2 => w_X4X0 Y' B) rfl rfl rfl rfl rfl (Nat.le_of_ble_eq_true rfl) ⟨(Nat.le_of_ble_eq_true rfl), (Nat.le_of_ble_eq_true rfl)⟩ ⟨Nat.zero_le _, Nat.zero_le _⟩ dX4_fewestLeftOut_82 (fun _ => rfl) (fun _ => rfl) (fun _ => rfl) (fun u2 => ?_)
      refine r_iload_n C 2 dX4_fewestLeftOut_85 rfl ?_
      refine r_icmp_gt C 91 dX4_fewestLeftOut_86 (by decide) (fun h86 => ?_) (fun h86 => ?_)
      · refine r_aload_n C 0 dX4_fewestLeftOut_91 rfl ?_
        refine r_get C 0 0 dX4_fewestLeftOut_92 K_X4 rfl rfl (Nat.le_of_ble_eq_true rfl) rfl m_102 rfl ?_
        refine r_iconst C (0) dX4_fewestLeftOut_95 rfl ?_
        refine r_aload_n C 0 dX4_fewestLeftOut_96 rfl ?_
        refine r_get C 0 1 dX4_fewestLeftOut_97 K_X4 rfl rfl (Nat.le_of_ble_eq_true rfl) rfl m_103 rfl ?_
        refine r_iconst C (0) dX4_fewestLeftOut_100 rfl ?_
        refine r_aload_n C 0 dX4_fewestLeftOut_101 rfl ?_
        refine r_get C 0 0 dX4_fewestLeftOut_102 K_X4 rfl rfl (Nat.le_of_ble_eq_true rfl) rfl m_102 rfl ?_
        refine r_alen C 1 (1053) dX4_fewestLeftOut_105 rfl rfl rfl rfl ?_
        refine r_copy C 1 2 _ dX4_fewestLeftOut_106 m_565 m_504 m_503 m_10 rfl rfl rfl rfl (Nat.le_of_ble_eq_true rfl) (Nat.le_of_ble_eq_true rfl) rfl ?_
        refine r_iinc C 3 (x3 + 1) [(3, .int (x3 + 1)), (0, .ref 50), (1, .ref 57), (2, .int x2), (4, .int x4)] dX4_fewestLeftOut_109 rfl rfl (Nat.le_of_ble_eq_true rfl) rfl ?_
        refine r_goto C 8 dX4_fewestLeftOut_112 (by decide) ?_
        refine r_lv [(0, .ref 50), (1, .ref 57), (2, .int x2), (3, .int (x3 + 1))] [1, 2, 3, 0] rfl ?_
        exact hr8 x2 (x3 + 1) (Y'.1, (va_up Y'.2 1 (va_cpy (Y'.2 0) (Y'.2 1) (0 : Int32).toNatClampNeg (0 : Int32).toNatClampNeg (1053 : Int32).toNatClampNeg)))
      · refine r_iload_n C 3 dX4_fewestLeftOut_89 rfl ?_
        exact r_reti (x := x3) (rv := (fun u => some (.int u.1))) (hpE := (fun u => w_X4X0 u.2 B)) (t0 := (x3, Y')) C dX4_fewestLeftOut_90 (by rfl) (by rfl) (by rfl)
    · refine r_aload_n C 1 dX4_fewestLeftOut_29 rfl ?_
      refine r_iload C 4 dX4_fewestLeftOut_30 rfl ?_
      refine r_callV C (o_X0_isWrong l B x4) v_X0_isWrong m_560 [7, 8, 9, 10, 11, 12, 13] [.int x4] [] (57) (Or.inl ⟨7, 0, _, TX0, 16, rfl, rfl, rfl⟩) (fun u3 => [.int u3]) (fun u3 => w_X4X0 Y' B) rfl rfl rfl rfl rfl (Nat.le_of_ble_eq_true rfl) ⟨(Nat.le_of_ble_eq_true rfl), (Nat.le_of_ble_eq_true rfl)⟩ ⟨Nat.zero_le _, Nat.zero_le _⟩ dX4_fewestLeftOut_32 (fun _ => rfl) (fun _ => rfl) (fun _ => rfl) (fun u3 => ?_)
      refine r_if_eq C 49 dX4_fewestLeftOut_35 (by decide) (fun h35 => ?_) (fun h35 => ?_)
      · refine r_aload_n C 0 dX4_fewestLeftOut_49 rfl ?_
        refine r_aload_n C 1 dX4_fewestLeftOut_50 rfl ?_
        refine r_iload C 4 dX4_fewestLeftOut_51 rfl ?_
        refine r_callV0 C (o_X4_stepBack l Y' B x4) v_X4_stepBack m_452 [.ref 57, .int x4] [] (50) (Or.inl ⟨0, 3, _, TX4, 6, rfl, rfl, rfl⟩) (fun u4 => []) (fun u4 => w_X4X0 u4 B) rfl rfl rfl (Nat.le_of_ble_eq_true rfl) ⟨(Nat.le_of_ble_eq_true rfl), (Nat.le_of_ble_eq_true rfl)⟩ ⟨Nat.zero_le _, Nat.zero_le _⟩ dX4_fewestLeftOut_53 (fun _ => rfl) (fun _ => rfl) (fun _ => rfl) (fun u4 => ?_)
        refine r_iload_n C 3 dX4_fewestLeftOut_56 rfl ?_
        refine r_if_le C 66 dX4_fewestLeftOut_57 (by decide) (fun h57 => ?_) (fun h57 => ?_)
        · refine r_iinc C 4 (x4 + (-1)) [(4, .int (x4 + (-1))), (0, .ref 50), (1, .ref 57), (2, .int x2), (3, .int x3)] dX4_fewestLeftOut_66 rfl rfl (Nat.le_of_ble_eq_true rfl) rfl ?_
          refine r_goto C 24 dX4_fewestLeftOut_69 (by decide) ?_
          refine r_lv [(0, .ref 50), (1, .ref 57), (2, .int x2), (3, .int x3), (4, .int (x4 + (-1)))] [1, 2, 3, 4, 0] rfl ?_
          exact ih x2 x3 (x4 + (-1)) u4
        · refine r_aload_n C 0 dX4_fewestLeftOut_60 rfl ?_
          refine r_iload C 4 dX4_fewestLeftOut_61 rfl ?_
          refine r_callV C (o_X4_leaveOut l u4 x4) v_X4_leaveOut m_561 [0, 1, 2, 3, 4, 5, 6] [.int x4] [] (50) (Or.inl ⟨0, 3, _, TX4, 6, rfl, rfl, rfl⟩) (fun u5 => []) (fun u5 => w_X4X0 u5 B) rfl rfl rfl rfl rfl (Nat.le_of_ble_eq_true rfl) ⟨(Nat.le_of_ble_eq_true rfl), (Nat.le_of_ble_eq_true rfl)⟩ ⟨Nat.zero_le _, Nat.zero_le _⟩ dX4_fewestLeftOut_63 (fun _ => rfl) (fun _ => rfl) (fun _ => rfl) (fun u5 => ?_)
          refine r_iinc C 4 (x4 + (-1)) [(4, .int (x4 + (-1))), (0, .ref 50), (1, .ref 57), (2, .int x2), (3, .int x3)] dX4_fewestLeftOut_66 rfl rfl (Nat.le_of_ble_eq_true rfl) rfl ?_
          refine r_goto C 24 dX4_fewestLeftOut_69 (by decide) ?_
          refine r_lv [(0, .ref 50), (1, .ref 57), (2, .int x2), (3, .int x3), (4, .int (x4 + (-1)))] [1, 2, 3, 4, 0] rfl ?_
          exact ih x2 x3 (x4 + (-1)) u5
      · refine r_aload_n C 0 dX4_fewestLeftOut_38 rfl ?_
        refine r_iload C 4 dX4_fewestLeftOut_39 rfl ?_
        refine r_ldc C (1000000) dX4_fewestLeftOut_41 m_457 ?_
        refine r_callV C (o_X4_fillRow l Y' x4 (1000000 : Int32)) v_X4_fillRow m_448 [0, 1, 2, 3, 4, 5, 6] [.int x4, .int (1000000 : Int32)] [] (50) (Or.inl ⟨0, 3, _, TX4, 6, rfl, rfl, rfl⟩) (fun u6 => []) (fun u6 => w_X4X0 u6 B) rfl rfl rfl rfl rfl (Nat.le_of_ble_eq_true rfl) ⟨(Nat.le_of_ble_eq_true rfl), (Nat.le_of_ble_eq_true rfl)⟩ ⟨Nat.zero_le _, Nat.zero_le _⟩ dX4_fewestLeftOut_43 (fun _ => rfl) (fun _ => rfl) (fun _ => rfl) (fun u6 => ?_)
        refine r_goto C 56 dX4_fewestLeftOut_46 (by decide) ?_
        refine r_iload_n C 3 dX4_fewestLeftOut_56 rfl ?_
        refine r_if_le C 66 dX4_fewestLeftOut_57 (by decide) (fun h57 => ?_) (fun h57 => ?_)
        · refine r_iinc C 4 (x4 + (-1)) [(4, .int (x4 + (-1))), (0, .ref 50), (1, .ref 57), (2, .int x2), (3, .int x3)] dX4_fewestLeftOut_66 rfl rfl (Nat.le_of_ble_eq_true rfl) rfl ?_
          refine r_goto C 24 dX4_fewestLeftOut_69 (by decide) ?_
          refine r_lv [(0, .ref 50), (1, .ref 57), (2, .int x2), (3, .int x3), (4, .int (x4 + (-1)))] [1, 2, 3, 4, 0] rfl ?_
          exact ih x2 x3 (x4 + (-1)) u6
        · refine r_aload_n C 0 dX4_fewestLeftOut_60 rfl ?_
          refine r_iload C 4 dX4_fewestLeftOut_61 rfl ?_
          refine r_callV C (o_X4_leaveOut l u6 x4) v_X4_leaveOut m_561 [0, 1, 2, 3, 4, 5, 6] [.int x4] [] (50) (Or.inl ⟨0, 3, _, TX4, 6, rfl, rfl, rfl⟩) (fun u7 => []) (fun u7 => w_X4X0 u7 B) rfl rfl rfl rfl rfl (Nat.le_of_ble_eq_true rfl) ⟨(Nat.le_of_ble_eq_true rfl), (Nat.le_of_ble_eq_true rfl)⟩ ⟨Nat.zero_le _, Nat.zero_le _⟩ dX4_fewestLeftOut_63 (fun _ => rfl) (fun _ => rfl) (fun _ => rfl) (fun u7 => ?_)
          refine r_iinc C 4 (x4 + (-1)) [(4, .int (x4 + (-1))), (0, .ref 50), (1, .ref 57), (2, .int x2), (3, .int x3)] dX4_fewestLeftOut_66 rfl rfl (Nat.le_of_ble_eq_true rfl) rfl ?_
          refine r_goto C 24 dX4_fewestLeftOut_69 (by decide) ?_
          refine r_lv [(0, .ref 50), (1, .ref 57), (2, .int x2), (3, .int x3), (4, .int (x4 + (-1)))] [1, 2, 3, 4, 0] rfl ?_
          exact ih x2 x3 (x4 + (-1)) u7
set_option maxRecDepth 100000 in
set_option maxHeartbeats 4000000 in
theorem k_X4_fewestLeftOut_8 {p : Program} {l : Launch} {e : Env} {s : State} {m : MethodId} {args : Array Value} {below : List Frame} {meth : Method} {c : Code} {dC : Nat → ClassId} {dI : Nat → Nat → Nat} {dA : Nat → ClassId} {A : Nat → Prop} {α : Nat → Nat} {t : Int32 × q_St} (C : q_Cx p s m args meth c cX4_fewestLeftOut 5 RX4 (some .int) "fewestLeftOut" dC dI dA A α) (Y : q_St) (B : q_St) (a2 : Int32)  : ∀ (n : Nat) (x2 : Int32) (x3 : Int32) (Y' : q_St), q_S p l e (q_rm 5 117) s m args below meth c 5 dC dI dA A α (MQ below (q_Q α dC dI dA A ((fun u => some (.int u.1)) t) ((fun u => w_X4X0 u.2 B) t)) args s 0 0 A) 0 0 (f_X4_fewestLeftOut_8 Y B a2  n x2 x3 Y') t 8 [(0, .ref 50), (1, .ref 57), (2, .int x2), (3, .int x3)] [] (w_X4X0 Y' B) := by
  intro n
  induction n with
  | zero =>
    intro x2 x3 Y'
    exact r_cut (f_X4_fewestLeftOut_8.eq_1 _ _ _ _ _ _) (r_none True.intro)
  | succ n ih =>
    intro x2 x3 Y'
    refine r_cut (f_X4_fewestLeftOut_8.eq_2 _ _ _ _ _ _ _) ?_
    refine r_iload_n C 3 dX4_fewestLeftOut_8 rfl ?_
    refine r_aload_n C 1 dX4_fewestLeftOut_9 rfl ?_
    refine r_get C 7 1 dX4_fewestLeftOut_10 K_X0 rfl rfl (Nat.le_of_ble_eq_true rfl) rfl m_33 rfl ?_
    refine r_icmp_ge C 115 dX4_fewestLeftOut_13 (by decide) (fun h13 => ?_) (fun h13 => ?_)
    · refine r_aload_n C 1 dX4_fewestLeftOut_115 rfl ?_
      refine r_get C 7 1 dX4_fewestLeftOut_116 K_X0 rfl rfl (Nat.le_of_ble_eq_true rfl) rfl m_33 rfl ?_
      exact r_reti (x := B.1 1) (rv := (fun u => some (.int u.1))) (hpE := (fun u => w_X4X0 u.2 B)) (t0 := (B.1 1, Y')) C dX4_fewestLeftOut_119 (by rfl) (by rfl) (by rfl)
    · refine r_aload_n C 1 dX4_fewestLeftOut_16 rfl ?_
      refine r_get C 7 1 dX4_fewestLeftOut_17 K_X0 rfl rfl (Nat.le_of_ble_eq_true rfl) rfl m_33 rfl ?_
      refine r_iconst C (1) dX4_fewestLeftOut_20 rfl ?_
      refine r_isub C dX4_fewestLeftOut_21 ?_
      refine r_istore C [(4, .int (B.1 1 - (1 : Int32))), (0, .ref 50), (1, .ref 57), (2, .int x2), (3, .int x3)] dX4_fewestLeftOut_22 (Nat.le_of_ble_eq_true rfl) rfl ?_
      refine r_lv [(0, .ref 50), (1, .ref 57), (2, .int x2), (3, .int x3), (4, .int (B.1 1 - (1 : Int32)))] [1, 2, 3, 4, 0] rfl ?_
      exact k_X4_fewestLeftOut_24 C Y B a2 (fun x2 x3 Y' => f_X4_fewestLeftOut_8 Y B a2  n x2 x3 Y') ih q_N x2 x3 (B.1 1 - (1 : Int32)) Y'
set_option maxRecDepth 100000 in
set_option maxHeartbeats 4000000 in
theorem o_X4_fewestLeftOut (l : Launch) (Y : q_St) (B : q_St) (a2 : Int32) : q_Ok l yX4_fewestLeftOut cX4_fewestLeftOut 5 (some .int) 5 117 [.ref 50, .ref 57, .int a2] (w_X4X0 Y B) (f_X4_fewestLeftOut Y B a2) (fun u => some (.int u.1)) (fun u => w_X4X0 u.2 B) := by
  refine q_enter (by decide +kernel) (Nat.le_of_ble_eq_true rfl) (fun t p e s m args below meth c dC dI dA A α C => ?_)
  refine r_cut (f_X4_fewestLeftOut.eq_1 _ _ _) ?_
  show q_S p l e (q_rm 5 117) s m args below meth c 5 dC dI dA A α (MQ below (q_Q α dC dI dA A ((fun u => some (.int u.1)) t) ((fun u => w_X4X0 u.2 B) t)) args s 0 0 A) 0 0 _ t 0 [(0, .ref 50), (1, .ref 57), (2, .int a2)] [] (w_X4X0 Y B)
  refine r_aload_n C 0 dX4_fewestLeftOut_0 rfl ?_
  refine r_aload_n C 1 dX4_fewestLeftOut_1 rfl ?_
  refine r_iconst C (0) dX4_fewestLeftOut_2 rfl ?_
  refine r_callV0 C (o_X4_begin l Y B (0 : Int32)) v_X4_begin m_443 [.ref 57, .int (0 : Int32)] [] (50) (Or.inl ⟨0, 3, _, TX4, 6, rfl, rfl, rfl⟩) (fun u1 => []) (fun u1 => w_X4X0 u1 B) rfl rfl rfl (Nat.le_of_ble_eq_true rfl) ⟨(Nat.le_of_ble_eq_true rfl), (Nat.le_of_ble_eq_true rfl)⟩ ⟨Nat.zero_le _, Nat.zero_le _⟩ dX4_fewestLeftOut_3 (fun _ => rfl) (fun _ => rfl) (fun _ => rfl) (fun u1 => ?_)
  refine r_iconst C (0) dX4_fewestLeftOut_6 rfl ?_
  refine r_istore_n C [(3, .int (0 : Int32)), (0, .ref 50), (1, .ref 57), (2, .int a2)] dX4_fewestLeftOut_7 (Nat.le_of_ble_eq_true rfl) rfl ?_
  refine r_lv [(0, .ref 50), (1, .ref 57), (2, .int a2), (3, .int (0 : Int32))] [1, 2, 3, 0] rfl ?_
  exact k_X4_fewestLeftOut_8 C Y B a2   q_N a2 (0 : Int32) u1
