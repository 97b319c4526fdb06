set_option maxRecDepth 100000 in
set_option maxHeartbeats 4000000 in
theorem o_X3_append (l : Launch) (T : q_St) (a1 : Int32) : q_Ok l yX3_append cX3_append 2 none 0 0 [.ref 50, .int a1] (w_X3 T) (f_X3_append T a1) (fun _ => none) (fun u => w_X3 u) := by
  refine q_enter (by decide +kernel) (Nat.le_of_ble_eq_true rfl) (fun t p e s m args below meth c dC dI dA A α C => ?_)
  refine r_cut (f_X3_append.eq_1 _ _) ?_
  show q_S p l e (q_rm 0 0) s m args below meth c 2 dC dI dA A α (MQ below (q_Q α dC dI dA A ((fun _ => none) t) ((fun u => w_X3 u) t)) args s 0 0 A) 0 0 _ t 0 [(0, .ref 50), (1, .int a1)] [] (w_X3 T)
  refine r_aload_n C 0 dX3_append_0 rfl ?_
  refine r_get C 0 0 dX3_append_1 K_X3 rfl rfl (Nat.le_of_ble_eq_true rfl) rfl m_127 rfl ?_
  refine r_if_lt C 39 dX3_append_4 (by decide) (fun h4 => ?_) (fun h4 => ?_)
  · exact r_retv (rv := (fun _ => none)) (hpE := (fun u => w_X3 u)) (t0 := T) C dX3_append_39 (by rfl) (by rfl) (by rfl)
  · refine r_aload_n C 0 dX3_append_7 rfl ?_
    refine r_get C 0 0 dX3_append_8 K_X3 rfl rfl (Nat.le_of_ble_eq_true rfl) rfl m_127 rfl ?_
    refine r_aload_n C 0 dX3_append_11 rfl ?_
    refine r_get C 0 2 dX3_append_12 K_X3 rfl rfl (Nat.le_of_ble_eq_true rfl) rfl m_131 rfl ?_
    refine r_alen C 1 (120) dX3_append_15 rfl rfl rfl rfl ?_
    refine r_icmp_ge C 39 dX3_append_16 (by decide) (fun h16 => ?_) (fun h16 => ?_)
    · exact r_retv (rv := (fun _ => none)) (hpE := (fun u => w_X3 u)) (t0 := T) C dX3_append_39 (by rfl) (by rfl) (by rfl)
    · refine r_aload_n C 0 dX3_append_19 rfl ?_
      refine r_get C 0 2 dX3_append_20 K_X3 rfl rfl (Nat.le_of_ble_eq_true rfl) rfl m_131 rfl ?_
      refine r_aload_n C 0 dX3_append_23 rfl ?_
      refine r_get C 0 0 dX3_append_24 K_X3 rfl rfl (Nat.le_of_ble_eq_true rfl) rfl m_127 rfl ?_
      refine r_iload_n C 1 dX3_append_27 rfl ?_
      refine r_iast C 1 _ dX3_append_28 rfl rfl rfl (fun hi28 => ?_)
      refine r_aload_n C 0 dX3_append_29 rfl ?_
      refine r_dup C dX3_append_30 rfl ?_
      refine r_get C 0 0 dX3_append_31 K_X3 rfl rfl (Nat.le_of_ble_eq_true rfl) rfl m_127 rfl ?_
      refine r_iconst C (1) dX3_append_34 rfl ?_
      refine r_iadd C dX3_append_35 ?_
      refine r_put C 0 0 _ dX3_append_36 K_X3 rfl rfl (Nat.le_of_ble_eq_true rfl) rfl m_127 rfl (fun _ => rfl) (fun _ => rfl) (Nat.le_of_ble_eq_true rfl) rfl ?_
      exact r_retv (rv := (fun _ => none)) (hpE := (fun u => w_X3 u)) (t0 := ((va_up T.1 0 (T.1 0 + (1 : Int32))), (va_up T.2 2 (upd (T.2 2) (T.1 0).toNatClampNeg a1)))) C dX3_append_39 (by rfl) (by rfl) (by rfl)
set_option maxRecDepth 100000 in
set_option maxHeartbeats 4000000 in
theorem o_X3_byteAt (l : Launch) (T : q_St) (a1 : Int32) : q_Ok l yX3_byteAt cX3_byteAt 2 (some .int) 0 0 [.ref 50, .int a1] (w_X3 T) (f_X3_byteAt T a1) (fun u => some (.int u)) (fun u => w_X3 T) := by
  refine q_enter (by decide +kernel) (Nat.le_of_ble_eq_true rfl) (fun t p e s m args below meth c dC dI dA A α C => ?_)
  refine r_cut (f_X3_byteAt.eq_1 _ _) ?_
  show q_S p l e (q_rm 0 0) s m args below meth c 2 dC dI dA A α (MQ below (q_Q α dC dI dA A ((fun u => some (.int u)) t) ((fun u => w_X3 T) t)) args s 0 0 A) 0 0 _ t 0 [(0, .ref 50), (1, .int a1)] [] (w_X3 T)
  refine r_iload_n C 1 dX3_byteAt_0 rfl ?_
  refine r_if_lt C 22 dX3_byteAt_1 (by decide) (fun h1 => ?_) (fun h1 => ?_)
  · refine r_iconst C (0) dX3_byteAt_22 rfl ?_
    exact r_reti (x := (0 : Int32)) (rv := (fun u => some (.int u))) (hpE := (fun u => w_X3 T)) (t0 := (0 : Int32)) C dX3_byteAt_23 (by rfl) (by rfl) (by rfl)
  · refine r_iload_n C 1 dX3_byteAt_4 rfl ?_
    refine r_aload_n C 0 dX3_byteAt_5 rfl ?_
    refine r_get C 0 2 dX3_byteAt_6 K_X3 rfl rfl (Nat.le_of_ble_eq_true rfl) rfl m_131 rfl ?_
    refine r_alen C 1 (120) dX3_byteAt_9 rfl rfl rfl rfl ?_
    refine r_icmp_ge C 22 dX3_byteAt_10 (by decide) (fun h10 => ?_) (fun h10 => ?_)
    · refine r_iconst C (0) dX3_byteAt_22 rfl ?_
      exact r_reti (x := (0 : Int32)) (rv := (fun u => some (.int u))) (hpE := (fun u => w_X3 T)) (t0 := (0 : Int32)) C dX3_byteAt_23 (by rfl) (by rfl) (by rfl)
    · refine r_aload_n C 0 dX3_byteAt_13 rfl ?_
      refine r_get C 0 2 dX3_byteAt_14 K_X3 rfl rfl (Nat.le_of_ble_eq_true rfl) rfl m_131 rfl ?_
      refine r_iload_n C 1 dX3_byteAt_17 rfl ?_
      refine r_iald C 1 dX3_byteAt_18 rfl rfl (fun hi18 => ?_)
      refine r_goto C 23 dX3_byteAt_19 (by decide) ?_
      exact r_reti (x := (T.2 2 a1.toNatClampNeg)) (rv := (fun u => some (.int u))) (hpE := (fun u => w_X3 T)) (t0 := (T.2 2 a1.toNatClampNeg)) C dX3_byteAt_23 (by rfl) (by rfl) (by rfl)
set_option maxRecDepth 100000 in
set_option maxHeartbeats 4000000 in
theorem o_X3_isLetter (l : Launch) (a1 : Int32) : q_Ok l yX3_isLetter cX3_isLetter 1 (some .boolean) 0 0 [.int a1] ([]) (f_X3_isLetter a1) (fun u => some (.int u)) (fun _ => []) := by
  refine q_enter (by decide +kernel) (Nat.le_of_ble_eq_true rfl) (fun t p e s m args below meth c dC dI dA A α C => ?_)
  refine r_cut (f_X3_isLetter.eq_1 _) ?_
  show q_S p l e (q_rm 0 0) s m args below meth c 1 dC dI dA A α (MQ below (q_Q α dC dI dA A ((fun u => some (.int u)) t) ((fun _ => []) t)) args s 0 0 A) 0 0 _ t 0 [(0, .int a1)] [] ([])
  refine r_iload_n C 0 dX3_isLetter_0 rfl ?_
  refine r_bipush C (97) dX3_isLetter_1 rfl ?_
  refine r_icmp_lt C 16 dX3_isLetter_3 (by decide) (fun h3 => ?_) (fun h3 => ?_)
  · refine r_iconst C (0) dX3_isLetter_16 rfl ?_
    exact r_retz (x := (0 : Int32)) (rv := (fun u => some (.int u))) (hpE := (fun _ => [])) (t0 := (0 : Int32)) C dX3_isLetter_17 (by rfl) (by rfl) (by rfl) (by rfl)
  · refine r_iload_n C 0 dX3_isLetter_6 rfl ?_
    refine r_bipush C (122) dX3_isLetter_7 rfl ?_
    refine r_icmp_gt C 16 dX3_isLetter_9 (by decide) (fun h9 => ?_) (fun h9 => ?_)
    · refine r_iconst C (0) dX3_isLetter_16 rfl ?_
      exact r_retz (x := (0 : Int32)) (rv := (fun u => some (.int u))) (hpE := (fun _ => [])) (t0 := (0 : Int32)) C dX3_isLetter_17 (by rfl) (by rfl) (by rfl) (by rfl)
    · refine r_iconst C (1) dX3_isLetter_12 rfl ?_
      refine r_goto C 17 dX3_isLetter_13 (by decide) ?_
      exact r_retz (x := (1 : Int32)) (rv := (fun u => some (.int u))) (hpE := (fun _ => [])) (t0 := (1 : Int32)) C dX3_isLetter_17 (by rfl) (by rfl) (by rfl) (by rfl)
set_option maxRecDepth 100000 in
set_option maxHeartbeats 4000000 in
theorem o_X3_spelling (l : Launch) (a1 : Int32) : q_Ok l yX3_spelling cX3_spelling 1 (some (.object "java/lang/String")) 0 0 [.int a1] ([]) (f_X3_spelling a1) (fun u => some (.ref u)) (fun _ => []) := by
  refine q_enter (by decide +kernel) (Nat.le_of_ble_eq_true rfl) (fun t p e s m args below meth c dC dI dA A α C => ?_)
  refine r_cut (f_X3_spelling.eq_1 _) ?_
  show q_S p l e (q_rm 0 0) s m args below meth c 1 dC dI dA A α (MQ below (q_Q α dC dI dA A ((fun u => some (.ref u)) t) ((fun _ => []) t)) args s 0 0 A) 0 0 _ t 0 [(0, .int a1)] [] ([])
  refine r_iload_n C 0 dX3_spelling_0 rfl ?_
  refine r_tsw C (0) 64 dX3_spelling_1 (by decide) (by decide) rfl (by decide) (fun h1_0 => ?_) (fun h1_0 => ?_)
  · refine r_ldcS C "doll" 0 dX3_spelling_64 (by decide +kernel) ?_
    exact r_reta (rv := (fun u => some (.ref u))) (hpE := (fun _ => [])) (t0 := (0 : Nat)) C dX3_spelling_66 (by rfl) (by exact Or.inr ⟨_, rfl⟩) (by rfl) (by rfl)
  refine r_tsw C (1) 67 dX3_spelling_1 (by decide) (by decide) rfl (by decide) (fun h1_1 => ?_) (fun h1_1 => ?_)
  · refine r_ldcS C "punch" 1 dX3_spelling_67 (by decide +kernel) ?_
    exact r_reta (rv := (fun u => some (.ref u))) (hpE := (fun _ => [])) (t0 := (1 : Nat)) C dX3_spelling_69 (by rfl) (by exact Or.inr ⟨_, rfl⟩) (by rfl) (by rfl)
  refine r_tsw C (2) 70 dX3_spelling_1 (by decide) (by decide) rfl (by decide) (fun h1_2 => ?_) (fun h1_2 => ?_)
  · refine r_ldcS C "ghost" 2 dX3_spelling_70 (by decide +kernel) ?_
    exact r_reta (rv := (fun u => some (.ref u))) (hpE := (fun _ => [])) (t0 := (2 : Nat)) C dX3_spelling_72 (by rfl) (by exact Or.inr ⟨_, rfl⟩) (by rfl) (by rfl)
  refine r_tsw C (3) 73 dX3_spelling_1 (by decide) (by decide) rfl (by decide) (fun h1_3 => ?_) (fun h1_3 => ?_)
  · refine r_ldcS C "jawed" 3 dX3_spelling_73 (by decide +kernel) ?_
    exact r_reta (rv := (fun u => some (.ref u))) (hpE := (fun _ => [])) (t0 := (3 : Nat)) C dX3_spelling_75 (by rfl) (by exact Or.inr ⟨_, rfl⟩) (by rfl) (by rfl)
  refine r_tsw C (4) 76 dX3_spelling_1 (by decide) (by decide) rfl (by decide) (fun h1_4 => ?_) (fun h1_4 => ?_)
  · refine r_ldcS C "crocodile" 4 dX3_spelling_76 (by decide +kernel) ?_
    exact r_reta (rv := (fun u => some (.ref u))) (hpE := (fun _ => [])) (t0 := (4 : Nat)) C dX3_spelling_78 (by rfl) (by exact Or.inr ⟨_, rfl⟩) (by rfl) (by rfl)
  refine r_tsw C (5) 79 dX3_spelling_1 (by decide) (by decide) rfl (by decide) (fun h1_5 => ?_) (fun h1_5 => ?_)
  · refine r_ldcS C "dog" 5 dX3_spelling_79 (by decide +kernel) ?_
    exact r_reta (rv := (fun u => some (.ref u))) (hpE := (fun _ => [])) (t0 := (5 : Nat)) C dX3_spelling_81 (by rfl) (by exact Or.inr ⟨_, rfl⟩) (by rfl) (by rfl)
  refine r_tsw C (6) 82 dX3_spelling_1 (by decide) (by decide) rfl (by decide) (fun h1_6 => ?_) (fun h1_6 => ?_)
  · refine r_ldcS C "beadle" 6 dX3_spelling_82 (by decide +kernel) ?_
    exact r_reta (rv := (fun u => some (.ref u))) (hpE := (fun _ => [])) (t0 := (6 : Nat)) C dX3_spelling_84 (by rfl) (by exact Or.inr ⟨_, rfl⟩) (by rfl) (by rfl)
  refine r_tsw C (7) 85 dX3_spelling_1 (by decide) (by decide) rfl (by decide) (fun h1_7 => ?_) (fun h1_7 => ?_)
  · refine r_ldcS C "beat" 7 dX3_spelling_85 (by decide +kernel) ?_
    exact r_reta (rv := (fun u => some (.ref u))) (hpE := (fun _ => [])) (t0 := (7 : Nat)) C dX3_spelling_87 (by rfl) (by exact Or.inr ⟨_, rfl⟩) (by rfl) (by rfl)
  refine r_tsw C (8) 88 dX3_spelling_1 (by decide) (by decide) rfl (by decide) (fun h1_8 => ?_) (fun h1_8 => ?_)
  · refine r_ldcS C "leaves" 8 dX3_spelling_88 (by decide +kernel) ?_
    exact r_reta (rv := (fun u => some (.ref u))) (hpE := (fun _ => [])) (t0 := (8 : Nat)) C dX3_spelling_90 (by rfl) (by exact Or.inr ⟨_, rfl⟩) (by rfl) (by rfl)
  refine r_tsw C (9) 91 dX3_spelling_1 (by decide) (by decide) rfl (by decide) (fun h1_9 => ?_) (fun h1_9 => ?_)
  · refine r_ldcS C "hook" 9 dX3_spelling_91 (by decide +kernel) ?_
    exact r_reta (rv := (fun u => some (.ref u))) (hpE := (fun _ => [])) (t0 := (9 : Nat)) C dX3_spelling_93 (by rfl) (by exact Or.inr ⟨_, rfl⟩) (by rfl) (by rfl)
  refine r_tsw C (10) 94 dX3_spelling_1 (by decide) (by decide) rfl (by decide) (fun h1_10 => ?_) (fun h1_10 => ?_)
  · refine r_ldcS C "size" 10 dX3_spelling_94 (by decide +kernel) ?_
    exact r_reta (rv := (fun u => some (.ref u))) (hpE := (fun _ => [])) (t0 := (10 : Nat)) C dX3_spelling_96 (by rfl) (by exact Or.inr ⟨_, rfl⟩) (by rfl) (by rfl)
  refine r_tsw C (11) 97 dX3_spelling_1 (by decide) (by decide) rfl (by decide) (fun h1_11 => ?_) (fun h1_11 => ?_)
  · refine r_ldcS C "speaks" 11 dX3_spelling_97 (by decide +kernel) ?_
    exact r_reta (rv := (fun u => some (.ref u))) (hpE := (fun _ => [])) (t0 := (11 : Nat)) C dX3_spelling_99 (by rfl) (by exact Or.inr ⟨_, rfl⟩) (by rfl) (by rfl)
  have g0 := True.intro
  have g1_0 := q_neI h1_0 (z := 0) (by decide)
  have g1_1 := q_neI h1_1 (z := 1) (by decide)
  have g1_2 := q_neI h1_2 (z := 2) (by decide)
  have g1_3 := q_neI h1_3 (z := 3) (by decide)
  have g1_4 := q_neI h1_4 (z := 4) (by decide)
  have g1_5 := q_neI h1_5 (z := 5) (by decide)
  have g1_6 := q_neI h1_6 (z := 6) (by decide)
  have g1_7 := q_neI h1_7 (z := 7) (by decide)
  have g1_8 := q_neI h1_8 (z := 8) (by decide)
  have g1_9 := q_neI h1_9 (z := 9) (by decide)
  have g1_10 := q_neI h1_10 (z := 10) (by decide)
  have g1_11 := q_neI h1_11 (z := 11) (by decide)
  refine r_tswD C 100 dX3_spelling_1 (by omega) (by decide) ?_
  refine r_ldcS C "" 12 dX3_spelling_100 (by decide +kernel) ?_
  exact r_reta (rv := (fun u => some (.ref u))) (hpE := (fun _ => [])) (t0 := (12 : Nat)) C dX3_spelling_102 (by rfl) (by exact Or.inr ⟨_, rfl⟩) (by rfl) (by rfl)
set_option maxRecDepth 100000 in
set_option maxHeartbeats 4000000 in
theorem k_X3_isSpelt_20 {p : Program} {l : Launch} {e : Env} {s : State} {m : MethodId} {args : Array Value} {below : List Frame} {meth : Method} {c : Code} {dC : Nat → ClassId} {dI : Nat → Nat → Nat} {dA : Nat → ClassId} {A : Nat → Prop} {α : Nat → Nat} {t : Int32} (C : q_Cx p s m args meth c cX3_isSpelt 3 RX3 (some .boolean) "isSpelt" dC dI dA A α) (T : q_St) (a1 : Nat) (hj : a1 < 13)  : ∀ (n : Nat) (x2 : Int32), q_S p l e (q_rm 4 85) s m args below meth c 3 dC dI dA A α (MQ below (q_Q α dC dI dA A ((fun u => some (.int u)) t) ((fun u => w_X3 T) t)) args s 0 0 A) 0 0 (f_X3_isSpelt_20 T a1  n x2) t 20 [(0, .ref 50), (1, .ref a1), (2, .int x2)] [] (w_X3 T) := by
  intro n
  induction n with
  | zero =>
    intro x2
    exact r_cut (f_X3_isSpelt_20.eq_1 _ _ _) (r_none True.intro)
  | succ n ih =>
    intro x2
    refine r_cut (f_X3_isSpelt_20.eq_2 _ _ _ _) ?_
    refine r_iload_n C 2 dX3_isSpelt_20 rfl ?_
    refine r_aload_n C 1 dX3_isSpelt_21 rfl ?_
    refine r_callV C (o_J0_length_8abf5 l a1 hj) v_J0_length_8abf5 m_716 [] [] [.int x2] (a1) (Or.inr ⟨hj, rfl⟩) (fun u2 => [.int u2, .int x2]) (fun u2 => w_X3 T) rfl rfl (by simp only [List.map_cons, List.map_nil, q_v, q_ix_j hj, q_ix_b hj] <;> rfl) rfl rfl (Nat.le_of_ble_eq_true rfl) ⟨(Nat.le_of_ble_eq_true rfl), (Nat.le_of_ble_eq_true rfl)⟩ ⟨Nat.zero_le _, Nat.zero_le _⟩ dX3_isSpelt_22 (fun _ => rfl) (fun _ => rfl) (fun _ => rfl) (fun u2 => ?_)
    refine r_icmp_ge C 54 dX3_isSpelt_25 (by decide) (fun h25 => ?_) (fun h25 => ?_)
    · refine r_iconst C (1) dX3_isSpelt_54 rfl ?_
      exact r_retz (x := (1 : Int32)) (rv := (fun u => some (.int u))) (hpE := (fun u => w_X3 T)) (t0 := (1 : Int32)) C dX3_isSpelt_55 (by rfl) (by rfl) (by rfl) (by rfl)
    · refine r_aload_n C 1 dX3_isSpelt_28 rfl ?_
      refine r_iload_n C 2 dX3_isSpelt_29 rfl ?_
      refine r_callV C (o_J0_charAt_5068e l a1 x2 hj) v_J0_charAt_5068e m_726 [] [.int x2] [] (a1) (Or.inr ⟨hj, rfl⟩) (fun u3 => [.int u3]) (fun u3 => w_X3 T) rfl rfl (by simp only [List.map_cons, List.map_nil, q_v, q_ix_j hj, q_ix_b hj] <;> rfl) rfl rfl (Nat.le_of_ble_eq_true rfl) ⟨(Nat.le_of_ble_eq_true rfl), (Nat.le_of_ble_eq_true rfl)⟩ ⟨Nat.zero_le _, Nat.zero_le _⟩ dX3_isSpelt_30 (fun _ => rfl) (fun _ => rfl) (fun _ => rfl) (fun u3 => ?_)
      refine r_aload_n C 0 dX3_isSpelt_33 rfl ?_
      refine r_aload_n C 0 dX3_isSpelt_34 rfl ?_
      refine r_get C 0 4 dX3_isSpelt_35 K_X3 rfl rfl (Nat.le_of_ble_eq_true rfl) rfl m_133 rfl ?_
      refine r_iload_n C 2 dX3_isSpelt_38 rfl ?_
      refine r_iadd C dX3_isSpelt_39 ?_
      refine r_callV0 C (o_X3_byteAt l T (T.1 4 + x2)) v_X3_byteAt m_685 [.int (T.1 4 + x2)] [.int u3] (50) (Or.inl ⟨0, 2, _, TX3, 8, rfl, rfl, rfl⟩) (fun u4 => [.int u4, .int u3]) (fun u4 => w_X3 T) rfl rfl rfl (Nat.le_of_ble_eq_true rfl) ⟨(Nat.le_of_ble_eq_true rfl), (Nat.le_of_ble_eq_true rfl)⟩ ⟨Nat.zero_le _, Nat.zero_le _⟩ dX3_isSpelt_40 (fun _ => rfl) (fun _ => rfl) (fun _ => rfl) (fun u4 => ?_)
      refine r_icmp_eq C 48 dX3_isSpelt_43 (by decide) (fun h43 => ?_) (fun h43 => ?_)
      · refine r_iinc C 2 (x2 + 1) [(2, .int (x2 + 1)), (0, .ref 50), (1, .ref a1)] dX3_isSpelt_48 rfl rfl (Nat.le_of_ble_eq_true rfl) rfl ?_
        refine r_goto C 20 dX3_isSpelt_51 (by decide) ?_
        refine r_lv [(0, .ref 50), (1, .ref a1), (2, .int (x2 + 1))] [1, 2, 0] rfl ?_
        exact ih (x2 + 1)
      · refine r_iconst C (0) dX3_isSpelt_46 rfl ?_
        exact r_retz (x := (0 : Int32)) (rv := (fun u => some (.int u))) (hpE := (fun u => w_X3 T)) (t0 := (0 : Int32)) C dX3_isSpelt_47 (by rfl) (by rfl) (by rfl) (by rfl)
set_option maxRecDepth 100000 in
set_option maxHeartbeats 4000000 in
theorem o_X3_isSpelt (l : Launch) (T : q_St) (a1 : Nat) (hj : a1 < 13) : q_Ok l yX3_isSpelt cX3_isSpelt 3 (some .boolean) 4 85 [.ref 50, .ref a1] (w_X3 T) (f_X3_isSpelt T a1) (fun u => some (.int u)) (fun u => w_X3 T) := by
  refine q_enter (by decide +kernel) (Nat.le_of_ble_eq_true rfl) (fun t p e s m args below meth c dC dI dA A α C => ?_)
  refine r_cut (f_X3_isSpelt.eq_1 _ _) ?_
  show q_S p l e (q_rm 4 85) s m args below meth c 3 dC dI dA A α (MQ below (q_Q α dC dI dA A ((fun u => some (.int u)) t) ((fun u => w_X3 T) t)) args s 0 0 A) 0 0 _ t 0 [(0, .ref 50), (1, .ref a1)] [] (w_X3 T)
  refine r_aload_n C 1 dX3_isSpelt_0 rfl ?_
  refine r_callV C (o_J0_length_8abf5 l a1 hj) v_J0_length_8abf5 m_716 [] [] [] (a1) (Or.inr ⟨hj, rfl⟩) (fun u1 => [.int u1]) (fun u1 => w_X3 T) rfl rfl (by simp only [List.map_cons, List.map_nil, q_v, q_ix_j hj, q_ix_b hj] <;> rfl) rfl rfl (Nat.le_of_ble_eq_true rfl) ⟨(Nat.le_of_ble_eq_true rfl), (Nat.le_of_ble_eq_true rfl)⟩ ⟨Nat.zero_le _, Nat.zero_le _⟩ dX3_isSpelt_1 (fun _ => rfl) (fun _ => rfl) (fun _ => rfl) (fun u1 => ?_)
  refine r_aload_n C 0 dX3_isSpelt_4 rfl ?_
  refine r_get C 0 3 dX3_isSpelt_5 K_X3 rfl rfl (Nat.le_of_ble_eq_true rfl) rfl m_132 rfl ?_
  refine r_aload_n C 0 dX3_isSpelt_8 rfl ?_
  refine r_get C 0 4 dX3_isSpelt_9 K_X3 rfl rfl (Nat.le_of_ble_eq_true rfl) rfl m_133 rfl ?_
  refine r_isub C dX3_isSpelt_12 ?_
  refine r_icmp_eq C 18 dX3_isSpelt_13 (by decide) (fun h13 => ?_) (fun h13 => ?_)
  · refine r_iconst C (0) dX3_isSpelt_18 rfl ?_
    refine r_istore_n C [(2, .int (0 : Int32)), (0, .ref 50), (1, .ref a1)] dX3_isSpelt_19 (Nat.le_of_ble_eq_true rfl) rfl ?_
    refine r_lv [(0, .ref 50), (1, .ref a1), (2, .int (0 : Int32))] [1, 2, 0] rfl ?_
    exact k_X3_isSpelt_20 C T a1 hj   q_N (0 : Int32)
  · refine r_iconst C (0) dX3_isSpelt_16 rfl ?_
    exact r_retz (x := (0 : Int32)) (rv := (fun u => some (.int u))) (hpE := (fun u => w_X3 T)) (t0 := (0 : Int32)) C dX3_isSpelt_17 (by rfl) (by rfl) (by rfl) (by rfl)
set_option maxRecDepth 100000 in
set_option maxHeartbeats 4000000 in
theorem k_X3_nextWord_50 {p : Program} {l : Launch} {e : Env} {s : State} {m : MethodId} {args : Array Value} {below : List Frame} {meth : Method} {c : Code} {dC : Nat → ClassId} {dI : Nat → Nat → Nat} {dA : Nat → ClassId} {A : Nat → Prop} {α : Nat → Nat} {t : q_St} (C : q_Cx p s m args meth c cX3_nextWord 2 RX3 none "nextWord" dC dI dA A α) (T : q_St)  : ∀ (n : Nat) (x1 : Int32) (T' : q_St), q_S p l e (q_rm 5 107) s m args below meth c 2 dC dI dA A α (MQ below (q_Q α dC dI dA A ((fun _ => none) t) ((fun u => w_X3 u) t)) args s 0 0 A) 0 0 (f_X3_nextWord_50 T  n x1 T') t 50 [(0, .ref 50), (1, .int x1)] [] (w_X3 T') := by
  intro n
  induction n with
  | zero =>
    intro x1 T'
    exact r_cut (f_X3_nextWord_50.eq_1 _ _ _) (r_none True.intro)
  | succ n ih =>
    intro x1 T'
    refine r_cut (f_X3_nextWord_50.eq_2 _ _ _ _) ?_
    refine r_iload_n C 1 dX3_nextWord_50 rfl ?_
    refine r_bipush C (12) dX3_nextWord_51 rfl ?_
    refine r_icmp_ge C 78 dX3_nextWord_53 (by decide) (fun h53 => ?_) (fun h53 => ?_)
    · exact r_retv (rv := (fun _ => none)) (hpE := (fun u => w_X3 u)) (t0 := T') C dX3_nextWord_78 (by rfl) (by rfl) (by rfl)
    · refine r_aload_n C 0 dX3_nextWord_56 rfl ?_
      refine r_iload_n C 1 dX3_nextWord_57 rfl ?_
      refine r_callS C (o_X3_spelling l x1) v_X3_spelling m_696 [] [.int x1] [.ref 50] (fun u3 => [.ref (q_ix2 [] 2 u3), .ref 50]) (fun u3 => w_X3 T') rfl rfl rfl rfl rfl (Nat.le_of_ble_eq_true rfl) ⟨(Nat.le_of_ble_eq_true rfl), (Nat.le_of_ble_eq_true rfl)⟩ ⟨Nat.zero_le _, Nat.zero_le _⟩ dX3_nextWord_58 (fun _ => rfl) (fun _ => rfl) (fun _ => rfl) (fun u3 => ?_)
      refine r_gs13 (fun hju => ?_)
      rw [q_ix_j hju]
      refine r_callV0 C (o_X3_isSpelt l T' u3 hju) v_X3_isSpelt m_712 [.ref u3] [] (50) (Or.inl ⟨0, 2, _, TX3, 8, rfl, rfl, rfl⟩) (fun u4 => [.int u4]) (fun u4 => w_X3 T') rfl rfl rfl (Nat.le_of_ble_eq_true rfl) ⟨(Nat.le_of_ble_eq_true rfl), (Nat.le_of_ble_eq_true rfl)⟩ ⟨Nat.zero_le _, Nat.zero_le _⟩ dX3_nextWord_61 (fun _ => rfl) (fun _ => rfl) (fun _ => rfl) (fun u4 => ?_)
      refine r_if_eq C 72 dX3_nextWord_64 (by decide) (fun h64 => ?_) (fun h64 => ?_)
      · refine r_iinc C 1 (x1 + 1) [(1, .int (x1 + 1)), (0, .ref 50)] dX3_nextWord_72 rfl rfl (Nat.le_of_ble_eq_true rfl) rfl ?_
        refine r_goto C 50 dX3_nextWord_75 (by decide) ?_
        refine r_lv [(0, .ref 50), (1, .int (x1 + 1))] [1, 0] rfl ?_
        exact ih (x1 + 1) T'
      · refine r_aload_n C 0 dX3_nextWord_67 rfl ?_
        refine r_iload_n C 1 dX3_nextWord_68 rfl ?_
        refine r_put C 0 7 _ dX3_nextWord_69 K_X3 rfl rfl (Nat.le_of_ble_eq_true rfl) rfl m_136 rfl (fun _ => rfl) (fun _ => rfl) (Nat.le_of_ble_eq_true rfl) rfl ?_
        refine r_iinc C 1 (x1 + 1) [(1, .int (x1 + 1)), (0, .ref 50)] dX3_nextWord_72 rfl rfl (Nat.le_of_ble_eq_true rfl) rfl ?_
        refine r_goto C 50 dX3_nextWord_75 (by decide) ?_
        refine r_lv [(0, .ref 50), (1, .int (x1 + 1))] [1, 0] rfl ?_
        exact ih (x1 + 1) ((va_up T'.1 7 x1), T'.2)
set_option maxRecDepth 100000 in
set_option maxHeartbeats 4000000 in
theorem k_X3_nextWord_0 {p : Program} {l : Launch} {e : Env} {s : State} {m : MethodId} {args : Array Value} {below : List Frame} {meth : Method} {c : Code} {dC : Nat → ClassId} {dI : Nat → Nat → Nat} {dA : Nat → ClassId} {A : Nat → Prop} {α : Nat → Nat} {t : q_St} (C : q_Cx p s m args meth c cX3_nextWord 2 RX3 none "nextWord" dC dI dA A α) (T : q_St)  : ∀ (n : Nat) (T' : q_St), q_S p l e (q_rm 5 107) s m args below meth c 2 dC dI dA A α (MQ below (q_Q α dC dI dA A ((fun _ => none) t) ((fun u => w_X3 u) t)) args s 0 0 A) 0 0 (f_X3_nextWord_0 T  n T') t 0 [(0, .ref 50)] [] (w_X3 T') := by
  intro n
  induction n with
  | zero =>
    intro T'
    exact r_cut (f_X3_nextWord_0.eq_1 _ _) (r_none True.intro)
  | succ n ih =>
    intro T'
    refine r_cut (f_X3_nextWord_0.eq_2 _ _ _) ?_
    refine r_aload_n C 0 dX3_nextWord_0 rfl ?_
    refine r_get C 0 3 dX3_nextWord_1 K_X3 rfl rfl (Nat.le_of_ble_eq_true rfl) rfl m_132 rfl ?_
    refine r_aload_n C 0 dX3_nextWord_4 rfl ?_
    refine r_get C 0 0 dX3_nextWord_5 K_X3 rfl rfl (Nat.le_of_ble_eq_true rfl) rfl m_127 rfl ?_
    refine r_icmp_ge C 38 dX3_nextWord_8 (by decide) (fun h8 => ?_) (fun h8 => ?_)
    · refine r_aload_n C 0 dX3_nextWord_38 rfl ?_
      refine r_iconst C (1) dX3_nextWord_39 rfl ?_
      refine r_put C 0 5 _ dX3_nextWord_40 K_X3 rfl rfl (Nat.le_of_ble_eq_true rfl) rfl m_134 rfl (fun _ => rfl) (fun _ => rfl) (Nat.le_of_ble_eq_true rfl) rfl ?_
      refine r_aload_n C 0 dX3_nextWord_43 rfl ?_
      refine r_iconst C (-1) dX3_nextWord_44 rfl ?_
      refine r_put C 0 7 _ dX3_nextWord_45 K_X3 rfl rfl (Nat.le_of_ble_eq_true rfl) rfl m_136 rfl (fun _ => rfl) (fun _ => rfl) (Nat.le_of_ble_eq_true rfl) rfl ?_
      refine r_iconst C (0) dX3_nextWord_48 rfl ?_
      refine r_istore_n C [(1, .int (0 : Int32)), (0, .ref 50)] dX3_nextWord_49 (Nat.le_of_ble_eq_true rfl) rfl ?_
      refine r_lv [(0, .ref 50), (1, .int (0 : Int32))] [1, 0] rfl ?_
      exact k_X3_nextWord_50 C T   q_N (0 : Int32) ((va_up (va_up T'.1 5 (1 : Int32)) 7 (-1 : Int32)), T'.2)
    · refine r_aload_n C 0 dX3_nextWord_11 rfl ?_
      refine r_aload_n C 0 dX3_nextWord_12 rfl ?_
      refine r_get C 0 3 dX3_nextWord_13 K_X3 rfl rfl (Nat.le_of_ble_eq_true rfl) rfl m_132 rfl ?_
      refine r_callV0 C (o_X3_byteAt l T' (T'.1 3)) v_X3_byteAt m_685 [.int (T'.1 3)] [] (50) (Or.inl ⟨0, 2, _, TX3, 8, rfl, rfl, rfl⟩) (fun u5 => [.int u5]) (fun u5 => w_X3 T') rfl rfl rfl (Nat.le_of_ble_eq_true rfl) ⟨(Nat.le_of_ble_eq_true rfl), (Nat.le_of_ble_eq_true rfl)⟩ ⟨Nat.zero_le _, Nat.zero_le _⟩ dX3_nextWord_16 (fun _ => rfl) (fun _ => rfl) (fun _ => rfl) (fun u5 => ?_)
      refine r_callS C (o_X3_isLetter l u5) v_X3_isLetter m_689 [] [.int u5] [] (fun u6 => [.int u6]) (fun u6 => w_X3 T') rfl rfl rfl rfl rfl (Nat.le_of_ble_eq_true rfl) ⟨(Nat.le_of_ble_eq_true rfl), (Nat.le_of_ble_eq_true rfl)⟩ ⟨Nat.zero_le _, Nat.zero_le _⟩ dX3_nextWord_19 (fun _ => rfl) (fun _ => rfl) (fun _ => rfl) (fun u6 => ?_)
      refine r_if_eq C 38 dX3_nextWord_22 (by decide) (fun h22 => ?_) (fun h22 => ?_)
      · refine r_aload_n C 0 dX3_nextWord_38 rfl ?_
        refine r_iconst C (1) dX3_nextWord_39 rfl ?_
        refine r_put C 0 5 _ dX3_nextWord_40 K_X3 rfl rfl (Nat.le_of_ble_eq_true rfl) rfl m_134 rfl (fun _ => rfl) (fun _ => rfl) (Nat.le_of_ble_eq_true rfl) rfl ?_
        refine r_aload_n C 0 dX3_nextWord_43 rfl ?_
        refine r_iconst C (-1) dX3_nextWord_44 rfl ?_
        refine r_put C 0 7 _ dX3_nextWord_45 K_X3 rfl rfl (Nat.le_of_ble_eq_true rfl) rfl m_136 rfl (fun _ => rfl) (fun _ => rfl) (Nat.le_of_ble_eq_true rfl) rfl ?_
        refine r_iconst C (0) dX3_nextWord_48 rfl ?_
        refine r_istore_n C [(1, .int (0 : Int32)), (0, .ref 50)] dX3_nextWord_49 (Nat.le_of_ble_eq_true rfl) rfl ?_
        refine r_lv [(0, .ref 50), (1, .int (0 : Int32))] [1, 0] rfl ?_
        exact k_X3_nextWord_50 C T   q_N (0 : Int32) ((va_up (va_up T'.1 5 (1 : Int32)) 7 (-1 : Int32)), T'.2)
      · refine r_aload_n C 0 dX3_nextWord_25 rfl ?_
        refine r_dup C dX3_nextWord_26 rfl ?_
        refine r_get C 0 3 dX3_nextWord_27 K_X3 rfl rfl (Nat.le_of_ble_eq_true rfl) rfl m_132 rfl ?_
        refine r_iconst C (1) dX3_nextWord_30 rfl ?_
        refine r_iadd C dX3_nextWord_31 ?_
        refine r_put C 0 3 _ dX3_nextWord_32 K_X3 rfl rfl (Nat.le_of_ble_eq_true rfl) rfl m_132 rfl (fun _ => rfl) (fun _ => rfl) (Nat.le_of_ble_eq_true rfl) rfl ?_
        refine r_goto C 0 dX3_nextWord_35 (by decide) ?_
        exact ih ((va_up T'.1 3 (T'.1 3 + (1 : Int32))), T'.2)
set_option maxRecDepth 100000 in
set_option maxHeartbeats 4000000 in
theorem o_X3_nextWord (l : Launch) (T : q_St) : q_Ok l yX3_nextWord cX3_nextWord 2 none 5 107 [.ref 50] (w_X3 T) (f_X3_nextWord T) (fun _ => none) (fun u => w_X3 u) := by
  refine q_enter (by decide +kernel) (Nat.le_of_ble_eq_true rfl) (fun t p e s m args below meth c dC dI dA A α C => ?_)
  refine r_cut (f_X3_nextWord.eq_1 _) ?_
  show q_S p l e (q_rm 5 107) s m args below meth c 2 dC dI dA A α (MQ below (q_Q α dC dI dA A ((fun _ => none) t) ((fun u => w_X3 u) t)) args s 0 0 A) 0 0 _ t 0 [(0, .ref 50)] [] (w_X3 T)
  refine r_aload_n C 0 dX3_nextWord_0 rfl ?_
  refine r_get C 0 3 dX3_nextWord_1 K_X3 rfl rfl (Nat.le_of_ble_eq_true rfl) rfl m_132 rfl ?_
  refine r_aload_n C 0 dX3_nextWord_4 rfl ?_
  refine r_get C 0 0 dX3_nextWord_5 K_X3 rfl rfl (Nat.le_of_ble_eq_true rfl) rfl m_127 rfl ?_
  refine r_icmp_ge C 38 dX3_nextWord_8 (by decide) (fun h8 => ?_) (fun h8 => ?_)
  · refine r_aload_n C 0 dX3_nextWord_38 rfl ?_
    refine r_iconst C (1) dX3_nextWord_39 rfl ?_
    refine r_put C 0 5 _ dX3_nextWord_40 K_X3 rfl rfl (Nat.le_of_ble_eq_true rfl) rfl m_134 rfl (fun _ => rfl) (fun _ => rfl) (Nat.le_of_ble_eq_true rfl) rfl ?_
    refine r_aload_n C 0 dX3_nextWord_43 rfl ?_
    refine r_iconst C (-1) dX3_nextWord_44 rfl ?_
    refine r_put C 0 7 _ dX3_nextWord_45 K_X3 rfl rfl (Nat.le_of_ble_eq_true rfl) rfl m_136 rfl (fun _ => rfl) (fun _ => rfl) (Nat.le_of_ble_eq_true rfl) rfl ?_
    refine r_iconst C (0) dX3_nextWord_48 rfl ?_
    refine r_istore_n C [(1, .int (0 : Int32)), (0, .ref 50)] dX3_nextWord_49 (Nat.le_of_ble_eq_true rfl) rfl ?_
    refine r_lv [(0, .ref 50), (1, .int (0 : Int32))] [1, 0] rfl ?_
    exact k_X3_nextWord_50 C T   q_N (0 : Int32) ((va_up (va_up T.1 5 (1 : Int32)) 7 (-1 : Int32)), T.2)
  · refine r_aload_n C 0 dX3_nextWord_11 rfl ?_
    refine r_aload_n C 0 dX3_nextWord_12 rfl ?_
    refine r_get C 0 3 dX3_nextWord_13 K_X3 rfl rfl (Nat.le_of_ble_eq_true rfl) rfl m_132 rfl ?_
    refine r_callV0 C (o_X3_byteAt l T (T.1 3)) v_X3_byteAt m_685 [.int (T.1 3)] [] (50) (Or.inl ⟨0, 2, _, TX3, 8, rfl, rfl, rfl⟩) (fun u1 => [.int u1]) (fun u1 => w_X3 T) rfl rfl rfl (Nat.le_of_ble_eq_true rfl) ⟨(Nat.le_of_ble_eq_true rfl), (Nat.le_of_ble_eq_true rfl)⟩ ⟨Nat.zero_le _, Nat.zero_le _⟩ dX3_nextWord_16 (fun _ => rfl) (fun _ => rfl) (fun _ => rfl) (fun u1 => ?_)
    refine r_callS C (o_X3_isLetter l u1) v_X3_isLetter m_689 [] [.int u1] [] (fun u2 => [.int u2]) (fun u2 => w_X3 T) rfl rfl rfl rfl rfl (Nat.le_of_ble_eq_true rfl) ⟨(Nat.le_of_ble_eq_true rfl), (Nat.le_of_ble_eq_true rfl)⟩ ⟨Nat.zero_le _, Nat.zero_le _⟩ dX3_nextWord_19 (fun _ => rfl) (fun _ => rfl) (fun _ => rfl) (fun u2 => ?_)
    refine r_if_eq C 38 dX3_nextWord_22 (by decide) (fun h22 => ?_) (fun h22 => ?_)
    · refine r_aload_n C 0 dX3_nextWord_38 rfl ?_
      refine r_iconst C (1) dX3_nextWord_39 rfl ?_
      refine r_put C 0 5 _ dX3_nextWord_40 K_X3 rfl rfl (Nat.le_of_ble_eq_true rfl) rfl m_134 rfl (fun _ => rfl) (fun _ => rfl) (Nat.le_of_ble_eq_true rfl) rfl ?_
      refine r_aload_n C 0 dX3_nextWord_43 rfl ?_
      refine r_iconst C (-1) dX3_nextWord_44 rfl ?_
      refine r_put C 0 7 _ dX3_nextWord_45 K_X3 rfl rfl (Nat.le_of_ble_eq_true rfl) rfl m_136 rfl (fun _ => rfl) (fun _ => rfl) (Nat.le_of_ble_eq_true rfl) rfl ?_
      refine r_iconst C (0) dX3_nextWord_48 rfl ?_
      refine r_istore_n C [(1, .int (0 : Int32)), (0, .ref 50)] dX3_nextWord_49 (Nat.le_of_ble_eq_true rfl) rfl ?_
      refine r_lv [(0, .ref 50), (1, .int (0 : Int32))] [1, 0] rfl ?_
      exact k_X3_nextWord_50 C T   q_N (0 : Int32) ((va_up (va_up T.1 5 (1 : Int32)) 7 (-1 : Int32)), T.2)
    · refine r_aload_n C 0 dX3_nextWord_25 rfl ?_
      refine r_dup C dX3_nextWord_26 rfl ?_
      refine r_get C 0 3 dX3_nextWord_27 K_X3 rfl rfl (Nat.le_of_ble_eq_true rfl) rfl m_132 rfl ?_
      refine r_iconst C (1) dX3_nextWord_30 rfl ?_
      refine r_iadd C dX3_nextWord_31 ?_
      refine r_put C 0 3 _ dX3_nextWord_32 K_X3 rfl rfl (Nat.le_of_ble_eq_true rfl) rfl m_132 rfl (fun _ => rfl) (fun _ => rfl) (Nat.le_of_ble_eq_true rfl) rfl ?_
      refine r_goto C 0 dX3_nextWord_35 (by decide) ?_
      exact k_X3_nextWord_0 C T   q_N ((va_up T.1 3 (T.1 3 + (1 : Int32))), T.2)
set_option maxRecDepth 100000 in
set_option maxHeartbeats 4000000 in
theorem o_X3_isDigit (l : Launch) (a1 : Int32) : q_Ok l yX3_isDigit cX3_isDigit 1 (some .boolean) 0 0 [.int a1] ([]) (f_X3_isDigit a1) (fun u => some (.int u)) (fun _ => []) := by
  refine q_enter (by decide +kernel) (Nat.le_of_ble_eq_true rfl) (fun t p e s m args below meth c dC dI dA A α C => ?_)
  refine r_cut (f_X3_isDigit.eq_1 _) ?_
  show q_S p l e (q_rm 0 0) s m args below meth c 1 dC dI dA A α (MQ below (q_Q α dC dI dA A ((fun u => some (.int u)) t) ((fun _ => []) t)) args s 0 0 A) 0 0 _ t 0 [(0, .int a1)] [] ([])
  refine r_iload_n C 0 dX3_isDigit_0 rfl ?_
  refine r_bipush C (48) dX3_isDigit_1 rfl ?_
  refine r_icmp_lt C 16 dX3_isDigit_3 (by decide) (fun h3 => ?_) (fun h3 => ?_)
  · refine r_iconst C (0) dX3_isDigit_16 rfl ?_
    exact r_retz (x := (0 : Int32)) (rv := (fun u => some (.int u))) (hpE := (fun _ => [])) (t0 := (0 : Int32)) C dX3_isDigit_17 (by rfl) (by rfl) (by rfl) (by rfl)
  · refine r_iload_n C 0 dX3_isDigit_6 rfl ?_
    refine r_bipush C (57) dX3_isDigit_7 rfl ?_
    refine r_icmp_gt C 16 dX3_isDigit_9 (by decide) (fun h9 => ?_) (fun h9 => ?_)
    · refine r_iconst C (0) dX3_isDigit_16 rfl ?_
      exact r_retz (x := (0 : Int32)) (rv := (fun u => some (.int u))) (hpE := (fun _ => [])) (t0 := (0 : Int32)) C dX3_isDigit_17 (by rfl) (by rfl) (by rfl) (by rfl)
    · refine r_iconst C (1) dX3_isDigit_12 rfl ?_
      refine r_goto C 17 dX3_isDigit_13 (by decide) ?_
      exact r_retz (x := (1 : Int32)) (rv := (fun u => some (.int u))) (hpE := (fun _ => [])) (t0 := (1 : Int32)) C dX3_isDigit_17 (by rfl) (by rfl) (by rfl) (by rfl)
set_option maxRecDepth 100000 in
set_option maxHeartbeats 4000000 in
theorem k_X3_nextNumber_10 {p : Program} {l : Launch} {e : Env} {s : State} {m : MethodId} {args : Array Value} {below : List Frame} {meth : Method} {c : Code} {dC : Nat → ClassId} {dI : Nat → Nat → Nat} {dA : Nat → ClassId} {A : Nat → Prop} {α : Nat → Nat} {t : q_St} (C : q_Cx p s m args meth c cX3_nextNumber 1 RX3 none "nextNumber" dC dI dA A α) (T : q_St)  : ∀ (n : Nat) (T' : q_St), q_S p l e (q_rm 1 30) s m args below meth c 1 dC dI dA A α (MQ below (q_Q α dC dI dA A ((fun _ => none) t) ((fun u => w_X3 u) t)) args s 0 0 A) 0 0 (f_X3_nextNumber_10 T  n T') t 10 [(0, .ref 50)] [] (w_X3 T') := by
  intro n
  induction n with
  | zero =>
    intro T'
    exact r_cut (f_X3_nextNumber_10.eq_1 _ _) (r_none True.intro)
  | succ n ih =>
    intro T'
    refine r_cut (f_X3_nextNumber_10.eq_2 _ _ _) ?_
    refine r_aload_n C 0 dX3_nextNumber_10 rfl ?_
    refine r_get C 0 3 dX3_nextNumber_11 K_X3 rfl rfl (Nat.le_of_ble_eq_true rfl) rfl m_132 rfl ?_
    refine r_aload_n C 0 dX3_nextNumber_14 rfl ?_
    refine r_get C 0 0 dX3_nextNumber_15 K_X3 rfl rfl (Nat.le_of_ble_eq_true rfl) rfl m_127 rfl ?_
    refine r_icmp_ge C 77 dX3_nextNumber_18 (by decide) (fun h18 => ?_) (fun h18 => ?_)
    · exact r_retv (rv := (fun _ => none)) (hpE := (fun u => w_X3 u)) (t0 := T') C dX3_nextNumber_77 (by rfl) (by rfl) (by rfl)
    · refine r_aload_n C 0 dX3_nextNumber_21 rfl ?_
      refine r_aload_n C 0 dX3_nextNumber_22 rfl ?_
      refine r_get C 0 3 dX3_nextNumber_23 K_X3 rfl rfl (Nat.le_of_ble_eq_true rfl) rfl m_132 rfl ?_
      refine r_callV0 C (o_X3_byteAt l T' (T'.1 3)) v_X3_byteAt m_685 [.int (T'.1 3)] [] (50) (Or.inl ⟨0, 2, _, TX3, 8, rfl, rfl, rfl⟩) (fun u1 => [.int u1]) (fun u1 => w_X3 T') rfl rfl rfl (Nat.le_of_ble_eq_true rfl) ⟨(Nat.le_of_ble_eq_true rfl), (Nat.le_of_ble_eq_true rfl)⟩ ⟨Nat.zero_le _, Nat.zero_le _⟩ dX3_nextNumber_26 (fun _ => rfl) (fun _ => rfl) (fun _ => rfl) (fun u1 => ?_)
      refine r_callS C (o_X3_isDigit l u1) v_X3_isDigit m_764 [] [.int u1] [] (fun u2 => [.int u2]) (fun u2 => w_X3 T') rfl rfl rfl rfl rfl (Nat.le_of_ble_eq_true rfl) ⟨(Nat.le_of_ble_eq_true rfl), (Nat.le_of_ble_eq_true rfl)⟩ ⟨Nat.zero_le _, Nat.zero_le _⟩ dX3_nextNumber_29 (fun _ => rfl) (fun _ => rfl) (fun _ => rfl) (fun u2 => ?_)
      refine r_if_eq C 77 dX3_nextNumber_32 (by decide) (fun h32 => ?_) (fun h32 => ?_)
      · exact r_retv (rv := (fun _ => none)) (hpE := (fun u => w_X3 u)) (t0 := T') C dX3_nextNumber_77 (by rfl) (by rfl) (by rfl)
      · refine r_aload_n C 0 dX3_nextNumber_35 rfl ?_
        refine r_bipush C (10) dX3_nextNumber_36 rfl ?_
        refine r_aload_n C 0 dX3_nextNumber_38 rfl ?_
        refine r_get C 0 6 dX3_nextNumber_39 K_X3 rfl rfl (Nat.le_of_ble_eq_true rfl) rfl m_135 rfl ?_
        refine r_imul C dX3_nextNumber_42 ?_
        refine r_aload_n C 0 dX3_nextNumber_43 rfl ?_
        refine r_aload_n C 0 dX3_nextNumber_44 rfl ?_
        refine r_get C 0 3 dX3_nextNumber_45 K_X3 rfl rfl (Nat.le_of_ble_eq_true rfl) rfl m_132 rfl ?_
        refine r_callV0 C (o_X3_byteAt l T' (T'.1 3)) v_X3_byteAt m_685 [.int (T'.1 3)] [.int ((10 : Int32) * T'.1 6), .ref 50] (50) (Or.inl ⟨0, 2, _, TX3, 8, rfl, rfl, rfl⟩) (fun u3 => [.int u3, .int ((10 : Int32) * T'.1 6), .ref 50]) (fun u3 => w_X3 T') rfl rfl rfl (Nat.le_of_ble_eq_true rfl) ⟨(Nat.le_of_ble_eq_true rfl), (Nat.le_of_ble_eq_true rfl)⟩ ⟨Nat.zero_le _, Nat.zero_le _⟩ dX3_nextNumber_48 (fun _ => rfl) (fun _ => rfl) (fun _ => rfl) (fun u3 => ?_)
        refine r_iadd C dX3_nextNumber_51 ?_
        refine r_bipush C (48) dX3_nextNumber_52 rfl ?_
        refine r_isub C dX3_nextNumber_54 ?_
        refine r_sipush C (1000) dX3_nextNumber_55 rfl ?_
        refine r_mmin C dX3_nextNumber_58 m_771 m_465 m_8 m_466 (Nat.le_of_ble_eq_true rfl) (Nat.le_of_ble_eq_true rfl) (Nat.zero_le _) (Nat.zero_le _) ?_
        refine r_put C 0 6 _ dX3_nextNumber_61 K_X3 rfl rfl (Nat.le_of_ble_eq_true rfl) rfl m_135 rfl (fun _ => rfl) (fun _ => rfl) (Nat.le_of_ble_eq_true rfl) rfl ?_
        refine r_aload_n C 0 dX3_nextNumber_64 rfl ?_
        refine r_dup C dX3_nextNumber_65 rfl ?_
        refine r_get C 0 3 dX3_nextNumber_66 K_X3 rfl rfl (Nat.le_of_ble_eq_true rfl) rfl m_132 rfl ?_
        refine r_iconst C (1) dX3_nextNumber_69 rfl ?_
        refine r_iadd C dX3_nextNumber_70 ?_
        refine r_put C 0 3 _ dX3_nextNumber_71 K_X3 rfl rfl (Nat.le_of_ble_eq_true rfl) rfl m_132 rfl (fun _ => rfl) (fun _ => rfl) (Nat.le_of_ble_eq_true rfl) rfl ?_
        refine r_goto C 10 dX3_nextNumber_74 (by decide) ?_
        exact ih ((va_up (va_up T'.1 3 (T'.1 3 + (1 : Int32))) 6 (if (1000 : Int32) < ((((10 : Int32) * T'.1 6) + u3) - (48 : Int32)) then (1000 : Int32) else ((((10 : Int32) * T'.1 6) + u3) - (48 : Int32)))), T'.2)
set_option maxRecDepth 100000 in
set_option maxHeartbeats 4000000 in
theorem o_X3_nextNumber (l : Launch) (T : q_St) : q_Ok l yX3_nextNumber cX3_nextNumber 1 none 1 30 [.ref 50] (w_X3 T) (f_X3_nextNumber T) (fun _ => none) (fun u => w_X3 u) := by
  refine q_enter (by decide +kernel) (Nat.le_of_ble_eq_true rfl) (fun t p e s m args below meth c dC dI dA A α C => ?_)
  refine r_cut (f_X3_nextNumber.eq_1 _) ?_
  show q_S p l e (q_rm 1 30) s m args below meth c 1 dC dI dA A α (MQ below (q_Q α dC dI dA A ((fun _ => none) t) ((fun u => w_X3 u) t)) args s 0 0 A) 0 0 _ t 0 [(0, .ref 50)] [] (w_X3 T)
  refine r_aload_n C 0 dX3_nextNumber_0 rfl ?_
  refine r_iconst C (2) dX3_nextNumber_1 rfl ?_
  refine r_put C 0 5 _ dX3_nextNumber_2 K_X3 rfl rfl (Nat.le_of_ble_eq_true rfl) rfl m_134 rfl (fun _ => rfl) (fun _ => rfl) (Nat.le_of_ble_eq_true rfl) rfl ?_
  refine r_aload_n C 0 dX3_nextNumber_5 rfl ?_
  refine r_iconst C (0) dX3_nextNumber_6 rfl ?_
  refine r_put C 0 6 _ dX3_nextNumber_7 K_X3 rfl rfl (Nat.le_of_ble_eq_true rfl) rfl m_135 rfl (fun _ => rfl) (fun _ => rfl) (Nat.le_of_ble_eq_true rfl) rfl ?_
  exact k_X3_nextNumber_10 C T   q_N ((va_up (va_up T.1 5 (2 : Int32)) 6 (0 : Int32)), T.2)
set_option maxRecDepth 100000 in
set_option maxHeartbeats 4000000 in
theorem k_X3_nextToken_37 {p : Program} {l : Launch} {e : Env} {s : State} {m : MethodId} {args : Array Value} {below : List Frame} {meth : Method} {c : Code} {dC : Nat → ClassId} {dI : Nat → Nat → Nat} {dA : Nat → ClassId} {A : Nat → Prop} {α : Nat → Nat} {t : q_St} (C : q_Cx p s m args meth c cX3_nextToken 1 RX3 none "nextToken" dC dI dA A α) (T : q_St)  : ∀ (T' : q_St), q_S p l e (q_rm 6 128) s m args below meth c 1 dC dI dA A α (MQ below (q_Q α dC dI dA A ((fun _ => none) t) ((fun u => w_X3 u) t)) args s 0 0 A) 0 0 (f_X3_nextToken_37 T  T') t 37 [(0, .ref 50)] [] (w_X3 T') := by
  intro T'
  refine r_cut (f_X3_nextToken_37.eq_1 _ _) ?_
  refine r_aload_n C 0 dX3_nextToken_37 rfl ?_
  refine r_aload_n C 0 dX3_nextToken_38 rfl ?_
  refine r_get C 0 3 dX3_nextToken_39 K_X3 rfl rfl (Nat.le_of_ble_eq_true rfl) rfl m_132 rfl ?_
  refine r_put C 0 4 _ dX3_nextToken_42 K_X3 rfl rfl (Nat.le_of_ble_eq_true rfl) rfl m_133 rfl (fun _ => rfl) (fun _ => rfl) (Nat.le_of_ble_eq_true rfl) rfl ?_
  refine r_aload_n C 0 dX3_nextToken_45 rfl ?_
  refine r_get C 0 4 dX3_nextToken_46 K_X3 rfl rfl (Nat.le_of_ble_eq_true rfl) rfl m_133 rfl ?_
  refine r_aload_n C 0 dX3_nextToken_49 rfl ?_
  refine r_get C 0 0 dX3_nextToken_50 K_X3 rfl rfl (Nat.le_of_ble_eq_true rfl) rfl m_127 rfl ?_
  refine r_icmp_lt C 64 dX3_nextToken_53 (by decide) (fun h53 => ?_) (fun h53 => ?_)
  · refine r_aload_n C 0 dX3_nextToken_64 rfl ?_
    refine r_aload_n C 0 dX3_nextToken_65 rfl ?_
    refine r_get C 0 4 dX3_nextToken_66 K_X3 rfl rfl (Nat.le_of_ble_eq_true rfl) rfl m_133 rfl ?_
    refine r_callV0 C (o_X3_byteAt l ((va_up T'.1 4 (T'.1 3)), T'.2) (T'.1 3)) v_X3_byteAt m_685 [.int (T'.1 3)] [] (50) (Or.inl ⟨0, 2, _, TX3, 8, rfl, rfl, rfl⟩) (fun u2 => [.int u2]) (fun u2 => w_X3 ((va_up T'.1 4 (T'.1 3)), T'.2)) rfl rfl rfl (Nat.le_of_ble_eq_true rfl) ⟨(Nat.le_of_ble_eq_true rfl), (Nat.le_of_ble_eq_true rfl)⟩ ⟨Nat.zero_le _, Nat.zero_le _⟩ dX3_nextToken_69 (fun _ => rfl) (fun _ => rfl) (fun _ => rfl) (fun u2 => ?_)
    refine r_callS C (o_X3_isLetter l u2) v_X3_isLetter m_689 [] [.int u2] [] (fun u3 => [.int u3]) (fun u3 => w_X3 ((va_up T'.1 4 (T'.1 3)), T'.2)) rfl rfl rfl rfl rfl (Nat.le_of_ble_eq_true rfl) ⟨(Nat.le_of_ble_eq_true rfl), (Nat.le_of_ble_eq_true rfl)⟩ ⟨Nat.zero_le _, Nat.zero_le _⟩ dX3_nextToken_72 (fun _ => rfl) (fun _ => rfl) (fun _ => rfl) (fun u3 => ?_)
    refine r_if_eq C 85 dX3_nextToken_75 (by decide) (fun h75 => ?_) (fun h75 => ?_)
    · refine r_aload_n C 0 dX3_nextToken_85 rfl ?_
      refine r_aload_n C 0 dX3_nextToken_86 rfl ?_
      refine r_get C 0 4 dX3_nextToken_87 K_X3 rfl rfl (Nat.le_of_ble_eq_true rfl) rfl m_133 rfl ?_
      refine r_callV0 C (o_X3_byteAt l ((va_up T'.1 4 (T'.1 3)), T'.2) (T'.1 3)) v_X3_byteAt m_685 [.int (T'.1 3)] [] (50) (Or.inl ⟨0, 2, _, TX3, 8, rfl, rfl, rfl⟩) (fun u4 => [.int u4]) (fun u4 => w_X3 ((va_up T'.1 4 (T'.1 3)), T'.2)) rfl rfl rfl (Nat.le_of_ble_eq_true rfl) ⟨(Nat.le_of_ble_eq_true rfl), (Nat.le_of_ble_eq_true rfl)⟩ ⟨Nat.zero_le _, Nat.zero_le _⟩ dX3_nextToken_90 (fun _ => rfl) (fun _ => rfl) (fun _ => rfl) (fun u4 => ?_)
      refine r_callS C (o_X3_isDigit l u4) v_X3_isDigit m_764 [] [.int u4] [] (fun u5 => [.int u5]) (fun u5 => w_X3 ((va_up T'.1 4 (T'.1 3)), T'.2)) rfl rfl rfl rfl rfl (Nat.le_of_ble_eq_true rfl) ⟨(Nat.le_of_ble_eq_true rfl), (Nat.le_of_ble_eq_true rfl)⟩ ⟨Nat.zero_le _, Nat.zero_le _⟩ dX3_nextToken_93 (fun _ => rfl) (fun _ => rfl) (fun _ => rfl) (fun u5 => ?_)
      refine r_if_eq C 106 dX3_nextToken_96 (by decide) (fun h96 => ?_) (fun h96 => ?_)
      · refine r_aload_n C 0 dX3_nextToken_106 rfl ?_
        refine r_aload_n C 0 dX3_nextToken_107 rfl ?_
        refine r_aload_n C 0 dX3_nextToken_108 rfl ?_
        refine r_get C 0 4 dX3_nextToken_109 K_X3 rfl rfl (Nat.le_of_ble_eq_true rfl) rfl m_133 rfl ?_
        refine r_callV0 C (o_X3_byteAt l ((va_up T'.1 4 (T'.1 3)), T'.2) (T'.1 3)) v_X3_byteAt m_685 [.int (T'.1 3)] [.ref 50] (50) (Or.inl ⟨0, 2, _, TX3, 8, rfl, rfl, rfl⟩) (fun u6 => [.int u6, .ref 50]) (fun u6 => w_X3 ((va_up T'.1 4 (T'.1 3)), T'.2)) rfl rfl rfl (Nat.le_of_ble_eq_true rfl) ⟨(Nat.le_of_ble_eq_true rfl), (Nat.le_of_ble_eq_true rfl)⟩ ⟨Nat.zero_le _, Nat.zero_le _⟩ dX3_nextToken_112 (fun _ => rfl) (fun _ => rfl) (fun _ => rfl) (fun u6 => ?_)
        refine r_bipush C (59) dX3_nextToken_115 rfl ?_
        refine r_icmp_ne C 124 dX3_nextToken_117 (by decide) (fun h117 => ?_) (fun h117 => ?_)
        · refine r_iconst C (3) dX3_nextToken_120 rfl ?_
          refine r_goto C 125 dX3_nextToken_121 (by decide) ?_
          refine r_put C 0 5 _ dX3_nextToken_125 K_X3 rfl rfl (Nat.le_of_ble_eq_true rfl) rfl m_134 rfl (fun _ => rfl) (fun _ => rfl) (Nat.le_of_ble_eq_true rfl) rfl ?_
          refine r_aload_n C 0 dX3_nextToken_128 rfl ?_
          refine r_dup C dX3_nextToken_129 rfl ?_
          refine r_get C 0 3 dX3_nextToken_130 K_X3 rfl rfl (Nat.le_of_ble_eq_true rfl) rfl m_132 rfl ?_
          refine r_iconst C (1) dX3_nextToken_133 rfl ?_
          refine r_iadd C dX3_nextToken_134 ?_
          refine r_put C 0 3 _ dX3_nextToken_135 K_X3 rfl rfl (Nat.le_of_ble_eq_true rfl) rfl m_132 rfl (fun _ => rfl) (fun _ => rfl) (Nat.le_of_ble_eq_true rfl) rfl ?_
          exact r_retv (rv := (fun _ => none)) (hpE := (fun u => w_X3 u)) (t0 := ((va_up (va_up (va_up T'.1 3 (T'.1 3 + (1 : Int32))) 4 (T'.1 3)) 5 (3 : Int32)), T'.2)) C dX3_nextToken_138 (by rfl) (by rfl) (by rfl)
        · refine r_iconst C (4) dX3_nextToken_124 rfl ?_
          refine r_put C 0 5 _ dX3_nextToken_125 K_X3 rfl rfl (Nat.le_of_ble_eq_true rfl) rfl m_134 rfl (fun _ => rfl) (fun _ => rfl) (Nat.le_of_ble_eq_true rfl) rfl ?_
          refine r_aload_n C 0 dX3_nextToken_128 rfl ?_
          refine r_dup C dX3_nextToken_129 rfl ?_
          refine r_get C 0 3 dX3_nextToken_130 K_X3 rfl rfl (Nat.le_of_ble_eq_true rfl) rfl m_132 rfl ?_
          refine r_iconst C (1) dX3_nextToken_133 rfl ?_
          refine r_iadd C dX3_nextToken_134 ?_
          refine r_put C 0 3 _ dX3_nextToken_135 K_X3 rfl rfl (Nat.le_of_ble_eq_true rfl) rfl m_132 rfl (fun _ => rfl) (fun _ => rfl) (Nat.le_of_ble_eq_true rfl) rfl ?_
          exact r_retv (rv := (fun _ => none)) (hpE := (fun u => w_X3 u)) (t0 := ((va_up (va_up (va_up T'.1 3 (T'.1 3 + (1 : Int32))) 4 (T'.1 3)) 5 (4 : Int32)), T'.2)) C dX3_nextToken_138 (by rfl) (by rfl) (by rfl)
      · refine r_aload_n C 0 dX3_nextToken_99 rfl ?_
        refine r_callV0 C (o_X3_nextNumber l ((va_up T'.1 4 (T'.1 3)), T'.2)) v_X3_nextNumber m_767 [] [] (50) (Or.inl ⟨0, 2, _, TX3, 8, rfl, rfl, rfl⟩) (fun u7 => []) (fun u7 => w_X3 u7) rfl rfl rfl (Nat.le_of_ble_eq_true rfl) ⟨(Nat.le_of_ble_eq_true rfl), (Nat.le_of_ble_eq_true rfl)⟩ ⟨Nat.zero_le _, Nat.zero_le _⟩ dX3_nextToken_100 (fun _ => rfl) (fun _ => rfl) (fun _ => rfl) (fun u7 => ?_)
        refine r_goto C 138 dX3_nextToken_103 (by decide) ?_
        exact r_retv (rv := (fun _ => none)) (hpE := (fun u => w_X3 u)) (t0 := u7) C dX3_nextToken_138 (by rfl) (by rfl) (by rfl)
    · refine r_aload_n C 0 dX3_nextToken_78 rfl ?_
      refine r_callV0 C (o_X3_nextWord l ((va_up T'.1 4 (T'.1 3)), T'.2)) v_X3_nextWord m_692 [] [] (50) (Or.inl ⟨0, 2, _, TX3, 8, rfl, rfl, rfl⟩) (fun u8 => []) (fun u8 => w_X3 u8) rfl rfl rfl (Nat.le_of_ble_eq_true rfl) ⟨(Nat.le_of_ble_eq_true rfl), (Nat.le_of_ble_eq_true rfl)⟩ ⟨Nat.zero_le _, Nat.zero_le _⟩ dX3_nextToken_79 (fun _ => rfl) (fun _ => rfl) (fun _ => rfl) (fun u8 => ?_)
      refine r_goto C 138 dX3_nextToken_82 (by decide) ?_
      exact r_retv (rv := (fun _ => none)) (hpE := (fun u => w_X3 u)) (t0 := u8) C dX3_nextToken_138 (by rfl) (by rfl) (by rfl)
  · refine r_aload_n C 0 dX3_nextToken_56 rfl ?_
    refine r_iconst C (0) dX3_nextToken_57 rfl ?_
    refine r_put C 0 5 _ dX3_nextToken_58 K_X3 rfl rfl (Nat.le_of_ble_eq_true rfl) rfl m_134 rfl (fun _ => rfl) (fun _ => rfl) (Nat.le_of_ble_eq_true rfl) rfl ?_
    refine r_goto C 138 dX3_nextToken_61 (by decide) ?_
    exact r_retv (rv := (fun _ => none)) (hpE := (fun u => w_X3 u)) (t0 := ((va_up (va_up T'.1 4 (T'.1 3)) 5 (0 : Int32)), T'.2)) C dX3_nextToken_138 (by rfl) (by rfl) (by rfl)
set_option maxRecDepth 100000 in
set_option maxHeartbeats 4000000 in
theorem k_X3_nextToken_0 {p : Program} {l : Launch} {e : Env} {s : State} {m : MethodId} {args : Array Value} {below : List Frame} {meth : Method} {c : Code} {dC : Nat → ClassId} {dI : Nat → Nat → Nat} {dA : Nat → ClassId} {A : Nat → Prop} {α : Nat → Nat} {t : q_St} (C : q_Cx p s m args meth c cX3_nextToken 1 RX3 none "nextToken" dC dI dA A α) (T : q_St)  : ∀ (n : Nat) (T' : q_St), q_S p l e (q_rm 6 128) s m args below meth c 1 dC dI dA A α (MQ below (q_Q α dC dI dA A ((fun _ => none) t) ((fun u => w_X3 u) t)) args s 0 0 A) 0 0 (f_X3_nextToken_0 T  n T') t 0 [(0, .ref 50)] [] (w_X3 T') := by
  intro n
  induction n with
  | zero =>
    intro T'
    exact r_cut (f_X3_nextToken_0.eq_1 _ _) (r_none True.intro)
  | succ n ih =>
    intro T'
    refine r_cut (f_X3_nextToken_0.eq_2 _ _ _) ?_
    refine r_aload_n C 0 dX3_nextToken_0 rfl ?_
    refine r_get C 0 3 dX3_nextToken_1 K_X3 rfl rfl (Nat.le_of_ble_eq_true rfl) rfl m_132 rfl ?_
    refine r_aload_n C 0 dX3_nextToken_4 rfl ?_
    refine r_get C 0 0 dX3_nextToken_5 K_X3 rfl rfl (Nat.le_of_ble_eq_true rfl) rfl m_127 rfl ?_
    refine r_icmp_ge C 37 dX3_nextToken_8 (by decide) (fun h8 => ?_) (fun h8 => ?_)
    · exact k_X3_nextToken_37 C T   T'
    · refine r_aload_n C 0 dX3_nextToken_11 rfl ?_
      refine r_aload_n C 0 dX3_nextToken_12 rfl ?_
      refine r_get C 0 3 dX3_nextToken_13 K_X3 rfl rfl (Nat.le_of_ble_eq_true rfl) rfl m_132 rfl ?_
      refine r_callV0 C (o_X3_byteAt l T' (T'.1 3)) v_X3_byteAt m_685 [.int (T'.1 3)] [] (50) (Or.inl ⟨0, 2, _, TX3, 8, rfl, rfl, rfl⟩) (fun u9 => [.int u9]) (fun u9 => w_X3 T') rfl rfl rfl (Nat.le_of_ble_eq_true rfl) ⟨(Nat.le_of_ble_eq_true rfl), (Nat.le_of_ble_eq_true rfl)⟩ ⟨Nat.zero_le _, Nat.zero_le _⟩ dX3_nextToken_16 (fun _ => rfl) (fun _ => rfl) (fun _ => rfl) (fun u9 => ?_)
      refine r_bipush C (32) dX3_nextToken_19 rfl ?_
      refine r_icmp_ne C 37 dX3_nextToken_21 (by decide) (fun h21 => ?_) (fun h21 => ?_)
      · refine r_aload_n C 0 dX3_nextToken_24 rfl ?_
        refine r_dup C dX3_nextToken_25 rfl ?_
        refine r_get C 0 3 dX3_nextToken_26 K_X3 rfl rfl (Nat.le_of_ble_eq_true rfl) rfl m_132 rfl ?_
        refine r_iconst C (1) dX3_nextToken_29 rfl ?_
        refine r_iadd C dX3_nextToken_30 ?_
        refine r_put C 0 3 _ dX3_nextToken_31 K_X3 rfl rfl (Nat.le_of_ble_eq_true rfl) rfl m_132 rfl (fun _ => rfl) (fun _ => rfl) (Nat.le_of_ble_eq_true rfl) rfl ?_
        refine r_goto C 0 dX3_nextToken_34 (by decide) ?_
        exact ih ((va_up T'.1 3 (T'.1 3 + (1 : Int32))), T'.2)
      · exact k_X3_nextToken_37 C T   T'
set_option maxRecDepth 100000 in
set_option maxHeartbeats 4000000 in
theorem o_X3_nextToken (l : Launch) (T : q_St) : q_Ok l yX3_nextToken cX3_nextToken 1 none 6 128 [.ref 50] (w_X3 T) (f_X3_nextToken T) (fun _ => none) (fun u => w_X3 u) := by
  refine q_enter (by decide +kernel) (Nat.le_of_ble_eq_true rfl) (fun t p e s m args below meth c dC dI dA A α C => ?_)
  refine r_cut (f_X3_nextToken.eq_1 _) ?_
  show q_S p l e (q_rm 6 128) s m args below meth c 1 dC dI dA A α (MQ below (q_Q α dC dI dA A ((fun _ => none) t) ((fun u => w_X3 u) t)) args s 0 0 A) 0 0 _ t 0 [(0, .ref 50)] [] (w_X3 T)
  refine r_aload_n C 0 dX3_nextToken_0 rfl ?_
  refine r_get C 0 3 dX3_nextToken_1 K_X3 rfl rfl (Nat.le_of_ble_eq_true rfl) rfl m_132 rfl ?_
  refine r_aload_n C 0 dX3_nextToken_4 rfl ?_
  refine r_get C 0 0 dX3_nextToken_5 K_X3 rfl rfl (Nat.le_of_ble_eq_true rfl) rfl m_127 rfl ?_
  refine r_icmp_ge C 37 dX3_nextToken_8 (by decide) (fun h8 => ?_) (fun h8 => ?_)
  · exact k_X3_nextToken_37 C T   T
  · refine r_aload_n C 0 dX3_nextToken_11 rfl ?_
    refine r_aload_n C 0 dX3_nextToken_12 rfl ?_
    refine r_get C 0 3 dX3_nextToken_13 K_X3 rfl rfl (Nat.le_of_ble_eq_true rfl) rfl m_132 rfl ?_
    refine r_callV0 C (o_X3_byteAt l T (T.1 3)) v_X3_byteAt m_685 [.int (T.1 3)] [] (50) (Or.inl ⟨0, 2, _, TX3, 8, rfl, rfl, rfl⟩) (fun u1 => [.int u1]) (fun u1 => w_X3 T) rfl rfl rfl (Nat.le_of_ble_eq_true rfl) ⟨(Nat.le_of_ble_eq_true rfl), (Nat.le_of_ble_eq_true rfl)⟩ ⟨Nat.zero_le _, Nat.zero_le _⟩ dX3_nextToken_16 (fun _ => rfl) (fun _ => rfl) (fun _ => rfl) (fun u1 => ?_)
    refine r_bipush C (32) dX3_nextToken_19 rfl ?_
    refine r_icmp_ne C 37 dX3_nextToken_21 (by decide) (fun h21 => ?_) (fun h21 => ?_)
    · refine r_aload_n C 0 dX3_nextToken_24 rfl ?_
      refine r_dup C dX3_nextToken_25 rfl ?_
      refine r_get C 0 3 dX3_nextToken_26 K_X3 rfl rfl (Nat.le_of_ble_eq_true rfl) rfl m_132 rfl ?_
      refine r_iconst C (1) dX3_nextToken_29 rfl ?_
      refine r_iadd C dX3_nextToken_30 ?_
      refine r_put C 0 3 _ dX3_nextToken_31 K_X3 rfl rfl (Nat.le_of_ble_eq_true rfl) rfl m_132 rfl (fun _ => rfl) (fun _ => rfl) (Nat.le_of_ble_eq_true rfl) rfl ?_
      refine r_goto C 0 dX3_nextToken_34 (by decide) ?_
      exact k_X3_nextToken_0 C T   q_N ((va_up T.1 3 (T.1 3 + (1 : Int32))), T.2)
    · exact k_X3_nextToken_37 C T   T
set_option maxRecDepth 100000 in
set_option maxHeartbeats 4000000 in
theorem o_X3_isWord (l : Launch) (T : q_St) (a1 : Int32) : q_Ok l yX3_isWord cX3_isWord 2 (some .boolean) 0 0 [.ref 50, .int a1] (w_X3 T) (f_X3_isWord T a1) (fun u => some (.int u)) (fun u => w_X3 T) := by
  refine q_enter (by decide +kernel) (Nat.le_of_ble_eq_true rfl) (fun t p e s m args below meth c dC dI dA A α C => ?_)
  refine r_cut (f_X3_isWord.eq_1 _ _) ?_
  show q_S p l e (q_rm 0 0) s m args below meth c 2 dC dI dA A α (MQ below (q_Q α dC dI dA A ((fun u => some (.int u)) t) ((fun u => w_X3 T) t)) args s 0 0 A) 0 0 _ t 0 [(0, .ref 50), (1, .int a1)] [] (w_X3 T)
  refine r_aload_n C 0 dX3_isWord_0 rfl ?_
  refine r_get C 0 5 dX3_isWord_1 K_X3 rfl rfl (Nat.le_of_ble_eq_true rfl) rfl m_134 rfl ?_
  refine r_iconst C (1) dX3_isWord_4 rfl ?_
  refine r_icmp_ne C 20 dX3_isWord_5 (by decide) (fun h5 => ?_) (fun h5 => ?_)
  · refine r_aload_n C 0 dX3_isWord_8 rfl ?_
    refine r_get C 0 7 dX3_isWord_9 K_X3 rfl rfl (Nat.le_of_ble_eq_true rfl) rfl m_136 rfl ?_
    refine r_iload_n C 1 dX3_isWord_12 rfl ?_
    refine r_icmp_ne C 20 dX3_isWord_13 (by decide) (fun h13 => ?_) (fun h13 => ?_)
    · refine r_iconst C (1) dX3_isWord_16 rfl ?_
      refine r_goto C 21 dX3_isWord_17 (by decide) ?_
      exact r_retz (x := (1 : Int32)) (rv := (fun u => some (.int u))) (hpE := (fun u => w_X3 T)) (t0 := (1 : Int32)) C dX3_isWord_21 (by rfl) (by rfl) (by rfl) (by rfl)
    · refine r_iconst C (0) dX3_isWord_20 rfl ?_
      exact r_retz (x := (0 : Int32)) (rv := (fun u => some (.int u))) (hpE := (fun u => w_X3 T)) (t0 := (0 : Int32)) C dX3_isWord_21 (by rfl) (by rfl) (by rfl) (by rfl)
  · refine r_iconst C (0) dX3_isWord_20 rfl ?_
    exact r_retz (x := (0 : Int32)) (rv := (fun u => some (.int u))) (hpE := (fun u => w_X3 T)) (t0 := (0 : Int32)) C dX3_isWord_21 (by rfl) (by rfl) (by rfl) (by rfl)
set_option maxRecDepth 100000 in
set_option maxHeartbeats 4000000 in
theorem o_X3_isNumber (l : Launch) (T : q_St) (a1 : Int32) (a2 : Int32) : q_Ok l yX3_isNumber cX3_isNumber 3 (some .boolean) 0 0 [.ref 50, .int a1, .int a2] (w_X3 T) (f_X3_isNumber T a1 a2) (fun u => some (.int u)) (fun u => w_X3 T) := by
  refine q_enter (by decide +kernel) (Nat.le_of_ble_eq_true rfl) (fun t p e s m args below meth c dC dI dA A α C => ?_)
  refine r_cut (f_X3_isNumber.eq_1 _ _ _) ?_
  show q_S p l e (q_rm 0 0) s m args below meth c 3 dC dI dA A α (MQ below (q_Q α dC dI dA A ((fun u => some (.int u)) t) ((fun u => w_X3 T) t)) args s 0 0 A) 0 0 _ t 0 [(0, .ref 50), (1, .int a1), (2, .int a2)] [] (w_X3 T)
  refine r_aload_n C 0 dX3_isNumber_0 rfl ?_
  refine r_get C 0 5 dX3_isNumber_1 K_X3 rfl rfl (Nat.le_of_ble_eq_true rfl) rfl m_134 rfl ?_
  refine r_iconst C (2) dX3_isNumber_4 rfl ?_
  refine r_icmp_ne C 28 dX3_isNumber_5 (by decide) (fun h5 => ?_) (fun h5 => ?_)
  · refine r_aload_n C 0 dX3_isNumber_8 rfl ?_
    refine r_get C 0 6 dX3_isNumber_9 K_X3 rfl rfl (Nat.le_of_ble_eq_true rfl) rfl m_135 rfl ?_
    refine r_iload_n C 1 dX3_isNumber_12 rfl ?_
    refine r_icmp_lt C 28 dX3_isNumber_13 (by decide) (fun h13 => ?_) (fun h13 => ?_)
    · refine r_iconst C (0) dX3_isNumber_28 rfl ?_
      exact r_retz (x := (0 : Int32)) (rv := (fun u => some (.int u))) (hpE := (fun u => w_X3 T)) (t0 := (0 : Int32)) C dX3_isNumber_29 (by rfl) (by rfl) (by rfl) (by rfl)
    · refine r_aload_n C 0 dX3_isNumber_16 rfl ?_
      refine r_get C 0 6 dX3_isNumber_17 K_X3 rfl rfl (Nat.le_of_ble_eq_true rfl) rfl m_135 rfl ?_
      refine r_iload_n C 2 dX3_isNumber_20 rfl ?_
      refine r_icmp_gt C 28 dX3_isNumber_21 (by decide) (fun h21 => ?_) (fun h21 => ?_)
      · refine r_iconst C (0) dX3_isNumber_28 rfl ?_
        exact r_retz (x := (0 : Int32)) (rv := (fun u => some (.int u))) (hpE := (fun u => w_X3 T)) (t0 := (0 : Int32)) C dX3_isNumber_29 (by rfl) (by rfl) (by rfl) (by rfl)
      · refine r_iconst C (1) dX3_isNumber_24 rfl ?_
        refine r_goto C 29 dX3_isNumber_25 (by decide) ?_
        exact r_retz (x := (1 : Int32)) (rv := (fun u => some (.int u))) (hpE := (fun u => w_X3 T)) (t0 := (1 : Int32)) C dX3_isNumber_29 (by rfl) (by rfl) (by rfl) (by rfl)
  · refine r_iconst C (0) dX3_isNumber_28 rfl ?_
    exact r_retz (x := (0 : Int32)) (rv := (fun u => some (.int u))) (hpE := (fun u => w_X3 T)) (t0 := (0 : Int32)) C dX3_isNumber_29 (by rfl) (by rfl) (by rfl) (by rfl)
set_option maxRecDepth 100000 in
set_option maxHeartbeats 4000000 in
theorem o_X3_readBeat (l : Launch) (T : q_St) (B : q_St) : q_Ok l yX3_readBeat cX3_readBeat 3 (some .boolean) 7 148 [.ref 50, .ref 52] (w_X3X0 T B) (f_X3_readBeat T B) (fun u => some (.int u.1)) (fun u => w_X3X0 u.2.1 u.2.2) := by
  refine q_enter (by decide +kernel) (Nat.le_of_ble_eq_true rfl) (fun t p e s m args below meth c dC dI dA A α C => ?_)
  refine r_cut (f_X3_readBeat.eq_1 _ _) ?_
  show q_S p l e (q_rm 7 148) s m args below meth c 3 dC dI dA A α (MQ below (q_Q α dC dI dA A ((fun u => some (.int u.1)) t) ((fun u => w_X3X0 u.2.1 u.2.2) t)) args s 0 0 A) 0 0 _ t 0 [(0, .ref 50), (1, .ref 52)] [] (w_X3X0 T B)
  refine r_aload_n C 1 dX3_readBeat_0 rfl ?_
  refine r_get C 2 1 dX3_readBeat_1 K_X0 rfl rfl (Nat.le_of_ble_eq_true rfl) rfl m_35 rfl ?_
  refine r_bipush C (12) dX3_readBeat_4 rfl ?_
  refine r_icmp_lt C 11 dX3_readBeat_6 (by decide) (fun h6 => ?_) (fun h6 => ?_)
  · refine r_aload_n C 0 dX3_readBeat_11 rfl ?_
    refine r_callV C (o_X3_nextToken l T) v_X3_nextToken m_681 [0, 1] [] [] (50) (Or.inl ⟨0, 2, _, TX3, 8, rfl, rfl, rfl⟩) (fun u1 => []) (fun u1 => w_X3X0 u1 B) rfl rfl rfl rfl rfl (Nat.le_of_ble_eq_true rfl) ⟨(Nat.le_of_ble_eq_true rfl), (Nat.le_of_ble_eq_true rfl)⟩ ⟨Nat.zero_le _, Nat.zero_le _⟩ dX3_readBeat_12 (fun _ => rfl) (fun _ => rfl) (fun _ => rfl) (fun u1 => ?_)
    refine r_aload_n C 0 dX3_readBeat_15 rfl ?_
    refine r_get C 0 5 dX3_readBeat_16 K_X3 rfl rfl (Nat.le_of_ble_eq_true rfl) rfl m_134 rfl ?_
    refine r_iconst C (2) dX3_readBeat_19 rfl ?_
    refine r_icmp_ne C 34 dX3_readBeat_20 (by decide) (fun h20 => ?_) (fun h20 => ?_)
    · refine r_aload_n C 1 dX3_readBeat_23 rfl ?_
      refine r_aload_n C 0 dX3_readBeat_24 rfl ?_
      refine r_get C 0 6 dX3_readBeat_25 K_X3 rfl rfl (Nat.le_of_ble_eq_true rfl) rfl m_135 rfl ?_
      refine r_callV C (o_X0_isCast l B (u1.1 6)) v_X0_isCast m_780 [2, 3, 4, 5, 6, 7, 8] [.int (u1.1 6)] [] (52) (Or.inl ⟨2, 0, _, TX0, 16, rfl, rfl, rfl⟩) (fun u2 => [.int u2]) (fun u2 => w_X3X0 u1 B) rfl rfl rfl rfl rfl (Nat.le_of_ble_eq_true rfl) ⟨(Nat.le_of_ble_eq_true rfl), (Nat.le_of_ble_eq_true rfl)⟩ ⟨Nat.zero_le _, Nat.zero_le _⟩ dX3_readBeat_28 (fun _ => rfl) (fun _ => rfl) (fun _ => rfl) (fun u2 => ?_)
      refine r_if_ne C 36 dX3_readBeat_31 (by decide) (fun h31 => ?_) (fun h31 => ?_)
      · refine r_iconst C (0) dX3_readBeat_34 rfl ?_
        exact r_retz (x := (0 : Int32)) (rv := (fun u => some (.int u.1))) (hpE := (fun u => w_X3X0 u.2.1 u.2.2)) (t0 := ((0 : Int32), u1, B)) C dX3_readBeat_35 (by rfl) (by rfl) (by rfl) (by rfl)
      · refine r_aload_n C 1 dX3_readBeat_36 rfl ?_
        refine r_aload_n C 0 dX3_readBeat_37 rfl ?_
        refine r_get C 0 6 dX3_readBeat_38 K_X3 rfl rfl (Nat.le_of_ble_eq_true rfl) rfl m_135 rfl ?_
        refine r_iconst C (-1) dX3_readBeat_41 rfl ?_
        refine r_callV C (o_X0_addBeat l B (u1.1 6) (-1 : Int32)) v_X0_addBeat m_781 [2, 3, 4, 5, 6, 7, 8] [.int (u1.1 6), .int (-1 : Int32)] [] (52) (Or.inl ⟨2, 0, _, TX0, 16, rfl, rfl, rfl⟩) (fun u3 => [.int u3.1]) (fun u3 => w_X3X0 u1 u3.2) rfl rfl rfl rfl rfl (Nat.le_of_ble_eq_true rfl) ⟨(Nat.le_of_ble_eq_true rfl), (Nat.le_of_ble_eq_true rfl)⟩ ⟨Nat.zero_le _, Nat.zero_le _⟩ dX3_readBeat_42 (fun _ => rfl) (fun _ => rfl) (fun _ => rfl) (fun u3 => ?_)
        refine r_istore_n C [(2, .int u3.1), (0, .ref 50), (1, .ref 52)] dX3_readBeat_45 (Nat.le_of_ble_eq_true rfl) rfl ?_
        refine r_aload_n C 1 dX3_readBeat_46 rfl ?_
        refine r_callV C (o_X3_nextToken l u1) v_X3_nextToken m_681 [0, 1] [] [] (50) (Or.inl ⟨0, 2, _, TX3, 8, rfl, rfl, rfl⟩) (fun u4 => []) (fun u4 => w_X3X0 u4 u3.2) rfl rfl rfl rfl rfl (Nat.le_of_ble_eq_true rfl) ⟨(Nat.le_of_ble_eq_true rfl), (Nat.le_of_ble_eq_true rfl)⟩ ⟨Nat.zero_le _, Nat.zero_le _⟩ dX3_readBeat_47 (fun _ => rfl) (fun _ => rfl) (fun _ => rfl) (fun u4 => ?_)
        refine r_aload_n C 1 dX3_readBeat_50 rfl ?_
        refine r_bipush C (11) dX3_readBeat_51 rfl ?_
        refine r_callV C (o_X3_isWord l u4 (11 : Int32)) v_X3_isWord m_782 [0, 1] [.int (11 : Int32)] [] (50) (Or.inl ⟨0, 2, _, TX3, 8, rfl, rfl, rfl⟩) (fun u5 => [.int u5]) (fun u5 => w_X3X0 u4 u3.2) rfl rfl rfl rfl rfl (Nat.le_of_ble_eq_true rfl) ⟨(Nat.le_of_ble_eq_true rfl), (Nat.le_of_ble_eq_true rfl)⟩ ⟨Nat.zero_le _, Nat.zero_le _⟩ dX3_readBeat_53 (fun _ => rfl) (fun _ => rfl) (fun _ => rfl) (fun u5 => ?_)
        refine r_if_ne C 61 dX3_readBeat_56 (by decide) (fun h56 => ?_) (fun h56 => ?_)
        · refine r_iconst C (1) dX3_readBeat_59 rfl ?_
          exact r_retz (x := (1 : Int32)) (rv := (fun u => some (.int u.1))) (hpE := (fun u => w_X3X0 u.2.1 u.2.2)) (t0 := ((1 : Int32), u4, u3.2)) C dX3_readBeat_60 (by rfl) (by rfl) (by rfl) (by rfl)
        · refine r_aload_n C 1 dX3_readBeat_61 rfl ?_
          refine r_callV C (o_X3_nextToken l u4) v_X3_nextToken m_681 [0, 1] [] [] (50) (Or.inl ⟨0, 2, _, TX3, 8, rfl, rfl, rfl⟩) (fun u6 => []) (fun u6 => w_X3X0 u6 u3.2) rfl rfl rfl rfl rfl (Nat.le_of_ble_eq_true rfl) ⟨(Nat.le_of_ble_eq_true rfl), (Nat.le_of_ble_eq_true rfl)⟩ ⟨Nat.zero_le _, Nat.zero_le _⟩ dX3_readBeat_62 (fun _ => rfl) (fun _ => rfl) (fun _ => rfl) (fun u6 => ?_)
          refine r_aload_n C 1 dX3_readBeat_65 rfl ?_
          refine r_iconst C (0) dX3_readBeat_66 rfl ?_
          refine r_aload_n C 2 dX3_readBeat_67 rfl ?_
          refine r_get C 2 0 dX3_readBeat_68 K_X0 rfl rfl (Nat.le_of_ble_eq_true rfl) rfl m_31 rfl ?_
          refine r_iconst C (1) dX3_readBeat_71 rfl ?_
          refine r_isub C dX3_readBeat_72 ?_
          refine r_callV C (o_X3_isNumber l u6 (0 : Int32) (u3.2.1 0 - (1 : Int32))) v_X3_isNumber m_786 [0, 1] [.int (0 : Int32), .int (u3.2.1 0 - (1 : Int32))] [] (50) (Or.inl ⟨0, 2, _, TX3, 8, rfl, rfl, rfl⟩) (fun u7 => [.int u7]) (fun u7 => w_X3X0 u6 u3.2) rfl rfl rfl rfl rfl (Nat.le_of_ble_eq_true rfl) ⟨(Nat.le_of_ble_eq_true rfl), (Nat.le_of_ble_eq_true rfl)⟩ ⟨Nat.zero_le _, Nat.zero_le _⟩ dX3_readBeat_73 (fun _ => rfl) (fun _ => rfl) (fun _ => rfl) (fun u7 => ?_)
          refine r_if_ne C 81 dX3_readBeat_76 (by decide) (fun h76 => ?_) (fun h76 => ?_)
          · refine r_iconst C (0) dX3_readBeat_79 rfl ?_
            exact r_retz (x := (0 : Int32)) (rv := (fun u => some (.int u.1))) (hpE := (fun u => w_X3X0 u.2.1 u.2.2)) (t0 := ((0 : Int32), u6, u3.2)) C dX3_readBeat_80 (by rfl) (by rfl) (by rfl) (by rfl)
          · refine r_aload_n C 2 dX3_readBeat_81 rfl ?_
            refine r_iload_n C 0 dX3_readBeat_82 rfl ?_
            refine r_aload_n C 1 dX3_readBeat_83 rfl ?_
            refine r_get C 0 6 dX3_readBeat_84 K_X3 rfl rfl (Nat.le_of_ble_eq_true rfl) rfl m_135 rfl ?_
            refine r_callV C (o_X0_setSpeaker l u3.2 u3.1 (u6.1 6)) v_X0_setSpeaker m_790 [2, 3, 4, 5, 6, 7, 8] [.int u3.1, .int (u6.1 6)] [] (52) (Or.inl ⟨2, 0, _, TX0, 16, rfl, rfl, rfl⟩) (fun u8 => []) (fun u8 => w_X3X0 u6 u8) rfl rfl rfl rfl rfl (Nat.le_of_ble_eq_true rfl) ⟨(Nat.le_of_ble_eq_true rfl), (Nat.le_of_ble_eq_true rfl)⟩ ⟨Nat.zero_le _, Nat.zero_le _⟩ dX3_readBeat_87 (fun _ => rfl) (fun _ => rfl) (fun _ => rfl) (fun u8 => ?_)
            refine r_aload_n C 1 dX3_readBeat_90 rfl ?_
            refine r_callV C (o_X3_nextToken l u6) v_X3_nextToken m_681 [0, 1] [] [] (50) (Or.inl ⟨0, 2, _, TX3, 8, rfl, rfl, rfl⟩) (fun u9 => []) (fun u9 => w_X3X0 u9 u8) rfl rfl rfl rfl rfl (Nat.le_of_ble_eq_true rfl) ⟨(Nat.le_of_ble_eq_true rfl), (Nat.le_of_ble_eq_true rfl)⟩ ⟨Nat.zero_le _, Nat.zero_le _⟩ dX3_readBeat_91 (fun _ => rfl) (fun _ => rfl) (fun _ => rfl) (fun u9 => ?_)
            refine r_iconst C (1) dX3_readBeat_94 rfl ?_
            exact r_retz (x := (1 : Int32)) (rv := (fun u => some (.int u.1))) (hpE := (fun u => w_X3X0 u.2.1 u.2.2)) (t0 := ((1 : Int32), u9, u8)) C dX3_readBeat_95 (by rfl) (by rfl) (by rfl) (by rfl)
    · refine r_iconst C (0) dX3_readBeat_34 rfl ?_
      exact r_retz (x := (0 : Int32)) (rv := (fun u => some (.int u.1))) (hpE := (fun u => w_X3X0 u.2.1 u.2.2)) (t0 := ((0 : Int32), u1, B)) C dX3_readBeat_35 (by rfl) (by rfl) (by rfl) (by rfl)
  · refine r_iconst C (0) dX3_readBeat_9 rfl ?_
    exact r_retz (x := (0 : Int32)) (rv := (fun u => some (.int u.1))) (hpE := (fun u => w_X3X0 u.2.1 u.2.2)) (t0 := ((0 : Int32), T, B)) C dX3_readBeat_10 (by rfl) (by rfl) (by rfl) (by rfl)
set_option maxRecDepth 100000 in
set_option maxHeartbeats 4000000 in
theorem o_X3_readLeaves (l : Launch) (T : q_St) (B : q_St) : q_Ok l yX3_readLeaves cX3_readLeaves 2 (some .boolean) 7 148 [.ref 50, .ref 52] (w_X3X0 T B) (f_X3_readLeaves T B) (fun u => some (.int u.1)) (fun u => w_X3X0 u.2.1 u.2.2) := by
  refine q_enter (by decide +kernel) (Nat.le_of_ble_eq_true rfl) (fun t p e s m args below meth c dC dI dA A α C => ?_)
  refine r_cut (f_X3_readLeaves.eq_1 _ _) ?_
  show q_S p l e (q_rm 7 148) s m args below meth c 2 dC dI dA A α (MQ below (q_Q α dC dI dA A ((fun u => some (.int u.1)) t) ((fun u => w_X3X0 u.2.1 u.2.2) t)) args s 0 0 A) 0 0 _ t 0 [(0, .ref 50), (1, .ref 52)] [] (w_X3X0 T B)
  refine r_aload_n C 0 dX3_readLeaves_0 rfl ?_
  refine r_callV C (o_X3_nextToken l T) v_X3_nextToken m_681 [0, 1] [] [] (50) (Or.inl ⟨0, 2, _, TX3, 8, rfl, rfl, rfl⟩) (fun u1 => []) (fun u1 => w_X3X0 u1 B) rfl rfl rfl rfl rfl (Nat.le_of_ble_eq_true rfl) ⟨(Nat.le_of_ble_eq_true rfl), (Nat.le_of_ble_eq_true rfl)⟩ ⟨Nat.zero_le _, Nat.zero_le _⟩ dX3_readLeaves_1 (fun _ => rfl) (fun _ => rfl) (fun _ => rfl) (fun u1 => ?_)
  refine r_aload_n C 0 dX3_readLeaves_4 rfl ?_
  refine r_iconst C (0) dX3_readLeaves_5 rfl ?_
  refine r_bipush C (10) dX3_readLeaves_6 rfl ?_
  refine r_callV C (o_X3_isNumber l u1 (0 : Int32) (10 : Int32)) v_X3_isNumber m_786 [0, 1] [.int (0 : Int32), .int (10 : Int32)] [] (50) (Or.inl ⟨0, 2, _, TX3, 8, rfl, rfl, rfl⟩) (fun u2 => [.int u2]) (fun u2 => w_X3X0 u1 B) rfl rfl rfl rfl rfl (Nat.le_of_ble_eq_true rfl) ⟨(Nat.le_of_ble_eq_true rfl), (Nat.le_of_ble_eq_true rfl)⟩ ⟨Nat.zero_le _, Nat.zero_le _⟩ dX3_readLeaves_8 (fun _ => rfl) (fun _ => rfl) (fun _ => rfl) (fun u2 => ?_)
  refine r_if_ne C 16 dX3_readLeaves_11 (by decide) (fun h11 => ?_) (fun h11 => ?_)
  · refine r_iconst C (0) dX3_readLeaves_14 rfl ?_
    exact r_retz (x := (0 : Int32)) (rv := (fun u => some (.int u.1))) (hpE := (fun u => w_X3X0 u.2.1 u.2.2)) (t0 := ((0 : Int32), u1, B)) C dX3_readLeaves_15 (by rfl) (by rfl) (by rfl) (by rfl)
  · refine r_aload_n C 1 dX3_readLeaves_16 rfl ?_
    refine r_aload_n C 0 dX3_readLeaves_17 rfl ?_
    refine r_get C 0 6 dX3_readLeaves_18 K_X3 rfl rfl (Nat.le_of_ble_eq_true rfl) rfl m_135 rfl ?_
    refine r_put C 2 4 _ dX3_readLeaves_21 K_X0 rfl rfl (Nat.le_of_ble_eq_true rfl) rfl m_45 rfl (fun _ => rfl) (fun _ => rfl) (Nat.le_of_ble_eq_true rfl) rfl ?_
    refine r_aload_n C 0 dX3_readLeaves_24 rfl ?_
    refine r_callV C (o_X3_nextToken l u1) v_X3_nextToken m_681 [0, 1] [] [] (50) (Or.inl ⟨0, 2, _, TX3, 8, rfl, rfl, rfl⟩) (fun u3 => []) (fun u3 => w_X3X0 u3 ((va_up B.1 4 (u1.1 6)), B.2)) rfl rfl rfl rfl rfl (Nat.le_of_ble_eq_true rfl) ⟨(Nat.le_of_ble_eq_true rfl), (Nat.le_of_ble_eq_true rfl)⟩ ⟨Nat.zero_le _, Nat.zero_le _⟩ dX3_readLeaves_25 (fun _ => rfl) (fun _ => rfl) (fun _ => rfl) (fun u3 => ?_)
    refine r_iconst C (1) dX3_readLeaves_28 rfl ?_
    exact r_retz (x := (1 : Int32)) (rv := (fun u => some (.int u.1))) (hpE := (fun u => w_X3X0 u.2.1 u.2.2)) (t0 := ((1 : Int32), u3, ((va_up B.1 4 (u1.1 6)), B.2))) C dX3_readLeaves_29 (by rfl) (by rfl) (by rfl) (by rfl)
set_option maxRecDepth 100000 in
set_option maxHeartbeats 4000000 in
theorem o_X3_readHook (l : Launch) (T : q_St) (B : q_St) : q_Ok l yX3_readHook cX3_readHook 3 (some .boolean) 7 148 [.ref 50, .ref 52] (w_X3X0 T B) (f_X3_readHook T B) (fun u => some (.int u.1)) (fun u => w_X3X0 u.2.1 u.2.2) := by
  refine q_enter (by decide +kernel) (Nat.le_of_ble_eq_true rfl) (fun t p e s m args below meth c dC dI dA A α C => ?_)
  refine r_cut (f_X3_readHook.eq_1 _ _) ?_
  show q_S p l e (q_rm 7 148) s m args below meth c 3 dC dI dA A α (MQ below (q_Q α dC dI dA A ((fun u => some (.int u.1)) t) ((fun u => w_X3X0 u.2.1 u.2.2) t)) args s 0 0 A) 0 0 _ t 0 [(0, .ref 50), (1, .ref 52)] [] (w_X3X0 T B)
  refine r_aload_n C 0 dX3_readHook_0 rfl ?_
  refine r_callV C (o_X3_nextToken l T) v_X3_nextToken m_681 [0, 1] [] [] (50) (Or.inl ⟨0, 2, _, TX3, 8, rfl, rfl, rfl⟩) (fun u1 => []) (fun u1 => w_X3X0 u1 B) rfl rfl rfl rfl rfl (Nat.le_of_ble_eq_true rfl) ⟨(Nat.le_of_ble_eq_true rfl), (Nat.le_of_ble_eq_true rfl)⟩ ⟨Nat.zero_le _, Nat.zero_le _⟩ dX3_readHook_1 (fun _ => rfl) (fun _ => rfl) (fun _ => rfl) (fun u1 => ?_)
  refine r_aload_n C 0 dX3_readHook_4 rfl ?_
  refine r_iconst C (0) dX3_readHook_5 rfl ?_
  refine r_aload_n C 1 dX3_readHook_6 rfl ?_
  refine r_get C 2 0 dX3_readHook_7 K_X0 rfl rfl (Nat.le_of_ble_eq_true rfl) rfl m_31 rfl ?_
  refine r_iconst C (1) dX3_readHook_10 rfl ?_
  refine r_isub C dX3_readHook_11 ?_
  refine r_callV C (o_X3_isNumber l u1 (0 : Int32) (B.1 0 - (1 : Int32))) v_X3_isNumber m_786 [0, 1] [.int (0 : Int32), .int (B.1 0 - (1 : Int32))] [] (50) (Or.inl ⟨0, 2, _, TX3, 8, rfl, rfl, rfl⟩) (fun u2 => [.int u2]) (fun u2 => w_X3X0 u1 B) rfl rfl rfl rfl rfl (Nat.le_of_ble_eq_true rfl) ⟨(Nat.le_of_ble_eq_true rfl), (Nat.le_of_ble_eq_true rfl)⟩ ⟨Nat.zero_le _, Nat.zero_le _⟩ dX3_readHook_12 (fun _ => rfl) (fun _ => rfl) (fun _ => rfl) (fun u2 => ?_)
  refine r_if_ne C 20 dX3_readHook_15 (by decide) (fun h15 => ?_) (fun h15 => ?_)
  · refine r_iconst C (0) dX3_readHook_18 rfl ?_
    exact r_retz (x := (0 : Int32)) (rv := (fun u => some (.int u.1))) (hpE := (fun u => w_X3X0 u.2.1 u.2.2)) (t0 := ((0 : Int32), u1, B)) C dX3_readHook_19 (by rfl) (by rfl) (by rfl) (by rfl)
  · refine r_aload_n C 0 dX3_readHook_20 rfl ?_
    refine r_get C 0 6 dX3_readHook_21 K_X3 rfl rfl (Nat.le_of_ble_eq_true rfl) rfl m_135 rfl ?_
    refine r_istore_n C [(2, .int (u1.1 6)), (0, .ref 50), (1, .ref 52)] dX3_readHook_24 (Nat.le_of_ble_eq_true rfl) rfl ?_
    refine r_aload_n C 1 dX3_readHook_25 rfl ?_
    refine r_callV C (o_X3_nextToken l u1) v_X3_nextToken m_681 [0, 1] [] [] (50) (Or.inl ⟨0, 2, _, TX3, 8, rfl, rfl, rfl⟩) (fun u3 => []) (fun u3 => w_X3X0 u3 B) rfl rfl rfl rfl rfl (Nat.le_of_ble_eq_true rfl) ⟨(Nat.le_of_ble_eq_true rfl), (Nat.le_of_ble_eq_true rfl)⟩ ⟨Nat.zero_le _, Nat.zero_le _⟩ dX3_readHook_26 (fun _ => rfl) (fun _ => rfl) (fun _ => rfl) (fun u3 => ?_)
    refine r_aload_n C 1 dX3_readHook_29 rfl ?_
    refine r_iconst C (0) dX3_readHook_30 rfl ?_
    refine r_aload_n C 2 dX3_readHook_31 rfl ?_
    refine r_get C 2 0 dX3_readHook_32 K_X0 rfl rfl (Nat.le_of_ble_eq_true rfl) rfl m_31 rfl ?_
    refine r_iconst C (1) dX3_readHook_35 rfl ?_
    refine r_isub C dX3_readHook_36 ?_
    refine r_callV C (o_X3_isNumber l u3 (0 : Int32) (B.1 0 - (1 : Int32))) v_X3_isNumber m_786 [0, 1] [.int (0 : Int32), .int (B.1 0 - (1 : Int32))] [] (50) (Or.inl ⟨0, 2, _, TX3, 8, rfl, rfl, rfl⟩) (fun u4 => [.int u4]) (fun u4 => w_X3X0 u3 B) rfl rfl rfl rfl rfl (Nat.le_of_ble_eq_true rfl) ⟨(Nat.le_of_ble_eq_true rfl), (Nat.le_of_ble_eq_true rfl)⟩ ⟨Nat.zero_le _, Nat.zero_le _⟩ dX3_readHook_37 (fun _ => rfl) (fun _ => rfl) (fun _ => rfl) (fun u4 => ?_)
    refine r_if_ne C 45 dX3_readHook_40 (by decide) (fun h40 => ?_) (fun h40 => ?_)
    · refine r_iconst C (0) dX3_readHook_43 rfl ?_
      exact r_retz (x := (0 : Int32)) (rv := (fun u => some (.int u.1))) (hpE := (fun u => w_X3X0 u.2.1 u.2.2)) (t0 := ((0 : Int32), u3, B)) C dX3_readHook_44 (by rfl) (by rfl) (by rfl) (by rfl)
    · refine r_aload_n C 2 dX3_readHook_45 rfl ?_
      refine r_iload_n C 0 dX3_readHook_46 rfl ?_
      refine r_aload_n C 1 dX3_readHook_47 rfl ?_
      refine r_get C 0 6 dX3_readHook_48 K_X3 rfl rfl (Nat.le_of_ble_eq_true rfl) rfl m_135 rfl ?_
      refine r_callV C (o_X0_swapHooks l B (u1.1 6) (u3.1 6)) v_X0_swapHooks m_799 [2, 3, 4, 5, 6, 7, 8] [.int (u1.1 6), .int (u3.1 6)] [] (52) (Or.inl ⟨2, 0, _, TX0, 16, rfl, rfl, rfl⟩) (fun u5 => []) (fun u5 => w_X3X0 u3 u5) rfl rfl rfl rfl rfl (Nat.le_of_ble_eq_true rfl) ⟨(Nat.le_of_ble_eq_true rfl), (Nat.le_of_ble_eq_true rfl)⟩ ⟨Nat.zero_le _, Nat.zero_le _⟩ dX3_readHook_51 (fun _ => rfl) (fun _ => rfl) (fun _ => rfl) (fun u5 => ?_)
      refine r_aload_n C 1 dX3_readHook_54 rfl ?_
      refine r_callV C (o_X3_nextToken l u3) v_X3_nextToken m_681 [0, 1] [] [] (50) (Or.inl ⟨0, 2, _, TX3, 8, rfl, rfl, rfl⟩) (fun u6 => []) (fun u6 => w_X3X0 u6 u5) rfl rfl rfl rfl rfl (Nat.le_of_ble_eq_true rfl) ⟨(Nat.le_of_ble_eq_true rfl), (Nat.le_of_ble_eq_true rfl)⟩ ⟨Nat.zero_le _, Nat.zero_le _⟩ dX3_readHook_55 (fun _ => rfl) (fun _ => rfl) (fun _ => rfl) (fun u6 => ?_)
      refine r_iconst C (1) dX3_readHook_58 rfl ?_
      exact r_retz (x := (1 : Int32)) (rv := (fun u => some (.int u.1))) (hpE := (fun u => w_X3X0 u.2.1 u.2.2)) (t0 := ((1 : Int32), u6, u5)) C dX3_readHook_59 (by rfl) (by rfl) (by rfl) (by rfl)
set_option maxRecDepth 100000 in
set_option maxHeartbeats 4000000 in
theorem o_X3_readDoll (l : Launch) (T : q_St) (B : q_St) (a2 : Int32) : q_Ok l yX3_readDoll cX3_readDoll 4 (some .boolean) 7 148 [.ref 50, .ref 52, .int a2] (w_X3X0 T B) (f_X3_readDoll T B a2) (fun u => some (.int u.1)) (fun u => w_X3X0 u.2.1 u.2.2) := by
  refine q_enter (by decide +kernel) (Nat.le_of_ble_eq_true rfl) (fun t p e s m args below meth c dC dI dA A α C => ?_)
  refine r_cut (f_X3_readDoll.eq_1 _ _ _) ?_
  show q_S p l e (q_rm 7 148) s m args below meth c 4 dC dI dA A α (MQ below (q_Q α dC dI dA A ((fun u => some (.int u.1)) t) ((fun u => w_X3X0 u.2.1 u.2.2) t)) args s 0 0 A) 0 0 _ t 0 [(0, .ref 50), (1, .ref 52), (2, .int a2)] [] (w_X3X0 T B)
  refine r_aload_n C 1 dX3_readDoll_0 rfl ?_
  refine r_get C 2 0 dX3_readDoll_1 K_X0 rfl rfl (Nat.le_of_ble_eq_true rfl) rfl m_31 rfl ?_
  refine r_bipush C (8) dX3_readDoll_4 rfl ?_
  refine r_icmp_lt C 11 dX3_readDoll_6 (by decide) (fun h6 => ?_) (fun h6 => ?_)
  · refine r_aload_n C 1 dX3_readDoll_11 rfl ?_
    refine r_iload_n C 2 dX3_readDoll_12 rfl ?_
    refine r_callV C (o_X0_addDoll l B a2) v_X0_addDoll m_805 [2, 3, 4, 5, 6, 7, 8] [.int a2] [] (52) (Or.inl ⟨2, 0, _, TX0, 16, rfl, rfl, rfl⟩) (fun u1 => [.int u1.1]) (fun u1 => w_X3X0 T u1.2) rfl rfl rfl rfl rfl (Nat.le_of_ble_eq_true rfl) ⟨(Nat.le_of_ble_eq_true rfl), (Nat.le_of_ble_eq_true rfl)⟩ ⟨Nat.zero_le _, Nat.zero_le _⟩ dX3_readDoll_13 (fun _ => rfl) (fun _ => rfl) (fun _ => rfl) (fun u1 => ?_)
    refine r_istore_n C [(3, .int u1.1), (0, .ref 50), (1, .ref 52), (2, .int a2)] dX3_readDoll_16 (Nat.le_of_ble_eq_true rfl) rfl ?_
    refine r_aload_n C 1 dX3_readDoll_17 rfl ?_
    refine r_callV C (o_X3_nextToken l T) v_X3_nextToken m_681 [0, 1] [] [] (50) (Or.inl ⟨0, 2, _, TX3, 8, rfl, rfl, rfl⟩) (fun u2 => []) (fun u2 => w_X3X0 u2 u1.2) rfl rfl rfl rfl rfl (Nat.le_of_ble_eq_true rfl) ⟨(Nat.le_of_ble_eq_true rfl), (Nat.le_of_ble_eq_true rfl)⟩ ⟨Nat.zero_le _, Nat.zero_le _⟩ dX3_readDoll_18 (fun _ => rfl) (fun _ => rfl) (fun _ => rfl) (fun u2 => ?_)
    refine r_aload_n C 1 dX3_readDoll_21 rfl ?_
    refine r_bipush C (10) dX3_readDoll_22 rfl ?_
    refine r_callV C (o_X3_isWord l u2 (10 : Int32)) v_X3_isWord m_782 [0, 1] [.int (10 : Int32)] [] (50) (Or.inl ⟨0, 2, _, TX3, 8, rfl, rfl, rfl⟩) (fun u3 => [.int u3]) (fun u3 => w_X3X0 u2 u1.2) rfl rfl rfl rfl rfl (Nat.le_of_ble_eq_true rfl) ⟨(Nat.le_of_ble_eq_true rfl), (Nat.le_of_ble_eq_true rfl)⟩ ⟨Nat.zero_le _, Nat.zero_le _⟩ dX3_readDoll_24 (fun _ => rfl) (fun _ => rfl) (fun _ => rfl) (fun u3 => ?_)
    refine r_if_ne C 32 dX3_readDoll_27 (by decide) (fun h27 => ?_) (fun h27 => ?_)
    · refine r_iconst C (1) dX3_readDoll_30 rfl ?_
      exact r_retz (x := (1 : Int32)) (rv := (fun u => some (.int u.1))) (hpE := (fun u => w_X3X0 u.2.1 u.2.2)) (t0 := ((1 : Int32), u2, u1.2)) C dX3_readDoll_31 (by rfl) (by rfl) (by rfl) (by rfl)
    · refine r_aload_n C 1 dX3_readDoll_32 rfl ?_
      refine r_callV C (o_X3_nextToken l u2) v_X3_nextToken m_681 [0, 1] [] [] (50) (Or.inl ⟨0, 2, _, TX3, 8, rfl, rfl, rfl⟩) (fun u4 => []) (fun u4 => w_X3X0 u4 u1.2) rfl rfl rfl rfl rfl (Nat.le_of_ble_eq_true rfl) ⟨(Nat.le_of_ble_eq_true rfl), (Nat.le_of_ble_eq_true rfl)⟩ ⟨Nat.zero_le _, Nat.zero_le _⟩ dX3_readDoll_33 (fun _ => rfl) (fun _ => rfl) (fun _ => rfl) (fun u4 => ?_)
      refine r_aload_n C 1 dX3_readDoll_36 rfl ?_
      refine r_iconst C (1) dX3_readDoll_37 rfl ?_
      refine r_bipush C (9) dX3_readDoll_38 rfl ?_
      refine r_callV C (o_X3_isNumber l u4 (1 : Int32) (9 : Int32)) v_X3_isNumber m_786 [0, 1] [.int (1 : Int32), .int (9 : Int32)] [] (50) (Or.inl ⟨0, 2, _, TX3, 8, rfl, rfl, rfl⟩) (fun u5 => [.int u5]) (fun u5 => w_X3X0 u4 u1.2) rfl rfl rfl rfl rfl (Nat.le_of_ble_eq_true rfl) ⟨(Nat.le_of_ble_eq_true rfl), (Nat.le_of_ble_eq_true rfl)⟩ ⟨Nat.zero_le _, Nat.zero_le _⟩ dX3_readDoll_40 (fun _ => rfl) (fun _ => rfl) (fun _ => rfl) (fun u5 => ?_)
      refine r_if_ne C 48 dX3_readDoll_43 (by decide) (fun h43 => ?_) (fun h43 => ?_)
      · refine r_iconst C (0) dX3_readDoll_46 rfl ?_
        exact r_retz (x := (0 : Int32)) (rv := (fun u => some (.int u.1))) (hpE := (fun u => w_X3X0 u.2.1 u.2.2)) (t0 := ((0 : Int32), u4, u1.2)) C dX3_readDoll_47 (by rfl) (by rfl) (by rfl) (by rfl)
      · refine r_aload_n C 2 dX3_readDoll_48 rfl ?_
        refine r_iload_n C 0 dX3_readDoll_49 rfl ?_
        refine r_aload_n C 1 dX3_readDoll_50 rfl ?_
        refine r_get C 0 6 dX3_readDoll_51 K_X3 rfl rfl (Nat.le_of_ble_eq_true rfl) rfl m_135 rfl ?_
        refine r_callV C (o_X0_setSize l u1.2 u1.1 (u4.1 6)) v_X0_setSize m_806 [2, 3, 4, 5, 6, 7, 8] [.int u1.1, .int (u4.1 6)] [] (52) (Or.inl ⟨2, 0, _, TX0, 16, rfl, rfl, rfl⟩) (fun u6 => []) (fun u6 => w_X3X0 u4 u6) rfl rfl rfl rfl rfl (Nat.le_of_ble_eq_true rfl) ⟨(Nat.le_of_ble_eq_true rfl), (Nat.le_of_ble_eq_true rfl)⟩ ⟨Nat.zero_le _, Nat.zero_le _⟩ dX3_readDoll_54 (fun _ => rfl) (fun _ => rfl) (fun _ => rfl) (fun u6 => ?_)
        refine r_aload_n C 1 dX3_readDoll_57 rfl ?_
        refine r_callV C (o_X3_nextToken l u4) v_X3_nextToken m_681 [0, 1] [] [] (50) (Or.inl ⟨0, 2, _, TX3, 8, rfl, rfl, rfl⟩) (fun u7 => []) (fun u7 => w_X3X0 u7 u6) rfl rfl rfl rfl rfl (Nat.le_of_ble_eq_true rfl) ⟨(Nat.le_of_ble_eq_true rfl), (Nat.le_of_ble_eq_true rfl)⟩ ⟨Nat.zero_le _, Nat.zero_le _⟩ dX3_readDoll_58 (fun _ => rfl) (fun _ => rfl) (fun _ => rfl) (fun u7 => ?_)
        refine r_iconst C (1) dX3_readDoll_61 rfl ?_
        exact r_retz (x := (1 : Int32)) (rv := (fun u => some (.int u.1))) (hpE := (fun u => w_X3X0 u.2.1 u.2.2)) (t0 := ((1 : Int32), u7, u6)) C dX3_readDoll_62 (by rfl) (by rfl) (by rfl) (by rfl)
  · refine r_iconst C (0) dX3_readDoll_9 rfl ?_
    exact r_retz (x := (0 : Int32)) (rv := (fun u => some (.int u.1))) (hpE := (fun u => w_X3X0 u.2.1 u.2.2)) (t0 := ((0 : Int32), T, B)) C dX3_readDoll_10 (by rfl) (by rfl) (by rfl) (by rfl)
set_option maxRecDepth 100000 in
set_option maxHeartbeats 4000000 in
theorem o_X3_readItem (l : Launch) (T : q_St) (B : q_St) : q_Ok l yX3_readItem cX3_readItem 2 (some .boolean) 8 171 [.ref 50, .ref 52] (w_X3X0 T B) (f_X3_readItem T B) (fun u => some (.int u.1)) (fun u => w_X3X0 u.2.1 u.2.2) := by
  refine q_enter (by decide +kernel) (Nat.le_of_ble_eq_true rfl) (fun t p e s m args below meth c dC dI dA A α C => ?_)
  refine r_cut (f_X3_readItem.eq_1 _ _) ?_
  show q_S p l e (q_rm 8 171) s m args below meth c 2 dC dI dA A α (MQ below (q_Q α dC dI dA A ((fun u => some (.int u.1)) t) ((fun u => w_X3X0 u.2.1 u.2.2) t)) args s 0 0 A) 0 0 _ t 0 [(0, .ref 50), (1, .ref 52)] [] (w_X3X0 T B)
  refine r_aload_n C 0 dX3_readItem_0 rfl ?_
  refine r_get C 0 5 dX3_readItem_1 K_X3 rfl rfl (Nat.le_of_ble_eq_true rfl) rfl m_134 rfl ?_
  refine r_iconst C (1) dX3_readItem_4 rfl ?_
  refine r_icmp_eq C 10 dX3_readItem_5 (by decide) (fun h5 => ?_) (fun h5 => ?_)
  · refine r_aload_n C 0 dX3_readItem_10 rfl ?_
    refine r_get C 0 7 dX3_readItem_11 K_X3 rfl rfl (Nat.le_of_ble_eq_true rfl) rfl m_136 rfl ?_
    refine r_tsw C (7) 40 dX3_readItem_14 (by decide) (by decide) rfl (by decide) (fun h14_7 => ?_) (fun h14_7 => ?_)
    · refine r_aload_n C 0 dX3_readItem_40 rfl ?_
      refine r_aload_n C 1 dX3_readItem_41 rfl ?_
      refine r_callV0 C (o_X3_readBeat l T B) v_X3_readBeat m_776 [.ref 52] [] (50) (Or.inl ⟨0, 2, _, TX3, 8, rfl, rfl, rfl⟩) (fun u1 => [.int u1.1]) (fun u1 => w_X3X0 u1.2.1 u1.2.2) rfl rfl rfl (Nat.le_of_ble_eq_true rfl) ⟨(Nat.le_of_ble_eq_true rfl), (Nat.le_of_ble_eq_true rfl)⟩ ⟨Nat.zero_le _, Nat.zero_le _⟩ dX3_readItem_42 (fun _ => rfl) (fun _ => rfl) (fun _ => rfl) (fun u1 => ?_)
      refine r_gbz (fun hz => ?_)
      exact r_retz (x := u1.1) (rv := (fun u => some (.int u.1))) (hpE := (fun u => w_X3X0 u.2.1 u.2.2)) (t0 := (u1.1, u1.2.1, u1.2.2)) C dX3_readItem_45 (by rfl) (by exact q_nz1 hz) (by rfl) (by rfl)
    refine r_tsw C (8) 46 dX3_readItem_14 (by decide) (by decide) rfl (by decide) (fun h14_8 => ?_) (fun h14_8 => ?_)
    · refine r_aload_n C 0 dX3_readItem_46 rfl ?_
      refine r_aload_n C 1 dX3_readItem_47 rfl ?_
      refine r_callV0 C (o_X3_readLeaves l T B) v_X3_readLeaves m_791 [.ref 52] [] (50) (Or.inl ⟨0, 2, _, TX3, 8, rfl, rfl, rfl⟩) (fun u2 => [.int u2.1]) (fun u2 => w_X3X0 u2.2.1 u2.2.2) rfl rfl rfl (Nat.le_of_ble_eq_true rfl) ⟨(Nat.le_of_ble_eq_true rfl), (Nat.le_of_ble_eq_true rfl)⟩ ⟨Nat.zero_le _, Nat.zero_le _⟩ dX3_readItem_48 (fun _ => rfl) (fun _ => rfl) (fun _ => rfl) (fun u2 => ?_)
      refine r_gbz (fun hz => ?_)
      exact r_retz (x := u2.1) (rv := (fun u => some (.int u.1))) (hpE := (fun u => w_X3X0 u.2.1 u.2.2)) (t0 := (u2.1, u2.2.1, u2.2.2)) C dX3_readItem_51 (by rfl) (by exact q_nz1 hz) (by rfl) (by rfl)
    refine r_tsw C (9) 52 dX3_readItem_14 (by decide) (by decide) rfl (by decide) (fun h14_9 => ?_) (fun h14_9 => ?_)
    · refine r_aload_n C 0 dX3_readItem_52 rfl ?_
      refine r_aload_n C 1 dX3_readItem_53 rfl ?_
      refine r_callV0 C (o_X3_readHook l T B) v_X3_readHook m_795 [.ref 52] [] (50) (Or.inl ⟨0, 2, _, TX3, 8, rfl, rfl, rfl⟩) (fun u3 => [.int u3.1]) (fun u3 => w_X3X0 u3.2.1 u3.2.2) rfl rfl rfl (Nat.le_of_ble_eq_true rfl) ⟨(Nat.le_of_ble_eq_true rfl), (Nat.le_of_ble_eq_true rfl)⟩ ⟨Nat.zero_le _, Nat.zero_le _⟩ dX3_readItem_54 (fun _ => rfl) (fun _ => rfl) (fun _ => rfl) (fun u3 => ?_)
      refine r_gbz (fun hz => ?_)
      exact r_retz (x := u3.1) (rv := (fun u => some (.int u.1))) (hpE := (fun u => w_X3X0 u.2.1 u.2.2)) (t0 := (u3.1, u3.2.1, u3.2.2)) C dX3_readItem_57 (by rfl) (by exact q_nz1 hz) (by rfl) (by rfl)
    have g0 := True.intro
    have g14_7 := q_neI h14_7 (z := 7) (by decide)
    have g14_8 := q_neI h14_8 (z := 8) (by decide)
    have g14_9 := q_neI h14_9 (z := 9) (by decide)
    refine r_tswD C 58 dX3_readItem_14 (by omega) (by decide) ?_
    refine r_aload_n C 0 dX3_readItem_58 rfl ?_
    refine r_get C 0 7 dX3_readItem_59 K_X3 rfl rfl (Nat.le_of_ble_eq_true rfl) rfl m_136 rfl ?_
    refine r_callS C (o_X1_isKind l (T.1 7)) v_X1_isKind m_800 [] [.int (T.1 7)] [] (fun u4 => [.int u4]) (fun u4 => w_X3X0 T B) rfl rfl rfl rfl rfl (Nat.le_of_ble_eq_true rfl) ⟨(Nat.le_of_ble_eq_true rfl), (Nat.le_of_ble_eq_true rfl)⟩ ⟨Nat.zero_le _, Nat.zero_le _⟩ dX3_readItem_62 (fun _ => rfl) (fun _ => rfl) (fun _ => rfl) (fun u4 => ?_)
    refine r_if_eq C 84 dX3_readItem_65 (by decide) (fun h65 => ?_) (fun h65 => ?_)
    · refine r_iconst C (0) dX3_readItem_84 rfl ?_
      exact r_retz (x := (0 : Int32)) (rv := (fun u => some (.int u.1))) (hpE := (fun u => w_X3X0 u.2.1 u.2.2)) (t0 := ((0 : Int32), T, B)) C dX3_readItem_85 (by rfl) (by rfl) (by rfl) (by rfl)
    · refine r_aload_n C 0 dX3_readItem_68 rfl ?_
      refine r_aload_n C 1 dX3_readItem_69 rfl ?_
      refine r_aload_n C 0 dX3_readItem_70 rfl ?_
      refine r_get C 0 7 dX3_readItem_71 K_X3 rfl rfl (Nat.le_of_ble_eq_true rfl) rfl m_136 rfl ?_
      refine r_callV0 C (o_X3_readDoll l T B (T.1 7)) v_X3_readDoll m_801 [.ref 52, .int (T.1 7)] [] (50) (Or.inl ⟨0, 2, _, TX3, 8, rfl, rfl, rfl⟩) (fun u5 => [.int u5.1]) (fun u5 => w_X3X0 u5.2.1 u5.2.2) rfl rfl rfl (Nat.le_of_ble_eq_true rfl) ⟨(Nat.le_of_ble_eq_true rfl), (Nat.le_of_ble_eq_true rfl)⟩ ⟨Nat.zero_le _, Nat.zero_le _⟩ dX3_readItem_74 (fun _ => rfl) (fun _ => rfl) (fun _ => rfl) (fun u5 => ?_)
      refine r_if_eq C 84 dX3_readItem_77 (by decide) (fun h77 => ?_) (fun h77 => ?_)
      · refine r_iconst C (0) dX3_readItem_84 rfl ?_
        exact r_retz (x := (0 : Int32)) (rv := (fun u => some (.int u.1))) (hpE := (fun u => w_X3X0 u.2.1 u.2.2)) (t0 := ((0 : Int32), u5.2.1, u5.2.2)) C dX3_readItem_85 (by rfl) (by rfl) (by rfl) (by rfl)
      · refine r_iconst C (1) dX3_readItem_80 rfl ?_
        refine r_goto C 85 dX3_readItem_81 (by decide) ?_
        exact r_retz (x := (1 : Int32)) (rv := (fun u => some (.int u.1))) (hpE := (fun u => w_X3X0 u.2.1 u.2.2)) (t0 := ((1 : Int32), u5.2.1, u5.2.2)) C dX3_readItem_85 (by rfl) (by rfl) (by rfl) (by rfl)
  · refine r_iconst C (0) dX3_readItem_8 rfl ?_
    exact r_retz (x := (0 : Int32)) (rv := (fun u => some (.int u.1))) (hpE := (fun u => w_X3X0 u.2.1 u.2.2)) (t0 := ((0 : Int32), T, B)) C dX3_readItem_9 (by rfl) (by rfl) (by rfl) (by rfl)
set_option maxRecDepth 100000 in
set_option maxHeartbeats 4000000 in
theorem k_X3_read_16 {p : Program} {l : Launch} {e : Env} {s : State} {m : MethodId} {args : Array Value} {below : List Frame} {meth : Method} {c : Code} {dC : Nat → ClassId} {dI : Nat → Nat → Nat} {dA : Nat → ClassId} {A : Nat → Prop} {α : Nat → Nat} {t : Int32 × q_St × q_St} (C : q_Cx p s m args meth c cX3_read 3 RX3 (some .int) "read" dC dI dA A α) (T : q_St) (B : q_St)  : ∀ (n : Nat) (x2 : Int32) (T' : q_St) (B' : q_St), q_S p l e (q_rm 9 192) s m args below meth c 3 dC dI dA A α (MQ below (q_Q α dC dI dA A ((fun u => some (.int u.1)) t) ((fun u => w_X3X0 u.2.1 u.2.2) t)) args s 0 0 A) 0 0 (f_X3_read_16 T B  n x2 T' B') t 16 [(0, .ref 50), (1, .ref 52), (2, .int x2)] [] (w_X3X0 T' B') := by
  intro n
  induction n with
  | zero =>
    intro x2 T' B'
    exact r_cut (f_X3_read_16.eq_1 _ _ _ _ _) (r_none True.intro)
  | succ n ih =>
    intro x2 T' B'
    refine r_cut (f_X3_read_16.eq_2 _ _ _ _ _ _) ?_
    refine r_iload_n C 2 dX3_read_16 rfl ?_
    refine r_bipush C (120) dX3_read_17 rfl ?_
    refine r_icmp_gt C 77 dX3_read_19 (by decide) (fun h19 => ?_) (fun h19 => ?_)
    · refine r_aload_n C 0 dX3_read_77 rfl ?_
      refine r_get C 0 4 dX3_read_78 K_X3 rfl rfl (Nat.le_of_ble_eq_true rfl) rfl m_133 rfl ?_
      exact r_reti (x := T'.1 4) (rv := (fun u => some (.int u.1))) (hpE := (fun u => w_X3X0 u.2.1 u.2.2)) (t0 := (T'.1 4, T', B')) C dX3_read_81 (by rfl) (by rfl) (by rfl)
    · refine r_aload_n C 0 dX3_read_22 rfl ?_
      refine r_aload_n C 1 dX3_read_23 rfl ?_
      refine r_callV0 C (o_X3_readItem l T' B') v_X3_readItem m_772 [.ref 52] [] (50) (Or.inl ⟨0, 2, _, TX3, 8, rfl, rfl, rfl⟩) (fun u2 => [.int u2.1]) (fun u2 => w_X3X0 u2.2.1 u2.2.2) rfl rfl rfl (Nat.le_of_ble_eq_true rfl) ⟨(Nat.le_of_ble_eq_true rfl), (Nat.le_of_ble_eq_true rfl)⟩ ⟨Nat.zero_le _, Nat.zero_le _⟩ dX3_read_24 (fun _ => rfl) (fun _ => rfl) (fun _ => rfl) (fun u2 => ?_)
      refine r_if_ne C 35 dX3_read_27 (by decide) (fun h27 => ?_) (fun h27 => ?_)
      · refine r_aload_n C 0 dX3_read_30 rfl ?_
        refine r_get C 0 4 dX3_read_31 K_X3 rfl rfl (Nat.le_of_ble_eq_true rfl) rfl m_133 rfl ?_
        exact r_reti (x := u2.2.1.1 4) (rv := (fun u => some (.int u.1))) (hpE := (fun u => w_X3X0 u.2.1 u.2.2)) (t0 := (u2.2.1.1 4, u2.2.1, u2.2.2)) C dX3_read_34 (by rfl) (by rfl) (by rfl)
      · refine r_aload_n C 0 dX3_read_35 rfl ?_
        refine r_dup C dX3_read_36 rfl ?_
        refine r_get C 0 1 dX3_read_37 K_X3 rfl rfl (Nat.le_of_ble_eq_true rfl) rfl m_129 rfl ?_
        refine r_iconst C (1) dX3_read_40 rfl ?_
        refine r_iadd C dX3_read_41 ?_
        refine r_put C 0 1 _ dX3_read_42 K_X3 rfl rfl (Nat.le_of_ble_eq_true rfl) rfl m_129 rfl (fun _ => rfl) (fun _ => rfl) (Nat.le_of_ble_eq_true rfl) rfl ?_
        refine r_aload_n C 0 dX3_read_45 rfl ?_
        refine r_get C 0 5 dX3_read_46 K_X3 rfl rfl (Nat.le_of_ble_eq_true rfl) rfl m_134 rfl ?_
        refine r_if_ne C 54 dX3_read_49 (by decide) (fun h49 => ?_) (fun h49 => ?_)
        · refine r_iconst C (-1) dX3_read_52 rfl ?_
          exact r_reti (x := (-1 : Int32)) (rv := (fun u => some (.int u.1))) (hpE := (fun u => w_X3X0 u.2.1 u.2.2)) (t0 := ((-1 : Int32), ((va_up u2.2.1.1 1 (u2.2.1.1 1 + (1 : Int32))), u2.2.1.2), u2.2.2)) C dX3_read_53 (by rfl) (by rfl) (by rfl)
        · refine r_aload_n C 0 dX3_read_54 rfl ?_
          refine r_get C 0 5 dX3_read_55 K_X3 rfl rfl (Nat.le_of_ble_eq_true rfl) rfl m_134 rfl ?_
          refine r_iconst C (3) dX3_read_58 rfl ?_
          refine r_icmp_eq C 67 dX3_read_59 (by decide) (fun h59 => ?_) (fun h59 => ?_)
          · refine r_aload_n C 0 dX3_read_67 rfl ?_
            refine r_callV C (o_X3_nextToken l ((va_up u2.2.1.1 1 (u2.2.1.1 1 + (1 : Int32))), u2.2.1.2)) v_X3_nextToken m_681 [0, 1] [] [] (50) (Or.inl ⟨0, 2, _, TX3, 8, rfl, rfl, rfl⟩) (fun u3 => []) (fun u3 => w_X3X0 u3 u2.2.2) rfl rfl rfl rfl rfl (Nat.le_of_ble_eq_true rfl) ⟨(Nat.le_of_ble_eq_true rfl), (Nat.le_of_ble_eq_true rfl)⟩ ⟨Nat.zero_le _, Nat.zero_le _⟩ dX3_read_68 (fun _ => rfl) (fun _ => rfl) (fun _ => rfl) (fun u3 => ?_)
            refine r_iinc C 2 (x2 + 1) [(2, .int (x2 + 1)), (0, .ref 50), (1, .ref 52)] dX3_read_71 rfl rfl (Nat.le_of_ble_eq_true rfl) rfl ?_
            refine r_goto C 16 dX3_read_74 (by decide) ?_
            refine r_lv [(0, .ref 50), (1, .ref 52), (2, .int (x2 + 1))] [1, 2, 0] rfl ?_
            exact ih (x2 + 1) u3 u2.2.2
          · refine r_aload_n C 0 dX3_read_62 rfl ?_
            refine r_get C 0 4 dX3_read_63 K_X3 rfl rfl (Nat.le_of_ble_eq_true rfl) rfl m_133 rfl ?_
            exact r_reti (x := u2.2.1.1 4) (rv := (fun u => some (.int u.1))) (hpE := (fun u => w_X3X0 u.2.1 u.2.2)) (t0 := (u2.2.1.1 4, ((va_up u2.2.1.1 1 (u2.2.1.1 1 + (1 : Int32))), u2.2.1.2), u2.2.2)) C dX3_read_66 (by rfl) (by rfl) (by rfl)
set_option maxRecDepth 100000 in
set_option maxHeartbeats 4000000 in
theorem o_X3_read (l : Launch) (T : q_St) (B : q_St) : q_Ok l yX3_read cX3_read 3 (some .int) 9 192 [.ref 50, .ref 52] (w_X3X0 T B) (f_X3_read T B) (fun u => some (.int u.1)) (fun u => w_X3X0 u.2.1 u.2.2) := by
  refine q_enter (by decide +kernel) (Nat.le_of_ble_eq_true rfl) (fun t p e s m args below meth c dC dI dA A α C => ?_)
  refine r_cut (f_X3_read.eq_1 _ _) ?_
  show q_S p l e (q_rm 9 192) s m args below meth c 3 dC dI dA A α (MQ below (q_Q α dC dI dA A ((fun u => some (.int u.1)) t) ((fun u => w_X3X0 u.2.1 u.2.2) t)) args s 0 0 A) 0 0 _ t 0 [(0, .ref 50), (1, .ref 52)] [] (w_X3X0 T B)
  refine r_aload_n C 0 dX3_read_0 rfl ?_
  refine r_iconst C (0) dX3_read_1 rfl ?_
  refine r_put C 0 1 _ dX3_read_2 K_X3 rfl rfl (Nat.le_of_ble_eq_true rfl) rfl m_129 rfl (fun _ => rfl) (fun _ => rfl) (Nat.le_of_ble_eq_true rfl) rfl ?_
  refine r_aload_n C 0 dX3_read_5 rfl ?_
  refine r_iconst C (0) dX3_read_6 rfl ?_
  refine r_put C 0 3 _ dX3_read_7 K_X3 rfl rfl (Nat.le_of_ble_eq_true rfl) rfl m_132 rfl (fun _ => rfl) (fun _ => rfl) (Nat.le_of_ble_eq_true rfl) rfl ?_
  refine r_aload_n C 0 dX3_read_10 rfl ?_
  refine r_callV C (o_X3_nextToken l ((va_up (va_up T.1 1 (0 : Int32)) 3 (0 : Int32)), T.2)) v_X3_nextToken m_681 [0, 1] [] [] (50) (Or.inl ⟨0, 2, _, TX3, 8, rfl, rfl, rfl⟩) (fun u1 => []) (fun u1 => w_X3X0 u1 B) rfl rfl rfl rfl rfl (Nat.le_of_ble_eq_true rfl) ⟨(Nat.le_of_ble_eq_true rfl), (Nat.le_of_ble_eq_true rfl)⟩ ⟨Nat.zero_le _, Nat.zero_le _⟩ dX3_read_11 (fun _ => rfl) (fun _ => rfl) (fun _ => rfl) (fun u1 => ?_)
  refine r_iconst C (0) dX3_read_14 rfl ?_
  refine r_istore_n C [(2, .int (0 : Int32)), (0, .ref 50), (1, .ref 52)] dX3_read_15 (Nat.le_of_ble_eq_true rfl) rfl ?_
  refine r_lv [(0, .ref 50), (1, .ref 52), (2, .int (0 : Int32))] [1, 2, 0] rfl ?_
  exact k_X3_read_16 C T B   q_N (0 : Int32) u1 B
