/-! the law, from its entry -/
theorem m_15L : Cond.classLink RL 7 RX5 ∈ q_T := q_mem 15 (by decide +kernel) (by decide +kernel)
theorem m_895L : Cond.classLink RL 10 RX6 ∈ q_T := q_mem 900 (by decide +kernel) (by decide +kernel)
theorem m_17L : Cond.methodLink RL 9 yX5_init ∈ q_T := q_mem 17 (by decide +kernel) (by decide +kernel)
theorem m_897L : Cond.methodLink RL 12 yX6_init ∈ q_T := q_mem 902 (by decide +kernel) (by decide +kernel)
theorem m_16L : Cond.instantiable RX5 8 ∈ q_T := q_mem 16 (by decide +kernel) (by decide +kernel)
theorem m_896L : Cond.instantiable RX6 25 ∈ q_T := q_mem 901 (by decide +kernel) (by decide +kernel)
theorem m_18L : Cond.instanceMethod yX5_init ∈ q_T := q_mem 18 (by decide +kernel) (by decide +kernel)
theorem m_19L : Cond.code yX5_init cX5_init 2 none ∈ q_T := q_mem 19 (by decide +kernel) (by decide +kernel)
theorem m_898L : Cond.instanceMethod yX6_init ∈ q_T := q_mem 903 (by decide +kernel) (by decide +kernel)
theorem m_899L : Cond.code yX6_init cX6_init 2 none ∈ q_T := q_mem 904 (by decide +kernel) (by decide +kernel)
theorem v_X5_init : q_cI yX5_init cX5_init 2 0 := ⟨m_19L, m_18L, m_1, by decide +kernel, by decide +kernel, by decide +kernel, rfl⟩
theorem v_X6_init : q_cI yX6_init cX6_init 2 0 := ⟨m_899L, m_898L, m_6, by decide +kernel, by decide +kernel, by decide +kernel, rfl⟩
theorem lx_q0 (k : Nat) : q_ix2 [0] 1 k = k := by
  unfold q_ix2
  by_cases h : k < 50
  · rw [if_pos h]
  · rw [if_neg h]
    by_cases h2 : k - 50 < ([0] : List Nat).length
    · rw [if_pos h2]
      have : k = 50 := by
        have h3 : k - 50 < 1 := h2
        omega
      subst this
      rfl
    · rw [if_neg h2]
      have h3 : ¬ k - 50 < 1 := h2
      show 50 + 1 + (k - 50 - 1) = k
      omega
theorem lx_p5 (X : Nat → q_St) (x : va_E) : q_put [x] [0] ((w_X5 X).map (q_e (q_ix2 [0] ([x] : List va_E).length) (fun t => t))) = w_X5 X := by
  have e : (w_X5 X).map (q_e (q_ix2 [0] ([x] : List va_E).length) (fun t => t)) = w_X5 X := by
    rw [show q_ix2 [0] ([x] : List va_E).length = fun k => k from funext lx_q0]
    exact (List.map_congr_left (fun x _ => q_e_id x)).trans (List.map_id' _)
  rw [e]
  rfl
theorem lx_q6 : ∀ k, k < 65 → q_ix2 [41] 42 k = lx_sh k := by decide +kernel
theorem lx_p6 (X : Nat → q_St) (M : q_St) (x : va_E) : q_put (w_X5 X ++ [x]) [41] ((w_X6 M).map (q_e (q_ix2 [41] (w_X5 X ++ [x]).length) (fun t => t))) = lx_w X M := by
  have e : (w_X6 M).map (q_e (q_ix2 [41] (w_X5 X ++ [x]).length) (fun t => t)) = lx_6 M :=
    List.map_congr_left (fun x hx => q_e_re lx_q6 (lx_ne6 M x hx))
  rw [e]
  rfl
theorem lx_nv {n k : Nat} (h : n ≤ k) {v : Value} (hv : q_nv n v = true) : q_nv k v = true := by
  cases v with
  | ref j =>
    show Nat.ble (j + 1) k = true
    exact Nat.ble_eq_true_of_le (Nat.le_trans (Nat.le_of_ble_eq_true hv) h)
  | _ => rfl
theorem lx_mono {n k : Nat} {x : va_E} (hx : q_ne n x) (h : n ≤ k := by decide) : q_ne k x := by
  rcases x with ⟨t, m, f | f | f | f | f⟩ | ⟨ci, fs⟩
  · exact True.intro
  · exact True.intro
  · exact True.intro
  · exact True.intro
  · exact fun i j hj => Nat.lt_of_lt_of_le (hx i j hj) h
  · show fs.all (q_nv k) = true
    exact List.all_eq_true.mpr (fun v hv => lx_nv h (List.all_eq_true.mp hx v hv))
section RUN
variable {p : Program} {l : Launch} {e : Env} {s : State} {m : MethodId} {below : List Frame} {meth : Method} {c : Code} {dC : Nat → ClassId} {dI : Nat → Nat → Nat} {dA : Nat → ClassId} {A : Nat → Prop} {α : Nat → Nat} {b L : Nat} {xs : Nat → Int32}
theorem lx_run (C : lx_Cx p s m #[Value.ref b] meth c dC dI dA A α b L xs 0 0) (hAO : q_AO s) : q_S p l e room_1 s m #[Value.ref b] below meth c 4 dC dI dA A α (lw_Z below #[Value.ref b] s) 0 0 (some ()) () 0 [(0, .ref 45)] [] [] := by
  obtain ⟨C, hX, hbl, hbA, hα, hL, _, hA⟩ := C
  refine r_new C [.null, .null, .null, .null, .null, .null, .null, .int (0 : Int32)] dL_law_0 K_X5 m_15L m_16L m_1 df_X5 rfl (Nat.le_of_ble_eq_true rfl) (Nat.le_of_ble_eq_true rfl) rfl rfl (by simp) (fun β0 hb0 C0 => ?_)
  refine r_dup C0 dL_law_3 rfl ?_
  refine r_cut (G := some ()) (F := Option.bind (some ()) (fun _ => some ())) rfl ?_
  refine r_callI C0 hAO (o_X5_init l) v_X5_init m_17L [0] [] [.ref 50] 50 (fun _ => w_X5 b_X5) rfl rfl rfl rfl rfl (Nat.le_of_ble_eq_true rfl) ⟨Nat.le_of_ble_eq_true rfl, Nat.le_of_ble_eq_true rfl⟩ ⟨Nat.le_of_ble_eq_true rfl, Nat.le_of_ble_eq_true rfl⟩ dL_law_4 (fun _ => Nat.le_of_ble_eq_true rfl) (fun _ => rfl) (fun _ => lx_p5 b_X5 _) rfl rfl (by simp [q_ne, q_nv, List.all]) (fun _ β1 hb1 C1 => ?_)
  refine r_astore_n C1 [(1, .ref 50), (0, .ref 45)] dL_law_7 (by decide) rfl ?_
  refine r_new C1 [.null, .null, .null, .int (0 : Int32), .null, .null, .null, .int (0 : Int32), .null, .null, .int (0 : Int32), .int (0 : Int32), .int (0 : Int32), .int (0 : Int32), .int (0 : Int32), .int (0 : Int32), .null, .null, .int (0 : Int32), .int (0 : Int32), .int (0 : Int32), .null, .null, .null, .null] dL_law_8 K_X6 m_895L m_896L m_6 df_X6 rfl (Nat.le_of_ble_eq_true rfl) (Nat.le_of_ble_eq_true rfl) rfl rfl (lx_ne5 b_X5) (fun β2 hb2 C2 => ?_)
  refine r_dup C2 dL_law_11 rfl ?_
  refine r_cut (G := some ()) (F := Option.bind (some ()) (fun _ => some ())) rfl ?_
  refine r_callI C2 hAO (o_X6_init l) v_X6_init m_897L [41] [] [.ref 91] 91 (fun _ => lx_w b_X5 b_X6) rfl rfl rfl rfl rfl (Nat.le_of_ble_eq_true rfl) ⟨Nat.le_of_ble_eq_true rfl, Nat.le_of_ble_eq_true rfl⟩ ⟨Nat.le_of_ble_eq_true rfl, Nat.le_of_ble_eq_true rfl⟩ dL_law_12 (fun _ => Nat.le_of_ble_eq_true rfl) (fun _ => rfl) (fun _ => lx_p6 b_X5 b_X6 _) rfl rfl ?_ (fun _ β3 hb3 C3 => ?_)
  · intro x hx
    rcases List.mem_append.mp hx with h | h
    · exact lx_mono (lx_ne5 b_X5 x h) (by rw [List.length_append]; show 91 ≤ 50 + (41 + 1); decide)
    · rw [List.mem_singleton.mp h]
      exact (Eq.refl true)
  · refine r_astore_n C3 [(2, .ref 91), (1, .ref 50), (0, .ref 45)] dL_law_15 (by decide) rfl ?_
    refine r_iconst C3 (nI 0) dL_law_16 rfl ?_
    refine r_istore_n C3 (lx_lv 0) dL_law_17 (by decide) rfl ?_
    have h45 : β3 45 = b := by
      rw [hb3 45 (by show 45 < 50 + _; omega), hb2 45 (by show 45 < 50 + _; omega), hb1 45 (by show 45 < 50 + _; omega), hb0 45 (by show 45 < 50 + _; omega)]
      exact hα
    exact lx_loop (L := L) (xs := xs) ⟨C3, hX, hbl, hbA, h45, hL, ⟨Nat.le_of_ble_eq_true rfl, Nat.le_of_ble_eq_true rfl⟩, hA⟩ 4000 0 b_X5 b_X6 (by omega) (by omega) p_Rel0
end RUN
/-- from the entry, for every script of at most 3072 ints, the law comes to its end with true -/
theorem whole_start {p : Program} {e : Env} {s : State} {m : MethodId} {below : List Frame} {meth : Method} {c : Code} (l : Launch) (hflags : l.flags = flags0) {b L : Nat} {xs : Nat → Int32} (hL : L ≤ 3072) (C0 : lw_At p s m meth c b L xs) : W p l e room_1 s m #[Value.ref b] below meth c s.heap [] 0 0 (lw_Z below #[Value.ref b] s) (entryFrame m ([Value.ref b] : List Value).toArray 4) := by
  obtain ⟨hx, hb, hr, hml, hown, hts, hX, hbl, hlocks, hgv⟩ := id C0
  obtain ⟨α, hα, hG⟩ := lx_G hts hgv
  obtain ⟨hAO, dC, dI, dA, hK⟩ := lx_K hts
  have C : q_Cx p s m #[Value.ref b] meth c cL_law 4 RL ret meth.name dC dI dA (fun q : Nat => s.heap.size ≤ q) α := ⟨hx, hb, hml, hown, fun w hw => hts w (List.mem_filter.mp hw).1, hr, hlocks, rfl, hK, hG, fun q h => h⟩
  have hl := lv_entry ([.ref b]) (n := 4) (Nat.le_of_ble_eq_true rfl)
  rw [lg_entry_eq]
  generalize (lg_sl ([.ref b]) ++ List.replicate (4 - (lg_sl ([.ref b])).length) Slot.unset).toArray = ls at hl ⊢
  have hl : lv_has ls 4 (q_lv α [(0, .ref 45)]) := by
    show lv_has ls 4 [(0, .ref (α 45))]
    rw [hα]
    exact hl
  exact lx_run (l := l) (e := e) (below := below) (L := L) (xs := xs) ⟨C, hX, hbl, Nat.not_le.mpr hbl, hα, hL, ⟨Nat.zero_le _, Nat.zero_le _⟩, fun q h => h⟩ hAO rfl s.heap [] ls (fun k q h => by simp [q_w] at h) ⟨(fun i j x y h => by simp [q_w] at h), (fun k q h => by simp [q_w] at h)⟩ va_S.rf hl
-- ===== YOUR PART ENDS =====
set_option maxHeartbeats 4000000 in
theorem lw_walk (l : Launch) (hflags : l.flags = flags0) (b : Addr) (xs : List Int32) : MetFree l x (headSpec (Jvm.Cond.code x code maxLocals ret :: tables_1) room_1) (lw_P b xs) (fun _ _ _ _ _ => True) lw_Q := by
  refine MetFree.of_bodyS (code := code) (maxLocals := maxLocals) (ret := ret) (by decide) ?_ ?_
  · intro args s m h hn
    obtain ⟨meth, c, h1, h2, h3, h4, h5, h6, -, -⟩ := Cond.code_spec hn (atoms_spec (ws := Jvm.Cond.code x code maxLocals ret :: tables_1) h _ List.mem_cons_self)
    exact ⟨meth, c, h1, h2, h3, h4, h5, h6⟩
  · intro p e s m args below meth c s₁ B hml0 hP _
    obtain ⟨rfl, hx, hbd, hgv⟩ := hP
    obtain ⟨scr, harrAt, hlist, hof, hsmall⟩ := hx
    obtain ⟨hcb, hkn, -, -⟩ := State.arrayAt?_spec harrAt
    have hown : s.vm.findClass R_law = some m.cls := findClass_of_methodNamed B.named
    have hts0 : ∀ c ∈ (Jvm.Cond.code x code maxLocals ret :: tables_1), c.before #[Value.ref b] s = true := atoms_spec (ws := Jvm.Cond.code x code maxLocals ret :: tables_1) B.pre
    have hts : ∀ w ∈ lw_tbl, w.before #[Value.ref b] s = true := k2_hts_sels lw_privs (fun w hw => hts0 w (List.mem_cons_of_mem _ hw)) lw_privs_ok
    have hml : c.maxLocals = 4 := B.maxLocals_eq (hts0 _ List.mem_cons_self)
    have X₀ : Stand p l e room_1 s m #[Value.ref b] below meth c s₁ [] 0 0 := Stand.of_body B
    have hh0 : s₁.heap = s.heap := by rw [B.state]; rfl
    have hsz : scr.slots.size = xs.length := by rw [← Array.length_toList, hlist, List.length_map]
    have hval : ∀ j : Nat, j < xs.length → scr.slots[j]? = some (.int (xs.getD j 0)) := fun j hj => by
      rw [← Array.getElem?_toList, hlist]
      simp [hj]
    have hbl : b < s.heap.size := (Array.getElem?_eq_some_iff.mp hcb).1
    have hX : va_X b xs.length (fun j => xs.getD j 0) s s.heap := ⟨scr, hcb, hof, hkn, hsz, hval⟩
    have K : W p l e room_1 s m #[Value.ref b] below meth c s₁.heap [] 0 0 (lw_Z below #[Value.ref b] s) (entryFrame m ([Value.ref b] : List Value).toArray 4) := by
      rw [hh0]
      exact whole_start l hflags hbd ⟨B.exec, B.bytes, B.returns, hml, hown, hts, hX, hbl, B.notSynchronized, hgv⟩
    obtain ⟨t, a1, o, b1, b2, b3⟩ := K s₁ rfl X₀
    exact ⟨t, o, a1, b1, b2, b3⟩
theorem lw_pre_spec {args : Array Value} {s : State} (h : (Jvm.Cond.and given_1 narrow_1).before args s = true) (hr : rest_1_c.before args s = true) : ∃ (b : Addr) (xs : List Int32), lw_P b xs args s := by
  have hs := flat_of_before _ h
  have hq := flat_of_before _ hr
  have hc : (Cond.count 1).before args s = true := hs _ (by decide +kernel)
  have harr : (Cond.arrayOf (.arg 0) .int).before args s = true := hs _ (by decide +kernel)
  have hle : (Cond.le (.length (.arg 0)) (.int 3072)).before args s = true := hs _ (by decide +kernel)
  have hlen : (Cond.isInt (.length (.arg 0))).before args s = true := hq _ (by decide +kernel)
  have hall : (Cond.all (.arg 0) (.isInt (.elem (.arg 0) (.index 0)))).before args s = true := hq _ (by decide +kernel)
  obtain ⟨b, xs, hb, hx⟩ := State.ints_of_pre rfl harr hlen hall
  have hsm : xs.length < 2 ^ 31 := hx.choose_spec.2.2.2
  have hev : (Term.length (.arg 0)).eval args s none [] s = some (.int xs.length.toInt32) := hx.length_eval hb
  have hv := Cond.le_ints hev (show (Term.int 3072).eval args s none [] s = some (.int 3072) from rfl)
  have hd : xs.length.toInt32 ≤ 3072 := by
    simpa [Cond.before, Cond.holds, hv] using hle
  have hN : xs.length ≤ 3072 := (Int32.ofNat_le_ofNat hsm (by decide)).mp (show Int32.ofNat xs.length ≤ Int32.ofNat 3072 from hd)
  exact ⟨b, xs, Cond.one_arg hc (show args[0]? = some (.ref b) from hb), hx, hN, h⟩
theorem lw_comes (l : Launch) (hflags : l.flags = flags0) : Comes l x (Jvm.Cond.code x code maxLocals ret :: tables_1) room_1 (fun tb e args s => Calls_1 tb e args s ∧ rest_1 tb e args s ∧ Pre_1 tb e args s)
    (fun _ _ args s o t => lw_Q args s o t) := by
  intro p e ha hc hk s m args below hf hfit hheap happ hpre
  obtain ⟨b, xs, hP⟩ := lw_pre_spec hpre.2.2 hpre.2.1
  obtain ⟨k, o, h1, h2, h3, hQ⟩ := lw_walk l hflags b xs p e ha hc hk s m args below hf ((Spec.applies_iff_loose hf).mp happ).1 hP trivial
  exact ⟨k, o, h1, h2, h3, hQ⟩
theorem lw_frame {s t : State} {o : Outcome} {args : Array Value} (h : Framed s o t [] 600000 7302250) :
    Framed s o t (fieldLocs frame_1_writes args s ++ arrayLocs frame_1_arrays args s ++ staticLocs frame_1_statics s) 600000 7302250 := h
theorem lw_limb (L : Cond) (hL : ∀ (args : Array Value) (s t : State), L.after args s (.returned (some (.int 1))) t = true) :
    ArmFor flags0 classFile x code maxLocals ret World_1 tables_1 room_1 Calls_1 rest_1 Pre_1
      (fun tb e a s o t => postC L tb e a s o t ∧ Framed s o t (fieldLocs frame_1_writes a s ++ arrayLocs frame_1_arrays a s ++ staticLocs frame_1_statics s) 600000 7302250) := by
  intro l hflags _ _ p e ha hc hk s m args below hf hfit hheap happ hpre
  obtain ⟨k, o, h1, h2, h3, rfl, hF⟩ := lw_comes l hflags p e ha hc hk s m args below hf hfit hheap happ hpre
  exact ⟨k, _, h1, h2, h3, hL args s _, lw_frame hF⟩
theorem i_vc : Claimed_1_1 ∧ Claimed_1_2 := ⟨lw_limb limb_1_1 (fun args s t => by simp [limb_1_1, Cond.after, Cond.holds, Cond.value]), lw_limb limb_1_2 (fun args s t => Cond.after_iff.mpr (by
  first | (rw [show limb_1_2 = Cond.eq .result (.int 1) from rfl, Cond.eq_ints (x := 1) (y := 1) rfl rfl]; simp; done) | (simp [limb_1_2, Cond.value, Term.eval]; done)))⟩
