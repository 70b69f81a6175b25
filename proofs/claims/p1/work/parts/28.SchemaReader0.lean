theorem d_SchemaReader_init_0 : decode prog_7_method_1_code 0 = .ok (.aload_n 0, 1) := by decide +kernel
theorem d_SchemaReader_init_1 : decode prog_7_method_1_code 1 = .ok (.invokespecial 3, 3) := by decide +kernel
theorem d_SchemaReader_init_4 : decode prog_7_method_1_code 4 = .ok (.aload_n 0, 1) := by decide +kernel
theorem d_SchemaReader_init_5 : decode prog_7_method_1_code 5 = .ok (.aload_n 1, 1) := by decide +kernel
theorem d_SchemaReader_init_6 : decode prog_7_method_1_code 6 = .ok (.putfield 9, 3) := by decide +kernel
theorem d_SchemaReader_init_9 : decode prog_7_method_1_code 9 = .ok (.aload_n 0, 1) := by decide +kernel
theorem d_SchemaReader_init_10 : decode prog_7_method_1_code 10 = .ok (.aload_n 2, 1) := by decide +kernel
theorem d_SchemaReader_init_11 : decode prog_7_method_1_code 11 = .ok (.putfield 15, 3) := by decide +kernel
theorem d_SchemaReader_init_14 : decode prog_7_method_1_code 14 = .ok (.new 19, 3) := by decide +kernel
theorem d_SchemaReader_init_17 : decode prog_7_method_1_code 17 = .ok (.dup, 1) := by decide +kernel
theorem d_SchemaReader_init_18 : decode prog_7_method_1_code 18 = .ok (.iconst 0, 1) := by decide +kernel
theorem d_SchemaReader_init_19 : decode prog_7_method_1_code 19 = .ok (.newarray .int, 2) := by decide +kernel
theorem d_SchemaReader_init_21 : decode prog_7_method_1_code 21 = .ok (.iconst 0, 1) := by decide +kernel
theorem d_SchemaReader_init_22 : decode prog_7_method_1_code 22 = .ok (.invokespecial 21, 3) := by decide +kernel
theorem d_SchemaReader_init_25 : decode prog_7_method_1_code 25 = .ok (.astore_n 3, 1) := by decide +kernel
theorem d_SchemaReader_init_26 : decode prog_7_method_1_code 26 = .ok (.aload_n 0, 1) := by decide +kernel
theorem d_SchemaReader_init_27 : decode prog_7_method_1_code 27 = .ok (.new 24, 3) := by decide +kernel
theorem d_SchemaReader_init_30 : decode prog_7_method_1_code 30 = .ok (.dup, 1) := by decide +kernel
theorem d_SchemaReader_init_31 : decode prog_7_method_1_code 31 = .ok (.aload_n 1, 1) := by decide +kernel
theorem d_SchemaReader_init_32 : decode prog_7_method_1_code 32 = .ok (.aload_n 2, 1) := by decide +kernel
theorem d_SchemaReader_init_33 : decode prog_7_method_1_code 33 = .ok (.aload_n 3, 1) := by decide +kernel
theorem d_SchemaReader_init_34 : decode prog_7_method_1_code 34 = .ok (.iconst 1, 1) := by decide +kernel
theorem d_SchemaReader_init_35 : decode prog_7_method_1_code 35 = .ok (.invokespecial 26, 3) := by decide +kernel
theorem d_SchemaReader_init_38 : decode prog_7_method_1_code 38 = .ok (.putfield 29, 3) := by decide +kernel
theorem d_SchemaReader_init_41 : decode prog_7_method_1_code 41 = .ok (.return_, 1) := by decide +kernel
def SchemaReader_init_b (call : ax_Cf) (x0 : Nat) (x1 : Option Nat) (x2 : Option Nat) (h : ax_Hp) : ax_O :=
  (ax_pf h (some x0) 4 0 (ax_A x1)).bind fun h1 =>
  (ax_pf h1 (some x0) 4 1 (ax_A x2)).bind fun h2 =>
  ax_nw (ax_new h2 2 [ax_A none, ax_I 0]) fun a3 h4 =>
  ax_nw (ax_na h4 1 0 (ax_I 0)) fun a5 h6 =>
  ax_cv (call 1 [ax_A (some a3), ax_A (some a5), ax_I 0] h6) fun h7 =>
  ax_nw (ax_new h7 7 [ax_A none, ax_A none, ax_A none, ax_I 0]) fun a9 h10 =>
  ax_cv (call 22 [ax_A (some a9), ax_A x1, ax_A x2, ax_A (some a3), ax_I 1] h10) fun h11 =>
  (ax_pf h11 (some x0) 4 2 (ax_A (some a9))).bind fun h13 =>
  ax_rv h13
set_option maxHeartbeats 4000000 in
set_option maxRecDepth 20000 in
theorem SchemaReader_init_t {l : Launch} {G : ax_G} {d : Nat} {call : ax_Cf} (hcall : ax_Hc l G d call) (x0 : Nat) (x1 : Option Nat) (x2 : Option Nat) (h : ax_Hp) {r : ax_Rs} {h' : ax_Hp} (ho : SchemaReader_init_b call x0 x1 x2 h = some (r, h')) : ax_C l G (d + 1) y_SchemaReader_init (.code y_SchemaReader_init prog_7_method_1_code 4 none) [ax_A (some x0), ax_A x1, ax_A x2] h r h' := by
  refine ax_enter (by decide) (Nat.le_of_ble_eq_true rfl) ho (fun p e s mi args below meth c B E Nm => ?_)
  have B : ax_B G p s mi meth c "SchemaDesk$SchemaReader" prog_7_method_1_code 4 none := B
  show ax_W G p l e s mi args below meth c 4 (d + 1) h 0 [(0, ax_A (some x0)), (1, ax_A x1), (2, ax_A x2)] [] h (SchemaReader_init_b call x0 x1 x2 h)
  unfold SchemaReader_init_b
  refine ax_aload_n B 0 d_SchemaReader_init_0 rfl rfl ?_
  refine ax_objinit B wd_254 wd_27 wd_objcode (Nat.le_of_ble_eq_true rfl) d_SchemaReader_init_1 ?_
  refine ax_aload_n B 0 d_SchemaReader_init_4 rfl rfl ?_
  refine ax_aload_n B 1 d_SchemaReader_init_5 rfl rfl ?_
  refine ax_putf (v := ax_A x1) B cl_SchemaReader (by decide) fk_SchemaReader_9 (Or.inr ⟨wd_276, rfl, Nm, rfl⟩) (fun _ => ax_narO) (fun _ => ax_fitO) d_SchemaReader_init_6 (fun h1 => ?_)
  refine ax_aload_n B 0 d_SchemaReader_init_9 rfl rfl ?_
  refine ax_aload_n B 2 d_SchemaReader_init_10 rfl rfl ?_
  refine ax_putf (v := ax_A x2) B cl_SchemaReader (by decide) fk_SchemaReader_15 (Or.inr ⟨wd_277, rfl, Nm, rfl⟩) (fun _ => ax_narO) (fun _ => ax_fitO) d_SchemaReader_init_11 (fun h2 => ?_)
  refine ax_newo B cl_Row wd_255 wd_30 wd_2 rfl df_Row d_SchemaReader_init_14 (fun a3 h4 => ?_)
  refine ax_dup B d_SchemaReader_init_17 rfl ?_
  refine ax_iconst (v := 0) B d_SchemaReader_init_18 (by decide) ?_
  refine ax_newa (kd := 1) (atype := .int) (dv := ax_I 0) B (by decide) (by decide) rfl wd_44 rfl (fun _ => rfl) (by decide) d_SchemaReader_init_19 (fun a5 h6 => ?_)
  refine ax_iconst (v := 0) B d_SchemaReader_init_21 (by decide) ?_
  refine ax_callIv (av := [ax_A (some a5), ax_I 0]) (rest := [ax_A (some a3)]) B E hm_Row_init rfl wd_32 lk_SchemaReader_21 d_SchemaReader_init_22 rfl (Nat.le_of_ble_eq_true rfl) (fun _ _ hh => hcall 1 _ _ _ _ hh) (fun h7 => ?_)
  refine ax_astore_n (tv2 := [(3, ax_A (some a3)), (0, ax_A (some x0)), (1, ax_A x1), (2, ax_A x2)]) B d_SchemaReader_init_25 rfl (by decide) rfl ?_
  refine ax_aload_n B 1 d_SchemaReader_init_26 rfl rfl ?_
  refine ax_newo B cl_ValueReader wd_257 wd_258 wd_12 rfl df_ValueReader d_SchemaReader_init_27 (fun a9 h10 => ?_)
  refine ax_dup B d_SchemaReader_init_30 rfl ?_
  refine ax_aload_n B 2 d_SchemaReader_init_31 rfl rfl ?_
  refine ax_aload_n B 3 d_SchemaReader_init_32 rfl rfl ?_
  refine ax_aload_n B 0 d_SchemaReader_init_33 rfl rfl ?_
  refine ax_iconst (v := 1) B d_SchemaReader_init_34 (by decide) ?_
  refine ax_callIv (av := [ax_A x1, ax_A x2, ax_A (some a3), ax_I 1]) (rest := [ax_A (some a9), ax_A (some x0)]) B E hm_ValueReader_init rfl wd_260 lk_SchemaReader_26 d_SchemaReader_init_35 rfl (Nat.le_of_ble_eq_true rfl) (fun _ _ hh => hcall 22 _ _ _ _ hh) (fun h11 => ?_)
  refine ax_putf (v := ax_A (some a9)) B cl_SchemaReader (by decide) fk_SchemaReader_29 (Or.inr ⟨wd_278, rfl, Nm, rfl⟩) (fun _ => ax_narO) (fun _ => ax_fitO) d_SchemaReader_init_38 (fun h13 => ?_)
  exact ax_vreturn B d_SchemaReader_init_41

theorem d_SchemaReader_readWhole_0 : decode prog_7_method_2_code 0 = .ok (.aload_n 0, 1) := by decide +kernel
theorem d_SchemaReader_readWhole_1 : decode prog_7_method_2_code 1 = .ok (.getfield 15, 3) := by decide +kernel
theorem d_SchemaReader_readWhole_4 : decode prog_7_method_2_code 4 = .ok (.invokevirtual 33, 3) := by decide +kernel
theorem d_SchemaReader_readWhole_7 : decode prog_7_method_2_code 7 = .ok (.aload_n 0, 1) := by decide +kernel
theorem d_SchemaReader_readWhole_8 : decode prog_7_method_2_code 8 = .ok (.iconst 0, 1) := by decide +kernel
theorem d_SchemaReader_readWhole_9 : decode prog_7_method_2_code 9 = .ok (.invokevirtual 38, 3) := by decide +kernel
theorem d_SchemaReader_readWhole_12 : decode prog_7_method_2_code 12 = .ok (.ifCond .eq 17, 3) := by decide +kernel
theorem d_SchemaReader_readWhole_15 : decode prog_7_method_2_code 15 = .ok (.aload_n 0, 1) := by decide +kernel
theorem d_SchemaReader_readWhole_16 : decode prog_7_method_2_code 16 = .ok (.getfield 9, 3) := by decide +kernel
theorem d_SchemaReader_readWhole_19 : decode prog_7_method_2_code 19 = .ok (.invokevirtual 42, 3) := by decide +kernel
theorem d_SchemaReader_readWhole_22 : decode prog_7_method_2_code 22 = .ok (.ifCond .eq 7, 3) := by decide +kernel
theorem d_SchemaReader_readWhole_25 : decode prog_7_method_2_code 25 = .ok (.iconst 1, 1) := by decide +kernel
theorem d_SchemaReader_readWhole_26 : decode prog_7_method_2_code 26 = .ok (.goto 4, 3) := by decide +kernel
theorem d_SchemaReader_readWhole_29 : decode prog_7_method_2_code 29 = .ok (.iconst 0, 1) := by decide +kernel
theorem d_SchemaReader_readWhole_30 : decode prog_7_method_2_code 30 = .ok (.ireturn, 1) := by decide +kernel
def SchemaReader_readWhole_b (call : ax_Cf) (x0 : Option Nat) (h : ax_Hp) : ax_O :=
  (ax_gr h x0 4 1).bind fun v1 =>
  ax_on h v1 3 <| ax_cv (call 24 [ax_A v1] h) fun h2 =>
  ax_on h2 x0 4 <| ax_ci (call 26 [ax_A x0, ax_I 0] h2) fun v5 h4 =>
  if v5 = 0 then
    ax_rz 0 h4
  else
    (ax_gr h4 x0 4 0).bind fun v6 =>
    ax_on h4 v6 0 <| ax_ci (call 52 [ax_A v6] h4) fun v8 h7 =>
    if v8 = 0 then
      ax_rz 0 h7
    else
      ax_rz 1 h7
set_option maxHeartbeats 4000000 in
set_option maxRecDepth 20000 in
theorem SchemaReader_readWhole_t {l : Launch} {G : ax_G} {d : Nat} {call : ax_Cf} (hcall : ax_Hc l G d call) (x0 : Option Nat) (h : ax_Hp) {r : ax_Rs} {h' : ax_Hp} (ho : SchemaReader_readWhole_b call x0 h = some (r, h')) : ax_C l G (d + 1) y_SchemaReader_readWhole (.code y_SchemaReader_readWhole prog_7_method_2_code 1 (some (.boolean))) [ax_A x0] h r h' := by
  refine ax_enter (by decide) (Nat.le_of_ble_eq_true rfl) ho (fun p e s mi args below meth c B E Nm => ?_)
  have B : ax_B G p s mi meth c "SchemaDesk$SchemaReader" prog_7_method_2_code 1 (some (.boolean)) := B
  show ax_W G p l e s mi args below meth c 1 (d + 1) h 0 [(0, ax_A x0)] [] h (SchemaReader_readWhole_b call x0 h)
  unfold SchemaReader_readWhole_b
  refine ax_aload_n B 0 d_SchemaReader_readWhole_0 rfl rfl ?_
  refine ax_getfr B cl_SchemaReader (by decide) fk_SchemaReader_15 d_SchemaReader_readWhole_1 (fun v1 => ?_)
  refine ax_callVv (av := []) (rest := []) B E hm_Schema_clearMarks cl_Schema rfl wd_291 wd_292 lk_SchemaReader_33 d_SchemaReader_readWhole_4 rfl (Nat.le_of_ble_eq_true rfl) (fun _ _ hh => hcall 24 _ _ _ _ hh) (fun h2 => ?_)
  refine ax_aload_n B 0 d_SchemaReader_readWhole_7 rfl rfl ?_
  refine ax_iconst (v := 0) B d_SchemaReader_readWhole_8 (by decide) ?_
  refine ax_callVi (av := [ax_I 0]) (rest := []) B E hm_SchemaReader_readType cl_SchemaReader rfl wd_299 wp_2 lk_SchemaReader_38 d_SchemaReader_readWhole_9 rfl (Nat.le_of_ble_eq_true rfl) (fun _ _ hh => hcall 26 _ _ _ _ hh) (fun v5 h4 => ?_)
  refine ax_if_eq B 29 d_SchemaReader_readWhole_12 (by decide) ?_ ?_
  · refine ax_iconst (v := 0) B d_SchemaReader_readWhole_29 (by decide) ?_
    exact ax_zreturn B d_SchemaReader_readWhole_30
  · refine ax_aload_n B 0 d_SchemaReader_readWhole_15 rfl rfl ?_
    refine ax_getfr B cl_SchemaReader (by decide) fk_SchemaReader_9 d_SchemaReader_readWhole_16 (fun v6 => ?_)
    refine ax_callVi (av := []) (rest := []) B E hm_Cursor_isAtEnd cl_Cursor rfl wd_405 wd_406 lk_SchemaReader_42 d_SchemaReader_readWhole_19 rfl (Nat.le_of_ble_eq_true rfl) (fun _ _ hh => hcall 52 _ _ _ _ hh) (fun v8 h7 => ?_)
    refine ax_if_eq B 29 d_SchemaReader_readWhole_22 (by decide) ?_ ?_
    · refine ax_iconst (v := 0) B d_SchemaReader_readWhole_29 (by decide) ?_
      exact ax_zreturn B d_SchemaReader_readWhole_30
    · refine ax_iconst (v := 1) B d_SchemaReader_readWhole_25 (by decide) ?_
      refine ax_goto B 30 d_SchemaReader_readWhole_26 (by decide) ?_
      exact ax_zreturn B d_SchemaReader_readWhole_30

theorem d_SchemaReader_readType_0 : decode prog_7_method_3_code 0 = .ok (.aload_n 0, 1) := by decide +kernel
theorem d_SchemaReader_readType_1 : decode prog_7_method_3_code 1 = .ok (.getfield 9, 3) := by decide +kernel
theorem d_SchemaReader_readType_4 : decode prog_7_method_3_code 4 = .ok (.invokevirtual 48, 3) := by decide +kernel
theorem d_SchemaReader_readType_7 : decode prog_7_method_3_code 7 = .ok (.istore_n 2, 1) := by decide +kernel
theorem d_SchemaReader_readType_8 : decode prog_7_method_3_code 8 = .ok (.aload_n 0, 1) := by decide +kernel
theorem d_SchemaReader_readType_9 : decode prog_7_method_3_code 9 = .ok (.iload_n 1, 1) := by decide +kernel
theorem d_SchemaReader_readType_10 : decode prog_7_method_3_code 10 = .ok (.invokevirtual 52, 3) := by decide +kernel
theorem d_SchemaReader_readType_13 : decode prog_7_method_3_code 13 = .ok (.ifCond .ne 5, 3) := by decide +kernel
theorem d_SchemaReader_readType_16 : decode prog_7_method_3_code 16 = .ok (.iconst 0, 1) := by decide +kernel
theorem d_SchemaReader_readType_17 : decode prog_7_method_3_code 17 = .ok (.ireturn, 1) := by decide +kernel
theorem d_SchemaReader_readType_18 : decode prog_7_method_3_code 18 = .ok (.aload_n 0, 1) := by decide +kernel
theorem d_SchemaReader_readType_19 : decode prog_7_method_3_code 19 = .ok (.getfield 15, 3) := by decide +kernel
theorem d_SchemaReader_readType_22 : decode prog_7_method_3_code 22 = .ok (.iload_n 2, 1) := by decide +kernel
theorem d_SchemaReader_readType_23 : decode prog_7_method_3_code 23 = .ok (.aload_n 0, 1) := by decide +kernel
theorem d_SchemaReader_readType_24 : decode prog_7_method_3_code 24 = .ok (.getfield 9, 3) := by decide +kernel
theorem d_SchemaReader_readType_27 : decode prog_7_method_3_code 27 = .ok (.invokevirtual 48, 3) := by decide +kernel
theorem d_SchemaReader_readType_30 : decode prog_7_method_3_code 30 = .ok (.invokevirtual 55, 3) := by decide +kernel
theorem d_SchemaReader_readType_33 : decode prog_7_method_3_code 33 = .ok (.iconst 1, 1) := by decide +kernel
theorem d_SchemaReader_readType_34 : decode prog_7_method_3_code 34 = .ok (.ireturn, 1) := by decide +kernel
def SchemaReader_readType_b (call : ax_Cf) (x0 : Option Nat) (x1 : Int32) (h : ax_Hp) : ax_O :=
  (ax_gr h x0 4 0).bind fun v1 =>
  ax_on h v1 0 <| ax_ci (call 27 [ax_A v1] h) fun v3 h2 =>
  ax_on h2 x0 4 <| ax_ci (call 28 [ax_A x0, ax_I x1] h2) fun v5 h4 =>
  if v5 = 0 then
    ax_rz 0 h4
  else
    (ax_gr h4 x0 4 1).bind fun v6 =>
    (ax_gr h4 x0 4 0).bind fun v7 =>
    ax_on h4 v7 0 <| ax_ci (call 27 [ax_A v7] h4) fun v9 h8 =>
    ax_on h8 v6 3 <| ax_cv (call 36 [ax_A v6, ax_I v3, ax_I v9] h8) fun h10 =>
    ax_rz 1 h10
set_option maxHeartbeats 4000000 in
set_option maxRecDepth 20000 in
theorem SchemaReader_readType_t {l : Launch} {G : ax_G} {d : Nat} {call : ax_Cf} (hcall : ax_Hc l G d call) (x0 : Option Nat) (x1 : Int32) (h : ax_Hp) {r : ax_Rs} {h' : ax_Hp} (ho : SchemaReader_readType_b call x0 x1 h = some (r, h')) : ax_C l G (d + 1) y_SchemaReader_readType (.code y_SchemaReader_readType prog_7_method_3_code 3 (some (.boolean))) [ax_A x0, ax_I x1] h r h' := by
  refine ax_enter (by decide) (Nat.le_of_ble_eq_true rfl) ho (fun p e s mi args below meth c B E Nm => ?_)
  have B : ax_B G p s mi meth c "SchemaDesk$SchemaReader" prog_7_method_3_code 3 (some (.boolean)) := B
  show ax_W G p l e s mi args below meth c 3 (d + 1) h 0 [(0, ax_A x0), (1, ax_I x1)] [] h (SchemaReader_readType_b call x0 x1 h)
  unfold SchemaReader_readType_b
  refine ax_aload_n B 0 d_SchemaReader_readType_0 rfl rfl ?_
  refine ax_getfr B cl_SchemaReader (by decide) fk_SchemaReader_9 d_SchemaReader_readType_1 (fun v1 => ?_)
  refine ax_callVi (av := []) (rest := []) B E hm_Cursor_at cl_Cursor rfl wd_302 wd_303 lk_SchemaReader_48 d_SchemaReader_readType_4 rfl (Nat.le_of_ble_eq_true rfl) (fun _ _ hh => hcall 27 _ _ _ _ hh) (fun v3 h2 => ?_)
  refine ax_istore_n (tv2 := [(2, ax_I v3), (0, ax_A x0), (1, ax_I x1)]) B d_SchemaReader_readType_7 rfl (by decide) rfl ?_
  refine ax_aload_n B 1 d_SchemaReader_readType_8 rfl rfl ?_
  refine ax_iload_n B 2 d_SchemaReader_readType_9 rfl rfl ?_
  refine ax_callVi (av := [ax_I x1]) (rest := []) B E hm_SchemaReader_readTypeOfKind cl_SchemaReader rfl wd_307 wp_3 lk_SchemaReader_52 d_SchemaReader_readType_10 rfl (Nat.le_of_ble_eq_true rfl) (fun _ _ hh => hcall 28 _ _ _ _ hh) (fun v5 h4 => ?_)
  refine ax_if_ne B 18 d_SchemaReader_readType_13 (by decide) ?_ ?_
  · refine ax_aload_n B 1 d_SchemaReader_readType_18 rfl rfl ?_
    refine ax_getfr B cl_SchemaReader (by decide) fk_SchemaReader_15 d_SchemaReader_readType_19 (fun v6 => ?_)
    refine ax_iload_n B 0 d_SchemaReader_readType_22 rfl rfl ?_
    refine ax_aload_n B 1 d_SchemaReader_readType_23 rfl rfl ?_
    refine ax_getfr B cl_SchemaReader (by decide) fk_SchemaReader_9 d_SchemaReader_readType_24 (fun v7 => ?_)
    refine ax_callVi (av := []) (rest := [ax_I v3, ax_A v6]) B E hm_Cursor_at cl_Cursor rfl wd_302 wd_303 lk_SchemaReader_48 d_SchemaReader_readType_27 rfl (Nat.le_of_ble_eq_true rfl) (fun _ _ hh => hcall 27 _ _ _ _ hh) (fun v9 h8 => ?_)
    refine ax_callVv (av := [ax_I v3, ax_I v9]) (rest := []) B E hm_Schema_markEnd cl_Schema rfl wd_336 wd_337 lk_SchemaReader_55 d_SchemaReader_readType_30 rfl (Nat.le_of_ble_eq_true rfl) (fun _ _ hh => hcall 36 _ _ _ _ hh) (fun h10 => ?_)
    refine ax_iconst (v := 1) B d_SchemaReader_readType_33 (by decide) ?_
    exact ax_zreturn B d_SchemaReader_readType_34
  · refine ax_iconst (v := 0) B d_SchemaReader_readType_16 (by decide) ?_
    exact ax_zreturn B d_SchemaReader_readType_17

theorem d_SchemaReader_readTypeOfKind_0 : decode prog_7_method_4_code 0 = .ok (.aload_n 0, 1) := by decide +kernel
theorem d_SchemaReader_readTypeOfKind_1 : decode prog_7_method_4_code 1 = .ok (.getfield 9, 3) := by decide +kernel
theorem d_SchemaReader_readTypeOfKind_4 : decode prog_7_method_4_code 4 = .ok (.invokevirtual 59, 3) := by decide +kernel
theorem d_SchemaReader_readTypeOfKind_7 : decode prog_7_method_4_code 7 = .ok (.istore_n 2, 1) := by decide +kernel
theorem d_SchemaReader_readTypeOfKind_8 : decode prog_7_method_4_code 8 = .ok (.iload_n 2, 1) := by decide +kernel
theorem d_SchemaReader_readTypeOfKind_9 : decode prog_7_method_4_code 9 = .ok (.tableswitch 186 65 85 #[113, 99, 186, 186, 108, 186, 186, 186, 99, 186, 186, 99, 186, 99, 186, 186, 186, 166, 99, 186, 146], 99) := by decide +kernel
theorem d_SchemaReader_readTypeOfKind_108 : decode prog_7_method_4_code 108 = .ok (.aload_n 0, 1) := by decide +kernel
theorem d_SchemaReader_readTypeOfKind_109 : decode prog_7_method_4_code 109 = .ok (.getfield 9, 3) := by decide +kernel
theorem d_SchemaReader_readTypeOfKind_112 : decode prog_7_method_4_code 112 = .ok (.iload_n 2, 1) := by decide +kernel
theorem d_SchemaReader_readTypeOfKind_113 : decode prog_7_method_4_code 113 = .ok (.invokevirtual 62, 3) := by decide +kernel
theorem d_SchemaReader_readTypeOfKind_116 : decode prog_7_method_4_code 116 = .ok (.ireturn, 1) := by decide +kernel
theorem d_SchemaReader_readTypeOfKind_117 : decode prog_7_method_4_code 117 = .ok (.aload_n 0, 1) := by decide +kernel
theorem d_SchemaReader_readTypeOfKind_118 : decode prog_7_method_4_code 118 = .ok (.invokevirtual 65, 3) := by decide +kernel
theorem d_SchemaReader_readTypeOfKind_121 : decode prog_7_method_4_code 121 = .ok (.ireturn, 1) := by decide +kernel
theorem d_SchemaReader_readTypeOfKind_122 : decode prog_7_method_4_code 122 = .ok (.iload_n 1, 1) := by decide +kernel
theorem d_SchemaReader_readTypeOfKind_123 : decode prog_7_method_4_code 123 = .ok (.bipush 6, 2) := by decide +kernel
theorem d_SchemaReader_readTypeOfKind_125 : decode prog_7_method_4_code 125 = .ok (.if_icmp .ge 28, 3) := by decide +kernel
theorem d_SchemaReader_readTypeOfKind_128 : decode prog_7_method_4_code 128 = .ok (.aload_n 0, 1) := by decide +kernel
theorem d_SchemaReader_readTypeOfKind_129 : decode prog_7_method_4_code 129 = .ok (.getfield 9, 3) := by decide +kernel
theorem d_SchemaReader_readTypeOfKind_132 : decode prog_7_method_4_code 132 = .ok (.iload_n 2, 1) := by decide +kernel
theorem d_SchemaReader_readTypeOfKind_133 : decode prog_7_method_4_code 133 = .ok (.invokevirtual 62, 3) := by decide +kernel
theorem d_SchemaReader_readTypeOfKind_136 : decode prog_7_method_4_code 136 = .ok (.ifCond .eq 17, 3) := by decide +kernel
theorem d_SchemaReader_readTypeOfKind_139 : decode prog_7_method_4_code 139 = .ok (.aload_n 0, 1) := by decide +kernel
theorem d_SchemaReader_readTypeOfKind_140 : decode prog_7_method_4_code 140 = .ok (.iload_n 1, 1) := by decide +kernel
theorem d_SchemaReader_readTypeOfKind_141 : decode prog_7_method_4_code 141 = .ok (.iconst 1, 1) := by decide +kernel
theorem d_SchemaReader_readTypeOfKind_142 : decode prog_7_method_4_code 142 = .ok (.iadd, 1) := by decide +kernel
theorem d_SchemaReader_readTypeOfKind_143 : decode prog_7_method_4_code 143 = .ok (.invokevirtual 38, 3) := by decide +kernel
theorem d_SchemaReader_readTypeOfKind_146 : decode prog_7_method_4_code 146 = .ok (.ifCond .eq 7, 3) := by decide +kernel
theorem d_SchemaReader_readTypeOfKind_149 : decode prog_7_method_4_code 149 = .ok (.iconst 1, 1) := by decide +kernel
theorem d_SchemaReader_readTypeOfKind_150 : decode prog_7_method_4_code 150 = .ok (.goto 4, 3) := by decide +kernel
theorem d_SchemaReader_readTypeOfKind_153 : decode prog_7_method_4_code 153 = .ok (.iconst 0, 1) := by decide +kernel
theorem d_SchemaReader_readTypeOfKind_154 : decode prog_7_method_4_code 154 = .ok (.ireturn, 1) := by decide +kernel
theorem d_SchemaReader_readTypeOfKind_155 : decode prog_7_method_4_code 155 = .ok (.iload_n 1, 1) := by decide +kernel
theorem d_SchemaReader_readTypeOfKind_156 : decode prog_7_method_4_code 156 = .ok (.bipush 6, 2) := by decide +kernel
theorem d_SchemaReader_readTypeOfKind_158 : decode prog_7_method_4_code 158 = .ok (.if_icmp .ge 15, 3) := by decide +kernel
theorem d_SchemaReader_readTypeOfKind_161 : decode prog_7_method_4_code 161 = .ok (.aload_n 0, 1) := by decide +kernel
theorem d_SchemaReader_readTypeOfKind_162 : decode prog_7_method_4_code 162 = .ok (.iload_n 1, 1) := by decide +kernel
theorem d_SchemaReader_readTypeOfKind_163 : decode prog_7_method_4_code 163 = .ok (.invokevirtual 68, 3) := by decide +kernel
theorem d_SchemaReader_readTypeOfKind_166 : decode prog_7_method_4_code 166 = .ok (.ifCond .eq 7, 3) := by decide +kernel
theorem d_SchemaReader_readTypeOfKind_169 : decode prog_7_method_4_code 169 = .ok (.iconst 1, 1) := by decide +kernel
theorem d_SchemaReader_readTypeOfKind_170 : decode prog_7_method_4_code 170 = .ok (.goto 4, 3) := by decide +kernel
theorem d_SchemaReader_readTypeOfKind_173 : decode prog_7_method_4_code 173 = .ok (.iconst 0, 1) := by decide +kernel
theorem d_SchemaReader_readTypeOfKind_174 : decode prog_7_method_4_code 174 = .ok (.ireturn, 1) := by decide +kernel
theorem d_SchemaReader_readTypeOfKind_175 : decode prog_7_method_4_code 175 = .ok (.iload_n 1, 1) := by decide +kernel
theorem d_SchemaReader_readTypeOfKind_176 : decode prog_7_method_4_code 176 = .ok (.bipush 6, 2) := by decide +kernel
theorem d_SchemaReader_readTypeOfKind_178 : decode prog_7_method_4_code 178 = .ok (.if_icmp .ge 15, 3) := by decide +kernel
theorem d_SchemaReader_readTypeOfKind_181 : decode prog_7_method_4_code 181 = .ok (.aload_n 0, 1) := by decide +kernel
theorem d_SchemaReader_readTypeOfKind_182 : decode prog_7_method_4_code 182 = .ok (.iload_n 1, 1) := by decide +kernel
theorem d_SchemaReader_readTypeOfKind_183 : decode prog_7_method_4_code 183 = .ok (.invokevirtual 71, 3) := by decide +kernel
theorem d_SchemaReader_readTypeOfKind_186 : decode prog_7_method_4_code 186 = .ok (.ifCond .eq 7, 3) := by decide +kernel
theorem d_SchemaReader_readTypeOfKind_189 : decode prog_7_method_4_code 189 = .ok (.iconst 1, 1) := by decide +kernel
theorem d_SchemaReader_readTypeOfKind_190 : decode prog_7_method_4_code 190 = .ok (.goto 4, 3) := by decide +kernel
theorem d_SchemaReader_readTypeOfKind_193 : decode prog_7_method_4_code 193 = .ok (.iconst 0, 1) := by decide +kernel
theorem d_SchemaReader_readTypeOfKind_194 : decode prog_7_method_4_code 194 = .ok (.ireturn, 1) := by decide +kernel
theorem d_SchemaReader_readTypeOfKind_195 : decode prog_7_method_4_code 195 = .ok (.iconst 0, 1) := by decide +kernel
theorem d_SchemaReader_readTypeOfKind_196 : decode prog_7_method_4_code 196 = .ok (.ireturn, 1) := by decide +kernel
def SchemaReader_readTypeOfKind_b (call : ax_Cf) (x0 : Option Nat) (x1 : Int32) (h : ax_Hp) : ax_O :=
  (ax_gr h x0 4 0).bind fun v1 =>
  ax_on h v1 0 <| ax_ci (call 29 [ax_A v1] h) fun v3 h2 =>
  if v3.toInt = 65 then
    if 6 ≤ x1 then
      ax_rz 0 h2
    else
      (ax_gr h2 x0 4 0).bind fun v4 =>
      ax_on h2 v4 0 <| ax_ci (call 30 [ax_A v4, ax_I v3] h2) fun v6 h5 =>
      if v6 = 0 then
        ax_rz 0 h5
      else
        ax_on h5 x0 4 <| ax_ci (call 26 [ax_A x0, ax_I (x1 + 1)] h5) fun v8 h7 =>
        if v8 = 0 then
          ax_rz 0 h7
        else
          ax_rz 1 h7
  else
  if v3.toInt = 66 then
    (ax_gr h2 x0 4 0).bind fun v9 =>
    ax_on h2 v9 0 <| ax_ci (call 30 [ax_A v9, ax_I v3] h2) fun v11 h10 =>
    ax_rz v11 h10
  else
  if v3.toInt = 67 then
    ax_rz 0 h2
  else
  if v3.toInt = 68 then
    ax_rz 0 h2
  else
  if v3.toInt = 69 then
    ax_on h2 x0 4 <| ax_ci (call 31 [ax_A x0] h2) fun v13 h12 =>
    ax_rz v13 h12
  else
  if v3.toInt = 70 then
    ax_rz 0 h2
  else
  if v3.toInt = 71 then
    ax_rz 0 h2
  else
  if v3.toInt = 72 then
    ax_rz 0 h2
  else
  if v3.toInt = 73 then
    (ax_gr h2 x0 4 0).bind fun v14 =>
    ax_on h2 v14 0 <| ax_ci (call 30 [ax_A v14, ax_I v3] h2) fun v16 h15 =>
    ax_rz v16 h15
  else
  if v3.toInt = 74 then
    ax_rz 0 h2
  else
  if v3.toInt = 75 then
    ax_rz 0 h2
  else
  if v3.toInt = 76 then
    (ax_gr h2 x0 4 0).bind fun v17 =>
    ax_on h2 v17 0 <| ax_ci (call 30 [ax_A v17, ax_I v3] h2) fun v19 h18 =>
    ax_rz v19 h18
  else
  if v3.toInt = 77 then
    ax_rz 0 h2
  else
  if v3.toInt = 78 then
    (ax_gr h2 x0 4 0).bind fun v20 =>
    ax_on h2 v20 0 <| ax_ci (call 30 [ax_A v20, ax_I v3] h2) fun v22 h21 =>
    ax_rz v22 h21
  else
  if v3.toInt = 79 then
    ax_rz 0 h2
  else
  if v3.toInt = 80 then
    ax_rz 0 h2
  else
  if v3.toInt = 81 then
    ax_rz 0 h2
  else
  if v3.toInt = 82 then
    if 6 ≤ x1 then
      ax_rz 0 h2
    else
      ax_on h2 x0 4 <| ax_ci (call 40 [ax_A x0, ax_I x1] h2) fun v24 h23 =>
      if v24 = 0 then
        ax_rz 0 h23
      else
        ax_rz 1 h23
  else
  if v3.toInt = 83 then
    (ax_gr h2 x0 4 0).bind fun v25 =>
    ax_on h2 v25 0 <| ax_ci (call 30 [ax_A v25, ax_I v3] h2) fun v27 h26 =>
    ax_rz v27 h26
  else
  if v3.toInt = 84 then
    ax_rz 0 h2
  else
  if v3.toInt = 85 then
    if 6 ≤ x1 then
      ax_rz 0 h2
    else
      ax_on h2 x0 4 <| ax_ci (call 37 [ax_A x0, ax_I x1] h2) fun v29 h28 =>
      if v29 = 0 then
        ax_rz 0 h28
      else
        ax_rz 1 h28
  else
  ax_rz 0 h2
set_option maxHeartbeats 4000000 in
set_option maxRecDepth 20000 in
theorem SchemaReader_readTypeOfKind_t {l : Launch} {G : ax_G} {d : Nat} {call : ax_Cf} (hcall : ax_Hc l G d call) (x0 : Option Nat) (x1 : Int32) (h : ax_Hp) {r : ax_Rs} {h' : ax_Hp} (ho : SchemaReader_readTypeOfKind_b call x0 x1 h = some (r, h')) : ax_C l G (d + 1) y_SchemaReader_readTypeOfKind (.code y_SchemaReader_readTypeOfKind prog_7_method_4_code 3 (some (.boolean))) [ax_A x0, ax_I x1] h r h' := by
  refine ax_enter (by decide) (Nat.le_of_ble_eq_true rfl) ho (fun p e s mi args below meth c B E Nm => ?_)
  have B : ax_B G p s mi meth c "SchemaDesk$SchemaReader" prog_7_method_4_code 3 (some (.boolean)) := B
  show ax_W G p l e s mi args below meth c 3 (d + 1) h 0 [(0, ax_A x0), (1, ax_I x1)] [] h (SchemaReader_readTypeOfKind_b call x0 x1 h)
  unfold SchemaReader_readTypeOfKind_b
  refine ax_aload_n B 0 d_SchemaReader_readTypeOfKind_0 rfl rfl ?_
  refine ax_getfr B cl_SchemaReader (by decide) fk_SchemaReader_9 d_SchemaReader_readTypeOfKind_1 (fun v1 => ?_)
  refine ax_callVi (av := []) (rest := []) B E hm_Cursor_peek cl_Cursor rfl wd_310 wd_311 lk_SchemaReader_59 d_SchemaReader_readTypeOfKind_4 rfl (Nat.le_of_ble_eq_true rfl) (fun _ _ hh => hcall 29 _ _ _ _ hh) (fun v3 h2 => ?_)
  refine ax_istore_n (tv2 := [(2, ax_I v3), (0, ax_A x0), (1, ax_I x1)]) B d_SchemaReader_readTypeOfKind_7 rfl (by decide) rfl ?_
  refine ax_iload_n B 0 d_SchemaReader_readTypeOfKind_8 rfl rfl ?_
  refine ax_table B d_SchemaReader_readTypeOfKind_9 (by decide) ?_
  refine ⟨_, _, rfl, ⟨122, by decide, ?_⟩, ?_⟩
  · refine ax_iload_n B 2 d_SchemaReader_readTypeOfKind_122 rfl rfl ?_
    refine ax_bipush (v := 6) B d_SchemaReader_readTypeOfKind_123 (by decide) ?_
    refine ax_icmp_ge B 153 d_SchemaReader_readTypeOfKind_125 (by decide) ?_ ?_
    · refine ax_iconst (v := 0) B d_SchemaReader_readTypeOfKind_153 (by decide) ?_
      exact ax_zreturn B d_SchemaReader_readTypeOfKind_154
    · refine ax_aload_n B 1 d_SchemaReader_readTypeOfKind_128 rfl rfl ?_
      refine ax_getfr B cl_SchemaReader (by decide) fk_SchemaReader_9 d_SchemaReader_readTypeOfKind_129 (fun v4 => ?_)
      refine ax_iload_n B 0 d_SchemaReader_readTypeOfKind_132 rfl rfl ?_
      refine ax_callVi (av := [ax_I v3]) (rest := []) B E hm_Cursor_take cl_Cursor rfl wd_314 wd_315 lk_SchemaReader_62 d_SchemaReader_readTypeOfKind_133 rfl (Nat.le_of_ble_eq_true rfl) (fun _ _ hh => hcall 30 _ _ _ _ hh) (fun v6 h5 => ?_)
      refine ax_if_eq B 153 d_SchemaReader_readTypeOfKind_136 (by decide) ?_ ?_
      · refine ax_iconst (v := 0) B d_SchemaReader_readTypeOfKind_153 (by decide) ?_
        exact ax_zreturn B d_SchemaReader_readTypeOfKind_154
      · refine ax_aload_n B 1 d_SchemaReader_readTypeOfKind_139 rfl rfl ?_
        refine ax_iload_n B 2 d_SchemaReader_readTypeOfKind_140 rfl rfl ?_
        refine ax_iconst (v := 1) B d_SchemaReader_readTypeOfKind_141 (by decide) ?_
        refine ax_iadd B d_SchemaReader_readTypeOfKind_142 ?_
        refine ax_callVi (av := [ax_I (x1 + 1)]) (rest := []) B E hm_SchemaReader_readType cl_SchemaReader rfl wd_299 wp_2 lk_SchemaReader_38 d_SchemaReader_readTypeOfKind_143 rfl (Nat.le_of_ble_eq_true rfl) (fun _ _ hh => hcall 26 _ _ _ _ hh) (fun v8 h7 => ?_)
        refine ax_if_eq B 153 d_SchemaReader_readTypeOfKind_146 (by decide) ?_ ?_
        · refine ax_iconst (v := 0) B d_SchemaReader_readTypeOfKind_153 (by decide) ?_
          exact ax_zreturn B d_SchemaReader_readTypeOfKind_154
        · refine ax_iconst (v := 1) B d_SchemaReader_readTypeOfKind_149 (by decide) ?_
          refine ax_goto B 154 d_SchemaReader_readTypeOfKind_150 (by decide) ?_
          exact ax_zreturn B d_SchemaReader_readTypeOfKind_154
  refine ⟨_, _, rfl, ⟨108, by decide, ?_⟩, ?_⟩
  · refine ax_aload_n B 1 d_SchemaReader_readTypeOfKind_108 rfl rfl ?_
    refine ax_getfr B cl_SchemaReader (by decide) fk_SchemaReader_9 d_SchemaReader_readTypeOfKind_109 (fun v9 => ?_)
    refine ax_iload_n B 0 d_SchemaReader_readTypeOfKind_112 rfl rfl ?_
    refine ax_callVi (av := [ax_I v3]) (rest := []) B E hm_Cursor_take cl_Cursor rfl wd_314 wd_315 lk_SchemaReader_62 d_SchemaReader_readTypeOfKind_113 rfl (Nat.le_of_ble_eq_true rfl) (fun _ _ hh => hcall 30 _ _ _ _ hh) (fun v11 h10 => ?_)
    exact ax_zreturn B d_SchemaReader_readTypeOfKind_116
  refine ⟨_, _, rfl, ⟨195, by decide, ?_⟩, ?_⟩
  · refine ax_iconst (v := 0) B d_SchemaReader_readTypeOfKind_195 (by decide) ?_
    exact ax_zreturn B d_SchemaReader_readTypeOfKind_196
  refine ⟨_, _, rfl, ⟨195, by decide, ?_⟩, ?_⟩
  · refine ax_iconst (v := 0) B d_SchemaReader_readTypeOfKind_195 (by decide) ?_
    exact ax_zreturn B d_SchemaReader_readTypeOfKind_196
  refine ⟨_, _, rfl, ⟨117, by decide, ?_⟩, ?_⟩
  · refine ax_aload_n B 1 d_SchemaReader_readTypeOfKind_117 rfl rfl ?_
    refine ax_callVi (av := []) (rest := []) B E hm_SchemaReader_readSymbols cl_SchemaReader rfl wd_319 wp_4 lk_SchemaReader_65 d_SchemaReader_readTypeOfKind_118 rfl (Nat.le_of_ble_eq_true rfl) (fun _ _ hh => hcall 31 _ _ _ _ hh) (fun v13 h12 => ?_)
    exact ax_zreturn B d_SchemaReader_readTypeOfKind_121
  refine ⟨_, _, rfl, ⟨195, by decide, ?_⟩, ?_⟩
  · refine ax_iconst (v := 0) B d_SchemaReader_readTypeOfKind_195 (by decide) ?_
    exact ax_zreturn B d_SchemaReader_readTypeOfKind_196
  refine ⟨_, _, rfl, ⟨195, by decide, ?_⟩, ?_⟩
  · refine ax_iconst (v := 0) B d_SchemaReader_readTypeOfKind_195 (by decide) ?_
    exact ax_zreturn B d_SchemaReader_readTypeOfKind_196
  refine ⟨_, _, rfl, ⟨195, by decide, ?_⟩, ?_⟩
  · refine ax_iconst (v := 0) B d_SchemaReader_readTypeOfKind_195 (by decide) ?_
    exact ax_zreturn B d_SchemaReader_readTypeOfKind_196
  refine ⟨_, _, rfl, ⟨108, by decide, ?_⟩, ?_⟩
  · refine ax_aload_n B 1 d_SchemaReader_readTypeOfKind_108 rfl rfl ?_
    refine ax_getfr B cl_SchemaReader (by decide) fk_SchemaReader_9 d_SchemaReader_readTypeOfKind_109 (fun v14 => ?_)
    refine ax_iload_n B 0 d_SchemaReader_readTypeOfKind_112 rfl rfl ?_
    refine ax_callVi (av := [ax_I v3]) (rest := []) B E hm_Cursor_take cl_Cursor rfl wd_314 wd_315 lk_SchemaReader_62 d_SchemaReader_readTypeOfKind_113 rfl (Nat.le_of_ble_eq_true rfl) (fun _ _ hh => hcall 30 _ _ _ _ hh) (fun v16 h15 => ?_)
    exact ax_zreturn B d_SchemaReader_readTypeOfKind_116
  refine ⟨_, _, rfl, ⟨195, by decide, ?_⟩, ?_⟩
  · refine ax_iconst (v := 0) B d_SchemaReader_readTypeOfKind_195 (by decide) ?_
    exact ax_zreturn B d_SchemaReader_readTypeOfKind_196
  refine ⟨_, _, rfl, ⟨195, by decide, ?_⟩, ?_⟩
  · refine ax_iconst (v := 0) B d_SchemaReader_readTypeOfKind_195 (by decide) ?_
    exact ax_zreturn B d_SchemaReader_readTypeOfKind_196
  refine ⟨_, _, rfl, ⟨108, by decide, ?_⟩, ?_⟩
  · refine ax_aload_n B 1 d_SchemaReader_readTypeOfKind_108 rfl rfl ?_
    refine ax_getfr B cl_SchemaReader (by decide) fk_SchemaReader_9 d_SchemaReader_readTypeOfKind_109 (fun v17 => ?_)
    refine ax_iload_n B 0 d_SchemaReader_readTypeOfKind_112 rfl rfl ?_
    refine ax_callVi (av := [ax_I v3]) (rest := []) B E hm_Cursor_take cl_Cursor rfl wd_314 wd_315 lk_SchemaReader_62 d_SchemaReader_readTypeOfKind_113 rfl (Nat.le_of_ble_eq_true rfl) (fun _ _ hh => hcall 30 _ _ _ _ hh) (fun v19 h18 => ?_)
    exact ax_zreturn B d_SchemaReader_readTypeOfKind_116
  refine ⟨_, _, rfl, ⟨195, by decide, ?_⟩, ?_⟩
  · refine ax_iconst (v := 0) B d_SchemaReader_readTypeOfKind_195 (by decide) ?_
    exact ax_zreturn B d_SchemaReader_readTypeOfKind_196
  refine ⟨_, _, rfl, ⟨108, by decide, ?_⟩, ?_⟩
  · refine ax_aload_n B 1 d_SchemaReader_readTypeOfKind_108 rfl rfl ?_
    refine ax_getfr B cl_SchemaReader (by decide) fk_SchemaReader_9 d_SchemaReader_readTypeOfKind_109 (fun v20 => ?_)
    refine ax_iload_n B 0 d_SchemaReader_readTypeOfKind_112 rfl rfl ?_
    refine ax_callVi (av := [ax_I v3]) (rest := []) B E hm_Cursor_take cl_Cursor rfl wd_314 wd_315 lk_SchemaReader_62 d_SchemaReader_readTypeOfKind_113 rfl (Nat.le_of_ble_eq_true rfl) (fun _ _ hh => hcall 30 _ _ _ _ hh) (fun v22 h21 => ?_)
    exact ax_zreturn B d_SchemaReader_readTypeOfKind_116
  refine ⟨_, _, rfl, ⟨195, by decide, ?_⟩, ?_⟩
  · refine ax_iconst (v := 0) B d_SchemaReader_readTypeOfKind_195 (by decide) ?_
    exact ax_zreturn B d_SchemaReader_readTypeOfKind_196
  refine ⟨_, _, rfl, ⟨195, by decide, ?_⟩, ?_⟩
  · refine ax_iconst (v := 0) B d_SchemaReader_readTypeOfKind_195 (by decide) ?_
    exact ax_zreturn B d_SchemaReader_readTypeOfKind_196
  refine ⟨_, _, rfl, ⟨195, by decide, ?_⟩, ?_⟩
  · refine ax_iconst (v := 0) B d_SchemaReader_readTypeOfKind_195 (by decide) ?_
    exact ax_zreturn B d_SchemaReader_readTypeOfKind_196
  refine ⟨_, _, rfl, ⟨175, by decide, ?_⟩, ?_⟩
  · refine ax_iload_n B 2 d_SchemaReader_readTypeOfKind_175 rfl rfl ?_
    refine ax_bipush (v := 6) B d_SchemaReader_readTypeOfKind_176 (by decide) ?_
    refine ax_icmp_ge B 193 d_SchemaReader_readTypeOfKind_178 (by decide) ?_ ?_
    · refine ax_iconst (v := 0) B d_SchemaReader_readTypeOfKind_193 (by decide) ?_
      exact ax_zreturn B d_SchemaReader_readTypeOfKind_194
    · refine ax_aload_n B 1 d_SchemaReader_readTypeOfKind_181 rfl rfl ?_
      refine ax_iload_n B 2 d_SchemaReader_readTypeOfKind_182 rfl rfl ?_
      refine ax_callVi (av := [ax_I x1]) (rest := []) B E hm_SchemaReader_readFields cl_SchemaReader rfl wd_352 wp_7 lk_SchemaReader_71 d_SchemaReader_readTypeOfKind_183 rfl (Nat.le_of_ble_eq_true rfl) (fun _ _ hh => hcall 40 _ _ _ _ hh) (fun v24 h23 => ?_)
      refine ax_if_eq B 193 d_SchemaReader_readTypeOfKind_186 (by decide) ?_ ?_
      · refine ax_iconst (v := 0) B d_SchemaReader_readTypeOfKind_193 (by decide) ?_
        exact ax_zreturn B d_SchemaReader_readTypeOfKind_194
      · refine ax_iconst (v := 1) B d_SchemaReader_readTypeOfKind_189 (by decide) ?_
        refine ax_goto B 194 d_SchemaReader_readTypeOfKind_190 (by decide) ?_
        exact ax_zreturn B d_SchemaReader_readTypeOfKind_194
  refine ⟨_, _, rfl, ⟨108, by decide, ?_⟩, ?_⟩
  · refine ax_aload_n B 1 d_SchemaReader_readTypeOfKind_108 rfl rfl ?_
    refine ax_getfr B cl_SchemaReader (by decide) fk_SchemaReader_9 d_SchemaReader_readTypeOfKind_109 (fun v25 => ?_)
    refine ax_iload_n B 0 d_SchemaReader_readTypeOfKind_112 rfl rfl ?_
    refine ax_callVi (av := [ax_I v3]) (rest := []) B E hm_Cursor_take cl_Cursor rfl wd_314 wd_315 lk_SchemaReader_62 d_SchemaReader_readTypeOfKind_113 rfl (Nat.le_of_ble_eq_true rfl) (fun _ _ hh => hcall 30 _ _ _ _ hh) (fun v27 h26 => ?_)
    exact ax_zreturn B d_SchemaReader_readTypeOfKind_116
  refine ⟨_, _, rfl, ⟨195, by decide, ?_⟩, ?_⟩
  · refine ax_iconst (v := 0) B d_SchemaReader_readTypeOfKind_195 (by decide) ?_
    exact ax_zreturn B d_SchemaReader_readTypeOfKind_196
  refine ⟨_, _, rfl, ⟨155, by decide, ?_⟩, ?_⟩
  · refine ax_iload_n B 2 d_SchemaReader_readTypeOfKind_155 rfl rfl ?_
    refine ax_bipush (v := 6) B d_SchemaReader_readTypeOfKind_156 (by decide) ?_
    refine ax_icmp_ge B 173 d_SchemaReader_readTypeOfKind_158 (by decide) ?_ ?_
    · refine ax_iconst (v := 0) B d_SchemaReader_readTypeOfKind_173 (by decide) ?_
      exact ax_zreturn B d_SchemaReader_readTypeOfKind_174
    · refine ax_aload_n B 1 d_SchemaReader_readTypeOfKind_161 rfl rfl ?_
      refine ax_iload_n B 2 d_SchemaReader_readTypeOfKind_162 rfl rfl ?_
      refine ax_callVi (av := [ax_I x1]) (rest := []) B E hm_SchemaReader_readBranches cl_SchemaReader rfl wd_341 wp_6 lk_SchemaReader_68 d_SchemaReader_readTypeOfKind_163 rfl (Nat.le_of_ble_eq_true rfl) (fun _ _ hh => hcall 37 _ _ _ _ hh) (fun v29 h28 => ?_)
      refine ax_if_eq B 173 d_SchemaReader_readTypeOfKind_166 (by decide) ?_ ?_
      · refine ax_iconst (v := 0) B d_SchemaReader_readTypeOfKind_173 (by decide) ?_
        exact ax_zreturn B d_SchemaReader_readTypeOfKind_174
      · refine ax_iconst (v := 1) B d_SchemaReader_readTypeOfKind_169 (by decide) ?_
        refine ax_goto B 174 d_SchemaReader_readTypeOfKind_170 (by decide) ?_
        exact ax_zreturn B d_SchemaReader_readTypeOfKind_174
  refine ⟨195, by decide, ?_⟩
  refine ax_iconst (v := 0) B d_SchemaReader_readTypeOfKind_195 (by decide) ?_
  exact ax_zreturn B d_SchemaReader_readTypeOfKind_196

theorem d_SchemaReader_readSymbols_0 : decode prog_7_method_5_code 0 = .ok (.aload_n 0, 1) := by decide +kernel
theorem d_SchemaReader_readSymbols_1 : decode prog_7_method_5_code 1 = .ok (.getfield 9, 3) := by decide +kernel
theorem d_SchemaReader_readSymbols_4 : decode prog_7_method_5_code 4 = .ok (.bipush 69, 2) := by decide +kernel
theorem d_SchemaReader_readSymbols_6 : decode prog_7_method_5_code 6 = .ok (.invokevirtual 62, 3) := by decide +kernel
theorem d_SchemaReader_readSymbols_9 : decode prog_7_method_5_code 9 = .ok (.ifCond .eq 15, 3) := by decide +kernel
theorem d_SchemaReader_readSymbols_12 : decode prog_7_method_5_code 12 = .ok (.aload_n 0, 1) := by decide +kernel
theorem d_SchemaReader_readSymbols_13 : decode prog_7_method_5_code 13 = .ok (.getfield 9, 3) := by decide +kernel
theorem d_SchemaReader_readSymbols_16 : decode prog_7_method_5_code 16 = .ok (.bipush 40, 2) := by decide +kernel
theorem d_SchemaReader_readSymbols_18 : decode prog_7_method_5_code 18 = .ok (.invokevirtual 62, 3) := by decide +kernel
theorem d_SchemaReader_readSymbols_21 : decode prog_7_method_5_code 21 = .ok (.ifCond .ne 5, 3) := by decide +kernel
theorem d_SchemaReader_readSymbols_24 : decode prog_7_method_5_code 24 = .ok (.iconst 0, 1) := by decide +kernel
theorem d_SchemaReader_readSymbols_25 : decode prog_7_method_5_code 25 = .ok (.ireturn, 1) := by decide +kernel
theorem d_SchemaReader_readSymbols_26 : decode prog_7_method_5_code 26 = .ok (.iconst 0, 1) := by decide +kernel
theorem d_SchemaReader_readSymbols_27 : decode prog_7_method_5_code 27 = .ok (.istore_n 1, 1) := by decide +kernel
theorem d_SchemaReader_readSymbols_28 : decode prog_7_method_5_code 28 = .ok (.iconst 0, 1) := by decide +kernel
theorem d_SchemaReader_readSymbols_29 : decode prog_7_method_5_code 29 = .ok (.istore_n 2, 1) := by decide +kernel
theorem d_SchemaReader_readSymbols_30 : decode prog_7_method_5_code 30 = .ok (.iload_n 2, 1) := by decide +kernel
theorem d_SchemaReader_readSymbols_31 : decode prog_7_method_5_code 31 = .ok (.bipush 8, 2) := by decide +kernel
theorem d_SchemaReader_readSymbols_33 : decode prog_7_method_5_code 33 = .ok (.if_icmp .ge 44, 3) := by decide +kernel
theorem d_SchemaReader_readSymbols_36 : decode prog_7_method_5_code 36 = .ok (.aload_n 0, 1) := by decide +kernel
theorem d_SchemaReader_readSymbols_37 : decode prog_7_method_5_code 37 = .ok (.getfield 9, 3) := by decide +kernel
theorem d_SchemaReader_readSymbols_40 : decode prog_7_method_5_code 40 = .ok (.invokevirtual 59, 3) := by decide +kernel
theorem d_SchemaReader_readSymbols_43 : decode prog_7_method_5_code 43 = .ok (.invokestatic 74, 3) := by decide +kernel
theorem d_SchemaReader_readSymbols_46 : decode prog_7_method_5_code 46 = .ok (.istore_n 3, 1) := by decide +kernel
theorem d_SchemaReader_readSymbols_47 : decode prog_7_method_5_code 47 = .ok (.iload_n 3, 1) := by decide +kernel
theorem d_SchemaReader_readSymbols_48 : decode prog_7_method_5_code 48 = .ok (.ifCond .eq 29, 3) := by decide +kernel
theorem d_SchemaReader_readSymbols_51 : decode prog_7_method_5_code 51 = .ok (.iload_n 1, 1) := by decide +kernel
theorem d_SchemaReader_readSymbols_52 : decode prog_7_method_5_code 52 = .ok (.iload_n 3, 1) := by decide +kernel
theorem d_SchemaReader_readSymbols_53 : decode prog_7_method_5_code 53 = .ok (.iand, 1) := by decide +kernel
theorem d_SchemaReader_readSymbols_54 : decode prog_7_method_5_code 54 = .ok (.ifCond .eq 6, 3) := by decide +kernel
theorem d_SchemaReader_readSymbols_57 : decode prog_7_method_5_code 57 = .ok (.goto 20, 3) := by decide +kernel
theorem d_SchemaReader_readSymbols_60 : decode prog_7_method_5_code 60 = .ok (.iload_n 1, 1) := by decide +kernel
theorem d_SchemaReader_readSymbols_61 : decode prog_7_method_5_code 61 = .ok (.iload_n 3, 1) := by decide +kernel
theorem d_SchemaReader_readSymbols_62 : decode prog_7_method_5_code 62 = .ok (.ior, 1) := by decide +kernel
theorem d_SchemaReader_readSymbols_63 : decode prog_7_method_5_code 63 = .ok (.istore_n 1, 1) := by decide +kernel
theorem d_SchemaReader_readSymbols_64 : decode prog_7_method_5_code 64 = .ok (.aload_n 0, 1) := by decide +kernel
theorem d_SchemaReader_readSymbols_65 : decode prog_7_method_5_code 65 = .ok (.getfield 9, 3) := by decide +kernel
theorem d_SchemaReader_readSymbols_68 : decode prog_7_method_5_code 68 = .ok (.invokevirtual 78, 3) := by decide +kernel
theorem d_SchemaReader_readSymbols_71 : decode prog_7_method_5_code 71 = .ok (.iinc 2 1, 3) := by decide +kernel
theorem d_SchemaReader_readSymbols_74 : decode prog_7_method_5_code 74 = .ok (.goto (-44), 3) := by decide +kernel
theorem d_SchemaReader_readSymbols_77 : decode prog_7_method_5_code 77 = .ok (.iload_n 1, 1) := by decide +kernel
theorem d_SchemaReader_readSymbols_78 : decode prog_7_method_5_code 78 = .ok (.ifCond .ne 5, 3) := by decide +kernel
theorem d_SchemaReader_readSymbols_81 : decode prog_7_method_5_code 81 = .ok (.iconst 0, 1) := by decide +kernel
theorem d_SchemaReader_readSymbols_82 : decode prog_7_method_5_code 82 = .ok (.ireturn, 1) := by decide +kernel
theorem d_SchemaReader_readSymbols_83 : decode prog_7_method_5_code 83 = .ok (.aload_n 0, 1) := by decide +kernel
theorem d_SchemaReader_readSymbols_84 : decode prog_7_method_5_code 84 = .ok (.getfield 9, 3) := by decide +kernel
theorem d_SchemaReader_readSymbols_87 : decode prog_7_method_5_code 87 = .ok (.bipush 61, 2) := by decide +kernel
theorem d_SchemaReader_readSymbols_89 : decode prog_7_method_5_code 89 = .ok (.invokevirtual 62, 3) := by decide +kernel
theorem d_SchemaReader_readSymbols_92 : decode prog_7_method_5_code 92 = .ok (.ifCond .eq 13, 3) := by decide +kernel
theorem d_SchemaReader_readSymbols_95 : decode prog_7_method_5_code 95 = .ok (.aload_n 0, 1) := by decide +kernel
theorem d_SchemaReader_readSymbols_96 : decode prog_7_method_5_code 96 = .ok (.iload_n 1, 1) := by decide +kernel
theorem d_SchemaReader_readSymbols_97 : decode prog_7_method_5_code 97 = .ok (.invokevirtual 81, 3) := by decide +kernel
theorem d_SchemaReader_readSymbols_100 : decode prog_7_method_5_code 100 = .ok (.ifCond .ne 5, 3) := by decide +kernel
theorem d_SchemaReader_readSymbols_103 : decode prog_7_method_5_code 103 = .ok (.iconst 0, 1) := by decide +kernel
theorem d_SchemaReader_readSymbols_104 : decode prog_7_method_5_code 104 = .ok (.ireturn, 1) := by decide +kernel
theorem d_SchemaReader_readSymbols_105 : decode prog_7_method_5_code 105 = .ok (.aload_n 0, 1) := by decide +kernel
theorem d_SchemaReader_readSymbols_106 : decode prog_7_method_5_code 106 = .ok (.getfield 9, 3) := by decide +kernel
theorem d_SchemaReader_readSymbols_109 : decode prog_7_method_5_code 109 = .ok (.bipush 41, 2) := by decide +kernel
theorem d_SchemaReader_readSymbols_111 : decode prog_7_method_5_code 111 = .ok (.invokevirtual 62, 3) := by decide +kernel
theorem d_SchemaReader_readSymbols_114 : decode prog_7_method_5_code 114 = .ok (.ireturn, 1) := by decide +kernel
def SchemaReader_readSymbols_bd30 (call : ax_Cf)  (k30 : Option Nat → Int32 → Int32 → ax_Hp → ax_O) (x0 : Option Nat) (x1 : Int32) (x2 : Int32) (h : ax_Hp) : ax_O :=
  if 8 ≤ x2 then
    if x1 = 0 then
      ax_rz 0 h
    else
      (ax_gr h x0 4 0).bind fun v7 =>
      ax_on h v7 0 <| ax_ci (call 30 [ax_A v7, ax_I 61] h) fun v9 h8 =>
      if v9 = 0 then
        (ax_gr h8 x0 4 0).bind fun v10 =>
        ax_on h8 v10 0 <| ax_ci (call 30 [ax_A v10, ax_I 41] h8) fun v12 h11 =>
        ax_rz v12 h11
      else
        ax_on h8 x0 4 <| ax_ci (call 35 [ax_A x0, ax_I x1] h8) fun v14 h13 =>
        if v14 = 0 then
          ax_rz 0 h13
        else
          (ax_gr h13 x0 4 0).bind fun v15 =>
          ax_on h13 v15 0 <| ax_ci (call 30 [ax_A v15, ax_I 41] h13) fun v17 h16 =>
          ax_rz v17 h16
  else
    (ax_gr h x0 4 0).bind fun v18 =>
    ax_on h v18 0 <| ax_ci (call 29 [ax_A v18] h) fun v20 h19 =>
    ax_ci (call 32 [ax_I v20] h19) fun v22 h21 =>
    if v22 = 0 then
      if x1 = 0 then
        ax_rz 0 h21
      else
        (ax_gr h21 x0 4 0).bind fun v23 =>
        ax_on h21 v23 0 <| ax_ci (call 30 [ax_A v23, ax_I 61] h21) fun v25 h24 =>
        if v25 = 0 then
          (ax_gr h24 x0 4 0).bind fun v26 =>
          ax_on h24 v26 0 <| ax_ci (call 30 [ax_A v26, ax_I 41] h24) fun v28 h27 =>
          ax_rz v28 h27
        else
          ax_on h24 x0 4 <| ax_ci (call 35 [ax_A x0, ax_I x1] h24) fun v30 h29 =>
          if v30 = 0 then
            ax_rz 0 h29
          else
            (ax_gr h29 x0 4 0).bind fun v31 =>
            ax_on h29 v31 0 <| ax_ci (call 30 [ax_A v31, ax_I 41] h29) fun v33 h32 =>
            ax_rz v33 h32
    else
      if (x1 &&& v22) = 0 then
        (ax_gr h21 x0 4 0).bind fun v34 =>
        ax_on h21 v34 0 <| ax_cv (call 34 [ax_A v34] h21) fun h35 =>
        k30 x0 (x1 ||| v22) (x2 + 1) h35
      else
        if x1 = 0 then
          ax_rz 0 h21
        else
          (ax_gr h21 x0 4 0).bind fun v37 =>
          ax_on h21 v37 0 <| ax_ci (call 30 [ax_A v37, ax_I 61] h21) fun v39 h38 =>
          if v39 = 0 then
            (ax_gr h38 x0 4 0).bind fun v40 =>
            ax_on h38 v40 0 <| ax_ci (call 30 [ax_A v40, ax_I 41] h38) fun v42 h41 =>
            ax_rz v42 h41
          else
            ax_on h38 x0 4 <| ax_ci (call 35 [ax_A x0, ax_I x1] h38) fun v44 h43 =>
            if v44 = 0 then
              ax_rz 0 h43
            else
              (ax_gr h43 x0 4 0).bind fun v45 =>
              ax_on h43 v45 0 <| ax_ci (call 30 [ax_A v45, ax_I 41] h43) fun v47 h46 =>
              ax_rz v47 h46
def SchemaReader_readSymbols_lp30 (call : ax_Cf)  : Nat → Option Nat → Int32 → Int32 → ax_Hp → ax_O
  | 0 => fun _ _ _ _ => none
  | n + 1 => SchemaReader_readSymbols_bd30 call  (SchemaReader_readSymbols_lp30 call  n)
set_option maxHeartbeats 4000000 in
set_option maxRecDepth 20000 in
theorem SchemaReader_readSymbols_lb30 {l : Launch} {G : ax_G} {d : Nat} {call : ax_Cf} (hcall : ax_Hc l G d call) {p : Program} {e : Env} {s : State} {mi : MethodId} {args : Array Value} {below : List Frame} {meth : Method} {c : Code} {h0 : ax_Hp} (B : ax_B G p s mi meth c "SchemaDesk$SchemaReader" prog_7_method_5_code 4 (some (.boolean))) (E : c.exceptionTable.isEmpty = true) (Nm : meth.name = y_SchemaReader_readSymbols.name)   {k30 : Option Nat → Int32 → Int32 → ax_Hp → ax_O} (hk30 : ∀ (x0 : Option Nat) (x1 : Int32) (x2 : Int32) (h : ax_Hp), ax_W G p l e s mi args below meth c 4 (d + 1) h0 30 [(0, ax_A x0), (1, ax_I x1), (2, ax_I x2)] [] h (k30 x0 x1 x2 h)) (x0 : Option Nat) (x1 : Int32) (x2 : Int32) (h : ax_Hp) : ax_W G p l e s mi args below meth c 4 (d + 1) h0 30 [(0, ax_A x0), (1, ax_I x1), (2, ax_I x2)] [] h (SchemaReader_readSymbols_bd30 call  k30 x0 x1 x2 h) := by
  unfold SchemaReader_readSymbols_bd30
  refine ax_iload_n B 2 d_SchemaReader_readSymbols_30 rfl rfl ?_
  refine ax_bipush (v := 8) B d_SchemaReader_readSymbols_31 (by decide) ?_
  refine ax_icmp_ge B 77 d_SchemaReader_readSymbols_33 (by decide) ?_ ?_
  · refine ax_iload_n B 1 d_SchemaReader_readSymbols_77 rfl rfl ?_
    refine ax_if_ne B 83 d_SchemaReader_readSymbols_78 (by decide) ?_ ?_
    · refine ax_aload_n B 0 d_SchemaReader_readSymbols_83 rfl rfl ?_
      refine ax_getfr B cl_SchemaReader (by decide) fk_SchemaReader_9 d_SchemaReader_readSymbols_84 (fun v7 => ?_)
      refine ax_bipush (v := 61) B d_SchemaReader_readSymbols_87 (by decide) ?_
      refine ax_callVi (av := [ax_I 61]) (rest := []) B E hm_Cursor_take cl_Cursor rfl wd_314 wd_315 lk_SchemaReader_62 d_SchemaReader_readSymbols_89 rfl (Nat.le_of_ble_eq_true rfl) (fun _ _ hh => hcall 30 _ _ _ _ hh) (fun v9 h8 => ?_)
      refine ax_if_eq B 105 d_SchemaReader_readSymbols_92 (by decide) ?_ ?_
      · refine ax_aload_n B 0 d_SchemaReader_readSymbols_105 rfl rfl ?_
        refine ax_getfr B cl_SchemaReader (by decide) fk_SchemaReader_9 d_SchemaReader_readSymbols_106 (fun v10 => ?_)
        refine ax_bipush (v := 41) B d_SchemaReader_readSymbols_109 (by decide) ?_
        refine ax_callVi (av := [ax_I 41]) (rest := []) B E hm_Cursor_take cl_Cursor rfl wd_314 wd_315 lk_SchemaReader_62 d_SchemaReader_readSymbols_111 rfl (Nat.le_of_ble_eq_true rfl) (fun _ _ hh => hcall 30 _ _ _ _ hh) (fun v12 h11 => ?_)
        exact ax_zreturn B d_SchemaReader_readSymbols_114
      · refine ax_aload_n B 0 d_SchemaReader_readSymbols_95 rfl rfl ?_
        refine ax_iload_n B 1 d_SchemaReader_readSymbols_96 rfl rfl ?_
        refine ax_callVi (av := [ax_I x1]) (rest := []) B E hm_SchemaReader_readSymbolDefault cl_SchemaReader rfl wd_333 wp_5 lk_SchemaReader_81 d_SchemaReader_readSymbols_97 rfl (Nat.le_of_ble_eq_true rfl) (fun _ _ hh => hcall 35 _ _ _ _ hh) (fun v14 h13 => ?_)
        refine ax_if_ne B 105 d_SchemaReader_readSymbols_100 (by decide) ?_ ?_
        · refine ax_aload_n B 0 d_SchemaReader_readSymbols_105 rfl rfl ?_
          refine ax_getfr B cl_SchemaReader (by decide) fk_SchemaReader_9 d_SchemaReader_readSymbols_106 (fun v15 => ?_)
          refine ax_bipush (v := 41) B d_SchemaReader_readSymbols_109 (by decide) ?_
          refine ax_callVi (av := [ax_I 41]) (rest := []) B E hm_Cursor_take cl_Cursor rfl wd_314 wd_315 lk_SchemaReader_62 d_SchemaReader_readSymbols_111 rfl (Nat.le_of_ble_eq_true rfl) (fun _ _ hh => hcall 30 _ _ _ _ hh) (fun v17 h16 => ?_)
          exact ax_zreturn B d_SchemaReader_readSymbols_114
        · refine ax_iconst (v := 0) B d_SchemaReader_readSymbols_103 (by decide) ?_
          exact ax_zreturn B d_SchemaReader_readSymbols_104
    · refine ax_iconst (v := 0) B d_SchemaReader_readSymbols_81 (by decide) ?_
      exact ax_zreturn B d_SchemaReader_readSymbols_82
  · refine ax_aload_n B 0 d_SchemaReader_readSymbols_36 rfl rfl ?_
    refine ax_getfr B cl_SchemaReader (by decide) fk_SchemaReader_9 d_SchemaReader_readSymbols_37 (fun v18 => ?_)
    refine ax_callVi (av := []) (rest := []) B E hm_Cursor_peek cl_Cursor rfl wd_310 wd_311 lk_SchemaReader_59 d_SchemaReader_readSymbols_40 rfl (Nat.le_of_ble_eq_true rfl) (fun _ _ hh => hcall 29 _ _ _ _ hh) (fun v20 h19 => ?_)
    refine ax_callSi (av := [ax_I v20]) (rest := []) B E hm_Desk_smallLetterBit wd_322 lk_SchemaReader_74 d_SchemaReader_readSymbols_43 rfl (Nat.le_of_ble_eq_true rfl) (fun _ _ hh => hcall 32 _ _ _ _ hh) (fun v22 h21 => ?_)
    refine ax_istore_n (tv2 := [(3, ax_I v22), (0, ax_A x0), (1, ax_I x1), (2, ax_I x2)]) B d_SchemaReader_readSymbols_46 rfl (by decide) rfl ?_
    refine ax_iload_n B 0 d_SchemaReader_readSymbols_47 rfl rfl ?_
    refine ax_if_eq B 77 d_SchemaReader_readSymbols_48 (by decide) ?_ ?_
    · refine ax_iload_n B 2 d_SchemaReader_readSymbols_77 rfl rfl ?_
      refine ax_if_ne B 83 d_SchemaReader_readSymbols_78 (by decide) ?_ ?_
      · refine ax_aload_n B 1 d_SchemaReader_readSymbols_83 rfl rfl ?_
        refine ax_getfr B cl_SchemaReader (by decide) fk_SchemaReader_9 d_SchemaReader_readSymbols_84 (fun v23 => ?_)
        refine ax_bipush (v := 61) B d_SchemaReader_readSymbols_87 (by decide) ?_
        refine ax_callVi (av := [ax_I 61]) (rest := []) B E hm_Cursor_take cl_Cursor rfl wd_314 wd_315 lk_SchemaReader_62 d_SchemaReader_readSymbols_89 rfl (Nat.le_of_ble_eq_true rfl) (fun _ _ hh => hcall 30 _ _ _ _ hh) (fun v25 h24 => ?_)
        refine ax_if_eq B 105 d_SchemaReader_readSymbols_92 (by decide) ?_ ?_
        · refine ax_aload_n B 1 d_SchemaReader_readSymbols_105 rfl rfl ?_
          refine ax_getfr B cl_SchemaReader (by decide) fk_SchemaReader_9 d_SchemaReader_readSymbols_106 (fun v26 => ?_)
          refine ax_bipush (v := 41) B d_SchemaReader_readSymbols_109 (by decide) ?_
          refine ax_callVi (av := [ax_I 41]) (rest := []) B E hm_Cursor_take cl_Cursor rfl wd_314 wd_315 lk_SchemaReader_62 d_SchemaReader_readSymbols_111 rfl (Nat.le_of_ble_eq_true rfl) (fun _ _ hh => hcall 30 _ _ _ _ hh) (fun v28 h27 => ?_)
          exact ax_zreturn B d_SchemaReader_readSymbols_114
        · refine ax_aload_n B 1 d_SchemaReader_readSymbols_95 rfl rfl ?_
          refine ax_iload_n B 2 d_SchemaReader_readSymbols_96 rfl rfl ?_
          refine ax_callVi (av := [ax_I x1]) (rest := []) B E hm_SchemaReader_readSymbolDefault cl_SchemaReader rfl wd_333 wp_5 lk_SchemaReader_81 d_SchemaReader_readSymbols_97 rfl (Nat.le_of_ble_eq_true rfl) (fun _ _ hh => hcall 35 _ _ _ _ hh) (fun v30 h29 => ?_)
          refine ax_if_ne B 105 d_SchemaReader_readSymbols_100 (by decide) ?_ ?_
          · refine ax_aload_n B 1 d_SchemaReader_readSymbols_105 rfl rfl ?_
            refine ax_getfr B cl_SchemaReader (by decide) fk_SchemaReader_9 d_SchemaReader_readSymbols_106 (fun v31 => ?_)
            refine ax_bipush (v := 41) B d_SchemaReader_readSymbols_109 (by decide) ?_
            refine ax_callVi (av := [ax_I 41]) (rest := []) B E hm_Cursor_take cl_Cursor rfl wd_314 wd_315 lk_SchemaReader_62 d_SchemaReader_readSymbols_111 rfl (Nat.le_of_ble_eq_true rfl) (fun _ _ hh => hcall 30 _ _ _ _ hh) (fun v33 h32 => ?_)
            exact ax_zreturn B d_SchemaReader_readSymbols_114
          · refine ax_iconst (v := 0) B d_SchemaReader_readSymbols_103 (by decide) ?_
            exact ax_zreturn B d_SchemaReader_readSymbols_104
      · refine ax_iconst (v := 0) B d_SchemaReader_readSymbols_81 (by decide) ?_
        exact ax_zreturn B d_SchemaReader_readSymbols_82
    · refine ax_iload_n B 2 d_SchemaReader_readSymbols_51 rfl rfl ?_
      refine ax_iload_n B 0 d_SchemaReader_readSymbols_52 rfl rfl ?_
      refine ax_iand B d_SchemaReader_readSymbols_53 ?_
      refine ax_if_eq B 60 d_SchemaReader_readSymbols_54 (by decide) ?_ ?_
      · refine ax_iload_n B 2 d_SchemaReader_readSymbols_60 rfl rfl ?_
        refine ax_iload_n B 0 d_SchemaReader_readSymbols_61 rfl rfl ?_
        refine ax_ior B d_SchemaReader_readSymbols_62 ?_
        refine ax_istore_n (tv2 := [(1, ax_I (x1 ||| v22)), (3, ax_I v22), (0, ax_A x0), (2, ax_I x2)]) B d_SchemaReader_readSymbols_63 rfl (by decide) rfl ?_
        refine ax_aload_n B 2 d_SchemaReader_readSymbols_64 rfl rfl ?_
        refine ax_getfr B cl_SchemaReader (by decide) fk_SchemaReader_9 d_SchemaReader_readSymbols_65 (fun v34 => ?_)
        refine ax_callVv (av := []) (rest := []) B E hm_Cursor_step cl_Cursor rfl wd_328 wd_329 lk_SchemaReader_78 d_SchemaReader_readSymbols_68 rfl (Nat.le_of_ble_eq_true rfl) (fun _ _ hh => hcall 34 _ _ _ _ hh) (fun h35 => ?_)
        refine ax_iinc (v := x2 + 1) (tv2 := [(2, ax_I (x2 + 1)), (1, ax_I (x1 ||| v22)), (3, ax_I v22), (0, ax_A x0)]) B 3 d_SchemaReader_readSymbols_71 rfl (congrArg (_ + ·) (by decide)) (by decide) rfl ?_
        refine ax_goto B 30 d_SchemaReader_readSymbols_74 (by decide) ?_
        refine ax_sub (tv2 := [(0, ax_A x0), (1, ax_I (x1 ||| v22)), (2, ax_I (x2 + 1))]) [3, 1, 0] rfl ?_
        exact hk30 x0 (x1 ||| v22) (x2 + 1) h35
      · refine ax_goto B 77 d_SchemaReader_readSymbols_57 (by decide) ?_
        refine ax_iload_n B 2 d_SchemaReader_readSymbols_77 rfl rfl ?_
        refine ax_if_ne B 83 d_SchemaReader_readSymbols_78 (by decide) ?_ ?_
        · refine ax_aload_n B 1 d_SchemaReader_readSymbols_83 rfl rfl ?_
          refine ax_getfr B cl_SchemaReader (by decide) fk_SchemaReader_9 d_SchemaReader_readSymbols_84 (fun v37 => ?_)
          refine ax_bipush (v := 61) B d_SchemaReader_readSymbols_87 (by decide) ?_
          refine ax_callVi (av := [ax_I 61]) (rest := []) B E hm_Cursor_take cl_Cursor rfl wd_314 wd_315 lk_SchemaReader_62 d_SchemaReader_readSymbols_89 rfl (Nat.le_of_ble_eq_true rfl) (fun _ _ hh => hcall 30 _ _ _ _ hh) (fun v39 h38 => ?_)
          refine ax_if_eq B 105 d_SchemaReader_readSymbols_92 (by decide) ?_ ?_
          · refine ax_aload_n B 1 d_SchemaReader_readSymbols_105 rfl rfl ?_
            refine ax_getfr B cl_SchemaReader (by decide) fk_SchemaReader_9 d_SchemaReader_readSymbols_106 (fun v40 => ?_)
            refine ax_bipush (v := 41) B d_SchemaReader_readSymbols_109 (by decide) ?_
            refine ax_callVi (av := [ax_I 41]) (rest := []) B E hm_Cursor_take cl_Cursor rfl wd_314 wd_315 lk_SchemaReader_62 d_SchemaReader_readSymbols_111 rfl (Nat.le_of_ble_eq_true rfl) (fun _ _ hh => hcall 30 _ _ _ _ hh) (fun v42 h41 => ?_)
            exact ax_zreturn B d_SchemaReader_readSymbols_114
          · refine ax_aload_n B 1 d_SchemaReader_readSymbols_95 rfl rfl ?_
            refine ax_iload_n B 2 d_SchemaReader_readSymbols_96 rfl rfl ?_
            refine ax_callVi (av := [ax_I x1]) (rest := []) B E hm_SchemaReader_readSymbolDefault cl_SchemaReader rfl wd_333 wp_5 lk_SchemaReader_81 d_SchemaReader_readSymbols_97 rfl (Nat.le_of_ble_eq_true rfl) (fun _ _ hh => hcall 35 _ _ _ _ hh) (fun v44 h43 => ?_)
            refine ax_if_ne B 105 d_SchemaReader_readSymbols_100 (by decide) ?_ ?_
            · refine ax_aload_n B 1 d_SchemaReader_readSymbols_105 rfl rfl ?_
              refine ax_getfr B cl_SchemaReader (by decide) fk_SchemaReader_9 d_SchemaReader_readSymbols_106 (fun v45 => ?_)
              refine ax_bipush (v := 41) B d_SchemaReader_readSymbols_109 (by decide) ?_
              refine ax_callVi (av := [ax_I 41]) (rest := []) B E hm_Cursor_take cl_Cursor rfl wd_314 wd_315 lk_SchemaReader_62 d_SchemaReader_readSymbols_111 rfl (Nat.le_of_ble_eq_true rfl) (fun _ _ hh => hcall 30 _ _ _ _ hh) (fun v47 h46 => ?_)
              exact ax_zreturn B d_SchemaReader_readSymbols_114
            · refine ax_iconst (v := 0) B d_SchemaReader_readSymbols_103 (by decide) ?_
              exact ax_zreturn B d_SchemaReader_readSymbols_104
        · refine ax_iconst (v := 0) B d_SchemaReader_readSymbols_81 (by decide) ?_
          exact ax_zreturn B d_SchemaReader_readSymbols_82
theorem SchemaReader_readSymbols_lq30 {l : Launch} {G : ax_G} {d : Nat} {call : ax_Cf} (hcall : ax_Hc l G d call) {p : Program} {e : Env} {s : State} {mi : MethodId} {args : Array Value} {below : List Frame} {meth : Method} {c : Code} {h0 : ax_Hp} (B : ax_B G p s mi meth c "SchemaDesk$SchemaReader" prog_7_method_5_code 4 (some (.boolean))) (E : c.exceptionTable.isEmpty = true) (Nm : meth.name = y_SchemaReader_readSymbols.name)   : ∀ (n : Nat) (x0 : Option Nat) (x1 : Int32) (x2 : Int32) (h : ax_Hp), ax_W G p l e s mi args below meth c 4 (d + 1) h0 30 [(0, ax_A x0), (1, ax_I x1), (2, ax_I x2)] [] h (SchemaReader_readSymbols_lp30 call  n x0 x1 x2 h)
  | 0, _, _, _, _ => ax_none
  | n + 1, x0, x1, x2, h => SchemaReader_readSymbols_lb30 hcall B E Nm   (SchemaReader_readSymbols_lq30 hcall B E Nm   n) x0 x1 x2 h
def SchemaReader_readSymbols_b (call : ax_Cf) (x0 : Option Nat) (h : ax_Hp) : ax_O :=
  (ax_gr h x0 4 0).bind fun v1 =>
  ax_on h v1 0 <| ax_ci (call 30 [ax_A v1, ax_I 69] h) fun v3 h2 =>
  if v3 = 0 then
    ax_rz 0 h2
  else
    (ax_gr h2 x0 4 0).bind fun v4 =>
    ax_on h2 v4 0 <| ax_ci (call 30 [ax_A v4, ax_I 40] h2) fun v6 h5 =>
    if v6 = 0 then
      ax_rz 0 h5
    else
      SchemaReader_readSymbols_lp30 call ax_fuel x0 0 0 h5
set_option maxHeartbeats 4000000 in
set_option maxRecDepth 20000 in
theorem SchemaReader_readSymbols_t {l : Launch} {G : ax_G} {d : Nat} {call : ax_Cf} (hcall : ax_Hc l G d call) (x0 : Option Nat) (h : ax_Hp) {r : ax_Rs} {h' : ax_Hp} (ho : SchemaReader_readSymbols_b call x0 h = some (r, h')) : ax_C l G (d + 1) y_SchemaReader_readSymbols (.code y_SchemaReader_readSymbols prog_7_method_5_code 4 (some (.boolean))) [ax_A x0] h r h' := by
  refine ax_enter (by decide) (Nat.le_of_ble_eq_true rfl) ho (fun p e s mi args below meth c B E Nm => ?_)
  have B : ax_B G p s mi meth c "SchemaDesk$SchemaReader" prog_7_method_5_code 4 (some (.boolean)) := B
  show ax_W G p l e s mi args below meth c 4 (d + 1) h 0 [(0, ax_A x0)] [] h (SchemaReader_readSymbols_b call x0 h)
  unfold SchemaReader_readSymbols_b
  refine ax_aload_n B 0 d_SchemaReader_readSymbols_0 rfl rfl ?_
  refine ax_getfr B cl_SchemaReader (by decide) fk_SchemaReader_9 d_SchemaReader_readSymbols_1 (fun v1 => ?_)
  refine ax_bipush (v := 69) B d_SchemaReader_readSymbols_4 (by decide) ?_
  refine ax_callVi (av := [ax_I 69]) (rest := []) B E hm_Cursor_take cl_Cursor rfl wd_314 wd_315 lk_SchemaReader_62 d_SchemaReader_readSymbols_6 rfl (Nat.le_of_ble_eq_true rfl) (fun _ _ hh => hcall 30 _ _ _ _ hh) (fun v3 h2 => ?_)
  refine ax_if_eq B 24 d_SchemaReader_readSymbols_9 (by decide) ?_ ?_
  · refine ax_iconst (v := 0) B d_SchemaReader_readSymbols_24 (by decide) ?_
    exact ax_zreturn B d_SchemaReader_readSymbols_25
  · refine ax_aload_n B 0 d_SchemaReader_readSymbols_12 rfl rfl ?_
    refine ax_getfr B cl_SchemaReader (by decide) fk_SchemaReader_9 d_SchemaReader_readSymbols_13 (fun v4 => ?_)
    refine ax_bipush (v := 40) B d_SchemaReader_readSymbols_16 (by decide) ?_
    refine ax_callVi (av := [ax_I 40]) (rest := []) B E hm_Cursor_take cl_Cursor rfl wd_314 wd_315 lk_SchemaReader_62 d_SchemaReader_readSymbols_18 rfl (Nat.le_of_ble_eq_true rfl) (fun _ _ hh => hcall 30 _ _ _ _ hh) (fun v6 h5 => ?_)
    refine ax_if_ne B 26 d_SchemaReader_readSymbols_21 (by decide) ?_ ?_
    · refine ax_iconst (v := 0) B d_SchemaReader_readSymbols_26 (by decide) ?_
      refine ax_istore_n (tv2 := [(1, ax_I 0), (0, ax_A x0)]) B d_SchemaReader_readSymbols_27 rfl (by decide) rfl ?_
      refine ax_iconst (v := 0) B d_SchemaReader_readSymbols_28 (by decide) ?_
      refine ax_istore_n (tv2 := [(2, ax_I 0), (1, ax_I 0), (0, ax_A x0)]) B d_SchemaReader_readSymbols_29 rfl (by decide) rfl ?_
      refine ax_sub (tv2 := [(0, ax_A x0), (1, ax_I 0), (2, ax_I 0)]) [2, 1, 0] rfl ?_
      exact SchemaReader_readSymbols_lq30 hcall B E Nm ax_fuel x0 0 0 h5
    · refine ax_iconst (v := 0) B d_SchemaReader_readSymbols_24 (by decide) ?_
      exact ax_zreturn B d_SchemaReader_readSymbols_25

theorem d_SchemaReader_readSymbolDefault_0 : decode prog_7_method_6_code 0 = .ok (.iload_n 1, 1) := by decide +kernel
theorem d_SchemaReader_readSymbolDefault_1 : decode prog_7_method_6_code 1 = .ok (.aload_n 0, 1) := by decide +kernel
theorem d_SchemaReader_readSymbolDefault_2 : decode prog_7_method_6_code 2 = .ok (.getfield 9, 3) := by decide +kernel
theorem d_SchemaReader_readSymbolDefault_5 : decode prog_7_method_6_code 5 = .ok (.invokevirtual 59, 3) := by decide +kernel
theorem d_SchemaReader_readSymbolDefault_8 : decode prog_7_method_6_code 8 = .ok (.invokestatic 74, 3) := by decide +kernel
theorem d_SchemaReader_readSymbolDefault_11 : decode prog_7_method_6_code 11 = .ok (.iand, 1) := by decide +kernel
theorem d_SchemaReader_readSymbolDefault_12 : decode prog_7_method_6_code 12 = .ok (.ifCond .ne 5, 3) := by decide +kernel
theorem d_SchemaReader_readSymbolDefault_15 : decode prog_7_method_6_code 15 = .ok (.iconst 0, 1) := by decide +kernel
theorem d_SchemaReader_readSymbolDefault_16 : decode prog_7_method_6_code 16 = .ok (.ireturn, 1) := by decide +kernel
theorem d_SchemaReader_readSymbolDefault_17 : decode prog_7_method_6_code 17 = .ok (.aload_n 0, 1) := by decide +kernel
theorem d_SchemaReader_readSymbolDefault_18 : decode prog_7_method_6_code 18 = .ok (.getfield 9, 3) := by decide +kernel
theorem d_SchemaReader_readSymbolDefault_21 : decode prog_7_method_6_code 21 = .ok (.invokevirtual 48, 3) := by decide +kernel
theorem d_SchemaReader_readSymbolDefault_24 : decode prog_7_method_6_code 24 = .ok (.istore_n 2, 1) := by decide +kernel
theorem d_SchemaReader_readSymbolDefault_25 : decode prog_7_method_6_code 25 = .ok (.aload_n 0, 1) := by decide +kernel
theorem d_SchemaReader_readSymbolDefault_26 : decode prog_7_method_6_code 26 = .ok (.getfield 9, 3) := by decide +kernel
theorem d_SchemaReader_readSymbolDefault_29 : decode prog_7_method_6_code 29 = .ok (.invokevirtual 78, 3) := by decide +kernel
theorem d_SchemaReader_readSymbolDefault_32 : decode prog_7_method_6_code 32 = .ok (.aload_n 0, 1) := by decide +kernel
theorem d_SchemaReader_readSymbolDefault_33 : decode prog_7_method_6_code 33 = .ok (.getfield 15, 3) := by decide +kernel
theorem d_SchemaReader_readSymbolDefault_36 : decode prog_7_method_6_code 36 = .ok (.iload_n 2, 1) := by decide +kernel
theorem d_SchemaReader_readSymbolDefault_37 : decode prog_7_method_6_code 37 = .ok (.aload_n 0, 1) := by decide +kernel
theorem d_SchemaReader_readSymbolDefault_38 : decode prog_7_method_6_code 38 = .ok (.getfield 9, 3) := by decide +kernel
theorem d_SchemaReader_readSymbolDefault_41 : decode prog_7_method_6_code 41 = .ok (.invokevirtual 48, 3) := by decide +kernel
theorem d_SchemaReader_readSymbolDefault_44 : decode prog_7_method_6_code 44 = .ok (.invokevirtual 55, 3) := by decide +kernel
theorem d_SchemaReader_readSymbolDefault_47 : decode prog_7_method_6_code 47 = .ok (.iconst 1, 1) := by decide +kernel
theorem d_SchemaReader_readSymbolDefault_48 : decode prog_7_method_6_code 48 = .ok (.ireturn, 1) := by decide +kernel
def SchemaReader_readSymbolDefault_b (call : ax_Cf) (x0 : Option Nat) (x1 : Int32) (h : ax_Hp) : ax_O :=
  (ax_gr h x0 4 0).bind fun v1 =>
  ax_on h v1 0 <| ax_ci (call 29 [ax_A v1] h) fun v3 h2 =>
  ax_ci (call 32 [ax_I v3] h2) fun v5 h4 =>
  if (x1 &&& v5) = 0 then
    ax_rz 0 h4
  else
    (ax_gr h4 x0 4 0).bind fun v6 =>
    ax_on h4 v6 0 <| ax_ci (call 27 [ax_A v6] h4) fun v8 h7 =>
    (ax_gr h7 x0 4 0).bind fun v9 =>
    ax_on h7 v9 0 <| ax_cv (call 34 [ax_A v9] h7) fun h10 =>
    (ax_gr h10 x0 4 1).bind fun v12 =>
    (ax_gr h10 x0 4 0).bind fun v13 =>
    ax_on h10 v13 0 <| ax_ci (call 27 [ax_A v13] h10) fun v15 h14 =>
    ax_on h14 v12 3 <| ax_cv (call 36 [ax_A v12, ax_I v8, ax_I v15] h14) fun h16 =>
    ax_rz 1 h16
set_option maxHeartbeats 4000000 in
set_option maxRecDepth 20000 in
theorem SchemaReader_readSymbolDefault_t {l : Launch} {G : ax_G} {d : Nat} {call : ax_Cf} (hcall : ax_Hc l G d call) (x0 : Option Nat) (x1 : Int32) (h : ax_Hp) {r : ax_Rs} {h' : ax_Hp} (ho : SchemaReader_readSymbolDefault_b call x0 x1 h = some (r, h')) : ax_C l G (d + 1) y_SchemaReader_readSymbolDefault (.code y_SchemaReader_readSymbolDefault prog_7_method_6_code 3 (some (.boolean))) [ax_A x0, ax_I x1] h r h' := by
  refine ax_enter (by decide) (Nat.le_of_ble_eq_true rfl) ho (fun p e s mi args below meth c B E Nm => ?_)
  have B : ax_B G p s mi meth c "SchemaDesk$SchemaReader" prog_7_method_6_code 3 (some (.boolean)) := B
  show ax_W G p l e s mi args below meth c 3 (d + 1) h 0 [(0, ax_A x0), (1, ax_I x1)] [] h (SchemaReader_readSymbolDefault_b call x0 x1 h)
  unfold SchemaReader_readSymbolDefault_b
  refine ax_iload_n B 1 d_SchemaReader_readSymbolDefault_0 rfl rfl ?_
  refine ax_aload_n B 0 d_SchemaReader_readSymbolDefault_1 rfl rfl ?_
  refine ax_getfr B cl_SchemaReader (by decide) fk_SchemaReader_9 d_SchemaReader_readSymbolDefault_2 (fun v1 => ?_)
  refine ax_callVi (av := []) (rest := [ax_I x1]) B E hm_Cursor_peek cl_Cursor rfl wd_310 wd_311 lk_SchemaReader_59 d_SchemaReader_readSymbolDefault_5 rfl (Nat.le_of_ble_eq_true rfl) (fun _ _ hh => hcall 29 _ _ _ _ hh) (fun v3 h2 => ?_)
  refine ax_callSi (av := [ax_I v3]) (rest := [ax_I x1]) B E hm_Desk_smallLetterBit wd_322 lk_SchemaReader_74 d_SchemaReader_readSymbolDefault_8 rfl (Nat.le_of_ble_eq_true rfl) (fun _ _ hh => hcall 32 _ _ _ _ hh) (fun v5 h4 => ?_)
  refine ax_iand B d_SchemaReader_readSymbolDefault_11 ?_
  refine ax_if_ne B 17 d_SchemaReader_readSymbolDefault_12 (by decide) ?_ ?_
  · refine ax_aload_n B 0 d_SchemaReader_readSymbolDefault_17 rfl rfl ?_
    refine ax_getfr B cl_SchemaReader (by decide) fk_SchemaReader_9 d_SchemaReader_readSymbolDefault_18 (fun v6 => ?_)
    refine ax_callVi (av := []) (rest := []) B E hm_Cursor_at cl_Cursor rfl wd_302 wd_303 lk_SchemaReader_48 d_SchemaReader_readSymbolDefault_21 rfl (Nat.le_of_ble_eq_true rfl) (fun _ _ hh => hcall 27 _ _ _ _ hh) (fun v8 h7 => ?_)
    refine ax_istore_n (tv2 := [(2, ax_I v8), (0, ax_A x0), (1, ax_I x1)]) B d_SchemaReader_readSymbolDefault_24 rfl (by decide) rfl ?_
    refine ax_aload_n B 1 d_SchemaReader_readSymbolDefault_25 rfl rfl ?_
    refine ax_getfr B cl_SchemaReader (by decide) fk_SchemaReader_9 d_SchemaReader_readSymbolDefault_26 (fun v9 => ?_)
    refine ax_callVv (av := []) (rest := []) B E hm_Cursor_step cl_Cursor rfl wd_328 wd_329 lk_SchemaReader_78 d_SchemaReader_readSymbolDefault_29 rfl (Nat.le_of_ble_eq_true rfl) (fun _ _ hh => hcall 34 _ _ _ _ hh) (fun h10 => ?_)
    refine ax_aload_n B 1 d_SchemaReader_readSymbolDefault_32 rfl rfl ?_
    refine ax_getfr B cl_SchemaReader (by decide) fk_SchemaReader_15 d_SchemaReader_readSymbolDefault_33 (fun v12 => ?_)
    refine ax_iload_n B 0 d_SchemaReader_readSymbolDefault_36 rfl rfl ?_
    refine ax_aload_n B 1 d_SchemaReader_readSymbolDefault_37 rfl rfl ?_
    refine ax_getfr B cl_SchemaReader (by decide) fk_SchemaReader_9 d_SchemaReader_readSymbolDefault_38 (fun v13 => ?_)
    refine ax_callVi (av := []) (rest := [ax_I v8, ax_A v12]) B E hm_Cursor_at cl_Cursor rfl wd_302 wd_303 lk_SchemaReader_48 d_SchemaReader_readSymbolDefault_41 rfl (Nat.le_of_ble_eq_true rfl) (fun _ _ hh => hcall 27 _ _ _ _ hh) (fun v15 h14 => ?_)
    refine ax_callVv (av := [ax_I v8, ax_I v15]) (rest := []) B E hm_Schema_markEnd cl_Schema rfl wd_336 wd_337 lk_SchemaReader_55 d_SchemaReader_readSymbolDefault_44 rfl (Nat.le_of_ble_eq_true rfl) (fun _ _ hh => hcall 36 _ _ _ _ hh) (fun h16 => ?_)
    refine ax_iconst (v := 1) B d_SchemaReader_readSymbolDefault_47 (by decide) ?_
    exact ax_zreturn B d_SchemaReader_readSymbolDefault_48
  · refine ax_iconst (v := 0) B d_SchemaReader_readSymbolDefault_15 (by decide) ?_
    exact ax_zreturn B d_SchemaReader_readSymbolDefault_16

theorem d_SchemaReader_readBranches_0 : decode prog_7_method_7_code 0 = .ok (.aload_n 0, 1) := by decide +kernel
theorem d_SchemaReader_readBranches_1 : decode prog_7_method_7_code 1 = .ok (.getfield 9, 3) := by decide +kernel
theorem d_SchemaReader_readBranches_4 : decode prog_7_method_7_code 4 = .ok (.bipush 85, 2) := by decide +kernel
theorem d_SchemaReader_readBranches_6 : decode prog_7_method_7_code 6 = .ok (.invokevirtual 62, 3) := by decide +kernel
theorem d_SchemaReader_readBranches_9 : decode prog_7_method_7_code 9 = .ok (.ifCond .eq 15, 3) := by decide +kernel
theorem d_SchemaReader_readBranches_12 : decode prog_7_method_7_code 12 = .ok (.aload_n 0, 1) := by decide +kernel
theorem d_SchemaReader_readBranches_13 : decode prog_7_method_7_code 13 = .ok (.getfield 9, 3) := by decide +kernel
theorem d_SchemaReader_readBranches_16 : decode prog_7_method_7_code 16 = .ok (.bipush 40, 2) := by decide +kernel
theorem d_SchemaReader_readBranches_18 : decode prog_7_method_7_code 18 = .ok (.invokevirtual 62, 3) := by decide +kernel
theorem d_SchemaReader_readBranches_21 : decode prog_7_method_7_code 21 = .ok (.ifCond .ne 5, 3) := by decide +kernel
theorem d_SchemaReader_readBranches_24 : decode prog_7_method_7_code 24 = .ok (.iconst 0, 1) := by decide +kernel
theorem d_SchemaReader_readBranches_25 : decode prog_7_method_7_code 25 = .ok (.ireturn, 1) := by decide +kernel
theorem d_SchemaReader_readBranches_26 : decode prog_7_method_7_code 26 = .ok (.bipush 85, 2) := by decide +kernel
theorem d_SchemaReader_readBranches_28 : decode prog_7_method_7_code 28 = .ok (.invokestatic 84, 3) := by decide +kernel
theorem d_SchemaReader_readBranches_31 : decode prog_7_method_7_code 31 = .ok (.istore_n 2, 1) := by decide +kernel
theorem d_SchemaReader_readBranches_32 : decode prog_7_method_7_code 32 = .ok (.iconst 1, 1) := by decide +kernel
theorem d_SchemaReader_readBranches_33 : decode prog_7_method_7_code 33 = .ok (.istore_n 3, 1) := by decide +kernel
theorem d_SchemaReader_readBranches_34 : decode prog_7_method_7_code 34 = .ok (.iload_n 3, 1) := by decide +kernel
theorem d_SchemaReader_readBranches_35 : decode prog_7_method_7_code 35 = .ok (.iconst 4, 1) := by decide +kernel
theorem d_SchemaReader_readBranches_36 : decode prog_7_method_7_code 36 = .ok (.if_icmp .gt 108, 3) := by decide +kernel
theorem d_SchemaReader_readBranches_39 : decode prog_7_method_7_code 39 = .ok (.aload_n 0, 1) := by decide +kernel
theorem d_SchemaReader_readBranches_40 : decode prog_7_method_7_code 40 = .ok (.getfield 9, 3) := by decide +kernel
theorem d_SchemaReader_readBranches_43 : decode prog_7_method_7_code 43 = .ok (.invokevirtual 48, 3) := by decide +kernel
theorem d_SchemaReader_readBranches_46 : decode prog_7_method_7_code 46 = .ok (.istore 4, 2) := by decide +kernel
theorem d_SchemaReader_readBranches_48 : decode prog_7_method_7_code 48 = .ok (.aload_n 0, 1) := by decide +kernel
theorem d_SchemaReader_readBranches_49 : decode prog_7_method_7_code 49 = .ok (.getfield 9, 3) := by decide +kernel
theorem d_SchemaReader_readBranches_52 : decode prog_7_method_7_code 52 = .ok (.invokevirtual 59, 3) := by decide +kernel
theorem d_SchemaReader_readBranches_55 : decode prog_7_method_7_code 55 = .ok (.invokestatic 84, 3) := by decide +kernel
theorem d_SchemaReader_readBranches_58 : decode prog_7_method_7_code 58 = .ok (.istore 5, 2) := by decide +kernel
theorem d_SchemaReader_readBranches_60 : decode prog_7_method_7_code 60 = .ok (.iload_n 2, 1) := by decide +kernel
theorem d_SchemaReader_readBranches_61 : decode prog_7_method_7_code 61 = .ok (.iload 5, 2) := by decide +kernel
theorem d_SchemaReader_readBranches_63 : decode prog_7_method_7_code 63 = .ok (.iand, 1) := by decide +kernel
theorem d_SchemaReader_readBranches_64 : decode prog_7_method_7_code 64 = .ok (.ifCond .ne 13, 3) := by decide +kernel
theorem d_SchemaReader_readBranches_67 : decode prog_7_method_7_code 67 = .ok (.aload_n 0, 1) := by decide +kernel
theorem d_SchemaReader_readBranches_68 : decode prog_7_method_7_code 68 = .ok (.iload_n 1, 1) := by decide +kernel
theorem d_SchemaReader_readBranches_69 : decode prog_7_method_7_code 69 = .ok (.iconst 1, 1) := by decide +kernel
theorem d_SchemaReader_readBranches_70 : decode prog_7_method_7_code 70 = .ok (.iadd, 1) := by decide +kernel
theorem d_SchemaReader_readBranches_71 : decode prog_7_method_7_code 71 = .ok (.invokevirtual 38, 3) := by decide +kernel
theorem d_SchemaReader_readBranches_74 : decode prog_7_method_7_code 74 = .ok (.ifCond .ne 5, 3) := by decide +kernel
theorem d_SchemaReader_readBranches_77 : decode prog_7_method_7_code 77 = .ok (.iconst 0, 1) := by decide +kernel
theorem d_SchemaReader_readBranches_78 : decode prog_7_method_7_code 78 = .ok (.ireturn, 1) := by decide +kernel
theorem d_SchemaReader_readBranches_79 : decode prog_7_method_7_code 79 = .ok (.iload_n 2, 1) := by decide +kernel
theorem d_SchemaReader_readBranches_80 : decode prog_7_method_7_code 80 = .ok (.iload 5, 2) := by decide +kernel
theorem d_SchemaReader_readBranches_82 : decode prog_7_method_7_code 82 = .ok (.ior, 1) := by decide +kernel
theorem d_SchemaReader_readBranches_83 : decode prog_7_method_7_code 83 = .ok (.istore_n 2, 1) := by decide +kernel
theorem d_SchemaReader_readBranches_84 : decode prog_7_method_7_code 84 = .ok (.iload_n 3, 1) := by decide +kernel
theorem d_SchemaReader_readBranches_85 : decode prog_7_method_7_code 85 = .ok (.iconst 2, 1) := by decide +kernel
theorem d_SchemaReader_readBranches_86 : decode prog_7_method_7_code 86 = .ok (.if_icmp .lt 17, 3) := by decide +kernel
theorem d_SchemaReader_readBranches_89 : decode prog_7_method_7_code 89 = .ok (.aload_n 0, 1) := by decide +kernel
theorem d_SchemaReader_readBranches_90 : decode prog_7_method_7_code 90 = .ok (.getfield 9, 3) := by decide +kernel
theorem d_SchemaReader_readBranches_93 : decode prog_7_method_7_code 93 = .ok (.bipush 41, 2) := by decide +kernel
theorem d_SchemaReader_readBranches_95 : decode prog_7_method_7_code 95 = .ok (.invokevirtual 62, 3) := by decide +kernel
theorem d_SchemaReader_readBranches_98 : decode prog_7_method_7_code 98 = .ok (.ifCond .eq 5, 3) := by decide +kernel
theorem d_SchemaReader_readBranches_101 : decode prog_7_method_7_code 101 = .ok (.iconst 1, 1) := by decide +kernel
theorem d_SchemaReader_readBranches_102 : decode prog_7_method_7_code 102 = .ok (.ireturn, 1) := by decide +kernel
theorem d_SchemaReader_readBranches_103 : decode prog_7_method_7_code 103 = .ok (.iload_n 3, 1) := by decide +kernel
theorem d_SchemaReader_readBranches_104 : decode prog_7_method_7_code 104 = .ok (.iconst 4, 1) := by decide +kernel
theorem d_SchemaReader_readBranches_105 : decode prog_7_method_7_code 105 = .ok (.if_icmp .eq 15, 3) := by decide +kernel
theorem d_SchemaReader_readBranches_108 : decode prog_7_method_7_code 108 = .ok (.aload_n 0, 1) := by decide +kernel
theorem d_SchemaReader_readBranches_109 : decode prog_7_method_7_code 109 = .ok (.getfield 9, 3) := by decide +kernel
theorem d_SchemaReader_readBranches_112 : decode prog_7_method_7_code 112 = .ok (.bipush 44, 2) := by decide +kernel
theorem d_SchemaReader_readBranches_114 : decode prog_7_method_7_code 114 = .ok (.invokevirtual 62, 3) := by decide +kernel
theorem d_SchemaReader_readBranches_117 : decode prog_7_method_7_code 117 = .ok (.ifCond .ne 5, 3) := by decide +kernel
theorem d_SchemaReader_readBranches_120 : decode prog_7_method_7_code 120 = .ok (.iconst 0, 1) := by decide +kernel
theorem d_SchemaReader_readBranches_121 : decode prog_7_method_7_code 121 = .ok (.ireturn, 1) := by decide +kernel
theorem d_SchemaReader_readBranches_122 : decode prog_7_method_7_code 122 = .ok (.aload_n 0, 1) := by decide +kernel
theorem d_SchemaReader_readBranches_123 : decode prog_7_method_7_code 123 = .ok (.getfield 15, 3) := by decide +kernel
theorem d_SchemaReader_readBranches_126 : decode prog_7_method_7_code 126 = .ok (.iload 4, 2) := by decide +kernel
theorem d_SchemaReader_readBranches_128 : decode prog_7_method_7_code 128 = .ok (.aload_n 0, 1) := by decide +kernel
theorem d_SchemaReader_readBranches_129 : decode prog_7_method_7_code 129 = .ok (.getfield 9, 3) := by decide +kernel
theorem d_SchemaReader_readBranches_132 : decode prog_7_method_7_code 132 = .ok (.invokevirtual 48, 3) := by decide +kernel
theorem d_SchemaReader_readBranches_135 : decode prog_7_method_7_code 135 = .ok (.invokevirtual 87, 3) := by decide +kernel
theorem d_SchemaReader_readBranches_138 : decode prog_7_method_7_code 138 = .ok (.iinc 3 1, 3) := by decide +kernel
theorem d_SchemaReader_readBranches_141 : decode prog_7_method_7_code 141 = .ok (.goto (-107), 3) := by decide +kernel
theorem d_SchemaReader_readBranches_144 : decode prog_7_method_7_code 144 = .ok (.iconst 0, 1) := by decide +kernel
theorem d_SchemaReader_readBranches_145 : decode prog_7_method_7_code 145 = .ok (.ireturn, 1) := by decide +kernel
def SchemaReader_readBranches_bd34 (call : ax_Cf)  (k34 : Option Nat → Int32 → Int32 → Int32 → ax_Hp → ax_O) (x0 : Option Nat) (x1 : Int32) (x2 : Int32) (x3 : Int32) (h : ax_Hp) : ax_O :=
  if 4 < x3 then
    ax_rz 0 h
  else
    (ax_gr h x0 4 0).bind fun v9 =>
    ax_on h v9 0 <| ax_ci (call 27 [ax_A v9] h) fun v11 h10 =>
    (ax_gr h10 x0 4 0).bind fun v12 =>
    ax_on h10 v12 0 <| ax_ci (call 29 [ax_A v12] h10) fun v14 h13 =>
    ax_ci (call 38 [ax_I v14] h13) fun v16 h15 =>
    if (x2 &&& v16) = 0 then
      ax_on h15 x0 4 <| ax_ci (call 26 [ax_A x0, ax_I (x1 + 1)] h15) fun v18 h17 =>
      if v18 = 0 then
        ax_rz 0 h17
      else
        if x3 < 2 then
          if x3 = 4 then
            ax_rz 0 h17
          else
            (ax_gr h17 x0 4 0).bind fun v19 =>
            ax_on h17 v19 0 <| ax_ci (call 30 [ax_A v19, ax_I 44] h17) fun v21 h20 =>
            if v21 = 0 then
              ax_rz 0 h20
            else
              (ax_gr h20 x0 4 1).bind fun v22 =>
              (ax_gr h20 x0 4 0).bind fun v23 =>
              ax_on h20 v23 0 <| ax_ci (call 27 [ax_A v23] h20) fun v25 h24 =>
              ax_on h24 v22 3 <| ax_cv (call 39 [ax_A v22, ax_I v11, ax_I v25] h24) fun h26 =>
              k34 x0 x1 (x2 ||| v16) (x3 + 1) h26
        else
          (ax_gr h17 x0 4 0).bind fun v28 =>
          ax_on h17 v28 0 <| ax_ci (call 30 [ax_A v28, ax_I 41] h17) fun v30 h29 =>
          if v30 = 0 then
            if x3 = 4 then
              ax_rz 0 h29
            else
              (ax_gr h29 x0 4 0).bind fun v31 =>
              ax_on h29 v31 0 <| ax_ci (call 30 [ax_A v31, ax_I 44] h29) fun v33 h32 =>
              if v33 = 0 then
                ax_rz 0 h32
              else
                (ax_gr h32 x0 4 1).bind fun v34 =>
                (ax_gr h32 x0 4 0).bind fun v35 =>
                ax_on h32 v35 0 <| ax_ci (call 27 [ax_A v35] h32) fun v37 h36 =>
                ax_on h36 v34 3 <| ax_cv (call 39 [ax_A v34, ax_I v11, ax_I v37] h36) fun h38 =>
                k34 x0 x1 (x2 ||| v16) (x3 + 1) h38
          else
            ax_rz 1 h29
    else
      ax_rz 0 h15
def SchemaReader_readBranches_lp34 (call : ax_Cf)  : Nat → Option Nat → Int32 → Int32 → Int32 → ax_Hp → ax_O
  | 0 => fun _ _ _ _ _ => none
  | n + 1 => SchemaReader_readBranches_bd34 call  (SchemaReader_readBranches_lp34 call  n)
set_option maxHeartbeats 4000000 in
set_option maxRecDepth 20000 in
theorem SchemaReader_readBranches_lb34 {l : Launch} {G : ax_G} {d : Nat} {call : ax_Cf} (hcall : ax_Hc l G d call) {p : Program} {e : Env} {s : State} {mi : MethodId} {args : Array Value} {below : List Frame} {meth : Method} {c : Code} {h0 : ax_Hp} (B : ax_B G p s mi meth c "SchemaDesk$SchemaReader" prog_7_method_7_code 6 (some (.boolean))) (E : c.exceptionTable.isEmpty = true) (Nm : meth.name = y_SchemaReader_readBranches.name)   {k34 : Option Nat → Int32 → Int32 → Int32 → ax_Hp → ax_O} (hk34 : ∀ (x0 : Option Nat) (x1 : Int32) (x2 : Int32) (x3 : Int32) (h : ax_Hp), ax_W G p l e s mi args below meth c 6 (d + 1) h0 34 [(0, ax_A x0), (1, ax_I x1), (2, ax_I x2), (3, ax_I x3)] [] h (k34 x0 x1 x2 x3 h)) (x0 : Option Nat) (x1 : Int32) (x2 : Int32) (x3 : Int32) (h : ax_Hp) : ax_W G p l e s mi args below meth c 6 (d + 1) h0 34 [(0, ax_A x0), (1, ax_I x1), (2, ax_I x2), (3, ax_I x3)] [] h (SchemaReader_readBranches_bd34 call  k34 x0 x1 x2 x3 h) := by
  unfold SchemaReader_readBranches_bd34
  refine ax_iload_n B 3 d_SchemaReader_readBranches_34 rfl rfl ?_
  refine ax_iconst (v := 4) B d_SchemaReader_readBranches_35 (by decide) ?_
  refine ax_icmp_gt B 144 d_SchemaReader_readBranches_36 (by decide) ?_ ?_
  · refine ax_iconst (v := 0) B d_SchemaReader_readBranches_144 (by decide) ?_
    exact ax_zreturn B d_SchemaReader_readBranches_145
  · refine ax_aload_n B 0 d_SchemaReader_readBranches_39 rfl rfl ?_
    refine ax_getfr B cl_SchemaReader (by decide) fk_SchemaReader_9 d_SchemaReader_readBranches_40 (fun v9 => ?_)
    refine ax_callVi (av := []) (rest := []) B E hm_Cursor_at cl_Cursor rfl wd_302 wd_303 lk_SchemaReader_48 d_SchemaReader_readBranches_43 rfl (Nat.le_of_ble_eq_true rfl) (fun _ _ hh => hcall 27 _ _ _ _ hh) (fun v11 h10 => ?_)
    refine ax_istore (tv2 := [(4, ax_I v11), (0, ax_A x0), (1, ax_I x1), (2, ax_I x2), (3, ax_I x3)]) B d_SchemaReader_readBranches_46 (by decide) rfl ?_
    refine ax_aload_n B 1 d_SchemaReader_readBranches_48 rfl rfl ?_
    refine ax_getfr B cl_SchemaReader (by decide) fk_SchemaReader_9 d_SchemaReader_readBranches_49 (fun v12 => ?_)
    refine ax_callVi (av := []) (rest := []) B E hm_Cursor_peek cl_Cursor rfl wd_310 wd_311 lk_SchemaReader_59 d_SchemaReader_readBranches_52 rfl (Nat.le_of_ble_eq_true rfl) (fun _ _ hh => hcall 29 _ _ _ _ hh) (fun v14 h13 => ?_)
    refine ax_callSi (av := [ax_I v14]) (rest := []) B E hm_Desk_capitalBit wd_344 lk_SchemaReader_84 d_SchemaReader_readBranches_55 rfl (Nat.le_of_ble_eq_true rfl) (fun _ _ hh => hcall 38 _ _ _ _ hh) (fun v16 h15 => ?_)
    refine ax_istore (tv2 := [(5, ax_I v16), (4, ax_I v11), (0, ax_A x0), (1, ax_I x1), (2, ax_I x2), (3, ax_I x3)]) B d_SchemaReader_readBranches_58 (by decide) rfl ?_
    refine ax_iload_n B 4 d_SchemaReader_readBranches_60 rfl rfl ?_
    refine ax_iload B 0 d_SchemaReader_readBranches_61 rfl ?_
    refine ax_iand B d_SchemaReader_readBranches_63 ?_
    refine ax_if_ne B 77 d_SchemaReader_readBranches_64 (by decide) ?_ ?_
    · refine ax_iconst (v := 0) B d_SchemaReader_readBranches_77 (by decide) ?_
      exact ax_zreturn B d_SchemaReader_readBranches_78
    · refine ax_aload_n B 2 d_SchemaReader_readBranches_67 rfl rfl ?_
      refine ax_iload_n B 3 d_SchemaReader_readBranches_68 rfl rfl ?_
      refine ax_iconst (v := 1) B d_SchemaReader_readBranches_69 (by decide) ?_
      refine ax_iadd B d_SchemaReader_readBranches_70 ?_
      refine ax_callVi (av := [ax_I (x1 + 1)]) (rest := []) B E hm_SchemaReader_readType cl_SchemaReader rfl wd_299 wp_2 lk_SchemaReader_38 d_SchemaReader_readBranches_71 rfl (Nat.le_of_ble_eq_true rfl) (fun _ _ hh => hcall 26 _ _ _ _ hh) (fun v18 h17 => ?_)
      refine ax_if_ne B 79 d_SchemaReader_readBranches_74 (by decide) ?_ ?_
      · refine ax_iload_n B 4 d_SchemaReader_readBranches_79 rfl rfl ?_
        refine ax_iload B 0 d_SchemaReader_readBranches_80 rfl ?_
        refine ax_ior B d_SchemaReader_readBranches_82 ?_
        refine ax_istore_n (tv2 := [(2, ax_I (x2 ||| v16)), (5, ax_I v16), (4, ax_I v11), (0, ax_A x0), (1, ax_I x1), (3, ax_I x3)]) B d_SchemaReader_readBranches_83 rfl (by decide) rfl ?_
        refine ax_iload_n B 5 d_SchemaReader_readBranches_84 rfl rfl ?_
        refine ax_iconst (v := 2) B d_SchemaReader_readBranches_85 (by decide) ?_
        refine ax_icmp_lt B 103 d_SchemaReader_readBranches_86 (by decide) ?_ ?_
        · refine ax_iload_n B 5 d_SchemaReader_readBranches_103 rfl rfl ?_
          refine ax_iconst (v := 4) B d_SchemaReader_readBranches_104 (by decide) ?_
          refine ax_icmp_eq B 120 d_SchemaReader_readBranches_105 (by decide) ?_ ?_
          · refine ax_iconst (v := 0) B d_SchemaReader_readBranches_120 (by decide) ?_
            exact ax_zreturn B d_SchemaReader_readBranches_121
          · refine ax_aload_n B 3 d_SchemaReader_readBranches_108 rfl rfl ?_
            refine ax_getfr B cl_SchemaReader (by decide) fk_SchemaReader_9 d_SchemaReader_readBranches_109 (fun v19 => ?_)
            refine ax_bipush (v := 44) B d_SchemaReader_readBranches_112 (by decide) ?_
            refine ax_callVi (av := [ax_I 44]) (rest := []) B E hm_Cursor_take cl_Cursor rfl wd_314 wd_315 lk_SchemaReader_62 d_SchemaReader_readBranches_114 rfl (Nat.le_of_ble_eq_true rfl) (fun _ _ hh => hcall 30 _ _ _ _ hh) (fun v21 h20 => ?_)
            refine ax_if_ne B 122 d_SchemaReader_readBranches_117 (by decide) ?_ ?_
            · refine ax_aload_n B 3 d_SchemaReader_readBranches_122 rfl rfl ?_
              refine ax_getfr B cl_SchemaReader (by decide) fk_SchemaReader_15 d_SchemaReader_readBranches_123 (fun v22 => ?_)
              refine ax_iload B 2 d_SchemaReader_readBranches_126 rfl ?_
              refine ax_aload_n B 3 d_SchemaReader_readBranches_128 rfl rfl ?_
              refine ax_getfr B cl_SchemaReader (by decide) fk_SchemaReader_9 d_SchemaReader_readBranches_129 (fun v23 => ?_)
              refine ax_callVi (av := []) (rest := [ax_I v11, ax_A v22]) B E hm_Cursor_at cl_Cursor rfl wd_302 wd_303 lk_SchemaReader_48 d_SchemaReader_readBranches_132 rfl (Nat.le_of_ble_eq_true rfl) (fun _ _ hh => hcall 27 _ _ _ _ hh) (fun v25 h24 => ?_)
              refine ax_callVv (av := [ax_I v11, ax_I v25]) (rest := []) B E hm_Schema_markNext cl_Schema rfl wd_347 wd_348 lk_SchemaReader_87 d_SchemaReader_readBranches_135 rfl (Nat.le_of_ble_eq_true rfl) (fun _ _ hh => hcall 39 _ _ _ _ hh) (fun h26 => ?_)
              refine ax_iinc (v := x3 + 1) (tv2 := [(3, ax_I (x3 + 1)), (2, ax_I (x2 ||| v16)), (5, ax_I v16), (4, ax_I v11), (0, ax_A x0), (1, ax_I x1)]) B 5 d_SchemaReader_readBranches_138 rfl (congrArg (_ + ·) (by decide)) (by decide) rfl ?_
              refine ax_goto B 34 d_SchemaReader_readBranches_141 (by decide) ?_
              refine ax_sub (tv2 := [(0, ax_A x0), (1, ax_I x1), (2, ax_I (x2 ||| v16)), (3, ax_I (x3 + 1))]) [4, 5, 1, 0] rfl ?_
              exact hk34 x0 x1 (x2 ||| v16) (x3 + 1) h26
            · refine ax_iconst (v := 0) B d_SchemaReader_readBranches_120 (by decide) ?_
              exact ax_zreturn B d_SchemaReader_readBranches_121
        · refine ax_aload_n B 3 d_SchemaReader_readBranches_89 rfl rfl ?_
          refine ax_getfr B cl_SchemaReader (by decide) fk_SchemaReader_9 d_SchemaReader_readBranches_90 (fun v28 => ?_)
          refine ax_bipush (v := 41) B d_SchemaReader_readBranches_93 (by decide) ?_
          refine ax_callVi (av := [ax_I 41]) (rest := []) B E hm_Cursor_take cl_Cursor rfl wd_314 wd_315 lk_SchemaReader_62 d_SchemaReader_readBranches_95 rfl (Nat.le_of_ble_eq_true rfl) (fun _ _ hh => hcall 30 _ _ _ _ hh) (fun v30 h29 => ?_)
          refine ax_if_eq B 103 d_SchemaReader_readBranches_98 (by decide) ?_ ?_
          · refine ax_iload_n B 5 d_SchemaReader_readBranches_103 rfl rfl ?_
            refine ax_iconst (v := 4) B d_SchemaReader_readBranches_104 (by decide) ?_
            refine ax_icmp_eq B 120 d_SchemaReader_readBranches_105 (by decide) ?_ ?_
            · refine ax_iconst (v := 0) B d_SchemaReader_readBranches_120 (by decide) ?_
              exact ax_zreturn B d_SchemaReader_readBranches_121
            · refine ax_aload_n B 3 d_SchemaReader_readBranches_108 rfl rfl ?_
              refine ax_getfr B cl_SchemaReader (by decide) fk_SchemaReader_9 d_SchemaReader_readBranches_109 (fun v31 => ?_)
              refine ax_bipush (v := 44) B d_SchemaReader_readBranches_112 (by decide) ?_
              refine ax_callVi (av := [ax_I 44]) (rest := []) B E hm_Cursor_take cl_Cursor rfl wd_314 wd_315 lk_SchemaReader_62 d_SchemaReader_readBranches_114 rfl (Nat.le_of_ble_eq_true rfl) (fun _ _ hh => hcall 30 _ _ _ _ hh) (fun v33 h32 => ?_)
              refine ax_if_ne B 122 d_SchemaReader_readBranches_117 (by decide) ?_ ?_
              · refine ax_aload_n B 3 d_SchemaReader_readBranches_122 rfl rfl ?_
                refine ax_getfr B cl_SchemaReader (by decide) fk_SchemaReader_15 d_SchemaReader_readBranches_123 (fun v34 => ?_)
                refine ax_iload B 2 d_SchemaReader_readBranches_126 rfl ?_
                refine ax_aload_n B 3 d_SchemaReader_readBranches_128 rfl rfl ?_
                refine ax_getfr B cl_SchemaReader (by decide) fk_SchemaReader_9 d_SchemaReader_readBranches_129 (fun v35 => ?_)
                refine ax_callVi (av := []) (rest := [ax_I v11, ax_A v34]) B E hm_Cursor_at cl_Cursor rfl wd_302 wd_303 lk_SchemaReader_48 d_SchemaReader_readBranches_132 rfl (Nat.le_of_ble_eq_true rfl) (fun _ _ hh => hcall 27 _ _ _ _ hh) (fun v37 h36 => ?_)
                refine ax_callVv (av := [ax_I v11, ax_I v37]) (rest := []) B E hm_Schema_markNext cl_Schema rfl wd_347 wd_348 lk_SchemaReader_87 d_SchemaReader_readBranches_135 rfl (Nat.le_of_ble_eq_true rfl) (fun _ _ hh => hcall 39 _ _ _ _ hh) (fun h38 => ?_)
                refine ax_iinc (v := x3 + 1) (tv2 := [(3, ax_I (x3 + 1)), (2, ax_I (x2 ||| v16)), (5, ax_I v16), (4, ax_I v11), (0, ax_A x0), (1, ax_I x1)]) B 5 d_SchemaReader_readBranches_138 rfl (congrArg (_ + ·) (by decide)) (by decide) rfl ?_
                refine ax_goto B 34 d_SchemaReader_readBranches_141 (by decide) ?_
                refine ax_sub (tv2 := [(0, ax_A x0), (1, ax_I x1), (2, ax_I (x2 ||| v16)), (3, ax_I (x3 + 1))]) [4, 5, 1, 0] rfl ?_
                exact hk34 x0 x1 (x2 ||| v16) (x3 + 1) h38
              · refine ax_iconst (v := 0) B d_SchemaReader_readBranches_120 (by decide) ?_
                exact ax_zreturn B d_SchemaReader_readBranches_121
          · refine ax_iconst (v := 1) B d_SchemaReader_readBranches_101 (by decide) ?_
            exact ax_zreturn B d_SchemaReader_readBranches_102
      · refine ax_iconst (v := 0) B d_SchemaReader_readBranches_77 (by decide) ?_
        exact ax_zreturn B d_SchemaReader_readBranches_78
theorem SchemaReader_readBranches_lq34 {l : Launch} {G : ax_G} {d : Nat} {call : ax_Cf} (hcall : ax_Hc l G d call) {p : Program} {e : Env} {s : State} {mi : MethodId} {args : Array Value} {below : List Frame} {meth : Method} {c : Code} {h0 : ax_Hp} (B : ax_B G p s mi meth c "SchemaDesk$SchemaReader" prog_7_method_7_code 6 (some (.boolean))) (E : c.exceptionTable.isEmpty = true) (Nm : meth.name = y_SchemaReader_readBranches.name)   : ∀ (n : Nat) (x0 : Option Nat) (x1 : Int32) (x2 : Int32) (x3 : Int32) (h : ax_Hp), ax_W G p l e s mi args below meth c 6 (d + 1) h0 34 [(0, ax_A x0), (1, ax_I x1), (2, ax_I x2), (3, ax_I x3)] [] h (SchemaReader_readBranches_lp34 call  n x0 x1 x2 x3 h)
  | 0, _, _, _, _, _ => ax_none
  | n + 1, x0, x1, x2, x3, h => SchemaReader_readBranches_lb34 hcall B E Nm   (SchemaReader_readBranches_lq34 hcall B E Nm   n) x0 x1 x2 x3 h
def SchemaReader_readBranches_b (call : ax_Cf) (x0 : Option Nat) (x1 : Int32) (h : ax_Hp) : ax_O :=
  (ax_gr h x0 4 0).bind fun v1 =>
  ax_on h v1 0 <| ax_ci (call 30 [ax_A v1, ax_I 85] h) fun v3 h2 =>
  if v3 = 0 then
    ax_rz 0 h2
  else
    (ax_gr h2 x0 4 0).bind fun v4 =>
    ax_on h2 v4 0 <| ax_ci (call 30 [ax_A v4, ax_I 40] h2) fun v6 h5 =>
    if v6 = 0 then
      ax_rz 0 h5
    else
      ax_ci (call 38 [ax_I 85] h5) fun v8 h7 =>
      SchemaReader_readBranches_lp34 call ax_fuel x0 x1 v8 1 h7
set_option maxHeartbeats 4000000 in
set_option maxRecDepth 20000 in
theorem SchemaReader_readBranches_t {l : Launch} {G : ax_G} {d : Nat} {call : ax_Cf} (hcall : ax_Hc l G d call) (x0 : Option Nat) (x1 : Int32) (h : ax_Hp) {r : ax_Rs} {h' : ax_Hp} (ho : SchemaReader_readBranches_b call x0 x1 h = some (r, h')) : ax_C l G (d + 1) y_SchemaReader_readBranches (.code y_SchemaReader_readBranches prog_7_method_7_code 6 (some (.boolean))) [ax_A x0, ax_I x1] h r h' := by
  refine ax_enter (by decide) (Nat.le_of_ble_eq_true rfl) ho (fun p e s mi args below meth c B E Nm => ?_)
  have B : ax_B G p s mi meth c "SchemaDesk$SchemaReader" prog_7_method_7_code 6 (some (.boolean)) := B
  show ax_W G p l e s mi args below meth c 6 (d + 1) h 0 [(0, ax_A x0), (1, ax_I x1)] [] h (SchemaReader_readBranches_b call x0 x1 h)
  unfold SchemaReader_readBranches_b
  refine ax_aload_n B 0 d_SchemaReader_readBranches_0 rfl rfl ?_
  refine ax_getfr B cl_SchemaReader (by decide) fk_SchemaReader_9 d_SchemaReader_readBranches_1 (fun v1 => ?_)
  refine ax_bipush (v := 85) B d_SchemaReader_readBranches_4 (by decide) ?_
  refine ax_callVi (av := [ax_I 85]) (rest := []) B E hm_Cursor_take cl_Cursor rfl wd_314 wd_315 lk_SchemaReader_62 d_SchemaReader_readBranches_6 rfl (Nat.le_of_ble_eq_true rfl) (fun _ _ hh => hcall 30 _ _ _ _ hh) (fun v3 h2 => ?_)
  refine ax_if_eq B 24 d_SchemaReader_readBranches_9 (by decide) ?_ ?_
  · refine ax_iconst (v := 0) B d_SchemaReader_readBranches_24 (by decide) ?_
    exact ax_zreturn B d_SchemaReader_readBranches_25
  · refine ax_aload_n B 0 d_SchemaReader_readBranches_12 rfl rfl ?_
    refine ax_getfr B cl_SchemaReader (by decide) fk_SchemaReader_9 d_SchemaReader_readBranches_13 (fun v4 => ?_)
    refine ax_bipush (v := 40) B d_SchemaReader_readBranches_16 (by decide) ?_
    refine ax_callVi (av := [ax_I 40]) (rest := []) B E hm_Cursor_take cl_Cursor rfl wd_314 wd_315 lk_SchemaReader_62 d_SchemaReader_readBranches_18 rfl (Nat.le_of_ble_eq_true rfl) (fun _ _ hh => hcall 30 _ _ _ _ hh) (fun v6 h5 => ?_)
    refine ax_if_ne B 26 d_SchemaReader_readBranches_21 (by decide) ?_ ?_
    · refine ax_bipush (v := 85) B d_SchemaReader_readBranches_26 (by decide) ?_
      refine ax_callSi (av := [ax_I 85]) (rest := []) B E hm_Desk_capitalBit wd_344 lk_SchemaReader_84 d_SchemaReader_readBranches_28 rfl (Nat.le_of_ble_eq_true rfl) (fun _ _ hh => hcall 38 _ _ _ _ hh) (fun v8 h7 => ?_)
      refine ax_istore_n (tv2 := [(2, ax_I v8), (0, ax_A x0), (1, ax_I x1)]) B d_SchemaReader_readBranches_31 rfl (by decide) rfl ?_
      refine ax_iconst (v := 1) B d_SchemaReader_readBranches_32 (by decide) ?_
      refine ax_istore_n (tv2 := [(3, ax_I 1), (2, ax_I v8), (0, ax_A x0), (1, ax_I x1)]) B d_SchemaReader_readBranches_33 rfl (by decide) rfl ?_
      refine ax_sub (tv2 := [(0, ax_A x0), (1, ax_I x1), (2, ax_I v8), (3, ax_I 1)]) [2, 3, 1, 0] rfl ?_
      exact SchemaReader_readBranches_lq34 hcall B E Nm ax_fuel x0 x1 v8 1 h7
    · refine ax_iconst (v := 0) B d_SchemaReader_readBranches_24 (by decide) ?_
      exact ax_zreturn B d_SchemaReader_readBranches_25

theorem d_SchemaReader_readFields_0 : decode prog_7_method_8_code 0 = .ok (.aload_n 0, 1) := by decide +kernel
theorem d_SchemaReader_readFields_1 : decode prog_7_method_8_code 1 = .ok (.getfield 9, 3) := by decide +kernel
theorem d_SchemaReader_readFields_4 : decode prog_7_method_8_code 4 = .ok (.bipush 82, 2) := by decide +kernel
theorem d_SchemaReader_readFields_6 : decode prog_7_method_8_code 6 = .ok (.invokevirtual 62, 3) := by decide +kernel
theorem d_SchemaReader_readFields_9 : decode prog_7_method_8_code 9 = .ok (.ifCond .eq 15, 3) := by decide +kernel
theorem d_SchemaReader_readFields_12 : decode prog_7_method_8_code 12 = .ok (.aload_n 0, 1) := by decide +kernel
theorem d_SchemaReader_readFields_13 : decode prog_7_method_8_code 13 = .ok (.getfield 9, 3) := by decide +kernel
theorem d_SchemaReader_readFields_16 : decode prog_7_method_8_code 16 = .ok (.bipush 40, 2) := by decide +kernel
theorem d_SchemaReader_readFields_18 : decode prog_7_method_8_code 18 = .ok (.invokevirtual 62, 3) := by decide +kernel
theorem d_SchemaReader_readFields_21 : decode prog_7_method_8_code 21 = .ok (.ifCond .ne 5, 3) := by decide +kernel
theorem d_SchemaReader_readFields_24 : decode prog_7_method_8_code 24 = .ok (.iconst 0, 1) := by decide +kernel
theorem d_SchemaReader_readFields_25 : decode prog_7_method_8_code 25 = .ok (.ireturn, 1) := by decide +kernel
theorem d_SchemaReader_readFields_26 : decode prog_7_method_8_code 26 = .ok (.iconst 0, 1) := by decide +kernel
theorem d_SchemaReader_readFields_27 : decode prog_7_method_8_code 27 = .ok (.istore_n 2, 1) := by decide +kernel
theorem d_SchemaReader_readFields_28 : decode prog_7_method_8_code 28 = .ok (.iconst 1, 1) := by decide +kernel
theorem d_SchemaReader_readFields_29 : decode prog_7_method_8_code 29 = .ok (.istore_n 3, 1) := by decide +kernel
theorem d_SchemaReader_readFields_30 : decode prog_7_method_8_code 30 = .ok (.iload_n 3, 1) := by decide +kernel
theorem d_SchemaReader_readFields_31 : decode prog_7_method_8_code 31 = .ok (.bipush 6, 2) := by decide +kernel
theorem d_SchemaReader_readFields_33 : decode prog_7_method_8_code 33 = .ok (.if_icmp .gt 116, 3) := by decide +kernel
theorem d_SchemaReader_readFields_36 : decode prog_7_method_8_code 36 = .ok (.aload_n 0, 1) := by decide +kernel
theorem d_SchemaReader_readFields_37 : decode prog_7_method_8_code 37 = .ok (.getfield 9, 3) := by decide +kernel
theorem d_SchemaReader_readFields_40 : decode prog_7_method_8_code 40 = .ok (.invokevirtual 48, 3) := by decide +kernel
theorem d_SchemaReader_readFields_43 : decode prog_7_method_8_code 43 = .ok (.istore 4, 2) := by decide +kernel
theorem d_SchemaReader_readFields_45 : decode prog_7_method_8_code 45 = .ok (.aload_n 0, 1) := by decide +kernel
theorem d_SchemaReader_readFields_46 : decode prog_7_method_8_code 46 = .ok (.getfield 9, 3) := by decide +kernel
theorem d_SchemaReader_readFields_49 : decode prog_7_method_8_code 49 = .ok (.invokevirtual 59, 3) := by decide +kernel
theorem d_SchemaReader_readFields_52 : decode prog_7_method_8_code 52 = .ok (.invokestatic 74, 3) := by decide +kernel
theorem d_SchemaReader_readFields_55 : decode prog_7_method_8_code 55 = .ok (.istore 5, 2) := by decide +kernel
theorem d_SchemaReader_readFields_57 : decode prog_7_method_8_code 57 = .ok (.iload 5, 2) := by decide +kernel
theorem d_SchemaReader_readFields_59 : decode prog_7_method_8_code 59 = .ok (.ifCond .eq 10, 3) := by decide +kernel
theorem d_SchemaReader_readFields_62 : decode prog_7_method_8_code 62 = .ok (.iload_n 2, 1) := by decide +kernel
theorem d_SchemaReader_readFields_63 : decode prog_7_method_8_code 63 = .ok (.iload 5, 2) := by decide +kernel
theorem d_SchemaReader_readFields_65 : decode prog_7_method_8_code 65 = .ok (.iand, 1) := by decide +kernel
theorem d_SchemaReader_readFields_66 : decode prog_7_method_8_code 66 = .ok (.ifCond .eq 5, 3) := by decide +kernel
theorem d_SchemaReader_readFields_69 : decode prog_7_method_8_code 69 = .ok (.iconst 0, 1) := by decide +kernel
theorem d_SchemaReader_readFields_70 : decode prog_7_method_8_code 70 = .ok (.ireturn, 1) := by decide +kernel
theorem d_SchemaReader_readFields_71 : decode prog_7_method_8_code 71 = .ok (.iload_n 2, 1) := by decide +kernel
theorem d_SchemaReader_readFields_72 : decode prog_7_method_8_code 72 = .ok (.iload 5, 2) := by decide +kernel
theorem d_SchemaReader_readFields_74 : decode prog_7_method_8_code 74 = .ok (.ior, 1) := by decide +kernel
theorem d_SchemaReader_readFields_75 : decode prog_7_method_8_code 75 = .ok (.istore_n 2, 1) := by decide +kernel
theorem d_SchemaReader_readFields_76 : decode prog_7_method_8_code 76 = .ok (.aload_n 0, 1) := by decide +kernel
theorem d_SchemaReader_readFields_77 : decode prog_7_method_8_code 77 = .ok (.getfield 9, 3) := by decide +kernel
theorem d_SchemaReader_readFields_80 : decode prog_7_method_8_code 80 = .ok (.invokevirtual 78, 3) := by decide +kernel
theorem d_SchemaReader_readFields_83 : decode prog_7_method_8_code 83 = .ok (.aload_n 0, 1) := by decide +kernel
theorem d_SchemaReader_readFields_84 : decode prog_7_method_8_code 84 = .ok (.iload_n 1, 1) := by decide +kernel
theorem d_SchemaReader_readFields_85 : decode prog_7_method_8_code 85 = .ok (.invokevirtual 90, 3) := by decide +kernel
theorem d_SchemaReader_readFields_88 : decode prog_7_method_8_code 88 = .ok (.ifCond .ne 5, 3) := by decide +kernel
theorem d_SchemaReader_readFields_91 : decode prog_7_method_8_code 91 = .ok (.iconst 0, 1) := by decide +kernel
theorem d_SchemaReader_readFields_92 : decode prog_7_method_8_code 92 = .ok (.ireturn, 1) := by decide +kernel
theorem d_SchemaReader_readFields_93 : decode prog_7_method_8_code 93 = .ok (.aload_n 0, 1) := by decide +kernel
theorem d_SchemaReader_readFields_94 : decode prog_7_method_8_code 94 = .ok (.getfield 9, 3) := by decide +kernel
theorem d_SchemaReader_readFields_97 : decode prog_7_method_8_code 97 = .ok (.bipush 41, 2) := by decide +kernel
theorem d_SchemaReader_readFields_99 : decode prog_7_method_8_code 99 = .ok (.invokevirtual 62, 3) := by decide +kernel
theorem d_SchemaReader_readFields_102 : decode prog_7_method_8_code 102 = .ok (.ifCond .eq 5, 3) := by decide +kernel
theorem d_SchemaReader_readFields_105 : decode prog_7_method_8_code 105 = .ok (.iconst 1, 1) := by decide +kernel
theorem d_SchemaReader_readFields_106 : decode prog_7_method_8_code 106 = .ok (.ireturn, 1) := by decide +kernel
theorem d_SchemaReader_readFields_107 : decode prog_7_method_8_code 107 = .ok (.iload_n 3, 1) := by decide +kernel
theorem d_SchemaReader_readFields_108 : decode prog_7_method_8_code 108 = .ok (.bipush 6, 2) := by decide +kernel
theorem d_SchemaReader_readFields_110 : decode prog_7_method_8_code 110 = .ok (.if_icmp .eq 15, 3) := by decide +kernel
theorem d_SchemaReader_readFields_113 : decode prog_7_method_8_code 113 = .ok (.aload_n 0, 1) := by decide +kernel
theorem d_SchemaReader_readFields_114 : decode prog_7_method_8_code 114 = .ok (.getfield 9, 3) := by decide +kernel
theorem d_SchemaReader_readFields_117 : decode prog_7_method_8_code 117 = .ok (.bipush 44, 2) := by decide +kernel
theorem d_SchemaReader_readFields_119 : decode prog_7_method_8_code 119 = .ok (.invokevirtual 62, 3) := by decide +kernel
theorem d_SchemaReader_readFields_122 : decode prog_7_method_8_code 122 = .ok (.ifCond .ne 5, 3) := by decide +kernel
theorem d_SchemaReader_readFields_125 : decode prog_7_method_8_code 125 = .ok (.iconst 0, 1) := by decide +kernel
theorem d_SchemaReader_readFields_126 : decode prog_7_method_8_code 126 = .ok (.ireturn, 1) := by decide +kernel
theorem d_SchemaReader_readFields_127 : decode prog_7_method_8_code 127 = .ok (.aload_n 0, 1) := by decide +kernel
theorem d_SchemaReader_readFields_128 : decode prog_7_method_8_code 128 = .ok (.getfield 15, 3) := by decide +kernel
theorem d_SchemaReader_readFields_131 : decode prog_7_method_8_code 131 = .ok (.iload 4, 2) := by decide +kernel
theorem d_SchemaReader_readFields_133 : decode prog_7_method_8_code 133 = .ok (.aload_n 0, 1) := by decide +kernel
theorem d_SchemaReader_readFields_134 : decode prog_7_method_8_code 134 = .ok (.getfield 9, 3) := by decide +kernel
theorem d_SchemaReader_readFields_137 : decode prog_7_method_8_code 137 = .ok (.invokevirtual 48, 3) := by decide +kernel
theorem d_SchemaReader_readFields_140 : decode prog_7_method_8_code 140 = .ok (.invokevirtual 87, 3) := by decide +kernel
theorem d_SchemaReader_readFields_143 : decode prog_7_method_8_code 143 = .ok (.iinc 3 1, 3) := by decide +kernel
theorem d_SchemaReader_readFields_146 : decode prog_7_method_8_code 146 = .ok (.goto (-116), 3) := by decide +kernel
theorem d_SchemaReader_readFields_149 : decode prog_7_method_8_code 149 = .ok (.iconst 0, 1) := by decide +kernel
theorem d_SchemaReader_readFields_150 : decode prog_7_method_8_code 150 = .ok (.ireturn, 1) := by decide +kernel
def SchemaReader_readFields_bd30 (call : ax_Cf)  (k30 : Option Nat → Int32 → Int32 → Int32 → ax_Hp → ax_O) (x0 : Option Nat) (x1 : Int32) (x2 : Int32) (x3 : Int32) (h : ax_Hp) : ax_O :=
  if 6 < x3 then
    ax_rz 0 h
  else
    (ax_gr h x0 4 0).bind fun v7 =>
    ax_on h v7 0 <| ax_ci (call 27 [ax_A v7] h) fun v9 h8 =>
    (ax_gr h8 x0 4 0).bind fun v10 =>
    ax_on h8 v10 0 <| ax_ci (call 29 [ax_A v10] h8) fun v12 h11 =>
    ax_ci (call 32 [ax_I v12] h11) fun v14 h13 =>
    if v14 = 0 then
      ax_rz 0 h13
    else
      if (x2 &&& v14) = 0 then
        (ax_gr h13 x0 4 0).bind fun v15 =>
        ax_on h13 v15 0 <| ax_cv (call 34 [ax_A v15] h13) fun h16 =>
        ax_on h16 x0 4 <| ax_ci (call 41 [ax_A x0, ax_I x1] h16) fun v19 h18 =>
        if v19 = 0 then
          ax_rz 0 h18
        else
          (ax_gr h18 x0 4 0).bind fun v20 =>
          ax_on h18 v20 0 <| ax_ci (call 30 [ax_A v20, ax_I 41] h18) fun v22 h21 =>
          if v22 = 0 then
            if x3 = 6 then
              ax_rz 0 h21
            else
              (ax_gr h21 x0 4 0).bind fun v23 =>
              ax_on h21 v23 0 <| ax_ci (call 30 [ax_A v23, ax_I 44] h21) fun v25 h24 =>
              if v25 = 0 then
                ax_rz 0 h24
              else
                (ax_gr h24 x0 4 1).bind fun v26 =>
                (ax_gr h24 x0 4 0).bind fun v27 =>
                ax_on h24 v27 0 <| ax_ci (call 27 [ax_A v27] h24) fun v29 h28 =>
                ax_on h28 v26 3 <| ax_cv (call 39 [ax_A v26, ax_I v9, ax_I v29] h28) fun h30 =>
                k30 x0 x1 (x2 ||| v14) (x3 + 1) h30
          else
            ax_rz 1 h21
      else
        ax_rz 0 h13
def SchemaReader_readFields_lp30 (call : ax_Cf)  : Nat → Option Nat → Int32 → Int32 → Int32 → ax_Hp → ax_O
  | 0 => fun _ _ _ _ _ => none
  | n + 1 => SchemaReader_readFields_bd30 call  (SchemaReader_readFields_lp30 call  n)
set_option maxHeartbeats 4000000 in
set_option maxRecDepth 20000 in
theorem SchemaReader_readFields_lb30 {l : Launch} {G : ax_G} {d : Nat} {call : ax_Cf} (hcall : ax_Hc l G d call) {p : Program} {e : Env} {s : State} {mi : MethodId} {args : Array Value} {below : List Frame} {meth : Method} {c : Code} {h0 : ax_Hp} (B : ax_B G p s mi meth c "SchemaDesk$SchemaReader" prog_7_method_8_code 6 (some (.boolean))) (E : c.exceptionTable.isEmpty = true) (Nm : meth.name = y_SchemaReader_readFields.name)   {k30 : Option Nat → Int32 → Int32 → Int32 → ax_Hp → ax_O} (hk30 : ∀ (x0 : Option Nat) (x1 : Int32) (x2 : Int32) (x3 : Int32) (h : ax_Hp), ax_W G p l e s mi args below meth c 6 (d + 1) h0 30 [(0, ax_A x0), (1, ax_I x1), (2, ax_I x2), (3, ax_I x3)] [] h (k30 x0 x1 x2 x3 h)) (x0 : Option Nat) (x1 : Int32) (x2 : Int32) (x3 : Int32) (h : ax_Hp) : ax_W G p l e s mi args below meth c 6 (d + 1) h0 30 [(0, ax_A x0), (1, ax_I x1), (2, ax_I x2), (3, ax_I x3)] [] h (SchemaReader_readFields_bd30 call  k30 x0 x1 x2 x3 h) := by
  unfold SchemaReader_readFields_bd30
  refine ax_iload_n B 3 d_SchemaReader_readFields_30 rfl rfl ?_
  refine ax_bipush (v := 6) B d_SchemaReader_readFields_31 (by decide) ?_
  refine ax_icmp_gt B 149 d_SchemaReader_readFields_33 (by decide) ?_ ?_
  · refine ax_iconst (v := 0) B d_SchemaReader_readFields_149 (by decide) ?_
    exact ax_zreturn B d_SchemaReader_readFields_150
  · refine ax_aload_n B 0 d_SchemaReader_readFields_36 rfl rfl ?_
    refine ax_getfr B cl_SchemaReader (by decide) fk_SchemaReader_9 d_SchemaReader_readFields_37 (fun v7 => ?_)
    refine ax_callVi (av := []) (rest := []) B E hm_Cursor_at cl_Cursor rfl wd_302 wd_303 lk_SchemaReader_48 d_SchemaReader_readFields_40 rfl (Nat.le_of_ble_eq_true rfl) (fun _ _ hh => hcall 27 _ _ _ _ hh) (fun v9 h8 => ?_)
    refine ax_istore (tv2 := [(4, ax_I v9), (0, ax_A x0), (1, ax_I x1), (2, ax_I x2), (3, ax_I x3)]) B d_SchemaReader_readFields_43 (by decide) rfl ?_
    refine ax_aload_n B 1 d_SchemaReader_readFields_45 rfl rfl ?_
    refine ax_getfr B cl_SchemaReader (by decide) fk_SchemaReader_9 d_SchemaReader_readFields_46 (fun v10 => ?_)
    refine ax_callVi (av := []) (rest := []) B E hm_Cursor_peek cl_Cursor rfl wd_310 wd_311 lk_SchemaReader_59 d_SchemaReader_readFields_49 rfl (Nat.le_of_ble_eq_true rfl) (fun _ _ hh => hcall 29 _ _ _ _ hh) (fun v12 h11 => ?_)
    refine ax_callSi (av := [ax_I v12]) (rest := []) B E hm_Desk_smallLetterBit wd_322 lk_SchemaReader_74 d_SchemaReader_readFields_52 rfl (Nat.le_of_ble_eq_true rfl) (fun _ _ hh => hcall 32 _ _ _ _ hh) (fun v14 h13 => ?_)
    refine ax_istore (tv2 := [(5, ax_I v14), (4, ax_I v9), (0, ax_A x0), (1, ax_I x1), (2, ax_I x2), (3, ax_I x3)]) B d_SchemaReader_readFields_55 (by decide) rfl ?_
    refine ax_iload B 0 d_SchemaReader_readFields_57 rfl ?_
    refine ax_if_eq B 69 d_SchemaReader_readFields_59 (by decide) ?_ ?_
    · refine ax_iconst (v := 0) B d_SchemaReader_readFields_69 (by decide) ?_
      exact ax_zreturn B d_SchemaReader_readFields_70
    · refine ax_iload_n B 4 d_SchemaReader_readFields_62 rfl rfl ?_
      refine ax_iload B 0 d_SchemaReader_readFields_63 rfl ?_
      refine ax_iand B d_SchemaReader_readFields_65 ?_
      refine ax_if_eq B 71 d_SchemaReader_readFields_66 (by decide) ?_ ?_
      · refine ax_iload_n B 4 d_SchemaReader_readFields_71 rfl rfl ?_
        refine ax_iload B 0 d_SchemaReader_readFields_72 rfl ?_
        refine ax_ior B d_SchemaReader_readFields_74 ?_
        refine ax_istore_n (tv2 := [(2, ax_I (x2 ||| v14)), (5, ax_I v14), (4, ax_I v9), (0, ax_A x0), (1, ax_I x1), (3, ax_I x3)]) B d_SchemaReader_readFields_75 rfl (by decide) rfl ?_
        refine ax_aload_n B 3 d_SchemaReader_readFields_76 rfl rfl ?_
        refine ax_getfr B cl_SchemaReader (by decide) fk_SchemaReader_9 d_SchemaReader_readFields_77 (fun v15 => ?_)
        refine ax_callVv (av := []) (rest := []) B E hm_Cursor_step cl_Cursor rfl wd_328 wd_329 lk_SchemaReader_78 d_SchemaReader_readFields_80 rfl (Nat.le_of_ble_eq_true rfl) (fun _ _ hh => hcall 34 _ _ _ _ hh) (fun h16 => ?_)
        refine ax_aload_n B 3 d_SchemaReader_readFields_83 rfl rfl ?_
        refine ax_iload_n B 4 d_SchemaReader_readFields_84 rfl rfl ?_
        refine ax_callVi (av := [ax_I x1]) (rest := []) B E hm_SchemaReader_readFieldBehindName cl_SchemaReader rfl wd_356 wp_8 lk_SchemaReader_90 d_SchemaReader_readFields_85 rfl (Nat.le_of_ble_eq_true rfl) (fun _ _ hh => hcall 41 _ _ _ _ hh) (fun v19 h18 => ?_)
        refine ax_if_ne B 93 d_SchemaReader_readFields_88 (by decide) ?_ ?_
        · refine ax_aload_n B 3 d_SchemaReader_readFields_93 rfl rfl ?_
          refine ax_getfr B cl_SchemaReader (by decide) fk_SchemaReader_9 d_SchemaReader_readFields_94 (fun v20 => ?_)
          refine ax_bipush (v := 41) B d_SchemaReader_readFields_97 (by decide) ?_
          refine ax_callVi (av := [ax_I 41]) (rest := []) B E hm_Cursor_take cl_Cursor rfl wd_314 wd_315 lk_SchemaReader_62 d_SchemaReader_readFields_99 rfl (Nat.le_of_ble_eq_true rfl) (fun _ _ hh => hcall 30 _ _ _ _ hh) (fun v22 h21 => ?_)
          refine ax_if_eq B 107 d_SchemaReader_readFields_102 (by decide) ?_ ?_
          · refine ax_iload_n B 5 d_SchemaReader_readFields_107 rfl rfl ?_
            refine ax_bipush (v := 6) B d_SchemaReader_readFields_108 (by decide) ?_
            refine ax_icmp_eq B 125 d_SchemaReader_readFields_110 (by decide) ?_ ?_
            · refine ax_iconst (v := 0) B d_SchemaReader_readFields_125 (by decide) ?_
              exact ax_zreturn B d_SchemaReader_readFields_126
            · refine ax_aload_n B 3 d_SchemaReader_readFields_113 rfl rfl ?_
              refine ax_getfr B cl_SchemaReader (by decide) fk_SchemaReader_9 d_SchemaReader_readFields_114 (fun v23 => ?_)
              refine ax_bipush (v := 44) B d_SchemaReader_readFields_117 (by decide) ?_
              refine ax_callVi (av := [ax_I 44]) (rest := []) B E hm_Cursor_take cl_Cursor rfl wd_314 wd_315 lk_SchemaReader_62 d_SchemaReader_readFields_119 rfl (Nat.le_of_ble_eq_true rfl) (fun _ _ hh => hcall 30 _ _ _ _ hh) (fun v25 h24 => ?_)
              refine ax_if_ne B 127 d_SchemaReader_readFields_122 (by decide) ?_ ?_
              · refine ax_aload_n B 3 d_SchemaReader_readFields_127 rfl rfl ?_
                refine ax_getfr B cl_SchemaReader (by decide) fk_SchemaReader_15 d_SchemaReader_readFields_128 (fun v26 => ?_)
                refine ax_iload B 2 d_SchemaReader_readFields_131 rfl ?_
                refine ax_aload_n B 3 d_SchemaReader_readFields_133 rfl rfl ?_
                refine ax_getfr B cl_SchemaReader (by decide) fk_SchemaReader_9 d_SchemaReader_readFields_134 (fun v27 => ?_)
                refine ax_callVi (av := []) (rest := [ax_I v9, ax_A v26]) B E hm_Cursor_at cl_Cursor rfl wd_302 wd_303 lk_SchemaReader_48 d_SchemaReader_readFields_137 rfl (Nat.le_of_ble_eq_true rfl) (fun _ _ hh => hcall 27 _ _ _ _ hh) (fun v29 h28 => ?_)
                refine ax_callVv (av := [ax_I v9, ax_I v29]) (rest := []) B E hm_Schema_markNext cl_Schema rfl wd_347 wd_348 lk_SchemaReader_87 d_SchemaReader_readFields_140 rfl (Nat.le_of_ble_eq_true rfl) (fun _ _ hh => hcall 39 _ _ _ _ hh) (fun h30 => ?_)
                refine ax_iinc (v := x3 + 1) (tv2 := [(3, ax_I (x3 + 1)), (2, ax_I (x2 ||| v14)), (5, ax_I v14), (4, ax_I v9), (0, ax_A x0), (1, ax_I x1)]) B 5 d_SchemaReader_readFields_143 rfl (congrArg (_ + ·) (by decide)) (by decide) rfl ?_
                refine ax_goto B 30 d_SchemaReader_readFields_146 (by decide) ?_
                refine ax_sub (tv2 := [(0, ax_A x0), (1, ax_I x1), (2, ax_I (x2 ||| v14)), (3, ax_I (x3 + 1))]) [4, 5, 1, 0] rfl ?_
                exact hk30 x0 x1 (x2 ||| v14) (x3 + 1) h30
              · refine ax_iconst (v := 0) B d_SchemaReader_readFields_125 (by decide) ?_
                exact ax_zreturn B d_SchemaReader_readFields_126
          · refine ax_iconst (v := 1) B d_SchemaReader_readFields_105 (by decide) ?_
            exact ax_zreturn B d_SchemaReader_readFields_106
        · refine ax_iconst (v := 0) B d_SchemaReader_readFields_91 (by decide) ?_
          exact ax_zreturn B d_SchemaReader_readFields_92
      · refine ax_iconst (v := 0) B d_SchemaReader_readFields_69 (by decide) ?_
        exact ax_zreturn B d_SchemaReader_readFields_70
theorem SchemaReader_readFields_lq30 {l : Launch} {G : ax_G} {d : Nat} {call : ax_Cf} (hcall : ax_Hc l G d call) {p : Program} {e : Env} {s : State} {mi : MethodId} {args : Array Value} {below : List Frame} {meth : Method} {c : Code} {h0 : ax_Hp} (B : ax_B G p s mi meth c "SchemaDesk$SchemaReader" prog_7_method_8_code 6 (some (.boolean))) (E : c.exceptionTable.isEmpty = true) (Nm : meth.name = y_SchemaReader_readFields.name)   : ∀ (n : Nat) (x0 : Option Nat) (x1 : Int32) (x2 : Int32) (x3 : Int32) (h : ax_Hp), ax_W G p l e s mi args below meth c 6 (d + 1) h0 30 [(0, ax_A x0), (1, ax_I x1), (2, ax_I x2), (3, ax_I x3)] [] h (SchemaReader_readFields_lp30 call  n x0 x1 x2 x3 h)
  | 0, _, _, _, _, _ => ax_none
  | n + 1, x0, x1, x2, x3, h => SchemaReader_readFields_lb30 hcall B E Nm   (SchemaReader_readFields_lq30 hcall B E Nm   n) x0 x1 x2 x3 h
def SchemaReader_readFields_b (call : ax_Cf) (x0 : Option Nat) (x1 : Int32) (h : ax_Hp) : ax_O :=
  (ax_gr h x0 4 0).bind fun v1 =>
  ax_on h v1 0 <| ax_ci (call 30 [ax_A v1, ax_I 82] h) fun v3 h2 =>
  if v3 = 0 then
    ax_rz 0 h2
  else
    (ax_gr h2 x0 4 0).bind fun v4 =>
    ax_on h2 v4 0 <| ax_ci (call 30 [ax_A v4, ax_I 40] h2) fun v6 h5 =>
    if v6 = 0 then
      ax_rz 0 h5
    else
      SchemaReader_readFields_lp30 call ax_fuel x0 x1 0 1 h5
set_option maxHeartbeats 4000000 in
set_option maxRecDepth 20000 in
theorem SchemaReader_readFields_t {l : Launch} {G : ax_G} {d : Nat} {call : ax_Cf} (hcall : ax_Hc l G d call) (x0 : Option Nat) (x1 : Int32) (h : ax_Hp) {r : ax_Rs} {h' : ax_Hp} (ho : SchemaReader_readFields_b call x0 x1 h = some (r, h')) : ax_C l G (d + 1) y_SchemaReader_readFields (.code y_SchemaReader_readFields prog_7_method_8_code 6 (some (.boolean))) [ax_A x0, ax_I x1] h r h' := by
  refine ax_enter (by decide) (Nat.le_of_ble_eq_true rfl) ho (fun p e s mi args below meth c B E Nm => ?_)
  have B : ax_B G p s mi meth c "SchemaDesk$SchemaReader" prog_7_method_8_code 6 (some (.boolean)) := B
  show ax_W G p l e s mi args below meth c 6 (d + 1) h 0 [(0, ax_A x0), (1, ax_I x1)] [] h (SchemaReader_readFields_b call x0 x1 h)
  unfold SchemaReader_readFields_b
  refine ax_aload_n B 0 d_SchemaReader_readFields_0 rfl rfl ?_
  refine ax_getfr B cl_SchemaReader (by decide) fk_SchemaReader_9 d_SchemaReader_readFields_1 (fun v1 => ?_)
  refine ax_bipush (v := 82) B d_SchemaReader_readFields_4 (by decide) ?_
  refine ax_callVi (av := [ax_I 82]) (rest := []) B E hm_Cursor_take cl_Cursor rfl wd_314 wd_315 lk_SchemaReader_62 d_SchemaReader_readFields_6 rfl (Nat.le_of_ble_eq_true rfl) (fun _ _ hh => hcall 30 _ _ _ _ hh) (fun v3 h2 => ?_)
  refine ax_if_eq B 24 d_SchemaReader_readFields_9 (by decide) ?_ ?_
  · refine ax_iconst (v := 0) B d_SchemaReader_readFields_24 (by decide) ?_
    exact ax_zreturn B d_SchemaReader_readFields_25
  · refine ax_aload_n B 0 d_SchemaReader_readFields_12 rfl rfl ?_
    refine ax_getfr B cl_SchemaReader (by decide) fk_SchemaReader_9 d_SchemaReader_readFields_13 (fun v4 => ?_)
    refine ax_bipush (v := 40) B d_SchemaReader_readFields_16 (by decide) ?_
    refine ax_callVi (av := [ax_I 40]) (rest := []) B E hm_Cursor_take cl_Cursor rfl wd_314 wd_315 lk_SchemaReader_62 d_SchemaReader_readFields_18 rfl (Nat.le_of_ble_eq_true rfl) (fun _ _ hh => hcall 30 _ _ _ _ hh) (fun v6 h5 => ?_)
    refine ax_if_ne B 26 d_SchemaReader_readFields_21 (by decide) ?_ ?_
    · refine ax_iconst (v := 0) B d_SchemaReader_readFields_26 (by decide) ?_
      refine ax_istore_n (tv2 := [(2, ax_I 0), (0, ax_A x0), (1, ax_I x1)]) B d_SchemaReader_readFields_27 rfl (by decide) rfl ?_
      refine ax_iconst (v := 1) B d_SchemaReader_readFields_28 (by decide) ?_
      refine ax_istore_n (tv2 := [(3, ax_I 1), (2, ax_I 0), (0, ax_A x0), (1, ax_I x1)]) B d_SchemaReader_readFields_29 rfl (by decide) rfl ?_
      refine ax_sub (tv2 := [(0, ax_A x0), (1, ax_I x1), (2, ax_I 0), (3, ax_I 1)]) [2, 3, 1, 0] rfl ?_
      exact SchemaReader_readFields_lq30 hcall B E Nm ax_fuel x0 x1 0 1 h5
    · refine ax_iconst (v := 0) B d_SchemaReader_readFields_24 (by decide) ?_
      exact ax_zreturn B d_SchemaReader_readFields_25

theorem d_SchemaReader_readFieldBehindName_0 : decode prog_7_method_9_code 0 = .ok (.aload_n 0, 1) := by decide +kernel
theorem d_SchemaReader_readFieldBehindName_1 : decode prog_7_method_9_code 1 = .ok (.getfield 9, 3) := by decide +kernel
theorem d_SchemaReader_readFieldBehindName_4 : decode prog_7_method_9_code 4 = .ok (.bipush 58, 2) := by decide +kernel
theorem d_SchemaReader_readFieldBehindName_6 : decode prog_7_method_9_code 6 = .ok (.invokevirtual 62, 3) := by decide +kernel
theorem d_SchemaReader_readFieldBehindName_9 : decode prog_7_method_9_code 9 = .ok (.ifCond .ne 5, 3) := by decide +kernel
theorem d_SchemaReader_readFieldBehindName_12 : decode prog_7_method_9_code 12 = .ok (.iconst 0, 1) := by decide +kernel
theorem d_SchemaReader_readFieldBehindName_13 : decode prog_7_method_9_code 13 = .ok (.ireturn, 1) := by decide +kernel
theorem d_SchemaReader_readFieldBehindName_14 : decode prog_7_method_9_code 14 = .ok (.aload_n 0, 1) := by decide +kernel
theorem d_SchemaReader_readFieldBehindName_15 : decode prog_7_method_9_code 15 = .ok (.getfield 9, 3) := by decide +kernel
theorem d_SchemaReader_readFieldBehindName_18 : decode prog_7_method_9_code 18 = .ok (.invokevirtual 48, 3) := by decide +kernel
theorem d_SchemaReader_readFieldBehindName_21 : decode prog_7_method_9_code 21 = .ok (.istore_n 2, 1) := by decide +kernel
theorem d_SchemaReader_readFieldBehindName_22 : decode prog_7_method_9_code 22 = .ok (.aload_n 0, 1) := by decide +kernel
theorem d_SchemaReader_readFieldBehindName_23 : decode prog_7_method_9_code 23 = .ok (.iload_n 1, 1) := by decide +kernel
theorem d_SchemaReader_readFieldBehindName_24 : decode prog_7_method_9_code 24 = .ok (.iconst 1, 1) := by decide +kernel
theorem d_SchemaReader_readFieldBehindName_25 : decode prog_7_method_9_code 25 = .ok (.iadd, 1) := by decide +kernel
theorem d_SchemaReader_readFieldBehindName_26 : decode prog_7_method_9_code 26 = .ok (.invokevirtual 38, 3) := by decide +kernel
theorem d_SchemaReader_readFieldBehindName_29 : decode prog_7_method_9_code 29 = .ok (.ifCond .ne 5, 3) := by decide +kernel
theorem d_SchemaReader_readFieldBehindName_32 : decode prog_7_method_9_code 32 = .ok (.iconst 0, 1) := by decide +kernel
theorem d_SchemaReader_readFieldBehindName_33 : decode prog_7_method_9_code 33 = .ok (.ireturn, 1) := by decide +kernel
theorem d_SchemaReader_readFieldBehindName_34 : decode prog_7_method_9_code 34 = .ok (.aload_n 0, 1) := by decide +kernel
theorem d_SchemaReader_readFieldBehindName_35 : decode prog_7_method_9_code 35 = .ok (.getfield 9, 3) := by decide +kernel
theorem d_SchemaReader_readFieldBehindName_38 : decode prog_7_method_9_code 38 = .ok (.bipush 61, 2) := by decide +kernel
theorem d_SchemaReader_readFieldBehindName_40 : decode prog_7_method_9_code 40 = .ok (.invokevirtual 62, 3) := by decide +kernel
theorem d_SchemaReader_readFieldBehindName_43 : decode prog_7_method_9_code 43 = .ok (.ifCond .ne 5, 3) := by decide +kernel
theorem d_SchemaReader_readFieldBehindName_46 : decode prog_7_method_9_code 46 = .ok (.iconst 1, 1) := by decide +kernel
theorem d_SchemaReader_readFieldBehindName_47 : decode prog_7_method_9_code 47 = .ok (.ireturn, 1) := by decide +kernel
theorem d_SchemaReader_readFieldBehindName_48 : decode prog_7_method_9_code 48 = .ok (.aload_n 0, 1) := by decide +kernel
theorem d_SchemaReader_readFieldBehindName_49 : decode prog_7_method_9_code 49 = .ok (.getfield 9, 3) := by decide +kernel
theorem d_SchemaReader_readFieldBehindName_52 : decode prog_7_method_9_code 52 = .ok (.invokevirtual 48, 3) := by decide +kernel
theorem d_SchemaReader_readFieldBehindName_55 : decode prog_7_method_9_code 55 = .ok (.istore_n 3, 1) := by decide +kernel
theorem d_SchemaReader_readFieldBehindName_56 : decode prog_7_method_9_code 56 = .ok (.aload_n 0, 1) := by decide +kernel
theorem d_SchemaReader_readFieldBehindName_57 : decode prog_7_method_9_code 57 = .ok (.getfield 29, 3) := by decide +kernel
theorem d_SchemaReader_readFieldBehindName_60 : decode prog_7_method_9_code 60 = .ok (.iload_n 2, 1) := by decide +kernel
theorem d_SchemaReader_readFieldBehindName_61 : decode prog_7_method_9_code 61 = .ok (.invokevirtual 93, 3) := by decide +kernel
theorem d_SchemaReader_readFieldBehindName_64 : decode prog_7_method_9_code 64 = .ok (.ifCond .ne 5, 3) := by decide +kernel
theorem d_SchemaReader_readFieldBehindName_67 : decode prog_7_method_9_code 67 = .ok (.iconst 0, 1) := by decide +kernel
theorem d_SchemaReader_readFieldBehindName_68 : decode prog_7_method_9_code 68 = .ok (.ireturn, 1) := by decide +kernel
theorem d_SchemaReader_readFieldBehindName_69 : decode prog_7_method_9_code 69 = .ok (.aload_n 0, 1) := by decide +kernel
theorem d_SchemaReader_readFieldBehindName_70 : decode prog_7_method_9_code 70 = .ok (.getfield 15, 3) := by decide +kernel
theorem d_SchemaReader_readFieldBehindName_73 : decode prog_7_method_9_code 73 = .ok (.iload_n 3, 1) := by decide +kernel
theorem d_SchemaReader_readFieldBehindName_74 : decode prog_7_method_9_code 74 = .ok (.aload_n 0, 1) := by decide +kernel
theorem d_SchemaReader_readFieldBehindName_75 : decode prog_7_method_9_code 75 = .ok (.getfield 9, 3) := by decide +kernel
theorem d_SchemaReader_readFieldBehindName_78 : decode prog_7_method_9_code 78 = .ok (.invokevirtual 48, 3) := by decide +kernel
theorem d_SchemaReader_readFieldBehindName_81 : decode prog_7_method_9_code 81 = .ok (.invokevirtual 55, 3) := by decide +kernel
theorem d_SchemaReader_readFieldBehindName_84 : decode prog_7_method_9_code 84 = .ok (.iconst 1, 1) := by decide +kernel
theorem d_SchemaReader_readFieldBehindName_85 : decode prog_7_method_9_code 85 = .ok (.ireturn, 1) := by decide +kernel
def SchemaReader_readFieldBehindName_b (call : ax_Cf) (x0 : Option Nat) (x1 : Int32) (h : ax_Hp) : ax_O :=
  (ax_gr h x0 4 0).bind fun v1 =>
  ax_on h v1 0 <| ax_ci (call 30 [ax_A v1, ax_I 58] h) fun v3 h2 =>
  if v3 = 0 then
    ax_rz 0 h2
  else
    (ax_gr h2 x0 4 0).bind fun v4 =>
    ax_on h2 v4 0 <| ax_ci (call 27 [ax_A v4] h2) fun v6 h5 =>
    ax_on h5 x0 4 <| ax_ci (call 26 [ax_A x0, ax_I (x1 + 1)] h5) fun v8 h7 =>
    if v8 = 0 then
      ax_rz 0 h7
    else
      (ax_gr h7 x0 4 0).bind fun v9 =>
      ax_on h7 v9 0 <| ax_ci (call 30 [ax_A v9, ax_I 61] h7) fun v11 h10 =>
      if v11 = 0 then
        ax_rz 1 h10
      else
        (ax_gr h10 x0 4 0).bind fun v12 =>
        ax_on h10 v12 0 <| ax_ci (call 27 [ax_A v12] h10) fun v14 h13 =>
        (ax_gr h13 x0 4 2).bind fun v15 =>
        ax_on h13 v15 7 <| ax_ci (call 42 [ax_A v15, ax_I v6] h13) fun v17 h16 =>
        if v17 = 0 then
          ax_rz 0 h16
        else
          (ax_gr h16 x0 4 1).bind fun v18 =>
          (ax_gr h16 x0 4 0).bind fun v19 =>
          ax_on h16 v19 0 <| ax_ci (call 27 [ax_A v19] h16) fun v21 h20 =>
          ax_on h20 v18 3 <| ax_cv (call 36 [ax_A v18, ax_I v14, ax_I v21] h20) fun h22 =>
          ax_rz 1 h22
set_option maxHeartbeats 4000000 in
set_option maxRecDepth 20000 in
theorem SchemaReader_readFieldBehindName_t {l : Launch} {G : ax_G} {d : Nat} {call : ax_Cf} (hcall : ax_Hc l G d call) (x0 : Option Nat) (x1 : Int32) (h : ax_Hp) {r : ax_Rs} {h' : ax_Hp} (ho : SchemaReader_readFieldBehindName_b call x0 x1 h = some (r, h')) : ax_C l G (d + 1) y_SchemaReader_readFieldBehindName (.code y_SchemaReader_readFieldBehindName prog_7_method_9_code 4 (some (.boolean))) [ax_A x0, ax_I x1] h r h' := by
  refine ax_enter (by decide) (Nat.le_of_ble_eq_true rfl) ho (fun p e s mi args below meth c B E Nm => ?_)
  have B : ax_B G p s mi meth c "SchemaDesk$SchemaReader" prog_7_method_9_code 4 (some (.boolean)) := B
  show ax_W G p l e s mi args below meth c 4 (d + 1) h 0 [(0, ax_A x0), (1, ax_I x1)] [] h (SchemaReader_readFieldBehindName_b call x0 x1 h)
  unfold SchemaReader_readFieldBehindName_b
  refine ax_aload_n B 0 d_SchemaReader_readFieldBehindName_0 rfl rfl ?_
  refine ax_getfr B cl_SchemaReader (by decide) fk_SchemaReader_9 d_SchemaReader_readFieldBehindName_1 (fun v1 => ?_)
  refine ax_bipush (v := 58) B d_SchemaReader_readFieldBehindName_4 (by decide) ?_
  refine ax_callVi (av := [ax_I 58]) (rest := []) B E hm_Cursor_take cl_Cursor rfl wd_314 wd_315 lk_SchemaReader_62 d_SchemaReader_readFieldBehindName_6 rfl (Nat.le_of_ble_eq_true rfl) (fun _ _ hh => hcall 30 _ _ _ _ hh) (fun v3 h2 => ?_)
  refine ax_if_ne B 14 d_SchemaReader_readFieldBehindName_9 (by decide) ?_ ?_
  · refine ax_aload_n B 0 d_SchemaReader_readFieldBehindName_14 rfl rfl ?_
    refine ax_getfr B cl_SchemaReader (by decide) fk_SchemaReader_9 d_SchemaReader_readFieldBehindName_15 (fun v4 => ?_)
    refine ax_callVi (av := []) (rest := []) B E hm_Cursor_at cl_Cursor rfl wd_302 wd_303 lk_SchemaReader_48 d_SchemaReader_readFieldBehindName_18 rfl (Nat.le_of_ble_eq_true rfl) (fun _ _ hh => hcall 27 _ _ _ _ hh) (fun v6 h5 => ?_)
    refine ax_istore_n (tv2 := [(2, ax_I v6), (0, ax_A x0), (1, ax_I x1)]) B d_SchemaReader_readFieldBehindName_21 rfl (by decide) rfl ?_
    refine ax_aload_n B 1 d_SchemaReader_readFieldBehindName_22 rfl rfl ?_
    refine ax_iload_n B 2 d_SchemaReader_readFieldBehindName_23 rfl rfl ?_
    refine ax_iconst (v := 1) B d_SchemaReader_readFieldBehindName_24 (by decide) ?_
    refine ax_iadd B d_SchemaReader_readFieldBehindName_25 ?_
    refine ax_callVi (av := [ax_I (x1 + 1)]) (rest := []) B E hm_SchemaReader_readType cl_SchemaReader rfl wd_299 wp_2 lk_SchemaReader_38 d_SchemaReader_readFieldBehindName_26 rfl (Nat.le_of_ble_eq_true rfl) (fun _ _ hh => hcall 26 _ _ _ _ hh) (fun v8 h7 => ?_)
    refine ax_if_ne B 34 d_SchemaReader_readFieldBehindName_29 (by decide) ?_ ?_
    · refine ax_aload_n B 1 d_SchemaReader_readFieldBehindName_34 rfl rfl ?_
      refine ax_getfr B cl_SchemaReader (by decide) fk_SchemaReader_9 d_SchemaReader_readFieldBehindName_35 (fun v9 => ?_)
      refine ax_bipush (v := 61) B d_SchemaReader_readFieldBehindName_38 (by decide) ?_
      refine ax_callVi (av := [ax_I 61]) (rest := []) B E hm_Cursor_take cl_Cursor rfl wd_314 wd_315 lk_SchemaReader_62 d_SchemaReader_readFieldBehindName_40 rfl (Nat.le_of_ble_eq_true rfl) (fun _ _ hh => hcall 30 _ _ _ _ hh) (fun v11 h10 => ?_)
      refine ax_if_ne B 48 d_SchemaReader_readFieldBehindName_43 (by decide) ?_ ?_
      · refine ax_aload_n B 1 d_SchemaReader_readFieldBehindName_48 rfl rfl ?_
        refine ax_getfr B cl_SchemaReader (by decide) fk_SchemaReader_9 d_SchemaReader_readFieldBehindName_49 (fun v12 => ?_)
        refine ax_callVi (av := []) (rest := []) B E hm_Cursor_at cl_Cursor rfl wd_302 wd_303 lk_SchemaReader_48 d_SchemaReader_readFieldBehindName_52 rfl (Nat.le_of_ble_eq_true rfl) (fun _ _ hh => hcall 27 _ _ _ _ hh) (fun v14 h13 => ?_)
        refine ax_istore_n (tv2 := [(3, ax_I v14), (2, ax_I v6), (0, ax_A x0), (1, ax_I x1)]) B d_SchemaReader_readFieldBehindName_55 rfl (by decide) rfl ?_
        refine ax_aload_n B 2 d_SchemaReader_readFieldBehindName_56 rfl rfl ?_
        refine ax_getfr B cl_SchemaReader (by decide) fk_SchemaReader_29 d_SchemaReader_readFieldBehindName_57 (fun v15 => ?_)
        refine ax_iload_n B 1 d_SchemaReader_readFieldBehindName_60 rfl rfl ?_
        refine ax_callVi (av := [ax_I v6]) (rest := []) B E hm_ValueReader_readLiteral cl_ValueReader rfl wd_359 wd_360 lk_SchemaReader_93 d_SchemaReader_readFieldBehindName_61 rfl (Nat.le_of_ble_eq_true rfl) (fun _ _ hh => hcall 42 _ _ _ _ hh) (fun v17 h16 => ?_)
        refine ax_if_ne B 69 d_SchemaReader_readFieldBehindName_64 (by decide) ?_ ?_
        · refine ax_aload_n B 2 d_SchemaReader_readFieldBehindName_69 rfl rfl ?_
          refine ax_getfr B cl_SchemaReader (by decide) fk_SchemaReader_15 d_SchemaReader_readFieldBehindName_70 (fun v18 => ?_)
          refine ax_iload_n B 0 d_SchemaReader_readFieldBehindName_73 rfl rfl ?_
          refine ax_aload_n B 2 d_SchemaReader_readFieldBehindName_74 rfl rfl ?_
          refine ax_getfr B cl_SchemaReader (by decide) fk_SchemaReader_9 d_SchemaReader_readFieldBehindName_75 (fun v19 => ?_)
          refine ax_callVi (av := []) (rest := [ax_I v14, ax_A v18]) B E hm_Cursor_at cl_Cursor rfl wd_302 wd_303 lk_SchemaReader_48 d_SchemaReader_readFieldBehindName_78 rfl (Nat.le_of_ble_eq_true rfl) (fun _ _ hh => hcall 27 _ _ _ _ hh) (fun v21 h20 => ?_)
          refine ax_callVv (av := [ax_I v14, ax_I v21]) (rest := []) B E hm_Schema_markEnd cl_Schema rfl wd_336 wd_337 lk_SchemaReader_55 d_SchemaReader_readFieldBehindName_81 rfl (Nat.le_of_ble_eq_true rfl) (fun _ _ hh => hcall 36 _ _ _ _ hh) (fun h22 => ?_)
          refine ax_iconst (v := 1) B d_SchemaReader_readFieldBehindName_84 (by decide) ?_
          exact ax_zreturn B d_SchemaReader_readFieldBehindName_85
        · refine ax_iconst (v := 0) B d_SchemaReader_readFieldBehindName_67 (by decide) ?_
          exact ax_zreturn B d_SchemaReader_readFieldBehindName_68
      · refine ax_iconst (v := 1) B d_SchemaReader_readFieldBehindName_46 (by decide) ?_
        exact ax_zreturn B d_SchemaReader_readFieldBehindName_47
    · refine ax_iconst (v := 0) B d_SchemaReader_readFieldBehindName_32 (by decide) ?_
      exact ax_zreturn B d_SchemaReader_readFieldBehindName_33
  · refine ax_iconst (v := 0) B d_SchemaReader_readFieldBehindName_12 (by decide) ?_
    exact ax_zreturn B d_SchemaReader_readFieldBehindName_13
