theorem d_Schema_init_0 : decode prog_6_method_1_code 0 = .ok (.aload_n 0, 1) := by decide +kernel
theorem d_Schema_init_1 : decode prog_6_method_1_code 1 = .ok (.invokespecial 3, 3) := by decide +kernel
theorem d_Schema_init_4 : decode prog_6_method_1_code 4 = .ok (.aload_n 0, 1) := by decide +kernel
theorem d_Schema_init_5 : decode prog_6_method_1_code 5 = .ok (.aload_n 1, 1) := by decide +kernel
theorem d_Schema_init_6 : decode prog_6_method_1_code 6 = .ok (.putfield 9, 3) := by decide +kernel
theorem d_Schema_init_9 : decode prog_6_method_1_code 9 = .ok (.aload_n 0, 1) := by decide +kernel
theorem d_Schema_init_10 : decode prog_6_method_1_code 10 = .ok (.aload_n 2, 1) := by decide +kernel
theorem d_Schema_init_11 : decode prog_6_method_1_code 11 = .ok (.putfield 15, 3) := by decide +kernel
theorem d_Schema_init_14 : decode prog_6_method_1_code 14 = .ok (.aload_n 0, 1) := by decide +kernel
theorem d_Schema_init_15 : decode prog_6_method_1_code 15 = .ok (.aload_n 3, 1) := by decide +kernel
theorem d_Schema_init_16 : decode prog_6_method_1_code 16 = .ok (.putfield 19, 3) := by decide +kernel
theorem d_Schema_init_19 : decode prog_6_method_1_code 19 = .ok (.aload_n 0, 1) := by decide +kernel
theorem d_Schema_init_20 : decode prog_6_method_1_code 20 = .ok (.aload 4, 2) := by decide +kernel
theorem d_Schema_init_22 : decode prog_6_method_1_code 22 = .ok (.putfield 22, 3) := by decide +kernel
theorem d_Schema_init_25 : decode prog_6_method_1_code 25 = .ok (.return_, 1) := by decide +kernel
def Schema_init_b (call : ax_Cf) (x0 : Nat) (x1 : Option Nat) (x2 : Option Nat) (x3 : Option Nat) (x4 : Option Nat) (h : ax_Hp) : ax_O :=
  (ax_pf h (some x0) 3 0 (ax_A x1)).bind fun h1 =>
  (ax_pf h1 (some x0) 3 1 (ax_A x2)).bind fun h2 =>
  (ax_pf h2 (some x0) 3 2 (ax_A x3)).bind fun h3 =>
  (ax_pf h3 (some x0) 3 3 (ax_A x4)).bind fun h4 =>
  ax_rv h4
set_option maxHeartbeats 4000000 in
set_option maxRecDepth 20000 in
theorem Schema_init_t {l : Launch} {G : ax_G} {d : Nat} {call : ax_Cf} (hcall : ax_Hc l G d call) (x0 : Nat) (x1 : Option Nat) (x2 : Option Nat) (x3 : Option Nat) (x4 : Option Nat) (h : ax_Hp) {r : ax_Rs} {h' : ax_Hp} (ho : Schema_init_b call x0 x1 x2 x3 x4 h = some (r, h')) : ax_C l G (d + 1) y_Schema_init (.code y_Schema_init prog_6_method_1_code 5 none) [ax_A (some x0), ax_A x1, ax_A x2, ax_A x3, ax_A x4] h r h' := by
  refine ax_enter (by decide) (Nat.le_of_ble_eq_true rfl) ho (fun p e s mi args below meth c B E Nm => ?_)
  have B : ax_B G p s mi meth c "SchemaDesk$Schema" prog_6_method_1_code 5 none := B
  show ax_W G p l e s mi args below meth c 5 (d + 1) h 0 [(0, ax_A (some x0)), (1, ax_A x1), (2, ax_A x2), (3, ax_A x3), (4, ax_A x4)] [] h (Schema_init_b call x0 x1 x2 x3 x4 h)
  unfold Schema_init_b
  refine ax_aload_n B 0 d_Schema_init_0 rfl rfl ?_
  refine ax_objinit B wd_50 wd_27 wd_objcode (Nat.le_of_ble_eq_true rfl) d_Schema_init_1 ?_
  refine ax_aload_n B 0 d_Schema_init_4 rfl rfl ?_
  refine ax_aload_n B 1 d_Schema_init_5 rfl rfl ?_
  refine ax_putf (v := ax_A x1) B cl_Schema (by decide) fk_Schema_9 (Or.inr ⟨wd_51, rfl, Nm, rfl⟩) (fun _ => ax_narO) (fun _ => ax_fitO) d_Schema_init_6 (fun h1 => ?_)
  refine ax_aload_n B 0 d_Schema_init_9 rfl rfl ?_
  refine ax_aload_n B 2 d_Schema_init_10 rfl rfl ?_
  refine ax_putf (v := ax_A x2) B cl_Schema (by decide) fk_Schema_15 (Or.inr ⟨wd_52, rfl, Nm, rfl⟩) (fun _ => ax_narR) (fun _ => ax_fitR) d_Schema_init_11 (fun h2 => ?_)
  refine ax_aload_n B 0 d_Schema_init_14 rfl rfl ?_
  refine ax_aload_n B 3 d_Schema_init_15 rfl rfl ?_
  refine ax_putf (v := ax_A x3) B cl_Schema (by decide) fk_Schema_19 (Or.inr ⟨wd_53, rfl, Nm, rfl⟩) (fun _ => ax_narR) (fun _ => ax_fitR) d_Schema_init_16 (fun h3 => ?_)
  refine ax_aload_n B 0 d_Schema_init_19 rfl rfl ?_
  refine ax_aload B 4 d_Schema_init_20 rfl ?_
  refine ax_putf (v := ax_A x4) B cl_Schema (by decide) fk_Schema_22 (Or.inr ⟨wd_54, rfl, Nm, rfl⟩) (fun _ => ax_narR) (fun _ => ax_fitR) d_Schema_init_22 (fun h4 => ?_)
  exact ax_vreturn B d_Schema_init_25

theorem d_Schema_clearMarks_0 : decode prog_6_method_2_code 0 = .ok (.aload_n 0, 1) := by decide +kernel
theorem d_Schema_clearMarks_1 : decode prog_6_method_2_code 1 = .ok (.getfield 15, 3) := by decide +kernel
theorem d_Schema_clearMarks_4 : decode prog_6_method_2_code 4 = .ok (.iconst (-1), 1) := by decide +kernel
theorem d_Schema_clearMarks_5 : decode prog_6_method_2_code 5 = .ok (.invokestatic 25, 3) := by decide +kernel
theorem d_Schema_clearMarks_8 : decode prog_6_method_2_code 8 = .ok (.aload_n 0, 1) := by decide +kernel
theorem d_Schema_clearMarks_9 : decode prog_6_method_2_code 9 = .ok (.getfield 19, 3) := by decide +kernel
theorem d_Schema_clearMarks_12 : decode prog_6_method_2_code 12 = .ok (.iconst (-1), 1) := by decide +kernel
theorem d_Schema_clearMarks_13 : decode prog_6_method_2_code 13 = .ok (.invokestatic 25, 3) := by decide +kernel
theorem d_Schema_clearMarks_16 : decode prog_6_method_2_code 16 = .ok (.aload_n 0, 1) := by decide +kernel
theorem d_Schema_clearMarks_17 : decode prog_6_method_2_code 17 = .ok (.getfield 22, 3) := by decide +kernel
theorem d_Schema_clearMarks_20 : decode prog_6_method_2_code 20 = .ok (.iconst 0, 1) := by decide +kernel
theorem d_Schema_clearMarks_21 : decode prog_6_method_2_code 21 = .ok (.invokestatic 25, 3) := by decide +kernel
theorem d_Schema_clearMarks_24 : decode prog_6_method_2_code 24 = .ok (.return_, 1) := by decide +kernel
def Schema_clearMarks_b (call : ax_Cf) (x0 : Option Nat) (h : ax_Hp) : ax_O :=
  (ax_gr h x0 3 1).bind fun v1 =>
  ax_cv (call 25 [ax_A v1, ax_I (-1)] h) fun h2 =>
  (ax_gr h2 x0 3 2).bind fun v4 =>
  ax_cv (call 25 [ax_A v4, ax_I (-1)] h2) fun h5 =>
  (ax_gr h5 x0 3 3).bind fun v7 =>
  ax_cv (call 25 [ax_A v7, ax_I 0] h5) fun h8 =>
  ax_rv h8
set_option maxHeartbeats 4000000 in
set_option maxRecDepth 20000 in
theorem Schema_clearMarks_t {l : Launch} {G : ax_G} {d : Nat} {call : ax_Cf} (hcall : ax_Hc l G d call) (x0 : Option Nat) (h : ax_Hp) {r : ax_Rs} {h' : ax_Hp} (ho : Schema_clearMarks_b call x0 h = some (r, h')) : ax_C l G (d + 1) y_Schema_clearMarks (.code y_Schema_clearMarks prog_6_method_2_code 1 none) [ax_A x0] h r h' := by
  refine ax_enter (by decide) (Nat.le_of_ble_eq_true rfl) ho (fun p e s mi args below meth c B E Nm => ?_)
  have B : ax_B G p s mi meth c "SchemaDesk$Schema" prog_6_method_2_code 1 none := B
  show ax_W G p l e s mi args below meth c 1 (d + 1) h 0 [(0, ax_A x0)] [] h (Schema_clearMarks_b call x0 h)
  unfold Schema_clearMarks_b
  refine ax_aload_n B 0 d_Schema_clearMarks_0 rfl rfl ?_
  refine ax_getfr B cl_Schema (by decide) fk_Schema_15 d_Schema_clearMarks_1 (fun v1 => ?_)
  refine ax_iconst (v := (-1)) B d_Schema_clearMarks_4 (by decide) ?_
  refine ax_callSv (av := [ax_A v1, ax_I (-1)]) (rest := []) B E hm_Arrays_fill wd_295 lk_Schema_25 d_Schema_clearMarks_5 rfl (Nat.le_of_ble_eq_true rfl) (fun _ _ hh => hcall 25 _ _ _ _ hh) (fun h2 => ?_)
  refine ax_aload_n B 0 d_Schema_clearMarks_8 rfl rfl ?_
  refine ax_getfr B cl_Schema (by decide) fk_Schema_19 d_Schema_clearMarks_9 (fun v4 => ?_)
  refine ax_iconst (v := (-1)) B d_Schema_clearMarks_12 (by decide) ?_
  refine ax_callSv (av := [ax_A v4, ax_I (-1)]) (rest := []) B E hm_Arrays_fill wd_295 lk_Schema_25 d_Schema_clearMarks_13 rfl (Nat.le_of_ble_eq_true rfl) (fun _ _ hh => hcall 25 _ _ _ _ hh) (fun h5 => ?_)
  refine ax_aload_n B 0 d_Schema_clearMarks_16 rfl rfl ?_
  refine ax_getfr B cl_Schema (by decide) fk_Schema_22 d_Schema_clearMarks_17 (fun v7 => ?_)
  refine ax_iconst (v := 0) B d_Schema_clearMarks_20 (by decide) ?_
  refine ax_callSv (av := [ax_A v7, ax_I 0]) (rest := []) B E hm_Arrays_fill wd_295 lk_Schema_25 d_Schema_clearMarks_21 rfl (Nat.le_of_ble_eq_true rfl) (fun _ _ hh => hcall 25 _ _ _ _ hh) (fun h8 => ?_)
  exact ax_vreturn B d_Schema_clearMarks_24

theorem d_Schema_markEnd_0 : decode prog_6_method_3_code 0 = .ok (.iload_n 1, 1) := by decide +kernel
theorem d_Schema_markEnd_1 : decode prog_6_method_3_code 1 = .ok (.ifCond .lt 19, 3) := by decide +kernel
theorem d_Schema_markEnd_4 : decode prog_6_method_3_code 4 = .ok (.iload_n 1, 1) := by decide +kernel
theorem d_Schema_markEnd_5 : decode prog_6_method_3_code 5 = .ok (.aload_n 0, 1) := by decide +kernel
theorem d_Schema_markEnd_6 : decode prog_6_method_3_code 6 = .ok (.getfield 15, 3) := by decide +kernel
theorem d_Schema_markEnd_9 : decode prog_6_method_3_code 9 = .ok (.arraylength, 1) := by decide +kernel
theorem d_Schema_markEnd_10 : decode prog_6_method_3_code 10 = .ok (.if_icmp .ge 10, 3) := by decide +kernel
theorem d_Schema_markEnd_13 : decode prog_6_method_3_code 13 = .ok (.aload_n 0, 1) := by decide +kernel
theorem d_Schema_markEnd_14 : decode prog_6_method_3_code 14 = .ok (.getfield 15, 3) := by decide +kernel
theorem d_Schema_markEnd_17 : decode prog_6_method_3_code 17 = .ok (.iload_n 1, 1) := by decide +kernel
theorem d_Schema_markEnd_18 : decode prog_6_method_3_code 18 = .ok (.iload_n 2, 1) := by decide +kernel
theorem d_Schema_markEnd_19 : decode prog_6_method_3_code 19 = .ok (.iastore, 1) := by decide +kernel
theorem d_Schema_markEnd_20 : decode prog_6_method_3_code 20 = .ok (.return_, 1) := by decide +kernel
def Schema_markEnd_b (call : ax_Cf) (x0 : Option Nat) (x1 : Int32) (x2 : Int32) (h : ax_Hp) : ax_O :=
  if x1 < 0 then
    ax_rv h
  else
    (ax_gr h x0 3 1).bind fun v1 =>
    (ax_len h v1 1).bind fun v2 =>
    if v2 ≤ x1 then
      ax_rv h
    else
      (ax_gr h x0 3 1).bind fun v3 =>
      (ax_st h v3 1 x1 (ax_I x2)).bind fun h4 =>
      ax_rv h4
set_option maxHeartbeats 4000000 in
set_option maxRecDepth 20000 in
theorem Schema_markEnd_t {l : Launch} {G : ax_G} {d : Nat} {call : ax_Cf} (hcall : ax_Hc l G d call) (x0 : Option Nat) (x1 : Int32) (x2 : Int32) (h : ax_Hp) {r : ax_Rs} {h' : ax_Hp} (ho : Schema_markEnd_b call x0 x1 x2 h = some (r, h')) : ax_C l G (d + 1) y_Schema_markEnd (.code y_Schema_markEnd prog_6_method_3_code 3 none) [ax_A x0, ax_I x1, ax_I x2] h r h' := by
  refine ax_enter (by decide) (Nat.le_of_ble_eq_true rfl) ho (fun p e s mi args below meth c B E Nm => ?_)
  have B : ax_B G p s mi meth c "SchemaDesk$Schema" prog_6_method_3_code 3 none := B
  show ax_W G p l e s mi args below meth c 3 (d + 1) h 0 [(0, ax_A x0), (1, ax_I x1), (2, ax_I x2)] [] h (Schema_markEnd_b call x0 x1 x2 h)
  unfold Schema_markEnd_b
  refine ax_iload_n B 1 d_Schema_markEnd_0 rfl rfl ?_
  refine ax_if_lt B 20 d_Schema_markEnd_1 (by decide) ?_ ?_
  · exact ax_vreturn B d_Schema_markEnd_20
  · refine ax_iload_n B 1 d_Schema_markEnd_4 rfl rfl ?_
    refine ax_aload_n B 0 d_Schema_markEnd_5 rfl rfl ?_
    refine ax_getfr B cl_Schema (by decide) fk_Schema_15 d_Schema_markEnd_6 (fun v1 => ?_)
    refine ax_alen (kd := 1) B (by decide) d_Schema_markEnd_9 (fun v2 => ?_)
    refine ax_icmp_ge B 20 d_Schema_markEnd_10 (by decide) ?_ ?_
    · exact ax_vreturn B d_Schema_markEnd_20
    · refine ax_aload_n B 0 d_Schema_markEnd_13 rfl rfl ?_
      refine ax_getfr B cl_Schema (by decide) fk_Schema_15 d_Schema_markEnd_14 (fun v3 => ?_)
      refine ax_iload_n B 1 d_Schema_markEnd_17 rfl rfl ?_
      refine ax_iload_n B 2 d_Schema_markEnd_18 rfl rfl ?_
      refine ax_iast (kd := 1) B (by decide) (by decide) rfl d_Schema_markEnd_19 (fun h4 => ?_)
      exact ax_vreturn B d_Schema_markEnd_20

theorem d_Schema_markNext_0 : decode prog_6_method_4_code 0 = .ok (.iload_n 1, 1) := by decide +kernel
theorem d_Schema_markNext_1 : decode prog_6_method_4_code 1 = .ok (.ifCond .lt 19, 3) := by decide +kernel
theorem d_Schema_markNext_4 : decode prog_6_method_4_code 4 = .ok (.iload_n 1, 1) := by decide +kernel
theorem d_Schema_markNext_5 : decode prog_6_method_4_code 5 = .ok (.aload_n 0, 1) := by decide +kernel
theorem d_Schema_markNext_6 : decode prog_6_method_4_code 6 = .ok (.getfield 19, 3) := by decide +kernel
theorem d_Schema_markNext_9 : decode prog_6_method_4_code 9 = .ok (.arraylength, 1) := by decide +kernel
theorem d_Schema_markNext_10 : decode prog_6_method_4_code 10 = .ok (.if_icmp .ge 10, 3) := by decide +kernel
theorem d_Schema_markNext_13 : decode prog_6_method_4_code 13 = .ok (.aload_n 0, 1) := by decide +kernel
theorem d_Schema_markNext_14 : decode prog_6_method_4_code 14 = .ok (.getfield 19, 3) := by decide +kernel
theorem d_Schema_markNext_17 : decode prog_6_method_4_code 17 = .ok (.iload_n 1, 1) := by decide +kernel
theorem d_Schema_markNext_18 : decode prog_6_method_4_code 18 = .ok (.iload_n 2, 1) := by decide +kernel
theorem d_Schema_markNext_19 : decode prog_6_method_4_code 19 = .ok (.iastore, 1) := by decide +kernel
theorem d_Schema_markNext_20 : decode prog_6_method_4_code 20 = .ok (.return_, 1) := by decide +kernel
def Schema_markNext_b (call : ax_Cf) (x0 : Option Nat) (x1 : Int32) (x2 : Int32) (h : ax_Hp) : ax_O :=
  if x1 < 0 then
    ax_rv h
  else
    (ax_gr h x0 3 2).bind fun v1 =>
    (ax_len h v1 1).bind fun v2 =>
    if v2 ≤ x1 then
      ax_rv h
    else
      (ax_gr h x0 3 2).bind fun v3 =>
      (ax_st h v3 1 x1 (ax_I x2)).bind fun h4 =>
      ax_rv h4
set_option maxHeartbeats 4000000 in
set_option maxRecDepth 20000 in
theorem Schema_markNext_t {l : Launch} {G : ax_G} {d : Nat} {call : ax_Cf} (hcall : ax_Hc l G d call) (x0 : Option Nat) (x1 : Int32) (x2 : Int32) (h : ax_Hp) {r : ax_Rs} {h' : ax_Hp} (ho : Schema_markNext_b call x0 x1 x2 h = some (r, h')) : ax_C l G (d + 1) y_Schema_markNext (.code y_Schema_markNext prog_6_method_4_code 3 none) [ax_A x0, ax_I x1, ax_I x2] h r h' := by
  refine ax_enter (by decide) (Nat.le_of_ble_eq_true rfl) ho (fun p e s mi args below meth c B E Nm => ?_)
  have B : ax_B G p s mi meth c "SchemaDesk$Schema" prog_6_method_4_code 3 none := B
  show ax_W G p l e s mi args below meth c 3 (d + 1) h 0 [(0, ax_A x0), (1, ax_I x1), (2, ax_I x2)] [] h (Schema_markNext_b call x0 x1 x2 h)
  unfold Schema_markNext_b
  refine ax_iload_n B 1 d_Schema_markNext_0 rfl rfl ?_
  refine ax_if_lt B 20 d_Schema_markNext_1 (by decide) ?_ ?_
  · exact ax_vreturn B d_Schema_markNext_20
  · refine ax_iload_n B 1 d_Schema_markNext_4 rfl rfl ?_
    refine ax_aload_n B 0 d_Schema_markNext_5 rfl rfl ?_
    refine ax_getfr B cl_Schema (by decide) fk_Schema_19 d_Schema_markNext_6 (fun v1 => ?_)
    refine ax_alen (kd := 1) B (by decide) d_Schema_markNext_9 (fun v2 => ?_)
    refine ax_icmp_ge B 20 d_Schema_markNext_10 (by decide) ?_ ?_
    · exact ax_vreturn B d_Schema_markNext_20
    · refine ax_aload_n B 0 d_Schema_markNext_13 rfl rfl ?_
      refine ax_getfr B cl_Schema (by decide) fk_Schema_19 d_Schema_markNext_14 (fun v3 => ?_)
      refine ax_iload_n B 1 d_Schema_markNext_17 rfl rfl ?_
      refine ax_iload_n B 2 d_Schema_markNext_18 rfl rfl ?_
      refine ax_iast (kd := 1) B (by decide) (by decide) rfl d_Schema_markNext_19 (fun h4 => ?_)
      exact ax_vreturn B d_Schema_markNext_20

theorem d_Schema_kind_0 : decode prog_6_method_13_code 0 = .ok (.aload_n 0, 1) := by decide +kernel
theorem d_Schema_kind_1 : decode prog_6_method_13_code 1 = .ok (.getfield 9, 3) := by decide +kernel
theorem d_Schema_kind_4 : decode prog_6_method_13_code 4 = .ok (.iload_n 1, 1) := by decide +kernel
theorem d_Schema_kind_5 : decode prog_6_method_13_code 5 = .ok (.invokevirtual 31, 3) := by decide +kernel
theorem d_Schema_kind_8 : decode prog_6_method_13_code 8 = .ok (.ireturn, 1) := by decide +kernel
def Schema_kind_b (call : ax_Cf) (x0 : Option Nat) (x1 : Int32) (h : ax_Hp) : ax_O :=
  (ax_gr h x0 3 0).bind fun v1 =>
  ax_on h v1 2 <| ax_ci (call 45 [ax_A v1, ax_I x1] h) fun v3 h2 =>
  ax_ri v3 h2
set_option maxHeartbeats 4000000 in
set_option maxRecDepth 20000 in
theorem Schema_kind_t {l : Launch} {G : ax_G} {d : Nat} {call : ax_Cf} (hcall : ax_Hc l G d call) (x0 : Option Nat) (x1 : Int32) (h : ax_Hp) {r : ax_Rs} {h' : ax_Hp} (ho : Schema_kind_b call x0 x1 h = some (r, h')) : ax_C l G (d + 1) y_Schema_kind (.code y_Schema_kind prog_6_method_13_code 2 (some (.int))) [ax_A x0, ax_I x1] h r h' := by
  refine ax_enter (by decide) (Nat.le_of_ble_eq_true rfl) ho (fun p e s mi args below meth c B E Nm => ?_)
  have B : ax_B G p s mi meth c "SchemaDesk$Schema" prog_6_method_13_code 2 (some (.int)) := B
  show ax_W G p l e s mi args below meth c 2 (d + 1) h 0 [(0, ax_A x0), (1, ax_I x1)] [] h (Schema_kind_b call x0 x1 h)
  unfold Schema_kind_b
  refine ax_aload_n B 0 d_Schema_kind_0 rfl rfl ?_
  refine ax_getfr B cl_Schema (by decide) fk_Schema_9 d_Schema_kind_1 (fun v1 => ?_)
  refine ax_iload_n B 1 d_Schema_kind_4 rfl rfl ?_
  refine ax_callVi (av := [ax_I x1]) (rest := []) B E hm_Row_at cl_Row rfl wd_371 wd_372 lk_Schema_31 d_Schema_kind_5 rfl (Nat.le_of_ble_eq_true rfl) (fun _ _ hh => hcall 45 _ _ _ _ hh) (fun v3 h2 => ?_)
  exact ax_ireturn B d_Schema_kind_8

theorem d_Schema_symbolNumber_0 : decode prog_6_method_24_code 0 = .ok (.iconst 0, 1) := by decide +kernel
theorem d_Schema_symbolNumber_1 : decode prog_6_method_24_code 1 = .ok (.istore_n 3, 1) := by decide +kernel
theorem d_Schema_symbolNumber_2 : decode prog_6_method_24_code 2 = .ok (.iload_n 3, 1) := by decide +kernel
theorem d_Schema_symbolNumber_3 : decode prog_6_method_24_code 3 = .ok (.bipush 8, 2) := by decide +kernel
theorem d_Schema_symbolNumber_5 : decode prog_6_method_24_code 5 = .ok (.if_icmp .ge 45, 3) := by decide +kernel
theorem d_Schema_symbolNumber_8 : decode prog_6_method_24_code 8 = .ok (.aload_n 0, 1) := by decide +kernel
theorem d_Schema_symbolNumber_9 : decode prog_6_method_24_code 9 = .ok (.getfield 9, 3) := by decide +kernel
theorem d_Schema_symbolNumber_12 : decode prog_6_method_24_code 12 = .ok (.iload_n 1, 1) := by decide +kernel
theorem d_Schema_symbolNumber_13 : decode prog_6_method_24_code 13 = .ok (.iconst 2, 1) := by decide +kernel
theorem d_Schema_symbolNumber_14 : decode prog_6_method_24_code 14 = .ok (.iadd, 1) := by decide +kernel
theorem d_Schema_symbolNumber_15 : decode prog_6_method_24_code 15 = .ok (.iload_n 3, 1) := by decide +kernel
theorem d_Schema_symbolNumber_16 : decode prog_6_method_24_code 16 = .ok (.iadd, 1) := by decide +kernel
theorem d_Schema_symbolNumber_17 : decode prog_6_method_24_code 17 = .ok (.invokevirtual 31, 3) := by decide +kernel
theorem d_Schema_symbolNumber_20 : decode prog_6_method_24_code 20 = .ok (.invokestatic 72, 3) := by decide +kernel
theorem d_Schema_symbolNumber_23 : decode prog_6_method_24_code 23 = .ok (.ifCond .eq 27, 3) := by decide +kernel
theorem d_Schema_symbolNumber_26 : decode prog_6_method_24_code 26 = .ok (.aload_n 0, 1) := by decide +kernel
theorem d_Schema_symbolNumber_27 : decode prog_6_method_24_code 27 = .ok (.getfield 9, 3) := by decide +kernel
theorem d_Schema_symbolNumber_30 : decode prog_6_method_24_code 30 = .ok (.iload_n 1, 1) := by decide +kernel
theorem d_Schema_symbolNumber_31 : decode prog_6_method_24_code 31 = .ok (.iconst 2, 1) := by decide +kernel
theorem d_Schema_symbolNumber_32 : decode prog_6_method_24_code 32 = .ok (.iadd, 1) := by decide +kernel
theorem d_Schema_symbolNumber_33 : decode prog_6_method_24_code 33 = .ok (.iload_n 3, 1) := by decide +kernel
theorem d_Schema_symbolNumber_34 : decode prog_6_method_24_code 34 = .ok (.iadd, 1) := by decide +kernel
theorem d_Schema_symbolNumber_35 : decode prog_6_method_24_code 35 = .ok (.invokevirtual 31, 3) := by decide +kernel
theorem d_Schema_symbolNumber_38 : decode prog_6_method_24_code 38 = .ok (.iload_n 2, 1) := by decide +kernel
theorem d_Schema_symbolNumber_39 : decode prog_6_method_24_code 39 = .ok (.if_icmp .ne 5, 3) := by decide +kernel
theorem d_Schema_symbolNumber_42 : decode prog_6_method_24_code 42 = .ok (.iload_n 3, 1) := by decide +kernel
theorem d_Schema_symbolNumber_43 : decode prog_6_method_24_code 43 = .ok (.ireturn, 1) := by decide +kernel
theorem d_Schema_symbolNumber_44 : decode prog_6_method_24_code 44 = .ok (.iinc 3 1, 3) := by decide +kernel
theorem d_Schema_symbolNumber_47 : decode prog_6_method_24_code 47 = .ok (.goto (-45), 3) := by decide +kernel
theorem d_Schema_symbolNumber_50 : decode prog_6_method_24_code 50 = .ok (.iconst (-1), 1) := by decide +kernel
theorem d_Schema_symbolNumber_51 : decode prog_6_method_24_code 51 = .ok (.ireturn, 1) := by decide +kernel
def Schema_symbolNumber_bd2 (call : ax_Cf)  (k2 : Option Nat → Int32 → Int32 → Int32 → ax_Hp → ax_O) (x0 : Option Nat) (x1 : Int32) (x2 : Int32) (x3 : Int32) (h : ax_Hp) : ax_O :=
  if 8 ≤ x3 then
    ax_ri (-1) h
  else
    (ax_gr h x0 3 0).bind fun v1 =>
    ax_on h v1 2 <| ax_ci (call 45 [ax_A v1, ax_I ((x1 + 2) + x3)] h) fun v3 h2 =>
    ax_ci (call 33 [ax_I v3] h2) fun v5 h4 =>
    if v5 = 0 then
      ax_ri (-1) h4
    else
      (ax_gr h4 x0 3 0).bind fun v6 =>
      ax_on h4 v6 2 <| ax_ci (call 45 [ax_A v6, ax_I ((x1 + 2) + x3)] h4) fun v8 h7 =>
      if v8 = x2 then
        ax_ri x3 h7
      else
        k2 x0 x1 x2 (x3 + 1) h7
def Schema_symbolNumber_lp2 (call : ax_Cf)  : Nat → Option Nat → Int32 → Int32 → Int32 → ax_Hp → ax_O
  | 0 => fun _ _ _ _ _ => none
  | n + 1 => Schema_symbolNumber_bd2 call  (Schema_symbolNumber_lp2 call  n)
set_option maxHeartbeats 4000000 in
set_option maxRecDepth 20000 in
theorem Schema_symbolNumber_lb2 {l : Launch} {G : ax_G} {d : Nat} {call : ax_Cf} (hcall : ax_Hc l G d call) {p : Program} {e : Env} {s : State} {mi : MethodId} {args : Array Value} {below : List Frame} {meth : Method} {c : Code} {h0 : ax_Hp} (B : ax_B G p s mi meth c "SchemaDesk$Schema" prog_6_method_24_code 4 (some (.int))) (E : c.exceptionTable.isEmpty = true) (Nm : meth.name = y_Schema_symbolNumber.name)   {k2 : Option Nat → Int32 → Int32 → Int32 → ax_Hp → ax_O} (hk2 : ∀ (x0 : Option Nat) (x1 : Int32) (x2 : Int32) (x3 : Int32) (h : ax_Hp), ax_W G p l e s mi args below meth c 4 (d + 1) h0 2 [(0, ax_A x0), (1, ax_I x1), (2, ax_I x2), (3, ax_I x3)] [] h (k2 x0 x1 x2 x3 h)) (x0 : Option Nat) (x1 : Int32) (x2 : Int32) (x3 : Int32) (h : ax_Hp) : ax_W G p l e s mi args below meth c 4 (d + 1) h0 2 [(0, ax_A x0), (1, ax_I x1), (2, ax_I x2), (3, ax_I x3)] [] h (Schema_symbolNumber_bd2 call  k2 x0 x1 x2 x3 h) := by
  unfold Schema_symbolNumber_bd2
  refine ax_iload_n B 3 d_Schema_symbolNumber_2 rfl rfl ?_
  refine ax_bipush (v := 8) B d_Schema_symbolNumber_3 (by decide) ?_
  refine ax_icmp_ge B 50 d_Schema_symbolNumber_5 (by decide) ?_ ?_
  · refine ax_iconst (v := (-1)) B d_Schema_symbolNumber_50 (by decide) ?_
    exact ax_ireturn B d_Schema_symbolNumber_51
  · refine ax_aload_n B 0 d_Schema_symbolNumber_8 rfl rfl ?_
    refine ax_getfr B cl_Schema (by decide) fk_Schema_9 d_Schema_symbolNumber_9 (fun v1 => ?_)
    refine ax_iload_n B 1 d_Schema_symbolNumber_12 rfl rfl ?_
    refine ax_iconst (v := 2) B d_Schema_symbolNumber_13 (by decide) ?_
    refine ax_iadd B d_Schema_symbolNumber_14 ?_
    refine ax_iload_n B 3 d_Schema_symbolNumber_15 rfl rfl ?_
    refine ax_iadd B d_Schema_symbolNumber_16 ?_
    refine ax_callVi (av := [ax_I ((x1 + 2) + x3)]) (rest := []) B E hm_Row_at cl_Row rfl wd_371 wd_372 lk_Schema_31 d_Schema_symbolNumber_17 rfl (Nat.le_of_ble_eq_true rfl) (fun _ _ hh => hcall 45 _ _ _ _ hh) (fun v3 h2 => ?_)
    refine ax_callSi (av := [ax_I v3]) (rest := []) B E hm_Desk_isSmallLetter wd_325 lk_Schema_72 d_Schema_symbolNumber_20 rfl (Nat.le_of_ble_eq_true rfl) (fun _ _ hh => hcall 33 _ _ _ _ hh) (fun v5 h4 => ?_)
    refine ax_if_eq B 50 d_Schema_symbolNumber_23 (by decide) ?_ ?_
    · refine ax_iconst (v := (-1)) B d_Schema_symbolNumber_50 (by decide) ?_
      exact ax_ireturn B d_Schema_symbolNumber_51
    · refine ax_aload_n B 0 d_Schema_symbolNumber_26 rfl rfl ?_
      refine ax_getfr B cl_Schema (by decide) fk_Schema_9 d_Schema_symbolNumber_27 (fun v6 => ?_)
      refine ax_iload_n B 1 d_Schema_symbolNumber_30 rfl rfl ?_
      refine ax_iconst (v := 2) B d_Schema_symbolNumber_31 (by decide) ?_
      refine ax_iadd B d_Schema_symbolNumber_32 ?_
      refine ax_iload_n B 3 d_Schema_symbolNumber_33 rfl rfl ?_
      refine ax_iadd B d_Schema_symbolNumber_34 ?_
      refine ax_callVi (av := [ax_I ((x1 + 2) + x3)]) (rest := []) B E hm_Row_at cl_Row rfl wd_371 wd_372 lk_Schema_31 d_Schema_symbolNumber_35 rfl (Nat.le_of_ble_eq_true rfl) (fun _ _ hh => hcall 45 _ _ _ _ hh) (fun v8 h7 => ?_)
      refine ax_iload_n B 2 d_Schema_symbolNumber_38 rfl rfl ?_
      refine ax_icmp_ne B 44 d_Schema_symbolNumber_39 (by decide) ?_ ?_
      · refine ax_iinc (v := x3 + 1) (tv2 := [(3, ax_I (x3 + 1)), (0, ax_A x0), (1, ax_I x1), (2, ax_I x2)]) B 3 d_Schema_symbolNumber_44 rfl (congrArg (_ + ·) (by decide)) (by decide) rfl ?_
        refine ax_goto B 2 d_Schema_symbolNumber_47 (by decide) ?_
        refine ax_sub (tv2 := [(0, ax_A x0), (1, ax_I x1), (2, ax_I x2), (3, ax_I (x3 + 1))]) [1, 2, 3, 0] rfl ?_
        exact hk2 x0 x1 x2 (x3 + 1) h7
      · refine ax_iload_n B 3 d_Schema_symbolNumber_42 rfl rfl ?_
        exact ax_ireturn B d_Schema_symbolNumber_43
theorem Schema_symbolNumber_lq2 {l : Launch} {G : ax_G} {d : Nat} {call : ax_Cf} (hcall : ax_Hc l G d call) {p : Program} {e : Env} {s : State} {mi : MethodId} {args : Array Value} {below : List Frame} {meth : Method} {c : Code} {h0 : ax_Hp} (B : ax_B G p s mi meth c "SchemaDesk$Schema" prog_6_method_24_code 4 (some (.int))) (E : c.exceptionTable.isEmpty = true) (Nm : meth.name = y_Schema_symbolNumber.name)   : ∀ (n : Nat) (x0 : Option Nat) (x1 : Int32) (x2 : Int32) (x3 : Int32) (h : ax_Hp), ax_W G p l e s mi args below meth c 4 (d + 1) h0 2 [(0, ax_A x0), (1, ax_I x1), (2, ax_I x2), (3, ax_I x3)] [] h (Schema_symbolNumber_lp2 call  n x0 x1 x2 x3 h)
  | 0, _, _, _, _, _ => ax_none
  | n + 1, x0, x1, x2, x3, h => Schema_symbolNumber_lb2 hcall B E Nm   (Schema_symbolNumber_lq2 hcall B E Nm   n) x0 x1 x2 x3 h
def Schema_symbolNumber_b (call : ax_Cf) (x0 : Option Nat) (x1 : Int32) (x2 : Int32) (h : ax_Hp) : ax_O :=
  Schema_symbolNumber_lp2 call ax_fuel x0 x1 x2 0 h
set_option maxHeartbeats 4000000 in
set_option maxRecDepth 20000 in
theorem Schema_symbolNumber_t {l : Launch} {G : ax_G} {d : Nat} {call : ax_Cf} (hcall : ax_Hc l G d call) (x0 : Option Nat) (x1 : Int32) (x2 : Int32) (h : ax_Hp) {r : ax_Rs} {h' : ax_Hp} (ho : Schema_symbolNumber_b call x0 x1 x2 h = some (r, h')) : ax_C l G (d + 1) y_Schema_symbolNumber (.code y_Schema_symbolNumber prog_6_method_24_code 4 (some (.int))) [ax_A x0, ax_I x1, ax_I x2] h r h' := by
  refine ax_enter (by decide) (Nat.le_of_ble_eq_true rfl) ho (fun p e s mi args below meth c B E Nm => ?_)
  have B : ax_B G p s mi meth c "SchemaDesk$Schema" prog_6_method_24_code 4 (some (.int)) := B
  show ax_W G p l e s mi args below meth c 4 (d + 1) h 0 [(0, ax_A x0), (1, ax_I x1), (2, ax_I x2)] [] h (Schema_symbolNumber_b call x0 x1 x2 h)
  unfold Schema_symbolNumber_b
  refine ax_iconst (v := 0) B d_Schema_symbolNumber_0 (by decide) ?_
  refine ax_istore_n (tv2 := [(3, ax_I 0), (0, ax_A x0), (1, ax_I x1), (2, ax_I x2)]) B d_Schema_symbolNumber_1 rfl (by decide) rfl ?_
  refine ax_sub (tv2 := [(0, ax_A x0), (1, ax_I x1), (2, ax_I x2), (3, ax_I 0)]) [1, 2, 3, 0] rfl ?_
  exact Schema_symbolNumber_lq2 hcall B E Nm ax_fuel x0 x1 x2 0 h

theorem d_Schema_element_0 : decode prog_6_method_14_code 0 = .ok (.iload_n 1, 1) := by decide +kernel
theorem d_Schema_element_1 : decode prog_6_method_14_code 1 = .ok (.iconst 1, 1) := by decide +kernel
theorem d_Schema_element_2 : decode prog_6_method_14_code 2 = .ok (.iadd, 1) := by decide +kernel
theorem d_Schema_element_3 : decode prog_6_method_14_code 3 = .ok (.ireturn, 1) := by decide +kernel
def Schema_element_b (call : ax_Cf) (x0 : Option Nat) (x1 : Int32) (h : ax_Hp) : ax_O :=
  ax_ri (x1 + 1) h
set_option maxHeartbeats 4000000 in
set_option maxRecDepth 20000 in
theorem Schema_element_t {l : Launch} {G : ax_G} {d : Nat} {call : ax_Cf} (hcall : ax_Hc l G d call) (x0 : Option Nat) (x1 : Int32) (h : ax_Hp) {r : ax_Rs} {h' : ax_Hp} (ho : Schema_element_b call x0 x1 h = some (r, h')) : ax_C l G (d + 1) y_Schema_element (.code y_Schema_element prog_6_method_14_code 2 (some (.int))) [ax_A x0, ax_I x1] h r h' := by
  refine ax_enter (by decide) (Nat.le_of_ble_eq_true rfl) ho (fun p e s mi args below meth c B E Nm => ?_)
  have B : ax_B G p s mi meth c "SchemaDesk$Schema" prog_6_method_14_code 2 (some (.int)) := B
  show ax_W G p l e s mi args below meth c 2 (d + 1) h 0 [(0, ax_A x0), (1, ax_I x1)] [] h (Schema_element_b call x0 x1 h)
  unfold Schema_element_b
  refine ax_iload_n B 1 d_Schema_element_0 rfl rfl ?_
  refine ax_iconst (v := 1) B d_Schema_element_1 (by decide) ?_
  refine ax_iadd B d_Schema_element_2 ?_
  exact ax_ireturn B d_Schema_element_3

theorem d_Schema_markUnion_0 : decode prog_6_method_5_code 0 = .ok (.iload_n 1, 1) := by decide +kernel
theorem d_Schema_markUnion_1 : decode prog_6_method_5_code 1 = .ok (.ifCond .lt 19, 3) := by decide +kernel
theorem d_Schema_markUnion_4 : decode prog_6_method_5_code 4 = .ok (.iload_n 1, 1) := by decide +kernel
theorem d_Schema_markUnion_5 : decode prog_6_method_5_code 5 = .ok (.aload_n 0, 1) := by decide +kernel
theorem d_Schema_markUnion_6 : decode prog_6_method_5_code 6 = .ok (.getfield 22, 3) := by decide +kernel
theorem d_Schema_markUnion_9 : decode prog_6_method_5_code 9 = .ok (.arraylength, 1) := by decide +kernel
theorem d_Schema_markUnion_10 : decode prog_6_method_5_code 10 = .ok (.if_icmp .ge 10, 3) := by decide +kernel
theorem d_Schema_markUnion_13 : decode prog_6_method_5_code 13 = .ok (.aload_n 0, 1) := by decide +kernel
theorem d_Schema_markUnion_14 : decode prog_6_method_5_code 14 = .ok (.getfield 22, 3) := by decide +kernel
theorem d_Schema_markUnion_17 : decode prog_6_method_5_code 17 = .ok (.iload_n 1, 1) := by decide +kernel
theorem d_Schema_markUnion_18 : decode prog_6_method_5_code 18 = .ok (.iconst 1, 1) := by decide +kernel
theorem d_Schema_markUnion_19 : decode prog_6_method_5_code 19 = .ok (.iastore, 1) := by decide +kernel
theorem d_Schema_markUnion_20 : decode prog_6_method_5_code 20 = .ok (.return_, 1) := by decide +kernel
def Schema_markUnion_b (call : ax_Cf) (x0 : Option Nat) (x1 : Int32) (h : ax_Hp) : ax_O :=
  if x1 < 0 then
    ax_rv h
  else
    (ax_gr h x0 3 3).bind fun v1 =>
    (ax_len h v1 1).bind fun v2 =>
    if v2 ≤ x1 then
      ax_rv h
    else
      (ax_gr h x0 3 3).bind fun v3 =>
      (ax_st h v3 1 x1 (ax_I 1)).bind fun h4 =>
      ax_rv h4
set_option maxHeartbeats 4000000 in
set_option maxRecDepth 20000 in
theorem Schema_markUnion_t {l : Launch} {G : ax_G} {d : Nat} {call : ax_Cf} (hcall : ax_Hc l G d call) (x0 : Option Nat) (x1 : Int32) (h : ax_Hp) {r : ax_Rs} {h' : ax_Hp} (ho : Schema_markUnion_b call x0 x1 h = some (r, h')) : ax_C l G (d + 1) y_Schema_markUnion (.code y_Schema_markUnion prog_6_method_5_code 2 none) [ax_A x0, ax_I x1] h r h' := by
  refine ax_enter (by decide) (Nat.le_of_ble_eq_true rfl) ho (fun p e s mi args below meth c B E Nm => ?_)
  have B : ax_B G p s mi meth c "SchemaDesk$Schema" prog_6_method_5_code 2 none := B
  show ax_W G p l e s mi args below meth c 2 (d + 1) h 0 [(0, ax_A x0), (1, ax_I x1)] [] h (Schema_markUnion_b call x0 x1 h)
  unfold Schema_markUnion_b
  refine ax_iload_n B 1 d_Schema_markUnion_0 rfl rfl ?_
  refine ax_if_lt B 20 d_Schema_markUnion_1 (by decide) ?_ ?_
  · exact ax_vreturn B d_Schema_markUnion_20
  · refine ax_iload_n B 1 d_Schema_markUnion_4 rfl rfl ?_
    refine ax_aload_n B 0 d_Schema_markUnion_5 rfl rfl ?_
    refine ax_getfr B cl_Schema (by decide) fk_Schema_22 d_Schema_markUnion_6 (fun v1 => ?_)
    refine ax_alen (kd := 1) B (by decide) d_Schema_markUnion_9 (fun v2 => ?_)
    refine ax_icmp_ge B 20 d_Schema_markUnion_10 (by decide) ?_ ?_
    · exact ax_vreturn B d_Schema_markUnion_20
    · refine ax_aload_n B 0 d_Schema_markUnion_13 rfl rfl ?_
      refine ax_getfr B cl_Schema (by decide) fk_Schema_22 d_Schema_markUnion_14 (fun v3 => ?_)
      refine ax_iload_n B 1 d_Schema_markUnion_17 rfl rfl ?_
      refine ax_iconst (v := 1) B d_Schema_markUnion_18 (by decide) ?_
      refine ax_iast (kd := 1) B (by decide) (by decide) rfl d_Schema_markUnion_19 (fun h4 => ?_)
      exact ax_vreturn B d_Schema_markUnion_20

theorem d_Schema_firstPart_0 : decode prog_6_method_15_code 0 = .ok (.iload_n 1, 1) := by decide +kernel
theorem d_Schema_firstPart_1 : decode prog_6_method_15_code 1 = .ok (.iconst 2, 1) := by decide +kernel
theorem d_Schema_firstPart_2 : decode prog_6_method_15_code 2 = .ok (.iadd, 1) := by decide +kernel
theorem d_Schema_firstPart_3 : decode prog_6_method_15_code 3 = .ok (.ireturn, 1) := by decide +kernel
def Schema_firstPart_b (call : ax_Cf) (x0 : Option Nat) (x1 : Int32) (h : ax_Hp) : ax_O :=
  ax_ri (x1 + 2) h
set_option maxHeartbeats 4000000 in
set_option maxRecDepth 20000 in
theorem Schema_firstPart_t {l : Launch} {G : ax_G} {d : Nat} {call : ax_Cf} (hcall : ax_Hc l G d call) (x0 : Option Nat) (x1 : Int32) (h : ax_Hp) {r : ax_Rs} {h' : ax_Hp} (ho : Schema_firstPart_b call x0 x1 h = some (r, h')) : ax_C l G (d + 1) y_Schema_firstPart (.code y_Schema_firstPart prog_6_method_15_code 2 (some (.int))) [ax_A x0, ax_I x1] h r h' := by
  refine ax_enter (by decide) (Nat.le_of_ble_eq_true rfl) ho (fun p e s mi args below meth c B E Nm => ?_)
  have B : ax_B G p s mi meth c "SchemaDesk$Schema" prog_6_method_15_code 2 (some (.int)) := B
  show ax_W G p l e s mi args below meth c 2 (d + 1) h 0 [(0, ax_A x0), (1, ax_I x1)] [] h (Schema_firstPart_b call x0 x1 h)
  unfold Schema_firstPart_b
  refine ax_iload_n B 1 d_Schema_firstPart_0 rfl rfl ?_
  refine ax_iconst (v := 2) B d_Schema_firstPart_1 (by decide) ?_
  refine ax_iadd B d_Schema_firstPart_2 ?_
  exact ax_ireturn B d_Schema_firstPart_3

theorem d_Schema_branch_0 : decode prog_6_method_18_code 0 = .ok (.aload_n 0, 1) := by decide +kernel
theorem d_Schema_branch_1 : decode prog_6_method_18_code 1 = .ok (.iload_n 1, 1) := by decide +kernel
theorem d_Schema_branch_2 : decode prog_6_method_18_code 2 = .ok (.invokevirtual 63, 3) := by decide +kernel
theorem d_Schema_branch_5 : decode prog_6_method_18_code 5 = .ok (.istore_n 3, 1) := by decide +kernel
theorem d_Schema_branch_6 : decode prog_6_method_18_code 6 = .ok (.iconst 0, 1) := by decide +kernel
theorem d_Schema_branch_7 : decode prog_6_method_18_code 7 = .ok (.istore 4, 2) := by decide +kernel
theorem d_Schema_branch_9 : decode prog_6_method_18_code 9 = .ok (.iload 4, 2) := by decide +kernel
theorem d_Schema_branch_11 : decode prog_6_method_18_code 11 = .ok (.iconst 4, 1) := by decide +kernel
theorem d_Schema_branch_12 : decode prog_6_method_18_code 12 = .ok (.if_icmp .ge 28, 3) := by decide +kernel
theorem d_Schema_branch_15 : decode prog_6_method_18_code 15 = .ok (.iload_n 3, 1) := by decide +kernel
theorem d_Schema_branch_16 : decode prog_6_method_18_code 16 = .ok (.iconst (-1), 1) := by decide +kernel
theorem d_Schema_branch_17 : decode prog_6_method_18_code 17 = .ok (.if_icmp .eq 23, 3) := by decide +kernel
theorem d_Schema_branch_20 : decode prog_6_method_18_code 20 = .ok (.iload 4, 2) := by decide +kernel
theorem d_Schema_branch_22 : decode prog_6_method_18_code 22 = .ok (.iload_n 2, 1) := by decide +kernel
theorem d_Schema_branch_23 : decode prog_6_method_18_code 23 = .ok (.if_icmp .ne 5, 3) := by decide +kernel
theorem d_Schema_branch_26 : decode prog_6_method_18_code 26 = .ok (.iload_n 3, 1) := by decide +kernel
theorem d_Schema_branch_27 : decode prog_6_method_18_code 27 = .ok (.ireturn, 1) := by decide +kernel
theorem d_Schema_branch_28 : decode prog_6_method_18_code 28 = .ok (.aload_n 0, 1) := by decide +kernel
theorem d_Schema_branch_29 : decode prog_6_method_18_code 29 = .ok (.iload_n 3, 1) := by decide +kernel
theorem d_Schema_branch_30 : decode prog_6_method_18_code 30 = .ok (.invokevirtual 66, 3) := by decide +kernel
theorem d_Schema_branch_33 : decode prog_6_method_18_code 33 = .ok (.istore_n 3, 1) := by decide +kernel
theorem d_Schema_branch_34 : decode prog_6_method_18_code 34 = .ok (.iinc 4 1, 3) := by decide +kernel
theorem d_Schema_branch_37 : decode prog_6_method_18_code 37 = .ok (.goto (-28), 3) := by decide +kernel
theorem d_Schema_branch_40 : decode prog_6_method_18_code 40 = .ok (.iconst (-1), 1) := by decide +kernel
theorem d_Schema_branch_41 : decode prog_6_method_18_code 41 = .ok (.ireturn, 1) := by decide +kernel
def Schema_branch_bd9 (call : ax_Cf)  (k9 : Option Nat → Int32 → Int32 → Int32 → ax_Hp → ax_O) (x0 : Option Nat) (x2 : Int32) (x3 : Int32) (x4 : Int32) (h : ax_Hp) : ax_O :=
  if 4 ≤ x4 then
    ax_ri (-1) h
  else
    if x3 = (-1) then
      ax_ri (-1) h
    else
      if x4 = x2 then
        ax_ri x3 h
      else
        ax_on h x0 3 <| ax_ci (call 63 [ax_A x0, ax_I x3] h) fun v4 h3 =>
        k9 x0 x2 v4 (x4 + 1) h3
def Schema_branch_lp9 (call : ax_Cf)  : Nat → Option Nat → Int32 → Int32 → Int32 → ax_Hp → ax_O
  | 0 => fun _ _ _ _ _ => none
  | n + 1 => Schema_branch_bd9 call  (Schema_branch_lp9 call  n)
set_option maxHeartbeats 4000000 in
set_option maxRecDepth 20000 in
theorem Schema_branch_lb9 {l : Launch} {G : ax_G} {d : Nat} {call : ax_Cf} (hcall : ax_Hc l G d call) {p : Program} {e : Env} {s : State} {mi : MethodId} {args : Array Value} {below : List Frame} {meth : Method} {c : Code} {h0 : ax_Hp} (B : ax_B G p s mi meth c "SchemaDesk$Schema" prog_6_method_18_code 5 (some (.int))) (E : c.exceptionTable.isEmpty = true) (Nm : meth.name = y_Schema_branch.name)   {k9 : Option Nat → Int32 → Int32 → Int32 → ax_Hp → ax_O} (hk9 : ∀ (x0 : Option Nat) (x2 : Int32) (x3 : Int32) (x4 : Int32) (h : ax_Hp), ax_W G p l e s mi args below meth c 5 (d + 1) h0 9 [(0, ax_A x0), (2, ax_I x2), (3, ax_I x3), (4, ax_I x4)] [] h (k9 x0 x2 x3 x4 h)) (x0 : Option Nat) (x2 : Int32) (x3 : Int32) (x4 : Int32) (h : ax_Hp) : ax_W G p l e s mi args below meth c 5 (d + 1) h0 9 [(0, ax_A x0), (2, ax_I x2), (3, ax_I x3), (4, ax_I x4)] [] h (Schema_branch_bd9 call  k9 x0 x2 x3 x4 h) := by
  unfold Schema_branch_bd9
  refine ax_iload B 3 d_Schema_branch_9 rfl ?_
  refine ax_iconst (v := 4) B d_Schema_branch_11 (by decide) ?_
  refine ax_icmp_ge B 40 d_Schema_branch_12 (by decide) ?_ ?_
  · refine ax_iconst (v := (-1)) B d_Schema_branch_40 (by decide) ?_
    exact ax_ireturn B d_Schema_branch_41
  · refine ax_iload_n B 2 d_Schema_branch_15 rfl rfl ?_
    refine ax_iconst (v := (-1)) B d_Schema_branch_16 (by decide) ?_
    refine ax_icmp_eq B 40 d_Schema_branch_17 (by decide) ?_ ?_
    · refine ax_iconst (v := (-1)) B d_Schema_branch_40 (by decide) ?_
      exact ax_ireturn B d_Schema_branch_41
    · refine ax_iload B 3 d_Schema_branch_20 rfl ?_
      refine ax_iload_n B 1 d_Schema_branch_22 rfl rfl ?_
      refine ax_icmp_ne B 28 d_Schema_branch_23 (by decide) ?_ ?_
      · refine ax_aload_n B 0 d_Schema_branch_28 rfl rfl ?_
        refine ax_iload_n B 2 d_Schema_branch_29 rfl rfl ?_
        refine ax_callVi (av := [ax_I x3]) (rest := []) B E hm_Schema_nextPart cl_Schema rfl wd_452 wd_453 lk_Schema_66 d_Schema_branch_30 rfl (Nat.le_of_ble_eq_true rfl) (fun _ _ hh => hcall 63 _ _ _ _ hh) (fun v4 h3 => ?_)
        refine ax_istore_n (tv2 := [(3, ax_I v4), (0, ax_A x0), (2, ax_I x2), (4, ax_I x4)]) B d_Schema_branch_33 rfl (by decide) rfl ?_
        refine ax_iinc (v := x4 + 1) (tv2 := [(4, ax_I (x4 + 1)), (3, ax_I v4), (0, ax_A x0), (2, ax_I x2)]) B 3 d_Schema_branch_34 rfl (congrArg (_ + ·) (by decide)) (by decide) rfl ?_
        refine ax_goto B 9 d_Schema_branch_37 (by decide) ?_
        refine ax_sub (tv2 := [(0, ax_A x0), (2, ax_I x2), (3, ax_I v4), (4, ax_I (x4 + 1))]) [2, 3, 1, 0] rfl ?_
        exact hk9 x0 x2 v4 (x4 + 1) h3
      · refine ax_iload_n B 2 d_Schema_branch_26 rfl rfl ?_
        exact ax_ireturn B d_Schema_branch_27
theorem Schema_branch_lq9 {l : Launch} {G : ax_G} {d : Nat} {call : ax_Cf} (hcall : ax_Hc l G d call) {p : Program} {e : Env} {s : State} {mi : MethodId} {args : Array Value} {below : List Frame} {meth : Method} {c : Code} {h0 : ax_Hp} (B : ax_B G p s mi meth c "SchemaDesk$Schema" prog_6_method_18_code 5 (some (.int))) (E : c.exceptionTable.isEmpty = true) (Nm : meth.name = y_Schema_branch.name)   : ∀ (n : Nat) (x0 : Option Nat) (x2 : Int32) (x3 : Int32) (x4 : Int32) (h : ax_Hp), ax_W G p l e s mi args below meth c 5 (d + 1) h0 9 [(0, ax_A x0), (2, ax_I x2), (3, ax_I x3), (4, ax_I x4)] [] h (Schema_branch_lp9 call  n x0 x2 x3 x4 h)
  | 0, _, _, _, _, _ => ax_none
  | n + 1, x0, x2, x3, x4, h => Schema_branch_lb9 hcall B E Nm   (Schema_branch_lq9 hcall B E Nm   n) x0 x2 x3 x4 h
def Schema_branch_b (call : ax_Cf) (x0 : Option Nat) (x1 : Int32) (x2 : Int32) (h : ax_Hp) : ax_O :=
  ax_on h x0 3 <| ax_ci (call 60 [ax_A x0, ax_I x1] h) fun v2 h1 =>
  Schema_branch_lp9 call ax_fuel x0 x2 v2 0 h1
set_option maxHeartbeats 4000000 in
set_option maxRecDepth 20000 in
theorem Schema_branch_t {l : Launch} {G : ax_G} {d : Nat} {call : ax_Cf} (hcall : ax_Hc l G d call) (x0 : Option Nat) (x1 : Int32) (x2 : Int32) (h : ax_Hp) {r : ax_Rs} {h' : ax_Hp} (ho : Schema_branch_b call x0 x1 x2 h = some (r, h')) : ax_C l G (d + 1) y_Schema_branch (.code y_Schema_branch prog_6_method_18_code 5 (some (.int))) [ax_A x0, ax_I x1, ax_I x2] h r h' := by
  refine ax_enter (by decide) (Nat.le_of_ble_eq_true rfl) ho (fun p e s mi args below meth c B E Nm => ?_)
  have B : ax_B G p s mi meth c "SchemaDesk$Schema" prog_6_method_18_code 5 (some (.int)) := B
  show ax_W G p l e s mi args below meth c 5 (d + 1) h 0 [(0, ax_A x0), (1, ax_I x1), (2, ax_I x2)] [] h (Schema_branch_b call x0 x1 x2 h)
  unfold Schema_branch_b
  refine ax_aload_n B 0 d_Schema_branch_0 rfl rfl ?_
  refine ax_iload_n B 1 d_Schema_branch_1 rfl rfl ?_
  refine ax_callVi (av := [ax_I x1]) (rest := []) B E hm_Schema_firstPart cl_Schema rfl wd_439 wd_440 lk_Schema_63 d_Schema_branch_2 rfl (Nat.le_of_ble_eq_true rfl) (fun _ _ hh => hcall 60 _ _ _ _ hh) (fun v2 h1 => ?_)
  refine ax_istore_n (tv2 := [(3, ax_I v2), (0, ax_A x0), (1, ax_I x1), (2, ax_I x2)]) B d_Schema_branch_5 rfl (by decide) rfl ?_
  refine ax_iconst (v := 0) B d_Schema_branch_6 (by decide) ?_
  refine ax_istore (tv2 := [(4, ax_I 0), (3, ax_I v2), (0, ax_A x0), (1, ax_I x1), (2, ax_I x2)]) B d_Schema_branch_7 (by decide) rfl ?_
  refine ax_sub (tv2 := [(0, ax_A x0), (2, ax_I x2), (3, ax_I v2), (4, ax_I 0)]) [2, 4, 1, 0] rfl ?_
  exact Schema_branch_lq9 hcall B E Nm ax_fuel x0 x2 v2 0 h1

theorem d_Schema_nextPart_0 : decode prog_6_method_16_code 0 = .ok (.iload_n 1, 1) := by decide +kernel
theorem d_Schema_nextPart_1 : decode prog_6_method_16_code 1 = .ok (.ifCond .lt 21, 3) := by decide +kernel
theorem d_Schema_nextPart_4 : decode prog_6_method_16_code 4 = .ok (.iload_n 1, 1) := by decide +kernel
theorem d_Schema_nextPart_5 : decode prog_6_method_16_code 5 = .ok (.aload_n 0, 1) := by decide +kernel
theorem d_Schema_nextPart_6 : decode prog_6_method_16_code 6 = .ok (.getfield 19, 3) := by decide +kernel
theorem d_Schema_nextPart_9 : decode prog_6_method_16_code 9 = .ok (.arraylength, 1) := by decide +kernel
theorem d_Schema_nextPart_10 : decode prog_6_method_16_code 10 = .ok (.if_icmp .ge 12, 3) := by decide +kernel
theorem d_Schema_nextPart_13 : decode prog_6_method_16_code 13 = .ok (.aload_n 0, 1) := by decide +kernel
theorem d_Schema_nextPart_14 : decode prog_6_method_16_code 14 = .ok (.getfield 19, 3) := by decide +kernel
theorem d_Schema_nextPart_17 : decode prog_6_method_16_code 17 = .ok (.iload_n 1, 1) := by decide +kernel
theorem d_Schema_nextPart_18 : decode prog_6_method_16_code 18 = .ok (.iaload, 1) := by decide +kernel
theorem d_Schema_nextPart_19 : decode prog_6_method_16_code 19 = .ok (.goto 4, 3) := by decide +kernel
theorem d_Schema_nextPart_22 : decode prog_6_method_16_code 22 = .ok (.iconst (-1), 1) := by decide +kernel
theorem d_Schema_nextPart_23 : decode prog_6_method_16_code 23 = .ok (.ireturn, 1) := by decide +kernel
def Schema_nextPart_b (call : ax_Cf) (x0 : Option Nat) (x1 : Int32) (h : ax_Hp) : ax_O :=
  if x1 < 0 then
    ax_ri (-1) h
  else
    (ax_gr h x0 3 2).bind fun v1 =>
    (ax_len h v1 1).bind fun v2 =>
    if v2 ≤ x1 then
      ax_ri (-1) h
    else
      (ax_gr h x0 3 2).bind fun v3 =>
      (ax_ldi h v3 1 x1).bind fun v4 =>
      ax_ri v4 h
set_option maxHeartbeats 4000000 in
set_option maxRecDepth 20000 in
theorem Schema_nextPart_t {l : Launch} {G : ax_G} {d : Nat} {call : ax_Cf} (hcall : ax_Hc l G d call) (x0 : Option Nat) (x1 : Int32) (h : ax_Hp) {r : ax_Rs} {h' : ax_Hp} (ho : Schema_nextPart_b call x0 x1 h = some (r, h')) : ax_C l G (d + 1) y_Schema_nextPart (.code y_Schema_nextPart prog_6_method_16_code 2 (some (.int))) [ax_A x0, ax_I x1] h r h' := by
  refine ax_enter (by decide) (Nat.le_of_ble_eq_true rfl) ho (fun p e s mi args below meth c B E Nm => ?_)
  have B : ax_B G p s mi meth c "SchemaDesk$Schema" prog_6_method_16_code 2 (some (.int)) := B
  show ax_W G p l e s mi args below meth c 2 (d + 1) h 0 [(0, ax_A x0), (1, ax_I x1)] [] h (Schema_nextPart_b call x0 x1 h)
  unfold Schema_nextPart_b
  refine ax_iload_n B 1 d_Schema_nextPart_0 rfl rfl ?_
  refine ax_if_lt B 22 d_Schema_nextPart_1 (by decide) ?_ ?_
  · refine ax_iconst (v := (-1)) B d_Schema_nextPart_22 (by decide) ?_
    exact ax_ireturn B d_Schema_nextPart_23
  · refine ax_iload_n B 1 d_Schema_nextPart_4 rfl rfl ?_
    refine ax_aload_n B 0 d_Schema_nextPart_5 rfl rfl ?_
    refine ax_getfr B cl_Schema (by decide) fk_Schema_19 d_Schema_nextPart_6 (fun v1 => ?_)
    refine ax_alen (kd := 1) B (by decide) d_Schema_nextPart_9 (fun v2 => ?_)
    refine ax_icmp_ge B 22 d_Schema_nextPart_10 (by decide) ?_ ?_
    · refine ax_iconst (v := (-1)) B d_Schema_nextPart_22 (by decide) ?_
      exact ax_ireturn B d_Schema_nextPart_23
    · refine ax_aload_n B 0 d_Schema_nextPart_13 rfl rfl ?_
      refine ax_getfr B cl_Schema (by decide) fk_Schema_19 d_Schema_nextPart_14 (fun v3 => ?_)
      refine ax_iload_n B 1 d_Schema_nextPart_17 rfl rfl ?_
      refine ax_iald (kd := 1) B (by decide) rfl d_Schema_nextPart_18 (fun v4 => ?_)
      refine ax_goto B 23 d_Schema_nextPart_19 (by decide) ?_
      exact ax_ireturn B d_Schema_nextPart_23

theorem d_Schema_fieldType_0 : decode prog_6_method_20_code 0 = .ok (.iload_n 1, 1) := by decide +kernel
theorem d_Schema_fieldType_1 : decode prog_6_method_20_code 1 = .ok (.iconst 2, 1) := by decide +kernel
theorem d_Schema_fieldType_2 : decode prog_6_method_20_code 2 = .ok (.iadd, 1) := by decide +kernel
theorem d_Schema_fieldType_3 : decode prog_6_method_20_code 3 = .ok (.ireturn, 1) := by decide +kernel
def Schema_fieldType_b (call : ax_Cf) (x0 : Option Nat) (x1 : Int32) (h : ax_Hp) : ax_O :=
  ax_ri (x1 + 2) h
set_option maxHeartbeats 4000000 in
set_option maxRecDepth 20000 in
theorem Schema_fieldType_t {l : Launch} {G : ax_G} {d : Nat} {call : ax_Cf} (hcall : ax_Hc l G d call) (x0 : Option Nat) (x1 : Int32) (h : ax_Hp) {r : ax_Rs} {h' : ax_Hp} (ho : Schema_fieldType_b call x0 x1 h = some (r, h')) : ax_C l G (d + 1) y_Schema_fieldType (.code y_Schema_fieldType prog_6_method_20_code 2 (some (.int))) [ax_A x0, ax_I x1] h r h' := by
  refine ax_enter (by decide) (Nat.le_of_ble_eq_true rfl) ho (fun p e s mi args below meth c B E Nm => ?_)
  have B : ax_B G p s mi meth c "SchemaDesk$Schema" prog_6_method_20_code 2 (some (.int)) := B
  show ax_W G p l e s mi args below meth c 2 (d + 1) h 0 [(0, ax_A x0), (1, ax_I x1)] [] h (Schema_fieldType_b call x0 x1 h)
  unfold Schema_fieldType_b
  refine ax_iload_n B 1 d_Schema_fieldType_0 rfl rfl ?_
  refine ax_iconst (v := 2) B d_Schema_fieldType_1 (by decide) ?_
  refine ax_iadd B d_Schema_fieldType_2 ?_
  exact ax_ireturn B d_Schema_fieldType_3

theorem d_Schema_sameTextAs_0 : decode prog_6_method_9_code 0 = .ok (.aload_n 0, 1) := by decide +kernel
theorem d_Schema_sameTextAs_1 : decode prog_6_method_9_code 1 = .ok (.getfield 9, 3) := by decide +kernel
theorem d_Schema_sameTextAs_4 : decode prog_6_method_9_code 4 = .ok (.aload_n 1, 1) := by decide +kernel
theorem d_Schema_sameTextAs_5 : decode prog_6_method_9_code 5 = .ok (.getfield 9, 3) := by decide +kernel
theorem d_Schema_sameTextAs_8 : decode prog_6_method_9_code 8 = .ok (.invokevirtual 37, 3) := by decide +kernel
theorem d_Schema_sameTextAs_11 : decode prog_6_method_9_code 11 = .ok (.ireturn, 1) := by decide +kernel
def Schema_sameTextAs_b (call : ax_Cf) (x0 : Option Nat) (x1 : Option Nat) (h : ax_Hp) : ax_O :=
  (ax_gr h x0 3 0).bind fun v1 =>
  (ax_gr h x1 3 0).bind fun v2 =>
  ax_on h v1 2 <| ax_ci (call 68 [ax_A v1, ax_A v2] h) fun v4 h3 =>
  ax_rz v4 h3
set_option maxHeartbeats 4000000 in
set_option maxRecDepth 20000 in
theorem Schema_sameTextAs_t {l : Launch} {G : ax_G} {d : Nat} {call : ax_Cf} (hcall : ax_Hc l G d call) (x0 : Option Nat) (x1 : Option Nat) (h : ax_Hp) {r : ax_Rs} {h' : ax_Hp} (ho : Schema_sameTextAs_b call x0 x1 h = some (r, h')) : ax_C l G (d + 1) y_Schema_sameTextAs (.code y_Schema_sameTextAs prog_6_method_9_code 2 (some (.boolean))) [ax_A x0, ax_A x1] h r h' := by
  refine ax_enter (by decide) (Nat.le_of_ble_eq_true rfl) ho (fun p e s mi args below meth c B E Nm => ?_)
  have B : ax_B G p s mi meth c "SchemaDesk$Schema" prog_6_method_9_code 2 (some (.boolean)) := B
  show ax_W G p l e s mi args below meth c 2 (d + 1) h 0 [(0, ax_A x0), (1, ax_A x1)] [] h (Schema_sameTextAs_b call x0 x1 h)
  unfold Schema_sameTextAs_b
  refine ax_aload_n B 0 d_Schema_sameTextAs_0 rfl rfl ?_
  refine ax_getfr B cl_Schema (by decide) fk_Schema_9 d_Schema_sameTextAs_1 (fun v1 => ?_)
  refine ax_aload_n B 1 d_Schema_sameTextAs_4 rfl rfl ?_
  refine ax_getfr B cl_Schema (by decide) fk_Schema_9 d_Schema_sameTextAs_5 (fun v2 => ?_)
  refine ax_callVi (av := [ax_A v2]) (rest := []) B E hm_Row_sameAs cl_Row rfl wd_475 wd_476 lk_Schema_37 d_Schema_sameTextAs_8 rfl (Nat.le_of_ble_eq_true rfl) (fun _ _ hh => hcall 68 _ _ _ _ hh) (fun v4 h3 => ?_)
  exact ax_zreturn B d_Schema_sameTextAs_11

theorem d_Schema_symbolDefault_0 : decode prog_6_method_25_code 0 = .ok (.aload_n 0, 1) := by decide +kernel
theorem d_Schema_symbolDefault_1 : decode prog_6_method_25_code 1 = .ok (.iload_n 1, 1) := by decide +kernel
theorem d_Schema_symbolDefault_2 : decode prog_6_method_25_code 2 = .ok (.invokevirtual 60, 3) := by decide +kernel
theorem d_Schema_symbolDefault_5 : decode prog_6_method_25_code 5 = .ok (.iconst 2, 1) := by decide +kernel
theorem d_Schema_symbolDefault_6 : decode prog_6_method_25_code 6 = .ok (.isub, 1) := by decide +kernel
theorem d_Schema_symbolDefault_7 : decode prog_6_method_25_code 7 = .ok (.istore_n 2, 1) := by decide +kernel
theorem d_Schema_symbolDefault_8 : decode prog_6_method_25_code 8 = .ok (.aload_n 0, 1) := by decide +kernel
theorem d_Schema_symbolDefault_9 : decode prog_6_method_25_code 9 = .ok (.getfield 9, 3) := by decide +kernel
theorem d_Schema_symbolDefault_12 : decode prog_6_method_25_code 12 = .ok (.iload_n 2, 1) := by decide +kernel
theorem d_Schema_symbolDefault_13 : decode prog_6_method_25_code 13 = .ok (.iconst 1, 1) := by decide +kernel
theorem d_Schema_symbolDefault_14 : decode prog_6_method_25_code 14 = .ok (.isub, 1) := by decide +kernel
theorem d_Schema_symbolDefault_15 : decode prog_6_method_25_code 15 = .ok (.invokevirtual 31, 3) := by decide +kernel
theorem d_Schema_symbolDefault_18 : decode prog_6_method_25_code 18 = .ok (.bipush 61, 2) := by decide +kernel
theorem d_Schema_symbolDefault_20 : decode prog_6_method_25_code 20 = .ok (.if_icmp .ne 14, 3) := by decide +kernel
theorem d_Schema_symbolDefault_23 : decode prog_6_method_25_code 23 = .ok (.aload_n 0, 1) := by decide +kernel
theorem d_Schema_symbolDefault_24 : decode prog_6_method_25_code 24 = .ok (.getfield 9, 3) := by decide +kernel
theorem d_Schema_symbolDefault_27 : decode prog_6_method_25_code 27 = .ok (.iload_n 2, 1) := by decide +kernel
theorem d_Schema_symbolDefault_28 : decode prog_6_method_25_code 28 = .ok (.invokevirtual 31, 3) := by decide +kernel
theorem d_Schema_symbolDefault_31 : decode prog_6_method_25_code 31 = .ok (.goto 4, 3) := by decide +kernel
theorem d_Schema_symbolDefault_34 : decode prog_6_method_25_code 34 = .ok (.iconst (-1), 1) := by decide +kernel
theorem d_Schema_symbolDefault_35 : decode prog_6_method_25_code 35 = .ok (.ireturn, 1) := by decide +kernel
def Schema_symbolDefault_b (call : ax_Cf) (x0 : Option Nat) (x1 : Int32) (h : ax_Hp) : ax_O :=
  ax_on h x0 3 <| ax_ci (call 77 [ax_A x0, ax_I x1] h) fun v2 h1 =>
  (ax_gr h1 x0 3 0).bind fun v3 =>
  ax_on h1 v3 2 <| ax_ci (call 45 [ax_A v3, ax_I ((v2 - 2) - 1)] h1) fun v5 h4 =>
  if v5 = 61 then
    (ax_gr h4 x0 3 0).bind fun v6 =>
    ax_on h4 v6 2 <| ax_ci (call 45 [ax_A v6, ax_I (v2 - 2)] h4) fun v8 h7 =>
    ax_ri v8 h7
  else
    ax_ri (-1) h4
set_option maxHeartbeats 4000000 in
set_option maxRecDepth 20000 in
theorem Schema_symbolDefault_t {l : Launch} {G : ax_G} {d : Nat} {call : ax_Cf} (hcall : ax_Hc l G d call) (x0 : Option Nat) (x1 : Int32) (h : ax_Hp) {r : ax_Rs} {h' : ax_Hp} (ho : Schema_symbolDefault_b call x0 x1 h = some (r, h')) : ax_C l G (d + 1) y_Schema_symbolDefault (.code y_Schema_symbolDefault prog_6_method_25_code 3 (some (.int))) [ax_A x0, ax_I x1] h r h' := by
  refine ax_enter (by decide) (Nat.le_of_ble_eq_true rfl) ho (fun p e s mi args below meth c B E Nm => ?_)
  have B : ax_B G p s mi meth c "SchemaDesk$Schema" prog_6_method_25_code 3 (some (.int)) := B
  show ax_W G p l e s mi args below meth c 3 (d + 1) h 0 [(0, ax_A x0), (1, ax_I x1)] [] h (Schema_symbolDefault_b call x0 x1 h)
  unfold Schema_symbolDefault_b
  refine ax_aload_n B 0 d_Schema_symbolDefault_0 rfl rfl ?_
  refine ax_iload_n B 1 d_Schema_symbolDefault_1 rfl rfl ?_
  refine ax_callVi (av := [ax_I x1]) (rest := []) B E hm_Schema_end cl_Schema rfl wd_510 wd_511 lk_Schema_60 d_Schema_symbolDefault_2 rfl (Nat.le_of_ble_eq_true rfl) (fun _ _ hh => hcall 77 _ _ _ _ hh) (fun v2 h1 => ?_)
  refine ax_iconst (v := 2) B d_Schema_symbolDefault_5 (by decide) ?_
  refine ax_isub B d_Schema_symbolDefault_6 ?_
  refine ax_istore_n (tv2 := [(2, ax_I (v2 - 2)), (0, ax_A x0), (1, ax_I x1)]) B d_Schema_symbolDefault_7 rfl (by decide) rfl ?_
  refine ax_aload_n B 1 d_Schema_symbolDefault_8 rfl rfl ?_
  refine ax_getfr B cl_Schema (by decide) fk_Schema_9 d_Schema_symbolDefault_9 (fun v3 => ?_)
  refine ax_iload_n B 0 d_Schema_symbolDefault_12 rfl rfl ?_
  refine ax_iconst (v := 1) B d_Schema_symbolDefault_13 (by decide) ?_
  refine ax_isub B d_Schema_symbolDefault_14 ?_
  refine ax_callVi (av := [ax_I ((v2 - 2) - 1)]) (rest := []) B E hm_Row_at cl_Row rfl wd_371 wd_372 lk_Schema_31 d_Schema_symbolDefault_15 rfl (Nat.le_of_ble_eq_true rfl) (fun _ _ hh => hcall 45 _ _ _ _ hh) (fun v5 h4 => ?_)
  refine ax_bipush (v := 61) B d_Schema_symbolDefault_18 (by decide) ?_
  refine ax_icmp_ne B 34 d_Schema_symbolDefault_20 (by decide) ?_ ?_
  · refine ax_iconst (v := (-1)) B d_Schema_symbolDefault_34 (by decide) ?_
    exact ax_ireturn B d_Schema_symbolDefault_35
  · refine ax_aload_n B 1 d_Schema_symbolDefault_23 rfl rfl ?_
    refine ax_getfr B cl_Schema (by decide) fk_Schema_9 d_Schema_symbolDefault_24 (fun v6 => ?_)
    refine ax_iload_n B 0 d_Schema_symbolDefault_27 rfl rfl ?_
    refine ax_callVi (av := [ax_I (v2 - 2)]) (rest := []) B E hm_Row_at cl_Row rfl wd_371 wd_372 lk_Schema_31 d_Schema_symbolDefault_28 rfl (Nat.le_of_ble_eq_true rfl) (fun _ _ hh => hcall 45 _ _ _ _ hh) (fun v8 h7 => ?_)
    refine ax_goto B 35 d_Schema_symbolDefault_31 (by decide) ?_
    exact ax_ireturn B d_Schema_symbolDefault_35

theorem d_Schema_end_0 : decode prog_6_method_7_code 0 = .ok (.iload_n 1, 1) := by decide +kernel
theorem d_Schema_end_1 : decode prog_6_method_7_code 1 = .ok (.ifCond .lt 21, 3) := by decide +kernel
theorem d_Schema_end_4 : decode prog_6_method_7_code 4 = .ok (.iload_n 1, 1) := by decide +kernel
theorem d_Schema_end_5 : decode prog_6_method_7_code 5 = .ok (.aload_n 0, 1) := by decide +kernel
theorem d_Schema_end_6 : decode prog_6_method_7_code 6 = .ok (.getfield 15, 3) := by decide +kernel
theorem d_Schema_end_9 : decode prog_6_method_7_code 9 = .ok (.arraylength, 1) := by decide +kernel
theorem d_Schema_end_10 : decode prog_6_method_7_code 10 = .ok (.if_icmp .ge 12, 3) := by decide +kernel
theorem d_Schema_end_13 : decode prog_6_method_7_code 13 = .ok (.aload_n 0, 1) := by decide +kernel
theorem d_Schema_end_14 : decode prog_6_method_7_code 14 = .ok (.getfield 15, 3) := by decide +kernel
theorem d_Schema_end_17 : decode prog_6_method_7_code 17 = .ok (.iload_n 1, 1) := by decide +kernel
theorem d_Schema_end_18 : decode prog_6_method_7_code 18 = .ok (.iaload, 1) := by decide +kernel
theorem d_Schema_end_19 : decode prog_6_method_7_code 19 = .ok (.goto 4, 3) := by decide +kernel
theorem d_Schema_end_22 : decode prog_6_method_7_code 22 = .ok (.iconst (-1), 1) := by decide +kernel
theorem d_Schema_end_23 : decode prog_6_method_7_code 23 = .ok (.ireturn, 1) := by decide +kernel
def Schema_end_b (call : ax_Cf) (x0 : Option Nat) (x1 : Int32) (h : ax_Hp) : ax_O :=
  if x1 < 0 then
    ax_ri (-1) h
  else
    (ax_gr h x0 3 1).bind fun v1 =>
    (ax_len h v1 1).bind fun v2 =>
    if v2 ≤ x1 then
      ax_ri (-1) h
    else
      (ax_gr h x0 3 1).bind fun v3 =>
      (ax_ldi h v3 1 x1).bind fun v4 =>
      ax_ri v4 h
set_option maxHeartbeats 4000000 in
set_option maxRecDepth 20000 in
theorem Schema_end_t {l : Launch} {G : ax_G} {d : Nat} {call : ax_Cf} (hcall : ax_Hc l G d call) (x0 : Option Nat) (x1 : Int32) (h : ax_Hp) {r : ax_Rs} {h' : ax_Hp} (ho : Schema_end_b call x0 x1 h = some (r, h')) : ax_C l G (d + 1) y_Schema_end (.code y_Schema_end prog_6_method_7_code 2 (some (.int))) [ax_A x0, ax_I x1] h r h' := by
  refine ax_enter (by decide) (Nat.le_of_ble_eq_true rfl) ho (fun p e s mi args below meth c B E Nm => ?_)
  have B : ax_B G p s mi meth c "SchemaDesk$Schema" prog_6_method_7_code 2 (some (.int)) := B
  show ax_W G p l e s mi args below meth c 2 (d + 1) h 0 [(0, ax_A x0), (1, ax_I x1)] [] h (Schema_end_b call x0 x1 h)
  unfold Schema_end_b
  refine ax_iload_n B 1 d_Schema_end_0 rfl rfl ?_
  refine ax_if_lt B 22 d_Schema_end_1 (by decide) ?_ ?_
  · refine ax_iconst (v := (-1)) B d_Schema_end_22 (by decide) ?_
    exact ax_ireturn B d_Schema_end_23
  · refine ax_iload_n B 1 d_Schema_end_4 rfl rfl ?_
    refine ax_aload_n B 0 d_Schema_end_5 rfl rfl ?_
    refine ax_getfr B cl_Schema (by decide) fk_Schema_15 d_Schema_end_6 (fun v1 => ?_)
    refine ax_alen (kd := 1) B (by decide) d_Schema_end_9 (fun v2 => ?_)
    refine ax_icmp_ge B 22 d_Schema_end_10 (by decide) ?_ ?_
    · refine ax_iconst (v := (-1)) B d_Schema_end_22 (by decide) ?_
      exact ax_ireturn B d_Schema_end_23
    · refine ax_aload_n B 0 d_Schema_end_13 rfl rfl ?_
      refine ax_getfr B cl_Schema (by decide) fk_Schema_15 d_Schema_end_14 (fun v3 => ?_)
      refine ax_iload_n B 1 d_Schema_end_17 rfl rfl ?_
      refine ax_iald (kd := 1) B (by decide) rfl d_Schema_end_18 (fun v4 => ?_)
      refine ax_goto B 23 d_Schema_end_19 (by decide) ?_
      exact ax_ireturn B d_Schema_end_23

theorem d_Schema_symbolCount_0 : decode prog_6_method_22_code 0 = .ok (.iconst 0, 1) := by decide +kernel
theorem d_Schema_symbolCount_1 : decode prog_6_method_22_code 1 = .ok (.istore_n 2, 1) := by decide +kernel
theorem d_Schema_symbolCount_2 : decode prog_6_method_22_code 2 = .ok (.iconst 0, 1) := by decide +kernel
theorem d_Schema_symbolCount_3 : decode prog_6_method_22_code 3 = .ok (.istore_n 3, 1) := by decide +kernel
theorem d_Schema_symbolCount_4 : decode prog_6_method_22_code 4 = .ok (.iload_n 3, 1) := by decide +kernel
theorem d_Schema_symbolCount_5 : decode prog_6_method_22_code 5 = .ok (.bipush 8, 2) := by decide +kernel
theorem d_Schema_symbolCount_7 : decode prog_6_method_22_code 7 = .ok (.if_icmp .ge 30, 3) := by decide +kernel
theorem d_Schema_symbolCount_10 : decode prog_6_method_22_code 10 = .ok (.aload_n 0, 1) := by decide +kernel
theorem d_Schema_symbolCount_11 : decode prog_6_method_22_code 11 = .ok (.getfield 9, 3) := by decide +kernel
theorem d_Schema_symbolCount_14 : decode prog_6_method_22_code 14 = .ok (.iload_n 1, 1) := by decide +kernel
theorem d_Schema_symbolCount_15 : decode prog_6_method_22_code 15 = .ok (.iconst 2, 1) := by decide +kernel
theorem d_Schema_symbolCount_16 : decode prog_6_method_22_code 16 = .ok (.iadd, 1) := by decide +kernel
theorem d_Schema_symbolCount_17 : decode prog_6_method_22_code 17 = .ok (.iload_n 3, 1) := by decide +kernel
theorem d_Schema_symbolCount_18 : decode prog_6_method_22_code 18 = .ok (.iadd, 1) := by decide +kernel
theorem d_Schema_symbolCount_19 : decode prog_6_method_22_code 19 = .ok (.invokevirtual 31, 3) := by decide +kernel
theorem d_Schema_symbolCount_22 : decode prog_6_method_22_code 22 = .ok (.invokestatic 72, 3) := by decide +kernel
theorem d_Schema_symbolCount_25 : decode prog_6_method_22_code 25 = .ok (.ifCond .eq 12, 3) := by decide +kernel
theorem d_Schema_symbolCount_28 : decode prog_6_method_22_code 28 = .ok (.iinc 2 1, 3) := by decide +kernel
theorem d_Schema_symbolCount_31 : decode prog_6_method_22_code 31 = .ok (.iinc 3 1, 3) := by decide +kernel
theorem d_Schema_symbolCount_34 : decode prog_6_method_22_code 34 = .ok (.goto (-30), 3) := by decide +kernel
theorem d_Schema_symbolCount_37 : decode prog_6_method_22_code 37 = .ok (.iload_n 2, 1) := by decide +kernel
theorem d_Schema_symbolCount_38 : decode prog_6_method_22_code 38 = .ok (.ireturn, 1) := by decide +kernel
def Schema_symbolCount_bd4 (call : ax_Cf)  (k4 : Option Nat → Int32 → Int32 → Int32 → ax_Hp → ax_O) (x0 : Option Nat) (x1 : Int32) (x2 : Int32) (x3 : Int32) (h : ax_Hp) : ax_O :=
  if 8 ≤ x3 then
    ax_ri x2 h
  else
    (ax_gr h x0 3 0).bind fun v1 =>
    ax_on h v1 2 <| ax_ci (call 45 [ax_A v1, ax_I ((x1 + 2) + x3)] h) fun v3 h2 =>
    ax_ci (call 33 [ax_I v3] h2) fun v5 h4 =>
    if v5 = 0 then
      ax_ri x2 h4
    else
      k4 x0 x1 (x2 + 1) (x3 + 1) h4
def Schema_symbolCount_lp4 (call : ax_Cf)  : Nat → Option Nat → Int32 → Int32 → Int32 → ax_Hp → ax_O
  | 0 => fun _ _ _ _ _ => none
  | n + 1 => Schema_symbolCount_bd4 call  (Schema_symbolCount_lp4 call  n)
set_option maxHeartbeats 4000000 in
set_option maxRecDepth 20000 in
theorem Schema_symbolCount_lb4 {l : Launch} {G : ax_G} {d : Nat} {call : ax_Cf} (hcall : ax_Hc l G d call) {p : Program} {e : Env} {s : State} {mi : MethodId} {args : Array Value} {below : List Frame} {meth : Method} {c : Code} {h0 : ax_Hp} (B : ax_B G p s mi meth c "SchemaDesk$Schema" prog_6_method_22_code 4 (some (.int))) (E : c.exceptionTable.isEmpty = true) (Nm : meth.name = y_Schema_symbolCount.name)   {k4 : Option Nat → Int32 → Int32 → Int32 → ax_Hp → ax_O} (hk4 : ∀ (x0 : Option Nat) (x1 : Int32) (x2 : Int32) (x3 : Int32) (h : ax_Hp), ax_W G p l e s mi args below meth c 4 (d + 1) h0 4 [(0, ax_A x0), (1, ax_I x1), (2, ax_I x2), (3, ax_I x3)] [] h (k4 x0 x1 x2 x3 h)) (x0 : Option Nat) (x1 : Int32) (x2 : Int32) (x3 : Int32) (h : ax_Hp) : ax_W G p l e s mi args below meth c 4 (d + 1) h0 4 [(0, ax_A x0), (1, ax_I x1), (2, ax_I x2), (3, ax_I x3)] [] h (Schema_symbolCount_bd4 call  k4 x0 x1 x2 x3 h) := by
  unfold Schema_symbolCount_bd4
  refine ax_iload_n B 3 d_Schema_symbolCount_4 rfl rfl ?_
  refine ax_bipush (v := 8) B d_Schema_symbolCount_5 (by decide) ?_
  refine ax_icmp_ge B 37 d_Schema_symbolCount_7 (by decide) ?_ ?_
  · refine ax_iload_n B 2 d_Schema_symbolCount_37 rfl rfl ?_
    exact ax_ireturn B d_Schema_symbolCount_38
  · refine ax_aload_n B 0 d_Schema_symbolCount_10 rfl rfl ?_
    refine ax_getfr B cl_Schema (by decide) fk_Schema_9 d_Schema_symbolCount_11 (fun v1 => ?_)
    refine ax_iload_n B 1 d_Schema_symbolCount_14 rfl rfl ?_
    refine ax_iconst (v := 2) B d_Schema_symbolCount_15 (by decide) ?_
    refine ax_iadd B d_Schema_symbolCount_16 ?_
    refine ax_iload_n B 3 d_Schema_symbolCount_17 rfl rfl ?_
    refine ax_iadd B d_Schema_symbolCount_18 ?_
    refine ax_callVi (av := [ax_I ((x1 + 2) + x3)]) (rest := []) B E hm_Row_at cl_Row rfl wd_371 wd_372 lk_Schema_31 d_Schema_symbolCount_19 rfl (Nat.le_of_ble_eq_true rfl) (fun _ _ hh => hcall 45 _ _ _ _ hh) (fun v3 h2 => ?_)
    refine ax_callSi (av := [ax_I v3]) (rest := []) B E hm_Desk_isSmallLetter wd_325 lk_Schema_72 d_Schema_symbolCount_22 rfl (Nat.le_of_ble_eq_true rfl) (fun _ _ hh => hcall 33 _ _ _ _ hh) (fun v5 h4 => ?_)
    refine ax_if_eq B 37 d_Schema_symbolCount_25 (by decide) ?_ ?_
    · refine ax_iload_n B 2 d_Schema_symbolCount_37 rfl rfl ?_
      exact ax_ireturn B d_Schema_symbolCount_38
    · refine ax_iinc (v := x2 + 1) (tv2 := [(2, ax_I (x2 + 1)), (0, ax_A x0), (1, ax_I x1), (3, ax_I x3)]) B 2 d_Schema_symbolCount_28 rfl (congrArg (_ + ·) (by decide)) (by decide) rfl ?_
      refine ax_iinc (v := x3 + 1) (tv2 := [(3, ax_I (x3 + 1)), (2, ax_I (x2 + 1)), (0, ax_A x0), (1, ax_I x1)]) B 3 d_Schema_symbolCount_31 rfl (congrArg (_ + ·) (by decide)) (by decide) rfl ?_
      refine ax_goto B 4 d_Schema_symbolCount_34 (by decide) ?_
      refine ax_sub (tv2 := [(0, ax_A x0), (1, ax_I x1), (2, ax_I (x2 + 1)), (3, ax_I (x3 + 1))]) [2, 3, 1, 0] rfl ?_
      exact hk4 x0 x1 (x2 + 1) (x3 + 1) h4
theorem Schema_symbolCount_lq4 {l : Launch} {G : ax_G} {d : Nat} {call : ax_Cf} (hcall : ax_Hc l G d call) {p : Program} {e : Env} {s : State} {mi : MethodId} {args : Array Value} {below : List Frame} {meth : Method} {c : Code} {h0 : ax_Hp} (B : ax_B G p s mi meth c "SchemaDesk$Schema" prog_6_method_22_code 4 (some (.int))) (E : c.exceptionTable.isEmpty = true) (Nm : meth.name = y_Schema_symbolCount.name)   : ∀ (n : Nat) (x0 : Option Nat) (x1 : Int32) (x2 : Int32) (x3 : Int32) (h : ax_Hp), ax_W G p l e s mi args below meth c 4 (d + 1) h0 4 [(0, ax_A x0), (1, ax_I x1), (2, ax_I x2), (3, ax_I x3)] [] h (Schema_symbolCount_lp4 call  n x0 x1 x2 x3 h)
  | 0, _, _, _, _, _ => ax_none
  | n + 1, x0, x1, x2, x3, h => Schema_symbolCount_lb4 hcall B E Nm   (Schema_symbolCount_lq4 hcall B E Nm   n) x0 x1 x2 x3 h
def Schema_symbolCount_b (call : ax_Cf) (x0 : Option Nat) (x1 : Int32) (h : ax_Hp) : ax_O :=
  Schema_symbolCount_lp4 call ax_fuel x0 x1 0 0 h
set_option maxHeartbeats 4000000 in
set_option maxRecDepth 20000 in
theorem Schema_symbolCount_t {l : Launch} {G : ax_G} {d : Nat} {call : ax_Cf} (hcall : ax_Hc l G d call) (x0 : Option Nat) (x1 : Int32) (h : ax_Hp) {r : ax_Rs} {h' : ax_Hp} (ho : Schema_symbolCount_b call x0 x1 h = some (r, h')) : ax_C l G (d + 1) y_Schema_symbolCount (.code y_Schema_symbolCount prog_6_method_22_code 4 (some (.int))) [ax_A x0, ax_I x1] h r h' := by
  refine ax_enter (by decide) (Nat.le_of_ble_eq_true rfl) ho (fun p e s mi args below meth c B E Nm => ?_)
  have B : ax_B G p s mi meth c "SchemaDesk$Schema" prog_6_method_22_code 4 (some (.int)) := B
  show ax_W G p l e s mi args below meth c 4 (d + 1) h 0 [(0, ax_A x0), (1, ax_I x1)] [] h (Schema_symbolCount_b call x0 x1 h)
  unfold Schema_symbolCount_b
  refine ax_iconst (v := 0) B d_Schema_symbolCount_0 (by decide) ?_
  refine ax_istore_n (tv2 := [(2, ax_I 0), (0, ax_A x0), (1, ax_I x1)]) B d_Schema_symbolCount_1 rfl (by decide) rfl ?_
  refine ax_iconst (v := 0) B d_Schema_symbolCount_2 (by decide) ?_
  refine ax_istore_n (tv2 := [(3, ax_I 0), (2, ax_I 0), (0, ax_A x0), (1, ax_I x1)]) B d_Schema_symbolCount_3 rfl (by decide) rfl ?_
  refine ax_sub (tv2 := [(0, ax_A x0), (1, ax_I x1), (2, ax_I 0), (3, ax_I 0)]) [2, 3, 1, 0] rfl ?_
  exact Schema_symbolCount_lq4 hcall B E Nm ax_fuel x0 x1 0 0 h

theorem d_Schema_symbol_0 : decode prog_6_method_23_code 0 = .ok (.aload_n 0, 1) := by decide +kernel
theorem d_Schema_symbol_1 : decode prog_6_method_23_code 1 = .ok (.getfield 9, 3) := by decide +kernel
theorem d_Schema_symbol_4 : decode prog_6_method_23_code 4 = .ok (.iload_n 1, 1) := by decide +kernel
theorem d_Schema_symbol_5 : decode prog_6_method_23_code 5 = .ok (.iconst 2, 1) := by decide +kernel
theorem d_Schema_symbol_6 : decode prog_6_method_23_code 6 = .ok (.iadd, 1) := by decide +kernel
theorem d_Schema_symbol_7 : decode prog_6_method_23_code 7 = .ok (.iload_n 2, 1) := by decide +kernel
theorem d_Schema_symbol_8 : decode prog_6_method_23_code 8 = .ok (.iadd, 1) := by decide +kernel
theorem d_Schema_symbol_9 : decode prog_6_method_23_code 9 = .ok (.invokevirtual 31, 3) := by decide +kernel
theorem d_Schema_symbol_12 : decode prog_6_method_23_code 12 = .ok (.ireturn, 1) := by decide +kernel
def Schema_symbol_b (call : ax_Cf) (x0 : Option Nat) (x1 : Int32) (x2 : Int32) (h : ax_Hp) : ax_O :=
  (ax_gr h x0 3 0).bind fun v1 =>
  ax_on h v1 2 <| ax_ci (call 45 [ax_A v1, ax_I ((x1 + 2) + x2)] h) fun v3 h2 =>
  ax_ri v3 h2
set_option maxHeartbeats 4000000 in
set_option maxRecDepth 20000 in
theorem Schema_symbol_t {l : Launch} {G : ax_G} {d : Nat} {call : ax_Cf} (hcall : ax_Hc l G d call) (x0 : Option Nat) (x1 : Int32) (x2 : Int32) (h : ax_Hp) {r : ax_Rs} {h' : ax_Hp} (ho : Schema_symbol_b call x0 x1 x2 h = some (r, h')) : ax_C l G (d + 1) y_Schema_symbol (.code y_Schema_symbol prog_6_method_23_code 3 (some (.int))) [ax_A x0, ax_I x1, ax_I x2] h r h' := by
  refine ax_enter (by decide) (Nat.le_of_ble_eq_true rfl) ho (fun p e s mi args below meth c B E Nm => ?_)
  have B : ax_B G p s mi meth c "SchemaDesk$Schema" prog_6_method_23_code 3 (some (.int)) := B
  show ax_W G p l e s mi args below meth c 3 (d + 1) h 0 [(0, ax_A x0), (1, ax_I x1), (2, ax_I x2)] [] h (Schema_symbol_b call x0 x1 x2 h)
  unfold Schema_symbol_b
  refine ax_aload_n B 0 d_Schema_symbol_0 rfl rfl ?_
  refine ax_getfr B cl_Schema (by decide) fk_Schema_9 d_Schema_symbol_1 (fun v1 => ?_)
  refine ax_iload_n B 1 d_Schema_symbol_4 rfl rfl ?_
  refine ax_iconst (v := 2) B d_Schema_symbol_5 (by decide) ?_
  refine ax_iadd B d_Schema_symbol_6 ?_
  refine ax_iload_n B 2 d_Schema_symbol_7 rfl rfl ?_
  refine ax_iadd B d_Schema_symbol_8 ?_
  refine ax_callVi (av := [ax_I ((x1 + 2) + x2)]) (rest := []) B E hm_Row_at cl_Row rfl wd_371 wd_372 lk_Schema_31 d_Schema_symbol_9 rfl (Nat.le_of_ble_eq_true rfl) (fun _ _ hh => hcall 45 _ _ _ _ hh) (fun v3 h2 => ?_)
  exact ax_ireturn B d_Schema_symbol_12

theorem d_Schema_at_0 : decode prog_6_method_8_code 0 = .ok (.aload_n 0, 1) := by decide +kernel
theorem d_Schema_at_1 : decode prog_6_method_8_code 1 = .ok (.getfield 9, 3) := by decide +kernel
theorem d_Schema_at_4 : decode prog_6_method_8_code 4 = .ok (.iload_n 1, 1) := by decide +kernel
theorem d_Schema_at_5 : decode prog_6_method_8_code 5 = .ok (.invokevirtual 31, 3) := by decide +kernel
theorem d_Schema_at_8 : decode prog_6_method_8_code 8 = .ok (.ireturn, 1) := by decide +kernel
def Schema_at_b (call : ax_Cf) (x0 : Option Nat) (x1 : Int32) (h : ax_Hp) : ax_O :=
  (ax_gr h x0 3 0).bind fun v1 =>
  ax_on h v1 2 <| ax_ci (call 45 [ax_A v1, ax_I x1] h) fun v3 h2 =>
  ax_ri v3 h2
set_option maxHeartbeats 4000000 in
set_option maxRecDepth 20000 in
theorem Schema_at_t {l : Launch} {G : ax_G} {d : Nat} {call : ax_Cf} (hcall : ax_Hc l G d call) (x0 : Option Nat) (x1 : Int32) (h : ax_Hp) {r : ax_Rs} {h' : ax_Hp} (ho : Schema_at_b call x0 x1 h = some (r, h')) : ax_C l G (d + 1) y_Schema_at (.code y_Schema_at prog_6_method_8_code 2 (some (.int))) [ax_A x0, ax_I x1] h r h' := by
  refine ax_enter (by decide) (Nat.le_of_ble_eq_true rfl) ho (fun p e s mi args below meth c B E Nm => ?_)
  have B : ax_B G p s mi meth c "SchemaDesk$Schema" prog_6_method_8_code 2 (some (.int)) := B
  show ax_W G p l e s mi args below meth c 2 (d + 1) h 0 [(0, ax_A x0), (1, ax_I x1)] [] h (Schema_at_b call x0 x1 h)
  unfold Schema_at_b
  refine ax_aload_n B 0 d_Schema_at_0 rfl rfl ?_
  refine ax_getfr B cl_Schema (by decide) fk_Schema_9 d_Schema_at_1 (fun v1 => ?_)
  refine ax_iload_n B 1 d_Schema_at_4 rfl rfl ?_
  refine ax_callVi (av := [ax_I x1]) (rest := []) B E hm_Row_at cl_Row rfl wd_371 wd_372 lk_Schema_31 d_Schema_at_5 rfl (Nat.le_of_ble_eq_true rfl) (fun _ _ hh => hcall 45 _ _ _ _ hh) (fun v3 h2 => ?_)
  exact ax_ireturn B d_Schema_at_8

theorem d_Schema_fieldNamed_0 : decode prog_6_method_19_code 0 = .ok (.aload_n 0, 1) := by decide +kernel
theorem d_Schema_fieldNamed_1 : decode prog_6_method_19_code 1 = .ok (.iload_n 1, 1) := by decide +kernel
theorem d_Schema_fieldNamed_2 : decode prog_6_method_19_code 2 = .ok (.invokevirtual 63, 3) := by decide +kernel
theorem d_Schema_fieldNamed_5 : decode prog_6_method_19_code 5 = .ok (.istore_n 3, 1) := by decide +kernel
theorem d_Schema_fieldNamed_6 : decode prog_6_method_19_code 6 = .ok (.iconst 0, 1) := by decide +kernel
theorem d_Schema_fieldNamed_7 : decode prog_6_method_19_code 7 = .ok (.istore 4, 2) := by decide +kernel
theorem d_Schema_fieldNamed_9 : decode prog_6_method_19_code 9 = .ok (.iload 4, 2) := by decide +kernel
theorem d_Schema_fieldNamed_11 : decode prog_6_method_19_code 11 = .ok (.bipush 6, 2) := by decide +kernel
theorem d_Schema_fieldNamed_13 : decode prog_6_method_19_code 13 = .ok (.if_icmp .ge 34, 3) := by decide +kernel
theorem d_Schema_fieldNamed_16 : decode prog_6_method_19_code 16 = .ok (.iload_n 3, 1) := by decide +kernel
theorem d_Schema_fieldNamed_17 : decode prog_6_method_19_code 17 = .ok (.iconst (-1), 1) := by decide +kernel
theorem d_Schema_fieldNamed_18 : decode prog_6_method_19_code 18 = .ok (.if_icmp .eq 29, 3) := by decide +kernel
theorem d_Schema_fieldNamed_21 : decode prog_6_method_19_code 21 = .ok (.aload_n 0, 1) := by decide +kernel
theorem d_Schema_fieldNamed_22 : decode prog_6_method_19_code 22 = .ok (.getfield 9, 3) := by decide +kernel
theorem d_Schema_fieldNamed_25 : decode prog_6_method_19_code 25 = .ok (.iload_n 3, 1) := by decide +kernel
theorem d_Schema_fieldNamed_26 : decode prog_6_method_19_code 26 = .ok (.invokevirtual 31, 3) := by decide +kernel
theorem d_Schema_fieldNamed_29 : decode prog_6_method_19_code 29 = .ok (.iload_n 2, 1) := by decide +kernel
theorem d_Schema_fieldNamed_30 : decode prog_6_method_19_code 30 = .ok (.if_icmp .ne 5, 3) := by decide +kernel
theorem d_Schema_fieldNamed_33 : decode prog_6_method_19_code 33 = .ok (.iload_n 3, 1) := by decide +kernel
theorem d_Schema_fieldNamed_34 : decode prog_6_method_19_code 34 = .ok (.ireturn, 1) := by decide +kernel
theorem d_Schema_fieldNamed_35 : decode prog_6_method_19_code 35 = .ok (.aload_n 0, 1) := by decide +kernel
theorem d_Schema_fieldNamed_36 : decode prog_6_method_19_code 36 = .ok (.iload_n 3, 1) := by decide +kernel
theorem d_Schema_fieldNamed_37 : decode prog_6_method_19_code 37 = .ok (.invokevirtual 66, 3) := by decide +kernel
theorem d_Schema_fieldNamed_40 : decode prog_6_method_19_code 40 = .ok (.istore_n 3, 1) := by decide +kernel
theorem d_Schema_fieldNamed_41 : decode prog_6_method_19_code 41 = .ok (.iinc 4 1, 3) := by decide +kernel
theorem d_Schema_fieldNamed_44 : decode prog_6_method_19_code 44 = .ok (.goto (-35), 3) := by decide +kernel
theorem d_Schema_fieldNamed_47 : decode prog_6_method_19_code 47 = .ok (.iconst (-1), 1) := by decide +kernel
theorem d_Schema_fieldNamed_48 : decode prog_6_method_19_code 48 = .ok (.ireturn, 1) := by decide +kernel
def Schema_fieldNamed_bd9 (call : ax_Cf)  (k9 : Option Nat → Int32 → Int32 → Int32 → ax_Hp → ax_O) (x0 : Option Nat) (x2 : Int32) (x3 : Int32) (x4 : Int32) (h : ax_Hp) : ax_O :=
  if 6 ≤ x4 then
    ax_ri (-1) h
  else
    if x3 = (-1) then
      ax_ri (-1) h
    else
      (ax_gr h x0 3 0).bind fun v3 =>
      ax_on h v3 2 <| ax_ci (call 45 [ax_A v3, ax_I x3] h) fun v5 h4 =>
      if v5 = x2 then
        ax_ri x3 h4
      else
        ax_on h4 x0 3 <| ax_ci (call 63 [ax_A x0, ax_I x3] h4) fun v7 h6 =>
        k9 x0 x2 v7 (x4 + 1) h6
def Schema_fieldNamed_lp9 (call : ax_Cf)  : Nat → Option Nat → Int32 → Int32 → Int32 → ax_Hp → ax_O
  | 0 => fun _ _ _ _ _ => none
  | n + 1 => Schema_fieldNamed_bd9 call  (Schema_fieldNamed_lp9 call  n)
set_option maxHeartbeats 4000000 in
set_option maxRecDepth 20000 in
theorem Schema_fieldNamed_lb9 {l : Launch} {G : ax_G} {d : Nat} {call : ax_Cf} (hcall : ax_Hc l G d call) {p : Program} {e : Env} {s : State} {mi : MethodId} {args : Array Value} {below : List Frame} {meth : Method} {c : Code} {h0 : ax_Hp} (B : ax_B G p s mi meth c "SchemaDesk$Schema" prog_6_method_19_code 5 (some (.int))) (E : c.exceptionTable.isEmpty = true) (Nm : meth.name = y_Schema_fieldNamed.name)   {k9 : Option Nat → Int32 → Int32 → Int32 → ax_Hp → ax_O} (hk9 : ∀ (x0 : Option Nat) (x2 : Int32) (x3 : Int32) (x4 : Int32) (h : ax_Hp), ax_W G p l e s mi args below meth c 5 (d + 1) h0 9 [(0, ax_A x0), (2, ax_I x2), (3, ax_I x3), (4, ax_I x4)] [] h (k9 x0 x2 x3 x4 h)) (x0 : Option Nat) (x2 : Int32) (x3 : Int32) (x4 : Int32) (h : ax_Hp) : ax_W G p l e s mi args below meth c 5 (d + 1) h0 9 [(0, ax_A x0), (2, ax_I x2), (3, ax_I x3), (4, ax_I x4)] [] h (Schema_fieldNamed_bd9 call  k9 x0 x2 x3 x4 h) := by
  unfold Schema_fieldNamed_bd9
  refine ax_iload B 3 d_Schema_fieldNamed_9 rfl ?_
  refine ax_bipush (v := 6) B d_Schema_fieldNamed_11 (by decide) ?_
  refine ax_icmp_ge B 47 d_Schema_fieldNamed_13 (by decide) ?_ ?_
  · refine ax_iconst (v := (-1)) B d_Schema_fieldNamed_47 (by decide) ?_
    exact ax_ireturn B d_Schema_fieldNamed_48
  · refine ax_iload_n B 2 d_Schema_fieldNamed_16 rfl rfl ?_
    refine ax_iconst (v := (-1)) B d_Schema_fieldNamed_17 (by decide) ?_
    refine ax_icmp_eq B 47 d_Schema_fieldNamed_18 (by decide) ?_ ?_
    · refine ax_iconst (v := (-1)) B d_Schema_fieldNamed_47 (by decide) ?_
      exact ax_ireturn B d_Schema_fieldNamed_48
    · refine ax_aload_n B 0 d_Schema_fieldNamed_21 rfl rfl ?_
      refine ax_getfr B cl_Schema (by decide) fk_Schema_9 d_Schema_fieldNamed_22 (fun v3 => ?_)
      refine ax_iload_n B 2 d_Schema_fieldNamed_25 rfl rfl ?_
      refine ax_callVi (av := [ax_I x3]) (rest := []) B E hm_Row_at cl_Row rfl wd_371 wd_372 lk_Schema_31 d_Schema_fieldNamed_26 rfl (Nat.le_of_ble_eq_true rfl) (fun _ _ hh => hcall 45 _ _ _ _ hh) (fun v5 h4 => ?_)
      refine ax_iload_n B 1 d_Schema_fieldNamed_29 rfl rfl ?_
      refine ax_icmp_ne B 35 d_Schema_fieldNamed_30 (by decide) ?_ ?_
      · refine ax_aload_n B 0 d_Schema_fieldNamed_35 rfl rfl ?_
        refine ax_iload_n B 2 d_Schema_fieldNamed_36 rfl rfl ?_
        refine ax_callVi (av := [ax_I x3]) (rest := []) B E hm_Schema_nextPart cl_Schema rfl wd_452 wd_453 lk_Schema_66 d_Schema_fieldNamed_37 rfl (Nat.le_of_ble_eq_true rfl) (fun _ _ hh => hcall 63 _ _ _ _ hh) (fun v7 h6 => ?_)
        refine ax_istore_n (tv2 := [(3, ax_I v7), (0, ax_A x0), (2, ax_I x2), (4, ax_I x4)]) B d_Schema_fieldNamed_40 rfl (by decide) rfl ?_
        refine ax_iinc (v := x4 + 1) (tv2 := [(4, ax_I (x4 + 1)), (3, ax_I v7), (0, ax_A x0), (2, ax_I x2)]) B 3 d_Schema_fieldNamed_41 rfl (congrArg (_ + ·) (by decide)) (by decide) rfl ?_
        refine ax_goto B 9 d_Schema_fieldNamed_44 (by decide) ?_
        refine ax_sub (tv2 := [(0, ax_A x0), (2, ax_I x2), (3, ax_I v7), (4, ax_I (x4 + 1))]) [2, 3, 1, 0] rfl ?_
        exact hk9 x0 x2 v7 (x4 + 1) h6
      · refine ax_iload_n B 2 d_Schema_fieldNamed_33 rfl rfl ?_
        exact ax_ireturn B d_Schema_fieldNamed_34
theorem Schema_fieldNamed_lq9 {l : Launch} {G : ax_G} {d : Nat} {call : ax_Cf} (hcall : ax_Hc l G d call) {p : Program} {e : Env} {s : State} {mi : MethodId} {args : Array Value} {below : List Frame} {meth : Method} {c : Code} {h0 : ax_Hp} (B : ax_B G p s mi meth c "SchemaDesk$Schema" prog_6_method_19_code 5 (some (.int))) (E : c.exceptionTable.isEmpty = true) (Nm : meth.name = y_Schema_fieldNamed.name)   : ∀ (n : Nat) (x0 : Option Nat) (x2 : Int32) (x3 : Int32) (x4 : Int32) (h : ax_Hp), ax_W G p l e s mi args below meth c 5 (d + 1) h0 9 [(0, ax_A x0), (2, ax_I x2), (3, ax_I x3), (4, ax_I x4)] [] h (Schema_fieldNamed_lp9 call  n x0 x2 x3 x4 h)
  | 0, _, _, _, _, _ => ax_none
  | n + 1, x0, x2, x3, x4, h => Schema_fieldNamed_lb9 hcall B E Nm   (Schema_fieldNamed_lq9 hcall B E Nm   n) x0 x2 x3 x4 h
def Schema_fieldNamed_b (call : ax_Cf) (x0 : Option Nat) (x1 : Int32) (x2 : Int32) (h : ax_Hp) : ax_O :=
  ax_on h x0 3 <| ax_ci (call 60 [ax_A x0, ax_I x1] h) fun v2 h1 =>
  Schema_fieldNamed_lp9 call ax_fuel x0 x2 v2 0 h1
set_option maxHeartbeats 4000000 in
set_option maxRecDepth 20000 in
theorem Schema_fieldNamed_t {l : Launch} {G : ax_G} {d : Nat} {call : ax_Cf} (hcall : ax_Hc l G d call) (x0 : Option Nat) (x1 : Int32) (x2 : Int32) (h : ax_Hp) {r : ax_Rs} {h' : ax_Hp} (ho : Schema_fieldNamed_b call x0 x1 x2 h = some (r, h')) : ax_C l G (d + 1) y_Schema_fieldNamed (.code y_Schema_fieldNamed prog_6_method_19_code 5 (some (.int))) [ax_A x0, ax_I x1, ax_I x2] h r h' := by
  refine ax_enter (by decide) (Nat.le_of_ble_eq_true rfl) ho (fun p e s mi args below meth c B E Nm => ?_)
  have B : ax_B G p s mi meth c "SchemaDesk$Schema" prog_6_method_19_code 5 (some (.int)) := B
  show ax_W G p l e s mi args below meth c 5 (d + 1) h 0 [(0, ax_A x0), (1, ax_I x1), (2, ax_I x2)] [] h (Schema_fieldNamed_b call x0 x1 x2 h)
  unfold Schema_fieldNamed_b
  refine ax_aload_n B 0 d_Schema_fieldNamed_0 rfl rfl ?_
  refine ax_iload_n B 1 d_Schema_fieldNamed_1 rfl rfl ?_
  refine ax_callVi (av := [ax_I x1]) (rest := []) B E hm_Schema_firstPart cl_Schema rfl wd_439 wd_440 lk_Schema_63 d_Schema_fieldNamed_2 rfl (Nat.le_of_ble_eq_true rfl) (fun _ _ hh => hcall 60 _ _ _ _ hh) (fun v2 h1 => ?_)
  refine ax_istore_n (tv2 := [(3, ax_I v2), (0, ax_A x0), (1, ax_I x1), (2, ax_I x2)]) B d_Schema_fieldNamed_5 rfl (by decide) rfl ?_
  refine ax_iconst (v := 0) B d_Schema_fieldNamed_6 (by decide) ?_
  refine ax_istore (tv2 := [(4, ax_I 0), (3, ax_I v2), (0, ax_A x0), (1, ax_I x1), (2, ax_I x2)]) B d_Schema_fieldNamed_7 (by decide) rfl ?_
  refine ax_sub (tv2 := [(0, ax_A x0), (2, ax_I x2), (3, ax_I v2), (4, ax_I 0)]) [2, 4, 1, 0] rfl ?_
  exact Schema_fieldNamed_lq9 hcall B E Nm ax_fuel x0 x2 v2 0 h1

theorem d_Schema_fieldDefault_0 : decode prog_6_method_21_code 0 = .ok (.aload_n 0, 1) := by decide +kernel
theorem d_Schema_fieldDefault_1 : decode prog_6_method_21_code 1 = .ok (.aload_n 0, 1) := by decide +kernel
theorem d_Schema_fieldDefault_2 : decode prog_6_method_21_code 2 = .ok (.iload_n 1, 1) := by decide +kernel
theorem d_Schema_fieldDefault_3 : decode prog_6_method_21_code 3 = .ok (.invokevirtual 69, 3) := by decide +kernel
theorem d_Schema_fieldDefault_6 : decode prog_6_method_21_code 6 = .ok (.invokevirtual 60, 3) := by decide +kernel
theorem d_Schema_fieldDefault_9 : decode prog_6_method_21_code 9 = .ok (.istore_n 2, 1) := by decide +kernel
theorem d_Schema_fieldDefault_10 : decode prog_6_method_21_code 10 = .ok (.aload_n 0, 1) := by decide +kernel
theorem d_Schema_fieldDefault_11 : decode prog_6_method_21_code 11 = .ok (.getfield 9, 3) := by decide +kernel
theorem d_Schema_fieldDefault_14 : decode prog_6_method_21_code 14 = .ok (.iload_n 2, 1) := by decide +kernel
theorem d_Schema_fieldDefault_15 : decode prog_6_method_21_code 15 = .ok (.invokevirtual 31, 3) := by decide +kernel
theorem d_Schema_fieldDefault_18 : decode prog_6_method_21_code 18 = .ok (.bipush 61, 2) := by decide +kernel
theorem d_Schema_fieldDefault_20 : decode prog_6_method_21_code 20 = .ok (.if_icmp .ne 9, 3) := by decide +kernel
theorem d_Schema_fieldDefault_23 : decode prog_6_method_21_code 23 = .ok (.iload_n 2, 1) := by decide +kernel
theorem d_Schema_fieldDefault_24 : decode prog_6_method_21_code 24 = .ok (.iconst 1, 1) := by decide +kernel
theorem d_Schema_fieldDefault_25 : decode prog_6_method_21_code 25 = .ok (.iadd, 1) := by decide +kernel
theorem d_Schema_fieldDefault_26 : decode prog_6_method_21_code 26 = .ok (.goto 4, 3) := by decide +kernel
theorem d_Schema_fieldDefault_29 : decode prog_6_method_21_code 29 = .ok (.iconst (-1), 1) := by decide +kernel
theorem d_Schema_fieldDefault_30 : decode prog_6_method_21_code 30 = .ok (.ireturn, 1) := by decide +kernel
def Schema_fieldDefault_b (call : ax_Cf) (x0 : Option Nat) (x1 : Int32) (h : ax_Hp) : ax_O :=
  ax_on h x0 3 <| ax_ci (call 65 [ax_A x0, ax_I x1] h) fun v2 h1 =>
  ax_on h1 x0 3 <| ax_ci (call 77 [ax_A x0, ax_I v2] h1) fun v4 h3 =>
  (ax_gr h3 x0 3 0).bind fun v5 =>
  ax_on h3 v5 2 <| ax_ci (call 45 [ax_A v5, ax_I v4] h3) fun v7 h6 =>
  if v7 = 61 then
    ax_ri (v4 + 1) h6
  else
    ax_ri (-1) h6
set_option maxHeartbeats 4000000 in
set_option maxRecDepth 20000 in
theorem Schema_fieldDefault_t {l : Launch} {G : ax_G} {d : Nat} {call : ax_Cf} (hcall : ax_Hc l G d call) (x0 : Option Nat) (x1 : Int32) (h : ax_Hp) {r : ax_Rs} {h' : ax_Hp} (ho : Schema_fieldDefault_b call x0 x1 h = some (r, h')) : ax_C l G (d + 1) y_Schema_fieldDefault (.code y_Schema_fieldDefault prog_6_method_21_code 3 (some (.int))) [ax_A x0, ax_I x1] h r h' := by
  refine ax_enter (by decide) (Nat.le_of_ble_eq_true rfl) ho (fun p e s mi args below meth c B E Nm => ?_)
  have B : ax_B G p s mi meth c "SchemaDesk$Schema" prog_6_method_21_code 3 (some (.int)) := B
  show ax_W G p l e s mi args below meth c 3 (d + 1) h 0 [(0, ax_A x0), (1, ax_I x1)] [] h (Schema_fieldDefault_b call x0 x1 h)
  unfold Schema_fieldDefault_b
  refine ax_aload_n B 0 d_Schema_fieldDefault_0 rfl rfl ?_
  refine ax_aload_n B 0 d_Schema_fieldDefault_1 rfl rfl ?_
  refine ax_iload_n B 1 d_Schema_fieldDefault_2 rfl rfl ?_
  refine ax_callVi (av := [ax_I x1]) (rest := [ax_A x0]) B E hm_Schema_fieldType cl_Schema rfl wd_460 wd_461 lk_Schema_69 d_Schema_fieldDefault_3 rfl (Nat.le_of_ble_eq_true rfl) (fun _ _ hh => hcall 65 _ _ _ _ hh) (fun v2 h1 => ?_)
  refine ax_callVi (av := [ax_I v2]) (rest := []) B E hm_Schema_end cl_Schema rfl wd_510 wd_511 lk_Schema_60 d_Schema_fieldDefault_6 rfl (Nat.le_of_ble_eq_true rfl) (fun _ _ hh => hcall 77 _ _ _ _ hh) (fun v4 h3 => ?_)
  refine ax_istore_n (tv2 := [(2, ax_I v4), (0, ax_A x0), (1, ax_I x1)]) B d_Schema_fieldDefault_9 rfl (by decide) rfl ?_
  refine ax_aload_n B 1 d_Schema_fieldDefault_10 rfl rfl ?_
  refine ax_getfr B cl_Schema (by decide) fk_Schema_9 d_Schema_fieldDefault_11 (fun v5 => ?_)
  refine ax_iload_n B 0 d_Schema_fieldDefault_14 rfl rfl ?_
  refine ax_callVi (av := [ax_I v4]) (rest := []) B E hm_Row_at cl_Row rfl wd_371 wd_372 lk_Schema_31 d_Schema_fieldDefault_15 rfl (Nat.le_of_ble_eq_true rfl) (fun _ _ hh => hcall 45 _ _ _ _ hh) (fun v7 h6 => ?_)
  refine ax_bipush (v := 61) B d_Schema_fieldDefault_18 (by decide) ?_
  refine ax_icmp_ne B 29 d_Schema_fieldDefault_20 (by decide) ?_ ?_
  · refine ax_iconst (v := (-1)) B d_Schema_fieldDefault_29 (by decide) ?_
    exact ax_ireturn B d_Schema_fieldDefault_30
  · refine ax_iload_n B 0 d_Schema_fieldDefault_23 rfl rfl ?_
    refine ax_iconst (v := 1) B d_Schema_fieldDefault_24 (by decide) ?_
    refine ax_iadd B d_Schema_fieldDefault_25 ?_
    refine ax_goto B 30 d_Schema_fieldDefault_26 (by decide) ?_
    exact ax_ireturn B d_Schema_fieldDefault_30

theorem d_Schema_copy_0 : decode prog_6_method_10_code 0 = .ok (.aload_n 0, 1) := by decide +kernel
theorem d_Schema_copy_1 : decode prog_6_method_10_code 1 = .ok (.getfield 9, 3) := by decide +kernel
theorem d_Schema_copy_4 : decode prog_6_method_10_code 4 = .ok (.invokevirtual 41, 3) := by decide +kernel
theorem d_Schema_copy_7 : decode prog_6_method_10_code 7 = .ok (.istore_n 1, 1) := by decide +kernel
theorem d_Schema_copy_8 : decode prog_6_method_10_code 8 = .ok (.new 10, 3) := by decide +kernel
theorem d_Schema_copy_11 : decode prog_6_method_10_code 11 = .ok (.dup, 1) := by decide +kernel
theorem d_Schema_copy_12 : decode prog_6_method_10_code 12 = .ok (.aload_n 0, 1) := by decide +kernel
theorem d_Schema_copy_13 : decode prog_6_method_10_code 13 = .ok (.getfield 9, 3) := by decide +kernel
theorem d_Schema_copy_16 : decode prog_6_method_10_code 16 = .ok (.invokevirtual 45, 3) := by decide +kernel
theorem d_Schema_copy_19 : decode prog_6_method_10_code 19 = .ok (.aload_n 0, 1) := by decide +kernel
theorem d_Schema_copy_20 : decode prog_6_method_10_code 20 = .ok (.getfield 15, 3) := by decide +kernel
theorem d_Schema_copy_23 : decode prog_6_method_10_code 23 = .ok (.iload_n 1, 1) := by decide +kernel
theorem d_Schema_copy_24 : decode prog_6_method_10_code 24 = .ok (.invokestatic 49, 3) := by decide +kernel
theorem d_Schema_copy_27 : decode prog_6_method_10_code 27 = .ok (.aload_n 0, 1) := by decide +kernel
theorem d_Schema_copy_28 : decode prog_6_method_10_code 28 = .ok (.getfield 19, 3) := by decide +kernel
theorem d_Schema_copy_31 : decode prog_6_method_10_code 31 = .ok (.iload_n 1, 1) := by decide +kernel
theorem d_Schema_copy_32 : decode prog_6_method_10_code 32 = .ok (.invokestatic 49, 3) := by decide +kernel
theorem d_Schema_copy_35 : decode prog_6_method_10_code 35 = .ok (.aload_n 0, 1) := by decide +kernel
theorem d_Schema_copy_36 : decode prog_6_method_10_code 36 = .ok (.getfield 22, 3) := by decide +kernel
theorem d_Schema_copy_39 : decode prog_6_method_10_code 39 = .ok (.iload_n 1, 1) := by decide +kernel
theorem d_Schema_copy_40 : decode prog_6_method_10_code 40 = .ok (.invokestatic 49, 3) := by decide +kernel
theorem d_Schema_copy_43 : decode prog_6_method_10_code 43 = .ok (.invokespecial 53, 3) := by decide +kernel
theorem d_Schema_copy_46 : decode prog_6_method_10_code 46 = .ok (.areturn, 1) := by decide +kernel
def Schema_copy_b (call : ax_Cf) (x0 : Option Nat) (h : ax_Hp) : ax_O :=
  (ax_gr h x0 3 0).bind fun v1 =>
  ax_on h v1 2 <| ax_ci (call 51 [ax_A v1] h) fun v3 h2 =>
  ax_nw (ax_new h2 3 [ax_A none, ax_A none, ax_A none, ax_A none]) fun a4 h5 =>
  (ax_gr h5 x0 3 0).bind fun v6 =>
  ax_on h5 v6 2 <| ax_cr (call 85 [ax_A v6] h5) fun v8 h7 =>
  (ax_gr h7 x0 3 1).bind fun v9 =>
  ax_cr (call 86 [ax_A v9, ax_I v3] h7) fun v11 h10 =>
  (ax_gr h10 x0 3 2).bind fun v12 =>
  ax_cr (call 86 [ax_A v12, ax_I v3] h10) fun v14 h13 =>
  (ax_gr h13 x0 3 3).bind fun v15 =>
  ax_cr (call 86 [ax_A v15, ax_I v3] h13) fun v17 h16 =>
  ax_cv (call 2 [ax_A (some a4), ax_A v8, ax_A v11, ax_A v14, ax_A v17] h16) fun h18 =>
  ax_rr (some a4) h18
set_option maxHeartbeats 4000000 in
set_option maxRecDepth 20000 in
theorem Schema_copy_t {l : Launch} {G : ax_G} {d : Nat} {call : ax_Cf} (hcall : ax_Hc l G d call) (x0 : Option Nat) (h : ax_Hp) {r : ax_Rs} {h' : ax_Hp} (ho : Schema_copy_b call x0 h = some (r, h')) : ax_C l G (d + 1) y_Schema_copy (.code y_Schema_copy prog_6_method_10_code 2 (some (.object "SchemaDesk$Schema"))) [ax_A x0] h r h' := by
  refine ax_enter (by decide) (Nat.le_of_ble_eq_true rfl) ho (fun p e s mi args below meth c B E Nm => ?_)
  have B : ax_B G p s mi meth c "SchemaDesk$Schema" prog_6_method_10_code 2 (some (.object "SchemaDesk$Schema")) := B
  show ax_W G p l e s mi args below meth c 2 (d + 1) h 0 [(0, ax_A x0)] [] h (Schema_copy_b call x0 h)
  unfold Schema_copy_b
  refine ax_aload_n B 0 d_Schema_copy_0 rfl rfl ?_
  refine ax_getfr B cl_Schema (by decide) fk_Schema_9 d_Schema_copy_1 (fun v1 => ?_)
  refine ax_callVi (av := []) (rest := []) B E hm_Row_size cl_Row rfl wd_401 wd_402 lk_Schema_41 d_Schema_copy_4 rfl (Nat.le_of_ble_eq_true rfl) (fun _ _ hh => hcall 51 _ _ _ _ hh) (fun v3 h2 => ?_)
  refine ax_istore_n (tv2 := [(1, ax_I v3), (0, ax_A x0)]) B d_Schema_copy_7 rfl (by decide) rfl ?_
  refine ax_newo B cl_Schema wd_560 wd_46 wd_3 rfl df_Schema d_Schema_copy_8 (fun a4 h5 => ?_)
  refine ax_dup B d_Schema_copy_11 rfl ?_
  refine ax_aload_n B 1 d_Schema_copy_12 rfl rfl ?_
  refine ax_getfr B cl_Schema (by decide) fk_Schema_9 d_Schema_copy_13 (fun v6 => ?_)
  refine ax_callVr (av := []) (rest := [ax_A (some a4), ax_A (some a4)]) B E hm_Row_copy cl_Row rfl wd_562 wd_563 lk_Schema_45 d_Schema_copy_16 rfl (Nat.le_of_ble_eq_true rfl) (fun _ _ hh => hcall 85 _ _ _ _ hh) (fun v8 h7 => ?_)
  refine ax_aload_n B 1 d_Schema_copy_19 rfl rfl ?_
  refine ax_getfr B cl_Schema (by decide) fk_Schema_15 d_Schema_copy_20 (fun v9 => ?_)
  refine ax_iload_n B 0 d_Schema_copy_23 rfl rfl ?_
  refine ax_callSr (av := [ax_A v9, ax_I v3]) (rest := [ax_A v8, ax_A (some a4), ax_A (some a4)]) B E hm_Arrays_copyOf wd_567 lk_Schema_49 d_Schema_copy_24 rfl (Nat.le_of_ble_eq_true rfl) (fun _ _ hh => hcall 86 _ _ _ _ hh) (fun v11 h10 => ?_)
  refine ax_aload_n B 1 d_Schema_copy_27 rfl rfl ?_
  refine ax_getfr B cl_Schema (by decide) fk_Schema_19 d_Schema_copy_28 (fun v12 => ?_)
  refine ax_iload_n B 0 d_Schema_copy_31 rfl rfl ?_
  refine ax_callSr (av := [ax_A v12, ax_I v3]) (rest := [ax_A v11, ax_A v8, ax_A (some a4), ax_A (some a4)]) B E hm_Arrays_copyOf wd_567 lk_Schema_49 d_Schema_copy_32 rfl (Nat.le_of_ble_eq_true rfl) (fun _ _ hh => hcall 86 _ _ _ _ hh) (fun v14 h13 => ?_)
  refine ax_aload_n B 1 d_Schema_copy_35 rfl rfl ?_
  refine ax_getfr B cl_Schema (by decide) fk_Schema_22 d_Schema_copy_36 (fun v15 => ?_)
  refine ax_iload_n B 0 d_Schema_copy_39 rfl rfl ?_
  refine ax_callSr (av := [ax_A v15, ax_I v3]) (rest := [ax_A v14, ax_A v11, ax_A v8, ax_A (some a4), ax_A (some a4)]) B E hm_Arrays_copyOf wd_567 lk_Schema_49 d_Schema_copy_40 rfl (Nat.le_of_ble_eq_true rfl) (fun _ _ hh => hcall 86 _ _ _ _ hh) (fun v17 h16 => ?_)
  refine ax_callIv (av := [ax_A v8, ax_A v11, ax_A v14, ax_A v17]) (rest := [ax_A (some a4)]) B E hm_Schema_init rfl wd_48 lk_Schema_53 d_Schema_copy_43 rfl (Nat.le_of_ble_eq_true rfl) (fun _ _ hh => hcall 2 _ _ _ _ hh) (fun h18 => ?_)
  exact ax_areturn B rfl (Or.inl ⟨_, rfl⟩) d_Schema_copy_46

theorem d_Schema_copyBareTo_0 : decode prog_6_method_12_code 0 = .ok (.iconst 0, 1) := by decide +kernel
theorem d_Schema_copyBareTo_1 : decode prog_6_method_12_code 1 = .ok (.istore_n 2, 1) := by decide +kernel
theorem d_Schema_copyBareTo_2 : decode prog_6_method_12_code 2 = .ok (.iconst 0, 1) := by decide +kernel
theorem d_Schema_copyBareTo_3 : decode prog_6_method_12_code 3 = .ok (.istore_n 3, 1) := by decide +kernel
theorem d_Schema_copyBareTo_4 : decode prog_6_method_12_code 4 = .ok (.iload_n 3, 1) := by decide +kernel
theorem d_Schema_copyBareTo_5 : decode prog_6_method_12_code 5 = .ok (.aload_n 0, 1) := by decide +kernel
theorem d_Schema_copyBareTo_6 : decode prog_6_method_12_code 6 = .ok (.getfield 9, 3) := by decide +kernel
theorem d_Schema_copyBareTo_9 : decode prog_6_method_12_code 9 = .ok (.invokevirtual 41, 3) := by decide +kernel
theorem d_Schema_copyBareTo_12 : decode prog_6_method_12_code 12 = .ok (.if_icmp .ge 60, 3) := by decide +kernel
theorem d_Schema_copyBareTo_15 : decode prog_6_method_12_code 15 = .ok (.iload_n 2, 1) := by decide +kernel
theorem d_Schema_copyBareTo_16 : decode prog_6_method_12_code 16 = .ok (.aload_n 0, 1) := by decide +kernel
theorem d_Schema_copyBareTo_17 : decode prog_6_method_12_code 17 = .ok (.getfield 9, 3) := by decide +kernel
theorem d_Schema_copyBareTo_20 : decode prog_6_method_12_code 20 = .ok (.invokevirtual 41, 3) := by decide +kernel
theorem d_Schema_copyBareTo_23 : decode prog_6_method_12_code 23 = .ok (.if_icmp .ge 49, 3) := by decide +kernel
theorem d_Schema_copyBareTo_26 : decode prog_6_method_12_code 26 = .ok (.aload_n 0, 1) := by decide +kernel
theorem d_Schema_copyBareTo_27 : decode prog_6_method_12_code 27 = .ok (.getfield 9, 3) := by decide +kernel
theorem d_Schema_copyBareTo_30 : decode prog_6_method_12_code 30 = .ok (.iload_n 2, 1) := by decide +kernel
theorem d_Schema_copyBareTo_31 : decode prog_6_method_12_code 31 = .ok (.invokevirtual 31, 3) := by decide +kernel
theorem d_Schema_copyBareTo_34 : decode prog_6_method_12_code 34 = .ok (.bipush 61, 2) := by decide +kernel
theorem d_Schema_copyBareTo_36 : decode prog_6_method_12_code 36 = .ok (.if_icmp .ne 14, 3) := by decide +kernel
theorem d_Schema_copyBareTo_39 : decode prog_6_method_12_code 39 = .ok (.aload_n 0, 1) := by decide +kernel
theorem d_Schema_copyBareTo_40 : decode prog_6_method_12_code 40 = .ok (.iload_n 2, 1) := by decide +kernel
theorem d_Schema_copyBareTo_41 : decode prog_6_method_12_code 41 = .ok (.iconst 1, 1) := by decide +kernel
theorem d_Schema_copyBareTo_42 : decode prog_6_method_12_code 42 = .ok (.iadd, 1) := by decide +kernel
theorem d_Schema_copyBareTo_43 : decode prog_6_method_12_code 43 = .ok (.invokevirtual 60, 3) := by decide +kernel
theorem d_Schema_copyBareTo_46 : decode prog_6_method_12_code 46 = .ok (.istore_n 2, 1) := by decide +kernel
theorem d_Schema_copyBareTo_47 : decode prog_6_method_12_code 47 = .ok (.goto 19, 3) := by decide +kernel
theorem d_Schema_copyBareTo_50 : decode prog_6_method_12_code 50 = .ok (.aload_n 1, 1) := by decide +kernel
theorem d_Schema_copyBareTo_51 : decode prog_6_method_12_code 51 = .ok (.aload_n 0, 1) := by decide +kernel
theorem d_Schema_copyBareTo_52 : decode prog_6_method_12_code 52 = .ok (.getfield 9, 3) := by decide +kernel
theorem d_Schema_copyBareTo_55 : decode prog_6_method_12_code 55 = .ok (.iload_n 2, 1) := by decide +kernel
theorem d_Schema_copyBareTo_56 : decode prog_6_method_12_code 56 = .ok (.invokevirtual 31, 3) := by decide +kernel
theorem d_Schema_copyBareTo_59 : decode prog_6_method_12_code 59 = .ok (.invokevirtual 56, 3) := by decide +kernel
theorem d_Schema_copyBareTo_62 : decode prog_6_method_12_code 62 = .ok (.pop, 1) := by decide +kernel
theorem d_Schema_copyBareTo_63 : decode prog_6_method_12_code 63 = .ok (.iinc 2 1, 3) := by decide +kernel
theorem d_Schema_copyBareTo_66 : decode prog_6_method_12_code 66 = .ok (.iinc 3 1, 3) := by decide +kernel
theorem d_Schema_copyBareTo_69 : decode prog_6_method_12_code 69 = .ok (.goto (-65), 3) := by decide +kernel
theorem d_Schema_copyBareTo_72 : decode prog_6_method_12_code 72 = .ok (.return_, 1) := by decide +kernel
def Schema_copyBareTo_bd4 (call : ax_Cf)  (k4 : Option Nat → Option Nat → Int32 → Int32 → ax_Hp → ax_O) (x0 : Option Nat) (x1 : Option Nat) (x2 : Int32) (x3 : Int32) (h : ax_Hp) : ax_O :=
  (ax_gr h x0 3 0).bind fun v1 =>
  ax_on h v1 2 <| ax_ci (call 51 [ax_A v1] h) fun v3 h2 =>
  if v3 ≤ x3 then
    ax_rv h2
  else
    (ax_gr h2 x0 3 0).bind fun v4 =>
    ax_on h2 v4 2 <| ax_ci (call 51 [ax_A v4] h2) fun v6 h5 =>
    if v6 ≤ x2 then
      ax_rv h5
    else
      (ax_gr h5 x0 3 0).bind fun v7 =>
      ax_on h5 v7 2 <| ax_ci (call 45 [ax_A v7, ax_I x2] h5) fun v9 h8 =>
      if v9 = 61 then
        ax_on h8 x0 3 <| ax_ci (call 77 [ax_A x0, ax_I (x2 + 1)] h8) fun v16 h15 =>
        k4 x0 x1 v16 (x3 + 1) h15
      else
        (ax_gr h8 x0 3 0).bind fun v10 =>
        ax_on h8 v10 2 <| ax_ci (call 45 [ax_A v10, ax_I x2] h8) fun v12 h11 =>
        ax_on h11 x1 2 <| ax_ci (call 8 [ax_A x1, ax_I v12] h11) fun v14 h13 =>
        k4 x0 x1 (x2 + 1) (x3 + 1) h13
def Schema_copyBareTo_lp4 (call : ax_Cf)  : Nat → Option Nat → Option Nat → Int32 → Int32 → ax_Hp → ax_O
  | 0 => fun _ _ _ _ _ => none
  | n + 1 => Schema_copyBareTo_bd4 call  (Schema_copyBareTo_lp4 call  n)
set_option maxHeartbeats 4000000 in
set_option maxRecDepth 20000 in
theorem Schema_copyBareTo_lb4 {l : Launch} {G : ax_G} {d : Nat} {call : ax_Cf} (hcall : ax_Hc l G d call) {p : Program} {e : Env} {s : State} {mi : MethodId} {args : Array Value} {below : List Frame} {meth : Method} {c : Code} {h0 : ax_Hp} (B : ax_B G p s mi meth c "SchemaDesk$Schema" prog_6_method_12_code 4 none) (E : c.exceptionTable.isEmpty = true) (Nm : meth.name = y_Schema_copyBareTo.name)   {k4 : Option Nat → Option Nat → Int32 → Int32 → ax_Hp → ax_O} (hk4 : ∀ (x0 : Option Nat) (x1 : Option Nat) (x2 : Int32) (x3 : Int32) (h : ax_Hp), ax_W G p l e s mi args below meth c 4 (d + 1) h0 4 [(0, ax_A x0), (1, ax_A x1), (2, ax_I x2), (3, ax_I x3)] [] h (k4 x0 x1 x2 x3 h)) (x0 : Option Nat) (x1 : Option Nat) (x2 : Int32) (x3 : Int32) (h : ax_Hp) : ax_W G p l e s mi args below meth c 4 (d + 1) h0 4 [(0, ax_A x0), (1, ax_A x1), (2, ax_I x2), (3, ax_I x3)] [] h (Schema_copyBareTo_bd4 call  k4 x0 x1 x2 x3 h) := by
  unfold Schema_copyBareTo_bd4
  refine ax_iload_n B 3 d_Schema_copyBareTo_4 rfl rfl ?_
  refine ax_aload_n B 0 d_Schema_copyBareTo_5 rfl rfl ?_
  refine ax_getfr B cl_Schema (by decide) fk_Schema_9 d_Schema_copyBareTo_6 (fun v1 => ?_)
  refine ax_callVi (av := []) (rest := [ax_I x3]) B E hm_Row_size cl_Row rfl wd_401 wd_402 lk_Schema_41 d_Schema_copyBareTo_9 rfl (Nat.le_of_ble_eq_true rfl) (fun _ _ hh => hcall 51 _ _ _ _ hh) (fun v3 h2 => ?_)
  refine ax_icmp_ge B 72 d_Schema_copyBareTo_12 (by decide) ?_ ?_
  · exact ax_vreturn B d_Schema_copyBareTo_72
  · refine ax_iload_n B 2 d_Schema_copyBareTo_15 rfl rfl ?_
    refine ax_aload_n B 0 d_Schema_copyBareTo_16 rfl rfl ?_
    refine ax_getfr B cl_Schema (by decide) fk_Schema_9 d_Schema_copyBareTo_17 (fun v4 => ?_)
    refine ax_callVi (av := []) (rest := [ax_I x2]) B E hm_Row_size cl_Row rfl wd_401 wd_402 lk_Schema_41 d_Schema_copyBareTo_20 rfl (Nat.le_of_ble_eq_true rfl) (fun _ _ hh => hcall 51 _ _ _ _ hh) (fun v6 h5 => ?_)
    refine ax_icmp_ge B 72 d_Schema_copyBareTo_23 (by decide) ?_ ?_
    · exact ax_vreturn B d_Schema_copyBareTo_72
    · refine ax_aload_n B 0 d_Schema_copyBareTo_26 rfl rfl ?_
      refine ax_getfr B cl_Schema (by decide) fk_Schema_9 d_Schema_copyBareTo_27 (fun v7 => ?_)
      refine ax_iload_n B 2 d_Schema_copyBareTo_30 rfl rfl ?_
      refine ax_callVi (av := [ax_I x2]) (rest := []) B E hm_Row_at cl_Row rfl wd_371 wd_372 lk_Schema_31 d_Schema_copyBareTo_31 rfl (Nat.le_of_ble_eq_true rfl) (fun _ _ hh => hcall 45 _ _ _ _ hh) (fun v9 h8 => ?_)
      refine ax_bipush (v := 61) B d_Schema_copyBareTo_34 (by decide) ?_
      refine ax_icmp_ne B 50 d_Schema_copyBareTo_36 (by decide) ?_ ?_
      · refine ax_aload_n B 1 d_Schema_copyBareTo_50 rfl rfl ?_
        refine ax_aload_n B 0 d_Schema_copyBareTo_51 rfl rfl ?_
        refine ax_getfr B cl_Schema (by decide) fk_Schema_9 d_Schema_copyBareTo_52 (fun v10 => ?_)
        refine ax_iload_n B 2 d_Schema_copyBareTo_55 rfl rfl ?_
        refine ax_callVi (av := [ax_I x2]) (rest := [ax_A x1]) B E hm_Row_at cl_Row rfl wd_371 wd_372 lk_Schema_31 d_Schema_copyBareTo_56 rfl (Nat.le_of_ble_eq_true rfl) (fun _ _ hh => hcall 45 _ _ _ _ hh) (fun v12 h11 => ?_)
        refine ax_callVi (av := [ax_I v12]) (rest := []) B E hm_Row_add cl_Row rfl wd_123 wd_124 lk_Schema_56 d_Schema_copyBareTo_59 rfl (Nat.le_of_ble_eq_true rfl) (fun _ _ hh => hcall 8 _ _ _ _ hh) (fun v14 h13 => ?_)
        refine ax_pop B d_Schema_copyBareTo_62 rfl ?_
        refine ax_iinc (v := x2 + 1) (tv2 := [(2, ax_I (x2 + 1)), (0, ax_A x0), (1, ax_A x1), (3, ax_I x3)]) B 2 d_Schema_copyBareTo_63 rfl (congrArg (_ + ·) (by decide)) (by decide) rfl ?_
        refine ax_iinc (v := x3 + 1) (tv2 := [(3, ax_I (x3 + 1)), (2, ax_I (x2 + 1)), (0, ax_A x0), (1, ax_A x1)]) B 3 d_Schema_copyBareTo_66 rfl (congrArg (_ + ·) (by decide)) (by decide) rfl ?_
        refine ax_goto B 4 d_Schema_copyBareTo_69 (by decide) ?_
        refine ax_sub (tv2 := [(0, ax_A x0), (1, ax_A x1), (2, ax_I (x2 + 1)), (3, ax_I (x3 + 1))]) [2, 3, 1, 0] rfl ?_
        exact hk4 x0 x1 (x2 + 1) (x3 + 1) h13
      · refine ax_aload_n B 0 d_Schema_copyBareTo_39 rfl rfl ?_
        refine ax_iload_n B 2 d_Schema_copyBareTo_40 rfl rfl ?_
        refine ax_iconst (v := 1) B d_Schema_copyBareTo_41 (by decide) ?_
        refine ax_iadd B d_Schema_copyBareTo_42 ?_
        refine ax_callVi (av := [ax_I (x2 + 1)]) (rest := []) B E hm_Schema_end cl_Schema rfl wd_510 wd_511 lk_Schema_60 d_Schema_copyBareTo_43 rfl (Nat.le_of_ble_eq_true rfl) (fun _ _ hh => hcall 77 _ _ _ _ hh) (fun v16 h15 => ?_)
        refine ax_istore_n (tv2 := [(2, ax_I v16), (0, ax_A x0), (1, ax_A x1), (3, ax_I x3)]) B d_Schema_copyBareTo_46 rfl (by decide) rfl ?_
        refine ax_goto B 66 d_Schema_copyBareTo_47 (by decide) ?_
        refine ax_iinc (v := x3 + 1) (tv2 := [(3, ax_I (x3 + 1)), (2, ax_I v16), (0, ax_A x0), (1, ax_A x1)]) B 3 d_Schema_copyBareTo_66 rfl (congrArg (_ + ·) (by decide)) (by decide) rfl ?_
        refine ax_goto B 4 d_Schema_copyBareTo_69 (by decide) ?_
        refine ax_sub (tv2 := [(0, ax_A x0), (1, ax_A x1), (2, ax_I v16), (3, ax_I (x3 + 1))]) [2, 3, 1, 0] rfl ?_
        exact hk4 x0 x1 v16 (x3 + 1) h15
theorem Schema_copyBareTo_lq4 {l : Launch} {G : ax_G} {d : Nat} {call : ax_Cf} (hcall : ax_Hc l G d call) {p : Program} {e : Env} {s : State} {mi : MethodId} {args : Array Value} {below : List Frame} {meth : Method} {c : Code} {h0 : ax_Hp} (B : ax_B G p s mi meth c "SchemaDesk$Schema" prog_6_method_12_code 4 none) (E : c.exceptionTable.isEmpty = true) (Nm : meth.name = y_Schema_copyBareTo.name)   : ∀ (n : Nat) (x0 : Option Nat) (x1 : Option Nat) (x2 : Int32) (x3 : Int32) (h : ax_Hp), ax_W G p l e s mi args below meth c 4 (d + 1) h0 4 [(0, ax_A x0), (1, ax_A x1), (2, ax_I x2), (3, ax_I x3)] [] h (Schema_copyBareTo_lp4 call  n x0 x1 x2 x3 h)
  | 0, _, _, _, _, _ => ax_none
  | n + 1, x0, x1, x2, x3, h => Schema_copyBareTo_lb4 hcall B E Nm   (Schema_copyBareTo_lq4 hcall B E Nm   n) x0 x1 x2 x3 h
def Schema_copyBareTo_b (call : ax_Cf) (x0 : Option Nat) (x1 : Option Nat) (h : ax_Hp) : ax_O :=
  Schema_copyBareTo_lp4 call ax_fuel x0 x1 0 0 h
set_option maxHeartbeats 4000000 in
set_option maxRecDepth 20000 in
theorem Schema_copyBareTo_t {l : Launch} {G : ax_G} {d : Nat} {call : ax_Cf} (hcall : ax_Hc l G d call) (x0 : Option Nat) (x1 : Option Nat) (h : ax_Hp) {r : ax_Rs} {h' : ax_Hp} (ho : Schema_copyBareTo_b call x0 x1 h = some (r, h')) : ax_C l G (d + 1) y_Schema_copyBareTo (.code y_Schema_copyBareTo prog_6_method_12_code 4 none) [ax_A x0, ax_A x1] h r h' := by
  refine ax_enter (by decide) (Nat.le_of_ble_eq_true rfl) ho (fun p e s mi args below meth c B E Nm => ?_)
  have B : ax_B G p s mi meth c "SchemaDesk$Schema" prog_6_method_12_code 4 none := B
  show ax_W G p l e s mi args below meth c 4 (d + 1) h 0 [(0, ax_A x0), (1, ax_A x1)] [] h (Schema_copyBareTo_b call x0 x1 h)
  unfold Schema_copyBareTo_b
  refine ax_iconst (v := 0) B d_Schema_copyBareTo_0 (by decide) ?_
  refine ax_istore_n (tv2 := [(2, ax_I 0), (0, ax_A x0), (1, ax_A x1)]) B d_Schema_copyBareTo_1 rfl (by decide) rfl ?_
  refine ax_iconst (v := 0) B d_Schema_copyBareTo_2 (by decide) ?_
  refine ax_istore_n (tv2 := [(3, ax_I 0), (2, ax_I 0), (0, ax_A x0), (1, ax_A x1)]) B d_Schema_copyBareTo_3 rfl (by decide) rfl ?_
  refine ax_sub (tv2 := [(0, ax_A x0), (1, ax_A x1), (2, ax_I 0), (3, ax_I 0)]) [2, 3, 1, 0] rfl ?_
  exact Schema_copyBareTo_lq4 hcall B E Nm ax_fuel x0 x1 0 0 h

theorem d_Schema_copyTo_0 : decode prog_6_method_11_code 0 = .ok (.iconst 0, 1) := by decide +kernel
theorem d_Schema_copyTo_1 : decode prog_6_method_11_code 1 = .ok (.istore_n 2, 1) := by decide +kernel
theorem d_Schema_copyTo_2 : decode prog_6_method_11_code 2 = .ok (.iload_n 2, 1) := by decide +kernel
theorem d_Schema_copyTo_3 : decode prog_6_method_11_code 3 = .ok (.aload_n 0, 1) := by decide +kernel
theorem d_Schema_copyTo_4 : decode prog_6_method_11_code 4 = .ok (.getfield 9, 3) := by decide +kernel
theorem d_Schema_copyTo_7 : decode prog_6_method_11_code 7 = .ok (.invokevirtual 41, 3) := by decide +kernel
theorem d_Schema_copyTo_10 : decode prog_6_method_11_code 10 = .ok (.if_icmp .ge 22, 3) := by decide +kernel
theorem d_Schema_copyTo_13 : decode prog_6_method_11_code 13 = .ok (.aload_n 1, 1) := by decide +kernel
theorem d_Schema_copyTo_14 : decode prog_6_method_11_code 14 = .ok (.aload_n 0, 1) := by decide +kernel
theorem d_Schema_copyTo_15 : decode prog_6_method_11_code 15 = .ok (.getfield 9, 3) := by decide +kernel
theorem d_Schema_copyTo_18 : decode prog_6_method_11_code 18 = .ok (.iload_n 2, 1) := by decide +kernel
theorem d_Schema_copyTo_19 : decode prog_6_method_11_code 19 = .ok (.invokevirtual 31, 3) := by decide +kernel
theorem d_Schema_copyTo_22 : decode prog_6_method_11_code 22 = .ok (.invokevirtual 56, 3) := by decide +kernel
theorem d_Schema_copyTo_25 : decode prog_6_method_11_code 25 = .ok (.pop, 1) := by decide +kernel
theorem d_Schema_copyTo_26 : decode prog_6_method_11_code 26 = .ok (.iinc 2 1, 3) := by decide +kernel
theorem d_Schema_copyTo_29 : decode prog_6_method_11_code 29 = .ok (.goto (-27), 3) := by decide +kernel
theorem d_Schema_copyTo_32 : decode prog_6_method_11_code 32 = .ok (.return_, 1) := by decide +kernel
def Schema_copyTo_bd2 (call : ax_Cf)  (k2 : Option Nat → Option Nat → Int32 → ax_Hp → ax_O) (x0 : Option Nat) (x1 : Option Nat) (x2 : Int32) (h : ax_Hp) : ax_O :=
  (ax_gr h x0 3 0).bind fun v1 =>
  ax_on h v1 2 <| ax_ci (call 51 [ax_A v1] h) fun v3 h2 =>
  if v3 ≤ x2 then
    ax_rv h2
  else
    (ax_gr h2 x0 3 0).bind fun v4 =>
    ax_on h2 v4 2 <| ax_ci (call 45 [ax_A v4, ax_I x2] h2) fun v6 h5 =>
    ax_on h5 x1 2 <| ax_ci (call 8 [ax_A x1, ax_I v6] h5) fun v8 h7 =>
    k2 x0 x1 (x2 + 1) h7
def Schema_copyTo_lp2 (call : ax_Cf)  : Nat → Option Nat → Option Nat → Int32 → ax_Hp → ax_O
  | 0 => fun _ _ _ _ => none
  | n + 1 => Schema_copyTo_bd2 call  (Schema_copyTo_lp2 call  n)
set_option maxHeartbeats 4000000 in
set_option maxRecDepth 20000 in
theorem Schema_copyTo_lb2 {l : Launch} {G : ax_G} {d : Nat} {call : ax_Cf} (hcall : ax_Hc l G d call) {p : Program} {e : Env} {s : State} {mi : MethodId} {args : Array Value} {below : List Frame} {meth : Method} {c : Code} {h0 : ax_Hp} (B : ax_B G p s mi meth c "SchemaDesk$Schema" prog_6_method_11_code 3 none) (E : c.exceptionTable.isEmpty = true) (Nm : meth.name = y_Schema_copyTo.name)   {k2 : Option Nat → Option Nat → Int32 → ax_Hp → ax_O} (hk2 : ∀ (x0 : Option Nat) (x1 : Option Nat) (x2 : Int32) (h : ax_Hp), ax_W G p l e s mi args below meth c 3 (d + 1) h0 2 [(0, ax_A x0), (1, ax_A x1), (2, ax_I x2)] [] h (k2 x0 x1 x2 h)) (x0 : Option Nat) (x1 : Option Nat) (x2 : Int32) (h : ax_Hp) : ax_W G p l e s mi args below meth c 3 (d + 1) h0 2 [(0, ax_A x0), (1, ax_A x1), (2, ax_I x2)] [] h (Schema_copyTo_bd2 call  k2 x0 x1 x2 h) := by
  unfold Schema_copyTo_bd2
  refine ax_iload_n B 2 d_Schema_copyTo_2 rfl rfl ?_
  refine ax_aload_n B 0 d_Schema_copyTo_3 rfl rfl ?_
  refine ax_getfr B cl_Schema (by decide) fk_Schema_9 d_Schema_copyTo_4 (fun v1 => ?_)
  refine ax_callVi (av := []) (rest := [ax_I x2]) B E hm_Row_size cl_Row rfl wd_401 wd_402 lk_Schema_41 d_Schema_copyTo_7 rfl (Nat.le_of_ble_eq_true rfl) (fun _ _ hh => hcall 51 _ _ _ _ hh) (fun v3 h2 => ?_)
  refine ax_icmp_ge B 32 d_Schema_copyTo_10 (by decide) ?_ ?_
  · exact ax_vreturn B d_Schema_copyTo_32
  · refine ax_aload_n B 1 d_Schema_copyTo_13 rfl rfl ?_
    refine ax_aload_n B 0 d_Schema_copyTo_14 rfl rfl ?_
    refine ax_getfr B cl_Schema (by decide) fk_Schema_9 d_Schema_copyTo_15 (fun v4 => ?_)
    refine ax_iload_n B 2 d_Schema_copyTo_18 rfl rfl ?_
    refine ax_callVi (av := [ax_I x2]) (rest := [ax_A x1]) B E hm_Row_at cl_Row rfl wd_371 wd_372 lk_Schema_31 d_Schema_copyTo_19 rfl (Nat.le_of_ble_eq_true rfl) (fun _ _ hh => hcall 45 _ _ _ _ hh) (fun v6 h5 => ?_)
    refine ax_callVi (av := [ax_I v6]) (rest := []) B E hm_Row_add cl_Row rfl wd_123 wd_124 lk_Schema_56 d_Schema_copyTo_22 rfl (Nat.le_of_ble_eq_true rfl) (fun _ _ hh => hcall 8 _ _ _ _ hh) (fun v8 h7 => ?_)
    refine ax_pop B d_Schema_copyTo_25 rfl ?_
    refine ax_iinc (v := x2 + 1) (tv2 := [(2, ax_I (x2 + 1)), (0, ax_A x0), (1, ax_A x1)]) B 2 d_Schema_copyTo_26 rfl (congrArg (_ + ·) (by decide)) (by decide) rfl ?_
    refine ax_goto B 2 d_Schema_copyTo_29 (by decide) ?_
    refine ax_sub (tv2 := [(0, ax_A x0), (1, ax_A x1), (2, ax_I (x2 + 1))]) [1, 2, 0] rfl ?_
    exact hk2 x0 x1 (x2 + 1) h7
theorem Schema_copyTo_lq2 {l : Launch} {G : ax_G} {d : Nat} {call : ax_Cf} (hcall : ax_Hc l G d call) {p : Program} {e : Env} {s : State} {mi : MethodId} {args : Array Value} {below : List Frame} {meth : Method} {c : Code} {h0 : ax_Hp} (B : ax_B G p s mi meth c "SchemaDesk$Schema" prog_6_method_11_code 3 none) (E : c.exceptionTable.isEmpty = true) (Nm : meth.name = y_Schema_copyTo.name)   : ∀ (n : Nat) (x0 : Option Nat) (x1 : Option Nat) (x2 : Int32) (h : ax_Hp), ax_W G p l e s mi args below meth c 3 (d + 1) h0 2 [(0, ax_A x0), (1, ax_A x1), (2, ax_I x2)] [] h (Schema_copyTo_lp2 call  n x0 x1 x2 h)
  | 0, _, _, _, _ => ax_none
  | n + 1, x0, x1, x2, h => Schema_copyTo_lb2 hcall B E Nm   (Schema_copyTo_lq2 hcall B E Nm   n) x0 x1 x2 h
def Schema_copyTo_b (call : ax_Cf) (x0 : Option Nat) (x1 : Option Nat) (h : ax_Hp) : ax_O :=
  Schema_copyTo_lp2 call ax_fuel x0 x1 0 h
set_option maxHeartbeats 4000000 in
set_option maxRecDepth 20000 in
theorem Schema_copyTo_t {l : Launch} {G : ax_G} {d : Nat} {call : ax_Cf} (hcall : ax_Hc l G d call) (x0 : Option Nat) (x1 : Option Nat) (h : ax_Hp) {r : ax_Rs} {h' : ax_Hp} (ho : Schema_copyTo_b call x0 x1 h = some (r, h')) : ax_C l G (d + 1) y_Schema_copyTo (.code y_Schema_copyTo prog_6_method_11_code 3 none) [ax_A x0, ax_A x1] h r h' := by
  refine ax_enter (by decide) (Nat.le_of_ble_eq_true rfl) ho (fun p e s mi args below meth c B E Nm => ?_)
  have B : ax_B G p s mi meth c "SchemaDesk$Schema" prog_6_method_11_code 3 none := B
  show ax_W G p l e s mi args below meth c 3 (d + 1) h 0 [(0, ax_A x0), (1, ax_A x1)] [] h (Schema_copyTo_b call x0 x1 h)
  unfold Schema_copyTo_b
  refine ax_iconst (v := 0) B d_Schema_copyTo_0 (by decide) ?_
  refine ax_istore_n (tv2 := [(2, ax_I 0), (0, ax_A x0), (1, ax_A x1)]) B d_Schema_copyTo_1 rfl (by decide) rfl ?_
  refine ax_sub (tv2 := [(0, ax_A x0), (1, ax_A x1), (2, ax_I 0)]) [1, 2, 0] rfl ?_
  exact Schema_copyTo_lq2 hcall B E Nm ax_fuel x0 x1 0 h

theorem d_Schema_branchCount_0 : decode prog_6_method_17_code 0 = .ok (.iconst 0, 1) := by decide +kernel
theorem d_Schema_branchCount_1 : decode prog_6_method_17_code 1 = .ok (.istore_n 2, 1) := by decide +kernel
theorem d_Schema_branchCount_2 : decode prog_6_method_17_code 2 = .ok (.aload_n 0, 1) := by decide +kernel
theorem d_Schema_branchCount_3 : decode prog_6_method_17_code 3 = .ok (.iload_n 1, 1) := by decide +kernel
theorem d_Schema_branchCount_4 : decode prog_6_method_17_code 4 = .ok (.invokevirtual 63, 3) := by decide +kernel
theorem d_Schema_branchCount_7 : decode prog_6_method_17_code 7 = .ok (.istore_n 3, 1) := by decide +kernel
theorem d_Schema_branchCount_8 : decode prog_6_method_17_code 8 = .ok (.iconst 0, 1) := by decide +kernel
theorem d_Schema_branchCount_9 : decode prog_6_method_17_code 9 = .ok (.istore 4, 2) := by decide +kernel
theorem d_Schema_branchCount_11 : decode prog_6_method_17_code 11 = .ok (.iload 4, 2) := by decide +kernel
theorem d_Schema_branchCount_13 : decode prog_6_method_17_code 13 = .ok (.iconst 4, 1) := by decide +kernel
theorem d_Schema_branchCount_14 : decode prog_6_method_17_code 14 = .ok (.if_icmp .ge 23, 3) := by decide +kernel
theorem d_Schema_branchCount_17 : decode prog_6_method_17_code 17 = .ok (.iload_n 3, 1) := by decide +kernel
theorem d_Schema_branchCount_18 : decode prog_6_method_17_code 18 = .ok (.iconst (-1), 1) := by decide +kernel
theorem d_Schema_branchCount_19 : decode prog_6_method_17_code 19 = .ok (.if_icmp .eq 18, 3) := by decide +kernel
theorem d_Schema_branchCount_22 : decode prog_6_method_17_code 22 = .ok (.iinc 2 1, 3) := by decide +kernel
theorem d_Schema_branchCount_25 : decode prog_6_method_17_code 25 = .ok (.aload_n 0, 1) := by decide +kernel
theorem d_Schema_branchCount_26 : decode prog_6_method_17_code 26 = .ok (.iload_n 3, 1) := by decide +kernel
theorem d_Schema_branchCount_27 : decode prog_6_method_17_code 27 = .ok (.invokevirtual 66, 3) := by decide +kernel
theorem d_Schema_branchCount_30 : decode prog_6_method_17_code 30 = .ok (.istore_n 3, 1) := by decide +kernel
theorem d_Schema_branchCount_31 : decode prog_6_method_17_code 31 = .ok (.iinc 4 1, 3) := by decide +kernel
theorem d_Schema_branchCount_34 : decode prog_6_method_17_code 34 = .ok (.goto (-23), 3) := by decide +kernel
theorem d_Schema_branchCount_37 : decode prog_6_method_17_code 37 = .ok (.iload_n 2, 1) := by decide +kernel
theorem d_Schema_branchCount_38 : decode prog_6_method_17_code 38 = .ok (.ireturn, 1) := by decide +kernel
def Schema_branchCount_bd11 (call : ax_Cf)  (k11 : Option Nat → Int32 → Int32 → Int32 → ax_Hp → ax_O) (x0 : Option Nat) (x2 : Int32) (x3 : Int32) (x4 : Int32) (h : ax_Hp) : ax_O :=
  if 4 ≤ x4 then
    ax_ri x2 h
  else
    if x3 = (-1) then
      ax_ri x2 h
    else
      ax_on h x0 3 <| ax_ci (call 63 [ax_A x0, ax_I x3] h) fun v4 h3 =>
      k11 x0 (x2 + 1) v4 (x4 + 1) h3
def Schema_branchCount_lp11 (call : ax_Cf)  : Nat → Option Nat → Int32 → Int32 → Int32 → ax_Hp → ax_O
  | 0 => fun _ _ _ _ _ => none
  | n + 1 => Schema_branchCount_bd11 call  (Schema_branchCount_lp11 call  n)
set_option maxHeartbeats 4000000 in
set_option maxRecDepth 20000 in
theorem Schema_branchCount_lb11 {l : Launch} {G : ax_G} {d : Nat} {call : ax_Cf} (hcall : ax_Hc l G d call) {p : Program} {e : Env} {s : State} {mi : MethodId} {args : Array Value} {below : List Frame} {meth : Method} {c : Code} {h0 : ax_Hp} (B : ax_B G p s mi meth c "SchemaDesk$Schema" prog_6_method_17_code 5 (some (.int))) (E : c.exceptionTable.isEmpty = true) (Nm : meth.name = y_Schema_branchCount.name)   {k11 : Option Nat → Int32 → Int32 → Int32 → ax_Hp → ax_O} (hk11 : ∀ (x0 : Option Nat) (x2 : Int32) (x3 : Int32) (x4 : Int32) (h : ax_Hp), ax_W G p l e s mi args below meth c 5 (d + 1) h0 11 [(0, ax_A x0), (2, ax_I x2), (3, ax_I x3), (4, ax_I x4)] [] h (k11 x0 x2 x3 x4 h)) (x0 : Option Nat) (x2 : Int32) (x3 : Int32) (x4 : Int32) (h : ax_Hp) : ax_W G p l e s mi args below meth c 5 (d + 1) h0 11 [(0, ax_A x0), (2, ax_I x2), (3, ax_I x3), (4, ax_I x4)] [] h (Schema_branchCount_bd11 call  k11 x0 x2 x3 x4 h) := by
  unfold Schema_branchCount_bd11
  refine ax_iload B 3 d_Schema_branchCount_11 rfl ?_
  refine ax_iconst (v := 4) B d_Schema_branchCount_13 (by decide) ?_
  refine ax_icmp_ge B 37 d_Schema_branchCount_14 (by decide) ?_ ?_
  · refine ax_iload_n B 1 d_Schema_branchCount_37 rfl rfl ?_
    exact ax_ireturn B d_Schema_branchCount_38
  · refine ax_iload_n B 2 d_Schema_branchCount_17 rfl rfl ?_
    refine ax_iconst (v := (-1)) B d_Schema_branchCount_18 (by decide) ?_
    refine ax_icmp_eq B 37 d_Schema_branchCount_19 (by decide) ?_ ?_
    · refine ax_iload_n B 1 d_Schema_branchCount_37 rfl rfl ?_
      exact ax_ireturn B d_Schema_branchCount_38
    · refine ax_iinc (v := x2 + 1) (tv2 := [(2, ax_I (x2 + 1)), (0, ax_A x0), (3, ax_I x3), (4, ax_I x4)]) B 1 d_Schema_branchCount_22 rfl (congrArg (_ + ·) (by decide)) (by decide) rfl ?_
      refine ax_aload_n B 1 d_Schema_branchCount_25 rfl rfl ?_
      refine ax_iload_n B 2 d_Schema_branchCount_26 rfl rfl ?_
      refine ax_callVi (av := [ax_I x3]) (rest := []) B E hm_Schema_nextPart cl_Schema rfl wd_452 wd_453 lk_Schema_66 d_Schema_branchCount_27 rfl (Nat.le_of_ble_eq_true rfl) (fun _ _ hh => hcall 63 _ _ _ _ hh) (fun v4 h3 => ?_)
      refine ax_istore_n (tv2 := [(3, ax_I v4), (2, ax_I (x2 + 1)), (0, ax_A x0), (4, ax_I x4)]) B d_Schema_branchCount_30 rfl (by decide) rfl ?_
      refine ax_iinc (v := x4 + 1) (tv2 := [(4, ax_I (x4 + 1)), (3, ax_I v4), (2, ax_I (x2 + 1)), (0, ax_A x0)]) B 3 d_Schema_branchCount_31 rfl (congrArg (_ + ·) (by decide)) (by decide) rfl ?_
      refine ax_goto B 11 d_Schema_branchCount_34 (by decide) ?_
      refine ax_sub (tv2 := [(0, ax_A x0), (2, ax_I (x2 + 1)), (3, ax_I v4), (4, ax_I (x4 + 1))]) [3, 2, 1, 0] rfl ?_
      exact hk11 x0 (x2 + 1) v4 (x4 + 1) h3
theorem Schema_branchCount_lq11 {l : Launch} {G : ax_G} {d : Nat} {call : ax_Cf} (hcall : ax_Hc l G d call) {p : Program} {e : Env} {s : State} {mi : MethodId} {args : Array Value} {below : List Frame} {meth : Method} {c : Code} {h0 : ax_Hp} (B : ax_B G p s mi meth c "SchemaDesk$Schema" prog_6_method_17_code 5 (some (.int))) (E : c.exceptionTable.isEmpty = true) (Nm : meth.name = y_Schema_branchCount.name)   : ∀ (n : Nat) (x0 : Option Nat) (x2 : Int32) (x3 : Int32) (x4 : Int32) (h : ax_Hp), ax_W G p l e s mi args below meth c 5 (d + 1) h0 11 [(0, ax_A x0), (2, ax_I x2), (3, ax_I x3), (4, ax_I x4)] [] h (Schema_branchCount_lp11 call  n x0 x2 x3 x4 h)
  | 0, _, _, _, _, _ => ax_none
  | n + 1, x0, x2, x3, x4, h => Schema_branchCount_lb11 hcall B E Nm   (Schema_branchCount_lq11 hcall B E Nm   n) x0 x2 x3 x4 h
def Schema_branchCount_b (call : ax_Cf) (x0 : Option Nat) (x1 : Int32) (h : ax_Hp) : ax_O :=
  ax_on h x0 3 <| ax_ci (call 60 [ax_A x0, ax_I x1] h) fun v2 h1 =>
  Schema_branchCount_lp11 call ax_fuel x0 0 v2 0 h1
set_option maxHeartbeats 4000000 in
set_option maxRecDepth 20000 in
theorem Schema_branchCount_t {l : Launch} {G : ax_G} {d : Nat} {call : ax_Cf} (hcall : ax_Hc l G d call) (x0 : Option Nat) (x1 : Int32) (h : ax_Hp) {r : ax_Rs} {h' : ax_Hp} (ho : Schema_branchCount_b call x0 x1 h = some (r, h')) : ax_C l G (d + 1) y_Schema_branchCount (.code y_Schema_branchCount prog_6_method_17_code 5 (some (.int))) [ax_A x0, ax_I x1] h r h' := by
  refine ax_enter (by decide) (Nat.le_of_ble_eq_true rfl) ho (fun p e s mi args below meth c B E Nm => ?_)
  have B : ax_B G p s mi meth c "SchemaDesk$Schema" prog_6_method_17_code 5 (some (.int)) := B
  show ax_W G p l e s mi args below meth c 5 (d + 1) h 0 [(0, ax_A x0), (1, ax_I x1)] [] h (Schema_branchCount_b call x0 x1 h)
  unfold Schema_branchCount_b
  refine ax_iconst (v := 0) B d_Schema_branchCount_0 (by decide) ?_
  refine ax_istore_n (tv2 := [(2, ax_I 0), (0, ax_A x0), (1, ax_I x1)]) B d_Schema_branchCount_1 rfl (by decide) rfl ?_
  refine ax_aload_n B 1 d_Schema_branchCount_2 rfl rfl ?_
  refine ax_iload_n B 2 d_Schema_branchCount_3 rfl rfl ?_
  refine ax_callVi (av := [ax_I x1]) (rest := []) B E hm_Schema_firstPart cl_Schema rfl wd_439 wd_440 lk_Schema_63 d_Schema_branchCount_4 rfl (Nat.le_of_ble_eq_true rfl) (fun _ _ hh => hcall 60 _ _ _ _ hh) (fun v2 h1 => ?_)
  refine ax_istore_n (tv2 := [(3, ax_I v2), (2, ax_I 0), (0, ax_A x0), (1, ax_I x1)]) B d_Schema_branchCount_7 rfl (by decide) rfl ?_
  refine ax_iconst (v := 0) B d_Schema_branchCount_8 (by decide) ?_
  refine ax_istore (tv2 := [(4, ax_I 0), (3, ax_I v2), (2, ax_I 0), (0, ax_A x0), (1, ax_I x1)]) B d_Schema_branchCount_9 (by decide) rfl ?_
  refine ax_sub (tv2 := [(0, ax_A x0), (2, ax_I 0), (3, ax_I v2), (4, ax_I 0)]) [3, 2, 1, 0] rfl ?_
  exact Schema_branchCount_lq11 hcall B E Nm ax_fuel x0 0 v2 0 h1

theorem d_Schema_isMarkedUnion_0 : decode prog_6_method_6_code 0 = .ok (.iload_n 1, 1) := by decide +kernel
theorem d_Schema_isMarkedUnion_1 : decode prog_6_method_6_code 1 = .ok (.ifCond .lt 26, 3) := by decide +kernel
theorem d_Schema_isMarkedUnion_4 : decode prog_6_method_6_code 4 = .ok (.iload_n 1, 1) := by decide +kernel
theorem d_Schema_isMarkedUnion_5 : decode prog_6_method_6_code 5 = .ok (.aload_n 0, 1) := by decide +kernel
theorem d_Schema_isMarkedUnion_6 : decode prog_6_method_6_code 6 = .ok (.getfield 22, 3) := by decide +kernel
theorem d_Schema_isMarkedUnion_9 : decode prog_6_method_6_code 9 = .ok (.arraylength, 1) := by decide +kernel
theorem d_Schema_isMarkedUnion_10 : decode prog_6_method_6_code 10 = .ok (.if_icmp .ge 17, 3) := by decide +kernel
theorem d_Schema_isMarkedUnion_13 : decode prog_6_method_6_code 13 = .ok (.aload_n 0, 1) := by decide +kernel
theorem d_Schema_isMarkedUnion_14 : decode prog_6_method_6_code 14 = .ok (.getfield 22, 3) := by decide +kernel
theorem d_Schema_isMarkedUnion_17 : decode prog_6_method_6_code 17 = .ok (.iload_n 1, 1) := by decide +kernel
theorem d_Schema_isMarkedUnion_18 : decode prog_6_method_6_code 18 = .ok (.iaload, 1) := by decide +kernel
theorem d_Schema_isMarkedUnion_19 : decode prog_6_method_6_code 19 = .ok (.iconst 1, 1) := by decide +kernel
theorem d_Schema_isMarkedUnion_20 : decode prog_6_method_6_code 20 = .ok (.if_icmp .ne 7, 3) := by decide +kernel
theorem d_Schema_isMarkedUnion_23 : decode prog_6_method_6_code 23 = .ok (.iconst 1, 1) := by decide +kernel
theorem d_Schema_isMarkedUnion_24 : decode prog_6_method_6_code 24 = .ok (.goto 4, 3) := by decide +kernel
theorem d_Schema_isMarkedUnion_27 : decode prog_6_method_6_code 27 = .ok (.iconst 0, 1) := by decide +kernel
theorem d_Schema_isMarkedUnion_28 : decode prog_6_method_6_code 28 = .ok (.ireturn, 1) := by decide +kernel
def Schema_isMarkedUnion_b (call : ax_Cf) (x0 : Option Nat) (x1 : Int32) (h : ax_Hp) : ax_O :=
  if x1 < 0 then
    ax_rz 0 h
  else
    (ax_gr h x0 3 3).bind fun v1 =>
    (ax_len h v1 1).bind fun v2 =>
    if v2 ≤ x1 then
      ax_rz 0 h
    else
      (ax_gr h x0 3 3).bind fun v3 =>
      (ax_ldi h v3 1 x1).bind fun v4 =>
      if v4 = 1 then
        ax_rz 1 h
      else
        ax_rz 0 h
set_option maxHeartbeats 4000000 in
set_option maxRecDepth 20000 in
theorem Schema_isMarkedUnion_t {l : Launch} {G : ax_G} {d : Nat} {call : ax_Cf} (hcall : ax_Hc l G d call) (x0 : Option Nat) (x1 : Int32) (h : ax_Hp) {r : ax_Rs} {h' : ax_Hp} (ho : Schema_isMarkedUnion_b call x0 x1 h = some (r, h')) : ax_C l G (d + 1) y_Schema_isMarkedUnion (.code y_Schema_isMarkedUnion prog_6_method_6_code 2 (some (.boolean))) [ax_A x0, ax_I x1] h r h' := by
  refine ax_enter (by decide) (Nat.le_of_ble_eq_true rfl) ho (fun p e s mi args below meth c B E Nm => ?_)
  have B : ax_B G p s mi meth c "SchemaDesk$Schema" prog_6_method_6_code 2 (some (.boolean)) := B
  show ax_W G p l e s mi args below meth c 2 (d + 1) h 0 [(0, ax_A x0), (1, ax_I x1)] [] h (Schema_isMarkedUnion_b call x0 x1 h)
  unfold Schema_isMarkedUnion_b
  refine ax_iload_n B 1 d_Schema_isMarkedUnion_0 rfl rfl ?_
  refine ax_if_lt B 27 d_Schema_isMarkedUnion_1 (by decide) ?_ ?_
  · refine ax_iconst (v := 0) B d_Schema_isMarkedUnion_27 (by decide) ?_
    exact ax_zreturn B d_Schema_isMarkedUnion_28
  · refine ax_iload_n B 1 d_Schema_isMarkedUnion_4 rfl rfl ?_
    refine ax_aload_n B 0 d_Schema_isMarkedUnion_5 rfl rfl ?_
    refine ax_getfr B cl_Schema (by decide) fk_Schema_22 d_Schema_isMarkedUnion_6 (fun v1 => ?_)
    refine ax_alen (kd := 1) B (by decide) d_Schema_isMarkedUnion_9 (fun v2 => ?_)
    refine ax_icmp_ge B 27 d_Schema_isMarkedUnion_10 (by decide) ?_ ?_
    · refine ax_iconst (v := 0) B d_Schema_isMarkedUnion_27 (by decide) ?_
      exact ax_zreturn B d_Schema_isMarkedUnion_28
    · refine ax_aload_n B 0 d_Schema_isMarkedUnion_13 rfl rfl ?_
      refine ax_getfr B cl_Schema (by decide) fk_Schema_22 d_Schema_isMarkedUnion_14 (fun v3 => ?_)
      refine ax_iload_n B 1 d_Schema_isMarkedUnion_17 rfl rfl ?_
      refine ax_iald (kd := 1) B (by decide) rfl d_Schema_isMarkedUnion_18 (fun v4 => ?_)
      refine ax_iconst (v := 1) B d_Schema_isMarkedUnion_19 (by decide) ?_
      refine ax_icmp_ne B 27 d_Schema_isMarkedUnion_20 (by decide) ?_ ?_
      · refine ax_iconst (v := 0) B d_Schema_isMarkedUnion_27 (by decide) ?_
        exact ax_zreturn B d_Schema_isMarkedUnion_28
      · refine ax_iconst (v := 1) B d_Schema_isMarkedUnion_23 (by decide) ?_
        refine ax_goto B 28 d_Schema_isMarkedUnion_24 (by decide) ?_
        exact ax_zreturn B d_Schema_isMarkedUnion_28
