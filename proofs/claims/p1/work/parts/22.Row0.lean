theorem d_Row_init_0 : decode prog_5_method_1_code 0 = .ok (.aload_n 0, 1) := by decide +kernel
theorem d_Row_init_1 : decode prog_5_method_1_code 1 = .ok (.invokespecial 3, 3) := by decide +kernel
theorem d_Row_init_4 : decode prog_5_method_1_code 4 = .ok (.aload_n 0, 1) := by decide +kernel
theorem d_Row_init_5 : decode prog_5_method_1_code 5 = .ok (.aload_n 1, 1) := by decide +kernel
theorem d_Row_init_6 : decode prog_5_method_1_code 6 = .ok (.putfield 9, 3) := by decide +kernel
theorem d_Row_init_9 : decode prog_5_method_1_code 9 = .ok (.aload_n 0, 1) := by decide +kernel
theorem d_Row_init_10 : decode prog_5_method_1_code 10 = .ok (.iload_n 2, 1) := by decide +kernel
theorem d_Row_init_11 : decode prog_5_method_1_code 11 = .ok (.putfield 15, 3) := by decide +kernel
theorem d_Row_init_14 : decode prog_5_method_1_code 14 = .ok (.return_, 1) := by decide +kernel
def Row_init_b (call : ax_Cf) (x0 : Nat) (x1 : Option Nat) (x2 : Int32) (h : ax_Hp) : ax_O :=
  (ax_pf h (some x0) 2 0 (ax_A x1)).bind fun h1 =>
  (ax_pf h1 (some x0) 2 1 (ax_I x2)).bind fun h2 =>
  ax_rv h2
set_option maxHeartbeats 4000000 in
set_option maxRecDepth 20000 in
theorem Row_init_t {l : Launch} {G : ax_G} {d : Nat} {call : ax_Cf} (hcall : ax_Hc l G d call) (x0 : Nat) (x1 : Option Nat) (x2 : Int32) (h : ax_Hp) {r : ax_Rs} {h' : ax_Hp} (ho : Row_init_b call x0 x1 x2 h = some (r, h')) : ax_C l G (d + 1) y_Row_init (.code y_Row_init prog_5_method_1_code 3 none) [ax_A (some x0), ax_A x1, ax_I x2] h r h' := by
  refine ax_enter (by decide) (Nat.le_of_ble_eq_true rfl) ho (fun p e s mi args below meth c B E Nm => ?_)
  have B : ax_B G p s mi meth c "SchemaDesk$Row" prog_5_method_1_code 3 none := B
  show ax_W G p l e s mi args below meth c 3 (d + 1) h 0 [(0, ax_A (some x0)), (1, ax_A x1), (2, ax_I x2)] [] h (Row_init_b call x0 x1 x2 h)
  unfold Row_init_b
  refine ax_aload_n B 0 d_Row_init_0 rfl rfl ?_
  refine ax_objinit B wd_34 wd_27 wd_objcode (Nat.le_of_ble_eq_true rfl) d_Row_init_1 ?_
  refine ax_aload_n B 0 d_Row_init_4 rfl rfl ?_
  refine ax_aload_n B 1 d_Row_init_5 rfl rfl ?_
  refine ax_putf (v := ax_A x1) B cl_Row (by decide) fk_Row_9 (Or.inr ⟨wd_35, rfl, Nm, rfl⟩) (fun _ => ax_narR) (fun _ => ax_fitR) d_Row_init_6 (fun h1 => ?_)
  refine ax_aload_n B 0 d_Row_init_9 rfl rfl ?_
  refine ax_iload_n B 2 d_Row_init_10 rfl rfl ?_
  refine ax_putf (v := ax_I x2) B cl_Row (by decide) fk_Row_15 (Or.inl rfl) (fun _ => rfl) (fun _ => rfl) d_Row_init_11 (fun h2 => ?_)
  exact ax_vreturn B d_Row_init_14

theorem d_Row_room_0 : decode prog_5_method_3_code 0 = .ok (.aload_n 0, 1) := by decide +kernel
theorem d_Row_room_1 : decode prog_5_method_3_code 1 = .ok (.getfield 9, 3) := by decide +kernel
theorem d_Row_room_4 : decode prog_5_method_3_code 4 = .ok (.arraylength, 1) := by decide +kernel
theorem d_Row_room_5 : decode prog_5_method_3_code 5 = .ok (.aload_n 0, 1) := by decide +kernel
theorem d_Row_room_6 : decode prog_5_method_3_code 6 = .ok (.getfield 15, 3) := by decide +kernel
theorem d_Row_room_9 : decode prog_5_method_3_code 9 = .ok (.isub, 1) := by decide +kernel
theorem d_Row_room_10 : decode prog_5_method_3_code 10 = .ok (.ireturn, 1) := by decide +kernel
def Row_room_b (call : ax_Cf) (x0 : Option Nat) (h : ax_Hp) : ax_O :=
  (ax_gr h x0 2 0).bind fun v1 =>
  (ax_len h v1 1).bind fun v2 =>
  (ax_gi h x0 2 1).bind fun v3 =>
  ax_ri (v2 - v3) h
set_option maxHeartbeats 4000000 in
set_option maxRecDepth 20000 in
theorem Row_room_t {l : Launch} {G : ax_G} {d : Nat} {call : ax_Cf} (hcall : ax_Hc l G d call) (x0 : Option Nat) (h : ax_Hp) {r : ax_Rs} {h' : ax_Hp} (ho : Row_room_b call x0 h = some (r, h')) : ax_C l G (d + 1) y_Row_room (.code y_Row_room prog_5_method_3_code 1 (some (.int))) [ax_A x0] h r h' := by
  refine ax_enter (by decide) (Nat.le_of_ble_eq_true rfl) ho (fun p e s mi args below meth c B E Nm => ?_)
  have B : ax_B G p s mi meth c "SchemaDesk$Row" prog_5_method_3_code 1 (some (.int)) := B
  show ax_W G p l e s mi args below meth c 1 (d + 1) h 0 [(0, ax_A x0)] [] h (Row_room_b call x0 h)
  unfold Row_room_b
  refine ax_aload_n B 0 d_Row_room_0 rfl rfl ?_
  refine ax_getfr B cl_Row (by decide) fk_Row_9 d_Row_room_1 (fun v1 => ?_)
  refine ax_alen (kd := 1) B (by decide) d_Row_room_4 (fun v2 => ?_)
  refine ax_aload_n B 0 d_Row_room_5 rfl rfl ?_
  refine ax_getfi B cl_Row (by decide) fk_Row_15 d_Row_room_6 (fun v3 => ?_)
  refine ax_isub B d_Row_room_9 ?_
  exact ax_ireturn B d_Row_room_10

theorem d_Row_add_0 : decode prog_5_method_5_code 0 = .ok (.aload_n 0, 1) := by decide +kernel
theorem d_Row_add_1 : decode prog_5_method_5_code 1 = .ok (.getfield 15, 3) := by decide +kernel
theorem d_Row_add_4 : decode prog_5_method_5_code 4 = .ok (.aload_n 0, 1) := by decide +kernel
theorem d_Row_add_5 : decode prog_5_method_5_code 5 = .ok (.getfield 9, 3) := by decide +kernel
theorem d_Row_add_8 : decode prog_5_method_5_code 8 = .ok (.arraylength, 1) := by decide +kernel
theorem d_Row_add_9 : decode prog_5_method_5_code 9 = .ok (.if_icmp .lt 5, 3) := by decide +kernel
theorem d_Row_add_12 : decode prog_5_method_5_code 12 = .ok (.iconst 0, 1) := by decide +kernel
theorem d_Row_add_13 : decode prog_5_method_5_code 13 = .ok (.ireturn, 1) := by decide +kernel
theorem d_Row_add_14 : decode prog_5_method_5_code 14 = .ok (.aload_n 0, 1) := by decide +kernel
theorem d_Row_add_15 : decode prog_5_method_5_code 15 = .ok (.getfield 9, 3) := by decide +kernel
theorem d_Row_add_18 : decode prog_5_method_5_code 18 = .ok (.aload_n 0, 1) := by decide +kernel
theorem d_Row_add_19 : decode prog_5_method_5_code 19 = .ok (.getfield 15, 3) := by decide +kernel
theorem d_Row_add_22 : decode prog_5_method_5_code 22 = .ok (.iload_n 1, 1) := by decide +kernel
theorem d_Row_add_23 : decode prog_5_method_5_code 23 = .ok (.iastore, 1) := by decide +kernel
theorem d_Row_add_24 : decode prog_5_method_5_code 24 = .ok (.aload_n 0, 1) := by decide +kernel
theorem d_Row_add_25 : decode prog_5_method_5_code 25 = .ok (.dup, 1) := by decide +kernel
theorem d_Row_add_26 : decode prog_5_method_5_code 26 = .ok (.getfield 15, 3) := by decide +kernel
theorem d_Row_add_29 : decode prog_5_method_5_code 29 = .ok (.iconst 1, 1) := by decide +kernel
theorem d_Row_add_30 : decode prog_5_method_5_code 30 = .ok (.iadd, 1) := by decide +kernel
theorem d_Row_add_31 : decode prog_5_method_5_code 31 = .ok (.putfield 15, 3) := by decide +kernel
theorem d_Row_add_34 : decode prog_5_method_5_code 34 = .ok (.iconst 1, 1) := by decide +kernel
theorem d_Row_add_35 : decode prog_5_method_5_code 35 = .ok (.ireturn, 1) := by decide +kernel
def Row_add_b (call : ax_Cf) (x0 : Option Nat) (x1 : Int32) (h : ax_Hp) : ax_O :=
  (ax_gi h x0 2 1).bind fun v1 =>
  (ax_gr h x0 2 0).bind fun v2 =>
  (ax_len h v2 1).bind fun v3 =>
  if v1 < v3 then
    (ax_gr h x0 2 0).bind fun v4 =>
    (ax_gi h x0 2 1).bind fun v5 =>
    (ax_st h v4 1 v5 (ax_I x1)).bind fun h6 =>
    (ax_gi h6 x0 2 1).bind fun v7 =>
    (ax_pf h6 x0 2 1 (ax_I (v7 + 1))).bind fun h8 =>
    ax_rz 1 h8
  else
    ax_rz 0 h
set_option maxHeartbeats 4000000 in
set_option maxRecDepth 20000 in
theorem Row_add_t {l : Launch} {G : ax_G} {d : Nat} {call : ax_Cf} (hcall : ax_Hc l G d call) (x0 : Option Nat) (x1 : Int32) (h : ax_Hp) {r : ax_Rs} {h' : ax_Hp} (ho : Row_add_b call x0 x1 h = some (r, h')) : ax_C l G (d + 1) y_Row_add (.code y_Row_add prog_5_method_5_code 2 (some (.boolean))) [ax_A x0, ax_I x1] h r h' := by
  refine ax_enter (by decide) (Nat.le_of_ble_eq_true rfl) ho (fun p e s mi args below meth c B E Nm => ?_)
  have B : ax_B G p s mi meth c "SchemaDesk$Row" prog_5_method_5_code 2 (some (.boolean)) := B
  show ax_W G p l e s mi args below meth c 2 (d + 1) h 0 [(0, ax_A x0), (1, ax_I x1)] [] h (Row_add_b call x0 x1 h)
  unfold Row_add_b
  refine ax_aload_n B 0 d_Row_add_0 rfl rfl ?_
  refine ax_getfi B cl_Row (by decide) fk_Row_15 d_Row_add_1 (fun v1 => ?_)
  refine ax_aload_n B 0 d_Row_add_4 rfl rfl ?_
  refine ax_getfr B cl_Row (by decide) fk_Row_9 d_Row_add_5 (fun v2 => ?_)
  refine ax_alen (kd := 1) B (by decide) d_Row_add_8 (fun v3 => ?_)
  refine ax_icmp_lt B 14 d_Row_add_9 (by decide) ?_ ?_
  · refine ax_aload_n B 0 d_Row_add_14 rfl rfl ?_
    refine ax_getfr B cl_Row (by decide) fk_Row_9 d_Row_add_15 (fun v4 => ?_)
    refine ax_aload_n B 0 d_Row_add_18 rfl rfl ?_
    refine ax_getfi B cl_Row (by decide) fk_Row_15 d_Row_add_19 (fun v5 => ?_)
    refine ax_iload_n B 1 d_Row_add_22 rfl rfl ?_
    refine ax_iast (kd := 1) B (by decide) (by decide) rfl d_Row_add_23 (fun h6 => ?_)
    refine ax_aload_n B 0 d_Row_add_24 rfl rfl ?_
    refine ax_dup B d_Row_add_25 rfl ?_
    refine ax_getfi B cl_Row (by decide) fk_Row_15 d_Row_add_26 (fun v7 => ?_)
    refine ax_iconst (v := 1) B d_Row_add_29 (by decide) ?_
    refine ax_iadd B d_Row_add_30 ?_
    refine ax_putf (v := ax_I (v7 + 1)) B cl_Row (by decide) fk_Row_15 (Or.inl rfl) (fun _ => rfl) (fun _ => rfl) d_Row_add_31 (fun h8 => ?_)
    refine ax_iconst (v := 1) B d_Row_add_34 (by decide) ?_
    exact ax_zreturn B d_Row_add_35
  · refine ax_iconst (v := 0) B d_Row_add_12 (by decide) ?_
    exact ax_zreturn B d_Row_add_13

theorem d_Row_clear_0 : decode prog_5_method_7_code 0 = .ok (.aload_n 0, 1) := by decide +kernel
theorem d_Row_clear_1 : decode prog_5_method_7_code 1 = .ok (.getfield 15, 3) := by decide +kernel
theorem d_Row_clear_4 : decode prog_5_method_7_code 4 = .ok (.istore_n 1, 1) := by decide +kernel
theorem d_Row_clear_5 : decode prog_5_method_7_code 5 = .ok (.aload_n 0, 1) := by decide +kernel
theorem d_Row_clear_6 : decode prog_5_method_7_code 6 = .ok (.iconst 0, 1) := by decide +kernel
theorem d_Row_clear_7 : decode prog_5_method_7_code 7 = .ok (.putfield 15, 3) := by decide +kernel
theorem d_Row_clear_10 : decode prog_5_method_7_code 10 = .ok (.iload_n 1, 1) := by decide +kernel
theorem d_Row_clear_11 : decode prog_5_method_7_code 11 = .ok (.ireturn, 1) := by decide +kernel
def Row_clear_b (call : ax_Cf) (x0 : Option Nat) (h : ax_Hp) : ax_O :=
  (ax_gi h x0 2 1).bind fun v1 =>
  (ax_pf h x0 2 1 (ax_I 0)).bind fun h2 =>
  ax_ri v1 h2
set_option maxHeartbeats 4000000 in
set_option maxRecDepth 20000 in
theorem Row_clear_t {l : Launch} {G : ax_G} {d : Nat} {call : ax_Cf} (hcall : ax_Hc l G d call) (x0 : Option Nat) (h : ax_Hp) {r : ax_Rs} {h' : ax_Hp} (ho : Row_clear_b call x0 h = some (r, h')) : ax_C l G (d + 1) y_Row_clear (.code y_Row_clear prog_5_method_7_code 2 (some (.int))) [ax_A x0] h r h' := by
  refine ax_enter (by decide) (Nat.le_of_ble_eq_true rfl) ho (fun p e s mi args below meth c B E Nm => ?_)
  have B : ax_B G p s mi meth c "SchemaDesk$Row" prog_5_method_7_code 2 (some (.int)) := B
  show ax_W G p l e s mi args below meth c 2 (d + 1) h 0 [(0, ax_A x0)] [] h (Row_clear_b call x0 h)
  unfold Row_clear_b
  refine ax_aload_n B 0 d_Row_clear_0 rfl rfl ?_
  refine ax_getfi B cl_Row (by decide) fk_Row_15 d_Row_clear_1 (fun v1 => ?_)
  refine ax_istore_n (tv2 := [(1, ax_I v1), (0, ax_A x0)]) B d_Row_clear_4 rfl (by decide) rfl ?_
  refine ax_aload_n B 1 d_Row_clear_5 rfl rfl ?_
  refine ax_iconst (v := 0) B d_Row_clear_6 (by decide) ?_
  refine ax_putf (v := ax_I 0) B cl_Row (by decide) fk_Row_15 (Or.inl rfl) (fun _ => rfl) (fun _ => rfl) d_Row_clear_7 (fun h2 => ?_)
  refine ax_iload_n B 0 d_Row_clear_10 rfl rfl ?_
  exact ax_ireturn B d_Row_clear_11

theorem d_Row_at_0 : decode prog_5_method_4_code 0 = .ok (.iload_n 1, 1) := by decide +kernel
theorem d_Row_at_1 : decode prog_5_method_4_code 1 = .ok (.ifCond .lt 20, 3) := by decide +kernel
theorem d_Row_at_4 : decode prog_5_method_4_code 4 = .ok (.iload_n 1, 1) := by decide +kernel
theorem d_Row_at_5 : decode prog_5_method_4_code 5 = .ok (.aload_n 0, 1) := by decide +kernel
theorem d_Row_at_6 : decode prog_5_method_4_code 6 = .ok (.getfield 15, 3) := by decide +kernel
theorem d_Row_at_9 : decode prog_5_method_4_code 9 = .ok (.if_icmp .ge 12, 3) := by decide +kernel
theorem d_Row_at_12 : decode prog_5_method_4_code 12 = .ok (.aload_n 0, 1) := by decide +kernel
theorem d_Row_at_13 : decode prog_5_method_4_code 13 = .ok (.getfield 9, 3) := by decide +kernel
theorem d_Row_at_16 : decode prog_5_method_4_code 16 = .ok (.iload_n 1, 1) := by decide +kernel
theorem d_Row_at_17 : decode prog_5_method_4_code 17 = .ok (.iaload, 1) := by decide +kernel
theorem d_Row_at_18 : decode prog_5_method_4_code 18 = .ok (.goto 4, 3) := by decide +kernel
theorem d_Row_at_21 : decode prog_5_method_4_code 21 = .ok (.iconst (-1), 1) := by decide +kernel
theorem d_Row_at_22 : decode prog_5_method_4_code 22 = .ok (.ireturn, 1) := by decide +kernel
def Row_at_b (call : ax_Cf) (x0 : Option Nat) (x1 : Int32) (h : ax_Hp) : ax_O :=
  if x1 < 0 then
    ax_ri (-1) h
  else
    (ax_gi h x0 2 1).bind fun v1 =>
    if v1 ≤ x1 then
      ax_ri (-1) h
    else
      (ax_gr h x0 2 0).bind fun v2 =>
      (ax_ldi h v2 1 x1).bind fun v3 =>
      ax_ri v3 h
set_option maxHeartbeats 4000000 in
set_option maxRecDepth 20000 in
theorem Row_at_t {l : Launch} {G : ax_G} {d : Nat} {call : ax_Cf} (hcall : ax_Hc l G d call) (x0 : Option Nat) (x1 : Int32) (h : ax_Hp) {r : ax_Rs} {h' : ax_Hp} (ho : Row_at_b call x0 x1 h = some (r, h')) : ax_C l G (d + 1) y_Row_at (.code y_Row_at prog_5_method_4_code 2 (some (.int))) [ax_A x0, ax_I x1] h r h' := by
  refine ax_enter (by decide) (Nat.le_of_ble_eq_true rfl) ho (fun p e s mi args below meth c B E Nm => ?_)
  have B : ax_B G p s mi meth c "SchemaDesk$Row" prog_5_method_4_code 2 (some (.int)) := B
  show ax_W G p l e s mi args below meth c 2 (d + 1) h 0 [(0, ax_A x0), (1, ax_I x1)] [] h (Row_at_b call x0 x1 h)
  unfold Row_at_b
  refine ax_iload_n B 1 d_Row_at_0 rfl rfl ?_
  refine ax_if_lt B 21 d_Row_at_1 (by decide) ?_ ?_
  · refine ax_iconst (v := (-1)) B d_Row_at_21 (by decide) ?_
    exact ax_ireturn B d_Row_at_22
  · refine ax_iload_n B 1 d_Row_at_4 rfl rfl ?_
    refine ax_aload_n B 0 d_Row_at_5 rfl rfl ?_
    refine ax_getfi B cl_Row (by decide) fk_Row_15 d_Row_at_6 (fun v1 => ?_)
    refine ax_icmp_ge B 21 d_Row_at_9 (by decide) ?_ ?_
    · refine ax_iconst (v := (-1)) B d_Row_at_21 (by decide) ?_
      exact ax_ireturn B d_Row_at_22
    · refine ax_aload_n B 0 d_Row_at_12 rfl rfl ?_
      refine ax_getfr B cl_Row (by decide) fk_Row_9 d_Row_at_13 (fun v2 => ?_)
      refine ax_iload_n B 1 d_Row_at_16 rfl rfl ?_
      refine ax_iald (kd := 1) B (by decide) rfl d_Row_at_17 (fun v3 => ?_)
      refine ax_goto B 22 d_Row_at_18 (by decide) ?_
      exact ax_ireturn B d_Row_at_22

theorem d_Row_size_0 : decode prog_5_method_2_code 0 = .ok (.aload_n 0, 1) := by decide +kernel
theorem d_Row_size_1 : decode prog_5_method_2_code 1 = .ok (.getfield 15, 3) := by decide +kernel
theorem d_Row_size_4 : decode prog_5_method_2_code 4 = .ok (.ireturn, 1) := by decide +kernel
def Row_size_b (call : ax_Cf) (x0 : Option Nat) (h : ax_Hp) : ax_O :=
  (ax_gi h x0 2 1).bind fun v1 =>
  ax_ri v1 h
set_option maxHeartbeats 4000000 in
set_option maxRecDepth 20000 in
theorem Row_size_t {l : Launch} {G : ax_G} {d : Nat} {call : ax_Cf} (hcall : ax_Hc l G d call) (x0 : Option Nat) (h : ax_Hp) {r : ax_Rs} {h' : ax_Hp} (ho : Row_size_b call x0 h = some (r, h')) : ax_C l G (d + 1) y_Row_size (.code y_Row_size prog_5_method_2_code 1 (some (.int))) [ax_A x0] h r h' := by
  refine ax_enter (by decide) (Nat.le_of_ble_eq_true rfl) ho (fun p e s mi args below meth c B E Nm => ?_)
  have B : ax_B G p s mi meth c "SchemaDesk$Row" prog_5_method_2_code 1 (some (.int)) := B
  show ax_W G p l e s mi args below meth c 1 (d + 1) h 0 [(0, ax_A x0)] [] h (Row_size_b call x0 h)
  unfold Row_size_b
  refine ax_aload_n B 0 d_Row_size_0 rfl rfl ?_
  refine ax_getfi B cl_Row (by decide) fk_Row_15 d_Row_size_1 (fun v1 => ?_)
  exact ax_ireturn B d_Row_size_4

theorem d_Row_set_0 : decode prog_5_method_6_code 0 = .ok (.iload_n 1, 1) := by decide +kernel
theorem d_Row_set_1 : decode prog_5_method_6_code 1 = .ok (.ifCond .lt 18, 3) := by decide +kernel
theorem d_Row_set_4 : decode prog_5_method_6_code 4 = .ok (.iload_n 1, 1) := by decide +kernel
theorem d_Row_set_5 : decode prog_5_method_6_code 5 = .ok (.aload_n 0, 1) := by decide +kernel
theorem d_Row_set_6 : decode prog_5_method_6_code 6 = .ok (.getfield 15, 3) := by decide +kernel
theorem d_Row_set_9 : decode prog_5_method_6_code 9 = .ok (.if_icmp .ge 10, 3) := by decide +kernel
theorem d_Row_set_12 : decode prog_5_method_6_code 12 = .ok (.aload_n 0, 1) := by decide +kernel
theorem d_Row_set_13 : decode prog_5_method_6_code 13 = .ok (.getfield 9, 3) := by decide +kernel
theorem d_Row_set_16 : decode prog_5_method_6_code 16 = .ok (.iload_n 1, 1) := by decide +kernel
theorem d_Row_set_17 : decode prog_5_method_6_code 17 = .ok (.iload_n 2, 1) := by decide +kernel
theorem d_Row_set_18 : decode prog_5_method_6_code 18 = .ok (.iastore, 1) := by decide +kernel
theorem d_Row_set_19 : decode prog_5_method_6_code 19 = .ok (.return_, 1) := by decide +kernel
def Row_set_b (call : ax_Cf) (x0 : Option Nat) (x1 : Int32) (x2 : Int32) (h : ax_Hp) : ax_O :=
  if x1 < 0 then
    ax_rv h
  else
    (ax_gi h x0 2 1).bind fun v1 =>
    if v1 ≤ x1 then
      ax_rv h
    else
      (ax_gr h x0 2 0).bind fun v2 =>
      (ax_st h v2 1 x1 (ax_I x2)).bind fun h3 =>
      ax_rv h3
set_option maxHeartbeats 4000000 in
set_option maxRecDepth 20000 in
theorem Row_set_t {l : Launch} {G : ax_G} {d : Nat} {call : ax_Cf} (hcall : ax_Hc l G d call) (x0 : Option Nat) (x1 : Int32) (x2 : Int32) (h : ax_Hp) {r : ax_Rs} {h' : ax_Hp} (ho : Row_set_b call x0 x1 x2 h = some (r, h')) : ax_C l G (d + 1) y_Row_set (.code y_Row_set prog_5_method_6_code 3 none) [ax_A x0, ax_I x1, ax_I x2] h r h' := by
  refine ax_enter (by decide) (Nat.le_of_ble_eq_true rfl) ho (fun p e s mi args below meth c B E Nm => ?_)
  have B : ax_B G p s mi meth c "SchemaDesk$Row" prog_5_method_6_code 3 none := B
  show ax_W G p l e s mi args below meth c 3 (d + 1) h 0 [(0, ax_A x0), (1, ax_I x1), (2, ax_I x2)] [] h (Row_set_b call x0 x1 x2 h)
  unfold Row_set_b
  refine ax_iload_n B 1 d_Row_set_0 rfl rfl ?_
  refine ax_if_lt B 19 d_Row_set_1 (by decide) ?_ ?_
  · exact ax_vreturn B d_Row_set_19
  · refine ax_iload_n B 1 d_Row_set_4 rfl rfl ?_
    refine ax_aload_n B 0 d_Row_set_5 rfl rfl ?_
    refine ax_getfi B cl_Row (by decide) fk_Row_15 d_Row_set_6 (fun v1 => ?_)
    refine ax_icmp_ge B 19 d_Row_set_9 (by decide) ?_ ?_
    · exact ax_vreturn B d_Row_set_19
    · refine ax_aload_n B 0 d_Row_set_12 rfl rfl ?_
      refine ax_getfr B cl_Row (by decide) fk_Row_9 d_Row_set_13 (fun v2 => ?_)
      refine ax_iload_n B 1 d_Row_set_16 rfl rfl ?_
      refine ax_iload_n B 2 d_Row_set_17 rfl rfl ?_
      refine ax_iast (kd := 1) B (by decide) (by decide) rfl d_Row_set_18 (fun h3 => ?_)
      exact ax_vreturn B d_Row_set_19

theorem d_Row_sameAs_0 : decode prog_5_method_8_code 0 = .ok (.aload_n 0, 1) := by decide +kernel
theorem d_Row_sameAs_1 : decode prog_5_method_8_code 1 = .ok (.getfield 15, 3) := by decide +kernel
theorem d_Row_sameAs_4 : decode prog_5_method_8_code 4 = .ok (.aload_n 1, 1) := by decide +kernel
theorem d_Row_sameAs_5 : decode prog_5_method_8_code 5 = .ok (.getfield 15, 3) := by decide +kernel
theorem d_Row_sameAs_8 : decode prog_5_method_8_code 8 = .ok (.if_icmp .eq 5, 3) := by decide +kernel
theorem d_Row_sameAs_11 : decode prog_5_method_8_code 11 = .ok (.iconst 0, 1) := by decide +kernel
theorem d_Row_sameAs_12 : decode prog_5_method_8_code 12 = .ok (.ireturn, 1) := by decide +kernel
theorem d_Row_sameAs_13 : decode prog_5_method_8_code 13 = .ok (.iconst 0, 1) := by decide +kernel
theorem d_Row_sameAs_14 : decode prog_5_method_8_code 14 = .ok (.istore_n 2, 1) := by decide +kernel
theorem d_Row_sameAs_15 : decode prog_5_method_8_code 15 = .ok (.iload_n 2, 1) := by decide +kernel
theorem d_Row_sameAs_16 : decode prog_5_method_8_code 16 = .ok (.aload_n 0, 1) := by decide +kernel
theorem d_Row_sameAs_17 : decode prog_5_method_8_code 17 = .ok (.getfield 15, 3) := by decide +kernel
theorem d_Row_sameAs_20 : decode prog_5_method_8_code 20 = .ok (.if_icmp .ge 25, 3) := by decide +kernel
theorem d_Row_sameAs_23 : decode prog_5_method_8_code 23 = .ok (.aload_n 0, 1) := by decide +kernel
theorem d_Row_sameAs_24 : decode prog_5_method_8_code 24 = .ok (.getfield 9, 3) := by decide +kernel
theorem d_Row_sameAs_27 : decode prog_5_method_8_code 27 = .ok (.iload_n 2, 1) := by decide +kernel
theorem d_Row_sameAs_28 : decode prog_5_method_8_code 28 = .ok (.iaload, 1) := by decide +kernel
theorem d_Row_sameAs_29 : decode prog_5_method_8_code 29 = .ok (.aload_n 1, 1) := by decide +kernel
theorem d_Row_sameAs_30 : decode prog_5_method_8_code 30 = .ok (.iload_n 2, 1) := by decide +kernel
theorem d_Row_sameAs_31 : decode prog_5_method_8_code 31 = .ok (.invokevirtual 19, 3) := by decide +kernel
theorem d_Row_sameAs_34 : decode prog_5_method_8_code 34 = .ok (.if_icmp .eq 5, 3) := by decide +kernel
theorem d_Row_sameAs_37 : decode prog_5_method_8_code 37 = .ok (.iconst 0, 1) := by decide +kernel
theorem d_Row_sameAs_38 : decode prog_5_method_8_code 38 = .ok (.ireturn, 1) := by decide +kernel
theorem d_Row_sameAs_39 : decode prog_5_method_8_code 39 = .ok (.iinc 2 1, 3) := by decide +kernel
theorem d_Row_sameAs_42 : decode prog_5_method_8_code 42 = .ok (.goto (-27), 3) := by decide +kernel
theorem d_Row_sameAs_45 : decode prog_5_method_8_code 45 = .ok (.iconst 1, 1) := by decide +kernel
theorem d_Row_sameAs_46 : decode prog_5_method_8_code 46 = .ok (.ireturn, 1) := by decide +kernel
def Row_sameAs_bd15 (call : ax_Cf)  (k15 : Option Nat → Option Nat → Int32 → ax_Hp → ax_O) (x0 : Option Nat) (x1 : Option Nat) (x2 : Int32) (h : ax_Hp) : ax_O :=
  (ax_gi h x0 2 1).bind fun v3 =>
  if v3 ≤ x2 then
    ax_rz 1 h
  else
    (ax_gr h x0 2 0).bind fun v4 =>
    (ax_ldi h v4 1 x2).bind fun v5 =>
    ax_on h x1 2 <| ax_ci (call 45 [ax_A x1, ax_I x2] h) fun v7 h6 =>
    if v5 = v7 then
      k15 x0 x1 (x2 + 1) h6
    else
      ax_rz 0 h6
def Row_sameAs_lp15 (call : ax_Cf)  : Nat → Option Nat → Option Nat → Int32 → ax_Hp → ax_O
  | 0 => fun _ _ _ _ => none
  | n + 1 => Row_sameAs_bd15 call  (Row_sameAs_lp15 call  n)
set_option maxHeartbeats 4000000 in
set_option maxRecDepth 20000 in
theorem Row_sameAs_lb15 {l : Launch} {G : ax_G} {d : Nat} {call : ax_Cf} (hcall : ax_Hc l G d call) {p : Program} {e : Env} {s : State} {mi : MethodId} {args : Array Value} {below : List Frame} {meth : Method} {c : Code} {h0 : ax_Hp} (B : ax_B G p s mi meth c "SchemaDesk$Row" prog_5_method_8_code 3 (some (.boolean))) (E : c.exceptionTable.isEmpty = true) (Nm : meth.name = y_Row_sameAs.name)   {k15 : Option Nat → Option Nat → Int32 → ax_Hp → ax_O} (hk15 : ∀ (x0 : Option Nat) (x1 : Option Nat) (x2 : Int32) (h : ax_Hp), ax_W G p l e s mi args below meth c 3 (d + 1) h0 15 [(0, ax_A x0), (1, ax_A x1), (2, ax_I x2)] [] h (k15 x0 x1 x2 h)) (x0 : Option Nat) (x1 : Option Nat) (x2 : Int32) (h : ax_Hp) : ax_W G p l e s mi args below meth c 3 (d + 1) h0 15 [(0, ax_A x0), (1, ax_A x1), (2, ax_I x2)] [] h (Row_sameAs_bd15 call  k15 x0 x1 x2 h) := by
  unfold Row_sameAs_bd15
  refine ax_iload_n B 2 d_Row_sameAs_15 rfl rfl ?_
  refine ax_aload_n B 0 d_Row_sameAs_16 rfl rfl ?_
  refine ax_getfi B cl_Row (by decide) fk_Row_15 d_Row_sameAs_17 (fun v3 => ?_)
  refine ax_icmp_ge B 45 d_Row_sameAs_20 (by decide) ?_ ?_
  · refine ax_iconst (v := 1) B d_Row_sameAs_45 (by decide) ?_
    exact ax_zreturn B d_Row_sameAs_46
  · refine ax_aload_n B 0 d_Row_sameAs_23 rfl rfl ?_
    refine ax_getfr B cl_Row (by decide) fk_Row_9 d_Row_sameAs_24 (fun v4 => ?_)
    refine ax_iload_n B 2 d_Row_sameAs_27 rfl rfl ?_
    refine ax_iald (kd := 1) B (by decide) rfl d_Row_sameAs_28 (fun v5 => ?_)
    refine ax_aload_n B 1 d_Row_sameAs_29 rfl rfl ?_
    refine ax_iload_n B 2 d_Row_sameAs_30 rfl rfl ?_
    refine ax_callVi (av := [ax_I x2]) (rest := [ax_I v5]) B E hm_Row_at cl_Row rfl wd_371 wd_372 lk_Row_19 d_Row_sameAs_31 rfl (Nat.le_of_ble_eq_true rfl) (fun _ _ hh => hcall 45 _ _ _ _ hh) (fun v7 h6 => ?_)
    refine ax_icmp_eq B 39 d_Row_sameAs_34 (by decide) ?_ ?_
    · refine ax_iinc (v := x2 + 1) (tv2 := [(2, ax_I (x2 + 1)), (0, ax_A x0), (1, ax_A x1)]) B 2 d_Row_sameAs_39 rfl (congrArg (_ + ·) (by decide)) (by decide) rfl ?_
      refine ax_goto B 15 d_Row_sameAs_42 (by decide) ?_
      refine ax_sub (tv2 := [(0, ax_A x0), (1, ax_A x1), (2, ax_I (x2 + 1))]) [1, 2, 0] rfl ?_
      exact hk15 x0 x1 (x2 + 1) h6
    · refine ax_iconst (v := 0) B d_Row_sameAs_37 (by decide) ?_
      exact ax_zreturn B d_Row_sameAs_38
theorem Row_sameAs_lq15 {l : Launch} {G : ax_G} {d : Nat} {call : ax_Cf} (hcall : ax_Hc l G d call) {p : Program} {e : Env} {s : State} {mi : MethodId} {args : Array Value} {below : List Frame} {meth : Method} {c : Code} {h0 : ax_Hp} (B : ax_B G p s mi meth c "SchemaDesk$Row" prog_5_method_8_code 3 (some (.boolean))) (E : c.exceptionTable.isEmpty = true) (Nm : meth.name = y_Row_sameAs.name)   : ∀ (n : Nat) (x0 : Option Nat) (x1 : Option Nat) (x2 : Int32) (h : ax_Hp), ax_W G p l e s mi args below meth c 3 (d + 1) h0 15 [(0, ax_A x0), (1, ax_A x1), (2, ax_I x2)] [] h (Row_sameAs_lp15 call  n x0 x1 x2 h)
  | 0, _, _, _, _ => ax_none
  | n + 1, x0, x1, x2, h => Row_sameAs_lb15 hcall B E Nm   (Row_sameAs_lq15 hcall B E Nm   n) x0 x1 x2 h
def Row_sameAs_b (call : ax_Cf) (x0 : Option Nat) (x1 : Option Nat) (h : ax_Hp) : ax_O :=
  (ax_gi h x0 2 1).bind fun v1 =>
  (ax_gi h x1 2 1).bind fun v2 =>
  if v1 = v2 then
    Row_sameAs_lp15 call ax_fuel x0 x1 0 h
  else
    ax_rz 0 h
set_option maxHeartbeats 4000000 in
set_option maxRecDepth 20000 in
theorem Row_sameAs_t {l : Launch} {G : ax_G} {d : Nat} {call : ax_Cf} (hcall : ax_Hc l G d call) (x0 : Option Nat) (x1 : Option Nat) (h : ax_Hp) {r : ax_Rs} {h' : ax_Hp} (ho : Row_sameAs_b call x0 x1 h = some (r, h')) : ax_C l G (d + 1) y_Row_sameAs (.code y_Row_sameAs prog_5_method_8_code 3 (some (.boolean))) [ax_A x0, ax_A x1] h r h' := by
  refine ax_enter (by decide) (Nat.le_of_ble_eq_true rfl) ho (fun p e s mi args below meth c B E Nm => ?_)
  have B : ax_B G p s mi meth c "SchemaDesk$Row" prog_5_method_8_code 3 (some (.boolean)) := B
  show ax_W G p l e s mi args below meth c 3 (d + 1) h 0 [(0, ax_A x0), (1, ax_A x1)] [] h (Row_sameAs_b call x0 x1 h)
  unfold Row_sameAs_b
  refine ax_aload_n B 0 d_Row_sameAs_0 rfl rfl ?_
  refine ax_getfi B cl_Row (by decide) fk_Row_15 d_Row_sameAs_1 (fun v1 => ?_)
  refine ax_aload_n B 1 d_Row_sameAs_4 rfl rfl ?_
  refine ax_getfi B cl_Row (by decide) fk_Row_15 d_Row_sameAs_5 (fun v2 => ?_)
  refine ax_icmp_eq B 13 d_Row_sameAs_8 (by decide) ?_ ?_
  · refine ax_iconst (v := 0) B d_Row_sameAs_13 (by decide) ?_
    refine ax_istore_n (tv2 := [(2, ax_I 0), (0, ax_A x0), (1, ax_A x1)]) B d_Row_sameAs_14 rfl (by decide) rfl ?_
    refine ax_sub (tv2 := [(0, ax_A x0), (1, ax_A x1), (2, ax_I 0)]) [1, 2, 0] rfl ?_
    exact Row_sameAs_lq15 hcall B E Nm ax_fuel x0 x1 0 h
  · refine ax_iconst (v := 0) B d_Row_sameAs_11 (by decide) ?_
    exact ax_zreturn B d_Row_sameAs_12

theorem d_Row_copy_0 : decode prog_5_method_9_code 0 = .ok (.new 10, 3) := by decide +kernel
theorem d_Row_copy_3 : decode prog_5_method_9_code 3 = .ok (.dup, 1) := by decide +kernel
theorem d_Row_copy_4 : decode prog_5_method_9_code 4 = .ok (.aload_n 0, 1) := by decide +kernel
theorem d_Row_copy_5 : decode prog_5_method_9_code 5 = .ok (.getfield 9, 3) := by decide +kernel
theorem d_Row_copy_8 : decode prog_5_method_9_code 8 = .ok (.aload_n 0, 1) := by decide +kernel
theorem d_Row_copy_9 : decode prog_5_method_9_code 9 = .ok (.getfield 15, 3) := by decide +kernel
theorem d_Row_copy_12 : decode prog_5_method_9_code 12 = .ok (.invokestatic 23, 3) := by decide +kernel
theorem d_Row_copy_15 : decode prog_5_method_9_code 15 = .ok (.aload_n 0, 1) := by decide +kernel
theorem d_Row_copy_16 : decode prog_5_method_9_code 16 = .ok (.getfield 15, 3) := by decide +kernel
theorem d_Row_copy_19 : decode prog_5_method_9_code 19 = .ok (.invokespecial 29, 3) := by decide +kernel
theorem d_Row_copy_22 : decode prog_5_method_9_code 22 = .ok (.areturn, 1) := by decide +kernel
def Row_copy_b (call : ax_Cf) (x0 : Option Nat) (h : ax_Hp) : ax_O :=
  ax_nw (ax_new h 2 [ax_A none, ax_I 0]) fun a1 h2 =>
  (ax_gr h2 x0 2 0).bind fun v3 =>
  (ax_gi h2 x0 2 1).bind fun v4 =>
  ax_cr (call 86 [ax_A v3, ax_I v4] h2) fun v6 h5 =>
  (ax_gi h5 x0 2 1).bind fun v7 =>
  ax_cv (call 1 [ax_A (some a1), ax_A v6, ax_I v7] h5) fun h8 =>
  ax_rr (some a1) h8
set_option maxHeartbeats 4000000 in
set_option maxRecDepth 20000 in
theorem Row_copy_t {l : Launch} {G : ax_G} {d : Nat} {call : ax_Cf} (hcall : ax_Hc l G d call) (x0 : Option Nat) (h : ax_Hp) {r : ax_Rs} {h' : ax_Hp} (ho : Row_copy_b call x0 h = some (r, h')) : ax_C l G (d + 1) y_Row_copy (.code y_Row_copy prog_5_method_9_code 1 (some (.object "SchemaDesk$Row"))) [ax_A x0] h r h' := by
  refine ax_enter (by decide) (Nat.le_of_ble_eq_true rfl) ho (fun p e s mi args below meth c B E Nm => ?_)
  have B : ax_B G p s mi meth c "SchemaDesk$Row" prog_5_method_9_code 1 (some (.object "SchemaDesk$Row")) := B
  show ax_W G p l e s mi args below meth c 1 (d + 1) h 0 [(0, ax_A x0)] [] h (Row_copy_b call x0 h)
  unfold Row_copy_b
  refine ax_newo B cl_Row wd_565 wd_30 wd_2 rfl df_Row d_Row_copy_0 (fun a1 h2 => ?_)
  refine ax_dup B d_Row_copy_3 rfl ?_
  refine ax_aload_n B 0 d_Row_copy_4 rfl rfl ?_
  refine ax_getfr B cl_Row (by decide) fk_Row_9 d_Row_copy_5 (fun v3 => ?_)
  refine ax_aload_n B 0 d_Row_copy_8 rfl rfl ?_
  refine ax_getfi B cl_Row (by decide) fk_Row_15 d_Row_copy_9 (fun v4 => ?_)
  refine ax_callSr (av := [ax_A v3, ax_I v4]) (rest := [ax_A (some a1), ax_A (some a1)]) B E hm_Arrays_copyOf wd_567 lk_Row_23 d_Row_copy_12 rfl (Nat.le_of_ble_eq_true rfl) (fun _ _ hh => hcall 86 _ _ _ _ hh) (fun v6 h5 => ?_)
  refine ax_aload_n B 0 d_Row_copy_15 rfl rfl ?_
  refine ax_getfi B cl_Row (by decide) fk_Row_15 d_Row_copy_16 (fun v7 => ?_)
  refine ax_callIv (av := [ax_A v6, ax_I v7]) (rest := [ax_A (some a1)]) B E hm_Row_init rfl wd_32 lk_Row_29 d_Row_copy_19 rfl (Nat.le_of_ble_eq_true rfl) (fun _ _ hh => hcall 1 _ _ _ _ hh) (fun h8 => ?_)
  exact ax_areturn B rfl (Or.inl ⟨_, rfl⟩) d_Row_copy_22
