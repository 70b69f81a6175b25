theorem d_Cursor_init_0 : decode prog_3_method_1_code 0 = .ok (.aload_n 0, 1) := by decide +kernel
theorem d_Cursor_init_1 : decode prog_3_method_1_code 1 = .ok (.invokespecial 3, 3) := by decide +kernel
theorem d_Cursor_init_4 : decode prog_3_method_1_code 4 = .ok (.aload_n 0, 1) := by decide +kernel
theorem d_Cursor_init_5 : decode prog_3_method_1_code 5 = .ok (.aload_n 1, 1) := by decide +kernel
theorem d_Cursor_init_6 : decode prog_3_method_1_code 6 = .ok (.getfield 9, 3) := by decide +kernel
theorem d_Cursor_init_9 : decode prog_3_method_1_code 9 = .ok (.putfield 15, 3) := by decide +kernel
theorem d_Cursor_init_12 : decode prog_3_method_1_code 12 = .ok (.aload_n 0, 1) := by decide +kernel
theorem d_Cursor_init_13 : decode prog_3_method_1_code 13 = .ok (.aload_n 1, 1) := by decide +kernel
theorem d_Cursor_init_14 : decode prog_3_method_1_code 14 = .ok (.getfield 18, 3) := by decide +kernel
theorem d_Cursor_init_17 : decode prog_3_method_1_code 17 = .ok (.putfield 22, 3) := by decide +kernel
theorem d_Cursor_init_20 : decode prog_3_method_1_code 20 = .ok (.return_, 1) := by decide +kernel
def Cursor_init_b (call : ax_Cf) (x0 : Nat) (x1 : Option Nat) (h : ax_Hp) : ax_O :=
  (ax_gr h x1 2 0).bind fun v1 =>
  (ax_pf h (some x0) 0 0 (ax_A v1)).bind fun h2 =>
  (ax_gi h2 x1 2 1).bind fun v3 =>
  (ax_pf h2 (some x0) 0 1 (ax_I v3)).bind fun h4 =>
  ax_rv h4
set_option maxHeartbeats 4000000 in
set_option maxRecDepth 20000 in
theorem Cursor_init_t {l : Launch} {G : ax_G} {d : Nat} {call : ax_Cf} (hcall : ax_Hc l G d call) (x0 : Nat) (x1 : Option Nat) (h : ax_Hp) {r : ax_Rs} {h' : ax_Hp} (ho : Cursor_init_b call x0 x1 h = some (r, h')) : ax_C l G (d + 1) y_Cursor_init (.code y_Cursor_init prog_3_method_1_code 2 none) [ax_A (some x0), ax_A x1] h r h' := by
  refine ax_enter (by decide) (Nat.le_of_ble_eq_true rfl) ho (fun p e s mi args below meth c B E Nm => ?_)
  have B : ax_B G p s mi meth c "SchemaDesk$Cursor" prog_3_method_1_code 2 none := B
  show ax_W G p l e s mi args below meth c 2 (d + 1) h 0 [(0, ax_A (some x0)), (1, ax_A x1)] [] h (Cursor_init_b call x0 x1 h)
  unfold Cursor_init_b
  refine ax_aload_n B 0 d_Cursor_init_0 rfl rfl ?_
  refine ax_objinit B wd_238 wd_27 wd_objcode (Nat.le_of_ble_eq_true rfl) d_Cursor_init_1 ?_
  refine ax_aload_n B 0 d_Cursor_init_4 rfl rfl ?_
  refine ax_aload_n B 1 d_Cursor_init_5 rfl rfl ?_
  refine ax_getfr B cl_Row (by decide) fk_Cursor_9 d_Cursor_init_6 (fun v1 => ?_)
  refine ax_putf (v := ax_A v1) B cl_Cursor (by decide) fk_Cursor_15 (Or.inr ⟨wd_239, rfl, Nm, rfl⟩) (fun _ => ax_narR) (fun _ => ax_fitR) d_Cursor_init_9 (fun h2 => ?_)
  refine ax_aload_n B 0 d_Cursor_init_12 rfl rfl ?_
  refine ax_aload_n B 1 d_Cursor_init_13 rfl rfl ?_
  refine ax_getfi B cl_Row (by decide) fk_Cursor_18 d_Cursor_init_14 (fun v3 => ?_)
  refine ax_putf (v := ax_I v3) B cl_Cursor (by decide) fk_Cursor_22 (Or.inr ⟨wd_240, rfl, Nm, rfl⟩) (fun _ => rfl) (fun _ => rfl) d_Cursor_init_17 (fun h4 => ?_)
  exact ax_vreturn B d_Cursor_init_20

theorem d_Cursor_at_0 : decode prog_3_method_2_code 0 = .ok (.aload_n 0, 1) := by decide +kernel
theorem d_Cursor_at_1 : decode prog_3_method_2_code 1 = .ok (.getfield 23, 3) := by decide +kernel
theorem d_Cursor_at_4 : decode prog_3_method_2_code 4 = .ok (.ireturn, 1) := by decide +kernel
def Cursor_at_b (call : ax_Cf) (x0 : Option Nat) (h : ax_Hp) : ax_O :=
  (ax_gi h x0 0 2).bind fun v1 =>
  ax_ri v1 h
set_option maxHeartbeats 4000000 in
set_option maxRecDepth 20000 in
theorem Cursor_at_t {l : Launch} {G : ax_G} {d : Nat} {call : ax_Cf} (hcall : ax_Hc l G d call) (x0 : Option Nat) (h : ax_Hp) {r : ax_Rs} {h' : ax_Hp} (ho : Cursor_at_b call x0 h = some (r, h')) : ax_C l G (d + 1) y_Cursor_at (.code y_Cursor_at prog_3_method_2_code 1 (some (.int))) [ax_A x0] h r h' := by
  refine ax_enter (by decide) (Nat.le_of_ble_eq_true rfl) ho (fun p e s mi args below meth c B E Nm => ?_)
  have B : ax_B G p s mi meth c "SchemaDesk$Cursor" prog_3_method_2_code 1 (some (.int)) := B
  show ax_W G p l e s mi args below meth c 1 (d + 1) h 0 [(0, ax_A x0)] [] h (Cursor_at_b call x0 h)
  unfold Cursor_at_b
  refine ax_aload_n B 0 d_Cursor_at_0 rfl rfl ?_
  refine ax_getfi B cl_Cursor (by decide) fk_Cursor_23 d_Cursor_at_1 (fun v1 => ?_)
  exact ax_ireturn B d_Cursor_at_4

theorem d_Cursor_peek_0 : decode prog_3_method_5_code 0 = .ok (.aload_n 0, 1) := by decide +kernel
theorem d_Cursor_peek_1 : decode prog_3_method_5_code 1 = .ok (.getfield 23, 3) := by decide +kernel
theorem d_Cursor_peek_4 : decode prog_3_method_5_code 4 = .ok (.ifCond .lt 26, 3) := by decide +kernel
theorem d_Cursor_peek_7 : decode prog_3_method_5_code 7 = .ok (.aload_n 0, 1) := by decide +kernel
theorem d_Cursor_peek_8 : decode prog_3_method_5_code 8 = .ok (.getfield 23, 3) := by decide +kernel
theorem d_Cursor_peek_11 : decode prog_3_method_5_code 11 = .ok (.aload_n 0, 1) := by decide +kernel
theorem d_Cursor_peek_12 : decode prog_3_method_5_code 12 = .ok (.getfield 22, 3) := by decide +kernel
theorem d_Cursor_peek_15 : decode prog_3_method_5_code 15 = .ok (.if_icmp .ge 15, 3) := by decide +kernel
theorem d_Cursor_peek_18 : decode prog_3_method_5_code 18 = .ok (.aload_n 0, 1) := by decide +kernel
theorem d_Cursor_peek_19 : decode prog_3_method_5_code 19 = .ok (.getfield 15, 3) := by decide +kernel
theorem d_Cursor_peek_22 : decode prog_3_method_5_code 22 = .ok (.aload_n 0, 1) := by decide +kernel
theorem d_Cursor_peek_23 : decode prog_3_method_5_code 23 = .ok (.getfield 23, 3) := by decide +kernel
theorem d_Cursor_peek_26 : decode prog_3_method_5_code 26 = .ok (.iaload, 1) := by decide +kernel
theorem d_Cursor_peek_27 : decode prog_3_method_5_code 27 = .ok (.goto 4, 3) := by decide +kernel
theorem d_Cursor_peek_30 : decode prog_3_method_5_code 30 = .ok (.iconst (-1), 1) := by decide +kernel
theorem d_Cursor_peek_31 : decode prog_3_method_5_code 31 = .ok (.ireturn, 1) := by decide +kernel
def Cursor_peek_b (call : ax_Cf) (x0 : Option Nat) (h : ax_Hp) : ax_O :=
  (ax_gi h x0 0 2).bind fun v1 =>
  if v1 < 0 then
    ax_ri (-1) h
  else
    (ax_gi h x0 0 2).bind fun v2 =>
    (ax_gi h x0 0 1).bind fun v3 =>
    if v3 ≤ v2 then
      ax_ri (-1) h
    else
      (ax_gr h x0 0 0).bind fun v4 =>
      (ax_gi h x0 0 2).bind fun v5 =>
      (ax_ldi h v4 1 v5).bind fun v6 =>
      ax_ri v6 h
set_option maxHeartbeats 4000000 in
set_option maxRecDepth 20000 in
theorem Cursor_peek_t {l : Launch} {G : ax_G} {d : Nat} {call : ax_Cf} (hcall : ax_Hc l G d call) (x0 : Option Nat) (h : ax_Hp) {r : ax_Rs} {h' : ax_Hp} (ho : Cursor_peek_b call x0 h = some (r, h')) : ax_C l G (d + 1) y_Cursor_peek (.code y_Cursor_peek prog_3_method_5_code 1 (some (.int))) [ax_A x0] h r h' := by
  refine ax_enter (by decide) (Nat.le_of_ble_eq_true rfl) ho (fun p e s mi args below meth c B E Nm => ?_)
  have B : ax_B G p s mi meth c "SchemaDesk$Cursor" prog_3_method_5_code 1 (some (.int)) := B
  show ax_W G p l e s mi args below meth c 1 (d + 1) h 0 [(0, ax_A x0)] [] h (Cursor_peek_b call x0 h)
  unfold Cursor_peek_b
  refine ax_aload_n B 0 d_Cursor_peek_0 rfl rfl ?_
  refine ax_getfi B cl_Cursor (by decide) fk_Cursor_23 d_Cursor_peek_1 (fun v1 => ?_)
  refine ax_if_lt B 30 d_Cursor_peek_4 (by decide) ?_ ?_
  · refine ax_iconst (v := (-1)) B d_Cursor_peek_30 (by decide) ?_
    exact ax_ireturn B d_Cursor_peek_31
  · refine ax_aload_n B 0 d_Cursor_peek_7 rfl rfl ?_
    refine ax_getfi B cl_Cursor (by decide) fk_Cursor_23 d_Cursor_peek_8 (fun v2 => ?_)
    refine ax_aload_n B 0 d_Cursor_peek_11 rfl rfl ?_
    refine ax_getfi B cl_Cursor (by decide) fk_Cursor_22 d_Cursor_peek_12 (fun v3 => ?_)
    refine ax_icmp_ge B 30 d_Cursor_peek_15 (by decide) ?_ ?_
    · refine ax_iconst (v := (-1)) B d_Cursor_peek_30 (by decide) ?_
      exact ax_ireturn B d_Cursor_peek_31
    · refine ax_aload_n B 0 d_Cursor_peek_18 rfl rfl ?_
      refine ax_getfr B cl_Cursor (by decide) fk_Cursor_15 d_Cursor_peek_19 (fun v4 => ?_)
      refine ax_aload_n B 0 d_Cursor_peek_22 rfl rfl ?_
      refine ax_getfi B cl_Cursor (by decide) fk_Cursor_23 d_Cursor_peek_23 (fun v5 => ?_)
      refine ax_iald (kd := 1) B (by decide) rfl d_Cursor_peek_26 (fun v6 => ?_)
      refine ax_goto B 31 d_Cursor_peek_27 (by decide) ?_
      exact ax_ireturn B d_Cursor_peek_31

theorem d_Cursor_take_0 : decode prog_3_method_7_code 0 = .ok (.aload_n 0, 1) := by decide +kernel
theorem d_Cursor_take_1 : decode prog_3_method_7_code 1 = .ok (.getfield 23, 3) := by decide +kernel
theorem d_Cursor_take_4 : decode prog_3_method_7_code 4 = .ok (.ifCond .lt 27, 3) := by decide +kernel
theorem d_Cursor_take_7 : decode prog_3_method_7_code 7 = .ok (.aload_n 0, 1) := by decide +kernel
theorem d_Cursor_take_8 : decode prog_3_method_7_code 8 = .ok (.getfield 23, 3) := by decide +kernel
theorem d_Cursor_take_11 : decode prog_3_method_7_code 11 = .ok (.aload_n 0, 1) := by decide +kernel
theorem d_Cursor_take_12 : decode prog_3_method_7_code 12 = .ok (.getfield 22, 3) := by decide +kernel
theorem d_Cursor_take_15 : decode prog_3_method_7_code 15 = .ok (.if_icmp .ge 16, 3) := by decide +kernel
theorem d_Cursor_take_18 : decode prog_3_method_7_code 18 = .ok (.aload_n 0, 1) := by decide +kernel
theorem d_Cursor_take_19 : decode prog_3_method_7_code 19 = .ok (.getfield 15, 3) := by decide +kernel
theorem d_Cursor_take_22 : decode prog_3_method_7_code 22 = .ok (.aload_n 0, 1) := by decide +kernel
theorem d_Cursor_take_23 : decode prog_3_method_7_code 23 = .ok (.getfield 23, 3) := by decide +kernel
theorem d_Cursor_take_26 : decode prog_3_method_7_code 26 = .ok (.iaload, 1) := by decide +kernel
theorem d_Cursor_take_27 : decode prog_3_method_7_code 27 = .ok (.iload_n 1, 1) := by decide +kernel
theorem d_Cursor_take_28 : decode prog_3_method_7_code 28 = .ok (.if_icmp .eq 5, 3) := by decide +kernel
theorem d_Cursor_take_31 : decode prog_3_method_7_code 31 = .ok (.iconst 0, 1) := by decide +kernel
theorem d_Cursor_take_32 : decode prog_3_method_7_code 32 = .ok (.ireturn, 1) := by decide +kernel
theorem d_Cursor_take_33 : decode prog_3_method_7_code 33 = .ok (.aload_n 0, 1) := by decide +kernel
theorem d_Cursor_take_34 : decode prog_3_method_7_code 34 = .ok (.dup, 1) := by decide +kernel
theorem d_Cursor_take_35 : decode prog_3_method_7_code 35 = .ok (.getfield 23, 3) := by decide +kernel
theorem d_Cursor_take_38 : decode prog_3_method_7_code 38 = .ok (.iconst 1, 1) := by decide +kernel
theorem d_Cursor_take_39 : decode prog_3_method_7_code 39 = .ok (.iadd, 1) := by decide +kernel
theorem d_Cursor_take_40 : decode prog_3_method_7_code 40 = .ok (.putfield 23, 3) := by decide +kernel
theorem d_Cursor_take_43 : decode prog_3_method_7_code 43 = .ok (.iconst 1, 1) := by decide +kernel
theorem d_Cursor_take_44 : decode prog_3_method_7_code 44 = .ok (.ireturn, 1) := by decide +kernel
def Cursor_take_b (call : ax_Cf) (x0 : Option Nat) (x1 : Int32) (h : ax_Hp) : ax_O :=
  (ax_gi h x0 0 2).bind fun v1 =>
  if v1 < 0 then
    ax_rz 0 h
  else
    (ax_gi h x0 0 2).bind fun v2 =>
    (ax_gi h x0 0 1).bind fun v3 =>
    if v3 ≤ v2 then
      ax_rz 0 h
    else
      (ax_gr h x0 0 0).bind fun v4 =>
      (ax_gi h x0 0 2).bind fun v5 =>
      (ax_ldi h v4 1 v5).bind fun v6 =>
      if v6 = x1 then
        (ax_gi h x0 0 2).bind fun v7 =>
        (ax_pf h x0 0 2 (ax_I (v7 + 1))).bind fun h8 =>
        ax_rz 1 h8
      else
        ax_rz 0 h
set_option maxHeartbeats 4000000 in
set_option maxRecDepth 20000 in
theorem Cursor_take_t {l : Launch} {G : ax_G} {d : Nat} {call : ax_Cf} (hcall : ax_Hc l G d call) (x0 : Option Nat) (x1 : Int32) (h : ax_Hp) {r : ax_Rs} {h' : ax_Hp} (ho : Cursor_take_b call x0 x1 h = some (r, h')) : ax_C l G (d + 1) y_Cursor_take (.code y_Cursor_take prog_3_method_7_code 2 (some (.boolean))) [ax_A x0, ax_I x1] h r h' := by
  refine ax_enter (by decide) (Nat.le_of_ble_eq_true rfl) ho (fun p e s mi args below meth c B E Nm => ?_)
  have B : ax_B G p s mi meth c "SchemaDesk$Cursor" prog_3_method_7_code 2 (some (.boolean)) := B
  show ax_W G p l e s mi args below meth c 2 (d + 1) h 0 [(0, ax_A x0), (1, ax_I x1)] [] h (Cursor_take_b call x0 x1 h)
  unfold Cursor_take_b
  refine ax_aload_n B 0 d_Cursor_take_0 rfl rfl ?_
  refine ax_getfi B cl_Cursor (by decide) fk_Cursor_23 d_Cursor_take_1 (fun v1 => ?_)
  refine ax_if_lt B 31 d_Cursor_take_4 (by decide) ?_ ?_
  · refine ax_iconst (v := 0) B d_Cursor_take_31 (by decide) ?_
    exact ax_zreturn B d_Cursor_take_32
  · refine ax_aload_n B 0 d_Cursor_take_7 rfl rfl ?_
    refine ax_getfi B cl_Cursor (by decide) fk_Cursor_23 d_Cursor_take_8 (fun v2 => ?_)
    refine ax_aload_n B 0 d_Cursor_take_11 rfl rfl ?_
    refine ax_getfi B cl_Cursor (by decide) fk_Cursor_22 d_Cursor_take_12 (fun v3 => ?_)
    refine ax_icmp_ge B 31 d_Cursor_take_15 (by decide) ?_ ?_
    · refine ax_iconst (v := 0) B d_Cursor_take_31 (by decide) ?_
      exact ax_zreturn B d_Cursor_take_32
    · refine ax_aload_n B 0 d_Cursor_take_18 rfl rfl ?_
      refine ax_getfr B cl_Cursor (by decide) fk_Cursor_15 d_Cursor_take_19 (fun v4 => ?_)
      refine ax_aload_n B 0 d_Cursor_take_22 rfl rfl ?_
      refine ax_getfi B cl_Cursor (by decide) fk_Cursor_23 d_Cursor_take_23 (fun v5 => ?_)
      refine ax_iald (kd := 1) B (by decide) rfl d_Cursor_take_26 (fun v6 => ?_)
      refine ax_iload_n B 1 d_Cursor_take_27 rfl rfl ?_
      refine ax_icmp_eq B 33 d_Cursor_take_28 (by decide) ?_ ?_
      · refine ax_aload_n B 0 d_Cursor_take_33 rfl rfl ?_
        refine ax_dup B d_Cursor_take_34 rfl ?_
        refine ax_getfi B cl_Cursor (by decide) fk_Cursor_23 d_Cursor_take_35 (fun v7 => ?_)
        refine ax_iconst (v := 1) B d_Cursor_take_38 (by decide) ?_
        refine ax_iadd B d_Cursor_take_39 ?_
        refine ax_putf (v := ax_I (v7 + 1)) B cl_Cursor (by decide) fk_Cursor_23 (Or.inl rfl) (fun _ => rfl) (fun _ => rfl) d_Cursor_take_40 (fun h8 => ?_)
        refine ax_iconst (v := 1) B d_Cursor_take_43 (by decide) ?_
        exact ax_zreturn B d_Cursor_take_44
      · refine ax_iconst (v := 0) B d_Cursor_take_31 (by decide) ?_
        exact ax_zreturn B d_Cursor_take_32

theorem d_Cursor_step_0 : decode prog_3_method_6_code 0 = .ok (.aload_n 0, 1) := by decide +kernel
theorem d_Cursor_step_1 : decode prog_3_method_6_code 1 = .ok (.getfield 23, 3) := by decide +kernel
theorem d_Cursor_step_4 : decode prog_3_method_6_code 4 = .ok (.aload_n 0, 1) := by decide +kernel
theorem d_Cursor_step_5 : decode prog_3_method_6_code 5 = .ok (.getfield 22, 3) := by decide +kernel
theorem d_Cursor_step_8 : decode prog_3_method_6_code 8 = .ok (.if_icmp .ge 13, 3) := by decide +kernel
theorem d_Cursor_step_11 : decode prog_3_method_6_code 11 = .ok (.aload_n 0, 1) := by decide +kernel
theorem d_Cursor_step_12 : decode prog_3_method_6_code 12 = .ok (.dup, 1) := by decide +kernel
theorem d_Cursor_step_13 : decode prog_3_method_6_code 13 = .ok (.getfield 23, 3) := by decide +kernel
theorem d_Cursor_step_16 : decode prog_3_method_6_code 16 = .ok (.iconst 1, 1) := by decide +kernel
theorem d_Cursor_step_17 : decode prog_3_method_6_code 17 = .ok (.iadd, 1) := by decide +kernel
theorem d_Cursor_step_18 : decode prog_3_method_6_code 18 = .ok (.putfield 23, 3) := by decide +kernel
theorem d_Cursor_step_21 : decode prog_3_method_6_code 21 = .ok (.return_, 1) := by decide +kernel
def Cursor_step_b (call : ax_Cf) (x0 : Option Nat) (h : ax_Hp) : ax_O :=
  (ax_gi h x0 0 2).bind fun v1 =>
  (ax_gi h x0 0 1).bind fun v2 =>
  if v2 ≤ v1 then
    ax_rv h
  else
    (ax_gi h x0 0 2).bind fun v3 =>
    (ax_pf h x0 0 2 (ax_I (v3 + 1))).bind fun h4 =>
    ax_rv h4
set_option maxHeartbeats 4000000 in
set_option maxRecDepth 20000 in
theorem Cursor_step_t {l : Launch} {G : ax_G} {d : Nat} {call : ax_Cf} (hcall : ax_Hc l G d call) (x0 : Option Nat) (h : ax_Hp) {r : ax_Rs} {h' : ax_Hp} (ho : Cursor_step_b call x0 h = some (r, h')) : ax_C l G (d + 1) y_Cursor_step (.code y_Cursor_step prog_3_method_6_code 1 none) [ax_A x0] h r h' := by
  refine ax_enter (by decide) (Nat.le_of_ble_eq_true rfl) ho (fun p e s mi args below meth c B E Nm => ?_)
  have B : ax_B G p s mi meth c "SchemaDesk$Cursor" prog_3_method_6_code 1 none := B
  show ax_W G p l e s mi args below meth c 1 (d + 1) h 0 [(0, ax_A x0)] [] h (Cursor_step_b call x0 h)
  unfold Cursor_step_b
  refine ax_aload_n B 0 d_Cursor_step_0 rfl rfl ?_
  refine ax_getfi B cl_Cursor (by decide) fk_Cursor_23 d_Cursor_step_1 (fun v1 => ?_)
  refine ax_aload_n B 0 d_Cursor_step_4 rfl rfl ?_
  refine ax_getfi B cl_Cursor (by decide) fk_Cursor_22 d_Cursor_step_5 (fun v2 => ?_)
  refine ax_icmp_ge B 21 d_Cursor_step_8 (by decide) ?_ ?_
  · exact ax_vreturn B d_Cursor_step_21
  · refine ax_aload_n B 0 d_Cursor_step_11 rfl rfl ?_
    refine ax_dup B d_Cursor_step_12 rfl ?_
    refine ax_getfi B cl_Cursor (by decide) fk_Cursor_23 d_Cursor_step_13 (fun v3 => ?_)
    refine ax_iconst (v := 1) B d_Cursor_step_16 (by decide) ?_
    refine ax_iadd B d_Cursor_step_17 ?_
    refine ax_putf (v := ax_I (v3 + 1)) B cl_Cursor (by decide) fk_Cursor_23 (Or.inl rfl) (fun _ => rfl) (fun _ => rfl) d_Cursor_step_18 (fun h4 => ?_)
    exact ax_vreturn B d_Cursor_step_21

theorem d_Cursor_isAtEnd_0 : decode prog_3_method_4_code 0 = .ok (.aload_n 0, 1) := by decide +kernel
theorem d_Cursor_isAtEnd_1 : decode prog_3_method_4_code 1 = .ok (.getfield 23, 3) := by decide +kernel
theorem d_Cursor_isAtEnd_4 : decode prog_3_method_4_code 4 = .ok (.aload_n 0, 1) := by decide +kernel
theorem d_Cursor_isAtEnd_5 : decode prog_3_method_4_code 5 = .ok (.getfield 22, 3) := by decide +kernel
theorem d_Cursor_isAtEnd_8 : decode prog_3_method_4_code 8 = .ok (.if_icmp .lt 7, 3) := by decide +kernel
theorem d_Cursor_isAtEnd_11 : decode prog_3_method_4_code 11 = .ok (.iconst 1, 1) := by decide +kernel
theorem d_Cursor_isAtEnd_12 : decode prog_3_method_4_code 12 = .ok (.goto 4, 3) := by decide +kernel
theorem d_Cursor_isAtEnd_15 : decode prog_3_method_4_code 15 = .ok (.iconst 0, 1) := by decide +kernel
theorem d_Cursor_isAtEnd_16 : decode prog_3_method_4_code 16 = .ok (.ireturn, 1) := by decide +kernel
def Cursor_isAtEnd_b (call : ax_Cf) (x0 : Option Nat) (h : ax_Hp) : ax_O :=
  (ax_gi h x0 0 2).bind fun v1 =>
  (ax_gi h x0 0 1).bind fun v2 =>
  if v1 < v2 then
    ax_rz 0 h
  else
    ax_rz 1 h
set_option maxHeartbeats 4000000 in
set_option maxRecDepth 20000 in
theorem Cursor_isAtEnd_t {l : Launch} {G : ax_G} {d : Nat} {call : ax_Cf} (hcall : ax_Hc l G d call) (x0 : Option Nat) (h : ax_Hp) {r : ax_Rs} {h' : ax_Hp} (ho : Cursor_isAtEnd_b call x0 h = some (r, h')) : ax_C l G (d + 1) y_Cursor_isAtEnd (.code y_Cursor_isAtEnd prog_3_method_4_code 1 (some (.boolean))) [ax_A x0] h r h' := by
  refine ax_enter (by decide) (Nat.le_of_ble_eq_true rfl) ho (fun p e s mi args below meth c B E Nm => ?_)
  have B : ax_B G p s mi meth c "SchemaDesk$Cursor" prog_3_method_4_code 1 (some (.boolean)) := B
  show ax_W G p l e s mi args below meth c 1 (d + 1) h 0 [(0, ax_A x0)] [] h (Cursor_isAtEnd_b call x0 h)
  unfold Cursor_isAtEnd_b
  refine ax_aload_n B 0 d_Cursor_isAtEnd_0 rfl rfl ?_
  refine ax_getfi B cl_Cursor (by decide) fk_Cursor_23 d_Cursor_isAtEnd_1 (fun v1 => ?_)
  refine ax_aload_n B 0 d_Cursor_isAtEnd_4 rfl rfl ?_
  refine ax_getfi B cl_Cursor (by decide) fk_Cursor_22 d_Cursor_isAtEnd_5 (fun v2 => ?_)
  refine ax_icmp_lt B 15 d_Cursor_isAtEnd_8 (by decide) ?_ ?_
  · refine ax_iconst (v := 0) B d_Cursor_isAtEnd_15 (by decide) ?_
    exact ax_zreturn B d_Cursor_isAtEnd_16
  · refine ax_iconst (v := 1) B d_Cursor_isAtEnd_11 (by decide) ?_
    refine ax_goto B 16 d_Cursor_isAtEnd_12 (by decide) ?_
    exact ax_zreturn B d_Cursor_isAtEnd_16

theorem d_Cursor_moveTo_0 : decode prog_3_method_3_code 0 = .ok (.aload_n 0, 1) := by decide +kernel
theorem d_Cursor_moveTo_1 : decode prog_3_method_3_code 1 = .ok (.iload_n 1, 1) := by decide +kernel
theorem d_Cursor_moveTo_2 : decode prog_3_method_3_code 2 = .ok (.putfield 23, 3) := by decide +kernel
theorem d_Cursor_moveTo_5 : decode prog_3_method_3_code 5 = .ok (.return_, 1) := by decide +kernel
def Cursor_moveTo_b (call : ax_Cf) (x0 : Option Nat) (x1 : Int32) (h : ax_Hp) : ax_O :=
  (ax_pf h x0 0 2 (ax_I x1)).bind fun h1 =>
  ax_rv h1
set_option maxHeartbeats 4000000 in
set_option maxRecDepth 20000 in
theorem Cursor_moveTo_t {l : Launch} {G : ax_G} {d : Nat} {call : ax_Cf} (hcall : ax_Hc l G d call) (x0 : Option Nat) (x1 : Int32) (h : ax_Hp) {r : ax_Rs} {h' : ax_Hp} (ho : Cursor_moveTo_b call x0 x1 h = some (r, h')) : ax_C l G (d + 1) y_Cursor_moveTo (.code y_Cursor_moveTo prog_3_method_3_code 2 none) [ax_A x0, ax_I x1] h r h' := by
  refine ax_enter (by decide) (Nat.le_of_ble_eq_true rfl) ho (fun p e s mi args below meth c B E Nm => ?_)
  have B : ax_B G p s mi meth c "SchemaDesk$Cursor" prog_3_method_3_code 2 none := B
  show ax_W G p l e s mi args below meth c 2 (d + 1) h 0 [(0, ax_A x0), (1, ax_I x1)] [] h (Cursor_moveTo_b call x0 x1 h)
  unfold Cursor_moveTo_b
  refine ax_aload_n B 0 d_Cursor_moveTo_0 rfl rfl ?_
  refine ax_iload_n B 1 d_Cursor_moveTo_1 rfl rfl ?_
  refine ax_putf (v := ax_I x1) B cl_Cursor (by decide) fk_Cursor_23 (Or.inl rfl) (fun _ => rfl) (fun _ => rfl) d_Cursor_moveTo_2 (fun h1 => ?_)
  exact ax_vreturn B d_Cursor_moveTo_5
