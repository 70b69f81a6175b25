theorem d_StreamReader_init_0 : decode prog_8_method_1_code 0 = .ok (.aload_n 0, 1) := by decide +kernel
theorem d_StreamReader_init_1 : decode prog_8_method_1_code 1 = .ok (.invokespecial 3, 3) := by decide +kernel
theorem d_StreamReader_init_4 : decode prog_8_method_1_code 4 = .ok (.aload_n 0, 1) := by decide +kernel
theorem d_StreamReader_init_5 : decode prog_8_method_1_code 5 = .ok (.aload_n 1, 1) := by decide +kernel
theorem d_StreamReader_init_6 : decode prog_8_method_1_code 6 = .ok (.putfield 9, 3) := by decide +kernel
theorem d_StreamReader_init_9 : decode prog_8_method_1_code 9 = .ok (.aload_n 0, 1) := by decide +kernel
theorem d_StreamReader_init_10 : decode prog_8_method_1_code 10 = .ok (.aload_n 2, 1) := by decide +kernel
theorem d_StreamReader_init_11 : decode prog_8_method_1_code 11 = .ok (.putfield 15, 3) := by decide +kernel
theorem d_StreamReader_init_14 : decode prog_8_method_1_code 14 = .ok (.return_, 1) := by decide +kernel
def StreamReader_init_b (call : ax_Cf) (x0 : Nat) (x1 : Option Nat) (x2 : Option Nat) (h : ax_Hp) : ax_O :=
  (ax_pf h (some x0) 5 0 (ax_A x1)).bind fun h1 =>
  (ax_pf h1 (some x0) 5 1 (ax_A x2)).bind fun h2 =>
  ax_rv h2
set_option maxHeartbeats 4000000 in
set_option maxRecDepth 20000 in
theorem StreamReader_init_t {l : Launch} {G : ax_G} {d : Nat} {call : ax_Cf} (hcall : ax_Hc l G d call) (x0 : Nat) (x1 : Option Nat) (x2 : Option Nat) (h : ax_Hp) {r : ax_Rs} {h' : ax_Hp} (ho : StreamReader_init_b call x0 x1 x2 h = some (r, h')) : ax_C l G (d + 1) y_StreamReader_init (.code y_StreamReader_init prog_8_method_1_code 3 none) [ax_A (some x0), ax_A x1, ax_A x2] h r h' := by
  refine ax_enter (by decide) (Nat.le_of_ble_eq_true rfl) ho (fun p e s mi args below meth c B E Nm => ?_)
  have B : ax_B G p s mi meth c "SchemaDesk$StreamReader" prog_8_method_1_code 3 none := B
  show ax_W G p l e s mi args below meth c 3 (d + 1) h 0 [(0, ax_A (some x0)), (1, ax_A x1), (2, ax_A x2)] [] h (StreamReader_init_b call x0 x1 x2 h)
  unfold StreamReader_init_b
  refine ax_aload_n B 0 d_StreamReader_init_0 rfl rfl ?_
  refine ax_objinit B wd_675 wd_27 wd_objcode (Nat.le_of_ble_eq_true rfl) d_StreamReader_init_1 ?_
  refine ax_aload_n B 0 d_StreamReader_init_4 rfl rfl ?_
  refine ax_aload_n B 1 d_StreamReader_init_5 rfl rfl ?_
  refine ax_putf (v := ax_A x1) B cl_StreamReader (by decide) fk_StreamReader_9 (Or.inr ⟨wd_676, rfl, Nm, rfl⟩) (fun _ => ax_narO) (fun _ => ax_fitO) d_StreamReader_init_6 (fun h1 => ?_)
  refine ax_aload_n B 0 d_StreamReader_init_9 rfl rfl ?_
  refine ax_aload_n B 2 d_StreamReader_init_10 rfl rfl ?_
  refine ax_putf (v := ax_A x2) B cl_StreamReader (by decide) fk_StreamReader_15 (Or.inr ⟨wd_677, rfl, Nm, rfl⟩) (fun _ => ax_narO) (fun _ => ax_fitO) d_StreamReader_init_11 (fun h2 => ?_)
  exact ax_vreturn B d_StreamReader_init_14

theorem d_StreamReader_readWhole_0 : decode prog_8_method_2_code 0 = .ok (.aload_n 0, 1) := by decide +kernel
theorem d_StreamReader_readWhole_1 : decode prog_8_method_2_code 1 = .ok (.iconst 0, 1) := by decide +kernel
theorem d_StreamReader_readWhole_2 : decode prog_8_method_2_code 2 = .ok (.iconst 0, 1) := by decide +kernel
theorem d_StreamReader_readWhole_3 : decode prog_8_method_2_code 3 = .ok (.invokevirtual 19, 3) := by decide +kernel
theorem d_StreamReader_readWhole_6 : decode prog_8_method_2_code 6 = .ok (.ifCond .eq 17, 3) := by decide +kernel
theorem d_StreamReader_readWhole_9 : decode prog_8_method_2_code 9 = .ok (.aload_n 0, 1) := by decide +kernel
theorem d_StreamReader_readWhole_10 : decode prog_8_method_2_code 10 = .ok (.getfield 9, 3) := by decide +kernel
theorem d_StreamReader_readWhole_13 : decode prog_8_method_2_code 13 = .ok (.invokevirtual 23, 3) := by decide +kernel
theorem d_StreamReader_readWhole_16 : decode prog_8_method_2_code 16 = .ok (.ifCond .eq 7, 3) := by decide +kernel
theorem d_StreamReader_readWhole_19 : decode prog_8_method_2_code 19 = .ok (.iconst 1, 1) := by decide +kernel
theorem d_StreamReader_readWhole_20 : decode prog_8_method_2_code 20 = .ok (.goto 4, 3) := by decide +kernel
theorem d_StreamReader_readWhole_23 : decode prog_8_method_2_code 23 = .ok (.iconst 0, 1) := by decide +kernel
theorem d_StreamReader_readWhole_24 : decode prog_8_method_2_code 24 = .ok (.ireturn, 1) := by decide +kernel
def StreamReader_readWhole_b (call : ax_Cf) (x0 : Option Nat) (h : ax_Hp) : ax_O :=
  ax_on h x0 5 <| ax_ci (call 111 [ax_A x0, ax_I 0, ax_I 0] h) fun v2 h1 =>
  if v2 = 0 then
    ax_rz 0 h1
  else
    (ax_gr h1 x0 5 0).bind fun v3 =>
    ax_on h1 v3 0 <| ax_ci (call 52 [ax_A v3] h1) fun v5 h4 =>
    if v5 = 0 then
      ax_rz 0 h4
    else
      ax_rz 1 h4
set_option maxHeartbeats 4000000 in
set_option maxRecDepth 20000 in
theorem StreamReader_readWhole_t {l : Launch} {G : ax_G} {d : Nat} {call : ax_Cf} (hcall : ax_Hc l G d call) (x0 : Option Nat) (h : ax_Hp) {r : ax_Rs} {h' : ax_Hp} (ho : StreamReader_readWhole_b call x0 h = some (r, h')) : ax_C l G (d + 1) y_StreamReader_readWhole (.code y_StreamReader_readWhole prog_8_method_2_code 1 (some (.boolean))) [ax_A x0] h r h' := by
  refine ax_enter (by decide) (Nat.le_of_ble_eq_true rfl) ho (fun p e s mi args below meth c B E Nm => ?_)
  have B : ax_B G p s mi meth c "SchemaDesk$StreamReader" prog_8_method_2_code 1 (some (.boolean)) := B
  show ax_W G p l e s mi args below meth c 1 (d + 1) h 0 [(0, ax_A x0)] [] h (StreamReader_readWhole_b call x0 h)
  unfold StreamReader_readWhole_b
  refine ax_aload_n B 0 d_StreamReader_readWhole_0 rfl rfl ?_
  refine ax_iconst (v := 0) B d_StreamReader_readWhole_1 (by decide) ?_
  refine ax_iconst (v := 0) B d_StreamReader_readWhole_2 (by decide) ?_
  refine ax_callVi (av := [ax_I 0, ax_I 0]) (rest := []) B E hm_StreamReader_skip cl_StreamReader rfl wd_692 wp_22 lk_StreamReader_19 d_StreamReader_readWhole_3 rfl (Nat.le_of_ble_eq_true rfl) (fun _ _ hh => hcall 111 _ _ _ _ hh) (fun v2 h1 => ?_)
  refine ax_if_eq B 23 d_StreamReader_readWhole_6 (by decide) ?_ ?_
  · refine ax_iconst (v := 0) B d_StreamReader_readWhole_23 (by decide) ?_
    exact ax_zreturn B d_StreamReader_readWhole_24
  · refine ax_aload_n B 0 d_StreamReader_readWhole_9 rfl rfl ?_
    refine ax_getfr B cl_StreamReader (by decide) fk_StreamReader_9 d_StreamReader_readWhole_10 (fun v3 => ?_)
    refine ax_callVi (av := []) (rest := []) B E hm_Cursor_isAtEnd cl_Cursor rfl wd_405 wd_406 lk_StreamReader_23 d_StreamReader_readWhole_13 rfl (Nat.le_of_ble_eq_true rfl) (fun _ _ hh => hcall 52 _ _ _ _ hh) (fun v5 h4 => ?_)
    refine ax_if_eq B 23 d_StreamReader_readWhole_16 (by decide) ?_ ?_
    · refine ax_iconst (v := 0) B d_StreamReader_readWhole_23 (by decide) ?_
      exact ax_zreturn B d_StreamReader_readWhole_24
    · refine ax_iconst (v := 1) B d_StreamReader_readWhole_19 (by decide) ?_
      refine ax_goto B 24 d_StreamReader_readWhole_20 (by decide) ?_
      exact ax_zreturn B d_StreamReader_readWhole_24

theorem d_StreamReader_skip_0 : decode prog_8_method_5_code 0 = .ok (.iload_n 2, 1) := by decide +kernel
theorem d_StreamReader_skip_1 : decode prog_8_method_5_code 1 = .ok (.bipush 6, 2) := by decide +kernel
theorem d_StreamReader_skip_3 : decode prog_8_method_5_code 3 = .ok (.if_icmp .le 5, 3) := by decide +kernel
theorem d_StreamReader_skip_6 : decode prog_8_method_5_code 6 = .ok (.iconst 0, 1) := by decide +kernel
theorem d_StreamReader_skip_7 : decode prog_8_method_5_code 7 = .ok (.ireturn, 1) := by decide +kernel
theorem d_StreamReader_skip_8 : decode prog_8_method_5_code 8 = .ok (.aload_n 0, 1) := by decide +kernel
theorem d_StreamReader_skip_9 : decode prog_8_method_5_code 9 = .ok (.getfield 15, 3) := by decide +kernel
theorem d_StreamReader_skip_12 : decode prog_8_method_5_code 12 = .ok (.iload_n 1, 1) := by decide +kernel
theorem d_StreamReader_skip_13 : decode prog_8_method_5_code 13 = .ok (.invokevirtual 33, 3) := by decide +kernel
theorem d_StreamReader_skip_16 : decode prog_8_method_5_code 16 = .ok (.tableswitch 162 65 85 #[141, 102, 162, 162, 126, 162, 162, 162, 107, 162, 162, 114, 162, 100, 162, 162, 162, 155, 121, 162, 148], 100) := by decide +kernel
theorem d_StreamReader_skip_116 : decode prog_8_method_5_code 116 = .ok (.iconst 1, 1) := by decide +kernel
theorem d_StreamReader_skip_117 : decode prog_8_method_5_code 117 = .ok (.ireturn, 1) := by decide +kernel
theorem d_StreamReader_skip_118 : decode prog_8_method_5_code 118 = .ok (.aload_n 0, 1) := by decide +kernel
theorem d_StreamReader_skip_119 : decode prog_8_method_5_code 119 = .ok (.invokevirtual 39, 3) := by decide +kernel
theorem d_StreamReader_skip_122 : decode prog_8_method_5_code 122 = .ok (.ireturn, 1) := by decide +kernel
theorem d_StreamReader_skip_123 : decode prog_8_method_5_code 123 = .ok (.aload_n 0, 1) := by decide +kernel
theorem d_StreamReader_skip_124 : decode prog_8_method_5_code 124 = .ok (.bipush 32, 2) := by decide +kernel
theorem d_StreamReader_skip_126 : decode prog_8_method_5_code 126 = .ok (.invokevirtual 42, 3) := by decide +kernel
theorem d_StreamReader_skip_129 : decode prog_8_method_5_code 129 = .ok (.ireturn, 1) := by decide +kernel
theorem d_StreamReader_skip_130 : decode prog_8_method_5_code 130 = .ok (.aload_n 0, 1) := by decide +kernel
theorem d_StreamReader_skip_131 : decode prog_8_method_5_code 131 = .ok (.bipush 64, 2) := by decide +kernel
theorem d_StreamReader_skip_133 : decode prog_8_method_5_code 133 = .ok (.invokevirtual 42, 3) := by decide +kernel
theorem d_StreamReader_skip_136 : decode prog_8_method_5_code 136 = .ok (.ireturn, 1) := by decide +kernel
theorem d_StreamReader_skip_137 : decode prog_8_method_5_code 137 = .ok (.aload_n 0, 1) := by decide +kernel
theorem d_StreamReader_skip_138 : decode prog_8_method_5_code 138 = .ok (.invokevirtual 46, 3) := by decide +kernel
theorem d_StreamReader_skip_141 : decode prog_8_method_5_code 141 = .ok (.ireturn, 1) := by decide +kernel
theorem d_StreamReader_skip_142 : decode prog_8_method_5_code 142 = .ok (.aload_n 0, 1) := by decide +kernel
theorem d_StreamReader_skip_143 : decode prog_8_method_5_code 143 = .ok (.aload_n 0, 1) := by decide +kernel
theorem d_StreamReader_skip_144 : decode prog_8_method_5_code 144 = .ok (.getfield 15, 3) := by decide +kernel
theorem d_StreamReader_skip_147 : decode prog_8_method_5_code 147 = .ok (.iload_n 1, 1) := by decide +kernel
theorem d_StreamReader_skip_148 : decode prog_8_method_5_code 148 = .ok (.invokevirtual 49, 3) := by decide +kernel
theorem d_StreamReader_skip_151 : decode prog_8_method_5_code 151 = .ok (.iconst 1, 1) := by decide +kernel
theorem d_StreamReader_skip_152 : decode prog_8_method_5_code 152 = .ok (.isub, 1) := by decide +kernel
theorem d_StreamReader_skip_153 : decode prog_8_method_5_code 153 = .ok (.invokevirtual 52, 3) := by decide +kernel
theorem d_StreamReader_skip_156 : decode prog_8_method_5_code 156 = .ok (.ireturn, 1) := by decide +kernel
theorem d_StreamReader_skip_157 : decode prog_8_method_5_code 157 = .ok (.aload_n 0, 1) := by decide +kernel
theorem d_StreamReader_skip_158 : decode prog_8_method_5_code 158 = .ok (.iload_n 1, 1) := by decide +kernel
theorem d_StreamReader_skip_159 : decode prog_8_method_5_code 159 = .ok (.iload_n 2, 1) := by decide +kernel
theorem d_StreamReader_skip_160 : decode prog_8_method_5_code 160 = .ok (.invokevirtual 55, 3) := by decide +kernel
theorem d_StreamReader_skip_163 : decode prog_8_method_5_code 163 = .ok (.ireturn, 1) := by decide +kernel
theorem d_StreamReader_skip_164 : decode prog_8_method_5_code 164 = .ok (.aload_n 0, 1) := by decide +kernel
theorem d_StreamReader_skip_165 : decode prog_8_method_5_code 165 = .ok (.iload_n 1, 1) := by decide +kernel
theorem d_StreamReader_skip_166 : decode prog_8_method_5_code 166 = .ok (.iload_n 2, 1) := by decide +kernel
theorem d_StreamReader_skip_167 : decode prog_8_method_5_code 167 = .ok (.invokevirtual 58, 3) := by decide +kernel
theorem d_StreamReader_skip_170 : decode prog_8_method_5_code 170 = .ok (.ireturn, 1) := by decide +kernel
theorem d_StreamReader_skip_171 : decode prog_8_method_5_code 171 = .ok (.aload_n 0, 1) := by decide +kernel
theorem d_StreamReader_skip_172 : decode prog_8_method_5_code 172 = .ok (.iload_n 1, 1) := by decide +kernel
theorem d_StreamReader_skip_173 : decode prog_8_method_5_code 173 = .ok (.iload_n 2, 1) := by decide +kernel
theorem d_StreamReader_skip_174 : decode prog_8_method_5_code 174 = .ok (.invokevirtual 61, 3) := by decide +kernel
theorem d_StreamReader_skip_177 : decode prog_8_method_5_code 177 = .ok (.ireturn, 1) := by decide +kernel
theorem d_StreamReader_skip_178 : decode prog_8_method_5_code 178 = .ok (.iconst 0, 1) := by decide +kernel
theorem d_StreamReader_skip_179 : decode prog_8_method_5_code 179 = .ok (.ireturn, 1) := by decide +kernel
def StreamReader_skip_b (call : ax_Cf) (x0 : Option Nat) (x1 : Int32) (x2 : Int32) (h : ax_Hp) : ax_O :=
  if x2 ≤ 6 then
    (ax_gr h x0 5 1).bind fun v1 =>
    ax_on h v1 3 <| ax_ci (call 44 [ax_A v1, ax_I x1] h) fun v3 h2 =>
    if v3.toInt = 65 then
      ax_on h2 x0 5 <| ax_ci (call 117 [ax_A x0, ax_I x1, ax_I x2] h2) fun v5 h4 =>
      ax_rz v5 h4
    else
    if v3.toInt = 66 then
      ax_on h2 x0 5 <| ax_ci (call 112 [ax_A x0] h2) fun v7 h6 =>
      ax_rz v7 h6
    else
    if v3.toInt = 67 then
      ax_rz 0 h2
    else
    if v3.toInt = 68 then
      ax_rz 0 h2
    else
    if v3.toInt = 69 then
      (ax_gr h2 x0 5 1).bind fun v8 =>
      ax_on h2 v8 3 <| ax_ci (call 78 [ax_A v8, ax_I x1] h2) fun v10 h9 =>
      ax_on h9 x0 5 <| ax_ci (call 115 [ax_A x0, ax_I (v10 - 1)] h9) fun v12 h11 =>
      ax_rz v12 h11
    else
    if v3.toInt = 70 then
      ax_rz 0 h2
    else
    if v3.toInt = 71 then
      ax_rz 0 h2
    else
    if v3.toInt = 72 then
      ax_rz 0 h2
    else
    if v3.toInt = 73 then
      ax_on h2 x0 5 <| ax_ci (call 113 [ax_A x0, ax_I 32] h2) fun v14 h13 =>
      ax_rz v14 h13
    else
    if v3.toInt = 74 then
      ax_rz 0 h2
    else
    if v3.toInt = 75 then
      ax_rz 0 h2
    else
    if v3.toInt = 76 then
      ax_on h2 x0 5 <| ax_ci (call 113 [ax_A x0, ax_I 64] h2) fun v16 h15 =>
      ax_rz v16 h15
    else
    if v3.toInt = 77 then
      ax_rz 0 h2
    else
    if v3.toInt = 78 then
      ax_rz 1 h2
    else
    if v3.toInt = 79 then
      ax_rz 0 h2
    else
    if v3.toInt = 80 then
      ax_rz 0 h2
    else
    if v3.toInt = 81 then
      ax_rz 0 h2
    else
    if v3.toInt = 82 then
      ax_on h2 x0 5 <| ax_ci (call 122 [ax_A x0, ax_I x1, ax_I x2] h2) fun v18 h17 =>
      ax_rz v18 h17
    else
    if v3.toInt = 83 then
      ax_on h2 x0 5 <| ax_ci (call 114 [ax_A x0] h2) fun v20 h19 =>
      ax_rz v20 h19
    else
    if v3.toInt = 84 then
      ax_rz 0 h2
    else
    if v3.toInt = 85 then
      ax_on h2 x0 5 <| ax_ci (call 119 [ax_A x0, ax_I x1, ax_I x2] h2) fun v22 h21 =>
      ax_rz v22 h21
    else
    ax_rz 0 h2
  else
    ax_rz 0 h
set_option maxHeartbeats 4000000 in
set_option maxRecDepth 20000 in
theorem StreamReader_skip_t {l : Launch} {G : ax_G} {d : Nat} {call : ax_Cf} (hcall : ax_Hc l G d call) (x0 : Option Nat) (x1 : Int32) (x2 : Int32) (h : ax_Hp) {r : ax_Rs} {h' : ax_Hp} (ho : StreamReader_skip_b call x0 x1 x2 h = some (r, h')) : ax_C l G (d + 1) y_StreamReader_skip (.code y_StreamReader_skip prog_8_method_5_code 3 (some (.boolean))) [ax_A x0, ax_I x1, ax_I x2] h r h' := by
  refine ax_enter (by decide) (Nat.le_of_ble_eq_true rfl) ho (fun p e s mi args below meth c B E Nm => ?_)
  have B : ax_B G p s mi meth c "SchemaDesk$StreamReader" prog_8_method_5_code 3 (some (.boolean)) := B
  show ax_W G p l e s mi args below meth c 3 (d + 1) h 0 [(0, ax_A x0), (1, ax_I x1), (2, ax_I x2)] [] h (StreamReader_skip_b call x0 x1 x2 h)
  unfold StreamReader_skip_b
  refine ax_iload_n B 2 d_StreamReader_skip_0 rfl rfl ?_
  refine ax_bipush (v := 6) B d_StreamReader_skip_1 (by decide) ?_
  refine ax_icmp_le B 8 d_StreamReader_skip_3 (by decide) ?_ ?_
  · refine ax_aload_n B 0 d_StreamReader_skip_8 rfl rfl ?_
    refine ax_getfr B cl_StreamReader (by decide) fk_StreamReader_15 d_StreamReader_skip_9 (fun v1 => ?_)
    refine ax_iload_n B 1 d_StreamReader_skip_12 rfl rfl ?_
    refine ax_callVi (av := [ax_I x1]) (rest := []) B E hm_Schema_kind cl_Schema rfl wd_367 wd_368 lk_StreamReader_33 d_StreamReader_skip_13 rfl (Nat.le_of_ble_eq_true rfl) (fun _ _ hh => hcall 44 _ _ _ _ hh) (fun v3 h2 => ?_)
    refine ax_table B d_StreamReader_skip_16 (by decide) ?_
    refine ⟨_, _, rfl, ⟨157, by decide, ?_⟩, ?_⟩
    · refine ax_aload_n B 0 d_StreamReader_skip_157 rfl rfl ?_
      refine ax_iload_n B 1 d_StreamReader_skip_158 rfl rfl ?_
      refine ax_iload_n B 2 d_StreamReader_skip_159 rfl rfl ?_
      refine ax_callVi (av := [ax_I x1, ax_I x2]) (rest := []) B E hm_StreamReader_skipElements cl_StreamReader rfl wd_723 wp_24 lk_StreamReader_55 d_StreamReader_skip_160 rfl (Nat.le_of_ble_eq_true rfl) (fun _ _ hh => hcall 117 _ _ _ _ hh) (fun v5 h4 => ?_)
      exact ax_zreturn B d_StreamReader_skip_163
    refine ⟨_, _, rfl, ⟨118, by decide, ?_⟩, ?_⟩
    · refine ax_aload_n B 0 d_StreamReader_skip_118 rfl rfl ?_
      refine ax_callVi (av := []) (rest := []) B E hm_StreamReader_readBoolean cl_StreamReader rfl wd_696 wd_697 lk_StreamReader_39 d_StreamReader_skip_119 rfl (Nat.le_of_ble_eq_true rfl) (fun _ _ hh => hcall 112 _ _ _ _ hh) (fun v7 h6 => ?_)
      exact ax_zreturn B d_StreamReader_skip_122
    refine ⟨_, _, rfl, ⟨178, by decide, ?_⟩, ?_⟩
    · refine ax_iconst (v := 0) B d_StreamReader_skip_178 (by decide) ?_
      exact ax_zreturn B d_StreamReader_skip_179
    refine ⟨_, _, rfl, ⟨178, by decide, ?_⟩, ?_⟩
    · refine ax_iconst (v := 0) B d_StreamReader_skip_178 (by decide) ?_
      exact ax_zreturn B d_StreamReader_skip_179
    refine ⟨_, _, rfl, ⟨142, by decide, ?_⟩, ?_⟩
    · refine ax_aload_n B 0 d_StreamReader_skip_142 rfl rfl ?_
      refine ax_aload_n B 0 d_StreamReader_skip_143 rfl rfl ?_
      refine ax_getfr B cl_StreamReader (by decide) fk_StreamReader_15 d_StreamReader_skip_144 (fun v8 => ?_)
      refine ax_iload_n B 1 d_StreamReader_skip_147 rfl rfl ?_
      refine ax_callVi (av := [ax_I x1]) (rest := [ax_A x0]) B E hm_Schema_symbolCount cl_Schema rfl wd_514 wd_515 lk_StreamReader_49 d_StreamReader_skip_148 rfl (Nat.le_of_ble_eq_true rfl) (fun _ _ hh => hcall 78 _ _ _ _ hh) (fun v10 h9 => ?_)
      refine ax_iconst (v := 1) B d_StreamReader_skip_151 (by decide) ?_
      refine ax_isub B d_StreamReader_skip_152 ?_
      refine ax_callVi (av := [ax_I (v10 - 1)]) (rest := []) B E hm_StreamReader_readCount cl_StreamReader rfl wd_712 wd_713 lk_StreamReader_52 d_StreamReader_skip_153 rfl (Nat.le_of_ble_eq_true rfl) (fun _ _ hh => hcall 115 _ _ _ _ hh) (fun v12 h11 => ?_)
      exact ax_zreturn B d_StreamReader_skip_156
    refine ⟨_, _, rfl, ⟨178, by decide, ?_⟩, ?_⟩
    · refine ax_iconst (v := 0) B d_StreamReader_skip_178 (by decide) ?_
      exact ax_zreturn B d_StreamReader_skip_179
    refine ⟨_, _, rfl, ⟨178, by decide, ?_⟩, ?_⟩
    · refine ax_iconst (v := 0) B d_StreamReader_skip_178 (by decide) ?_
      exact ax_zreturn B d_StreamReader_skip_179
    refine ⟨_, _, rfl, ⟨178, by decide, ?_⟩, ?_⟩
    · refine ax_iconst (v := 0) B d_StreamReader_skip_178 (by decide) ?_
      exact ax_zreturn B d_StreamReader_skip_179
    refine ⟨_, _, rfl, ⟨123, by decide, ?_⟩, ?_⟩
    · refine ax_aload_n B 0 d_StreamReader_skip_123 rfl rfl ?_
      refine ax_bipush (v := 32) B d_StreamReader_skip_124 (by decide) ?_
      refine ax_callVi (av := [ax_I 32]) (rest := []) B E hm_StreamReader_readNumber cl_StreamReader rfl wd_702 wd_703 lk_StreamReader_42 d_StreamReader_skip_126 rfl (Nat.le_of_ble_eq_true rfl) (fun _ _ hh => hcall 113 _ _ _ _ hh) (fun v14 h13 => ?_)
      exact ax_zreturn B d_StreamReader_skip_129
    refine ⟨_, _, rfl, ⟨178, by decide, ?_⟩, ?_⟩
    · refine ax_iconst (v := 0) B d_StreamReader_skip_178 (by decide) ?_
      exact ax_zreturn B d_StreamReader_skip_179
    refine ⟨_, _, rfl, ⟨178, by decide, ?_⟩, ?_⟩
    · refine ax_iconst (v := 0) B d_StreamReader_skip_178 (by decide) ?_
      exact ax_zreturn B d_StreamReader_skip_179
    refine ⟨_, _, rfl, ⟨130, by decide, ?_⟩, ?_⟩
    · refine ax_aload_n B 0 d_StreamReader_skip_130 rfl rfl ?_
      refine ax_bipush (v := 64) B d_StreamReader_skip_131 (by decide) ?_
      refine ax_callVi (av := [ax_I 64]) (rest := []) B E hm_StreamReader_readNumber cl_StreamReader rfl wd_702 wd_703 lk_StreamReader_42 d_StreamReader_skip_133 rfl (Nat.le_of_ble_eq_true rfl) (fun _ _ hh => hcall 113 _ _ _ _ hh) (fun v16 h15 => ?_)
      exact ax_zreturn B d_StreamReader_skip_136
    refine ⟨_, _, rfl, ⟨178, by decide, ?_⟩, ?_⟩
    · refine ax_iconst (v := 0) B d_StreamReader_skip_178 (by decide) ?_
      exact ax_zreturn B d_StreamReader_skip_179
    refine ⟨_, _, rfl, ⟨116, by decide, ?_⟩, ?_⟩
    · refine ax_iconst (v := 1) B d_StreamReader_skip_116 (by decide) ?_
      exact ax_zreturn B d_StreamReader_skip_117
    refine ⟨_, _, rfl, ⟨178, by decide, ?_⟩, ?_⟩
    · refine ax_iconst (v := 0) B d_StreamReader_skip_178 (by decide) ?_
      exact ax_zreturn B d_StreamReader_skip_179
    refine ⟨_, _, rfl, ⟨178, by decide, ?_⟩, ?_⟩
    · refine ax_iconst (v := 0) B d_StreamReader_skip_178 (by decide) ?_
      exact ax_zreturn B d_StreamReader_skip_179
    refine ⟨_, _, rfl, ⟨178, by decide, ?_⟩, ?_⟩
    · refine ax_iconst (v := 0) B d_StreamReader_skip_178 (by decide) ?_
      exact ax_zreturn B d_StreamReader_skip_179
    refine ⟨_, _, rfl, ⟨171, by decide, ?_⟩, ?_⟩
    · refine ax_aload_n B 0 d_StreamReader_skip_171 rfl rfl ?_
      refine ax_iload_n B 1 d_StreamReader_skip_172 rfl rfl ?_
      refine ax_iload_n B 2 d_StreamReader_skip_173 rfl rfl ?_
      refine ax_callVi (av := [ax_I x1, ax_I x2]) (rest := []) B E hm_StreamReader_skipFields cl_StreamReader rfl wd_746 wp_27 lk_StreamReader_61 d_StreamReader_skip_174 rfl (Nat.le_of_ble_eq_true rfl) (fun _ _ hh => hcall 122 _ _ _ _ hh) (fun v18 h17 => ?_)
      exact ax_zreturn B d_StreamReader_skip_177
    refine ⟨_, _, rfl, ⟨137, by decide, ?_⟩, ?_⟩
    · refine ax_aload_n B 0 d_StreamReader_skip_137 rfl rfl ?_
      refine ax_callVi (av := []) (rest := []) B E hm_StreamReader_skipString cl_StreamReader rfl wd_709 wp_23 lk_StreamReader_46 d_StreamReader_skip_138 rfl (Nat.le_of_ble_eq_true rfl) (fun _ _ hh => hcall 114 _ _ _ _ hh) (fun v20 h19 => ?_)
      exact ax_zreturn B d_StreamReader_skip_141
    refine ⟨_, _, rfl, ⟨178, by decide, ?_⟩, ?_⟩
    · refine ax_iconst (v := 0) B d_StreamReader_skip_178 (by decide) ?_
      exact ax_zreturn B d_StreamReader_skip_179
    refine ⟨_, _, rfl, ⟨164, by decide, ?_⟩, ?_⟩
    · refine ax_aload_n B 0 d_StreamReader_skip_164 rfl rfl ?_
      refine ax_iload_n B 1 d_StreamReader_skip_165 rfl rfl ?_
      refine ax_iload_n B 2 d_StreamReader_skip_166 rfl rfl ?_
      refine ax_callVi (av := [ax_I x1, ax_I x2]) (rest := []) B E hm_StreamReader_skipBranch cl_StreamReader rfl wd_733 wp_26 lk_StreamReader_58 d_StreamReader_skip_167 rfl (Nat.le_of_ble_eq_true rfl) (fun _ _ hh => hcall 119 _ _ _ _ hh) (fun v22 h21 => ?_)
      exact ax_zreturn B d_StreamReader_skip_170
    refine ⟨178, by decide, ?_⟩
    refine ax_iconst (v := 0) B d_StreamReader_skip_178 (by decide) ?_
    exact ax_zreturn B d_StreamReader_skip_179
  · refine ax_iconst (v := 0) B d_StreamReader_skip_6 (by decide) ?_
    exact ax_zreturn B d_StreamReader_skip_7

theorem d_StreamReader_readBoolean_0 : decode prog_8_method_6_code 0 = .ok (.aload_n 0, 1) := by decide +kernel
theorem d_StreamReader_readBoolean_1 : decode prog_8_method_6_code 1 = .ok (.aload_n 0, 1) := by decide +kernel
theorem d_StreamReader_readBoolean_2 : decode prog_8_method_6_code 2 = .ok (.getfield 9, 3) := by decide +kernel
theorem d_StreamReader_readBoolean_5 : decode prog_8_method_6_code 5 = .ok (.invokevirtual 64, 3) := by decide +kernel
theorem d_StreamReader_readBoolean_8 : decode prog_8_method_6_code 8 = .ok (.i2l, 1) := by decide +kernel
theorem d_StreamReader_readBoolean_9 : decode prog_8_method_6_code 9 = .ok (.putfield 29, 3) := by decide +kernel
theorem d_StreamReader_readBoolean_12 : decode prog_8_method_6_code 12 = .ok (.aload_n 0, 1) := by decide +kernel
theorem d_StreamReader_readBoolean_13 : decode prog_8_method_6_code 13 = .ok (.getfield 9, 3) := by decide +kernel
theorem d_StreamReader_readBoolean_16 : decode prog_8_method_6_code 16 = .ok (.iconst 0, 1) := by decide +kernel
theorem d_StreamReader_readBoolean_17 : decode prog_8_method_6_code 17 = .ok (.invokevirtual 68, 3) := by decide +kernel
theorem d_StreamReader_readBoolean_20 : decode prog_8_method_6_code 20 = .ok (.ifCond .ne 14, 3) := by decide +kernel
theorem d_StreamReader_readBoolean_23 : decode prog_8_method_6_code 23 = .ok (.aload_n 0, 1) := by decide +kernel
theorem d_StreamReader_readBoolean_24 : decode prog_8_method_6_code 24 = .ok (.getfield 9, 3) := by decide +kernel
theorem d_StreamReader_readBoolean_27 : decode prog_8_method_6_code 27 = .ok (.iconst 1, 1) := by decide +kernel
theorem d_StreamReader_readBoolean_28 : decode prog_8_method_6_code 28 = .ok (.invokevirtual 68, 3) := by decide +kernel
theorem d_StreamReader_readBoolean_31 : decode prog_8_method_6_code 31 = .ok (.ifCond .eq 7, 3) := by decide +kernel
theorem d_StreamReader_readBoolean_34 : decode prog_8_method_6_code 34 = .ok (.iconst 1, 1) := by decide +kernel
theorem d_StreamReader_readBoolean_35 : decode prog_8_method_6_code 35 = .ok (.goto 4, 3) := by decide +kernel
theorem d_StreamReader_readBoolean_38 : decode prog_8_method_6_code 38 = .ok (.iconst 0, 1) := by decide +kernel
theorem d_StreamReader_readBoolean_39 : decode prog_8_method_6_code 39 = .ok (.ireturn, 1) := by decide +kernel
def StreamReader_readBoolean_b (call : ax_Cf) (x0 : Option Nat) (h : ax_Hp) : ax_O :=
  (ax_gr h x0 5 0).bind fun v1 =>
  ax_on h v1 0 <| ax_ci (call 29 [ax_A v1] h) fun v3 h2 =>
  (ax_pf h2 x0 5 2 (ax_L (v3.toInt64))).bind fun h4 =>
  (ax_gr h4 x0 5 0).bind fun v5 =>
  ax_on h4 v5 0 <| ax_ci (call 30 [ax_A v5, ax_I 0] h4) fun v7 h6 =>
  if v7 = 0 then
    (ax_gr h6 x0 5 0).bind fun v8 =>
    ax_on h6 v8 0 <| ax_ci (call 30 [ax_A v8, ax_I 1] h6) fun v10 h9 =>
    if v10 = 0 then
      ax_rz 0 h9
    else
      ax_rz 1 h9
  else
    ax_rz 1 h6
set_option maxHeartbeats 4000000 in
set_option maxRecDepth 20000 in
theorem StreamReader_readBoolean_t {l : Launch} {G : ax_G} {d : Nat} {call : ax_Cf} (hcall : ax_Hc l G d call) (x0 : Option Nat) (h : ax_Hp) {r : ax_Rs} {h' : ax_Hp} (ho : StreamReader_readBoolean_b call x0 h = some (r, h')) : ax_C l G (d + 1) y_StreamReader_readBoolean (.code y_StreamReader_readBoolean prog_8_method_6_code 1 (some (.boolean))) [ax_A x0] h r h' := by
  refine ax_enter (by decide) (Nat.le_of_ble_eq_true rfl) ho (fun p e s mi args below meth c B E Nm => ?_)
  have B : ax_B G p s mi meth c "SchemaDesk$StreamReader" prog_8_method_6_code 1 (some (.boolean)) := B
  show ax_W G p l e s mi args below meth c 1 (d + 1) h 0 [(0, ax_A x0)] [] h (StreamReader_readBoolean_b call x0 h)
  unfold StreamReader_readBoolean_b
  refine ax_aload_n B 0 d_StreamReader_readBoolean_0 rfl rfl ?_
  refine ax_aload_n B 0 d_StreamReader_readBoolean_1 rfl rfl ?_
  refine ax_getfr B cl_StreamReader (by decide) fk_StreamReader_9 d_StreamReader_readBoolean_2 (fun v1 => ?_)
  refine ax_callVi (av := []) (rest := [ax_A x0]) B E hm_Cursor_peek cl_Cursor rfl wd_310 wd_311 lk_StreamReader_64 d_StreamReader_readBoolean_5 rfl (Nat.le_of_ble_eq_true rfl) (fun _ _ hh => hcall 29 _ _ _ _ hh) (fun v3 h2 => ?_)
  refine ax_i2l B d_StreamReader_readBoolean_8 ?_
  refine ax_putf (v := ax_L (v3.toInt64)) B cl_StreamReader (by decide) fk_StreamReader_29 (Or.inl rfl) (fun _ => rfl) (fun _ => rfl) d_StreamReader_readBoolean_9 (fun h4 => ?_)
  refine ax_aload_n B 0 d_StreamReader_readBoolean_12 rfl rfl ?_
  refine ax_getfr B cl_StreamReader (by decide) fk_StreamReader_9 d_StreamReader_readBoolean_13 (fun v5 => ?_)
  refine ax_iconst (v := 0) B d_StreamReader_readBoolean_16 (by decide) ?_
  refine ax_callVi (av := [ax_I 0]) (rest := []) B E hm_Cursor_take cl_Cursor rfl wd_314 wd_315 lk_StreamReader_68 d_StreamReader_readBoolean_17 rfl (Nat.le_of_ble_eq_true rfl) (fun _ _ hh => hcall 30 _ _ _ _ hh) (fun v7 h6 => ?_)
  refine ax_if_ne B 34 d_StreamReader_readBoolean_20 (by decide) ?_ ?_
  · refine ax_iconst (v := 1) B d_StreamReader_readBoolean_34 (by decide) ?_
    refine ax_goto B 39 d_StreamReader_readBoolean_35 (by decide) ?_
    exact ax_zreturn B d_StreamReader_readBoolean_39
  · refine ax_aload_n B 0 d_StreamReader_readBoolean_23 rfl rfl ?_
    refine ax_getfr B cl_StreamReader (by decide) fk_StreamReader_9 d_StreamReader_readBoolean_24 (fun v8 => ?_)
    refine ax_iconst (v := 1) B d_StreamReader_readBoolean_27 (by decide) ?_
    refine ax_callVi (av := [ax_I 1]) (rest := []) B E hm_Cursor_take cl_Cursor rfl wd_314 wd_315 lk_StreamReader_68 d_StreamReader_readBoolean_28 rfl (Nat.le_of_ble_eq_true rfl) (fun _ _ hh => hcall 30 _ _ _ _ hh) (fun v10 h9 => ?_)
    refine ax_if_eq B 38 d_StreamReader_readBoolean_31 (by decide) ?_ ?_
    · refine ax_iconst (v := 0) B d_StreamReader_readBoolean_38 (by decide) ?_
      exact ax_zreturn B d_StreamReader_readBoolean_39
    · refine ax_iconst (v := 1) B d_StreamReader_readBoolean_34 (by decide) ?_
      refine ax_goto B 39 d_StreamReader_readBoolean_35 (by decide) ?_
      exact ax_zreturn B d_StreamReader_readBoolean_39

theorem d_StreamReader_readNumber_0 : decode prog_8_method_7_code 0 = .ok (.lconst 0, 1) := by decide +kernel
theorem d_StreamReader_readNumber_1 : decode prog_8_method_7_code 1 = .ok (.lstore_n 2, 1) := by decide +kernel
theorem d_StreamReader_readNumber_2 : decode prog_8_method_7_code 2 = .ok (.iconst 0, 1) := by decide +kernel
theorem d_StreamReader_readNumber_3 : decode prog_8_method_7_code 3 = .ok (.istore 4, 2) := by decide +kernel
theorem d_StreamReader_readNumber_5 : decode prog_8_method_7_code 5 = .ok (.iload 4, 2) := by decide +kernel
theorem d_StreamReader_readNumber_7 : decode prog_8_method_7_code 7 = .ok (.iload_n 1, 1) := by decide +kernel
theorem d_StreamReader_readNumber_8 : decode prog_8_method_7_code 8 = .ok (.if_icmp .ge 153, 3) := by decide +kernel
theorem d_StreamReader_readNumber_11 : decode prog_8_method_7_code 11 = .ok (.aload_n 0, 1) := by decide +kernel
theorem d_StreamReader_readNumber_12 : decode prog_8_method_7_code 12 = .ok (.getfield 9, 3) := by decide +kernel
theorem d_StreamReader_readNumber_15 : decode prog_8_method_7_code 15 = .ok (.invokevirtual 23, 3) := by decide +kernel
theorem d_StreamReader_readNumber_18 : decode prog_8_method_7_code 18 = .ok (.ifCond .eq 5, 3) := by decide +kernel
theorem d_StreamReader_readNumber_21 : decode prog_8_method_7_code 21 = .ok (.iconst 0, 1) := by decide +kernel
theorem d_StreamReader_readNumber_22 : decode prog_8_method_7_code 22 = .ok (.ireturn, 1) := by decide +kernel
theorem d_StreamReader_readNumber_23 : decode prog_8_method_7_code 23 = .ok (.aload_n 0, 1) := by decide +kernel
theorem d_StreamReader_readNumber_24 : decode prog_8_method_7_code 24 = .ok (.getfield 9, 3) := by decide +kernel
theorem d_StreamReader_readNumber_27 : decode prog_8_method_7_code 27 = .ok (.invokevirtual 64, 3) := by decide +kernel
theorem d_StreamReader_readNumber_30 : decode prog_8_method_7_code 30 = .ok (.bipush 127, 2) := by decide +kernel
theorem d_StreamReader_readNumber_32 : decode prog_8_method_7_code 32 = .ok (.iand, 1) := by decide +kernel
theorem d_StreamReader_readNumber_33 : decode prog_8_method_7_code 33 = .ok (.istore 5, 2) := by decide +kernel
theorem d_StreamReader_readNumber_35 : decode prog_8_method_7_code 35 = .ok (.aload_n 0, 1) := by decide +kernel
theorem d_StreamReader_readNumber_36 : decode prog_8_method_7_code 36 = .ok (.getfield 9, 3) := by decide +kernel
theorem d_StreamReader_readNumber_39 : decode prog_8_method_7_code 39 = .ok (.invokevirtual 64, 3) := by decide +kernel
theorem d_StreamReader_readNumber_42 : decode prog_8_method_7_code 42 = .ok (.sipush 128, 3) := by decide +kernel
theorem d_StreamReader_readNumber_45 : decode prog_8_method_7_code 45 = .ok (.if_icmp .ge 7, 3) := by decide +kernel
theorem d_StreamReader_readNumber_48 : decode prog_8_method_7_code 48 = .ok (.iconst 1, 1) := by decide +kernel
theorem d_StreamReader_readNumber_49 : decode prog_8_method_7_code 49 = .ok (.goto 4, 3) := by decide +kernel
theorem d_StreamReader_readNumber_52 : decode prog_8_method_7_code 52 = .ok (.iconst 0, 1) := by decide +kernel
theorem d_StreamReader_readNumber_53 : decode prog_8_method_7_code 53 = .ok (.istore 6, 2) := by decide +kernel
theorem d_StreamReader_readNumber_55 : decode prog_8_method_7_code 55 = .ok (.iload 6, 2) := by decide +kernel
theorem d_StreamReader_readNumber_57 : decode prog_8_method_7_code 57 = .ok (.ifCond .eq 17, 3) := by decide +kernel
theorem d_StreamReader_readNumber_60 : decode prog_8_method_7_code 60 = .ok (.iload 5, 2) := by decide +kernel
theorem d_StreamReader_readNumber_62 : decode prog_8_method_7_code 62 = .ok (.ifCond .ne 12, 3) := by decide +kernel
theorem d_StreamReader_readNumber_65 : decode prog_8_method_7_code 65 = .ok (.iload 4, 2) := by decide +kernel
theorem d_StreamReader_readNumber_67 : decode prog_8_method_7_code 67 = .ok (.ifCond .le 7, 3) := by decide +kernel
theorem d_StreamReader_readNumber_70 : decode prog_8_method_7_code 70 = .ok (.iconst 1, 1) := by decide +kernel
theorem d_StreamReader_readNumber_71 : decode prog_8_method_7_code 71 = .ok (.goto 4, 3) := by decide +kernel
theorem d_StreamReader_readNumber_74 : decode prog_8_method_7_code 74 = .ok (.iconst 0, 1) := by decide +kernel
theorem d_StreamReader_readNumber_75 : decode prog_8_method_7_code 75 = .ok (.istore 7, 2) := by decide +kernel
theorem d_StreamReader_readNumber_77 : decode prog_8_method_7_code 77 = .ok (.iload 4, 2) := by decide +kernel
theorem d_StreamReader_readNumber_79 : decode prog_8_method_7_code 79 = .ok (.bipush 7, 2) := by decide +kernel
theorem d_StreamReader_readNumber_81 : decode prog_8_method_7_code 81 = .ok (.iadd, 1) := by decide +kernel
theorem d_StreamReader_readNumber_82 : decode prog_8_method_7_code 82 = .ok (.iload_n 1, 1) := by decide +kernel
theorem d_StreamReader_readNumber_83 : decode prog_8_method_7_code 83 = .ok (.if_icmp .le 22, 3) := by decide +kernel
theorem d_StreamReader_readNumber_86 : decode prog_8_method_7_code 86 = .ok (.iload 6, 2) := by decide +kernel
theorem d_StreamReader_readNumber_88 : decode prog_8_method_7_code 88 = .ok (.ifCond .eq 13, 3) := by decide +kernel
theorem d_StreamReader_readNumber_91 : decode prog_8_method_7_code 91 = .ok (.iload 5, 2) := by decide +kernel
theorem d_StreamReader_readNumber_93 : decode prog_8_method_7_code 93 = .ok (.iload_n 1, 1) := by decide +kernel
theorem d_StreamReader_readNumber_94 : decode prog_8_method_7_code 94 = .ok (.iload 4, 2) := by decide +kernel
theorem d_StreamReader_readNumber_96 : decode prog_8_method_7_code 96 = .ok (.isub, 1) := by decide +kernel
theorem d_StreamReader_readNumber_97 : decode prog_8_method_7_code 97 = .ok (.ishr, 1) := by decide +kernel
theorem d_StreamReader_readNumber_98 : decode prog_8_method_7_code 98 = .ok (.ifCond .eq 7, 3) := by decide +kernel
theorem d_StreamReader_readNumber_101 : decode prog_8_method_7_code 101 = .ok (.iconst 1, 1) := by decide +kernel
theorem d_StreamReader_readNumber_102 : decode prog_8_method_7_code 102 = .ok (.goto 4, 3) := by decide +kernel
theorem d_StreamReader_readNumber_105 : decode prog_8_method_7_code 105 = .ok (.iconst 0, 1) := by decide +kernel
theorem d_StreamReader_readNumber_106 : decode prog_8_method_7_code 106 = .ok (.istore 8, 2) := by decide +kernel
theorem d_StreamReader_readNumber_108 : decode prog_8_method_7_code 108 = .ok (.iload 7, 2) := by decide +kernel
theorem d_StreamReader_readNumber_110 : decode prog_8_method_7_code 110 = .ok (.ifCond .ne 8, 3) := by decide +kernel
theorem d_StreamReader_readNumber_113 : decode prog_8_method_7_code 113 = .ok (.iload 8, 2) := by decide +kernel
theorem d_StreamReader_readNumber_115 : decode prog_8_method_7_code 115 = .ok (.ifCond .eq 5, 3) := by decide +kernel
theorem d_StreamReader_readNumber_118 : decode prog_8_method_7_code 118 = .ok (.iconst 0, 1) := by decide +kernel
theorem d_StreamReader_readNumber_119 : decode prog_8_method_7_code 119 = .ok (.ireturn, 1) := by decide +kernel
theorem d_StreamReader_readNumber_120 : decode prog_8_method_7_code 120 = .ok (.aload_n 0, 1) := by decide +kernel
theorem d_StreamReader_readNumber_121 : decode prog_8_method_7_code 121 = .ok (.getfield 9, 3) := by decide +kernel
theorem d_StreamReader_readNumber_124 : decode prog_8_method_7_code 124 = .ok (.invokevirtual 71, 3) := by decide +kernel
theorem d_StreamReader_readNumber_127 : decode prog_8_method_7_code 127 = .ok (.lload_n 2, 1) := by decide +kernel
theorem d_StreamReader_readNumber_128 : decode prog_8_method_7_code 128 = .ok (.iload 5, 2) := by decide +kernel
theorem d_StreamReader_readNumber_130 : decode prog_8_method_7_code 130 = .ok (.i2l, 1) := by decide +kernel
theorem d_StreamReader_readNumber_131 : decode prog_8_method_7_code 131 = .ok (.iload 4, 2) := by decide +kernel
theorem d_StreamReader_readNumber_133 : decode prog_8_method_7_code 133 = .ok (.lshl, 1) := by decide +kernel
theorem d_StreamReader_readNumber_134 : decode prog_8_method_7_code 134 = .ok (.lor, 1) := by decide +kernel
theorem d_StreamReader_readNumber_135 : decode prog_8_method_7_code 135 = .ok (.lstore_n 2, 1) := by decide +kernel
theorem d_StreamReader_readNumber_136 : decode prog_8_method_7_code 136 = .ok (.iload 6, 2) := by decide +kernel
theorem d_StreamReader_readNumber_138 : decode prog_8_method_7_code 138 = .ok (.ifCond .eq 17, 3) := by decide +kernel
theorem d_StreamReader_readNumber_141 : decode prog_8_method_7_code 141 = .ok (.aload_n 0, 1) := by decide +kernel
theorem d_StreamReader_readNumber_142 : decode prog_8_method_7_code 142 = .ok (.lload_n 2, 1) := by decide +kernel
theorem d_StreamReader_readNumber_143 : decode prog_8_method_7_code 143 = .ok (.iconst 1, 1) := by decide +kernel
theorem d_StreamReader_readNumber_144 : decode prog_8_method_7_code 144 = .ok (.lushr, 1) := by decide +kernel
theorem d_StreamReader_readNumber_145 : decode prog_8_method_7_code 145 = .ok (.lload_n 2, 1) := by decide +kernel
theorem d_StreamReader_readNumber_146 : decode prog_8_method_7_code 146 = .ok (.lconst 1, 1) := by decide +kernel
theorem d_StreamReader_readNumber_147 : decode prog_8_method_7_code 147 = .ok (.land, 1) := by decide +kernel
theorem d_StreamReader_readNumber_148 : decode prog_8_method_7_code 148 = .ok (.lneg, 1) := by decide +kernel
theorem d_StreamReader_readNumber_149 : decode prog_8_method_7_code 149 = .ok (.lxor, 1) := by decide +kernel
theorem d_StreamReader_readNumber_150 : decode prog_8_method_7_code 150 = .ok (.putfield 29, 3) := by decide +kernel
theorem d_StreamReader_readNumber_153 : decode prog_8_method_7_code 153 = .ok (.iconst 1, 1) := by decide +kernel
theorem d_StreamReader_readNumber_154 : decode prog_8_method_7_code 154 = .ok (.ireturn, 1) := by decide +kernel
theorem d_StreamReader_readNumber_155 : decode prog_8_method_7_code 155 = .ok (.iinc 4 7, 3) := by decide +kernel
theorem d_StreamReader_readNumber_158 : decode prog_8_method_7_code 158 = .ok (.goto (-153), 3) := by decide +kernel
theorem d_StreamReader_readNumber_161 : decode prog_8_method_7_code 161 = .ok (.iconst 0, 1) := by decide +kernel
theorem d_StreamReader_readNumber_162 : decode prog_8_method_7_code 162 = .ok (.ireturn, 1) := by decide +kernel
def StreamReader_readNumber_jn106 (call : ax_Cf) (k5 : Option Nat → Int32 → Int64 → Int32 → ax_Hp → ax_O) (x0 : Option Nat) (x1 : Int32) (x2 : Int64) (x4 : Int32) (x5 : Int32) (x6 : Int32) (x7 : Int32) (s0 : Int32) (h : ax_Hp) : ax_O :=
  if x7 = 0 then
    if s0 = 0 then
      (ax_gr h x0 5 0).bind fun v10 =>
      ax_on h v10 0 <| ax_cv (call 34 [ax_A v10] h) fun h11 =>
      if x6 = 0 then
        k5 x0 x1 (x2 ||| ((x5.toInt64) <<< (x4.toInt64 &&& 63))) (x4 + 7) h11
      else
        (ax_pf h11 x0 5 2 (ax_L ((((x2 ||| ((x5.toInt64) <<< (x4.toInt64 &&& 63))).toUInt64 >>> ((1 : Int32).toInt64.toUInt64 &&& Int64.toUInt64 63)).toInt64) ^^^ (-((x2 ||| ((x5.toInt64) <<< (x4.toInt64 &&& 63))) &&& 1))))).bind fun h13 =>
        ax_rz 1 h13
    else
      ax_rz 0 h
  else
    ax_rz 0 h
set_option maxHeartbeats 4000000 in
set_option maxRecDepth 20000 in
theorem StreamReader_readNumber_jq106 {l : Launch} {G : ax_G} {d : Nat} {call : ax_Cf} (hcall : ax_Hc l G d call) {p : Program} {e : Env} {s : State} {mi : MethodId} {args : Array Value} {below : List Frame} {meth : Method} {c : Code} {h0 : ax_Hp} (B : ax_B G p s mi meth c "SchemaDesk$StreamReader" prog_8_method_7_code 9 (some (.boolean))) (E : c.exceptionTable.isEmpty = true) (Nm : meth.name = y_StreamReader_readNumber.name) (k5 : Option Nat → Int32 → Int64 → Int32 → ax_Hp → ax_O) (hk5 : ∀ (x0 : Option Nat) (x1 : Int32) (x2 : Int64) (x4 : Int32) (h : ax_Hp), ax_W G p l e s mi args below meth c 9 (d + 1) h0 5 [(0, ax_A x0), (1, ax_I x1), (2, ax_L x2), (4, ax_I x4)] [] h (k5 x0 x1 x2 x4 h)) (x0 : Option Nat) (x1 : Int32) (x2 : Int64) (x4 : Int32) (x5 : Int32) (x6 : Int32) (x7 : Int32) (s0 : Int32) (h : ax_Hp) : ax_W G p l e s mi args below meth c 9 (d + 1) h0 106 [(0, ax_A x0), (1, ax_I x1), (2, ax_L x2), (4, ax_I x4), (5, ax_I x5), (6, ax_I x6), (7, ax_I x7)] [ax_I s0] h (StreamReader_readNumber_jn106 call k5 x0 x1 x2 x4 x5 x6 x7 s0 h) := by
  unfold StreamReader_readNumber_jn106
  refine ax_istore (tv2 := [(8, ax_I s0), (0, ax_A x0), (1, ax_I x1), (2, ax_L x2), (4, ax_I x4), (5, ax_I x5), (6, ax_I x6), (7, ax_I x7)]) B d_StreamReader_readNumber_106 (by decide) rfl ?_
  refine ax_iload B 7 d_StreamReader_readNumber_108 rfl ?_
  refine ax_if_ne B 118 d_StreamReader_readNumber_110 (by decide) ?_ ?_
  · refine ax_iconst (v := 0) B d_StreamReader_readNumber_118 (by decide) ?_
    exact ax_zreturn B d_StreamReader_readNumber_119
  · refine ax_iload B 0 d_StreamReader_readNumber_113 rfl ?_
    refine ax_if_eq B 120 d_StreamReader_readNumber_115 (by decide) ?_ ?_
    · refine ax_aload_n B 1 d_StreamReader_readNumber_120 rfl rfl ?_
      refine ax_getfr B cl_StreamReader (by decide) fk_StreamReader_9 d_StreamReader_readNumber_121 (fun v10 => ?_)
      refine ax_callVv (av := []) (rest := []) B E hm_Cursor_step cl_Cursor rfl wd_328 wd_329 lk_StreamReader_71 d_StreamReader_readNumber_124 rfl (Nat.le_of_ble_eq_true rfl) (fun _ _ hh => hcall 34 _ _ _ _ hh) (fun h11 => ?_)
      refine ax_lload_n B 3 d_StreamReader_readNumber_127 rfl rfl ?_
      refine ax_iload B 5 d_StreamReader_readNumber_128 rfl ?_
      refine ax_i2l B d_StreamReader_readNumber_130 ?_
      refine ax_iload B 4 d_StreamReader_readNumber_131 rfl ?_
      refine ax_lshl B d_StreamReader_readNumber_133 ?_
      refine ax_lor B d_StreamReader_readNumber_134 ?_
      refine ax_lstore_n (tv2 := [(2, ax_L (x2 ||| ((x5.toInt64) <<< (x4.toInt64 &&& 63)))), (8, ax_I s0), (0, ax_A x0), (1, ax_I x1), (4, ax_I x4), (5, ax_I x5), (6, ax_I x6), (7, ax_I x7)]) B d_StreamReader_readNumber_135 rfl (by decide) rfl ?_
      refine ax_iload B 6 d_StreamReader_readNumber_136 rfl ?_
      refine ax_if_eq B 155 d_StreamReader_readNumber_138 (by decide) ?_ ?_
      · refine ax_iinc (v := x4 + 7) (tv2 := [(4, ax_I (x4 + 7)), (2, ax_L (x2 ||| ((x5.toInt64) <<< (x4.toInt64 &&& 63)))), (8, ax_I s0), (0, ax_A x0), (1, ax_I x1), (5, ax_I x5), (6, ax_I x6), (7, ax_I x7)]) B 4 d_StreamReader_readNumber_155 rfl (congrArg (_ + ·) (by decide)) (by decide) rfl ?_
        refine ax_goto B 5 d_StreamReader_readNumber_158 (by decide) ?_
        refine ax_sub (tv2 := [(0, ax_A x0), (1, ax_I x1), (2, ax_L (x2 ||| ((x5.toInt64) <<< (x4.toInt64 &&& 63)))), (4, ax_I (x4 + 7))]) [3, 4, 1, 0] rfl ?_
        exact hk5 x0 x1 (x2 ||| ((x5.toInt64) <<< (x4.toInt64 &&& 63))) (x4 + 7) h11
      · refine ax_aload_n B 2 d_StreamReader_readNumber_141 rfl rfl ?_
        refine ax_lload_n B 0 d_StreamReader_readNumber_142 rfl rfl ?_
        refine ax_iconst (v := 1) B d_StreamReader_readNumber_143 (by decide) ?_
        refine ax_lushr B d_StreamReader_readNumber_144 ?_
        refine ax_lload_n B 0 d_StreamReader_readNumber_145 rfl rfl ?_
        refine ax_lconst (v := 1) B d_StreamReader_readNumber_146 (by decide) ?_
        refine ax_land B d_StreamReader_readNumber_147 ?_
        refine ax_lneg B d_StreamReader_readNumber_148 ?_
        refine ax_lxor B d_StreamReader_readNumber_149 ?_
        refine ax_putf (v := ax_L ((((x2 ||| ((x5.toInt64) <<< (x4.toInt64 &&& 63))).toUInt64 >>> ((1 : Int32).toInt64.toUInt64 &&& Int64.toUInt64 63)).toInt64) ^^^ (-((x2 ||| ((x5.toInt64) <<< (x4.toInt64 &&& 63))) &&& 1)))) B cl_StreamReader (by decide) fk_StreamReader_29 (Or.inl rfl) (fun _ => rfl) (fun _ => rfl) d_StreamReader_readNumber_150 (fun h13 => ?_)
        refine ax_iconst (v := 1) B d_StreamReader_readNumber_153 (by decide) ?_
        exact ax_zreturn B d_StreamReader_readNumber_154
    · refine ax_iconst (v := 0) B d_StreamReader_readNumber_118 (by decide) ?_
      exact ax_zreturn B d_StreamReader_readNumber_119
def StreamReader_readNumber_jn105 (call : ax_Cf) (k5 : Option Nat → Int32 → Int64 → Int32 → ax_Hp → ax_O) (x0 : Option Nat) (x1 : Int32) (x2 : Int64) (x4 : Int32) (x5 : Int32) (x6 : Int32) (x7 : Int32) (h : ax_Hp) : ax_O :=
  StreamReader_readNumber_jn106 call k5 x0 x1 x2 x4 x5 x6 x7 0 h
set_option maxHeartbeats 4000000 in
set_option maxRecDepth 20000 in
theorem StreamReader_readNumber_jq105 {l : Launch} {G : ax_G} {d : Nat} {call : ax_Cf} (hcall : ax_Hc l G d call) {p : Program} {e : Env} {s : State} {mi : MethodId} {args : Array Value} {below : List Frame} {meth : Method} {c : Code} {h0 : ax_Hp} (B : ax_B G p s mi meth c "SchemaDesk$StreamReader" prog_8_method_7_code 9 (some (.boolean))) (E : c.exceptionTable.isEmpty = true) (Nm : meth.name = y_StreamReader_readNumber.name) (k5 : Option Nat → Int32 → Int64 → Int32 → ax_Hp → ax_O) (hk5 : ∀ (x0 : Option Nat) (x1 : Int32) (x2 : Int64) (x4 : Int32) (h : ax_Hp), ax_W G p l e s mi args below meth c 9 (d + 1) h0 5 [(0, ax_A x0), (1, ax_I x1), (2, ax_L x2), (4, ax_I x4)] [] h (k5 x0 x1 x2 x4 h)) (x0 : Option Nat) (x1 : Int32) (x2 : Int64) (x4 : Int32) (x5 : Int32) (x6 : Int32) (x7 : Int32) (h : ax_Hp) : ax_W G p l e s mi args below meth c 9 (d + 1) h0 105 [(0, ax_A x0), (1, ax_I x1), (2, ax_L x2), (4, ax_I x4), (5, ax_I x5), (6, ax_I x6), (7, ax_I x7)] [] h (StreamReader_readNumber_jn105 call k5 x0 x1 x2 x4 x5 x6 x7 h) := by
  unfold StreamReader_readNumber_jn105
  refine ax_iconst (v := 0) B d_StreamReader_readNumber_105 (by decide) ?_
  refine ax_sub (tv2 := [(0, ax_A x0), (1, ax_I x1), (2, ax_L x2), (4, ax_I x4), (5, ax_I x5), (6, ax_I x6), (7, ax_I x7)]) [0, 1, 2, 3, 4, 5, 6] rfl ?_
  exact StreamReader_readNumber_jq106 hcall B E Nm k5 hk5 x0 x1 x2 x4 x5 x6 x7 0 h
def StreamReader_readNumber_jn101 (call : ax_Cf) (k5 : Option Nat → Int32 → Int64 → Int32 → ax_Hp → ax_O) (x0 : Option Nat) (x1 : Int32) (x2 : Int64) (x4 : Int32) (x5 : Int32) (x6 : Int32) (x7 : Int32) (h : ax_Hp) : ax_O :=
  StreamReader_readNumber_jn106 call k5 x0 x1 x2 x4 x5 x6 x7 1 h
set_option maxHeartbeats 4000000 in
set_option maxRecDepth 20000 in
theorem StreamReader_readNumber_jq101 {l : Launch} {G : ax_G} {d : Nat} {call : ax_Cf} (hcall : ax_Hc l G d call) {p : Program} {e : Env} {s : State} {mi : MethodId} {args : Array Value} {below : List Frame} {meth : Method} {c : Code} {h0 : ax_Hp} (B : ax_B G p s mi meth c "SchemaDesk$StreamReader" prog_8_method_7_code 9 (some (.boolean))) (E : c.exceptionTable.isEmpty = true) (Nm : meth.name = y_StreamReader_readNumber.name) (k5 : Option Nat → Int32 → Int64 → Int32 → ax_Hp → ax_O) (hk5 : ∀ (x0 : Option Nat) (x1 : Int32) (x2 : Int64) (x4 : Int32) (h : ax_Hp), ax_W G p l e s mi args below meth c 9 (d + 1) h0 5 [(0, ax_A x0), (1, ax_I x1), (2, ax_L x2), (4, ax_I x4)] [] h (k5 x0 x1 x2 x4 h)) (x0 : Option Nat) (x1 : Int32) (x2 : Int64) (x4 : Int32) (x5 : Int32) (x6 : Int32) (x7 : Int32) (h : ax_Hp) : ax_W G p l e s mi args below meth c 9 (d + 1) h0 101 [(0, ax_A x0), (1, ax_I x1), (2, ax_L x2), (4, ax_I x4), (5, ax_I x5), (6, ax_I x6), (7, ax_I x7)] [] h (StreamReader_readNumber_jn101 call k5 x0 x1 x2 x4 x5 x6 x7 h) := by
  unfold StreamReader_readNumber_jn101
  refine ax_iconst (v := 1) B d_StreamReader_readNumber_101 (by decide) ?_
  refine ax_goto B 106 d_StreamReader_readNumber_102 (by decide) ?_
  refine ax_sub (tv2 := [(0, ax_A x0), (1, ax_I x1), (2, ax_L x2), (4, ax_I x4), (5, ax_I x5), (6, ax_I x6), (7, ax_I x7)]) [0, 1, 2, 3, 4, 5, 6] rfl ?_
  exact StreamReader_readNumber_jq106 hcall B E Nm k5 hk5 x0 x1 x2 x4 x5 x6 x7 1 h
def StreamReader_readNumber_jn75 (call : ax_Cf) (k5 : Option Nat → Int32 → Int64 → Int32 → ax_Hp → ax_O) (x0 : Option Nat) (x1 : Int32) (x2 : Int64) (x4 : Int32) (x5 : Int32) (x6 : Int32) (s0 : Int32) (h : ax_Hp) : ax_O :=
  if (x4 + 7) ≤ x1 then
    StreamReader_readNumber_jn105 call k5 x0 x1 x2 x4 x5 x6 s0 h
  else
    if x6 = 0 then
      StreamReader_readNumber_jn101 call k5 x0 x1 x2 x4 x5 x6 s0 h
    else
      if (x5 >>> ((x1 - x4) &&& 31)) = 0 then
        StreamReader_readNumber_jn105 call k5 x0 x1 x2 x4 x5 x6 s0 h
      else
        StreamReader_readNumber_jn101 call k5 x0 x1 x2 x4 x5 x6 s0 h
set_option maxHeartbeats 4000000 in
set_option maxRecDepth 20000 in
theorem StreamReader_readNumber_jq75 {l : Launch} {G : ax_G} {d : Nat} {call : ax_Cf} (hcall : ax_Hc l G d call) {p : Program} {e : Env} {s : State} {mi : MethodId} {args : Array Value} {below : List Frame} {meth : Method} {c : Code} {h0 : ax_Hp} (B : ax_B G p s mi meth c "SchemaDesk$StreamReader" prog_8_method_7_code 9 (some (.boolean))) (E : c.exceptionTable.isEmpty = true) (Nm : meth.name = y_StreamReader_readNumber.name) (k5 : Option Nat → Int32 → Int64 → Int32 → ax_Hp → ax_O) (hk5 : ∀ (x0 : Option Nat) (x1 : Int32) (x2 : Int64) (x4 : Int32) (h : ax_Hp), ax_W G p l e s mi args below meth c 9 (d + 1) h0 5 [(0, ax_A x0), (1, ax_I x1), (2, ax_L x2), (4, ax_I x4)] [] h (k5 x0 x1 x2 x4 h)) (x0 : Option Nat) (x1 : Int32) (x2 : Int64) (x4 : Int32) (x5 : Int32) (x6 : Int32) (s0 : Int32) (h : ax_Hp) : ax_W G p l e s mi args below meth c 9 (d + 1) h0 75 [(0, ax_A x0), (1, ax_I x1), (2, ax_L x2), (4, ax_I x4), (5, ax_I x5), (6, ax_I x6)] [ax_I s0] h (StreamReader_readNumber_jn75 call k5 x0 x1 x2 x4 x5 x6 s0 h) := by
  unfold StreamReader_readNumber_jn75
  refine ax_istore (tv2 := [(7, ax_I s0), (0, ax_A x0), (1, ax_I x1), (2, ax_L x2), (4, ax_I x4), (5, ax_I x5), (6, ax_I x6)]) B d_StreamReader_readNumber_75 (by decide) rfl ?_
  refine ax_iload B 4 d_StreamReader_readNumber_77 rfl ?_
  refine ax_bipush (v := 7) B d_StreamReader_readNumber_79 (by decide) ?_
  refine ax_iadd B d_StreamReader_readNumber_81 ?_
  refine ax_iload_n B 2 d_StreamReader_readNumber_82 rfl rfl ?_
  refine ax_icmp_le B 105 d_StreamReader_readNumber_83 (by decide) ?_ ?_
  · refine ax_sub (tv2 := [(0, ax_A x0), (1, ax_I x1), (2, ax_L x2), (4, ax_I x4), (5, ax_I x5), (6, ax_I x6), (7, ax_I s0)]) [1, 2, 3, 4, 5, 6, 0] rfl ?_
    exact StreamReader_readNumber_jq105 hcall B E Nm k5 hk5 x0 x1 x2 x4 x5 x6 s0 h
  · refine ax_iload B 6 d_StreamReader_readNumber_86 rfl ?_
    refine ax_if_eq B 101 d_StreamReader_readNumber_88 (by decide) ?_ ?_
    · refine ax_sub (tv2 := [(0, ax_A x0), (1, ax_I x1), (2, ax_L x2), (4, ax_I x4), (5, ax_I x5), (6, ax_I x6), (7, ax_I s0)]) [1, 2, 3, 4, 5, 6, 0] rfl ?_
      exact StreamReader_readNumber_jq101 hcall B E Nm k5 hk5 x0 x1 x2 x4 x5 x6 s0 h
    · refine ax_iload B 5 d_StreamReader_readNumber_91 rfl ?_
      refine ax_iload_n B 2 d_StreamReader_readNumber_93 rfl rfl ?_
      refine ax_iload B 4 d_StreamReader_readNumber_94 rfl ?_
      refine ax_isub B d_StreamReader_readNumber_96 ?_
      refine ax_ishr B d_StreamReader_readNumber_97 ?_
      refine ax_if_eq B 105 d_StreamReader_readNumber_98 (by decide) ?_ ?_
      · refine ax_sub (tv2 := [(0, ax_A x0), (1, ax_I x1), (2, ax_L x2), (4, ax_I x4), (5, ax_I x5), (6, ax_I x6), (7, ax_I s0)]) [1, 2, 3, 4, 5, 6, 0] rfl ?_
        exact StreamReader_readNumber_jq105 hcall B E Nm k5 hk5 x0 x1 x2 x4 x5 x6 s0 h
      · refine ax_sub (tv2 := [(0, ax_A x0), (1, ax_I x1), (2, ax_L x2), (4, ax_I x4), (5, ax_I x5), (6, ax_I x6), (7, ax_I s0)]) [1, 2, 3, 4, 5, 6, 0] rfl ?_
        exact StreamReader_readNumber_jq101 hcall B E Nm k5 hk5 x0 x1 x2 x4 x5 x6 s0 h
def StreamReader_readNumber_jn74 (call : ax_Cf) (k5 : Option Nat → Int32 → Int64 → Int32 → ax_Hp → ax_O) (x0 : Option Nat) (x1 : Int32) (x2 : Int64) (x4 : Int32) (x5 : Int32) (x6 : Int32) (h : ax_Hp) : ax_O :=
  StreamReader_readNumber_jn75 call k5 x0 x1 x2 x4 x5 x6 0 h
set_option maxHeartbeats 4000000 in
set_option maxRecDepth 20000 in
theorem StreamReader_readNumber_jq74 {l : Launch} {G : ax_G} {d : Nat} {call : ax_Cf} (hcall : ax_Hc l G d call) {p : Program} {e : Env} {s : State} {mi : MethodId} {args : Array Value} {below : List Frame} {meth : Method} {c : Code} {h0 : ax_Hp} (B : ax_B G p s mi meth c "SchemaDesk$StreamReader" prog_8_method_7_code 9 (some (.boolean))) (E : c.exceptionTable.isEmpty = true) (Nm : meth.name = y_StreamReader_readNumber.name) (k5 : Option Nat → Int32 → Int64 → Int32 → ax_Hp → ax_O) (hk5 : ∀ (x0 : Option Nat) (x1 : Int32) (x2 : Int64) (x4 : Int32) (h : ax_Hp), ax_W G p l e s mi args below meth c 9 (d + 1) h0 5 [(0, ax_A x0), (1, ax_I x1), (2, ax_L x2), (4, ax_I x4)] [] h (k5 x0 x1 x2 x4 h)) (x0 : Option Nat) (x1 : Int32) (x2 : Int64) (x4 : Int32) (x5 : Int32) (x6 : Int32) (h : ax_Hp) : ax_W G p l e s mi args below meth c 9 (d + 1) h0 74 [(0, ax_A x0), (1, ax_I x1), (2, ax_L x2), (4, ax_I x4), (5, ax_I x5), (6, ax_I x6)] [] h (StreamReader_readNumber_jn74 call k5 x0 x1 x2 x4 x5 x6 h) := by
  unfold StreamReader_readNumber_jn74
  refine ax_iconst (v := 0) B d_StreamReader_readNumber_74 (by decide) ?_
  refine ax_sub (tv2 := [(0, ax_A x0), (1, ax_I x1), (2, ax_L x2), (4, ax_I x4), (5, ax_I x5), (6, ax_I x6)]) [0, 1, 2, 3, 4, 5] rfl ?_
  exact StreamReader_readNumber_jq75 hcall B E Nm k5 hk5 x0 x1 x2 x4 x5 x6 0 h
def StreamReader_readNumber_jn53 (call : ax_Cf) (k5 : Option Nat → Int32 → Int64 → Int32 → ax_Hp → ax_O) (x0 : Option Nat) (x1 : Int32) (x2 : Int64) (x4 : Int32) (x5 : Int32) (s0 : Int32) (h : ax_Hp) : ax_O :=
  if s0 = 0 then
    StreamReader_readNumber_jn74 call k5 x0 x1 x2 x4 x5 s0 h
  else
    if x5 = 0 then
      if x4 ≤ 0 then
        StreamReader_readNumber_jn74 call k5 x0 x1 x2 x4 x5 s0 h
      else
        StreamReader_readNumber_jn75 call k5 x0 x1 x2 x4 x5 s0 1 h
    else
      StreamReader_readNumber_jn74 call k5 x0 x1 x2 x4 x5 s0 h
set_option maxHeartbeats 4000000 in
set_option maxRecDepth 20000 in
theorem StreamReader_readNumber_jq53 {l : Launch} {G : ax_G} {d : Nat} {call : ax_Cf} (hcall : ax_Hc l G d call) {p : Program} {e : Env} {s : State} {mi : MethodId} {args : Array Value} {below : List Frame} {meth : Method} {c : Code} {h0 : ax_Hp} (B : ax_B G p s mi meth c "SchemaDesk$StreamReader" prog_8_method_7_code 9 (some (.boolean))) (E : c.exceptionTable.isEmpty = true) (Nm : meth.name = y_StreamReader_readNumber.name) (k5 : Option Nat → Int32 → Int64 → Int32 → ax_Hp → ax_O) (hk5 : ∀ (x0 : Option Nat) (x1 : Int32) (x2 : Int64) (x4 : Int32) (h : ax_Hp), ax_W G p l e s mi args below meth c 9 (d + 1) h0 5 [(0, ax_A x0), (1, ax_I x1), (2, ax_L x2), (4, ax_I x4)] [] h (k5 x0 x1 x2 x4 h)) (x0 : Option Nat) (x1 : Int32) (x2 : Int64) (x4 : Int32) (x5 : Int32) (s0 : Int32) (h : ax_Hp) : ax_W G p l e s mi args below meth c 9 (d + 1) h0 53 [(0, ax_A x0), (1, ax_I x1), (2, ax_L x2), (4, ax_I x4), (5, ax_I x5)] [ax_I s0] h (StreamReader_readNumber_jn53 call k5 x0 x1 x2 x4 x5 s0 h) := by
  unfold StreamReader_readNumber_jn53
  refine ax_istore (tv2 := [(6, ax_I s0), (0, ax_A x0), (1, ax_I x1), (2, ax_L x2), (4, ax_I x4), (5, ax_I x5)]) B d_StreamReader_readNumber_53 (by decide) rfl ?_
  refine ax_iload B 0 d_StreamReader_readNumber_55 rfl ?_
  refine ax_if_eq B 74 d_StreamReader_readNumber_57 (by decide) ?_ ?_
  · refine ax_sub (tv2 := [(0, ax_A x0), (1, ax_I x1), (2, ax_L x2), (4, ax_I x4), (5, ax_I x5), (6, ax_I s0)]) [1, 2, 3, 4, 5, 0] rfl ?_
    exact StreamReader_readNumber_jq74 hcall B E Nm k5 hk5 x0 x1 x2 x4 x5 s0 h
  · refine ax_iload B 5 d_StreamReader_readNumber_60 rfl ?_
    refine ax_if_ne B 74 d_StreamReader_readNumber_62 (by decide) ?_ ?_
    · refine ax_sub (tv2 := [(0, ax_A x0), (1, ax_I x1), (2, ax_L x2), (4, ax_I x4), (5, ax_I x5), (6, ax_I s0)]) [1, 2, 3, 4, 5, 0] rfl ?_
      exact StreamReader_readNumber_jq74 hcall B E Nm k5 hk5 x0 x1 x2 x4 x5 s0 h
    · refine ax_iload B 4 d_StreamReader_readNumber_65 rfl ?_
      refine ax_if_le B 74 d_StreamReader_readNumber_67 (by decide) ?_ ?_
      · refine ax_sub (tv2 := [(0, ax_A x0), (1, ax_I x1), (2, ax_L x2), (4, ax_I x4), (5, ax_I x5), (6, ax_I s0)]) [1, 2, 3, 4, 5, 0] rfl ?_
        exact StreamReader_readNumber_jq74 hcall B E Nm k5 hk5 x0 x1 x2 x4 x5 s0 h
      · refine ax_iconst (v := 1) B d_StreamReader_readNumber_70 (by decide) ?_
        refine ax_goto B 75 d_StreamReader_readNumber_71 (by decide) ?_
        refine ax_sub (tv2 := [(0, ax_A x0), (1, ax_I x1), (2, ax_L x2), (4, ax_I x4), (5, ax_I x5), (6, ax_I s0)]) [1, 2, 3, 4, 5, 0] rfl ?_
        exact StreamReader_readNumber_jq75 hcall B E Nm k5 hk5 x0 x1 x2 x4 x5 s0 1 h
def StreamReader_readNumber_bd5 (call : ax_Cf)  (k5 : Option Nat → Int32 → Int64 → Int32 → ax_Hp → ax_O) (x0 : Option Nat) (x1 : Int32) (x2 : Int64) (x4 : Int32) (h : ax_Hp) : ax_O :=
  if x1 ≤ x4 then
    ax_rz 0 h
  else
    (ax_gr h x0 5 0).bind fun v1 =>
    ax_on h v1 0 <| ax_ci (call 52 [ax_A v1] h) fun v3 h2 =>
    if v3 = 0 then
      (ax_gr h2 x0 5 0).bind fun v4 =>
      ax_on h2 v4 0 <| ax_ci (call 29 [ax_A v4] h2) fun v6 h5 =>
      (ax_gr h5 x0 5 0).bind fun v7 =>
      ax_on h5 v7 0 <| ax_ci (call 29 [ax_A v7] h5) fun v9 h8 =>
      if 128 ≤ v9 then
        StreamReader_readNumber_jn53 call k5 x0 x1 x2 x4 (v6 &&& 127) 0 h8
      else
        StreamReader_readNumber_jn53 call k5 x0 x1 x2 x4 (v6 &&& 127) 1 h8
    else
      ax_rz 0 h2
def StreamReader_readNumber_lp5 (call : ax_Cf)  : Nat → Option Nat → Int32 → Int64 → Int32 → ax_Hp → ax_O
  | 0 => fun _ _ _ _ _ => none
  | n + 1 => StreamReader_readNumber_bd5 call  (StreamReader_readNumber_lp5 call  n)
set_option maxHeartbeats 4000000 in
set_option maxRecDepth 20000 in
theorem StreamReader_readNumber_lb5 {l : Launch} {G : ax_G} {d : Nat} {call : ax_Cf} (hcall : ax_Hc l G d call) {p : Program} {e : Env} {s : State} {mi : MethodId} {args : Array Value} {below : List Frame} {meth : Method} {c : Code} {h0 : ax_Hp} (B : ax_B G p s mi meth c "SchemaDesk$StreamReader" prog_8_method_7_code 9 (some (.boolean))) (E : c.exceptionTable.isEmpty = true) (Nm : meth.name = y_StreamReader_readNumber.name)   {k5 : Option Nat → Int32 → Int64 → Int32 → ax_Hp → ax_O} (hk5 : ∀ (x0 : Option Nat) (x1 : Int32) (x2 : Int64) (x4 : Int32) (h : ax_Hp), ax_W G p l e s mi args below meth c 9 (d + 1) h0 5 [(0, ax_A x0), (1, ax_I x1), (2, ax_L x2), (4, ax_I x4)] [] h (k5 x0 x1 x2 x4 h)) (x0 : Option Nat) (x1 : Int32) (x2 : Int64) (x4 : Int32) (h : ax_Hp) : ax_W G p l e s mi args below meth c 9 (d + 1) h0 5 [(0, ax_A x0), (1, ax_I x1), (2, ax_L x2), (4, ax_I x4)] [] h (StreamReader_readNumber_bd5 call  k5 x0 x1 x2 x4 h) := by
  unfold StreamReader_readNumber_bd5
  refine ax_iload B 3 d_StreamReader_readNumber_5 rfl ?_
  refine ax_iload_n B 1 d_StreamReader_readNumber_7 rfl rfl ?_
  refine ax_icmp_ge B 161 d_StreamReader_readNumber_8 (by decide) ?_ ?_
  · refine ax_iconst (v := 0) B d_StreamReader_readNumber_161 (by decide) ?_
    exact ax_zreturn B d_StreamReader_readNumber_162
  · refine ax_aload_n B 0 d_StreamReader_readNumber_11 rfl rfl ?_
    refine ax_getfr B cl_StreamReader (by decide) fk_StreamReader_9 d_StreamReader_readNumber_12 (fun v1 => ?_)
    refine ax_callVi (av := []) (rest := []) B E hm_Cursor_isAtEnd cl_Cursor rfl wd_405 wd_406 lk_StreamReader_23 d_StreamReader_readNumber_15 rfl (Nat.le_of_ble_eq_true rfl) (fun _ _ hh => hcall 52 _ _ _ _ hh) (fun v3 h2 => ?_)
    refine ax_if_eq B 23 d_StreamReader_readNumber_18 (by decide) ?_ ?_
    · refine ax_aload_n B 0 d_StreamReader_readNumber_23 rfl rfl ?_
      refine ax_getfr B cl_StreamReader (by decide) fk_StreamReader_9 d_StreamReader_readNumber_24 (fun v4 => ?_)
      refine ax_callVi (av := []) (rest := []) B E hm_Cursor_peek cl_Cursor rfl wd_310 wd_311 lk_StreamReader_64 d_StreamReader_readNumber_27 rfl (Nat.le_of_ble_eq_true rfl) (fun _ _ hh => hcall 29 _ _ _ _ hh) (fun v6 h5 => ?_)
      refine ax_bipush (v := 127) B d_StreamReader_readNumber_30 (by decide) ?_
      refine ax_iand B d_StreamReader_readNumber_32 ?_
      refine ax_istore (tv2 := [(5, ax_I (v6 &&& 127)), (0, ax_A x0), (1, ax_I x1), (2, ax_L x2), (4, ax_I x4)]) B d_StreamReader_readNumber_33 (by decide) rfl ?_
      refine ax_aload_n B 1 d_StreamReader_readNumber_35 rfl rfl ?_
      refine ax_getfr B cl_StreamReader (by decide) fk_StreamReader_9 d_StreamReader_readNumber_36 (fun v7 => ?_)
      refine ax_callVi (av := []) (rest := []) B E hm_Cursor_peek cl_Cursor rfl wd_310 wd_311 lk_StreamReader_64 d_StreamReader_readNumber_39 rfl (Nat.le_of_ble_eq_true rfl) (fun _ _ hh => hcall 29 _ _ _ _ hh) (fun v9 h8 => ?_)
      refine ax_sipush (v := 128) B d_StreamReader_readNumber_42 (by decide) ?_
      refine ax_icmp_ge B 52 d_StreamReader_readNumber_45 (by decide) ?_ ?_
      · refine ax_iconst (v := 0) B d_StreamReader_readNumber_52 (by decide) ?_
        refine ax_sub (tv2 := [(0, ax_A x0), (1, ax_I x1), (2, ax_L x2), (4, ax_I x4), (5, ax_I (v6 &&& 127))]) [1, 2, 3, 4, 0] rfl ?_
        exact StreamReader_readNumber_jq53 hcall B E Nm k5 hk5 x0 x1 x2 x4 (v6 &&& 127) 0 h8
      · refine ax_iconst (v := 1) B d_StreamReader_readNumber_48 (by decide) ?_
        refine ax_goto B 53 d_StreamReader_readNumber_49 (by decide) ?_
        refine ax_sub (tv2 := [(0, ax_A x0), (1, ax_I x1), (2, ax_L x2), (4, ax_I x4), (5, ax_I (v6 &&& 127))]) [1, 2, 3, 4, 0] rfl ?_
        exact StreamReader_readNumber_jq53 hcall B E Nm k5 hk5 x0 x1 x2 x4 (v6 &&& 127) 1 h8
    · refine ax_iconst (v := 0) B d_StreamReader_readNumber_21 (by decide) ?_
      exact ax_zreturn B d_StreamReader_readNumber_22
theorem StreamReader_readNumber_lq5 {l : Launch} {G : ax_G} {d : Nat} {call : ax_Cf} (hcall : ax_Hc l G d call) {p : Program} {e : Env} {s : State} {mi : MethodId} {args : Array Value} {below : List Frame} {meth : Method} {c : Code} {h0 : ax_Hp} (B : ax_B G p s mi meth c "SchemaDesk$StreamReader" prog_8_method_7_code 9 (some (.boolean))) (E : c.exceptionTable.isEmpty = true) (Nm : meth.name = y_StreamReader_readNumber.name)   : ∀ (n : Nat) (x0 : Option Nat) (x1 : Int32) (x2 : Int64) (x4 : Int32) (h : ax_Hp), ax_W G p l e s mi args below meth c 9 (d + 1) h0 5 [(0, ax_A x0), (1, ax_I x1), (2, ax_L x2), (4, ax_I x4)] [] h (StreamReader_readNumber_lp5 call  n x0 x1 x2 x4 h)
  | 0, _, _, _, _, _ => ax_none
  | n + 1, x0, x1, x2, x4, h => StreamReader_readNumber_lb5 hcall B E Nm   (StreamReader_readNumber_lq5 hcall B E Nm   n) x0 x1 x2 x4 h
def StreamReader_readNumber_b (call : ax_Cf) (x0 : Option Nat) (x1 : Int32) (h : ax_Hp) : ax_O :=
  StreamReader_readNumber_lp5 call ax_fuel x0 x1 0 0 h
set_option maxHeartbeats 4000000 in
set_option maxRecDepth 20000 in
theorem StreamReader_readNumber_t {l : Launch} {G : ax_G} {d : Nat} {call : ax_Cf} (hcall : ax_Hc l G d call) (x0 : Option Nat) (x1 : Int32) (h : ax_Hp) {r : ax_Rs} {h' : ax_Hp} (ho : StreamReader_readNumber_b call x0 x1 h = some (r, h')) : ax_C l G (d + 1) y_StreamReader_readNumber (.code y_StreamReader_readNumber prog_8_method_7_code 9 (some (.boolean))) [ax_A x0, ax_I x1] h r h' := by
  refine ax_enter (by decide) (Nat.le_of_ble_eq_true rfl) ho (fun p e s mi args below meth c B E Nm => ?_)
  have B : ax_B G p s mi meth c "SchemaDesk$StreamReader" prog_8_method_7_code 9 (some (.boolean)) := B
  show ax_W G p l e s mi args below meth c 9 (d + 1) h 0 [(0, ax_A x0), (1, ax_I x1)] [] h (StreamReader_readNumber_b call x0 x1 h)
  unfold StreamReader_readNumber_b
  refine ax_lconst (v := 0) B d_StreamReader_readNumber_0 (by decide) ?_
  refine ax_lstore_n (tv2 := [(2, ax_L 0), (0, ax_A x0), (1, ax_I x1)]) B d_StreamReader_readNumber_1 rfl (by decide) rfl ?_
  refine ax_iconst (v := 0) B d_StreamReader_readNumber_2 (by decide) ?_
  refine ax_istore (tv2 := [(4, ax_I 0), (2, ax_L 0), (0, ax_A x0), (1, ax_I x1)]) B d_StreamReader_readNumber_3 (by decide) rfl ?_
  refine ax_sub (tv2 := [(0, ax_A x0), (1, ax_I x1), (2, ax_L 0), (4, ax_I 0)]) [2, 3, 1, 0] rfl ?_
  exact StreamReader_readNumber_lq5 hcall B E Nm ax_fuel x0 x1 0 0 h

theorem d_StreamReader_skipString_0 : decode prog_8_method_11_code 0 = .ok (.aload_n 0, 1) := by decide +kernel
theorem d_StreamReader_skipString_1 : decode prog_8_method_11_code 1 = .ok (.bipush 12, 2) := by decide +kernel
theorem d_StreamReader_skipString_3 : decode prog_8_method_11_code 3 = .ok (.invokevirtual 52, 3) := by decide +kernel
theorem d_StreamReader_skipString_6 : decode prog_8_method_11_code 6 = .ok (.ifCond .ne 5, 3) := by decide +kernel
theorem d_StreamReader_skipString_9 : decode prog_8_method_11_code 9 = .ok (.iconst 0, 1) := by decide +kernel
theorem d_StreamReader_skipString_10 : decode prog_8_method_11_code 10 = .ok (.ireturn, 1) := by decide +kernel
theorem d_StreamReader_skipString_11 : decode prog_8_method_11_code 11 = .ok (.aload_n 0, 1) := by decide +kernel
theorem d_StreamReader_skipString_12 : decode prog_8_method_11_code 12 = .ok (.getfield 29, 3) := by decide +kernel
theorem d_StreamReader_skipString_15 : decode prog_8_method_11_code 15 = .ok (.l2i, 1) := by decide +kernel
theorem d_StreamReader_skipString_16 : decode prog_8_method_11_code 16 = .ok (.istore_n 1, 1) := by decide +kernel
theorem d_StreamReader_skipString_17 : decode prog_8_method_11_code 17 = .ok (.iconst 0, 1) := by decide +kernel
theorem d_StreamReader_skipString_18 : decode prog_8_method_11_code 18 = .ok (.istore_n 2, 1) := by decide +kernel
theorem d_StreamReader_skipString_19 : decode prog_8_method_11_code 19 = .ok (.iload_n 2, 1) := by decide +kernel
theorem d_StreamReader_skipString_20 : decode prog_8_method_11_code 20 = .ok (.iload_n 1, 1) := by decide +kernel
theorem d_StreamReader_skipString_21 : decode prog_8_method_11_code 21 = .ok (.if_icmp .ge 18, 3) := by decide +kernel
theorem d_StreamReader_skipString_24 : decode prog_8_method_11_code 24 = .ok (.aload_n 0, 1) := by decide +kernel
theorem d_StreamReader_skipString_25 : decode prog_8_method_11_code 25 = .ok (.invokevirtual 84, 3) := by decide +kernel
theorem d_StreamReader_skipString_28 : decode prog_8_method_11_code 28 = .ok (.ifCond .ne 5, 3) := by decide +kernel
theorem d_StreamReader_skipString_31 : decode prog_8_method_11_code 31 = .ok (.iconst 0, 1) := by decide +kernel
theorem d_StreamReader_skipString_32 : decode prog_8_method_11_code 32 = .ok (.ireturn, 1) := by decide +kernel
theorem d_StreamReader_skipString_33 : decode prog_8_method_11_code 33 = .ok (.iinc 2 1, 3) := by decide +kernel
theorem d_StreamReader_skipString_36 : decode prog_8_method_11_code 36 = .ok (.goto (-17), 3) := by decide +kernel
theorem d_StreamReader_skipString_39 : decode prog_8_method_11_code 39 = .ok (.iconst 1, 1) := by decide +kernel
theorem d_StreamReader_skipString_40 : decode prog_8_method_11_code 40 = .ok (.ireturn, 1) := by decide +kernel
def StreamReader_skipString_bd19 (call : ax_Cf)  (k19 : Option Nat → Int32 → Int32 → ax_Hp → ax_O) (x0 : Option Nat) (x1 : Int32) (x2 : Int32) (h : ax_Hp) : ax_O :=
  if x1 ≤ x2 then
    ax_rz 1 h
  else
    ax_on h x0 5 <| ax_ci (call 116 [ax_A x0] h) fun v5 h4 =>
    if v5 = 0 then
      ax_rz 0 h4
    else
      k19 x0 x1 (x2 + 1) h4
def StreamReader_skipString_lp19 (call : ax_Cf)  : Nat → Option Nat → Int32 → Int32 → ax_Hp → ax_O
  | 0 => fun _ _ _ _ => none
  | n + 1 => StreamReader_skipString_bd19 call  (StreamReader_skipString_lp19 call  n)
set_option maxHeartbeats 4000000 in
set_option maxRecDepth 20000 in
theorem StreamReader_skipString_lb19 {l : Launch} {G : ax_G} {d : Nat} {call : ax_Cf} (hcall : ax_Hc l G d call) {p : Program} {e : Env} {s : State} {mi : MethodId} {args : Array Value} {below : List Frame} {meth : Method} {c : Code} {h0 : ax_Hp} (B : ax_B G p s mi meth c "SchemaDesk$StreamReader" prog_8_method_11_code 3 (some (.boolean))) (E : c.exceptionTable.isEmpty = true) (Nm : meth.name = y_StreamReader_skipString.name)   {k19 : Option Nat → Int32 → Int32 → ax_Hp → ax_O} (hk19 : ∀ (x0 : Option Nat) (x1 : Int32) (x2 : Int32) (h : ax_Hp), ax_W G p l e s mi args below meth c 3 (d + 1) h0 19 [(0, ax_A x0), (1, ax_I x1), (2, ax_I x2)] [] h (k19 x0 x1 x2 h)) (x0 : Option Nat) (x1 : Int32) (x2 : Int32) (h : ax_Hp) : ax_W G p l e s mi args below meth c 3 (d + 1) h0 19 [(0, ax_A x0), (1, ax_I x1), (2, ax_I x2)] [] h (StreamReader_skipString_bd19 call  k19 x0 x1 x2 h) := by
  unfold StreamReader_skipString_bd19
  refine ax_iload_n B 2 d_StreamReader_skipString_19 rfl rfl ?_
  refine ax_iload_n B 1 d_StreamReader_skipString_20 rfl rfl ?_
  refine ax_icmp_ge B 39 d_StreamReader_skipString_21 (by decide) ?_ ?_
  · refine ax_iconst (v := 1) B d_StreamReader_skipString_39 (by decide) ?_
    exact ax_zreturn B d_StreamReader_skipString_40
  · refine ax_aload_n B 0 d_StreamReader_skipString_24 rfl rfl ?_
    refine ax_callVi (av := []) (rest := []) B E hm_StreamReader_readStringCharacter cl_StreamReader rfl wd_716 wd_717 lk_StreamReader_84 d_StreamReader_skipString_25 rfl (Nat.le_of_ble_eq_true rfl) (fun _ _ hh => hcall 116 _ _ _ _ hh) (fun v5 h4 => ?_)
    refine ax_if_ne B 33 d_StreamReader_skipString_28 (by decide) ?_ ?_
    · refine ax_iinc (v := x2 + 1) (tv2 := [(2, ax_I (x2 + 1)), (0, ax_A x0), (1, ax_I x1)]) B 2 d_StreamReader_skipString_33 rfl (congrArg (_ + ·) (by decide)) (by decide) rfl ?_
      refine ax_goto B 19 d_StreamReader_skipString_36 (by decide) ?_
      refine ax_sub (tv2 := [(0, ax_A x0), (1, ax_I x1), (2, ax_I (x2 + 1))]) [1, 2, 0] rfl ?_
      exact hk19 x0 x1 (x2 + 1) h4
    · refine ax_iconst (v := 0) B d_StreamReader_skipString_31 (by decide) ?_
      exact ax_zreturn B d_StreamReader_skipString_32
theorem StreamReader_skipString_lq19 {l : Launch} {G : ax_G} {d : Nat} {call : ax_Cf} (hcall : ax_Hc l G d call) {p : Program} {e : Env} {s : State} {mi : MethodId} {args : Array Value} {below : List Frame} {meth : Method} {c : Code} {h0 : ax_Hp} (B : ax_B G p s mi meth c "SchemaDesk$StreamReader" prog_8_method_11_code 3 (some (.boolean))) (E : c.exceptionTable.isEmpty = true) (Nm : meth.name = y_StreamReader_skipString.name)   : ∀ (n : Nat) (x0 : Option Nat) (x1 : Int32) (x2 : Int32) (h : ax_Hp), ax_W G p l e s mi args below meth c 3 (d + 1) h0 19 [(0, ax_A x0), (1, ax_I x1), (2, ax_I x2)] [] h (StreamReader_skipString_lp19 call  n x0 x1 x2 h)
  | 0, _, _, _, _ => ax_none
  | n + 1, x0, x1, x2, h => StreamReader_skipString_lb19 hcall B E Nm   (StreamReader_skipString_lq19 hcall B E Nm   n) x0 x1 x2 h
def StreamReader_skipString_b (call : ax_Cf) (x0 : Option Nat) (h : ax_Hp) : ax_O :=
  ax_on h x0 5 <| ax_ci (call 115 [ax_A x0, ax_I 12] h) fun v2 h1 =>
  if v2 = 0 then
    ax_rz 0 h1
  else
    (ax_gl h1 x0 5 2).bind fun v3 =>
    StreamReader_skipString_lp19 call ax_fuel x0 (v3.toInt32) 0 h1
set_option maxHeartbeats 4000000 in
set_option maxRecDepth 20000 in
theorem StreamReader_skipString_t {l : Launch} {G : ax_G} {d : Nat} {call : ax_Cf} (hcall : ax_Hc l G d call) (x0 : Option Nat) (h : ax_Hp) {r : ax_Rs} {h' : ax_Hp} (ho : StreamReader_skipString_b call x0 h = some (r, h')) : ax_C l G (d + 1) y_StreamReader_skipString (.code y_StreamReader_skipString prog_8_method_11_code 3 (some (.boolean))) [ax_A x0] h r h' := by
  refine ax_enter (by decide) (Nat.le_of_ble_eq_true rfl) ho (fun p e s mi args below meth c B E Nm => ?_)
  have B : ax_B G p s mi meth c "SchemaDesk$StreamReader" prog_8_method_11_code 3 (some (.boolean)) := B
  show ax_W G p l e s mi args below meth c 3 (d + 1) h 0 [(0, ax_A x0)] [] h (StreamReader_skipString_b call x0 h)
  unfold StreamReader_skipString_b
  refine ax_aload_n B 0 d_StreamReader_skipString_0 rfl rfl ?_
  refine ax_bipush (v := 12) B d_StreamReader_skipString_1 (by decide) ?_
  refine ax_callVi (av := [ax_I 12]) (rest := []) B E hm_StreamReader_readCount cl_StreamReader rfl wd_712 wd_713 lk_StreamReader_52 d_StreamReader_skipString_3 rfl (Nat.le_of_ble_eq_true rfl) (fun _ _ hh => hcall 115 _ _ _ _ hh) (fun v2 h1 => ?_)
  refine ax_if_ne B 11 d_StreamReader_skipString_6 (by decide) ?_ ?_
  · refine ax_aload_n B 0 d_StreamReader_skipString_11 rfl rfl ?_
    refine ax_getfl B cl_StreamReader (by decide) fk_StreamReader_29 d_StreamReader_skipString_12 (fun v3 => ?_)
    refine ax_l2i B d_StreamReader_skipString_15 ?_
    refine ax_istore_n (tv2 := [(1, ax_I (v3.toInt32)), (0, ax_A x0)]) B d_StreamReader_skipString_16 rfl (by decide) rfl ?_
    refine ax_iconst (v := 0) B d_StreamReader_skipString_17 (by decide) ?_
    refine ax_istore_n (tv2 := [(2, ax_I 0), (1, ax_I (v3.toInt32)), (0, ax_A x0)]) B d_StreamReader_skipString_18 rfl (by decide) rfl ?_
    refine ax_sub (tv2 := [(0, ax_A x0), (1, ax_I (v3.toInt32)), (2, ax_I 0)]) [2, 1, 0] rfl ?_
    exact StreamReader_skipString_lq19 hcall B E Nm ax_fuel x0 (v3.toInt32) 0 h1
  · refine ax_iconst (v := 0) B d_StreamReader_skipString_9 (by decide) ?_
    exact ax_zreturn B d_StreamReader_skipString_10

theorem d_StreamReader_readCount_0 : decode prog_8_method_8_code 0 = .ok (.aload_n 0, 1) := by decide +kernel
theorem d_StreamReader_readCount_1 : decode prog_8_method_8_code 1 = .ok (.getfield 9, 3) := by decide +kernel
theorem d_StreamReader_readCount_4 : decode prog_8_method_8_code 4 = .ok (.invokevirtual 64, 3) := by decide +kernel
theorem d_StreamReader_readCount_7 : decode prog_8_method_8_code 7 = .ok (.istore_n 2, 1) := by decide +kernel
theorem d_StreamReader_readCount_8 : decode prog_8_method_8_code 8 = .ok (.iload_n 2, 1) := by decide +kernel
theorem d_StreamReader_readCount_9 : decode prog_8_method_8_code 9 = .ok (.ifCond .lt 16, 3) := by decide +kernel
theorem d_StreamReader_readCount_12 : decode prog_8_method_8_code 12 = .ok (.iload_n 2, 1) := by decide +kernel
theorem d_StreamReader_readCount_13 : decode prog_8_method_8_code 13 = .ok (.iconst 2, 1) := by decide +kernel
theorem d_StreamReader_readCount_14 : decode prog_8_method_8_code 14 = .ok (.irem, 1) := by decide +kernel
theorem d_StreamReader_readCount_15 : decode prog_8_method_8_code 15 = .ok (.ifCond .ne 10, 3) := by decide +kernel
theorem d_StreamReader_readCount_18 : decode prog_8_method_8_code 18 = .ok (.iload_n 2, 1) := by decide +kernel
theorem d_StreamReader_readCount_19 : decode prog_8_method_8_code 19 = .ok (.iconst 2, 1) := by decide +kernel
theorem d_StreamReader_readCount_20 : decode prog_8_method_8_code 20 = .ok (.idiv, 1) := by decide +kernel
theorem d_StreamReader_readCount_21 : decode prog_8_method_8_code 21 = .ok (.iload_n 1, 1) := by decide +kernel
theorem d_StreamReader_readCount_22 : decode prog_8_method_8_code 22 = .ok (.if_icmp .le 5, 3) := by decide +kernel
theorem d_StreamReader_readCount_25 : decode prog_8_method_8_code 25 = .ok (.iconst 0, 1) := by decide +kernel
theorem d_StreamReader_readCount_26 : decode prog_8_method_8_code 26 = .ok (.ireturn, 1) := by decide +kernel
theorem d_StreamReader_readCount_27 : decode prog_8_method_8_code 27 = .ok (.aload_n 0, 1) := by decide +kernel
theorem d_StreamReader_readCount_28 : decode prog_8_method_8_code 28 = .ok (.getfield 9, 3) := by decide +kernel
theorem d_StreamReader_readCount_31 : decode prog_8_method_8_code 31 = .ok (.invokevirtual 71, 3) := by decide +kernel
theorem d_StreamReader_readCount_34 : decode prog_8_method_8_code 34 = .ok (.aload_n 0, 1) := by decide +kernel
theorem d_StreamReader_readCount_35 : decode prog_8_method_8_code 35 = .ok (.iload_n 2, 1) := by decide +kernel
theorem d_StreamReader_readCount_36 : decode prog_8_method_8_code 36 = .ok (.iconst 2, 1) := by decide +kernel
theorem d_StreamReader_readCount_37 : decode prog_8_method_8_code 37 = .ok (.idiv, 1) := by decide +kernel
theorem d_StreamReader_readCount_38 : decode prog_8_method_8_code 38 = .ok (.i2l, 1) := by decide +kernel
theorem d_StreamReader_readCount_39 : decode prog_8_method_8_code 39 = .ok (.putfield 29, 3) := by decide +kernel
theorem d_StreamReader_readCount_42 : decode prog_8_method_8_code 42 = .ok (.iconst 1, 1) := by decide +kernel
theorem d_StreamReader_readCount_43 : decode prog_8_method_8_code 43 = .ok (.ireturn, 1) := by decide +kernel
def StreamReader_readCount_b (call : ax_Cf) (x0 : Option Nat) (x1 : Int32) (h : ax_Hp) : ax_O :=
  (ax_gr h x0 5 0).bind fun v1 =>
  ax_on h v1 0 <| ax_ci (call 29 [ax_A v1] h) fun v3 h2 =>
  if v3 < 0 then
    ax_rz 0 h2
  else
    ax_nz 2 <|
    if (v3 - v3 / 2 * 2) = 0 then
      ax_nz 2 <|
      if (v3 / 2) ≤ x1 then
        (ax_gr h2 x0 5 0).bind fun v4 =>
        ax_on h2 v4 0 <| ax_cv (call 34 [ax_A v4] h2) fun h5 =>
        ax_nz 2 <|
        (ax_pf h5 x0 5 2 (ax_L ((v3 / 2).toInt64))).bind fun h7 =>
        ax_rz 1 h7
      else
        ax_rz 0 h2
    else
      ax_rz 0 h2
set_option maxHeartbeats 4000000 in
set_option maxRecDepth 20000 in
theorem StreamReader_readCount_t {l : Launch} {G : ax_G} {d : Nat} {call : ax_Cf} (hcall : ax_Hc l G d call) (x0 : Option Nat) (x1 : Int32) (h : ax_Hp) {r : ax_Rs} {h' : ax_Hp} (ho : StreamReader_readCount_b call x0 x1 h = some (r, h')) : ax_C l G (d + 1) y_StreamReader_readCount (.code y_StreamReader_readCount prog_8_method_8_code 3 (some (.boolean))) [ax_A x0, ax_I x1] h r h' := by
  refine ax_enter (by decide) (Nat.le_of_ble_eq_true rfl) ho (fun p e s mi args below meth c B E Nm => ?_)
  have B : ax_B G p s mi meth c "SchemaDesk$StreamReader" prog_8_method_8_code 3 (some (.boolean)) := B
  show ax_W G p l e s mi args below meth c 3 (d + 1) h 0 [(0, ax_A x0), (1, ax_I x1)] [] h (StreamReader_readCount_b call x0 x1 h)
  unfold StreamReader_readCount_b
  refine ax_aload_n B 0 d_StreamReader_readCount_0 rfl rfl ?_
  refine ax_getfr B cl_StreamReader (by decide) fk_StreamReader_9 d_StreamReader_readCount_1 (fun v1 => ?_)
  refine ax_callVi (av := []) (rest := []) B E hm_Cursor_peek cl_Cursor rfl wd_310 wd_311 lk_StreamReader_64 d_StreamReader_readCount_4 rfl (Nat.le_of_ble_eq_true rfl) (fun _ _ hh => hcall 29 _ _ _ _ hh) (fun v3 h2 => ?_)
  refine ax_istore_n (tv2 := [(2, ax_I v3), (0, ax_A x0), (1, ax_I x1)]) B d_StreamReader_readCount_7 rfl (by decide) rfl ?_
  refine ax_iload_n B 0 d_StreamReader_readCount_8 rfl rfl ?_
  refine ax_if_lt B 25 d_StreamReader_readCount_9 (by decide) ?_ ?_
  · refine ax_iconst (v := 0) B d_StreamReader_readCount_25 (by decide) ?_
    exact ax_zreturn B d_StreamReader_readCount_26
  · refine ax_iload_n B 0 d_StreamReader_readCount_12 rfl rfl ?_
    refine ax_iconst (v := 2) B d_StreamReader_readCount_13 (by decide) ?_
    refine ax_irem B d_StreamReader_readCount_14 ?_
    refine ax_if_ne B 25 d_StreamReader_readCount_15 (by decide) ?_ ?_
    · refine ax_iconst (v := 0) B d_StreamReader_readCount_25 (by decide) ?_
      exact ax_zreturn B d_StreamReader_readCount_26
    · refine ax_iload_n B 0 d_StreamReader_readCount_18 rfl rfl ?_
      refine ax_iconst (v := 2) B d_StreamReader_readCount_19 (by decide) ?_
      refine ax_idiv B d_StreamReader_readCount_20 ?_
      refine ax_iload_n B 2 d_StreamReader_readCount_21 rfl rfl ?_
      refine ax_icmp_le B 27 d_StreamReader_readCount_22 (by decide) ?_ ?_
      · refine ax_aload_n B 1 d_StreamReader_readCount_27 rfl rfl ?_
        refine ax_getfr B cl_StreamReader (by decide) fk_StreamReader_9 d_StreamReader_readCount_28 (fun v4 => ?_)
        refine ax_callVv (av := []) (rest := []) B E hm_Cursor_step cl_Cursor rfl wd_328 wd_329 lk_StreamReader_71 d_StreamReader_readCount_31 rfl (Nat.le_of_ble_eq_true rfl) (fun _ _ hh => hcall 34 _ _ _ _ hh) (fun h5 => ?_)
        refine ax_aload_n B 1 d_StreamReader_readCount_34 rfl rfl ?_
        refine ax_iload_n B 0 d_StreamReader_readCount_35 rfl rfl ?_
        refine ax_iconst (v := 2) B d_StreamReader_readCount_36 (by decide) ?_
        refine ax_idiv B d_StreamReader_readCount_37 ?_
        refine ax_i2l B d_StreamReader_readCount_38 ?_
        refine ax_putf (v := ax_L ((v3 / 2).toInt64)) B cl_StreamReader (by decide) fk_StreamReader_29 (Or.inl rfl) (fun _ => rfl) (fun _ => rfl) d_StreamReader_readCount_39 (fun h7 => ?_)
        refine ax_iconst (v := 1) B d_StreamReader_readCount_42 (by decide) ?_
        exact ax_zreturn B d_StreamReader_readCount_43
      · refine ax_iconst (v := 0) B d_StreamReader_readCount_25 (by decide) ?_
        exact ax_zreturn B d_StreamReader_readCount_26

theorem d_StreamReader_readStringCharacter_0 : decode prog_8_method_10_code 0 = .ok (.aload_n 0, 1) := by decide +kernel
theorem d_StreamReader_readStringCharacter_1 : decode prog_8_method_10_code 1 = .ok (.getfield 9, 3) := by decide +kernel
theorem d_StreamReader_readStringCharacter_4 : decode prog_8_method_10_code 4 = .ok (.invokevirtual 64, 3) := by decide +kernel
theorem d_StreamReader_readStringCharacter_7 : decode prog_8_method_10_code 7 = .ok (.istore_n 1, 1) := by decide +kernel
theorem d_StreamReader_readStringCharacter_8 : decode prog_8_method_10_code 8 = .ok (.iload_n 1, 1) := by decide +kernel
theorem d_StreamReader_readStringCharacter_9 : decode prog_8_method_10_code 9 = .ok (.invokestatic 81, 3) := by decide +kernel
theorem d_StreamReader_readStringCharacter_12 : decode prog_8_method_10_code 12 = .ok (.ifCond .eq 9, 3) := by decide +kernel
theorem d_StreamReader_readStringCharacter_15 : decode prog_8_method_10_code 15 = .ok (.iload_n 1, 1) := by decide +kernel
theorem d_StreamReader_readStringCharacter_16 : decode prog_8_method_10_code 16 = .ok (.bipush 34, 2) := by decide +kernel
theorem d_StreamReader_readStringCharacter_18 : decode prog_8_method_10_code 18 = .ok (.if_icmp .ne 5, 3) := by decide +kernel
theorem d_StreamReader_readStringCharacter_21 : decode prog_8_method_10_code 21 = .ok (.iconst 0, 1) := by decide +kernel
theorem d_StreamReader_readStringCharacter_22 : decode prog_8_method_10_code 22 = .ok (.ireturn, 1) := by decide +kernel
theorem d_StreamReader_readStringCharacter_23 : decode prog_8_method_10_code 23 = .ok (.aload_n 0, 1) := by decide +kernel
theorem d_StreamReader_readStringCharacter_24 : decode prog_8_method_10_code 24 = .ok (.getfield 9, 3) := by decide +kernel
theorem d_StreamReader_readStringCharacter_27 : decode prog_8_method_10_code 27 = .ok (.invokevirtual 71, 3) := by decide +kernel
theorem d_StreamReader_readStringCharacter_30 : decode prog_8_method_10_code 30 = .ok (.aload_n 0, 1) := by decide +kernel
theorem d_StreamReader_readStringCharacter_31 : decode prog_8_method_10_code 31 = .ok (.iload_n 1, 1) := by decide +kernel
theorem d_StreamReader_readStringCharacter_32 : decode prog_8_method_10_code 32 = .ok (.i2l, 1) := by decide +kernel
theorem d_StreamReader_readStringCharacter_33 : decode prog_8_method_10_code 33 = .ok (.putfield 29, 3) := by decide +kernel
theorem d_StreamReader_readStringCharacter_36 : decode prog_8_method_10_code 36 = .ok (.iconst 1, 1) := by decide +kernel
theorem d_StreamReader_readStringCharacter_37 : decode prog_8_method_10_code 37 = .ok (.ireturn, 1) := by decide +kernel
def StreamReader_readStringCharacter_b (call : ax_Cf) (x0 : Option Nat) (h : ax_Hp) : ax_O :=
  (ax_gr h x0 5 0).bind fun v1 =>
  ax_on h v1 0 <| ax_ci (call 29 [ax_A v1] h) fun v3 h2 =>
  ax_ci (call 6 [ax_I v3] h2) fun v5 h4 =>
  if v5 = 0 then
    ax_rz 0 h4
  else
    if v3 = 34 then
      ax_rz 0 h4
    else
      (ax_gr h4 x0 5 0).bind fun v6 =>
      ax_on h4 v6 0 <| ax_cv (call 34 [ax_A v6] h4) fun h7 =>
      (ax_pf h7 x0 5 2 (ax_L (v3.toInt64))).bind fun h9 =>
      ax_rz 1 h9
set_option maxHeartbeats 4000000 in
set_option maxRecDepth 20000 in
theorem StreamReader_readStringCharacter_t {l : Launch} {G : ax_G} {d : Nat} {call : ax_Cf} (hcall : ax_Hc l G d call) (x0 : Option Nat) (h : ax_Hp) {r : ax_Rs} {h' : ax_Hp} (ho : StreamReader_readStringCharacter_b call x0 h = some (r, h')) : ax_C l G (d + 1) y_StreamReader_readStringCharacter (.code y_StreamReader_readStringCharacter prog_8_method_10_code 2 (some (.boolean))) [ax_A x0] h r h' := by
  refine ax_enter (by decide) (Nat.le_of_ble_eq_true rfl) ho (fun p e s mi args below meth c B E Nm => ?_)
  have B : ax_B G p s mi meth c "SchemaDesk$StreamReader" prog_8_method_10_code 2 (some (.boolean)) := B
  show ax_W G p l e s mi args below meth c 2 (d + 1) h 0 [(0, ax_A x0)] [] h (StreamReader_readStringCharacter_b call x0 h)
  unfold StreamReader_readStringCharacter_b
  refine ax_aload_n B 0 d_StreamReader_readStringCharacter_0 rfl rfl ?_
  refine ax_getfr B cl_StreamReader (by decide) fk_StreamReader_9 d_StreamReader_readStringCharacter_1 (fun v1 => ?_)
  refine ax_callVi (av := []) (rest := []) B E hm_Cursor_peek cl_Cursor rfl wd_310 wd_311 lk_StreamReader_64 d_StreamReader_readStringCharacter_4 rfl (Nat.le_of_ble_eq_true rfl) (fun _ _ hh => hcall 29 _ _ _ _ hh) (fun v3 h2 => ?_)
  refine ax_istore_n (tv2 := [(1, ax_I v3), (0, ax_A x0)]) B d_StreamReader_readStringCharacter_7 rfl (by decide) rfl ?_
  refine ax_iload_n B 0 d_StreamReader_readStringCharacter_8 rfl rfl ?_
  refine ax_callSi (av := [ax_I v3]) (rest := []) B E hm_Desk_isCharacter wd_116 lk_StreamReader_81 d_StreamReader_readStringCharacter_9 rfl (Nat.le_of_ble_eq_true rfl) (fun _ _ hh => hcall 6 _ _ _ _ hh) (fun v5 h4 => ?_)
  refine ax_if_eq B 21 d_StreamReader_readStringCharacter_12 (by decide) ?_ ?_
  · refine ax_iconst (v := 0) B d_StreamReader_readStringCharacter_21 (by decide) ?_
    exact ax_zreturn B d_StreamReader_readStringCharacter_22
  · refine ax_iload_n B 0 d_StreamReader_readStringCharacter_15 rfl rfl ?_
    refine ax_bipush (v := 34) B d_StreamReader_readStringCharacter_16 (by decide) ?_
    refine ax_icmp_ne B 23 d_StreamReader_readStringCharacter_18 (by decide) ?_ ?_
    · refine ax_aload_n B 1 d_StreamReader_readStringCharacter_23 rfl rfl ?_
      refine ax_getfr B cl_StreamReader (by decide) fk_StreamReader_9 d_StreamReader_readStringCharacter_24 (fun v6 => ?_)
      refine ax_callVv (av := []) (rest := []) B E hm_Cursor_step cl_Cursor rfl wd_328 wd_329 lk_StreamReader_71 d_StreamReader_readStringCharacter_27 rfl (Nat.le_of_ble_eq_true rfl) (fun _ _ hh => hcall 34 _ _ _ _ hh) (fun h7 => ?_)
      refine ax_aload_n B 1 d_StreamReader_readStringCharacter_30 rfl rfl ?_
      refine ax_iload_n B 0 d_StreamReader_readStringCharacter_31 rfl rfl ?_
      refine ax_i2l B d_StreamReader_readStringCharacter_32 ?_
      refine ax_putf (v := ax_L (v3.toInt64)) B cl_StreamReader (by decide) fk_StreamReader_29 (Or.inl rfl) (fun _ => rfl) (fun _ => rfl) d_StreamReader_readStringCharacter_33 (fun h9 => ?_)
      refine ax_iconst (v := 1) B d_StreamReader_readStringCharacter_36 (by decide) ?_
      exact ax_zreturn B d_StreamReader_readStringCharacter_37
    · refine ax_iconst (v := 0) B d_StreamReader_readStringCharacter_21 (by decide) ?_
      exact ax_zreturn B d_StreamReader_readStringCharacter_22

theorem d_StreamReader_skipElements_0 : decode prog_8_method_12_code 0 = .ok (.bipush 20, 2) := by decide +kernel
theorem d_StreamReader_skipElements_2 : decode prog_8_method_12_code 2 = .ok (.istore_n 3, 1) := by decide +kernel
theorem d_StreamReader_skipElements_3 : decode prog_8_method_12_code 3 = .ok (.iconst 0, 1) := by decide +kernel
theorem d_StreamReader_skipElements_4 : decode prog_8_method_12_code 4 = .ok (.istore 4, 2) := by decide +kernel
theorem d_StreamReader_skipElements_6 : decode prog_8_method_12_code 6 = .ok (.iload 4, 2) := by decide +kernel
theorem d_StreamReader_skipElements_8 : decode prog_8_method_12_code 8 = .ok (.bipush 20, 2) := by decide +kernel
theorem d_StreamReader_skipElements_10 : decode prog_8_method_12_code 10 = .ok (.if_icmp .gt 58, 3) := by decide +kernel
theorem d_StreamReader_skipElements_13 : decode prog_8_method_12_code 13 = .ok (.aload_n 0, 1) := by decide +kernel
theorem d_StreamReader_skipElements_14 : decode prog_8_method_12_code 14 = .ok (.iload_n 3, 1) := by decide +kernel
theorem d_StreamReader_skipElements_15 : decode prog_8_method_12_code 15 = .ok (.invokevirtual 52, 3) := by decide +kernel
theorem d_StreamReader_skipElements_18 : decode prog_8_method_12_code 18 = .ok (.ifCond .ne 5, 3) := by decide +kernel
theorem d_StreamReader_skipElements_21 : decode prog_8_method_12_code 21 = .ok (.iconst 0, 1) := by decide +kernel
theorem d_StreamReader_skipElements_22 : decode prog_8_method_12_code 22 = .ok (.ireturn, 1) := by decide +kernel
theorem d_StreamReader_skipElements_23 : decode prog_8_method_12_code 23 = .ok (.aload_n 0, 1) := by decide +kernel
theorem d_StreamReader_skipElements_24 : decode prog_8_method_12_code 24 = .ok (.getfield 29, 3) := by decide +kernel
theorem d_StreamReader_skipElements_27 : decode prog_8_method_12_code 27 = .ok (.l2i, 1) := by decide +kernel
theorem d_StreamReader_skipElements_28 : decode prog_8_method_12_code 28 = .ok (.istore 5, 2) := by decide +kernel
theorem d_StreamReader_skipElements_30 : decode prog_8_method_12_code 30 = .ok (.iload 5, 2) := by decide +kernel
theorem d_StreamReader_skipElements_32 : decode prog_8_method_12_code 32 = .ok (.ifCond .ne 5, 3) := by decide +kernel
theorem d_StreamReader_skipElements_35 : decode prog_8_method_12_code 35 = .ok (.iconst 1, 1) := by decide +kernel
theorem d_StreamReader_skipElements_36 : decode prog_8_method_12_code 36 = .ok (.ireturn, 1) := by decide +kernel
theorem d_StreamReader_skipElements_37 : decode prog_8_method_12_code 37 = .ok (.iload_n 3, 1) := by decide +kernel
theorem d_StreamReader_skipElements_38 : decode prog_8_method_12_code 38 = .ok (.iload 5, 2) := by decide +kernel
theorem d_StreamReader_skipElements_40 : decode prog_8_method_12_code 40 = .ok (.isub, 1) := by decide +kernel
theorem d_StreamReader_skipElements_41 : decode prog_8_method_12_code 41 = .ok (.istore_n 3, 1) := by decide +kernel
theorem d_StreamReader_skipElements_42 : decode prog_8_method_12_code 42 = .ok (.aload_n 0, 1) := by decide +kernel
theorem d_StreamReader_skipElements_43 : decode prog_8_method_12_code 43 = .ok (.aload_n 0, 1) := by decide +kernel
theorem d_StreamReader_skipElements_44 : decode prog_8_method_12_code 44 = .ok (.getfield 15, 3) := by decide +kernel
theorem d_StreamReader_skipElements_47 : decode prog_8_method_12_code 47 = .ok (.iload_n 1, 1) := by decide +kernel
theorem d_StreamReader_skipElements_48 : decode prog_8_method_12_code 48 = .ok (.invokevirtual 87, 3) := by decide +kernel
theorem d_StreamReader_skipElements_51 : decode prog_8_method_12_code 51 = .ok (.iload 5, 2) := by decide +kernel
theorem d_StreamReader_skipElements_53 : decode prog_8_method_12_code 53 = .ok (.iload_n 2, 1) := by decide +kernel
theorem d_StreamReader_skipElements_54 : decode prog_8_method_12_code 54 = .ok (.invokevirtual 90, 3) := by decide +kernel
theorem d_StreamReader_skipElements_57 : decode prog_8_method_12_code 57 = .ok (.ifCond .ne 5, 3) := by decide +kernel
theorem d_StreamReader_skipElements_60 : decode prog_8_method_12_code 60 = .ok (.iconst 0, 1) := by decide +kernel
theorem d_StreamReader_skipElements_61 : decode prog_8_method_12_code 61 = .ok (.ireturn, 1) := by decide +kernel
theorem d_StreamReader_skipElements_62 : decode prog_8_method_12_code 62 = .ok (.iinc 4 1, 3) := by decide +kernel
theorem d_StreamReader_skipElements_65 : decode prog_8_method_12_code 65 = .ok (.goto (-59), 3) := by decide +kernel
theorem d_StreamReader_skipElements_68 : decode prog_8_method_12_code 68 = .ok (.iconst 0, 1) := by decide +kernel
theorem d_StreamReader_skipElements_69 : decode prog_8_method_12_code 69 = .ok (.ireturn, 1) := by decide +kernel
def StreamReader_skipElements_bd6 (call : ax_Cf)  (k6 : Option Nat → Int32 → Int32 → Int32 → Int32 → ax_Hp → ax_O) (x0 : Option Nat) (x1 : Int32) (x2 : Int32) (x3 : Int32) (x4 : Int32) (h : ax_Hp) : ax_O :=
  if 20 < x4 then
    ax_rz 0 h
  else
    ax_on h x0 5 <| ax_ci (call 115 [ax_A x0, ax_I x3] h) fun v2 h1 =>
    if v2 = 0 then
      ax_rz 0 h1
    else
      (ax_gl h1 x0 5 2).bind fun v3 =>
      if (v3.toInt32) = 0 then
        ax_rz 1 h1
      else
        (ax_gr h1 x0 5 1).bind fun v4 =>
        ax_on h1 v4 3 <| ax_ci (call 57 [ax_A v4, ax_I x1] h1) fun v6 h5 =>
        ax_on h5 x0 5 <| ax_ci (call 118 [ax_A x0, ax_I v6, ax_I (v3.toInt32), ax_I x2] h5) fun v8 h7 =>
        if v8 = 0 then
          ax_rz 0 h7
        else
          k6 x0 x1 x2 (x3 - (v3.toInt32)) (x4 + 1) h7
def StreamReader_skipElements_lp6 (call : ax_Cf)  : Nat → Option Nat → Int32 → Int32 → Int32 → Int32 → ax_Hp → ax_O
  | 0 => fun _ _ _ _ _ _ => none
  | n + 1 => StreamReader_skipElements_bd6 call  (StreamReader_skipElements_lp6 call  n)
set_option maxHeartbeats 4000000 in
set_option maxRecDepth 20000 in
theorem StreamReader_skipElements_lb6 {l : Launch} {G : ax_G} {d : Nat} {call : ax_Cf} (hcall : ax_Hc l G d call) {p : Program} {e : Env} {s : State} {mi : MethodId} {args : Array Value} {below : List Frame} {meth : Method} {c : Code} {h0 : ax_Hp} (B : ax_B G p s mi meth c "SchemaDesk$StreamReader" prog_8_method_12_code 6 (some (.boolean))) (E : c.exceptionTable.isEmpty = true) (Nm : meth.name = y_StreamReader_skipElements.name)   {k6 : Option Nat → Int32 → Int32 → Int32 → Int32 → ax_Hp → ax_O} (hk6 : ∀ (x0 : Option Nat) (x1 : Int32) (x2 : Int32) (x3 : Int32) (x4 : Int32) (h : ax_Hp), ax_W G p l e s mi args below meth c 6 (d + 1) h0 6 [(0, ax_A x0), (1, ax_I x1), (2, ax_I x2), (3, ax_I x3), (4, ax_I x4)] [] h (k6 x0 x1 x2 x3 x4 h)) (x0 : Option Nat) (x1 : Int32) (x2 : Int32) (x3 : Int32) (x4 : Int32) (h : ax_Hp) : ax_W G p l e s mi args below meth c 6 (d + 1) h0 6 [(0, ax_A x0), (1, ax_I x1), (2, ax_I x2), (3, ax_I x3), (4, ax_I x4)] [] h (StreamReader_skipElements_bd6 call  k6 x0 x1 x2 x3 x4 h) := by
  unfold StreamReader_skipElements_bd6
  refine ax_iload B 4 d_StreamReader_skipElements_6 rfl ?_
  refine ax_bipush (v := 20) B d_StreamReader_skipElements_8 (by decide) ?_
  refine ax_icmp_gt B 68 d_StreamReader_skipElements_10 (by decide) ?_ ?_
  · refine ax_iconst (v := 0) B d_StreamReader_skipElements_68 (by decide) ?_
    exact ax_zreturn B d_StreamReader_skipElements_69
  · refine ax_aload_n B 0 d_StreamReader_skipElements_13 rfl rfl ?_
    refine ax_iload_n B 3 d_StreamReader_skipElements_14 rfl rfl ?_
    refine ax_callVi (av := [ax_I x3]) (rest := []) B E hm_StreamReader_readCount cl_StreamReader rfl wd_712 wd_713 lk_StreamReader_52 d_StreamReader_skipElements_15 rfl (Nat.le_of_ble_eq_true rfl) (fun _ _ hh => hcall 115 _ _ _ _ hh) (fun v2 h1 => ?_)
    refine ax_if_ne B 23 d_StreamReader_skipElements_18 (by decide) ?_ ?_
    · refine ax_aload_n B 0 d_StreamReader_skipElements_23 rfl rfl ?_
      refine ax_getfl B cl_StreamReader (by decide) fk_StreamReader_29 d_StreamReader_skipElements_24 (fun v3 => ?_)
      refine ax_l2i B d_StreamReader_skipElements_27 ?_
      refine ax_istore (tv2 := [(5, ax_I (v3.toInt32)), (0, ax_A x0), (1, ax_I x1), (2, ax_I x2), (3, ax_I x3), (4, ax_I x4)]) B d_StreamReader_skipElements_28 (by decide) rfl ?_
      refine ax_iload B 0 d_StreamReader_skipElements_30 rfl ?_
      refine ax_if_ne B 37 d_StreamReader_skipElements_32 (by decide) ?_ ?_
      · refine ax_iload_n B 4 d_StreamReader_skipElements_37 rfl rfl ?_
        refine ax_iload B 0 d_StreamReader_skipElements_38 rfl ?_
        refine ax_isub B d_StreamReader_skipElements_40 ?_
        refine ax_istore_n (tv2 := [(3, ax_I (x3 - (v3.toInt32))), (5, ax_I (v3.toInt32)), (0, ax_A x0), (1, ax_I x1), (2, ax_I x2), (4, ax_I x4)]) B d_StreamReader_skipElements_41 rfl (by decide) rfl ?_
        refine ax_aload_n B 2 d_StreamReader_skipElements_42 rfl rfl ?_
        refine ax_aload_n B 2 d_StreamReader_skipElements_43 rfl rfl ?_
        refine ax_getfr B cl_StreamReader (by decide) fk_StreamReader_15 d_StreamReader_skipElements_44 (fun v4 => ?_)
        refine ax_iload_n B 3 d_StreamReader_skipElements_47 rfl rfl ?_
        refine ax_callVi (av := [ax_I x1]) (rest := [ax_A x0]) B E hm_Schema_element cl_Schema rfl wd_426 wd_427 lk_StreamReader_87 d_StreamReader_skipElements_48 rfl (Nat.le_of_ble_eq_true rfl) (fun _ _ hh => hcall 57 _ _ _ _ hh) (fun v6 h5 => ?_)
        refine ax_iload B 1 d_StreamReader_skipElements_51 rfl ?_
        refine ax_iload_n B 4 d_StreamReader_skipElements_53 rfl rfl ?_
        refine ax_callVi (av := [ax_I v6, ax_I (v3.toInt32), ax_I x2]) (rest := []) B E hm_StreamReader_skipPart cl_StreamReader rfl wd_728 wp_25 lk_StreamReader_90 d_StreamReader_skipElements_54 rfl (Nat.le_of_ble_eq_true rfl) (fun _ _ hh => hcall 118 _ _ _ _ hh) (fun v8 h7 => ?_)
        refine ax_if_ne B 62 d_StreamReader_skipElements_57 (by decide) ?_ ?_
        · refine ax_iinc (v := x4 + 1) (tv2 := [(4, ax_I (x4 + 1)), (3, ax_I (x3 - (v3.toInt32))), (5, ax_I (v3.toInt32)), (0, ax_A x0), (1, ax_I x1), (2, ax_I x2)]) B 5 d_StreamReader_skipElements_62 rfl (congrArg (_ + ·) (by decide)) (by decide) rfl ?_
          refine ax_goto B 6 d_StreamReader_skipElements_65 (by decide) ?_
          refine ax_sub (tv2 := [(0, ax_A x0), (1, ax_I x1), (2, ax_I x2), (3, ax_I (x3 - (v3.toInt32))), (4, ax_I (x4 + 1))]) [3, 4, 5, 1, 0] rfl ?_
          exact hk6 x0 x1 x2 (x3 - (v3.toInt32)) (x4 + 1) h7
        · refine ax_iconst (v := 0) B d_StreamReader_skipElements_60 (by decide) ?_
          exact ax_zreturn B d_StreamReader_skipElements_61
      · refine ax_iconst (v := 1) B d_StreamReader_skipElements_35 (by decide) ?_
        exact ax_zreturn B d_StreamReader_skipElements_36
    · refine ax_iconst (v := 0) B d_StreamReader_skipElements_21 (by decide) ?_
      exact ax_zreturn B d_StreamReader_skipElements_22
theorem StreamReader_skipElements_lq6 {l : Launch} {G : ax_G} {d : Nat} {call : ax_Cf} (hcall : ax_Hc l G d call) {p : Program} {e : Env} {s : State} {mi : MethodId} {args : Array Value} {below : List Frame} {meth : Method} {c : Code} {h0 : ax_Hp} (B : ax_B G p s mi meth c "SchemaDesk$StreamReader" prog_8_method_12_code 6 (some (.boolean))) (E : c.exceptionTable.isEmpty = true) (Nm : meth.name = y_StreamReader_skipElements.name)   : ∀ (n : Nat) (x0 : Option Nat) (x1 : Int32) (x2 : Int32) (x3 : Int32) (x4 : Int32) (h : ax_Hp), ax_W G p l e s mi args below meth c 6 (d + 1) h0 6 [(0, ax_A x0), (1, ax_I x1), (2, ax_I x2), (3, ax_I x3), (4, ax_I x4)] [] h (StreamReader_skipElements_lp6 call  n x0 x1 x2 x3 x4 h)
  | 0, _, _, _, _, _, _ => ax_none
  | n + 1, x0, x1, x2, x3, x4, h => StreamReader_skipElements_lb6 hcall B E Nm   (StreamReader_skipElements_lq6 hcall B E Nm   n) x0 x1 x2 x3 x4 h
def StreamReader_skipElements_b (call : ax_Cf) (x0 : Option Nat) (x1 : Int32) (x2 : Int32) (h : ax_Hp) : ax_O :=
  StreamReader_skipElements_lp6 call ax_fuel x0 x1 x2 20 0 h
set_option maxHeartbeats 4000000 in
set_option maxRecDepth 20000 in
theorem StreamReader_skipElements_t {l : Launch} {G : ax_G} {d : Nat} {call : ax_Cf} (hcall : ax_Hc l G d call) (x0 : Option Nat) (x1 : Int32) (x2 : Int32) (h : ax_Hp) {r : ax_Rs} {h' : ax_Hp} (ho : StreamReader_skipElements_b call x0 x1 x2 h = some (r, h')) : ax_C l G (d + 1) y_StreamReader_skipElements (.code y_StreamReader_skipElements prog_8_method_12_code 6 (some (.boolean))) [ax_A x0, ax_I x1, ax_I x2] h r h' := by
  refine ax_enter (by decide) (Nat.le_of_ble_eq_true rfl) ho (fun p e s mi args below meth c B E Nm => ?_)
  have B : ax_B G p s mi meth c "SchemaDesk$StreamReader" prog_8_method_12_code 6 (some (.boolean)) := B
  show ax_W G p l e s mi args below meth c 6 (d + 1) h 0 [(0, ax_A x0), (1, ax_I x1), (2, ax_I x2)] [] h (StreamReader_skipElements_b call x0 x1 x2 h)
  unfold StreamReader_skipElements_b
  refine ax_bipush (v := 20) B d_StreamReader_skipElements_0 (by decide) ?_
  refine ax_istore_n (tv2 := [(3, ax_I 20), (0, ax_A x0), (1, ax_I x1), (2, ax_I x2)]) B d_StreamReader_skipElements_2 rfl (by decide) rfl ?_
  refine ax_iconst (v := 0) B d_StreamReader_skipElements_3 (by decide) ?_
  refine ax_istore (tv2 := [(4, ax_I 0), (3, ax_I 20), (0, ax_A x0), (1, ax_I x1), (2, ax_I x2)]) B d_StreamReader_skipElements_4 (by decide) rfl ?_
  refine ax_sub (tv2 := [(0, ax_A x0), (1, ax_I x1), (2, ax_I x2), (3, ax_I 20), (4, ax_I 0)]) [2, 3, 4, 1, 0] rfl ?_
  exact StreamReader_skipElements_lq6 hcall B E Nm ax_fuel x0 x1 x2 20 0 h

theorem d_StreamReader_skipPart_0 : decode prog_8_method_13_code 0 = .ok (.aload_n 0, 1) := by decide +kernel
theorem d_StreamReader_skipPart_1 : decode prog_8_method_13_code 1 = .ok (.getfield 9, 3) := by decide +kernel
theorem d_StreamReader_skipPart_4 : decode prog_8_method_13_code 4 = .ok (.invokevirtual 94, 3) := by decide +kernel
theorem d_StreamReader_skipPart_7 : decode prog_8_method_13_code 7 = .ok (.istore 4, 2) := by decide +kernel
theorem d_StreamReader_skipPart_9 : decode prog_8_method_13_code 9 = .ok (.iconst 0, 1) := by decide +kernel
theorem d_StreamReader_skipPart_10 : decode prog_8_method_13_code 10 = .ok (.istore 5, 2) := by decide +kernel
theorem d_StreamReader_skipPart_12 : decode prog_8_method_13_code 12 = .ok (.iload 5, 2) := by decide +kernel
theorem d_StreamReader_skipPart_14 : decode prog_8_method_13_code 14 = .ok (.iload_n 2, 1) := by decide +kernel
theorem d_StreamReader_skipPart_15 : decode prog_8_method_13_code 15 = .ok (.if_icmp .ge 36, 3) := by decide +kernel
theorem d_StreamReader_skipPart_18 : decode prog_8_method_13_code 18 = .ok (.aload_n 0, 1) := by decide +kernel
theorem d_StreamReader_skipPart_19 : decode prog_8_method_13_code 19 = .ok (.iload_n 1, 1) := by decide +kernel
theorem d_StreamReader_skipPart_20 : decode prog_8_method_13_code 20 = .ok (.iload_n 3, 1) := by decide +kernel
theorem d_StreamReader_skipPart_21 : decode prog_8_method_13_code 21 = .ok (.iconst 1, 1) := by decide +kernel
theorem d_StreamReader_skipPart_22 : decode prog_8_method_13_code 22 = .ok (.iadd, 1) := by decide +kernel
theorem d_StreamReader_skipPart_23 : decode prog_8_method_13_code 23 = .ok (.invokevirtual 19, 3) := by decide +kernel
theorem d_StreamReader_skipPart_26 : decode prog_8_method_13_code 26 = .ok (.ifCond .ne 5, 3) := by decide +kernel
theorem d_StreamReader_skipPart_29 : decode prog_8_method_13_code 29 = .ok (.iconst 0, 1) := by decide +kernel
theorem d_StreamReader_skipPart_30 : decode prog_8_method_13_code 30 = .ok (.ireturn, 1) := by decide +kernel
theorem d_StreamReader_skipPart_31 : decode prog_8_method_13_code 31 = .ok (.aload_n 0, 1) := by decide +kernel
theorem d_StreamReader_skipPart_32 : decode prog_8_method_13_code 32 = .ok (.getfield 9, 3) := by decide +kernel
theorem d_StreamReader_skipPart_35 : decode prog_8_method_13_code 35 = .ok (.invokevirtual 94, 3) := by decide +kernel
theorem d_StreamReader_skipPart_38 : decode prog_8_method_13_code 38 = .ok (.iload 4, 2) := by decide +kernel
theorem d_StreamReader_skipPart_40 : decode prog_8_method_13_code 40 = .ok (.if_icmp .ne 5, 3) := by decide +kernel
theorem d_StreamReader_skipPart_43 : decode prog_8_method_13_code 43 = .ok (.iconst 1, 1) := by decide +kernel
theorem d_StreamReader_skipPart_44 : decode prog_8_method_13_code 44 = .ok (.ireturn, 1) := by decide +kernel
theorem d_StreamReader_skipPart_45 : decode prog_8_method_13_code 45 = .ok (.iinc 5 1, 3) := by decide +kernel
theorem d_StreamReader_skipPart_48 : decode prog_8_method_13_code 48 = .ok (.goto (-36), 3) := by decide +kernel
theorem d_StreamReader_skipPart_51 : decode prog_8_method_13_code 51 = .ok (.iconst 1, 1) := by decide +kernel
theorem d_StreamReader_skipPart_52 : decode prog_8_method_13_code 52 = .ok (.ireturn, 1) := by decide +kernel
def StreamReader_skipPart_bd12 (call : ax_Cf)  (k12 : Option Nat → Int32 → Int32 → Int32 → Int32 → Int32 → ax_Hp → ax_O) (x0 : Option Nat) (x1 : Int32) (x2 : Int32) (x3 : Int32) (x4 : Int32) (x5 : Int32) (h : ax_Hp) : ax_O :=
  if x2 ≤ x5 then
    ax_rz 1 h
  else
    ax_on h x0 5 <| ax_ci (call 111 [ax_A x0, ax_I x1, ax_I (x3 + 1)] h) fun v5 h4 =>
    if v5 = 0 then
      ax_rz 0 h4
    else
      (ax_gr h4 x0 5 0).bind fun v6 =>
      ax_on h4 v6 0 <| ax_ci (call 27 [ax_A v6] h4) fun v8 h7 =>
      if v8 = x4 then
        ax_rz 1 h7
      else
        k12 x0 x1 x2 x3 x4 (x5 + 1) h7
def StreamReader_skipPart_lp12 (call : ax_Cf)  : Nat → Option Nat → Int32 → Int32 → Int32 → Int32 → Int32 → ax_Hp → ax_O
  | 0 => fun _ _ _ _ _ _ _ => none
  | n + 1 => StreamReader_skipPart_bd12 call  (StreamReader_skipPart_lp12 call  n)
set_option maxHeartbeats 4000000 in
set_option maxRecDepth 20000 in
theorem StreamReader_skipPart_lb12 {l : Launch} {G : ax_G} {d : Nat} {call : ax_Cf} (hcall : ax_Hc l G d call) {p : Program} {e : Env} {s : State} {mi : MethodId} {args : Array Value} {below : List Frame} {meth : Method} {c : Code} {h0 : ax_Hp} (B : ax_B G p s mi meth c "SchemaDesk$StreamReader" prog_8_method_13_code 6 (some (.boolean))) (E : c.exceptionTable.isEmpty = true) (Nm : meth.name = y_StreamReader_skipPart.name)   {k12 : Option Nat → Int32 → Int32 → Int32 → Int32 → Int32 → ax_Hp → ax_O} (hk12 : ∀ (x0 : Option Nat) (x1 : Int32) (x2 : Int32) (x3 : Int32) (x4 : Int32) (x5 : Int32) (h : ax_Hp), ax_W G p l e s mi args below meth c 6 (d + 1) h0 12 [(0, ax_A x0), (1, ax_I x1), (2, ax_I x2), (3, ax_I x3), (4, ax_I x4), (5, ax_I x5)] [] h (k12 x0 x1 x2 x3 x4 x5 h)) (x0 : Option Nat) (x1 : Int32) (x2 : Int32) (x3 : Int32) (x4 : Int32) (x5 : Int32) (h : ax_Hp) : ax_W G p l e s mi args below meth c 6 (d + 1) h0 12 [(0, ax_A x0), (1, ax_I x1), (2, ax_I x2), (3, ax_I x3), (4, ax_I x4), (5, ax_I x5)] [] h (StreamReader_skipPart_bd12 call  k12 x0 x1 x2 x3 x4 x5 h) := by
  unfold StreamReader_skipPart_bd12
  refine ax_iload B 5 d_StreamReader_skipPart_12 rfl ?_
  refine ax_iload_n B 2 d_StreamReader_skipPart_14 rfl rfl ?_
  refine ax_icmp_ge B 51 d_StreamReader_skipPart_15 (by decide) ?_ ?_
  · refine ax_iconst (v := 1) B d_StreamReader_skipPart_51 (by decide) ?_
    exact ax_zreturn B d_StreamReader_skipPart_52
  · refine ax_aload_n B 0 d_StreamReader_skipPart_18 rfl rfl ?_
    refine ax_iload_n B 1 d_StreamReader_skipPart_19 rfl rfl ?_
    refine ax_iload_n B 3 d_StreamReader_skipPart_20 rfl rfl ?_
    refine ax_iconst (v := 1) B d_StreamReader_skipPart_21 (by decide) ?_
    refine ax_iadd B d_StreamReader_skipPart_22 ?_
    refine ax_callVi (av := [ax_I x1, ax_I (x3 + 1)]) (rest := []) B E hm_StreamReader_skip cl_StreamReader rfl wd_692 wp_22 lk_StreamReader_19 d_StreamReader_skipPart_23 rfl (Nat.le_of_ble_eq_true rfl) (fun _ _ hh => hcall 111 _ _ _ _ hh) (fun v5 h4 => ?_)
    refine ax_if_ne B 31 d_StreamReader_skipPart_26 (by decide) ?_ ?_
    · refine ax_aload_n B 0 d_StreamReader_skipPart_31 rfl rfl ?_
      refine ax_getfr B cl_StreamReader (by decide) fk_StreamReader_9 d_StreamReader_skipPart_32 (fun v6 => ?_)
      refine ax_callVi (av := []) (rest := []) B E hm_Cursor_at cl_Cursor rfl wd_302 wd_303 lk_StreamReader_94 d_StreamReader_skipPart_35 rfl (Nat.le_of_ble_eq_true rfl) (fun _ _ hh => hcall 27 _ _ _ _ hh) (fun v8 h7 => ?_)
      refine ax_iload B 4 d_StreamReader_skipPart_38 rfl ?_
      refine ax_icmp_ne B 45 d_StreamReader_skipPart_40 (by decide) ?_ ?_
      · refine ax_iinc (v := x5 + 1) (tv2 := [(5, ax_I (x5 + 1)), (0, ax_A x0), (1, ax_I x1), (2, ax_I x2), (3, ax_I x3), (4, ax_I x4)]) B 5 d_StreamReader_skipPart_45 rfl (congrArg (_ + ·) (by decide)) (by decide) rfl ?_
        refine ax_goto B 12 d_StreamReader_skipPart_48 (by decide) ?_
        refine ax_sub (tv2 := [(0, ax_A x0), (1, ax_I x1), (2, ax_I x2), (3, ax_I x3), (4, ax_I x4), (5, ax_I (x5 + 1))]) [1, 2, 3, 4, 5, 0] rfl ?_
        exact hk12 x0 x1 x2 x3 x4 (x5 + 1) h7
      · refine ax_iconst (v := 1) B d_StreamReader_skipPart_43 (by decide) ?_
        exact ax_zreturn B d_StreamReader_skipPart_44
    · refine ax_iconst (v := 0) B d_StreamReader_skipPart_29 (by decide) ?_
      exact ax_zreturn B d_StreamReader_skipPart_30
theorem StreamReader_skipPart_lq12 {l : Launch} {G : ax_G} {d : Nat} {call : ax_Cf} (hcall : ax_Hc l G d call) {p : Program} {e : Env} {s : State} {mi : MethodId} {args : Array Value} {below : List Frame} {meth : Method} {c : Code} {h0 : ax_Hp} (B : ax_B G p s mi meth c "SchemaDesk$StreamReader" prog_8_method_13_code 6 (some (.boolean))) (E : c.exceptionTable.isEmpty = true) (Nm : meth.name = y_StreamReader_skipPart.name)   : ∀ (n : Nat) (x0 : Option Nat) (x1 : Int32) (x2 : Int32) (x3 : Int32) (x4 : Int32) (x5 : Int32) (h : ax_Hp), ax_W G p l e s mi args below meth c 6 (d + 1) h0 12 [(0, ax_A x0), (1, ax_I x1), (2, ax_I x2), (3, ax_I x3), (4, ax_I x4), (5, ax_I x5)] [] h (StreamReader_skipPart_lp12 call  n x0 x1 x2 x3 x4 x5 h)
  | 0, _, _, _, _, _, _, _ => ax_none
  | n + 1, x0, x1, x2, x3, x4, x5, h => StreamReader_skipPart_lb12 hcall B E Nm   (StreamReader_skipPart_lq12 hcall B E Nm   n) x0 x1 x2 x3 x4 x5 h
def StreamReader_skipPart_b (call : ax_Cf) (x0 : Option Nat) (x1 : Int32) (x2 : Int32) (x3 : Int32) (h : ax_Hp) : ax_O :=
  (ax_gr h x0 5 0).bind fun v1 =>
  ax_on h v1 0 <| ax_ci (call 27 [ax_A v1] h) fun v3 h2 =>
  StreamReader_skipPart_lp12 call ax_fuel x0 x1 x2 x3 v3 0 h2
set_option maxHeartbeats 4000000 in
set_option maxRecDepth 20000 in
theorem StreamReader_skipPart_t {l : Launch} {G : ax_G} {d : Nat} {call : ax_Cf} (hcall : ax_Hc l G d call) (x0 : Option Nat) (x1 : Int32) (x2 : Int32) (x3 : Int32) (h : ax_Hp) {r : ax_Rs} {h' : ax_Hp} (ho : StreamReader_skipPart_b call x0 x1 x2 x3 h = some (r, h')) : ax_C l G (d + 1) y_StreamReader_skipPart (.code y_StreamReader_skipPart prog_8_method_13_code 6 (some (.boolean))) [ax_A x0, ax_I x1, ax_I x2, ax_I x3] h r h' := by
  refine ax_enter (by decide) (Nat.le_of_ble_eq_true rfl) ho (fun p e s mi args below meth c B E Nm => ?_)
  have B : ax_B G p s mi meth c "SchemaDesk$StreamReader" prog_8_method_13_code 6 (some (.boolean)) := B
  show ax_W G p l e s mi args below meth c 6 (d + 1) h 0 [(0, ax_A x0), (1, ax_I x1), (2, ax_I x2), (3, ax_I x3)] [] h (StreamReader_skipPart_b call x0 x1 x2 x3 h)
  unfold StreamReader_skipPart_b
  refine ax_aload_n B 0 d_StreamReader_skipPart_0 rfl rfl ?_
  refine ax_getfr B cl_StreamReader (by decide) fk_StreamReader_9 d_StreamReader_skipPart_1 (fun v1 => ?_)
  refine ax_callVi (av := []) (rest := []) B E hm_Cursor_at cl_Cursor rfl wd_302 wd_303 lk_StreamReader_94 d_StreamReader_skipPart_4 rfl (Nat.le_of_ble_eq_true rfl) (fun _ _ hh => hcall 27 _ _ _ _ hh) (fun v3 h2 => ?_)
  refine ax_istore (tv2 := [(4, ax_I v3), (0, ax_A x0), (1, ax_I x1), (2, ax_I x2), (3, ax_I x3)]) B d_StreamReader_skipPart_7 (by decide) rfl ?_
  refine ax_iconst (v := 0) B d_StreamReader_skipPart_9 (by decide) ?_
  refine ax_istore (tv2 := [(5, ax_I 0), (4, ax_I v3), (0, ax_A x0), (1, ax_I x1), (2, ax_I x2), (3, ax_I x3)]) B d_StreamReader_skipPart_10 (by decide) rfl ?_
  refine ax_sub (tv2 := [(0, ax_A x0), (1, ax_I x1), (2, ax_I x2), (3, ax_I x3), (4, ax_I v3), (5, ax_I 0)]) [2, 3, 4, 5, 1, 0] rfl ?_
  exact StreamReader_skipPart_lq12 hcall B E Nm ax_fuel x0 x1 x2 x3 v3 0 h2

theorem d_StreamReader_skipBranch_0 : decode prog_8_method_14_code 0 = .ok (.aload_n 0, 1) := by decide +kernel
theorem d_StreamReader_skipBranch_1 : decode prog_8_method_14_code 1 = .ok (.iload_n 1, 1) := by decide +kernel
theorem d_StreamReader_skipBranch_2 : decode prog_8_method_14_code 2 = .ok (.invokevirtual 97, 3) := by decide +kernel
theorem d_StreamReader_skipBranch_5 : decode prog_8_method_14_code 5 = .ok (.istore_n 3, 1) := by decide +kernel
theorem d_StreamReader_skipBranch_6 : decode prog_8_method_14_code 6 = .ok (.iload_n 3, 1) := by decide +kernel
theorem d_StreamReader_skipBranch_7 : decode prog_8_method_14_code 7 = .ok (.iconst (-1), 1) := by decide +kernel
theorem d_StreamReader_skipBranch_8 : decode prog_8_method_14_code 8 = .ok (.if_icmp .eq 18, 3) := by decide +kernel
theorem d_StreamReader_skipBranch_11 : decode prog_8_method_14_code 11 = .ok (.aload_n 0, 1) := by decide +kernel
theorem d_StreamReader_skipBranch_12 : decode prog_8_method_14_code 12 = .ok (.iload_n 3, 1) := by decide +kernel
theorem d_StreamReader_skipBranch_13 : decode prog_8_method_14_code 13 = .ok (.iload_n 2, 1) := by decide +kernel
theorem d_StreamReader_skipBranch_14 : decode prog_8_method_14_code 14 = .ok (.iconst 1, 1) := by decide +kernel
theorem d_StreamReader_skipBranch_15 : decode prog_8_method_14_code 15 = .ok (.iadd, 1) := by decide +kernel
theorem d_StreamReader_skipBranch_16 : decode prog_8_method_14_code 16 = .ok (.invokevirtual 19, 3) := by decide +kernel
theorem d_StreamReader_skipBranch_19 : decode prog_8_method_14_code 19 = .ok (.ifCond .eq 7, 3) := by decide +kernel
theorem d_StreamReader_skipBranch_22 : decode prog_8_method_14_code 22 = .ok (.iconst 1, 1) := by decide +kernel
theorem d_StreamReader_skipBranch_23 : decode prog_8_method_14_code 23 = .ok (.goto 4, 3) := by decide +kernel
theorem d_StreamReader_skipBranch_26 : decode prog_8_method_14_code 26 = .ok (.iconst 0, 1) := by decide +kernel
theorem d_StreamReader_skipBranch_27 : decode prog_8_method_14_code 27 = .ok (.ireturn, 1) := by decide +kernel
def StreamReader_skipBranch_b (call : ax_Cf) (x0 : Option Nat) (x1 : Int32) (x2 : Int32) (h : ax_Hp) : ax_O :=
  ax_on h x0 5 <| ax_ci (call 120 [ax_A x0, ax_I x1] h) fun v2 h1 =>
  if v2 = (-1) then
    ax_rz 0 h1
  else
    ax_on h1 x0 5 <| ax_ci (call 111 [ax_A x0, ax_I v2, ax_I (x2 + 1)] h1) fun v4 h3 =>
    if v4 = 0 then
      ax_rz 0 h3
    else
      ax_rz 1 h3
set_option maxHeartbeats 4000000 in
set_option maxRecDepth 20000 in
theorem StreamReader_skipBranch_t {l : Launch} {G : ax_G} {d : Nat} {call : ax_Cf} (hcall : ax_Hc l G d call) (x0 : Option Nat) (x1 : Int32) (x2 : Int32) (h : ax_Hp) {r : ax_Rs} {h' : ax_Hp} (ho : StreamReader_skipBranch_b call x0 x1 x2 h = some (r, h')) : ax_C l G (d + 1) y_StreamReader_skipBranch (.code y_StreamReader_skipBranch prog_8_method_14_code 4 (some (.boolean))) [ax_A x0, ax_I x1, ax_I x2] h r h' := by
  refine ax_enter (by decide) (Nat.le_of_ble_eq_true rfl) ho (fun p e s mi args below meth c B E Nm => ?_)
  have B : ax_B G p s mi meth c "SchemaDesk$StreamReader" prog_8_method_14_code 4 (some (.boolean)) := B
  show ax_W G p l e s mi args below meth c 4 (d + 1) h 0 [(0, ax_A x0), (1, ax_I x1), (2, ax_I x2)] [] h (StreamReader_skipBranch_b call x0 x1 x2 h)
  unfold StreamReader_skipBranch_b
  refine ax_aload_n B 0 d_StreamReader_skipBranch_0 rfl rfl ?_
  refine ax_iload_n B 1 d_StreamReader_skipBranch_1 rfl rfl ?_
  refine ax_callVi (av := [ax_I x1]) (rest := []) B E hm_StreamReader_readBranch cl_StreamReader rfl wd_736 wd_737 lk_StreamReader_97 d_StreamReader_skipBranch_2 rfl (Nat.le_of_ble_eq_true rfl) (fun _ _ hh => hcall 120 _ _ _ _ hh) (fun v2 h1 => ?_)
  refine ax_istore_n (tv2 := [(3, ax_I v2), (0, ax_A x0), (1, ax_I x1), (2, ax_I x2)]) B d_StreamReader_skipBranch_5 rfl (by decide) rfl ?_
  refine ax_iload_n B 0 d_StreamReader_skipBranch_6 rfl rfl ?_
  refine ax_iconst (v := (-1)) B d_StreamReader_skipBranch_7 (by decide) ?_
  refine ax_icmp_eq B 26 d_StreamReader_skipBranch_8 (by decide) ?_ ?_
  · refine ax_iconst (v := 0) B d_StreamReader_skipBranch_26 (by decide) ?_
    exact ax_zreturn B d_StreamReader_skipBranch_27
  · refine ax_aload_n B 1 d_StreamReader_skipBranch_11 rfl rfl ?_
    refine ax_iload_n B 0 d_StreamReader_skipBranch_12 rfl rfl ?_
    refine ax_iload_n B 3 d_StreamReader_skipBranch_13 rfl rfl ?_
    refine ax_iconst (v := 1) B d_StreamReader_skipBranch_14 (by decide) ?_
    refine ax_iadd B d_StreamReader_skipBranch_15 ?_
    refine ax_callVi (av := [ax_I v2, ax_I (x2 + 1)]) (rest := []) B E hm_StreamReader_skip cl_StreamReader rfl wd_692 wp_22 lk_StreamReader_19 d_StreamReader_skipBranch_16 rfl (Nat.le_of_ble_eq_true rfl) (fun _ _ hh => hcall 111 _ _ _ _ hh) (fun v4 h3 => ?_)
    refine ax_if_eq B 26 d_StreamReader_skipBranch_19 (by decide) ?_ ?_
    · refine ax_iconst (v := 0) B d_StreamReader_skipBranch_26 (by decide) ?_
      exact ax_zreturn B d_StreamReader_skipBranch_27
    · refine ax_iconst (v := 1) B d_StreamReader_skipBranch_22 (by decide) ?_
      refine ax_goto B 27 d_StreamReader_skipBranch_23 (by decide) ?_
      exact ax_zreturn B d_StreamReader_skipBranch_27

theorem d_StreamReader_readBranch_0 : decode prog_8_method_9_code 0 = .ok (.aload_n 0, 1) := by decide +kernel
theorem d_StreamReader_readBranch_1 : decode prog_8_method_9_code 1 = .ok (.aload_n 0, 1) := by decide +kernel
theorem d_StreamReader_readBranch_2 : decode prog_8_method_9_code 2 = .ok (.getfield 15, 3) := by decide +kernel
theorem d_StreamReader_readBranch_5 : decode prog_8_method_9_code 5 = .ok (.iload_n 1, 1) := by decide +kernel
theorem d_StreamReader_readBranch_6 : decode prog_8_method_9_code 6 = .ok (.invokevirtual 74, 3) := by decide +kernel
theorem d_StreamReader_readBranch_9 : decode prog_8_method_9_code 9 = .ok (.iconst 1, 1) := by decide +kernel
theorem d_StreamReader_readBranch_10 : decode prog_8_method_9_code 10 = .ok (.isub, 1) := by decide +kernel
theorem d_StreamReader_readBranch_11 : decode prog_8_method_9_code 11 = .ok (.invokevirtual 52, 3) := by decide +kernel
theorem d_StreamReader_readBranch_14 : decode prog_8_method_9_code 14 = .ok (.istore_n 2, 1) := by decide +kernel
theorem d_StreamReader_readBranch_15 : decode prog_8_method_9_code 15 = .ok (.iload_n 2, 1) := by decide +kernel
theorem d_StreamReader_readBranch_16 : decode prog_8_method_9_code 16 = .ok (.ifCond .eq 19, 3) := by decide +kernel
theorem d_StreamReader_readBranch_19 : decode prog_8_method_9_code 19 = .ok (.aload_n 0, 1) := by decide +kernel
theorem d_StreamReader_readBranch_20 : decode prog_8_method_9_code 20 = .ok (.getfield 15, 3) := by decide +kernel
theorem d_StreamReader_readBranch_23 : decode prog_8_method_9_code 23 = .ok (.iload_n 1, 1) := by decide +kernel
theorem d_StreamReader_readBranch_24 : decode prog_8_method_9_code 24 = .ok (.aload_n 0, 1) := by decide +kernel
theorem d_StreamReader_readBranch_25 : decode prog_8_method_9_code 25 = .ok (.getfield 29, 3) := by decide +kernel
theorem d_StreamReader_readBranch_28 : decode prog_8_method_9_code 28 = .ok (.l2i, 1) := by decide +kernel
theorem d_StreamReader_readBranch_29 : decode prog_8_method_9_code 29 = .ok (.invokevirtual 77, 3) := by decide +kernel
theorem d_StreamReader_readBranch_32 : decode prog_8_method_9_code 32 = .ok (.goto 4, 3) := by decide +kernel
theorem d_StreamReader_readBranch_35 : decode prog_8_method_9_code 35 = .ok (.iconst (-1), 1) := by decide +kernel
theorem d_StreamReader_readBranch_36 : decode prog_8_method_9_code 36 = .ok (.ireturn, 1) := by decide +kernel
def StreamReader_readBranch_b (call : ax_Cf) (x0 : Option Nat) (x1 : Int32) (h : ax_Hp) : ax_O :=
  (ax_gr h x0 5 1).bind fun v1 =>
  ax_on h v1 3 <| ax_ci (call 121 [ax_A v1, ax_I x1] h) fun v3 h2 =>
  ax_on h2 x0 5 <| ax_ci (call 115 [ax_A x0, ax_I (v3 - 1)] h2) fun v5 h4 =>
  if v5 = 0 then
    ax_ri (-1) h4
  else
    (ax_gr h4 x0 5 1).bind fun v6 =>
    (ax_gl h4 x0 5 2).bind fun v7 =>
    ax_on h4 v6 3 <| ax_ci (call 62 [ax_A v6, ax_I x1, ax_I (v7.toInt32)] h4) fun v9 h8 =>
    ax_ri v9 h8
set_option maxHeartbeats 4000000 in
set_option maxRecDepth 20000 in
theorem StreamReader_readBranch_t {l : Launch} {G : ax_G} {d : Nat} {call : ax_Cf} (hcall : ax_Hc l G d call) (x0 : Option Nat) (x1 : Int32) (h : ax_Hp) {r : ax_Rs} {h' : ax_Hp} (ho : StreamReader_readBranch_b call x0 x1 h = some (r, h')) : ax_C l G (d + 1) y_StreamReader_readBranch (.code y_StreamReader_readBranch prog_8_method_9_code 3 (some (.int))) [ax_A x0, ax_I x1] h r h' := by
  refine ax_enter (by decide) (Nat.le_of_ble_eq_true rfl) ho (fun p e s mi args below meth c B E Nm => ?_)
  have B : ax_B G p s mi meth c "SchemaDesk$StreamReader" prog_8_method_9_code 3 (some (.int)) := B
  show ax_W G p l e s mi args below meth c 3 (d + 1) h 0 [(0, ax_A x0), (1, ax_I x1)] [] h (StreamReader_readBranch_b call x0 x1 h)
  unfold StreamReader_readBranch_b
  refine ax_aload_n B 0 d_StreamReader_readBranch_0 rfl rfl ?_
  refine ax_aload_n B 0 d_StreamReader_readBranch_1 rfl rfl ?_
  refine ax_getfr B cl_StreamReader (by decide) fk_StreamReader_15 d_StreamReader_readBranch_2 (fun v1 => ?_)
  refine ax_iload_n B 1 d_StreamReader_readBranch_5 rfl rfl ?_
  refine ax_callVi (av := [ax_I x1]) (rest := [ax_A x0]) B E hm_Schema_branchCount cl_Schema rfl wd_740 wd_741 lk_StreamReader_74 d_StreamReader_readBranch_6 rfl (Nat.le_of_ble_eq_true rfl) (fun _ _ hh => hcall 121 _ _ _ _ hh) (fun v3 h2 => ?_)
  refine ax_iconst (v := 1) B d_StreamReader_readBranch_9 (by decide) ?_
  refine ax_isub B d_StreamReader_readBranch_10 ?_
  refine ax_callVi (av := [ax_I (v3 - 1)]) (rest := []) B E hm_StreamReader_readCount cl_StreamReader rfl wd_712 wd_713 lk_StreamReader_52 d_StreamReader_readBranch_11 rfl (Nat.le_of_ble_eq_true rfl) (fun _ _ hh => hcall 115 _ _ _ _ hh) (fun v5 h4 => ?_)
  refine ax_istore_n (tv2 := [(2, ax_I v5), (0, ax_A x0), (1, ax_I x1)]) B d_StreamReader_readBranch_14 rfl (by decide) rfl ?_
  refine ax_iload_n B 0 d_StreamReader_readBranch_15 rfl rfl ?_
  refine ax_if_eq B 35 d_StreamReader_readBranch_16 (by decide) ?_ ?_
  · refine ax_iconst (v := (-1)) B d_StreamReader_readBranch_35 (by decide) ?_
    exact ax_ireturn B d_StreamReader_readBranch_36
  · refine ax_aload_n B 1 d_StreamReader_readBranch_19 rfl rfl ?_
    refine ax_getfr B cl_StreamReader (by decide) fk_StreamReader_15 d_StreamReader_readBranch_20 (fun v6 => ?_)
    refine ax_iload_n B 2 d_StreamReader_readBranch_23 rfl rfl ?_
    refine ax_aload_n B 1 d_StreamReader_readBranch_24 rfl rfl ?_
    refine ax_getfl B cl_StreamReader (by decide) fk_StreamReader_29 d_StreamReader_readBranch_25 (fun v7 => ?_)
    refine ax_l2i B d_StreamReader_readBranch_28 ?_
    refine ax_callVi (av := [ax_I x1, ax_I (v7.toInt32)]) (rest := []) B E hm_Schema_branch cl_Schema rfl wd_447 wd_448 lk_StreamReader_77 d_StreamReader_readBranch_29 rfl (Nat.le_of_ble_eq_true rfl) (fun _ _ hh => hcall 62 _ _ _ _ hh) (fun v9 h8 => ?_)
    refine ax_goto B 36 d_StreamReader_readBranch_32 (by decide) ?_
    exact ax_ireturn B d_StreamReader_readBranch_36

theorem d_StreamReader_skipFields_0 : decode prog_8_method_15_code 0 = .ok (.aload_n 0, 1) := by decide +kernel
theorem d_StreamReader_skipFields_1 : decode prog_8_method_15_code 1 = .ok (.getfield 15, 3) := by decide +kernel
theorem d_StreamReader_skipFields_4 : decode prog_8_method_15_code 4 = .ok (.iload_n 1, 1) := by decide +kernel
theorem d_StreamReader_skipFields_5 : decode prog_8_method_15_code 5 = .ok (.invokevirtual 100, 3) := by decide +kernel
theorem d_StreamReader_skipFields_8 : decode prog_8_method_15_code 8 = .ok (.istore_n 3, 1) := by decide +kernel
theorem d_StreamReader_skipFields_9 : decode prog_8_method_15_code 9 = .ok (.iconst 0, 1) := by decide +kernel
theorem d_StreamReader_skipFields_10 : decode prog_8_method_15_code 10 = .ok (.istore 4, 2) := by decide +kernel
theorem d_StreamReader_skipFields_12 : decode prog_8_method_15_code 12 = .ok (.iload 4, 2) := by decide +kernel
theorem d_StreamReader_skipFields_14 : decode prog_8_method_15_code 14 = .ok (.bipush 6, 2) := by decide +kernel
theorem d_StreamReader_skipFields_16 : decode prog_8_method_15_code 16 = .ok (.if_icmp .ge 43, 3) := by decide +kernel
theorem d_StreamReader_skipFields_19 : decode prog_8_method_15_code 19 = .ok (.iload_n 3, 1) := by decide +kernel
theorem d_StreamReader_skipFields_20 : decode prog_8_method_15_code 20 = .ok (.iconst (-1), 1) := by decide +kernel
theorem d_StreamReader_skipFields_21 : decode prog_8_method_15_code 21 = .ok (.if_icmp .eq 38, 3) := by decide +kernel
theorem d_StreamReader_skipFields_24 : decode prog_8_method_15_code 24 = .ok (.aload_n 0, 1) := by decide +kernel
theorem d_StreamReader_skipFields_25 : decode prog_8_method_15_code 25 = .ok (.aload_n 0, 1) := by decide +kernel
theorem d_StreamReader_skipFields_26 : decode prog_8_method_15_code 26 = .ok (.getfield 15, 3) := by decide +kernel
theorem d_StreamReader_skipFields_29 : decode prog_8_method_15_code 29 = .ok (.iload_n 3, 1) := by decide +kernel
theorem d_StreamReader_skipFields_30 : decode prog_8_method_15_code 30 = .ok (.invokevirtual 103, 3) := by decide +kernel
theorem d_StreamReader_skipFields_33 : decode prog_8_method_15_code 33 = .ok (.iload_n 2, 1) := by decide +kernel
theorem d_StreamReader_skipFields_34 : decode prog_8_method_15_code 34 = .ok (.iconst 1, 1) := by decide +kernel
theorem d_StreamReader_skipFields_35 : decode prog_8_method_15_code 35 = .ok (.iadd, 1) := by decide +kernel
theorem d_StreamReader_skipFields_36 : decode prog_8_method_15_code 36 = .ok (.invokevirtual 19, 3) := by decide +kernel
theorem d_StreamReader_skipFields_39 : decode prog_8_method_15_code 39 = .ok (.ifCond .ne 5, 3) := by decide +kernel
theorem d_StreamReader_skipFields_42 : decode prog_8_method_15_code 42 = .ok (.iconst 0, 1) := by decide +kernel
theorem d_StreamReader_skipFields_43 : decode prog_8_method_15_code 43 = .ok (.ireturn, 1) := by decide +kernel
theorem d_StreamReader_skipFields_44 : decode prog_8_method_15_code 44 = .ok (.aload_n 0, 1) := by decide +kernel
theorem d_StreamReader_skipFields_45 : decode prog_8_method_15_code 45 = .ok (.getfield 15, 3) := by decide +kernel
theorem d_StreamReader_skipFields_48 : decode prog_8_method_15_code 48 = .ok (.iload_n 3, 1) := by decide +kernel
theorem d_StreamReader_skipFields_49 : decode prog_8_method_15_code 49 = .ok (.invokevirtual 106, 3) := by decide +kernel
theorem d_StreamReader_skipFields_52 : decode prog_8_method_15_code 52 = .ok (.istore_n 3, 1) := by decide +kernel
theorem d_StreamReader_skipFields_53 : decode prog_8_method_15_code 53 = .ok (.iinc 4 1, 3) := by decide +kernel
theorem d_StreamReader_skipFields_56 : decode prog_8_method_15_code 56 = .ok (.goto (-44), 3) := by decide +kernel
theorem d_StreamReader_skipFields_59 : decode prog_8_method_15_code 59 = .ok (.iconst 1, 1) := by decide +kernel
theorem d_StreamReader_skipFields_60 : decode prog_8_method_15_code 60 = .ok (.ireturn, 1) := by decide +kernel
def StreamReader_skipFields_bd12 (call : ax_Cf)  (k12 : Option Nat → Int32 → Int32 → Int32 → ax_Hp → ax_O) (x0 : Option Nat) (x2 : Int32) (x3 : Int32) (x4 : Int32) (h : ax_Hp) : ax_O :=
  if 6 ≤ x4 then
    ax_rz 1 h
  else
    if x3 = (-1) then
      ax_rz 1 h
    else
      (ax_gr h x0 5 1).bind fun v4 =>
      ax_on h v4 3 <| ax_ci (call 65 [ax_A v4, ax_I x3] h) fun v6 h5 =>
      ax_on h5 x0 5 <| ax_ci (call 111 [ax_A x0, ax_I v6, ax_I (x2 + 1)] h5) fun v8 h7 =>
      if v8 = 0 then
        ax_rz 0 h7
      else
        (ax_gr h7 x0 5 1).bind fun v9 =>
        ax_on h7 v9 3 <| ax_ci (call 63 [ax_A v9, ax_I x3] h7) fun v11 h10 =>
        k12 x0 x2 v11 (x4 + 1) h10
def StreamReader_skipFields_lp12 (call : ax_Cf)  : Nat → Option Nat → Int32 → Int32 → Int32 → ax_Hp → ax_O
  | 0 => fun _ _ _ _ _ => none
  | n + 1 => StreamReader_skipFields_bd12 call  (StreamReader_skipFields_lp12 call  n)
set_option maxHeartbeats 4000000 in
set_option maxRecDepth 20000 in
theorem StreamReader_skipFields_lb12 {l : Launch} {G : ax_G} {d : Nat} {call : ax_Cf} (hcall : ax_Hc l G d call) {p : Program} {e : Env} {s : State} {mi : MethodId} {args : Array Value} {below : List Frame} {meth : Method} {c : Code} {h0 : ax_Hp} (B : ax_B G p s mi meth c "SchemaDesk$StreamReader" prog_8_method_15_code 5 (some (.boolean))) (E : c.exceptionTable.isEmpty = true) (Nm : meth.name = y_StreamReader_skipFields.name)   {k12 : Option Nat → Int32 → Int32 → Int32 → ax_Hp → ax_O} (hk12 : ∀ (x0 : Option Nat) (x2 : Int32) (x3 : Int32) (x4 : Int32) (h : ax_Hp), ax_W G p l e s mi args below meth c 5 (d + 1) h0 12 [(0, ax_A x0), (2, ax_I x2), (3, ax_I x3), (4, ax_I x4)] [] h (k12 x0 x2 x3 x4 h)) (x0 : Option Nat) (x2 : Int32) (x3 : Int32) (x4 : Int32) (h : ax_Hp) : ax_W G p l e s mi args below meth c 5 (d + 1) h0 12 [(0, ax_A x0), (2, ax_I x2), (3, ax_I x3), (4, ax_I x4)] [] h (StreamReader_skipFields_bd12 call  k12 x0 x2 x3 x4 h) := by
  unfold StreamReader_skipFields_bd12
  refine ax_iload B 3 d_StreamReader_skipFields_12 rfl ?_
  refine ax_bipush (v := 6) B d_StreamReader_skipFields_14 (by decide) ?_
  refine ax_icmp_ge B 59 d_StreamReader_skipFields_16 (by decide) ?_ ?_
  · refine ax_iconst (v := 1) B d_StreamReader_skipFields_59 (by decide) ?_
    exact ax_zreturn B d_StreamReader_skipFields_60
  · refine ax_iload_n B 2 d_StreamReader_skipFields_19 rfl rfl ?_
    refine ax_iconst (v := (-1)) B d_StreamReader_skipFields_20 (by decide) ?_
    refine ax_icmp_eq B 59 d_StreamReader_skipFields_21 (by decide) ?_ ?_
    · refine ax_iconst (v := 1) B d_StreamReader_skipFields_59 (by decide) ?_
      exact ax_zreturn B d_StreamReader_skipFields_60
    · refine ax_aload_n B 0 d_StreamReader_skipFields_24 rfl rfl ?_
      refine ax_aload_n B 0 d_StreamReader_skipFields_25 rfl rfl ?_
      refine ax_getfr B cl_StreamReader (by decide) fk_StreamReader_15 d_StreamReader_skipFields_26 (fun v4 => ?_)
      refine ax_iload_n B 2 d_StreamReader_skipFields_29 rfl rfl ?_
      refine ax_callVi (av := [ax_I x3]) (rest := [ax_A x0]) B E hm_Schema_fieldType cl_Schema rfl wd_460 wd_461 lk_StreamReader_103 d_StreamReader_skipFields_30 rfl (Nat.le_of_ble_eq_true rfl) (fun _ _ hh => hcall 65 _ _ _ _ hh) (fun v6 h5 => ?_)
      refine ax_iload_n B 1 d_StreamReader_skipFields_33 rfl rfl ?_
      refine ax_iconst (v := 1) B d_StreamReader_skipFields_34 (by decide) ?_
      refine ax_iadd B d_StreamReader_skipFields_35 ?_
      refine ax_callVi (av := [ax_I v6, ax_I (x2 + 1)]) (rest := []) B E hm_StreamReader_skip cl_StreamReader rfl wd_692 wp_22 lk_StreamReader_19 d_StreamReader_skipFields_36 rfl (Nat.le_of_ble_eq_true rfl) (fun _ _ hh => hcall 111 _ _ _ _ hh) (fun v8 h7 => ?_)
      refine ax_if_ne B 44 d_StreamReader_skipFields_39 (by decide) ?_ ?_
      · refine ax_aload_n B 0 d_StreamReader_skipFields_44 rfl rfl ?_
        refine ax_getfr B cl_StreamReader (by decide) fk_StreamReader_15 d_StreamReader_skipFields_45 (fun v9 => ?_)
        refine ax_iload_n B 2 d_StreamReader_skipFields_48 rfl rfl ?_
        refine ax_callVi (av := [ax_I x3]) (rest := []) B E hm_Schema_nextPart cl_Schema rfl wd_452 wd_453 lk_StreamReader_106 d_StreamReader_skipFields_49 rfl (Nat.le_of_ble_eq_true rfl) (fun _ _ hh => hcall 63 _ _ _ _ hh) (fun v11 h10 => ?_)
        refine ax_istore_n (tv2 := [(3, ax_I v11), (0, ax_A x0), (2, ax_I x2), (4, ax_I x4)]) B d_StreamReader_skipFields_52 rfl (by decide) rfl ?_
        refine ax_iinc (v := x4 + 1) (tv2 := [(4, ax_I (x4 + 1)), (3, ax_I v11), (0, ax_A x0), (2, ax_I x2)]) B 3 d_StreamReader_skipFields_53 rfl (congrArg (_ + ·) (by decide)) (by decide) rfl ?_
        refine ax_goto B 12 d_StreamReader_skipFields_56 (by decide) ?_
        refine ax_sub (tv2 := [(0, ax_A x0), (2, ax_I x2), (3, ax_I v11), (4, ax_I (x4 + 1))]) [2, 3, 1, 0] rfl ?_
        exact hk12 x0 x2 v11 (x4 + 1) h10
      · refine ax_iconst (v := 0) B d_StreamReader_skipFields_42 (by decide) ?_
        exact ax_zreturn B d_StreamReader_skipFields_43
theorem StreamReader_skipFields_lq12 {l : Launch} {G : ax_G} {d : Nat} {call : ax_Cf} (hcall : ax_Hc l G d call) {p : Program} {e : Env} {s : State} {mi : MethodId} {args : Array Value} {below : List Frame} {meth : Method} {c : Code} {h0 : ax_Hp} (B : ax_B G p s mi meth c "SchemaDesk$StreamReader" prog_8_method_15_code 5 (some (.boolean))) (E : c.exceptionTable.isEmpty = true) (Nm : meth.name = y_StreamReader_skipFields.name)   : ∀ (n : Nat) (x0 : Option Nat) (x2 : Int32) (x3 : Int32) (x4 : Int32) (h : ax_Hp), ax_W G p l e s mi args below meth c 5 (d + 1) h0 12 [(0, ax_A x0), (2, ax_I x2), (3, ax_I x3), (4, ax_I x4)] [] h (StreamReader_skipFields_lp12 call  n x0 x2 x3 x4 h)
  | 0, _, _, _, _, _ => ax_none
  | n + 1, x0, x2, x3, x4, h => StreamReader_skipFields_lb12 hcall B E Nm   (StreamReader_skipFields_lq12 hcall B E Nm   n) x0 x2 x3 x4 h
def StreamReader_skipFields_b (call : ax_Cf) (x0 : Option Nat) (x1 : Int32) (x2 : Int32) (h : ax_Hp) : ax_O :=
  (ax_gr h x0 5 1).bind fun v1 =>
  ax_on h v1 3 <| ax_ci (call 60 [ax_A v1, ax_I x1] h) fun v3 h2 =>
  StreamReader_skipFields_lp12 call ax_fuel x0 x2 v3 0 h2
set_option maxHeartbeats 4000000 in
set_option maxRecDepth 20000 in
theorem StreamReader_skipFields_t {l : Launch} {G : ax_G} {d : Nat} {call : ax_Cf} (hcall : ax_Hc l G d call) (x0 : Option Nat) (x1 : Int32) (x2 : Int32) (h : ax_Hp) {r : ax_Rs} {h' : ax_Hp} (ho : StreamReader_skipFields_b call x0 x1 x2 h = some (r, h')) : ax_C l G (d + 1) y_StreamReader_skipFields (.code y_StreamReader_skipFields prog_8_method_15_code 5 (some (.boolean))) [ax_A x0, ax_I x1, ax_I x2] h r h' := by
  refine ax_enter (by decide) (Nat.le_of_ble_eq_true rfl) ho (fun p e s mi args below meth c B E Nm => ?_)
  have B : ax_B G p s mi meth c "SchemaDesk$StreamReader" prog_8_method_15_code 5 (some (.boolean)) := B
  show ax_W G p l e s mi args below meth c 5 (d + 1) h 0 [(0, ax_A x0), (1, ax_I x1), (2, ax_I x2)] [] h (StreamReader_skipFields_b call x0 x1 x2 h)
  unfold StreamReader_skipFields_b
  refine ax_aload_n B 0 d_StreamReader_skipFields_0 rfl rfl ?_
  refine ax_getfr B cl_StreamReader (by decide) fk_StreamReader_15 d_StreamReader_skipFields_1 (fun v1 => ?_)
  refine ax_iload_n B 1 d_StreamReader_skipFields_4 rfl rfl ?_
  refine ax_callVi (av := [ax_I x1]) (rest := []) B E hm_Schema_firstPart cl_Schema rfl wd_439 wd_440 lk_StreamReader_100 d_StreamReader_skipFields_5 rfl (Nat.le_of_ble_eq_true rfl) (fun _ _ hh => hcall 60 _ _ _ _ hh) (fun v3 h2 => ?_)
  refine ax_istore_n (tv2 := [(3, ax_I v3), (0, ax_A x0), (1, ax_I x1), (2, ax_I x2)]) B d_StreamReader_skipFields_8 rfl (by decide) rfl ?_
  refine ax_iconst (v := 0) B d_StreamReader_skipFields_9 (by decide) ?_
  refine ax_istore (tv2 := [(4, ax_I 0), (3, ax_I v3), (0, ax_A x0), (1, ax_I x1), (2, ax_I x2)]) B d_StreamReader_skipFields_10 (by decide) rfl ?_
  refine ax_sub (tv2 := [(0, ax_A x0), (2, ax_I x2), (3, ax_I v3), (4, ax_I 0)]) [2, 4, 1, 0] rfl ?_
  exact StreamReader_skipFields_lq12 hcall B E Nm ax_fuel x0 x2 v3 0 h2

theorem d_StreamReader_number_0 : decode prog_8_method_3_code 0 = .ok (.aload_n 0, 1) := by decide +kernel
theorem d_StreamReader_number_1 : decode prog_8_method_3_code 1 = .ok (.getfield 29, 3) := by decide +kernel
theorem d_StreamReader_number_4 : decode prog_8_method_3_code 4 = .ok (.lreturn, 1) := by decide +kernel
def StreamReader_number_b (call : ax_Cf) (x0 : Option Nat) (h : ax_Hp) : ax_O :=
  (ax_gl h x0 5 2).bind fun v1 =>
  ax_rl v1 h
set_option maxHeartbeats 4000000 in
set_option maxRecDepth 20000 in
theorem StreamReader_number_t {l : Launch} {G : ax_G} {d : Nat} {call : ax_Cf} (hcall : ax_Hc l G d call) (x0 : Option Nat) (h : ax_Hp) {r : ax_Rs} {h' : ax_Hp} (ho : StreamReader_number_b call x0 h = some (r, h')) : ax_C l G (d + 1) y_StreamReader_number (.code y_StreamReader_number prog_8_method_3_code 1 (some (.long))) [ax_A x0] h r h' := by
  refine ax_enter (by decide) (Nat.le_of_ble_eq_true rfl) ho (fun p e s mi args below meth c B E Nm => ?_)
  have B : ax_B G p s mi meth c "SchemaDesk$StreamReader" prog_8_method_3_code 1 (some (.long)) := B
  show ax_W G p l e s mi args below meth c 1 (d + 1) h 0 [(0, ax_A x0)] [] h (StreamReader_number_b call x0 h)
  unfold StreamReader_number_b
  refine ax_aload_n B 0 d_StreamReader_number_0 rfl rfl ?_
  refine ax_getfl B cl_StreamReader (by decide) fk_StreamReader_29 d_StreamReader_number_1 (fun v1 => ?_)
  exact ax_lreturn B d_StreamReader_number_4

theorem d_StreamReader_skipField_0 : decode prog_8_method_4_code 0 = .ok (.aload_n 0, 1) := by decide +kernel
theorem d_StreamReader_skipField_1 : decode prog_8_method_4_code 1 = .ok (.iload_n 1, 1) := by decide +kernel
theorem d_StreamReader_skipField_2 : decode prog_8_method_4_code 2 = .ok (.iconst 0, 1) := by decide +kernel
theorem d_StreamReader_skipField_3 : decode prog_8_method_4_code 3 = .ok (.invokevirtual 19, 3) := by decide +kernel
theorem d_StreamReader_skipField_6 : decode prog_8_method_4_code 6 = .ok (.ireturn, 1) := by decide +kernel
def StreamReader_skipField_b (call : ax_Cf) (x0 : Option Nat) (x1 : Int32) (h : ax_Hp) : ax_O :=
  ax_on h x0 5 <| ax_ci (call 111 [ax_A x0, ax_I x1, ax_I 0] h) fun v2 h1 =>
  ax_rz v2 h1
set_option maxHeartbeats 4000000 in
set_option maxRecDepth 20000 in
theorem StreamReader_skipField_t {l : Launch} {G : ax_G} {d : Nat} {call : ax_Cf} (hcall : ax_Hc l G d call) (x0 : Option Nat) (x1 : Int32) (h : ax_Hp) {r : ax_Rs} {h' : ax_Hp} (ho : StreamReader_skipField_b call x0 x1 h = some (r, h')) : ax_C l G (d + 1) y_StreamReader_skipField (.code y_StreamReader_skipField prog_8_method_4_code 2 (some (.boolean))) [ax_A x0, ax_I x1] h r h' := by
  refine ax_enter (by decide) (Nat.le_of_ble_eq_true rfl) ho (fun p e s mi args below meth c B E Nm => ?_)
  have B : ax_B G p s mi meth c "SchemaDesk$StreamReader" prog_8_method_4_code 2 (some (.boolean)) := B
  show ax_W G p l e s mi args below meth c 2 (d + 1) h 0 [(0, ax_A x0), (1, ax_I x1)] [] h (StreamReader_skipField_b call x0 x1 h)
  unfold StreamReader_skipField_b
  refine ax_aload_n B 0 d_StreamReader_skipField_0 rfl rfl ?_
  refine ax_iload_n B 1 d_StreamReader_skipField_1 rfl rfl ?_
  refine ax_iconst (v := 0) B d_StreamReader_skipField_2 (by decide) ?_
  refine ax_callVi (av := [ax_I x1, ax_I 0]) (rest := []) B E hm_StreamReader_skip cl_StreamReader rfl wd_692 wp_22 lk_StreamReader_19 d_StreamReader_skipField_3 rfl (Nat.le_of_ble_eq_true rfl) (fun _ _ hh => hcall 111 _ _ _ _ hh) (fun v2 h1 => ?_)
  exact ax_zreturn B d_StreamReader_skipField_6
