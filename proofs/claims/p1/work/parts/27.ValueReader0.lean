theorem d_ValueReader_init_0 : decode prog_10_method_1_code 0 = .ok (.aload_n 0, 1) := by decide +kernel
theorem d_ValueReader_init_1 : decode prog_10_method_1_code 1 = .ok (.invokespecial 3, 3) := by decide +kernel
theorem d_ValueReader_init_4 : decode prog_10_method_1_code 4 = .ok (.aload_n 0, 1) := by decide +kernel
theorem d_ValueReader_init_5 : decode prog_10_method_1_code 5 = .ok (.aload_n 1, 1) := by decide +kernel
theorem d_ValueReader_init_6 : decode prog_10_method_1_code 6 = .ok (.putfield 9, 3) := by decide +kernel
theorem d_ValueReader_init_9 : decode prog_10_method_1_code 9 = .ok (.aload_n 0, 1) := by decide +kernel
theorem d_ValueReader_init_10 : decode prog_10_method_1_code 10 = .ok (.aload_n 2, 1) := by decide +kernel
theorem d_ValueReader_init_11 : decode prog_10_method_1_code 11 = .ok (.putfield 15, 3) := by decide +kernel
theorem d_ValueReader_init_14 : decode prog_10_method_1_code 14 = .ok (.aload_n 0, 1) := by decide +kernel
theorem d_ValueReader_init_15 : decode prog_10_method_1_code 15 = .ok (.aload_n 3, 1) := by decide +kernel
theorem d_ValueReader_init_16 : decode prog_10_method_1_code 16 = .ok (.putfield 19, 3) := by decide +kernel
theorem d_ValueReader_init_19 : decode prog_10_method_1_code 19 = .ok (.aload_n 0, 1) := by decide +kernel
theorem d_ValueReader_init_20 : decode prog_10_method_1_code 20 = .ok (.iload 4, 2) := by decide +kernel
theorem d_ValueReader_init_22 : decode prog_10_method_1_code 22 = .ok (.putfield 23, 3) := by decide +kernel
theorem d_ValueReader_init_25 : decode prog_10_method_1_code 25 = .ok (.return_, 1) := by decide +kernel
def ValueReader_init_b (call : ax_Cf) (x0 : Nat) (x1 : Option Nat) (x2 : Option Nat) (x3 : Option Nat) (x4 : Int32) (h : ax_Hp) : ax_O :=
  (ax_pf h (some x0) 7 0 (ax_A x1)).bind fun h1 =>
  (ax_pf h1 (some x0) 7 1 (ax_A x2)).bind fun h2 =>
  (ax_pf h2 (some x0) 7 2 (ax_A x3)).bind fun h3 =>
  (ax_pz h3 (some x0) 7 3 x4).bind fun h4 =>
  ax_rv h4
set_option maxHeartbeats 4000000 in
set_option maxRecDepth 20000 in
theorem ValueReader_init_t {l : Launch} {G : ax_G} {d : Nat} {call : ax_Cf} (hcall : ax_Hc l G d call) (x0 : Nat) (x1 : Option Nat) (x2 : Option Nat) (x3 : Option Nat) (x4 : Int32) (h : ax_Hp) {r : ax_Rs} {h' : ax_Hp} (ho : ValueReader_init_b call x0 x1 x2 x3 x4 h = some (r, h')) : ax_C l G (d + 1) y_ValueReader_init (.code y_ValueReader_init prog_10_method_1_code 5 none) [ax_A (some x0), ax_A x1, ax_A x2, ax_A x3, ax_I x4] h r h' := by
  refine ax_enter (by decide) (Nat.le_of_ble_eq_true rfl) ho (fun p e s mi args below meth c B E Nm => ?_)
  have B : ax_B G p s mi meth c "SchemaDesk$ValueReader" prog_10_method_1_code 5 none := B
  show ax_W G p l e s mi args below meth c 5 (d + 1) h 0 [(0, ax_A (some x0)), (1, ax_A x1), (2, ax_A x2), (3, ax_A x3), (4, ax_I x4)] [] h (ValueReader_init_b call x0 x1 x2 x3 x4 h)
  unfold ValueReader_init_b
  refine ax_aload_n B 0 d_ValueReader_init_0 rfl rfl ?_
  refine ax_objinit B wd_262 wd_27 wd_objcode (Nat.le_of_ble_eq_true rfl) d_ValueReader_init_1 ?_
  refine ax_aload_n B 0 d_ValueReader_init_4 rfl rfl ?_
  refine ax_aload_n B 1 d_ValueReader_init_5 rfl rfl ?_
  refine ax_putf (v := ax_A x1) B cl_ValueReader (by decide) fk_ValueReader_9 (Or.inr ⟨wd_263, rfl, Nm, rfl⟩) (fun _ => ax_narO) (fun _ => ax_fitO) d_ValueReader_init_6 (fun h1 => ?_)
  refine ax_aload_n B 0 d_ValueReader_init_9 rfl rfl ?_
  refine ax_aload_n B 2 d_ValueReader_init_10 rfl rfl ?_
  refine ax_putf (v := ax_A x2) B cl_ValueReader (by decide) fk_ValueReader_15 (Or.inr ⟨wd_264, rfl, Nm, rfl⟩) (fun _ => ax_narO) (fun _ => ax_fitO) d_ValueReader_init_11 (fun h2 => ?_)
  refine ax_aload_n B 0 d_ValueReader_init_14 rfl rfl ?_
  refine ax_aload_n B 3 d_ValueReader_init_15 rfl rfl ?_
  refine ax_putf (v := ax_A x3) B cl_ValueReader (by decide) fk_ValueReader_19 (Or.inr ⟨wd_265, rfl, Nm, rfl⟩) (fun _ => ax_narO) (fun _ => ax_fitO) d_ValueReader_init_16 (fun h3 => ?_)
  refine ax_aload_n B 0 d_ValueReader_init_19 rfl rfl ?_
  refine ax_iload B 4 d_ValueReader_init_20 rfl ?_
  refine ax_putfz B cl_ValueReader (by decide) fk_ValueReader_23 (Or.inr ⟨wd_266, rfl, Nm, rfl⟩) rfl d_ValueReader_init_22 (fun h4 => ?_)
  exact ax_vreturn B d_ValueReader_init_25

theorem d_ValueReader_readLiteral_0 : decode prog_10_method_3_code 0 = .ok (.aload_n 0, 1) := by decide +kernel
theorem d_ValueReader_readLiteral_1 : decode prog_10_method_3_code 1 = .ok (.iload_n 1, 1) := by decide +kernel
theorem d_ValueReader_readLiteral_2 : decode prog_10_method_3_code 2 = .ok (.iconst 0, 1) := by decide +kernel
theorem d_ValueReader_readLiteral_3 : decode prog_10_method_3_code 3 = .ok (.invokevirtual 27, 3) := by decide +kernel
theorem d_ValueReader_readLiteral_6 : decode prog_10_method_3_code 6 = .ok (.ireturn, 1) := by decide +kernel
def ValueReader_readLiteral_b (call : ax_Cf) (x0 : Option Nat) (x1 : Int32) (h : ax_Hp) : ax_O :=
  ax_on h x0 7 <| ax_ci (call 43 [ax_A x0, ax_I x1, ax_I 0] h) fun v2 h1 =>
  ax_rz v2 h1
set_option maxHeartbeats 4000000 in
set_option maxRecDepth 20000 in
theorem ValueReader_readLiteral_t {l : Launch} {G : ax_G} {d : Nat} {call : ax_Cf} (hcall : ax_Hc l G d call) (x0 : Option Nat) (x1 : Int32) (h : ax_Hp) {r : ax_Rs} {h' : ax_Hp} (ho : ValueReader_readLiteral_b call x0 x1 h = some (r, h')) : ax_C l G (d + 1) y_ValueReader_readLiteral (.code y_ValueReader_readLiteral prog_10_method_3_code 2 (some (.boolean))) [ax_A x0, ax_I x1] h r h' := by
  refine ax_enter (by decide) (Nat.le_of_ble_eq_true rfl) ho (fun p e s mi args below meth c B E Nm => ?_)
  have B : ax_B G p s mi meth c "SchemaDesk$ValueReader" prog_10_method_3_code 2 (some (.boolean)) := B
  show ax_W G p l e s mi args below meth c 2 (d + 1) h 0 [(0, ax_A x0), (1, ax_I x1)] [] h (ValueReader_readLiteral_b call x0 x1 h)
  unfold ValueReader_readLiteral_b
  refine ax_aload_n B 0 d_ValueReader_readLiteral_0 rfl rfl ?_
  refine ax_iload_n B 1 d_ValueReader_readLiteral_1 rfl rfl ?_
  refine ax_iconst (v := 0) B d_ValueReader_readLiteral_2 (by decide) ?_
  refine ax_callVi (av := [ax_I x1, ax_I 0]) (rest := []) B E hm_ValueReader_readPart cl_ValueReader rfl wd_364 wp_9 lk_ValueReader_27 d_ValueReader_readLiteral_3 rfl (Nat.le_of_ble_eq_true rfl) (fun _ _ hh => hcall 43 _ _ _ _ hh) (fun v2 h1 => ?_)
  exact ax_zreturn B d_ValueReader_readLiteral_6

theorem d_ValueReader_readPart_0 : decode prog_10_method_4_code 0 = .ok (.iload_n 2, 1) := by decide +kernel
theorem d_ValueReader_readPart_1 : decode prog_10_method_4_code 1 = .ok (.bipush 6, 2) := by decide +kernel
theorem d_ValueReader_readPart_3 : decode prog_10_method_4_code 3 = .ok (.if_icmp .le 5, 3) := by decide +kernel
theorem d_ValueReader_readPart_6 : decode prog_10_method_4_code 6 = .ok (.iconst 0, 1) := by decide +kernel
theorem d_ValueReader_readPart_7 : decode prog_10_method_4_code 7 = .ok (.ireturn, 1) := by decide +kernel
theorem d_ValueReader_readPart_8 : decode prog_10_method_4_code 8 = .ok (.aload_n 0, 1) := by decide +kernel
theorem d_ValueReader_readPart_9 : decode prog_10_method_4_code 9 = .ok (.getfield 15, 3) := by decide +kernel
theorem d_ValueReader_readPart_12 : decode prog_10_method_4_code 12 = .ok (.iload_n 1, 1) := by decide +kernel
theorem d_ValueReader_readPart_13 : decode prog_10_method_4_code 13 = .ok (.invokevirtual 37, 3) := by decide +kernel
theorem d_ValueReader_readPart_16 : decode prog_10_method_4_code 16 = .ok (.tableswitch 179 65 85 #[142, 110, 179, 179, 136, 179, 179, 179, 115, 179, 179, 123, 179, 100, 179, 179, 179, 172, 131, 179, 149], 100) := by decide +kernel
theorem d_ValueReader_readPart_116 : decode prog_10_method_4_code 116 = .ok (.aload_n 0, 1) := by decide +kernel
theorem d_ValueReader_readPart_117 : decode prog_10_method_4_code 117 = .ok (.getfield 9, 3) := by decide +kernel
theorem d_ValueReader_readPart_120 : decode prog_10_method_4_code 120 = .ok (.bipush 78, 2) := by decide +kernel
theorem d_ValueReader_readPart_122 : decode prog_10_method_4_code 122 = .ok (.invokevirtual 43, 3) := by decide +kernel
theorem d_ValueReader_readPart_125 : decode prog_10_method_4_code 125 = .ok (.ireturn, 1) := by decide +kernel
theorem d_ValueReader_readPart_126 : decode prog_10_method_4_code 126 = .ok (.aload_n 0, 1) := by decide +kernel
theorem d_ValueReader_readPart_127 : decode prog_10_method_4_code 127 = .ok (.invokevirtual 47, 3) := by decide +kernel
theorem d_ValueReader_readPart_130 : decode prog_10_method_4_code 130 = .ok (.ireturn, 1) := by decide +kernel
theorem d_ValueReader_readPart_131 : decode prog_10_method_4_code 131 = .ok (.aload_n 0, 1) := by decide +kernel
theorem d_ValueReader_readPart_132 : decode prog_10_method_4_code 132 = .ok (.ldc2_w 50, 3) := by decide +kernel
theorem d_ValueReader_readPart_135 : decode prog_10_method_4_code 135 = .ok (.invokevirtual 52, 3) := by decide +kernel
theorem d_ValueReader_readPart_138 : decode prog_10_method_4_code 138 = .ok (.ireturn, 1) := by decide +kernel
theorem d_ValueReader_readPart_139 : decode prog_10_method_4_code 139 = .ok (.aload_n 0, 1) := by decide +kernel
theorem d_ValueReader_readPart_140 : decode prog_10_method_4_code 140 = .ok (.ldc2_w 56, 3) := by decide +kernel
theorem d_ValueReader_readPart_143 : decode prog_10_method_4_code 143 = .ok (.invokevirtual 52, 3) := by decide +kernel
theorem d_ValueReader_readPart_146 : decode prog_10_method_4_code 146 = .ok (.ireturn, 1) := by decide +kernel
theorem d_ValueReader_readPart_147 : decode prog_10_method_4_code 147 = .ok (.aload_n 0, 1) := by decide +kernel
theorem d_ValueReader_readPart_148 : decode prog_10_method_4_code 148 = .ok (.invokevirtual 58, 3) := by decide +kernel
theorem d_ValueReader_readPart_151 : decode prog_10_method_4_code 151 = .ok (.ireturn, 1) := by decide +kernel
theorem d_ValueReader_readPart_152 : decode prog_10_method_4_code 152 = .ok (.aload_n 0, 1) := by decide +kernel
theorem d_ValueReader_readPart_153 : decode prog_10_method_4_code 153 = .ok (.iload_n 1, 1) := by decide +kernel
theorem d_ValueReader_readPart_154 : decode prog_10_method_4_code 154 = .ok (.invokevirtual 61, 3) := by decide +kernel
theorem d_ValueReader_readPart_157 : decode prog_10_method_4_code 157 = .ok (.ireturn, 1) := by decide +kernel
theorem d_ValueReader_readPart_158 : decode prog_10_method_4_code 158 = .ok (.aload_n 0, 1) := by decide +kernel
theorem d_ValueReader_readPart_159 : decode prog_10_method_4_code 159 = .ok (.iload_n 1, 1) := by decide +kernel
theorem d_ValueReader_readPart_160 : decode prog_10_method_4_code 160 = .ok (.iload_n 2, 1) := by decide +kernel
theorem d_ValueReader_readPart_161 : decode prog_10_method_4_code 161 = .ok (.invokevirtual 64, 3) := by decide +kernel
theorem d_ValueReader_readPart_164 : decode prog_10_method_4_code 164 = .ok (.ireturn, 1) := by decide +kernel
theorem d_ValueReader_readPart_165 : decode prog_10_method_4_code 165 = .ok (.aload_n 0, 1) := by decide +kernel
theorem d_ValueReader_readPart_166 : decode prog_10_method_4_code 166 = .ok (.getfield 23, 3) := by decide +kernel
theorem d_ValueReader_readPart_169 : decode prog_10_method_4_code 169 = .ok (.ifCond .eq 12, 3) := by decide +kernel
theorem d_ValueReader_readPart_172 : decode prog_10_method_4_code 172 = .ok (.aload_n 0, 1) := by decide +kernel
theorem d_ValueReader_readPart_173 : decode prog_10_method_4_code 173 = .ok (.iload_n 1, 1) := by decide +kernel
theorem d_ValueReader_readPart_174 : decode prog_10_method_4_code 174 = .ok (.iload_n 2, 1) := by decide +kernel
theorem d_ValueReader_readPart_175 : decode prog_10_method_4_code 175 = .ok (.invokevirtual 67, 3) := by decide +kernel
theorem d_ValueReader_readPart_178 : decode prog_10_method_4_code 178 = .ok (.goto 9, 3) := by decide +kernel
theorem d_ValueReader_readPart_181 : decode prog_10_method_4_code 181 = .ok (.aload_n 0, 1) := by decide +kernel
theorem d_ValueReader_readPart_182 : decode prog_10_method_4_code 182 = .ok (.iload_n 1, 1) := by decide +kernel
theorem d_ValueReader_readPart_183 : decode prog_10_method_4_code 183 = .ok (.iload_n 2, 1) := by decide +kernel
theorem d_ValueReader_readPart_184 : decode prog_10_method_4_code 184 = .ok (.invokevirtual 70, 3) := by decide +kernel
theorem d_ValueReader_readPart_187 : decode prog_10_method_4_code 187 = .ok (.ireturn, 1) := by decide +kernel
theorem d_ValueReader_readPart_188 : decode prog_10_method_4_code 188 = .ok (.aload_n 0, 1) := by decide +kernel
theorem d_ValueReader_readPart_189 : decode prog_10_method_4_code 189 = .ok (.iload_n 1, 1) := by decide +kernel
theorem d_ValueReader_readPart_190 : decode prog_10_method_4_code 190 = .ok (.iload_n 2, 1) := by decide +kernel
theorem d_ValueReader_readPart_191 : decode prog_10_method_4_code 191 = .ok (.invokevirtual 73, 3) := by decide +kernel
theorem d_ValueReader_readPart_194 : decode prog_10_method_4_code 194 = .ok (.ireturn, 1) := by decide +kernel
theorem d_ValueReader_readPart_195 : decode prog_10_method_4_code 195 = .ok (.iconst 0, 1) := by decide +kernel
theorem d_ValueReader_readPart_196 : decode prog_10_method_4_code 196 = .ok (.ireturn, 1) := by decide +kernel
def ValueReader_readPart_b (call : ax_Cf) (x0 : Option Nat) (x1 : Int32) (x2 : Int32) (h : ax_Hp) : ax_O :=
  if x2 ≤ 6 then
    (ax_gr h x0 7 1).bind fun v1 =>
    ax_on h v1 3 <| ax_ci (call 44 [ax_A v1, ax_I x1] h) fun v3 h2 =>
    if v3.toInt = 65 then
      ax_on h2 x0 7 <| ax_ci (call 56 [ax_A x0, ax_I x1, ax_I x2] h2) fun v5 h4 =>
      ax_rz v5 h4
    else
    if v3.toInt = 66 then
      ax_on h2 x0 7 <| ax_ci (call 46 [ax_A x0] h2) fun v7 h6 =>
      ax_rz v7 h6
    else
    if v3.toInt = 67 then
      ax_rz 0 h2
    else
    if v3.toInt = 68 then
      ax_rz 0 h2
    else
    if v3.toInt = 69 then
      ax_on h2 x0 7 <| ax_ci (call 54 [ax_A x0, ax_I x1] h2) fun v9 h8 =>
      ax_rz v9 h8
    else
    if v3.toInt = 70 then
      ax_rz 0 h2
    else
    if v3.toInt = 71 then
      ax_rz 0 h2
    else
    if v3.toInt = 72 then
      ax_rz 0 h2
    else
    if v3.toInt = 73 then
      ax_on h2 x0 7 <| ax_ci (call 47 [ax_A x0, ax_L 2147483647] h2) fun v11 h10 =>
      ax_rz v11 h10
    else
    if v3.toInt = 74 then
      ax_rz 0 h2
    else
    if v3.toInt = 75 then
      ax_rz 0 h2
    else
    if v3.toInt = 76 then
      ax_on h2 x0 7 <| ax_ci (call 47 [ax_A x0, ax_L 9223372036854775807] h2) fun v13 h12 =>
      ax_rz v13 h12
    else
    if v3.toInt = 77 then
      ax_rz 0 h2
    else
    if v3.toInt = 78 then
      (ax_gr h2 x0 7 0).bind fun v14 =>
      ax_on h2 v14 0 <| ax_ci (call 30 [ax_A v14, ax_I 78] h2) fun v16 h15 =>
      ax_rz v16 h15
    else
    if v3.toInt = 79 then
      ax_rz 0 h2
    else
    if v3.toInt = 80 then
      ax_rz 0 h2
    else
    if v3.toInt = 81 then
      ax_rz 0 h2
    else
    if v3.toInt = 82 then
      ax_on h2 x0 7 <| ax_ci (call 64 [ax_A x0, ax_I x1, ax_I x2] h2) fun v18 h17 =>
      ax_rz v18 h17
    else
    if v3.toInt = 83 then
      ax_on h2 x0 7 <| ax_ci (call 50 [ax_A x0] h2) fun v20 h19 =>
      ax_rz v20 h19
    else
    if v3.toInt = 84 then
      ax_rz 0 h2
    else
    if v3.toInt = 85 then
      (ax_gi h2 x0 7 3).bind fun v21 =>
      if v21 = 0 then
        ax_on h2 x0 7 <| ax_ci (call 61 [ax_A x0, ax_I x1, ax_I x2] h2) fun v23 h22 =>
        ax_rz v23 h22
      else
        ax_on h2 x0 7 <| ax_ci (call 58 [ax_A x0, ax_I x1, ax_I x2] h2) fun v25 h24 =>
        ax_rz v25 h24
    else
    ax_rz 0 h2
  else
    ax_rz 0 h
set_option maxHeartbeats 4000000 in
set_option maxRecDepth 20000 in
theorem ValueReader_readPart_t {l : Launch} {G : ax_G} {d : Nat} {call : ax_Cf} (hcall : ax_Hc l G d call) (x0 : Option Nat) (x1 : Int32) (x2 : Int32) (h : ax_Hp) {r : ax_Rs} {h' : ax_Hp} (ho : ValueReader_readPart_b call x0 x1 x2 h = some (r, h')) : ax_C l G (d + 1) y_ValueReader_readPart (.code y_ValueReader_readPart prog_10_method_4_code 3 (some (.boolean))) [ax_A x0, ax_I x1, ax_I x2] h r h' := by
  refine ax_enter (by decide) (Nat.le_of_ble_eq_true rfl) ho (fun p e s mi args below meth c B E Nm => ?_)
  have B : ax_B G p s mi meth c "SchemaDesk$ValueReader" prog_10_method_4_code 3 (some (.boolean)) := B
  show ax_W G p l e s mi args below meth c 3 (d + 1) h 0 [(0, ax_A x0), (1, ax_I x1), (2, ax_I x2)] [] h (ValueReader_readPart_b call x0 x1 x2 h)
  unfold ValueReader_readPart_b
  refine ax_iload_n B 2 d_ValueReader_readPart_0 rfl rfl ?_
  refine ax_bipush (v := 6) B d_ValueReader_readPart_1 (by decide) ?_
  refine ax_icmp_le B 8 d_ValueReader_readPart_3 (by decide) ?_ ?_
  · refine ax_aload_n B 0 d_ValueReader_readPart_8 rfl rfl ?_
    refine ax_getfr B cl_ValueReader (by decide) fk_ValueReader_15 d_ValueReader_readPart_9 (fun v1 => ?_)
    refine ax_iload_n B 1 d_ValueReader_readPart_12 rfl rfl ?_
    refine ax_callVi (av := [ax_I x1]) (rest := []) B E hm_Schema_kind cl_Schema rfl wd_367 wd_368 lk_ValueReader_37 d_ValueReader_readPart_13 rfl (Nat.le_of_ble_eq_true rfl) (fun _ _ hh => hcall 44 _ _ _ _ hh) (fun v3 h2 => ?_)
    refine ax_table B d_ValueReader_readPart_16 (by decide) ?_
    refine ⟨_, _, rfl, ⟨158, by decide, ?_⟩, ?_⟩
    · refine ax_aload_n B 0 d_ValueReader_readPart_158 rfl rfl ?_
      refine ax_iload_n B 1 d_ValueReader_readPart_159 rfl rfl ?_
      refine ax_iload_n B 2 d_ValueReader_readPart_160 rfl rfl ?_
      refine ax_callVi (av := [ax_I x1, ax_I x2]) (rest := []) B E hm_ValueReader_readElements cl_ValueReader rfl wd_423 wp_15 lk_ValueReader_64 d_ValueReader_readPart_161 rfl (Nat.le_of_ble_eq_true rfl) (fun _ _ hh => hcall 56 _ _ _ _ hh) (fun v5 h4 => ?_)
      exact ax_zreturn B d_ValueReader_readPart_164
    refine ⟨_, _, rfl, ⟨126, by decide, ?_⟩, ?_⟩
    · refine ax_aload_n B 0 d_ValueReader_readPart_126 rfl rfl ?_
      refine ax_callVi (av := []) (rest := []) B E hm_ValueReader_readBoolean cl_ValueReader rfl wd_377 wp_10 lk_ValueReader_47 d_ValueReader_readPart_127 rfl (Nat.le_of_ble_eq_true rfl) (fun _ _ hh => hcall 46 _ _ _ _ hh) (fun v7 h6 => ?_)
      exact ax_zreturn B d_ValueReader_readPart_130
    refine ⟨_, _, rfl, ⟨195, by decide, ?_⟩, ?_⟩
    · refine ax_iconst (v := 0) B d_ValueReader_readPart_195 (by decide) ?_
      exact ax_zreturn B d_ValueReader_readPart_196
    refine ⟨_, _, rfl, ⟨195, by decide, ?_⟩, ?_⟩
    · refine ax_iconst (v := 0) B d_ValueReader_readPart_195 (by decide) ?_
      exact ax_zreturn B d_ValueReader_readPart_196
    refine ⟨_, _, rfl, ⟨152, by decide, ?_⟩, ?_⟩
    · refine ax_aload_n B 0 d_ValueReader_readPart_152 rfl rfl ?_
      refine ax_iload_n B 1 d_ValueReader_readPart_153 rfl rfl ?_
      refine ax_callVi (av := [ax_I x1]) (rest := []) B E hm_ValueReader_readSymbol cl_ValueReader rfl wd_414 wp_14 lk_ValueReader_61 d_ValueReader_readPart_154 rfl (Nat.le_of_ble_eq_true rfl) (fun _ _ hh => hcall 54 _ _ _ _ hh) (fun v9 h8 => ?_)
      exact ax_zreturn B d_ValueReader_readPart_157
    refine ⟨_, _, rfl, ⟨195, by decide, ?_⟩, ?_⟩
    · refine ax_iconst (v := 0) B d_ValueReader_readPart_195 (by decide) ?_
      exact ax_zreturn B d_ValueReader_readPart_196
    refine ⟨_, _, rfl, ⟨195, by decide, ?_⟩, ?_⟩
    · refine ax_iconst (v := 0) B d_ValueReader_readPart_195 (by decide) ?_
      exact ax_zreturn B d_ValueReader_readPart_196
    refine ⟨_, _, rfl, ⟨195, by decide, ?_⟩, ?_⟩
    · refine ax_iconst (v := 0) B d_ValueReader_readPart_195 (by decide) ?_
      exact ax_zreturn B d_ValueReader_readPart_196
    refine ⟨_, _, rfl, ⟨131, by decide, ?_⟩, ?_⟩
    · refine ax_aload_n B 0 d_ValueReader_readPart_131 rfl rfl ?_
      refine ax_ldc2 (v := 2147483647) B wd_380 d_ValueReader_readPart_132 ?_
      refine ax_callVi (av := [ax_L 2147483647]) (rest := []) B E hm_ValueReader_readNumber cl_ValueReader rfl wd_383 wp_11 lk_ValueReader_52 d_ValueReader_readPart_135 rfl (Nat.le_of_ble_eq_true rfl) (fun _ _ hh => hcall 47 _ _ _ _ hh) (fun v11 h10 => ?_)
      exact ax_zreturn B d_ValueReader_readPart_138
    refine ⟨_, _, rfl, ⟨195, by decide, ?_⟩, ?_⟩
    · refine ax_iconst (v := 0) B d_ValueReader_readPart_195 (by decide) ?_
      exact ax_zreturn B d_ValueReader_readPart_196
    refine ⟨_, _, rfl, ⟨195, by decide, ?_⟩, ?_⟩
    · refine ax_iconst (v := 0) B d_ValueReader_readPart_195 (by decide) ?_
      exact ax_zreturn B d_ValueReader_readPart_196
    refine ⟨_, _, rfl, ⟨139, by decide, ?_⟩, ?_⟩
    · refine ax_aload_n B 0 d_ValueReader_readPart_139 rfl rfl ?_
      refine ax_ldc2 (v := 9223372036854775807) B wd_395 d_ValueReader_readPart_140 ?_
      refine ax_callVi (av := [ax_L 9223372036854775807]) (rest := []) B E hm_ValueReader_readNumber cl_ValueReader rfl wd_383 wp_11 lk_ValueReader_52 d_ValueReader_readPart_143 rfl (Nat.le_of_ble_eq_true rfl) (fun _ _ hh => hcall 47 _ _ _ _ hh) (fun v13 h12 => ?_)
      exact ax_zreturn B d_ValueReader_readPart_146
    refine ⟨_, _, rfl, ⟨195, by decide, ?_⟩, ?_⟩
    · refine ax_iconst (v := 0) B d_ValueReader_readPart_195 (by decide) ?_
      exact ax_zreturn B d_ValueReader_readPart_196
    refine ⟨_, _, rfl, ⟨116, by decide, ?_⟩, ?_⟩
    · refine ax_aload_n B 0 d_ValueReader_readPart_116 rfl rfl ?_
      refine ax_getfr B cl_ValueReader (by decide) fk_ValueReader_9 d_ValueReader_readPart_117 (fun v14 => ?_)
      refine ax_bipush (v := 78) B d_ValueReader_readPart_120 (by decide) ?_
      refine ax_callVi (av := [ax_I 78]) (rest := []) B E hm_Cursor_take cl_Cursor rfl wd_314 wd_315 lk_ValueReader_43 d_ValueReader_readPart_122 rfl (Nat.le_of_ble_eq_true rfl) (fun _ _ hh => hcall 30 _ _ _ _ hh) (fun v16 h15 => ?_)
      exact ax_zreturn B d_ValueReader_readPart_125
    refine ⟨_, _, rfl, ⟨195, by decide, ?_⟩, ?_⟩
    · refine ax_iconst (v := 0) B d_ValueReader_readPart_195 (by decide) ?_
      exact ax_zreturn B d_ValueReader_readPart_196
    refine ⟨_, _, rfl, ⟨195, by decide, ?_⟩, ?_⟩
    · refine ax_iconst (v := 0) B d_ValueReader_readPart_195 (by decide) ?_
      exact ax_zreturn B d_ValueReader_readPart_196
    refine ⟨_, _, rfl, ⟨195, by decide, ?_⟩, ?_⟩
    · refine ax_iconst (v := 0) B d_ValueReader_readPart_195 (by decide) ?_
      exact ax_zreturn B d_ValueReader_readPart_196
    refine ⟨_, _, rfl, ⟨188, by decide, ?_⟩, ?_⟩
    · refine ax_aload_n B 0 d_ValueReader_readPart_188 rfl rfl ?_
      refine ax_iload_n B 1 d_ValueReader_readPart_189 rfl rfl ?_
      refine ax_iload_n B 2 d_ValueReader_readPart_190 rfl rfl ?_
      refine ax_callVi (av := [ax_I x1, ax_I x2]) (rest := []) B E hm_ValueReader_readFields cl_ValueReader rfl wd_457 wp_18 lk_ValueReader_73 d_ValueReader_readPart_191 rfl (Nat.le_of_ble_eq_true rfl) (fun _ _ hh => hcall 64 _ _ _ _ hh) (fun v18 h17 => ?_)
      exact ax_zreturn B d_ValueReader_readPart_194
    refine ⟨_, _, rfl, ⟨147, by decide, ?_⟩, ?_⟩
    · refine ax_aload_n B 0 d_ValueReader_readPart_147 rfl rfl ?_
      refine ax_callVi (av := []) (rest := []) B E hm_ValueReader_readString cl_ValueReader rfl wd_398 wp_13 lk_ValueReader_58 d_ValueReader_readPart_148 rfl (Nat.le_of_ble_eq_true rfl) (fun _ _ hh => hcall 50 _ _ _ _ hh) (fun v20 h19 => ?_)
      exact ax_zreturn B d_ValueReader_readPart_151
    refine ⟨_, _, rfl, ⟨195, by decide, ?_⟩, ?_⟩
    · refine ax_iconst (v := 0) B d_ValueReader_readPart_195 (by decide) ?_
      exact ax_zreturn B d_ValueReader_readPart_196
    refine ⟨_, _, rfl, ⟨165, by decide, ?_⟩, ?_⟩
    · refine ax_aload_n B 0 d_ValueReader_readPart_165 rfl rfl ?_
      refine ax_getfi B cl_ValueReader (by decide) fk_ValueReader_23 d_ValueReader_readPart_166 (fun v21 => ?_)
      refine ax_if_eq B 181 d_ValueReader_readPart_169 (by decide) ?_ ?_
      · refine ax_aload_n B 0 d_ValueReader_readPart_181 rfl rfl ?_
        refine ax_iload_n B 1 d_ValueReader_readPart_182 rfl rfl ?_
        refine ax_iload_n B 2 d_ValueReader_readPart_183 rfl rfl ?_
        refine ax_callVi (av := [ax_I x1, ax_I x2]) (rest := []) B E hm_ValueReader_readBranch cl_ValueReader rfl wd_444 wp_17 lk_ValueReader_70 d_ValueReader_readPart_184 rfl (Nat.le_of_ble_eq_true rfl) (fun _ _ hh => hcall 61 _ _ _ _ hh) (fun v23 h22 => ?_)
        exact ax_zreturn B d_ValueReader_readPart_187
      · refine ax_aload_n B 0 d_ValueReader_readPart_172 rfl rfl ?_
        refine ax_iload_n B 1 d_ValueReader_readPart_173 rfl rfl ?_
        refine ax_iload_n B 2 d_ValueReader_readPart_174 rfl rfl ?_
        refine ax_callVi (av := [ax_I x1, ax_I x2]) (rest := []) B E hm_ValueReader_readFirstBranch cl_ValueReader rfl wd_431 wp_16 lk_ValueReader_67 d_ValueReader_readPart_175 rfl (Nat.le_of_ble_eq_true rfl) (fun _ _ hh => hcall 58 _ _ _ _ hh) (fun v25 h24 => ?_)
        refine ax_goto B 187 d_ValueReader_readPart_178 (by decide) ?_
        exact ax_zreturn B d_ValueReader_readPart_187
    refine ⟨195, by decide, ?_⟩
    refine ax_iconst (v := 0) B d_ValueReader_readPart_195 (by decide) ?_
    exact ax_zreturn B d_ValueReader_readPart_196
  · refine ax_iconst (v := 0) B d_ValueReader_readPart_6 (by decide) ?_
    exact ax_zreturn B d_ValueReader_readPart_7

theorem d_ValueReader_readBoolean_0 : decode prog_10_method_5_code 0 = .ok (.aload_n 0, 1) := by decide +kernel
theorem d_ValueReader_readBoolean_1 : decode prog_10_method_5_code 1 = .ok (.getfield 9, 3) := by decide +kernel
theorem d_ValueReader_readBoolean_4 : decode prog_10_method_5_code 4 = .ok (.bipush 84, 2) := by decide +kernel
theorem d_ValueReader_readBoolean_6 : decode prog_10_method_5_code 6 = .ok (.invokevirtual 43, 3) := by decide +kernel
theorem d_ValueReader_readBoolean_9 : decode prog_10_method_5_code 9 = .ok (.istore_n 1, 1) := by decide +kernel
theorem d_ValueReader_readBoolean_10 : decode prog_10_method_5_code 10 = .ok (.iload_n 1, 1) := by decide +kernel
theorem d_ValueReader_readBoolean_11 : decode prog_10_method_5_code 11 = .ok (.ifCond .ne 17, 3) := by decide +kernel
theorem d_ValueReader_readBoolean_14 : decode prog_10_method_5_code 14 = .ok (.aload_n 0, 1) := by decide +kernel
theorem d_ValueReader_readBoolean_15 : decode prog_10_method_5_code 15 = .ok (.getfield 9, 3) := by decide +kernel
theorem d_ValueReader_readBoolean_18 : decode prog_10_method_5_code 18 = .ok (.bipush 70, 2) := by decide +kernel
theorem d_ValueReader_readBoolean_20 : decode prog_10_method_5_code 20 = .ok (.invokevirtual 43, 3) := by decide +kernel
theorem d_ValueReader_readBoolean_23 : decode prog_10_method_5_code 23 = .ok (.ifCond .ne 5, 3) := by decide +kernel
theorem d_ValueReader_readBoolean_26 : decode prog_10_method_5_code 26 = .ok (.iconst 0, 1) := by decide +kernel
theorem d_ValueReader_readBoolean_27 : decode prog_10_method_5_code 27 = .ok (.ireturn, 1) := by decide +kernel
theorem d_ValueReader_readBoolean_28 : decode prog_10_method_5_code 28 = .ok (.aload_n 0, 1) := by decide +kernel
theorem d_ValueReader_readBoolean_29 : decode prog_10_method_5_code 29 = .ok (.getfield 19, 3) := by decide +kernel
theorem d_ValueReader_readBoolean_32 : decode prog_10_method_5_code 32 = .ok (.iload_n 1, 1) := by decide +kernel
theorem d_ValueReader_readBoolean_33 : decode prog_10_method_5_code 33 = .ok (.ifCond .eq 7, 3) := by decide +kernel
theorem d_ValueReader_readBoolean_36 : decode prog_10_method_5_code 36 = .ok (.iconst 1, 1) := by decide +kernel
theorem d_ValueReader_readBoolean_37 : decode prog_10_method_5_code 37 = .ok (.goto 4, 3) := by decide +kernel
theorem d_ValueReader_readBoolean_40 : decode prog_10_method_5_code 40 = .ok (.iconst 0, 1) := by decide +kernel
theorem d_ValueReader_readBoolean_41 : decode prog_10_method_5_code 41 = .ok (.invokevirtual 76, 3) := by decide +kernel
theorem d_ValueReader_readBoolean_44 : decode prog_10_method_5_code 44 = .ok (.pop, 1) := by decide +kernel
theorem d_ValueReader_readBoolean_45 : decode prog_10_method_5_code 45 = .ok (.iconst 1, 1) := by decide +kernel
theorem d_ValueReader_readBoolean_46 : decode prog_10_method_5_code 46 = .ok (.ireturn, 1) := by decide +kernel
def ValueReader_readBoolean_b (call : ax_Cf) (x0 : Option Nat) (h : ax_Hp) : ax_O :=
  (ax_gr h x0 7 0).bind fun v1 =>
  ax_on h v1 0 <| ax_ci (call 30 [ax_A v1, ax_I 84] h) fun v3 h2 =>
  if v3 = 0 then
    (ax_gr h2 x0 7 0).bind fun v9 =>
    ax_on h2 v9 0 <| ax_ci (call 30 [ax_A v9, ax_I 70] h2) fun v11 h10 =>
    if v11 = 0 then
      ax_rz 0 h10
    else
      (ax_gr h10 x0 7 2).bind fun v12 =>
      if v3 = 0 then
        ax_on h10 v12 2 <| ax_ci (call 8 [ax_A v12, ax_I 0] h10) fun v14 h13 =>
        ax_rz 1 h13
      else
        ax_on h10 v12 2 <| ax_ci (call 8 [ax_A v12, ax_I 1] h10) fun v16 h15 =>
        ax_rz 1 h15
  else
    (ax_gr h2 x0 7 2).bind fun v4 =>
    if v3 = 0 then
      ax_on h2 v4 2 <| ax_ci (call 8 [ax_A v4, ax_I 0] h2) fun v6 h5 =>
      ax_rz 1 h5
    else
      ax_on h2 v4 2 <| ax_ci (call 8 [ax_A v4, ax_I 1] h2) fun v8 h7 =>
      ax_rz 1 h7
set_option maxHeartbeats 4000000 in
set_option maxRecDepth 20000 in
theorem ValueReader_readBoolean_t {l : Launch} {G : ax_G} {d : Nat} {call : ax_Cf} (hcall : ax_Hc l G d call) (x0 : Option Nat) (h : ax_Hp) {r : ax_Rs} {h' : ax_Hp} (ho : ValueReader_readBoolean_b call x0 h = some (r, h')) : ax_C l G (d + 1) y_ValueReader_readBoolean (.code y_ValueReader_readBoolean prog_10_method_5_code 2 (some (.boolean))) [ax_A x0] h r h' := by
  refine ax_enter (by decide) (Nat.le_of_ble_eq_true rfl) ho (fun p e s mi args below meth c B E Nm => ?_)
  have B : ax_B G p s mi meth c "SchemaDesk$ValueReader" prog_10_method_5_code 2 (some (.boolean)) := B
  show ax_W G p l e s mi args below meth c 2 (d + 1) h 0 [(0, ax_A x0)] [] h (ValueReader_readBoolean_b call x0 h)
  unfold ValueReader_readBoolean_b
  refine ax_aload_n B 0 d_ValueReader_readBoolean_0 rfl rfl ?_
  refine ax_getfr B cl_ValueReader (by decide) fk_ValueReader_9 d_ValueReader_readBoolean_1 (fun v1 => ?_)
  refine ax_bipush (v := 84) B d_ValueReader_readBoolean_4 (by decide) ?_
  refine ax_callVi (av := [ax_I 84]) (rest := []) B E hm_Cursor_take cl_Cursor rfl wd_314 wd_315 lk_ValueReader_43 d_ValueReader_readBoolean_6 rfl (Nat.le_of_ble_eq_true rfl) (fun _ _ hh => hcall 30 _ _ _ _ hh) (fun v3 h2 => ?_)
  refine ax_istore_n (tv2 := [(1, ax_I v3), (0, ax_A x0)]) B d_ValueReader_readBoolean_9 rfl (by decide) rfl ?_
  refine ax_iload_n B 0 d_ValueReader_readBoolean_10 rfl rfl ?_
  refine ax_if_ne B 28 d_ValueReader_readBoolean_11 (by decide) ?_ ?_
  · refine ax_aload_n B 1 d_ValueReader_readBoolean_28 rfl rfl ?_
    refine ax_getfr B cl_ValueReader (by decide) fk_ValueReader_19 d_ValueReader_readBoolean_29 (fun v4 => ?_)
    refine ax_iload_n B 0 d_ValueReader_readBoolean_32 rfl rfl ?_
    refine ax_if_eq B 40 d_ValueReader_readBoolean_33 (by decide) ?_ ?_
    · refine ax_iconst (v := 0) B d_ValueReader_readBoolean_40 (by decide) ?_
      refine ax_callVi (av := [ax_I 0]) (rest := []) B E hm_Row_add cl_Row rfl wd_123 wd_124 lk_ValueReader_76 d_ValueReader_readBoolean_41 rfl (Nat.le_of_ble_eq_true rfl) (fun _ _ hh => hcall 8 _ _ _ _ hh) (fun v6 h5 => ?_)
      refine ax_pop B d_ValueReader_readBoolean_44 rfl ?_
      refine ax_iconst (v := 1) B d_ValueReader_readBoolean_45 (by decide) ?_
      exact ax_zreturn B d_ValueReader_readBoolean_46
    · refine ax_iconst (v := 1) B d_ValueReader_readBoolean_36 (by decide) ?_
      refine ax_goto B 41 d_ValueReader_readBoolean_37 (by decide) ?_
      refine ax_callVi (av := [ax_I 1]) (rest := []) B E hm_Row_add cl_Row rfl wd_123 wd_124 lk_ValueReader_76 d_ValueReader_readBoolean_41 rfl (Nat.le_of_ble_eq_true rfl) (fun _ _ hh => hcall 8 _ _ _ _ hh) (fun v8 h7 => ?_)
      refine ax_pop B d_ValueReader_readBoolean_44 rfl ?_
      refine ax_iconst (v := 1) B d_ValueReader_readBoolean_45 (by decide) ?_
      exact ax_zreturn B d_ValueReader_readBoolean_46
  · refine ax_aload_n B 1 d_ValueReader_readBoolean_14 rfl rfl ?_
    refine ax_getfr B cl_ValueReader (by decide) fk_ValueReader_9 d_ValueReader_readBoolean_15 (fun v9 => ?_)
    refine ax_bipush (v := 70) B d_ValueReader_readBoolean_18 (by decide) ?_
    refine ax_callVi (av := [ax_I 70]) (rest := []) B E hm_Cursor_take cl_Cursor rfl wd_314 wd_315 lk_ValueReader_43 d_ValueReader_readBoolean_20 rfl (Nat.le_of_ble_eq_true rfl) (fun _ _ hh => hcall 30 _ _ _ _ hh) (fun v11 h10 => ?_)
    refine ax_if_ne B 28 d_ValueReader_readBoolean_23 (by decide) ?_ ?_
    · refine ax_aload_n B 1 d_ValueReader_readBoolean_28 rfl rfl ?_
      refine ax_getfr B cl_ValueReader (by decide) fk_ValueReader_19 d_ValueReader_readBoolean_29 (fun v12 => ?_)
      refine ax_iload_n B 0 d_ValueReader_readBoolean_32 rfl rfl ?_
      refine ax_if_eq B 40 d_ValueReader_readBoolean_33 (by decide) ?_ ?_
      · refine ax_iconst (v := 0) B d_ValueReader_readBoolean_40 (by decide) ?_
        refine ax_callVi (av := [ax_I 0]) (rest := []) B E hm_Row_add cl_Row rfl wd_123 wd_124 lk_ValueReader_76 d_ValueReader_readBoolean_41 rfl (Nat.le_of_ble_eq_true rfl) (fun _ _ hh => hcall 8 _ _ _ _ hh) (fun v14 h13 => ?_)
        refine ax_pop B d_ValueReader_readBoolean_44 rfl ?_
        refine ax_iconst (v := 1) B d_ValueReader_readBoolean_45 (by decide) ?_
        exact ax_zreturn B d_ValueReader_readBoolean_46
      · refine ax_iconst (v := 1) B d_ValueReader_readBoolean_36 (by decide) ?_
        refine ax_goto B 41 d_ValueReader_readBoolean_37 (by decide) ?_
        refine ax_callVi (av := [ax_I 1]) (rest := []) B E hm_Row_add cl_Row rfl wd_123 wd_124 lk_ValueReader_76 d_ValueReader_readBoolean_41 rfl (Nat.le_of_ble_eq_true rfl) (fun _ _ hh => hcall 8 _ _ _ _ hh) (fun v16 h15 => ?_)
        refine ax_pop B d_ValueReader_readBoolean_44 rfl ?_
        refine ax_iconst (v := 1) B d_ValueReader_readBoolean_45 (by decide) ?_
        exact ax_zreturn B d_ValueReader_readBoolean_46
    · refine ax_iconst (v := 0) B d_ValueReader_readBoolean_26 (by decide) ?_
      exact ax_zreturn B d_ValueReader_readBoolean_27

theorem d_ValueReader_readNumber_0 : decode prog_10_method_6_code 0 = .ok (.aload_n 0, 1) := by decide +kernel
theorem d_ValueReader_readNumber_1 : decode prog_10_method_6_code 1 = .ok (.getfield 9, 3) := by decide +kernel
theorem d_ValueReader_readNumber_4 : decode prog_10_method_6_code 4 = .ok (.bipush 45, 2) := by decide +kernel
theorem d_ValueReader_readNumber_6 : decode prog_10_method_6_code 6 = .ok (.invokevirtual 43, 3) := by decide +kernel
theorem d_ValueReader_readNumber_9 : decode prog_10_method_6_code 9 = .ok (.istore_n 3, 1) := by decide +kernel
theorem d_ValueReader_readNumber_10 : decode prog_10_method_6_code 10 = .ok (.iload_n 3, 1) := by decide +kernel
theorem d_ValueReader_readNumber_11 : decode prog_10_method_6_code 11 = .ok (.ifCond .ne 22, 3) := by decide +kernel
theorem d_ValueReader_readNumber_14 : decode prog_10_method_6_code 14 = .ok (.aload_n 0, 1) := by decide +kernel
theorem d_ValueReader_readNumber_15 : decode prog_10_method_6_code 15 = .ok (.getfield 9, 3) := by decide +kernel
theorem d_ValueReader_readNumber_18 : decode prog_10_method_6_code 18 = .ok (.bipush 48, 2) := by decide +kernel
theorem d_ValueReader_readNumber_20 : decode prog_10_method_6_code 20 = .ok (.invokevirtual 43, 3) := by decide +kernel
theorem d_ValueReader_readNumber_23 : decode prog_10_method_6_code 23 = .ok (.ifCond .eq 10, 3) := by decide +kernel
theorem d_ValueReader_readNumber_26 : decode prog_10_method_6_code 26 = .ok (.aload_n 0, 1) := by decide +kernel
theorem d_ValueReader_readNumber_27 : decode prog_10_method_6_code 27 = .ok (.lconst 0, 1) := by decide +kernel
theorem d_ValueReader_readNumber_28 : decode prog_10_method_6_code 28 = .ok (.invokevirtual 81, 3) := by decide +kernel
theorem d_ValueReader_readNumber_31 : decode prog_10_method_6_code 31 = .ok (.iconst 1, 1) := by decide +kernel
theorem d_ValueReader_readNumber_32 : decode prog_10_method_6_code 32 = .ok (.ireturn, 1) := by decide +kernel
theorem d_ValueReader_readNumber_33 : decode prog_10_method_6_code 33 = .ok (.aload_n 0, 1) := by decide +kernel
theorem d_ValueReader_readNumber_34 : decode prog_10_method_6_code 34 = .ok (.getfield 9, 3) := by decide +kernel
theorem d_ValueReader_readNumber_37 : decode prog_10_method_6_code 37 = .ok (.invokevirtual 85, 3) := by decide +kernel
theorem d_ValueReader_readNumber_40 : decode prog_10_method_6_code 40 = .ok (.invokestatic 89, 3) := by decide +kernel
theorem d_ValueReader_readNumber_43 : decode prog_10_method_6_code 43 = .ok (.ifCond .eq 15, 3) := by decide +kernel
theorem d_ValueReader_readNumber_46 : decode prog_10_method_6_code 46 = .ok (.aload_n 0, 1) := by decide +kernel
theorem d_ValueReader_readNumber_47 : decode prog_10_method_6_code 47 = .ok (.getfield 9, 3) := by decide +kernel
theorem d_ValueReader_readNumber_50 : decode prog_10_method_6_code 50 = .ok (.invokevirtual 85, 3) := by decide +kernel
theorem d_ValueReader_readNumber_53 : decode prog_10_method_6_code 53 = .ok (.bipush 48, 2) := by decide +kernel
theorem d_ValueReader_readNumber_55 : decode prog_10_method_6_code 55 = .ok (.if_icmp .ne 5, 3) := by decide +kernel
theorem d_ValueReader_readNumber_58 : decode prog_10_method_6_code 58 = .ok (.iconst 0, 1) := by decide +kernel
theorem d_ValueReader_readNumber_59 : decode prog_10_method_6_code 59 = .ok (.ireturn, 1) := by decide +kernel
theorem d_ValueReader_readNumber_60 : decode prog_10_method_6_code 60 = .ok (.lconst 0, 1) := by decide +kernel
theorem d_ValueReader_readNumber_61 : decode prog_10_method_6_code 61 = .ok (.lstore 4, 2) := by decide +kernel
theorem d_ValueReader_readNumber_63 : decode prog_10_method_6_code 63 = .ok (.iload_n 3, 1) := by decide +kernel
theorem d_ValueReader_readNumber_64 : decode prog_10_method_6_code 64 = .ok (.ifCond .eq 10, 3) := by decide +kernel
theorem d_ValueReader_readNumber_67 : decode prog_10_method_6_code 67 = .ok (.lload_n 1, 1) := by decide +kernel
theorem d_ValueReader_readNumber_68 : decode prog_10_method_6_code 68 = .ok (.lneg, 1) := by decide +kernel
theorem d_ValueReader_readNumber_69 : decode prog_10_method_6_code 69 = .ok (.lconst 1, 1) := by decide +kernel
theorem d_ValueReader_readNumber_70 : decode prog_10_method_6_code 70 = .ok (.lsub, 1) := by decide +kernel
theorem d_ValueReader_readNumber_71 : decode prog_10_method_6_code 71 = .ok (.goto 5, 3) := by decide +kernel
theorem d_ValueReader_readNumber_74 : decode prog_10_method_6_code 74 = .ok (.lload_n 1, 1) := by decide +kernel
theorem d_ValueReader_readNumber_75 : decode prog_10_method_6_code 75 = .ok (.lneg, 1) := by decide +kernel
theorem d_ValueReader_readNumber_76 : decode prog_10_method_6_code 76 = .ok (.lstore 6, 2) := by decide +kernel
theorem d_ValueReader_readNumber_78 : decode prog_10_method_6_code 78 = .ok (.iconst 0, 1) := by decide +kernel
theorem d_ValueReader_readNumber_79 : decode prog_10_method_6_code 79 = .ok (.istore 8, 2) := by decide +kernel
theorem d_ValueReader_readNumber_81 : decode prog_10_method_6_code 81 = .ok (.iload 8, 2) := by decide +kernel
theorem d_ValueReader_readNumber_83 : decode prog_10_method_6_code 83 = .ok (.bipush 20, 2) := by decide +kernel
theorem d_ValueReader_readNumber_85 : decode prog_10_method_6_code 85 = .ok (.if_icmp .ge 83, 3) := by decide +kernel
theorem d_ValueReader_readNumber_88 : decode prog_10_method_6_code 88 = .ok (.aload_n 0, 1) := by decide +kernel
theorem d_ValueReader_readNumber_89 : decode prog_10_method_6_code 89 = .ok (.getfield 9, 3) := by decide +kernel
theorem d_ValueReader_readNumber_92 : decode prog_10_method_6_code 92 = .ok (.invokevirtual 85, 3) := by decide +kernel
theorem d_ValueReader_readNumber_95 : decode prog_10_method_6_code 95 = .ok (.invokestatic 89, 3) := by decide +kernel
theorem d_ValueReader_readNumber_98 : decode prog_10_method_6_code 98 = .ok (.ifCond .eq 70, 3) := by decide +kernel
theorem d_ValueReader_readNumber_101 : decode prog_10_method_6_code 101 = .ok (.aload_n 0, 1) := by decide +kernel
theorem d_ValueReader_readNumber_102 : decode prog_10_method_6_code 102 = .ok (.getfield 9, 3) := by decide +kernel
theorem d_ValueReader_readNumber_105 : decode prog_10_method_6_code 105 = .ok (.invokevirtual 85, 3) := by decide +kernel
theorem d_ValueReader_readNumber_108 : decode prog_10_method_6_code 108 = .ok (.bipush 48, 2) := by decide +kernel
theorem d_ValueReader_readNumber_110 : decode prog_10_method_6_code 110 = .ok (.isub, 1) := by decide +kernel
theorem d_ValueReader_readNumber_111 : decode prog_10_method_6_code 111 = .ok (.istore 9, 2) := by decide +kernel
theorem d_ValueReader_readNumber_113 : decode prog_10_method_6_code 113 = .ok (.lload 4, 2) := by decide +kernel
theorem d_ValueReader_readNumber_115 : decode prog_10_method_6_code 115 = .ok (.lload 6, 2) := by decide +kernel
theorem d_ValueReader_readNumber_117 : decode prog_10_method_6_code 117 = .ok (.ldc2_w 92, 3) := by decide +kernel
theorem d_ValueReader_readNumber_120 : decode prog_10_method_6_code 120 = .ok (.ldiv, 1) := by decide +kernel
theorem d_ValueReader_readNumber_121 : decode prog_10_method_6_code 121 = .ok (.lcmp, 1) := by decide +kernel
theorem d_ValueReader_readNumber_122 : decode prog_10_method_6_code 122 = .ok (.ifCond .lt 19, 3) := by decide +kernel
theorem d_ValueReader_readNumber_125 : decode prog_10_method_6_code 125 = .ok (.lload 4, 2) := by decide +kernel
theorem d_ValueReader_readNumber_127 : decode prog_10_method_6_code 127 = .ok (.ldc2_w 92, 3) := by decide +kernel
theorem d_ValueReader_readNumber_130 : decode prog_10_method_6_code 130 = .ok (.lmul, 1) := by decide +kernel
theorem d_ValueReader_readNumber_131 : decode prog_10_method_6_code 131 = .ok (.lload 6, 2) := by decide +kernel
theorem d_ValueReader_readNumber_133 : decode prog_10_method_6_code 133 = .ok (.iload 9, 2) := by decide +kernel
theorem d_ValueReader_readNumber_135 : decode prog_10_method_6_code 135 = .ok (.i2l, 1) := by decide +kernel
theorem d_ValueReader_readNumber_136 : decode prog_10_method_6_code 136 = .ok (.ladd, 1) := by decide +kernel
theorem d_ValueReader_readNumber_137 : decode prog_10_method_6_code 137 = .ok (.lcmp, 1) := by decide +kernel
theorem d_ValueReader_readNumber_138 : decode prog_10_method_6_code 138 = .ok (.ifCond .ge 5, 3) := by decide +kernel
theorem d_ValueReader_readNumber_141 : decode prog_10_method_6_code 141 = .ok (.iconst 0, 1) := by decide +kernel
theorem d_ValueReader_readNumber_142 : decode prog_10_method_6_code 142 = .ok (.ireturn, 1) := by decide +kernel
theorem d_ValueReader_readNumber_143 : decode prog_10_method_6_code 143 = .ok (.lload 4, 2) := by decide +kernel
theorem d_ValueReader_readNumber_145 : decode prog_10_method_6_code 145 = .ok (.ldc2_w 92, 3) := by decide +kernel
theorem d_ValueReader_readNumber_148 : decode prog_10_method_6_code 148 = .ok (.lmul, 1) := by decide +kernel
theorem d_ValueReader_readNumber_149 : decode prog_10_method_6_code 149 = .ok (.iload 9, 2) := by decide +kernel
theorem d_ValueReader_readNumber_151 : decode prog_10_method_6_code 151 = .ok (.i2l, 1) := by decide +kernel
theorem d_ValueReader_readNumber_152 : decode prog_10_method_6_code 152 = .ok (.lsub, 1) := by decide +kernel
theorem d_ValueReader_readNumber_153 : decode prog_10_method_6_code 153 = .ok (.lstore 4, 2) := by decide +kernel
theorem d_ValueReader_readNumber_155 : decode prog_10_method_6_code 155 = .ok (.aload_n 0, 1) := by decide +kernel
theorem d_ValueReader_readNumber_156 : decode prog_10_method_6_code 156 = .ok (.getfield 9, 3) := by decide +kernel
theorem d_ValueReader_readNumber_159 : decode prog_10_method_6_code 159 = .ok (.invokevirtual 94, 3) := by decide +kernel
theorem d_ValueReader_readNumber_162 : decode prog_10_method_6_code 162 = .ok (.iinc 8 1, 3) := by decide +kernel
theorem d_ValueReader_readNumber_165 : decode prog_10_method_6_code 165 = .ok (.goto (-84), 3) := by decide +kernel
theorem d_ValueReader_readNumber_168 : decode prog_10_method_6_code 168 = .ok (.aload_n 0, 1) := by decide +kernel
theorem d_ValueReader_readNumber_169 : decode prog_10_method_6_code 169 = .ok (.iload_n 3, 1) := by decide +kernel
theorem d_ValueReader_readNumber_170 : decode prog_10_method_6_code 170 = .ok (.ifCond .eq 8, 3) := by decide +kernel
theorem d_ValueReader_readNumber_173 : decode prog_10_method_6_code 173 = .ok (.lload 4, 2) := by decide +kernel
theorem d_ValueReader_readNumber_175 : decode prog_10_method_6_code 175 = .ok (.goto 6, 3) := by decide +kernel
theorem d_ValueReader_readNumber_178 : decode prog_10_method_6_code 178 = .ok (.lload 4, 2) := by decide +kernel
theorem d_ValueReader_readNumber_180 : decode prog_10_method_6_code 180 = .ok (.lneg, 1) := by decide +kernel
theorem d_ValueReader_readNumber_181 : decode prog_10_method_6_code 181 = .ok (.invokevirtual 81, 3) := by decide +kernel
theorem d_ValueReader_readNumber_184 : decode prog_10_method_6_code 184 = .ok (.iconst 1, 1) := by decide +kernel
theorem d_ValueReader_readNumber_185 : decode prog_10_method_6_code 185 = .ok (.ireturn, 1) := by decide +kernel
def ValueReader_readNumber_bd81 (call : ax_Cf)  (k81 : Option Nat → Int32 → Int64 → Int64 → Int32 → ax_Hp → ax_O) (x0 : Option Nat) (x3 : Int32) (x4 : Int64) (x6 : Int64) (x8 : Int32) (h : ax_Hp) : ax_O :=
  if 20 ≤ x8 then
    if x3 = 0 then
      ax_on h x0 7 <| ax_cv (call 48 [ax_A x0, ax_L (-x4)] h) fun h12 =>
      ax_rz 1 h12
    else
      ax_on h x0 7 <| ax_cv (call 48 [ax_A x0, ax_L x4] h) fun h14 =>
      ax_rz 1 h14
  else
    (ax_gr h x0 7 0).bind fun v16 =>
    ax_on h v16 0 <| ax_ci (call 29 [ax_A v16] h) fun v18 h17 =>
    ax_ci (call 49 [ax_I v18] h17) fun v20 h19 =>
    if v20 = 0 then
      if x3 = 0 then
        ax_on h19 x0 7 <| ax_cv (call 48 [ax_A x0, ax_L (-x4)] h19) fun h21 =>
        ax_rz 1 h21
      else
        ax_on h19 x0 7 <| ax_cv (call 48 [ax_A x0, ax_L x4] h19) fun h23 =>
        ax_rz 1 h23
    else
      (ax_gr h19 x0 7 0).bind fun v25 =>
      ax_on h19 v25 0 <| ax_ci (call 29 [ax_A v25] h19) fun v27 h26 =>
      ax_nzl 10 <|
      if (lg_cmp x4 (x6 / 10)) < 0 then
        ax_rz 0 h26
      else
        if 0 ≤ (lg_cmp (x4 * 10) (x6 + ((v27 - 48).toInt64))) then
          (ax_gr h26 x0 7 0).bind fun v28 =>
          ax_on h26 v28 0 <| ax_cv (call 34 [ax_A v28] h26) fun h29 =>
          k81 x0 x3 ((x4 * 10) - ((v27 - 48).toInt64)) x6 (x8 + 1) h29
        else
          ax_rz 0 h26
def ValueReader_readNumber_lp81 (call : ax_Cf)  : Nat → Option Nat → Int32 → Int64 → Int64 → Int32 → ax_Hp → ax_O
  | 0 => fun _ _ _ _ _ _ => none
  | n + 1 => ValueReader_readNumber_bd81 call  (ValueReader_readNumber_lp81 call  n)
set_option maxHeartbeats 4000000 in
set_option maxRecDepth 20000 in
theorem ValueReader_readNumber_lb81 {l : Launch} {G : ax_G} {d : Nat} {call : ax_Cf} (hcall : ax_Hc l G d call) {p : Program} {e : Env} {s : State} {mi : MethodId} {args : Array Value} {below : List Frame} {meth : Method} {c : Code} {h0 : ax_Hp} (B : ax_B G p s mi meth c "SchemaDesk$ValueReader" prog_10_method_6_code 10 (some (.boolean))) (E : c.exceptionTable.isEmpty = true) (Nm : meth.name = y_ValueReader_readNumber.name)   {k81 : Option Nat → Int32 → Int64 → Int64 → Int32 → ax_Hp → ax_O} (hk81 : ∀ (x0 : Option Nat) (x3 : Int32) (x4 : Int64) (x6 : Int64) (x8 : Int32) (h : ax_Hp), ax_W G p l e s mi args below meth c 10 (d + 1) h0 81 [(0, ax_A x0), (3, ax_I x3), (4, ax_L x4), (6, ax_L x6), (8, ax_I x8)] [] h (k81 x0 x3 x4 x6 x8 h)) (x0 : Option Nat) (x3 : Int32) (x4 : Int64) (x6 : Int64) (x8 : Int32) (h : ax_Hp) : ax_W G p l e s mi args below meth c 10 (d + 1) h0 81 [(0, ax_A x0), (3, ax_I x3), (4, ax_L x4), (6, ax_L x6), (8, ax_I x8)] [] h (ValueReader_readNumber_bd81 call  k81 x0 x3 x4 x6 x8 h) := by
  unfold ValueReader_readNumber_bd81
  refine ax_iload B 4 d_ValueReader_readNumber_81 rfl ?_
  refine ax_bipush (v := 20) B d_ValueReader_readNumber_83 (by decide) ?_
  refine ax_icmp_ge B 168 d_ValueReader_readNumber_85 (by decide) ?_ ?_
  · refine ax_aload_n B 0 d_ValueReader_readNumber_168 rfl rfl ?_
    refine ax_iload_n B 1 d_ValueReader_readNumber_169 rfl rfl ?_
    refine ax_if_eq B 178 d_ValueReader_readNumber_170 (by decide) ?_ ?_
    · refine ax_lload B 2 d_ValueReader_readNumber_178 rfl ?_
      refine ax_lneg B d_ValueReader_readNumber_180 ?_
      refine ax_callVv (av := [ax_L (-x4)]) (rest := []) B E hm_ValueReader_addNumber cl_ValueReader rfl wd_387 wp_12 lk_ValueReader_81 d_ValueReader_readNumber_181 rfl (Nat.le_of_ble_eq_true rfl) (fun _ _ hh => hcall 48 _ _ _ _ hh) (fun h12 => ?_)
      refine ax_iconst (v := 1) B d_ValueReader_readNumber_184 (by decide) ?_
      exact ax_zreturn B d_ValueReader_readNumber_185
    · refine ax_lload B 2 d_ValueReader_readNumber_173 rfl ?_
      refine ax_goto B 181 d_ValueReader_readNumber_175 (by decide) ?_
      refine ax_callVv (av := [ax_L x4]) (rest := []) B E hm_ValueReader_addNumber cl_ValueReader rfl wd_387 wp_12 lk_ValueReader_81 d_ValueReader_readNumber_181 rfl (Nat.le_of_ble_eq_true rfl) (fun _ _ hh => hcall 48 _ _ _ _ hh) (fun h14 => ?_)
      refine ax_iconst (v := 1) B d_ValueReader_readNumber_184 (by decide) ?_
      exact ax_zreturn B d_ValueReader_readNumber_185
  · refine ax_aload_n B 0 d_ValueReader_readNumber_88 rfl rfl ?_
    refine ax_getfr B cl_ValueReader (by decide) fk_ValueReader_9 d_ValueReader_readNumber_89 (fun v16 => ?_)
    refine ax_callVi (av := []) (rest := []) B E hm_Cursor_peek cl_Cursor rfl wd_310 wd_311 lk_ValueReader_85 d_ValueReader_readNumber_92 rfl (Nat.le_of_ble_eq_true rfl) (fun _ _ hh => hcall 29 _ _ _ _ hh) (fun v18 h17 => ?_)
    refine ax_callSi (av := [ax_I v18]) (rest := []) B E hm_Desk_isDigit wd_391 lk_ValueReader_89 d_ValueReader_readNumber_95 rfl (Nat.le_of_ble_eq_true rfl) (fun _ _ hh => hcall 49 _ _ _ _ hh) (fun v20 h19 => ?_)
    refine ax_if_eq B 168 d_ValueReader_readNumber_98 (by decide) ?_ ?_
    · refine ax_aload_n B 0 d_ValueReader_readNumber_168 rfl rfl ?_
      refine ax_iload_n B 1 d_ValueReader_readNumber_169 rfl rfl ?_
      refine ax_if_eq B 178 d_ValueReader_readNumber_170 (by decide) ?_ ?_
      · refine ax_lload B 2 d_ValueReader_readNumber_178 rfl ?_
        refine ax_lneg B d_ValueReader_readNumber_180 ?_
        refine ax_callVv (av := [ax_L (-x4)]) (rest := []) B E hm_ValueReader_addNumber cl_ValueReader rfl wd_387 wp_12 lk_ValueReader_81 d_ValueReader_readNumber_181 rfl (Nat.le_of_ble_eq_true rfl) (fun _ _ hh => hcall 48 _ _ _ _ hh) (fun h21 => ?_)
        refine ax_iconst (v := 1) B d_ValueReader_readNumber_184 (by decide) ?_
        exact ax_zreturn B d_ValueReader_readNumber_185
      · refine ax_lload B 2 d_ValueReader_readNumber_173 rfl ?_
        refine ax_goto B 181 d_ValueReader_readNumber_175 (by decide) ?_
        refine ax_callVv (av := [ax_L x4]) (rest := []) B E hm_ValueReader_addNumber cl_ValueReader rfl wd_387 wp_12 lk_ValueReader_81 d_ValueReader_readNumber_181 rfl (Nat.le_of_ble_eq_true rfl) (fun _ _ hh => hcall 48 _ _ _ _ hh) (fun h23 => ?_)
        refine ax_iconst (v := 1) B d_ValueReader_readNumber_184 (by decide) ?_
        exact ax_zreturn B d_ValueReader_readNumber_185
    · refine ax_aload_n B 0 d_ValueReader_readNumber_101 rfl rfl ?_
      refine ax_getfr B cl_ValueReader (by decide) fk_ValueReader_9 d_ValueReader_readNumber_102 (fun v25 => ?_)
      refine ax_callVi (av := []) (rest := []) B E hm_Cursor_peek cl_Cursor rfl wd_310 wd_311 lk_ValueReader_85 d_ValueReader_readNumber_105 rfl (Nat.le_of_ble_eq_true rfl) (fun _ _ hh => hcall 29 _ _ _ _ hh) (fun v27 h26 => ?_)
      refine ax_bipush (v := 48) B d_ValueReader_readNumber_108 (by decide) ?_
      refine ax_isub B d_ValueReader_readNumber_110 ?_
      refine ax_istore (tv2 := [(9, ax_I (v27 - 48)), (0, ax_A x0), (3, ax_I x3), (4, ax_L x4), (6, ax_L x6), (8, ax_I x8)]) B d_ValueReader_readNumber_111 (by decide) rfl ?_
      refine ax_lload B 3 d_ValueReader_readNumber_113 rfl ?_
      refine ax_lload B 4 d_ValueReader_readNumber_115 rfl ?_
      refine ax_ldc2 (v := 10) B wd_393 d_ValueReader_readNumber_117 ?_
      refine ax_ldiv B d_ValueReader_readNumber_120 ?_
      refine ax_lcmp B d_ValueReader_readNumber_121 ?_
      refine ax_if_lt B 141 d_ValueReader_readNumber_122 (by decide) ?_ ?_
      · refine ax_iconst (v := 0) B d_ValueReader_readNumber_141 (by decide) ?_
        exact ax_zreturn B d_ValueReader_readNumber_142
      · refine ax_lload B 3 d_ValueReader_readNumber_125 rfl ?_
        refine ax_ldc2 (v := 10) B wd_393 d_ValueReader_readNumber_127 ?_
        refine ax_lmul B d_ValueReader_readNumber_130 ?_
        refine ax_lload B 4 d_ValueReader_readNumber_131 rfl ?_
        refine ax_iload B 0 d_ValueReader_readNumber_133 rfl ?_
        refine ax_i2l B d_ValueReader_readNumber_135 ?_
        refine ax_ladd B d_ValueReader_readNumber_136 ?_
        refine ax_lcmp B d_ValueReader_readNumber_137 ?_
        refine ax_if_ge B 143 d_ValueReader_readNumber_138 (by decide) ?_ ?_
        · refine ax_lload B 3 d_ValueReader_readNumber_143 rfl ?_
          refine ax_ldc2 (v := 10) B wd_393 d_ValueReader_readNumber_145 ?_
          refine ax_lmul B d_ValueReader_readNumber_148 ?_
          refine ax_iload B 0 d_ValueReader_readNumber_149 rfl ?_
          refine ax_i2l B d_ValueReader_readNumber_151 ?_
          refine ax_lsub B d_ValueReader_readNumber_152 ?_
          refine ax_lstore (tv2 := [(4, ax_L ((x4 * 10) - ((v27 - 48).toInt64))), (9, ax_I (v27 - 48)), (0, ax_A x0), (3, ax_I x3), (6, ax_L x6), (8, ax_I x8)]) B d_ValueReader_readNumber_153 (by decide) rfl ?_
          refine ax_aload_n B 2 d_ValueReader_readNumber_155 rfl rfl ?_
          refine ax_getfr B cl_ValueReader (by decide) fk_ValueReader_9 d_ValueReader_readNumber_156 (fun v28 => ?_)
          refine ax_callVv (av := []) (rest := []) B E hm_Cursor_step cl_Cursor rfl wd_328 wd_329 lk_ValueReader_94 d_ValueReader_readNumber_159 rfl (Nat.le_of_ble_eq_true rfl) (fun _ _ hh => hcall 34 _ _ _ _ hh) (fun h29 => ?_)
          refine ax_iinc (v := x8 + 1) (tv2 := [(8, ax_I (x8 + 1)), (4, ax_L ((x4 * 10) - ((v27 - 48).toInt64))), (9, ax_I (v27 - 48)), (0, ax_A x0), (3, ax_I x3), (6, ax_L x6)]) B 5 d_ValueReader_readNumber_162 rfl (congrArg (_ + ·) (by decide)) (by decide) rfl ?_
          refine ax_goto B 81 d_ValueReader_readNumber_165 (by decide) ?_
          refine ax_sub (tv2 := [(0, ax_A x0), (3, ax_I x3), (4, ax_L ((x4 * 10) - ((v27 - 48).toInt64))), (6, ax_L x6), (8, ax_I (x8 + 1))]) [3, 4, 1, 5, 0] rfl ?_
          exact hk81 x0 x3 ((x4 * 10) - ((v27 - 48).toInt64)) x6 (x8 + 1) h29
        · refine ax_iconst (v := 0) B d_ValueReader_readNumber_141 (by decide) ?_
          exact ax_zreturn B d_ValueReader_readNumber_142
theorem ValueReader_readNumber_lq81 {l : Launch} {G : ax_G} {d : Nat} {call : ax_Cf} (hcall : ax_Hc l G d call) {p : Program} {e : Env} {s : State} {mi : MethodId} {args : Array Value} {below : List Frame} {meth : Method} {c : Code} {h0 : ax_Hp} (B : ax_B G p s mi meth c "SchemaDesk$ValueReader" prog_10_method_6_code 10 (some (.boolean))) (E : c.exceptionTable.isEmpty = true) (Nm : meth.name = y_ValueReader_readNumber.name)   : ∀ (n : Nat) (x0 : Option Nat) (x3 : Int32) (x4 : Int64) (x6 : Int64) (x8 : Int32) (h : ax_Hp), ax_W G p l e s mi args below meth c 10 (d + 1) h0 81 [(0, ax_A x0), (3, ax_I x3), (4, ax_L x4), (6, ax_L x6), (8, ax_I x8)] [] h (ValueReader_readNumber_lp81 call  n x0 x3 x4 x6 x8 h)
  | 0, _, _, _, _, _, _ => ax_none
  | n + 1, x0, x3, x4, x6, x8, h => ValueReader_readNumber_lb81 hcall B E Nm   (ValueReader_readNumber_lq81 hcall B E Nm   n) x0 x3 x4 x6 x8 h
def ValueReader_readNumber_b (call : ax_Cf) (x0 : Option Nat) (x1 : Int64) (h : ax_Hp) : ax_O :=
  (ax_gr h x0 7 0).bind fun v1 =>
  ax_on h v1 0 <| ax_ci (call 30 [ax_A v1, ax_I 45] h) fun v3 h2 =>
  if v3 = 0 then
    (ax_gr h2 x0 7 0).bind fun v31 =>
    ax_on h2 v31 0 <| ax_ci (call 30 [ax_A v31, ax_I 48] h2) fun v33 h32 =>
    if v33 = 0 then
      (ax_gr h32 x0 7 0).bind fun v34 =>
      ax_on h32 v34 0 <| ax_ci (call 29 [ax_A v34] h32) fun v36 h35 =>
      ax_ci (call 49 [ax_I v36] h35) fun v38 h37 =>
      if v38 = 0 then
        ax_rz 0 h37
      else
        (ax_gr h37 x0 7 0).bind fun v39 =>
        ax_on h37 v39 0 <| ax_ci (call 29 [ax_A v39] h37) fun v41 h40 =>
        if v41 = 48 then
          ax_rz 0 h40
        else
          if v3 = 0 then
            ValueReader_readNumber_lp81 call ax_fuel x0 v3 0 (-x1) 0 h40
          else
            ValueReader_readNumber_lp81 call ax_fuel x0 v3 0 ((-x1) - 1) 0 h40
    else
      ax_on h32 x0 7 <| ax_cv (call 48 [ax_A x0, ax_L 0] h32) fun h42 =>
      ax_rz 1 h42
  else
    (ax_gr h2 x0 7 0).bind fun v4 =>
    ax_on h2 v4 0 <| ax_ci (call 29 [ax_A v4] h2) fun v6 h5 =>
    ax_ci (call 49 [ax_I v6] h5) fun v8 h7 =>
    if v8 = 0 then
      ax_rz 0 h7
    else
      (ax_gr h7 x0 7 0).bind fun v9 =>
      ax_on h7 v9 0 <| ax_ci (call 29 [ax_A v9] h7) fun v11 h10 =>
      if v11 = 48 then
        ax_rz 0 h10
      else
        if v3 = 0 then
          ValueReader_readNumber_lp81 call ax_fuel x0 v3 0 (-x1) 0 h10
        else
          ValueReader_readNumber_lp81 call ax_fuel x0 v3 0 ((-x1) - 1) 0 h10
set_option maxHeartbeats 4000000 in
set_option maxRecDepth 20000 in
theorem ValueReader_readNumber_t {l : Launch} {G : ax_G} {d : Nat} {call : ax_Cf} (hcall : ax_Hc l G d call) (x0 : Option Nat) (x1 : Int64) (h : ax_Hp) {r : ax_Rs} {h' : ax_Hp} (ho : ValueReader_readNumber_b call x0 x1 h = some (r, h')) : ax_C l G (d + 1) y_ValueReader_readNumber (.code y_ValueReader_readNumber prog_10_method_6_code 10 (some (.boolean))) [ax_A x0, ax_L x1] h r h' := by
  refine ax_enter (by decide) (Nat.le_of_ble_eq_true rfl) ho (fun p e s mi args below meth c B E Nm => ?_)
  have B : ax_B G p s mi meth c "SchemaDesk$ValueReader" prog_10_method_6_code 10 (some (.boolean)) := B
  show ax_W G p l e s mi args below meth c 10 (d + 1) h 0 [(0, ax_A x0), (1, ax_L x1)] [] h (ValueReader_readNumber_b call x0 x1 h)
  unfold ValueReader_readNumber_b
  refine ax_aload_n B 0 d_ValueReader_readNumber_0 rfl rfl ?_
  refine ax_getfr B cl_ValueReader (by decide) fk_ValueReader_9 d_ValueReader_readNumber_1 (fun v1 => ?_)
  refine ax_bipush (v := 45) B d_ValueReader_readNumber_4 (by decide) ?_
  refine ax_callVi (av := [ax_I 45]) (rest := []) B E hm_Cursor_take cl_Cursor rfl wd_314 wd_315 lk_ValueReader_43 d_ValueReader_readNumber_6 rfl (Nat.le_of_ble_eq_true rfl) (fun _ _ hh => hcall 30 _ _ _ _ hh) (fun v3 h2 => ?_)
  refine ax_istore_n (tv2 := [(3, ax_I v3), (0, ax_A x0), (1, ax_L x1)]) B d_ValueReader_readNumber_9 rfl (by decide) rfl ?_
  refine ax_iload_n B 0 d_ValueReader_readNumber_10 rfl rfl ?_
  refine ax_if_ne B 33 d_ValueReader_readNumber_11 (by decide) ?_ ?_
  · refine ax_aload_n B 1 d_ValueReader_readNumber_33 rfl rfl ?_
    refine ax_getfr B cl_ValueReader (by decide) fk_ValueReader_9 d_ValueReader_readNumber_34 (fun v4 => ?_)
    refine ax_callVi (av := []) (rest := []) B E hm_Cursor_peek cl_Cursor rfl wd_310 wd_311 lk_ValueReader_85 d_ValueReader_readNumber_37 rfl (Nat.le_of_ble_eq_true rfl) (fun _ _ hh => hcall 29 _ _ _ _ hh) (fun v6 h5 => ?_)
    refine ax_callSi (av := [ax_I v6]) (rest := []) B E hm_Desk_isDigit wd_391 lk_ValueReader_89 d_ValueReader_readNumber_40 rfl (Nat.le_of_ble_eq_true rfl) (fun _ _ hh => hcall 49 _ _ _ _ hh) (fun v8 h7 => ?_)
    refine ax_if_eq B 58 d_ValueReader_readNumber_43 (by decide) ?_ ?_
    · refine ax_iconst (v := 0) B d_ValueReader_readNumber_58 (by decide) ?_
      exact ax_zreturn B d_ValueReader_readNumber_59
    · refine ax_aload_n B 1 d_ValueReader_readNumber_46 rfl rfl ?_
      refine ax_getfr B cl_ValueReader (by decide) fk_ValueReader_9 d_ValueReader_readNumber_47 (fun v9 => ?_)
      refine ax_callVi (av := []) (rest := []) B E hm_Cursor_peek cl_Cursor rfl wd_310 wd_311 lk_ValueReader_85 d_ValueReader_readNumber_50 rfl (Nat.le_of_ble_eq_true rfl) (fun _ _ hh => hcall 29 _ _ _ _ hh) (fun v11 h10 => ?_)
      refine ax_bipush (v := 48) B d_ValueReader_readNumber_53 (by decide) ?_
      refine ax_icmp_ne B 60 d_ValueReader_readNumber_55 (by decide) ?_ ?_
      · refine ax_lconst (v := 0) B d_ValueReader_readNumber_60 (by decide) ?_
        refine ax_lstore (tv2 := [(4, ax_L 0), (3, ax_I v3), (0, ax_A x0), (1, ax_L x1)]) B d_ValueReader_readNumber_61 (by decide) rfl ?_
        refine ax_iload_n B 1 d_ValueReader_readNumber_63 rfl rfl ?_
        refine ax_if_eq B 74 d_ValueReader_readNumber_64 (by decide) ?_ ?_
        · refine ax_lload_n B 3 d_ValueReader_readNumber_74 rfl rfl ?_
          refine ax_lneg B d_ValueReader_readNumber_75 ?_
          refine ax_lstore (tv2 := [(6, ax_L (-x1)), (4, ax_L 0), (3, ax_I v3), (0, ax_A x0), (1, ax_L x1)]) B d_ValueReader_readNumber_76 (by decide) rfl ?_
          refine ax_iconst (v := 0) B d_ValueReader_readNumber_78 (by decide) ?_
          refine ax_istore (tv2 := [(8, ax_I 0), (6, ax_L (-x1)), (4, ax_L 0), (3, ax_I v3), (0, ax_A x0), (1, ax_L x1)]) B d_ValueReader_readNumber_79 (by decide) rfl ?_
          refine ax_sub (tv2 := [(0, ax_A x0), (3, ax_I v3), (4, ax_L 0), (6, ax_L (-x1)), (8, ax_I 0)]) [4, 3, 2, 1, 0] rfl ?_
          exact ValueReader_readNumber_lq81 hcall B E Nm ax_fuel x0 v3 0 (-x1) 0 h10
        · refine ax_lload_n B 3 d_ValueReader_readNumber_67 rfl rfl ?_
          refine ax_lneg B d_ValueReader_readNumber_68 ?_
          refine ax_lconst (v := 1) B d_ValueReader_readNumber_69 (by decide) ?_
          refine ax_lsub B d_ValueReader_readNumber_70 ?_
          refine ax_goto B 76 d_ValueReader_readNumber_71 (by decide) ?_
          refine ax_lstore (tv2 := [(6, ax_L ((-x1) - 1)), (4, ax_L 0), (3, ax_I v3), (0, ax_A x0), (1, ax_L x1)]) B d_ValueReader_readNumber_76 (by decide) rfl ?_
          refine ax_iconst (v := 0) B d_ValueReader_readNumber_78 (by decide) ?_
          refine ax_istore (tv2 := [(8, ax_I 0), (6, ax_L ((-x1) - 1)), (4, ax_L 0), (3, ax_I v3), (0, ax_A x0), (1, ax_L x1)]) B d_ValueReader_readNumber_79 (by decide) rfl ?_
          refine ax_sub (tv2 := [(0, ax_A x0), (3, ax_I v3), (4, ax_L 0), (6, ax_L ((-x1) - 1)), (8, ax_I 0)]) [4, 3, 2, 1, 0] rfl ?_
          exact ValueReader_readNumber_lq81 hcall B E Nm ax_fuel x0 v3 0 ((-x1) - 1) 0 h10
      · refine ax_iconst (v := 0) B d_ValueReader_readNumber_58 (by decide) ?_
        exact ax_zreturn B d_ValueReader_readNumber_59
  · refine ax_aload_n B 1 d_ValueReader_readNumber_14 rfl rfl ?_
    refine ax_getfr B cl_ValueReader (by decide) fk_ValueReader_9 d_ValueReader_readNumber_15 (fun v31 => ?_)
    refine ax_bipush (v := 48) B d_ValueReader_readNumber_18 (by decide) ?_
    refine ax_callVi (av := [ax_I 48]) (rest := []) B E hm_Cursor_take cl_Cursor rfl wd_314 wd_315 lk_ValueReader_43 d_ValueReader_readNumber_20 rfl (Nat.le_of_ble_eq_true rfl) (fun _ _ hh => hcall 30 _ _ _ _ hh) (fun v33 h32 => ?_)
    refine ax_if_eq B 33 d_ValueReader_readNumber_23 (by decide) ?_ ?_
    · refine ax_aload_n B 1 d_ValueReader_readNumber_33 rfl rfl ?_
      refine ax_getfr B cl_ValueReader (by decide) fk_ValueReader_9 d_ValueReader_readNumber_34 (fun v34 => ?_)
      refine ax_callVi (av := []) (rest := []) B E hm_Cursor_peek cl_Cursor rfl wd_310 wd_311 lk_ValueReader_85 d_ValueReader_readNumber_37 rfl (Nat.le_of_ble_eq_true rfl) (fun _ _ hh => hcall 29 _ _ _ _ hh) (fun v36 h35 => ?_)
      refine ax_callSi (av := [ax_I v36]) (rest := []) B E hm_Desk_isDigit wd_391 lk_ValueReader_89 d_ValueReader_readNumber_40 rfl (Nat.le_of_ble_eq_true rfl) (fun _ _ hh => hcall 49 _ _ _ _ hh) (fun v38 h37 => ?_)
      refine ax_if_eq B 58 d_ValueReader_readNumber_43 (by decide) ?_ ?_
      · refine ax_iconst (v := 0) B d_ValueReader_readNumber_58 (by decide) ?_
        exact ax_zreturn B d_ValueReader_readNumber_59
      · refine ax_aload_n B 1 d_ValueReader_readNumber_46 rfl rfl ?_
        refine ax_getfr B cl_ValueReader (by decide) fk_ValueReader_9 d_ValueReader_readNumber_47 (fun v39 => ?_)
        refine ax_callVi (av := []) (rest := []) B E hm_Cursor_peek cl_Cursor rfl wd_310 wd_311 lk_ValueReader_85 d_ValueReader_readNumber_50 rfl (Nat.le_of_ble_eq_true rfl) (fun _ _ hh => hcall 29 _ _ _ _ hh) (fun v41 h40 => ?_)
        refine ax_bipush (v := 48) B d_ValueReader_readNumber_53 (by decide) ?_
        refine ax_icmp_ne B 60 d_ValueReader_readNumber_55 (by decide) ?_ ?_
        · refine ax_lconst (v := 0) B d_ValueReader_readNumber_60 (by decide) ?_
          refine ax_lstore (tv2 := [(4, ax_L 0), (3, ax_I v3), (0, ax_A x0), (1, ax_L x1)]) B d_ValueReader_readNumber_61 (by decide) rfl ?_
          refine ax_iload_n B 1 d_ValueReader_readNumber_63 rfl rfl ?_
          refine ax_if_eq B 74 d_ValueReader_readNumber_64 (by decide) ?_ ?_
          · refine ax_lload_n B 3 d_ValueReader_readNumber_74 rfl rfl ?_
            refine ax_lneg B d_ValueReader_readNumber_75 ?_
            refine ax_lstore (tv2 := [(6, ax_L (-x1)), (4, ax_L 0), (3, ax_I v3), (0, ax_A x0), (1, ax_L x1)]) B d_ValueReader_readNumber_76 (by decide) rfl ?_
            refine ax_iconst (v := 0) B d_ValueReader_readNumber_78 (by decide) ?_
            refine ax_istore (tv2 := [(8, ax_I 0), (6, ax_L (-x1)), (4, ax_L 0), (3, ax_I v3), (0, ax_A x0), (1, ax_L x1)]) B d_ValueReader_readNumber_79 (by decide) rfl ?_
            refine ax_sub (tv2 := [(0, ax_A x0), (3, ax_I v3), (4, ax_L 0), (6, ax_L (-x1)), (8, ax_I 0)]) [4, 3, 2, 1, 0] rfl ?_
            exact ValueReader_readNumber_lq81 hcall B E Nm ax_fuel x0 v3 0 (-x1) 0 h40
          · refine ax_lload_n B 3 d_ValueReader_readNumber_67 rfl rfl ?_
            refine ax_lneg B d_ValueReader_readNumber_68 ?_
            refine ax_lconst (v := 1) B d_ValueReader_readNumber_69 (by decide) ?_
            refine ax_lsub B d_ValueReader_readNumber_70 ?_
            refine ax_goto B 76 d_ValueReader_readNumber_71 (by decide) ?_
            refine ax_lstore (tv2 := [(6, ax_L ((-x1) - 1)), (4, ax_L 0), (3, ax_I v3), (0, ax_A x0), (1, ax_L x1)]) B d_ValueReader_readNumber_76 (by decide) rfl ?_
            refine ax_iconst (v := 0) B d_ValueReader_readNumber_78 (by decide) ?_
            refine ax_istore (tv2 := [(8, ax_I 0), (6, ax_L ((-x1) - 1)), (4, ax_L 0), (3, ax_I v3), (0, ax_A x0), (1, ax_L x1)]) B d_ValueReader_readNumber_79 (by decide) rfl ?_
            refine ax_sub (tv2 := [(0, ax_A x0), (3, ax_I v3), (4, ax_L 0), (6, ax_L ((-x1) - 1)), (8, ax_I 0)]) [4, 3, 2, 1, 0] rfl ?_
            exact ValueReader_readNumber_lq81 hcall B E Nm ax_fuel x0 v3 0 ((-x1) - 1) 0 h40
        · refine ax_iconst (v := 0) B d_ValueReader_readNumber_58 (by decide) ?_
          exact ax_zreturn B d_ValueReader_readNumber_59
    · refine ax_aload_n B 1 d_ValueReader_readNumber_26 rfl rfl ?_
      refine ax_lconst (v := 0) B d_ValueReader_readNumber_27 (by decide) ?_
      refine ax_callVv (av := [ax_L 0]) (rest := []) B E hm_ValueReader_addNumber cl_ValueReader rfl wd_387 wp_12 lk_ValueReader_81 d_ValueReader_readNumber_28 rfl (Nat.le_of_ble_eq_true rfl) (fun _ _ hh => hcall 48 _ _ _ _ hh) (fun h42 => ?_)
      refine ax_iconst (v := 1) B d_ValueReader_readNumber_31 (by decide) ?_
      exact ax_zreturn B d_ValueReader_readNumber_32

theorem d_ValueReader_addNumber_0 : decode prog_10_method_7_code 0 = .ok (.lload_n 1, 1) := by decide +kernel
theorem d_ValueReader_addNumber_1 : decode prog_10_method_7_code 1 = .ok (.iconst 1, 1) := by decide +kernel
theorem d_ValueReader_addNumber_2 : decode prog_10_method_7_code 2 = .ok (.lshl, 1) := by decide +kernel
theorem d_ValueReader_addNumber_3 : decode prog_10_method_7_code 3 = .ok (.lload_n 1, 1) := by decide +kernel
theorem d_ValueReader_addNumber_4 : decode prog_10_method_7_code 4 = .ok (.bipush 63, 2) := by decide +kernel
theorem d_ValueReader_addNumber_6 : decode prog_10_method_7_code 6 = .ok (.lshr, 1) := by decide +kernel
theorem d_ValueReader_addNumber_7 : decode prog_10_method_7_code 7 = .ok (.lxor, 1) := by decide +kernel
theorem d_ValueReader_addNumber_8 : decode prog_10_method_7_code 8 = .ok (.lstore_n 3, 1) := by decide +kernel
theorem d_ValueReader_addNumber_9 : decode prog_10_method_7_code 9 = .ok (.iconst 0, 1) := by decide +kernel
theorem d_ValueReader_addNumber_10 : decode prog_10_method_7_code 10 = .ok (.istore 5, 2) := by decide +kernel
theorem d_ValueReader_addNumber_12 : decode prog_10_method_7_code 12 = .ok (.iload 5, 2) := by decide +kernel
theorem d_ValueReader_addNumber_14 : decode prog_10_method_7_code 14 = .ok (.bipush 64, 2) := by decide +kernel
theorem d_ValueReader_addNumber_16 : decode prog_10_method_7_code 16 = .ok (.if_icmp .ge 52, 3) := by decide +kernel
theorem d_ValueReader_addNumber_19 : decode prog_10_method_7_code 19 = .ok (.lload_n 3, 1) := by decide +kernel
theorem d_ValueReader_addNumber_20 : decode prog_10_method_7_code 20 = .ok (.l2i, 1) := by decide +kernel
theorem d_ValueReader_addNumber_21 : decode prog_10_method_7_code 21 = .ok (.bipush 127, 2) := by decide +kernel
theorem d_ValueReader_addNumber_23 : decode prog_10_method_7_code 23 = .ok (.iand, 1) := by decide +kernel
theorem d_ValueReader_addNumber_24 : decode prog_10_method_7_code 24 = .ok (.istore 6, 2) := by decide +kernel
theorem d_ValueReader_addNumber_26 : decode prog_10_method_7_code 26 = .ok (.lload_n 3, 1) := by decide +kernel
theorem d_ValueReader_addNumber_27 : decode prog_10_method_7_code 27 = .ok (.bipush 7, 2) := by decide +kernel
theorem d_ValueReader_addNumber_29 : decode prog_10_method_7_code 29 = .ok (.lushr, 1) := by decide +kernel
theorem d_ValueReader_addNumber_30 : decode prog_10_method_7_code 30 = .ok (.lstore_n 3, 1) := by decide +kernel
theorem d_ValueReader_addNumber_31 : decode prog_10_method_7_code 31 = .ok (.lload_n 3, 1) := by decide +kernel
theorem d_ValueReader_addNumber_32 : decode prog_10_method_7_code 32 = .ok (.lconst 0, 1) := by decide +kernel
theorem d_ValueReader_addNumber_33 : decode prog_10_method_7_code 33 = .ok (.lcmp, 1) := by decide +kernel
theorem d_ValueReader_addNumber_34 : decode prog_10_method_7_code 34 = .ok (.ifCond .ne 14, 3) := by decide +kernel
theorem d_ValueReader_addNumber_37 : decode prog_10_method_7_code 37 = .ok (.aload_n 0, 1) := by decide +kernel
theorem d_ValueReader_addNumber_38 : decode prog_10_method_7_code 38 = .ok (.getfield 19, 3) := by decide +kernel
theorem d_ValueReader_addNumber_41 : decode prog_10_method_7_code 41 = .ok (.iload 6, 2) := by decide +kernel
theorem d_ValueReader_addNumber_43 : decode prog_10_method_7_code 43 = .ok (.invokevirtual 76, 3) := by decide +kernel
theorem d_ValueReader_addNumber_46 : decode prog_10_method_7_code 46 = .ok (.pop, 1) := by decide +kernel
theorem d_ValueReader_addNumber_47 : decode prog_10_method_7_code 47 = .ok (.return_, 1) := by decide +kernel
theorem d_ValueReader_addNumber_48 : decode prog_10_method_7_code 48 = .ok (.aload_n 0, 1) := by decide +kernel
theorem d_ValueReader_addNumber_49 : decode prog_10_method_7_code 49 = .ok (.getfield 19, 3) := by decide +kernel
theorem d_ValueReader_addNumber_52 : decode prog_10_method_7_code 52 = .ok (.iload 6, 2) := by decide +kernel
theorem d_ValueReader_addNumber_54 : decode prog_10_method_7_code 54 = .ok (.sipush 128, 3) := by decide +kernel
theorem d_ValueReader_addNumber_57 : decode prog_10_method_7_code 57 = .ok (.iadd, 1) := by decide +kernel
theorem d_ValueReader_addNumber_58 : decode prog_10_method_7_code 58 = .ok (.invokevirtual 76, 3) := by decide +kernel
theorem d_ValueReader_addNumber_61 : decode prog_10_method_7_code 61 = .ok (.pop, 1) := by decide +kernel
theorem d_ValueReader_addNumber_62 : decode prog_10_method_7_code 62 = .ok (.iinc 5 7, 3) := by decide +kernel
theorem d_ValueReader_addNumber_65 : decode prog_10_method_7_code 65 = .ok (.goto (-53), 3) := by decide +kernel
theorem d_ValueReader_addNumber_68 : decode prog_10_method_7_code 68 = .ok (.return_, 1) := by decide +kernel
def ValueReader_addNumber_bd12 (call : ax_Cf)  (k12 : Option Nat → Int64 → Int32 → ax_Hp → ax_O) (x0 : Option Nat) (x3 : Int64) (x5 : Int32) (h : ax_Hp) : ax_O :=
  if 64 ≤ x5 then
    ax_rv h
  else
    if (lg_cmp ((x3.toUInt64 >>> ((7 : Int32).toInt64.toUInt64 &&& Int64.toUInt64 63)).toInt64) 0) = 0 then
      (ax_gr h x0 7 2).bind fun v4 =>
      ax_on h v4 2 <| ax_ci (call 8 [ax_A v4, ax_I ((x3.toInt32) &&& 127)] h) fun v6 h5 =>
      ax_rv h5
    else
      (ax_gr h x0 7 2).bind fun v1 =>
      ax_on h v1 2 <| ax_ci (call 8 [ax_A v1, ax_I (((x3.toInt32) &&& 127) + 128)] h) fun v3 h2 =>
      k12 x0 ((x3.toUInt64 >>> ((7 : Int32).toInt64.toUInt64 &&& Int64.toUInt64 63)).toInt64) (x5 + 7) h2
def ValueReader_addNumber_lp12 (call : ax_Cf)  : Nat → Option Nat → Int64 → Int32 → ax_Hp → ax_O
  | 0 => fun _ _ _ _ => none
  | n + 1 => ValueReader_addNumber_bd12 call  (ValueReader_addNumber_lp12 call  n)
set_option maxHeartbeats 4000000 in
set_option maxRecDepth 20000 in
theorem ValueReader_addNumber_lb12 {l : Launch} {G : ax_G} {d : Nat} {call : ax_Cf} (hcall : ax_Hc l G d call) {p : Program} {e : Env} {s : State} {mi : MethodId} {args : Array Value} {below : List Frame} {meth : Method} {c : Code} {h0 : ax_Hp} (B : ax_B G p s mi meth c "SchemaDesk$ValueReader" prog_10_method_7_code 7 none) (E : c.exceptionTable.isEmpty = true) (Nm : meth.name = y_ValueReader_addNumber.name)   {k12 : Option Nat → Int64 → Int32 → ax_Hp → ax_O} (hk12 : ∀ (x0 : Option Nat) (x3 : Int64) (x5 : Int32) (h : ax_Hp), ax_W G p l e s mi args below meth c 7 (d + 1) h0 12 [(0, ax_A x0), (3, ax_L x3), (5, ax_I x5)] [] h (k12 x0 x3 x5 h)) (x0 : Option Nat) (x3 : Int64) (x5 : Int32) (h : ax_Hp) : ax_W G p l e s mi args below meth c 7 (d + 1) h0 12 [(0, ax_A x0), (3, ax_L x3), (5, ax_I x5)] [] h (ValueReader_addNumber_bd12 call  k12 x0 x3 x5 h) := by
  unfold ValueReader_addNumber_bd12
  refine ax_iload B 2 d_ValueReader_addNumber_12 rfl ?_
  refine ax_bipush (v := 64) B d_ValueReader_addNumber_14 (by decide) ?_
  refine ax_icmp_ge B 68 d_ValueReader_addNumber_16 (by decide) ?_ ?_
  · exact ax_vreturn B d_ValueReader_addNumber_68
  · refine ax_lload_n B 1 d_ValueReader_addNumber_19 rfl rfl ?_
    refine ax_l2i B d_ValueReader_addNumber_20 ?_
    refine ax_bipush (v := 127) B d_ValueReader_addNumber_21 (by decide) ?_
    refine ax_iand B d_ValueReader_addNumber_23 ?_
    refine ax_istore (tv2 := [(6, ax_I ((x3.toInt32) &&& 127)), (0, ax_A x0), (3, ax_L x3), (5, ax_I x5)]) B d_ValueReader_addNumber_24 (by decide) rfl ?_
    refine ax_lload_n B 2 d_ValueReader_addNumber_26 rfl rfl ?_
    refine ax_bipush (v := 7) B d_ValueReader_addNumber_27 (by decide) ?_
    refine ax_lushr B d_ValueReader_addNumber_29 ?_
    refine ax_lstore_n (tv2 := [(3, ax_L ((x3.toUInt64 >>> ((7 : Int32).toInt64.toUInt64 &&& Int64.toUInt64 63)).toInt64)), (6, ax_I ((x3.toInt32) &&& 127)), (0, ax_A x0), (5, ax_I x5)]) B d_ValueReader_addNumber_30 rfl (by decide) rfl ?_
    refine ax_lload_n B 0 d_ValueReader_addNumber_31 rfl rfl ?_
    refine ax_lconst (v := 0) B d_ValueReader_addNumber_32 (by decide) ?_
    refine ax_lcmp B d_ValueReader_addNumber_33 ?_
    refine ax_if_ne B 48 d_ValueReader_addNumber_34 (by decide) ?_ ?_
    · refine ax_aload_n B 2 d_ValueReader_addNumber_48 rfl rfl ?_
      refine ax_getfr B cl_ValueReader (by decide) fk_ValueReader_19 d_ValueReader_addNumber_49 (fun v1 => ?_)
      refine ax_iload B 1 d_ValueReader_addNumber_52 rfl ?_
      refine ax_sipush (v := 128) B d_ValueReader_addNumber_54 (by decide) ?_
      refine ax_iadd B d_ValueReader_addNumber_57 ?_
      refine ax_callVi (av := [ax_I (((x3.toInt32) &&& 127) + 128)]) (rest := []) B E hm_Row_add cl_Row rfl wd_123 wd_124 lk_ValueReader_76 d_ValueReader_addNumber_58 rfl (Nat.le_of_ble_eq_true rfl) (fun _ _ hh => hcall 8 _ _ _ _ hh) (fun v3 h2 => ?_)
      refine ax_pop B d_ValueReader_addNumber_61 rfl ?_
      refine ax_iinc (v := x5 + 7) (tv2 := [(5, ax_I (x5 + 7)), (3, ax_L ((x3.toUInt64 >>> ((7 : Int32).toInt64.toUInt64 &&& Int64.toUInt64 63)).toInt64)), (6, ax_I ((x3.toInt32) &&& 127)), (0, ax_A x0)]) B 3 d_ValueReader_addNumber_62 rfl (congrArg (_ + ·) (by decide)) (by decide) rfl ?_
      refine ax_goto B 12 d_ValueReader_addNumber_65 (by decide) ?_
      refine ax_sub (tv2 := [(0, ax_A x0), (3, ax_L ((x3.toUInt64 >>> ((7 : Int32).toInt64.toUInt64 &&& Int64.toUInt64 63)).toInt64)), (5, ax_I (x5 + 7))]) [3, 1, 0] rfl ?_
      exact hk12 x0 ((x3.toUInt64 >>> ((7 : Int32).toInt64.toUInt64 &&& Int64.toUInt64 63)).toInt64) (x5 + 7) h2
    · refine ax_aload_n B 2 d_ValueReader_addNumber_37 rfl rfl ?_
      refine ax_getfr B cl_ValueReader (by decide) fk_ValueReader_19 d_ValueReader_addNumber_38 (fun v4 => ?_)
      refine ax_iload B 1 d_ValueReader_addNumber_41 rfl ?_
      refine ax_callVi (av := [ax_I ((x3.toInt32) &&& 127)]) (rest := []) B E hm_Row_add cl_Row rfl wd_123 wd_124 lk_ValueReader_76 d_ValueReader_addNumber_43 rfl (Nat.le_of_ble_eq_true rfl) (fun _ _ hh => hcall 8 _ _ _ _ hh) (fun v6 h5 => ?_)
      refine ax_pop B d_ValueReader_addNumber_46 rfl ?_
      exact ax_vreturn B d_ValueReader_addNumber_47
theorem ValueReader_addNumber_lq12 {l : Launch} {G : ax_G} {d : Nat} {call : ax_Cf} (hcall : ax_Hc l G d call) {p : Program} {e : Env} {s : State} {mi : MethodId} {args : Array Value} {below : List Frame} {meth : Method} {c : Code} {h0 : ax_Hp} (B : ax_B G p s mi meth c "SchemaDesk$ValueReader" prog_10_method_7_code 7 none) (E : c.exceptionTable.isEmpty = true) (Nm : meth.name = y_ValueReader_addNumber.name)   : ∀ (n : Nat) (x0 : Option Nat) (x3 : Int64) (x5 : Int32) (h : ax_Hp), ax_W G p l e s mi args below meth c 7 (d + 1) h0 12 [(0, ax_A x0), (3, ax_L x3), (5, ax_I x5)] [] h (ValueReader_addNumber_lp12 call  n x0 x3 x5 h)
  | 0, _, _, _, _ => ax_none
  | n + 1, x0, x3, x5, h => ValueReader_addNumber_lb12 hcall B E Nm   (ValueReader_addNumber_lq12 hcall B E Nm   n) x0 x3 x5 h
def ValueReader_addNumber_b (call : ax_Cf) (x0 : Option Nat) (x1 : Int64) (h : ax_Hp) : ax_O :=
  ValueReader_addNumber_lp12 call ax_fuel x0 ((x1 <<< ((1 : Int32).toInt64 &&& 63)) ^^^ (x1 >>> ((63 : Int32).toInt64 &&& 63))) 0 h
set_option maxHeartbeats 4000000 in
set_option maxRecDepth 20000 in
theorem ValueReader_addNumber_t {l : Launch} {G : ax_G} {d : Nat} {call : ax_Cf} (hcall : ax_Hc l G d call) (x0 : Option Nat) (x1 : Int64) (h : ax_Hp) {r : ax_Rs} {h' : ax_Hp} (ho : ValueReader_addNumber_b call x0 x1 h = some (r, h')) : ax_C l G (d + 1) y_ValueReader_addNumber (.code y_ValueReader_addNumber prog_10_method_7_code 7 none) [ax_A x0, ax_L x1] h r h' := by
  refine ax_enter (by decide) (Nat.le_of_ble_eq_true rfl) ho (fun p e s mi args below meth c B E Nm => ?_)
  have B : ax_B G p s mi meth c "SchemaDesk$ValueReader" prog_10_method_7_code 7 none := B
  show ax_W G p l e s mi args below meth c 7 (d + 1) h 0 [(0, ax_A x0), (1, ax_L x1)] [] h (ValueReader_addNumber_b call x0 x1 h)
  unfold ValueReader_addNumber_b
  refine ax_lload_n B 1 d_ValueReader_addNumber_0 rfl rfl ?_
  refine ax_iconst (v := 1) B d_ValueReader_addNumber_1 (by decide) ?_
  refine ax_lshl B d_ValueReader_addNumber_2 ?_
  refine ax_lload_n B 1 d_ValueReader_addNumber_3 rfl rfl ?_
  refine ax_bipush (v := 63) B d_ValueReader_addNumber_4 (by decide) ?_
  refine ax_lshr B d_ValueReader_addNumber_6 ?_
  refine ax_lxor B d_ValueReader_addNumber_7 ?_
  refine ax_lstore_n (tv2 := [(3, ax_L ((x1 <<< ((1 : Int32).toInt64 &&& 63)) ^^^ (x1 >>> ((63 : Int32).toInt64 &&& 63)))), (0, ax_A x0), (1, ax_L x1)]) B d_ValueReader_addNumber_8 rfl (by decide) rfl ?_
  refine ax_iconst (v := 0) B d_ValueReader_addNumber_9 (by decide) ?_
  refine ax_istore (tv2 := [(5, ax_I 0), (3, ax_L ((x1 <<< ((1 : Int32).toInt64 &&& 63)) ^^^ (x1 >>> ((63 : Int32).toInt64 &&& 63)))), (0, ax_A x0), (1, ax_L x1)]) B d_ValueReader_addNumber_10 (by decide) rfl ?_
  refine ax_sub (tv2 := [(0, ax_A x0), (3, ax_L ((x1 <<< ((1 : Int32).toInt64 &&& 63)) ^^^ (x1 >>> ((63 : Int32).toInt64 &&& 63)))), (5, ax_I 0)]) [2, 1, 0] rfl ?_
  exact ValueReader_addNumber_lq12 hcall B E Nm ax_fuel x0 ((x1 <<< ((1 : Int32).toInt64 &&& 63)) ^^^ (x1 >>> ((63 : Int32).toInt64 &&& 63))) 0 h

theorem d_ValueReader_readString_0 : decode prog_10_method_8_code 0 = .ok (.aload_n 0, 1) := by decide +kernel
theorem d_ValueReader_readString_1 : decode prog_10_method_8_code 1 = .ok (.getfield 9, 3) := by decide +kernel
theorem d_ValueReader_readString_4 : decode prog_10_method_8_code 4 = .ok (.bipush 34, 2) := by decide +kernel
theorem d_ValueReader_readString_6 : decode prog_10_method_8_code 6 = .ok (.invokevirtual 43, 3) := by decide +kernel
theorem d_ValueReader_readString_9 : decode prog_10_method_8_code 9 = .ok (.ifCond .ne 5, 3) := by decide +kernel
theorem d_ValueReader_readString_12 : decode prog_10_method_8_code 12 = .ok (.iconst 0, 1) := by decide +kernel
theorem d_ValueReader_readString_13 : decode prog_10_method_8_code 13 = .ok (.ireturn, 1) := by decide +kernel
theorem d_ValueReader_readString_14 : decode prog_10_method_8_code 14 = .ok (.aload_n 0, 1) := by decide +kernel
theorem d_ValueReader_readString_15 : decode prog_10_method_8_code 15 = .ok (.getfield 19, 3) := by decide +kernel
theorem d_ValueReader_readString_18 : decode prog_10_method_8_code 18 = .ok (.invokevirtual 97, 3) := by decide +kernel
theorem d_ValueReader_readString_21 : decode prog_10_method_8_code 21 = .ok (.istore_n 1, 1) := by decide +kernel
theorem d_ValueReader_readString_22 : decode prog_10_method_8_code 22 = .ok (.aload_n 0, 1) := by decide +kernel
theorem d_ValueReader_readString_23 : decode prog_10_method_8_code 23 = .ok (.getfield 19, 3) := by decide +kernel
theorem d_ValueReader_readString_26 : decode prog_10_method_8_code 26 = .ok (.iconst 0, 1) := by decide +kernel
theorem d_ValueReader_readString_27 : decode prog_10_method_8_code 27 = .ok (.invokevirtual 76, 3) := by decide +kernel
theorem d_ValueReader_readString_30 : decode prog_10_method_8_code 30 = .ok (.pop, 1) := by decide +kernel
theorem d_ValueReader_readString_31 : decode prog_10_method_8_code 31 = .ok (.iconst 0, 1) := by decide +kernel
theorem d_ValueReader_readString_32 : decode prog_10_method_8_code 32 = .ok (.istore_n 2, 1) := by decide +kernel
theorem d_ValueReader_readString_33 : decode prog_10_method_8_code 33 = .ok (.iconst 0, 1) := by decide +kernel
theorem d_ValueReader_readString_34 : decode prog_10_method_8_code 34 = .ok (.istore_n 3, 1) := by decide +kernel
theorem d_ValueReader_readString_35 : decode prog_10_method_8_code 35 = .ok (.iload_n 3, 1) := by decide +kernel
theorem d_ValueReader_readString_36 : decode prog_10_method_8_code 36 = .ok (.bipush 12, 2) := by decide +kernel
theorem d_ValueReader_readString_38 : decode prog_10_method_8_code 38 = .ok (.if_icmp .ge 56, 3) := by decide +kernel
theorem d_ValueReader_readString_41 : decode prog_10_method_8_code 41 = .ok (.aload_n 0, 1) := by decide +kernel
theorem d_ValueReader_readString_42 : decode prog_10_method_8_code 42 = .ok (.getfield 9, 3) := by decide +kernel
theorem d_ValueReader_readString_45 : decode prog_10_method_8_code 45 = .ok (.invokevirtual 31, 3) := by decide +kernel
theorem d_ValueReader_readString_48 : decode prog_10_method_8_code 48 = .ok (.ifCond .ne 46, 3) := by decide +kernel
theorem d_ValueReader_readString_51 : decode prog_10_method_8_code 51 = .ok (.aload_n 0, 1) := by decide +kernel
theorem d_ValueReader_readString_52 : decode prog_10_method_8_code 52 = .ok (.getfield 9, 3) := by decide +kernel
theorem d_ValueReader_readString_55 : decode prog_10_method_8_code 55 = .ok (.invokevirtual 85, 3) := by decide +kernel
theorem d_ValueReader_readString_58 : decode prog_10_method_8_code 58 = .ok (.bipush 34, 2) := by decide +kernel
theorem d_ValueReader_readString_60 : decode prog_10_method_8_code 60 = .ok (.if_icmp .eq 34, 3) := by decide +kernel
theorem d_ValueReader_readString_63 : decode prog_10_method_8_code 63 = .ok (.aload_n 0, 1) := by decide +kernel
theorem d_ValueReader_readString_64 : decode prog_10_method_8_code 64 = .ok (.getfield 19, 3) := by decide +kernel
theorem d_ValueReader_readString_67 : decode prog_10_method_8_code 67 = .ok (.aload_n 0, 1) := by decide +kernel
theorem d_ValueReader_readString_68 : decode prog_10_method_8_code 68 = .ok (.getfield 9, 3) := by decide +kernel
theorem d_ValueReader_readString_71 : decode prog_10_method_8_code 71 = .ok (.invokevirtual 85, 3) := by decide +kernel
theorem d_ValueReader_readString_74 : decode prog_10_method_8_code 74 = .ok (.invokevirtual 76, 3) := by decide +kernel
theorem d_ValueReader_readString_77 : decode prog_10_method_8_code 77 = .ok (.pop, 1) := by decide +kernel
theorem d_ValueReader_readString_78 : decode prog_10_method_8_code 78 = .ok (.aload_n 0, 1) := by decide +kernel
theorem d_ValueReader_readString_79 : decode prog_10_method_8_code 79 = .ok (.getfield 9, 3) := by decide +kernel
theorem d_ValueReader_readString_82 : decode prog_10_method_8_code 82 = .ok (.invokevirtual 94, 3) := by decide +kernel
theorem d_ValueReader_readString_85 : decode prog_10_method_8_code 85 = .ok (.iinc 2 1, 3) := by decide +kernel
theorem d_ValueReader_readString_88 : decode prog_10_method_8_code 88 = .ok (.iinc 3 1, 3) := by decide +kernel
theorem d_ValueReader_readString_91 : decode prog_10_method_8_code 91 = .ok (.goto (-56), 3) := by decide +kernel
theorem d_ValueReader_readString_94 : decode prog_10_method_8_code 94 = .ok (.aload_n 0, 1) := by decide +kernel
theorem d_ValueReader_readString_95 : decode prog_10_method_8_code 95 = .ok (.getfield 19, 3) := by decide +kernel
theorem d_ValueReader_readString_98 : decode prog_10_method_8_code 98 = .ok (.iload_n 1, 1) := by decide +kernel
theorem d_ValueReader_readString_99 : decode prog_10_method_8_code 99 = .ok (.iconst 2, 1) := by decide +kernel
theorem d_ValueReader_readString_100 : decode prog_10_method_8_code 100 = .ok (.iload_n 2, 1) := by decide +kernel
theorem d_ValueReader_readString_101 : decode prog_10_method_8_code 101 = .ok (.imul, 1) := by decide +kernel
theorem d_ValueReader_readString_102 : decode prog_10_method_8_code 102 = .ok (.invokevirtual 100, 3) := by decide +kernel
theorem d_ValueReader_readString_105 : decode prog_10_method_8_code 105 = .ok (.aload_n 0, 1) := by decide +kernel
theorem d_ValueReader_readString_106 : decode prog_10_method_8_code 106 = .ok (.getfield 9, 3) := by decide +kernel
theorem d_ValueReader_readString_109 : decode prog_10_method_8_code 109 = .ok (.bipush 34, 2) := by decide +kernel
theorem d_ValueReader_readString_111 : decode prog_10_method_8_code 111 = .ok (.invokevirtual 43, 3) := by decide +kernel
theorem d_ValueReader_readString_114 : decode prog_10_method_8_code 114 = .ok (.ireturn, 1) := by decide +kernel
def ValueReader_readString_bd35 (call : ax_Cf)  (k35 : Option Nat → Int32 → Int32 → Int32 → ax_Hp → ax_O) (x0 : Option Nat) (x1 : Int32) (x2 : Int32) (x3 : Int32) (h : ax_Hp) : ax_O :=
  if 12 ≤ x3 then
    (ax_gr h x0 7 2).bind fun v10 =>
    ax_on h v10 2 <| ax_cv (call 53 [ax_A v10, ax_I x1, ax_I (2 * x2)] h) fun h11 =>
    (ax_gr h11 x0 7 0).bind fun v13 =>
    ax_on h11 v13 0 <| ax_ci (call 30 [ax_A v13, ax_I 34] h11) fun v15 h14 =>
    ax_rz v15 h14
  else
    (ax_gr h x0 7 0).bind fun v16 =>
    ax_on h v16 0 <| ax_ci (call 52 [ax_A v16] h) fun v18 h17 =>
    if v18 = 0 then
      (ax_gr h17 x0 7 0).bind fun v25 =>
      ax_on h17 v25 0 <| ax_ci (call 29 [ax_A v25] h17) fun v27 h26 =>
      if v27 = 34 then
        (ax_gr h26 x0 7 2).bind fun v28 =>
        ax_on h26 v28 2 <| ax_cv (call 53 [ax_A v28, ax_I x1, ax_I (2 * x2)] h26) fun h29 =>
        (ax_gr h29 x0 7 0).bind fun v31 =>
        ax_on h29 v31 0 <| ax_ci (call 30 [ax_A v31, ax_I 34] h29) fun v33 h32 =>
        ax_rz v33 h32
      else
        (ax_gr h26 x0 7 2).bind fun v34 =>
        (ax_gr h26 x0 7 0).bind fun v35 =>
        ax_on h26 v35 0 <| ax_ci (call 29 [ax_A v35] h26) fun v37 h36 =>
        ax_on h36 v34 2 <| ax_ci (call 8 [ax_A v34, ax_I v37] h36) fun v39 h38 =>
        (ax_gr h38 x0 7 0).bind fun v40 =>
        ax_on h38 v40 0 <| ax_cv (call 34 [ax_A v40] h38) fun h41 =>
        k35 x0 x1 (x2 + 1) (x3 + 1) h41
    else
      (ax_gr h17 x0 7 2).bind fun v19 =>
      ax_on h17 v19 2 <| ax_cv (call 53 [ax_A v19, ax_I x1, ax_I (2 * x2)] h17) fun h20 =>
      (ax_gr h20 x0 7 0).bind fun v22 =>
      ax_on h20 v22 0 <| ax_ci (call 30 [ax_A v22, ax_I 34] h20) fun v24 h23 =>
      ax_rz v24 h23
def ValueReader_readString_lp35 (call : ax_Cf)  : Nat → Option Nat → Int32 → Int32 → Int32 → ax_Hp → ax_O
  | 0 => fun _ _ _ _ _ => none
  | n + 1 => ValueReader_readString_bd35 call  (ValueReader_readString_lp35 call  n)
set_option maxHeartbeats 4000000 in
set_option maxRecDepth 20000 in
theorem ValueReader_readString_lb35 {l : Launch} {G : ax_G} {d : Nat} {call : ax_Cf} (hcall : ax_Hc l G d call) {p : Program} {e : Env} {s : State} {mi : MethodId} {args : Array Value} {below : List Frame} {meth : Method} {c : Code} {h0 : ax_Hp} (B : ax_B G p s mi meth c "SchemaDesk$ValueReader" prog_10_method_8_code 4 (some (.boolean))) (E : c.exceptionTable.isEmpty = true) (Nm : meth.name = y_ValueReader_readString.name)   {k35 : Option Nat → Int32 → Int32 → Int32 → ax_Hp → ax_O} (hk35 : ∀ (x0 : Option Nat) (x1 : Int32) (x2 : Int32) (x3 : Int32) (h : ax_Hp), ax_W G p l e s mi args below meth c 4 (d + 1) h0 35 [(0, ax_A x0), (1, ax_I x1), (2, ax_I x2), (3, ax_I x3)] [] h (k35 x0 x1 x2 x3 h)) (x0 : Option Nat) (x1 : Int32) (x2 : Int32) (x3 : Int32) (h : ax_Hp) : ax_W G p l e s mi args below meth c 4 (d + 1) h0 35 [(0, ax_A x0), (1, ax_I x1), (2, ax_I x2), (3, ax_I x3)] [] h (ValueReader_readString_bd35 call  k35 x0 x1 x2 x3 h) := by
  unfold ValueReader_readString_bd35
  refine ax_iload_n B 3 d_ValueReader_readString_35 rfl rfl ?_
  refine ax_bipush (v := 12) B d_ValueReader_readString_36 (by decide) ?_
  refine ax_icmp_ge B 94 d_ValueReader_readString_38 (by decide) ?_ ?_
  · refine ax_aload_n B 0 d_ValueReader_readString_94 rfl rfl ?_
    refine ax_getfr B cl_ValueReader (by decide) fk_ValueReader_19 d_ValueReader_readString_95 (fun v10 => ?_)
    refine ax_iload_n B 1 d_ValueReader_readString_98 rfl rfl ?_
    refine ax_iconst (v := 2) B d_ValueReader_readString_99 (by decide) ?_
    refine ax_iload_n B 2 d_ValueReader_readString_100 rfl rfl ?_
    refine ax_imul B d_ValueReader_readString_101 ?_
    refine ax_callVv (av := [ax_I x1, ax_I (2 * x2)]) (rest := []) B E hm_Row_set cl_Row rfl wd_409 wd_410 lk_ValueReader_100 d_ValueReader_readString_102 rfl (Nat.le_of_ble_eq_true rfl) (fun _ _ hh => hcall 53 _ _ _ _ hh) (fun h11 => ?_)
    refine ax_aload_n B 0 d_ValueReader_readString_105 rfl rfl ?_
    refine ax_getfr B cl_ValueReader (by decide) fk_ValueReader_9 d_ValueReader_readString_106 (fun v13 => ?_)
    refine ax_bipush (v := 34) B d_ValueReader_readString_109 (by decide) ?_
    refine ax_callVi (av := [ax_I 34]) (rest := []) B E hm_Cursor_take cl_Cursor rfl wd_314 wd_315 lk_ValueReader_43 d_ValueReader_readString_111 rfl (Nat.le_of_ble_eq_true rfl) (fun _ _ hh => hcall 30 _ _ _ _ hh) (fun v15 h14 => ?_)
    exact ax_zreturn B d_ValueReader_readString_114
  · refine ax_aload_n B 0 d_ValueReader_readString_41 rfl rfl ?_
    refine ax_getfr B cl_ValueReader (by decide) fk_ValueReader_9 d_ValueReader_readString_42 (fun v16 => ?_)
    refine ax_callVi (av := []) (rest := []) B E hm_Cursor_isAtEnd cl_Cursor rfl wd_405 wd_406 lk_ValueReader_31 d_ValueReader_readString_45 rfl (Nat.le_of_ble_eq_true rfl) (fun _ _ hh => hcall 52 _ _ _ _ hh) (fun v18 h17 => ?_)
    refine ax_if_ne B 94 d_ValueReader_readString_48 (by decide) ?_ ?_
    · refine ax_aload_n B 0 d_ValueReader_readString_94 rfl rfl ?_
      refine ax_getfr B cl_ValueReader (by decide) fk_ValueReader_19 d_ValueReader_readString_95 (fun v19 => ?_)
      refine ax_iload_n B 1 d_ValueReader_readString_98 rfl rfl ?_
      refine ax_iconst (v := 2) B d_ValueReader_readString_99 (by decide) ?_
      refine ax_iload_n B 2 d_ValueReader_readString_100 rfl rfl ?_
      refine ax_imul B d_ValueReader_readString_101 ?_
      refine ax_callVv (av := [ax_I x1, ax_I (2 * x2)]) (rest := []) B E hm_Row_set cl_Row rfl wd_409 wd_410 lk_ValueReader_100 d_ValueReader_readString_102 rfl (Nat.le_of_ble_eq_true rfl) (fun _ _ hh => hcall 53 _ _ _ _ hh) (fun h20 => ?_)
      refine ax_aload_n B 0 d_ValueReader_readString_105 rfl rfl ?_
      refine ax_getfr B cl_ValueReader (by decide) fk_ValueReader_9 d_ValueReader_readString_106 (fun v22 => ?_)
      refine ax_bipush (v := 34) B d_ValueReader_readString_109 (by decide) ?_
      refine ax_callVi (av := [ax_I 34]) (rest := []) B E hm_Cursor_take cl_Cursor rfl wd_314 wd_315 lk_ValueReader_43 d_ValueReader_readString_111 rfl (Nat.le_of_ble_eq_true rfl) (fun _ _ hh => hcall 30 _ _ _ _ hh) (fun v24 h23 => ?_)
      exact ax_zreturn B d_ValueReader_readString_114
    · refine ax_aload_n B 0 d_ValueReader_readString_51 rfl rfl ?_
      refine ax_getfr B cl_ValueReader (by decide) fk_ValueReader_9 d_ValueReader_readString_52 (fun v25 => ?_)
      refine ax_callVi (av := []) (rest := []) B E hm_Cursor_peek cl_Cursor rfl wd_310 wd_311 lk_ValueReader_85 d_ValueReader_readString_55 rfl (Nat.le_of_ble_eq_true rfl) (fun _ _ hh => hcall 29 _ _ _ _ hh) (fun v27 h26 => ?_)
      refine ax_bipush (v := 34) B d_ValueReader_readString_58 (by decide) ?_
      refine ax_icmp_eq B 94 d_ValueReader_readString_60 (by decide) ?_ ?_
      · refine ax_aload_n B 0 d_ValueReader_readString_94 rfl rfl ?_
        refine ax_getfr B cl_ValueReader (by decide) fk_ValueReader_19 d_ValueReader_readString_95 (fun v28 => ?_)
        refine ax_iload_n B 1 d_ValueReader_readString_98 rfl rfl ?_
        refine ax_iconst (v := 2) B d_ValueReader_readString_99 (by decide) ?_
        refine ax_iload_n B 2 d_ValueReader_readString_100 rfl rfl ?_
        refine ax_imul B d_ValueReader_readString_101 ?_
        refine ax_callVv (av := [ax_I x1, ax_I (2 * x2)]) (rest := []) B E hm_Row_set cl_Row rfl wd_409 wd_410 lk_ValueReader_100 d_ValueReader_readString_102 rfl (Nat.le_of_ble_eq_true rfl) (fun _ _ hh => hcall 53 _ _ _ _ hh) (fun h29 => ?_)
        refine ax_aload_n B 0 d_ValueReader_readString_105 rfl rfl ?_
        refine ax_getfr B cl_ValueReader (by decide) fk_ValueReader_9 d_ValueReader_readString_106 (fun v31 => ?_)
        refine ax_bipush (v := 34) B d_ValueReader_readString_109 (by decide) ?_
        refine ax_callVi (av := [ax_I 34]) (rest := []) B E hm_Cursor_take cl_Cursor rfl wd_314 wd_315 lk_ValueReader_43 d_ValueReader_readString_111 rfl (Nat.le_of_ble_eq_true rfl) (fun _ _ hh => hcall 30 _ _ _ _ hh) (fun v33 h32 => ?_)
        exact ax_zreturn B d_ValueReader_readString_114
      · refine ax_aload_n B 0 d_ValueReader_readString_63 rfl rfl ?_
        refine ax_getfr B cl_ValueReader (by decide) fk_ValueReader_19 d_ValueReader_readString_64 (fun v34 => ?_)
        refine ax_aload_n B 0 d_ValueReader_readString_67 rfl rfl ?_
        refine ax_getfr B cl_ValueReader (by decide) fk_ValueReader_9 d_ValueReader_readString_68 (fun v35 => ?_)
        refine ax_callVi (av := []) (rest := [ax_A v34]) B E hm_Cursor_peek cl_Cursor rfl wd_310 wd_311 lk_ValueReader_85 d_ValueReader_readString_71 rfl (Nat.le_of_ble_eq_true rfl) (fun _ _ hh => hcall 29 _ _ _ _ hh) (fun v37 h36 => ?_)
        refine ax_callVi (av := [ax_I v37]) (rest := []) B E hm_Row_add cl_Row rfl wd_123 wd_124 lk_ValueReader_76 d_ValueReader_readString_74 rfl (Nat.le_of_ble_eq_true rfl) (fun _ _ hh => hcall 8 _ _ _ _ hh) (fun v39 h38 => ?_)
        refine ax_pop B d_ValueReader_readString_77 rfl ?_
        refine ax_aload_n B 0 d_ValueReader_readString_78 rfl rfl ?_
        refine ax_getfr B cl_ValueReader (by decide) fk_ValueReader_9 d_ValueReader_readString_79 (fun v40 => ?_)
        refine ax_callVv (av := []) (rest := []) B E hm_Cursor_step cl_Cursor rfl wd_328 wd_329 lk_ValueReader_94 d_ValueReader_readString_82 rfl (Nat.le_of_ble_eq_true rfl) (fun _ _ hh => hcall 34 _ _ _ _ hh) (fun h41 => ?_)
        refine ax_iinc (v := x2 + 1) (tv2 := [(2, ax_I (x2 + 1)), (0, ax_A x0), (1, ax_I x1), (3, ax_I x3)]) B 2 d_ValueReader_readString_85 rfl (congrArg (_ + ·) (by decide)) (by decide) rfl ?_
        refine ax_iinc (v := x3 + 1) (tv2 := [(3, ax_I (x3 + 1)), (2, ax_I (x2 + 1)), (0, ax_A x0), (1, ax_I x1)]) B 3 d_ValueReader_readString_88 rfl (congrArg (_ + ·) (by decide)) (by decide) rfl ?_
        refine ax_goto B 35 d_ValueReader_readString_91 (by decide) ?_
        refine ax_sub (tv2 := [(0, ax_A x0), (1, ax_I x1), (2, ax_I (x2 + 1)), (3, ax_I (x3 + 1))]) [2, 3, 1, 0] rfl ?_
        exact hk35 x0 x1 (x2 + 1) (x3 + 1) h41
theorem ValueReader_readString_lq35 {l : Launch} {G : ax_G} {d : Nat} {call : ax_Cf} (hcall : ax_Hc l G d call) {p : Program} {e : Env} {s : State} {mi : MethodId} {args : Array Value} {below : List Frame} {meth : Method} {c : Code} {h0 : ax_Hp} (B : ax_B G p s mi meth c "SchemaDesk$ValueReader" prog_10_method_8_code 4 (some (.boolean))) (E : c.exceptionTable.isEmpty = true) (Nm : meth.name = y_ValueReader_readString.name)   : ∀ (n : Nat) (x0 : Option Nat) (x1 : Int32) (x2 : Int32) (x3 : Int32) (h : ax_Hp), ax_W G p l e s mi args below meth c 4 (d + 1) h0 35 [(0, ax_A x0), (1, ax_I x1), (2, ax_I x2), (3, ax_I x3)] [] h (ValueReader_readString_lp35 call  n x0 x1 x2 x3 h)
  | 0, _, _, _, _, _ => ax_none
  | n + 1, x0, x1, x2, x3, h => ValueReader_readString_lb35 hcall B E Nm   (ValueReader_readString_lq35 hcall B E Nm   n) x0 x1 x2 x3 h
def ValueReader_readString_b (call : ax_Cf) (x0 : Option Nat) (h : ax_Hp) : ax_O :=
  (ax_gr h x0 7 0).bind fun v1 =>
  ax_on h v1 0 <| ax_ci (call 30 [ax_A v1, ax_I 34] h) fun v3 h2 =>
  if v3 = 0 then
    ax_rz 0 h2
  else
    (ax_gr h2 x0 7 2).bind fun v4 =>
    ax_on h2 v4 2 <| ax_ci (call 51 [ax_A v4] h2) fun v6 h5 =>
    (ax_gr h5 x0 7 2).bind fun v7 =>
    ax_on h5 v7 2 <| ax_ci (call 8 [ax_A v7, ax_I 0] h5) fun v9 h8 =>
    ValueReader_readString_lp35 call ax_fuel x0 v6 0 0 h8
set_option maxHeartbeats 4000000 in
set_option maxRecDepth 20000 in
theorem ValueReader_readString_t {l : Launch} {G : ax_G} {d : Nat} {call : ax_Cf} (hcall : ax_Hc l G d call) (x0 : Option Nat) (h : ax_Hp) {r : ax_Rs} {h' : ax_Hp} (ho : ValueReader_readString_b call x0 h = some (r, h')) : ax_C l G (d + 1) y_ValueReader_readString (.code y_ValueReader_readString prog_10_method_8_code 4 (some (.boolean))) [ax_A x0] h r h' := by
  refine ax_enter (by decide) (Nat.le_of_ble_eq_true rfl) ho (fun p e s mi args below meth c B E Nm => ?_)
  have B : ax_B G p s mi meth c "SchemaDesk$ValueReader" prog_10_method_8_code 4 (some (.boolean)) := B
  show ax_W G p l e s mi args below meth c 4 (d + 1) h 0 [(0, ax_A x0)] [] h (ValueReader_readString_b call x0 h)
  unfold ValueReader_readString_b
  refine ax_aload_n B 0 d_ValueReader_readString_0 rfl rfl ?_
  refine ax_getfr B cl_ValueReader (by decide) fk_ValueReader_9 d_ValueReader_readString_1 (fun v1 => ?_)
  refine ax_bipush (v := 34) B d_ValueReader_readString_4 (by decide) ?_
  refine ax_callVi (av := [ax_I 34]) (rest := []) B E hm_Cursor_take cl_Cursor rfl wd_314 wd_315 lk_ValueReader_43 d_ValueReader_readString_6 rfl (Nat.le_of_ble_eq_true rfl) (fun _ _ hh => hcall 30 _ _ _ _ hh) (fun v3 h2 => ?_)
  refine ax_if_ne B 14 d_ValueReader_readString_9 (by decide) ?_ ?_
  · refine ax_aload_n B 0 d_ValueReader_readString_14 rfl rfl ?_
    refine ax_getfr B cl_ValueReader (by decide) fk_ValueReader_19 d_ValueReader_readString_15 (fun v4 => ?_)
    refine ax_callVi (av := []) (rest := []) B E hm_Row_size cl_Row rfl wd_401 wd_402 lk_ValueReader_97 d_ValueReader_readString_18 rfl (Nat.le_of_ble_eq_true rfl) (fun _ _ hh => hcall 51 _ _ _ _ hh) (fun v6 h5 => ?_)
    refine ax_istore_n (tv2 := [(1, ax_I v6), (0, ax_A x0)]) B d_ValueReader_readString_21 rfl (by decide) rfl ?_
    refine ax_aload_n B 1 d_ValueReader_readString_22 rfl rfl ?_
    refine ax_getfr B cl_ValueReader (by decide) fk_ValueReader_19 d_ValueReader_readString_23 (fun v7 => ?_)
    refine ax_iconst (v := 0) B d_ValueReader_readString_26 (by decide) ?_
    refine ax_callVi (av := [ax_I 0]) (rest := []) B E hm_Row_add cl_Row rfl wd_123 wd_124 lk_ValueReader_76 d_ValueReader_readString_27 rfl (Nat.le_of_ble_eq_true rfl) (fun _ _ hh => hcall 8 _ _ _ _ hh) (fun v9 h8 => ?_)
    refine ax_pop B d_ValueReader_readString_30 rfl ?_
    refine ax_iconst (v := 0) B d_ValueReader_readString_31 (by decide) ?_
    refine ax_istore_n (tv2 := [(2, ax_I 0), (1, ax_I v6), (0, ax_A x0)]) B d_ValueReader_readString_32 rfl (by decide) rfl ?_
    refine ax_iconst (v := 0) B d_ValueReader_readString_33 (by decide) ?_
    refine ax_istore_n (tv2 := [(3, ax_I 0), (2, ax_I 0), (1, ax_I v6), (0, ax_A x0)]) B d_ValueReader_readString_34 rfl (by decide) rfl ?_
    refine ax_sub (tv2 := [(0, ax_A x0), (1, ax_I v6), (2, ax_I 0), (3, ax_I 0)]) [3, 2, 1, 0] rfl ?_
    exact ValueReader_readString_lq35 hcall B E Nm ax_fuel x0 v6 0 0 h8
  · refine ax_iconst (v := 0) B d_ValueReader_readString_12 (by decide) ?_
    exact ax_zreturn B d_ValueReader_readString_13

theorem d_ValueReader_readSymbol_0 : decode prog_10_method_9_code 0 = .ok (.aload_n 0, 1) := by decide +kernel
theorem d_ValueReader_readSymbol_1 : decode prog_10_method_9_code 1 = .ok (.getfield 15, 3) := by decide +kernel
theorem d_ValueReader_readSymbol_4 : decode prog_10_method_9_code 4 = .ok (.iload_n 1, 1) := by decide +kernel
theorem d_ValueReader_readSymbol_5 : decode prog_10_method_9_code 5 = .ok (.aload_n 0, 1) := by decide +kernel
theorem d_ValueReader_readSymbol_6 : decode prog_10_method_9_code 6 = .ok (.getfield 9, 3) := by decide +kernel
theorem d_ValueReader_readSymbol_9 : decode prog_10_method_9_code 9 = .ok (.invokevirtual 85, 3) := by decide +kernel
theorem d_ValueReader_readSymbol_12 : decode prog_10_method_9_code 12 = .ok (.invokevirtual 104, 3) := by decide +kernel
theorem d_ValueReader_readSymbol_15 : decode prog_10_method_9_code 15 = .ok (.istore_n 2, 1) := by decide +kernel
theorem d_ValueReader_readSymbol_16 : decode prog_10_method_9_code 16 = .ok (.iload_n 2, 1) := by decide +kernel
theorem d_ValueReader_readSymbol_17 : decode prog_10_method_9_code 17 = .ok (.iconst (-1), 1) := by decide +kernel
theorem d_ValueReader_readSymbol_18 : decode prog_10_method_9_code 18 = .ok (.if_icmp .ne 5, 3) := by decide +kernel
theorem d_ValueReader_readSymbol_21 : decode prog_10_method_9_code 21 = .ok (.iconst 0, 1) := by decide +kernel
theorem d_ValueReader_readSymbol_22 : decode prog_10_method_9_code 22 = .ok (.ireturn, 1) := by decide +kernel
theorem d_ValueReader_readSymbol_23 : decode prog_10_method_9_code 23 = .ok (.aload_n 0, 1) := by decide +kernel
theorem d_ValueReader_readSymbol_24 : decode prog_10_method_9_code 24 = .ok (.getfield 9, 3) := by decide +kernel
theorem d_ValueReader_readSymbol_27 : decode prog_10_method_9_code 27 = .ok (.invokevirtual 94, 3) := by decide +kernel
theorem d_ValueReader_readSymbol_30 : decode prog_10_method_9_code 30 = .ok (.aload_n 0, 1) := by decide +kernel
theorem d_ValueReader_readSymbol_31 : decode prog_10_method_9_code 31 = .ok (.getfield 19, 3) := by decide +kernel
theorem d_ValueReader_readSymbol_34 : decode prog_10_method_9_code 34 = .ok (.iconst 2, 1) := by decide +kernel
theorem d_ValueReader_readSymbol_35 : decode prog_10_method_9_code 35 = .ok (.iload_n 2, 1) := by decide +kernel
theorem d_ValueReader_readSymbol_36 : decode prog_10_method_9_code 36 = .ok (.imul, 1) := by decide +kernel
theorem d_ValueReader_readSymbol_37 : decode prog_10_method_9_code 37 = .ok (.invokevirtual 76, 3) := by decide +kernel
theorem d_ValueReader_readSymbol_40 : decode prog_10_method_9_code 40 = .ok (.pop, 1) := by decide +kernel
theorem d_ValueReader_readSymbol_41 : decode prog_10_method_9_code 41 = .ok (.iconst 1, 1) := by decide +kernel
theorem d_ValueReader_readSymbol_42 : decode prog_10_method_9_code 42 = .ok (.ireturn, 1) := by decide +kernel
def ValueReader_readSymbol_b (call : ax_Cf) (x0 : Option Nat) (x1 : Int32) (h : ax_Hp) : ax_O :=
  (ax_gr h x0 7 1).bind fun v1 =>
  (ax_gr h x0 7 0).bind fun v2 =>
  ax_on h v2 0 <| ax_ci (call 29 [ax_A v2] h) fun v4 h3 =>
  ax_on h3 v1 3 <| ax_ci (call 55 [ax_A v1, ax_I x1, ax_I v4] h3) fun v6 h5 =>
  if v6 = (-1) then
    ax_rz 0 h5
  else
    (ax_gr h5 x0 7 0).bind fun v7 =>
    ax_on h5 v7 0 <| ax_cv (call 34 [ax_A v7] h5) fun h8 =>
    (ax_gr h8 x0 7 2).bind fun v10 =>
    ax_on h8 v10 2 <| ax_ci (call 8 [ax_A v10, ax_I (2 * v6)] h8) fun v12 h11 =>
    ax_rz 1 h11
set_option maxHeartbeats 4000000 in
set_option maxRecDepth 20000 in
theorem ValueReader_readSymbol_t {l : Launch} {G : ax_G} {d : Nat} {call : ax_Cf} (hcall : ax_Hc l G d call) (x0 : Option Nat) (x1 : Int32) (h : ax_Hp) {r : ax_Rs} {h' : ax_Hp} (ho : ValueReader_readSymbol_b call x0 x1 h = some (r, h')) : ax_C l G (d + 1) y_ValueReader_readSymbol (.code y_ValueReader_readSymbol prog_10_method_9_code 3 (some (.boolean))) [ax_A x0, ax_I x1] h r h' := by
  refine ax_enter (by decide) (Nat.le_of_ble_eq_true rfl) ho (fun p e s mi args below meth c B E Nm => ?_)
  have B : ax_B G p s mi meth c "SchemaDesk$ValueReader" prog_10_method_9_code 3 (some (.boolean)) := B
  show ax_W G p l e s mi args below meth c 3 (d + 1) h 0 [(0, ax_A x0), (1, ax_I x1)] [] h (ValueReader_readSymbol_b call x0 x1 h)
  unfold ValueReader_readSymbol_b
  refine ax_aload_n B 0 d_ValueReader_readSymbol_0 rfl rfl ?_
  refine ax_getfr B cl_ValueReader (by decide) fk_ValueReader_15 d_ValueReader_readSymbol_1 (fun v1 => ?_)
  refine ax_iload_n B 1 d_ValueReader_readSymbol_4 rfl rfl ?_
  refine ax_aload_n B 0 d_ValueReader_readSymbol_5 rfl rfl ?_
  refine ax_getfr B cl_ValueReader (by decide) fk_ValueReader_9 d_ValueReader_readSymbol_6 (fun v2 => ?_)
  refine ax_callVi (av := []) (rest := [ax_I x1, ax_A v1]) B E hm_Cursor_peek cl_Cursor rfl wd_310 wd_311 lk_ValueReader_85 d_ValueReader_readSymbol_9 rfl (Nat.le_of_ble_eq_true rfl) (fun _ _ hh => hcall 29 _ _ _ _ hh) (fun v4 h3 => ?_)
  refine ax_callVi (av := [ax_I x1, ax_I v4]) (rest := []) B E hm_Schema_symbolNumber cl_Schema rfl wd_417 wd_418 lk_ValueReader_104 d_ValueReader_readSymbol_12 rfl (Nat.le_of_ble_eq_true rfl) (fun _ _ hh => hcall 55 _ _ _ _ hh) (fun v6 h5 => ?_)
  refine ax_istore_n (tv2 := [(2, ax_I v6), (0, ax_A x0), (1, ax_I x1)]) B d_ValueReader_readSymbol_15 rfl (by decide) rfl ?_
  refine ax_iload_n B 0 d_ValueReader_readSymbol_16 rfl rfl ?_
  refine ax_iconst (v := (-1)) B d_ValueReader_readSymbol_17 (by decide) ?_
  refine ax_icmp_ne B 23 d_ValueReader_readSymbol_18 (by decide) ?_ ?_
  · refine ax_aload_n B 1 d_ValueReader_readSymbol_23 rfl rfl ?_
    refine ax_getfr B cl_ValueReader (by decide) fk_ValueReader_9 d_ValueReader_readSymbol_24 (fun v7 => ?_)
    refine ax_callVv (av := []) (rest := []) B E hm_Cursor_step cl_Cursor rfl wd_328 wd_329 lk_ValueReader_94 d_ValueReader_readSymbol_27 rfl (Nat.le_of_ble_eq_true rfl) (fun _ _ hh => hcall 34 _ _ _ _ hh) (fun h8 => ?_)
    refine ax_aload_n B 1 d_ValueReader_readSymbol_30 rfl rfl ?_
    refine ax_getfr B cl_ValueReader (by decide) fk_ValueReader_19 d_ValueReader_readSymbol_31 (fun v10 => ?_)
    refine ax_iconst (v := 2) B d_ValueReader_readSymbol_34 (by decide) ?_
    refine ax_iload_n B 0 d_ValueReader_readSymbol_35 rfl rfl ?_
    refine ax_imul B d_ValueReader_readSymbol_36 ?_
    refine ax_callVi (av := [ax_I (2 * v6)]) (rest := []) B E hm_Row_add cl_Row rfl wd_123 wd_124 lk_ValueReader_76 d_ValueReader_readSymbol_37 rfl (Nat.le_of_ble_eq_true rfl) (fun _ _ hh => hcall 8 _ _ _ _ hh) (fun v12 h11 => ?_)
    refine ax_pop B d_ValueReader_readSymbol_40 rfl ?_
    refine ax_iconst (v := 1) B d_ValueReader_readSymbol_41 (by decide) ?_
    exact ax_zreturn B d_ValueReader_readSymbol_42
  · refine ax_iconst (v := 0) B d_ValueReader_readSymbol_21 (by decide) ?_
    exact ax_zreturn B d_ValueReader_readSymbol_22

theorem d_ValueReader_readElements_0 : decode prog_10_method_10_code 0 = .ok (.aload_n 0, 1) := by decide +kernel
theorem d_ValueReader_readElements_1 : decode prog_10_method_10_code 1 = .ok (.getfield 9, 3) := by decide +kernel
theorem d_ValueReader_readElements_4 : decode prog_10_method_10_code 4 = .ok (.bipush 91, 2) := by decide +kernel
theorem d_ValueReader_readElements_6 : decode prog_10_method_10_code 6 = .ok (.invokevirtual 43, 3) := by decide +kernel
theorem d_ValueReader_readElements_9 : decode prog_10_method_10_code 9 = .ok (.ifCond .ne 5, 3) := by decide +kernel
theorem d_ValueReader_readElements_12 : decode prog_10_method_10_code 12 = .ok (.iconst 0, 1) := by decide +kernel
theorem d_ValueReader_readElements_13 : decode prog_10_method_10_code 13 = .ok (.ireturn, 1) := by decide +kernel
theorem d_ValueReader_readElements_14 : decode prog_10_method_10_code 14 = .ok (.aload_n 0, 1) := by decide +kernel
theorem d_ValueReader_readElements_15 : decode prog_10_method_10_code 15 = .ok (.getfield 19, 3) := by decide +kernel
theorem d_ValueReader_readElements_18 : decode prog_10_method_10_code 18 = .ok (.invokevirtual 97, 3) := by decide +kernel
theorem d_ValueReader_readElements_21 : decode prog_10_method_10_code 21 = .ok (.istore_n 3, 1) := by decide +kernel
theorem d_ValueReader_readElements_22 : decode prog_10_method_10_code 22 = .ok (.aload_n 0, 1) := by decide +kernel
theorem d_ValueReader_readElements_23 : decode prog_10_method_10_code 23 = .ok (.getfield 19, 3) := by decide +kernel
theorem d_ValueReader_readElements_26 : decode prog_10_method_10_code 26 = .ok (.iconst 0, 1) := by decide +kernel
theorem d_ValueReader_readElements_27 : decode prog_10_method_10_code 27 = .ok (.invokevirtual 76, 3) := by decide +kernel
theorem d_ValueReader_readElements_30 : decode prog_10_method_10_code 30 = .ok (.pop, 1) := by decide +kernel
theorem d_ValueReader_readElements_31 : decode prog_10_method_10_code 31 = .ok (.aload_n 0, 1) := by decide +kernel
theorem d_ValueReader_readElements_32 : decode prog_10_method_10_code 32 = .ok (.getfield 9, 3) := by decide +kernel
theorem d_ValueReader_readElements_35 : decode prog_10_method_10_code 35 = .ok (.bipush 93, 2) := by decide +kernel
theorem d_ValueReader_readElements_37 : decode prog_10_method_10_code 37 = .ok (.invokevirtual 43, 3) := by decide +kernel
theorem d_ValueReader_readElements_40 : decode prog_10_method_10_code 40 = .ok (.ifCond .eq 5, 3) := by decide +kernel
theorem d_ValueReader_readElements_43 : decode prog_10_method_10_code 43 = .ok (.iconst 1, 1) := by decide +kernel
theorem d_ValueReader_readElements_44 : decode prog_10_method_10_code 44 = .ok (.ireturn, 1) := by decide +kernel
theorem d_ValueReader_readElements_45 : decode prog_10_method_10_code 45 = .ok (.aload_n 0, 1) := by decide +kernel
theorem d_ValueReader_readElements_46 : decode prog_10_method_10_code 46 = .ok (.getfield 23, 3) := by decide +kernel
theorem d_ValueReader_readElements_49 : decode prog_10_method_10_code 49 = .ok (.ifCond .eq 7, 3) := by decide +kernel
theorem d_ValueReader_readElements_52 : decode prog_10_method_10_code 52 = .ok (.iconst 3, 1) := by decide +kernel
theorem d_ValueReader_readElements_53 : decode prog_10_method_10_code 53 = .ok (.goto 5, 3) := by decide +kernel
theorem d_ValueReader_readElements_56 : decode prog_10_method_10_code 56 = .ok (.bipush 20, 2) := by decide +kernel
theorem d_ValueReader_readElements_58 : decode prog_10_method_10_code 58 = .ok (.istore 4, 2) := by decide +kernel
theorem d_ValueReader_readElements_60 : decode prog_10_method_10_code 60 = .ok (.iconst 1, 1) := by decide +kernel
theorem d_ValueReader_readElements_61 : decode prog_10_method_10_code 61 = .ok (.istore 5, 2) := by decide +kernel
theorem d_ValueReader_readElements_63 : decode prog_10_method_10_code 63 = .ok (.iload 5, 2) := by decide +kernel
theorem d_ValueReader_readElements_65 : decode prog_10_method_10_code 65 = .ok (.iload 4, 2) := by decide +kernel
theorem d_ValueReader_readElements_67 : decode prog_10_method_10_code 67 = .ok (.if_icmp .gt 85, 3) := by decide +kernel
theorem d_ValueReader_readElements_70 : decode prog_10_method_10_code 70 = .ok (.aload_n 0, 1) := by decide +kernel
theorem d_ValueReader_readElements_71 : decode prog_10_method_10_code 71 = .ok (.aload_n 0, 1) := by decide +kernel
theorem d_ValueReader_readElements_72 : decode prog_10_method_10_code 72 = .ok (.getfield 15, 3) := by decide +kernel
theorem d_ValueReader_readElements_75 : decode prog_10_method_10_code 75 = .ok (.iload_n 1, 1) := by decide +kernel
theorem d_ValueReader_readElements_76 : decode prog_10_method_10_code 76 = .ok (.invokevirtual 108, 3) := by decide +kernel
theorem d_ValueReader_readElements_79 : decode prog_10_method_10_code 79 = .ok (.iload_n 2, 1) := by decide +kernel
theorem d_ValueReader_readElements_80 : decode prog_10_method_10_code 80 = .ok (.iconst 1, 1) := by decide +kernel
theorem d_ValueReader_readElements_81 : decode prog_10_method_10_code 81 = .ok (.iadd, 1) := by decide +kernel
theorem d_ValueReader_readElements_82 : decode prog_10_method_10_code 82 = .ok (.invokevirtual 27, 3) := by decide +kernel
theorem d_ValueReader_readElements_85 : decode prog_10_method_10_code 85 = .ok (.ifCond .ne 5, 3) := by decide +kernel
theorem d_ValueReader_readElements_88 : decode prog_10_method_10_code 88 = .ok (.iconst 0, 1) := by decide +kernel
theorem d_ValueReader_readElements_89 : decode prog_10_method_10_code 89 = .ok (.ireturn, 1) := by decide +kernel
theorem d_ValueReader_readElements_90 : decode prog_10_method_10_code 90 = .ok (.aload_n 0, 1) := by decide +kernel
theorem d_ValueReader_readElements_91 : decode prog_10_method_10_code 91 = .ok (.getfield 9, 3) := by decide +kernel
theorem d_ValueReader_readElements_94 : decode prog_10_method_10_code 94 = .ok (.bipush 93, 2) := by decide +kernel
theorem d_ValueReader_readElements_96 : decode prog_10_method_10_code 96 = .ok (.invokevirtual 43, 3) := by decide +kernel
theorem d_ValueReader_readElements_99 : decode prog_10_method_10_code 99 = .ok (.ifCond .eq 26, 3) := by decide +kernel
theorem d_ValueReader_readElements_102 : decode prog_10_method_10_code 102 = .ok (.aload_n 0, 1) := by decide +kernel
theorem d_ValueReader_readElements_103 : decode prog_10_method_10_code 103 = .ok (.getfield 19, 3) := by decide +kernel
theorem d_ValueReader_readElements_106 : decode prog_10_method_10_code 106 = .ok (.iload_n 3, 1) := by decide +kernel
theorem d_ValueReader_readElements_107 : decode prog_10_method_10_code 107 = .ok (.iconst 2, 1) := by decide +kernel
theorem d_ValueReader_readElements_108 : decode prog_10_method_10_code 108 = .ok (.iload 5, 2) := by decide +kernel
theorem d_ValueReader_readElements_110 : decode prog_10_method_10_code 110 = .ok (.imul, 1) := by decide +kernel
theorem d_ValueReader_readElements_111 : decode prog_10_method_10_code 111 = .ok (.invokevirtual 100, 3) := by decide +kernel
theorem d_ValueReader_readElements_114 : decode prog_10_method_10_code 114 = .ok (.aload_n 0, 1) := by decide +kernel
theorem d_ValueReader_readElements_115 : decode prog_10_method_10_code 115 = .ok (.getfield 19, 3) := by decide +kernel
theorem d_ValueReader_readElements_118 : decode prog_10_method_10_code 118 = .ok (.iconst 0, 1) := by decide +kernel
theorem d_ValueReader_readElements_119 : decode prog_10_method_10_code 119 = .ok (.invokevirtual 76, 3) := by decide +kernel
theorem d_ValueReader_readElements_122 : decode prog_10_method_10_code 122 = .ok (.pop, 1) := by decide +kernel
theorem d_ValueReader_readElements_123 : decode prog_10_method_10_code 123 = .ok (.iconst 1, 1) := by decide +kernel
theorem d_ValueReader_readElements_124 : decode prog_10_method_10_code 124 = .ok (.ireturn, 1) := by decide +kernel
theorem d_ValueReader_readElements_125 : decode prog_10_method_10_code 125 = .ok (.iload 5, 2) := by decide +kernel
theorem d_ValueReader_readElements_127 : decode prog_10_method_10_code 127 = .ok (.iload 4, 2) := by decide +kernel
theorem d_ValueReader_readElements_129 : decode prog_10_method_10_code 129 = .ok (.if_icmp .eq 15, 3) := by decide +kernel
theorem d_ValueReader_readElements_132 : decode prog_10_method_10_code 132 = .ok (.aload_n 0, 1) := by decide +kernel
theorem d_ValueReader_readElements_133 : decode prog_10_method_10_code 133 = .ok (.getfield 9, 3) := by decide +kernel
theorem d_ValueReader_readElements_136 : decode prog_10_method_10_code 136 = .ok (.bipush 44, 2) := by decide +kernel
theorem d_ValueReader_readElements_138 : decode prog_10_method_10_code 138 = .ok (.invokevirtual 43, 3) := by decide +kernel
theorem d_ValueReader_readElements_141 : decode prog_10_method_10_code 141 = .ok (.ifCond .ne 5, 3) := by decide +kernel
theorem d_ValueReader_readElements_144 : decode prog_10_method_10_code 144 = .ok (.iconst 0, 1) := by decide +kernel
theorem d_ValueReader_readElements_145 : decode prog_10_method_10_code 145 = .ok (.ireturn, 1) := by decide +kernel
theorem d_ValueReader_readElements_146 : decode prog_10_method_10_code 146 = .ok (.iinc 5 1, 3) := by decide +kernel
theorem d_ValueReader_readElements_149 : decode prog_10_method_10_code 149 = .ok (.goto (-86), 3) := by decide +kernel
theorem d_ValueReader_readElements_152 : decode prog_10_method_10_code 152 = .ok (.iconst 0, 1) := by decide +kernel
theorem d_ValueReader_readElements_153 : decode prog_10_method_10_code 153 = .ok (.ireturn, 1) := by decide +kernel
def ValueReader_readElements_bd63 (call : ax_Cf)  (k63 : Option Nat → Int32 → Int32 → Int32 → Int32 → Int32 → ax_Hp → ax_O) (x0 : Option Nat) (x1 : Int32) (x2 : Int32) (x3 : Int32) (x4 : Int32) (x5 : Int32) (h : ax_Hp) : ax_O :=
  if x4 < x5 then
    ax_rz 0 h
  else
    (ax_gr h x0 7 1).bind fun v14 =>
    ax_on h v14 3 <| ax_ci (call 57 [ax_A v14, ax_I x1] h) fun v16 h15 =>
    ax_on h15 x0 7 <| ax_ci (call 43 [ax_A x0, ax_I v16, ax_I (x2 + 1)] h15) fun v18 h17 =>
    if v18 = 0 then
      ax_rz 0 h17
    else
      (ax_gr h17 x0 7 0).bind fun v19 =>
      ax_on h17 v19 0 <| ax_ci (call 30 [ax_A v19, ax_I 93] h17) fun v21 h20 =>
      if v21 = 0 then
        if x5 = x4 then
          ax_rz 0 h20
        else
          (ax_gr h20 x0 7 0).bind fun v22 =>
          ax_on h20 v22 0 <| ax_ci (call 30 [ax_A v22, ax_I 44] h20) fun v24 h23 =>
          if v24 = 0 then
            ax_rz 0 h23
          else
            k63 x0 x1 x2 x3 x4 (x5 + 1) h23
      else
        (ax_gr h20 x0 7 2).bind fun v25 =>
        ax_on h20 v25 2 <| ax_cv (call 53 [ax_A v25, ax_I x3, ax_I (2 * x5)] h20) fun h26 =>
        (ax_gr h26 x0 7 2).bind fun v28 =>
        ax_on h26 v28 2 <| ax_ci (call 8 [ax_A v28, ax_I 0] h26) fun v30 h29 =>
        ax_rz 1 h29
def ValueReader_readElements_lp63 (call : ax_Cf)  : Nat → Option Nat → Int32 → Int32 → Int32 → Int32 → Int32 → ax_Hp → ax_O
  | 0 => fun _ _ _ _ _ _ _ => none
  | n + 1 => ValueReader_readElements_bd63 call  (ValueReader_readElements_lp63 call  n)
set_option maxHeartbeats 4000000 in
set_option maxRecDepth 20000 in
theorem ValueReader_readElements_lb63 {l : Launch} {G : ax_G} {d : Nat} {call : ax_Cf} (hcall : ax_Hc l G d call) {p : Program} {e : Env} {s : State} {mi : MethodId} {args : Array Value} {below : List Frame} {meth : Method} {c : Code} {h0 : ax_Hp} (B : ax_B G p s mi meth c "SchemaDesk$ValueReader" prog_10_method_10_code 6 (some (.boolean))) (E : c.exceptionTable.isEmpty = true) (Nm : meth.name = y_ValueReader_readElements.name)   {k63 : Option Nat → Int32 → Int32 → Int32 → Int32 → Int32 → ax_Hp → ax_O} (hk63 : ∀ (x0 : Option Nat) (x1 : Int32) (x2 : Int32) (x3 : Int32) (x4 : Int32) (x5 : Int32) (h : ax_Hp), ax_W G p l e s mi args below meth c 6 (d + 1) h0 63 [(0, ax_A x0), (1, ax_I x1), (2, ax_I x2), (3, ax_I x3), (4, ax_I x4), (5, ax_I x5)] [] h (k63 x0 x1 x2 x3 x4 x5 h)) (x0 : Option Nat) (x1 : Int32) (x2 : Int32) (x3 : Int32) (x4 : Int32) (x5 : Int32) (h : ax_Hp) : ax_W G p l e s mi args below meth c 6 (d + 1) h0 63 [(0, ax_A x0), (1, ax_I x1), (2, ax_I x2), (3, ax_I x3), (4, ax_I x4), (5, ax_I x5)] [] h (ValueReader_readElements_bd63 call  k63 x0 x1 x2 x3 x4 x5 h) := by
  unfold ValueReader_readElements_bd63
  refine ax_iload B 5 d_ValueReader_readElements_63 rfl ?_
  refine ax_iload B 4 d_ValueReader_readElements_65 rfl ?_
  refine ax_icmp_gt B 152 d_ValueReader_readElements_67 (by decide) ?_ ?_
  · refine ax_iconst (v := 0) B d_ValueReader_readElements_152 (by decide) ?_
    exact ax_zreturn B d_ValueReader_readElements_153
  · refine ax_aload_n B 0 d_ValueReader_readElements_70 rfl rfl ?_
    refine ax_aload_n B 0 d_ValueReader_readElements_71 rfl rfl ?_
    refine ax_getfr B cl_ValueReader (by decide) fk_ValueReader_15 d_ValueReader_readElements_72 (fun v14 => ?_)
    refine ax_iload_n B 1 d_ValueReader_readElements_75 rfl rfl ?_
    refine ax_callVi (av := [ax_I x1]) (rest := [ax_A x0]) B E hm_Schema_element cl_Schema rfl wd_426 wd_427 lk_ValueReader_108 d_ValueReader_readElements_76 rfl (Nat.le_of_ble_eq_true rfl) (fun _ _ hh => hcall 57 _ _ _ _ hh) (fun v16 h15 => ?_)
    refine ax_iload_n B 2 d_ValueReader_readElements_79 rfl rfl ?_
    refine ax_iconst (v := 1) B d_ValueReader_readElements_80 (by decide) ?_
    refine ax_iadd B d_ValueReader_readElements_81 ?_
    refine ax_callVi (av := [ax_I v16, ax_I (x2 + 1)]) (rest := []) B E hm_ValueReader_readPart cl_ValueReader rfl wd_364 wp_9 lk_ValueReader_27 d_ValueReader_readElements_82 rfl (Nat.le_of_ble_eq_true rfl) (fun _ _ hh => hcall 43 _ _ _ _ hh) (fun v18 h17 => ?_)
    refine ax_if_ne B 90 d_ValueReader_readElements_85 (by decide) ?_ ?_
    · refine ax_aload_n B 0 d_ValueReader_readElements_90 rfl rfl ?_
      refine ax_getfr B cl_ValueReader (by decide) fk_ValueReader_9 d_ValueReader_readElements_91 (fun v19 => ?_)
      refine ax_bipush (v := 93) B d_ValueReader_readElements_94 (by decide) ?_
      refine ax_callVi (av := [ax_I 93]) (rest := []) B E hm_Cursor_take cl_Cursor rfl wd_314 wd_315 lk_ValueReader_43 d_ValueReader_readElements_96 rfl (Nat.le_of_ble_eq_true rfl) (fun _ _ hh => hcall 30 _ _ _ _ hh) (fun v21 h20 => ?_)
      refine ax_if_eq B 125 d_ValueReader_readElements_99 (by decide) ?_ ?_
      · refine ax_iload B 5 d_ValueReader_readElements_125 rfl ?_
        refine ax_iload B 4 d_ValueReader_readElements_127 rfl ?_
        refine ax_icmp_eq B 144 d_ValueReader_readElements_129 (by decide) ?_ ?_
        · refine ax_iconst (v := 0) B d_ValueReader_readElements_144 (by decide) ?_
          exact ax_zreturn B d_ValueReader_readElements_145
        · refine ax_aload_n B 0 d_ValueReader_readElements_132 rfl rfl ?_
          refine ax_getfr B cl_ValueReader (by decide) fk_ValueReader_9 d_ValueReader_readElements_133 (fun v22 => ?_)
          refine ax_bipush (v := 44) B d_ValueReader_readElements_136 (by decide) ?_
          refine ax_callVi (av := [ax_I 44]) (rest := []) B E hm_Cursor_take cl_Cursor rfl wd_314 wd_315 lk_ValueReader_43 d_ValueReader_readElements_138 rfl (Nat.le_of_ble_eq_true rfl) (fun _ _ hh => hcall 30 _ _ _ _ hh) (fun v24 h23 => ?_)
          refine ax_if_ne B 146 d_ValueReader_readElements_141 (by decide) ?_ ?_
          · refine ax_iinc (v := x5 + 1) (tv2 := [(5, ax_I (x5 + 1)), (0, ax_A x0), (1, ax_I x1), (2, ax_I x2), (3, ax_I x3), (4, ax_I x4)]) B 5 d_ValueReader_readElements_146 rfl (congrArg (_ + ·) (by decide)) (by decide) rfl ?_
            refine ax_goto B 63 d_ValueReader_readElements_149 (by decide) ?_
            refine ax_sub (tv2 := [(0, ax_A x0), (1, ax_I x1), (2, ax_I x2), (3, ax_I x3), (4, ax_I x4), (5, ax_I (x5 + 1))]) [1, 2, 3, 4, 5, 0] rfl ?_
            exact hk63 x0 x1 x2 x3 x4 (x5 + 1) h23
          · refine ax_iconst (v := 0) B d_ValueReader_readElements_144 (by decide) ?_
            exact ax_zreturn B d_ValueReader_readElements_145
      · refine ax_aload_n B 0 d_ValueReader_readElements_102 rfl rfl ?_
        refine ax_getfr B cl_ValueReader (by decide) fk_ValueReader_19 d_ValueReader_readElements_103 (fun v25 => ?_)
        refine ax_iload_n B 3 d_ValueReader_readElements_106 rfl rfl ?_
        refine ax_iconst (v := 2) B d_ValueReader_readElements_107 (by decide) ?_
        refine ax_iload B 5 d_ValueReader_readElements_108 rfl ?_
        refine ax_imul B d_ValueReader_readElements_110 ?_
        refine ax_callVv (av := [ax_I x3, ax_I (2 * x5)]) (rest := []) B E hm_Row_set cl_Row rfl wd_409 wd_410 lk_ValueReader_100 d_ValueReader_readElements_111 rfl (Nat.le_of_ble_eq_true rfl) (fun _ _ hh => hcall 53 _ _ _ _ hh) (fun h26 => ?_)
        refine ax_aload_n B 0 d_ValueReader_readElements_114 rfl rfl ?_
        refine ax_getfr B cl_ValueReader (by decide) fk_ValueReader_19 d_ValueReader_readElements_115 (fun v28 => ?_)
        refine ax_iconst (v := 0) B d_ValueReader_readElements_118 (by decide) ?_
        refine ax_callVi (av := [ax_I 0]) (rest := []) B E hm_Row_add cl_Row rfl wd_123 wd_124 lk_ValueReader_76 d_ValueReader_readElements_119 rfl (Nat.le_of_ble_eq_true rfl) (fun _ _ hh => hcall 8 _ _ _ _ hh) (fun v30 h29 => ?_)
        refine ax_pop B d_ValueReader_readElements_122 rfl ?_
        refine ax_iconst (v := 1) B d_ValueReader_readElements_123 (by decide) ?_
        exact ax_zreturn B d_ValueReader_readElements_124
    · refine ax_iconst (v := 0) B d_ValueReader_readElements_88 (by decide) ?_
      exact ax_zreturn B d_ValueReader_readElements_89
theorem ValueReader_readElements_lq63 {l : Launch} {G : ax_G} {d : Nat} {call : ax_Cf} (hcall : ax_Hc l G d call) {p : Program} {e : Env} {s : State} {mi : MethodId} {args : Array Value} {below : List Frame} {meth : Method} {c : Code} {h0 : ax_Hp} (B : ax_B G p s mi meth c "SchemaDesk$ValueReader" prog_10_method_10_code 6 (some (.boolean))) (E : c.exceptionTable.isEmpty = true) (Nm : meth.name = y_ValueReader_readElements.name)   : ∀ (n : Nat) (x0 : Option Nat) (x1 : Int32) (x2 : Int32) (x3 : Int32) (x4 : Int32) (x5 : Int32) (h : ax_Hp), ax_W G p l e s mi args below meth c 6 (d + 1) h0 63 [(0, ax_A x0), (1, ax_I x1), (2, ax_I x2), (3, ax_I x3), (4, ax_I x4), (5, ax_I x5)] [] h (ValueReader_readElements_lp63 call  n x0 x1 x2 x3 x4 x5 h)
  | 0, _, _, _, _, _, _, _ => ax_none
  | n + 1, x0, x1, x2, x3, x4, x5, h => ValueReader_readElements_lb63 hcall B E Nm   (ValueReader_readElements_lq63 hcall B E Nm   n) x0 x1 x2 x3 x4 x5 h
def ValueReader_readElements_b (call : ax_Cf) (x0 : Option Nat) (x1 : Int32) (x2 : Int32) (h : ax_Hp) : ax_O :=
  (ax_gr h x0 7 0).bind fun v1 =>
  ax_on h v1 0 <| ax_ci (call 30 [ax_A v1, ax_I 91] h) fun v3 h2 =>
  if v3 = 0 then
    ax_rz 0 h2
  else
    (ax_gr h2 x0 7 2).bind fun v4 =>
    ax_on h2 v4 2 <| ax_ci (call 51 [ax_A v4] h2) fun v6 h5 =>
    (ax_gr h5 x0 7 2).bind fun v7 =>
    ax_on h5 v7 2 <| ax_ci (call 8 [ax_A v7, ax_I 0] h5) fun v9 h8 =>
    (ax_gr h8 x0 7 0).bind fun v10 =>
    ax_on h8 v10 0 <| ax_ci (call 30 [ax_A v10, ax_I 93] h8) fun v12 h11 =>
    if v12 = 0 then
      (ax_gi h11 x0 7 3).bind fun v13 =>
      if v13 = 0 then
        ValueReader_readElements_lp63 call ax_fuel x0 x1 x2 v6 20 1 h11
      else
        ValueReader_readElements_lp63 call ax_fuel x0 x1 x2 v6 3 1 h11
    else
      ax_rz 1 h11
set_option maxHeartbeats 4000000 in
set_option maxRecDepth 20000 in
theorem ValueReader_readElements_t {l : Launch} {G : ax_G} {d : Nat} {call : ax_Cf} (hcall : ax_Hc l G d call) (x0 : Option Nat) (x1 : Int32) (x2 : Int32) (h : ax_Hp) {r : ax_Rs} {h' : ax_Hp} (ho : ValueReader_readElements_b call x0 x1 x2 h = some (r, h')) : ax_C l G (d + 1) y_ValueReader_readElements (.code y_ValueReader_readElements prog_10_method_10_code 6 (some (.boolean))) [ax_A x0, ax_I x1, ax_I x2] h r h' := by
  refine ax_enter (by decide) (Nat.le_of_ble_eq_true rfl) ho (fun p e s mi args below meth c B E Nm => ?_)
  have B : ax_B G p s mi meth c "SchemaDesk$ValueReader" prog_10_method_10_code 6 (some (.boolean)) := B
  show ax_W G p l e s mi args below meth c 6 (d + 1) h 0 [(0, ax_A x0), (1, ax_I x1), (2, ax_I x2)] [] h (ValueReader_readElements_b call x0 x1 x2 h)
  unfold ValueReader_readElements_b
  refine ax_aload_n B 0 d_ValueReader_readElements_0 rfl rfl ?_
  refine ax_getfr B cl_ValueReader (by decide) fk_ValueReader_9 d_ValueReader_readElements_1 (fun v1 => ?_)
  refine ax_bipush (v := 91) B d_ValueReader_readElements_4 (by decide) ?_
  refine ax_callVi (av := [ax_I 91]) (rest := []) B E hm_Cursor_take cl_Cursor rfl wd_314 wd_315 lk_ValueReader_43 d_ValueReader_readElements_6 rfl (Nat.le_of_ble_eq_true rfl) (fun _ _ hh => hcall 30 _ _ _ _ hh) (fun v3 h2 => ?_)
  refine ax_if_ne B 14 d_ValueReader_readElements_9 (by decide) ?_ ?_
  · refine ax_aload_n B 0 d_ValueReader_readElements_14 rfl rfl ?_
    refine ax_getfr B cl_ValueReader (by decide) fk_ValueReader_19 d_ValueReader_readElements_15 (fun v4 => ?_)
    refine ax_callVi (av := []) (rest := []) B E hm_Row_size cl_Row rfl wd_401 wd_402 lk_ValueReader_97 d_ValueReader_readElements_18 rfl (Nat.le_of_ble_eq_true rfl) (fun _ _ hh => hcall 51 _ _ _ _ hh) (fun v6 h5 => ?_)
    refine ax_istore_n (tv2 := [(3, ax_I v6), (0, ax_A x0), (1, ax_I x1), (2, ax_I x2)]) B d_ValueReader_readElements_21 rfl (by decide) rfl ?_
    refine ax_aload_n B 1 d_ValueReader_readElements_22 rfl rfl ?_
    refine ax_getfr B cl_ValueReader (by decide) fk_ValueReader_19 d_ValueReader_readElements_23 (fun v7 => ?_)
    refine ax_iconst (v := 0) B d_ValueReader_readElements_26 (by decide) ?_
    refine ax_callVi (av := [ax_I 0]) (rest := []) B E hm_Row_add cl_Row rfl wd_123 wd_124 lk_ValueReader_76 d_ValueReader_readElements_27 rfl (Nat.le_of_ble_eq_true rfl) (fun _ _ hh => hcall 8 _ _ _ _ hh) (fun v9 h8 => ?_)
    refine ax_pop B d_ValueReader_readElements_30 rfl ?_
    refine ax_aload_n B 1 d_ValueReader_readElements_31 rfl rfl ?_
    refine ax_getfr B cl_ValueReader (by decide) fk_ValueReader_9 d_ValueReader_readElements_32 (fun v10 => ?_)
    refine ax_bipush (v := 93) B d_ValueReader_readElements_35 (by decide) ?_
    refine ax_callVi (av := [ax_I 93]) (rest := []) B E hm_Cursor_take cl_Cursor rfl wd_314 wd_315 lk_ValueReader_43 d_ValueReader_readElements_37 rfl (Nat.le_of_ble_eq_true rfl) (fun _ _ hh => hcall 30 _ _ _ _ hh) (fun v12 h11 => ?_)
    refine ax_if_eq B 45 d_ValueReader_readElements_40 (by decide) ?_ ?_
    · refine ax_aload_n B 1 d_ValueReader_readElements_45 rfl rfl ?_
      refine ax_getfi B cl_ValueReader (by decide) fk_ValueReader_23 d_ValueReader_readElements_46 (fun v13 => ?_)
      refine ax_if_eq B 56 d_ValueReader_readElements_49 (by decide) ?_ ?_
      · refine ax_bipush (v := 20) B d_ValueReader_readElements_56 (by decide) ?_
        refine ax_istore (tv2 := [(4, ax_I 20), (3, ax_I v6), (0, ax_A x0), (1, ax_I x1), (2, ax_I x2)]) B d_ValueReader_readElements_58 (by decide) rfl ?_
        refine ax_iconst (v := 1) B d_ValueReader_readElements_60 (by decide) ?_
        refine ax_istore (tv2 := [(5, ax_I 1), (4, ax_I 20), (3, ax_I v6), (0, ax_A x0), (1, ax_I x1), (2, ax_I x2)]) B d_ValueReader_readElements_61 (by decide) rfl ?_
        refine ax_sub (tv2 := [(0, ax_A x0), (1, ax_I x1), (2, ax_I x2), (3, ax_I v6), (4, ax_I 20), (5, ax_I 1)]) [3, 4, 5, 2, 1, 0] rfl ?_
        exact ValueReader_readElements_lq63 hcall B E Nm ax_fuel x0 x1 x2 v6 20 1 h11
      · refine ax_iconst (v := 3) B d_ValueReader_readElements_52 (by decide) ?_
        refine ax_goto B 58 d_ValueReader_readElements_53 (by decide) ?_
        refine ax_istore (tv2 := [(4, ax_I 3), (3, ax_I v6), (0, ax_A x0), (1, ax_I x1), (2, ax_I x2)]) B d_ValueReader_readElements_58 (by decide) rfl ?_
        refine ax_iconst (v := 1) B d_ValueReader_readElements_60 (by decide) ?_
        refine ax_istore (tv2 := [(5, ax_I 1), (4, ax_I 3), (3, ax_I v6), (0, ax_A x0), (1, ax_I x1), (2, ax_I x2)]) B d_ValueReader_readElements_61 (by decide) rfl ?_
        refine ax_sub (tv2 := [(0, ax_A x0), (1, ax_I x1), (2, ax_I x2), (3, ax_I v6), (4, ax_I 3), (5, ax_I 1)]) [3, 4, 5, 2, 1, 0] rfl ?_
        exact ValueReader_readElements_lq63 hcall B E Nm ax_fuel x0 x1 x2 v6 3 1 h11
    · refine ax_iconst (v := 1) B d_ValueReader_readElements_43 (by decide) ?_
      exact ax_zreturn B d_ValueReader_readElements_44
  · refine ax_iconst (v := 0) B d_ValueReader_readElements_12 (by decide) ?_
    exact ax_zreturn B d_ValueReader_readElements_13

theorem d_ValueReader_readFirstBranch_0 : decode prog_10_method_11_code 0 = .ok (.aload_n 0, 1) := by decide +kernel
theorem d_ValueReader_readFirstBranch_1 : decode prog_10_method_11_code 1 = .ok (.getfield 15, 3) := by decide +kernel
theorem d_ValueReader_readFirstBranch_4 : decode prog_10_method_11_code 4 = .ok (.aload_n 0, 1) := by decide +kernel
theorem d_ValueReader_readFirstBranch_5 : decode prog_10_method_11_code 5 = .ok (.getfield 9, 3) := by decide +kernel
theorem d_ValueReader_readFirstBranch_8 : decode prog_10_method_11_code 8 = .ok (.invokevirtual 111, 3) := by decide +kernel
theorem d_ValueReader_readFirstBranch_11 : decode prog_10_method_11_code 11 = .ok (.invokevirtual 114, 3) := by decide +kernel
theorem d_ValueReader_readFirstBranch_14 : decode prog_10_method_11_code 14 = .ok (.aload_n 0, 1) := by decide +kernel
theorem d_ValueReader_readFirstBranch_15 : decode prog_10_method_11_code 15 = .ok (.aload_n 0, 1) := by decide +kernel
theorem d_ValueReader_readFirstBranch_16 : decode prog_10_method_11_code 16 = .ok (.getfield 15, 3) := by decide +kernel
theorem d_ValueReader_readFirstBranch_19 : decode prog_10_method_11_code 19 = .ok (.iload_n 1, 1) := by decide +kernel
theorem d_ValueReader_readFirstBranch_20 : decode prog_10_method_11_code 20 = .ok (.invokevirtual 118, 3) := by decide +kernel
theorem d_ValueReader_readFirstBranch_23 : decode prog_10_method_11_code 23 = .ok (.iload_n 2, 1) := by decide +kernel
theorem d_ValueReader_readFirstBranch_24 : decode prog_10_method_11_code 24 = .ok (.iconst 1, 1) := by decide +kernel
theorem d_ValueReader_readFirstBranch_25 : decode prog_10_method_11_code 25 = .ok (.iadd, 1) := by decide +kernel
theorem d_ValueReader_readFirstBranch_26 : decode prog_10_method_11_code 26 = .ok (.invokevirtual 27, 3) := by decide +kernel
theorem d_ValueReader_readFirstBranch_29 : decode prog_10_method_11_code 29 = .ok (.ireturn, 1) := by decide +kernel
def ValueReader_readFirstBranch_b (call : ax_Cf) (x0 : Option Nat) (x1 : Int32) (x2 : Int32) (h : ax_Hp) : ax_O :=
  (ax_gr h x0 7 1).bind fun v1 =>
  (ax_gr h x0 7 0).bind fun v2 =>
  ax_on h v2 0 <| ax_ci (call 27 [ax_A v2] h) fun v4 h3 =>
  ax_on h3 v1 3 <| ax_cv (call 59 [ax_A v1, ax_I v4] h3) fun h5 =>
  (ax_gr h5 x0 7 1).bind fun v7 =>
  ax_on h5 v7 3 <| ax_ci (call 60 [ax_A v7, ax_I x1] h5) fun v9 h8 =>
  ax_on h8 x0 7 <| ax_ci (call 43 [ax_A x0, ax_I v9, ax_I (x2 + 1)] h8) fun v11 h10 =>
  ax_rz v11 h10
set_option maxHeartbeats 4000000 in
set_option maxRecDepth 20000 in
theorem ValueReader_readFirstBranch_t {l : Launch} {G : ax_G} {d : Nat} {call : ax_Cf} (hcall : ax_Hc l G d call) (x0 : Option Nat) (x1 : Int32) (x2 : Int32) (h : ax_Hp) {r : ax_Rs} {h' : ax_Hp} (ho : ValueReader_readFirstBranch_b call x0 x1 x2 h = some (r, h')) : ax_C l G (d + 1) y_ValueReader_readFirstBranch (.code y_ValueReader_readFirstBranch prog_10_method_11_code 3 (some (.boolean))) [ax_A x0, ax_I x1, ax_I x2] h r h' := by
  refine ax_enter (by decide) (Nat.le_of_ble_eq_true rfl) ho (fun p e s mi args below meth c B E Nm => ?_)
  have B : ax_B G p s mi meth c "SchemaDesk$ValueReader" prog_10_method_11_code 3 (some (.boolean)) := B
  show ax_W G p l e s mi args below meth c 3 (d + 1) h 0 [(0, ax_A x0), (1, ax_I x1), (2, ax_I x2)] [] h (ValueReader_readFirstBranch_b call x0 x1 x2 h)
  unfold ValueReader_readFirstBranch_b
  refine ax_aload_n B 0 d_ValueReader_readFirstBranch_0 rfl rfl ?_
  refine ax_getfr B cl_ValueReader (by decide) fk_ValueReader_15 d_ValueReader_readFirstBranch_1 (fun v1 => ?_)
  refine ax_aload_n B 0 d_ValueReader_readFirstBranch_4 rfl rfl ?_
  refine ax_getfr B cl_ValueReader (by decide) fk_ValueReader_9 d_ValueReader_readFirstBranch_5 (fun v2 => ?_)
  refine ax_callVi (av := []) (rest := [ax_A v1]) B E hm_Cursor_at cl_Cursor rfl wd_302 wd_303 lk_ValueReader_111 d_ValueReader_readFirstBranch_8 rfl (Nat.le_of_ble_eq_true rfl) (fun _ _ hh => hcall 27 _ _ _ _ hh) (fun v4 h3 => ?_)
  refine ax_callVv (av := [ax_I v4]) (rest := []) B E hm_Schema_markUnion cl_Schema rfl wd_435 wd_436 lk_ValueReader_114 d_ValueReader_readFirstBranch_11 rfl (Nat.le_of_ble_eq_true rfl) (fun _ _ hh => hcall 59 _ _ _ _ hh) (fun h5 => ?_)
  refine ax_aload_n B 0 d_ValueReader_readFirstBranch_14 rfl rfl ?_
  refine ax_aload_n B 0 d_ValueReader_readFirstBranch_15 rfl rfl ?_
  refine ax_getfr B cl_ValueReader (by decide) fk_ValueReader_15 d_ValueReader_readFirstBranch_16 (fun v7 => ?_)
  refine ax_iload_n B 1 d_ValueReader_readFirstBranch_19 rfl rfl ?_
  refine ax_callVi (av := [ax_I x1]) (rest := [ax_A x0]) B E hm_Schema_firstPart cl_Schema rfl wd_439 wd_440 lk_ValueReader_118 d_ValueReader_readFirstBranch_20 rfl (Nat.le_of_ble_eq_true rfl) (fun _ _ hh => hcall 60 _ _ _ _ hh) (fun v9 h8 => ?_)
  refine ax_iload_n B 2 d_ValueReader_readFirstBranch_23 rfl rfl ?_
  refine ax_iconst (v := 1) B d_ValueReader_readFirstBranch_24 (by decide) ?_
  refine ax_iadd B d_ValueReader_readFirstBranch_25 ?_
  refine ax_callVi (av := [ax_I v9, ax_I (x2 + 1)]) (rest := []) B E hm_ValueReader_readPart cl_ValueReader rfl wd_364 wp_9 lk_ValueReader_27 d_ValueReader_readFirstBranch_26 rfl (Nat.le_of_ble_eq_true rfl) (fun _ _ hh => hcall 43 _ _ _ _ hh) (fun v11 h10 => ?_)
  exact ax_zreturn B d_ValueReader_readFirstBranch_29

theorem d_ValueReader_readBranch_0 : decode prog_10_method_12_code 0 = .ok (.aload_n 0, 1) := by decide +kernel
theorem d_ValueReader_readBranch_1 : decode prog_10_method_12_code 1 = .ok (.getfield 9, 3) := by decide +kernel
theorem d_ValueReader_readBranch_4 : decode prog_10_method_12_code 4 = .ok (.invokevirtual 85, 3) := by decide +kernel
theorem d_ValueReader_readBranch_7 : decode prog_10_method_12_code 7 = .ok (.bipush 48, 2) := by decide +kernel
theorem d_ValueReader_readBranch_9 : decode prog_10_method_12_code 9 = .ok (.isub, 1) := by decide +kernel
theorem d_ValueReader_readBranch_10 : decode prog_10_method_12_code 10 = .ok (.istore_n 3, 1) := by decide +kernel
theorem d_ValueReader_readBranch_11 : decode prog_10_method_12_code 11 = .ok (.aload_n 0, 1) := by decide +kernel
theorem d_ValueReader_readBranch_12 : decode prog_10_method_12_code 12 = .ok (.getfield 15, 3) := by decide +kernel
theorem d_ValueReader_readBranch_15 : decode prog_10_method_12_code 15 = .ok (.iload_n 1, 1) := by decide +kernel
theorem d_ValueReader_readBranch_16 : decode prog_10_method_12_code 16 = .ok (.iload_n 3, 1) := by decide +kernel
theorem d_ValueReader_readBranch_17 : decode prog_10_method_12_code 17 = .ok (.invokevirtual 121, 3) := by decide +kernel
theorem d_ValueReader_readBranch_20 : decode prog_10_method_12_code 20 = .ok (.istore 4, 2) := by decide +kernel
theorem d_ValueReader_readBranch_22 : decode prog_10_method_12_code 22 = .ok (.iload 4, 2) := by decide +kernel
theorem d_ValueReader_readBranch_24 : decode prog_10_method_12_code 24 = .ok (.iconst (-1), 1) := by decide +kernel
theorem d_ValueReader_readBranch_25 : decode prog_10_method_12_code 25 = .ok (.if_icmp .ne 5, 3) := by decide +kernel
theorem d_ValueReader_readBranch_28 : decode prog_10_method_12_code 28 = .ok (.iconst 0, 1) := by decide +kernel
theorem d_ValueReader_readBranch_29 : decode prog_10_method_12_code 29 = .ok (.ireturn, 1) := by decide +kernel
theorem d_ValueReader_readBranch_30 : decode prog_10_method_12_code 30 = .ok (.aload_n 0, 1) := by decide +kernel
theorem d_ValueReader_readBranch_31 : decode prog_10_method_12_code 31 = .ok (.getfield 9, 3) := by decide +kernel
theorem d_ValueReader_readBranch_34 : decode prog_10_method_12_code 34 = .ok (.invokevirtual 94, 3) := by decide +kernel
theorem d_ValueReader_readBranch_37 : decode prog_10_method_12_code 37 = .ok (.aload_n 0, 1) := by decide +kernel
theorem d_ValueReader_readBranch_38 : decode prog_10_method_12_code 38 = .ok (.getfield 19, 3) := by decide +kernel
theorem d_ValueReader_readBranch_41 : decode prog_10_method_12_code 41 = .ok (.iconst 2, 1) := by decide +kernel
theorem d_ValueReader_readBranch_42 : decode prog_10_method_12_code 42 = .ok (.iload_n 3, 1) := by decide +kernel
theorem d_ValueReader_readBranch_43 : decode prog_10_method_12_code 43 = .ok (.imul, 1) := by decide +kernel
theorem d_ValueReader_readBranch_44 : decode prog_10_method_12_code 44 = .ok (.invokevirtual 76, 3) := by decide +kernel
theorem d_ValueReader_readBranch_47 : decode prog_10_method_12_code 47 = .ok (.pop, 1) := by decide +kernel
theorem d_ValueReader_readBranch_48 : decode prog_10_method_12_code 48 = .ok (.aload_n 0, 1) := by decide +kernel
theorem d_ValueReader_readBranch_49 : decode prog_10_method_12_code 49 = .ok (.getfield 9, 3) := by decide +kernel
theorem d_ValueReader_readBranch_52 : decode prog_10_method_12_code 52 = .ok (.bipush 58, 2) := by decide +kernel
theorem d_ValueReader_readBranch_54 : decode prog_10_method_12_code 54 = .ok (.invokevirtual 43, 3) := by decide +kernel
theorem d_ValueReader_readBranch_57 : decode prog_10_method_12_code 57 = .ok (.ifCond .eq 19, 3) := by decide +kernel
theorem d_ValueReader_readBranch_60 : decode prog_10_method_12_code 60 = .ok (.aload_n 0, 1) := by decide +kernel
theorem d_ValueReader_readBranch_61 : decode prog_10_method_12_code 61 = .ok (.iload 4, 2) := by decide +kernel
theorem d_ValueReader_readBranch_63 : decode prog_10_method_12_code 63 = .ok (.iload_n 2, 1) := by decide +kernel
theorem d_ValueReader_readBranch_64 : decode prog_10_method_12_code 64 = .ok (.iconst 1, 1) := by decide +kernel
theorem d_ValueReader_readBranch_65 : decode prog_10_method_12_code 65 = .ok (.iadd, 1) := by decide +kernel
theorem d_ValueReader_readBranch_66 : decode prog_10_method_12_code 66 = .ok (.invokevirtual 27, 3) := by decide +kernel
theorem d_ValueReader_readBranch_69 : decode prog_10_method_12_code 69 = .ok (.ifCond .eq 7, 3) := by decide +kernel
theorem d_ValueReader_readBranch_72 : decode prog_10_method_12_code 72 = .ok (.iconst 1, 1) := by decide +kernel
theorem d_ValueReader_readBranch_73 : decode prog_10_method_12_code 73 = .ok (.goto 4, 3) := by decide +kernel
theorem d_ValueReader_readBranch_76 : decode prog_10_method_12_code 76 = .ok (.iconst 0, 1) := by decide +kernel
theorem d_ValueReader_readBranch_77 : decode prog_10_method_12_code 77 = .ok (.ireturn, 1) := by decide +kernel
def ValueReader_readBranch_b (call : ax_Cf) (x0 : Option Nat) (x1 : Int32) (x2 : Int32) (h : ax_Hp) : ax_O :=
  (ax_gr h x0 7 0).bind fun v1 =>
  ax_on h v1 0 <| ax_ci (call 29 [ax_A v1] h) fun v3 h2 =>
  (ax_gr h2 x0 7 1).bind fun v4 =>
  ax_on h2 v4 3 <| ax_ci (call 62 [ax_A v4, ax_I x1, ax_I (v3 - 48)] h2) fun v6 h5 =>
  if v6 = (-1) then
    ax_rz 0 h5
  else
    (ax_gr h5 x0 7 0).bind fun v7 =>
    ax_on h5 v7 0 <| ax_cv (call 34 [ax_A v7] h5) fun h8 =>
    (ax_gr h8 x0 7 2).bind fun v10 =>
    ax_on h8 v10 2 <| ax_ci (call 8 [ax_A v10, ax_I (2 * (v3 - 48))] h8) fun v12 h11 =>
    (ax_gr h11 x0 7 0).bind fun v13 =>
    ax_on h11 v13 0 <| ax_ci (call 30 [ax_A v13, ax_I 58] h11) fun v15 h14 =>
    if v15 = 0 then
      ax_rz 0 h14
    else
      ax_on h14 x0 7 <| ax_ci (call 43 [ax_A x0, ax_I v6, ax_I (x2 + 1)] h14) fun v17 h16 =>
      if v17 = 0 then
        ax_rz 0 h16
      else
        ax_rz 1 h16
set_option maxHeartbeats 4000000 in
set_option maxRecDepth 20000 in
theorem ValueReader_readBranch_t {l : Launch} {G : ax_G} {d : Nat} {call : ax_Cf} (hcall : ax_Hc l G d call) (x0 : Option Nat) (x1 : Int32) (x2 : Int32) (h : ax_Hp) {r : ax_Rs} {h' : ax_Hp} (ho : ValueReader_readBranch_b call x0 x1 x2 h = some (r, h')) : ax_C l G (d + 1) y_ValueReader_readBranch (.code y_ValueReader_readBranch prog_10_method_12_code 5 (some (.boolean))) [ax_A x0, ax_I x1, ax_I x2] h r h' := by
  refine ax_enter (by decide) (Nat.le_of_ble_eq_true rfl) ho (fun p e s mi args below meth c B E Nm => ?_)
  have B : ax_B G p s mi meth c "SchemaDesk$ValueReader" prog_10_method_12_code 5 (some (.boolean)) := B
  show ax_W G p l e s mi args below meth c 5 (d + 1) h 0 [(0, ax_A x0), (1, ax_I x1), (2, ax_I x2)] [] h (ValueReader_readBranch_b call x0 x1 x2 h)
  unfold ValueReader_readBranch_b
  refine ax_aload_n B 0 d_ValueReader_readBranch_0 rfl rfl ?_
  refine ax_getfr B cl_ValueReader (by decide) fk_ValueReader_9 d_ValueReader_readBranch_1 (fun v1 => ?_)
  refine ax_callVi (av := []) (rest := []) B E hm_Cursor_peek cl_Cursor rfl wd_310 wd_311 lk_ValueReader_85 d_ValueReader_readBranch_4 rfl (Nat.le_of_ble_eq_true rfl) (fun _ _ hh => hcall 29 _ _ _ _ hh) (fun v3 h2 => ?_)
  refine ax_bipush (v := 48) B d_ValueReader_readBranch_7 (by decide) ?_
  refine ax_isub B d_ValueReader_readBranch_9 ?_
  refine ax_istore_n (tv2 := [(3, ax_I (v3 - 48)), (0, ax_A x0), (1, ax_I x1), (2, ax_I x2)]) B d_ValueReader_readBranch_10 rfl (by decide) rfl ?_
  refine ax_aload_n B 1 d_ValueReader_readBranch_11 rfl rfl ?_
  refine ax_getfr B cl_ValueReader (by decide) fk_ValueReader_15 d_ValueReader_readBranch_12 (fun v4 => ?_)
  refine ax_iload_n B 2 d_ValueReader_readBranch_15 rfl rfl ?_
  refine ax_iload_n B 0 d_ValueReader_readBranch_16 rfl rfl ?_
  refine ax_callVi (av := [ax_I x1, ax_I (v3 - 48)]) (rest := []) B E hm_Schema_branch cl_Schema rfl wd_447 wd_448 lk_ValueReader_121 d_ValueReader_readBranch_17 rfl (Nat.le_of_ble_eq_true rfl) (fun _ _ hh => hcall 62 _ _ _ _ hh) (fun v6 h5 => ?_)
  refine ax_istore (tv2 := [(4, ax_I v6), (3, ax_I (v3 - 48)), (0, ax_A x0), (1, ax_I x1), (2, ax_I x2)]) B d_ValueReader_readBranch_20 (by decide) rfl ?_
  refine ax_iload B 0 d_ValueReader_readBranch_22 rfl ?_
  refine ax_iconst (v := (-1)) B d_ValueReader_readBranch_24 (by decide) ?_
  refine ax_icmp_ne B 30 d_ValueReader_readBranch_25 (by decide) ?_ ?_
  · refine ax_aload_n B 2 d_ValueReader_readBranch_30 rfl rfl ?_
    refine ax_getfr B cl_ValueReader (by decide) fk_ValueReader_9 d_ValueReader_readBranch_31 (fun v7 => ?_)
    refine ax_callVv (av := []) (rest := []) B E hm_Cursor_step cl_Cursor rfl wd_328 wd_329 lk_ValueReader_94 d_ValueReader_readBranch_34 rfl (Nat.le_of_ble_eq_true rfl) (fun _ _ hh => hcall 34 _ _ _ _ hh) (fun h8 => ?_)
    refine ax_aload_n B 2 d_ValueReader_readBranch_37 rfl rfl ?_
    refine ax_getfr B cl_ValueReader (by decide) fk_ValueReader_19 d_ValueReader_readBranch_38 (fun v10 => ?_)
    refine ax_iconst (v := 2) B d_ValueReader_readBranch_41 (by decide) ?_
    refine ax_iload_n B 1 d_ValueReader_readBranch_42 rfl rfl ?_
    refine ax_imul B d_ValueReader_readBranch_43 ?_
    refine ax_callVi (av := [ax_I (2 * (v3 - 48))]) (rest := []) B E hm_Row_add cl_Row rfl wd_123 wd_124 lk_ValueReader_76 d_ValueReader_readBranch_44 rfl (Nat.le_of_ble_eq_true rfl) (fun _ _ hh => hcall 8 _ _ _ _ hh) (fun v12 h11 => ?_)
    refine ax_pop B d_ValueReader_readBranch_47 rfl ?_
    refine ax_aload_n B 2 d_ValueReader_readBranch_48 rfl rfl ?_
    refine ax_getfr B cl_ValueReader (by decide) fk_ValueReader_9 d_ValueReader_readBranch_49 (fun v13 => ?_)
    refine ax_bipush (v := 58) B d_ValueReader_readBranch_52 (by decide) ?_
    refine ax_callVi (av := [ax_I 58]) (rest := []) B E hm_Cursor_take cl_Cursor rfl wd_314 wd_315 lk_ValueReader_43 d_ValueReader_readBranch_54 rfl (Nat.le_of_ble_eq_true rfl) (fun _ _ hh => hcall 30 _ _ _ _ hh) (fun v15 h14 => ?_)
    refine ax_if_eq B 76 d_ValueReader_readBranch_57 (by decide) ?_ ?_
    · refine ax_iconst (v := 0) B d_ValueReader_readBranch_76 (by decide) ?_
      exact ax_zreturn B d_ValueReader_readBranch_77
    · refine ax_aload_n B 2 d_ValueReader_readBranch_60 rfl rfl ?_
      refine ax_iload B 0 d_ValueReader_readBranch_61 rfl ?_
      refine ax_iload_n B 4 d_ValueReader_readBranch_63 rfl rfl ?_
      refine ax_iconst (v := 1) B d_ValueReader_readBranch_64 (by decide) ?_
      refine ax_iadd B d_ValueReader_readBranch_65 ?_
      refine ax_callVi (av := [ax_I v6, ax_I (x2 + 1)]) (rest := []) B E hm_ValueReader_readPart cl_ValueReader rfl wd_364 wp_9 lk_ValueReader_27 d_ValueReader_readBranch_66 rfl (Nat.le_of_ble_eq_true rfl) (fun _ _ hh => hcall 43 _ _ _ _ hh) (fun v17 h16 => ?_)
      refine ax_if_eq B 76 d_ValueReader_readBranch_69 (by decide) ?_ ?_
      · refine ax_iconst (v := 0) B d_ValueReader_readBranch_76 (by decide) ?_
        exact ax_zreturn B d_ValueReader_readBranch_77
      · refine ax_iconst (v := 1) B d_ValueReader_readBranch_72 (by decide) ?_
        refine ax_goto B 77 d_ValueReader_readBranch_73 (by decide) ?_
        exact ax_zreturn B d_ValueReader_readBranch_77
  · refine ax_iconst (v := 0) B d_ValueReader_readBranch_28 (by decide) ?_
    exact ax_zreturn B d_ValueReader_readBranch_29

theorem d_ValueReader_readFields_0 : decode prog_10_method_13_code 0 = .ok (.aload_n 0, 1) := by decide +kernel
theorem d_ValueReader_readFields_1 : decode prog_10_method_13_code 1 = .ok (.getfield 9, 3) := by decide +kernel
theorem d_ValueReader_readFields_4 : decode prog_10_method_13_code 4 = .ok (.bipush 123, 2) := by decide +kernel
theorem d_ValueReader_readFields_6 : decode prog_10_method_13_code 6 = .ok (.invokevirtual 43, 3) := by decide +kernel
theorem d_ValueReader_readFields_9 : decode prog_10_method_13_code 9 = .ok (.ifCond .ne 5, 3) := by decide +kernel
theorem d_ValueReader_readFields_12 : decode prog_10_method_13_code 12 = .ok (.iconst 0, 1) := by decide +kernel
theorem d_ValueReader_readFields_13 : decode prog_10_method_13_code 13 = .ok (.ireturn, 1) := by decide +kernel
theorem d_ValueReader_readFields_14 : decode prog_10_method_13_code 14 = .ok (.aload_n 0, 1) := by decide +kernel
theorem d_ValueReader_readFields_15 : decode prog_10_method_13_code 15 = .ok (.getfield 15, 3) := by decide +kernel
theorem d_ValueReader_readFields_18 : decode prog_10_method_13_code 18 = .ok (.iload_n 1, 1) := by decide +kernel
theorem d_ValueReader_readFields_19 : decode prog_10_method_13_code 19 = .ok (.invokevirtual 118, 3) := by decide +kernel
theorem d_ValueReader_readFields_22 : decode prog_10_method_13_code 22 = .ok (.istore_n 3, 1) := by decide +kernel
theorem d_ValueReader_readFields_23 : decode prog_10_method_13_code 23 = .ok (.iconst 0, 1) := by decide +kernel
theorem d_ValueReader_readFields_24 : decode prog_10_method_13_code 24 = .ok (.istore 4, 2) := by decide +kernel
theorem d_ValueReader_readFields_26 : decode prog_10_method_13_code 26 = .ok (.iload 4, 2) := by decide +kernel
theorem d_ValueReader_readFields_28 : decode prog_10_method_13_code 28 = .ok (.bipush 6, 2) := by decide +kernel
theorem d_ValueReader_readFields_30 : decode prog_10_method_13_code 30 = .ok (.if_icmp .ge 67, 3) := by decide +kernel
theorem d_ValueReader_readFields_33 : decode prog_10_method_13_code 33 = .ok (.aload_n 0, 1) := by decide +kernel
theorem d_ValueReader_readFields_34 : decode prog_10_method_13_code 34 = .ok (.aload_n 0, 1) := by decide +kernel
theorem d_ValueReader_readFields_35 : decode prog_10_method_13_code 35 = .ok (.getfield 15, 3) := by decide +kernel
theorem d_ValueReader_readFields_38 : decode prog_10_method_13_code 38 = .ok (.iload_n 3, 1) := by decide +kernel
theorem d_ValueReader_readFields_39 : decode prog_10_method_13_code 39 = .ok (.invokevirtual 124, 3) := by decide +kernel
theorem d_ValueReader_readFields_42 : decode prog_10_method_13_code 42 = .ok (.iload_n 2, 1) := by decide +kernel
theorem d_ValueReader_readFields_43 : decode prog_10_method_13_code 43 = .ok (.iconst 1, 1) := by decide +kernel
theorem d_ValueReader_readFields_44 : decode prog_10_method_13_code 44 = .ok (.iadd, 1) := by decide +kernel
theorem d_ValueReader_readFields_45 : decode prog_10_method_13_code 45 = .ok (.invokevirtual 27, 3) := by decide +kernel
theorem d_ValueReader_readFields_48 : decode prog_10_method_13_code 48 = .ok (.ifCond .ne 5, 3) := by decide +kernel
theorem d_ValueReader_readFields_51 : decode prog_10_method_13_code 51 = .ok (.iconst 0, 1) := by decide +kernel
theorem d_ValueReader_readFields_52 : decode prog_10_method_13_code 52 = .ok (.ireturn, 1) := by decide +kernel
theorem d_ValueReader_readFields_53 : decode prog_10_method_13_code 53 = .ok (.aload_n 0, 1) := by decide +kernel
theorem d_ValueReader_readFields_54 : decode prog_10_method_13_code 54 = .ok (.getfield 15, 3) := by decide +kernel
theorem d_ValueReader_readFields_57 : decode prog_10_method_13_code 57 = .ok (.iload_n 3, 1) := by decide +kernel
theorem d_ValueReader_readFields_58 : decode prog_10_method_13_code 58 = .ok (.invokevirtual 127, 3) := by decide +kernel
theorem d_ValueReader_readFields_61 : decode prog_10_method_13_code 61 = .ok (.istore_n 3, 1) := by decide +kernel
theorem d_ValueReader_readFields_62 : decode prog_10_method_13_code 62 = .ok (.iload_n 3, 1) := by decide +kernel
theorem d_ValueReader_readFields_63 : decode prog_10_method_13_code 63 = .ok (.iconst (-1), 1) := by decide +kernel
theorem d_ValueReader_readFields_64 : decode prog_10_method_13_code 64 = .ok (.if_icmp .ne 13, 3) := by decide +kernel
theorem d_ValueReader_readFields_67 : decode prog_10_method_13_code 67 = .ok (.aload_n 0, 1) := by decide +kernel
theorem d_ValueReader_readFields_68 : decode prog_10_method_13_code 68 = .ok (.getfield 9, 3) := by decide +kernel
theorem d_ValueReader_readFields_71 : decode prog_10_method_13_code 71 = .ok (.bipush 125, 2) := by decide +kernel
theorem d_ValueReader_readFields_73 : decode prog_10_method_13_code 73 = .ok (.invokevirtual 43, 3) := by decide +kernel
theorem d_ValueReader_readFields_76 : decode prog_10_method_13_code 76 = .ok (.ireturn, 1) := by decide +kernel
theorem d_ValueReader_readFields_77 : decode prog_10_method_13_code 77 = .ok (.aload_n 0, 1) := by decide +kernel
theorem d_ValueReader_readFields_78 : decode prog_10_method_13_code 78 = .ok (.getfield 9, 3) := by decide +kernel
theorem d_ValueReader_readFields_81 : decode prog_10_method_13_code 81 = .ok (.bipush 44, 2) := by decide +kernel
theorem d_ValueReader_readFields_83 : decode prog_10_method_13_code 83 = .ok (.invokevirtual 43, 3) := by decide +kernel
theorem d_ValueReader_readFields_86 : decode prog_10_method_13_code 86 = .ok (.ifCond .ne 5, 3) := by decide +kernel
theorem d_ValueReader_readFields_89 : decode prog_10_method_13_code 89 = .ok (.iconst 0, 1) := by decide +kernel
theorem d_ValueReader_readFields_90 : decode prog_10_method_13_code 90 = .ok (.ireturn, 1) := by decide +kernel
theorem d_ValueReader_readFields_91 : decode prog_10_method_13_code 91 = .ok (.iinc 4 1, 3) := by decide +kernel
theorem d_ValueReader_readFields_94 : decode prog_10_method_13_code 94 = .ok (.goto (-68), 3) := by decide +kernel
theorem d_ValueReader_readFields_97 : decode prog_10_method_13_code 97 = .ok (.iconst 0, 1) := by decide +kernel
theorem d_ValueReader_readFields_98 : decode prog_10_method_13_code 98 = .ok (.ireturn, 1) := by decide +kernel
def ValueReader_readFields_bd26 (call : ax_Cf)  (k26 : Option Nat → Int32 → Int32 → Int32 → ax_Hp → ax_O) (x0 : Option Nat) (x2 : Int32) (x3 : Int32) (x4 : Int32) (h : ax_Hp) : ax_O :=
  if 6 ≤ x4 then
    ax_rz 0 h
  else
    (ax_gr h x0 7 1).bind fun v7 =>
    ax_on h v7 3 <| ax_ci (call 65 [ax_A v7, ax_I x3] h) fun v9 h8 =>
    ax_on h8 x0 7 <| ax_ci (call 43 [ax_A x0, ax_I v9, ax_I (x2 + 1)] h8) fun v11 h10 =>
    if v11 = 0 then
      ax_rz 0 h10
    else
      (ax_gr h10 x0 7 1).bind fun v12 =>
      ax_on h10 v12 3 <| ax_ci (call 63 [ax_A v12, ax_I x3] h10) fun v14 h13 =>
      if v14 = (-1) then
        (ax_gr h13 x0 7 0).bind fun v18 =>
        ax_on h13 v18 0 <| ax_ci (call 30 [ax_A v18, ax_I 125] h13) fun v20 h19 =>
        ax_rz v20 h19
      else
        (ax_gr h13 x0 7 0).bind fun v15 =>
        ax_on h13 v15 0 <| ax_ci (call 30 [ax_A v15, ax_I 44] h13) fun v17 h16 =>
        if v17 = 0 then
          ax_rz 0 h16
        else
          k26 x0 x2 v14 (x4 + 1) h16
def ValueReader_readFields_lp26 (call : ax_Cf)  : Nat → Option Nat → Int32 → Int32 → Int32 → ax_Hp → ax_O
  | 0 => fun _ _ _ _ _ => none
  | n + 1 => ValueReader_readFields_bd26 call  (ValueReader_readFields_lp26 call  n)
set_option maxHeartbeats 4000000 in
set_option maxRecDepth 20000 in
theorem ValueReader_readFields_lb26 {l : Launch} {G : ax_G} {d : Nat} {call : ax_Cf} (hcall : ax_Hc l G d call) {p : Program} {e : Env} {s : State} {mi : MethodId} {args : Array Value} {below : List Frame} {meth : Method} {c : Code} {h0 : ax_Hp} (B : ax_B G p s mi meth c "SchemaDesk$ValueReader" prog_10_method_13_code 5 (some (.boolean))) (E : c.exceptionTable.isEmpty = true) (Nm : meth.name = y_ValueReader_readFields.name)   {k26 : Option Nat → Int32 → Int32 → Int32 → ax_Hp → ax_O} (hk26 : ∀ (x0 : Option Nat) (x2 : Int32) (x3 : Int32) (x4 : Int32) (h : ax_Hp), ax_W G p l e s mi args below meth c 5 (d + 1) h0 26 [(0, ax_A x0), (2, ax_I x2), (3, ax_I x3), (4, ax_I x4)] [] h (k26 x0 x2 x3 x4 h)) (x0 : Option Nat) (x2 : Int32) (x3 : Int32) (x4 : Int32) (h : ax_Hp) : ax_W G p l e s mi args below meth c 5 (d + 1) h0 26 [(0, ax_A x0), (2, ax_I x2), (3, ax_I x3), (4, ax_I x4)] [] h (ValueReader_readFields_bd26 call  k26 x0 x2 x3 x4 h) := by
  unfold ValueReader_readFields_bd26
  refine ax_iload B 3 d_ValueReader_readFields_26 rfl ?_
  refine ax_bipush (v := 6) B d_ValueReader_readFields_28 (by decide) ?_
  refine ax_icmp_ge B 97 d_ValueReader_readFields_30 (by decide) ?_ ?_
  · refine ax_iconst (v := 0) B d_ValueReader_readFields_97 (by decide) ?_
    exact ax_zreturn B d_ValueReader_readFields_98
  · refine ax_aload_n B 0 d_ValueReader_readFields_33 rfl rfl ?_
    refine ax_aload_n B 0 d_ValueReader_readFields_34 rfl rfl ?_
    refine ax_getfr B cl_ValueReader (by decide) fk_ValueReader_15 d_ValueReader_readFields_35 (fun v7 => ?_)
    refine ax_iload_n B 2 d_ValueReader_readFields_38 rfl rfl ?_
    refine ax_callVi (av := [ax_I x3]) (rest := [ax_A x0]) B E hm_Schema_fieldType cl_Schema rfl wd_460 wd_461 lk_ValueReader_124 d_ValueReader_readFields_39 rfl (Nat.le_of_ble_eq_true rfl) (fun _ _ hh => hcall 65 _ _ _ _ hh) (fun v9 h8 => ?_)
    refine ax_iload_n B 1 d_ValueReader_readFields_42 rfl rfl ?_
    refine ax_iconst (v := 1) B d_ValueReader_readFields_43 (by decide) ?_
    refine ax_iadd B d_ValueReader_readFields_44 ?_
    refine ax_callVi (av := [ax_I v9, ax_I (x2 + 1)]) (rest := []) B E hm_ValueReader_readPart cl_ValueReader rfl wd_364 wp_9 lk_ValueReader_27 d_ValueReader_readFields_45 rfl (Nat.le_of_ble_eq_true rfl) (fun _ _ hh => hcall 43 _ _ _ _ hh) (fun v11 h10 => ?_)
    refine ax_if_ne B 53 d_ValueReader_readFields_48 (by decide) ?_ ?_
    · refine ax_aload_n B 0 d_ValueReader_readFields_53 rfl rfl ?_
      refine ax_getfr B cl_ValueReader (by decide) fk_ValueReader_15 d_ValueReader_readFields_54 (fun v12 => ?_)
      refine ax_iload_n B 2 d_ValueReader_readFields_57 rfl rfl ?_
      refine ax_callVi (av := [ax_I x3]) (rest := []) B E hm_Schema_nextPart cl_Schema rfl wd_452 wd_453 lk_ValueReader_127 d_ValueReader_readFields_58 rfl (Nat.le_of_ble_eq_true rfl) (fun _ _ hh => hcall 63 _ _ _ _ hh) (fun v14 h13 => ?_)
      refine ax_istore_n (tv2 := [(3, ax_I v14), (0, ax_A x0), (2, ax_I x2), (4, ax_I x4)]) B d_ValueReader_readFields_61 rfl (by decide) rfl ?_
      refine ax_iload_n B 0 d_ValueReader_readFields_62 rfl rfl ?_
      refine ax_iconst (v := (-1)) B d_ValueReader_readFields_63 (by decide) ?_
      refine ax_icmp_ne B 77 d_ValueReader_readFields_64 (by decide) ?_ ?_
      · refine ax_aload_n B 1 d_ValueReader_readFields_77 rfl rfl ?_
        refine ax_getfr B cl_ValueReader (by decide) fk_ValueReader_9 d_ValueReader_readFields_78 (fun v15 => ?_)
        refine ax_bipush (v := 44) B d_ValueReader_readFields_81 (by decide) ?_
        refine ax_callVi (av := [ax_I 44]) (rest := []) B E hm_Cursor_take cl_Cursor rfl wd_314 wd_315 lk_ValueReader_43 d_ValueReader_readFields_83 rfl (Nat.le_of_ble_eq_true rfl) (fun _ _ hh => hcall 30 _ _ _ _ hh) (fun v17 h16 => ?_)
        refine ax_if_ne B 91 d_ValueReader_readFields_86 (by decide) ?_ ?_
        · refine ax_iinc (v := x4 + 1) (tv2 := [(4, ax_I (x4 + 1)), (3, ax_I v14), (0, ax_A x0), (2, ax_I x2)]) B 3 d_ValueReader_readFields_91 rfl (congrArg (_ + ·) (by decide)) (by decide) rfl ?_
          refine ax_goto B 26 d_ValueReader_readFields_94 (by decide) ?_
          refine ax_sub (tv2 := [(0, ax_A x0), (2, ax_I x2), (3, ax_I v14), (4, ax_I (x4 + 1))]) [2, 3, 1, 0] rfl ?_
          exact hk26 x0 x2 v14 (x4 + 1) h16
        · refine ax_iconst (v := 0) B d_ValueReader_readFields_89 (by decide) ?_
          exact ax_zreturn B d_ValueReader_readFields_90
      · refine ax_aload_n B 1 d_ValueReader_readFields_67 rfl rfl ?_
        refine ax_getfr B cl_ValueReader (by decide) fk_ValueReader_9 d_ValueReader_readFields_68 (fun v18 => ?_)
        refine ax_bipush (v := 125) B d_ValueReader_readFields_71 (by decide) ?_
        refine ax_callVi (av := [ax_I 125]) (rest := []) B E hm_Cursor_take cl_Cursor rfl wd_314 wd_315 lk_ValueReader_43 d_ValueReader_readFields_73 rfl (Nat.le_of_ble_eq_true rfl) (fun _ _ hh => hcall 30 _ _ _ _ hh) (fun v20 h19 => ?_)
        exact ax_zreturn B d_ValueReader_readFields_76
    · refine ax_iconst (v := 0) B d_ValueReader_readFields_51 (by decide) ?_
      exact ax_zreturn B d_ValueReader_readFields_52
theorem ValueReader_readFields_lq26 {l : Launch} {G : ax_G} {d : Nat} {call : ax_Cf} (hcall : ax_Hc l G d call) {p : Program} {e : Env} {s : State} {mi : MethodId} {args : Array Value} {below : List Frame} {meth : Method} {c : Code} {h0 : ax_Hp} (B : ax_B G p s mi meth c "SchemaDesk$ValueReader" prog_10_method_13_code 5 (some (.boolean))) (E : c.exceptionTable.isEmpty = true) (Nm : meth.name = y_ValueReader_readFields.name)   : ∀ (n : Nat) (x0 : Option Nat) (x2 : Int32) (x3 : Int32) (x4 : Int32) (h : ax_Hp), ax_W G p l e s mi args below meth c 5 (d + 1) h0 26 [(0, ax_A x0), (2, ax_I x2), (3, ax_I x3), (4, ax_I x4)] [] h (ValueReader_readFields_lp26 call  n x0 x2 x3 x4 h)
  | 0, _, _, _, _, _ => ax_none
  | n + 1, x0, x2, x3, x4, h => ValueReader_readFields_lb26 hcall B E Nm   (ValueReader_readFields_lq26 hcall B E Nm   n) x0 x2 x3 x4 h
def ValueReader_readFields_b (call : ax_Cf) (x0 : Option Nat) (x1 : Int32) (x2 : Int32) (h : ax_Hp) : ax_O :=
  (ax_gr h x0 7 0).bind fun v1 =>
  ax_on h v1 0 <| ax_ci (call 30 [ax_A v1, ax_I 123] h) fun v3 h2 =>
  if v3 = 0 then
    ax_rz 0 h2
  else
    (ax_gr h2 x0 7 1).bind fun v4 =>
    ax_on h2 v4 3 <| ax_ci (call 60 [ax_A v4, ax_I x1] h2) fun v6 h5 =>
    ValueReader_readFields_lp26 call ax_fuel x0 x2 v6 0 h5
set_option maxHeartbeats 4000000 in
set_option maxRecDepth 20000 in
theorem ValueReader_readFields_t {l : Launch} {G : ax_G} {d : Nat} {call : ax_Cf} (hcall : ax_Hc l G d call) (x0 : Option Nat) (x1 : Int32) (x2 : Int32) (h : ax_Hp) {r : ax_Rs} {h' : ax_Hp} (ho : ValueReader_readFields_b call x0 x1 x2 h = some (r, h')) : ax_C l G (d + 1) y_ValueReader_readFields (.code y_ValueReader_readFields prog_10_method_13_code 5 (some (.boolean))) [ax_A x0, ax_I x1, ax_I x2] h r h' := by
  refine ax_enter (by decide) (Nat.le_of_ble_eq_true rfl) ho (fun p e s mi args below meth c B E Nm => ?_)
  have B : ax_B G p s mi meth c "SchemaDesk$ValueReader" prog_10_method_13_code 5 (some (.boolean)) := B
  show ax_W G p l e s mi args below meth c 5 (d + 1) h 0 [(0, ax_A x0), (1, ax_I x1), (2, ax_I x2)] [] h (ValueReader_readFields_b call x0 x1 x2 h)
  unfold ValueReader_readFields_b
  refine ax_aload_n B 0 d_ValueReader_readFields_0 rfl rfl ?_
  refine ax_getfr B cl_ValueReader (by decide) fk_ValueReader_9 d_ValueReader_readFields_1 (fun v1 => ?_)
  refine ax_bipush (v := 123) B d_ValueReader_readFields_4 (by decide) ?_
  refine ax_callVi (av := [ax_I 123]) (rest := []) B E hm_Cursor_take cl_Cursor rfl wd_314 wd_315 lk_ValueReader_43 d_ValueReader_readFields_6 rfl (Nat.le_of_ble_eq_true rfl) (fun _ _ hh => hcall 30 _ _ _ _ hh) (fun v3 h2 => ?_)
  refine ax_if_ne B 14 d_ValueReader_readFields_9 (by decide) ?_ ?_
  · refine ax_aload_n B 0 d_ValueReader_readFields_14 rfl rfl ?_
    refine ax_getfr B cl_ValueReader (by decide) fk_ValueReader_15 d_ValueReader_readFields_15 (fun v4 => ?_)
    refine ax_iload_n B 1 d_ValueReader_readFields_18 rfl rfl ?_
    refine ax_callVi (av := [ax_I x1]) (rest := []) B E hm_Schema_firstPart cl_Schema rfl wd_439 wd_440 lk_ValueReader_118 d_ValueReader_readFields_19 rfl (Nat.le_of_ble_eq_true rfl) (fun _ _ hh => hcall 60 _ _ _ _ hh) (fun v6 h5 => ?_)
    refine ax_istore_n (tv2 := [(3, ax_I v6), (0, ax_A x0), (1, ax_I x1), (2, ax_I x2)]) B d_ValueReader_readFields_22 rfl (by decide) rfl ?_
    refine ax_iconst (v := 0) B d_ValueReader_readFields_23 (by decide) ?_
    refine ax_istore (tv2 := [(4, ax_I 0), (3, ax_I v6), (0, ax_A x0), (1, ax_I x1), (2, ax_I x2)]) B d_ValueReader_readFields_24 (by decide) rfl ?_
    refine ax_sub (tv2 := [(0, ax_A x0), (2, ax_I x2), (3, ax_I v6), (4, ax_I 0)]) [2, 4, 1, 0] rfl ?_
    exact ValueReader_readFields_lq26 hcall B E Nm ax_fuel x0 x2 v6 0 h5
  · refine ax_iconst (v := 0) B d_ValueReader_readFields_12 (by decide) ?_
    exact ax_zreturn B d_ValueReader_readFields_13

theorem d_ValueReader_readWhole_0 : decode prog_10_method_2_code 0 = .ok (.aload_n 0, 1) := by decide +kernel
theorem d_ValueReader_readWhole_1 : decode prog_10_method_2_code 1 = .ok (.iconst 0, 1) := by decide +kernel
theorem d_ValueReader_readWhole_2 : decode prog_10_method_2_code 2 = .ok (.iconst 0, 1) := by decide +kernel
theorem d_ValueReader_readWhole_3 : decode prog_10_method_2_code 3 = .ok (.invokevirtual 27, 3) := by decide +kernel
theorem d_ValueReader_readWhole_6 : decode prog_10_method_2_code 6 = .ok (.ifCond .eq 17, 3) := by decide +kernel
theorem d_ValueReader_readWhole_9 : decode prog_10_method_2_code 9 = .ok (.aload_n 0, 1) := by decide +kernel
theorem d_ValueReader_readWhole_10 : decode prog_10_method_2_code 10 = .ok (.getfield 9, 3) := by decide +kernel
theorem d_ValueReader_readWhole_13 : decode prog_10_method_2_code 13 = .ok (.invokevirtual 31, 3) := by decide +kernel
theorem d_ValueReader_readWhole_16 : decode prog_10_method_2_code 16 = .ok (.ifCond .eq 7, 3) := by decide +kernel
theorem d_ValueReader_readWhole_19 : decode prog_10_method_2_code 19 = .ok (.iconst 1, 1) := by decide +kernel
theorem d_ValueReader_readWhole_20 : decode prog_10_method_2_code 20 = .ok (.goto 4, 3) := by decide +kernel
theorem d_ValueReader_readWhole_23 : decode prog_10_method_2_code 23 = .ok (.iconst 0, 1) := by decide +kernel
theorem d_ValueReader_readWhole_24 : decode prog_10_method_2_code 24 = .ok (.ireturn, 1) := by decide +kernel
def ValueReader_readWhole_b (call : ax_Cf) (x0 : Option Nat) (h : ax_Hp) : ax_O :=
  ax_on h x0 7 <| ax_ci (call 43 [ax_A x0, ax_I 0, ax_I 0] h) fun v2 h1 =>
  if v2 = 0 then
    ax_rz 0 h1
  else
    (ax_gr h1 x0 7 0).bind fun v3 =>
    ax_on h1 v3 0 <| ax_ci (call 52 [ax_A v3] h1) fun v5 h4 =>
    if v5 = 0 then
      ax_rz 0 h4
    else
      ax_rz 1 h4
set_option maxHeartbeats 4000000 in
set_option maxRecDepth 20000 in
theorem ValueReader_readWhole_t {l : Launch} {G : ax_G} {d : Nat} {call : ax_Cf} (hcall : ax_Hc l G d call) (x0 : Option Nat) (h : ax_Hp) {r : ax_Rs} {h' : ax_Hp} (ho : ValueReader_readWhole_b call x0 h = some (r, h')) : ax_C l G (d + 1) y_ValueReader_readWhole (.code y_ValueReader_readWhole prog_10_method_2_code 1 (some (.boolean))) [ax_A x0] h r h' := by
  refine ax_enter (by decide) (Nat.le_of_ble_eq_true rfl) ho (fun p e s mi args below meth c B E Nm => ?_)
  have B : ax_B G p s mi meth c "SchemaDesk$ValueReader" prog_10_method_2_code 1 (some (.boolean)) := B
  show ax_W G p l e s mi args below meth c 1 (d + 1) h 0 [(0, ax_A x0)] [] h (ValueReader_readWhole_b call x0 h)
  unfold ValueReader_readWhole_b
  refine ax_aload_n B 0 d_ValueReader_readWhole_0 rfl rfl ?_
  refine ax_iconst (v := 0) B d_ValueReader_readWhole_1 (by decide) ?_
  refine ax_iconst (v := 0) B d_ValueReader_readWhole_2 (by decide) ?_
  refine ax_callVi (av := [ax_I 0, ax_I 0]) (rest := []) B E hm_ValueReader_readPart cl_ValueReader rfl wd_364 wp_9 lk_ValueReader_27 d_ValueReader_readWhole_3 rfl (Nat.le_of_ble_eq_true rfl) (fun _ _ hh => hcall 43 _ _ _ _ hh) (fun v2 h1 => ?_)
  refine ax_if_eq B 23 d_ValueReader_readWhole_6 (by decide) ?_ ?_
  · refine ax_iconst (v := 0) B d_ValueReader_readWhole_23 (by decide) ?_
    exact ax_zreturn B d_ValueReader_readWhole_24
  · refine ax_aload_n B 0 d_ValueReader_readWhole_9 rfl rfl ?_
    refine ax_getfr B cl_ValueReader (by decide) fk_ValueReader_9 d_ValueReader_readWhole_10 (fun v3 => ?_)
    refine ax_callVi (av := []) (rest := []) B E hm_Cursor_isAtEnd cl_Cursor rfl wd_405 wd_406 lk_ValueReader_31 d_ValueReader_readWhole_13 rfl (Nat.le_of_ble_eq_true rfl) (fun _ _ hh => hcall 52 _ _ _ _ hh) (fun v5 h4 => ?_)
    refine ax_if_eq B 23 d_ValueReader_readWhole_16 (by decide) ?_ ?_
    · refine ax_iconst (v := 0) B d_ValueReader_readWhole_23 (by decide) ?_
      exact ax_zreturn B d_ValueReader_readWhole_24
    · refine ax_iconst (v := 1) B d_ValueReader_readWhole_19 (by decide) ?_
      refine ax_goto B 24 d_ValueReader_readWhole_20 (by decide) ?_
      exact ax_zreturn B d_ValueReader_readWhole_24
