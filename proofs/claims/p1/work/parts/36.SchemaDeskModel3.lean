theorem d_Model_grow_0 : decode prog_12_method_10_code 0 = .ok (.bipush 120, 2) := by decide +kernel
theorem d_Model_grow_2 : decode prog_12_method_10_code 2 = .ok (.iload_n 1, 1) := by decide +kernel
theorem d_Model_grow_3 : decode prog_12_method_10_code 3 = .ok (.imul, 1) := by decide +kernel
theorem d_Model_grow_4 : decode prog_12_method_10_code 4 = .ok (.aload_n 0, 1) := by decide +kernel
theorem d_Model_grow_5 : decode prog_12_method_10_code 5 = .ok (.getfield 45, 3) := by decide +kernel
theorem d_Model_grow_8 : decode prog_12_method_10_code 8 = .ok (.iload_n 1, 1) := by decide +kernel
theorem d_Model_grow_9 : decode prog_12_method_10_code 9 = .ok (.iaload, 1) := by decide +kernel
theorem d_Model_grow_10 : decode prog_12_method_10_code 10 = .ok (.iadd, 1) := by decide +kernel
theorem d_Model_grow_11 : decode prog_12_method_10_code 11 = .ok (.istore 4, 2) := by decide +kernel
theorem d_Model_grow_13 : decode prog_12_method_10_code 13 = .ok (.aload_n 0, 1) := by decide +kernel
theorem d_Model_grow_14 : decode prog_12_method_10_code 14 = .ok (.getfield 45, 3) := by decide +kernel
theorem d_Model_grow_17 : decode prog_12_method_10_code 17 = .ok (.iload_n 1, 1) := by decide +kernel
theorem d_Model_grow_18 : decode prog_12_method_10_code 18 = .ok (.dup2, 1) := by decide +kernel
theorem d_Model_grow_19 : decode prog_12_method_10_code 19 = .ok (.iaload, 1) := by decide +kernel
theorem d_Model_grow_20 : decode prog_12_method_10_code 20 = .ok (.iconst 1, 1) := by decide +kernel
theorem d_Model_grow_21 : decode prog_12_method_10_code 21 = .ok (.iadd, 1) := by decide +kernel
theorem d_Model_grow_22 : decode prog_12_method_10_code 22 = .ok (.iastore, 1) := by decide +kernel
theorem d_Model_grow_23 : decode prog_12_method_10_code 23 = .ok (.aload_n 0, 1) := by decide +kernel
theorem d_Model_grow_24 : decode prog_12_method_10_code 24 = .ok (.getfield 48, 3) := by decide +kernel
theorem d_Model_grow_27 : decode prog_12_method_10_code 27 = .ok (.iload 4, 2) := by decide +kernel
theorem d_Model_grow_29 : decode prog_12_method_10_code 29 = .ok (.iload_n 2, 1) := by decide +kernel
theorem d_Model_grow_30 : decode prog_12_method_10_code 30 = .ok (.castore, 1) := by decide +kernel
theorem d_Model_grow_31 : decode prog_12_method_10_code 31 = .ok (.aload_n 0, 1) := by decide +kernel
theorem d_Model_grow_32 : decode prog_12_method_10_code 32 = .ok (.getfield 51, 3) := by decide +kernel
theorem d_Model_grow_35 : decode prog_12_method_10_code 35 = .ok (.iload 4, 2) := by decide +kernel
theorem d_Model_grow_37 : decode prog_12_method_10_code 37 = .ok (.iconst (-1), 1) := by decide +kernel
theorem d_Model_grow_38 : decode prog_12_method_10_code 38 = .ok (.iastore, 1) := by decide +kernel
theorem d_Model_grow_39 : decode prog_12_method_10_code 39 = .ok (.aload_n 0, 1) := by decide +kernel
theorem d_Model_grow_40 : decode prog_12_method_10_code 40 = .ok (.getfield 54, 3) := by decide +kernel
theorem d_Model_grow_43 : decode prog_12_method_10_code 43 = .ok (.iload 4, 2) := by decide +kernel
theorem d_Model_grow_45 : decode prog_12_method_10_code 45 = .ok (.iconst (-1), 1) := by decide +kernel
theorem d_Model_grow_46 : decode prog_12_method_10_code 46 = .ok (.iastore, 1) := by decide +kernel
theorem d_Model_grow_47 : decode prog_12_method_10_code 47 = .ok (.aload_n 0, 1) := by decide +kernel
theorem d_Model_grow_48 : decode prog_12_method_10_code 48 = .ok (.getfield 57, 3) := by decide +kernel
theorem d_Model_grow_51 : decode prog_12_method_10_code 51 = .ok (.iload 4, 2) := by decide +kernel
theorem d_Model_grow_53 : decode prog_12_method_10_code 53 = .ok (.iconst 0, 1) := by decide +kernel
theorem d_Model_grow_54 : decode prog_12_method_10_code 54 = .ok (.iastore, 1) := by decide +kernel
theorem d_Model_grow_55 : decode prog_12_method_10_code 55 = .ok (.aload_n 0, 1) := by decide +kernel
theorem d_Model_grow_56 : decode prog_12_method_10_code 56 = .ok (.getfield 60, 3) := by decide +kernel
theorem d_Model_grow_59 : decode prog_12_method_10_code 59 = .ok (.iload 4, 2) := by decide +kernel
theorem d_Model_grow_61 : decode prog_12_method_10_code 61 = .ok (.iload_n 3, 1) := by decide +kernel
theorem d_Model_grow_62 : decode prog_12_method_10_code 62 = .ok (.castore, 1) := by decide +kernel
theorem d_Model_grow_63 : decode prog_12_method_10_code 63 = .ok (.aload_n 0, 1) := by decide +kernel
theorem d_Model_grow_64 : decode prog_12_method_10_code 64 = .ok (.getfield 63, 3) := by decide +kernel
theorem d_Model_grow_67 : decode prog_12_method_10_code 67 = .ok (.iload 4, 2) := by decide +kernel
theorem d_Model_grow_69 : decode prog_12_method_10_code 69 = .ok (.iconst (-1), 1) := by decide +kernel
theorem d_Model_grow_70 : decode prog_12_method_10_code 70 = .ok (.iastore, 1) := by decide +kernel
theorem d_Model_grow_71 : decode prog_12_method_10_code 71 = .ok (.aload_n 0, 1) := by decide +kernel
theorem d_Model_grow_72 : decode prog_12_method_10_code 72 = .ok (.getfield 66, 3) := by decide +kernel
theorem d_Model_grow_75 : decode prog_12_method_10_code 75 = .ok (.iload 4, 2) := by decide +kernel
theorem d_Model_grow_77 : decode prog_12_method_10_code 77 = .ok (.iconst (-1), 1) := by decide +kernel
theorem d_Model_grow_78 : decode prog_12_method_10_code 78 = .ok (.iastore, 1) := by decide +kernel
theorem d_Model_grow_79 : decode prog_12_method_10_code 79 = .ok (.aload_n 0, 1) := by decide +kernel
theorem d_Model_grow_80 : decode prog_12_method_10_code 80 = .ok (.getfield 69, 3) := by decide +kernel
theorem d_Model_grow_83 : decode prog_12_method_10_code 83 = .ok (.iload 4, 2) := by decide +kernel
theorem d_Model_grow_85 : decode prog_12_method_10_code 85 = .ok (.iconst (-1), 1) := by decide +kernel
theorem d_Model_grow_86 : decode prog_12_method_10_code 86 = .ok (.iastore, 1) := by decide +kernel
theorem d_Model_grow_87 : decode prog_12_method_10_code 87 = .ok (.aload_n 0, 1) := by decide +kernel
theorem d_Model_grow_88 : decode prog_12_method_10_code 88 = .ok (.getfield 133, 3) := by decide +kernel
theorem d_Model_grow_91 : decode prog_12_method_10_code 91 = .ok (.ifCond .le 80, 3) := by decide +kernel
theorem d_Model_grow_94 : decode prog_12_method_10_code 94 = .ok (.aload_n 0, 1) := by decide +kernel
theorem d_Model_grow_95 : decode prog_12_method_10_code 95 = .ok (.getfield 76, 3) := by decide +kernel
theorem d_Model_grow_98 : decode prog_12_method_10_code 98 = .ok (.aload_n 0, 1) := by decide +kernel
theorem d_Model_grow_99 : decode prog_12_method_10_code 99 = .ok (.getfield 133, 3) := by decide +kernel
theorem d_Model_grow_102 : decode prog_12_method_10_code 102 = .ok (.iconst 1, 1) := by decide +kernel
theorem d_Model_grow_103 : decode prog_12_method_10_code 103 = .ok (.isub, 1) := by decide +kernel
theorem d_Model_grow_104 : decode prog_12_method_10_code 104 = .ok (.iaload, 1) := by decide +kernel
theorem d_Model_grow_105 : decode prog_12_method_10_code 105 = .ok (.istore 5, 2) := by decide +kernel
theorem d_Model_grow_107 : decode prog_12_method_10_code 107 = .ok (.aload_n 0, 1) := by decide +kernel
theorem d_Model_grow_108 : decode prog_12_method_10_code 108 = .ok (.getfield 57, 3) := by decide +kernel
theorem d_Model_grow_111 : decode prog_12_method_10_code 111 = .ok (.iload 5, 2) := by decide +kernel
theorem d_Model_grow_113 : decode prog_12_method_10_code 113 = .ok (.iaload, 1) := by decide +kernel
theorem d_Model_grow_114 : decode prog_12_method_10_code 114 = .ok (.ifCond .ne 15, 3) := by decide +kernel
theorem d_Model_grow_117 : decode prog_12_method_10_code 117 = .ok (.aload_n 0, 1) := by decide +kernel
theorem d_Model_grow_118 : decode prog_12_method_10_code 118 = .ok (.getfield 51, 3) := by decide +kernel
theorem d_Model_grow_121 : decode prog_12_method_10_code 121 = .ok (.iload 5, 2) := by decide +kernel
theorem d_Model_grow_123 : decode prog_12_method_10_code 123 = .ok (.iload 4, 2) := by decide +kernel
theorem d_Model_grow_125 : decode prog_12_method_10_code 125 = .ok (.iastore, 1) := by decide +kernel
theorem d_Model_grow_126 : decode prog_12_method_10_code 126 = .ok (.goto 21, 3) := by decide +kernel
theorem d_Model_grow_129 : decode prog_12_method_10_code 129 = .ok (.aload_n 0, 1) := by decide +kernel
theorem d_Model_grow_130 : decode prog_12_method_10_code 130 = .ok (.getfield 54, 3) := by decide +kernel
theorem d_Model_grow_133 : decode prog_12_method_10_code 133 = .ok (.aload_n 0, 1) := by decide +kernel
theorem d_Model_grow_134 : decode prog_12_method_10_code 134 = .ok (.getfield 79, 3) := by decide +kernel
theorem d_Model_grow_137 : decode prog_12_method_10_code 137 = .ok (.aload_n 0, 1) := by decide +kernel
theorem d_Model_grow_138 : decode prog_12_method_10_code 138 = .ok (.getfield 133, 3) := by decide +kernel
theorem d_Model_grow_141 : decode prog_12_method_10_code 141 = .ok (.iconst 1, 1) := by decide +kernel
theorem d_Model_grow_142 : decode prog_12_method_10_code 142 = .ok (.isub, 1) := by decide +kernel
theorem d_Model_grow_143 : decode prog_12_method_10_code 143 = .ok (.iaload, 1) := by decide +kernel
theorem d_Model_grow_144 : decode prog_12_method_10_code 144 = .ok (.iload 4, 2) := by decide +kernel
theorem d_Model_grow_146 : decode prog_12_method_10_code 146 = .ok (.iastore, 1) := by decide +kernel
theorem d_Model_grow_147 : decode prog_12_method_10_code 147 = .ok (.aload_n 0, 1) := by decide +kernel
theorem d_Model_grow_148 : decode prog_12_method_10_code 148 = .ok (.getfield 79, 3) := by decide +kernel
theorem d_Model_grow_151 : decode prog_12_method_10_code 151 = .ok (.aload_n 0, 1) := by decide +kernel
theorem d_Model_grow_152 : decode prog_12_method_10_code 152 = .ok (.getfield 133, 3) := by decide +kernel
theorem d_Model_grow_155 : decode prog_12_method_10_code 155 = .ok (.iconst 1, 1) := by decide +kernel
theorem d_Model_grow_156 : decode prog_12_method_10_code 156 = .ok (.isub, 1) := by decide +kernel
theorem d_Model_grow_157 : decode prog_12_method_10_code 157 = .ok (.iload 4, 2) := by decide +kernel
theorem d_Model_grow_159 : decode prog_12_method_10_code 159 = .ok (.iastore, 1) := by decide +kernel
theorem d_Model_grow_160 : decode prog_12_method_10_code 160 = .ok (.aload_n 0, 1) := by decide +kernel
theorem d_Model_grow_161 : decode prog_12_method_10_code 161 = .ok (.getfield 57, 3) := by decide +kernel
theorem d_Model_grow_164 : decode prog_12_method_10_code 164 = .ok (.iload 5, 2) := by decide +kernel
theorem d_Model_grow_166 : decode prog_12_method_10_code 166 = .ok (.dup2, 1) := by decide +kernel
theorem d_Model_grow_167 : decode prog_12_method_10_code 167 = .ok (.iaload, 1) := by decide +kernel
theorem d_Model_grow_168 : decode prog_12_method_10_code 168 = .ok (.iconst 1, 1) := by decide +kernel
theorem d_Model_grow_169 : decode prog_12_method_10_code 169 = .ok (.iadd, 1) := by decide +kernel
theorem d_Model_grow_170 : decode prog_12_method_10_code 170 = .ok (.iastore, 1) := by decide +kernel
theorem d_Model_grow_171 : decode prog_12_method_10_code 171 = .ok (.iload 4, 2) := by decide +kernel
theorem d_Model_grow_173 : decode prog_12_method_10_code 173 = .ok (.ireturn, 1) := by decide +kernel
def Model_grow_jn171 (call : ax_Cf)  (x4 : Int32) (h : ax_Hp) : ax_O :=
  ax_ri x4 h
set_option maxHeartbeats 4000000 in
set_option maxRecDepth 20000 in
theorem Model_grow_jq171 {l : Launch} {G : ax_G} {d : Nat} {call : ax_Cf} (hcall : ax_Hc l G d call) {p : Program} {e : Env} {s : State} {mi : MethodId} {args : Array Value} {below : List Frame} {meth : Method} {c : Code} {h0 : ax_Hp} (B : ax_B G p s mi meth c "SchemaDeskModel" prog_12_method_10_code 6 (some (.int))) (E : c.exceptionTable.isEmpty = true) (Nm : meth.name = y_Model_grow.name)   (x4 : Int32) (h : ax_Hp) : ax_W G p l e s mi args below meth c 6 (d + 1) h0 171 [(4, ax_I x4)] [] h (Model_grow_jn171 call  x4 h) := by
  unfold Model_grow_jn171
  refine ax_iload B 0 d_Model_grow_171 rfl ?_
  exact ax_ireturn B d_Model_grow_173
def Model_grow_jn147 (call : ax_Cf)  (x0 : Option Nat) (x4 : Int32) (x5 : Int32) (h : ax_Hp) : ax_O :=
  (ax_gr h x0 9 28).bind fun v33 =>
  (ax_gi h x0 9 26).bind fun v34 =>
  (ax_st h v33 1 (v34 - 1) (ax_I x4)).bind fun h35 =>
  (ax_gr h35 x0 9 20).bind fun v36 =>
  (ax_ldi h35 v36 1 x5).bind fun v37 =>
  (ax_st h35 v36 1 x5 (ax_I (v37 + 1))).bind fun h38 =>
  Model_grow_jn171 call x4 h38
set_option maxHeartbeats 4000000 in
set_option maxRecDepth 20000 in
theorem Model_grow_jq147 {l : Launch} {G : ax_G} {d : Nat} {call : ax_Cf} (hcall : ax_Hc l G d call) {p : Program} {e : Env} {s : State} {mi : MethodId} {args : Array Value} {below : List Frame} {meth : Method} {c : Code} {h0 : ax_Hp} (B : ax_B G p s mi meth c "SchemaDeskModel" prog_12_method_10_code 6 (some (.int))) (E : c.exceptionTable.isEmpty = true) (Nm : meth.name = y_Model_grow.name)   (x0 : Option Nat) (x4 : Int32) (x5 : Int32) (h : ax_Hp) : ax_W G p l e s mi args below meth c 6 (d + 1) h0 147 [(0, ax_A x0), (4, ax_I x4), (5, ax_I x5)] [] h (Model_grow_jn147 call  x0 x4 x5 h) := by
  unfold Model_grow_jn147
  refine ax_aload_n B 0 d_Model_grow_147 rfl rfl ?_
  refine ax_getfr B cl_Model (by decide) fk_Model_79 d_Model_grow_148 (fun v33 => ?_)
  refine ax_aload_n B 0 d_Model_grow_151 rfl rfl ?_
  refine ax_getfi B cl_Model (by decide) fk_Model_133 d_Model_grow_152 (fun v34 => ?_)
  refine ax_iconst (v := 1) B d_Model_grow_155 (by decide) ?_
  refine ax_isub B d_Model_grow_156 ?_
  refine ax_iload B 1 d_Model_grow_157 rfl ?_
  refine ax_iast (kd := 1) B (by decide) (by decide) rfl d_Model_grow_159 (fun h35 => ?_)
  refine ax_aload_n B 0 d_Model_grow_160 rfl rfl ?_
  refine ax_getfr B cl_Model (by decide) fk_Model_57 d_Model_grow_161 (fun v36 => ?_)
  refine ax_iload B 2 d_Model_grow_164 rfl ?_
  refine ax_dup2_11 B d_Model_grow_166 rfl rfl ?_
  refine ax_iald (kd := 1) B (by decide) rfl d_Model_grow_167 (fun v37 => ?_)
  refine ax_iconst (v := 1) B d_Model_grow_168 (by decide) ?_
  refine ax_iadd B d_Model_grow_169 ?_
  refine ax_iast (kd := 1) B (by decide) (by decide) rfl d_Model_grow_170 (fun h38 => ?_)
  refine ax_sub (tv2 := [(4, ax_I x4)]) [1] rfl ?_
  exact Model_grow_jq171 hcall B E Nm x4 h38
def Model_grow_b (call : ax_Cf) (x0 : Option Nat) (x1 : Int32) (x2 : Int32) (x3 : Int32) (h : ax_Hp) : ax_O :=
  (ax_gr h x0 9 16).bind fun v1 =>
  (ax_ldi h v1 1 x1).bind fun v2 =>
  (ax_gr h x0 9 16).bind fun v3 =>
  (ax_ldi h v3 1 x1).bind fun v4 =>
  (ax_st h v3 1 x1 (ax_I (v4 + 1))).bind fun h5 =>
  (ax_gr h5 x0 9 17).bind fun v6 =>
  (ax_stc h5 v6 3 ((120 * x1) + v2) x2).bind fun h7 =>
  (ax_gr h7 x0 9 18).bind fun v8 =>
  (ax_st h7 v8 1 ((120 * x1) + v2) (ax_I (-1))).bind fun h9 =>
  (ax_gr h9 x0 9 19).bind fun v10 =>
  (ax_st h9 v10 1 ((120 * x1) + v2) (ax_I (-1))).bind fun h11 =>
  (ax_gr h11 x0 9 20).bind fun v12 =>
  (ax_st h11 v12 1 ((120 * x1) + v2) (ax_I 0)).bind fun h13 =>
  (ax_gr h13 x0 9 21).bind fun v14 =>
  (ax_stc h13 v14 3 ((120 * x1) + v2) x3).bind fun h15 =>
  (ax_gr h15 x0 9 22).bind fun v16 =>
  (ax_st h15 v16 1 ((120 * x1) + v2) (ax_I (-1))).bind fun h17 =>
  (ax_gr h17 x0 9 23).bind fun v18 =>
  (ax_st h17 v18 1 ((120 * x1) + v2) (ax_I (-1))).bind fun h19 =>
  (ax_gr h19 x0 9 24).bind fun v20 =>
  (ax_st h19 v20 1 ((120 * x1) + v2) (ax_I (-1))).bind fun h21 =>
  (ax_gi h21 x0 9 26).bind fun v22 =>
  if v22 ≤ 0 then
    Model_grow_jn171 call ((120 * x1) + v2) h21
  else
    (ax_gr h21 x0 9 27).bind fun v23 =>
    (ax_gi h21 x0 9 26).bind fun v24 =>
    (ax_ldi h21 v23 1 (v24 - 1)).bind fun v25 =>
    (ax_gr h21 x0 9 20).bind fun v26 =>
    (ax_ldi h21 v26 1 v25).bind fun v27 =>
    if v27 = 0 then
      (ax_gr h21 x0 9 18).bind fun v39 =>
      (ax_st h21 v39 1 v25 (ax_I ((120 * x1) + v2))).bind fun h40 =>
      Model_grow_jn147 call x0 ((120 * x1) + v2) v25 h40
    else
      (ax_gr h21 x0 9 19).bind fun v28 =>
      (ax_gr h21 x0 9 28).bind fun v29 =>
      (ax_gi h21 x0 9 26).bind fun v30 =>
      (ax_ldi h21 v29 1 (v30 - 1)).bind fun v31 =>
      (ax_st h21 v28 1 v31 (ax_I ((120 * x1) + v2))).bind fun h32 =>
      Model_grow_jn147 call x0 ((120 * x1) + v2) v25 h32
set_option maxHeartbeats 4000000 in
set_option maxRecDepth 20000 in
theorem Model_grow_t {l : Launch} {G : ax_G} {d : Nat} {call : ax_Cf} (hcall : ax_Hc l G d call) (x0 : Option Nat) (x1 : Int32) (x2 : Int32) (x3 : Int32) (h : ax_Hp) {r : ax_Rs} {h' : ax_Hp} (ho : Model_grow_b call x0 x1 x2 x3 h = some (r, h')) : ax_C l G (d + 1) y_Model_grow (.code y_Model_grow prog_12_method_10_code 6 (some (.int))) [ax_A x0, ax_I x1, ax_I x2, ax_I x3] h r h' := by
  refine ax_enter (by decide) (Nat.le_of_ble_eq_true rfl) ho (fun p e s mi args below meth c B E Nm => ?_)
  have B : ax_B G p s mi meth c "SchemaDeskModel" prog_12_method_10_code 6 (some (.int)) := B
  show ax_W G p l e s mi args below meth c 6 (d + 1) h 0 [(0, ax_A x0), (1, ax_I x1), (2, ax_I x2), (3, ax_I x3)] [] h (Model_grow_b call x0 x1 x2 x3 h)
  unfold Model_grow_b
  refine ax_bipush (v := 120) B d_Model_grow_0 (by decide) ?_
  refine ax_iload_n B 1 d_Model_grow_2 rfl rfl ?_
  refine ax_imul B d_Model_grow_3 ?_
  refine ax_aload_n B 0 d_Model_grow_4 rfl rfl ?_
  refine ax_getfr B cl_Model (by decide) fk_Model_45 d_Model_grow_5 (fun v1 => ?_)
  refine ax_iload_n B 1 d_Model_grow_8 rfl rfl ?_
  refine ax_iald (kd := 1) B (by decide) rfl d_Model_grow_9 (fun v2 => ?_)
  refine ax_iadd B d_Model_grow_10 ?_
  refine ax_istore (tv2 := [(4, ax_I ((120 * x1) + v2)), (0, ax_A x0), (1, ax_I x1), (2, ax_I x2), (3, ax_I x3)]) B d_Model_grow_11 (by decide) rfl ?_
  refine ax_aload_n B 1 d_Model_grow_13 rfl rfl ?_
  refine ax_getfr B cl_Model (by decide) fk_Model_45 d_Model_grow_14 (fun v3 => ?_)
  refine ax_iload_n B 2 d_Model_grow_17 rfl rfl ?_
  refine ax_dup2_11 B d_Model_grow_18 rfl rfl ?_
  refine ax_iald (kd := 1) B (by decide) rfl d_Model_grow_19 (fun v4 => ?_)
  refine ax_iconst (v := 1) B d_Model_grow_20 (by decide) ?_
  refine ax_iadd B d_Model_grow_21 ?_
  refine ax_iast (kd := 1) B (by decide) (by decide) rfl d_Model_grow_22 (fun h5 => ?_)
  refine ax_aload_n B 1 d_Model_grow_23 rfl rfl ?_
  refine ax_getfr B cl_Model (by decide) fk_Model_48 d_Model_grow_24 (fun v6 => ?_)
  refine ax_iload B 0 d_Model_grow_27 rfl ?_
  refine ax_iload_n B 3 d_Model_grow_29 rfl rfl ?_
  refine ax_cast (kd := 3) B (by decide) (by decide) rfl d_Model_grow_30 (fun h7 => ?_)
  refine ax_aload_n B 1 d_Model_grow_31 rfl rfl ?_
  refine ax_getfr B cl_Model (by decide) fk_Model_51 d_Model_grow_32 (fun v8 => ?_)
  refine ax_iload B 0 d_Model_grow_35 rfl ?_
  refine ax_iconst (v := (-1)) B d_Model_grow_37 (by decide) ?_
  refine ax_iast (kd := 1) B (by decide) (by decide) rfl d_Model_grow_38 (fun h9 => ?_)
  refine ax_aload_n B 1 d_Model_grow_39 rfl rfl ?_
  refine ax_getfr B cl_Model (by decide) fk_Model_54 d_Model_grow_40 (fun v10 => ?_)
  refine ax_iload B 0 d_Model_grow_43 rfl ?_
  refine ax_iconst (v := (-1)) B d_Model_grow_45 (by decide) ?_
  refine ax_iast (kd := 1) B (by decide) (by decide) rfl d_Model_grow_46 (fun h11 => ?_)
  refine ax_aload_n B 1 d_Model_grow_47 rfl rfl ?_
  refine ax_getfr B cl_Model (by decide) fk_Model_57 d_Model_grow_48 (fun v12 => ?_)
  refine ax_iload B 0 d_Model_grow_51 rfl ?_
  refine ax_iconst (v := 0) B d_Model_grow_53 (by decide) ?_
  refine ax_iast (kd := 1) B (by decide) (by decide) rfl d_Model_grow_54 (fun h13 => ?_)
  refine ax_aload_n B 1 d_Model_grow_55 rfl rfl ?_
  refine ax_getfr B cl_Model (by decide) fk_Model_60 d_Model_grow_56 (fun v14 => ?_)
  refine ax_iload B 0 d_Model_grow_59 rfl ?_
  refine ax_iload_n B 4 d_Model_grow_61 rfl rfl ?_
  refine ax_cast (kd := 3) B (by decide) (by decide) rfl d_Model_grow_62 (fun h15 => ?_)
  refine ax_aload_n B 1 d_Model_grow_63 rfl rfl ?_
  refine ax_getfr B cl_Model (by decide) fk_Model_63 d_Model_grow_64 (fun v16 => ?_)
  refine ax_iload B 0 d_Model_grow_67 rfl ?_
  refine ax_iconst (v := (-1)) B d_Model_grow_69 (by decide) ?_
  refine ax_iast (kd := 1) B (by decide) (by decide) rfl d_Model_grow_70 (fun h17 => ?_)
  refine ax_aload_n B 1 d_Model_grow_71 rfl rfl ?_
  refine ax_getfr B cl_Model (by decide) fk_Model_66 d_Model_grow_72 (fun v18 => ?_)
  refine ax_iload B 0 d_Model_grow_75 rfl ?_
  refine ax_iconst (v := (-1)) B d_Model_grow_77 (by decide) ?_
  refine ax_iast (kd := 1) B (by decide) (by decide) rfl d_Model_grow_78 (fun h19 => ?_)
  refine ax_aload_n B 1 d_Model_grow_79 rfl rfl ?_
  refine ax_getfr B cl_Model (by decide) fk_Model_69 d_Model_grow_80 (fun v20 => ?_)
  refine ax_iload B 0 d_Model_grow_83 rfl ?_
  refine ax_iconst (v := (-1)) B d_Model_grow_85 (by decide) ?_
  refine ax_iast (kd := 1) B (by decide) (by decide) rfl d_Model_grow_86 (fun h21 => ?_)
  refine ax_aload_n B 1 d_Model_grow_87 rfl rfl ?_
  refine ax_getfi B cl_Model (by decide) fk_Model_133 d_Model_grow_88 (fun v22 => ?_)
  refine ax_if_le B 171 d_Model_grow_91 (by decide) ?_ ?_
  · refine ax_sub (tv2 := [(4, ax_I ((120 * x1) + v2))]) [0] rfl ?_
    exact Model_grow_jq171 hcall B E Nm ((120 * x1) + v2) h21
  · refine ax_aload_n B 1 d_Model_grow_94 rfl rfl ?_
    refine ax_getfr B cl_Model (by decide) fk_Model_76 d_Model_grow_95 (fun v23 => ?_)
    refine ax_aload_n B 1 d_Model_grow_98 rfl rfl ?_
    refine ax_getfi B cl_Model (by decide) fk_Model_133 d_Model_grow_99 (fun v24 => ?_)
    refine ax_iconst (v := 1) B d_Model_grow_102 (by decide) ?_
    refine ax_isub B d_Model_grow_103 ?_
    refine ax_iald (kd := 1) B (by decide) rfl d_Model_grow_104 (fun v25 => ?_)
    refine ax_istore (tv2 := [(5, ax_I v25), (4, ax_I ((120 * x1) + v2)), (0, ax_A x0), (1, ax_I x1), (2, ax_I x2), (3, ax_I x3)]) B d_Model_grow_105 (by decide) rfl ?_
    refine ax_aload_n B 2 d_Model_grow_107 rfl rfl ?_
    refine ax_getfr B cl_Model (by decide) fk_Model_57 d_Model_grow_108 (fun v26 => ?_)
    refine ax_iload B 0 d_Model_grow_111 rfl ?_
    refine ax_iald (kd := 1) B (by decide) rfl d_Model_grow_113 (fun v27 => ?_)
    refine ax_if_ne B 129 d_Model_grow_114 (by decide) ?_ ?_
    · refine ax_aload_n B 2 d_Model_grow_129 rfl rfl ?_
      refine ax_getfr B cl_Model (by decide) fk_Model_54 d_Model_grow_130 (fun v28 => ?_)
      refine ax_aload_n B 2 d_Model_grow_133 rfl rfl ?_
      refine ax_getfr B cl_Model (by decide) fk_Model_79 d_Model_grow_134 (fun v29 => ?_)
      refine ax_aload_n B 2 d_Model_grow_137 rfl rfl ?_
      refine ax_getfi B cl_Model (by decide) fk_Model_133 d_Model_grow_138 (fun v30 => ?_)
      refine ax_iconst (v := 1) B d_Model_grow_141 (by decide) ?_
      refine ax_isub B d_Model_grow_142 ?_
      refine ax_iald (kd := 1) B (by decide) rfl d_Model_grow_143 (fun v31 => ?_)
      refine ax_iload B 1 d_Model_grow_144 rfl ?_
      refine ax_iast (kd := 1) B (by decide) (by decide) rfl d_Model_grow_146 (fun h32 => ?_)
      refine ax_sub (tv2 := [(0, ax_A x0), (4, ax_I ((120 * x1) + v2)), (5, ax_I v25)]) [2, 1, 0] rfl ?_
      exact Model_grow_jq147 hcall B E Nm x0 ((120 * x1) + v2) v25 h32
    · refine ax_aload_n B 2 d_Model_grow_117 rfl rfl ?_
      refine ax_getfr B cl_Model (by decide) fk_Model_51 d_Model_grow_118 (fun v39 => ?_)
      refine ax_iload B 0 d_Model_grow_121 rfl ?_
      refine ax_iload B 1 d_Model_grow_123 rfl ?_
      refine ax_iast (kd := 1) B (by decide) (by decide) rfl d_Model_grow_125 (fun h40 => ?_)
      refine ax_goto B 147 d_Model_grow_126 (by decide) ?_
      refine ax_sub (tv2 := [(0, ax_A x0), (4, ax_I ((120 * x1) + v2)), (5, ax_I v25)]) [2, 1, 0] rfl ?_
      exact Model_grow_jq147 hcall B E Nm x0 ((120 * x1) + v2) v25 h40

theorem d_Model_readSymbols_0 : decode prog_12_method_13_code 0 = .ok (.iload_n 3, 1) := by decide +kernel
theorem d_Model_readSymbols_1 : decode prog_12_method_13_code 1 = .ok (.istore 4, 2) := by decide +kernel
theorem d_Model_readSymbols_3 : decode prog_12_method_13_code 3 = .ok (.aload_n 0, 1) := by decide +kernel
theorem d_Model_readSymbols_4 : decode prog_12_method_13_code 4 = .ok (.iload_n 1, 1) := by decide +kernel
theorem d_Model_readSymbols_5 : decode prog_12_method_13_code 5 = .ok (.iload 4, 2) := by decide +kernel
theorem d_Model_readSymbols_7 : decode prog_12_method_13_code 7 = .ok (.invokevirtual 136, 3) := by decide +kernel
theorem d_Model_readSymbols_10 : decode prog_12_method_13_code 10 = .ok (.bipush 40, 2) := by decide +kernel
theorem d_Model_readSymbols_12 : decode prog_12_method_13_code 12 = .ok (.if_icmp .eq 8, 3) := by decide +kernel
theorem d_Model_readSymbols_15 : decode prog_12_method_13_code 15 = .ok (.iconst (-1), 1) := by decide +kernel
theorem d_Model_readSymbols_16 : decode prog_12_method_13_code 16 = .ok (.iload 4, 2) := by decide +kernel
theorem d_Model_readSymbols_18 : decode prog_12_method_13_code 18 = .ok (.isub, 1) := by decide +kernel
theorem d_Model_readSymbols_19 : decode prog_12_method_13_code 19 = .ok (.ireturn, 1) := by decide +kernel
theorem d_Model_readSymbols_20 : decode prog_12_method_13_code 20 = .ok (.iinc 4 1, 3) := by decide +kernel
theorem d_Model_readSymbols_23 : decode prog_12_method_13_code 23 = .ok (.aload_n 0, 1) := by decide +kernel
theorem d_Model_readSymbols_24 : decode prog_12_method_13_code 24 = .ok (.getfield 63, 3) := by decide +kernel
theorem d_Model_readSymbols_27 : decode prog_12_method_13_code 27 = .ok (.iload_n 2, 1) := by decide +kernel
theorem d_Model_readSymbols_28 : decode prog_12_method_13_code 28 = .ok (.iload 4, 2) := by decide +kernel
theorem d_Model_readSymbols_30 : decode prog_12_method_13_code 30 = .ok (.iastore, 1) := by decide +kernel
theorem d_Model_readSymbols_31 : decode prog_12_method_13_code 31 = .ok (.aload_n 0, 1) := by decide +kernel
theorem d_Model_readSymbols_32 : decode prog_12_method_13_code 32 = .ok (.iload_n 1, 1) := by decide +kernel
theorem d_Model_readSymbols_33 : decode prog_12_method_13_code 33 = .ok (.iload 4, 2) := by decide +kernel
theorem d_Model_readSymbols_35 : decode prog_12_method_13_code 35 = .ok (.invokevirtual 136, 3) := by decide +kernel
theorem d_Model_readSymbols_38 : decode prog_12_method_13_code 38 = .ok (.invokestatic 140, 3) := by decide +kernel
theorem d_Model_readSymbols_41 : decode prog_12_method_13_code 41 = .ok (.ifCond .eq 46, 3) := by decide +kernel
theorem d_Model_readSymbols_44 : decode prog_12_method_13_code 44 = .ok (.aload_n 0, 1) := by decide +kernel
theorem d_Model_readSymbols_45 : decode prog_12_method_13_code 45 = .ok (.getfield 57, 3) := by decide +kernel
theorem d_Model_readSymbols_48 : decode prog_12_method_13_code 48 = .ok (.iload_n 2, 1) := by decide +kernel
theorem d_Model_readSymbols_49 : decode prog_12_method_13_code 49 = .ok (.iaload, 1) := by decide +kernel
theorem d_Model_readSymbols_50 : decode prog_12_method_13_code 50 = .ok (.bipush 8, 2) := by decide +kernel
theorem d_Model_readSymbols_52 : decode prog_12_method_13_code 52 = .ok (.if_icmp .ge 35, 3) := by decide +kernel
theorem d_Model_readSymbols_55 : decode prog_12_method_13_code 55 = .ok (.aload_n 0, 1) := by decide +kernel
theorem d_Model_readSymbols_56 : decode prog_12_method_13_code 56 = .ok (.iload_n 1, 1) := by decide +kernel
theorem d_Model_readSymbols_57 : decode prog_12_method_13_code 57 = .ok (.iload_n 2, 1) := by decide +kernel
theorem d_Model_readSymbols_58 : decode prog_12_method_13_code 58 = .ok (.aload_n 0, 1) := by decide +kernel
theorem d_Model_readSymbols_59 : decode prog_12_method_13_code 59 = .ok (.iload_n 1, 1) := by decide +kernel
theorem d_Model_readSymbols_60 : decode prog_12_method_13_code 60 = .ok (.iload 4, 2) := by decide +kernel
theorem d_Model_readSymbols_62 : decode prog_12_method_13_code 62 = .ok (.invokevirtual 136, 3) := by decide +kernel
theorem d_Model_readSymbols_65 : decode prog_12_method_13_code 65 = .ok (.invokevirtual 144, 3) := by decide +kernel
theorem d_Model_readSymbols_68 : decode prog_12_method_13_code 68 = .ok (.ifCond .ge 19, 3) := by decide +kernel
theorem d_Model_readSymbols_71 : decode prog_12_method_13_code 71 = .ok (.aload_n 0, 1) := by decide +kernel
theorem d_Model_readSymbols_72 : decode prog_12_method_13_code 72 = .ok (.getfield 57, 3) := by decide +kernel
theorem d_Model_readSymbols_75 : decode prog_12_method_13_code 75 = .ok (.iload_n 2, 1) := by decide +kernel
theorem d_Model_readSymbols_76 : decode prog_12_method_13_code 76 = .ok (.dup2, 1) := by decide +kernel
theorem d_Model_readSymbols_77 : decode prog_12_method_13_code 77 = .ok (.iaload, 1) := by decide +kernel
theorem d_Model_readSymbols_78 : decode prog_12_method_13_code 78 = .ok (.iconst 1, 1) := by decide +kernel
theorem d_Model_readSymbols_79 : decode prog_12_method_13_code 79 = .ok (.iadd, 1) := by decide +kernel
theorem d_Model_readSymbols_80 : decode prog_12_method_13_code 80 = .ok (.iastore, 1) := by decide +kernel
theorem d_Model_readSymbols_81 : decode prog_12_method_13_code 81 = .ok (.iinc 4 1, 3) := by decide +kernel
theorem d_Model_readSymbols_84 : decode prog_12_method_13_code 84 = .ok (.goto (-53), 3) := by decide +kernel
theorem d_Model_readSymbols_87 : decode prog_12_method_13_code 87 = .ok (.aload_n 0, 1) := by decide +kernel
theorem d_Model_readSymbols_88 : decode prog_12_method_13_code 88 = .ok (.getfield 57, 3) := by decide +kernel
theorem d_Model_readSymbols_91 : decode prog_12_method_13_code 91 = .ok (.iload_n 2, 1) := by decide +kernel
theorem d_Model_readSymbols_92 : decode prog_12_method_13_code 92 = .ok (.iaload, 1) := by decide +kernel
theorem d_Model_readSymbols_93 : decode prog_12_method_13_code 93 = .ok (.ifCond .ne 8, 3) := by decide +kernel
theorem d_Model_readSymbols_96 : decode prog_12_method_13_code 96 = .ok (.iconst (-1), 1) := by decide +kernel
theorem d_Model_readSymbols_97 : decode prog_12_method_13_code 97 = .ok (.iload 4, 2) := by decide +kernel
theorem d_Model_readSymbols_99 : decode prog_12_method_13_code 99 = .ok (.isub, 1) := by decide +kernel
theorem d_Model_readSymbols_100 : decode prog_12_method_13_code 100 = .ok (.ireturn, 1) := by decide +kernel
theorem d_Model_readSymbols_101 : decode prog_12_method_13_code 101 = .ok (.aload_n 0, 1) := by decide +kernel
theorem d_Model_readSymbols_102 : decode prog_12_method_13_code 102 = .ok (.iload_n 1, 1) := by decide +kernel
theorem d_Model_readSymbols_103 : decode prog_12_method_13_code 103 = .ok (.iload 4, 2) := by decide +kernel
theorem d_Model_readSymbols_105 : decode prog_12_method_13_code 105 = .ok (.invokevirtual 136, 3) := by decide +kernel
theorem d_Model_readSymbols_108 : decode prog_12_method_13_code 108 = .ok (.bipush 61, 2) := by decide +kernel
theorem d_Model_readSymbols_110 : decode prog_12_method_13_code 110 = .ok (.if_icmp .ne 77, 3) := by decide +kernel
theorem d_Model_readSymbols_113 : decode prog_12_method_13_code 113 = .ok (.aload_n 0, 1) := by decide +kernel
theorem d_Model_readSymbols_114 : decode prog_12_method_13_code 114 = .ok (.getfield 72, 3) := by decide +kernel
theorem d_Model_readSymbols_117 : decode prog_12_method_13_code 117 = .ok (.sipush 160, 3) := by decide +kernel
theorem d_Model_readSymbols_120 : decode prog_12_method_13_code 120 = .ok (.iload_n 1, 1) := by decide +kernel
theorem d_Model_readSymbols_121 : decode prog_12_method_13_code 121 = .ok (.imul, 1) := by decide +kernel
theorem d_Model_readSymbols_122 : decode prog_12_method_13_code 122 = .ok (.iload 4, 2) := by decide +kernel
theorem d_Model_readSymbols_124 : decode prog_12_method_13_code 124 = .ok (.iadd, 1) := by decide +kernel
theorem d_Model_readSymbols_125 : decode prog_12_method_13_code 125 = .ok (.iconst 1, 1) := by decide +kernel
theorem d_Model_readSymbols_126 : decode prog_12_method_13_code 126 = .ok (.bastore, 1) := by decide +kernel
theorem d_Model_readSymbols_127 : decode prog_12_method_13_code 127 = .ok (.iinc 4 1, 3) := by decide +kernel
theorem d_Model_readSymbols_130 : decode prog_12_method_13_code 130 = .ok (.aload_n 0, 1) := by decide +kernel
theorem d_Model_readSymbols_131 : decode prog_12_method_13_code 131 = .ok (.iload_n 1, 1) := by decide +kernel
theorem d_Model_readSymbols_132 : decode prog_12_method_13_code 132 = .ok (.iload_n 2, 1) := by decide +kernel
theorem d_Model_readSymbols_133 : decode prog_12_method_13_code 133 = .ok (.aload_n 0, 1) := by decide +kernel
theorem d_Model_readSymbols_134 : decode prog_12_method_13_code 134 = .ok (.iload_n 1, 1) := by decide +kernel
theorem d_Model_readSymbols_135 : decode prog_12_method_13_code 135 = .ok (.iload 4, 2) := by decide +kernel
theorem d_Model_readSymbols_137 : decode prog_12_method_13_code 137 = .ok (.invokevirtual 136, 3) := by decide +kernel
theorem d_Model_readSymbols_140 : decode prog_12_method_13_code 140 = .ok (.invokevirtual 144, 3) := by decide +kernel
theorem d_Model_readSymbols_143 : decode prog_12_method_13_code 143 = .ok (.ifCond .ge 8, 3) := by decide +kernel
theorem d_Model_readSymbols_146 : decode prog_12_method_13_code 146 = .ok (.iconst (-1), 1) := by decide +kernel
theorem d_Model_readSymbols_147 : decode prog_12_method_13_code 147 = .ok (.iload 4, 2) := by decide +kernel
theorem d_Model_readSymbols_149 : decode prog_12_method_13_code 149 = .ok (.isub, 1) := by decide +kernel
theorem d_Model_readSymbols_150 : decode prog_12_method_13_code 150 = .ok (.ireturn, 1) := by decide +kernel
theorem d_Model_readSymbols_151 : decode prog_12_method_13_code 151 = .ok (.aload_n 0, 1) := by decide +kernel
theorem d_Model_readSymbols_152 : decode prog_12_method_13_code 152 = .ok (.getfield 72, 3) := by decide +kernel
theorem d_Model_readSymbols_155 : decode prog_12_method_13_code 155 = .ok (.sipush 160, 3) := by decide +kernel
theorem d_Model_readSymbols_158 : decode prog_12_method_13_code 158 = .ok (.iload_n 1, 1) := by decide +kernel
theorem d_Model_readSymbols_159 : decode prog_12_method_13_code 159 = .ok (.imul, 1) := by decide +kernel
theorem d_Model_readSymbols_160 : decode prog_12_method_13_code 160 = .ok (.iload 4, 2) := by decide +kernel
theorem d_Model_readSymbols_162 : decode prog_12_method_13_code 162 = .ok (.iadd, 1) := by decide +kernel
theorem d_Model_readSymbols_163 : decode prog_12_method_13_code 163 = .ok (.iconst 1, 1) := by decide +kernel
theorem d_Model_readSymbols_164 : decode prog_12_method_13_code 164 = .ok (.bastore, 1) := by decide +kernel
theorem d_Model_readSymbols_165 : decode prog_12_method_13_code 165 = .ok (.aload_n 0, 1) := by decide +kernel
theorem d_Model_readSymbols_166 : decode prog_12_method_13_code 166 = .ok (.getfield 66, 3) := by decide +kernel
theorem d_Model_readSymbols_169 : decode prog_12_method_13_code 169 = .ok (.iload_n 2, 1) := by decide +kernel
theorem d_Model_readSymbols_170 : decode prog_12_method_13_code 170 = .ok (.aload_n 0, 1) := by decide +kernel
theorem d_Model_readSymbols_171 : decode prog_12_method_13_code 171 = .ok (.iload_n 1, 1) := by decide +kernel
theorem d_Model_readSymbols_172 : decode prog_12_method_13_code 172 = .ok (.iload_n 2, 1) := by decide +kernel
theorem d_Model_readSymbols_173 : decode prog_12_method_13_code 173 = .ok (.aload_n 0, 1) := by decide +kernel
theorem d_Model_readSymbols_174 : decode prog_12_method_13_code 174 = .ok (.iload_n 1, 1) := by decide +kernel
theorem d_Model_readSymbols_175 : decode prog_12_method_13_code 175 = .ok (.iload 4, 2) := by decide +kernel
theorem d_Model_readSymbols_177 : decode prog_12_method_13_code 177 = .ok (.invokevirtual 136, 3) := by decide +kernel
theorem d_Model_readSymbols_180 : decode prog_12_method_13_code 180 = .ok (.invokevirtual 144, 3) := by decide +kernel
theorem d_Model_readSymbols_183 : decode prog_12_method_13_code 183 = .ok (.iastore, 1) := by decide +kernel
theorem d_Model_readSymbols_184 : decode prog_12_method_13_code 184 = .ok (.iinc 4 1, 3) := by decide +kernel
theorem d_Model_readSymbols_187 : decode prog_12_method_13_code 187 = .ok (.aload_n 0, 1) := by decide +kernel
theorem d_Model_readSymbols_188 : decode prog_12_method_13_code 188 = .ok (.iload_n 1, 1) := by decide +kernel
theorem d_Model_readSymbols_189 : decode prog_12_method_13_code 189 = .ok (.iload 4, 2) := by decide +kernel
theorem d_Model_readSymbols_191 : decode prog_12_method_13_code 191 = .ok (.invokevirtual 136, 3) := by decide +kernel
theorem d_Model_readSymbols_194 : decode prog_12_method_13_code 194 = .ok (.bipush 41, 2) := by decide +kernel
theorem d_Model_readSymbols_196 : decode prog_12_method_13_code 196 = .ok (.if_icmp .ne 10, 3) := by decide +kernel
theorem d_Model_readSymbols_199 : decode prog_12_method_13_code 199 = .ok (.iload 4, 2) := by decide +kernel
theorem d_Model_readSymbols_201 : decode prog_12_method_13_code 201 = .ok (.iconst 1, 1) := by decide +kernel
theorem d_Model_readSymbols_202 : decode prog_12_method_13_code 202 = .ok (.iadd, 1) := by decide +kernel
theorem d_Model_readSymbols_203 : decode prog_12_method_13_code 203 = .ok (.goto 7, 3) := by decide +kernel
theorem d_Model_readSymbols_206 : decode prog_12_method_13_code 206 = .ok (.iconst (-1), 1) := by decide +kernel
theorem d_Model_readSymbols_207 : decode prog_12_method_13_code 207 = .ok (.iload 4, 2) := by decide +kernel
theorem d_Model_readSymbols_209 : decode prog_12_method_13_code 209 = .ok (.isub, 1) := by decide +kernel
theorem d_Model_readSymbols_210 : decode prog_12_method_13_code 210 = .ok (.ireturn, 1) := by decide +kernel
def Model_readSymbols_jn187 (call : ax_Cf)  (x0 : Option Nat) (x1 : Int32) (x4 : Int32) (h : ax_Hp) : ax_O :=
  ax_on h x0 9 <| ax_ci (call 155 [ax_A x0, ax_I x1, ax_I x4] h) fun v14 h13 =>
  if v14 = 41 then
    ax_ri (x4 + 1) h13
  else
    ax_ri ((-1) - x4) h13
set_option maxHeartbeats 4000000 in
set_option maxRecDepth 20000 in
theorem Model_readSymbols_jq187 {l : Launch} {G : ax_G} {d : Nat} {call : ax_Cf} (hcall : ax_Hc l G d call) {p : Program} {e : Env} {s : State} {mi : MethodId} {args : Array Value} {below : List Frame} {meth : Method} {c : Code} {h0 : ax_Hp} (B : ax_B G p s mi meth c "SchemaDeskModel" prog_12_method_13_code 5 (some (.int))) (E : c.exceptionTable.isEmpty = true) (Nm : meth.name = y_Model_readSymbols.name)   (x0 : Option Nat) (x1 : Int32) (x4 : Int32) (h : ax_Hp) : ax_W G p l e s mi args below meth c 5 (d + 1) h0 187 [(0, ax_A x0), (1, ax_I x1), (4, ax_I x4)] [] h (Model_readSymbols_jn187 call  x0 x1 x4 h) := by
  unfold Model_readSymbols_jn187
  refine ax_aload_n B 0 d_Model_readSymbols_187 rfl rfl ?_
  refine ax_iload_n B 1 d_Model_readSymbols_188 rfl rfl ?_
  refine ax_iload B 2 d_Model_readSymbols_189 rfl ?_
  refine ax_callVi (av := [ax_I x1, ax_I x4]) (rest := []) B E hm_Model_look cl_Model rfl wd_1096 wp_41 lk_Model_136 d_Model_readSymbols_191 rfl (Nat.le_of_ble_eq_true rfl) (fun _ _ hh => hcall 155 _ _ _ _ hh) (fun v14 h13 => ?_)
  refine ax_bipush (v := 41) B d_Model_readSymbols_194 (by decide) ?_
  refine ax_icmp_ne B 206 d_Model_readSymbols_196 (by decide) ?_ ?_
  · refine ax_iconst (v := (-1)) B d_Model_readSymbols_206 (by decide) ?_
    refine ax_iload B 2 d_Model_readSymbols_207 rfl ?_
    refine ax_isub B d_Model_readSymbols_209 ?_
    exact ax_ireturn B d_Model_readSymbols_210
  · refine ax_iload B 2 d_Model_readSymbols_199 rfl ?_
    refine ax_iconst (v := 1) B d_Model_readSymbols_201 (by decide) ?_
    refine ax_iadd B d_Model_readSymbols_202 ?_
    refine ax_goto B 210 d_Model_readSymbols_203 (by decide) ?_
    exact ax_ireturn B d_Model_readSymbols_210
def Model_readSymbols_jn87 (call : ax_Cf)  (x0 : Option Nat) (x1 : Int32) (x2 : Int32) (x4 : Int32) (h : ax_Hp) : ax_O :=
  (ax_gr h x0 9 20).bind fun v9 =>
  (ax_ldi h v9 1 x2).bind fun v10 =>
  if v10 = 0 then
    ax_ri ((-1) - x4) h
  else
    ax_on h x0 9 <| ax_ci (call 155 [ax_A x0, ax_I x1, ax_I x4] h) fun v12 h11 =>
    if v12 = 61 then
      (ax_gr h11 x0 9 25).bind fun v15 =>
      (ax_stz h11 v15 4 ((160 * x1) + x4) 1).bind fun h16 =>
      ax_on h16 x0 9 <| ax_ci (call 155 [ax_A x0, ax_I x1, ax_I (x4 + 1)] h16) fun v18 h17 =>
      ax_on h17 x0 9 <| ax_ci (call 163 [ax_A x0, ax_I x1, ax_I x2, ax_I v18] h17) fun v20 h19 =>
      if 0 ≤ v20 then
        (ax_gr h19 x0 9 25).bind fun v21 =>
        (ax_stz h19 v21 4 ((160 * x1) + (x4 + 1)) 1).bind fun h22 =>
        (ax_gr h22 x0 9 23).bind fun v23 =>
        ax_on h22 x0 9 <| ax_ci (call 155 [ax_A x0, ax_I x1, ax_I (x4 + 1)] h22) fun v25 h24 =>
        ax_on h24 x0 9 <| ax_ci (call 163 [ax_A x0, ax_I x1, ax_I x2, ax_I v25] h24) fun v27 h26 =>
        (ax_st h26 v23 1 x2 (ax_I v27)).bind fun h28 =>
        Model_readSymbols_jn187 call x0 x1 ((x4 + 1) + 1) h28
      else
        ax_ri ((-1) - (x4 + 1)) h19
    else
      Model_readSymbols_jn187 call x0 x1 x4 h11
set_option maxHeartbeats 4000000 in
set_option maxRecDepth 20000 in
theorem Model_readSymbols_jq87 {l : Launch} {G : ax_G} {d : Nat} {call : ax_Cf} (hcall : ax_Hc l G d call) {p : Program} {e : Env} {s : State} {mi : MethodId} {args : Array Value} {below : List Frame} {meth : Method} {c : Code} {h0 : ax_Hp} (B : ax_B G p s mi meth c "SchemaDeskModel" prog_12_method_13_code 5 (some (.int))) (E : c.exceptionTable.isEmpty = true) (Nm : meth.name = y_Model_readSymbols.name)   (x0 : Option Nat) (x1 : Int32) (x2 : Int32) (x4 : Int32) (h : ax_Hp) : ax_W G p l e s mi args below meth c 5 (d + 1) h0 87 [(0, ax_A x0), (1, ax_I x1), (2, ax_I x2), (4, ax_I x4)] [] h (Model_readSymbols_jn87 call  x0 x1 x2 x4 h) := by
  unfold Model_readSymbols_jn87
  refine ax_aload_n B 0 d_Model_readSymbols_87 rfl rfl ?_
  refine ax_getfr B cl_Model (by decide) fk_Model_57 d_Model_readSymbols_88 (fun v9 => ?_)
  refine ax_iload_n B 2 d_Model_readSymbols_91 rfl rfl ?_
  refine ax_iald (kd := 1) B (by decide) rfl d_Model_readSymbols_92 (fun v10 => ?_)
  refine ax_if_ne B 101 d_Model_readSymbols_93 (by decide) ?_ ?_
  · refine ax_aload_n B 0 d_Model_readSymbols_101 rfl rfl ?_
    refine ax_iload_n B 1 d_Model_readSymbols_102 rfl rfl ?_
    refine ax_iload B 3 d_Model_readSymbols_103 rfl ?_
    refine ax_callVi (av := [ax_I x1, ax_I x4]) (rest := []) B E hm_Model_look cl_Model rfl wd_1096 wp_41 lk_Model_136 d_Model_readSymbols_105 rfl (Nat.le_of_ble_eq_true rfl) (fun _ _ hh => hcall 155 _ _ _ _ hh) (fun v12 h11 => ?_)
    refine ax_bipush (v := 61) B d_Model_readSymbols_108 (by decide) ?_
    refine ax_icmp_ne B 187 d_Model_readSymbols_110 (by decide) ?_ ?_
    · refine ax_sub (tv2 := [(0, ax_A x0), (1, ax_I x1), (4, ax_I x4)]) [0, 1, 3] rfl ?_
      exact Model_readSymbols_jq187 hcall B E Nm x0 x1 x4 h11
    · refine ax_aload_n B 0 d_Model_readSymbols_113 rfl rfl ?_
      refine ax_getfr B cl_Model (by decide) fk_Model_72 d_Model_readSymbols_114 (fun v15 => ?_)
      refine ax_sipush (v := 160) B d_Model_readSymbols_117 (by decide) ?_
      refine ax_iload_n B 1 d_Model_readSymbols_120 rfl rfl ?_
      refine ax_imul B d_Model_readSymbols_121 ?_
      refine ax_iload B 3 d_Model_readSymbols_122 rfl ?_
      refine ax_iadd B d_Model_readSymbols_124 ?_
      refine ax_iconst (v := 1) B d_Model_readSymbols_125 (by decide) ?_
      refine ax_zast (kd := 4) B (by decide) (by decide) rfl d_Model_readSymbols_126 (fun h16 => ?_)
      refine ax_iinc (v := x4 + 1) (tv2 := [(4, ax_I (x4 + 1)), (0, ax_A x0), (1, ax_I x1), (2, ax_I x2)]) B 3 d_Model_readSymbols_127 rfl (congrArg (_ + ·) (by decide)) (by decide) rfl ?_
      refine ax_aload_n B 1 d_Model_readSymbols_130 rfl rfl ?_
      refine ax_iload_n B 2 d_Model_readSymbols_131 rfl rfl ?_
      refine ax_iload_n B 3 d_Model_readSymbols_132 rfl rfl ?_
      refine ax_aload_n B 1 d_Model_readSymbols_133 rfl rfl ?_
      refine ax_iload_n B 2 d_Model_readSymbols_134 rfl rfl ?_
      refine ax_iload B 0 d_Model_readSymbols_135 rfl ?_
      refine ax_callVi (av := [ax_I x1, ax_I (x4 + 1)]) (rest := [ax_I x2, ax_I x1, ax_A x0]) B E hm_Model_look cl_Model rfl wd_1096 wp_41 lk_Model_136 d_Model_readSymbols_137 rfl (Nat.le_of_ble_eq_true rfl) (fun _ _ hh => hcall 155 _ _ _ _ hh) (fun v18 h17 => ?_)
      refine ax_callVi (av := [ax_I x1, ax_I x2, ax_I v18]) (rest := []) B E hm_Model_symbol cl_Model rfl wd_1128 wp_49 lk_Model_144 d_Model_readSymbols_140 rfl (Nat.le_of_ble_eq_true rfl) (fun _ _ hh => hcall 163 _ _ _ _ hh) (fun v20 h19 => ?_)
      refine ax_if_ge B 151 d_Model_readSymbols_143 (by decide) ?_ ?_
      · refine ax_aload_n B 1 d_Model_readSymbols_151 rfl rfl ?_
        refine ax_getfr B cl_Model (by decide) fk_Model_72 d_Model_readSymbols_152 (fun v21 => ?_)
        refine ax_sipush (v := 160) B d_Model_readSymbols_155 (by decide) ?_
        refine ax_iload_n B 2 d_Model_readSymbols_158 rfl rfl ?_
        refine ax_imul B d_Model_readSymbols_159 ?_
        refine ax_iload B 0 d_Model_readSymbols_160 rfl ?_
        refine ax_iadd B d_Model_readSymbols_162 ?_
        refine ax_iconst (v := 1) B d_Model_readSymbols_163 (by decide) ?_
        refine ax_zast (kd := 4) B (by decide) (by decide) rfl d_Model_readSymbols_164 (fun h22 => ?_)
        refine ax_aload_n B 1 d_Model_readSymbols_165 rfl rfl ?_
        refine ax_getfr B cl_Model (by decide) fk_Model_66 d_Model_readSymbols_166 (fun v23 => ?_)
        refine ax_iload_n B 3 d_Model_readSymbols_169 rfl rfl ?_
        refine ax_aload_n B 1 d_Model_readSymbols_170 rfl rfl ?_
        refine ax_iload_n B 2 d_Model_readSymbols_171 rfl rfl ?_
        refine ax_iload_n B 3 d_Model_readSymbols_172 rfl rfl ?_
        refine ax_aload_n B 1 d_Model_readSymbols_173 rfl rfl ?_
        refine ax_iload_n B 2 d_Model_readSymbols_174 rfl rfl ?_
        refine ax_iload B 0 d_Model_readSymbols_175 rfl ?_
        refine ax_callVi (av := [ax_I x1, ax_I (x4 + 1)]) (rest := [ax_I x2, ax_I x1, ax_A x0, ax_I x2, ax_A v23]) B E hm_Model_look cl_Model rfl wd_1096 wp_41 lk_Model_136 d_Model_readSymbols_177 rfl (Nat.le_of_ble_eq_true rfl) (fun _ _ hh => hcall 155 _ _ _ _ hh) (fun v25 h24 => ?_)
        refine ax_callVi (av := [ax_I x1, ax_I x2, ax_I v25]) (rest := [ax_I x2, ax_A v23]) B E hm_Model_symbol cl_Model rfl wd_1128 wp_49 lk_Model_144 d_Model_readSymbols_180 rfl (Nat.le_of_ble_eq_true rfl) (fun _ _ hh => hcall 163 _ _ _ _ hh) (fun v27 h26 => ?_)
        refine ax_iast (kd := 1) B (by decide) (by decide) rfl d_Model_readSymbols_183 (fun h28 => ?_)
        refine ax_iinc (v := (x4 + 1) + 1) (tv2 := [(4, ax_I ((x4 + 1) + 1)), (0, ax_A x0), (1, ax_I x1), (2, ax_I x2)]) B 0 d_Model_readSymbols_184 rfl (congrArg (_ + ·) (by decide)) (by decide) rfl ?_
        refine ax_sub (tv2 := [(0, ax_A x0), (1, ax_I x1), (4, ax_I ((x4 + 1) + 1))]) [1, 2, 0] rfl ?_
        exact Model_readSymbols_jq187 hcall B E Nm x0 x1 ((x4 + 1) + 1) h28
      · refine ax_iconst (v := (-1)) B d_Model_readSymbols_146 (by decide) ?_
        refine ax_iload B 0 d_Model_readSymbols_147 rfl ?_
        refine ax_isub B d_Model_readSymbols_149 ?_
        exact ax_ireturn B d_Model_readSymbols_150
  · refine ax_iconst (v := (-1)) B d_Model_readSymbols_96 (by decide) ?_
    refine ax_iload B 3 d_Model_readSymbols_97 rfl ?_
    refine ax_isub B d_Model_readSymbols_99 ?_
    exact ax_ireturn B d_Model_readSymbols_100
def Model_readSymbols_bd31 (call : ax_Cf)  (k31 : Option Nat → Int32 → Int32 → Int32 → ax_Hp → ax_O) (x0 : Option Nat) (x1 : Int32) (x2 : Int32) (x4 : Int32) (h : ax_Hp) : ax_O :=
  ax_on h x0 9 <| ax_ci (call 155 [ax_A x0, ax_I x1, ax_I x4] h) fun v6 h5 =>
  ax_ci (call 175 [ax_I v6] h5) fun v8 h7 =>
  if v8 = 0 then
    Model_readSymbols_jn87 call x0 x1 x2 x4 h7
  else
    (ax_gr h7 x0 9 20).bind fun v29 =>
    (ax_ldi h7 v29 1 x2).bind fun v30 =>
    if 8 ≤ v30 then
      Model_readSymbols_jn87 call x0 x1 x2 x4 h7
    else
      ax_on h7 x0 9 <| ax_ci (call 155 [ax_A x0, ax_I x1, ax_I x4] h7) fun v32 h31 =>
      ax_on h31 x0 9 <| ax_ci (call 163 [ax_A x0, ax_I x1, ax_I x2, ax_I v32] h31) fun v34 h33 =>
      if 0 ≤ v34 then
        Model_readSymbols_jn87 call x0 x1 x2 x4 h33
      else
        (ax_gr h33 x0 9 20).bind fun v35 =>
        (ax_ldi h33 v35 1 x2).bind fun v36 =>
        (ax_st h33 v35 1 x2 (ax_I (v36 + 1))).bind fun h37 =>
        k31 x0 x1 x2 (x4 + 1) h37
def Model_readSymbols_lp31 (call : ax_Cf)  : Nat → Option Nat → Int32 → Int32 → Int32 → ax_Hp → ax_O
  | 0 => fun _ _ _ _ _ => none
  | n + 1 => Model_readSymbols_bd31 call  (Model_readSymbols_lp31 call  n)
set_option maxHeartbeats 4000000 in
set_option maxRecDepth 20000 in
theorem Model_readSymbols_lb31 {l : Launch} {G : ax_G} {d : Nat} {call : ax_Cf} (hcall : ax_Hc l G d call) {p : Program} {e : Env} {s : State} {mi : MethodId} {args : Array Value} {below : List Frame} {meth : Method} {c : Code} {h0 : ax_Hp} (B : ax_B G p s mi meth c "SchemaDeskModel" prog_12_method_13_code 5 (some (.int))) (E : c.exceptionTable.isEmpty = true) (Nm : meth.name = y_Model_readSymbols.name)   {k31 : Option Nat → Int32 → Int32 → Int32 → ax_Hp → ax_O} (hk31 : ∀ (x0 : Option Nat) (x1 : Int32) (x2 : Int32) (x4 : Int32) (h : ax_Hp), ax_W G p l e s mi args below meth c 5 (d + 1) h0 31 [(0, ax_A x0), (1, ax_I x1), (2, ax_I x2), (4, ax_I x4)] [] h (k31 x0 x1 x2 x4 h)) (x0 : Option Nat) (x1 : Int32) (x2 : Int32) (x4 : Int32) (h : ax_Hp) : ax_W G p l e s mi args below meth c 5 (d + 1) h0 31 [(0, ax_A x0), (1, ax_I x1), (2, ax_I x2), (4, ax_I x4)] [] h (Model_readSymbols_bd31 call  k31 x0 x1 x2 x4 h) := by
  unfold Model_readSymbols_bd31
  refine ax_aload_n B 0 d_Model_readSymbols_31 rfl rfl ?_
  refine ax_iload_n B 1 d_Model_readSymbols_32 rfl rfl ?_
  refine ax_iload B 3 d_Model_readSymbols_33 rfl ?_
  refine ax_callVi (av := [ax_I x1, ax_I x4]) (rest := []) B E hm_Model_look cl_Model rfl wd_1096 wp_41 lk_Model_136 d_Model_readSymbols_35 rfl (Nat.le_of_ble_eq_true rfl) (fun _ _ hh => hcall 155 _ _ _ _ hh) (fun v6 h5 => ?_)
  refine ax_callSi (av := [ax_I v6]) (rest := []) B E hm_Model_isSmall wd_1181 lk_Model_140 d_Model_readSymbols_38 rfl (Nat.le_of_ble_eq_true rfl) (fun _ _ hh => hcall 175 _ _ _ _ hh) (fun v8 h7 => ?_)
  refine ax_if_eq B 87 d_Model_readSymbols_41 (by decide) ?_ ?_
  · refine ax_sub (tv2 := [(0, ax_A x0), (1, ax_I x1), (2, ax_I x2), (4, ax_I x4)]) [0, 1, 2, 3] rfl ?_
    exact Model_readSymbols_jq87 hcall B E Nm x0 x1 x2 x4 h7
  · refine ax_aload_n B 0 d_Model_readSymbols_44 rfl rfl ?_
    refine ax_getfr B cl_Model (by decide) fk_Model_57 d_Model_readSymbols_45 (fun v29 => ?_)
    refine ax_iload_n B 2 d_Model_readSymbols_48 rfl rfl ?_
    refine ax_iald (kd := 1) B (by decide) rfl d_Model_readSymbols_49 (fun v30 => ?_)
    refine ax_bipush (v := 8) B d_Model_readSymbols_50 (by decide) ?_
    refine ax_icmp_ge B 87 d_Model_readSymbols_52 (by decide) ?_ ?_
    · refine ax_sub (tv2 := [(0, ax_A x0), (1, ax_I x1), (2, ax_I x2), (4, ax_I x4)]) [0, 1, 2, 3] rfl ?_
      exact Model_readSymbols_jq87 hcall B E Nm x0 x1 x2 x4 h7
    · refine ax_aload_n B 0 d_Model_readSymbols_55 rfl rfl ?_
      refine ax_iload_n B 1 d_Model_readSymbols_56 rfl rfl ?_
      refine ax_iload_n B 2 d_Model_readSymbols_57 rfl rfl ?_
      refine ax_aload_n B 0 d_Model_readSymbols_58 rfl rfl ?_
      refine ax_iload_n B 1 d_Model_readSymbols_59 rfl rfl ?_
      refine ax_iload B 3 d_Model_readSymbols_60 rfl ?_
      refine ax_callVi (av := [ax_I x1, ax_I x4]) (rest := [ax_I x2, ax_I x1, ax_A x0]) B E hm_Model_look cl_Model rfl wd_1096 wp_41 lk_Model_136 d_Model_readSymbols_62 rfl (Nat.le_of_ble_eq_true rfl) (fun _ _ hh => hcall 155 _ _ _ _ hh) (fun v32 h31 => ?_)
      refine ax_callVi (av := [ax_I x1, ax_I x2, ax_I v32]) (rest := []) B E hm_Model_symbol cl_Model rfl wd_1128 wp_49 lk_Model_144 d_Model_readSymbols_65 rfl (Nat.le_of_ble_eq_true rfl) (fun _ _ hh => hcall 163 _ _ _ _ hh) (fun v34 h33 => ?_)
      refine ax_if_ge B 87 d_Model_readSymbols_68 (by decide) ?_ ?_
      · refine ax_sub (tv2 := [(0, ax_A x0), (1, ax_I x1), (2, ax_I x2), (4, ax_I x4)]) [0, 1, 2, 3] rfl ?_
        exact Model_readSymbols_jq87 hcall B E Nm x0 x1 x2 x4 h33
      · refine ax_aload_n B 0 d_Model_readSymbols_71 rfl rfl ?_
        refine ax_getfr B cl_Model (by decide) fk_Model_57 d_Model_readSymbols_72 (fun v35 => ?_)
        refine ax_iload_n B 2 d_Model_readSymbols_75 rfl rfl ?_
        refine ax_dup2_11 B d_Model_readSymbols_76 rfl rfl ?_
        refine ax_iald (kd := 1) B (by decide) rfl d_Model_readSymbols_77 (fun v36 => ?_)
        refine ax_iconst (v := 1) B d_Model_readSymbols_78 (by decide) ?_
        refine ax_iadd B d_Model_readSymbols_79 ?_
        refine ax_iast (kd := 1) B (by decide) (by decide) rfl d_Model_readSymbols_80 (fun h37 => ?_)
        refine ax_iinc (v := x4 + 1) (tv2 := [(4, ax_I (x4 + 1)), (0, ax_A x0), (1, ax_I x1), (2, ax_I x2)]) B 3 d_Model_readSymbols_81 rfl (congrArg (_ + ·) (by decide)) (by decide) rfl ?_
        refine ax_goto B 31 d_Model_readSymbols_84 (by decide) ?_
        refine ax_sub (tv2 := [(0, ax_A x0), (1, ax_I x1), (2, ax_I x2), (4, ax_I (x4 + 1))]) [1, 2, 3, 0] rfl ?_
        exact hk31 x0 x1 x2 (x4 + 1) h37
theorem Model_readSymbols_lq31 {l : Launch} {G : ax_G} {d : Nat} {call : ax_Cf} (hcall : ax_Hc l G d call) {p : Program} {e : Env} {s : State} {mi : MethodId} {args : Array Value} {below : List Frame} {meth : Method} {c : Code} {h0 : ax_Hp} (B : ax_B G p s mi meth c "SchemaDeskModel" prog_12_method_13_code 5 (some (.int))) (E : c.exceptionTable.isEmpty = true) (Nm : meth.name = y_Model_readSymbols.name)   : ∀ (n : Nat) (x0 : Option Nat) (x1 : Int32) (x2 : Int32) (x4 : Int32) (h : ax_Hp), ax_W G p l e s mi args below meth c 5 (d + 1) h0 31 [(0, ax_A x0), (1, ax_I x1), (2, ax_I x2), (4, ax_I x4)] [] h (Model_readSymbols_lp31 call  n x0 x1 x2 x4 h)
  | 0, _, _, _, _, _ => ax_none
  | n + 1, x0, x1, x2, x4, h => Model_readSymbols_lb31 hcall B E Nm   (Model_readSymbols_lq31 hcall B E Nm   n) x0 x1 x2 x4 h
def Model_readSymbols_b (call : ax_Cf) (x0 : Option Nat) (x1 : Int32) (x2 : Int32) (x3 : Int32) (h : ax_Hp) : ax_O :=
  ax_on h x0 9 <| ax_ci (call 155 [ax_A x0, ax_I x1, ax_I x3] h) fun v2 h1 =>
  if v2 = 40 then
    (ax_gr h1 x0 9 22).bind fun v3 =>
    (ax_st h1 v3 1 x2 (ax_I (x3 + 1))).bind fun h4 =>
    Model_readSymbols_lp31 call ax_fuel x0 x1 x2 (x3 + 1) h4
  else
    ax_ri ((-1) - x3) h1
set_option maxHeartbeats 4000000 in
set_option maxRecDepth 20000 in
theorem Model_readSymbols_t {l : Launch} {G : ax_G} {d : Nat} {call : ax_Cf} (hcall : ax_Hc l G d call) (x0 : Option Nat) (x1 : Int32) (x2 : Int32) (x3 : Int32) (h : ax_Hp) {r : ax_Rs} {h' : ax_Hp} (ho : Model_readSymbols_b call x0 x1 x2 x3 h = some (r, h')) : ax_C l G (d + 1) y_Model_readSymbols (.code y_Model_readSymbols prog_12_method_13_code 5 (some (.int))) [ax_A x0, ax_I x1, ax_I x2, ax_I x3] h r h' := by
  refine ax_enter (by decide) (Nat.le_of_ble_eq_true rfl) ho (fun p e s mi args below meth c B E Nm => ?_)
  have B : ax_B G p s mi meth c "SchemaDeskModel" prog_12_method_13_code 5 (some (.int)) := B
  show ax_W G p l e s mi args below meth c 5 (d + 1) h 0 [(0, ax_A x0), (1, ax_I x1), (2, ax_I x2), (3, ax_I x3)] [] h (Model_readSymbols_b call x0 x1 x2 x3 h)
  unfold Model_readSymbols_b
  refine ax_iload_n B 3 d_Model_readSymbols_0 rfl rfl ?_
  refine ax_istore (tv2 := [(4, ax_I x3), (0, ax_A x0), (1, ax_I x1), (2, ax_I x2), (3, ax_I x3)]) B d_Model_readSymbols_1 (by decide) rfl ?_
  refine ax_aload_n B 1 d_Model_readSymbols_3 rfl rfl ?_
  refine ax_iload_n B 2 d_Model_readSymbols_4 rfl rfl ?_
  refine ax_iload B 0 d_Model_readSymbols_5 rfl ?_
  refine ax_callVi (av := [ax_I x1, ax_I x3]) (rest := []) B E hm_Model_look cl_Model rfl wd_1096 wp_41 lk_Model_136 d_Model_readSymbols_7 rfl (Nat.le_of_ble_eq_true rfl) (fun _ _ hh => hcall 155 _ _ _ _ hh) (fun v2 h1 => ?_)
  refine ax_bipush (v := 40) B d_Model_readSymbols_10 (by decide) ?_
  refine ax_icmp_eq B 20 d_Model_readSymbols_12 (by decide) ?_ ?_
  · refine ax_iinc (v := x3 + 1) (tv2 := [(4, ax_I (x3 + 1)), (0, ax_A x0), (1, ax_I x1), (2, ax_I x2), (3, ax_I x3)]) B 0 d_Model_readSymbols_20 rfl (congrArg (_ + ·) (by decide)) (by decide) rfl ?_
    refine ax_aload_n B 1 d_Model_readSymbols_23 rfl rfl ?_
    refine ax_getfr B cl_Model (by decide) fk_Model_63 d_Model_readSymbols_24 (fun v3 => ?_)
    refine ax_iload_n B 3 d_Model_readSymbols_27 rfl rfl ?_
    refine ax_iload B 0 d_Model_readSymbols_28 rfl ?_
    refine ax_iast (kd := 1) B (by decide) (by decide) rfl d_Model_readSymbols_30 (fun h4 => ?_)
    refine ax_sub (tv2 := [(0, ax_A x0), (1, ax_I x1), (2, ax_I x2), (4, ax_I (x3 + 1))]) [1, 2, 3, 0] rfl ?_
    exact Model_readSymbols_lq31 hcall B E Nm ax_fuel x0 x1 x2 (x3 + 1) h4
  · refine ax_iconst (v := (-1)) B d_Model_readSymbols_15 (by decide) ?_
    refine ax_iload B 0 d_Model_readSymbols_16 rfl ?_
    refine ax_isub B d_Model_readSymbols_18 ?_
    exact ax_ireturn B d_Model_readSymbols_19

theorem d_Model_isSmall_0 : decode prog_12_method_9_code 0 = .ok (.iload_n 0, 1) := by decide +kernel
theorem d_Model_isSmall_1 : decode prog_12_method_9_code 1 = .ok (.bipush 97, 2) := by decide +kernel
theorem d_Model_isSmall_3 : decode prog_12_method_9_code 3 = .ok (.if_icmp .lt 13, 3) := by decide +kernel
theorem d_Model_isSmall_6 : decode prog_12_method_9_code 6 = .ok (.iload_n 0, 1) := by decide +kernel
theorem d_Model_isSmall_7 : decode prog_12_method_9_code 7 = .ok (.bipush 122, 2) := by decide +kernel
theorem d_Model_isSmall_9 : decode prog_12_method_9_code 9 = .ok (.if_icmp .gt 7, 3) := by decide +kernel
theorem d_Model_isSmall_12 : decode prog_12_method_9_code 12 = .ok (.iconst 1, 1) := by decide +kernel
theorem d_Model_isSmall_13 : decode prog_12_method_9_code 13 = .ok (.goto 4, 3) := by decide +kernel
theorem d_Model_isSmall_16 : decode prog_12_method_9_code 16 = .ok (.iconst 0, 1) := by decide +kernel
theorem d_Model_isSmall_17 : decode prog_12_method_9_code 17 = .ok (.ireturn, 1) := by decide +kernel
def Model_isSmall_b (call : ax_Cf) (x0 : Int32) (h : ax_Hp) : ax_O :=
  if x0 < 97 then
    ax_rz 0 h
  else
    if 122 < x0 then
      ax_rz 0 h
    else
      ax_rz 1 h
set_option maxHeartbeats 4000000 in
set_option maxRecDepth 20000 in
theorem Model_isSmall_t {l : Launch} {G : ax_G} {d : Nat} {call : ax_Cf} (hcall : ax_Hc l G d call) (x0 : Int32) (h : ax_Hp) {r : ax_Rs} {h' : ax_Hp} (ho : Model_isSmall_b call x0 h = some (r, h')) : ax_C l G (d + 1) y_Model_isSmall (.code y_Model_isSmall prog_12_method_9_code 1 (some (.boolean))) [ax_I x0] h r h' := by
  refine ax_enter (by decide) (Nat.le_of_ble_eq_true rfl) ho (fun p e s mi args below meth c B E Nm => ?_)
  have B : ax_B G p s mi meth c "SchemaDeskModel" prog_12_method_9_code 1 (some (.boolean)) := B
  show ax_W G p l e s mi args below meth c 1 (d + 1) h 0 [(0, ax_I x0)] [] h (Model_isSmall_b call x0 h)
  unfold Model_isSmall_b
  refine ax_iload_n B 0 d_Model_isSmall_0 rfl rfl ?_
  refine ax_bipush (v := 97) B d_Model_isSmall_1 (by decide) ?_
  refine ax_icmp_lt B 16 d_Model_isSmall_3 (by decide) ?_ ?_
  · refine ax_iconst (v := 0) B d_Model_isSmall_16 (by decide) ?_
    exact ax_zreturn B d_Model_isSmall_17
  · refine ax_iload_n B 0 d_Model_isSmall_6 rfl rfl ?_
    refine ax_bipush (v := 122) B d_Model_isSmall_7 (by decide) ?_
    refine ax_icmp_gt B 16 d_Model_isSmall_9 (by decide) ?_ ?_
    · refine ax_iconst (v := 0) B d_Model_isSmall_16 (by decide) ?_
      exact ax_zreturn B d_Model_isSmall_17
    · refine ax_iconst (v := 1) B d_Model_isSmall_12 (by decide) ?_
      refine ax_goto B 17 d_Model_isSmall_13 (by decide) ?_
      exact ax_zreturn B d_Model_isSmall_17

theorem d_Model_begin_0 : decode prog_12_method_11_code 0 = .ok (.aload_n 0, 1) := by decide +kernel
theorem d_Model_begin_1 : decode prog_12_method_11_code 1 = .ok (.getfield 76, 3) := by decide +kernel
theorem d_Model_begin_4 : decode prog_12_method_11_code 4 = .ok (.aload_n 0, 1) := by decide +kernel
theorem d_Model_begin_5 : decode prog_12_method_11_code 5 = .ok (.getfield 133, 3) := by decide +kernel
theorem d_Model_begin_8 : decode prog_12_method_11_code 8 = .ok (.iload_n 1, 1) := by decide +kernel
theorem d_Model_begin_9 : decode prog_12_method_11_code 9 = .ok (.iastore, 1) := by decide +kernel
theorem d_Model_begin_10 : decode prog_12_method_11_code 10 = .ok (.aload_n 0, 1) := by decide +kernel
theorem d_Model_begin_11 : decode prog_12_method_11_code 11 = .ok (.getfield 79, 3) := by decide +kernel
theorem d_Model_begin_14 : decode prog_12_method_11_code 14 = .ok (.aload_n 0, 1) := by decide +kernel
theorem d_Model_begin_15 : decode prog_12_method_11_code 15 = .ok (.getfield 133, 3) := by decide +kernel
theorem d_Model_begin_18 : decode prog_12_method_11_code 18 = .ok (.iconst (-1), 1) := by decide +kernel
theorem d_Model_begin_19 : decode prog_12_method_11_code 19 = .ok (.iastore, 1) := by decide +kernel
theorem d_Model_begin_20 : decode prog_12_method_11_code 20 = .ok (.aload_n 0, 1) := by decide +kernel
theorem d_Model_begin_21 : decode prog_12_method_11_code 21 = .ok (.dup, 1) := by decide +kernel
theorem d_Model_begin_22 : decode prog_12_method_11_code 22 = .ok (.getfield 133, 3) := by decide +kernel
theorem d_Model_begin_25 : decode prog_12_method_11_code 25 = .ok (.iconst 1, 1) := by decide +kernel
theorem d_Model_begin_26 : decode prog_12_method_11_code 26 = .ok (.iadd, 1) := by decide +kernel
theorem d_Model_begin_27 : decode prog_12_method_11_code 27 = .ok (.putfield 133, 3) := by decide +kernel
theorem d_Model_begin_30 : decode prog_12_method_11_code 30 = .ok (.return_, 1) := by decide +kernel
def Model_begin_b (call : ax_Cf) (x0 : Option Nat) (x1 : Int32) (h : ax_Hp) : ax_O :=
  (ax_gr h x0 9 27).bind fun v1 =>
  (ax_gi h x0 9 26).bind fun v2 =>
  (ax_st h v1 1 v2 (ax_I x1)).bind fun h3 =>
  (ax_gr h3 x0 9 28).bind fun v4 =>
  (ax_gi h3 x0 9 26).bind fun v5 =>
  (ax_st h3 v4 1 v5 (ax_I (-1))).bind fun h6 =>
  (ax_gi h6 x0 9 26).bind fun v7 =>
  (ax_pf h6 x0 9 26 (ax_I (v7 + 1))).bind fun h8 =>
  ax_rv h8
set_option maxHeartbeats 4000000 in
set_option maxRecDepth 20000 in
theorem Model_begin_t {l : Launch} {G : ax_G} {d : Nat} {call : ax_Cf} (hcall : ax_Hc l G d call) (x0 : Option Nat) (x1 : Int32) (h : ax_Hp) {r : ax_Rs} {h' : ax_Hp} (ho : Model_begin_b call x0 x1 h = some (r, h')) : ax_C l G (d + 1) y_Model_begin (.code y_Model_begin prog_12_method_11_code 2 none) [ax_A x0, ax_I x1] h r h' := by
  refine ax_enter (by decide) (Nat.le_of_ble_eq_true rfl) ho (fun p e s mi args below meth c B E Nm => ?_)
  have B : ax_B G p s mi meth c "SchemaDeskModel" prog_12_method_11_code 2 none := B
  show ax_W G p l e s mi args below meth c 2 (d + 1) h 0 [(0, ax_A x0), (1, ax_I x1)] [] h (Model_begin_b call x0 x1 h)
  unfold Model_begin_b
  refine ax_aload_n B 0 d_Model_begin_0 rfl rfl ?_
  refine ax_getfr B cl_Model (by decide) fk_Model_76 d_Model_begin_1 (fun v1 => ?_)
  refine ax_aload_n B 0 d_Model_begin_4 rfl rfl ?_
  refine ax_getfi B cl_Model (by decide) fk_Model_133 d_Model_begin_5 (fun v2 => ?_)
  refine ax_iload_n B 1 d_Model_begin_8 rfl rfl ?_
  refine ax_iast (kd := 1) B (by decide) (by decide) rfl d_Model_begin_9 (fun h3 => ?_)
  refine ax_aload_n B 0 d_Model_begin_10 rfl rfl ?_
  refine ax_getfr B cl_Model (by decide) fk_Model_79 d_Model_begin_11 (fun v4 => ?_)
  refine ax_aload_n B 0 d_Model_begin_14 rfl rfl ?_
  refine ax_getfi B cl_Model (by decide) fk_Model_133 d_Model_begin_15 (fun v5 => ?_)
  refine ax_iconst (v := (-1)) B d_Model_begin_18 (by decide) ?_
  refine ax_iast (kd := 1) B (by decide) (by decide) rfl d_Model_begin_19 (fun h6 => ?_)
  refine ax_aload_n B 0 d_Model_begin_20 rfl rfl ?_
  refine ax_dup B d_Model_begin_21 rfl ?_
  refine ax_getfi B cl_Model (by decide) fk_Model_133 d_Model_begin_22 (fun v7 => ?_)
  refine ax_iconst (v := 1) B d_Model_begin_25 (by decide) ?_
  refine ax_iadd B d_Model_begin_26 ?_
  refine ax_putf (v := ax_I (v7 + 1)) B cl_Model (by decide) fk_Model_133 (Or.inl rfl) (fun _ => rfl) (fun _ => rfl) d_Model_begin_27 (fun h8 => ?_)
  exact ax_vreturn B d_Model_begin_30

theorem d_Model_readName_0 : decode prog_12_method_16_code 0 = .ok (.aload_n 0, 1) := by decide +kernel
theorem d_Model_readName_1 : decode prog_12_method_16_code 1 = .ok (.iload_n 1, 1) := by decide +kernel
theorem d_Model_readName_2 : decode prog_12_method_16_code 2 = .ok (.iload_n 2, 1) := by decide +kernel
theorem d_Model_readName_3 : decode prog_12_method_16_code 3 = .ok (.invokevirtual 136, 3) := by decide +kernel
theorem d_Model_readName_6 : decode prog_12_method_16_code 6 = .ok (.istore_n 3, 1) := by decide +kernel
theorem d_Model_readName_7 : decode prog_12_method_16_code 7 = .ok (.iload_n 3, 1) := by decide +kernel
theorem d_Model_readName_8 : decode prog_12_method_16_code 8 = .ok (.invokestatic 140, 3) := by decide +kernel
theorem d_Model_readName_11 : decode prog_12_method_16_code 11 = .ok (.istore 4, 2) := by decide +kernel
theorem d_Model_readName_13 : decode prog_12_method_16_code 13 = .ok (.aload_n 0, 1) := by decide +kernel
theorem d_Model_readName_14 : decode prog_12_method_16_code 14 = .ok (.getfield 51, 3) := by decide +kernel
theorem d_Model_readName_17 : decode prog_12_method_16_code 17 = .ok (.aload_n 0, 1) := by decide +kernel
theorem d_Model_readName_18 : decode prog_12_method_16_code 18 = .ok (.getfield 76, 3) := by decide +kernel
theorem d_Model_readName_21 : decode prog_12_method_16_code 21 = .ok (.aload_n 0, 1) := by decide +kernel
theorem d_Model_readName_22 : decode prog_12_method_16_code 22 = .ok (.getfield 133, 3) := by decide +kernel
theorem d_Model_readName_25 : decode prog_12_method_16_code 25 = .ok (.iconst 1, 1) := by decide +kernel
theorem d_Model_readName_26 : decode prog_12_method_16_code 26 = .ok (.isub, 1) := by decide +kernel
theorem d_Model_readName_27 : decode prog_12_method_16_code 27 = .ok (.iaload, 1) := by decide +kernel
theorem d_Model_readName_28 : decode prog_12_method_16_code 28 = .ok (.iaload, 1) := by decide +kernel
theorem d_Model_readName_29 : decode prog_12_method_16_code 29 = .ok (.istore 5, 2) := by decide +kernel
theorem d_Model_readName_31 : decode prog_12_method_16_code 31 = .ok (.iload 5, 2) := by decide +kernel
theorem d_Model_readName_33 : decode prog_12_method_16_code 33 = .ok (.ifCond .lt 38, 3) := by decide +kernel
theorem d_Model_readName_36 : decode prog_12_method_16_code 36 = .ok (.iload 4, 2) := by decide +kernel
theorem d_Model_readName_38 : decode prog_12_method_16_code 38 = .ok (.ifCond .eq 18, 3) := by decide +kernel
theorem d_Model_readName_41 : decode prog_12_method_16_code 41 = .ok (.aload_n 0, 1) := by decide +kernel
theorem d_Model_readName_42 : decode prog_12_method_16_code 42 = .ok (.getfield 60, 3) := by decide +kernel
theorem d_Model_readName_45 : decode prog_12_method_16_code 45 = .ok (.iload 5, 2) := by decide +kernel
theorem d_Model_readName_47 : decode prog_12_method_16_code 47 = .ok (.caload, 1) := by decide +kernel
theorem d_Model_readName_48 : decode prog_12_method_16_code 48 = .ok (.iload_n 3, 1) := by decide +kernel
theorem d_Model_readName_49 : decode prog_12_method_16_code 49 = .ok (.if_icmp .eq 7, 3) := by decide +kernel
theorem d_Model_readName_52 : decode prog_12_method_16_code 52 = .ok (.iconst 1, 1) := by decide +kernel
theorem d_Model_readName_53 : decode prog_12_method_16_code 53 = .ok (.goto 4, 3) := by decide +kernel
theorem d_Model_readName_56 : decode prog_12_method_16_code 56 = .ok (.iconst 0, 1) := by decide +kernel
theorem d_Model_readName_57 : decode prog_12_method_16_code 57 = .ok (.istore 4, 2) := by decide +kernel
theorem d_Model_readName_59 : decode prog_12_method_16_code 59 = .ok (.aload_n 0, 1) := by decide +kernel
theorem d_Model_readName_60 : decode prog_12_method_16_code 60 = .ok (.getfield 54, 3) := by decide +kernel
theorem d_Model_readName_63 : decode prog_12_method_16_code 63 = .ok (.iload 5, 2) := by decide +kernel
theorem d_Model_readName_65 : decode prog_12_method_16_code 65 = .ok (.iaload, 1) := by decide +kernel
theorem d_Model_readName_66 : decode prog_12_method_16_code 66 = .ok (.istore 5, 2) := by decide +kernel
theorem d_Model_readName_68 : decode prog_12_method_16_code 68 = .ok (.goto (-37), 3) := by decide +kernel
theorem d_Model_readName_71 : decode prog_12_method_16_code 71 = .ok (.iload 4, 2) := by decide +kernel
theorem d_Model_readName_73 : decode prog_12_method_16_code 73 = .ok (.ifCond .ne 7, 3) := by decide +kernel
theorem d_Model_readName_76 : decode prog_12_method_16_code 76 = .ok (.iconst (-1), 1) := by decide +kernel
theorem d_Model_readName_77 : decode prog_12_method_16_code 77 = .ok (.iload_n 2, 1) := by decide +kernel
theorem d_Model_readName_78 : decode prog_12_method_16_code 78 = .ok (.isub, 1) := by decide +kernel
theorem d_Model_readName_79 : decode prog_12_method_16_code 79 = .ok (.ireturn, 1) := by decide +kernel
theorem d_Model_readName_80 : decode prog_12_method_16_code 80 = .ok (.aload_n 0, 1) := by decide +kernel
theorem d_Model_readName_81 : decode prog_12_method_16_code 81 = .ok (.iload_n 1, 1) := by decide +kernel
theorem d_Model_readName_82 : decode prog_12_method_16_code 82 = .ok (.iload_n 2, 1) := by decide +kernel
theorem d_Model_readName_83 : decode prog_12_method_16_code 83 = .ok (.iconst 1, 1) := by decide +kernel
theorem d_Model_readName_84 : decode prog_12_method_16_code 84 = .ok (.iadd, 1) := by decide +kernel
theorem d_Model_readName_85 : decode prog_12_method_16_code 85 = .ok (.invokevirtual 136, 3) := by decide +kernel
theorem d_Model_readName_88 : decode prog_12_method_16_code 88 = .ok (.bipush 58, 2) := by decide +kernel
theorem d_Model_readName_90 : decode prog_12_method_16_code 90 = .ok (.if_icmp .ne 9, 3) := by decide +kernel
theorem d_Model_readName_93 : decode prog_12_method_16_code 93 = .ok (.iload_n 2, 1) := by decide +kernel
theorem d_Model_readName_94 : decode prog_12_method_16_code 94 = .ok (.iconst 2, 1) := by decide +kernel
theorem d_Model_readName_95 : decode prog_12_method_16_code 95 = .ok (.iadd, 1) := by decide +kernel
theorem d_Model_readName_96 : decode prog_12_method_16_code 96 = .ok (.goto 8, 3) := by decide +kernel
theorem d_Model_readName_99 : decode prog_12_method_16_code 99 = .ok (.iconst (-1), 1) := by decide +kernel
theorem d_Model_readName_100 : decode prog_12_method_16_code 100 = .ok (.iload_n 2, 1) := by decide +kernel
theorem d_Model_readName_101 : decode prog_12_method_16_code 101 = .ok (.iconst 1, 1) := by decide +kernel
theorem d_Model_readName_102 : decode prog_12_method_16_code 102 = .ok (.iadd, 1) := by decide +kernel
theorem d_Model_readName_103 : decode prog_12_method_16_code 103 = .ok (.isub, 1) := by decide +kernel
theorem d_Model_readName_104 : decode prog_12_method_16_code 104 = .ok (.ireturn, 1) := by decide +kernel
def Model_readName_jn57 (call : ax_Cf) (k31 : Option Nat → Int32 → Int32 → Int32 → Int32 → Int32 → ax_Hp → ax_O) (x0 : Option Nat) (x1 : Int32) (x2 : Int32) (x3 : Int32) (x5 : Int32) (s0 : Int32) (h : ax_Hp) : ax_O :=
  (ax_gr h x0 9 19).bind fun v12 =>
  (ax_ldi h v12 1 x5).bind fun v13 =>
  k31 x0 x1 x2 x3 s0 v13 h
set_option maxHeartbeats 4000000 in
set_option maxRecDepth 20000 in
theorem Model_readName_jq57 {l : Launch} {G : ax_G} {d : Nat} {call : ax_Cf} (hcall : ax_Hc l G d call) {p : Program} {e : Env} {s : State} {mi : MethodId} {args : Array Value} {below : List Frame} {meth : Method} {c : Code} {h0 : ax_Hp} (B : ax_B G p s mi meth c "SchemaDeskModel" prog_12_method_16_code 6 (some (.int))) (E : c.exceptionTable.isEmpty = true) (Nm : meth.name = y_Model_readName.name) (k31 : Option Nat → Int32 → Int32 → Int32 → Int32 → Int32 → ax_Hp → ax_O) (hk31 : ∀ (x0 : Option Nat) (x1 : Int32) (x2 : Int32) (x3 : Int32) (x4 : Int32) (x5 : Int32) (h : ax_Hp), ax_W G p l e s mi args below meth c 6 (d + 1) h0 31 [(0, ax_A x0), (1, ax_I x1), (2, ax_I x2), (3, ax_I x3), (4, ax_I x4), (5, ax_I x5)] [] h (k31 x0 x1 x2 x3 x4 x5 h)) (x0 : Option Nat) (x1 : Int32) (x2 : Int32) (x3 : Int32) (x5 : Int32) (s0 : Int32) (h : ax_Hp) : ax_W G p l e s mi args below meth c 6 (d + 1) h0 57 [(0, ax_A x0), (1, ax_I x1), (2, ax_I x2), (3, ax_I x3), (5, ax_I x5)] [ax_I s0] h (Model_readName_jn57 call k31 x0 x1 x2 x3 x5 s0 h) := by
  unfold Model_readName_jn57
  refine ax_istore (tv2 := [(4, ax_I s0), (0, ax_A x0), (1, ax_I x1), (2, ax_I x2), (3, ax_I x3), (5, ax_I x5)]) B d_Model_readName_57 (by decide) rfl ?_
  refine ax_aload_n B 1 d_Model_readName_59 rfl rfl ?_
  refine ax_getfr B cl_Model (by decide) fk_Model_54 d_Model_readName_60 (fun v12 => ?_)
  refine ax_iload B 5 d_Model_readName_63 rfl ?_
  refine ax_iald (kd := 1) B (by decide) rfl d_Model_readName_65 (fun v13 => ?_)
  refine ax_istore (tv2 := [(5, ax_I v13), (4, ax_I s0), (0, ax_A x0), (1, ax_I x1), (2, ax_I x2), (3, ax_I x3)]) B d_Model_readName_66 (by decide) rfl ?_
  refine ax_goto B 31 d_Model_readName_68 (by decide) ?_
  refine ax_sub (tv2 := [(0, ax_A x0), (1, ax_I x1), (2, ax_I x2), (3, ax_I x3), (4, ax_I s0), (5, ax_I v13)]) [2, 3, 4, 5, 1, 0] rfl ?_
  exact hk31 x0 x1 x2 x3 s0 v13 h
def Model_readName_jn56 (call : ax_Cf) (k31 : Option Nat → Int32 → Int32 → Int32 → Int32 → Int32 → ax_Hp → ax_O) (x0 : Option Nat) (x1 : Int32) (x2 : Int32) (x3 : Int32) (x5 : Int32) (h : ax_Hp) : ax_O :=
  Model_readName_jn57 call k31 x0 x1 x2 x3 x5 0 h
set_option maxHeartbeats 4000000 in
set_option maxRecDepth 20000 in
theorem Model_readName_jq56 {l : Launch} {G : ax_G} {d : Nat} {call : ax_Cf} (hcall : ax_Hc l G d call) {p : Program} {e : Env} {s : State} {mi : MethodId} {args : Array Value} {below : List Frame} {meth : Method} {c : Code} {h0 : ax_Hp} (B : ax_B G p s mi meth c "SchemaDeskModel" prog_12_method_16_code 6 (some (.int))) (E : c.exceptionTable.isEmpty = true) (Nm : meth.name = y_Model_readName.name) (k31 : Option Nat → Int32 → Int32 → Int32 → Int32 → Int32 → ax_Hp → ax_O) (hk31 : ∀ (x0 : Option Nat) (x1 : Int32) (x2 : Int32) (x3 : Int32) (x4 : Int32) (x5 : Int32) (h : ax_Hp), ax_W G p l e s mi args below meth c 6 (d + 1) h0 31 [(0, ax_A x0), (1, ax_I x1), (2, ax_I x2), (3, ax_I x3), (4, ax_I x4), (5, ax_I x5)] [] h (k31 x0 x1 x2 x3 x4 x5 h)) (x0 : Option Nat) (x1 : Int32) (x2 : Int32) (x3 : Int32) (x5 : Int32) (h : ax_Hp) : ax_W G p l e s mi args below meth c 6 (d + 1) h0 56 [(0, ax_A x0), (1, ax_I x1), (2, ax_I x2), (3, ax_I x3), (5, ax_I x5)] [] h (Model_readName_jn56 call k31 x0 x1 x2 x3 x5 h) := by
  unfold Model_readName_jn56
  refine ax_iconst (v := 0) B d_Model_readName_56 (by decide) ?_
  refine ax_sub (tv2 := [(0, ax_A x0), (1, ax_I x1), (2, ax_I x2), (3, ax_I x3), (5, ax_I x5)]) [0, 1, 2, 3, 4] rfl ?_
  exact Model_readName_jq57 hcall B E Nm k31 hk31 x0 x1 x2 x3 x5 0 h
def Model_readName_bd31 (call : ax_Cf)  (k31 : Option Nat → Int32 → Int32 → Int32 → Int32 → Int32 → ax_Hp → ax_O) (x0 : Option Nat) (x1 : Int32) (x2 : Int32) (x3 : Int32) (x4 : Int32) (x5 : Int32) (h : ax_Hp) : ax_O :=
  if x5 < 0 then
    if x4 = 0 then
      ax_ri ((-1) - x2) h
    else
      ax_on h x0 9 <| ax_ci (call 155 [ax_A x0, ax_I x1, ax_I (x2 + 1)] h) fun v11 h10 =>
      if v11 = 58 then
        ax_ri (x2 + 2) h10
      else
        ax_ri ((-1) - (x2 + 1)) h10
  else
    if x4 = 0 then
      Model_readName_jn56 call k31 x0 x1 x2 x3 x5 h
    else
      (ax_gr h x0 9 21).bind fun v14 =>
      (ax_ldi h v14 3 x5).bind fun v15 =>
      if v15 = x3 then
        Model_readName_jn56 call k31 x0 x1 x2 x3 x5 h
      else
        Model_readName_jn57 call k31 x0 x1 x2 x3 x5 1 h
def Model_readName_lp31 (call : ax_Cf)  : Nat → Option Nat → Int32 → Int32 → Int32 → Int32 → Int32 → ax_Hp → ax_O
  | 0 => fun _ _ _ _ _ _ _ => none
  | n + 1 => Model_readName_bd31 call  (Model_readName_lp31 call  n)
set_option maxHeartbeats 4000000 in
set_option maxRecDepth 20000 in
theorem Model_readName_lb31 {l : Launch} {G : ax_G} {d : Nat} {call : ax_Cf} (hcall : ax_Hc l G d call) {p : Program} {e : Env} {s : State} {mi : MethodId} {args : Array Value} {below : List Frame} {meth : Method} {c : Code} {h0 : ax_Hp} (B : ax_B G p s mi meth c "SchemaDeskModel" prog_12_method_16_code 6 (some (.int))) (E : c.exceptionTable.isEmpty = true) (Nm : meth.name = y_Model_readName.name)   {k31 : Option Nat → Int32 → Int32 → Int32 → Int32 → Int32 → ax_Hp → ax_O} (hk31 : ∀ (x0 : Option Nat) (x1 : Int32) (x2 : Int32) (x3 : Int32) (x4 : Int32) (x5 : Int32) (h : ax_Hp), ax_W G p l e s mi args below meth c 6 (d + 1) h0 31 [(0, ax_A x0), (1, ax_I x1), (2, ax_I x2), (3, ax_I x3), (4, ax_I x4), (5, ax_I x5)] [] h (k31 x0 x1 x2 x3 x4 x5 h)) (x0 : Option Nat) (x1 : Int32) (x2 : Int32) (x3 : Int32) (x4 : Int32) (x5 : Int32) (h : ax_Hp) : ax_W G p l e s mi args below meth c 6 (d + 1) h0 31 [(0, ax_A x0), (1, ax_I x1), (2, ax_I x2), (3, ax_I x3), (4, ax_I x4), (5, ax_I x5)] [] h (Model_readName_bd31 call  k31 x0 x1 x2 x3 x4 x5 h) := by
  unfold Model_readName_bd31
  refine ax_iload B 5 d_Model_readName_31 rfl ?_
  refine ax_if_lt B 71 d_Model_readName_33 (by decide) ?_ ?_
  · refine ax_iload B 4 d_Model_readName_71 rfl ?_
    refine ax_if_ne B 80 d_Model_readName_73 (by decide) ?_ ?_
    · refine ax_aload_n B 0 d_Model_readName_80 rfl rfl ?_
      refine ax_iload_n B 1 d_Model_readName_81 rfl rfl ?_
      refine ax_iload_n B 2 d_Model_readName_82 rfl rfl ?_
      refine ax_iconst (v := 1) B d_Model_readName_83 (by decide) ?_
      refine ax_iadd B d_Model_readName_84 ?_
      refine ax_callVi (av := [ax_I x1, ax_I (x2 + 1)]) (rest := []) B E hm_Model_look cl_Model rfl wd_1096 wp_41 lk_Model_136 d_Model_readName_85 rfl (Nat.le_of_ble_eq_true rfl) (fun _ _ hh => hcall 155 _ _ _ _ hh) (fun v11 h10 => ?_)
      refine ax_bipush (v := 58) B d_Model_readName_88 (by decide) ?_
      refine ax_icmp_ne B 99 d_Model_readName_90 (by decide) ?_ ?_
      · refine ax_iconst (v := (-1)) B d_Model_readName_99 (by decide) ?_
        refine ax_iload_n B 2 d_Model_readName_100 rfl rfl ?_
        refine ax_iconst (v := 1) B d_Model_readName_101 (by decide) ?_
        refine ax_iadd B d_Model_readName_102 ?_
        refine ax_isub B d_Model_readName_103 ?_
        exact ax_ireturn B d_Model_readName_104
      · refine ax_iload_n B 2 d_Model_readName_93 rfl rfl ?_
        refine ax_iconst (v := 2) B d_Model_readName_94 (by decide) ?_
        refine ax_iadd B d_Model_readName_95 ?_
        refine ax_goto B 104 d_Model_readName_96 (by decide) ?_
        exact ax_ireturn B d_Model_readName_104
    · refine ax_iconst (v := (-1)) B d_Model_readName_76 (by decide) ?_
      refine ax_iload_n B 2 d_Model_readName_77 rfl rfl ?_
      refine ax_isub B d_Model_readName_78 ?_
      exact ax_ireturn B d_Model_readName_79
  · refine ax_iload B 4 d_Model_readName_36 rfl ?_
    refine ax_if_eq B 56 d_Model_readName_38 (by decide) ?_ ?_
    · refine ax_sub (tv2 := [(0, ax_A x0), (1, ax_I x1), (2, ax_I x2), (3, ax_I x3), (5, ax_I x5)]) [0, 1, 2, 3, 5] rfl ?_
      exact Model_readName_jq56 hcall B E Nm k31 hk31 x0 x1 x2 x3 x5 h
    · refine ax_aload_n B 0 d_Model_readName_41 rfl rfl ?_
      refine ax_getfr B cl_Model (by decide) fk_Model_60 d_Model_readName_42 (fun v14 => ?_)
      refine ax_iload B 5 d_Model_readName_45 rfl ?_
      refine ax_cald (kd := 3) B (by decide) rfl d_Model_readName_47 (fun v15 => ?_)
      refine ax_iload_n B 3 d_Model_readName_48 rfl rfl ?_
      refine ax_icmp_eq B 56 d_Model_readName_49 (by decide) ?_ ?_
      · refine ax_sub (tv2 := [(0, ax_A x0), (1, ax_I x1), (2, ax_I x2), (3, ax_I x3), (5, ax_I x5)]) [0, 1, 2, 3, 5] rfl ?_
        exact Model_readName_jq56 hcall B E Nm k31 hk31 x0 x1 x2 x3 x5 h
      · refine ax_iconst (v := 1) B d_Model_readName_52 (by decide) ?_
        refine ax_goto B 57 d_Model_readName_53 (by decide) ?_
        refine ax_sub (tv2 := [(0, ax_A x0), (1, ax_I x1), (2, ax_I x2), (3, ax_I x3), (5, ax_I x5)]) [0, 1, 2, 3, 5] rfl ?_
        exact Model_readName_jq57 hcall B E Nm k31 hk31 x0 x1 x2 x3 x5 1 h
theorem Model_readName_lq31 {l : Launch} {G : ax_G} {d : Nat} {call : ax_Cf} (hcall : ax_Hc l G d call) {p : Program} {e : Env} {s : State} {mi : MethodId} {args : Array Value} {below : List Frame} {meth : Method} {c : Code} {h0 : ax_Hp} (B : ax_B G p s mi meth c "SchemaDeskModel" prog_12_method_16_code 6 (some (.int))) (E : c.exceptionTable.isEmpty = true) (Nm : meth.name = y_Model_readName.name)   : ∀ (n : Nat) (x0 : Option Nat) (x1 : Int32) (x2 : Int32) (x3 : Int32) (x4 : Int32) (x5 : Int32) (h : ax_Hp), ax_W G p l e s mi args below meth c 6 (d + 1) h0 31 [(0, ax_A x0), (1, ax_I x1), (2, ax_I x2), (3, ax_I x3), (4, ax_I x4), (5, ax_I x5)] [] h (Model_readName_lp31 call  n x0 x1 x2 x3 x4 x5 h)
  | 0, _, _, _, _, _, _, _ => ax_none
  | n + 1, x0, x1, x2, x3, x4, x5, h => Model_readName_lb31 hcall B E Nm   (Model_readName_lq31 hcall B E Nm   n) x0 x1 x2 x3 x4 x5 h
def Model_readName_b (call : ax_Cf) (x0 : Option Nat) (x1 : Int32) (x2 : Int32) (h : ax_Hp) : ax_O :=
  ax_on h x0 9 <| ax_ci (call 155 [ax_A x0, ax_I x1, ax_I x2] h) fun v2 h1 =>
  ax_ci (call 175 [ax_I v2] h1) fun v4 h3 =>
  (ax_gr h3 x0 9 18).bind fun v5 =>
  (ax_gr h3 x0 9 27).bind fun v6 =>
  (ax_gi h3 x0 9 26).bind fun v7 =>
  (ax_ldi h3 v6 1 (v7 - 1)).bind fun v8 =>
  (ax_ldi h3 v5 1 v8).bind fun v9 =>
  Model_readName_lp31 call ax_fuel x0 x1 x2 v2 v4 v9 h3
set_option maxHeartbeats 4000000 in
set_option maxRecDepth 20000 in
theorem Model_readName_t {l : Launch} {G : ax_G} {d : Nat} {call : ax_Cf} (hcall : ax_Hc l G d call) (x0 : Option Nat) (x1 : Int32) (x2 : Int32) (h : ax_Hp) {r : ax_Rs} {h' : ax_Hp} (ho : Model_readName_b call x0 x1 x2 h = some (r, h')) : ax_C l G (d + 1) y_Model_readName (.code y_Model_readName prog_12_method_16_code 6 (some (.int))) [ax_A x0, ax_I x1, ax_I x2] h r h' := by
  refine ax_enter (by decide) (Nat.le_of_ble_eq_true rfl) ho (fun p e s mi args below meth c B E Nm => ?_)
  have B : ax_B G p s mi meth c "SchemaDeskModel" prog_12_method_16_code 6 (some (.int)) := B
  show ax_W G p l e s mi args below meth c 6 (d + 1) h 0 [(0, ax_A x0), (1, ax_I x1), (2, ax_I x2)] [] h (Model_readName_b call x0 x1 x2 h)
  unfold Model_readName_b
  refine ax_aload_n B 0 d_Model_readName_0 rfl rfl ?_
  refine ax_iload_n B 1 d_Model_readName_1 rfl rfl ?_
  refine ax_iload_n B 2 d_Model_readName_2 rfl rfl ?_
  refine ax_callVi (av := [ax_I x1, ax_I x2]) (rest := []) B E hm_Model_look cl_Model rfl wd_1096 wp_41 lk_Model_136 d_Model_readName_3 rfl (Nat.le_of_ble_eq_true rfl) (fun _ _ hh => hcall 155 _ _ _ _ hh) (fun v2 h1 => ?_)
  refine ax_istore_n (tv2 := [(3, ax_I v2), (0, ax_A x0), (1, ax_I x1), (2, ax_I x2)]) B d_Model_readName_6 rfl (by decide) rfl ?_
  refine ax_iload_n B 0 d_Model_readName_7 rfl rfl ?_
  refine ax_callSi (av := [ax_I v2]) (rest := []) B E hm_Model_isSmall wd_1181 lk_Model_140 d_Model_readName_8 rfl (Nat.le_of_ble_eq_true rfl) (fun _ _ hh => hcall 175 _ _ _ _ hh) (fun v4 h3 => ?_)
  refine ax_istore (tv2 := [(4, ax_I v4), (3, ax_I v2), (0, ax_A x0), (1, ax_I x1), (2, ax_I x2)]) B d_Model_readName_11 (by decide) rfl ?_
  refine ax_aload_n B 2 d_Model_readName_13 rfl rfl ?_
  refine ax_getfr B cl_Model (by decide) fk_Model_51 d_Model_readName_14 (fun v5 => ?_)
  refine ax_aload_n B 2 d_Model_readName_17 rfl rfl ?_
  refine ax_getfr B cl_Model (by decide) fk_Model_76 d_Model_readName_18 (fun v6 => ?_)
  refine ax_aload_n B 2 d_Model_readName_21 rfl rfl ?_
  refine ax_getfi B cl_Model (by decide) fk_Model_133 d_Model_readName_22 (fun v7 => ?_)
  refine ax_iconst (v := 1) B d_Model_readName_25 (by decide) ?_
  refine ax_isub B d_Model_readName_26 ?_
  refine ax_iald (kd := 1) B (by decide) rfl d_Model_readName_27 (fun v8 => ?_)
  refine ax_iald (kd := 1) B (by decide) rfl d_Model_readName_28 (fun v9 => ?_)
  refine ax_istore (tv2 := [(5, ax_I v9), (4, ax_I v4), (3, ax_I v2), (0, ax_A x0), (1, ax_I x1), (2, ax_I x2)]) B d_Model_readName_29 (by decide) rfl ?_
  refine ax_sub (tv2 := [(0, ax_A x0), (1, ax_I x1), (2, ax_I x2), (3, ax_I v2), (4, ax_I v4), (5, ax_I v9)]) [3, 4, 5, 2, 1, 0] rfl ?_
  exact Model_readName_lq31 hcall B E Nm ax_fuel x0 x1 x2 v2 v4 v9 h3

theorem d_Model_sameText_0 : decode prog_12_method_56_code 0 = .ok (.aload_n 0, 1) := by decide +kernel
theorem d_Model_sameText_1 : decode prog_12_method_56_code 1 = .ok (.getfield 36, 3) := by decide +kernel
theorem d_Model_sameText_4 : decode prog_12_method_56_code 4 = .ok (.iload_n 1, 1) := by decide +kernel
theorem d_Model_sameText_5 : decode prog_12_method_56_code 5 = .ok (.iaload, 1) := by decide +kernel
theorem d_Model_sameText_6 : decode prog_12_method_56_code 6 = .ok (.aload_n 0, 1) := by decide +kernel
theorem d_Model_sameText_7 : decode prog_12_method_56_code 7 = .ok (.getfield 124, 3) := by decide +kernel
theorem d_Model_sameText_10 : decode prog_12_method_56_code 10 = .ok (.if_icmp .ne 7, 3) := by decide +kernel
theorem d_Model_sameText_13 : decode prog_12_method_56_code 13 = .ok (.iconst 1, 1) := by decide +kernel
theorem d_Model_sameText_14 : decode prog_12_method_56_code 14 = .ok (.goto 4, 3) := by decide +kernel
theorem d_Model_sameText_17 : decode prog_12_method_56_code 17 = .ok (.iconst 0, 1) := by decide +kernel
theorem d_Model_sameText_18 : decode prog_12_method_56_code 18 = .ok (.istore_n 2, 1) := by decide +kernel
theorem d_Model_sameText_19 : decode prog_12_method_56_code 19 = .ok (.iconst 0, 1) := by decide +kernel
theorem d_Model_sameText_20 : decode prog_12_method_56_code 20 = .ok (.istore_n 3, 1) := by decide +kernel
theorem d_Model_sameText_21 : decode prog_12_method_56_code 21 = .ok (.iload_n 3, 1) := by decide +kernel
theorem d_Model_sameText_22 : decode prog_12_method_56_code 22 = .ok (.aload_n 0, 1) := by decide +kernel
theorem d_Model_sameText_23 : decode prog_12_method_56_code 23 = .ok (.getfield 124, 3) := by decide +kernel
theorem d_Model_sameText_26 : decode prog_12_method_56_code 26 = .ok (.if_icmp .ge 40, 3) := by decide +kernel
theorem d_Model_sameText_29 : decode prog_12_method_56_code 29 = .ok (.iload_n 2, 1) := by decide +kernel
theorem d_Model_sameText_30 : decode prog_12_method_56_code 30 = .ok (.ifCond .eq 36, 3) := by decide +kernel
theorem d_Model_sameText_33 : decode prog_12_method_56_code 33 = .ok (.aload_n 0, 1) := by decide +kernel
theorem d_Model_sameText_34 : decode prog_12_method_56_code 34 = .ok (.getfield 33, 3) := by decide +kernel
theorem d_Model_sameText_37 : decode prog_12_method_56_code 37 = .ok (.sipush 160, 3) := by decide +kernel
theorem d_Model_sameText_40 : decode prog_12_method_56_code 40 = .ok (.iload_n 1, 1) := by decide +kernel
theorem d_Model_sameText_41 : decode prog_12_method_56_code 41 = .ok (.imul, 1) := by decide +kernel
theorem d_Model_sameText_42 : decode prog_12_method_56_code 42 = .ok (.iload_n 3, 1) := by decide +kernel
theorem d_Model_sameText_43 : decode prog_12_method_56_code 43 = .ok (.iadd, 1) := by decide +kernel
theorem d_Model_sameText_44 : decode prog_12_method_56_code 44 = .ok (.caload, 1) := by decide +kernel
theorem d_Model_sameText_45 : decode prog_12_method_56_code 45 = .ok (.aload_n 0, 1) := by decide +kernel
theorem d_Model_sameText_46 : decode prog_12_method_56_code 46 = .ok (.getfield 7, 3) := by decide +kernel
theorem d_Model_sameText_49 : decode prog_12_method_56_code 49 = .ok (.iload_n 3, 1) := by decide +kernel
theorem d_Model_sameText_50 : decode prog_12_method_56_code 50 = .ok (.caload, 1) := by decide +kernel
theorem d_Model_sameText_51 : decode prog_12_method_56_code 51 = .ok (.if_icmp .ne 7, 3) := by decide +kernel
theorem d_Model_sameText_54 : decode prog_12_method_56_code 54 = .ok (.iconst 1, 1) := by decide +kernel
theorem d_Model_sameText_55 : decode prog_12_method_56_code 55 = .ok (.goto 4, 3) := by decide +kernel
theorem d_Model_sameText_58 : decode prog_12_method_56_code 58 = .ok (.iconst 0, 1) := by decide +kernel
theorem d_Model_sameText_59 : decode prog_12_method_56_code 59 = .ok (.istore_n 2, 1) := by decide +kernel
theorem d_Model_sameText_60 : decode prog_12_method_56_code 60 = .ok (.iinc 3 1, 3) := by decide +kernel
theorem d_Model_sameText_63 : decode prog_12_method_56_code 63 = .ok (.goto (-42), 3) := by decide +kernel
theorem d_Model_sameText_66 : decode prog_12_method_56_code 66 = .ok (.iload_n 2, 1) := by decide +kernel
theorem d_Model_sameText_67 : decode prog_12_method_56_code 67 = .ok (.ireturn, 1) := by decide +kernel
def Model_sameText_jn66 (call : ax_Cf)  (x2 : Int32) (h : ax_Hp) : ax_O :=
  ax_rz x2 h
set_option maxHeartbeats 4000000 in
set_option maxRecDepth 20000 in
theorem Model_sameText_jq66 {l : Launch} {G : ax_G} {d : Nat} {call : ax_Cf} (hcall : ax_Hc l G d call) {p : Program} {e : Env} {s : State} {mi : MethodId} {args : Array Value} {below : List Frame} {meth : Method} {c : Code} {h0 : ax_Hp} (B : ax_B G p s mi meth c "SchemaDeskModel" prog_12_method_56_code 4 (some (.boolean))) (E : c.exceptionTable.isEmpty = true) (Nm : meth.name = y_Model_sameText.name)   (x2 : Int32) (h : ax_Hp) : ax_W G p l e s mi args below meth c 4 (d + 1) h0 66 [(2, ax_I x2)] [] h (Model_sameText_jn66 call  x2 h) := by
  unfold Model_sameText_jn66
  refine ax_iload_n B 0 d_Model_sameText_66 rfl rfl ?_
  exact ax_zreturn B d_Model_sameText_67
def Model_sameText_jn59 (call : ax_Cf) (k21 : Option Nat → Int32 → Int32 → Int32 → ax_Hp → ax_O) (x0 : Option Nat) (x1 : Int32) (x3 : Int32) (s0 : Int32) (h : ax_Hp) : ax_O :=
  k21 x0 x1 s0 (x3 + 1) h
set_option maxHeartbeats 4000000 in
set_option maxRecDepth 20000 in
theorem Model_sameText_jq59 {l : Launch} {G : ax_G} {d : Nat} {call : ax_Cf} (hcall : ax_Hc l G d call) {p : Program} {e : Env} {s : State} {mi : MethodId} {args : Array Value} {below : List Frame} {meth : Method} {c : Code} {h0 : ax_Hp} (B : ax_B G p s mi meth c "SchemaDeskModel" prog_12_method_56_code 4 (some (.boolean))) (E : c.exceptionTable.isEmpty = true) (Nm : meth.name = y_Model_sameText.name) (k21 : Option Nat → Int32 → Int32 → Int32 → ax_Hp → ax_O) (hk21 : ∀ (x0 : Option Nat) (x1 : Int32) (x2 : Int32) (x3 : Int32) (h : ax_Hp), ax_W G p l e s mi args below meth c 4 (d + 1) h0 21 [(0, ax_A x0), (1, ax_I x1), (2, ax_I x2), (3, ax_I x3)] [] h (k21 x0 x1 x2 x3 h)) (x0 : Option Nat) (x1 : Int32) (x3 : Int32) (s0 : Int32) (h : ax_Hp) : ax_W G p l e s mi args below meth c 4 (d + 1) h0 59 [(0, ax_A x0), (1, ax_I x1), (3, ax_I x3)] [ax_I s0] h (Model_sameText_jn59 call k21 x0 x1 x3 s0 h) := by
  unfold Model_sameText_jn59
  refine ax_istore_n (tv2 := [(2, ax_I s0), (0, ax_A x0), (1, ax_I x1), (3, ax_I x3)]) B d_Model_sameText_59 rfl (by decide) rfl ?_
  refine ax_iinc (v := x3 + 1) (tv2 := [(3, ax_I (x3 + 1)), (2, ax_I s0), (0, ax_A x0), (1, ax_I x1)]) B 3 d_Model_sameText_60 rfl (congrArg (_ + ·) (by decide)) (by decide) rfl ?_
  refine ax_goto B 21 d_Model_sameText_63 (by decide) ?_
  refine ax_sub (tv2 := [(0, ax_A x0), (1, ax_I x1), (2, ax_I s0), (3, ax_I (x3 + 1))]) [2, 3, 1, 0] rfl ?_
  exact hk21 x0 x1 s0 (x3 + 1) h
def Model_sameText_bd21 (call : ax_Cf)  (k21 : Option Nat → Int32 → Int32 → Int32 → ax_Hp → ax_O) (x0 : Option Nat) (x1 : Int32) (x2 : Int32) (x3 : Int32) (h : ax_Hp) : ax_O :=
  (ax_gi h x0 9 1).bind fun v4 =>
  if v4 ≤ x3 then
    Model_sameText_jn66 call x2 h
  else
    if x2 = 0 then
      Model_sameText_jn66 call x2 h
    else
      (ax_gr h x0 9 12).bind fun v5 =>
      (ax_ldi h v5 3 ((160 * x1) + x3)).bind fun v6 =>
      (ax_gr h x0 9 2).bind fun v7 =>
      (ax_ldi h v7 3 x3).bind fun v8 =>
      if v6 = v8 then
        Model_sameText_jn59 call k21 x0 x1 x3 1 h
      else
        Model_sameText_jn59 call k21 x0 x1 x3 0 h
def Model_sameText_lp21 (call : ax_Cf)  : Nat → Option Nat → Int32 → Int32 → Int32 → ax_Hp → ax_O
  | 0 => fun _ _ _ _ _ => none
  | n + 1 => Model_sameText_bd21 call  (Model_sameText_lp21 call  n)
set_option maxHeartbeats 4000000 in
set_option maxRecDepth 20000 in
theorem Model_sameText_lb21 {l : Launch} {G : ax_G} {d : Nat} {call : ax_Cf} (hcall : ax_Hc l G d call) {p : Program} {e : Env} {s : State} {mi : MethodId} {args : Array Value} {below : List Frame} {meth : Method} {c : Code} {h0 : ax_Hp} (B : ax_B G p s mi meth c "SchemaDeskModel" prog_12_method_56_code 4 (some (.boolean))) (E : c.exceptionTable.isEmpty = true) (Nm : meth.name = y_Model_sameText.name)   {k21 : Option Nat → Int32 → Int32 → Int32 → ax_Hp → ax_O} (hk21 : ∀ (x0 : Option Nat) (x1 : Int32) (x2 : Int32) (x3 : Int32) (h : ax_Hp), ax_W G p l e s mi args below meth c 4 (d + 1) h0 21 [(0, ax_A x0), (1, ax_I x1), (2, ax_I x2), (3, ax_I x3)] [] h (k21 x0 x1 x2 x3 h)) (x0 : Option Nat) (x1 : Int32) (x2 : Int32) (x3 : Int32) (h : ax_Hp) : ax_W G p l e s mi args below meth c 4 (d + 1) h0 21 [(0, ax_A x0), (1, ax_I x1), (2, ax_I x2), (3, ax_I x3)] [] h (Model_sameText_bd21 call  k21 x0 x1 x2 x3 h) := by
  unfold Model_sameText_bd21
  refine ax_iload_n B 3 d_Model_sameText_21 rfl rfl ?_
  refine ax_aload_n B 0 d_Model_sameText_22 rfl rfl ?_
  refine ax_getfi B cl_Model (by decide) fk_Model_124 d_Model_sameText_23 (fun v4 => ?_)
  refine ax_icmp_ge B 66 d_Model_sameText_26 (by decide) ?_ ?_
  · refine ax_sub (tv2 := [(2, ax_I x2)]) [2] rfl ?_
    exact Model_sameText_jq66 hcall B E Nm x2 h
  · refine ax_iload_n B 2 d_Model_sameText_29 rfl rfl ?_
    refine ax_if_eq B 66 d_Model_sameText_30 (by decide) ?_ ?_
    · refine ax_sub (tv2 := [(2, ax_I x2)]) [2] rfl ?_
      exact Model_sameText_jq66 hcall B E Nm x2 h
    · refine ax_aload_n B 0 d_Model_sameText_33 rfl rfl ?_
      refine ax_getfr B cl_Model (by decide) fk_Model_33 d_Model_sameText_34 (fun v5 => ?_)
      refine ax_sipush (v := 160) B d_Model_sameText_37 (by decide) ?_
      refine ax_iload_n B 1 d_Model_sameText_40 rfl rfl ?_
      refine ax_imul B d_Model_sameText_41 ?_
      refine ax_iload_n B 3 d_Model_sameText_42 rfl rfl ?_
      refine ax_iadd B d_Model_sameText_43 ?_
      refine ax_cald (kd := 3) B (by decide) rfl d_Model_sameText_44 (fun v6 => ?_)
      refine ax_aload_n B 0 d_Model_sameText_45 rfl rfl ?_
      refine ax_getfr B cl_Model (by decide) fk_Model_7 d_Model_sameText_46 (fun v7 => ?_)
      refine ax_iload_n B 3 d_Model_sameText_49 rfl rfl ?_
      refine ax_cald (kd := 3) B (by decide) rfl d_Model_sameText_50 (fun v8 => ?_)
      refine ax_icmp_ne B 58 d_Model_sameText_51 (by decide) ?_ ?_
      · refine ax_iconst (v := 0) B d_Model_sameText_58 (by decide) ?_
        refine ax_sub (tv2 := [(0, ax_A x0), (1, ax_I x1), (3, ax_I x3)]) [0, 1, 3] rfl ?_
        exact Model_sameText_jq59 hcall B E Nm k21 hk21 x0 x1 x3 0 h
      · refine ax_iconst (v := 1) B d_Model_sameText_54 (by decide) ?_
        refine ax_goto B 59 d_Model_sameText_55 (by decide) ?_
        refine ax_sub (tv2 := [(0, ax_A x0), (1, ax_I x1), (3, ax_I x3)]) [0, 1, 3] rfl ?_
        exact Model_sameText_jq59 hcall B E Nm k21 hk21 x0 x1 x3 1 h
theorem Model_sameText_lq21 {l : Launch} {G : ax_G} {d : Nat} {call : ax_Cf} (hcall : ax_Hc l G d call) {p : Program} {e : Env} {s : State} {mi : MethodId} {args : Array Value} {below : List Frame} {meth : Method} {c : Code} {h0 : ax_Hp} (B : ax_B G p s mi meth c "SchemaDeskModel" prog_12_method_56_code 4 (some (.boolean))) (E : c.exceptionTable.isEmpty = true) (Nm : meth.name = y_Model_sameText.name)   : ∀ (n : Nat) (x0 : Option Nat) (x1 : Int32) (x2 : Int32) (x3 : Int32) (h : ax_Hp), ax_W G p l e s mi args below meth c 4 (d + 1) h0 21 [(0, ax_A x0), (1, ax_I x1), (2, ax_I x2), (3, ax_I x3)] [] h (Model_sameText_lp21 call  n x0 x1 x2 x3 h)
  | 0, _, _, _, _, _ => ax_none
  | n + 1, x0, x1, x2, x3, h => Model_sameText_lb21 hcall B E Nm   (Model_sameText_lq21 hcall B E Nm   n) x0 x1 x2 x3 h
def Model_sameText_jn18 (call : ax_Cf)  (x0 : Option Nat) (x1 : Int32) (s0 : Int32) (h : ax_Hp) : ax_O :=
  Model_sameText_lp21 call ax_fuel x0 x1 s0 0 h
set_option maxHeartbeats 4000000 in
set_option maxRecDepth 20000 in
theorem Model_sameText_jq18 {l : Launch} {G : ax_G} {d : Nat} {call : ax_Cf} (hcall : ax_Hc l G d call) {p : Program} {e : Env} {s : State} {mi : MethodId} {args : Array Value} {below : List Frame} {meth : Method} {c : Code} {h0 : ax_Hp} (B : ax_B G p s mi meth c "SchemaDeskModel" prog_12_method_56_code 4 (some (.boolean))) (E : c.exceptionTable.isEmpty = true) (Nm : meth.name = y_Model_sameText.name)   (x0 : Option Nat) (x1 : Int32) (s0 : Int32) (h : ax_Hp) : ax_W G p l e s mi args below meth c 4 (d + 1) h0 18 [(0, ax_A x0), (1, ax_I x1)] [ax_I s0] h (Model_sameText_jn18 call  x0 x1 s0 h) := by
  unfold Model_sameText_jn18
  refine ax_istore_n (tv2 := [(2, ax_I s0), (0, ax_A x0), (1, ax_I x1)]) B d_Model_sameText_18 rfl (by decide) rfl ?_
  refine ax_iconst (v := 0) B d_Model_sameText_19 (by decide) ?_
  refine ax_istore_n (tv2 := [(3, ax_I 0), (2, ax_I s0), (0, ax_A x0), (1, ax_I x1)]) B d_Model_sameText_20 rfl (by decide) rfl ?_
  refine ax_sub (tv2 := [(0, ax_A x0), (1, ax_I x1), (2, ax_I s0), (3, ax_I 0)]) [2, 3, 1, 0] rfl ?_
  exact Model_sameText_lq21 hcall B E Nm ax_fuel x0 x1 s0 0 h
def Model_sameText_b (call : ax_Cf) (x0 : Option Nat) (x1 : Int32) (h : ax_Hp) : ax_O :=
  (ax_gr h x0 9 13).bind fun v1 =>
  (ax_ldi h v1 1 x1).bind fun v2 =>
  (ax_gi h x0 9 1).bind fun v3 =>
  if v2 = v3 then
    Model_sameText_jn18 call x0 x1 1 h
  else
    Model_sameText_jn18 call x0 x1 0 h
set_option maxHeartbeats 4000000 in
set_option maxRecDepth 20000 in
theorem Model_sameText_t {l : Launch} {G : ax_G} {d : Nat} {call : ax_Cf} (hcall : ax_Hc l G d call) (x0 : Option Nat) (x1 : Int32) (h : ax_Hp) {r : ax_Rs} {h' : ax_Hp} (ho : Model_sameText_b call x0 x1 h = some (r, h')) : ax_C l G (d + 1) y_Model_sameText (.code y_Model_sameText prog_12_method_56_code 4 (some (.boolean))) [ax_A x0, ax_I x1] h r h' := by
  refine ax_enter (by decide) (Nat.le_of_ble_eq_true rfl) ho (fun p e s mi args below meth c B E Nm => ?_)
  have B : ax_B G p s mi meth c "SchemaDeskModel" prog_12_method_56_code 4 (some (.boolean)) := B
  show ax_W G p l e s mi args below meth c 4 (d + 1) h 0 [(0, ax_A x0), (1, ax_I x1)] [] h (Model_sameText_b call x0 x1 h)
  unfold Model_sameText_b
  refine ax_aload_n B 0 d_Model_sameText_0 rfl rfl ?_
  refine ax_getfr B cl_Model (by decide) fk_Model_36 d_Model_sameText_1 (fun v1 => ?_)
  refine ax_iload_n B 1 d_Model_sameText_4 rfl rfl ?_
  refine ax_iald (kd := 1) B (by decide) rfl d_Model_sameText_5 (fun v2 => ?_)
  refine ax_aload_n B 0 d_Model_sameText_6 rfl rfl ?_
  refine ax_getfi B cl_Model (by decide) fk_Model_124 d_Model_sameText_7 (fun v3 => ?_)
  refine ax_icmp_ne B 17 d_Model_sameText_10 (by decide) ?_ ?_
  · refine ax_iconst (v := 0) B d_Model_sameText_17 (by decide) ?_
    refine ax_sub (tv2 := [(0, ax_A x0), (1, ax_I x1)]) [0, 1] rfl ?_
    exact Model_sameText_jq18 hcall B E Nm x0 x1 0 h
  · refine ax_iconst (v := 1) B d_Model_sameText_13 (by decide) ?_
    refine ax_goto B 18 d_Model_sameText_14 (by decide) ?_
    refine ax_sub (tv2 := [(0, ax_A x0), (1, ax_I x1)]) [0, 1] rfl ?_
    exact Model_sameText_jq18 hcall B E Nm x0 x1 1 h

theorem d_Model_getsOn_0 : decode prog_12_method_57_code 0 = .ok (.aload_n 0, 1) := by decide +kernel
theorem d_Model_getsOn_1 : decode prog_12_method_57_code 1 = .ok (.iconst 0, 1) := by decide +kernel
theorem d_Model_getsOn_2 : decode prog_12_method_57_code 2 = .ok (.invokevirtual 328, 3) := by decide +kernel
theorem d_Model_getsOn_5 : decode prog_12_method_57_code 5 = .ok (.pop, 1) := by decide +kernel
theorem d_Model_getsOn_6 : decode prog_12_method_57_code 6 = .ok (.aload_n 0, 1) := by decide +kernel
theorem d_Model_getsOn_7 : decode prog_12_method_57_code 7 = .ok (.iconst 1, 1) := by decide +kernel
theorem d_Model_getsOn_8 : decode prog_12_method_57_code 8 = .ok (.iload_n 2, 1) := by decide +kernel
theorem d_Model_getsOn_9 : decode prog_12_method_57_code 9 = .ok (.invokevirtual 331, 3) := by decide +kernel
theorem d_Model_getsOn_12 : decode prog_12_method_57_code 12 = .ok (.aload_n 0, 1) := by decide +kernel
theorem d_Model_getsOn_13 : decode prog_12_method_57_code 13 = .ok (.invokevirtual 334, 3) := by decide +kernel
theorem d_Model_getsOn_16 : decode prog_12_method_57_code 16 = .ok (.istore_n 3, 1) := by decide +kernel
theorem d_Model_getsOn_17 : decode prog_12_method_57_code 17 = .ok (.aload_n 0, 1) := by decide +kernel
theorem d_Model_getsOn_18 : decode prog_12_method_57_code 18 = .ok (.iconst 0, 1) := by decide +kernel
theorem d_Model_getsOn_19 : decode prog_12_method_57_code 19 = .ok (.iload_n 2, 1) := by decide +kernel
theorem d_Model_getsOn_20 : decode prog_12_method_57_code 20 = .ok (.invokevirtual 331, 3) := by decide +kernel
theorem d_Model_getsOn_23 : decode prog_12_method_57_code 23 = .ok (.aload_n 0, 1) := by decide +kernel
theorem d_Model_getsOn_24 : decode prog_12_method_57_code 24 = .ok (.iconst 1, 1) := by decide +kernel
theorem d_Model_getsOn_25 : decode prog_12_method_57_code 25 = .ok (.invokevirtual 328, 3) := by decide +kernel
theorem d_Model_getsOn_28 : decode prog_12_method_57_code 28 = .ok (.pop, 1) := by decide +kernel
theorem d_Model_getsOn_29 : decode prog_12_method_57_code 29 = .ok (.aload_n 0, 1) := by decide +kernel
theorem d_Model_getsOn_30 : decode prog_12_method_57_code 30 = .ok (.invokevirtual 334, 3) := by decide +kernel
theorem d_Model_getsOn_33 : decode prog_12_method_57_code 33 = .ok (.istore 4, 2) := by decide +kernel
theorem d_Model_getsOn_35 : decode prog_12_method_57_code 35 = .ok (.iload_n 1, 1) := by decide +kernel
theorem d_Model_getsOn_36 : decode prog_12_method_57_code 36 = .ok (.iconst 3, 1) := by decide +kernel
theorem d_Model_getsOn_37 : decode prog_12_method_57_code 37 = .ok (.if_icmp .le 9, 3) := by decide +kernel
theorem d_Model_getsOn_40 : decode prog_12_method_57_code 40 = .ok (.iload_n 1, 1) := by decide +kernel
theorem d_Model_getsOn_41 : decode prog_12_method_57_code 41 = .ok (.iconst 3, 1) := by decide +kernel
theorem d_Model_getsOn_42 : decode prog_12_method_57_code 42 = .ok (.isub, 1) := by decide +kernel
theorem d_Model_getsOn_43 : decode prog_12_method_57_code 43 = .ok (.goto 4, 3) := by decide +kernel
theorem d_Model_getsOn_46 : decode prog_12_method_57_code 46 = .ok (.iload_n 1, 1) := by decide +kernel
theorem d_Model_getsOn_47 : decode prog_12_method_57_code 47 = .ok (.istore 5, 2) := by decide +kernel
theorem d_Model_getsOn_49 : decode prog_12_method_57_code 49 = .ok (.iload 5, 2) := by decide +kernel
theorem d_Model_getsOn_51 : decode prog_12_method_57_code 51 = .ok (.ifCond .eq 24, 3) := by decide +kernel
theorem d_Model_getsOn_54 : decode prog_12_method_57_code 54 = .ok (.iload 5, 2) := by decide +kernel
theorem d_Model_getsOn_56 : decode prog_12_method_57_code 56 = .ok (.iconst 2, 1) := by decide +kernel
theorem d_Model_getsOn_57 : decode prog_12_method_57_code 57 = .ok (.if_icmp .eq 7, 3) := by decide +kernel
theorem d_Model_getsOn_60 : decode prog_12_method_57_code 60 = .ok (.iload_n 3, 1) := by decide +kernel
theorem d_Model_getsOn_61 : decode prog_12_method_57_code 61 = .ok (.ifCond .eq 18, 3) := by decide +kernel
theorem d_Model_getsOn_64 : decode prog_12_method_57_code 64 = .ok (.iload 5, 2) := by decide +kernel
theorem d_Model_getsOn_66 : decode prog_12_method_57_code 66 = .ok (.iconst 1, 1) := by decide +kernel
theorem d_Model_getsOn_67 : decode prog_12_method_57_code 67 = .ok (.if_icmp .eq 8, 3) := by decide +kernel
theorem d_Model_getsOn_70 : decode prog_12_method_57_code 70 = .ok (.iload 4, 2) := by decide +kernel
theorem d_Model_getsOn_72 : decode prog_12_method_57_code 72 = .ok (.ifCond .eq 7, 3) := by decide +kernel
theorem d_Model_getsOn_75 : decode prog_12_method_57_code 75 = .ok (.iconst 1, 1) := by decide +kernel
theorem d_Model_getsOn_76 : decode prog_12_method_57_code 76 = .ok (.goto 4, 3) := by decide +kernel
theorem d_Model_getsOn_79 : decode prog_12_method_57_code 79 = .ok (.iconst 0, 1) := by decide +kernel
theorem d_Model_getsOn_80 : decode prog_12_method_57_code 80 = .ok (.ireturn, 1) := by decide +kernel
def Model_getsOn_jn75 (call : ax_Cf)   (h : ax_Hp) : ax_O :=
  ax_rz 1 h
set_option maxHeartbeats 4000000 in
set_option maxRecDepth 20000 in
theorem Model_getsOn_jq75 {l : Launch} {G : ax_G} {d : Nat} {call : ax_Cf} (hcall : ax_Hc l G d call) {p : Program} {e : Env} {s : State} {mi : MethodId} {args : Array Value} {below : List Frame} {meth : Method} {c : Code} {h0 : ax_Hp} (B : ax_B G p s mi meth c "SchemaDeskModel" prog_12_method_57_code 6 (some (.boolean))) (E : c.exceptionTable.isEmpty = true) (Nm : meth.name = y_Model_getsOn.name)    (h : ax_Hp) : ax_W G p l e s mi args below meth c 6 (d + 1) h0 75 [] [] h (Model_getsOn_jn75 call   h) := by
  unfold Model_getsOn_jn75
  refine ax_iconst (v := 1) B d_Model_getsOn_75 (by decide) ?_
  refine ax_goto B 80 d_Model_getsOn_76 (by decide) ?_
  exact ax_zreturn B d_Model_getsOn_80
def Model_getsOn_jn64 (call : ax_Cf)  (x4 : Int32) (x5 : Int32) (h : ax_Hp) : ax_O :=
  if x5 = 1 then
    Model_getsOn_jn75 call h
  else
    if x4 = 0 then
      ax_rz 0 h
    else
      Model_getsOn_jn75 call h
set_option maxHeartbeats 4000000 in
set_option maxRecDepth 20000 in
theorem Model_getsOn_jq64 {l : Launch} {G : ax_G} {d : Nat} {call : ax_Cf} (hcall : ax_Hc l G d call) {p : Program} {e : Env} {s : State} {mi : MethodId} {args : Array Value} {below : List Frame} {meth : Method} {c : Code} {h0 : ax_Hp} (B : ax_B G p s mi meth c "SchemaDeskModel" prog_12_method_57_code 6 (some (.boolean))) (E : c.exceptionTable.isEmpty = true) (Nm : meth.name = y_Model_getsOn.name)   (x4 : Int32) (x5 : Int32) (h : ax_Hp) : ax_W G p l e s mi args below meth c 6 (d + 1) h0 64 [(4, ax_I x4), (5, ax_I x5)] [] h (Model_getsOn_jn64 call  x4 x5 h) := by
  unfold Model_getsOn_jn64
  refine ax_iload B 1 d_Model_getsOn_64 rfl ?_
  refine ax_iconst (v := 1) B d_Model_getsOn_66 (by decide) ?_
  refine ax_icmp_eq B 75 d_Model_getsOn_67 (by decide) ?_ ?_
  · refine ax_sub (tv2 := []) [] rfl ?_
    exact Model_getsOn_jq75 hcall B E Nm h
  · refine ax_iload B 0 d_Model_getsOn_70 rfl ?_
    refine ax_if_eq B 79 d_Model_getsOn_72 (by decide) ?_ ?_
    · refine ax_iconst (v := 0) B d_Model_getsOn_79 (by decide) ?_
      exact ax_zreturn B d_Model_getsOn_80
    · refine ax_sub (tv2 := []) [] rfl ?_
      exact Model_getsOn_jq75 hcall B E Nm h
def Model_getsOn_jn47 (call : ax_Cf)  (x3 : Int32) (x4 : Int32) (s0 : Int32) (h : ax_Hp) : ax_O :=
  if s0 = 0 then
    Model_getsOn_jn75 call h
  else
    if s0 = 2 then
      Model_getsOn_jn64 call x4 s0 h
    else
      if x3 = 0 then
        ax_rz 0 h
      else
        Model_getsOn_jn64 call x4 s0 h
set_option maxHeartbeats 4000000 in
set_option maxRecDepth 20000 in
theorem Model_getsOn_jq47 {l : Launch} {G : ax_G} {d : Nat} {call : ax_Cf} (hcall : ax_Hc l G d call) {p : Program} {e : Env} {s : State} {mi : MethodId} {args : Array Value} {below : List Frame} {meth : Method} {c : Code} {h0 : ax_Hp} (B : ax_B G p s mi meth c "SchemaDeskModel" prog_12_method_57_code 6 (some (.boolean))) (E : c.exceptionTable.isEmpty = true) (Nm : meth.name = y_Model_getsOn.name)   (x3 : Int32) (x4 : Int32) (s0 : Int32) (h : ax_Hp) : ax_W G p l e s mi args below meth c 6 (d + 1) h0 47 [(3, ax_I x3), (4, ax_I x4)] [ax_I s0] h (Model_getsOn_jn47 call  x3 x4 s0 h) := by
  unfold Model_getsOn_jn47
  refine ax_istore (tv2 := [(5, ax_I s0), (3, ax_I x3), (4, ax_I x4)]) B d_Model_getsOn_47 (by decide) rfl ?_
  refine ax_iload B 0 d_Model_getsOn_49 rfl ?_
  refine ax_if_eq B 75 d_Model_getsOn_51 (by decide) ?_ ?_
  · refine ax_sub (tv2 := []) [] rfl ?_
    exact Model_getsOn_jq75 hcall B E Nm h
  · refine ax_iload B 0 d_Model_getsOn_54 rfl ?_
    refine ax_iconst (v := 2) B d_Model_getsOn_56 (by decide) ?_
    refine ax_icmp_eq B 64 d_Model_getsOn_57 (by decide) ?_ ?_
    · refine ax_sub (tv2 := [(4, ax_I x4), (5, ax_I s0)]) [2, 0] rfl ?_
      exact Model_getsOn_jq64 hcall B E Nm x4 s0 h
    · refine ax_iload_n B 1 d_Model_getsOn_60 rfl rfl ?_
      refine ax_if_eq B 79 d_Model_getsOn_61 (by decide) ?_ ?_
      · refine ax_iconst (v := 0) B d_Model_getsOn_79 (by decide) ?_
        exact ax_zreturn B d_Model_getsOn_80
      · refine ax_sub (tv2 := [(4, ax_I x4), (5, ax_I s0)]) [2, 0] rfl ?_
        exact Model_getsOn_jq64 hcall B E Nm x4 s0 h
def Model_getsOn_b (call : ax_Cf) (x0 : Option Nat) (x1 : Int32) (x2 : Int32) (h : ax_Hp) : ax_O :=
  ax_on h x0 9 <| ax_ci (call 152 [ax_A x0, ax_I 0] h) fun v2 h1 =>
  ax_on h1 x0 9 <| ax_cv (call 180 [ax_A x0, ax_I 1, ax_I x2] h1) fun h3 =>
  ax_on h3 x0 9 <| ax_ci (call 181 [ax_A x0] h3) fun v6 h5 =>
  ax_on h5 x0 9 <| ax_cv (call 180 [ax_A x0, ax_I 0, ax_I x2] h5) fun h7 =>
  ax_on h7 x0 9 <| ax_ci (call 152 [ax_A x0, ax_I 1] h7) fun v10 h9 =>
  ax_on h9 x0 9 <| ax_ci (call 181 [ax_A x0] h9) fun v12 h11 =>
  if x1 ≤ 3 then
    Model_getsOn_jn47 call v6 v12 x1 h11
  else
    Model_getsOn_jn47 call v6 v12 (x1 - 3) h11
set_option maxHeartbeats 4000000 in
set_option maxRecDepth 20000 in
theorem Model_getsOn_t {l : Launch} {G : ax_G} {d : Nat} {call : ax_Cf} (hcall : ax_Hc l G d call) (x0 : Option Nat) (x1 : Int32) (x2 : Int32) (h : ax_Hp) {r : ax_Rs} {h' : ax_Hp} (ho : Model_getsOn_b call x0 x1 x2 h = some (r, h')) : ax_C l G (d + 1) y_Model_getsOn (.code y_Model_getsOn prog_12_method_57_code 6 (some (.boolean))) [ax_A x0, ax_I x1, ax_I x2] h r h' := by
  refine ax_enter (by decide) (Nat.le_of_ble_eq_true rfl) ho (fun p e s mi args below meth c B E Nm => ?_)
  have B : ax_B G p s mi meth c "SchemaDeskModel" prog_12_method_57_code 6 (some (.boolean)) := B
  show ax_W G p l e s mi args below meth c 6 (d + 1) h 0 [(0, ax_A x0), (1, ax_I x1), (2, ax_I x2)] [] h (Model_getsOn_b call x0 x1 x2 h)
  unfold Model_getsOn_b
  refine ax_aload_n B 0 d_Model_getsOn_0 rfl rfl ?_
  refine ax_iconst (v := 0) B d_Model_getsOn_1 (by decide) ?_
  refine ax_callVi (av := [ax_I 0]) (rest := []) B E hm_Model_loadTyped cl_Model rfl wd_1084 wp_38 lk_Model_328 d_Model_getsOn_2 rfl (Nat.le_of_ble_eq_true rfl) (fun _ _ hh => hcall 152 _ _ _ _ hh) (fun v2 h1 => ?_)
  refine ax_pop B d_Model_getsOn_5 rfl ?_
  refine ax_aload_n B 0 d_Model_getsOn_6 rfl rfl ?_
  refine ax_iconst (v := 1) B d_Model_getsOn_7 (by decide) ?_
  refine ax_iload_n B 2 d_Model_getsOn_8 rfl rfl ?_
  refine ax_callVv (av := [ax_I 1, ax_I x2]) (rest := []) B E hm_Model_load cl_Model rfl wd_1201 wp_65 lk_Model_331 d_Model_getsOn_9 rfl (Nat.le_of_ble_eq_true rfl) (fun _ _ hh => hcall 180 _ _ _ _ hh) (fun h3 => ?_)
  refine ax_aload_n B 0 d_Model_getsOn_12 rfl rfl ?_
  refine ax_callVi (av := []) (rest := []) B E hm_Model_compare cl_Model rfl wd_1205 wp_66 lk_Model_334 d_Model_getsOn_13 rfl (Nat.le_of_ble_eq_true rfl) (fun _ _ hh => hcall 181 _ _ _ _ hh) (fun v6 h5 => ?_)
  refine ax_istore_n (tv2 := [(3, ax_I v6), (0, ax_A x0), (1, ax_I x1), (2, ax_I x2)]) B d_Model_getsOn_16 rfl (by decide) rfl ?_
  refine ax_aload_n B 1 d_Model_getsOn_17 rfl rfl ?_
  refine ax_iconst (v := 0) B d_Model_getsOn_18 (by decide) ?_
  refine ax_iload_n B 3 d_Model_getsOn_19 rfl rfl ?_
  refine ax_callVv (av := [ax_I 0, ax_I x2]) (rest := []) B E hm_Model_load cl_Model rfl wd_1201 wp_65 lk_Model_331 d_Model_getsOn_20 rfl (Nat.le_of_ble_eq_true rfl) (fun _ _ hh => hcall 180 _ _ _ _ hh) (fun h7 => ?_)
  refine ax_aload_n B 1 d_Model_getsOn_23 rfl rfl ?_
  refine ax_iconst (v := 1) B d_Model_getsOn_24 (by decide) ?_
  refine ax_callVi (av := [ax_I 1]) (rest := []) B E hm_Model_loadTyped cl_Model rfl wd_1084 wp_38 lk_Model_328 d_Model_getsOn_25 rfl (Nat.le_of_ble_eq_true rfl) (fun _ _ hh => hcall 152 _ _ _ _ hh) (fun v10 h9 => ?_)
  refine ax_pop B d_Model_getsOn_28 rfl ?_
  refine ax_aload_n B 1 d_Model_getsOn_29 rfl rfl ?_
  refine ax_callVi (av := []) (rest := []) B E hm_Model_compare cl_Model rfl wd_1205 wp_66 lk_Model_334 d_Model_getsOn_30 rfl (Nat.le_of_ble_eq_true rfl) (fun _ _ hh => hcall 181 _ _ _ _ hh) (fun v12 h11 => ?_)
  refine ax_istore (tv2 := [(4, ax_I v12), (3, ax_I v6), (0, ax_A x0), (1, ax_I x1), (2, ax_I x2)]) B d_Model_getsOn_33 (by decide) rfl ?_
  refine ax_iload_n B 3 d_Model_getsOn_35 rfl rfl ?_
  refine ax_iconst (v := 3) B d_Model_getsOn_36 (by decide) ?_
  refine ax_icmp_le B 46 d_Model_getsOn_37 (by decide) ?_ ?_
  · refine ax_iload_n B 3 d_Model_getsOn_46 rfl rfl ?_
    refine ax_sub (tv2 := [(3, ax_I v6), (4, ax_I v12)]) [1, 0] rfl ?_
    exact Model_getsOn_jq47 hcall B E Nm v6 v12 x1 h11
  · refine ax_iload_n B 3 d_Model_getsOn_40 rfl rfl ?_
    refine ax_iconst (v := 3) B d_Model_getsOn_41 (by decide) ?_
    refine ax_isub B d_Model_getsOn_42 ?_
    refine ax_goto B 47 d_Model_getsOn_43 (by decide) ?_
    refine ax_sub (tv2 := [(3, ax_I v6), (4, ax_I v12)]) [1, 0] rfl ?_
    exact Model_getsOn_jq47 hcall B E Nm v6 v12 (x1 - 3) h11

theorem d_Model_load_0 : decode prog_12_method_19_code 0 = .ok (.aload_n 0, 1) := by decide +kernel
theorem d_Model_load_1 : decode prog_12_method_19_code 1 = .ok (.getfield 42, 3) := by decide +kernel
theorem d_Model_load_4 : decode prog_12_method_19_code 4 = .ok (.iload_n 1, 1) := by decide +kernel
theorem d_Model_load_5 : decode prog_12_method_19_code 5 = .ok (.aload_n 0, 1) := by decide +kernel
theorem d_Model_load_6 : decode prog_12_method_19_code 6 = .ok (.getfield 36, 3) := by decide +kernel
theorem d_Model_load_9 : decode prog_12_method_19_code 9 = .ok (.iload_n 2, 1) := by decide +kernel
theorem d_Model_load_10 : decode prog_12_method_19_code 10 = .ok (.iaload, 1) := by decide +kernel
theorem d_Model_load_11 : decode prog_12_method_19_code 11 = .ok (.iastore, 1) := by decide +kernel
theorem d_Model_load_12 : decode prog_12_method_19_code 12 = .ok (.iconst 0, 1) := by decide +kernel
theorem d_Model_load_13 : decode prog_12_method_19_code 13 = .ok (.istore_n 3, 1) := by decide +kernel
theorem d_Model_load_14 : decode prog_12_method_19_code 14 = .ok (.iload_n 3, 1) := by decide +kernel
theorem d_Model_load_15 : decode prog_12_method_19_code 15 = .ok (.aload_n 0, 1) := by decide +kernel
theorem d_Model_load_16 : decode prog_12_method_19_code 16 = .ok (.getfield 42, 3) := by decide +kernel
theorem d_Model_load_19 : decode prog_12_method_19_code 19 = .ok (.iload_n 1, 1) := by decide +kernel
theorem d_Model_load_20 : decode prog_12_method_19_code 20 = .ok (.iaload, 1) := by decide +kernel
theorem d_Model_load_21 : decode prog_12_method_19_code 21 = .ok (.if_icmp .ge 33, 3) := by decide +kernel
theorem d_Model_load_24 : decode prog_12_method_19_code 24 = .ok (.aload_n 0, 1) := by decide +kernel
theorem d_Model_load_25 : decode prog_12_method_19_code 25 = .ok (.getfield 39, 3) := by decide +kernel
theorem d_Model_load_28 : decode prog_12_method_19_code 28 = .ok (.sipush 160, 3) := by decide +kernel
theorem d_Model_load_31 : decode prog_12_method_19_code 31 = .ok (.iload_n 1, 1) := by decide +kernel
theorem d_Model_load_32 : decode prog_12_method_19_code 32 = .ok (.imul, 1) := by decide +kernel
theorem d_Model_load_33 : decode prog_12_method_19_code 33 = .ok (.iload_n 3, 1) := by decide +kernel
theorem d_Model_load_34 : decode prog_12_method_19_code 34 = .ok (.iadd, 1) := by decide +kernel
theorem d_Model_load_35 : decode prog_12_method_19_code 35 = .ok (.aload_n 0, 1) := by decide +kernel
theorem d_Model_load_36 : decode prog_12_method_19_code 36 = .ok (.getfield 33, 3) := by decide +kernel
theorem d_Model_load_39 : decode prog_12_method_19_code 39 = .ok (.sipush 160, 3) := by decide +kernel
theorem d_Model_load_42 : decode prog_12_method_19_code 42 = .ok (.iload_n 2, 1) := by decide +kernel
theorem d_Model_load_43 : decode prog_12_method_19_code 43 = .ok (.imul, 1) := by decide +kernel
theorem d_Model_load_44 : decode prog_12_method_19_code 44 = .ok (.iload_n 3, 1) := by decide +kernel
theorem d_Model_load_45 : decode prog_12_method_19_code 45 = .ok (.iadd, 1) := by decide +kernel
theorem d_Model_load_46 : decode prog_12_method_19_code 46 = .ok (.caload, 1) := by decide +kernel
theorem d_Model_load_47 : decode prog_12_method_19_code 47 = .ok (.castore, 1) := by decide +kernel
theorem d_Model_load_48 : decode prog_12_method_19_code 48 = .ok (.iinc 3 1, 3) := by decide +kernel
theorem d_Model_load_51 : decode prog_12_method_19_code 51 = .ok (.goto (-37), 3) := by decide +kernel
theorem d_Model_load_54 : decode prog_12_method_19_code 54 = .ok (.aload_n 0, 1) := by decide +kernel
theorem d_Model_load_55 : decode prog_12_method_19_code 55 = .ok (.iload_n 1, 1) := by decide +kernel
theorem d_Model_load_56 : decode prog_12_method_19_code 56 = .ok (.invokevirtual 183, 3) := by decide +kernel
theorem d_Model_load_59 : decode prog_12_method_19_code 59 = .ok (.pop, 1) := by decide +kernel
theorem d_Model_load_60 : decode prog_12_method_19_code 60 = .ok (.return_, 1) := by decide +kernel
def Model_load_bd14 (call : ax_Cf)  (k14 : Option Nat → Int32 → Int32 → Int32 → ax_Hp → ax_O) (x0 : Option Nat) (x1 : Int32) (x2 : Int32) (x3 : Int32) (h : ax_Hp) : ax_O :=
  (ax_gr h x0 9 15).bind fun v5 =>
  (ax_ldi h v5 1 x1).bind fun v6 =>
  if v6 ≤ x3 then
    ax_on h x0 9 <| ax_ci (call 153 [ax_A x0, ax_I x1] h) fun v8 h7 =>
    ax_rv h7
  else
    (ax_gr h x0 9 14).bind fun v9 =>
    (ax_gr h x0 9 12).bind fun v10 =>
    (ax_ldi h v10 3 ((160 * x2) + x3)).bind fun v11 =>
    (ax_stc h v9 3 ((160 * x1) + x3) v11).bind fun h12 =>
    k14 x0 x1 x2 (x3 + 1) h12
def Model_load_lp14 (call : ax_Cf)  : Nat → Option Nat → Int32 → Int32 → Int32 → ax_Hp → ax_O
  | 0 => fun _ _ _ _ _ => none
  | n + 1 => Model_load_bd14 call  (Model_load_lp14 call  n)
set_option maxHeartbeats 4000000 in
set_option maxRecDepth 20000 in
theorem Model_load_lb14 {l : Launch} {G : ax_G} {d : Nat} {call : ax_Cf} (hcall : ax_Hc l G d call) {p : Program} {e : Env} {s : State} {mi : MethodId} {args : Array Value} {below : List Frame} {meth : Method} {c : Code} {h0 : ax_Hp} (B : ax_B G p s mi meth c "SchemaDeskModel" prog_12_method_19_code 4 none) (E : c.exceptionTable.isEmpty = true) (Nm : meth.name = y_Model_load.name)   {k14 : Option Nat → Int32 → Int32 → Int32 → ax_Hp → ax_O} (hk14 : ∀ (x0 : Option Nat) (x1 : Int32) (x2 : Int32) (x3 : Int32) (h : ax_Hp), ax_W G p l e s mi args below meth c 4 (d + 1) h0 14 [(0, ax_A x0), (1, ax_I x1), (2, ax_I x2), (3, ax_I x3)] [] h (k14 x0 x1 x2 x3 h)) (x0 : Option Nat) (x1 : Int32) (x2 : Int32) (x3 : Int32) (h : ax_Hp) : ax_W G p l e s mi args below meth c 4 (d + 1) h0 14 [(0, ax_A x0), (1, ax_I x1), (2, ax_I x2), (3, ax_I x3)] [] h (Model_load_bd14 call  k14 x0 x1 x2 x3 h) := by
  unfold Model_load_bd14
  refine ax_iload_n B 3 d_Model_load_14 rfl rfl ?_
  refine ax_aload_n B 0 d_Model_load_15 rfl rfl ?_
  refine ax_getfr B cl_Model (by decide) fk_Model_42 d_Model_load_16 (fun v5 => ?_)
  refine ax_iload_n B 1 d_Model_load_19 rfl rfl ?_
  refine ax_iald (kd := 1) B (by decide) rfl d_Model_load_20 (fun v6 => ?_)
  refine ax_icmp_ge B 54 d_Model_load_21 (by decide) ?_ ?_
  · refine ax_aload_n B 0 d_Model_load_54 rfl rfl ?_
    refine ax_iload_n B 1 d_Model_load_55 rfl rfl ?_
    refine ax_callVi (av := [ax_I x1]) (rest := []) B E hm_Model_readSchema cl_Model rfl wd_1088 wp_39 lk_Model_183 d_Model_load_56 rfl (Nat.le_of_ble_eq_true rfl) (fun _ _ hh => hcall 153 _ _ _ _ hh) (fun v8 h7 => ?_)
    refine ax_pop B d_Model_load_59 rfl ?_
    exact ax_vreturn B d_Model_load_60
  · refine ax_aload_n B 0 d_Model_load_24 rfl rfl ?_
    refine ax_getfr B cl_Model (by decide) fk_Model_39 d_Model_load_25 (fun v9 => ?_)
    refine ax_sipush (v := 160) B d_Model_load_28 (by decide) ?_
    refine ax_iload_n B 1 d_Model_load_31 rfl rfl ?_
    refine ax_imul B d_Model_load_32 ?_
    refine ax_iload_n B 3 d_Model_load_33 rfl rfl ?_
    refine ax_iadd B d_Model_load_34 ?_
    refine ax_aload_n B 0 d_Model_load_35 rfl rfl ?_
    refine ax_getfr B cl_Model (by decide) fk_Model_33 d_Model_load_36 (fun v10 => ?_)
    refine ax_sipush (v := 160) B d_Model_load_39 (by decide) ?_
    refine ax_iload_n B 2 d_Model_load_42 rfl rfl ?_
    refine ax_imul B d_Model_load_43 ?_
    refine ax_iload_n B 3 d_Model_load_44 rfl rfl ?_
    refine ax_iadd B d_Model_load_45 ?_
    refine ax_cald (kd := 3) B (by decide) rfl d_Model_load_46 (fun v11 => ?_)
    refine ax_cast (kd := 3) B (by decide) (by decide) rfl d_Model_load_47 (fun h12 => ?_)
    refine ax_iinc (v := x3 + 1) (tv2 := [(3, ax_I (x3 + 1)), (0, ax_A x0), (1, ax_I x1), (2, ax_I x2)]) B 3 d_Model_load_48 rfl (congrArg (_ + ·) (by decide)) (by decide) rfl ?_
    refine ax_goto B 14 d_Model_load_51 (by decide) ?_
    refine ax_sub (tv2 := [(0, ax_A x0), (1, ax_I x1), (2, ax_I x2), (3, ax_I (x3 + 1))]) [1, 2, 3, 0] rfl ?_
    exact hk14 x0 x1 x2 (x3 + 1) h12
theorem Model_load_lq14 {l : Launch} {G : ax_G} {d : Nat} {call : ax_Cf} (hcall : ax_Hc l G d call) {p : Program} {e : Env} {s : State} {mi : MethodId} {args : Array Value} {below : List Frame} {meth : Method} {c : Code} {h0 : ax_Hp} (B : ax_B G p s mi meth c "SchemaDeskModel" prog_12_method_19_code 4 none) (E : c.exceptionTable.isEmpty = true) (Nm : meth.name = y_Model_load.name)   : ∀ (n : Nat) (x0 : Option Nat) (x1 : Int32) (x2 : Int32) (x3 : Int32) (h : ax_Hp), ax_W G p l e s mi args below meth c 4 (d + 1) h0 14 [(0, ax_A x0), (1, ax_I x1), (2, ax_I x2), (3, ax_I x3)] [] h (Model_load_lp14 call  n x0 x1 x2 x3 h)
  | 0, _, _, _, _, _ => ax_none
  | n + 1, x0, x1, x2, x3, h => Model_load_lb14 hcall B E Nm   (Model_load_lq14 hcall B E Nm   n) x0 x1 x2 x3 h
def Model_load_b (call : ax_Cf) (x0 : Option Nat) (x1 : Int32) (x2 : Int32) (h : ax_Hp) : ax_O :=
  (ax_gr h x0 9 15).bind fun v1 =>
  (ax_gr h x0 9 13).bind fun v2 =>
  (ax_ldi h v2 1 x2).bind fun v3 =>
  (ax_st h v1 1 x1 (ax_I v3)).bind fun h4 =>
  Model_load_lp14 call ax_fuel x0 x1 x2 0 h4
set_option maxHeartbeats 4000000 in
set_option maxRecDepth 20000 in
theorem Model_load_t {l : Launch} {G : ax_G} {d : Nat} {call : ax_Cf} (hcall : ax_Hc l G d call) (x0 : Option Nat) (x1 : Int32) (x2 : Int32) (h : ax_Hp) {r : ax_Rs} {h' : ax_Hp} (ho : Model_load_b call x0 x1 x2 h = some (r, h')) : ax_C l G (d + 1) y_Model_load (.code y_Model_load prog_12_method_19_code 4 none) [ax_A x0, ax_I x1, ax_I x2] h r h' := by
  refine ax_enter (by decide) (Nat.le_of_ble_eq_true rfl) ho (fun p e s mi args below meth c B E Nm => ?_)
  have B : ax_B G p s mi meth c "SchemaDeskModel" prog_12_method_19_code 4 none := B
  show ax_W G p l e s mi args below meth c 4 (d + 1) h 0 [(0, ax_A x0), (1, ax_I x1), (2, ax_I x2)] [] h (Model_load_b call x0 x1 x2 h)
  unfold Model_load_b
  refine ax_aload_n B 0 d_Model_load_0 rfl rfl ?_
  refine ax_getfr B cl_Model (by decide) fk_Model_42 d_Model_load_1 (fun v1 => ?_)
  refine ax_iload_n B 1 d_Model_load_4 rfl rfl ?_
  refine ax_aload_n B 0 d_Model_load_5 rfl rfl ?_
  refine ax_getfr B cl_Model (by decide) fk_Model_36 d_Model_load_6 (fun v2 => ?_)
  refine ax_iload_n B 2 d_Model_load_9 rfl rfl ?_
  refine ax_iald (kd := 1) B (by decide) rfl d_Model_load_10 (fun v3 => ?_)
  refine ax_iast (kd := 1) B (by decide) (by decide) rfl d_Model_load_11 (fun h4 => ?_)
  refine ax_iconst (v := 0) B d_Model_load_12 (by decide) ?_
  refine ax_istore_n (tv2 := [(3, ax_I 0), (0, ax_A x0), (1, ax_I x1), (2, ax_I x2)]) B d_Model_load_13 rfl (by decide) rfl ?_
  refine ax_sub (tv2 := [(0, ax_A x0), (1, ax_I x1), (2, ax_I x2), (3, ax_I 0)]) [1, 2, 3, 0] rfl ?_
  exact Model_load_lq14 hcall B E Nm ax_fuel x0 x1 x2 0 h4

theorem d_Model_compare_0 : decode prog_12_method_44_code 0 = .ok (.aload_n 0, 1) := by decide +kernel
theorem d_Model_compare_1 : decode prog_12_method_44_code 1 = .ok (.getfield 45, 3) := by decide +kernel
theorem d_Model_compare_4 : decode prog_12_method_44_code 4 = .ok (.iconst 0, 1) := by decide +kernel
theorem d_Model_compare_5 : decode prog_12_method_44_code 5 = .ok (.iaload, 1) := by decide +kernel
theorem d_Model_compare_6 : decode prog_12_method_44_code 6 = .ok (.iconst 1, 1) := by decide +kernel
theorem d_Model_compare_7 : decode prog_12_method_44_code 7 = .ok (.isub, 1) := by decide +kernel
theorem d_Model_compare_8 : decode prog_12_method_44_code 8 = .ok (.istore_n 1, 1) := by decide +kernel
theorem d_Model_compare_9 : decode prog_12_method_44_code 9 = .ok (.iload_n 1, 1) := by decide +kernel
theorem d_Model_compare_10 : decode prog_12_method_44_code 10 = .ok (.ifCond .lt 88, 3) := by decide +kernel
theorem d_Model_compare_13 : decode prog_12_method_44_code 13 = .ok (.aload_n 0, 1) := by decide +kernel
theorem d_Model_compare_14 : decode prog_12_method_44_code 14 = .ok (.getfield 100, 3) := by decide +kernel
theorem d_Model_compare_17 : decode prog_12_method_44_code 17 = .ok (.iconst 2, 1) := by decide +kernel
theorem d_Model_compare_18 : decode prog_12_method_44_code 18 = .ok (.iload_n 1, 1) := by decide +kernel
theorem d_Model_compare_19 : decode prog_12_method_44_code 19 = .ok (.imul, 1) := by decide +kernel
theorem d_Model_compare_20 : decode prog_12_method_44_code 20 = .ok (.lconst 0, 1) := by decide +kernel
theorem d_Model_compare_21 : decode prog_12_method_44_code 21 = .ok (.lastore, 1) := by decide +kernel
theorem d_Model_compare_22 : decode prog_12_method_44_code 22 = .ok (.aload_n 0, 1) := by decide +kernel
theorem d_Model_compare_23 : decode prog_12_method_44_code 23 = .ok (.getfield 100, 3) := by decide +kernel
theorem d_Model_compare_26 : decode prog_12_method_44_code 26 = .ok (.iconst 2, 1) := by decide +kernel
theorem d_Model_compare_27 : decode prog_12_method_44_code 27 = .ok (.iload_n 1, 1) := by decide +kernel
theorem d_Model_compare_28 : decode prog_12_method_44_code 28 = .ok (.imul, 1) := by decide +kernel
theorem d_Model_compare_29 : decode prog_12_method_44_code 29 = .ok (.iconst 1, 1) := by decide +kernel
theorem d_Model_compare_30 : decode prog_12_method_44_code 30 = .ok (.iadd, 1) := by decide +kernel
theorem d_Model_compare_31 : decode prog_12_method_44_code 31 = .ok (.lconst 0, 1) := by decide +kernel
theorem d_Model_compare_32 : decode prog_12_method_44_code 32 = .ok (.lastore, 1) := by decide +kernel
theorem d_Model_compare_33 : decode prog_12_method_44_code 33 = .ok (.aload_n 0, 1) := by decide +kernel
theorem d_Model_compare_34 : decode prog_12_method_44_code 34 = .ok (.getfield 45, 3) := by decide +kernel
theorem d_Model_compare_37 : decode prog_12_method_44_code 37 = .ok (.iconst 1, 1) := by decide +kernel
theorem d_Model_compare_38 : decode prog_12_method_44_code 38 = .ok (.iaload, 1) := by decide +kernel
theorem d_Model_compare_39 : decode prog_12_method_44_code 39 = .ok (.iconst 1, 1) := by decide +kernel
theorem d_Model_compare_40 : decode prog_12_method_44_code 40 = .ok (.isub, 1) := by decide +kernel
theorem d_Model_compare_41 : decode prog_12_method_44_code 41 = .ok (.istore_n 2, 1) := by decide +kernel
theorem d_Model_compare_42 : decode prog_12_method_44_code 42 = .ok (.iload_n 2, 1) := by decide +kernel
theorem d_Model_compare_43 : decode prog_12_method_44_code 43 = .ok (.ifCond .lt 49, 3) := by decide +kernel
theorem d_Model_compare_46 : decode prog_12_method_44_code 46 = .ok (.aload_n 0, 1) := by decide +kernel
theorem d_Model_compare_47 : decode prog_12_method_44_code 47 = .ok (.iload_n 1, 1) := by decide +kernel
theorem d_Model_compare_48 : decode prog_12_method_44_code 48 = .ok (.bipush 120, 2) := by decide +kernel
theorem d_Model_compare_50 : decode prog_12_method_44_code 50 = .ok (.iload_n 2, 1) := by decide +kernel
theorem d_Model_compare_51 : decode prog_12_method_44_code 51 = .ok (.iadd, 1) := by decide +kernel
theorem d_Model_compare_52 : decode prog_12_method_44_code 52 = .ok (.invokevirtual 288, 3) := by decide +kernel
theorem d_Model_compare_55 : decode prog_12_method_44_code 55 = .ok (.istore_n 3, 1) := by decide +kernel
theorem d_Model_compare_56 : decode prog_12_method_44_code 56 = .ok (.aload_n 0, 1) := by decide +kernel
theorem d_Model_compare_57 : decode prog_12_method_44_code 57 = .ok (.getfield 100, 3) := by decide +kernel
theorem d_Model_compare_60 : decode prog_12_method_44_code 60 = .ok (.iconst 2, 1) := by decide +kernel
theorem d_Model_compare_61 : decode prog_12_method_44_code 61 = .ok (.iload_n 1, 1) := by decide +kernel
theorem d_Model_compare_62 : decode prog_12_method_44_code 62 = .ok (.imul, 1) := by decide +kernel
theorem d_Model_compare_63 : decode prog_12_method_44_code 63 = .ok (.iload_n 2, 1) := by decide +kernel
theorem d_Model_compare_64 : decode prog_12_method_44_code 64 = .ok (.bipush 64, 2) := by decide +kernel
theorem d_Model_compare_66 : decode prog_12_method_44_code 66 = .ok (.idiv, 1) := by decide +kernel
theorem d_Model_compare_67 : decode prog_12_method_44_code 67 = .ok (.iadd, 1) := by decide +kernel
theorem d_Model_compare_68 : decode prog_12_method_44_code 68 = .ok (.dup2, 1) := by decide +kernel
theorem d_Model_compare_69 : decode prog_12_method_44_code 69 = .ok (.laload, 1) := by decide +kernel
theorem d_Model_compare_70 : decode prog_12_method_44_code 70 = .ok (.iload_n 3, 1) := by decide +kernel
theorem d_Model_compare_71 : decode prog_12_method_44_code 71 = .ok (.ifCond .eq 12, 3) := by decide +kernel
theorem d_Model_compare_74 : decode prog_12_method_44_code 74 = .ok (.lconst 1, 1) := by decide +kernel
theorem d_Model_compare_75 : decode prog_12_method_44_code 75 = .ok (.iload_n 2, 1) := by decide +kernel
theorem d_Model_compare_76 : decode prog_12_method_44_code 76 = .ok (.bipush 64, 2) := by decide +kernel
theorem d_Model_compare_78 : decode prog_12_method_44_code 78 = .ok (.irem, 1) := by decide +kernel
theorem d_Model_compare_79 : decode prog_12_method_44_code 79 = .ok (.lshl, 1) := by decide +kernel
theorem d_Model_compare_80 : decode prog_12_method_44_code 80 = .ok (.goto 4, 3) := by decide +kernel
theorem d_Model_compare_83 : decode prog_12_method_44_code 83 = .ok (.lconst 0, 1) := by decide +kernel
theorem d_Model_compare_84 : decode prog_12_method_44_code 84 = .ok (.lor, 1) := by decide +kernel
theorem d_Model_compare_85 : decode prog_12_method_44_code 85 = .ok (.lastore, 1) := by decide +kernel
theorem d_Model_compare_86 : decode prog_12_method_44_code 86 = .ok (.iinc 2 (-1), 3) := by decide +kernel
theorem d_Model_compare_89 : decode prog_12_method_44_code 89 = .ok (.goto (-47), 3) := by decide +kernel
theorem d_Model_compare_92 : decode prog_12_method_44_code 92 = .ok (.iinc 1 (-1), 3) := by decide +kernel
theorem d_Model_compare_95 : decode prog_12_method_44_code 95 = .ok (.goto (-86), 3) := by decide +kernel
theorem d_Model_compare_98 : decode prog_12_method_44_code 98 = .ok (.aload_n 0, 1) := by decide +kernel
theorem d_Model_compare_99 : decode prog_12_method_44_code 99 = .ok (.iconst 0, 1) := by decide +kernel
theorem d_Model_compare_100 : decode prog_12_method_44_code 100 = .ok (.bipush 120, 2) := by decide +kernel
theorem d_Model_compare_102 : decode prog_12_method_44_code 102 = .ok (.invokevirtual 280, 3) := by decide +kernel
theorem d_Model_compare_105 : decode prog_12_method_44_code 105 = .ok (.ireturn, 1) := by decide +kernel
def Model_compare_jn84 (call : ax_Cf) (k9 : Option Nat → Int32 → ax_Hp → ax_O) (k42 : Option Nat → Int32 → Int32 → ax_Hp → ax_O) (x0 : Option Nat) (x1 : Int32) (x2 : Int32) (s0 : Int64) (s1 : Int64) (s2 : Int32) (s3 : Option Nat) (h : ax_Hp) : ax_O :=
  (ax_st h s3 2 s2 (ax_L (s1 ||| s0))).bind fun h15 =>
  k42 x0 x1 (x2 + (-1)) h15
set_option maxHeartbeats 4000000 in
set_option maxRecDepth 20000 in
theorem Model_compare_jq84 {l : Launch} {G : ax_G} {d : Nat} {call : ax_Cf} (hcall : ax_Hc l G d call) {p : Program} {e : Env} {s : State} {mi : MethodId} {args : Array Value} {below : List Frame} {meth : Method} {c : Code} {h0 : ax_Hp} (B : ax_B G p s mi meth c "SchemaDeskModel" prog_12_method_44_code 4 (some (.boolean))) (E : c.exceptionTable.isEmpty = true) (Nm : meth.name = y_Model_compare.name) (k9 : Option Nat → Int32 → ax_Hp → ax_O) (k42 : Option Nat → Int32 → Int32 → ax_Hp → ax_O) (hk9 : ∀ (x0 : Option Nat) (x1 : Int32) (h : ax_Hp), ax_W G p l e s mi args below meth c 4 (d + 1) h0 9 [(0, ax_A x0), (1, ax_I x1)] [] h (k9 x0 x1 h)) (hk42 : ∀ (x0 : Option Nat) (x1 : Int32) (x2 : Int32) (h : ax_Hp), ax_W G p l e s mi args below meth c 4 (d + 1) h0 42 [(0, ax_A x0), (1, ax_I x1), (2, ax_I x2)] [] h (k42 x0 x1 x2 h)) (x0 : Option Nat) (x1 : Int32) (x2 : Int32) (s0 : Int64) (s1 : Int64) (s2 : Int32) (s3 : Option Nat) (h : ax_Hp) : ax_W G p l e s mi args below meth c 4 (d + 1) h0 84 [(0, ax_A x0), (1, ax_I x1), (2, ax_I x2)] [ax_L s0, ax_L s1, ax_I s2, ax_A s3] h (Model_compare_jn84 call k9 k42 x0 x1 x2 s0 s1 s2 s3 h) := by
  unfold Model_compare_jn84
  refine ax_lor B d_Model_compare_84 ?_
  refine ax_last (kd := 2) B (by decide) (by decide) rfl d_Model_compare_85 (fun h15 => ?_)
  refine ax_iinc (v := x2 + (-1)) (tv2 := [(2, ax_I (x2 + (-1))), (0, ax_A x0), (1, ax_I x1)]) B 2 d_Model_compare_86 rfl (congrArg (_ + ·) (by decide)) (by decide) rfl ?_
  refine ax_goto B 42 d_Model_compare_89 (by decide) ?_
  refine ax_sub (tv2 := [(0, ax_A x0), (1, ax_I x1), (2, ax_I (x2 + (-1)))]) [1, 2, 0] rfl ?_
  exact hk42 x0 x1 (x2 + (-1)) h15
def Model_compare_bd42 (call : ax_Cf) (k9 : Option Nat → Int32 → ax_Hp → ax_O) (k42 : Option Nat → Int32 → Int32 → ax_Hp → ax_O) (x0 : Option Nat) (x1 : Int32) (x2 : Int32) (h : ax_Hp) : ax_O :=
  if x2 < 0 then
    k9 x0 (x1 + (-1)) h
  else
    ax_on h x0 9 <| ax_ci (call 182 [ax_A x0, ax_I x1, ax_I (120 + x2)] h) fun v12 h11 =>
    (ax_gr h11 x0 9 42).bind fun v13 =>
    ax_nz 64 <|
    (ax_ldl h11 v13 2 ((2 * x1) + (x2 / 64))).bind fun v14 =>
    if v12 = 0 then
      Model_compare_jn84 call k9 k42 x0 x1 x2 0 v14 ((2 * x1) + (x2 / 64)) v13 h11
    else
      ax_nz 64 <|
      Model_compare_jn84 call k9 k42 x0 x1 x2 ((1 : Int64) <<< ((x2 - x2 / 64 * 64).toInt64 &&& 63)) v14 ((2 * x1) + (x2 / 64)) v13 h11
def Model_compare_lp42 (call : ax_Cf) (k9 : Option Nat → Int32 → ax_Hp → ax_O) : Nat → Option Nat → Int32 → Int32 → ax_Hp → ax_O
  | 0 => fun _ _ _ _ => none
  | n + 1 => Model_compare_bd42 call k9 (Model_compare_lp42 call k9 n)
set_option maxHeartbeats 4000000 in
set_option maxRecDepth 20000 in
theorem Model_compare_lb42 {l : Launch} {G : ax_G} {d : Nat} {call : ax_Cf} (hcall : ax_Hc l G d call) {p : Program} {e : Env} {s : State} {mi : MethodId} {args : Array Value} {below : List Frame} {meth : Method} {c : Code} {h0 : ax_Hp} (B : ax_B G p s mi meth c "SchemaDeskModel" prog_12_method_44_code 4 (some (.boolean))) (E : c.exceptionTable.isEmpty = true) (Nm : meth.name = y_Model_compare.name) (k9 : Option Nat → Int32 → ax_Hp → ax_O) (hk9 : ∀ (x0 : Option Nat) (x1 : Int32) (h : ax_Hp), ax_W G p l e s mi args below meth c 4 (d + 1) h0 9 [(0, ax_A x0), (1, ax_I x1)] [] h (k9 x0 x1 h)) {k42 : Option Nat → Int32 → Int32 → ax_Hp → ax_O} (hk42 : ∀ (x0 : Option Nat) (x1 : Int32) (x2 : Int32) (h : ax_Hp), ax_W G p l e s mi args below meth c 4 (d + 1) h0 42 [(0, ax_A x0), (1, ax_I x1), (2, ax_I x2)] [] h (k42 x0 x1 x2 h)) (x0 : Option Nat) (x1 : Int32) (x2 : Int32) (h : ax_Hp) : ax_W G p l e s mi args below meth c 4 (d + 1) h0 42 [(0, ax_A x0), (1, ax_I x1), (2, ax_I x2)] [] h (Model_compare_bd42 call k9 k42 x0 x1 x2 h) := by
  unfold Model_compare_bd42
  refine ax_iload_n B 2 d_Model_compare_42 rfl rfl ?_
  refine ax_if_lt B 92 d_Model_compare_43 (by decide) ?_ ?_
  · refine ax_iinc (v := x1 + (-1)) (tv2 := [(1, ax_I (x1 + (-1))), (0, ax_A x0), (2, ax_I x2)]) B 1 d_Model_compare_92 rfl (congrArg (_ + ·) (by decide)) (by decide) rfl ?_
    refine ax_goto B 9 d_Model_compare_95 (by decide) ?_
    refine ax_sub (tv2 := [(0, ax_A x0), (1, ax_I (x1 + (-1)))]) [1, 0] rfl ?_
    exact hk9 x0 (x1 + (-1)) h
  · refine ax_aload_n B 0 d_Model_compare_46 rfl rfl ?_
    refine ax_iload_n B 1 d_Model_compare_47 rfl rfl ?_
    refine ax_bipush (v := 120) B d_Model_compare_48 (by decide) ?_
    refine ax_iload_n B 2 d_Model_compare_50 rfl rfl ?_
    refine ax_iadd B d_Model_compare_51 ?_
    refine ax_callVi (av := [ax_I x1, ax_I (120 + x2)]) (rest := []) B E hm_Model_readsNode cl_Model rfl wd_1209 wp_67 lk_Model_288 d_Model_compare_52 rfl (Nat.le_of_ble_eq_true rfl) (fun _ _ hh => hcall 182 _ _ _ _ hh) (fun v12 h11 => ?_)
    refine ax_istore_n (tv2 := [(3, ax_I v12), (0, ax_A x0), (1, ax_I x1), (2, ax_I x2)]) B d_Model_compare_55 rfl (by decide) rfl ?_
    refine ax_aload_n B 1 d_Model_compare_56 rfl rfl ?_
    refine ax_getfr B cl_Model (by decide) fk_Model_100 d_Model_compare_57 (fun v13 => ?_)
    refine ax_iconst (v := 2) B d_Model_compare_60 (by decide) ?_
    refine ax_iload_n B 2 d_Model_compare_61 rfl rfl ?_
    refine ax_imul B d_Model_compare_62 ?_
    refine ax_iload_n B 3 d_Model_compare_63 rfl rfl ?_
    refine ax_bipush (v := 64) B d_Model_compare_64 (by decide) ?_
    refine ax_idiv B d_Model_compare_66 ?_
    refine ax_iadd B d_Model_compare_67 ?_
    refine ax_dup2_11 B d_Model_compare_68 rfl rfl ?_
    refine ax_lald (kd := 2) B (by decide) rfl d_Model_compare_69 (fun v14 => ?_)
    refine ax_iload_n B 0 d_Model_compare_70 rfl rfl ?_
    refine ax_if_eq B 83 d_Model_compare_71 (by decide) ?_ ?_
    · refine ax_lconst (v := 0) B d_Model_compare_83 (by decide) ?_
      refine ax_sub (tv2 := [(0, ax_A x0), (1, ax_I x1), (2, ax_I x2)]) [1, 2, 3] rfl ?_
      exact Model_compare_jq84 hcall B E Nm k9 k42 hk9 hk42 x0 x1 x2 0 v14 ((2 * x1) + (x2 / 64)) v13 h11
    · refine ax_lconst (v := 1) B d_Model_compare_74 (by decide) ?_
      refine ax_iload_n B 3 d_Model_compare_75 rfl rfl ?_
      refine ax_bipush (v := 64) B d_Model_compare_76 (by decide) ?_
      refine ax_irem B d_Model_compare_78 ?_
      refine ax_lshl B d_Model_compare_79 ?_
      refine ax_goto B 84 d_Model_compare_80 (by decide) ?_
      refine ax_sub (tv2 := [(0, ax_A x0), (1, ax_I x1), (2, ax_I x2)]) [1, 2, 3] rfl ?_
      exact Model_compare_jq84 hcall B E Nm k9 k42 hk9 hk42 x0 x1 x2 ((1 : Int64) <<< ((x2 - x2 / 64 * 64).toInt64 &&& 63)) v14 ((2 * x1) + (x2 / 64)) v13 h11
theorem Model_compare_lq42 {l : Launch} {G : ax_G} {d : Nat} {call : ax_Cf} (hcall : ax_Hc l G d call) {p : Program} {e : Env} {s : State} {mi : MethodId} {args : Array Value} {below : List Frame} {meth : Method} {c : Code} {h0 : ax_Hp} (B : ax_B G p s mi meth c "SchemaDeskModel" prog_12_method_44_code 4 (some (.boolean))) (E : c.exceptionTable.isEmpty = true) (Nm : meth.name = y_Model_compare.name) (k9 : Option Nat → Int32 → ax_Hp → ax_O) (hk9 : ∀ (x0 : Option Nat) (x1 : Int32) (h : ax_Hp), ax_W G p l e s mi args below meth c 4 (d + 1) h0 9 [(0, ax_A x0), (1, ax_I x1)] [] h (k9 x0 x1 h)) : ∀ (n : Nat) (x0 : Option Nat) (x1 : Int32) (x2 : Int32) (h : ax_Hp), ax_W G p l e s mi args below meth c 4 (d + 1) h0 42 [(0, ax_A x0), (1, ax_I x1), (2, ax_I x2)] [] h (Model_compare_lp42 call k9 n x0 x1 x2 h)
  | 0, _, _, _, _ => ax_none
  | n + 1, x0, x1, x2, h => Model_compare_lb42 hcall B E Nm k9 hk9 (Model_compare_lq42 hcall B E Nm k9 hk9 n) x0 x1 x2 h
def Model_compare_bd9 (call : ax_Cf)  (k9 : Option Nat → Int32 → ax_Hp → ax_O) (x0 : Option Nat) (x1 : Int32) (h : ax_Hp) : ax_O :=
  if x1 < 0 then
    ax_on h x0 9 <| ax_ci (call 183 [ax_A x0, ax_I 0, ax_I 120] h) fun v4 h3 =>
    ax_rz v4 h3
  else
    (ax_gr h x0 9 42).bind fun v5 =>
    (ax_st h v5 2 (2 * x1) (ax_L 0)).bind fun h6 =>
    (ax_gr h6 x0 9 42).bind fun v7 =>
    (ax_st h6 v7 2 ((2 * x1) + 1) (ax_L 0)).bind fun h8 =>
    (ax_gr h8 x0 9 16).bind fun v9 =>
    (ax_ldi h8 v9 1 1).bind fun v10 =>
    Model_compare_lp42 call k9 ax_fuel x0 x1 (v10 - 1) h8
def Model_compare_lp9 (call : ax_Cf)  : Nat → Option Nat → Int32 → ax_Hp → ax_O
  | 0 => fun _ _ _ => none
  | n + 1 => Model_compare_bd9 call  (Model_compare_lp9 call  n)
set_option maxHeartbeats 4000000 in
set_option maxRecDepth 20000 in
theorem Model_compare_lb9 {l : Launch} {G : ax_G} {d : Nat} {call : ax_Cf} (hcall : ax_Hc l G d call) {p : Program} {e : Env} {s : State} {mi : MethodId} {args : Array Value} {below : List Frame} {meth : Method} {c : Code} {h0 : ax_Hp} (B : ax_B G p s mi meth c "SchemaDeskModel" prog_12_method_44_code 4 (some (.boolean))) (E : c.exceptionTable.isEmpty = true) (Nm : meth.name = y_Model_compare.name)   {k9 : Option Nat → Int32 → ax_Hp → ax_O} (hk9 : ∀ (x0 : Option Nat) (x1 : Int32) (h : ax_Hp), ax_W G p l e s mi args below meth c 4 (d + 1) h0 9 [(0, ax_A x0), (1, ax_I x1)] [] h (k9 x0 x1 h)) (x0 : Option Nat) (x1 : Int32) (h : ax_Hp) : ax_W G p l e s mi args below meth c 4 (d + 1) h0 9 [(0, ax_A x0), (1, ax_I x1)] [] h (Model_compare_bd9 call  k9 x0 x1 h) := by
  unfold Model_compare_bd9
  refine ax_iload_n B 1 d_Model_compare_9 rfl rfl ?_
  refine ax_if_lt B 98 d_Model_compare_10 (by decide) ?_ ?_
  · refine ax_aload_n B 0 d_Model_compare_98 rfl rfl ?_
    refine ax_iconst (v := 0) B d_Model_compare_99 (by decide) ?_
    refine ax_bipush (v := 120) B d_Model_compare_100 (by decide) ?_
    refine ax_callVi (av := [ax_I 0, ax_I 120]) (rest := []) B E hm_Model_knows cl_Model rfl wd_1213 wp_68 lk_Model_280 d_Model_compare_102 rfl (Nat.le_of_ble_eq_true rfl) (fun _ _ hh => hcall 183 _ _ _ _ hh) (fun v4 h3 => ?_)
    exact ax_zreturn B d_Model_compare_105
  · refine ax_aload_n B 0 d_Model_compare_13 rfl rfl ?_
    refine ax_getfr B cl_Model (by decide) fk_Model_100 d_Model_compare_14 (fun v5 => ?_)
    refine ax_iconst (v := 2) B d_Model_compare_17 (by decide) ?_
    refine ax_iload_n B 1 d_Model_compare_18 rfl rfl ?_
    refine ax_imul B d_Model_compare_19 ?_
    refine ax_lconst (v := 0) B d_Model_compare_20 (by decide) ?_
    refine ax_last (kd := 2) B (by decide) (by decide) rfl d_Model_compare_21 (fun h6 => ?_)
    refine ax_aload_n B 0 d_Model_compare_22 rfl rfl ?_
    refine ax_getfr B cl_Model (by decide) fk_Model_100 d_Model_compare_23 (fun v7 => ?_)
    refine ax_iconst (v := 2) B d_Model_compare_26 (by decide) ?_
    refine ax_iload_n B 1 d_Model_compare_27 rfl rfl ?_
    refine ax_imul B d_Model_compare_28 ?_
    refine ax_iconst (v := 1) B d_Model_compare_29 (by decide) ?_
    refine ax_iadd B d_Model_compare_30 ?_
    refine ax_lconst (v := 0) B d_Model_compare_31 (by decide) ?_
    refine ax_last (kd := 2) B (by decide) (by decide) rfl d_Model_compare_32 (fun h8 => ?_)
    refine ax_aload_n B 0 d_Model_compare_33 rfl rfl ?_
    refine ax_getfr B cl_Model (by decide) fk_Model_45 d_Model_compare_34 (fun v9 => ?_)
    refine ax_iconst (v := 1) B d_Model_compare_37 (by decide) ?_
    refine ax_iald (kd := 1) B (by decide) rfl d_Model_compare_38 (fun v10 => ?_)
    refine ax_iconst (v := 1) B d_Model_compare_39 (by decide) ?_
    refine ax_isub B d_Model_compare_40 ?_
    refine ax_istore_n (tv2 := [(2, ax_I (v10 - 1)), (0, ax_A x0), (1, ax_I x1)]) B d_Model_compare_41 rfl (by decide) rfl ?_
    refine ax_sub (tv2 := [(0, ax_A x0), (1, ax_I x1), (2, ax_I (v10 - 1))]) [1, 2, 0] rfl ?_
    exact Model_compare_lq42 hcall B E Nm k9 hk9 ax_fuel x0 x1 (v10 - 1) h8
theorem Model_compare_lq9 {l : Launch} {G : ax_G} {d : Nat} {call : ax_Cf} (hcall : ax_Hc l G d call) {p : Program} {e : Env} {s : State} {mi : MethodId} {args : Array Value} {below : List Frame} {meth : Method} {c : Code} {h0 : ax_Hp} (B : ax_B G p s mi meth c "SchemaDeskModel" prog_12_method_44_code 4 (some (.boolean))) (E : c.exceptionTable.isEmpty = true) (Nm : meth.name = y_Model_compare.name)   : ∀ (n : Nat) (x0 : Option Nat) (x1 : Int32) (h : ax_Hp), ax_W G p l e s mi args below meth c 4 (d + 1) h0 9 [(0, ax_A x0), (1, ax_I x1)] [] h (Model_compare_lp9 call  n x0 x1 h)
  | 0, _, _, _ => ax_none
  | n + 1, x0, x1, h => Model_compare_lb9 hcall B E Nm   (Model_compare_lq9 hcall B E Nm   n) x0 x1 h
def Model_compare_b (call : ax_Cf) (x0 : Option Nat) (h : ax_Hp) : ax_O :=
  (ax_gr h x0 9 16).bind fun v1 =>
  (ax_ldi h v1 1 0).bind fun v2 =>
  Model_compare_lp9 call ax_fuel x0 (v2 - 1) h
set_option maxHeartbeats 4000000 in
set_option maxRecDepth 20000 in
theorem Model_compare_t {l : Launch} {G : ax_G} {d : Nat} {call : ax_Cf} (hcall : ax_Hc l G d call) (x0 : Option Nat) (h : ax_Hp) {r : ax_Rs} {h' : ax_Hp} (ho : Model_compare_b call x0 h = some (r, h')) : ax_C l G (d + 1) y_Model_compare (.code y_Model_compare prog_12_method_44_code 4 (some (.boolean))) [ax_A x0] h r h' := by
  refine ax_enter (by decide) (Nat.le_of_ble_eq_true rfl) ho (fun p e s mi args below meth c B E Nm => ?_)
  have B : ax_B G p s mi meth c "SchemaDeskModel" prog_12_method_44_code 4 (some (.boolean)) := B
  show ax_W G p l e s mi args below meth c 4 (d + 1) h 0 [(0, ax_A x0)] [] h (Model_compare_b call x0 h)
  unfold Model_compare_b
  refine ax_aload_n B 0 d_Model_compare_0 rfl rfl ?_
  refine ax_getfr B cl_Model (by decide) fk_Model_45 d_Model_compare_1 (fun v1 => ?_)
  refine ax_iconst (v := 0) B d_Model_compare_4 (by decide) ?_
  refine ax_iald (kd := 1) B (by decide) rfl d_Model_compare_5 (fun v2 => ?_)
  refine ax_iconst (v := 1) B d_Model_compare_6 (by decide) ?_
  refine ax_isub B d_Model_compare_7 ?_
  refine ax_istore_n (tv2 := [(1, ax_I (v2 - 1)), (0, ax_A x0)]) B d_Model_compare_8 rfl (by decide) rfl ?_
  refine ax_sub (tv2 := [(0, ax_A x0), (1, ax_I (v2 - 1))]) [1, 0] rfl ?_
  exact Model_compare_lq9 hcall B E Nm ax_fuel x0 (v2 - 1) h
