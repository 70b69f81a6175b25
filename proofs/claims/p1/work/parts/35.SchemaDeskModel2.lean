theorem d_Model_readNumber_0 : decode prog_12_method_21_code 0 = .ok (.iload_n 1, 1) := by decide +kernel
theorem d_Model_readNumber_1 : decode prog_12_method_21_code 1 = .ok (.istore_n 3, 1) := by decide +kernel
theorem d_Model_readNumber_2 : decode prog_12_method_21_code 2 = .ok (.aload_n 0, 1) := by decide +kernel
theorem d_Model_readNumber_3 : decode prog_12_method_21_code 3 = .ok (.iload_n 3, 1) := by decide +kernel
theorem d_Model_readNumber_4 : decode prog_12_method_21_code 4 = .ok (.invokevirtual 194, 3) := by decide +kernel
theorem d_Model_readNumber_7 : decode prog_12_method_21_code 7 = .ok (.bipush 45, 2) := by decide +kernel
theorem d_Model_readNumber_9 : decode prog_12_method_21_code 9 = .ok (.if_icmp .ne 7, 3) := by decide +kernel
theorem d_Model_readNumber_12 : decode prog_12_method_21_code 12 = .ok (.iconst 1, 1) := by decide +kernel
theorem d_Model_readNumber_13 : decode prog_12_method_21_code 13 = .ok (.goto 4, 3) := by decide +kernel
theorem d_Model_readNumber_16 : decode prog_12_method_21_code 16 = .ok (.iconst 0, 1) := by decide +kernel
theorem d_Model_readNumber_17 : decode prog_12_method_21_code 17 = .ok (.istore 4, 2) := by decide +kernel
theorem d_Model_readNumber_19 : decode prog_12_method_21_code 19 = .ok (.iload_n 3, 1) := by decide +kernel
theorem d_Model_readNumber_20 : decode prog_12_method_21_code 20 = .ok (.iload 4, 2) := by decide +kernel
theorem d_Model_readNumber_22 : decode prog_12_method_21_code 22 = .ok (.ifCond .eq 7, 3) := by decide +kernel
theorem d_Model_readNumber_25 : decode prog_12_method_21_code 25 = .ok (.iconst 1, 1) := by decide +kernel
theorem d_Model_readNumber_26 : decode prog_12_method_21_code 26 = .ok (.goto 4, 3) := by decide +kernel
theorem d_Model_readNumber_29 : decode prog_12_method_21_code 29 = .ok (.iconst 0, 1) := by decide +kernel
theorem d_Model_readNumber_30 : decode prog_12_method_21_code 30 = .ok (.iadd, 1) := by decide +kernel
theorem d_Model_readNumber_31 : decode prog_12_method_21_code 31 = .ok (.istore_n 3, 1) := by decide +kernel
theorem d_Model_readNumber_32 : decode prog_12_method_21_code 32 = .ok (.aload_n 0, 1) := by decide +kernel
theorem d_Model_readNumber_33 : decode prog_12_method_21_code 33 = .ok (.iload_n 3, 1) := by decide +kernel
theorem d_Model_readNumber_34 : decode prog_12_method_21_code 34 = .ok (.invokevirtual 194, 3) := by decide +kernel
theorem d_Model_readNumber_37 : decode prog_12_method_21_code 37 = .ok (.istore 5, 2) := by decide +kernel
theorem d_Model_readNumber_39 : decode prog_12_method_21_code 39 = .ok (.iload 5, 2) := by decide +kernel
theorem d_Model_readNumber_41 : decode prog_12_method_21_code 41 = .ok (.bipush 48, 2) := by decide +kernel
theorem d_Model_readNumber_43 : decode prog_12_method_21_code 43 = .ok (.if_icmp .lt 22, 3) := by decide +kernel
theorem d_Model_readNumber_46 : decode prog_12_method_21_code 46 = .ok (.iload 5, 2) := by decide +kernel
theorem d_Model_readNumber_48 : decode prog_12_method_21_code 48 = .ok (.bipush 57, 2) := by decide +kernel
theorem d_Model_readNumber_50 : decode prog_12_method_21_code 50 = .ok (.if_icmp .gt 15, 3) := by decide +kernel
theorem d_Model_readNumber_53 : decode prog_12_method_21_code 53 = .ok (.iload 4, 2) := by decide +kernel
theorem d_Model_readNumber_55 : decode prog_12_method_21_code 55 = .ok (.ifCond .eq 14, 3) := by decide +kernel
theorem d_Model_readNumber_58 : decode prog_12_method_21_code 58 = .ok (.iload 5, 2) := by decide +kernel
theorem d_Model_readNumber_60 : decode prog_12_method_21_code 60 = .ok (.bipush 48, 2) := by decide +kernel
theorem d_Model_readNumber_62 : decode prog_12_method_21_code 62 = .ok (.if_icmp .ne 7, 3) := by decide +kernel
theorem d_Model_readNumber_65 : decode prog_12_method_21_code 65 = .ok (.iconst (-1), 1) := by decide +kernel
theorem d_Model_readNumber_66 : decode prog_12_method_21_code 66 = .ok (.iload_n 3, 1) := by decide +kernel
theorem d_Model_readNumber_67 : decode prog_12_method_21_code 67 = .ok (.isub, 1) := by decide +kernel
theorem d_Model_readNumber_68 : decode prog_12_method_21_code 68 = .ok (.ireturn, 1) := by decide +kernel
theorem d_Model_readNumber_69 : decode prog_12_method_21_code 69 = .ok (.iload_n 2, 1) := by decide +kernel
theorem d_Model_readNumber_70 : decode prog_12_method_21_code 70 = .ok (.ifCond .eq 9, 3) := by decide +kernel
theorem d_Model_readNumber_73 : decode prog_12_method_21_code 73 = .ok (.ldc2_w 198, 3) := by decide +kernel
theorem d_Model_readNumber_76 : decode prog_12_method_21_code 76 = .ok (.goto 6, 3) := by decide +kernel
theorem d_Model_readNumber_79 : decode prog_12_method_21_code 79 = .ok (.ldc2_w 200, 3) := by decide +kernel
theorem d_Model_readNumber_82 : decode prog_12_method_21_code 82 = .ok (.lstore 6, 2) := by decide +kernel
theorem d_Model_readNumber_84 : decode prog_12_method_21_code 84 = .ok (.iload 4, 2) := by decide +kernel
theorem d_Model_readNumber_86 : decode prog_12_method_21_code 86 = .ok (.ifCond .eq 8, 3) := by decide +kernel
theorem d_Model_readNumber_89 : decode prog_12_method_21_code 89 = .ok (.lload 6, 2) := by decide +kernel
theorem d_Model_readNumber_91 : decode prog_12_method_21_code 91 = .ok (.goto 7, 3) := by decide +kernel
theorem d_Model_readNumber_94 : decode prog_12_method_21_code 94 = .ok (.lload 6, 2) := by decide +kernel
theorem d_Model_readNumber_96 : decode prog_12_method_21_code 96 = .ok (.lconst 1, 1) := by decide +kernel
theorem d_Model_readNumber_97 : decode prog_12_method_21_code 97 = .ok (.ladd, 1) := by decide +kernel
theorem d_Model_readNumber_98 : decode prog_12_method_21_code 98 = .ok (.lstore 8, 2) := by decide +kernel
theorem d_Model_readNumber_100 : decode prog_12_method_21_code 100 = .ok (.lconst 0, 1) := by decide +kernel
theorem d_Model_readNumber_101 : decode prog_12_method_21_code 101 = .ok (.lstore 10, 2) := by decide +kernel
theorem d_Model_readNumber_103 : decode prog_12_method_21_code 103 = .ok (.iload 5, 2) := by decide +kernel
theorem d_Model_readNumber_105 : decode prog_12_method_21_code 105 = .ok (.bipush 48, 2) := by decide +kernel
theorem d_Model_readNumber_107 : decode prog_12_method_21_code 107 = .ok (.if_icmp .ne 7, 3) := by decide +kernel
theorem d_Model_readNumber_110 : decode prog_12_method_21_code 110 = .ok (.iconst 1, 1) := by decide +kernel
theorem d_Model_readNumber_111 : decode prog_12_method_21_code 111 = .ok (.goto 4, 3) := by decide +kernel
theorem d_Model_readNumber_114 : decode prog_12_method_21_code 114 = .ok (.iconst 0, 1) := by decide +kernel
theorem d_Model_readNumber_115 : decode prog_12_method_21_code 115 = .ok (.istore 12, 2) := by decide +kernel
theorem d_Model_readNumber_117 : decode prog_12_method_21_code 117 = .ok (.iload 5, 2) := by decide +kernel
theorem d_Model_readNumber_119 : decode prog_12_method_21_code 119 = .ok (.bipush 48, 2) := by decide +kernel
theorem d_Model_readNumber_121 : decode prog_12_method_21_code 121 = .ok (.if_icmp .lt 72, 3) := by decide +kernel
theorem d_Model_readNumber_124 : decode prog_12_method_21_code 124 = .ok (.iload 5, 2) := by decide +kernel
theorem d_Model_readNumber_126 : decode prog_12_method_21_code 126 = .ok (.bipush 57, 2) := by decide +kernel
theorem d_Model_readNumber_128 : decode prog_12_method_21_code 128 = .ok (.if_icmp .gt 65, 3) := by decide +kernel
theorem d_Model_readNumber_131 : decode prog_12_method_21_code 131 = .ok (.iload 12, 2) := by decide +kernel
theorem d_Model_readNumber_133 : decode prog_12_method_21_code 133 = .ok (.ifCond .eq 8, 3) := by decide +kernel
theorem d_Model_readNumber_136 : decode prog_12_method_21_code 136 = .ok (.iload_n 3, 1) := by decide +kernel
theorem d_Model_readNumber_137 : decode prog_12_method_21_code 137 = .ok (.iload_n 1, 1) := by decide +kernel
theorem d_Model_readNumber_138 : decode prog_12_method_21_code 138 = .ok (.if_icmp .gt 55, 3) := by decide +kernel
theorem d_Model_readNumber_141 : decode prog_12_method_21_code 141 = .ok (.iload 5, 2) := by decide +kernel
theorem d_Model_readNumber_143 : decode prog_12_method_21_code 143 = .ok (.bipush 48, 2) := by decide +kernel
theorem d_Model_readNumber_145 : decode prog_12_method_21_code 145 = .ok (.isub, 1) := by decide +kernel
theorem d_Model_readNumber_146 : decode prog_12_method_21_code 146 = .ok (.istore 13, 2) := by decide +kernel
theorem d_Model_readNumber_148 : decode prog_12_method_21_code 148 = .ok (.lload 10, 2) := by decide +kernel
theorem d_Model_readNumber_150 : decode prog_12_method_21_code 150 = .ok (.lload 8, 2) := by decide +kernel
theorem d_Model_readNumber_152 : decode prog_12_method_21_code 152 = .ok (.iload 13, 2) := by decide +kernel
theorem d_Model_readNumber_154 : decode prog_12_method_21_code 154 = .ok (.i2l, 1) := by decide +kernel
theorem d_Model_readNumber_155 : decode prog_12_method_21_code 155 = .ok (.ladd, 1) := by decide +kernel
theorem d_Model_readNumber_156 : decode prog_12_method_21_code 156 = .ok (.ldc2_w 202, 3) := by decide +kernel
theorem d_Model_readNumber_159 : decode prog_12_method_21_code 159 = .ok (.ldiv, 1) := by decide +kernel
theorem d_Model_readNumber_160 : decode prog_12_method_21_code 160 = .ok (.lcmp, 1) := by decide +kernel
theorem d_Model_readNumber_161 : decode prog_12_method_21_code 161 = .ok (.ifCond .ge 7, 3) := by decide +kernel
theorem d_Model_readNumber_164 : decode prog_12_method_21_code 164 = .ok (.iconst (-1), 1) := by decide +kernel
theorem d_Model_readNumber_165 : decode prog_12_method_21_code 165 = .ok (.iload_n 3, 1) := by decide +kernel
theorem d_Model_readNumber_166 : decode prog_12_method_21_code 166 = .ok (.isub, 1) := by decide +kernel
theorem d_Model_readNumber_167 : decode prog_12_method_21_code 167 = .ok (.ireturn, 1) := by decide +kernel
theorem d_Model_readNumber_168 : decode prog_12_method_21_code 168 = .ok (.ldc2_w 202, 3) := by decide +kernel
theorem d_Model_readNumber_171 : decode prog_12_method_21_code 171 = .ok (.lload 10, 2) := by decide +kernel
theorem d_Model_readNumber_173 : decode prog_12_method_21_code 173 = .ok (.lmul, 1) := by decide +kernel
theorem d_Model_readNumber_174 : decode prog_12_method_21_code 174 = .ok (.iload 13, 2) := by decide +kernel
theorem d_Model_readNumber_176 : decode prog_12_method_21_code 176 = .ok (.i2l, 1) := by decide +kernel
theorem d_Model_readNumber_177 : decode prog_12_method_21_code 177 = .ok (.lsub, 1) := by decide +kernel
theorem d_Model_readNumber_178 : decode prog_12_method_21_code 178 = .ok (.lstore 10, 2) := by decide +kernel
theorem d_Model_readNumber_180 : decode prog_12_method_21_code 180 = .ok (.iinc 3 1, 3) := by decide +kernel
theorem d_Model_readNumber_183 : decode prog_12_method_21_code 183 = .ok (.aload_n 0, 1) := by decide +kernel
theorem d_Model_readNumber_184 : decode prog_12_method_21_code 184 = .ok (.iload_n 3, 1) := by decide +kernel
theorem d_Model_readNumber_185 : decode prog_12_method_21_code 185 = .ok (.invokevirtual 194, 3) := by decide +kernel
theorem d_Model_readNumber_188 : decode prog_12_method_21_code 188 = .ok (.istore 5, 2) := by decide +kernel
theorem d_Model_readNumber_190 : decode prog_12_method_21_code 190 = .ok (.goto (-73), 3) := by decide +kernel
theorem d_Model_readNumber_193 : decode prog_12_method_21_code 193 = .ok (.aload_n 0, 1) := by decide +kernel
theorem d_Model_readNumber_194 : decode prog_12_method_21_code 194 = .ok (.iload 4, 2) := by decide +kernel
theorem d_Model_readNumber_196 : decode prog_12_method_21_code 196 = .ok (.ifCond .eq 8, 3) := by decide +kernel
theorem d_Model_readNumber_199 : decode prog_12_method_21_code 199 = .ok (.lload 10, 2) := by decide +kernel
theorem d_Model_readNumber_201 : decode prog_12_method_21_code 201 = .ok (.goto 6, 3) := by decide +kernel
theorem d_Model_readNumber_204 : decode prog_12_method_21_code 204 = .ok (.lload 10, 2) := by decide +kernel
theorem d_Model_readNumber_206 : decode prog_12_method_21_code 206 = .ok (.lneg, 1) := by decide +kernel
theorem d_Model_readNumber_207 : decode prog_12_method_21_code 207 = .ok (.putfield 204, 3) := by decide +kernel
theorem d_Model_readNumber_210 : decode prog_12_method_21_code 210 = .ok (.iload_n 3, 1) := by decide +kernel
theorem d_Model_readNumber_211 : decode prog_12_method_21_code 211 = .ok (.ireturn, 1) := by decide +kernel
def Model_readNumber_jn65 (call : ax_Cf)  (x3 : Int32) (h : ax_Hp) : ax_O :=
  ax_ri ((-1) - x3) h
set_option maxHeartbeats 4000000 in
set_option maxRecDepth 20000 in
theorem Model_readNumber_jq65 {l : Launch} {G : ax_G} {d : Nat} {call : ax_Cf} (hcall : ax_Hc l G d call) {p : Program} {e : Env} {s : State} {mi : MethodId} {args : Array Value} {below : List Frame} {meth : Method} {c : Code} {h0 : ax_Hp} (B : ax_B G p s mi meth c "SchemaDeskModel" prog_12_method_21_code 14 (some (.int))) (E : c.exceptionTable.isEmpty = true) (Nm : meth.name = y_Model_readNumber.name)   (x3 : Int32) (h : ax_Hp) : ax_W G p l e s mi args below meth c 14 (d + 1) h0 65 [(3, ax_I x3)] [] h (Model_readNumber_jn65 call  x3 h) := by
  unfold Model_readNumber_jn65
  refine ax_iconst (v := (-1)) B d_Model_readNumber_65 (by decide) ?_
  refine ax_iload_n B 0 d_Model_readNumber_66 rfl rfl ?_
  refine ax_isub B d_Model_readNumber_67 ?_
  exact ax_ireturn B d_Model_readNumber_68
def Model_readNumber_jn207 (call : ax_Cf)  (x3 : Int32) (s0 : Int64) (s1 : Option Nat) (h : ax_Hp) : ax_O :=
  (ax_pf h s1 9 37 (ax_L s0)).bind fun h5 =>
  ax_ri x3 h5
set_option maxHeartbeats 4000000 in
set_option maxRecDepth 20000 in
theorem Model_readNumber_jq207 {l : Launch} {G : ax_G} {d : Nat} {call : ax_Cf} (hcall : ax_Hc l G d call) {p : Program} {e : Env} {s : State} {mi : MethodId} {args : Array Value} {below : List Frame} {meth : Method} {c : Code} {h0 : ax_Hp} (B : ax_B G p s mi meth c "SchemaDeskModel" prog_12_method_21_code 14 (some (.int))) (E : c.exceptionTable.isEmpty = true) (Nm : meth.name = y_Model_readNumber.name)   (x3 : Int32) (s0 : Int64) (s1 : Option Nat) (h : ax_Hp) : ax_W G p l e s mi args below meth c 14 (d + 1) h0 207 [(3, ax_I x3)] [ax_L s0, ax_A s1] h (Model_readNumber_jn207 call  x3 s0 s1 h) := by
  unfold Model_readNumber_jn207
  refine ax_putf (v := ax_L s0) B cl_Model (by decide) fk_Model_204 (Or.inl rfl) (fun _ => rfl) (fun _ => rfl) d_Model_readNumber_207 (fun h5 => ?_)
  refine ax_iload_n B 0 d_Model_readNumber_210 rfl rfl ?_
  exact ax_ireturn B d_Model_readNumber_211
def Model_readNumber_jn193 (call : ax_Cf)  (x0 : Option Nat) (x3 : Int32) (x4 : Int32) (x10 : Int64) (h : ax_Hp) : ax_O :=
  if x4 = 0 then
    Model_readNumber_jn207 call x3 (-x10) x0 h
  else
    Model_readNumber_jn207 call x3 x10 x0 h
set_option maxHeartbeats 4000000 in
set_option maxRecDepth 20000 in
theorem Model_readNumber_jq193 {l : Launch} {G : ax_G} {d : Nat} {call : ax_Cf} (hcall : ax_Hc l G d call) {p : Program} {e : Env} {s : State} {mi : MethodId} {args : Array Value} {below : List Frame} {meth : Method} {c : Code} {h0 : ax_Hp} (B : ax_B G p s mi meth c "SchemaDeskModel" prog_12_method_21_code 14 (some (.int))) (E : c.exceptionTable.isEmpty = true) (Nm : meth.name = y_Model_readNumber.name)   (x0 : Option Nat) (x3 : Int32) (x4 : Int32) (x10 : Int64) (h : ax_Hp) : ax_W G p l e s mi args below meth c 14 (d + 1) h0 193 [(0, ax_A x0), (3, ax_I x3), (4, ax_I x4), (10, ax_L x10)] [] h (Model_readNumber_jn193 call  x0 x3 x4 x10 h) := by
  unfold Model_readNumber_jn193
  refine ax_aload_n B 0 d_Model_readNumber_193 rfl rfl ?_
  refine ax_iload B 2 d_Model_readNumber_194 rfl ?_
  refine ax_if_eq B 204 d_Model_readNumber_196 (by decide) ?_ ?_
  · refine ax_lload B 3 d_Model_readNumber_204 rfl ?_
    refine ax_lneg B d_Model_readNumber_206 ?_
    refine ax_sub (tv2 := [(3, ax_I x3)]) [1] rfl ?_
    exact Model_readNumber_jq207 hcall B E Nm x3 (-x10) x0 h
  · refine ax_lload B 3 d_Model_readNumber_199 rfl ?_
    refine ax_goto B 207 d_Model_readNumber_201 (by decide) ?_
    refine ax_sub (tv2 := [(3, ax_I x3)]) [1] rfl ?_
    exact Model_readNumber_jq207 hcall B E Nm x3 x10 x0 h
def Model_readNumber_jn141 (call : ax_Cf) (k117 : Option Nat → Int32 → Int32 → Int32 → Int32 → Int64 → Int64 → Int32 → ax_Hp → ax_O) (x0 : Option Nat) (x1 : Int32) (x3 : Int32) (x4 : Int32) (x5 : Int32) (x8 : Int64) (x10 : Int64) (x12 : Int32) (h : ax_Hp) : ax_O :=
  ax_nzl 10 <|
  if 0 ≤ (lg_cmp x10 ((x8 + ((x5 - 48).toInt64)) / 10)) then
    ax_on h x0 9 <| ax_ci (call 158 [ax_A x0, ax_I (x3 + 1)] h) fun v7 h6 =>
    k117 x0 x1 (x3 + 1) x4 v7 x8 ((10 * x10) - ((x5 - 48).toInt64)) x12 h6
  else
    ax_ri ((-1) - x3) h
set_option maxHeartbeats 4000000 in
set_option maxRecDepth 20000 in
theorem Model_readNumber_jq141 {l : Launch} {G : ax_G} {d : Nat} {call : ax_Cf} (hcall : ax_Hc l G d call) {p : Program} {e : Env} {s : State} {mi : MethodId} {args : Array Value} {below : List Frame} {meth : Method} {c : Code} {h0 : ax_Hp} (B : ax_B G p s mi meth c "SchemaDeskModel" prog_12_method_21_code 14 (some (.int))) (E : c.exceptionTable.isEmpty = true) (Nm : meth.name = y_Model_readNumber.name) (k117 : Option Nat → Int32 → Int32 → Int32 → Int32 → Int64 → Int64 → Int32 → ax_Hp → ax_O) (hk117 : ∀ (x0 : Option Nat) (x1 : Int32) (x3 : Int32) (x4 : Int32) (x5 : Int32) (x8 : Int64) (x10 : Int64) (x12 : Int32) (h : ax_Hp), ax_W G p l e s mi args below meth c 14 (d + 1) h0 117 [(0, ax_A x0), (1, ax_I x1), (3, ax_I x3), (4, ax_I x4), (5, ax_I x5), (8, ax_L x8), (10, ax_L x10), (12, ax_I x12)] [] h (k117 x0 x1 x3 x4 x5 x8 x10 x12 h)) (x0 : Option Nat) (x1 : Int32) (x3 : Int32) (x4 : Int32) (x5 : Int32) (x8 : Int64) (x10 : Int64) (x12 : Int32) (h : ax_Hp) : ax_W G p l e s mi args below meth c 14 (d + 1) h0 141 [(0, ax_A x0), (1, ax_I x1), (3, ax_I x3), (4, ax_I x4), (5, ax_I x5), (8, ax_L x8), (10, ax_L x10), (12, ax_I x12)] [] h (Model_readNumber_jn141 call k117 x0 x1 x3 x4 x5 x8 x10 x12 h) := by
  unfold Model_readNumber_jn141
  refine ax_iload B 4 d_Model_readNumber_141 rfl ?_
  refine ax_bipush (v := 48) B d_Model_readNumber_143 (by decide) ?_
  refine ax_isub B d_Model_readNumber_145 ?_
  refine ax_istore (tv2 := [(13, ax_I (x5 - 48)), (0, ax_A x0), (1, ax_I x1), (3, ax_I x3), (4, ax_I x4), (5, ax_I x5), (8, ax_L x8), (10, ax_L x10), (12, ax_I x12)]) B d_Model_readNumber_146 (by decide) rfl ?_
  refine ax_lload B 7 d_Model_readNumber_148 rfl ?_
  refine ax_lload B 6 d_Model_readNumber_150 rfl ?_
  refine ax_iload B 0 d_Model_readNumber_152 rfl ?_
  refine ax_i2l B d_Model_readNumber_154 ?_
  refine ax_ladd B d_Model_readNumber_155 ?_
  refine ax_ldc2 (v := 10) B wd_1140 d_Model_readNumber_156 ?_
  refine ax_ldiv B d_Model_readNumber_159 ?_
  refine ax_lcmp B d_Model_readNumber_160 ?_
  refine ax_if_ge B 168 d_Model_readNumber_161 (by decide) ?_ ?_
  · refine ax_ldc2 (v := 10) B wd_1140 d_Model_readNumber_168 ?_
    refine ax_lload B 7 d_Model_readNumber_171 rfl ?_
    refine ax_lmul B d_Model_readNumber_173 ?_
    refine ax_iload B 0 d_Model_readNumber_174 rfl ?_
    refine ax_i2l B d_Model_readNumber_176 ?_
    refine ax_lsub B d_Model_readNumber_177 ?_
    refine ax_lstore (tv2 := [(10, ax_L ((10 * x10) - ((x5 - 48).toInt64))), (13, ax_I (x5 - 48)), (0, ax_A x0), (1, ax_I x1), (3, ax_I x3), (4, ax_I x4), (5, ax_I x5), (8, ax_L x8), (12, ax_I x12)]) B d_Model_readNumber_178 (by decide) rfl ?_
    refine ax_iinc (v := x3 + 1) (tv2 := [(3, ax_I (x3 + 1)), (10, ax_L ((10 * x10) - ((x5 - 48).toInt64))), (13, ax_I (x5 - 48)), (0, ax_A x0), (1, ax_I x1), (4, ax_I x4), (5, ax_I x5), (8, ax_L x8), (12, ax_I x12)]) B 4 d_Model_readNumber_180 rfl (congrArg (_ + ·) (by decide)) (by decide) rfl ?_
    refine ax_aload_n B 3 d_Model_readNumber_183 rfl rfl ?_
    refine ax_iload_n B 0 d_Model_readNumber_184 rfl rfl ?_
    refine ax_callVi (av := [ax_I (x3 + 1)]) (rest := []) B E hm_Model_see cl_Model rfl wd_1108 wp_44 lk_Model_194 d_Model_readNumber_185 rfl (Nat.le_of_ble_eq_true rfl) (fun _ _ hh => hcall 158 _ _ _ _ hh) (fun v7 h6 => ?_)
    refine ax_istore (tv2 := [(5, ax_I v7), (3, ax_I (x3 + 1)), (10, ax_L ((10 * x10) - ((x5 - 48).toInt64))), (13, ax_I (x5 - 48)), (0, ax_A x0), (1, ax_I x1), (4, ax_I x4), (8, ax_L x8), (12, ax_I x12)]) B d_Model_readNumber_188 (by decide) rfl ?_
    refine ax_goto B 117 d_Model_readNumber_190 (by decide) ?_
    refine ax_sub (tv2 := [(0, ax_A x0), (1, ax_I x1), (3, ax_I (x3 + 1)), (4, ax_I x4), (5, ax_I v7), (8, ax_L x8), (10, ax_L ((10 * x10) - ((x5 - 48).toInt64))), (12, ax_I x12)]) [4, 5, 1, 6, 0, 7, 2, 8] rfl ?_
    exact hk117 x0 x1 (x3 + 1) x4 v7 x8 ((10 * x10) - ((x5 - 48).toInt64)) x12 h6
  · refine ax_iconst (v := (-1)) B d_Model_readNumber_164 (by decide) ?_
    refine ax_iload_n B 3 d_Model_readNumber_165 rfl rfl ?_
    refine ax_isub B d_Model_readNumber_166 ?_
    exact ax_ireturn B d_Model_readNumber_167
def Model_readNumber_bd117 (call : ax_Cf)  (k117 : Option Nat → Int32 → Int32 → Int32 → Int32 → Int64 → Int64 → Int32 → ax_Hp → ax_O) (x0 : Option Nat) (x1 : Int32) (x3 : Int32) (x4 : Int32) (x5 : Int32) (x8 : Int64) (x10 : Int64) (x12 : Int32) (h : ax_Hp) : ax_O :=
  if x5 < 48 then
    Model_readNumber_jn193 call x0 x3 x4 x10 h
  else
    if 57 < x5 then
      Model_readNumber_jn193 call x0 x3 x4 x10 h
    else
      if x12 = 0 then
        Model_readNumber_jn141 call k117 x0 x1 x3 x4 x5 x8 x10 x12 h
      else
        if x1 < x3 then
          Model_readNumber_jn193 call x0 x3 x4 x10 h
        else
          Model_readNumber_jn141 call k117 x0 x1 x3 x4 x5 x8 x10 x12 h
def Model_readNumber_lp117 (call : ax_Cf)  : Nat → Option Nat → Int32 → Int32 → Int32 → Int32 → Int64 → Int64 → Int32 → ax_Hp → ax_O
  | 0 => fun _ _ _ _ _ _ _ _ _ => none
  | n + 1 => Model_readNumber_bd117 call  (Model_readNumber_lp117 call  n)
set_option maxHeartbeats 4000000 in
set_option maxRecDepth 20000 in
theorem Model_readNumber_lb117 {l : Launch} {G : ax_G} {d : Nat} {call : ax_Cf} (hcall : ax_Hc l G d call) {p : Program} {e : Env} {s : State} {mi : MethodId} {args : Array Value} {below : List Frame} {meth : Method} {c : Code} {h0 : ax_Hp} (B : ax_B G p s mi meth c "SchemaDeskModel" prog_12_method_21_code 14 (some (.int))) (E : c.exceptionTable.isEmpty = true) (Nm : meth.name = y_Model_readNumber.name)   {k117 : Option Nat → Int32 → Int32 → Int32 → Int32 → Int64 → Int64 → Int32 → ax_Hp → ax_O} (hk117 : ∀ (x0 : Option Nat) (x1 : Int32) (x3 : Int32) (x4 : Int32) (x5 : Int32) (x8 : Int64) (x10 : Int64) (x12 : Int32) (h : ax_Hp), ax_W G p l e s mi args below meth c 14 (d + 1) h0 117 [(0, ax_A x0), (1, ax_I x1), (3, ax_I x3), (4, ax_I x4), (5, ax_I x5), (8, ax_L x8), (10, ax_L x10), (12, ax_I x12)] [] h (k117 x0 x1 x3 x4 x5 x8 x10 x12 h)) (x0 : Option Nat) (x1 : Int32) (x3 : Int32) (x4 : Int32) (x5 : Int32) (x8 : Int64) (x10 : Int64) (x12 : Int32) (h : ax_Hp) : ax_W G p l e s mi args below meth c 14 (d + 1) h0 117 [(0, ax_A x0), (1, ax_I x1), (3, ax_I x3), (4, ax_I x4), (5, ax_I x5), (8, ax_L x8), (10, ax_L x10), (12, ax_I x12)] [] h (Model_readNumber_bd117 call  k117 x0 x1 x3 x4 x5 x8 x10 x12 h) := by
  unfold Model_readNumber_bd117
  refine ax_iload B 4 d_Model_readNumber_117 rfl ?_
  refine ax_bipush (v := 48) B d_Model_readNumber_119 (by decide) ?_
  refine ax_icmp_lt B 193 d_Model_readNumber_121 (by decide) ?_ ?_
  · refine ax_sub (tv2 := [(0, ax_A x0), (3, ax_I x3), (4, ax_I x4), (10, ax_L x10)]) [0, 2, 3, 6] rfl ?_
    exact Model_readNumber_jq193 hcall B E Nm x0 x3 x4 x10 h
  · refine ax_iload B 4 d_Model_readNumber_124 rfl ?_
    refine ax_bipush (v := 57) B d_Model_readNumber_126 (by decide) ?_
    refine ax_icmp_gt B 193 d_Model_readNumber_128 (by decide) ?_ ?_
    · refine ax_sub (tv2 := [(0, ax_A x0), (3, ax_I x3), (4, ax_I x4), (10, ax_L x10)]) [0, 2, 3, 6] rfl ?_
      exact Model_readNumber_jq193 hcall B E Nm x0 x3 x4 x10 h
    · refine ax_iload B 7 d_Model_readNumber_131 rfl ?_
      refine ax_if_eq B 141 d_Model_readNumber_133 (by decide) ?_ ?_
      · refine ax_sub (tv2 := [(0, ax_A x0), (1, ax_I x1), (3, ax_I x3), (4, ax_I x4), (5, ax_I x5), (8, ax_L x8), (10, ax_L x10), (12, ax_I x12)]) [0, 1, 2, 3, 4, 5, 6, 7] rfl ?_
        exact Model_readNumber_jq141 hcall B E Nm k117 hk117 x0 x1 x3 x4 x5 x8 x10 x12 h
      · refine ax_iload_n B 2 d_Model_readNumber_136 rfl rfl ?_
        refine ax_iload_n B 1 d_Model_readNumber_137 rfl rfl ?_
        refine ax_icmp_gt B 193 d_Model_readNumber_138 (by decide) ?_ ?_
        · refine ax_sub (tv2 := [(0, ax_A x0), (3, ax_I x3), (4, ax_I x4), (10, ax_L x10)]) [0, 2, 3, 6] rfl ?_
          exact Model_readNumber_jq193 hcall B E Nm x0 x3 x4 x10 h
        · refine ax_sub (tv2 := [(0, ax_A x0), (1, ax_I x1), (3, ax_I x3), (4, ax_I x4), (5, ax_I x5), (8, ax_L x8), (10, ax_L x10), (12, ax_I x12)]) [0, 1, 2, 3, 4, 5, 6, 7] rfl ?_
          exact Model_readNumber_jq141 hcall B E Nm k117 hk117 x0 x1 x3 x4 x5 x8 x10 x12 h
theorem Model_readNumber_lq117 {l : Launch} {G : ax_G} {d : Nat} {call : ax_Cf} (hcall : ax_Hc l G d call) {p : Program} {e : Env} {s : State} {mi : MethodId} {args : Array Value} {below : List Frame} {meth : Method} {c : Code} {h0 : ax_Hp} (B : ax_B G p s mi meth c "SchemaDeskModel" prog_12_method_21_code 14 (some (.int))) (E : c.exceptionTable.isEmpty = true) (Nm : meth.name = y_Model_readNumber.name)   : ∀ (n : Nat) (x0 : Option Nat) (x1 : Int32) (x3 : Int32) (x4 : Int32) (x5 : Int32) (x8 : Int64) (x10 : Int64) (x12 : Int32) (h : ax_Hp), ax_W G p l e s mi args below meth c 14 (d + 1) h0 117 [(0, ax_A x0), (1, ax_I x1), (3, ax_I x3), (4, ax_I x4), (5, ax_I x5), (8, ax_L x8), (10, ax_L x10), (12, ax_I x12)] [] h (Model_readNumber_lp117 call  n x0 x1 x3 x4 x5 x8 x10 x12 h)
  | 0, _, _, _, _, _, _, _, _, _ => ax_none
  | n + 1, x0, x1, x3, x4, x5, x8, x10, x12, h => Model_readNumber_lb117 hcall B E Nm   (Model_readNumber_lq117 hcall B E Nm   n) x0 x1 x3 x4 x5 x8 x10 x12 h
def Model_readNumber_jn115 (call : ax_Cf)  (x0 : Option Nat) (x1 : Int32) (x3 : Int32) (x4 : Int32) (x5 : Int32) (x8 : Int64) (x10 : Int64) (s0 : Int32) (h : ax_Hp) : ax_O :=
  Model_readNumber_lp117 call ax_fuel x0 x1 x3 x4 x5 x8 x10 s0 h
set_option maxHeartbeats 4000000 in
set_option maxRecDepth 20000 in
theorem Model_readNumber_jq115 {l : Launch} {G : ax_G} {d : Nat} {call : ax_Cf} (hcall : ax_Hc l G d call) {p : Program} {e : Env} {s : State} {mi : MethodId} {args : Array Value} {below : List Frame} {meth : Method} {c : Code} {h0 : ax_Hp} (B : ax_B G p s mi meth c "SchemaDeskModel" prog_12_method_21_code 14 (some (.int))) (E : c.exceptionTable.isEmpty = true) (Nm : meth.name = y_Model_readNumber.name)   (x0 : Option Nat) (x1 : Int32) (x3 : Int32) (x4 : Int32) (x5 : Int32) (x8 : Int64) (x10 : Int64) (s0 : Int32) (h : ax_Hp) : ax_W G p l e s mi args below meth c 14 (d + 1) h0 115 [(0, ax_A x0), (1, ax_I x1), (3, ax_I x3), (4, ax_I x4), (5, ax_I x5), (8, ax_L x8), (10, ax_L x10)] [ax_I s0] h (Model_readNumber_jn115 call  x0 x1 x3 x4 x5 x8 x10 s0 h) := by
  unfold Model_readNumber_jn115
  refine ax_istore (tv2 := [(12, ax_I s0), (0, ax_A x0), (1, ax_I x1), (3, ax_I x3), (4, ax_I x4), (5, ax_I x5), (8, ax_L x8), (10, ax_L x10)]) B d_Model_readNumber_115 (by decide) rfl ?_
  refine ax_sub (tv2 := [(0, ax_A x0), (1, ax_I x1), (3, ax_I x3), (4, ax_I x4), (5, ax_I x5), (8, ax_L x8), (10, ax_L x10), (12, ax_I s0)]) [1, 2, 3, 4, 5, 6, 7, 0] rfl ?_
  exact Model_readNumber_lq117 hcall B E Nm ax_fuel x0 x1 x3 x4 x5 x8 x10 s0 h
def Model_readNumber_jn98 (call : ax_Cf)  (x0 : Option Nat) (x1 : Int32) (x3 : Int32) (x4 : Int32) (x5 : Int32) (s0 : Int64) (h : ax_Hp) : ax_O :=
  if x5 = 48 then
    Model_readNumber_jn115 call x0 x1 x3 x4 x5 s0 0 1 h
  else
    Model_readNumber_jn115 call x0 x1 x3 x4 x5 s0 0 0 h
set_option maxHeartbeats 4000000 in
set_option maxRecDepth 20000 in
theorem Model_readNumber_jq98 {l : Launch} {G : ax_G} {d : Nat} {call : ax_Cf} (hcall : ax_Hc l G d call) {p : Program} {e : Env} {s : State} {mi : MethodId} {args : Array Value} {below : List Frame} {meth : Method} {c : Code} {h0 : ax_Hp} (B : ax_B G p s mi meth c "SchemaDeskModel" prog_12_method_21_code 14 (some (.int))) (E : c.exceptionTable.isEmpty = true) (Nm : meth.name = y_Model_readNumber.name)   (x0 : Option Nat) (x1 : Int32) (x3 : Int32) (x4 : Int32) (x5 : Int32) (s0 : Int64) (h : ax_Hp) : ax_W G p l e s mi args below meth c 14 (d + 1) h0 98 [(0, ax_A x0), (1, ax_I x1), (3, ax_I x3), (4, ax_I x4), (5, ax_I x5)] [ax_L s0] h (Model_readNumber_jn98 call  x0 x1 x3 x4 x5 s0 h) := by
  unfold Model_readNumber_jn98
  refine ax_lstore (tv2 := [(8, ax_L s0), (0, ax_A x0), (1, ax_I x1), (3, ax_I x3), (4, ax_I x4), (5, ax_I x5)]) B d_Model_readNumber_98 (by decide) rfl ?_
  refine ax_lconst (v := 0) B d_Model_readNumber_100 (by decide) ?_
  refine ax_lstore (tv2 := [(10, ax_L 0), (8, ax_L s0), (0, ax_A x0), (1, ax_I x1), (3, ax_I x3), (4, ax_I x4), (5, ax_I x5)]) B d_Model_readNumber_101 (by decide) rfl ?_
  refine ax_iload B 6 d_Model_readNumber_103 rfl ?_
  refine ax_bipush (v := 48) B d_Model_readNumber_105 (by decide) ?_
  refine ax_icmp_ne B 114 d_Model_readNumber_107 (by decide) ?_ ?_
  · refine ax_iconst (v := 0) B d_Model_readNumber_114 (by decide) ?_
    refine ax_sub (tv2 := [(0, ax_A x0), (1, ax_I x1), (3, ax_I x3), (4, ax_I x4), (5, ax_I x5), (8, ax_L s0), (10, ax_L 0)]) [2, 3, 4, 5, 6, 1, 0] rfl ?_
    exact Model_readNumber_jq115 hcall B E Nm x0 x1 x3 x4 x5 s0 0 0 h
  · refine ax_iconst (v := 1) B d_Model_readNumber_110 (by decide) ?_
    refine ax_goto B 115 d_Model_readNumber_111 (by decide) ?_
    refine ax_sub (tv2 := [(0, ax_A x0), (1, ax_I x1), (3, ax_I x3), (4, ax_I x4), (5, ax_I x5), (8, ax_L s0), (10, ax_L 0)]) [2, 3, 4, 5, 6, 1, 0] rfl ?_
    exact Model_readNumber_jq115 hcall B E Nm x0 x1 x3 x4 x5 s0 0 1 h
def Model_readNumber_jn82 (call : ax_Cf)  (x0 : Option Nat) (x1 : Int32) (x3 : Int32) (x4 : Int32) (x5 : Int32) (s0 : Int64) (h : ax_Hp) : ax_O :=
  if x4 = 0 then
    Model_readNumber_jn98 call x0 x1 x3 x4 x5 (s0 + 1) h
  else
    Model_readNumber_jn98 call x0 x1 x3 x4 x5 s0 h
set_option maxHeartbeats 4000000 in
set_option maxRecDepth 20000 in
theorem Model_readNumber_jq82 {l : Launch} {G : ax_G} {d : Nat} {call : ax_Cf} (hcall : ax_Hc l G d call) {p : Program} {e : Env} {s : State} {mi : MethodId} {args : Array Value} {below : List Frame} {meth : Method} {c : Code} {h0 : ax_Hp} (B : ax_B G p s mi meth c "SchemaDeskModel" prog_12_method_21_code 14 (some (.int))) (E : c.exceptionTable.isEmpty = true) (Nm : meth.name = y_Model_readNumber.name)   (x0 : Option Nat) (x1 : Int32) (x3 : Int32) (x4 : Int32) (x5 : Int32) (s0 : Int64) (h : ax_Hp) : ax_W G p l e s mi args below meth c 14 (d + 1) h0 82 [(0, ax_A x0), (1, ax_I x1), (3, ax_I x3), (4, ax_I x4), (5, ax_I x5)] [ax_L s0] h (Model_readNumber_jn82 call  x0 x1 x3 x4 x5 s0 h) := by
  unfold Model_readNumber_jn82
  refine ax_lstore (tv2 := [(6, ax_L s0), (0, ax_A x0), (1, ax_I x1), (3, ax_I x3), (4, ax_I x4), (5, ax_I x5)]) B d_Model_readNumber_82 (by decide) rfl ?_
  refine ax_iload B 4 d_Model_readNumber_84 rfl ?_
  refine ax_if_eq B 94 d_Model_readNumber_86 (by decide) ?_ ?_
  · refine ax_lload B 0 d_Model_readNumber_94 rfl ?_
    refine ax_lconst (v := 1) B d_Model_readNumber_96 (by decide) ?_
    refine ax_ladd B d_Model_readNumber_97 ?_
    refine ax_sub (tv2 := [(0, ax_A x0), (1, ax_I x1), (3, ax_I x3), (4, ax_I x4), (5, ax_I x5)]) [1, 2, 3, 4, 5] rfl ?_
    exact Model_readNumber_jq98 hcall B E Nm x0 x1 x3 x4 x5 (s0 + 1) h
  · refine ax_lload B 0 d_Model_readNumber_89 rfl ?_
    refine ax_goto B 98 d_Model_readNumber_91 (by decide) ?_
    refine ax_sub (tv2 := [(0, ax_A x0), (1, ax_I x1), (3, ax_I x3), (4, ax_I x4), (5, ax_I x5)]) [1, 2, 3, 4, 5] rfl ?_
    exact Model_readNumber_jq98 hcall B E Nm x0 x1 x3 x4 x5 s0 h
def Model_readNumber_jn69 (call : ax_Cf)  (x0 : Option Nat) (x1 : Int32) (x2 : Int32) (x3 : Int32) (x4 : Int32) (x5 : Int32) (h : ax_Hp) : ax_O :=
  if x2 = 0 then
    Model_readNumber_jn82 call x0 x1 x3 x4 x5 (-2147483648) h
  else
    Model_readNumber_jn82 call x0 x1 x3 x4 x5 (-9223372036854775808) h
set_option maxHeartbeats 4000000 in
set_option maxRecDepth 20000 in
theorem Model_readNumber_jq69 {l : Launch} {G : ax_G} {d : Nat} {call : ax_Cf} (hcall : ax_Hc l G d call) {p : Program} {e : Env} {s : State} {mi : MethodId} {args : Array Value} {below : List Frame} {meth : Method} {c : Code} {h0 : ax_Hp} (B : ax_B G p s mi meth c "SchemaDeskModel" prog_12_method_21_code 14 (some (.int))) (E : c.exceptionTable.isEmpty = true) (Nm : meth.name = y_Model_readNumber.name)   (x0 : Option Nat) (x1 : Int32) (x2 : Int32) (x3 : Int32) (x4 : Int32) (x5 : Int32) (h : ax_Hp) : ax_W G p l e s mi args below meth c 14 (d + 1) h0 69 [(0, ax_A x0), (1, ax_I x1), (2, ax_I x2), (3, ax_I x3), (4, ax_I x4), (5, ax_I x5)] [] h (Model_readNumber_jn69 call  x0 x1 x2 x3 x4 x5 h) := by
  unfold Model_readNumber_jn69
  refine ax_iload_n B 2 d_Model_readNumber_69 rfl rfl ?_
  refine ax_if_eq B 79 d_Model_readNumber_70 (by decide) ?_ ?_
  · refine ax_ldc2 (v := (-2147483648)) B wd_1139 d_Model_readNumber_79 ?_
    refine ax_sub (tv2 := [(0, ax_A x0), (1, ax_I x1), (3, ax_I x3), (4, ax_I x4), (5, ax_I x5)]) [0, 1, 3, 4, 5] rfl ?_
    exact Model_readNumber_jq82 hcall B E Nm x0 x1 x3 x4 x5 (-2147483648) h
  · refine ax_ldc2 (v := (-9223372036854775808)) B wd_1138 d_Model_readNumber_73 ?_
    refine ax_goto B 82 d_Model_readNumber_76 (by decide) ?_
    refine ax_sub (tv2 := [(0, ax_A x0), (1, ax_I x1), (3, ax_I x3), (4, ax_I x4), (5, ax_I x5)]) [0, 1, 3, 4, 5] rfl ?_
    exact Model_readNumber_jq82 hcall B E Nm x0 x1 x3 x4 x5 (-9223372036854775808) h
def Model_readNumber_jn30 (call : ax_Cf)  (x0 : Option Nat) (x1 : Int32) (x2 : Int32) (x4 : Int32) (s0 : Int32) (s1 : Int32) (h : ax_Hp) : ax_O :=
  ax_on h x0 9 <| ax_ci (call 158 [ax_A x0, ax_I (s1 + s0)] h) fun v4 h3 =>
  if v4 < 48 then
    Model_readNumber_jn65 call (s1 + s0) h3
  else
    if 57 < v4 then
      Model_readNumber_jn65 call (s1 + s0) h3
    else
      if x4 = 0 then
        Model_readNumber_jn69 call x0 x1 x2 (s1 + s0) x4 v4 h3
      else
        if v4 = 48 then
          Model_readNumber_jn65 call (s1 + s0) h3
        else
          Model_readNumber_jn69 call x0 x1 x2 (s1 + s0) x4 v4 h3
set_option maxHeartbeats 4000000 in
set_option maxRecDepth 20000 in
theorem Model_readNumber_jq30 {l : Launch} {G : ax_G} {d : Nat} {call : ax_Cf} (hcall : ax_Hc l G d call) {p : Program} {e : Env} {s : State} {mi : MethodId} {args : Array Value} {below : List Frame} {meth : Method} {c : Code} {h0 : ax_Hp} (B : ax_B G p s mi meth c "SchemaDeskModel" prog_12_method_21_code 14 (some (.int))) (E : c.exceptionTable.isEmpty = true) (Nm : meth.name = y_Model_readNumber.name)   (x0 : Option Nat) (x1 : Int32) (x2 : Int32) (x4 : Int32) (s0 : Int32) (s1 : Int32) (h : ax_Hp) : ax_W G p l e s mi args below meth c 14 (d + 1) h0 30 [(0, ax_A x0), (1, ax_I x1), (2, ax_I x2), (4, ax_I x4)] [ax_I s0, ax_I s1] h (Model_readNumber_jn30 call  x0 x1 x2 x4 s0 s1 h) := by
  unfold Model_readNumber_jn30
  refine ax_iadd B d_Model_readNumber_30 ?_
  refine ax_istore_n (tv2 := [(3, ax_I (s1 + s0)), (0, ax_A x0), (1, ax_I x1), (2, ax_I x2), (4, ax_I x4)]) B d_Model_readNumber_31 rfl (by decide) rfl ?_
  refine ax_aload_n B 1 d_Model_readNumber_32 rfl rfl ?_
  refine ax_iload_n B 0 d_Model_readNumber_33 rfl rfl ?_
  refine ax_callVi (av := [ax_I (s1 + s0)]) (rest := []) B E hm_Model_see cl_Model rfl wd_1108 wp_44 lk_Model_194 d_Model_readNumber_34 rfl (Nat.le_of_ble_eq_true rfl) (fun _ _ hh => hcall 158 _ _ _ _ hh) (fun v4 h3 => ?_)
  refine ax_istore (tv2 := [(5, ax_I v4), (3, ax_I (s1 + s0)), (0, ax_A x0), (1, ax_I x1), (2, ax_I x2), (4, ax_I x4)]) B d_Model_readNumber_37 (by decide) rfl ?_
  refine ax_iload B 0 d_Model_readNumber_39 rfl ?_
  refine ax_bipush (v := 48) B d_Model_readNumber_41 (by decide) ?_
  refine ax_icmp_lt B 65 d_Model_readNumber_43 (by decide) ?_ ?_
  · refine ax_sub (tv2 := [(3, ax_I (s1 + s0))]) [1] rfl ?_
    exact Model_readNumber_jq65 hcall B E Nm (s1 + s0) h3
  · refine ax_iload B 0 d_Model_readNumber_46 rfl ?_
    refine ax_bipush (v := 57) B d_Model_readNumber_48 (by decide) ?_
    refine ax_icmp_gt B 65 d_Model_readNumber_50 (by decide) ?_ ?_
    · refine ax_sub (tv2 := [(3, ax_I (s1 + s0))]) [1] rfl ?_
      exact Model_readNumber_jq65 hcall B E Nm (s1 + s0) h3
    · refine ax_iload B 5 d_Model_readNumber_53 rfl ?_
      refine ax_if_eq B 69 d_Model_readNumber_55 (by decide) ?_ ?_
      · refine ax_sub (tv2 := [(0, ax_A x0), (1, ax_I x1), (2, ax_I x2), (3, ax_I (s1 + s0)), (4, ax_I x4), (5, ax_I v4)]) [2, 3, 4, 1, 5, 0] rfl ?_
        exact Model_readNumber_jq69 hcall B E Nm x0 x1 x2 (s1 + s0) x4 v4 h3
      · refine ax_iload B 0 d_Model_readNumber_58 rfl ?_
        refine ax_bipush (v := 48) B d_Model_readNumber_60 (by decide) ?_
        refine ax_icmp_ne B 69 d_Model_readNumber_62 (by decide) ?_ ?_
        · refine ax_sub (tv2 := [(0, ax_A x0), (1, ax_I x1), (2, ax_I x2), (3, ax_I (s1 + s0)), (4, ax_I x4), (5, ax_I v4)]) [2, 3, 4, 1, 5, 0] rfl ?_
          exact Model_readNumber_jq69 hcall B E Nm x0 x1 x2 (s1 + s0) x4 v4 h3
        · refine ax_sub (tv2 := [(3, ax_I (s1 + s0))]) [1] rfl ?_
          exact Model_readNumber_jq65 hcall B E Nm (s1 + s0) h3
def Model_readNumber_jn17 (call : ax_Cf)  (x0 : Option Nat) (x1 : Int32) (x2 : Int32) (x3 : Int32) (s0 : Int32) (h : ax_Hp) : ax_O :=
  if s0 = 0 then
    Model_readNumber_jn30 call x0 x1 x2 s0 0 x3 h
  else
    Model_readNumber_jn30 call x0 x1 x2 s0 1 x3 h
set_option maxHeartbeats 4000000 in
set_option maxRecDepth 20000 in
theorem Model_readNumber_jq17 {l : Launch} {G : ax_G} {d : Nat} {call : ax_Cf} (hcall : ax_Hc l G d call) {p : Program} {e : Env} {s : State} {mi : MethodId} {args : Array Value} {below : List Frame} {meth : Method} {c : Code} {h0 : ax_Hp} (B : ax_B G p s mi meth c "SchemaDeskModel" prog_12_method_21_code 14 (some (.int))) (E : c.exceptionTable.isEmpty = true) (Nm : meth.name = y_Model_readNumber.name)   (x0 : Option Nat) (x1 : Int32) (x2 : Int32) (x3 : Int32) (s0 : Int32) (h : ax_Hp) : ax_W G p l e s mi args below meth c 14 (d + 1) h0 17 [(0, ax_A x0), (1, ax_I x1), (2, ax_I x2), (3, ax_I x3)] [ax_I s0] h (Model_readNumber_jn17 call  x0 x1 x2 x3 s0 h) := by
  unfold Model_readNumber_jn17
  refine ax_istore (tv2 := [(4, ax_I s0), (0, ax_A x0), (1, ax_I x1), (2, ax_I x2), (3, ax_I x3)]) B d_Model_readNumber_17 (by decide) rfl ?_
  refine ax_iload_n B 4 d_Model_readNumber_19 rfl rfl ?_
  refine ax_iload B 0 d_Model_readNumber_20 rfl ?_
  refine ax_if_eq B 29 d_Model_readNumber_22 (by decide) ?_ ?_
  · refine ax_iconst (v := 0) B d_Model_readNumber_29 (by decide) ?_
    refine ax_sub (tv2 := [(0, ax_A x0), (1, ax_I x1), (2, ax_I x2), (4, ax_I s0)]) [1, 2, 3, 0] rfl ?_
    exact Model_readNumber_jq30 hcall B E Nm x0 x1 x2 s0 0 x3 h
  · refine ax_iconst (v := 1) B d_Model_readNumber_25 (by decide) ?_
    refine ax_goto B 30 d_Model_readNumber_26 (by decide) ?_
    refine ax_sub (tv2 := [(0, ax_A x0), (1, ax_I x1), (2, ax_I x2), (4, ax_I s0)]) [1, 2, 3, 0] rfl ?_
    exact Model_readNumber_jq30 hcall B E Nm x0 x1 x2 s0 1 x3 h
def Model_readNumber_b (call : ax_Cf) (x0 : Option Nat) (x1 : Int32) (x2 : Int32) (h : ax_Hp) : ax_O :=
  ax_on h x0 9 <| ax_ci (call 158 [ax_A x0, ax_I x1] h) fun v2 h1 =>
  if v2 = 45 then
    Model_readNumber_jn17 call x0 x1 x2 x1 1 h1
  else
    Model_readNumber_jn17 call x0 x1 x2 x1 0 h1
set_option maxHeartbeats 4000000 in
set_option maxRecDepth 20000 in
theorem Model_readNumber_t {l : Launch} {G : ax_G} {d : Nat} {call : ax_Cf} (hcall : ax_Hc l G d call) (x0 : Option Nat) (x1 : Int32) (x2 : Int32) (h : ax_Hp) {r : ax_Rs} {h' : ax_Hp} (ho : Model_readNumber_b call x0 x1 x2 h = some (r, h')) : ax_C l G (d + 1) y_Model_readNumber (.code y_Model_readNumber prog_12_method_21_code 14 (some (.int))) [ax_A x0, ax_I x1, ax_I x2] h r h' := by
  refine ax_enter (by decide) (Nat.le_of_ble_eq_true rfl) ho (fun p e s mi args below meth c B E Nm => ?_)
  have B : ax_B G p s mi meth c "SchemaDeskModel" prog_12_method_21_code 14 (some (.int)) := B
  show ax_W G p l e s mi args below meth c 14 (d + 1) h 0 [(0, ax_A x0), (1, ax_I x1), (2, ax_I x2)] [] h (Model_readNumber_b call x0 x1 x2 h)
  unfold Model_readNumber_b
  refine ax_iload_n B 1 d_Model_readNumber_0 rfl rfl ?_
  refine ax_istore_n (tv2 := [(3, ax_I x1), (0, ax_A x0), (1, ax_I x1), (2, ax_I x2)]) B d_Model_readNumber_1 rfl (by decide) rfl ?_
  refine ax_aload_n B 1 d_Model_readNumber_2 rfl rfl ?_
  refine ax_iload_n B 0 d_Model_readNumber_3 rfl rfl ?_
  refine ax_callVi (av := [ax_I x1]) (rest := []) B E hm_Model_see cl_Model rfl wd_1108 wp_44 lk_Model_194 d_Model_readNumber_4 rfl (Nat.le_of_ble_eq_true rfl) (fun _ _ hh => hcall 158 _ _ _ _ hh) (fun v2 h1 => ?_)
  refine ax_bipush (v := 45) B d_Model_readNumber_7 (by decide) ?_
  refine ax_icmp_ne B 16 d_Model_readNumber_9 (by decide) ?_ ?_
  · refine ax_iconst (v := 0) B d_Model_readNumber_16 (by decide) ?_
    refine ax_sub (tv2 := [(0, ax_A x0), (1, ax_I x1), (2, ax_I x2), (3, ax_I x1)]) [1, 2, 3, 0] rfl ?_
    exact Model_readNumber_jq17 hcall B E Nm x0 x1 x2 x1 0 h1
  · refine ax_iconst (v := 1) B d_Model_readNumber_12 (by decide) ?_
    refine ax_goto B 17 d_Model_readNumber_13 (by decide) ?_
    refine ax_sub (tv2 := [(0, ax_A x0), (1, ax_I x1), (2, ax_I x2), (3, ax_I x1)]) [1, 2, 3, 0] rfl ?_
    exact Model_readNumber_jq17 hcall B E Nm x0 x1 x2 x1 1 h1

theorem d_Model_sayBytes_0 : decode prog_12_method_25_code 0 = .ok (.aload_n 0, 1) := by decide +kernel
theorem d_Model_sayBytes_1 : decode prog_12_method_25_code 1 = .ok (.getfield 170, 3) := by decide +kernel
theorem d_Model_sayBytes_4 : decode prog_12_method_25_code 4 = .ok (.iconst 1, 1) := by decide +kernel
theorem d_Model_sayBytes_5 : decode prog_12_method_25_code 5 = .ok (.if_icmp .eq 4, 3) := by decide +kernel
theorem d_Model_sayBytes_8 : decode prog_12_method_25_code 8 = .ok (.return_, 1) := by decide +kernel
theorem d_Model_sayBytes_9 : decode prog_12_method_25_code 9 = .ok (.aload_n 0, 1) := by decide +kernel
theorem d_Model_sayBytes_10 : decode prog_12_method_25_code 10 = .ok (.getfield 48, 3) := by decide +kernel
theorem d_Model_sayBytes_13 : decode prog_12_method_25_code 13 = .ok (.iload_n 1, 1) := by decide +kernel
theorem d_Model_sayBytes_14 : decode prog_12_method_25_code 14 = .ok (.caload, 1) := by decide +kernel
theorem d_Model_sayBytes_15 : decode prog_12_method_25_code 15 = .ok (.bipush 66, 2) := by decide +kernel
theorem d_Model_sayBytes_17 : decode prog_12_method_25_code 17 = .ok (.if_icmp .ne 25, 3) := by decide +kernel
theorem d_Model_sayBytes_20 : decode prog_12_method_25_code 20 = .ok (.aload_n 0, 1) := by decide +kernel
theorem d_Model_sayBytes_21 : decode prog_12_method_25_code 21 = .ok (.aload_n 0, 1) := by decide +kernel
theorem d_Model_sayBytes_22 : decode prog_12_method_25_code 22 = .ok (.iload_n 2, 1) := by decide +kernel
theorem d_Model_sayBytes_23 : decode prog_12_method_25_code 23 = .ok (.invokevirtual 194, 3) := by decide +kernel
theorem d_Model_sayBytes_26 : decode prog_12_method_25_code 26 = .ok (.bipush 84, 2) := by decide +kernel
theorem d_Model_sayBytes_28 : decode prog_12_method_25_code 28 = .ok (.if_icmp .ne 7, 3) := by decide +kernel
theorem d_Model_sayBytes_31 : decode prog_12_method_25_code 31 = .ok (.iconst 1, 1) := by decide +kernel
theorem d_Model_sayBytes_32 : decode prog_12_method_25_code 32 = .ok (.goto 4, 3) := by decide +kernel
theorem d_Model_sayBytes_35 : decode prog_12_method_25_code 35 = .ok (.iconst 0, 1) := by decide +kernel
theorem d_Model_sayBytes_36 : decode prog_12_method_25_code 36 = .ok (.invokevirtual 208, 3) := by decide +kernel
theorem d_Model_sayBytes_39 : decode prog_12_method_25_code 39 = .ok (.goto 125, 3) := by decide +kernel
theorem d_Model_sayBytes_42 : decode prog_12_method_25_code 42 = .ok (.aload_n 0, 1) := by decide +kernel
theorem d_Model_sayBytes_43 : decode prog_12_method_25_code 43 = .ok (.getfield 48, 3) := by decide +kernel
theorem d_Model_sayBytes_46 : decode prog_12_method_25_code 46 = .ok (.iload_n 1, 1) := by decide +kernel
theorem d_Model_sayBytes_47 : decode prog_12_method_25_code 47 = .ok (.caload, 1) := by decide +kernel
theorem d_Model_sayBytes_48 : decode prog_12_method_25_code 48 = .ok (.bipush 73, 2) := by decide +kernel
theorem d_Model_sayBytes_50 : decode prog_12_method_25_code 50 = .ok (.if_icmp .eq 14, 3) := by decide +kernel
theorem d_Model_sayBytes_53 : decode prog_12_method_25_code 53 = .ok (.aload_n 0, 1) := by decide +kernel
theorem d_Model_sayBytes_54 : decode prog_12_method_25_code 54 = .ok (.getfield 48, 3) := by decide +kernel
theorem d_Model_sayBytes_57 : decode prog_12_method_25_code 57 = .ok (.iload_n 1, 1) := by decide +kernel
theorem d_Model_sayBytes_58 : decode prog_12_method_25_code 58 = .ok (.caload, 1) := by decide +kernel
theorem d_Model_sayBytes_59 : decode prog_12_method_25_code 59 = .ok (.bipush 76, 2) := by decide +kernel
theorem d_Model_sayBytes_61 : decode prog_12_method_25_code 61 = .ok (.if_icmp .ne 14, 3) := by decide +kernel
theorem d_Model_sayBytes_64 : decode prog_12_method_25_code 64 = .ok (.aload_n 0, 1) := by decide +kernel
theorem d_Model_sayBytes_65 : decode prog_12_method_25_code 65 = .ok (.aload_n 0, 1) := by decide +kernel
theorem d_Model_sayBytes_66 : decode prog_12_method_25_code 66 = .ok (.getfield 204, 3) := by decide +kernel
theorem d_Model_sayBytes_69 : decode prog_12_method_25_code 69 = .ok (.invokevirtual 217, 3) := by decide +kernel
theorem d_Model_sayBytes_72 : decode prog_12_method_25_code 72 = .ok (.goto 92, 3) := by decide +kernel
theorem d_Model_sayBytes_75 : decode prog_12_method_25_code 75 = .ok (.aload_n 0, 1) := by decide +kernel
theorem d_Model_sayBytes_76 : decode prog_12_method_25_code 76 = .ok (.getfield 48, 3) := by decide +kernel
theorem d_Model_sayBytes_79 : decode prog_12_method_25_code 79 = .ok (.iload_n 1, 1) := by decide +kernel
theorem d_Model_sayBytes_80 : decode prog_12_method_25_code 80 = .ok (.caload, 1) := by decide +kernel
theorem d_Model_sayBytes_81 : decode prog_12_method_25_code 81 = .ok (.bipush 69, 2) := by decide +kernel
theorem d_Model_sayBytes_83 : decode prog_12_method_25_code 83 = .ok (.if_icmp .ne 26, 3) := by decide +kernel
theorem d_Model_sayBytes_86 : decode prog_12_method_25_code 86 = .ok (.aload_n 0, 1) := by decide +kernel
theorem d_Model_sayBytes_87 : decode prog_12_method_25_code 87 = .ok (.iconst 2, 1) := by decide +kernel
theorem d_Model_sayBytes_88 : decode prog_12_method_25_code 88 = .ok (.aload_n 0, 1) := by decide +kernel
theorem d_Model_sayBytes_89 : decode prog_12_method_25_code 89 = .ok (.aload_n 0, 1) := by decide +kernel
theorem d_Model_sayBytes_90 : decode prog_12_method_25_code 90 = .ok (.getfield 191, 3) := by decide +kernel
theorem d_Model_sayBytes_93 : decode prog_12_method_25_code 93 = .ok (.iload_n 1, 1) := by decide +kernel
theorem d_Model_sayBytes_94 : decode prog_12_method_25_code 94 = .ok (.aload_n 0, 1) := by decide +kernel
theorem d_Model_sayBytes_95 : decode prog_12_method_25_code 95 = .ok (.iload_n 2, 1) := by decide +kernel
theorem d_Model_sayBytes_96 : decode prog_12_method_25_code 96 = .ok (.invokevirtual 194, 3) := by decide +kernel
theorem d_Model_sayBytes_99 : decode prog_12_method_25_code 99 = .ok (.invokevirtual 144, 3) := by decide +kernel
theorem d_Model_sayBytes_102 : decode prog_12_method_25_code 102 = .ok (.imul, 1) := by decide +kernel
theorem d_Model_sayBytes_103 : decode prog_12_method_25_code 103 = .ok (.invokevirtual 208, 3) := by decide +kernel
theorem d_Model_sayBytes_106 : decode prog_12_method_25_code 106 = .ok (.goto 58, 3) := by decide +kernel
theorem d_Model_sayBytes_109 : decode prog_12_method_25_code 109 = .ok (.aload_n 0, 1) := by decide +kernel
theorem d_Model_sayBytes_110 : decode prog_12_method_25_code 110 = .ok (.getfield 48, 3) := by decide +kernel
theorem d_Model_sayBytes_113 : decode prog_12_method_25_code 113 = .ok (.iload_n 1, 1) := by decide +kernel
theorem d_Model_sayBytes_114 : decode prog_12_method_25_code 114 = .ok (.caload, 1) := by decide +kernel
theorem d_Model_sayBytes_115 : decode prog_12_method_25_code 115 = .ok (.bipush 83, 2) := by decide +kernel
theorem d_Model_sayBytes_117 : decode prog_12_method_25_code 117 = .ok (.if_icmp .ne 47, 3) := by decide +kernel
theorem d_Model_sayBytes_120 : decode prog_12_method_25_code 120 = .ok (.aload_n 0, 1) := by decide +kernel
theorem d_Model_sayBytes_121 : decode prog_12_method_25_code 121 = .ok (.ldc2_w 213, 3) := by decide +kernel
theorem d_Model_sayBytes_124 : decode prog_12_method_25_code 124 = .ok (.aload_n 0, 1) := by decide +kernel
theorem d_Model_sayBytes_125 : decode prog_12_method_25_code 125 = .ok (.getfield 204, 3) := by decide +kernel
theorem d_Model_sayBytes_128 : decode prog_12_method_25_code 128 = .ok (.lmul, 1) := by decide +kernel
theorem d_Model_sayBytes_129 : decode prog_12_method_25_code 129 = .ok (.l2i, 1) := by decide +kernel
theorem d_Model_sayBytes_130 : decode prog_12_method_25_code 130 = .ok (.invokevirtual 208, 3) := by decide +kernel
theorem d_Model_sayBytes_133 : decode prog_12_method_25_code 133 = .ok (.iconst 0, 1) := by decide +kernel
theorem d_Model_sayBytes_134 : decode prog_12_method_25_code 134 = .ok (.istore_n 3, 1) := by decide +kernel
theorem d_Model_sayBytes_135 : decode prog_12_method_25_code 135 = .ok (.iload_n 3, 1) := by decide +kernel
theorem d_Model_sayBytes_136 : decode prog_12_method_25_code 136 = .ok (.i2l, 1) := by decide +kernel
theorem d_Model_sayBytes_137 : decode prog_12_method_25_code 137 = .ok (.aload_n 0, 1) := by decide +kernel
theorem d_Model_sayBytes_138 : decode prog_12_method_25_code 138 = .ok (.getfield 204, 3) := by decide +kernel
theorem d_Model_sayBytes_141 : decode prog_12_method_25_code 141 = .ok (.lcmp, 1) := by decide +kernel
theorem d_Model_sayBytes_142 : decode prog_12_method_25_code 142 = .ok (.ifCond .ge 22, 3) := by decide +kernel
theorem d_Model_sayBytes_145 : decode prog_12_method_25_code 145 = .ok (.aload_n 0, 1) := by decide +kernel
theorem d_Model_sayBytes_146 : decode prog_12_method_25_code 146 = .ok (.aload_n 0, 1) := by decide +kernel
theorem d_Model_sayBytes_147 : decode prog_12_method_25_code 147 = .ok (.iload_n 2, 1) := by decide +kernel
theorem d_Model_sayBytes_148 : decode prog_12_method_25_code 148 = .ok (.iconst 1, 1) := by decide +kernel
theorem d_Model_sayBytes_149 : decode prog_12_method_25_code 149 = .ok (.iadd, 1) := by decide +kernel
theorem d_Model_sayBytes_150 : decode prog_12_method_25_code 150 = .ok (.iload_n 3, 1) := by decide +kernel
theorem d_Model_sayBytes_151 : decode prog_12_method_25_code 151 = .ok (.iadd, 1) := by decide +kernel
theorem d_Model_sayBytes_152 : decode prog_12_method_25_code 152 = .ok (.invokevirtual 194, 3) := by decide +kernel
theorem d_Model_sayBytes_155 : decode prog_12_method_25_code 155 = .ok (.invokevirtual 208, 3) := by decide +kernel
theorem d_Model_sayBytes_158 : decode prog_12_method_25_code 158 = .ok (.iinc 3 1, 3) := by decide +kernel
theorem d_Model_sayBytes_161 : decode prog_12_method_25_code 161 = .ok (.goto (-26), 3) := by decide +kernel
theorem d_Model_sayBytes_164 : decode prog_12_method_25_code 164 = .ok (.return_, 1) := by decide +kernel
def Model_sayBytes_jn64 (call : ax_Cf)  (x0 : Option Nat) (h : ax_Hp) : ax_O :=
  (ax_gl h x0 9 37).bind fun v6 =>
  ax_on h x0 9 <| ax_cv (call 167 [ax_A x0, ax_L v6] h) fun h7 =>
  ax_rv h7
set_option maxHeartbeats 4000000 in
set_option maxRecDepth 20000 in
theorem Model_sayBytes_jq64 {l : Launch} {G : ax_G} {d : Nat} {call : ax_Cf} (hcall : ax_Hc l G d call) {p : Program} {e : Env} {s : State} {mi : MethodId} {args : Array Value} {below : List Frame} {meth : Method} {c : Code} {h0 : ax_Hp} (B : ax_B G p s mi meth c "SchemaDeskModel" prog_12_method_25_code 4 none) (E : c.exceptionTable.isEmpty = true) (Nm : meth.name = y_Model_sayBytes.name)   (x0 : Option Nat) (h : ax_Hp) : ax_W G p l e s mi args below meth c 4 (d + 1) h0 64 [(0, ax_A x0)] [] h (Model_sayBytes_jn64 call  x0 h) := by
  unfold Model_sayBytes_jn64
  refine ax_aload_n B 0 d_Model_sayBytes_64 rfl rfl ?_
  refine ax_aload_n B 0 d_Model_sayBytes_65 rfl rfl ?_
  refine ax_getfl B cl_Model (by decide) fk_Model_204 d_Model_sayBytes_66 (fun v6 => ?_)
  refine ax_callVv (av := [ax_L v6]) (rest := []) B E hm_Model_sayAmount cl_Model rfl wd_1147 wp_53 lk_Model_217 d_Model_sayBytes_69 rfl (Nat.le_of_ble_eq_true rfl) (fun _ _ hh => hcall 167 _ _ _ _ hh) (fun h7 => ?_)
  refine ax_goto B 164 d_Model_sayBytes_72 (by decide) ?_
  exact ax_vreturn B d_Model_sayBytes_164
def Model_sayBytes_bd135 (call : ax_Cf)  (k135 : Option Nat → Int32 → Int32 → ax_Hp → ax_O) (x0 : Option Nat) (x2 : Int32) (x3 : Int32) (h : ax_Hp) : ax_O :=
  (ax_gl h x0 9 37).bind fun v18 =>
  if 0 ≤ (lg_cmp (x3.toInt64) v18) then
    ax_rv h
  else
    ax_on h x0 9 <| ax_ci (call 158 [ax_A x0, ax_I ((x2 + 1) + x3)] h) fun v20 h19 =>
    ax_on h19 x0 9 <| ax_cv (call 160 [ax_A x0, ax_I v20] h19) fun h21 =>
    k135 x0 x2 (x3 + 1) h21
def Model_sayBytes_lp135 (call : ax_Cf)  : Nat → Option Nat → Int32 → Int32 → ax_Hp → ax_O
  | 0 => fun _ _ _ _ => none
  | n + 1 => Model_sayBytes_bd135 call  (Model_sayBytes_lp135 call  n)
set_option maxHeartbeats 4000000 in
set_option maxRecDepth 20000 in
theorem Model_sayBytes_lb135 {l : Launch} {G : ax_G} {d : Nat} {call : ax_Cf} (hcall : ax_Hc l G d call) {p : Program} {e : Env} {s : State} {mi : MethodId} {args : Array Value} {below : List Frame} {meth : Method} {c : Code} {h0 : ax_Hp} (B : ax_B G p s mi meth c "SchemaDeskModel" prog_12_method_25_code 4 none) (E : c.exceptionTable.isEmpty = true) (Nm : meth.name = y_Model_sayBytes.name)   {k135 : Option Nat → Int32 → Int32 → ax_Hp → ax_O} (hk135 : ∀ (x0 : Option Nat) (x2 : Int32) (x3 : Int32) (h : ax_Hp), ax_W G p l e s mi args below meth c 4 (d + 1) h0 135 [(0, ax_A x0), (2, ax_I x2), (3, ax_I x3)] [] h (k135 x0 x2 x3 h)) (x0 : Option Nat) (x2 : Int32) (x3 : Int32) (h : ax_Hp) : ax_W G p l e s mi args below meth c 4 (d + 1) h0 135 [(0, ax_A x0), (2, ax_I x2), (3, ax_I x3)] [] h (Model_sayBytes_bd135 call  k135 x0 x2 x3 h) := by
  unfold Model_sayBytes_bd135
  refine ax_iload_n B 2 d_Model_sayBytes_135 rfl rfl ?_
  refine ax_i2l B d_Model_sayBytes_136 ?_
  refine ax_aload_n B 0 d_Model_sayBytes_137 rfl rfl ?_
  refine ax_getfl B cl_Model (by decide) fk_Model_204 d_Model_sayBytes_138 (fun v18 => ?_)
  refine ax_lcmp B d_Model_sayBytes_141 ?_
  refine ax_if_ge B 164 d_Model_sayBytes_142 (by decide) ?_ ?_
  · exact ax_vreturn B d_Model_sayBytes_164
  · refine ax_aload_n B 0 d_Model_sayBytes_145 rfl rfl ?_
    refine ax_aload_n B 0 d_Model_sayBytes_146 rfl rfl ?_
    refine ax_iload_n B 1 d_Model_sayBytes_147 rfl rfl ?_
    refine ax_iconst (v := 1) B d_Model_sayBytes_148 (by decide) ?_
    refine ax_iadd B d_Model_sayBytes_149 ?_
    refine ax_iload_n B 2 d_Model_sayBytes_150 rfl rfl ?_
    refine ax_iadd B d_Model_sayBytes_151 ?_
    refine ax_callVi (av := [ax_I ((x2 + 1) + x3)]) (rest := [ax_A x0]) B E hm_Model_see cl_Model rfl wd_1108 wp_44 lk_Model_194 d_Model_sayBytes_152 rfl (Nat.le_of_ble_eq_true rfl) (fun _ _ hh => hcall 158 _ _ _ _ hh) (fun v20 h19 => ?_)
    refine ax_callVv (av := [ax_I v20]) (rest := []) B E hm_Model_say cl_Model rfl wd_1116 wp_46 lk_Model_208 d_Model_sayBytes_155 rfl (Nat.le_of_ble_eq_true rfl) (fun _ _ hh => hcall 160 _ _ _ _ hh) (fun h21 => ?_)
    refine ax_iinc (v := x3 + 1) (tv2 := [(3, ax_I (x3 + 1)), (0, ax_A x0), (2, ax_I x2)]) B 2 d_Model_sayBytes_158 rfl (congrArg (_ + ·) (by decide)) (by decide) rfl ?_
    refine ax_goto B 135 d_Model_sayBytes_161 (by decide) ?_
    refine ax_sub (tv2 := [(0, ax_A x0), (2, ax_I x2), (3, ax_I (x3 + 1))]) [1, 2, 0] rfl ?_
    exact hk135 x0 x2 (x3 + 1) h21
theorem Model_sayBytes_lq135 {l : Launch} {G : ax_G} {d : Nat} {call : ax_Cf} (hcall : ax_Hc l G d call) {p : Program} {e : Env} {s : State} {mi : MethodId} {args : Array Value} {below : List Frame} {meth : Method} {c : Code} {h0 : ax_Hp} (B : ax_B G p s mi meth c "SchemaDeskModel" prog_12_method_25_code 4 none) (E : c.exceptionTable.isEmpty = true) (Nm : meth.name = y_Model_sayBytes.name)   : ∀ (n : Nat) (x0 : Option Nat) (x2 : Int32) (x3 : Int32) (h : ax_Hp), ax_W G p l e s mi args below meth c 4 (d + 1) h0 135 [(0, ax_A x0), (2, ax_I x2), (3, ax_I x3)] [] h (Model_sayBytes_lp135 call  n x0 x2 x3 h)
  | 0, _, _, _, _ => ax_none
  | n + 1, x0, x2, x3, h => Model_sayBytes_lb135 hcall B E Nm   (Model_sayBytes_lq135 hcall B E Nm   n) x0 x2 x3 h
def Model_sayBytes_jn36 (call : ax_Cf)  (s0 : Int32) (s1 : Option Nat) (h : ax_Hp) : ax_O :=
  ax_on h s1 9 <| ax_cv (call 160 [ax_A s1, ax_I s0] h) fun h32 =>
  ax_rv h32
set_option maxHeartbeats 4000000 in
set_option maxRecDepth 20000 in
theorem Model_sayBytes_jq36 {l : Launch} {G : ax_G} {d : Nat} {call : ax_Cf} (hcall : ax_Hc l G d call) {p : Program} {e : Env} {s : State} {mi : MethodId} {args : Array Value} {below : List Frame} {meth : Method} {c : Code} {h0 : ax_Hp} (B : ax_B G p s mi meth c "SchemaDeskModel" prog_12_method_25_code 4 none) (E : c.exceptionTable.isEmpty = true) (Nm : meth.name = y_Model_sayBytes.name)   (s0 : Int32) (s1 : Option Nat) (h : ax_Hp) : ax_W G p l e s mi args below meth c 4 (d + 1) h0 36 [] [ax_I s0, ax_A s1] h (Model_sayBytes_jn36 call  s0 s1 h) := by
  unfold Model_sayBytes_jn36
  refine ax_callVv (av := [ax_I s0]) (rest := []) B E hm_Model_say cl_Model rfl wd_1116 wp_46 lk_Model_208 d_Model_sayBytes_36 rfl (Nat.le_of_ble_eq_true rfl) (fun _ _ hh => hcall 160 _ _ _ _ hh) (fun h32 => ?_)
  refine ax_goto B 164 d_Model_sayBytes_39 (by decide) ?_
  exact ax_vreturn B d_Model_sayBytes_164
def Model_sayBytes_b (call : ax_Cf) (x0 : Option Nat) (x1 : Int32) (x2 : Int32) (h : ax_Hp) : ax_O :=
  (ax_gi h x0 9 39).bind fun v1 =>
  if v1 = 1 then
    (ax_gr h x0 9 17).bind fun v2 =>
    (ax_ldi h v2 3 x1).bind fun v3 =>
    if v3 = 66 then
      ax_on h x0 9 <| ax_ci (call 158 [ax_A x0, ax_I x2] h) fun v31 h30 =>
      if v31 = 84 then
        Model_sayBytes_jn36 call 1 x0 h30
      else
        Model_sayBytes_jn36 call 0 x0 h30
    else
      (ax_gr h x0 9 17).bind fun v4 =>
      (ax_ldi h v4 3 x1).bind fun v5 =>
      if v5 = 73 then
        Model_sayBytes_jn64 call x0 h
      else
        (ax_gr h x0 9 17).bind fun v9 =>
        (ax_ldi h v9 3 x1).bind fun v10 =>
        if v10 = 76 then
          Model_sayBytes_jn64 call x0 h
        else
          (ax_gr h x0 9 17).bind fun v11 =>
          (ax_ldi h v11 3 x1).bind fun v12 =>
          if v12 = 69 then
            (ax_gi h x0 9 30).bind fun v23 =>
            ax_on h x0 9 <| ax_ci (call 158 [ax_A x0, ax_I x2] h) fun v25 h24 =>
            ax_on h24 x0 9 <| ax_ci (call 163 [ax_A x0, ax_I v23, ax_I x1, ax_I v25] h24) fun v27 h26 =>
            ax_on h26 x0 9 <| ax_cv (call 160 [ax_A x0, ax_I (2 * v27)] h26) fun h28 =>
            ax_rv h28
          else
            (ax_gr h x0 9 17).bind fun v13 =>
            (ax_ldi h v13 3 x1).bind fun v14 =>
            if v14 = 83 then
              (ax_gl h x0 9 37).bind fun v15 =>
              ax_on h x0 9 <| ax_cv (call 160 [ax_A x0, ax_I ((2 * v15).toInt32)] h) fun h16 =>
              Model_sayBytes_lp135 call ax_fuel x0 x2 0 h16
            else
              ax_rv h
  else
    ax_rv h
set_option maxHeartbeats 4000000 in
set_option maxRecDepth 20000 in
theorem Model_sayBytes_t {l : Launch} {G : ax_G} {d : Nat} {call : ax_Cf} (hcall : ax_Hc l G d call) (x0 : Option Nat) (x1 : Int32) (x2 : Int32) (h : ax_Hp) {r : ax_Rs} {h' : ax_Hp} (ho : Model_sayBytes_b call x0 x1 x2 h = some (r, h')) : ax_C l G (d + 1) y_Model_sayBytes (.code y_Model_sayBytes prog_12_method_25_code 4 none) [ax_A x0, ax_I x1, ax_I x2] h r h' := by
  refine ax_enter (by decide) (Nat.le_of_ble_eq_true rfl) ho (fun p e s mi args below meth c B E Nm => ?_)
  have B : ax_B G p s mi meth c "SchemaDeskModel" prog_12_method_25_code 4 none := B
  show ax_W G p l e s mi args below meth c 4 (d + 1) h 0 [(0, ax_A x0), (1, ax_I x1), (2, ax_I x2)] [] h (Model_sayBytes_b call x0 x1 x2 h)
  unfold Model_sayBytes_b
  refine ax_aload_n B 0 d_Model_sayBytes_0 rfl rfl ?_
  refine ax_getfi B cl_Model (by decide) fk_Model_170 d_Model_sayBytes_1 (fun v1 => ?_)
  refine ax_iconst (v := 1) B d_Model_sayBytes_4 (by decide) ?_
  refine ax_icmp_eq B 9 d_Model_sayBytes_5 (by decide) ?_ ?_
  · refine ax_aload_n B 0 d_Model_sayBytes_9 rfl rfl ?_
    refine ax_getfr B cl_Model (by decide) fk_Model_48 d_Model_sayBytes_10 (fun v2 => ?_)
    refine ax_iload_n B 1 d_Model_sayBytes_13 rfl rfl ?_
    refine ax_cald (kd := 3) B (by decide) rfl d_Model_sayBytes_14 (fun v3 => ?_)
    refine ax_bipush (v := 66) B d_Model_sayBytes_15 (by decide) ?_
    refine ax_icmp_ne B 42 d_Model_sayBytes_17 (by decide) ?_ ?_
    · refine ax_aload_n B 0 d_Model_sayBytes_42 rfl rfl ?_
      refine ax_getfr B cl_Model (by decide) fk_Model_48 d_Model_sayBytes_43 (fun v4 => ?_)
      refine ax_iload_n B 1 d_Model_sayBytes_46 rfl rfl ?_
      refine ax_cald (kd := 3) B (by decide) rfl d_Model_sayBytes_47 (fun v5 => ?_)
      refine ax_bipush (v := 73) B d_Model_sayBytes_48 (by decide) ?_
      refine ax_icmp_eq B 64 d_Model_sayBytes_50 (by decide) ?_ ?_
      · refine ax_sub (tv2 := [(0, ax_A x0)]) [0] rfl ?_
        exact Model_sayBytes_jq64 hcall B E Nm x0 h
      · refine ax_aload_n B 0 d_Model_sayBytes_53 rfl rfl ?_
        refine ax_getfr B cl_Model (by decide) fk_Model_48 d_Model_sayBytes_54 (fun v9 => ?_)
        refine ax_iload_n B 1 d_Model_sayBytes_57 rfl rfl ?_
        refine ax_cald (kd := 3) B (by decide) rfl d_Model_sayBytes_58 (fun v10 => ?_)
        refine ax_bipush (v := 76) B d_Model_sayBytes_59 (by decide) ?_
        refine ax_icmp_ne B 75 d_Model_sayBytes_61 (by decide) ?_ ?_
        · refine ax_aload_n B 0 d_Model_sayBytes_75 rfl rfl ?_
          refine ax_getfr B cl_Model (by decide) fk_Model_48 d_Model_sayBytes_76 (fun v11 => ?_)
          refine ax_iload_n B 1 d_Model_sayBytes_79 rfl rfl ?_
          refine ax_cald (kd := 3) B (by decide) rfl d_Model_sayBytes_80 (fun v12 => ?_)
          refine ax_bipush (v := 69) B d_Model_sayBytes_81 (by decide) ?_
          refine ax_icmp_ne B 109 d_Model_sayBytes_83 (by decide) ?_ ?_
          · refine ax_aload_n B 0 d_Model_sayBytes_109 rfl rfl ?_
            refine ax_getfr B cl_Model (by decide) fk_Model_48 d_Model_sayBytes_110 (fun v13 => ?_)
            refine ax_iload_n B 1 d_Model_sayBytes_113 rfl rfl ?_
            refine ax_cald (kd := 3) B (by decide) rfl d_Model_sayBytes_114 (fun v14 => ?_)
            refine ax_bipush (v := 83) B d_Model_sayBytes_115 (by decide) ?_
            refine ax_icmp_ne B 164 d_Model_sayBytes_117 (by decide) ?_ ?_
            · exact ax_vreturn B d_Model_sayBytes_164
            · refine ax_aload_n B 0 d_Model_sayBytes_120 rfl rfl ?_
              refine ax_ldc2 (v := 2) B wd_1150 d_Model_sayBytes_121 ?_
              refine ax_aload_n B 0 d_Model_sayBytes_124 rfl rfl ?_
              refine ax_getfl B cl_Model (by decide) fk_Model_204 d_Model_sayBytes_125 (fun v15 => ?_)
              refine ax_lmul B d_Model_sayBytes_128 ?_
              refine ax_l2i B d_Model_sayBytes_129 ?_
              refine ax_callVv (av := [ax_I ((2 * v15).toInt32)]) (rest := []) B E hm_Model_say cl_Model rfl wd_1116 wp_46 lk_Model_208 d_Model_sayBytes_130 rfl (Nat.le_of_ble_eq_true rfl) (fun _ _ hh => hcall 160 _ _ _ _ hh) (fun h16 => ?_)
              refine ax_iconst (v := 0) B d_Model_sayBytes_133 (by decide) ?_
              refine ax_istore_n (tv2 := [(3, ax_I 0), (0, ax_A x0), (1, ax_I x1), (2, ax_I x2)]) B d_Model_sayBytes_134 rfl (by decide) rfl ?_
              refine ax_sub (tv2 := [(0, ax_A x0), (2, ax_I x2), (3, ax_I 0)]) [1, 3, 0] rfl ?_
              exact Model_sayBytes_lq135 hcall B E Nm ax_fuel x0 x2 0 h16
          · refine ax_aload_n B 0 d_Model_sayBytes_86 rfl rfl ?_
            refine ax_iconst (v := 2) B d_Model_sayBytes_87 (by decide) ?_
            refine ax_aload_n B 0 d_Model_sayBytes_88 rfl rfl ?_
            refine ax_aload_n B 0 d_Model_sayBytes_89 rfl rfl ?_
            refine ax_getfi B cl_Model (by decide) fk_Model_191 d_Model_sayBytes_90 (fun v23 => ?_)
            refine ax_iload_n B 1 d_Model_sayBytes_93 rfl rfl ?_
            refine ax_aload_n B 0 d_Model_sayBytes_94 rfl rfl ?_
            refine ax_iload_n B 2 d_Model_sayBytes_95 rfl rfl ?_
            refine ax_callVi (av := [ax_I x2]) (rest := [ax_I x1, ax_I v23, ax_A x0, ax_I 2, ax_A x0]) B E hm_Model_see cl_Model rfl wd_1108 wp_44 lk_Model_194 d_Model_sayBytes_96 rfl (Nat.le_of_ble_eq_true rfl) (fun _ _ hh => hcall 158 _ _ _ _ hh) (fun v25 h24 => ?_)
            refine ax_callVi (av := [ax_I v23, ax_I x1, ax_I v25]) (rest := [ax_I 2, ax_A x0]) B E hm_Model_symbol cl_Model rfl wd_1128 wp_49 lk_Model_144 d_Model_sayBytes_99 rfl (Nat.le_of_ble_eq_true rfl) (fun _ _ hh => hcall 163 _ _ _ _ hh) (fun v27 h26 => ?_)
            refine ax_imul B d_Model_sayBytes_102 ?_
            refine ax_callVv (av := [ax_I (2 * v27)]) (rest := []) B E hm_Model_say cl_Model rfl wd_1116 wp_46 lk_Model_208 d_Model_sayBytes_103 rfl (Nat.le_of_ble_eq_true rfl) (fun _ _ hh => hcall 160 _ _ _ _ hh) (fun h28 => ?_)
            refine ax_goto B 164 d_Model_sayBytes_106 (by decide) ?_
            exact ax_vreturn B d_Model_sayBytes_164
        · refine ax_sub (tv2 := [(0, ax_A x0)]) [0] rfl ?_
          exact Model_sayBytes_jq64 hcall B E Nm x0 h
    · refine ax_aload_n B 0 d_Model_sayBytes_20 rfl rfl ?_
      refine ax_aload_n B 0 d_Model_sayBytes_21 rfl rfl ?_
      refine ax_iload_n B 2 d_Model_sayBytes_22 rfl rfl ?_
      refine ax_callVi (av := [ax_I x2]) (rest := [ax_A x0]) B E hm_Model_see cl_Model rfl wd_1108 wp_44 lk_Model_194 d_Model_sayBytes_23 rfl (Nat.le_of_ble_eq_true rfl) (fun _ _ hh => hcall 158 _ _ _ _ hh) (fun v31 h30 => ?_)
      refine ax_bipush (v := 84) B d_Model_sayBytes_26 (by decide) ?_
      refine ax_icmp_ne B 35 d_Model_sayBytes_28 (by decide) ?_ ?_
      · refine ax_iconst (v := 0) B d_Model_sayBytes_35 (by decide) ?_
        refine ax_sub (tv2 := []) [] rfl ?_
        exact Model_sayBytes_jq36 hcall B E Nm 0 x0 h30
      · refine ax_iconst (v := 1) B d_Model_sayBytes_31 (by decide) ?_
        refine ax_goto B 36 d_Model_sayBytes_32 (by decide) ?_
        refine ax_sub (tv2 := []) [] rfl ?_
        exact Model_sayBytes_jq36 hcall B E Nm 1 x0 h30
  · exact ax_vreturn B d_Model_sayBytes_8

theorem d_Model_sayAmount_0 : decode prog_12_method_24_code 0 = .ok (.lload_n 1, 1) := by decide +kernel
theorem d_Model_sayAmount_1 : decode prog_12_method_24_code 1 = .ok (.lconst 0, 1) := by decide +kernel
theorem d_Model_sayAmount_2 : decode prog_12_method_24_code 2 = .ok (.lcmp, 1) := by decide +kernel
theorem d_Model_sayAmount_3 : decode prog_12_method_24_code 3 = .ok (.ifCond .ge 13, 3) := by decide +kernel
theorem d_Model_sayAmount_6 : decode prog_12_method_24_code 6 = .ok (.ldc2_w 211, 3) := by decide +kernel
theorem d_Model_sayAmount_9 : decode prog_12_method_24_code 9 = .ok (.lload_n 1, 1) := by decide +kernel
theorem d_Model_sayAmount_10 : decode prog_12_method_24_code 10 = .ok (.lmul, 1) := by decide +kernel
theorem d_Model_sayAmount_11 : decode prog_12_method_24_code 11 = .ok (.lconst 1, 1) := by decide +kernel
theorem d_Model_sayAmount_12 : decode prog_12_method_24_code 12 = .ok (.lsub, 1) := by decide +kernel
theorem d_Model_sayAmount_13 : decode prog_12_method_24_code 13 = .ok (.goto 8, 3) := by decide +kernel
theorem d_Model_sayAmount_16 : decode prog_12_method_24_code 16 = .ok (.ldc2_w 213, 3) := by decide +kernel
theorem d_Model_sayAmount_19 : decode prog_12_method_24_code 19 = .ok (.lload_n 1, 1) := by decide +kernel
theorem d_Model_sayAmount_20 : decode prog_12_method_24_code 20 = .ok (.lmul, 1) := by decide +kernel
theorem d_Model_sayAmount_21 : decode prog_12_method_24_code 21 = .ok (.lstore_n 3, 1) := by decide +kernel
theorem d_Model_sayAmount_22 : decode prog_12_method_24_code 22 = .ok (.lload_n 3, 1) := by decide +kernel
theorem d_Model_sayAmount_23 : decode prog_12_method_24_code 23 = .ok (.bipush 7, 2) := by decide +kernel
theorem d_Model_sayAmount_25 : decode prog_12_method_24_code 25 = .ok (.lushr, 1) := by decide +kernel
theorem d_Model_sayAmount_26 : decode prog_12_method_24_code 26 = .ok (.lconst 0, 1) := by decide +kernel
theorem d_Model_sayAmount_27 : decode prog_12_method_24_code 27 = .ok (.lcmp, 1) := by decide +kernel
theorem d_Model_sayAmount_28 : decode prog_12_method_24_code 28 = .ok (.ifCond .eq 25, 3) := by decide +kernel
theorem d_Model_sayAmount_31 : decode prog_12_method_24_code 31 = .ok (.aload_n 0, 1) := by decide +kernel
theorem d_Model_sayAmount_32 : decode prog_12_method_24_code 32 = .ok (.lload_n 3, 1) := by decide +kernel
theorem d_Model_sayAmount_33 : decode prog_12_method_24_code 33 = .ok (.ldc2_w 215, 3) := by decide +kernel
theorem d_Model_sayAmount_36 : decode prog_12_method_24_code 36 = .ok (.land, 1) := by decide +kernel
theorem d_Model_sayAmount_37 : decode prog_12_method_24_code 37 = .ok (.l2i, 1) := by decide +kernel
theorem d_Model_sayAmount_38 : decode prog_12_method_24_code 38 = .ok (.sipush 128, 3) := by decide +kernel
theorem d_Model_sayAmount_41 : decode prog_12_method_24_code 41 = .ok (.iadd, 1) := by decide +kernel
theorem d_Model_sayAmount_42 : decode prog_12_method_24_code 42 = .ok (.invokevirtual 208, 3) := by decide +kernel
theorem d_Model_sayAmount_45 : decode prog_12_method_24_code 45 = .ok (.lload_n 3, 1) := by decide +kernel
theorem d_Model_sayAmount_46 : decode prog_12_method_24_code 46 = .ok (.bipush 7, 2) := by decide +kernel
theorem d_Model_sayAmount_48 : decode prog_12_method_24_code 48 = .ok (.lushr, 1) := by decide +kernel
theorem d_Model_sayAmount_49 : decode prog_12_method_24_code 49 = .ok (.lstore_n 3, 1) := by decide +kernel
theorem d_Model_sayAmount_50 : decode prog_12_method_24_code 50 = .ok (.goto (-28), 3) := by decide +kernel
theorem d_Model_sayAmount_53 : decode prog_12_method_24_code 53 = .ok (.aload_n 0, 1) := by decide +kernel
theorem d_Model_sayAmount_54 : decode prog_12_method_24_code 54 = .ok (.lload_n 3, 1) := by decide +kernel
theorem d_Model_sayAmount_55 : decode prog_12_method_24_code 55 = .ok (.l2i, 1) := by decide +kernel
theorem d_Model_sayAmount_56 : decode prog_12_method_24_code 56 = .ok (.invokevirtual 208, 3) := by decide +kernel
theorem d_Model_sayAmount_59 : decode prog_12_method_24_code 59 = .ok (.return_, 1) := by decide +kernel
def Model_sayAmount_bd22 (call : ax_Cf)  (k22 : Option Nat → Int64 → ax_Hp → ax_O) (x0 : Option Nat) (x3 : Int64) (h : ax_Hp) : ax_O :=
  if (lg_cmp ((x3.toUInt64 >>> ((7 : Int32).toInt64.toUInt64 &&& Int64.toUInt64 63)).toInt64) 0) = 0 then
    ax_on h x0 9 <| ax_cv (call 160 [ax_A x0, ax_I (x3.toInt32)] h) fun h1 =>
    ax_rv h1
  else
    ax_on h x0 9 <| ax_cv (call 160 [ax_A x0, ax_I (((x3 &&& 127).toInt32) + 128)] h) fun h3 =>
    k22 x0 ((x3.toUInt64 >>> ((7 : Int32).toInt64.toUInt64 &&& Int64.toUInt64 63)).toInt64) h3
def Model_sayAmount_lp22 (call : ax_Cf)  : Nat → Option Nat → Int64 → ax_Hp → ax_O
  | 0 => fun _ _ _ => none
  | n + 1 => Model_sayAmount_bd22 call  (Model_sayAmount_lp22 call  n)
set_option maxHeartbeats 4000000 in
set_option maxRecDepth 20000 in
theorem Model_sayAmount_lb22 {l : Launch} {G : ax_G} {d : Nat} {call : ax_Cf} (hcall : ax_Hc l G d call) {p : Program} {e : Env} {s : State} {mi : MethodId} {args : Array Value} {below : List Frame} {meth : Method} {c : Code} {h0 : ax_Hp} (B : ax_B G p s mi meth c "SchemaDeskModel" prog_12_method_24_code 5 none) (E : c.exceptionTable.isEmpty = true) (Nm : meth.name = y_Model_sayAmount.name)   {k22 : Option Nat → Int64 → ax_Hp → ax_O} (hk22 : ∀ (x0 : Option Nat) (x3 : Int64) (h : ax_Hp), ax_W G p l e s mi args below meth c 5 (d + 1) h0 22 [(0, ax_A x0), (3, ax_L x3)] [] h (k22 x0 x3 h)) (x0 : Option Nat) (x3 : Int64) (h : ax_Hp) : ax_W G p l e s mi args below meth c 5 (d + 1) h0 22 [(0, ax_A x0), (3, ax_L x3)] [] h (Model_sayAmount_bd22 call  k22 x0 x3 h) := by
  unfold Model_sayAmount_bd22
  refine ax_lload_n B 1 d_Model_sayAmount_22 rfl rfl ?_
  refine ax_bipush (v := 7) B d_Model_sayAmount_23 (by decide) ?_
  refine ax_lushr B d_Model_sayAmount_25 ?_
  refine ax_lconst (v := 0) B d_Model_sayAmount_26 (by decide) ?_
  refine ax_lcmp B d_Model_sayAmount_27 ?_
  refine ax_if_eq B 53 d_Model_sayAmount_28 (by decide) ?_ ?_
  · refine ax_aload_n B 0 d_Model_sayAmount_53 rfl rfl ?_
    refine ax_lload_n B 1 d_Model_sayAmount_54 rfl rfl ?_
    refine ax_l2i B d_Model_sayAmount_55 ?_
    refine ax_callVv (av := [ax_I (x3.toInt32)]) (rest := []) B E hm_Model_say cl_Model rfl wd_1116 wp_46 lk_Model_208 d_Model_sayAmount_56 rfl (Nat.le_of_ble_eq_true rfl) (fun _ _ hh => hcall 160 _ _ _ _ hh) (fun h1 => ?_)
    exact ax_vreturn B d_Model_sayAmount_59
  · refine ax_aload_n B 0 d_Model_sayAmount_31 rfl rfl ?_
    refine ax_lload_n B 1 d_Model_sayAmount_32 rfl rfl ?_
    refine ax_ldc2 (v := 127) B wd_1151 d_Model_sayAmount_33 ?_
    refine ax_land B d_Model_sayAmount_36 ?_
    refine ax_l2i B d_Model_sayAmount_37 ?_
    refine ax_sipush (v := 128) B d_Model_sayAmount_38 (by decide) ?_
    refine ax_iadd B d_Model_sayAmount_41 ?_
    refine ax_callVv (av := [ax_I (((x3 &&& 127).toInt32) + 128)]) (rest := []) B E hm_Model_say cl_Model rfl wd_1116 wp_46 lk_Model_208 d_Model_sayAmount_42 rfl (Nat.le_of_ble_eq_true rfl) (fun _ _ hh => hcall 160 _ _ _ _ hh) (fun h3 => ?_)
    refine ax_lload_n B 1 d_Model_sayAmount_45 rfl rfl ?_
    refine ax_bipush (v := 7) B d_Model_sayAmount_46 (by decide) ?_
    refine ax_lushr B d_Model_sayAmount_48 ?_
    refine ax_lstore_n (tv2 := [(3, ax_L ((x3.toUInt64 >>> ((7 : Int32).toInt64.toUInt64 &&& Int64.toUInt64 63)).toInt64)), (0, ax_A x0)]) B d_Model_sayAmount_49 rfl (by decide) rfl ?_
    refine ax_goto B 22 d_Model_sayAmount_50 (by decide) ?_
    refine ax_sub (tv2 := [(0, ax_A x0), (3, ax_L ((x3.toUInt64 >>> ((7 : Int32).toInt64.toUInt64 &&& Int64.toUInt64 63)).toInt64))]) [1, 0] rfl ?_
    exact hk22 x0 ((x3.toUInt64 >>> ((7 : Int32).toInt64.toUInt64 &&& Int64.toUInt64 63)).toInt64) h3
theorem Model_sayAmount_lq22 {l : Launch} {G : ax_G} {d : Nat} {call : ax_Cf} (hcall : ax_Hc l G d call) {p : Program} {e : Env} {s : State} {mi : MethodId} {args : Array Value} {below : List Frame} {meth : Method} {c : Code} {h0 : ax_Hp} (B : ax_B G p s mi meth c "SchemaDeskModel" prog_12_method_24_code 5 none) (E : c.exceptionTable.isEmpty = true) (Nm : meth.name = y_Model_sayAmount.name)   : ∀ (n : Nat) (x0 : Option Nat) (x3 : Int64) (h : ax_Hp), ax_W G p l e s mi args below meth c 5 (d + 1) h0 22 [(0, ax_A x0), (3, ax_L x3)] [] h (Model_sayAmount_lp22 call  n x0 x3 h)
  | 0, _, _, _ => ax_none
  | n + 1, x0, x3, h => Model_sayAmount_lb22 hcall B E Nm   (Model_sayAmount_lq22 hcall B E Nm   n) x0 x3 h
def Model_sayAmount_jn21 (call : ax_Cf)  (x0 : Option Nat) (s0 : Int64) (h : ax_Hp) : ax_O :=
  Model_sayAmount_lp22 call ax_fuel x0 s0 h
set_option maxHeartbeats 4000000 in
set_option maxRecDepth 20000 in
theorem Model_sayAmount_jq21 {l : Launch} {G : ax_G} {d : Nat} {call : ax_Cf} (hcall : ax_Hc l G d call) {p : Program} {e : Env} {s : State} {mi : MethodId} {args : Array Value} {below : List Frame} {meth : Method} {c : Code} {h0 : ax_Hp} (B : ax_B G p s mi meth c "SchemaDeskModel" prog_12_method_24_code 5 none) (E : c.exceptionTable.isEmpty = true) (Nm : meth.name = y_Model_sayAmount.name)   (x0 : Option Nat) (s0 : Int64) (h : ax_Hp) : ax_W G p l e s mi args below meth c 5 (d + 1) h0 21 [(0, ax_A x0)] [ax_L s0] h (Model_sayAmount_jn21 call  x0 s0 h) := by
  unfold Model_sayAmount_jn21
  refine ax_lstore_n (tv2 := [(3, ax_L s0), (0, ax_A x0)]) B d_Model_sayAmount_21 rfl (by decide) rfl ?_
  refine ax_sub (tv2 := [(0, ax_A x0), (3, ax_L s0)]) [1, 0] rfl ?_
  exact Model_sayAmount_lq22 hcall B E Nm ax_fuel x0 s0 h
def Model_sayAmount_b (call : ax_Cf) (x0 : Option Nat) (x1 : Int64) (h : ax_Hp) : ax_O :=
  if 0 ≤ (lg_cmp x1 0) then
    Model_sayAmount_jn21 call x0 (2 * x1) h
  else
    Model_sayAmount_jn21 call x0 (((-2) * x1) - 1) h
set_option maxHeartbeats 4000000 in
set_option maxRecDepth 20000 in
theorem Model_sayAmount_t {l : Launch} {G : ax_G} {d : Nat} {call : ax_Cf} (hcall : ax_Hc l G d call) (x0 : Option Nat) (x1 : Int64) (h : ax_Hp) {r : ax_Rs} {h' : ax_Hp} (ho : Model_sayAmount_b call x0 x1 h = some (r, h')) : ax_C l G (d + 1) y_Model_sayAmount (.code y_Model_sayAmount prog_12_method_24_code 5 none) [ax_A x0, ax_L x1] h r h' := by
  refine ax_enter (by decide) (Nat.le_of_ble_eq_true rfl) ho (fun p e s mi args below meth c B E Nm => ?_)
  have B : ax_B G p s mi meth c "SchemaDeskModel" prog_12_method_24_code 5 none := B
  show ax_W G p l e s mi args below meth c 5 (d + 1) h 0 [(0, ax_A x0), (1, ax_L x1)] [] h (Model_sayAmount_b call x0 x1 h)
  unfold Model_sayAmount_b
  refine ax_lload_n B 1 d_Model_sayAmount_0 rfl rfl ?_
  refine ax_lconst (v := 0) B d_Model_sayAmount_1 (by decide) ?_
  refine ax_lcmp B d_Model_sayAmount_2 ?_
  refine ax_if_ge B 16 d_Model_sayAmount_3 (by decide) ?_ ?_
  · refine ax_ldc2 (v := 2) B wd_1150 d_Model_sayAmount_16 ?_
    refine ax_lload_n B 1 d_Model_sayAmount_19 rfl rfl ?_
    refine ax_lmul B d_Model_sayAmount_20 ?_
    refine ax_sub (tv2 := [(0, ax_A x0)]) [0] rfl ?_
    exact Model_sayAmount_jq21 hcall B E Nm x0 (2 * x1) h
  · refine ax_ldc2 (v := (-2)) B wd_1149 d_Model_sayAmount_6 ?_
    refine ax_lload_n B 1 d_Model_sayAmount_9 rfl rfl ?_
    refine ax_lmul B d_Model_sayAmount_10 ?_
    refine ax_lconst (v := 1) B d_Model_sayAmount_11 (by decide) ?_
    refine ax_lsub B d_Model_sayAmount_12 ?_
    refine ax_goto B 21 d_Model_sayAmount_13 (by decide) ?_
    refine ax_sub (tv2 := [(0, ax_A x0)]) [0] rfl ?_
    exact Model_sayAmount_jq21 hcall B E Nm x0 (((-2) * x1) - 1) h

theorem d_Model_openList_0 : decode prog_12_method_29_code 0 = .ok (.aload_n 0, 1) := by decide +kernel
theorem d_Model_openList_1 : decode prog_12_method_29_code 1 = .ok (.getfield 247, 3) := by decide +kernel
theorem d_Model_openList_4 : decode prog_12_method_29_code 4 = .ok (.istore_n 2, 1) := by decide +kernel
theorem d_Model_openList_5 : decode prog_12_method_29_code 5 = .ok (.aload_n 0, 1) := by decide +kernel
theorem d_Model_openList_6 : decode prog_12_method_29_code 6 = .ok (.dup, 1) := by decide +kernel
theorem d_Model_openList_7 : decode prog_12_method_29_code 7 = .ok (.getfield 247, 3) := by decide +kernel
theorem d_Model_openList_10 : decode prog_12_method_29_code 10 = .ok (.iconst 1, 1) := by decide +kernel
theorem d_Model_openList_11 : decode prog_12_method_29_code 11 = .ok (.iadd, 1) := by decide +kernel
theorem d_Model_openList_12 : decode prog_12_method_29_code 12 = .ok (.putfield 247, 3) := by decide +kernel
theorem d_Model_openList_15 : decode prog_12_method_29_code 15 = .ok (.aload_n 0, 1) := by decide +kernel
theorem d_Model_openList_16 : decode prog_12_method_29_code 16 = .ok (.getfield 88, 3) := by decide +kernel
theorem d_Model_openList_19 : decode prog_12_method_29_code 19 = .ok (.aload_n 0, 1) := by decide +kernel
theorem d_Model_openList_20 : decode prog_12_method_29_code 20 = .ok (.getfield 241, 3) := by decide +kernel
theorem d_Model_openList_23 : decode prog_12_method_29_code 23 = .ok (.iconst 1, 1) := by decide +kernel
theorem d_Model_openList_24 : decode prog_12_method_29_code 24 = .ok (.isub, 1) := by decide +kernel
theorem d_Model_openList_25 : decode prog_12_method_29_code 25 = .ok (.iconst 0, 1) := by decide +kernel
theorem d_Model_openList_26 : decode prog_12_method_29_code 26 = .ok (.iastore, 1) := by decide +kernel
theorem d_Model_openList_27 : decode prog_12_method_29_code 27 = .ok (.aload_n 0, 1) := by decide +kernel
theorem d_Model_openList_28 : decode prog_12_method_29_code 28 = .ok (.getfield 91, 3) := by decide +kernel
theorem d_Model_openList_31 : decode prog_12_method_29_code 31 = .ok (.aload_n 0, 1) := by decide +kernel
theorem d_Model_openList_32 : decode prog_12_method_29_code 32 = .ok (.getfield 241, 3) := by decide +kernel
theorem d_Model_openList_35 : decode prog_12_method_29_code 35 = .ok (.iconst 1, 1) := by decide +kernel
theorem d_Model_openList_36 : decode prog_12_method_29_code 36 = .ok (.isub, 1) := by decide +kernel
theorem d_Model_openList_37 : decode prog_12_method_29_code 37 = .ok (.iload_n 2, 1) := by decide +kernel
theorem d_Model_openList_38 : decode prog_12_method_29_code 38 = .ok (.iastore, 1) := by decide +kernel
theorem d_Model_openList_39 : decode prog_12_method_29_code 39 = .ok (.aload_n 0, 1) := by decide +kernel
theorem d_Model_openList_40 : decode prog_12_method_29_code 40 = .ok (.getfield 170, 3) := by decide +kernel
theorem d_Model_openList_43 : decode prog_12_method_29_code 43 = .ok (.iconst 1, 1) := by decide +kernel
theorem d_Model_openList_44 : decode prog_12_method_29_code 44 = .ok (.if_icmp .ne 24, 3) := by decide +kernel
theorem d_Model_openList_47 : decode prog_12_method_29_code 47 = .ok (.aload_n 0, 1) := by decide +kernel
theorem d_Model_openList_48 : decode prog_12_method_29_code 48 = .ok (.getfield 97, 3) := by decide +kernel
theorem d_Model_openList_51 : decode prog_12_method_29_code 51 = .ok (.iload_n 2, 1) := by decide +kernel
theorem d_Model_openList_52 : decode prog_12_method_29_code 52 = .ok (.iaload, 1) := by decide +kernel
theorem d_Model_openList_53 : decode prog_12_method_29_code 53 = .ok (.ifCond .le 15, 3) := by decide +kernel
theorem d_Model_openList_56 : decode prog_12_method_29_code 56 = .ok (.aload_n 0, 1) := by decide +kernel
theorem d_Model_openList_57 : decode prog_12_method_29_code 57 = .ok (.iconst 2, 1) := by decide +kernel
theorem d_Model_openList_58 : decode prog_12_method_29_code 58 = .ok (.aload_n 0, 1) := by decide +kernel
theorem d_Model_openList_59 : decode prog_12_method_29_code 59 = .ok (.getfield 97, 3) := by decide +kernel
theorem d_Model_openList_62 : decode prog_12_method_29_code 62 = .ok (.iload_n 2, 1) := by decide +kernel
theorem d_Model_openList_63 : decode prog_12_method_29_code 63 = .ok (.iaload, 1) := by decide +kernel
theorem d_Model_openList_64 : decode prog_12_method_29_code 64 = .ok (.imul, 1) := by decide +kernel
theorem d_Model_openList_65 : decode prog_12_method_29_code 65 = .ok (.invokevirtual 208, 3) := by decide +kernel
theorem d_Model_openList_68 : decode prog_12_method_29_code 68 = .ok (.aload_n 0, 1) := by decide +kernel
theorem d_Model_openList_69 : decode prog_12_method_29_code 69 = .ok (.iload_n 1, 1) := by decide +kernel
theorem d_Model_openList_70 : decode prog_12_method_29_code 70 = .ok (.invokevirtual 194, 3) := by decide +kernel
theorem d_Model_openList_73 : decode prog_12_method_29_code 73 = .ok (.bipush 93, 2) := by decide +kernel
theorem d_Model_openList_75 : decode prog_12_method_29_code 75 = .ok (.if_icmp .eq 5, 3) := by decide +kernel
theorem d_Model_openList_78 : decode prog_12_method_29_code 78 = .ok (.iload_n 1, 1) := by decide +kernel
theorem d_Model_openList_79 : decode prog_12_method_29_code 79 = .ok (.ireturn, 1) := by decide +kernel
theorem d_Model_openList_80 : decode prog_12_method_29_code 80 = .ok (.aload_n 0, 1) := by decide +kernel
theorem d_Model_openList_81 : decode prog_12_method_29_code 81 = .ok (.iload_n 1, 1) := by decide +kernel
theorem d_Model_openList_82 : decode prog_12_method_29_code 82 = .ok (.invokevirtual 250, 3) := by decide +kernel
theorem d_Model_openList_85 : decode prog_12_method_29_code 85 = .ok (.ireturn, 1) := by decide +kernel
def Model_openList_jn68 (call : ax_Cf)  (x0 : Option Nat) (x1 : Int32) (h : ax_Hp) : ax_O :=
  ax_on h x0 9 <| ax_ci (call 158 [ax_A x0, ax_I x1] h) fun v12 h11 =>
  if v12 = 93 then
    ax_on h11 x0 9 <| ax_ci (call 169 [ax_A x0, ax_I x1] h11) fun v14 h13 =>
    ax_ri v14 h13
  else
    ax_ri x1 h11
set_option maxHeartbeats 4000000 in
set_option maxRecDepth 20000 in
theorem Model_openList_jq68 {l : Launch} {G : ax_G} {d : Nat} {call : ax_Cf} (hcall : ax_Hc l G d call) {p : Program} {e : Env} {s : State} {mi : MethodId} {args : Array Value} {below : List Frame} {meth : Method} {c : Code} {h0 : ax_Hp} (B : ax_B G p s mi meth c "SchemaDeskModel" prog_12_method_29_code 3 (some (.int))) (E : c.exceptionTable.isEmpty = true) (Nm : meth.name = y_Model_openList.name)   (x0 : Option Nat) (x1 : Int32) (h : ax_Hp) : ax_W G p l e s mi args below meth c 3 (d + 1) h0 68 [(0, ax_A x0), (1, ax_I x1)] [] h (Model_openList_jn68 call  x0 x1 h) := by
  unfold Model_openList_jn68
  refine ax_aload_n B 0 d_Model_openList_68 rfl rfl ?_
  refine ax_iload_n B 1 d_Model_openList_69 rfl rfl ?_
  refine ax_callVi (av := [ax_I x1]) (rest := []) B E hm_Model_see cl_Model rfl wd_1108 wp_44 lk_Model_194 d_Model_openList_70 rfl (Nat.le_of_ble_eq_true rfl) (fun _ _ hh => hcall 158 _ _ _ _ hh) (fun v12 h11 => ?_)
  refine ax_bipush (v := 93) B d_Model_openList_73 (by decide) ?_
  refine ax_icmp_eq B 80 d_Model_openList_75 (by decide) ?_ ?_
  · refine ax_aload_n B 0 d_Model_openList_80 rfl rfl ?_
    refine ax_iload_n B 1 d_Model_openList_81 rfl rfl ?_
    refine ax_callVi (av := [ax_I x1]) (rest := []) B E hm_Model_closeList cl_Model rfl wd_1158 wp_55 lk_Model_250 d_Model_openList_82 rfl (Nat.le_of_ble_eq_true rfl) (fun _ _ hh => hcall 169 _ _ _ _ hh) (fun v14 h13 => ?_)
    exact ax_ireturn B d_Model_openList_85
  · refine ax_iload_n B 1 d_Model_openList_78 rfl rfl ?_
    exact ax_ireturn B d_Model_openList_79
def Model_openList_b (call : ax_Cf) (x0 : Option Nat) (x1 : Int32) (h : ax_Hp) : ax_O :=
  (ax_gi h x0 9 40).bind fun v1 =>
  (ax_gi h x0 9 40).bind fun v2 =>
  (ax_pf h x0 9 40 (ax_I (v2 + 1))).bind fun h3 =>
  (ax_gr h3 x0 9 34).bind fun v4 =>
  (ax_gi h3 x0 9 31).bind fun v5 =>
  (ax_st h3 v4 1 (v5 - 1) (ax_I 0)).bind fun h6 =>
  (ax_gr h6 x0 9 35).bind fun v7 =>
  (ax_gi h6 x0 9 31).bind fun v8 =>
  (ax_st h6 v7 1 (v8 - 1) (ax_I v1)).bind fun h9 =>
  (ax_gi h9 x0 9 39).bind fun v10 =>
  if v10 = 1 then
    (ax_gr h9 x0 9 41).bind fun v15 =>
    (ax_ldi h9 v15 1 v1).bind fun v16 =>
    if v16 ≤ 0 then
      Model_openList_jn68 call x0 x1 h9
    else
      (ax_gr h9 x0 9 41).bind fun v17 =>
      (ax_ldi h9 v17 1 v1).bind fun v18 =>
      ax_on h9 x0 9 <| ax_cv (call 160 [ax_A x0, ax_I (2 * v18)] h9) fun h19 =>
      Model_openList_jn68 call x0 x1 h19
  else
    Model_openList_jn68 call x0 x1 h9
set_option maxHeartbeats 4000000 in
set_option maxRecDepth 20000 in
theorem Model_openList_t {l : Launch} {G : ax_G} {d : Nat} {call : ax_Cf} (hcall : ax_Hc l G d call) (x0 : Option Nat) (x1 : Int32) (h : ax_Hp) {r : ax_Rs} {h' : ax_Hp} (ho : Model_openList_b call x0 x1 h = some (r, h')) : ax_C l G (d + 1) y_Model_openList (.code y_Model_openList prog_12_method_29_code 3 (some (.int))) [ax_A x0, ax_I x1] h r h' := by
  refine ax_enter (by decide) (Nat.le_of_ble_eq_true rfl) ho (fun p e s mi args below meth c B E Nm => ?_)
  have B : ax_B G p s mi meth c "SchemaDeskModel" prog_12_method_29_code 3 (some (.int)) := B
  show ax_W G p l e s mi args below meth c 3 (d + 1) h 0 [(0, ax_A x0), (1, ax_I x1)] [] h (Model_openList_b call x0 x1 h)
  unfold Model_openList_b
  refine ax_aload_n B 0 d_Model_openList_0 rfl rfl ?_
  refine ax_getfi B cl_Model (by decide) fk_Model_247 d_Model_openList_1 (fun v1 => ?_)
  refine ax_istore_n (tv2 := [(2, ax_I v1), (0, ax_A x0), (1, ax_I x1)]) B d_Model_openList_4 rfl (by decide) rfl ?_
  refine ax_aload_n B 1 d_Model_openList_5 rfl rfl ?_
  refine ax_dup B d_Model_openList_6 rfl ?_
  refine ax_getfi B cl_Model (by decide) fk_Model_247 d_Model_openList_7 (fun v2 => ?_)
  refine ax_iconst (v := 1) B d_Model_openList_10 (by decide) ?_
  refine ax_iadd B d_Model_openList_11 ?_
  refine ax_putf (v := ax_I (v2 + 1)) B cl_Model (by decide) fk_Model_247 (Or.inl rfl) (fun _ => rfl) (fun _ => rfl) d_Model_openList_12 (fun h3 => ?_)
  refine ax_aload_n B 1 d_Model_openList_15 rfl rfl ?_
  refine ax_getfr B cl_Model (by decide) fk_Model_88 d_Model_openList_16 (fun v4 => ?_)
  refine ax_aload_n B 1 d_Model_openList_19 rfl rfl ?_
  refine ax_getfi B cl_Model (by decide) fk_Model_241 d_Model_openList_20 (fun v5 => ?_)
  refine ax_iconst (v := 1) B d_Model_openList_23 (by decide) ?_
  refine ax_isub B d_Model_openList_24 ?_
  refine ax_iconst (v := 0) B d_Model_openList_25 (by decide) ?_
  refine ax_iast (kd := 1) B (by decide) (by decide) rfl d_Model_openList_26 (fun h6 => ?_)
  refine ax_aload_n B 1 d_Model_openList_27 rfl rfl ?_
  refine ax_getfr B cl_Model (by decide) fk_Model_91 d_Model_openList_28 (fun v7 => ?_)
  refine ax_aload_n B 1 d_Model_openList_31 rfl rfl ?_
  refine ax_getfi B cl_Model (by decide) fk_Model_241 d_Model_openList_32 (fun v8 => ?_)
  refine ax_iconst (v := 1) B d_Model_openList_35 (by decide) ?_
  refine ax_isub B d_Model_openList_36 ?_
  refine ax_iload_n B 0 d_Model_openList_37 rfl rfl ?_
  refine ax_iast (kd := 1) B (by decide) (by decide) rfl d_Model_openList_38 (fun h9 => ?_)
  refine ax_aload_n B 1 d_Model_openList_39 rfl rfl ?_
  refine ax_getfi B cl_Model (by decide) fk_Model_170 d_Model_openList_40 (fun v10 => ?_)
  refine ax_iconst (v := 1) B d_Model_openList_43 (by decide) ?_
  refine ax_icmp_ne B 68 d_Model_openList_44 (by decide) ?_ ?_
  · refine ax_sub (tv2 := [(0, ax_A x0), (1, ax_I x1)]) [1, 2] rfl ?_
    exact Model_openList_jq68 hcall B E Nm x0 x1 h9
  · refine ax_aload_n B 1 d_Model_openList_47 rfl rfl ?_
    refine ax_getfr B cl_Model (by decide) fk_Model_97 d_Model_openList_48 (fun v15 => ?_)
    refine ax_iload_n B 0 d_Model_openList_51 rfl rfl ?_
    refine ax_iald (kd := 1) B (by decide) rfl d_Model_openList_52 (fun v16 => ?_)
    refine ax_if_le B 68 d_Model_openList_53 (by decide) ?_ ?_
    · refine ax_sub (tv2 := [(0, ax_A x0), (1, ax_I x1)]) [1, 2] rfl ?_
      exact Model_openList_jq68 hcall B E Nm x0 x1 h9
    · refine ax_aload_n B 1 d_Model_openList_56 rfl rfl ?_
      refine ax_iconst (v := 2) B d_Model_openList_57 (by decide) ?_
      refine ax_aload_n B 1 d_Model_openList_58 rfl rfl ?_
      refine ax_getfr B cl_Model (by decide) fk_Model_97 d_Model_openList_59 (fun v17 => ?_)
      refine ax_iload_n B 0 d_Model_openList_62 rfl rfl ?_
      refine ax_iald (kd := 1) B (by decide) rfl d_Model_openList_63 (fun v18 => ?_)
      refine ax_imul B d_Model_openList_64 ?_
      refine ax_callVv (av := [ax_I (2 * v18)]) (rest := []) B E hm_Model_say cl_Model rfl wd_1116 wp_46 lk_Model_208 d_Model_openList_65 rfl (Nat.le_of_ble_eq_true rfl) (fun _ _ hh => hcall 160 _ _ _ _ hh) (fun h19 => ?_)
      refine ax_sub (tv2 := [(0, ax_A x0), (1, ax_I x1)]) [1, 2] rfl ?_
      exact Model_openList_jq68 hcall B E Nm x0 x1 h19

theorem d_Model_closeList_0 : decode prog_12_method_30_code 0 = .ok (.aload_n 0, 1) := by decide +kernel
theorem d_Model_closeList_1 : decode prog_12_method_30_code 1 = .ok (.dup, 1) := by decide +kernel
theorem d_Model_closeList_2 : decode prog_12_method_30_code 2 = .ok (.getfield 241, 3) := by decide +kernel
theorem d_Model_closeList_5 : decode prog_12_method_30_code 5 = .ok (.iconst 1, 1) := by decide +kernel
theorem d_Model_closeList_6 : decode prog_12_method_30_code 6 = .ok (.isub, 1) := by decide +kernel
theorem d_Model_closeList_7 : decode prog_12_method_30_code 7 = .ok (.putfield 241, 3) := by decide +kernel
theorem d_Model_closeList_10 : decode prog_12_method_30_code 10 = .ok (.aload_n 0, 1) := by decide +kernel
theorem d_Model_closeList_11 : decode prog_12_method_30_code 11 = .ok (.getfield 170, 3) := by decide +kernel
theorem d_Model_closeList_14 : decode prog_12_method_30_code 14 = .ok (.iconst 1, 1) := by decide +kernel
theorem d_Model_closeList_15 : decode prog_12_method_30_code 15 = .ok (.if_icmp .eq 29, 3) := by decide +kernel
theorem d_Model_closeList_18 : decode prog_12_method_30_code 18 = .ok (.aload_n 0, 1) := by decide +kernel
theorem d_Model_closeList_19 : decode prog_12_method_30_code 19 = .ok (.getfield 97, 3) := by decide +kernel
theorem d_Model_closeList_22 : decode prog_12_method_30_code 22 = .ok (.aload_n 0, 1) := by decide +kernel
theorem d_Model_closeList_23 : decode prog_12_method_30_code 23 = .ok (.getfield 91, 3) := by decide +kernel
theorem d_Model_closeList_26 : decode prog_12_method_30_code 26 = .ok (.aload_n 0, 1) := by decide +kernel
theorem d_Model_closeList_27 : decode prog_12_method_30_code 27 = .ok (.getfield 241, 3) := by decide +kernel
theorem d_Model_closeList_30 : decode prog_12_method_30_code 30 = .ok (.iaload, 1) := by decide +kernel
theorem d_Model_closeList_31 : decode prog_12_method_30_code 31 = .ok (.aload_n 0, 1) := by decide +kernel
theorem d_Model_closeList_32 : decode prog_12_method_30_code 32 = .ok (.getfield 88, 3) := by decide +kernel
theorem d_Model_closeList_35 : decode prog_12_method_30_code 35 = .ok (.aload_n 0, 1) := by decide +kernel
theorem d_Model_closeList_36 : decode prog_12_method_30_code 36 = .ok (.getfield 241, 3) := by decide +kernel
theorem d_Model_closeList_39 : decode prog_12_method_30_code 39 = .ok (.iaload, 1) := by decide +kernel
theorem d_Model_closeList_40 : decode prog_12_method_30_code 40 = .ok (.iastore, 1) := by decide +kernel
theorem d_Model_closeList_41 : decode prog_12_method_30_code 41 = .ok (.goto 8, 3) := by decide +kernel
theorem d_Model_closeList_44 : decode prog_12_method_30_code 44 = .ok (.aload_n 0, 1) := by decide +kernel
theorem d_Model_closeList_45 : decode prog_12_method_30_code 45 = .ok (.iconst 0, 1) := by decide +kernel
theorem d_Model_closeList_46 : decode prog_12_method_30_code 46 = .ok (.invokevirtual 208, 3) := by decide +kernel
theorem d_Model_closeList_49 : decode prog_12_method_30_code 49 = .ok (.aload_n 0, 1) := by decide +kernel
theorem d_Model_closeList_50 : decode prog_12_method_30_code 50 = .ok (.iload_n 1, 1) := by decide +kernel
theorem d_Model_closeList_51 : decode prog_12_method_30_code 51 = .ok (.iload_n 1, 1) := by decide +kernel
theorem d_Model_closeList_52 : decode prog_12_method_30_code 52 = .ok (.iconst 1, 1) := by decide +kernel
theorem d_Model_closeList_53 : decode prog_12_method_30_code 53 = .ok (.iadd, 1) := by decide +kernel
theorem d_Model_closeList_54 : decode prog_12_method_30_code 54 = .ok (.invokevirtual 232, 3) := by decide +kernel
theorem d_Model_closeList_57 : decode prog_12_method_30_code 57 = .ok (.aload_n 0, 1) := by decide +kernel
theorem d_Model_closeList_58 : decode prog_12_method_30_code 58 = .ok (.iconst 1, 1) := by decide +kernel
theorem d_Model_closeList_59 : decode prog_12_method_30_code 59 = .ok (.putfield 155, 3) := by decide +kernel
theorem d_Model_closeList_62 : decode prog_12_method_30_code 62 = .ok (.iload_n 1, 1) := by decide +kernel
theorem d_Model_closeList_63 : decode prog_12_method_30_code 63 = .ok (.iconst 1, 1) := by decide +kernel
theorem d_Model_closeList_64 : decode prog_12_method_30_code 64 = .ok (.iadd, 1) := by decide +kernel
theorem d_Model_closeList_65 : decode prog_12_method_30_code 65 = .ok (.ireturn, 1) := by decide +kernel
def Model_closeList_jn49 (call : ax_Cf)  (x0 : Option Nat) (x1 : Int32) (h : ax_Hp) : ax_O :=
  ax_on h x0 9 <| ax_cv (call 159 [ax_A x0, ax_I x1, ax_I (x1 + 1)] h) fun h6 =>
  (ax_pf h6 x0 9 38 (ax_I 1)).bind fun h8 =>
  ax_ri (x1 + 1) h8
set_option maxHeartbeats 4000000 in
set_option maxRecDepth 20000 in
theorem Model_closeList_jq49 {l : Launch} {G : ax_G} {d : Nat} {call : ax_Cf} (hcall : ax_Hc l G d call) {p : Program} {e : Env} {s : State} {mi : MethodId} {args : Array Value} {below : List Frame} {meth : Method} {c : Code} {h0 : ax_Hp} (B : ax_B G p s mi meth c "SchemaDeskModel" prog_12_method_30_code 2 (some (.int))) (E : c.exceptionTable.isEmpty = true) (Nm : meth.name = y_Model_closeList.name)   (x0 : Option Nat) (x1 : Int32) (h : ax_Hp) : ax_W G p l e s mi args below meth c 2 (d + 1) h0 49 [(0, ax_A x0), (1, ax_I x1)] [] h (Model_closeList_jn49 call  x0 x1 h) := by
  unfold Model_closeList_jn49
  refine ax_aload_n B 0 d_Model_closeList_49 rfl rfl ?_
  refine ax_iload_n B 1 d_Model_closeList_50 rfl rfl ?_
  refine ax_iload_n B 1 d_Model_closeList_51 rfl rfl ?_
  refine ax_iconst (v := 1) B d_Model_closeList_52 (by decide) ?_
  refine ax_iadd B d_Model_closeList_53 ?_
  refine ax_callVv (av := [ax_I x1, ax_I (x1 + 1)]) (rest := []) B E hm_Model_sayCharacters cl_Model rfl wd_1112 wp_45 lk_Model_232 d_Model_closeList_54 rfl (Nat.le_of_ble_eq_true rfl) (fun _ _ hh => hcall 159 _ _ _ _ hh) (fun h6 => ?_)
  refine ax_aload_n B 0 d_Model_closeList_57 rfl rfl ?_
  refine ax_iconst (v := 1) B d_Model_closeList_58 (by decide) ?_
  refine ax_putf (v := ax_I 1) B cl_Model (by decide) fk_Model_155 (Or.inl rfl) (fun _ => rfl) (fun _ => rfl) d_Model_closeList_59 (fun h8 => ?_)
  refine ax_iload_n B 1 d_Model_closeList_62 rfl rfl ?_
  refine ax_iconst (v := 1) B d_Model_closeList_63 (by decide) ?_
  refine ax_iadd B d_Model_closeList_64 ?_
  exact ax_ireturn B d_Model_closeList_65
def Model_closeList_b (call : ax_Cf) (x0 : Option Nat) (x1 : Int32) (h : ax_Hp) : ax_O :=
  (ax_gi h x0 9 31).bind fun v1 =>
  (ax_pf h x0 9 31 (ax_I (v1 - 1))).bind fun h2 =>
  (ax_gi h2 x0 9 39).bind fun v3 =>
  if v3 = 1 then
    ax_on h2 x0 9 <| ax_cv (call 160 [ax_A x0, ax_I 0] h2) fun h4 =>
    Model_closeList_jn49 call x0 x1 h4
  else
    (ax_gr h2 x0 9 41).bind fun v9 =>
    (ax_gr h2 x0 9 35).bind fun v10 =>
    (ax_gi h2 x0 9 31).bind fun v11 =>
    (ax_ldi h2 v10 1 v11).bind fun v12 =>
    (ax_gr h2 x0 9 34).bind fun v13 =>
    (ax_gi h2 x0 9 31).bind fun v14 =>
    (ax_ldi h2 v13 1 v14).bind fun v15 =>
    (ax_st h2 v9 1 v12 (ax_I v15)).bind fun h16 =>
    Model_closeList_jn49 call x0 x1 h16
set_option maxHeartbeats 4000000 in
set_option maxRecDepth 20000 in
theorem Model_closeList_t {l : Launch} {G : ax_G} {d : Nat} {call : ax_Cf} (hcall : ax_Hc l G d call) (x0 : Option Nat) (x1 : Int32) (h : ax_Hp) {r : ax_Rs} {h' : ax_Hp} (ho : Model_closeList_b call x0 x1 h = some (r, h')) : ax_C l G (d + 1) y_Model_closeList (.code y_Model_closeList prog_12_method_30_code 2 (some (.int))) [ax_A x0, ax_I x1] h r h' := by
  refine ax_enter (by decide) (Nat.le_of_ble_eq_true rfl) ho (fun p e s mi args below meth c B E Nm => ?_)
  have B : ax_B G p s mi meth c "SchemaDeskModel" prog_12_method_30_code 2 (some (.int)) := B
  show ax_W G p l e s mi args below meth c 2 (d + 1) h 0 [(0, ax_A x0), (1, ax_I x1)] [] h (Model_closeList_b call x0 x1 h)
  unfold Model_closeList_b
  refine ax_aload_n B 0 d_Model_closeList_0 rfl rfl ?_
  refine ax_dup B d_Model_closeList_1 rfl ?_
  refine ax_getfi B cl_Model (by decide) fk_Model_241 d_Model_closeList_2 (fun v1 => ?_)
  refine ax_iconst (v := 1) B d_Model_closeList_5 (by decide) ?_
  refine ax_isub B d_Model_closeList_6 ?_
  refine ax_putf (v := ax_I (v1 - 1)) B cl_Model (by decide) fk_Model_241 (Or.inl rfl) (fun _ => rfl) (fun _ => rfl) d_Model_closeList_7 (fun h2 => ?_)
  refine ax_aload_n B 0 d_Model_closeList_10 rfl rfl ?_
  refine ax_getfi B cl_Model (by decide) fk_Model_170 d_Model_closeList_11 (fun v3 => ?_)
  refine ax_iconst (v := 1) B d_Model_closeList_14 (by decide) ?_
  refine ax_icmp_eq B 44 d_Model_closeList_15 (by decide) ?_ ?_
  · refine ax_aload_n B 0 d_Model_closeList_44 rfl rfl ?_
    refine ax_iconst (v := 0) B d_Model_closeList_45 (by decide) ?_
    refine ax_callVv (av := [ax_I 0]) (rest := []) B E hm_Model_say cl_Model rfl wd_1116 wp_46 lk_Model_208 d_Model_closeList_46 rfl (Nat.le_of_ble_eq_true rfl) (fun _ _ hh => hcall 160 _ _ _ _ hh) (fun h4 => ?_)
    refine ax_sub (tv2 := [(0, ax_A x0), (1, ax_I x1)]) [0, 1] rfl ?_
    exact Model_closeList_jq49 hcall B E Nm x0 x1 h4
  · refine ax_aload_n B 0 d_Model_closeList_18 rfl rfl ?_
    refine ax_getfr B cl_Model (by decide) fk_Model_97 d_Model_closeList_19 (fun v9 => ?_)
    refine ax_aload_n B 0 d_Model_closeList_22 rfl rfl ?_
    refine ax_getfr B cl_Model (by decide) fk_Model_91 d_Model_closeList_23 (fun v10 => ?_)
    refine ax_aload_n B 0 d_Model_closeList_26 rfl rfl ?_
    refine ax_getfi B cl_Model (by decide) fk_Model_241 d_Model_closeList_27 (fun v11 => ?_)
    refine ax_iald (kd := 1) B (by decide) rfl d_Model_closeList_30 (fun v12 => ?_)
    refine ax_aload_n B 0 d_Model_closeList_31 rfl rfl ?_
    refine ax_getfr B cl_Model (by decide) fk_Model_88 d_Model_closeList_32 (fun v13 => ?_)
    refine ax_aload_n B 0 d_Model_closeList_35 rfl rfl ?_
    refine ax_getfi B cl_Model (by decide) fk_Model_241 d_Model_closeList_36 (fun v14 => ?_)
    refine ax_iald (kd := 1) B (by decide) rfl d_Model_closeList_39 (fun v15 => ?_)
    refine ax_iast (kd := 1) B (by decide) (by decide) rfl d_Model_closeList_40 (fun h16 => ?_)
    refine ax_goto B 49 d_Model_closeList_41 (by decide) ?_
    refine ax_sub (tv2 := [(0, ax_A x0), (1, ax_I x1)]) [0, 1] rfl ?_
    exact Model_closeList_jq49 hcall B E Nm x0 x1 h16

theorem d_Model_behind_0 : decode prog_12_method_31_code 0 = .ok (.aload_n 0, 1) := by decide +kernel
theorem d_Model_behind_1 : decode prog_12_method_31_code 1 = .ok (.getfield 82, 3) := by decide +kernel
theorem d_Model_behind_4 : decode prog_12_method_31_code 4 = .ok (.aload_n 0, 1) := by decide +kernel
theorem d_Model_behind_5 : decode prog_12_method_31_code 5 = .ok (.getfield 241, 3) := by decide +kernel
theorem d_Model_behind_8 : decode prog_12_method_31_code 8 = .ok (.iconst 1, 1) := by decide +kernel
theorem d_Model_behind_9 : decode prog_12_method_31_code 9 = .ok (.isub, 1) := by decide +kernel
theorem d_Model_behind_10 : decode prog_12_method_31_code 10 = .ok (.iaload, 1) := by decide +kernel
theorem d_Model_behind_11 : decode prog_12_method_31_code 11 = .ok (.istore_n 2, 1) := by decide +kernel
theorem d_Model_behind_12 : decode prog_12_method_31_code 12 = .ok (.aload_n 0, 1) := by decide +kernel
theorem d_Model_behind_13 : decode prog_12_method_31_code 13 = .ok (.getfield 88, 3) := by decide +kernel
theorem d_Model_behind_16 : decode prog_12_method_31_code 16 = .ok (.aload_n 0, 1) := by decide +kernel
theorem d_Model_behind_17 : decode prog_12_method_31_code 17 = .ok (.getfield 241, 3) := by decide +kernel
theorem d_Model_behind_20 : decode prog_12_method_31_code 20 = .ok (.iconst 1, 1) := by decide +kernel
theorem d_Model_behind_21 : decode prog_12_method_31_code 21 = .ok (.isub, 1) := by decide +kernel
theorem d_Model_behind_22 : decode prog_12_method_31_code 22 = .ok (.dup2, 1) := by decide +kernel
theorem d_Model_behind_23 : decode prog_12_method_31_code 23 = .ok (.iaload, 1) := by decide +kernel
theorem d_Model_behind_24 : decode prog_12_method_31_code 24 = .ok (.iconst 1, 1) := by decide +kernel
theorem d_Model_behind_25 : decode prog_12_method_31_code 25 = .ok (.iadd, 1) := by decide +kernel
theorem d_Model_behind_26 : decode prog_12_method_31_code 26 = .ok (.iastore, 1) := by decide +kernel
theorem d_Model_behind_27 : decode prog_12_method_31_code 27 = .ok (.aload_n 0, 1) := by decide +kernel
theorem d_Model_behind_28 : decode prog_12_method_31_code 28 = .ok (.iload_n 1, 1) := by decide +kernel
theorem d_Model_behind_29 : decode prog_12_method_31_code 29 = .ok (.invokevirtual 194, 3) := by decide +kernel
theorem d_Model_behind_32 : decode prog_12_method_31_code 32 = .ok (.istore_n 3, 1) := by decide +kernel
theorem d_Model_behind_33 : decode prog_12_method_31_code 33 = .ok (.aload_n 0, 1) := by decide +kernel
theorem d_Model_behind_34 : decode prog_12_method_31_code 34 = .ok (.getfield 48, 3) := by decide +kernel
theorem d_Model_behind_37 : decode prog_12_method_31_code 37 = .ok (.iload_n 2, 1) := by decide +kernel
theorem d_Model_behind_38 : decode prog_12_method_31_code 38 = .ok (.caload, 1) := by decide +kernel
theorem d_Model_behind_39 : decode prog_12_method_31_code 39 = .ok (.bipush 65, 2) := by decide +kernel
theorem d_Model_behind_41 : decode prog_12_method_31_code 41 = .ok (.if_icmp .ne 52, 3) := by decide +kernel
theorem d_Model_behind_44 : decode prog_12_method_31_code 44 = .ok (.iload_n 3, 1) := by decide +kernel
theorem d_Model_behind_45 : decode prog_12_method_31_code 45 = .ok (.bipush 93, 2) := by decide +kernel
theorem d_Model_behind_47 : decode prog_12_method_31_code 47 = .ok (.if_icmp .ne 9, 3) := by decide +kernel
theorem d_Model_behind_50 : decode prog_12_method_31_code 50 = .ok (.aload_n 0, 1) := by decide +kernel
theorem d_Model_behind_51 : decode prog_12_method_31_code 51 = .ok (.iload_n 1, 1) := by decide +kernel
theorem d_Model_behind_52 : decode prog_12_method_31_code 52 = .ok (.invokevirtual 250, 3) := by decide +kernel
theorem d_Model_behind_55 : decode prog_12_method_31_code 55 = .ok (.ireturn, 1) := by decide +kernel
theorem d_Model_behind_56 : decode prog_12_method_31_code 56 = .ok (.iload_n 3, 1) := by decide +kernel
theorem d_Model_behind_57 : decode prog_12_method_31_code 57 = .ok (.bipush 44, 2) := by decide +kernel
theorem d_Model_behind_59 : decode prog_12_method_31_code 59 = .ok (.if_icmp .ne 30, 3) := by decide +kernel
theorem d_Model_behind_62 : decode prog_12_method_31_code 62 = .ok (.aload_n 0, 1) := by decide +kernel
theorem d_Model_behind_63 : decode prog_12_method_31_code 63 = .ok (.getfield 88, 3) := by decide +kernel
theorem d_Model_behind_66 : decode prog_12_method_31_code 66 = .ok (.aload_n 0, 1) := by decide +kernel
theorem d_Model_behind_67 : decode prog_12_method_31_code 67 = .ok (.getfield 241, 3) := by decide +kernel
theorem d_Model_behind_70 : decode prog_12_method_31_code 70 = .ok (.iconst 1, 1) := by decide +kernel
theorem d_Model_behind_71 : decode prog_12_method_31_code 71 = .ok (.isub, 1) := by decide +kernel
theorem d_Model_behind_72 : decode prog_12_method_31_code 72 = .ok (.iaload, 1) := by decide +kernel
theorem d_Model_behind_73 : decode prog_12_method_31_code 73 = .ok (.aload_n 0, 1) := by decide +kernel
theorem d_Model_behind_74 : decode prog_12_method_31_code 74 = .ok (.getfield 187, 3) := by decide +kernel
theorem d_Model_behind_77 : decode prog_12_method_31_code 77 = .ok (.ifCond .eq 8, 3) := by decide +kernel
theorem d_Model_behind_80 : decode prog_12_method_31_code 80 = .ok (.bipush 20, 2) := by decide +kernel
theorem d_Model_behind_82 : decode prog_12_method_31_code 82 = .ok (.goto 4, 3) := by decide +kernel
theorem d_Model_behind_85 : decode prog_12_method_31_code 85 = .ok (.iconst 3, 1) := by decide +kernel
theorem d_Model_behind_86 : decode prog_12_method_31_code 86 = .ok (.if_icmp .lt 108, 3) := by decide +kernel
theorem d_Model_behind_89 : decode prog_12_method_31_code 89 = .ok (.iconst (-1), 1) := by decide +kernel
theorem d_Model_behind_90 : decode prog_12_method_31_code 90 = .ok (.iload_n 1, 1) := by decide +kernel
theorem d_Model_behind_91 : decode prog_12_method_31_code 91 = .ok (.isub, 1) := by decide +kernel
theorem d_Model_behind_92 : decode prog_12_method_31_code 92 = .ok (.ireturn, 1) := by decide +kernel
theorem d_Model_behind_93 : decode prog_12_method_31_code 93 = .ok (.aload_n 0, 1) := by decide +kernel
theorem d_Model_behind_94 : decode prog_12_method_31_code 94 = .ok (.getfield 85, 3) := by decide +kernel
theorem d_Model_behind_97 : decode prog_12_method_31_code 97 = .ok (.aload_n 0, 1) := by decide +kernel
theorem d_Model_behind_98 : decode prog_12_method_31_code 98 = .ok (.getfield 241, 3) := by decide +kernel
theorem d_Model_behind_101 : decode prog_12_method_31_code 101 = .ok (.iconst 1, 1) := by decide +kernel
theorem d_Model_behind_102 : decode prog_12_method_31_code 102 = .ok (.isub, 1) := by decide +kernel
theorem d_Model_behind_103 : decode prog_12_method_31_code 103 = .ok (.aload_n 0, 1) := by decide +kernel
theorem d_Model_behind_104 : decode prog_12_method_31_code 104 = .ok (.getfield 54, 3) := by decide +kernel
theorem d_Model_behind_107 : decode prog_12_method_31_code 107 = .ok (.aload_n 0, 1) := by decide +kernel
theorem d_Model_behind_108 : decode prog_12_method_31_code 108 = .ok (.getfield 85, 3) := by decide +kernel
theorem d_Model_behind_111 : decode prog_12_method_31_code 111 = .ok (.aload_n 0, 1) := by decide +kernel
theorem d_Model_behind_112 : decode prog_12_method_31_code 112 = .ok (.getfield 241, 3) := by decide +kernel
theorem d_Model_behind_115 : decode prog_12_method_31_code 115 = .ok (.iconst 1, 1) := by decide +kernel
theorem d_Model_behind_116 : decode prog_12_method_31_code 116 = .ok (.isub, 1) := by decide +kernel
theorem d_Model_behind_117 : decode prog_12_method_31_code 117 = .ok (.iaload, 1) := by decide +kernel
theorem d_Model_behind_118 : decode prog_12_method_31_code 118 = .ok (.iaload, 1) := by decide +kernel
theorem d_Model_behind_119 : decode prog_12_method_31_code 119 = .ok (.iastore, 1) := by decide +kernel
theorem d_Model_behind_120 : decode prog_12_method_31_code 120 = .ok (.aload_n 0, 1) := by decide +kernel
theorem d_Model_behind_121 : decode prog_12_method_31_code 121 = .ok (.getfield 85, 3) := by decide +kernel
theorem d_Model_behind_124 : decode prog_12_method_31_code 124 = .ok (.aload_n 0, 1) := by decide +kernel
theorem d_Model_behind_125 : decode prog_12_method_31_code 125 = .ok (.getfield 241, 3) := by decide +kernel
theorem d_Model_behind_128 : decode prog_12_method_31_code 128 = .ok (.iconst 1, 1) := by decide +kernel
theorem d_Model_behind_129 : decode prog_12_method_31_code 129 = .ok (.isub, 1) := by decide +kernel
theorem d_Model_behind_130 : decode prog_12_method_31_code 130 = .ok (.iaload, 1) := by decide +kernel
theorem d_Model_behind_131 : decode prog_12_method_31_code 131 = .ok (.ifCond .ge 7, 3) := by decide +kernel
theorem d_Model_behind_134 : decode prog_12_method_31_code 134 = .ok (.iconst 1, 1) := by decide +kernel
theorem d_Model_behind_135 : decode prog_12_method_31_code 135 = .ok (.goto 4, 3) := by decide +kernel
theorem d_Model_behind_138 : decode prog_12_method_31_code 138 = .ok (.iconst 0, 1) := by decide +kernel
theorem d_Model_behind_139 : decode prog_12_method_31_code 139 = .ok (.istore 4, 2) := by decide +kernel
theorem d_Model_behind_141 : decode prog_12_method_31_code 141 = .ok (.iload_n 3, 1) := by decide +kernel
theorem d_Model_behind_142 : decode prog_12_method_31_code 142 = .ok (.iload 4, 2) := by decide +kernel
theorem d_Model_behind_144 : decode prog_12_method_31_code 144 = .ok (.ifCond .eq 8, 3) := by decide +kernel
theorem d_Model_behind_147 : decode prog_12_method_31_code 147 = .ok (.bipush 125, 2) := by decide +kernel
theorem d_Model_behind_149 : decode prog_12_method_31_code 149 = .ok (.goto 5, 3) := by decide +kernel
theorem d_Model_behind_152 : decode prog_12_method_31_code 152 = .ok (.bipush 44, 2) := by decide +kernel
theorem d_Model_behind_154 : decode prog_12_method_31_code 154 = .ok (.if_icmp .eq 7, 3) := by decide +kernel
theorem d_Model_behind_157 : decode prog_12_method_31_code 157 = .ok (.iconst (-1), 1) := by decide +kernel
theorem d_Model_behind_158 : decode prog_12_method_31_code 158 = .ok (.iload_n 1, 1) := by decide +kernel
theorem d_Model_behind_159 : decode prog_12_method_31_code 159 = .ok (.isub, 1) := by decide +kernel
theorem d_Model_behind_160 : decode prog_12_method_31_code 160 = .ok (.ireturn, 1) := by decide +kernel
theorem d_Model_behind_161 : decode prog_12_method_31_code 161 = .ok (.aload_n 0, 1) := by decide +kernel
theorem d_Model_behind_162 : decode prog_12_method_31_code 162 = .ok (.dup, 1) := by decide +kernel
theorem d_Model_behind_163 : decode prog_12_method_31_code 163 = .ok (.getfield 241, 3) := by decide +kernel
theorem d_Model_behind_166 : decode prog_12_method_31_code 166 = .ok (.iload 4, 2) := by decide +kernel
theorem d_Model_behind_168 : decode prog_12_method_31_code 168 = .ok (.ifCond .eq 7, 3) := by decide +kernel
theorem d_Model_behind_171 : decode prog_12_method_31_code 171 = .ok (.iconst 1, 1) := by decide +kernel
theorem d_Model_behind_172 : decode prog_12_method_31_code 172 = .ok (.goto 4, 3) := by decide +kernel
theorem d_Model_behind_175 : decode prog_12_method_31_code 175 = .ok (.iconst 0, 1) := by decide +kernel
theorem d_Model_behind_176 : decode prog_12_method_31_code 176 = .ok (.isub, 1) := by decide +kernel
theorem d_Model_behind_177 : decode prog_12_method_31_code 177 = .ok (.putfield 241, 3) := by decide +kernel
theorem d_Model_behind_180 : decode prog_12_method_31_code 180 = .ok (.aload_n 0, 1) := by decide +kernel
theorem d_Model_behind_181 : decode prog_12_method_31_code 181 = .ok (.iload 4, 2) := by decide +kernel
theorem d_Model_behind_183 : decode prog_12_method_31_code 183 = .ok (.ifCond .eq 7, 3) := by decide +kernel
theorem d_Model_behind_186 : decode prog_12_method_31_code 186 = .ok (.iconst 1, 1) := by decide +kernel
theorem d_Model_behind_187 : decode prog_12_method_31_code 187 = .ok (.goto 4, 3) := by decide +kernel
theorem d_Model_behind_190 : decode prog_12_method_31_code 190 = .ok (.iconst 2, 1) := by decide +kernel
theorem d_Model_behind_191 : decode prog_12_method_31_code 191 = .ok (.putfield 155, 3) := by decide +kernel
theorem d_Model_behind_194 : decode prog_12_method_31_code 194 = .ok (.aload_n 0, 1) := by decide +kernel
theorem d_Model_behind_195 : decode prog_12_method_31_code 195 = .ok (.iload_n 1, 1) := by decide +kernel
theorem d_Model_behind_196 : decode prog_12_method_31_code 196 = .ok (.iload_n 1, 1) := by decide +kernel
theorem d_Model_behind_197 : decode prog_12_method_31_code 197 = .ok (.iconst 1, 1) := by decide +kernel
theorem d_Model_behind_198 : decode prog_12_method_31_code 198 = .ok (.iadd, 1) := by decide +kernel
theorem d_Model_behind_199 : decode prog_12_method_31_code 199 = .ok (.invokevirtual 232, 3) := by decide +kernel
theorem d_Model_behind_202 : decode prog_12_method_31_code 202 = .ok (.aload_n 0, 1) := by decide +kernel
theorem d_Model_behind_203 : decode prog_12_method_31_code 203 = .ok (.aload_n 0, 1) := by decide +kernel
theorem d_Model_behind_204 : decode prog_12_method_31_code 204 = .ok (.getfield 48, 3) := by decide +kernel
theorem d_Model_behind_207 : decode prog_12_method_31_code 207 = .ok (.iload_n 2, 1) := by decide +kernel
theorem d_Model_behind_208 : decode prog_12_method_31_code 208 = .ok (.caload, 1) := by decide +kernel
theorem d_Model_behind_209 : decode prog_12_method_31_code 209 = .ok (.bipush 65, 2) := by decide +kernel
theorem d_Model_behind_211 : decode prog_12_method_31_code 211 = .ok (.if_icmp .ne 7, 3) := by decide +kernel
theorem d_Model_behind_214 : decode prog_12_method_31_code 214 = .ok (.iconst 2, 1) := by decide +kernel
theorem d_Model_behind_215 : decode prog_12_method_31_code 215 = .ok (.goto 7, 3) := by decide +kernel
theorem d_Model_behind_218 : decode prog_12_method_31_code 218 = .ok (.aload_n 0, 1) := by decide +kernel
theorem d_Model_behind_219 : decode prog_12_method_31_code 219 = .ok (.getfield 155, 3) := by decide +kernel
theorem d_Model_behind_222 : decode prog_12_method_31_code 222 = .ok (.putfield 155, 3) := by decide +kernel
theorem d_Model_behind_225 : decode prog_12_method_31_code 225 = .ok (.iload_n 1, 1) := by decide +kernel
theorem d_Model_behind_226 : decode prog_12_method_31_code 226 = .ok (.iconst 1, 1) := by decide +kernel
theorem d_Model_behind_227 : decode prog_12_method_31_code 227 = .ok (.iadd, 1) := by decide +kernel
theorem d_Model_behind_228 : decode prog_12_method_31_code 228 = .ok (.ireturn, 1) := by decide +kernel
def Model_behind_jn222 (call : ax_Cf)  (x1 : Int32) (s0 : Int32) (s1 : Option Nat) (h : ax_Hp) : ax_O :=
  (ax_pf h s1 9 38 (ax_I s0)).bind fun h31 =>
  ax_ri (x1 + 1) h31
set_option maxHeartbeats 4000000 in
set_option maxRecDepth 20000 in
theorem Model_behind_jq222 {l : Launch} {G : ax_G} {d : Nat} {call : ax_Cf} (hcall : ax_Hc l G d call) {p : Program} {e : Env} {s : State} {mi : MethodId} {args : Array Value} {below : List Frame} {meth : Method} {c : Code} {h0 : ax_Hp} (B : ax_B G p s mi meth c "SchemaDeskModel" prog_12_method_31_code 5 (some (.int))) (E : c.exceptionTable.isEmpty = true) (Nm : meth.name = y_Model_behind.name)   (x1 : Int32) (s0 : Int32) (s1 : Option Nat) (h : ax_Hp) : ax_W G p l e s mi args below meth c 5 (d + 1) h0 222 [(1, ax_I x1)] [ax_I s0, ax_A s1] h (Model_behind_jn222 call  x1 s0 s1 h) := by
  unfold Model_behind_jn222
  refine ax_putf (v := ax_I s0) B cl_Model (by decide) fk_Model_155 (Or.inl rfl) (fun _ => rfl) (fun _ => rfl) d_Model_behind_222 (fun h31 => ?_)
  refine ax_iload_n B 0 d_Model_behind_225 rfl rfl ?_
  refine ax_iconst (v := 1) B d_Model_behind_226 (by decide) ?_
  refine ax_iadd B d_Model_behind_227 ?_
  exact ax_ireturn B d_Model_behind_228
def Model_behind_jn194 (call : ax_Cf)  (x0 : Option Nat) (x1 : Int32) (x2 : Int32) (h : ax_Hp) : ax_O :=
  ax_on h x0 9 <| ax_cv (call 159 [ax_A x0, ax_I x1, ax_I (x1 + 1)] h) fun h26 =>
  (ax_gr h26 x0 9 17).bind fun v28 =>
  (ax_ldi h26 v28 3 x2).bind fun v29 =>
  if v29 = 65 then
    Model_behind_jn222 call x1 2 x0 h26
  else
    (ax_gi h26 x0 9 38).bind fun v30 =>
    Model_behind_jn222 call x1 v30 x0 h26
set_option maxHeartbeats 4000000 in
set_option maxRecDepth 20000 in
theorem Model_behind_jq194 {l : Launch} {G : ax_G} {d : Nat} {call : ax_Cf} (hcall : ax_Hc l G d call) {p : Program} {e : Env} {s : State} {mi : MethodId} {args : Array Value} {below : List Frame} {meth : Method} {c : Code} {h0 : ax_Hp} (B : ax_B G p s mi meth c "SchemaDeskModel" prog_12_method_31_code 5 (some (.int))) (E : c.exceptionTable.isEmpty = true) (Nm : meth.name = y_Model_behind.name)   (x0 : Option Nat) (x1 : Int32) (x2 : Int32) (h : ax_Hp) : ax_W G p l e s mi args below meth c 5 (d + 1) h0 194 [(0, ax_A x0), (1, ax_I x1), (2, ax_I x2)] [] h (Model_behind_jn194 call  x0 x1 x2 h) := by
  unfold Model_behind_jn194
  refine ax_aload_n B 0 d_Model_behind_194 rfl rfl ?_
  refine ax_iload_n B 1 d_Model_behind_195 rfl rfl ?_
  refine ax_iload_n B 1 d_Model_behind_196 rfl rfl ?_
  refine ax_iconst (v := 1) B d_Model_behind_197 (by decide) ?_
  refine ax_iadd B d_Model_behind_198 ?_
  refine ax_callVv (av := [ax_I x1, ax_I (x1 + 1)]) (rest := []) B E hm_Model_sayCharacters cl_Model rfl wd_1112 wp_45 lk_Model_232 d_Model_behind_199 rfl (Nat.le_of_ble_eq_true rfl) (fun _ _ hh => hcall 159 _ _ _ _ hh) (fun h26 => ?_)
  refine ax_aload_n B 0 d_Model_behind_202 rfl rfl ?_
  refine ax_aload_n B 0 d_Model_behind_203 rfl rfl ?_
  refine ax_getfr B cl_Model (by decide) fk_Model_48 d_Model_behind_204 (fun v28 => ?_)
  refine ax_iload_n B 2 d_Model_behind_207 rfl rfl ?_
  refine ax_cald (kd := 3) B (by decide) rfl d_Model_behind_208 (fun v29 => ?_)
  refine ax_bipush (v := 65) B d_Model_behind_209 (by decide) ?_
  refine ax_icmp_ne B 218 d_Model_behind_211 (by decide) ?_ ?_
  · refine ax_aload_n B 0 d_Model_behind_218 rfl rfl ?_
    refine ax_getfi B cl_Model (by decide) fk_Model_155 d_Model_behind_219 (fun v30 => ?_)
    refine ax_sub (tv2 := [(1, ax_I x1)]) [1] rfl ?_
    exact Model_behind_jq222 hcall B E Nm x1 v30 x0 h26
  · refine ax_iconst (v := 2) B d_Model_behind_214 (by decide) ?_
    refine ax_goto B 222 d_Model_behind_215 (by decide) ?_
    refine ax_sub (tv2 := [(1, ax_I x1)]) [1] rfl ?_
    exact Model_behind_jq222 hcall B E Nm x1 2 x0 h26
def Model_behind_jn191 (call : ax_Cf)  (x0 : Option Nat) (x1 : Int32) (x2 : Int32) (s0 : Int32) (s1 : Option Nat) (h : ax_Hp) : ax_O :=
  (ax_pf h s1 9 38 (ax_I s0)).bind fun h25 =>
  Model_behind_jn194 call x0 x1 x2 h25
set_option maxHeartbeats 4000000 in
set_option maxRecDepth 20000 in
theorem Model_behind_jq191 {l : Launch} {G : ax_G} {d : Nat} {call : ax_Cf} (hcall : ax_Hc l G d call) {p : Program} {e : Env} {s : State} {mi : MethodId} {args : Array Value} {below : List Frame} {meth : Method} {c : Code} {h0 : ax_Hp} (B : ax_B G p s mi meth c "SchemaDeskModel" prog_12_method_31_code 5 (some (.int))) (E : c.exceptionTable.isEmpty = true) (Nm : meth.name = y_Model_behind.name)   (x0 : Option Nat) (x1 : Int32) (x2 : Int32) (s0 : Int32) (s1 : Option Nat) (h : ax_Hp) : ax_W G p l e s mi args below meth c 5 (d + 1) h0 191 [(0, ax_A x0), (1, ax_I x1), (2, ax_I x2)] [ax_I s0, ax_A s1] h (Model_behind_jn191 call  x0 x1 x2 s0 s1 h) := by
  unfold Model_behind_jn191
  refine ax_putf (v := ax_I s0) B cl_Model (by decide) fk_Model_155 (Or.inl rfl) (fun _ => rfl) (fun _ => rfl) d_Model_behind_191 (fun h25 => ?_)
  refine ax_sub (tv2 := [(0, ax_A x0), (1, ax_I x1), (2, ax_I x2)]) [0, 1, 2] rfl ?_
  exact Model_behind_jq194 hcall B E Nm x0 x1 x2 h25
def Model_behind_jn176 (call : ax_Cf)  (x0 : Option Nat) (x1 : Int32) (x2 : Int32) (x4 : Int32) (s0 : Int32) (s1 : Int32) (s2 : Option Nat) (h : ax_Hp) : ax_O :=
  (ax_pf h s2 9 31 (ax_I (s1 - s0))).bind fun h24 =>
  if x4 = 0 then
    Model_behind_jn191 call x0 x1 x2 2 x0 h24
  else
    Model_behind_jn191 call x0 x1 x2 1 x0 h24
set_option maxHeartbeats 4000000 in
set_option maxRecDepth 20000 in
theorem Model_behind_jq176 {l : Launch} {G : ax_G} {d : Nat} {call : ax_Cf} (hcall : ax_Hc l G d call) {p : Program} {e : Env} {s : State} {mi : MethodId} {args : Array Value} {below : List Frame} {meth : Method} {c : Code} {h0 : ax_Hp} (B : ax_B G p s mi meth c "SchemaDeskModel" prog_12_method_31_code 5 (some (.int))) (E : c.exceptionTable.isEmpty = true) (Nm : meth.name = y_Model_behind.name)   (x0 : Option Nat) (x1 : Int32) (x2 : Int32) (x4 : Int32) (s0 : Int32) (s1 : Int32) (s2 : Option Nat) (h : ax_Hp) : ax_W G p l e s mi args below meth c 5 (d + 1) h0 176 [(0, ax_A x0), (1, ax_I x1), (2, ax_I x2), (4, ax_I x4)] [ax_I s0, ax_I s1, ax_A s2] h (Model_behind_jn176 call  x0 x1 x2 x4 s0 s1 s2 h) := by
  unfold Model_behind_jn176
  refine ax_isub B d_Model_behind_176 ?_
  refine ax_putf (v := ax_I (s1 - s0)) B cl_Model (by decide) fk_Model_241 (Or.inl rfl) (fun _ => rfl) (fun _ => rfl) d_Model_behind_177 (fun h24 => ?_)
  refine ax_aload_n B 0 d_Model_behind_180 rfl rfl ?_
  refine ax_iload B 3 d_Model_behind_181 rfl ?_
  refine ax_if_eq B 190 d_Model_behind_183 (by decide) ?_ ?_
  · refine ax_iconst (v := 2) B d_Model_behind_190 (by decide) ?_
    refine ax_sub (tv2 := [(0, ax_A x0), (1, ax_I x1), (2, ax_I x2)]) [0, 1, 2] rfl ?_
    exact Model_behind_jq191 hcall B E Nm x0 x1 x2 2 x0 h24
  · refine ax_iconst (v := 1) B d_Model_behind_186 (by decide) ?_
    refine ax_goto B 191 d_Model_behind_187 (by decide) ?_
    refine ax_sub (tv2 := [(0, ax_A x0), (1, ax_I x1), (2, ax_I x2)]) [0, 1, 2] rfl ?_
    exact Model_behind_jq191 hcall B E Nm x0 x1 x2 1 x0 h24
def Model_behind_jn154 (call : ax_Cf)  (x0 : Option Nat) (x1 : Int32) (x2 : Int32) (x4 : Int32) (s0 : Int32) (s1 : Int32) (h : ax_Hp) : ax_O :=
  if s1 = s0 then
    (ax_gi h x0 9 31).bind fun v23 =>
    if x4 = 0 then
      Model_behind_jn176 call x0 x1 x2 x4 0 v23 x0 h
    else
      Model_behind_jn176 call x0 x1 x2 x4 1 v23 x0 h
  else
    ax_ri ((-1) - x1) h
set_option maxHeartbeats 4000000 in
set_option maxRecDepth 20000 in
theorem Model_behind_jq154 {l : Launch} {G : ax_G} {d : Nat} {call : ax_Cf} (hcall : ax_Hc l G d call) {p : Program} {e : Env} {s : State} {mi : MethodId} {args : Array Value} {below : List Frame} {meth : Method} {c : Code} {h0 : ax_Hp} (B : ax_B G p s mi meth c "SchemaDeskModel" prog_12_method_31_code 5 (some (.int))) (E : c.exceptionTable.isEmpty = true) (Nm : meth.name = y_Model_behind.name)   (x0 : Option Nat) (x1 : Int32) (x2 : Int32) (x4 : Int32) (s0 : Int32) (s1 : Int32) (h : ax_Hp) : ax_W G p l e s mi args below meth c 5 (d + 1) h0 154 [(0, ax_A x0), (1, ax_I x1), (2, ax_I x2), (4, ax_I x4)] [ax_I s0, ax_I s1] h (Model_behind_jn154 call  x0 x1 x2 x4 s0 s1 h) := by
  unfold Model_behind_jn154
  refine ax_icmp_eq B 161 d_Model_behind_154 (by decide) ?_ ?_
  · refine ax_aload_n B 0 d_Model_behind_161 rfl rfl ?_
    refine ax_dup B d_Model_behind_162 rfl ?_
    refine ax_getfi B cl_Model (by decide) fk_Model_241 d_Model_behind_163 (fun v23 => ?_)
    refine ax_iload B 3 d_Model_behind_166 rfl ?_
    refine ax_if_eq B 175 d_Model_behind_168 (by decide) ?_ ?_
    · refine ax_iconst (v := 0) B d_Model_behind_175 (by decide) ?_
      refine ax_sub (tv2 := [(0, ax_A x0), (1, ax_I x1), (2, ax_I x2), (4, ax_I x4)]) [0, 1, 2, 3] rfl ?_
      exact Model_behind_jq176 hcall B E Nm x0 x1 x2 x4 0 v23 x0 h
    · refine ax_iconst (v := 1) B d_Model_behind_171 (by decide) ?_
      refine ax_goto B 176 d_Model_behind_172 (by decide) ?_
      refine ax_sub (tv2 := [(0, ax_A x0), (1, ax_I x1), (2, ax_I x2), (4, ax_I x4)]) [0, 1, 2, 3] rfl ?_
      exact Model_behind_jq176 hcall B E Nm x0 x1 x2 x4 1 v23 x0 h
  · refine ax_iconst (v := (-1)) B d_Model_behind_157 (by decide) ?_
    refine ax_iload_n B 1 d_Model_behind_158 rfl rfl ?_
    refine ax_isub B d_Model_behind_159 ?_
    exact ax_ireturn B d_Model_behind_160
def Model_behind_jn139 (call : ax_Cf)  (x0 : Option Nat) (x1 : Int32) (x2 : Int32) (x3 : Int32) (s0 : Int32) (h : ax_Hp) : ax_O :=
  if s0 = 0 then
    Model_behind_jn154 call x0 x1 x2 s0 44 x3 h
  else
    Model_behind_jn154 call x0 x1 x2 s0 125 x3 h
set_option maxHeartbeats 4000000 in
set_option maxRecDepth 20000 in
theorem Model_behind_jq139 {l : Launch} {G : ax_G} {d : Nat} {call : ax_Cf} (hcall : ax_Hc l G d call) {p : Program} {e : Env} {s : State} {mi : MethodId} {args : Array Value} {below : List Frame} {meth : Method} {c : Code} {h0 : ax_Hp} (B : ax_B G p s mi meth c "SchemaDeskModel" prog_12_method_31_code 5 (some (.int))) (E : c.exceptionTable.isEmpty = true) (Nm : meth.name = y_Model_behind.name)   (x0 : Option Nat) (x1 : Int32) (x2 : Int32) (x3 : Int32) (s0 : Int32) (h : ax_Hp) : ax_W G p l e s mi args below meth c 5 (d + 1) h0 139 [(0, ax_A x0), (1, ax_I x1), (2, ax_I x2), (3, ax_I x3)] [ax_I s0] h (Model_behind_jn139 call  x0 x1 x2 x3 s0 h) := by
  unfold Model_behind_jn139
  refine ax_istore (tv2 := [(4, ax_I s0), (0, ax_A x0), (1, ax_I x1), (2, ax_I x2), (3, ax_I x3)]) B d_Model_behind_139 (by decide) rfl ?_
  refine ax_iload_n B 4 d_Model_behind_141 rfl rfl ?_
  refine ax_iload B 0 d_Model_behind_142 rfl ?_
  refine ax_if_eq B 152 d_Model_behind_144 (by decide) ?_ ?_
  · refine ax_bipush (v := 44) B d_Model_behind_152 (by decide) ?_
    refine ax_sub (tv2 := [(0, ax_A x0), (1, ax_I x1), (2, ax_I x2), (4, ax_I s0)]) [1, 2, 3, 0] rfl ?_
    exact Model_behind_jq154 hcall B E Nm x0 x1 x2 s0 44 x3 h
  · refine ax_bipush (v := 125) B d_Model_behind_147 (by decide) ?_
    refine ax_goto B 154 d_Model_behind_149 (by decide) ?_
    refine ax_sub (tv2 := [(0, ax_A x0), (1, ax_I x1), (2, ax_I x2), (4, ax_I s0)]) [1, 2, 3, 0] rfl ?_
    exact Model_behind_jq154 hcall B E Nm x0 x1 x2 s0 125 x3 h
def Model_behind_jn89 (call : ax_Cf)  (x1 : Int32) (h : ax_Hp) : ax_O :=
  ax_ri ((-1) - x1) h
set_option maxHeartbeats 4000000 in
set_option maxRecDepth 20000 in
theorem Model_behind_jq89 {l : Launch} {G : ax_G} {d : Nat} {call : ax_Cf} (hcall : ax_Hc l G d call) {p : Program} {e : Env} {s : State} {mi : MethodId} {args : Array Value} {below : List Frame} {meth : Method} {c : Code} {h0 : ax_Hp} (B : ax_B G p s mi meth c "SchemaDeskModel" prog_12_method_31_code 5 (some (.int))) (E : c.exceptionTable.isEmpty = true) (Nm : meth.name = y_Model_behind.name)   (x1 : Int32) (h : ax_Hp) : ax_W G p l e s mi args below meth c 5 (d + 1) h0 89 [(1, ax_I x1)] [] h (Model_behind_jn89 call  x1 h) := by
  unfold Model_behind_jn89
  refine ax_iconst (v := (-1)) B d_Model_behind_89 (by decide) ?_
  refine ax_iload_n B 0 d_Model_behind_90 rfl rfl ?_
  refine ax_isub B d_Model_behind_91 ?_
  exact ax_ireturn B d_Model_behind_92
def Model_behind_jn86 (call : ax_Cf)  (x0 : Option Nat) (x1 : Int32) (x2 : Int32) (s0 : Int32) (s1 : Int32) (h : ax_Hp) : ax_O :=
  if s1 < s0 then
    Model_behind_jn194 call x0 x1 x2 h
  else
    Model_behind_jn89 call x1 h
set_option maxHeartbeats 4000000 in
set_option maxRecDepth 20000 in
theorem Model_behind_jq86 {l : Launch} {G : ax_G} {d : Nat} {call : ax_Cf} (hcall : ax_Hc l G d call) {p : Program} {e : Env} {s : State} {mi : MethodId} {args : Array Value} {below : List Frame} {meth : Method} {c : Code} {h0 : ax_Hp} (B : ax_B G p s mi meth c "SchemaDeskModel" prog_12_method_31_code 5 (some (.int))) (E : c.exceptionTable.isEmpty = true) (Nm : meth.name = y_Model_behind.name)   (x0 : Option Nat) (x1 : Int32) (x2 : Int32) (s0 : Int32) (s1 : Int32) (h : ax_Hp) : ax_W G p l e s mi args below meth c 5 (d + 1) h0 86 [(0, ax_A x0), (1, ax_I x1), (2, ax_I x2)] [ax_I s0, ax_I s1] h (Model_behind_jn86 call  x0 x1 x2 s0 s1 h) := by
  unfold Model_behind_jn86
  refine ax_icmp_lt B 194 d_Model_behind_86 (by decide) ?_ ?_
  · refine ax_sub (tv2 := [(0, ax_A x0), (1, ax_I x1), (2, ax_I x2)]) [0, 1, 2] rfl ?_
    exact Model_behind_jq194 hcall B E Nm x0 x1 x2 h
  · refine ax_sub (tv2 := [(1, ax_I x1)]) [1] rfl ?_
    exact Model_behind_jq89 hcall B E Nm x1 h
def Model_behind_b (call : ax_Cf) (x0 : Option Nat) (x1 : Int32) (h : ax_Hp) : ax_O :=
  (ax_gr h x0 9 32).bind fun v1 =>
  (ax_gi h x0 9 31).bind fun v2 =>
  (ax_ldi h v1 1 (v2 - 1)).bind fun v3 =>
  (ax_gr h x0 9 34).bind fun v4 =>
  (ax_gi h x0 9 31).bind fun v5 =>
  (ax_ldi h v4 1 (v5 - 1)).bind fun v6 =>
  (ax_st h v4 1 (v5 - 1) (ax_I (v6 + 1))).bind fun h7 =>
  ax_on h7 x0 9 <| ax_ci (call 158 [ax_A x0, ax_I x1] h7) fun v9 h8 =>
  (ax_gr h8 x0 9 17).bind fun v10 =>
  (ax_ldi h8 v10 3 v3).bind fun v11 =>
  if v11 = 65 then
    if v9 = 93 then
      ax_on h8 x0 9 <| ax_ci (call 169 [ax_A x0, ax_I x1] h8) fun v37 h36 =>
      ax_ri v37 h36
    else
      if v9 = 44 then
        (ax_gr h8 x0 9 34).bind fun v32 =>
        (ax_gi h8 x0 9 31).bind fun v33 =>
        (ax_ldi h8 v32 1 (v33 - 1)).bind fun v34 =>
        (ax_gi h8 x0 9 29).bind fun v35 =>
        if v35 = 0 then
          Model_behind_jn86 call x0 x1 v3 3 v34 h8
        else
          Model_behind_jn86 call x0 x1 v3 20 v34 h8
      else
        Model_behind_jn89 call x1 h8
  else
    (ax_gr h8 x0 9 33).bind fun v12 =>
    (ax_gi h8 x0 9 31).bind fun v13 =>
    (ax_gr h8 x0 9 19).bind fun v14 =>
    (ax_gr h8 x0 9 33).bind fun v15 =>
    (ax_gi h8 x0 9 31).bind fun v16 =>
    (ax_ldi h8 v15 1 (v16 - 1)).bind fun v17 =>
    (ax_ldi h8 v14 1 v17).bind fun v18 =>
    (ax_st h8 v12 1 (v13 - 1) (ax_I v18)).bind fun h19 =>
    (ax_gr h19 x0 9 33).bind fun v20 =>
    (ax_gi h19 x0 9 31).bind fun v21 =>
    (ax_ldi h19 v20 1 (v21 - 1)).bind fun v22 =>
    if 0 ≤ v22 then
      Model_behind_jn139 call x0 x1 v3 v9 0 h19
    else
      Model_behind_jn139 call x0 x1 v3 v9 1 h19
set_option maxHeartbeats 4000000 in
set_option maxRecDepth 20000 in
theorem Model_behind_t {l : Launch} {G : ax_G} {d : Nat} {call : ax_Cf} (hcall : ax_Hc l G d call) (x0 : Option Nat) (x1 : Int32) (h : ax_Hp) {r : ax_Rs} {h' : ax_Hp} (ho : Model_behind_b call x0 x1 h = some (r, h')) : ax_C l G (d + 1) y_Model_behind (.code y_Model_behind prog_12_method_31_code 5 (some (.int))) [ax_A x0, ax_I x1] h r h' := by
  refine ax_enter (by decide) (Nat.le_of_ble_eq_true rfl) ho (fun p e s mi args below meth c B E Nm => ?_)
  have B : ax_B G p s mi meth c "SchemaDeskModel" prog_12_method_31_code 5 (some (.int)) := B
  show ax_W G p l e s mi args below meth c 5 (d + 1) h 0 [(0, ax_A x0), (1, ax_I x1)] [] h (Model_behind_b call x0 x1 h)
  unfold Model_behind_b
  refine ax_aload_n B 0 d_Model_behind_0 rfl rfl ?_
  refine ax_getfr B cl_Model (by decide) fk_Model_82 d_Model_behind_1 (fun v1 => ?_)
  refine ax_aload_n B 0 d_Model_behind_4 rfl rfl ?_
  refine ax_getfi B cl_Model (by decide) fk_Model_241 d_Model_behind_5 (fun v2 => ?_)
  refine ax_iconst (v := 1) B d_Model_behind_8 (by decide) ?_
  refine ax_isub B d_Model_behind_9 ?_
  refine ax_iald (kd := 1) B (by decide) rfl d_Model_behind_10 (fun v3 => ?_)
  refine ax_istore_n (tv2 := [(2, ax_I v3), (0, ax_A x0), (1, ax_I x1)]) B d_Model_behind_11 rfl (by decide) rfl ?_
  refine ax_aload_n B 1 d_Model_behind_12 rfl rfl ?_
  refine ax_getfr B cl_Model (by decide) fk_Model_88 d_Model_behind_13 (fun v4 => ?_)
  refine ax_aload_n B 1 d_Model_behind_16 rfl rfl ?_
  refine ax_getfi B cl_Model (by decide) fk_Model_241 d_Model_behind_17 (fun v5 => ?_)
  refine ax_iconst (v := 1) B d_Model_behind_20 (by decide) ?_
  refine ax_isub B d_Model_behind_21 ?_
  refine ax_dup2_11 B d_Model_behind_22 rfl rfl ?_
  refine ax_iald (kd := 1) B (by decide) rfl d_Model_behind_23 (fun v6 => ?_)
  refine ax_iconst (v := 1) B d_Model_behind_24 (by decide) ?_
  refine ax_iadd B d_Model_behind_25 ?_
  refine ax_iast (kd := 1) B (by decide) (by decide) rfl d_Model_behind_26 (fun h7 => ?_)
  refine ax_aload_n B 1 d_Model_behind_27 rfl rfl ?_
  refine ax_iload_n B 2 d_Model_behind_28 rfl rfl ?_
  refine ax_callVi (av := [ax_I x1]) (rest := []) B E hm_Model_see cl_Model rfl wd_1108 wp_44 lk_Model_194 d_Model_behind_29 rfl (Nat.le_of_ble_eq_true rfl) (fun _ _ hh => hcall 158 _ _ _ _ hh) (fun v9 h8 => ?_)
  refine ax_istore_n (tv2 := [(3, ax_I v9), (2, ax_I v3), (0, ax_A x0), (1, ax_I x1)]) B d_Model_behind_32 rfl (by decide) rfl ?_
  refine ax_aload_n B 2 d_Model_behind_33 rfl rfl ?_
  refine ax_getfr B cl_Model (by decide) fk_Model_48 d_Model_behind_34 (fun v10 => ?_)
  refine ax_iload_n B 1 d_Model_behind_37 rfl rfl ?_
  refine ax_cald (kd := 3) B (by decide) rfl d_Model_behind_38 (fun v11 => ?_)
  refine ax_bipush (v := 65) B d_Model_behind_39 (by decide) ?_
  refine ax_icmp_ne B 93 d_Model_behind_41 (by decide) ?_ ?_
  · refine ax_aload_n B 2 d_Model_behind_93 rfl rfl ?_
    refine ax_getfr B cl_Model (by decide) fk_Model_85 d_Model_behind_94 (fun v12 => ?_)
    refine ax_aload_n B 2 d_Model_behind_97 rfl rfl ?_
    refine ax_getfi B cl_Model (by decide) fk_Model_241 d_Model_behind_98 (fun v13 => ?_)
    refine ax_iconst (v := 1) B d_Model_behind_101 (by decide) ?_
    refine ax_isub B d_Model_behind_102 ?_
    refine ax_aload_n B 2 d_Model_behind_103 rfl rfl ?_
    refine ax_getfr B cl_Model (by decide) fk_Model_54 d_Model_behind_104 (fun v14 => ?_)
    refine ax_aload_n B 2 d_Model_behind_107 rfl rfl ?_
    refine ax_getfr B cl_Model (by decide) fk_Model_85 d_Model_behind_108 (fun v15 => ?_)
    refine ax_aload_n B 2 d_Model_behind_111 rfl rfl ?_
    refine ax_getfi B cl_Model (by decide) fk_Model_241 d_Model_behind_112 (fun v16 => ?_)
    refine ax_iconst (v := 1) B d_Model_behind_115 (by decide) ?_
    refine ax_isub B d_Model_behind_116 ?_
    refine ax_iald (kd := 1) B (by decide) rfl d_Model_behind_117 (fun v17 => ?_)
    refine ax_iald (kd := 1) B (by decide) rfl d_Model_behind_118 (fun v18 => ?_)
    refine ax_iast (kd := 1) B (by decide) (by decide) rfl d_Model_behind_119 (fun h19 => ?_)
    refine ax_aload_n B 2 d_Model_behind_120 rfl rfl ?_
    refine ax_getfr B cl_Model (by decide) fk_Model_85 d_Model_behind_121 (fun v20 => ?_)
    refine ax_aload_n B 2 d_Model_behind_124 rfl rfl ?_
    refine ax_getfi B cl_Model (by decide) fk_Model_241 d_Model_behind_125 (fun v21 => ?_)
    refine ax_iconst (v := 1) B d_Model_behind_128 (by decide) ?_
    refine ax_isub B d_Model_behind_129 ?_
    refine ax_iald (kd := 1) B (by decide) rfl d_Model_behind_130 (fun v22 => ?_)
    refine ax_if_ge B 138 d_Model_behind_131 (by decide) ?_ ?_
    · refine ax_iconst (v := 0) B d_Model_behind_138 (by decide) ?_
      refine ax_sub (tv2 := [(0, ax_A x0), (1, ax_I x1), (2, ax_I v3), (3, ax_I v9)]) [2, 3, 1, 0] rfl ?_
      exact Model_behind_jq139 hcall B E Nm x0 x1 v3 v9 0 h19
    · refine ax_iconst (v := 1) B d_Model_behind_134 (by decide) ?_
      refine ax_goto B 139 d_Model_behind_135 (by decide) ?_
      refine ax_sub (tv2 := [(0, ax_A x0), (1, ax_I x1), (2, ax_I v3), (3, ax_I v9)]) [2, 3, 1, 0] rfl ?_
      exact Model_behind_jq139 hcall B E Nm x0 x1 v3 v9 1 h19
  · refine ax_iload_n B 0 d_Model_behind_44 rfl rfl ?_
    refine ax_bipush (v := 93) B d_Model_behind_45 (by decide) ?_
    refine ax_icmp_ne B 56 d_Model_behind_47 (by decide) ?_ ?_
    · refine ax_iload_n B 0 d_Model_behind_56 rfl rfl ?_
      refine ax_bipush (v := 44) B d_Model_behind_57 (by decide) ?_
      refine ax_icmp_ne B 89 d_Model_behind_59 (by decide) ?_ ?_
      · refine ax_sub (tv2 := [(1, ax_I x1)]) [3] rfl ?_
        exact Model_behind_jq89 hcall B E Nm x1 h8
      · refine ax_aload_n B 2 d_Model_behind_62 rfl rfl ?_
        refine ax_getfr B cl_Model (by decide) fk_Model_88 d_Model_behind_63 (fun v32 => ?_)
        refine ax_aload_n B 2 d_Model_behind_66 rfl rfl ?_
        refine ax_getfi B cl_Model (by decide) fk_Model_241 d_Model_behind_67 (fun v33 => ?_)
        refine ax_iconst (v := 1) B d_Model_behind_70 (by decide) ?_
        refine ax_isub B d_Model_behind_71 ?_
        refine ax_iald (kd := 1) B (by decide) rfl d_Model_behind_72 (fun v34 => ?_)
        refine ax_aload_n B 2 d_Model_behind_73 rfl rfl ?_
        refine ax_getfi B cl_Model (by decide) fk_Model_187 d_Model_behind_74 (fun v35 => ?_)
        refine ax_if_eq B 85 d_Model_behind_77 (by decide) ?_ ?_
        · refine ax_iconst (v := 3) B d_Model_behind_85 (by decide) ?_
          refine ax_sub (tv2 := [(0, ax_A x0), (1, ax_I x1), (2, ax_I v3)]) [2, 3, 1] rfl ?_
          exact Model_behind_jq86 hcall B E Nm x0 x1 v3 3 v34 h8
        · refine ax_bipush (v := 20) B d_Model_behind_80 (by decide) ?_
          refine ax_goto B 86 d_Model_behind_82 (by decide) ?_
          refine ax_sub (tv2 := [(0, ax_A x0), (1, ax_I x1), (2, ax_I v3)]) [2, 3, 1] rfl ?_
          exact Model_behind_jq86 hcall B E Nm x0 x1 v3 20 v34 h8
    · refine ax_aload_n B 2 d_Model_behind_50 rfl rfl ?_
      refine ax_iload_n B 3 d_Model_behind_51 rfl rfl ?_
      refine ax_callVi (av := [ax_I x1]) (rest := []) B E hm_Model_closeList cl_Model rfl wd_1158 wp_55 lk_Model_250 d_Model_behind_52 rfl (Nat.le_of_ble_eq_true rfl) (fun _ _ hh => hcall 169 _ _ _ _ hh) (fun v37 h36 => ?_)
      exact ax_ireturn B d_Model_behind_55

theorem d_Model_readLetter_0 : decode prog_12_method_15_code 0 = .ok (.aload_n 0, 1) := by decide +kernel
theorem d_Model_readLetter_1 : decode prog_12_method_15_code 1 = .ok (.iload_n 1, 1) := by decide +kernel
theorem d_Model_readLetter_2 : decode prog_12_method_15_code 2 = .ok (.iload_n 2, 1) := by decide +kernel
theorem d_Model_readLetter_3 : decode prog_12_method_15_code 3 = .ok (.invokevirtual 136, 3) := by decide +kernel
theorem d_Model_readLetter_6 : decode prog_12_method_15_code 6 = .ok (.istore 4, 2) := by decide +kernel
theorem d_Model_readLetter_8 : decode prog_12_method_15_code 8 = .ok (.aload_n 0, 1) := by decide +kernel
theorem d_Model_readLetter_9 : decode prog_12_method_15_code 9 = .ok (.iload 4, 2) := by decide +kernel
theorem d_Model_readLetter_11 : decode prog_12_method_15_code 11 = .ok (.invokevirtual 148, 3) := by decide +kernel
theorem d_Model_readLetter_14 : decode prog_12_method_15_code 14 = .ok (.ifCond .ne 7, 3) := by decide +kernel
theorem d_Model_readLetter_17 : decode prog_12_method_15_code 17 = .ok (.iconst (-1), 1) := by decide +kernel
theorem d_Model_readLetter_18 : decode prog_12_method_15_code 18 = .ok (.iload_n 2, 1) := by decide +kernel
theorem d_Model_readLetter_19 : decode prog_12_method_15_code 19 = .ok (.isub, 1) := by decide +kernel
theorem d_Model_readLetter_20 : decode prog_12_method_15_code 20 = .ok (.ireturn, 1) := by decide +kernel
theorem d_Model_readLetter_21 : decode prog_12_method_15_code 21 = .ok (.aload_n 0, 1) := by decide +kernel
theorem d_Model_readLetter_22 : decode prog_12_method_15_code 22 = .ok (.iload_n 1, 1) := by decide +kernel
theorem d_Model_readLetter_23 : decode prog_12_method_15_code 23 = .ok (.iload 4, 2) := by decide +kernel
theorem d_Model_readLetter_25 : decode prog_12_method_15_code 25 = .ok (.iload_n 3, 1) := by decide +kernel
theorem d_Model_readLetter_26 : decode prog_12_method_15_code 26 = .ok (.invokevirtual 151, 3) := by decide +kernel
theorem d_Model_readLetter_29 : decode prog_12_method_15_code 29 = .ok (.istore 5, 2) := by decide +kernel
theorem d_Model_readLetter_31 : decode prog_12_method_15_code 31 = .ok (.aload_n 0, 1) := by decide +kernel
theorem d_Model_readLetter_32 : decode prog_12_method_15_code 32 = .ok (.iconst 1, 1) := by decide +kernel
theorem d_Model_readLetter_33 : decode prog_12_method_15_code 33 = .ok (.putfield 155, 3) := by decide +kernel
theorem d_Model_readLetter_36 : decode prog_12_method_15_code 36 = .ok (.iload 4, 2) := by decide +kernel
theorem d_Model_readLetter_38 : decode prog_12_method_15_code 38 = .ok (.bipush 69, 2) := by decide +kernel
theorem d_Model_readLetter_40 : decode prog_12_method_15_code 40 = .ok (.if_icmp .ne 14, 3) := by decide +kernel
theorem d_Model_readLetter_43 : decode prog_12_method_15_code 43 = .ok (.aload_n 0, 1) := by decide +kernel
theorem d_Model_readLetter_44 : decode prog_12_method_15_code 44 = .ok (.iload_n 1, 1) := by decide +kernel
theorem d_Model_readLetter_45 : decode prog_12_method_15_code 45 = .ok (.iload 5, 2) := by decide +kernel
theorem d_Model_readLetter_47 : decode prog_12_method_15_code 47 = .ok (.iload_n 2, 1) := by decide +kernel
theorem d_Model_readLetter_48 : decode prog_12_method_15_code 48 = .ok (.iconst 1, 1) := by decide +kernel
theorem d_Model_readLetter_49 : decode prog_12_method_15_code 49 = .ok (.iadd, 1) := by decide +kernel
theorem d_Model_readLetter_50 : decode prog_12_method_15_code 50 = .ok (.invokevirtual 158, 3) := by decide +kernel
theorem d_Model_readLetter_53 : decode prog_12_method_15_code 53 = .ok (.ireturn, 1) := by decide +kernel
theorem d_Model_readLetter_54 : decode prog_12_method_15_code 54 = .ok (.iload 4, 2) := by decide +kernel
theorem d_Model_readLetter_56 : decode prog_12_method_15_code 56 = .ok (.bipush 65, 2) := by decide +kernel
theorem d_Model_readLetter_58 : decode prog_12_method_15_code 58 = .ok (.if_icmp .ne 18, 3) := by decide +kernel
theorem d_Model_readLetter_61 : decode prog_12_method_15_code 61 = .ok (.aload_n 0, 1) := by decide +kernel
theorem d_Model_readLetter_62 : decode prog_12_method_15_code 62 = .ok (.iload 5, 2) := by decide +kernel
theorem d_Model_readLetter_64 : decode prog_12_method_15_code 64 = .ok (.invokevirtual 162, 3) := by decide +kernel
theorem d_Model_readLetter_67 : decode prog_12_method_15_code 67 = .ok (.aload_n 0, 1) := by decide +kernel
theorem d_Model_readLetter_68 : decode prog_12_method_15_code 68 = .ok (.iconst 2, 1) := by decide +kernel
theorem d_Model_readLetter_69 : decode prog_12_method_15_code 69 = .ok (.putfield 155, 3) := by decide +kernel
theorem d_Model_readLetter_72 : decode prog_12_method_15_code 72 = .ok (.iload_n 2, 1) := by decide +kernel
theorem d_Model_readLetter_73 : decode prog_12_method_15_code 73 = .ok (.iconst 1, 1) := by decide +kernel
theorem d_Model_readLetter_74 : decode prog_12_method_15_code 74 = .ok (.iadd, 1) := by decide +kernel
theorem d_Model_readLetter_75 : decode prog_12_method_15_code 75 = .ok (.ireturn, 1) := by decide +kernel
theorem d_Model_readLetter_76 : decode prog_12_method_15_code 76 = .ok (.iload 4, 2) := by decide +kernel
theorem d_Model_readLetter_78 : decode prog_12_method_15_code 78 = .ok (.bipush 85, 2) := by decide +kernel
theorem d_Model_readLetter_80 : decode prog_12_method_15_code 80 = .ok (.if_icmp .eq 10, 3) := by decide +kernel
theorem d_Model_readLetter_83 : decode prog_12_method_15_code 83 = .ok (.iload 4, 2) := by decide +kernel
theorem d_Model_readLetter_85 : decode prog_12_method_15_code 85 = .ok (.bipush 82, 2) := by decide +kernel
theorem d_Model_readLetter_87 : decode prog_12_method_15_code 87 = .ok (.if_icmp .ne 50, 3) := by decide +kernel
theorem d_Model_readLetter_90 : decode prog_12_method_15_code 90 = .ok (.aload_n 0, 1) := by decide +kernel
theorem d_Model_readLetter_91 : decode prog_12_method_15_code 91 = .ok (.iload 5, 2) := by decide +kernel
theorem d_Model_readLetter_93 : decode prog_12_method_15_code 93 = .ok (.invokevirtual 162, 3) := by decide +kernel
theorem d_Model_readLetter_96 : decode prog_12_method_15_code 96 = .ok (.aload_n 0, 1) := by decide +kernel
theorem d_Model_readLetter_97 : decode prog_12_method_15_code 97 = .ok (.iload 4, 2) := by decide +kernel
theorem d_Model_readLetter_99 : decode prog_12_method_15_code 99 = .ok (.bipush 85, 2) := by decide +kernel
theorem d_Model_readLetter_101 : decode prog_12_method_15_code 101 = .ok (.if_icmp .ne 7, 3) := by decide +kernel
theorem d_Model_readLetter_104 : decode prog_12_method_15_code 104 = .ok (.iconst 2, 1) := by decide +kernel
theorem d_Model_readLetter_105 : decode prog_12_method_15_code 105 = .ok (.goto 4, 3) := by decide +kernel
theorem d_Model_readLetter_108 : decode prog_12_method_15_code 108 = .ok (.iconst 3, 1) := by decide +kernel
theorem d_Model_readLetter_109 : decode prog_12_method_15_code 109 = .ok (.putfield 155, 3) := by decide +kernel
theorem d_Model_readLetter_112 : decode prog_12_method_15_code 112 = .ok (.aload_n 0, 1) := by decide +kernel
theorem d_Model_readLetter_113 : decode prog_12_method_15_code 113 = .ok (.iload_n 1, 1) := by decide +kernel
theorem d_Model_readLetter_114 : decode prog_12_method_15_code 114 = .ok (.iload_n 2, 1) := by decide +kernel
theorem d_Model_readLetter_115 : decode prog_12_method_15_code 115 = .ok (.iconst 1, 1) := by decide +kernel
theorem d_Model_readLetter_116 : decode prog_12_method_15_code 116 = .ok (.iadd, 1) := by decide +kernel
theorem d_Model_readLetter_117 : decode prog_12_method_15_code 117 = .ok (.invokevirtual 136, 3) := by decide +kernel
theorem d_Model_readLetter_120 : decode prog_12_method_15_code 120 = .ok (.bipush 40, 2) := by decide +kernel
theorem d_Model_readLetter_122 : decode prog_12_method_15_code 122 = .ok (.if_icmp .ne 9, 3) := by decide +kernel
theorem d_Model_readLetter_125 : decode prog_12_method_15_code 125 = .ok (.iload_n 2, 1) := by decide +kernel
theorem d_Model_readLetter_126 : decode prog_12_method_15_code 126 = .ok (.iconst 2, 1) := by decide +kernel
theorem d_Model_readLetter_127 : decode prog_12_method_15_code 127 = .ok (.iadd, 1) := by decide +kernel
theorem d_Model_readLetter_128 : decode prog_12_method_15_code 128 = .ok (.goto 8, 3) := by decide +kernel
theorem d_Model_readLetter_131 : decode prog_12_method_15_code 131 = .ok (.iconst (-1), 1) := by decide +kernel
theorem d_Model_readLetter_132 : decode prog_12_method_15_code 132 = .ok (.iload_n 2, 1) := by decide +kernel
theorem d_Model_readLetter_133 : decode prog_12_method_15_code 133 = .ok (.iconst 1, 1) := by decide +kernel
theorem d_Model_readLetter_134 : decode prog_12_method_15_code 134 = .ok (.iadd, 1) := by decide +kernel
theorem d_Model_readLetter_135 : decode prog_12_method_15_code 135 = .ok (.isub, 1) := by decide +kernel
theorem d_Model_readLetter_136 : decode prog_12_method_15_code 136 = .ok (.ireturn, 1) := by decide +kernel
theorem d_Model_readLetter_137 : decode prog_12_method_15_code 137 = .ok (.iload_n 2, 1) := by decide +kernel
theorem d_Model_readLetter_138 : decode prog_12_method_15_code 138 = .ok (.iconst 1, 1) := by decide +kernel
theorem d_Model_readLetter_139 : decode prog_12_method_15_code 139 = .ok (.iadd, 1) := by decide +kernel
theorem d_Model_readLetter_140 : decode prog_12_method_15_code 140 = .ok (.ireturn, 1) := by decide +kernel
def Model_readLetter_jn109 (call : ax_Cf)  (x0 : Option Nat) (x1 : Int32) (x2 : Int32) (s0 : Int32) (s1 : Option Nat) (h : ax_Hp) : ax_O :=
  (ax_pf h s1 9 38 (ax_I s0)).bind fun h10 =>
  ax_on h10 x0 9 <| ax_ci (call 155 [ax_A x0, ax_I x1, ax_I (x2 + 1)] h10) fun v12 h11 =>
  if v12 = 40 then
    ax_ri (x2 + 2) h11
  else
    ax_ri ((-1) - (x2 + 1)) h11
set_option maxHeartbeats 4000000 in
set_option maxRecDepth 20000 in
theorem Model_readLetter_jq109 {l : Launch} {G : ax_G} {d : Nat} {call : ax_Cf} (hcall : ax_Hc l G d call) {p : Program} {e : Env} {s : State} {mi : MethodId} {args : Array Value} {below : List Frame} {meth : Method} {c : Code} {h0 : ax_Hp} (B : ax_B G p s mi meth c "SchemaDeskModel" prog_12_method_15_code 6 (some (.int))) (E : c.exceptionTable.isEmpty = true) (Nm : meth.name = y_Model_readLetter.name)   (x0 : Option Nat) (x1 : Int32) (x2 : Int32) (s0 : Int32) (s1 : Option Nat) (h : ax_Hp) : ax_W G p l e s mi args below meth c 6 (d + 1) h0 109 [(0, ax_A x0), (1, ax_I x1), (2, ax_I x2)] [ax_I s0, ax_A s1] h (Model_readLetter_jn109 call  x0 x1 x2 s0 s1 h) := by
  unfold Model_readLetter_jn109
  refine ax_putf (v := ax_I s0) B cl_Model (by decide) fk_Model_155 (Or.inl rfl) (fun _ => rfl) (fun _ => rfl) d_Model_readLetter_109 (fun h10 => ?_)
  refine ax_aload_n B 0 d_Model_readLetter_112 rfl rfl ?_
  refine ax_iload_n B 1 d_Model_readLetter_113 rfl rfl ?_
  refine ax_iload_n B 2 d_Model_readLetter_114 rfl rfl ?_
  refine ax_iconst (v := 1) B d_Model_readLetter_115 (by decide) ?_
  refine ax_iadd B d_Model_readLetter_116 ?_
  refine ax_callVi (av := [ax_I x1, ax_I (x2 + 1)]) (rest := []) B E hm_Model_look cl_Model rfl wd_1096 wp_41 lk_Model_136 d_Model_readLetter_117 rfl (Nat.le_of_ble_eq_true rfl) (fun _ _ hh => hcall 155 _ _ _ _ hh) (fun v12 h11 => ?_)
  refine ax_bipush (v := 40) B d_Model_readLetter_120 (by decide) ?_
  refine ax_icmp_ne B 131 d_Model_readLetter_122 (by decide) ?_ ?_
  · refine ax_iconst (v := (-1)) B d_Model_readLetter_131 (by decide) ?_
    refine ax_iload_n B 2 d_Model_readLetter_132 rfl rfl ?_
    refine ax_iconst (v := 1) B d_Model_readLetter_133 (by decide) ?_
    refine ax_iadd B d_Model_readLetter_134 ?_
    refine ax_isub B d_Model_readLetter_135 ?_
    exact ax_ireturn B d_Model_readLetter_136
  · refine ax_iload_n B 2 d_Model_readLetter_125 rfl rfl ?_
    refine ax_iconst (v := 2) B d_Model_readLetter_126 (by decide) ?_
    refine ax_iadd B d_Model_readLetter_127 ?_
    refine ax_goto B 136 d_Model_readLetter_128 (by decide) ?_
    exact ax_ireturn B d_Model_readLetter_136
def Model_readLetter_jn90 (call : ax_Cf)  (x0 : Option Nat) (x1 : Int32) (x2 : Int32) (x4 : Int32) (x5 : Int32) (h : ax_Hp) : ax_O :=
  ax_on h x0 9 <| ax_cv (call 176 [ax_A x0, ax_I x5] h) fun h8 =>
  if x4 = 85 then
    Model_readLetter_jn109 call x0 x1 x2 2 x0 h8
  else
    Model_readLetter_jn109 call x0 x1 x2 3 x0 h8
set_option maxHeartbeats 4000000 in
set_option maxRecDepth 20000 in
theorem Model_readLetter_jq90 {l : Launch} {G : ax_G} {d : Nat} {call : ax_Cf} (hcall : ax_Hc l G d call) {p : Program} {e : Env} {s : State} {mi : MethodId} {args : Array Value} {below : List Frame} {meth : Method} {c : Code} {h0 : ax_Hp} (B : ax_B G p s mi meth c "SchemaDeskModel" prog_12_method_15_code 6 (some (.int))) (E : c.exceptionTable.isEmpty = true) (Nm : meth.name = y_Model_readLetter.name)   (x0 : Option Nat) (x1 : Int32) (x2 : Int32) (x4 : Int32) (x5 : Int32) (h : ax_Hp) : ax_W G p l e s mi args below meth c 6 (d + 1) h0 90 [(0, ax_A x0), (1, ax_I x1), (2, ax_I x2), (4, ax_I x4), (5, ax_I x5)] [] h (Model_readLetter_jn90 call  x0 x1 x2 x4 x5 h) := by
  unfold Model_readLetter_jn90
  refine ax_aload_n B 0 d_Model_readLetter_90 rfl rfl ?_
  refine ax_iload B 4 d_Model_readLetter_91 rfl ?_
  refine ax_callVv (av := [ax_I x5]) (rest := []) B E hm_Model_begin cl_Model rfl wd_1185 wp_61 lk_Model_162 d_Model_readLetter_93 rfl (Nat.le_of_ble_eq_true rfl) (fun _ _ hh => hcall 176 _ _ _ _ hh) (fun h8 => ?_)
  refine ax_aload_n B 0 d_Model_readLetter_96 rfl rfl ?_
  refine ax_iload B 3 d_Model_readLetter_97 rfl ?_
  refine ax_bipush (v := 85) B d_Model_readLetter_99 (by decide) ?_
  refine ax_icmp_ne B 108 d_Model_readLetter_101 (by decide) ?_ ?_
  · refine ax_iconst (v := 3) B d_Model_readLetter_108 (by decide) ?_
    refine ax_sub (tv2 := [(0, ax_A x0), (1, ax_I x1), (2, ax_I x2)]) [0, 1, 2] rfl ?_
    exact Model_readLetter_jq109 hcall B E Nm x0 x1 x2 3 x0 h8
  · refine ax_iconst (v := 2) B d_Model_readLetter_104 (by decide) ?_
    refine ax_goto B 109 d_Model_readLetter_105 (by decide) ?_
    refine ax_sub (tv2 := [(0, ax_A x0), (1, ax_I x1), (2, ax_I x2)]) [0, 1, 2] rfl ?_
    exact Model_readLetter_jq109 hcall B E Nm x0 x1 x2 2 x0 h8
def Model_readLetter_b (call : ax_Cf) (x0 : Option Nat) (x1 : Int32) (x2 : Int32) (x3 : Int32) (h : ax_Hp) : ax_O :=
  ax_on h x0 9 <| ax_ci (call 155 [ax_A x0, ax_I x1, ax_I x2] h) fun v2 h1 =>
  ax_on h1 x0 9 <| ax_ci (call 172 [ax_A x0, ax_I v2] h1) fun v4 h3 =>
  if v4 = 0 then
    ax_ri ((-1) - x2) h3
  else
    ax_on h3 x0 9 <| ax_ci (call 173 [ax_A x0, ax_I x1, ax_I v2, ax_I x3] h3) fun v6 h5 =>
    (ax_pf h5 x0 9 38 (ax_I 1)).bind fun h7 =>
    if v2 = 69 then
      ax_on h7 x0 9 <| ax_ci (call 174 [ax_A x0, ax_I x1, ax_I v6, ax_I (x2 + 1)] h7) fun v17 h16 =>
      ax_ri v17 h16
    else
      if v2 = 65 then
        ax_on h7 x0 9 <| ax_cv (call 176 [ax_A x0, ax_I v6] h7) fun h13 =>
        (ax_pf h13 x0 9 38 (ax_I 2)).bind fun h15 =>
        ax_ri (x2 + 1) h15
      else
        if v2 = 85 then
          Model_readLetter_jn90 call x0 x1 x2 v2 v6 h7
        else
          if v2 = 82 then
            Model_readLetter_jn90 call x0 x1 x2 v2 v6 h7
          else
            ax_ri (x2 + 1) h7
set_option maxHeartbeats 4000000 in
set_option maxRecDepth 20000 in
theorem Model_readLetter_t {l : Launch} {G : ax_G} {d : Nat} {call : ax_Cf} (hcall : ax_Hc l G d call) (x0 : Option Nat) (x1 : Int32) (x2 : Int32) (x3 : Int32) (h : ax_Hp) {r : ax_Rs} {h' : ax_Hp} (ho : Model_readLetter_b call x0 x1 x2 x3 h = some (r, h')) : ax_C l G (d + 1) y_Model_readLetter (.code y_Model_readLetter prog_12_method_15_code 6 (some (.int))) [ax_A x0, ax_I x1, ax_I x2, ax_I x3] h r h' := by
  refine ax_enter (by decide) (Nat.le_of_ble_eq_true rfl) ho (fun p e s mi args below meth c B E Nm => ?_)
  have B : ax_B G p s mi meth c "SchemaDeskModel" prog_12_method_15_code 6 (some (.int)) := B
  show ax_W G p l e s mi args below meth c 6 (d + 1) h 0 [(0, ax_A x0), (1, ax_I x1), (2, ax_I x2), (3, ax_I x3)] [] h (Model_readLetter_b call x0 x1 x2 x3 h)
  unfold Model_readLetter_b
  refine ax_aload_n B 0 d_Model_readLetter_0 rfl rfl ?_
  refine ax_iload_n B 1 d_Model_readLetter_1 rfl rfl ?_
  refine ax_iload_n B 2 d_Model_readLetter_2 rfl rfl ?_
  refine ax_callVi (av := [ax_I x1, ax_I x2]) (rest := []) B E hm_Model_look cl_Model rfl wd_1096 wp_41 lk_Model_136 d_Model_readLetter_3 rfl (Nat.le_of_ble_eq_true rfl) (fun _ _ hh => hcall 155 _ _ _ _ hh) (fun v2 h1 => ?_)
  refine ax_istore (tv2 := [(4, ax_I v2), (0, ax_A x0), (1, ax_I x1), (2, ax_I x2), (3, ax_I x3)]) B d_Model_readLetter_6 (by decide) rfl ?_
  refine ax_aload_n B 1 d_Model_readLetter_8 rfl rfl ?_
  refine ax_iload B 0 d_Model_readLetter_9 rfl ?_
  refine ax_callVi (av := [ax_I v2]) (rest := []) B E hm_Model_mayBegin cl_Model rfl wd_1170 wp_58 lk_Model_148 d_Model_readLetter_11 rfl (Nat.le_of_ble_eq_true rfl) (fun _ _ hh => hcall 172 _ _ _ _ hh) (fun v4 h3 => ?_)
  refine ax_if_ne B 21 d_Model_readLetter_14 (by decide) ?_ ?_
  · refine ax_aload_n B 1 d_Model_readLetter_21 rfl rfl ?_
    refine ax_iload_n B 2 d_Model_readLetter_22 rfl rfl ?_
    refine ax_iload B 0 d_Model_readLetter_23 rfl ?_
    refine ax_iload_n B 4 d_Model_readLetter_25 rfl rfl ?_
    refine ax_callVi (av := [ax_I x1, ax_I v2, ax_I x3]) (rest := []) B E hm_Model_grow cl_Model rfl wd_1174 wp_59 lk_Model_151 d_Model_readLetter_26 rfl (Nat.le_of_ble_eq_true rfl) (fun _ _ hh => hcall 173 _ _ _ _ hh) (fun v6 h5 => ?_)
    refine ax_istore (tv2 := [(5, ax_I v6), (4, ax_I v2), (0, ax_A x0), (1, ax_I x1), (2, ax_I x2), (3, ax_I x3)]) B d_Model_readLetter_29 (by decide) rfl ?_
    refine ax_aload_n B 2 d_Model_readLetter_31 rfl rfl ?_
    refine ax_iconst (v := 1) B d_Model_readLetter_32 (by decide) ?_
    refine ax_putf (v := ax_I 1) B cl_Model (by decide) fk_Model_155 (Or.inl rfl) (fun _ => rfl) (fun _ => rfl) d_Model_readLetter_33 (fun h7 => ?_)
    refine ax_iload B 1 d_Model_readLetter_36 rfl ?_
    refine ax_bipush (v := 69) B d_Model_readLetter_38 (by decide) ?_
    refine ax_icmp_ne B 54 d_Model_readLetter_40 (by decide) ?_ ?_
    · refine ax_iload B 1 d_Model_readLetter_54 rfl ?_
      refine ax_bipush (v := 65) B d_Model_readLetter_56 (by decide) ?_
      refine ax_icmp_ne B 76 d_Model_readLetter_58 (by decide) ?_ ?_
      · refine ax_iload B 1 d_Model_readLetter_76 rfl ?_
        refine ax_bipush (v := 85) B d_Model_readLetter_78 (by decide) ?_
        refine ax_icmp_eq B 90 d_Model_readLetter_80 (by decide) ?_ ?_
        · refine ax_sub (tv2 := [(0, ax_A x0), (1, ax_I x1), (2, ax_I x2), (4, ax_I v2), (5, ax_I v6)]) [2, 3, 4, 1, 0] rfl ?_
          exact Model_readLetter_jq90 hcall B E Nm x0 x1 x2 v2 v6 h7
        · refine ax_iload B 1 d_Model_readLetter_83 rfl ?_
          refine ax_bipush (v := 82) B d_Model_readLetter_85 (by decide) ?_
          refine ax_icmp_ne B 137 d_Model_readLetter_87 (by decide) ?_ ?_
          · refine ax_iload_n B 4 d_Model_readLetter_137 rfl rfl ?_
            refine ax_iconst (v := 1) B d_Model_readLetter_138 (by decide) ?_
            refine ax_iadd B d_Model_readLetter_139 ?_
            exact ax_ireturn B d_Model_readLetter_140
          · refine ax_sub (tv2 := [(0, ax_A x0), (1, ax_I x1), (2, ax_I x2), (4, ax_I v2), (5, ax_I v6)]) [2, 3, 4, 1, 0] rfl ?_
            exact Model_readLetter_jq90 hcall B E Nm x0 x1 x2 v2 v6 h7
      · refine ax_aload_n B 2 d_Model_readLetter_61 rfl rfl ?_
        refine ax_iload B 0 d_Model_readLetter_62 rfl ?_
        refine ax_callVv (av := [ax_I v6]) (rest := []) B E hm_Model_begin cl_Model rfl wd_1185 wp_61 lk_Model_162 d_Model_readLetter_64 rfl (Nat.le_of_ble_eq_true rfl) (fun _ _ hh => hcall 176 _ _ _ _ hh) (fun h13 => ?_)
        refine ax_aload_n B 2 d_Model_readLetter_67 rfl rfl ?_
        refine ax_iconst (v := 2) B d_Model_readLetter_68 (by decide) ?_
        refine ax_putf (v := ax_I 2) B cl_Model (by decide) fk_Model_155 (Or.inl rfl) (fun _ => rfl) (fun _ => rfl) d_Model_readLetter_69 (fun h15 => ?_)
        refine ax_iload_n B 4 d_Model_readLetter_72 rfl rfl ?_
        refine ax_iconst (v := 1) B d_Model_readLetter_73 (by decide) ?_
        refine ax_iadd B d_Model_readLetter_74 ?_
        exact ax_ireturn B d_Model_readLetter_75
    · refine ax_aload_n B 2 d_Model_readLetter_43 rfl rfl ?_
      refine ax_iload_n B 3 d_Model_readLetter_44 rfl rfl ?_
      refine ax_iload B 0 d_Model_readLetter_45 rfl ?_
      refine ax_iload_n B 4 d_Model_readLetter_47 rfl rfl ?_
      refine ax_iconst (v := 1) B d_Model_readLetter_48 (by decide) ?_
      refine ax_iadd B d_Model_readLetter_49 ?_
      refine ax_callVi (av := [ax_I x1, ax_I v6, ax_I (x2 + 1)]) (rest := []) B E hm_Model_readSymbols cl_Model rfl wd_1178 wp_60 lk_Model_158 d_Model_readLetter_50 rfl (Nat.le_of_ble_eq_true rfl) (fun _ _ hh => hcall 174 _ _ _ _ hh) (fun v17 h16 => ?_)
      exact ax_ireturn B d_Model_readLetter_53
  · refine ax_iconst (v := (-1)) B d_Model_readLetter_17 (by decide) ?_
    refine ax_iload_n B 3 d_Model_readLetter_18 rfl rfl ?_
    refine ax_isub B d_Model_readLetter_19 ?_
    exact ax_ireturn B d_Model_readLetter_20

theorem d_Model_mayBegin_0 : decode prog_12_method_12_code 0 = .ok (.iload_n 1, 1) := by decide +kernel
theorem d_Model_mayBegin_1 : decode prog_12_method_12_code 1 = .ok (.bipush 78, 2) := by decide +kernel
theorem d_Model_mayBegin_3 : decode prog_12_method_12_code 3 = .ok (.if_icmp .eq 33, 3) := by decide +kernel
theorem d_Model_mayBegin_6 : decode prog_12_method_12_code 6 = .ok (.iload_n 1, 1) := by decide +kernel
theorem d_Model_mayBegin_7 : decode prog_12_method_12_code 7 = .ok (.bipush 66, 2) := by decide +kernel
theorem d_Model_mayBegin_9 : decode prog_12_method_12_code 9 = .ok (.if_icmp .eq 27, 3) := by decide +kernel
theorem d_Model_mayBegin_12 : decode prog_12_method_12_code 12 = .ok (.iload_n 1, 1) := by decide +kernel
theorem d_Model_mayBegin_13 : decode prog_12_method_12_code 13 = .ok (.bipush 73, 2) := by decide +kernel
theorem d_Model_mayBegin_15 : decode prog_12_method_12_code 15 = .ok (.if_icmp .eq 21, 3) := by decide +kernel
theorem d_Model_mayBegin_18 : decode prog_12_method_12_code 18 = .ok (.iload_n 1, 1) := by decide +kernel
theorem d_Model_mayBegin_19 : decode prog_12_method_12_code 19 = .ok (.bipush 76, 2) := by decide +kernel
theorem d_Model_mayBegin_21 : decode prog_12_method_12_code 21 = .ok (.if_icmp .eq 15, 3) := by decide +kernel
theorem d_Model_mayBegin_24 : decode prog_12_method_12_code 24 = .ok (.iload_n 1, 1) := by decide +kernel
theorem d_Model_mayBegin_25 : decode prog_12_method_12_code 25 = .ok (.bipush 83, 2) := by decide +kernel
theorem d_Model_mayBegin_27 : decode prog_12_method_12_code 27 = .ok (.if_icmp .eq 9, 3) := by decide +kernel
theorem d_Model_mayBegin_30 : decode prog_12_method_12_code 30 = .ok (.iload_n 1, 1) := by decide +kernel
theorem d_Model_mayBegin_31 : decode prog_12_method_12_code 31 = .ok (.bipush 69, 2) := by decide +kernel
theorem d_Model_mayBegin_33 : decode prog_12_method_12_code 33 = .ok (.if_icmp .ne 7, 3) := by decide +kernel
theorem d_Model_mayBegin_36 : decode prog_12_method_12_code 36 = .ok (.iconst 1, 1) := by decide +kernel
theorem d_Model_mayBegin_37 : decode prog_12_method_12_code 37 = .ok (.goto 4, 3) := by decide +kernel
theorem d_Model_mayBegin_40 : decode prog_12_method_12_code 40 = .ok (.iconst 0, 1) := by decide +kernel
theorem d_Model_mayBegin_41 : decode prog_12_method_12_code 41 = .ok (.istore_n 2, 1) := by decide +kernel
theorem d_Model_mayBegin_42 : decode prog_12_method_12_code 42 = .ok (.iload_n 1, 1) := by decide +kernel
theorem d_Model_mayBegin_43 : decode prog_12_method_12_code 43 = .ok (.bipush 65, 2) := by decide +kernel
theorem d_Model_mayBegin_45 : decode prog_12_method_12_code 45 = .ok (.if_icmp .eq 15, 3) := by decide +kernel
theorem d_Model_mayBegin_48 : decode prog_12_method_12_code 48 = .ok (.iload_n 1, 1) := by decide +kernel
theorem d_Model_mayBegin_49 : decode prog_12_method_12_code 49 = .ok (.bipush 85, 2) := by decide +kernel
theorem d_Model_mayBegin_51 : decode prog_12_method_12_code 51 = .ok (.if_icmp .eq 9, 3) := by decide +kernel
theorem d_Model_mayBegin_54 : decode prog_12_method_12_code 54 = .ok (.iload_n 1, 1) := by decide +kernel
theorem d_Model_mayBegin_55 : decode prog_12_method_12_code 55 = .ok (.bipush 82, 2) := by decide +kernel
theorem d_Model_mayBegin_57 : decode prog_12_method_12_code 57 = .ok (.if_icmp .ne 7, 3) := by decide +kernel
theorem d_Model_mayBegin_60 : decode prog_12_method_12_code 60 = .ok (.iconst 1, 1) := by decide +kernel
theorem d_Model_mayBegin_61 : decode prog_12_method_12_code 61 = .ok (.goto 4, 3) := by decide +kernel
theorem d_Model_mayBegin_64 : decode prog_12_method_12_code 64 = .ok (.iconst 0, 1) := by decide +kernel
theorem d_Model_mayBegin_65 : decode prog_12_method_12_code 65 = .ok (.istore_n 3, 1) := by decide +kernel
theorem d_Model_mayBegin_66 : decode prog_12_method_12_code 66 = .ok (.iload_n 2, 1) := by decide +kernel
theorem d_Model_mayBegin_67 : decode prog_12_method_12_code 67 = .ok (.ifCond .ne 17, 3) := by decide +kernel
theorem d_Model_mayBegin_70 : decode prog_12_method_12_code 70 = .ok (.iload_n 3, 1) := by decide +kernel
theorem d_Model_mayBegin_71 : decode prog_12_method_12_code 71 = .ok (.ifCond .eq 11, 3) := by decide +kernel
theorem d_Model_mayBegin_74 : decode prog_12_method_12_code 74 = .ok (.aload_n 0, 1) := by decide +kernel
theorem d_Model_mayBegin_75 : decode prog_12_method_12_code 75 = .ok (.getfield 133, 3) := by decide +kernel
theorem d_Model_mayBegin_78 : decode prog_12_method_12_code 78 = .ok (.iconst 5, 1) := by decide +kernel
theorem d_Model_mayBegin_79 : decode prog_12_method_12_code 79 = .ok (.if_icmp .le 5, 3) := by decide +kernel
theorem d_Model_mayBegin_82 : decode prog_12_method_12_code 82 = .ok (.iconst 0, 1) := by decide +kernel
theorem d_Model_mayBegin_83 : decode prog_12_method_12_code 83 = .ok (.ireturn, 1) := by decide +kernel
theorem d_Model_mayBegin_84 : decode prog_12_method_12_code 84 = .ok (.iconst 1, 1) := by decide +kernel
theorem d_Model_mayBegin_85 : decode prog_12_method_12_code 85 = .ok (.istore 4, 2) := by decide +kernel
theorem d_Model_mayBegin_87 : decode prog_12_method_12_code 87 = .ok (.aload_n 0, 1) := by decide +kernel
theorem d_Model_mayBegin_88 : decode prog_12_method_12_code 88 = .ok (.getfield 133, 3) := by decide +kernel
theorem d_Model_mayBegin_91 : decode prog_12_method_12_code 91 = .ok (.ifCond .le 95, 3) := by decide +kernel
theorem d_Model_mayBegin_94 : decode prog_12_method_12_code 94 = .ok (.aload_n 0, 1) := by decide +kernel
theorem d_Model_mayBegin_95 : decode prog_12_method_12_code 95 = .ok (.getfield 48, 3) := by decide +kernel
theorem d_Model_mayBegin_98 : decode prog_12_method_12_code 98 = .ok (.aload_n 0, 1) := by decide +kernel
theorem d_Model_mayBegin_99 : decode prog_12_method_12_code 99 = .ok (.getfield 76, 3) := by decide +kernel
theorem d_Model_mayBegin_102 : decode prog_12_method_12_code 102 = .ok (.aload_n 0, 1) := by decide +kernel
theorem d_Model_mayBegin_103 : decode prog_12_method_12_code 103 = .ok (.getfield 133, 3) := by decide +kernel
theorem d_Model_mayBegin_106 : decode prog_12_method_12_code 106 = .ok (.iconst 1, 1) := by decide +kernel
theorem d_Model_mayBegin_107 : decode prog_12_method_12_code 107 = .ok (.isub, 1) := by decide +kernel
theorem d_Model_mayBegin_108 : decode prog_12_method_12_code 108 = .ok (.iaload, 1) := by decide +kernel
theorem d_Model_mayBegin_109 : decode prog_12_method_12_code 109 = .ok (.caload, 1) := by decide +kernel
theorem d_Model_mayBegin_110 : decode prog_12_method_12_code 110 = .ok (.bipush 85, 2) := by decide +kernel
theorem d_Model_mayBegin_112 : decode prog_12_method_12_code 112 = .ok (.if_icmp .ne 74, 3) := by decide +kernel
theorem d_Model_mayBegin_115 : decode prog_12_method_12_code 115 = .ok (.iload_n 1, 1) := by decide +kernel
theorem d_Model_mayBegin_116 : decode prog_12_method_12_code 116 = .ok (.bipush 85, 2) := by decide +kernel
theorem d_Model_mayBegin_118 : decode prog_12_method_12_code 118 = .ok (.if_icmp .eq 7, 3) := by decide +kernel
theorem d_Model_mayBegin_121 : decode prog_12_method_12_code 121 = .ok (.iconst 1, 1) := by decide +kernel
theorem d_Model_mayBegin_122 : decode prog_12_method_12_code 122 = .ok (.goto 4, 3) := by decide +kernel
theorem d_Model_mayBegin_125 : decode prog_12_method_12_code 125 = .ok (.iconst 0, 1) := by decide +kernel
theorem d_Model_mayBegin_126 : decode prog_12_method_12_code 126 = .ok (.istore 4, 2) := by decide +kernel
theorem d_Model_mayBegin_128 : decode prog_12_method_12_code 128 = .ok (.aload_n 0, 1) := by decide +kernel
theorem d_Model_mayBegin_129 : decode prog_12_method_12_code 129 = .ok (.getfield 51, 3) := by decide +kernel
theorem d_Model_mayBegin_132 : decode prog_12_method_12_code 132 = .ok (.aload_n 0, 1) := by decide +kernel
theorem d_Model_mayBegin_133 : decode prog_12_method_12_code 133 = .ok (.getfield 76, 3) := by decide +kernel
theorem d_Model_mayBegin_136 : decode prog_12_method_12_code 136 = .ok (.aload_n 0, 1) := by decide +kernel
theorem d_Model_mayBegin_137 : decode prog_12_method_12_code 137 = .ok (.getfield 133, 3) := by decide +kernel
theorem d_Model_mayBegin_140 : decode prog_12_method_12_code 140 = .ok (.iconst 1, 1) := by decide +kernel
theorem d_Model_mayBegin_141 : decode prog_12_method_12_code 141 = .ok (.isub, 1) := by decide +kernel
theorem d_Model_mayBegin_142 : decode prog_12_method_12_code 142 = .ok (.iaload, 1) := by decide +kernel
theorem d_Model_mayBegin_143 : decode prog_12_method_12_code 143 = .ok (.iaload, 1) := by decide +kernel
theorem d_Model_mayBegin_144 : decode prog_12_method_12_code 144 = .ok (.istore 5, 2) := by decide +kernel
theorem d_Model_mayBegin_146 : decode prog_12_method_12_code 146 = .ok (.iload 5, 2) := by decide +kernel
theorem d_Model_mayBegin_148 : decode prog_12_method_12_code 148 = .ok (.ifCond .lt 38, 3) := by decide +kernel
theorem d_Model_mayBegin_151 : decode prog_12_method_12_code 151 = .ok (.iload 4, 2) := by decide +kernel
theorem d_Model_mayBegin_153 : decode prog_12_method_12_code 153 = .ok (.ifCond .eq 18, 3) := by decide +kernel
theorem d_Model_mayBegin_156 : decode prog_12_method_12_code 156 = .ok (.aload_n 0, 1) := by decide +kernel
theorem d_Model_mayBegin_157 : decode prog_12_method_12_code 157 = .ok (.getfield 48, 3) := by decide +kernel
theorem d_Model_mayBegin_160 : decode prog_12_method_12_code 160 = .ok (.iload 5, 2) := by decide +kernel
theorem d_Model_mayBegin_162 : decode prog_12_method_12_code 162 = .ok (.caload, 1) := by decide +kernel
theorem d_Model_mayBegin_163 : decode prog_12_method_12_code 163 = .ok (.iload_n 1, 1) := by decide +kernel
theorem d_Model_mayBegin_164 : decode prog_12_method_12_code 164 = .ok (.if_icmp .eq 7, 3) := by decide +kernel
theorem d_Model_mayBegin_167 : decode prog_12_method_12_code 167 = .ok (.iconst 1, 1) := by decide +kernel
theorem d_Model_mayBegin_168 : decode prog_12_method_12_code 168 = .ok (.goto 4, 3) := by decide +kernel
theorem d_Model_mayBegin_171 : decode prog_12_method_12_code 171 = .ok (.iconst 0, 1) := by decide +kernel
theorem d_Model_mayBegin_172 : decode prog_12_method_12_code 172 = .ok (.istore 4, 2) := by decide +kernel
theorem d_Model_mayBegin_174 : decode prog_12_method_12_code 174 = .ok (.aload_n 0, 1) := by decide +kernel
theorem d_Model_mayBegin_175 : decode prog_12_method_12_code 175 = .ok (.getfield 54, 3) := by decide +kernel
theorem d_Model_mayBegin_178 : decode prog_12_method_12_code 178 = .ok (.iload 5, 2) := by decide +kernel
theorem d_Model_mayBegin_180 : decode prog_12_method_12_code 180 = .ok (.iaload, 1) := by decide +kernel
theorem d_Model_mayBegin_181 : decode prog_12_method_12_code 181 = .ok (.istore 5, 2) := by decide +kernel
theorem d_Model_mayBegin_183 : decode prog_12_method_12_code 183 = .ok (.goto (-37), 3) := by decide +kernel
theorem d_Model_mayBegin_186 : decode prog_12_method_12_code 186 = .ok (.iload 4, 2) := by decide +kernel
theorem d_Model_mayBegin_188 : decode prog_12_method_12_code 188 = .ok (.ireturn, 1) := by decide +kernel
def Model_mayBegin_jn186 (call : ax_Cf)  (x4 : Int32) (h : ax_Hp) : ax_O :=
  ax_rz x4 h
set_option maxHeartbeats 4000000 in
set_option maxRecDepth 20000 in
theorem Model_mayBegin_jq186 {l : Launch} {G : ax_G} {d : Nat} {call : ax_Cf} (hcall : ax_Hc l G d call) {p : Program} {e : Env} {s : State} {mi : MethodId} {args : Array Value} {below : List Frame} {meth : Method} {c : Code} {h0 : ax_Hp} (B : ax_B G p s mi meth c "SchemaDeskModel" prog_12_method_12_code 6 (some (.boolean))) (E : c.exceptionTable.isEmpty = true) (Nm : meth.name = y_Model_mayBegin.name)   (x4 : Int32) (h : ax_Hp) : ax_W G p l e s mi args below meth c 6 (d + 1) h0 186 [(4, ax_I x4)] [] h (Model_mayBegin_jn186 call  x4 h) := by
  unfold Model_mayBegin_jn186
  refine ax_iload B 0 d_Model_mayBegin_186 rfl ?_
  exact ax_zreturn B d_Model_mayBegin_188
def Model_mayBegin_jn172 (call : ax_Cf) (k146 : Option Nat → Int32 → Int32 → Int32 → ax_Hp → ax_O) (x0 : Option Nat) (x1 : Int32) (x5 : Int32) (s0 : Int32) (h : ax_Hp) : ax_O :=
  (ax_gr h x0 9 19).bind fun v12 =>
  (ax_ldi h v12 1 x5).bind fun v13 =>
  k146 x0 x1 s0 v13 h
set_option maxHeartbeats 4000000 in
set_option maxRecDepth 20000 in
theorem Model_mayBegin_jq172 {l : Launch} {G : ax_G} {d : Nat} {call : ax_Cf} (hcall : ax_Hc l G d call) {p : Program} {e : Env} {s : State} {mi : MethodId} {args : Array Value} {below : List Frame} {meth : Method} {c : Code} {h0 : ax_Hp} (B : ax_B G p s mi meth c "SchemaDeskModel" prog_12_method_12_code 6 (some (.boolean))) (E : c.exceptionTable.isEmpty = true) (Nm : meth.name = y_Model_mayBegin.name) (k146 : Option Nat → Int32 → Int32 → Int32 → ax_Hp → ax_O) (hk146 : ∀ (x0 : Option Nat) (x1 : Int32) (x4 : Int32) (x5 : Int32) (h : ax_Hp), ax_W G p l e s mi args below meth c 6 (d + 1) h0 146 [(0, ax_A x0), (1, ax_I x1), (4, ax_I x4), (5, ax_I x5)] [] h (k146 x0 x1 x4 x5 h)) (x0 : Option Nat) (x1 : Int32) (x5 : Int32) (s0 : Int32) (h : ax_Hp) : ax_W G p l e s mi args below meth c 6 (d + 1) h0 172 [(0, ax_A x0), (1, ax_I x1), (5, ax_I x5)] [ax_I s0] h (Model_mayBegin_jn172 call k146 x0 x1 x5 s0 h) := by
  unfold Model_mayBegin_jn172
  refine ax_istore (tv2 := [(4, ax_I s0), (0, ax_A x0), (1, ax_I x1), (5, ax_I x5)]) B d_Model_mayBegin_172 (by decide) rfl ?_
  refine ax_aload_n B 1 d_Model_mayBegin_174 rfl rfl ?_
  refine ax_getfr B cl_Model (by decide) fk_Model_54 d_Model_mayBegin_175 (fun v12 => ?_)
  refine ax_iload B 3 d_Model_mayBegin_178 rfl ?_
  refine ax_iald (kd := 1) B (by decide) rfl d_Model_mayBegin_180 (fun v13 => ?_)
  refine ax_istore (tv2 := [(5, ax_I v13), (4, ax_I s0), (0, ax_A x0), (1, ax_I x1)]) B d_Model_mayBegin_181 (by decide) rfl ?_
  refine ax_goto B 146 d_Model_mayBegin_183 (by decide) ?_
  refine ax_sub (tv2 := [(0, ax_A x0), (1, ax_I x1), (4, ax_I s0), (5, ax_I v13)]) [2, 3, 1, 0] rfl ?_
  exact hk146 x0 x1 s0 v13 h
def Model_mayBegin_jn171 (call : ax_Cf) (k146 : Option Nat → Int32 → Int32 → Int32 → ax_Hp → ax_O) (x0 : Option Nat) (x1 : Int32) (x5 : Int32) (h : ax_Hp) : ax_O :=
  Model_mayBegin_jn172 call k146 x0 x1 x5 0 h
set_option maxHeartbeats 4000000 in
set_option maxRecDepth 20000 in
theorem Model_mayBegin_jq171 {l : Launch} {G : ax_G} {d : Nat} {call : ax_Cf} (hcall : ax_Hc l G d call) {p : Program} {e : Env} {s : State} {mi : MethodId} {args : Array Value} {below : List Frame} {meth : Method} {c : Code} {h0 : ax_Hp} (B : ax_B G p s mi meth c "SchemaDeskModel" prog_12_method_12_code 6 (some (.boolean))) (E : c.exceptionTable.isEmpty = true) (Nm : meth.name = y_Model_mayBegin.name) (k146 : Option Nat → Int32 → Int32 → Int32 → ax_Hp → ax_O) (hk146 : ∀ (x0 : Option Nat) (x1 : Int32) (x4 : Int32) (x5 : Int32) (h : ax_Hp), ax_W G p l e s mi args below meth c 6 (d + 1) h0 146 [(0, ax_A x0), (1, ax_I x1), (4, ax_I x4), (5, ax_I x5)] [] h (k146 x0 x1 x4 x5 h)) (x0 : Option Nat) (x1 : Int32) (x5 : Int32) (h : ax_Hp) : ax_W G p l e s mi args below meth c 6 (d + 1) h0 171 [(0, ax_A x0), (1, ax_I x1), (5, ax_I x5)] [] h (Model_mayBegin_jn171 call k146 x0 x1 x5 h) := by
  unfold Model_mayBegin_jn171
  refine ax_iconst (v := 0) B d_Model_mayBegin_171 (by decide) ?_
  refine ax_sub (tv2 := [(0, ax_A x0), (1, ax_I x1), (5, ax_I x5)]) [0, 1, 2] rfl ?_
  exact Model_mayBegin_jq172 hcall B E Nm k146 hk146 x0 x1 x5 0 h
def Model_mayBegin_bd146 (call : ax_Cf)  (k146 : Option Nat → Int32 → Int32 → Int32 → ax_Hp → ax_O) (x0 : Option Nat) (x1 : Int32) (x4 : Int32) (x5 : Int32) (h : ax_Hp) : ax_O :=
  if x5 < 0 then
    Model_mayBegin_jn186 call x4 h
  else
    if x4 = 0 then
      Model_mayBegin_jn171 call k146 x0 x1 x5 h
    else
      (ax_gr h x0 9 17).bind fun v14 =>
      (ax_ldi h v14 3 x5).bind fun v15 =>
      if v15 = x1 then
        Model_mayBegin_jn171 call k146 x0 x1 x5 h
      else
        Model_mayBegin_jn172 call k146 x0 x1 x5 1 h
def Model_mayBegin_lp146 (call : ax_Cf)  : Nat → Option Nat → Int32 → Int32 → Int32 → ax_Hp → ax_O
  | 0 => fun _ _ _ _ _ => none
  | n + 1 => Model_mayBegin_bd146 call  (Model_mayBegin_lp146 call  n)
set_option maxHeartbeats 4000000 in
set_option maxRecDepth 20000 in
theorem Model_mayBegin_lb146 {l : Launch} {G : ax_G} {d : Nat} {call : ax_Cf} (hcall : ax_Hc l G d call) {p : Program} {e : Env} {s : State} {mi : MethodId} {args : Array Value} {below : List Frame} {meth : Method} {c : Code} {h0 : ax_Hp} (B : ax_B G p s mi meth c "SchemaDeskModel" prog_12_method_12_code 6 (some (.boolean))) (E : c.exceptionTable.isEmpty = true) (Nm : meth.name = y_Model_mayBegin.name)   {k146 : Option Nat → Int32 → Int32 → Int32 → ax_Hp → ax_O} (hk146 : ∀ (x0 : Option Nat) (x1 : Int32) (x4 : Int32) (x5 : Int32) (h : ax_Hp), ax_W G p l e s mi args below meth c 6 (d + 1) h0 146 [(0, ax_A x0), (1, ax_I x1), (4, ax_I x4), (5, ax_I x5)] [] h (k146 x0 x1 x4 x5 h)) (x0 : Option Nat) (x1 : Int32) (x4 : Int32) (x5 : Int32) (h : ax_Hp) : ax_W G p l e s mi args below meth c 6 (d + 1) h0 146 [(0, ax_A x0), (1, ax_I x1), (4, ax_I x4), (5, ax_I x5)] [] h (Model_mayBegin_bd146 call  k146 x0 x1 x4 x5 h) := by
  unfold Model_mayBegin_bd146
  refine ax_iload B 3 d_Model_mayBegin_146 rfl ?_
  refine ax_if_lt B 186 d_Model_mayBegin_148 (by decide) ?_ ?_
  · refine ax_sub (tv2 := [(4, ax_I x4)]) [2] rfl ?_
    exact Model_mayBegin_jq186 hcall B E Nm x4 h
  · refine ax_iload B 2 d_Model_mayBegin_151 rfl ?_
    refine ax_if_eq B 171 d_Model_mayBegin_153 (by decide) ?_ ?_
    · refine ax_sub (tv2 := [(0, ax_A x0), (1, ax_I x1), (5, ax_I x5)]) [0, 1, 3] rfl ?_
      exact Model_mayBegin_jq171 hcall B E Nm k146 hk146 x0 x1 x5 h
    · refine ax_aload_n B 0 d_Model_mayBegin_156 rfl rfl ?_
      refine ax_getfr B cl_Model (by decide) fk_Model_48 d_Model_mayBegin_157 (fun v14 => ?_)
      refine ax_iload B 3 d_Model_mayBegin_160 rfl ?_
      refine ax_cald (kd := 3) B (by decide) rfl d_Model_mayBegin_162 (fun v15 => ?_)
      refine ax_iload_n B 1 d_Model_mayBegin_163 rfl rfl ?_
      refine ax_icmp_eq B 171 d_Model_mayBegin_164 (by decide) ?_ ?_
      · refine ax_sub (tv2 := [(0, ax_A x0), (1, ax_I x1), (5, ax_I x5)]) [0, 1, 3] rfl ?_
        exact Model_mayBegin_jq171 hcall B E Nm k146 hk146 x0 x1 x5 h
      · refine ax_iconst (v := 1) B d_Model_mayBegin_167 (by decide) ?_
        refine ax_goto B 172 d_Model_mayBegin_168 (by decide) ?_
        refine ax_sub (tv2 := [(0, ax_A x0), (1, ax_I x1), (5, ax_I x5)]) [0, 1, 3] rfl ?_
        exact Model_mayBegin_jq172 hcall B E Nm k146 hk146 x0 x1 x5 1 h
theorem Model_mayBegin_lq146 {l : Launch} {G : ax_G} {d : Nat} {call : ax_Cf} (hcall : ax_Hc l G d call) {p : Program} {e : Env} {s : State} {mi : MethodId} {args : Array Value} {below : List Frame} {meth : Method} {c : Code} {h0 : ax_Hp} (B : ax_B G p s mi meth c "SchemaDeskModel" prog_12_method_12_code 6 (some (.boolean))) (E : c.exceptionTable.isEmpty = true) (Nm : meth.name = y_Model_mayBegin.name)   : ∀ (n : Nat) (x0 : Option Nat) (x1 : Int32) (x4 : Int32) (x5 : Int32) (h : ax_Hp), ax_W G p l e s mi args below meth c 6 (d + 1) h0 146 [(0, ax_A x0), (1, ax_I x1), (4, ax_I x4), (5, ax_I x5)] [] h (Model_mayBegin_lp146 call  n x0 x1 x4 x5 h)
  | 0, _, _, _, _, _ => ax_none
  | n + 1, x0, x1, x4, x5, h => Model_mayBegin_lb146 hcall B E Nm   (Model_mayBegin_lq146 hcall B E Nm   n) x0 x1 x4 x5 h
def Model_mayBegin_jn126 (call : ax_Cf)  (x0 : Option Nat) (x1 : Int32) (s0 : Int32) (h : ax_Hp) : ax_O :=
  (ax_gr h x0 9 18).bind fun v7 =>
  (ax_gr h x0 9 27).bind fun v8 =>
  (ax_gi h x0 9 26).bind fun v9 =>
  (ax_ldi h v8 1 (v9 - 1)).bind fun v10 =>
  (ax_ldi h v7 1 v10).bind fun v11 =>
  Model_mayBegin_lp146 call ax_fuel x0 x1 s0 v11 h
set_option maxHeartbeats 4000000 in
set_option maxRecDepth 20000 in
theorem Model_mayBegin_jq126 {l : Launch} {G : ax_G} {d : Nat} {call : ax_Cf} (hcall : ax_Hc l G d call) {p : Program} {e : Env} {s : State} {mi : MethodId} {args : Array Value} {below : List Frame} {meth : Method} {c : Code} {h0 : ax_Hp} (B : ax_B G p s mi meth c "SchemaDeskModel" prog_12_method_12_code 6 (some (.boolean))) (E : c.exceptionTable.isEmpty = true) (Nm : meth.name = y_Model_mayBegin.name)   (x0 : Option Nat) (x1 : Int32) (s0 : Int32) (h : ax_Hp) : ax_W G p l e s mi args below meth c 6 (d + 1) h0 126 [(0, ax_A x0), (1, ax_I x1)] [ax_I s0] h (Model_mayBegin_jn126 call  x0 x1 s0 h) := by
  unfold Model_mayBegin_jn126
  refine ax_istore (tv2 := [(4, ax_I s0), (0, ax_A x0), (1, ax_I x1)]) B d_Model_mayBegin_126 (by decide) rfl ?_
  refine ax_aload_n B 1 d_Model_mayBegin_128 rfl rfl ?_
  refine ax_getfr B cl_Model (by decide) fk_Model_51 d_Model_mayBegin_129 (fun v7 => ?_)
  refine ax_aload_n B 1 d_Model_mayBegin_132 rfl rfl ?_
  refine ax_getfr B cl_Model (by decide) fk_Model_76 d_Model_mayBegin_133 (fun v8 => ?_)
  refine ax_aload_n B 1 d_Model_mayBegin_136 rfl rfl ?_
  refine ax_getfi B cl_Model (by decide) fk_Model_133 d_Model_mayBegin_137 (fun v9 => ?_)
  refine ax_iconst (v := 1) B d_Model_mayBegin_140 (by decide) ?_
  refine ax_isub B d_Model_mayBegin_141 ?_
  refine ax_iald (kd := 1) B (by decide) rfl d_Model_mayBegin_142 (fun v10 => ?_)
  refine ax_iald (kd := 1) B (by decide) rfl d_Model_mayBegin_143 (fun v11 => ?_)
  refine ax_istore (tv2 := [(5, ax_I v11), (4, ax_I s0), (0, ax_A x0), (1, ax_I x1)]) B d_Model_mayBegin_144 (by decide) rfl ?_
  refine ax_sub (tv2 := [(0, ax_A x0), (1, ax_I x1), (4, ax_I s0), (5, ax_I v11)]) [2, 3, 1, 0] rfl ?_
  exact Model_mayBegin_lq146 hcall B E Nm ax_fuel x0 x1 s0 v11 h
def Model_mayBegin_jn84 (call : ax_Cf)  (x0 : Option Nat) (x1 : Int32) (h : ax_Hp) : ax_O :=
  (ax_gi h x0 9 26).bind fun v1 =>
  if v1 ≤ 0 then
    Model_mayBegin_jn186 call 1 h
  else
    (ax_gr h x0 9 17).bind fun v2 =>
    (ax_gr h x0 9 27).bind fun v3 =>
    (ax_gi h x0 9 26).bind fun v4 =>
    (ax_ldi h v3 1 (v4 - 1)).bind fun v5 =>
    (ax_ldi h v2 3 v5).bind fun v6 =>
    if v6 = 85 then
      if x1 = 85 then
        Model_mayBegin_jn126 call x0 x1 0 h
      else
        Model_mayBegin_jn126 call x0 x1 1 h
    else
      Model_mayBegin_jn186 call 1 h
set_option maxHeartbeats 4000000 in
set_option maxRecDepth 20000 in
theorem Model_mayBegin_jq84 {l : Launch} {G : ax_G} {d : Nat} {call : ax_Cf} (hcall : ax_Hc l G d call) {p : Program} {e : Env} {s : State} {mi : MethodId} {args : Array Value} {below : List Frame} {meth : Method} {c : Code} {h0 : ax_Hp} (B : ax_B G p s mi meth c "SchemaDeskModel" prog_12_method_12_code 6 (some (.boolean))) (E : c.exceptionTable.isEmpty = true) (Nm : meth.name = y_Model_mayBegin.name)   (x0 : Option Nat) (x1 : Int32) (h : ax_Hp) : ax_W G p l e s mi args below meth c 6 (d + 1) h0 84 [(0, ax_A x0), (1, ax_I x1)] [] h (Model_mayBegin_jn84 call  x0 x1 h) := by
  unfold Model_mayBegin_jn84
  refine ax_iconst (v := 1) B d_Model_mayBegin_84 (by decide) ?_
  refine ax_istore (tv2 := [(4, ax_I 1), (0, ax_A x0), (1, ax_I x1)]) B d_Model_mayBegin_85 (by decide) rfl ?_
  refine ax_aload_n B 1 d_Model_mayBegin_87 rfl rfl ?_
  refine ax_getfi B cl_Model (by decide) fk_Model_133 d_Model_mayBegin_88 (fun v1 => ?_)
  refine ax_if_le B 186 d_Model_mayBegin_91 (by decide) ?_ ?_
  · refine ax_sub (tv2 := [(4, ax_I 1)]) [0] rfl ?_
    exact Model_mayBegin_jq186 hcall B E Nm 1 h
  · refine ax_aload_n B 1 d_Model_mayBegin_94 rfl rfl ?_
    refine ax_getfr B cl_Model (by decide) fk_Model_48 d_Model_mayBegin_95 (fun v2 => ?_)
    refine ax_aload_n B 1 d_Model_mayBegin_98 rfl rfl ?_
    refine ax_getfr B cl_Model (by decide) fk_Model_76 d_Model_mayBegin_99 (fun v3 => ?_)
    refine ax_aload_n B 1 d_Model_mayBegin_102 rfl rfl ?_
    refine ax_getfi B cl_Model (by decide) fk_Model_133 d_Model_mayBegin_103 (fun v4 => ?_)
    refine ax_iconst (v := 1) B d_Model_mayBegin_106 (by decide) ?_
    refine ax_isub B d_Model_mayBegin_107 ?_
    refine ax_iald (kd := 1) B (by decide) rfl d_Model_mayBegin_108 (fun v5 => ?_)
    refine ax_cald (kd := 3) B (by decide) rfl d_Model_mayBegin_109 (fun v6 => ?_)
    refine ax_bipush (v := 85) B d_Model_mayBegin_110 (by decide) ?_
    refine ax_icmp_ne B 186 d_Model_mayBegin_112 (by decide) ?_ ?_
    · refine ax_sub (tv2 := [(4, ax_I 1)]) [0] rfl ?_
      exact Model_mayBegin_jq186 hcall B E Nm 1 h
    · refine ax_iload_n B 2 d_Model_mayBegin_115 rfl rfl ?_
      refine ax_bipush (v := 85) B d_Model_mayBegin_116 (by decide) ?_
      refine ax_icmp_eq B 125 d_Model_mayBegin_118 (by decide) ?_ ?_
      · refine ax_iconst (v := 0) B d_Model_mayBegin_125 (by decide) ?_
        refine ax_sub (tv2 := [(0, ax_A x0), (1, ax_I x1)]) [1, 2] rfl ?_
        exact Model_mayBegin_jq126 hcall B E Nm x0 x1 0 h
      · refine ax_iconst (v := 1) B d_Model_mayBegin_121 (by decide) ?_
        refine ax_goto B 126 d_Model_mayBegin_122 (by decide) ?_
        refine ax_sub (tv2 := [(0, ax_A x0), (1, ax_I x1)]) [1, 2] rfl ?_
        exact Model_mayBegin_jq126 hcall B E Nm x0 x1 1 h
def Model_mayBegin_jn65 (call : ax_Cf)  (x0 : Option Nat) (x1 : Int32) (x2 : Int32) (s0 : Int32) (h : ax_Hp) : ax_O :=
  if x2 = 0 then
    if s0 = 0 then
      ax_rz 0 h
    else
      (ax_gi h x0 9 26).bind fun v16 =>
      if v16 ≤ 5 then
        Model_mayBegin_jn84 call x0 x1 h
      else
        ax_rz 0 h
  else
    Model_mayBegin_jn84 call x0 x1 h
set_option maxHeartbeats 4000000 in
set_option maxRecDepth 20000 in
theorem Model_mayBegin_jq65 {l : Launch} {G : ax_G} {d : Nat} {call : ax_Cf} (hcall : ax_Hc l G d call) {p : Program} {e : Env} {s : State} {mi : MethodId} {args : Array Value} {below : List Frame} {meth : Method} {c : Code} {h0 : ax_Hp} (B : ax_B G p s mi meth c "SchemaDeskModel" prog_12_method_12_code 6 (some (.boolean))) (E : c.exceptionTable.isEmpty = true) (Nm : meth.name = y_Model_mayBegin.name)   (x0 : Option Nat) (x1 : Int32) (x2 : Int32) (s0 : Int32) (h : ax_Hp) : ax_W G p l e s mi args below meth c 6 (d + 1) h0 65 [(0, ax_A x0), (1, ax_I x1), (2, ax_I x2)] [ax_I s0] h (Model_mayBegin_jn65 call  x0 x1 x2 s0 h) := by
  unfold Model_mayBegin_jn65
  refine ax_istore_n (tv2 := [(3, ax_I s0), (0, ax_A x0), (1, ax_I x1), (2, ax_I x2)]) B d_Model_mayBegin_65 rfl (by decide) rfl ?_
  refine ax_iload_n B 3 d_Model_mayBegin_66 rfl rfl ?_
  refine ax_if_ne B 84 d_Model_mayBegin_67 (by decide) ?_ ?_
  · refine ax_sub (tv2 := [(0, ax_A x0), (1, ax_I x1)]) [1, 2] rfl ?_
    exact Model_mayBegin_jq84 hcall B E Nm x0 x1 h
  · refine ax_iload_n B 0 d_Model_mayBegin_70 rfl rfl ?_
    refine ax_if_eq B 82 d_Model_mayBegin_71 (by decide) ?_ ?_
    · refine ax_iconst (v := 0) B d_Model_mayBegin_82 (by decide) ?_
      exact ax_zreturn B d_Model_mayBegin_83
    · refine ax_aload_n B 1 d_Model_mayBegin_74 rfl rfl ?_
      refine ax_getfi B cl_Model (by decide) fk_Model_133 d_Model_mayBegin_75 (fun v16 => ?_)
      refine ax_iconst (v := 5) B d_Model_mayBegin_78 (by decide) ?_
      refine ax_icmp_le B 84 d_Model_mayBegin_79 (by decide) ?_ ?_
      · refine ax_sub (tv2 := [(0, ax_A x0), (1, ax_I x1)]) [1, 2] rfl ?_
        exact Model_mayBegin_jq84 hcall B E Nm x0 x1 h
      · refine ax_iconst (v := 0) B d_Model_mayBegin_82 (by decide) ?_
        exact ax_zreturn B d_Model_mayBegin_83
def Model_mayBegin_jn60 (call : ax_Cf)  (x0 : Option Nat) (x1 : Int32) (x2 : Int32) (h : ax_Hp) : ax_O :=
  Model_mayBegin_jn65 call x0 x1 x2 1 h
set_option maxHeartbeats 4000000 in
set_option maxRecDepth 20000 in
theorem Model_mayBegin_jq60 {l : Launch} {G : ax_G} {d : Nat} {call : ax_Cf} (hcall : ax_Hc l G d call) {p : Program} {e : Env} {s : State} {mi : MethodId} {args : Array Value} {below : List Frame} {meth : Method} {c : Code} {h0 : ax_Hp} (B : ax_B G p s mi meth c "SchemaDeskModel" prog_12_method_12_code 6 (some (.boolean))) (E : c.exceptionTable.isEmpty = true) (Nm : meth.name = y_Model_mayBegin.name)   (x0 : Option Nat) (x1 : Int32) (x2 : Int32) (h : ax_Hp) : ax_W G p l e s mi args below meth c 6 (d + 1) h0 60 [(0, ax_A x0), (1, ax_I x1), (2, ax_I x2)] [] h (Model_mayBegin_jn60 call  x0 x1 x2 h) := by
  unfold Model_mayBegin_jn60
  refine ax_iconst (v := 1) B d_Model_mayBegin_60 (by decide) ?_
  refine ax_goto B 65 d_Model_mayBegin_61 (by decide) ?_
  refine ax_sub (tv2 := [(0, ax_A x0), (1, ax_I x1), (2, ax_I x2)]) [0, 1, 2] rfl ?_
  exact Model_mayBegin_jq65 hcall B E Nm x0 x1 x2 1 h
def Model_mayBegin_jn41 (call : ax_Cf)  (x0 : Option Nat) (x1 : Int32) (s0 : Int32) (h : ax_Hp) : ax_O :=
  if x1 = 65 then
    Model_mayBegin_jn60 call x0 x1 s0 h
  else
    if x1 = 85 then
      Model_mayBegin_jn60 call x0 x1 s0 h
    else
      if x1 = 82 then
        Model_mayBegin_jn60 call x0 x1 s0 h
      else
        Model_mayBegin_jn65 call x0 x1 s0 0 h
set_option maxHeartbeats 4000000 in
set_option maxRecDepth 20000 in
theorem Model_mayBegin_jq41 {l : Launch} {G : ax_G} {d : Nat} {call : ax_Cf} (hcall : ax_Hc l G d call) {p : Program} {e : Env} {s : State} {mi : MethodId} {args : Array Value} {below : List Frame} {meth : Method} {c : Code} {h0 : ax_Hp} (B : ax_B G p s mi meth c "SchemaDeskModel" prog_12_method_12_code 6 (some (.boolean))) (E : c.exceptionTable.isEmpty = true) (Nm : meth.name = y_Model_mayBegin.name)   (x0 : Option Nat) (x1 : Int32) (s0 : Int32) (h : ax_Hp) : ax_W G p l e s mi args below meth c 6 (d + 1) h0 41 [(0, ax_A x0), (1, ax_I x1)] [ax_I s0] h (Model_mayBegin_jn41 call  x0 x1 s0 h) := by
  unfold Model_mayBegin_jn41
  refine ax_istore_n (tv2 := [(2, ax_I s0), (0, ax_A x0), (1, ax_I x1)]) B d_Model_mayBegin_41 rfl (by decide) rfl ?_
  refine ax_iload_n B 2 d_Model_mayBegin_42 rfl rfl ?_
  refine ax_bipush (v := 65) B d_Model_mayBegin_43 (by decide) ?_
  refine ax_icmp_eq B 60 d_Model_mayBegin_45 (by decide) ?_ ?_
  · refine ax_sub (tv2 := [(0, ax_A x0), (1, ax_I x1), (2, ax_I s0)]) [1, 2, 0] rfl ?_
    exact Model_mayBegin_jq60 hcall B E Nm x0 x1 s0 h
  · refine ax_iload_n B 2 d_Model_mayBegin_48 rfl rfl ?_
    refine ax_bipush (v := 85) B d_Model_mayBegin_49 (by decide) ?_
    refine ax_icmp_eq B 60 d_Model_mayBegin_51 (by decide) ?_ ?_
    · refine ax_sub (tv2 := [(0, ax_A x0), (1, ax_I x1), (2, ax_I s0)]) [1, 2, 0] rfl ?_
      exact Model_mayBegin_jq60 hcall B E Nm x0 x1 s0 h
    · refine ax_iload_n B 2 d_Model_mayBegin_54 rfl rfl ?_
      refine ax_bipush (v := 82) B d_Model_mayBegin_55 (by decide) ?_
      refine ax_icmp_ne B 64 d_Model_mayBegin_57 (by decide) ?_ ?_
      · refine ax_iconst (v := 0) B d_Model_mayBegin_64 (by decide) ?_
        refine ax_sub (tv2 := [(0, ax_A x0), (1, ax_I x1), (2, ax_I s0)]) [1, 2, 0] rfl ?_
        exact Model_mayBegin_jq65 hcall B E Nm x0 x1 s0 0 h
      · refine ax_sub (tv2 := [(0, ax_A x0), (1, ax_I x1), (2, ax_I s0)]) [1, 2, 0] rfl ?_
        exact Model_mayBegin_jq60 hcall B E Nm x0 x1 s0 h
def Model_mayBegin_jn36 (call : ax_Cf)  (x0 : Option Nat) (x1 : Int32) (h : ax_Hp) : ax_O :=
  Model_mayBegin_jn41 call x0 x1 1 h
set_option maxHeartbeats 4000000 in
set_option maxRecDepth 20000 in
theorem Model_mayBegin_jq36 {l : Launch} {G : ax_G} {d : Nat} {call : ax_Cf} (hcall : ax_Hc l G d call) {p : Program} {e : Env} {s : State} {mi : MethodId} {args : Array Value} {below : List Frame} {meth : Method} {c : Code} {h0 : ax_Hp} (B : ax_B G p s mi meth c "SchemaDeskModel" prog_12_method_12_code 6 (some (.boolean))) (E : c.exceptionTable.isEmpty = true) (Nm : meth.name = y_Model_mayBegin.name)   (x0 : Option Nat) (x1 : Int32) (h : ax_Hp) : ax_W G p l e s mi args below meth c 6 (d + 1) h0 36 [(0, ax_A x0), (1, ax_I x1)] [] h (Model_mayBegin_jn36 call  x0 x1 h) := by
  unfold Model_mayBegin_jn36
  refine ax_iconst (v := 1) B d_Model_mayBegin_36 (by decide) ?_
  refine ax_goto B 41 d_Model_mayBegin_37 (by decide) ?_
  refine ax_sub (tv2 := [(0, ax_A x0), (1, ax_I x1)]) [0, 1] rfl ?_
  exact Model_mayBegin_jq41 hcall B E Nm x0 x1 1 h
def Model_mayBegin_b (call : ax_Cf) (x0 : Option Nat) (x1 : Int32) (h : ax_Hp) : ax_O :=
  if x1 = 78 then
    Model_mayBegin_jn36 call x0 x1 h
  else
    if x1 = 66 then
      Model_mayBegin_jn36 call x0 x1 h
    else
      if x1 = 73 then
        Model_mayBegin_jn36 call x0 x1 h
      else
        if x1 = 76 then
          Model_mayBegin_jn36 call x0 x1 h
        else
          if x1 = 83 then
            Model_mayBegin_jn36 call x0 x1 h
          else
            if x1 = 69 then
              Model_mayBegin_jn36 call x0 x1 h
            else
              Model_mayBegin_jn41 call x0 x1 0 h
set_option maxHeartbeats 4000000 in
set_option maxRecDepth 20000 in
theorem Model_mayBegin_t {l : Launch} {G : ax_G} {d : Nat} {call : ax_Cf} (hcall : ax_Hc l G d call) (x0 : Option Nat) (x1 : Int32) (h : ax_Hp) {r : ax_Rs} {h' : ax_Hp} (ho : Model_mayBegin_b call x0 x1 h = some (r, h')) : ax_C l G (d + 1) y_Model_mayBegin (.code y_Model_mayBegin prog_12_method_12_code 6 (some (.boolean))) [ax_A x0, ax_I x1] h r h' := by
  refine ax_enter (by decide) (Nat.le_of_ble_eq_true rfl) ho (fun p e s mi args below meth c B E Nm => ?_)
  have B : ax_B G p s mi meth c "SchemaDeskModel" prog_12_method_12_code 6 (some (.boolean)) := B
  show ax_W G p l e s mi args below meth c 6 (d + 1) h 0 [(0, ax_A x0), (1, ax_I x1)] [] h (Model_mayBegin_b call x0 x1 h)
  unfold Model_mayBegin_b
  refine ax_iload_n B 1 d_Model_mayBegin_0 rfl rfl ?_
  refine ax_bipush (v := 78) B d_Model_mayBegin_1 (by decide) ?_
  refine ax_icmp_eq B 36 d_Model_mayBegin_3 (by decide) ?_ ?_
  · refine ax_sub (tv2 := [(0, ax_A x0), (1, ax_I x1)]) [0, 1] rfl ?_
    exact Model_mayBegin_jq36 hcall B E Nm x0 x1 h
  · refine ax_iload_n B 1 d_Model_mayBegin_6 rfl rfl ?_
    refine ax_bipush (v := 66) B d_Model_mayBegin_7 (by decide) ?_
    refine ax_icmp_eq B 36 d_Model_mayBegin_9 (by decide) ?_ ?_
    · refine ax_sub (tv2 := [(0, ax_A x0), (1, ax_I x1)]) [0, 1] rfl ?_
      exact Model_mayBegin_jq36 hcall B E Nm x0 x1 h
    · refine ax_iload_n B 1 d_Model_mayBegin_12 rfl rfl ?_
      refine ax_bipush (v := 73) B d_Model_mayBegin_13 (by decide) ?_
      refine ax_icmp_eq B 36 d_Model_mayBegin_15 (by decide) ?_ ?_
      · refine ax_sub (tv2 := [(0, ax_A x0), (1, ax_I x1)]) [0, 1] rfl ?_
        exact Model_mayBegin_jq36 hcall B E Nm x0 x1 h
      · refine ax_iload_n B 1 d_Model_mayBegin_18 rfl rfl ?_
        refine ax_bipush (v := 76) B d_Model_mayBegin_19 (by decide) ?_
        refine ax_icmp_eq B 36 d_Model_mayBegin_21 (by decide) ?_ ?_
        · refine ax_sub (tv2 := [(0, ax_A x0), (1, ax_I x1)]) [0, 1] rfl ?_
          exact Model_mayBegin_jq36 hcall B E Nm x0 x1 h
        · refine ax_iload_n B 1 d_Model_mayBegin_24 rfl rfl ?_
          refine ax_bipush (v := 83) B d_Model_mayBegin_25 (by decide) ?_
          refine ax_icmp_eq B 36 d_Model_mayBegin_27 (by decide) ?_ ?_
          · refine ax_sub (tv2 := [(0, ax_A x0), (1, ax_I x1)]) [0, 1] rfl ?_
            exact Model_mayBegin_jq36 hcall B E Nm x0 x1 h
          · refine ax_iload_n B 1 d_Model_mayBegin_30 rfl rfl ?_
            refine ax_bipush (v := 69) B d_Model_mayBegin_31 (by decide) ?_
            refine ax_icmp_ne B 40 d_Model_mayBegin_33 (by decide) ?_ ?_
            · refine ax_iconst (v := 0) B d_Model_mayBegin_40 (by decide) ?_
              refine ax_sub (tv2 := [(0, ax_A x0), (1, ax_I x1)]) [0, 1] rfl ?_
              exact Model_mayBegin_jq41 hcall B E Nm x0 x1 0 h
            · refine ax_sub (tv2 := [(0, ax_A x0), (1, ax_I x1)]) [0, 1] rfl ?_
              exact Model_mayBegin_jq36 hcall B E Nm x0 x1 h
