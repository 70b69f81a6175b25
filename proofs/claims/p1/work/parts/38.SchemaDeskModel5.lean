theorem d_Model_scan_0 : decode prog_12_method_40_code 0 = .ok (.aload_n 0, 1) := by decide +kernel
theorem d_Model_scan_1 : decode prog_12_method_40_code 1 = .ok (.iconst 0, 1) := by decide +kernel
theorem d_Model_scan_2 : decode prog_12_method_40_code 2 = .ok (.putfield 241, 3) := by decide +kernel
theorem d_Model_scan_5 : decode prog_12_method_40_code 5 = .ok (.aload_n 0, 1) := by decide +kernel
theorem d_Model_scan_6 : decode prog_12_method_40_code 6 = .ok (.iconst 2, 1) := by decide +kernel
theorem d_Model_scan_7 : decode prog_12_method_40_code 7 = .ok (.putfield 155, 3) := by decide +kernel
theorem d_Model_scan_10 : decode prog_12_method_40_code 10 = .ok (.aload_n 0, 1) := by decide +kernel
theorem d_Model_scan_11 : decode prog_12_method_40_code 11 = .ok (.iload_n 1, 1) := by decide +kernel
theorem d_Model_scan_12 : decode prog_12_method_40_code 12 = .ok (.iload_n 2, 1) := by decide +kernel
theorem d_Model_scan_13 : decode prog_12_method_40_code 13 = .ok (.invokevirtual 274, 3) := by decide +kernel
theorem d_Model_scan_16 : decode prog_12_method_40_code 16 = .ok (.istore_n 3, 1) := by decide +kernel
theorem d_Model_scan_17 : decode prog_12_method_40_code 17 = .ok (.iload_n 3, 1) := by decide +kernel
theorem d_Model_scan_18 : decode prog_12_method_40_code 18 = .ok (.ifCond .lt 200, 3) := by decide +kernel
theorem d_Model_scan_21 : decode prog_12_method_40_code 21 = .ok (.aload_n 0, 1) := by decide +kernel
theorem d_Model_scan_22 : decode prog_12_method_40_code 22 = .ok (.getfield 155, 3) := by decide +kernel
theorem d_Model_scan_25 : decode prog_12_method_40_code 25 = .ok (.iconst 1, 1) := by decide +kernel
theorem d_Model_scan_26 : decode prog_12_method_40_code 26 = .ok (.if_icmp .gt 10, 3) := by decide +kernel
theorem d_Model_scan_29 : decode prog_12_method_40_code 29 = .ok (.aload_n 0, 1) := by decide +kernel
theorem d_Model_scan_30 : decode prog_12_method_40_code 30 = .ok (.getfield 241, 3) := by decide +kernel
theorem d_Model_scan_33 : decode prog_12_method_40_code 33 = .ok (.ifCond .le 185, 3) := by decide +kernel
theorem d_Model_scan_36 : decode prog_12_method_40_code 36 = .ok (.aload_n 0, 1) := by decide +kernel
theorem d_Model_scan_37 : decode prog_12_method_40_code 37 = .ok (.getfield 155, 3) := by decide +kernel
theorem d_Model_scan_40 : decode prog_12_method_40_code 40 = .ok (.iconst 3, 1) := by decide +kernel
theorem d_Model_scan_41 : decode prog_12_method_40_code 41 = .ok (.if_icmp .ne 12, 3) := by decide +kernel
theorem d_Model_scan_44 : decode prog_12_method_40_code 44 = .ok (.aload_n 0, 1) := by decide +kernel
theorem d_Model_scan_45 : decode prog_12_method_40_code 45 = .ok (.iload_n 3, 1) := by decide +kernel
theorem d_Model_scan_46 : decode prog_12_method_40_code 46 = .ok (.invokevirtual 277, 3) := by decide +kernel
theorem d_Model_scan_49 : decode prog_12_method_40_code 49 = .ok (.istore_n 3, 1) := by decide +kernel
theorem d_Model_scan_50 : decode prog_12_method_40_code 50 = .ok (.goto (-33), 3) := by decide +kernel
theorem d_Model_scan_53 : decode prog_12_method_40_code 53 = .ok (.aload_n 0, 1) := by decide +kernel
theorem d_Model_scan_54 : decode prog_12_method_40_code 54 = .ok (.getfield 155, 3) := by decide +kernel
theorem d_Model_scan_57 : decode prog_12_method_40_code 57 = .ok (.iconst 2, 1) := by decide +kernel
theorem d_Model_scan_58 : decode prog_12_method_40_code 58 = .ok (.if_icmp .ne 23, 3) := by decide +kernel
theorem d_Model_scan_61 : decode prog_12_method_40_code 61 = .ok (.aload_n 0, 1) := by decide +kernel
theorem d_Model_scan_62 : decode prog_12_method_40_code 62 = .ok (.aload_n 0, 1) := by decide +kernel
theorem d_Model_scan_63 : decode prog_12_method_40_code 63 = .ok (.getfield 85, 3) := by decide +kernel
theorem d_Model_scan_66 : decode prog_12_method_40_code 66 = .ok (.aload_n 0, 1) := by decide +kernel
theorem d_Model_scan_67 : decode prog_12_method_40_code 67 = .ok (.getfield 241, 3) := by decide +kernel
theorem d_Model_scan_70 : decode prog_12_method_40_code 70 = .ok (.iconst 1, 1) := by decide +kernel
theorem d_Model_scan_71 : decode prog_12_method_40_code 71 = .ok (.isub, 1) := by decide +kernel
theorem d_Model_scan_72 : decode prog_12_method_40_code 72 = .ok (.iaload, 1) := by decide +kernel
theorem d_Model_scan_73 : decode prog_12_method_40_code 73 = .ok (.iload_n 3, 1) := by decide +kernel
theorem d_Model_scan_74 : decode prog_12_method_40_code 74 = .ok (.invokevirtual 274, 3) := by decide +kernel
theorem d_Model_scan_77 : decode prog_12_method_40_code 77 = .ok (.istore_n 3, 1) := by decide +kernel
theorem d_Model_scan_78 : decode prog_12_method_40_code 78 = .ok (.goto (-61), 3) := by decide +kernel
theorem d_Model_scan_81 : decode prog_12_method_40_code 81 = .ok (.aload_n 0, 1) := by decide +kernel
theorem d_Model_scan_82 : decode prog_12_method_40_code 82 = .ok (.getfield 48, 3) := by decide +kernel
theorem d_Model_scan_85 : decode prog_12_method_40_code 85 = .ok (.aload_n 0, 1) := by decide +kernel
theorem d_Model_scan_86 : decode prog_12_method_40_code 86 = .ok (.getfield 82, 3) := by decide +kernel
theorem d_Model_scan_89 : decode prog_12_method_40_code 89 = .ok (.aload_n 0, 1) := by decide +kernel
theorem d_Model_scan_90 : decode prog_12_method_40_code 90 = .ok (.getfield 241, 3) := by decide +kernel
theorem d_Model_scan_93 : decode prog_12_method_40_code 93 = .ok (.iconst 1, 1) := by decide +kernel
theorem d_Model_scan_94 : decode prog_12_method_40_code 94 = .ok (.isub, 1) := by decide +kernel
theorem d_Model_scan_95 : decode prog_12_method_40_code 95 = .ok (.iaload, 1) := by decide +kernel
theorem d_Model_scan_96 : decode prog_12_method_40_code 96 = .ok (.caload, 1) := by decide +kernel
theorem d_Model_scan_97 : decode prog_12_method_40_code 97 = .ok (.bipush 65, 2) := by decide +kernel
theorem d_Model_scan_99 : decode prog_12_method_40_code 99 = .ok (.if_icmp .ne 44, 3) := by decide +kernel
theorem d_Model_scan_102 : decode prog_12_method_40_code 102 = .ok (.aload_n 0, 1) := by decide +kernel
theorem d_Model_scan_103 : decode prog_12_method_40_code 103 = .ok (.getfield 88, 3) := by decide +kernel
theorem d_Model_scan_106 : decode prog_12_method_40_code 106 = .ok (.aload_n 0, 1) := by decide +kernel
theorem d_Model_scan_107 : decode prog_12_method_40_code 107 = .ok (.getfield 241, 3) := by decide +kernel
theorem d_Model_scan_110 : decode prog_12_method_40_code 110 = .ok (.iconst 1, 1) := by decide +kernel
theorem d_Model_scan_111 : decode prog_12_method_40_code 111 = .ok (.isub, 1) := by decide +kernel
theorem d_Model_scan_112 : decode prog_12_method_40_code 112 = .ok (.dup2, 1) := by decide +kernel
theorem d_Model_scan_113 : decode prog_12_method_40_code 113 = .ok (.iaload, 1) := by decide +kernel
theorem d_Model_scan_114 : decode prog_12_method_40_code 114 = .ok (.iconst 1, 1) := by decide +kernel
theorem d_Model_scan_115 : decode prog_12_method_40_code 115 = .ok (.isub, 1) := by decide +kernel
theorem d_Model_scan_116 : decode prog_12_method_40_code 116 = .ok (.iastore, 1) := by decide +kernel
theorem d_Model_scan_117 : decode prog_12_method_40_code 117 = .ok (.aload_n 0, 1) := by decide +kernel
theorem d_Model_scan_118 : decode prog_12_method_40_code 118 = .ok (.aload_n 0, 1) := by decide +kernel
theorem d_Model_scan_119 : decode prog_12_method_40_code 119 = .ok (.getfield 88, 3) := by decide +kernel
theorem d_Model_scan_122 : decode prog_12_method_40_code 122 = .ok (.aload_n 0, 1) := by decide +kernel
theorem d_Model_scan_123 : decode prog_12_method_40_code 123 = .ok (.getfield 241, 3) := by decide +kernel
theorem d_Model_scan_126 : decode prog_12_method_40_code 126 = .ok (.iconst 1, 1) := by decide +kernel
theorem d_Model_scan_127 : decode prog_12_method_40_code 127 = .ok (.isub, 1) := by decide +kernel
theorem d_Model_scan_128 : decode prog_12_method_40_code 128 = .ok (.iaload, 1) := by decide +kernel
theorem d_Model_scan_129 : decode prog_12_method_40_code 129 = .ok (.ifCond .ne 7, 3) := by decide +kernel
theorem d_Model_scan_132 : decode prog_12_method_40_code 132 = .ok (.iconst 3, 1) := by decide +kernel
theorem d_Model_scan_133 : decode prog_12_method_40_code 133 = .ok (.goto 4, 3) := by decide +kernel
theorem d_Model_scan_136 : decode prog_12_method_40_code 136 = .ok (.iconst 2, 1) := by decide +kernel
theorem d_Model_scan_137 : decode prog_12_method_40_code 137 = .ok (.putfield 155, 3) := by decide +kernel
theorem d_Model_scan_140 : decode prog_12_method_40_code 140 = .ok (.goto (-123), 3) := by decide +kernel
theorem d_Model_scan_143 : decode prog_12_method_40_code 143 = .ok (.aload_n 0, 1) := by decide +kernel
theorem d_Model_scan_144 : decode prog_12_method_40_code 144 = .ok (.getfield 85, 3) := by decide +kernel
theorem d_Model_scan_147 : decode prog_12_method_40_code 147 = .ok (.aload_n 0, 1) := by decide +kernel
theorem d_Model_scan_148 : decode prog_12_method_40_code 148 = .ok (.getfield 241, 3) := by decide +kernel
theorem d_Model_scan_151 : decode prog_12_method_40_code 151 = .ok (.iconst 1, 1) := by decide +kernel
theorem d_Model_scan_152 : decode prog_12_method_40_code 152 = .ok (.isub, 1) := by decide +kernel
theorem d_Model_scan_153 : decode prog_12_method_40_code 153 = .ok (.aload_n 0, 1) := by decide +kernel
theorem d_Model_scan_154 : decode prog_12_method_40_code 154 = .ok (.getfield 54, 3) := by decide +kernel
theorem d_Model_scan_157 : decode prog_12_method_40_code 157 = .ok (.aload_n 0, 1) := by decide +kernel
theorem d_Model_scan_158 : decode prog_12_method_40_code 158 = .ok (.getfield 85, 3) := by decide +kernel
theorem d_Model_scan_161 : decode prog_12_method_40_code 161 = .ok (.aload_n 0, 1) := by decide +kernel
theorem d_Model_scan_162 : decode prog_12_method_40_code 162 = .ok (.getfield 241, 3) := by decide +kernel
theorem d_Model_scan_165 : decode prog_12_method_40_code 165 = .ok (.iconst 1, 1) := by decide +kernel
theorem d_Model_scan_166 : decode prog_12_method_40_code 166 = .ok (.isub, 1) := by decide +kernel
theorem d_Model_scan_167 : decode prog_12_method_40_code 167 = .ok (.iaload, 1) := by decide +kernel
theorem d_Model_scan_168 : decode prog_12_method_40_code 168 = .ok (.iaload, 1) := by decide +kernel
theorem d_Model_scan_169 : decode prog_12_method_40_code 169 = .ok (.iastore, 1) := by decide +kernel
theorem d_Model_scan_170 : decode prog_12_method_40_code 170 = .ok (.aload_n 0, 1) := by decide +kernel
theorem d_Model_scan_171 : decode prog_12_method_40_code 171 = .ok (.aload_n 0, 1) := by decide +kernel
theorem d_Model_scan_172 : decode prog_12_method_40_code 172 = .ok (.getfield 85, 3) := by decide +kernel
theorem d_Model_scan_175 : decode prog_12_method_40_code 175 = .ok (.aload_n 0, 1) := by decide +kernel
theorem d_Model_scan_176 : decode prog_12_method_40_code 176 = .ok (.getfield 241, 3) := by decide +kernel
theorem d_Model_scan_179 : decode prog_12_method_40_code 179 = .ok (.iconst 1, 1) := by decide +kernel
theorem d_Model_scan_180 : decode prog_12_method_40_code 180 = .ok (.isub, 1) := by decide +kernel
theorem d_Model_scan_181 : decode prog_12_method_40_code 181 = .ok (.iaload, 1) := by decide +kernel
theorem d_Model_scan_182 : decode prog_12_method_40_code 182 = .ok (.ifCond .ge 7, 3) := by decide +kernel
theorem d_Model_scan_185 : decode prog_12_method_40_code 185 = .ok (.iconst 1, 1) := by decide +kernel
theorem d_Model_scan_186 : decode prog_12_method_40_code 186 = .ok (.goto 4, 3) := by decide +kernel
theorem d_Model_scan_189 : decode prog_12_method_40_code 189 = .ok (.iconst 2, 1) := by decide +kernel
theorem d_Model_scan_190 : decode prog_12_method_40_code 190 = .ok (.putfield 155, 3) := by decide +kernel
theorem d_Model_scan_193 : decode prog_12_method_40_code 193 = .ok (.aload_n 0, 1) := by decide +kernel
theorem d_Model_scan_194 : decode prog_12_method_40_code 194 = .ok (.dup, 1) := by decide +kernel
theorem d_Model_scan_195 : decode prog_12_method_40_code 195 = .ok (.getfield 241, 3) := by decide +kernel
theorem d_Model_scan_198 : decode prog_12_method_40_code 198 = .ok (.aload_n 0, 1) := by decide +kernel
theorem d_Model_scan_199 : decode prog_12_method_40_code 199 = .ok (.getfield 155, 3) := by decide +kernel
theorem d_Model_scan_202 : decode prog_12_method_40_code 202 = .ok (.iconst 1, 1) := by decide +kernel
theorem d_Model_scan_203 : decode prog_12_method_40_code 203 = .ok (.if_icmp .ne 7, 3) := by decide +kernel
theorem d_Model_scan_206 : decode prog_12_method_40_code 206 = .ok (.iconst 1, 1) := by decide +kernel
theorem d_Model_scan_207 : decode prog_12_method_40_code 207 = .ok (.goto 4, 3) := by decide +kernel
theorem d_Model_scan_210 : decode prog_12_method_40_code 210 = .ok (.iconst 0, 1) := by decide +kernel
theorem d_Model_scan_211 : decode prog_12_method_40_code 211 = .ok (.isub, 1) := by decide +kernel
theorem d_Model_scan_212 : decode prog_12_method_40_code 212 = .ok (.putfield 241, 3) := by decide +kernel
theorem d_Model_scan_215 : decode prog_12_method_40_code 215 = .ok (.goto (-198), 3) := by decide +kernel
theorem d_Model_scan_218 : decode prog_12_method_40_code 218 = .ok (.iload_n 3, 1) := by decide +kernel
theorem d_Model_scan_219 : decode prog_12_method_40_code 219 = .ok (.ireturn, 1) := by decide +kernel
def Model_scan_jn218 (call : ax_Cf)  (x3 : Int32) (h : ax_Hp) : ax_O :=
  ax_ri x3 h
set_option maxHeartbeats 4000000 in
set_option maxRecDepth 20000 in
theorem Model_scan_jq218 {l : Launch} {G : ax_G} {d : Nat} {call : ax_Cf} (hcall : ax_Hc l G d call) {p : Program} {e : Env} {s : State} {mi : MethodId} {args : Array Value} {below : List Frame} {meth : Method} {c : Code} {h0 : ax_Hp} (B : ax_B G p s mi meth c "SchemaDeskModel" prog_12_method_40_code 4 (some (.int))) (E : c.exceptionTable.isEmpty = true) (Nm : meth.name = y_Model_scan.name)   (x3 : Int32) (h : ax_Hp) : ax_W G p l e s mi args below meth c 4 (d + 1) h0 218 [(3, ax_I x3)] [] h (Model_scan_jn218 call  x3 h) := by
  unfold Model_scan_jn218
  refine ax_iload_n B 0 d_Model_scan_218 rfl rfl ?_
  exact ax_ireturn B d_Model_scan_219
def Model_scan_jn211 (call : ax_Cf) (k17 : Option Nat → Int32 → ax_Hp → ax_O) (x0 : Option Nat) (x3 : Int32) (s0 : Int32) (s1 : Int32) (s2 : Option Nat) (h : ax_Hp) : ax_O :=
  (ax_pf h s2 9 31 (ax_I (s1 - s0))).bind fun h27 =>
  k17 x0 x3 h27
set_option maxHeartbeats 4000000 in
set_option maxRecDepth 20000 in
theorem Model_scan_jq211 {l : Launch} {G : ax_G} {d : Nat} {call : ax_Cf} (hcall : ax_Hc l G d call) {p : Program} {e : Env} {s : State} {mi : MethodId} {args : Array Value} {below : List Frame} {meth : Method} {c : Code} {h0 : ax_Hp} (B : ax_B G p s mi meth c "SchemaDeskModel" prog_12_method_40_code 4 (some (.int))) (E : c.exceptionTable.isEmpty = true) (Nm : meth.name = y_Model_scan.name) (k17 : Option Nat → Int32 → ax_Hp → ax_O) (hk17 : ∀ (x0 : Option Nat) (x3 : Int32) (h : ax_Hp), ax_W G p l e s mi args below meth c 4 (d + 1) h0 17 [(0, ax_A x0), (3, ax_I x3)] [] h (k17 x0 x3 h)) (x0 : Option Nat) (x3 : Int32) (s0 : Int32) (s1 : Int32) (s2 : Option Nat) (h : ax_Hp) : ax_W G p l e s mi args below meth c 4 (d + 1) h0 211 [(0, ax_A x0), (3, ax_I x3)] [ax_I s0, ax_I s1, ax_A s2] h (Model_scan_jn211 call k17 x0 x3 s0 s1 s2 h) := by
  unfold Model_scan_jn211
  refine ax_isub B d_Model_scan_211 ?_
  refine ax_putf (v := ax_I (s1 - s0)) B cl_Model (by decide) fk_Model_241 (Or.inl rfl) (fun _ => rfl) (fun _ => rfl) d_Model_scan_212 (fun h27 => ?_)
  refine ax_goto B 17 d_Model_scan_215 (by decide) ?_
  refine ax_sub (tv2 := [(0, ax_A x0), (3, ax_I x3)]) [0, 1] rfl ?_
  exact hk17 x0 x3 h27
def Model_scan_jn190 (call : ax_Cf) (k17 : Option Nat → Int32 → ax_Hp → ax_O) (x0 : Option Nat) (x3 : Int32) (s0 : Int32) (s1 : Option Nat) (h : ax_Hp) : ax_O :=
  (ax_pf h s1 9 38 (ax_I s0)).bind fun h24 =>
  (ax_gi h24 x0 9 31).bind fun v25 =>
  (ax_gi h24 x0 9 38).bind fun v26 =>
  if v26 = 1 then
    Model_scan_jn211 call k17 x0 x3 1 v25 x0 h24
  else
    Model_scan_jn211 call k17 x0 x3 0 v25 x0 h24
set_option maxHeartbeats 4000000 in
set_option maxRecDepth 20000 in
theorem Model_scan_jq190 {l : Launch} {G : ax_G} {d : Nat} {call : ax_Cf} (hcall : ax_Hc l G d call) {p : Program} {e : Env} {s : State} {mi : MethodId} {args : Array Value} {below : List Frame} {meth : Method} {c : Code} {h0 : ax_Hp} (B : ax_B G p s mi meth c "SchemaDeskModel" prog_12_method_40_code 4 (some (.int))) (E : c.exceptionTable.isEmpty = true) (Nm : meth.name = y_Model_scan.name) (k17 : Option Nat → Int32 → ax_Hp → ax_O) (hk17 : ∀ (x0 : Option Nat) (x3 : Int32) (h : ax_Hp), ax_W G p l e s mi args below meth c 4 (d + 1) h0 17 [(0, ax_A x0), (3, ax_I x3)] [] h (k17 x0 x3 h)) (x0 : Option Nat) (x3 : Int32) (s0 : Int32) (s1 : Option Nat) (h : ax_Hp) : ax_W G p l e s mi args below meth c 4 (d + 1) h0 190 [(0, ax_A x0), (3, ax_I x3)] [ax_I s0, ax_A s1] h (Model_scan_jn190 call k17 x0 x3 s0 s1 h) := by
  unfold Model_scan_jn190
  refine ax_putf (v := ax_I s0) B cl_Model (by decide) fk_Model_155 (Or.inl rfl) (fun _ => rfl) (fun _ => rfl) d_Model_scan_190 (fun h24 => ?_)
  refine ax_aload_n B 0 d_Model_scan_193 rfl rfl ?_
  refine ax_dup B d_Model_scan_194 rfl ?_
  refine ax_getfi B cl_Model (by decide) fk_Model_241 d_Model_scan_195 (fun v25 => ?_)
  refine ax_aload_n B 0 d_Model_scan_198 rfl rfl ?_
  refine ax_getfi B cl_Model (by decide) fk_Model_155 d_Model_scan_199 (fun v26 => ?_)
  refine ax_iconst (v := 1) B d_Model_scan_202 (by decide) ?_
  refine ax_icmp_ne B 210 d_Model_scan_203 (by decide) ?_ ?_
  · refine ax_iconst (v := 0) B d_Model_scan_210 (by decide) ?_
    refine ax_sub (tv2 := [(0, ax_A x0), (3, ax_I x3)]) [0, 1] rfl ?_
    exact Model_scan_jq211 hcall B E Nm k17 hk17 x0 x3 0 v25 x0 h24
  · refine ax_iconst (v := 1) B d_Model_scan_206 (by decide) ?_
    refine ax_goto B 211 d_Model_scan_207 (by decide) ?_
    refine ax_sub (tv2 := [(0, ax_A x0), (3, ax_I x3)]) [0, 1] rfl ?_
    exact Model_scan_jq211 hcall B E Nm k17 hk17 x0 x3 1 v25 x0 h24
def Model_scan_jn137 (call : ax_Cf) (k17 : Option Nat → Int32 → ax_Hp → ax_O) (x0 : Option Nat) (x3 : Int32) (s0 : Int32) (s1 : Option Nat) (h : ax_Hp) : ax_O :=
  (ax_pf h s1 9 38 (ax_I s0)).bind fun h35 =>
  k17 x0 x3 h35
set_option maxHeartbeats 4000000 in
set_option maxRecDepth 20000 in
theorem Model_scan_jq137 {l : Launch} {G : ax_G} {d : Nat} {call : ax_Cf} (hcall : ax_Hc l G d call) {p : Program} {e : Env} {s : State} {mi : MethodId} {args : Array Value} {below : List Frame} {meth : Method} {c : Code} {h0 : ax_Hp} (B : ax_B G p s mi meth c "SchemaDeskModel" prog_12_method_40_code 4 (some (.int))) (E : c.exceptionTable.isEmpty = true) (Nm : meth.name = y_Model_scan.name) (k17 : Option Nat → Int32 → ax_Hp → ax_O) (hk17 : ∀ (x0 : Option Nat) (x3 : Int32) (h : ax_Hp), ax_W G p l e s mi args below meth c 4 (d + 1) h0 17 [(0, ax_A x0), (3, ax_I x3)] [] h (k17 x0 x3 h)) (x0 : Option Nat) (x3 : Int32) (s0 : Int32) (s1 : Option Nat) (h : ax_Hp) : ax_W G p l e s mi args below meth c 4 (d + 1) h0 137 [(0, ax_A x0), (3, ax_I x3)] [ax_I s0, ax_A s1] h (Model_scan_jn137 call k17 x0 x3 s0 s1 h) := by
  unfold Model_scan_jn137
  refine ax_putf (v := ax_I s0) B cl_Model (by decide) fk_Model_155 (Or.inl rfl) (fun _ => rfl) (fun _ => rfl) d_Model_scan_137 (fun h35 => ?_)
  refine ax_goto B 17 d_Model_scan_140 (by decide) ?_
  refine ax_sub (tv2 := [(0, ax_A x0), (3, ax_I x3)]) [0, 1] rfl ?_
  exact hk17 x0 x3 h35
def Model_scan_jn36 (call : ax_Cf) (k17 : Option Nat → Int32 → ax_Hp → ax_O) (x0 : Option Nat) (x3 : Int32) (h : ax_Hp) : ax_O :=
  (ax_gi h x0 9 38).bind fun v6 =>
  if v6 = 3 then
    ax_on h x0 9 <| ax_ci (call 201 [ax_A x0, ax_I x3] h) fun v42 h41 =>
    k17 x0 v42 h41
  else
    (ax_gi h x0 9 38).bind fun v7 =>
    if v7 = 2 then
      (ax_gr h x0 9 33).bind fun v36 =>
      (ax_gi h x0 9 31).bind fun v37 =>
      (ax_ldi h v36 1 (v37 - 1)).bind fun v38 =>
      ax_on h x0 9 <| ax_ci (call 195 [ax_A x0, ax_I v38, ax_I x3] h) fun v40 h39 =>
      k17 x0 v40 h39
    else
      (ax_gr h x0 9 17).bind fun v8 =>
      (ax_gr h x0 9 32).bind fun v9 =>
      (ax_gi h x0 9 31).bind fun v10 =>
      (ax_ldi h v9 1 (v10 - 1)).bind fun v11 =>
      (ax_ldi h v8 3 v11).bind fun v12 =>
      if v12 = 65 then
        (ax_gr h x0 9 34).bind fun v28 =>
        (ax_gi h x0 9 31).bind fun v29 =>
        (ax_ldi h v28 1 (v29 - 1)).bind fun v30 =>
        (ax_st h v28 1 (v29 - 1) (ax_I (v30 - 1))).bind fun h31 =>
        (ax_gr h31 x0 9 34).bind fun v32 =>
        (ax_gi h31 x0 9 31).bind fun v33 =>
        (ax_ldi h31 v32 1 (v33 - 1)).bind fun v34 =>
        if v34 = 0 then
          Model_scan_jn137 call k17 x0 x3 3 x0 h31
        else
          Model_scan_jn137 call k17 x0 x3 2 x0 h31
      else
        (ax_gr h x0 9 33).bind fun v13 =>
        (ax_gi h x0 9 31).bind fun v14 =>
        (ax_gr h x0 9 19).bind fun v15 =>
        (ax_gr h x0 9 33).bind fun v16 =>
        (ax_gi h x0 9 31).bind fun v17 =>
        (ax_ldi h v16 1 (v17 - 1)).bind fun v18 =>
        (ax_ldi h v15 1 v18).bind fun v19 =>
        (ax_st h v13 1 (v14 - 1) (ax_I v19)).bind fun h20 =>
        (ax_gr h20 x0 9 33).bind fun v21 =>
        (ax_gi h20 x0 9 31).bind fun v22 =>
        (ax_ldi h20 v21 1 (v22 - 1)).bind fun v23 =>
        if 0 ≤ v23 then
          Model_scan_jn190 call k17 x0 x3 2 x0 h20
        else
          Model_scan_jn190 call k17 x0 x3 1 x0 h20
set_option maxHeartbeats 4000000 in
set_option maxRecDepth 20000 in
theorem Model_scan_jq36 {l : Launch} {G : ax_G} {d : Nat} {call : ax_Cf} (hcall : ax_Hc l G d call) {p : Program} {e : Env} {s : State} {mi : MethodId} {args : Array Value} {below : List Frame} {meth : Method} {c : Code} {h0 : ax_Hp} (B : ax_B G p s mi meth c "SchemaDeskModel" prog_12_method_40_code 4 (some (.int))) (E : c.exceptionTable.isEmpty = true) (Nm : meth.name = y_Model_scan.name) (k17 : Option Nat → Int32 → ax_Hp → ax_O) (hk17 : ∀ (x0 : Option Nat) (x3 : Int32) (h : ax_Hp), ax_W G p l e s mi args below meth c 4 (d + 1) h0 17 [(0, ax_A x0), (3, ax_I x3)] [] h (k17 x0 x3 h)) (x0 : Option Nat) (x3 : Int32) (h : ax_Hp) : ax_W G p l e s mi args below meth c 4 (d + 1) h0 36 [(0, ax_A x0), (3, ax_I x3)] [] h (Model_scan_jn36 call k17 x0 x3 h) := by
  unfold Model_scan_jn36
  refine ax_aload_n B 0 d_Model_scan_36 rfl rfl ?_
  refine ax_getfi B cl_Model (by decide) fk_Model_155 d_Model_scan_37 (fun v6 => ?_)
  refine ax_iconst (v := 3) B d_Model_scan_40 (by decide) ?_
  refine ax_icmp_ne B 53 d_Model_scan_41 (by decide) ?_ ?_
  · refine ax_aload_n B 0 d_Model_scan_53 rfl rfl ?_
    refine ax_getfi B cl_Model (by decide) fk_Model_155 d_Model_scan_54 (fun v7 => ?_)
    refine ax_iconst (v := 2) B d_Model_scan_57 (by decide) ?_
    refine ax_icmp_ne B 81 d_Model_scan_58 (by decide) ?_ ?_
    · refine ax_aload_n B 0 d_Model_scan_81 rfl rfl ?_
      refine ax_getfr B cl_Model (by decide) fk_Model_48 d_Model_scan_82 (fun v8 => ?_)
      refine ax_aload_n B 0 d_Model_scan_85 rfl rfl ?_
      refine ax_getfr B cl_Model (by decide) fk_Model_82 d_Model_scan_86 (fun v9 => ?_)
      refine ax_aload_n B 0 d_Model_scan_89 rfl rfl ?_
      refine ax_getfi B cl_Model (by decide) fk_Model_241 d_Model_scan_90 (fun v10 => ?_)
      refine ax_iconst (v := 1) B d_Model_scan_93 (by decide) ?_
      refine ax_isub B d_Model_scan_94 ?_
      refine ax_iald (kd := 1) B (by decide) rfl d_Model_scan_95 (fun v11 => ?_)
      refine ax_cald (kd := 3) B (by decide) rfl d_Model_scan_96 (fun v12 => ?_)
      refine ax_bipush (v := 65) B d_Model_scan_97 (by decide) ?_
      refine ax_icmp_ne B 143 d_Model_scan_99 (by decide) ?_ ?_
      · refine ax_aload_n B 0 d_Model_scan_143 rfl rfl ?_
        refine ax_getfr B cl_Model (by decide) fk_Model_85 d_Model_scan_144 (fun v13 => ?_)
        refine ax_aload_n B 0 d_Model_scan_147 rfl rfl ?_
        refine ax_getfi B cl_Model (by decide) fk_Model_241 d_Model_scan_148 (fun v14 => ?_)
        refine ax_iconst (v := 1) B d_Model_scan_151 (by decide) ?_
        refine ax_isub B d_Model_scan_152 ?_
        refine ax_aload_n B 0 d_Model_scan_153 rfl rfl ?_
        refine ax_getfr B cl_Model (by decide) fk_Model_54 d_Model_scan_154 (fun v15 => ?_)
        refine ax_aload_n B 0 d_Model_scan_157 rfl rfl ?_
        refine ax_getfr B cl_Model (by decide) fk_Model_85 d_Model_scan_158 (fun v16 => ?_)
        refine ax_aload_n B 0 d_Model_scan_161 rfl rfl ?_
        refine ax_getfi B cl_Model (by decide) fk_Model_241 d_Model_scan_162 (fun v17 => ?_)
        refine ax_iconst (v := 1) B d_Model_scan_165 (by decide) ?_
        refine ax_isub B d_Model_scan_166 ?_
        refine ax_iald (kd := 1) B (by decide) rfl d_Model_scan_167 (fun v18 => ?_)
        refine ax_iald (kd := 1) B (by decide) rfl d_Model_scan_168 (fun v19 => ?_)
        refine ax_iast (kd := 1) B (by decide) (by decide) rfl d_Model_scan_169 (fun h20 => ?_)
        refine ax_aload_n B 0 d_Model_scan_170 rfl rfl ?_
        refine ax_aload_n B 0 d_Model_scan_171 rfl rfl ?_
        refine ax_getfr B cl_Model (by decide) fk_Model_85 d_Model_scan_172 (fun v21 => ?_)
        refine ax_aload_n B 0 d_Model_scan_175 rfl rfl ?_
        refine ax_getfi B cl_Model (by decide) fk_Model_241 d_Model_scan_176 (fun v22 => ?_)
        refine ax_iconst (v := 1) B d_Model_scan_179 (by decide) ?_
        refine ax_isub B d_Model_scan_180 ?_
        refine ax_iald (kd := 1) B (by decide) rfl d_Model_scan_181 (fun v23 => ?_)
        refine ax_if_ge B 189 d_Model_scan_182 (by decide) ?_ ?_
        · refine ax_iconst (v := 2) B d_Model_scan_189 (by decide) ?_
          refine ax_sub (tv2 := [(0, ax_A x0), (3, ax_I x3)]) [0, 1] rfl ?_
          exact Model_scan_jq190 hcall B E Nm k17 hk17 x0 x3 2 x0 h20
        · refine ax_iconst (v := 1) B d_Model_scan_185 (by decide) ?_
          refine ax_goto B 190 d_Model_scan_186 (by decide) ?_
          refine ax_sub (tv2 := [(0, ax_A x0), (3, ax_I x3)]) [0, 1] rfl ?_
          exact Model_scan_jq190 hcall B E Nm k17 hk17 x0 x3 1 x0 h20
      · refine ax_aload_n B 0 d_Model_scan_102 rfl rfl ?_
        refine ax_getfr B cl_Model (by decide) fk_Model_88 d_Model_scan_103 (fun v28 => ?_)
        refine ax_aload_n B 0 d_Model_scan_106 rfl rfl ?_
        refine ax_getfi B cl_Model (by decide) fk_Model_241 d_Model_scan_107 (fun v29 => ?_)
        refine ax_iconst (v := 1) B d_Model_scan_110 (by decide) ?_
        refine ax_isub B d_Model_scan_111 ?_
        refine ax_dup2_11 B d_Model_scan_112 rfl rfl ?_
        refine ax_iald (kd := 1) B (by decide) rfl d_Model_scan_113 (fun v30 => ?_)
        refine ax_iconst (v := 1) B d_Model_scan_114 (by decide) ?_
        refine ax_isub B d_Model_scan_115 ?_
        refine ax_iast (kd := 1) B (by decide) (by decide) rfl d_Model_scan_116 (fun h31 => ?_)
        refine ax_aload_n B 0 d_Model_scan_117 rfl rfl ?_
        refine ax_aload_n B 0 d_Model_scan_118 rfl rfl ?_
        refine ax_getfr B cl_Model (by decide) fk_Model_88 d_Model_scan_119 (fun v32 => ?_)
        refine ax_aload_n B 0 d_Model_scan_122 rfl rfl ?_
        refine ax_getfi B cl_Model (by decide) fk_Model_241 d_Model_scan_123 (fun v33 => ?_)
        refine ax_iconst (v := 1) B d_Model_scan_126 (by decide) ?_
        refine ax_isub B d_Model_scan_127 ?_
        refine ax_iald (kd := 1) B (by decide) rfl d_Model_scan_128 (fun v34 => ?_)
        refine ax_if_ne B 136 d_Model_scan_129 (by decide) ?_ ?_
        · refine ax_iconst (v := 2) B d_Model_scan_136 (by decide) ?_
          refine ax_sub (tv2 := [(0, ax_A x0), (3, ax_I x3)]) [0, 1] rfl ?_
          exact Model_scan_jq137 hcall B E Nm k17 hk17 x0 x3 2 x0 h31
        · refine ax_iconst (v := 3) B d_Model_scan_132 (by decide) ?_
          refine ax_goto B 137 d_Model_scan_133 (by decide) ?_
          refine ax_sub (tv2 := [(0, ax_A x0), (3, ax_I x3)]) [0, 1] rfl ?_
          exact Model_scan_jq137 hcall B E Nm k17 hk17 x0 x3 3 x0 h31
    · refine ax_aload_n B 0 d_Model_scan_61 rfl rfl ?_
      refine ax_aload_n B 0 d_Model_scan_62 rfl rfl ?_
      refine ax_getfr B cl_Model (by decide) fk_Model_85 d_Model_scan_63 (fun v36 => ?_)
      refine ax_aload_n B 0 d_Model_scan_66 rfl rfl ?_
      refine ax_getfi B cl_Model (by decide) fk_Model_241 d_Model_scan_67 (fun v37 => ?_)
      refine ax_iconst (v := 1) B d_Model_scan_70 (by decide) ?_
      refine ax_isub B d_Model_scan_71 ?_
      refine ax_iald (kd := 1) B (by decide) rfl d_Model_scan_72 (fun v38 => ?_)
      refine ax_iload_n B 1 d_Model_scan_73 rfl rfl ?_
      refine ax_callVi (av := [ax_I v38, ax_I x3]) (rest := []) B E hm_Model_meet cl_Model rfl wd_1262 wp_74 lk_Model_274 d_Model_scan_74 rfl (Nat.le_of_ble_eq_true rfl) (fun _ _ hh => hcall 195 _ _ _ _ hh) (fun v40 h39 => ?_)
      refine ax_istore_n (tv2 := [(3, ax_I v40), (0, ax_A x0)]) B d_Model_scan_77 rfl (by decide) rfl ?_
      refine ax_goto B 17 d_Model_scan_78 (by decide) ?_
      refine ax_sub (tv2 := [(0, ax_A x0), (3, ax_I v40)]) [1, 0] rfl ?_
      exact hk17 x0 v40 h39
  · refine ax_aload_n B 0 d_Model_scan_44 rfl rfl ?_
    refine ax_iload_n B 1 d_Model_scan_45 rfl rfl ?_
    refine ax_callVi (av := [ax_I x3]) (rest := []) B E hm_Model_takeCount cl_Model rfl wd_1286 wp_80 lk_Model_277 d_Model_scan_46 rfl (Nat.le_of_ble_eq_true rfl) (fun _ _ hh => hcall 201 _ _ _ _ hh) (fun v42 h41 => ?_)
    refine ax_istore_n (tv2 := [(3, ax_I v42), (0, ax_A x0)]) B d_Model_scan_49 rfl (by decide) rfl ?_
    refine ax_goto B 17 d_Model_scan_50 (by decide) ?_
    refine ax_sub (tv2 := [(0, ax_A x0), (3, ax_I v42)]) [1, 0] rfl ?_
    exact hk17 x0 v42 h41
def Model_scan_bd17 (call : ax_Cf)  (k17 : Option Nat → Int32 → ax_Hp → ax_O) (x0 : Option Nat) (x3 : Int32) (h : ax_Hp) : ax_O :=
  if x3 < 0 then
    Model_scan_jn218 call x3 h
  else
    (ax_gi h x0 9 38).bind fun v5 =>
    if 1 < v5 then
      Model_scan_jn36 call k17 x0 x3 h
    else
      (ax_gi h x0 9 31).bind fun v43 =>
      if v43 ≤ 0 then
        Model_scan_jn218 call x3 h
      else
        Model_scan_jn36 call k17 x0 x3 h
def Model_scan_lp17 (call : ax_Cf)  : Nat → Option Nat → Int32 → ax_Hp → ax_O
  | 0 => fun _ _ _ => none
  | n + 1 => Model_scan_bd17 call  (Model_scan_lp17 call  n)
set_option maxHeartbeats 4000000 in
set_option maxRecDepth 20000 in
theorem Model_scan_lb17 {l : Launch} {G : ax_G} {d : Nat} {call : ax_Cf} (hcall : ax_Hc l G d call) {p : Program} {e : Env} {s : State} {mi : MethodId} {args : Array Value} {below : List Frame} {meth : Method} {c : Code} {h0 : ax_Hp} (B : ax_B G p s mi meth c "SchemaDeskModel" prog_12_method_40_code 4 (some (.int))) (E : c.exceptionTable.isEmpty = true) (Nm : meth.name = y_Model_scan.name)   {k17 : Option Nat → Int32 → ax_Hp → ax_O} (hk17 : ∀ (x0 : Option Nat) (x3 : Int32) (h : ax_Hp), ax_W G p l e s mi args below meth c 4 (d + 1) h0 17 [(0, ax_A x0), (3, ax_I x3)] [] h (k17 x0 x3 h)) (x0 : Option Nat) (x3 : Int32) (h : ax_Hp) : ax_W G p l e s mi args below meth c 4 (d + 1) h0 17 [(0, ax_A x0), (3, ax_I x3)] [] h (Model_scan_bd17 call  k17 x0 x3 h) := by
  unfold Model_scan_bd17
  refine ax_iload_n B 1 d_Model_scan_17 rfl rfl ?_
  refine ax_if_lt B 218 d_Model_scan_18 (by decide) ?_ ?_
  · refine ax_sub (tv2 := [(3, ax_I x3)]) [1] rfl ?_
    exact Model_scan_jq218 hcall B E Nm x3 h
  · refine ax_aload_n B 0 d_Model_scan_21 rfl rfl ?_
    refine ax_getfi B cl_Model (by decide) fk_Model_155 d_Model_scan_22 (fun v5 => ?_)
    refine ax_iconst (v := 1) B d_Model_scan_25 (by decide) ?_
    refine ax_icmp_gt B 36 d_Model_scan_26 (by decide) ?_ ?_
    · refine ax_sub (tv2 := [(0, ax_A x0), (3, ax_I x3)]) [0, 1] rfl ?_
      exact Model_scan_jq36 hcall B E Nm k17 hk17 x0 x3 h
    · refine ax_aload_n B 0 d_Model_scan_29 rfl rfl ?_
      refine ax_getfi B cl_Model (by decide) fk_Model_241 d_Model_scan_30 (fun v43 => ?_)
      refine ax_if_le B 218 d_Model_scan_33 (by decide) ?_ ?_
      · refine ax_sub (tv2 := [(3, ax_I x3)]) [1] rfl ?_
        exact Model_scan_jq218 hcall B E Nm x3 h
      · refine ax_sub (tv2 := [(0, ax_A x0), (3, ax_I x3)]) [0, 1] rfl ?_
        exact Model_scan_jq36 hcall B E Nm k17 hk17 x0 x3 h
theorem Model_scan_lq17 {l : Launch} {G : ax_G} {d : Nat} {call : ax_Cf} (hcall : ax_Hc l G d call) {p : Program} {e : Env} {s : State} {mi : MethodId} {args : Array Value} {below : List Frame} {meth : Method} {c : Code} {h0 : ax_Hp} (B : ax_B G p s mi meth c "SchemaDeskModel" prog_12_method_40_code 4 (some (.int))) (E : c.exceptionTable.isEmpty = true) (Nm : meth.name = y_Model_scan.name)   : ∀ (n : Nat) (x0 : Option Nat) (x3 : Int32) (h : ax_Hp), ax_W G p l e s mi args below meth c 4 (d + 1) h0 17 [(0, ax_A x0), (3, ax_I x3)] [] h (Model_scan_lp17 call  n x0 x3 h)
  | 0, _, _, _ => ax_none
  | n + 1, x0, x3, h => Model_scan_lb17 hcall B E Nm   (Model_scan_lq17 hcall B E Nm   n) x0 x3 h
def Model_scan_b (call : ax_Cf) (x0 : Option Nat) (x1 : Int32) (x2 : Int32) (h : ax_Hp) : ax_O :=
  (ax_pf h x0 9 31 (ax_I 0)).bind fun h1 =>
  (ax_pf h1 x0 9 38 (ax_I 2)).bind fun h2 =>
  ax_on h2 x0 9 <| ax_ci (call 195 [ax_A x0, ax_I x1, ax_I x2] h2) fun v4 h3 =>
  Model_scan_lp17 call ax_fuel x0 v4 h3
set_option maxHeartbeats 4000000 in
set_option maxRecDepth 20000 in
theorem Model_scan_t {l : Launch} {G : ax_G} {d : Nat} {call : ax_Cf} (hcall : ax_Hc l G d call) (x0 : Option Nat) (x1 : Int32) (x2 : Int32) (h : ax_Hp) {r : ax_Rs} {h' : ax_Hp} (ho : Model_scan_b call x0 x1 x2 h = some (r, h')) : ax_C l G (d + 1) y_Model_scan (.code y_Model_scan prog_12_method_40_code 4 (some (.int))) [ax_A x0, ax_I x1, ax_I x2] h r h' := by
  refine ax_enter (by decide) (Nat.le_of_ble_eq_true rfl) ho (fun p e s mi args below meth c B E Nm => ?_)
  have B : ax_B G p s mi meth c "SchemaDeskModel" prog_12_method_40_code 4 (some (.int)) := B
  show ax_W G p l e s mi args below meth c 4 (d + 1) h 0 [(0, ax_A x0), (1, ax_I x1), (2, ax_I x2)] [] h (Model_scan_b call x0 x1 x2 h)
  unfold Model_scan_b
  refine ax_aload_n B 0 d_Model_scan_0 rfl rfl ?_
  refine ax_iconst (v := 0) B d_Model_scan_1 (by decide) ?_
  refine ax_putf (v := ax_I 0) B cl_Model (by decide) fk_Model_241 (Or.inl rfl) (fun _ => rfl) (fun _ => rfl) d_Model_scan_2 (fun h1 => ?_)
  refine ax_aload_n B 0 d_Model_scan_5 rfl rfl ?_
  refine ax_iconst (v := 2) B d_Model_scan_6 (by decide) ?_
  refine ax_putf (v := ax_I 2) B cl_Model (by decide) fk_Model_155 (Or.inl rfl) (fun _ => rfl) (fun _ => rfl) d_Model_scan_7 (fun h2 => ?_)
  refine ax_aload_n B 0 d_Model_scan_10 rfl rfl ?_
  refine ax_iload_n B 1 d_Model_scan_11 rfl rfl ?_
  refine ax_iload_n B 2 d_Model_scan_12 rfl rfl ?_
  refine ax_callVi (av := [ax_I x1, ax_I x2]) (rest := []) B E hm_Model_meet cl_Model rfl wd_1262 wp_74 lk_Model_274 d_Model_scan_13 rfl (Nat.le_of_ble_eq_true rfl) (fun _ _ hh => hcall 195 _ _ _ _ hh) (fun v4 h3 => ?_)
  refine ax_istore_n (tv2 := [(3, ax_I v4), (0, ax_A x0), (1, ax_I x1), (2, ax_I x2)]) B d_Model_scan_16 rfl (by decide) rfl ?_
  refine ax_sub (tv2 := [(0, ax_A x0), (3, ax_I v4)]) [1, 0] rfl ?_
  exact Model_scan_lq17 hcall B E Nm ax_fuel x0 v4 h3

theorem d_Model_meet_0 : decode prog_12_method_38_code 0 = .ok (.iload_n 1, 1) := by decide +kernel
theorem d_Model_meet_1 : decode prog_12_method_38_code 1 = .ok (.istore_n 3, 1) := by decide +kernel
theorem d_Model_meet_2 : decode prog_12_method_38_code 2 = .ok (.iload_n 2, 1) := by decide +kernel
theorem d_Model_meet_3 : decode prog_12_method_38_code 3 = .ok (.istore 4, 2) := by decide +kernel
theorem d_Model_meet_5 : decode prog_12_method_38_code 5 = .ok (.aload_n 0, 1) := by decide +kernel
theorem d_Model_meet_6 : decode prog_12_method_38_code 6 = .ok (.getfield 48, 3) := by decide +kernel
theorem d_Model_meet_9 : decode prog_12_method_38_code 9 = .ok (.iload_n 3, 1) := by decide +kernel
theorem d_Model_meet_10 : decode prog_12_method_38_code 10 = .ok (.caload, 1) := by decide +kernel
theorem d_Model_meet_11 : decode prog_12_method_38_code 11 = .ok (.bipush 85, 2) := by decide +kernel
theorem d_Model_meet_13 : decode prog_12_method_38_code 13 = .ok (.if_icmp .ne 36, 3) := by decide +kernel
theorem d_Model_meet_16 : decode prog_12_method_38_code 16 = .ok (.aload_n 0, 1) := by decide +kernel
theorem d_Model_meet_17 : decode prog_12_method_38_code 17 = .ok (.iload 4, 2) := by decide +kernel
theorem d_Model_meet_19 : decode prog_12_method_38_code 19 = .ok (.aload_n 0, 1) := by decide +kernel
theorem d_Model_meet_20 : decode prog_12_method_38_code 20 = .ok (.getfield 57, 3) := by decide +kernel
theorem d_Model_meet_23 : decode prog_12_method_38_code 23 = .ok (.iload_n 3, 1) := by decide +kernel
theorem d_Model_meet_24 : decode prog_12_method_38_code 24 = .ok (.iaload, 1) := by decide +kernel
theorem d_Model_meet_25 : decode prog_12_method_38_code 25 = .ok (.invokevirtual 262, 3) := by decide +kernel
theorem d_Model_meet_28 : decode prog_12_method_38_code 28 = .ok (.istore 4, 2) := by decide +kernel
theorem d_Model_meet_30 : decode prog_12_method_38_code 30 = .ok (.iload 4, 2) := by decide +kernel
theorem d_Model_meet_32 : decode prog_12_method_38_code 32 = .ok (.ifCond .ge 6, 3) := by decide +kernel
theorem d_Model_meet_35 : decode prog_12_method_38_code 35 = .ok (.iload 4, 2) := by decide +kernel
theorem d_Model_meet_37 : decode prog_12_method_38_code 37 = .ok (.ireturn, 1) := by decide +kernel
theorem d_Model_meet_38 : decode prog_12_method_38_code 38 = .ok (.aload_n 0, 1) := by decide +kernel
theorem d_Model_meet_39 : decode prog_12_method_38_code 39 = .ok (.iload_n 3, 1) := by decide +kernel
theorem d_Model_meet_40 : decode prog_12_method_38_code 40 = .ok (.aload_n 0, 1) := by decide +kernel
theorem d_Model_meet_41 : decode prog_12_method_38_code 41 = .ok (.getfield 204, 3) := by decide +kernel
theorem d_Model_meet_44 : decode prog_12_method_38_code 44 = .ok (.l2i, 1) := by decide +kernel
theorem d_Model_meet_45 : decode prog_12_method_38_code 45 = .ok (.invokevirtual 235, 3) := by decide +kernel
theorem d_Model_meet_48 : decode prog_12_method_38_code 48 = .ok (.istore_n 3, 1) := by decide +kernel
theorem d_Model_meet_49 : decode prog_12_method_38_code 49 = .ok (.aload_n 0, 1) := by decide +kernel
theorem d_Model_meet_50 : decode prog_12_method_38_code 50 = .ok (.iconst 1, 1) := by decide +kernel
theorem d_Model_meet_51 : decode prog_12_method_38_code 51 = .ok (.putfield 155, 3) := by decide +kernel
theorem d_Model_meet_54 : decode prog_12_method_38_code 54 = .ok (.aload_n 0, 1) := by decide +kernel
theorem d_Model_meet_55 : decode prog_12_method_38_code 55 = .ok (.getfield 48, 3) := by decide +kernel
theorem d_Model_meet_58 : decode prog_12_method_38_code 58 = .ok (.iload_n 3, 1) := by decide +kernel
theorem d_Model_meet_59 : decode prog_12_method_38_code 59 = .ok (.caload, 1) := by decide +kernel
theorem d_Model_meet_60 : decode prog_12_method_38_code 60 = .ok (.bipush 65, 2) := by decide +kernel
theorem d_Model_meet_62 : decode prog_12_method_38_code 62 = .ok (.if_icmp .eq 22, 3) := by decide +kernel
theorem d_Model_meet_65 : decode prog_12_method_38_code 65 = .ok (.aload_n 0, 1) := by decide +kernel
theorem d_Model_meet_66 : decode prog_12_method_38_code 66 = .ok (.getfield 48, 3) := by decide +kernel
theorem d_Model_meet_69 : decode prog_12_method_38_code 69 = .ok (.iload_n 3, 1) := by decide +kernel
theorem d_Model_meet_70 : decode prog_12_method_38_code 70 = .ok (.caload, 1) := by decide +kernel
theorem d_Model_meet_71 : decode prog_12_method_38_code 71 = .ok (.bipush 82, 2) := by decide +kernel
theorem d_Model_meet_73 : decode prog_12_method_38_code 73 = .ok (.if_icmp .eq 11, 3) := by decide +kernel
theorem d_Model_meet_76 : decode prog_12_method_38_code 76 = .ok (.aload_n 0, 1) := by decide +kernel
theorem d_Model_meet_77 : decode prog_12_method_38_code 77 = .ok (.iload_n 3, 1) := by decide +kernel
theorem d_Model_meet_78 : decode prog_12_method_38_code 78 = .ok (.iload 4, 2) := by decide +kernel
theorem d_Model_meet_80 : decode prog_12_method_38_code 80 = .ok (.invokevirtual 271, 3) := by decide +kernel
theorem d_Model_meet_83 : decode prog_12_method_38_code 83 = .ok (.ireturn, 1) := by decide +kernel
theorem d_Model_meet_84 : decode prog_12_method_38_code 84 = .ok (.aload_n 0, 1) := by decide +kernel
theorem d_Model_meet_85 : decode prog_12_method_38_code 85 = .ok (.getfield 82, 3) := by decide +kernel
theorem d_Model_meet_88 : decode prog_12_method_38_code 88 = .ok (.aload_n 0, 1) := by decide +kernel
theorem d_Model_meet_89 : decode prog_12_method_38_code 89 = .ok (.getfield 241, 3) := by decide +kernel
theorem d_Model_meet_92 : decode prog_12_method_38_code 92 = .ok (.iload_n 3, 1) := by decide +kernel
theorem d_Model_meet_93 : decode prog_12_method_38_code 93 = .ok (.iastore, 1) := by decide +kernel
theorem d_Model_meet_94 : decode prog_12_method_38_code 94 = .ok (.aload_n 0, 1) := by decide +kernel
theorem d_Model_meet_95 : decode prog_12_method_38_code 95 = .ok (.getfield 85, 3) := by decide +kernel
theorem d_Model_meet_98 : decode prog_12_method_38_code 98 = .ok (.aload_n 0, 1) := by decide +kernel
theorem d_Model_meet_99 : decode prog_12_method_38_code 99 = .ok (.getfield 241, 3) := by decide +kernel
theorem d_Model_meet_102 : decode prog_12_method_38_code 102 = .ok (.aload_n 0, 1) := by decide +kernel
theorem d_Model_meet_103 : decode prog_12_method_38_code 103 = .ok (.getfield 51, 3) := by decide +kernel
theorem d_Model_meet_106 : decode prog_12_method_38_code 106 = .ok (.iload_n 3, 1) := by decide +kernel
theorem d_Model_meet_107 : decode prog_12_method_38_code 107 = .ok (.iaload, 1) := by decide +kernel
theorem d_Model_meet_108 : decode prog_12_method_38_code 108 = .ok (.iastore, 1) := by decide +kernel
theorem d_Model_meet_109 : decode prog_12_method_38_code 109 = .ok (.aload_n 0, 1) := by decide +kernel
theorem d_Model_meet_110 : decode prog_12_method_38_code 110 = .ok (.getfield 88, 3) := by decide +kernel
theorem d_Model_meet_113 : decode prog_12_method_38_code 113 = .ok (.aload_n 0, 1) := by decide +kernel
theorem d_Model_meet_114 : decode prog_12_method_38_code 114 = .ok (.getfield 241, 3) := by decide +kernel
theorem d_Model_meet_117 : decode prog_12_method_38_code 117 = .ok (.iconst 0, 1) := by decide +kernel
theorem d_Model_meet_118 : decode prog_12_method_38_code 118 = .ok (.iastore, 1) := by decide +kernel
theorem d_Model_meet_119 : decode prog_12_method_38_code 119 = .ok (.aload_n 0, 1) := by decide +kernel
theorem d_Model_meet_120 : decode prog_12_method_38_code 120 = .ok (.getfield 94, 3) := by decide +kernel
theorem d_Model_meet_123 : decode prog_12_method_38_code 123 = .ok (.aload_n 0, 1) := by decide +kernel
theorem d_Model_meet_124 : decode prog_12_method_38_code 124 = .ok (.getfield 241, 3) := by decide +kernel
theorem d_Model_meet_127 : decode prog_12_method_38_code 127 = .ok (.iconst 0, 1) := by decide +kernel
theorem d_Model_meet_128 : decode prog_12_method_38_code 128 = .ok (.iastore, 1) := by decide +kernel
theorem d_Model_meet_129 : decode prog_12_method_38_code 129 = .ok (.aload_n 0, 1) := by decide +kernel
theorem d_Model_meet_130 : decode prog_12_method_38_code 130 = .ok (.dup, 1) := by decide +kernel
theorem d_Model_meet_131 : decode prog_12_method_38_code 131 = .ok (.getfield 241, 3) := by decide +kernel
theorem d_Model_meet_134 : decode prog_12_method_38_code 134 = .ok (.iconst 1, 1) := by decide +kernel
theorem d_Model_meet_135 : decode prog_12_method_38_code 135 = .ok (.iadd, 1) := by decide +kernel
theorem d_Model_meet_136 : decode prog_12_method_38_code 136 = .ok (.putfield 241, 3) := by decide +kernel
theorem d_Model_meet_139 : decode prog_12_method_38_code 139 = .ok (.aload_n 0, 1) := by decide +kernel
theorem d_Model_meet_140 : decode prog_12_method_38_code 140 = .ok (.aload_n 0, 1) := by decide +kernel
theorem d_Model_meet_141 : decode prog_12_method_38_code 141 = .ok (.getfield 48, 3) := by decide +kernel
theorem d_Model_meet_144 : decode prog_12_method_38_code 144 = .ok (.iload_n 3, 1) := by decide +kernel
theorem d_Model_meet_145 : decode prog_12_method_38_code 145 = .ok (.caload, 1) := by decide +kernel
theorem d_Model_meet_146 : decode prog_12_method_38_code 146 = .ok (.bipush 65, 2) := by decide +kernel
theorem d_Model_meet_148 : decode prog_12_method_38_code 148 = .ok (.if_icmp .ne 7, 3) := by decide +kernel
theorem d_Model_meet_151 : decode prog_12_method_38_code 151 = .ok (.iconst 3, 1) := by decide +kernel
theorem d_Model_meet_152 : decode prog_12_method_38_code 152 = .ok (.goto 4, 3) := by decide +kernel
theorem d_Model_meet_155 : decode prog_12_method_38_code 155 = .ok (.iconst 2, 1) := by decide +kernel
theorem d_Model_meet_156 : decode prog_12_method_38_code 156 = .ok (.putfield 155, 3) := by decide +kernel
theorem d_Model_meet_159 : decode prog_12_method_38_code 159 = .ok (.iload 4, 2) := by decide +kernel
theorem d_Model_meet_161 : decode prog_12_method_38_code 161 = .ok (.ireturn, 1) := by decide +kernel
def Model_meet_jn156 (call : ax_Cf)  (x4 : Int32) (s0 : Int32) (s1 : Option Nat) (h : ax_Hp) : ax_O :=
  (ax_pf h s1 9 38 (ax_I s0)).bind fun h24 =>
  ax_ri x4 h24
set_option maxHeartbeats 4000000 in
set_option maxRecDepth 20000 in
theorem Model_meet_jq156 {l : Launch} {G : ax_G} {d : Nat} {call : ax_Cf} (hcall : ax_Hc l G d call) {p : Program} {e : Env} {s : State} {mi : MethodId} {args : Array Value} {below : List Frame} {meth : Method} {c : Code} {h0 : ax_Hp} (B : ax_B G p s mi meth c "SchemaDeskModel" prog_12_method_38_code 5 (some (.int))) (E : c.exceptionTable.isEmpty = true) (Nm : meth.name = y_Model_meet.name)   (x4 : Int32) (s0 : Int32) (s1 : Option Nat) (h : ax_Hp) : ax_W G p l e s mi args below meth c 5 (d + 1) h0 156 [(4, ax_I x4)] [ax_I s0, ax_A s1] h (Model_meet_jn156 call  x4 s0 s1 h) := by
  unfold Model_meet_jn156
  refine ax_putf (v := ax_I s0) B cl_Model (by decide) fk_Model_155 (Or.inl rfl) (fun _ => rfl) (fun _ => rfl) d_Model_meet_156 (fun h24 => ?_)
  refine ax_iload B 0 d_Model_meet_159 rfl ?_
  exact ax_ireturn B d_Model_meet_161
def Model_meet_jn84 (call : ax_Cf)  (x0 : Option Nat) (x3 : Int32) (x4 : Int32) (h : ax_Hp) : ax_O :=
  (ax_gr h x0 9 32).bind fun v6 =>
  (ax_gi h x0 9 31).bind fun v7 =>
  (ax_st h v6 1 v7 (ax_I x3)).bind fun h8 =>
  (ax_gr h8 x0 9 33).bind fun v9 =>
  (ax_gi h8 x0 9 31).bind fun v10 =>
  (ax_gr h8 x0 9 18).bind fun v11 =>
  (ax_ldi h8 v11 1 x3).bind fun v12 =>
  (ax_st h8 v9 1 v10 (ax_I v12)).bind fun h13 =>
  (ax_gr h13 x0 9 34).bind fun v14 =>
  (ax_gi h13 x0 9 31).bind fun v15 =>
  (ax_st h13 v14 1 v15 (ax_I 0)).bind fun h16 =>
  (ax_gr h16 x0 9 36).bind fun v17 =>
  (ax_gi h16 x0 9 31).bind fun v18 =>
  (ax_st h16 v17 1 v18 (ax_I 0)).bind fun h19 =>
  (ax_gi h19 x0 9 31).bind fun v20 =>
  (ax_pf h19 x0 9 31 (ax_I (v20 + 1))).bind fun h21 =>
  (ax_gr h21 x0 9 17).bind fun v22 =>
  (ax_ldi h21 v22 3 x3).bind fun v23 =>
  if v23 = 65 then
    Model_meet_jn156 call x4 3 x0 h21
  else
    Model_meet_jn156 call x4 2 x0 h21
set_option maxHeartbeats 4000000 in
set_option maxRecDepth 20000 in
theorem Model_meet_jq84 {l : Launch} {G : ax_G} {d : Nat} {call : ax_Cf} (hcall : ax_Hc l G d call) {p : Program} {e : Env} {s : State} {mi : MethodId} {args : Array Value} {below : List Frame} {meth : Method} {c : Code} {h0 : ax_Hp} (B : ax_B G p s mi meth c "SchemaDeskModel" prog_12_method_38_code 5 (some (.int))) (E : c.exceptionTable.isEmpty = true) (Nm : meth.name = y_Model_meet.name)   (x0 : Option Nat) (x3 : Int32) (x4 : Int32) (h : ax_Hp) : ax_W G p l e s mi args below meth c 5 (d + 1) h0 84 [(0, ax_A x0), (3, ax_I x3), (4, ax_I x4)] [] h (Model_meet_jn84 call  x0 x3 x4 h) := by
  unfold Model_meet_jn84
  refine ax_aload_n B 0 d_Model_meet_84 rfl rfl ?_
  refine ax_getfr B cl_Model (by decide) fk_Model_82 d_Model_meet_85 (fun v6 => ?_)
  refine ax_aload_n B 0 d_Model_meet_88 rfl rfl ?_
  refine ax_getfi B cl_Model (by decide) fk_Model_241 d_Model_meet_89 (fun v7 => ?_)
  refine ax_iload_n B 1 d_Model_meet_92 rfl rfl ?_
  refine ax_iast (kd := 1) B (by decide) (by decide) rfl d_Model_meet_93 (fun h8 => ?_)
  refine ax_aload_n B 0 d_Model_meet_94 rfl rfl ?_
  refine ax_getfr B cl_Model (by decide) fk_Model_85 d_Model_meet_95 (fun v9 => ?_)
  refine ax_aload_n B 0 d_Model_meet_98 rfl rfl ?_
  refine ax_getfi B cl_Model (by decide) fk_Model_241 d_Model_meet_99 (fun v10 => ?_)
  refine ax_aload_n B 0 d_Model_meet_102 rfl rfl ?_
  refine ax_getfr B cl_Model (by decide) fk_Model_51 d_Model_meet_103 (fun v11 => ?_)
  refine ax_iload_n B 1 d_Model_meet_106 rfl rfl ?_
  refine ax_iald (kd := 1) B (by decide) rfl d_Model_meet_107 (fun v12 => ?_)
  refine ax_iast (kd := 1) B (by decide) (by decide) rfl d_Model_meet_108 (fun h13 => ?_)
  refine ax_aload_n B 0 d_Model_meet_109 rfl rfl ?_
  refine ax_getfr B cl_Model (by decide) fk_Model_88 d_Model_meet_110 (fun v14 => ?_)
  refine ax_aload_n B 0 d_Model_meet_113 rfl rfl ?_
  refine ax_getfi B cl_Model (by decide) fk_Model_241 d_Model_meet_114 (fun v15 => ?_)
  refine ax_iconst (v := 0) B d_Model_meet_117 (by decide) ?_
  refine ax_iast (kd := 1) B (by decide) (by decide) rfl d_Model_meet_118 (fun h16 => ?_)
  refine ax_aload_n B 0 d_Model_meet_119 rfl rfl ?_
  refine ax_getfr B cl_Model (by decide) fk_Model_94 d_Model_meet_120 (fun v17 => ?_)
  refine ax_aload_n B 0 d_Model_meet_123 rfl rfl ?_
  refine ax_getfi B cl_Model (by decide) fk_Model_241 d_Model_meet_124 (fun v18 => ?_)
  refine ax_iconst (v := 0) B d_Model_meet_127 (by decide) ?_
  refine ax_iast (kd := 1) B (by decide) (by decide) rfl d_Model_meet_128 (fun h19 => ?_)
  refine ax_aload_n B 0 d_Model_meet_129 rfl rfl ?_
  refine ax_dup B d_Model_meet_130 rfl ?_
  refine ax_getfi B cl_Model (by decide) fk_Model_241 d_Model_meet_131 (fun v20 => ?_)
  refine ax_iconst (v := 1) B d_Model_meet_134 (by decide) ?_
  refine ax_iadd B d_Model_meet_135 ?_
  refine ax_putf (v := ax_I (v20 + 1)) B cl_Model (by decide) fk_Model_241 (Or.inl rfl) (fun _ => rfl) (fun _ => rfl) d_Model_meet_136 (fun h21 => ?_)
  refine ax_aload_n B 0 d_Model_meet_139 rfl rfl ?_
  refine ax_aload_n B 0 d_Model_meet_140 rfl rfl ?_
  refine ax_getfr B cl_Model (by decide) fk_Model_48 d_Model_meet_141 (fun v22 => ?_)
  refine ax_iload_n B 1 d_Model_meet_144 rfl rfl ?_
  refine ax_cald (kd := 3) B (by decide) rfl d_Model_meet_145 (fun v23 => ?_)
  refine ax_bipush (v := 65) B d_Model_meet_146 (by decide) ?_
  refine ax_icmp_ne B 155 d_Model_meet_148 (by decide) ?_ ?_
  · refine ax_iconst (v := 2) B d_Model_meet_155 (by decide) ?_
    refine ax_sub (tv2 := [(4, ax_I x4)]) [2] rfl ?_
    exact Model_meet_jq156 hcall B E Nm x4 2 x0 h21
  · refine ax_iconst (v := 3) B d_Model_meet_151 (by decide) ?_
    refine ax_goto B 156 d_Model_meet_152 (by decide) ?_
    refine ax_sub (tv2 := [(4, ax_I x4)]) [2] rfl ?_
    exact Model_meet_jq156 hcall B E Nm x4 3 x0 h21
def Model_meet_jn49 (call : ax_Cf)  (x0 : Option Nat) (x3 : Int32) (x4 : Int32) (h : ax_Hp) : ax_O :=
  (ax_pf h x0 9 38 (ax_I 1)).bind fun h3 =>
  (ax_gr h3 x0 9 17).bind fun v4 =>
  (ax_ldi h3 v4 3 x3).bind fun v5 =>
  if v5 = 65 then
    Model_meet_jn84 call x0 x3 x4 h3
  else
    (ax_gr h3 x0 9 17).bind fun v25 =>
    (ax_ldi h3 v25 3 x3).bind fun v26 =>
    if v26 = 82 then
      Model_meet_jn84 call x0 x3 x4 h3
    else
      ax_on h3 x0 9 <| ax_ci (call 198 [ax_A x0, ax_I x3, ax_I x4] h3) fun v28 h27 =>
      ax_ri v28 h27
set_option maxHeartbeats 4000000 in
set_option maxRecDepth 20000 in
theorem Model_meet_jq49 {l : Launch} {G : ax_G} {d : Nat} {call : ax_Cf} (hcall : ax_Hc l G d call) {p : Program} {e : Env} {s : State} {mi : MethodId} {args : Array Value} {below : List Frame} {meth : Method} {c : Code} {h0 : ax_Hp} (B : ax_B G p s mi meth c "SchemaDeskModel" prog_12_method_38_code 5 (some (.int))) (E : c.exceptionTable.isEmpty = true) (Nm : meth.name = y_Model_meet.name)   (x0 : Option Nat) (x3 : Int32) (x4 : Int32) (h : ax_Hp) : ax_W G p l e s mi args below meth c 5 (d + 1) h0 49 [(0, ax_A x0), (3, ax_I x3), (4, ax_I x4)] [] h (Model_meet_jn49 call  x0 x3 x4 h) := by
  unfold Model_meet_jn49
  refine ax_aload_n B 0 d_Model_meet_49 rfl rfl ?_
  refine ax_iconst (v := 1) B d_Model_meet_50 (by decide) ?_
  refine ax_putf (v := ax_I 1) B cl_Model (by decide) fk_Model_155 (Or.inl rfl) (fun _ => rfl) (fun _ => rfl) d_Model_meet_51 (fun h3 => ?_)
  refine ax_aload_n B 0 d_Model_meet_54 rfl rfl ?_
  refine ax_getfr B cl_Model (by decide) fk_Model_48 d_Model_meet_55 (fun v4 => ?_)
  refine ax_iload_n B 1 d_Model_meet_58 rfl rfl ?_
  refine ax_cald (kd := 3) B (by decide) rfl d_Model_meet_59 (fun v5 => ?_)
  refine ax_bipush (v := 65) B d_Model_meet_60 (by decide) ?_
  refine ax_icmp_eq B 84 d_Model_meet_62 (by decide) ?_ ?_
  · refine ax_sub (tv2 := [(0, ax_A x0), (3, ax_I x3), (4, ax_I x4)]) [0, 1, 2] rfl ?_
    exact Model_meet_jq84 hcall B E Nm x0 x3 x4 h3
  · refine ax_aload_n B 0 d_Model_meet_65 rfl rfl ?_
    refine ax_getfr B cl_Model (by decide) fk_Model_48 d_Model_meet_66 (fun v25 => ?_)
    refine ax_iload_n B 1 d_Model_meet_69 rfl rfl ?_
    refine ax_cald (kd := 3) B (by decide) rfl d_Model_meet_70 (fun v26 => ?_)
    refine ax_bipush (v := 82) B d_Model_meet_71 (by decide) ?_
    refine ax_icmp_eq B 84 d_Model_meet_73 (by decide) ?_ ?_
    · refine ax_sub (tv2 := [(0, ax_A x0), (3, ax_I x3), (4, ax_I x4)]) [0, 1, 2] rfl ?_
      exact Model_meet_jq84 hcall B E Nm x0 x3 x4 h3
    · refine ax_aload_n B 0 d_Model_meet_76 rfl rfl ?_
      refine ax_iload_n B 1 d_Model_meet_77 rfl rfl ?_
      refine ax_iload B 2 d_Model_meet_78 rfl ?_
      refine ax_callVi (av := [ax_I x3, ax_I x4]) (rest := []) B E hm_Model_takePlain cl_Model rfl wd_1274 wp_77 lk_Model_271 d_Model_meet_80 rfl (Nat.le_of_ble_eq_true rfl) (fun _ _ hh => hcall 198 _ _ _ _ hh) (fun v28 h27 => ?_)
      exact ax_ireturn B d_Model_meet_83
def Model_meet_b (call : ax_Cf) (x0 : Option Nat) (x1 : Int32) (x2 : Int32) (h : ax_Hp) : ax_O :=
  (ax_gr h x0 9 17).bind fun v1 =>
  (ax_ldi h v1 3 x1).bind fun v2 =>
  if v2 = 85 then
    (ax_gr h x0 9 20).bind fun v29 =>
    (ax_ldi h v29 1 x1).bind fun v30 =>
    ax_on h x0 9 <| ax_ci (call 196 [ax_A x0, ax_I x2, ax_I v30] h) fun v32 h31 =>
    if 0 ≤ v32 then
      (ax_gl h31 x0 9 37).bind fun v33 =>
      ax_on h31 x0 9 <| ax_ci (call 161 [ax_A x0, ax_I x1, ax_I (v33.toInt32)] h31) fun v35 h34 =>
      Model_meet_jn49 call x0 v35 v32 h34
    else
      ax_ri v32 h31
  else
    Model_meet_jn49 call x0 x1 x2 h
set_option maxHeartbeats 4000000 in
set_option maxRecDepth 20000 in
theorem Model_meet_t {l : Launch} {G : ax_G} {d : Nat} {call : ax_Cf} (hcall : ax_Hc l G d call) (x0 : Option Nat) (x1 : Int32) (x2 : Int32) (h : ax_Hp) {r : ax_Rs} {h' : ax_Hp} (ho : Model_meet_b call x0 x1 x2 h = some (r, h')) : ax_C l G (d + 1) y_Model_meet (.code y_Model_meet prog_12_method_38_code 5 (some (.int))) [ax_A x0, ax_I x1, ax_I x2] h r h' := by
  refine ax_enter (by decide) (Nat.le_of_ble_eq_true rfl) ho (fun p e s mi args below meth c B E Nm => ?_)
  have B : ax_B G p s mi meth c "SchemaDeskModel" prog_12_method_38_code 5 (some (.int)) := B
  show ax_W G p l e s mi args below meth c 5 (d + 1) h 0 [(0, ax_A x0), (1, ax_I x1), (2, ax_I x2)] [] h (Model_meet_b call x0 x1 x2 h)
  unfold Model_meet_b
  refine ax_iload_n B 1 d_Model_meet_0 rfl rfl ?_
  refine ax_istore_n (tv2 := [(3, ax_I x1), (0, ax_A x0), (1, ax_I x1), (2, ax_I x2)]) B d_Model_meet_1 rfl (by decide) rfl ?_
  refine ax_iload_n B 3 d_Model_meet_2 rfl rfl ?_
  refine ax_istore (tv2 := [(4, ax_I x2), (3, ax_I x1), (0, ax_A x0), (1, ax_I x1), (2, ax_I x2)]) B d_Model_meet_3 (by decide) rfl ?_
  refine ax_aload_n B 2 d_Model_meet_5 rfl rfl ?_
  refine ax_getfr B cl_Model (by decide) fk_Model_48 d_Model_meet_6 (fun v1 => ?_)
  refine ax_iload_n B 1 d_Model_meet_9 rfl rfl ?_
  refine ax_cald (kd := 3) B (by decide) rfl d_Model_meet_10 (fun v2 => ?_)
  refine ax_bipush (v := 85) B d_Model_meet_11 (by decide) ?_
  refine ax_icmp_ne B 49 d_Model_meet_13 (by decide) ?_ ?_
  · refine ax_sub (tv2 := [(0, ax_A x0), (3, ax_I x1), (4, ax_I x2)]) [2, 1, 0] rfl ?_
    exact Model_meet_jq49 hcall B E Nm x0 x1 x2 h
  · refine ax_aload_n B 2 d_Model_meet_16 rfl rfl ?_
    refine ax_iload B 0 d_Model_meet_17 rfl ?_
    refine ax_aload_n B 2 d_Model_meet_19 rfl rfl ?_
    refine ax_getfr B cl_Model (by decide) fk_Model_57 d_Model_meet_20 (fun v29 => ?_)
    refine ax_iload_n B 1 d_Model_meet_23 rfl rfl ?_
    refine ax_iald (kd := 1) B (by decide) rfl d_Model_meet_24 (fun v30 => ?_)
    refine ax_callVi (av := [ax_I x2, ax_I v30]) (rest := []) B E hm_Model_takeHalf cl_Model rfl wd_1266 wp_75 lk_Model_262 d_Model_meet_25 rfl (Nat.le_of_ble_eq_true rfl) (fun _ _ hh => hcall 196 _ _ _ _ hh) (fun v32 h31 => ?_)
    refine ax_istore (tv2 := [(4, ax_I v32), (3, ax_I x1), (0, ax_A x0), (1, ax_I x1), (2, ax_I x2)]) B d_Model_meet_28 (by decide) rfl ?_
    refine ax_iload B 0 d_Model_meet_30 rfl ?_
    refine ax_if_ge B 38 d_Model_meet_32 (by decide) ?_ ?_
    · refine ax_aload_n B 2 d_Model_meet_38 rfl rfl ?_
      refine ax_iload_n B 1 d_Model_meet_39 rfl rfl ?_
      refine ax_aload_n B 2 d_Model_meet_40 rfl rfl ?_
      refine ax_getfl B cl_Model (by decide) fk_Model_204 d_Model_meet_41 (fun v33 => ?_)
      refine ax_l2i B d_Model_meet_44 ?_
      refine ax_callVi (av := [ax_I x1, ax_I (v33.toInt32)]) (rest := []) B E hm_Model_branch cl_Model rfl wd_1120 wp_47 lk_Model_235 d_Model_meet_45 rfl (Nat.le_of_ble_eq_true rfl) (fun _ _ hh => hcall 161 _ _ _ _ hh) (fun v35 h34 => ?_)
      refine ax_istore_n (tv2 := [(3, ax_I v35), (4, ax_I v32), (0, ax_A x0), (1, ax_I x1), (2, ax_I x2)]) B d_Model_meet_48 rfl (by decide) rfl ?_
      refine ax_sub (tv2 := [(0, ax_A x0), (3, ax_I v35), (4, ax_I v32)]) [2, 0, 1] rfl ?_
      exact Model_meet_jq49 hcall B E Nm x0 v35 v32 h34
    · refine ax_iload B 0 d_Model_meet_35 rfl ?_
      exact ax_ireturn B d_Model_meet_37

theorem d_Model_takeHalf_0 : decode prog_12_method_35_code 0 = .ok (.aload_n 0, 1) := by decide +kernel
theorem d_Model_takeHalf_1 : decode prog_12_method_35_code 1 = .ok (.iload_n 1, 1) := by decide +kernel
theorem d_Model_takeHalf_2 : decode prog_12_method_35_code 2 = .ok (.invokevirtual 259, 3) := by decide +kernel
theorem d_Model_takeHalf_5 : decode prog_12_method_35_code 5 = .ok (.istore_n 3, 1) := by decide +kernel
theorem d_Model_takeHalf_6 : decode prog_12_method_35_code 6 = .ok (.iload_n 3, 1) := by decide +kernel
theorem d_Model_takeHalf_7 : decode prog_12_method_35_code 7 = .ok (.ifCond .lt 17, 3) := by decide +kernel
theorem d_Model_takeHalf_10 : decode prog_12_method_35_code 10 = .ok (.iload_n 3, 1) := by decide +kernel
theorem d_Model_takeHalf_11 : decode prog_12_method_35_code 11 = .ok (.iconst 2, 1) := by decide +kernel
theorem d_Model_takeHalf_12 : decode prog_12_method_35_code 12 = .ok (.irem, 1) := by decide +kernel
theorem d_Model_takeHalf_13 : decode prog_12_method_35_code 13 = .ok (.iconst 1, 1) := by decide +kernel
theorem d_Model_takeHalf_14 : decode prog_12_method_35_code 14 = .ok (.if_icmp .eq 10, 3) := by decide +kernel
theorem d_Model_takeHalf_17 : decode prog_12_method_35_code 17 = .ok (.iload_n 3, 1) := by decide +kernel
theorem d_Model_takeHalf_18 : decode prog_12_method_35_code 18 = .ok (.iconst 2, 1) := by decide +kernel
theorem d_Model_takeHalf_19 : decode prog_12_method_35_code 19 = .ok (.idiv, 1) := by decide +kernel
theorem d_Model_takeHalf_20 : decode prog_12_method_35_code 20 = .ok (.iload_n 2, 1) := by decide +kernel
theorem d_Model_takeHalf_21 : decode prog_12_method_35_code 21 = .ok (.if_icmp .lt 7, 3) := by decide +kernel
theorem d_Model_takeHalf_24 : decode prog_12_method_35_code 24 = .ok (.iconst (-1), 1) := by decide +kernel
theorem d_Model_takeHalf_25 : decode prog_12_method_35_code 25 = .ok (.iload_n 1, 1) := by decide +kernel
theorem d_Model_takeHalf_26 : decode prog_12_method_35_code 26 = .ok (.isub, 1) := by decide +kernel
theorem d_Model_takeHalf_27 : decode prog_12_method_35_code 27 = .ok (.ireturn, 1) := by decide +kernel
theorem d_Model_takeHalf_28 : decode prog_12_method_35_code 28 = .ok (.aload_n 0, 1) := by decide +kernel
theorem d_Model_takeHalf_29 : decode prog_12_method_35_code 29 = .ok (.iload_n 3, 1) := by decide +kernel
theorem d_Model_takeHalf_30 : decode prog_12_method_35_code 30 = .ok (.iconst 2, 1) := by decide +kernel
theorem d_Model_takeHalf_31 : decode prog_12_method_35_code 31 = .ok (.idiv, 1) := by decide +kernel
theorem d_Model_takeHalf_32 : decode prog_12_method_35_code 32 = .ok (.i2l, 1) := by decide +kernel
theorem d_Model_takeHalf_33 : decode prog_12_method_35_code 33 = .ok (.putfield 204, 3) := by decide +kernel
theorem d_Model_takeHalf_36 : decode prog_12_method_35_code 36 = .ok (.iload_n 1, 1) := by decide +kernel
theorem d_Model_takeHalf_37 : decode prog_12_method_35_code 37 = .ok (.iconst 1, 1) := by decide +kernel
theorem d_Model_takeHalf_38 : decode prog_12_method_35_code 38 = .ok (.iadd, 1) := by decide +kernel
theorem d_Model_takeHalf_39 : decode prog_12_method_35_code 39 = .ok (.ireturn, 1) := by decide +kernel
def Model_takeHalf_jn24 (call : ax_Cf)  (x1 : Int32) (h : ax_Hp) : ax_O :=
  ax_ri ((-1) - x1) h
set_option maxHeartbeats 4000000 in
set_option maxRecDepth 20000 in
theorem Model_takeHalf_jq24 {l : Launch} {G : ax_G} {d : Nat} {call : ax_Cf} (hcall : ax_Hc l G d call) {p : Program} {e : Env} {s : State} {mi : MethodId} {args : Array Value} {below : List Frame} {meth : Method} {c : Code} {h0 : ax_Hp} (B : ax_B G p s mi meth c "SchemaDeskModel" prog_12_method_35_code 4 (some (.int))) (E : c.exceptionTable.isEmpty = true) (Nm : meth.name = y_Model_takeHalf.name)   (x1 : Int32) (h : ax_Hp) : ax_W G p l e s mi args below meth c 4 (d + 1) h0 24 [(1, ax_I x1)] [] h (Model_takeHalf_jn24 call  x1 h) := by
  unfold Model_takeHalf_jn24
  refine ax_iconst (v := (-1)) B d_Model_takeHalf_24 (by decide) ?_
  refine ax_iload_n B 0 d_Model_takeHalf_25 rfl rfl ?_
  refine ax_isub B d_Model_takeHalf_26 ?_
  exact ax_ireturn B d_Model_takeHalf_27
def Model_takeHalf_b (call : ax_Cf) (x0 : Option Nat) (x1 : Int32) (x2 : Int32) (h : ax_Hp) : ax_O :=
  ax_on h x0 9 <| ax_ci (call 197 [ax_A x0, ax_I x1] h) fun v2 h1 =>
  if v2 < 0 then
    Model_takeHalf_jn24 call x1 h1
  else
    ax_nz 2 <|
    if (v2 - v2 / 2 * 2) = 1 then
      Model_takeHalf_jn24 call x1 h1
    else
      ax_nz 2 <|
      if (v2 / 2) < x2 then
        ax_nz 2 <|
        (ax_pf h1 x0 9 37 (ax_L ((v2 / 2).toInt64))).bind fun h3 =>
        ax_ri (x1 + 1) h3
      else
        Model_takeHalf_jn24 call x1 h1
set_option maxHeartbeats 4000000 in
set_option maxRecDepth 20000 in
theorem Model_takeHalf_t {l : Launch} {G : ax_G} {d : Nat} {call : ax_Cf} (hcall : ax_Hc l G d call) (x0 : Option Nat) (x1 : Int32) (x2 : Int32) (h : ax_Hp) {r : ax_Rs} {h' : ax_Hp} (ho : Model_takeHalf_b call x0 x1 x2 h = some (r, h')) : ax_C l G (d + 1) y_Model_takeHalf (.code y_Model_takeHalf prog_12_method_35_code 4 (some (.int))) [ax_A x0, ax_I x1, ax_I x2] h r h' := by
  refine ax_enter (by decide) (Nat.le_of_ble_eq_true rfl) ho (fun p e s mi args below meth c B E Nm => ?_)
  have B : ax_B G p s mi meth c "SchemaDeskModel" prog_12_method_35_code 4 (some (.int)) := B
  show ax_W G p l e s mi args below meth c 4 (d + 1) h 0 [(0, ax_A x0), (1, ax_I x1), (2, ax_I x2)] [] h (Model_takeHalf_b call x0 x1 x2 h)
  unfold Model_takeHalf_b
  refine ax_aload_n B 0 d_Model_takeHalf_0 rfl rfl ?_
  refine ax_iload_n B 1 d_Model_takeHalf_1 rfl rfl ?_
  refine ax_callVi (av := [ax_I x1]) (rest := []) B E hm_Model_byteAt cl_Model rfl wd_1270 wp_76 lk_Model_259 d_Model_takeHalf_2 rfl (Nat.le_of_ble_eq_true rfl) (fun _ _ hh => hcall 197 _ _ _ _ hh) (fun v2 h1 => ?_)
  refine ax_istore_n (tv2 := [(3, ax_I v2), (0, ax_A x0), (1, ax_I x1), (2, ax_I x2)]) B d_Model_takeHalf_5 rfl (by decide) rfl ?_
  refine ax_iload_n B 0 d_Model_takeHalf_6 rfl rfl ?_
  refine ax_if_lt B 24 d_Model_takeHalf_7 (by decide) ?_ ?_
  · refine ax_sub (tv2 := [(1, ax_I x1)]) [2] rfl ?_
    exact Model_takeHalf_jq24 hcall B E Nm x1 h1
  · refine ax_iload_n B 0 d_Model_takeHalf_10 rfl rfl ?_
    refine ax_iconst (v := 2) B d_Model_takeHalf_11 (by decide) ?_
    refine ax_irem B d_Model_takeHalf_12 ?_
    refine ax_iconst (v := 1) B d_Model_takeHalf_13 (by decide) ?_
    refine ax_icmp_eq B 24 d_Model_takeHalf_14 (by decide) ?_ ?_
    · refine ax_sub (tv2 := [(1, ax_I x1)]) [2] rfl ?_
      exact Model_takeHalf_jq24 hcall B E Nm x1 h1
    · refine ax_iload_n B 0 d_Model_takeHalf_17 rfl rfl ?_
      refine ax_iconst (v := 2) B d_Model_takeHalf_18 (by decide) ?_
      refine ax_idiv B d_Model_takeHalf_19 ?_
      refine ax_iload_n B 3 d_Model_takeHalf_20 rfl rfl ?_
      refine ax_icmp_lt B 28 d_Model_takeHalf_21 (by decide) ?_ ?_
      · refine ax_aload_n B 1 d_Model_takeHalf_28 rfl rfl ?_
        refine ax_iload_n B 0 d_Model_takeHalf_29 rfl rfl ?_
        refine ax_iconst (v := 2) B d_Model_takeHalf_30 (by decide) ?_
        refine ax_idiv B d_Model_takeHalf_31 ?_
        refine ax_i2l B d_Model_takeHalf_32 ?_
        refine ax_putf (v := ax_L ((v2 / 2).toInt64)) B cl_Model (by decide) fk_Model_204 (Or.inl rfl) (fun _ => rfl) (fun _ => rfl) d_Model_takeHalf_33 (fun h3 => ?_)
        refine ax_iload_n B 2 d_Model_takeHalf_36 rfl rfl ?_
        refine ax_iconst (v := 1) B d_Model_takeHalf_37 (by decide) ?_
        refine ax_iadd B d_Model_takeHalf_38 ?_
        exact ax_ireturn B d_Model_takeHalf_39
      · refine ax_sub (tv2 := [(1, ax_I x1)]) [2] rfl ?_
        exact Model_takeHalf_jq24 hcall B E Nm x1 h1

theorem d_Model_byteAt_0 : decode prog_12_method_33_code 0 = .ok (.iload_n 1, 1) := by decide +kernel
theorem d_Model_byteAt_1 : decode prog_12_method_33_code 1 = .ok (.aload_n 0, 1) := by decide +kernel
theorem d_Model_byteAt_2 : decode prog_12_method_33_code 2 = .ok (.getfield 127, 3) := by decide +kernel
theorem d_Model_byteAt_5 : decode prog_12_method_33_code 5 = .ok (.if_icmp .ge 12, 3) := by decide +kernel
theorem d_Model_byteAt_8 : decode prog_12_method_33_code 8 = .ok (.aload_n 0, 1) := by decide +kernel
theorem d_Model_byteAt_9 : decode prog_12_method_33_code 9 = .ok (.getfield 13, 3) := by decide +kernel
theorem d_Model_byteAt_12 : decode prog_12_method_33_code 12 = .ok (.iload_n 1, 1) := by decide +kernel
theorem d_Model_byteAt_13 : decode prog_12_method_33_code 13 = .ok (.iaload, 1) := by decide +kernel
theorem d_Model_byteAt_14 : decode prog_12_method_33_code 14 = .ok (.goto 4, 3) := by decide +kernel
theorem d_Model_byteAt_17 : decode prog_12_method_33_code 17 = .ok (.iconst (-1), 1) := by decide +kernel
theorem d_Model_byteAt_18 : decode prog_12_method_33_code 18 = .ok (.ireturn, 1) := by decide +kernel
def Model_byteAt_b (call : ax_Cf) (x0 : Option Nat) (x1 : Int32) (h : ax_Hp) : ax_O :=
  (ax_gi h x0 9 3).bind fun v1 =>
  if v1 ≤ x1 then
    ax_ri (-1) h
  else
    (ax_gr h x0 9 4).bind fun v2 =>
    (ax_ldi h v2 1 x1).bind fun v3 =>
    ax_ri v3 h
set_option maxHeartbeats 4000000 in
set_option maxRecDepth 20000 in
theorem Model_byteAt_t {l : Launch} {G : ax_G} {d : Nat} {call : ax_Cf} (hcall : ax_Hc l G d call) (x0 : Option Nat) (x1 : Int32) (h : ax_Hp) {r : ax_Rs} {h' : ax_Hp} (ho : Model_byteAt_b call x0 x1 h = some (r, h')) : ax_C l G (d + 1) y_Model_byteAt (.code y_Model_byteAt prog_12_method_33_code 2 (some (.int))) [ax_A x0, ax_I x1] h r h' := by
  refine ax_enter (by decide) (Nat.le_of_ble_eq_true rfl) ho (fun p e s mi args below meth c B E Nm => ?_)
  have B : ax_B G p s mi meth c "SchemaDeskModel" prog_12_method_33_code 2 (some (.int)) := B
  show ax_W G p l e s mi args below meth c 2 (d + 1) h 0 [(0, ax_A x0), (1, ax_I x1)] [] h (Model_byteAt_b call x0 x1 h)
  unfold Model_byteAt_b
  refine ax_iload_n B 1 d_Model_byteAt_0 rfl rfl ?_
  refine ax_aload_n B 0 d_Model_byteAt_1 rfl rfl ?_
  refine ax_getfi B cl_Model (by decide) fk_Model_127 d_Model_byteAt_2 (fun v1 => ?_)
  refine ax_icmp_ge B 17 d_Model_byteAt_5 (by decide) ?_ ?_
  · refine ax_iconst (v := (-1)) B d_Model_byteAt_17 (by decide) ?_
    exact ax_ireturn B d_Model_byteAt_18
  · refine ax_aload_n B 0 d_Model_byteAt_8 rfl rfl ?_
    refine ax_getfr B cl_Model (by decide) fk_Model_13 d_Model_byteAt_9 (fun v2 => ?_)
    refine ax_iload_n B 1 d_Model_byteAt_12 rfl rfl ?_
    refine ax_iald (kd := 1) B (by decide) rfl d_Model_byteAt_13 (fun v3 => ?_)
    refine ax_goto B 18 d_Model_byteAt_14 (by decide) ?_
    exact ax_ireturn B d_Model_byteAt_18

theorem d_Model_takePlain_0 : decode prog_12_method_36_code 0 = .ok (.aload_n 0, 1) := by decide +kernel
theorem d_Model_takePlain_1 : decode prog_12_method_36_code 1 = .ok (.getfield 48, 3) := by decide +kernel
theorem d_Model_takePlain_4 : decode prog_12_method_36_code 4 = .ok (.iload_n 1, 1) := by decide +kernel
theorem d_Model_takePlain_5 : decode prog_12_method_36_code 5 = .ok (.caload, 1) := by decide +kernel
theorem d_Model_takePlain_6 : decode prog_12_method_36_code 6 = .ok (.lookupswitch 100 #[(66, 44), (69, 82), (78, 42), (83, 94)], 42) := by decide +kernel
theorem d_Model_takePlain_48 : decode prog_12_method_36_code 48 = .ok (.iload_n 2, 1) := by decide +kernel
theorem d_Model_takePlain_49 : decode prog_12_method_36_code 49 = .ok (.ireturn, 1) := by decide +kernel
theorem d_Model_takePlain_50 : decode prog_12_method_36_code 50 = .ok (.aload_n 0, 1) := by decide +kernel
theorem d_Model_takePlain_51 : decode prog_12_method_36_code 51 = .ok (.aload_n 0, 1) := by decide +kernel
theorem d_Model_takePlain_52 : decode prog_12_method_36_code 52 = .ok (.iload_n 2, 1) := by decide +kernel
theorem d_Model_takePlain_53 : decode prog_12_method_36_code 53 = .ok (.invokevirtual 259, 3) := by decide +kernel
theorem d_Model_takePlain_56 : decode prog_12_method_36_code 56 = .ok (.i2l, 1) := by decide +kernel
theorem d_Model_takePlain_57 : decode prog_12_method_36_code 57 = .ok (.putfield 204, 3) := by decide +kernel
theorem d_Model_takePlain_60 : decode prog_12_method_36_code 60 = .ok (.aload_n 0, 1) := by decide +kernel
theorem d_Model_takePlain_61 : decode prog_12_method_36_code 61 = .ok (.getfield 204, 3) := by decide +kernel
theorem d_Model_takePlain_64 : decode prog_12_method_36_code 64 = .ok (.lconst 0, 1) := by decide +kernel
theorem d_Model_takePlain_65 : decode prog_12_method_36_code 65 = .ok (.lcmp, 1) := by decide +kernel
theorem d_Model_takePlain_66 : decode prog_12_method_36_code 66 = .ok (.ifCond .eq 12, 3) := by decide +kernel
theorem d_Model_takePlain_69 : decode prog_12_method_36_code 69 = .ok (.aload_n 0, 1) := by decide +kernel
theorem d_Model_takePlain_70 : decode prog_12_method_36_code 70 = .ok (.getfield 204, 3) := by decide +kernel
theorem d_Model_takePlain_73 : decode prog_12_method_36_code 73 = .ok (.lconst 1, 1) := by decide +kernel
theorem d_Model_takePlain_74 : decode prog_12_method_36_code 74 = .ok (.lcmp, 1) := by decide +kernel
theorem d_Model_takePlain_75 : decode prog_12_method_36_code 75 = .ok (.ifCond .ne 9, 3) := by decide +kernel
theorem d_Model_takePlain_78 : decode prog_12_method_36_code 78 = .ok (.iload_n 2, 1) := by decide +kernel
theorem d_Model_takePlain_79 : decode prog_12_method_36_code 79 = .ok (.iconst 1, 1) := by decide +kernel
theorem d_Model_takePlain_80 : decode prog_12_method_36_code 80 = .ok (.iadd, 1) := by decide +kernel
theorem d_Model_takePlain_81 : decode prog_12_method_36_code 81 = .ok (.goto 6, 3) := by decide +kernel
theorem d_Model_takePlain_84 : decode prog_12_method_36_code 84 = .ok (.iconst (-1), 1) := by decide +kernel
theorem d_Model_takePlain_85 : decode prog_12_method_36_code 85 = .ok (.iload_n 2, 1) := by decide +kernel
theorem d_Model_takePlain_86 : decode prog_12_method_36_code 86 = .ok (.isub, 1) := by decide +kernel
theorem d_Model_takePlain_87 : decode prog_12_method_36_code 87 = .ok (.ireturn, 1) := by decide +kernel
theorem d_Model_takePlain_88 : decode prog_12_method_36_code 88 = .ok (.aload_n 0, 1) := by decide +kernel
theorem d_Model_takePlain_89 : decode prog_12_method_36_code 89 = .ok (.iload_n 2, 1) := by decide +kernel
theorem d_Model_takePlain_90 : decode prog_12_method_36_code 90 = .ok (.aload_n 0, 1) := by decide +kernel
theorem d_Model_takePlain_91 : decode prog_12_method_36_code 91 = .ok (.getfield 57, 3) := by decide +kernel
theorem d_Model_takePlain_94 : decode prog_12_method_36_code 94 = .ok (.iload_n 1, 1) := by decide +kernel
theorem d_Model_takePlain_95 : decode prog_12_method_36_code 95 = .ok (.iaload, 1) := by decide +kernel
theorem d_Model_takePlain_96 : decode prog_12_method_36_code 96 = .ok (.invokevirtual 262, 3) := by decide +kernel
theorem d_Model_takePlain_99 : decode prog_12_method_36_code 99 = .ok (.ireturn, 1) := by decide +kernel
theorem d_Model_takePlain_100 : decode prog_12_method_36_code 100 = .ok (.aload_n 0, 1) := by decide +kernel
theorem d_Model_takePlain_101 : decode prog_12_method_36_code 101 = .ok (.iload_n 2, 1) := by decide +kernel
theorem d_Model_takePlain_102 : decode prog_12_method_36_code 102 = .ok (.invokevirtual 265, 3) := by decide +kernel
theorem d_Model_takePlain_105 : decode prog_12_method_36_code 105 = .ok (.ireturn, 1) := by decide +kernel
theorem d_Model_takePlain_106 : decode prog_12_method_36_code 106 = .ok (.aload_n 0, 1) := by decide +kernel
theorem d_Model_takePlain_107 : decode prog_12_method_36_code 107 = .ok (.iload_n 2, 1) := by decide +kernel
theorem d_Model_takePlain_108 : decode prog_12_method_36_code 108 = .ok (.aload_n 0, 1) := by decide +kernel
theorem d_Model_takePlain_109 : decode prog_12_method_36_code 109 = .ok (.getfield 48, 3) := by decide +kernel
theorem d_Model_takePlain_112 : decode prog_12_method_36_code 112 = .ok (.iload_n 1, 1) := by decide +kernel
theorem d_Model_takePlain_113 : decode prog_12_method_36_code 113 = .ok (.caload, 1) := by decide +kernel
theorem d_Model_takePlain_114 : decode prog_12_method_36_code 114 = .ok (.bipush 76, 2) := by decide +kernel
theorem d_Model_takePlain_116 : decode prog_12_method_36_code 116 = .ok (.if_icmp .ne 7, 3) := by decide +kernel
theorem d_Model_takePlain_119 : decode prog_12_method_36_code 119 = .ok (.iconst 1, 1) := by decide +kernel
theorem d_Model_takePlain_120 : decode prog_12_method_36_code 120 = .ok (.goto 4, 3) := by decide +kernel
theorem d_Model_takePlain_123 : decode prog_12_method_36_code 123 = .ok (.iconst 0, 1) := by decide +kernel
theorem d_Model_takePlain_124 : decode prog_12_method_36_code 124 = .ok (.invokevirtual 268, 3) := by decide +kernel
theorem d_Model_takePlain_127 : decode prog_12_method_36_code 127 = .ok (.ireturn, 1) := by decide +kernel
def Model_takePlain_jn78 (call : ax_Cf)  (x2 : Int32) (h : ax_Hp) : ax_O :=
  ax_ri (x2 + 1) h
set_option maxHeartbeats 4000000 in
set_option maxRecDepth 20000 in
theorem Model_takePlain_jq78 {l : Launch} {G : ax_G} {d : Nat} {call : ax_Cf} (hcall : ax_Hc l G d call) {p : Program} {e : Env} {s : State} {mi : MethodId} {args : Array Value} {below : List Frame} {meth : Method} {c : Code} {h0 : ax_Hp} (B : ax_B G p s mi meth c "SchemaDeskModel" prog_12_method_36_code 3 (some (.int))) (E : c.exceptionTable.isEmpty = true) (Nm : meth.name = y_Model_takePlain.name)   (x2 : Int32) (h : ax_Hp) : ax_W G p l e s mi args below meth c 3 (d + 1) h0 78 [(2, ax_I x2)] [] h (Model_takePlain_jn78 call  x2 h) := by
  unfold Model_takePlain_jn78
  refine ax_iload_n B 0 d_Model_takePlain_78 rfl rfl ?_
  refine ax_iconst (v := 1) B d_Model_takePlain_79 (by decide) ?_
  refine ax_iadd B d_Model_takePlain_80 ?_
  refine ax_goto B 87 d_Model_takePlain_81 (by decide) ?_
  exact ax_ireturn B d_Model_takePlain_87
def Model_takePlain_jn124 (call : ax_Cf)  (s0 : Int32) (s1 : Int32) (s2 : Option Nat) (h : ax_Hp) : ax_O :=
  ax_on h s2 9 <| ax_ci (call 200 [ax_A s2, ax_I s1, ax_I s0] h) fun v17 h16 =>
  ax_ri v17 h16
set_option maxHeartbeats 4000000 in
set_option maxRecDepth 20000 in
theorem Model_takePlain_jq124 {l : Launch} {G : ax_G} {d : Nat} {call : ax_Cf} (hcall : ax_Hc l G d call) {p : Program} {e : Env} {s : State} {mi : MethodId} {args : Array Value} {below : List Frame} {meth : Method} {c : Code} {h0 : ax_Hp} (B : ax_B G p s mi meth c "SchemaDeskModel" prog_12_method_36_code 3 (some (.int))) (E : c.exceptionTable.isEmpty = true) (Nm : meth.name = y_Model_takePlain.name)   (s0 : Int32) (s1 : Int32) (s2 : Option Nat) (h : ax_Hp) : ax_W G p l e s mi args below meth c 3 (d + 1) h0 124 [] [ax_I s0, ax_I s1, ax_A s2] h (Model_takePlain_jn124 call  s0 s1 s2 h) := by
  unfold Model_takePlain_jn124
  refine ax_callVi (av := [ax_I s1, ax_I s0]) (rest := []) B E hm_Model_takeNumber cl_Model rfl wd_1282 wp_79 lk_Model_268 d_Model_takePlain_124 rfl (Nat.le_of_ble_eq_true rfl) (fun _ _ hh => hcall 200 _ _ _ _ hh) (fun v17 h16 => ?_)
  exact ax_ireturn B d_Model_takePlain_127
def Model_takePlain_b (call : ax_Cf) (x0 : Option Nat) (x1 : Int32) (x2 : Int32) (h : ax_Hp) : ax_O :=
  (ax_gr h x0 9 17).bind fun v1 =>
  (ax_ldi h v1 3 x1).bind fun v2 =>
  if v2.toInt = 66 then
    ax_on h x0 9 <| ax_ci (call 197 [ax_A x0, ax_I x2] h) fun v4 h3 =>
    (ax_pf h3 x0 9 37 (ax_L (v4.toInt64))).bind fun h5 =>
    (ax_gl h5 x0 9 37).bind fun v6 =>
    if (lg_cmp v6 0) = 0 then
      Model_takePlain_jn78 call x2 h5
    else
      (ax_gl h5 x0 9 37).bind fun v7 =>
      if (lg_cmp v7 1) = 0 then
        Model_takePlain_jn78 call x2 h5
      else
        ax_ri ((-1) - x2) h5
  else
  if v2.toInt = 69 then
    (ax_gr h x0 9 20).bind fun v8 =>
    (ax_ldi h v8 1 x1).bind fun v9 =>
    ax_on h x0 9 <| ax_ci (call 196 [ax_A x0, ax_I x2, ax_I v9] h) fun v11 h10 =>
    ax_ri v11 h10
  else
  if v2.toInt = 78 then
    ax_ri x2 h
  else
  if v2.toInt = 83 then
    ax_on h x0 9 <| ax_ci (call 199 [ax_A x0, ax_I x2] h) fun v13 h12 =>
    ax_ri v13 h12
  else
  (ax_gr h x0 9 17).bind fun v14 =>
  (ax_ldi h v14 3 x1).bind fun v15 =>
  if v15 = 76 then
    Model_takePlain_jn124 call 1 x2 x0 h
  else
    Model_takePlain_jn124 call 0 x2 x0 h
set_option maxHeartbeats 4000000 in
set_option maxRecDepth 20000 in
theorem Model_takePlain_t {l : Launch} {G : ax_G} {d : Nat} {call : ax_Cf} (hcall : ax_Hc l G d call) (x0 : Option Nat) (x1 : Int32) (x2 : Int32) (h : ax_Hp) {r : ax_Rs} {h' : ax_Hp} (ho : Model_takePlain_b call x0 x1 x2 h = some (r, h')) : ax_C l G (d + 1) y_Model_takePlain (.code y_Model_takePlain prog_12_method_36_code 3 (some (.int))) [ax_A x0, ax_I x1, ax_I x2] h r h' := by
  refine ax_enter (by decide) (Nat.le_of_ble_eq_true rfl) ho (fun p e s mi args below meth c B E Nm => ?_)
  have B : ax_B G p s mi meth c "SchemaDeskModel" prog_12_method_36_code 3 (some (.int)) := B
  show ax_W G p l e s mi args below meth c 3 (d + 1) h 0 [(0, ax_A x0), (1, ax_I x1), (2, ax_I x2)] [] h (Model_takePlain_b call x0 x1 x2 h)
  unfold Model_takePlain_b
  refine ax_aload_n B 0 d_Model_takePlain_0 rfl rfl ?_
  refine ax_getfr B cl_Model (by decide) fk_Model_48 d_Model_takePlain_1 (fun v1 => ?_)
  refine ax_iload_n B 1 d_Model_takePlain_4 rfl rfl ?_
  refine ax_cald (kd := 3) B (by decide) rfl d_Model_takePlain_5 (fun v2 => ?_)
  refine ax_lookup B d_Model_takePlain_6 (by decide) ?_
  refine ⟨_, _, rfl, ⟨50, by decide, ?_⟩, ?_⟩
  · refine ax_aload_n B 0 d_Model_takePlain_50 rfl rfl ?_
    refine ax_aload_n B 0 d_Model_takePlain_51 rfl rfl ?_
    refine ax_iload_n B 2 d_Model_takePlain_52 rfl rfl ?_
    refine ax_callVi (av := [ax_I x2]) (rest := [ax_A x0]) B E hm_Model_byteAt cl_Model rfl wd_1270 wp_76 lk_Model_259 d_Model_takePlain_53 rfl (Nat.le_of_ble_eq_true rfl) (fun _ _ hh => hcall 197 _ _ _ _ hh) (fun v4 h3 => ?_)
    refine ax_i2l B d_Model_takePlain_56 ?_
    refine ax_putf (v := ax_L (v4.toInt64)) B cl_Model (by decide) fk_Model_204 (Or.inl rfl) (fun _ => rfl) (fun _ => rfl) d_Model_takePlain_57 (fun h5 => ?_)
    refine ax_aload_n B 0 d_Model_takePlain_60 rfl rfl ?_
    refine ax_getfl B cl_Model (by decide) fk_Model_204 d_Model_takePlain_61 (fun v6 => ?_)
    refine ax_lconst (v := 0) B d_Model_takePlain_64 (by decide) ?_
    refine ax_lcmp B d_Model_takePlain_65 ?_
    refine ax_if_eq B 78 d_Model_takePlain_66 (by decide) ?_ ?_
    · refine ax_sub (tv2 := [(2, ax_I x2)]) [2] rfl ?_
      exact Model_takePlain_jq78 hcall B E Nm x2 h5
    · refine ax_aload_n B 0 d_Model_takePlain_69 rfl rfl ?_
      refine ax_getfl B cl_Model (by decide) fk_Model_204 d_Model_takePlain_70 (fun v7 => ?_)
      refine ax_lconst (v := 1) B d_Model_takePlain_73 (by decide) ?_
      refine ax_lcmp B d_Model_takePlain_74 ?_
      refine ax_if_ne B 84 d_Model_takePlain_75 (by decide) ?_ ?_
      · refine ax_iconst (v := (-1)) B d_Model_takePlain_84 (by decide) ?_
        refine ax_iload_n B 2 d_Model_takePlain_85 rfl rfl ?_
        refine ax_isub B d_Model_takePlain_86 ?_
        exact ax_ireturn B d_Model_takePlain_87
      · refine ax_sub (tv2 := [(2, ax_I x2)]) [2] rfl ?_
        exact Model_takePlain_jq78 hcall B E Nm x2 h5
  refine ⟨_, _, rfl, ⟨88, by decide, ?_⟩, ?_⟩
  · refine ax_aload_n B 0 d_Model_takePlain_88 rfl rfl ?_
    refine ax_iload_n B 2 d_Model_takePlain_89 rfl rfl ?_
    refine ax_aload_n B 0 d_Model_takePlain_90 rfl rfl ?_
    refine ax_getfr B cl_Model (by decide) fk_Model_57 d_Model_takePlain_91 (fun v8 => ?_)
    refine ax_iload_n B 1 d_Model_takePlain_94 rfl rfl ?_
    refine ax_iald (kd := 1) B (by decide) rfl d_Model_takePlain_95 (fun v9 => ?_)
    refine ax_callVi (av := [ax_I x2, ax_I v9]) (rest := []) B E hm_Model_takeHalf cl_Model rfl wd_1266 wp_75 lk_Model_262 d_Model_takePlain_96 rfl (Nat.le_of_ble_eq_true rfl) (fun _ _ hh => hcall 196 _ _ _ _ hh) (fun v11 h10 => ?_)
    exact ax_ireturn B d_Model_takePlain_99
  refine ⟨_, _, rfl, ⟨48, by decide, ?_⟩, ?_⟩
  · refine ax_iload_n B 2 d_Model_takePlain_48 rfl rfl ?_
    exact ax_ireturn B d_Model_takePlain_49
  refine ⟨_, _, rfl, ⟨100, by decide, ?_⟩, ?_⟩
  · refine ax_aload_n B 0 d_Model_takePlain_100 rfl rfl ?_
    refine ax_iload_n B 2 d_Model_takePlain_101 rfl rfl ?_
    refine ax_callVi (av := [ax_I x2]) (rest := []) B E hm_Model_takeString cl_Model rfl wd_1278 wp_78 lk_Model_265 d_Model_takePlain_102 rfl (Nat.le_of_ble_eq_true rfl) (fun _ _ hh => hcall 199 _ _ _ _ hh) (fun v13 h12 => ?_)
    exact ax_ireturn B d_Model_takePlain_105
  refine ⟨106, by decide, ?_⟩
  refine ax_aload_n B 0 d_Model_takePlain_106 rfl rfl ?_
  refine ax_iload_n B 2 d_Model_takePlain_107 rfl rfl ?_
  refine ax_aload_n B 0 d_Model_takePlain_108 rfl rfl ?_
  refine ax_getfr B cl_Model (by decide) fk_Model_48 d_Model_takePlain_109 (fun v14 => ?_)
  refine ax_iload_n B 1 d_Model_takePlain_112 rfl rfl ?_
  refine ax_cald (kd := 3) B (by decide) rfl d_Model_takePlain_113 (fun v15 => ?_)
  refine ax_bipush (v := 76) B d_Model_takePlain_114 (by decide) ?_
  refine ax_icmp_ne B 123 d_Model_takePlain_116 (by decide) ?_ ?_
  · refine ax_iconst (v := 0) B d_Model_takePlain_123 (by decide) ?_
    refine ax_sub (tv2 := []) [] rfl ?_
    exact Model_takePlain_jq124 hcall B E Nm 0 x2 x0 h
  · refine ax_iconst (v := 1) B d_Model_takePlain_119 (by decide) ?_
    refine ax_goto B 124 d_Model_takePlain_120 (by decide) ?_
    refine ax_sub (tv2 := []) [] rfl ?_
    exact Model_takePlain_jq124 hcall B E Nm 1 x2 x0 h

theorem d_Model_takeString_0 : decode prog_12_method_37_code 0 = .ok (.aload_n 0, 1) := by decide +kernel
theorem d_Model_takeString_1 : decode prog_12_method_37_code 1 = .ok (.iload_n 1, 1) := by decide +kernel
theorem d_Model_takeString_2 : decode prog_12_method_37_code 2 = .ok (.bipush 13, 2) := by decide +kernel
theorem d_Model_takeString_4 : decode prog_12_method_37_code 4 = .ok (.invokevirtual 262, 3) := by decide +kernel
theorem d_Model_takeString_7 : decode prog_12_method_37_code 7 = .ok (.istore_n 2, 1) := by decide +kernel
theorem d_Model_takeString_8 : decode prog_12_method_37_code 8 = .ok (.iload_n 2, 1) := by decide +kernel
theorem d_Model_takeString_9 : decode prog_12_method_37_code 9 = .ok (.ifCond .ge 5, 3) := by decide +kernel
theorem d_Model_takeString_12 : decode prog_12_method_37_code 12 = .ok (.iload_n 2, 1) := by decide +kernel
theorem d_Model_takeString_13 : decode prog_12_method_37_code 13 = .ok (.ireturn, 1) := by decide +kernel
theorem d_Model_takeString_14 : decode prog_12_method_37_code 14 = .ok (.iconst 0, 1) := by decide +kernel
theorem d_Model_takeString_15 : decode prog_12_method_37_code 15 = .ok (.istore_n 3, 1) := by decide +kernel
theorem d_Model_takeString_16 : decode prog_12_method_37_code 16 = .ok (.iload_n 3, 1) := by decide +kernel
theorem d_Model_takeString_17 : decode prog_12_method_37_code 17 = .ok (.i2l, 1) := by decide +kernel
theorem d_Model_takeString_18 : decode prog_12_method_37_code 18 = .ok (.aload_n 0, 1) := by decide +kernel
theorem d_Model_takeString_19 : decode prog_12_method_37_code 19 = .ok (.getfield 204, 3) := by decide +kernel
theorem d_Model_takeString_22 : decode prog_12_method_37_code 22 = .ok (.lcmp, 1) := by decide +kernel
theorem d_Model_takeString_23 : decode prog_12_method_37_code 23 = .ok (.ifCond .ge 44, 3) := by decide +kernel
theorem d_Model_takeString_26 : decode prog_12_method_37_code 26 = .ok (.aload_n 0, 1) := by decide +kernel
theorem d_Model_takeString_27 : decode prog_12_method_37_code 27 = .ok (.iload_n 2, 1) := by decide +kernel
theorem d_Model_takeString_28 : decode prog_12_method_37_code 28 = .ok (.invokevirtual 259, 3) := by decide +kernel
theorem d_Model_takeString_31 : decode prog_12_method_37_code 31 = .ok (.istore 4, 2) := by decide +kernel
theorem d_Model_takeString_33 : decode prog_12_method_37_code 33 = .ok (.iload 4, 2) := by decide +kernel
theorem d_Model_takeString_35 : decode prog_12_method_37_code 35 = .ok (.bipush 32, 2) := by decide +kernel
theorem d_Model_takeString_37 : decode prog_12_method_37_code 37 = .ok (.if_icmp .lt 17, 3) := by decide +kernel
theorem d_Model_takeString_40 : decode prog_12_method_37_code 40 = .ok (.iload 4, 2) := by decide +kernel
theorem d_Model_takeString_42 : decode prog_12_method_37_code 42 = .ok (.bipush 126, 2) := by decide +kernel
theorem d_Model_takeString_44 : decode prog_12_method_37_code 44 = .ok (.if_icmp .gt 10, 3) := by decide +kernel
theorem d_Model_takeString_47 : decode prog_12_method_37_code 47 = .ok (.iload 4, 2) := by decide +kernel
theorem d_Model_takeString_49 : decode prog_12_method_37_code 49 = .ok (.bipush 34, 2) := by decide +kernel
theorem d_Model_takeString_51 : decode prog_12_method_37_code 51 = .ok (.if_icmp .ne 7, 3) := by decide +kernel
theorem d_Model_takeString_54 : decode prog_12_method_37_code 54 = .ok (.iconst (-1), 1) := by decide +kernel
theorem d_Model_takeString_55 : decode prog_12_method_37_code 55 = .ok (.iload_n 2, 1) := by decide +kernel
theorem d_Model_takeString_56 : decode prog_12_method_37_code 56 = .ok (.isub, 1) := by decide +kernel
theorem d_Model_takeString_57 : decode prog_12_method_37_code 57 = .ok (.ireturn, 1) := by decide +kernel
theorem d_Model_takeString_58 : decode prog_12_method_37_code 58 = .ok (.iinc 2 1, 3) := by decide +kernel
theorem d_Model_takeString_61 : decode prog_12_method_37_code 61 = .ok (.iinc 3 1, 3) := by decide +kernel
theorem d_Model_takeString_64 : decode prog_12_method_37_code 64 = .ok (.goto (-48), 3) := by decide +kernel
theorem d_Model_takeString_67 : decode prog_12_method_37_code 67 = .ok (.iload_n 2, 1) := by decide +kernel
theorem d_Model_takeString_68 : decode prog_12_method_37_code 68 = .ok (.ireturn, 1) := by decide +kernel
def Model_takeString_jn54 (call : ax_Cf)  (x2 : Int32) (h : ax_Hp) : ax_O :=
  ax_ri ((-1) - x2) h
set_option maxHeartbeats 4000000 in
set_option maxRecDepth 20000 in
theorem Model_takeString_jq54 {l : Launch} {G : ax_G} {d : Nat} {call : ax_Cf} (hcall : ax_Hc l G d call) {p : Program} {e : Env} {s : State} {mi : MethodId} {args : Array Value} {below : List Frame} {meth : Method} {c : Code} {h0 : ax_Hp} (B : ax_B G p s mi meth c "SchemaDeskModel" prog_12_method_37_code 5 (some (.int))) (E : c.exceptionTable.isEmpty = true) (Nm : meth.name = y_Model_takeString.name)   (x2 : Int32) (h : ax_Hp) : ax_W G p l e s mi args below meth c 5 (d + 1) h0 54 [(2, ax_I x2)] [] h (Model_takeString_jn54 call  x2 h) := by
  unfold Model_takeString_jn54
  refine ax_iconst (v := (-1)) B d_Model_takeString_54 (by decide) ?_
  refine ax_iload_n B 0 d_Model_takeString_55 rfl rfl ?_
  refine ax_isub B d_Model_takeString_56 ?_
  exact ax_ireturn B d_Model_takeString_57
def Model_takeString_bd16 (call : ax_Cf)  (k16 : Option Nat → Int32 → Int32 → ax_Hp → ax_O) (x0 : Option Nat) (x2 : Int32) (x3 : Int32) (h : ax_Hp) : ax_O :=
  (ax_gl h x0 9 37).bind fun v3 =>
  if 0 ≤ (lg_cmp (x3.toInt64) v3) then
    ax_ri x2 h
  else
    ax_on h x0 9 <| ax_ci (call 197 [ax_A x0, ax_I x2] h) fun v5 h4 =>
    if v5 < 32 then
      Model_takeString_jn54 call x2 h4
    else
      if 126 < v5 then
        Model_takeString_jn54 call x2 h4
      else
        if v5 = 34 then
          Model_takeString_jn54 call x2 h4
        else
          k16 x0 (x2 + 1) (x3 + 1) h4
def Model_takeString_lp16 (call : ax_Cf)  : Nat → Option Nat → Int32 → Int32 → ax_Hp → ax_O
  | 0 => fun _ _ _ _ => none
  | n + 1 => Model_takeString_bd16 call  (Model_takeString_lp16 call  n)
set_option maxHeartbeats 4000000 in
set_option maxRecDepth 20000 in
theorem Model_takeString_lb16 {l : Launch} {G : ax_G} {d : Nat} {call : ax_Cf} (hcall : ax_Hc l G d call) {p : Program} {e : Env} {s : State} {mi : MethodId} {args : Array Value} {below : List Frame} {meth : Method} {c : Code} {h0 : ax_Hp} (B : ax_B G p s mi meth c "SchemaDeskModel" prog_12_method_37_code 5 (some (.int))) (E : c.exceptionTable.isEmpty = true) (Nm : meth.name = y_Model_takeString.name)   {k16 : Option Nat → Int32 → Int32 → ax_Hp → ax_O} (hk16 : ∀ (x0 : Option Nat) (x2 : Int32) (x3 : Int32) (h : ax_Hp), ax_W G p l e s mi args below meth c 5 (d + 1) h0 16 [(0, ax_A x0), (2, ax_I x2), (3, ax_I x3)] [] h (k16 x0 x2 x3 h)) (x0 : Option Nat) (x2 : Int32) (x3 : Int32) (h : ax_Hp) : ax_W G p l e s mi args below meth c 5 (d + 1) h0 16 [(0, ax_A x0), (2, ax_I x2), (3, ax_I x3)] [] h (Model_takeString_bd16 call  k16 x0 x2 x3 h) := by
  unfold Model_takeString_bd16
  refine ax_iload_n B 2 d_Model_takeString_16 rfl rfl ?_
  refine ax_i2l B d_Model_takeString_17 ?_
  refine ax_aload_n B 0 d_Model_takeString_18 rfl rfl ?_
  refine ax_getfl B cl_Model (by decide) fk_Model_204 d_Model_takeString_19 (fun v3 => ?_)
  refine ax_lcmp B d_Model_takeString_22 ?_
  refine ax_if_ge B 67 d_Model_takeString_23 (by decide) ?_ ?_
  · refine ax_iload_n B 1 d_Model_takeString_67 rfl rfl ?_
    exact ax_ireturn B d_Model_takeString_68
  · refine ax_aload_n B 0 d_Model_takeString_26 rfl rfl ?_
    refine ax_iload_n B 1 d_Model_takeString_27 rfl rfl ?_
    refine ax_callVi (av := [ax_I x2]) (rest := []) B E hm_Model_byteAt cl_Model rfl wd_1270 wp_76 lk_Model_259 d_Model_takeString_28 rfl (Nat.le_of_ble_eq_true rfl) (fun _ _ hh => hcall 197 _ _ _ _ hh) (fun v5 h4 => ?_)
    refine ax_istore (tv2 := [(4, ax_I v5), (0, ax_A x0), (2, ax_I x2), (3, ax_I x3)]) B d_Model_takeString_31 (by decide) rfl ?_
    refine ax_iload B 0 d_Model_takeString_33 rfl ?_
    refine ax_bipush (v := 32) B d_Model_takeString_35 (by decide) ?_
    refine ax_icmp_lt B 54 d_Model_takeString_37 (by decide) ?_ ?_
    · refine ax_sub (tv2 := [(2, ax_I x2)]) [2] rfl ?_
      exact Model_takeString_jq54 hcall B E Nm x2 h4
    · refine ax_iload B 0 d_Model_takeString_40 rfl ?_
      refine ax_bipush (v := 126) B d_Model_takeString_42 (by decide) ?_
      refine ax_icmp_gt B 54 d_Model_takeString_44 (by decide) ?_ ?_
      · refine ax_sub (tv2 := [(2, ax_I x2)]) [2] rfl ?_
        exact Model_takeString_jq54 hcall B E Nm x2 h4
      · refine ax_iload B 0 d_Model_takeString_47 rfl ?_
        refine ax_bipush (v := 34) B d_Model_takeString_49 (by decide) ?_
        refine ax_icmp_ne B 58 d_Model_takeString_51 (by decide) ?_ ?_
        · refine ax_iinc (v := x2 + 1) (tv2 := [(2, ax_I (x2 + 1)), (4, ax_I v5), (0, ax_A x0), (3, ax_I x3)]) B 2 d_Model_takeString_58 rfl (congrArg (_ + ·) (by decide)) (by decide) rfl ?_
          refine ax_iinc (v := x3 + 1) (tv2 := [(3, ax_I (x3 + 1)), (2, ax_I (x2 + 1)), (4, ax_I v5), (0, ax_A x0)]) B 3 d_Model_takeString_61 rfl (congrArg (_ + ·) (by decide)) (by decide) rfl ?_
          refine ax_goto B 16 d_Model_takeString_64 (by decide) ?_
          refine ax_sub (tv2 := [(0, ax_A x0), (2, ax_I (x2 + 1)), (3, ax_I (x3 + 1))]) [3, 1, 0] rfl ?_
          exact hk16 x0 (x2 + 1) (x3 + 1) h4
        · refine ax_sub (tv2 := [(2, ax_I x2)]) [2] rfl ?_
          exact Model_takeString_jq54 hcall B E Nm x2 h4
theorem Model_takeString_lq16 {l : Launch} {G : ax_G} {d : Nat} {call : ax_Cf} (hcall : ax_Hc l G d call) {p : Program} {e : Env} {s : State} {mi : MethodId} {args : Array Value} {below : List Frame} {meth : Method} {c : Code} {h0 : ax_Hp} (B : ax_B G p s mi meth c "SchemaDeskModel" prog_12_method_37_code 5 (some (.int))) (E : c.exceptionTable.isEmpty = true) (Nm : meth.name = y_Model_takeString.name)   : ∀ (n : Nat) (x0 : Option Nat) (x2 : Int32) (x3 : Int32) (h : ax_Hp), ax_W G p l e s mi args below meth c 5 (d + 1) h0 16 [(0, ax_A x0), (2, ax_I x2), (3, ax_I x3)] [] h (Model_takeString_lp16 call  n x0 x2 x3 h)
  | 0, _, _, _, _ => ax_none
  | n + 1, x0, x2, x3, h => Model_takeString_lb16 hcall B E Nm   (Model_takeString_lq16 hcall B E Nm   n) x0 x2 x3 h
def Model_takeString_b (call : ax_Cf) (x0 : Option Nat) (x1 : Int32) (h : ax_Hp) : ax_O :=
  ax_on h x0 9 <| ax_ci (call 196 [ax_A x0, ax_I x1, ax_I 13] h) fun v2 h1 =>
  if 0 ≤ v2 then
    Model_takeString_lp16 call ax_fuel x0 v2 0 h1
  else
    ax_ri v2 h1
set_option maxHeartbeats 4000000 in
set_option maxRecDepth 20000 in
theorem Model_takeString_t {l : Launch} {G : ax_G} {d : Nat} {call : ax_Cf} (hcall : ax_Hc l G d call) (x0 : Option Nat) (x1 : Int32) (h : ax_Hp) {r : ax_Rs} {h' : ax_Hp} (ho : Model_takeString_b call x0 x1 h = some (r, h')) : ax_C l G (d + 1) y_Model_takeString (.code y_Model_takeString prog_12_method_37_code 5 (some (.int))) [ax_A x0, ax_I x1] h r h' := by
  refine ax_enter (by decide) (Nat.le_of_ble_eq_true rfl) ho (fun p e s mi args below meth c B E Nm => ?_)
  have B : ax_B G p s mi meth c "SchemaDeskModel" prog_12_method_37_code 5 (some (.int)) := B
  show ax_W G p l e s mi args below meth c 5 (d + 1) h 0 [(0, ax_A x0), (1, ax_I x1)] [] h (Model_takeString_b call x0 x1 h)
  unfold Model_takeString_b
  refine ax_aload_n B 0 d_Model_takeString_0 rfl rfl ?_
  refine ax_iload_n B 1 d_Model_takeString_1 rfl rfl ?_
  refine ax_bipush (v := 13) B d_Model_takeString_2 (by decide) ?_
  refine ax_callVi (av := [ax_I x1, ax_I 13]) (rest := []) B E hm_Model_takeHalf cl_Model rfl wd_1266 wp_75 lk_Model_262 d_Model_takeString_4 rfl (Nat.le_of_ble_eq_true rfl) (fun _ _ hh => hcall 196 _ _ _ _ hh) (fun v2 h1 => ?_)
  refine ax_istore_n (tv2 := [(2, ax_I v2), (0, ax_A x0), (1, ax_I x1)]) B d_Model_takeString_7 rfl (by decide) rfl ?_
  refine ax_iload_n B 0 d_Model_takeString_8 rfl rfl ?_
  refine ax_if_ge B 14 d_Model_takeString_9 (by decide) ?_ ?_
  · refine ax_iconst (v := 0) B d_Model_takeString_14 (by decide) ?_
    refine ax_istore_n (tv2 := [(3, ax_I 0), (2, ax_I v2), (0, ax_A x0), (1, ax_I x1)]) B d_Model_takeString_15 rfl (by decide) rfl ?_
    refine ax_sub (tv2 := [(0, ax_A x0), (2, ax_I v2), (3, ax_I 0)]) [2, 1, 0] rfl ?_
    exact Model_takeString_lq16 hcall B E Nm ax_fuel x0 v2 0 h1
  · refine ax_iload_n B 0 d_Model_takeString_12 rfl rfl ?_
    exact ax_ireturn B d_Model_takeString_13

theorem d_Model_takeNumber_0 : decode prog_12_method_34_code 0 = .ok (.iload_n 2, 1) := by decide +kernel
theorem d_Model_takeNumber_1 : decode prog_12_method_34_code 1 = .ok (.ifCond .eq 8, 3) := by decide +kernel
theorem d_Model_takeNumber_4 : decode prog_12_method_34_code 4 = .ok (.bipush 9, 2) := by decide +kernel
theorem d_Model_takeNumber_6 : decode prog_12_method_34_code 6 = .ok (.goto 4, 3) := by decide +kernel
theorem d_Model_takeNumber_9 : decode prog_12_method_34_code 9 = .ok (.iconst 4, 1) := by decide +kernel
theorem d_Model_takeNumber_10 : decode prog_12_method_34_code 10 = .ok (.istore_n 3, 1) := by decide +kernel
theorem d_Model_takeNumber_11 : decode prog_12_method_34_code 11 = .ok (.iload_n 2, 1) := by decide +kernel
theorem d_Model_takeNumber_12 : decode prog_12_method_34_code 12 = .ok (.ifCond .eq 7, 3) := by decide +kernel
theorem d_Model_takeNumber_15 : decode prog_12_method_34_code 15 = .ok (.iconst 1, 1) := by decide +kernel
theorem d_Model_takeNumber_16 : decode prog_12_method_34_code 16 = .ok (.goto 5, 3) := by decide +kernel
theorem d_Model_takeNumber_19 : decode prog_12_method_34_code 19 = .ok (.bipush 15, 2) := by decide +kernel
theorem d_Model_takeNumber_21 : decode prog_12_method_34_code 21 = .ok (.istore 4, 2) := by decide +kernel
theorem d_Model_takeNumber_23 : decode prog_12_method_34_code 23 = .ok (.iload_n 1, 1) := by decide +kernel
theorem d_Model_takeNumber_24 : decode prog_12_method_34_code 24 = .ok (.istore 5, 2) := by decide +kernel
theorem d_Model_takeNumber_26 : decode prog_12_method_34_code 26 = .ok (.lconst 0, 1) := by decide +kernel
theorem d_Model_takeNumber_27 : decode prog_12_method_34_code 27 = .ok (.lstore 6, 2) := by decide +kernel
theorem d_Model_takeNumber_29 : decode prog_12_method_34_code 29 = .ok (.iconst 1, 1) := by decide +kernel
theorem d_Model_takeNumber_30 : decode prog_12_method_34_code 30 = .ok (.istore 8, 2) := by decide +kernel
theorem d_Model_takeNumber_32 : decode prog_12_method_34_code 32 = .ok (.iload 8, 2) := by decide +kernel
theorem d_Model_takeNumber_34 : decode prog_12_method_34_code 34 = .ok (.ifCond .eq 87, 3) := by decide +kernel
theorem d_Model_takeNumber_37 : decode prog_12_method_34_code 37 = .ok (.iload 5, 2) := by decide +kernel
theorem d_Model_takeNumber_39 : decode prog_12_method_34_code 39 = .ok (.iload_n 1, 1) := by decide +kernel
theorem d_Model_takeNumber_40 : decode prog_12_method_34_code 40 = .ok (.isub, 1) := by decide +kernel
theorem d_Model_takeNumber_41 : decode prog_12_method_34_code 41 = .ok (.istore 9, 2) := by decide +kernel
theorem d_Model_takeNumber_43 : decode prog_12_method_34_code 43 = .ok (.aload_n 0, 1) := by decide +kernel
theorem d_Model_takeNumber_44 : decode prog_12_method_34_code 44 = .ok (.iload 5, 2) := by decide +kernel
theorem d_Model_takeNumber_46 : decode prog_12_method_34_code 46 = .ok (.invokevirtual 259, 3) := by decide +kernel
theorem d_Model_takeNumber_49 : decode prog_12_method_34_code 49 = .ok (.istore 10, 2) := by decide +kernel
theorem d_Model_takeNumber_51 : decode prog_12_method_34_code 51 = .ok (.iload 10, 2) := by decide +kernel
theorem d_Model_takeNumber_53 : decode prog_12_method_34_code 53 = .ok (.ifCond .lt 26, 3) := by decide +kernel
theorem d_Model_takeNumber_56 : decode prog_12_method_34_code 56 = .ok (.iload 9, 2) := by decide +kernel
theorem d_Model_takeNumber_58 : decode prog_12_method_34_code 58 = .ok (.iload_n 3, 1) := by decide +kernel
theorem d_Model_takeNumber_59 : decode prog_12_method_34_code 59 = .ok (.if_icmp .ne 10, 3) := by decide +kernel
theorem d_Model_takeNumber_62 : decode prog_12_method_34_code 62 = .ok (.iload 10, 2) := by decide +kernel
theorem d_Model_takeNumber_64 : decode prog_12_method_34_code 64 = .ok (.iload 4, 2) := by decide +kernel
theorem d_Model_takeNumber_66 : decode prog_12_method_34_code 66 = .ok (.if_icmp .gt 13, 3) := by decide +kernel
theorem d_Model_takeNumber_69 : decode prog_12_method_34_code 69 = .ok (.iload 9, 2) := by decide +kernel
theorem d_Model_takeNumber_71 : decode prog_12_method_34_code 71 = .ok (.ifCond .le 13, 3) := by decide +kernel
theorem d_Model_takeNumber_74 : decode prog_12_method_34_code 74 = .ok (.iload 10, 2) := by decide +kernel
theorem d_Model_takeNumber_76 : decode prog_12_method_34_code 76 = .ok (.ifCond .ne 8, 3) := by decide +kernel
theorem d_Model_takeNumber_79 : decode prog_12_method_34_code 79 = .ok (.iconst (-1), 1) := by decide +kernel
theorem d_Model_takeNumber_80 : decode prog_12_method_34_code 80 = .ok (.iload 5, 2) := by decide +kernel
theorem d_Model_takeNumber_82 : decode prog_12_method_34_code 82 = .ok (.isub, 1) := by decide +kernel
theorem d_Model_takeNumber_83 : decode prog_12_method_34_code 83 = .ok (.ireturn, 1) := by decide +kernel
theorem d_Model_takeNumber_84 : decode prog_12_method_34_code 84 = .ok (.lload 6, 2) := by decide +kernel
theorem d_Model_takeNumber_86 : decode prog_12_method_34_code 86 = .ok (.iload 10, 2) := by decide +kernel
theorem d_Model_takeNumber_88 : decode prog_12_method_34_code 88 = .ok (.bipush 127, 2) := by decide +kernel
theorem d_Model_takeNumber_90 : decode prog_12_method_34_code 90 = .ok (.iand, 1) := by decide +kernel
theorem d_Model_takeNumber_91 : decode prog_12_method_34_code 91 = .ok (.i2l, 1) := by decide +kernel
theorem d_Model_takeNumber_92 : decode prog_12_method_34_code 92 = .ok (.bipush 7, 2) := by decide +kernel
theorem d_Model_takeNumber_94 : decode prog_12_method_34_code 94 = .ok (.iload 9, 2) := by decide +kernel
theorem d_Model_takeNumber_96 : decode prog_12_method_34_code 96 = .ok (.imul, 1) := by decide +kernel
theorem d_Model_takeNumber_97 : decode prog_12_method_34_code 97 = .ok (.lshl, 1) := by decide +kernel
theorem d_Model_takeNumber_98 : decode prog_12_method_34_code 98 = .ok (.lor, 1) := by decide +kernel
theorem d_Model_takeNumber_99 : decode prog_12_method_34_code 99 = .ok (.lstore 6, 2) := by decide +kernel
theorem d_Model_takeNumber_101 : decode prog_12_method_34_code 101 = .ok (.iload 10, 2) := by decide +kernel
theorem d_Model_takeNumber_103 : decode prog_12_method_34_code 103 = .ok (.bipush 127, 2) := by decide +kernel
theorem d_Model_takeNumber_105 : decode prog_12_method_34_code 105 = .ok (.if_icmp .le 7, 3) := by decide +kernel
theorem d_Model_takeNumber_108 : decode prog_12_method_34_code 108 = .ok (.iconst 1, 1) := by decide +kernel
theorem d_Model_takeNumber_109 : decode prog_12_method_34_code 109 = .ok (.goto 4, 3) := by decide +kernel
theorem d_Model_takeNumber_112 : decode prog_12_method_34_code 112 = .ok (.iconst 0, 1) := by decide +kernel
theorem d_Model_takeNumber_113 : decode prog_12_method_34_code 113 = .ok (.istore 8, 2) := by decide +kernel
theorem d_Model_takeNumber_115 : decode prog_12_method_34_code 115 = .ok (.iinc 5 1, 3) := by decide +kernel
theorem d_Model_takeNumber_118 : decode prog_12_method_34_code 118 = .ok (.goto (-86), 3) := by decide +kernel
theorem d_Model_takeNumber_121 : decode prog_12_method_34_code 121 = .ok (.aload_n 0, 1) := by decide +kernel
theorem d_Model_takeNumber_122 : decode prog_12_method_34_code 122 = .ok (.lload 6, 2) := by decide +kernel
theorem d_Model_takeNumber_124 : decode prog_12_method_34_code 124 = .ok (.lconst 1, 1) := by decide +kernel
theorem d_Model_takeNumber_125 : decode prog_12_method_34_code 125 = .ok (.land, 1) := by decide +kernel
theorem d_Model_takeNumber_126 : decode prog_12_method_34_code 126 = .ok (.lconst 0, 1) := by decide +kernel
theorem d_Model_takeNumber_127 : decode prog_12_method_34_code 127 = .ok (.lcmp, 1) := by decide +kernel
theorem d_Model_takeNumber_128 : decode prog_12_method_34_code 128 = .ok (.ifCond .ne 10, 3) := by decide +kernel
theorem d_Model_takeNumber_131 : decode prog_12_method_34_code 131 = .ok (.lload 6, 2) := by decide +kernel
theorem d_Model_takeNumber_133 : decode prog_12_method_34_code 133 = .ok (.iconst 1, 1) := by decide +kernel
theorem d_Model_takeNumber_134 : decode prog_12_method_34_code 134 = .ok (.lushr, 1) := by decide +kernel
theorem d_Model_takeNumber_135 : decode prog_12_method_34_code 135 = .ok (.goto 10, 3) := by decide +kernel
theorem d_Model_takeNumber_138 : decode prog_12_method_34_code 138 = .ok (.lload 6, 2) := by decide +kernel
theorem d_Model_takeNumber_140 : decode prog_12_method_34_code 140 = .ok (.iconst 1, 1) := by decide +kernel
theorem d_Model_takeNumber_141 : decode prog_12_method_34_code 141 = .ok (.lushr, 1) := by decide +kernel
theorem d_Model_takeNumber_142 : decode prog_12_method_34_code 142 = .ok (.lneg, 1) := by decide +kernel
theorem d_Model_takeNumber_143 : decode prog_12_method_34_code 143 = .ok (.lconst 1, 1) := by decide +kernel
theorem d_Model_takeNumber_144 : decode prog_12_method_34_code 144 = .ok (.lsub, 1) := by decide +kernel
theorem d_Model_takeNumber_145 : decode prog_12_method_34_code 145 = .ok (.putfield 204, 3) := by decide +kernel
theorem d_Model_takeNumber_148 : decode prog_12_method_34_code 148 = .ok (.iload 5, 2) := by decide +kernel
theorem d_Model_takeNumber_150 : decode prog_12_method_34_code 150 = .ok (.ireturn, 1) := by decide +kernel
def Model_takeNumber_jn145 (call : ax_Cf)  (x5 : Int32) (s0 : Int64) (s1 : Option Nat) (h : ax_Hp) : ax_O :=
  (ax_pf h s1 9 37 (ax_L s0)).bind fun h1 =>
  ax_ri x5 h1
set_option maxHeartbeats 4000000 in
set_option maxRecDepth 20000 in
theorem Model_takeNumber_jq145 {l : Launch} {G : ax_G} {d : Nat} {call : ax_Cf} (hcall : ax_Hc l G d call) {p : Program} {e : Env} {s : State} {mi : MethodId} {args : Array Value} {below : List Frame} {meth : Method} {c : Code} {h0 : ax_Hp} (B : ax_B G p s mi meth c "SchemaDeskModel" prog_12_method_34_code 11 (some (.int))) (E : c.exceptionTable.isEmpty = true) (Nm : meth.name = y_Model_takeNumber.name)   (x5 : Int32) (s0 : Int64) (s1 : Option Nat) (h : ax_Hp) : ax_W G p l e s mi args below meth c 11 (d + 1) h0 145 [(5, ax_I x5)] [ax_L s0, ax_A s1] h (Model_takeNumber_jn145 call  x5 s0 s1 h) := by
  unfold Model_takeNumber_jn145
  refine ax_putf (v := ax_L s0) B cl_Model (by decide) fk_Model_204 (Or.inl rfl) (fun _ => rfl) (fun _ => rfl) d_Model_takeNumber_145 (fun h1 => ?_)
  refine ax_iload B 0 d_Model_takeNumber_148 rfl ?_
  exact ax_ireturn B d_Model_takeNumber_150
def Model_takeNumber_jn79 (call : ax_Cf)  (x5 : Int32) (h : ax_Hp) : ax_O :=
  ax_ri ((-1) - x5) h
set_option maxHeartbeats 4000000 in
set_option maxRecDepth 20000 in
theorem Model_takeNumber_jq79 {l : Launch} {G : ax_G} {d : Nat} {call : ax_Cf} (hcall : ax_Hc l G d call) {p : Program} {e : Env} {s : State} {mi : MethodId} {args : Array Value} {below : List Frame} {meth : Method} {c : Code} {h0 : ax_Hp} (B : ax_B G p s mi meth c "SchemaDeskModel" prog_12_method_34_code 11 (some (.int))) (E : c.exceptionTable.isEmpty = true) (Nm : meth.name = y_Model_takeNumber.name)   (x5 : Int32) (h : ax_Hp) : ax_W G p l e s mi args below meth c 11 (d + 1) h0 79 [(5, ax_I x5)] [] h (Model_takeNumber_jn79 call  x5 h) := by
  unfold Model_takeNumber_jn79
  refine ax_iconst (v := (-1)) B d_Model_takeNumber_79 (by decide) ?_
  refine ax_iload B 0 d_Model_takeNumber_80 rfl ?_
  refine ax_isub B d_Model_takeNumber_82 ?_
  exact ax_ireturn B d_Model_takeNumber_83
def Model_takeNumber_jn113 (call : ax_Cf) (k32 : Option Nat → Int32 → Int32 → Int32 → Int32 → Int64 → Int32 → ax_Hp → ax_O) (x0 : Option Nat) (x1 : Int32) (x3 : Int32) (x4 : Int32) (x5 : Int32) (x6 : Int64) (s0 : Int32) (h : ax_Hp) : ax_O :=
  k32 x0 x1 x3 x4 (x5 + 1) x6 s0 h
set_option maxHeartbeats 4000000 in
set_option maxRecDepth 20000 in
theorem Model_takeNumber_jq113 {l : Launch} {G : ax_G} {d : Nat} {call : ax_Cf} (hcall : ax_Hc l G d call) {p : Program} {e : Env} {s : State} {mi : MethodId} {args : Array Value} {below : List Frame} {meth : Method} {c : Code} {h0 : ax_Hp} (B : ax_B G p s mi meth c "SchemaDeskModel" prog_12_method_34_code 11 (some (.int))) (E : c.exceptionTable.isEmpty = true) (Nm : meth.name = y_Model_takeNumber.name) (k32 : Option Nat → Int32 → Int32 → Int32 → Int32 → Int64 → Int32 → ax_Hp → ax_O) (hk32 : ∀ (x0 : Option Nat) (x1 : Int32) (x3 : Int32) (x4 : Int32) (x5 : Int32) (x6 : Int64) (x8 : Int32) (h : ax_Hp), ax_W G p l e s mi args below meth c 11 (d + 1) h0 32 [(0, ax_A x0), (1, ax_I x1), (3, ax_I x3), (4, ax_I x4), (5, ax_I x5), (6, ax_L x6), (8, ax_I x8)] [] h (k32 x0 x1 x3 x4 x5 x6 x8 h)) (x0 : Option Nat) (x1 : Int32) (x3 : Int32) (x4 : Int32) (x5 : Int32) (x6 : Int64) (s0 : Int32) (h : ax_Hp) : ax_W G p l e s mi args below meth c 11 (d + 1) h0 113 [(0, ax_A x0), (1, ax_I x1), (3, ax_I x3), (4, ax_I x4), (5, ax_I x5), (6, ax_L x6)] [ax_I s0] h (Model_takeNumber_jn113 call k32 x0 x1 x3 x4 x5 x6 s0 h) := by
  unfold Model_takeNumber_jn113
  refine ax_istore (tv2 := [(8, ax_I s0), (0, ax_A x0), (1, ax_I x1), (3, ax_I x3), (4, ax_I x4), (5, ax_I x5), (6, ax_L x6)]) B d_Model_takeNumber_113 (by decide) rfl ?_
  refine ax_iinc (v := x5 + 1) (tv2 := [(5, ax_I (x5 + 1)), (8, ax_I s0), (0, ax_A x0), (1, ax_I x1), (3, ax_I x3), (4, ax_I x4), (6, ax_L x6)]) B 5 d_Model_takeNumber_115 rfl (congrArg (_ + ·) (by decide)) (by decide) rfl ?_
  refine ax_goto B 32 d_Model_takeNumber_118 (by decide) ?_
  refine ax_sub (tv2 := [(0, ax_A x0), (1, ax_I x1), (3, ax_I x3), (4, ax_I x4), (5, ax_I (x5 + 1)), (6, ax_L x6), (8, ax_I s0)]) [2, 3, 4, 5, 0, 6, 1] rfl ?_
  exact hk32 x0 x1 x3 x4 (x5 + 1) x6 s0 h
def Model_takeNumber_jn84 (call : ax_Cf) (k32 : Option Nat → Int32 → Int32 → Int32 → Int32 → Int64 → Int32 → ax_Hp → ax_O) (x0 : Option Nat) (x1 : Int32) (x3 : Int32) (x4 : Int32) (x5 : Int32) (x6 : Int64) (x9 : Int32) (x10 : Int32) (h : ax_Hp) : ax_O :=
  if x10 ≤ 127 then
    Model_takeNumber_jn113 call k32 x0 x1 x3 x4 x5 (x6 ||| (((x10 &&& 127).toInt64) <<< ((7 * x9).toInt64 &&& 63))) 0 h
  else
    Model_takeNumber_jn113 call k32 x0 x1 x3 x4 x5 (x6 ||| (((x10 &&& 127).toInt64) <<< ((7 * x9).toInt64 &&& 63))) 1 h
set_option maxHeartbeats 4000000 in
set_option maxRecDepth 20000 in
theorem Model_takeNumber_jq84 {l : Launch} {G : ax_G} {d : Nat} {call : ax_Cf} (hcall : ax_Hc l G d call) {p : Program} {e : Env} {s : State} {mi : MethodId} {args : Array Value} {below : List Frame} {meth : Method} {c : Code} {h0 : ax_Hp} (B : ax_B G p s mi meth c "SchemaDeskModel" prog_12_method_34_code 11 (some (.int))) (E : c.exceptionTable.isEmpty = true) (Nm : meth.name = y_Model_takeNumber.name) (k32 : Option Nat → Int32 → Int32 → Int32 → Int32 → Int64 → Int32 → ax_Hp → ax_O) (hk32 : ∀ (x0 : Option Nat) (x1 : Int32) (x3 : Int32) (x4 : Int32) (x5 : Int32) (x6 : Int64) (x8 : Int32) (h : ax_Hp), ax_W G p l e s mi args below meth c 11 (d + 1) h0 32 [(0, ax_A x0), (1, ax_I x1), (3, ax_I x3), (4, ax_I x4), (5, ax_I x5), (6, ax_L x6), (8, ax_I x8)] [] h (k32 x0 x1 x3 x4 x5 x6 x8 h)) (x0 : Option Nat) (x1 : Int32) (x3 : Int32) (x4 : Int32) (x5 : Int32) (x6 : Int64) (x9 : Int32) (x10 : Int32) (h : ax_Hp) : ax_W G p l e s mi args below meth c 11 (d + 1) h0 84 [(0, ax_A x0), (1, ax_I x1), (3, ax_I x3), (4, ax_I x4), (5, ax_I x5), (6, ax_L x6), (9, ax_I x9), (10, ax_I x10)] [] h (Model_takeNumber_jn84 call k32 x0 x1 x3 x4 x5 x6 x9 x10 h) := by
  unfold Model_takeNumber_jn84
  refine ax_lload B 5 d_Model_takeNumber_84 rfl ?_
  refine ax_iload B 7 d_Model_takeNumber_86 rfl ?_
  refine ax_bipush (v := 127) B d_Model_takeNumber_88 (by decide) ?_
  refine ax_iand B d_Model_takeNumber_90 ?_
  refine ax_i2l B d_Model_takeNumber_91 ?_
  refine ax_bipush (v := 7) B d_Model_takeNumber_92 (by decide) ?_
  refine ax_iload B 6 d_Model_takeNumber_94 rfl ?_
  refine ax_imul B d_Model_takeNumber_96 ?_
  refine ax_lshl B d_Model_takeNumber_97 ?_
  refine ax_lor B d_Model_takeNumber_98 ?_
  refine ax_lstore (tv2 := [(6, ax_L (x6 ||| (((x10 &&& 127).toInt64) <<< ((7 * x9).toInt64 &&& 63)))), (0, ax_A x0), (1, ax_I x1), (3, ax_I x3), (4, ax_I x4), (5, ax_I x5), (9, ax_I x9), (10, ax_I x10)]) B d_Model_takeNumber_99 (by decide) rfl ?_
  refine ax_iload B 7 d_Model_takeNumber_101 rfl ?_
  refine ax_bipush (v := 127) B d_Model_takeNumber_103 (by decide) ?_
  refine ax_icmp_le B 112 d_Model_takeNumber_105 (by decide) ?_ ?_
  · refine ax_iconst (v := 0) B d_Model_takeNumber_112 (by decide) ?_
    refine ax_sub (tv2 := [(0, ax_A x0), (1, ax_I x1), (3, ax_I x3), (4, ax_I x4), (5, ax_I x5), (6, ax_L (x6 ||| (((x10 &&& 127).toInt64) <<< ((7 * x9).toInt64 &&& 63))))]) [1, 2, 3, 4, 5, 0] rfl ?_
    exact Model_takeNumber_jq113 hcall B E Nm k32 hk32 x0 x1 x3 x4 x5 (x6 ||| (((x10 &&& 127).toInt64) <<< ((7 * x9).toInt64 &&& 63))) 0 h
  · refine ax_iconst (v := 1) B d_Model_takeNumber_108 (by decide) ?_
    refine ax_goto B 113 d_Model_takeNumber_109 (by decide) ?_
    refine ax_sub (tv2 := [(0, ax_A x0), (1, ax_I x1), (3, ax_I x3), (4, ax_I x4), (5, ax_I x5), (6, ax_L (x6 ||| (((x10 &&& 127).toInt64) <<< ((7 * x9).toInt64 &&& 63))))]) [1, 2, 3, 4, 5, 0] rfl ?_
    exact Model_takeNumber_jq113 hcall B E Nm k32 hk32 x0 x1 x3 x4 x5 (x6 ||| (((x10 &&& 127).toInt64) <<< ((7 * x9).toInt64 &&& 63))) 1 h
def Model_takeNumber_jn69 (call : ax_Cf) (k32 : Option Nat → Int32 → Int32 → Int32 → Int32 → Int64 → Int32 → ax_Hp → ax_O) (x0 : Option Nat) (x1 : Int32) (x3 : Int32) (x4 : Int32) (x5 : Int32) (x6 : Int64) (x9 : Int32) (x10 : Int32) (h : ax_Hp) : ax_O :=
  if x9 ≤ 0 then
    Model_takeNumber_jn84 call k32 x0 x1 x3 x4 x5 x6 x9 x10 h
  else
    if x10 = 0 then
      Model_takeNumber_jn79 call x5 h
    else
      Model_takeNumber_jn84 call k32 x0 x1 x3 x4 x5 x6 x9 x10 h
set_option maxHeartbeats 4000000 in
set_option maxRecDepth 20000 in
theorem Model_takeNumber_jq69 {l : Launch} {G : ax_G} {d : Nat} {call : ax_Cf} (hcall : ax_Hc l G d call) {p : Program} {e : Env} {s : State} {mi : MethodId} {args : Array Value} {below : List Frame} {meth : Method} {c : Code} {h0 : ax_Hp} (B : ax_B G p s mi meth c "SchemaDeskModel" prog_12_method_34_code 11 (some (.int))) (E : c.exceptionTable.isEmpty = true) (Nm : meth.name = y_Model_takeNumber.name) (k32 : Option Nat → Int32 → Int32 → Int32 → Int32 → Int64 → Int32 → ax_Hp → ax_O) (hk32 : ∀ (x0 : Option Nat) (x1 : Int32) (x3 : Int32) (x4 : Int32) (x5 : Int32) (x6 : Int64) (x8 : Int32) (h : ax_Hp), ax_W G p l e s mi args below meth c 11 (d + 1) h0 32 [(0, ax_A x0), (1, ax_I x1), (3, ax_I x3), (4, ax_I x4), (5, ax_I x5), (6, ax_L x6), (8, ax_I x8)] [] h (k32 x0 x1 x3 x4 x5 x6 x8 h)) (x0 : Option Nat) (x1 : Int32) (x3 : Int32) (x4 : Int32) (x5 : Int32) (x6 : Int64) (x9 : Int32) (x10 : Int32) (h : ax_Hp) : ax_W G p l e s mi args below meth c 11 (d + 1) h0 69 [(0, ax_A x0), (1, ax_I x1), (3, ax_I x3), (4, ax_I x4), (5, ax_I x5), (6, ax_L x6), (9, ax_I x9), (10, ax_I x10)] [] h (Model_takeNumber_jn69 call k32 x0 x1 x3 x4 x5 x6 x9 x10 h) := by
  unfold Model_takeNumber_jn69
  refine ax_iload B 6 d_Model_takeNumber_69 rfl ?_
  refine ax_if_le B 84 d_Model_takeNumber_71 (by decide) ?_ ?_
  · refine ax_sub (tv2 := [(0, ax_A x0), (1, ax_I x1), (3, ax_I x3), (4, ax_I x4), (5, ax_I x5), (6, ax_L x6), (9, ax_I x9), (10, ax_I x10)]) [0, 1, 2, 3, 4, 5, 6, 7] rfl ?_
    exact Model_takeNumber_jq84 hcall B E Nm k32 hk32 x0 x1 x3 x4 x5 x6 x9 x10 h
  · refine ax_iload B 7 d_Model_takeNumber_74 rfl ?_
    refine ax_if_ne B 84 d_Model_takeNumber_76 (by decide) ?_ ?_
    · refine ax_sub (tv2 := [(0, ax_A x0), (1, ax_I x1), (3, ax_I x3), (4, ax_I x4), (5, ax_I x5), (6, ax_L x6), (9, ax_I x9), (10, ax_I x10)]) [0, 1, 2, 3, 4, 5, 6, 7] rfl ?_
      exact Model_takeNumber_jq84 hcall B E Nm k32 hk32 x0 x1 x3 x4 x5 x6 x9 x10 h
    · refine ax_sub (tv2 := [(5, ax_I x5)]) [4] rfl ?_
      exact Model_takeNumber_jq79 hcall B E Nm x5 h
def Model_takeNumber_bd32 (call : ax_Cf)  (k32 : Option Nat → Int32 → Int32 → Int32 → Int32 → Int64 → Int32 → ax_Hp → ax_O) (x0 : Option Nat) (x1 : Int32) (x3 : Int32) (x4 : Int32) (x5 : Int32) (x6 : Int64) (x8 : Int32) (h : ax_Hp) : ax_O :=
  if x8 = 0 then
    if (lg_cmp (x6 &&& 1) 0) = 0 then
      Model_takeNumber_jn145 call x5 ((x6.toUInt64 >>> ((1 : Int32).toInt64.toUInt64 &&& Int64.toUInt64 63)).toInt64) x0 h
    else
      Model_takeNumber_jn145 call x5 ((-((x6.toUInt64 >>> ((1 : Int32).toInt64.toUInt64 &&& Int64.toUInt64 63)).toInt64)) - 1) x0 h
  else
    ax_on h x0 9 <| ax_ci (call 197 [ax_A x0, ax_I x5] h) fun v3 h2 =>
    if v3 < 0 then
      Model_takeNumber_jn79 call x5 h2
    else
      if (x5 - x1) = x3 then
        if x4 < v3 then
          Model_takeNumber_jn79 call x5 h2
        else
          Model_takeNumber_jn69 call k32 x0 x1 x3 x4 x5 x6 (x5 - x1) v3 h2
      else
        Model_takeNumber_jn69 call k32 x0 x1 x3 x4 x5 x6 (x5 - x1) v3 h2
def Model_takeNumber_lp32 (call : ax_Cf)  : Nat → Option Nat → Int32 → Int32 → Int32 → Int32 → Int64 → Int32 → ax_Hp → ax_O
  | 0 => fun _ _ _ _ _ _ _ _ => none
  | n + 1 => Model_takeNumber_bd32 call  (Model_takeNumber_lp32 call  n)
set_option maxHeartbeats 4000000 in
set_option maxRecDepth 20000 in
theorem Model_takeNumber_lb32 {l : Launch} {G : ax_G} {d : Nat} {call : ax_Cf} (hcall : ax_Hc l G d call) {p : Program} {e : Env} {s : State} {mi : MethodId} {args : Array Value} {below : List Frame} {meth : Method} {c : Code} {h0 : ax_Hp} (B : ax_B G p s mi meth c "SchemaDeskModel" prog_12_method_34_code 11 (some (.int))) (E : c.exceptionTable.isEmpty = true) (Nm : meth.name = y_Model_takeNumber.name)   {k32 : Option Nat → Int32 → Int32 → Int32 → Int32 → Int64 → Int32 → ax_Hp → ax_O} (hk32 : ∀ (x0 : Option Nat) (x1 : Int32) (x3 : Int32) (x4 : Int32) (x5 : Int32) (x6 : Int64) (x8 : Int32) (h : ax_Hp), ax_W G p l e s mi args below meth c 11 (d + 1) h0 32 [(0, ax_A x0), (1, ax_I x1), (3, ax_I x3), (4, ax_I x4), (5, ax_I x5), (6, ax_L x6), (8, ax_I x8)] [] h (k32 x0 x1 x3 x4 x5 x6 x8 h)) (x0 : Option Nat) (x1 : Int32) (x3 : Int32) (x4 : Int32) (x5 : Int32) (x6 : Int64) (x8 : Int32) (h : ax_Hp) : ax_W G p l e s mi args below meth c 11 (d + 1) h0 32 [(0, ax_A x0), (1, ax_I x1), (3, ax_I x3), (4, ax_I x4), (5, ax_I x5), (6, ax_L x6), (8, ax_I x8)] [] h (Model_takeNumber_bd32 call  k32 x0 x1 x3 x4 x5 x6 x8 h) := by
  unfold Model_takeNumber_bd32
  refine ax_iload B 6 d_Model_takeNumber_32 rfl ?_
  refine ax_if_eq B 121 d_Model_takeNumber_34 (by decide) ?_ ?_
  · refine ax_aload_n B 0 d_Model_takeNumber_121 rfl rfl ?_
    refine ax_lload B 5 d_Model_takeNumber_122 rfl ?_
    refine ax_lconst (v := 1) B d_Model_takeNumber_124 (by decide) ?_
    refine ax_land B d_Model_takeNumber_125 ?_
    refine ax_lconst (v := 0) B d_Model_takeNumber_126 (by decide) ?_
    refine ax_lcmp B d_Model_takeNumber_127 ?_
    refine ax_if_ne B 138 d_Model_takeNumber_128 (by decide) ?_ ?_
    · refine ax_lload B 5 d_Model_takeNumber_138 rfl ?_
      refine ax_iconst (v := 1) B d_Model_takeNumber_140 (by decide) ?_
      refine ax_lushr B d_Model_takeNumber_141 ?_
      refine ax_lneg B d_Model_takeNumber_142 ?_
      refine ax_lconst (v := 1) B d_Model_takeNumber_143 (by decide) ?_
      refine ax_lsub B d_Model_takeNumber_144 ?_
      refine ax_sub (tv2 := [(5, ax_I x5)]) [4] rfl ?_
      exact Model_takeNumber_jq145 hcall B E Nm x5 ((-((x6.toUInt64 >>> ((1 : Int32).toInt64.toUInt64 &&& Int64.toUInt64 63)).toInt64)) - 1) x0 h
    · refine ax_lload B 5 d_Model_takeNumber_131 rfl ?_
      refine ax_iconst (v := 1) B d_Model_takeNumber_133 (by decide) ?_
      refine ax_lushr B d_Model_takeNumber_134 ?_
      refine ax_goto B 145 d_Model_takeNumber_135 (by decide) ?_
      refine ax_sub (tv2 := [(5, ax_I x5)]) [4] rfl ?_
      exact Model_takeNumber_jq145 hcall B E Nm x5 ((x6.toUInt64 >>> ((1 : Int32).toInt64.toUInt64 &&& Int64.toUInt64 63)).toInt64) x0 h
  · refine ax_iload B 4 d_Model_takeNumber_37 rfl ?_
    refine ax_iload_n B 1 d_Model_takeNumber_39 rfl rfl ?_
    refine ax_isub B d_Model_takeNumber_40 ?_
    refine ax_istore (tv2 := [(9, ax_I (x5 - x1)), (0, ax_A x0), (1, ax_I x1), (3, ax_I x3), (4, ax_I x4), (5, ax_I x5), (6, ax_L x6), (8, ax_I x8)]) B d_Model_takeNumber_41 (by decide) rfl ?_
    refine ax_aload_n B 1 d_Model_takeNumber_43 rfl rfl ?_
    refine ax_iload B 5 d_Model_takeNumber_44 rfl ?_
    refine ax_callVi (av := [ax_I x5]) (rest := []) B E hm_Model_byteAt cl_Model rfl wd_1270 wp_76 lk_Model_259 d_Model_takeNumber_46 rfl (Nat.le_of_ble_eq_true rfl) (fun _ _ hh => hcall 197 _ _ _ _ hh) (fun v3 h2 => ?_)
    refine ax_istore (tv2 := [(10, ax_I v3), (9, ax_I (x5 - x1)), (0, ax_A x0), (1, ax_I x1), (3, ax_I x3), (4, ax_I x4), (5, ax_I x5), (6, ax_L x6), (8, ax_I x8)]) B d_Model_takeNumber_49 (by decide) rfl ?_
    refine ax_iload B 0 d_Model_takeNumber_51 rfl ?_
    refine ax_if_lt B 79 d_Model_takeNumber_53 (by decide) ?_ ?_
    · refine ax_sub (tv2 := [(5, ax_I x5)]) [6] rfl ?_
      exact Model_takeNumber_jq79 hcall B E Nm x5 h2
    · refine ax_iload B 1 d_Model_takeNumber_56 rfl ?_
      refine ax_iload_n B 4 d_Model_takeNumber_58 rfl rfl ?_
      refine ax_icmp_ne B 69 d_Model_takeNumber_59 (by decide) ?_ ?_
      · refine ax_sub (tv2 := [(0, ax_A x0), (1, ax_I x1), (3, ax_I x3), (4, ax_I x4), (5, ax_I x5), (6, ax_L x6), (9, ax_I (x5 - x1)), (10, ax_I v3)]) [2, 3, 4, 5, 6, 7, 1, 0] rfl ?_
        exact Model_takeNumber_jq69 hcall B E Nm k32 hk32 x0 x1 x3 x4 x5 x6 (x5 - x1) v3 h2
      · refine ax_iload B 0 d_Model_takeNumber_62 rfl ?_
        refine ax_iload B 5 d_Model_takeNumber_64 rfl ?_
        refine ax_icmp_gt B 79 d_Model_takeNumber_66 (by decide) ?_ ?_
        · refine ax_sub (tv2 := [(5, ax_I x5)]) [6] rfl ?_
          exact Model_takeNumber_jq79 hcall B E Nm x5 h2
        · refine ax_sub (tv2 := [(0, ax_A x0), (1, ax_I x1), (3, ax_I x3), (4, ax_I x4), (5, ax_I x5), (6, ax_L x6), (9, ax_I (x5 - x1)), (10, ax_I v3)]) [2, 3, 4, 5, 6, 7, 1, 0] rfl ?_
          exact Model_takeNumber_jq69 hcall B E Nm k32 hk32 x0 x1 x3 x4 x5 x6 (x5 - x1) v3 h2
theorem Model_takeNumber_lq32 {l : Launch} {G : ax_G} {d : Nat} {call : ax_Cf} (hcall : ax_Hc l G d call) {p : Program} {e : Env} {s : State} {mi : MethodId} {args : Array Value} {below : List Frame} {meth : Method} {c : Code} {h0 : ax_Hp} (B : ax_B G p s mi meth c "SchemaDeskModel" prog_12_method_34_code 11 (some (.int))) (E : c.exceptionTable.isEmpty = true) (Nm : meth.name = y_Model_takeNumber.name)   : ∀ (n : Nat) (x0 : Option Nat) (x1 : Int32) (x3 : Int32) (x4 : Int32) (x5 : Int32) (x6 : Int64) (x8 : Int32) (h : ax_Hp), ax_W G p l e s mi args below meth c 11 (d + 1) h0 32 [(0, ax_A x0), (1, ax_I x1), (3, ax_I x3), (4, ax_I x4), (5, ax_I x5), (6, ax_L x6), (8, ax_I x8)] [] h (Model_takeNumber_lp32 call  n x0 x1 x3 x4 x5 x6 x8 h)
  | 0, _, _, _, _, _, _, _, _ => ax_none
  | n + 1, x0, x1, x3, x4, x5, x6, x8, h => Model_takeNumber_lb32 hcall B E Nm   (Model_takeNumber_lq32 hcall B E Nm   n) x0 x1 x3 x4 x5 x6 x8 h
def Model_takeNumber_jn21 (call : ax_Cf)  (x0 : Option Nat) (x1 : Int32) (x3 : Int32) (s0 : Int32) (h : ax_Hp) : ax_O :=
  Model_takeNumber_lp32 call ax_fuel x0 x1 x3 s0 x1 0 1 h
set_option maxHeartbeats 4000000 in
set_option maxRecDepth 20000 in
theorem Model_takeNumber_jq21 {l : Launch} {G : ax_G} {d : Nat} {call : ax_Cf} (hcall : ax_Hc l G d call) {p : Program} {e : Env} {s : State} {mi : MethodId} {args : Array Value} {below : List Frame} {meth : Method} {c : Code} {h0 : ax_Hp} (B : ax_B G p s mi meth c "SchemaDeskModel" prog_12_method_34_code 11 (some (.int))) (E : c.exceptionTable.isEmpty = true) (Nm : meth.name = y_Model_takeNumber.name)   (x0 : Option Nat) (x1 : Int32) (x3 : Int32) (s0 : Int32) (h : ax_Hp) : ax_W G p l e s mi args below meth c 11 (d + 1) h0 21 [(0, ax_A x0), (1, ax_I x1), (3, ax_I x3)] [ax_I s0] h (Model_takeNumber_jn21 call  x0 x1 x3 s0 h) := by
  unfold Model_takeNumber_jn21
  refine ax_istore (tv2 := [(4, ax_I s0), (0, ax_A x0), (1, ax_I x1), (3, ax_I x3)]) B d_Model_takeNumber_21 (by decide) rfl ?_
  refine ax_iload_n B 2 d_Model_takeNumber_23 rfl rfl ?_
  refine ax_istore (tv2 := [(5, ax_I x1), (4, ax_I s0), (0, ax_A x0), (1, ax_I x1), (3, ax_I x3)]) B d_Model_takeNumber_24 (by decide) rfl ?_
  refine ax_lconst (v := 0) B d_Model_takeNumber_26 (by decide) ?_
  refine ax_lstore (tv2 := [(6, ax_L 0), (5, ax_I x1), (4, ax_I s0), (0, ax_A x0), (1, ax_I x1), (3, ax_I x3)]) B d_Model_takeNumber_27 (by decide) rfl ?_
  refine ax_iconst (v := 1) B d_Model_takeNumber_29 (by decide) ?_
  refine ax_istore (tv2 := [(8, ax_I 1), (6, ax_L 0), (5, ax_I x1), (4, ax_I s0), (0, ax_A x0), (1, ax_I x1), (3, ax_I x3)]) B d_Model_takeNumber_30 (by decide) rfl ?_
  refine ax_sub (tv2 := [(0, ax_A x0), (1, ax_I x1), (3, ax_I x3), (4, ax_I s0), (5, ax_I x1), (6, ax_L 0), (8, ax_I 1)]) [4, 5, 6, 3, 2, 1, 0] rfl ?_
  exact Model_takeNumber_lq32 hcall B E Nm ax_fuel x0 x1 x3 s0 x1 0 1 h
def Model_takeNumber_jn10 (call : ax_Cf)  (x0 : Option Nat) (x1 : Int32) (x2 : Int32) (s0 : Int32) (h : ax_Hp) : ax_O :=
  if x2 = 0 then
    Model_takeNumber_jn21 call x0 x1 s0 15 h
  else
    Model_takeNumber_jn21 call x0 x1 s0 1 h
set_option maxHeartbeats 4000000 in
set_option maxRecDepth 20000 in
theorem Model_takeNumber_jq10 {l : Launch} {G : ax_G} {d : Nat} {call : ax_Cf} (hcall : ax_Hc l G d call) {p : Program} {e : Env} {s : State} {mi : MethodId} {args : Array Value} {below : List Frame} {meth : Method} {c : Code} {h0 : ax_Hp} (B : ax_B G p s mi meth c "SchemaDeskModel" prog_12_method_34_code 11 (some (.int))) (E : c.exceptionTable.isEmpty = true) (Nm : meth.name = y_Model_takeNumber.name)   (x0 : Option Nat) (x1 : Int32) (x2 : Int32) (s0 : Int32) (h : ax_Hp) : ax_W G p l e s mi args below meth c 11 (d + 1) h0 10 [(0, ax_A x0), (1, ax_I x1), (2, ax_I x2)] [ax_I s0] h (Model_takeNumber_jn10 call  x0 x1 x2 s0 h) := by
  unfold Model_takeNumber_jn10
  refine ax_istore_n (tv2 := [(3, ax_I s0), (0, ax_A x0), (1, ax_I x1), (2, ax_I x2)]) B d_Model_takeNumber_10 rfl (by decide) rfl ?_
  refine ax_iload_n B 3 d_Model_takeNumber_11 rfl rfl ?_
  refine ax_if_eq B 19 d_Model_takeNumber_12 (by decide) ?_ ?_
  · refine ax_bipush (v := 15) B d_Model_takeNumber_19 (by decide) ?_
    refine ax_sub (tv2 := [(0, ax_A x0), (1, ax_I x1), (3, ax_I s0)]) [1, 2, 0] rfl ?_
    exact Model_takeNumber_jq21 hcall B E Nm x0 x1 s0 15 h
  · refine ax_iconst (v := 1) B d_Model_takeNumber_15 (by decide) ?_
    refine ax_goto B 21 d_Model_takeNumber_16 (by decide) ?_
    refine ax_sub (tv2 := [(0, ax_A x0), (1, ax_I x1), (3, ax_I s0)]) [1, 2, 0] rfl ?_
    exact Model_takeNumber_jq21 hcall B E Nm x0 x1 s0 1 h
def Model_takeNumber_b (call : ax_Cf) (x0 : Option Nat) (x1 : Int32) (x2 : Int32) (h : ax_Hp) : ax_O :=
  if x2 = 0 then
    Model_takeNumber_jn10 call x0 x1 x2 4 h
  else
    Model_takeNumber_jn10 call x0 x1 x2 9 h
set_option maxHeartbeats 4000000 in
set_option maxRecDepth 20000 in
theorem Model_takeNumber_t {l : Launch} {G : ax_G} {d : Nat} {call : ax_Cf} (hcall : ax_Hc l G d call) (x0 : Option Nat) (x1 : Int32) (x2 : Int32) (h : ax_Hp) {r : ax_Rs} {h' : ax_Hp} (ho : Model_takeNumber_b call x0 x1 x2 h = some (r, h')) : ax_C l G (d + 1) y_Model_takeNumber (.code y_Model_takeNumber prog_12_method_34_code 11 (some (.int))) [ax_A x0, ax_I x1, ax_I x2] h r h' := by
  refine ax_enter (by decide) (Nat.le_of_ble_eq_true rfl) ho (fun p e s mi args below meth c B E Nm => ?_)
  have B : ax_B G p s mi meth c "SchemaDeskModel" prog_12_method_34_code 11 (some (.int)) := B
  show ax_W G p l e s mi args below meth c 11 (d + 1) h 0 [(0, ax_A x0), (1, ax_I x1), (2, ax_I x2)] [] h (Model_takeNumber_b call x0 x1 x2 h)
  unfold Model_takeNumber_b
  refine ax_iload_n B 2 d_Model_takeNumber_0 rfl rfl ?_
  refine ax_if_eq B 9 d_Model_takeNumber_1 (by decide) ?_ ?_
  · refine ax_iconst (v := 4) B d_Model_takeNumber_9 (by decide) ?_
    refine ax_sub (tv2 := [(0, ax_A x0), (1, ax_I x1), (2, ax_I x2)]) [0, 1, 2] rfl ?_
    exact Model_takeNumber_jq10 hcall B E Nm x0 x1 x2 4 h
  · refine ax_bipush (v := 9) B d_Model_takeNumber_4 (by decide) ?_
    refine ax_goto B 10 d_Model_takeNumber_6 (by decide) ?_
    refine ax_sub (tv2 := [(0, ax_A x0), (1, ax_I x1), (2, ax_I x2)]) [0, 1, 2] rfl ?_
    exact Model_takeNumber_jq10 hcall B E Nm x0 x1 x2 9 h

theorem d_Model_takeCount_0 : decode prog_12_method_39_code 0 = .ok (.aload_n 0, 1) := by decide +kernel
theorem d_Model_takeCount_1 : decode prog_12_method_39_code 1 = .ok (.iload_n 1, 1) := by decide +kernel
theorem d_Model_takeCount_2 : decode prog_12_method_39_code 2 = .ok (.bipush 21, 2) := by decide +kernel
theorem d_Model_takeCount_4 : decode prog_12_method_39_code 4 = .ok (.aload_n 0, 1) := by decide +kernel
theorem d_Model_takeCount_5 : decode prog_12_method_39_code 5 = .ok (.getfield 94, 3) := by decide +kernel
theorem d_Model_takeCount_8 : decode prog_12_method_39_code 8 = .ok (.aload_n 0, 1) := by decide +kernel
theorem d_Model_takeCount_9 : decode prog_12_method_39_code 9 = .ok (.getfield 241, 3) := by decide +kernel
theorem d_Model_takeCount_12 : decode prog_12_method_39_code 12 = .ok (.iconst 1, 1) := by decide +kernel
theorem d_Model_takeCount_13 : decode prog_12_method_39_code 13 = .ok (.isub, 1) := by decide +kernel
theorem d_Model_takeCount_14 : decode prog_12_method_39_code 14 = .ok (.iaload, 1) := by decide +kernel
theorem d_Model_takeCount_15 : decode prog_12_method_39_code 15 = .ok (.isub, 1) := by decide +kernel
theorem d_Model_takeCount_16 : decode prog_12_method_39_code 16 = .ok (.invokevirtual 262, 3) := by decide +kernel
theorem d_Model_takeCount_19 : decode prog_12_method_39_code 19 = .ok (.istore_n 2, 1) := by decide +kernel
theorem d_Model_takeCount_20 : decode prog_12_method_39_code 20 = .ok (.iload_n 2, 1) := by decide +kernel
theorem d_Model_takeCount_21 : decode prog_12_method_39_code 21 = .ok (.ifCond .ge 5, 3) := by decide +kernel
theorem d_Model_takeCount_24 : decode prog_12_method_39_code 24 = .ok (.iload_n 2, 1) := by decide +kernel
theorem d_Model_takeCount_25 : decode prog_12_method_39_code 25 = .ok (.ireturn, 1) := by decide +kernel
theorem d_Model_takeCount_26 : decode prog_12_method_39_code 26 = .ok (.aload_n 0, 1) := by decide +kernel
theorem d_Model_takeCount_27 : decode prog_12_method_39_code 27 = .ok (.getfield 88, 3) := by decide +kernel
theorem d_Model_takeCount_30 : decode prog_12_method_39_code 30 = .ok (.aload_n 0, 1) := by decide +kernel
theorem d_Model_takeCount_31 : decode prog_12_method_39_code 31 = .ok (.getfield 241, 3) := by decide +kernel
theorem d_Model_takeCount_34 : decode prog_12_method_39_code 34 = .ok (.iconst 1, 1) := by decide +kernel
theorem d_Model_takeCount_35 : decode prog_12_method_39_code 35 = .ok (.isub, 1) := by decide +kernel
theorem d_Model_takeCount_36 : decode prog_12_method_39_code 36 = .ok (.aload_n 0, 1) := by decide +kernel
theorem d_Model_takeCount_37 : decode prog_12_method_39_code 37 = .ok (.getfield 204, 3) := by decide +kernel
theorem d_Model_takeCount_40 : decode prog_12_method_39_code 40 = .ok (.l2i, 1) := by decide +kernel
theorem d_Model_takeCount_41 : decode prog_12_method_39_code 41 = .ok (.iastore, 1) := by decide +kernel
theorem d_Model_takeCount_42 : decode prog_12_method_39_code 42 = .ok (.aload_n 0, 1) := by decide +kernel
theorem d_Model_takeCount_43 : decode prog_12_method_39_code 43 = .ok (.getfield 94, 3) := by decide +kernel
theorem d_Model_takeCount_46 : decode prog_12_method_39_code 46 = .ok (.aload_n 0, 1) := by decide +kernel
theorem d_Model_takeCount_47 : decode prog_12_method_39_code 47 = .ok (.getfield 241, 3) := by decide +kernel
theorem d_Model_takeCount_50 : decode prog_12_method_39_code 50 = .ok (.iconst 1, 1) := by decide +kernel
theorem d_Model_takeCount_51 : decode prog_12_method_39_code 51 = .ok (.isub, 1) := by decide +kernel
theorem d_Model_takeCount_52 : decode prog_12_method_39_code 52 = .ok (.dup2, 1) := by decide +kernel
theorem d_Model_takeCount_53 : decode prog_12_method_39_code 53 = .ok (.iaload, 1) := by decide +kernel
theorem d_Model_takeCount_54 : decode prog_12_method_39_code 54 = .ok (.aload_n 0, 1) := by decide +kernel
theorem d_Model_takeCount_55 : decode prog_12_method_39_code 55 = .ok (.getfield 204, 3) := by decide +kernel
theorem d_Model_takeCount_58 : decode prog_12_method_39_code 58 = .ok (.l2i, 1) := by decide +kernel
theorem d_Model_takeCount_59 : decode prog_12_method_39_code 59 = .ok (.iadd, 1) := by decide +kernel
theorem d_Model_takeCount_60 : decode prog_12_method_39_code 60 = .ok (.iastore, 1) := by decide +kernel
theorem d_Model_takeCount_61 : decode prog_12_method_39_code 61 = .ok (.aload_n 0, 1) := by decide +kernel
theorem d_Model_takeCount_62 : decode prog_12_method_39_code 62 = .ok (.aload_n 0, 1) := by decide +kernel
theorem d_Model_takeCount_63 : decode prog_12_method_39_code 63 = .ok (.getfield 204, 3) := by decide +kernel
theorem d_Model_takeCount_66 : decode prog_12_method_39_code 66 = .ok (.lconst 0, 1) := by decide +kernel
theorem d_Model_takeCount_67 : decode prog_12_method_39_code 67 = .ok (.lcmp, 1) := by decide +kernel
theorem d_Model_takeCount_68 : decode prog_12_method_39_code 68 = .ok (.ifCond .ne 7, 3) := by decide +kernel
theorem d_Model_takeCount_71 : decode prog_12_method_39_code 71 = .ok (.iconst 1, 1) := by decide +kernel
theorem d_Model_takeCount_72 : decode prog_12_method_39_code 72 = .ok (.goto 4, 3) := by decide +kernel
theorem d_Model_takeCount_75 : decode prog_12_method_39_code 75 = .ok (.iconst 2, 1) := by decide +kernel
theorem d_Model_takeCount_76 : decode prog_12_method_39_code 76 = .ok (.putfield 155, 3) := by decide +kernel
theorem d_Model_takeCount_79 : decode prog_12_method_39_code 79 = .ok (.aload_n 0, 1) := by decide +kernel
theorem d_Model_takeCount_80 : decode prog_12_method_39_code 80 = .ok (.dup, 1) := by decide +kernel
theorem d_Model_takeCount_81 : decode prog_12_method_39_code 81 = .ok (.getfield 241, 3) := by decide +kernel
theorem d_Model_takeCount_84 : decode prog_12_method_39_code 84 = .ok (.aload_n 0, 1) := by decide +kernel
theorem d_Model_takeCount_85 : decode prog_12_method_39_code 85 = .ok (.getfield 204, 3) := by decide +kernel
theorem d_Model_takeCount_88 : decode prog_12_method_39_code 88 = .ok (.lconst 0, 1) := by decide +kernel
theorem d_Model_takeCount_89 : decode prog_12_method_39_code 89 = .ok (.lcmp, 1) := by decide +kernel
theorem d_Model_takeCount_90 : decode prog_12_method_39_code 90 = .ok (.ifCond .ne 7, 3) := by decide +kernel
theorem d_Model_takeCount_93 : decode prog_12_method_39_code 93 = .ok (.iconst 1, 1) := by decide +kernel
theorem d_Model_takeCount_94 : decode prog_12_method_39_code 94 = .ok (.goto 4, 3) := by decide +kernel
theorem d_Model_takeCount_97 : decode prog_12_method_39_code 97 = .ok (.iconst 0, 1) := by decide +kernel
theorem d_Model_takeCount_98 : decode prog_12_method_39_code 98 = .ok (.isub, 1) := by decide +kernel
theorem d_Model_takeCount_99 : decode prog_12_method_39_code 99 = .ok (.putfield 241, 3) := by decide +kernel
theorem d_Model_takeCount_102 : decode prog_12_method_39_code 102 = .ok (.iload_n 2, 1) := by decide +kernel
theorem d_Model_takeCount_103 : decode prog_12_method_39_code 103 = .ok (.ireturn, 1) := by decide +kernel
def Model_takeCount_jn98 (call : ax_Cf)  (x2 : Int32) (s0 : Int32) (s1 : Int32) (s2 : Option Nat) (h : ax_Hp) : ax_O :=
  (ax_pf h s2 9 31 (ax_I (s1 - s0))).bind fun h19 =>
  ax_ri x2 h19
set_option maxHeartbeats 4000000 in
set_option maxRecDepth 20000 in
theorem Model_takeCount_jq98 {l : Launch} {G : ax_G} {d : Nat} {call : ax_Cf} (hcall : ax_Hc l G d call) {p : Program} {e : Env} {s : State} {mi : MethodId} {args : Array Value} {below : List Frame} {meth : Method} {c : Code} {h0 : ax_Hp} (B : ax_B G p s mi meth c "SchemaDeskModel" prog_12_method_39_code 3 (some (.int))) (E : c.exceptionTable.isEmpty = true) (Nm : meth.name = y_Model_takeCount.name)   (x2 : Int32) (s0 : Int32) (s1 : Int32) (s2 : Option Nat) (h : ax_Hp) : ax_W G p l e s mi args below meth c 3 (d + 1) h0 98 [(2, ax_I x2)] [ax_I s0, ax_I s1, ax_A s2] h (Model_takeCount_jn98 call  x2 s0 s1 s2 h) := by
  unfold Model_takeCount_jn98
  refine ax_isub B d_Model_takeCount_98 ?_
  refine ax_putf (v := ax_I (s1 - s0)) B cl_Model (by decide) fk_Model_241 (Or.inl rfl) (fun _ => rfl) (fun _ => rfl) d_Model_takeCount_99 (fun h19 => ?_)
  refine ax_iload_n B 0 d_Model_takeCount_102 rfl rfl ?_
  exact ax_ireturn B d_Model_takeCount_103
def Model_takeCount_jn76 (call : ax_Cf)  (x0 : Option Nat) (x2 : Int32) (s0 : Int32) (s1 : Option Nat) (h : ax_Hp) : ax_O :=
  (ax_pf h s1 9 38 (ax_I s0)).bind fun h16 =>
  (ax_gi h16 x0 9 31).bind fun v17 =>
  (ax_gl h16 x0 9 37).bind fun v18 =>
  if (lg_cmp v18 0) = 0 then
    Model_takeCount_jn98 call x2 1 v17 x0 h16
  else
    Model_takeCount_jn98 call x2 0 v17 x0 h16
set_option maxHeartbeats 4000000 in
set_option maxRecDepth 20000 in
theorem Model_takeCount_jq76 {l : Launch} {G : ax_G} {d : Nat} {call : ax_Cf} (hcall : ax_Hc l G d call) {p : Program} {e : Env} {s : State} {mi : MethodId} {args : Array Value} {below : List Frame} {meth : Method} {c : Code} {h0 : ax_Hp} (B : ax_B G p s mi meth c "SchemaDeskModel" prog_12_method_39_code 3 (some (.int))) (E : c.exceptionTable.isEmpty = true) (Nm : meth.name = y_Model_takeCount.name)   (x0 : Option Nat) (x2 : Int32) (s0 : Int32) (s1 : Option Nat) (h : ax_Hp) : ax_W G p l e s mi args below meth c 3 (d + 1) h0 76 [(0, ax_A x0), (2, ax_I x2)] [ax_I s0, ax_A s1] h (Model_takeCount_jn76 call  x0 x2 s0 s1 h) := by
  unfold Model_takeCount_jn76
  refine ax_putf (v := ax_I s0) B cl_Model (by decide) fk_Model_155 (Or.inl rfl) (fun _ => rfl) (fun _ => rfl) d_Model_takeCount_76 (fun h16 => ?_)
  refine ax_aload_n B 0 d_Model_takeCount_79 rfl rfl ?_
  refine ax_dup B d_Model_takeCount_80 rfl ?_
  refine ax_getfi B cl_Model (by decide) fk_Model_241 d_Model_takeCount_81 (fun v17 => ?_)
  refine ax_aload_n B 0 d_Model_takeCount_84 rfl rfl ?_
  refine ax_getfl B cl_Model (by decide) fk_Model_204 d_Model_takeCount_85 (fun v18 => ?_)
  refine ax_lconst (v := 0) B d_Model_takeCount_88 (by decide) ?_
  refine ax_lcmp B d_Model_takeCount_89 ?_
  refine ax_if_ne B 97 d_Model_takeCount_90 (by decide) ?_ ?_
  · refine ax_iconst (v := 0) B d_Model_takeCount_97 (by decide) ?_
    refine ax_sub (tv2 := [(2, ax_I x2)]) [1] rfl ?_
    exact Model_takeCount_jq98 hcall B E Nm x2 0 v17 x0 h16
  · refine ax_iconst (v := 1) B d_Model_takeCount_93 (by decide) ?_
    refine ax_goto B 98 d_Model_takeCount_94 (by decide) ?_
    refine ax_sub (tv2 := [(2, ax_I x2)]) [1] rfl ?_
    exact Model_takeCount_jq98 hcall B E Nm x2 1 v17 x0 h16
def Model_takeCount_b (call : ax_Cf) (x0 : Option Nat) (x1 : Int32) (h : ax_Hp) : ax_O :=
  (ax_gr h x0 9 36).bind fun v1 =>
  (ax_gi h x0 9 31).bind fun v2 =>
  (ax_ldi h v1 1 (v2 - 1)).bind fun v3 =>
  ax_on h x0 9 <| ax_ci (call 196 [ax_A x0, ax_I x1, ax_I (21 - v3)] h) fun v5 h4 =>
  if 0 ≤ v5 then
    (ax_gr h4 x0 9 34).bind fun v6 =>
    (ax_gi h4 x0 9 31).bind fun v7 =>
    (ax_gl h4 x0 9 37).bind fun v8 =>
    (ax_st h4 v6 1 (v7 - 1) (ax_I (v8.toInt32))).bind fun h9 =>
    (ax_gr h9 x0 9 36).bind fun v10 =>
    (ax_gi h9 x0 9 31).bind fun v11 =>
    (ax_ldi h9 v10 1 (v11 - 1)).bind fun v12 =>
    (ax_gl h9 x0 9 37).bind fun v13 =>
    (ax_st h9 v10 1 (v11 - 1) (ax_I (v12 + (v13.toInt32)))).bind fun h14 =>
    (ax_gl h14 x0 9 37).bind fun v15 =>
    if (lg_cmp v15 0) = 0 then
      Model_takeCount_jn76 call x0 v5 1 x0 h14
    else
      Model_takeCount_jn76 call x0 v5 2 x0 h14
  else
    ax_ri v5 h4
set_option maxHeartbeats 4000000 in
set_option maxRecDepth 20000 in
theorem Model_takeCount_t {l : Launch} {G : ax_G} {d : Nat} {call : ax_Cf} (hcall : ax_Hc l G d call) (x0 : Option Nat) (x1 : Int32) (h : ax_Hp) {r : ax_Rs} {h' : ax_Hp} (ho : Model_takeCount_b call x0 x1 h = some (r, h')) : ax_C l G (d + 1) y_Model_takeCount (.code y_Model_takeCount prog_12_method_39_code 3 (some (.int))) [ax_A x0, ax_I x1] h r h' := by
  refine ax_enter (by decide) (Nat.le_of_ble_eq_true rfl) ho (fun p e s mi args below meth c B E Nm => ?_)
  have B : ax_B G p s mi meth c "SchemaDeskModel" prog_12_method_39_code 3 (some (.int)) := B
  show ax_W G p l e s mi args below meth c 3 (d + 1) h 0 [(0, ax_A x0), (1, ax_I x1)] [] h (Model_takeCount_b call x0 x1 h)
  unfold Model_takeCount_b
  refine ax_aload_n B 0 d_Model_takeCount_0 rfl rfl ?_
  refine ax_iload_n B 1 d_Model_takeCount_1 rfl rfl ?_
  refine ax_bipush (v := 21) B d_Model_takeCount_2 (by decide) ?_
  refine ax_aload_n B 0 d_Model_takeCount_4 rfl rfl ?_
  refine ax_getfr B cl_Model (by decide) fk_Model_94 d_Model_takeCount_5 (fun v1 => ?_)
  refine ax_aload_n B 0 d_Model_takeCount_8 rfl rfl ?_
  refine ax_getfi B cl_Model (by decide) fk_Model_241 d_Model_takeCount_9 (fun v2 => ?_)
  refine ax_iconst (v := 1) B d_Model_takeCount_12 (by decide) ?_
  refine ax_isub B d_Model_takeCount_13 ?_
  refine ax_iald (kd := 1) B (by decide) rfl d_Model_takeCount_14 (fun v3 => ?_)
  refine ax_isub B d_Model_takeCount_15 ?_
  refine ax_callVi (av := [ax_I x1, ax_I (21 - v3)]) (rest := []) B E hm_Model_takeHalf cl_Model rfl wd_1266 wp_75 lk_Model_262 d_Model_takeCount_16 rfl (Nat.le_of_ble_eq_true rfl) (fun _ _ hh => hcall 196 _ _ _ _ hh) (fun v5 h4 => ?_)
  refine ax_istore_n (tv2 := [(2, ax_I v5), (0, ax_A x0), (1, ax_I x1)]) B d_Model_takeCount_19 rfl (by decide) rfl ?_
  refine ax_iload_n B 0 d_Model_takeCount_20 rfl rfl ?_
  refine ax_if_ge B 26 d_Model_takeCount_21 (by decide) ?_ ?_
  · refine ax_aload_n B 1 d_Model_takeCount_26 rfl rfl ?_
    refine ax_getfr B cl_Model (by decide) fk_Model_88 d_Model_takeCount_27 (fun v6 => ?_)
    refine ax_aload_n B 1 d_Model_takeCount_30 rfl rfl ?_
    refine ax_getfi B cl_Model (by decide) fk_Model_241 d_Model_takeCount_31 (fun v7 => ?_)
    refine ax_iconst (v := 1) B d_Model_takeCount_34 (by decide) ?_
    refine ax_isub B d_Model_takeCount_35 ?_
    refine ax_aload_n B 1 d_Model_takeCount_36 rfl rfl ?_
    refine ax_getfl B cl_Model (by decide) fk_Model_204 d_Model_takeCount_37 (fun v8 => ?_)
    refine ax_l2i B d_Model_takeCount_40 ?_
    refine ax_iast (kd := 1) B (by decide) (by decide) rfl d_Model_takeCount_41 (fun h9 => ?_)
    refine ax_aload_n B 1 d_Model_takeCount_42 rfl rfl ?_
    refine ax_getfr B cl_Model (by decide) fk_Model_94 d_Model_takeCount_43 (fun v10 => ?_)
    refine ax_aload_n B 1 d_Model_takeCount_46 rfl rfl ?_
    refine ax_getfi B cl_Model (by decide) fk_Model_241 d_Model_takeCount_47 (fun v11 => ?_)
    refine ax_iconst (v := 1) B d_Model_takeCount_50 (by decide) ?_
    refine ax_isub B d_Model_takeCount_51 ?_
    refine ax_dup2_11 B d_Model_takeCount_52 rfl rfl ?_
    refine ax_iald (kd := 1) B (by decide) rfl d_Model_takeCount_53 (fun v12 => ?_)
    refine ax_aload_n B 1 d_Model_takeCount_54 rfl rfl ?_
    refine ax_getfl B cl_Model (by decide) fk_Model_204 d_Model_takeCount_55 (fun v13 => ?_)
    refine ax_l2i B d_Model_takeCount_58 ?_
    refine ax_iadd B d_Model_takeCount_59 ?_
    refine ax_iast (kd := 1) B (by decide) (by decide) rfl d_Model_takeCount_60 (fun h14 => ?_)
    refine ax_aload_n B 1 d_Model_takeCount_61 rfl rfl ?_
    refine ax_aload_n B 1 d_Model_takeCount_62 rfl rfl ?_
    refine ax_getfl B cl_Model (by decide) fk_Model_204 d_Model_takeCount_63 (fun v15 => ?_)
    refine ax_lconst (v := 0) B d_Model_takeCount_66 (by decide) ?_
    refine ax_lcmp B d_Model_takeCount_67 ?_
    refine ax_if_ne B 75 d_Model_takeCount_68 (by decide) ?_ ?_
    · refine ax_iconst (v := 2) B d_Model_takeCount_75 (by decide) ?_
      refine ax_sub (tv2 := [(0, ax_A x0), (2, ax_I v5)]) [1, 0] rfl ?_
      exact Model_takeCount_jq76 hcall B E Nm x0 v5 2 x0 h14
    · refine ax_iconst (v := 1) B d_Model_takeCount_71 (by decide) ?_
      refine ax_goto B 76 d_Model_takeCount_72 (by decide) ?_
      refine ax_sub (tv2 := [(0, ax_A x0), (2, ax_I v5)]) [1, 0] rfl ?_
      exact Model_takeCount_jq76 hcall B E Nm x0 v5 1 x0 h14
  · refine ax_iload_n B 0 d_Model_takeCount_24 rfl rfl ?_
    exact ax_ireturn B d_Model_takeCount_25

theorem d_Model_resolve_0 : decode prog_12_method_50_code 0 = .ok (.aload_n 0, 1) := by decide +kernel
theorem d_Model_resolve_1 : decode prog_12_method_50_code 1 = .ok (.iconst 0, 1) := by decide +kernel
theorem d_Model_resolve_2 : decode prog_12_method_50_code 2 = .ok (.putfield 298, 3) := by decide +kernel
theorem d_Model_resolve_5 : decode prog_12_method_50_code 5 = .ok (.aload_n 0, 1) := by decide +kernel
theorem d_Model_resolve_6 : decode prog_12_method_50_code 6 = .ok (.iconst 0, 1) := by decide +kernel
theorem d_Model_resolve_7 : decode prog_12_method_50_code 7 = .ok (.putfield 305, 3) := by decide +kernel
theorem d_Model_resolve_10 : decode prog_12_method_50_code 10 = .ok (.aload_n 0, 1) := by decide +kernel
theorem d_Model_resolve_11 : decode prog_12_method_50_code 11 = .ok (.iconst 0, 1) := by decide +kernel
theorem d_Model_resolve_12 : decode prog_12_method_50_code 12 = .ok (.putfield 130, 3) := by decide +kernel
theorem d_Model_resolve_15 : decode prog_12_method_50_code 15 = .ok (.aload_n 0, 1) := by decide +kernel
theorem d_Model_resolve_16 : decode prog_12_method_50_code 16 = .ok (.iconst 0, 1) := by decide +kernel
theorem d_Model_resolve_17 : decode prog_12_method_50_code 17 = .ok (.bipush 120, 2) := by decide +kernel
theorem d_Model_resolve_19 : decode prog_12_method_50_code 19 = .ok (.iconst 0, 1) := by decide +kernel
theorem d_Model_resolve_20 : decode prog_12_method_50_code 20 = .ok (.invokevirtual 311, 3) := by decide +kernel
theorem d_Model_resolve_23 : decode prog_12_method_50_code 23 = .ok (.aload_n 0, 1) := by decide +kernel
theorem d_Model_resolve_24 : decode prog_12_method_50_code 24 = .ok (.getfield 305, 3) := by decide +kernel
theorem d_Model_resolve_27 : decode prog_12_method_50_code 27 = .ok (.ifCond .le 55, 3) := by decide +kernel
theorem d_Model_resolve_30 : decode prog_12_method_50_code 30 = .ok (.aload_n 0, 1) := by decide +kernel
theorem d_Model_resolve_31 : decode prog_12_method_50_code 31 = .ok (.getfield 298, 3) := by decide +kernel
theorem d_Model_resolve_34 : decode prog_12_method_50_code 34 = .ok (.ifCond .ne 48, 3) := by decide +kernel
theorem d_Model_resolve_37 : decode prog_12_method_50_code 37 = .ok (.aload_n 0, 1) := by decide +kernel
theorem d_Model_resolve_38 : decode prog_12_method_50_code 38 = .ok (.getfield 130, 3) := by decide +kernel
theorem d_Model_resolve_41 : decode prog_12_method_50_code 41 = .ok (.sipush 400, 3) := by decide +kernel
theorem d_Model_resolve_44 : decode prog_12_method_50_code 44 = .ok (.if_icmp .gt 38, 3) := by decide +kernel
theorem d_Model_resolve_47 : decode prog_12_method_50_code 47 = .ok (.aload_n 0, 1) := by decide +kernel
theorem d_Model_resolve_48 : decode prog_12_method_50_code 48 = .ok (.getfield 48, 3) := by decide +kernel
theorem d_Model_resolve_51 : decode prog_12_method_50_code 51 = .ok (.aload_n 0, 1) := by decide +kernel
theorem d_Model_resolve_52 : decode prog_12_method_50_code 52 = .ok (.getfield 107, 3) := by decide +kernel
theorem d_Model_resolve_55 : decode prog_12_method_50_code 55 = .ok (.aload_n 0, 1) := by decide +kernel
theorem d_Model_resolve_56 : decode prog_12_method_50_code 56 = .ok (.getfield 305, 3) := by decide +kernel
theorem d_Model_resolve_59 : decode prog_12_method_50_code 59 = .ok (.iconst 1, 1) := by decide +kernel
theorem d_Model_resolve_60 : decode prog_12_method_50_code 60 = .ok (.isub, 1) := by decide +kernel
theorem d_Model_resolve_61 : decode prog_12_method_50_code 61 = .ok (.iaload, 1) := by decide +kernel
theorem d_Model_resolve_62 : decode prog_12_method_50_code 62 = .ok (.caload, 1) := by decide +kernel
theorem d_Model_resolve_63 : decode prog_12_method_50_code 63 = .ok (.bipush 65, 2) := by decide +kernel
theorem d_Model_resolve_65 : decode prog_12_method_50_code 65 = .ok (.if_icmp .ne 10, 3) := by decide +kernel
theorem d_Model_resolve_68 : decode prog_12_method_50_code 68 = .ok (.aload_n 0, 1) := by decide +kernel
theorem d_Model_resolve_69 : decode prog_12_method_50_code 69 = .ok (.invokevirtual 315, 3) := by decide +kernel
theorem d_Model_resolve_72 : decode prog_12_method_50_code 72 = .ok (.goto (-49), 3) := by decide +kernel
theorem d_Model_resolve_75 : decode prog_12_method_50_code 75 = .ok (.aload_n 0, 1) := by decide +kernel
theorem d_Model_resolve_76 : decode prog_12_method_50_code 76 = .ok (.invokevirtual 318, 3) := by decide +kernel
theorem d_Model_resolve_79 : decode prog_12_method_50_code 79 = .ok (.goto (-56), 3) := by decide +kernel
theorem d_Model_resolve_82 : decode prog_12_method_50_code 82 = .ok (.aload_n 0, 1) := by decide +kernel
theorem d_Model_resolve_83 : decode prog_12_method_50_code 83 = .ok (.getfield 298, 3) := by decide +kernel
theorem d_Model_resolve_86 : decode prog_12_method_50_code 86 = .ok (.ifCond .ne 17, 3) := by decide +kernel
theorem d_Model_resolve_89 : decode prog_12_method_50_code 89 = .ok (.aload_n 0, 1) := by decide +kernel
theorem d_Model_resolve_90 : decode prog_12_method_50_code 90 = .ok (.getfield 130, 3) := by decide +kernel
theorem d_Model_resolve_93 : decode prog_12_method_50_code 93 = .ok (.sipush 400, 3) := by decide +kernel
theorem d_Model_resolve_96 : decode prog_12_method_50_code 96 = .ok (.if_icmp .gt 7, 3) := by decide +kernel
theorem d_Model_resolve_99 : decode prog_12_method_50_code 99 = .ok (.iconst 1, 1) := by decide +kernel
theorem d_Model_resolve_100 : decode prog_12_method_50_code 100 = .ok (.goto 4, 3) := by decide +kernel
theorem d_Model_resolve_103 : decode prog_12_method_50_code 103 = .ok (.iconst 0, 1) := by decide +kernel
theorem d_Model_resolve_104 : decode prog_12_method_50_code 104 = .ok (.ireturn, 1) := by decide +kernel
def Model_resolve_jn82 (call : ax_Cf)  (x0 : Option Nat) (h : ax_Hp) : ax_O :=
  (ax_gi h x0 9 49).bind fun v7 =>
  if v7 = 0 then
    (ax_gi h x0 9 7).bind fun v8 =>
    if 400 < v8 then
      ax_rz 0 h
    else
      ax_rz 1 h
  else
    ax_rz 0 h
set_option maxHeartbeats 4000000 in
set_option maxRecDepth 20000 in
theorem Model_resolve_jq82 {l : Launch} {G : ax_G} {d : Nat} {call : ax_Cf} (hcall : ax_Hc l G d call) {p : Program} {e : Env} {s : State} {mi : MethodId} {args : Array Value} {below : List Frame} {meth : Method} {c : Code} {h0 : ax_Hp} (B : ax_B G p s mi meth c "SchemaDeskModel" prog_12_method_50_code 1 (some (.boolean))) (E : c.exceptionTable.isEmpty = true) (Nm : meth.name = y_Model_resolve.name)   (x0 : Option Nat) (h : ax_Hp) : ax_W G p l e s mi args below meth c 1 (d + 1) h0 82 [(0, ax_A x0)] [] h (Model_resolve_jn82 call  x0 h) := by
  unfold Model_resolve_jn82
  refine ax_aload_n B 0 d_Model_resolve_82 rfl rfl ?_
  refine ax_getfi B cl_Model (by decide) fk_Model_298 d_Model_resolve_83 (fun v7 => ?_)
  refine ax_if_ne B 103 d_Model_resolve_86 (by decide) ?_ ?_
  · refine ax_iconst (v := 0) B d_Model_resolve_103 (by decide) ?_
    exact ax_zreturn B d_Model_resolve_104
  · refine ax_aload_n B 0 d_Model_resolve_89 rfl rfl ?_
    refine ax_getfi B cl_Model (by decide) fk_Model_130 d_Model_resolve_90 (fun v8 => ?_)
    refine ax_sipush (v := 400) B d_Model_resolve_93 (by decide) ?_
    refine ax_icmp_gt B 103 d_Model_resolve_96 (by decide) ?_ ?_
    · refine ax_iconst (v := 0) B d_Model_resolve_103 (by decide) ?_
      exact ax_zreturn B d_Model_resolve_104
    · refine ax_iconst (v := 1) B d_Model_resolve_99 (by decide) ?_
      refine ax_goto B 104 d_Model_resolve_100 (by decide) ?_
      exact ax_zreturn B d_Model_resolve_104
def Model_resolve_bd23 (call : ax_Cf)  (k23 : Option Nat → ax_Hp → ax_O) (x0 : Option Nat) (h : ax_Hp) : ax_O :=
  (ax_gi h x0 9 48).bind fun v6 =>
  if v6 ≤ 0 then
    Model_resolve_jn82 call x0 h
  else
    (ax_gi h x0 9 49).bind fun v9 =>
    if v9 = 0 then
      (ax_gi h x0 9 7).bind fun v10 =>
      if 400 < v10 then
        Model_resolve_jn82 call x0 h
      else
        (ax_gr h x0 9 17).bind fun v11 =>
        (ax_gr h x0 9 44).bind fun v12 =>
        (ax_gi h x0 9 48).bind fun v13 =>
        (ax_ldi h v12 1 (v13 - 1)).bind fun v14 =>
        (ax_ldi h v11 3 v14).bind fun v15 =>
        if v15 = 65 then
          ax_on h x0 9 <| ax_cv (call 206 [ax_A x0] h) fun h18 =>
          k23 x0 h18
        else
          ax_on h x0 9 <| ax_cv (call 207 [ax_A x0] h) fun h16 =>
          k23 x0 h16
    else
      Model_resolve_jn82 call x0 h
def Model_resolve_lp23 (call : ax_Cf)  : Nat → Option Nat → ax_Hp → ax_O
  | 0 => fun _ _ => none
  | n + 1 => Model_resolve_bd23 call  (Model_resolve_lp23 call  n)
set_option maxHeartbeats 4000000 in
set_option maxRecDepth 20000 in
theorem Model_resolve_lb23 {l : Launch} {G : ax_G} {d : Nat} {call : ax_Cf} (hcall : ax_Hc l G d call) {p : Program} {e : Env} {s : State} {mi : MethodId} {args : Array Value} {below : List Frame} {meth : Method} {c : Code} {h0 : ax_Hp} (B : ax_B G p s mi meth c "SchemaDeskModel" prog_12_method_50_code 1 (some (.boolean))) (E : c.exceptionTable.isEmpty = true) (Nm : meth.name = y_Model_resolve.name)   {k23 : Option Nat → ax_Hp → ax_O} (hk23 : ∀ (x0 : Option Nat) (h : ax_Hp), ax_W G p l e s mi args below meth c 1 (d + 1) h0 23 [(0, ax_A x0)] [] h (k23 x0 h)) (x0 : Option Nat) (h : ax_Hp) : ax_W G p l e s mi args below meth c 1 (d + 1) h0 23 [(0, ax_A x0)] [] h (Model_resolve_bd23 call  k23 x0 h) := by
  unfold Model_resolve_bd23
  refine ax_aload_n B 0 d_Model_resolve_23 rfl rfl ?_
  refine ax_getfi B cl_Model (by decide) fk_Model_305 d_Model_resolve_24 (fun v6 => ?_)
  refine ax_if_le B 82 d_Model_resolve_27 (by decide) ?_ ?_
  · refine ax_sub (tv2 := [(0, ax_A x0)]) [0] rfl ?_
    exact Model_resolve_jq82 hcall B E Nm x0 h
  · refine ax_aload_n B 0 d_Model_resolve_30 rfl rfl ?_
    refine ax_getfi B cl_Model (by decide) fk_Model_298 d_Model_resolve_31 (fun v9 => ?_)
    refine ax_if_ne B 82 d_Model_resolve_34 (by decide) ?_ ?_
    · refine ax_sub (tv2 := [(0, ax_A x0)]) [0] rfl ?_
      exact Model_resolve_jq82 hcall B E Nm x0 h
    · refine ax_aload_n B 0 d_Model_resolve_37 rfl rfl ?_
      refine ax_getfi B cl_Model (by decide) fk_Model_130 d_Model_resolve_38 (fun v10 => ?_)
      refine ax_sipush (v := 400) B d_Model_resolve_41 (by decide) ?_
      refine ax_icmp_gt B 82 d_Model_resolve_44 (by decide) ?_ ?_
      · refine ax_sub (tv2 := [(0, ax_A x0)]) [0] rfl ?_
        exact Model_resolve_jq82 hcall B E Nm x0 h
      · refine ax_aload_n B 0 d_Model_resolve_47 rfl rfl ?_
        refine ax_getfr B cl_Model (by decide) fk_Model_48 d_Model_resolve_48 (fun v11 => ?_)
        refine ax_aload_n B 0 d_Model_resolve_51 rfl rfl ?_
        refine ax_getfr B cl_Model (by decide) fk_Model_107 d_Model_resolve_52 (fun v12 => ?_)
        refine ax_aload_n B 0 d_Model_resolve_55 rfl rfl ?_
        refine ax_getfi B cl_Model (by decide) fk_Model_305 d_Model_resolve_56 (fun v13 => ?_)
        refine ax_iconst (v := 1) B d_Model_resolve_59 (by decide) ?_
        refine ax_isub B d_Model_resolve_60 ?_
        refine ax_iald (kd := 1) B (by decide) rfl d_Model_resolve_61 (fun v14 => ?_)
        refine ax_cald (kd := 3) B (by decide) rfl d_Model_resolve_62 (fun v15 => ?_)
        refine ax_bipush (v := 65) B d_Model_resolve_63 (by decide) ?_
        refine ax_icmp_ne B 75 d_Model_resolve_65 (by decide) ?_ ?_
        · refine ax_aload_n B 0 d_Model_resolve_75 rfl rfl ?_
          refine ax_callVv (av := []) (rest := []) B E hm_Model_tellField cl_Model rfl wd_1312 wp_86 lk_Model_318 d_Model_resolve_76 rfl (Nat.le_of_ble_eq_true rfl) (fun _ _ hh => hcall 207 _ _ _ _ hh) (fun h16 => ?_)
          refine ax_goto B 23 d_Model_resolve_79 (by decide) ?_
          refine ax_sub (tv2 := [(0, ax_A x0)]) [0] rfl ?_
          exact hk23 x0 h16
        · refine ax_aload_n B 0 d_Model_resolve_68 rfl rfl ?_
          refine ax_callVv (av := []) (rest := []) B E hm_Model_tellElement cl_Model rfl wd_1308 wp_85 lk_Model_315 d_Model_resolve_69 rfl (Nat.le_of_ble_eq_true rfl) (fun _ _ hh => hcall 206 _ _ _ _ hh) (fun h18 => ?_)
          refine ax_goto B 23 d_Model_resolve_72 (by decide) ?_
          refine ax_sub (tv2 := [(0, ax_A x0)]) [0] rfl ?_
          exact hk23 x0 h18
theorem Model_resolve_lq23 {l : Launch} {G : ax_G} {d : Nat} {call : ax_Cf} (hcall : ax_Hc l G d call) {p : Program} {e : Env} {s : State} {mi : MethodId} {args : Array Value} {below : List Frame} {meth : Method} {c : Code} {h0 : ax_Hp} (B : ax_B G p s mi meth c "SchemaDeskModel" prog_12_method_50_code 1 (some (.boolean))) (E : c.exceptionTable.isEmpty = true) (Nm : meth.name = y_Model_resolve.name)   : ∀ (n : Nat) (x0 : Option Nat) (h : ax_Hp), ax_W G p l e s mi args below meth c 1 (d + 1) h0 23 [(0, ax_A x0)] [] h (Model_resolve_lp23 call  n x0 h)
  | 0, _, _ => ax_none
  | n + 1, x0, h => Model_resolve_lb23 hcall B E Nm   (Model_resolve_lq23 hcall B E Nm   n) x0 h
def Model_resolve_b (call : ax_Cf) (x0 : Option Nat) (h : ax_Hp) : ax_O :=
  (ax_pz h x0 9 49 0).bind fun h1 =>
  (ax_pf h1 x0 9 48 (ax_I 0)).bind fun h2 =>
  (ax_pf h2 x0 9 7 (ax_I 0)).bind fun h3 =>
  ax_on h3 x0 9 <| ax_cv (call 203 [ax_A x0, ax_I 0, ax_I 120, ax_I 0] h3) fun h4 =>
  Model_resolve_lp23 call ax_fuel x0 h4
set_option maxHeartbeats 4000000 in
set_option maxRecDepth 20000 in
theorem Model_resolve_t {l : Launch} {G : ax_G} {d : Nat} {call : ax_Cf} (hcall : ax_Hc l G d call) (x0 : Option Nat) (h : ax_Hp) {r : ax_Rs} {h' : ax_Hp} (ho : Model_resolve_b call x0 h = some (r, h')) : ax_C l G (d + 1) y_Model_resolve (.code y_Model_resolve prog_12_method_50_code 1 (some (.boolean))) [ax_A x0] h r h' := by
  refine ax_enter (by decide) (Nat.le_of_ble_eq_true rfl) ho (fun p e s mi args below meth c B E Nm => ?_)
  have B : ax_B G p s mi meth c "SchemaDeskModel" prog_12_method_50_code 1 (some (.boolean)) := B
  show ax_W G p l e s mi args below meth c 1 (d + 1) h 0 [(0, ax_A x0)] [] h (Model_resolve_b call x0 h)
  unfold Model_resolve_b
  refine ax_aload_n B 0 d_Model_resolve_0 rfl rfl ?_
  refine ax_iconst (v := 0) B d_Model_resolve_1 (by decide) ?_
  refine ax_putfz B cl_Model (by decide) fk_Model_298 (Or.inl rfl) rfl d_Model_resolve_2 (fun h1 => ?_)
  refine ax_aload_n B 0 d_Model_resolve_5 rfl rfl ?_
  refine ax_iconst (v := 0) B d_Model_resolve_6 (by decide) ?_
  refine ax_putf (v := ax_I 0) B cl_Model (by decide) fk_Model_305 (Or.inl rfl) (fun _ => rfl) (fun _ => rfl) d_Model_resolve_7 (fun h2 => ?_)
  refine ax_aload_n B 0 d_Model_resolve_10 rfl rfl ?_
  refine ax_iconst (v := 0) B d_Model_resolve_11 (by decide) ?_
  refine ax_putf (v := ax_I 0) B cl_Model (by decide) fk_Model_130 (Or.inl rfl) (fun _ => rfl) (fun _ => rfl) d_Model_resolve_12 (fun h3 => ?_)
  refine ax_aload_n B 0 d_Model_resolve_15 rfl rfl ?_
  refine ax_iconst (v := 0) B d_Model_resolve_16 (by decide) ?_
  refine ax_bipush (v := 120) B d_Model_resolve_17 (by decide) ?_
  refine ax_iconst (v := 0) B d_Model_resolve_19 (by decide) ?_
  refine ax_callVv (av := [ax_I 0, ax_I 120, ax_I 0]) (rest := []) B E hm_Model_tell cl_Model rfl wd_1294 wp_82 lk_Model_311 d_Model_resolve_20 rfl (Nat.le_of_ble_eq_true rfl) (fun _ _ hh => hcall 203 _ _ _ _ hh) (fun h4 => ?_)
  refine ax_sub (tv2 := [(0, ax_A x0)]) [0] rfl ?_
  exact Model_resolve_lq23 hcall B E Nm ax_fuel x0 h4
