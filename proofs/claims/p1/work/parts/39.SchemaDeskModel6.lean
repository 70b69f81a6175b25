theorem d_Model_tell_0 : decode prog_12_method_47_code 0 = .ok (.iload_n 1, 1) := by decide +kernel
theorem d_Model_tell_1 : decode prog_12_method_47_code 1 = .ok (.istore 4, 2) := by decide +kernel
theorem d_Model_tell_3 : decode prog_12_method_47_code 3 = .ok (.iload_n 2, 1) := by decide +kernel
theorem d_Model_tell_4 : decode prog_12_method_47_code 4 = .ok (.istore 5, 2) := by decide +kernel
theorem d_Model_tell_6 : decode prog_12_method_47_code 6 = .ok (.iload_n 3, 1) := by decide +kernel
theorem d_Model_tell_7 : decode prog_12_method_47_code 7 = .ok (.istore 6, 2) := by decide +kernel
theorem d_Model_tell_9 : decode prog_12_method_47_code 9 = .ok (.aload_n 0, 1) := by decide +kernel
theorem d_Model_tell_10 : decode prog_12_method_47_code 10 = .ok (.getfield 48, 3) := by decide +kernel
theorem d_Model_tell_13 : decode prog_12_method_47_code 13 = .ok (.iload 5, 2) := by decide +kernel
theorem d_Model_tell_15 : decode prog_12_method_47_code 15 = .ok (.caload, 1) := by decide +kernel
theorem d_Model_tell_16 : decode prog_12_method_47_code 16 = .ok (.bipush 85, 2) := by decide +kernel
theorem d_Model_tell_18 : decode prog_12_method_47_code 18 = .ok (.if_icmp .ne 25, 3) := by decide +kernel
theorem d_Model_tell_21 : decode prog_12_method_47_code 21 = .ok (.aload_n 0, 1) := by decide +kernel
theorem d_Model_tell_22 : decode prog_12_method_47_code 22 = .ok (.iload 6, 2) := by decide +kernel
theorem d_Model_tell_24 : decode prog_12_method_47_code 24 = .ok (.iconst 4, 1) := by decide +kernel
theorem d_Model_tell_25 : decode prog_12_method_47_code 25 = .ok (.invokevirtual 262, 3) := by decide +kernel
theorem d_Model_tell_28 : decode prog_12_method_47_code 28 = .ok (.istore 6, 2) := by decide +kernel
theorem d_Model_tell_30 : decode prog_12_method_47_code 30 = .ok (.aload_n 0, 1) := by decide +kernel
theorem d_Model_tell_31 : decode prog_12_method_47_code 31 = .ok (.iload 5, 2) := by decide +kernel
theorem d_Model_tell_33 : decode prog_12_method_47_code 33 = .ok (.aload_n 0, 1) := by decide +kernel
theorem d_Model_tell_34 : decode prog_12_method_47_code 34 = .ok (.getfield 204, 3) := by decide +kernel
theorem d_Model_tell_37 : decode prog_12_method_47_code 37 = .ok (.l2i, 1) := by decide +kernel
theorem d_Model_tell_38 : decode prog_12_method_47_code 38 = .ok (.invokevirtual 235, 3) := by decide +kernel
theorem d_Model_tell_41 : decode prog_12_method_47_code 41 = .ok (.istore 5, 2) := by decide +kernel
theorem d_Model_tell_43 : decode prog_12_method_47_code 43 = .ok (.aload_n 0, 1) := by decide +kernel
theorem d_Model_tell_44 : decode prog_12_method_47_code 44 = .ok (.getfield 48, 3) := by decide +kernel
theorem d_Model_tell_47 : decode prog_12_method_47_code 47 = .ok (.iload 4, 2) := by decide +kernel
theorem d_Model_tell_49 : decode prog_12_method_47_code 49 = .ok (.caload, 1) := by decide +kernel
theorem d_Model_tell_50 : decode prog_12_method_47_code 50 = .ok (.bipush 85, 2) := by decide +kernel
theorem d_Model_tell_52 : decode prog_12_method_47_code 52 = .ok (.if_icmp .ne 76, 3) := by decide +kernel
theorem d_Model_tell_55 : decode prog_12_method_47_code 55 = .ok (.iconst 0, 1) := by decide +kernel
theorem d_Model_tell_56 : decode prog_12_method_47_code 56 = .ok (.istore 7, 2) := by decide +kernel
theorem d_Model_tell_58 : decode prog_12_method_47_code 58 = .ok (.aload_n 0, 1) := by decide +kernel
theorem d_Model_tell_59 : decode prog_12_method_47_code 59 = .ok (.getfield 51, 3) := by decide +kernel
theorem d_Model_tell_62 : decode prog_12_method_47_code 62 = .ok (.iload 4, 2) := by decide +kernel
theorem d_Model_tell_64 : decode prog_12_method_47_code 64 = .ok (.iaload, 1) := by decide +kernel
theorem d_Model_tell_65 : decode prog_12_method_47_code 65 = .ok (.istore 8, 2) := by decide +kernel
theorem d_Model_tell_67 : decode prog_12_method_47_code 67 = .ok (.iload 8, 2) := by decide +kernel
theorem d_Model_tell_69 : decode prog_12_method_47_code 69 = .ok (.ifCond .lt 29, 3) := by decide +kernel
theorem d_Model_tell_72 : decode prog_12_method_47_code 72 = .ok (.aload_n 0, 1) := by decide +kernel
theorem d_Model_tell_73 : decode prog_12_method_47_code 73 = .ok (.iload 8, 2) := by decide +kernel
theorem d_Model_tell_75 : decode prog_12_method_47_code 75 = .ok (.iload 5, 2) := by decide +kernel
theorem d_Model_tell_77 : decode prog_12_method_47_code 77 = .ok (.invokevirtual 280, 3) := by decide +kernel
theorem d_Model_tell_80 : decode prog_12_method_47_code 80 = .ok (.ifCond .ne 18, 3) := by decide +kernel
theorem d_Model_tell_83 : decode prog_12_method_47_code 83 = .ok (.aload_n 0, 1) := by decide +kernel
theorem d_Model_tell_84 : decode prog_12_method_47_code 84 = .ok (.getfield 54, 3) := by decide +kernel
theorem d_Model_tell_87 : decode prog_12_method_47_code 87 = .ok (.iload 8, 2) := by decide +kernel
theorem d_Model_tell_89 : decode prog_12_method_47_code 89 = .ok (.iaload, 1) := by decide +kernel
theorem d_Model_tell_90 : decode prog_12_method_47_code 90 = .ok (.istore 8, 2) := by decide +kernel
theorem d_Model_tell_92 : decode prog_12_method_47_code 92 = .ok (.iinc 7 1, 3) := by decide +kernel
theorem d_Model_tell_95 : decode prog_12_method_47_code 95 = .ok (.goto (-28), 3) := by decide +kernel
theorem d_Model_tell_98 : decode prog_12_method_47_code 98 = .ok (.iload 8, 2) := by decide +kernel
theorem d_Model_tell_100 : decode prog_12_method_47_code 100 = .ok (.ifCond .ge 9, 3) := by decide +kernel
theorem d_Model_tell_103 : decode prog_12_method_47_code 103 = .ok (.aload_n 0, 1) := by decide +kernel
theorem d_Model_tell_104 : decode prog_12_method_47_code 104 = .ok (.iconst 1, 1) := by decide +kernel
theorem d_Model_tell_105 : decode prog_12_method_47_code 105 = .ok (.putfield 298, 3) := by decide +kernel
theorem d_Model_tell_108 : decode prog_12_method_47_code 108 = .ok (.return_, 1) := by decide +kernel
theorem d_Model_tell_109 : decode prog_12_method_47_code 109 = .ok (.aload_n 0, 1) := by decide +kernel
theorem d_Model_tell_110 : decode prog_12_method_47_code 110 = .ok (.bipush 48, 2) := by decide +kernel
theorem d_Model_tell_112 : decode prog_12_method_47_code 112 = .ok (.iload 7, 2) := by decide +kernel
theorem d_Model_tell_114 : decode prog_12_method_47_code 114 = .ok (.iadd, 1) := by decide +kernel
theorem d_Model_tell_115 : decode prog_12_method_47_code 115 = .ok (.invokevirtual 208, 3) := by decide +kernel
theorem d_Model_tell_118 : decode prog_12_method_47_code 118 = .ok (.aload_n 0, 1) := by decide +kernel
theorem d_Model_tell_119 : decode prog_12_method_47_code 119 = .ok (.bipush 58, 2) := by decide +kernel
theorem d_Model_tell_121 : decode prog_12_method_47_code 121 = .ok (.invokevirtual 208, 3) := by decide +kernel
theorem d_Model_tell_124 : decode prog_12_method_47_code 124 = .ok (.iload 8, 2) := by decide +kernel
theorem d_Model_tell_126 : decode prog_12_method_47_code 126 = .ok (.istore 4, 2) := by decide +kernel
theorem d_Model_tell_128 : decode prog_12_method_47_code 128 = .ok (.aload_n 0, 1) := by decide +kernel
theorem d_Model_tell_129 : decode prog_12_method_47_code 129 = .ok (.getfield 48, 3) := by decide +kernel
theorem d_Model_tell_132 : decode prog_12_method_47_code 132 = .ok (.iload 5, 2) := by decide +kernel
theorem d_Model_tell_134 : decode prog_12_method_47_code 134 = .ok (.caload, 1) := by decide +kernel
theorem d_Model_tell_135 : decode prog_12_method_47_code 135 = .ok (.bipush 65, 2) := by decide +kernel
theorem d_Model_tell_137 : decode prog_12_method_47_code 137 = .ok (.if_icmp .eq 15, 3) := by decide +kernel
theorem d_Model_tell_140 : decode prog_12_method_47_code 140 = .ok (.aload_n 0, 1) := by decide +kernel
theorem d_Model_tell_141 : decode prog_12_method_47_code 141 = .ok (.getfield 48, 3) := by decide +kernel
theorem d_Model_tell_144 : decode prog_12_method_47_code 144 = .ok (.iload 5, 2) := by decide +kernel
theorem d_Model_tell_146 : decode prog_12_method_47_code 146 = .ok (.caload, 1) := by decide +kernel
theorem d_Model_tell_147 : decode prog_12_method_47_code 147 = .ok (.bipush 82, 2) := by decide +kernel
theorem d_Model_tell_149 : decode prog_12_method_47_code 149 = .ok (.if_icmp .ne 7, 3) := by decide +kernel
theorem d_Model_tell_152 : decode prog_12_method_47_code 152 = .ok (.iconst 1, 1) := by decide +kernel
theorem d_Model_tell_153 : decode prog_12_method_47_code 153 = .ok (.goto 4, 3) := by decide +kernel
theorem d_Model_tell_156 : decode prog_12_method_47_code 156 = .ok (.iconst 0, 1) := by decide +kernel
theorem d_Model_tell_157 : decode prog_12_method_47_code 157 = .ok (.istore 7, 2) := by decide +kernel
theorem d_Model_tell_159 : decode prog_12_method_47_code 159 = .ok (.iload 7, 2) := by decide +kernel
theorem d_Model_tell_161 : decode prog_12_method_47_code 161 = .ok (.ifCond .eq 20, 3) := by decide +kernel
theorem d_Model_tell_164 : decode prog_12_method_47_code 164 = .ok (.aload_n 0, 1) := by decide +kernel
theorem d_Model_tell_165 : decode prog_12_method_47_code 165 = .ok (.getfield 48, 3) := by decide +kernel
theorem d_Model_tell_168 : decode prog_12_method_47_code 168 = .ok (.iload 4, 2) := by decide +kernel
theorem d_Model_tell_170 : decode prog_12_method_47_code 170 = .ok (.caload, 1) := by decide +kernel
theorem d_Model_tell_171 : decode prog_12_method_47_code 171 = .ok (.aload_n 0, 1) := by decide +kernel
theorem d_Model_tell_172 : decode prog_12_method_47_code 172 = .ok (.getfield 48, 3) := by decide +kernel
theorem d_Model_tell_175 : decode prog_12_method_47_code 175 = .ok (.iload 5, 2) := by decide +kernel
theorem d_Model_tell_177 : decode prog_12_method_47_code 177 = .ok (.caload, 1) := by decide +kernel
theorem d_Model_tell_178 : decode prog_12_method_47_code 178 = .ok (.if_icmp .eq 31, 3) := by decide +kernel
theorem d_Model_tell_181 : decode prog_12_method_47_code 181 = .ok (.aload_n 0, 1) := by decide +kernel
theorem d_Model_tell_182 : decode prog_12_method_47_code 182 = .ok (.iload 7, 2) := by decide +kernel
theorem d_Model_tell_184 : decode prog_12_method_47_code 184 = .ok (.ifCond .ne 16, 3) := by decide +kernel
theorem d_Model_tell_187 : decode prog_12_method_47_code 187 = .ok (.aload_n 0, 1) := by decide +kernel
theorem d_Model_tell_188 : decode prog_12_method_47_code 188 = .ok (.iload 4, 2) := by decide +kernel
theorem d_Model_tell_190 : decode prog_12_method_47_code 190 = .ok (.iload 5, 2) := by decide +kernel
theorem d_Model_tell_192 : decode prog_12_method_47_code 192 = .ok (.iload 6, 2) := by decide +kernel
theorem d_Model_tell_194 : decode prog_12_method_47_code 194 = .ok (.invokevirtual 301, 3) := by decide +kernel
theorem d_Model_tell_197 : decode prog_12_method_47_code 197 = .ok (.ifCond .ne 7, 3) := by decide +kernel
theorem d_Model_tell_200 : decode prog_12_method_47_code 200 = .ok (.iconst 1, 1) := by decide +kernel
theorem d_Model_tell_201 : decode prog_12_method_47_code 201 = .ok (.goto 4, 3) := by decide +kernel
theorem d_Model_tell_204 : decode prog_12_method_47_code 204 = .ok (.iconst 0, 1) := by decide +kernel
theorem d_Model_tell_205 : decode prog_12_method_47_code 205 = .ok (.putfield 298, 3) := by decide +kernel
theorem d_Model_tell_208 : decode prog_12_method_47_code 208 = .ok (.return_, 1) := by decide +kernel
theorem d_Model_tell_209 : decode prog_12_method_47_code 209 = .ok (.aload_n 0, 1) := by decide +kernel
theorem d_Model_tell_210 : decode prog_12_method_47_code 210 = .ok (.aload_n 0, 1) := by decide +kernel
theorem d_Model_tell_211 : decode prog_12_method_47_code 211 = .ok (.getfield 48, 3) := by decide +kernel
theorem d_Model_tell_214 : decode prog_12_method_47_code 214 = .ok (.iload 4, 2) := by decide +kernel
theorem d_Model_tell_216 : decode prog_12_method_47_code 216 = .ok (.caload, 1) := by decide +kernel
theorem d_Model_tell_217 : decode prog_12_method_47_code 217 = .ok (.bipush 65, 2) := by decide +kernel
theorem d_Model_tell_219 : decode prog_12_method_47_code 219 = .ok (.if_icmp .ne 8, 3) := by decide +kernel
theorem d_Model_tell_222 : decode prog_12_method_47_code 222 = .ok (.bipush 91, 2) := by decide +kernel
theorem d_Model_tell_224 : decode prog_12_method_47_code 224 = .ok (.goto 5, 3) := by decide +kernel
theorem d_Model_tell_227 : decode prog_12_method_47_code 227 = .ok (.bipush 123, 2) := by decide +kernel
theorem d_Model_tell_229 : decode prog_12_method_47_code 229 = .ok (.invokevirtual 208, 3) := by decide +kernel
theorem d_Model_tell_232 : decode prog_12_method_47_code 232 = .ok (.aload_n 0, 1) := by decide +kernel
theorem d_Model_tell_233 : decode prog_12_method_47_code 233 = .ok (.getfield 104, 3) := by decide +kernel
theorem d_Model_tell_236 : decode prog_12_method_47_code 236 = .ok (.aload_n 0, 1) := by decide +kernel
theorem d_Model_tell_237 : decode prog_12_method_47_code 237 = .ok (.getfield 305, 3) := by decide +kernel
theorem d_Model_tell_240 : decode prog_12_method_47_code 240 = .ok (.aload_n 0, 1) := by decide +kernel
theorem d_Model_tell_241 : decode prog_12_method_47_code 241 = .ok (.getfield 48, 3) := by decide +kernel
theorem d_Model_tell_244 : decode prog_12_method_47_code 244 = .ok (.iload 4, 2) := by decide +kernel
theorem d_Model_tell_246 : decode prog_12_method_47_code 246 = .ok (.caload, 1) := by decide +kernel
theorem d_Model_tell_247 : decode prog_12_method_47_code 247 = .ok (.bipush 65, 2) := by decide +kernel
theorem d_Model_tell_249 : decode prog_12_method_47_code 249 = .ok (.if_icmp .ne 8, 3) := by decide +kernel
theorem d_Model_tell_252 : decode prog_12_method_47_code 252 = .ok (.iload 4, 2) := by decide +kernel
theorem d_Model_tell_254 : decode prog_12_method_47_code 254 = .ok (.goto 10, 3) := by decide +kernel
theorem d_Model_tell_257 : decode prog_12_method_47_code 257 = .ok (.aload_n 0, 1) := by decide +kernel
theorem d_Model_tell_258 : decode prog_12_method_47_code 258 = .ok (.getfield 51, 3) := by decide +kernel
theorem d_Model_tell_261 : decode prog_12_method_47_code 261 = .ok (.iload 4, 2) := by decide +kernel
theorem d_Model_tell_263 : decode prog_12_method_47_code 263 = .ok (.iaload, 1) := by decide +kernel
theorem d_Model_tell_264 : decode prog_12_method_47_code 264 = .ok (.iastore, 1) := by decide +kernel
theorem d_Model_tell_265 : decode prog_12_method_47_code 265 = .ok (.aload_n 0, 1) := by decide +kernel
theorem d_Model_tell_266 : decode prog_12_method_47_code 266 = .ok (.getfield 107, 3) := by decide +kernel
theorem d_Model_tell_269 : decode prog_12_method_47_code 269 = .ok (.aload_n 0, 1) := by decide +kernel
theorem d_Model_tell_270 : decode prog_12_method_47_code 270 = .ok (.getfield 305, 3) := by decide +kernel
theorem d_Model_tell_273 : decode prog_12_method_47_code 273 = .ok (.iload 5, 2) := by decide +kernel
theorem d_Model_tell_275 : decode prog_12_method_47_code 275 = .ok (.iastore, 1) := by decide +kernel
theorem d_Model_tell_276 : decode prog_12_method_47_code 276 = .ok (.aload_n 0, 1) := by decide +kernel
theorem d_Model_tell_277 : decode prog_12_method_47_code 277 = .ok (.getfield 110, 3) := by decide +kernel
theorem d_Model_tell_280 : decode prog_12_method_47_code 280 = .ok (.aload_n 0, 1) := by decide +kernel
theorem d_Model_tell_281 : decode prog_12_method_47_code 281 = .ok (.getfield 305, 3) := by decide +kernel
theorem d_Model_tell_284 : decode prog_12_method_47_code 284 = .ok (.iload 6, 2) := by decide +kernel
theorem d_Model_tell_286 : decode prog_12_method_47_code 286 = .ok (.iastore, 1) := by decide +kernel
theorem d_Model_tell_287 : decode prog_12_method_47_code 287 = .ok (.aload_n 0, 1) := by decide +kernel
theorem d_Model_tell_288 : decode prog_12_method_47_code 288 = .ok (.getfield 113, 3) := by decide +kernel
theorem d_Model_tell_291 : decode prog_12_method_47_code 291 = .ok (.aload_n 0, 1) := by decide +kernel
theorem d_Model_tell_292 : decode prog_12_method_47_code 292 = .ok (.getfield 305, 3) := by decide +kernel
theorem d_Model_tell_295 : decode prog_12_method_47_code 295 = .ok (.iconst 0, 1) := by decide +kernel
theorem d_Model_tell_296 : decode prog_12_method_47_code 296 = .ok (.iastore, 1) := by decide +kernel
theorem d_Model_tell_297 : decode prog_12_method_47_code 297 = .ok (.aload_n 0, 1) := by decide +kernel
theorem d_Model_tell_298 : decode prog_12_method_47_code 298 = .ok (.getfield 116, 3) := by decide +kernel
theorem d_Model_tell_301 : decode prog_12_method_47_code 301 = .ok (.aload_n 0, 1) := by decide +kernel
theorem d_Model_tell_302 : decode prog_12_method_47_code 302 = .ok (.getfield 305, 3) := by decide +kernel
theorem d_Model_tell_305 : decode prog_12_method_47_code 305 = .ok (.iconst 0, 1) := by decide +kernel
theorem d_Model_tell_306 : decode prog_12_method_47_code 306 = .ok (.iastore, 1) := by decide +kernel
theorem d_Model_tell_307 : decode prog_12_method_47_code 307 = .ok (.aload_n 0, 1) := by decide +kernel
theorem d_Model_tell_308 : decode prog_12_method_47_code 308 = .ok (.dup, 1) := by decide +kernel
theorem d_Model_tell_309 : decode prog_12_method_47_code 309 = .ok (.getfield 305, 3) := by decide +kernel
theorem d_Model_tell_312 : decode prog_12_method_47_code 312 = .ok (.iconst 1, 1) := by decide +kernel
theorem d_Model_tell_313 : decode prog_12_method_47_code 313 = .ok (.iadd, 1) := by decide +kernel
theorem d_Model_tell_314 : decode prog_12_method_47_code 314 = .ok (.putfield 305, 3) := by decide +kernel
theorem d_Model_tell_317 : decode prog_12_method_47_code 317 = .ok (.return_, 1) := by decide +kernel
def Model_tell_jn205 (call : ax_Cf)  (s0 : Int32) (s1 : Option Nat) (h : ax_Hp) : ax_O :=
  (ax_pz h s1 9 49 s0).bind fun h7 =>
  ax_rv h7
set_option maxHeartbeats 4000000 in
set_option maxRecDepth 20000 in
theorem Model_tell_jq205 {l : Launch} {G : ax_G} {d : Nat} {call : ax_Cf} (hcall : ax_Hc l G d call) {p : Program} {e : Env} {s : State} {mi : MethodId} {args : Array Value} {below : List Frame} {meth : Method} {c : Code} {h0 : ax_Hp} (B : ax_B G p s mi meth c "SchemaDeskModel" prog_12_method_47_code 9 none) (E : c.exceptionTable.isEmpty = true) (Nm : meth.name = y_Model_tell.name)   (s0 : Int32) (s1 : Option Nat) (h : ax_Hp) : ax_W G p l e s mi args below meth c 9 (d + 1) h0 205 [] [ax_I s0, ax_A s1] h (Model_tell_jn205 call  s0 s1 h) := by
  unfold Model_tell_jn205
  refine ax_putfz B cl_Model (by decide) fk_Model_298 (Or.inl rfl) rfl d_Model_tell_205 (fun h7 => ?_)
  exact ax_vreturn B d_Model_tell_208
def Model_tell_jn200 (call : ax_Cf)  (s0 : Option Nat) (h : ax_Hp) : ax_O :=
  Model_tell_jn205 call 1 s0 h
set_option maxHeartbeats 4000000 in
set_option maxRecDepth 20000 in
theorem Model_tell_jq200 {l : Launch} {G : ax_G} {d : Nat} {call : ax_Cf} (hcall : ax_Hc l G d call) {p : Program} {e : Env} {s : State} {mi : MethodId} {args : Array Value} {below : List Frame} {meth : Method} {c : Code} {h0 : ax_Hp} (B : ax_B G p s mi meth c "SchemaDeskModel" prog_12_method_47_code 9 none) (E : c.exceptionTable.isEmpty = true) (Nm : meth.name = y_Model_tell.name)   (s0 : Option Nat) (h : ax_Hp) : ax_W G p l e s mi args below meth c 9 (d + 1) h0 200 [] [ax_A s0] h (Model_tell_jn200 call  s0 h) := by
  unfold Model_tell_jn200
  refine ax_iconst (v := 1) B d_Model_tell_200 (by decide) ?_
  refine ax_goto B 205 d_Model_tell_201 (by decide) ?_
  refine ax_sub (tv2 := []) [] rfl ?_
  exact Model_tell_jq205 hcall B E Nm 1 s0 h
def Model_tell_jn181 (call : ax_Cf)  (x0 : Option Nat) (x4 : Int32) (x5 : Int32) (x6 : Int32) (x7 : Int32) (h : ax_Hp) : ax_O :=
  if x7 = 0 then
    ax_on h x0 9 <| ax_ci (call 204 [ax_A x0, ax_I x4, ax_I x5, ax_I x6] h) fun v9 h8 =>
    if v9 = 0 then
      Model_tell_jn200 call x0 h8
    else
      Model_tell_jn205 call 0 x0 h8
  else
    Model_tell_jn200 call x0 h
set_option maxHeartbeats 4000000 in
set_option maxRecDepth 20000 in
theorem Model_tell_jq181 {l : Launch} {G : ax_G} {d : Nat} {call : ax_Cf} (hcall : ax_Hc l G d call) {p : Program} {e : Env} {s : State} {mi : MethodId} {args : Array Value} {below : List Frame} {meth : Method} {c : Code} {h0 : ax_Hp} (B : ax_B G p s mi meth c "SchemaDeskModel" prog_12_method_47_code 9 none) (E : c.exceptionTable.isEmpty = true) (Nm : meth.name = y_Model_tell.name)   (x0 : Option Nat) (x4 : Int32) (x5 : Int32) (x6 : Int32) (x7 : Int32) (h : ax_Hp) : ax_W G p l e s mi args below meth c 9 (d + 1) h0 181 [(0, ax_A x0), (4, ax_I x4), (5, ax_I x5), (6, ax_I x6), (7, ax_I x7)] [] h (Model_tell_jn181 call  x0 x4 x5 x6 x7 h) := by
  unfold Model_tell_jn181
  refine ax_aload_n B 0 d_Model_tell_181 rfl rfl ?_
  refine ax_iload B 4 d_Model_tell_182 rfl ?_
  refine ax_if_ne B 200 d_Model_tell_184 (by decide) ?_ ?_
  · refine ax_sub (tv2 := []) [] rfl ?_
    exact Model_tell_jq200 hcall B E Nm x0 h
  · refine ax_aload_n B 0 d_Model_tell_187 rfl rfl ?_
    refine ax_iload B 1 d_Model_tell_188 rfl ?_
    refine ax_iload B 2 d_Model_tell_190 rfl ?_
    refine ax_iload B 3 d_Model_tell_192 rfl ?_
    refine ax_callVi (av := [ax_I x4, ax_I x5, ax_I x6]) (rest := [ax_A x0]) B E hm_Model_tellPlain cl_Model rfl wd_1298 wp_83 lk_Model_301 d_Model_tell_194 rfl (Nat.le_of_ble_eq_true rfl) (fun _ _ hh => hcall 204 _ _ _ _ hh) (fun v9 h8 => ?_)
    refine ax_if_ne B 204 d_Model_tell_197 (by decide) ?_ ?_
    · refine ax_iconst (v := 0) B d_Model_tell_204 (by decide) ?_
      refine ax_sub (tv2 := []) [] rfl ?_
      exact Model_tell_jq205 hcall B E Nm 0 x0 h8
    · refine ax_sub (tv2 := []) [] rfl ?_
      exact Model_tell_jq200 hcall B E Nm x0 h8
def Model_tell_jn264 (call : ax_Cf)  (x0 : Option Nat) (x5 : Int32) (x6 : Int32) (s0 : Int32) (s1 : Int32) (s2 : Option Nat) (h : ax_Hp) : ax_O :=
  (ax_st h s2 1 s1 (ax_I s0)).bind fun h24 =>
  (ax_gr h24 x0 9 44).bind fun v25 =>
  (ax_gi h24 x0 9 48).bind fun v26 =>
  (ax_st h24 v25 1 v26 (ax_I x5)).bind fun h27 =>
  (ax_gr h27 x0 9 45).bind fun v28 =>
  (ax_gi h27 x0 9 48).bind fun v29 =>
  (ax_st h27 v28 1 v29 (ax_I x6)).bind fun h30 =>
  (ax_gr h30 x0 9 46).bind fun v31 =>
  (ax_gi h30 x0 9 48).bind fun v32 =>
  (ax_st h30 v31 1 v32 (ax_I 0)).bind fun h33 =>
  (ax_gr h33 x0 9 47).bind fun v34 =>
  (ax_gi h33 x0 9 48).bind fun v35 =>
  (ax_st h33 v34 1 v35 (ax_I 0)).bind fun h36 =>
  (ax_gi h36 x0 9 48).bind fun v37 =>
  (ax_pf h36 x0 9 48 (ax_I (v37 + 1))).bind fun h38 =>
  ax_rv h38
set_option maxHeartbeats 4000000 in
set_option maxRecDepth 20000 in
theorem Model_tell_jq264 {l : Launch} {G : ax_G} {d : Nat} {call : ax_Cf} (hcall : ax_Hc l G d call) {p : Program} {e : Env} {s : State} {mi : MethodId} {args : Array Value} {below : List Frame} {meth : Method} {c : Code} {h0 : ax_Hp} (B : ax_B G p s mi meth c "SchemaDeskModel" prog_12_method_47_code 9 none) (E : c.exceptionTable.isEmpty = true) (Nm : meth.name = y_Model_tell.name)   (x0 : Option Nat) (x5 : Int32) (x6 : Int32) (s0 : Int32) (s1 : Int32) (s2 : Option Nat) (h : ax_Hp) : ax_W G p l e s mi args below meth c 9 (d + 1) h0 264 [(0, ax_A x0), (5, ax_I x5), (6, ax_I x6)] [ax_I s0, ax_I s1, ax_A s2] h (Model_tell_jn264 call  x0 x5 x6 s0 s1 s2 h) := by
  unfold Model_tell_jn264
  refine ax_iast (kd := 1) B (by decide) (by decide) rfl d_Model_tell_264 (fun h24 => ?_)
  refine ax_aload_n B 0 d_Model_tell_265 rfl rfl ?_
  refine ax_getfr B cl_Model (by decide) fk_Model_107 d_Model_tell_266 (fun v25 => ?_)
  refine ax_aload_n B 0 d_Model_tell_269 rfl rfl ?_
  refine ax_getfi B cl_Model (by decide) fk_Model_305 d_Model_tell_270 (fun v26 => ?_)
  refine ax_iload B 1 d_Model_tell_273 rfl ?_
  refine ax_iast (kd := 1) B (by decide) (by decide) rfl d_Model_tell_275 (fun h27 => ?_)
  refine ax_aload_n B 0 d_Model_tell_276 rfl rfl ?_
  refine ax_getfr B cl_Model (by decide) fk_Model_110 d_Model_tell_277 (fun v28 => ?_)
  refine ax_aload_n B 0 d_Model_tell_280 rfl rfl ?_
  refine ax_getfi B cl_Model (by decide) fk_Model_305 d_Model_tell_281 (fun v29 => ?_)
  refine ax_iload B 2 d_Model_tell_284 rfl ?_
  refine ax_iast (kd := 1) B (by decide) (by decide) rfl d_Model_tell_286 (fun h30 => ?_)
  refine ax_aload_n B 0 d_Model_tell_287 rfl rfl ?_
  refine ax_getfr B cl_Model (by decide) fk_Model_113 d_Model_tell_288 (fun v31 => ?_)
  refine ax_aload_n B 0 d_Model_tell_291 rfl rfl ?_
  refine ax_getfi B cl_Model (by decide) fk_Model_305 d_Model_tell_292 (fun v32 => ?_)
  refine ax_iconst (v := 0) B d_Model_tell_295 (by decide) ?_
  refine ax_iast (kd := 1) B (by decide) (by decide) rfl d_Model_tell_296 (fun h33 => ?_)
  refine ax_aload_n B 0 d_Model_tell_297 rfl rfl ?_
  refine ax_getfr B cl_Model (by decide) fk_Model_116 d_Model_tell_298 (fun v34 => ?_)
  refine ax_aload_n B 0 d_Model_tell_301 rfl rfl ?_
  refine ax_getfi B cl_Model (by decide) fk_Model_305 d_Model_tell_302 (fun v35 => ?_)
  refine ax_iconst (v := 0) B d_Model_tell_305 (by decide) ?_
  refine ax_iast (kd := 1) B (by decide) (by decide) rfl d_Model_tell_306 (fun h36 => ?_)
  refine ax_aload_n B 0 d_Model_tell_307 rfl rfl ?_
  refine ax_dup B d_Model_tell_308 rfl ?_
  refine ax_getfi B cl_Model (by decide) fk_Model_305 d_Model_tell_309 (fun v37 => ?_)
  refine ax_iconst (v := 1) B d_Model_tell_312 (by decide) ?_
  refine ax_iadd B d_Model_tell_313 ?_
  refine ax_putf (v := ax_I (v37 + 1)) B cl_Model (by decide) fk_Model_305 (Or.inl rfl) (fun _ => rfl) (fun _ => rfl) d_Model_tell_314 (fun h38 => ?_)
  exact ax_vreturn B d_Model_tell_317
def Model_tell_jn229 (call : ax_Cf)  (x0 : Option Nat) (x4 : Int32) (x5 : Int32) (x6 : Int32) (s0 : Int32) (s1 : Option Nat) (h : ax_Hp) : ax_O :=
  ax_on h s1 9 <| ax_cv (call 160 [ax_A s1, ax_I s0] h) fun h16 =>
  (ax_gr h16 x0 9 43).bind fun v18 =>
  (ax_gi h16 x0 9 48).bind fun v19 =>
  (ax_gr h16 x0 9 17).bind fun v20 =>
  (ax_ldi h16 v20 3 x4).bind fun v21 =>
  if v21 = 65 then
    Model_tell_jn264 call x0 x5 x6 x4 v19 v18 h16
  else
    (ax_gr h16 x0 9 18).bind fun v22 =>
    (ax_ldi h16 v22 1 x4).bind fun v23 =>
    Model_tell_jn264 call x0 x5 x6 v23 v19 v18 h16
set_option maxHeartbeats 4000000 in
set_option maxRecDepth 20000 in
theorem Model_tell_jq229 {l : Launch} {G : ax_G} {d : Nat} {call : ax_Cf} (hcall : ax_Hc l G d call) {p : Program} {e : Env} {s : State} {mi : MethodId} {args : Array Value} {below : List Frame} {meth : Method} {c : Code} {h0 : ax_Hp} (B : ax_B G p s mi meth c "SchemaDeskModel" prog_12_method_47_code 9 none) (E : c.exceptionTable.isEmpty = true) (Nm : meth.name = y_Model_tell.name)   (x0 : Option Nat) (x4 : Int32) (x5 : Int32) (x6 : Int32) (s0 : Int32) (s1 : Option Nat) (h : ax_Hp) : ax_W G p l e s mi args below meth c 9 (d + 1) h0 229 [(0, ax_A x0), (4, ax_I x4), (5, ax_I x5), (6, ax_I x6)] [ax_I s0, ax_A s1] h (Model_tell_jn229 call  x0 x4 x5 x6 s0 s1 h) := by
  unfold Model_tell_jn229
  refine ax_callVv (av := [ax_I s0]) (rest := []) B E hm_Model_say cl_Model rfl wd_1116 wp_46 lk_Model_208 d_Model_tell_229 rfl (Nat.le_of_ble_eq_true rfl) (fun _ _ hh => hcall 160 _ _ _ _ hh) (fun h16 => ?_)
  refine ax_aload_n B 0 d_Model_tell_232 rfl rfl ?_
  refine ax_getfr B cl_Model (by decide) fk_Model_104 d_Model_tell_233 (fun v18 => ?_)
  refine ax_aload_n B 0 d_Model_tell_236 rfl rfl ?_
  refine ax_getfi B cl_Model (by decide) fk_Model_305 d_Model_tell_237 (fun v19 => ?_)
  refine ax_aload_n B 0 d_Model_tell_240 rfl rfl ?_
  refine ax_getfr B cl_Model (by decide) fk_Model_48 d_Model_tell_241 (fun v20 => ?_)
  refine ax_iload B 1 d_Model_tell_244 rfl ?_
  refine ax_cald (kd := 3) B (by decide) rfl d_Model_tell_246 (fun v21 => ?_)
  refine ax_bipush (v := 65) B d_Model_tell_247 (by decide) ?_
  refine ax_icmp_ne B 257 d_Model_tell_249 (by decide) ?_ ?_
  · refine ax_aload_n B 0 d_Model_tell_257 rfl rfl ?_
    refine ax_getfr B cl_Model (by decide) fk_Model_51 d_Model_tell_258 (fun v22 => ?_)
    refine ax_iload B 1 d_Model_tell_261 rfl ?_
    refine ax_iald (kd := 1) B (by decide) rfl d_Model_tell_263 (fun v23 => ?_)
    refine ax_sub (tv2 := [(0, ax_A x0), (5, ax_I x5), (6, ax_I x6)]) [0, 2, 3] rfl ?_
    exact Model_tell_jq264 hcall B E Nm x0 x5 x6 v23 v19 v18 h16
  · refine ax_iload B 1 d_Model_tell_252 rfl ?_
    refine ax_goto B 264 d_Model_tell_254 (by decide) ?_
    refine ax_sub (tv2 := [(0, ax_A x0), (5, ax_I x5), (6, ax_I x6)]) [0, 2, 3] rfl ?_
    exact Model_tell_jq264 hcall B E Nm x0 x5 x6 x4 v19 v18 h16
def Model_tell_jn157 (call : ax_Cf)  (x0 : Option Nat) (x4 : Int32) (x5 : Int32) (x6 : Int32) (s0 : Int32) (h : ax_Hp) : ax_O :=
  if s0 = 0 then
    Model_tell_jn181 call x0 x4 x5 x6 s0 h
  else
    (ax_gr h x0 9 17).bind fun v10 =>
    (ax_ldi h v10 3 x4).bind fun v11 =>
    (ax_gr h x0 9 17).bind fun v12 =>
    (ax_ldi h v12 3 x5).bind fun v13 =>
    if v11 = v13 then
      (ax_gr h x0 9 17).bind fun v14 =>
      (ax_ldi h v14 3 x4).bind fun v15 =>
      if v15 = 65 then
        Model_tell_jn229 call x0 x4 x5 x6 91 x0 h
      else
        Model_tell_jn229 call x0 x4 x5 x6 123 x0 h
    else
      Model_tell_jn181 call x0 x4 x5 x6 s0 h
set_option maxHeartbeats 4000000 in
set_option maxRecDepth 20000 in
theorem Model_tell_jq157 {l : Launch} {G : ax_G} {d : Nat} {call : ax_Cf} (hcall : ax_Hc l G d call) {p : Program} {e : Env} {s : State} {mi : MethodId} {args : Array Value} {below : List Frame} {meth : Method} {c : Code} {h0 : ax_Hp} (B : ax_B G p s mi meth c "SchemaDeskModel" prog_12_method_47_code 9 none) (E : c.exceptionTable.isEmpty = true) (Nm : meth.name = y_Model_tell.name)   (x0 : Option Nat) (x4 : Int32) (x5 : Int32) (x6 : Int32) (s0 : Int32) (h : ax_Hp) : ax_W G p l e s mi args below meth c 9 (d + 1) h0 157 [(0, ax_A x0), (4, ax_I x4), (5, ax_I x5), (6, ax_I x6)] [ax_I s0] h (Model_tell_jn157 call  x0 x4 x5 x6 s0 h) := by
  unfold Model_tell_jn157
  refine ax_istore (tv2 := [(7, ax_I s0), (0, ax_A x0), (4, ax_I x4), (5, ax_I x5), (6, ax_I x6)]) B d_Model_tell_157 (by decide) rfl ?_
  refine ax_iload B 0 d_Model_tell_159 rfl ?_
  refine ax_if_eq B 181 d_Model_tell_161 (by decide) ?_ ?_
  · refine ax_sub (tv2 := [(0, ax_A x0), (4, ax_I x4), (5, ax_I x5), (6, ax_I x6), (7, ax_I s0)]) [1, 2, 3, 4, 0] rfl ?_
    exact Model_tell_jq181 hcall B E Nm x0 x4 x5 x6 s0 h
  · refine ax_aload_n B 1 d_Model_tell_164 rfl rfl ?_
    refine ax_getfr B cl_Model (by decide) fk_Model_48 d_Model_tell_165 (fun v10 => ?_)
    refine ax_iload B 2 d_Model_tell_168 rfl ?_
    refine ax_cald (kd := 3) B (by decide) rfl d_Model_tell_170 (fun v11 => ?_)
    refine ax_aload_n B 1 d_Model_tell_171 rfl rfl ?_
    refine ax_getfr B cl_Model (by decide) fk_Model_48 d_Model_tell_172 (fun v12 => ?_)
    refine ax_iload B 3 d_Model_tell_175 rfl ?_
    refine ax_cald (kd := 3) B (by decide) rfl d_Model_tell_177 (fun v13 => ?_)
    refine ax_icmp_eq B 209 d_Model_tell_178 (by decide) ?_ ?_
    · refine ax_aload_n B 1 d_Model_tell_209 rfl rfl ?_
      refine ax_aload_n B 1 d_Model_tell_210 rfl rfl ?_
      refine ax_getfr B cl_Model (by decide) fk_Model_48 d_Model_tell_211 (fun v14 => ?_)
      refine ax_iload B 2 d_Model_tell_214 rfl ?_
      refine ax_cald (kd := 3) B (by decide) rfl d_Model_tell_216 (fun v15 => ?_)
      refine ax_bipush (v := 65) B d_Model_tell_217 (by decide) ?_
      refine ax_icmp_ne B 227 d_Model_tell_219 (by decide) ?_ ?_
      · refine ax_bipush (v := 123) B d_Model_tell_227 (by decide) ?_
        refine ax_sub (tv2 := [(0, ax_A x0), (4, ax_I x4), (5, ax_I x5), (6, ax_I x6)]) [1, 2, 3, 4] rfl ?_
        exact Model_tell_jq229 hcall B E Nm x0 x4 x5 x6 123 x0 h
      · refine ax_bipush (v := 91) B d_Model_tell_222 (by decide) ?_
        refine ax_goto B 229 d_Model_tell_224 (by decide) ?_
        refine ax_sub (tv2 := [(0, ax_A x0), (4, ax_I x4), (5, ax_I x5), (6, ax_I x6)]) [1, 2, 3, 4] rfl ?_
        exact Model_tell_jq229 hcall B E Nm x0 x4 x5 x6 91 x0 h
    · refine ax_sub (tv2 := [(0, ax_A x0), (4, ax_I x4), (5, ax_I x5), (6, ax_I x6), (7, ax_I s0)]) [1, 2, 3, 4, 0] rfl ?_
      exact Model_tell_jq181 hcall B E Nm x0 x4 x5 x6 s0 h
def Model_tell_jn152 (call : ax_Cf)  (x0 : Option Nat) (x4 : Int32) (x5 : Int32) (x6 : Int32) (h : ax_Hp) : ax_O :=
  Model_tell_jn157 call x0 x4 x5 x6 1 h
set_option maxHeartbeats 4000000 in
set_option maxRecDepth 20000 in
theorem Model_tell_jq152 {l : Launch} {G : ax_G} {d : Nat} {call : ax_Cf} (hcall : ax_Hc l G d call) {p : Program} {e : Env} {s : State} {mi : MethodId} {args : Array Value} {below : List Frame} {meth : Method} {c : Code} {h0 : ax_Hp} (B : ax_B G p s mi meth c "SchemaDeskModel" prog_12_method_47_code 9 none) (E : c.exceptionTable.isEmpty = true) (Nm : meth.name = y_Model_tell.name)   (x0 : Option Nat) (x4 : Int32) (x5 : Int32) (x6 : Int32) (h : ax_Hp) : ax_W G p l e s mi args below meth c 9 (d + 1) h0 152 [(0, ax_A x0), (4, ax_I x4), (5, ax_I x5), (6, ax_I x6)] [] h (Model_tell_jn152 call  x0 x4 x5 x6 h) := by
  unfold Model_tell_jn152
  refine ax_iconst (v := 1) B d_Model_tell_152 (by decide) ?_
  refine ax_goto B 157 d_Model_tell_153 (by decide) ?_
  refine ax_sub (tv2 := [(0, ax_A x0), (4, ax_I x4), (5, ax_I x5), (6, ax_I x6)]) [0, 1, 2, 3] rfl ?_
  exact Model_tell_jq157 hcall B E Nm x0 x4 x5 x6 1 h
def Model_tell_jn128 (call : ax_Cf)  (x0 : Option Nat) (x4 : Int32) (x5 : Int32) (x6 : Int32) (h : ax_Hp) : ax_O :=
  (ax_gr h x0 9 17).bind fun v5 =>
  (ax_ldi h v5 3 x5).bind fun v6 =>
  if v6 = 65 then
    Model_tell_jn152 call x0 x4 x5 x6 h
  else
    (ax_gr h x0 9 17).bind fun v39 =>
    (ax_ldi h v39 3 x5).bind fun v40 =>
    if v40 = 82 then
      Model_tell_jn152 call x0 x4 x5 x6 h
    else
      Model_tell_jn157 call x0 x4 x5 x6 0 h
set_option maxHeartbeats 4000000 in
set_option maxRecDepth 20000 in
theorem Model_tell_jq128 {l : Launch} {G : ax_G} {d : Nat} {call : ax_Cf} (hcall : ax_Hc l G d call) {p : Program} {e : Env} {s : State} {mi : MethodId} {args : Array Value} {below : List Frame} {meth : Method} {c : Code} {h0 : ax_Hp} (B : ax_B G p s mi meth c "SchemaDeskModel" prog_12_method_47_code 9 none) (E : c.exceptionTable.isEmpty = true) (Nm : meth.name = y_Model_tell.name)   (x0 : Option Nat) (x4 : Int32) (x5 : Int32) (x6 : Int32) (h : ax_Hp) : ax_W G p l e s mi args below meth c 9 (d + 1) h0 128 [(0, ax_A x0), (4, ax_I x4), (5, ax_I x5), (6, ax_I x6)] [] h (Model_tell_jn128 call  x0 x4 x5 x6 h) := by
  unfold Model_tell_jn128
  refine ax_aload_n B 0 d_Model_tell_128 rfl rfl ?_
  refine ax_getfr B cl_Model (by decide) fk_Model_48 d_Model_tell_129 (fun v5 => ?_)
  refine ax_iload B 2 d_Model_tell_132 rfl ?_
  refine ax_cald (kd := 3) B (by decide) rfl d_Model_tell_134 (fun v6 => ?_)
  refine ax_bipush (v := 65) B d_Model_tell_135 (by decide) ?_
  refine ax_icmp_eq B 152 d_Model_tell_137 (by decide) ?_ ?_
  · refine ax_sub (tv2 := [(0, ax_A x0), (4, ax_I x4), (5, ax_I x5), (6, ax_I x6)]) [0, 1, 2, 3] rfl ?_
    exact Model_tell_jq152 hcall B E Nm x0 x4 x5 x6 h
  · refine ax_aload_n B 0 d_Model_tell_140 rfl rfl ?_
    refine ax_getfr B cl_Model (by decide) fk_Model_48 d_Model_tell_141 (fun v39 => ?_)
    refine ax_iload B 2 d_Model_tell_144 rfl ?_
    refine ax_cald (kd := 3) B (by decide) rfl d_Model_tell_146 (fun v40 => ?_)
    refine ax_bipush (v := 82) B d_Model_tell_147 (by decide) ?_
    refine ax_icmp_ne B 156 d_Model_tell_149 (by decide) ?_ ?_
    · refine ax_iconst (v := 0) B d_Model_tell_156 (by decide) ?_
      refine ax_sub (tv2 := [(0, ax_A x0), (4, ax_I x4), (5, ax_I x5), (6, ax_I x6)]) [0, 1, 2, 3] rfl ?_
      exact Model_tell_jq157 hcall B E Nm x0 x4 x5 x6 0 h
    · refine ax_sub (tv2 := [(0, ax_A x0), (4, ax_I x4), (5, ax_I x5), (6, ax_I x6)]) [0, 1, 2, 3] rfl ?_
      exact Model_tell_jq152 hcall B E Nm x0 x4 x5 x6 h
def Model_tell_jn98 (call : ax_Cf)  (x0 : Option Nat) (x5 : Int32) (x6 : Int32) (x7 : Int32) (x8 : Int32) (h : ax_Hp) : ax_O :=
  if 0 ≤ x8 then
    ax_on h x0 9 <| ax_cv (call 160 [ax_A x0, ax_I (48 + x7)] h) fun h43 =>
    ax_on h43 x0 9 <| ax_cv (call 160 [ax_A x0, ax_I 58] h43) fun h45 =>
    Model_tell_jn128 call x0 x8 x5 x6 h45
  else
    (ax_pz h x0 9 49 1).bind fun h47 =>
    ax_rv h47
set_option maxHeartbeats 4000000 in
set_option maxRecDepth 20000 in
theorem Model_tell_jq98 {l : Launch} {G : ax_G} {d : Nat} {call : ax_Cf} (hcall : ax_Hc l G d call) {p : Program} {e : Env} {s : State} {mi : MethodId} {args : Array Value} {below : List Frame} {meth : Method} {c : Code} {h0 : ax_Hp} (B : ax_B G p s mi meth c "SchemaDeskModel" prog_12_method_47_code 9 none) (E : c.exceptionTable.isEmpty = true) (Nm : meth.name = y_Model_tell.name)   (x0 : Option Nat) (x5 : Int32) (x6 : Int32) (x7 : Int32) (x8 : Int32) (h : ax_Hp) : ax_W G p l e s mi args below meth c 9 (d + 1) h0 98 [(0, ax_A x0), (5, ax_I x5), (6, ax_I x6), (7, ax_I x7), (8, ax_I x8)] [] h (Model_tell_jn98 call  x0 x5 x6 x7 x8 h) := by
  unfold Model_tell_jn98
  refine ax_iload B 4 d_Model_tell_98 rfl ?_
  refine ax_if_ge B 109 d_Model_tell_100 (by decide) ?_ ?_
  · refine ax_aload_n B 0 d_Model_tell_109 rfl rfl ?_
    refine ax_bipush (v := 48) B d_Model_tell_110 (by decide) ?_
    refine ax_iload B 3 d_Model_tell_112 rfl ?_
    refine ax_iadd B d_Model_tell_114 ?_
    refine ax_callVv (av := [ax_I (48 + x7)]) (rest := []) B E hm_Model_say cl_Model rfl wd_1116 wp_46 lk_Model_208 d_Model_tell_115 rfl (Nat.le_of_ble_eq_true rfl) (fun _ _ hh => hcall 160 _ _ _ _ hh) (fun h43 => ?_)
    refine ax_aload_n B 0 d_Model_tell_118 rfl rfl ?_
    refine ax_bipush (v := 58) B d_Model_tell_119 (by decide) ?_
    refine ax_callVv (av := [ax_I 58]) (rest := []) B E hm_Model_say cl_Model rfl wd_1116 wp_46 lk_Model_208 d_Model_tell_121 rfl (Nat.le_of_ble_eq_true rfl) (fun _ _ hh => hcall 160 _ _ _ _ hh) (fun h45 => ?_)
    refine ax_iload B 4 d_Model_tell_124 rfl ?_
    refine ax_istore (tv2 := [(4, ax_I x8), (0, ax_A x0), (5, ax_I x5), (6, ax_I x6), (7, ax_I x7), (8, ax_I x8)]) B d_Model_tell_126 (by decide) rfl ?_
    refine ax_sub (tv2 := [(0, ax_A x0), (4, ax_I x8), (5, ax_I x5), (6, ax_I x6)]) [1, 0, 2, 3] rfl ?_
    exact Model_tell_jq128 hcall B E Nm x0 x8 x5 x6 h45
  · refine ax_aload_n B 0 d_Model_tell_103 rfl rfl ?_
    refine ax_iconst (v := 1) B d_Model_tell_104 (by decide) ?_
    refine ax_putfz B cl_Model (by decide) fk_Model_298 (Or.inl rfl) rfl d_Model_tell_105 (fun h47 => ?_)
    exact ax_vreturn B d_Model_tell_108
def Model_tell_bd67 (call : ax_Cf)  (k67 : Option Nat → Int32 → Int32 → Int32 → Int32 → ax_Hp → ax_O) (x0 : Option Nat) (x5 : Int32) (x6 : Int32) (x7 : Int32) (x8 : Int32) (h : ax_Hp) : ax_O :=
  if x8 < 0 then
    Model_tell_jn98 call x0 x5 x6 x7 x8 h
  else
    ax_on h x0 9 <| ax_ci (call 183 [ax_A x0, ax_I x8, ax_I x5] h) fun v49 h48 =>
    if v49 = 0 then
      (ax_gr h48 x0 9 19).bind fun v50 =>
      (ax_ldi h48 v50 1 x8).bind fun v51 =>
      k67 x0 x5 x6 (x7 + 1) v51 h48
    else
      Model_tell_jn98 call x0 x5 x6 x7 x8 h48
def Model_tell_lp67 (call : ax_Cf)  : Nat → Option Nat → Int32 → Int32 → Int32 → Int32 → ax_Hp → ax_O
  | 0 => fun _ _ _ _ _ _ => none
  | n + 1 => Model_tell_bd67 call  (Model_tell_lp67 call  n)
set_option maxHeartbeats 4000000 in
set_option maxRecDepth 20000 in
theorem Model_tell_lb67 {l : Launch} {G : ax_G} {d : Nat} {call : ax_Cf} (hcall : ax_Hc l G d call) {p : Program} {e : Env} {s : State} {mi : MethodId} {args : Array Value} {below : List Frame} {meth : Method} {c : Code} {h0 : ax_Hp} (B : ax_B G p s mi meth c "SchemaDeskModel" prog_12_method_47_code 9 none) (E : c.exceptionTable.isEmpty = true) (Nm : meth.name = y_Model_tell.name)   {k67 : Option Nat → Int32 → Int32 → Int32 → Int32 → ax_Hp → ax_O} (hk67 : ∀ (x0 : Option Nat) (x5 : Int32) (x6 : Int32) (x7 : Int32) (x8 : Int32) (h : ax_Hp), ax_W G p l e s mi args below meth c 9 (d + 1) h0 67 [(0, ax_A x0), (5, ax_I x5), (6, ax_I x6), (7, ax_I x7), (8, ax_I x8)] [] h (k67 x0 x5 x6 x7 x8 h)) (x0 : Option Nat) (x5 : Int32) (x6 : Int32) (x7 : Int32) (x8 : Int32) (h : ax_Hp) : ax_W G p l e s mi args below meth c 9 (d + 1) h0 67 [(0, ax_A x0), (5, ax_I x5), (6, ax_I x6), (7, ax_I x7), (8, ax_I x8)] [] h (Model_tell_bd67 call  k67 x0 x5 x6 x7 x8 h) := by
  unfold Model_tell_bd67
  refine ax_iload B 4 d_Model_tell_67 rfl ?_
  refine ax_if_lt B 98 d_Model_tell_69 (by decide) ?_ ?_
  · refine ax_sub (tv2 := [(0, ax_A x0), (5, ax_I x5), (6, ax_I x6), (7, ax_I x7), (8, ax_I x8)]) [0, 1, 2, 3, 4] rfl ?_
    exact Model_tell_jq98 hcall B E Nm x0 x5 x6 x7 x8 h
  · refine ax_aload_n B 0 d_Model_tell_72 rfl rfl ?_
    refine ax_iload B 4 d_Model_tell_73 rfl ?_
    refine ax_iload B 1 d_Model_tell_75 rfl ?_
    refine ax_callVi (av := [ax_I x8, ax_I x5]) (rest := []) B E hm_Model_knows cl_Model rfl wd_1213 wp_68 lk_Model_280 d_Model_tell_77 rfl (Nat.le_of_ble_eq_true rfl) (fun _ _ hh => hcall 183 _ _ _ _ hh) (fun v49 h48 => ?_)
    refine ax_if_ne B 98 d_Model_tell_80 (by decide) ?_ ?_
    · refine ax_sub (tv2 := [(0, ax_A x0), (5, ax_I x5), (6, ax_I x6), (7, ax_I x7), (8, ax_I x8)]) [0, 1, 2, 3, 4] rfl ?_
      exact Model_tell_jq98 hcall B E Nm x0 x5 x6 x7 x8 h48
    · refine ax_aload_n B 0 d_Model_tell_83 rfl rfl ?_
      refine ax_getfr B cl_Model (by decide) fk_Model_54 d_Model_tell_84 (fun v50 => ?_)
      refine ax_iload B 4 d_Model_tell_87 rfl ?_
      refine ax_iald (kd := 1) B (by decide) rfl d_Model_tell_89 (fun v51 => ?_)
      refine ax_istore (tv2 := [(8, ax_I v51), (0, ax_A x0), (5, ax_I x5), (6, ax_I x6), (7, ax_I x7)]) B d_Model_tell_90 (by decide) rfl ?_
      refine ax_iinc (v := x7 + 1) (tv2 := [(7, ax_I (x7 + 1)), (8, ax_I v51), (0, ax_A x0), (5, ax_I x5), (6, ax_I x6)]) B 4 d_Model_tell_92 rfl (congrArg (_ + ·) (by decide)) (by decide) rfl ?_
      refine ax_goto B 67 d_Model_tell_95 (by decide) ?_
      refine ax_sub (tv2 := [(0, ax_A x0), (5, ax_I x5), (6, ax_I x6), (7, ax_I (x7 + 1)), (8, ax_I v51)]) [2, 3, 4, 0, 1] rfl ?_
      exact hk67 x0 x5 x6 (x7 + 1) v51 h48
theorem Model_tell_lq67 {l : Launch} {G : ax_G} {d : Nat} {call : ax_Cf} (hcall : ax_Hc l G d call) {p : Program} {e : Env} {s : State} {mi : MethodId} {args : Array Value} {below : List Frame} {meth : Method} {c : Code} {h0 : ax_Hp} (B : ax_B G p s mi meth c "SchemaDeskModel" prog_12_method_47_code 9 none) (E : c.exceptionTable.isEmpty = true) (Nm : meth.name = y_Model_tell.name)   : ∀ (n : Nat) (x0 : Option Nat) (x5 : Int32) (x6 : Int32) (x7 : Int32) (x8 : Int32) (h : ax_Hp), ax_W G p l e s mi args below meth c 9 (d + 1) h0 67 [(0, ax_A x0), (5, ax_I x5), (6, ax_I x6), (7, ax_I x7), (8, ax_I x8)] [] h (Model_tell_lp67 call  n x0 x5 x6 x7 x8 h)
  | 0, _, _, _, _, _, _ => ax_none
  | n + 1, x0, x5, x6, x7, x8, h => Model_tell_lb67 hcall B E Nm   (Model_tell_lq67 hcall B E Nm   n) x0 x5 x6 x7 x8 h
def Model_tell_jn43 (call : ax_Cf)  (x0 : Option Nat) (x4 : Int32) (x5 : Int32) (x6 : Int32) (h : ax_Hp) : ax_O :=
  (ax_gr h x0 9 17).bind fun v3 =>
  (ax_ldi h v3 3 x4).bind fun v4 =>
  if v4 = 85 then
    (ax_gr h x0 9 18).bind fun v41 =>
    (ax_ldi h v41 1 x4).bind fun v42 =>
    Model_tell_lp67 call ax_fuel x0 x5 x6 0 v42 h
  else
    Model_tell_jn128 call x0 x4 x5 x6 h
set_option maxHeartbeats 4000000 in
set_option maxRecDepth 20000 in
theorem Model_tell_jq43 {l : Launch} {G : ax_G} {d : Nat} {call : ax_Cf} (hcall : ax_Hc l G d call) {p : Program} {e : Env} {s : State} {mi : MethodId} {args : Array Value} {below : List Frame} {meth : Method} {c : Code} {h0 : ax_Hp} (B : ax_B G p s mi meth c "SchemaDeskModel" prog_12_method_47_code 9 none) (E : c.exceptionTable.isEmpty = true) (Nm : meth.name = y_Model_tell.name)   (x0 : Option Nat) (x4 : Int32) (x5 : Int32) (x6 : Int32) (h : ax_Hp) : ax_W G p l e s mi args below meth c 9 (d + 1) h0 43 [(0, ax_A x0), (4, ax_I x4), (5, ax_I x5), (6, ax_I x6)] [] h (Model_tell_jn43 call  x0 x4 x5 x6 h) := by
  unfold Model_tell_jn43
  refine ax_aload_n B 0 d_Model_tell_43 rfl rfl ?_
  refine ax_getfr B cl_Model (by decide) fk_Model_48 d_Model_tell_44 (fun v3 => ?_)
  refine ax_iload B 1 d_Model_tell_47 rfl ?_
  refine ax_cald (kd := 3) B (by decide) rfl d_Model_tell_49 (fun v4 => ?_)
  refine ax_bipush (v := 85) B d_Model_tell_50 (by decide) ?_
  refine ax_icmp_ne B 128 d_Model_tell_52 (by decide) ?_ ?_
  · refine ax_sub (tv2 := [(0, ax_A x0), (4, ax_I x4), (5, ax_I x5), (6, ax_I x6)]) [0, 1, 2, 3] rfl ?_
    exact Model_tell_jq128 hcall B E Nm x0 x4 x5 x6 h
  · refine ax_iconst (v := 0) B d_Model_tell_55 (by decide) ?_
    refine ax_istore (tv2 := [(7, ax_I 0), (0, ax_A x0), (4, ax_I x4), (5, ax_I x5), (6, ax_I x6)]) B d_Model_tell_56 (by decide) rfl ?_
    refine ax_aload_n B 1 d_Model_tell_58 rfl rfl ?_
    refine ax_getfr B cl_Model (by decide) fk_Model_51 d_Model_tell_59 (fun v41 => ?_)
    refine ax_iload B 2 d_Model_tell_62 rfl ?_
    refine ax_iald (kd := 1) B (by decide) rfl d_Model_tell_64 (fun v42 => ?_)
    refine ax_istore (tv2 := [(8, ax_I v42), (7, ax_I 0), (0, ax_A x0), (4, ax_I x4), (5, ax_I x5), (6, ax_I x6)]) B d_Model_tell_65 (by decide) rfl ?_
    refine ax_sub (tv2 := [(0, ax_A x0), (5, ax_I x5), (6, ax_I x6), (7, ax_I 0), (8, ax_I v42)]) [2, 4, 5, 1, 0] rfl ?_
    exact Model_tell_lq67 hcall B E Nm ax_fuel x0 x5 x6 0 v42 h
def Model_tell_b (call : ax_Cf) (x0 : Option Nat) (x1 : Int32) (x2 : Int32) (x3 : Int32) (h : ax_Hp) : ax_O :=
  (ax_gr h x0 9 17).bind fun v1 =>
  (ax_ldi h v1 3 x2).bind fun v2 =>
  if v2 = 85 then
    ax_on h x0 9 <| ax_ci (call 196 [ax_A x0, ax_I x3, ax_I 4] h) fun v53 h52 =>
    (ax_gl h52 x0 9 37).bind fun v54 =>
    ax_on h52 x0 9 <| ax_ci (call 161 [ax_A x0, ax_I x2, ax_I (v54.toInt32)] h52) fun v56 h55 =>
    Model_tell_jn43 call x0 x1 v56 v53 h55
  else
    Model_tell_jn43 call x0 x1 x2 x3 h
set_option maxHeartbeats 4000000 in
set_option maxRecDepth 20000 in
theorem Model_tell_t {l : Launch} {G : ax_G} {d : Nat} {call : ax_Cf} (hcall : ax_Hc l G d call) (x0 : Option Nat) (x1 : Int32) (x2 : Int32) (x3 : Int32) (h : ax_Hp) {r : ax_Rs} {h' : ax_Hp} (ho : Model_tell_b call x0 x1 x2 x3 h = some (r, h')) : ax_C l G (d + 1) y_Model_tell (.code y_Model_tell prog_12_method_47_code 9 none) [ax_A x0, ax_I x1, ax_I x2, ax_I x3] h r h' := by
  refine ax_enter (by decide) (Nat.le_of_ble_eq_true rfl) ho (fun p e s mi args below meth c B E Nm => ?_)
  have B : ax_B G p s mi meth c "SchemaDeskModel" prog_12_method_47_code 9 none := B
  show ax_W G p l e s mi args below meth c 9 (d + 1) h 0 [(0, ax_A x0), (1, ax_I x1), (2, ax_I x2), (3, ax_I x3)] [] h (Model_tell_b call x0 x1 x2 x3 h)
  unfold Model_tell_b
  refine ax_iload_n B 1 d_Model_tell_0 rfl rfl ?_
  refine ax_istore (tv2 := [(4, ax_I x1), (0, ax_A x0), (1, ax_I x1), (2, ax_I x2), (3, ax_I x3)]) B d_Model_tell_1 (by decide) rfl ?_
  refine ax_iload_n B 3 d_Model_tell_3 rfl rfl ?_
  refine ax_istore (tv2 := [(5, ax_I x2), (4, ax_I x1), (0, ax_A x0), (1, ax_I x1), (2, ax_I x2), (3, ax_I x3)]) B d_Model_tell_4 (by decide) rfl ?_
  refine ax_iload_n B 5 d_Model_tell_6 rfl rfl ?_
  refine ax_istore (tv2 := [(6, ax_I x3), (5, ax_I x2), (4, ax_I x1), (0, ax_A x0), (1, ax_I x1), (2, ax_I x2), (3, ax_I x3)]) B d_Model_tell_7 (by decide) rfl ?_
  refine ax_aload_n B 3 d_Model_tell_9 rfl rfl ?_
  refine ax_getfr B cl_Model (by decide) fk_Model_48 d_Model_tell_10 (fun v1 => ?_)
  refine ax_iload B 1 d_Model_tell_13 rfl ?_
  refine ax_cald (kd := 3) B (by decide) rfl d_Model_tell_15 (fun v2 => ?_)
  refine ax_bipush (v := 85) B d_Model_tell_16 (by decide) ?_
  refine ax_icmp_ne B 43 d_Model_tell_18 (by decide) ?_ ?_
  · refine ax_sub (tv2 := [(0, ax_A x0), (4, ax_I x1), (5, ax_I x2), (6, ax_I x3)]) [3, 2, 1, 0] rfl ?_
    exact Model_tell_jq43 hcall B E Nm x0 x1 x2 x3 h
  · refine ax_aload_n B 3 d_Model_tell_21 rfl rfl ?_
    refine ax_iload B 0 d_Model_tell_22 rfl ?_
    refine ax_iconst (v := 4) B d_Model_tell_24 (by decide) ?_
    refine ax_callVi (av := [ax_I x3, ax_I 4]) (rest := []) B E hm_Model_takeHalf cl_Model rfl wd_1266 wp_75 lk_Model_262 d_Model_tell_25 rfl (Nat.le_of_ble_eq_true rfl) (fun _ _ hh => hcall 196 _ _ _ _ hh) (fun v53 h52 => ?_)
    refine ax_istore (tv2 := [(6, ax_I v53), (5, ax_I x2), (4, ax_I x1), (0, ax_A x0), (1, ax_I x1), (2, ax_I x2), (3, ax_I x3)]) B d_Model_tell_28 (by decide) rfl ?_
    refine ax_aload_n B 3 d_Model_tell_30 rfl rfl ?_
    refine ax_iload B 1 d_Model_tell_31 rfl ?_
    refine ax_aload_n B 3 d_Model_tell_33 rfl rfl ?_
    refine ax_getfl B cl_Model (by decide) fk_Model_204 d_Model_tell_34 (fun v54 => ?_)
    refine ax_l2i B d_Model_tell_37 ?_
    refine ax_callVi (av := [ax_I x2, ax_I (v54.toInt32)]) (rest := []) B E hm_Model_branch cl_Model rfl wd_1120 wp_47 lk_Model_235 d_Model_tell_38 rfl (Nat.le_of_ble_eq_true rfl) (fun _ _ hh => hcall 161 _ _ _ _ hh) (fun v56 h55 => ?_)
    refine ax_istore (tv2 := [(5, ax_I v56), (6, ax_I v53), (4, ax_I x1), (0, ax_A x0), (1, ax_I x1), (2, ax_I x2), (3, ax_I x3)]) B d_Model_tell_41 (by decide) rfl ?_
    refine ax_sub (tv2 := [(0, ax_A x0), (4, ax_I x1), (5, ax_I v56), (6, ax_I v53)]) [3, 2, 0, 1] rfl ?_
    exact Model_tell_jq43 hcall B E Nm x0 x1 v56 v53 h55

theorem d_Model_tellPlain_0 : decode prog_12_method_46_code 0 = .ok (.aload_n 0, 1) := by decide +kernel
theorem d_Model_tellPlain_1 : decode prog_12_method_46_code 1 = .ok (.iload_n 2, 1) := by decide +kernel
theorem d_Model_tellPlain_2 : decode prog_12_method_46_code 2 = .ok (.iload_n 3, 1) := by decide +kernel
theorem d_Model_tellPlain_3 : decode prog_12_method_46_code 3 = .ok (.invokevirtual 271, 3) := by decide +kernel
theorem d_Model_tellPlain_6 : decode prog_12_method_46_code 6 = .ok (.istore 4, 2) := by decide +kernel
theorem d_Model_tellPlain_8 : decode prog_12_method_46_code 8 = .ok (.aload_n 0, 1) := by decide +kernel
theorem d_Model_tellPlain_9 : decode prog_12_method_46_code 9 = .ok (.getfield 48, 3) := by decide +kernel
theorem d_Model_tellPlain_12 : decode prog_12_method_46_code 12 = .ok (.iload_n 1, 1) := by decide +kernel
theorem d_Model_tellPlain_13 : decode prog_12_method_46_code 13 = .ok (.caload, 1) := by decide +kernel
theorem d_Model_tellPlain_14 : decode prog_12_method_46_code 14 = .ok (.aload_n 0, 1) := by decide +kernel
theorem d_Model_tellPlain_15 : decode prog_12_method_46_code 15 = .ok (.getfield 48, 3) := by decide +kernel
theorem d_Model_tellPlain_18 : decode prog_12_method_46_code 18 = .ok (.iload_n 2, 1) := by decide +kernel
theorem d_Model_tellPlain_19 : decode prog_12_method_46_code 19 = .ok (.caload, 1) := by decide +kernel
theorem d_Model_tellPlain_20 : decode prog_12_method_46_code 20 = .ok (.if_icmp .eq 27, 3) := by decide +kernel
theorem d_Model_tellPlain_23 : decode prog_12_method_46_code 23 = .ok (.aload_n 0, 1) := by decide +kernel
theorem d_Model_tellPlain_24 : decode prog_12_method_46_code 24 = .ok (.getfield 48, 3) := by decide +kernel
theorem d_Model_tellPlain_27 : decode prog_12_method_46_code 27 = .ok (.iload_n 1, 1) := by decide +kernel
theorem d_Model_tellPlain_28 : decode prog_12_method_46_code 28 = .ok (.caload, 1) := by decide +kernel
theorem d_Model_tellPlain_29 : decode prog_12_method_46_code 29 = .ok (.bipush 76, 2) := by decide +kernel
theorem d_Model_tellPlain_31 : decode prog_12_method_46_code 31 = .ok (.if_icmp .ne 14, 3) := by decide +kernel
theorem d_Model_tellPlain_34 : decode prog_12_method_46_code 34 = .ok (.aload_n 0, 1) := by decide +kernel
theorem d_Model_tellPlain_35 : decode prog_12_method_46_code 35 = .ok (.getfield 48, 3) := by decide +kernel
theorem d_Model_tellPlain_38 : decode prog_12_method_46_code 38 = .ok (.iload_n 2, 1) := by decide +kernel
theorem d_Model_tellPlain_39 : decode prog_12_method_46_code 39 = .ok (.caload, 1) := by decide +kernel
theorem d_Model_tellPlain_40 : decode prog_12_method_46_code 40 = .ok (.bipush 73, 2) := by decide +kernel
theorem d_Model_tellPlain_42 : decode prog_12_method_46_code 42 = .ok (.if_icmp .eq 5, 3) := by decide +kernel
theorem d_Model_tellPlain_45 : decode prog_12_method_46_code 45 = .ok (.iconst 0, 1) := by decide +kernel
theorem d_Model_tellPlain_46 : decode prog_12_method_46_code 46 = .ok (.ireturn, 1) := by decide +kernel
theorem d_Model_tellPlain_47 : decode prog_12_method_46_code 47 = .ok (.aload_n 0, 1) := by decide +kernel
theorem d_Model_tellPlain_48 : decode prog_12_method_46_code 48 = .ok (.getfield 48, 3) := by decide +kernel
theorem d_Model_tellPlain_51 : decode prog_12_method_46_code 51 = .ok (.iload_n 1, 1) := by decide +kernel
theorem d_Model_tellPlain_52 : decode prog_12_method_46_code 52 = .ok (.caload, 1) := by decide +kernel
theorem d_Model_tellPlain_53 : decode prog_12_method_46_code 53 = .ok (.lookupswitch 206 #[(66, 51), (69, 73), (78, 43), (83, 158)], 43) := by decide +kernel
theorem d_Model_tellPlain_96 : decode prog_12_method_46_code 96 = .ok (.aload_n 0, 1) := by decide +kernel
theorem d_Model_tellPlain_97 : decode prog_12_method_46_code 97 = .ok (.bipush 78, 2) := by decide +kernel
theorem d_Model_tellPlain_99 : decode prog_12_method_46_code 99 = .ok (.invokevirtual 208, 3) := by decide +kernel
theorem d_Model_tellPlain_102 : decode prog_12_method_46_code 102 = .ok (.iconst 1, 1) := by decide +kernel
theorem d_Model_tellPlain_103 : decode prog_12_method_46_code 103 = .ok (.ireturn, 1) := by decide +kernel
theorem d_Model_tellPlain_104 : decode prog_12_method_46_code 104 = .ok (.aload_n 0, 1) := by decide +kernel
theorem d_Model_tellPlain_105 : decode prog_12_method_46_code 105 = .ok (.aload_n 0, 1) := by decide +kernel
theorem d_Model_tellPlain_106 : decode prog_12_method_46_code 106 = .ok (.getfield 204, 3) := by decide +kernel
theorem d_Model_tellPlain_109 : decode prog_12_method_46_code 109 = .ok (.lconst 1, 1) := by decide +kernel
theorem d_Model_tellPlain_110 : decode prog_12_method_46_code 110 = .ok (.lcmp, 1) := by decide +kernel
theorem d_Model_tellPlain_111 : decode prog_12_method_46_code 111 = .ok (.ifCond .ne 8, 3) := by decide +kernel
theorem d_Model_tellPlain_114 : decode prog_12_method_46_code 114 = .ok (.bipush 84, 2) := by decide +kernel
theorem d_Model_tellPlain_116 : decode prog_12_method_46_code 116 = .ok (.goto 5, 3) := by decide +kernel
theorem d_Model_tellPlain_119 : decode prog_12_method_46_code 119 = .ok (.bipush 70, 2) := by decide +kernel
theorem d_Model_tellPlain_121 : decode prog_12_method_46_code 121 = .ok (.invokevirtual 208, 3) := by decide +kernel
theorem d_Model_tellPlain_124 : decode prog_12_method_46_code 124 = .ok (.iconst 1, 1) := by decide +kernel
theorem d_Model_tellPlain_125 : decode prog_12_method_46_code 125 = .ok (.ireturn, 1) := by decide +kernel
theorem d_Model_tellPlain_126 : decode prog_12_method_46_code 126 = .ok (.aload_n 0, 1) := by decide +kernel
theorem d_Model_tellPlain_127 : decode prog_12_method_46_code 127 = .ok (.iconst 0, 1) := by decide +kernel
theorem d_Model_tellPlain_128 : decode prog_12_method_46_code 128 = .ok (.iload_n 1, 1) := by decide +kernel
theorem d_Model_tellPlain_129 : decode prog_12_method_46_code 129 = .ok (.aload_n 0, 1) := by decide +kernel
theorem d_Model_tellPlain_130 : decode prog_12_method_46_code 130 = .ok (.getfield 39, 3) := by decide +kernel
theorem d_Model_tellPlain_133 : decode prog_12_method_46_code 133 = .ok (.sipush 160, 3) := by decide +kernel
theorem d_Model_tellPlain_136 : decode prog_12_method_46_code 136 = .ok (.aload_n 0, 1) := by decide +kernel
theorem d_Model_tellPlain_137 : decode prog_12_method_46_code 137 = .ok (.getfield 63, 3) := by decide +kernel
theorem d_Model_tellPlain_140 : decode prog_12_method_46_code 140 = .ok (.iload_n 2, 1) := by decide +kernel
theorem d_Model_tellPlain_141 : decode prog_12_method_46_code 141 = .ok (.iaload, 1) := by decide +kernel
theorem d_Model_tellPlain_142 : decode prog_12_method_46_code 142 = .ok (.iadd, 1) := by decide +kernel
theorem d_Model_tellPlain_143 : decode prog_12_method_46_code 143 = .ok (.aload_n 0, 1) := by decide +kernel
theorem d_Model_tellPlain_144 : decode prog_12_method_46_code 144 = .ok (.getfield 204, 3) := by decide +kernel
theorem d_Model_tellPlain_147 : decode prog_12_method_46_code 147 = .ok (.l2i, 1) := by decide +kernel
theorem d_Model_tellPlain_148 : decode prog_12_method_46_code 148 = .ok (.iadd, 1) := by decide +kernel
theorem d_Model_tellPlain_149 : decode prog_12_method_46_code 149 = .ok (.caload, 1) := by decide +kernel
theorem d_Model_tellPlain_150 : decode prog_12_method_46_code 150 = .ok (.invokevirtual 144, 3) := by decide +kernel
theorem d_Model_tellPlain_153 : decode prog_12_method_46_code 153 = .ok (.istore 5, 2) := by decide +kernel
theorem d_Model_tellPlain_155 : decode prog_12_method_46_code 155 = .ok (.iload 5, 2) := by decide +kernel
theorem d_Model_tellPlain_157 : decode prog_12_method_46_code 157 = .ok (.ifCond .ge 12, 3) := by decide +kernel
theorem d_Model_tellPlain_160 : decode prog_12_method_46_code 160 = .ok (.aload_n 0, 1) := by decide +kernel
theorem d_Model_tellPlain_161 : decode prog_12_method_46_code 161 = .ok (.getfield 66, 3) := by decide +kernel
theorem d_Model_tellPlain_164 : decode prog_12_method_46_code 164 = .ok (.iload_n 1, 1) := by decide +kernel
theorem d_Model_tellPlain_165 : decode prog_12_method_46_code 165 = .ok (.iaload, 1) := by decide +kernel
theorem d_Model_tellPlain_166 : decode prog_12_method_46_code 166 = .ok (.goto 5, 3) := by decide +kernel
theorem d_Model_tellPlain_169 : decode prog_12_method_46_code 169 = .ok (.iload 5, 2) := by decide +kernel
theorem d_Model_tellPlain_171 : decode prog_12_method_46_code 171 = .ok (.istore 5, 2) := by decide +kernel
theorem d_Model_tellPlain_173 : decode prog_12_method_46_code 173 = .ok (.aload_n 0, 1) := by decide +kernel
theorem d_Model_tellPlain_174 : decode prog_12_method_46_code 174 = .ok (.iload 5, 2) := by decide +kernel
theorem d_Model_tellPlain_176 : decode prog_12_method_46_code 176 = .ok (.ifCond .ge 7, 3) := by decide +kernel
theorem d_Model_tellPlain_179 : decode prog_12_method_46_code 179 = .ok (.iconst 0, 1) := by decide +kernel
theorem d_Model_tellPlain_180 : decode prog_12_method_46_code 180 = .ok (.goto 17, 3) := by decide +kernel
theorem d_Model_tellPlain_183 : decode prog_12_method_46_code 183 = .ok (.aload_n 0, 1) := by decide +kernel
theorem d_Model_tellPlain_184 : decode prog_12_method_46_code 184 = .ok (.getfield 39, 3) := by decide +kernel
theorem d_Model_tellPlain_187 : decode prog_12_method_46_code 187 = .ok (.aload_n 0, 1) := by decide +kernel
theorem d_Model_tellPlain_188 : decode prog_12_method_46_code 188 = .ok (.getfield 63, 3) := by decide +kernel
theorem d_Model_tellPlain_191 : decode prog_12_method_46_code 191 = .ok (.iload_n 1, 1) := by decide +kernel
theorem d_Model_tellPlain_192 : decode prog_12_method_46_code 192 = .ok (.iaload, 1) := by decide +kernel
theorem d_Model_tellPlain_193 : decode prog_12_method_46_code 193 = .ok (.iload 5, 2) := by decide +kernel
theorem d_Model_tellPlain_195 : decode prog_12_method_46_code 195 = .ok (.iadd, 1) := by decide +kernel
theorem d_Model_tellPlain_196 : decode prog_12_method_46_code 196 = .ok (.caload, 1) := by decide +kernel
theorem d_Model_tellPlain_197 : decode prog_12_method_46_code 197 = .ok (.invokevirtual 208, 3) := by decide +kernel
theorem d_Model_tellPlain_200 : decode prog_12_method_46_code 200 = .ok (.iload 5, 2) := by decide +kernel
theorem d_Model_tellPlain_202 : decode prog_12_method_46_code 202 = .ok (.ifCond .lt 7, 3) := by decide +kernel
theorem d_Model_tellPlain_205 : decode prog_12_method_46_code 205 = .ok (.iconst 1, 1) := by decide +kernel
theorem d_Model_tellPlain_206 : decode prog_12_method_46_code 206 = .ok (.goto 4, 3) := by decide +kernel
theorem d_Model_tellPlain_209 : decode prog_12_method_46_code 209 = .ok (.iconst 0, 1) := by decide +kernel
theorem d_Model_tellPlain_210 : decode prog_12_method_46_code 210 = .ok (.ireturn, 1) := by decide +kernel
theorem d_Model_tellPlain_211 : decode prog_12_method_46_code 211 = .ok (.aload_n 0, 1) := by decide +kernel
theorem d_Model_tellPlain_212 : decode prog_12_method_46_code 212 = .ok (.bipush 34, 2) := by decide +kernel
theorem d_Model_tellPlain_214 : decode prog_12_method_46_code 214 = .ok (.invokevirtual 208, 3) := by decide +kernel
theorem d_Model_tellPlain_217 : decode prog_12_method_46_code 217 = .ok (.iload 4, 2) := by decide +kernel
theorem d_Model_tellPlain_219 : decode prog_12_method_46_code 219 = .ok (.aload_n 0, 1) := by decide +kernel
theorem d_Model_tellPlain_220 : decode prog_12_method_46_code 220 = .ok (.getfield 204, 3) := by decide +kernel
theorem d_Model_tellPlain_223 : decode prog_12_method_46_code 223 = .ok (.l2i, 1) := by decide +kernel
theorem d_Model_tellPlain_224 : decode prog_12_method_46_code 224 = .ok (.isub, 1) := by decide +kernel
theorem d_Model_tellPlain_225 : decode prog_12_method_46_code 225 = .ok (.istore 6, 2) := by decide +kernel
theorem d_Model_tellPlain_227 : decode prog_12_method_46_code 227 = .ok (.iload 6, 2) := by decide +kernel
theorem d_Model_tellPlain_229 : decode prog_12_method_46_code 229 = .ok (.iload 4, 2) := by decide +kernel
theorem d_Model_tellPlain_231 : decode prog_12_method_46_code 231 = .ok (.if_icmp .ge 20, 3) := by decide +kernel
theorem d_Model_tellPlain_234 : decode prog_12_method_46_code 234 = .ok (.aload_n 0, 1) := by decide +kernel
theorem d_Model_tellPlain_235 : decode prog_12_method_46_code 235 = .ok (.aload_n 0, 1) := by decide +kernel
theorem d_Model_tellPlain_236 : decode prog_12_method_46_code 236 = .ok (.getfield 13, 3) := by decide +kernel
theorem d_Model_tellPlain_239 : decode prog_12_method_46_code 239 = .ok (.iload 6, 2) := by decide +kernel
theorem d_Model_tellPlain_241 : decode prog_12_method_46_code 241 = .ok (.iaload, 1) := by decide +kernel
theorem d_Model_tellPlain_242 : decode prog_12_method_46_code 242 = .ok (.invokevirtual 208, 3) := by decide +kernel
theorem d_Model_tellPlain_245 : decode prog_12_method_46_code 245 = .ok (.iinc 6 1, 3) := by decide +kernel
theorem d_Model_tellPlain_248 : decode prog_12_method_46_code 248 = .ok (.goto (-21), 3) := by decide +kernel
theorem d_Model_tellPlain_251 : decode prog_12_method_46_code 251 = .ok (.aload_n 0, 1) := by decide +kernel
theorem d_Model_tellPlain_252 : decode prog_12_method_46_code 252 = .ok (.bipush 34, 2) := by decide +kernel
theorem d_Model_tellPlain_254 : decode prog_12_method_46_code 254 = .ok (.invokevirtual 208, 3) := by decide +kernel
theorem d_Model_tellPlain_257 : decode prog_12_method_46_code 257 = .ok (.iconst 1, 1) := by decide +kernel
theorem d_Model_tellPlain_258 : decode prog_12_method_46_code 258 = .ok (.ireturn, 1) := by decide +kernel
theorem d_Model_tellPlain_259 : decode prog_12_method_46_code 259 = .ok (.aload_n 0, 1) := by decide +kernel
theorem d_Model_tellPlain_260 : decode prog_12_method_46_code 260 = .ok (.aload_n 0, 1) := by decide +kernel
theorem d_Model_tellPlain_261 : decode prog_12_method_46_code 261 = .ok (.getfield 204, 3) := by decide +kernel
theorem d_Model_tellPlain_264 : decode prog_12_method_46_code 264 = .ok (.invokevirtual 295, 3) := by decide +kernel
theorem d_Model_tellPlain_267 : decode prog_12_method_46_code 267 = .ok (.iconst 1, 1) := by decide +kernel
theorem d_Model_tellPlain_268 : decode prog_12_method_46_code 268 = .ok (.ireturn, 1) := by decide +kernel
def Model_tellPlain_jn121 (call : ax_Cf)  (s0 : Int32) (s1 : Option Nat) (h : ax_Hp) : ax_O :=
  ax_on h s1 9 <| ax_cv (call 160 [ax_A s1, ax_I s0] h) fun h10 =>
  ax_rz 1 h10
set_option maxHeartbeats 4000000 in
set_option maxRecDepth 20000 in
theorem Model_tellPlain_jq121 {l : Launch} {G : ax_G} {d : Nat} {call : ax_Cf} (hcall : ax_Hc l G d call) {p : Program} {e : Env} {s : State} {mi : MethodId} {args : Array Value} {below : List Frame} {meth : Method} {c : Code} {h0 : ax_Hp} (B : ax_B G p s mi meth c "SchemaDeskModel" prog_12_method_46_code 7 (some (.boolean))) (E : c.exceptionTable.isEmpty = true) (Nm : meth.name = y_Model_tellPlain.name)   (s0 : Int32) (s1 : Option Nat) (h : ax_Hp) : ax_W G p l e s mi args below meth c 7 (d + 1) h0 121 [] [ax_I s0, ax_A s1] h (Model_tellPlain_jn121 call  s0 s1 h) := by
  unfold Model_tellPlain_jn121
  refine ax_callVv (av := [ax_I s0]) (rest := []) B E hm_Model_say cl_Model rfl wd_1116 wp_46 lk_Model_208 d_Model_tellPlain_121 rfl (Nat.le_of_ble_eq_true rfl) (fun _ _ hh => hcall 160 _ _ _ _ hh) (fun h10 => ?_)
  refine ax_iconst (v := 1) B d_Model_tellPlain_124 (by decide) ?_
  exact ax_zreturn B d_Model_tellPlain_125
def Model_tellPlain_jn197 (call : ax_Cf)  (x5 : Int32) (s0 : Int32) (s1 : Option Nat) (h : ax_Hp) : ax_O :=
  ax_on h s1 9 <| ax_cv (call 160 [ax_A s1, ax_I s0] h) fun h23 =>
  if x5 < 0 then
    ax_rz 0 h23
  else
    ax_rz 1 h23
set_option maxHeartbeats 4000000 in
set_option maxRecDepth 20000 in
theorem Model_tellPlain_jq197 {l : Launch} {G : ax_G} {d : Nat} {call : ax_Cf} (hcall : ax_Hc l G d call) {p : Program} {e : Env} {s : State} {mi : MethodId} {args : Array Value} {below : List Frame} {meth : Method} {c : Code} {h0 : ax_Hp} (B : ax_B G p s mi meth c "SchemaDeskModel" prog_12_method_46_code 7 (some (.boolean))) (E : c.exceptionTable.isEmpty = true) (Nm : meth.name = y_Model_tellPlain.name)   (x5 : Int32) (s0 : Int32) (s1 : Option Nat) (h : ax_Hp) : ax_W G p l e s mi args below meth c 7 (d + 1) h0 197 [(5, ax_I x5)] [ax_I s0, ax_A s1] h (Model_tellPlain_jn197 call  x5 s0 s1 h) := by
  unfold Model_tellPlain_jn197
  refine ax_callVv (av := [ax_I s0]) (rest := []) B E hm_Model_say cl_Model rfl wd_1116 wp_46 lk_Model_208 d_Model_tellPlain_197 rfl (Nat.le_of_ble_eq_true rfl) (fun _ _ hh => hcall 160 _ _ _ _ hh) (fun h23 => ?_)
  refine ax_iload B 0 d_Model_tellPlain_200 rfl ?_
  refine ax_if_lt B 209 d_Model_tellPlain_202 (by decide) ?_ ?_
  · refine ax_iconst (v := 0) B d_Model_tellPlain_209 (by decide) ?_
    exact ax_zreturn B d_Model_tellPlain_210
  · refine ax_iconst (v := 1) B d_Model_tellPlain_205 (by decide) ?_
    refine ax_goto B 210 d_Model_tellPlain_206 (by decide) ?_
    exact ax_zreturn B d_Model_tellPlain_210
def Model_tellPlain_jn171 (call : ax_Cf)  (x0 : Option Nat) (x1 : Int32) (s0 : Int32) (h : ax_Hp) : ax_O :=
  if 0 ≤ s0 then
    (ax_gr h x0 9 14).bind fun v19 =>
    (ax_gr h x0 9 22).bind fun v20 =>
    (ax_ldi h v20 1 x1).bind fun v21 =>
    (ax_ldi h v19 3 (v21 + s0)).bind fun v22 =>
    Model_tellPlain_jn197 call s0 v22 x0 h
  else
    Model_tellPlain_jn197 call s0 0 x0 h
set_option maxHeartbeats 4000000 in
set_option maxRecDepth 20000 in
theorem Model_tellPlain_jq171 {l : Launch} {G : ax_G} {d : Nat} {call : ax_Cf} (hcall : ax_Hc l G d call) {p : Program} {e : Env} {s : State} {mi : MethodId} {args : Array Value} {below : List Frame} {meth : Method} {c : Code} {h0 : ax_Hp} (B : ax_B G p s mi meth c "SchemaDeskModel" prog_12_method_46_code 7 (some (.boolean))) (E : c.exceptionTable.isEmpty = true) (Nm : meth.name = y_Model_tellPlain.name)   (x0 : Option Nat) (x1 : Int32) (s0 : Int32) (h : ax_Hp) : ax_W G p l e s mi args below meth c 7 (d + 1) h0 171 [(0, ax_A x0), (1, ax_I x1)] [ax_I s0] h (Model_tellPlain_jn171 call  x0 x1 s0 h) := by
  unfold Model_tellPlain_jn171
  refine ax_istore (tv2 := [(5, ax_I s0), (0, ax_A x0), (1, ax_I x1)]) B d_Model_tellPlain_171 (by decide) rfl ?_
  refine ax_aload_n B 1 d_Model_tellPlain_173 rfl rfl ?_
  refine ax_iload B 0 d_Model_tellPlain_174 rfl ?_
  refine ax_if_ge B 183 d_Model_tellPlain_176 (by decide) ?_ ?_
  · refine ax_aload_n B 1 d_Model_tellPlain_183 rfl rfl ?_
    refine ax_getfr B cl_Model (by decide) fk_Model_39 d_Model_tellPlain_184 (fun v19 => ?_)
    refine ax_aload_n B 1 d_Model_tellPlain_187 rfl rfl ?_
    refine ax_getfr B cl_Model (by decide) fk_Model_63 d_Model_tellPlain_188 (fun v20 => ?_)
    refine ax_iload_n B 2 d_Model_tellPlain_191 rfl rfl ?_
    refine ax_iald (kd := 1) B (by decide) rfl d_Model_tellPlain_192 (fun v21 => ?_)
    refine ax_iload B 0 d_Model_tellPlain_193 rfl ?_
    refine ax_iadd B d_Model_tellPlain_195 ?_
    refine ax_cald (kd := 3) B (by decide) rfl d_Model_tellPlain_196 (fun v22 => ?_)
    refine ax_sub (tv2 := [(5, ax_I s0)]) [0] rfl ?_
    exact Model_tellPlain_jq197 hcall B E Nm s0 v22 x0 h
  · refine ax_iconst (v := 0) B d_Model_tellPlain_179 (by decide) ?_
    refine ax_goto B 197 d_Model_tellPlain_180 (by decide) ?_
    refine ax_sub (tv2 := [(5, ax_I s0)]) [0] rfl ?_
    exact Model_tellPlain_jq197 hcall B E Nm s0 0 x0 h
def Model_tellPlain_bd227 (call : ax_Cf)  (k227 : Option Nat → Int32 → Int32 → ax_Hp → ax_O) (x0 : Option Nat) (x4 : Int32) (x6 : Int32) (h : ax_Hp) : ax_O :=
  if x4 ≤ x6 then
    ax_on h x0 9 <| ax_cv (call 160 [ax_A x0, ax_I 34] h) fun h32 =>
    ax_rz 1 h32
  else
    (ax_gr h x0 9 4).bind fun v34 =>
    (ax_ldi h v34 1 x6).bind fun v35 =>
    ax_on h x0 9 <| ax_cv (call 160 [ax_A x0, ax_I v35] h) fun h36 =>
    k227 x0 x4 (x6 + 1) h36
def Model_tellPlain_lp227 (call : ax_Cf)  : Nat → Option Nat → Int32 → Int32 → ax_Hp → ax_O
  | 0 => fun _ _ _ _ => none
  | n + 1 => Model_tellPlain_bd227 call  (Model_tellPlain_lp227 call  n)
set_option maxHeartbeats 4000000 in
set_option maxRecDepth 20000 in
theorem Model_tellPlain_lb227 {l : Launch} {G : ax_G} {d : Nat} {call : ax_Cf} (hcall : ax_Hc l G d call) {p : Program} {e : Env} {s : State} {mi : MethodId} {args : Array Value} {below : List Frame} {meth : Method} {c : Code} {h0 : ax_Hp} (B : ax_B G p s mi meth c "SchemaDeskModel" prog_12_method_46_code 7 (some (.boolean))) (E : c.exceptionTable.isEmpty = true) (Nm : meth.name = y_Model_tellPlain.name)   {k227 : Option Nat → Int32 → Int32 → ax_Hp → ax_O} (hk227 : ∀ (x0 : Option Nat) (x4 : Int32) (x6 : Int32) (h : ax_Hp), ax_W G p l e s mi args below meth c 7 (d + 1) h0 227 [(0, ax_A x0), (4, ax_I x4), (6, ax_I x6)] [] h (k227 x0 x4 x6 h)) (x0 : Option Nat) (x4 : Int32) (x6 : Int32) (h : ax_Hp) : ax_W G p l e s mi args below meth c 7 (d + 1) h0 227 [(0, ax_A x0), (4, ax_I x4), (6, ax_I x6)] [] h (Model_tellPlain_bd227 call  k227 x0 x4 x6 h) := by
  unfold Model_tellPlain_bd227
  refine ax_iload B 2 d_Model_tellPlain_227 rfl ?_
  refine ax_iload B 1 d_Model_tellPlain_229 rfl ?_
  refine ax_icmp_ge B 251 d_Model_tellPlain_231 (by decide) ?_ ?_
  · refine ax_aload_n B 0 d_Model_tellPlain_251 rfl rfl ?_
    refine ax_bipush (v := 34) B d_Model_tellPlain_252 (by decide) ?_
    refine ax_callVv (av := [ax_I 34]) (rest := []) B E hm_Model_say cl_Model rfl wd_1116 wp_46 lk_Model_208 d_Model_tellPlain_254 rfl (Nat.le_of_ble_eq_true rfl) (fun _ _ hh => hcall 160 _ _ _ _ hh) (fun h32 => ?_)
    refine ax_iconst (v := 1) B d_Model_tellPlain_257 (by decide) ?_
    exact ax_zreturn B d_Model_tellPlain_258
  · refine ax_aload_n B 0 d_Model_tellPlain_234 rfl rfl ?_
    refine ax_aload_n B 0 d_Model_tellPlain_235 rfl rfl ?_
    refine ax_getfr B cl_Model (by decide) fk_Model_13 d_Model_tellPlain_236 (fun v34 => ?_)
    refine ax_iload B 2 d_Model_tellPlain_239 rfl ?_
    refine ax_iald (kd := 1) B (by decide) rfl d_Model_tellPlain_241 (fun v35 => ?_)
    refine ax_callVv (av := [ax_I v35]) (rest := []) B E hm_Model_say cl_Model rfl wd_1116 wp_46 lk_Model_208 d_Model_tellPlain_242 rfl (Nat.le_of_ble_eq_true rfl) (fun _ _ hh => hcall 160 _ _ _ _ hh) (fun h36 => ?_)
    refine ax_iinc (v := x6 + 1) (tv2 := [(6, ax_I (x6 + 1)), (0, ax_A x0), (4, ax_I x4)]) B 2 d_Model_tellPlain_245 rfl (congrArg (_ + ·) (by decide)) (by decide) rfl ?_
    refine ax_goto B 227 d_Model_tellPlain_248 (by decide) ?_
    refine ax_sub (tv2 := [(0, ax_A x0), (4, ax_I x4), (6, ax_I (x6 + 1))]) [1, 2, 0] rfl ?_
    exact hk227 x0 x4 (x6 + 1) h36
theorem Model_tellPlain_lq227 {l : Launch} {G : ax_G} {d : Nat} {call : ax_Cf} (hcall : ax_Hc l G d call) {p : Program} {e : Env} {s : State} {mi : MethodId} {args : Array Value} {below : List Frame} {meth : Method} {c : Code} {h0 : ax_Hp} (B : ax_B G p s mi meth c "SchemaDeskModel" prog_12_method_46_code 7 (some (.boolean))) (E : c.exceptionTable.isEmpty = true) (Nm : meth.name = y_Model_tellPlain.name)   : ∀ (n : Nat) (x0 : Option Nat) (x4 : Int32) (x6 : Int32) (h : ax_Hp), ax_W G p l e s mi args below meth c 7 (d + 1) h0 227 [(0, ax_A x0), (4, ax_I x4), (6, ax_I x6)] [] h (Model_tellPlain_lp227 call  n x0 x4 x6 h)
  | 0, _, _, _, _ => ax_none
  | n + 1, x0, x4, x6, h => Model_tellPlain_lb227 hcall B E Nm   (Model_tellPlain_lq227 hcall B E Nm   n) x0 x4 x6 h
def Model_tellPlain_jn47 (call : ax_Cf)  (x0 : Option Nat) (x1 : Int32) (x2 : Int32) (x4 : Int32) (h : ax_Hp) : ax_O :=
  (ax_gr h x0 9 17).bind fun v7 =>
  (ax_ldi h v7 3 x1).bind fun v8 =>
  if v8.toInt = 66 then
    (ax_gl h x0 9 37).bind fun v9 =>
    if (lg_cmp v9 1) = 0 then
      Model_tellPlain_jn121 call 84 x0 h
    else
      Model_tellPlain_jn121 call 70 x0 h
  else
  if v8.toInt = 69 then
    (ax_gr h x0 9 14).bind fun v12 =>
    (ax_gr h x0 9 22).bind fun v13 =>
    (ax_ldi h v13 1 x2).bind fun v14 =>
    (ax_gl h x0 9 37).bind fun v15 =>
    (ax_ldi h v12 3 ((160 + v14) + (v15.toInt32))).bind fun v16 =>
    ax_on h x0 9 <| ax_ci (call 163 [ax_A x0, ax_I 0, ax_I x1, ax_I v16] h) fun v18 h17 =>
    if 0 ≤ v18 then
      Model_tellPlain_jn171 call x0 x1 v18 h17
    else
      (ax_gr h17 x0 9 23).bind fun v25 =>
      (ax_ldi h17 v25 1 x1).bind fun v26 =>
      Model_tellPlain_jn171 call x0 x1 v26 h17
  else
  if v8.toInt = 78 then
    ax_on h x0 9 <| ax_cv (call 160 [ax_A x0, ax_I 78] h) fun h27 =>
    ax_rz 1 h27
  else
  if v8.toInt = 83 then
    ax_on h x0 9 <| ax_cv (call 160 [ax_A x0, ax_I 34] h) fun h29 =>
    (ax_gl h29 x0 9 37).bind fun v31 =>
    Model_tellPlain_lp227 call ax_fuel x0 x4 (x4 - (v31.toInt32)) h29
  else
  (ax_gl h x0 9 37).bind fun v38 =>
  ax_on h x0 9 <| ax_cv (call 205 [ax_A x0, ax_L v38] h) fun h39 =>
  ax_rz 1 h39
set_option maxHeartbeats 4000000 in
set_option maxRecDepth 20000 in
theorem Model_tellPlain_jq47 {l : Launch} {G : ax_G} {d : Nat} {call : ax_Cf} (hcall : ax_Hc l G d call) {p : Program} {e : Env} {s : State} {mi : MethodId} {args : Array Value} {below : List Frame} {meth : Method} {c : Code} {h0 : ax_Hp} (B : ax_B G p s mi meth c "SchemaDeskModel" prog_12_method_46_code 7 (some (.boolean))) (E : c.exceptionTable.isEmpty = true) (Nm : meth.name = y_Model_tellPlain.name)   (x0 : Option Nat) (x1 : Int32) (x2 : Int32) (x4 : Int32) (h : ax_Hp) : ax_W G p l e s mi args below meth c 7 (d + 1) h0 47 [(0, ax_A x0), (1, ax_I x1), (2, ax_I x2), (4, ax_I x4)] [] h (Model_tellPlain_jn47 call  x0 x1 x2 x4 h) := by
  unfold Model_tellPlain_jn47
  refine ax_aload_n B 0 d_Model_tellPlain_47 rfl rfl ?_
  refine ax_getfr B cl_Model (by decide) fk_Model_48 d_Model_tellPlain_48 (fun v7 => ?_)
  refine ax_iload_n B 1 d_Model_tellPlain_51 rfl rfl ?_
  refine ax_cald (kd := 3) B (by decide) rfl d_Model_tellPlain_52 (fun v8 => ?_)
  refine ax_lookup B d_Model_tellPlain_53 (by decide) ?_
  refine ⟨_, _, rfl, ⟨104, by decide, ?_⟩, ?_⟩
  · refine ax_aload_n B 0 d_Model_tellPlain_104 rfl rfl ?_
    refine ax_aload_n B 0 d_Model_tellPlain_105 rfl rfl ?_
    refine ax_getfl B cl_Model (by decide) fk_Model_204 d_Model_tellPlain_106 (fun v9 => ?_)
    refine ax_lconst (v := 1) B d_Model_tellPlain_109 (by decide) ?_
    refine ax_lcmp B d_Model_tellPlain_110 ?_
    refine ax_if_ne B 119 d_Model_tellPlain_111 (by decide) ?_ ?_
    · refine ax_bipush (v := 70) B d_Model_tellPlain_119 (by decide) ?_
      refine ax_sub (tv2 := []) [] rfl ?_
      exact Model_tellPlain_jq121 hcall B E Nm 70 x0 h
    · refine ax_bipush (v := 84) B d_Model_tellPlain_114 (by decide) ?_
      refine ax_goto B 121 d_Model_tellPlain_116 (by decide) ?_
      refine ax_sub (tv2 := []) [] rfl ?_
      exact Model_tellPlain_jq121 hcall B E Nm 84 x0 h
  refine ⟨_, _, rfl, ⟨126, by decide, ?_⟩, ?_⟩
  · refine ax_aload_n B 0 d_Model_tellPlain_126 rfl rfl ?_
    refine ax_iconst (v := 0) B d_Model_tellPlain_127 (by decide) ?_
    refine ax_iload_n B 1 d_Model_tellPlain_128 rfl rfl ?_
    refine ax_aload_n B 0 d_Model_tellPlain_129 rfl rfl ?_
    refine ax_getfr B cl_Model (by decide) fk_Model_39 d_Model_tellPlain_130 (fun v12 => ?_)
    refine ax_sipush (v := 160) B d_Model_tellPlain_133 (by decide) ?_
    refine ax_aload_n B 0 d_Model_tellPlain_136 rfl rfl ?_
    refine ax_getfr B cl_Model (by decide) fk_Model_63 d_Model_tellPlain_137 (fun v13 => ?_)
    refine ax_iload_n B 2 d_Model_tellPlain_140 rfl rfl ?_
    refine ax_iald (kd := 1) B (by decide) rfl d_Model_tellPlain_141 (fun v14 => ?_)
    refine ax_iadd B d_Model_tellPlain_142 ?_
    refine ax_aload_n B 0 d_Model_tellPlain_143 rfl rfl ?_
    refine ax_getfl B cl_Model (by decide) fk_Model_204 d_Model_tellPlain_144 (fun v15 => ?_)
    refine ax_l2i B d_Model_tellPlain_147 ?_
    refine ax_iadd B d_Model_tellPlain_148 ?_
    refine ax_cald (kd := 3) B (by decide) rfl d_Model_tellPlain_149 (fun v16 => ?_)
    refine ax_callVi (av := [ax_I 0, ax_I x1, ax_I v16]) (rest := []) B E hm_Model_symbol cl_Model rfl wd_1128 wp_49 lk_Model_144 d_Model_tellPlain_150 rfl (Nat.le_of_ble_eq_true rfl) (fun _ _ hh => hcall 163 _ _ _ _ hh) (fun v18 h17 => ?_)
    refine ax_istore (tv2 := [(5, ax_I v18), (0, ax_A x0), (1, ax_I x1), (2, ax_I x2), (4, ax_I x4)]) B d_Model_tellPlain_153 (by decide) rfl ?_
    refine ax_iload B 0 d_Model_tellPlain_155 rfl ?_
    refine ax_if_ge B 169 d_Model_tellPlain_157 (by decide) ?_ ?_
    · refine ax_iload B 0 d_Model_tellPlain_169 rfl ?_
      refine ax_sub (tv2 := [(0, ax_A x0), (1, ax_I x1)]) [1, 2] rfl ?_
      exact Model_tellPlain_jq171 hcall B E Nm x0 x1 v18 h17
    · refine ax_aload_n B 1 d_Model_tellPlain_160 rfl rfl ?_
      refine ax_getfr B cl_Model (by decide) fk_Model_66 d_Model_tellPlain_161 (fun v25 => ?_)
      refine ax_iload_n B 2 d_Model_tellPlain_164 rfl rfl ?_
      refine ax_iald (kd := 1) B (by decide) rfl d_Model_tellPlain_165 (fun v26 => ?_)
      refine ax_goto B 171 d_Model_tellPlain_166 (by decide) ?_
      refine ax_sub (tv2 := [(0, ax_A x0), (1, ax_I x1)]) [1, 2] rfl ?_
      exact Model_tellPlain_jq171 hcall B E Nm x0 x1 v26 h17
  refine ⟨_, _, rfl, ⟨96, by decide, ?_⟩, ?_⟩
  · refine ax_aload_n B 0 d_Model_tellPlain_96 rfl rfl ?_
    refine ax_bipush (v := 78) B d_Model_tellPlain_97 (by decide) ?_
    refine ax_callVv (av := [ax_I 78]) (rest := []) B E hm_Model_say cl_Model rfl wd_1116 wp_46 lk_Model_208 d_Model_tellPlain_99 rfl (Nat.le_of_ble_eq_true rfl) (fun _ _ hh => hcall 160 _ _ _ _ hh) (fun h27 => ?_)
    refine ax_iconst (v := 1) B d_Model_tellPlain_102 (by decide) ?_
    exact ax_zreturn B d_Model_tellPlain_103
  refine ⟨_, _, rfl, ⟨211, by decide, ?_⟩, ?_⟩
  · refine ax_aload_n B 0 d_Model_tellPlain_211 rfl rfl ?_
    refine ax_bipush (v := 34) B d_Model_tellPlain_212 (by decide) ?_
    refine ax_callVv (av := [ax_I 34]) (rest := []) B E hm_Model_say cl_Model rfl wd_1116 wp_46 lk_Model_208 d_Model_tellPlain_214 rfl (Nat.le_of_ble_eq_true rfl) (fun _ _ hh => hcall 160 _ _ _ _ hh) (fun h29 => ?_)
    refine ax_iload B 3 d_Model_tellPlain_217 rfl ?_
    refine ax_aload_n B 0 d_Model_tellPlain_219 rfl rfl ?_
    refine ax_getfl B cl_Model (by decide) fk_Model_204 d_Model_tellPlain_220 (fun v31 => ?_)
    refine ax_l2i B d_Model_tellPlain_223 ?_
    refine ax_isub B d_Model_tellPlain_224 ?_
    refine ax_istore (tv2 := [(6, ax_I (x4 - (v31.toInt32))), (0, ax_A x0), (1, ax_I x1), (2, ax_I x2), (4, ax_I x4)]) B d_Model_tellPlain_225 (by decide) rfl ?_
    refine ax_sub (tv2 := [(0, ax_A x0), (4, ax_I x4), (6, ax_I (x4 - (v31.toInt32)))]) [1, 4, 0] rfl ?_
    exact Model_tellPlain_lq227 hcall B E Nm ax_fuel x0 x4 (x4 - (v31.toInt32)) h29
  refine ⟨259, by decide, ?_⟩
  refine ax_aload_n B 0 d_Model_tellPlain_259 rfl rfl ?_
  refine ax_aload_n B 0 d_Model_tellPlain_260 rfl rfl ?_
  refine ax_getfl B cl_Model (by decide) fk_Model_204 d_Model_tellPlain_261 (fun v38 => ?_)
  refine ax_callVv (av := [ax_L v38]) (rest := []) B E hm_Model_sayNumber cl_Model rfl wd_1302 wp_84 lk_Model_295 d_Model_tellPlain_264 rfl (Nat.le_of_ble_eq_true rfl) (fun _ _ hh => hcall 205 _ _ _ _ hh) (fun h39 => ?_)
  refine ax_iconst (v := 1) B d_Model_tellPlain_267 (by decide) ?_
  exact ax_zreturn B d_Model_tellPlain_268
def Model_tellPlain_b (call : ax_Cf) (x0 : Option Nat) (x1 : Int32) (x2 : Int32) (x3 : Int32) (h : ax_Hp) : ax_O :=
  ax_on h x0 9 <| ax_ci (call 198 [ax_A x0, ax_I x2, ax_I x3] h) fun v2 h1 =>
  (ax_gr h1 x0 9 17).bind fun v3 =>
  (ax_ldi h1 v3 3 x1).bind fun v4 =>
  (ax_gr h1 x0 9 17).bind fun v5 =>
  (ax_ldi h1 v5 3 x2).bind fun v6 =>
  if v4 = v6 then
    Model_tellPlain_jn47 call x0 x1 x2 v2 h1
  else
    (ax_gr h1 x0 9 17).bind fun v41 =>
    (ax_ldi h1 v41 3 x1).bind fun v42 =>
    if v42 = 76 then
      (ax_gr h1 x0 9 17).bind fun v43 =>
      (ax_ldi h1 v43 3 x2).bind fun v44 =>
      if v44 = 73 then
        Model_tellPlain_jn47 call x0 x1 x2 v2 h1
      else
        ax_rz 0 h1
    else
      ax_rz 0 h1
set_option maxHeartbeats 4000000 in
set_option maxRecDepth 20000 in
theorem Model_tellPlain_t {l : Launch} {G : ax_G} {d : Nat} {call : ax_Cf} (hcall : ax_Hc l G d call) (x0 : Option Nat) (x1 : Int32) (x2 : Int32) (x3 : Int32) (h : ax_Hp) {r : ax_Rs} {h' : ax_Hp} (ho : Model_tellPlain_b call x0 x1 x2 x3 h = some (r, h')) : ax_C l G (d + 1) y_Model_tellPlain (.code y_Model_tellPlain prog_12_method_46_code 7 (some (.boolean))) [ax_A x0, ax_I x1, ax_I x2, ax_I x3] h r h' := by
  refine ax_enter (by decide) (Nat.le_of_ble_eq_true rfl) ho (fun p e s mi args below meth c B E Nm => ?_)
  have B : ax_B G p s mi meth c "SchemaDeskModel" prog_12_method_46_code 7 (some (.boolean)) := B
  show ax_W G p l e s mi args below meth c 7 (d + 1) h 0 [(0, ax_A x0), (1, ax_I x1), (2, ax_I x2), (3, ax_I x3)] [] h (Model_tellPlain_b call x0 x1 x2 x3 h)
  unfold Model_tellPlain_b
  refine ax_aload_n B 0 d_Model_tellPlain_0 rfl rfl ?_
  refine ax_iload_n B 2 d_Model_tellPlain_1 rfl rfl ?_
  refine ax_iload_n B 3 d_Model_tellPlain_2 rfl rfl ?_
  refine ax_callVi (av := [ax_I x2, ax_I x3]) (rest := []) B E hm_Model_takePlain cl_Model rfl wd_1274 wp_77 lk_Model_271 d_Model_tellPlain_3 rfl (Nat.le_of_ble_eq_true rfl) (fun _ _ hh => hcall 198 _ _ _ _ hh) (fun v2 h1 => ?_)
  refine ax_istore (tv2 := [(4, ax_I v2), (0, ax_A x0), (1, ax_I x1), (2, ax_I x2), (3, ax_I x3)]) B d_Model_tellPlain_6 (by decide) rfl ?_
  refine ax_aload_n B 1 d_Model_tellPlain_8 rfl rfl ?_
  refine ax_getfr B cl_Model (by decide) fk_Model_48 d_Model_tellPlain_9 (fun v3 => ?_)
  refine ax_iload_n B 2 d_Model_tellPlain_12 rfl rfl ?_
  refine ax_cald (kd := 3) B (by decide) rfl d_Model_tellPlain_13 (fun v4 => ?_)
  refine ax_aload_n B 1 d_Model_tellPlain_14 rfl rfl ?_
  refine ax_getfr B cl_Model (by decide) fk_Model_48 d_Model_tellPlain_15 (fun v5 => ?_)
  refine ax_iload_n B 3 d_Model_tellPlain_18 rfl rfl ?_
  refine ax_cald (kd := 3) B (by decide) rfl d_Model_tellPlain_19 (fun v6 => ?_)
  refine ax_icmp_eq B 47 d_Model_tellPlain_20 (by decide) ?_ ?_
  · refine ax_sub (tv2 := [(0, ax_A x0), (1, ax_I x1), (2, ax_I x2), (4, ax_I v2)]) [1, 2, 3, 0] rfl ?_
    exact Model_tellPlain_jq47 hcall B E Nm x0 x1 x2 v2 h1
  · refine ax_aload_n B 1 d_Model_tellPlain_23 rfl rfl ?_
    refine ax_getfr B cl_Model (by decide) fk_Model_48 d_Model_tellPlain_24 (fun v41 => ?_)
    refine ax_iload_n B 2 d_Model_tellPlain_27 rfl rfl ?_
    refine ax_cald (kd := 3) B (by decide) rfl d_Model_tellPlain_28 (fun v42 => ?_)
    refine ax_bipush (v := 76) B d_Model_tellPlain_29 (by decide) ?_
    refine ax_icmp_ne B 45 d_Model_tellPlain_31 (by decide) ?_ ?_
    · refine ax_iconst (v := 0) B d_Model_tellPlain_45 (by decide) ?_
      exact ax_zreturn B d_Model_tellPlain_46
    · refine ax_aload_n B 1 d_Model_tellPlain_34 rfl rfl ?_
      refine ax_getfr B cl_Model (by decide) fk_Model_48 d_Model_tellPlain_35 (fun v43 => ?_)
      refine ax_iload_n B 3 d_Model_tellPlain_38 rfl rfl ?_
      refine ax_cald (kd := 3) B (by decide) rfl d_Model_tellPlain_39 (fun v44 => ?_)
      refine ax_bipush (v := 73) B d_Model_tellPlain_40 (by decide) ?_
      refine ax_icmp_eq B 47 d_Model_tellPlain_42 (by decide) ?_ ?_
      · refine ax_sub (tv2 := [(0, ax_A x0), (1, ax_I x1), (2, ax_I x2), (4, ax_I v2)]) [1, 2, 3, 0] rfl ?_
        exact Model_tellPlain_jq47 hcall B E Nm x0 x1 x2 v2 h1
      · refine ax_iconst (v := 0) B d_Model_tellPlain_45 (by decide) ?_
        exact ax_zreturn B d_Model_tellPlain_46

theorem d_Model_sayNumber_0 : decode prog_12_method_45_code 0 = .ok (.lload_n 1, 1) := by decide +kernel
theorem d_Model_sayNumber_1 : decode prog_12_method_45_code 1 = .ok (.lstore_n 3, 1) := by decide +kernel
theorem d_Model_sayNumber_2 : decode prog_12_method_45_code 2 = .ok (.lconst 1, 1) := by decide +kernel
theorem d_Model_sayNumber_3 : decode prog_12_method_45_code 3 = .ok (.lstore 5, 2) := by decide +kernel
theorem d_Model_sayNumber_5 : decode prog_12_method_45_code 5 = .ok (.lload_n 1, 1) := by decide +kernel
theorem d_Model_sayNumber_6 : decode prog_12_method_45_code 6 = .ok (.lconst 0, 1) := by decide +kernel
theorem d_Model_sayNumber_7 : decode prog_12_method_45_code 7 = .ok (.lcmp, 1) := by decide +kernel
theorem d_Model_sayNumber_8 : decode prog_12_method_45_code 8 = .ok (.ifCond .ge 12, 3) := by decide +kernel
theorem d_Model_sayNumber_11 : decode prog_12_method_45_code 11 = .ok (.aload_n 0, 1) := by decide +kernel
theorem d_Model_sayNumber_12 : decode prog_12_method_45_code 12 = .ok (.bipush 45, 2) := by decide +kernel
theorem d_Model_sayNumber_14 : decode prog_12_method_45_code 14 = .ok (.invokevirtual 208, 3) := by decide +kernel
theorem d_Model_sayNumber_17 : decode prog_12_method_45_code 17 = .ok (.goto 6, 3) := by decide +kernel
theorem d_Model_sayNumber_20 : decode prog_12_method_45_code 20 = .ok (.lload_n 1, 1) := by decide +kernel
theorem d_Model_sayNumber_21 : decode prog_12_method_45_code 21 = .ok (.lneg, 1) := by decide +kernel
theorem d_Model_sayNumber_22 : decode prog_12_method_45_code 22 = .ok (.lstore_n 3, 1) := by decide +kernel
theorem d_Model_sayNumber_23 : decode prog_12_method_45_code 23 = .ok (.lload_n 3, 1) := by decide +kernel
theorem d_Model_sayNumber_24 : decode prog_12_method_45_code 24 = .ok (.lload 5, 2) := by decide +kernel
theorem d_Model_sayNumber_26 : decode prog_12_method_45_code 26 = .ok (.ldiv, 1) := by decide +kernel
theorem d_Model_sayNumber_27 : decode prog_12_method_45_code 27 = .ok (.ldc2_w 291, 3) := by decide +kernel
theorem d_Model_sayNumber_30 : decode prog_12_method_45_code 30 = .ok (.lcmp, 1) := by decide +kernel
theorem d_Model_sayNumber_31 : decode prog_12_method_45_code 31 = .ok (.ifCond .ge 14, 3) := by decide +kernel
theorem d_Model_sayNumber_34 : decode prog_12_method_45_code 34 = .ok (.ldc2_w 202, 3) := by decide +kernel
theorem d_Model_sayNumber_37 : decode prog_12_method_45_code 37 = .ok (.lload 5, 2) := by decide +kernel
theorem d_Model_sayNumber_39 : decode prog_12_method_45_code 39 = .ok (.lmul, 1) := by decide +kernel
theorem d_Model_sayNumber_40 : decode prog_12_method_45_code 40 = .ok (.lstore 5, 2) := by decide +kernel
theorem d_Model_sayNumber_42 : decode prog_12_method_45_code 42 = .ok (.goto (-19), 3) := by decide +kernel
theorem d_Model_sayNumber_45 : decode prog_12_method_45_code 45 = .ok (.lload 5, 2) := by decide +kernel
theorem d_Model_sayNumber_47 : decode prog_12_method_45_code 47 = .ok (.lconst 0, 1) := by decide +kernel
theorem d_Model_sayNumber_48 : decode prog_12_method_45_code 48 = .ok (.lcmp, 1) := by decide +kernel
theorem d_Model_sayNumber_49 : decode prog_12_method_45_code 49 = .ok (.ifCond .le 31, 3) := by decide +kernel
theorem d_Model_sayNumber_52 : decode prog_12_method_45_code 52 = .ok (.aload_n 0, 1) := by decide +kernel
theorem d_Model_sayNumber_53 : decode prog_12_method_45_code 53 = .ok (.ldc2_w 293, 3) := by decide +kernel
theorem d_Model_sayNumber_56 : decode prog_12_method_45_code 56 = .ok (.lload_n 3, 1) := by decide +kernel
theorem d_Model_sayNumber_57 : decode prog_12_method_45_code 57 = .ok (.lload 5, 2) := by decide +kernel
theorem d_Model_sayNumber_59 : decode prog_12_method_45_code 59 = .ok (.ldiv, 1) := by decide +kernel
theorem d_Model_sayNumber_60 : decode prog_12_method_45_code 60 = .ok (.ldc2_w 202, 3) := by decide +kernel
theorem d_Model_sayNumber_63 : decode prog_12_method_45_code 63 = .ok (.lrem, 1) := by decide +kernel
theorem d_Model_sayNumber_64 : decode prog_12_method_45_code 64 = .ok (.lsub, 1) := by decide +kernel
theorem d_Model_sayNumber_65 : decode prog_12_method_45_code 65 = .ok (.l2i, 1) := by decide +kernel
theorem d_Model_sayNumber_66 : decode prog_12_method_45_code 66 = .ok (.invokevirtual 208, 3) := by decide +kernel
theorem d_Model_sayNumber_69 : decode prog_12_method_45_code 69 = .ok (.lload 5, 2) := by decide +kernel
theorem d_Model_sayNumber_71 : decode prog_12_method_45_code 71 = .ok (.ldc2_w 202, 3) := by decide +kernel
theorem d_Model_sayNumber_74 : decode prog_12_method_45_code 74 = .ok (.ldiv, 1) := by decide +kernel
theorem d_Model_sayNumber_75 : decode prog_12_method_45_code 75 = .ok (.lstore 5, 2) := by decide +kernel
theorem d_Model_sayNumber_77 : decode prog_12_method_45_code 77 = .ok (.goto (-32), 3) := by decide +kernel
theorem d_Model_sayNumber_80 : decode prog_12_method_45_code 80 = .ok (.return_, 1) := by decide +kernel
def Model_sayNumber_bd45 (call : ax_Cf)  (k45 : Option Nat → Int64 → Int64 → ax_Hp → ax_O) (x0 : Option Nat) (x3 : Int64) (x5 : Int64) (h : ax_Hp) : ax_O :=
  if (lg_cmp x5 0) ≤ 0 then
    ax_rv h
  else
    ax_nzl x5 <|
    ax_nzl 10 <|
    ax_on h x0 9 <| ax_cv (call 160 [ax_A x0, ax_I ((48 - ((x3 / x5) - (x3 / x5) / 10 * 10)).toInt32)] h) fun h1 =>
    ax_nzl 10 <|
    k45 x0 x3 (x5 / 10) h1
def Model_sayNumber_lp45 (call : ax_Cf)  : Nat → Option Nat → Int64 → Int64 → ax_Hp → ax_O
  | 0 => fun _ _ _ _ => none
  | n + 1 => Model_sayNumber_bd45 call  (Model_sayNumber_lp45 call  n)
set_option maxHeartbeats 4000000 in
set_option maxRecDepth 20000 in
theorem Model_sayNumber_lb45 {l : Launch} {G : ax_G} {d : Nat} {call : ax_Cf} (hcall : ax_Hc l G d call) {p : Program} {e : Env} {s : State} {mi : MethodId} {args : Array Value} {below : List Frame} {meth : Method} {c : Code} {h0 : ax_Hp} (B : ax_B G p s mi meth c "SchemaDeskModel" prog_12_method_45_code 7 none) (E : c.exceptionTable.isEmpty = true) (Nm : meth.name = y_Model_sayNumber.name)   {k45 : Option Nat → Int64 → Int64 → ax_Hp → ax_O} (hk45 : ∀ (x0 : Option Nat) (x3 : Int64) (x5 : Int64) (h : ax_Hp), ax_W G p l e s mi args below meth c 7 (d + 1) h0 45 [(0, ax_A x0), (3, ax_L x3), (5, ax_L x5)] [] h (k45 x0 x3 x5 h)) (x0 : Option Nat) (x3 : Int64) (x5 : Int64) (h : ax_Hp) : ax_W G p l e s mi args below meth c 7 (d + 1) h0 45 [(0, ax_A x0), (3, ax_L x3), (5, ax_L x5)] [] h (Model_sayNumber_bd45 call  k45 x0 x3 x5 h) := by
  unfold Model_sayNumber_bd45
  refine ax_lload B 2 d_Model_sayNumber_45 rfl ?_
  refine ax_lconst (v := 0) B d_Model_sayNumber_47 (by decide) ?_
  refine ax_lcmp B d_Model_sayNumber_48 ?_
  refine ax_if_le B 80 d_Model_sayNumber_49 (by decide) ?_ ?_
  · exact ax_vreturn B d_Model_sayNumber_80
  · refine ax_aload_n B 0 d_Model_sayNumber_52 rfl rfl ?_
    refine ax_ldc2 (v := 48) B wd_1305 d_Model_sayNumber_53 ?_
    refine ax_lload_n B 1 d_Model_sayNumber_56 rfl rfl ?_
    refine ax_lload B 2 d_Model_sayNumber_57 rfl ?_
    refine ax_ldiv B d_Model_sayNumber_59 ?_
    refine ax_ldc2 (v := 10) B wd_1140 d_Model_sayNumber_60 ?_
    refine ax_lrem B d_Model_sayNumber_63 ?_
    refine ax_lsub B d_Model_sayNumber_64 ?_
    refine ax_l2i B d_Model_sayNumber_65 ?_
    refine ax_callVv (av := [ax_I ((48 - ((x3 / x5) - (x3 / x5) / 10 * 10)).toInt32)]) (rest := []) B E hm_Model_say cl_Model rfl wd_1116 wp_46 lk_Model_208 d_Model_sayNumber_66 rfl (Nat.le_of_ble_eq_true rfl) (fun _ _ hh => hcall 160 _ _ _ _ hh) (fun h1 => ?_)
    refine ax_lload B 2 d_Model_sayNumber_69 rfl ?_
    refine ax_ldc2 (v := 10) B wd_1140 d_Model_sayNumber_71 ?_
    refine ax_ldiv B d_Model_sayNumber_74 ?_
    refine ax_lstore (tv2 := [(5, ax_L (x5 / 10)), (0, ax_A x0), (3, ax_L x3)]) B d_Model_sayNumber_75 (by decide) rfl ?_
    refine ax_goto B 45 d_Model_sayNumber_77 (by decide) ?_
    refine ax_sub (tv2 := [(0, ax_A x0), (3, ax_L x3), (5, ax_L (x5 / 10))]) [1, 2, 0] rfl ?_
    exact hk45 x0 x3 (x5 / 10) h1
theorem Model_sayNumber_lq45 {l : Launch} {G : ax_G} {d : Nat} {call : ax_Cf} (hcall : ax_Hc l G d call) {p : Program} {e : Env} {s : State} {mi : MethodId} {args : Array Value} {below : List Frame} {meth : Method} {c : Code} {h0 : ax_Hp} (B : ax_B G p s mi meth c "SchemaDeskModel" prog_12_method_45_code 7 none) (E : c.exceptionTable.isEmpty = true) (Nm : meth.name = y_Model_sayNumber.name)   : ∀ (n : Nat) (x0 : Option Nat) (x3 : Int64) (x5 : Int64) (h : ax_Hp), ax_W G p l e s mi args below meth c 7 (d + 1) h0 45 [(0, ax_A x0), (3, ax_L x3), (5, ax_L x5)] [] h (Model_sayNumber_lp45 call  n x0 x3 x5 h)
  | 0, _, _, _, _ => ax_none
  | n + 1, x0, x3, x5, h => Model_sayNumber_lb45 hcall B E Nm   (Model_sayNumber_lq45 hcall B E Nm   n) x0 x3 x5 h
def Model_sayNumber_bd23 (call : ax_Cf)  (k23 : Option Nat → Int64 → Int64 → ax_Hp → ax_O) (x0 : Option Nat) (x3 : Int64) (x5 : Int64) (h : ax_Hp) : ax_O :=
  ax_nzl x5 <|
  if 0 ≤ (lg_cmp (x3 / x5) (-9)) then
    Model_sayNumber_lp45 call ax_fuel x0 x3 x5 h
  else
    k23 x0 x3 (10 * x5) h
def Model_sayNumber_lp23 (call : ax_Cf)  : Nat → Option Nat → Int64 → Int64 → ax_Hp → ax_O
  | 0 => fun _ _ _ _ => none
  | n + 1 => Model_sayNumber_bd23 call  (Model_sayNumber_lp23 call  n)
set_option maxHeartbeats 4000000 in
set_option maxRecDepth 20000 in
theorem Model_sayNumber_lb23 {l : Launch} {G : ax_G} {d : Nat} {call : ax_Cf} (hcall : ax_Hc l G d call) {p : Program} {e : Env} {s : State} {mi : MethodId} {args : Array Value} {below : List Frame} {meth : Method} {c : Code} {h0 : ax_Hp} (B : ax_B G p s mi meth c "SchemaDeskModel" prog_12_method_45_code 7 none) (E : c.exceptionTable.isEmpty = true) (Nm : meth.name = y_Model_sayNumber.name)   {k23 : Option Nat → Int64 → Int64 → ax_Hp → ax_O} (hk23 : ∀ (x0 : Option Nat) (x3 : Int64) (x5 : Int64) (h : ax_Hp), ax_W G p l e s mi args below meth c 7 (d + 1) h0 23 [(0, ax_A x0), (3, ax_L x3), (5, ax_L x5)] [] h (k23 x0 x3 x5 h)) (x0 : Option Nat) (x3 : Int64) (x5 : Int64) (h : ax_Hp) : ax_W G p l e s mi args below meth c 7 (d + 1) h0 23 [(0, ax_A x0), (3, ax_L x3), (5, ax_L x5)] [] h (Model_sayNumber_bd23 call  k23 x0 x3 x5 h) := by
  unfold Model_sayNumber_bd23
  refine ax_lload_n B 1 d_Model_sayNumber_23 rfl rfl ?_
  refine ax_lload B 2 d_Model_sayNumber_24 rfl ?_
  refine ax_ldiv B d_Model_sayNumber_26 ?_
  refine ax_ldc2 (v := (-9)) B wd_1304 d_Model_sayNumber_27 ?_
  refine ax_lcmp B d_Model_sayNumber_30 ?_
  refine ax_if_ge B 45 d_Model_sayNumber_31 (by decide) ?_ ?_
  · refine ax_sub (tv2 := [(0, ax_A x0), (3, ax_L x3), (5, ax_L x5)]) [0, 1, 2] rfl ?_
    exact Model_sayNumber_lq45 hcall B E Nm ax_fuel x0 x3 x5 h
  · refine ax_ldc2 (v := 10) B wd_1140 d_Model_sayNumber_34 ?_
    refine ax_lload B 2 d_Model_sayNumber_37 rfl ?_
    refine ax_lmul B d_Model_sayNumber_39 ?_
    refine ax_lstore (tv2 := [(5, ax_L (10 * x5)), (0, ax_A x0), (3, ax_L x3)]) B d_Model_sayNumber_40 (by decide) rfl ?_
    refine ax_goto B 23 d_Model_sayNumber_42 (by decide) ?_
    refine ax_sub (tv2 := [(0, ax_A x0), (3, ax_L x3), (5, ax_L (10 * x5))]) [1, 2, 0] rfl ?_
    exact hk23 x0 x3 (10 * x5) h
theorem Model_sayNumber_lq23 {l : Launch} {G : ax_G} {d : Nat} {call : ax_Cf} (hcall : ax_Hc l G d call) {p : Program} {e : Env} {s : State} {mi : MethodId} {args : Array Value} {below : List Frame} {meth : Method} {c : Code} {h0 : ax_Hp} (B : ax_B G p s mi meth c "SchemaDeskModel" prog_12_method_45_code 7 none) (E : c.exceptionTable.isEmpty = true) (Nm : meth.name = y_Model_sayNumber.name)   : ∀ (n : Nat) (x0 : Option Nat) (x3 : Int64) (x5 : Int64) (h : ax_Hp), ax_W G p l e s mi args below meth c 7 (d + 1) h0 23 [(0, ax_A x0), (3, ax_L x3), (5, ax_L x5)] [] h (Model_sayNumber_lp23 call  n x0 x3 x5 h)
  | 0, _, _, _, _ => ax_none
  | n + 1, x0, x3, x5, h => Model_sayNumber_lb23 hcall B E Nm   (Model_sayNumber_lq23 hcall B E Nm   n) x0 x3 x5 h
def Model_sayNumber_b (call : ax_Cf) (x0 : Option Nat) (x1 : Int64) (h : ax_Hp) : ax_O :=
  if 0 ≤ (lg_cmp x1 0) then
    Model_sayNumber_lp23 call ax_fuel x0 (-x1) 1 h
  else
    ax_on h x0 9 <| ax_cv (call 160 [ax_A x0, ax_I 45] h) fun h3 =>
    Model_sayNumber_lp23 call ax_fuel x0 x1 1 h3
set_option maxHeartbeats 4000000 in
set_option maxRecDepth 20000 in
theorem Model_sayNumber_t {l : Launch} {G : ax_G} {d : Nat} {call : ax_Cf} (hcall : ax_Hc l G d call) (x0 : Option Nat) (x1 : Int64) (h : ax_Hp) {r : ax_Rs} {h' : ax_Hp} (ho : Model_sayNumber_b call x0 x1 h = some (r, h')) : ax_C l G (d + 1) y_Model_sayNumber (.code y_Model_sayNumber prog_12_method_45_code 7 none) [ax_A x0, ax_L x1] h r h' := by
  refine ax_enter (by decide) (Nat.le_of_ble_eq_true rfl) ho (fun p e s mi args below meth c B E Nm => ?_)
  have B : ax_B G p s mi meth c "SchemaDeskModel" prog_12_method_45_code 7 none := B
  show ax_W G p l e s mi args below meth c 7 (d + 1) h 0 [(0, ax_A x0), (1, ax_L x1)] [] h (Model_sayNumber_b call x0 x1 h)
  unfold Model_sayNumber_b
  refine ax_lload_n B 1 d_Model_sayNumber_0 rfl rfl ?_
  refine ax_lstore_n (tv2 := [(3, ax_L x1), (0, ax_A x0), (1, ax_L x1)]) B d_Model_sayNumber_1 rfl (by decide) rfl ?_
  refine ax_lconst (v := 1) B d_Model_sayNumber_2 (by decide) ?_
  refine ax_lstore (tv2 := [(5, ax_L 1), (3, ax_L x1), (0, ax_A x0), (1, ax_L x1)]) B d_Model_sayNumber_3 (by decide) rfl ?_
  refine ax_lload_n B 3 d_Model_sayNumber_5 rfl rfl ?_
  refine ax_lconst (v := 0) B d_Model_sayNumber_6 (by decide) ?_
  refine ax_lcmp B d_Model_sayNumber_7 ?_
  refine ax_if_ge B 20 d_Model_sayNumber_8 (by decide) ?_ ?_
  · refine ax_lload_n B 3 d_Model_sayNumber_20 rfl rfl ?_
    refine ax_lneg B d_Model_sayNumber_21 ?_
    refine ax_lstore_n (tv2 := [(3, ax_L (-x1)), (5, ax_L 1), (0, ax_A x0), (1, ax_L x1)]) B d_Model_sayNumber_22 rfl (by decide) rfl ?_
    refine ax_sub (tv2 := [(0, ax_A x0), (3, ax_L (-x1)), (5, ax_L 1)]) [2, 0, 1] rfl ?_
    exact Model_sayNumber_lq23 hcall B E Nm ax_fuel x0 (-x1) 1 h
  · refine ax_aload_n B 2 d_Model_sayNumber_11 rfl rfl ?_
    refine ax_bipush (v := 45) B d_Model_sayNumber_12 (by decide) ?_
    refine ax_callVv (av := [ax_I 45]) (rest := []) B E hm_Model_say cl_Model rfl wd_1116 wp_46 lk_Model_208 d_Model_sayNumber_14 rfl (Nat.le_of_ble_eq_true rfl) (fun _ _ hh => hcall 160 _ _ _ _ hh) (fun h3 => ?_)
    refine ax_goto B 23 d_Model_sayNumber_17 (by decide) ?_
    refine ax_sub (tv2 := [(0, ax_A x0), (3, ax_L x1), (5, ax_L 1)]) [2, 1, 0] rfl ?_
    exact Model_sayNumber_lq23 hcall B E Nm ax_fuel x0 x1 1 h3

theorem d_Model_tellElement_0 : decode prog_12_method_48_code 0 = .ok (.aload_n 0, 1) := by decide +kernel
theorem d_Model_tellElement_1 : decode prog_12_method_48_code 1 = .ok (.getfield 305, 3) := by decide +kernel
theorem d_Model_tellElement_4 : decode prog_12_method_48_code 4 = .ok (.iconst 1, 1) := by decide +kernel
theorem d_Model_tellElement_5 : decode prog_12_method_48_code 5 = .ok (.isub, 1) := by decide +kernel
theorem d_Model_tellElement_6 : decode prog_12_method_48_code 6 = .ok (.istore_n 1, 1) := by decide +kernel
theorem d_Model_tellElement_7 : decode prog_12_method_48_code 7 = .ok (.aload_n 0, 1) := by decide +kernel
theorem d_Model_tellElement_8 : decode prog_12_method_48_code 8 = .ok (.getfield 113, 3) := by decide +kernel
theorem d_Model_tellElement_11 : decode prog_12_method_48_code 11 = .ok (.iload_n 1, 1) := by decide +kernel
theorem d_Model_tellElement_12 : decode prog_12_method_48_code 12 = .ok (.iaload, 1) := by decide +kernel
theorem d_Model_tellElement_13 : decode prog_12_method_48_code 13 = .ok (.ifCond .ne 58, 3) := by decide +kernel
theorem d_Model_tellElement_16 : decode prog_12_method_48_code 16 = .ok (.aload_n 0, 1) := by decide +kernel
theorem d_Model_tellElement_17 : decode prog_12_method_48_code 17 = .ok (.getfield 110, 3) := by decide +kernel
theorem d_Model_tellElement_20 : decode prog_12_method_48_code 20 = .ok (.iload_n 1, 1) := by decide +kernel
theorem d_Model_tellElement_21 : decode prog_12_method_48_code 21 = .ok (.aload_n 0, 1) := by decide +kernel
theorem d_Model_tellElement_22 : decode prog_12_method_48_code 22 = .ok (.aload_n 0, 1) := by decide +kernel
theorem d_Model_tellElement_23 : decode prog_12_method_48_code 23 = .ok (.getfield 110, 3) := by decide +kernel
theorem d_Model_tellElement_26 : decode prog_12_method_48_code 26 = .ok (.iload_n 1, 1) := by decide +kernel
theorem d_Model_tellElement_27 : decode prog_12_method_48_code 27 = .ok (.iaload, 1) := by decide +kernel
theorem d_Model_tellElement_28 : decode prog_12_method_48_code 28 = .ok (.bipush 21, 2) := by decide +kernel
theorem d_Model_tellElement_30 : decode prog_12_method_48_code 30 = .ok (.invokevirtual 262, 3) := by decide +kernel
theorem d_Model_tellElement_33 : decode prog_12_method_48_code 33 = .ok (.iastore, 1) := by decide +kernel
theorem d_Model_tellElement_34 : decode prog_12_method_48_code 34 = .ok (.aload_n 0, 1) := by decide +kernel
theorem d_Model_tellElement_35 : decode prog_12_method_48_code 35 = .ok (.getfield 113, 3) := by decide +kernel
theorem d_Model_tellElement_38 : decode prog_12_method_48_code 38 = .ok (.iload_n 1, 1) := by decide +kernel
theorem d_Model_tellElement_39 : decode prog_12_method_48_code 39 = .ok (.aload_n 0, 1) := by decide +kernel
theorem d_Model_tellElement_40 : decode prog_12_method_48_code 40 = .ok (.getfield 204, 3) := by decide +kernel
theorem d_Model_tellElement_43 : decode prog_12_method_48_code 43 = .ok (.l2i, 1) := by decide +kernel
theorem d_Model_tellElement_44 : decode prog_12_method_48_code 44 = .ok (.iastore, 1) := by decide +kernel
theorem d_Model_tellElement_45 : decode prog_12_method_48_code 45 = .ok (.aload_n 0, 1) := by decide +kernel
theorem d_Model_tellElement_46 : decode prog_12_method_48_code 46 = .ok (.getfield 113, 3) := by decide +kernel
theorem d_Model_tellElement_49 : decode prog_12_method_48_code 49 = .ok (.iload_n 1, 1) := by decide +kernel
theorem d_Model_tellElement_50 : decode prog_12_method_48_code 50 = .ok (.iaload, 1) := by decide +kernel
theorem d_Model_tellElement_51 : decode prog_12_method_48_code 51 = .ok (.ifCond .ne 20, 3) := by decide +kernel
theorem d_Model_tellElement_54 : decode prog_12_method_48_code 54 = .ok (.aload_n 0, 1) := by decide +kernel
theorem d_Model_tellElement_55 : decode prog_12_method_48_code 55 = .ok (.bipush 93, 2) := by decide +kernel
theorem d_Model_tellElement_57 : decode prog_12_method_48_code 57 = .ok (.invokevirtual 208, 3) := by decide +kernel
theorem d_Model_tellElement_60 : decode prog_12_method_48_code 60 = .ok (.aload_n 0, 1) := by decide +kernel
theorem d_Model_tellElement_61 : decode prog_12_method_48_code 61 = .ok (.dup, 1) := by decide +kernel
theorem d_Model_tellElement_62 : decode prog_12_method_48_code 62 = .ok (.getfield 305, 3) := by decide +kernel
theorem d_Model_tellElement_65 : decode prog_12_method_48_code 65 = .ok (.iconst 1, 1) := by decide +kernel
theorem d_Model_tellElement_66 : decode prog_12_method_48_code 66 = .ok (.isub, 1) := by decide +kernel
theorem d_Model_tellElement_67 : decode prog_12_method_48_code 67 = .ok (.putfield 305, 3) := by decide +kernel
theorem d_Model_tellElement_70 : decode prog_12_method_48_code 70 = .ok (.return_, 1) := by decide +kernel
theorem d_Model_tellElement_71 : decode prog_12_method_48_code 71 = .ok (.aload_n 0, 1) := by decide +kernel
theorem d_Model_tellElement_72 : decode prog_12_method_48_code 72 = .ok (.getfield 116, 3) := by decide +kernel
theorem d_Model_tellElement_75 : decode prog_12_method_48_code 75 = .ok (.iload_n 1, 1) := by decide +kernel
theorem d_Model_tellElement_76 : decode prog_12_method_48_code 76 = .ok (.iaload, 1) := by decide +kernel
theorem d_Model_tellElement_77 : decode prog_12_method_48_code 77 = .ok (.ifCond .le 9, 3) := by decide +kernel
theorem d_Model_tellElement_80 : decode prog_12_method_48_code 80 = .ok (.aload_n 0, 1) := by decide +kernel
theorem d_Model_tellElement_81 : decode prog_12_method_48_code 81 = .ok (.bipush 44, 2) := by decide +kernel
theorem d_Model_tellElement_83 : decode prog_12_method_48_code 83 = .ok (.invokevirtual 208, 3) := by decide +kernel
theorem d_Model_tellElement_86 : decode prog_12_method_48_code 86 = .ok (.aload_n 0, 1) := by decide +kernel
theorem d_Model_tellElement_87 : decode prog_12_method_48_code 87 = .ok (.getfield 116, 3) := by decide +kernel
theorem d_Model_tellElement_90 : decode prog_12_method_48_code 90 = .ok (.iload_n 1, 1) := by decide +kernel
theorem d_Model_tellElement_91 : decode prog_12_method_48_code 91 = .ok (.dup2, 1) := by decide +kernel
theorem d_Model_tellElement_92 : decode prog_12_method_48_code 92 = .ok (.iaload, 1) := by decide +kernel
theorem d_Model_tellElement_93 : decode prog_12_method_48_code 93 = .ok (.iconst 1, 1) := by decide +kernel
theorem d_Model_tellElement_94 : decode prog_12_method_48_code 94 = .ok (.iadd, 1) := by decide +kernel
theorem d_Model_tellElement_95 : decode prog_12_method_48_code 95 = .ok (.iastore, 1) := by decide +kernel
theorem d_Model_tellElement_96 : decode prog_12_method_48_code 96 = .ok (.aload_n 0, 1) := by decide +kernel
theorem d_Model_tellElement_97 : decode prog_12_method_48_code 97 = .ok (.getfield 113, 3) := by decide +kernel
theorem d_Model_tellElement_100 : decode prog_12_method_48_code 100 = .ok (.iload_n 1, 1) := by decide +kernel
theorem d_Model_tellElement_101 : decode prog_12_method_48_code 101 = .ok (.dup2, 1) := by decide +kernel
theorem d_Model_tellElement_102 : decode prog_12_method_48_code 102 = .ok (.iaload, 1) := by decide +kernel
theorem d_Model_tellElement_103 : decode prog_12_method_48_code 103 = .ok (.iconst 1, 1) := by decide +kernel
theorem d_Model_tellElement_104 : decode prog_12_method_48_code 104 = .ok (.isub, 1) := by decide +kernel
theorem d_Model_tellElement_105 : decode prog_12_method_48_code 105 = .ok (.iastore, 1) := by decide +kernel
theorem d_Model_tellElement_106 : decode prog_12_method_48_code 106 = .ok (.aload_n 0, 1) := by decide +kernel
theorem d_Model_tellElement_107 : decode prog_12_method_48_code 107 = .ok (.getfield 110, 3) := by decide +kernel
theorem d_Model_tellElement_110 : decode prog_12_method_48_code 110 = .ok (.iload_n 1, 1) := by decide +kernel
theorem d_Model_tellElement_111 : decode prog_12_method_48_code 111 = .ok (.iaload, 1) := by decide +kernel
theorem d_Model_tellElement_112 : decode prog_12_method_48_code 112 = .ok (.istore_n 2, 1) := by decide +kernel
theorem d_Model_tellElement_113 : decode prog_12_method_48_code 113 = .ok (.aload_n 0, 1) := by decide +kernel
theorem d_Model_tellElement_114 : decode prog_12_method_48_code 114 = .ok (.getfield 110, 3) := by decide +kernel
theorem d_Model_tellElement_117 : decode prog_12_method_48_code 117 = .ok (.iload_n 1, 1) := by decide +kernel
theorem d_Model_tellElement_118 : decode prog_12_method_48_code 118 = .ok (.aload_n 0, 1) := by decide +kernel
theorem d_Model_tellElement_119 : decode prog_12_method_48_code 119 = .ok (.aload_n 0, 1) := by decide +kernel
theorem d_Model_tellElement_120 : decode prog_12_method_48_code 120 = .ok (.getfield 51, 3) := by decide +kernel
theorem d_Model_tellElement_123 : decode prog_12_method_48_code 123 = .ok (.aload_n 0, 1) := by decide +kernel
theorem d_Model_tellElement_124 : decode prog_12_method_48_code 124 = .ok (.getfield 107, 3) := by decide +kernel
theorem d_Model_tellElement_127 : decode prog_12_method_48_code 127 = .ok (.iload_n 1, 1) := by decide +kernel
theorem d_Model_tellElement_128 : decode prog_12_method_48_code 128 = .ok (.iaload, 1) := by decide +kernel
theorem d_Model_tellElement_129 : decode prog_12_method_48_code 129 = .ok (.iaload, 1) := by decide +kernel
theorem d_Model_tellElement_130 : decode prog_12_method_48_code 130 = .ok (.iload_n 2, 1) := by decide +kernel
theorem d_Model_tellElement_131 : decode prog_12_method_48_code 131 = .ok (.invokevirtual 308, 3) := by decide +kernel
theorem d_Model_tellElement_134 : decode prog_12_method_48_code 134 = .ok (.iastore, 1) := by decide +kernel
theorem d_Model_tellElement_135 : decode prog_12_method_48_code 135 = .ok (.aload_n 0, 1) := by decide +kernel
theorem d_Model_tellElement_136 : decode prog_12_method_48_code 136 = .ok (.aload_n 0, 1) := by decide +kernel
theorem d_Model_tellElement_137 : decode prog_12_method_48_code 137 = .ok (.getfield 51, 3) := by decide +kernel
theorem d_Model_tellElement_140 : decode prog_12_method_48_code 140 = .ok (.aload_n 0, 1) := by decide +kernel
theorem d_Model_tellElement_141 : decode prog_12_method_48_code 141 = .ok (.getfield 104, 3) := by decide +kernel
theorem d_Model_tellElement_144 : decode prog_12_method_48_code 144 = .ok (.iload_n 1, 1) := by decide +kernel
theorem d_Model_tellElement_145 : decode prog_12_method_48_code 145 = .ok (.iaload, 1) := by decide +kernel
theorem d_Model_tellElement_146 : decode prog_12_method_48_code 146 = .ok (.iaload, 1) := by decide +kernel
theorem d_Model_tellElement_147 : decode prog_12_method_48_code 147 = .ok (.aload_n 0, 1) := by decide +kernel
theorem d_Model_tellElement_148 : decode prog_12_method_48_code 148 = .ok (.getfield 51, 3) := by decide +kernel
theorem d_Model_tellElement_151 : decode prog_12_method_48_code 151 = .ok (.aload_n 0, 1) := by decide +kernel
theorem d_Model_tellElement_152 : decode prog_12_method_48_code 152 = .ok (.getfield 107, 3) := by decide +kernel
theorem d_Model_tellElement_155 : decode prog_12_method_48_code 155 = .ok (.iload_n 1, 1) := by decide +kernel
theorem d_Model_tellElement_156 : decode prog_12_method_48_code 156 = .ok (.iaload, 1) := by decide +kernel
theorem d_Model_tellElement_157 : decode prog_12_method_48_code 157 = .ok (.iaload, 1) := by decide +kernel
theorem d_Model_tellElement_158 : decode prog_12_method_48_code 158 = .ok (.iload_n 2, 1) := by decide +kernel
theorem d_Model_tellElement_159 : decode prog_12_method_48_code 159 = .ok (.invokevirtual 311, 3) := by decide +kernel
theorem d_Model_tellElement_162 : decode prog_12_method_48_code 162 = .ok (.return_, 1) := by decide +kernel
def Model_tellElement_jn86 (call : ax_Cf)  (x0 : Option Nat) (x1 : Int32) (h : ax_Hp) : ax_O :=
  (ax_gr h x0 9 47).bind fun v6 =>
  (ax_ldi h v6 1 x1).bind fun v7 =>
  (ax_st h v6 1 x1 (ax_I (v7 + 1))).bind fun h8 =>
  (ax_gr h8 x0 9 46).bind fun v9 =>
  (ax_ldi h8 v9 1 x1).bind fun v10 =>
  (ax_st h8 v9 1 x1 (ax_I (v10 - 1))).bind fun h11 =>
  (ax_gr h11 x0 9 45).bind fun v12 =>
  (ax_ldi h11 v12 1 x1).bind fun v13 =>
  (ax_gr h11 x0 9 45).bind fun v14 =>
  (ax_gr h11 x0 9 18).bind fun v15 =>
  (ax_gr h11 x0 9 44).bind fun v16 =>
  (ax_ldi h11 v16 1 x1).bind fun v17 =>
  (ax_ldi h11 v15 1 v17).bind fun v18 =>
  ax_on h11 x0 9 <| ax_ci (call 194 [ax_A x0, ax_I v18, ax_I v13] h11) fun v20 h19 =>
  (ax_st h19 v14 1 x1 (ax_I v20)).bind fun h21 =>
  (ax_gr h21 x0 9 18).bind fun v22 =>
  (ax_gr h21 x0 9 43).bind fun v23 =>
  (ax_ldi h21 v23 1 x1).bind fun v24 =>
  (ax_ldi h21 v22 1 v24).bind fun v25 =>
  (ax_gr h21 x0 9 18).bind fun v26 =>
  (ax_gr h21 x0 9 44).bind fun v27 =>
  (ax_ldi h21 v27 1 x1).bind fun v28 =>
  (ax_ldi h21 v26 1 v28).bind fun v29 =>
  ax_on h21 x0 9 <| ax_cv (call 203 [ax_A x0, ax_I v25, ax_I v29, ax_I v13] h21) fun h30 =>
  ax_rv h30
set_option maxHeartbeats 4000000 in
set_option maxRecDepth 20000 in
theorem Model_tellElement_jq86 {l : Launch} {G : ax_G} {d : Nat} {call : ax_Cf} (hcall : ax_Hc l G d call) {p : Program} {e : Env} {s : State} {mi : MethodId} {args : Array Value} {below : List Frame} {meth : Method} {c : Code} {h0 : ax_Hp} (B : ax_B G p s mi meth c "SchemaDeskModel" prog_12_method_48_code 3 none) (E : c.exceptionTable.isEmpty = true) (Nm : meth.name = y_Model_tellElement.name)   (x0 : Option Nat) (x1 : Int32) (h : ax_Hp) : ax_W G p l e s mi args below meth c 3 (d + 1) h0 86 [(0, ax_A x0), (1, ax_I x1)] [] h (Model_tellElement_jn86 call  x0 x1 h) := by
  unfold Model_tellElement_jn86
  refine ax_aload_n B 0 d_Model_tellElement_86 rfl rfl ?_
  refine ax_getfr B cl_Model (by decide) fk_Model_116 d_Model_tellElement_87 (fun v6 => ?_)
  refine ax_iload_n B 1 d_Model_tellElement_90 rfl rfl ?_
  refine ax_dup2_11 B d_Model_tellElement_91 rfl rfl ?_
  refine ax_iald (kd := 1) B (by decide) rfl d_Model_tellElement_92 (fun v7 => ?_)
  refine ax_iconst (v := 1) B d_Model_tellElement_93 (by decide) ?_
  refine ax_iadd B d_Model_tellElement_94 ?_
  refine ax_iast (kd := 1) B (by decide) (by decide) rfl d_Model_tellElement_95 (fun h8 => ?_)
  refine ax_aload_n B 0 d_Model_tellElement_96 rfl rfl ?_
  refine ax_getfr B cl_Model (by decide) fk_Model_113 d_Model_tellElement_97 (fun v9 => ?_)
  refine ax_iload_n B 1 d_Model_tellElement_100 rfl rfl ?_
  refine ax_dup2_11 B d_Model_tellElement_101 rfl rfl ?_
  refine ax_iald (kd := 1) B (by decide) rfl d_Model_tellElement_102 (fun v10 => ?_)
  refine ax_iconst (v := 1) B d_Model_tellElement_103 (by decide) ?_
  refine ax_isub B d_Model_tellElement_104 ?_
  refine ax_iast (kd := 1) B (by decide) (by decide) rfl d_Model_tellElement_105 (fun h11 => ?_)
  refine ax_aload_n B 0 d_Model_tellElement_106 rfl rfl ?_
  refine ax_getfr B cl_Model (by decide) fk_Model_110 d_Model_tellElement_107 (fun v12 => ?_)
  refine ax_iload_n B 1 d_Model_tellElement_110 rfl rfl ?_
  refine ax_iald (kd := 1) B (by decide) rfl d_Model_tellElement_111 (fun v13 => ?_)
  refine ax_istore_n (tv2 := [(2, ax_I v13), (0, ax_A x0), (1, ax_I x1)]) B d_Model_tellElement_112 rfl (by decide) rfl ?_
  refine ax_aload_n B 1 d_Model_tellElement_113 rfl rfl ?_
  refine ax_getfr B cl_Model (by decide) fk_Model_110 d_Model_tellElement_114 (fun v14 => ?_)
  refine ax_iload_n B 2 d_Model_tellElement_117 rfl rfl ?_
  refine ax_aload_n B 1 d_Model_tellElement_118 rfl rfl ?_
  refine ax_aload_n B 1 d_Model_tellElement_119 rfl rfl ?_
  refine ax_getfr B cl_Model (by decide) fk_Model_51 d_Model_tellElement_120 (fun v15 => ?_)
  refine ax_aload_n B 1 d_Model_tellElement_123 rfl rfl ?_
  refine ax_getfr B cl_Model (by decide) fk_Model_107 d_Model_tellElement_124 (fun v16 => ?_)
  refine ax_iload_n B 2 d_Model_tellElement_127 rfl rfl ?_
  refine ax_iald (kd := 1) B (by decide) rfl d_Model_tellElement_128 (fun v17 => ?_)
  refine ax_iald (kd := 1) B (by decide) rfl d_Model_tellElement_129 (fun v18 => ?_)
  refine ax_iload_n B 0 d_Model_tellElement_130 rfl rfl ?_
  refine ax_callVi (av := [ax_I v18, ax_I v13]) (rest := [ax_I x1, ax_A v14]) B E hm_Model_scan cl_Model rfl wd_1258 wp_73 lk_Model_308 d_Model_tellElement_131 rfl (Nat.le_of_ble_eq_true rfl) (fun _ _ hh => hcall 194 _ _ _ _ hh) (fun v20 h19 => ?_)
  refine ax_iast (kd := 1) B (by decide) (by decide) rfl d_Model_tellElement_134 (fun h21 => ?_)
  refine ax_aload_n B 1 d_Model_tellElement_135 rfl rfl ?_
  refine ax_aload_n B 1 d_Model_tellElement_136 rfl rfl ?_
  refine ax_getfr B cl_Model (by decide) fk_Model_51 d_Model_tellElement_137 (fun v22 => ?_)
  refine ax_aload_n B 1 d_Model_tellElement_140 rfl rfl ?_
  refine ax_getfr B cl_Model (by decide) fk_Model_104 d_Model_tellElement_141 (fun v23 => ?_)
  refine ax_iload_n B 2 d_Model_tellElement_144 rfl rfl ?_
  refine ax_iald (kd := 1) B (by decide) rfl d_Model_tellElement_145 (fun v24 => ?_)
  refine ax_iald (kd := 1) B (by decide) rfl d_Model_tellElement_146 (fun v25 => ?_)
  refine ax_aload_n B 1 d_Model_tellElement_147 rfl rfl ?_
  refine ax_getfr B cl_Model (by decide) fk_Model_51 d_Model_tellElement_148 (fun v26 => ?_)
  refine ax_aload_n B 1 d_Model_tellElement_151 rfl rfl ?_
  refine ax_getfr B cl_Model (by decide) fk_Model_107 d_Model_tellElement_152 (fun v27 => ?_)
  refine ax_iload_n B 2 d_Model_tellElement_155 rfl rfl ?_
  refine ax_iald (kd := 1) B (by decide) rfl d_Model_tellElement_156 (fun v28 => ?_)
  refine ax_iald (kd := 1) B (by decide) rfl d_Model_tellElement_157 (fun v29 => ?_)
  refine ax_iload_n B 0 d_Model_tellElement_158 rfl rfl ?_
  refine ax_callVv (av := [ax_I v25, ax_I v29, ax_I v13]) (rest := []) B E hm_Model_tell cl_Model rfl wd_1294 wp_82 lk_Model_311 d_Model_tellElement_159 rfl (Nat.le_of_ble_eq_true rfl) (fun _ _ hh => hcall 203 _ _ _ _ hh) (fun h30 => ?_)
  exact ax_vreturn B d_Model_tellElement_162
def Model_tellElement_jn71 (call : ax_Cf)  (x0 : Option Nat) (x1 : Int32) (h : ax_Hp) : ax_O :=
  (ax_gr h x0 9 47).bind fun v4 =>
  (ax_ldi h v4 1 x1).bind fun v5 =>
  if v5 ≤ 0 then
    Model_tellElement_jn86 call x0 x1 h
  else
    ax_on h x0 9 <| ax_cv (call 160 [ax_A x0, ax_I 44] h) fun h32 =>
    Model_tellElement_jn86 call x0 x1 h32
set_option maxHeartbeats 4000000 in
set_option maxRecDepth 20000 in
theorem Model_tellElement_jq71 {l : Launch} {G : ax_G} {d : Nat} {call : ax_Cf} (hcall : ax_Hc l G d call) {p : Program} {e : Env} {s : State} {mi : MethodId} {args : Array Value} {below : List Frame} {meth : Method} {c : Code} {h0 : ax_Hp} (B : ax_B G p s mi meth c "SchemaDeskModel" prog_12_method_48_code 3 none) (E : c.exceptionTable.isEmpty = true) (Nm : meth.name = y_Model_tellElement.name)   (x0 : Option Nat) (x1 : Int32) (h : ax_Hp) : ax_W G p l e s mi args below meth c 3 (d + 1) h0 71 [(0, ax_A x0), (1, ax_I x1)] [] h (Model_tellElement_jn71 call  x0 x1 h) := by
  unfold Model_tellElement_jn71
  refine ax_aload_n B 0 d_Model_tellElement_71 rfl rfl ?_
  refine ax_getfr B cl_Model (by decide) fk_Model_116 d_Model_tellElement_72 (fun v4 => ?_)
  refine ax_iload_n B 1 d_Model_tellElement_75 rfl rfl ?_
  refine ax_iald (kd := 1) B (by decide) rfl d_Model_tellElement_76 (fun v5 => ?_)
  refine ax_if_le B 86 d_Model_tellElement_77 (by decide) ?_ ?_
  · refine ax_sub (tv2 := [(0, ax_A x0), (1, ax_I x1)]) [0, 1] rfl ?_
    exact Model_tellElement_jq86 hcall B E Nm x0 x1 h
  · refine ax_aload_n B 0 d_Model_tellElement_80 rfl rfl ?_
    refine ax_bipush (v := 44) B d_Model_tellElement_81 (by decide) ?_
    refine ax_callVv (av := [ax_I 44]) (rest := []) B E hm_Model_say cl_Model rfl wd_1116 wp_46 lk_Model_208 d_Model_tellElement_83 rfl (Nat.le_of_ble_eq_true rfl) (fun _ _ hh => hcall 160 _ _ _ _ hh) (fun h32 => ?_)
    refine ax_sub (tv2 := [(0, ax_A x0), (1, ax_I x1)]) [0, 1] rfl ?_
    exact Model_tellElement_jq86 hcall B E Nm x0 x1 h32
def Model_tellElement_b (call : ax_Cf) (x0 : Option Nat) (h : ax_Hp) : ax_O :=
  (ax_gi h x0 9 48).bind fun v1 =>
  (ax_gr h x0 9 46).bind fun v2 =>
  (ax_ldi h v2 1 (v1 - 1)).bind fun v3 =>
  if v3 = 0 then
    (ax_gr h x0 9 45).bind fun v34 =>
    (ax_gr h x0 9 45).bind fun v35 =>
    (ax_ldi h v35 1 (v1 - 1)).bind fun v36 =>
    ax_on h x0 9 <| ax_ci (call 196 [ax_A x0, ax_I v36, ax_I 21] h) fun v38 h37 =>
    (ax_st h37 v34 1 (v1 - 1) (ax_I v38)).bind fun h39 =>
    (ax_gr h39 x0 9 46).bind fun v40 =>
    (ax_gl h39 x0 9 37).bind fun v41 =>
    (ax_st h39 v40 1 (v1 - 1) (ax_I (v41.toInt32))).bind fun h42 =>
    (ax_gr h42 x0 9 46).bind fun v43 =>
    (ax_ldi h42 v43 1 (v1 - 1)).bind fun v44 =>
    if v44 = 0 then
      ax_on h42 x0 9 <| ax_cv (call 160 [ax_A x0, ax_I 93] h42) fun h45 =>
      (ax_gi h45 x0 9 48).bind fun v47 =>
      (ax_pf h45 x0 9 48 (ax_I (v47 - 1))).bind fun h48 =>
      ax_rv h48
    else
      Model_tellElement_jn71 call x0 (v1 - 1) h42
  else
    Model_tellElement_jn71 call x0 (v1 - 1) h
set_option maxHeartbeats 4000000 in
set_option maxRecDepth 20000 in
theorem Model_tellElement_t {l : Launch} {G : ax_G} {d : Nat} {call : ax_Cf} (hcall : ax_Hc l G d call) (x0 : Option Nat) (h : ax_Hp) {r : ax_Rs} {h' : ax_Hp} (ho : Model_tellElement_b call x0 h = some (r, h')) : ax_C l G (d + 1) y_Model_tellElement (.code y_Model_tellElement prog_12_method_48_code 3 none) [ax_A x0] h r h' := by
  refine ax_enter (by decide) (Nat.le_of_ble_eq_true rfl) ho (fun p e s mi args below meth c B E Nm => ?_)
  have B : ax_B G p s mi meth c "SchemaDeskModel" prog_12_method_48_code 3 none := B
  show ax_W G p l e s mi args below meth c 3 (d + 1) h 0 [(0, ax_A x0)] [] h (Model_tellElement_b call x0 h)
  unfold Model_tellElement_b
  refine ax_aload_n B 0 d_Model_tellElement_0 rfl rfl ?_
  refine ax_getfi B cl_Model (by decide) fk_Model_305 d_Model_tellElement_1 (fun v1 => ?_)
  refine ax_iconst (v := 1) B d_Model_tellElement_4 (by decide) ?_
  refine ax_isub B d_Model_tellElement_5 ?_
  refine ax_istore_n (tv2 := [(1, ax_I (v1 - 1)), (0, ax_A x0)]) B d_Model_tellElement_6 rfl (by decide) rfl ?_
  refine ax_aload_n B 1 d_Model_tellElement_7 rfl rfl ?_
  refine ax_getfr B cl_Model (by decide) fk_Model_113 d_Model_tellElement_8 (fun v2 => ?_)
  refine ax_iload_n B 0 d_Model_tellElement_11 rfl rfl ?_
  refine ax_iald (kd := 1) B (by decide) rfl d_Model_tellElement_12 (fun v3 => ?_)
  refine ax_if_ne B 71 d_Model_tellElement_13 (by decide) ?_ ?_
  · refine ax_sub (tv2 := [(0, ax_A x0), (1, ax_I (v1 - 1))]) [1, 0] rfl ?_
    exact Model_tellElement_jq71 hcall B E Nm x0 (v1 - 1) h
  · refine ax_aload_n B 1 d_Model_tellElement_16 rfl rfl ?_
    refine ax_getfr B cl_Model (by decide) fk_Model_110 d_Model_tellElement_17 (fun v34 => ?_)
    refine ax_iload_n B 0 d_Model_tellElement_20 rfl rfl ?_
    refine ax_aload_n B 1 d_Model_tellElement_21 rfl rfl ?_
    refine ax_aload_n B 1 d_Model_tellElement_22 rfl rfl ?_
    refine ax_getfr B cl_Model (by decide) fk_Model_110 d_Model_tellElement_23 (fun v35 => ?_)
    refine ax_iload_n B 0 d_Model_tellElement_26 rfl rfl ?_
    refine ax_iald (kd := 1) B (by decide) rfl d_Model_tellElement_27 (fun v36 => ?_)
    refine ax_bipush (v := 21) B d_Model_tellElement_28 (by decide) ?_
    refine ax_callVi (av := [ax_I v36, ax_I 21]) (rest := [ax_I (v1 - 1), ax_A v34]) B E hm_Model_takeHalf cl_Model rfl wd_1266 wp_75 lk_Model_262 d_Model_tellElement_30 rfl (Nat.le_of_ble_eq_true rfl) (fun _ _ hh => hcall 196 _ _ _ _ hh) (fun v38 h37 => ?_)
    refine ax_iast (kd := 1) B (by decide) (by decide) rfl d_Model_tellElement_33 (fun h39 => ?_)
    refine ax_aload_n B 1 d_Model_tellElement_34 rfl rfl ?_
    refine ax_getfr B cl_Model (by decide) fk_Model_113 d_Model_tellElement_35 (fun v40 => ?_)
    refine ax_iload_n B 0 d_Model_tellElement_38 rfl rfl ?_
    refine ax_aload_n B 1 d_Model_tellElement_39 rfl rfl ?_
    refine ax_getfl B cl_Model (by decide) fk_Model_204 d_Model_tellElement_40 (fun v41 => ?_)
    refine ax_l2i B d_Model_tellElement_43 ?_
    refine ax_iast (kd := 1) B (by decide) (by decide) rfl d_Model_tellElement_44 (fun h42 => ?_)
    refine ax_aload_n B 1 d_Model_tellElement_45 rfl rfl ?_
    refine ax_getfr B cl_Model (by decide) fk_Model_113 d_Model_tellElement_46 (fun v43 => ?_)
    refine ax_iload_n B 0 d_Model_tellElement_49 rfl rfl ?_
    refine ax_iald (kd := 1) B (by decide) rfl d_Model_tellElement_50 (fun v44 => ?_)
    refine ax_if_ne B 71 d_Model_tellElement_51 (by decide) ?_ ?_
    · refine ax_sub (tv2 := [(0, ax_A x0), (1, ax_I (v1 - 1))]) [1, 0] rfl ?_
      exact Model_tellElement_jq71 hcall B E Nm x0 (v1 - 1) h42
    · refine ax_aload_n B 1 d_Model_tellElement_54 rfl rfl ?_
      refine ax_bipush (v := 93) B d_Model_tellElement_55 (by decide) ?_
      refine ax_callVv (av := [ax_I 93]) (rest := []) B E hm_Model_say cl_Model rfl wd_1116 wp_46 lk_Model_208 d_Model_tellElement_57 rfl (Nat.le_of_ble_eq_true rfl) (fun _ _ hh => hcall 160 _ _ _ _ hh) (fun h45 => ?_)
      refine ax_aload_n B 1 d_Model_tellElement_60 rfl rfl ?_
      refine ax_dup B d_Model_tellElement_61 rfl ?_
      refine ax_getfi B cl_Model (by decide) fk_Model_305 d_Model_tellElement_62 (fun v47 => ?_)
      refine ax_iconst (v := 1) B d_Model_tellElement_65 (by decide) ?_
      refine ax_isub B d_Model_tellElement_66 ?_
      refine ax_putf (v := ax_I (v47 - 1)) B cl_Model (by decide) fk_Model_305 (Or.inl rfl) (fun _ => rfl) (fun _ => rfl) d_Model_tellElement_67 (fun h48 => ?_)
      exact ax_vreturn B d_Model_tellElement_70

theorem d_Model_tellField_0 : decode prog_12_method_49_code 0 = .ok (.aload_n 0, 1) := by decide +kernel
theorem d_Model_tellField_1 : decode prog_12_method_49_code 1 = .ok (.getfield 305, 3) := by decide +kernel
theorem d_Model_tellField_4 : decode prog_12_method_49_code 4 = .ok (.iconst 1, 1) := by decide +kernel
theorem d_Model_tellField_5 : decode prog_12_method_49_code 5 = .ok (.isub, 1) := by decide +kernel
theorem d_Model_tellField_6 : decode prog_12_method_49_code 6 = .ok (.istore_n 1, 1) := by decide +kernel
theorem d_Model_tellField_7 : decode prog_12_method_49_code 7 = .ok (.aload_n 0, 1) := by decide +kernel
theorem d_Model_tellField_8 : decode prog_12_method_49_code 8 = .ok (.getfield 104, 3) := by decide +kernel
theorem d_Model_tellField_11 : decode prog_12_method_49_code 11 = .ok (.iload_n 1, 1) := by decide +kernel
theorem d_Model_tellField_12 : decode prog_12_method_49_code 12 = .ok (.iaload, 1) := by decide +kernel
theorem d_Model_tellField_13 : decode prog_12_method_49_code 13 = .ok (.istore_n 2, 1) := by decide +kernel
theorem d_Model_tellField_14 : decode prog_12_method_49_code 14 = .ok (.iload_n 2, 1) := by decide +kernel
theorem d_Model_tellField_15 : decode prog_12_method_49_code 15 = .ok (.ifCond .ge 20, 3) := by decide +kernel
theorem d_Model_tellField_18 : decode prog_12_method_49_code 18 = .ok (.aload_n 0, 1) := by decide +kernel
theorem d_Model_tellField_19 : decode prog_12_method_49_code 19 = .ok (.bipush 125, 2) := by decide +kernel
theorem d_Model_tellField_21 : decode prog_12_method_49_code 21 = .ok (.invokevirtual 208, 3) := by decide +kernel
theorem d_Model_tellField_24 : decode prog_12_method_49_code 24 = .ok (.aload_n 0, 1) := by decide +kernel
theorem d_Model_tellField_25 : decode prog_12_method_49_code 25 = .ok (.dup, 1) := by decide +kernel
theorem d_Model_tellField_26 : decode prog_12_method_49_code 26 = .ok (.getfield 305, 3) := by decide +kernel
theorem d_Model_tellField_29 : decode prog_12_method_49_code 29 = .ok (.iconst 1, 1) := by decide +kernel
theorem d_Model_tellField_30 : decode prog_12_method_49_code 30 = .ok (.isub, 1) := by decide +kernel
theorem d_Model_tellField_31 : decode prog_12_method_49_code 31 = .ok (.putfield 305, 3) := by decide +kernel
theorem d_Model_tellField_34 : decode prog_12_method_49_code 34 = .ok (.return_, 1) := by decide +kernel
theorem d_Model_tellField_35 : decode prog_12_method_49_code 35 = .ok (.aload_n 0, 1) := by decide +kernel
theorem d_Model_tellField_36 : decode prog_12_method_49_code 36 = .ok (.getfield 116, 3) := by decide +kernel
theorem d_Model_tellField_39 : decode prog_12_method_49_code 39 = .ok (.iload_n 1, 1) := by decide +kernel
theorem d_Model_tellField_40 : decode prog_12_method_49_code 40 = .ok (.iaload, 1) := by decide +kernel
theorem d_Model_tellField_41 : decode prog_12_method_49_code 41 = .ok (.ifCond .le 9, 3) := by decide +kernel
theorem d_Model_tellField_44 : decode prog_12_method_49_code 44 = .ok (.aload_n 0, 1) := by decide +kernel
theorem d_Model_tellField_45 : decode prog_12_method_49_code 45 = .ok (.bipush 44, 2) := by decide +kernel
theorem d_Model_tellField_47 : decode prog_12_method_49_code 47 = .ok (.invokevirtual 208, 3) := by decide +kernel
theorem d_Model_tellField_50 : decode prog_12_method_49_code 50 = .ok (.aload_n 0, 1) := by decide +kernel
theorem d_Model_tellField_51 : decode prog_12_method_49_code 51 = .ok (.getfield 116, 3) := by decide +kernel
theorem d_Model_tellField_54 : decode prog_12_method_49_code 54 = .ok (.iload_n 1, 1) := by decide +kernel
theorem d_Model_tellField_55 : decode prog_12_method_49_code 55 = .ok (.dup2, 1) := by decide +kernel
theorem d_Model_tellField_56 : decode prog_12_method_49_code 56 = .ok (.iaload, 1) := by decide +kernel
theorem d_Model_tellField_57 : decode prog_12_method_49_code 57 = .ok (.iconst 1, 1) := by decide +kernel
theorem d_Model_tellField_58 : decode prog_12_method_49_code 58 = .ok (.iadd, 1) := by decide +kernel
theorem d_Model_tellField_59 : decode prog_12_method_49_code 59 = .ok (.iastore, 1) := by decide +kernel
theorem d_Model_tellField_60 : decode prog_12_method_49_code 60 = .ok (.aload_n 0, 1) := by decide +kernel
theorem d_Model_tellField_61 : decode prog_12_method_49_code 61 = .ok (.getfield 104, 3) := by decide +kernel
theorem d_Model_tellField_64 : decode prog_12_method_49_code 64 = .ok (.iload_n 1, 1) := by decide +kernel
theorem d_Model_tellField_65 : decode prog_12_method_49_code 65 = .ok (.aload_n 0, 1) := by decide +kernel
theorem d_Model_tellField_66 : decode prog_12_method_49_code 66 = .ok (.getfield 54, 3) := by decide +kernel
theorem d_Model_tellField_69 : decode prog_12_method_49_code 69 = .ok (.iload_n 2, 1) := by decide +kernel
theorem d_Model_tellField_70 : decode prog_12_method_49_code 70 = .ok (.iaload, 1) := by decide +kernel
theorem d_Model_tellField_71 : decode prog_12_method_49_code 71 = .ok (.iastore, 1) := by decide +kernel
theorem d_Model_tellField_72 : decode prog_12_method_49_code 72 = .ok (.aload_n 0, 1) := by decide +kernel
theorem d_Model_tellField_73 : decode prog_12_method_49_code 73 = .ok (.aload_n 0, 1) := by decide +kernel
theorem d_Model_tellField_74 : decode prog_12_method_49_code 74 = .ok (.getfield 107, 3) := by decide +kernel
theorem d_Model_tellField_77 : decode prog_12_method_49_code 77 = .ok (.iload_n 1, 1) := by decide +kernel
theorem d_Model_tellField_78 : decode prog_12_method_49_code 78 = .ok (.iaload, 1) := by decide +kernel
theorem d_Model_tellField_79 : decode prog_12_method_49_code 79 = .ok (.aload_n 0, 1) := by decide +kernel
theorem d_Model_tellField_80 : decode prog_12_method_49_code 80 = .ok (.getfield 60, 3) := by decide +kernel
theorem d_Model_tellField_83 : decode prog_12_method_49_code 83 = .ok (.iload_n 2, 1) := by decide +kernel
theorem d_Model_tellField_84 : decode prog_12_method_49_code 84 = .ok (.caload, 1) := by decide +kernel
theorem d_Model_tellField_85 : decode prog_12_method_49_code 85 = .ok (.invokevirtual 284, 3) := by decide +kernel
theorem d_Model_tellField_88 : decode prog_12_method_49_code 88 = .ok (.istore_n 3, 1) := by decide +kernel
theorem d_Model_tellField_89 : decode prog_12_method_49_code 89 = .ok (.iload_n 3, 1) := by decide +kernel
theorem d_Model_tellField_90 : decode prog_12_method_49_code 90 = .ok (.ifCond .ge 48, 3) := by decide +kernel
theorem d_Model_tellField_93 : decode prog_12_method_49_code 93 = .ok (.aload_n 0, 1) := by decide +kernel
theorem d_Model_tellField_94 : decode prog_12_method_49_code 94 = .ok (.aload_n 0, 1) := by decide +kernel
theorem d_Model_tellField_95 : decode prog_12_method_49_code 95 = .ok (.getfield 69, 3) := by decide +kernel
theorem d_Model_tellField_98 : decode prog_12_method_49_code 98 = .ok (.iload_n 2, 1) := by decide +kernel
theorem d_Model_tellField_99 : decode prog_12_method_49_code 99 = .ok (.iaload, 1) := by decide +kernel
theorem d_Model_tellField_100 : decode prog_12_method_49_code 100 = .ok (.ifCond .ge 7, 3) := by decide +kernel
theorem d_Model_tellField_103 : decode prog_12_method_49_code 103 = .ok (.iconst 1, 1) := by decide +kernel
theorem d_Model_tellField_104 : decode prog_12_method_49_code 104 = .ok (.goto 4, 3) := by decide +kernel
theorem d_Model_tellField_107 : decode prog_12_method_49_code 107 = .ok (.iconst 0, 1) := by decide +kernel
theorem d_Model_tellField_108 : decode prog_12_method_49_code 108 = .ok (.putfield 298, 3) := by decide +kernel
theorem d_Model_tellField_111 : decode prog_12_method_49_code 111 = .ok (.aload_n 0, 1) := by decide +kernel
theorem d_Model_tellField_112 : decode prog_12_method_49_code 112 = .ok (.getfield 298, 3) := by decide +kernel
theorem d_Model_tellField_115 : decode prog_12_method_49_code 115 = .ok (.ifCond .ne 22, 3) := by decide +kernel
theorem d_Model_tellField_118 : decode prog_12_method_49_code 118 = .ok (.aload_n 0, 1) := by decide +kernel
theorem d_Model_tellField_119 : decode prog_12_method_49_code 119 = .ok (.iconst 2, 1) := by decide +kernel
theorem d_Model_tellField_120 : decode prog_12_method_49_code 120 = .ok (.putfield 170, 3) := by decide +kernel
theorem d_Model_tellField_123 : decode prog_12_method_49_code 123 = .ok (.aload_n 0, 1) := by decide +kernel
theorem d_Model_tellField_124 : decode prog_12_method_49_code 124 = .ok (.iconst 0, 1) := by decide +kernel
theorem d_Model_tellField_125 : decode prog_12_method_49_code 125 = .ok (.iload_n 2, 1) := by decide +kernel
theorem d_Model_tellField_126 : decode prog_12_method_49_code 126 = .ok (.aload_n 0, 1) := by decide +kernel
theorem d_Model_tellField_127 : decode prog_12_method_49_code 127 = .ok (.getfield 69, 3) := by decide +kernel
theorem d_Model_tellField_130 : decode prog_12_method_49_code 130 = .ok (.iload_n 2, 1) := by decide +kernel
theorem d_Model_tellField_131 : decode prog_12_method_49_code 131 = .ok (.iaload, 1) := by decide +kernel
theorem d_Model_tellField_132 : decode prog_12_method_49_code 132 = .ok (.iconst 0, 1) := by decide +kernel
theorem d_Model_tellField_133 : decode prog_12_method_49_code 133 = .ok (.invokevirtual 166, 3) := by decide +kernel
theorem d_Model_tellField_136 : decode prog_12_method_49_code 136 = .ok (.pop, 1) := by decide +kernel
theorem d_Model_tellField_137 : decode prog_12_method_49_code 137 = .ok (.return_, 1) := by decide +kernel
theorem d_Model_tellField_138 : decode prog_12_method_49_code 138 = .ok (.aload_n 0, 1) := by decide +kernel
theorem d_Model_tellField_139 : decode prog_12_method_49_code 139 = .ok (.getfield 110, 3) := by decide +kernel
theorem d_Model_tellField_142 : decode prog_12_method_49_code 142 = .ok (.iload_n 1, 1) := by decide +kernel
theorem d_Model_tellField_143 : decode prog_12_method_49_code 143 = .ok (.iaload, 1) := by decide +kernel
theorem d_Model_tellField_144 : decode prog_12_method_49_code 144 = .ok (.istore 4, 2) := by decide +kernel
theorem d_Model_tellField_146 : decode prog_12_method_49_code 146 = .ok (.aload_n 0, 1) := by decide +kernel
theorem d_Model_tellField_147 : decode prog_12_method_49_code 147 = .ok (.getfield 51, 3) := by decide +kernel
theorem d_Model_tellField_150 : decode prog_12_method_49_code 150 = .ok (.aload_n 0, 1) := by decide +kernel
theorem d_Model_tellField_151 : decode prog_12_method_49_code 151 = .ok (.getfield 107, 3) := by decide +kernel
theorem d_Model_tellField_154 : decode prog_12_method_49_code 154 = .ok (.iload_n 1, 1) := by decide +kernel
theorem d_Model_tellField_155 : decode prog_12_method_49_code 155 = .ok (.iaload, 1) := by decide +kernel
theorem d_Model_tellField_156 : decode prog_12_method_49_code 156 = .ok (.iaload, 1) := by decide +kernel
theorem d_Model_tellField_157 : decode prog_12_method_49_code 157 = .ok (.istore 5, 2) := by decide +kernel
theorem d_Model_tellField_159 : decode prog_12_method_49_code 159 = .ok (.iload 5, 2) := by decide +kernel
theorem d_Model_tellField_161 : decode prog_12_method_49_code 161 = .ok (.iload_n 3, 1) := by decide +kernel
theorem d_Model_tellField_162 : decode prog_12_method_49_code 162 = .ok (.if_icmp .eq 25, 3) := by decide +kernel
theorem d_Model_tellField_165 : decode prog_12_method_49_code 165 = .ok (.aload_n 0, 1) := by decide +kernel
theorem d_Model_tellField_166 : decode prog_12_method_49_code 166 = .ok (.iload 5, 2) := by decide +kernel
theorem d_Model_tellField_168 : decode prog_12_method_49_code 168 = .ok (.iload 4, 2) := by decide +kernel
theorem d_Model_tellField_170 : decode prog_12_method_49_code 170 = .ok (.invokevirtual 308, 3) := by decide +kernel
theorem d_Model_tellField_173 : decode prog_12_method_49_code 173 = .ok (.istore 4, 2) := by decide +kernel
theorem d_Model_tellField_175 : decode prog_12_method_49_code 175 = .ok (.aload_n 0, 1) := by decide +kernel
theorem d_Model_tellField_176 : decode prog_12_method_49_code 176 = .ok (.getfield 54, 3) := by decide +kernel
theorem d_Model_tellField_179 : decode prog_12_method_49_code 179 = .ok (.iload 5, 2) := by decide +kernel
theorem d_Model_tellField_181 : decode prog_12_method_49_code 181 = .ok (.iaload, 1) := by decide +kernel
theorem d_Model_tellField_182 : decode prog_12_method_49_code 182 = .ok (.istore 5, 2) := by decide +kernel
theorem d_Model_tellField_184 : decode prog_12_method_49_code 184 = .ok (.goto (-25), 3) := by decide +kernel
theorem d_Model_tellField_187 : decode prog_12_method_49_code 187 = .ok (.aload_n 0, 1) := by decide +kernel
theorem d_Model_tellField_188 : decode prog_12_method_49_code 188 = .ok (.iload_n 2, 1) := by decide +kernel
theorem d_Model_tellField_189 : decode prog_12_method_49_code 189 = .ok (.iload_n 3, 1) := by decide +kernel
theorem d_Model_tellField_190 : decode prog_12_method_49_code 190 = .ok (.iload 4, 2) := by decide +kernel
theorem d_Model_tellField_192 : decode prog_12_method_49_code 192 = .ok (.invokevirtual 311, 3) := by decide +kernel
theorem d_Model_tellField_195 : decode prog_12_method_49_code 195 = .ok (.return_, 1) := by decide +kernel
def Model_tellField_bd159 (call : ax_Cf)  (k159 : Option Nat → Int32 → Int32 → Int32 → Int32 → ax_Hp → ax_O) (x0 : Option Nat) (x2 : Int32) (x3 : Int32) (x4 : Int32) (x5 : Int32) (h : ax_Hp) : ax_O :=
  if x5 = x3 then
    ax_on h x0 9 <| ax_cv (call 203 [ax_A x0, ax_I x2, ax_I x3, ax_I x4] h) fun h25 =>
    ax_rv h25
  else
    ax_on h x0 9 <| ax_ci (call 194 [ax_A x0, ax_I x5, ax_I x4] h) fun v28 h27 =>
    (ax_gr h27 x0 9 19).bind fun v29 =>
    (ax_ldi h27 v29 1 x5).bind fun v30 =>
    k159 x0 x2 x3 v28 v30 h27
def Model_tellField_lp159 (call : ax_Cf)  : Nat → Option Nat → Int32 → Int32 → Int32 → Int32 → ax_Hp → ax_O
  | 0 => fun _ _ _ _ _ _ => none
  | n + 1 => Model_tellField_bd159 call  (Model_tellField_lp159 call  n)
set_option maxHeartbeats 4000000 in
set_option maxRecDepth 20000 in
theorem Model_tellField_lb159 {l : Launch} {G : ax_G} {d : Nat} {call : ax_Cf} (hcall : ax_Hc l G d call) {p : Program} {e : Env} {s : State} {mi : MethodId} {args : Array Value} {below : List Frame} {meth : Method} {c : Code} {h0 : ax_Hp} (B : ax_B G p s mi meth c "SchemaDeskModel" prog_12_method_49_code 6 none) (E : c.exceptionTable.isEmpty = true) (Nm : meth.name = y_Model_tellField.name)   {k159 : Option Nat → Int32 → Int32 → Int32 → Int32 → ax_Hp → ax_O} (hk159 : ∀ (x0 : Option Nat) (x2 : Int32) (x3 : Int32) (x4 : Int32) (x5 : Int32) (h : ax_Hp), ax_W G p l e s mi args below meth c 6 (d + 1) h0 159 [(0, ax_A x0), (2, ax_I x2), (3, ax_I x3), (4, ax_I x4), (5, ax_I x5)] [] h (k159 x0 x2 x3 x4 x5 h)) (x0 : Option Nat) (x2 : Int32) (x3 : Int32) (x4 : Int32) (x5 : Int32) (h : ax_Hp) : ax_W G p l e s mi args below meth c 6 (d + 1) h0 159 [(0, ax_A x0), (2, ax_I x2), (3, ax_I x3), (4, ax_I x4), (5, ax_I x5)] [] h (Model_tellField_bd159 call  k159 x0 x2 x3 x4 x5 h) := by
  unfold Model_tellField_bd159
  refine ax_iload B 4 d_Model_tellField_159 rfl ?_
  refine ax_iload_n B 2 d_Model_tellField_161 rfl rfl ?_
  refine ax_icmp_eq B 187 d_Model_tellField_162 (by decide) ?_ ?_
  · refine ax_aload_n B 0 d_Model_tellField_187 rfl rfl ?_
    refine ax_iload_n B 1 d_Model_tellField_188 rfl rfl ?_
    refine ax_iload_n B 2 d_Model_tellField_189 rfl rfl ?_
    refine ax_iload B 3 d_Model_tellField_190 rfl ?_
    refine ax_callVv (av := [ax_I x2, ax_I x3, ax_I x4]) (rest := []) B E hm_Model_tell cl_Model rfl wd_1294 wp_82 lk_Model_311 d_Model_tellField_192 rfl (Nat.le_of_ble_eq_true rfl) (fun _ _ hh => hcall 203 _ _ _ _ hh) (fun h25 => ?_)
    exact ax_vreturn B d_Model_tellField_195
  · refine ax_aload_n B 0 d_Model_tellField_165 rfl rfl ?_
    refine ax_iload B 4 d_Model_tellField_166 rfl ?_
    refine ax_iload B 3 d_Model_tellField_168 rfl ?_
    refine ax_callVi (av := [ax_I x5, ax_I x4]) (rest := []) B E hm_Model_scan cl_Model rfl wd_1258 wp_73 lk_Model_308 d_Model_tellField_170 rfl (Nat.le_of_ble_eq_true rfl) (fun _ _ hh => hcall 194 _ _ _ _ hh) (fun v28 h27 => ?_)
    refine ax_istore (tv2 := [(4, ax_I v28), (0, ax_A x0), (2, ax_I x2), (3, ax_I x3), (5, ax_I x5)]) B d_Model_tellField_173 (by decide) rfl ?_
    refine ax_aload_n B 1 d_Model_tellField_175 rfl rfl ?_
    refine ax_getfr B cl_Model (by decide) fk_Model_54 d_Model_tellField_176 (fun v29 => ?_)
    refine ax_iload B 4 d_Model_tellField_179 rfl ?_
    refine ax_iald (kd := 1) B (by decide) rfl d_Model_tellField_181 (fun v30 => ?_)
    refine ax_istore (tv2 := [(5, ax_I v30), (4, ax_I v28), (0, ax_A x0), (2, ax_I x2), (3, ax_I x3)]) B d_Model_tellField_182 (by decide) rfl ?_
    refine ax_goto B 159 d_Model_tellField_184 (by decide) ?_
    refine ax_sub (tv2 := [(0, ax_A x0), (2, ax_I x2), (3, ax_I x3), (4, ax_I v28), (5, ax_I v30)]) [2, 3, 4, 1, 0] rfl ?_
    exact hk159 x0 x2 x3 v28 v30 h27
theorem Model_tellField_lq159 {l : Launch} {G : ax_G} {d : Nat} {call : ax_Cf} (hcall : ax_Hc l G d call) {p : Program} {e : Env} {s : State} {mi : MethodId} {args : Array Value} {below : List Frame} {meth : Method} {c : Code} {h0 : ax_Hp} (B : ax_B G p s mi meth c "SchemaDeskModel" prog_12_method_49_code 6 none) (E : c.exceptionTable.isEmpty = true) (Nm : meth.name = y_Model_tellField.name)   : ∀ (n : Nat) (x0 : Option Nat) (x2 : Int32) (x3 : Int32) (x4 : Int32) (x5 : Int32) (h : ax_Hp), ax_W G p l e s mi args below meth c 6 (d + 1) h0 159 [(0, ax_A x0), (2, ax_I x2), (3, ax_I x3), (4, ax_I x4), (5, ax_I x5)] [] h (Model_tellField_lp159 call  n x0 x2 x3 x4 x5 h)
  | 0, _, _, _, _, _, _ => ax_none
  | n + 1, x0, x2, x3, x4, x5, h => Model_tellField_lb159 hcall B E Nm   (Model_tellField_lq159 hcall B E Nm   n) x0 x2 x3 x4 x5 h
def Model_tellField_jn108 (call : ax_Cf)  (x0 : Option Nat) (x2 : Int32) (s0 : Int32) (s1 : Option Nat) (h : ax_Hp) : ax_O :=
  (ax_pz h s1 9 49 s0).bind fun h33 =>
  (ax_gi h33 x0 9 49).bind fun v34 =>
  if v34 = 0 then
    (ax_pf h33 x0 9 39 (ax_I 2)).bind fun h35 =>
    (ax_gr h35 x0 9 24).bind fun v36 =>
    (ax_ldi h35 v36 1 x2).bind fun v37 =>
    ax_on h35 x0 9 <| ax_ci (call 156 [ax_A x0, ax_I 0, ax_I x2, ax_I v37, ax_I 0] h35) fun v39 h38 =>
    ax_rv h38
  else
    ax_rv h33
set_option maxHeartbeats 4000000 in
set_option maxRecDepth 20000 in
theorem Model_tellField_jq108 {l : Launch} {G : ax_G} {d : Nat} {call : ax_Cf} (hcall : ax_Hc l G d call) {p : Program} {e : Env} {s : State} {mi : MethodId} {args : Array Value} {below : List Frame} {meth : Method} {c : Code} {h0 : ax_Hp} (B : ax_B G p s mi meth c "SchemaDeskModel" prog_12_method_49_code 6 none) (E : c.exceptionTable.isEmpty = true) (Nm : meth.name = y_Model_tellField.name)   (x0 : Option Nat) (x2 : Int32) (s0 : Int32) (s1 : Option Nat) (h : ax_Hp) : ax_W G p l e s mi args below meth c 6 (d + 1) h0 108 [(0, ax_A x0), (2, ax_I x2)] [ax_I s0, ax_A s1] h (Model_tellField_jn108 call  x0 x2 s0 s1 h) := by
  unfold Model_tellField_jn108
  refine ax_putfz B cl_Model (by decide) fk_Model_298 (Or.inl rfl) rfl d_Model_tellField_108 (fun h33 => ?_)
  refine ax_aload_n B 0 d_Model_tellField_111 rfl rfl ?_
  refine ax_getfi B cl_Model (by decide) fk_Model_298 d_Model_tellField_112 (fun v34 => ?_)
  refine ax_if_ne B 137 d_Model_tellField_115 (by decide) ?_ ?_
  · exact ax_vreturn B d_Model_tellField_137
  · refine ax_aload_n B 0 d_Model_tellField_118 rfl rfl ?_
    refine ax_iconst (v := 2) B d_Model_tellField_119 (by decide) ?_
    refine ax_putf (v := ax_I 2) B cl_Model (by decide) fk_Model_170 (Or.inl rfl) (fun _ => rfl) (fun _ => rfl) d_Model_tellField_120 (fun h35 => ?_)
    refine ax_aload_n B 0 d_Model_tellField_123 rfl rfl ?_
    refine ax_iconst (v := 0) B d_Model_tellField_124 (by decide) ?_
    refine ax_iload_n B 1 d_Model_tellField_125 rfl rfl ?_
    refine ax_aload_n B 0 d_Model_tellField_126 rfl rfl ?_
    refine ax_getfr B cl_Model (by decide) fk_Model_69 d_Model_tellField_127 (fun v36 => ?_)
    refine ax_iload_n B 1 d_Model_tellField_130 rfl rfl ?_
    refine ax_iald (kd := 1) B (by decide) rfl d_Model_tellField_131 (fun v37 => ?_)
    refine ax_iconst (v := 0) B d_Model_tellField_132 (by decide) ?_
    refine ax_callVi (av := [ax_I 0, ax_I x2, ax_I v37, ax_I 0]) (rest := []) B E hm_Model_readText cl_Model rfl wd_1100 wp_42 lk_Model_166 d_Model_tellField_133 rfl (Nat.le_of_ble_eq_true rfl) (fun _ _ hh => hcall 156 _ _ _ _ hh) (fun v39 h38 => ?_)
    refine ax_pop B d_Model_tellField_136 rfl ?_
    exact ax_vreturn B d_Model_tellField_137
def Model_tellField_jn50 (call : ax_Cf)  (x0 : Option Nat) (x1 : Int32) (x2 : Int32) (h : ax_Hp) : ax_O :=
  (ax_gr h x0 9 47).bind fun v6 =>
  (ax_ldi h v6 1 x1).bind fun v7 =>
  (ax_st h v6 1 x1 (ax_I (v7 + 1))).bind fun h8 =>
  (ax_gr h8 x0 9 43).bind fun v9 =>
  (ax_gr h8 x0 9 19).bind fun v10 =>
  (ax_ldi h8 v10 1 x2).bind fun v11 =>
  (ax_st h8 v9 1 x1 (ax_I v11)).bind fun h12 =>
  (ax_gr h12 x0 9 44).bind fun v13 =>
  (ax_ldi h12 v13 1 x1).bind fun v14 =>
  (ax_gr h12 x0 9 21).bind fun v15 =>
  (ax_ldi h12 v15 3 x2).bind fun v16 =>
  ax_on h12 x0 9 <| ax_ci (call 184 [ax_A x0, ax_I v14, ax_I v16] h12) fun v18 h17 =>
  if 0 ≤ v18 then
    (ax_gr h17 x0 9 45).bind fun v19 =>
    (ax_ldi h17 v19 1 x1).bind fun v20 =>
    (ax_gr h17 x0 9 18).bind fun v21 =>
    (ax_gr h17 x0 9 44).bind fun v22 =>
    (ax_ldi h17 v22 1 x1).bind fun v23 =>
    (ax_ldi h17 v21 1 v23).bind fun v24 =>
    Model_tellField_lp159 call ax_fuel x0 x2 v18 v20 v24 h17
  else
    (ax_gr h17 x0 9 24).bind fun v31 =>
    (ax_ldi h17 v31 1 x2).bind fun v32 =>
    if 0 ≤ v32 then
      Model_tellField_jn108 call x0 x2 0 x0 h17
    else
      Model_tellField_jn108 call x0 x2 1 x0 h17
set_option maxHeartbeats 4000000 in
set_option maxRecDepth 20000 in
theorem Model_tellField_jq50 {l : Launch} {G : ax_G} {d : Nat} {call : ax_Cf} (hcall : ax_Hc l G d call) {p : Program} {e : Env} {s : State} {mi : MethodId} {args : Array Value} {below : List Frame} {meth : Method} {c : Code} {h0 : ax_Hp} (B : ax_B G p s mi meth c "SchemaDeskModel" prog_12_method_49_code 6 none) (E : c.exceptionTable.isEmpty = true) (Nm : meth.name = y_Model_tellField.name)   (x0 : Option Nat) (x1 : Int32) (x2 : Int32) (h : ax_Hp) : ax_W G p l e s mi args below meth c 6 (d + 1) h0 50 [(0, ax_A x0), (1, ax_I x1), (2, ax_I x2)] [] h (Model_tellField_jn50 call  x0 x1 x2 h) := by
  unfold Model_tellField_jn50
  refine ax_aload_n B 0 d_Model_tellField_50 rfl rfl ?_
  refine ax_getfr B cl_Model (by decide) fk_Model_116 d_Model_tellField_51 (fun v6 => ?_)
  refine ax_iload_n B 1 d_Model_tellField_54 rfl rfl ?_
  refine ax_dup2_11 B d_Model_tellField_55 rfl rfl ?_
  refine ax_iald (kd := 1) B (by decide) rfl d_Model_tellField_56 (fun v7 => ?_)
  refine ax_iconst (v := 1) B d_Model_tellField_57 (by decide) ?_
  refine ax_iadd B d_Model_tellField_58 ?_
  refine ax_iast (kd := 1) B (by decide) (by decide) rfl d_Model_tellField_59 (fun h8 => ?_)
  refine ax_aload_n B 0 d_Model_tellField_60 rfl rfl ?_
  refine ax_getfr B cl_Model (by decide) fk_Model_104 d_Model_tellField_61 (fun v9 => ?_)
  refine ax_iload_n B 1 d_Model_tellField_64 rfl rfl ?_
  refine ax_aload_n B 0 d_Model_tellField_65 rfl rfl ?_
  refine ax_getfr B cl_Model (by decide) fk_Model_54 d_Model_tellField_66 (fun v10 => ?_)
  refine ax_iload_n B 2 d_Model_tellField_69 rfl rfl ?_
  refine ax_iald (kd := 1) B (by decide) rfl d_Model_tellField_70 (fun v11 => ?_)
  refine ax_iast (kd := 1) B (by decide) (by decide) rfl d_Model_tellField_71 (fun h12 => ?_)
  refine ax_aload_n B 0 d_Model_tellField_72 rfl rfl ?_
  refine ax_aload_n B 0 d_Model_tellField_73 rfl rfl ?_
  refine ax_getfr B cl_Model (by decide) fk_Model_107 d_Model_tellField_74 (fun v13 => ?_)
  refine ax_iload_n B 1 d_Model_tellField_77 rfl rfl ?_
  refine ax_iald (kd := 1) B (by decide) rfl d_Model_tellField_78 (fun v14 => ?_)
  refine ax_aload_n B 0 d_Model_tellField_79 rfl rfl ?_
  refine ax_getfr B cl_Model (by decide) fk_Model_60 d_Model_tellField_80 (fun v15 => ?_)
  refine ax_iload_n B 2 d_Model_tellField_83 rfl rfl ?_
  refine ax_cald (kd := 3) B (by decide) rfl d_Model_tellField_84 (fun v16 => ?_)
  refine ax_callVi (av := [ax_I v14, ax_I v16]) (rest := []) B E hm_Model_fieldOf cl_Model rfl wd_1217 wp_69 lk_Model_284 d_Model_tellField_85 rfl (Nat.le_of_ble_eq_true rfl) (fun _ _ hh => hcall 184 _ _ _ _ hh) (fun v18 h17 => ?_)
  refine ax_istore_n (tv2 := [(3, ax_I v18), (0, ax_A x0), (1, ax_I x1), (2, ax_I x2)]) B d_Model_tellField_88 rfl (by decide) rfl ?_
  refine ax_iload_n B 0 d_Model_tellField_89 rfl rfl ?_
  refine ax_if_ge B 138 d_Model_tellField_90 (by decide) ?_ ?_
  · refine ax_aload_n B 1 d_Model_tellField_138 rfl rfl ?_
    refine ax_getfr B cl_Model (by decide) fk_Model_110 d_Model_tellField_139 (fun v19 => ?_)
    refine ax_iload_n B 2 d_Model_tellField_142 rfl rfl ?_
    refine ax_iald (kd := 1) B (by decide) rfl d_Model_tellField_143 (fun v20 => ?_)
    refine ax_istore (tv2 := [(4, ax_I v20), (3, ax_I v18), (0, ax_A x0), (1, ax_I x1), (2, ax_I x2)]) B d_Model_tellField_144 (by decide) rfl ?_
    refine ax_aload_n B 2 d_Model_tellField_146 rfl rfl ?_
    refine ax_getfr B cl_Model (by decide) fk_Model_51 d_Model_tellField_147 (fun v21 => ?_)
    refine ax_aload_n B 2 d_Model_tellField_150 rfl rfl ?_
    refine ax_getfr B cl_Model (by decide) fk_Model_107 d_Model_tellField_151 (fun v22 => ?_)
    refine ax_iload_n B 3 d_Model_tellField_154 rfl rfl ?_
    refine ax_iald (kd := 1) B (by decide) rfl d_Model_tellField_155 (fun v23 => ?_)
    refine ax_iald (kd := 1) B (by decide) rfl d_Model_tellField_156 (fun v24 => ?_)
    refine ax_istore (tv2 := [(5, ax_I v24), (4, ax_I v20), (3, ax_I v18), (0, ax_A x0), (1, ax_I x1), (2, ax_I x2)]) B d_Model_tellField_157 (by decide) rfl ?_
    refine ax_sub (tv2 := [(0, ax_A x0), (2, ax_I x2), (3, ax_I v18), (4, ax_I v20), (5, ax_I v24)]) [3, 5, 2, 1, 0] rfl ?_
    exact Model_tellField_lq159 hcall B E Nm ax_fuel x0 x2 v18 v20 v24 h17
  · refine ax_aload_n B 1 d_Model_tellField_93 rfl rfl ?_
    refine ax_aload_n B 1 d_Model_tellField_94 rfl rfl ?_
    refine ax_getfr B cl_Model (by decide) fk_Model_69 d_Model_tellField_95 (fun v31 => ?_)
    refine ax_iload_n B 3 d_Model_tellField_98 rfl rfl ?_
    refine ax_iald (kd := 1) B (by decide) rfl d_Model_tellField_99 (fun v32 => ?_)
    refine ax_if_ge B 107 d_Model_tellField_100 (by decide) ?_ ?_
    · refine ax_iconst (v := 0) B d_Model_tellField_107 (by decide) ?_
      refine ax_sub (tv2 := [(0, ax_A x0), (2, ax_I x2)]) [1, 3] rfl ?_
      exact Model_tellField_jq108 hcall B E Nm x0 x2 0 x0 h17
    · refine ax_iconst (v := 1) B d_Model_tellField_103 (by decide) ?_
      refine ax_goto B 108 d_Model_tellField_104 (by decide) ?_
      refine ax_sub (tv2 := [(0, ax_A x0), (2, ax_I x2)]) [1, 3] rfl ?_
      exact Model_tellField_jq108 hcall B E Nm x0 x2 1 x0 h17
def Model_tellField_b (call : ax_Cf) (x0 : Option Nat) (h : ax_Hp) : ax_O :=
  (ax_gi h x0 9 48).bind fun v1 =>
  (ax_gr h x0 9 43).bind fun v2 =>
  (ax_ldi h v2 1 (v1 - 1)).bind fun v3 =>
  if 0 ≤ v3 then
    (ax_gr h x0 9 47).bind fun v4 =>
    (ax_ldi h v4 1 (v1 - 1)).bind fun v5 =>
    if v5 ≤ 0 then
      Model_tellField_jn50 call x0 (v1 - 1) v3 h
    else
      ax_on h x0 9 <| ax_cv (call 160 [ax_A x0, ax_I 44] h) fun h40 =>
      Model_tellField_jn50 call x0 (v1 - 1) v3 h40
  else
    ax_on h x0 9 <| ax_cv (call 160 [ax_A x0, ax_I 125] h) fun h42 =>
    (ax_gi h42 x0 9 48).bind fun v44 =>
    (ax_pf h42 x0 9 48 (ax_I (v44 - 1))).bind fun h45 =>
    ax_rv h45
set_option maxHeartbeats 4000000 in
set_option maxRecDepth 20000 in
theorem Model_tellField_t {l : Launch} {G : ax_G} {d : Nat} {call : ax_Cf} (hcall : ax_Hc l G d call) (x0 : Option Nat) (h : ax_Hp) {r : ax_Rs} {h' : ax_Hp} (ho : Model_tellField_b call x0 h = some (r, h')) : ax_C l G (d + 1) y_Model_tellField (.code y_Model_tellField prog_12_method_49_code 6 none) [ax_A x0] h r h' := by
  refine ax_enter (by decide) (Nat.le_of_ble_eq_true rfl) ho (fun p e s mi args below meth c B E Nm => ?_)
  have B : ax_B G p s mi meth c "SchemaDeskModel" prog_12_method_49_code 6 none := B
  show ax_W G p l e s mi args below meth c 6 (d + 1) h 0 [(0, ax_A x0)] [] h (Model_tellField_b call x0 h)
  unfold Model_tellField_b
  refine ax_aload_n B 0 d_Model_tellField_0 rfl rfl ?_
  refine ax_getfi B cl_Model (by decide) fk_Model_305 d_Model_tellField_1 (fun v1 => ?_)
  refine ax_iconst (v := 1) B d_Model_tellField_4 (by decide) ?_
  refine ax_isub B d_Model_tellField_5 ?_
  refine ax_istore_n (tv2 := [(1, ax_I (v1 - 1)), (0, ax_A x0)]) B d_Model_tellField_6 rfl (by decide) rfl ?_
  refine ax_aload_n B 1 d_Model_tellField_7 rfl rfl ?_
  refine ax_getfr B cl_Model (by decide) fk_Model_104 d_Model_tellField_8 (fun v2 => ?_)
  refine ax_iload_n B 0 d_Model_tellField_11 rfl rfl ?_
  refine ax_iald (kd := 1) B (by decide) rfl d_Model_tellField_12 (fun v3 => ?_)
  refine ax_istore_n (tv2 := [(2, ax_I v3), (1, ax_I (v1 - 1)), (0, ax_A x0)]) B d_Model_tellField_13 rfl (by decide) rfl ?_
  refine ax_iload_n B 0 d_Model_tellField_14 rfl rfl ?_
  refine ax_if_ge B 35 d_Model_tellField_15 (by decide) ?_ ?_
  · refine ax_aload_n B 2 d_Model_tellField_35 rfl rfl ?_
    refine ax_getfr B cl_Model (by decide) fk_Model_116 d_Model_tellField_36 (fun v4 => ?_)
    refine ax_iload_n B 1 d_Model_tellField_39 rfl rfl ?_
    refine ax_iald (kd := 1) B (by decide) rfl d_Model_tellField_40 (fun v5 => ?_)
    refine ax_if_le B 50 d_Model_tellField_41 (by decide) ?_ ?_
    · refine ax_sub (tv2 := [(0, ax_A x0), (1, ax_I (v1 - 1)), (2, ax_I v3)]) [2, 1, 0] rfl ?_
      exact Model_tellField_jq50 hcall B E Nm x0 (v1 - 1) v3 h
    · refine ax_aload_n B 2 d_Model_tellField_44 rfl rfl ?_
      refine ax_bipush (v := 44) B d_Model_tellField_45 (by decide) ?_
      refine ax_callVv (av := [ax_I 44]) (rest := []) B E hm_Model_say cl_Model rfl wd_1116 wp_46 lk_Model_208 d_Model_tellField_47 rfl (Nat.le_of_ble_eq_true rfl) (fun _ _ hh => hcall 160 _ _ _ _ hh) (fun h40 => ?_)
      refine ax_sub (tv2 := [(0, ax_A x0), (1, ax_I (v1 - 1)), (2, ax_I v3)]) [2, 1, 0] rfl ?_
      exact Model_tellField_jq50 hcall B E Nm x0 (v1 - 1) v3 h40
  · refine ax_aload_n B 2 d_Model_tellField_18 rfl rfl ?_
    refine ax_bipush (v := 125) B d_Model_tellField_19 (by decide) ?_
    refine ax_callVv (av := [ax_I 125]) (rest := []) B E hm_Model_say cl_Model rfl wd_1116 wp_46 lk_Model_208 d_Model_tellField_21 rfl (Nat.le_of_ble_eq_true rfl) (fun _ _ hh => hcall 160 _ _ _ _ hh) (fun h42 => ?_)
    refine ax_aload_n B 2 d_Model_tellField_24 rfl rfl ?_
    refine ax_dup B d_Model_tellField_25 rfl ?_
    refine ax_getfi B cl_Model (by decide) fk_Model_305 d_Model_tellField_26 (fun v44 => ?_)
    refine ax_iconst (v := 1) B d_Model_tellField_29 (by decide) ?_
    refine ax_isub B d_Model_tellField_30 ?_
    refine ax_putf (v := ax_I (v44 - 1)) B cl_Model (by decide) fk_Model_305 (Or.inl rfl) (fun _ => rfl) (fun _ => rfl) d_Model_tellField_31 (fun h45 => ?_)
    exact ax_vreturn B d_Model_tellField_34

theorem d_Model_place_0 : decode prog_12_method_66_code 0 = .ok (.aload_n 0, 1) := by decide +kernel
theorem d_Model_place_1 : decode prog_12_method_66_code 1 = .ok (.iconst 0, 1) := by decide +kernel
theorem d_Model_place_2 : decode prog_12_method_66_code 2 = .ok (.putfield 119, 3) := by decide +kernel
theorem d_Model_place_5 : decode prog_12_method_66_code 5 = .ok (.aload_n 0, 1) := by decide +kernel
theorem d_Model_place_6 : decode prog_12_method_66_code 6 = .ok (.getfield 23, 3) := by decide +kernel
theorem d_Model_place_9 : decode prog_12_method_66_code 9 = .ok (.ireturn, 1) := by decide +kernel
def Model_place_b (call : ax_Cf) (x0 : Option Nat) (h : ax_Hp) : ax_O :=
  (ax_pf h x0 9 0 (ax_I 0)).bind fun h1 =>
  (ax_gi h1 x0 9 9).bind fun v2 =>
  ax_ri v2 h1
set_option maxHeartbeats 4000000 in
set_option maxRecDepth 20000 in
theorem Model_place_t {l : Launch} {G : ax_G} {d : Nat} {call : ax_Cf} (hcall : ax_Hc l G d call) (x0 : Option Nat) (h : ax_Hp) {r : ax_Rs} {h' : ax_Hp} (ho : Model_place_b call x0 h = some (r, h')) : ax_C l G (d + 1) y_Model_place (.code y_Model_place prog_12_method_66_code 1 (some (.int))) [ax_A x0] h r h' := by
  refine ax_enter (by decide) (Nat.le_of_ble_eq_true rfl) ho (fun p e s mi args below meth c B E Nm => ?_)
  have B : ax_B G p s mi meth c "SchemaDeskModel" prog_12_method_66_code 1 (some (.int)) := B
  show ax_W G p l e s mi args below meth c 1 (d + 1) h 0 [(0, ax_A x0)] [] h (Model_place_b call x0 h)
  unfold Model_place_b
  refine ax_aload_n B 0 d_Model_place_0 rfl rfl ?_
  refine ax_iconst (v := 0) B d_Model_place_1 (by decide) ?_
  refine ax_putf (v := ax_I 0) B cl_Model (by decide) fk_Model_119 (Or.inl rfl) (fun _ => rfl) (fun _ => rfl) d_Model_place_2 (fun h1 => ?_)
  refine ax_aload_n B 0 d_Model_place_5 rfl rfl ?_
  refine ax_getfi B cl_Model (by decide) fk_Model_23 d_Model_place_6 (fun v2 => ?_)
  exact ax_ireturn B d_Model_place_9

theorem d_Model_out_0 : decode prog_12_method_67_code 0 = .ok (.aload_n 0, 1) := by decide +kernel
theorem d_Model_out_1 : decode prog_12_method_67_code 1 = .ok (.iload_n 1, 1) := by decide +kernel
theorem d_Model_out_2 : decode prog_12_method_67_code 2 = .ok (.ifCond .lt 15, 3) := by decide +kernel
theorem d_Model_out_5 : decode prog_12_method_67_code 5 = .ok (.iload_n 1, 1) := by decide +kernel
theorem d_Model_out_6 : decode prog_12_method_67_code 6 = .ok (.aload_n 0, 1) := by decide +kernel
theorem d_Model_out_7 : decode prog_12_method_67_code 7 = .ok (.getfield 325, 3) := by decide +kernel
theorem d_Model_out_10 : decode prog_12_method_67_code 10 = .ok (.if_icmp .ge 7, 3) := by decide +kernel
theorem d_Model_out_13 : decode prog_12_method_67_code 13 = .ok (.iconst 0, 1) := by decide +kernel
theorem d_Model_out_14 : decode prog_12_method_67_code 14 = .ok (.goto 4, 3) := by decide +kernel
theorem d_Model_out_17 : decode prog_12_method_67_code 17 = .ok (.iconst 1, 1) := by decide +kernel
theorem d_Model_out_18 : decode prog_12_method_67_code 18 = .ok (.putfield 119, 3) := by decide +kernel
theorem d_Model_out_21 : decode prog_12_method_67_code 21 = .ok (.aload_n 0, 1) := by decide +kernel
theorem d_Model_out_22 : decode prog_12_method_67_code 22 = .ok (.getfield 119, 3) := by decide +kernel
theorem d_Model_out_25 : decode prog_12_method_67_code 25 = .ok (.ifCond .ne 12, 3) := by decide +kernel
theorem d_Model_out_28 : decode prog_12_method_67_code 28 = .ok (.aload_n 0, 1) := by decide +kernel
theorem d_Model_out_29 : decode prog_12_method_67_code 29 = .ok (.getfield 17, 3) := by decide +kernel
theorem d_Model_out_32 : decode prog_12_method_67_code 32 = .ok (.iload_n 1, 1) := by decide +kernel
theorem d_Model_out_33 : decode prog_12_method_67_code 33 = .ok (.iaload, 1) := by decide +kernel
theorem d_Model_out_34 : decode prog_12_method_67_code 34 = .ok (.goto 4, 3) := by decide +kernel
theorem d_Model_out_37 : decode prog_12_method_67_code 37 = .ok (.iconst 0, 1) := by decide +kernel
theorem d_Model_out_38 : decode prog_12_method_67_code 38 = .ok (.ireturn, 1) := by decide +kernel
def Model_out_jn18 (call : ax_Cf)  (x0 : Option Nat) (x1 : Int32) (s0 : Int32) (s1 : Option Nat) (h : ax_Hp) : ax_O :=
  (ax_pf h s1 9 0 (ax_I s0)).bind fun h1 =>
  (ax_gi h1 x0 9 0).bind fun v2 =>
  if v2 = 0 then
    (ax_gr h1 x0 9 6).bind fun v3 =>
    (ax_ldi h1 v3 1 x1).bind fun v4 =>
    ax_ri v4 h1
  else
    ax_ri 0 h1
set_option maxHeartbeats 4000000 in
set_option maxRecDepth 20000 in
theorem Model_out_jq18 {l : Launch} {G : ax_G} {d : Nat} {call : ax_Cf} (hcall : ax_Hc l G d call) {p : Program} {e : Env} {s : State} {mi : MethodId} {args : Array Value} {below : List Frame} {meth : Method} {c : Code} {h0 : ax_Hp} (B : ax_B G p s mi meth c "SchemaDeskModel" prog_12_method_67_code 2 (some (.int))) (E : c.exceptionTable.isEmpty = true) (Nm : meth.name = y_Model_out.name)   (x0 : Option Nat) (x1 : Int32) (s0 : Int32) (s1 : Option Nat) (h : ax_Hp) : ax_W G p l e s mi args below meth c 2 (d + 1) h0 18 [(0, ax_A x0), (1, ax_I x1)] [ax_I s0, ax_A s1] h (Model_out_jn18 call  x0 x1 s0 s1 h) := by
  unfold Model_out_jn18
  refine ax_putf (v := ax_I s0) B cl_Model (by decide) fk_Model_119 (Or.inl rfl) (fun _ => rfl) (fun _ => rfl) d_Model_out_18 (fun h1 => ?_)
  refine ax_aload_n B 0 d_Model_out_21 rfl rfl ?_
  refine ax_getfi B cl_Model (by decide) fk_Model_119 d_Model_out_22 (fun v2 => ?_)
  refine ax_if_ne B 37 d_Model_out_25 (by decide) ?_ ?_
  · refine ax_iconst (v := 0) B d_Model_out_37 (by decide) ?_
    exact ax_ireturn B d_Model_out_38
  · refine ax_aload_n B 0 d_Model_out_28 rfl rfl ?_
    refine ax_getfr B cl_Model (by decide) fk_Model_17 d_Model_out_29 (fun v3 => ?_)
    refine ax_iload_n B 1 d_Model_out_32 rfl rfl ?_
    refine ax_iald (kd := 1) B (by decide) rfl d_Model_out_33 (fun v4 => ?_)
    refine ax_goto B 38 d_Model_out_34 (by decide) ?_
    exact ax_ireturn B d_Model_out_38
def Model_out_jn17 (call : ax_Cf)  (x0 : Option Nat) (x1 : Int32) (s0 : Option Nat) (h : ax_Hp) : ax_O :=
  Model_out_jn18 call x0 x1 1 s0 h
set_option maxHeartbeats 4000000 in
set_option maxRecDepth 20000 in
theorem Model_out_jq17 {l : Launch} {G : ax_G} {d : Nat} {call : ax_Cf} (hcall : ax_Hc l G d call) {p : Program} {e : Env} {s : State} {mi : MethodId} {args : Array Value} {below : List Frame} {meth : Method} {c : Code} {h0 : ax_Hp} (B : ax_B G p s mi meth c "SchemaDeskModel" prog_12_method_67_code 2 (some (.int))) (E : c.exceptionTable.isEmpty = true) (Nm : meth.name = y_Model_out.name)   (x0 : Option Nat) (x1 : Int32) (s0 : Option Nat) (h : ax_Hp) : ax_W G p l e s mi args below meth c 2 (d + 1) h0 17 [(0, ax_A x0), (1, ax_I x1)] [ax_A s0] h (Model_out_jn17 call  x0 x1 s0 h) := by
  unfold Model_out_jn17
  refine ax_iconst (v := 1) B d_Model_out_17 (by decide) ?_
  refine ax_sub (tv2 := [(0, ax_A x0), (1, ax_I x1)]) [0, 1] rfl ?_
  exact Model_out_jq18 hcall B E Nm x0 x1 1 s0 h
def Model_out_b (call : ax_Cf) (x0 : Option Nat) (x1 : Int32) (h : ax_Hp) : ax_O :=
  if x1 < 0 then
    Model_out_jn17 call x0 x1 x0 h
  else
    (ax_gi h x0 9 5).bind fun v5 =>
    if v5 ≤ x1 then
      Model_out_jn17 call x0 x1 x0 h
    else
      Model_out_jn18 call x0 x1 0 x0 h
set_option maxHeartbeats 4000000 in
set_option maxRecDepth 20000 in
theorem Model_out_t {l : Launch} {G : ax_G} {d : Nat} {call : ax_Cf} (hcall : ax_Hc l G d call) (x0 : Option Nat) (x1 : Int32) (h : ax_Hp) {r : ax_Rs} {h' : ax_Hp} (ho : Model_out_b call x0 x1 h = some (r, h')) : ax_C l G (d + 1) y_Model_out (.code y_Model_out prog_12_method_67_code 2 (some (.int))) [ax_A x0, ax_I x1] h r h' := by
  refine ax_enter (by decide) (Nat.le_of_ble_eq_true rfl) ho (fun p e s mi args below meth c B E Nm => ?_)
  have B : ax_B G p s mi meth c "SchemaDeskModel" prog_12_method_67_code 2 (some (.int)) := B
  show ax_W G p l e s mi args below meth c 2 (d + 1) h 0 [(0, ax_A x0), (1, ax_I x1)] [] h (Model_out_b call x0 x1 h)
  unfold Model_out_b
  refine ax_aload_n B 0 d_Model_out_0 rfl rfl ?_
  refine ax_iload_n B 1 d_Model_out_1 rfl rfl ?_
  refine ax_if_lt B 17 d_Model_out_2 (by decide) ?_ ?_
  · refine ax_sub (tv2 := [(0, ax_A x0), (1, ax_I x1)]) [0, 1] rfl ?_
    exact Model_out_jq17 hcall B E Nm x0 x1 x0 h
  · refine ax_iload_n B 1 d_Model_out_5 rfl rfl ?_
    refine ax_aload_n B 0 d_Model_out_6 rfl rfl ?_
    refine ax_getfi B cl_Model (by decide) fk_Model_325 d_Model_out_7 (fun v5 => ?_)
    refine ax_icmp_ge B 17 d_Model_out_10 (by decide) ?_ ?_
    · refine ax_sub (tv2 := [(0, ax_A x0), (1, ax_I x1)]) [0, 1] rfl ?_
      exact Model_out_jq17 hcall B E Nm x0 x1 x0 h
    · refine ax_iconst (v := 0) B d_Model_out_13 (by decide) ?_
      refine ax_goto B 18 d_Model_out_14 (by decide) ?_
      refine ax_sub (tv2 := [(0, ax_A x0), (1, ax_I x1)]) [0, 1] rfl ?_
      exact Model_out_jq18 hcall B E Nm x0 x1 0 x0 h
