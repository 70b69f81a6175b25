theorem d_Model_readBehind_0 : decode prog_12_method_17_code 0 = .ok (.iload_n 2, 1) := by decide +kernel
theorem d_Model_readBehind_1 : decode prog_12_method_17_code 1 = .ok (.istore_n 3, 1) := by decide +kernel
theorem d_Model_readBehind_2 : decode prog_12_method_17_code 2 = .ok (.aload_n 0, 1) := by decide +kernel
theorem d_Model_readBehind_3 : decode prog_12_method_17_code 3 = .ok (.iconst 1, 1) := by decide +kernel
theorem d_Model_readBehind_4 : decode prog_12_method_17_code 4 = .ok (.putfield 155, 3) := by decide +kernel
theorem d_Model_readBehind_7 : decode prog_12_method_17_code 7 = .ok (.aload_n 0, 1) := by decide +kernel
theorem d_Model_readBehind_8 : decode prog_12_method_17_code 8 = .ok (.getfield 133, 3) := by decide +kernel
theorem d_Model_readBehind_11 : decode prog_12_method_17_code 11 = .ok (.ifCond .ne 26, 3) := by decide +kernel
theorem d_Model_readBehind_14 : decode prog_12_method_17_code 14 = .ok (.aload_n 0, 1) := by decide +kernel
theorem d_Model_readBehind_15 : decode prog_12_method_17_code 15 = .ok (.iconst 0, 1) := by decide +kernel
theorem d_Model_readBehind_16 : decode prog_12_method_17_code 16 = .ok (.putfield 155, 3) := by decide +kernel
theorem d_Model_readBehind_19 : decode prog_12_method_17_code 19 = .ok (.iload_n 3, 1) := by decide +kernel
theorem d_Model_readBehind_20 : decode prog_12_method_17_code 20 = .ok (.aload_n 0, 1) := by decide +kernel
theorem d_Model_readBehind_21 : decode prog_12_method_17_code 21 = .ok (.getfield 42, 3) := by decide +kernel
theorem d_Model_readBehind_24 : decode prog_12_method_17_code 24 = .ok (.iload_n 1, 1) := by decide +kernel
theorem d_Model_readBehind_25 : decode prog_12_method_17_code 25 = .ok (.iaload, 1) := by decide +kernel
theorem d_Model_readBehind_26 : decode prog_12_method_17_code 26 = .ok (.if_icmp .ne 7, 3) := by decide +kernel
theorem d_Model_readBehind_29 : decode prog_12_method_17_code 29 = .ok (.iload_n 3, 1) := by decide +kernel
theorem d_Model_readBehind_30 : decode prog_12_method_17_code 30 = .ok (.goto 6, 3) := by decide +kernel
theorem d_Model_readBehind_33 : decode prog_12_method_17_code 33 = .ok (.iconst (-1), 1) := by decide +kernel
theorem d_Model_readBehind_34 : decode prog_12_method_17_code 34 = .ok (.iload_n 3, 1) := by decide +kernel
theorem d_Model_readBehind_35 : decode prog_12_method_17_code 35 = .ok (.isub, 1) := by decide +kernel
theorem d_Model_readBehind_36 : decode prog_12_method_17_code 36 = .ok (.ireturn, 1) := by decide +kernel
theorem d_Model_readBehind_37 : decode prog_12_method_17_code 37 = .ok (.aload_n 0, 1) := by decide +kernel
theorem d_Model_readBehind_38 : decode prog_12_method_17_code 38 = .ok (.getfield 76, 3) := by decide +kernel
theorem d_Model_readBehind_41 : decode prog_12_method_17_code 41 = .ok (.aload_n 0, 1) := by decide +kernel
theorem d_Model_readBehind_42 : decode prog_12_method_17_code 42 = .ok (.getfield 133, 3) := by decide +kernel
theorem d_Model_readBehind_45 : decode prog_12_method_17_code 45 = .ok (.iconst 1, 1) := by decide +kernel
theorem d_Model_readBehind_46 : decode prog_12_method_17_code 46 = .ok (.isub, 1) := by decide +kernel
theorem d_Model_readBehind_47 : decode prog_12_method_17_code 47 = .ok (.iaload, 1) := by decide +kernel
theorem d_Model_readBehind_48 : decode prog_12_method_17_code 48 = .ok (.istore 4, 2) := by decide +kernel
theorem d_Model_readBehind_50 : decode prog_12_method_17_code 50 = .ok (.aload_n 0, 1) := by decide +kernel
theorem d_Model_readBehind_51 : decode prog_12_method_17_code 51 = .ok (.getfield 48, 3) := by decide +kernel
theorem d_Model_readBehind_54 : decode prog_12_method_17_code 54 = .ok (.iload 4, 2) := by decide +kernel
theorem d_Model_readBehind_56 : decode prog_12_method_17_code 56 = .ok (.caload, 1) := by decide +kernel
theorem d_Model_readBehind_57 : decode prog_12_method_17_code 57 = .ok (.bipush 65, 2) := by decide +kernel
theorem d_Model_readBehind_59 : decode prog_12_method_17_code 59 = .ok (.if_icmp .ne 15, 3) := by decide +kernel
theorem d_Model_readBehind_62 : decode prog_12_method_17_code 62 = .ok (.aload_n 0, 1) := by decide +kernel
theorem d_Model_readBehind_63 : decode prog_12_method_17_code 63 = .ok (.dup, 1) := by decide +kernel
theorem d_Model_readBehind_64 : decode prog_12_method_17_code 64 = .ok (.getfield 133, 3) := by decide +kernel
theorem d_Model_readBehind_67 : decode prog_12_method_17_code 67 = .ok (.iconst 1, 1) := by decide +kernel
theorem d_Model_readBehind_68 : decode prog_12_method_17_code 68 = .ok (.isub, 1) := by decide +kernel
theorem d_Model_readBehind_69 : decode prog_12_method_17_code 69 = .ok (.putfield 133, 3) := by decide +kernel
theorem d_Model_readBehind_72 : decode prog_12_method_17_code 72 = .ok (.iload_n 3, 1) := by decide +kernel
theorem d_Model_readBehind_73 : decode prog_12_method_17_code 73 = .ok (.ireturn, 1) := by decide +kernel
theorem d_Model_readBehind_74 : decode prog_12_method_17_code 74 = .ok (.aload_n 0, 1) := by decide +kernel
theorem d_Model_readBehind_75 : decode prog_12_method_17_code 75 = .ok (.getfield 48, 3) := by decide +kernel
theorem d_Model_readBehind_78 : decode prog_12_method_17_code 78 = .ok (.iload 4, 2) := by decide +kernel
theorem d_Model_readBehind_80 : decode prog_12_method_17_code 80 = .ok (.caload, 1) := by decide +kernel
theorem d_Model_readBehind_81 : decode prog_12_method_17_code 81 = .ok (.bipush 82, 2) := by decide +kernel
theorem d_Model_readBehind_83 : decode prog_12_method_17_code 83 = .ok (.if_icmp .ne 96, 3) := by decide +kernel
theorem d_Model_readBehind_86 : decode prog_12_method_17_code 86 = .ok (.aload_n 0, 1) := by decide +kernel
theorem d_Model_readBehind_87 : decode prog_12_method_17_code 87 = .ok (.iload_n 1, 1) := by decide +kernel
theorem d_Model_readBehind_88 : decode prog_12_method_17_code 88 = .ok (.iload_n 3, 1) := by decide +kernel
theorem d_Model_readBehind_89 : decode prog_12_method_17_code 89 = .ok (.invokevirtual 136, 3) := by decide +kernel
theorem d_Model_readBehind_92 : decode prog_12_method_17_code 92 = .ok (.bipush 61, 2) := by decide +kernel
theorem d_Model_readBehind_94 : decode prog_12_method_17_code 94 = .ok (.if_icmp .ne 85, 3) := by decide +kernel
theorem d_Model_readBehind_97 : decode prog_12_method_17_code 97 = .ok (.aload_n 0, 1) := by decide +kernel
theorem d_Model_readBehind_98 : decode prog_12_method_17_code 98 = .ok (.getfield 79, 3) := by decide +kernel
theorem d_Model_readBehind_101 : decode prog_12_method_17_code 101 = .ok (.aload_n 0, 1) := by decide +kernel
theorem d_Model_readBehind_102 : decode prog_12_method_17_code 102 = .ok (.getfield 133, 3) := by decide +kernel
theorem d_Model_readBehind_105 : decode prog_12_method_17_code 105 = .ok (.iconst 1, 1) := by decide +kernel
theorem d_Model_readBehind_106 : decode prog_12_method_17_code 106 = .ok (.isub, 1) := by decide +kernel
theorem d_Model_readBehind_107 : decode prog_12_method_17_code 107 = .ok (.iaload, 1) := by decide +kernel
theorem d_Model_readBehind_108 : decode prog_12_method_17_code 108 = .ok (.istore 5, 2) := by decide +kernel
theorem d_Model_readBehind_110 : decode prog_12_method_17_code 110 = .ok (.aload_n 0, 1) := by decide +kernel
theorem d_Model_readBehind_111 : decode prog_12_method_17_code 111 = .ok (.getfield 69, 3) := by decide +kernel
theorem d_Model_readBehind_114 : decode prog_12_method_17_code 114 = .ok (.iload 5, 2) := by decide +kernel
theorem d_Model_readBehind_116 : decode prog_12_method_17_code 116 = .ok (.iload_n 3, 1) := by decide +kernel
theorem d_Model_readBehind_117 : decode prog_12_method_17_code 117 = .ok (.iconst 1, 1) := by decide +kernel
theorem d_Model_readBehind_118 : decode prog_12_method_17_code 118 = .ok (.iadd, 1) := by decide +kernel
theorem d_Model_readBehind_119 : decode prog_12_method_17_code 119 = .ok (.iastore, 1) := by decide +kernel
theorem d_Model_readBehind_120 : decode prog_12_method_17_code 120 = .ok (.aload_n 0, 1) := by decide +kernel
theorem d_Model_readBehind_121 : decode prog_12_method_17_code 121 = .ok (.iload_n 1, 1) := by decide +kernel
theorem d_Model_readBehind_122 : decode prog_12_method_17_code 122 = .ok (.iload 5, 2) := by decide +kernel
theorem d_Model_readBehind_124 : decode prog_12_method_17_code 124 = .ok (.iload_n 3, 1) := by decide +kernel
theorem d_Model_readBehind_125 : decode prog_12_method_17_code 125 = .ok (.iconst 1, 1) := by decide +kernel
theorem d_Model_readBehind_126 : decode prog_12_method_17_code 126 = .ok (.iadd, 1) := by decide +kernel
theorem d_Model_readBehind_127 : decode prog_12_method_17_code 127 = .ok (.iconst 0, 1) := by decide +kernel
theorem d_Model_readBehind_128 : decode prog_12_method_17_code 128 = .ok (.invokevirtual 166, 3) := by decide +kernel
theorem d_Model_readBehind_131 : decode prog_12_method_17_code 131 = .ok (.istore 6, 2) := by decide +kernel
theorem d_Model_readBehind_133 : decode prog_12_method_17_code 133 = .ok (.iload 6, 2) := by decide +kernel
theorem d_Model_readBehind_135 : decode prog_12_method_17_code 135 = .ok (.ifCond .ge 6, 3) := by decide +kernel
theorem d_Model_readBehind_138 : decode prog_12_method_17_code 138 = .ok (.iload 6, 2) := by decide +kernel
theorem d_Model_readBehind_140 : decode prog_12_method_17_code 140 = .ok (.ireturn, 1) := by decide +kernel
theorem d_Model_readBehind_141 : decode prog_12_method_17_code 141 = .ok (.iload_n 3, 1) := by decide +kernel
theorem d_Model_readBehind_142 : decode prog_12_method_17_code 142 = .ok (.istore 7, 2) := by decide +kernel
theorem d_Model_readBehind_144 : decode prog_12_method_17_code 144 = .ok (.iload 7, 2) := by decide +kernel
theorem d_Model_readBehind_146 : decode prog_12_method_17_code 146 = .ok (.iload 6, 2) := by decide +kernel
theorem d_Model_readBehind_148 : decode prog_12_method_17_code 148 = .ok (.if_icmp .ge 23, 3) := by decide +kernel
theorem d_Model_readBehind_151 : decode prog_12_method_17_code 151 = .ok (.aload_n 0, 1) := by decide +kernel
theorem d_Model_readBehind_152 : decode prog_12_method_17_code 152 = .ok (.getfield 72, 3) := by decide +kernel
theorem d_Model_readBehind_155 : decode prog_12_method_17_code 155 = .ok (.sipush 160, 3) := by decide +kernel
theorem d_Model_readBehind_158 : decode prog_12_method_17_code 158 = .ok (.iload_n 1, 1) := by decide +kernel
theorem d_Model_readBehind_159 : decode prog_12_method_17_code 159 = .ok (.imul, 1) := by decide +kernel
theorem d_Model_readBehind_160 : decode prog_12_method_17_code 160 = .ok (.iload 7, 2) := by decide +kernel
theorem d_Model_readBehind_162 : decode prog_12_method_17_code 162 = .ok (.iadd, 1) := by decide +kernel
theorem d_Model_readBehind_163 : decode prog_12_method_17_code 163 = .ok (.iconst 1, 1) := by decide +kernel
theorem d_Model_readBehind_164 : decode prog_12_method_17_code 164 = .ok (.bastore, 1) := by decide +kernel
theorem d_Model_readBehind_165 : decode prog_12_method_17_code 165 = .ok (.iinc 7 1, 3) := by decide +kernel
theorem d_Model_readBehind_168 : decode prog_12_method_17_code 168 = .ok (.goto (-24), 3) := by decide +kernel
theorem d_Model_readBehind_171 : decode prog_12_method_17_code 171 = .ok (.iload 6, 2) := by decide +kernel
theorem d_Model_readBehind_173 : decode prog_12_method_17_code 173 = .ok (.istore_n 3, 1) := by decide +kernel
theorem d_Model_readBehind_174 : decode prog_12_method_17_code 174 = .ok (.aload_n 0, 1) := by decide +kernel
theorem d_Model_readBehind_175 : decode prog_12_method_17_code 175 = .ok (.iconst 1, 1) := by decide +kernel
theorem d_Model_readBehind_176 : decode prog_12_method_17_code 176 = .ok (.putfield 155, 3) := by decide +kernel
theorem d_Model_readBehind_179 : decode prog_12_method_17_code 179 = .ok (.aload_n 0, 1) := by decide +kernel
theorem d_Model_readBehind_180 : decode prog_12_method_17_code 180 = .ok (.iload_n 1, 1) := by decide +kernel
theorem d_Model_readBehind_181 : decode prog_12_method_17_code 181 = .ok (.iload_n 3, 1) := by decide +kernel
theorem d_Model_readBehind_182 : decode prog_12_method_17_code 182 = .ok (.invokevirtual 136, 3) := by decide +kernel
theorem d_Model_readBehind_185 : decode prog_12_method_17_code 185 = .ok (.bipush 44, 2) := by decide +kernel
theorem d_Model_readBehind_187 : decode prog_12_method_17_code 187 = .ok (.if_icmp .ne 56, 3) := by decide +kernel
theorem d_Model_readBehind_190 : decode prog_12_method_17_code 190 = .ok (.aload_n 0, 1) := by decide +kernel
theorem d_Model_readBehind_191 : decode prog_12_method_17_code 191 = .ok (.getfield 57, 3) := by decide +kernel
theorem d_Model_readBehind_194 : decode prog_12_method_17_code 194 = .ok (.iload 4, 2) := by decide +kernel
theorem d_Model_readBehind_196 : decode prog_12_method_17_code 196 = .ok (.iaload, 1) := by decide +kernel
theorem d_Model_readBehind_197 : decode prog_12_method_17_code 197 = .ok (.aload_n 0, 1) := by decide +kernel
theorem d_Model_readBehind_198 : decode prog_12_method_17_code 198 = .ok (.getfield 48, 3) := by decide +kernel
theorem d_Model_readBehind_201 : decode prog_12_method_17_code 201 = .ok (.iload 4, 2) := by decide +kernel
theorem d_Model_readBehind_203 : decode prog_12_method_17_code 203 = .ok (.caload, 1) := by decide +kernel
theorem d_Model_readBehind_204 : decode prog_12_method_17_code 204 = .ok (.bipush 85, 2) := by decide +kernel
theorem d_Model_readBehind_206 : decode prog_12_method_17_code 206 = .ok (.if_icmp .ne 7, 3) := by decide +kernel
theorem d_Model_readBehind_209 : decode prog_12_method_17_code 209 = .ok (.iconst 4, 1) := by decide +kernel
theorem d_Model_readBehind_210 : decode prog_12_method_17_code 210 = .ok (.goto 5, 3) := by decide +kernel
theorem d_Model_readBehind_213 : decode prog_12_method_17_code 213 = .ok (.bipush 6, 2) := by decide +kernel
theorem d_Model_readBehind_215 : decode prog_12_method_17_code 215 = .ok (.if_icmp .ge 28, 3) := by decide +kernel
theorem d_Model_readBehind_218 : decode prog_12_method_17_code 218 = .ok (.aload_n 0, 1) := by decide +kernel
theorem d_Model_readBehind_219 : decode prog_12_method_17_code 219 = .ok (.aload_n 0, 1) := by decide +kernel
theorem d_Model_readBehind_220 : decode prog_12_method_17_code 220 = .ok (.getfield 48, 3) := by decide +kernel
theorem d_Model_readBehind_223 : decode prog_12_method_17_code 223 = .ok (.iload 4, 2) := by decide +kernel
theorem d_Model_readBehind_225 : decode prog_12_method_17_code 225 = .ok (.caload, 1) := by decide +kernel
theorem d_Model_readBehind_226 : decode prog_12_method_17_code 226 = .ok (.bipush 85, 2) := by decide +kernel
theorem d_Model_readBehind_228 : decode prog_12_method_17_code 228 = .ok (.if_icmp .ne 7, 3) := by decide +kernel
theorem d_Model_readBehind_231 : decode prog_12_method_17_code 231 = .ok (.iconst 2, 1) := by decide +kernel
theorem d_Model_readBehind_232 : decode prog_12_method_17_code 232 = .ok (.goto 4, 3) := by decide +kernel
theorem d_Model_readBehind_235 : decode prog_12_method_17_code 235 = .ok (.iconst 3, 1) := by decide +kernel
theorem d_Model_readBehind_236 : decode prog_12_method_17_code 236 = .ok (.putfield 155, 3) := by decide +kernel
theorem d_Model_readBehind_239 : decode prog_12_method_17_code 239 = .ok (.iload_n 3, 1) := by decide +kernel
theorem d_Model_readBehind_240 : decode prog_12_method_17_code 240 = .ok (.iconst 1, 1) := by decide +kernel
theorem d_Model_readBehind_241 : decode prog_12_method_17_code 241 = .ok (.iadd, 1) := by decide +kernel
theorem d_Model_readBehind_242 : decode prog_12_method_17_code 242 = .ok (.ireturn, 1) := by decide +kernel
theorem d_Model_readBehind_243 : decode prog_12_method_17_code 243 = .ok (.aload_n 0, 1) := by decide +kernel
theorem d_Model_readBehind_244 : decode prog_12_method_17_code 244 = .ok (.iload_n 1, 1) := by decide +kernel
theorem d_Model_readBehind_245 : decode prog_12_method_17_code 245 = .ok (.iload_n 3, 1) := by decide +kernel
theorem d_Model_readBehind_246 : decode prog_12_method_17_code 246 = .ok (.invokevirtual 136, 3) := by decide +kernel
theorem d_Model_readBehind_249 : decode prog_12_method_17_code 249 = .ok (.bipush 41, 2) := by decide +kernel
theorem d_Model_readBehind_251 : decode prog_12_method_17_code 251 = .ok (.if_icmp .ne 40, 3) := by decide +kernel
theorem d_Model_readBehind_254 : decode prog_12_method_17_code 254 = .ok (.aload_n 0, 1) := by decide +kernel
theorem d_Model_readBehind_255 : decode prog_12_method_17_code 255 = .ok (.getfield 48, 3) := by decide +kernel
theorem d_Model_readBehind_258 : decode prog_12_method_17_code 258 = .ok (.iload 4, 2) := by decide +kernel
theorem d_Model_readBehind_260 : decode prog_12_method_17_code 260 = .ok (.caload, 1) := by decide +kernel
theorem d_Model_readBehind_261 : decode prog_12_method_17_code 261 = .ok (.bipush 82, 2) := by decide +kernel
theorem d_Model_readBehind_263 : decode prog_12_method_17_code 263 = .ok (.if_icmp .eq 14, 3) := by decide +kernel
theorem d_Model_readBehind_266 : decode prog_12_method_17_code 266 = .ok (.aload_n 0, 1) := by decide +kernel
theorem d_Model_readBehind_267 : decode prog_12_method_17_code 267 = .ok (.getfield 57, 3) := by decide +kernel
theorem d_Model_readBehind_270 : decode prog_12_method_17_code 270 = .ok (.iload 4, 2) := by decide +kernel
theorem d_Model_readBehind_272 : decode prog_12_method_17_code 272 = .ok (.iaload, 1) := by decide +kernel
theorem d_Model_readBehind_273 : decode prog_12_method_17_code 273 = .ok (.iconst 1, 1) := by decide +kernel
theorem d_Model_readBehind_274 : decode prog_12_method_17_code 274 = .ok (.if_icmp .le 17, 3) := by decide +kernel
theorem d_Model_readBehind_277 : decode prog_12_method_17_code 277 = .ok (.aload_n 0, 1) := by decide +kernel
theorem d_Model_readBehind_278 : decode prog_12_method_17_code 278 = .ok (.dup, 1) := by decide +kernel
theorem d_Model_readBehind_279 : decode prog_12_method_17_code 279 = .ok (.getfield 133, 3) := by decide +kernel
theorem d_Model_readBehind_282 : decode prog_12_method_17_code 282 = .ok (.iconst 1, 1) := by decide +kernel
theorem d_Model_readBehind_283 : decode prog_12_method_17_code 283 = .ok (.isub, 1) := by decide +kernel
theorem d_Model_readBehind_284 : decode prog_12_method_17_code 284 = .ok (.putfield 133, 3) := by decide +kernel
theorem d_Model_readBehind_287 : decode prog_12_method_17_code 287 = .ok (.iload_n 3, 1) := by decide +kernel
theorem d_Model_readBehind_288 : decode prog_12_method_17_code 288 = .ok (.iconst 1, 1) := by decide +kernel
theorem d_Model_readBehind_289 : decode prog_12_method_17_code 289 = .ok (.iadd, 1) := by decide +kernel
theorem d_Model_readBehind_290 : decode prog_12_method_17_code 290 = .ok (.ireturn, 1) := by decide +kernel
theorem d_Model_readBehind_291 : decode prog_12_method_17_code 291 = .ok (.iconst (-1), 1) := by decide +kernel
theorem d_Model_readBehind_292 : decode prog_12_method_17_code 292 = .ok (.iload_n 3, 1) := by decide +kernel
theorem d_Model_readBehind_293 : decode prog_12_method_17_code 293 = .ok (.isub, 1) := by decide +kernel
theorem d_Model_readBehind_294 : decode prog_12_method_17_code 294 = .ok (.ireturn, 1) := by decide +kernel
def Model_readBehind_jn291 (call : ax_Cf)  (x3 : Int32) (h : ax_Hp) : ax_O :=
  ax_ri ((-1) - x3) h
set_option maxHeartbeats 4000000 in
set_option maxRecDepth 20000 in
theorem Model_readBehind_jq291 {l : Launch} {G : ax_G} {d : Nat} {call : ax_Cf} (hcall : ax_Hc l G d call) {p : Program} {e : Env} {s : State} {mi : MethodId} {args : Array Value} {below : List Frame} {meth : Method} {c : Code} {h0 : ax_Hp} (B : ax_B G p s mi meth c "SchemaDeskModel" prog_12_method_17_code 8 (some (.int))) (E : c.exceptionTable.isEmpty = true) (Nm : meth.name = y_Model_readBehind.name)   (x3 : Int32) (h : ax_Hp) : ax_W G p l e s mi args below meth c 8 (d + 1) h0 291 [(3, ax_I x3)] [] h (Model_readBehind_jn291 call  x3 h) := by
  unfold Model_readBehind_jn291
  refine ax_iconst (v := (-1)) B d_Model_readBehind_291 (by decide) ?_
  refine ax_iload_n B 0 d_Model_readBehind_292 rfl rfl ?_
  refine ax_isub B d_Model_readBehind_293 ?_
  exact ax_ireturn B d_Model_readBehind_294
def Model_readBehind_jn277 (call : ax_Cf)  (x0 : Option Nat) (x3 : Int32) (h : ax_Hp) : ax_O :=
  (ax_gi h x0 9 26).bind fun v16 =>
  (ax_pf h x0 9 26 (ax_I (v16 - 1))).bind fun h17 =>
  ax_ri (x3 + 1) h17
set_option maxHeartbeats 4000000 in
set_option maxRecDepth 20000 in
theorem Model_readBehind_jq277 {l : Launch} {G : ax_G} {d : Nat} {call : ax_Cf} (hcall : ax_Hc l G d call) {p : Program} {e : Env} {s : State} {mi : MethodId} {args : Array Value} {below : List Frame} {meth : Method} {c : Code} {h0 : ax_Hp} (B : ax_B G p s mi meth c "SchemaDeskModel" prog_12_method_17_code 8 (some (.int))) (E : c.exceptionTable.isEmpty = true) (Nm : meth.name = y_Model_readBehind.name)   (x0 : Option Nat) (x3 : Int32) (h : ax_Hp) : ax_W G p l e s mi args below meth c 8 (d + 1) h0 277 [(0, ax_A x0), (3, ax_I x3)] [] h (Model_readBehind_jn277 call  x0 x3 h) := by
  unfold Model_readBehind_jn277
  refine ax_aload_n B 0 d_Model_readBehind_277 rfl rfl ?_
  refine ax_dup B d_Model_readBehind_278 rfl ?_
  refine ax_getfi B cl_Model (by decide) fk_Model_133 d_Model_readBehind_279 (fun v16 => ?_)
  refine ax_iconst (v := 1) B d_Model_readBehind_282 (by decide) ?_
  refine ax_isub B d_Model_readBehind_283 ?_
  refine ax_putf (v := ax_I (v16 - 1)) B cl_Model (by decide) fk_Model_133 (Or.inl rfl) (fun _ => rfl) (fun _ => rfl) d_Model_readBehind_284 (fun h17 => ?_)
  refine ax_iload_n B 1 d_Model_readBehind_287 rfl rfl ?_
  refine ax_iconst (v := 1) B d_Model_readBehind_288 (by decide) ?_
  refine ax_iadd B d_Model_readBehind_289 ?_
  exact ax_ireturn B d_Model_readBehind_290
def Model_readBehind_jn243 (call : ax_Cf)  (x0 : Option Nat) (x1 : Int32) (x3 : Int32) (x4 : Int32) (h : ax_Hp) : ax_O :=
  ax_on h x0 9 <| ax_ci (call 155 [ax_A x0, ax_I x1, ax_I x3] h) fun v13 h12 =>
  if v13 = 41 then
    (ax_gr h12 x0 9 17).bind fun v14 =>
    (ax_ldi h12 v14 3 x4).bind fun v15 =>
    if v15 = 82 then
      Model_readBehind_jn277 call x0 x3 h12
    else
      (ax_gr h12 x0 9 20).bind fun v18 =>
      (ax_ldi h12 v18 1 x4).bind fun v19 =>
      if v19 ≤ 1 then
        Model_readBehind_jn291 call x3 h12
      else
        Model_readBehind_jn277 call x0 x3 h12
  else
    Model_readBehind_jn291 call x3 h12
set_option maxHeartbeats 4000000 in
set_option maxRecDepth 20000 in
theorem Model_readBehind_jq243 {l : Launch} {G : ax_G} {d : Nat} {call : ax_Cf} (hcall : ax_Hc l G d call) {p : Program} {e : Env} {s : State} {mi : MethodId} {args : Array Value} {below : List Frame} {meth : Method} {c : Code} {h0 : ax_Hp} (B : ax_B G p s mi meth c "SchemaDeskModel" prog_12_method_17_code 8 (some (.int))) (E : c.exceptionTable.isEmpty = true) (Nm : meth.name = y_Model_readBehind.name)   (x0 : Option Nat) (x1 : Int32) (x3 : Int32) (x4 : Int32) (h : ax_Hp) : ax_W G p l e s mi args below meth c 8 (d + 1) h0 243 [(0, ax_A x0), (1, ax_I x1), (3, ax_I x3), (4, ax_I x4)] [] h (Model_readBehind_jn243 call  x0 x1 x3 x4 h) := by
  unfold Model_readBehind_jn243
  refine ax_aload_n B 0 d_Model_readBehind_243 rfl rfl ?_
  refine ax_iload_n B 1 d_Model_readBehind_244 rfl rfl ?_
  refine ax_iload_n B 2 d_Model_readBehind_245 rfl rfl ?_
  refine ax_callVi (av := [ax_I x1, ax_I x3]) (rest := []) B E hm_Model_look cl_Model rfl wd_1096 wp_41 lk_Model_136 d_Model_readBehind_246 rfl (Nat.le_of_ble_eq_true rfl) (fun _ _ hh => hcall 155 _ _ _ _ hh) (fun v13 h12 => ?_)
  refine ax_bipush (v := 41) B d_Model_readBehind_249 (by decide) ?_
  refine ax_icmp_ne B 291 d_Model_readBehind_251 (by decide) ?_ ?_
  · refine ax_sub (tv2 := [(3, ax_I x3)]) [2] rfl ?_
    exact Model_readBehind_jq291 hcall B E Nm x3 h12
  · refine ax_aload_n B 0 d_Model_readBehind_254 rfl rfl ?_
    refine ax_getfr B cl_Model (by decide) fk_Model_48 d_Model_readBehind_255 (fun v14 => ?_)
    refine ax_iload B 3 d_Model_readBehind_258 rfl ?_
    refine ax_cald (kd := 3) B (by decide) rfl d_Model_readBehind_260 (fun v15 => ?_)
    refine ax_bipush (v := 82) B d_Model_readBehind_261 (by decide) ?_
    refine ax_icmp_eq B 277 d_Model_readBehind_263 (by decide) ?_ ?_
    · refine ax_sub (tv2 := [(0, ax_A x0), (3, ax_I x3)]) [0, 2] rfl ?_
      exact Model_readBehind_jq277 hcall B E Nm x0 x3 h12
    · refine ax_aload_n B 0 d_Model_readBehind_266 rfl rfl ?_
      refine ax_getfr B cl_Model (by decide) fk_Model_57 d_Model_readBehind_267 (fun v18 => ?_)
      refine ax_iload B 3 d_Model_readBehind_270 rfl ?_
      refine ax_iald (kd := 1) B (by decide) rfl d_Model_readBehind_272 (fun v19 => ?_)
      refine ax_iconst (v := 1) B d_Model_readBehind_273 (by decide) ?_
      refine ax_icmp_le B 291 d_Model_readBehind_274 (by decide) ?_ ?_
      · refine ax_sub (tv2 := [(3, ax_I x3)]) [2] rfl ?_
        exact Model_readBehind_jq291 hcall B E Nm x3 h12
      · refine ax_sub (tv2 := [(0, ax_A x0), (3, ax_I x3)]) [0, 2] rfl ?_
        exact Model_readBehind_jq277 hcall B E Nm x0 x3 h12
def Model_readBehind_jn236 (call : ax_Cf)  (x3 : Int32) (s0 : Int32) (s1 : Option Nat) (h : ax_Hp) : ax_O :=
  (ax_pf h s1 9 38 (ax_I s0)).bind fun h26 =>
  ax_ri (x3 + 1) h26
set_option maxHeartbeats 4000000 in
set_option maxRecDepth 20000 in
theorem Model_readBehind_jq236 {l : Launch} {G : ax_G} {d : Nat} {call : ax_Cf} (hcall : ax_Hc l G d call) {p : Program} {e : Env} {s : State} {mi : MethodId} {args : Array Value} {below : List Frame} {meth : Method} {c : Code} {h0 : ax_Hp} (B : ax_B G p s mi meth c "SchemaDeskModel" prog_12_method_17_code 8 (some (.int))) (E : c.exceptionTable.isEmpty = true) (Nm : meth.name = y_Model_readBehind.name)   (x3 : Int32) (s0 : Int32) (s1 : Option Nat) (h : ax_Hp) : ax_W G p l e s mi args below meth c 8 (d + 1) h0 236 [(3, ax_I x3)] [ax_I s0, ax_A s1] h (Model_readBehind_jn236 call  x3 s0 s1 h) := by
  unfold Model_readBehind_jn236
  refine ax_putf (v := ax_I s0) B cl_Model (by decide) fk_Model_155 (Or.inl rfl) (fun _ => rfl) (fun _ => rfl) d_Model_readBehind_236 (fun h26 => ?_)
  refine ax_iload_n B 0 d_Model_readBehind_239 rfl rfl ?_
  refine ax_iconst (v := 1) B d_Model_readBehind_240 (by decide) ?_
  refine ax_iadd B d_Model_readBehind_241 ?_
  exact ax_ireturn B d_Model_readBehind_242
def Model_readBehind_jn215 (call : ax_Cf)  (x0 : Option Nat) (x1 : Int32) (x3 : Int32) (x4 : Int32) (s0 : Int32) (s1 : Int32) (h : ax_Hp) : ax_O :=
  if s0 ≤ s1 then
    Model_readBehind_jn243 call x0 x1 x3 x4 h
  else
    (ax_gr h x0 9 17).bind fun v24 =>
    (ax_ldi h v24 3 x4).bind fun v25 =>
    if v25 = 85 then
      Model_readBehind_jn236 call x3 2 x0 h
    else
      Model_readBehind_jn236 call x3 3 x0 h
set_option maxHeartbeats 4000000 in
set_option maxRecDepth 20000 in
theorem Model_readBehind_jq215 {l : Launch} {G : ax_G} {d : Nat} {call : ax_Cf} (hcall : ax_Hc l G d call) {p : Program} {e : Env} {s : State} {mi : MethodId} {args : Array Value} {below : List Frame} {meth : Method} {c : Code} {h0 : ax_Hp} (B : ax_B G p s mi meth c "SchemaDeskModel" prog_12_method_17_code 8 (some (.int))) (E : c.exceptionTable.isEmpty = true) (Nm : meth.name = y_Model_readBehind.name)   (x0 : Option Nat) (x1 : Int32) (x3 : Int32) (x4 : Int32) (s0 : Int32) (s1 : Int32) (h : ax_Hp) : ax_W G p l e s mi args below meth c 8 (d + 1) h0 215 [(0, ax_A x0), (1, ax_I x1), (3, ax_I x3), (4, ax_I x4)] [ax_I s0, ax_I s1] h (Model_readBehind_jn215 call  x0 x1 x3 x4 s0 s1 h) := by
  unfold Model_readBehind_jn215
  refine ax_icmp_ge B 243 d_Model_readBehind_215 (by decide) ?_ ?_
  · refine ax_sub (tv2 := [(0, ax_A x0), (1, ax_I x1), (3, ax_I x3), (4, ax_I x4)]) [0, 1, 2, 3] rfl ?_
    exact Model_readBehind_jq243 hcall B E Nm x0 x1 x3 x4 h
  · refine ax_aload_n B 0 d_Model_readBehind_218 rfl rfl ?_
    refine ax_aload_n B 0 d_Model_readBehind_219 rfl rfl ?_
    refine ax_getfr B cl_Model (by decide) fk_Model_48 d_Model_readBehind_220 (fun v24 => ?_)
    refine ax_iload B 3 d_Model_readBehind_223 rfl ?_
    refine ax_cald (kd := 3) B (by decide) rfl d_Model_readBehind_225 (fun v25 => ?_)
    refine ax_bipush (v := 85) B d_Model_readBehind_226 (by decide) ?_
    refine ax_icmp_ne B 235 d_Model_readBehind_228 (by decide) ?_ ?_
    · refine ax_iconst (v := 3) B d_Model_readBehind_235 (by decide) ?_
      refine ax_sub (tv2 := [(3, ax_I x3)]) [2] rfl ?_
      exact Model_readBehind_jq236 hcall B E Nm x3 3 x0 h
    · refine ax_iconst (v := 2) B d_Model_readBehind_231 (by decide) ?_
      refine ax_goto B 236 d_Model_readBehind_232 (by decide) ?_
      refine ax_sub (tv2 := [(3, ax_I x3)]) [2] rfl ?_
      exact Model_readBehind_jq236 hcall B E Nm x3 2 x0 h
def Model_readBehind_jn179 (call : ax_Cf)  (x0 : Option Nat) (x1 : Int32) (x3 : Int32) (x4 : Int32) (h : ax_Hp) : ax_O :=
  ax_on h x0 9 <| ax_ci (call 155 [ax_A x0, ax_I x1, ax_I x3] h) fun v11 h10 =>
  if v11 = 44 then
    (ax_gr h10 x0 9 20).bind fun v20 =>
    (ax_ldi h10 v20 1 x4).bind fun v21 =>
    (ax_gr h10 x0 9 17).bind fun v22 =>
    (ax_ldi h10 v22 3 x4).bind fun v23 =>
    if v23 = 85 then
      Model_readBehind_jn215 call x0 x1 x3 x4 4 v21 h10
    else
      Model_readBehind_jn215 call x0 x1 x3 x4 6 v21 h10
  else
    Model_readBehind_jn243 call x0 x1 x3 x4 h10
set_option maxHeartbeats 4000000 in
set_option maxRecDepth 20000 in
theorem Model_readBehind_jq179 {l : Launch} {G : ax_G} {d : Nat} {call : ax_Cf} (hcall : ax_Hc l G d call) {p : Program} {e : Env} {s : State} {mi : MethodId} {args : Array Value} {below : List Frame} {meth : Method} {c : Code} {h0 : ax_Hp} (B : ax_B G p s mi meth c "SchemaDeskModel" prog_12_method_17_code 8 (some (.int))) (E : c.exceptionTable.isEmpty = true) (Nm : meth.name = y_Model_readBehind.name)   (x0 : Option Nat) (x1 : Int32) (x3 : Int32) (x4 : Int32) (h : ax_Hp) : ax_W G p l e s mi args below meth c 8 (d + 1) h0 179 [(0, ax_A x0), (1, ax_I x1), (3, ax_I x3), (4, ax_I x4)] [] h (Model_readBehind_jn179 call  x0 x1 x3 x4 h) := by
  unfold Model_readBehind_jn179
  refine ax_aload_n B 0 d_Model_readBehind_179 rfl rfl ?_
  refine ax_iload_n B 1 d_Model_readBehind_180 rfl rfl ?_
  refine ax_iload_n B 2 d_Model_readBehind_181 rfl rfl ?_
  refine ax_callVi (av := [ax_I x1, ax_I x3]) (rest := []) B E hm_Model_look cl_Model rfl wd_1096 wp_41 lk_Model_136 d_Model_readBehind_182 rfl (Nat.le_of_ble_eq_true rfl) (fun _ _ hh => hcall 155 _ _ _ _ hh) (fun v11 h10 => ?_)
  refine ax_bipush (v := 44) B d_Model_readBehind_185 (by decide) ?_
  refine ax_icmp_ne B 243 d_Model_readBehind_187 (by decide) ?_ ?_
  · refine ax_sub (tv2 := [(0, ax_A x0), (1, ax_I x1), (3, ax_I x3), (4, ax_I x4)]) [0, 1, 2, 3] rfl ?_
    exact Model_readBehind_jq243 hcall B E Nm x0 x1 x3 x4 h10
  · refine ax_aload_n B 0 d_Model_readBehind_190 rfl rfl ?_
    refine ax_getfr B cl_Model (by decide) fk_Model_57 d_Model_readBehind_191 (fun v20 => ?_)
    refine ax_iload B 3 d_Model_readBehind_194 rfl ?_
    refine ax_iald (kd := 1) B (by decide) rfl d_Model_readBehind_196 (fun v21 => ?_)
    refine ax_aload_n B 0 d_Model_readBehind_197 rfl rfl ?_
    refine ax_getfr B cl_Model (by decide) fk_Model_48 d_Model_readBehind_198 (fun v22 => ?_)
    refine ax_iload B 3 d_Model_readBehind_201 rfl ?_
    refine ax_cald (kd := 3) B (by decide) rfl d_Model_readBehind_203 (fun v23 => ?_)
    refine ax_bipush (v := 85) B d_Model_readBehind_204 (by decide) ?_
    refine ax_icmp_ne B 213 d_Model_readBehind_206 (by decide) ?_ ?_
    · refine ax_bipush (v := 6) B d_Model_readBehind_213 (by decide) ?_
      refine ax_sub (tv2 := [(0, ax_A x0), (1, ax_I x1), (3, ax_I x3), (4, ax_I x4)]) [0, 1, 2, 3] rfl ?_
      exact Model_readBehind_jq215 hcall B E Nm x0 x1 x3 x4 6 v21 h10
    · refine ax_iconst (v := 4) B d_Model_readBehind_209 (by decide) ?_
      refine ax_goto B 215 d_Model_readBehind_210 (by decide) ?_
      refine ax_sub (tv2 := [(0, ax_A x0), (1, ax_I x1), (3, ax_I x3), (4, ax_I x4)]) [0, 1, 2, 3] rfl ?_
      exact Model_readBehind_jq215 hcall B E Nm x0 x1 x3 x4 4 v21 h10
def Model_readBehind_bd144 (call : ax_Cf)  (k144 : Option Nat → Int32 → Int32 → Int32 → Int32 → ax_Hp → ax_O) (x0 : Option Nat) (x1 : Int32) (x4 : Int32) (x6 : Int32) (x7 : Int32) (h : ax_Hp) : ax_O :=
  if x6 ≤ x7 then
    (ax_pf h x0 9 38 (ax_I 1)).bind fun h36 =>
    Model_readBehind_jn179 call x0 x1 x6 x4 h36
  else
    (ax_gr h x0 9 25).bind fun v37 =>
    (ax_stz h v37 4 ((160 * x1) + x7) 1).bind fun h38 =>
    k144 x0 x1 x4 x6 (x7 + 1) h38
def Model_readBehind_lp144 (call : ax_Cf)  : Nat → Option Nat → Int32 → Int32 → Int32 → Int32 → ax_Hp → ax_O
  | 0 => fun _ _ _ _ _ _ => none
  | n + 1 => Model_readBehind_bd144 call  (Model_readBehind_lp144 call  n)
set_option maxHeartbeats 4000000 in
set_option maxRecDepth 20000 in
theorem Model_readBehind_lb144 {l : Launch} {G : ax_G} {d : Nat} {call : ax_Cf} (hcall : ax_Hc l G d call) {p : Program} {e : Env} {s : State} {mi : MethodId} {args : Array Value} {below : List Frame} {meth : Method} {c : Code} {h0 : ax_Hp} (B : ax_B G p s mi meth c "SchemaDeskModel" prog_12_method_17_code 8 (some (.int))) (E : c.exceptionTable.isEmpty = true) (Nm : meth.name = y_Model_readBehind.name)   {k144 : Option Nat → Int32 → Int32 → Int32 → Int32 → ax_Hp → ax_O} (hk144 : ∀ (x0 : Option Nat) (x1 : Int32) (x4 : Int32) (x6 : Int32) (x7 : Int32) (h : ax_Hp), ax_W G p l e s mi args below meth c 8 (d + 1) h0 144 [(0, ax_A x0), (1, ax_I x1), (4, ax_I x4), (6, ax_I x6), (7, ax_I x7)] [] h (k144 x0 x1 x4 x6 x7 h)) (x0 : Option Nat) (x1 : Int32) (x4 : Int32) (x6 : Int32) (x7 : Int32) (h : ax_Hp) : ax_W G p l e s mi args below meth c 8 (d + 1) h0 144 [(0, ax_A x0), (1, ax_I x1), (4, ax_I x4), (6, ax_I x6), (7, ax_I x7)] [] h (Model_readBehind_bd144 call  k144 x0 x1 x4 x6 x7 h) := by
  unfold Model_readBehind_bd144
  refine ax_iload B 4 d_Model_readBehind_144 rfl ?_
  refine ax_iload B 3 d_Model_readBehind_146 rfl ?_
  refine ax_icmp_ge B 171 d_Model_readBehind_148 (by decide) ?_ ?_
  · refine ax_iload B 3 d_Model_readBehind_171 rfl ?_
    refine ax_istore_n (tv2 := [(3, ax_I x6), (0, ax_A x0), (1, ax_I x1), (4, ax_I x4), (6, ax_I x6), (7, ax_I x7)]) B d_Model_readBehind_173 rfl (by decide) rfl ?_
    refine ax_aload_n B 1 d_Model_readBehind_174 rfl rfl ?_
    refine ax_iconst (v := 1) B d_Model_readBehind_175 (by decide) ?_
    refine ax_putf (v := ax_I 1) B cl_Model (by decide) fk_Model_155 (Or.inl rfl) (fun _ => rfl) (fun _ => rfl) d_Model_readBehind_176 (fun h36 => ?_)
    refine ax_sub (tv2 := [(0, ax_A x0), (1, ax_I x1), (3, ax_I x6), (4, ax_I x4)]) [1, 2, 0, 3] rfl ?_
    exact Model_readBehind_jq179 hcall B E Nm x0 x1 x6 x4 h36
  · refine ax_aload_n B 0 d_Model_readBehind_151 rfl rfl ?_
    refine ax_getfr B cl_Model (by decide) fk_Model_72 d_Model_readBehind_152 (fun v37 => ?_)
    refine ax_sipush (v := 160) B d_Model_readBehind_155 (by decide) ?_
    refine ax_iload_n B 1 d_Model_readBehind_158 rfl rfl ?_
    refine ax_imul B d_Model_readBehind_159 ?_
    refine ax_iload B 4 d_Model_readBehind_160 rfl ?_
    refine ax_iadd B d_Model_readBehind_162 ?_
    refine ax_iconst (v := 1) B d_Model_readBehind_163 (by decide) ?_
    refine ax_zast (kd := 4) B (by decide) (by decide) rfl d_Model_readBehind_164 (fun h38 => ?_)
    refine ax_iinc (v := x7 + 1) (tv2 := [(7, ax_I (x7 + 1)), (0, ax_A x0), (1, ax_I x1), (4, ax_I x4), (6, ax_I x6)]) B 4 d_Model_readBehind_165 rfl (congrArg (_ + ·) (by decide)) (by decide) rfl ?_
    refine ax_goto B 144 d_Model_readBehind_168 (by decide) ?_
    refine ax_sub (tv2 := [(0, ax_A x0), (1, ax_I x1), (4, ax_I x4), (6, ax_I x6), (7, ax_I (x7 + 1))]) [1, 2, 3, 4, 0] rfl ?_
    exact hk144 x0 x1 x4 x6 (x7 + 1) h38
theorem Model_readBehind_lq144 {l : Launch} {G : ax_G} {d : Nat} {call : ax_Cf} (hcall : ax_Hc l G d call) {p : Program} {e : Env} {s : State} {mi : MethodId} {args : Array Value} {below : List Frame} {meth : Method} {c : Code} {h0 : ax_Hp} (B : ax_B G p s mi meth c "SchemaDeskModel" prog_12_method_17_code 8 (some (.int))) (E : c.exceptionTable.isEmpty = true) (Nm : meth.name = y_Model_readBehind.name)   : ∀ (n : Nat) (x0 : Option Nat) (x1 : Int32) (x4 : Int32) (x6 : Int32) (x7 : Int32) (h : ax_Hp), ax_W G p l e s mi args below meth c 8 (d + 1) h0 144 [(0, ax_A x0), (1, ax_I x1), (4, ax_I x4), (6, ax_I x6), (7, ax_I x7)] [] h (Model_readBehind_lp144 call  n x0 x1 x4 x6 x7 h)
  | 0, _, _, _, _, _, _ => ax_none
  | n + 1, x0, x1, x4, x6, x7, h => Model_readBehind_lb144 hcall B E Nm   (Model_readBehind_lq144 hcall B E Nm   n) x0 x1 x4 x6 x7 h
def Model_readBehind_b (call : ax_Cf) (x0 : Option Nat) (x1 : Int32) (x2 : Int32) (h : ax_Hp) : ax_O :=
  (ax_pf h x0 9 38 (ax_I 1)).bind fun h1 =>
  (ax_gi h1 x0 9 26).bind fun v2 =>
  if v2 = 0 then
    (ax_pf h1 x0 9 38 (ax_I 0)).bind fun h41 =>
    (ax_gr h41 x0 9 15).bind fun v42 =>
    (ax_ldi h41 v42 1 x1).bind fun v43 =>
    if x2 = v43 then
      ax_ri x2 h41
    else
      ax_ri ((-1) - x2) h41
  else
    (ax_gr h1 x0 9 27).bind fun v3 =>
    (ax_gi h1 x0 9 26).bind fun v4 =>
    (ax_ldi h1 v3 1 (v4 - 1)).bind fun v5 =>
    (ax_gr h1 x0 9 17).bind fun v6 =>
    (ax_ldi h1 v6 3 v5).bind fun v7 =>
    if v7 = 65 then
      (ax_gi h1 x0 9 26).bind fun v39 =>
      (ax_pf h1 x0 9 26 (ax_I (v39 - 1))).bind fun h40 =>
      ax_ri x2 h40
    else
      (ax_gr h1 x0 9 17).bind fun v8 =>
      (ax_ldi h1 v8 3 v5).bind fun v9 =>
      if v9 = 82 then
        ax_on h1 x0 9 <| ax_ci (call 155 [ax_A x0, ax_I x1, ax_I x2] h1) fun v28 h27 =>
        if v28 = 61 then
          (ax_gr h27 x0 9 28).bind fun v29 =>
          (ax_gi h27 x0 9 26).bind fun v30 =>
          (ax_ldi h27 v29 1 (v30 - 1)).bind fun v31 =>
          (ax_gr h27 x0 9 24).bind fun v32 =>
          (ax_st h27 v32 1 v31 (ax_I (x2 + 1))).bind fun h33 =>
          ax_on h33 x0 9 <| ax_ci (call 156 [ax_A x0, ax_I x1, ax_I v31, ax_I (x2 + 1), ax_I 0] h33) fun v35 h34 =>
          if 0 ≤ v35 then
            Model_readBehind_lp144 call ax_fuel x0 x1 v5 v35 x2 h34
          else
            ax_ri v35 h34
        else
          Model_readBehind_jn179 call x0 x1 x2 v5 h27
      else
        Model_readBehind_jn179 call x0 x1 x2 v5 h1
set_option maxHeartbeats 4000000 in
set_option maxRecDepth 20000 in
theorem Model_readBehind_t {l : Launch} {G : ax_G} {d : Nat} {call : ax_Cf} (hcall : ax_Hc l G d call) (x0 : Option Nat) (x1 : Int32) (x2 : Int32) (h : ax_Hp) {r : ax_Rs} {h' : ax_Hp} (ho : Model_readBehind_b call x0 x1 x2 h = some (r, h')) : ax_C l G (d + 1) y_Model_readBehind (.code y_Model_readBehind prog_12_method_17_code 8 (some (.int))) [ax_A x0, ax_I x1, ax_I x2] h r h' := by
  refine ax_enter (by decide) (Nat.le_of_ble_eq_true rfl) ho (fun p e s mi args below meth c B E Nm => ?_)
  have B : ax_B G p s mi meth c "SchemaDeskModel" prog_12_method_17_code 8 (some (.int)) := B
  show ax_W G p l e s mi args below meth c 8 (d + 1) h 0 [(0, ax_A x0), (1, ax_I x1), (2, ax_I x2)] [] h (Model_readBehind_b call x0 x1 x2 h)
  unfold Model_readBehind_b
  refine ax_iload_n B 2 d_Model_readBehind_0 rfl rfl ?_
  refine ax_istore_n (tv2 := [(3, ax_I x2), (0, ax_A x0), (1, ax_I x1), (2, ax_I x2)]) B d_Model_readBehind_1 rfl (by decide) rfl ?_
  refine ax_aload_n B 1 d_Model_readBehind_2 rfl rfl ?_
  refine ax_iconst (v := 1) B d_Model_readBehind_3 (by decide) ?_
  refine ax_putf (v := ax_I 1) B cl_Model (by decide) fk_Model_155 (Or.inl rfl) (fun _ => rfl) (fun _ => rfl) d_Model_readBehind_4 (fun h1 => ?_)
  refine ax_aload_n B 1 d_Model_readBehind_7 rfl rfl ?_
  refine ax_getfi B cl_Model (by decide) fk_Model_133 d_Model_readBehind_8 (fun v2 => ?_)
  refine ax_if_ne B 37 d_Model_readBehind_11 (by decide) ?_ ?_
  · refine ax_aload_n B 1 d_Model_readBehind_37 rfl rfl ?_
    refine ax_getfr B cl_Model (by decide) fk_Model_76 d_Model_readBehind_38 (fun v3 => ?_)
    refine ax_aload_n B 1 d_Model_readBehind_41 rfl rfl ?_
    refine ax_getfi B cl_Model (by decide) fk_Model_133 d_Model_readBehind_42 (fun v4 => ?_)
    refine ax_iconst (v := 1) B d_Model_readBehind_45 (by decide) ?_
    refine ax_isub B d_Model_readBehind_46 ?_
    refine ax_iald (kd := 1) B (by decide) rfl d_Model_readBehind_47 (fun v5 => ?_)
    refine ax_istore (tv2 := [(4, ax_I v5), (3, ax_I x2), (0, ax_A x0), (1, ax_I x1), (2, ax_I x2)]) B d_Model_readBehind_48 (by decide) rfl ?_
    refine ax_aload_n B 2 d_Model_readBehind_50 rfl rfl ?_
    refine ax_getfr B cl_Model (by decide) fk_Model_48 d_Model_readBehind_51 (fun v6 => ?_)
    refine ax_iload B 0 d_Model_readBehind_54 rfl ?_
    refine ax_cald (kd := 3) B (by decide) rfl d_Model_readBehind_56 (fun v7 => ?_)
    refine ax_bipush (v := 65) B d_Model_readBehind_57 (by decide) ?_
    refine ax_icmp_ne B 74 d_Model_readBehind_59 (by decide) ?_ ?_
    · refine ax_aload_n B 2 d_Model_readBehind_74 rfl rfl ?_
      refine ax_getfr B cl_Model (by decide) fk_Model_48 d_Model_readBehind_75 (fun v8 => ?_)
      refine ax_iload B 0 d_Model_readBehind_78 rfl ?_
      refine ax_cald (kd := 3) B (by decide) rfl d_Model_readBehind_80 (fun v9 => ?_)
      refine ax_bipush (v := 82) B d_Model_readBehind_81 (by decide) ?_
      refine ax_icmp_ne B 179 d_Model_readBehind_83 (by decide) ?_ ?_
      · refine ax_sub (tv2 := [(0, ax_A x0), (1, ax_I x1), (3, ax_I x2), (4, ax_I v5)]) [2, 3, 1, 0] rfl ?_
        exact Model_readBehind_jq179 hcall B E Nm x0 x1 x2 v5 h1
      · refine ax_aload_n B 2 d_Model_readBehind_86 rfl rfl ?_
        refine ax_iload_n B 3 d_Model_readBehind_87 rfl rfl ?_
        refine ax_iload_n B 1 d_Model_readBehind_88 rfl rfl ?_
        refine ax_callVi (av := [ax_I x1, ax_I x2]) (rest := []) B E hm_Model_look cl_Model rfl wd_1096 wp_41 lk_Model_136 d_Model_readBehind_89 rfl (Nat.le_of_ble_eq_true rfl) (fun _ _ hh => hcall 155 _ _ _ _ hh) (fun v28 h27 => ?_)
        refine ax_bipush (v := 61) B d_Model_readBehind_92 (by decide) ?_
        refine ax_icmp_ne B 179 d_Model_readBehind_94 (by decide) ?_ ?_
        · refine ax_sub (tv2 := [(0, ax_A x0), (1, ax_I x1), (3, ax_I x2), (4, ax_I v5)]) [2, 3, 1, 0] rfl ?_
          exact Model_readBehind_jq179 hcall B E Nm x0 x1 x2 v5 h27
        · refine ax_aload_n B 2 d_Model_readBehind_97 rfl rfl ?_
          refine ax_getfr B cl_Model (by decide) fk_Model_79 d_Model_readBehind_98 (fun v29 => ?_)
          refine ax_aload_n B 2 d_Model_readBehind_101 rfl rfl ?_
          refine ax_getfi B cl_Model (by decide) fk_Model_133 d_Model_readBehind_102 (fun v30 => ?_)
          refine ax_iconst (v := 1) B d_Model_readBehind_105 (by decide) ?_
          refine ax_isub B d_Model_readBehind_106 ?_
          refine ax_iald (kd := 1) B (by decide) rfl d_Model_readBehind_107 (fun v31 => ?_)
          refine ax_istore (tv2 := [(5, ax_I v31), (4, ax_I v5), (3, ax_I x2), (0, ax_A x0), (1, ax_I x1), (2, ax_I x2)]) B d_Model_readBehind_108 (by decide) rfl ?_
          refine ax_aload_n B 3 d_Model_readBehind_110 rfl rfl ?_
          refine ax_getfr B cl_Model (by decide) fk_Model_69 d_Model_readBehind_111 (fun v32 => ?_)
          refine ax_iload B 0 d_Model_readBehind_114 rfl ?_
          refine ax_iload_n B 2 d_Model_readBehind_116 rfl rfl ?_
          refine ax_iconst (v := 1) B d_Model_readBehind_117 (by decide) ?_
          refine ax_iadd B d_Model_readBehind_118 ?_
          refine ax_iast (kd := 1) B (by decide) (by decide) rfl d_Model_readBehind_119 (fun h33 => ?_)
          refine ax_aload_n B 3 d_Model_readBehind_120 rfl rfl ?_
          refine ax_iload_n B 4 d_Model_readBehind_121 rfl rfl ?_
          refine ax_iload B 0 d_Model_readBehind_122 rfl ?_
          refine ax_iload_n B 2 d_Model_readBehind_124 rfl rfl ?_
          refine ax_iconst (v := 1) B d_Model_readBehind_125 (by decide) ?_
          refine ax_iadd B d_Model_readBehind_126 ?_
          refine ax_iconst (v := 0) B d_Model_readBehind_127 (by decide) ?_
          refine ax_callVi (av := [ax_I x1, ax_I v31, ax_I (x2 + 1), ax_I 0]) (rest := []) B E hm_Model_readText cl_Model rfl wd_1100 wp_42 lk_Model_166 d_Model_readBehind_128 rfl (Nat.le_of_ble_eq_true rfl) (fun _ _ hh => hcall 156 _ _ _ _ hh) (fun v35 h34 => ?_)
          refine ax_istore (tv2 := [(6, ax_I v35), (5, ax_I v31), (4, ax_I v5), (3, ax_I x2), (0, ax_A x0), (1, ax_I x1), (2, ax_I x2)]) B d_Model_readBehind_131 (by decide) rfl ?_
          refine ax_iload B 0 d_Model_readBehind_133 rfl ?_
          refine ax_if_ge B 141 d_Model_readBehind_135 (by decide) ?_ ?_
          · refine ax_iload_n B 3 d_Model_readBehind_141 rfl rfl ?_
            refine ax_istore (tv2 := [(7, ax_I x2), (6, ax_I v35), (5, ax_I v31), (4, ax_I v5), (3, ax_I x2), (0, ax_A x0), (1, ax_I x1), (2, ax_I x2)]) B d_Model_readBehind_142 (by decide) rfl ?_
            refine ax_sub (tv2 := [(0, ax_A x0), (1, ax_I x1), (4, ax_I v5), (6, ax_I v35), (7, ax_I x2)]) [5, 6, 3, 1, 0] rfl ?_
            exact Model_readBehind_lq144 hcall B E Nm ax_fuel x0 x1 v5 v35 x2 h34
          · refine ax_iload B 0 d_Model_readBehind_138 rfl ?_
            exact ax_ireturn B d_Model_readBehind_140
    · refine ax_aload_n B 2 d_Model_readBehind_62 rfl rfl ?_
      refine ax_dup B d_Model_readBehind_63 rfl ?_
      refine ax_getfi B cl_Model (by decide) fk_Model_133 d_Model_readBehind_64 (fun v39 => ?_)
      refine ax_iconst (v := 1) B d_Model_readBehind_67 (by decide) ?_
      refine ax_isub B d_Model_readBehind_68 ?_
      refine ax_putf (v := ax_I (v39 - 1)) B cl_Model (by decide) fk_Model_133 (Or.inl rfl) (fun _ => rfl) (fun _ => rfl) d_Model_readBehind_69 (fun h40 => ?_)
      refine ax_iload_n B 1 d_Model_readBehind_72 rfl rfl ?_
      exact ax_ireturn B d_Model_readBehind_73
  · refine ax_aload_n B 1 d_Model_readBehind_14 rfl rfl ?_
    refine ax_iconst (v := 0) B d_Model_readBehind_15 (by decide) ?_
    refine ax_putf (v := ax_I 0) B cl_Model (by decide) fk_Model_155 (Or.inl rfl) (fun _ => rfl) (fun _ => rfl) d_Model_readBehind_16 (fun h41 => ?_)
    refine ax_iload_n B 0 d_Model_readBehind_19 rfl rfl ?_
    refine ax_aload_n B 1 d_Model_readBehind_20 rfl rfl ?_
    refine ax_getfr B cl_Model (by decide) fk_Model_42 d_Model_readBehind_21 (fun v42 => ?_)
    refine ax_iload_n B 2 d_Model_readBehind_24 rfl rfl ?_
    refine ax_iald (kd := 1) B (by decide) rfl d_Model_readBehind_25 (fun v43 => ?_)
    refine ax_icmp_ne B 33 d_Model_readBehind_26 (by decide) ?_ ?_
    · refine ax_iconst (v := (-1)) B d_Model_readBehind_33 (by decide) ?_
      refine ax_iload_n B 0 d_Model_readBehind_34 rfl rfl ?_
      refine ax_isub B d_Model_readBehind_35 ?_
      exact ax_ireturn B d_Model_readBehind_36
    · refine ax_iload_n B 0 d_Model_readBehind_29 rfl rfl ?_
      refine ax_goto B 36 d_Model_readBehind_30 (by decide) ?_
      exact ax_ireturn B d_Model_readBehind_36

theorem d_Model_look_0 : decode prog_12_method_8_code 0 = .ok (.iload_n 2, 1) := by decide +kernel
theorem d_Model_look_1 : decode prog_12_method_8_code 1 = .ok (.aload_n 0, 1) := by decide +kernel
theorem d_Model_look_2 : decode prog_12_method_8_code 2 = .ok (.getfield 42, 3) := by decide +kernel
theorem d_Model_look_5 : decode prog_12_method_8_code 5 = .ok (.iload_n 1, 1) := by decide +kernel
theorem d_Model_look_6 : decode prog_12_method_8_code 6 = .ok (.iaload, 1) := by decide +kernel
theorem d_Model_look_7 : decode prog_12_method_8_code 7 = .ok (.if_icmp .ge 18, 3) := by decide +kernel
theorem d_Model_look_10 : decode prog_12_method_8_code 10 = .ok (.aload_n 0, 1) := by decide +kernel
theorem d_Model_look_11 : decode prog_12_method_8_code 11 = .ok (.getfield 39, 3) := by decide +kernel
theorem d_Model_look_14 : decode prog_12_method_8_code 14 = .ok (.sipush 160, 3) := by decide +kernel
theorem d_Model_look_17 : decode prog_12_method_8_code 17 = .ok (.iload_n 1, 1) := by decide +kernel
theorem d_Model_look_18 : decode prog_12_method_8_code 18 = .ok (.imul, 1) := by decide +kernel
theorem d_Model_look_19 : decode prog_12_method_8_code 19 = .ok (.iload_n 2, 1) := by decide +kernel
theorem d_Model_look_20 : decode prog_12_method_8_code 20 = .ok (.iadd, 1) := by decide +kernel
theorem d_Model_look_21 : decode prog_12_method_8_code 21 = .ok (.caload, 1) := by decide +kernel
theorem d_Model_look_22 : decode prog_12_method_8_code 22 = .ok (.goto 4, 3) := by decide +kernel
theorem d_Model_look_25 : decode prog_12_method_8_code 25 = .ok (.iconst 0, 1) := by decide +kernel
theorem d_Model_look_26 : decode prog_12_method_8_code 26 = .ok (.ireturn, 1) := by decide +kernel
def Model_look_b (call : ax_Cf) (x0 : Option Nat) (x1 : Int32) (x2 : Int32) (h : ax_Hp) : ax_O :=
  (ax_gr h x0 9 15).bind fun v1 =>
  (ax_ldi h v1 1 x1).bind fun v2 =>
  if v2 ≤ x2 then
    ax_rc 0 h
  else
    (ax_gr h x0 9 14).bind fun v3 =>
    (ax_ldi h v3 3 ((160 * x1) + x2)).bind fun v4 =>
    ax_rc v4 h
set_option maxHeartbeats 4000000 in
set_option maxRecDepth 20000 in
theorem Model_look_t {l : Launch} {G : ax_G} {d : Nat} {call : ax_Cf} (hcall : ax_Hc l G d call) (x0 : Option Nat) (x1 : Int32) (x2 : Int32) (h : ax_Hp) {r : ax_Rs} {h' : ax_Hp} (ho : Model_look_b call x0 x1 x2 h = some (r, h')) : ax_C l G (d + 1) y_Model_look (.code y_Model_look prog_12_method_8_code 3 (some (.char))) [ax_A x0, ax_I x1, ax_I x2] h r h' := by
  refine ax_enter (by decide) (Nat.le_of_ble_eq_true rfl) ho (fun p e s mi args below meth c B E Nm => ?_)
  have B : ax_B G p s mi meth c "SchemaDeskModel" prog_12_method_8_code 3 (some (.char)) := B
  show ax_W G p l e s mi args below meth c 3 (d + 1) h 0 [(0, ax_A x0), (1, ax_I x1), (2, ax_I x2)] [] h (Model_look_b call x0 x1 x2 h)
  unfold Model_look_b
  refine ax_iload_n B 2 d_Model_look_0 rfl rfl ?_
  refine ax_aload_n B 0 d_Model_look_1 rfl rfl ?_
  refine ax_getfr B cl_Model (by decide) fk_Model_42 d_Model_look_2 (fun v1 => ?_)
  refine ax_iload_n B 1 d_Model_look_5 rfl rfl ?_
  refine ax_iald (kd := 1) B (by decide) rfl d_Model_look_6 (fun v2 => ?_)
  refine ax_icmp_ge B 25 d_Model_look_7 (by decide) ?_ ?_
  · refine ax_iconst (v := 0) B d_Model_look_25 (by decide) ?_
    exact ax_creturn B d_Model_look_26
  · refine ax_aload_n B 0 d_Model_look_10 rfl rfl ?_
    refine ax_getfr B cl_Model (by decide) fk_Model_39 d_Model_look_11 (fun v3 => ?_)
    refine ax_sipush (v := 160) B d_Model_look_14 (by decide) ?_
    refine ax_iload_n B 1 d_Model_look_17 rfl rfl ?_
    refine ax_imul B d_Model_look_18 ?_
    refine ax_iload_n B 2 d_Model_look_19 rfl rfl ?_
    refine ax_iadd B d_Model_look_20 ?_
    refine ax_cald (kd := 3) B (by decide) rfl d_Model_look_21 (fun v4 => ?_)
    refine ax_goto B 26 d_Model_look_22 (by decide) ?_
    exact ax_creturn B d_Model_look_26

theorem d_Model_readText_0 : decode prog_12_method_32_code 0 = .ok (.aload_n 0, 1) := by decide +kernel
theorem d_Model_readText_1 : decode prog_12_method_32_code 1 = .ok (.iload 4, 2) := by decide +kernel
theorem d_Model_readText_3 : decode prog_12_method_32_code 3 = .ok (.putfield 187, 3) := by decide +kernel
theorem d_Model_readText_6 : decode prog_12_method_32_code 6 = .ok (.aload_n 0, 1) := by decide +kernel
theorem d_Model_readText_7 : decode prog_12_method_32_code 7 = .ok (.iload_n 1, 1) := by decide +kernel
theorem d_Model_readText_8 : decode prog_12_method_32_code 8 = .ok (.putfield 191, 3) := by decide +kernel
theorem d_Model_readText_11 : decode prog_12_method_32_code 11 = .ok (.aload_n 0, 1) := by decide +kernel
theorem d_Model_readText_12 : decode prog_12_method_32_code 12 = .ok (.iconst 0, 1) := by decide +kernel
theorem d_Model_readText_13 : decode prog_12_method_32_code 13 = .ok (.putfield 241, 3) := by decide +kernel
theorem d_Model_readText_16 : decode prog_12_method_32_code 16 = .ok (.aload_n 0, 1) := by decide +kernel
theorem d_Model_readText_17 : decode prog_12_method_32_code 17 = .ok (.iconst 0, 1) := by decide +kernel
theorem d_Model_readText_18 : decode prog_12_method_32_code 18 = .ok (.putfield 247, 3) := by decide +kernel
theorem d_Model_readText_21 : decode prog_12_method_32_code 21 = .ok (.aload_n 0, 1) := by decide +kernel
theorem d_Model_readText_22 : decode prog_12_method_32_code 22 = .ok (.iconst 2, 1) := by decide +kernel
theorem d_Model_readText_23 : decode prog_12_method_32_code 23 = .ok (.putfield 155, 3) := by decide +kernel
theorem d_Model_readText_26 : decode prog_12_method_32_code 26 = .ok (.aload_n 0, 1) := by decide +kernel
theorem d_Model_readText_27 : decode prog_12_method_32_code 27 = .ok (.iload_n 2, 1) := by decide +kernel
theorem d_Model_readText_28 : decode prog_12_method_32_code 28 = .ok (.iload_n 3, 1) := by decide +kernel
theorem d_Model_readText_29 : decode prog_12_method_32_code 29 = .ok (.invokevirtual 253, 3) := by decide +kernel
theorem d_Model_readText_32 : decode prog_12_method_32_code 32 = .ok (.istore 5, 2) := by decide +kernel
theorem d_Model_readText_34 : decode prog_12_method_32_code 34 = .ok (.iload 5, 2) := by decide +kernel
theorem d_Model_readText_36 : decode prog_12_method_32_code 36 = .ok (.ifCond .lt 59, 3) := by decide +kernel
theorem d_Model_readText_39 : decode prog_12_method_32_code 39 = .ok (.aload_n 0, 1) := by decide +kernel
theorem d_Model_readText_40 : decode prog_12_method_32_code 40 = .ok (.getfield 155, 3) := by decide +kernel
theorem d_Model_readText_43 : decode prog_12_method_32_code 43 = .ok (.iconst 2, 1) := by decide +kernel
theorem d_Model_readText_44 : decode prog_12_method_32_code 44 = .ok (.if_icmp .eq 10, 3) := by decide +kernel
theorem d_Model_readText_47 : decode prog_12_method_32_code 47 = .ok (.aload_n 0, 1) := by decide +kernel
theorem d_Model_readText_48 : decode prog_12_method_32_code 48 = .ok (.getfield 241, 3) := by decide +kernel
theorem d_Model_readText_51 : decode prog_12_method_32_code 51 = .ok (.ifCond .le 44, 3) := by decide +kernel
theorem d_Model_readText_54 : decode prog_12_method_32_code 54 = .ok (.aload_n 0, 1) := by decide +kernel
theorem d_Model_readText_55 : decode prog_12_method_32_code 55 = .ok (.getfield 155, 3) := by decide +kernel
theorem d_Model_readText_58 : decode prog_12_method_32_code 58 = .ok (.iconst 2, 1) := by decide +kernel
theorem d_Model_readText_59 : decode prog_12_method_32_code 59 = .ok (.if_icmp .ne 25, 3) := by decide +kernel
theorem d_Model_readText_62 : decode prog_12_method_32_code 62 = .ok (.aload_n 0, 1) := by decide +kernel
theorem d_Model_readText_63 : decode prog_12_method_32_code 63 = .ok (.aload_n 0, 1) := by decide +kernel
theorem d_Model_readText_64 : decode prog_12_method_32_code 64 = .ok (.getfield 85, 3) := by decide +kernel
theorem d_Model_readText_67 : decode prog_12_method_32_code 67 = .ok (.aload_n 0, 1) := by decide +kernel
theorem d_Model_readText_68 : decode prog_12_method_32_code 68 = .ok (.getfield 241, 3) := by decide +kernel
theorem d_Model_readText_71 : decode prog_12_method_32_code 71 = .ok (.iconst 1, 1) := by decide +kernel
theorem d_Model_readText_72 : decode prog_12_method_32_code 72 = .ok (.isub, 1) := by decide +kernel
theorem d_Model_readText_73 : decode prog_12_method_32_code 73 = .ok (.iaload, 1) := by decide +kernel
theorem d_Model_readText_74 : decode prog_12_method_32_code 74 = .ok (.iload 5, 2) := by decide +kernel
theorem d_Model_readText_76 : decode prog_12_method_32_code 76 = .ok (.invokevirtual 253, 3) := by decide +kernel
theorem d_Model_readText_79 : decode prog_12_method_32_code 79 = .ok (.istore 5, 2) := by decide +kernel
theorem d_Model_readText_81 : decode prog_12_method_32_code 81 = .ok (.goto (-47), 3) := by decide +kernel
theorem d_Model_readText_84 : decode prog_12_method_32_code 84 = .ok (.aload_n 0, 1) := by decide +kernel
theorem d_Model_readText_85 : decode prog_12_method_32_code 85 = .ok (.iload 5, 2) := by decide +kernel
theorem d_Model_readText_87 : decode prog_12_method_32_code 87 = .ok (.invokevirtual 256, 3) := by decide +kernel
theorem d_Model_readText_90 : decode prog_12_method_32_code 90 = .ok (.istore 5, 2) := by decide +kernel
theorem d_Model_readText_92 : decode prog_12_method_32_code 92 = .ok (.goto (-58), 3) := by decide +kernel
theorem d_Model_readText_95 : decode prog_12_method_32_code 95 = .ok (.iload 5, 2) := by decide +kernel
theorem d_Model_readText_97 : decode prog_12_method_32_code 97 = .ok (.ireturn, 1) := by decide +kernel
def Model_readText_jn95 (call : ax_Cf)  (x5 : Int32) (h : ax_Hp) : ax_O :=
  ax_ri x5 h
set_option maxHeartbeats 4000000 in
set_option maxRecDepth 20000 in
theorem Model_readText_jq95 {l : Launch} {G : ax_G} {d : Nat} {call : ax_Cf} (hcall : ax_Hc l G d call) {p : Program} {e : Env} {s : State} {mi : MethodId} {args : Array Value} {below : List Frame} {meth : Method} {c : Code} {h0 : ax_Hp} (B : ax_B G p s mi meth c "SchemaDeskModel" prog_12_method_32_code 6 (some (.int))) (E : c.exceptionTable.isEmpty = true) (Nm : meth.name = y_Model_readText.name)   (x5 : Int32) (h : ax_Hp) : ax_W G p l e s mi args below meth c 6 (d + 1) h0 95 [(5, ax_I x5)] [] h (Model_readText_jn95 call  x5 h) := by
  unfold Model_readText_jn95
  refine ax_iload B 0 d_Model_readText_95 rfl ?_
  exact ax_ireturn B d_Model_readText_97
def Model_readText_jn54 (call : ax_Cf) (k34 : Option Nat → Int32 → ax_Hp → ax_O) (x0 : Option Nat) (x5 : Int32) (h : ax_Hp) : ax_O :=
  (ax_gi h x0 9 38).bind fun v9 =>
  if v9 = 2 then
    (ax_gr h x0 9 33).bind fun v12 =>
    (ax_gi h x0 9 31).bind fun v13 =>
    (ax_ldi h v12 1 (v13 - 1)).bind fun v14 =>
    ax_on h x0 9 <| ax_ci (call 157 [ax_A x0, ax_I v14, ax_I x5] h) fun v16 h15 =>
    k34 x0 v16 h15
  else
    ax_on h x0 9 <| ax_ci (call 170 [ax_A x0, ax_I x5] h) fun v11 h10 =>
    k34 x0 v11 h10
set_option maxHeartbeats 4000000 in
set_option maxRecDepth 20000 in
theorem Model_readText_jq54 {l : Launch} {G : ax_G} {d : Nat} {call : ax_Cf} (hcall : ax_Hc l G d call) {p : Program} {e : Env} {s : State} {mi : MethodId} {args : Array Value} {below : List Frame} {meth : Method} {c : Code} {h0 : ax_Hp} (B : ax_B G p s mi meth c "SchemaDeskModel" prog_12_method_32_code 6 (some (.int))) (E : c.exceptionTable.isEmpty = true) (Nm : meth.name = y_Model_readText.name) (k34 : Option Nat → Int32 → ax_Hp → ax_O) (hk34 : ∀ (x0 : Option Nat) (x5 : Int32) (h : ax_Hp), ax_W G p l e s mi args below meth c 6 (d + 1) h0 34 [(0, ax_A x0), (5, ax_I x5)] [] h (k34 x0 x5 h)) (x0 : Option Nat) (x5 : Int32) (h : ax_Hp) : ax_W G p l e s mi args below meth c 6 (d + 1) h0 54 [(0, ax_A x0), (5, ax_I x5)] [] h (Model_readText_jn54 call k34 x0 x5 h) := by
  unfold Model_readText_jn54
  refine ax_aload_n B 0 d_Model_readText_54 rfl rfl ?_
  refine ax_getfi B cl_Model (by decide) fk_Model_155 d_Model_readText_55 (fun v9 => ?_)
  refine ax_iconst (v := 2) B d_Model_readText_58 (by decide) ?_
  refine ax_icmp_ne B 84 d_Model_readText_59 (by decide) ?_ ?_
  · refine ax_aload_n B 0 d_Model_readText_84 rfl rfl ?_
    refine ax_iload B 1 d_Model_readText_85 rfl ?_
    refine ax_callVi (av := [ax_I x5]) (rest := []) B E hm_Model_behind cl_Model rfl wd_1162 wp_56 lk_Model_256 d_Model_readText_87 rfl (Nat.le_of_ble_eq_true rfl) (fun _ _ hh => hcall 170 _ _ _ _ hh) (fun v11 h10 => ?_)
    refine ax_istore (tv2 := [(5, ax_I v11), (0, ax_A x0)]) B d_Model_readText_90 (by decide) rfl ?_
    refine ax_goto B 34 d_Model_readText_92 (by decide) ?_
    refine ax_sub (tv2 := [(0, ax_A x0), (5, ax_I v11)]) [1, 0] rfl ?_
    exact hk34 x0 v11 h10
  · refine ax_aload_n B 0 d_Model_readText_62 rfl rfl ?_
    refine ax_aload_n B 0 d_Model_readText_63 rfl rfl ?_
    refine ax_getfr B cl_Model (by decide) fk_Model_85 d_Model_readText_64 (fun v12 => ?_)
    refine ax_aload_n B 0 d_Model_readText_67 rfl rfl ?_
    refine ax_getfi B cl_Model (by decide) fk_Model_241 d_Model_readText_68 (fun v13 => ?_)
    refine ax_iconst (v := 1) B d_Model_readText_71 (by decide) ?_
    refine ax_isub B d_Model_readText_72 ?_
    refine ax_iald (kd := 1) B (by decide) rfl d_Model_readText_73 (fun v14 => ?_)
    refine ax_iload B 1 d_Model_readText_74 rfl ?_
    refine ax_callVi (av := [ax_I v14, ax_I x5]) (rest := []) B E hm_Model_enter cl_Model rfl wd_1104 wp_43 lk_Model_253 d_Model_readText_76 rfl (Nat.le_of_ble_eq_true rfl) (fun _ _ hh => hcall 157 _ _ _ _ hh) (fun v16 h15 => ?_)
    refine ax_istore (tv2 := [(5, ax_I v16), (0, ax_A x0)]) B d_Model_readText_79 (by decide) rfl ?_
    refine ax_goto B 34 d_Model_readText_81 (by decide) ?_
    refine ax_sub (tv2 := [(0, ax_A x0), (5, ax_I v16)]) [1, 0] rfl ?_
    exact hk34 x0 v16 h15
def Model_readText_bd34 (call : ax_Cf)  (k34 : Option Nat → Int32 → ax_Hp → ax_O) (x0 : Option Nat) (x5 : Int32) (h : ax_Hp) : ax_O :=
  if x5 < 0 then
    Model_readText_jn95 call x5 h
  else
    (ax_gi h x0 9 38).bind fun v8 =>
    if v8 = 2 then
      Model_readText_jn54 call k34 x0 x5 h
    else
      (ax_gi h x0 9 31).bind fun v17 =>
      if v17 ≤ 0 then
        Model_readText_jn95 call x5 h
      else
        Model_readText_jn54 call k34 x0 x5 h
def Model_readText_lp34 (call : ax_Cf)  : Nat → Option Nat → Int32 → ax_Hp → ax_O
  | 0 => fun _ _ _ => none
  | n + 1 => Model_readText_bd34 call  (Model_readText_lp34 call  n)
set_option maxHeartbeats 4000000 in
set_option maxRecDepth 20000 in
theorem Model_readText_lb34 {l : Launch} {G : ax_G} {d : Nat} {call : ax_Cf} (hcall : ax_Hc l G d call) {p : Program} {e : Env} {s : State} {mi : MethodId} {args : Array Value} {below : List Frame} {meth : Method} {c : Code} {h0 : ax_Hp} (B : ax_B G p s mi meth c "SchemaDeskModel" prog_12_method_32_code 6 (some (.int))) (E : c.exceptionTable.isEmpty = true) (Nm : meth.name = y_Model_readText.name)   {k34 : Option Nat → Int32 → ax_Hp → ax_O} (hk34 : ∀ (x0 : Option Nat) (x5 : Int32) (h : ax_Hp), ax_W G p l e s mi args below meth c 6 (d + 1) h0 34 [(0, ax_A x0), (5, ax_I x5)] [] h (k34 x0 x5 h)) (x0 : Option Nat) (x5 : Int32) (h : ax_Hp) : ax_W G p l e s mi args below meth c 6 (d + 1) h0 34 [(0, ax_A x0), (5, ax_I x5)] [] h (Model_readText_bd34 call  k34 x0 x5 h) := by
  unfold Model_readText_bd34
  refine ax_iload B 1 d_Model_readText_34 rfl ?_
  refine ax_if_lt B 95 d_Model_readText_36 (by decide) ?_ ?_
  · refine ax_sub (tv2 := [(5, ax_I x5)]) [1] rfl ?_
    exact Model_readText_jq95 hcall B E Nm x5 h
  · refine ax_aload_n B 0 d_Model_readText_39 rfl rfl ?_
    refine ax_getfi B cl_Model (by decide) fk_Model_155 d_Model_readText_40 (fun v8 => ?_)
    refine ax_iconst (v := 2) B d_Model_readText_43 (by decide) ?_
    refine ax_icmp_eq B 54 d_Model_readText_44 (by decide) ?_ ?_
    · refine ax_sub (tv2 := [(0, ax_A x0), (5, ax_I x5)]) [0, 1] rfl ?_
      exact Model_readText_jq54 hcall B E Nm k34 hk34 x0 x5 h
    · refine ax_aload_n B 0 d_Model_readText_47 rfl rfl ?_
      refine ax_getfi B cl_Model (by decide) fk_Model_241 d_Model_readText_48 (fun v17 => ?_)
      refine ax_if_le B 95 d_Model_readText_51 (by decide) ?_ ?_
      · refine ax_sub (tv2 := [(5, ax_I x5)]) [1] rfl ?_
        exact Model_readText_jq95 hcall B E Nm x5 h
      · refine ax_sub (tv2 := [(0, ax_A x0), (5, ax_I x5)]) [0, 1] rfl ?_
        exact Model_readText_jq54 hcall B E Nm k34 hk34 x0 x5 h
theorem Model_readText_lq34 {l : Launch} {G : ax_G} {d : Nat} {call : ax_Cf} (hcall : ax_Hc l G d call) {p : Program} {e : Env} {s : State} {mi : MethodId} {args : Array Value} {below : List Frame} {meth : Method} {c : Code} {h0 : ax_Hp} (B : ax_B G p s mi meth c "SchemaDeskModel" prog_12_method_32_code 6 (some (.int))) (E : c.exceptionTable.isEmpty = true) (Nm : meth.name = y_Model_readText.name)   : ∀ (n : Nat) (x0 : Option Nat) (x5 : Int32) (h : ax_Hp), ax_W G p l e s mi args below meth c 6 (d + 1) h0 34 [(0, ax_A x0), (5, ax_I x5)] [] h (Model_readText_lp34 call  n x0 x5 h)
  | 0, _, _, _ => ax_none
  | n + 1, x0, x5, h => Model_readText_lb34 hcall B E Nm   (Model_readText_lq34 hcall B E Nm   n) x0 x5 h
def Model_readText_b (call : ax_Cf) (x0 : Option Nat) (x1 : Int32) (x2 : Int32) (x3 : Int32) (x4 : Int32) (h : ax_Hp) : ax_O :=
  (ax_pz h x0 9 29 x4).bind fun h1 =>
  (ax_pf h1 x0 9 30 (ax_I x1)).bind fun h2 =>
  (ax_pf h2 x0 9 31 (ax_I 0)).bind fun h3 =>
  (ax_pf h3 x0 9 40 (ax_I 0)).bind fun h4 =>
  (ax_pf h4 x0 9 38 (ax_I 2)).bind fun h5 =>
  ax_on h5 x0 9 <| ax_ci (call 157 [ax_A x0, ax_I x2, ax_I x3] h5) fun v7 h6 =>
  Model_readText_lp34 call ax_fuel x0 v7 h6
set_option maxHeartbeats 4000000 in
set_option maxRecDepth 20000 in
theorem Model_readText_t {l : Launch} {G : ax_G} {d : Nat} {call : ax_Cf} (hcall : ax_Hc l G d call) (x0 : Option Nat) (x1 : Int32) (x2 : Int32) (x3 : Int32) (x4 : Int32) (h : ax_Hp) {r : ax_Rs} {h' : ax_Hp} (ho : Model_readText_b call x0 x1 x2 x3 x4 h = some (r, h')) : ax_C l G (d + 1) y_Model_readText (.code y_Model_readText prog_12_method_32_code 6 (some (.int))) [ax_A x0, ax_I x1, ax_I x2, ax_I x3, ax_I x4] h r h' := by
  refine ax_enter (by decide) (Nat.le_of_ble_eq_true rfl) ho (fun p e s mi args below meth c B E Nm => ?_)
  have B : ax_B G p s mi meth c "SchemaDeskModel" prog_12_method_32_code 6 (some (.int)) := B
  show ax_W G p l e s mi args below meth c 6 (d + 1) h 0 [(0, ax_A x0), (1, ax_I x1), (2, ax_I x2), (3, ax_I x3), (4, ax_I x4)] [] h (Model_readText_b call x0 x1 x2 x3 x4 h)
  unfold Model_readText_b
  refine ax_aload_n B 0 d_Model_readText_0 rfl rfl ?_
  refine ax_iload B 4 d_Model_readText_1 rfl ?_
  refine ax_putfz B cl_Model (by decide) fk_Model_187 (Or.inl rfl) rfl d_Model_readText_3 (fun h1 => ?_)
  refine ax_aload_n B 0 d_Model_readText_6 rfl rfl ?_
  refine ax_iload_n B 1 d_Model_readText_7 rfl rfl ?_
  refine ax_putf (v := ax_I x1) B cl_Model (by decide) fk_Model_191 (Or.inl rfl) (fun _ => rfl) (fun _ => rfl) d_Model_readText_8 (fun h2 => ?_)
  refine ax_aload_n B 0 d_Model_readText_11 rfl rfl ?_
  refine ax_iconst (v := 0) B d_Model_readText_12 (by decide) ?_
  refine ax_putf (v := ax_I 0) B cl_Model (by decide) fk_Model_241 (Or.inl rfl) (fun _ => rfl) (fun _ => rfl) d_Model_readText_13 (fun h3 => ?_)
  refine ax_aload_n B 0 d_Model_readText_16 rfl rfl ?_
  refine ax_iconst (v := 0) B d_Model_readText_17 (by decide) ?_
  refine ax_putf (v := ax_I 0) B cl_Model (by decide) fk_Model_247 (Or.inl rfl) (fun _ => rfl) (fun _ => rfl) d_Model_readText_18 (fun h4 => ?_)
  refine ax_aload_n B 0 d_Model_readText_21 rfl rfl ?_
  refine ax_iconst (v := 2) B d_Model_readText_22 (by decide) ?_
  refine ax_putf (v := ax_I 2) B cl_Model (by decide) fk_Model_155 (Or.inl rfl) (fun _ => rfl) (fun _ => rfl) d_Model_readText_23 (fun h5 => ?_)
  refine ax_aload_n B 0 d_Model_readText_26 rfl rfl ?_
  refine ax_iload_n B 2 d_Model_readText_27 rfl rfl ?_
  refine ax_iload_n B 3 d_Model_readText_28 rfl rfl ?_
  refine ax_callVi (av := [ax_I x2, ax_I x3]) (rest := []) B E hm_Model_enter cl_Model rfl wd_1104 wp_43 lk_Model_253 d_Model_readText_29 rfl (Nat.le_of_ble_eq_true rfl) (fun _ _ hh => hcall 157 _ _ _ _ hh) (fun v7 h6 => ?_)
  refine ax_istore (tv2 := [(5, ax_I v7), (0, ax_A x0), (1, ax_I x1), (2, ax_I x2), (3, ax_I x3), (4, ax_I x4)]) B d_Model_readText_32 (by decide) rfl ?_
  refine ax_sub (tv2 := [(0, ax_A x0), (5, ax_I v7)]) [1, 0] rfl ?_
  exact Model_readText_lq34 hcall B E Nm ax_fuel x0 v7 h6

theorem d_Model_enter_0 : decode prog_12_method_28_code 0 = .ok (.iload_n 1, 1) := by decide +kernel
theorem d_Model_enter_1 : decode prog_12_method_28_code 1 = .ok (.istore_n 3, 1) := by decide +kernel
theorem d_Model_enter_2 : decode prog_12_method_28_code 2 = .ok (.iload_n 2, 1) := by decide +kernel
theorem d_Model_enter_3 : decode prog_12_method_28_code 3 = .ok (.istore 4, 2) := by decide +kernel
theorem d_Model_enter_5 : decode prog_12_method_28_code 5 = .ok (.aload_n 0, 1) := by decide +kernel
theorem d_Model_enter_6 : decode prog_12_method_28_code 6 = .ok (.getfield 48, 3) := by decide +kernel
theorem d_Model_enter_9 : decode prog_12_method_28_code 9 = .ok (.iload_n 3, 1) := by decide +kernel
theorem d_Model_enter_10 : decode prog_12_method_28_code 10 = .ok (.caload, 1) := by decide +kernel
theorem d_Model_enter_11 : decode prog_12_method_28_code 11 = .ok (.bipush 85, 2) := by decide +kernel
theorem d_Model_enter_13 : decode prog_12_method_28_code 13 = .ok (.if_icmp .ne 129, 3) := by decide +kernel
theorem d_Model_enter_16 : decode prog_12_method_28_code 16 = .ok (.aload_n 0, 1) := by decide +kernel
theorem d_Model_enter_17 : decode prog_12_method_28_code 17 = .ok (.getfield 187, 3) := by decide +kernel
theorem d_Model_enter_20 : decode prog_12_method_28_code 20 = .ok (.ifCond .eq 95, 3) := by decide +kernel
theorem d_Model_enter_23 : decode prog_12_method_28_code 23 = .ok (.aload_n 0, 1) := by decide +kernel
theorem d_Model_enter_24 : decode prog_12_method_28_code 24 = .ok (.iload 4, 2) := by decide +kernel
theorem d_Model_enter_26 : decode prog_12_method_28_code 26 = .ok (.invokevirtual 194, 3) := by decide +kernel
theorem d_Model_enter_29 : decode prog_12_method_28_code 29 = .ok (.bipush 48, 2) := by decide +kernel
theorem d_Model_enter_31 : decode prog_12_method_28_code 31 = .ok (.isub, 1) := by decide +kernel
theorem d_Model_enter_32 : decode prog_12_method_28_code 32 = .ok (.istore 5, 2) := by decide +kernel
theorem d_Model_enter_34 : decode prog_12_method_28_code 34 = .ok (.iload 5, 2) := by decide +kernel
theorem d_Model_enter_36 : decode prog_12_method_28_code 36 = .ok (.ifCond .lt 14, 3) := by decide +kernel
theorem d_Model_enter_39 : decode prog_12_method_28_code 39 = .ok (.iload 5, 2) := by decide +kernel
theorem d_Model_enter_41 : decode prog_12_method_28_code 41 = .ok (.aload_n 0, 1) := by decide +kernel
theorem d_Model_enter_42 : decode prog_12_method_28_code 42 = .ok (.getfield 57, 3) := by decide +kernel
theorem d_Model_enter_45 : decode prog_12_method_28_code 45 = .ok (.iload_n 3, 1) := by decide +kernel
theorem d_Model_enter_46 : decode prog_12_method_28_code 46 = .ok (.iaload, 1) := by decide +kernel
theorem d_Model_enter_47 : decode prog_12_method_28_code 47 = .ok (.if_icmp .lt 8, 3) := by decide +kernel
theorem d_Model_enter_50 : decode prog_12_method_28_code 50 = .ok (.iconst (-1), 1) := by decide +kernel
theorem d_Model_enter_51 : decode prog_12_method_28_code 51 = .ok (.iload 4, 2) := by decide +kernel
theorem d_Model_enter_53 : decode prog_12_method_28_code 53 = .ok (.isub, 1) := by decide +kernel
theorem d_Model_enter_54 : decode prog_12_method_28_code 54 = .ok (.ireturn, 1) := by decide +kernel
theorem d_Model_enter_55 : decode prog_12_method_28_code 55 = .ok (.aload_n 0, 1) := by decide +kernel
theorem d_Model_enter_56 : decode prog_12_method_28_code 56 = .ok (.iload 4, 2) := by decide +kernel
theorem d_Model_enter_58 : decode prog_12_method_28_code 58 = .ok (.iconst 1, 1) := by decide +kernel
theorem d_Model_enter_59 : decode prog_12_method_28_code 59 = .ok (.iadd, 1) := by decide +kernel
theorem d_Model_enter_60 : decode prog_12_method_28_code 60 = .ok (.invokevirtual 194, 3) := by decide +kernel
theorem d_Model_enter_63 : decode prog_12_method_28_code 63 = .ok (.bipush 58, 2) := by decide +kernel
theorem d_Model_enter_65 : decode prog_12_method_28_code 65 = .ok (.if_icmp .eq 10, 3) := by decide +kernel
theorem d_Model_enter_68 : decode prog_12_method_28_code 68 = .ok (.iconst (-1), 1) := by decide +kernel
theorem d_Model_enter_69 : decode prog_12_method_28_code 69 = .ok (.iload 4, 2) := by decide +kernel
theorem d_Model_enter_71 : decode prog_12_method_28_code 71 = .ok (.iconst 1, 1) := by decide +kernel
theorem d_Model_enter_72 : decode prog_12_method_28_code 72 = .ok (.iadd, 1) := by decide +kernel
theorem d_Model_enter_73 : decode prog_12_method_28_code 73 = .ok (.isub, 1) := by decide +kernel
theorem d_Model_enter_74 : decode prog_12_method_28_code 74 = .ok (.ireturn, 1) := by decide +kernel
theorem d_Model_enter_75 : decode prog_12_method_28_code 75 = .ok (.aload_n 0, 1) := by decide +kernel
theorem d_Model_enter_76 : decode prog_12_method_28_code 76 = .ok (.iload 4, 2) := by decide +kernel
theorem d_Model_enter_78 : decode prog_12_method_28_code 78 = .ok (.iload 4, 2) := by decide +kernel
theorem d_Model_enter_80 : decode prog_12_method_28_code 80 = .ok (.iconst 2, 1) := by decide +kernel
theorem d_Model_enter_81 : decode prog_12_method_28_code 81 = .ok (.iadd, 1) := by decide +kernel
theorem d_Model_enter_82 : decode prog_12_method_28_code 82 = .ok (.invokevirtual 232, 3) := by decide +kernel
theorem d_Model_enter_85 : decode prog_12_method_28_code 85 = .ok (.aload_n 0, 1) := by decide +kernel
theorem d_Model_enter_86 : decode prog_12_method_28_code 86 = .ok (.getfield 170, 3) := by decide +kernel
theorem d_Model_enter_89 : decode prog_12_method_28_code 89 = .ok (.iconst 1, 1) := by decide +kernel
theorem d_Model_enter_90 : decode prog_12_method_28_code 90 = .ok (.if_icmp .ne 11, 3) := by decide +kernel
theorem d_Model_enter_93 : decode prog_12_method_28_code 93 = .ok (.aload_n 0, 1) := by decide +kernel
theorem d_Model_enter_94 : decode prog_12_method_28_code 94 = .ok (.iconst 2, 1) := by decide +kernel
theorem d_Model_enter_95 : decode prog_12_method_28_code 95 = .ok (.iload 5, 2) := by decide +kernel
theorem d_Model_enter_97 : decode prog_12_method_28_code 97 = .ok (.imul, 1) := by decide +kernel
theorem d_Model_enter_98 : decode prog_12_method_28_code 98 = .ok (.invokevirtual 208, 3) := by decide +kernel
theorem d_Model_enter_101 : decode prog_12_method_28_code 101 = .ok (.aload_n 0, 1) := by decide +kernel
theorem d_Model_enter_102 : decode prog_12_method_28_code 102 = .ok (.iload_n 3, 1) := by decide +kernel
theorem d_Model_enter_103 : decode prog_12_method_28_code 103 = .ok (.iload 5, 2) := by decide +kernel
theorem d_Model_enter_105 : decode prog_12_method_28_code 105 = .ok (.invokevirtual 235, 3) := by decide +kernel
theorem d_Model_enter_108 : decode prog_12_method_28_code 108 = .ok (.istore_n 3, 1) := by decide +kernel
theorem d_Model_enter_109 : decode prog_12_method_28_code 109 = .ok (.iinc 4 2, 3) := by decide +kernel
theorem d_Model_enter_112 : decode prog_12_method_28_code 112 = .ok (.goto 30, 3) := by decide +kernel
theorem d_Model_enter_115 : decode prog_12_method_28_code 115 = .ok (.aload_n 0, 1) := by decide +kernel
theorem d_Model_enter_116 : decode prog_12_method_28_code 116 = .ok (.getfield 51, 3) := by decide +kernel
theorem d_Model_enter_119 : decode prog_12_method_28_code 119 = .ok (.iload_n 3, 1) := by decide +kernel
theorem d_Model_enter_120 : decode prog_12_method_28_code 120 = .ok (.iaload, 1) := by decide +kernel
theorem d_Model_enter_121 : decode prog_12_method_28_code 121 = .ok (.istore_n 3, 1) := by decide +kernel
theorem d_Model_enter_122 : decode prog_12_method_28_code 122 = .ok (.aload_n 0, 1) := by decide +kernel
theorem d_Model_enter_123 : decode prog_12_method_28_code 123 = .ok (.getfield 170, 3) := by decide +kernel
theorem d_Model_enter_126 : decode prog_12_method_28_code 126 = .ok (.iconst 2, 1) := by decide +kernel
theorem d_Model_enter_127 : decode prog_12_method_28_code 127 = .ok (.if_icmp .ne 15, 3) := by decide +kernel
theorem d_Model_enter_130 : decode prog_12_method_28_code 130 = .ok (.aload_n 0, 1) := by decide +kernel
theorem d_Model_enter_131 : decode prog_12_method_28_code 131 = .ok (.bipush 48, 2) := by decide +kernel
theorem d_Model_enter_133 : decode prog_12_method_28_code 133 = .ok (.invokevirtual 208, 3) := by decide +kernel
theorem d_Model_enter_136 : decode prog_12_method_28_code 136 = .ok (.aload_n 0, 1) := by decide +kernel
theorem d_Model_enter_137 : decode prog_12_method_28_code 137 = .ok (.bipush 58, 2) := by decide +kernel
theorem d_Model_enter_139 : decode prog_12_method_28_code 139 = .ok (.invokevirtual 208, 3) := by decide +kernel
theorem d_Model_enter_142 : decode prog_12_method_28_code 142 = .ok (.aload_n 0, 1) := by decide +kernel
theorem d_Model_enter_143 : decode prog_12_method_28_code 143 = .ok (.iconst 1, 1) := by decide +kernel
theorem d_Model_enter_144 : decode prog_12_method_28_code 144 = .ok (.putfield 155, 3) := by decide +kernel
theorem d_Model_enter_147 : decode prog_12_method_28_code 147 = .ok (.aload_n 0, 1) := by decide +kernel
theorem d_Model_enter_148 : decode prog_12_method_28_code 148 = .ok (.getfield 48, 3) := by decide +kernel
theorem d_Model_enter_151 : decode prog_12_method_28_code 151 = .ok (.iload_n 3, 1) := by decide +kernel
theorem d_Model_enter_152 : decode prog_12_method_28_code 152 = .ok (.caload, 1) := by decide +kernel
theorem d_Model_enter_153 : decode prog_12_method_28_code 153 = .ok (.bipush 65, 2) := by decide +kernel
theorem d_Model_enter_155 : decode prog_12_method_28_code 155 = .ok (.if_icmp .eq 22, 3) := by decide +kernel
theorem d_Model_enter_158 : decode prog_12_method_28_code 158 = .ok (.aload_n 0, 1) := by decide +kernel
theorem d_Model_enter_159 : decode prog_12_method_28_code 159 = .ok (.getfield 48, 3) := by decide +kernel
theorem d_Model_enter_162 : decode prog_12_method_28_code 162 = .ok (.iload_n 3, 1) := by decide +kernel
theorem d_Model_enter_163 : decode prog_12_method_28_code 163 = .ok (.caload, 1) := by decide +kernel
theorem d_Model_enter_164 : decode prog_12_method_28_code 164 = .ok (.bipush 82, 2) := by decide +kernel
theorem d_Model_enter_166 : decode prog_12_method_28_code 166 = .ok (.if_icmp .eq 11, 3) := by decide +kernel
theorem d_Model_enter_169 : decode prog_12_method_28_code 169 = .ok (.aload_n 0, 1) := by decide +kernel
theorem d_Model_enter_170 : decode prog_12_method_28_code 170 = .ok (.iload_n 3, 1) := by decide +kernel
theorem d_Model_enter_171 : decode prog_12_method_28_code 171 = .ok (.iload 4, 2) := by decide +kernel
theorem d_Model_enter_173 : decode prog_12_method_28_code 173 = .ok (.invokevirtual 238, 3) := by decide +kernel
theorem d_Model_enter_176 : decode prog_12_method_28_code 176 = .ok (.ireturn, 1) := by decide +kernel
theorem d_Model_enter_177 : decode prog_12_method_28_code 177 = .ok (.aload_n 0, 1) := by decide +kernel
theorem d_Model_enter_178 : decode prog_12_method_28_code 178 = .ok (.iload 4, 2) := by decide +kernel
theorem d_Model_enter_180 : decode prog_12_method_28_code 180 = .ok (.invokevirtual 194, 3) := by decide +kernel
theorem d_Model_enter_183 : decode prog_12_method_28_code 183 = .ok (.aload_n 0, 1) := by decide +kernel
theorem d_Model_enter_184 : decode prog_12_method_28_code 184 = .ok (.getfield 48, 3) := by decide +kernel
theorem d_Model_enter_187 : decode prog_12_method_28_code 187 = .ok (.iload_n 3, 1) := by decide +kernel
theorem d_Model_enter_188 : decode prog_12_method_28_code 188 = .ok (.caload, 1) := by decide +kernel
theorem d_Model_enter_189 : decode prog_12_method_28_code 189 = .ok (.bipush 65, 2) := by decide +kernel
theorem d_Model_enter_191 : decode prog_12_method_28_code 191 = .ok (.if_icmp .ne 8, 3) := by decide +kernel
theorem d_Model_enter_194 : decode prog_12_method_28_code 194 = .ok (.bipush 91, 2) := by decide +kernel
theorem d_Model_enter_196 : decode prog_12_method_28_code 196 = .ok (.goto 5, 3) := by decide +kernel
theorem d_Model_enter_199 : decode prog_12_method_28_code 199 = .ok (.bipush 123, 2) := by decide +kernel
theorem d_Model_enter_201 : decode prog_12_method_28_code 201 = .ok (.if_icmp .eq 8, 3) := by decide +kernel
theorem d_Model_enter_204 : decode prog_12_method_28_code 204 = .ok (.iconst (-1), 1) := by decide +kernel
theorem d_Model_enter_205 : decode prog_12_method_28_code 205 = .ok (.iload 4, 2) := by decide +kernel
theorem d_Model_enter_207 : decode prog_12_method_28_code 207 = .ok (.isub, 1) := by decide +kernel
theorem d_Model_enter_208 : decode prog_12_method_28_code 208 = .ok (.ireturn, 1) := by decide +kernel
theorem d_Model_enter_209 : decode prog_12_method_28_code 209 = .ok (.aload_n 0, 1) := by decide +kernel
theorem d_Model_enter_210 : decode prog_12_method_28_code 210 = .ok (.iload 4, 2) := by decide +kernel
theorem d_Model_enter_212 : decode prog_12_method_28_code 212 = .ok (.iload 4, 2) := by decide +kernel
theorem d_Model_enter_214 : decode prog_12_method_28_code 214 = .ok (.iconst 1, 1) := by decide +kernel
theorem d_Model_enter_215 : decode prog_12_method_28_code 215 = .ok (.iadd, 1) := by decide +kernel
theorem d_Model_enter_216 : decode prog_12_method_28_code 216 = .ok (.invokevirtual 232, 3) := by decide +kernel
theorem d_Model_enter_219 : decode prog_12_method_28_code 219 = .ok (.aload_n 0, 1) := by decide +kernel
theorem d_Model_enter_220 : decode prog_12_method_28_code 220 = .ok (.getfield 82, 3) := by decide +kernel
theorem d_Model_enter_223 : decode prog_12_method_28_code 223 = .ok (.aload_n 0, 1) := by decide +kernel
theorem d_Model_enter_224 : decode prog_12_method_28_code 224 = .ok (.getfield 241, 3) := by decide +kernel
theorem d_Model_enter_227 : decode prog_12_method_28_code 227 = .ok (.iload_n 3, 1) := by decide +kernel
theorem d_Model_enter_228 : decode prog_12_method_28_code 228 = .ok (.iastore, 1) := by decide +kernel
theorem d_Model_enter_229 : decode prog_12_method_28_code 229 = .ok (.aload_n 0, 1) := by decide +kernel
theorem d_Model_enter_230 : decode prog_12_method_28_code 230 = .ok (.getfield 85, 3) := by decide +kernel
theorem d_Model_enter_233 : decode prog_12_method_28_code 233 = .ok (.aload_n 0, 1) := by decide +kernel
theorem d_Model_enter_234 : decode prog_12_method_28_code 234 = .ok (.getfield 241, 3) := by decide +kernel
theorem d_Model_enter_237 : decode prog_12_method_28_code 237 = .ok (.aload_n 0, 1) := by decide +kernel
theorem d_Model_enter_238 : decode prog_12_method_28_code 238 = .ok (.getfield 51, 3) := by decide +kernel
theorem d_Model_enter_241 : decode prog_12_method_28_code 241 = .ok (.iload_n 3, 1) := by decide +kernel
theorem d_Model_enter_242 : decode prog_12_method_28_code 242 = .ok (.iaload, 1) := by decide +kernel
theorem d_Model_enter_243 : decode prog_12_method_28_code 243 = .ok (.iastore, 1) := by decide +kernel
theorem d_Model_enter_244 : decode prog_12_method_28_code 244 = .ok (.aload_n 0, 1) := by decide +kernel
theorem d_Model_enter_245 : decode prog_12_method_28_code 245 = .ok (.getfield 88, 3) := by decide +kernel
theorem d_Model_enter_248 : decode prog_12_method_28_code 248 = .ok (.aload_n 0, 1) := by decide +kernel
theorem d_Model_enter_249 : decode prog_12_method_28_code 249 = .ok (.getfield 241, 3) := by decide +kernel
theorem d_Model_enter_252 : decode prog_12_method_28_code 252 = .ok (.iconst 0, 1) := by decide +kernel
theorem d_Model_enter_253 : decode prog_12_method_28_code 253 = .ok (.iastore, 1) := by decide +kernel
theorem d_Model_enter_254 : decode prog_12_method_28_code 254 = .ok (.aload_n 0, 1) := by decide +kernel
theorem d_Model_enter_255 : decode prog_12_method_28_code 255 = .ok (.dup, 1) := by decide +kernel
theorem d_Model_enter_256 : decode prog_12_method_28_code 256 = .ok (.getfield 241, 3) := by decide +kernel
theorem d_Model_enter_259 : decode prog_12_method_28_code 259 = .ok (.iconst 1, 1) := by decide +kernel
theorem d_Model_enter_260 : decode prog_12_method_28_code 260 = .ok (.iadd, 1) := by decide +kernel
theorem d_Model_enter_261 : decode prog_12_method_28_code 261 = .ok (.putfield 241, 3) := by decide +kernel
theorem d_Model_enter_264 : decode prog_12_method_28_code 264 = .ok (.aload_n 0, 1) := by decide +kernel
theorem d_Model_enter_265 : decode prog_12_method_28_code 265 = .ok (.iconst 2, 1) := by decide +kernel
theorem d_Model_enter_266 : decode prog_12_method_28_code 266 = .ok (.putfield 155, 3) := by decide +kernel
theorem d_Model_enter_269 : decode prog_12_method_28_code 269 = .ok (.aload_n 0, 1) := by decide +kernel
theorem d_Model_enter_270 : decode prog_12_method_28_code 270 = .ok (.getfield 48, 3) := by decide +kernel
theorem d_Model_enter_273 : decode prog_12_method_28_code 273 = .ok (.iload_n 3, 1) := by decide +kernel
theorem d_Model_enter_274 : decode prog_12_method_28_code 274 = .ok (.caload, 1) := by decide +kernel
theorem d_Model_enter_275 : decode prog_12_method_28_code 275 = .ok (.bipush 65, 2) := by decide +kernel
theorem d_Model_enter_277 : decode prog_12_method_28_code 277 = .ok (.if_icmp .ne 14, 3) := by decide +kernel
theorem d_Model_enter_280 : decode prog_12_method_28_code 280 = .ok (.aload_n 0, 1) := by decide +kernel
theorem d_Model_enter_281 : decode prog_12_method_28_code 281 = .ok (.iload 4, 2) := by decide +kernel
theorem d_Model_enter_283 : decode prog_12_method_28_code 283 = .ok (.iconst 1, 1) := by decide +kernel
theorem d_Model_enter_284 : decode prog_12_method_28_code 284 = .ok (.iadd, 1) := by decide +kernel
theorem d_Model_enter_285 : decode prog_12_method_28_code 285 = .ok (.invokevirtual 244, 3) := by decide +kernel
theorem d_Model_enter_288 : decode prog_12_method_28_code 288 = .ok (.goto 7, 3) := by decide +kernel
theorem d_Model_enter_291 : decode prog_12_method_28_code 291 = .ok (.iload 4, 2) := by decide +kernel
theorem d_Model_enter_293 : decode prog_12_method_28_code 293 = .ok (.iconst 1, 1) := by decide +kernel
theorem d_Model_enter_294 : decode prog_12_method_28_code 294 = .ok (.iadd, 1) := by decide +kernel
theorem d_Model_enter_295 : decode prog_12_method_28_code 295 = .ok (.ireturn, 1) := by decide +kernel
def Model_enter_jn201 (call : ax_Cf)  (x0 : Option Nat) (x3 : Int32) (x4 : Int32) (s0 : Int32) (s1 : Int32) (h : ax_Hp) : ax_O :=
  if s1 = s0 then
    ax_on h x0 9 <| ax_cv (call 159 [ax_A x0, ax_I x4, ax_I (x4 + 1)] h) fun h10 =>
    (ax_gr h10 x0 9 32).bind fun v12 =>
    (ax_gi h10 x0 9 31).bind fun v13 =>
    (ax_st h10 v12 1 v13 (ax_I x3)).bind fun h14 =>
    (ax_gr h14 x0 9 33).bind fun v15 =>
    (ax_gi h14 x0 9 31).bind fun v16 =>
    (ax_gr h14 x0 9 18).bind fun v17 =>
    (ax_ldi h14 v17 1 x3).bind fun v18 =>
    (ax_st h14 v15 1 v16 (ax_I v18)).bind fun h19 =>
    (ax_gr h19 x0 9 34).bind fun v20 =>
    (ax_gi h19 x0 9 31).bind fun v21 =>
    (ax_st h19 v20 1 v21 (ax_I 0)).bind fun h22 =>
    (ax_gi h22 x0 9 31).bind fun v23 =>
    (ax_pf h22 x0 9 31 (ax_I (v23 + 1))).bind fun h24 =>
    (ax_pf h24 x0 9 38 (ax_I 2)).bind fun h25 =>
    (ax_gr h25 x0 9 17).bind fun v26 =>
    (ax_ldi h25 v26 3 x3).bind fun v27 =>
    if v27 = 65 then
      ax_on h25 x0 9 <| ax_ci (call 168 [ax_A x0, ax_I (x4 + 1)] h25) fun v29 h28 =>
      ax_ri v29 h28
    else
      ax_ri (x4 + 1) h25
  else
    ax_ri ((-1) - x4) h
set_option maxHeartbeats 4000000 in
set_option maxRecDepth 20000 in
theorem Model_enter_jq201 {l : Launch} {G : ax_G} {d : Nat} {call : ax_Cf} (hcall : ax_Hc l G d call) {p : Program} {e : Env} {s : State} {mi : MethodId} {args : Array Value} {below : List Frame} {meth : Method} {c : Code} {h0 : ax_Hp} (B : ax_B G p s mi meth c "SchemaDeskModel" prog_12_method_28_code 6 (some (.int))) (E : c.exceptionTable.isEmpty = true) (Nm : meth.name = y_Model_enter.name)   (x0 : Option Nat) (x3 : Int32) (x4 : Int32) (s0 : Int32) (s1 : Int32) (h : ax_Hp) : ax_W G p l e s mi args below meth c 6 (d + 1) h0 201 [(0, ax_A x0), (3, ax_I x3), (4, ax_I x4)] [ax_I s0, ax_I s1] h (Model_enter_jn201 call  x0 x3 x4 s0 s1 h) := by
  unfold Model_enter_jn201
  refine ax_icmp_eq B 209 d_Model_enter_201 (by decide) ?_ ?_
  · refine ax_aload_n B 0 d_Model_enter_209 rfl rfl ?_
    refine ax_iload B 2 d_Model_enter_210 rfl ?_
    refine ax_iload B 2 d_Model_enter_212 rfl ?_
    refine ax_iconst (v := 1) B d_Model_enter_214 (by decide) ?_
    refine ax_iadd B d_Model_enter_215 ?_
    refine ax_callVv (av := [ax_I x4, ax_I (x4 + 1)]) (rest := []) B E hm_Model_sayCharacters cl_Model rfl wd_1112 wp_45 lk_Model_232 d_Model_enter_216 rfl (Nat.le_of_ble_eq_true rfl) (fun _ _ hh => hcall 159 _ _ _ _ hh) (fun h10 => ?_)
    refine ax_aload_n B 0 d_Model_enter_219 rfl rfl ?_
    refine ax_getfr B cl_Model (by decide) fk_Model_82 d_Model_enter_220 (fun v12 => ?_)
    refine ax_aload_n B 0 d_Model_enter_223 rfl rfl ?_
    refine ax_getfi B cl_Model (by decide) fk_Model_241 d_Model_enter_224 (fun v13 => ?_)
    refine ax_iload_n B 1 d_Model_enter_227 rfl rfl ?_
    refine ax_iast (kd := 1) B (by decide) (by decide) rfl d_Model_enter_228 (fun h14 => ?_)
    refine ax_aload_n B 0 d_Model_enter_229 rfl rfl ?_
    refine ax_getfr B cl_Model (by decide) fk_Model_85 d_Model_enter_230 (fun v15 => ?_)
    refine ax_aload_n B 0 d_Model_enter_233 rfl rfl ?_
    refine ax_getfi B cl_Model (by decide) fk_Model_241 d_Model_enter_234 (fun v16 => ?_)
    refine ax_aload_n B 0 d_Model_enter_237 rfl rfl ?_
    refine ax_getfr B cl_Model (by decide) fk_Model_51 d_Model_enter_238 (fun v17 => ?_)
    refine ax_iload_n B 1 d_Model_enter_241 rfl rfl ?_
    refine ax_iald (kd := 1) B (by decide) rfl d_Model_enter_242 (fun v18 => ?_)
    refine ax_iast (kd := 1) B (by decide) (by decide) rfl d_Model_enter_243 (fun h19 => ?_)
    refine ax_aload_n B 0 d_Model_enter_244 rfl rfl ?_
    refine ax_getfr B cl_Model (by decide) fk_Model_88 d_Model_enter_245 (fun v20 => ?_)
    refine ax_aload_n B 0 d_Model_enter_248 rfl rfl ?_
    refine ax_getfi B cl_Model (by decide) fk_Model_241 d_Model_enter_249 (fun v21 => ?_)
    refine ax_iconst (v := 0) B d_Model_enter_252 (by decide) ?_
    refine ax_iast (kd := 1) B (by decide) (by decide) rfl d_Model_enter_253 (fun h22 => ?_)
    refine ax_aload_n B 0 d_Model_enter_254 rfl rfl ?_
    refine ax_dup B d_Model_enter_255 rfl ?_
    refine ax_getfi B cl_Model (by decide) fk_Model_241 d_Model_enter_256 (fun v23 => ?_)
    refine ax_iconst (v := 1) B d_Model_enter_259 (by decide) ?_
    refine ax_iadd B d_Model_enter_260 ?_
    refine ax_putf (v := ax_I (v23 + 1)) B cl_Model (by decide) fk_Model_241 (Or.inl rfl) (fun _ => rfl) (fun _ => rfl) d_Model_enter_261 (fun h24 => ?_)
    refine ax_aload_n B 0 d_Model_enter_264 rfl rfl ?_
    refine ax_iconst (v := 2) B d_Model_enter_265 (by decide) ?_
    refine ax_putf (v := ax_I 2) B cl_Model (by decide) fk_Model_155 (Or.inl rfl) (fun _ => rfl) (fun _ => rfl) d_Model_enter_266 (fun h25 => ?_)
    refine ax_aload_n B 0 d_Model_enter_269 rfl rfl ?_
    refine ax_getfr B cl_Model (by decide) fk_Model_48 d_Model_enter_270 (fun v26 => ?_)
    refine ax_iload_n B 1 d_Model_enter_273 rfl rfl ?_
    refine ax_cald (kd := 3) B (by decide) rfl d_Model_enter_274 (fun v27 => ?_)
    refine ax_bipush (v := 65) B d_Model_enter_275 (by decide) ?_
    refine ax_icmp_ne B 291 d_Model_enter_277 (by decide) ?_ ?_
    · refine ax_iload B 2 d_Model_enter_291 rfl ?_
      refine ax_iconst (v := 1) B d_Model_enter_293 (by decide) ?_
      refine ax_iadd B d_Model_enter_294 ?_
      exact ax_ireturn B d_Model_enter_295
    · refine ax_aload_n B 0 d_Model_enter_280 rfl rfl ?_
      refine ax_iload B 2 d_Model_enter_281 rfl ?_
      refine ax_iconst (v := 1) B d_Model_enter_283 (by decide) ?_
      refine ax_iadd B d_Model_enter_284 ?_
      refine ax_callVi (av := [ax_I (x4 + 1)]) (rest := []) B E hm_Model_openList cl_Model rfl wd_1154 wp_54 lk_Model_244 d_Model_enter_285 rfl (Nat.le_of_ble_eq_true rfl) (fun _ _ hh => hcall 168 _ _ _ _ hh) (fun v29 h28 => ?_)
      refine ax_goto B 295 d_Model_enter_288 (by decide) ?_
      exact ax_ireturn B d_Model_enter_295
  · refine ax_iconst (v := (-1)) B d_Model_enter_204 (by decide) ?_
    refine ax_iload B 2 d_Model_enter_205 rfl ?_
    refine ax_isub B d_Model_enter_207 ?_
    exact ax_ireturn B d_Model_enter_208
def Model_enter_jn177 (call : ax_Cf)  (x0 : Option Nat) (x3 : Int32) (x4 : Int32) (h : ax_Hp) : ax_O :=
  ax_on h x0 9 <| ax_ci (call 158 [ax_A x0, ax_I x4] h) fun v7 h6 =>
  (ax_gr h6 x0 9 17).bind fun v8 =>
  (ax_ldi h6 v8 3 x3).bind fun v9 =>
  if v9 = 65 then
    Model_enter_jn201 call x0 x3 x4 91 v7 h6
  else
    Model_enter_jn201 call x0 x3 x4 123 v7 h6
set_option maxHeartbeats 4000000 in
set_option maxRecDepth 20000 in
theorem Model_enter_jq177 {l : Launch} {G : ax_G} {d : Nat} {call : ax_Cf} (hcall : ax_Hc l G d call) {p : Program} {e : Env} {s : State} {mi : MethodId} {args : Array Value} {below : List Frame} {meth : Method} {c : Code} {h0 : ax_Hp} (B : ax_B G p s mi meth c "SchemaDeskModel" prog_12_method_28_code 6 (some (.int))) (E : c.exceptionTable.isEmpty = true) (Nm : meth.name = y_Model_enter.name)   (x0 : Option Nat) (x3 : Int32) (x4 : Int32) (h : ax_Hp) : ax_W G p l e s mi args below meth c 6 (d + 1) h0 177 [(0, ax_A x0), (3, ax_I x3), (4, ax_I x4)] [] h (Model_enter_jn177 call  x0 x3 x4 h) := by
  unfold Model_enter_jn177
  refine ax_aload_n B 0 d_Model_enter_177 rfl rfl ?_
  refine ax_iload B 2 d_Model_enter_178 rfl ?_
  refine ax_callVi (av := [ax_I x4]) (rest := []) B E hm_Model_see cl_Model rfl wd_1108 wp_44 lk_Model_194 d_Model_enter_180 rfl (Nat.le_of_ble_eq_true rfl) (fun _ _ hh => hcall 158 _ _ _ _ hh) (fun v7 h6 => ?_)
  refine ax_aload_n B 0 d_Model_enter_183 rfl rfl ?_
  refine ax_getfr B cl_Model (by decide) fk_Model_48 d_Model_enter_184 (fun v8 => ?_)
  refine ax_iload_n B 1 d_Model_enter_187 rfl rfl ?_
  refine ax_cald (kd := 3) B (by decide) rfl d_Model_enter_188 (fun v9 => ?_)
  refine ax_bipush (v := 65) B d_Model_enter_189 (by decide) ?_
  refine ax_icmp_ne B 199 d_Model_enter_191 (by decide) ?_ ?_
  · refine ax_bipush (v := 123) B d_Model_enter_199 (by decide) ?_
    refine ax_sub (tv2 := [(0, ax_A x0), (3, ax_I x3), (4, ax_I x4)]) [0, 1, 2] rfl ?_
    exact Model_enter_jq201 hcall B E Nm x0 x3 x4 123 v7 h6
  · refine ax_bipush (v := 91) B d_Model_enter_194 (by decide) ?_
    refine ax_goto B 201 d_Model_enter_196 (by decide) ?_
    refine ax_sub (tv2 := [(0, ax_A x0), (3, ax_I x3), (4, ax_I x4)]) [0, 1, 2] rfl ?_
    exact Model_enter_jq201 hcall B E Nm x0 x3 x4 91 v7 h6
def Model_enter_jn142 (call : ax_Cf)  (x0 : Option Nat) (x3 : Int32) (x4 : Int32) (h : ax_Hp) : ax_O :=
  (ax_pf h x0 9 38 (ax_I 1)).bind fun h3 =>
  (ax_gr h3 x0 9 17).bind fun v4 =>
  (ax_ldi h3 v4 3 x3).bind fun v5 =>
  if v5 = 65 then
    Model_enter_jn177 call x0 x3 x4 h3
  else
    (ax_gr h3 x0 9 17).bind fun v30 =>
    (ax_ldi h3 v30 3 x3).bind fun v31 =>
    if v31 = 82 then
      Model_enter_jn177 call x0 x3 x4 h3
    else
      ax_on h3 x0 9 <| ax_ci (call 162 [ax_A x0, ax_I x3, ax_I x4] h3) fun v33 h32 =>
      ax_ri v33 h32
set_option maxHeartbeats 4000000 in
set_option maxRecDepth 20000 in
theorem Model_enter_jq142 {l : Launch} {G : ax_G} {d : Nat} {call : ax_Cf} (hcall : ax_Hc l G d call) {p : Program} {e : Env} {s : State} {mi : MethodId} {args : Array Value} {below : List Frame} {meth : Method} {c : Code} {h0 : ax_Hp} (B : ax_B G p s mi meth c "SchemaDeskModel" prog_12_method_28_code 6 (some (.int))) (E : c.exceptionTable.isEmpty = true) (Nm : meth.name = y_Model_enter.name)   (x0 : Option Nat) (x3 : Int32) (x4 : Int32) (h : ax_Hp) : ax_W G p l e s mi args below meth c 6 (d + 1) h0 142 [(0, ax_A x0), (3, ax_I x3), (4, ax_I x4)] [] h (Model_enter_jn142 call  x0 x3 x4 h) := by
  unfold Model_enter_jn142
  refine ax_aload_n B 0 d_Model_enter_142 rfl rfl ?_
  refine ax_iconst (v := 1) B d_Model_enter_143 (by decide) ?_
  refine ax_putf (v := ax_I 1) B cl_Model (by decide) fk_Model_155 (Or.inl rfl) (fun _ => rfl) (fun _ => rfl) d_Model_enter_144 (fun h3 => ?_)
  refine ax_aload_n B 0 d_Model_enter_147 rfl rfl ?_
  refine ax_getfr B cl_Model (by decide) fk_Model_48 d_Model_enter_148 (fun v4 => ?_)
  refine ax_iload_n B 1 d_Model_enter_151 rfl rfl ?_
  refine ax_cald (kd := 3) B (by decide) rfl d_Model_enter_152 (fun v5 => ?_)
  refine ax_bipush (v := 65) B d_Model_enter_153 (by decide) ?_
  refine ax_icmp_eq B 177 d_Model_enter_155 (by decide) ?_ ?_
  · refine ax_sub (tv2 := [(0, ax_A x0), (3, ax_I x3), (4, ax_I x4)]) [0, 1, 2] rfl ?_
    exact Model_enter_jq177 hcall B E Nm x0 x3 x4 h3
  · refine ax_aload_n B 0 d_Model_enter_158 rfl rfl ?_
    refine ax_getfr B cl_Model (by decide) fk_Model_48 d_Model_enter_159 (fun v30 => ?_)
    refine ax_iload_n B 1 d_Model_enter_162 rfl rfl ?_
    refine ax_cald (kd := 3) B (by decide) rfl d_Model_enter_163 (fun v31 => ?_)
    refine ax_bipush (v := 82) B d_Model_enter_164 (by decide) ?_
    refine ax_icmp_eq B 177 d_Model_enter_166 (by decide) ?_ ?_
    · refine ax_sub (tv2 := [(0, ax_A x0), (3, ax_I x3), (4, ax_I x4)]) [0, 1, 2] rfl ?_
      exact Model_enter_jq177 hcall B E Nm x0 x3 x4 h3
    · refine ax_aload_n B 0 d_Model_enter_169 rfl rfl ?_
      refine ax_iload_n B 1 d_Model_enter_170 rfl rfl ?_
      refine ax_iload B 2 d_Model_enter_171 rfl ?_
      refine ax_callVi (av := [ax_I x3, ax_I x4]) (rest := []) B E hm_Model_readPlain cl_Model rfl wd_1124 wp_48 lk_Model_238 d_Model_enter_173 rfl (Nat.le_of_ble_eq_true rfl) (fun _ _ hh => hcall 162 _ _ _ _ hh) (fun v33 h32 => ?_)
      exact ax_ireturn B d_Model_enter_176
def Model_enter_jn50 (call : ax_Cf)  (x4 : Int32) (h : ax_Hp) : ax_O :=
  ax_ri ((-1) - x4) h
set_option maxHeartbeats 4000000 in
set_option maxRecDepth 20000 in
theorem Model_enter_jq50 {l : Launch} {G : ax_G} {d : Nat} {call : ax_Cf} (hcall : ax_Hc l G d call) {p : Program} {e : Env} {s : State} {mi : MethodId} {args : Array Value} {below : List Frame} {meth : Method} {c : Code} {h0 : ax_Hp} (B : ax_B G p s mi meth c "SchemaDeskModel" prog_12_method_28_code 6 (some (.int))) (E : c.exceptionTable.isEmpty = true) (Nm : meth.name = y_Model_enter.name)   (x4 : Int32) (h : ax_Hp) : ax_W G p l e s mi args below meth c 6 (d + 1) h0 50 [(4, ax_I x4)] [] h (Model_enter_jn50 call  x4 h) := by
  unfold Model_enter_jn50
  refine ax_iconst (v := (-1)) B d_Model_enter_50 (by decide) ?_
  refine ax_iload B 0 d_Model_enter_51 rfl ?_
  refine ax_isub B d_Model_enter_53 ?_
  exact ax_ireturn B d_Model_enter_54
def Model_enter_jn101 (call : ax_Cf)  (x0 : Option Nat) (x3 : Int32) (x4 : Int32) (x5 : Int32) (h : ax_Hp) : ax_O :=
  ax_on h x0 9 <| ax_ci (call 161 [ax_A x0, ax_I x3, ax_I x5] h) fun v52 h51 =>
  Model_enter_jn142 call x0 v52 (x4 + 2) h51
set_option maxHeartbeats 4000000 in
set_option maxRecDepth 20000 in
theorem Model_enter_jq101 {l : Launch} {G : ax_G} {d : Nat} {call : ax_Cf} (hcall : ax_Hc l G d call) {p : Program} {e : Env} {s : State} {mi : MethodId} {args : Array Value} {below : List Frame} {meth : Method} {c : Code} {h0 : ax_Hp} (B : ax_B G p s mi meth c "SchemaDeskModel" prog_12_method_28_code 6 (some (.int))) (E : c.exceptionTable.isEmpty = true) (Nm : meth.name = y_Model_enter.name)   (x0 : Option Nat) (x3 : Int32) (x4 : Int32) (x5 : Int32) (h : ax_Hp) : ax_W G p l e s mi args below meth c 6 (d + 1) h0 101 [(0, ax_A x0), (3, ax_I x3), (4, ax_I x4), (5, ax_I x5)] [] h (Model_enter_jn101 call  x0 x3 x4 x5 h) := by
  unfold Model_enter_jn101
  refine ax_aload_n B 0 d_Model_enter_101 rfl rfl ?_
  refine ax_iload_n B 1 d_Model_enter_102 rfl rfl ?_
  refine ax_iload B 3 d_Model_enter_103 rfl ?_
  refine ax_callVi (av := [ax_I x3, ax_I x5]) (rest := []) B E hm_Model_branch cl_Model rfl wd_1120 wp_47 lk_Model_235 d_Model_enter_105 rfl (Nat.le_of_ble_eq_true rfl) (fun _ _ hh => hcall 161 _ _ _ _ hh) (fun v52 h51 => ?_)
  refine ax_istore_n (tv2 := [(3, ax_I v52), (0, ax_A x0), (4, ax_I x4), (5, ax_I x5)]) B d_Model_enter_108 rfl (by decide) rfl ?_
  refine ax_iinc (v := x4 + 2) (tv2 := [(4, ax_I (x4 + 2)), (3, ax_I v52), (0, ax_A x0), (5, ax_I x5)]) B 2 d_Model_enter_109 rfl (congrArg (_ + ·) (by decide)) (by decide) rfl ?_
  refine ax_goto B 142 d_Model_enter_112 (by decide) ?_
  refine ax_sub (tv2 := [(0, ax_A x0), (3, ax_I v52), (4, ax_I (x4 + 2))]) [2, 1, 0] rfl ?_
  exact Model_enter_jq142 hcall B E Nm x0 v52 (x4 + 2) h51
def Model_enter_b (call : ax_Cf) (x0 : Option Nat) (x1 : Int32) (x2 : Int32) (h : ax_Hp) : ax_O :=
  (ax_gr h x0 9 17).bind fun v1 =>
  (ax_ldi h v1 3 x1).bind fun v2 =>
  if v2 = 85 then
    (ax_gi h x0 9 29).bind fun v34 =>
    if v34 = 0 then
      (ax_gr h x0 9 18).bind fun v35 =>
      (ax_ldi h v35 1 x1).bind fun v36 =>
      (ax_gi h x0 9 39).bind fun v37 =>
      if v37 = 2 then
        ax_on h x0 9 <| ax_cv (call 160 [ax_A x0, ax_I 48] h) fun h38 =>
        ax_on h38 x0 9 <| ax_cv (call 160 [ax_A x0, ax_I 58] h38) fun h40 =>
        Model_enter_jn142 call x0 v36 x2 h40
      else
        Model_enter_jn142 call x0 v36 x2 h
    else
      ax_on h x0 9 <| ax_ci (call 158 [ax_A x0, ax_I x2] h) fun v43 h42 =>
      if (v43 - 48) < 0 then
        Model_enter_jn50 call x2 h42
      else
        (ax_gr h42 x0 9 20).bind fun v44 =>
        (ax_ldi h42 v44 1 x1).bind fun v45 =>
        if (v43 - 48) < v45 then
          ax_on h42 x0 9 <| ax_ci (call 158 [ax_A x0, ax_I (x2 + 1)] h42) fun v47 h46 =>
          if v47 = 58 then
            ax_on h46 x0 9 <| ax_cv (call 159 [ax_A x0, ax_I x2, ax_I (x2 + 2)] h46) fun h48 =>
            (ax_gi h48 x0 9 39).bind fun v50 =>
            if v50 = 1 then
              ax_on h48 x0 9 <| ax_cv (call 160 [ax_A x0, ax_I (2 * (v43 - 48))] h48) fun h53 =>
              Model_enter_jn101 call x0 x1 x2 (v43 - 48) h53
            else
              Model_enter_jn101 call x0 x1 x2 (v43 - 48) h48
          else
            ax_ri ((-1) - (x2 + 1)) h46
        else
          Model_enter_jn50 call x2 h42
  else
    Model_enter_jn142 call x0 x1 x2 h
set_option maxHeartbeats 4000000 in
set_option maxRecDepth 20000 in
theorem Model_enter_t {l : Launch} {G : ax_G} {d : Nat} {call : ax_Cf} (hcall : ax_Hc l G d call) (x0 : Option Nat) (x1 : Int32) (x2 : Int32) (h : ax_Hp) {r : ax_Rs} {h' : ax_Hp} (ho : Model_enter_b call x0 x1 x2 h = some (r, h')) : ax_C l G (d + 1) y_Model_enter (.code y_Model_enter prog_12_method_28_code 6 (some (.int))) [ax_A x0, ax_I x1, ax_I x2] h r h' := by
  refine ax_enter (by decide) (Nat.le_of_ble_eq_true rfl) ho (fun p e s mi args below meth c B E Nm => ?_)
  have B : ax_B G p s mi meth c "SchemaDeskModel" prog_12_method_28_code 6 (some (.int)) := B
  show ax_W G p l e s mi args below meth c 6 (d + 1) h 0 [(0, ax_A x0), (1, ax_I x1), (2, ax_I x2)] [] h (Model_enter_b call x0 x1 x2 h)
  unfold Model_enter_b
  refine ax_iload_n B 1 d_Model_enter_0 rfl rfl ?_
  refine ax_istore_n (tv2 := [(3, ax_I x1), (0, ax_A x0), (1, ax_I x1), (2, ax_I x2)]) B d_Model_enter_1 rfl (by decide) rfl ?_
  refine ax_iload_n B 3 d_Model_enter_2 rfl rfl ?_
  refine ax_istore (tv2 := [(4, ax_I x2), (3, ax_I x1), (0, ax_A x0), (1, ax_I x1), (2, ax_I x2)]) B d_Model_enter_3 (by decide) rfl ?_
  refine ax_aload_n B 2 d_Model_enter_5 rfl rfl ?_
  refine ax_getfr B cl_Model (by decide) fk_Model_48 d_Model_enter_6 (fun v1 => ?_)
  refine ax_iload_n B 1 d_Model_enter_9 rfl rfl ?_
  refine ax_cald (kd := 3) B (by decide) rfl d_Model_enter_10 (fun v2 => ?_)
  refine ax_bipush (v := 85) B d_Model_enter_11 (by decide) ?_
  refine ax_icmp_ne B 142 d_Model_enter_13 (by decide) ?_ ?_
  · refine ax_sub (tv2 := [(0, ax_A x0), (3, ax_I x1), (4, ax_I x2)]) [2, 1, 0] rfl ?_
    exact Model_enter_jq142 hcall B E Nm x0 x1 x2 h
  · refine ax_aload_n B 2 d_Model_enter_16 rfl rfl ?_
    refine ax_getfi B cl_Model (by decide) fk_Model_187 d_Model_enter_17 (fun v34 => ?_)
    refine ax_if_eq B 115 d_Model_enter_20 (by decide) ?_ ?_
    · refine ax_aload_n B 2 d_Model_enter_115 rfl rfl ?_
      refine ax_getfr B cl_Model (by decide) fk_Model_51 d_Model_enter_116 (fun v35 => ?_)
      refine ax_iload_n B 1 d_Model_enter_119 rfl rfl ?_
      refine ax_iald (kd := 1) B (by decide) rfl d_Model_enter_120 (fun v36 => ?_)
      refine ax_istore_n (tv2 := [(3, ax_I v36), (4, ax_I x2), (0, ax_A x0), (1, ax_I x1), (2, ax_I x2)]) B d_Model_enter_121 rfl (by decide) rfl ?_
      refine ax_aload_n B 2 d_Model_enter_122 rfl rfl ?_
      refine ax_getfi B cl_Model (by decide) fk_Model_170 d_Model_enter_123 (fun v37 => ?_)
      refine ax_iconst (v := 2) B d_Model_enter_126 (by decide) ?_
      refine ax_icmp_ne B 142 d_Model_enter_127 (by decide) ?_ ?_
      · refine ax_sub (tv2 := [(0, ax_A x0), (3, ax_I v36), (4, ax_I x2)]) [2, 0, 1] rfl ?_
        exact Model_enter_jq142 hcall B E Nm x0 v36 x2 h
      · refine ax_aload_n B 2 d_Model_enter_130 rfl rfl ?_
        refine ax_bipush (v := 48) B d_Model_enter_131 (by decide) ?_
        refine ax_callVv (av := [ax_I 48]) (rest := []) B E hm_Model_say cl_Model rfl wd_1116 wp_46 lk_Model_208 d_Model_enter_133 rfl (Nat.le_of_ble_eq_true rfl) (fun _ _ hh => hcall 160 _ _ _ _ hh) (fun h38 => ?_)
        refine ax_aload_n B 2 d_Model_enter_136 rfl rfl ?_
        refine ax_bipush (v := 58) B d_Model_enter_137 (by decide) ?_
        refine ax_callVv (av := [ax_I 58]) (rest := []) B E hm_Model_say cl_Model rfl wd_1116 wp_46 lk_Model_208 d_Model_enter_139 rfl (Nat.le_of_ble_eq_true rfl) (fun _ _ hh => hcall 160 _ _ _ _ hh) (fun h40 => ?_)
        refine ax_sub (tv2 := [(0, ax_A x0), (3, ax_I v36), (4, ax_I x2)]) [2, 0, 1] rfl ?_
        exact Model_enter_jq142 hcall B E Nm x0 v36 x2 h40
    · refine ax_aload_n B 2 d_Model_enter_23 rfl rfl ?_
      refine ax_iload B 0 d_Model_enter_24 rfl ?_
      refine ax_callVi (av := [ax_I x2]) (rest := []) B E hm_Model_see cl_Model rfl wd_1108 wp_44 lk_Model_194 d_Model_enter_26 rfl (Nat.le_of_ble_eq_true rfl) (fun _ _ hh => hcall 158 _ _ _ _ hh) (fun v43 h42 => ?_)
      refine ax_bipush (v := 48) B d_Model_enter_29 (by decide) ?_
      refine ax_isub B d_Model_enter_31 ?_
      refine ax_istore (tv2 := [(5, ax_I (v43 - 48)), (4, ax_I x2), (3, ax_I x1), (0, ax_A x0), (1, ax_I x1), (2, ax_I x2)]) B d_Model_enter_32 (by decide) rfl ?_
      refine ax_iload B 0 d_Model_enter_34 rfl ?_
      refine ax_if_lt B 50 d_Model_enter_36 (by decide) ?_ ?_
      · refine ax_sub (tv2 := [(4, ax_I x2)]) [1] rfl ?_
        exact Model_enter_jq50 hcall B E Nm x2 h42
      · refine ax_iload B 0 d_Model_enter_39 rfl ?_
        refine ax_aload_n B 3 d_Model_enter_41 rfl rfl ?_
        refine ax_getfr B cl_Model (by decide) fk_Model_57 d_Model_enter_42 (fun v44 => ?_)
        refine ax_iload_n B 2 d_Model_enter_45 rfl rfl ?_
        refine ax_iald (kd := 1) B (by decide) rfl d_Model_enter_46 (fun v45 => ?_)
        refine ax_icmp_lt B 55 d_Model_enter_47 (by decide) ?_ ?_
        · refine ax_aload_n B 3 d_Model_enter_55 rfl rfl ?_
          refine ax_iload B 1 d_Model_enter_56 rfl ?_
          refine ax_iconst (v := 1) B d_Model_enter_58 (by decide) ?_
          refine ax_iadd B d_Model_enter_59 ?_
          refine ax_callVi (av := [ax_I (x2 + 1)]) (rest := []) B E hm_Model_see cl_Model rfl wd_1108 wp_44 lk_Model_194 d_Model_enter_60 rfl (Nat.le_of_ble_eq_true rfl) (fun _ _ hh => hcall 158 _ _ _ _ hh) (fun v47 h46 => ?_)
          refine ax_bipush (v := 58) B d_Model_enter_63 (by decide) ?_
          refine ax_icmp_eq B 75 d_Model_enter_65 (by decide) ?_ ?_
          · refine ax_aload_n B 3 d_Model_enter_75 rfl rfl ?_
            refine ax_iload B 1 d_Model_enter_76 rfl ?_
            refine ax_iload B 1 d_Model_enter_78 rfl ?_
            refine ax_iconst (v := 2) B d_Model_enter_80 (by decide) ?_
            refine ax_iadd B d_Model_enter_81 ?_
            refine ax_callVv (av := [ax_I x2, ax_I (x2 + 2)]) (rest := []) B E hm_Model_sayCharacters cl_Model rfl wd_1112 wp_45 lk_Model_232 d_Model_enter_82 rfl (Nat.le_of_ble_eq_true rfl) (fun _ _ hh => hcall 159 _ _ _ _ hh) (fun h48 => ?_)
            refine ax_aload_n B 3 d_Model_enter_85 rfl rfl ?_
            refine ax_getfi B cl_Model (by decide) fk_Model_170 d_Model_enter_86 (fun v50 => ?_)
            refine ax_iconst (v := 1) B d_Model_enter_89 (by decide) ?_
            refine ax_icmp_ne B 101 d_Model_enter_90 (by decide) ?_ ?_
            · refine ax_sub (tv2 := [(0, ax_A x0), (3, ax_I x1), (4, ax_I x2), (5, ax_I (v43 - 48))]) [3, 2, 1, 0] rfl ?_
              exact Model_enter_jq101 hcall B E Nm x0 x1 x2 (v43 - 48) h48
            · refine ax_aload_n B 3 d_Model_enter_93 rfl rfl ?_
              refine ax_iconst (v := 2) B d_Model_enter_94 (by decide) ?_
              refine ax_iload B 0 d_Model_enter_95 rfl ?_
              refine ax_imul B d_Model_enter_97 ?_
              refine ax_callVv (av := [ax_I (2 * (v43 - 48))]) (rest := []) B E hm_Model_say cl_Model rfl wd_1116 wp_46 lk_Model_208 d_Model_enter_98 rfl (Nat.le_of_ble_eq_true rfl) (fun _ _ hh => hcall 160 _ _ _ _ hh) (fun h53 => ?_)
              refine ax_sub (tv2 := [(0, ax_A x0), (3, ax_I x1), (4, ax_I x2), (5, ax_I (v43 - 48))]) [3, 2, 1, 0] rfl ?_
              exact Model_enter_jq101 hcall B E Nm x0 x1 x2 (v43 - 48) h53
          · refine ax_iconst (v := (-1)) B d_Model_enter_68 (by decide) ?_
            refine ax_iload B 1 d_Model_enter_69 rfl ?_
            refine ax_iconst (v := 1) B d_Model_enter_71 (by decide) ?_
            refine ax_iadd B d_Model_enter_72 ?_
            refine ax_isub B d_Model_enter_73 ?_
            exact ax_ireturn B d_Model_enter_74
        · refine ax_sub (tv2 := [(4, ax_I x2)]) [1] rfl ?_
          exact Model_enter_jq50 hcall B E Nm x2 h42

theorem d_Model_see_0 : decode prog_12_method_20_code 0 = .ok (.aload_n 0, 1) := by decide +kernel
theorem d_Model_see_1 : decode prog_12_method_20_code 1 = .ok (.getfield 187, 3) := by decide +kernel
theorem d_Model_see_4 : decode prog_12_method_20_code 4 = .ok (.ifCond .eq 22, 3) := by decide +kernel
theorem d_Model_see_7 : decode prog_12_method_20_code 7 = .ok (.iload_n 1, 1) := by decide +kernel
theorem d_Model_see_8 : decode prog_12_method_20_code 8 = .ok (.aload_n 0, 1) := by decide +kernel
theorem d_Model_see_9 : decode prog_12_method_20_code 9 = .ok (.getfield 124, 3) := by decide +kernel
theorem d_Model_see_12 : decode prog_12_method_20_code 12 = .ok (.if_icmp .ge 12, 3) := by decide +kernel
theorem d_Model_see_15 : decode prog_12_method_20_code 15 = .ok (.aload_n 0, 1) := by decide +kernel
theorem d_Model_see_16 : decode prog_12_method_20_code 16 = .ok (.getfield 7, 3) := by decide +kernel
theorem d_Model_see_19 : decode prog_12_method_20_code 19 = .ok (.iload_n 1, 1) := by decide +kernel
theorem d_Model_see_20 : decode prog_12_method_20_code 20 = .ok (.caload, 1) := by decide +kernel
theorem d_Model_see_21 : decode prog_12_method_20_code 21 = .ok (.goto 4, 3) := by decide +kernel
theorem d_Model_see_24 : decode prog_12_method_20_code 24 = .ok (.iconst 0, 1) := by decide +kernel
theorem d_Model_see_25 : decode prog_12_method_20_code 25 = .ok (.ireturn, 1) := by decide +kernel
theorem d_Model_see_26 : decode prog_12_method_20_code 26 = .ok (.aload_n 0, 1) := by decide +kernel
theorem d_Model_see_27 : decode prog_12_method_20_code 27 = .ok (.aload_n 0, 1) := by decide +kernel
theorem d_Model_see_28 : decode prog_12_method_20_code 28 = .ok (.getfield 191, 3) := by decide +kernel
theorem d_Model_see_31 : decode prog_12_method_20_code 31 = .ok (.iload_n 1, 1) := by decide +kernel
theorem d_Model_see_32 : decode prog_12_method_20_code 32 = .ok (.invokevirtual 136, 3) := by decide +kernel
theorem d_Model_see_35 : decode prog_12_method_20_code 35 = .ok (.ireturn, 1) := by decide +kernel
def Model_see_b (call : ax_Cf) (x0 : Option Nat) (x1 : Int32) (h : ax_Hp) : ax_O :=
  (ax_gi h x0 9 29).bind fun v1 =>
  if v1 = 0 then
    (ax_gi h x0 9 30).bind fun v2 =>
    ax_on h x0 9 <| ax_ci (call 155 [ax_A x0, ax_I v2, ax_I x1] h) fun v4 h3 =>
    ax_rc v4 h3
  else
    (ax_gi h x0 9 1).bind fun v5 =>
    if v5 ≤ x1 then
      ax_rc 0 h
    else
      (ax_gr h x0 9 2).bind fun v6 =>
      (ax_ldi h v6 3 x1).bind fun v7 =>
      ax_rc v7 h
set_option maxHeartbeats 4000000 in
set_option maxRecDepth 20000 in
theorem Model_see_t {l : Launch} {G : ax_G} {d : Nat} {call : ax_Cf} (hcall : ax_Hc l G d call) (x0 : Option Nat) (x1 : Int32) (h : ax_Hp) {r : ax_Rs} {h' : ax_Hp} (ho : Model_see_b call x0 x1 h = some (r, h')) : ax_C l G (d + 1) y_Model_see (.code y_Model_see prog_12_method_20_code 2 (some (.char))) [ax_A x0, ax_I x1] h r h' := by
  refine ax_enter (by decide) (Nat.le_of_ble_eq_true rfl) ho (fun p e s mi args below meth c B E Nm => ?_)
  have B : ax_B G p s mi meth c "SchemaDeskModel" prog_12_method_20_code 2 (some (.char)) := B
  show ax_W G p l e s mi args below meth c 2 (d + 1) h 0 [(0, ax_A x0), (1, ax_I x1)] [] h (Model_see_b call x0 x1 h)
  unfold Model_see_b
  refine ax_aload_n B 0 d_Model_see_0 rfl rfl ?_
  refine ax_getfi B cl_Model (by decide) fk_Model_187 d_Model_see_1 (fun v1 => ?_)
  refine ax_if_eq B 26 d_Model_see_4 (by decide) ?_ ?_
  · refine ax_aload_n B 0 d_Model_see_26 rfl rfl ?_
    refine ax_aload_n B 0 d_Model_see_27 rfl rfl ?_
    refine ax_getfi B cl_Model (by decide) fk_Model_191 d_Model_see_28 (fun v2 => ?_)
    refine ax_iload_n B 1 d_Model_see_31 rfl rfl ?_
    refine ax_callVi (av := [ax_I v2, ax_I x1]) (rest := []) B E hm_Model_look cl_Model rfl wd_1096 wp_41 lk_Model_136 d_Model_see_32 rfl (Nat.le_of_ble_eq_true rfl) (fun _ _ hh => hcall 155 _ _ _ _ hh) (fun v4 h3 => ?_)
    exact ax_creturn B d_Model_see_35
  · refine ax_iload_n B 1 d_Model_see_7 rfl rfl ?_
    refine ax_aload_n B 0 d_Model_see_8 rfl rfl ?_
    refine ax_getfi B cl_Model (by decide) fk_Model_124 d_Model_see_9 (fun v5 => ?_)
    refine ax_icmp_ge B 24 d_Model_see_12 (by decide) ?_ ?_
    · refine ax_iconst (v := 0) B d_Model_see_24 (by decide) ?_
      exact ax_creturn B d_Model_see_25
    · refine ax_aload_n B 0 d_Model_see_15 rfl rfl ?_
      refine ax_getfr B cl_Model (by decide) fk_Model_7 d_Model_see_16 (fun v6 => ?_)
      refine ax_iload_n B 1 d_Model_see_19 rfl rfl ?_
      refine ax_cald (kd := 3) B (by decide) rfl d_Model_see_20 (fun v7 => ?_)
      refine ax_goto B 25 d_Model_see_21 (by decide) ?_
      exact ax_creturn B d_Model_see_25

theorem d_Model_sayCharacters_0 : decode prog_12_method_23_code 0 = .ok (.iload_n 1, 1) := by decide +kernel
theorem d_Model_sayCharacters_1 : decode prog_12_method_23_code 1 = .ok (.istore_n 3, 1) := by decide +kernel
theorem d_Model_sayCharacters_2 : decode prog_12_method_23_code 2 = .ok (.iload_n 3, 1) := by decide +kernel
theorem d_Model_sayCharacters_3 : decode prog_12_method_23_code 3 = .ok (.iload_n 2, 1) := by decide +kernel
theorem d_Model_sayCharacters_4 : decode prog_12_method_23_code 4 = .ok (.if_icmp .ge 26, 3) := by decide +kernel
theorem d_Model_sayCharacters_7 : decode prog_12_method_23_code 7 = .ok (.aload_n 0, 1) := by decide +kernel
theorem d_Model_sayCharacters_8 : decode prog_12_method_23_code 8 = .ok (.getfield 170, 3) := by decide +kernel
theorem d_Model_sayCharacters_11 : decode prog_12_method_23_code 11 = .ok (.iconst 2, 1) := by decide +kernel
theorem d_Model_sayCharacters_12 : decode prog_12_method_23_code 12 = .ok (.if_icmp .ne 18, 3) := by decide +kernel
theorem d_Model_sayCharacters_15 : decode prog_12_method_23_code 15 = .ok (.aload_n 0, 1) := by decide +kernel
theorem d_Model_sayCharacters_16 : decode prog_12_method_23_code 16 = .ok (.aload_n 0, 1) := by decide +kernel
theorem d_Model_sayCharacters_17 : decode prog_12_method_23_code 17 = .ok (.iload_n 3, 1) := by decide +kernel
theorem d_Model_sayCharacters_18 : decode prog_12_method_23_code 18 = .ok (.invokevirtual 194, 3) := by decide +kernel
theorem d_Model_sayCharacters_21 : decode prog_12_method_23_code 21 = .ok (.invokevirtual 208, 3) := by decide +kernel
theorem d_Model_sayCharacters_24 : decode prog_12_method_23_code 24 = .ok (.iinc 3 1, 3) := by decide +kernel
theorem d_Model_sayCharacters_27 : decode prog_12_method_23_code 27 = .ok (.goto (-25), 3) := by decide +kernel
theorem d_Model_sayCharacters_30 : decode prog_12_method_23_code 30 = .ok (.return_, 1) := by decide +kernel
def Model_sayCharacters_bd2 (call : ax_Cf)  (k2 : Option Nat → Int32 → Int32 → ax_Hp → ax_O) (x0 : Option Nat) (x2 : Int32) (x3 : Int32) (h : ax_Hp) : ax_O :=
  if x2 ≤ x3 then
    ax_rv h
  else
    (ax_gi h x0 9 39).bind fun v1 =>
    if v1 = 2 then
      ax_on h x0 9 <| ax_ci (call 158 [ax_A x0, ax_I x3] h) fun v3 h2 =>
      ax_on h2 x0 9 <| ax_cv (call 160 [ax_A x0, ax_I v3] h2) fun h4 =>
      k2 x0 x2 (x3 + 1) h4
    else
      ax_rv h
def Model_sayCharacters_lp2 (call : ax_Cf)  : Nat → Option Nat → Int32 → Int32 → ax_Hp → ax_O
  | 0 => fun _ _ _ _ => none
  | n + 1 => Model_sayCharacters_bd2 call  (Model_sayCharacters_lp2 call  n)
set_option maxHeartbeats 4000000 in
set_option maxRecDepth 20000 in
theorem Model_sayCharacters_lb2 {l : Launch} {G : ax_G} {d : Nat} {call : ax_Cf} (hcall : ax_Hc l G d call) {p : Program} {e : Env} {s : State} {mi : MethodId} {args : Array Value} {below : List Frame} {meth : Method} {c : Code} {h0 : ax_Hp} (B : ax_B G p s mi meth c "SchemaDeskModel" prog_12_method_23_code 4 none) (E : c.exceptionTable.isEmpty = true) (Nm : meth.name = y_Model_sayCharacters.name)   {k2 : Option Nat → Int32 → Int32 → ax_Hp → ax_O} (hk2 : ∀ (x0 : Option Nat) (x2 : Int32) (x3 : Int32) (h : ax_Hp), ax_W G p l e s mi args below meth c 4 (d + 1) h0 2 [(0, ax_A x0), (2, ax_I x2), (3, ax_I x3)] [] h (k2 x0 x2 x3 h)) (x0 : Option Nat) (x2 : Int32) (x3 : Int32) (h : ax_Hp) : ax_W G p l e s mi args below meth c 4 (d + 1) h0 2 [(0, ax_A x0), (2, ax_I x2), (3, ax_I x3)] [] h (Model_sayCharacters_bd2 call  k2 x0 x2 x3 h) := by
  unfold Model_sayCharacters_bd2
  refine ax_iload_n B 2 d_Model_sayCharacters_2 rfl rfl ?_
  refine ax_iload_n B 1 d_Model_sayCharacters_3 rfl rfl ?_
  refine ax_icmp_ge B 30 d_Model_sayCharacters_4 (by decide) ?_ ?_
  · exact ax_vreturn B d_Model_sayCharacters_30
  · refine ax_aload_n B 0 d_Model_sayCharacters_7 rfl rfl ?_
    refine ax_getfi B cl_Model (by decide) fk_Model_170 d_Model_sayCharacters_8 (fun v1 => ?_)
    refine ax_iconst (v := 2) B d_Model_sayCharacters_11 (by decide) ?_
    refine ax_icmp_ne B 30 d_Model_sayCharacters_12 (by decide) ?_ ?_
    · exact ax_vreturn B d_Model_sayCharacters_30
    · refine ax_aload_n B 0 d_Model_sayCharacters_15 rfl rfl ?_
      refine ax_aload_n B 0 d_Model_sayCharacters_16 rfl rfl ?_
      refine ax_iload_n B 2 d_Model_sayCharacters_17 rfl rfl ?_
      refine ax_callVi (av := [ax_I x3]) (rest := [ax_A x0]) B E hm_Model_see cl_Model rfl wd_1108 wp_44 lk_Model_194 d_Model_sayCharacters_18 rfl (Nat.le_of_ble_eq_true rfl) (fun _ _ hh => hcall 158 _ _ _ _ hh) (fun v3 h2 => ?_)
      refine ax_callVv (av := [ax_I v3]) (rest := []) B E hm_Model_say cl_Model rfl wd_1116 wp_46 lk_Model_208 d_Model_sayCharacters_21 rfl (Nat.le_of_ble_eq_true rfl) (fun _ _ hh => hcall 160 _ _ _ _ hh) (fun h4 => ?_)
      refine ax_iinc (v := x3 + 1) (tv2 := [(3, ax_I (x3 + 1)), (0, ax_A x0), (2, ax_I x2)]) B 2 d_Model_sayCharacters_24 rfl (congrArg (_ + ·) (by decide)) (by decide) rfl ?_
      refine ax_goto B 2 d_Model_sayCharacters_27 (by decide) ?_
      refine ax_sub (tv2 := [(0, ax_A x0), (2, ax_I x2), (3, ax_I (x3 + 1))]) [1, 2, 0] rfl ?_
      exact hk2 x0 x2 (x3 + 1) h4
theorem Model_sayCharacters_lq2 {l : Launch} {G : ax_G} {d : Nat} {call : ax_Cf} (hcall : ax_Hc l G d call) {p : Program} {e : Env} {s : State} {mi : MethodId} {args : Array Value} {below : List Frame} {meth : Method} {c : Code} {h0 : ax_Hp} (B : ax_B G p s mi meth c "SchemaDeskModel" prog_12_method_23_code 4 none) (E : c.exceptionTable.isEmpty = true) (Nm : meth.name = y_Model_sayCharacters.name)   : ∀ (n : Nat) (x0 : Option Nat) (x2 : Int32) (x3 : Int32) (h : ax_Hp), ax_W G p l e s mi args below meth c 4 (d + 1) h0 2 [(0, ax_A x0), (2, ax_I x2), (3, ax_I x3)] [] h (Model_sayCharacters_lp2 call  n x0 x2 x3 h)
  | 0, _, _, _, _ => ax_none
  | n + 1, x0, x2, x3, h => Model_sayCharacters_lb2 hcall B E Nm   (Model_sayCharacters_lq2 hcall B E Nm   n) x0 x2 x3 h
def Model_sayCharacters_b (call : ax_Cf) (x0 : Option Nat) (x1 : Int32) (x2 : Int32) (h : ax_Hp) : ax_O :=
  Model_sayCharacters_lp2 call ax_fuel x0 x2 x1 h
set_option maxHeartbeats 4000000 in
set_option maxRecDepth 20000 in
theorem Model_sayCharacters_t {l : Launch} {G : ax_G} {d : Nat} {call : ax_Cf} (hcall : ax_Hc l G d call) (x0 : Option Nat) (x1 : Int32) (x2 : Int32) (h : ax_Hp) {r : ax_Rs} {h' : ax_Hp} (ho : Model_sayCharacters_b call x0 x1 x2 h = some (r, h')) : ax_C l G (d + 1) y_Model_sayCharacters (.code y_Model_sayCharacters prog_12_method_23_code 4 none) [ax_A x0, ax_I x1, ax_I x2] h r h' := by
  refine ax_enter (by decide) (Nat.le_of_ble_eq_true rfl) ho (fun p e s mi args below meth c B E Nm => ?_)
  have B : ax_B G p s mi meth c "SchemaDeskModel" prog_12_method_23_code 4 none := B
  show ax_W G p l e s mi args below meth c 4 (d + 1) h 0 [(0, ax_A x0), (1, ax_I x1), (2, ax_I x2)] [] h (Model_sayCharacters_b call x0 x1 x2 h)
  unfold Model_sayCharacters_b
  refine ax_iload_n B 1 d_Model_sayCharacters_0 rfl rfl ?_
  refine ax_istore_n (tv2 := [(3, ax_I x1), (0, ax_A x0), (1, ax_I x1), (2, ax_I x2)]) B d_Model_sayCharacters_1 rfl (by decide) rfl ?_
  refine ax_sub (tv2 := [(0, ax_A x0), (2, ax_I x2), (3, ax_I x1)]) [1, 3, 0] rfl ?_
  exact Model_sayCharacters_lq2 hcall B E Nm ax_fuel x0 x2 x1 h

theorem d_Model_say_0 : decode prog_12_method_7_code 0 = .ok (.aload_n 0, 1) := by decide +kernel
theorem d_Model_say_1 : decode prog_12_method_7_code 1 = .ok (.getfield 130, 3) := by decide +kernel
theorem d_Model_say_4 : decode prog_12_method_7_code 4 = .ok (.sipush 420, 3) := by decide +kernel
theorem d_Model_say_7 : decode prog_12_method_7_code 7 = .ok (.if_icmp .ge 13, 3) := by decide +kernel
theorem d_Model_say_10 : decode prog_12_method_7_code 10 = .ok (.aload_n 0, 1) := by decide +kernel
theorem d_Model_say_11 : decode prog_12_method_7_code 11 = .ok (.getfield 20, 3) := by decide +kernel
theorem d_Model_say_14 : decode prog_12_method_7_code 14 = .ok (.aload_n 0, 1) := by decide +kernel
theorem d_Model_say_15 : decode prog_12_method_7_code 15 = .ok (.getfield 130, 3) := by decide +kernel
theorem d_Model_say_18 : decode prog_12_method_7_code 18 = .ok (.iload_n 1, 1) := by decide +kernel
theorem d_Model_say_19 : decode prog_12_method_7_code 19 = .ok (.iastore, 1) := by decide +kernel
theorem d_Model_say_20 : decode prog_12_method_7_code 20 = .ok (.aload_n 0, 1) := by decide +kernel
theorem d_Model_say_21 : decode prog_12_method_7_code 21 = .ok (.dup, 1) := by decide +kernel
theorem d_Model_say_22 : decode prog_12_method_7_code 22 = .ok (.getfield 130, 3) := by decide +kernel
theorem d_Model_say_25 : decode prog_12_method_7_code 25 = .ok (.iconst 1, 1) := by decide +kernel
theorem d_Model_say_26 : decode prog_12_method_7_code 26 = .ok (.iadd, 1) := by decide +kernel
theorem d_Model_say_27 : decode prog_12_method_7_code 27 = .ok (.putfield 130, 3) := by decide +kernel
theorem d_Model_say_30 : decode prog_12_method_7_code 30 = .ok (.return_, 1) := by decide +kernel
def Model_say_jn20 (call : ax_Cf)  (x0 : Option Nat) (h : ax_Hp) : ax_O :=
  (ax_gi h x0 9 7).bind fun v2 =>
  (ax_pf h x0 9 7 (ax_I (v2 + 1))).bind fun h3 =>
  ax_rv h3
set_option maxHeartbeats 4000000 in
set_option maxRecDepth 20000 in
theorem Model_say_jq20 {l : Launch} {G : ax_G} {d : Nat} {call : ax_Cf} (hcall : ax_Hc l G d call) {p : Program} {e : Env} {s : State} {mi : MethodId} {args : Array Value} {below : List Frame} {meth : Method} {c : Code} {h0 : ax_Hp} (B : ax_B G p s mi meth c "SchemaDeskModel" prog_12_method_7_code 2 none) (E : c.exceptionTable.isEmpty = true) (Nm : meth.name = y_Model_say.name)   (x0 : Option Nat) (h : ax_Hp) : ax_W G p l e s mi args below meth c 2 (d + 1) h0 20 [(0, ax_A x0)] [] h (Model_say_jn20 call  x0 h) := by
  unfold Model_say_jn20
  refine ax_aload_n B 0 d_Model_say_20 rfl rfl ?_
  refine ax_dup B d_Model_say_21 rfl ?_
  refine ax_getfi B cl_Model (by decide) fk_Model_130 d_Model_say_22 (fun v2 => ?_)
  refine ax_iconst (v := 1) B d_Model_say_25 (by decide) ?_
  refine ax_iadd B d_Model_say_26 ?_
  refine ax_putf (v := ax_I (v2 + 1)) B cl_Model (by decide) fk_Model_130 (Or.inl rfl) (fun _ => rfl) (fun _ => rfl) d_Model_say_27 (fun h3 => ?_)
  exact ax_vreturn B d_Model_say_30
def Model_say_b (call : ax_Cf) (x0 : Option Nat) (x1 : Int32) (h : ax_Hp) : ax_O :=
  (ax_gi h x0 9 7).bind fun v1 =>
  if 420 ≤ v1 then
    Model_say_jn20 call x0 h
  else
    (ax_gr h x0 9 8).bind fun v4 =>
    (ax_gi h x0 9 7).bind fun v5 =>
    (ax_st h v4 1 v5 (ax_I x1)).bind fun h6 =>
    Model_say_jn20 call x0 h6
set_option maxHeartbeats 4000000 in
set_option maxRecDepth 20000 in
theorem Model_say_t {l : Launch} {G : ax_G} {d : Nat} {call : ax_Cf} (hcall : ax_Hc l G d call) (x0 : Option Nat) (x1 : Int32) (h : ax_Hp) {r : ax_Rs} {h' : ax_Hp} (ho : Model_say_b call x0 x1 h = some (r, h')) : ax_C l G (d + 1) y_Model_say (.code y_Model_say prog_12_method_7_code 2 none) [ax_A x0, ax_I x1] h r h' := by
  refine ax_enter (by decide) (Nat.le_of_ble_eq_true rfl) ho (fun p e s mi args below meth c B E Nm => ?_)
  have B : ax_B G p s mi meth c "SchemaDeskModel" prog_12_method_7_code 2 none := B
  show ax_W G p l e s mi args below meth c 2 (d + 1) h 0 [(0, ax_A x0), (1, ax_I x1)] [] h (Model_say_b call x0 x1 h)
  unfold Model_say_b
  refine ax_aload_n B 0 d_Model_say_0 rfl rfl ?_
  refine ax_getfi B cl_Model (by decide) fk_Model_130 d_Model_say_1 (fun v1 => ?_)
  refine ax_sipush (v := 420) B d_Model_say_4 (by decide) ?_
  refine ax_icmp_ge B 20 d_Model_say_7 (by decide) ?_ ?_
  · refine ax_sub (tv2 := [(0, ax_A x0)]) [0] rfl ?_
    exact Model_say_jq20 hcall B E Nm x0 h
  · refine ax_aload_n B 0 d_Model_say_10 rfl rfl ?_
    refine ax_getfr B cl_Model (by decide) fk_Model_20 d_Model_say_11 (fun v4 => ?_)
    refine ax_aload_n B 0 d_Model_say_14 rfl rfl ?_
    refine ax_getfi B cl_Model (by decide) fk_Model_130 d_Model_say_15 (fun v5 => ?_)
    refine ax_iload_n B 1 d_Model_say_18 rfl rfl ?_
    refine ax_iast (kd := 1) B (by decide) (by decide) rfl d_Model_say_19 (fun h6 => ?_)
    refine ax_sub (tv2 := [(0, ax_A x0)]) [0] rfl ?_
    exact Model_say_jq20 hcall B E Nm x0 h6

theorem d_Model_branch_0 : decode prog_12_method_27_code 0 = .ok (.aload_n 0, 1) := by decide +kernel
theorem d_Model_branch_1 : decode prog_12_method_27_code 1 = .ok (.getfield 51, 3) := by decide +kernel
theorem d_Model_branch_4 : decode prog_12_method_27_code 4 = .ok (.iload_n 1, 1) := by decide +kernel
theorem d_Model_branch_5 : decode prog_12_method_27_code 5 = .ok (.iaload, 1) := by decide +kernel
theorem d_Model_branch_6 : decode prog_12_method_27_code 6 = .ok (.istore_n 3, 1) := by decide +kernel
theorem d_Model_branch_7 : decode prog_12_method_27_code 7 = .ok (.iconst 0, 1) := by decide +kernel
theorem d_Model_branch_8 : decode prog_12_method_27_code 8 = .ok (.istore 4, 2) := by decide +kernel
theorem d_Model_branch_10 : decode prog_12_method_27_code 10 = .ok (.iload 4, 2) := by decide +kernel
theorem d_Model_branch_12 : decode prog_12_method_27_code 12 = .ok (.iload_n 2, 1) := by decide +kernel
theorem d_Model_branch_13 : decode prog_12_method_27_code 13 = .ok (.if_icmp .ge 16, 3) := by decide +kernel
theorem d_Model_branch_16 : decode prog_12_method_27_code 16 = .ok (.aload_n 0, 1) := by decide +kernel
theorem d_Model_branch_17 : decode prog_12_method_27_code 17 = .ok (.getfield 54, 3) := by decide +kernel
theorem d_Model_branch_20 : decode prog_12_method_27_code 20 = .ok (.iload_n 3, 1) := by decide +kernel
theorem d_Model_branch_21 : decode prog_12_method_27_code 21 = .ok (.iaload, 1) := by decide +kernel
theorem d_Model_branch_22 : decode prog_12_method_27_code 22 = .ok (.istore_n 3, 1) := by decide +kernel
theorem d_Model_branch_23 : decode prog_12_method_27_code 23 = .ok (.iinc 4 1, 3) := by decide +kernel
theorem d_Model_branch_26 : decode prog_12_method_27_code 26 = .ok (.goto (-16), 3) := by decide +kernel
theorem d_Model_branch_29 : decode prog_12_method_27_code 29 = .ok (.iload_n 3, 1) := by decide +kernel
theorem d_Model_branch_30 : decode prog_12_method_27_code 30 = .ok (.ireturn, 1) := by decide +kernel
def Model_branch_bd10 (call : ax_Cf)  (k10 : Option Nat → Int32 → Int32 → Int32 → ax_Hp → ax_O) (x0 : Option Nat) (x2 : Int32) (x3 : Int32) (x4 : Int32) (h : ax_Hp) : ax_O :=
  if x2 ≤ x4 then
    ax_ri x3 h
  else
    (ax_gr h x0 9 19).bind fun v3 =>
    (ax_ldi h v3 1 x3).bind fun v4 =>
    k10 x0 x2 v4 (x4 + 1) h
def Model_branch_lp10 (call : ax_Cf)  : Nat → Option Nat → Int32 → Int32 → Int32 → ax_Hp → ax_O
  | 0 => fun _ _ _ _ _ => none
  | n + 1 => Model_branch_bd10 call  (Model_branch_lp10 call  n)
set_option maxHeartbeats 4000000 in
set_option maxRecDepth 20000 in
theorem Model_branch_lb10 {l : Launch} {G : ax_G} {d : Nat} {call : ax_Cf} (hcall : ax_Hc l G d call) {p : Program} {e : Env} {s : State} {mi : MethodId} {args : Array Value} {below : List Frame} {meth : Method} {c : Code} {h0 : ax_Hp} (B : ax_B G p s mi meth c "SchemaDeskModel" prog_12_method_27_code 5 (some (.int))) (E : c.exceptionTable.isEmpty = true) (Nm : meth.name = y_Model_branch.name)   {k10 : Option Nat → Int32 → Int32 → Int32 → ax_Hp → ax_O} (hk10 : ∀ (x0 : Option Nat) (x2 : Int32) (x3 : Int32) (x4 : Int32) (h : ax_Hp), ax_W G p l e s mi args below meth c 5 (d + 1) h0 10 [(0, ax_A x0), (2, ax_I x2), (3, ax_I x3), (4, ax_I x4)] [] h (k10 x0 x2 x3 x4 h)) (x0 : Option Nat) (x2 : Int32) (x3 : Int32) (x4 : Int32) (h : ax_Hp) : ax_W G p l e s mi args below meth c 5 (d + 1) h0 10 [(0, ax_A x0), (2, ax_I x2), (3, ax_I x3), (4, ax_I x4)] [] h (Model_branch_bd10 call  k10 x0 x2 x3 x4 h) := by
  unfold Model_branch_bd10
  refine ax_iload B 3 d_Model_branch_10 rfl ?_
  refine ax_iload_n B 1 d_Model_branch_12 rfl rfl ?_
  refine ax_icmp_ge B 29 d_Model_branch_13 (by decide) ?_ ?_
  · refine ax_iload_n B 2 d_Model_branch_29 rfl rfl ?_
    exact ax_ireturn B d_Model_branch_30
  · refine ax_aload_n B 0 d_Model_branch_16 rfl rfl ?_
    refine ax_getfr B cl_Model (by decide) fk_Model_54 d_Model_branch_17 (fun v3 => ?_)
    refine ax_iload_n B 2 d_Model_branch_20 rfl rfl ?_
    refine ax_iald (kd := 1) B (by decide) rfl d_Model_branch_21 (fun v4 => ?_)
    refine ax_istore_n (tv2 := [(3, ax_I v4), (0, ax_A x0), (2, ax_I x2), (4, ax_I x4)]) B d_Model_branch_22 rfl (by decide) rfl ?_
    refine ax_iinc (v := x4 + 1) (tv2 := [(4, ax_I (x4 + 1)), (3, ax_I v4), (0, ax_A x0), (2, ax_I x2)]) B 3 d_Model_branch_23 rfl (congrArg (_ + ·) (by decide)) (by decide) rfl ?_
    refine ax_goto B 10 d_Model_branch_26 (by decide) ?_
    refine ax_sub (tv2 := [(0, ax_A x0), (2, ax_I x2), (3, ax_I v4), (4, ax_I (x4 + 1))]) [2, 3, 1, 0] rfl ?_
    exact hk10 x0 x2 v4 (x4 + 1) h
theorem Model_branch_lq10 {l : Launch} {G : ax_G} {d : Nat} {call : ax_Cf} (hcall : ax_Hc l G d call) {p : Program} {e : Env} {s : State} {mi : MethodId} {args : Array Value} {below : List Frame} {meth : Method} {c : Code} {h0 : ax_Hp} (B : ax_B G p s mi meth c "SchemaDeskModel" prog_12_method_27_code 5 (some (.int))) (E : c.exceptionTable.isEmpty = true) (Nm : meth.name = y_Model_branch.name)   : ∀ (n : Nat) (x0 : Option Nat) (x2 : Int32) (x3 : Int32) (x4 : Int32) (h : ax_Hp), ax_W G p l e s mi args below meth c 5 (d + 1) h0 10 [(0, ax_A x0), (2, ax_I x2), (3, ax_I x3), (4, ax_I x4)] [] h (Model_branch_lp10 call  n x0 x2 x3 x4 h)
  | 0, _, _, _, _, _ => ax_none
  | n + 1, x0, x2, x3, x4, h => Model_branch_lb10 hcall B E Nm   (Model_branch_lq10 hcall B E Nm   n) x0 x2 x3 x4 h
def Model_branch_b (call : ax_Cf) (x0 : Option Nat) (x1 : Int32) (x2 : Int32) (h : ax_Hp) : ax_O :=
  (ax_gr h x0 9 18).bind fun v1 =>
  (ax_ldi h v1 1 x1).bind fun v2 =>
  Model_branch_lp10 call ax_fuel x0 x2 v2 0 h
set_option maxHeartbeats 4000000 in
set_option maxRecDepth 20000 in
theorem Model_branch_t {l : Launch} {G : ax_G} {d : Nat} {call : ax_Cf} (hcall : ax_Hc l G d call) (x0 : Option Nat) (x1 : Int32) (x2 : Int32) (h : ax_Hp) {r : ax_Rs} {h' : ax_Hp} (ho : Model_branch_b call x0 x1 x2 h = some (r, h')) : ax_C l G (d + 1) y_Model_branch (.code y_Model_branch prog_12_method_27_code 5 (some (.int))) [ax_A x0, ax_I x1, ax_I x2] h r h' := by
  refine ax_enter (by decide) (Nat.le_of_ble_eq_true rfl) ho (fun p e s mi args below meth c B E Nm => ?_)
  have B : ax_B G p s mi meth c "SchemaDeskModel" prog_12_method_27_code 5 (some (.int)) := B
  show ax_W G p l e s mi args below meth c 5 (d + 1) h 0 [(0, ax_A x0), (1, ax_I x1), (2, ax_I x2)] [] h (Model_branch_b call x0 x1 x2 h)
  unfold Model_branch_b
  refine ax_aload_n B 0 d_Model_branch_0 rfl rfl ?_
  refine ax_getfr B cl_Model (by decide) fk_Model_51 d_Model_branch_1 (fun v1 => ?_)
  refine ax_iload_n B 1 d_Model_branch_4 rfl rfl ?_
  refine ax_iald (kd := 1) B (by decide) rfl d_Model_branch_5 (fun v2 => ?_)
  refine ax_istore_n (tv2 := [(3, ax_I v2), (0, ax_A x0), (1, ax_I x1), (2, ax_I x2)]) B d_Model_branch_6 rfl (by decide) rfl ?_
  refine ax_iconst (v := 0) B d_Model_branch_7 (by decide) ?_
  refine ax_istore (tv2 := [(4, ax_I 0), (3, ax_I v2), (0, ax_A x0), (1, ax_I x1), (2, ax_I x2)]) B d_Model_branch_8 (by decide) rfl ?_
  refine ax_sub (tv2 := [(0, ax_A x0), (2, ax_I x2), (3, ax_I v2), (4, ax_I 0)]) [2, 4, 1, 0] rfl ?_
  exact Model_branch_lq10 hcall B E Nm ax_fuel x0 x2 v2 0 h

theorem d_Model_readPlain_0 : decode prog_12_method_26_code 0 = .ok (.aload_n 0, 1) := by decide +kernel
theorem d_Model_readPlain_1 : decode prog_12_method_26_code 1 = .ok (.iload_n 2, 1) := by decide +kernel
theorem d_Model_readPlain_2 : decode prog_12_method_26_code 2 = .ok (.invokevirtual 194, 3) := by decide +kernel
theorem d_Model_readPlain_5 : decode prog_12_method_26_code 5 = .ok (.istore_n 3, 1) := by decide +kernel
theorem d_Model_readPlain_6 : decode prog_12_method_26_code 6 = .ok (.iconst (-1), 1) := by decide +kernel
theorem d_Model_readPlain_7 : decode prog_12_method_26_code 7 = .ok (.iload_n 2, 1) := by decide +kernel
theorem d_Model_readPlain_8 : decode prog_12_method_26_code 8 = .ok (.isub, 1) := by decide +kernel
theorem d_Model_readPlain_9 : decode prog_12_method_26_code 9 = .ok (.istore 4, 2) := by decide +kernel
theorem d_Model_readPlain_11 : decode prog_12_method_26_code 11 = .ok (.aload_n 0, 1) := by decide +kernel
theorem d_Model_readPlain_12 : decode prog_12_method_26_code 12 = .ok (.getfield 48, 3) := by decide +kernel
theorem d_Model_readPlain_15 : decode prog_12_method_26_code 15 = .ok (.iload_n 1, 1) := by decide +kernel
theorem d_Model_readPlain_16 : decode prog_12_method_26_code 16 = .ok (.caload, 1) := by decide +kernel
theorem d_Model_readPlain_17 : decode prog_12_method_26_code 17 = .ok (.lookupswitch 127 #[(66, 62), (69, 87), (78, 43), (83, 117)], 43) := by decide +kernel
theorem d_Model_readPlain_60 : decode prog_12_method_26_code 60 = .ok (.iload_n 3, 1) := by decide +kernel
theorem d_Model_readPlain_61 : decode prog_12_method_26_code 61 = .ok (.bipush 78, 2) := by decide +kernel
theorem d_Model_readPlain_63 : decode prog_12_method_26_code 63 = .ok (.if_icmp .ne 9, 3) := by decide +kernel
theorem d_Model_readPlain_66 : decode prog_12_method_26_code 66 = .ok (.iload_n 2, 1) := by decide +kernel
theorem d_Model_readPlain_67 : decode prog_12_method_26_code 67 = .ok (.iconst 1, 1) := by decide +kernel
theorem d_Model_readPlain_68 : decode prog_12_method_26_code 68 = .ok (.iadd, 1) := by decide +kernel
theorem d_Model_readPlain_69 : decode prog_12_method_26_code 69 = .ok (.goto 5, 3) := by decide +kernel
theorem d_Model_readPlain_72 : decode prog_12_method_26_code 72 = .ok (.iload 4, 2) := by decide +kernel
theorem d_Model_readPlain_74 : decode prog_12_method_26_code 74 = .ok (.istore 4, 2) := by decide +kernel
theorem d_Model_readPlain_76 : decode prog_12_method_26_code 76 = .ok (.goto 91, 3) := by decide +kernel
theorem d_Model_readPlain_79 : decode prog_12_method_26_code 79 = .ok (.iload_n 3, 1) := by decide +kernel
theorem d_Model_readPlain_80 : decode prog_12_method_26_code 80 = .ok (.bipush 84, 2) := by decide +kernel
theorem d_Model_readPlain_82 : decode prog_12_method_26_code 82 = .ok (.if_icmp .eq 9, 3) := by decide +kernel
theorem d_Model_readPlain_85 : decode prog_12_method_26_code 85 = .ok (.iload_n 3, 1) := by decide +kernel
theorem d_Model_readPlain_86 : decode prog_12_method_26_code 86 = .ok (.bipush 70, 2) := by decide +kernel
theorem d_Model_readPlain_88 : decode prog_12_method_26_code 88 = .ok (.if_icmp .ne 9, 3) := by decide +kernel
theorem d_Model_readPlain_91 : decode prog_12_method_26_code 91 = .ok (.iload_n 2, 1) := by decide +kernel
theorem d_Model_readPlain_92 : decode prog_12_method_26_code 92 = .ok (.iconst 1, 1) := by decide +kernel
theorem d_Model_readPlain_93 : decode prog_12_method_26_code 93 = .ok (.iadd, 1) := by decide +kernel
theorem d_Model_readPlain_94 : decode prog_12_method_26_code 94 = .ok (.goto 5, 3) := by decide +kernel
theorem d_Model_readPlain_97 : decode prog_12_method_26_code 97 = .ok (.iload 4, 2) := by decide +kernel
theorem d_Model_readPlain_99 : decode prog_12_method_26_code 99 = .ok (.istore 4, 2) := by decide +kernel
theorem d_Model_readPlain_101 : decode prog_12_method_26_code 101 = .ok (.goto 66, 3) := by decide +kernel
theorem d_Model_readPlain_104 : decode prog_12_method_26_code 104 = .ok (.iload_n 3, 1) := by decide +kernel
theorem d_Model_readPlain_105 : decode prog_12_method_26_code 105 = .ok (.ifCond .eq 22, 3) := by decide +kernel
theorem d_Model_readPlain_108 : decode prog_12_method_26_code 108 = .ok (.aload_n 0, 1) := by decide +kernel
theorem d_Model_readPlain_109 : decode prog_12_method_26_code 109 = .ok (.aload_n 0, 1) := by decide +kernel
theorem d_Model_readPlain_110 : decode prog_12_method_26_code 110 = .ok (.getfield 191, 3) := by decide +kernel
theorem d_Model_readPlain_113 : decode prog_12_method_26_code 113 = .ok (.iload_n 1, 1) := by decide +kernel
theorem d_Model_readPlain_114 : decode prog_12_method_26_code 114 = .ok (.iload_n 3, 1) := by decide +kernel
theorem d_Model_readPlain_115 : decode prog_12_method_26_code 115 = .ok (.invokevirtual 144, 3) := by decide +kernel
theorem d_Model_readPlain_118 : decode prog_12_method_26_code 118 = .ok (.ifCond .lt 9, 3) := by decide +kernel
theorem d_Model_readPlain_121 : decode prog_12_method_26_code 121 = .ok (.iload_n 2, 1) := by decide +kernel
theorem d_Model_readPlain_122 : decode prog_12_method_26_code 122 = .ok (.iconst 1, 1) := by decide +kernel
theorem d_Model_readPlain_123 : decode prog_12_method_26_code 123 = .ok (.iadd, 1) := by decide +kernel
theorem d_Model_readPlain_124 : decode prog_12_method_26_code 124 = .ok (.goto 5, 3) := by decide +kernel
theorem d_Model_readPlain_127 : decode prog_12_method_26_code 127 = .ok (.iload 4, 2) := by decide +kernel
theorem d_Model_readPlain_129 : decode prog_12_method_26_code 129 = .ok (.istore 4, 2) := by decide +kernel
theorem d_Model_readPlain_131 : decode prog_12_method_26_code 131 = .ok (.goto 36, 3) := by decide +kernel
theorem d_Model_readPlain_134 : decode prog_12_method_26_code 134 = .ok (.aload_n 0, 1) := by decide +kernel
theorem d_Model_readPlain_135 : decode prog_12_method_26_code 135 = .ok (.iload_n 2, 1) := by decide +kernel
theorem d_Model_readPlain_136 : decode prog_12_method_26_code 136 = .ok (.invokevirtual 221, 3) := by decide +kernel
theorem d_Model_readPlain_139 : decode prog_12_method_26_code 139 = .ok (.istore 4, 2) := by decide +kernel
theorem d_Model_readPlain_141 : decode prog_12_method_26_code 141 = .ok (.goto 26, 3) := by decide +kernel
theorem d_Model_readPlain_144 : decode prog_12_method_26_code 144 = .ok (.aload_n 0, 1) := by decide +kernel
theorem d_Model_readPlain_145 : decode prog_12_method_26_code 145 = .ok (.iload_n 2, 1) := by decide +kernel
theorem d_Model_readPlain_146 : decode prog_12_method_26_code 146 = .ok (.aload_n 0, 1) := by decide +kernel
theorem d_Model_readPlain_147 : decode prog_12_method_26_code 147 = .ok (.getfield 48, 3) := by decide +kernel
theorem d_Model_readPlain_150 : decode prog_12_method_26_code 150 = .ok (.iload_n 1, 1) := by decide +kernel
theorem d_Model_readPlain_151 : decode prog_12_method_26_code 151 = .ok (.caload, 1) := by decide +kernel
theorem d_Model_readPlain_152 : decode prog_12_method_26_code 152 = .ok (.bipush 76, 2) := by decide +kernel
theorem d_Model_readPlain_154 : decode prog_12_method_26_code 154 = .ok (.if_icmp .ne 7, 3) := by decide +kernel
theorem d_Model_readPlain_157 : decode prog_12_method_26_code 157 = .ok (.iconst 1, 1) := by decide +kernel
theorem d_Model_readPlain_158 : decode prog_12_method_26_code 158 = .ok (.goto 4, 3) := by decide +kernel
theorem d_Model_readPlain_161 : decode prog_12_method_26_code 161 = .ok (.iconst 0, 1) := by decide +kernel
theorem d_Model_readPlain_162 : decode prog_12_method_26_code 162 = .ok (.invokevirtual 224, 3) := by decide +kernel
theorem d_Model_readPlain_165 : decode prog_12_method_26_code 165 = .ok (.istore 4, 2) := by decide +kernel
theorem d_Model_readPlain_167 : decode prog_12_method_26_code 167 = .ok (.iload 4, 2) := by decide +kernel
theorem d_Model_readPlain_169 : decode prog_12_method_26_code 169 = .ok (.ifCond .lt 16, 3) := by decide +kernel
theorem d_Model_readPlain_172 : decode prog_12_method_26_code 172 = .ok (.aload_n 0, 1) := by decide +kernel
theorem d_Model_readPlain_173 : decode prog_12_method_26_code 173 = .ok (.iload_n 1, 1) := by decide +kernel
theorem d_Model_readPlain_174 : decode prog_12_method_26_code 174 = .ok (.iload_n 2, 1) := by decide +kernel
theorem d_Model_readPlain_175 : decode prog_12_method_26_code 175 = .ok (.invokevirtual 228, 3) := by decide +kernel
theorem d_Model_readPlain_178 : decode prog_12_method_26_code 178 = .ok (.aload_n 0, 1) := by decide +kernel
theorem d_Model_readPlain_179 : decode prog_12_method_26_code 179 = .ok (.iload_n 2, 1) := by decide +kernel
theorem d_Model_readPlain_180 : decode prog_12_method_26_code 180 = .ok (.iload 4, 2) := by decide +kernel
theorem d_Model_readPlain_182 : decode prog_12_method_26_code 182 = .ok (.invokevirtual 232, 3) := by decide +kernel
theorem d_Model_readPlain_185 : decode prog_12_method_26_code 185 = .ok (.iload 4, 2) := by decide +kernel
theorem d_Model_readPlain_187 : decode prog_12_method_26_code 187 = .ok (.ireturn, 1) := by decide +kernel
def Model_readPlain_jn185 (call : ax_Cf)  (x4 : Int32) (h : ax_Hp) : ax_O :=
  ax_ri x4 h
set_option maxHeartbeats 4000000 in
set_option maxRecDepth 20000 in
theorem Model_readPlain_jq185 {l : Launch} {G : ax_G} {d : Nat} {call : ax_Cf} (hcall : ax_Hc l G d call) {p : Program} {e : Env} {s : State} {mi : MethodId} {args : Array Value} {below : List Frame} {meth : Method} {c : Code} {h0 : ax_Hp} (B : ax_B G p s mi meth c "SchemaDeskModel" prog_12_method_26_code 5 (some (.int))) (E : c.exceptionTable.isEmpty = true) (Nm : meth.name = y_Model_readPlain.name)   (x4 : Int32) (h : ax_Hp) : ax_W G p l e s mi args below meth c 5 (d + 1) h0 185 [(4, ax_I x4)] [] h (Model_readPlain_jn185 call  x4 h) := by
  unfold Model_readPlain_jn185
  refine ax_iload B 0 d_Model_readPlain_185 rfl ?_
  exact ax_ireturn B d_Model_readPlain_187
def Model_readPlain_jn167 (call : ax_Cf)  (x0 : Option Nat) (x1 : Int32) (x2 : Int32) (x4 : Int32) (h : ax_Hp) : ax_O :=
  if x4 < 0 then
    Model_readPlain_jn185 call x4 h
  else
    ax_on h x0 9 <| ax_cv (call 166 [ax_A x0, ax_I x1, ax_I x2] h) fun h5 =>
    ax_on h5 x0 9 <| ax_cv (call 159 [ax_A x0, ax_I x2, ax_I x4] h5) fun h7 =>
    Model_readPlain_jn185 call x4 h7
set_option maxHeartbeats 4000000 in
set_option maxRecDepth 20000 in
theorem Model_readPlain_jq167 {l : Launch} {G : ax_G} {d : Nat} {call : ax_Cf} (hcall : ax_Hc l G d call) {p : Program} {e : Env} {s : State} {mi : MethodId} {args : Array Value} {below : List Frame} {meth : Method} {c : Code} {h0 : ax_Hp} (B : ax_B G p s mi meth c "SchemaDeskModel" prog_12_method_26_code 5 (some (.int))) (E : c.exceptionTable.isEmpty = true) (Nm : meth.name = y_Model_readPlain.name)   (x0 : Option Nat) (x1 : Int32) (x2 : Int32) (x4 : Int32) (h : ax_Hp) : ax_W G p l e s mi args below meth c 5 (d + 1) h0 167 [(0, ax_A x0), (1, ax_I x1), (2, ax_I x2), (4, ax_I x4)] [] h (Model_readPlain_jn167 call  x0 x1 x2 x4 h) := by
  unfold Model_readPlain_jn167
  refine ax_iload B 3 d_Model_readPlain_167 rfl ?_
  refine ax_if_lt B 185 d_Model_readPlain_169 (by decide) ?_ ?_
  · refine ax_sub (tv2 := [(4, ax_I x4)]) [3] rfl ?_
    exact Model_readPlain_jq185 hcall B E Nm x4 h
  · refine ax_aload_n B 0 d_Model_readPlain_172 rfl rfl ?_
    refine ax_iload_n B 1 d_Model_readPlain_173 rfl rfl ?_
    refine ax_iload_n B 2 d_Model_readPlain_174 rfl rfl ?_
    refine ax_callVv (av := [ax_I x1, ax_I x2]) (rest := []) B E hm_Model_sayBytes cl_Model rfl wd_1143 wp_52 lk_Model_228 d_Model_readPlain_175 rfl (Nat.le_of_ble_eq_true rfl) (fun _ _ hh => hcall 166 _ _ _ _ hh) (fun h5 => ?_)
    refine ax_aload_n B 0 d_Model_readPlain_178 rfl rfl ?_
    refine ax_iload_n B 2 d_Model_readPlain_179 rfl rfl ?_
    refine ax_iload B 3 d_Model_readPlain_180 rfl ?_
    refine ax_callVv (av := [ax_I x2, ax_I x4]) (rest := []) B E hm_Model_sayCharacters cl_Model rfl wd_1112 wp_45 lk_Model_232 d_Model_readPlain_182 rfl (Nat.le_of_ble_eq_true rfl) (fun _ _ hh => hcall 159 _ _ _ _ hh) (fun h7 => ?_)
    refine ax_sub (tv2 := [(4, ax_I x4)]) [3] rfl ?_
    exact Model_readPlain_jq185 hcall B E Nm x4 h7
def Model_readPlain_jn99 (call : ax_Cf)  (x0 : Option Nat) (x1 : Int32) (x2 : Int32) (s0 : Int32) (h : ax_Hp) : ax_O :=
  Model_readPlain_jn167 call x0 x1 x2 s0 h
set_option maxHeartbeats 4000000 in
set_option maxRecDepth 20000 in
theorem Model_readPlain_jq99 {l : Launch} {G : ax_G} {d : Nat} {call : ax_Cf} (hcall : ax_Hc l G d call) {p : Program} {e : Env} {s : State} {mi : MethodId} {args : Array Value} {below : List Frame} {meth : Method} {c : Code} {h0 : ax_Hp} (B : ax_B G p s mi meth c "SchemaDeskModel" prog_12_method_26_code 5 (some (.int))) (E : c.exceptionTable.isEmpty = true) (Nm : meth.name = y_Model_readPlain.name)   (x0 : Option Nat) (x1 : Int32) (x2 : Int32) (s0 : Int32) (h : ax_Hp) : ax_W G p l e s mi args below meth c 5 (d + 1) h0 99 [(0, ax_A x0), (1, ax_I x1), (2, ax_I x2)] [ax_I s0] h (Model_readPlain_jn99 call  x0 x1 x2 s0 h) := by
  unfold Model_readPlain_jn99
  refine ax_istore (tv2 := [(4, ax_I s0), (0, ax_A x0), (1, ax_I x1), (2, ax_I x2)]) B d_Model_readPlain_99 (by decide) rfl ?_
  refine ax_goto B 167 d_Model_readPlain_101 (by decide) ?_
  refine ax_sub (tv2 := [(0, ax_A x0), (1, ax_I x1), (2, ax_I x2), (4, ax_I s0)]) [1, 2, 3, 0] rfl ?_
  exact Model_readPlain_jq167 hcall B E Nm x0 x1 x2 s0 h
def Model_readPlain_jn91 (call : ax_Cf)  (x0 : Option Nat) (x1 : Int32) (x2 : Int32) (h : ax_Hp) : ax_O :=
  Model_readPlain_jn99 call x0 x1 x2 (x2 + 1) h
set_option maxHeartbeats 4000000 in
set_option maxRecDepth 20000 in
theorem Model_readPlain_jq91 {l : Launch} {G : ax_G} {d : Nat} {call : ax_Cf} (hcall : ax_Hc l G d call) {p : Program} {e : Env} {s : State} {mi : MethodId} {args : Array Value} {below : List Frame} {meth : Method} {c : Code} {h0 : ax_Hp} (B : ax_B G p s mi meth c "SchemaDeskModel" prog_12_method_26_code 5 (some (.int))) (E : c.exceptionTable.isEmpty = true) (Nm : meth.name = y_Model_readPlain.name)   (x0 : Option Nat) (x1 : Int32) (x2 : Int32) (h : ax_Hp) : ax_W G p l e s mi args below meth c 5 (d + 1) h0 91 [(0, ax_A x0), (1, ax_I x1), (2, ax_I x2)] [] h (Model_readPlain_jn91 call  x0 x1 x2 h) := by
  unfold Model_readPlain_jn91
  refine ax_iload_n B 2 d_Model_readPlain_91 rfl rfl ?_
  refine ax_iconst (v := 1) B d_Model_readPlain_92 (by decide) ?_
  refine ax_iadd B d_Model_readPlain_93 ?_
  refine ax_goto B 99 d_Model_readPlain_94 (by decide) ?_
  refine ax_sub (tv2 := [(0, ax_A x0), (1, ax_I x1), (2, ax_I x2)]) [0, 1, 2] rfl ?_
  exact Model_readPlain_jq99 hcall B E Nm x0 x1 x2 (x2 + 1) h
def Model_readPlain_jn129 (call : ax_Cf)  (x0 : Option Nat) (x1 : Int32) (x2 : Int32) (s0 : Int32) (h : ax_Hp) : ax_O :=
  Model_readPlain_jn167 call x0 x1 x2 s0 h
set_option maxHeartbeats 4000000 in
set_option maxRecDepth 20000 in
theorem Model_readPlain_jq129 {l : Launch} {G : ax_G} {d : Nat} {call : ax_Cf} (hcall : ax_Hc l G d call) {p : Program} {e : Env} {s : State} {mi : MethodId} {args : Array Value} {below : List Frame} {meth : Method} {c : Code} {h0 : ax_Hp} (B : ax_B G p s mi meth c "SchemaDeskModel" prog_12_method_26_code 5 (some (.int))) (E : c.exceptionTable.isEmpty = true) (Nm : meth.name = y_Model_readPlain.name)   (x0 : Option Nat) (x1 : Int32) (x2 : Int32) (s0 : Int32) (h : ax_Hp) : ax_W G p l e s mi args below meth c 5 (d + 1) h0 129 [(0, ax_A x0), (1, ax_I x1), (2, ax_I x2)] [ax_I s0] h (Model_readPlain_jn129 call  x0 x1 x2 s0 h) := by
  unfold Model_readPlain_jn129
  refine ax_istore (tv2 := [(4, ax_I s0), (0, ax_A x0), (1, ax_I x1), (2, ax_I x2)]) B d_Model_readPlain_129 (by decide) rfl ?_
  refine ax_goto B 167 d_Model_readPlain_131 (by decide) ?_
  refine ax_sub (tv2 := [(0, ax_A x0), (1, ax_I x1), (2, ax_I x2), (4, ax_I s0)]) [1, 2, 3, 0] rfl ?_
  exact Model_readPlain_jq167 hcall B E Nm x0 x1 x2 s0 h
def Model_readPlain_jn127 (call : ax_Cf)  (x0 : Option Nat) (x1 : Int32) (x2 : Int32) (x4 : Int32) (h : ax_Hp) : ax_O :=
  Model_readPlain_jn129 call x0 x1 x2 x4 h
set_option maxHeartbeats 4000000 in
set_option maxRecDepth 20000 in
theorem Model_readPlain_jq127 {l : Launch} {G : ax_G} {d : Nat} {call : ax_Cf} (hcall : ax_Hc l G d call) {p : Program} {e : Env} {s : State} {mi : MethodId} {args : Array Value} {below : List Frame} {meth : Method} {c : Code} {h0 : ax_Hp} (B : ax_B G p s mi meth c "SchemaDeskModel" prog_12_method_26_code 5 (some (.int))) (E : c.exceptionTable.isEmpty = true) (Nm : meth.name = y_Model_readPlain.name)   (x0 : Option Nat) (x1 : Int32) (x2 : Int32) (x4 : Int32) (h : ax_Hp) : ax_W G p l e s mi args below meth c 5 (d + 1) h0 127 [(0, ax_A x0), (1, ax_I x1), (2, ax_I x2), (4, ax_I x4)] [] h (Model_readPlain_jn127 call  x0 x1 x2 x4 h) := by
  unfold Model_readPlain_jn127
  refine ax_iload B 3 d_Model_readPlain_127 rfl ?_
  refine ax_sub (tv2 := [(0, ax_A x0), (1, ax_I x1), (2, ax_I x2)]) [0, 1, 2] rfl ?_
  exact Model_readPlain_jq129 hcall B E Nm x0 x1 x2 x4 h
def Model_readPlain_jn74 (call : ax_Cf)  (x0 : Option Nat) (x1 : Int32) (x2 : Int32) (s0 : Int32) (h : ax_Hp) : ax_O :=
  Model_readPlain_jn167 call x0 x1 x2 s0 h
set_option maxHeartbeats 4000000 in
set_option maxRecDepth 20000 in
theorem Model_readPlain_jq74 {l : Launch} {G : ax_G} {d : Nat} {call : ax_Cf} (hcall : ax_Hc l G d call) {p : Program} {e : Env} {s : State} {mi : MethodId} {args : Array Value} {below : List Frame} {meth : Method} {c : Code} {h0 : ax_Hp} (B : ax_B G p s mi meth c "SchemaDeskModel" prog_12_method_26_code 5 (some (.int))) (E : c.exceptionTable.isEmpty = true) (Nm : meth.name = y_Model_readPlain.name)   (x0 : Option Nat) (x1 : Int32) (x2 : Int32) (s0 : Int32) (h : ax_Hp) : ax_W G p l e s mi args below meth c 5 (d + 1) h0 74 [(0, ax_A x0), (1, ax_I x1), (2, ax_I x2)] [ax_I s0] h (Model_readPlain_jn74 call  x0 x1 x2 s0 h) := by
  unfold Model_readPlain_jn74
  refine ax_istore (tv2 := [(4, ax_I s0), (0, ax_A x0), (1, ax_I x1), (2, ax_I x2)]) B d_Model_readPlain_74 (by decide) rfl ?_
  refine ax_goto B 167 d_Model_readPlain_76 (by decide) ?_
  refine ax_sub (tv2 := [(0, ax_A x0), (1, ax_I x1), (2, ax_I x2), (4, ax_I s0)]) [1, 2, 3, 0] rfl ?_
  exact Model_readPlain_jq167 hcall B E Nm x0 x1 x2 s0 h
def Model_readPlain_jn162 (call : ax_Cf)  (x0 : Option Nat) (x1 : Int32) (x2 : Int32) (s0 : Int32) (s1 : Int32) (s2 : Option Nat) (h : ax_Hp) : ax_O :=
  ax_on h s2 9 <| ax_ci (call 165 [ax_A s2, ax_I s1, ax_I s0] h) fun v17 h16 =>
  Model_readPlain_jn167 call x0 x1 x2 v17 h16
set_option maxHeartbeats 4000000 in
set_option maxRecDepth 20000 in
theorem Model_readPlain_jq162 {l : Launch} {G : ax_G} {d : Nat} {call : ax_Cf} (hcall : ax_Hc l G d call) {p : Program} {e : Env} {s : State} {mi : MethodId} {args : Array Value} {below : List Frame} {meth : Method} {c : Code} {h0 : ax_Hp} (B : ax_B G p s mi meth c "SchemaDeskModel" prog_12_method_26_code 5 (some (.int))) (E : c.exceptionTable.isEmpty = true) (Nm : meth.name = y_Model_readPlain.name)   (x0 : Option Nat) (x1 : Int32) (x2 : Int32) (s0 : Int32) (s1 : Int32) (s2 : Option Nat) (h : ax_Hp) : ax_W G p l e s mi args below meth c 5 (d + 1) h0 162 [(0, ax_A x0), (1, ax_I x1), (2, ax_I x2)] [ax_I s0, ax_I s1, ax_A s2] h (Model_readPlain_jn162 call  x0 x1 x2 s0 s1 s2 h) := by
  unfold Model_readPlain_jn162
  refine ax_callVi (av := [ax_I s1, ax_I s0]) (rest := []) B E hm_Model_readNumber cl_Model rfl wd_1136 wp_51 lk_Model_224 d_Model_readPlain_162 rfl (Nat.le_of_ble_eq_true rfl) (fun _ _ hh => hcall 165 _ _ _ _ hh) (fun v17 h16 => ?_)
  refine ax_istore (tv2 := [(4, ax_I v17), (0, ax_A x0), (1, ax_I x1), (2, ax_I x2)]) B d_Model_readPlain_165 (by decide) rfl ?_
  refine ax_sub (tv2 := [(0, ax_A x0), (1, ax_I x1), (2, ax_I x2), (4, ax_I v17)]) [1, 2, 3, 0] rfl ?_
  exact Model_readPlain_jq167 hcall B E Nm x0 x1 x2 v17 h16
def Model_readPlain_b (call : ax_Cf) (x0 : Option Nat) (x1 : Int32) (x2 : Int32) (h : ax_Hp) : ax_O :=
  ax_on h x0 9 <| ax_ci (call 158 [ax_A x0, ax_I x2] h) fun v2 h1 =>
  (ax_gr h1 x0 9 17).bind fun v3 =>
  (ax_ldi h1 v3 3 x1).bind fun v4 =>
  if v4.toInt = 66 then
    if v2 = 84 then
      Model_readPlain_jn91 call x0 x1 x2 h1
    else
      if v2 = 70 then
        Model_readPlain_jn91 call x0 x1 x2 h1
      else
        Model_readPlain_jn99 call x0 x1 x2 ((-1) - x2) h1
  else
  if v4.toInt = 69 then
    if v2 = 0 then
      Model_readPlain_jn127 call x0 x1 x2 ((-1) - x2) h1
    else
      (ax_gi h1 x0 9 30).bind fun v9 =>
      ax_on h1 x0 9 <| ax_ci (call 163 [ax_A x0, ax_I v9, ax_I x1, ax_I v2] h1) fun v11 h10 =>
      if v11 < 0 then
        Model_readPlain_jn127 call x0 x1 x2 ((-1) - x2) h10
      else
        Model_readPlain_jn129 call x0 x1 x2 (x2 + 1) h10
  else
  if v4.toInt = 78 then
    if v2 = 78 then
      Model_readPlain_jn74 call x0 x1 x2 (x2 + 1) h1
    else
      Model_readPlain_jn74 call x0 x1 x2 ((-1) - x2) h1
  else
  if v4.toInt = 83 then
    ax_on h1 x0 9 <| ax_ci (call 164 [ax_A x0, ax_I x2] h1) fun v13 h12 =>
    Model_readPlain_jn167 call x0 x1 x2 v13 h12
  else
  (ax_gr h1 x0 9 17).bind fun v14 =>
  (ax_ldi h1 v14 3 x1).bind fun v15 =>
  if v15 = 76 then
    Model_readPlain_jn162 call x0 x1 x2 1 x2 x0 h1
  else
    Model_readPlain_jn162 call x0 x1 x2 0 x2 x0 h1
set_option maxHeartbeats 4000000 in
set_option maxRecDepth 20000 in
theorem Model_readPlain_t {l : Launch} {G : ax_G} {d : Nat} {call : ax_Cf} (hcall : ax_Hc l G d call) (x0 : Option Nat) (x1 : Int32) (x2 : Int32) (h : ax_Hp) {r : ax_Rs} {h' : ax_Hp} (ho : Model_readPlain_b call x0 x1 x2 h = some (r, h')) : ax_C l G (d + 1) y_Model_readPlain (.code y_Model_readPlain prog_12_method_26_code 5 (some (.int))) [ax_A x0, ax_I x1, ax_I x2] h r h' := by
  refine ax_enter (by decide) (Nat.le_of_ble_eq_true rfl) ho (fun p e s mi args below meth c B E Nm => ?_)
  have B : ax_B G p s mi meth c "SchemaDeskModel" prog_12_method_26_code 5 (some (.int)) := B
  show ax_W G p l e s mi args below meth c 5 (d + 1) h 0 [(0, ax_A x0), (1, ax_I x1), (2, ax_I x2)] [] h (Model_readPlain_b call x0 x1 x2 h)
  unfold Model_readPlain_b
  refine ax_aload_n B 0 d_Model_readPlain_0 rfl rfl ?_
  refine ax_iload_n B 2 d_Model_readPlain_1 rfl rfl ?_
  refine ax_callVi (av := [ax_I x2]) (rest := []) B E hm_Model_see cl_Model rfl wd_1108 wp_44 lk_Model_194 d_Model_readPlain_2 rfl (Nat.le_of_ble_eq_true rfl) (fun _ _ hh => hcall 158 _ _ _ _ hh) (fun v2 h1 => ?_)
  refine ax_istore_n (tv2 := [(3, ax_I v2), (0, ax_A x0), (1, ax_I x1), (2, ax_I x2)]) B d_Model_readPlain_5 rfl (by decide) rfl ?_
  refine ax_iconst (v := (-1)) B d_Model_readPlain_6 (by decide) ?_
  refine ax_iload_n B 3 d_Model_readPlain_7 rfl rfl ?_
  refine ax_isub B d_Model_readPlain_8 ?_
  refine ax_istore (tv2 := [(4, ax_I ((-1) - x2)), (3, ax_I v2), (0, ax_A x0), (1, ax_I x1), (2, ax_I x2)]) B d_Model_readPlain_9 (by decide) rfl ?_
  refine ax_aload_n B 2 d_Model_readPlain_11 rfl rfl ?_
  refine ax_getfr B cl_Model (by decide) fk_Model_48 d_Model_readPlain_12 (fun v3 => ?_)
  refine ax_iload_n B 3 d_Model_readPlain_15 rfl rfl ?_
  refine ax_cald (kd := 3) B (by decide) rfl d_Model_readPlain_16 (fun v4 => ?_)
  refine ax_lookup B d_Model_readPlain_17 (by decide) ?_
  refine ⟨_, _, rfl, ⟨79, by decide, ?_⟩, ?_⟩
  · refine ax_iload_n B 1 d_Model_readPlain_79 rfl rfl ?_
    refine ax_bipush (v := 84) B d_Model_readPlain_80 (by decide) ?_
    refine ax_icmp_eq B 91 d_Model_readPlain_82 (by decide) ?_ ?_
    · refine ax_sub (tv2 := [(0, ax_A x0), (1, ax_I x1), (2, ax_I x2)]) [2, 3, 4] rfl ?_
      exact Model_readPlain_jq91 hcall B E Nm x0 x1 x2 h1
    · refine ax_iload_n B 1 d_Model_readPlain_85 rfl rfl ?_
      refine ax_bipush (v := 70) B d_Model_readPlain_86 (by decide) ?_
      refine ax_icmp_ne B 97 d_Model_readPlain_88 (by decide) ?_ ?_
      · refine ax_iload B 0 d_Model_readPlain_97 rfl ?_
        refine ax_sub (tv2 := [(0, ax_A x0), (1, ax_I x1), (2, ax_I x2)]) [2, 3, 4] rfl ?_
        exact Model_readPlain_jq99 hcall B E Nm x0 x1 x2 ((-1) - x2) h1
      · refine ax_sub (tv2 := [(0, ax_A x0), (1, ax_I x1), (2, ax_I x2)]) [2, 3, 4] rfl ?_
        exact Model_readPlain_jq91 hcall B E Nm x0 x1 x2 h1
  refine ⟨_, _, rfl, ⟨104, by decide, ?_⟩, ?_⟩
  · refine ax_iload_n B 1 d_Model_readPlain_104 rfl rfl ?_
    refine ax_if_eq B 127 d_Model_readPlain_105 (by decide) ?_ ?_
    · refine ax_sub (tv2 := [(0, ax_A x0), (1, ax_I x1), (2, ax_I x2), (4, ax_I ((-1) - x2))]) [2, 3, 4, 0] rfl ?_
      exact Model_readPlain_jq127 hcall B E Nm x0 x1 x2 ((-1) - x2) h1
    · refine ax_aload_n B 2 d_Model_readPlain_108 rfl rfl ?_
      refine ax_aload_n B 2 d_Model_readPlain_109 rfl rfl ?_
      refine ax_getfi B cl_Model (by decide) fk_Model_191 d_Model_readPlain_110 (fun v9 => ?_)
      refine ax_iload_n B 3 d_Model_readPlain_113 rfl rfl ?_
      refine ax_iload_n B 1 d_Model_readPlain_114 rfl rfl ?_
      refine ax_callVi (av := [ax_I v9, ax_I x1, ax_I v2]) (rest := []) B E hm_Model_symbol cl_Model rfl wd_1128 wp_49 lk_Model_144 d_Model_readPlain_115 rfl (Nat.le_of_ble_eq_true rfl) (fun _ _ hh => hcall 163 _ _ _ _ hh) (fun v11 h10 => ?_)
      refine ax_if_lt B 127 d_Model_readPlain_118 (by decide) ?_ ?_
      · refine ax_sub (tv2 := [(0, ax_A x0), (1, ax_I x1), (2, ax_I x2), (4, ax_I ((-1) - x2))]) [2, 3, 4, 0] rfl ?_
        exact Model_readPlain_jq127 hcall B E Nm x0 x1 x2 ((-1) - x2) h10
      · refine ax_iload_n B 4 d_Model_readPlain_121 rfl rfl ?_
        refine ax_iconst (v := 1) B d_Model_readPlain_122 (by decide) ?_
        refine ax_iadd B d_Model_readPlain_123 ?_
        refine ax_goto B 129 d_Model_readPlain_124 (by decide) ?_
        refine ax_sub (tv2 := [(0, ax_A x0), (1, ax_I x1), (2, ax_I x2)]) [2, 3, 4] rfl ?_
        exact Model_readPlain_jq129 hcall B E Nm x0 x1 x2 (x2 + 1) h10
  refine ⟨_, _, rfl, ⟨60, by decide, ?_⟩, ?_⟩
  · refine ax_iload_n B 1 d_Model_readPlain_60 rfl rfl ?_
    refine ax_bipush (v := 78) B d_Model_readPlain_61 (by decide) ?_
    refine ax_icmp_ne B 72 d_Model_readPlain_63 (by decide) ?_ ?_
    · refine ax_iload B 0 d_Model_readPlain_72 rfl ?_
      refine ax_sub (tv2 := [(0, ax_A x0), (1, ax_I x1), (2, ax_I x2)]) [2, 3, 4] rfl ?_
      exact Model_readPlain_jq74 hcall B E Nm x0 x1 x2 ((-1) - x2) h1
    · refine ax_iload_n B 4 d_Model_readPlain_66 rfl rfl ?_
      refine ax_iconst (v := 1) B d_Model_readPlain_67 (by decide) ?_
      refine ax_iadd B d_Model_readPlain_68 ?_
      refine ax_goto B 74 d_Model_readPlain_69 (by decide) ?_
      refine ax_sub (tv2 := [(0, ax_A x0), (1, ax_I x1), (2, ax_I x2)]) [2, 3, 4] rfl ?_
      exact Model_readPlain_jq74 hcall B E Nm x0 x1 x2 (x2 + 1) h1
  refine ⟨_, _, rfl, ⟨134, by decide, ?_⟩, ?_⟩
  · refine ax_aload_n B 2 d_Model_readPlain_134 rfl rfl ?_
    refine ax_iload_n B 4 d_Model_readPlain_135 rfl rfl ?_
    refine ax_callVi (av := [ax_I x2]) (rest := []) B E hm_Model_readRow cl_Model rfl wd_1132 wp_50 lk_Model_221 d_Model_readPlain_136 rfl (Nat.le_of_ble_eq_true rfl) (fun _ _ hh => hcall 164 _ _ _ _ hh) (fun v13 h12 => ?_)
    refine ax_istore (tv2 := [(4, ax_I v13), (3, ax_I v2), (0, ax_A x0), (1, ax_I x1), (2, ax_I x2)]) B d_Model_readPlain_139 (by decide) rfl ?_
    refine ax_goto B 167 d_Model_readPlain_141 (by decide) ?_
    refine ax_sub (tv2 := [(0, ax_A x0), (1, ax_I x1), (2, ax_I x2), (4, ax_I v13)]) [2, 3, 4, 0] rfl ?_
    exact Model_readPlain_jq167 hcall B E Nm x0 x1 x2 v13 h12
  refine ⟨144, by decide, ?_⟩
  refine ax_aload_n B 2 d_Model_readPlain_144 rfl rfl ?_
  refine ax_iload_n B 4 d_Model_readPlain_145 rfl rfl ?_
  refine ax_aload_n B 2 d_Model_readPlain_146 rfl rfl ?_
  refine ax_getfr B cl_Model (by decide) fk_Model_48 d_Model_readPlain_147 (fun v14 => ?_)
  refine ax_iload_n B 3 d_Model_readPlain_150 rfl rfl ?_
  refine ax_cald (kd := 3) B (by decide) rfl d_Model_readPlain_151 (fun v15 => ?_)
  refine ax_bipush (v := 76) B d_Model_readPlain_152 (by decide) ?_
  refine ax_icmp_ne B 161 d_Model_readPlain_154 (by decide) ?_ ?_
  · refine ax_iconst (v := 0) B d_Model_readPlain_161 (by decide) ?_
    refine ax_sub (tv2 := [(0, ax_A x0), (1, ax_I x1), (2, ax_I x2)]) [2, 3, 4] rfl ?_
    exact Model_readPlain_jq162 hcall B E Nm x0 x1 x2 0 x2 x0 h1
  · refine ax_iconst (v := 1) B d_Model_readPlain_157 (by decide) ?_
    refine ax_goto B 162 d_Model_readPlain_158 (by decide) ?_
    refine ax_sub (tv2 := [(0, ax_A x0), (1, ax_I x1), (2, ax_I x2)]) [2, 3, 4] rfl ?_
    exact Model_readPlain_jq162 hcall B E Nm x0 x1 x2 1 x2 x0 h1

theorem d_Model_symbol_0 : decode prog_12_method_14_code 0 = .ok (.iconst (-1), 1) := by decide +kernel
theorem d_Model_symbol_1 : decode prog_12_method_14_code 1 = .ok (.istore 4, 2) := by decide +kernel
theorem d_Model_symbol_3 : decode prog_12_method_14_code 3 = .ok (.iconst 0, 1) := by decide +kernel
theorem d_Model_symbol_4 : decode prog_12_method_14_code 4 = .ok (.istore 5, 2) := by decide +kernel
theorem d_Model_symbol_6 : decode prog_12_method_14_code 6 = .ok (.iload 5, 2) := by decide +kernel
theorem d_Model_symbol_8 : decode prog_12_method_14_code 8 = .ok (.aload_n 0, 1) := by decide +kernel
theorem d_Model_symbol_9 : decode prog_12_method_14_code 9 = .ok (.getfield 57, 3) := by decide +kernel
theorem d_Model_symbol_12 : decode prog_12_method_14_code 12 = .ok (.iload_n 2, 1) := by decide +kernel
theorem d_Model_symbol_13 : decode prog_12_method_14_code 13 = .ok (.iaload, 1) := by decide +kernel
theorem d_Model_symbol_14 : decode prog_12_method_14_code 14 = .ok (.if_icmp .ge 42, 3) := by decide +kernel
theorem d_Model_symbol_17 : decode prog_12_method_14_code 17 = .ok (.aload_n 0, 1) := by decide +kernel
theorem d_Model_symbol_18 : decode prog_12_method_14_code 18 = .ok (.getfield 39, 3) := by decide +kernel
theorem d_Model_symbol_21 : decode prog_12_method_14_code 21 = .ok (.sipush 160, 3) := by decide +kernel
theorem d_Model_symbol_24 : decode prog_12_method_14_code 24 = .ok (.iload_n 1, 1) := by decide +kernel
theorem d_Model_symbol_25 : decode prog_12_method_14_code 25 = .ok (.imul, 1) := by decide +kernel
theorem d_Model_symbol_26 : decode prog_12_method_14_code 26 = .ok (.aload_n 0, 1) := by decide +kernel
theorem d_Model_symbol_27 : decode prog_12_method_14_code 27 = .ok (.getfield 63, 3) := by decide +kernel
theorem d_Model_symbol_30 : decode prog_12_method_14_code 30 = .ok (.iload_n 2, 1) := by decide +kernel
theorem d_Model_symbol_31 : decode prog_12_method_14_code 31 = .ok (.iaload, 1) := by decide +kernel
theorem d_Model_symbol_32 : decode prog_12_method_14_code 32 = .ok (.iadd, 1) := by decide +kernel
theorem d_Model_symbol_33 : decode prog_12_method_14_code 33 = .ok (.iload 5, 2) := by decide +kernel
theorem d_Model_symbol_35 : decode prog_12_method_14_code 35 = .ok (.iadd, 1) := by decide +kernel
theorem d_Model_symbol_36 : decode prog_12_method_14_code 36 = .ok (.caload, 1) := by decide +kernel
theorem d_Model_symbol_37 : decode prog_12_method_14_code 37 = .ok (.iload_n 3, 1) := by decide +kernel
theorem d_Model_symbol_38 : decode prog_12_method_14_code 38 = .ok (.if_icmp .ne 8, 3) := by decide +kernel
theorem d_Model_symbol_41 : decode prog_12_method_14_code 41 = .ok (.iload 5, 2) := by decide +kernel
theorem d_Model_symbol_43 : decode prog_12_method_14_code 43 = .ok (.goto 5, 3) := by decide +kernel
theorem d_Model_symbol_46 : decode prog_12_method_14_code 46 = .ok (.iload 4, 2) := by decide +kernel
theorem d_Model_symbol_48 : decode prog_12_method_14_code 48 = .ok (.istore 4, 2) := by decide +kernel
theorem d_Model_symbol_50 : decode prog_12_method_14_code 50 = .ok (.iinc 5 1, 3) := by decide +kernel
theorem d_Model_symbol_53 : decode prog_12_method_14_code 53 = .ok (.goto (-47), 3) := by decide +kernel
theorem d_Model_symbol_56 : decode prog_12_method_14_code 56 = .ok (.iload 4, 2) := by decide +kernel
theorem d_Model_symbol_58 : decode prog_12_method_14_code 58 = .ok (.ireturn, 1) := by decide +kernel
def Model_symbol_jn48 (call : ax_Cf) (k6 : Option Nat → Int32 → Int32 → Int32 → Int32 → Int32 → ax_Hp → ax_O) (x0 : Option Nat) (x1 : Int32) (x2 : Int32) (x3 : Int32) (x5 : Int32) (s0 : Int32) (h : ax_Hp) : ax_O :=
  k6 x0 x1 x2 x3 s0 (x5 + 1) h
set_option maxHeartbeats 4000000 in
set_option maxRecDepth 20000 in
theorem Model_symbol_jq48 {l : Launch} {G : ax_G} {d : Nat} {call : ax_Cf} (hcall : ax_Hc l G d call) {p : Program} {e : Env} {s : State} {mi : MethodId} {args : Array Value} {below : List Frame} {meth : Method} {c : Code} {h0 : ax_Hp} (B : ax_B G p s mi meth c "SchemaDeskModel" prog_12_method_14_code 6 (some (.int))) (E : c.exceptionTable.isEmpty = true) (Nm : meth.name = y_Model_symbol.name) (k6 : Option Nat → Int32 → Int32 → Int32 → Int32 → Int32 → ax_Hp → ax_O) (hk6 : ∀ (x0 : Option Nat) (x1 : Int32) (x2 : Int32) (x3 : Int32) (x4 : Int32) (x5 : Int32) (h : ax_Hp), ax_W G p l e s mi args below meth c 6 (d + 1) h0 6 [(0, ax_A x0), (1, ax_I x1), (2, ax_I x2), (3, ax_I x3), (4, ax_I x4), (5, ax_I x5)] [] h (k6 x0 x1 x2 x3 x4 x5 h)) (x0 : Option Nat) (x1 : Int32) (x2 : Int32) (x3 : Int32) (x5 : Int32) (s0 : Int32) (h : ax_Hp) : ax_W G p l e s mi args below meth c 6 (d + 1) h0 48 [(0, ax_A x0), (1, ax_I x1), (2, ax_I x2), (3, ax_I x3), (5, ax_I x5)] [ax_I s0] h (Model_symbol_jn48 call k6 x0 x1 x2 x3 x5 s0 h) := by
  unfold Model_symbol_jn48
  refine ax_istore (tv2 := [(4, ax_I s0), (0, ax_A x0), (1, ax_I x1), (2, ax_I x2), (3, ax_I x3), (5, ax_I x5)]) B d_Model_symbol_48 (by decide) rfl ?_
  refine ax_iinc (v := x5 + 1) (tv2 := [(5, ax_I (x5 + 1)), (4, ax_I s0), (0, ax_A x0), (1, ax_I x1), (2, ax_I x2), (3, ax_I x3)]) B 5 d_Model_symbol_50 rfl (congrArg (_ + ·) (by decide)) (by decide) rfl ?_
  refine ax_goto B 6 d_Model_symbol_53 (by decide) ?_
  refine ax_sub (tv2 := [(0, ax_A x0), (1, ax_I x1), (2, ax_I x2), (3, ax_I x3), (4, ax_I s0), (5, ax_I (x5 + 1))]) [2, 3, 4, 5, 1, 0] rfl ?_
  exact hk6 x0 x1 x2 x3 s0 (x5 + 1) h
def Model_symbol_bd6 (call : ax_Cf)  (k6 : Option Nat → Int32 → Int32 → Int32 → Int32 → Int32 → ax_Hp → ax_O) (x0 : Option Nat) (x1 : Int32) (x2 : Int32) (x3 : Int32) (x4 : Int32) (x5 : Int32) (h : ax_Hp) : ax_O :=
  (ax_gr h x0 9 20).bind fun v1 =>
  (ax_ldi h v1 1 x2).bind fun v2 =>
  if v2 ≤ x5 then
    ax_ri x4 h
  else
    (ax_gr h x0 9 14).bind fun v3 =>
    (ax_gr h x0 9 22).bind fun v4 =>
    (ax_ldi h v4 1 x2).bind fun v5 =>
    (ax_ldi h v3 3 (((160 * x1) + v5) + x5)).bind fun v6 =>
    if v6 = x3 then
      Model_symbol_jn48 call k6 x0 x1 x2 x3 x5 x5 h
    else
      Model_symbol_jn48 call k6 x0 x1 x2 x3 x5 x4 h
def Model_symbol_lp6 (call : ax_Cf)  : Nat → Option Nat → Int32 → Int32 → Int32 → Int32 → Int32 → ax_Hp → ax_O
  | 0 => fun _ _ _ _ _ _ _ => none
  | n + 1 => Model_symbol_bd6 call  (Model_symbol_lp6 call  n)
set_option maxHeartbeats 4000000 in
set_option maxRecDepth 20000 in
theorem Model_symbol_lb6 {l : Launch} {G : ax_G} {d : Nat} {call : ax_Cf} (hcall : ax_Hc l G d call) {p : Program} {e : Env} {s : State} {mi : MethodId} {args : Array Value} {below : List Frame} {meth : Method} {c : Code} {h0 : ax_Hp} (B : ax_B G p s mi meth c "SchemaDeskModel" prog_12_method_14_code 6 (some (.int))) (E : c.exceptionTable.isEmpty = true) (Nm : meth.name = y_Model_symbol.name)   {k6 : Option Nat → Int32 → Int32 → Int32 → Int32 → Int32 → ax_Hp → ax_O} (hk6 : ∀ (x0 : Option Nat) (x1 : Int32) (x2 : Int32) (x3 : Int32) (x4 : Int32) (x5 : Int32) (h : ax_Hp), ax_W G p l e s mi args below meth c 6 (d + 1) h0 6 [(0, ax_A x0), (1, ax_I x1), (2, ax_I x2), (3, ax_I x3), (4, ax_I x4), (5, ax_I x5)] [] h (k6 x0 x1 x2 x3 x4 x5 h)) (x0 : Option Nat) (x1 : Int32) (x2 : Int32) (x3 : Int32) (x4 : Int32) (x5 : Int32) (h : ax_Hp) : ax_W G p l e s mi args below meth c 6 (d + 1) h0 6 [(0, ax_A x0), (1, ax_I x1), (2, ax_I x2), (3, ax_I x3), (4, ax_I x4), (5, ax_I x5)] [] h (Model_symbol_bd6 call  k6 x0 x1 x2 x3 x4 x5 h) := by
  unfold Model_symbol_bd6
  refine ax_iload B 5 d_Model_symbol_6 rfl ?_
  refine ax_aload_n B 0 d_Model_symbol_8 rfl rfl ?_
  refine ax_getfr B cl_Model (by decide) fk_Model_57 d_Model_symbol_9 (fun v1 => ?_)
  refine ax_iload_n B 2 d_Model_symbol_12 rfl rfl ?_
  refine ax_iald (kd := 1) B (by decide) rfl d_Model_symbol_13 (fun v2 => ?_)
  refine ax_icmp_ge B 56 d_Model_symbol_14 (by decide) ?_ ?_
  · refine ax_iload B 4 d_Model_symbol_56 rfl ?_
    exact ax_ireturn B d_Model_symbol_58
  · refine ax_aload_n B 0 d_Model_symbol_17 rfl rfl ?_
    refine ax_getfr B cl_Model (by decide) fk_Model_39 d_Model_symbol_18 (fun v3 => ?_)
    refine ax_sipush (v := 160) B d_Model_symbol_21 (by decide) ?_
    refine ax_iload_n B 1 d_Model_symbol_24 rfl rfl ?_
    refine ax_imul B d_Model_symbol_25 ?_
    refine ax_aload_n B 0 d_Model_symbol_26 rfl rfl ?_
    refine ax_getfr B cl_Model (by decide) fk_Model_63 d_Model_symbol_27 (fun v4 => ?_)
    refine ax_iload_n B 2 d_Model_symbol_30 rfl rfl ?_
    refine ax_iald (kd := 1) B (by decide) rfl d_Model_symbol_31 (fun v5 => ?_)
    refine ax_iadd B d_Model_symbol_32 ?_
    refine ax_iload B 5 d_Model_symbol_33 rfl ?_
    refine ax_iadd B d_Model_symbol_35 ?_
    refine ax_cald (kd := 3) B (by decide) rfl d_Model_symbol_36 (fun v6 => ?_)
    refine ax_iload_n B 3 d_Model_symbol_37 rfl rfl ?_
    refine ax_icmp_ne B 46 d_Model_symbol_38 (by decide) ?_ ?_
    · refine ax_iload B 4 d_Model_symbol_46 rfl ?_
      refine ax_sub (tv2 := [(0, ax_A x0), (1, ax_I x1), (2, ax_I x2), (3, ax_I x3), (5, ax_I x5)]) [0, 1, 2, 3, 5] rfl ?_
      exact Model_symbol_jq48 hcall B E Nm k6 hk6 x0 x1 x2 x3 x5 x4 h
    · refine ax_iload B 5 d_Model_symbol_41 rfl ?_
      refine ax_goto B 48 d_Model_symbol_43 (by decide) ?_
      refine ax_sub (tv2 := [(0, ax_A x0), (1, ax_I x1), (2, ax_I x2), (3, ax_I x3), (5, ax_I x5)]) [0, 1, 2, 3, 5] rfl ?_
      exact Model_symbol_jq48 hcall B E Nm k6 hk6 x0 x1 x2 x3 x5 x5 h
theorem Model_symbol_lq6 {l : Launch} {G : ax_G} {d : Nat} {call : ax_Cf} (hcall : ax_Hc l G d call) {p : Program} {e : Env} {s : State} {mi : MethodId} {args : Array Value} {below : List Frame} {meth : Method} {c : Code} {h0 : ax_Hp} (B : ax_B G p s mi meth c "SchemaDeskModel" prog_12_method_14_code 6 (some (.int))) (E : c.exceptionTable.isEmpty = true) (Nm : meth.name = y_Model_symbol.name)   : ∀ (n : Nat) (x0 : Option Nat) (x1 : Int32) (x2 : Int32) (x3 : Int32) (x4 : Int32) (x5 : Int32) (h : ax_Hp), ax_W G p l e s mi args below meth c 6 (d + 1) h0 6 [(0, ax_A x0), (1, ax_I x1), (2, ax_I x2), (3, ax_I x3), (4, ax_I x4), (5, ax_I x5)] [] h (Model_symbol_lp6 call  n x0 x1 x2 x3 x4 x5 h)
  | 0, _, _, _, _, _, _, _ => ax_none
  | n + 1, x0, x1, x2, x3, x4, x5, h => Model_symbol_lb6 hcall B E Nm   (Model_symbol_lq6 hcall B E Nm   n) x0 x1 x2 x3 x4 x5 h
def Model_symbol_b (call : ax_Cf) (x0 : Option Nat) (x1 : Int32) (x2 : Int32) (x3 : Int32) (h : ax_Hp) : ax_O :=
  Model_symbol_lp6 call ax_fuel x0 x1 x2 x3 (-1) 0 h
set_option maxHeartbeats 4000000 in
set_option maxRecDepth 20000 in
theorem Model_symbol_t {l : Launch} {G : ax_G} {d : Nat} {call : ax_Cf} (hcall : ax_Hc l G d call) (x0 : Option Nat) (x1 : Int32) (x2 : Int32) (x3 : Int32) (h : ax_Hp) {r : ax_Rs} {h' : ax_Hp} (ho : Model_symbol_b call x0 x1 x2 x3 h = some (r, h')) : ax_C l G (d + 1) y_Model_symbol (.code y_Model_symbol prog_12_method_14_code 6 (some (.int))) [ax_A x0, ax_I x1, ax_I x2, ax_I x3] h r h' := by
  refine ax_enter (by decide) (Nat.le_of_ble_eq_true rfl) ho (fun p e s mi args below meth c B E Nm => ?_)
  have B : ax_B G p s mi meth c "SchemaDeskModel" prog_12_method_14_code 6 (some (.int)) := B
  show ax_W G p l e s mi args below meth c 6 (d + 1) h 0 [(0, ax_A x0), (1, ax_I x1), (2, ax_I x2), (3, ax_I x3)] [] h (Model_symbol_b call x0 x1 x2 x3 h)
  unfold Model_symbol_b
  refine ax_iconst (v := (-1)) B d_Model_symbol_0 (by decide) ?_
  refine ax_istore (tv2 := [(4, ax_I (-1)), (0, ax_A x0), (1, ax_I x1), (2, ax_I x2), (3, ax_I x3)]) B d_Model_symbol_1 (by decide) rfl ?_
  refine ax_iconst (v := 0) B d_Model_symbol_3 (by decide) ?_
  refine ax_istore (tv2 := [(5, ax_I 0), (4, ax_I (-1)), (0, ax_A x0), (1, ax_I x1), (2, ax_I x2), (3, ax_I x3)]) B d_Model_symbol_4 (by decide) rfl ?_
  refine ax_sub (tv2 := [(0, ax_A x0), (1, ax_I x1), (2, ax_I x2), (3, ax_I x3), (4, ax_I (-1)), (5, ax_I 0)]) [2, 3, 4, 5, 1, 0] rfl ?_
  exact Model_symbol_lq6 hcall B E Nm ax_fuel x0 x1 x2 x3 (-1) 0 h

theorem d_Model_readRow_0 : decode prog_12_method_22_code 0 = .ok (.iload_n 1, 1) := by decide +kernel
theorem d_Model_readRow_1 : decode prog_12_method_22_code 1 = .ok (.istore_n 2, 1) := by decide +kernel
theorem d_Model_readRow_2 : decode prog_12_method_22_code 2 = .ok (.aload_n 0, 1) := by decide +kernel
theorem d_Model_readRow_3 : decode prog_12_method_22_code 3 = .ok (.iload_n 2, 1) := by decide +kernel
theorem d_Model_readRow_4 : decode prog_12_method_22_code 4 = .ok (.invokevirtual 194, 3) := by decide +kernel
theorem d_Model_readRow_7 : decode prog_12_method_22_code 7 = .ok (.bipush 34, 2) := by decide +kernel
theorem d_Model_readRow_9 : decode prog_12_method_22_code 9 = .ok (.if_icmp .eq 7, 3) := by decide +kernel
theorem d_Model_readRow_12 : decode prog_12_method_22_code 12 = .ok (.iconst (-1), 1) := by decide +kernel
theorem d_Model_readRow_13 : decode prog_12_method_22_code 13 = .ok (.iload_n 2, 1) := by decide +kernel
theorem d_Model_readRow_14 : decode prog_12_method_22_code 14 = .ok (.isub, 1) := by decide +kernel
theorem d_Model_readRow_15 : decode prog_12_method_22_code 15 = .ok (.ireturn, 1) := by decide +kernel
theorem d_Model_readRow_16 : decode prog_12_method_22_code 16 = .ok (.iinc 2 1, 3) := by decide +kernel
theorem d_Model_readRow_19 : decode prog_12_method_22_code 19 = .ok (.iconst 0, 1) := by decide +kernel
theorem d_Model_readRow_20 : decode prog_12_method_22_code 20 = .ok (.istore_n 3, 1) := by decide +kernel
theorem d_Model_readRow_21 : decode prog_12_method_22_code 21 = .ok (.aload_n 0, 1) := by decide +kernel
theorem d_Model_readRow_22 : decode prog_12_method_22_code 22 = .ok (.iload_n 2, 1) := by decide +kernel
theorem d_Model_readRow_23 : decode prog_12_method_22_code 23 = .ok (.invokevirtual 194, 3) := by decide +kernel
theorem d_Model_readRow_26 : decode prog_12_method_22_code 26 = .ok (.bipush 34, 2) := by decide +kernel
theorem d_Model_readRow_28 : decode prog_12_method_22_code 28 = .ok (.if_icmp .eq 26, 3) := by decide +kernel
theorem d_Model_readRow_31 : decode prog_12_method_22_code 31 = .ok (.aload_n 0, 1) := by decide +kernel
theorem d_Model_readRow_32 : decode prog_12_method_22_code 32 = .ok (.iload_n 2, 1) := by decide +kernel
theorem d_Model_readRow_33 : decode prog_12_method_22_code 33 = .ok (.invokevirtual 194, 3) := by decide +kernel
theorem d_Model_readRow_36 : decode prog_12_method_22_code 36 = .ok (.ifCond .eq 18, 3) := by decide +kernel
theorem d_Model_readRow_39 : decode prog_12_method_22_code 39 = .ok (.iload_n 3, 1) := by decide +kernel
theorem d_Model_readRow_40 : decode prog_12_method_22_code 40 = .ok (.bipush 12, 2) := by decide +kernel
theorem d_Model_readRow_42 : decode prog_12_method_22_code 42 = .ok (.if_icmp .ge 12, 3) := by decide +kernel
theorem d_Model_readRow_45 : decode prog_12_method_22_code 45 = .ok (.iinc 3 1, 3) := by decide +kernel
theorem d_Model_readRow_48 : decode prog_12_method_22_code 48 = .ok (.iinc 2 1, 3) := by decide +kernel
theorem d_Model_readRow_51 : decode prog_12_method_22_code 51 = .ok (.goto (-30), 3) := by decide +kernel
theorem d_Model_readRow_54 : decode prog_12_method_22_code 54 = .ok (.aload_n 0, 1) := by decide +kernel
theorem d_Model_readRow_55 : decode prog_12_method_22_code 55 = .ok (.iload_n 3, 1) := by decide +kernel
theorem d_Model_readRow_56 : decode prog_12_method_22_code 56 = .ok (.i2l, 1) := by decide +kernel
theorem d_Model_readRow_57 : decode prog_12_method_22_code 57 = .ok (.putfield 204, 3) := by decide +kernel
theorem d_Model_readRow_60 : decode prog_12_method_22_code 60 = .ok (.aload_n 0, 1) := by decide +kernel
theorem d_Model_readRow_61 : decode prog_12_method_22_code 61 = .ok (.iload_n 2, 1) := by decide +kernel
theorem d_Model_readRow_62 : decode prog_12_method_22_code 62 = .ok (.invokevirtual 194, 3) := by decide +kernel
theorem d_Model_readRow_65 : decode prog_12_method_22_code 65 = .ok (.bipush 34, 2) := by decide +kernel
theorem d_Model_readRow_67 : decode prog_12_method_22_code 67 = .ok (.if_icmp .ne 9, 3) := by decide +kernel
theorem d_Model_readRow_70 : decode prog_12_method_22_code 70 = .ok (.iload_n 2, 1) := by decide +kernel
theorem d_Model_readRow_71 : decode prog_12_method_22_code 71 = .ok (.iconst 1, 1) := by decide +kernel
theorem d_Model_readRow_72 : decode prog_12_method_22_code 72 = .ok (.iadd, 1) := by decide +kernel
theorem d_Model_readRow_73 : decode prog_12_method_22_code 73 = .ok (.goto 6, 3) := by decide +kernel
theorem d_Model_readRow_76 : decode prog_12_method_22_code 76 = .ok (.iconst (-1), 1) := by decide +kernel
theorem d_Model_readRow_77 : decode prog_12_method_22_code 77 = .ok (.iload_n 2, 1) := by decide +kernel
theorem d_Model_readRow_78 : decode prog_12_method_22_code 78 = .ok (.isub, 1) := by decide +kernel
theorem d_Model_readRow_79 : decode prog_12_method_22_code 79 = .ok (.ireturn, 1) := by decide +kernel
def Model_readRow_jn54 (call : ax_Cf)  (x0 : Option Nat) (x2 : Int32) (x3 : Int32) (h : ax_Hp) : ax_O :=
  (ax_pf h x0 9 37 (ax_L (x3.toInt64))).bind fun h5 =>
  ax_on h5 x0 9 <| ax_ci (call 158 [ax_A x0, ax_I x2] h5) fun v7 h6 =>
  if v7 = 34 then
    ax_ri (x2 + 1) h6
  else
    ax_ri ((-1) - x2) h6
set_option maxHeartbeats 4000000 in
set_option maxRecDepth 20000 in
theorem Model_readRow_jq54 {l : Launch} {G : ax_G} {d : Nat} {call : ax_Cf} (hcall : ax_Hc l G d call) {p : Program} {e : Env} {s : State} {mi : MethodId} {args : Array Value} {below : List Frame} {meth : Method} {c : Code} {h0 : ax_Hp} (B : ax_B G p s mi meth c "SchemaDeskModel" prog_12_method_22_code 4 (some (.int))) (E : c.exceptionTable.isEmpty = true) (Nm : meth.name = y_Model_readRow.name)   (x0 : Option Nat) (x2 : Int32) (x3 : Int32) (h : ax_Hp) : ax_W G p l e s mi args below meth c 4 (d + 1) h0 54 [(0, ax_A x0), (2, ax_I x2), (3, ax_I x3)] [] h (Model_readRow_jn54 call  x0 x2 x3 h) := by
  unfold Model_readRow_jn54
  refine ax_aload_n B 0 d_Model_readRow_54 rfl rfl ?_
  refine ax_iload_n B 2 d_Model_readRow_55 rfl rfl ?_
  refine ax_i2l B d_Model_readRow_56 ?_
  refine ax_putf (v := ax_L (x3.toInt64)) B cl_Model (by decide) fk_Model_204 (Or.inl rfl) (fun _ => rfl) (fun _ => rfl) d_Model_readRow_57 (fun h5 => ?_)
  refine ax_aload_n B 0 d_Model_readRow_60 rfl rfl ?_
  refine ax_iload_n B 1 d_Model_readRow_61 rfl rfl ?_
  refine ax_callVi (av := [ax_I x2]) (rest := []) B E hm_Model_see cl_Model rfl wd_1108 wp_44 lk_Model_194 d_Model_readRow_62 rfl (Nat.le_of_ble_eq_true rfl) (fun _ _ hh => hcall 158 _ _ _ _ hh) (fun v7 h6 => ?_)
  refine ax_bipush (v := 34) B d_Model_readRow_65 (by decide) ?_
  refine ax_icmp_ne B 76 d_Model_readRow_67 (by decide) ?_ ?_
  · refine ax_iconst (v := (-1)) B d_Model_readRow_76 (by decide) ?_
    refine ax_iload_n B 1 d_Model_readRow_77 rfl rfl ?_
    refine ax_isub B d_Model_readRow_78 ?_
    exact ax_ireturn B d_Model_readRow_79
  · refine ax_iload_n B 1 d_Model_readRow_70 rfl rfl ?_
    refine ax_iconst (v := 1) B d_Model_readRow_71 (by decide) ?_
    refine ax_iadd B d_Model_readRow_72 ?_
    refine ax_goto B 79 d_Model_readRow_73 (by decide) ?_
    exact ax_ireturn B d_Model_readRow_79
def Model_readRow_bd21 (call : ax_Cf)  (k21 : Option Nat → Int32 → Int32 → ax_Hp → ax_O) (x0 : Option Nat) (x2 : Int32) (x3 : Int32) (h : ax_Hp) : ax_O :=
  ax_on h x0 9 <| ax_ci (call 158 [ax_A x0, ax_I x2] h) fun v4 h3 =>
  if v4 = 34 then
    Model_readRow_jn54 call x0 x2 x3 h3
  else
    ax_on h3 x0 9 <| ax_ci (call 158 [ax_A x0, ax_I x2] h3) fun v9 h8 =>
    if v9 = 0 then
      Model_readRow_jn54 call x0 x2 x3 h8
    else
      if 12 ≤ x3 then
        Model_readRow_jn54 call x0 x2 x3 h8
      else
        k21 x0 (x2 + 1) (x3 + 1) h8
def Model_readRow_lp21 (call : ax_Cf)  : Nat → Option Nat → Int32 → Int32 → ax_Hp → ax_O
  | 0 => fun _ _ _ _ => none
  | n + 1 => Model_readRow_bd21 call  (Model_readRow_lp21 call  n)
set_option maxHeartbeats 4000000 in
set_option maxRecDepth 20000 in
theorem Model_readRow_lb21 {l : Launch} {G : ax_G} {d : Nat} {call : ax_Cf} (hcall : ax_Hc l G d call) {p : Program} {e : Env} {s : State} {mi : MethodId} {args : Array Value} {below : List Frame} {meth : Method} {c : Code} {h0 : ax_Hp} (B : ax_B G p s mi meth c "SchemaDeskModel" prog_12_method_22_code 4 (some (.int))) (E : c.exceptionTable.isEmpty = true) (Nm : meth.name = y_Model_readRow.name)   {k21 : Option Nat → Int32 → Int32 → ax_Hp → ax_O} (hk21 : ∀ (x0 : Option Nat) (x2 : Int32) (x3 : Int32) (h : ax_Hp), ax_W G p l e s mi args below meth c 4 (d + 1) h0 21 [(0, ax_A x0), (2, ax_I x2), (3, ax_I x3)] [] h (k21 x0 x2 x3 h)) (x0 : Option Nat) (x2 : Int32) (x3 : Int32) (h : ax_Hp) : ax_W G p l e s mi args below meth c 4 (d + 1) h0 21 [(0, ax_A x0), (2, ax_I x2), (3, ax_I x3)] [] h (Model_readRow_bd21 call  k21 x0 x2 x3 h) := by
  unfold Model_readRow_bd21
  refine ax_aload_n B 0 d_Model_readRow_21 rfl rfl ?_
  refine ax_iload_n B 1 d_Model_readRow_22 rfl rfl ?_
  refine ax_callVi (av := [ax_I x2]) (rest := []) B E hm_Model_see cl_Model rfl wd_1108 wp_44 lk_Model_194 d_Model_readRow_23 rfl (Nat.le_of_ble_eq_true rfl) (fun _ _ hh => hcall 158 _ _ _ _ hh) (fun v4 h3 => ?_)
  refine ax_bipush (v := 34) B d_Model_readRow_26 (by decide) ?_
  refine ax_icmp_eq B 54 d_Model_readRow_28 (by decide) ?_ ?_
  · refine ax_sub (tv2 := [(0, ax_A x0), (2, ax_I x2), (3, ax_I x3)]) [0, 1, 2] rfl ?_
    exact Model_readRow_jq54 hcall B E Nm x0 x2 x3 h3
  · refine ax_aload_n B 0 d_Model_readRow_31 rfl rfl ?_
    refine ax_iload_n B 1 d_Model_readRow_32 rfl rfl ?_
    refine ax_callVi (av := [ax_I x2]) (rest := []) B E hm_Model_see cl_Model rfl wd_1108 wp_44 lk_Model_194 d_Model_readRow_33 rfl (Nat.le_of_ble_eq_true rfl) (fun _ _ hh => hcall 158 _ _ _ _ hh) (fun v9 h8 => ?_)
    refine ax_if_eq B 54 d_Model_readRow_36 (by decide) ?_ ?_
    · refine ax_sub (tv2 := [(0, ax_A x0), (2, ax_I x2), (3, ax_I x3)]) [0, 1, 2] rfl ?_
      exact Model_readRow_jq54 hcall B E Nm x0 x2 x3 h8
    · refine ax_iload_n B 2 d_Model_readRow_39 rfl rfl ?_
      refine ax_bipush (v := 12) B d_Model_readRow_40 (by decide) ?_
      refine ax_icmp_ge B 54 d_Model_readRow_42 (by decide) ?_ ?_
      · refine ax_sub (tv2 := [(0, ax_A x0), (2, ax_I x2), (3, ax_I x3)]) [0, 1, 2] rfl ?_
        exact Model_readRow_jq54 hcall B E Nm x0 x2 x3 h8
      · refine ax_iinc (v := x3 + 1) (tv2 := [(3, ax_I (x3 + 1)), (0, ax_A x0), (2, ax_I x2)]) B 2 d_Model_readRow_45 rfl (congrArg (_ + ·) (by decide)) (by decide) rfl ?_
        refine ax_iinc (v := x2 + 1) (tv2 := [(2, ax_I (x2 + 1)), (3, ax_I (x3 + 1)), (0, ax_A x0)]) B 2 d_Model_readRow_48 rfl (congrArg (_ + ·) (by decide)) (by decide) rfl ?_
        refine ax_goto B 21 d_Model_readRow_51 (by decide) ?_
        refine ax_sub (tv2 := [(0, ax_A x0), (2, ax_I (x2 + 1)), (3, ax_I (x3 + 1))]) [2, 0, 1] rfl ?_
        exact hk21 x0 (x2 + 1) (x3 + 1) h8
theorem Model_readRow_lq21 {l : Launch} {G : ax_G} {d : Nat} {call : ax_Cf} (hcall : ax_Hc l G d call) {p : Program} {e : Env} {s : State} {mi : MethodId} {args : Array Value} {below : List Frame} {meth : Method} {c : Code} {h0 : ax_Hp} (B : ax_B G p s mi meth c "SchemaDeskModel" prog_12_method_22_code 4 (some (.int))) (E : c.exceptionTable.isEmpty = true) (Nm : meth.name = y_Model_readRow.name)   : ∀ (n : Nat) (x0 : Option Nat) (x2 : Int32) (x3 : Int32) (h : ax_Hp), ax_W G p l e s mi args below meth c 4 (d + 1) h0 21 [(0, ax_A x0), (2, ax_I x2), (3, ax_I x3)] [] h (Model_readRow_lp21 call  n x0 x2 x3 h)
  | 0, _, _, _, _ => ax_none
  | n + 1, x0, x2, x3, h => Model_readRow_lb21 hcall B E Nm   (Model_readRow_lq21 hcall B E Nm   n) x0 x2 x3 h
def Model_readRow_b (call : ax_Cf) (x0 : Option Nat) (x1 : Int32) (h : ax_Hp) : ax_O :=
  ax_on h x0 9 <| ax_ci (call 158 [ax_A x0, ax_I x1] h) fun v2 h1 =>
  if v2 = 34 then
    Model_readRow_lp21 call ax_fuel x0 (x1 + 1) 0 h1
  else
    ax_ri ((-1) - x1) h1
set_option maxHeartbeats 4000000 in
set_option maxRecDepth 20000 in
theorem Model_readRow_t {l : Launch} {G : ax_G} {d : Nat} {call : ax_Cf} (hcall : ax_Hc l G d call) (x0 : Option Nat) (x1 : Int32) (h : ax_Hp) {r : ax_Rs} {h' : ax_Hp} (ho : Model_readRow_b call x0 x1 h = some (r, h')) : ax_C l G (d + 1) y_Model_readRow (.code y_Model_readRow prog_12_method_22_code 4 (some (.int))) [ax_A x0, ax_I x1] h r h' := by
  refine ax_enter (by decide) (Nat.le_of_ble_eq_true rfl) ho (fun p e s mi args below meth c B E Nm => ?_)
  have B : ax_B G p s mi meth c "SchemaDeskModel" prog_12_method_22_code 4 (some (.int)) := B
  show ax_W G p l e s mi args below meth c 4 (d + 1) h 0 [(0, ax_A x0), (1, ax_I x1)] [] h (Model_readRow_b call x0 x1 h)
  unfold Model_readRow_b
  refine ax_iload_n B 1 d_Model_readRow_0 rfl rfl ?_
  refine ax_istore_n (tv2 := [(2, ax_I x1), (0, ax_A x0), (1, ax_I x1)]) B d_Model_readRow_1 rfl (by decide) rfl ?_
  refine ax_aload_n B 1 d_Model_readRow_2 rfl rfl ?_
  refine ax_iload_n B 0 d_Model_readRow_3 rfl rfl ?_
  refine ax_callVi (av := [ax_I x1]) (rest := []) B E hm_Model_see cl_Model rfl wd_1108 wp_44 lk_Model_194 d_Model_readRow_4 rfl (Nat.le_of_ble_eq_true rfl) (fun _ _ hh => hcall 158 _ _ _ _ hh) (fun v2 h1 => ?_)
  refine ax_bipush (v := 34) B d_Model_readRow_7 (by decide) ?_
  refine ax_icmp_eq B 16 d_Model_readRow_9 (by decide) ?_ ?_
  · refine ax_iinc (v := x1 + 1) (tv2 := [(2, ax_I (x1 + 1)), (0, ax_A x0), (1, ax_I x1)]) B 0 d_Model_readRow_16 rfl (congrArg (_ + ·) (by decide)) (by decide) rfl ?_
    refine ax_iconst (v := 0) B d_Model_readRow_19 (by decide) ?_
    refine ax_istore_n (tv2 := [(3, ax_I 0), (2, ax_I (x1 + 1)), (0, ax_A x0), (1, ax_I x1)]) B d_Model_readRow_20 rfl (by decide) rfl ?_
    refine ax_sub (tv2 := [(0, ax_A x0), (2, ax_I (x1 + 1)), (3, ax_I 0)]) [2, 1, 0] rfl ?_
    exact Model_readRow_lq21 hcall B E Nm ax_fuel x0 (x1 + 1) 0 h1
  · refine ax_iconst (v := (-1)) B d_Model_readRow_12 (by decide) ?_
    refine ax_iload_n B 0 d_Model_readRow_13 rfl rfl ?_
    refine ax_isub B d_Model_readRow_14 ?_
    exact ax_ireturn B d_Model_readRow_15
