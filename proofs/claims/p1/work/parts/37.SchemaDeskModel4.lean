theorem d_Model_readsNode_0 : decode prog_12_method_43_code 0 = .ok (.iconst 1, 1) := by decide +kernel
theorem d_Model_readsNode_1 : decode prog_12_method_43_code 1 = .ok (.istore_n 3, 1) := by decide +kernel
theorem d_Model_readsNode_2 : decode prog_12_method_43_code 2 = .ok (.aload_n 0, 1) := by decide +kernel
theorem d_Model_readsNode_3 : decode prog_12_method_43_code 3 = .ok (.getfield 48, 3) := by decide +kernel
theorem d_Model_readsNode_6 : decode prog_12_method_43_code 6 = .ok (.iload_n 2, 1) := by decide +kernel
theorem d_Model_readsNode_7 : decode prog_12_method_43_code 7 = .ok (.caload, 1) := by decide +kernel
theorem d_Model_readsNode_8 : decode prog_12_method_43_code 8 = .ok (.bipush 85, 2) := by decide +kernel
theorem d_Model_readsNode_10 : decode prog_12_method_43_code 10 = .ok (.if_icmp .ne 50, 3) := by decide +kernel
theorem d_Model_readsNode_13 : decode prog_12_method_43_code 13 = .ok (.aload_n 0, 1) := by decide +kernel
theorem d_Model_readsNode_14 : decode prog_12_method_43_code 14 = .ok (.getfield 51, 3) := by decide +kernel
theorem d_Model_readsNode_17 : decode prog_12_method_43_code 17 = .ok (.iload_n 2, 1) := by decide +kernel
theorem d_Model_readsNode_18 : decode prog_12_method_43_code 18 = .ok (.iaload, 1) := by decide +kernel
theorem d_Model_readsNode_19 : decode prog_12_method_43_code 19 = .ok (.istore 4, 2) := by decide +kernel
theorem d_Model_readsNode_21 : decode prog_12_method_43_code 21 = .ok (.iload 4, 2) := by decide +kernel
theorem d_Model_readsNode_23 : decode prog_12_method_43_code 23 = .ok (.ifCond .lt 35, 3) := by decide +kernel
theorem d_Model_readsNode_26 : decode prog_12_method_43_code 26 = .ok (.iload_n 3, 1) := by decide +kernel
theorem d_Model_readsNode_27 : decode prog_12_method_43_code 27 = .ok (.ifCond .eq 17, 3) := by decide +kernel
theorem d_Model_readsNode_30 : decode prog_12_method_43_code 30 = .ok (.aload_n 0, 1) := by decide +kernel
theorem d_Model_readsNode_31 : decode prog_12_method_43_code 31 = .ok (.iload_n 1, 1) := by decide +kernel
theorem d_Model_readsNode_32 : decode prog_12_method_43_code 32 = .ok (.iload 4, 2) := by decide +kernel
theorem d_Model_readsNode_34 : decode prog_12_method_43_code 34 = .ok (.invokevirtual 280, 3) := by decide +kernel
theorem d_Model_readsNode_37 : decode prog_12_method_43_code 37 = .ok (.ifCond .eq 7, 3) := by decide +kernel
theorem d_Model_readsNode_40 : decode prog_12_method_43_code 40 = .ok (.iconst 1, 1) := by decide +kernel
theorem d_Model_readsNode_41 : decode prog_12_method_43_code 41 = .ok (.goto 4, 3) := by decide +kernel
theorem d_Model_readsNode_44 : decode prog_12_method_43_code 44 = .ok (.iconst 0, 1) := by decide +kernel
theorem d_Model_readsNode_45 : decode prog_12_method_43_code 45 = .ok (.istore_n 3, 1) := by decide +kernel
theorem d_Model_readsNode_46 : decode prog_12_method_43_code 46 = .ok (.aload_n 0, 1) := by decide +kernel
theorem d_Model_readsNode_47 : decode prog_12_method_43_code 47 = .ok (.getfield 54, 3) := by decide +kernel
theorem d_Model_readsNode_50 : decode prog_12_method_43_code 50 = .ok (.iload 4, 2) := by decide +kernel
theorem d_Model_readsNode_52 : decode prog_12_method_43_code 52 = .ok (.iaload, 1) := by decide +kernel
theorem d_Model_readsNode_53 : decode prog_12_method_43_code 53 = .ok (.istore 4, 2) := by decide +kernel
theorem d_Model_readsNode_55 : decode prog_12_method_43_code 55 = .ok (.goto (-34), 3) := by decide +kernel
theorem d_Model_readsNode_58 : decode prog_12_method_43_code 58 = .ok (.iload_n 3, 1) := by decide +kernel
theorem d_Model_readsNode_59 : decode prog_12_method_43_code 59 = .ok (.ireturn, 1) := by decide +kernel
theorem d_Model_readsNode_60 : decode prog_12_method_43_code 60 = .ok (.aload_n 0, 1) := by decide +kernel
theorem d_Model_readsNode_61 : decode prog_12_method_43_code 61 = .ok (.getfield 48, 3) := by decide +kernel
theorem d_Model_readsNode_64 : decode prog_12_method_43_code 64 = .ok (.iload_n 1, 1) := by decide +kernel
theorem d_Model_readsNode_65 : decode prog_12_method_43_code 65 = .ok (.caload, 1) := by decide +kernel
theorem d_Model_readsNode_66 : decode prog_12_method_43_code 66 = .ok (.bipush 85, 2) := by decide +kernel
theorem d_Model_readsNode_68 : decode prog_12_method_43_code 68 = .ok (.if_icmp .ne 56, 3) := by decide +kernel
theorem d_Model_readsNode_71 : decode prog_12_method_43_code 71 = .ok (.iconst 0, 1) := by decide +kernel
theorem d_Model_readsNode_72 : decode prog_12_method_43_code 72 = .ok (.istore 4, 2) := by decide +kernel
theorem d_Model_readsNode_74 : decode prog_12_method_43_code 74 = .ok (.aload_n 0, 1) := by decide +kernel
theorem d_Model_readsNode_75 : decode prog_12_method_43_code 75 = .ok (.getfield 51, 3) := by decide +kernel
theorem d_Model_readsNode_78 : decode prog_12_method_43_code 78 = .ok (.iload_n 1, 1) := by decide +kernel
theorem d_Model_readsNode_79 : decode prog_12_method_43_code 79 = .ok (.iaload, 1) := by decide +kernel
theorem d_Model_readsNode_80 : decode prog_12_method_43_code 80 = .ok (.istore 5, 2) := by decide +kernel
theorem d_Model_readsNode_82 : decode prog_12_method_43_code 82 = .ok (.iload 5, 2) := by decide +kernel
theorem d_Model_readsNode_84 : decode prog_12_method_43_code 84 = .ok (.ifCond .lt 37, 3) := by decide +kernel
theorem d_Model_readsNode_87 : decode prog_12_method_43_code 87 = .ok (.iload 4, 2) := by decide +kernel
theorem d_Model_readsNode_89 : decode prog_12_method_43_code 89 = .ok (.ifCond .ne 13, 3) := by decide +kernel
theorem d_Model_readsNode_92 : decode prog_12_method_43_code 92 = .ok (.aload_n 0, 1) := by decide +kernel
theorem d_Model_readsNode_93 : decode prog_12_method_43_code 93 = .ok (.iload 5, 2) := by decide +kernel
theorem d_Model_readsNode_95 : decode prog_12_method_43_code 95 = .ok (.iload_n 2, 1) := by decide +kernel
theorem d_Model_readsNode_96 : decode prog_12_method_43_code 96 = .ok (.invokevirtual 280, 3) := by decide +kernel
theorem d_Model_readsNode_99 : decode prog_12_method_43_code 99 = .ok (.ifCond .eq 7, 3) := by decide +kernel
theorem d_Model_readsNode_102 : decode prog_12_method_43_code 102 = .ok (.iconst 1, 1) := by decide +kernel
theorem d_Model_readsNode_103 : decode prog_12_method_43_code 103 = .ok (.goto 4, 3) := by decide +kernel
theorem d_Model_readsNode_106 : decode prog_12_method_43_code 106 = .ok (.iconst 0, 1) := by decide +kernel
theorem d_Model_readsNode_107 : decode prog_12_method_43_code 107 = .ok (.istore 4, 2) := by decide +kernel
theorem d_Model_readsNode_109 : decode prog_12_method_43_code 109 = .ok (.aload_n 0, 1) := by decide +kernel
theorem d_Model_readsNode_110 : decode prog_12_method_43_code 110 = .ok (.getfield 54, 3) := by decide +kernel
theorem d_Model_readsNode_113 : decode prog_12_method_43_code 113 = .ok (.iload 5, 2) := by decide +kernel
theorem d_Model_readsNode_115 : decode prog_12_method_43_code 115 = .ok (.iaload, 1) := by decide +kernel
theorem d_Model_readsNode_116 : decode prog_12_method_43_code 116 = .ok (.istore 5, 2) := by decide +kernel
theorem d_Model_readsNode_118 : decode prog_12_method_43_code 118 = .ok (.goto (-36), 3) := by decide +kernel
theorem d_Model_readsNode_121 : decode prog_12_method_43_code 121 = .ok (.iload 4, 2) := by decide +kernel
theorem d_Model_readsNode_123 : decode prog_12_method_43_code 123 = .ok (.ireturn, 1) := by decide +kernel
theorem d_Model_readsNode_124 : decode prog_12_method_43_code 124 = .ok (.aload_n 0, 1) := by decide +kernel
theorem d_Model_readsNode_125 : decode prog_12_method_43_code 125 = .ok (.getfield 48, 3) := by decide +kernel
theorem d_Model_readsNode_128 : decode prog_12_method_43_code 128 = .ok (.iload_n 1, 1) := by decide +kernel
theorem d_Model_readsNode_129 : decode prog_12_method_43_code 129 = .ok (.caload, 1) := by decide +kernel
theorem d_Model_readsNode_130 : decode prog_12_method_43_code 130 = .ok (.aload_n 0, 1) := by decide +kernel
theorem d_Model_readsNode_131 : decode prog_12_method_43_code 131 = .ok (.getfield 48, 3) := by decide +kernel
theorem d_Model_readsNode_134 : decode prog_12_method_43_code 134 = .ok (.iload_n 2, 1) := by decide +kernel
theorem d_Model_readsNode_135 : decode prog_12_method_43_code 135 = .ok (.caload, 1) := by decide +kernel
theorem d_Model_readsNode_136 : decode prog_12_method_43_code 136 = .ok (.if_icmp .eq 31, 3) := by decide +kernel
theorem d_Model_readsNode_139 : decode prog_12_method_43_code 139 = .ok (.aload_n 0, 1) := by decide +kernel
theorem d_Model_readsNode_140 : decode prog_12_method_43_code 140 = .ok (.getfield 48, 3) := by decide +kernel
theorem d_Model_readsNode_143 : decode prog_12_method_43_code 143 = .ok (.iload_n 1, 1) := by decide +kernel
theorem d_Model_readsNode_144 : decode prog_12_method_43_code 144 = .ok (.caload, 1) := by decide +kernel
theorem d_Model_readsNode_145 : decode prog_12_method_43_code 145 = .ok (.bipush 76, 2) := by decide +kernel
theorem d_Model_readsNode_147 : decode prog_12_method_43_code 147 = .ok (.if_icmp .ne 18, 3) := by decide +kernel
theorem d_Model_readsNode_150 : decode prog_12_method_43_code 150 = .ok (.aload_n 0, 1) := by decide +kernel
theorem d_Model_readsNode_151 : decode prog_12_method_43_code 151 = .ok (.getfield 48, 3) := by decide +kernel
theorem d_Model_readsNode_154 : decode prog_12_method_43_code 154 = .ok (.iload_n 2, 1) := by decide +kernel
theorem d_Model_readsNode_155 : decode prog_12_method_43_code 155 = .ok (.caload, 1) := by decide +kernel
theorem d_Model_readsNode_156 : decode prog_12_method_43_code 156 = .ok (.bipush 73, 2) := by decide +kernel
theorem d_Model_readsNode_158 : decode prog_12_method_43_code 158 = .ok (.if_icmp .ne 7, 3) := by decide +kernel
theorem d_Model_readsNode_161 : decode prog_12_method_43_code 161 = .ok (.iconst 1, 1) := by decide +kernel
theorem d_Model_readsNode_162 : decode prog_12_method_43_code 162 = .ok (.goto 4, 3) := by decide +kernel
theorem d_Model_readsNode_165 : decode prog_12_method_43_code 165 = .ok (.iconst 0, 1) := by decide +kernel
theorem d_Model_readsNode_166 : decode prog_12_method_43_code 166 = .ok (.ireturn, 1) := by decide +kernel
theorem d_Model_readsNode_167 : decode prog_12_method_43_code 167 = .ok (.aload_n 0, 1) := by decide +kernel
theorem d_Model_readsNode_168 : decode prog_12_method_43_code 168 = .ok (.getfield 48, 3) := by decide +kernel
theorem d_Model_readsNode_171 : decode prog_12_method_43_code 171 = .ok (.iload_n 1, 1) := by decide +kernel
theorem d_Model_readsNode_172 : decode prog_12_method_43_code 172 = .ok (.caload, 1) := by decide +kernel
theorem d_Model_readsNode_173 : decode prog_12_method_43_code 173 = .ok (.bipush 69, 2) := by decide +kernel
theorem d_Model_readsNode_175 : decode prog_12_method_43_code 175 = .ok (.if_icmp .ne 72, 3) := by decide +kernel
theorem d_Model_readsNode_178 : decode prog_12_method_43_code 178 = .ok (.iconst 0, 1) := by decide +kernel
theorem d_Model_readsNode_179 : decode prog_12_method_43_code 179 = .ok (.istore 4, 2) := by decide +kernel
theorem d_Model_readsNode_181 : decode prog_12_method_43_code 181 = .ok (.iload 4, 2) := by decide +kernel
theorem d_Model_readsNode_183 : decode prog_12_method_43_code 183 = .ok (.aload_n 0, 1) := by decide +kernel
theorem d_Model_readsNode_184 : decode prog_12_method_43_code 184 = .ok (.getfield 57, 3) := by decide +kernel
theorem d_Model_readsNode_187 : decode prog_12_method_43_code 187 = .ok (.iload_n 2, 1) := by decide +kernel
theorem d_Model_readsNode_188 : decode prog_12_method_43_code 188 = .ok (.iaload, 1) := by decide +kernel
theorem d_Model_readsNode_189 : decode prog_12_method_43_code 189 = .ok (.if_icmp .ge 55, 3) := by decide +kernel
theorem d_Model_readsNode_192 : decode prog_12_method_43_code 192 = .ok (.iload_n 3, 1) := by decide +kernel
theorem d_Model_readsNode_193 : decode prog_12_method_43_code 193 = .ok (.ifCond .eq 43, 3) := by decide +kernel
theorem d_Model_readsNode_196 : decode prog_12_method_43_code 196 = .ok (.aload_n 0, 1) := by decide +kernel
theorem d_Model_readsNode_197 : decode prog_12_method_43_code 197 = .ok (.getfield 66, 3) := by decide +kernel
theorem d_Model_readsNode_200 : decode prog_12_method_43_code 200 = .ok (.iload_n 1, 1) := by decide +kernel
theorem d_Model_readsNode_201 : decode prog_12_method_43_code 201 = .ok (.iaload, 1) := by decide +kernel
theorem d_Model_readsNode_202 : decode prog_12_method_43_code 202 = .ok (.ifCond .ge 30, 3) := by decide +kernel
theorem d_Model_readsNode_205 : decode prog_12_method_43_code 205 = .ok (.aload_n 0, 1) := by decide +kernel
theorem d_Model_readsNode_206 : decode prog_12_method_43_code 206 = .ok (.iconst 0, 1) := by decide +kernel
theorem d_Model_readsNode_207 : decode prog_12_method_43_code 207 = .ok (.iload_n 1, 1) := by decide +kernel
theorem d_Model_readsNode_208 : decode prog_12_method_43_code 208 = .ok (.aload_n 0, 1) := by decide +kernel
theorem d_Model_readsNode_209 : decode prog_12_method_43_code 209 = .ok (.getfield 39, 3) := by decide +kernel
theorem d_Model_readsNode_212 : decode prog_12_method_43_code 212 = .ok (.sipush 160, 3) := by decide +kernel
theorem d_Model_readsNode_215 : decode prog_12_method_43_code 215 = .ok (.aload_n 0, 1) := by decide +kernel
theorem d_Model_readsNode_216 : decode prog_12_method_43_code 216 = .ok (.getfield 63, 3) := by decide +kernel
theorem d_Model_readsNode_219 : decode prog_12_method_43_code 219 = .ok (.iload_n 2, 1) := by decide +kernel
theorem d_Model_readsNode_220 : decode prog_12_method_43_code 220 = .ok (.iaload, 1) := by decide +kernel
theorem d_Model_readsNode_221 : decode prog_12_method_43_code 221 = .ok (.iadd, 1) := by decide +kernel
theorem d_Model_readsNode_222 : decode prog_12_method_43_code 222 = .ok (.iload 4, 2) := by decide +kernel
theorem d_Model_readsNode_224 : decode prog_12_method_43_code 224 = .ok (.iadd, 1) := by decide +kernel
theorem d_Model_readsNode_225 : decode prog_12_method_43_code 225 = .ok (.caload, 1) := by decide +kernel
theorem d_Model_readsNode_226 : decode prog_12_method_43_code 226 = .ok (.invokevirtual 144, 3) := by decide +kernel
theorem d_Model_readsNode_229 : decode prog_12_method_43_code 229 = .ok (.ifCond .lt 7, 3) := by decide +kernel
theorem d_Model_readsNode_232 : decode prog_12_method_43_code 232 = .ok (.iconst 1, 1) := by decide +kernel
theorem d_Model_readsNode_233 : decode prog_12_method_43_code 233 = .ok (.goto 4, 3) := by decide +kernel
theorem d_Model_readsNode_236 : decode prog_12_method_43_code 236 = .ok (.iconst 0, 1) := by decide +kernel
theorem d_Model_readsNode_237 : decode prog_12_method_43_code 237 = .ok (.istore_n 3, 1) := by decide +kernel
theorem d_Model_readsNode_238 : decode prog_12_method_43_code 238 = .ok (.iinc 4 1, 3) := by decide +kernel
theorem d_Model_readsNode_241 : decode prog_12_method_43_code 241 = .ok (.goto (-60), 3) := by decide +kernel
theorem d_Model_readsNode_244 : decode prog_12_method_43_code 244 = .ok (.goto 123, 3) := by decide +kernel
theorem d_Model_readsNode_247 : decode prog_12_method_43_code 247 = .ok (.aload_n 0, 1) := by decide +kernel
theorem d_Model_readsNode_248 : decode prog_12_method_43_code 248 = .ok (.getfield 48, 3) := by decide +kernel
theorem d_Model_readsNode_251 : decode prog_12_method_43_code 251 = .ok (.iload_n 1, 1) := by decide +kernel
theorem d_Model_readsNode_252 : decode prog_12_method_43_code 252 = .ok (.caload, 1) := by decide +kernel
theorem d_Model_readsNode_253 : decode prog_12_method_43_code 253 = .ok (.bipush 65, 2) := by decide +kernel
theorem d_Model_readsNode_255 : decode prog_12_method_43_code 255 = .ok (.if_icmp .ne 23, 3) := by decide +kernel
theorem d_Model_readsNode_258 : decode prog_12_method_43_code 258 = .ok (.aload_n 0, 1) := by decide +kernel
theorem d_Model_readsNode_259 : decode prog_12_method_43_code 259 = .ok (.aload_n 0, 1) := by decide +kernel
theorem d_Model_readsNode_260 : decode prog_12_method_43_code 260 = .ok (.getfield 51, 3) := by decide +kernel
theorem d_Model_readsNode_263 : decode prog_12_method_43_code 263 = .ok (.iload_n 1, 1) := by decide +kernel
theorem d_Model_readsNode_264 : decode prog_12_method_43_code 264 = .ok (.iaload, 1) := by decide +kernel
theorem d_Model_readsNode_265 : decode prog_12_method_43_code 265 = .ok (.aload_n 0, 1) := by decide +kernel
theorem d_Model_readsNode_266 : decode prog_12_method_43_code 266 = .ok (.getfield 51, 3) := by decide +kernel
theorem d_Model_readsNode_269 : decode prog_12_method_43_code 269 = .ok (.iload_n 2, 1) := by decide +kernel
theorem d_Model_readsNode_270 : decode prog_12_method_43_code 270 = .ok (.iaload, 1) := by decide +kernel
theorem d_Model_readsNode_271 : decode prog_12_method_43_code 271 = .ok (.invokevirtual 280, 3) := by decide +kernel
theorem d_Model_readsNode_274 : decode prog_12_method_43_code 274 = .ok (.istore_n 3, 1) := by decide +kernel
theorem d_Model_readsNode_275 : decode prog_12_method_43_code 275 = .ok (.goto 92, 3) := by decide +kernel
theorem d_Model_readsNode_278 : decode prog_12_method_43_code 278 = .ok (.aload_n 0, 1) := by decide +kernel
theorem d_Model_readsNode_279 : decode prog_12_method_43_code 279 = .ok (.getfield 48, 3) := by decide +kernel
theorem d_Model_readsNode_282 : decode prog_12_method_43_code 282 = .ok (.iload_n 1, 1) := by decide +kernel
theorem d_Model_readsNode_283 : decode prog_12_method_43_code 283 = .ok (.caload, 1) := by decide +kernel
theorem d_Model_readsNode_284 : decode prog_12_method_43_code 284 = .ok (.bipush 82, 2) := by decide +kernel
theorem d_Model_readsNode_286 : decode prog_12_method_43_code 286 = .ok (.if_icmp .ne 81, 3) := by decide +kernel
theorem d_Model_readsNode_289 : decode prog_12_method_43_code 289 = .ok (.aload_n 0, 1) := by decide +kernel
theorem d_Model_readsNode_290 : decode prog_12_method_43_code 290 = .ok (.getfield 51, 3) := by decide +kernel
theorem d_Model_readsNode_293 : decode prog_12_method_43_code 293 = .ok (.iload_n 1, 1) := by decide +kernel
theorem d_Model_readsNode_294 : decode prog_12_method_43_code 294 = .ok (.iaload, 1) := by decide +kernel
theorem d_Model_readsNode_295 : decode prog_12_method_43_code 295 = .ok (.istore 4, 2) := by decide +kernel
theorem d_Model_readsNode_297 : decode prog_12_method_43_code 297 = .ok (.iload 4, 2) := by decide +kernel
theorem d_Model_readsNode_299 : decode prog_12_method_43_code 299 = .ok (.ifCond .lt 68, 3) := by decide +kernel
theorem d_Model_readsNode_302 : decode prog_12_method_43_code 302 = .ok (.aload_n 0, 1) := by decide +kernel
theorem d_Model_readsNode_303 : decode prog_12_method_43_code 303 = .ok (.iload_n 2, 1) := by decide +kernel
theorem d_Model_readsNode_304 : decode prog_12_method_43_code 304 = .ok (.aload_n 0, 1) := by decide +kernel
theorem d_Model_readsNode_305 : decode prog_12_method_43_code 305 = .ok (.getfield 60, 3) := by decide +kernel
theorem d_Model_readsNode_308 : decode prog_12_method_43_code 308 = .ok (.iload 4, 2) := by decide +kernel
theorem d_Model_readsNode_310 : decode prog_12_method_43_code 310 = .ok (.caload, 1) := by decide +kernel
theorem d_Model_readsNode_311 : decode prog_12_method_43_code 311 = .ok (.invokevirtual 284, 3) := by decide +kernel
theorem d_Model_readsNode_314 : decode prog_12_method_43_code 314 = .ok (.istore 5, 2) := by decide +kernel
theorem d_Model_readsNode_316 : decode prog_12_method_43_code 316 = .ok (.iload_n 3, 1) := by decide +kernel
theorem d_Model_readsNode_317 : decode prog_12_method_43_code 317 = .ok (.ifCond .eq 36, 3) := by decide +kernel
theorem d_Model_readsNode_320 : decode prog_12_method_43_code 320 = .ok (.iload 5, 2) := by decide +kernel
theorem d_Model_readsNode_322 : decode prog_12_method_43_code 322 = .ok (.ifCond .lt 17, 3) := by decide +kernel
theorem d_Model_readsNode_325 : decode prog_12_method_43_code 325 = .ok (.aload_n 0, 1) := by decide +kernel
theorem d_Model_readsNode_326 : decode prog_12_method_43_code 326 = .ok (.iload 4, 2) := by decide +kernel
theorem d_Model_readsNode_328 : decode prog_12_method_43_code 328 = .ok (.iload 5, 2) := by decide +kernel
theorem d_Model_readsNode_330 : decode prog_12_method_43_code 330 = .ok (.invokevirtual 280, 3) := by decide +kernel
theorem d_Model_readsNode_333 : decode prog_12_method_43_code 333 = .ok (.ifCond .eq 20, 3) := by decide +kernel
theorem d_Model_readsNode_336 : decode prog_12_method_43_code 336 = .ok (.goto 13, 3) := by decide +kernel
theorem d_Model_readsNode_339 : decode prog_12_method_43_code 339 = .ok (.aload_n 0, 1) := by decide +kernel
theorem d_Model_readsNode_340 : decode prog_12_method_43_code 340 = .ok (.getfield 69, 3) := by decide +kernel
theorem d_Model_readsNode_343 : decode prog_12_method_43_code 343 = .ok (.iload 4, 2) := by decide +kernel
theorem d_Model_readsNode_345 : decode prog_12_method_43_code 345 = .ok (.iaload, 1) := by decide +kernel
theorem d_Model_readsNode_346 : decode prog_12_method_43_code 346 = .ok (.ifCond .lt 7, 3) := by decide +kernel
theorem d_Model_readsNode_349 : decode prog_12_method_43_code 349 = .ok (.iconst 1, 1) := by decide +kernel
theorem d_Model_readsNode_350 : decode prog_12_method_43_code 350 = .ok (.goto 4, 3) := by decide +kernel
theorem d_Model_readsNode_353 : decode prog_12_method_43_code 353 = .ok (.iconst 0, 1) := by decide +kernel
theorem d_Model_readsNode_354 : decode prog_12_method_43_code 354 = .ok (.istore_n 3, 1) := by decide +kernel
theorem d_Model_readsNode_355 : decode prog_12_method_43_code 355 = .ok (.aload_n 0, 1) := by decide +kernel
theorem d_Model_readsNode_356 : decode prog_12_method_43_code 356 = .ok (.getfield 54, 3) := by decide +kernel
theorem d_Model_readsNode_359 : decode prog_12_method_43_code 359 = .ok (.iload 4, 2) := by decide +kernel
theorem d_Model_readsNode_361 : decode prog_12_method_43_code 361 = .ok (.iaload, 1) := by decide +kernel
theorem d_Model_readsNode_362 : decode prog_12_method_43_code 362 = .ok (.istore 4, 2) := by decide +kernel
theorem d_Model_readsNode_364 : decode prog_12_method_43_code 364 = .ok (.goto (-67), 3) := by decide +kernel
theorem d_Model_readsNode_367 : decode prog_12_method_43_code 367 = .ok (.iload_n 3, 1) := by decide +kernel
theorem d_Model_readsNode_368 : decode prog_12_method_43_code 368 = .ok (.ireturn, 1) := by decide +kernel
def Model_readsNode_jn367 (call : ax_Cf)  (x3 : Int32) (h : ax_Hp) : ax_O :=
  ax_rz x3 h
set_option maxHeartbeats 4000000 in
set_option maxRecDepth 20000 in
theorem Model_readsNode_jq367 {l : Launch} {G : ax_G} {d : Nat} {call : ax_Cf} (hcall : ax_Hc l G d call) {p : Program} {e : Env} {s : State} {mi : MethodId} {args : Array Value} {below : List Frame} {meth : Method} {c : Code} {h0 : ax_Hp} (B : ax_B G p s mi meth c "SchemaDeskModel" prog_12_method_43_code 6 (some (.boolean))) (E : c.exceptionTable.isEmpty = true) (Nm : meth.name = y_Model_readsNode.name)   (x3 : Int32) (h : ax_Hp) : ax_W G p l e s mi args below meth c 6 (d + 1) h0 367 [(3, ax_I x3)] [] h (Model_readsNode_jn367 call  x3 h) := by
  unfold Model_readsNode_jn367
  refine ax_iload_n B 0 d_Model_readsNode_367 rfl rfl ?_
  exact ax_zreturn B d_Model_readsNode_368
def Model_readsNode_jn354 (call : ax_Cf) (k297 : Option Nat → Int32 → Int32 → Int32 → ax_Hp → ax_O) (x0 : Option Nat) (x2 : Int32) (x4 : Int32) (s0 : Int32) (h : ax_Hp) : ax_O :=
  (ax_gr h x0 9 19).bind fun v21 =>
  (ax_ldi h v21 1 x4).bind fun v22 =>
  k297 x0 x2 s0 v22 h
set_option maxHeartbeats 4000000 in
set_option maxRecDepth 20000 in
theorem Model_readsNode_jq354 {l : Launch} {G : ax_G} {d : Nat} {call : ax_Cf} (hcall : ax_Hc l G d call) {p : Program} {e : Env} {s : State} {mi : MethodId} {args : Array Value} {below : List Frame} {meth : Method} {c : Code} {h0 : ax_Hp} (B : ax_B G p s mi meth c "SchemaDeskModel" prog_12_method_43_code 6 (some (.boolean))) (E : c.exceptionTable.isEmpty = true) (Nm : meth.name = y_Model_readsNode.name) (k297 : Option Nat → Int32 → Int32 → Int32 → ax_Hp → ax_O) (hk297 : ∀ (x0 : Option Nat) (x2 : Int32) (x3 : Int32) (x4 : Int32) (h : ax_Hp), ax_W G p l e s mi args below meth c 6 (d + 1) h0 297 [(0, ax_A x0), (2, ax_I x2), (3, ax_I x3), (4, ax_I x4)] [] h (k297 x0 x2 x3 x4 h)) (x0 : Option Nat) (x2 : Int32) (x4 : Int32) (s0 : Int32) (h : ax_Hp) : ax_W G p l e s mi args below meth c 6 (d + 1) h0 354 [(0, ax_A x0), (2, ax_I x2), (4, ax_I x4)] [ax_I s0] h (Model_readsNode_jn354 call k297 x0 x2 x4 s0 h) := by
  unfold Model_readsNode_jn354
  refine ax_istore_n (tv2 := [(3, ax_I s0), (0, ax_A x0), (2, ax_I x2), (4, ax_I x4)]) B d_Model_readsNode_354 rfl (by decide) rfl ?_
  refine ax_aload_n B 1 d_Model_readsNode_355 rfl rfl ?_
  refine ax_getfr B cl_Model (by decide) fk_Model_54 d_Model_readsNode_356 (fun v21 => ?_)
  refine ax_iload B 3 d_Model_readsNode_359 rfl ?_
  refine ax_iald (kd := 1) B (by decide) rfl d_Model_readsNode_361 (fun v22 => ?_)
  refine ax_istore (tv2 := [(4, ax_I v22), (3, ax_I s0), (0, ax_A x0), (2, ax_I x2)]) B d_Model_readsNode_362 (by decide) rfl ?_
  refine ax_goto B 297 d_Model_readsNode_364 (by decide) ?_
  refine ax_sub (tv2 := [(0, ax_A x0), (2, ax_I x2), (3, ax_I s0), (4, ax_I v22)]) [2, 3, 1, 0] rfl ?_
  exact hk297 x0 x2 s0 v22 h
def Model_readsNode_jn353 (call : ax_Cf) (k297 : Option Nat → Int32 → Int32 → Int32 → ax_Hp → ax_O) (x0 : Option Nat) (x2 : Int32) (x4 : Int32) (h : ax_Hp) : ax_O :=
  Model_readsNode_jn354 call k297 x0 x2 x4 0 h
set_option maxHeartbeats 4000000 in
set_option maxRecDepth 20000 in
theorem Model_readsNode_jq353 {l : Launch} {G : ax_G} {d : Nat} {call : ax_Cf} (hcall : ax_Hc l G d call) {p : Program} {e : Env} {s : State} {mi : MethodId} {args : Array Value} {below : List Frame} {meth : Method} {c : Code} {h0 : ax_Hp} (B : ax_B G p s mi meth c "SchemaDeskModel" prog_12_method_43_code 6 (some (.boolean))) (E : c.exceptionTable.isEmpty = true) (Nm : meth.name = y_Model_readsNode.name) (k297 : Option Nat → Int32 → Int32 → Int32 → ax_Hp → ax_O) (hk297 : ∀ (x0 : Option Nat) (x2 : Int32) (x3 : Int32) (x4 : Int32) (h : ax_Hp), ax_W G p l e s mi args below meth c 6 (d + 1) h0 297 [(0, ax_A x0), (2, ax_I x2), (3, ax_I x3), (4, ax_I x4)] [] h (k297 x0 x2 x3 x4 h)) (x0 : Option Nat) (x2 : Int32) (x4 : Int32) (h : ax_Hp) : ax_W G p l e s mi args below meth c 6 (d + 1) h0 353 [(0, ax_A x0), (2, ax_I x2), (4, ax_I x4)] [] h (Model_readsNode_jn353 call k297 x0 x2 x4 h) := by
  unfold Model_readsNode_jn353
  refine ax_iconst (v := 0) B d_Model_readsNode_353 (by decide) ?_
  refine ax_sub (tv2 := [(0, ax_A x0), (2, ax_I x2), (4, ax_I x4)]) [0, 1, 2] rfl ?_
  exact Model_readsNode_jq354 hcall B E Nm k297 hk297 x0 x2 x4 0 h
def Model_readsNode_jn349 (call : ax_Cf) (k297 : Option Nat → Int32 → Int32 → Int32 → ax_Hp → ax_O) (x0 : Option Nat) (x2 : Int32) (x4 : Int32) (h : ax_Hp) : ax_O :=
  Model_readsNode_jn354 call k297 x0 x2 x4 1 h
set_option maxHeartbeats 4000000 in
set_option maxRecDepth 20000 in
theorem Model_readsNode_jq349 {l : Launch} {G : ax_G} {d : Nat} {call : ax_Cf} (hcall : ax_Hc l G d call) {p : Program} {e : Env} {s : State} {mi : MethodId} {args : Array Value} {below : List Frame} {meth : Method} {c : Code} {h0 : ax_Hp} (B : ax_B G p s mi meth c "SchemaDeskModel" prog_12_method_43_code 6 (some (.boolean))) (E : c.exceptionTable.isEmpty = true) (Nm : meth.name = y_Model_readsNode.name) (k297 : Option Nat → Int32 → Int32 → Int32 → ax_Hp → ax_O) (hk297 : ∀ (x0 : Option Nat) (x2 : Int32) (x3 : Int32) (x4 : Int32) (h : ax_Hp), ax_W G p l e s mi args below meth c 6 (d + 1) h0 297 [(0, ax_A x0), (2, ax_I x2), (3, ax_I x3), (4, ax_I x4)] [] h (k297 x0 x2 x3 x4 h)) (x0 : Option Nat) (x2 : Int32) (x4 : Int32) (h : ax_Hp) : ax_W G p l e s mi args below meth c 6 (d + 1) h0 349 [(0, ax_A x0), (2, ax_I x2), (4, ax_I x4)] [] h (Model_readsNode_jn349 call k297 x0 x2 x4 h) := by
  unfold Model_readsNode_jn349
  refine ax_iconst (v := 1) B d_Model_readsNode_349 (by decide) ?_
  refine ax_goto B 354 d_Model_readsNode_350 (by decide) ?_
  refine ax_sub (tv2 := [(0, ax_A x0), (2, ax_I x2), (4, ax_I x4)]) [0, 1, 2] rfl ?_
  exact Model_readsNode_jq354 hcall B E Nm k297 hk297 x0 x2 x4 1 h
def Model_readsNode_bd297 (call : ax_Cf)  (k297 : Option Nat → Int32 → Int32 → Int32 → ax_Hp → ax_O) (x0 : Option Nat) (x2 : Int32) (x3 : Int32) (x4 : Int32) (h : ax_Hp) : ax_O :=
  if x4 < 0 then
    Model_readsNode_jn367 call x3 h
  else
    (ax_gr h x0 9 21).bind fun v17 =>
    (ax_ldi h v17 3 x4).bind fun v18 =>
    ax_on h x0 9 <| ax_ci (call 184 [ax_A x0, ax_I x2, ax_I v18] h) fun v20 h19 =>
    if x3 = 0 then
      Model_readsNode_jn353 call k297 x0 x2 x4 h19
    else
      if v20 < 0 then
        (ax_gr h19 x0 9 24).bind fun v23 =>
        (ax_ldi h19 v23 1 x4).bind fun v24 =>
        if v24 < 0 then
          Model_readsNode_jn353 call k297 x0 x2 x4 h19
        else
          Model_readsNode_jn349 call k297 x0 x2 x4 h19
      else
        ax_on h19 x0 9 <| ax_ci (call 183 [ax_A x0, ax_I x4, ax_I v20] h19) fun v26 h25 =>
        if v26 = 0 then
          Model_readsNode_jn353 call k297 x0 x2 x4 h25
        else
          Model_readsNode_jn349 call k297 x0 x2 x4 h25
def Model_readsNode_lp297 (call : ax_Cf)  : Nat → Option Nat → Int32 → Int32 → Int32 → ax_Hp → ax_O
  | 0 => fun _ _ _ _ _ => none
  | n + 1 => Model_readsNode_bd297 call  (Model_readsNode_lp297 call  n)
set_option maxHeartbeats 4000000 in
set_option maxRecDepth 20000 in
theorem Model_readsNode_lb297 {l : Launch} {G : ax_G} {d : Nat} {call : ax_Cf} (hcall : ax_Hc l G d call) {p : Program} {e : Env} {s : State} {mi : MethodId} {args : Array Value} {below : List Frame} {meth : Method} {c : Code} {h0 : ax_Hp} (B : ax_B G p s mi meth c "SchemaDeskModel" prog_12_method_43_code 6 (some (.boolean))) (E : c.exceptionTable.isEmpty = true) (Nm : meth.name = y_Model_readsNode.name)   {k297 : Option Nat → Int32 → Int32 → Int32 → ax_Hp → ax_O} (hk297 : ∀ (x0 : Option Nat) (x2 : Int32) (x3 : Int32) (x4 : Int32) (h : ax_Hp), ax_W G p l e s mi args below meth c 6 (d + 1) h0 297 [(0, ax_A x0), (2, ax_I x2), (3, ax_I x3), (4, ax_I x4)] [] h (k297 x0 x2 x3 x4 h)) (x0 : Option Nat) (x2 : Int32) (x3 : Int32) (x4 : Int32) (h : ax_Hp) : ax_W G p l e s mi args below meth c 6 (d + 1) h0 297 [(0, ax_A x0), (2, ax_I x2), (3, ax_I x3), (4, ax_I x4)] [] h (Model_readsNode_bd297 call  k297 x0 x2 x3 x4 h) := by
  unfold Model_readsNode_bd297
  refine ax_iload B 3 d_Model_readsNode_297 rfl ?_
  refine ax_if_lt B 367 d_Model_readsNode_299 (by decide) ?_ ?_
  · refine ax_sub (tv2 := [(3, ax_I x3)]) [2] rfl ?_
    exact Model_readsNode_jq367 hcall B E Nm x3 h
  · refine ax_aload_n B 0 d_Model_readsNode_302 rfl rfl ?_
    refine ax_iload_n B 1 d_Model_readsNode_303 rfl rfl ?_
    refine ax_aload_n B 0 d_Model_readsNode_304 rfl rfl ?_
    refine ax_getfr B cl_Model (by decide) fk_Model_60 d_Model_readsNode_305 (fun v17 => ?_)
    refine ax_iload B 3 d_Model_readsNode_308 rfl ?_
    refine ax_cald (kd := 3) B (by decide) rfl d_Model_readsNode_310 (fun v18 => ?_)
    refine ax_callVi (av := [ax_I x2, ax_I v18]) (rest := []) B E hm_Model_fieldOf cl_Model rfl wd_1217 wp_69 lk_Model_284 d_Model_readsNode_311 rfl (Nat.le_of_ble_eq_true rfl) (fun _ _ hh => hcall 184 _ _ _ _ hh) (fun v20 h19 => ?_)
    refine ax_istore (tv2 := [(5, ax_I v20), (0, ax_A x0), (2, ax_I x2), (3, ax_I x3), (4, ax_I x4)]) B d_Model_readsNode_314 (by decide) rfl ?_
    refine ax_iload_n B 3 d_Model_readsNode_316 rfl rfl ?_
    refine ax_if_eq B 353 d_Model_readsNode_317 (by decide) ?_ ?_
    · refine ax_sub (tv2 := [(0, ax_A x0), (2, ax_I x2), (4, ax_I x4)]) [1, 2, 4] rfl ?_
      exact Model_readsNode_jq353 hcall B E Nm k297 hk297 x0 x2 x4 h19
    · refine ax_iload B 0 d_Model_readsNode_320 rfl ?_
      refine ax_if_lt B 339 d_Model_readsNode_322 (by decide) ?_ ?_
      · refine ax_aload_n B 1 d_Model_readsNode_339 rfl rfl ?_
        refine ax_getfr B cl_Model (by decide) fk_Model_69 d_Model_readsNode_340 (fun v23 => ?_)
        refine ax_iload B 4 d_Model_readsNode_343 rfl ?_
        refine ax_iald (kd := 1) B (by decide) rfl d_Model_readsNode_345 (fun v24 => ?_)
        refine ax_if_lt B 353 d_Model_readsNode_346 (by decide) ?_ ?_
        · refine ax_sub (tv2 := [(0, ax_A x0), (2, ax_I x2), (4, ax_I x4)]) [1, 2, 4] rfl ?_
          exact Model_readsNode_jq353 hcall B E Nm k297 hk297 x0 x2 x4 h19
        · refine ax_sub (tv2 := [(0, ax_A x0), (2, ax_I x2), (4, ax_I x4)]) [1, 2, 4] rfl ?_
          exact Model_readsNode_jq349 hcall B E Nm k297 hk297 x0 x2 x4 h19
      · refine ax_aload_n B 1 d_Model_readsNode_325 rfl rfl ?_
        refine ax_iload B 4 d_Model_readsNode_326 rfl ?_
        refine ax_iload B 0 d_Model_readsNode_328 rfl ?_
        refine ax_callVi (av := [ax_I x4, ax_I v20]) (rest := []) B E hm_Model_knows cl_Model rfl wd_1213 wp_68 lk_Model_280 d_Model_readsNode_330 rfl (Nat.le_of_ble_eq_true rfl) (fun _ _ hh => hcall 183 _ _ _ _ hh) (fun v26 h25 => ?_)
        refine ax_if_eq B 353 d_Model_readsNode_333 (by decide) ?_ ?_
        · refine ax_sub (tv2 := [(0, ax_A x0), (2, ax_I x2), (4, ax_I x4)]) [1, 2, 4] rfl ?_
          exact Model_readsNode_jq353 hcall B E Nm k297 hk297 x0 x2 x4 h25
        · refine ax_goto B 349 d_Model_readsNode_336 (by decide) ?_
          refine ax_sub (tv2 := [(0, ax_A x0), (2, ax_I x2), (4, ax_I x4)]) [1, 2, 4] rfl ?_
          exact Model_readsNode_jq349 hcall B E Nm k297 hk297 x0 x2 x4 h25
theorem Model_readsNode_lq297 {l : Launch} {G : ax_G} {d : Nat} {call : ax_Cf} (hcall : ax_Hc l G d call) {p : Program} {e : Env} {s : State} {mi : MethodId} {args : Array Value} {below : List Frame} {meth : Method} {c : Code} {h0 : ax_Hp} (B : ax_B G p s mi meth c "SchemaDeskModel" prog_12_method_43_code 6 (some (.boolean))) (E : c.exceptionTable.isEmpty = true) (Nm : meth.name = y_Model_readsNode.name)   : ∀ (n : Nat) (x0 : Option Nat) (x2 : Int32) (x3 : Int32) (x4 : Int32) (h : ax_Hp), ax_W G p l e s mi args below meth c 6 (d + 1) h0 297 [(0, ax_A x0), (2, ax_I x2), (3, ax_I x3), (4, ax_I x4)] [] h (Model_readsNode_lp297 call  n x0 x2 x3 x4 h)
  | 0, _, _, _, _, _ => ax_none
  | n + 1, x0, x2, x3, x4, h => Model_readsNode_lb297 hcall B E Nm   (Model_readsNode_lq297 hcall B E Nm   n) x0 x2 x3 x4 h
def Model_readsNode_jn237 (call : ax_Cf) (k181 : Option Nat → Int32 → Int32 → Int32 → Int32 → ax_Hp → ax_O) (x0 : Option Nat) (x1 : Int32) (x2 : Int32) (x4 : Int32) (s0 : Int32) (h : ax_Hp) : ax_O :=
  k181 x0 x1 x2 s0 (x4 + 1) h
set_option maxHeartbeats 4000000 in
set_option maxRecDepth 20000 in
theorem Model_readsNode_jq237 {l : Launch} {G : ax_G} {d : Nat} {call : ax_Cf} (hcall : ax_Hc l G d call) {p : Program} {e : Env} {s : State} {mi : MethodId} {args : Array Value} {below : List Frame} {meth : Method} {c : Code} {h0 : ax_Hp} (B : ax_B G p s mi meth c "SchemaDeskModel" prog_12_method_43_code 6 (some (.boolean))) (E : c.exceptionTable.isEmpty = true) (Nm : meth.name = y_Model_readsNode.name) (k181 : Option Nat → Int32 → Int32 → Int32 → Int32 → ax_Hp → ax_O) (hk181 : ∀ (x0 : Option Nat) (x1 : Int32) (x2 : Int32) (x3 : Int32) (x4 : Int32) (h : ax_Hp), ax_W G p l e s mi args below meth c 6 (d + 1) h0 181 [(0, ax_A x0), (1, ax_I x1), (2, ax_I x2), (3, ax_I x3), (4, ax_I x4)] [] h (k181 x0 x1 x2 x3 x4 h)) (x0 : Option Nat) (x1 : Int32) (x2 : Int32) (x4 : Int32) (s0 : Int32) (h : ax_Hp) : ax_W G p l e s mi args below meth c 6 (d + 1) h0 237 [(0, ax_A x0), (1, ax_I x1), (2, ax_I x2), (4, ax_I x4)] [ax_I s0] h (Model_readsNode_jn237 call k181 x0 x1 x2 x4 s0 h) := by
  unfold Model_readsNode_jn237
  refine ax_istore_n (tv2 := [(3, ax_I s0), (0, ax_A x0), (1, ax_I x1), (2, ax_I x2), (4, ax_I x4)]) B d_Model_readsNode_237 rfl (by decide) rfl ?_
  refine ax_iinc (v := x4 + 1) (tv2 := [(4, ax_I (x4 + 1)), (3, ax_I s0), (0, ax_A x0), (1, ax_I x1), (2, ax_I x2)]) B 4 d_Model_readsNode_238 rfl (congrArg (_ + ·) (by decide)) (by decide) rfl ?_
  refine ax_goto B 181 d_Model_readsNode_241 (by decide) ?_
  refine ax_sub (tv2 := [(0, ax_A x0), (1, ax_I x1), (2, ax_I x2), (3, ax_I s0), (4, ax_I (x4 + 1))]) [2, 3, 4, 1, 0] rfl ?_
  exact hk181 x0 x1 x2 s0 (x4 + 1) h
def Model_readsNode_jn236 (call : ax_Cf) (k181 : Option Nat → Int32 → Int32 → Int32 → Int32 → ax_Hp → ax_O) (x0 : Option Nat) (x1 : Int32) (x2 : Int32) (x4 : Int32) (h : ax_Hp) : ax_O :=
  Model_readsNode_jn237 call k181 x0 x1 x2 x4 0 h
set_option maxHeartbeats 4000000 in
set_option maxRecDepth 20000 in
theorem Model_readsNode_jq236 {l : Launch} {G : ax_G} {d : Nat} {call : ax_Cf} (hcall : ax_Hc l G d call) {p : Program} {e : Env} {s : State} {mi : MethodId} {args : Array Value} {below : List Frame} {meth : Method} {c : Code} {h0 : ax_Hp} (B : ax_B G p s mi meth c "SchemaDeskModel" prog_12_method_43_code 6 (some (.boolean))) (E : c.exceptionTable.isEmpty = true) (Nm : meth.name = y_Model_readsNode.name) (k181 : Option Nat → Int32 → Int32 → Int32 → Int32 → ax_Hp → ax_O) (hk181 : ∀ (x0 : Option Nat) (x1 : Int32) (x2 : Int32) (x3 : Int32) (x4 : Int32) (h : ax_Hp), ax_W G p l e s mi args below meth c 6 (d + 1) h0 181 [(0, ax_A x0), (1, ax_I x1), (2, ax_I x2), (3, ax_I x3), (4, ax_I x4)] [] h (k181 x0 x1 x2 x3 x4 h)) (x0 : Option Nat) (x1 : Int32) (x2 : Int32) (x4 : Int32) (h : ax_Hp) : ax_W G p l e s mi args below meth c 6 (d + 1) h0 236 [(0, ax_A x0), (1, ax_I x1), (2, ax_I x2), (4, ax_I x4)] [] h (Model_readsNode_jn236 call k181 x0 x1 x2 x4 h) := by
  unfold Model_readsNode_jn236
  refine ax_iconst (v := 0) B d_Model_readsNode_236 (by decide) ?_
  refine ax_sub (tv2 := [(0, ax_A x0), (1, ax_I x1), (2, ax_I x2), (4, ax_I x4)]) [0, 1, 2, 3] rfl ?_
  exact Model_readsNode_jq237 hcall B E Nm k181 hk181 x0 x1 x2 x4 0 h
def Model_readsNode_jn232 (call : ax_Cf) (k181 : Option Nat → Int32 → Int32 → Int32 → Int32 → ax_Hp → ax_O) (x0 : Option Nat) (x1 : Int32) (x2 : Int32) (x4 : Int32) (h : ax_Hp) : ax_O :=
  Model_readsNode_jn237 call k181 x0 x1 x2 x4 1 h
set_option maxHeartbeats 4000000 in
set_option maxRecDepth 20000 in
theorem Model_readsNode_jq232 {l : Launch} {G : ax_G} {d : Nat} {call : ax_Cf} (hcall : ax_Hc l G d call) {p : Program} {e : Env} {s : State} {mi : MethodId} {args : Array Value} {below : List Frame} {meth : Method} {c : Code} {h0 : ax_Hp} (B : ax_B G p s mi meth c "SchemaDeskModel" prog_12_method_43_code 6 (some (.boolean))) (E : c.exceptionTable.isEmpty = true) (Nm : meth.name = y_Model_readsNode.name) (k181 : Option Nat → Int32 → Int32 → Int32 → Int32 → ax_Hp → ax_O) (hk181 : ∀ (x0 : Option Nat) (x1 : Int32) (x2 : Int32) (x3 : Int32) (x4 : Int32) (h : ax_Hp), ax_W G p l e s mi args below meth c 6 (d + 1) h0 181 [(0, ax_A x0), (1, ax_I x1), (2, ax_I x2), (3, ax_I x3), (4, ax_I x4)] [] h (k181 x0 x1 x2 x3 x4 h)) (x0 : Option Nat) (x1 : Int32) (x2 : Int32) (x4 : Int32) (h : ax_Hp) : ax_W G p l e s mi args below meth c 6 (d + 1) h0 232 [(0, ax_A x0), (1, ax_I x1), (2, ax_I x2), (4, ax_I x4)] [] h (Model_readsNode_jn232 call k181 x0 x1 x2 x4 h) := by
  unfold Model_readsNode_jn232
  refine ax_iconst (v := 1) B d_Model_readsNode_232 (by decide) ?_
  refine ax_goto B 237 d_Model_readsNode_233 (by decide) ?_
  refine ax_sub (tv2 := [(0, ax_A x0), (1, ax_I x1), (2, ax_I x2), (4, ax_I x4)]) [0, 1, 2, 3] rfl ?_
  exact Model_readsNode_jq237 hcall B E Nm k181 hk181 x0 x1 x2 x4 1 h
def Model_readsNode_bd181 (call : ax_Cf)  (k181 : Option Nat → Int32 → Int32 → Int32 → Int32 → ax_Hp → ax_O) (x0 : Option Nat) (x1 : Int32) (x2 : Int32) (x3 : Int32) (x4 : Int32) (h : ax_Hp) : ax_O :=
  (ax_gr h x0 9 20).bind fun v33 =>
  (ax_ldi h v33 1 x2).bind fun v34 =>
  if v34 ≤ x4 then
    Model_readsNode_jn367 call x3 h
  else
    if x3 = 0 then
      Model_readsNode_jn236 call k181 x0 x1 x2 x4 h
    else
      (ax_gr h x0 9 23).bind fun v35 =>
      (ax_ldi h v35 1 x1).bind fun v36 =>
      if 0 ≤ v36 then
        Model_readsNode_jn232 call k181 x0 x1 x2 x4 h
      else
        (ax_gr h x0 9 14).bind fun v37 =>
        (ax_gr h x0 9 22).bind fun v38 =>
        (ax_ldi h v38 1 x2).bind fun v39 =>
        (ax_ldi h v37 3 ((160 + v39) + x4)).bind fun v40 =>
        ax_on h x0 9 <| ax_ci (call 163 [ax_A x0, ax_I 0, ax_I x1, ax_I v40] h) fun v42 h41 =>
        if v42 < 0 then
          Model_readsNode_jn236 call k181 x0 x1 x2 x4 h41
        else
          Model_readsNode_jn232 call k181 x0 x1 x2 x4 h41
def Model_readsNode_lp181 (call : ax_Cf)  : Nat → Option Nat → Int32 → Int32 → Int32 → Int32 → ax_Hp → ax_O
  | 0 => fun _ _ _ _ _ _ => none
  | n + 1 => Model_readsNode_bd181 call  (Model_readsNode_lp181 call  n)
set_option maxHeartbeats 4000000 in
set_option maxRecDepth 20000 in
theorem Model_readsNode_lb181 {l : Launch} {G : ax_G} {d : Nat} {call : ax_Cf} (hcall : ax_Hc l G d call) {p : Program} {e : Env} {s : State} {mi : MethodId} {args : Array Value} {below : List Frame} {meth : Method} {c : Code} {h0 : ax_Hp} (B : ax_B G p s mi meth c "SchemaDeskModel" prog_12_method_43_code 6 (some (.boolean))) (E : c.exceptionTable.isEmpty = true) (Nm : meth.name = y_Model_readsNode.name)   {k181 : Option Nat → Int32 → Int32 → Int32 → Int32 → ax_Hp → ax_O} (hk181 : ∀ (x0 : Option Nat) (x1 : Int32) (x2 : Int32) (x3 : Int32) (x4 : Int32) (h : ax_Hp), ax_W G p l e s mi args below meth c 6 (d + 1) h0 181 [(0, ax_A x0), (1, ax_I x1), (2, ax_I x2), (3, ax_I x3), (4, ax_I x4)] [] h (k181 x0 x1 x2 x3 x4 h)) (x0 : Option Nat) (x1 : Int32) (x2 : Int32) (x3 : Int32) (x4 : Int32) (h : ax_Hp) : ax_W G p l e s mi args below meth c 6 (d + 1) h0 181 [(0, ax_A x0), (1, ax_I x1), (2, ax_I x2), (3, ax_I x3), (4, ax_I x4)] [] h (Model_readsNode_bd181 call  k181 x0 x1 x2 x3 x4 h) := by
  unfold Model_readsNode_bd181
  refine ax_iload B 4 d_Model_readsNode_181 rfl ?_
  refine ax_aload_n B 0 d_Model_readsNode_183 rfl rfl ?_
  refine ax_getfr B cl_Model (by decide) fk_Model_57 d_Model_readsNode_184 (fun v33 => ?_)
  refine ax_iload_n B 2 d_Model_readsNode_187 rfl rfl ?_
  refine ax_iald (kd := 1) B (by decide) rfl d_Model_readsNode_188 (fun v34 => ?_)
  refine ax_icmp_ge B 244 d_Model_readsNode_189 (by decide) ?_ ?_
  · refine ax_goto B 367 d_Model_readsNode_244 (by decide) ?_
    refine ax_sub (tv2 := [(3, ax_I x3)]) [3] rfl ?_
    exact Model_readsNode_jq367 hcall B E Nm x3 h
  · refine ax_iload_n B 3 d_Model_readsNode_192 rfl rfl ?_
    refine ax_if_eq B 236 d_Model_readsNode_193 (by decide) ?_ ?_
    · refine ax_sub (tv2 := [(0, ax_A x0), (1, ax_I x1), (2, ax_I x2), (4, ax_I x4)]) [0, 1, 2, 4] rfl ?_
      exact Model_readsNode_jq236 hcall B E Nm k181 hk181 x0 x1 x2 x4 h
    · refine ax_aload_n B 0 d_Model_readsNode_196 rfl rfl ?_
      refine ax_getfr B cl_Model (by decide) fk_Model_66 d_Model_readsNode_197 (fun v35 => ?_)
      refine ax_iload_n B 1 d_Model_readsNode_200 rfl rfl ?_
      refine ax_iald (kd := 1) B (by decide) rfl d_Model_readsNode_201 (fun v36 => ?_)
      refine ax_if_ge B 232 d_Model_readsNode_202 (by decide) ?_ ?_
      · refine ax_sub (tv2 := [(0, ax_A x0), (1, ax_I x1), (2, ax_I x2), (4, ax_I x4)]) [0, 1, 2, 4] rfl ?_
        exact Model_readsNode_jq232 hcall B E Nm k181 hk181 x0 x1 x2 x4 h
      · refine ax_aload_n B 0 d_Model_readsNode_205 rfl rfl ?_
        refine ax_iconst (v := 0) B d_Model_readsNode_206 (by decide) ?_
        refine ax_iload_n B 1 d_Model_readsNode_207 rfl rfl ?_
        refine ax_aload_n B 0 d_Model_readsNode_208 rfl rfl ?_
        refine ax_getfr B cl_Model (by decide) fk_Model_39 d_Model_readsNode_209 (fun v37 => ?_)
        refine ax_sipush (v := 160) B d_Model_readsNode_212 (by decide) ?_
        refine ax_aload_n B 0 d_Model_readsNode_215 rfl rfl ?_
        refine ax_getfr B cl_Model (by decide) fk_Model_63 d_Model_readsNode_216 (fun v38 => ?_)
        refine ax_iload_n B 2 d_Model_readsNode_219 rfl rfl ?_
        refine ax_iald (kd := 1) B (by decide) rfl d_Model_readsNode_220 (fun v39 => ?_)
        refine ax_iadd B d_Model_readsNode_221 ?_
        refine ax_iload B 4 d_Model_readsNode_222 rfl ?_
        refine ax_iadd B d_Model_readsNode_224 ?_
        refine ax_cald (kd := 3) B (by decide) rfl d_Model_readsNode_225 (fun v40 => ?_)
        refine ax_callVi (av := [ax_I 0, ax_I x1, ax_I v40]) (rest := []) B E hm_Model_symbol cl_Model rfl wd_1128 wp_49 lk_Model_144 d_Model_readsNode_226 rfl (Nat.le_of_ble_eq_true rfl) (fun _ _ hh => hcall 163 _ _ _ _ hh) (fun v42 h41 => ?_)
        refine ax_if_lt B 236 d_Model_readsNode_229 (by decide) ?_ ?_
        · refine ax_sub (tv2 := [(0, ax_A x0), (1, ax_I x1), (2, ax_I x2), (4, ax_I x4)]) [0, 1, 2, 4] rfl ?_
          exact Model_readsNode_jq236 hcall B E Nm k181 hk181 x0 x1 x2 x4 h41
        · refine ax_sub (tv2 := [(0, ax_A x0), (1, ax_I x1), (2, ax_I x2), (4, ax_I x4)]) [0, 1, 2, 4] rfl ?_
          exact Model_readsNode_jq232 hcall B E Nm k181 hk181 x0 x1 x2 x4 h41
theorem Model_readsNode_lq181 {l : Launch} {G : ax_G} {d : Nat} {call : ax_Cf} (hcall : ax_Hc l G d call) {p : Program} {e : Env} {s : State} {mi : MethodId} {args : Array Value} {below : List Frame} {meth : Method} {c : Code} {h0 : ax_Hp} (B : ax_B G p s mi meth c "SchemaDeskModel" prog_12_method_43_code 6 (some (.boolean))) (E : c.exceptionTable.isEmpty = true) (Nm : meth.name = y_Model_readsNode.name)   : ∀ (n : Nat) (x0 : Option Nat) (x1 : Int32) (x2 : Int32) (x3 : Int32) (x4 : Int32) (h : ax_Hp), ax_W G p l e s mi args below meth c 6 (d + 1) h0 181 [(0, ax_A x0), (1, ax_I x1), (2, ax_I x2), (3, ax_I x3), (4, ax_I x4)] [] h (Model_readsNode_lp181 call  n x0 x1 x2 x3 x4 h)
  | 0, _, _, _, _, _, _ => ax_none
  | n + 1, x0, x1, x2, x3, x4, h => Model_readsNode_lb181 hcall B E Nm   (Model_readsNode_lq181 hcall B E Nm   n) x0 x1 x2 x3 x4 h
def Model_readsNode_jn107 (call : ax_Cf) (k82 : Option Nat → Int32 → Int32 → Int32 → ax_Hp → ax_O) (x0 : Option Nat) (x2 : Int32) (x5 : Int32) (s0 : Int32) (h : ax_Hp) : ax_O :=
  (ax_gr h x0 9 19).bind fun v49 =>
  (ax_ldi h v49 1 x5).bind fun v50 =>
  k82 x0 x2 s0 v50 h
set_option maxHeartbeats 4000000 in
set_option maxRecDepth 20000 in
theorem Model_readsNode_jq107 {l : Launch} {G : ax_G} {d : Nat} {call : ax_Cf} (hcall : ax_Hc l G d call) {p : Program} {e : Env} {s : State} {mi : MethodId} {args : Array Value} {below : List Frame} {meth : Method} {c : Code} {h0 : ax_Hp} (B : ax_B G p s mi meth c "SchemaDeskModel" prog_12_method_43_code 6 (some (.boolean))) (E : c.exceptionTable.isEmpty = true) (Nm : meth.name = y_Model_readsNode.name) (k82 : Option Nat → Int32 → Int32 → Int32 → ax_Hp → ax_O) (hk82 : ∀ (x0 : Option Nat) (x2 : Int32) (x4 : Int32) (x5 : Int32) (h : ax_Hp), ax_W G p l e s mi args below meth c 6 (d + 1) h0 82 [(0, ax_A x0), (2, ax_I x2), (4, ax_I x4), (5, ax_I x5)] [] h (k82 x0 x2 x4 x5 h)) (x0 : Option Nat) (x2 : Int32) (x5 : Int32) (s0 : Int32) (h : ax_Hp) : ax_W G p l e s mi args below meth c 6 (d + 1) h0 107 [(0, ax_A x0), (2, ax_I x2), (5, ax_I x5)] [ax_I s0] h (Model_readsNode_jn107 call k82 x0 x2 x5 s0 h) := by
  unfold Model_readsNode_jn107
  refine ax_istore (tv2 := [(4, ax_I s0), (0, ax_A x0), (2, ax_I x2), (5, ax_I x5)]) B d_Model_readsNode_107 (by decide) rfl ?_
  refine ax_aload_n B 1 d_Model_readsNode_109 rfl rfl ?_
  refine ax_getfr B cl_Model (by decide) fk_Model_54 d_Model_readsNode_110 (fun v49 => ?_)
  refine ax_iload B 3 d_Model_readsNode_113 rfl ?_
  refine ax_iald (kd := 1) B (by decide) rfl d_Model_readsNode_115 (fun v50 => ?_)
  refine ax_istore (tv2 := [(5, ax_I v50), (4, ax_I s0), (0, ax_A x0), (2, ax_I x2)]) B d_Model_readsNode_116 (by decide) rfl ?_
  refine ax_goto B 82 d_Model_readsNode_118 (by decide) ?_
  refine ax_sub (tv2 := [(0, ax_A x0), (2, ax_I x2), (4, ax_I s0), (5, ax_I v50)]) [2, 3, 1, 0] rfl ?_
  exact hk82 x0 x2 s0 v50 h
def Model_readsNode_jn102 (call : ax_Cf) (k82 : Option Nat → Int32 → Int32 → Int32 → ax_Hp → ax_O) (x0 : Option Nat) (x2 : Int32) (x5 : Int32) (h : ax_Hp) : ax_O :=
  Model_readsNode_jn107 call k82 x0 x2 x5 1 h
set_option maxHeartbeats 4000000 in
set_option maxRecDepth 20000 in
theorem Model_readsNode_jq102 {l : Launch} {G : ax_G} {d : Nat} {call : ax_Cf} (hcall : ax_Hc l G d call) {p : Program} {e : Env} {s : State} {mi : MethodId} {args : Array Value} {below : List Frame} {meth : Method} {c : Code} {h0 : ax_Hp} (B : ax_B G p s mi meth c "SchemaDeskModel" prog_12_method_43_code 6 (some (.boolean))) (E : c.exceptionTable.isEmpty = true) (Nm : meth.name = y_Model_readsNode.name) (k82 : Option Nat → Int32 → Int32 → Int32 → ax_Hp → ax_O) (hk82 : ∀ (x0 : Option Nat) (x2 : Int32) (x4 : Int32) (x5 : Int32) (h : ax_Hp), ax_W G p l e s mi args below meth c 6 (d + 1) h0 82 [(0, ax_A x0), (2, ax_I x2), (4, ax_I x4), (5, ax_I x5)] [] h (k82 x0 x2 x4 x5 h)) (x0 : Option Nat) (x2 : Int32) (x5 : Int32) (h : ax_Hp) : ax_W G p l e s mi args below meth c 6 (d + 1) h0 102 [(0, ax_A x0), (2, ax_I x2), (5, ax_I x5)] [] h (Model_readsNode_jn102 call k82 x0 x2 x5 h) := by
  unfold Model_readsNode_jn102
  refine ax_iconst (v := 1) B d_Model_readsNode_102 (by decide) ?_
  refine ax_goto B 107 d_Model_readsNode_103 (by decide) ?_
  refine ax_sub (tv2 := [(0, ax_A x0), (2, ax_I x2), (5, ax_I x5)]) [0, 1, 2] rfl ?_
  exact Model_readsNode_jq107 hcall B E Nm k82 hk82 x0 x2 x5 1 h
def Model_readsNode_bd82 (call : ax_Cf)  (k82 : Option Nat → Int32 → Int32 → Int32 → ax_Hp → ax_O) (x0 : Option Nat) (x2 : Int32) (x4 : Int32) (x5 : Int32) (h : ax_Hp) : ax_O :=
  if x5 < 0 then
    ax_rz x4 h
  else
    if x4 = 0 then
      ax_on h x0 9 <| ax_ci (call 183 [ax_A x0, ax_I x5, ax_I x2] h) fun v52 h51 =>
      if v52 = 0 then
        Model_readsNode_jn107 call k82 x0 x2 x5 0 h51
      else
        Model_readsNode_jn102 call k82 x0 x2 x5 h51
    else
      Model_readsNode_jn102 call k82 x0 x2 x5 h
def Model_readsNode_lp82 (call : ax_Cf)  : Nat → Option Nat → Int32 → Int32 → Int32 → ax_Hp → ax_O
  | 0 => fun _ _ _ _ _ => none
  | n + 1 => Model_readsNode_bd82 call  (Model_readsNode_lp82 call  n)
set_option maxHeartbeats 4000000 in
set_option maxRecDepth 20000 in
theorem Model_readsNode_lb82 {l : Launch} {G : ax_G} {d : Nat} {call : ax_Cf} (hcall : ax_Hc l G d call) {p : Program} {e : Env} {s : State} {mi : MethodId} {args : Array Value} {below : List Frame} {meth : Method} {c : Code} {h0 : ax_Hp} (B : ax_B G p s mi meth c "SchemaDeskModel" prog_12_method_43_code 6 (some (.boolean))) (E : c.exceptionTable.isEmpty = true) (Nm : meth.name = y_Model_readsNode.name)   {k82 : Option Nat → Int32 → Int32 → Int32 → ax_Hp → ax_O} (hk82 : ∀ (x0 : Option Nat) (x2 : Int32) (x4 : Int32) (x5 : Int32) (h : ax_Hp), ax_W G p l e s mi args below meth c 6 (d + 1) h0 82 [(0, ax_A x0), (2, ax_I x2), (4, ax_I x4), (5, ax_I x5)] [] h (k82 x0 x2 x4 x5 h)) (x0 : Option Nat) (x2 : Int32) (x4 : Int32) (x5 : Int32) (h : ax_Hp) : ax_W G p l e s mi args below meth c 6 (d + 1) h0 82 [(0, ax_A x0), (2, ax_I x2), (4, ax_I x4), (5, ax_I x5)] [] h (Model_readsNode_bd82 call  k82 x0 x2 x4 x5 h) := by
  unfold Model_readsNode_bd82
  refine ax_iload B 3 d_Model_readsNode_82 rfl ?_
  refine ax_if_lt B 121 d_Model_readsNode_84 (by decide) ?_ ?_
  · refine ax_iload B 2 d_Model_readsNode_121 rfl ?_
    exact ax_zreturn B d_Model_readsNode_123
  · refine ax_iload B 2 d_Model_readsNode_87 rfl ?_
    refine ax_if_ne B 102 d_Model_readsNode_89 (by decide) ?_ ?_
    · refine ax_sub (tv2 := [(0, ax_A x0), (2, ax_I x2), (5, ax_I x5)]) [0, 1, 3] rfl ?_
      exact Model_readsNode_jq102 hcall B E Nm k82 hk82 x0 x2 x5 h
    · refine ax_aload_n B 0 d_Model_readsNode_92 rfl rfl ?_
      refine ax_iload B 3 d_Model_readsNode_93 rfl ?_
      refine ax_iload_n B 1 d_Model_readsNode_95 rfl rfl ?_
      refine ax_callVi (av := [ax_I x5, ax_I x2]) (rest := []) B E hm_Model_knows cl_Model rfl wd_1213 wp_68 lk_Model_280 d_Model_readsNode_96 rfl (Nat.le_of_ble_eq_true rfl) (fun _ _ hh => hcall 183 _ _ _ _ hh) (fun v52 h51 => ?_)
      refine ax_if_eq B 106 d_Model_readsNode_99 (by decide) ?_ ?_
      · refine ax_iconst (v := 0) B d_Model_readsNode_106 (by decide) ?_
        refine ax_sub (tv2 := [(0, ax_A x0), (2, ax_I x2), (5, ax_I x5)]) [0, 1, 3] rfl ?_
        exact Model_readsNode_jq107 hcall B E Nm k82 hk82 x0 x2 x5 0 h51
      · refine ax_sub (tv2 := [(0, ax_A x0), (2, ax_I x2), (5, ax_I x5)]) [0, 1, 3] rfl ?_
        exact Model_readsNode_jq102 hcall B E Nm k82 hk82 x0 x2 x5 h51
theorem Model_readsNode_lq82 {l : Launch} {G : ax_G} {d : Nat} {call : ax_Cf} (hcall : ax_Hc l G d call) {p : Program} {e : Env} {s : State} {mi : MethodId} {args : Array Value} {below : List Frame} {meth : Method} {c : Code} {h0 : ax_Hp} (B : ax_B G p s mi meth c "SchemaDeskModel" prog_12_method_43_code 6 (some (.boolean))) (E : c.exceptionTable.isEmpty = true) (Nm : meth.name = y_Model_readsNode.name)   : ∀ (n : Nat) (x0 : Option Nat) (x2 : Int32) (x4 : Int32) (x5 : Int32) (h : ax_Hp), ax_W G p l e s mi args below meth c 6 (d + 1) h0 82 [(0, ax_A x0), (2, ax_I x2), (4, ax_I x4), (5, ax_I x5)] [] h (Model_readsNode_lp82 call  n x0 x2 x4 x5 h)
  | 0, _, _, _, _, _ => ax_none
  | n + 1, x0, x2, x4, x5, h => Model_readsNode_lb82 hcall B E Nm   (Model_readsNode_lq82 hcall B E Nm   n) x0 x2 x4 x5 h
def Model_readsNode_jn45 (call : ax_Cf) (k21 : Option Nat → Int32 → Int32 → Int32 → ax_Hp → ax_O) (x0 : Option Nat) (x1 : Int32) (x4 : Int32) (s0 : Int32) (h : ax_Hp) : ax_O :=
  (ax_gr h x0 9 19).bind fun v55 =>
  (ax_ldi h v55 1 x4).bind fun v56 =>
  k21 x0 x1 s0 v56 h
set_option maxHeartbeats 4000000 in
set_option maxRecDepth 20000 in
theorem Model_readsNode_jq45 {l : Launch} {G : ax_G} {d : Nat} {call : ax_Cf} (hcall : ax_Hc l G d call) {p : Program} {e : Env} {s : State} {mi : MethodId} {args : Array Value} {below : List Frame} {meth : Method} {c : Code} {h0 : ax_Hp} (B : ax_B G p s mi meth c "SchemaDeskModel" prog_12_method_43_code 6 (some (.boolean))) (E : c.exceptionTable.isEmpty = true) (Nm : meth.name = y_Model_readsNode.name) (k21 : Option Nat → Int32 → Int32 → Int32 → ax_Hp → ax_O) (hk21 : ∀ (x0 : Option Nat) (x1 : Int32) (x3 : Int32) (x4 : Int32) (h : ax_Hp), ax_W G p l e s mi args below meth c 6 (d + 1) h0 21 [(0, ax_A x0), (1, ax_I x1), (3, ax_I x3), (4, ax_I x4)] [] h (k21 x0 x1 x3 x4 h)) (x0 : Option Nat) (x1 : Int32) (x4 : Int32) (s0 : Int32) (h : ax_Hp) : ax_W G p l e s mi args below meth c 6 (d + 1) h0 45 [(0, ax_A x0), (1, ax_I x1), (4, ax_I x4)] [ax_I s0] h (Model_readsNode_jn45 call k21 x0 x1 x4 s0 h) := by
  unfold Model_readsNode_jn45
  refine ax_istore_n (tv2 := [(3, ax_I s0), (0, ax_A x0), (1, ax_I x1), (4, ax_I x4)]) B d_Model_readsNode_45 rfl (by decide) rfl ?_
  refine ax_aload_n B 1 d_Model_readsNode_46 rfl rfl ?_
  refine ax_getfr B cl_Model (by decide) fk_Model_54 d_Model_readsNode_47 (fun v55 => ?_)
  refine ax_iload B 3 d_Model_readsNode_50 rfl ?_
  refine ax_iald (kd := 1) B (by decide) rfl d_Model_readsNode_52 (fun v56 => ?_)
  refine ax_istore (tv2 := [(4, ax_I v56), (3, ax_I s0), (0, ax_A x0), (1, ax_I x1)]) B d_Model_readsNode_53 (by decide) rfl ?_
  refine ax_goto B 21 d_Model_readsNode_55 (by decide) ?_
  refine ax_sub (tv2 := [(0, ax_A x0), (1, ax_I x1), (3, ax_I s0), (4, ax_I v56)]) [2, 3, 1, 0] rfl ?_
  exact hk21 x0 x1 s0 v56 h
def Model_readsNode_jn44 (call : ax_Cf) (k21 : Option Nat → Int32 → Int32 → Int32 → ax_Hp → ax_O) (x0 : Option Nat) (x1 : Int32) (x4 : Int32) (h : ax_Hp) : ax_O :=
  Model_readsNode_jn45 call k21 x0 x1 x4 0 h
set_option maxHeartbeats 4000000 in
set_option maxRecDepth 20000 in
theorem Model_readsNode_jq44 {l : Launch} {G : ax_G} {d : Nat} {call : ax_Cf} (hcall : ax_Hc l G d call) {p : Program} {e : Env} {s : State} {mi : MethodId} {args : Array Value} {below : List Frame} {meth : Method} {c : Code} {h0 : ax_Hp} (B : ax_B G p s mi meth c "SchemaDeskModel" prog_12_method_43_code 6 (some (.boolean))) (E : c.exceptionTable.isEmpty = true) (Nm : meth.name = y_Model_readsNode.name) (k21 : Option Nat → Int32 → Int32 → Int32 → ax_Hp → ax_O) (hk21 : ∀ (x0 : Option Nat) (x1 : Int32) (x3 : Int32) (x4 : Int32) (h : ax_Hp), ax_W G p l e s mi args below meth c 6 (d + 1) h0 21 [(0, ax_A x0), (1, ax_I x1), (3, ax_I x3), (4, ax_I x4)] [] h (k21 x0 x1 x3 x4 h)) (x0 : Option Nat) (x1 : Int32) (x4 : Int32) (h : ax_Hp) : ax_W G p l e s mi args below meth c 6 (d + 1) h0 44 [(0, ax_A x0), (1, ax_I x1), (4, ax_I x4)] [] h (Model_readsNode_jn44 call k21 x0 x1 x4 h) := by
  unfold Model_readsNode_jn44
  refine ax_iconst (v := 0) B d_Model_readsNode_44 (by decide) ?_
  refine ax_sub (tv2 := [(0, ax_A x0), (1, ax_I x1), (4, ax_I x4)]) [0, 1, 2] rfl ?_
  exact Model_readsNode_jq45 hcall B E Nm k21 hk21 x0 x1 x4 0 h
def Model_readsNode_bd21 (call : ax_Cf)  (k21 : Option Nat → Int32 → Int32 → Int32 → ax_Hp → ax_O) (x0 : Option Nat) (x1 : Int32) (x3 : Int32) (x4 : Int32) (h : ax_Hp) : ax_O :=
  if x4 < 0 then
    ax_rz x3 h
  else
    if x3 = 0 then
      Model_readsNode_jn44 call k21 x0 x1 x4 h
    else
      ax_on h x0 9 <| ax_ci (call 183 [ax_A x0, ax_I x1, ax_I x4] h) fun v58 h57 =>
      if v58 = 0 then
        Model_readsNode_jn44 call k21 x0 x1 x4 h57
      else
        Model_readsNode_jn45 call k21 x0 x1 x4 1 h57
def Model_readsNode_lp21 (call : ax_Cf)  : Nat → Option Nat → Int32 → Int32 → Int32 → ax_Hp → ax_O
  | 0 => fun _ _ _ _ _ => none
  | n + 1 => Model_readsNode_bd21 call  (Model_readsNode_lp21 call  n)
set_option maxHeartbeats 4000000 in
set_option maxRecDepth 20000 in
theorem Model_readsNode_lb21 {l : Launch} {G : ax_G} {d : Nat} {call : ax_Cf} (hcall : ax_Hc l G d call) {p : Program} {e : Env} {s : State} {mi : MethodId} {args : Array Value} {below : List Frame} {meth : Method} {c : Code} {h0 : ax_Hp} (B : ax_B G p s mi meth c "SchemaDeskModel" prog_12_method_43_code 6 (some (.boolean))) (E : c.exceptionTable.isEmpty = true) (Nm : meth.name = y_Model_readsNode.name)   {k21 : Option Nat → Int32 → Int32 → Int32 → ax_Hp → ax_O} (hk21 : ∀ (x0 : Option Nat) (x1 : Int32) (x3 : Int32) (x4 : Int32) (h : ax_Hp), ax_W G p l e s mi args below meth c 6 (d + 1) h0 21 [(0, ax_A x0), (1, ax_I x1), (3, ax_I x3), (4, ax_I x4)] [] h (k21 x0 x1 x3 x4 h)) (x0 : Option Nat) (x1 : Int32) (x3 : Int32) (x4 : Int32) (h : ax_Hp) : ax_W G p l e s mi args below meth c 6 (d + 1) h0 21 [(0, ax_A x0), (1, ax_I x1), (3, ax_I x3), (4, ax_I x4)] [] h (Model_readsNode_bd21 call  k21 x0 x1 x3 x4 h) := by
  unfold Model_readsNode_bd21
  refine ax_iload B 3 d_Model_readsNode_21 rfl ?_
  refine ax_if_lt B 58 d_Model_readsNode_23 (by decide) ?_ ?_
  · refine ax_iload_n B 2 d_Model_readsNode_58 rfl rfl ?_
    exact ax_zreturn B d_Model_readsNode_59
  · refine ax_iload_n B 2 d_Model_readsNode_26 rfl rfl ?_
    refine ax_if_eq B 44 d_Model_readsNode_27 (by decide) ?_ ?_
    · refine ax_sub (tv2 := [(0, ax_A x0), (1, ax_I x1), (4, ax_I x4)]) [0, 1, 3] rfl ?_
      exact Model_readsNode_jq44 hcall B E Nm k21 hk21 x0 x1 x4 h
    · refine ax_aload_n B 0 d_Model_readsNode_30 rfl rfl ?_
      refine ax_iload_n B 1 d_Model_readsNode_31 rfl rfl ?_
      refine ax_iload B 3 d_Model_readsNode_32 rfl ?_
      refine ax_callVi (av := [ax_I x1, ax_I x4]) (rest := []) B E hm_Model_knows cl_Model rfl wd_1213 wp_68 lk_Model_280 d_Model_readsNode_34 rfl (Nat.le_of_ble_eq_true rfl) (fun _ _ hh => hcall 183 _ _ _ _ hh) (fun v58 h57 => ?_)
      refine ax_if_eq B 44 d_Model_readsNode_37 (by decide) ?_ ?_
      · refine ax_sub (tv2 := [(0, ax_A x0), (1, ax_I x1), (4, ax_I x4)]) [0, 1, 3] rfl ?_
        exact Model_readsNode_jq44 hcall B E Nm k21 hk21 x0 x1 x4 h57
      · refine ax_iconst (v := 1) B d_Model_readsNode_40 (by decide) ?_
        refine ax_goto B 45 d_Model_readsNode_41 (by decide) ?_
        refine ax_sub (tv2 := [(0, ax_A x0), (1, ax_I x1), (4, ax_I x4)]) [0, 1, 3] rfl ?_
        exact Model_readsNode_jq45 hcall B E Nm k21 hk21 x0 x1 x4 1 h57
theorem Model_readsNode_lq21 {l : Launch} {G : ax_G} {d : Nat} {call : ax_Cf} (hcall : ax_Hc l G d call) {p : Program} {e : Env} {s : State} {mi : MethodId} {args : Array Value} {below : List Frame} {meth : Method} {c : Code} {h0 : ax_Hp} (B : ax_B G p s mi meth c "SchemaDeskModel" prog_12_method_43_code 6 (some (.boolean))) (E : c.exceptionTable.isEmpty = true) (Nm : meth.name = y_Model_readsNode.name)   : ∀ (n : Nat) (x0 : Option Nat) (x1 : Int32) (x3 : Int32) (x4 : Int32) (h : ax_Hp), ax_W G p l e s mi args below meth c 6 (d + 1) h0 21 [(0, ax_A x0), (1, ax_I x1), (3, ax_I x3), (4, ax_I x4)] [] h (Model_readsNode_lp21 call  n x0 x1 x3 x4 h)
  | 0, _, _, _, _, _ => ax_none
  | n + 1, x0, x1, x3, x4, h => Model_readsNode_lb21 hcall B E Nm   (Model_readsNode_lq21 hcall B E Nm   n) x0 x1 x3 x4 h
def Model_readsNode_b (call : ax_Cf) (x0 : Option Nat) (x1 : Int32) (x2 : Int32) (h : ax_Hp) : ax_O :=
  (ax_gr h x0 9 17).bind fun v1 =>
  (ax_ldi h v1 3 x2).bind fun v2 =>
  if v2 = 85 then
    (ax_gr h x0 9 18).bind fun v53 =>
    (ax_ldi h v53 1 x2).bind fun v54 =>
    Model_readsNode_lp21 call ax_fuel x0 x1 1 v54 h
  else
    (ax_gr h x0 9 17).bind fun v3 =>
    (ax_ldi h v3 3 x1).bind fun v4 =>
    if v4 = 85 then
      (ax_gr h x0 9 18).bind fun v47 =>
      (ax_ldi h v47 1 x1).bind fun v48 =>
      Model_readsNode_lp82 call ax_fuel x0 x2 0 v48 h
    else
      (ax_gr h x0 9 17).bind fun v5 =>
      (ax_ldi h v5 3 x1).bind fun v6 =>
      (ax_gr h x0 9 17).bind fun v7 =>
      (ax_ldi h v7 3 x2).bind fun v8 =>
      if v6 = v8 then
        (ax_gr h x0 9 17).bind fun v9 =>
        (ax_ldi h v9 3 x1).bind fun v10 =>
        if v10 = 69 then
          Model_readsNode_lp181 call ax_fuel x0 x1 x2 1 0 h
        else
          (ax_gr h x0 9 17).bind fun v11 =>
          (ax_ldi h v11 3 x1).bind fun v12 =>
          if v12 = 65 then
            (ax_gr h x0 9 18).bind fun v27 =>
            (ax_ldi h v27 1 x1).bind fun v28 =>
            (ax_gr h x0 9 18).bind fun v29 =>
            (ax_ldi h v29 1 x2).bind fun v30 =>
            ax_on h x0 9 <| ax_ci (call 183 [ax_A x0, ax_I v28, ax_I v30] h) fun v32 h31 =>
            Model_readsNode_jn367 call v32 h31
          else
            (ax_gr h x0 9 17).bind fun v13 =>
            (ax_ldi h v13 3 x1).bind fun v14 =>
            if v14 = 82 then
              (ax_gr h x0 9 18).bind fun v15 =>
              (ax_ldi h v15 1 x1).bind fun v16 =>
              Model_readsNode_lp297 call ax_fuel x0 x2 1 v16 h
            else
              Model_readsNode_jn367 call 1 h
      else
        (ax_gr h x0 9 17).bind fun v43 =>
        (ax_ldi h v43 3 x1).bind fun v44 =>
        if v44 = 76 then
          (ax_gr h x0 9 17).bind fun v45 =>
          (ax_ldi h v45 3 x2).bind fun v46 =>
          if v46 = 73 then
            ax_rz 1 h
          else
            ax_rz 0 h
        else
          ax_rz 0 h
set_option maxHeartbeats 4000000 in
set_option maxRecDepth 20000 in
theorem Model_readsNode_t {l : Launch} {G : ax_G} {d : Nat} {call : ax_Cf} (hcall : ax_Hc l G d call) (x0 : Option Nat) (x1 : Int32) (x2 : Int32) (h : ax_Hp) {r : ax_Rs} {h' : ax_Hp} (ho : Model_readsNode_b call x0 x1 x2 h = some (r, h')) : ax_C l G (d + 1) y_Model_readsNode (.code y_Model_readsNode prog_12_method_43_code 6 (some (.boolean))) [ax_A x0, ax_I x1, ax_I x2] h r h' := by
  refine ax_enter (by decide) (Nat.le_of_ble_eq_true rfl) ho (fun p e s mi args below meth c B E Nm => ?_)
  have B : ax_B G p s mi meth c "SchemaDeskModel" prog_12_method_43_code 6 (some (.boolean)) := B
  show ax_W G p l e s mi args below meth c 6 (d + 1) h 0 [(0, ax_A x0), (1, ax_I x1), (2, ax_I x2)] [] h (Model_readsNode_b call x0 x1 x2 h)
  unfold Model_readsNode_b
  refine ax_iconst (v := 1) B d_Model_readsNode_0 (by decide) ?_
  refine ax_istore_n (tv2 := [(3, ax_I 1), (0, ax_A x0), (1, ax_I x1), (2, ax_I x2)]) B d_Model_readsNode_1 rfl (by decide) rfl ?_
  refine ax_aload_n B 1 d_Model_readsNode_2 rfl rfl ?_
  refine ax_getfr B cl_Model (by decide) fk_Model_48 d_Model_readsNode_3 (fun v1 => ?_)
  refine ax_iload_n B 3 d_Model_readsNode_6 rfl rfl ?_
  refine ax_cald (kd := 3) B (by decide) rfl d_Model_readsNode_7 (fun v2 => ?_)
  refine ax_bipush (v := 85) B d_Model_readsNode_8 (by decide) ?_
  refine ax_icmp_ne B 60 d_Model_readsNode_10 (by decide) ?_ ?_
  · refine ax_aload_n B 1 d_Model_readsNode_60 rfl rfl ?_
    refine ax_getfr B cl_Model (by decide) fk_Model_48 d_Model_readsNode_61 (fun v3 => ?_)
    refine ax_iload_n B 2 d_Model_readsNode_64 rfl rfl ?_
    refine ax_cald (kd := 3) B (by decide) rfl d_Model_readsNode_65 (fun v4 => ?_)
    refine ax_bipush (v := 85) B d_Model_readsNode_66 (by decide) ?_
    refine ax_icmp_ne B 124 d_Model_readsNode_68 (by decide) ?_ ?_
    · refine ax_aload_n B 1 d_Model_readsNode_124 rfl rfl ?_
      refine ax_getfr B cl_Model (by decide) fk_Model_48 d_Model_readsNode_125 (fun v5 => ?_)
      refine ax_iload_n B 2 d_Model_readsNode_128 rfl rfl ?_
      refine ax_cald (kd := 3) B (by decide) rfl d_Model_readsNode_129 (fun v6 => ?_)
      refine ax_aload_n B 1 d_Model_readsNode_130 rfl rfl ?_
      refine ax_getfr B cl_Model (by decide) fk_Model_48 d_Model_readsNode_131 (fun v7 => ?_)
      refine ax_iload_n B 3 d_Model_readsNode_134 rfl rfl ?_
      refine ax_cald (kd := 3) B (by decide) rfl d_Model_readsNode_135 (fun v8 => ?_)
      refine ax_icmp_eq B 167 d_Model_readsNode_136 (by decide) ?_ ?_
      · refine ax_aload_n B 1 d_Model_readsNode_167 rfl rfl ?_
        refine ax_getfr B cl_Model (by decide) fk_Model_48 d_Model_readsNode_168 (fun v9 => ?_)
        refine ax_iload_n B 2 d_Model_readsNode_171 rfl rfl ?_
        refine ax_cald (kd := 3) B (by decide) rfl d_Model_readsNode_172 (fun v10 => ?_)
        refine ax_bipush (v := 69) B d_Model_readsNode_173 (by decide) ?_
        refine ax_icmp_ne B 247 d_Model_readsNode_175 (by decide) ?_ ?_
        · refine ax_aload_n B 1 d_Model_readsNode_247 rfl rfl ?_
          refine ax_getfr B cl_Model (by decide) fk_Model_48 d_Model_readsNode_248 (fun v11 => ?_)
          refine ax_iload_n B 2 d_Model_readsNode_251 rfl rfl ?_
          refine ax_cald (kd := 3) B (by decide) rfl d_Model_readsNode_252 (fun v12 => ?_)
          refine ax_bipush (v := 65) B d_Model_readsNode_253 (by decide) ?_
          refine ax_icmp_ne B 278 d_Model_readsNode_255 (by decide) ?_ ?_
          · refine ax_aload_n B 1 d_Model_readsNode_278 rfl rfl ?_
            refine ax_getfr B cl_Model (by decide) fk_Model_48 d_Model_readsNode_279 (fun v13 => ?_)
            refine ax_iload_n B 2 d_Model_readsNode_282 rfl rfl ?_
            refine ax_cald (kd := 3) B (by decide) rfl d_Model_readsNode_283 (fun v14 => ?_)
            refine ax_bipush (v := 82) B d_Model_readsNode_284 (by decide) ?_
            refine ax_icmp_ne B 367 d_Model_readsNode_286 (by decide) ?_ ?_
            · refine ax_sub (tv2 := [(3, ax_I 1)]) [0] rfl ?_
              exact Model_readsNode_jq367 hcall B E Nm 1 h
            · refine ax_aload_n B 1 d_Model_readsNode_289 rfl rfl ?_
              refine ax_getfr B cl_Model (by decide) fk_Model_51 d_Model_readsNode_290 (fun v15 => ?_)
              refine ax_iload_n B 2 d_Model_readsNode_293 rfl rfl ?_
              refine ax_iald (kd := 1) B (by decide) rfl d_Model_readsNode_294 (fun v16 => ?_)
              refine ax_istore (tv2 := [(4, ax_I v16), (3, ax_I 1), (0, ax_A x0), (1, ax_I x1), (2, ax_I x2)]) B d_Model_readsNode_295 (by decide) rfl ?_
              refine ax_sub (tv2 := [(0, ax_A x0), (2, ax_I x2), (3, ax_I 1), (4, ax_I v16)]) [2, 4, 1, 0] rfl ?_
              exact Model_readsNode_lq297 hcall B E Nm ax_fuel x0 x2 1 v16 h
          · refine ax_aload_n B 1 d_Model_readsNode_258 rfl rfl ?_
            refine ax_aload_n B 1 d_Model_readsNode_259 rfl rfl ?_
            refine ax_getfr B cl_Model (by decide) fk_Model_51 d_Model_readsNode_260 (fun v27 => ?_)
            refine ax_iload_n B 2 d_Model_readsNode_263 rfl rfl ?_
            refine ax_iald (kd := 1) B (by decide) rfl d_Model_readsNode_264 (fun v28 => ?_)
            refine ax_aload_n B 1 d_Model_readsNode_265 rfl rfl ?_
            refine ax_getfr B cl_Model (by decide) fk_Model_51 d_Model_readsNode_266 (fun v29 => ?_)
            refine ax_iload_n B 3 d_Model_readsNode_269 rfl rfl ?_
            refine ax_iald (kd := 1) B (by decide) rfl d_Model_readsNode_270 (fun v30 => ?_)
            refine ax_callVi (av := [ax_I v28, ax_I v30]) (rest := []) B E hm_Model_knows cl_Model rfl wd_1213 wp_68 lk_Model_280 d_Model_readsNode_271 rfl (Nat.le_of_ble_eq_true rfl) (fun _ _ hh => hcall 183 _ _ _ _ hh) (fun v32 h31 => ?_)
            refine ax_istore_n (tv2 := [(3, ax_I v32), (0, ax_A x0), (1, ax_I x1), (2, ax_I x2)]) B d_Model_readsNode_274 rfl (by decide) rfl ?_
            refine ax_goto B 367 d_Model_readsNode_275 (by decide) ?_
            refine ax_sub (tv2 := [(3, ax_I v32)]) [0] rfl ?_
            exact Model_readsNode_jq367 hcall B E Nm v32 h31
        · refine ax_iconst (v := 0) B d_Model_readsNode_178 (by decide) ?_
          refine ax_istore (tv2 := [(4, ax_I 0), (3, ax_I 1), (0, ax_A x0), (1, ax_I x1), (2, ax_I x2)]) B d_Model_readsNode_179 (by decide) rfl ?_
          refine ax_sub (tv2 := [(0, ax_A x0), (1, ax_I x1), (2, ax_I x2), (3, ax_I 1), (4, ax_I 0)]) [2, 3, 4, 1, 0] rfl ?_
          exact Model_readsNode_lq181 hcall B E Nm ax_fuel x0 x1 x2 1 0 h
      · refine ax_aload_n B 1 d_Model_readsNode_139 rfl rfl ?_
        refine ax_getfr B cl_Model (by decide) fk_Model_48 d_Model_readsNode_140 (fun v43 => ?_)
        refine ax_iload_n B 2 d_Model_readsNode_143 rfl rfl ?_
        refine ax_cald (kd := 3) B (by decide) rfl d_Model_readsNode_144 (fun v44 => ?_)
        refine ax_bipush (v := 76) B d_Model_readsNode_145 (by decide) ?_
        refine ax_icmp_ne B 165 d_Model_readsNode_147 (by decide) ?_ ?_
        · refine ax_iconst (v := 0) B d_Model_readsNode_165 (by decide) ?_
          exact ax_zreturn B d_Model_readsNode_166
        · refine ax_aload_n B 1 d_Model_readsNode_150 rfl rfl ?_
          refine ax_getfr B cl_Model (by decide) fk_Model_48 d_Model_readsNode_151 (fun v45 => ?_)
          refine ax_iload_n B 3 d_Model_readsNode_154 rfl rfl ?_
          refine ax_cald (kd := 3) B (by decide) rfl d_Model_readsNode_155 (fun v46 => ?_)
          refine ax_bipush (v := 73) B d_Model_readsNode_156 (by decide) ?_
          refine ax_icmp_ne B 165 d_Model_readsNode_158 (by decide) ?_ ?_
          · refine ax_iconst (v := 0) B d_Model_readsNode_165 (by decide) ?_
            exact ax_zreturn B d_Model_readsNode_166
          · refine ax_iconst (v := 1) B d_Model_readsNode_161 (by decide) ?_
            refine ax_goto B 166 d_Model_readsNode_162 (by decide) ?_
            exact ax_zreturn B d_Model_readsNode_166
    · refine ax_iconst (v := 0) B d_Model_readsNode_71 (by decide) ?_
      refine ax_istore (tv2 := [(4, ax_I 0), (3, ax_I 1), (0, ax_A x0), (1, ax_I x1), (2, ax_I x2)]) B d_Model_readsNode_72 (by decide) rfl ?_
      refine ax_aload_n B 2 d_Model_readsNode_74 rfl rfl ?_
      refine ax_getfr B cl_Model (by decide) fk_Model_51 d_Model_readsNode_75 (fun v47 => ?_)
      refine ax_iload_n B 3 d_Model_readsNode_78 rfl rfl ?_
      refine ax_iald (kd := 1) B (by decide) rfl d_Model_readsNode_79 (fun v48 => ?_)
      refine ax_istore (tv2 := [(5, ax_I v48), (4, ax_I 0), (3, ax_I 1), (0, ax_A x0), (1, ax_I x1), (2, ax_I x2)]) B d_Model_readsNode_80 (by decide) rfl ?_
      refine ax_sub (tv2 := [(0, ax_A x0), (2, ax_I x2), (4, ax_I 0), (5, ax_I v48)]) [3, 5, 1, 0] rfl ?_
      exact Model_readsNode_lq82 hcall B E Nm ax_fuel x0 x2 0 v48 h
  · refine ax_aload_n B 1 d_Model_readsNode_13 rfl rfl ?_
    refine ax_getfr B cl_Model (by decide) fk_Model_51 d_Model_readsNode_14 (fun v53 => ?_)
    refine ax_iload_n B 3 d_Model_readsNode_17 rfl rfl ?_
    refine ax_iald (kd := 1) B (by decide) rfl d_Model_readsNode_18 (fun v54 => ?_)
    refine ax_istore (tv2 := [(4, ax_I v54), (3, ax_I 1), (0, ax_A x0), (1, ax_I x1), (2, ax_I x2)]) B d_Model_readsNode_19 (by decide) rfl ?_
    refine ax_sub (tv2 := [(0, ax_A x0), (1, ax_I x1), (3, ax_I 1), (4, ax_I v54)]) [2, 3, 1, 0] rfl ?_
    exact Model_readsNode_lq21 hcall B E Nm ax_fuel x0 x1 1 v54 h

theorem d_Model_knows_0 : decode prog_12_method_41_code 0 = .ok (.iload_n 2, 1) := by decide +kernel
theorem d_Model_knows_1 : decode prog_12_method_41_code 1 = .ok (.bipush 120, 2) := by decide +kernel
theorem d_Model_knows_3 : decode prog_12_method_41_code 3 = .ok (.isub, 1) := by decide +kernel
theorem d_Model_knows_4 : decode prog_12_method_41_code 4 = .ok (.istore_n 3, 1) := by decide +kernel
theorem d_Model_knows_5 : decode prog_12_method_41_code 5 = .ok (.aload_n 0, 1) := by decide +kernel
theorem d_Model_knows_6 : decode prog_12_method_41_code 6 = .ok (.getfield 100, 3) := by decide +kernel
theorem d_Model_knows_9 : decode prog_12_method_41_code 9 = .ok (.iconst 2, 1) := by decide +kernel
theorem d_Model_knows_10 : decode prog_12_method_41_code 10 = .ok (.iload_n 1, 1) := by decide +kernel
theorem d_Model_knows_11 : decode prog_12_method_41_code 11 = .ok (.imul, 1) := by decide +kernel
theorem d_Model_knows_12 : decode prog_12_method_41_code 12 = .ok (.iload_n 3, 1) := by decide +kernel
theorem d_Model_knows_13 : decode prog_12_method_41_code 13 = .ok (.bipush 64, 2) := by decide +kernel
theorem d_Model_knows_15 : decode prog_12_method_41_code 15 = .ok (.idiv, 1) := by decide +kernel
theorem d_Model_knows_16 : decode prog_12_method_41_code 16 = .ok (.iadd, 1) := by decide +kernel
theorem d_Model_knows_17 : decode prog_12_method_41_code 17 = .ok (.laload, 1) := by decide +kernel
theorem d_Model_knows_18 : decode prog_12_method_41_code 18 = .ok (.iload_n 3, 1) := by decide +kernel
theorem d_Model_knows_19 : decode prog_12_method_41_code 19 = .ok (.bipush 64, 2) := by decide +kernel
theorem d_Model_knows_21 : decode prog_12_method_41_code 21 = .ok (.irem, 1) := by decide +kernel
theorem d_Model_knows_22 : decode prog_12_method_41_code 22 = .ok (.lshr, 1) := by decide +kernel
theorem d_Model_knows_23 : decode prog_12_method_41_code 23 = .ok (.lconst 1, 1) := by decide +kernel
theorem d_Model_knows_24 : decode prog_12_method_41_code 24 = .ok (.land, 1) := by decide +kernel
theorem d_Model_knows_25 : decode prog_12_method_41_code 25 = .ok (.lconst 1, 1) := by decide +kernel
theorem d_Model_knows_26 : decode prog_12_method_41_code 26 = .ok (.lcmp, 1) := by decide +kernel
theorem d_Model_knows_27 : decode prog_12_method_41_code 27 = .ok (.ifCond .ne 7, 3) := by decide +kernel
theorem d_Model_knows_30 : decode prog_12_method_41_code 30 = .ok (.iconst 1, 1) := by decide +kernel
theorem d_Model_knows_31 : decode prog_12_method_41_code 31 = .ok (.goto 4, 3) := by decide +kernel
theorem d_Model_knows_34 : decode prog_12_method_41_code 34 = .ok (.iconst 0, 1) := by decide +kernel
theorem d_Model_knows_35 : decode prog_12_method_41_code 35 = .ok (.ireturn, 1) := by decide +kernel
def Model_knows_b (call : ax_Cf) (x0 : Option Nat) (x1 : Int32) (x2 : Int32) (h : ax_Hp) : ax_O :=
  (ax_gr h x0 9 42).bind fun v1 =>
  ax_nz 64 <|
  (ax_ldl h v1 2 ((2 * x1) + ((x2 - 120) / 64))).bind fun v2 =>
  ax_nz 64 <|
  if (lg_cmp ((v2 >>> (((x2 - 120) - (x2 - 120) / 64 * 64).toInt64 &&& 63)) &&& 1) 1) = 0 then
    ax_rz 1 h
  else
    ax_rz 0 h
set_option maxHeartbeats 4000000 in
set_option maxRecDepth 20000 in
theorem Model_knows_t {l : Launch} {G : ax_G} {d : Nat} {call : ax_Cf} (hcall : ax_Hc l G d call) (x0 : Option Nat) (x1 : Int32) (x2 : Int32) (h : ax_Hp) {r : ax_Rs} {h' : ax_Hp} (ho : Model_knows_b call x0 x1 x2 h = some (r, h')) : ax_C l G (d + 1) y_Model_knows (.code y_Model_knows prog_12_method_41_code 4 (some (.boolean))) [ax_A x0, ax_I x1, ax_I x2] h r h' := by
  refine ax_enter (by decide) (Nat.le_of_ble_eq_true rfl) ho (fun p e s mi args below meth c B E Nm => ?_)
  have B : ax_B G p s mi meth c "SchemaDeskModel" prog_12_method_41_code 4 (some (.boolean)) := B
  show ax_W G p l e s mi args below meth c 4 (d + 1) h 0 [(0, ax_A x0), (1, ax_I x1), (2, ax_I x2)] [] h (Model_knows_b call x0 x1 x2 h)
  unfold Model_knows_b
  refine ax_iload_n B 2 d_Model_knows_0 rfl rfl ?_
  refine ax_bipush (v := 120) B d_Model_knows_1 (by decide) ?_
  refine ax_isub B d_Model_knows_3 ?_
  refine ax_istore_n (tv2 := [(3, ax_I (x2 - 120)), (0, ax_A x0), (1, ax_I x1), (2, ax_I x2)]) B d_Model_knows_4 rfl (by decide) rfl ?_
  refine ax_aload_n B 1 d_Model_knows_5 rfl rfl ?_
  refine ax_getfr B cl_Model (by decide) fk_Model_100 d_Model_knows_6 (fun v1 => ?_)
  refine ax_iconst (v := 2) B d_Model_knows_9 (by decide) ?_
  refine ax_iload_n B 2 d_Model_knows_10 rfl rfl ?_
  refine ax_imul B d_Model_knows_11 ?_
  refine ax_iload_n B 0 d_Model_knows_12 rfl rfl ?_
  refine ax_bipush (v := 64) B d_Model_knows_13 (by decide) ?_
  refine ax_idiv B d_Model_knows_15 ?_
  refine ax_iadd B d_Model_knows_16 ?_
  refine ax_lald (kd := 2) B (by decide) rfl d_Model_knows_17 (fun v2 => ?_)
  refine ax_iload_n B 0 d_Model_knows_18 rfl rfl ?_
  refine ax_bipush (v := 64) B d_Model_knows_19 (by decide) ?_
  refine ax_irem B d_Model_knows_21 ?_
  refine ax_lshr B d_Model_knows_22 ?_
  refine ax_lconst (v := 1) B d_Model_knows_23 (by decide) ?_
  refine ax_land B d_Model_knows_24 ?_
  refine ax_lconst (v := 1) B d_Model_knows_25 (by decide) ?_
  refine ax_lcmp B d_Model_knows_26 ?_
  refine ax_if_ne B 34 d_Model_knows_27 (by decide) ?_ ?_
  · refine ax_iconst (v := 0) B d_Model_knows_34 (by decide) ?_
    exact ax_zreturn B d_Model_knows_35
  · refine ax_iconst (v := 1) B d_Model_knows_30 (by decide) ?_
    refine ax_goto B 35 d_Model_knows_31 (by decide) ?_
    exact ax_zreturn B d_Model_knows_35

theorem d_Model_fieldOf_0 : decode prog_12_method_42_code 0 = .ok (.iconst (-1), 1) := by decide +kernel
theorem d_Model_fieldOf_1 : decode prog_12_method_42_code 1 = .ok (.istore_n 3, 1) := by decide +kernel
theorem d_Model_fieldOf_2 : decode prog_12_method_42_code 2 = .ok (.aload_n 0, 1) := by decide +kernel
theorem d_Model_fieldOf_3 : decode prog_12_method_42_code 3 = .ok (.getfield 51, 3) := by decide +kernel
theorem d_Model_fieldOf_6 : decode prog_12_method_42_code 6 = .ok (.iload_n 1, 1) := by decide +kernel
theorem d_Model_fieldOf_7 : decode prog_12_method_42_code 7 = .ok (.iaload, 1) := by decide +kernel
theorem d_Model_fieldOf_8 : decode prog_12_method_42_code 8 = .ok (.istore 4, 2) := by decide +kernel
theorem d_Model_fieldOf_10 : decode prog_12_method_42_code 10 = .ok (.iload 4, 2) := by decide +kernel
theorem d_Model_fieldOf_12 : decode prog_12_method_42_code 12 = .ok (.ifCond .lt 33, 3) := by decide +kernel
theorem d_Model_fieldOf_15 : decode prog_12_method_42_code 15 = .ok (.aload_n 0, 1) := by decide +kernel
theorem d_Model_fieldOf_16 : decode prog_12_method_42_code 16 = .ok (.getfield 60, 3) := by decide +kernel
theorem d_Model_fieldOf_19 : decode prog_12_method_42_code 19 = .ok (.iload 4, 2) := by decide +kernel
theorem d_Model_fieldOf_21 : decode prog_12_method_42_code 21 = .ok (.caload, 1) := by decide +kernel
theorem d_Model_fieldOf_22 : decode prog_12_method_42_code 22 = .ok (.iload_n 2, 1) := by decide +kernel
theorem d_Model_fieldOf_23 : decode prog_12_method_42_code 23 = .ok (.if_icmp .ne 8, 3) := by decide +kernel
theorem d_Model_fieldOf_26 : decode prog_12_method_42_code 26 = .ok (.iload 4, 2) := by decide +kernel
theorem d_Model_fieldOf_28 : decode prog_12_method_42_code 28 = .ok (.goto 4, 3) := by decide +kernel
theorem d_Model_fieldOf_31 : decode prog_12_method_42_code 31 = .ok (.iload_n 3, 1) := by decide +kernel
theorem d_Model_fieldOf_32 : decode prog_12_method_42_code 32 = .ok (.istore_n 3, 1) := by decide +kernel
theorem d_Model_fieldOf_33 : decode prog_12_method_42_code 33 = .ok (.aload_n 0, 1) := by decide +kernel
theorem d_Model_fieldOf_34 : decode prog_12_method_42_code 34 = .ok (.getfield 54, 3) := by decide +kernel
theorem d_Model_fieldOf_37 : decode prog_12_method_42_code 37 = .ok (.iload 4, 2) := by decide +kernel
theorem d_Model_fieldOf_39 : decode prog_12_method_42_code 39 = .ok (.iaload, 1) := by decide +kernel
theorem d_Model_fieldOf_40 : decode prog_12_method_42_code 40 = .ok (.istore 4, 2) := by decide +kernel
theorem d_Model_fieldOf_42 : decode prog_12_method_42_code 42 = .ok (.goto (-32), 3) := by decide +kernel
theorem d_Model_fieldOf_45 : decode prog_12_method_42_code 45 = .ok (.iload_n 3, 1) := by decide +kernel
theorem d_Model_fieldOf_46 : decode prog_12_method_42_code 46 = .ok (.ireturn, 1) := by decide +kernel
def Model_fieldOf_jn32 (call : ax_Cf) (k10 : Option Nat → Int32 → Int32 → Int32 → ax_Hp → ax_O) (x0 : Option Nat) (x2 : Int32) (x4 : Int32) (s0 : Int32) (h : ax_Hp) : ax_O :=
  (ax_gr h x0 9 19).bind fun v5 =>
  (ax_ldi h v5 1 x4).bind fun v6 =>
  k10 x0 x2 s0 v6 h
set_option maxHeartbeats 4000000 in
set_option maxRecDepth 20000 in
theorem Model_fieldOf_jq32 {l : Launch} {G : ax_G} {d : Nat} {call : ax_Cf} (hcall : ax_Hc l G d call) {p : Program} {e : Env} {s : State} {mi : MethodId} {args : Array Value} {below : List Frame} {meth : Method} {c : Code} {h0 : ax_Hp} (B : ax_B G p s mi meth c "SchemaDeskModel" prog_12_method_42_code 5 (some (.int))) (E : c.exceptionTable.isEmpty = true) (Nm : meth.name = y_Model_fieldOf.name) (k10 : Option Nat → Int32 → Int32 → Int32 → ax_Hp → ax_O) (hk10 : ∀ (x0 : Option Nat) (x2 : Int32) (x3 : Int32) (x4 : Int32) (h : ax_Hp), ax_W G p l e s mi args below meth c 5 (d + 1) h0 10 [(0, ax_A x0), (2, ax_I x2), (3, ax_I x3), (4, ax_I x4)] [] h (k10 x0 x2 x3 x4 h)) (x0 : Option Nat) (x2 : Int32) (x4 : Int32) (s0 : Int32) (h : ax_Hp) : ax_W G p l e s mi args below meth c 5 (d + 1) h0 32 [(0, ax_A x0), (2, ax_I x2), (4, ax_I x4)] [ax_I s0] h (Model_fieldOf_jn32 call k10 x0 x2 x4 s0 h) := by
  unfold Model_fieldOf_jn32
  refine ax_istore_n (tv2 := [(3, ax_I s0), (0, ax_A x0), (2, ax_I x2), (4, ax_I x4)]) B d_Model_fieldOf_32 rfl (by decide) rfl ?_
  refine ax_aload_n B 1 d_Model_fieldOf_33 rfl rfl ?_
  refine ax_getfr B cl_Model (by decide) fk_Model_54 d_Model_fieldOf_34 (fun v5 => ?_)
  refine ax_iload B 3 d_Model_fieldOf_37 rfl ?_
  refine ax_iald (kd := 1) B (by decide) rfl d_Model_fieldOf_39 (fun v6 => ?_)
  refine ax_istore (tv2 := [(4, ax_I v6), (3, ax_I s0), (0, ax_A x0), (2, ax_I x2)]) B d_Model_fieldOf_40 (by decide) rfl ?_
  refine ax_goto B 10 d_Model_fieldOf_42 (by decide) ?_
  refine ax_sub (tv2 := [(0, ax_A x0), (2, ax_I x2), (3, ax_I s0), (4, ax_I v6)]) [2, 3, 1, 0] rfl ?_
  exact hk10 x0 x2 s0 v6 h
def Model_fieldOf_bd10 (call : ax_Cf)  (k10 : Option Nat → Int32 → Int32 → Int32 → ax_Hp → ax_O) (x0 : Option Nat) (x2 : Int32) (x3 : Int32) (x4 : Int32) (h : ax_Hp) : ax_O :=
  if x4 < 0 then
    ax_ri x3 h
  else
    (ax_gr h x0 9 21).bind fun v3 =>
    (ax_ldi h v3 3 x4).bind fun v4 =>
    if v4 = x2 then
      Model_fieldOf_jn32 call k10 x0 x2 x4 x4 h
    else
      Model_fieldOf_jn32 call k10 x0 x2 x4 x3 h
def Model_fieldOf_lp10 (call : ax_Cf)  : Nat → Option Nat → Int32 → Int32 → Int32 → ax_Hp → ax_O
  | 0 => fun _ _ _ _ _ => none
  | n + 1 => Model_fieldOf_bd10 call  (Model_fieldOf_lp10 call  n)
set_option maxHeartbeats 4000000 in
set_option maxRecDepth 20000 in
theorem Model_fieldOf_lb10 {l : Launch} {G : ax_G} {d : Nat} {call : ax_Cf} (hcall : ax_Hc l G d call) {p : Program} {e : Env} {s : State} {mi : MethodId} {args : Array Value} {below : List Frame} {meth : Method} {c : Code} {h0 : ax_Hp} (B : ax_B G p s mi meth c "SchemaDeskModel" prog_12_method_42_code 5 (some (.int))) (E : c.exceptionTable.isEmpty = true) (Nm : meth.name = y_Model_fieldOf.name)   {k10 : Option Nat → Int32 → Int32 → Int32 → ax_Hp → ax_O} (hk10 : ∀ (x0 : Option Nat) (x2 : Int32) (x3 : Int32) (x4 : Int32) (h : ax_Hp), ax_W G p l e s mi args below meth c 5 (d + 1) h0 10 [(0, ax_A x0), (2, ax_I x2), (3, ax_I x3), (4, ax_I x4)] [] h (k10 x0 x2 x3 x4 h)) (x0 : Option Nat) (x2 : Int32) (x3 : Int32) (x4 : Int32) (h : ax_Hp) : ax_W G p l e s mi args below meth c 5 (d + 1) h0 10 [(0, ax_A x0), (2, ax_I x2), (3, ax_I x3), (4, ax_I x4)] [] h (Model_fieldOf_bd10 call  k10 x0 x2 x3 x4 h) := by
  unfold Model_fieldOf_bd10
  refine ax_iload B 3 d_Model_fieldOf_10 rfl ?_
  refine ax_if_lt B 45 d_Model_fieldOf_12 (by decide) ?_ ?_
  · refine ax_iload_n B 2 d_Model_fieldOf_45 rfl rfl ?_
    exact ax_ireturn B d_Model_fieldOf_46
  · refine ax_aload_n B 0 d_Model_fieldOf_15 rfl rfl ?_
    refine ax_getfr B cl_Model (by decide) fk_Model_60 d_Model_fieldOf_16 (fun v3 => ?_)
    refine ax_iload B 3 d_Model_fieldOf_19 rfl ?_
    refine ax_cald (kd := 3) B (by decide) rfl d_Model_fieldOf_21 (fun v4 => ?_)
    refine ax_iload_n B 1 d_Model_fieldOf_22 rfl rfl ?_
    refine ax_icmp_ne B 31 d_Model_fieldOf_23 (by decide) ?_ ?_
    · refine ax_iload_n B 2 d_Model_fieldOf_31 rfl rfl ?_
      refine ax_sub (tv2 := [(0, ax_A x0), (2, ax_I x2), (4, ax_I x4)]) [0, 1, 3] rfl ?_
      exact Model_fieldOf_jq32 hcall B E Nm k10 hk10 x0 x2 x4 x3 h
    · refine ax_iload B 3 d_Model_fieldOf_26 rfl ?_
      refine ax_goto B 32 d_Model_fieldOf_28 (by decide) ?_
      refine ax_sub (tv2 := [(0, ax_A x0), (2, ax_I x2), (4, ax_I x4)]) [0, 1, 3] rfl ?_
      exact Model_fieldOf_jq32 hcall B E Nm k10 hk10 x0 x2 x4 x4 h
theorem Model_fieldOf_lq10 {l : Launch} {G : ax_G} {d : Nat} {call : ax_Cf} (hcall : ax_Hc l G d call) {p : Program} {e : Env} {s : State} {mi : MethodId} {args : Array Value} {below : List Frame} {meth : Method} {c : Code} {h0 : ax_Hp} (B : ax_B G p s mi meth c "SchemaDeskModel" prog_12_method_42_code 5 (some (.int))) (E : c.exceptionTable.isEmpty = true) (Nm : meth.name = y_Model_fieldOf.name)   : ∀ (n : Nat) (x0 : Option Nat) (x2 : Int32) (x3 : Int32) (x4 : Int32) (h : ax_Hp), ax_W G p l e s mi args below meth c 5 (d + 1) h0 10 [(0, ax_A x0), (2, ax_I x2), (3, ax_I x3), (4, ax_I x4)] [] h (Model_fieldOf_lp10 call  n x0 x2 x3 x4 h)
  | 0, _, _, _, _, _ => ax_none
  | n + 1, x0, x2, x3, x4, h => Model_fieldOf_lb10 hcall B E Nm   (Model_fieldOf_lq10 hcall B E Nm   n) x0 x2 x3 x4 h
def Model_fieldOf_b (call : ax_Cf) (x0 : Option Nat) (x1 : Int32) (x2 : Int32) (h : ax_Hp) : ax_O :=
  (ax_gr h x0 9 18).bind fun v1 =>
  (ax_ldi h v1 1 x1).bind fun v2 =>
  Model_fieldOf_lp10 call ax_fuel x0 x2 (-1) v2 h
set_option maxHeartbeats 4000000 in
set_option maxRecDepth 20000 in
theorem Model_fieldOf_t {l : Launch} {G : ax_G} {d : Nat} {call : ax_Cf} (hcall : ax_Hc l G d call) (x0 : Option Nat) (x1 : Int32) (x2 : Int32) (h : ax_Hp) {r : ax_Rs} {h' : ax_Hp} (ho : Model_fieldOf_b call x0 x1 x2 h = some (r, h')) : ax_C l G (d + 1) y_Model_fieldOf (.code y_Model_fieldOf prog_12_method_42_code 5 (some (.int))) [ax_A x0, ax_I x1, ax_I x2] h r h' := by
  refine ax_enter (by decide) (Nat.le_of_ble_eq_true rfl) ho (fun p e s mi args below meth c B E Nm => ?_)
  have B : ax_B G p s mi meth c "SchemaDeskModel" prog_12_method_42_code 5 (some (.int)) := B
  show ax_W G p l e s mi args below meth c 5 (d + 1) h 0 [(0, ax_A x0), (1, ax_I x1), (2, ax_I x2)] [] h (Model_fieldOf_b call x0 x1 x2 h)
  unfold Model_fieldOf_b
  refine ax_iconst (v := (-1)) B d_Model_fieldOf_0 (by decide) ?_
  refine ax_istore_n (tv2 := [(3, ax_I (-1)), (0, ax_A x0), (1, ax_I x1), (2, ax_I x2)]) B d_Model_fieldOf_1 rfl (by decide) rfl ?_
  refine ax_aload_n B 1 d_Model_fieldOf_2 rfl rfl ?_
  refine ax_getfr B cl_Model (by decide) fk_Model_51 d_Model_fieldOf_3 (fun v1 => ?_)
  refine ax_iload_n B 2 d_Model_fieldOf_6 rfl rfl ?_
  refine ax_iald (kd := 1) B (by decide) rfl d_Model_fieldOf_7 (fun v2 => ?_)
  refine ax_istore (tv2 := [(4, ax_I v2), (3, ax_I (-1)), (0, ax_A x0), (1, ax_I x1), (2, ax_I x2)]) B d_Model_fieldOf_8 (by decide) rfl ?_
  refine ax_sub (tv2 := [(0, ax_A x0), (2, ax_I x2), (3, ax_I (-1)), (4, ax_I v2)]) [2, 4, 1, 0] rfl ?_
  exact Model_fieldOf_lq10 hcall B E Nm ax_fuel x0 x2 (-1) v2 h

theorem d_Model_versions_0 : decode prog_12_method_59_code 0 = .ok (.aload_n 0, 1) := by decide +kernel
theorem d_Model_versions_1 : decode prog_12_method_59_code 1 = .ok (.iload_n 1, 1) := by decide +kernel
theorem d_Model_versions_2 : decode prog_12_method_59_code 2 = .ok (.invokestatic 321, 3) := by decide +kernel
theorem d_Model_versions_5 : decode prog_12_method_59_code 5 = .ok (.ifCond .eq 7, 3) := by decide +kernel
theorem d_Model_versions_8 : decode prog_12_method_59_code 8 = .ok (.iconst 0, 1) := by decide +kernel
theorem d_Model_versions_9 : decode prog_12_method_59_code 9 = .ok (.goto 4, 3) := by decide +kernel
theorem d_Model_versions_12 : decode prog_12_method_59_code 12 = .ok (.iconst 1, 1) := by decide +kernel
theorem d_Model_versions_13 : decode prog_12_method_59_code 13 = .ok (.putfield 119, 3) := by decide +kernel
theorem d_Model_versions_16 : decode prog_12_method_59_code 16 = .ok (.aload_n 0, 1) := by decide +kernel
theorem d_Model_versions_17 : decode prog_12_method_59_code 17 = .ok (.getfield 119, 3) := by decide +kernel
theorem d_Model_versions_20 : decode prog_12_method_59_code 20 = .ok (.ifCond .ne 12, 3) := by decide +kernel
theorem d_Model_versions_23 : decode prog_12_method_59_code 23 = .ok (.aload_n 0, 1) := by decide +kernel
theorem d_Model_versions_24 : decode prog_12_method_59_code 24 = .ok (.getfield 30, 3) := by decide +kernel
theorem d_Model_versions_27 : decode prog_12_method_59_code 27 = .ok (.iload_n 1, 1) := by decide +kernel
theorem d_Model_versions_28 : decode prog_12_method_59_code 28 = .ok (.iaload, 1) := by decide +kernel
theorem d_Model_versions_29 : decode prog_12_method_59_code 29 = .ok (.goto 4, 3) := by decide +kernel
theorem d_Model_versions_32 : decode prog_12_method_59_code 32 = .ok (.iconst 0, 1) := by decide +kernel
theorem d_Model_versions_33 : decode prog_12_method_59_code 33 = .ok (.ireturn, 1) := by decide +kernel
def Model_versions_jn13 (call : ax_Cf)  (x0 : Option Nat) (x1 : Int32) (s0 : Int32) (s1 : Option Nat) (h : ax_Hp) : ax_O :=
  (ax_pf h s1 9 0 (ax_I s0)).bind fun h3 =>
  (ax_gi h3 x0 9 0).bind fun v4 =>
  if v4 = 0 then
    (ax_gr h3 x0 9 11).bind fun v5 =>
    (ax_ldi h3 v5 1 x1).bind fun v6 =>
    ax_ri v6 h3
  else
    ax_ri 0 h3
set_option maxHeartbeats 4000000 in
set_option maxRecDepth 20000 in
theorem Model_versions_jq13 {l : Launch} {G : ax_G} {d : Nat} {call : ax_Cf} (hcall : ax_Hc l G d call) {p : Program} {e : Env} {s : State} {mi : MethodId} {args : Array Value} {below : List Frame} {meth : Method} {c : Code} {h0 : ax_Hp} (B : ax_B G p s mi meth c "SchemaDeskModel" prog_12_method_59_code 2 (some (.int))) (E : c.exceptionTable.isEmpty = true) (Nm : meth.name = y_Model_versions.name)   (x0 : Option Nat) (x1 : Int32) (s0 : Int32) (s1 : Option Nat) (h : ax_Hp) : ax_W G p l e s mi args below meth c 2 (d + 1) h0 13 [(0, ax_A x0), (1, ax_I x1)] [ax_I s0, ax_A s1] h (Model_versions_jn13 call  x0 x1 s0 s1 h) := by
  unfold Model_versions_jn13
  refine ax_putf (v := ax_I s0) B cl_Model (by decide) fk_Model_119 (Or.inl rfl) (fun _ => rfl) (fun _ => rfl) d_Model_versions_13 (fun h3 => ?_)
  refine ax_aload_n B 0 d_Model_versions_16 rfl rfl ?_
  refine ax_getfi B cl_Model (by decide) fk_Model_119 d_Model_versions_17 (fun v4 => ?_)
  refine ax_if_ne B 32 d_Model_versions_20 (by decide) ?_ ?_
  · refine ax_iconst (v := 0) B d_Model_versions_32 (by decide) ?_
    exact ax_ireturn B d_Model_versions_33
  · refine ax_aload_n B 0 d_Model_versions_23 rfl rfl ?_
    refine ax_getfr B cl_Model (by decide) fk_Model_30 d_Model_versions_24 (fun v5 => ?_)
    refine ax_iload_n B 1 d_Model_versions_27 rfl rfl ?_
    refine ax_iald (kd := 1) B (by decide) rfl d_Model_versions_28 (fun v6 => ?_)
    refine ax_goto B 33 d_Model_versions_29 (by decide) ?_
    exact ax_ireturn B d_Model_versions_33
def Model_versions_b (call : ax_Cf) (x0 : Option Nat) (x1 : Int32) (h : ax_Hp) : ax_O :=
  ax_ci (call 150 [ax_I x1] h) fun v2 h1 =>
  if v2 = 0 then
    Model_versions_jn13 call x0 x1 1 x0 h1
  else
    Model_versions_jn13 call x0 x1 0 x0 h1
set_option maxHeartbeats 4000000 in
set_option maxRecDepth 20000 in
theorem Model_versions_t {l : Launch} {G : ax_G} {d : Nat} {call : ax_Cf} (hcall : ax_Hc l G d call) (x0 : Option Nat) (x1 : Int32) (h : ax_Hp) {r : ax_Rs} {h' : ax_Hp} (ho : Model_versions_b call x0 x1 h = some (r, h')) : ax_C l G (d + 1) y_Model_versions (.code y_Model_versions prog_12_method_59_code 2 (some (.int))) [ax_A x0, ax_I x1] h r h' := by
  refine ax_enter (by decide) (Nat.le_of_ble_eq_true rfl) ho (fun p e s mi args below meth c B E Nm => ?_)
  have B : ax_B G p s mi meth c "SchemaDeskModel" prog_12_method_59_code 2 (some (.int)) := B
  show ax_W G p l e s mi args below meth c 2 (d + 1) h 0 [(0, ax_A x0), (1, ax_I x1)] [] h (Model_versions_b call x0 x1 h)
  unfold Model_versions_b
  refine ax_aload_n B 0 d_Model_versions_0 rfl rfl ?_
  refine ax_iload_n B 1 d_Model_versions_1 rfl rfl ?_
  refine ax_callSi (av := [ax_I x1]) (rest := [ax_A x0]) B E hm_Model_isSubject wd_1076 lk_Model_321 d_Model_versions_2 rfl (Nat.le_of_ble_eq_true rfl) (fun _ _ hh => hcall 150 _ _ _ _ hh) (fun v2 h1 => ?_)
  refine ax_if_eq B 12 d_Model_versions_5 (by decide) ?_ ?_
  · refine ax_iconst (v := 1) B d_Model_versions_12 (by decide) ?_
    refine ax_sub (tv2 := [(0, ax_A x0), (1, ax_I x1)]) [0, 1] rfl ?_
    exact Model_versions_jq13 hcall B E Nm x0 x1 1 x0 h1
  · refine ax_iconst (v := 0) B d_Model_versions_8 (by decide) ?_
    refine ax_goto B 13 d_Model_versions_9 (by decide) ?_
    refine ax_sub (tv2 := [(0, ax_A x0), (1, ax_I x1)]) [0, 1] rfl ?_
    exact Model_versions_jq13 hcall B E Nm x0 x1 0 x0 h1

theorem d_Model_reads_0 : decode prog_12_method_60_code 0 = .ok (.aload_n 0, 1) := by decide +kernel
theorem d_Model_reads_1 : decode prog_12_method_60_code 1 = .ok (.aload_n 0, 1) := by decide +kernel
theorem d_Model_reads_2 : decode prog_12_method_60_code 2 = .ok (.iload_n 1, 1) := by decide +kernel
theorem d_Model_reads_3 : decode prog_12_method_60_code 3 = .ok (.iload_n 2, 1) := by decide +kernel
theorem d_Model_reads_4 : decode prog_12_method_60_code 4 = .ok (.invokevirtual 344, 3) := by decide +kernel
theorem d_Model_reads_7 : decode prog_12_method_60_code 7 = .ok (.ifCond .eq 16, 3) := by decide +kernel
theorem d_Model_reads_10 : decode prog_12_method_60_code 10 = .ok (.aload_n 0, 1) := by decide +kernel
theorem d_Model_reads_11 : decode prog_12_method_60_code 11 = .ok (.iload_n 1, 1) := by decide +kernel
theorem d_Model_reads_12 : decode prog_12_method_60_code 12 = .ok (.iload_n 3, 1) := by decide +kernel
theorem d_Model_reads_13 : decode prog_12_method_60_code 13 = .ok (.invokevirtual 344, 3) := by decide +kernel
theorem d_Model_reads_16 : decode prog_12_method_60_code 16 = .ok (.ifCond .eq 7, 3) := by decide +kernel
theorem d_Model_reads_19 : decode prog_12_method_60_code 19 = .ok (.iconst 0, 1) := by decide +kernel
theorem d_Model_reads_20 : decode prog_12_method_60_code 20 = .ok (.goto 4, 3) := by decide +kernel
theorem d_Model_reads_23 : decode prog_12_method_60_code 23 = .ok (.iconst 1, 1) := by decide +kernel
theorem d_Model_reads_24 : decode prog_12_method_60_code 24 = .ok (.putfield 119, 3) := by decide +kernel
theorem d_Model_reads_27 : decode prog_12_method_60_code 27 = .ok (.aload_n 0, 1) := by decide +kernel
theorem d_Model_reads_28 : decode prog_12_method_60_code 28 = .ok (.getfield 119, 3) := by decide +kernel
theorem d_Model_reads_31 : decode prog_12_method_60_code 31 = .ok (.ifCond .le 5, 3) := by decide +kernel
theorem d_Model_reads_34 : decode prog_12_method_60_code 34 = .ok (.iconst 0, 1) := by decide +kernel
theorem d_Model_reads_35 : decode prog_12_method_60_code 35 = .ok (.ireturn, 1) := by decide +kernel
theorem d_Model_reads_36 : decode prog_12_method_60_code 36 = .ok (.aload_n 0, 1) := by decide +kernel
theorem d_Model_reads_37 : decode prog_12_method_60_code 37 = .ok (.iconst 0, 1) := by decide +kernel
theorem d_Model_reads_38 : decode prog_12_method_60_code 38 = .ok (.bipush 6, 2) := by decide +kernel
theorem d_Model_reads_40 : decode prog_12_method_60_code 40 = .ok (.iload_n 1, 1) := by decide +kernel
theorem d_Model_reads_41 : decode prog_12_method_60_code 41 = .ok (.imul, 1) := by decide +kernel
theorem d_Model_reads_42 : decode prog_12_method_60_code 42 = .ok (.iload_n 2, 1) := by decide +kernel
theorem d_Model_reads_43 : decode prog_12_method_60_code 43 = .ok (.iadd, 1) := by decide +kernel
theorem d_Model_reads_44 : decode prog_12_method_60_code 44 = .ok (.invokevirtual 331, 3) := by decide +kernel
theorem d_Model_reads_47 : decode prog_12_method_60_code 47 = .ok (.aload_n 0, 1) := by decide +kernel
theorem d_Model_reads_48 : decode prog_12_method_60_code 48 = .ok (.iconst 1, 1) := by decide +kernel
theorem d_Model_reads_49 : decode prog_12_method_60_code 49 = .ok (.bipush 6, 2) := by decide +kernel
theorem d_Model_reads_51 : decode prog_12_method_60_code 51 = .ok (.iload_n 1, 1) := by decide +kernel
theorem d_Model_reads_52 : decode prog_12_method_60_code 52 = .ok (.imul, 1) := by decide +kernel
theorem d_Model_reads_53 : decode prog_12_method_60_code 53 = .ok (.iload_n 3, 1) := by decide +kernel
theorem d_Model_reads_54 : decode prog_12_method_60_code 54 = .ok (.iadd, 1) := by decide +kernel
theorem d_Model_reads_55 : decode prog_12_method_60_code 55 = .ok (.invokevirtual 331, 3) := by decide +kernel
theorem d_Model_reads_58 : decode prog_12_method_60_code 58 = .ok (.aload_n 0, 1) := by decide +kernel
theorem d_Model_reads_59 : decode prog_12_method_60_code 59 = .ok (.invokevirtual 334, 3) := by decide +kernel
theorem d_Model_reads_62 : decode prog_12_method_60_code 62 = .ok (.ireturn, 1) := by decide +kernel
def Model_reads_jn24 (call : ax_Cf)  (x0 : Option Nat) (x1 : Int32) (x2 : Int32) (x3 : Int32) (s0 : Int32) (s1 : Option Nat) (h : ax_Hp) : ax_O :=
  (ax_pf h s1 9 0 (ax_I s0)).bind fun h3 =>
  (ax_gi h3 x0 9 0).bind fun v4 =>
  if v4 ≤ 0 then
    ax_on h3 x0 9 <| ax_cv (call 180 [ax_A x0, ax_I 0, ax_I ((6 * x1) + x2)] h3) fun h5 =>
    ax_on h5 x0 9 <| ax_cv (call 180 [ax_A x0, ax_I 1, ax_I ((6 * x1) + x3)] h5) fun h7 =>
    ax_on h7 x0 9 <| ax_ci (call 181 [ax_A x0] h7) fun v10 h9 =>
    ax_rz v10 h9
  else
    ax_rz 0 h3
set_option maxHeartbeats 4000000 in
set_option maxRecDepth 20000 in
theorem Model_reads_jq24 {l : Launch} {G : ax_G} {d : Nat} {call : ax_Cf} (hcall : ax_Hc l G d call) {p : Program} {e : Env} {s : State} {mi : MethodId} {args : Array Value} {below : List Frame} {meth : Method} {c : Code} {h0 : ax_Hp} (B : ax_B G p s mi meth c "SchemaDeskModel" prog_12_method_60_code 4 (some (.boolean))) (E : c.exceptionTable.isEmpty = true) (Nm : meth.name = y_Model_reads.name)   (x0 : Option Nat) (x1 : Int32) (x2 : Int32) (x3 : Int32) (s0 : Int32) (s1 : Option Nat) (h : ax_Hp) : ax_W G p l e s mi args below meth c 4 (d + 1) h0 24 [(0, ax_A x0), (1, ax_I x1), (2, ax_I x2), (3, ax_I x3)] [ax_I s0, ax_A s1] h (Model_reads_jn24 call  x0 x1 x2 x3 s0 s1 h) := by
  unfold Model_reads_jn24
  refine ax_putf (v := ax_I s0) B cl_Model (by decide) fk_Model_119 (Or.inl rfl) (fun _ => rfl) (fun _ => rfl) d_Model_reads_24 (fun h3 => ?_)
  refine ax_aload_n B 0 d_Model_reads_27 rfl rfl ?_
  refine ax_getfi B cl_Model (by decide) fk_Model_119 d_Model_reads_28 (fun v4 => ?_)
  refine ax_if_le B 36 d_Model_reads_31 (by decide) ?_ ?_
  · refine ax_aload_n B 0 d_Model_reads_36 rfl rfl ?_
    refine ax_iconst (v := 0) B d_Model_reads_37 (by decide) ?_
    refine ax_bipush (v := 6) B d_Model_reads_38 (by decide) ?_
    refine ax_iload_n B 1 d_Model_reads_40 rfl rfl ?_
    refine ax_imul B d_Model_reads_41 ?_
    refine ax_iload_n B 2 d_Model_reads_42 rfl rfl ?_
    refine ax_iadd B d_Model_reads_43 ?_
    refine ax_callVv (av := [ax_I 0, ax_I ((6 * x1) + x2)]) (rest := []) B E hm_Model_load cl_Model rfl wd_1201 wp_65 lk_Model_331 d_Model_reads_44 rfl (Nat.le_of_ble_eq_true rfl) (fun _ _ hh => hcall 180 _ _ _ _ hh) (fun h5 => ?_)
    refine ax_aload_n B 0 d_Model_reads_47 rfl rfl ?_
    refine ax_iconst (v := 1) B d_Model_reads_48 (by decide) ?_
    refine ax_bipush (v := 6) B d_Model_reads_49 (by decide) ?_
    refine ax_iload_n B 1 d_Model_reads_51 rfl rfl ?_
    refine ax_imul B d_Model_reads_52 ?_
    refine ax_iload_n B 3 d_Model_reads_53 rfl rfl ?_
    refine ax_iadd B d_Model_reads_54 ?_
    refine ax_callVv (av := [ax_I 1, ax_I ((6 * x1) + x3)]) (rest := []) B E hm_Model_load cl_Model rfl wd_1201 wp_65 lk_Model_331 d_Model_reads_55 rfl (Nat.le_of_ble_eq_true rfl) (fun _ _ hh => hcall 180 _ _ _ _ hh) (fun h7 => ?_)
    refine ax_aload_n B 0 d_Model_reads_58 rfl rfl ?_
    refine ax_callVi (av := []) (rest := []) B E hm_Model_compare cl_Model rfl wd_1205 wp_66 lk_Model_334 d_Model_reads_59 rfl (Nat.le_of_ble_eq_true rfl) (fun _ _ hh => hcall 181 _ _ _ _ hh) (fun v10 h9 => ?_)
    exact ax_zreturn B d_Model_reads_62
  · refine ax_iconst (v := 0) B d_Model_reads_34 (by decide) ?_
    exact ax_zreturn B d_Model_reads_35
def Model_reads_jn23 (call : ax_Cf)  (x0 : Option Nat) (x1 : Int32) (x2 : Int32) (x3 : Int32) (s0 : Option Nat) (h : ax_Hp) : ax_O :=
  Model_reads_jn24 call x0 x1 x2 x3 1 s0 h
set_option maxHeartbeats 4000000 in
set_option maxRecDepth 20000 in
theorem Model_reads_jq23 {l : Launch} {G : ax_G} {d : Nat} {call : ax_Cf} (hcall : ax_Hc l G d call) {p : Program} {e : Env} {s : State} {mi : MethodId} {args : Array Value} {below : List Frame} {meth : Method} {c : Code} {h0 : ax_Hp} (B : ax_B G p s mi meth c "SchemaDeskModel" prog_12_method_60_code 4 (some (.boolean))) (E : c.exceptionTable.isEmpty = true) (Nm : meth.name = y_Model_reads.name)   (x0 : Option Nat) (x1 : Int32) (x2 : Int32) (x3 : Int32) (s0 : Option Nat) (h : ax_Hp) : ax_W G p l e s mi args below meth c 4 (d + 1) h0 23 [(0, ax_A x0), (1, ax_I x1), (2, ax_I x2), (3, ax_I x3)] [ax_A s0] h (Model_reads_jn23 call  x0 x1 x2 x3 s0 h) := by
  unfold Model_reads_jn23
  refine ax_iconst (v := 1) B d_Model_reads_23 (by decide) ?_
  refine ax_sub (tv2 := [(0, ax_A x0), (1, ax_I x1), (2, ax_I x2), (3, ax_I x3)]) [0, 1, 2, 3] rfl ?_
  exact Model_reads_jq24 hcall B E Nm x0 x1 x2 x3 1 s0 h
def Model_reads_b (call : ax_Cf) (x0 : Option Nat) (x1 : Int32) (x2 : Int32) (x3 : Int32) (h : ax_Hp) : ax_O :=
  ax_on h x0 9 <| ax_ci (call 187 [ax_A x0, ax_I x1, ax_I x2] h) fun v2 h1 =>
  if v2 = 0 then
    Model_reads_jn23 call x0 x1 x2 x3 x0 h1
  else
    ax_on h1 x0 9 <| ax_ci (call 187 [ax_A x0, ax_I x1, ax_I x3] h1) fun v12 h11 =>
    if v12 = 0 then
      Model_reads_jn23 call x0 x1 x2 x3 x0 h11
    else
      Model_reads_jn24 call x0 x1 x2 x3 0 x0 h11
set_option maxHeartbeats 4000000 in
set_option maxRecDepth 20000 in
theorem Model_reads_t {l : Launch} {G : ax_G} {d : Nat} {call : ax_Cf} (hcall : ax_Hc l G d call) (x0 : Option Nat) (x1 : Int32) (x2 : Int32) (x3 : Int32) (h : ax_Hp) {r : ax_Rs} {h' : ax_Hp} (ho : Model_reads_b call x0 x1 x2 x3 h = some (r, h')) : ax_C l G (d + 1) y_Model_reads (.code y_Model_reads prog_12_method_60_code 4 (some (.boolean))) [ax_A x0, ax_I x1, ax_I x2, ax_I x3] h r h' := by
  refine ax_enter (by decide) (Nat.le_of_ble_eq_true rfl) ho (fun p e s mi args below meth c B E Nm => ?_)
  have B : ax_B G p s mi meth c "SchemaDeskModel" prog_12_method_60_code 4 (some (.boolean)) := B
  show ax_W G p l e s mi args below meth c 4 (d + 1) h 0 [(0, ax_A x0), (1, ax_I x1), (2, ax_I x2), (3, ax_I x3)] [] h (Model_reads_b call x0 x1 x2 x3 h)
  unfold Model_reads_b
  refine ax_aload_n B 0 d_Model_reads_0 rfl rfl ?_
  refine ax_aload_n B 0 d_Model_reads_1 rfl rfl ?_
  refine ax_iload_n B 1 d_Model_reads_2 rfl rfl ?_
  refine ax_iload_n B 2 d_Model_reads_3 rfl rfl ?_
  refine ax_callVi (av := [ax_I x1, ax_I x2]) (rest := [ax_A x0]) B E hm_Model_isVersion cl_Model rfl wd_1229 wp_70 lk_Model_344 d_Model_reads_4 rfl (Nat.le_of_ble_eq_true rfl) (fun _ _ hh => hcall 187 _ _ _ _ hh) (fun v2 h1 => ?_)
  refine ax_if_eq B 23 d_Model_reads_7 (by decide) ?_ ?_
  · refine ax_sub (tv2 := [(0, ax_A x0), (1, ax_I x1), (2, ax_I x2), (3, ax_I x3)]) [0, 1, 2, 3] rfl ?_
    exact Model_reads_jq23 hcall B E Nm x0 x1 x2 x3 x0 h1
  · refine ax_aload_n B 0 d_Model_reads_10 rfl rfl ?_
    refine ax_iload_n B 1 d_Model_reads_11 rfl rfl ?_
    refine ax_iload_n B 3 d_Model_reads_12 rfl rfl ?_
    refine ax_callVi (av := [ax_I x1, ax_I x3]) (rest := [ax_A x0]) B E hm_Model_isVersion cl_Model rfl wd_1229 wp_70 lk_Model_344 d_Model_reads_13 rfl (Nat.le_of_ble_eq_true rfl) (fun _ _ hh => hcall 187 _ _ _ _ hh) (fun v12 h11 => ?_)
    refine ax_if_eq B 23 d_Model_reads_16 (by decide) ?_ ?_
    · refine ax_sub (tv2 := [(0, ax_A x0), (1, ax_I x1), (2, ax_I x2), (3, ax_I x3)]) [0, 1, 2, 3] rfl ?_
      exact Model_reads_jq23 hcall B E Nm x0 x1 x2 x3 x0 h11
    · refine ax_iconst (v := 0) B d_Model_reads_19 (by decide) ?_
      refine ax_goto B 24 d_Model_reads_20 (by decide) ?_
      refine ax_sub (tv2 := [(0, ax_A x0), (1, ax_I x1), (2, ax_I x2), (3, ax_I x3)]) [0, 1, 2, 3] rfl ?_
      exact Model_reads_jq24 hcall B E Nm x0 x1 x2 x3 0 x0 h11

theorem d_Model_isVersion_0 : decode prog_12_method_52_code 0 = .ok (.iload_n 1, 1) := by decide +kernel
theorem d_Model_isVersion_1 : decode prog_12_method_52_code 1 = .ok (.invokestatic 321, 3) := by decide +kernel
theorem d_Model_isVersion_4 : decode prog_12_method_52_code 4 = .ok (.ifCond .eq 21, 3) := by decide +kernel
theorem d_Model_isVersion_7 : decode prog_12_method_52_code 7 = .ok (.iload_n 2, 1) := by decide +kernel
theorem d_Model_isVersion_8 : decode prog_12_method_52_code 8 = .ok (.ifCond .lt 17, 3) := by decide +kernel
theorem d_Model_isVersion_11 : decode prog_12_method_52_code 11 = .ok (.iload_n 2, 1) := by decide +kernel
theorem d_Model_isVersion_12 : decode prog_12_method_52_code 12 = .ok (.aload_n 0, 1) := by decide +kernel
theorem d_Model_isVersion_13 : decode prog_12_method_52_code 13 = .ok (.getfield 30, 3) := by decide +kernel
theorem d_Model_isVersion_16 : decode prog_12_method_52_code 16 = .ok (.iload_n 1, 1) := by decide +kernel
theorem d_Model_isVersion_17 : decode prog_12_method_52_code 17 = .ok (.iaload, 1) := by decide +kernel
theorem d_Model_isVersion_18 : decode prog_12_method_52_code 18 = .ok (.if_icmp .ge 7, 3) := by decide +kernel
theorem d_Model_isVersion_21 : decode prog_12_method_52_code 21 = .ok (.iconst 1, 1) := by decide +kernel
theorem d_Model_isVersion_22 : decode prog_12_method_52_code 22 = .ok (.goto 4, 3) := by decide +kernel
theorem d_Model_isVersion_25 : decode prog_12_method_52_code 25 = .ok (.iconst 0, 1) := by decide +kernel
theorem d_Model_isVersion_26 : decode prog_12_method_52_code 26 = .ok (.ireturn, 1) := by decide +kernel
def Model_isVersion_b (call : ax_Cf) (x0 : Option Nat) (x1 : Int32) (x2 : Int32) (h : ax_Hp) : ax_O :=
  ax_ci (call 150 [ax_I x1] h) fun v2 h1 =>
  if v2 = 0 then
    ax_rz 0 h1
  else
    if x2 < 0 then
      ax_rz 0 h1
    else
      (ax_gr h1 x0 9 11).bind fun v3 =>
      (ax_ldi h1 v3 1 x1).bind fun v4 =>
      if v4 ≤ x2 then
        ax_rz 0 h1
      else
        ax_rz 1 h1
set_option maxHeartbeats 4000000 in
set_option maxRecDepth 20000 in
theorem Model_isVersion_t {l : Launch} {G : ax_G} {d : Nat} {call : ax_Cf} (hcall : ax_Hc l G d call) (x0 : Option Nat) (x1 : Int32) (x2 : Int32) (h : ax_Hp) {r : ax_Rs} {h' : ax_Hp} (ho : Model_isVersion_b call x0 x1 x2 h = some (r, h')) : ax_C l G (d + 1) y_Model_isVersion (.code y_Model_isVersion prog_12_method_52_code 3 (some (.boolean))) [ax_A x0, ax_I x1, ax_I x2] h r h' := by
  refine ax_enter (by decide) (Nat.le_of_ble_eq_true rfl) ho (fun p e s mi args below meth c B E Nm => ?_)
  have B : ax_B G p s mi meth c "SchemaDeskModel" prog_12_method_52_code 3 (some (.boolean)) := B
  show ax_W G p l e s mi args below meth c 3 (d + 1) h 0 [(0, ax_A x0), (1, ax_I x1), (2, ax_I x2)] [] h (Model_isVersion_b call x0 x1 x2 h)
  unfold Model_isVersion_b
  refine ax_iload_n B 1 d_Model_isVersion_0 rfl rfl ?_
  refine ax_callSi (av := [ax_I x1]) (rest := []) B E hm_Model_isSubject wd_1076 lk_Model_321 d_Model_isVersion_1 rfl (Nat.le_of_ble_eq_true rfl) (fun _ _ hh => hcall 150 _ _ _ _ hh) (fun v2 h1 => ?_)
  refine ax_if_eq B 25 d_Model_isVersion_4 (by decide) ?_ ?_
  · refine ax_iconst (v := 0) B d_Model_isVersion_25 (by decide) ?_
    exact ax_zreturn B d_Model_isVersion_26
  · refine ax_iload_n B 2 d_Model_isVersion_7 rfl rfl ?_
    refine ax_if_lt B 25 d_Model_isVersion_8 (by decide) ?_ ?_
    · refine ax_iconst (v := 0) B d_Model_isVersion_25 (by decide) ?_
      exact ax_zreturn B d_Model_isVersion_26
    · refine ax_iload_n B 2 d_Model_isVersion_11 rfl rfl ?_
      refine ax_aload_n B 0 d_Model_isVersion_12 rfl rfl ?_
      refine ax_getfr B cl_Model (by decide) fk_Model_30 d_Model_isVersion_13 (fun v3 => ?_)
      refine ax_iload_n B 1 d_Model_isVersion_16 rfl rfl ?_
      refine ax_iald (kd := 1) B (by decide) rfl d_Model_isVersion_17 (fun v4 => ?_)
      refine ax_icmp_ge B 25 d_Model_isVersion_18 (by decide) ?_ ?_
      · refine ax_iconst (v := 0) B d_Model_isVersion_25 (by decide) ?_
        exact ax_zreturn B d_Model_isVersion_26
      · refine ax_iconst (v := 1) B d_Model_isVersion_21 (by decide) ?_
        refine ax_goto B 26 d_Model_isVersion_22 (by decide) ?_
        exact ax_zreturn B d_Model_isVersion_26

theorem d_Model_print_0 : decode prog_12_method_62_code 0 = .ok (.aload_n 0, 1) := by decide +kernel
theorem d_Model_print_1 : decode prog_12_method_62_code 1 = .ok (.aload_n 0, 1) := by decide +kernel
theorem d_Model_print_2 : decode prog_12_method_62_code 2 = .ok (.iload_n 1, 1) := by decide +kernel
theorem d_Model_print_3 : decode prog_12_method_62_code 3 = .ok (.iload_n 2, 1) := by decide +kernel
theorem d_Model_print_4 : decode prog_12_method_62_code 4 = .ok (.invokevirtual 344, 3) := by decide +kernel
theorem d_Model_print_7 : decode prog_12_method_62_code 7 = .ok (.ifCond .eq 7, 3) := by decide +kernel
theorem d_Model_print_10 : decode prog_12_method_62_code 10 = .ok (.iconst 0, 1) := by decide +kernel
theorem d_Model_print_11 : decode prog_12_method_62_code 11 = .ok (.goto 4, 3) := by decide +kernel
theorem d_Model_print_14 : decode prog_12_method_62_code 14 = .ok (.iconst 1, 1) := by decide +kernel
theorem d_Model_print_15 : decode prog_12_method_62_code 15 = .ok (.putfield 119, 3) := by decide +kernel
theorem d_Model_print_18 : decode prog_12_method_62_code 18 = .ok (.aload_n 0, 1) := by decide +kernel
theorem d_Model_print_19 : decode prog_12_method_62_code 19 = .ok (.getfield 119, 3) := by decide +kernel
theorem d_Model_print_22 : decode prog_12_method_62_code 22 = .ok (.ifCond .le 5, 3) := by decide +kernel
theorem d_Model_print_25 : decode prog_12_method_62_code 25 = .ok (.iconst 0, 1) := by decide +kernel
theorem d_Model_print_26 : decode prog_12_method_62_code 26 = .ok (.ireturn, 1) := by decide +kernel
theorem d_Model_print_27 : decode prog_12_method_62_code 27 = .ok (.aload_n 0, 1) := by decide +kernel
theorem d_Model_print_28 : decode prog_12_method_62_code 28 = .ok (.bipush 6, 2) := by decide +kernel
theorem d_Model_print_30 : decode prog_12_method_62_code 30 = .ok (.iload_n 1, 1) := by decide +kernel
theorem d_Model_print_31 : decode prog_12_method_62_code 31 = .ok (.imul, 1) := by decide +kernel
theorem d_Model_print_32 : decode prog_12_method_62_code 32 = .ok (.iload_n 2, 1) := by decide +kernel
theorem d_Model_print_33 : decode prog_12_method_62_code 33 = .ok (.iadd, 1) := by decide +kernel
theorem d_Model_print_34 : decode prog_12_method_62_code 34 = .ok (.iload_n 3, 1) := by decide +kernel
theorem d_Model_print_35 : decode prog_12_method_62_code 35 = .ok (.invokevirtual 347, 3) := by decide +kernel
theorem d_Model_print_38 : decode prog_12_method_62_code 38 = .ok (.aload_n 0, 1) := by decide +kernel
theorem d_Model_print_39 : decode prog_12_method_62_code 39 = .ok (.invokevirtual 351, 3) := by decide +kernel
theorem d_Model_print_42 : decode prog_12_method_62_code 42 = .ok (.ireturn, 1) := by decide +kernel
def Model_print_jn15 (call : ax_Cf)  (x0 : Option Nat) (x1 : Int32) (x2 : Int32) (x3 : Int32) (s0 : Int32) (s1 : Option Nat) (h : ax_Hp) : ax_O :=
  (ax_pf h s1 9 0 (ax_I s0)).bind fun h3 =>
  (ax_gi h3 x0 9 0).bind fun v4 =>
  if v4 ≤ 0 then
    ax_on h3 x0 9 <| ax_cv (call 189 [ax_A x0, ax_I ((6 * x1) + x2), ax_I x3] h3) fun h5 =>
    ax_on h5 x0 9 <| ax_ci (call 190 [ax_A x0] h5) fun v8 h7 =>
    ax_ri v8 h7
  else
    ax_ri 0 h3
set_option maxHeartbeats 4000000 in
set_option maxRecDepth 20000 in
theorem Model_print_jq15 {l : Launch} {G : ax_G} {d : Nat} {call : ax_Cf} (hcall : ax_Hc l G d call) {p : Program} {e : Env} {s : State} {mi : MethodId} {args : Array Value} {below : List Frame} {meth : Method} {c : Code} {h0 : ax_Hp} (B : ax_B G p s mi meth c "SchemaDeskModel" prog_12_method_62_code 4 (some (.int))) (E : c.exceptionTable.isEmpty = true) (Nm : meth.name = y_Model_print.name)   (x0 : Option Nat) (x1 : Int32) (x2 : Int32) (x3 : Int32) (s0 : Int32) (s1 : Option Nat) (h : ax_Hp) : ax_W G p l e s mi args below meth c 4 (d + 1) h0 15 [(0, ax_A x0), (1, ax_I x1), (2, ax_I x2), (3, ax_I x3)] [ax_I s0, ax_A s1] h (Model_print_jn15 call  x0 x1 x2 x3 s0 s1 h) := by
  unfold Model_print_jn15
  refine ax_putf (v := ax_I s0) B cl_Model (by decide) fk_Model_119 (Or.inl rfl) (fun _ => rfl) (fun _ => rfl) d_Model_print_15 (fun h3 => ?_)
  refine ax_aload_n B 0 d_Model_print_18 rfl rfl ?_
  refine ax_getfi B cl_Model (by decide) fk_Model_119 d_Model_print_19 (fun v4 => ?_)
  refine ax_if_le B 27 d_Model_print_22 (by decide) ?_ ?_
  · refine ax_aload_n B 0 d_Model_print_27 rfl rfl ?_
    refine ax_bipush (v := 6) B d_Model_print_28 (by decide) ?_
    refine ax_iload_n B 1 d_Model_print_30 rfl rfl ?_
    refine ax_imul B d_Model_print_31 ?_
    refine ax_iload_n B 2 d_Model_print_32 rfl rfl ?_
    refine ax_iadd B d_Model_print_33 ?_
    refine ax_iload_n B 3 d_Model_print_34 rfl rfl ?_
    refine ax_callVv (av := [ax_I ((6 * x1) + x2), ax_I x3]) (rest := []) B E hm_Model_draftText cl_Model rfl wd_1237 wp_71 lk_Model_347 d_Model_print_35 rfl (Nat.le_of_ble_eq_true rfl) (fun _ _ hh => hcall 189 _ _ _ _ hh) (fun h5 => ?_)
    refine ax_aload_n B 0 d_Model_print_38 rfl rfl ?_
    refine ax_callVi (av := []) (rest := []) B E hm_Model_keep cl_Model rfl wd_1241 wp_72 lk_Model_351 d_Model_print_39 rfl (Nat.le_of_ble_eq_true rfl) (fun _ _ hh => hcall 190 _ _ _ _ hh) (fun v8 h7 => ?_)
    exact ax_ireturn B d_Model_print_42
  · refine ax_iconst (v := 0) B d_Model_print_25 (by decide) ?_
    exact ax_ireturn B d_Model_print_26
def Model_print_b (call : ax_Cf) (x0 : Option Nat) (x1 : Int32) (x2 : Int32) (x3 : Int32) (h : ax_Hp) : ax_O :=
  ax_on h x0 9 <| ax_ci (call 187 [ax_A x0, ax_I x1, ax_I x2] h) fun v2 h1 =>
  if v2 = 0 then
    Model_print_jn15 call x0 x1 x2 x3 1 x0 h1
  else
    Model_print_jn15 call x0 x1 x2 x3 0 x0 h1
set_option maxHeartbeats 4000000 in
set_option maxRecDepth 20000 in
theorem Model_print_t {l : Launch} {G : ax_G} {d : Nat} {call : ax_Cf} (hcall : ax_Hc l G d call) (x0 : Option Nat) (x1 : Int32) (x2 : Int32) (x3 : Int32) (h : ax_Hp) {r : ax_Rs} {h' : ax_Hp} (ho : Model_print_b call x0 x1 x2 x3 h = some (r, h')) : ax_C l G (d + 1) y_Model_print (.code y_Model_print prog_12_method_62_code 4 (some (.int))) [ax_A x0, ax_I x1, ax_I x2, ax_I x3] h r h' := by
  refine ax_enter (by decide) (Nat.le_of_ble_eq_true rfl) ho (fun p e s mi args below meth c B E Nm => ?_)
  have B : ax_B G p s mi meth c "SchemaDeskModel" prog_12_method_62_code 4 (some (.int)) := B
  show ax_W G p l e s mi args below meth c 4 (d + 1) h 0 [(0, ax_A x0), (1, ax_I x1), (2, ax_I x2), (3, ax_I x3)] [] h (Model_print_b call x0 x1 x2 x3 h)
  unfold Model_print_b
  refine ax_aload_n B 0 d_Model_print_0 rfl rfl ?_
  refine ax_aload_n B 0 d_Model_print_1 rfl rfl ?_
  refine ax_iload_n B 1 d_Model_print_2 rfl rfl ?_
  refine ax_iload_n B 2 d_Model_print_3 rfl rfl ?_
  refine ax_callVi (av := [ax_I x1, ax_I x2]) (rest := [ax_A x0]) B E hm_Model_isVersion cl_Model rfl wd_1229 wp_70 lk_Model_344 d_Model_print_4 rfl (Nat.le_of_ble_eq_true rfl) (fun _ _ hh => hcall 187 _ _ _ _ hh) (fun v2 h1 => ?_)
  refine ax_if_eq B 14 d_Model_print_7 (by decide) ?_ ?_
  · refine ax_iconst (v := 1) B d_Model_print_14 (by decide) ?_
    refine ax_sub (tv2 := [(0, ax_A x0), (1, ax_I x1), (2, ax_I x2), (3, ax_I x3)]) [0, 1, 2, 3] rfl ?_
    exact Model_print_jq15 hcall B E Nm x0 x1 x2 x3 1 x0 h1
  · refine ax_iconst (v := 0) B d_Model_print_10 (by decide) ?_
    refine ax_goto B 15 d_Model_print_11 (by decide) ?_
    refine ax_sub (tv2 := [(0, ax_A x0), (1, ax_I x1), (2, ax_I x2), (3, ax_I x3)]) [0, 1, 2, 3] rfl ?_
    exact Model_print_jq15 hcall B E Nm x0 x1 x2 x3 0 x0 h1

theorem d_Model_draftText_0 : decode prog_12_method_61_code 0 = .ok (.aload_n 0, 1) := by decide +kernel
theorem d_Model_draftText_1 : decode prog_12_method_61_code 1 = .ok (.iconst 0, 1) := by decide +kernel
theorem d_Model_draftText_2 : decode prog_12_method_61_code 2 = .ok (.iload_n 1, 1) := by decide +kernel
theorem d_Model_draftText_3 : decode prog_12_method_61_code 3 = .ok (.invokevirtual 331, 3) := by decide +kernel
theorem d_Model_draftText_6 : decode prog_12_method_61_code 6 = .ok (.aload_n 0, 1) := by decide +kernel
theorem d_Model_draftText_7 : decode prog_12_method_61_code 7 = .ok (.iconst 0, 1) := by decide +kernel
theorem d_Model_draftText_8 : decode prog_12_method_61_code 8 = .ok (.putfield 130, 3) := by decide +kernel
theorem d_Model_draftText_11 : decode prog_12_method_61_code 11 = .ok (.iconst 0, 1) := by decide +kernel
theorem d_Model_draftText_12 : decode prog_12_method_61_code 12 = .ok (.istore_n 3, 1) := by decide +kernel
theorem d_Model_draftText_13 : decode prog_12_method_61_code 13 = .ok (.iload_n 3, 1) := by decide +kernel
theorem d_Model_draftText_14 : decode prog_12_method_61_code 14 = .ok (.aload_n 0, 1) := by decide +kernel
theorem d_Model_draftText_15 : decode prog_12_method_61_code 15 = .ok (.getfield 42, 3) := by decide +kernel
theorem d_Model_draftText_18 : decode prog_12_method_61_code 18 = .ok (.iconst 0, 1) := by decide +kernel
theorem d_Model_draftText_19 : decode prog_12_method_61_code 19 = .ok (.iaload, 1) := by decide +kernel
theorem d_Model_draftText_20 : decode prog_12_method_61_code 20 = .ok (.if_icmp .ge 32, 3) := by decide +kernel
theorem d_Model_draftText_23 : decode prog_12_method_61_code 23 = .ok (.iload_n 2, 1) := by decide +kernel
theorem d_Model_draftText_24 : decode prog_12_method_61_code 24 = .ok (.ifCond .eq 12, 3) := by decide +kernel
theorem d_Model_draftText_27 : decode prog_12_method_61_code 27 = .ok (.aload_n 0, 1) := by decide +kernel
theorem d_Model_draftText_28 : decode prog_12_method_61_code 28 = .ok (.getfield 72, 3) := by decide +kernel
theorem d_Model_draftText_31 : decode prog_12_method_61_code 31 = .ok (.iload_n 3, 1) := by decide +kernel
theorem d_Model_draftText_32 : decode prog_12_method_61_code 32 = .ok (.baload, 1) := by decide +kernel
theorem d_Model_draftText_33 : decode prog_12_method_61_code 33 = .ok (.ifCond .ne 13, 3) := by decide +kernel
theorem d_Model_draftText_36 : decode prog_12_method_61_code 36 = .ok (.aload_n 0, 1) := by decide +kernel
theorem d_Model_draftText_37 : decode prog_12_method_61_code 37 = .ok (.aload_n 0, 1) := by decide +kernel
theorem d_Model_draftText_38 : decode prog_12_method_61_code 38 = .ok (.getfield 39, 3) := by decide +kernel
theorem d_Model_draftText_41 : decode prog_12_method_61_code 41 = .ok (.iload_n 3, 1) := by decide +kernel
theorem d_Model_draftText_42 : decode prog_12_method_61_code 42 = .ok (.caload, 1) := by decide +kernel
theorem d_Model_draftText_43 : decode prog_12_method_61_code 43 = .ok (.invokevirtual 208, 3) := by decide +kernel
theorem d_Model_draftText_46 : decode prog_12_method_61_code 46 = .ok (.iinc 3 1, 3) := by decide +kernel
theorem d_Model_draftText_49 : decode prog_12_method_61_code 49 = .ok (.goto (-36), 3) := by decide +kernel
theorem d_Model_draftText_52 : decode prog_12_method_61_code 52 = .ok (.return_, 1) := by decide +kernel
def Model_draftText_jn46 (call : ax_Cf) (k13 : Option Nat → Int32 → Int32 → ax_Hp → ax_O) (x0 : Option Nat) (x2 : Int32) (x3 : Int32) (h : ax_Hp) : ax_O :=
  k13 x0 x2 (x3 + 1) h
set_option maxHeartbeats 4000000 in
set_option maxRecDepth 20000 in
theorem Model_draftText_jq46 {l : Launch} {G : ax_G} {d : Nat} {call : ax_Cf} (hcall : ax_Hc l G d call) {p : Program} {e : Env} {s : State} {mi : MethodId} {args : Array Value} {below : List Frame} {meth : Method} {c : Code} {h0 : ax_Hp} (B : ax_B G p s mi meth c "SchemaDeskModel" prog_12_method_61_code 4 none) (E : c.exceptionTable.isEmpty = true) (Nm : meth.name = y_Model_draftText.name) (k13 : Option Nat → Int32 → Int32 → ax_Hp → ax_O) (hk13 : ∀ (x0 : Option Nat) (x2 : Int32) (x3 : Int32) (h : ax_Hp), ax_W G p l e s mi args below meth c 4 (d + 1) h0 13 [(0, ax_A x0), (2, ax_I x2), (3, ax_I x3)] [] h (k13 x0 x2 x3 h)) (x0 : Option Nat) (x2 : Int32) (x3 : Int32) (h : ax_Hp) : ax_W G p l e s mi args below meth c 4 (d + 1) h0 46 [(0, ax_A x0), (2, ax_I x2), (3, ax_I x3)] [] h (Model_draftText_jn46 call k13 x0 x2 x3 h) := by
  unfold Model_draftText_jn46
  refine ax_iinc (v := x3 + 1) (tv2 := [(3, ax_I (x3 + 1)), (0, ax_A x0), (2, ax_I x2)]) B 2 d_Model_draftText_46 rfl (congrArg (_ + ·) (by decide)) (by decide) rfl ?_
  refine ax_goto B 13 d_Model_draftText_49 (by decide) ?_
  refine ax_sub (tv2 := [(0, ax_A x0), (2, ax_I x2), (3, ax_I (x3 + 1))]) [1, 2, 0] rfl ?_
  exact hk13 x0 x2 (x3 + 1) h
def Model_draftText_jn36 (call : ax_Cf) (k13 : Option Nat → Int32 → Int32 → ax_Hp → ax_O) (x0 : Option Nat) (x2 : Int32) (x3 : Int32) (h : ax_Hp) : ax_O :=
  (ax_gr h x0 9 14).bind fun v6 =>
  (ax_ldi h v6 3 x3).bind fun v7 =>
  ax_on h x0 9 <| ax_cv (call 160 [ax_A x0, ax_I v7] h) fun h8 =>
  Model_draftText_jn46 call k13 x0 x2 x3 h8
set_option maxHeartbeats 4000000 in
set_option maxRecDepth 20000 in
theorem Model_draftText_jq36 {l : Launch} {G : ax_G} {d : Nat} {call : ax_Cf} (hcall : ax_Hc l G d call) {p : Program} {e : Env} {s : State} {mi : MethodId} {args : Array Value} {below : List Frame} {meth : Method} {c : Code} {h0 : ax_Hp} (B : ax_B G p s mi meth c "SchemaDeskModel" prog_12_method_61_code 4 none) (E : c.exceptionTable.isEmpty = true) (Nm : meth.name = y_Model_draftText.name) (k13 : Option Nat → Int32 → Int32 → ax_Hp → ax_O) (hk13 : ∀ (x0 : Option Nat) (x2 : Int32) (x3 : Int32) (h : ax_Hp), ax_W G p l e s mi args below meth c 4 (d + 1) h0 13 [(0, ax_A x0), (2, ax_I x2), (3, ax_I x3)] [] h (k13 x0 x2 x3 h)) (x0 : Option Nat) (x2 : Int32) (x3 : Int32) (h : ax_Hp) : ax_W G p l e s mi args below meth c 4 (d + 1) h0 36 [(0, ax_A x0), (2, ax_I x2), (3, ax_I x3)] [] h (Model_draftText_jn36 call k13 x0 x2 x3 h) := by
  unfold Model_draftText_jn36
  refine ax_aload_n B 0 d_Model_draftText_36 rfl rfl ?_
  refine ax_aload_n B 0 d_Model_draftText_37 rfl rfl ?_
  refine ax_getfr B cl_Model (by decide) fk_Model_39 d_Model_draftText_38 (fun v6 => ?_)
  refine ax_iload_n B 2 d_Model_draftText_41 rfl rfl ?_
  refine ax_cald (kd := 3) B (by decide) rfl d_Model_draftText_42 (fun v7 => ?_)
  refine ax_callVv (av := [ax_I v7]) (rest := []) B E hm_Model_say cl_Model rfl wd_1116 wp_46 lk_Model_208 d_Model_draftText_43 rfl (Nat.le_of_ble_eq_true rfl) (fun _ _ hh => hcall 160 _ _ _ _ hh) (fun h8 => ?_)
  refine ax_sub (tv2 := [(0, ax_A x0), (2, ax_I x2), (3, ax_I x3)]) [0, 1, 2] rfl ?_
  exact Model_draftText_jq46 hcall B E Nm k13 hk13 x0 x2 x3 h8
def Model_draftText_bd13 (call : ax_Cf)  (k13 : Option Nat → Int32 → Int32 → ax_Hp → ax_O) (x0 : Option Nat) (x2 : Int32) (x3 : Int32) (h : ax_Hp) : ax_O :=
  (ax_gr h x0 9 15).bind fun v4 =>
  (ax_ldi h v4 1 0).bind fun v5 =>
  if v5 ≤ x3 then
    ax_rv h
  else
    if x2 = 0 then
      Model_draftText_jn36 call k13 x0 x2 x3 h
    else
      (ax_gr h x0 9 25).bind fun v10 =>
      (ax_ldi h v10 4 x3).bind fun v11 =>
      if v11 = 0 then
        Model_draftText_jn36 call k13 x0 x2 x3 h
      else
        Model_draftText_jn46 call k13 x0 x2 x3 h
def Model_draftText_lp13 (call : ax_Cf)  : Nat → Option Nat → Int32 → Int32 → ax_Hp → ax_O
  | 0 => fun _ _ _ _ => none
  | n + 1 => Model_draftText_bd13 call  (Model_draftText_lp13 call  n)
set_option maxHeartbeats 4000000 in
set_option maxRecDepth 20000 in
theorem Model_draftText_lb13 {l : Launch} {G : ax_G} {d : Nat} {call : ax_Cf} (hcall : ax_Hc l G d call) {p : Program} {e : Env} {s : State} {mi : MethodId} {args : Array Value} {below : List Frame} {meth : Method} {c : Code} {h0 : ax_Hp} (B : ax_B G p s mi meth c "SchemaDeskModel" prog_12_method_61_code 4 none) (E : c.exceptionTable.isEmpty = true) (Nm : meth.name = y_Model_draftText.name)   {k13 : Option Nat → Int32 → Int32 → ax_Hp → ax_O} (hk13 : ∀ (x0 : Option Nat) (x2 : Int32) (x3 : Int32) (h : ax_Hp), ax_W G p l e s mi args below meth c 4 (d + 1) h0 13 [(0, ax_A x0), (2, ax_I x2), (3, ax_I x3)] [] h (k13 x0 x2 x3 h)) (x0 : Option Nat) (x2 : Int32) (x3 : Int32) (h : ax_Hp) : ax_W G p l e s mi args below meth c 4 (d + 1) h0 13 [(0, ax_A x0), (2, ax_I x2), (3, ax_I x3)] [] h (Model_draftText_bd13 call  k13 x0 x2 x3 h) := by
  unfold Model_draftText_bd13
  refine ax_iload_n B 2 d_Model_draftText_13 rfl rfl ?_
  refine ax_aload_n B 0 d_Model_draftText_14 rfl rfl ?_
  refine ax_getfr B cl_Model (by decide) fk_Model_42 d_Model_draftText_15 (fun v4 => ?_)
  refine ax_iconst (v := 0) B d_Model_draftText_18 (by decide) ?_
  refine ax_iald (kd := 1) B (by decide) rfl d_Model_draftText_19 (fun v5 => ?_)
  refine ax_icmp_ge B 52 d_Model_draftText_20 (by decide) ?_ ?_
  · exact ax_vreturn B d_Model_draftText_52
  · refine ax_iload_n B 1 d_Model_draftText_23 rfl rfl ?_
    refine ax_if_eq B 36 d_Model_draftText_24 (by decide) ?_ ?_
    · refine ax_sub (tv2 := [(0, ax_A x0), (2, ax_I x2), (3, ax_I x3)]) [0, 1, 2] rfl ?_
      exact Model_draftText_jq36 hcall B E Nm k13 hk13 x0 x2 x3 h
    · refine ax_aload_n B 0 d_Model_draftText_27 rfl rfl ?_
      refine ax_getfr B cl_Model (by decide) fk_Model_72 d_Model_draftText_28 (fun v10 => ?_)
      refine ax_iload_n B 2 d_Model_draftText_31 rfl rfl ?_
      refine ax_zald (kd := 4) B (by decide) rfl d_Model_draftText_32 (fun v11 => ?_)
      refine ax_if_ne B 46 d_Model_draftText_33 (by decide) ?_ ?_
      · refine ax_sub (tv2 := [(0, ax_A x0), (2, ax_I x2), (3, ax_I x3)]) [0, 1, 2] rfl ?_
        exact Model_draftText_jq46 hcall B E Nm k13 hk13 x0 x2 x3 h
      · refine ax_sub (tv2 := [(0, ax_A x0), (2, ax_I x2), (3, ax_I x3)]) [0, 1, 2] rfl ?_
        exact Model_draftText_jq36 hcall B E Nm k13 hk13 x0 x2 x3 h
theorem Model_draftText_lq13 {l : Launch} {G : ax_G} {d : Nat} {call : ax_Cf} (hcall : ax_Hc l G d call) {p : Program} {e : Env} {s : State} {mi : MethodId} {args : Array Value} {below : List Frame} {meth : Method} {c : Code} {h0 : ax_Hp} (B : ax_B G p s mi meth c "SchemaDeskModel" prog_12_method_61_code 4 none) (E : c.exceptionTable.isEmpty = true) (Nm : meth.name = y_Model_draftText.name)   : ∀ (n : Nat) (x0 : Option Nat) (x2 : Int32) (x3 : Int32) (h : ax_Hp), ax_W G p l e s mi args below meth c 4 (d + 1) h0 13 [(0, ax_A x0), (2, ax_I x2), (3, ax_I x3)] [] h (Model_draftText_lp13 call  n x0 x2 x3 h)
  | 0, _, _, _, _ => ax_none
  | n + 1, x0, x2, x3, h => Model_draftText_lb13 hcall B E Nm   (Model_draftText_lq13 hcall B E Nm   n) x0 x2 x3 h
def Model_draftText_b (call : ax_Cf) (x0 : Option Nat) (x1 : Int32) (x2 : Int32) (h : ax_Hp) : ax_O :=
  ax_on h x0 9 <| ax_cv (call 180 [ax_A x0, ax_I 0, ax_I x1] h) fun h1 =>
  (ax_pf h1 x0 9 7 (ax_I 0)).bind fun h3 =>
  Model_draftText_lp13 call ax_fuel x0 x2 0 h3
set_option maxHeartbeats 4000000 in
set_option maxRecDepth 20000 in
theorem Model_draftText_t {l : Launch} {G : ax_G} {d : Nat} {call : ax_Cf} (hcall : ax_Hc l G d call) (x0 : Option Nat) (x1 : Int32) (x2 : Int32) (h : ax_Hp) {r : ax_Rs} {h' : ax_Hp} (ho : Model_draftText_b call x0 x1 x2 h = some (r, h')) : ax_C l G (d + 1) y_Model_draftText (.code y_Model_draftText prog_12_method_61_code 4 none) [ax_A x0, ax_I x1, ax_I x2] h r h' := by
  refine ax_enter (by decide) (Nat.le_of_ble_eq_true rfl) ho (fun p e s mi args below meth c B E Nm => ?_)
  have B : ax_B G p s mi meth c "SchemaDeskModel" prog_12_method_61_code 4 none := B
  show ax_W G p l e s mi args below meth c 4 (d + 1) h 0 [(0, ax_A x0), (1, ax_I x1), (2, ax_I x2)] [] h (Model_draftText_b call x0 x1 x2 h)
  unfold Model_draftText_b
  refine ax_aload_n B 0 d_Model_draftText_0 rfl rfl ?_
  refine ax_iconst (v := 0) B d_Model_draftText_1 (by decide) ?_
  refine ax_iload_n B 1 d_Model_draftText_2 rfl rfl ?_
  refine ax_callVv (av := [ax_I 0, ax_I x1]) (rest := []) B E hm_Model_load cl_Model rfl wd_1201 wp_65 lk_Model_331 d_Model_draftText_3 rfl (Nat.le_of_ble_eq_true rfl) (fun _ _ hh => hcall 180 _ _ _ _ hh) (fun h1 => ?_)
  refine ax_aload_n B 0 d_Model_draftText_6 rfl rfl ?_
  refine ax_iconst (v := 0) B d_Model_draftText_7 (by decide) ?_
  refine ax_putf (v := ax_I 0) B cl_Model (by decide) fk_Model_130 (Or.inl rfl) (fun _ => rfl) (fun _ => rfl) d_Model_draftText_8 (fun h3 => ?_)
  refine ax_iconst (v := 0) B d_Model_draftText_11 (by decide) ?_
  refine ax_istore_n (tv2 := [(3, ax_I 0), (0, ax_A x0), (1, ax_I x1), (2, ax_I x2)]) B d_Model_draftText_12 rfl (by decide) rfl ?_
  refine ax_sub (tv2 := [(0, ax_A x0), (2, ax_I x2), (3, ax_I 0)]) [1, 3, 0] rfl ?_
  exact Model_draftText_lq13 hcall B E Nm ax_fuel x0 x2 0 h3

theorem d_Model_keep_0 : decode prog_12_method_53_code 0 = .ok (.iconst 0, 1) := by decide +kernel
theorem d_Model_keep_1 : decode prog_12_method_53_code 1 = .ok (.istore_n 1, 1) := by decide +kernel
theorem d_Model_keep_2 : decode prog_12_method_53_code 2 = .ok (.iload_n 1, 1) := by decide +kernel
theorem d_Model_keep_3 : decode prog_12_method_53_code 3 = .ok (.aload_n 0, 1) := by decide +kernel
theorem d_Model_keep_4 : decode prog_12_method_53_code 4 = .ok (.getfield 130, 3) := by decide +kernel
theorem d_Model_keep_7 : decode prog_12_method_53_code 7 = .ok (.if_icmp .ge 21, 3) := by decide +kernel
theorem d_Model_keep_10 : decode prog_12_method_53_code 10 = .ok (.aload_n 0, 1) := by decide +kernel
theorem d_Model_keep_11 : decode prog_12_method_53_code 11 = .ok (.getfield 17, 3) := by decide +kernel
theorem d_Model_keep_14 : decode prog_12_method_53_code 14 = .ok (.iload_n 1, 1) := by decide +kernel
theorem d_Model_keep_15 : decode prog_12_method_53_code 15 = .ok (.aload_n 0, 1) := by decide +kernel
theorem d_Model_keep_16 : decode prog_12_method_53_code 16 = .ok (.getfield 20, 3) := by decide +kernel
theorem d_Model_keep_19 : decode prog_12_method_53_code 19 = .ok (.iload_n 1, 1) := by decide +kernel
theorem d_Model_keep_20 : decode prog_12_method_53_code 20 = .ok (.iaload, 1) := by decide +kernel
theorem d_Model_keep_21 : decode prog_12_method_53_code 21 = .ok (.iastore, 1) := by decide +kernel
theorem d_Model_keep_22 : decode prog_12_method_53_code 22 = .ok (.iinc 1 1, 3) := by decide +kernel
theorem d_Model_keep_25 : decode prog_12_method_53_code 25 = .ok (.goto (-23), 3) := by decide +kernel
theorem d_Model_keep_28 : decode prog_12_method_53_code 28 = .ok (.aload_n 0, 1) := by decide +kernel
theorem d_Model_keep_29 : decode prog_12_method_53_code 29 = .ok (.aload_n 0, 1) := by decide +kernel
theorem d_Model_keep_30 : decode prog_12_method_53_code 30 = .ok (.getfield 130, 3) := by decide +kernel
theorem d_Model_keep_33 : decode prog_12_method_53_code 33 = .ok (.putfield 325, 3) := by decide +kernel
theorem d_Model_keep_36 : decode prog_12_method_53_code 36 = .ok (.aload_n 0, 1) := by decide +kernel
theorem d_Model_keep_37 : decode prog_12_method_53_code 37 = .ok (.getfield 325, 3) := by decide +kernel
theorem d_Model_keep_40 : decode prog_12_method_53_code 40 = .ok (.ireturn, 1) := by decide +kernel
def Model_keep_bd2 (call : ax_Cf)  (k2 : Option Nat → Int32 → ax_Hp → ax_O) (x0 : Option Nat) (x1 : Int32) (h : ax_Hp) : ax_O :=
  (ax_gi h x0 9 7).bind fun v1 =>
  if v1 ≤ x1 then
    (ax_gi h x0 9 7).bind fun v2 =>
    (ax_pf h x0 9 5 (ax_I v2)).bind fun h3 =>
    (ax_gi h3 x0 9 5).bind fun v4 =>
    ax_ri v4 h3
  else
    (ax_gr h x0 9 6).bind fun v5 =>
    (ax_gr h x0 9 8).bind fun v6 =>
    (ax_ldi h v6 1 x1).bind fun v7 =>
    (ax_st h v5 1 x1 (ax_I v7)).bind fun h8 =>
    k2 x0 (x1 + 1) h8
def Model_keep_lp2 (call : ax_Cf)  : Nat → Option Nat → Int32 → ax_Hp → ax_O
  | 0 => fun _ _ _ => none
  | n + 1 => Model_keep_bd2 call  (Model_keep_lp2 call  n)
set_option maxHeartbeats 4000000 in
set_option maxRecDepth 20000 in
theorem Model_keep_lb2 {l : Launch} {G : ax_G} {d : Nat} {call : ax_Cf} (hcall : ax_Hc l G d call) {p : Program} {e : Env} {s : State} {mi : MethodId} {args : Array Value} {below : List Frame} {meth : Method} {c : Code} {h0 : ax_Hp} (B : ax_B G p s mi meth c "SchemaDeskModel" prog_12_method_53_code 2 (some (.int))) (E : c.exceptionTable.isEmpty = true) (Nm : meth.name = y_Model_keep.name)   {k2 : Option Nat → Int32 → ax_Hp → ax_O} (hk2 : ∀ (x0 : Option Nat) (x1 : Int32) (h : ax_Hp), ax_W G p l e s mi args below meth c 2 (d + 1) h0 2 [(0, ax_A x0), (1, ax_I x1)] [] h (k2 x0 x1 h)) (x0 : Option Nat) (x1 : Int32) (h : ax_Hp) : ax_W G p l e s mi args below meth c 2 (d + 1) h0 2 [(0, ax_A x0), (1, ax_I x1)] [] h (Model_keep_bd2 call  k2 x0 x1 h) := by
  unfold Model_keep_bd2
  refine ax_iload_n B 1 d_Model_keep_2 rfl rfl ?_
  refine ax_aload_n B 0 d_Model_keep_3 rfl rfl ?_
  refine ax_getfi B cl_Model (by decide) fk_Model_130 d_Model_keep_4 (fun v1 => ?_)
  refine ax_icmp_ge B 28 d_Model_keep_7 (by decide) ?_ ?_
  · refine ax_aload_n B 0 d_Model_keep_28 rfl rfl ?_
    refine ax_aload_n B 0 d_Model_keep_29 rfl rfl ?_
    refine ax_getfi B cl_Model (by decide) fk_Model_130 d_Model_keep_30 (fun v2 => ?_)
    refine ax_putf (v := ax_I v2) B cl_Model (by decide) fk_Model_325 (Or.inl rfl) (fun _ => rfl) (fun _ => rfl) d_Model_keep_33 (fun h3 => ?_)
    refine ax_aload_n B 0 d_Model_keep_36 rfl rfl ?_
    refine ax_getfi B cl_Model (by decide) fk_Model_325 d_Model_keep_37 (fun v4 => ?_)
    exact ax_ireturn B d_Model_keep_40
  · refine ax_aload_n B 0 d_Model_keep_10 rfl rfl ?_
    refine ax_getfr B cl_Model (by decide) fk_Model_17 d_Model_keep_11 (fun v5 => ?_)
    refine ax_iload_n B 1 d_Model_keep_14 rfl rfl ?_
    refine ax_aload_n B 0 d_Model_keep_15 rfl rfl ?_
    refine ax_getfr B cl_Model (by decide) fk_Model_20 d_Model_keep_16 (fun v6 => ?_)
    refine ax_iload_n B 1 d_Model_keep_19 rfl rfl ?_
    refine ax_iald (kd := 1) B (by decide) rfl d_Model_keep_20 (fun v7 => ?_)
    refine ax_iast (kd := 1) B (by decide) (by decide) rfl d_Model_keep_21 (fun h8 => ?_)
    refine ax_iinc (v := x1 + 1) (tv2 := [(1, ax_I (x1 + 1)), (0, ax_A x0)]) B 1 d_Model_keep_22 rfl (congrArg (_ + ·) (by decide)) (by decide) rfl ?_
    refine ax_goto B 2 d_Model_keep_25 (by decide) ?_
    refine ax_sub (tv2 := [(0, ax_A x0), (1, ax_I (x1 + 1))]) [1, 0] rfl ?_
    exact hk2 x0 (x1 + 1) h8
theorem Model_keep_lq2 {l : Launch} {G : ax_G} {d : Nat} {call : ax_Cf} (hcall : ax_Hc l G d call) {p : Program} {e : Env} {s : State} {mi : MethodId} {args : Array Value} {below : List Frame} {meth : Method} {c : Code} {h0 : ax_Hp} (B : ax_B G p s mi meth c "SchemaDeskModel" prog_12_method_53_code 2 (some (.int))) (E : c.exceptionTable.isEmpty = true) (Nm : meth.name = y_Model_keep.name)   : ∀ (n : Nat) (x0 : Option Nat) (x1 : Int32) (h : ax_Hp), ax_W G p l e s mi args below meth c 2 (d + 1) h0 2 [(0, ax_A x0), (1, ax_I x1)] [] h (Model_keep_lp2 call  n x0 x1 h)
  | 0, _, _, _ => ax_none
  | n + 1, x0, x1, h => Model_keep_lb2 hcall B E Nm   (Model_keep_lq2 hcall B E Nm   n) x0 x1 h
def Model_keep_b (call : ax_Cf) (x0 : Option Nat) (h : ax_Hp) : ax_O :=
  Model_keep_lp2 call ax_fuel x0 0 h
set_option maxHeartbeats 4000000 in
set_option maxRecDepth 20000 in
theorem Model_keep_t {l : Launch} {G : ax_G} {d : Nat} {call : ax_Cf} (hcall : ax_Hc l G d call) (x0 : Option Nat) (h : ax_Hp) {r : ax_Rs} {h' : ax_Hp} (ho : Model_keep_b call x0 h = some (r, h')) : ax_C l G (d + 1) y_Model_keep (.code y_Model_keep prog_12_method_53_code 2 (some (.int))) [ax_A x0] h r h' := by
  refine ax_enter (by decide) (Nat.le_of_ble_eq_true rfl) ho (fun p e s mi args below meth c B E Nm => ?_)
  have B : ax_B G p s mi meth c "SchemaDeskModel" prog_12_method_53_code 2 (some (.int)) := B
  show ax_W G p l e s mi args below meth c 2 (d + 1) h 0 [(0, ax_A x0)] [] h (Model_keep_b call x0 h)
  unfold Model_keep_b
  refine ax_iconst (v := 0) B d_Model_keep_0 (by decide) ?_
  refine ax_istore_n (tv2 := [(1, ax_I 0), (0, ax_A x0)]) B d_Model_keep_1 rfl (by decide) rfl ?_
  refine ax_sub (tv2 := [(0, ax_A x0), (1, ax_I 0)]) [1, 0] rfl ?_
  exact Model_keep_lq2 hcall B E Nm ax_fuel x0 0 h

theorem d_Model_fingerprint_0 : decode prog_12_method_63_code 0 = .ok (.aload_n 0, 1) := by decide +kernel
theorem d_Model_fingerprint_1 : decode prog_12_method_63_code 1 = .ok (.aload_n 0, 1) := by decide +kernel
theorem d_Model_fingerprint_2 : decode prog_12_method_63_code 2 = .ok (.iload_n 1, 1) := by decide +kernel
theorem d_Model_fingerprint_3 : decode prog_12_method_63_code 3 = .ok (.iload_n 2, 1) := by decide +kernel
theorem d_Model_fingerprint_4 : decode prog_12_method_63_code 4 = .ok (.invokevirtual 344, 3) := by decide +kernel
theorem d_Model_fingerprint_7 : decode prog_12_method_63_code 7 = .ok (.ifCond .eq 7, 3) := by decide +kernel
theorem d_Model_fingerprint_10 : decode prog_12_method_63_code 10 = .ok (.iconst 0, 1) := by decide +kernel
theorem d_Model_fingerprint_11 : decode prog_12_method_63_code 11 = .ok (.goto 4, 3) := by decide +kernel
theorem d_Model_fingerprint_14 : decode prog_12_method_63_code 14 = .ok (.iconst 1, 1) := by decide +kernel
theorem d_Model_fingerprint_15 : decode prog_12_method_63_code 15 = .ok (.putfield 119, 3) := by decide +kernel
theorem d_Model_fingerprint_18 : decode prog_12_method_63_code 18 = .ok (.aload_n 0, 1) := by decide +kernel
theorem d_Model_fingerprint_19 : decode prog_12_method_63_code 19 = .ok (.getfield 119, 3) := by decide +kernel
theorem d_Model_fingerprint_22 : decode prog_12_method_63_code 22 = .ok (.ifCond .le 5, 3) := by decide +kernel
theorem d_Model_fingerprint_25 : decode prog_12_method_63_code 25 = .ok (.lconst 0, 1) := by decide +kernel
theorem d_Model_fingerprint_26 : decode prog_12_method_63_code 26 = .ok (.lreturn, 1) := by decide +kernel
theorem d_Model_fingerprint_27 : decode prog_12_method_63_code 27 = .ok (.aload_n 0, 1) := by decide +kernel
theorem d_Model_fingerprint_28 : decode prog_12_method_63_code 28 = .ok (.bipush 6, 2) := by decide +kernel
theorem d_Model_fingerprint_30 : decode prog_12_method_63_code 30 = .ok (.iload_n 1, 1) := by decide +kernel
theorem d_Model_fingerprint_31 : decode prog_12_method_63_code 31 = .ok (.imul, 1) := by decide +kernel
theorem d_Model_fingerprint_32 : decode prog_12_method_63_code 32 = .ok (.iload_n 2, 1) := by decide +kernel
theorem d_Model_fingerprint_33 : decode prog_12_method_63_code 33 = .ok (.iadd, 1) := by decide +kernel
theorem d_Model_fingerprint_34 : decode prog_12_method_63_code 34 = .ok (.iconst 1, 1) := by decide +kernel
theorem d_Model_fingerprint_35 : decode prog_12_method_63_code 35 = .ok (.invokevirtual 347, 3) := by decide +kernel
theorem d_Model_fingerprint_38 : decode prog_12_method_63_code 38 = .ok (.ldc2_w 355, 3) := by decide +kernel
theorem d_Model_fingerprint_41 : decode prog_12_method_63_code 41 = .ok (.lstore_n 3, 1) := by decide +kernel
theorem d_Model_fingerprint_42 : decode prog_12_method_63_code 42 = .ok (.iconst 0, 1) := by decide +kernel
theorem d_Model_fingerprint_43 : decode prog_12_method_63_code 43 = .ok (.istore 5, 2) := by decide +kernel
theorem d_Model_fingerprint_45 : decode prog_12_method_63_code 45 = .ok (.iload 5, 2) := by decide +kernel
theorem d_Model_fingerprint_47 : decode prog_12_method_63_code 47 = .ok (.aload_n 0, 1) := by decide +kernel
theorem d_Model_fingerprint_48 : decode prog_12_method_63_code 48 = .ok (.getfield 130, 3) := by decide +kernel
theorem d_Model_fingerprint_51 : decode prog_12_method_63_code 51 = .ok (.if_icmp .ge 75, 3) := by decide +kernel
theorem d_Model_fingerprint_54 : decode prog_12_method_63_code 54 = .ok (.lload_n 3, 1) := by decide +kernel
theorem d_Model_fingerprint_55 : decode prog_12_method_63_code 55 = .ok (.ldc2_w 122, 3) := by decide +kernel
theorem d_Model_fingerprint_58 : decode prog_12_method_63_code 58 = .ok (.land, 1) := by decide +kernel
theorem d_Model_fingerprint_59 : decode prog_12_method_63_code 59 = .ok (.aload_n 0, 1) := by decide +kernel
theorem d_Model_fingerprint_60 : decode prog_12_method_63_code 60 = .ok (.getfield 20, 3) := by decide +kernel
theorem d_Model_fingerprint_63 : decode prog_12_method_63_code 63 = .ok (.iload 5, 2) := by decide +kernel
theorem d_Model_fingerprint_65 : decode prog_12_method_63_code 65 = .ok (.iaload, 1) := by decide +kernel
theorem d_Model_fingerprint_66 : decode prog_12_method_63_code 66 = .ok (.i2l, 1) := by decide +kernel
theorem d_Model_fingerprint_67 : decode prog_12_method_63_code 67 = .ok (.lxor, 1) := by decide +kernel
theorem d_Model_fingerprint_68 : decode prog_12_method_63_code 68 = .ok (.lstore 6, 2) := by decide +kernel
theorem d_Model_fingerprint_70 : decode prog_12_method_63_code 70 = .ok (.iconst 0, 1) := by decide +kernel
theorem d_Model_fingerprint_71 : decode prog_12_method_63_code 71 = .ok (.istore 8, 2) := by decide +kernel
theorem d_Model_fingerprint_73 : decode prog_12_method_63_code 73 = .ok (.iload 8, 2) := by decide +kernel
theorem d_Model_fingerprint_75 : decode prog_12_method_63_code 75 = .ok (.bipush 8, 2) := by decide +kernel
theorem d_Model_fingerprint_77 : decode prog_12_method_63_code 77 = .ok (.if_icmp .ge 35, 3) := by decide +kernel
theorem d_Model_fingerprint_80 : decode prog_12_method_63_code 80 = .ok (.lload 6, 2) := by decide +kernel
theorem d_Model_fingerprint_82 : decode prog_12_method_63_code 82 = .ok (.lconst 1, 1) := by decide +kernel
theorem d_Model_fingerprint_83 : decode prog_12_method_63_code 83 = .ok (.land, 1) := by decide +kernel
theorem d_Model_fingerprint_84 : decode prog_12_method_63_code 84 = .ok (.lconst 1, 1) := by decide +kernel
theorem d_Model_fingerprint_85 : decode prog_12_method_63_code 85 = .ok (.lcmp, 1) := by decide +kernel
theorem d_Model_fingerprint_86 : decode prog_12_method_63_code 86 = .ok (.ifCond .ne 14, 3) := by decide +kernel
theorem d_Model_fingerprint_89 : decode prog_12_method_63_code 89 = .ok (.lload 6, 2) := by decide +kernel
theorem d_Model_fingerprint_91 : decode prog_12_method_63_code 91 = .ok (.iconst 1, 1) := by decide +kernel
theorem d_Model_fingerprint_92 : decode prog_12_method_63_code 92 = .ok (.lushr, 1) := by decide +kernel
theorem d_Model_fingerprint_93 : decode prog_12_method_63_code 93 = .ok (.ldc2_w 355, 3) := by decide +kernel
theorem d_Model_fingerprint_96 : decode prog_12_method_63_code 96 = .ok (.lxor, 1) := by decide +kernel
theorem d_Model_fingerprint_97 : decode prog_12_method_63_code 97 = .ok (.goto 7, 3) := by decide +kernel
theorem d_Model_fingerprint_100 : decode prog_12_method_63_code 100 = .ok (.lload 6, 2) := by decide +kernel
theorem d_Model_fingerprint_102 : decode prog_12_method_63_code 102 = .ok (.iconst 1, 1) := by decide +kernel
theorem d_Model_fingerprint_103 : decode prog_12_method_63_code 103 = .ok (.lushr, 1) := by decide +kernel
theorem d_Model_fingerprint_104 : decode prog_12_method_63_code 104 = .ok (.lstore 6, 2) := by decide +kernel
theorem d_Model_fingerprint_106 : decode prog_12_method_63_code 106 = .ok (.iinc 8 1, 3) := by decide +kernel
theorem d_Model_fingerprint_109 : decode prog_12_method_63_code 109 = .ok (.goto (-36), 3) := by decide +kernel
theorem d_Model_fingerprint_112 : decode prog_12_method_63_code 112 = .ok (.lload_n 3, 1) := by decide +kernel
theorem d_Model_fingerprint_113 : decode prog_12_method_63_code 113 = .ok (.bipush 8, 2) := by decide +kernel
theorem d_Model_fingerprint_115 : decode prog_12_method_63_code 115 = .ok (.lushr, 1) := by decide +kernel
theorem d_Model_fingerprint_116 : decode prog_12_method_63_code 116 = .ok (.lload 6, 2) := by decide +kernel
theorem d_Model_fingerprint_118 : decode prog_12_method_63_code 118 = .ok (.lxor, 1) := by decide +kernel
theorem d_Model_fingerprint_119 : decode prog_12_method_63_code 119 = .ok (.lstore_n 3, 1) := by decide +kernel
theorem d_Model_fingerprint_120 : decode prog_12_method_63_code 120 = .ok (.iinc 5 1, 3) := by decide +kernel
theorem d_Model_fingerprint_123 : decode prog_12_method_63_code 123 = .ok (.goto (-78), 3) := by decide +kernel
theorem d_Model_fingerprint_126 : decode prog_12_method_63_code 126 = .ok (.lload_n 3, 1) := by decide +kernel
theorem d_Model_fingerprint_127 : decode prog_12_method_63_code 127 = .ok (.lreturn, 1) := by decide +kernel
def Model_fingerprint_jn104 (call : ax_Cf) (k45 : Option Nat → Int64 → Int32 → ax_Hp → ax_O) (k73 : Option Nat → Int64 → Int32 → Int64 → Int32 → ax_Hp → ax_O) (x0 : Option Nat) (x3 : Int64) (x5 : Int32) (x8 : Int32) (s0 : Int64) (h : ax_Hp) : ax_O :=
  k73 x0 x3 x5 s0 (x8 + 1) h
set_option maxHeartbeats 4000000 in
set_option maxRecDepth 20000 in
theorem Model_fingerprint_jq104 {l : Launch} {G : ax_G} {d : Nat} {call : ax_Cf} (hcall : ax_Hc l G d call) {p : Program} {e : Env} {s : State} {mi : MethodId} {args : Array Value} {below : List Frame} {meth : Method} {c : Code} {h0 : ax_Hp} (B : ax_B G p s mi meth c "SchemaDeskModel" prog_12_method_63_code 9 (some (.long))) (E : c.exceptionTable.isEmpty = true) (Nm : meth.name = y_Model_fingerprint.name) (k45 : Option Nat → Int64 → Int32 → ax_Hp → ax_O) (k73 : Option Nat → Int64 → Int32 → Int64 → Int32 → ax_Hp → ax_O) (hk45 : ∀ (x0 : Option Nat) (x3 : Int64) (x5 : Int32) (h : ax_Hp), ax_W G p l e s mi args below meth c 9 (d + 1) h0 45 [(0, ax_A x0), (3, ax_L x3), (5, ax_I x5)] [] h (k45 x0 x3 x5 h)) (hk73 : ∀ (x0 : Option Nat) (x3 : Int64) (x5 : Int32) (x6 : Int64) (x8 : Int32) (h : ax_Hp), ax_W G p l e s mi args below meth c 9 (d + 1) h0 73 [(0, ax_A x0), (3, ax_L x3), (5, ax_I x5), (6, ax_L x6), (8, ax_I x8)] [] h (k73 x0 x3 x5 x6 x8 h)) (x0 : Option Nat) (x3 : Int64) (x5 : Int32) (x8 : Int32) (s0 : Int64) (h : ax_Hp) : ax_W G p l e s mi args below meth c 9 (d + 1) h0 104 [(0, ax_A x0), (3, ax_L x3), (5, ax_I x5), (8, ax_I x8)] [ax_L s0] h (Model_fingerprint_jn104 call k45 k73 x0 x3 x5 x8 s0 h) := by
  unfold Model_fingerprint_jn104
  refine ax_lstore (tv2 := [(6, ax_L s0), (0, ax_A x0), (3, ax_L x3), (5, ax_I x5), (8, ax_I x8)]) B d_Model_fingerprint_104 (by decide) rfl ?_
  refine ax_iinc (v := x8 + 1) (tv2 := [(8, ax_I (x8 + 1)), (6, ax_L s0), (0, ax_A x0), (3, ax_L x3), (5, ax_I x5)]) B 4 d_Model_fingerprint_106 rfl (congrArg (_ + ·) (by decide)) (by decide) rfl ?_
  refine ax_goto B 73 d_Model_fingerprint_109 (by decide) ?_
  refine ax_sub (tv2 := [(0, ax_A x0), (3, ax_L x3), (5, ax_I x5), (6, ax_L s0), (8, ax_I (x8 + 1))]) [2, 3, 4, 1, 0] rfl ?_
  exact hk73 x0 x3 x5 s0 (x8 + 1) h
def Model_fingerprint_bd73 (call : ax_Cf) (k45 : Option Nat → Int64 → Int32 → ax_Hp → ax_O) (k73 : Option Nat → Int64 → Int32 → Int64 → Int32 → ax_Hp → ax_O) (x0 : Option Nat) (x3 : Int64) (x5 : Int32) (x6 : Int64) (x8 : Int32) (h : ax_Hp) : ax_O :=
  if 8 ≤ x8 then
    k45 x0 (((x3.toUInt64 >>> ((8 : Int32).toInt64.toUInt64 &&& Int64.toUInt64 63)).toInt64) ^^^ x6) (x5 + 1) h
  else
    if (lg_cmp (x6 &&& 1) 1) = 0 then
      Model_fingerprint_jn104 call k45 k73 x0 x3 x5 x8 (((x6.toUInt64 >>> ((1 : Int32).toInt64.toUInt64 &&& Int64.toUInt64 63)).toInt64) ^^^ (-4513414715797952619)) h
    else
      Model_fingerprint_jn104 call k45 k73 x0 x3 x5 x8 ((x6.toUInt64 >>> ((1 : Int32).toInt64.toUInt64 &&& Int64.toUInt64 63)).toInt64) h
def Model_fingerprint_lp73 (call : ax_Cf) (k45 : Option Nat → Int64 → Int32 → ax_Hp → ax_O) : Nat → Option Nat → Int64 → Int32 → Int64 → Int32 → ax_Hp → ax_O
  | 0 => fun _ _ _ _ _ _ => none
  | n + 1 => Model_fingerprint_bd73 call k45 (Model_fingerprint_lp73 call k45 n)
set_option maxHeartbeats 4000000 in
set_option maxRecDepth 20000 in
theorem Model_fingerprint_lb73 {l : Launch} {G : ax_G} {d : Nat} {call : ax_Cf} (hcall : ax_Hc l G d call) {p : Program} {e : Env} {s : State} {mi : MethodId} {args : Array Value} {below : List Frame} {meth : Method} {c : Code} {h0 : ax_Hp} (B : ax_B G p s mi meth c "SchemaDeskModel" prog_12_method_63_code 9 (some (.long))) (E : c.exceptionTable.isEmpty = true) (Nm : meth.name = y_Model_fingerprint.name) (k45 : Option Nat → Int64 → Int32 → ax_Hp → ax_O) (hk45 : ∀ (x0 : Option Nat) (x3 : Int64) (x5 : Int32) (h : ax_Hp), ax_W G p l e s mi args below meth c 9 (d + 1) h0 45 [(0, ax_A x0), (3, ax_L x3), (5, ax_I x5)] [] h (k45 x0 x3 x5 h)) {k73 : Option Nat → Int64 → Int32 → Int64 → Int32 → ax_Hp → ax_O} (hk73 : ∀ (x0 : Option Nat) (x3 : Int64) (x5 : Int32) (x6 : Int64) (x8 : Int32) (h : ax_Hp), ax_W G p l e s mi args below meth c 9 (d + 1) h0 73 [(0, ax_A x0), (3, ax_L x3), (5, ax_I x5), (6, ax_L x6), (8, ax_I x8)] [] h (k73 x0 x3 x5 x6 x8 h)) (x0 : Option Nat) (x3 : Int64) (x5 : Int32) (x6 : Int64) (x8 : Int32) (h : ax_Hp) : ax_W G p l e s mi args below meth c 9 (d + 1) h0 73 [(0, ax_A x0), (3, ax_L x3), (5, ax_I x5), (6, ax_L x6), (8, ax_I x8)] [] h (Model_fingerprint_bd73 call k45 k73 x0 x3 x5 x6 x8 h) := by
  unfold Model_fingerprint_bd73
  refine ax_iload B 4 d_Model_fingerprint_73 rfl ?_
  refine ax_bipush (v := 8) B d_Model_fingerprint_75 (by decide) ?_
  refine ax_icmp_ge B 112 d_Model_fingerprint_77 (by decide) ?_ ?_
  · refine ax_lload_n B 1 d_Model_fingerprint_112 rfl rfl ?_
    refine ax_bipush (v := 8) B d_Model_fingerprint_113 (by decide) ?_
    refine ax_lushr B d_Model_fingerprint_115 ?_
    refine ax_lload B 3 d_Model_fingerprint_116 rfl ?_
    refine ax_lxor B d_Model_fingerprint_118 ?_
    refine ax_lstore_n (tv2 := [(3, ax_L (((x3.toUInt64 >>> ((8 : Int32).toInt64.toUInt64 &&& Int64.toUInt64 63)).toInt64) ^^^ x6)), (0, ax_A x0), (5, ax_I x5), (6, ax_L x6), (8, ax_I x8)]) B d_Model_fingerprint_119 rfl (by decide) rfl ?_
    refine ax_iinc (v := x5 + 1) (tv2 := [(5, ax_I (x5 + 1)), (3, ax_L (((x3.toUInt64 >>> ((8 : Int32).toInt64.toUInt64 &&& Int64.toUInt64 63)).toInt64) ^^^ x6)), (0, ax_A x0), (6, ax_L x6), (8, ax_I x8)]) B 2 d_Model_fingerprint_120 rfl (congrArg (_ + ·) (by decide)) (by decide) rfl ?_
    refine ax_goto B 45 d_Model_fingerprint_123 (by decide) ?_
    refine ax_sub (tv2 := [(0, ax_A x0), (3, ax_L (((x3.toUInt64 >>> ((8 : Int32).toInt64.toUInt64 &&& Int64.toUInt64 63)).toInt64) ^^^ x6)), (5, ax_I (x5 + 1))]) [2, 1, 0] rfl ?_
    exact hk45 x0 (((x3.toUInt64 >>> ((8 : Int32).toInt64.toUInt64 &&& Int64.toUInt64 63)).toInt64) ^^^ x6) (x5 + 1) h
  · refine ax_lload B 3 d_Model_fingerprint_80 rfl ?_
    refine ax_lconst (v := 1) B d_Model_fingerprint_82 (by decide) ?_
    refine ax_land B d_Model_fingerprint_83 ?_
    refine ax_lconst (v := 1) B d_Model_fingerprint_84 (by decide) ?_
    refine ax_lcmp B d_Model_fingerprint_85 ?_
    refine ax_if_ne B 100 d_Model_fingerprint_86 (by decide) ?_ ?_
    · refine ax_lload B 3 d_Model_fingerprint_100 rfl ?_
      refine ax_iconst (v := 1) B d_Model_fingerprint_102 (by decide) ?_
      refine ax_lushr B d_Model_fingerprint_103 ?_
      refine ax_sub (tv2 := [(0, ax_A x0), (3, ax_L x3), (5, ax_I x5), (8, ax_I x8)]) [0, 1, 2, 4] rfl ?_
      exact Model_fingerprint_jq104 hcall B E Nm k45 k73 hk45 hk73 x0 x3 x5 x8 ((x6.toUInt64 >>> ((1 : Int32).toInt64.toUInt64 &&& Int64.toUInt64 63)).toInt64) h
    · refine ax_lload B 3 d_Model_fingerprint_89 rfl ?_
      refine ax_iconst (v := 1) B d_Model_fingerprint_91 (by decide) ?_
      refine ax_lushr B d_Model_fingerprint_92 ?_
      refine ax_ldc2 (v := (-4513414715797952619)) B wd_1247 d_Model_fingerprint_93 ?_
      refine ax_lxor B d_Model_fingerprint_96 ?_
      refine ax_goto B 104 d_Model_fingerprint_97 (by decide) ?_
      refine ax_sub (tv2 := [(0, ax_A x0), (3, ax_L x3), (5, ax_I x5), (8, ax_I x8)]) [0, 1, 2, 4] rfl ?_
      exact Model_fingerprint_jq104 hcall B E Nm k45 k73 hk45 hk73 x0 x3 x5 x8 (((x6.toUInt64 >>> ((1 : Int32).toInt64.toUInt64 &&& Int64.toUInt64 63)).toInt64) ^^^ (-4513414715797952619)) h
theorem Model_fingerprint_lq73 {l : Launch} {G : ax_G} {d : Nat} {call : ax_Cf} (hcall : ax_Hc l G d call) {p : Program} {e : Env} {s : State} {mi : MethodId} {args : Array Value} {below : List Frame} {meth : Method} {c : Code} {h0 : ax_Hp} (B : ax_B G p s mi meth c "SchemaDeskModel" prog_12_method_63_code 9 (some (.long))) (E : c.exceptionTable.isEmpty = true) (Nm : meth.name = y_Model_fingerprint.name) (k45 : Option Nat → Int64 → Int32 → ax_Hp → ax_O) (hk45 : ∀ (x0 : Option Nat) (x3 : Int64) (x5 : Int32) (h : ax_Hp), ax_W G p l e s mi args below meth c 9 (d + 1) h0 45 [(0, ax_A x0), (3, ax_L x3), (5, ax_I x5)] [] h (k45 x0 x3 x5 h)) : ∀ (n : Nat) (x0 : Option Nat) (x3 : Int64) (x5 : Int32) (x6 : Int64) (x8 : Int32) (h : ax_Hp), ax_W G p l e s mi args below meth c 9 (d + 1) h0 73 [(0, ax_A x0), (3, ax_L x3), (5, ax_I x5), (6, ax_L x6), (8, ax_I x8)] [] h (Model_fingerprint_lp73 call k45 n x0 x3 x5 x6 x8 h)
  | 0, _, _, _, _, _, _ => ax_none
  | n + 1, x0, x3, x5, x6, x8, h => Model_fingerprint_lb73 hcall B E Nm k45 hk45 (Model_fingerprint_lq73 hcall B E Nm k45 hk45 n) x0 x3 x5 x6 x8 h
def Model_fingerprint_bd45 (call : ax_Cf)  (k45 : Option Nat → Int64 → Int32 → ax_Hp → ax_O) (x0 : Option Nat) (x3 : Int64) (x5 : Int32) (h : ax_Hp) : ax_O :=
  (ax_gi h x0 9 7).bind fun v7 =>
  if v7 ≤ x5 then
    ax_rl x3 h
  else
    (ax_gr h x0 9 8).bind fun v8 =>
    (ax_ldi h v8 1 x5).bind fun v9 =>
    Model_fingerprint_lp73 call k45 ax_fuel x0 x3 x5 ((x3 &&& 255) ^^^ (v9.toInt64)) 0 h
def Model_fingerprint_lp45 (call : ax_Cf)  : Nat → Option Nat → Int64 → Int32 → ax_Hp → ax_O
  | 0 => fun _ _ _ _ => none
  | n + 1 => Model_fingerprint_bd45 call  (Model_fingerprint_lp45 call  n)
set_option maxHeartbeats 4000000 in
set_option maxRecDepth 20000 in
theorem Model_fingerprint_lb45 {l : Launch} {G : ax_G} {d : Nat} {call : ax_Cf} (hcall : ax_Hc l G d call) {p : Program} {e : Env} {s : State} {mi : MethodId} {args : Array Value} {below : List Frame} {meth : Method} {c : Code} {h0 : ax_Hp} (B : ax_B G p s mi meth c "SchemaDeskModel" prog_12_method_63_code 9 (some (.long))) (E : c.exceptionTable.isEmpty = true) (Nm : meth.name = y_Model_fingerprint.name)   {k45 : Option Nat → Int64 → Int32 → ax_Hp → ax_O} (hk45 : ∀ (x0 : Option Nat) (x3 : Int64) (x5 : Int32) (h : ax_Hp), ax_W G p l e s mi args below meth c 9 (d + 1) h0 45 [(0, ax_A x0), (3, ax_L x3), (5, ax_I x5)] [] h (k45 x0 x3 x5 h)) (x0 : Option Nat) (x3 : Int64) (x5 : Int32) (h : ax_Hp) : ax_W G p l e s mi args below meth c 9 (d + 1) h0 45 [(0, ax_A x0), (3, ax_L x3), (5, ax_I x5)] [] h (Model_fingerprint_bd45 call  k45 x0 x3 x5 h) := by
  unfold Model_fingerprint_bd45
  refine ax_iload B 2 d_Model_fingerprint_45 rfl ?_
  refine ax_aload_n B 0 d_Model_fingerprint_47 rfl rfl ?_
  refine ax_getfi B cl_Model (by decide) fk_Model_130 d_Model_fingerprint_48 (fun v7 => ?_)
  refine ax_icmp_ge B 126 d_Model_fingerprint_51 (by decide) ?_ ?_
  · refine ax_lload_n B 1 d_Model_fingerprint_126 rfl rfl ?_
    exact ax_lreturn B d_Model_fingerprint_127
  · refine ax_lload_n B 1 d_Model_fingerprint_54 rfl rfl ?_
    refine ax_ldc2 (v := 255) B wd_1058 d_Model_fingerprint_55 ?_
    refine ax_land B d_Model_fingerprint_58 ?_
    refine ax_aload_n B 0 d_Model_fingerprint_59 rfl rfl ?_
    refine ax_getfr B cl_Model (by decide) fk_Model_20 d_Model_fingerprint_60 (fun v8 => ?_)
    refine ax_iload B 2 d_Model_fingerprint_63 rfl ?_
    refine ax_iald (kd := 1) B (by decide) rfl d_Model_fingerprint_65 (fun v9 => ?_)
    refine ax_i2l B d_Model_fingerprint_66 ?_
    refine ax_lxor B d_Model_fingerprint_67 ?_
    refine ax_lstore (tv2 := [(6, ax_L ((x3 &&& 255) ^^^ (v9.toInt64))), (0, ax_A x0), (3, ax_L x3), (5, ax_I x5)]) B d_Model_fingerprint_68 (by decide) rfl ?_
    refine ax_iconst (v := 0) B d_Model_fingerprint_70 (by decide) ?_
    refine ax_istore (tv2 := [(8, ax_I 0), (6, ax_L ((x3 &&& 255) ^^^ (v9.toInt64))), (0, ax_A x0), (3, ax_L x3), (5, ax_I x5)]) B d_Model_fingerprint_71 (by decide) rfl ?_
    refine ax_sub (tv2 := [(0, ax_A x0), (3, ax_L x3), (5, ax_I x5), (6, ax_L ((x3 &&& 255) ^^^ (v9.toInt64))), (8, ax_I 0)]) [2, 3, 4, 1, 0] rfl ?_
    exact Model_fingerprint_lq73 hcall B E Nm k45 hk45 ax_fuel x0 x3 x5 ((x3 &&& 255) ^^^ (v9.toInt64)) 0 h
theorem Model_fingerprint_lq45 {l : Launch} {G : ax_G} {d : Nat} {call : ax_Cf} (hcall : ax_Hc l G d call) {p : Program} {e : Env} {s : State} {mi : MethodId} {args : Array Value} {below : List Frame} {meth : Method} {c : Code} {h0 : ax_Hp} (B : ax_B G p s mi meth c "SchemaDeskModel" prog_12_method_63_code 9 (some (.long))) (E : c.exceptionTable.isEmpty = true) (Nm : meth.name = y_Model_fingerprint.name)   : ∀ (n : Nat) (x0 : Option Nat) (x3 : Int64) (x5 : Int32) (h : ax_Hp), ax_W G p l e s mi args below meth c 9 (d + 1) h0 45 [(0, ax_A x0), (3, ax_L x3), (5, ax_I x5)] [] h (Model_fingerprint_lp45 call  n x0 x3 x5 h)
  | 0, _, _, _, _ => ax_none
  | n + 1, x0, x3, x5, h => Model_fingerprint_lb45 hcall B E Nm   (Model_fingerprint_lq45 hcall B E Nm   n) x0 x3 x5 h
def Model_fingerprint_jn15 (call : ax_Cf)  (x0 : Option Nat) (x1 : Int32) (x2 : Int32) (s0 : Int32) (s1 : Option Nat) (h : ax_Hp) : ax_O :=
  (ax_pf h s1 9 0 (ax_I s0)).bind fun h3 =>
  (ax_gi h3 x0 9 0).bind fun v4 =>
  if v4 ≤ 0 then
    ax_on h3 x0 9 <| ax_cv (call 189 [ax_A x0, ax_I ((6 * x1) + x2), ax_I 1] h3) fun h5 =>
    Model_fingerprint_lp45 call ax_fuel x0 (-4513414715797952619) 0 h5
  else
    ax_rl 0 h3
set_option maxHeartbeats 4000000 in
set_option maxRecDepth 20000 in
theorem Model_fingerprint_jq15 {l : Launch} {G : ax_G} {d : Nat} {call : ax_Cf} (hcall : ax_Hc l G d call) {p : Program} {e : Env} {s : State} {mi : MethodId} {args : Array Value} {below : List Frame} {meth : Method} {c : Code} {h0 : ax_Hp} (B : ax_B G p s mi meth c "SchemaDeskModel" prog_12_method_63_code 9 (some (.long))) (E : c.exceptionTable.isEmpty = true) (Nm : meth.name = y_Model_fingerprint.name)   (x0 : Option Nat) (x1 : Int32) (x2 : Int32) (s0 : Int32) (s1 : Option Nat) (h : ax_Hp) : ax_W G p l e s mi args below meth c 9 (d + 1) h0 15 [(0, ax_A x0), (1, ax_I x1), (2, ax_I x2)] [ax_I s0, ax_A s1] h (Model_fingerprint_jn15 call  x0 x1 x2 s0 s1 h) := by
  unfold Model_fingerprint_jn15
  refine ax_putf (v := ax_I s0) B cl_Model (by decide) fk_Model_119 (Or.inl rfl) (fun _ => rfl) (fun _ => rfl) d_Model_fingerprint_15 (fun h3 => ?_)
  refine ax_aload_n B 0 d_Model_fingerprint_18 rfl rfl ?_
  refine ax_getfi B cl_Model (by decide) fk_Model_119 d_Model_fingerprint_19 (fun v4 => ?_)
  refine ax_if_le B 27 d_Model_fingerprint_22 (by decide) ?_ ?_
  · refine ax_aload_n B 0 d_Model_fingerprint_27 rfl rfl ?_
    refine ax_bipush (v := 6) B d_Model_fingerprint_28 (by decide) ?_
    refine ax_iload_n B 1 d_Model_fingerprint_30 rfl rfl ?_
    refine ax_imul B d_Model_fingerprint_31 ?_
    refine ax_iload_n B 2 d_Model_fingerprint_32 rfl rfl ?_
    refine ax_iadd B d_Model_fingerprint_33 ?_
    refine ax_iconst (v := 1) B d_Model_fingerprint_34 (by decide) ?_
    refine ax_callVv (av := [ax_I ((6 * x1) + x2), ax_I 1]) (rest := []) B E hm_Model_draftText cl_Model rfl wd_1237 wp_71 lk_Model_347 d_Model_fingerprint_35 rfl (Nat.le_of_ble_eq_true rfl) (fun _ _ hh => hcall 189 _ _ _ _ hh) (fun h5 => ?_)
    refine ax_ldc2 (v := (-4513414715797952619)) B wd_1247 d_Model_fingerprint_38 ?_
    refine ax_lstore_n (tv2 := [(3, ax_L (-4513414715797952619)), (0, ax_A x0), (1, ax_I x1), (2, ax_I x2)]) B d_Model_fingerprint_41 rfl (by decide) rfl ?_
    refine ax_iconst (v := 0) B d_Model_fingerprint_42 (by decide) ?_
    refine ax_istore (tv2 := [(5, ax_I 0), (3, ax_L (-4513414715797952619)), (0, ax_A x0), (1, ax_I x1), (2, ax_I x2)]) B d_Model_fingerprint_43 (by decide) rfl ?_
    refine ax_sub (tv2 := [(0, ax_A x0), (3, ax_L (-4513414715797952619)), (5, ax_I 0)]) [2, 1, 0] rfl ?_
    exact Model_fingerprint_lq45 hcall B E Nm ax_fuel x0 (-4513414715797952619) 0 h5
  · refine ax_lconst (v := 0) B d_Model_fingerprint_25 (by decide) ?_
    exact ax_lreturn B d_Model_fingerprint_26
def Model_fingerprint_b (call : ax_Cf) (x0 : Option Nat) (x1 : Int32) (x2 : Int32) (h : ax_Hp) : ax_O :=
  ax_on h x0 9 <| ax_ci (call 187 [ax_A x0, ax_I x1, ax_I x2] h) fun v2 h1 =>
  if v2 = 0 then
    Model_fingerprint_jn15 call x0 x1 x2 1 x0 h1
  else
    Model_fingerprint_jn15 call x0 x1 x2 0 x0 h1
set_option maxHeartbeats 4000000 in
set_option maxRecDepth 20000 in
theorem Model_fingerprint_t {l : Launch} {G : ax_G} {d : Nat} {call : ax_Cf} (hcall : ax_Hc l G d call) (x0 : Option Nat) (x1 : Int32) (x2 : Int32) (h : ax_Hp) {r : ax_Rs} {h' : ax_Hp} (ho : Model_fingerprint_b call x0 x1 x2 h = some (r, h')) : ax_C l G (d + 1) y_Model_fingerprint (.code y_Model_fingerprint prog_12_method_63_code 9 (some (.long))) [ax_A x0, ax_I x1, ax_I x2] h r h' := by
  refine ax_enter (by decide) (Nat.le_of_ble_eq_true rfl) ho (fun p e s mi args below meth c B E Nm => ?_)
  have B : ax_B G p s mi meth c "SchemaDeskModel" prog_12_method_63_code 9 (some (.long)) := B
  show ax_W G p l e s mi args below meth c 9 (d + 1) h 0 [(0, ax_A x0), (1, ax_I x1), (2, ax_I x2)] [] h (Model_fingerprint_b call x0 x1 x2 h)
  unfold Model_fingerprint_b
  refine ax_aload_n B 0 d_Model_fingerprint_0 rfl rfl ?_
  refine ax_aload_n B 0 d_Model_fingerprint_1 rfl rfl ?_
  refine ax_iload_n B 1 d_Model_fingerprint_2 rfl rfl ?_
  refine ax_iload_n B 2 d_Model_fingerprint_3 rfl rfl ?_
  refine ax_callVi (av := [ax_I x1, ax_I x2]) (rest := [ax_A x0]) B E hm_Model_isVersion cl_Model rfl wd_1229 wp_70 lk_Model_344 d_Model_fingerprint_4 rfl (Nat.le_of_ble_eq_true rfl) (fun _ _ hh => hcall 187 _ _ _ _ hh) (fun v2 h1 => ?_)
  refine ax_if_eq B 14 d_Model_fingerprint_7 (by decide) ?_ ?_
  · refine ax_iconst (v := 1) B d_Model_fingerprint_14 (by decide) ?_
    refine ax_sub (tv2 := [(0, ax_A x0), (1, ax_I x1), (2, ax_I x2)]) [0, 1, 2] rfl ?_
    exact Model_fingerprint_jq15 hcall B E Nm x0 x1 x2 1 x0 h1
  · refine ax_iconst (v := 0) B d_Model_fingerprint_10 (by decide) ?_
    refine ax_goto B 15 d_Model_fingerprint_11 (by decide) ?_
    refine ax_sub (tv2 := [(0, ax_A x0), (1, ax_I x1), (2, ax_I x2)]) [0, 1, 2] rfl ?_
    exact Model_fingerprint_jq15 hcall B E Nm x0 x1 x2 0 x0 h1

theorem d_Model_encode_0 : decode prog_12_method_64_code 0 = .ok (.aload_n 0, 1) := by decide +kernel
theorem d_Model_encode_1 : decode prog_12_method_64_code 1 = .ok (.aload_n 0, 1) := by decide +kernel
theorem d_Model_encode_2 : decode prog_12_method_64_code 2 = .ok (.iload_n 1, 1) := by decide +kernel
theorem d_Model_encode_3 : decode prog_12_method_64_code 3 = .ok (.iload_n 2, 1) := by decide +kernel
theorem d_Model_encode_4 : decode prog_12_method_64_code 4 = .ok (.invokevirtual 344, 3) := by decide +kernel
theorem d_Model_encode_7 : decode prog_12_method_64_code 7 = .ok (.ifCond .eq 7, 3) := by decide +kernel
theorem d_Model_encode_10 : decode prog_12_method_64_code 10 = .ok (.iconst 0, 1) := by decide +kernel
theorem d_Model_encode_11 : decode prog_12_method_64_code 11 = .ok (.goto 4, 3) := by decide +kernel
theorem d_Model_encode_14 : decode prog_12_method_64_code 14 = .ok (.iconst 1, 1) := by decide +kernel
theorem d_Model_encode_15 : decode prog_12_method_64_code 15 = .ok (.putfield 119, 3) := by decide +kernel
theorem d_Model_encode_18 : decode prog_12_method_64_code 18 = .ok (.aload_n 0, 1) := by decide +kernel
theorem d_Model_encode_19 : decode prog_12_method_64_code 19 = .ok (.getfield 119, 3) := by decide +kernel
theorem d_Model_encode_22 : decode prog_12_method_64_code 22 = .ok (.ifCond .le 5, 3) := by decide +kernel
theorem d_Model_encode_25 : decode prog_12_method_64_code 25 = .ok (.iconst 0, 1) := by decide +kernel
theorem d_Model_encode_26 : decode prog_12_method_64_code 26 = .ok (.ireturn, 1) := by decide +kernel
theorem d_Model_encode_27 : decode prog_12_method_64_code 27 = .ok (.aload_n 0, 1) := by decide +kernel
theorem d_Model_encode_28 : decode prog_12_method_64_code 28 = .ok (.iconst 0, 1) := by decide +kernel
theorem d_Model_encode_29 : decode prog_12_method_64_code 29 = .ok (.bipush 6, 2) := by decide +kernel
theorem d_Model_encode_31 : decode prog_12_method_64_code 31 = .ok (.iload_n 1, 1) := by decide +kernel
theorem d_Model_encode_32 : decode prog_12_method_64_code 32 = .ok (.imul, 1) := by decide +kernel
theorem d_Model_encode_33 : decode prog_12_method_64_code 33 = .ok (.iload_n 2, 1) := by decide +kernel
theorem d_Model_encode_34 : decode prog_12_method_64_code 34 = .ok (.iadd, 1) := by decide +kernel
theorem d_Model_encode_35 : decode prog_12_method_64_code 35 = .ok (.invokevirtual 331, 3) := by decide +kernel
theorem d_Model_encode_38 : decode prog_12_method_64_code 38 = .ok (.aload_n 0, 1) := by decide +kernel
theorem d_Model_encode_39 : decode prog_12_method_64_code 39 = .ok (.iconst 0, 1) := by decide +kernel
theorem d_Model_encode_40 : decode prog_12_method_64_code 40 = .ok (.putfield 170, 3) := by decide +kernel
theorem d_Model_encode_43 : decode prog_12_method_64_code 43 = .ok (.aload_n 0, 1) := by decide +kernel
theorem d_Model_encode_44 : decode prog_12_method_64_code 44 = .ok (.iconst 0, 1) := by decide +kernel
theorem d_Model_encode_45 : decode prog_12_method_64_code 45 = .ok (.iconst 0, 1) := by decide +kernel
theorem d_Model_encode_46 : decode prog_12_method_64_code 46 = .ok (.iconst 0, 1) := by decide +kernel
theorem d_Model_encode_47 : decode prog_12_method_64_code 47 = .ok (.iconst 1, 1) := by decide +kernel
theorem d_Model_encode_48 : decode prog_12_method_64_code 48 = .ok (.invokevirtual 166, 3) := by decide +kernel
theorem d_Model_encode_51 : decode prog_12_method_64_code 51 = .ok (.istore_n 3, 1) := by decide +kernel
theorem d_Model_encode_52 : decode prog_12_method_64_code 52 = .ok (.iload_n 3, 1) := by decide +kernel
theorem d_Model_encode_53 : decode prog_12_method_64_code 53 = .ok (.aload_n 0, 1) := by decide +kernel
theorem d_Model_encode_54 : decode prog_12_method_64_code 54 = .ok (.getfield 124, 3) := by decide +kernel
theorem d_Model_encode_57 : decode prog_12_method_64_code 57 = .ok (.if_icmp .ge 25, 3) := by decide +kernel
theorem d_Model_encode_60 : decode prog_12_method_64_code 60 = .ok (.aload_n 0, 1) := by decide +kernel
theorem d_Model_encode_61 : decode prog_12_method_64_code 61 = .ok (.iload_n 3, 1) := by decide +kernel
theorem d_Model_encode_62 : decode prog_12_method_64_code 62 = .ok (.ifCond .ge 9, 3) := by decide +kernel
theorem d_Model_encode_65 : decode prog_12_method_64_code 65 = .ok (.iconst (-1), 1) := by decide +kernel
theorem d_Model_encode_66 : decode prog_12_method_64_code 66 = .ok (.iload_n 3, 1) := by decide +kernel
theorem d_Model_encode_67 : decode prog_12_method_64_code 67 = .ok (.isub, 1) := by decide +kernel
theorem d_Model_encode_68 : decode prog_12_method_64_code 68 = .ok (.goto 4, 3) := by decide +kernel
theorem d_Model_encode_71 : decode prog_12_method_64_code 71 = .ok (.iload_n 3, 1) := by decide +kernel
theorem d_Model_encode_72 : decode prog_12_method_64_code 72 = .ok (.putfield 23, 3) := by decide +kernel
theorem d_Model_encode_75 : decode prog_12_method_64_code 75 = .ok (.aload_n 0, 1) := by decide +kernel
theorem d_Model_encode_76 : decode prog_12_method_64_code 76 = .ok (.iconst 1, 1) := by decide +kernel
theorem d_Model_encode_77 : decode prog_12_method_64_code 77 = .ok (.putfield 119, 3) := by decide +kernel
theorem d_Model_encode_80 : decode prog_12_method_64_code 80 = .ok (.iconst 0, 1) := by decide +kernel
theorem d_Model_encode_81 : decode prog_12_method_64_code 81 = .ok (.ireturn, 1) := by decide +kernel
theorem d_Model_encode_82 : decode prog_12_method_64_code 82 = .ok (.aload_n 0, 1) := by decide +kernel
theorem d_Model_encode_83 : decode prog_12_method_64_code 83 = .ok (.iconst 0, 1) := by decide +kernel
theorem d_Model_encode_84 : decode prog_12_method_64_code 84 = .ok (.putfield 130, 3) := by decide +kernel
theorem d_Model_encode_87 : decode prog_12_method_64_code 87 = .ok (.aload_n 0, 1) := by decide +kernel
theorem d_Model_encode_88 : decode prog_12_method_64_code 88 = .ok (.iconst 1, 1) := by decide +kernel
theorem d_Model_encode_89 : decode prog_12_method_64_code 89 = .ok (.putfield 170, 3) := by decide +kernel
theorem d_Model_encode_92 : decode prog_12_method_64_code 92 = .ok (.aload_n 0, 1) := by decide +kernel
theorem d_Model_encode_93 : decode prog_12_method_64_code 93 = .ok (.iconst 0, 1) := by decide +kernel
theorem d_Model_encode_94 : decode prog_12_method_64_code 94 = .ok (.iconst 0, 1) := by decide +kernel
theorem d_Model_encode_95 : decode prog_12_method_64_code 95 = .ok (.iconst 0, 1) := by decide +kernel
theorem d_Model_encode_96 : decode prog_12_method_64_code 96 = .ok (.iconst 1, 1) := by decide +kernel
theorem d_Model_encode_97 : decode prog_12_method_64_code 97 = .ok (.invokevirtual 166, 3) := by decide +kernel
theorem d_Model_encode_100 : decode prog_12_method_64_code 100 = .ok (.pop, 1) := by decide +kernel
theorem d_Model_encode_101 : decode prog_12_method_64_code 101 = .ok (.aload_n 0, 1) := by decide +kernel
theorem d_Model_encode_102 : decode prog_12_method_64_code 102 = .ok (.iconst 0, 1) := by decide +kernel
theorem d_Model_encode_103 : decode prog_12_method_64_code 103 = .ok (.putfield 170, 3) := by decide +kernel
theorem d_Model_encode_106 : decode prog_12_method_64_code 106 = .ok (.aload_n 0, 1) := by decide +kernel
theorem d_Model_encode_107 : decode prog_12_method_64_code 107 = .ok (.iconst 0, 1) := by decide +kernel
theorem d_Model_encode_108 : decode prog_12_method_64_code 108 = .ok (.putfield 124, 3) := by decide +kernel
theorem d_Model_encode_111 : decode prog_12_method_64_code 111 = .ok (.aload_n 0, 1) := by decide +kernel
theorem d_Model_encode_112 : decode prog_12_method_64_code 112 = .ok (.iconst (-1), 1) := by decide +kernel
theorem d_Model_encode_113 : decode prog_12_method_64_code 113 = .ok (.putfield 23, 3) := by decide +kernel
theorem d_Model_encode_116 : decode prog_12_method_64_code 116 = .ok (.aload_n 0, 1) := by decide +kernel
theorem d_Model_encode_117 : decode prog_12_method_64_code 117 = .ok (.invokevirtual 351, 3) := by decide +kernel
theorem d_Model_encode_120 : decode prog_12_method_64_code 120 = .ok (.ireturn, 1) := by decide +kernel
def Model_encode_jn72 (call : ax_Cf)  (x0 : Option Nat) (s0 : Int32) (s1 : Option Nat) (h : ax_Hp) : ax_O :=
  (ax_pf h s1 9 9 (ax_I s0)).bind fun h20 =>
  (ax_pf h20 x0 9 0 (ax_I 1)).bind fun h21 =>
  ax_ri 0 h21
set_option maxHeartbeats 4000000 in
set_option maxRecDepth 20000 in
theorem Model_encode_jq72 {l : Launch} {G : ax_G} {d : Nat} {call : ax_Cf} (hcall : ax_Hc l G d call) {p : Program} {e : Env} {s : State} {mi : MethodId} {args : Array Value} {below : List Frame} {meth : Method} {c : Code} {h0 : ax_Hp} (B : ax_B G p s mi meth c "SchemaDeskModel" prog_12_method_64_code 4 (some (.int))) (E : c.exceptionTable.isEmpty = true) (Nm : meth.name = y_Model_encode.name)   (x0 : Option Nat) (s0 : Int32) (s1 : Option Nat) (h : ax_Hp) : ax_W G p l e s mi args below meth c 4 (d + 1) h0 72 [(0, ax_A x0)] [ax_I s0, ax_A s1] h (Model_encode_jn72 call  x0 s0 s1 h) := by
  unfold Model_encode_jn72
  refine ax_putf (v := ax_I s0) B cl_Model (by decide) fk_Model_23 (Or.inl rfl) (fun _ => rfl) (fun _ => rfl) d_Model_encode_72 (fun h20 => ?_)
  refine ax_aload_n B 0 d_Model_encode_75 rfl rfl ?_
  refine ax_iconst (v := 1) B d_Model_encode_76 (by decide) ?_
  refine ax_putf (v := ax_I 1) B cl_Model (by decide) fk_Model_119 (Or.inl rfl) (fun _ => rfl) (fun _ => rfl) d_Model_encode_77 (fun h21 => ?_)
  refine ax_iconst (v := 0) B d_Model_encode_80 (by decide) ?_
  exact ax_ireturn B d_Model_encode_81
def Model_encode_jn15 (call : ax_Cf)  (x0 : Option Nat) (x1 : Int32) (x2 : Int32) (s0 : Int32) (s1 : Option Nat) (h : ax_Hp) : ax_O :=
  (ax_pf h s1 9 0 (ax_I s0)).bind fun h3 =>
  (ax_gi h3 x0 9 0).bind fun v4 =>
  if v4 ≤ 0 then
    ax_on h3 x0 9 <| ax_cv (call 180 [ax_A x0, ax_I 0, ax_I ((6 * x1) + x2)] h3) fun h5 =>
    (ax_pf h5 x0 9 39 (ax_I 0)).bind fun h7 =>
    ax_on h7 x0 9 <| ax_ci (call 156 [ax_A x0, ax_I 0, ax_I 0, ax_I 0, ax_I 1] h7) fun v9 h8 =>
    (ax_gi h8 x0 9 1).bind fun v10 =>
    if v10 ≤ v9 then
      (ax_pf h8 x0 9 7 (ax_I 0)).bind fun h11 =>
      (ax_pf h11 x0 9 39 (ax_I 1)).bind fun h12 =>
      ax_on h12 x0 9 <| ax_ci (call 156 [ax_A x0, ax_I 0, ax_I 0, ax_I 0, ax_I 1] h12) fun v14 h13 =>
      (ax_pf h13 x0 9 39 (ax_I 0)).bind fun h15 =>
      (ax_pf h15 x0 9 1 (ax_I 0)).bind fun h16 =>
      (ax_pf h16 x0 9 9 (ax_I (-1))).bind fun h17 =>
      ax_on h17 x0 9 <| ax_ci (call 190 [ax_A x0] h17) fun v19 h18 =>
      ax_ri v19 h18
    else
      if 0 ≤ v9 then
        Model_encode_jn72 call x0 v9 x0 h8
      else
        Model_encode_jn72 call x0 ((-1) - v9) x0 h8
  else
    ax_ri 0 h3
set_option maxHeartbeats 4000000 in
set_option maxRecDepth 20000 in
theorem Model_encode_jq15 {l : Launch} {G : ax_G} {d : Nat} {call : ax_Cf} (hcall : ax_Hc l G d call) {p : Program} {e : Env} {s : State} {mi : MethodId} {args : Array Value} {below : List Frame} {meth : Method} {c : Code} {h0 : ax_Hp} (B : ax_B G p s mi meth c "SchemaDeskModel" prog_12_method_64_code 4 (some (.int))) (E : c.exceptionTable.isEmpty = true) (Nm : meth.name = y_Model_encode.name)   (x0 : Option Nat) (x1 : Int32) (x2 : Int32) (s0 : Int32) (s1 : Option Nat) (h : ax_Hp) : ax_W G p l e s mi args below meth c 4 (d + 1) h0 15 [(0, ax_A x0), (1, ax_I x1), (2, ax_I x2)] [ax_I s0, ax_A s1] h (Model_encode_jn15 call  x0 x1 x2 s0 s1 h) := by
  unfold Model_encode_jn15
  refine ax_putf (v := ax_I s0) B cl_Model (by decide) fk_Model_119 (Or.inl rfl) (fun _ => rfl) (fun _ => rfl) d_Model_encode_15 (fun h3 => ?_)
  refine ax_aload_n B 0 d_Model_encode_18 rfl rfl ?_
  refine ax_getfi B cl_Model (by decide) fk_Model_119 d_Model_encode_19 (fun v4 => ?_)
  refine ax_if_le B 27 d_Model_encode_22 (by decide) ?_ ?_
  · refine ax_aload_n B 0 d_Model_encode_27 rfl rfl ?_
    refine ax_iconst (v := 0) B d_Model_encode_28 (by decide) ?_
    refine ax_bipush (v := 6) B d_Model_encode_29 (by decide) ?_
    refine ax_iload_n B 1 d_Model_encode_31 rfl rfl ?_
    refine ax_imul B d_Model_encode_32 ?_
    refine ax_iload_n B 2 d_Model_encode_33 rfl rfl ?_
    refine ax_iadd B d_Model_encode_34 ?_
    refine ax_callVv (av := [ax_I 0, ax_I ((6 * x1) + x2)]) (rest := []) B E hm_Model_load cl_Model rfl wd_1201 wp_65 lk_Model_331 d_Model_encode_35 rfl (Nat.le_of_ble_eq_true rfl) (fun _ _ hh => hcall 180 _ _ _ _ hh) (fun h5 => ?_)
    refine ax_aload_n B 0 d_Model_encode_38 rfl rfl ?_
    refine ax_iconst (v := 0) B d_Model_encode_39 (by decide) ?_
    refine ax_putf (v := ax_I 0) B cl_Model (by decide) fk_Model_170 (Or.inl rfl) (fun _ => rfl) (fun _ => rfl) d_Model_encode_40 (fun h7 => ?_)
    refine ax_aload_n B 0 d_Model_encode_43 rfl rfl ?_
    refine ax_iconst (v := 0) B d_Model_encode_44 (by decide) ?_
    refine ax_iconst (v := 0) B d_Model_encode_45 (by decide) ?_
    refine ax_iconst (v := 0) B d_Model_encode_46 (by decide) ?_
    refine ax_iconst (v := 1) B d_Model_encode_47 (by decide) ?_
    refine ax_callVi (av := [ax_I 0, ax_I 0, ax_I 0, ax_I 1]) (rest := []) B E hm_Model_readText cl_Model rfl wd_1100 wp_42 lk_Model_166 d_Model_encode_48 rfl (Nat.le_of_ble_eq_true rfl) (fun _ _ hh => hcall 156 _ _ _ _ hh) (fun v9 h8 => ?_)
    refine ax_istore_n (tv2 := [(3, ax_I v9), (0, ax_A x0), (1, ax_I x1), (2, ax_I x2)]) B d_Model_encode_51 rfl (by decide) rfl ?_
    refine ax_iload_n B 0 d_Model_encode_52 rfl rfl ?_
    refine ax_aload_n B 1 d_Model_encode_53 rfl rfl ?_
    refine ax_getfi B cl_Model (by decide) fk_Model_124 d_Model_encode_54 (fun v10 => ?_)
    refine ax_icmp_ge B 82 d_Model_encode_57 (by decide) ?_ ?_
    · refine ax_aload_n B 1 d_Model_encode_82 rfl rfl ?_
      refine ax_iconst (v := 0) B d_Model_encode_83 (by decide) ?_
      refine ax_putf (v := ax_I 0) B cl_Model (by decide) fk_Model_130 (Or.inl rfl) (fun _ => rfl) (fun _ => rfl) d_Model_encode_84 (fun h11 => ?_)
      refine ax_aload_n B 1 d_Model_encode_87 rfl rfl ?_
      refine ax_iconst (v := 1) B d_Model_encode_88 (by decide) ?_
      refine ax_putf (v := ax_I 1) B cl_Model (by decide) fk_Model_170 (Or.inl rfl) (fun _ => rfl) (fun _ => rfl) d_Model_encode_89 (fun h12 => ?_)
      refine ax_aload_n B 1 d_Model_encode_92 rfl rfl ?_
      refine ax_iconst (v := 0) B d_Model_encode_93 (by decide) ?_
      refine ax_iconst (v := 0) B d_Model_encode_94 (by decide) ?_
      refine ax_iconst (v := 0) B d_Model_encode_95 (by decide) ?_
      refine ax_iconst (v := 1) B d_Model_encode_96 (by decide) ?_
      refine ax_callVi (av := [ax_I 0, ax_I 0, ax_I 0, ax_I 1]) (rest := []) B E hm_Model_readText cl_Model rfl wd_1100 wp_42 lk_Model_166 d_Model_encode_97 rfl (Nat.le_of_ble_eq_true rfl) (fun _ _ hh => hcall 156 _ _ _ _ hh) (fun v14 h13 => ?_)
      refine ax_pop B d_Model_encode_100 rfl ?_
      refine ax_aload_n B 1 d_Model_encode_101 rfl rfl ?_
      refine ax_iconst (v := 0) B d_Model_encode_102 (by decide) ?_
      refine ax_putf (v := ax_I 0) B cl_Model (by decide) fk_Model_170 (Or.inl rfl) (fun _ => rfl) (fun _ => rfl) d_Model_encode_103 (fun h15 => ?_)
      refine ax_aload_n B 1 d_Model_encode_106 rfl rfl ?_
      refine ax_iconst (v := 0) B d_Model_encode_107 (by decide) ?_
      refine ax_putf (v := ax_I 0) B cl_Model (by decide) fk_Model_124 (Or.inl rfl) (fun _ => rfl) (fun _ => rfl) d_Model_encode_108 (fun h16 => ?_)
      refine ax_aload_n B 1 d_Model_encode_111 rfl rfl ?_
      refine ax_iconst (v := (-1)) B d_Model_encode_112 (by decide) ?_
      refine ax_putf (v := ax_I (-1)) B cl_Model (by decide) fk_Model_23 (Or.inl rfl) (fun _ => rfl) (fun _ => rfl) d_Model_encode_113 (fun h17 => ?_)
      refine ax_aload_n B 1 d_Model_encode_116 rfl rfl ?_
      refine ax_callVi (av := []) (rest := []) B E hm_Model_keep cl_Model rfl wd_1241 wp_72 lk_Model_351 d_Model_encode_117 rfl (Nat.le_of_ble_eq_true rfl) (fun _ _ hh => hcall 190 _ _ _ _ hh) (fun v19 h18 => ?_)
      exact ax_ireturn B d_Model_encode_120
    · refine ax_aload_n B 1 d_Model_encode_60 rfl rfl ?_
      refine ax_iload_n B 0 d_Model_encode_61 rfl rfl ?_
      refine ax_if_ge B 71 d_Model_encode_62 (by decide) ?_ ?_
      · refine ax_iload_n B 0 d_Model_encode_71 rfl rfl ?_
        refine ax_sub (tv2 := [(0, ax_A x0)]) [1] rfl ?_
        exact Model_encode_jq72 hcall B E Nm x0 v9 x0 h8
      · refine ax_iconst (v := (-1)) B d_Model_encode_65 (by decide) ?_
        refine ax_iload_n B 0 d_Model_encode_66 rfl rfl ?_
        refine ax_isub B d_Model_encode_67 ?_
        refine ax_goto B 72 d_Model_encode_68 (by decide) ?_
        refine ax_sub (tv2 := [(0, ax_A x0)]) [1] rfl ?_
        exact Model_encode_jq72 hcall B E Nm x0 ((-1) - v9) x0 h8
  · refine ax_iconst (v := 0) B d_Model_encode_25 (by decide) ?_
    exact ax_ireturn B d_Model_encode_26
def Model_encode_b (call : ax_Cf) (x0 : Option Nat) (x1 : Int32) (x2 : Int32) (h : ax_Hp) : ax_O :=
  ax_on h x0 9 <| ax_ci (call 187 [ax_A x0, ax_I x1, ax_I x2] h) fun v2 h1 =>
  if v2 = 0 then
    Model_encode_jn15 call x0 x1 x2 1 x0 h1
  else
    Model_encode_jn15 call x0 x1 x2 0 x0 h1
set_option maxHeartbeats 4000000 in
set_option maxRecDepth 20000 in
theorem Model_encode_t {l : Launch} {G : ax_G} {d : Nat} {call : ax_Cf} (hcall : ax_Hc l G d call) (x0 : Option Nat) (x1 : Int32) (x2 : Int32) (h : ax_Hp) {r : ax_Rs} {h' : ax_Hp} (ho : Model_encode_b call x0 x1 x2 h = some (r, h')) : ax_C l G (d + 1) y_Model_encode (.code y_Model_encode prog_12_method_64_code 4 (some (.int))) [ax_A x0, ax_I x1, ax_I x2] h r h' := by
  refine ax_enter (by decide) (Nat.le_of_ble_eq_true rfl) ho (fun p e s mi args below meth c B E Nm => ?_)
  have B : ax_B G p s mi meth c "SchemaDeskModel" prog_12_method_64_code 4 (some (.int)) := B
  show ax_W G p l e s mi args below meth c 4 (d + 1) h 0 [(0, ax_A x0), (1, ax_I x1), (2, ax_I x2)] [] h (Model_encode_b call x0 x1 x2 h)
  unfold Model_encode_b
  refine ax_aload_n B 0 d_Model_encode_0 rfl rfl ?_
  refine ax_aload_n B 0 d_Model_encode_1 rfl rfl ?_
  refine ax_iload_n B 1 d_Model_encode_2 rfl rfl ?_
  refine ax_iload_n B 2 d_Model_encode_3 rfl rfl ?_
  refine ax_callVi (av := [ax_I x1, ax_I x2]) (rest := [ax_A x0]) B E hm_Model_isVersion cl_Model rfl wd_1229 wp_70 lk_Model_344 d_Model_encode_4 rfl (Nat.le_of_ble_eq_true rfl) (fun _ _ hh => hcall 187 _ _ _ _ hh) (fun v2 h1 => ?_)
  refine ax_if_eq B 14 d_Model_encode_7 (by decide) ?_ ?_
  · refine ax_iconst (v := 1) B d_Model_encode_14 (by decide) ?_
    refine ax_sub (tv2 := [(0, ax_A x0), (1, ax_I x1), (2, ax_I x2)]) [0, 1, 2] rfl ?_
    exact Model_encode_jq15 hcall B E Nm x0 x1 x2 1 x0 h1
  · refine ax_iconst (v := 0) B d_Model_encode_10 (by decide) ?_
    refine ax_goto B 15 d_Model_encode_11 (by decide) ?_
    refine ax_sub (tv2 := [(0, ax_A x0), (1, ax_I x1), (2, ax_I x2)]) [0, 1, 2] rfl ?_
    exact Model_encode_jq15 hcall B E Nm x0 x1 x2 0 x0 h1

theorem d_Model_decode_0 : decode prog_12_method_65_code 0 = .ok (.aload_n 0, 1) := by decide +kernel
theorem d_Model_decode_1 : decode prog_12_method_65_code 1 = .ok (.aload_n 0, 1) := by decide +kernel
theorem d_Model_decode_2 : decode prog_12_method_65_code 2 = .ok (.iload_n 1, 1) := by decide +kernel
theorem d_Model_decode_3 : decode prog_12_method_65_code 3 = .ok (.iload_n 2, 1) := by decide +kernel
theorem d_Model_decode_4 : decode prog_12_method_65_code 4 = .ok (.invokevirtual 344, 3) := by decide +kernel
theorem d_Model_decode_7 : decode prog_12_method_65_code 7 = .ok (.ifCond .eq 16, 3) := by decide +kernel
theorem d_Model_decode_10 : decode prog_12_method_65_code 10 = .ok (.aload_n 0, 1) := by decide +kernel
theorem d_Model_decode_11 : decode prog_12_method_65_code 11 = .ok (.iload_n 1, 1) := by decide +kernel
theorem d_Model_decode_12 : decode prog_12_method_65_code 12 = .ok (.iload_n 3, 1) := by decide +kernel
theorem d_Model_decode_13 : decode prog_12_method_65_code 13 = .ok (.invokevirtual 344, 3) := by decide +kernel
theorem d_Model_decode_16 : decode prog_12_method_65_code 16 = .ok (.ifCond .eq 7, 3) := by decide +kernel
theorem d_Model_decode_19 : decode prog_12_method_65_code 19 = .ok (.iconst 0, 1) := by decide +kernel
theorem d_Model_decode_20 : decode prog_12_method_65_code 20 = .ok (.goto 4, 3) := by decide +kernel
theorem d_Model_decode_23 : decode prog_12_method_65_code 23 = .ok (.iconst 1, 1) := by decide +kernel
theorem d_Model_decode_24 : decode prog_12_method_65_code 24 = .ok (.putfield 119, 3) := by decide +kernel
theorem d_Model_decode_27 : decode prog_12_method_65_code 27 = .ok (.aload_n 0, 1) := by decide +kernel
theorem d_Model_decode_28 : decode prog_12_method_65_code 28 = .ok (.getfield 119, 3) := by decide +kernel
theorem d_Model_decode_31 : decode prog_12_method_65_code 31 = .ok (.ifCond .le 5, 3) := by decide +kernel
theorem d_Model_decode_34 : decode prog_12_method_65_code 34 = .ok (.iconst 0, 1) := by decide +kernel
theorem d_Model_decode_35 : decode prog_12_method_65_code 35 = .ok (.ireturn, 1) := by decide +kernel
theorem d_Model_decode_36 : decode prog_12_method_65_code 36 = .ok (.aload_n 0, 1) := by decide +kernel
theorem d_Model_decode_37 : decode prog_12_method_65_code 37 = .ok (.iconst 1, 1) := by decide +kernel
theorem d_Model_decode_38 : decode prog_12_method_65_code 38 = .ok (.bipush 6, 2) := by decide +kernel
theorem d_Model_decode_40 : decode prog_12_method_65_code 40 = .ok (.iload_n 1, 1) := by decide +kernel
theorem d_Model_decode_41 : decode prog_12_method_65_code 41 = .ok (.imul, 1) := by decide +kernel
theorem d_Model_decode_42 : decode prog_12_method_65_code 42 = .ok (.iload_n 2, 1) := by decide +kernel
theorem d_Model_decode_43 : decode prog_12_method_65_code 43 = .ok (.iadd, 1) := by decide +kernel
theorem d_Model_decode_44 : decode prog_12_method_65_code 44 = .ok (.invokevirtual 331, 3) := by decide +kernel
theorem d_Model_decode_47 : decode prog_12_method_65_code 47 = .ok (.aload_n 0, 1) := by decide +kernel
theorem d_Model_decode_48 : decode prog_12_method_65_code 48 = .ok (.bipush 120, 2) := by decide +kernel
theorem d_Model_decode_50 : decode prog_12_method_65_code 50 = .ok (.iconst 0, 1) := by decide +kernel
theorem d_Model_decode_51 : decode prog_12_method_65_code 51 = .ok (.invokevirtual 308, 3) := by decide +kernel
theorem d_Model_decode_54 : decode prog_12_method_65_code 54 = .ok (.istore 4, 2) := by decide +kernel
theorem d_Model_decode_56 : decode prog_12_method_65_code 56 = .ok (.iload 4, 2) := by decide +kernel
theorem d_Model_decode_58 : decode prog_12_method_65_code 58 = .ok (.aload_n 0, 1) := by decide +kernel
theorem d_Model_decode_59 : decode prog_12_method_65_code 59 = .ok (.getfield 127, 3) := by decide +kernel
theorem d_Model_decode_62 : decode prog_12_method_65_code 62 = .ok (.if_icmp .ge 28, 3) := by decide +kernel
theorem d_Model_decode_65 : decode prog_12_method_65_code 65 = .ok (.aload_n 0, 1) := by decide +kernel
theorem d_Model_decode_66 : decode prog_12_method_65_code 66 = .ok (.iload 4, 2) := by decide +kernel
theorem d_Model_decode_68 : decode prog_12_method_65_code 68 = .ok (.ifCond .ge 10, 3) := by decide +kernel
theorem d_Model_decode_71 : decode prog_12_method_65_code 71 = .ok (.iconst (-1), 1) := by decide +kernel
theorem d_Model_decode_72 : decode prog_12_method_65_code 72 = .ok (.iload 4, 2) := by decide +kernel
theorem d_Model_decode_74 : decode prog_12_method_65_code 74 = .ok (.isub, 1) := by decide +kernel
theorem d_Model_decode_75 : decode prog_12_method_65_code 75 = .ok (.goto 5, 3) := by decide +kernel
theorem d_Model_decode_78 : decode prog_12_method_65_code 78 = .ok (.iload 4, 2) := by decide +kernel
theorem d_Model_decode_80 : decode prog_12_method_65_code 80 = .ok (.putfield 23, 3) := by decide +kernel
theorem d_Model_decode_83 : decode prog_12_method_65_code 83 = .ok (.aload_n 0, 1) := by decide +kernel
theorem d_Model_decode_84 : decode prog_12_method_65_code 84 = .ok (.iconst 1, 1) := by decide +kernel
theorem d_Model_decode_85 : decode prog_12_method_65_code 85 = .ok (.putfield 119, 3) := by decide +kernel
theorem d_Model_decode_88 : decode prog_12_method_65_code 88 = .ok (.iconst 0, 1) := by decide +kernel
theorem d_Model_decode_89 : decode prog_12_method_65_code 89 = .ok (.ireturn, 1) := by decide +kernel
theorem d_Model_decode_90 : decode prog_12_method_65_code 90 = .ok (.aload_n 0, 1) := by decide +kernel
theorem d_Model_decode_91 : decode prog_12_method_65_code 91 = .ok (.iconst 0, 1) := by decide +kernel
theorem d_Model_decode_92 : decode prog_12_method_65_code 92 = .ok (.bipush 6, 2) := by decide +kernel
theorem d_Model_decode_94 : decode prog_12_method_65_code 94 = .ok (.iload_n 1, 1) := by decide +kernel
theorem d_Model_decode_95 : decode prog_12_method_65_code 95 = .ok (.imul, 1) := by decide +kernel
theorem d_Model_decode_96 : decode prog_12_method_65_code 96 = .ok (.iload_n 3, 1) := by decide +kernel
theorem d_Model_decode_97 : decode prog_12_method_65_code 97 = .ok (.iadd, 1) := by decide +kernel
theorem d_Model_decode_98 : decode prog_12_method_65_code 98 = .ok (.invokevirtual 331, 3) := by decide +kernel
theorem d_Model_decode_101 : decode prog_12_method_65_code 101 = .ok (.aload_n 0, 1) := by decide +kernel
theorem d_Model_decode_102 : decode prog_12_method_65_code 102 = .ok (.invokevirtual 334, 3) := by decide +kernel
theorem d_Model_decode_105 : decode prog_12_method_65_code 105 = .ok (.pop, 1) := by decide +kernel
theorem d_Model_decode_106 : decode prog_12_method_65_code 106 = .ok (.aload_n 0, 1) := by decide +kernel
theorem d_Model_decode_107 : decode prog_12_method_65_code 107 = .ok (.aload_n 0, 1) := by decide +kernel
theorem d_Model_decode_108 : decode prog_12_method_65_code 108 = .ok (.invokevirtual 357, 3) := by decide +kernel
theorem d_Model_decode_111 : decode prog_12_method_65_code 111 = .ok (.ifCond .eq 7, 3) := by decide +kernel
theorem d_Model_decode_114 : decode prog_12_method_65_code 114 = .ok (.iconst 0, 1) := by decide +kernel
theorem d_Model_decode_115 : decode prog_12_method_65_code 115 = .ok (.goto 4, 3) := by decide +kernel
theorem d_Model_decode_118 : decode prog_12_method_65_code 118 = .ok (.iconst 2, 1) := by decide +kernel
theorem d_Model_decode_119 : decode prog_12_method_65_code 119 = .ok (.putfield 119, 3) := by decide +kernel
theorem d_Model_decode_122 : decode prog_12_method_65_code 122 = .ok (.aload_n 0, 1) := by decide +kernel
theorem d_Model_decode_123 : decode prog_12_method_65_code 123 = .ok (.iconst 0, 1) := by decide +kernel
theorem d_Model_decode_124 : decode prog_12_method_65_code 124 = .ok (.putfield 170, 3) := by decide +kernel
theorem d_Model_decode_127 : decode prog_12_method_65_code 127 = .ok (.aload_n 0, 1) := by decide +kernel
theorem d_Model_decode_128 : decode prog_12_method_65_code 128 = .ok (.getfield 119, 3) := by decide +kernel
theorem d_Model_decode_131 : decode prog_12_method_65_code 131 = .ok (.ifCond .le 5, 3) := by decide +kernel
theorem d_Model_decode_134 : decode prog_12_method_65_code 134 = .ok (.iconst 0, 1) := by decide +kernel
theorem d_Model_decode_135 : decode prog_12_method_65_code 135 = .ok (.ireturn, 1) := by decide +kernel
theorem d_Model_decode_136 : decode prog_12_method_65_code 136 = .ok (.aload_n 0, 1) := by decide +kernel
theorem d_Model_decode_137 : decode prog_12_method_65_code 137 = .ok (.iconst 0, 1) := by decide +kernel
theorem d_Model_decode_138 : decode prog_12_method_65_code 138 = .ok (.putfield 127, 3) := by decide +kernel
theorem d_Model_decode_141 : decode prog_12_method_65_code 141 = .ok (.aload_n 0, 1) := by decide +kernel
theorem d_Model_decode_142 : decode prog_12_method_65_code 142 = .ok (.iconst (-1), 1) := by decide +kernel
theorem d_Model_decode_143 : decode prog_12_method_65_code 143 = .ok (.putfield 23, 3) := by decide +kernel
theorem d_Model_decode_146 : decode prog_12_method_65_code 146 = .ok (.aload_n 0, 1) := by decide +kernel
theorem d_Model_decode_147 : decode prog_12_method_65_code 147 = .ok (.invokevirtual 351, 3) := by decide +kernel
theorem d_Model_decode_150 : decode prog_12_method_65_code 150 = .ok (.ireturn, 1) := by decide +kernel
def Model_decode_jn119 (call : ax_Cf)  (x0 : Option Nat) (s0 : Int32) (s1 : Option Nat) (h : ax_Hp) : ax_O :=
  (ax_pf h s1 9 0 (ax_I s0)).bind fun h16 =>
  (ax_pf h16 x0 9 39 (ax_I 0)).bind fun h17 =>
  (ax_gi h17 x0 9 0).bind fun v18 =>
  if v18 ≤ 0 then
    (ax_pf h17 x0 9 3 (ax_I 0)).bind fun h19 =>
    (ax_pf h19 x0 9 9 (ax_I (-1))).bind fun h20 =>
    ax_on h20 x0 9 <| ax_ci (call 190 [ax_A x0] h20) fun v22 h21 =>
    ax_ri v22 h21
  else
    ax_ri 0 h17
set_option maxHeartbeats 4000000 in
set_option maxRecDepth 20000 in
theorem Model_decode_jq119 {l : Launch} {G : ax_G} {d : Nat} {call : ax_Cf} (hcall : ax_Hc l G d call) {p : Program} {e : Env} {s : State} {mi : MethodId} {args : Array Value} {below : List Frame} {meth : Method} {c : Code} {h0 : ax_Hp} (B : ax_B G p s mi meth c "SchemaDeskModel" prog_12_method_65_code 5 (some (.int))) (E : c.exceptionTable.isEmpty = true) (Nm : meth.name = y_Model_decode.name)   (x0 : Option Nat) (s0 : Int32) (s1 : Option Nat) (h : ax_Hp) : ax_W G p l e s mi args below meth c 5 (d + 1) h0 119 [(0, ax_A x0)] [ax_I s0, ax_A s1] h (Model_decode_jn119 call  x0 s0 s1 h) := by
  unfold Model_decode_jn119
  refine ax_putf (v := ax_I s0) B cl_Model (by decide) fk_Model_119 (Or.inl rfl) (fun _ => rfl) (fun _ => rfl) d_Model_decode_119 (fun h16 => ?_)
  refine ax_aload_n B 0 d_Model_decode_122 rfl rfl ?_
  refine ax_iconst (v := 0) B d_Model_decode_123 (by decide) ?_
  refine ax_putf (v := ax_I 0) B cl_Model (by decide) fk_Model_170 (Or.inl rfl) (fun _ => rfl) (fun _ => rfl) d_Model_decode_124 (fun h17 => ?_)
  refine ax_aload_n B 0 d_Model_decode_127 rfl rfl ?_
  refine ax_getfi B cl_Model (by decide) fk_Model_119 d_Model_decode_128 (fun v18 => ?_)
  refine ax_if_le B 136 d_Model_decode_131 (by decide) ?_ ?_
  · refine ax_aload_n B 0 d_Model_decode_136 rfl rfl ?_
    refine ax_iconst (v := 0) B d_Model_decode_137 (by decide) ?_
    refine ax_putf (v := ax_I 0) B cl_Model (by decide) fk_Model_127 (Or.inl rfl) (fun _ => rfl) (fun _ => rfl) d_Model_decode_138 (fun h19 => ?_)
    refine ax_aload_n B 0 d_Model_decode_141 rfl rfl ?_
    refine ax_iconst (v := (-1)) B d_Model_decode_142 (by decide) ?_
    refine ax_putf (v := ax_I (-1)) B cl_Model (by decide) fk_Model_23 (Or.inl rfl) (fun _ => rfl) (fun _ => rfl) d_Model_decode_143 (fun h20 => ?_)
    refine ax_aload_n B 0 d_Model_decode_146 rfl rfl ?_
    refine ax_callVi (av := []) (rest := []) B E hm_Model_keep cl_Model rfl wd_1241 wp_72 lk_Model_351 d_Model_decode_147 rfl (Nat.le_of_ble_eq_true rfl) (fun _ _ hh => hcall 190 _ _ _ _ hh) (fun v22 h21 => ?_)
    exact ax_ireturn B d_Model_decode_150
  · refine ax_iconst (v := 0) B d_Model_decode_134 (by decide) ?_
    exact ax_ireturn B d_Model_decode_135
def Model_decode_jn80 (call : ax_Cf)  (x0 : Option Nat) (s0 : Int32) (s1 : Option Nat) (h : ax_Hp) : ax_O :=
  (ax_pf h s1 9 9 (ax_I s0)).bind fun h23 =>
  (ax_pf h23 x0 9 0 (ax_I 1)).bind fun h24 =>
  ax_ri 0 h24
set_option maxHeartbeats 4000000 in
set_option maxRecDepth 20000 in
theorem Model_decode_jq80 {l : Launch} {G : ax_G} {d : Nat} {call : ax_Cf} (hcall : ax_Hc l G d call) {p : Program} {e : Env} {s : State} {mi : MethodId} {args : Array Value} {below : List Frame} {meth : Method} {c : Code} {h0 : ax_Hp} (B : ax_B G p s mi meth c "SchemaDeskModel" prog_12_method_65_code 5 (some (.int))) (E : c.exceptionTable.isEmpty = true) (Nm : meth.name = y_Model_decode.name)   (x0 : Option Nat) (s0 : Int32) (s1 : Option Nat) (h : ax_Hp) : ax_W G p l e s mi args below meth c 5 (d + 1) h0 80 [(0, ax_A x0)] [ax_I s0, ax_A s1] h (Model_decode_jn80 call  x0 s0 s1 h) := by
  unfold Model_decode_jn80
  refine ax_putf (v := ax_I s0) B cl_Model (by decide) fk_Model_23 (Or.inl rfl) (fun _ => rfl) (fun _ => rfl) d_Model_decode_80 (fun h23 => ?_)
  refine ax_aload_n B 0 d_Model_decode_83 rfl rfl ?_
  refine ax_iconst (v := 1) B d_Model_decode_84 (by decide) ?_
  refine ax_putf (v := ax_I 1) B cl_Model (by decide) fk_Model_119 (Or.inl rfl) (fun _ => rfl) (fun _ => rfl) d_Model_decode_85 (fun h24 => ?_)
  refine ax_iconst (v := 0) B d_Model_decode_88 (by decide) ?_
  exact ax_ireturn B d_Model_decode_89
def Model_decode_jn24 (call : ax_Cf)  (x0 : Option Nat) (x1 : Int32) (x2 : Int32) (x3 : Int32) (s0 : Int32) (s1 : Option Nat) (h : ax_Hp) : ax_O :=
  (ax_pf h s1 9 0 (ax_I s0)).bind fun h3 =>
  (ax_gi h3 x0 9 0).bind fun v4 =>
  if v4 ≤ 0 then
    ax_on h3 x0 9 <| ax_cv (call 180 [ax_A x0, ax_I 1, ax_I ((6 * x1) + x2)] h3) fun h5 =>
    ax_on h5 x0 9 <| ax_ci (call 194 [ax_A x0, ax_I 120, ax_I 0] h5) fun v8 h7 =>
    (ax_gi h7 x0 9 3).bind fun v9 =>
    if v9 ≤ v8 then
      ax_on h7 x0 9 <| ax_cv (call 180 [ax_A x0, ax_I 0, ax_I ((6 * x1) + x3)] h7) fun h10 =>
      ax_on h10 x0 9 <| ax_ci (call 181 [ax_A x0] h10) fun v13 h12 =>
      ax_on h12 x0 9 <| ax_ci (call 202 [ax_A x0] h12) fun v15 h14 =>
      if v15 = 0 then
        Model_decode_jn119 call x0 2 x0 h14
      else
        Model_decode_jn119 call x0 0 x0 h14
    else
      if 0 ≤ v8 then
        Model_decode_jn80 call x0 v8 x0 h7
      else
        Model_decode_jn80 call x0 ((-1) - v8) x0 h7
  else
    ax_ri 0 h3
set_option maxHeartbeats 4000000 in
set_option maxRecDepth 20000 in
theorem Model_decode_jq24 {l : Launch} {G : ax_G} {d : Nat} {call : ax_Cf} (hcall : ax_Hc l G d call) {p : Program} {e : Env} {s : State} {mi : MethodId} {args : Array Value} {below : List Frame} {meth : Method} {c : Code} {h0 : ax_Hp} (B : ax_B G p s mi meth c "SchemaDeskModel" prog_12_method_65_code 5 (some (.int))) (E : c.exceptionTable.isEmpty = true) (Nm : meth.name = y_Model_decode.name)   (x0 : Option Nat) (x1 : Int32) (x2 : Int32) (x3 : Int32) (s0 : Int32) (s1 : Option Nat) (h : ax_Hp) : ax_W G p l e s mi args below meth c 5 (d + 1) h0 24 [(0, ax_A x0), (1, ax_I x1), (2, ax_I x2), (3, ax_I x3)] [ax_I s0, ax_A s1] h (Model_decode_jn24 call  x0 x1 x2 x3 s0 s1 h) := by
  unfold Model_decode_jn24
  refine ax_putf (v := ax_I s0) B cl_Model (by decide) fk_Model_119 (Or.inl rfl) (fun _ => rfl) (fun _ => rfl) d_Model_decode_24 (fun h3 => ?_)
  refine ax_aload_n B 0 d_Model_decode_27 rfl rfl ?_
  refine ax_getfi B cl_Model (by decide) fk_Model_119 d_Model_decode_28 (fun v4 => ?_)
  refine ax_if_le B 36 d_Model_decode_31 (by decide) ?_ ?_
  · refine ax_aload_n B 0 d_Model_decode_36 rfl rfl ?_
    refine ax_iconst (v := 1) B d_Model_decode_37 (by decide) ?_
    refine ax_bipush (v := 6) B d_Model_decode_38 (by decide) ?_
    refine ax_iload_n B 1 d_Model_decode_40 rfl rfl ?_
    refine ax_imul B d_Model_decode_41 ?_
    refine ax_iload_n B 2 d_Model_decode_42 rfl rfl ?_
    refine ax_iadd B d_Model_decode_43 ?_
    refine ax_callVv (av := [ax_I 1, ax_I ((6 * x1) + x2)]) (rest := []) B E hm_Model_load cl_Model rfl wd_1201 wp_65 lk_Model_331 d_Model_decode_44 rfl (Nat.le_of_ble_eq_true rfl) (fun _ _ hh => hcall 180 _ _ _ _ hh) (fun h5 => ?_)
    refine ax_aload_n B 0 d_Model_decode_47 rfl rfl ?_
    refine ax_bipush (v := 120) B d_Model_decode_48 (by decide) ?_
    refine ax_iconst (v := 0) B d_Model_decode_50 (by decide) ?_
    refine ax_callVi (av := [ax_I 120, ax_I 0]) (rest := []) B E hm_Model_scan cl_Model rfl wd_1258 wp_73 lk_Model_308 d_Model_decode_51 rfl (Nat.le_of_ble_eq_true rfl) (fun _ _ hh => hcall 194 _ _ _ _ hh) (fun v8 h7 => ?_)
    refine ax_istore (tv2 := [(4, ax_I v8), (0, ax_A x0), (1, ax_I x1), (2, ax_I x2), (3, ax_I x3)]) B d_Model_decode_54 (by decide) rfl ?_
    refine ax_iload B 0 d_Model_decode_56 rfl ?_
    refine ax_aload_n B 1 d_Model_decode_58 rfl rfl ?_
    refine ax_getfi B cl_Model (by decide) fk_Model_127 d_Model_decode_59 (fun v9 => ?_)
    refine ax_icmp_ge B 90 d_Model_decode_62 (by decide) ?_ ?_
    · refine ax_aload_n B 1 d_Model_decode_90 rfl rfl ?_
      refine ax_iconst (v := 0) B d_Model_decode_91 (by decide) ?_
      refine ax_bipush (v := 6) B d_Model_decode_92 (by decide) ?_
      refine ax_iload_n B 2 d_Model_decode_94 rfl rfl ?_
      refine ax_imul B d_Model_decode_95 ?_
      refine ax_iload_n B 4 d_Model_decode_96 rfl rfl ?_
      refine ax_iadd B d_Model_decode_97 ?_
      refine ax_callVv (av := [ax_I 0, ax_I ((6 * x1) + x3)]) (rest := []) B E hm_Model_load cl_Model rfl wd_1201 wp_65 lk_Model_331 d_Model_decode_98 rfl (Nat.le_of_ble_eq_true rfl) (fun _ _ hh => hcall 180 _ _ _ _ hh) (fun h10 => ?_)
      refine ax_aload_n B 1 d_Model_decode_101 rfl rfl ?_
      refine ax_callVi (av := []) (rest := []) B E hm_Model_compare cl_Model rfl wd_1205 wp_66 lk_Model_334 d_Model_decode_102 rfl (Nat.le_of_ble_eq_true rfl) (fun _ _ hh => hcall 181 _ _ _ _ hh) (fun v13 h12 => ?_)
      refine ax_pop B d_Model_decode_105 rfl ?_
      refine ax_aload_n B 1 d_Model_decode_106 rfl rfl ?_
      refine ax_aload_n B 1 d_Model_decode_107 rfl rfl ?_
      refine ax_callVi (av := []) (rest := [ax_A x0]) B E hm_Model_resolve cl_Model rfl wd_1290 wp_81 lk_Model_357 d_Model_decode_108 rfl (Nat.le_of_ble_eq_true rfl) (fun _ _ hh => hcall 202 _ _ _ _ hh) (fun v15 h14 => ?_)
      refine ax_if_eq B 118 d_Model_decode_111 (by decide) ?_ ?_
      · refine ax_iconst (v := 2) B d_Model_decode_118 (by decide) ?_
        refine ax_sub (tv2 := [(0, ax_A x0)]) [1] rfl ?_
        exact Model_decode_jq119 hcall B E Nm x0 2 x0 h14
      · refine ax_iconst (v := 0) B d_Model_decode_114 (by decide) ?_
        refine ax_goto B 119 d_Model_decode_115 (by decide) ?_
        refine ax_sub (tv2 := [(0, ax_A x0)]) [1] rfl ?_
        exact Model_decode_jq119 hcall B E Nm x0 0 x0 h14
    · refine ax_aload_n B 1 d_Model_decode_65 rfl rfl ?_
      refine ax_iload B 0 d_Model_decode_66 rfl ?_
      refine ax_if_ge B 78 d_Model_decode_68 (by decide) ?_ ?_
      · refine ax_iload B 0 d_Model_decode_78 rfl ?_
        refine ax_sub (tv2 := [(0, ax_A x0)]) [1] rfl ?_
        exact Model_decode_jq80 hcall B E Nm x0 v8 x0 h7
      · refine ax_iconst (v := (-1)) B d_Model_decode_71 (by decide) ?_
        refine ax_iload B 0 d_Model_decode_72 rfl ?_
        refine ax_isub B d_Model_decode_74 ?_
        refine ax_goto B 80 d_Model_decode_75 (by decide) ?_
        refine ax_sub (tv2 := [(0, ax_A x0)]) [1] rfl ?_
        exact Model_decode_jq80 hcall B E Nm x0 ((-1) - v8) x0 h7
  · refine ax_iconst (v := 0) B d_Model_decode_34 (by decide) ?_
    exact ax_ireturn B d_Model_decode_35
def Model_decode_jn23 (call : ax_Cf)  (x0 : Option Nat) (x1 : Int32) (x2 : Int32) (x3 : Int32) (s0 : Option Nat) (h : ax_Hp) : ax_O :=
  Model_decode_jn24 call x0 x1 x2 x3 1 s0 h
set_option maxHeartbeats 4000000 in
set_option maxRecDepth 20000 in
theorem Model_decode_jq23 {l : Launch} {G : ax_G} {d : Nat} {call : ax_Cf} (hcall : ax_Hc l G d call) {p : Program} {e : Env} {s : State} {mi : MethodId} {args : Array Value} {below : List Frame} {meth : Method} {c : Code} {h0 : ax_Hp} (B : ax_B G p s mi meth c "SchemaDeskModel" prog_12_method_65_code 5 (some (.int))) (E : c.exceptionTable.isEmpty = true) (Nm : meth.name = y_Model_decode.name)   (x0 : Option Nat) (x1 : Int32) (x2 : Int32) (x3 : Int32) (s0 : Option Nat) (h : ax_Hp) : ax_W G p l e s mi args below meth c 5 (d + 1) h0 23 [(0, ax_A x0), (1, ax_I x1), (2, ax_I x2), (3, ax_I x3)] [ax_A s0] h (Model_decode_jn23 call  x0 x1 x2 x3 s0 h) := by
  unfold Model_decode_jn23
  refine ax_iconst (v := 1) B d_Model_decode_23 (by decide) ?_
  refine ax_sub (tv2 := [(0, ax_A x0), (1, ax_I x1), (2, ax_I x2), (3, ax_I x3)]) [0, 1, 2, 3] rfl ?_
  exact Model_decode_jq24 hcall B E Nm x0 x1 x2 x3 1 s0 h
def Model_decode_b (call : ax_Cf) (x0 : Option Nat) (x1 : Int32) (x2 : Int32) (x3 : Int32) (h : ax_Hp) : ax_O :=
  ax_on h x0 9 <| ax_ci (call 187 [ax_A x0, ax_I x1, ax_I x2] h) fun v2 h1 =>
  if v2 = 0 then
    Model_decode_jn23 call x0 x1 x2 x3 x0 h1
  else
    ax_on h1 x0 9 <| ax_ci (call 187 [ax_A x0, ax_I x1, ax_I x3] h1) fun v26 h25 =>
    if v26 = 0 then
      Model_decode_jn23 call x0 x1 x2 x3 x0 h25
    else
      Model_decode_jn24 call x0 x1 x2 x3 0 x0 h25
set_option maxHeartbeats 4000000 in
set_option maxRecDepth 20000 in
theorem Model_decode_t {l : Launch} {G : ax_G} {d : Nat} {call : ax_Cf} (hcall : ax_Hc l G d call) (x0 : Option Nat) (x1 : Int32) (x2 : Int32) (x3 : Int32) (h : ax_Hp) {r : ax_Rs} {h' : ax_Hp} (ho : Model_decode_b call x0 x1 x2 x3 h = some (r, h')) : ax_C l G (d + 1) y_Model_decode (.code y_Model_decode prog_12_method_65_code 5 (some (.int))) [ax_A x0, ax_I x1, ax_I x2, ax_I x3] h r h' := by
  refine ax_enter (by decide) (Nat.le_of_ble_eq_true rfl) ho (fun p e s mi args below meth c B E Nm => ?_)
  have B : ax_B G p s mi meth c "SchemaDeskModel" prog_12_method_65_code 5 (some (.int)) := B
  show ax_W G p l e s mi args below meth c 5 (d + 1) h 0 [(0, ax_A x0), (1, ax_I x1), (2, ax_I x2), (3, ax_I x3)] [] h (Model_decode_b call x0 x1 x2 x3 h)
  unfold Model_decode_b
  refine ax_aload_n B 0 d_Model_decode_0 rfl rfl ?_
  refine ax_aload_n B 0 d_Model_decode_1 rfl rfl ?_
  refine ax_iload_n B 1 d_Model_decode_2 rfl rfl ?_
  refine ax_iload_n B 2 d_Model_decode_3 rfl rfl ?_
  refine ax_callVi (av := [ax_I x1, ax_I x2]) (rest := [ax_A x0]) B E hm_Model_isVersion cl_Model rfl wd_1229 wp_70 lk_Model_344 d_Model_decode_4 rfl (Nat.le_of_ble_eq_true rfl) (fun _ _ hh => hcall 187 _ _ _ _ hh) (fun v2 h1 => ?_)
  refine ax_if_eq B 23 d_Model_decode_7 (by decide) ?_ ?_
  · refine ax_sub (tv2 := [(0, ax_A x0), (1, ax_I x1), (2, ax_I x2), (3, ax_I x3)]) [0, 1, 2, 3] rfl ?_
    exact Model_decode_jq23 hcall B E Nm x0 x1 x2 x3 x0 h1
  · refine ax_aload_n B 0 d_Model_decode_10 rfl rfl ?_
    refine ax_iload_n B 1 d_Model_decode_11 rfl rfl ?_
    refine ax_iload_n B 3 d_Model_decode_12 rfl rfl ?_
    refine ax_callVi (av := [ax_I x1, ax_I x3]) (rest := [ax_A x0]) B E hm_Model_isVersion cl_Model rfl wd_1229 wp_70 lk_Model_344 d_Model_decode_13 rfl (Nat.le_of_ble_eq_true rfl) (fun _ _ hh => hcall 187 _ _ _ _ hh) (fun v26 h25 => ?_)
    refine ax_if_eq B 23 d_Model_decode_16 (by decide) ?_ ?_
    · refine ax_sub (tv2 := [(0, ax_A x0), (1, ax_I x1), (2, ax_I x2), (3, ax_I x3)]) [0, 1, 2, 3] rfl ?_
      exact Model_decode_jq23 hcall B E Nm x0 x1 x2 x3 x0 h25
    · refine ax_iconst (v := 0) B d_Model_decode_19 (by decide) ?_
      refine ax_goto B 24 d_Model_decode_20 (by decide) ?_
      refine ax_sub (tv2 := [(0, ax_A x0), (1, ax_I x1), (2, ax_I x2), (3, ax_I x3)]) [0, 1, 2, 3] rfl ?_
      exact Model_decode_jq24 hcall B E Nm x0 x1 x2 x3 0 x0 h25
