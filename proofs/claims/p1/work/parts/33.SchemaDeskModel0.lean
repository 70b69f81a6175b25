theorem d_Model_init_0 : decode prog_12_method_1_code 0 = .ok (.aload_n 0, 1) := by decide +kernel
theorem d_Model_init_1 : decode prog_12_method_1_code 1 = .ok (.invokespecial 1, 3) := by decide +kernel
theorem d_Model_init_4 : decode prog_12_method_1_code 4 = .ok (.aload_n 0, 1) := by decide +kernel
theorem d_Model_init_5 : decode prog_12_method_1_code 5 = .ok (.sipush 160, 3) := by decide +kernel
theorem d_Model_init_8 : decode prog_12_method_1_code 8 = .ok (.newarray .char, 2) := by decide +kernel
theorem d_Model_init_10 : decode prog_12_method_1_code 10 = .ok (.putfield 7, 3) := by decide +kernel
theorem d_Model_init_13 : decode prog_12_method_1_code 13 = .ok (.aload_n 0, 1) := by decide +kernel
theorem d_Model_init_14 : decode prog_12_method_1_code 14 = .ok (.bipush 64, 2) := by decide +kernel
theorem d_Model_init_16 : decode prog_12_method_1_code 16 = .ok (.newarray .int, 2) := by decide +kernel
theorem d_Model_init_18 : decode prog_12_method_1_code 18 = .ok (.putfield 13, 3) := by decide +kernel
theorem d_Model_init_21 : decode prog_12_method_1_code 21 = .ok (.aload_n 0, 1) := by decide +kernel
theorem d_Model_init_22 : decode prog_12_method_1_code 22 = .ok (.sipush 420, 3) := by decide +kernel
theorem d_Model_init_25 : decode prog_12_method_1_code 25 = .ok (.newarray .int, 2) := by decide +kernel
theorem d_Model_init_27 : decode prog_12_method_1_code 27 = .ok (.putfield 17, 3) := by decide +kernel
theorem d_Model_init_30 : decode prog_12_method_1_code 30 = .ok (.aload_n 0, 1) := by decide +kernel
theorem d_Model_init_31 : decode prog_12_method_1_code 31 = .ok (.sipush 420, 3) := by decide +kernel
theorem d_Model_init_34 : decode prog_12_method_1_code 34 = .ok (.newarray .int, 2) := by decide +kernel
theorem d_Model_init_36 : decode prog_12_method_1_code 36 = .ok (.putfield 20, 3) := by decide +kernel
theorem d_Model_init_39 : decode prog_12_method_1_code 39 = .ok (.aload_n 0, 1) := by decide +kernel
theorem d_Model_init_40 : decode prog_12_method_1_code 40 = .ok (.iconst (-1), 1) := by decide +kernel
theorem d_Model_init_41 : decode prog_12_method_1_code 41 = .ok (.putfield 23, 3) := by decide +kernel
theorem d_Model_init_44 : decode prog_12_method_1_code 44 = .ok (.aload_n 0, 1) := by decide +kernel
theorem d_Model_init_45 : decode prog_12_method_1_code 45 = .ok (.iconst 4, 1) := by decide +kernel
theorem d_Model_init_46 : decode prog_12_method_1_code 46 = .ok (.newarray .int, 2) := by decide +kernel
theorem d_Model_init_48 : decode prog_12_method_1_code 48 = .ok (.putfield 27, 3) := by decide +kernel
theorem d_Model_init_51 : decode prog_12_method_1_code 51 = .ok (.aload_n 0, 1) := by decide +kernel
theorem d_Model_init_52 : decode prog_12_method_1_code 52 = .ok (.iconst 4, 1) := by decide +kernel
theorem d_Model_init_53 : decode prog_12_method_1_code 53 = .ok (.newarray .int, 2) := by decide +kernel
theorem d_Model_init_55 : decode prog_12_method_1_code 55 = .ok (.putfield 30, 3) := by decide +kernel
theorem d_Model_init_58 : decode prog_12_method_1_code 58 = .ok (.aload_n 0, 1) := by decide +kernel
theorem d_Model_init_59 : decode prog_12_method_1_code 59 = .ok (.sipush 3840, 3) := by decide +kernel
theorem d_Model_init_62 : decode prog_12_method_1_code 62 = .ok (.newarray .char, 2) := by decide +kernel
theorem d_Model_init_64 : decode prog_12_method_1_code 64 = .ok (.putfield 33, 3) := by decide +kernel
theorem d_Model_init_67 : decode prog_12_method_1_code 67 = .ok (.aload_n 0, 1) := by decide +kernel
theorem d_Model_init_68 : decode prog_12_method_1_code 68 = .ok (.bipush 24, 2) := by decide +kernel
theorem d_Model_init_70 : decode prog_12_method_1_code 70 = .ok (.newarray .int, 2) := by decide +kernel
theorem d_Model_init_72 : decode prog_12_method_1_code 72 = .ok (.putfield 36, 3) := by decide +kernel
theorem d_Model_init_75 : decode prog_12_method_1_code 75 = .ok (.aload_n 0, 1) := by decide +kernel
theorem d_Model_init_76 : decode prog_12_method_1_code 76 = .ok (.sipush 320, 3) := by decide +kernel
theorem d_Model_init_79 : decode prog_12_method_1_code 79 = .ok (.newarray .char, 2) := by decide +kernel
theorem d_Model_init_81 : decode prog_12_method_1_code 81 = .ok (.putfield 39, 3) := by decide +kernel
theorem d_Model_init_84 : decode prog_12_method_1_code 84 = .ok (.aload_n 0, 1) := by decide +kernel
theorem d_Model_init_85 : decode prog_12_method_1_code 85 = .ok (.iconst 2, 1) := by decide +kernel
theorem d_Model_init_86 : decode prog_12_method_1_code 86 = .ok (.newarray .int, 2) := by decide +kernel
theorem d_Model_init_88 : decode prog_12_method_1_code 88 = .ok (.putfield 42, 3) := by decide +kernel
theorem d_Model_init_91 : decode prog_12_method_1_code 91 = .ok (.aload_n 0, 1) := by decide +kernel
theorem d_Model_init_92 : decode prog_12_method_1_code 92 = .ok (.iconst 2, 1) := by decide +kernel
theorem d_Model_init_93 : decode prog_12_method_1_code 93 = .ok (.newarray .int, 2) := by decide +kernel
theorem d_Model_init_95 : decode prog_12_method_1_code 95 = .ok (.putfield 45, 3) := by decide +kernel
theorem d_Model_init_98 : decode prog_12_method_1_code 98 = .ok (.aload_n 0, 1) := by decide +kernel
theorem d_Model_init_99 : decode prog_12_method_1_code 99 = .ok (.sipush 240, 3) := by decide +kernel
theorem d_Model_init_102 : decode prog_12_method_1_code 102 = .ok (.newarray .char, 2) := by decide +kernel
theorem d_Model_init_104 : decode prog_12_method_1_code 104 = .ok (.putfield 48, 3) := by decide +kernel
theorem d_Model_init_107 : decode prog_12_method_1_code 107 = .ok (.aload_n 0, 1) := by decide +kernel
theorem d_Model_init_108 : decode prog_12_method_1_code 108 = .ok (.sipush 240, 3) := by decide +kernel
theorem d_Model_init_111 : decode prog_12_method_1_code 111 = .ok (.newarray .int, 2) := by decide +kernel
theorem d_Model_init_113 : decode prog_12_method_1_code 113 = .ok (.putfield 51, 3) := by decide +kernel
theorem d_Model_init_116 : decode prog_12_method_1_code 116 = .ok (.aload_n 0, 1) := by decide +kernel
theorem d_Model_init_117 : decode prog_12_method_1_code 117 = .ok (.sipush 240, 3) := by decide +kernel
theorem d_Model_init_120 : decode prog_12_method_1_code 120 = .ok (.newarray .int, 2) := by decide +kernel
theorem d_Model_init_122 : decode prog_12_method_1_code 122 = .ok (.putfield 54, 3) := by decide +kernel
theorem d_Model_init_125 : decode prog_12_method_1_code 125 = .ok (.aload_n 0, 1) := by decide +kernel
theorem d_Model_init_126 : decode prog_12_method_1_code 126 = .ok (.sipush 240, 3) := by decide +kernel
theorem d_Model_init_129 : decode prog_12_method_1_code 129 = .ok (.newarray .int, 2) := by decide +kernel
theorem d_Model_init_131 : decode prog_12_method_1_code 131 = .ok (.putfield 57, 3) := by decide +kernel
theorem d_Model_init_134 : decode prog_12_method_1_code 134 = .ok (.aload_n 0, 1) := by decide +kernel
theorem d_Model_init_135 : decode prog_12_method_1_code 135 = .ok (.sipush 240, 3) := by decide +kernel
theorem d_Model_init_138 : decode prog_12_method_1_code 138 = .ok (.newarray .char, 2) := by decide +kernel
theorem d_Model_init_140 : decode prog_12_method_1_code 140 = .ok (.putfield 60, 3) := by decide +kernel
theorem d_Model_init_143 : decode prog_12_method_1_code 143 = .ok (.aload_n 0, 1) := by decide +kernel
theorem d_Model_init_144 : decode prog_12_method_1_code 144 = .ok (.sipush 240, 3) := by decide +kernel
theorem d_Model_init_147 : decode prog_12_method_1_code 147 = .ok (.newarray .int, 2) := by decide +kernel
theorem d_Model_init_149 : decode prog_12_method_1_code 149 = .ok (.putfield 63, 3) := by decide +kernel
theorem d_Model_init_152 : decode prog_12_method_1_code 152 = .ok (.aload_n 0, 1) := by decide +kernel
theorem d_Model_init_153 : decode prog_12_method_1_code 153 = .ok (.sipush 240, 3) := by decide +kernel
theorem d_Model_init_156 : decode prog_12_method_1_code 156 = .ok (.newarray .int, 2) := by decide +kernel
theorem d_Model_init_158 : decode prog_12_method_1_code 158 = .ok (.putfield 66, 3) := by decide +kernel
theorem d_Model_init_161 : decode prog_12_method_1_code 161 = .ok (.aload_n 0, 1) := by decide +kernel
theorem d_Model_init_162 : decode prog_12_method_1_code 162 = .ok (.sipush 240, 3) := by decide +kernel
theorem d_Model_init_165 : decode prog_12_method_1_code 165 = .ok (.newarray .int, 2) := by decide +kernel
theorem d_Model_init_167 : decode prog_12_method_1_code 167 = .ok (.putfield 69, 3) := by decide +kernel
theorem d_Model_init_170 : decode prog_12_method_1_code 170 = .ok (.aload_n 0, 1) := by decide +kernel
theorem d_Model_init_171 : decode prog_12_method_1_code 171 = .ok (.sipush 320, 3) := by decide +kernel
theorem d_Model_init_174 : decode prog_12_method_1_code 174 = .ok (.newarray .boolean, 2) := by decide +kernel
theorem d_Model_init_176 : decode prog_12_method_1_code 176 = .ok (.putfield 72, 3) := by decide +kernel
theorem d_Model_init_179 : decode prog_12_method_1_code 179 = .ok (.aload_n 0, 1) := by decide +kernel
theorem d_Model_init_180 : decode prog_12_method_1_code 180 = .ok (.bipush 8, 2) := by decide +kernel
theorem d_Model_init_182 : decode prog_12_method_1_code 182 = .ok (.newarray .int, 2) := by decide +kernel
theorem d_Model_init_184 : decode prog_12_method_1_code 184 = .ok (.putfield 76, 3) := by decide +kernel
theorem d_Model_init_187 : decode prog_12_method_1_code 187 = .ok (.aload_n 0, 1) := by decide +kernel
theorem d_Model_init_188 : decode prog_12_method_1_code 188 = .ok (.bipush 8, 2) := by decide +kernel
theorem d_Model_init_190 : decode prog_12_method_1_code 190 = .ok (.newarray .int, 2) := by decide +kernel
theorem d_Model_init_192 : decode prog_12_method_1_code 192 = .ok (.putfield 79, 3) := by decide +kernel
theorem d_Model_init_195 : decode prog_12_method_1_code 195 = .ok (.aload_n 0, 1) := by decide +kernel
theorem d_Model_init_196 : decode prog_12_method_1_code 196 = .ok (.bipush 10, 2) := by decide +kernel
theorem d_Model_init_198 : decode prog_12_method_1_code 198 = .ok (.newarray .int, 2) := by decide +kernel
theorem d_Model_init_200 : decode prog_12_method_1_code 200 = .ok (.putfield 82, 3) := by decide +kernel
theorem d_Model_init_203 : decode prog_12_method_1_code 203 = .ok (.aload_n 0, 1) := by decide +kernel
theorem d_Model_init_204 : decode prog_12_method_1_code 204 = .ok (.bipush 10, 2) := by decide +kernel
theorem d_Model_init_206 : decode prog_12_method_1_code 206 = .ok (.newarray .int, 2) := by decide +kernel
theorem d_Model_init_208 : decode prog_12_method_1_code 208 = .ok (.putfield 85, 3) := by decide +kernel
theorem d_Model_init_211 : decode prog_12_method_1_code 211 = .ok (.aload_n 0, 1) := by decide +kernel
theorem d_Model_init_212 : decode prog_12_method_1_code 212 = .ok (.bipush 10, 2) := by decide +kernel
theorem d_Model_init_214 : decode prog_12_method_1_code 214 = .ok (.newarray .int, 2) := by decide +kernel
theorem d_Model_init_216 : decode prog_12_method_1_code 216 = .ok (.putfield 88, 3) := by decide +kernel
theorem d_Model_init_219 : decode prog_12_method_1_code 219 = .ok (.aload_n 0, 1) := by decide +kernel
theorem d_Model_init_220 : decode prog_12_method_1_code 220 = .ok (.bipush 10, 2) := by decide +kernel
theorem d_Model_init_222 : decode prog_12_method_1_code 222 = .ok (.newarray .int, 2) := by decide +kernel
theorem d_Model_init_224 : decode prog_12_method_1_code 224 = .ok (.putfield 91, 3) := by decide +kernel
theorem d_Model_init_227 : decode prog_12_method_1_code 227 = .ok (.aload_n 0, 1) := by decide +kernel
theorem d_Model_init_228 : decode prog_12_method_1_code 228 = .ok (.bipush 10, 2) := by decide +kernel
theorem d_Model_init_230 : decode prog_12_method_1_code 230 = .ok (.newarray .int, 2) := by decide +kernel
theorem d_Model_init_232 : decode prog_12_method_1_code 232 = .ok (.putfield 94, 3) := by decide +kernel
theorem d_Model_init_235 : decode prog_12_method_1_code 235 = .ok (.aload_n 0, 1) := by decide +kernel
theorem d_Model_init_236 : decode prog_12_method_1_code 236 = .ok (.bipush 100, 2) := by decide +kernel
theorem d_Model_init_238 : decode prog_12_method_1_code 238 = .ok (.newarray .int, 2) := by decide +kernel
theorem d_Model_init_240 : decode prog_12_method_1_code 240 = .ok (.putfield 97, 3) := by decide +kernel
theorem d_Model_init_243 : decode prog_12_method_1_code 243 = .ok (.aload_n 0, 1) := by decide +kernel
theorem d_Model_init_244 : decode prog_12_method_1_code 244 = .ok (.sipush 240, 3) := by decide +kernel
theorem d_Model_init_247 : decode prog_12_method_1_code 247 = .ok (.newarray .long, 2) := by decide +kernel
theorem d_Model_init_249 : decode prog_12_method_1_code 249 = .ok (.putfield 100, 3) := by decide +kernel
theorem d_Model_init_252 : decode prog_12_method_1_code 252 = .ok (.aload_n 0, 1) := by decide +kernel
theorem d_Model_init_253 : decode prog_12_method_1_code 253 = .ok (.bipush 10, 2) := by decide +kernel
theorem d_Model_init_255 : decode prog_12_method_1_code 255 = .ok (.newarray .int, 2) := by decide +kernel
theorem d_Model_init_257 : decode prog_12_method_1_code 257 = .ok (.putfield 104, 3) := by decide +kernel
theorem d_Model_init_260 : decode prog_12_method_1_code 260 = .ok (.aload_n 0, 1) := by decide +kernel
theorem d_Model_init_261 : decode prog_12_method_1_code 261 = .ok (.bipush 10, 2) := by decide +kernel
theorem d_Model_init_263 : decode prog_12_method_1_code 263 = .ok (.newarray .int, 2) := by decide +kernel
theorem d_Model_init_265 : decode prog_12_method_1_code 265 = .ok (.putfield 107, 3) := by decide +kernel
theorem d_Model_init_268 : decode prog_12_method_1_code 268 = .ok (.aload_n 0, 1) := by decide +kernel
theorem d_Model_init_269 : decode prog_12_method_1_code 269 = .ok (.bipush 10, 2) := by decide +kernel
theorem d_Model_init_271 : decode prog_12_method_1_code 271 = .ok (.newarray .int, 2) := by decide +kernel
theorem d_Model_init_273 : decode prog_12_method_1_code 273 = .ok (.putfield 110, 3) := by decide +kernel
theorem d_Model_init_276 : decode prog_12_method_1_code 276 = .ok (.aload_n 0, 1) := by decide +kernel
theorem d_Model_init_277 : decode prog_12_method_1_code 277 = .ok (.bipush 10, 2) := by decide +kernel
theorem d_Model_init_279 : decode prog_12_method_1_code 279 = .ok (.newarray .int, 2) := by decide +kernel
theorem d_Model_init_281 : decode prog_12_method_1_code 281 = .ok (.putfield 113, 3) := by decide +kernel
theorem d_Model_init_284 : decode prog_12_method_1_code 284 = .ok (.aload_n 0, 1) := by decide +kernel
theorem d_Model_init_285 : decode prog_12_method_1_code 285 = .ok (.bipush 10, 2) := by decide +kernel
theorem d_Model_init_287 : decode prog_12_method_1_code 287 = .ok (.newarray .int, 2) := by decide +kernel
theorem d_Model_init_289 : decode prog_12_method_1_code 289 = .ok (.putfield 116, 3) := by decide +kernel
theorem d_Model_init_292 : decode prog_12_method_1_code 292 = .ok (.return_, 1) := by decide +kernel
def Model_init_b (call : ax_Cf) (x0 : Nat) (h : ax_Hp) : ax_O :=
  ax_nw (ax_na h 3 160 (ax_I 0)) fun a1 h2 =>
  (ax_pf h2 (some x0) 9 2 (ax_A (some a1))).bind fun h3 =>
  ax_nw (ax_na h3 1 64 (ax_I 0)) fun a4 h5 =>
  (ax_pf h5 (some x0) 9 4 (ax_A (some a4))).bind fun h6 =>
  ax_nw (ax_na h6 1 420 (ax_I 0)) fun a7 h8 =>
  (ax_pf h8 (some x0) 9 6 (ax_A (some a7))).bind fun h9 =>
  ax_nw (ax_na h9 1 420 (ax_I 0)) fun a10 h11 =>
  (ax_pf h11 (some x0) 9 8 (ax_A (some a10))).bind fun h12 =>
  (ax_pf h12 (some x0) 9 9 (ax_I (-1))).bind fun h13 =>
  ax_nw (ax_na h13 1 4 (ax_I 0)) fun a14 h15 =>
  (ax_pf h15 (some x0) 9 10 (ax_A (some a14))).bind fun h16 =>
  ax_nw (ax_na h16 1 4 (ax_I 0)) fun a17 h18 =>
  (ax_pf h18 (some x0) 9 11 (ax_A (some a17))).bind fun h19 =>
  ax_nw (ax_na h19 3 3840 (ax_I 0)) fun a20 h21 =>
  (ax_pf h21 (some x0) 9 12 (ax_A (some a20))).bind fun h22 =>
  ax_nw (ax_na h22 1 24 (ax_I 0)) fun a23 h24 =>
  (ax_pf h24 (some x0) 9 13 (ax_A (some a23))).bind fun h25 =>
  ax_nw (ax_na h25 3 320 (ax_I 0)) fun a26 h27 =>
  (ax_pf h27 (some x0) 9 14 (ax_A (some a26))).bind fun h28 =>
  ax_nw (ax_na h28 1 2 (ax_I 0)) fun a29 h30 =>
  (ax_pf h30 (some x0) 9 15 (ax_A (some a29))).bind fun h31 =>
  ax_nw (ax_na h31 1 2 (ax_I 0)) fun a32 h33 =>
  (ax_pf h33 (some x0) 9 16 (ax_A (some a32))).bind fun h34 =>
  ax_nw (ax_na h34 3 240 (ax_I 0)) fun a35 h36 =>
  (ax_pf h36 (some x0) 9 17 (ax_A (some a35))).bind fun h37 =>
  ax_nw (ax_na h37 1 240 (ax_I 0)) fun a38 h39 =>
  (ax_pf h39 (some x0) 9 18 (ax_A (some a38))).bind fun h40 =>
  ax_nw (ax_na h40 1 240 (ax_I 0)) fun a41 h42 =>
  (ax_pf h42 (some x0) 9 19 (ax_A (some a41))).bind fun h43 =>
  ax_nw (ax_na h43 1 240 (ax_I 0)) fun a44 h45 =>
  (ax_pf h45 (some x0) 9 20 (ax_A (some a44))).bind fun h46 =>
  ax_nw (ax_na h46 3 240 (ax_I 0)) fun a47 h48 =>
  (ax_pf h48 (some x0) 9 21 (ax_A (some a47))).bind fun h49 =>
  ax_nw (ax_na h49 1 240 (ax_I 0)) fun a50 h51 =>
  (ax_pf h51 (some x0) 9 22 (ax_A (some a50))).bind fun h52 =>
  ax_nw (ax_na h52 1 240 (ax_I 0)) fun a53 h54 =>
  (ax_pf h54 (some x0) 9 23 (ax_A (some a53))).bind fun h55 =>
  ax_nw (ax_na h55 1 240 (ax_I 0)) fun a56 h57 =>
  (ax_pf h57 (some x0) 9 24 (ax_A (some a56))).bind fun h58 =>
  ax_nw (ax_na h58 4 320 (ax_I 0)) fun a59 h60 =>
  (ax_pf h60 (some x0) 9 25 (ax_A (some a59))).bind fun h61 =>
  ax_nw (ax_na h61 1 8 (ax_I 0)) fun a62 h63 =>
  (ax_pf h63 (some x0) 9 27 (ax_A (some a62))).bind fun h64 =>
  ax_nw (ax_na h64 1 8 (ax_I 0)) fun a65 h66 =>
  (ax_pf h66 (some x0) 9 28 (ax_A (some a65))).bind fun h67 =>
  ax_nw (ax_na h67 1 10 (ax_I 0)) fun a68 h69 =>
  (ax_pf h69 (some x0) 9 32 (ax_A (some a68))).bind fun h70 =>
  ax_nw (ax_na h70 1 10 (ax_I 0)) fun a71 h72 =>
  (ax_pf h72 (some x0) 9 33 (ax_A (some a71))).bind fun h73 =>
  ax_nw (ax_na h73 1 10 (ax_I 0)) fun a74 h75 =>
  (ax_pf h75 (some x0) 9 34 (ax_A (some a74))).bind fun h76 =>
  ax_nw (ax_na h76 1 10 (ax_I 0)) fun a77 h78 =>
  (ax_pf h78 (some x0) 9 35 (ax_A (some a77))).bind fun h79 =>
  ax_nw (ax_na h79 1 10 (ax_I 0)) fun a80 h81 =>
  (ax_pf h81 (some x0) 9 36 (ax_A (some a80))).bind fun h82 =>
  ax_nw (ax_na h82 1 100 (ax_I 0)) fun a83 h84 =>
  (ax_pf h84 (some x0) 9 41 (ax_A (some a83))).bind fun h85 =>
  ax_nw (ax_na h85 2 240 (ax_L 0)) fun a86 h87 =>
  (ax_pf h87 (some x0) 9 42 (ax_A (some a86))).bind fun h88 =>
  ax_nw (ax_na h88 1 10 (ax_I 0)) fun a89 h90 =>
  (ax_pf h90 (some x0) 9 43 (ax_A (some a89))).bind fun h91 =>
  ax_nw (ax_na h91 1 10 (ax_I 0)) fun a92 h93 =>
  (ax_pf h93 (some x0) 9 44 (ax_A (some a92))).bind fun h94 =>
  ax_nw (ax_na h94 1 10 (ax_I 0)) fun a95 h96 =>
  (ax_pf h96 (some x0) 9 45 (ax_A (some a95))).bind fun h97 =>
  ax_nw (ax_na h97 1 10 (ax_I 0)) fun a98 h99 =>
  (ax_pf h99 (some x0) 9 46 (ax_A (some a98))).bind fun h100 =>
  ax_nw (ax_na h100 1 10 (ax_I 0)) fun a101 h102 =>
  (ax_pf h102 (some x0) 9 47 (ax_A (some a101))).bind fun h103 =>
  ax_rv h103
set_option maxHeartbeats 4000000 in
set_option maxRecDepth 20000 in
theorem Model_init_t {l : Launch} {G : ax_G} {d : Nat} {call : ax_Cf} (hcall : ax_Hc l G d call) (x0 : Nat) (h : ax_Hp) {r : ax_Rs} {h' : ax_Hp} (ho : Model_init_b call x0 h = some (r, h')) : ax_C l G (d + 1) y_Model_init (.code y_Model_init prog_12_method_1_code 1 none) [ax_A (some x0)] h r h' := by
  refine ax_enter (by decide) (Nat.le_of_ble_eq_true rfl) ho (fun p e s mi args below meth c B E Nm => ?_)
  have B : ax_B G p s mi meth c "SchemaDeskModel" prog_12_method_1_code 1 none := B
  show ax_W G p l e s mi args below meth c 1 (d + 1) h 0 [(0, ax_A (some x0))] [] h (Model_init_b call x0 h)
  unfold Model_init_b
  refine ax_aload_n B 0 d_Model_init_0 rfl rfl ?_
  refine ax_objinit B wd_895 wd_27 wd_objcode (Nat.le_of_ble_eq_true rfl) d_Model_init_1 ?_
  refine ax_aload_n B 0 d_Model_init_4 rfl rfl ?_
  refine ax_sipush (v := 160) B d_Model_init_5 (by decide) ?_
  refine ax_newa (kd := 3) (atype := .char) (dv := ax_I 0) B (by decide) (by decide) rfl wd_1047 rfl (fun _ => rfl) (by decide) d_Model_init_8 (fun a1 h2 => ?_)
  refine ax_putf (v := ax_A (some a1)) B cl_Model (by decide) fk_Model_7 (Or.inr ⟨wd_898, rfl, Nm, rfl⟩) (fun _ => ax_narR) (fun _ => ax_fitR) d_Model_init_10 (fun h3 => ?_)
  refine ax_aload_n B 0 d_Model_init_13 rfl rfl ?_
  refine ax_bipush (v := 64) B d_Model_init_14 (by decide) ?_
  refine ax_newa (kd := 1) (atype := .int) (dv := ax_I 0) B (by decide) (by decide) rfl wd_44 rfl (fun _ => rfl) (by decide) d_Model_init_16 (fun a4 h5 => ?_)
  refine ax_putf (v := ax_A (some a4)) B cl_Model (by decide) fk_Model_13 (Or.inr ⟨wd_900, rfl, Nm, rfl⟩) (fun _ => ax_narR) (fun _ => ax_fitR) d_Model_init_18 (fun h6 => ?_)
  refine ax_aload_n B 0 d_Model_init_21 rfl rfl ?_
  refine ax_sipush (v := 420) B d_Model_init_22 (by decide) ?_
  refine ax_newa (kd := 1) (atype := .int) (dv := ax_I 0) B (by decide) (by decide) rfl wd_44 rfl (fun _ => rfl) (by decide) d_Model_init_25 (fun a7 h8 => ?_)
  refine ax_putf (v := ax_A (some a7)) B cl_Model (by decide) fk_Model_17 (Or.inr ⟨wd_902, rfl, Nm, rfl⟩) (fun _ => ax_narR) (fun _ => ax_fitR) d_Model_init_27 (fun h9 => ?_)
  refine ax_aload_n B 0 d_Model_init_30 rfl rfl ?_
  refine ax_sipush (v := 420) B d_Model_init_31 (by decide) ?_
  refine ax_newa (kd := 1) (atype := .int) (dv := ax_I 0) B (by decide) (by decide) rfl wd_44 rfl (fun _ => rfl) (by decide) d_Model_init_34 (fun a10 h11 => ?_)
  refine ax_putf (v := ax_A (some a10)) B cl_Model (by decide) fk_Model_20 (Or.inr ⟨wd_904, rfl, Nm, rfl⟩) (fun _ => ax_narR) (fun _ => ax_fitR) d_Model_init_36 (fun h12 => ?_)
  refine ax_aload_n B 0 d_Model_init_39 rfl rfl ?_
  refine ax_iconst (v := (-1)) B d_Model_init_40 (by decide) ?_
  refine ax_putf (v := ax_I (-1)) B cl_Model (by decide) fk_Model_23 (Or.inl rfl) (fun _ => rfl) (fun _ => rfl) d_Model_init_41 (fun h13 => ?_)
  refine ax_aload_n B 0 d_Model_init_44 rfl rfl ?_
  refine ax_iconst (v := 4) B d_Model_init_45 (by decide) ?_
  refine ax_newa (kd := 1) (atype := .int) (dv := ax_I 0) B (by decide) (by decide) rfl wd_44 rfl (fun _ => rfl) (by decide) d_Model_init_46 (fun a14 h15 => ?_)
  refine ax_putf (v := ax_A (some a14)) B cl_Model (by decide) fk_Model_27 (Or.inr ⟨wd_906, rfl, Nm, rfl⟩) (fun _ => ax_narR) (fun _ => ax_fitR) d_Model_init_48 (fun h16 => ?_)
  refine ax_aload_n B 0 d_Model_init_51 rfl rfl ?_
  refine ax_iconst (v := 4) B d_Model_init_52 (by decide) ?_
  refine ax_newa (kd := 1) (atype := .int) (dv := ax_I 0) B (by decide) (by decide) rfl wd_44 rfl (fun _ => rfl) (by decide) d_Model_init_53 (fun a17 h18 => ?_)
  refine ax_putf (v := ax_A (some a17)) B cl_Model (by decide) fk_Model_30 (Or.inr ⟨wd_907, rfl, Nm, rfl⟩) (fun _ => ax_narR) (fun _ => ax_fitR) d_Model_init_55 (fun h19 => ?_)
  refine ax_aload_n B 0 d_Model_init_58 rfl rfl ?_
  refine ax_sipush (v := 3840) B d_Model_init_59 (by decide) ?_
  refine ax_newa (kd := 3) (atype := .char) (dv := ax_I 0) B (by decide) (by decide) rfl wd_1047 rfl (fun _ => rfl) (by decide) d_Model_init_62 (fun a20 h21 => ?_)
  refine ax_putf (v := ax_A (some a20)) B cl_Model (by decide) fk_Model_33 (Or.inr ⟨wd_908, rfl, Nm, rfl⟩) (fun _ => ax_narR) (fun _ => ax_fitR) d_Model_init_64 (fun h22 => ?_)
  refine ax_aload_n B 0 d_Model_init_67 rfl rfl ?_
  refine ax_bipush (v := 24) B d_Model_init_68 (by decide) ?_
  refine ax_newa (kd := 1) (atype := .int) (dv := ax_I 0) B (by decide) (by decide) rfl wd_44 rfl (fun _ => rfl) (by decide) d_Model_init_70 (fun a23 h24 => ?_)
  refine ax_putf (v := ax_A (some a23)) B cl_Model (by decide) fk_Model_36 (Or.inr ⟨wd_909, rfl, Nm, rfl⟩) (fun _ => ax_narR) (fun _ => ax_fitR) d_Model_init_72 (fun h25 => ?_)
  refine ax_aload_n B 0 d_Model_init_75 rfl rfl ?_
  refine ax_sipush (v := 320) B d_Model_init_76 (by decide) ?_
  refine ax_newa (kd := 3) (atype := .char) (dv := ax_I 0) B (by decide) (by decide) rfl wd_1047 rfl (fun _ => rfl) (by decide) d_Model_init_79 (fun a26 h27 => ?_)
  refine ax_putf (v := ax_A (some a26)) B cl_Model (by decide) fk_Model_39 (Or.inr ⟨wd_910, rfl, Nm, rfl⟩) (fun _ => ax_narR) (fun _ => ax_fitR) d_Model_init_81 (fun h28 => ?_)
  refine ax_aload_n B 0 d_Model_init_84 rfl rfl ?_
  refine ax_iconst (v := 2) B d_Model_init_85 (by decide) ?_
  refine ax_newa (kd := 1) (atype := .int) (dv := ax_I 0) B (by decide) (by decide) rfl wd_44 rfl (fun _ => rfl) (by decide) d_Model_init_86 (fun a29 h30 => ?_)
  refine ax_putf (v := ax_A (some a29)) B cl_Model (by decide) fk_Model_42 (Or.inr ⟨wd_911, rfl, Nm, rfl⟩) (fun _ => ax_narR) (fun _ => ax_fitR) d_Model_init_88 (fun h31 => ?_)
  refine ax_aload_n B 0 d_Model_init_91 rfl rfl ?_
  refine ax_iconst (v := 2) B d_Model_init_92 (by decide) ?_
  refine ax_newa (kd := 1) (atype := .int) (dv := ax_I 0) B (by decide) (by decide) rfl wd_44 rfl (fun _ => rfl) (by decide) d_Model_init_93 (fun a32 h33 => ?_)
  refine ax_putf (v := ax_A (some a32)) B cl_Model (by decide) fk_Model_45 (Or.inr ⟨wd_912, rfl, Nm, rfl⟩) (fun _ => ax_narR) (fun _ => ax_fitR) d_Model_init_95 (fun h34 => ?_)
  refine ax_aload_n B 0 d_Model_init_98 rfl rfl ?_
  refine ax_sipush (v := 240) B d_Model_init_99 (by decide) ?_
  refine ax_newa (kd := 3) (atype := .char) (dv := ax_I 0) B (by decide) (by decide) rfl wd_1047 rfl (fun _ => rfl) (by decide) d_Model_init_102 (fun a35 h36 => ?_)
  refine ax_putf (v := ax_A (some a35)) B cl_Model (by decide) fk_Model_48 (Or.inr ⟨wd_913, rfl, Nm, rfl⟩) (fun _ => ax_narR) (fun _ => ax_fitR) d_Model_init_104 (fun h37 => ?_)
  refine ax_aload_n B 0 d_Model_init_107 rfl rfl ?_
  refine ax_sipush (v := 240) B d_Model_init_108 (by decide) ?_
  refine ax_newa (kd := 1) (atype := .int) (dv := ax_I 0) B (by decide) (by decide) rfl wd_44 rfl (fun _ => rfl) (by decide) d_Model_init_111 (fun a38 h39 => ?_)
  refine ax_putf (v := ax_A (some a38)) B cl_Model (by decide) fk_Model_51 (Or.inr ⟨wd_914, rfl, Nm, rfl⟩) (fun _ => ax_narR) (fun _ => ax_fitR) d_Model_init_113 (fun h40 => ?_)
  refine ax_aload_n B 0 d_Model_init_116 rfl rfl ?_
  refine ax_sipush (v := 240) B d_Model_init_117 (by decide) ?_
  refine ax_newa (kd := 1) (atype := .int) (dv := ax_I 0) B (by decide) (by decide) rfl wd_44 rfl (fun _ => rfl) (by decide) d_Model_init_120 (fun a41 h42 => ?_)
  refine ax_putf (v := ax_A (some a41)) B cl_Model (by decide) fk_Model_54 (Or.inr ⟨wd_915, rfl, Nm, rfl⟩) (fun _ => ax_narR) (fun _ => ax_fitR) d_Model_init_122 (fun h43 => ?_)
  refine ax_aload_n B 0 d_Model_init_125 rfl rfl ?_
  refine ax_sipush (v := 240) B d_Model_init_126 (by decide) ?_
  refine ax_newa (kd := 1) (atype := .int) (dv := ax_I 0) B (by decide) (by decide) rfl wd_44 rfl (fun _ => rfl) (by decide) d_Model_init_129 (fun a44 h45 => ?_)
  refine ax_putf (v := ax_A (some a44)) B cl_Model (by decide) fk_Model_57 (Or.inr ⟨wd_916, rfl, Nm, rfl⟩) (fun _ => ax_narR) (fun _ => ax_fitR) d_Model_init_131 (fun h46 => ?_)
  refine ax_aload_n B 0 d_Model_init_134 rfl rfl ?_
  refine ax_sipush (v := 240) B d_Model_init_135 (by decide) ?_
  refine ax_newa (kd := 3) (atype := .char) (dv := ax_I 0) B (by decide) (by decide) rfl wd_1047 rfl (fun _ => rfl) (by decide) d_Model_init_138 (fun a47 h48 => ?_)
  refine ax_putf (v := ax_A (some a47)) B cl_Model (by decide) fk_Model_60 (Or.inr ⟨wd_917, rfl, Nm, rfl⟩) (fun _ => ax_narR) (fun _ => ax_fitR) d_Model_init_140 (fun h49 => ?_)
  refine ax_aload_n B 0 d_Model_init_143 rfl rfl ?_
  refine ax_sipush (v := 240) B d_Model_init_144 (by decide) ?_
  refine ax_newa (kd := 1) (atype := .int) (dv := ax_I 0) B (by decide) (by decide) rfl wd_44 rfl (fun _ => rfl) (by decide) d_Model_init_147 (fun a50 h51 => ?_)
  refine ax_putf (v := ax_A (some a50)) B cl_Model (by decide) fk_Model_63 (Or.inr ⟨wd_918, rfl, Nm, rfl⟩) (fun _ => ax_narR) (fun _ => ax_fitR) d_Model_init_149 (fun h52 => ?_)
  refine ax_aload_n B 0 d_Model_init_152 rfl rfl ?_
  refine ax_sipush (v := 240) B d_Model_init_153 (by decide) ?_
  refine ax_newa (kd := 1) (atype := .int) (dv := ax_I 0) B (by decide) (by decide) rfl wd_44 rfl (fun _ => rfl) (by decide) d_Model_init_156 (fun a53 h54 => ?_)
  refine ax_putf (v := ax_A (some a53)) B cl_Model (by decide) fk_Model_66 (Or.inr ⟨wd_919, rfl, Nm, rfl⟩) (fun _ => ax_narR) (fun _ => ax_fitR) d_Model_init_158 (fun h55 => ?_)
  refine ax_aload_n B 0 d_Model_init_161 rfl rfl ?_
  refine ax_sipush (v := 240) B d_Model_init_162 (by decide) ?_
  refine ax_newa (kd := 1) (atype := .int) (dv := ax_I 0) B (by decide) (by decide) rfl wd_44 rfl (fun _ => rfl) (by decide) d_Model_init_165 (fun a56 h57 => ?_)
  refine ax_putf (v := ax_A (some a56)) B cl_Model (by decide) fk_Model_69 (Or.inr ⟨wd_920, rfl, Nm, rfl⟩) (fun _ => ax_narR) (fun _ => ax_fitR) d_Model_init_167 (fun h58 => ?_)
  refine ax_aload_n B 0 d_Model_init_170 rfl rfl ?_
  refine ax_sipush (v := 320) B d_Model_init_171 (by decide) ?_
  refine ax_newa (kd := 4) (atype := .boolean) (dv := ax_I 0) B (by decide) (by decide) rfl wd_1048 rfl (fun _ => rfl) (by decide) d_Model_init_174 (fun a59 h60 => ?_)
  refine ax_putf (v := ax_A (some a59)) B cl_Model (by decide) fk_Model_72 (Or.inr ⟨wd_921, rfl, Nm, rfl⟩) (fun _ => ax_narR) (fun _ => ax_fitR) d_Model_init_176 (fun h61 => ?_)
  refine ax_aload_n B 0 d_Model_init_179 rfl rfl ?_
  refine ax_bipush (v := 8) B d_Model_init_180 (by decide) ?_
  refine ax_newa (kd := 1) (atype := .int) (dv := ax_I 0) B (by decide) (by decide) rfl wd_44 rfl (fun _ => rfl) (by decide) d_Model_init_182 (fun a62 h63 => ?_)
  refine ax_putf (v := ax_A (some a62)) B cl_Model (by decide) fk_Model_76 (Or.inr ⟨wd_923, rfl, Nm, rfl⟩) (fun _ => ax_narR) (fun _ => ax_fitR) d_Model_init_184 (fun h64 => ?_)
  refine ax_aload_n B 0 d_Model_init_187 rfl rfl ?_
  refine ax_bipush (v := 8) B d_Model_init_188 (by decide) ?_
  refine ax_newa (kd := 1) (atype := .int) (dv := ax_I 0) B (by decide) (by decide) rfl wd_44 rfl (fun _ => rfl) (by decide) d_Model_init_190 (fun a65 h66 => ?_)
  refine ax_putf (v := ax_A (some a65)) B cl_Model (by decide) fk_Model_79 (Or.inr ⟨wd_924, rfl, Nm, rfl⟩) (fun _ => ax_narR) (fun _ => ax_fitR) d_Model_init_192 (fun h67 => ?_)
  refine ax_aload_n B 0 d_Model_init_195 rfl rfl ?_
  refine ax_bipush (v := 10) B d_Model_init_196 (by decide) ?_
  refine ax_newa (kd := 1) (atype := .int) (dv := ax_I 0) B (by decide) (by decide) rfl wd_44 rfl (fun _ => rfl) (by decide) d_Model_init_198 (fun a68 h69 => ?_)
  refine ax_putf (v := ax_A (some a68)) B cl_Model (by decide) fk_Model_82 (Or.inr ⟨wd_928, rfl, Nm, rfl⟩) (fun _ => ax_narR) (fun _ => ax_fitR) d_Model_init_200 (fun h70 => ?_)
  refine ax_aload_n B 0 d_Model_init_203 rfl rfl ?_
  refine ax_bipush (v := 10) B d_Model_init_204 (by decide) ?_
  refine ax_newa (kd := 1) (atype := .int) (dv := ax_I 0) B (by decide) (by decide) rfl wd_44 rfl (fun _ => rfl) (by decide) d_Model_init_206 (fun a71 h72 => ?_)
  refine ax_putf (v := ax_A (some a71)) B cl_Model (by decide) fk_Model_85 (Or.inr ⟨wd_929, rfl, Nm, rfl⟩) (fun _ => ax_narR) (fun _ => ax_fitR) d_Model_init_208 (fun h73 => ?_)
  refine ax_aload_n B 0 d_Model_init_211 rfl rfl ?_
  refine ax_bipush (v := 10) B d_Model_init_212 (by decide) ?_
  refine ax_newa (kd := 1) (atype := .int) (dv := ax_I 0) B (by decide) (by decide) rfl wd_44 rfl (fun _ => rfl) (by decide) d_Model_init_214 (fun a74 h75 => ?_)
  refine ax_putf (v := ax_A (some a74)) B cl_Model (by decide) fk_Model_88 (Or.inr ⟨wd_930, rfl, Nm, rfl⟩) (fun _ => ax_narR) (fun _ => ax_fitR) d_Model_init_216 (fun h76 => ?_)
  refine ax_aload_n B 0 d_Model_init_219 rfl rfl ?_
  refine ax_bipush (v := 10) B d_Model_init_220 (by decide) ?_
  refine ax_newa (kd := 1) (atype := .int) (dv := ax_I 0) B (by decide) (by decide) rfl wd_44 rfl (fun _ => rfl) (by decide) d_Model_init_222 (fun a77 h78 => ?_)
  refine ax_putf (v := ax_A (some a77)) B cl_Model (by decide) fk_Model_91 (Or.inr ⟨wd_931, rfl, Nm, rfl⟩) (fun _ => ax_narR) (fun _ => ax_fitR) d_Model_init_224 (fun h79 => ?_)
  refine ax_aload_n B 0 d_Model_init_227 rfl rfl ?_
  refine ax_bipush (v := 10) B d_Model_init_228 (by decide) ?_
  refine ax_newa (kd := 1) (atype := .int) (dv := ax_I 0) B (by decide) (by decide) rfl wd_44 rfl (fun _ => rfl) (by decide) d_Model_init_230 (fun a80 h81 => ?_)
  refine ax_putf (v := ax_A (some a80)) B cl_Model (by decide) fk_Model_94 (Or.inr ⟨wd_932, rfl, Nm, rfl⟩) (fun _ => ax_narR) (fun _ => ax_fitR) d_Model_init_232 (fun h82 => ?_)
  refine ax_aload_n B 0 d_Model_init_235 rfl rfl ?_
  refine ax_bipush (v := 100) B d_Model_init_236 (by decide) ?_
  refine ax_newa (kd := 1) (atype := .int) (dv := ax_I 0) B (by decide) (by decide) rfl wd_44 rfl (fun _ => rfl) (by decide) d_Model_init_238 (fun a83 h84 => ?_)
  refine ax_putf (v := ax_A (some a83)) B cl_Model (by decide) fk_Model_97 (Or.inr ⟨wd_937, rfl, Nm, rfl⟩) (fun _ => ax_narR) (fun _ => ax_fitR) d_Model_init_240 (fun h85 => ?_)
  refine ax_aload_n B 0 d_Model_init_243 rfl rfl ?_
  refine ax_sipush (v := 240) B d_Model_init_244 (by decide) ?_
  refine ax_newa (kd := 2) (atype := .long) (dv := ax_L 0) B (by decide) (by decide) rfl wd_1049 rfl (fun _ => rfl) (by decide) d_Model_init_247 (fun a86 h87 => ?_)
  refine ax_putf (v := ax_A (some a86)) B cl_Model (by decide) fk_Model_100 (Or.inr ⟨wd_938, rfl, Nm, rfl⟩) (fun _ => ax_narR) (fun _ => ax_fitR) d_Model_init_249 (fun h88 => ?_)
  refine ax_aload_n B 0 d_Model_init_252 rfl rfl ?_
  refine ax_bipush (v := 10) B d_Model_init_253 (by decide) ?_
  refine ax_newa (kd := 1) (atype := .int) (dv := ax_I 0) B (by decide) (by decide) rfl wd_44 rfl (fun _ => rfl) (by decide) d_Model_init_255 (fun a89 h90 => ?_)
  refine ax_putf (v := ax_A (some a89)) B cl_Model (by decide) fk_Model_104 (Or.inr ⟨wd_939, rfl, Nm, rfl⟩) (fun _ => ax_narR) (fun _ => ax_fitR) d_Model_init_257 (fun h91 => ?_)
  refine ax_aload_n B 0 d_Model_init_260 rfl rfl ?_
  refine ax_bipush (v := 10) B d_Model_init_261 (by decide) ?_
  refine ax_newa (kd := 1) (atype := .int) (dv := ax_I 0) B (by decide) (by decide) rfl wd_44 rfl (fun _ => rfl) (by decide) d_Model_init_263 (fun a92 h93 => ?_)
  refine ax_putf (v := ax_A (some a92)) B cl_Model (by decide) fk_Model_107 (Or.inr ⟨wd_940, rfl, Nm, rfl⟩) (fun _ => ax_narR) (fun _ => ax_fitR) d_Model_init_265 (fun h94 => ?_)
  refine ax_aload_n B 0 d_Model_init_268 rfl rfl ?_
  refine ax_bipush (v := 10) B d_Model_init_269 (by decide) ?_
  refine ax_newa (kd := 1) (atype := .int) (dv := ax_I 0) B (by decide) (by decide) rfl wd_44 rfl (fun _ => rfl) (by decide) d_Model_init_271 (fun a95 h96 => ?_)
  refine ax_putf (v := ax_A (some a95)) B cl_Model (by decide) fk_Model_110 (Or.inr ⟨wd_941, rfl, Nm, rfl⟩) (fun _ => ax_narR) (fun _ => ax_fitR) d_Model_init_273 (fun h97 => ?_)
  refine ax_aload_n B 0 d_Model_init_276 rfl rfl ?_
  refine ax_bipush (v := 10) B d_Model_init_277 (by decide) ?_
  refine ax_newa (kd := 1) (atype := .int) (dv := ax_I 0) B (by decide) (by decide) rfl wd_44 rfl (fun _ => rfl) (by decide) d_Model_init_279 (fun a98 h99 => ?_)
  refine ax_putf (v := ax_A (some a98)) B cl_Model (by decide) fk_Model_113 (Or.inr ⟨wd_942, rfl, Nm, rfl⟩) (fun _ => ax_narR) (fun _ => ax_fitR) d_Model_init_281 (fun h100 => ?_)
  refine ax_aload_n B 0 d_Model_init_284 rfl rfl ?_
  refine ax_bipush (v := 10) B d_Model_init_285 (by decide) ?_
  refine ax_newa (kd := 1) (atype := .int) (dv := ax_I 0) B (by decide) (by decide) rfl wd_44 rfl (fun _ => rfl) (by decide) d_Model_init_287 (fun a101 h102 => ?_)
  refine ax_putf (v := ax_A (some a101)) B cl_Model (by decide) fk_Model_116 (Or.inr ⟨wd_943, rfl, Nm, rfl⟩) (fun _ => ax_narR) (fun _ => ax_fitR) d_Model_init_289 (fun h103 => ?_)
  exact ax_vreturn B d_Model_init_292

theorem d_Model_thrown_0 : decode prog_12_method_2_code 0 = .ok (.aload_n 0, 1) := by decide +kernel
theorem d_Model_thrown_1 : decode prog_12_method_2_code 1 = .ok (.getfield 119, 3) := by decide +kernel
theorem d_Model_thrown_4 : decode prog_12_method_2_code 4 = .ok (.ireturn, 1) := by decide +kernel
def Model_thrown_b (call : ax_Cf) (x0 : Option Nat) (h : ax_Hp) : ax_O :=
  (ax_gi h x0 9 0).bind fun v1 =>
  ax_ri v1 h
set_option maxHeartbeats 4000000 in
set_option maxRecDepth 20000 in
theorem Model_thrown_t {l : Launch} {G : ax_G} {d : Nat} {call : ax_Cf} (hcall : ax_Hc l G d call) (x0 : Option Nat) (h : ax_Hp) {r : ax_Rs} {h' : ax_Hp} (ho : Model_thrown_b call x0 h = some (r, h')) : ax_C l G (d + 1) y_Model_thrown (.code y_Model_thrown prog_12_method_2_code 1 (some (.int))) [ax_A x0] h r h' := by
  refine ax_enter (by decide) (Nat.le_of_ble_eq_true rfl) ho (fun p e s mi args below meth c B E Nm => ?_)
  have B : ax_B G p s mi meth c "SchemaDeskModel" prog_12_method_2_code 1 (some (.int)) := B
  show ax_W G p l e s mi args below meth c 1 (d + 1) h 0 [(0, ax_A x0)] [] h (Model_thrown_b call x0 h)
  unfold Model_thrown_b
  refine ax_aload_n B 0 d_Model_thrown_0 rfl rfl ?_
  refine ax_getfi B cl_Model (by decide) fk_Model_119 d_Model_thrown_1 (fun v1 => ?_)
  exact ax_ireturn B d_Model_thrown_4

theorem d_Model_write_0 : decode prog_12_method_3_code 0 = .ok (.aload_n 0, 1) := by decide +kernel
theorem d_Model_write_1 : decode prog_12_method_3_code 1 = .ok (.iconst 0, 1) := by decide +kernel
theorem d_Model_write_2 : decode prog_12_method_3_code 2 = .ok (.putfield 119, 3) := by decide +kernel
theorem d_Model_write_5 : decode prog_12_method_3_code 5 = .ok (.iconst 0, 1) := by decide +kernel
theorem d_Model_write_6 : decode prog_12_method_3_code 6 = .ok (.istore_n 3, 1) := by decide +kernel
theorem d_Model_write_7 : decode prog_12_method_3_code 7 = .ok (.iconst 0, 1) := by decide +kernel
theorem d_Model_write_8 : decode prog_12_method_3_code 8 = .ok (.istore 4, 2) := by decide +kernel
theorem d_Model_write_10 : decode prog_12_method_3_code 10 = .ok (.iload 4, 2) := by decide +kernel
theorem d_Model_write_12 : decode prog_12_method_3_code 12 = .ok (.bipush 8, 2) := by decide +kernel
theorem d_Model_write_14 : decode prog_12_method_3_code 14 = .ok (.if_icmp .ge 57, 3) := by decide +kernel
theorem d_Model_write_17 : decode prog_12_method_3_code 17 = .ok (.lload_n 1, 1) := by decide +kernel
theorem d_Model_write_18 : decode prog_12_method_3_code 18 = .ok (.bipush 8, 2) := by decide +kernel
theorem d_Model_write_20 : decode prog_12_method_3_code 20 = .ok (.iload 4, 2) := by decide +kernel
theorem d_Model_write_22 : decode prog_12_method_3_code 22 = .ok (.imul, 1) := by decide +kernel
theorem d_Model_write_23 : decode prog_12_method_3_code 23 = .ok (.lshr, 1) := by decide +kernel
theorem d_Model_write_24 : decode prog_12_method_3_code 24 = .ok (.ldc2_w 122, 3) := by decide +kernel
theorem d_Model_write_27 : decode prog_12_method_3_code 27 = .ok (.land, 1) := by decide +kernel
theorem d_Model_write_28 : decode prog_12_method_3_code 28 = .ok (.l2i, 1) := by decide +kernel
theorem d_Model_write_29 : decode prog_12_method_3_code 29 = .ok (.istore 5, 2) := by decide +kernel
theorem d_Model_write_31 : decode prog_12_method_3_code 31 = .ok (.iload 5, 2) := by decide +kernel
theorem d_Model_write_33 : decode prog_12_method_3_code 33 = .ok (.ifCond .eq 19, 3) := by decide +kernel
theorem d_Model_write_36 : decode prog_12_method_3_code 36 = .ok (.iload 5, 2) := by decide +kernel
theorem d_Model_write_38 : decode prog_12_method_3_code 38 = .ok (.bipush 32, 2) := by decide +kernel
theorem d_Model_write_40 : decode prog_12_method_3_code 40 = .ok (.if_icmp .lt 10, 3) := by decide +kernel
theorem d_Model_write_43 : decode prog_12_method_3_code 43 = .ok (.iload 5, 2) := by decide +kernel
theorem d_Model_write_45 : decode prog_12_method_3_code 45 = .ok (.bipush 126, 2) := by decide +kernel
theorem d_Model_write_47 : decode prog_12_method_3_code 47 = .ok (.if_icmp .le 5, 3) := by decide +kernel
theorem d_Model_write_50 : decode prog_12_method_3_code 50 = .ok (.iconst 0, 1) := by decide +kernel
theorem d_Model_write_51 : decode prog_12_method_3_code 51 = .ok (.ireturn, 1) := by decide +kernel
theorem d_Model_write_52 : decode prog_12_method_3_code 52 = .ok (.iload_n 3, 1) := by decide +kernel
theorem d_Model_write_53 : decode prog_12_method_3_code 53 = .ok (.iload 5, 2) := by decide +kernel
theorem d_Model_write_55 : decode prog_12_method_3_code 55 = .ok (.ifCond .ne 7, 3) := by decide +kernel
theorem d_Model_write_58 : decode prog_12_method_3_code 58 = .ok (.iconst 0, 1) := by decide +kernel
theorem d_Model_write_59 : decode prog_12_method_3_code 59 = .ok (.goto 4, 3) := by decide +kernel
theorem d_Model_write_62 : decode prog_12_method_3_code 62 = .ok (.iconst 1, 1) := by decide +kernel
theorem d_Model_write_63 : decode prog_12_method_3_code 63 = .ok (.iadd, 1) := by decide +kernel
theorem d_Model_write_64 : decode prog_12_method_3_code 64 = .ok (.istore_n 3, 1) := by decide +kernel
theorem d_Model_write_65 : decode prog_12_method_3_code 65 = .ok (.iinc 4 1, 3) := by decide +kernel
theorem d_Model_write_68 : decode prog_12_method_3_code 68 = .ok (.goto (-58), 3) := by decide +kernel
theorem d_Model_write_71 : decode prog_12_method_3_code 71 = .ok (.aload_n 0, 1) := by decide +kernel
theorem d_Model_write_72 : decode prog_12_method_3_code 72 = .ok (.getfield 124, 3) := by decide +kernel
theorem d_Model_write_75 : decode prog_12_method_3_code 75 = .ok (.iload_n 3, 1) := by decide +kernel
theorem d_Model_write_76 : decode prog_12_method_3_code 76 = .ok (.iadd, 1) := by decide +kernel
theorem d_Model_write_77 : decode prog_12_method_3_code 77 = .ok (.sipush 160, 3) := by decide +kernel
theorem d_Model_write_80 : decode prog_12_method_3_code 80 = .ok (.if_icmp .le 5, 3) := by decide +kernel
theorem d_Model_write_83 : decode prog_12_method_3_code 83 = .ok (.iconst 0, 1) := by decide +kernel
theorem d_Model_write_84 : decode prog_12_method_3_code 84 = .ok (.ireturn, 1) := by decide +kernel
theorem d_Model_write_85 : decode prog_12_method_3_code 85 = .ok (.iconst 0, 1) := by decide +kernel
theorem d_Model_write_86 : decode prog_12_method_3_code 86 = .ok (.istore 4, 2) := by decide +kernel
theorem d_Model_write_88 : decode prog_12_method_3_code 88 = .ok (.iload 4, 2) := by decide +kernel
theorem d_Model_write_90 : decode prog_12_method_3_code 90 = .ok (.bipush 8, 2) := by decide +kernel
theorem d_Model_write_92 : decode prog_12_method_3_code 92 = .ok (.if_icmp .ge 50, 3) := by decide +kernel
theorem d_Model_write_95 : decode prog_12_method_3_code 95 = .ok (.lload_n 1, 1) := by decide +kernel
theorem d_Model_write_96 : decode prog_12_method_3_code 96 = .ok (.bipush 8, 2) := by decide +kernel
theorem d_Model_write_98 : decode prog_12_method_3_code 98 = .ok (.iload 4, 2) := by decide +kernel
theorem d_Model_write_100 : decode prog_12_method_3_code 100 = .ok (.imul, 1) := by decide +kernel
theorem d_Model_write_101 : decode prog_12_method_3_code 101 = .ok (.lshr, 1) := by decide +kernel
theorem d_Model_write_102 : decode prog_12_method_3_code 102 = .ok (.ldc2_w 122, 3) := by decide +kernel
theorem d_Model_write_105 : decode prog_12_method_3_code 105 = .ok (.land, 1) := by decide +kernel
theorem d_Model_write_106 : decode prog_12_method_3_code 106 = .ok (.l2i, 1) := by decide +kernel
theorem d_Model_write_107 : decode prog_12_method_3_code 107 = .ok (.istore 5, 2) := by decide +kernel
theorem d_Model_write_109 : decode prog_12_method_3_code 109 = .ok (.iload 5, 2) := by decide +kernel
theorem d_Model_write_111 : decode prog_12_method_3_code 111 = .ok (.ifCond .eq 25, 3) := by decide +kernel
theorem d_Model_write_114 : decode prog_12_method_3_code 114 = .ok (.aload_n 0, 1) := by decide +kernel
theorem d_Model_write_115 : decode prog_12_method_3_code 115 = .ok (.getfield 7, 3) := by decide +kernel
theorem d_Model_write_118 : decode prog_12_method_3_code 118 = .ok (.aload_n 0, 1) := by decide +kernel
theorem d_Model_write_119 : decode prog_12_method_3_code 119 = .ok (.getfield 124, 3) := by decide +kernel
theorem d_Model_write_122 : decode prog_12_method_3_code 122 = .ok (.iload 5, 2) := by decide +kernel
theorem d_Model_write_124 : decode prog_12_method_3_code 124 = .ok (.i2c, 1) := by decide +kernel
theorem d_Model_write_125 : decode prog_12_method_3_code 125 = .ok (.castore, 1) := by decide +kernel
theorem d_Model_write_126 : decode prog_12_method_3_code 126 = .ok (.aload_n 0, 1) := by decide +kernel
theorem d_Model_write_127 : decode prog_12_method_3_code 127 = .ok (.dup, 1) := by decide +kernel
theorem d_Model_write_128 : decode prog_12_method_3_code 128 = .ok (.getfield 124, 3) := by decide +kernel
theorem d_Model_write_131 : decode prog_12_method_3_code 131 = .ok (.iconst 1, 1) := by decide +kernel
theorem d_Model_write_132 : decode prog_12_method_3_code 132 = .ok (.iadd, 1) := by decide +kernel
theorem d_Model_write_133 : decode prog_12_method_3_code 133 = .ok (.putfield 124, 3) := by decide +kernel
theorem d_Model_write_136 : decode prog_12_method_3_code 136 = .ok (.iinc 4 1, 3) := by decide +kernel
theorem d_Model_write_139 : decode prog_12_method_3_code 139 = .ok (.goto (-51), 3) := by decide +kernel
theorem d_Model_write_142 : decode prog_12_method_3_code 142 = .ok (.iconst 1, 1) := by decide +kernel
theorem d_Model_write_143 : decode prog_12_method_3_code 143 = .ok (.ireturn, 1) := by decide +kernel
def Model_write_jn136 (call : ax_Cf) (k88 : Option Nat → Int64 → Int32 → ax_Hp → ax_O) (x0 : Option Nat) (x1 : Int64) (x4 : Int32) (h : ax_Hp) : ax_O :=
  k88 x0 x1 (x4 + 1) h
set_option maxHeartbeats 4000000 in
set_option maxRecDepth 20000 in
theorem Model_write_jq136 {l : Launch} {G : ax_G} {d : Nat} {call : ax_Cf} (hcall : ax_Hc l G d call) {p : Program} {e : Env} {s : State} {mi : MethodId} {args : Array Value} {below : List Frame} {meth : Method} {c : Code} {h0 : ax_Hp} (B : ax_B G p s mi meth c "SchemaDeskModel" prog_12_method_3_code 6 (some (.boolean))) (E : c.exceptionTable.isEmpty = true) (Nm : meth.name = y_Model_write.name) (k88 : Option Nat → Int64 → Int32 → ax_Hp → ax_O) (hk88 : ∀ (x0 : Option Nat) (x1 : Int64) (x4 : Int32) (h : ax_Hp), ax_W G p l e s mi args below meth c 6 (d + 1) h0 88 [(0, ax_A x0), (1, ax_L x1), (4, ax_I x4)] [] h (k88 x0 x1 x4 h)) (x0 : Option Nat) (x1 : Int64) (x4 : Int32) (h : ax_Hp) : ax_W G p l e s mi args below meth c 6 (d + 1) h0 136 [(0, ax_A x0), (1, ax_L x1), (4, ax_I x4)] [] h (Model_write_jn136 call k88 x0 x1 x4 h) := by
  unfold Model_write_jn136
  refine ax_iinc (v := x4 + 1) (tv2 := [(4, ax_I (x4 + 1)), (0, ax_A x0), (1, ax_L x1)]) B 2 d_Model_write_136 rfl (congrArg (_ + ·) (by decide)) (by decide) rfl ?_
  refine ax_goto B 88 d_Model_write_139 (by decide) ?_
  refine ax_sub (tv2 := [(0, ax_A x0), (1, ax_L x1), (4, ax_I (x4 + 1))]) [1, 2, 0] rfl ?_
  exact hk88 x0 x1 (x4 + 1) h
def Model_write_bd88 (call : ax_Cf)  (k88 : Option Nat → Int64 → Int32 → ax_Hp → ax_O) (x0 : Option Nat) (x1 : Int64) (x4 : Int32) (h : ax_Hp) : ax_O :=
  if 8 ≤ x4 then
    ax_rz 1 h
  else
    if (((x1 >>> ((8 * x4).toInt64 &&& 63)) &&& 255).toInt32) = 0 then
      Model_write_jn136 call k88 x0 x1 x4 h
    else
      (ax_gr h x0 9 2).bind fun v3 =>
      (ax_gi h x0 9 1).bind fun v4 =>
      (ax_stc h v3 3 v4 (((((x1 >>> ((8 * x4).toInt64 &&& 63)) &&& 255).toInt32).toUInt32 % 65536).toInt32)).bind fun h5 =>
      (ax_gi h5 x0 9 1).bind fun v6 =>
      (ax_pf h5 x0 9 1 (ax_I (v6 + 1))).bind fun h7 =>
      Model_write_jn136 call k88 x0 x1 x4 h7
def Model_write_lp88 (call : ax_Cf)  : Nat → Option Nat → Int64 → Int32 → ax_Hp → ax_O
  | 0 => fun _ _ _ _ => none
  | n + 1 => Model_write_bd88 call  (Model_write_lp88 call  n)
set_option maxHeartbeats 4000000 in
set_option maxRecDepth 20000 in
theorem Model_write_lb88 {l : Launch} {G : ax_G} {d : Nat} {call : ax_Cf} (hcall : ax_Hc l G d call) {p : Program} {e : Env} {s : State} {mi : MethodId} {args : Array Value} {below : List Frame} {meth : Method} {c : Code} {h0 : ax_Hp} (B : ax_B G p s mi meth c "SchemaDeskModel" prog_12_method_3_code 6 (some (.boolean))) (E : c.exceptionTable.isEmpty = true) (Nm : meth.name = y_Model_write.name)   {k88 : Option Nat → Int64 → Int32 → ax_Hp → ax_O} (hk88 : ∀ (x0 : Option Nat) (x1 : Int64) (x4 : Int32) (h : ax_Hp), ax_W G p l e s mi args below meth c 6 (d + 1) h0 88 [(0, ax_A x0), (1, ax_L x1), (4, ax_I x4)] [] h (k88 x0 x1 x4 h)) (x0 : Option Nat) (x1 : Int64) (x4 : Int32) (h : ax_Hp) : ax_W G p l e s mi args below meth c 6 (d + 1) h0 88 [(0, ax_A x0), (1, ax_L x1), (4, ax_I x4)] [] h (Model_write_bd88 call  k88 x0 x1 x4 h) := by
  unfold Model_write_bd88
  refine ax_iload B 2 d_Model_write_88 rfl ?_
  refine ax_bipush (v := 8) B d_Model_write_90 (by decide) ?_
  refine ax_icmp_ge B 142 d_Model_write_92 (by decide) ?_ ?_
  · refine ax_iconst (v := 1) B d_Model_write_142 (by decide) ?_
    exact ax_zreturn B d_Model_write_143
  · refine ax_lload_n B 1 d_Model_write_95 rfl rfl ?_
    refine ax_bipush (v := 8) B d_Model_write_96 (by decide) ?_
    refine ax_iload B 2 d_Model_write_98 rfl ?_
    refine ax_imul B d_Model_write_100 ?_
    refine ax_lshr B d_Model_write_101 ?_
    refine ax_ldc2 (v := 255) B wd_1058 d_Model_write_102 ?_
    refine ax_land B d_Model_write_105 ?_
    refine ax_l2i B d_Model_write_106 ?_
    refine ax_istore (tv2 := [(5, ax_I (((x1 >>> ((8 * x4).toInt64 &&& 63)) &&& 255).toInt32)), (0, ax_A x0), (1, ax_L x1), (4, ax_I x4)]) B d_Model_write_107 (by decide) rfl ?_
    refine ax_iload B 0 d_Model_write_109 rfl ?_
    refine ax_if_eq B 136 d_Model_write_111 (by decide) ?_ ?_
    · refine ax_sub (tv2 := [(0, ax_A x0), (1, ax_L x1), (4, ax_I x4)]) [1, 2, 3] rfl ?_
      exact Model_write_jq136 hcall B E Nm k88 hk88 x0 x1 x4 h
    · refine ax_aload_n B 1 d_Model_write_114 rfl rfl ?_
      refine ax_getfr B cl_Model (by decide) fk_Model_7 d_Model_write_115 (fun v3 => ?_)
      refine ax_aload_n B 1 d_Model_write_118 rfl rfl ?_
      refine ax_getfi B cl_Model (by decide) fk_Model_124 d_Model_write_119 (fun v4 => ?_)
      refine ax_iload B 0 d_Model_write_122 rfl ?_
      refine ax_i2c B d_Model_write_124 ?_
      refine ax_cast (kd := 3) B (by decide) (by decide) rfl d_Model_write_125 (fun h5 => ?_)
      refine ax_aload_n B 1 d_Model_write_126 rfl rfl ?_
      refine ax_dup B d_Model_write_127 rfl ?_
      refine ax_getfi B cl_Model (by decide) fk_Model_124 d_Model_write_128 (fun v6 => ?_)
      refine ax_iconst (v := 1) B d_Model_write_131 (by decide) ?_
      refine ax_iadd B d_Model_write_132 ?_
      refine ax_putf (v := ax_I (v6 + 1)) B cl_Model (by decide) fk_Model_124 (Or.inl rfl) (fun _ => rfl) (fun _ => rfl) d_Model_write_133 (fun h7 => ?_)
      refine ax_sub (tv2 := [(0, ax_A x0), (1, ax_L x1), (4, ax_I x4)]) [1, 2, 3] rfl ?_
      exact Model_write_jq136 hcall B E Nm k88 hk88 x0 x1 x4 h7
theorem Model_write_lq88 {l : Launch} {G : ax_G} {d : Nat} {call : ax_Cf} (hcall : ax_Hc l G d call) {p : Program} {e : Env} {s : State} {mi : MethodId} {args : Array Value} {below : List Frame} {meth : Method} {c : Code} {h0 : ax_Hp} (B : ax_B G p s mi meth c "SchemaDeskModel" prog_12_method_3_code 6 (some (.boolean))) (E : c.exceptionTable.isEmpty = true) (Nm : meth.name = y_Model_write.name)   : ∀ (n : Nat) (x0 : Option Nat) (x1 : Int64) (x4 : Int32) (h : ax_Hp), ax_W G p l e s mi args below meth c 6 (d + 1) h0 88 [(0, ax_A x0), (1, ax_L x1), (4, ax_I x4)] [] h (Model_write_lp88 call  n x0 x1 x4 h)
  | 0, _, _, _, _ => ax_none
  | n + 1, x0, x1, x4, h => Model_write_lb88 hcall B E Nm   (Model_write_lq88 hcall B E Nm   n) x0 x1 x4 h
def Model_write_jn63 (call : ax_Cf) (k10 : Option Nat → Int64 → Int32 → Int32 → ax_Hp → ax_O) (x0 : Option Nat) (x1 : Int64) (x4 : Int32) (s0 : Int32) (s1 : Int32) (h : ax_Hp) : ax_O :=
  k10 x0 x1 (s1 + s0) (x4 + 1) h
set_option maxHeartbeats 4000000 in
set_option maxRecDepth 20000 in
theorem Model_write_jq63 {l : Launch} {G : ax_G} {d : Nat} {call : ax_Cf} (hcall : ax_Hc l G d call) {p : Program} {e : Env} {s : State} {mi : MethodId} {args : Array Value} {below : List Frame} {meth : Method} {c : Code} {h0 : ax_Hp} (B : ax_B G p s mi meth c "SchemaDeskModel" prog_12_method_3_code 6 (some (.boolean))) (E : c.exceptionTable.isEmpty = true) (Nm : meth.name = y_Model_write.name) (k10 : Option Nat → Int64 → Int32 → Int32 → ax_Hp → ax_O) (hk10 : ∀ (x0 : Option Nat) (x1 : Int64) (x3 : Int32) (x4 : Int32) (h : ax_Hp), ax_W G p l e s mi args below meth c 6 (d + 1) h0 10 [(0, ax_A x0), (1, ax_L x1), (3, ax_I x3), (4, ax_I x4)] [] h (k10 x0 x1 x3 x4 h)) (x0 : Option Nat) (x1 : Int64) (x4 : Int32) (s0 : Int32) (s1 : Int32) (h : ax_Hp) : ax_W G p l e s mi args below meth c 6 (d + 1) h0 63 [(0, ax_A x0), (1, ax_L x1), (4, ax_I x4)] [ax_I s0, ax_I s1] h (Model_write_jn63 call k10 x0 x1 x4 s0 s1 h) := by
  unfold Model_write_jn63
  refine ax_iadd B d_Model_write_63 ?_
  refine ax_istore_n (tv2 := [(3, ax_I (s1 + s0)), (0, ax_A x0), (1, ax_L x1), (4, ax_I x4)]) B d_Model_write_64 rfl (by decide) rfl ?_
  refine ax_iinc (v := x4 + 1) (tv2 := [(4, ax_I (x4 + 1)), (3, ax_I (s1 + s0)), (0, ax_A x0), (1, ax_L x1)]) B 3 d_Model_write_65 rfl (congrArg (_ + ·) (by decide)) (by decide) rfl ?_
  refine ax_goto B 10 d_Model_write_68 (by decide) ?_
  refine ax_sub (tv2 := [(0, ax_A x0), (1, ax_L x1), (3, ax_I (s1 + s0)), (4, ax_I (x4 + 1))]) [2, 3, 1, 0] rfl ?_
  exact hk10 x0 x1 (s1 + s0) (x4 + 1) h
def Model_write_jn52 (call : ax_Cf) (k10 : Option Nat → Int64 → Int32 → Int32 → ax_Hp → ax_O) (x0 : Option Nat) (x1 : Int64) (x3 : Int32) (x4 : Int32) (x5 : Int32) (h : ax_Hp) : ax_O :=
  if x5 = 0 then
    Model_write_jn63 call k10 x0 x1 x4 0 x3 h
  else
    Model_write_jn63 call k10 x0 x1 x4 1 x3 h
set_option maxHeartbeats 4000000 in
set_option maxRecDepth 20000 in
theorem Model_write_jq52 {l : Launch} {G : ax_G} {d : Nat} {call : ax_Cf} (hcall : ax_Hc l G d call) {p : Program} {e : Env} {s : State} {mi : MethodId} {args : Array Value} {below : List Frame} {meth : Method} {c : Code} {h0 : ax_Hp} (B : ax_B G p s mi meth c "SchemaDeskModel" prog_12_method_3_code 6 (some (.boolean))) (E : c.exceptionTable.isEmpty = true) (Nm : meth.name = y_Model_write.name) (k10 : Option Nat → Int64 → Int32 → Int32 → ax_Hp → ax_O) (hk10 : ∀ (x0 : Option Nat) (x1 : Int64) (x3 : Int32) (x4 : Int32) (h : ax_Hp), ax_W G p l e s mi args below meth c 6 (d + 1) h0 10 [(0, ax_A x0), (1, ax_L x1), (3, ax_I x3), (4, ax_I x4)] [] h (k10 x0 x1 x3 x4 h)) (x0 : Option Nat) (x1 : Int64) (x3 : Int32) (x4 : Int32) (x5 : Int32) (h : ax_Hp) : ax_W G p l e s mi args below meth c 6 (d + 1) h0 52 [(0, ax_A x0), (1, ax_L x1), (3, ax_I x3), (4, ax_I x4), (5, ax_I x5)] [] h (Model_write_jn52 call k10 x0 x1 x3 x4 x5 h) := by
  unfold Model_write_jn52
  refine ax_iload_n B 2 d_Model_write_52 rfl rfl ?_
  refine ax_iload B 4 d_Model_write_53 rfl ?_
  refine ax_if_ne B 62 d_Model_write_55 (by decide) ?_ ?_
  · refine ax_iconst (v := 1) B d_Model_write_62 (by decide) ?_
    refine ax_sub (tv2 := [(0, ax_A x0), (1, ax_L x1), (4, ax_I x4)]) [0, 1, 3] rfl ?_
    exact Model_write_jq63 hcall B E Nm k10 hk10 x0 x1 x4 1 x3 h
  · refine ax_iconst (v := 0) B d_Model_write_58 (by decide) ?_
    refine ax_goto B 63 d_Model_write_59 (by decide) ?_
    refine ax_sub (tv2 := [(0, ax_A x0), (1, ax_L x1), (4, ax_I x4)]) [0, 1, 3] rfl ?_
    exact Model_write_jq63 hcall B E Nm k10 hk10 x0 x1 x4 0 x3 h
def Model_write_bd10 (call : ax_Cf)  (k10 : Option Nat → Int64 → Int32 → Int32 → ax_Hp → ax_O) (x0 : Option Nat) (x1 : Int64) (x3 : Int32) (x4 : Int32) (h : ax_Hp) : ax_O :=
  if 8 ≤ x4 then
    (ax_gi h x0 9 1).bind fun v2 =>
    if (v2 + x3) ≤ 160 then
      Model_write_lp88 call ax_fuel x0 x1 0 h
    else
      ax_rz 0 h
  else
    if (((x1 >>> ((8 * x4).toInt64 &&& 63)) &&& 255).toInt32) = 0 then
      Model_write_jn52 call k10 x0 x1 x3 x4 (((x1 >>> ((8 * x4).toInt64 &&& 63)) &&& 255).toInt32) h
    else
      if (((x1 >>> ((8 * x4).toInt64 &&& 63)) &&& 255).toInt32) < 32 then
        ax_rz 0 h
      else
        if (((x1 >>> ((8 * x4).toInt64 &&& 63)) &&& 255).toInt32) ≤ 126 then
          Model_write_jn52 call k10 x0 x1 x3 x4 (((x1 >>> ((8 * x4).toInt64 &&& 63)) &&& 255).toInt32) h
        else
          ax_rz 0 h
def Model_write_lp10 (call : ax_Cf)  : Nat → Option Nat → Int64 → Int32 → Int32 → ax_Hp → ax_O
  | 0 => fun _ _ _ _ _ => none
  | n + 1 => Model_write_bd10 call  (Model_write_lp10 call  n)
set_option maxHeartbeats 4000000 in
set_option maxRecDepth 20000 in
theorem Model_write_lb10 {l : Launch} {G : ax_G} {d : Nat} {call : ax_Cf} (hcall : ax_Hc l G d call) {p : Program} {e : Env} {s : State} {mi : MethodId} {args : Array Value} {below : List Frame} {meth : Method} {c : Code} {h0 : ax_Hp} (B : ax_B G p s mi meth c "SchemaDeskModel" prog_12_method_3_code 6 (some (.boolean))) (E : c.exceptionTable.isEmpty = true) (Nm : meth.name = y_Model_write.name)   {k10 : Option Nat → Int64 → Int32 → Int32 → ax_Hp → ax_O} (hk10 : ∀ (x0 : Option Nat) (x1 : Int64) (x3 : Int32) (x4 : Int32) (h : ax_Hp), ax_W G p l e s mi args below meth c 6 (d + 1) h0 10 [(0, ax_A x0), (1, ax_L x1), (3, ax_I x3), (4, ax_I x4)] [] h (k10 x0 x1 x3 x4 h)) (x0 : Option Nat) (x1 : Int64) (x3 : Int32) (x4 : Int32) (h : ax_Hp) : ax_W G p l e s mi args below meth c 6 (d + 1) h0 10 [(0, ax_A x0), (1, ax_L x1), (3, ax_I x3), (4, ax_I x4)] [] h (Model_write_bd10 call  k10 x0 x1 x3 x4 h) := by
  unfold Model_write_bd10
  refine ax_iload B 3 d_Model_write_10 rfl ?_
  refine ax_bipush (v := 8) B d_Model_write_12 (by decide) ?_
  refine ax_icmp_ge B 71 d_Model_write_14 (by decide) ?_ ?_
  · refine ax_aload_n B 0 d_Model_write_71 rfl rfl ?_
    refine ax_getfi B cl_Model (by decide) fk_Model_124 d_Model_write_72 (fun v2 => ?_)
    refine ax_iload_n B 2 d_Model_write_75 rfl rfl ?_
    refine ax_iadd B d_Model_write_76 ?_
    refine ax_sipush (v := 160) B d_Model_write_77 (by decide) ?_
    refine ax_icmp_le B 85 d_Model_write_80 (by decide) ?_ ?_
    · refine ax_iconst (v := 0) B d_Model_write_85 (by decide) ?_
      refine ax_istore (tv2 := [(4, ax_I 0), (0, ax_A x0), (1, ax_L x1), (3, ax_I x3)]) B d_Model_write_86 (by decide) rfl ?_
      refine ax_sub (tv2 := [(0, ax_A x0), (1, ax_L x1), (4, ax_I 0)]) [1, 2, 0] rfl ?_
      exact Model_write_lq88 hcall B E Nm ax_fuel x0 x1 0 h
    · refine ax_iconst (v := 0) B d_Model_write_83 (by decide) ?_
      exact ax_zreturn B d_Model_write_84
  · refine ax_lload_n B 1 d_Model_write_17 rfl rfl ?_
    refine ax_bipush (v := 8) B d_Model_write_18 (by decide) ?_
    refine ax_iload B 3 d_Model_write_20 rfl ?_
    refine ax_imul B d_Model_write_22 ?_
    refine ax_lshr B d_Model_write_23 ?_
    refine ax_ldc2 (v := 255) B wd_1058 d_Model_write_24 ?_
    refine ax_land B d_Model_write_27 ?_
    refine ax_l2i B d_Model_write_28 ?_
    refine ax_istore (tv2 := [(5, ax_I (((x1 >>> ((8 * x4).toInt64 &&& 63)) &&& 255).toInt32)), (0, ax_A x0), (1, ax_L x1), (3, ax_I x3), (4, ax_I x4)]) B d_Model_write_29 (by decide) rfl ?_
    refine ax_iload B 0 d_Model_write_31 rfl ?_
    refine ax_if_eq B 52 d_Model_write_33 (by decide) ?_ ?_
    · refine ax_sub (tv2 := [(0, ax_A x0), (1, ax_L x1), (3, ax_I x3), (4, ax_I x4), (5, ax_I (((x1 >>> ((8 * x4).toInt64 &&& 63)) &&& 255).toInt32))]) [1, 2, 3, 4, 0] rfl ?_
      exact Model_write_jq52 hcall B E Nm k10 hk10 x0 x1 x3 x4 (((x1 >>> ((8 * x4).toInt64 &&& 63)) &&& 255).toInt32) h
    · refine ax_iload B 0 d_Model_write_36 rfl ?_
      refine ax_bipush (v := 32) B d_Model_write_38 (by decide) ?_
      refine ax_icmp_lt B 50 d_Model_write_40 (by decide) ?_ ?_
      · refine ax_iconst (v := 0) B d_Model_write_50 (by decide) ?_
        exact ax_zreturn B d_Model_write_51
      · refine ax_iload B 0 d_Model_write_43 rfl ?_
        refine ax_bipush (v := 126) B d_Model_write_45 (by decide) ?_
        refine ax_icmp_le B 52 d_Model_write_47 (by decide) ?_ ?_
        · refine ax_sub (tv2 := [(0, ax_A x0), (1, ax_L x1), (3, ax_I x3), (4, ax_I x4), (5, ax_I (((x1 >>> ((8 * x4).toInt64 &&& 63)) &&& 255).toInt32))]) [1, 2, 3, 4, 0] rfl ?_
          exact Model_write_jq52 hcall B E Nm k10 hk10 x0 x1 x3 x4 (((x1 >>> ((8 * x4).toInt64 &&& 63)) &&& 255).toInt32) h
        · refine ax_iconst (v := 0) B d_Model_write_50 (by decide) ?_
          exact ax_zreturn B d_Model_write_51
theorem Model_write_lq10 {l : Launch} {G : ax_G} {d : Nat} {call : ax_Cf} (hcall : ax_Hc l G d call) {p : Program} {e : Env} {s : State} {mi : MethodId} {args : Array Value} {below : List Frame} {meth : Method} {c : Code} {h0 : ax_Hp} (B : ax_B G p s mi meth c "SchemaDeskModel" prog_12_method_3_code 6 (some (.boolean))) (E : c.exceptionTable.isEmpty = true) (Nm : meth.name = y_Model_write.name)   : ∀ (n : Nat) (x0 : Option Nat) (x1 : Int64) (x3 : Int32) (x4 : Int32) (h : ax_Hp), ax_W G p l e s mi args below meth c 6 (d + 1) h0 10 [(0, ax_A x0), (1, ax_L x1), (3, ax_I x3), (4, ax_I x4)] [] h (Model_write_lp10 call  n x0 x1 x3 x4 h)
  | 0, _, _, _, _, _ => ax_none
  | n + 1, x0, x1, x3, x4, h => Model_write_lb10 hcall B E Nm   (Model_write_lq10 hcall B E Nm   n) x0 x1 x3 x4 h
def Model_write_b (call : ax_Cf) (x0 : Option Nat) (x1 : Int64) (h : ax_Hp) : ax_O :=
  (ax_pf h x0 9 0 (ax_I 0)).bind fun h1 =>
  Model_write_lp10 call ax_fuel x0 x1 0 0 h1
set_option maxHeartbeats 4000000 in
set_option maxRecDepth 20000 in
theorem Model_write_t {l : Launch} {G : ax_G} {d : Nat} {call : ax_Cf} (hcall : ax_Hc l G d call) (x0 : Option Nat) (x1 : Int64) (h : ax_Hp) {r : ax_Rs} {h' : ax_Hp} (ho : Model_write_b call x0 x1 h = some (r, h')) : ax_C l G (d + 1) y_Model_write (.code y_Model_write prog_12_method_3_code 6 (some (.boolean))) [ax_A x0, ax_L x1] h r h' := by
  refine ax_enter (by decide) (Nat.le_of_ble_eq_true rfl) ho (fun p e s mi args below meth c B E Nm => ?_)
  have B : ax_B G p s mi meth c "SchemaDeskModel" prog_12_method_3_code 6 (some (.boolean)) := B
  show ax_W G p l e s mi args below meth c 6 (d + 1) h 0 [(0, ax_A x0), (1, ax_L x1)] [] h (Model_write_b call x0 x1 h)
  unfold Model_write_b
  refine ax_aload_n B 0 d_Model_write_0 rfl rfl ?_
  refine ax_iconst (v := 0) B d_Model_write_1 (by decide) ?_
  refine ax_putf (v := ax_I 0) B cl_Model (by decide) fk_Model_119 (Or.inl rfl) (fun _ => rfl) (fun _ => rfl) d_Model_write_2 (fun h1 => ?_)
  refine ax_iconst (v := 0) B d_Model_write_5 (by decide) ?_
  refine ax_istore_n (tv2 := [(3, ax_I 0), (0, ax_A x0), (1, ax_L x1)]) B d_Model_write_6 rfl (by decide) rfl ?_
  refine ax_iconst (v := 0) B d_Model_write_7 (by decide) ?_
  refine ax_istore (tv2 := [(4, ax_I 0), (3, ax_I 0), (0, ax_A x0), (1, ax_L x1)]) B d_Model_write_8 (by decide) rfl ?_
  refine ax_sub (tv2 := [(0, ax_A x0), (1, ax_L x1), (3, ax_I 0), (4, ax_I 0)]) [2, 3, 1, 0] rfl ?_
  exact Model_write_lq10 hcall B E Nm ax_fuel x0 x1 0 0 h1

theorem d_Model_wipe_0 : decode prog_12_method_4_code 0 = .ok (.aload_n 0, 1) := by decide +kernel
theorem d_Model_wipe_1 : decode prog_12_method_4_code 1 = .ok (.iconst 0, 1) := by decide +kernel
theorem d_Model_wipe_2 : decode prog_12_method_4_code 2 = .ok (.putfield 119, 3) := by decide +kernel
theorem d_Model_wipe_5 : decode prog_12_method_4_code 5 = .ok (.aload_n 0, 1) := by decide +kernel
theorem d_Model_wipe_6 : decode prog_12_method_4_code 6 = .ok (.getfield 124, 3) := by decide +kernel
theorem d_Model_wipe_9 : decode prog_12_method_4_code 9 = .ok (.istore_n 1, 1) := by decide +kernel
theorem d_Model_wipe_10 : decode prog_12_method_4_code 10 = .ok (.aload_n 0, 1) := by decide +kernel
theorem d_Model_wipe_11 : decode prog_12_method_4_code 11 = .ok (.iconst 0, 1) := by decide +kernel
theorem d_Model_wipe_12 : decode prog_12_method_4_code 12 = .ok (.putfield 124, 3) := by decide +kernel
theorem d_Model_wipe_15 : decode prog_12_method_4_code 15 = .ok (.iload_n 1, 1) := by decide +kernel
theorem d_Model_wipe_16 : decode prog_12_method_4_code 16 = .ok (.ireturn, 1) := by decide +kernel
def Model_wipe_b (call : ax_Cf) (x0 : Option Nat) (h : ax_Hp) : ax_O :=
  (ax_pf h x0 9 0 (ax_I 0)).bind fun h1 =>
  (ax_gi h1 x0 9 1).bind fun v2 =>
  (ax_pf h1 x0 9 1 (ax_I 0)).bind fun h3 =>
  ax_ri v2 h3
set_option maxHeartbeats 4000000 in
set_option maxRecDepth 20000 in
theorem Model_wipe_t {l : Launch} {G : ax_G} {d : Nat} {call : ax_Cf} (hcall : ax_Hc l G d call) (x0 : Option Nat) (h : ax_Hp) {r : ax_Rs} {h' : ax_Hp} (ho : Model_wipe_b call x0 h = some (r, h')) : ax_C l G (d + 1) y_Model_wipe (.code y_Model_wipe prog_12_method_4_code 2 (some (.int))) [ax_A x0] h r h' := by
  refine ax_enter (by decide) (Nat.le_of_ble_eq_true rfl) ho (fun p e s mi args below meth c B E Nm => ?_)
  have B : ax_B G p s mi meth c "SchemaDeskModel" prog_12_method_4_code 2 (some (.int)) := B
  show ax_W G p l e s mi args below meth c 2 (d + 1) h 0 [(0, ax_A x0)] [] h (Model_wipe_b call x0 h)
  unfold Model_wipe_b
  refine ax_aload_n B 0 d_Model_wipe_0 rfl rfl ?_
  refine ax_iconst (v := 0) B d_Model_wipe_1 (by decide) ?_
  refine ax_putf (v := ax_I 0) B cl_Model (by decide) fk_Model_119 (Or.inl rfl) (fun _ => rfl) (fun _ => rfl) d_Model_wipe_2 (fun h1 => ?_)
  refine ax_aload_n B 0 d_Model_wipe_5 rfl rfl ?_
  refine ax_getfi B cl_Model (by decide) fk_Model_124 d_Model_wipe_6 (fun v2 => ?_)
  refine ax_istore_n (tv2 := [(1, ax_I v2), (0, ax_A x0)]) B d_Model_wipe_9 rfl (by decide) rfl ?_
  refine ax_aload_n B 1 d_Model_wipe_10 rfl rfl ?_
  refine ax_iconst (v := 0) B d_Model_wipe_11 (by decide) ?_
  refine ax_putf (v := ax_I 0) B cl_Model (by decide) fk_Model_124 (Or.inl rfl) (fun _ => rfl) (fun _ => rfl) d_Model_wipe_12 (fun h3 => ?_)
  refine ax_iload_n B 0 d_Model_wipe_15 rfl rfl ?_
  exact ax_ireturn B d_Model_wipe_16

theorem d_Model_feed_0 : decode prog_12_method_5_code 0 = .ok (.aload_n 0, 1) := by decide +kernel
theorem d_Model_feed_1 : decode prog_12_method_5_code 1 = .ok (.iconst 0, 1) := by decide +kernel
theorem d_Model_feed_2 : decode prog_12_method_5_code 2 = .ok (.putfield 119, 3) := by decide +kernel
theorem d_Model_feed_5 : decode prog_12_method_5_code 5 = .ok (.iload_n 3, 1) := by decide +kernel
theorem d_Model_feed_6 : decode prog_12_method_5_code 6 = .ok (.iconst 1, 1) := by decide +kernel
theorem d_Model_feed_7 : decode prog_12_method_5_code 7 = .ok (.if_icmp .lt 20, 3) := by decide +kernel
theorem d_Model_feed_10 : decode prog_12_method_5_code 10 = .ok (.iload_n 3, 1) := by decide +kernel
theorem d_Model_feed_11 : decode prog_12_method_5_code 11 = .ok (.bipush 8, 2) := by decide +kernel
theorem d_Model_feed_13 : decode prog_12_method_5_code 13 = .ok (.if_icmp .gt 14, 3) := by decide +kernel
theorem d_Model_feed_16 : decode prog_12_method_5_code 16 = .ok (.aload_n 0, 1) := by decide +kernel
theorem d_Model_feed_17 : decode prog_12_method_5_code 17 = .ok (.getfield 127, 3) := by decide +kernel
theorem d_Model_feed_20 : decode prog_12_method_5_code 20 = .ok (.iload_n 3, 1) := by decide +kernel
theorem d_Model_feed_21 : decode prog_12_method_5_code 21 = .ok (.iadd, 1) := by decide +kernel
theorem d_Model_feed_22 : decode prog_12_method_5_code 22 = .ok (.bipush 64, 2) := by decide +kernel
theorem d_Model_feed_24 : decode prog_12_method_5_code 24 = .ok (.if_icmp .le 5, 3) := by decide +kernel
theorem d_Model_feed_27 : decode prog_12_method_5_code 27 = .ok (.iconst 0, 1) := by decide +kernel
theorem d_Model_feed_28 : decode prog_12_method_5_code 28 = .ok (.ireturn, 1) := by decide +kernel
theorem d_Model_feed_29 : decode prog_12_method_5_code 29 = .ok (.iconst 0, 1) := by decide +kernel
theorem d_Model_feed_30 : decode prog_12_method_5_code 30 = .ok (.istore 4, 2) := by decide +kernel
theorem d_Model_feed_32 : decode prog_12_method_5_code 32 = .ok (.iload 4, 2) := by decide +kernel
theorem d_Model_feed_34 : decode prog_12_method_5_code 34 = .ok (.iload_n 3, 1) := by decide +kernel
theorem d_Model_feed_35 : decode prog_12_method_5_code 35 = .ok (.if_icmp .ge 40, 3) := by decide +kernel
theorem d_Model_feed_38 : decode prog_12_method_5_code 38 = .ok (.aload_n 0, 1) := by decide +kernel
theorem d_Model_feed_39 : decode prog_12_method_5_code 39 = .ok (.getfield 13, 3) := by decide +kernel
theorem d_Model_feed_42 : decode prog_12_method_5_code 42 = .ok (.aload_n 0, 1) := by decide +kernel
theorem d_Model_feed_43 : decode prog_12_method_5_code 43 = .ok (.getfield 127, 3) := by decide +kernel
theorem d_Model_feed_46 : decode prog_12_method_5_code 46 = .ok (.lload_n 1, 1) := by decide +kernel
theorem d_Model_feed_47 : decode prog_12_method_5_code 47 = .ok (.bipush 8, 2) := by decide +kernel
theorem d_Model_feed_49 : decode prog_12_method_5_code 49 = .ok (.iload 4, 2) := by decide +kernel
theorem d_Model_feed_51 : decode prog_12_method_5_code 51 = .ok (.imul, 1) := by decide +kernel
theorem d_Model_feed_52 : decode prog_12_method_5_code 52 = .ok (.lshr, 1) := by decide +kernel
theorem d_Model_feed_53 : decode prog_12_method_5_code 53 = .ok (.ldc2_w 122, 3) := by decide +kernel
theorem d_Model_feed_56 : decode prog_12_method_5_code 56 = .ok (.land, 1) := by decide +kernel
theorem d_Model_feed_57 : decode prog_12_method_5_code 57 = .ok (.l2i, 1) := by decide +kernel
theorem d_Model_feed_58 : decode prog_12_method_5_code 58 = .ok (.iastore, 1) := by decide +kernel
theorem d_Model_feed_59 : decode prog_12_method_5_code 59 = .ok (.aload_n 0, 1) := by decide +kernel
theorem d_Model_feed_60 : decode prog_12_method_5_code 60 = .ok (.dup, 1) := by decide +kernel
theorem d_Model_feed_61 : decode prog_12_method_5_code 61 = .ok (.getfield 127, 3) := by decide +kernel
theorem d_Model_feed_64 : decode prog_12_method_5_code 64 = .ok (.iconst 1, 1) := by decide +kernel
theorem d_Model_feed_65 : decode prog_12_method_5_code 65 = .ok (.iadd, 1) := by decide +kernel
theorem d_Model_feed_66 : decode prog_12_method_5_code 66 = .ok (.putfield 127, 3) := by decide +kernel
theorem d_Model_feed_69 : decode prog_12_method_5_code 69 = .ok (.iinc 4 1, 3) := by decide +kernel
theorem d_Model_feed_72 : decode prog_12_method_5_code 72 = .ok (.goto (-40), 3) := by decide +kernel
theorem d_Model_feed_75 : decode prog_12_method_5_code 75 = .ok (.iconst 1, 1) := by decide +kernel
theorem d_Model_feed_76 : decode prog_12_method_5_code 76 = .ok (.ireturn, 1) := by decide +kernel
def Model_feed_bd32 (call : ax_Cf)  (k32 : Option Nat → Int64 → Int32 → Int32 → ax_Hp → ax_O) (x0 : Option Nat) (x1 : Int64) (x3 : Int32) (x4 : Int32) (h : ax_Hp) : ax_O :=
  if x3 ≤ x4 then
    ax_rz 1 h
  else
    (ax_gr h x0 9 4).bind fun v3 =>
    (ax_gi h x0 9 3).bind fun v4 =>
    (ax_st h v3 1 v4 (ax_I (((x1 >>> ((8 * x4).toInt64 &&& 63)) &&& 255).toInt32))).bind fun h5 =>
    (ax_gi h5 x0 9 3).bind fun v6 =>
    (ax_pf h5 x0 9 3 (ax_I (v6 + 1))).bind fun h7 =>
    k32 x0 x1 x3 (x4 + 1) h7
def Model_feed_lp32 (call : ax_Cf)  : Nat → Option Nat → Int64 → Int32 → Int32 → ax_Hp → ax_O
  | 0 => fun _ _ _ _ _ => none
  | n + 1 => Model_feed_bd32 call  (Model_feed_lp32 call  n)
set_option maxHeartbeats 4000000 in
set_option maxRecDepth 20000 in
theorem Model_feed_lb32 {l : Launch} {G : ax_G} {d : Nat} {call : ax_Cf} (hcall : ax_Hc l G d call) {p : Program} {e : Env} {s : State} {mi : MethodId} {args : Array Value} {below : List Frame} {meth : Method} {c : Code} {h0 : ax_Hp} (B : ax_B G p s mi meth c "SchemaDeskModel" prog_12_method_5_code 5 (some (.boolean))) (E : c.exceptionTable.isEmpty = true) (Nm : meth.name = y_Model_feed.name)   {k32 : Option Nat → Int64 → Int32 → Int32 → ax_Hp → ax_O} (hk32 : ∀ (x0 : Option Nat) (x1 : Int64) (x3 : Int32) (x4 : Int32) (h : ax_Hp), ax_W G p l e s mi args below meth c 5 (d + 1) h0 32 [(0, ax_A x0), (1, ax_L x1), (3, ax_I x3), (4, ax_I x4)] [] h (k32 x0 x1 x3 x4 h)) (x0 : Option Nat) (x1 : Int64) (x3 : Int32) (x4 : Int32) (h : ax_Hp) : ax_W G p l e s mi args below meth c 5 (d + 1) h0 32 [(0, ax_A x0), (1, ax_L x1), (3, ax_I x3), (4, ax_I x4)] [] h (Model_feed_bd32 call  k32 x0 x1 x3 x4 h) := by
  unfold Model_feed_bd32
  refine ax_iload B 3 d_Model_feed_32 rfl ?_
  refine ax_iload_n B 2 d_Model_feed_34 rfl rfl ?_
  refine ax_icmp_ge B 75 d_Model_feed_35 (by decide) ?_ ?_
  · refine ax_iconst (v := 1) B d_Model_feed_75 (by decide) ?_
    exact ax_zreturn B d_Model_feed_76
  · refine ax_aload_n B 0 d_Model_feed_38 rfl rfl ?_
    refine ax_getfr B cl_Model (by decide) fk_Model_13 d_Model_feed_39 (fun v3 => ?_)
    refine ax_aload_n B 0 d_Model_feed_42 rfl rfl ?_
    refine ax_getfi B cl_Model (by decide) fk_Model_127 d_Model_feed_43 (fun v4 => ?_)
    refine ax_lload_n B 1 d_Model_feed_46 rfl rfl ?_
    refine ax_bipush (v := 8) B d_Model_feed_47 (by decide) ?_
    refine ax_iload B 3 d_Model_feed_49 rfl ?_
    refine ax_imul B d_Model_feed_51 ?_
    refine ax_lshr B d_Model_feed_52 ?_
    refine ax_ldc2 (v := 255) B wd_1058 d_Model_feed_53 ?_
    refine ax_land B d_Model_feed_56 ?_
    refine ax_l2i B d_Model_feed_57 ?_
    refine ax_iast (kd := 1) B (by decide) (by decide) rfl d_Model_feed_58 (fun h5 => ?_)
    refine ax_aload_n B 0 d_Model_feed_59 rfl rfl ?_
    refine ax_dup B d_Model_feed_60 rfl ?_
    refine ax_getfi B cl_Model (by decide) fk_Model_127 d_Model_feed_61 (fun v6 => ?_)
    refine ax_iconst (v := 1) B d_Model_feed_64 (by decide) ?_
    refine ax_iadd B d_Model_feed_65 ?_
    refine ax_putf (v := ax_I (v6 + 1)) B cl_Model (by decide) fk_Model_127 (Or.inl rfl) (fun _ => rfl) (fun _ => rfl) d_Model_feed_66 (fun h7 => ?_)
    refine ax_iinc (v := x4 + 1) (tv2 := [(4, ax_I (x4 + 1)), (0, ax_A x0), (1, ax_L x1), (3, ax_I x3)]) B 3 d_Model_feed_69 rfl (congrArg (_ + ·) (by decide)) (by decide) rfl ?_
    refine ax_goto B 32 d_Model_feed_72 (by decide) ?_
    refine ax_sub (tv2 := [(0, ax_A x0), (1, ax_L x1), (3, ax_I x3), (4, ax_I (x4 + 1))]) [1, 2, 3, 0] rfl ?_
    exact hk32 x0 x1 x3 (x4 + 1) h7
theorem Model_feed_lq32 {l : Launch} {G : ax_G} {d : Nat} {call : ax_Cf} (hcall : ax_Hc l G d call) {p : Program} {e : Env} {s : State} {mi : MethodId} {args : Array Value} {below : List Frame} {meth : Method} {c : Code} {h0 : ax_Hp} (B : ax_B G p s mi meth c "SchemaDeskModel" prog_12_method_5_code 5 (some (.boolean))) (E : c.exceptionTable.isEmpty = true) (Nm : meth.name = y_Model_feed.name)   : ∀ (n : Nat) (x0 : Option Nat) (x1 : Int64) (x3 : Int32) (x4 : Int32) (h : ax_Hp), ax_W G p l e s mi args below meth c 5 (d + 1) h0 32 [(0, ax_A x0), (1, ax_L x1), (3, ax_I x3), (4, ax_I x4)] [] h (Model_feed_lp32 call  n x0 x1 x3 x4 h)
  | 0, _, _, _, _, _ => ax_none
  | n + 1, x0, x1, x3, x4, h => Model_feed_lb32 hcall B E Nm   (Model_feed_lq32 hcall B E Nm   n) x0 x1 x3 x4 h
def Model_feed_b (call : ax_Cf) (x0 : Option Nat) (x1 : Int64) (x3 : Int32) (h : ax_Hp) : ax_O :=
  (ax_pf h x0 9 0 (ax_I 0)).bind fun h1 =>
  if x3 < 1 then
    ax_rz 0 h1
  else
    if 8 < x3 then
      ax_rz 0 h1
    else
      (ax_gi h1 x0 9 3).bind fun v2 =>
      if (v2 + x3) ≤ 64 then
        Model_feed_lp32 call ax_fuel x0 x1 x3 0 h1
      else
        ax_rz 0 h1
set_option maxHeartbeats 4000000 in
set_option maxRecDepth 20000 in
theorem Model_feed_t {l : Launch} {G : ax_G} {d : Nat} {call : ax_Cf} (hcall : ax_Hc l G d call) (x0 : Option Nat) (x1 : Int64) (x3 : Int32) (h : ax_Hp) {r : ax_Rs} {h' : ax_Hp} (ho : Model_feed_b call x0 x1 x3 h = some (r, h')) : ax_C l G (d + 1) y_Model_feed (.code y_Model_feed prog_12_method_5_code 5 (some (.boolean))) [ax_A x0, ax_L x1, ax_I x3] h r h' := by
  refine ax_enter (by decide) (Nat.le_of_ble_eq_true rfl) ho (fun p e s mi args below meth c B E Nm => ?_)
  have B : ax_B G p s mi meth c "SchemaDeskModel" prog_12_method_5_code 5 (some (.boolean)) := B
  show ax_W G p l e s mi args below meth c 5 (d + 1) h 0 [(0, ax_A x0), (1, ax_L x1), (3, ax_I x3)] [] h (Model_feed_b call x0 x1 x3 h)
  unfold Model_feed_b
  refine ax_aload_n B 0 d_Model_feed_0 rfl rfl ?_
  refine ax_iconst (v := 0) B d_Model_feed_1 (by decide) ?_
  refine ax_putf (v := ax_I 0) B cl_Model (by decide) fk_Model_119 (Or.inl rfl) (fun _ => rfl) (fun _ => rfl) d_Model_feed_2 (fun h1 => ?_)
  refine ax_iload_n B 2 d_Model_feed_5 rfl rfl ?_
  refine ax_iconst (v := 1) B d_Model_feed_6 (by decide) ?_
  refine ax_icmp_lt B 27 d_Model_feed_7 (by decide) ?_ ?_
  · refine ax_iconst (v := 0) B d_Model_feed_27 (by decide) ?_
    exact ax_zreturn B d_Model_feed_28
  · refine ax_iload_n B 2 d_Model_feed_10 rfl rfl ?_
    refine ax_bipush (v := 8) B d_Model_feed_11 (by decide) ?_
    refine ax_icmp_gt B 27 d_Model_feed_13 (by decide) ?_ ?_
    · refine ax_iconst (v := 0) B d_Model_feed_27 (by decide) ?_
      exact ax_zreturn B d_Model_feed_28
    · refine ax_aload_n B 0 d_Model_feed_16 rfl rfl ?_
      refine ax_getfi B cl_Model (by decide) fk_Model_127 d_Model_feed_17 (fun v2 => ?_)
      refine ax_iload_n B 2 d_Model_feed_20 rfl rfl ?_
      refine ax_iadd B d_Model_feed_21 ?_
      refine ax_bipush (v := 64) B d_Model_feed_22 (by decide) ?_
      refine ax_icmp_le B 29 d_Model_feed_24 (by decide) ?_ ?_
      · refine ax_iconst (v := 0) B d_Model_feed_29 (by decide) ?_
        refine ax_istore (tv2 := [(4, ax_I 0), (0, ax_A x0), (1, ax_L x1), (3, ax_I x3)]) B d_Model_feed_30 (by decide) rfl ?_
        refine ax_sub (tv2 := [(0, ax_A x0), (1, ax_L x1), (3, ax_I x3), (4, ax_I 0)]) [1, 2, 3, 0] rfl ?_
        exact Model_feed_lq32 hcall B E Nm ax_fuel x0 x1 x3 0 h1
      · refine ax_iconst (v := 0) B d_Model_feed_27 (by decide) ?_
        exact ax_zreturn B d_Model_feed_28

theorem d_Model_drain_0 : decode prog_12_method_6_code 0 = .ok (.aload_n 0, 1) := by decide +kernel
theorem d_Model_drain_1 : decode prog_12_method_6_code 1 = .ok (.iconst 0, 1) := by decide +kernel
theorem d_Model_drain_2 : decode prog_12_method_6_code 2 = .ok (.putfield 119, 3) := by decide +kernel
theorem d_Model_drain_5 : decode prog_12_method_6_code 5 = .ok (.aload_n 0, 1) := by decide +kernel
theorem d_Model_drain_6 : decode prog_12_method_6_code 6 = .ok (.getfield 127, 3) := by decide +kernel
theorem d_Model_drain_9 : decode prog_12_method_6_code 9 = .ok (.istore_n 1, 1) := by decide +kernel
theorem d_Model_drain_10 : decode prog_12_method_6_code 10 = .ok (.aload_n 0, 1) := by decide +kernel
theorem d_Model_drain_11 : decode prog_12_method_6_code 11 = .ok (.iconst 0, 1) := by decide +kernel
theorem d_Model_drain_12 : decode prog_12_method_6_code 12 = .ok (.putfield 127, 3) := by decide +kernel
theorem d_Model_drain_15 : decode prog_12_method_6_code 15 = .ok (.iload_n 1, 1) := by decide +kernel
theorem d_Model_drain_16 : decode prog_12_method_6_code 16 = .ok (.ireturn, 1) := by decide +kernel
def Model_drain_b (call : ax_Cf) (x0 : Option Nat) (h : ax_Hp) : ax_O :=
  (ax_pf h x0 9 0 (ax_I 0)).bind fun h1 =>
  (ax_gi h1 x0 9 3).bind fun v2 =>
  (ax_pf h1 x0 9 3 (ax_I 0)).bind fun h3 =>
  ax_ri v2 h3
set_option maxHeartbeats 4000000 in
set_option maxRecDepth 20000 in
theorem Model_drain_t {l : Launch} {G : ax_G} {d : Nat} {call : ax_Cf} (hcall : ax_Hc l G d call) (x0 : Option Nat) (h : ax_Hp) {r : ax_Rs} {h' : ax_Hp} (ho : Model_drain_b call x0 h = some (r, h')) : ax_C l G (d + 1) y_Model_drain (.code y_Model_drain prog_12_method_6_code 2 (some (.int))) [ax_A x0] h r h' := by
  refine ax_enter (by decide) (Nat.le_of_ble_eq_true rfl) ho (fun p e s mi args below meth c B E Nm => ?_)
  have B : ax_B G p s mi meth c "SchemaDeskModel" prog_12_method_6_code 2 (some (.int)) := B
  show ax_W G p l e s mi args below meth c 2 (d + 1) h 0 [(0, ax_A x0)] [] h (Model_drain_b call x0 h)
  unfold Model_drain_b
  refine ax_aload_n B 0 d_Model_drain_0 rfl rfl ?_
  refine ax_iconst (v := 0) B d_Model_drain_1 (by decide) ?_
  refine ax_putf (v := ax_I 0) B cl_Model (by decide) fk_Model_119 (Or.inl rfl) (fun _ => rfl) (fun _ => rfl) d_Model_drain_2 (fun h1 => ?_)
  refine ax_aload_n B 0 d_Model_drain_5 rfl rfl ?_
  refine ax_getfi B cl_Model (by decide) fk_Model_127 d_Model_drain_6 (fun v2 => ?_)
  refine ax_istore_n (tv2 := [(1, ax_I v2), (0, ax_A x0)]) B d_Model_drain_9 rfl (by decide) rfl ?_
  refine ax_aload_n B 1 d_Model_drain_10 rfl rfl ?_
  refine ax_iconst (v := 0) B d_Model_drain_11 (by decide) ?_
  refine ax_putf (v := ax_I 0) B cl_Model (by decide) fk_Model_127 (Or.inl rfl) (fun _ => rfl) (fun _ => rfl) d_Model_drain_12 (fun h3 => ?_)
  refine ax_iload_n B 0 d_Model_drain_15 rfl rfl ?_
  exact ax_ireturn B d_Model_drain_16

theorem d_Model_mode_0 : decode prog_12_method_54_code 0 = .ok (.aload_n 0, 1) := by decide +kernel
theorem d_Model_mode_1 : decode prog_12_method_54_code 1 = .ok (.iload_n 1, 1) := by decide +kernel
theorem d_Model_mode_2 : decode prog_12_method_54_code 2 = .ok (.invokestatic 321, 3) := by decide +kernel
theorem d_Model_mode_5 : decode prog_12_method_54_code 5 = .ok (.ifCond .eq 17, 3) := by decide +kernel
theorem d_Model_mode_8 : decode prog_12_method_54_code 8 = .ok (.iload_n 2, 1) := by decide +kernel
theorem d_Model_mode_9 : decode prog_12_method_54_code 9 = .ok (.ifCond .lt 13, 3) := by decide +kernel
theorem d_Model_mode_12 : decode prog_12_method_54_code 12 = .ok (.iload_n 2, 1) := by decide +kernel
theorem d_Model_mode_13 : decode prog_12_method_54_code 13 = .ok (.bipush 6, 2) := by decide +kernel
theorem d_Model_mode_15 : decode prog_12_method_54_code 15 = .ok (.if_icmp .gt 7, 3) := by decide +kernel
theorem d_Model_mode_18 : decode prog_12_method_54_code 18 = .ok (.iconst 0, 1) := by decide +kernel
theorem d_Model_mode_19 : decode prog_12_method_54_code 19 = .ok (.goto 4, 3) := by decide +kernel
theorem d_Model_mode_22 : decode prog_12_method_54_code 22 = .ok (.iconst 1, 1) := by decide +kernel
theorem d_Model_mode_23 : decode prog_12_method_54_code 23 = .ok (.putfield 119, 3) := by decide +kernel
theorem d_Model_mode_26 : decode prog_12_method_54_code 26 = .ok (.aload_n 0, 1) := by decide +kernel
theorem d_Model_mode_27 : decode prog_12_method_54_code 27 = .ok (.getfield 119, 3) := by decide +kernel
theorem d_Model_mode_30 : decode prog_12_method_54_code 30 = .ok (.ifCond .ne 10, 3) := by decide +kernel
theorem d_Model_mode_33 : decode prog_12_method_54_code 33 = .ok (.aload_n 0, 1) := by decide +kernel
theorem d_Model_mode_34 : decode prog_12_method_54_code 34 = .ok (.getfield 27, 3) := by decide +kernel
theorem d_Model_mode_37 : decode prog_12_method_54_code 37 = .ok (.iload_n 1, 1) := by decide +kernel
theorem d_Model_mode_38 : decode prog_12_method_54_code 38 = .ok (.iload_n 2, 1) := by decide +kernel
theorem d_Model_mode_39 : decode prog_12_method_54_code 39 = .ok (.iastore, 1) := by decide +kernel
theorem d_Model_mode_40 : decode prog_12_method_54_code 40 = .ok (.return_, 1) := by decide +kernel
def Model_mode_jn23 (call : ax_Cf)  (x0 : Option Nat) (x1 : Int32) (x2 : Int32) (s0 : Int32) (s1 : Option Nat) (h : ax_Hp) : ax_O :=
  (ax_pf h s1 9 0 (ax_I s0)).bind fun h3 =>
  (ax_gi h3 x0 9 0).bind fun v4 =>
  if v4 = 0 then
    (ax_gr h3 x0 9 10).bind fun v5 =>
    (ax_st h3 v5 1 x1 (ax_I x2)).bind fun h6 =>
    ax_rv h6
  else
    ax_rv h3
set_option maxHeartbeats 4000000 in
set_option maxRecDepth 20000 in
theorem Model_mode_jq23 {l : Launch} {G : ax_G} {d : Nat} {call : ax_Cf} (hcall : ax_Hc l G d call) {p : Program} {e : Env} {s : State} {mi : MethodId} {args : Array Value} {below : List Frame} {meth : Method} {c : Code} {h0 : ax_Hp} (B : ax_B G p s mi meth c "SchemaDeskModel" prog_12_method_54_code 3 none) (E : c.exceptionTable.isEmpty = true) (Nm : meth.name = y_Model_mode.name)   (x0 : Option Nat) (x1 : Int32) (x2 : Int32) (s0 : Int32) (s1 : Option Nat) (h : ax_Hp) : ax_W G p l e s mi args below meth c 3 (d + 1) h0 23 [(0, ax_A x0), (1, ax_I x1), (2, ax_I x2)] [ax_I s0, ax_A s1] h (Model_mode_jn23 call  x0 x1 x2 s0 s1 h) := by
  unfold Model_mode_jn23
  refine ax_putf (v := ax_I s0) B cl_Model (by decide) fk_Model_119 (Or.inl rfl) (fun _ => rfl) (fun _ => rfl) d_Model_mode_23 (fun h3 => ?_)
  refine ax_aload_n B 0 d_Model_mode_26 rfl rfl ?_
  refine ax_getfi B cl_Model (by decide) fk_Model_119 d_Model_mode_27 (fun v4 => ?_)
  refine ax_if_ne B 40 d_Model_mode_30 (by decide) ?_ ?_
  · exact ax_vreturn B d_Model_mode_40
  · refine ax_aload_n B 0 d_Model_mode_33 rfl rfl ?_
    refine ax_getfr B cl_Model (by decide) fk_Model_27 d_Model_mode_34 (fun v5 => ?_)
    refine ax_iload_n B 1 d_Model_mode_37 rfl rfl ?_
    refine ax_iload_n B 2 d_Model_mode_38 rfl rfl ?_
    refine ax_iast (kd := 1) B (by decide) (by decide) rfl d_Model_mode_39 (fun h6 => ?_)
    exact ax_vreturn B d_Model_mode_40
def Model_mode_jn22 (call : ax_Cf)  (x0 : Option Nat) (x1 : Int32) (x2 : Int32) (s0 : Option Nat) (h : ax_Hp) : ax_O :=
  Model_mode_jn23 call x0 x1 x2 1 s0 h
set_option maxHeartbeats 4000000 in
set_option maxRecDepth 20000 in
theorem Model_mode_jq22 {l : Launch} {G : ax_G} {d : Nat} {call : ax_Cf} (hcall : ax_Hc l G d call) {p : Program} {e : Env} {s : State} {mi : MethodId} {args : Array Value} {below : List Frame} {meth : Method} {c : Code} {h0 : ax_Hp} (B : ax_B G p s mi meth c "SchemaDeskModel" prog_12_method_54_code 3 none) (E : c.exceptionTable.isEmpty = true) (Nm : meth.name = y_Model_mode.name)   (x0 : Option Nat) (x1 : Int32) (x2 : Int32) (s0 : Option Nat) (h : ax_Hp) : ax_W G p l e s mi args below meth c 3 (d + 1) h0 22 [(0, ax_A x0), (1, ax_I x1), (2, ax_I x2)] [ax_A s0] h (Model_mode_jn22 call  x0 x1 x2 s0 h) := by
  unfold Model_mode_jn22
  refine ax_iconst (v := 1) B d_Model_mode_22 (by decide) ?_
  refine ax_sub (tv2 := [(0, ax_A x0), (1, ax_I x1), (2, ax_I x2)]) [0, 1, 2] rfl ?_
  exact Model_mode_jq23 hcall B E Nm x0 x1 x2 1 s0 h
def Model_mode_b (call : ax_Cf) (x0 : Option Nat) (x1 : Int32) (x2 : Int32) (h : ax_Hp) : ax_O :=
  ax_ci (call 150 [ax_I x1] h) fun v2 h1 =>
  if v2 = 0 then
    Model_mode_jn22 call x0 x1 x2 x0 h1
  else
    if x2 < 0 then
      Model_mode_jn22 call x0 x1 x2 x0 h1
    else
      if 6 < x2 then
        Model_mode_jn22 call x0 x1 x2 x0 h1
      else
        Model_mode_jn23 call x0 x1 x2 0 x0 h1
set_option maxHeartbeats 4000000 in
set_option maxRecDepth 20000 in
theorem Model_mode_t {l : Launch} {G : ax_G} {d : Nat} {call : ax_Cf} (hcall : ax_Hc l G d call) (x0 : Option Nat) (x1 : Int32) (x2 : Int32) (h : ax_Hp) {r : ax_Rs} {h' : ax_Hp} (ho : Model_mode_b call x0 x1 x2 h = some (r, h')) : ax_C l G (d + 1) y_Model_mode (.code y_Model_mode prog_12_method_54_code 3 none) [ax_A x0, ax_I x1, ax_I x2] h r h' := by
  refine ax_enter (by decide) (Nat.le_of_ble_eq_true rfl) ho (fun p e s mi args below meth c B E Nm => ?_)
  have B : ax_B G p s mi meth c "SchemaDeskModel" prog_12_method_54_code 3 none := B
  show ax_W G p l e s mi args below meth c 3 (d + 1) h 0 [(0, ax_A x0), (1, ax_I x1), (2, ax_I x2)] [] h (Model_mode_b call x0 x1 x2 h)
  unfold Model_mode_b
  refine ax_aload_n B 0 d_Model_mode_0 rfl rfl ?_
  refine ax_iload_n B 1 d_Model_mode_1 rfl rfl ?_
  refine ax_callSi (av := [ax_I x1]) (rest := [ax_A x0]) B E hm_Model_isSubject wd_1076 lk_Model_321 d_Model_mode_2 rfl (Nat.le_of_ble_eq_true rfl) (fun _ _ hh => hcall 150 _ _ _ _ hh) (fun v2 h1 => ?_)
  refine ax_if_eq B 22 d_Model_mode_5 (by decide) ?_ ?_
  · refine ax_sub (tv2 := [(0, ax_A x0), (1, ax_I x1), (2, ax_I x2)]) [0, 1, 2] rfl ?_
    exact Model_mode_jq22 hcall B E Nm x0 x1 x2 x0 h1
  · refine ax_iload_n B 2 d_Model_mode_8 rfl rfl ?_
    refine ax_if_lt B 22 d_Model_mode_9 (by decide) ?_ ?_
    · refine ax_sub (tv2 := [(0, ax_A x0), (1, ax_I x1), (2, ax_I x2)]) [0, 1, 2] rfl ?_
      exact Model_mode_jq22 hcall B E Nm x0 x1 x2 x0 h1
    · refine ax_iload_n B 2 d_Model_mode_12 rfl rfl ?_
      refine ax_bipush (v := 6) B d_Model_mode_13 (by decide) ?_
      refine ax_icmp_gt B 22 d_Model_mode_15 (by decide) ?_ ?_
      · refine ax_sub (tv2 := [(0, ax_A x0), (1, ax_I x1), (2, ax_I x2)]) [0, 1, 2] rfl ?_
        exact Model_mode_jq22 hcall B E Nm x0 x1 x2 x0 h1
      · refine ax_iconst (v := 0) B d_Model_mode_18 (by decide) ?_
        refine ax_goto B 23 d_Model_mode_19 (by decide) ?_
        refine ax_sub (tv2 := [(0, ax_A x0), (1, ax_I x1), (2, ax_I x2)]) [0, 1, 2] rfl ?_
        exact Model_mode_jq23 hcall B E Nm x0 x1 x2 0 x0 h1

theorem d_Model_isSubject_0 : decode prog_12_method_51_code 0 = .ok (.iload_n 0, 1) := by decide +kernel
theorem d_Model_isSubject_1 : decode prog_12_method_51_code 1 = .ok (.ifCond .lt 12, 3) := by decide +kernel
theorem d_Model_isSubject_4 : decode prog_12_method_51_code 4 = .ok (.iload_n 0, 1) := by decide +kernel
theorem d_Model_isSubject_5 : decode prog_12_method_51_code 5 = .ok (.iconst 3, 1) := by decide +kernel
theorem d_Model_isSubject_6 : decode prog_12_method_51_code 6 = .ok (.if_icmp .gt 7, 3) := by decide +kernel
theorem d_Model_isSubject_9 : decode prog_12_method_51_code 9 = .ok (.iconst 1, 1) := by decide +kernel
theorem d_Model_isSubject_10 : decode prog_12_method_51_code 10 = .ok (.goto 4, 3) := by decide +kernel
theorem d_Model_isSubject_13 : decode prog_12_method_51_code 13 = .ok (.iconst 0, 1) := by decide +kernel
theorem d_Model_isSubject_14 : decode prog_12_method_51_code 14 = .ok (.ireturn, 1) := by decide +kernel
def Model_isSubject_b (call : ax_Cf) (x0 : Int32) (h : ax_Hp) : ax_O :=
  if x0 < 0 then
    ax_rz 0 h
  else
    if 3 < x0 then
      ax_rz 0 h
    else
      ax_rz 1 h
set_option maxHeartbeats 4000000 in
set_option maxRecDepth 20000 in
theorem Model_isSubject_t {l : Launch} {G : ax_G} {d : Nat} {call : ax_Cf} (hcall : ax_Hc l G d call) (x0 : Int32) (h : ax_Hp) {r : ax_Rs} {h' : ax_Hp} (ho : Model_isSubject_b call x0 h = some (r, h')) : ax_C l G (d + 1) y_Model_isSubject (.code y_Model_isSubject prog_12_method_51_code 1 (some (.boolean))) [ax_I x0] h r h' := by
  refine ax_enter (by decide) (Nat.le_of_ble_eq_true rfl) ho (fun p e s mi args below meth c B E Nm => ?_)
  have B : ax_B G p s mi meth c "SchemaDeskModel" prog_12_method_51_code 1 (some (.boolean)) := B
  show ax_W G p l e s mi args below meth c 1 (d + 1) h 0 [(0, ax_I x0)] [] h (Model_isSubject_b call x0 h)
  unfold Model_isSubject_b
  refine ax_iload_n B 0 d_Model_isSubject_0 rfl rfl ?_
  refine ax_if_lt B 13 d_Model_isSubject_1 (by decide) ?_ ?_
  · refine ax_iconst (v := 0) B d_Model_isSubject_13 (by decide) ?_
    exact ax_zreturn B d_Model_isSubject_14
  · refine ax_iload_n B 0 d_Model_isSubject_4 rfl rfl ?_
    refine ax_iconst (v := 3) B d_Model_isSubject_5 (by decide) ?_
    refine ax_icmp_gt B 13 d_Model_isSubject_6 (by decide) ?_ ?_
    · refine ax_iconst (v := 0) B d_Model_isSubject_13 (by decide) ?_
      exact ax_zreturn B d_Model_isSubject_14
    · refine ax_iconst (v := 1) B d_Model_isSubject_9 (by decide) ?_
      refine ax_goto B 14 d_Model_isSubject_10 (by decide) ?_
      exact ax_zreturn B d_Model_isSubject_14

theorem d_Model_register_0 : decode prog_12_method_58_code 0 = .ok (.aload_n 0, 1) := by decide +kernel
theorem d_Model_register_1 : decode prog_12_method_58_code 1 = .ok (.iload_n 1, 1) := by decide +kernel
theorem d_Model_register_2 : decode prog_12_method_58_code 2 = .ok (.invokestatic 321, 3) := by decide +kernel
theorem d_Model_register_5 : decode prog_12_method_58_code 5 = .ok (.ifCond .eq 7, 3) := by decide +kernel
theorem d_Model_register_8 : decode prog_12_method_58_code 8 = .ok (.iconst 0, 1) := by decide +kernel
theorem d_Model_register_9 : decode prog_12_method_58_code 9 = .ok (.goto 4, 3) := by decide +kernel
theorem d_Model_register_12 : decode prog_12_method_58_code 12 = .ok (.iconst 1, 1) := by decide +kernel
theorem d_Model_register_13 : decode prog_12_method_58_code 13 = .ok (.putfield 119, 3) := by decide +kernel
theorem d_Model_register_16 : decode prog_12_method_58_code 16 = .ok (.aload_n 0, 1) := by decide +kernel
theorem d_Model_register_17 : decode prog_12_method_58_code 17 = .ok (.getfield 119, 3) := by decide +kernel
theorem d_Model_register_20 : decode prog_12_method_58_code 20 = .ok (.ifCond .le 5, 3) := by decide +kernel
theorem d_Model_register_23 : decode prog_12_method_58_code 23 = .ok (.iconst 0, 1) := by decide +kernel
theorem d_Model_register_24 : decode prog_12_method_58_code 24 = .ok (.ireturn, 1) := by decide +kernel
theorem d_Model_register_25 : decode prog_12_method_58_code 25 = .ok (.aload_n 0, 1) := by decide +kernel
theorem d_Model_register_26 : decode prog_12_method_58_code 26 = .ok (.iconst 0, 1) := by decide +kernel
theorem d_Model_register_27 : decode prog_12_method_58_code 27 = .ok (.invokevirtual 328, 3) := by decide +kernel
theorem d_Model_register_30 : decode prog_12_method_58_code 30 = .ok (.istore_n 2, 1) := by decide +kernel
theorem d_Model_register_31 : decode prog_12_method_58_code 31 = .ok (.iload_n 2, 1) := by decide +kernel
theorem d_Model_register_32 : decode prog_12_method_58_code 32 = .ok (.ifCond .lt 15, 3) := by decide +kernel
theorem d_Model_register_35 : decode prog_12_method_58_code 35 = .ok (.aload_n 0, 1) := by decide +kernel
theorem d_Model_register_36 : decode prog_12_method_58_code 36 = .ok (.iload_n 2, 1) := by decide +kernel
theorem d_Model_register_37 : decode prog_12_method_58_code 37 = .ok (.putfield 23, 3) := by decide +kernel
theorem d_Model_register_40 : decode prog_12_method_58_code 40 = .ok (.aload_n 0, 1) := by decide +kernel
theorem d_Model_register_41 : decode prog_12_method_58_code 41 = .ok (.iconst 1, 1) := by decide +kernel
theorem d_Model_register_42 : decode prog_12_method_58_code 42 = .ok (.putfield 119, 3) := by decide +kernel
theorem d_Model_register_45 : decode prog_12_method_58_code 45 = .ok (.iconst 0, 1) := by decide +kernel
theorem d_Model_register_46 : decode prog_12_method_58_code 46 = .ok (.ireturn, 1) := by decide +kernel
theorem d_Model_register_47 : decode prog_12_method_58_code 47 = .ok (.iconst 0, 1) := by decide +kernel
theorem d_Model_register_48 : decode prog_12_method_58_code 48 = .ok (.istore_n 3, 1) := by decide +kernel
theorem d_Model_register_49 : decode prog_12_method_58_code 49 = .ok (.iload_n 3, 1) := by decide +kernel
theorem d_Model_register_50 : decode prog_12_method_58_code 50 = .ok (.aload_n 0, 1) := by decide +kernel
theorem d_Model_register_51 : decode prog_12_method_58_code 51 = .ok (.getfield 30, 3) := by decide +kernel
theorem d_Model_register_54 : decode prog_12_method_58_code 54 = .ok (.iload_n 1, 1) := by decide +kernel
theorem d_Model_register_55 : decode prog_12_method_58_code 55 = .ok (.iaload, 1) := by decide +kernel
theorem d_Model_register_56 : decode prog_12_method_58_code 56 = .ok (.if_icmp .ge 22, 3) := by decide +kernel
theorem d_Model_register_59 : decode prog_12_method_58_code 59 = .ok (.aload_n 0, 1) := by decide +kernel
theorem d_Model_register_60 : decode prog_12_method_58_code 60 = .ok (.bipush 6, 2) := by decide +kernel
theorem d_Model_register_62 : decode prog_12_method_58_code 62 = .ok (.iload_n 1, 1) := by decide +kernel
theorem d_Model_register_63 : decode prog_12_method_58_code 63 = .ok (.imul, 1) := by decide +kernel
theorem d_Model_register_64 : decode prog_12_method_58_code 64 = .ok (.iload_n 3, 1) := by decide +kernel
theorem d_Model_register_65 : decode prog_12_method_58_code 65 = .ok (.iadd, 1) := by decide +kernel
theorem d_Model_register_66 : decode prog_12_method_58_code 66 = .ok (.invokevirtual 338, 3) := by decide +kernel
theorem d_Model_register_69 : decode prog_12_method_58_code 69 = .ok (.ifCond .ne 9, 3) := by decide +kernel
theorem d_Model_register_72 : decode prog_12_method_58_code 72 = .ok (.iinc 3 1, 3) := by decide +kernel
theorem d_Model_register_75 : decode prog_12_method_58_code 75 = .ok (.goto (-26), 3) := by decide +kernel
theorem d_Model_register_78 : decode prog_12_method_58_code 78 = .ok (.iload_n 3, 1) := by decide +kernel
theorem d_Model_register_79 : decode prog_12_method_58_code 79 = .ok (.aload_n 0, 1) := by decide +kernel
theorem d_Model_register_80 : decode prog_12_method_58_code 80 = .ok (.getfield 30, 3) := by decide +kernel
theorem d_Model_register_83 : decode prog_12_method_58_code 83 = .ok (.iload_n 1, 1) := by decide +kernel
theorem d_Model_register_84 : decode prog_12_method_58_code 84 = .ok (.iaload, 1) := by decide +kernel
theorem d_Model_register_85 : decode prog_12_method_58_code 85 = .ok (.if_icmp .ne 164, 3) := by decide +kernel
theorem d_Model_register_88 : decode prog_12_method_58_code 88 = .ok (.iload_n 3, 1) := by decide +kernel
theorem d_Model_register_89 : decode prog_12_method_58_code 89 = .ok (.bipush 6, 2) := by decide +kernel
theorem d_Model_register_91 : decode prog_12_method_58_code 91 = .ok (.if_icmp .ge 7, 3) := by decide +kernel
theorem d_Model_register_94 : decode prog_12_method_58_code 94 = .ok (.iconst 1, 1) := by decide +kernel
theorem d_Model_register_95 : decode prog_12_method_58_code 95 = .ok (.goto 4, 3) := by decide +kernel
theorem d_Model_register_98 : decode prog_12_method_58_code 98 = .ok (.iconst 0, 1) := by decide +kernel
theorem d_Model_register_99 : decode prog_12_method_58_code 99 = .ok (.istore 4, 2) := by decide +kernel
theorem d_Model_register_101 : decode prog_12_method_58_code 101 = .ok (.aload_n 0, 1) := by decide +kernel
theorem d_Model_register_102 : decode prog_12_method_58_code 102 = .ok (.getfield 27, 3) := by decide +kernel
theorem d_Model_register_105 : decode prog_12_method_58_code 105 = .ok (.iload_n 1, 1) := by decide +kernel
theorem d_Model_register_106 : decode prog_12_method_58_code 106 = .ok (.iaload, 1) := by decide +kernel
theorem d_Model_register_107 : decode prog_12_method_58_code 107 = .ok (.iconst 3, 1) := by decide +kernel
theorem d_Model_register_108 : decode prog_12_method_58_code 108 = .ok (.if_icmp .le 7, 3) := by decide +kernel
theorem d_Model_register_111 : decode prog_12_method_58_code 111 = .ok (.iconst 0, 1) := by decide +kernel
theorem d_Model_register_112 : decode prog_12_method_58_code 112 = .ok (.goto 6, 3) := by decide +kernel
theorem d_Model_register_115 : decode prog_12_method_58_code 115 = .ok (.iload_n 3, 1) := by decide +kernel
theorem d_Model_register_116 : decode prog_12_method_58_code 116 = .ok (.iconst 1, 1) := by decide +kernel
theorem d_Model_register_117 : decode prog_12_method_58_code 117 = .ok (.isub, 1) := by decide +kernel
theorem d_Model_register_118 : decode prog_12_method_58_code 118 = .ok (.istore 5, 2) := by decide +kernel
theorem d_Model_register_120 : decode prog_12_method_58_code 120 = .ok (.iload 5, 2) := by decide +kernel
theorem d_Model_register_122 : decode prog_12_method_58_code 122 = .ok (.ifCond .ge 7, 3) := by decide +kernel
theorem d_Model_register_125 : decode prog_12_method_58_code 125 = .ok (.iconst 0, 1) := by decide +kernel
theorem d_Model_register_126 : decode prog_12_method_58_code 126 = .ok (.goto 5, 3) := by decide +kernel
theorem d_Model_register_129 : decode prog_12_method_58_code 129 = .ok (.iload 5, 2) := by decide +kernel
theorem d_Model_register_131 : decode prog_12_method_58_code 131 = .ok (.istore 6, 2) := by decide +kernel
theorem d_Model_register_133 : decode prog_12_method_58_code 133 = .ok (.iload 6, 2) := by decide +kernel
theorem d_Model_register_135 : decode prog_12_method_58_code 135 = .ok (.iload_n 3, 1) := by decide +kernel
theorem d_Model_register_136 : decode prog_12_method_58_code 136 = .ok (.if_icmp .ge 33, 3) := by decide +kernel
theorem d_Model_register_139 : decode prog_12_method_58_code 139 = .ok (.iload 4, 2) := by decide +kernel
theorem d_Model_register_141 : decode prog_12_method_58_code 141 = .ok (.ifCond .eq 28, 3) := by decide +kernel
theorem d_Model_register_144 : decode prog_12_method_58_code 144 = .ok (.aload_n 0, 1) := by decide +kernel
theorem d_Model_register_145 : decode prog_12_method_58_code 145 = .ok (.aload_n 0, 1) := by decide +kernel
theorem d_Model_register_146 : decode prog_12_method_58_code 146 = .ok (.getfield 27, 3) := by decide +kernel
theorem d_Model_register_149 : decode prog_12_method_58_code 149 = .ok (.iload_n 1, 1) := by decide +kernel
theorem d_Model_register_150 : decode prog_12_method_58_code 150 = .ok (.iaload, 1) := by decide +kernel
theorem d_Model_register_151 : decode prog_12_method_58_code 151 = .ok (.bipush 6, 2) := by decide +kernel
theorem d_Model_register_153 : decode prog_12_method_58_code 153 = .ok (.iload_n 1, 1) := by decide +kernel
theorem d_Model_register_154 : decode prog_12_method_58_code 154 = .ok (.imul, 1) := by decide +kernel
theorem d_Model_register_155 : decode prog_12_method_58_code 155 = .ok (.iload 6, 2) := by decide +kernel
theorem d_Model_register_157 : decode prog_12_method_58_code 157 = .ok (.iadd, 1) := by decide +kernel
theorem d_Model_register_158 : decode prog_12_method_58_code 158 = .ok (.invokevirtual 341, 3) := by decide +kernel
theorem d_Model_register_161 : decode prog_12_method_58_code 161 = .ok (.istore 4, 2) := by decide +kernel
theorem d_Model_register_163 : decode prog_12_method_58_code 163 = .ok (.iinc 6 1, 3) := by decide +kernel
theorem d_Model_register_166 : decode prog_12_method_58_code 166 = .ok (.goto (-33), 3) := by decide +kernel
theorem d_Model_register_169 : decode prog_12_method_58_code 169 = .ok (.iload 4, 2) := by decide +kernel
theorem d_Model_register_171 : decode prog_12_method_58_code 171 = .ok (.ifCond .ne 10, 3) := by decide +kernel
theorem d_Model_register_174 : decode prog_12_method_58_code 174 = .ok (.aload_n 0, 1) := by decide +kernel
theorem d_Model_register_175 : decode prog_12_method_58_code 175 = .ok (.iconst 2, 1) := by decide +kernel
theorem d_Model_register_176 : decode prog_12_method_58_code 176 = .ok (.putfield 119, 3) := by decide +kernel
theorem d_Model_register_179 : decode prog_12_method_58_code 179 = .ok (.iconst 0, 1) := by decide +kernel
theorem d_Model_register_180 : decode prog_12_method_58_code 180 = .ok (.ireturn, 1) := by decide +kernel
theorem d_Model_register_181 : decode prog_12_method_58_code 181 = .ok (.aload_n 0, 1) := by decide +kernel
theorem d_Model_register_182 : decode prog_12_method_58_code 182 = .ok (.getfield 36, 3) := by decide +kernel
theorem d_Model_register_185 : decode prog_12_method_58_code 185 = .ok (.bipush 6, 2) := by decide +kernel
theorem d_Model_register_187 : decode prog_12_method_58_code 187 = .ok (.iload_n 1, 1) := by decide +kernel
theorem d_Model_register_188 : decode prog_12_method_58_code 188 = .ok (.imul, 1) := by decide +kernel
theorem d_Model_register_189 : decode prog_12_method_58_code 189 = .ok (.iload_n 3, 1) := by decide +kernel
theorem d_Model_register_190 : decode prog_12_method_58_code 190 = .ok (.iadd, 1) := by decide +kernel
theorem d_Model_register_191 : decode prog_12_method_58_code 191 = .ok (.aload_n 0, 1) := by decide +kernel
theorem d_Model_register_192 : decode prog_12_method_58_code 192 = .ok (.getfield 124, 3) := by decide +kernel
theorem d_Model_register_195 : decode prog_12_method_58_code 195 = .ok (.iastore, 1) := by decide +kernel
theorem d_Model_register_196 : decode prog_12_method_58_code 196 = .ok (.iconst 0, 1) := by decide +kernel
theorem d_Model_register_197 : decode prog_12_method_58_code 197 = .ok (.istore 6, 2) := by decide +kernel
theorem d_Model_register_199 : decode prog_12_method_58_code 199 = .ok (.iload 6, 2) := by decide +kernel
theorem d_Model_register_201 : decode prog_12_method_58_code 201 = .ok (.aload_n 0, 1) := by decide +kernel
theorem d_Model_register_202 : decode prog_12_method_58_code 202 = .ok (.getfield 124, 3) := by decide +kernel
theorem d_Model_register_205 : decode prog_12_method_58_code 205 = .ok (.if_icmp .ge 34, 3) := by decide +kernel
theorem d_Model_register_208 : decode prog_12_method_58_code 208 = .ok (.aload_n 0, 1) := by decide +kernel
theorem d_Model_register_209 : decode prog_12_method_58_code 209 = .ok (.getfield 33, 3) := by decide +kernel
theorem d_Model_register_212 : decode prog_12_method_58_code 212 = .ok (.sipush 160, 3) := by decide +kernel
theorem d_Model_register_215 : decode prog_12_method_58_code 215 = .ok (.bipush 6, 2) := by decide +kernel
theorem d_Model_register_217 : decode prog_12_method_58_code 217 = .ok (.iload_n 1, 1) := by decide +kernel
theorem d_Model_register_218 : decode prog_12_method_58_code 218 = .ok (.imul, 1) := by decide +kernel
theorem d_Model_register_219 : decode prog_12_method_58_code 219 = .ok (.iload_n 3, 1) := by decide +kernel
theorem d_Model_register_220 : decode prog_12_method_58_code 220 = .ok (.iadd, 1) := by decide +kernel
theorem d_Model_register_221 : decode prog_12_method_58_code 221 = .ok (.imul, 1) := by decide +kernel
theorem d_Model_register_222 : decode prog_12_method_58_code 222 = .ok (.iload 6, 2) := by decide +kernel
theorem d_Model_register_224 : decode prog_12_method_58_code 224 = .ok (.iadd, 1) := by decide +kernel
theorem d_Model_register_225 : decode prog_12_method_58_code 225 = .ok (.aload_n 0, 1) := by decide +kernel
theorem d_Model_register_226 : decode prog_12_method_58_code 226 = .ok (.getfield 7, 3) := by decide +kernel
theorem d_Model_register_229 : decode prog_12_method_58_code 229 = .ok (.iload 6, 2) := by decide +kernel
theorem d_Model_register_231 : decode prog_12_method_58_code 231 = .ok (.caload, 1) := by decide +kernel
theorem d_Model_register_232 : decode prog_12_method_58_code 232 = .ok (.castore, 1) := by decide +kernel
theorem d_Model_register_233 : decode prog_12_method_58_code 233 = .ok (.iinc 6 1, 3) := by decide +kernel
theorem d_Model_register_236 : decode prog_12_method_58_code 236 = .ok (.goto (-37), 3) := by decide +kernel
theorem d_Model_register_239 : decode prog_12_method_58_code 239 = .ok (.aload_n 0, 1) := by decide +kernel
theorem d_Model_register_240 : decode prog_12_method_58_code 240 = .ok (.getfield 30, 3) := by decide +kernel
theorem d_Model_register_243 : decode prog_12_method_58_code 243 = .ok (.iload_n 1, 1) := by decide +kernel
theorem d_Model_register_244 : decode prog_12_method_58_code 244 = .ok (.dup2, 1) := by decide +kernel
theorem d_Model_register_245 : decode prog_12_method_58_code 245 = .ok (.iaload, 1) := by decide +kernel
theorem d_Model_register_246 : decode prog_12_method_58_code 246 = .ok (.iconst 1, 1) := by decide +kernel
theorem d_Model_register_247 : decode prog_12_method_58_code 247 = .ok (.iadd, 1) := by decide +kernel
theorem d_Model_register_248 : decode prog_12_method_58_code 248 = .ok (.iastore, 1) := by decide +kernel
theorem d_Model_register_249 : decode prog_12_method_58_code 249 = .ok (.aload_n 0, 1) := by decide +kernel
theorem d_Model_register_250 : decode prog_12_method_58_code 250 = .ok (.iconst 0, 1) := by decide +kernel
theorem d_Model_register_251 : decode prog_12_method_58_code 251 = .ok (.putfield 124, 3) := by decide +kernel
theorem d_Model_register_254 : decode prog_12_method_58_code 254 = .ok (.aload_n 0, 1) := by decide +kernel
theorem d_Model_register_255 : decode prog_12_method_58_code 255 = .ok (.iconst (-1), 1) := by decide +kernel
theorem d_Model_register_256 : decode prog_12_method_58_code 256 = .ok (.putfield 23, 3) := by decide +kernel
theorem d_Model_register_259 : decode prog_12_method_58_code 259 = .ok (.iload_n 3, 1) := by decide +kernel
theorem d_Model_register_260 : decode prog_12_method_58_code 260 = .ok (.ireturn, 1) := by decide +kernel
def Model_register_jn249 (call : ax_Cf)  (x0 : Option Nat) (x3 : Int32) (h : ax_Hp) : ax_O :=
  (ax_pf h x0 9 1 (ax_I 0)).bind fun h11 =>
  (ax_pf h11 x0 9 9 (ax_I (-1))).bind fun h12 =>
  ax_ri x3 h12
set_option maxHeartbeats 4000000 in
set_option maxRecDepth 20000 in
theorem Model_register_jq249 {l : Launch} {G : ax_G} {d : Nat} {call : ax_Cf} (hcall : ax_Hc l G d call) {p : Program} {e : Env} {s : State} {mi : MethodId} {args : Array Value} {below : List Frame} {meth : Method} {c : Code} {h0 : ax_Hp} (B : ax_B G p s mi meth c "SchemaDeskModel" prog_12_method_58_code 7 (some (.int))) (E : c.exceptionTable.isEmpty = true) (Nm : meth.name = y_Model_register.name)   (x0 : Option Nat) (x3 : Int32) (h : ax_Hp) : ax_W G p l e s mi args below meth c 7 (d + 1) h0 249 [(0, ax_A x0), (3, ax_I x3)] [] h (Model_register_jn249 call  x0 x3 h) := by
  unfold Model_register_jn249
  refine ax_aload_n B 0 d_Model_register_249 rfl rfl ?_
  refine ax_iconst (v := 0) B d_Model_register_250 (by decide) ?_
  refine ax_putf (v := ax_I 0) B cl_Model (by decide) fk_Model_124 (Or.inl rfl) (fun _ => rfl) (fun _ => rfl) d_Model_register_251 (fun h11 => ?_)
  refine ax_aload_n B 0 d_Model_register_254 rfl rfl ?_
  refine ax_iconst (v := (-1)) B d_Model_register_255 (by decide) ?_
  refine ax_putf (v := ax_I (-1)) B cl_Model (by decide) fk_Model_23 (Or.inl rfl) (fun _ => rfl) (fun _ => rfl) d_Model_register_256 (fun h12 => ?_)
  refine ax_iload_n B 1 d_Model_register_259 rfl rfl ?_
  exact ax_ireturn B d_Model_register_260
def Model_register_bd199 (call : ax_Cf)  (k199 : Option Nat → Int32 → Int32 → Int32 → ax_Hp → ax_O) (x0 : Option Nat) (x1 : Int32) (x3 : Int32) (x6 : Int32) (h : ax_Hp) : ax_O :=
  (ax_gi h x0 9 1).bind fun v18 =>
  if v18 ≤ x6 then
    (ax_gr h x0 9 11).bind fun v19 =>
    (ax_ldi h v19 1 x1).bind fun v20 =>
    (ax_st h v19 1 x1 (ax_I (v20 + 1))).bind fun h21 =>
    Model_register_jn249 call x0 x3 h21
  else
    (ax_gr h x0 9 12).bind fun v22 =>
    (ax_gr h x0 9 2).bind fun v23 =>
    (ax_ldi h v23 3 x6).bind fun v24 =>
    (ax_stc h v22 3 ((160 * ((6 * x1) + x3)) + x6) v24).bind fun h25 =>
    k199 x0 x1 x3 (x6 + 1) h25
def Model_register_lp199 (call : ax_Cf)  : Nat → Option Nat → Int32 → Int32 → Int32 → ax_Hp → ax_O
  | 0 => fun _ _ _ _ _ => none
  | n + 1 => Model_register_bd199 call  (Model_register_lp199 call  n)
set_option maxHeartbeats 4000000 in
set_option maxRecDepth 20000 in
theorem Model_register_lb199 {l : Launch} {G : ax_G} {d : Nat} {call : ax_Cf} (hcall : ax_Hc l G d call) {p : Program} {e : Env} {s : State} {mi : MethodId} {args : Array Value} {below : List Frame} {meth : Method} {c : Code} {h0 : ax_Hp} (B : ax_B G p s mi meth c "SchemaDeskModel" prog_12_method_58_code 7 (some (.int))) (E : c.exceptionTable.isEmpty = true) (Nm : meth.name = y_Model_register.name)   {k199 : Option Nat → Int32 → Int32 → Int32 → ax_Hp → ax_O} (hk199 : ∀ (x0 : Option Nat) (x1 : Int32) (x3 : Int32) (x6 : Int32) (h : ax_Hp), ax_W G p l e s mi args below meth c 7 (d + 1) h0 199 [(0, ax_A x0), (1, ax_I x1), (3, ax_I x3), (6, ax_I x6)] [] h (k199 x0 x1 x3 x6 h)) (x0 : Option Nat) (x1 : Int32) (x3 : Int32) (x6 : Int32) (h : ax_Hp) : ax_W G p l e s mi args below meth c 7 (d + 1) h0 199 [(0, ax_A x0), (1, ax_I x1), (3, ax_I x3), (6, ax_I x6)] [] h (Model_register_bd199 call  k199 x0 x1 x3 x6 h) := by
  unfold Model_register_bd199
  refine ax_iload B 3 d_Model_register_199 rfl ?_
  refine ax_aload_n B 0 d_Model_register_201 rfl rfl ?_
  refine ax_getfi B cl_Model (by decide) fk_Model_124 d_Model_register_202 (fun v18 => ?_)
  refine ax_icmp_ge B 239 d_Model_register_205 (by decide) ?_ ?_
  · refine ax_aload_n B 0 d_Model_register_239 rfl rfl ?_
    refine ax_getfr B cl_Model (by decide) fk_Model_30 d_Model_register_240 (fun v19 => ?_)
    refine ax_iload_n B 1 d_Model_register_243 rfl rfl ?_
    refine ax_dup2_11 B d_Model_register_244 rfl rfl ?_
    refine ax_iald (kd := 1) B (by decide) rfl d_Model_register_245 (fun v20 => ?_)
    refine ax_iconst (v := 1) B d_Model_register_246 (by decide) ?_
    refine ax_iadd B d_Model_register_247 ?_
    refine ax_iast (kd := 1) B (by decide) (by decide) rfl d_Model_register_248 (fun h21 => ?_)
    refine ax_sub (tv2 := [(0, ax_A x0), (3, ax_I x3)]) [0, 2] rfl ?_
    exact Model_register_jq249 hcall B E Nm x0 x3 h21
  · refine ax_aload_n B 0 d_Model_register_208 rfl rfl ?_
    refine ax_getfr B cl_Model (by decide) fk_Model_33 d_Model_register_209 (fun v22 => ?_)
    refine ax_sipush (v := 160) B d_Model_register_212 (by decide) ?_
    refine ax_bipush (v := 6) B d_Model_register_215 (by decide) ?_
    refine ax_iload_n B 1 d_Model_register_217 rfl rfl ?_
    refine ax_imul B d_Model_register_218 ?_
    refine ax_iload_n B 2 d_Model_register_219 rfl rfl ?_
    refine ax_iadd B d_Model_register_220 ?_
    refine ax_imul B d_Model_register_221 ?_
    refine ax_iload B 3 d_Model_register_222 rfl ?_
    refine ax_iadd B d_Model_register_224 ?_
    refine ax_aload_n B 0 d_Model_register_225 rfl rfl ?_
    refine ax_getfr B cl_Model (by decide) fk_Model_7 d_Model_register_226 (fun v23 => ?_)
    refine ax_iload B 3 d_Model_register_229 rfl ?_
    refine ax_cald (kd := 3) B (by decide) rfl d_Model_register_231 (fun v24 => ?_)
    refine ax_cast (kd := 3) B (by decide) (by decide) rfl d_Model_register_232 (fun h25 => ?_)
    refine ax_iinc (v := x6 + 1) (tv2 := [(6, ax_I (x6 + 1)), (0, ax_A x0), (1, ax_I x1), (3, ax_I x3)]) B 3 d_Model_register_233 rfl (congrArg (_ + ·) (by decide)) (by decide) rfl ?_
    refine ax_goto B 199 d_Model_register_236 (by decide) ?_
    refine ax_sub (tv2 := [(0, ax_A x0), (1, ax_I x1), (3, ax_I x3), (6, ax_I (x6 + 1))]) [1, 2, 3, 0] rfl ?_
    exact hk199 x0 x1 x3 (x6 + 1) h25
theorem Model_register_lq199 {l : Launch} {G : ax_G} {d : Nat} {call : ax_Cf} (hcall : ax_Hc l G d call) {p : Program} {e : Env} {s : State} {mi : MethodId} {args : Array Value} {below : List Frame} {meth : Method} {c : Code} {h0 : ax_Hp} (B : ax_B G p s mi meth c "SchemaDeskModel" prog_12_method_58_code 7 (some (.int))) (E : c.exceptionTable.isEmpty = true) (Nm : meth.name = y_Model_register.name)   : ∀ (n : Nat) (x0 : Option Nat) (x1 : Int32) (x3 : Int32) (x6 : Int32) (h : ax_Hp), ax_W G p l e s mi args below meth c 7 (d + 1) h0 199 [(0, ax_A x0), (1, ax_I x1), (3, ax_I x3), (6, ax_I x6)] [] h (Model_register_lp199 call  n x0 x1 x3 x6 h)
  | 0, _, _, _, _, _ => ax_none
  | n + 1, x0, x1, x3, x6, h => Model_register_lb199 hcall B E Nm   (Model_register_lq199 hcall B E Nm   n) x0 x1 x3 x6 h
def Model_register_jn169 (call : ax_Cf)  (x0 : Option Nat) (x1 : Int32) (x3 : Int32) (x4 : Int32) (h : ax_Hp) : ax_O :=
  if x4 = 0 then
    (ax_pf h x0 9 0 (ax_I 2)).bind fun h26 =>
    ax_ri 0 h26
  else
    (ax_gr h x0 9 13).bind fun v15 =>
    (ax_gi h x0 9 1).bind fun v16 =>
    (ax_st h v15 1 ((6 * x1) + x3) (ax_I v16)).bind fun h17 =>
    Model_register_lp199 call ax_fuel x0 x1 x3 0 h17
set_option maxHeartbeats 4000000 in
set_option maxRecDepth 20000 in
theorem Model_register_jq169 {l : Launch} {G : ax_G} {d : Nat} {call : ax_Cf} (hcall : ax_Hc l G d call) {p : Program} {e : Env} {s : State} {mi : MethodId} {args : Array Value} {below : List Frame} {meth : Method} {c : Code} {h0 : ax_Hp} (B : ax_B G p s mi meth c "SchemaDeskModel" prog_12_method_58_code 7 (some (.int))) (E : c.exceptionTable.isEmpty = true) (Nm : meth.name = y_Model_register.name)   (x0 : Option Nat) (x1 : Int32) (x3 : Int32) (x4 : Int32) (h : ax_Hp) : ax_W G p l e s mi args below meth c 7 (d + 1) h0 169 [(0, ax_A x0), (1, ax_I x1), (3, ax_I x3), (4, ax_I x4)] [] h (Model_register_jn169 call  x0 x1 x3 x4 h) := by
  unfold Model_register_jn169
  refine ax_iload B 3 d_Model_register_169 rfl ?_
  refine ax_if_ne B 181 d_Model_register_171 (by decide) ?_ ?_
  · refine ax_aload_n B 0 d_Model_register_181 rfl rfl ?_
    refine ax_getfr B cl_Model (by decide) fk_Model_36 d_Model_register_182 (fun v15 => ?_)
    refine ax_bipush (v := 6) B d_Model_register_185 (by decide) ?_
    refine ax_iload_n B 1 d_Model_register_187 rfl rfl ?_
    refine ax_imul B d_Model_register_188 ?_
    refine ax_iload_n B 2 d_Model_register_189 rfl rfl ?_
    refine ax_iadd B d_Model_register_190 ?_
    refine ax_aload_n B 0 d_Model_register_191 rfl rfl ?_
    refine ax_getfi B cl_Model (by decide) fk_Model_124 d_Model_register_192 (fun v16 => ?_)
    refine ax_iast (kd := 1) B (by decide) (by decide) rfl d_Model_register_195 (fun h17 => ?_)
    refine ax_iconst (v := 0) B d_Model_register_196 (by decide) ?_
    refine ax_istore (tv2 := [(6, ax_I 0), (0, ax_A x0), (1, ax_I x1), (3, ax_I x3), (4, ax_I x4)]) B d_Model_register_197 (by decide) rfl ?_
    refine ax_sub (tv2 := [(0, ax_A x0), (1, ax_I x1), (3, ax_I x3), (6, ax_I 0)]) [1, 2, 3, 0] rfl ?_
    exact Model_register_lq199 hcall B E Nm ax_fuel x0 x1 x3 0 h17
  · refine ax_aload_n B 0 d_Model_register_174 rfl rfl ?_
    refine ax_iconst (v := 2) B d_Model_register_175 (by decide) ?_
    refine ax_putf (v := ax_I 2) B cl_Model (by decide) fk_Model_119 (Or.inl rfl) (fun _ => rfl) (fun _ => rfl) d_Model_register_176 (fun h26 => ?_)
    refine ax_iconst (v := 0) B d_Model_register_179 (by decide) ?_
    exact ax_ireturn B d_Model_register_180
def Model_register_bd133 (call : ax_Cf)  (k133 : Option Nat → Int32 → Int32 → Int32 → Int32 → ax_Hp → ax_O) (x0 : Option Nat) (x1 : Int32) (x3 : Int32) (x4 : Int32) (x6 : Int32) (h : ax_Hp) : ax_O :=
  if x3 ≤ x6 then
    Model_register_jn169 call x0 x1 x3 x4 h
  else
    if x4 = 0 then
      Model_register_jn169 call x0 x1 x3 x4 h
    else
      (ax_gr h x0 9 10).bind fun v27 =>
      (ax_ldi h v27 1 x1).bind fun v28 =>
      ax_on h x0 9 <| ax_ci (call 179 [ax_A x0, ax_I v28, ax_I ((6 * x1) + x6)] h) fun v30 h29 =>
      k133 x0 x1 x3 v30 (x6 + 1) h29
def Model_register_lp133 (call : ax_Cf)  : Nat → Option Nat → Int32 → Int32 → Int32 → Int32 → ax_Hp → ax_O
  | 0 => fun _ _ _ _ _ _ => none
  | n + 1 => Model_register_bd133 call  (Model_register_lp133 call  n)
set_option maxHeartbeats 4000000 in
set_option maxRecDepth 20000 in
theorem Model_register_lb133 {l : Launch} {G : ax_G} {d : Nat} {call : ax_Cf} (hcall : ax_Hc l G d call) {p : Program} {e : Env} {s : State} {mi : MethodId} {args : Array Value} {below : List Frame} {meth : Method} {c : Code} {h0 : ax_Hp} (B : ax_B G p s mi meth c "SchemaDeskModel" prog_12_method_58_code 7 (some (.int))) (E : c.exceptionTable.isEmpty = true) (Nm : meth.name = y_Model_register.name)   {k133 : Option Nat → Int32 → Int32 → Int32 → Int32 → ax_Hp → ax_O} (hk133 : ∀ (x0 : Option Nat) (x1 : Int32) (x3 : Int32) (x4 : Int32) (x6 : Int32) (h : ax_Hp), ax_W G p l e s mi args below meth c 7 (d + 1) h0 133 [(0, ax_A x0), (1, ax_I x1), (3, ax_I x3), (4, ax_I x4), (6, ax_I x6)] [] h (k133 x0 x1 x3 x4 x6 h)) (x0 : Option Nat) (x1 : Int32) (x3 : Int32) (x4 : Int32) (x6 : Int32) (h : ax_Hp) : ax_W G p l e s mi args below meth c 7 (d + 1) h0 133 [(0, ax_A x0), (1, ax_I x1), (3, ax_I x3), (4, ax_I x4), (6, ax_I x6)] [] h (Model_register_bd133 call  k133 x0 x1 x3 x4 x6 h) := by
  unfold Model_register_bd133
  refine ax_iload B 4 d_Model_register_133 rfl ?_
  refine ax_iload_n B 2 d_Model_register_135 rfl rfl ?_
  refine ax_icmp_ge B 169 d_Model_register_136 (by decide) ?_ ?_
  · refine ax_sub (tv2 := [(0, ax_A x0), (1, ax_I x1), (3, ax_I x3), (4, ax_I x4)]) [0, 1, 2, 3] rfl ?_
    exact Model_register_jq169 hcall B E Nm x0 x1 x3 x4 h
  · refine ax_iload B 3 d_Model_register_139 rfl ?_
    refine ax_if_eq B 169 d_Model_register_141 (by decide) ?_ ?_
    · refine ax_sub (tv2 := [(0, ax_A x0), (1, ax_I x1), (3, ax_I x3), (4, ax_I x4)]) [0, 1, 2, 3] rfl ?_
      exact Model_register_jq169 hcall B E Nm x0 x1 x3 x4 h
    · refine ax_aload_n B 0 d_Model_register_144 rfl rfl ?_
      refine ax_aload_n B 0 d_Model_register_145 rfl rfl ?_
      refine ax_getfr B cl_Model (by decide) fk_Model_27 d_Model_register_146 (fun v27 => ?_)
      refine ax_iload_n B 1 d_Model_register_149 rfl rfl ?_
      refine ax_iald (kd := 1) B (by decide) rfl d_Model_register_150 (fun v28 => ?_)
      refine ax_bipush (v := 6) B d_Model_register_151 (by decide) ?_
      refine ax_iload_n B 1 d_Model_register_153 rfl rfl ?_
      refine ax_imul B d_Model_register_154 ?_
      refine ax_iload B 4 d_Model_register_155 rfl ?_
      refine ax_iadd B d_Model_register_157 ?_
      refine ax_callVi (av := [ax_I v28, ax_I ((6 * x1) + x6)]) (rest := []) B E hm_Model_getsOn cl_Model rfl wd_1197 wp_64 lk_Model_341 d_Model_register_158 rfl (Nat.le_of_ble_eq_true rfl) (fun _ _ hh => hcall 179 _ _ _ _ hh) (fun v30 h29 => ?_)
      refine ax_istore (tv2 := [(4, ax_I v30), (0, ax_A x0), (1, ax_I x1), (3, ax_I x3), (6, ax_I x6)]) B d_Model_register_161 (by decide) rfl ?_
      refine ax_iinc (v := x6 + 1) (tv2 := [(6, ax_I (x6 + 1)), (4, ax_I v30), (0, ax_A x0), (1, ax_I x1), (3, ax_I x3)]) B 4 d_Model_register_163 rfl (congrArg (_ + ·) (by decide)) (by decide) rfl ?_
      refine ax_goto B 133 d_Model_register_166 (by decide) ?_
      refine ax_sub (tv2 := [(0, ax_A x0), (1, ax_I x1), (3, ax_I x3), (4, ax_I v30), (6, ax_I (x6 + 1))]) [2, 3, 4, 1, 0] rfl ?_
      exact hk133 x0 x1 x3 v30 (x6 + 1) h29
theorem Model_register_lq133 {l : Launch} {G : ax_G} {d : Nat} {call : ax_Cf} (hcall : ax_Hc l G d call) {p : Program} {e : Env} {s : State} {mi : MethodId} {args : Array Value} {below : List Frame} {meth : Method} {c : Code} {h0 : ax_Hp} (B : ax_B G p s mi meth c "SchemaDeskModel" prog_12_method_58_code 7 (some (.int))) (E : c.exceptionTable.isEmpty = true) (Nm : meth.name = y_Model_register.name)   : ∀ (n : Nat) (x0 : Option Nat) (x1 : Int32) (x3 : Int32) (x4 : Int32) (x6 : Int32) (h : ax_Hp), ax_W G p l e s mi args below meth c 7 (d + 1) h0 133 [(0, ax_A x0), (1, ax_I x1), (3, ax_I x3), (4, ax_I x4), (6, ax_I x6)] [] h (Model_register_lp133 call  n x0 x1 x3 x4 x6 h)
  | 0, _, _, _, _, _, _ => ax_none
  | n + 1, x0, x1, x3, x4, x6, h => Model_register_lb133 hcall B E Nm   (Model_register_lq133 hcall B E Nm   n) x0 x1 x3 x4 x6 h
def Model_register_jn131 (call : ax_Cf)  (x0 : Option Nat) (x1 : Int32) (x3 : Int32) (x4 : Int32) (s0 : Int32) (h : ax_Hp) : ax_O :=
  Model_register_lp133 call ax_fuel x0 x1 x3 x4 s0 h
set_option maxHeartbeats 4000000 in
set_option maxRecDepth 20000 in
theorem Model_register_jq131 {l : Launch} {G : ax_G} {d : Nat} {call : ax_Cf} (hcall : ax_Hc l G d call) {p : Program} {e : Env} {s : State} {mi : MethodId} {args : Array Value} {below : List Frame} {meth : Method} {c : Code} {h0 : ax_Hp} (B : ax_B G p s mi meth c "SchemaDeskModel" prog_12_method_58_code 7 (some (.int))) (E : c.exceptionTable.isEmpty = true) (Nm : meth.name = y_Model_register.name)   (x0 : Option Nat) (x1 : Int32) (x3 : Int32) (x4 : Int32) (s0 : Int32) (h : ax_Hp) : ax_W G p l e s mi args below meth c 7 (d + 1) h0 131 [(0, ax_A x0), (1, ax_I x1), (3, ax_I x3), (4, ax_I x4)] [ax_I s0] h (Model_register_jn131 call  x0 x1 x3 x4 s0 h) := by
  unfold Model_register_jn131
  refine ax_istore (tv2 := [(6, ax_I s0), (0, ax_A x0), (1, ax_I x1), (3, ax_I x3), (4, ax_I x4)]) B d_Model_register_131 (by decide) rfl ?_
  refine ax_sub (tv2 := [(0, ax_A x0), (1, ax_I x1), (3, ax_I x3), (4, ax_I x4), (6, ax_I s0)]) [1, 2, 3, 4, 0] rfl ?_
  exact Model_register_lq133 hcall B E Nm ax_fuel x0 x1 x3 x4 s0 h
def Model_register_jn118 (call : ax_Cf)  (x0 : Option Nat) (x1 : Int32) (x3 : Int32) (x4 : Int32) (s0 : Int32) (h : ax_Hp) : ax_O :=
  if 0 ≤ s0 then
    Model_register_jn131 call x0 x1 x3 x4 s0 h
  else
    Model_register_jn131 call x0 x1 x3 x4 0 h
set_option maxHeartbeats 4000000 in
set_option maxRecDepth 20000 in
theorem Model_register_jq118 {l : Launch} {G : ax_G} {d : Nat} {call : ax_Cf} (hcall : ax_Hc l G d call) {p : Program} {e : Env} {s : State} {mi : MethodId} {args : Array Value} {below : List Frame} {meth : Method} {c : Code} {h0 : ax_Hp} (B : ax_B G p s mi meth c "SchemaDeskModel" prog_12_method_58_code 7 (some (.int))) (E : c.exceptionTable.isEmpty = true) (Nm : meth.name = y_Model_register.name)   (x0 : Option Nat) (x1 : Int32) (x3 : Int32) (x4 : Int32) (s0 : Int32) (h : ax_Hp) : ax_W G p l e s mi args below meth c 7 (d + 1) h0 118 [(0, ax_A x0), (1, ax_I x1), (3, ax_I x3), (4, ax_I x4)] [ax_I s0] h (Model_register_jn118 call  x0 x1 x3 x4 s0 h) := by
  unfold Model_register_jn118
  refine ax_istore (tv2 := [(5, ax_I s0), (0, ax_A x0), (1, ax_I x1), (3, ax_I x3), (4, ax_I x4)]) B d_Model_register_118 (by decide) rfl ?_
  refine ax_iload B 0 d_Model_register_120 rfl ?_
  refine ax_if_ge B 129 d_Model_register_122 (by decide) ?_ ?_
  · refine ax_iload B 0 d_Model_register_129 rfl ?_
    refine ax_sub (tv2 := [(0, ax_A x0), (1, ax_I x1), (3, ax_I x3), (4, ax_I x4)]) [1, 2, 3, 4] rfl ?_
    exact Model_register_jq131 hcall B E Nm x0 x1 x3 x4 s0 h
  · refine ax_iconst (v := 0) B d_Model_register_125 (by decide) ?_
    refine ax_goto B 131 d_Model_register_126 (by decide) ?_
    refine ax_sub (tv2 := [(0, ax_A x0), (1, ax_I x1), (3, ax_I x3), (4, ax_I x4)]) [1, 2, 3, 4] rfl ?_
    exact Model_register_jq131 hcall B E Nm x0 x1 x3 x4 0 h
def Model_register_jn99 (call : ax_Cf)  (x0 : Option Nat) (x1 : Int32) (x3 : Int32) (s0 : Int32) (h : ax_Hp) : ax_O :=
  (ax_gr h x0 9 10).bind fun v13 =>
  (ax_ldi h v13 1 x1).bind fun v14 =>
  if v14 ≤ 3 then
    Model_register_jn118 call x0 x1 x3 s0 (x3 - 1) h
  else
    Model_register_jn118 call x0 x1 x3 s0 0 h
set_option maxHeartbeats 4000000 in
set_option maxRecDepth 20000 in
theorem Model_register_jq99 {l : Launch} {G : ax_G} {d : Nat} {call : ax_Cf} (hcall : ax_Hc l G d call) {p : Program} {e : Env} {s : State} {mi : MethodId} {args : Array Value} {below : List Frame} {meth : Method} {c : Code} {h0 : ax_Hp} (B : ax_B G p s mi meth c "SchemaDeskModel" prog_12_method_58_code 7 (some (.int))) (E : c.exceptionTable.isEmpty = true) (Nm : meth.name = y_Model_register.name)   (x0 : Option Nat) (x1 : Int32) (x3 : Int32) (s0 : Int32) (h : ax_Hp) : ax_W G p l e s mi args below meth c 7 (d + 1) h0 99 [(0, ax_A x0), (1, ax_I x1), (3, ax_I x3)] [ax_I s0] h (Model_register_jn99 call  x0 x1 x3 s0 h) := by
  unfold Model_register_jn99
  refine ax_istore (tv2 := [(4, ax_I s0), (0, ax_A x0), (1, ax_I x1), (3, ax_I x3)]) B d_Model_register_99 (by decide) rfl ?_
  refine ax_aload_n B 1 d_Model_register_101 rfl rfl ?_
  refine ax_getfr B cl_Model (by decide) fk_Model_27 d_Model_register_102 (fun v13 => ?_)
  refine ax_iload_n B 2 d_Model_register_105 rfl rfl ?_
  refine ax_iald (kd := 1) B (by decide) rfl d_Model_register_106 (fun v14 => ?_)
  refine ax_iconst (v := 3) B d_Model_register_107 (by decide) ?_
  refine ax_icmp_le B 115 d_Model_register_108 (by decide) ?_ ?_
  · refine ax_iload_n B 3 d_Model_register_115 rfl rfl ?_
    refine ax_iconst (v := 1) B d_Model_register_116 (by decide) ?_
    refine ax_isub B d_Model_register_117 ?_
    refine ax_sub (tv2 := [(0, ax_A x0), (1, ax_I x1), (3, ax_I x3), (4, ax_I s0)]) [1, 2, 3, 0] rfl ?_
    exact Model_register_jq118 hcall B E Nm x0 x1 x3 s0 (x3 - 1) h
  · refine ax_iconst (v := 0) B d_Model_register_111 (by decide) ?_
    refine ax_goto B 118 d_Model_register_112 (by decide) ?_
    refine ax_sub (tv2 := [(0, ax_A x0), (1, ax_I x1), (3, ax_I x3), (4, ax_I s0)]) [1, 2, 3, 0] rfl ?_
    exact Model_register_jq118 hcall B E Nm x0 x1 x3 s0 0 h
def Model_register_jn78 (call : ax_Cf)  (x0 : Option Nat) (x1 : Int32) (x3 : Int32) (h : ax_Hp) : ax_O :=
  (ax_gr h x0 9 11).bind fun v9 =>
  (ax_ldi h v9 1 x1).bind fun v10 =>
  if x3 = v10 then
    if 6 ≤ x3 then
      Model_register_jn99 call x0 x1 x3 0 h
    else
      Model_register_jn99 call x0 x1 x3 1 h
  else
    Model_register_jn249 call x0 x3 h
set_option maxHeartbeats 4000000 in
set_option maxRecDepth 20000 in
theorem Model_register_jq78 {l : Launch} {G : ax_G} {d : Nat} {call : ax_Cf} (hcall : ax_Hc l G d call) {p : Program} {e : Env} {s : State} {mi : MethodId} {args : Array Value} {below : List Frame} {meth : Method} {c : Code} {h0 : ax_Hp} (B : ax_B G p s mi meth c "SchemaDeskModel" prog_12_method_58_code 7 (some (.int))) (E : c.exceptionTable.isEmpty = true) (Nm : meth.name = y_Model_register.name)   (x0 : Option Nat) (x1 : Int32) (x3 : Int32) (h : ax_Hp) : ax_W G p l e s mi args below meth c 7 (d + 1) h0 78 [(0, ax_A x0), (1, ax_I x1), (3, ax_I x3)] [] h (Model_register_jn78 call  x0 x1 x3 h) := by
  unfold Model_register_jn78
  refine ax_iload_n B 2 d_Model_register_78 rfl rfl ?_
  refine ax_aload_n B 0 d_Model_register_79 rfl rfl ?_
  refine ax_getfr B cl_Model (by decide) fk_Model_30 d_Model_register_80 (fun v9 => ?_)
  refine ax_iload_n B 1 d_Model_register_83 rfl rfl ?_
  refine ax_iald (kd := 1) B (by decide) rfl d_Model_register_84 (fun v10 => ?_)
  refine ax_icmp_ne B 249 d_Model_register_85 (by decide) ?_ ?_
  · refine ax_sub (tv2 := [(0, ax_A x0), (3, ax_I x3)]) [0, 2] rfl ?_
    exact Model_register_jq249 hcall B E Nm x0 x3 h
  · refine ax_iload_n B 2 d_Model_register_88 rfl rfl ?_
    refine ax_bipush (v := 6) B d_Model_register_89 (by decide) ?_
    refine ax_icmp_ge B 98 d_Model_register_91 (by decide) ?_ ?_
    · refine ax_iconst (v := 0) B d_Model_register_98 (by decide) ?_
      refine ax_sub (tv2 := [(0, ax_A x0), (1, ax_I x1), (3, ax_I x3)]) [0, 1, 2] rfl ?_
      exact Model_register_jq99 hcall B E Nm x0 x1 x3 0 h
    · refine ax_iconst (v := 1) B d_Model_register_94 (by decide) ?_
      refine ax_goto B 99 d_Model_register_95 (by decide) ?_
      refine ax_sub (tv2 := [(0, ax_A x0), (1, ax_I x1), (3, ax_I x3)]) [0, 1, 2] rfl ?_
      exact Model_register_jq99 hcall B E Nm x0 x1 x3 1 h
def Model_register_bd49 (call : ax_Cf)  (k49 : Option Nat → Int32 → Int32 → ax_Hp → ax_O) (x0 : Option Nat) (x1 : Int32) (x3 : Int32) (h : ax_Hp) : ax_O :=
  (ax_gr h x0 9 11).bind fun v7 =>
  (ax_ldi h v7 1 x1).bind fun v8 =>
  if v8 ≤ x3 then
    Model_register_jn78 call x0 x1 x3 h
  else
    ax_on h x0 9 <| ax_ci (call 178 [ax_A x0, ax_I ((6 * x1) + x3)] h) fun v32 h31 =>
    if v32 = 0 then
      k49 x0 x1 (x3 + 1) h31
    else
      Model_register_jn78 call x0 x1 x3 h31
def Model_register_lp49 (call : ax_Cf)  : Nat → Option Nat → Int32 → Int32 → ax_Hp → ax_O
  | 0 => fun _ _ _ _ => none
  | n + 1 => Model_register_bd49 call  (Model_register_lp49 call  n)
set_option maxHeartbeats 4000000 in
set_option maxRecDepth 20000 in
theorem Model_register_lb49 {l : Launch} {G : ax_G} {d : Nat} {call : ax_Cf} (hcall : ax_Hc l G d call) {p : Program} {e : Env} {s : State} {mi : MethodId} {args : Array Value} {below : List Frame} {meth : Method} {c : Code} {h0 : ax_Hp} (B : ax_B G p s mi meth c "SchemaDeskModel" prog_12_method_58_code 7 (some (.int))) (E : c.exceptionTable.isEmpty = true) (Nm : meth.name = y_Model_register.name)   {k49 : Option Nat → Int32 → Int32 → ax_Hp → ax_O} (hk49 : ∀ (x0 : Option Nat) (x1 : Int32) (x3 : Int32) (h : ax_Hp), ax_W G p l e s mi args below meth c 7 (d + 1) h0 49 [(0, ax_A x0), (1, ax_I x1), (3, ax_I x3)] [] h (k49 x0 x1 x3 h)) (x0 : Option Nat) (x1 : Int32) (x3 : Int32) (h : ax_Hp) : ax_W G p l e s mi args below meth c 7 (d + 1) h0 49 [(0, ax_A x0), (1, ax_I x1), (3, ax_I x3)] [] h (Model_register_bd49 call  k49 x0 x1 x3 h) := by
  unfold Model_register_bd49
  refine ax_iload_n B 2 d_Model_register_49 rfl rfl ?_
  refine ax_aload_n B 0 d_Model_register_50 rfl rfl ?_
  refine ax_getfr B cl_Model (by decide) fk_Model_30 d_Model_register_51 (fun v7 => ?_)
  refine ax_iload_n B 1 d_Model_register_54 rfl rfl ?_
  refine ax_iald (kd := 1) B (by decide) rfl d_Model_register_55 (fun v8 => ?_)
  refine ax_icmp_ge B 78 d_Model_register_56 (by decide) ?_ ?_
  · refine ax_sub (tv2 := [(0, ax_A x0), (1, ax_I x1), (3, ax_I x3)]) [0, 1, 2] rfl ?_
    exact Model_register_jq78 hcall B E Nm x0 x1 x3 h
  · refine ax_aload_n B 0 d_Model_register_59 rfl rfl ?_
    refine ax_bipush (v := 6) B d_Model_register_60 (by decide) ?_
    refine ax_iload_n B 1 d_Model_register_62 rfl rfl ?_
    refine ax_imul B d_Model_register_63 ?_
    refine ax_iload_n B 2 d_Model_register_64 rfl rfl ?_
    refine ax_iadd B d_Model_register_65 ?_
    refine ax_callVi (av := [ax_I ((6 * x1) + x3)]) (rest := []) B E hm_Model_sameText cl_Model rfl wd_1193 wp_63 lk_Model_338 d_Model_register_66 rfl (Nat.le_of_ble_eq_true rfl) (fun _ _ hh => hcall 178 _ _ _ _ hh) (fun v32 h31 => ?_)
    refine ax_if_ne B 78 d_Model_register_69 (by decide) ?_ ?_
    · refine ax_sub (tv2 := [(0, ax_A x0), (1, ax_I x1), (3, ax_I x3)]) [0, 1, 2] rfl ?_
      exact Model_register_jq78 hcall B E Nm x0 x1 x3 h31
    · refine ax_iinc (v := x3 + 1) (tv2 := [(3, ax_I (x3 + 1)), (0, ax_A x0), (1, ax_I x1)]) B 2 d_Model_register_72 rfl (congrArg (_ + ·) (by decide)) (by decide) rfl ?_
      refine ax_goto B 49 d_Model_register_75 (by decide) ?_
      refine ax_sub (tv2 := [(0, ax_A x0), (1, ax_I x1), (3, ax_I (x3 + 1))]) [1, 2, 0] rfl ?_
      exact hk49 x0 x1 (x3 + 1) h31
theorem Model_register_lq49 {l : Launch} {G : ax_G} {d : Nat} {call : ax_Cf} (hcall : ax_Hc l G d call) {p : Program} {e : Env} {s : State} {mi : MethodId} {args : Array Value} {below : List Frame} {meth : Method} {c : Code} {h0 : ax_Hp} (B : ax_B G p s mi meth c "SchemaDeskModel" prog_12_method_58_code 7 (some (.int))) (E : c.exceptionTable.isEmpty = true) (Nm : meth.name = y_Model_register.name)   : ∀ (n : Nat) (x0 : Option Nat) (x1 : Int32) (x3 : Int32) (h : ax_Hp), ax_W G p l e s mi args below meth c 7 (d + 1) h0 49 [(0, ax_A x0), (1, ax_I x1), (3, ax_I x3)] [] h (Model_register_lp49 call  n x0 x1 x3 h)
  | 0, _, _, _, _ => ax_none
  | n + 1, x0, x1, x3, h => Model_register_lb49 hcall B E Nm   (Model_register_lq49 hcall B E Nm   n) x0 x1 x3 h
def Model_register_jn13 (call : ax_Cf)  (x0 : Option Nat) (x1 : Int32) (s0 : Int32) (s1 : Option Nat) (h : ax_Hp) : ax_O :=
  (ax_pf h s1 9 0 (ax_I s0)).bind fun h3 =>
  (ax_gi h3 x0 9 0).bind fun v4 =>
  if v4 ≤ 0 then
    ax_on h3 x0 9 <| ax_ci (call 152 [ax_A x0, ax_I 0] h3) fun v6 h5 =>
    if v6 < 0 then
      Model_register_lp49 call ax_fuel x0 x1 0 h5
    else
      (ax_pf h5 x0 9 9 (ax_I v6)).bind fun h33 =>
      (ax_pf h33 x0 9 0 (ax_I 1)).bind fun h34 =>
      ax_ri 0 h34
  else
    ax_ri 0 h3
set_option maxHeartbeats 4000000 in
set_option maxRecDepth 20000 in
theorem Model_register_jq13 {l : Launch} {G : ax_G} {d : Nat} {call : ax_Cf} (hcall : ax_Hc l G d call) {p : Program} {e : Env} {s : State} {mi : MethodId} {args : Array Value} {below : List Frame} {meth : Method} {c : Code} {h0 : ax_Hp} (B : ax_B G p s mi meth c "SchemaDeskModel" prog_12_method_58_code 7 (some (.int))) (E : c.exceptionTable.isEmpty = true) (Nm : meth.name = y_Model_register.name)   (x0 : Option Nat) (x1 : Int32) (s0 : Int32) (s1 : Option Nat) (h : ax_Hp) : ax_W G p l e s mi args below meth c 7 (d + 1) h0 13 [(0, ax_A x0), (1, ax_I x1)] [ax_I s0, ax_A s1] h (Model_register_jn13 call  x0 x1 s0 s1 h) := by
  unfold Model_register_jn13
  refine ax_putf (v := ax_I s0) B cl_Model (by decide) fk_Model_119 (Or.inl rfl) (fun _ => rfl) (fun _ => rfl) d_Model_register_13 (fun h3 => ?_)
  refine ax_aload_n B 0 d_Model_register_16 rfl rfl ?_
  refine ax_getfi B cl_Model (by decide) fk_Model_119 d_Model_register_17 (fun v4 => ?_)
  refine ax_if_le B 25 d_Model_register_20 (by decide) ?_ ?_
  · refine ax_aload_n B 0 d_Model_register_25 rfl rfl ?_
    refine ax_iconst (v := 0) B d_Model_register_26 (by decide) ?_
    refine ax_callVi (av := [ax_I 0]) (rest := []) B E hm_Model_loadTyped cl_Model rfl wd_1084 wp_38 lk_Model_328 d_Model_register_27 rfl (Nat.le_of_ble_eq_true rfl) (fun _ _ hh => hcall 152 _ _ _ _ hh) (fun v6 h5 => ?_)
    refine ax_istore_n (tv2 := [(2, ax_I v6), (0, ax_A x0), (1, ax_I x1)]) B d_Model_register_30 rfl (by decide) rfl ?_
    refine ax_iload_n B 0 d_Model_register_31 rfl rfl ?_
    refine ax_if_lt B 47 d_Model_register_32 (by decide) ?_ ?_
    · refine ax_iconst (v := 0) B d_Model_register_47 (by decide) ?_
      refine ax_istore_n (tv2 := [(3, ax_I 0), (2, ax_I v6), (0, ax_A x0), (1, ax_I x1)]) B d_Model_register_48 rfl (by decide) rfl ?_
      refine ax_sub (tv2 := [(0, ax_A x0), (1, ax_I x1), (3, ax_I 0)]) [2, 3, 0] rfl ?_
      exact Model_register_lq49 hcall B E Nm ax_fuel x0 x1 0 h5
    · refine ax_aload_n B 1 d_Model_register_35 rfl rfl ?_
      refine ax_iload_n B 0 d_Model_register_36 rfl rfl ?_
      refine ax_putf (v := ax_I v6) B cl_Model (by decide) fk_Model_23 (Or.inl rfl) (fun _ => rfl) (fun _ => rfl) d_Model_register_37 (fun h33 => ?_)
      refine ax_aload_n B 1 d_Model_register_40 rfl rfl ?_
      refine ax_iconst (v := 1) B d_Model_register_41 (by decide) ?_
      refine ax_putf (v := ax_I 1) B cl_Model (by decide) fk_Model_119 (Or.inl rfl) (fun _ => rfl) (fun _ => rfl) d_Model_register_42 (fun h34 => ?_)
      refine ax_iconst (v := 0) B d_Model_register_45 (by decide) ?_
      exact ax_ireturn B d_Model_register_46
  · refine ax_iconst (v := 0) B d_Model_register_23 (by decide) ?_
    exact ax_ireturn B d_Model_register_24
def Model_register_b (call : ax_Cf) (x0 : Option Nat) (x1 : Int32) (h : ax_Hp) : ax_O :=
  ax_ci (call 150 [ax_I x1] h) fun v2 h1 =>
  if v2 = 0 then
    Model_register_jn13 call x0 x1 1 x0 h1
  else
    Model_register_jn13 call x0 x1 0 x0 h1
set_option maxHeartbeats 4000000 in
set_option maxRecDepth 20000 in
theorem Model_register_t {l : Launch} {G : ax_G} {d : Nat} {call : ax_Cf} (hcall : ax_Hc l G d call) (x0 : Option Nat) (x1 : Int32) (h : ax_Hp) {r : ax_Rs} {h' : ax_Hp} (ho : Model_register_b call x0 x1 h = some (r, h')) : ax_C l G (d + 1) y_Model_register (.code y_Model_register prog_12_method_58_code 7 (some (.int))) [ax_A x0, ax_I x1] h r h' := by
  refine ax_enter (by decide) (Nat.le_of_ble_eq_true rfl) ho (fun p e s mi args below meth c B E Nm => ?_)
  have B : ax_B G p s mi meth c "SchemaDeskModel" prog_12_method_58_code 7 (some (.int)) := B
  show ax_W G p l e s mi args below meth c 7 (d + 1) h 0 [(0, ax_A x0), (1, ax_I x1)] [] h (Model_register_b call x0 x1 h)
  unfold Model_register_b
  refine ax_aload_n B 0 d_Model_register_0 rfl rfl ?_
  refine ax_iload_n B 1 d_Model_register_1 rfl rfl ?_
  refine ax_callSi (av := [ax_I x1]) (rest := [ax_A x0]) B E hm_Model_isSubject wd_1076 lk_Model_321 d_Model_register_2 rfl (Nat.le_of_ble_eq_true rfl) (fun _ _ hh => hcall 150 _ _ _ _ hh) (fun v2 h1 => ?_)
  refine ax_if_eq B 12 d_Model_register_5 (by decide) ?_ ?_
  · refine ax_iconst (v := 1) B d_Model_register_12 (by decide) ?_
    refine ax_sub (tv2 := [(0, ax_A x0), (1, ax_I x1)]) [0, 1] rfl ?_
    exact Model_register_jq13 hcall B E Nm x0 x1 1 x0 h1
  · refine ax_iconst (v := 0) B d_Model_register_8 (by decide) ?_
    refine ax_goto B 13 d_Model_register_9 (by decide) ?_
    refine ax_sub (tv2 := [(0, ax_A x0), (1, ax_I x1)]) [0, 1] rfl ?_
    exact Model_register_jq13 hcall B E Nm x0 x1 0 x0 h1

theorem d_Model_loadTyped_0 : decode prog_12_method_55_code 0 = .ok (.aload_n 0, 1) := by decide +kernel
theorem d_Model_loadTyped_1 : decode prog_12_method_55_code 1 = .ok (.getfield 42, 3) := by decide +kernel
theorem d_Model_loadTyped_4 : decode prog_12_method_55_code 4 = .ok (.iload_n 1, 1) := by decide +kernel
theorem d_Model_loadTyped_5 : decode prog_12_method_55_code 5 = .ok (.aload_n 0, 1) := by decide +kernel
theorem d_Model_loadTyped_6 : decode prog_12_method_55_code 6 = .ok (.getfield 124, 3) := by decide +kernel
theorem d_Model_loadTyped_9 : decode prog_12_method_55_code 9 = .ok (.iastore, 1) := by decide +kernel
theorem d_Model_loadTyped_10 : decode prog_12_method_55_code 10 = .ok (.iconst 0, 1) := by decide +kernel
theorem d_Model_loadTyped_11 : decode prog_12_method_55_code 11 = .ok (.istore_n 2, 1) := by decide +kernel
theorem d_Model_loadTyped_12 : decode prog_12_method_55_code 12 = .ok (.iload_n 2, 1) := by decide +kernel
theorem d_Model_loadTyped_13 : decode prog_12_method_55_code 13 = .ok (.aload_n 0, 1) := by decide +kernel
theorem d_Model_loadTyped_14 : decode prog_12_method_55_code 14 = .ok (.getfield 124, 3) := by decide +kernel
theorem d_Model_loadTyped_17 : decode prog_12_method_55_code 17 = .ok (.if_icmp .ge 27, 3) := by decide +kernel
theorem d_Model_loadTyped_20 : decode prog_12_method_55_code 20 = .ok (.aload_n 0, 1) := by decide +kernel
theorem d_Model_loadTyped_21 : decode prog_12_method_55_code 21 = .ok (.getfield 39, 3) := by decide +kernel
theorem d_Model_loadTyped_24 : decode prog_12_method_55_code 24 = .ok (.sipush 160, 3) := by decide +kernel
theorem d_Model_loadTyped_27 : decode prog_12_method_55_code 27 = .ok (.iload_n 1, 1) := by decide +kernel
theorem d_Model_loadTyped_28 : decode prog_12_method_55_code 28 = .ok (.imul, 1) := by decide +kernel
theorem d_Model_loadTyped_29 : decode prog_12_method_55_code 29 = .ok (.iload_n 2, 1) := by decide +kernel
theorem d_Model_loadTyped_30 : decode prog_12_method_55_code 30 = .ok (.iadd, 1) := by decide +kernel
theorem d_Model_loadTyped_31 : decode prog_12_method_55_code 31 = .ok (.aload_n 0, 1) := by decide +kernel
theorem d_Model_loadTyped_32 : decode prog_12_method_55_code 32 = .ok (.getfield 7, 3) := by decide +kernel
theorem d_Model_loadTyped_35 : decode prog_12_method_55_code 35 = .ok (.iload_n 2, 1) := by decide +kernel
theorem d_Model_loadTyped_36 : decode prog_12_method_55_code 36 = .ok (.caload, 1) := by decide +kernel
theorem d_Model_loadTyped_37 : decode prog_12_method_55_code 37 = .ok (.castore, 1) := by decide +kernel
theorem d_Model_loadTyped_38 : decode prog_12_method_55_code 38 = .ok (.iinc 2 1, 3) := by decide +kernel
theorem d_Model_loadTyped_41 : decode prog_12_method_55_code 41 = .ok (.goto (-29), 3) := by decide +kernel
theorem d_Model_loadTyped_44 : decode prog_12_method_55_code 44 = .ok (.aload_n 0, 1) := by decide +kernel
theorem d_Model_loadTyped_45 : decode prog_12_method_55_code 45 = .ok (.iload_n 1, 1) := by decide +kernel
theorem d_Model_loadTyped_46 : decode prog_12_method_55_code 46 = .ok (.invokevirtual 183, 3) := by decide +kernel
theorem d_Model_loadTyped_49 : decode prog_12_method_55_code 49 = .ok (.ireturn, 1) := by decide +kernel
def Model_loadTyped_bd12 (call : ax_Cf)  (k12 : Option Nat → Int32 → Int32 → ax_Hp → ax_O) (x0 : Option Nat) (x1 : Int32) (x2 : Int32) (h : ax_Hp) : ax_O :=
  (ax_gi h x0 9 1).bind fun v4 =>
  if v4 ≤ x2 then
    ax_on h x0 9 <| ax_ci (call 153 [ax_A x0, ax_I x1] h) fun v6 h5 =>
    ax_ri v6 h5
  else
    (ax_gr h x0 9 14).bind fun v7 =>
    (ax_gr h x0 9 2).bind fun v8 =>
    (ax_ldi h v8 3 x2).bind fun v9 =>
    (ax_stc h v7 3 ((160 * x1) + x2) v9).bind fun h10 =>
    k12 x0 x1 (x2 + 1) h10
def Model_loadTyped_lp12 (call : ax_Cf)  : Nat → Option Nat → Int32 → Int32 → ax_Hp → ax_O
  | 0 => fun _ _ _ _ => none
  | n + 1 => Model_loadTyped_bd12 call  (Model_loadTyped_lp12 call  n)
set_option maxHeartbeats 4000000 in
set_option maxRecDepth 20000 in
theorem Model_loadTyped_lb12 {l : Launch} {G : ax_G} {d : Nat} {call : ax_Cf} (hcall : ax_Hc l G d call) {p : Program} {e : Env} {s : State} {mi : MethodId} {args : Array Value} {below : List Frame} {meth : Method} {c : Code} {h0 : ax_Hp} (B : ax_B G p s mi meth c "SchemaDeskModel" prog_12_method_55_code 3 (some (.int))) (E : c.exceptionTable.isEmpty = true) (Nm : meth.name = y_Model_loadTyped.name)   {k12 : Option Nat → Int32 → Int32 → ax_Hp → ax_O} (hk12 : ∀ (x0 : Option Nat) (x1 : Int32) (x2 : Int32) (h : ax_Hp), ax_W G p l e s mi args below meth c 3 (d + 1) h0 12 [(0, ax_A x0), (1, ax_I x1), (2, ax_I x2)] [] h (k12 x0 x1 x2 h)) (x0 : Option Nat) (x1 : Int32) (x2 : Int32) (h : ax_Hp) : ax_W G p l e s mi args below meth c 3 (d + 1) h0 12 [(0, ax_A x0), (1, ax_I x1), (2, ax_I x2)] [] h (Model_loadTyped_bd12 call  k12 x0 x1 x2 h) := by
  unfold Model_loadTyped_bd12
  refine ax_iload_n B 2 d_Model_loadTyped_12 rfl rfl ?_
  refine ax_aload_n B 0 d_Model_loadTyped_13 rfl rfl ?_
  refine ax_getfi B cl_Model (by decide) fk_Model_124 d_Model_loadTyped_14 (fun v4 => ?_)
  refine ax_icmp_ge B 44 d_Model_loadTyped_17 (by decide) ?_ ?_
  · refine ax_aload_n B 0 d_Model_loadTyped_44 rfl rfl ?_
    refine ax_iload_n B 1 d_Model_loadTyped_45 rfl rfl ?_
    refine ax_callVi (av := [ax_I x1]) (rest := []) B E hm_Model_readSchema cl_Model rfl wd_1088 wp_39 lk_Model_183 d_Model_loadTyped_46 rfl (Nat.le_of_ble_eq_true rfl) (fun _ _ hh => hcall 153 _ _ _ _ hh) (fun v6 h5 => ?_)
    exact ax_ireturn B d_Model_loadTyped_49
  · refine ax_aload_n B 0 d_Model_loadTyped_20 rfl rfl ?_
    refine ax_getfr B cl_Model (by decide) fk_Model_39 d_Model_loadTyped_21 (fun v7 => ?_)
    refine ax_sipush (v := 160) B d_Model_loadTyped_24 (by decide) ?_
    refine ax_iload_n B 1 d_Model_loadTyped_27 rfl rfl ?_
    refine ax_imul B d_Model_loadTyped_28 ?_
    refine ax_iload_n B 2 d_Model_loadTyped_29 rfl rfl ?_
    refine ax_iadd B d_Model_loadTyped_30 ?_
    refine ax_aload_n B 0 d_Model_loadTyped_31 rfl rfl ?_
    refine ax_getfr B cl_Model (by decide) fk_Model_7 d_Model_loadTyped_32 (fun v8 => ?_)
    refine ax_iload_n B 2 d_Model_loadTyped_35 rfl rfl ?_
    refine ax_cald (kd := 3) B (by decide) rfl d_Model_loadTyped_36 (fun v9 => ?_)
    refine ax_cast (kd := 3) B (by decide) (by decide) rfl d_Model_loadTyped_37 (fun h10 => ?_)
    refine ax_iinc (v := x2 + 1) (tv2 := [(2, ax_I (x2 + 1)), (0, ax_A x0), (1, ax_I x1)]) B 2 d_Model_loadTyped_38 rfl (congrArg (_ + ·) (by decide)) (by decide) rfl ?_
    refine ax_goto B 12 d_Model_loadTyped_41 (by decide) ?_
    refine ax_sub (tv2 := [(0, ax_A x0), (1, ax_I x1), (2, ax_I (x2 + 1))]) [1, 2, 0] rfl ?_
    exact hk12 x0 x1 (x2 + 1) h10
theorem Model_loadTyped_lq12 {l : Launch} {G : ax_G} {d : Nat} {call : ax_Cf} (hcall : ax_Hc l G d call) {p : Program} {e : Env} {s : State} {mi : MethodId} {args : Array Value} {below : List Frame} {meth : Method} {c : Code} {h0 : ax_Hp} (B : ax_B G p s mi meth c "SchemaDeskModel" prog_12_method_55_code 3 (some (.int))) (E : c.exceptionTable.isEmpty = true) (Nm : meth.name = y_Model_loadTyped.name)   : ∀ (n : Nat) (x0 : Option Nat) (x1 : Int32) (x2 : Int32) (h : ax_Hp), ax_W G p l e s mi args below meth c 3 (d + 1) h0 12 [(0, ax_A x0), (1, ax_I x1), (2, ax_I x2)] [] h (Model_loadTyped_lp12 call  n x0 x1 x2 h)
  | 0, _, _, _, _ => ax_none
  | n + 1, x0, x1, x2, h => Model_loadTyped_lb12 hcall B E Nm   (Model_loadTyped_lq12 hcall B E Nm   n) x0 x1 x2 h
def Model_loadTyped_b (call : ax_Cf) (x0 : Option Nat) (x1 : Int32) (h : ax_Hp) : ax_O :=
  (ax_gr h x0 9 15).bind fun v1 =>
  (ax_gi h x0 9 1).bind fun v2 =>
  (ax_st h v1 1 x1 (ax_I v2)).bind fun h3 =>
  Model_loadTyped_lp12 call ax_fuel x0 x1 0 h3
set_option maxHeartbeats 4000000 in
set_option maxRecDepth 20000 in
theorem Model_loadTyped_t {l : Launch} {G : ax_G} {d : Nat} {call : ax_Cf} (hcall : ax_Hc l G d call) (x0 : Option Nat) (x1 : Int32) (h : ax_Hp) {r : ax_Rs} {h' : ax_Hp} (ho : Model_loadTyped_b call x0 x1 h = some (r, h')) : ax_C l G (d + 1) y_Model_loadTyped (.code y_Model_loadTyped prog_12_method_55_code 3 (some (.int))) [ax_A x0, ax_I x1] h r h' := by
  refine ax_enter (by decide) (Nat.le_of_ble_eq_true rfl) ho (fun p e s mi args below meth c B E Nm => ?_)
  have B : ax_B G p s mi meth c "SchemaDeskModel" prog_12_method_55_code 3 (some (.int)) := B
  show ax_W G p l e s mi args below meth c 3 (d + 1) h 0 [(0, ax_A x0), (1, ax_I x1)] [] h (Model_loadTyped_b call x0 x1 h)
  unfold Model_loadTyped_b
  refine ax_aload_n B 0 d_Model_loadTyped_0 rfl rfl ?_
  refine ax_getfr B cl_Model (by decide) fk_Model_42 d_Model_loadTyped_1 (fun v1 => ?_)
  refine ax_iload_n B 1 d_Model_loadTyped_4 rfl rfl ?_
  refine ax_aload_n B 0 d_Model_loadTyped_5 rfl rfl ?_
  refine ax_getfi B cl_Model (by decide) fk_Model_124 d_Model_loadTyped_6 (fun v2 => ?_)
  refine ax_iast (kd := 1) B (by decide) (by decide) rfl d_Model_loadTyped_9 (fun h3 => ?_)
  refine ax_iconst (v := 0) B d_Model_loadTyped_10 (by decide) ?_
  refine ax_istore_n (tv2 := [(2, ax_I 0), (0, ax_A x0), (1, ax_I x1)]) B d_Model_loadTyped_11 rfl (by decide) rfl ?_
  refine ax_sub (tv2 := [(0, ax_A x0), (1, ax_I x1), (2, ax_I 0)]) [1, 2, 0] rfl ?_
  exact Model_loadTyped_lq12 hcall B E Nm ax_fuel x0 x1 0 h3

theorem d_Model_readSchema_0 : decode prog_12_method_18_code 0 = .ok (.aload_n 0, 1) := by decide +kernel
theorem d_Model_readSchema_1 : decode prog_12_method_18_code 1 = .ok (.iconst 0, 1) := by decide +kernel
theorem d_Model_readSchema_2 : decode prog_12_method_18_code 2 = .ok (.putfield 133, 3) := by decide +kernel
theorem d_Model_readSchema_5 : decode prog_12_method_18_code 5 = .ok (.aload_n 0, 1) := by decide +kernel
theorem d_Model_readSchema_6 : decode prog_12_method_18_code 6 = .ok (.getfield 45, 3) := by decide +kernel
theorem d_Model_readSchema_9 : decode prog_12_method_18_code 9 = .ok (.iload_n 1, 1) := by decide +kernel
theorem d_Model_readSchema_10 : decode prog_12_method_18_code 10 = .ok (.iconst 0, 1) := by decide +kernel
theorem d_Model_readSchema_11 : decode prog_12_method_18_code 11 = .ok (.iastore, 1) := by decide +kernel
theorem d_Model_readSchema_12 : decode prog_12_method_18_code 12 = .ok (.aload_n 0, 1) := by decide +kernel
theorem d_Model_readSchema_13 : decode prog_12_method_18_code 13 = .ok (.iconst 0, 1) := by decide +kernel
theorem d_Model_readSchema_14 : decode prog_12_method_18_code 14 = .ok (.putfield 170, 3) := by decide +kernel
theorem d_Model_readSchema_17 : decode prog_12_method_18_code 17 = .ok (.iconst 0, 1) := by decide +kernel
theorem d_Model_readSchema_18 : decode prog_12_method_18_code 18 = .ok (.istore_n 2, 1) := by decide +kernel
theorem d_Model_readSchema_19 : decode prog_12_method_18_code 19 = .ok (.iload_n 2, 1) := by decide +kernel
theorem d_Model_readSchema_20 : decode prog_12_method_18_code 20 = .ok (.sipush 160, 3) := by decide +kernel
theorem d_Model_readSchema_23 : decode prog_12_method_18_code 23 = .ok (.if_icmp .ge 22, 3) := by decide +kernel
theorem d_Model_readSchema_26 : decode prog_12_method_18_code 26 = .ok (.aload_n 0, 1) := by decide +kernel
theorem d_Model_readSchema_27 : decode prog_12_method_18_code 27 = .ok (.getfield 72, 3) := by decide +kernel
theorem d_Model_readSchema_30 : decode prog_12_method_18_code 30 = .ok (.sipush 160, 3) := by decide +kernel
theorem d_Model_readSchema_33 : decode prog_12_method_18_code 33 = .ok (.iload_n 1, 1) := by decide +kernel
theorem d_Model_readSchema_34 : decode prog_12_method_18_code 34 = .ok (.imul, 1) := by decide +kernel
theorem d_Model_readSchema_35 : decode prog_12_method_18_code 35 = .ok (.iload_n 2, 1) := by decide +kernel
theorem d_Model_readSchema_36 : decode prog_12_method_18_code 36 = .ok (.iadd, 1) := by decide +kernel
theorem d_Model_readSchema_37 : decode prog_12_method_18_code 37 = .ok (.iconst 0, 1) := by decide +kernel
theorem d_Model_readSchema_38 : decode prog_12_method_18_code 38 = .ok (.bastore, 1) := by decide +kernel
theorem d_Model_readSchema_39 : decode prog_12_method_18_code 39 = .ok (.iinc 2 1, 3) := by decide +kernel
theorem d_Model_readSchema_42 : decode prog_12_method_18_code 42 = .ok (.goto (-23), 3) := by decide +kernel
theorem d_Model_readSchema_45 : decode prog_12_method_18_code 45 = .ok (.iconst 0, 1) := by decide +kernel
theorem d_Model_readSchema_46 : decode prog_12_method_18_code 46 = .ok (.istore_n 2, 1) := by decide +kernel
theorem d_Model_readSchema_47 : decode prog_12_method_18_code 47 = .ok (.iconst 0, 1) := by decide +kernel
theorem d_Model_readSchema_48 : decode prog_12_method_18_code 48 = .ok (.istore_n 3, 1) := by decide +kernel
theorem d_Model_readSchema_49 : decode prog_12_method_18_code 49 = .ok (.iconst 2, 1) := by decide +kernel
theorem d_Model_readSchema_50 : decode prog_12_method_18_code 50 = .ok (.istore 4, 2) := by decide +kernel
theorem d_Model_readSchema_52 : decode prog_12_method_18_code 52 = .ok (.iload_n 2, 1) := by decide +kernel
theorem d_Model_readSchema_53 : decode prog_12_method_18_code 53 = .ok (.ifCond .lt 75, 3) := by decide +kernel
theorem d_Model_readSchema_56 : decode prog_12_method_18_code 56 = .ok (.iload 4, 2) := by decide +kernel
theorem d_Model_readSchema_58 : decode prog_12_method_18_code 58 = .ok (.ifCond .le 70, 3) := by decide +kernel
theorem d_Model_readSchema_61 : decode prog_12_method_18_code 61 = .ok (.iload 4, 2) := by decide +kernel
theorem d_Model_readSchema_63 : decode prog_12_method_18_code 63 = .ok (.iconst 1, 1) := by decide +kernel
theorem d_Model_readSchema_64 : decode prog_12_method_18_code 64 = .ok (.if_icmp .ne 19, 3) := by decide +kernel
theorem d_Model_readSchema_67 : decode prog_12_method_18_code 67 = .ok (.aload_n 0, 1) := by decide +kernel
theorem d_Model_readSchema_68 : decode prog_12_method_18_code 68 = .ok (.iload_n 1, 1) := by decide +kernel
theorem d_Model_readSchema_69 : decode prog_12_method_18_code 69 = .ok (.iload_n 2, 1) := by decide +kernel
theorem d_Model_readSchema_70 : decode prog_12_method_18_code 70 = .ok (.invokevirtual 173, 3) := by decide +kernel
theorem d_Model_readSchema_73 : decode prog_12_method_18_code 73 = .ok (.istore_n 2, 1) := by decide +kernel
theorem d_Model_readSchema_74 : decode prog_12_method_18_code 74 = .ok (.aload_n 0, 1) := by decide +kernel
theorem d_Model_readSchema_75 : decode prog_12_method_18_code 75 = .ok (.getfield 155, 3) := by decide +kernel
theorem d_Model_readSchema_78 : decode prog_12_method_18_code 78 = .ok (.istore 4, 2) := by decide +kernel
theorem d_Model_readSchema_80 : decode prog_12_method_18_code 80 = .ok (.goto (-28), 3) := by decide +kernel
theorem d_Model_readSchema_83 : decode prog_12_method_18_code 83 = .ok (.iload 4, 2) := by decide +kernel
theorem d_Model_readSchema_85 : decode prog_12_method_18_code 85 = .ok (.iconst 2, 1) := by decide +kernel
theorem d_Model_readSchema_86 : decode prog_12_method_18_code 86 = .ok (.if_icmp .ne 22, 3) := by decide +kernel
theorem d_Model_readSchema_89 : decode prog_12_method_18_code 89 = .ok (.aload_n 0, 1) := by decide +kernel
theorem d_Model_readSchema_90 : decode prog_12_method_18_code 90 = .ok (.iload_n 1, 1) := by decide +kernel
theorem d_Model_readSchema_91 : decode prog_12_method_18_code 91 = .ok (.iload_n 2, 1) := by decide +kernel
theorem d_Model_readSchema_92 : decode prog_12_method_18_code 92 = .ok (.iload_n 3, 1) := by decide +kernel
theorem d_Model_readSchema_93 : decode prog_12_method_18_code 93 = .ok (.invokevirtual 177, 3) := by decide +kernel
theorem d_Model_readSchema_96 : decode prog_12_method_18_code 96 = .ok (.istore_n 2, 1) := by decide +kernel
theorem d_Model_readSchema_97 : decode prog_12_method_18_code 97 = .ok (.aload_n 0, 1) := by decide +kernel
theorem d_Model_readSchema_98 : decode prog_12_method_18_code 98 = .ok (.getfield 155, 3) := by decide +kernel
theorem d_Model_readSchema_101 : decode prog_12_method_18_code 101 = .ok (.istore 4, 2) := by decide +kernel
theorem d_Model_readSchema_103 : decode prog_12_method_18_code 103 = .ok (.iconst 0, 1) := by decide +kernel
theorem d_Model_readSchema_104 : decode prog_12_method_18_code 104 = .ok (.istore_n 3, 1) := by decide +kernel
theorem d_Model_readSchema_105 : decode prog_12_method_18_code 105 = .ok (.goto (-53), 3) := by decide +kernel
theorem d_Model_readSchema_108 : decode prog_12_method_18_code 108 = .ok (.aload_n 0, 1) := by decide +kernel
theorem d_Model_readSchema_109 : decode prog_12_method_18_code 109 = .ok (.iload_n 1, 1) := by decide +kernel
theorem d_Model_readSchema_110 : decode prog_12_method_18_code 110 = .ok (.iload_n 2, 1) := by decide +kernel
theorem d_Model_readSchema_111 : decode prog_12_method_18_code 111 = .ok (.invokevirtual 136, 3) := by decide +kernel
theorem d_Model_readSchema_114 : decode prog_12_method_18_code 114 = .ok (.istore_n 3, 1) := by decide +kernel
theorem d_Model_readSchema_115 : decode prog_12_method_18_code 115 = .ok (.aload_n 0, 1) := by decide +kernel
theorem d_Model_readSchema_116 : decode prog_12_method_18_code 116 = .ok (.iload_n 1, 1) := by decide +kernel
theorem d_Model_readSchema_117 : decode prog_12_method_18_code 117 = .ok (.iload_n 2, 1) := by decide +kernel
theorem d_Model_readSchema_118 : decode prog_12_method_18_code 118 = .ok (.invokevirtual 180, 3) := by decide +kernel
theorem d_Model_readSchema_121 : decode prog_12_method_18_code 121 = .ok (.istore_n 2, 1) := by decide +kernel
theorem d_Model_readSchema_122 : decode prog_12_method_18_code 122 = .ok (.iconst 2, 1) := by decide +kernel
theorem d_Model_readSchema_123 : decode prog_12_method_18_code 123 = .ok (.istore 4, 2) := by decide +kernel
theorem d_Model_readSchema_125 : decode prog_12_method_18_code 125 = .ok (.goto (-73), 3) := by decide +kernel
theorem d_Model_readSchema_128 : decode prog_12_method_18_code 128 = .ok (.iload_n 2, 1) := by decide +kernel
theorem d_Model_readSchema_129 : decode prog_12_method_18_code 129 = .ok (.ifCond .ge 9, 3) := by decide +kernel
theorem d_Model_readSchema_132 : decode prog_12_method_18_code 132 = .ok (.iconst (-1), 1) := by decide +kernel
theorem d_Model_readSchema_133 : decode prog_12_method_18_code 133 = .ok (.iload_n 2, 1) := by decide +kernel
theorem d_Model_readSchema_134 : decode prog_12_method_18_code 134 = .ok (.isub, 1) := by decide +kernel
theorem d_Model_readSchema_135 : decode prog_12_method_18_code 135 = .ok (.goto 4, 3) := by decide +kernel
theorem d_Model_readSchema_138 : decode prog_12_method_18_code 138 = .ok (.iconst (-1), 1) := by decide +kernel
theorem d_Model_readSchema_139 : decode prog_12_method_18_code 139 = .ok (.ireturn, 1) := by decide +kernel
def Model_readSchema_jn128 (call : ax_Cf)  (x2 : Int32) (h : ax_Hp) : ax_O :=
  if 0 ≤ x2 then
    ax_ri (-1) h
  else
    ax_ri ((-1) - x2) h
set_option maxHeartbeats 4000000 in
set_option maxRecDepth 20000 in
theorem Model_readSchema_jq128 {l : Launch} {G : ax_G} {d : Nat} {call : ax_Cf} (hcall : ax_Hc l G d call) {p : Program} {e : Env} {s : State} {mi : MethodId} {args : Array Value} {below : List Frame} {meth : Method} {c : Code} {h0 : ax_Hp} (B : ax_B G p s mi meth c "SchemaDeskModel" prog_12_method_18_code 5 (some (.int))) (E : c.exceptionTable.isEmpty = true) (Nm : meth.name = y_Model_readSchema.name)   (x2 : Int32) (h : ax_Hp) : ax_W G p l e s mi args below meth c 5 (d + 1) h0 128 [(2, ax_I x2)] [] h (Model_readSchema_jn128 call  x2 h) := by
  unfold Model_readSchema_jn128
  refine ax_iload_n B 0 d_Model_readSchema_128 rfl rfl ?_
  refine ax_if_ge B 138 d_Model_readSchema_129 (by decide) ?_ ?_
  · refine ax_iconst (v := (-1)) B d_Model_readSchema_138 (by decide) ?_
    exact ax_ireturn B d_Model_readSchema_139
  · refine ax_iconst (v := (-1)) B d_Model_readSchema_132 (by decide) ?_
    refine ax_iload_n B 0 d_Model_readSchema_133 rfl rfl ?_
    refine ax_isub B d_Model_readSchema_134 ?_
    refine ax_goto B 139 d_Model_readSchema_135 (by decide) ?_
    exact ax_ireturn B d_Model_readSchema_139
def Model_readSchema_bd52 (call : ax_Cf)  (k52 : Option Nat → Int32 → Int32 → Int32 → Int32 → ax_Hp → ax_O) (x0 : Option Nat) (x1 : Int32) (x2 : Int32) (x3 : Int32) (x4 : Int32) (h : ax_Hp) : ax_O :=
  if x2 < 0 then
    Model_readSchema_jn128 call x2 h
  else
    if x4 ≤ 0 then
      Model_readSchema_jn128 call x2 h
    else
      if x4 = 1 then
        ax_on h x0 9 <| ax_ci (call 154 [ax_A x0, ax_I x1, ax_I x2] h) fun v13 h12 =>
        (ax_gi h12 x0 9 38).bind fun v14 =>
        k52 x0 x1 v13 x3 v14 h12
      else
        if x4 = 2 then
          ax_on h x0 9 <| ax_ci (call 171 [ax_A x0, ax_I x1, ax_I x2, ax_I x3] h) fun v10 h9 =>
          (ax_gi h9 x0 9 38).bind fun v11 =>
          k52 x0 x1 v10 0 v11 h9
        else
          ax_on h x0 9 <| ax_ci (call 155 [ax_A x0, ax_I x1, ax_I x2] h) fun v6 h5 =>
          ax_on h5 x0 9 <| ax_ci (call 177 [ax_A x0, ax_I x1, ax_I x2] h5) fun v8 h7 =>
          k52 x0 x1 v8 v6 2 h7
def Model_readSchema_lp52 (call : ax_Cf)  : Nat → Option Nat → Int32 → Int32 → Int32 → Int32 → ax_Hp → ax_O
  | 0 => fun _ _ _ _ _ _ => none
  | n + 1 => Model_readSchema_bd52 call  (Model_readSchema_lp52 call  n)
set_option maxHeartbeats 4000000 in
set_option maxRecDepth 20000 in
theorem Model_readSchema_lb52 {l : Launch} {G : ax_G} {d : Nat} {call : ax_Cf} (hcall : ax_Hc l G d call) {p : Program} {e : Env} {s : State} {mi : MethodId} {args : Array Value} {below : List Frame} {meth : Method} {c : Code} {h0 : ax_Hp} (B : ax_B G p s mi meth c "SchemaDeskModel" prog_12_method_18_code 5 (some (.int))) (E : c.exceptionTable.isEmpty = true) (Nm : meth.name = y_Model_readSchema.name)   {k52 : Option Nat → Int32 → Int32 → Int32 → Int32 → ax_Hp → ax_O} (hk52 : ∀ (x0 : Option Nat) (x1 : Int32) (x2 : Int32) (x3 : Int32) (x4 : Int32) (h : ax_Hp), ax_W G p l e s mi args below meth c 5 (d + 1) h0 52 [(0, ax_A x0), (1, ax_I x1), (2, ax_I x2), (3, ax_I x3), (4, ax_I x4)] [] h (k52 x0 x1 x2 x3 x4 h)) (x0 : Option Nat) (x1 : Int32) (x2 : Int32) (x3 : Int32) (x4 : Int32) (h : ax_Hp) : ax_W G p l e s mi args below meth c 5 (d + 1) h0 52 [(0, ax_A x0), (1, ax_I x1), (2, ax_I x2), (3, ax_I x3), (4, ax_I x4)] [] h (Model_readSchema_bd52 call  k52 x0 x1 x2 x3 x4 h) := by
  unfold Model_readSchema_bd52
  refine ax_iload_n B 2 d_Model_readSchema_52 rfl rfl ?_
  refine ax_if_lt B 128 d_Model_readSchema_53 (by decide) ?_ ?_
  · refine ax_sub (tv2 := [(2, ax_I x2)]) [2] rfl ?_
    exact Model_readSchema_jq128 hcall B E Nm x2 h
  · refine ax_iload B 4 d_Model_readSchema_56 rfl ?_
    refine ax_if_le B 128 d_Model_readSchema_58 (by decide) ?_ ?_
    · refine ax_sub (tv2 := [(2, ax_I x2)]) [2] rfl ?_
      exact Model_readSchema_jq128 hcall B E Nm x2 h
    · refine ax_iload B 4 d_Model_readSchema_61 rfl ?_
      refine ax_iconst (v := 1) B d_Model_readSchema_63 (by decide) ?_
      refine ax_icmp_ne B 83 d_Model_readSchema_64 (by decide) ?_ ?_
      · refine ax_iload B 4 d_Model_readSchema_83 rfl ?_
        refine ax_iconst (v := 2) B d_Model_readSchema_85 (by decide) ?_
        refine ax_icmp_ne B 108 d_Model_readSchema_86 (by decide) ?_ ?_
        · refine ax_aload_n B 0 d_Model_readSchema_108 rfl rfl ?_
          refine ax_iload_n B 1 d_Model_readSchema_109 rfl rfl ?_
          refine ax_iload_n B 2 d_Model_readSchema_110 rfl rfl ?_
          refine ax_callVi (av := [ax_I x1, ax_I x2]) (rest := []) B E hm_Model_look cl_Model rfl wd_1096 wp_41 lk_Model_136 d_Model_readSchema_111 rfl (Nat.le_of_ble_eq_true rfl) (fun _ _ hh => hcall 155 _ _ _ _ hh) (fun v6 h5 => ?_)
          refine ax_istore_n (tv2 := [(3, ax_I v6), (0, ax_A x0), (1, ax_I x1), (2, ax_I x2), (4, ax_I x4)]) B d_Model_readSchema_114 rfl (by decide) rfl ?_
          refine ax_aload_n B 1 d_Model_readSchema_115 rfl rfl ?_
          refine ax_iload_n B 2 d_Model_readSchema_116 rfl rfl ?_
          refine ax_iload_n B 3 d_Model_readSchema_117 rfl rfl ?_
          refine ax_callVi (av := [ax_I x1, ax_I x2]) (rest := []) B E hm_Model_readName cl_Model rfl wd_1189 wp_62 lk_Model_180 d_Model_readSchema_118 rfl (Nat.le_of_ble_eq_true rfl) (fun _ _ hh => hcall 177 _ _ _ _ hh) (fun v8 h7 => ?_)
          refine ax_istore_n (tv2 := [(2, ax_I v8), (3, ax_I v6), (0, ax_A x0), (1, ax_I x1), (4, ax_I x4)]) B d_Model_readSchema_121 rfl (by decide) rfl ?_
          refine ax_iconst (v := 2) B d_Model_readSchema_122 (by decide) ?_
          refine ax_istore (tv2 := [(4, ax_I 2), (2, ax_I v8), (3, ax_I v6), (0, ax_A x0), (1, ax_I x1)]) B d_Model_readSchema_123 (by decide) rfl ?_
          refine ax_goto B 52 d_Model_readSchema_125 (by decide) ?_
          refine ax_sub (tv2 := [(0, ax_A x0), (1, ax_I x1), (2, ax_I v8), (3, ax_I v6), (4, ax_I 2)]) [3, 4, 1, 2, 0] rfl ?_
          exact hk52 x0 x1 v8 v6 2 h7
        · refine ax_aload_n B 0 d_Model_readSchema_89 rfl rfl ?_
          refine ax_iload_n B 1 d_Model_readSchema_90 rfl rfl ?_
          refine ax_iload_n B 2 d_Model_readSchema_91 rfl rfl ?_
          refine ax_iload_n B 3 d_Model_readSchema_92 rfl rfl ?_
          refine ax_callVi (av := [ax_I x1, ax_I x2, ax_I x3]) (rest := []) B E hm_Model_readLetter cl_Model rfl wd_1166 wp_57 lk_Model_177 d_Model_readSchema_93 rfl (Nat.le_of_ble_eq_true rfl) (fun _ _ hh => hcall 171 _ _ _ _ hh) (fun v10 h9 => ?_)
          refine ax_istore_n (tv2 := [(2, ax_I v10), (0, ax_A x0), (1, ax_I x1), (3, ax_I x3), (4, ax_I x4)]) B d_Model_readSchema_96 rfl (by decide) rfl ?_
          refine ax_aload_n B 1 d_Model_readSchema_97 rfl rfl ?_
          refine ax_getfi B cl_Model (by decide) fk_Model_155 d_Model_readSchema_98 (fun v11 => ?_)
          refine ax_istore (tv2 := [(4, ax_I v11), (2, ax_I v10), (0, ax_A x0), (1, ax_I x1), (3, ax_I x3)]) B d_Model_readSchema_101 (by decide) rfl ?_
          refine ax_iconst (v := 0) B d_Model_readSchema_103 (by decide) ?_
          refine ax_istore_n (tv2 := [(3, ax_I 0), (4, ax_I v11), (2, ax_I v10), (0, ax_A x0), (1, ax_I x1)]) B d_Model_readSchema_104 rfl (by decide) rfl ?_
          refine ax_goto B 52 d_Model_readSchema_105 (by decide) ?_
          refine ax_sub (tv2 := [(0, ax_A x0), (1, ax_I x1), (2, ax_I v10), (3, ax_I 0), (4, ax_I v11)]) [3, 4, 2, 0, 1] rfl ?_
          exact hk52 x0 x1 v10 0 v11 h9
      · refine ax_aload_n B 0 d_Model_readSchema_67 rfl rfl ?_
        refine ax_iload_n B 1 d_Model_readSchema_68 rfl rfl ?_
        refine ax_iload_n B 2 d_Model_readSchema_69 rfl rfl ?_
        refine ax_callVi (av := [ax_I x1, ax_I x2]) (rest := []) B E hm_Model_readBehind cl_Model rfl wd_1092 wp_40 lk_Model_173 d_Model_readSchema_70 rfl (Nat.le_of_ble_eq_true rfl) (fun _ _ hh => hcall 154 _ _ _ _ hh) (fun v13 h12 => ?_)
        refine ax_istore_n (tv2 := [(2, ax_I v13), (0, ax_A x0), (1, ax_I x1), (3, ax_I x3), (4, ax_I x4)]) B d_Model_readSchema_73 rfl (by decide) rfl ?_
        refine ax_aload_n B 1 d_Model_readSchema_74 rfl rfl ?_
        refine ax_getfi B cl_Model (by decide) fk_Model_155 d_Model_readSchema_75 (fun v14 => ?_)
        refine ax_istore (tv2 := [(4, ax_I v14), (2, ax_I v13), (0, ax_A x0), (1, ax_I x1), (3, ax_I x3)]) B d_Model_readSchema_78 (by decide) rfl ?_
        refine ax_goto B 52 d_Model_readSchema_80 (by decide) ?_
        refine ax_sub (tv2 := [(0, ax_A x0), (1, ax_I x1), (2, ax_I v13), (3, ax_I x3), (4, ax_I v14)]) [2, 3, 1, 4, 0] rfl ?_
        exact hk52 x0 x1 v13 x3 v14 h12
theorem Model_readSchema_lq52 {l : Launch} {G : ax_G} {d : Nat} {call : ax_Cf} (hcall : ax_Hc l G d call) {p : Program} {e : Env} {s : State} {mi : MethodId} {args : Array Value} {below : List Frame} {meth : Method} {c : Code} {h0 : ax_Hp} (B : ax_B G p s mi meth c "SchemaDeskModel" prog_12_method_18_code 5 (some (.int))) (E : c.exceptionTable.isEmpty = true) (Nm : meth.name = y_Model_readSchema.name)   : ∀ (n : Nat) (x0 : Option Nat) (x1 : Int32) (x2 : Int32) (x3 : Int32) (x4 : Int32) (h : ax_Hp), ax_W G p l e s mi args below meth c 5 (d + 1) h0 52 [(0, ax_A x0), (1, ax_I x1), (2, ax_I x2), (3, ax_I x3), (4, ax_I x4)] [] h (Model_readSchema_lp52 call  n x0 x1 x2 x3 x4 h)
  | 0, _, _, _, _, _, _ => ax_none
  | n + 1, x0, x1, x2, x3, x4, h => Model_readSchema_lb52 hcall B E Nm   (Model_readSchema_lq52 hcall B E Nm   n) x0 x1 x2 x3 x4 h
def Model_readSchema_bd19 (call : ax_Cf)  (k19 : Option Nat → Int32 → Int32 → ax_Hp → ax_O) (x0 : Option Nat) (x1 : Int32) (x2 : Int32) (h : ax_Hp) : ax_O :=
  if 160 ≤ x2 then
    Model_readSchema_lp52 call ax_fuel x0 x1 0 0 2 h
  else
    (ax_gr h x0 9 25).bind fun v15 =>
    (ax_stz h v15 4 ((160 * x1) + x2) 0).bind fun h16 =>
    k19 x0 x1 (x2 + 1) h16
def Model_readSchema_lp19 (call : ax_Cf)  : Nat → Option Nat → Int32 → Int32 → ax_Hp → ax_O
  | 0 => fun _ _ _ _ => none
  | n + 1 => Model_readSchema_bd19 call  (Model_readSchema_lp19 call  n)
set_option maxHeartbeats 4000000 in
set_option maxRecDepth 20000 in
theorem Model_readSchema_lb19 {l : Launch} {G : ax_G} {d : Nat} {call : ax_Cf} (hcall : ax_Hc l G d call) {p : Program} {e : Env} {s : State} {mi : MethodId} {args : Array Value} {below : List Frame} {meth : Method} {c : Code} {h0 : ax_Hp} (B : ax_B G p s mi meth c "SchemaDeskModel" prog_12_method_18_code 5 (some (.int))) (E : c.exceptionTable.isEmpty = true) (Nm : meth.name = y_Model_readSchema.name)   {k19 : Option Nat → Int32 → Int32 → ax_Hp → ax_O} (hk19 : ∀ (x0 : Option Nat) (x1 : Int32) (x2 : Int32) (h : ax_Hp), ax_W G p l e s mi args below meth c 5 (d + 1) h0 19 [(0, ax_A x0), (1, ax_I x1), (2, ax_I x2)] [] h (k19 x0 x1 x2 h)) (x0 : Option Nat) (x1 : Int32) (x2 : Int32) (h : ax_Hp) : ax_W G p l e s mi args below meth c 5 (d + 1) h0 19 [(0, ax_A x0), (1, ax_I x1), (2, ax_I x2)] [] h (Model_readSchema_bd19 call  k19 x0 x1 x2 h) := by
  unfold Model_readSchema_bd19
  refine ax_iload_n B 2 d_Model_readSchema_19 rfl rfl ?_
  refine ax_sipush (v := 160) B d_Model_readSchema_20 (by decide) ?_
  refine ax_icmp_ge B 45 d_Model_readSchema_23 (by decide) ?_ ?_
  · refine ax_iconst (v := 0) B d_Model_readSchema_45 (by decide) ?_
    refine ax_istore_n (tv2 := [(2, ax_I 0), (0, ax_A x0), (1, ax_I x1)]) B d_Model_readSchema_46 rfl (by decide) rfl ?_
    refine ax_iconst (v := 0) B d_Model_readSchema_47 (by decide) ?_
    refine ax_istore_n (tv2 := [(3, ax_I 0), (2, ax_I 0), (0, ax_A x0), (1, ax_I x1)]) B d_Model_readSchema_48 rfl (by decide) rfl ?_
    refine ax_iconst (v := 2) B d_Model_readSchema_49 (by decide) ?_
    refine ax_istore (tv2 := [(4, ax_I 2), (3, ax_I 0), (2, ax_I 0), (0, ax_A x0), (1, ax_I x1)]) B d_Model_readSchema_50 (by decide) rfl ?_
    refine ax_sub (tv2 := [(0, ax_A x0), (1, ax_I x1), (2, ax_I 0), (3, ax_I 0), (4, ax_I 2)]) [3, 4, 2, 1, 0] rfl ?_
    exact Model_readSchema_lq52 hcall B E Nm ax_fuel x0 x1 0 0 2 h
  · refine ax_aload_n B 0 d_Model_readSchema_26 rfl rfl ?_
    refine ax_getfr B cl_Model (by decide) fk_Model_72 d_Model_readSchema_27 (fun v15 => ?_)
    refine ax_sipush (v := 160) B d_Model_readSchema_30 (by decide) ?_
    refine ax_iload_n B 1 d_Model_readSchema_33 rfl rfl ?_
    refine ax_imul B d_Model_readSchema_34 ?_
    refine ax_iload_n B 2 d_Model_readSchema_35 rfl rfl ?_
    refine ax_iadd B d_Model_readSchema_36 ?_
    refine ax_iconst (v := 0) B d_Model_readSchema_37 (by decide) ?_
    refine ax_zast (kd := 4) B (by decide) (by decide) rfl d_Model_readSchema_38 (fun h16 => ?_)
    refine ax_iinc (v := x2 + 1) (tv2 := [(2, ax_I (x2 + 1)), (0, ax_A x0), (1, ax_I x1)]) B 2 d_Model_readSchema_39 rfl (congrArg (_ + ·) (by decide)) (by decide) rfl ?_
    refine ax_goto B 19 d_Model_readSchema_42 (by decide) ?_
    refine ax_sub (tv2 := [(0, ax_A x0), (1, ax_I x1), (2, ax_I (x2 + 1))]) [1, 2, 0] rfl ?_
    exact hk19 x0 x1 (x2 + 1) h16
theorem Model_readSchema_lq19 {l : Launch} {G : ax_G} {d : Nat} {call : ax_Cf} (hcall : ax_Hc l G d call) {p : Program} {e : Env} {s : State} {mi : MethodId} {args : Array Value} {below : List Frame} {meth : Method} {c : Code} {h0 : ax_Hp} (B : ax_B G p s mi meth c "SchemaDeskModel" prog_12_method_18_code 5 (some (.int))) (E : c.exceptionTable.isEmpty = true) (Nm : meth.name = y_Model_readSchema.name)   : ∀ (n : Nat) (x0 : Option Nat) (x1 : Int32) (x2 : Int32) (h : ax_Hp), ax_W G p l e s mi args below meth c 5 (d + 1) h0 19 [(0, ax_A x0), (1, ax_I x1), (2, ax_I x2)] [] h (Model_readSchema_lp19 call  n x0 x1 x2 h)
  | 0, _, _, _, _ => ax_none
  | n + 1, x0, x1, x2, h => Model_readSchema_lb19 hcall B E Nm   (Model_readSchema_lq19 hcall B E Nm   n) x0 x1 x2 h
def Model_readSchema_b (call : ax_Cf) (x0 : Option Nat) (x1 : Int32) (h : ax_Hp) : ax_O :=
  (ax_pf h x0 9 26 (ax_I 0)).bind fun h1 =>
  (ax_gr h1 x0 9 16).bind fun v2 =>
  (ax_st h1 v2 1 x1 (ax_I 0)).bind fun h3 =>
  (ax_pf h3 x0 9 39 (ax_I 0)).bind fun h4 =>
  Model_readSchema_lp19 call ax_fuel x0 x1 0 h4
set_option maxHeartbeats 4000000 in
set_option maxRecDepth 20000 in
theorem Model_readSchema_t {l : Launch} {G : ax_G} {d : Nat} {call : ax_Cf} (hcall : ax_Hc l G d call) (x0 : Option Nat) (x1 : Int32) (h : ax_Hp) {r : ax_Rs} {h' : ax_Hp} (ho : Model_readSchema_b call x0 x1 h = some (r, h')) : ax_C l G (d + 1) y_Model_readSchema (.code y_Model_readSchema prog_12_method_18_code 5 (some (.int))) [ax_A x0, ax_I x1] h r h' := by
  refine ax_enter (by decide) (Nat.le_of_ble_eq_true rfl) ho (fun p e s mi args below meth c B E Nm => ?_)
  have B : ax_B G p s mi meth c "SchemaDeskModel" prog_12_method_18_code 5 (some (.int)) := B
  show ax_W G p l e s mi args below meth c 5 (d + 1) h 0 [(0, ax_A x0), (1, ax_I x1)] [] h (Model_readSchema_b call x0 x1 h)
  unfold Model_readSchema_b
  refine ax_aload_n B 0 d_Model_readSchema_0 rfl rfl ?_
  refine ax_iconst (v := 0) B d_Model_readSchema_1 (by decide) ?_
  refine ax_putf (v := ax_I 0) B cl_Model (by decide) fk_Model_133 (Or.inl rfl) (fun _ => rfl) (fun _ => rfl) d_Model_readSchema_2 (fun h1 => ?_)
  refine ax_aload_n B 0 d_Model_readSchema_5 rfl rfl ?_
  refine ax_getfr B cl_Model (by decide) fk_Model_45 d_Model_readSchema_6 (fun v2 => ?_)
  refine ax_iload_n B 1 d_Model_readSchema_9 rfl rfl ?_
  refine ax_iconst (v := 0) B d_Model_readSchema_10 (by decide) ?_
  refine ax_iast (kd := 1) B (by decide) (by decide) rfl d_Model_readSchema_11 (fun h3 => ?_)
  refine ax_aload_n B 0 d_Model_readSchema_12 rfl rfl ?_
  refine ax_iconst (v := 0) B d_Model_readSchema_13 (by decide) ?_
  refine ax_putf (v := ax_I 0) B cl_Model (by decide) fk_Model_170 (Or.inl rfl) (fun _ => rfl) (fun _ => rfl) d_Model_readSchema_14 (fun h4 => ?_)
  refine ax_iconst (v := 0) B d_Model_readSchema_17 (by decide) ?_
  refine ax_istore_n (tv2 := [(2, ax_I 0), (0, ax_A x0), (1, ax_I x1)]) B d_Model_readSchema_18 rfl (by decide) rfl ?_
  refine ax_sub (tv2 := [(0, ax_A x0), (1, ax_I x1), (2, ax_I 0)]) [1, 2, 0] rfl ?_
  exact Model_readSchema_lq19 hcall B E Nm ax_fuel x0 x1 0 h4
