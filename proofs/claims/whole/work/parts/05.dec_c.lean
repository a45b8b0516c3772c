theorem dX12_init_0 : decode cX12_init 0 = .ok (.aload_n 0, 1) := by decide +kernel
theorem dX12_init_1 : decode cX12_init 1 = .ok (.invokespecial 1, 3) := by decide +kernel
theorem dX12_init_4 : decode cX12_init 4 = .ok (.aload_n 0, 1) := by decide +kernel
theorem dX12_init_5 : decode cX12_init 5 = .ok (.sipush 160, 3) := by decide +kernel
theorem dX12_init_8 : decode cX12_init 8 = .ok (.newarray .byte, 2) := by decide +kernel
theorem dX12_init_10 : decode cX12_init 10 = .ok (.putfield 9, 3) := by decide +kernel
theorem dX12_init_13 : decode cX12_init 13 = .ok (.aload_n 0, 1) := by decide +kernel
theorem dX12_init_14 : decode cX12_init 14 = .ok (.bipush 12, 2) := by decide +kernel
theorem dX12_init_16 : decode cX12_init 16 = .ok (.newarray .int, 2) := by decide +kernel
theorem dX12_init_18 : decode cX12_init 18 = .ok (.putfield 13, 3) := by decide +kernel
theorem dX12_init_21 : decode cX12_init 21 = .ok (.aload_n 0, 1) := by decide +kernel
theorem dX12_init_22 : decode cX12_init 22 = .ok (.bipush 84, 2) := by decide +kernel
theorem dX12_init_24 : decode cX12_init 24 = .ok (.newarray .int, 2) := by decide +kernel
theorem dX12_init_26 : decode cX12_init 26 = .ok (.putfield 17, 3) := by decide +kernel
theorem dX12_init_29 : decode cX12_init 29 = .ok (.aload_n 0, 1) := by decide +kernel
theorem dX12_init_30 : decode cX12_init 30 = .ok (.bipush 84, 2) := by decide +kernel
theorem dX12_init_32 : decode cX12_init 32 = .ok (.newarray .int, 2) := by decide +kernel
theorem dX12_init_34 : decode cX12_init 34 = .ok (.putfield 20, 3) := by decide +kernel
theorem dX12_init_37 : decode cX12_init 37 = .ok (.aload_n 0, 1) := by decide +kernel
theorem dX12_init_38 : decode cX12_init 38 = .ok (.bipush 84, 2) := by decide +kernel
theorem dX12_init_40 : decode cX12_init 40 = .ok (.newarray .int, 2) := by decide +kernel
theorem dX12_init_42 : decode cX12_init 42 = .ok (.putfield 23, 3) := by decide +kernel
theorem dX12_init_45 : decode cX12_init 45 = .ok (.aload_n 0, 1) := by decide +kernel
theorem dX12_init_46 : decode cX12_init 46 = .ok (.bipush 7, 2) := by decide +kernel
theorem dX12_init_48 : decode cX12_init 48 = .ok (.newarray .int, 2) := by decide +kernel
theorem dX12_init_50 : decode cX12_init 50 = .ok (.putfield 26, 3) := by decide +kernel
theorem dX12_init_53 : decode cX12_init 53 = .ok (.aload_n 0, 1) := by decide +kernel
theorem dX12_init_54 : decode cX12_init 54 = .ok (.sipush 3072, 3) := by decide +kernel
theorem dX12_init_57 : decode cX12_init 57 = .ok (.newarray .int, 2) := by decide +kernel
theorem dX12_init_59 : decode cX12_init 59 = .ok (.putfield 29, 3) := by decide +kernel
theorem dX12_init_62 : decode cX12_init 62 = .ok (.aload_n 0, 1) := by decide +kernel
theorem dX12_init_63 : decode cX12_init 63 = .ok (.sipush 3072, 3) := by decide +kernel
theorem dX12_init_66 : decode cX12_init 66 = .ok (.newarray .int, 2) := by decide +kernel
theorem dX12_init_68 : decode cX12_init 68 = .ok (.putfield 32, 3) := by decide +kernel
theorem dX12_init_71 : decode cX12_init 71 = .ok (.aload_n 0, 1) := by decide +kernel
theorem dX12_init_72 : decode cX12_init 72 = .ok (.bipush 6, 2) := by decide +kernel
theorem dX12_init_74 : decode cX12_init 74 = .ok (.newarray .int, 2) := by decide +kernel
theorem dX12_init_76 : decode cX12_init 76 = .ok (.putfield 35, 3) := by decide +kernel
theorem dX12_init_79 : decode cX12_init 79 = .ok (.aload_n 0, 1) := by decide +kernel
theorem dX12_init_80 : decode cX12_init 80 = .ok (.bipush 72, 2) := by decide +kernel
theorem dX12_init_82 : decode cX12_init 82 = .ok (.newarray .int, 2) := by decide +kernel
theorem dX12_init_84 : decode cX12_init 84 = .ok (.putfield 38, 3) := by decide +kernel
theorem dX12_init_87 : decode cX12_init 87 = .ok (.aload_n 0, 1) := by decide +kernel
theorem dX12_init_88 : decode cX12_init 88 = .ok (.bipush 9, 2) := by decide +kernel
theorem dX12_init_90 : decode cX12_init 90 = .ok (.newarray .int, 2) := by decide +kernel
theorem dX12_init_92 : decode cX12_init 92 = .ok (.putfield 41, 3) := by decide +kernel
theorem dX12_init_95 : decode cX12_init 95 = .ok (.aload_n 0, 1) := by decide +kernel
theorem dX12_init_96 : decode cX12_init 96 = .ok (.bipush 10, 2) := by decide +kernel
theorem dX12_init_98 : decode cX12_init 98 = .ok (.newarray .int, 2) := by decide +kernel
theorem dX12_init_100 : decode cX12_init 100 = .ok (.putfield 44, 3) := by decide +kernel
theorem dX12_init_103 : decode cX12_init 103 = .ok (.aload_n 0, 1) := by decide +kernel
theorem dX12_init_104 : decode cX12_init 104 = .ok (.sipush 5120, 3) := by decide +kernel
theorem dX12_init_107 : decode cX12_init 107 = .ok (.newarray .boolean, 2) := by decide +kernel
theorem dX12_init_109 : decode cX12_init 109 = .ok (.putfield 47, 3) := by decide +kernel
theorem dX12_init_112 : decode cX12_init 112 = .ok (.aload_n 0, 1) := by decide +kernel
theorem dX12_init_113 : decode cX12_init 113 = .ok (.bipush 9, 2) := by decide +kernel
theorem dX12_init_115 : decode cX12_init 115 = .ok (.newarray .boolean, 2) := by decide +kernel
theorem dX12_init_117 : decode cX12_init 117 = .ok (.putfield 51, 3) := by decide +kernel
theorem dX12_init_120 : decode cX12_init 120 = .ok (.aload_n 0, 1) := by decide +kernel
theorem dX12_init_121 : decode cX12_init 121 = .ok (.bipush 9, 2) := by decide +kernel
theorem dX12_init_123 : decode cX12_init 123 = .ok (.newarray .int, 2) := by decide +kernel
theorem dX12_init_125 : decode cX12_init 125 = .ok (.putfield 54, 3) := by decide +kernel
theorem dX12_init_128 : decode cX12_init 128 = .ok (.aload_n 0, 1) := by decide +kernel
theorem dX12_init_129 : decode cX12_init 129 = .ok (.iconst 4, 1) := by decide +kernel
theorem dX12_init_130 : decode cX12_init 130 = .ok (.newarray .int, 2) := by decide +kernel
theorem dX12_init_132 : decode cX12_init 132 = .ok (.putfield 57, 3) := by decide +kernel
theorem dX12_init_135 : decode cX12_init 135 = .ok (.aload_n 0, 1) := by decide +kernel
theorem dX12_init_136 : decode cX12_init 136 = .ok (.bipush 36, 2) := by decide +kernel
theorem dX12_init_138 : decode cX12_init 138 = .ok (.newarray .int, 2) := by decide +kernel
theorem dX12_init_140 : decode cX12_init 140 = .ok (.putfield 60, 3) := by decide +kernel
theorem dX12_init_143 : decode cX12_init 143 = .ok (.aload_n 0, 1) := by decide +kernel
theorem dX12_init_144 : decode cX12_init 144 = .ok (.ldc 63, 2) := by decide +kernel
theorem dX12_init_146 : decode cX12_init 146 = .ok (.newarray .int, 2) := by decide +kernel
theorem dX12_init_148 : decode cX12_init 148 = .ok (.putfield 64, 3) := by decide +kernel
theorem dX12_init_151 : decode cX12_init 151 = .ok (.aload_n 0, 1) := by decide +kernel
theorem dX12_init_152 : decode cX12_init 152 = .ok (.ldc 63, 2) := by decide +kernel
theorem dX12_init_154 : decode cX12_init 154 = .ok (.newarray .int, 2) := by decide +kernel
theorem dX12_init_156 : decode cX12_init 156 = .ok (.putfield 67, 3) := by decide +kernel
theorem dX12_init_159 : decode cX12_init 159 = .ok (.aload_n 0, 1) := by decide +kernel
theorem dX12_init_160 : decode cX12_init 160 = .ok (.ldc 63, 2) := by decide +kernel
theorem dX12_init_162 : decode cX12_init 162 = .ok (.newarray .int, 2) := by decide +kernel
theorem dX12_init_164 : decode cX12_init 164 = .ok (.putfield 70, 3) := by decide +kernel
theorem dX12_init_167 : decode cX12_init 167 = .ok (.aload_n 0, 1) := by decide +kernel
theorem dX12_init_168 : decode cX12_init 168 = .ok (.ldc 63, 2) := by decide +kernel
theorem dX12_init_170 : decode cX12_init 170 = .ok (.newarray .long, 2) := by decide +kernel
theorem dX12_init_172 : decode cX12_init 172 = .ok (.putfield 73, 3) := by decide +kernel
theorem dX12_init_175 : decode cX12_init 175 = .ok (.aload_n 0, 1) := by decide +kernel
theorem dX12_init_176 : decode cX12_init 176 = .ok (.sipush 1024, 3) := by decide +kernel
theorem dX12_init_179 : decode cX12_init 179 = .ok (.newarray .int, 2) := by decide +kernel
theorem dX12_init_181 : decode cX12_init 181 = .ok (.putfield 77, 3) := by decide +kernel
theorem dX12_init_184 : decode cX12_init 184 = .ok (.aload_n 0, 1) := by decide +kernel
theorem dX12_init_185 : decode cX12_init 185 = .ok (.bipush 9, 2) := by decide +kernel
theorem dX12_init_187 : decode cX12_init 187 = .ok (.newarray .int, 2) := by decide +kernel
theorem dX12_init_189 : decode cX12_init 189 = .ok (.putfield 80, 3) := by decide +kernel
theorem dX12_init_192 : decode cX12_init 192 = .ok (.aload_n 0, 1) := by decide +kernel
theorem dX12_init_193 : decode cX12_init 193 = .ok (.sipush 4608, 3) := by decide +kernel
theorem dX12_init_196 : decode cX12_init 196 = .ok (.newarray .int, 2) := by decide +kernel
theorem dX12_init_198 : decode cX12_init 198 = .ok (.putfield 83, 3) := by decide +kernel
theorem dX12_init_201 : decode cX12_init 201 = .ok (.aload_n 0, 1) := by decide +kernel
theorem dX12_init_202 : decode cX12_init 202 = .ok (.sipush 512, 3) := by decide +kernel
theorem dX12_init_205 : decode cX12_init 205 = .ok (.newarray .int, 2) := by decide +kernel
theorem dX12_init_207 : decode cX12_init 207 = .ok (.putfield 86, 3) := by decide +kernel
theorem dX12_init_210 : decode cX12_init 210 = .ok (.aload_n 0, 1) := by decide +kernel
theorem dX12_init_211 : decode cX12_init 211 = .ok (.sipush 512, 3) := by decide +kernel
theorem dX12_init_214 : decode cX12_init 214 = .ok (.newarray .boolean, 2) := by decide +kernel
theorem dX12_init_216 : decode cX12_init 216 = .ok (.putfield 89, 3) := by decide +kernel
theorem dX12_init_219 : decode cX12_init 219 = .ok (.aload_n 0, 1) := by decide +kernel
theorem dX12_init_220 : decode cX12_init 220 = .ok (.bipush 20, 2) := by decide +kernel
theorem dX12_init_222 : decode cX12_init 222 = .ok (.newarray .int, 2) := by decide +kernel
theorem dX12_init_224 : decode cX12_init 224 = .ok (.putfield 92, 3) := by decide +kernel
theorem dX12_init_227 : decode cX12_init 227 = .ok (.aload_n 0, 1) := by decide +kernel
theorem dX12_init_228 : decode cX12_init 228 = .ok (.bipush 20, 2) := by decide +kernel
theorem dX12_init_230 : decode cX12_init 230 = .ok (.newarray .int, 2) := by decide +kernel
theorem dX12_init_232 : decode cX12_init 232 = .ok (.putfield 95, 3) := by decide +kernel
theorem dX12_init_235 : decode cX12_init 235 = .ok (.aload_n 0, 1) := by decide +kernel
theorem dX12_init_236 : decode cX12_init 236 = .ok (.iconst 1, 1) := by decide +kernel
theorem dX12_init_237 : decode cX12_init 237 = .ok (.bipush 9, 2) := by decide +kernel
theorem dX12_init_239 : decode cX12_init 239 = .ok (.iload_n 1, 1) := by decide +kernel
theorem dX12_init_240 : decode cX12_init 240 = .ok (.invokestatic 98, 3) := by decide +kernel
theorem dX12_init_243 : decode cX12_init 243 = .ok (.invokestatic 104, 3) := by decide +kernel
theorem dX12_init_246 : decode cX12_init 246 = .ok (.putfield 107, 3) := by decide +kernel
theorem dX12_init_249 : decode cX12_init 249 = .ok (.aload_n 0, 1) := by decide +kernel
theorem dX12_init_250 : decode cX12_init 250 = .ok (.iconst 1, 1) := by decide +kernel
theorem dX12_init_251 : decode cX12_init 251 = .ok (.aload_n 0, 1) := by decide +kernel
theorem dX12_init_252 : decode cX12_init 252 = .ok (.getfield 107, 3) := by decide +kernel
theorem dX12_init_255 : decode cX12_init 255 = .ok (.ishl, 1) := by decide +kernel
theorem dX12_init_256 : decode cX12_init 256 = .ok (.putfield 111, 3) := by decide +kernel
theorem dX12_init_259 : decode cX12_init 259 = .ok (.iconst 0, 1) := by decide +kernel
theorem dX12_init_260 : decode cX12_init 260 = .ok (.istore_n 2, 1) := by decide +kernel
theorem dX12_init_261 : decode cX12_init 261 = .ok (.iload_n 2, 1) := by decide +kernel
theorem dX12_init_262 : decode cX12_init 262 = .ok (.bipush 9, 2) := by decide +kernel
theorem dX12_init_264 : decode cX12_init 264 = .ok (.if_icmp .ge 16, 3) := by decide +kernel
theorem dX12_init_267 : decode cX12_init 267 = .ok (.aload_n 0, 1) := by decide +kernel
theorem dX12_init_268 : decode cX12_init 268 = .ok (.getfield 41, 3) := by decide +kernel
theorem dX12_init_271 : decode cX12_init 271 = .ok (.iload_n 2, 1) := by decide +kernel
theorem dX12_init_272 : decode cX12_init 272 = .ok (.iconst 1, 1) := by decide +kernel
theorem dX12_init_273 : decode cX12_init 273 = .ok (.iastore, 1) := by decide +kernel
theorem dX12_init_274 : decode cX12_init 274 = .ok (.iinc 2 1, 3) := by decide +kernel
theorem dX12_init_277 : decode cX12_init 277 = .ok (.goto (-16), 3) := by decide +kernel
theorem dX12_init_280 : decode cX12_init 280 = .ok (.iconst 0, 1) := by decide +kernel
theorem dX12_init_281 : decode cX12_init 281 = .ok (.istore_n 2, 1) := by decide +kernel
theorem dX12_init_282 : decode cX12_init 282 = .ok (.iload_n 2, 1) := by decide +kernel
theorem dX12_init_283 : decode cX12_init 283 = .ok (.bipush 10, 2) := by decide +kernel
theorem dX12_init_285 : decode cX12_init 285 = .ok (.if_icmp .ge 16, 3) := by decide +kernel
theorem dX12_init_288 : decode cX12_init 288 = .ok (.aload_n 0, 1) := by decide +kernel
theorem dX12_init_289 : decode cX12_init 289 = .ok (.getfield 44, 3) := by decide +kernel
theorem dX12_init_292 : decode cX12_init 292 = .ok (.iload_n 2, 1) := by decide +kernel
theorem dX12_init_293 : decode cX12_init 293 = .ok (.iconst 1, 1) := by decide +kernel
theorem dX12_init_294 : decode cX12_init 294 = .ok (.iastore, 1) := by decide +kernel
theorem dX12_init_295 : decode cX12_init 295 = .ok (.iinc 2 1, 3) := by decide +kernel
theorem dX12_init_298 : decode cX12_init 298 = .ok (.goto (-16), 3) := by decide +kernel
theorem dX12_init_301 : decode cX12_init 301 = .ok (.return_, 1) := by decide +kernel
theorem dX12_thrown_0 : decode cX12_thrown 0 = .ok (.aload_n 0, 1) := by decide +kernel
theorem dX12_thrown_1 : decode cX12_thrown 1 = .ok (.getfield 114, 3) := by decide +kernel
theorem dX12_thrown_4 : decode cX12_thrown 4 = .ok (.ireturn, 1) := by decide +kernel
theorem dX12_isIn_0 : decode cX12_isIn 0 = .ok (.iload_n 0, 1) := by decide +kernel
theorem dX12_isIn_1 : decode cX12_isIn 1 = .ok (.iload_n 1, 1) := by decide +kernel
theorem dX12_isIn_2 : decode cX12_isIn 2 = .ok (.if_icmp .lt 12, 3) := by decide +kernel
theorem dX12_isIn_5 : decode cX12_isIn 5 = .ok (.iload_n 0, 1) := by decide +kernel
theorem dX12_isIn_6 : decode cX12_isIn 6 = .ok (.iload_n 2, 1) := by decide +kernel
theorem dX12_isIn_7 : decode cX12_isIn 7 = .ok (.if_icmp .gt 7, 3) := by decide +kernel
theorem dX12_isIn_10 : decode cX12_isIn 10 = .ok (.iconst 1, 1) := by decide +kernel
theorem dX12_isIn_11 : decode cX12_isIn 11 = .ok (.goto 4, 3) := by decide +kernel
theorem dX12_isIn_14 : decode cX12_isIn 14 = .ok (.iconst 0, 1) := by decide +kernel
theorem dX12_isIn_15 : decode cX12_isIn 15 = .ok (.ireturn, 1) := by decide +kernel
theorem dX12_has_0 : decode cX12_has 0 = .ok (.iload_n 0, 1) := by decide +kernel
theorem dX12_has_1 : decode cX12_has 1 = .ok (.iload_n 1, 1) := by decide +kernel
theorem dX12_has_2 : decode cX12_has 2 = .ok (.ishr, 1) := by decide +kernel
theorem dX12_has_3 : decode cX12_has 3 = .ok (.iconst 1, 1) := by decide +kernel
theorem dX12_has_4 : decode cX12_has 4 = .ok (.iand, 1) := by decide +kernel
theorem dX12_has_5 : decode cX12_has 5 = .ok (.iconst 1, 1) := by decide +kernel
theorem dX12_has_6 : decode cX12_has 6 = .ok (.if_icmp .ne 7, 3) := by decide +kernel
theorem dX12_has_9 : decode cX12_has 9 = .ok (.iconst 1, 1) := by decide +kernel
theorem dX12_has_10 : decode cX12_has 10 = .ok (.goto 4, 3) := by decide +kernel
theorem dX12_has_13 : decode cX12_has 13 = .ok (.iconst 0, 1) := by decide +kernel
theorem dX12_has_14 : decode cX12_has 14 = .ok (.ireturn, 1) := by decide +kernel
theorem dX12_isBefore_0 : decode cX12_isBefore 0 = .ok (.iload_n 0, 1) := by decide +kernel
theorem dX12_isBefore_1 : decode cX12_isBefore 1 = .ok (.invokestatic 117, 3) := by decide +kernel
theorem dX12_isBefore_4 : decode cX12_isBefore 4 = .ok (.istore_n 2, 1) := by decide +kernel
theorem dX12_isBefore_5 : decode cX12_isBefore 5 = .ok (.iload_n 1, 1) := by decide +kernel
theorem dX12_isBefore_6 : decode cX12_isBefore 6 = .ok (.invokestatic 117, 3) := by decide +kernel
theorem dX12_isBefore_9 : decode cX12_isBefore 9 = .ok (.istore_n 3, 1) := by decide +kernel
theorem dX12_isBefore_10 : decode cX12_isBefore 10 = .ok (.iload_n 0, 1) := by decide +kernel
theorem dX12_isBefore_11 : decode cX12_isBefore 11 = .ok (.iload_n 1, 1) := by decide +kernel
theorem dX12_isBefore_12 : decode cX12_isBefore 12 = .ok (.ixor, 1) := by decide +kernel
theorem dX12_isBefore_13 : decode cX12_isBefore 13 = .ok (.istore 4, 2) := by decide +kernel
theorem dX12_isBefore_15 : decode cX12_isBefore 15 = .ok (.iload_n 2, 1) := by decide +kernel
theorem dX12_isBefore_16 : decode cX12_isBefore 16 = .ok (.iload_n 3, 1) := by decide +kernel
theorem dX12_isBefore_17 : decode cX12_isBefore 17 = .ok (.if_icmp .eq 16, 3) := by decide +kernel
theorem dX12_isBefore_20 : decode cX12_isBefore 20 = .ok (.iload_n 2, 1) := by decide +kernel
theorem dX12_isBefore_21 : decode cX12_isBefore 21 = .ok (.iload_n 3, 1) := by decide +kernel
theorem dX12_isBefore_22 : decode cX12_isBefore 22 = .ok (.if_icmp .ge 7, 3) := by decide +kernel
theorem dX12_isBefore_25 : decode cX12_isBefore 25 = .ok (.iconst 1, 1) := by decide +kernel
theorem dX12_isBefore_26 : decode cX12_isBefore 26 = .ok (.goto 23, 3) := by decide +kernel
theorem dX12_isBefore_29 : decode cX12_isBefore 29 = .ok (.iconst 0, 1) := by decide +kernel
theorem dX12_isBefore_30 : decode cX12_isBefore 30 = .ok (.goto 19, 3) := by decide +kernel
theorem dX12_isBefore_33 : decode cX12_isBefore 33 = .ok (.iload_n 0, 1) := by decide +kernel
theorem dX12_isBefore_34 : decode cX12_isBefore 34 = .ok (.iload 4, 2) := by decide +kernel
theorem dX12_isBefore_36 : decode cX12_isBefore 36 = .ok (.iand, 1) := by decide +kernel
theorem dX12_isBefore_37 : decode cX12_isBefore 37 = .ok (.iload 4, 2) := by decide +kernel
theorem dX12_isBefore_39 : decode cX12_isBefore 39 = .ok (.ineg, 1) := by decide +kernel
theorem dX12_isBefore_40 : decode cX12_isBefore 40 = .ok (.iand, 1) := by decide +kernel
theorem dX12_isBefore_41 : decode cX12_isBefore 41 = .ok (.ifCond .eq 7, 3) := by decide +kernel
theorem dX12_isBefore_44 : decode cX12_isBefore 44 = .ok (.iconst 1, 1) := by decide +kernel
theorem dX12_isBefore_45 : decode cX12_isBefore 45 = .ok (.goto 4, 3) := by decide +kernel
theorem dX12_isBefore_48 : decode cX12_isBefore 48 = .ok (.iconst 0, 1) := by decide +kernel
theorem dX12_isBefore_49 : decode cX12_isBefore 49 = .ok (.ireturn, 1) := by decide +kernel
theorem dX12_bytesIn_0 : decode cX12_bytesIn 0 = .ok (.iconst 0, 1) := by decide +kernel
theorem dX12_bytesIn_1 : decode cX12_bytesIn 1 = .ok (.istore_n 1, 1) := by decide +kernel
theorem dX12_bytesIn_2 : decode cX12_bytesIn 2 = .ok (.bipush 24, 2) := by decide +kernel
theorem dX12_bytesIn_4 : decode cX12_bytesIn 4 = .ok (.istore_n 2, 1) := by decide +kernel
theorem dX12_bytesIn_5 : decode cX12_bytesIn 5 = .ok (.iload_n 2, 1) := by decide +kernel
theorem dX12_bytesIn_6 : decode cX12_bytesIn 6 = .ok (.ifCond .lt 27, 3) := by decide +kernel
theorem dX12_bytesIn_9 : decode cX12_bytesIn 9 = .ok (.iload_n 1, 1) := by decide +kernel
theorem dX12_bytesIn_10 : decode cX12_bytesIn 10 = .ok (.iload_n 0, 1) := by decide +kernel
theorem dX12_bytesIn_11 : decode cX12_bytesIn 11 = .ok (.iload_n 2, 1) := by decide +kernel
theorem dX12_bytesIn_12 : decode cX12_bytesIn 12 = .ok (.ishr, 1) := by decide +kernel
theorem dX12_bytesIn_13 : decode cX12_bytesIn 13 = .ok (.sipush 255, 3) := by decide +kernel
theorem dX12_bytesIn_16 : decode cX12_bytesIn 16 = .ok (.iand, 1) := by decide +kernel
theorem dX12_bytesIn_17 : decode cX12_bytesIn 17 = .ok (.ifCond .eq 7, 3) := by decide +kernel
theorem dX12_bytesIn_20 : decode cX12_bytesIn 20 = .ok (.iconst 1, 1) := by decide +kernel
theorem dX12_bytesIn_21 : decode cX12_bytesIn 21 = .ok (.goto 4, 3) := by decide +kernel
theorem dX12_bytesIn_24 : decode cX12_bytesIn 24 = .ok (.iconst 0, 1) := by decide +kernel
theorem dX12_bytesIn_25 : decode cX12_bytesIn 25 = .ok (.iadd, 1) := by decide +kernel
theorem dX12_bytesIn_26 : decode cX12_bytesIn 26 = .ok (.istore_n 1, 1) := by decide +kernel
theorem dX12_bytesIn_27 : decode cX12_bytesIn 27 = .ok (.iinc 2 (-8), 3) := by decide +kernel
theorem dX12_bytesIn_30 : decode cX12_bytesIn 30 = .ok (.goto (-25), 3) := by decide +kernel
theorem dX12_bytesIn_33 : decode cX12_bytesIn 33 = .ok (.iload_n 1, 1) := by decide +kernel
theorem dX12_bytesIn_34 : decode cX12_bytesIn 34 = .ok (.ireturn, 1) := by decide +kernel
theorem dX12_put_0 : decode cX12_put 0 = .ok (.bipush 24, 2) := by decide +kernel
theorem dX12_put_2 : decode cX12_put 2 = .ok (.istore_n 2, 1) := by decide +kernel
theorem dX12_put_3 : decode cX12_put 3 = .ok (.iload_n 2, 1) := by decide +kernel
theorem dX12_put_4 : decode cX12_put 4 = .ok (.ifCond .lt 45, 3) := by decide +kernel
theorem dX12_put_7 : decode cX12_put 7 = .ok (.iload_n 1, 1) := by decide +kernel
theorem dX12_put_8 : decode cX12_put 8 = .ok (.iload_n 2, 1) := by decide +kernel
theorem dX12_put_9 : decode cX12_put 9 = .ok (.ishr, 1) := by decide +kernel
theorem dX12_put_10 : decode cX12_put 10 = .ok (.sipush 255, 3) := by decide +kernel
theorem dX12_put_13 : decode cX12_put 13 = .ok (.iand, 1) := by decide +kernel
theorem dX12_put_14 : decode cX12_put 14 = .ok (.ifCond .ne 6, 3) := by decide +kernel
theorem dX12_put_17 : decode cX12_put 17 = .ok (.goto 26, 3) := by decide +kernel
theorem dX12_put_20 : decode cX12_put 20 = .ok (.aload_n 0, 1) := by decide +kernel
theorem dX12_put_21 : decode cX12_put 21 = .ok (.getfield 9, 3) := by decide +kernel
theorem dX12_put_24 : decode cX12_put 24 = .ok (.aload_n 0, 1) := by decide +kernel
theorem dX12_put_25 : decode cX12_put 25 = .ok (.getfield 123, 3) := by decide +kernel
theorem dX12_put_28 : decode cX12_put 28 = .ok (.iload_n 1, 1) := by decide +kernel
theorem dX12_put_29 : decode cX12_put 29 = .ok (.iload_n 2, 1) := by decide +kernel
theorem dX12_put_30 : decode cX12_put 30 = .ok (.ishr, 1) := by decide +kernel
theorem dX12_put_31 : decode cX12_put 31 = .ok (.i2b, 1) := by decide +kernel
theorem dX12_put_32 : decode cX12_put 32 = .ok (.bastore, 1) := by decide +kernel
theorem dX12_put_33 : decode cX12_put 33 = .ok (.aload_n 0, 1) := by decide +kernel
theorem dX12_put_34 : decode cX12_put 34 = .ok (.dup, 1) := by decide +kernel
theorem dX12_put_35 : decode cX12_put 35 = .ok (.getfield 123, 3) := by decide +kernel
theorem dX12_put_38 : decode cX12_put 38 = .ok (.iconst 1, 1) := by decide +kernel
theorem dX12_put_39 : decode cX12_put 39 = .ok (.iadd, 1) := by decide +kernel
theorem dX12_put_40 : decode cX12_put 40 = .ok (.putfield 123, 3) := by decide +kernel
theorem dX12_put_43 : decode cX12_put 43 = .ok (.iinc 2 (-8), 3) := by decide +kernel
theorem dX12_put_46 : decode cX12_put 46 = .ok (.goto (-43), 3) := by decide +kernel
theorem dX12_put_49 : decode cX12_put 49 = .ok (.return_, 1) := by decide +kernel
theorem dX12_feed_0 : decode cX12_feed 0 = .ok (.aload_n 0, 1) := by decide +kernel
theorem dX12_feed_1 : decode cX12_feed 1 = .ok (.iconst 0, 1) := by decide +kernel
theorem dX12_feed_2 : decode cX12_feed 2 = .ok (.putfield 114, 3) := by decide +kernel
theorem dX12_feed_5 : decode cX12_feed 5 = .ok (.aload_n 0, 1) := by decide +kernel
theorem dX12_feed_6 : decode cX12_feed 6 = .ok (.getfield 123, 3) := by decide +kernel
theorem dX12_feed_9 : decode cX12_feed 9 = .ok (.iload_n 1, 1) := by decide +kernel
theorem dX12_feed_10 : decode cX12_feed 10 = .ok (.invokestatic 126, 3) := by decide +kernel
theorem dX12_feed_13 : decode cX12_feed 13 = .ok (.iadd, 1) := by decide +kernel
theorem dX12_feed_14 : decode cX12_feed 14 = .ok (.iload_n 2, 1) := by decide +kernel
theorem dX12_feed_15 : decode cX12_feed 15 = .ok (.invokestatic 126, 3) := by decide +kernel
theorem dX12_feed_18 : decode cX12_feed 18 = .ok (.iadd, 1) := by decide +kernel
theorem dX12_feed_19 : decode cX12_feed 19 = .ok (.iload_n 3, 1) := by decide +kernel
theorem dX12_feed_20 : decode cX12_feed 20 = .ok (.invokestatic 126, 3) := by decide +kernel
theorem dX12_feed_23 : decode cX12_feed 23 = .ok (.iadd, 1) := by decide +kernel
theorem dX12_feed_24 : decode cX12_feed 24 = .ok (.iload 4, 2) := by decide +kernel
theorem dX12_feed_26 : decode cX12_feed 26 = .ok (.invokestatic 126, 3) := by decide +kernel
theorem dX12_feed_29 : decode cX12_feed 29 = .ok (.iadd, 1) := by decide +kernel
theorem dX12_feed_30 : decode cX12_feed 30 = .ok (.iload 5, 2) := by decide +kernel
theorem dX12_feed_32 : decode cX12_feed 32 = .ok (.invokestatic 126, 3) := by decide +kernel
theorem dX12_feed_35 : decode cX12_feed 35 = .ok (.iadd, 1) := by decide +kernel
theorem dX12_feed_36 : decode cX12_feed 36 = .ok (.sipush 160, 3) := by decide +kernel
theorem dX12_feed_39 : decode cX12_feed 39 = .ok (.if_icmp .le 5, 3) := by decide +kernel
theorem dX12_feed_42 : decode cX12_feed 42 = .ok (.iconst (-1), 1) := by decide +kernel
theorem dX12_feed_43 : decode cX12_feed 43 = .ok (.ireturn, 1) := by decide +kernel
theorem dX12_feed_44 : decode cX12_feed 44 = .ok (.aload_n 0, 1) := by decide +kernel
theorem dX12_feed_45 : decode cX12_feed 45 = .ok (.iload_n 1, 1) := by decide +kernel
theorem dX12_feed_46 : decode cX12_feed 46 = .ok (.invokevirtual 129, 3) := by decide +kernel
theorem dX12_feed_49 : decode cX12_feed 49 = .ok (.aload_n 0, 1) := by decide +kernel
theorem dX12_feed_50 : decode cX12_feed 50 = .ok (.iload_n 2, 1) := by decide +kernel
theorem dX12_feed_51 : decode cX12_feed 51 = .ok (.invokevirtual 129, 3) := by decide +kernel
theorem dX12_feed_54 : decode cX12_feed 54 = .ok (.aload_n 0, 1) := by decide +kernel
theorem dX12_feed_55 : decode cX12_feed 55 = .ok (.iload_n 3, 1) := by decide +kernel
theorem dX12_feed_56 : decode cX12_feed 56 = .ok (.invokevirtual 129, 3) := by decide +kernel
theorem dX12_feed_59 : decode cX12_feed 59 = .ok (.aload_n 0, 1) := by decide +kernel
theorem dX12_feed_60 : decode cX12_feed 60 = .ok (.iload 4, 2) := by decide +kernel
theorem dX12_feed_62 : decode cX12_feed 62 = .ok (.invokevirtual 129, 3) := by decide +kernel
theorem dX12_feed_65 : decode cX12_feed 65 = .ok (.aload_n 0, 1) := by decide +kernel
theorem dX12_feed_66 : decode cX12_feed 66 = .ok (.iload 5, 2) := by decide +kernel
theorem dX12_feed_68 : decode cX12_feed 68 = .ok (.invokevirtual 129, 3) := by decide +kernel
theorem dX12_feed_71 : decode cX12_feed 71 = .ok (.aload_n 0, 1) := by decide +kernel
theorem dX12_feed_72 : decode cX12_feed 72 = .ok (.getfield 123, 3) := by decide +kernel
theorem dX12_feed_75 : decode cX12_feed 75 = .ok (.ireturn, 1) := by decide +kernel
theorem dX12_end_0 : decode cX12_end 0 = .ok (.aload_n 0, 1) := by decide +kernel
theorem dX12_end_1 : decode cX12_end 1 = .ok (.iconst 0, 1) := by decide +kernel
theorem dX12_end_2 : decode cX12_end 2 = .ok (.putfield 114, 3) := by decide +kernel
theorem dX12_end_5 : decode cX12_end 5 = .ok (.iload_n 1, 1) := by decide +kernel
theorem dX12_end_6 : decode cX12_end 6 = .ok (.ifCond .lt 11, 3) := by decide +kernel
theorem dX12_end_9 : decode cX12_end 9 = .ok (.iload_n 1, 1) := by decide +kernel
theorem dX12_end_10 : decode cX12_end 10 = .ok (.aload_n 0, 1) := by decide +kernel
theorem dX12_end_11 : decode cX12_end 11 = .ok (.getfield 123, 3) := by decide +kernel
theorem dX12_end_14 : decode cX12_end 14 = .ok (.if_icmp .le 5, 3) := by decide +kernel
theorem dX12_end_17 : decode cX12_end 17 = .ok (.iconst 0, 1) := by decide +kernel
theorem dX12_end_18 : decode cX12_end 18 = .ok (.ireturn, 1) := by decide +kernel
theorem dX12_end_19 : decode cX12_end 19 = .ok (.aload_n 0, 1) := by decide +kernel
theorem dX12_end_20 : decode cX12_end 20 = .ok (.iload_n 1, 1) := by decide +kernel
theorem dX12_end_21 : decode cX12_end 21 = .ok (.putfield 123, 3) := by decide +kernel
theorem dX12_end_24 : decode cX12_end 24 = .ok (.iconst 1, 1) := by decide +kernel
theorem dX12_end_25 : decode cX12_end 25 = .ok (.ireturn, 1) := by decide +kernel
theorem dX12_here_0 : decode cX12_here 0 = .ok (.aload_n 0, 1) := by decide +kernel
theorem dX12_here_1 : decode cX12_here 1 = .ok (.getfield 133, 3) := by decide +kernel
theorem dX12_here_4 : decode cX12_here 4 = .ok (.aload_n 0, 1) := by decide +kernel
theorem dX12_here_5 : decode cX12_here 5 = .ok (.getfield 123, 3) := by decide +kernel
theorem dX12_here_8 : decode cX12_here 8 = .ok (.if_icmp .ge 19, 3) := by decide +kernel
theorem dX12_here_11 : decode cX12_here 11 = .ok (.aload_n 0, 1) := by decide +kernel
theorem dX12_here_12 : decode cX12_here 12 = .ok (.getfield 9, 3) := by decide +kernel
theorem dX12_here_15 : decode cX12_here 15 = .ok (.aload_n 0, 1) := by decide +kernel
theorem dX12_here_16 : decode cX12_here 16 = .ok (.getfield 133, 3) := by decide +kernel
theorem dX12_here_19 : decode cX12_here 19 = .ok (.baload, 1) := by decide +kernel
theorem dX12_here_20 : decode cX12_here 20 = .ok (.sipush 255, 3) := by decide +kernel
theorem dX12_here_23 : decode cX12_here 23 = .ok (.iand, 1) := by decide +kernel
theorem dX12_here_24 : decode cX12_here 24 = .ok (.goto 4, 3) := by decide +kernel
theorem dX12_here_27 : decode cX12_here 27 = .ok (.iconst (-1), 1) := by decide +kernel
theorem dX12_here_28 : decode cX12_here 28 = .ok (.ireturn, 1) := by decide +kernel
theorem dX12_look_0 : decode cX12_look 0 = .ok (.aload_n 0, 1) := by decide +kernel
theorem dX12_look_1 : decode cX12_look 1 = .ok (.invokevirtual 136, 3) := by decide +kernel
theorem dX12_look_4 : decode cX12_look 4 = .ok (.bipush 32, 2) := by decide +kernel
theorem dX12_look_6 : decode cX12_look 6 = .ok (.if_icmp .ne 16, 3) := by decide +kernel
theorem dX12_look_9 : decode cX12_look 9 = .ok (.aload_n 0, 1) := by decide +kernel
theorem dX12_look_10 : decode cX12_look 10 = .ok (.dup, 1) := by decide +kernel
theorem dX12_look_11 : decode cX12_look 11 = .ok (.getfield 133, 3) := by decide +kernel
theorem dX12_look_14 : decode cX12_look 14 = .ok (.iconst 1, 1) := by decide +kernel
theorem dX12_look_15 : decode cX12_look 15 = .ok (.iadd, 1) := by decide +kernel
theorem dX12_look_16 : decode cX12_look 16 = .ok (.putfield 133, 3) := by decide +kernel
theorem dX12_look_19 : decode cX12_look 19 = .ok (.goto (-19), 3) := by decide +kernel
theorem dX12_look_22 : decode cX12_look 22 = .ok (.aload_n 0, 1) := by decide +kernel
theorem dX12_look_23 : decode cX12_look 23 = .ok (.invokevirtual 136, 3) := by decide +kernel
theorem dX12_look_26 : decode cX12_look 26 = .ok (.ireturn, 1) := by decide +kernel
theorem dX12_fails_0 : decode cX12_fails 0 = .ok (.aload_n 0, 1) := by decide +kernel
theorem dX12_fails_1 : decode cX12_fails 1 = .ok (.getfield 140, 3) := by decide +kernel
theorem dX12_fails_4 : decode cX12_fails 4 = .ok (.iconst (-1), 1) := by decide +kernel
theorem dX12_fails_5 : decode cX12_fails 5 = .ok (.if_icmp .ne 11, 3) := by decide +kernel
theorem dX12_fails_8 : decode cX12_fails 8 = .ok (.aload_n 0, 1) := by decide +kernel
theorem dX12_fails_9 : decode cX12_fails 9 = .ok (.aload_n 0, 1) := by decide +kernel
theorem dX12_fails_10 : decode cX12_fails 10 = .ok (.getfield 133, 3) := by decide +kernel
theorem dX12_fails_13 : decode cX12_fails 13 = .ok (.putfield 140, 3) := by decide +kernel
theorem dX12_fails_16 : decode cX12_fails 16 = .ok (.iconst 0, 1) := by decide +kernel
theorem dX12_fails_17 : decode cX12_fails 17 = .ok (.ireturn, 1) := by decide +kernel
theorem dX12_takes_0 : decode cX12_takes 0 = .ok (.aload_n 0, 1) := by decide +kernel
theorem dX12_takes_1 : decode cX12_takes 1 = .ok (.getfield 140, 3) := by decide +kernel
theorem dX12_takes_4 : decode cX12_takes 4 = .ok (.iconst (-1), 1) := by decide +kernel
theorem dX12_takes_5 : decode cX12_takes 5 = .ok (.if_icmp .ne 11, 3) := by decide +kernel
theorem dX12_takes_8 : decode cX12_takes 8 = .ok (.aload_n 0, 1) := by decide +kernel
theorem dX12_takes_9 : decode cX12_takes 9 = .ok (.invokevirtual 143, 3) := by decide +kernel
theorem dX12_takes_12 : decode cX12_takes 12 = .ok (.iload_n 1, 1) := by decide +kernel
theorem dX12_takes_13 : decode cX12_takes 13 = .ok (.if_icmp .eq 8, 3) := by decide +kernel
theorem dX12_takes_16 : decode cX12_takes 16 = .ok (.aload_n 0, 1) := by decide +kernel
theorem dX12_takes_17 : decode cX12_takes 17 = .ok (.invokevirtual 146, 3) := by decide +kernel
theorem dX12_takes_20 : decode cX12_takes 20 = .ok (.ireturn, 1) := by decide +kernel
theorem dX12_takes_21 : decode cX12_takes 21 = .ok (.aload_n 0, 1) := by decide +kernel
theorem dX12_takes_22 : decode cX12_takes 22 = .ok (.dup, 1) := by decide +kernel
theorem dX12_takes_23 : decode cX12_takes 23 = .ok (.getfield 133, 3) := by decide +kernel
theorem dX12_takes_26 : decode cX12_takes 26 = .ok (.iconst 1, 1) := by decide +kernel
theorem dX12_takes_27 : decode cX12_takes 27 = .ok (.iadd, 1) := by decide +kernel
theorem dX12_takes_28 : decode cX12_takes 28 = .ok (.putfield 133, 3) := by decide +kernel
theorem dX12_takes_31 : decode cX12_takes 31 = .ok (.iconst 1, 1) := by decide +kernel
theorem dX12_takes_32 : decode cX12_takes 32 = .ok (.ireturn, 1) := by decide +kernel
theorem dX12_goesIn_0 : decode cX12_goesIn 0 = .ok (.aload_n 0, 1) := by decide +kernel
theorem dX12_goesIn_1 : decode cX12_goesIn 1 = .ok (.getfield 150, 3) := by decide +kernel
theorem dX12_goesIn_4 : decode cX12_goesIn 4 = .ok (.bipush 6, 2) := by decide +kernel
theorem dX12_goesIn_6 : decode cX12_goesIn 6 = .ok (.if_icmp .ne 8, 3) := by decide +kernel
theorem dX12_goesIn_9 : decode cX12_goesIn 9 = .ok (.aload_n 0, 1) := by decide +kernel
theorem dX12_goesIn_10 : decode cX12_goesIn 10 = .ok (.invokevirtual 146, 3) := by decide +kernel
theorem dX12_goesIn_13 : decode cX12_goesIn 13 = .ok (.ireturn, 1) := by decide +kernel
theorem dX12_goesIn_14 : decode cX12_goesIn 14 = .ok (.aload_n 0, 1) := by decide +kernel
theorem dX12_goesIn_15 : decode cX12_goesIn 15 = .ok (.dup, 1) := by decide +kernel
theorem dX12_goesIn_16 : decode cX12_goesIn 16 = .ok (.getfield 150, 3) := by decide +kernel
theorem dX12_goesIn_19 : decode cX12_goesIn 19 = .ok (.iconst 1, 1) := by decide +kernel
theorem dX12_goesIn_20 : decode cX12_goesIn 20 = .ok (.iadd, 1) := by decide +kernel
theorem dX12_goesIn_21 : decode cX12_goesIn 21 = .ok (.putfield 150, 3) := by decide +kernel
theorem dX12_goesIn_24 : decode cX12_goesIn 24 = .ok (.aload_n 0, 1) := by decide +kernel
theorem dX12_goesIn_25 : decode cX12_goesIn 25 = .ok (.dup, 1) := by decide +kernel
theorem dX12_goesIn_26 : decode cX12_goesIn 26 = .ok (.getfield 133, 3) := by decide +kernel
theorem dX12_goesIn_29 : decode cX12_goesIn 29 = .ok (.iconst 1, 1) := by decide +kernel
theorem dX12_goesIn_30 : decode cX12_goesIn 30 = .ok (.iadd, 1) := by decide +kernel
theorem dX12_goesIn_31 : decode cX12_goesIn 31 = .ok (.putfield 133, 3) := by decide +kernel
theorem dX12_goesIn_34 : decode cX12_goesIn 34 = .ok (.iconst 1, 1) := by decide +kernel
theorem dX12_goesIn_35 : decode cX12_goesIn 35 = .ok (.ireturn, 1) := by decide +kernel
theorem dX12_isFact_0 : decode cX12_isFact 0 = .ok (.iload_n 1, 1) := by decide +kernel
theorem dX12_isFact_1 : decode cX12_isFact 1 = .ok (.bipush 97, 2) := by decide +kernel
theorem dX12_isFact_3 : decode cX12_isFact 3 = .ok (.if_icmp .lt 18, 3) := by decide +kernel
theorem dX12_isFact_6 : decode cX12_isFact 6 = .ok (.iload_n 1, 1) := by decide +kernel
theorem dX12_isFact_7 : decode cX12_isFact 7 = .ok (.bipush 97, 2) := by decide +kernel
theorem dX12_isFact_9 : decode cX12_isFact 9 = .ok (.aload_n 0, 1) := by decide +kernel
theorem dX12_isFact_10 : decode cX12_isFact 10 = .ok (.getfield 107, 3) := by decide +kernel
theorem dX12_isFact_13 : decode cX12_isFact 13 = .ok (.iadd, 1) := by decide +kernel
theorem dX12_isFact_14 : decode cX12_isFact 14 = .ok (.if_icmp .ge 7, 3) := by decide +kernel
theorem dX12_isFact_17 : decode cX12_isFact 17 = .ok (.iconst 1, 1) := by decide +kernel
theorem dX12_isFact_18 : decode cX12_isFact 18 = .ok (.goto 4, 3) := by decide +kernel
theorem dX12_isFact_21 : decode cX12_isFact 21 = .ok (.iconst 0, 1) := by decide +kernel
theorem dX12_isFact_22 : decode cX12_isFact 22 = .ok (.ireturn, 1) := by decide +kernel
theorem dX12_some_0 : decode cX12_some 0 = .ok (.aload_n 0, 1) := by decide +kernel
theorem dX12_some_1 : decode cX12_some 1 = .ok (.invokevirtual 136, 3) := by decide +kernel
theorem dX12_some_4 : decode cX12_some 4 = .ok (.bipush 48, 2) := by decide +kernel
theorem dX12_some_6 : decode cX12_some 6 = .ok (.isub, 1) := by decide +kernel
theorem dX12_some_7 : decode cX12_some 7 = .ok (.istore_n 1, 1) := by decide +kernel
theorem dX12_some_8 : decode cX12_some 8 = .ok (.aload_n 0, 1) := by decide +kernel
theorem dX12_some_9 : decode cX12_some 9 = .ok (.dup, 1) := by decide +kernel
theorem dX12_some_10 : decode cX12_some 10 = .ok (.getfield 133, 3) := by decide +kernel
theorem dX12_some_13 : decode cX12_some 13 = .ok (.iconst 1, 1) := by decide +kernel
theorem dX12_some_14 : decode cX12_some 14 = .ok (.iadd, 1) := by decide +kernel
theorem dX12_some_15 : decode cX12_some 15 = .ok (.putfield 133, 3) := by decide +kernel
theorem dX12_some_18 : decode cX12_some 18 = .ok (.aload_n 0, 1) := by decide +kernel
theorem dX12_some_19 : decode cX12_some 19 = .ok (.invokevirtual 136, 3) := by decide +kernel
theorem dX12_some_22 : decode cX12_some 22 = .ok (.bipush 35, 2) := by decide +kernel
theorem dX12_some_24 : decode cX12_some 24 = .ok (.if_icmp .eq 8, 3) := by decide +kernel
theorem dX12_some_27 : decode cX12_some 27 = .ok (.aload_n 0, 1) := by decide +kernel
theorem dX12_some_28 : decode cX12_some 28 = .ok (.invokevirtual 146, 3) := by decide +kernel
theorem dX12_some_31 : decode cX12_some 31 = .ok (.ireturn, 1) := by decide +kernel
theorem dX12_some_32 : decode cX12_some 32 = .ok (.aload_n 0, 1) := by decide +kernel
theorem dX12_some_33 : decode cX12_some 33 = .ok (.dup, 1) := by decide +kernel
theorem dX12_some_34 : decode cX12_some 34 = .ok (.getfield 133, 3) := by decide +kernel
theorem dX12_some_37 : decode cX12_some 37 = .ok (.iconst 1, 1) := by decide +kernel
theorem dX12_some_38 : decode cX12_some 38 = .ok (.iadd, 1) := by decide +kernel
theorem dX12_some_39 : decode cX12_some 39 = .ok (.putfield 133, 3) := by decide +kernel
theorem dX12_some_42 : decode cX12_some 42 = .ok (.iconst 0, 1) := by decide +kernel
theorem dX12_some_43 : decode cX12_some 43 = .ok (.istore_n 2, 1) := by decide +kernel
theorem dX12_some_44 : decode cX12_some 44 = .ok (.aload_n 0, 1) := by decide +kernel
theorem dX12_some_45 : decode cX12_some 45 = .ok (.aload_n 0, 1) := by decide +kernel
theorem dX12_some_46 : decode cX12_some 46 = .ok (.invokevirtual 143, 3) := by decide +kernel
theorem dX12_some_49 : decode cX12_some 49 = .ok (.invokevirtual 153, 3) := by decide +kernel
theorem dX12_some_52 : decode cX12_some 52 = .ok (.ifCond .eq 47, 3) := by decide +kernel
theorem dX12_some_55 : decode cX12_some 55 = .ok (.iload_n 2, 1) := by decide +kernel
theorem dX12_some_56 : decode cX12_some 56 = .ok (.aload_n 0, 1) := by decide +kernel
theorem dX12_some_57 : decode cX12_some 57 = .ok (.invokevirtual 136, 3) := by decide +kernel
theorem dX12_some_60 : decode cX12_some 60 = .ok (.bipush 97, 2) := by decide +kernel
theorem dX12_some_62 : decode cX12_some 62 = .ok (.isub, 1) := by decide +kernel
theorem dX12_some_63 : decode cX12_some 63 = .ok (.invokestatic 157, 3) := by decide +kernel
theorem dX12_some_66 : decode cX12_some 66 = .ok (.ifCond .eq 8, 3) := by decide +kernel
theorem dX12_some_69 : decode cX12_some 69 = .ok (.aload_n 0, 1) := by decide +kernel
theorem dX12_some_70 : decode cX12_some 70 = .ok (.invokevirtual 146, 3) := by decide +kernel
theorem dX12_some_73 : decode cX12_some 73 = .ok (.ireturn, 1) := by decide +kernel
theorem dX12_some_74 : decode cX12_some 74 = .ok (.iload_n 2, 1) := by decide +kernel
theorem dX12_some_75 : decode cX12_some 75 = .ok (.iconst 1, 1) := by decide +kernel
theorem dX12_some_76 : decode cX12_some 76 = .ok (.aload_n 0, 1) := by decide +kernel
theorem dX12_some_77 : decode cX12_some 77 = .ok (.invokevirtual 136, 3) := by decide +kernel
theorem dX12_some_80 : decode cX12_some 80 = .ok (.bipush 97, 2) := by decide +kernel
theorem dX12_some_82 : decode cX12_some 82 = .ok (.isub, 1) := by decide +kernel
theorem dX12_some_83 : decode cX12_some 83 = .ok (.ishl, 1) := by decide +kernel
theorem dX12_some_84 : decode cX12_some 84 = .ok (.ior, 1) := by decide +kernel
theorem dX12_some_85 : decode cX12_some 85 = .ok (.istore_n 2, 1) := by decide +kernel
theorem dX12_some_86 : decode cX12_some 86 = .ok (.aload_n 0, 1) := by decide +kernel
theorem dX12_some_87 : decode cX12_some 87 = .ok (.dup, 1) := by decide +kernel
theorem dX12_some_88 : decode cX12_some 88 = .ok (.getfield 133, 3) := by decide +kernel
theorem dX12_some_91 : decode cX12_some 91 = .ok (.iconst 1, 1) := by decide +kernel
theorem dX12_some_92 : decode cX12_some 92 = .ok (.iadd, 1) := by decide +kernel
theorem dX12_some_93 : decode cX12_some 93 = .ok (.putfield 133, 3) := by decide +kernel
theorem dX12_some_96 : decode cX12_some 96 = .ok (.goto (-52), 3) := by decide +kernel
theorem dX12_some_99 : decode cX12_some 99 = .ok (.iload_n 2, 1) := by decide +kernel
theorem dX12_some_100 : decode cX12_some 100 = .ok (.ifCond .ne 8, 3) := by decide +kernel
theorem dX12_some_103 : decode cX12_some 103 = .ok (.aload_n 0, 1) := by decide +kernel
theorem dX12_some_104 : decode cX12_some 104 = .ok (.invokevirtual 146, 3) := by decide +kernel
theorem dX12_some_107 : decode cX12_some 107 = .ok (.ireturn, 1) := by decide +kernel
theorem dX12_some_108 : decode cX12_some 108 = .ok (.iload_n 2, 1) := by decide +kernel
theorem dX12_some_109 : decode cX12_some 109 = .ok (.aload_n 0, 1) := by decide +kernel
theorem dX12_some_110 : decode cX12_some 110 = .ok (.getfield 161, 3) := by decide +kernel
theorem dX12_some_113 : decode cX12_some 113 = .ok (.iand, 1) := by decide +kernel
theorem dX12_some_114 : decode cX12_some 114 = .ok (.invokestatic 117, 3) := by decide +kernel
theorem dX12_some_117 : decode cX12_some 117 = .ok (.iload_n 1, 1) := by decide +kernel
theorem dX12_some_118 : decode cX12_some 118 = .ok (.if_icmp .lt 7, 3) := by decide +kernel
theorem dX12_some_121 : decode cX12_some 121 = .ok (.iconst 1, 1) := by decide +kernel
theorem dX12_some_122 : decode cX12_some 122 = .ok (.goto 4, 3) := by decide +kernel
theorem dX12_some_125 : decode cX12_some 125 = .ok (.iconst 0, 1) := by decide +kernel
theorem dX12_some_126 : decode cX12_some 126 = .ok (.ireturn, 1) := by decide +kernel
theorem dX12_unit_0 : decode cX12_unit 0 = .ok (.aload_n 0, 1) := by decide +kernel
theorem dX12_unit_1 : decode cX12_unit 1 = .ok (.invokevirtual 143, 3) := by decide +kernel
theorem dX12_unit_4 : decode cX12_unit 4 = .ok (.istore_n 1, 1) := by decide +kernel
theorem dX12_unit_5 : decode cX12_unit 5 = .ok (.iload_n 1, 1) := by decide +kernel
theorem dX12_unit_6 : decode cX12_unit 6 = .ok (.bipush 33, 2) := by decide +kernel
theorem dX12_unit_8 : decode cX12_unit 8 = .ok (.if_icmp .ne 37, 3) := by decide +kernel
theorem dX12_unit_11 : decode cX12_unit 11 = .ok (.aload_n 0, 1) := by decide +kernel
theorem dX12_unit_12 : decode cX12_unit 12 = .ok (.invokevirtual 164, 3) := by decide +kernel
theorem dX12_unit_15 : decode cX12_unit 15 = .ok (.ifCond .ne 5, 3) := by decide +kernel
theorem dX12_unit_18 : decode cX12_unit 18 = .ok (.iconst 0, 1) := by decide +kernel
theorem dX12_unit_19 : decode cX12_unit 19 = .ok (.ireturn, 1) := by decide +kernel
theorem dX12_unit_20 : decode cX12_unit 20 = .ok (.aload_n 0, 1) := by decide +kernel
theorem dX12_unit_21 : decode cX12_unit 21 = .ok (.invokevirtual 167, 3) := by decide +kernel
theorem dX12_unit_24 : decode cX12_unit 24 = .ok (.istore_n 2, 1) := by decide +kernel
theorem dX12_unit_25 : decode cX12_unit 25 = .ok (.aload_n 0, 1) := by decide +kernel
theorem dX12_unit_26 : decode cX12_unit 26 = .ok (.dup, 1) := by decide +kernel
theorem dX12_unit_27 : decode cX12_unit 27 = .ok (.getfield 150, 3) := by decide +kernel
theorem dX12_unit_30 : decode cX12_unit 30 = .ok (.iconst 1, 1) := by decide +kernel
theorem dX12_unit_31 : decode cX12_unit 31 = .ok (.isub, 1) := by decide +kernel
theorem dX12_unit_32 : decode cX12_unit 32 = .ok (.putfield 150, 3) := by decide +kernel
theorem dX12_unit_35 : decode cX12_unit 35 = .ok (.iload_n 2, 1) := by decide +kernel
theorem dX12_unit_36 : decode cX12_unit 36 = .ok (.ifCond .ne 7, 3) := by decide +kernel
theorem dX12_unit_39 : decode cX12_unit 39 = .ok (.iconst 1, 1) := by decide +kernel
theorem dX12_unit_40 : decode cX12_unit 40 = .ok (.goto 4, 3) := by decide +kernel
theorem dX12_unit_43 : decode cX12_unit 43 = .ok (.iconst 0, 1) := by decide +kernel
theorem dX12_unit_44 : decode cX12_unit 44 = .ok (.ireturn, 1) := by decide +kernel
theorem dX12_unit_45 : decode cX12_unit 45 = .ok (.iload_n 1, 1) := by decide +kernel
theorem dX12_unit_46 : decode cX12_unit 46 = .ok (.bipush 40, 2) := by decide +kernel
theorem dX12_unit_48 : decode cX12_unit 48 = .ok (.if_icmp .ne 40, 3) := by decide +kernel
theorem dX12_unit_51 : decode cX12_unit 51 = .ok (.aload_n 0, 1) := by decide +kernel
theorem dX12_unit_52 : decode cX12_unit 52 = .ok (.invokevirtual 164, 3) := by decide +kernel
theorem dX12_unit_55 : decode cX12_unit 55 = .ok (.ifCond .ne 5, 3) := by decide +kernel
theorem dX12_unit_58 : decode cX12_unit 58 = .ok (.iconst 0, 1) := by decide +kernel
theorem dX12_unit_59 : decode cX12_unit 59 = .ok (.ireturn, 1) := by decide +kernel
theorem dX12_unit_60 : decode cX12_unit 60 = .ok (.aload_n 0, 1) := by decide +kernel
theorem dX12_unit_61 : decode cX12_unit 61 = .ok (.invokevirtual 170, 3) := by decide +kernel
theorem dX12_unit_64 : decode cX12_unit 64 = .ok (.istore_n 2, 1) := by decide +kernel
theorem dX12_unit_65 : decode cX12_unit 65 = .ok (.aload_n 0, 1) := by decide +kernel
theorem dX12_unit_66 : decode cX12_unit 66 = .ok (.bipush 41, 2) := by decide +kernel
theorem dX12_unit_68 : decode cX12_unit 68 = .ok (.invokevirtual 173, 3) := by decide +kernel
theorem dX12_unit_71 : decode cX12_unit 71 = .ok (.ifCond .ne 5, 3) := by decide +kernel
theorem dX12_unit_74 : decode cX12_unit 74 = .ok (.iconst 0, 1) := by decide +kernel
theorem dX12_unit_75 : decode cX12_unit 75 = .ok (.ireturn, 1) := by decide +kernel
theorem dX12_unit_76 : decode cX12_unit 76 = .ok (.aload_n 0, 1) := by decide +kernel
theorem dX12_unit_77 : decode cX12_unit 77 = .ok (.dup, 1) := by decide +kernel
theorem dX12_unit_78 : decode cX12_unit 78 = .ok (.getfield 150, 3) := by decide +kernel
theorem dX12_unit_81 : decode cX12_unit 81 = .ok (.iconst 1, 1) := by decide +kernel
theorem dX12_unit_82 : decode cX12_unit 82 = .ok (.isub, 1) := by decide +kernel
theorem dX12_unit_83 : decode cX12_unit 83 = .ok (.putfield 150, 3) := by decide +kernel
theorem dX12_unit_86 : decode cX12_unit 86 = .ok (.iload_n 2, 1) := by decide +kernel
theorem dX12_unit_87 : decode cX12_unit 87 = .ok (.ireturn, 1) := by decide +kernel
theorem dX12_unit_88 : decode cX12_unit 88 = .ok (.aload_n 0, 1) := by decide +kernel
theorem dX12_unit_89 : decode cX12_unit 89 = .ok (.iload_n 1, 1) := by decide +kernel
theorem dX12_unit_90 : decode cX12_unit 90 = .ok (.invokevirtual 153, 3) := by decide +kernel
theorem dX12_unit_93 : decode cX12_unit 93 = .ok (.ifCond .eq 25, 3) := by decide +kernel
theorem dX12_unit_96 : decode cX12_unit 96 = .ok (.aload_n 0, 1) := by decide +kernel
theorem dX12_unit_97 : decode cX12_unit 97 = .ok (.dup, 1) := by decide +kernel
theorem dX12_unit_98 : decode cX12_unit 98 = .ok (.getfield 133, 3) := by decide +kernel
theorem dX12_unit_101 : decode cX12_unit 101 = .ok (.iconst 1, 1) := by decide +kernel
theorem dX12_unit_102 : decode cX12_unit 102 = .ok (.iadd, 1) := by decide +kernel
theorem dX12_unit_103 : decode cX12_unit 103 = .ok (.putfield 133, 3) := by decide +kernel
theorem dX12_unit_106 : decode cX12_unit 106 = .ok (.aload_n 0, 1) := by decide +kernel
theorem dX12_unit_107 : decode cX12_unit 107 = .ok (.getfield 161, 3) := by decide +kernel
theorem dX12_unit_110 : decode cX12_unit 110 = .ok (.iload_n 1, 1) := by decide +kernel
theorem dX12_unit_111 : decode cX12_unit 111 = .ok (.bipush 97, 2) := by decide +kernel
theorem dX12_unit_113 : decode cX12_unit 113 = .ok (.isub, 1) := by decide +kernel
theorem dX12_unit_114 : decode cX12_unit 114 = .ok (.invokestatic 157, 3) := by decide +kernel
theorem dX12_unit_117 : decode cX12_unit 117 = .ok (.ireturn, 1) := by decide +kernel
theorem dX12_unit_118 : decode cX12_unit 118 = .ok (.iload_n 1, 1) := by decide +kernel
theorem dX12_unit_119 : decode cX12_unit 119 = .ok (.bipush 49, 2) := by decide +kernel
theorem dX12_unit_121 : decode cX12_unit 121 = .ok (.if_icmp .lt 14, 3) := by decide +kernel
theorem dX12_unit_124 : decode cX12_unit 124 = .ok (.iload_n 1, 1) := by decide +kernel
theorem dX12_unit_125 : decode cX12_unit 125 = .ok (.bipush 57, 2) := by decide +kernel
theorem dX12_unit_127 : decode cX12_unit 127 = .ok (.if_icmp .gt 8, 3) := by decide +kernel
theorem dX12_unit_130 : decode cX12_unit 130 = .ok (.aload_n 0, 1) := by decide +kernel
theorem dX12_unit_131 : decode cX12_unit 131 = .ok (.invokevirtual 176, 3) := by decide +kernel
theorem dX12_unit_134 : decode cX12_unit 134 = .ok (.ireturn, 1) := by decide +kernel
theorem dX12_unit_135 : decode cX12_unit 135 = .ok (.aload_n 0, 1) := by decide +kernel
theorem dX12_unit_136 : decode cX12_unit 136 = .ok (.invokevirtual 146, 3) := by decide +kernel
theorem dX12_unit_139 : decode cX12_unit 139 = .ok (.ireturn, 1) := by decide +kernel
theorem dX12_part_0 : decode cX12_part 0 = .ok (.aload_n 0, 1) := by decide +kernel
theorem dX12_part_1 : decode cX12_part 1 = .ok (.invokevirtual 167, 3) := by decide +kernel
theorem dX12_part_4 : decode cX12_part 4 = .ok (.istore_n 1, 1) := by decide +kernel
theorem dX12_part_5 : decode cX12_part 5 = .ok (.aload_n 0, 1) := by decide +kernel
theorem dX12_part_6 : decode cX12_part 6 = .ok (.getfield 140, 3) := by decide +kernel
theorem dX12_part_9 : decode cX12_part 9 = .ok (.iconst (-1), 1) := by decide +kernel
theorem dX12_part_10 : decode cX12_part 10 = .ok (.if_icmp .ne 44, 3) := by decide +kernel
theorem dX12_part_13 : decode cX12_part 13 = .ok (.aload_n 0, 1) := by decide +kernel
theorem dX12_part_14 : decode cX12_part 14 = .ok (.invokevirtual 143, 3) := by decide +kernel
theorem dX12_part_17 : decode cX12_part 17 = .ok (.bipush 38, 2) := by decide +kernel
theorem dX12_part_19 : decode cX12_part 19 = .ok (.if_icmp .ne 35, 3) := by decide +kernel
theorem dX12_part_22 : decode cX12_part 22 = .ok (.aload_n 0, 1) := by decide +kernel
theorem dX12_part_23 : decode cX12_part 23 = .ok (.dup, 1) := by decide +kernel
theorem dX12_part_24 : decode cX12_part 24 = .ok (.getfield 133, 3) := by decide +kernel
theorem dX12_part_27 : decode cX12_part 27 = .ok (.iconst 1, 1) := by decide +kernel
theorem dX12_part_28 : decode cX12_part 28 = .ok (.iadd, 1) := by decide +kernel
theorem dX12_part_29 : decode cX12_part 29 = .ok (.putfield 133, 3) := by decide +kernel
theorem dX12_part_32 : decode cX12_part 32 = .ok (.aload_n 0, 1) := by decide +kernel
theorem dX12_part_33 : decode cX12_part 33 = .ok (.invokevirtual 167, 3) := by decide +kernel
theorem dX12_part_36 : decode cX12_part 36 = .ok (.istore_n 2, 1) := by decide +kernel
theorem dX12_part_37 : decode cX12_part 37 = .ok (.iload_n 1, 1) := by decide +kernel
theorem dX12_part_38 : decode cX12_part 38 = .ok (.ifCond .eq 11, 3) := by decide +kernel
theorem dX12_part_41 : decode cX12_part 41 = .ok (.iload_n 2, 1) := by decide +kernel
theorem dX12_part_42 : decode cX12_part 42 = .ok (.ifCond .eq 7, 3) := by decide +kernel
theorem dX12_part_45 : decode cX12_part 45 = .ok (.iconst 1, 1) := by decide +kernel
theorem dX12_part_46 : decode cX12_part 46 = .ok (.goto 4, 3) := by decide +kernel
theorem dX12_part_49 : decode cX12_part 49 = .ok (.iconst 0, 1) := by decide +kernel
theorem dX12_part_50 : decode cX12_part 50 = .ok (.istore_n 1, 1) := by decide +kernel
theorem dX12_part_51 : decode cX12_part 51 = .ok (.goto (-46), 3) := by decide +kernel
theorem dX12_part_54 : decode cX12_part 54 = .ok (.iload_n 1, 1) := by decide +kernel
theorem dX12_part_55 : decode cX12_part 55 = .ok (.ireturn, 1) := by decide +kernel
theorem dX12_condition_0 : decode cX12_condition 0 = .ok (.aload_n 0, 1) := by decide +kernel
theorem dX12_condition_1 : decode cX12_condition 1 = .ok (.invokevirtual 179, 3) := by decide +kernel
theorem dX12_condition_4 : decode cX12_condition 4 = .ok (.istore_n 1, 1) := by decide +kernel
theorem dX12_condition_5 : decode cX12_condition 5 = .ok (.aload_n 0, 1) := by decide +kernel
theorem dX12_condition_6 : decode cX12_condition 6 = .ok (.getfield 140, 3) := by decide +kernel
theorem dX12_condition_9 : decode cX12_condition 9 = .ok (.iconst (-1), 1) := by decide +kernel
theorem dX12_condition_10 : decode cX12_condition 10 = .ok (.if_icmp .ne 44, 3) := by decide +kernel
theorem dX12_condition_13 : decode cX12_condition 13 = .ok (.aload_n 0, 1) := by decide +kernel
theorem dX12_condition_14 : decode cX12_condition 14 = .ok (.invokevirtual 143, 3) := by decide +kernel
theorem dX12_condition_17 : decode cX12_condition 17 = .ok (.bipush 124, 2) := by decide +kernel
theorem dX12_condition_19 : decode cX12_condition 19 = .ok (.if_icmp .ne 35, 3) := by decide +kernel
theorem dX12_condition_22 : decode cX12_condition 22 = .ok (.aload_n 0, 1) := by decide +kernel
theorem dX12_condition_23 : decode cX12_condition 23 = .ok (.dup, 1) := by decide +kernel
theorem dX12_condition_24 : decode cX12_condition 24 = .ok (.getfield 133, 3) := by decide +kernel
theorem dX12_condition_27 : decode cX12_condition 27 = .ok (.iconst 1, 1) := by decide +kernel
theorem dX12_condition_28 : decode cX12_condition 28 = .ok (.iadd, 1) := by decide +kernel
theorem dX12_condition_29 : decode cX12_condition 29 = .ok (.putfield 133, 3) := by decide +kernel
theorem dX12_condition_32 : decode cX12_condition 32 = .ok (.aload_n 0, 1) := by decide +kernel
theorem dX12_condition_33 : decode cX12_condition 33 = .ok (.invokevirtual 179, 3) := by decide +kernel
theorem dX12_condition_36 : decode cX12_condition 36 = .ok (.istore_n 2, 1) := by decide +kernel
theorem dX12_condition_37 : decode cX12_condition 37 = .ok (.iload_n 1, 1) := by decide +kernel
theorem dX12_condition_38 : decode cX12_condition 38 = .ok (.ifCond .ne 7, 3) := by decide +kernel
theorem dX12_condition_41 : decode cX12_condition 41 = .ok (.iload_n 2, 1) := by decide +kernel
theorem dX12_condition_42 : decode cX12_condition 42 = .ok (.ifCond .eq 7, 3) := by decide +kernel
theorem dX12_condition_45 : decode cX12_condition 45 = .ok (.iconst 1, 1) := by decide +kernel
theorem dX12_condition_46 : decode cX12_condition 46 = .ok (.goto 4, 3) := by decide +kernel
theorem dX12_condition_49 : decode cX12_condition 49 = .ok (.iconst 0, 1) := by decide +kernel
theorem dX12_condition_50 : decode cX12_condition 50 = .ok (.istore_n 1, 1) := by decide +kernel
theorem dX12_condition_51 : decode cX12_condition 51 = .ok (.goto (-46), 3) := by decide +kernel
theorem dX12_condition_54 : decode cX12_condition 54 = .ok (.iload_n 1, 1) := by decide +kernel
theorem dX12_condition_55 : decode cX12_condition 55 = .ok (.ireturn, 1) := by decide +kernel
theorem dX12_begin_0 : decode cX12_begin 0 = .ok (.aload_n 0, 1) := by decide +kernel
theorem dX12_begin_1 : decode cX12_begin 1 = .ok (.iconst 0, 1) := by decide +kernel
theorem dX12_begin_2 : decode cX12_begin 2 = .ok (.putfield 133, 3) := by decide +kernel
theorem dX12_begin_5 : decode cX12_begin 5 = .ok (.aload_n 0, 1) := by decide +kernel
theorem dX12_begin_6 : decode cX12_begin 6 = .ok (.iconst (-1), 1) := by decide +kernel
theorem dX12_begin_7 : decode cX12_begin 7 = .ok (.putfield 140, 3) := by decide +kernel
theorem dX12_begin_10 : decode cX12_begin 10 = .ok (.aload_n 0, 1) := by decide +kernel
theorem dX12_begin_11 : decode cX12_begin 11 = .ok (.iconst 0, 1) := by decide +kernel
theorem dX12_begin_12 : decode cX12_begin 12 = .ok (.putfield 150, 3) := by decide +kernel
theorem dX12_begin_15 : decode cX12_begin 15 = .ok (.aload_n 0, 1) := by decide +kernel
theorem dX12_begin_16 : decode cX12_begin 16 = .ok (.iload_n 1, 1) := by decide +kernel
theorem dX12_begin_17 : decode cX12_begin 17 = .ok (.putfield 161, 3) := by decide +kernel
theorem dX12_begin_20 : decode cX12_begin 20 = .ok (.return_, 1) := by decide +kernel
theorem dX12_readLaw_0 : decode cX12_readLaw 0 = .ok (.aload_n 0, 1) := by decide +kernel
theorem dX12_readLaw_1 : decode cX12_readLaw 1 = .ok (.iload_n 1, 1) := by decide +kernel
theorem dX12_readLaw_2 : decode cX12_readLaw 2 = .ok (.invokevirtual 182, 3) := by decide +kernel
theorem dX12_readLaw_5 : decode cX12_readLaw 5 = .ok (.aload_n 0, 1) := by decide +kernel
theorem dX12_readLaw_6 : decode cX12_readLaw 6 = .ok (.iconst 0, 1) := by decide +kernel
theorem dX12_readLaw_7 : decode cX12_readLaw 7 = .ok (.putfield 185, 3) := by decide +kernel
theorem dX12_readLaw_10 : decode cX12_readLaw 10 = .ok (.aload_n 0, 1) := by decide +kernel
theorem dX12_readLaw_11 : decode cX12_readLaw 11 = .ok (.iconst 0, 1) := by decide +kernel
theorem dX12_readLaw_12 : decode cX12_readLaw 12 = .ok (.putfield 188, 3) := by decide +kernel
theorem dX12_readLaw_15 : decode cX12_readLaw 15 = .ok (.iconst 1, 1) := by decide +kernel
theorem dX12_readLaw_16 : decode cX12_readLaw 16 = .ok (.istore_n 2, 1) := by decide +kernel
theorem dX12_readLaw_17 : decode cX12_readLaw 17 = .ok (.iload_n 2, 1) := by decide +kernel
theorem dX12_readLaw_18 : decode cX12_readLaw 18 = .ok (.ifCond .eq 200, 3) := by decide +kernel
theorem dX12_readLaw_21 : decode cX12_readLaw 21 = .ok (.aload_n 0, 1) := by decide +kernel
theorem dX12_readLaw_22 : decode cX12_readLaw 22 = .ok (.invokevirtual 143, 3) := by decide +kernel
theorem dX12_readLaw_25 : decode cX12_readLaw 25 = .ok (.istore_n 3, 1) := by decide +kernel
theorem dX12_readLaw_26 : decode cX12_readLaw 26 = .ok (.iload_n 3, 1) := by decide +kernel
theorem dX12_readLaw_27 : decode cX12_readLaw 27 = .ok (.bipush 48, 2) := by decide +kernel
theorem dX12_readLaw_29 : decode cX12_readLaw 29 = .ok (.if_icmp .lt 9, 3) := by decide +kernel
theorem dX12_readLaw_32 : decode cX12_readLaw 32 = .ok (.iload_n 3, 1) := by decide +kernel
theorem dX12_readLaw_33 : decode cX12_readLaw 33 = .ok (.bipush 53, 2) := by decide +kernel
theorem dX12_readLaw_35 : decode cX12_readLaw 35 = .ok (.if_icmp .le 9, 3) := by decide +kernel
theorem dX12_readLaw_38 : decode cX12_readLaw 38 = .ok (.aload_n 0, 1) := by decide +kernel
theorem dX12_readLaw_39 : decode cX12_readLaw 39 = .ok (.invokevirtual 146, 3) := by decide +kernel
theorem dX12_readLaw_42 : decode cX12_readLaw 42 = .ok (.pop, 1) := by decide +kernel
theorem dX12_readLaw_43 : decode cX12_readLaw 43 = .ok (.return_, 1) := by decide +kernel
theorem dX12_readLaw_44 : decode cX12_readLaw 44 = .ok (.aload_n 0, 1) := by decide +kernel
theorem dX12_readLaw_45 : decode cX12_readLaw 45 = .ok (.dup, 1) := by decide +kernel
theorem dX12_readLaw_46 : decode cX12_readLaw 46 = .ok (.getfield 133, 3) := by decide +kernel
theorem dX12_readLaw_49 : decode cX12_readLaw 49 = .ok (.iconst 1, 1) := by decide +kernel
theorem dX12_readLaw_50 : decode cX12_readLaw 50 = .ok (.iadd, 1) := by decide +kernel
theorem dX12_readLaw_51 : decode cX12_readLaw 51 = .ok (.putfield 133, 3) := by decide +kernel
theorem dX12_readLaw_54 : decode cX12_readLaw 54 = .ok (.aload_n 0, 1) := by decide +kernel
theorem dX12_readLaw_55 : decode cX12_readLaw 55 = .ok (.bipush 58, 2) := by decide +kernel
theorem dX12_readLaw_57 : decode cX12_readLaw 57 = .ok (.invokevirtual 173, 3) := by decide +kernel
theorem dX12_readLaw_60 : decode cX12_readLaw 60 = .ok (.ifCond .ne 4, 3) := by decide +kernel
theorem dX12_readLaw_63 : decode cX12_readLaw 63 = .ok (.return_, 1) := by decide +kernel
theorem dX12_readLaw_64 : decode cX12_readLaw 64 = .ok (.aload_n 0, 1) := by decide +kernel
theorem dX12_readLaw_65 : decode cX12_readLaw 65 = .ok (.invokevirtual 170, 3) := by decide +kernel
theorem dX12_readLaw_68 : decode cX12_readLaw 68 = .ok (.istore 4, 2) := by decide +kernel
theorem dX12_readLaw_70 : decode cX12_readLaw 70 = .ok (.iconst 0, 1) := by decide +kernel
theorem dX12_readLaw_71 : decode cX12_readLaw 71 = .ok (.istore 5, 2) := by decide +kernel
theorem dX12_readLaw_73 : decode cX12_readLaw 73 = .ok (.aload_n 0, 1) := by decide +kernel
theorem dX12_readLaw_74 : decode cX12_readLaw 74 = .ok (.getfield 140, 3) := by decide +kernel
theorem dX12_readLaw_77 : decode cX12_readLaw 77 = .ok (.iconst (-1), 1) := by decide +kernel
theorem dX12_readLaw_78 : decode cX12_readLaw 78 = .ok (.if_icmp .ne 28, 3) := by decide +kernel
theorem dX12_readLaw_81 : decode cX12_readLaw 81 = .ok (.aload_n 0, 1) := by decide +kernel
theorem dX12_readLaw_82 : decode cX12_readLaw 82 = .ok (.invokevirtual 143, 3) := by decide +kernel
theorem dX12_readLaw_85 : decode cX12_readLaw 85 = .ok (.bipush 117, 2) := by decide +kernel
theorem dX12_readLaw_87 : decode cX12_readLaw 87 = .ok (.if_icmp .ne 19, 3) := by decide +kernel
theorem dX12_readLaw_90 : decode cX12_readLaw 90 = .ok (.aload_n 0, 1) := by decide +kernel
theorem dX12_readLaw_91 : decode cX12_readLaw 91 = .ok (.dup, 1) := by decide +kernel
theorem dX12_readLaw_92 : decode cX12_readLaw 92 = .ok (.getfield 133, 3) := by decide +kernel
theorem dX12_readLaw_95 : decode cX12_readLaw 95 = .ok (.iconst 1, 1) := by decide +kernel
theorem dX12_readLaw_96 : decode cX12_readLaw 96 = .ok (.iadd, 1) := by decide +kernel
theorem dX12_readLaw_97 : decode cX12_readLaw 97 = .ok (.putfield 133, 3) := by decide +kernel
theorem dX12_readLaw_100 : decode cX12_readLaw 100 = .ok (.aload_n 0, 1) := by decide +kernel
theorem dX12_readLaw_101 : decode cX12_readLaw 101 = .ok (.invokevirtual 170, 3) := by decide +kernel
theorem dX12_readLaw_104 : decode cX12_readLaw 104 = .ok (.istore 5, 2) := by decide +kernel
theorem dX12_readLaw_106 : decode cX12_readLaw 106 = .ok (.aload_n 0, 1) := by decide +kernel
theorem dX12_readLaw_107 : decode cX12_readLaw 107 = .ok (.getfield 140, 3) := by decide +kernel
theorem dX12_readLaw_110 : decode cX12_readLaw 110 = .ok (.iconst (-1), 1) := by decide +kernel
theorem dX12_readLaw_111 : decode cX12_readLaw 111 = .ok (.if_icmp .eq 4, 3) := by decide +kernel
theorem dX12_readLaw_114 : decode cX12_readLaw 114 = .ok (.return_, 1) := by decide +kernel
theorem dX12_readLaw_115 : decode cX12_readLaw 115 = .ok (.aload_n 0, 1) := by decide +kernel
theorem dX12_readLaw_116 : decode cX12_readLaw 116 = .ok (.getfield 13, 3) := by decide +kernel
theorem dX12_readLaw_119 : decode cX12_readLaw 119 = .ok (.aload_n 0, 1) := by decide +kernel
theorem dX12_readLaw_120 : decode cX12_readLaw 120 = .ok (.getfield 185, 3) := by decide +kernel
theorem dX12_readLaw_123 : decode cX12_readLaw 123 = .ok (.iload_n 3, 1) := by decide +kernel
theorem dX12_readLaw_124 : decode cX12_readLaw 124 = .ok (.bipush 48, 2) := by decide +kernel
theorem dX12_readLaw_126 : decode cX12_readLaw 126 = .ok (.isub, 1) := by decide +kernel
theorem dX12_readLaw_127 : decode cX12_readLaw 127 = .ok (.iastore, 1) := by decide +kernel
theorem dX12_readLaw_128 : decode cX12_readLaw 128 = .ok (.aload_n 0, 1) := by decide +kernel
theorem dX12_readLaw_129 : decode cX12_readLaw 129 = .ok (.dup, 1) := by decide +kernel
theorem dX12_readLaw_130 : decode cX12_readLaw 130 = .ok (.getfield 188, 3) := by decide +kernel
theorem dX12_readLaw_133 : decode cX12_readLaw 133 = .ok (.iload 4, 2) := by decide +kernel
theorem dX12_readLaw_135 : decode cX12_readLaw 135 = .ok (.ifCond .eq 17, 3) := by decide +kernel
theorem dX12_readLaw_138 : decode cX12_readLaw 138 = .ok (.iload 5, 2) := by decide +kernel
theorem dX12_readLaw_140 : decode cX12_readLaw 140 = .ok (.ifCond .ne 12, 3) := by decide +kernel
theorem dX12_readLaw_143 : decode cX12_readLaw 143 = .ok (.iconst 1, 1) := by decide +kernel
theorem dX12_readLaw_144 : decode cX12_readLaw 144 = .ok (.aload_n 0, 1) := by decide +kernel
theorem dX12_readLaw_145 : decode cX12_readLaw 145 = .ok (.getfield 185, 3) := by decide +kernel
theorem dX12_readLaw_148 : decode cX12_readLaw 148 = .ok (.ishl, 1) := by decide +kernel
theorem dX12_readLaw_149 : decode cX12_readLaw 149 = .ok (.goto 4, 3) := by decide +kernel
theorem dX12_readLaw_152 : decode cX12_readLaw 152 = .ok (.iconst 0, 1) := by decide +kernel
theorem dX12_readLaw_153 : decode cX12_readLaw 153 = .ok (.ior, 1) := by decide +kernel
theorem dX12_readLaw_154 : decode cX12_readLaw 154 = .ok (.putfield 188, 3) := by decide +kernel
theorem dX12_readLaw_157 : decode cX12_readLaw 157 = .ok (.aload_n 0, 1) := by decide +kernel
theorem dX12_readLaw_158 : decode cX12_readLaw 158 = .ok (.dup, 1) := by decide +kernel
theorem dX12_readLaw_159 : decode cX12_readLaw 159 = .ok (.getfield 185, 3) := by decide +kernel
theorem dX12_readLaw_162 : decode cX12_readLaw 162 = .ok (.iconst 1, 1) := by decide +kernel
theorem dX12_readLaw_163 : decode cX12_readLaw 163 = .ok (.iadd, 1) := by decide +kernel
theorem dX12_readLaw_164 : decode cX12_readLaw 164 = .ok (.putfield 185, 3) := by decide +kernel
theorem dX12_readLaw_167 : decode cX12_readLaw 167 = .ok (.aload_n 0, 1) := by decide +kernel
theorem dX12_readLaw_168 : decode cX12_readLaw 168 = .ok (.invokevirtual 143, 3) := by decide +kernel
theorem dX12_readLaw_171 : decode cX12_readLaw 171 = .ok (.bipush 59, 2) := by decide +kernel
theorem dX12_readLaw_173 : decode cX12_readLaw 173 = .ok (.if_icmp .ne 7, 3) := by decide +kernel
theorem dX12_readLaw_176 : decode cX12_readLaw 176 = .ok (.iconst 1, 1) := by decide +kernel
theorem dX12_readLaw_177 : decode cX12_readLaw 177 = .ok (.goto 4, 3) := by decide +kernel
theorem dX12_readLaw_180 : decode cX12_readLaw 180 = .ok (.iconst 0, 1) := by decide +kernel
theorem dX12_readLaw_181 : decode cX12_readLaw 181 = .ok (.istore_n 2, 1) := by decide +kernel
theorem dX12_readLaw_182 : decode cX12_readLaw 182 = .ok (.iload_n 2, 1) := by decide +kernel
theorem dX12_readLaw_183 : decode cX12_readLaw 183 = .ok (.ifCond .eq 18, 3) := by decide +kernel
theorem dX12_readLaw_186 : decode cX12_readLaw 186 = .ok (.aload_n 0, 1) := by decide +kernel
theorem dX12_readLaw_187 : decode cX12_readLaw 187 = .ok (.getfield 185, 3) := by decide +kernel
theorem dX12_readLaw_190 : decode cX12_readLaw 190 = .ok (.bipush 12, 2) := by decide +kernel
theorem dX12_readLaw_192 : decode cX12_readLaw 192 = .ok (.if_icmp .ne 9, 3) := by decide +kernel
theorem dX12_readLaw_195 : decode cX12_readLaw 195 = .ok (.aload_n 0, 1) := by decide +kernel
theorem dX12_readLaw_196 : decode cX12_readLaw 196 = .ok (.invokevirtual 146, 3) := by decide +kernel
theorem dX12_readLaw_199 : decode cX12_readLaw 199 = .ok (.pop, 1) := by decide +kernel
theorem dX12_readLaw_200 : decode cX12_readLaw 200 = .ok (.return_, 1) := by decide +kernel
theorem dX12_readLaw_201 : decode cX12_readLaw 201 = .ok (.iload_n 2, 1) := by decide +kernel
theorem dX12_readLaw_202 : decode cX12_readLaw 202 = .ok (.ifCond .eq 13, 3) := by decide +kernel
theorem dX12_readLaw_205 : decode cX12_readLaw 205 = .ok (.aload_n 0, 1) := by decide +kernel
theorem dX12_readLaw_206 : decode cX12_readLaw 206 = .ok (.dup, 1) := by decide +kernel
theorem dX12_readLaw_207 : decode cX12_readLaw 207 = .ok (.getfield 133, 3) := by decide +kernel
theorem dX12_readLaw_210 : decode cX12_readLaw 210 = .ok (.iconst 1, 1) := by decide +kernel
theorem dX12_readLaw_211 : decode cX12_readLaw 211 = .ok (.iadd, 1) := by decide +kernel
theorem dX12_readLaw_212 : decode cX12_readLaw 212 = .ok (.putfield 133, 3) := by decide +kernel
theorem dX12_readLaw_215 : decode cX12_readLaw 215 = .ok (.goto (-198), 3) := by decide +kernel
theorem dX12_readLaw_218 : decode cX12_readLaw 218 = .ok (.aload_n 0, 1) := by decide +kernel
theorem dX12_readLaw_219 : decode cX12_readLaw 219 = .ok (.invokevirtual 143, 3) := by decide +kernel
theorem dX12_readLaw_222 : decode cX12_readLaw 222 = .ok (.iconst (-1), 1) := by decide +kernel
theorem dX12_readLaw_223 : decode cX12_readLaw 223 = .ok (.if_icmp .eq 8, 3) := by decide +kernel
theorem dX12_readLaw_226 : decode cX12_readLaw 226 = .ok (.aload_n 0, 1) := by decide +kernel
theorem dX12_readLaw_227 : decode cX12_readLaw 227 = .ok (.invokevirtual 146, 3) := by decide +kernel
theorem dX12_readLaw_230 : decode cX12_readLaw 230 = .ok (.pop, 1) := by decide +kernel
theorem dX12_readLaw_231 : decode cX12_readLaw 231 = .ok (.return_, 1) := by decide +kernel
theorem dX12_readQuestion_0 : decode cX12_readQuestion 0 = .ok (.aload_n 0, 1) := by decide +kernel
theorem dX12_readQuestion_1 : decode cX12_readQuestion 1 = .ok (.iload_n 1, 1) := by decide +kernel
theorem dX12_readQuestion_2 : decode cX12_readQuestion 2 = .ok (.invokevirtual 182, 3) := by decide +kernel
theorem dX12_readQuestion_5 : decode cX12_readQuestion 5 = .ok (.aload_n 0, 1) := by decide +kernel
theorem dX12_readQuestion_6 : decode cX12_readQuestion 6 = .ok (.invokevirtual 170, 3) := by decide +kernel
theorem dX12_readQuestion_9 : decode cX12_readQuestion 9 = .ok (.istore_n 2, 1) := by decide +kernel
theorem dX12_readQuestion_10 : decode cX12_readQuestion 10 = .ok (.aload_n 0, 1) := by decide +kernel
theorem dX12_readQuestion_11 : decode cX12_readQuestion 11 = .ok (.getfield 140, 3) := by decide +kernel
theorem dX12_readQuestion_14 : decode cX12_readQuestion 14 = .ok (.iconst (-1), 1) := by decide +kernel
theorem dX12_readQuestion_15 : decode cX12_readQuestion 15 = .ok (.if_icmp .ne 16, 3) := by decide +kernel
theorem dX12_readQuestion_18 : decode cX12_readQuestion 18 = .ok (.aload_n 0, 1) := by decide +kernel
theorem dX12_readQuestion_19 : decode cX12_readQuestion 19 = .ok (.invokevirtual 143, 3) := by decide +kernel
theorem dX12_readQuestion_22 : decode cX12_readQuestion 22 = .ok (.iconst (-1), 1) := by decide +kernel
theorem dX12_readQuestion_23 : decode cX12_readQuestion 23 = .ok (.if_icmp .eq 8, 3) := by decide +kernel
theorem dX12_readQuestion_26 : decode cX12_readQuestion 26 = .ok (.aload_n 0, 1) := by decide +kernel
theorem dX12_readQuestion_27 : decode cX12_readQuestion 27 = .ok (.invokevirtual 146, 3) := by decide +kernel
theorem dX12_readQuestion_30 : decode cX12_readQuestion 30 = .ok (.pop, 1) := by decide +kernel
theorem dX12_readQuestion_31 : decode cX12_readQuestion 31 = .ok (.iload_n 2, 1) := by decide +kernel
theorem dX12_readQuestion_32 : decode cX12_readQuestion 32 = .ok (.ireturn, 1) := by decide +kernel
theorem dX12_isDigit_0 : decode cX12_isDigit 0 = .ok (.aload_n 0, 1) := by decide +kernel
theorem dX12_isDigit_1 : decode cX12_isDigit 1 = .ok (.invokevirtual 136, 3) := by decide +kernel
theorem dX12_isDigit_4 : decode cX12_isDigit 4 = .ok (.bipush 48, 2) := by decide +kernel
theorem dX12_isDigit_6 : decode cX12_isDigit 6 = .ok (.if_icmp .lt 16, 3) := by decide +kernel
theorem dX12_isDigit_9 : decode cX12_isDigit 9 = .ok (.aload_n 0, 1) := by decide +kernel
theorem dX12_isDigit_10 : decode cX12_isDigit 10 = .ok (.invokevirtual 136, 3) := by decide +kernel
theorem dX12_isDigit_13 : decode cX12_isDigit 13 = .ok (.bipush 57, 2) := by decide +kernel
theorem dX12_isDigit_15 : decode cX12_isDigit 15 = .ok (.if_icmp .gt 7, 3) := by decide +kernel
theorem dX12_isDigit_18 : decode cX12_isDigit 18 = .ok (.iconst 1, 1) := by decide +kernel
theorem dX12_isDigit_19 : decode cX12_isDigit 19 = .ok (.goto 4, 3) := by decide +kernel
theorem dX12_isDigit_22 : decode cX12_isDigit 22 = .ok (.iconst 0, 1) := by decide +kernel
theorem dX12_isDigit_23 : decode cX12_isDigit 23 = .ok (.ireturn, 1) := by decide +kernel
theorem dX12_target_0 : decode cX12_target 0 = .ok (.aload_n 0, 1) := by decide +kernel
theorem dX12_target_1 : decode cX12_target 1 = .ok (.invokevirtual 143, 3) := by decide +kernel
theorem dX12_target_4 : decode cX12_target 4 = .ok (.bipush 61, 2) := by decide +kernel
theorem dX12_target_6 : decode cX12_target 6 = .ok (.if_icmp .ne 71, 3) := by decide +kernel
theorem dX12_target_9 : decode cX12_target 9 = .ok (.aload_n 0, 1) := by decide +kernel
theorem dX12_target_10 : decode cX12_target 10 = .ok (.dup, 1) := by decide +kernel
theorem dX12_target_11 : decode cX12_target 11 = .ok (.getfield 133, 3) := by decide +kernel
theorem dX12_target_14 : decode cX12_target 14 = .ok (.iconst 1, 1) := by decide +kernel
theorem dX12_target_15 : decode cX12_target 15 = .ok (.iadd, 1) := by decide +kernel
theorem dX12_target_16 : decode cX12_target 16 = .ok (.putfield 133, 3) := by decide +kernel
theorem dX12_target_19 : decode cX12_target 19 = .ok (.aload_n 0, 1) := by decide +kernel
theorem dX12_target_20 : decode cX12_target 20 = .ok (.invokevirtual 143, 3) := by decide +kernel
theorem dX12_target_23 : decode cX12_target 23 = .ok (.istore_n 2, 1) := by decide +kernel
theorem dX12_target_24 : decode cX12_target 24 = .ok (.iload_n 2, 1) := by decide +kernel
theorem dX12_target_25 : decode cX12_target 25 = .ok (.bipush 45, 2) := by decide +kernel
theorem dX12_target_27 : decode cX12_target 27 = .ok (.if_icmp .eq 22, 3) := by decide +kernel
theorem dX12_target_30 : decode cX12_target 30 = .ok (.iload_n 2, 1) := by decide +kernel
theorem dX12_target_31 : decode cX12_target 31 = .ok (.bipush 48, 2) := by decide +kernel
theorem dX12_target_33 : decode cX12_target 33 = .ok (.if_icmp .lt 9, 3) := by decide +kernel
theorem dX12_target_36 : decode cX12_target 36 = .ok (.iload_n 2, 1) := by decide +kernel
theorem dX12_target_37 : decode cX12_target 37 = .ok (.bipush 53, 2) := by decide +kernel
theorem dX12_target_39 : decode cX12_target 39 = .ok (.if_icmp .le 10, 3) := by decide +kernel
theorem dX12_target_42 : decode cX12_target 42 = .ok (.aload_n 0, 1) := by decide +kernel
theorem dX12_target_43 : decode cX12_target 43 = .ok (.invokevirtual 146, 3) := by decide +kernel
theorem dX12_target_46 : decode cX12_target 46 = .ok (.pop, 1) := by decide +kernel
theorem dX12_target_47 : decode cX12_target 47 = .ok (.iconst 0, 1) := by decide +kernel
theorem dX12_target_48 : decode cX12_target 48 = .ok (.ireturn, 1) := by decide +kernel
theorem dX12_target_49 : decode cX12_target 49 = .ok (.aload_n 0, 1) := by decide +kernel
theorem dX12_target_50 : decode cX12_target 50 = .ok (.dup, 1) := by decide +kernel
theorem dX12_target_51 : decode cX12_target 51 = .ok (.getfield 133, 3) := by decide +kernel
theorem dX12_target_54 : decode cX12_target 54 = .ok (.iconst 1, 1) := by decide +kernel
theorem dX12_target_55 : decode cX12_target 55 = .ok (.iadd, 1) := by decide +kernel
theorem dX12_target_56 : decode cX12_target 56 = .ok (.putfield 133, 3) := by decide +kernel
theorem dX12_target_59 : decode cX12_target 59 = .ok (.bipush 100, 2) := by decide +kernel
theorem dX12_target_61 : decode cX12_target 61 = .ok (.iload_n 2, 1) := by decide +kernel
theorem dX12_target_62 : decode cX12_target 62 = .ok (.bipush 45, 2) := by decide +kernel
theorem dX12_target_64 : decode cX12_target 64 = .ok (.if_icmp .ne 7, 3) := by decide +kernel
theorem dX12_target_67 : decode cX12_target 67 = .ok (.iconst (-1), 1) := by decide +kernel
theorem dX12_target_68 : decode cX12_target 68 = .ok (.goto 7, 3) := by decide +kernel
theorem dX12_target_71 : decode cX12_target 71 = .ok (.iload_n 2, 1) := by decide +kernel
theorem dX12_target_72 : decode cX12_target 72 = .ok (.bipush 48, 2) := by decide +kernel
theorem dX12_target_74 : decode cX12_target 74 = .ok (.isub, 1) := by decide +kernel
theorem dX12_target_75 : decode cX12_target 75 = .ok (.iadd, 1) := by decide +kernel
theorem dX12_target_76 : decode cX12_target 76 = .ok (.ireturn, 1) := by decide +kernel
theorem dX12_target_77 : decode cX12_target 77 = .ok (.aload_n 0, 1) := by decide +kernel
theorem dX12_target_78 : decode cX12_target 78 = .ok (.invokevirtual 191, 3) := by decide +kernel
theorem dX12_target_81 : decode cX12_target 81 = .ok (.ifCond .ne 10, 3) := by decide +kernel
theorem dX12_target_84 : decode cX12_target 84 = .ok (.aload_n 0, 1) := by decide +kernel
theorem dX12_target_85 : decode cX12_target 85 = .ok (.invokevirtual 146, 3) := by decide +kernel
theorem dX12_target_88 : decode cX12_target 88 = .ok (.pop, 1) := by decide +kernel
theorem dX12_target_89 : decode cX12_target 89 = .ok (.iconst 0, 1) := by decide +kernel
theorem dX12_target_90 : decode cX12_target 90 = .ok (.ireturn, 1) := by decide +kernel
theorem dX12_target_91 : decode cX12_target 91 = .ok (.aload_n 0, 1) := by decide +kernel
theorem dX12_target_92 : decode cX12_target 92 = .ok (.invokevirtual 136, 3) := by decide +kernel
theorem dX12_target_95 : decode cX12_target 95 = .ok (.bipush 48, 2) := by decide +kernel
theorem dX12_target_97 : decode cX12_target 97 = .ok (.isub, 1) := by decide +kernel
theorem dX12_target_98 : decode cX12_target 98 = .ok (.istore_n 2, 1) := by decide +kernel
theorem dX12_target_99 : decode cX12_target 99 = .ok (.aload_n 0, 1) := by decide +kernel
theorem dX12_target_100 : decode cX12_target 100 = .ok (.dup, 1) := by decide +kernel
theorem dX12_target_101 : decode cX12_target 101 = .ok (.getfield 133, 3) := by decide +kernel
theorem dX12_target_104 : decode cX12_target 104 = .ok (.iconst 1, 1) := by decide +kernel
theorem dX12_target_105 : decode cX12_target 105 = .ok (.iadd, 1) := by decide +kernel
theorem dX12_target_106 : decode cX12_target 106 = .ok (.putfield 133, 3) := by decide +kernel
theorem dX12_target_109 : decode cX12_target 109 = .ok (.aload_n 0, 1) := by decide +kernel
theorem dX12_target_110 : decode cX12_target 110 = .ok (.invokevirtual 191, 3) := by decide +kernel
theorem dX12_target_113 : decode cX12_target 113 = .ok (.ifCond .eq 26, 3) := by decide +kernel
theorem dX12_target_116 : decode cX12_target 116 = .ok (.bipush 10, 2) := by decide +kernel
theorem dX12_target_118 : decode cX12_target 118 = .ok (.iload_n 2, 1) := by decide +kernel
theorem dX12_target_119 : decode cX12_target 119 = .ok (.imul, 1) := by decide +kernel
theorem dX12_target_120 : decode cX12_target 120 = .ok (.aload_n 0, 1) := by decide +kernel
theorem dX12_target_121 : decode cX12_target 121 = .ok (.invokevirtual 136, 3) := by decide +kernel
theorem dX12_target_124 : decode cX12_target 124 = .ok (.iadd, 1) := by decide +kernel
theorem dX12_target_125 : decode cX12_target 125 = .ok (.bipush 48, 2) := by decide +kernel
theorem dX12_target_127 : decode cX12_target 127 = .ok (.isub, 1) := by decide +kernel
theorem dX12_target_128 : decode cX12_target 128 = .ok (.istore_n 2, 1) := by decide +kernel
theorem dX12_target_129 : decode cX12_target 129 = .ok (.aload_n 0, 1) := by decide +kernel
theorem dX12_target_130 : decode cX12_target 130 = .ok (.dup, 1) := by decide +kernel
theorem dX12_target_131 : decode cX12_target 131 = .ok (.getfield 133, 3) := by decide +kernel
theorem dX12_target_134 : decode cX12_target 134 = .ok (.iconst 1, 1) := by decide +kernel
theorem dX12_target_135 : decode cX12_target 135 = .ok (.iadd, 1) := by decide +kernel
theorem dX12_target_136 : decode cX12_target 136 = .ok (.putfield 133, 3) := by decide +kernel
theorem dX12_target_139 : decode cX12_target 139 = .ok (.aload_n 0, 1) := by decide +kernel
theorem dX12_target_140 : decode cX12_target 140 = .ok (.invokevirtual 191, 3) := by decide +kernel
theorem dX12_target_143 : decode cX12_target 143 = .ok (.ifCond .eq 10, 3) := by decide +kernel
theorem dX12_target_146 : decode cX12_target 146 = .ok (.aload_n 0, 1) := by decide +kernel
theorem dX12_target_147 : decode cX12_target 147 = .ok (.invokevirtual 146, 3) := by decide +kernel
theorem dX12_target_150 : decode cX12_target 150 = .ok (.pop, 1) := by decide +kernel
theorem dX12_target_151 : decode cX12_target 151 = .ok (.iconst 0, 1) := by decide +kernel
theorem dX12_target_152 : decode cX12_target 152 = .ok (.ireturn, 1) := by decide +kernel
theorem dX12_target_153 : decode cX12_target 153 = .ok (.iload_n 2, 1) := by decide +kernel
theorem dX12_target_154 : decode cX12_target 154 = .ok (.iload_n 1, 1) := by decide +kernel
theorem dX12_target_155 : decode cX12_target 155 = .ok (.if_icmp .le 9, 3) := by decide +kernel
theorem dX12_target_158 : decode cX12_target 158 = .ok (.iload_n 2, 1) := by decide +kernel
theorem dX12_target_159 : decode cX12_target 159 = .ok (.bipush 12, 2) := by decide +kernel
theorem dX12_target_161 : decode cX12_target 161 = .ok (.if_icmp .lt 20, 3) := by decide +kernel
theorem dX12_target_164 : decode cX12_target 164 = .ok (.aload_n 0, 1) := by decide +kernel
theorem dX12_target_165 : decode cX12_target 165 = .ok (.dup, 1) := by decide +kernel
theorem dX12_target_166 : decode cX12_target 166 = .ok (.getfield 133, 3) := by decide +kernel
theorem dX12_target_169 : decode cX12_target 169 = .ok (.iconst 1, 1) := by decide +kernel
theorem dX12_target_170 : decode cX12_target 170 = .ok (.isub, 1) := by decide +kernel
theorem dX12_target_171 : decode cX12_target 171 = .ok (.putfield 133, 3) := by decide +kernel
theorem dX12_target_174 : decode cX12_target 174 = .ok (.aload_n 0, 1) := by decide +kernel
theorem dX12_target_175 : decode cX12_target 175 = .ok (.invokevirtual 146, 3) := by decide +kernel
theorem dX12_target_178 : decode cX12_target 178 = .ok (.pop, 1) := by decide +kernel
theorem dX12_target_179 : decode cX12_target 179 = .ok (.iconst 0, 1) := by decide +kernel
theorem dX12_target_180 : decode cX12_target 180 = .ok (.ireturn, 1) := by decide +kernel
theorem dX12_target_181 : decode cX12_target 181 = .ok (.aload_n 0, 1) := by decide +kernel
theorem dX12_target_182 : decode cX12_target 182 = .ok (.aload_n 0, 1) := by decide +kernel
theorem dX12_target_183 : decode cX12_target 183 = .ok (.getfield 194, 3) := by decide +kernel
theorem dX12_target_186 : decode cX12_target 186 = .ok (.iload_n 2, 1) := by decide +kernel
theorem dX12_target_187 : decode cX12_target 187 = .ok (.invokestatic 104, 3) := by decide +kernel
theorem dX12_target_190 : decode cX12_target 190 = .ok (.putfield 194, 3) := by decide +kernel
theorem dX12_target_193 : decode cX12_target 193 = .ok (.iload_n 2, 1) := by decide +kernel
theorem dX12_target_194 : decode cX12_target 194 = .ok (.ireturn, 1) := by decide +kernel
theorem dX12_readForm_0 : decode cX12_readForm 0 = .ok (.aload_n 0, 1) := by decide +kernel
theorem dX12_readForm_1 : decode cX12_readForm 1 = .ok (.iconst 0, 1) := by decide +kernel
theorem dX12_readForm_2 : decode cX12_readForm 2 = .ok (.invokevirtual 182, 3) := by decide +kernel
theorem dX12_readForm_5 : decode cX12_readForm 5 = .ok (.aload_n 0, 1) := by decide +kernel
theorem dX12_readForm_6 : decode cX12_readForm 6 = .ok (.iconst 0, 1) := by decide +kernel
theorem dX12_readForm_7 : decode cX12_readForm 7 = .ok (.putfield 194, 3) := by decide +kernel
theorem dX12_readForm_10 : decode cX12_readForm 10 = .ok (.aload_n 0, 1) := by decide +kernel
theorem dX12_readForm_11 : decode cX12_readForm 11 = .ok (.getfield 26, 3) := by decide +kernel
theorem dX12_readForm_14 : decode cX12_readForm 14 = .ok (.iload_n 1, 1) := by decide +kernel
theorem dX12_readForm_15 : decode cX12_readForm 15 = .ok (.iconst 0, 1) := by decide +kernel
theorem dX12_readForm_16 : decode cX12_readForm 16 = .ok (.iastore, 1) := by decide +kernel
theorem dX12_readForm_17 : decode cX12_readForm 17 = .ok (.iconst 1, 1) := by decide +kernel
theorem dX12_readForm_18 : decode cX12_readForm 18 = .ok (.istore_n 2, 1) := by decide +kernel
theorem dX12_readForm_19 : decode cX12_readForm 19 = .ok (.iload_n 2, 1) := by decide +kernel
theorem dX12_readForm_20 : decode cX12_readForm 20 = .ok (.ifCond .eq 182, 3) := by decide +kernel
theorem dX12_readForm_23 : decode cX12_readForm 23 = .ok (.aload_n 0, 1) := by decide +kernel
theorem dX12_readForm_24 : decode cX12_readForm 24 = .ok (.invokevirtual 143, 3) := by decide +kernel
theorem dX12_readForm_27 : decode cX12_readForm 27 = .ok (.istore_n 3, 1) := by decide +kernel
theorem dX12_readForm_28 : decode cX12_readForm 28 = .ok (.aload_n 0, 1) := by decide +kernel
theorem dX12_readForm_29 : decode cX12_readForm 29 = .ok (.iload_n 3, 1) := by decide +kernel
theorem dX12_readForm_30 : decode cX12_readForm 30 = .ok (.invokevirtual 153, 3) := by decide +kernel
theorem dX12_readForm_33 : decode cX12_readForm 33 = .ok (.ifCond .ne 9, 3) := by decide +kernel
theorem dX12_readForm_36 : decode cX12_readForm 36 = .ok (.aload_n 0, 1) := by decide +kernel
theorem dX12_readForm_37 : decode cX12_readForm 37 = .ok (.invokevirtual 146, 3) := by decide +kernel
theorem dX12_readForm_40 : decode cX12_readForm 40 = .ok (.pop, 1) := by decide +kernel
theorem dX12_readForm_41 : decode cX12_readForm 41 = .ok (.return_, 1) := by decide +kernel
theorem dX12_readForm_42 : decode cX12_readForm 42 = .ok (.aload_n 0, 1) := by decide +kernel
theorem dX12_readForm_43 : decode cX12_readForm 43 = .ok (.dup, 1) := by decide +kernel
theorem dX12_readForm_44 : decode cX12_readForm 44 = .ok (.getfield 133, 3) := by decide +kernel
theorem dX12_readForm_47 : decode cX12_readForm 47 = .ok (.iconst 1, 1) := by decide +kernel
theorem dX12_readForm_48 : decode cX12_readForm 48 = .ok (.iadd, 1) := by decide +kernel
theorem dX12_readForm_49 : decode cX12_readForm 49 = .ok (.putfield 133, 3) := by decide +kernel
theorem dX12_readForm_52 : decode cX12_readForm 52 = .ok (.bipush 12, 2) := by decide +kernel
theorem dX12_readForm_54 : decode cX12_readForm 54 = .ok (.iload_n 1, 1) := by decide +kernel
theorem dX12_readForm_55 : decode cX12_readForm 55 = .ok (.imul, 1) := by decide +kernel
theorem dX12_readForm_56 : decode cX12_readForm 56 = .ok (.aload_n 0, 1) := by decide +kernel
theorem dX12_readForm_57 : decode cX12_readForm 57 = .ok (.getfield 26, 3) := by decide +kernel
theorem dX12_readForm_60 : decode cX12_readForm 60 = .ok (.iload_n 1, 1) := by decide +kernel
theorem dX12_readForm_61 : decode cX12_readForm 61 = .ok (.iaload, 1) := by decide +kernel
theorem dX12_readForm_62 : decode cX12_readForm 62 = .ok (.iadd, 1) := by decide +kernel
theorem dX12_readForm_63 : decode cX12_readForm 63 = .ok (.istore 4, 2) := by decide +kernel
theorem dX12_readForm_65 : decode cX12_readForm 65 = .ok (.aload_n 0, 1) := by decide +kernel
theorem dX12_readForm_66 : decode cX12_readForm 66 = .ok (.getfield 17, 3) := by decide +kernel
theorem dX12_readForm_69 : decode cX12_readForm 69 = .ok (.iload 4, 2) := by decide +kernel
theorem dX12_readForm_71 : decode cX12_readForm 71 = .ok (.iload_n 3, 1) := by decide +kernel
theorem dX12_readForm_72 : decode cX12_readForm 72 = .ok (.bipush 97, 2) := by decide +kernel
theorem dX12_readForm_74 : decode cX12_readForm 74 = .ok (.isub, 1) := by decide +kernel
theorem dX12_readForm_75 : decode cX12_readForm 75 = .ok (.iastore, 1) := by decide +kernel
theorem dX12_readForm_76 : decode cX12_readForm 76 = .ok (.aload_n 0, 1) := by decide +kernel
theorem dX12_readForm_77 : decode cX12_readForm 77 = .ok (.bipush 62, 2) := by decide +kernel
theorem dX12_readForm_79 : decode cX12_readForm 79 = .ok (.invokevirtual 173, 3) := by decide +kernel
theorem dX12_readForm_82 : decode cX12_readForm 82 = .ok (.ifCond .ne 4, 3) := by decide +kernel
theorem dX12_readForm_85 : decode cX12_readForm 85 = .ok (.return_, 1) := by decide +kernel
theorem dX12_readForm_86 : decode cX12_readForm 86 = .ok (.aload_n 0, 1) := by decide +kernel
theorem dX12_readForm_87 : decode cX12_readForm 87 = .ok (.getfield 20, 3) := by decide +kernel
theorem dX12_readForm_90 : decode cX12_readForm 90 = .ok (.iload 4, 2) := by decide +kernel
theorem dX12_readForm_92 : decode cX12_readForm 92 = .ok (.aload_n 0, 1) := by decide +kernel
theorem dX12_readForm_93 : decode cX12_readForm 93 = .ok (.aload_n 0, 1) := by decide +kernel
theorem dX12_readForm_94 : decode cX12_readForm 94 = .ok (.getfield 26, 3) := by decide +kernel
theorem dX12_readForm_97 : decode cX12_readForm 97 = .ok (.iload_n 1, 1) := by decide +kernel
theorem dX12_readForm_98 : decode cX12_readForm 98 = .ok (.iaload, 1) := by decide +kernel
theorem dX12_readForm_99 : decode cX12_readForm 99 = .ok (.invokevirtual 197, 3) := by decide +kernel
theorem dX12_readForm_102 : decode cX12_readForm 102 = .ok (.iastore, 1) := by decide +kernel
theorem dX12_readForm_103 : decode cX12_readForm 103 = .ok (.aload_n 0, 1) := by decide +kernel
theorem dX12_readForm_104 : decode cX12_readForm 104 = .ok (.bipush 44, 2) := by decide +kernel
theorem dX12_readForm_106 : decode cX12_readForm 106 = .ok (.invokevirtual 173, 3) := by decide +kernel
theorem dX12_readForm_109 : decode cX12_readForm 109 = .ok (.ifCond .ne 4, 3) := by decide +kernel
theorem dX12_readForm_112 : decode cX12_readForm 112 = .ok (.return_, 1) := by decide +kernel
theorem dX12_readForm_113 : decode cX12_readForm 113 = .ok (.aload_n 0, 1) := by decide +kernel
theorem dX12_readForm_114 : decode cX12_readForm 114 = .ok (.getfield 23, 3) := by decide +kernel
theorem dX12_readForm_117 : decode cX12_readForm 117 = .ok (.iload 4, 2) := by decide +kernel
theorem dX12_readForm_119 : decode cX12_readForm 119 = .ok (.aload_n 0, 1) := by decide +kernel
theorem dX12_readForm_120 : decode cX12_readForm 120 = .ok (.aload_n 0, 1) := by decide +kernel
theorem dX12_readForm_121 : decode cX12_readForm 121 = .ok (.getfield 26, 3) := by decide +kernel
theorem dX12_readForm_124 : decode cX12_readForm 124 = .ok (.iload_n 1, 1) := by decide +kernel
theorem dX12_readForm_125 : decode cX12_readForm 125 = .ok (.iaload, 1) := by decide +kernel
theorem dX12_readForm_126 : decode cX12_readForm 126 = .ok (.invokevirtual 197, 3) := by decide +kernel
theorem dX12_readForm_129 : decode cX12_readForm 129 = .ok (.iastore, 1) := by decide +kernel
theorem dX12_readForm_130 : decode cX12_readForm 130 = .ok (.aload_n 0, 1) := by decide +kernel
theorem dX12_readForm_131 : decode cX12_readForm 131 = .ok (.getfield 140, 3) := by decide +kernel
theorem dX12_readForm_134 : decode cX12_readForm 134 = .ok (.iconst (-1), 1) := by decide +kernel
theorem dX12_readForm_135 : decode cX12_readForm 135 = .ok (.if_icmp .eq 4, 3) := by decide +kernel
theorem dX12_readForm_138 : decode cX12_readForm 138 = .ok (.return_, 1) := by decide +kernel
theorem dX12_readForm_139 : decode cX12_readForm 139 = .ok (.aload_n 0, 1) := by decide +kernel
theorem dX12_readForm_140 : decode cX12_readForm 140 = .ok (.getfield 26, 3) := by decide +kernel
theorem dX12_readForm_143 : decode cX12_readForm 143 = .ok (.iload_n 1, 1) := by decide +kernel
theorem dX12_readForm_144 : decode cX12_readForm 144 = .ok (.dup2, 1) := by decide +kernel
theorem dX12_readForm_145 : decode cX12_readForm 145 = .ok (.iaload, 1) := by decide +kernel
theorem dX12_readForm_146 : decode cX12_readForm 146 = .ok (.iconst 1, 1) := by decide +kernel
theorem dX12_readForm_147 : decode cX12_readForm 147 = .ok (.iadd, 1) := by decide +kernel
theorem dX12_readForm_148 : decode cX12_readForm 148 = .ok (.iastore, 1) := by decide +kernel
theorem dX12_readForm_149 : decode cX12_readForm 149 = .ok (.aload_n 0, 1) := by decide +kernel
theorem dX12_readForm_150 : decode cX12_readForm 150 = .ok (.invokevirtual 143, 3) := by decide +kernel
theorem dX12_readForm_153 : decode cX12_readForm 153 = .ok (.bipush 59, 2) := by decide +kernel
theorem dX12_readForm_155 : decode cX12_readForm 155 = .ok (.if_icmp .ne 7, 3) := by decide +kernel
theorem dX12_readForm_158 : decode cX12_readForm 158 = .ok (.iconst 1, 1) := by decide +kernel
theorem dX12_readForm_159 : decode cX12_readForm 159 = .ok (.goto 4, 3) := by decide +kernel
theorem dX12_readForm_162 : decode cX12_readForm 162 = .ok (.iconst 0, 1) := by decide +kernel
theorem dX12_readForm_163 : decode cX12_readForm 163 = .ok (.istore_n 2, 1) := by decide +kernel
theorem dX12_readForm_164 : decode cX12_readForm 164 = .ok (.iload_n 2, 1) := by decide +kernel
theorem dX12_readForm_165 : decode cX12_readForm 165 = .ok (.ifCond .eq 20, 3) := by decide +kernel
theorem dX12_readForm_168 : decode cX12_readForm 168 = .ok (.aload_n 0, 1) := by decide +kernel
theorem dX12_readForm_169 : decode cX12_readForm 169 = .ok (.getfield 26, 3) := by decide +kernel
theorem dX12_readForm_172 : decode cX12_readForm 172 = .ok (.iload_n 1, 1) := by decide +kernel
theorem dX12_readForm_173 : decode cX12_readForm 173 = .ok (.iaload, 1) := by decide +kernel
theorem dX12_readForm_174 : decode cX12_readForm 174 = .ok (.bipush 12, 2) := by decide +kernel
theorem dX12_readForm_176 : decode cX12_readForm 176 = .ok (.if_icmp .ne 9, 3) := by decide +kernel
theorem dX12_readForm_179 : decode cX12_readForm 179 = .ok (.aload_n 0, 1) := by decide +kernel
theorem dX12_readForm_180 : decode cX12_readForm 180 = .ok (.invokevirtual 146, 3) := by decide +kernel
theorem dX12_readForm_183 : decode cX12_readForm 183 = .ok (.pop, 1) := by decide +kernel
theorem dX12_readForm_184 : decode cX12_readForm 184 = .ok (.return_, 1) := by decide +kernel
theorem dX12_readForm_185 : decode cX12_readForm 185 = .ok (.iload_n 2, 1) := by decide +kernel
theorem dX12_readForm_186 : decode cX12_readForm 186 = .ok (.ifCond .eq 13, 3) := by decide +kernel
theorem dX12_readForm_189 : decode cX12_readForm 189 = .ok (.aload_n 0, 1) := by decide +kernel
theorem dX12_readForm_190 : decode cX12_readForm 190 = .ok (.dup, 1) := by decide +kernel
theorem dX12_readForm_191 : decode cX12_readForm 191 = .ok (.getfield 133, 3) := by decide +kernel
theorem dX12_readForm_194 : decode cX12_readForm 194 = .ok (.iconst 1, 1) := by decide +kernel
theorem dX12_readForm_195 : decode cX12_readForm 195 = .ok (.iadd, 1) := by decide +kernel
theorem dX12_readForm_196 : decode cX12_readForm 196 = .ok (.putfield 133, 3) := by decide +kernel
theorem dX12_readForm_199 : decode cX12_readForm 199 = .ok (.goto (-180), 3) := by decide +kernel
theorem dX12_readForm_202 : decode cX12_readForm 202 = .ok (.aload_n 0, 1) := by decide +kernel
theorem dX12_readForm_203 : decode cX12_readForm 203 = .ok (.invokevirtual 143, 3) := by decide +kernel
theorem dX12_readForm_206 : decode cX12_readForm 206 = .ok (.iconst (-1), 1) := by decide +kernel
theorem dX12_readForm_207 : decode cX12_readForm 207 = .ok (.if_icmp .ne 16, 3) := by decide +kernel
theorem dX12_readForm_210 : decode cX12_readForm 210 = .ok (.aload_n 0, 1) := by decide +kernel
theorem dX12_readForm_211 : decode cX12_readForm 211 = .ok (.getfield 194, 3) := by decide +kernel
theorem dX12_readForm_214 : decode cX12_readForm 214 = .ok (.aload_n 0, 1) := by decide +kernel
theorem dX12_readForm_215 : decode cX12_readForm 215 = .ok (.getfield 26, 3) := by decide +kernel
theorem dX12_readForm_218 : decode cX12_readForm 218 = .ok (.iload_n 1, 1) := by decide +kernel
theorem dX12_readForm_219 : decode cX12_readForm 219 = .ok (.iaload, 1) := by decide +kernel
theorem dX12_readForm_220 : decode cX12_readForm 220 = .ok (.if_icmp .lt 8, 3) := by decide +kernel
theorem dX12_readForm_223 : decode cX12_readForm 223 = .ok (.aload_n 0, 1) := by decide +kernel
theorem dX12_readForm_224 : decode cX12_readForm 224 = .ok (.invokevirtual 146, 3) := by decide +kernel
theorem dX12_readForm_227 : decode cX12_readForm 227 = .ok (.pop, 1) := by decide +kernel
theorem dX12_readForm_228 : decode cX12_readForm 228 = .ok (.return_, 1) := by decide +kernel
theorem dX12_readAs_0 : decode cX12_readAs 0 = .ok (.iload_n 1, 1) := by decide +kernel
theorem dX12_readAs_1 : decode cX12_readAs 1 = .ok (.ifCond .ne 11, 3) := by decide +kernel
theorem dX12_readAs_4 : decode cX12_readAs 4 = .ok (.aload_n 0, 1) := by decide +kernel
theorem dX12_readAs_5 : decode cX12_readAs 5 = .ok (.iconst 0, 1) := by decide +kernel
theorem dX12_readAs_6 : decode cX12_readAs 6 = .ok (.invokevirtual 200, 3) := by decide +kernel
theorem dX12_readAs_9 : decode cX12_readAs 9 = .ok (.goto 23, 3) := by decide +kernel
theorem dX12_readAs_12 : decode cX12_readAs 12 = .ok (.iload_n 1, 1) := by decide +kernel
theorem dX12_readAs_13 : decode cX12_readAs 13 = .ok (.iconst 2, 1) := by decide +kernel
theorem dX12_readAs_14 : decode cX12_readAs 14 = .ok (.if_icmp .ne 12, 3) := by decide +kernel
theorem dX12_readAs_17 : decode cX12_readAs 17 = .ok (.aload_n 0, 1) := by decide +kernel
theorem dX12_readAs_18 : decode cX12_readAs 18 = .ok (.bipush 6, 2) := by decide +kernel
theorem dX12_readAs_20 : decode cX12_readAs 20 = .ok (.invokevirtual 203, 3) := by decide +kernel
theorem dX12_readAs_23 : decode cX12_readAs 23 = .ok (.goto 9, 3) := by decide +kernel
theorem dX12_readAs_26 : decode cX12_readAs 26 = .ok (.aload_n 0, 1) := by decide +kernel
theorem dX12_readAs_27 : decode cX12_readAs 27 = .ok (.iconst 0, 1) := by decide +kernel
theorem dX12_readAs_28 : decode cX12_readAs 28 = .ok (.invokevirtual 206, 3) := by decide +kernel
theorem dX12_readAs_31 : decode cX12_readAs 31 = .ok (.istore_n 2, 1) := by decide +kernel
theorem dX12_readAs_32 : decode cX12_readAs 32 = .ok (.return_, 1) := by decide +kernel
theorem dX12_fault_0 : decode cX12_fault 0 = .ok (.aload_n 0, 1) := by decide +kernel
theorem dX12_fault_1 : decode cX12_fault 1 = .ok (.iconst 0, 1) := by decide +kernel
theorem dX12_fault_2 : decode cX12_fault 2 = .ok (.putfield 114, 3) := by decide +kernel
theorem dX12_fault_5 : decode cX12_fault 5 = .ok (.iload_n 1, 1) := by decide +kernel
theorem dX12_fault_6 : decode cX12_fault 6 = .ok (.iconst 0, 1) := by decide +kernel
theorem dX12_fault_7 : decode cX12_fault 7 = .ok (.iconst 2, 1) := by decide +kernel
theorem dX12_fault_8 : decode cX12_fault 8 = .ok (.invokestatic 209, 3) := by decide +kernel
theorem dX12_fault_11 : decode cX12_fault 11 = .ok (.ifCond .ne 6, 3) := by decide +kernel
theorem dX12_fault_14 : decode cX12_fault 14 = .ok (.bipush (-2), 2) := by decide +kernel
theorem dX12_fault_16 : decode cX12_fault 16 = .ok (.ireturn, 1) := by decide +kernel
theorem dX12_fault_17 : decode cX12_fault 17 = .ok (.aload_n 0, 1) := by decide +kernel
theorem dX12_fault_18 : decode cX12_fault 18 = .ok (.iload_n 1, 1) := by decide +kernel
theorem dX12_fault_19 : decode cX12_fault 19 = .ok (.invokevirtual 213, 3) := by decide +kernel
theorem dX12_fault_22 : decode cX12_fault 22 = .ok (.aload_n 0, 1) := by decide +kernel
theorem dX12_fault_23 : decode cX12_fault 23 = .ok (.getfield 140, 3) := by decide +kernel
theorem dX12_fault_26 : decode cX12_fault 26 = .ok (.ireturn, 1) := by decide +kernel
theorem dX12_text_0 : decode cX12_text 0 = .ok (.aload_n 0, 1) := by decide +kernel
theorem dX12_text_1 : decode cX12_text 1 = .ok (.iconst 0, 1) := by decide +kernel
theorem dX12_text_2 : decode cX12_text 2 = .ok (.putfield 114, 3) := by decide +kernel
theorem dX12_text_5 : decode cX12_text 5 = .ok (.iload_n 1, 1) := by decide +kernel
theorem dX12_text_6 : decode cX12_text 6 = .ok (.iconst 0, 1) := by decide +kernel
theorem dX12_text_7 : decode cX12_text 7 = .ok (.iconst 2, 1) := by decide +kernel
theorem dX12_text_8 : decode cX12_text 8 = .ok (.invokestatic 209, 3) := by decide +kernel
theorem dX12_text_11 : decode cX12_text 11 = .ok (.ifCond .eq 53, 3) := by decide +kernel
theorem dX12_text_14 : decode cX12_text 14 = .ok (.iload_n 1, 1) := by decide +kernel
theorem dX12_text_15 : decode cX12_text 15 = .ok (.ifCond .ne 12, 3) := by decide +kernel
theorem dX12_text_18 : decode cX12_text 18 = .ok (.aload_n 0, 1) := by decide +kernel
theorem dX12_text_19 : decode cX12_text 19 = .ok (.getfield 216, 3) := by decide +kernel
theorem dX12_text_22 : decode cX12_text 22 = .ok (.bipush 6, 2) := by decide +kernel
theorem dX12_text_24 : decode cX12_text 24 = .ok (.if_icmp .eq 40, 3) := by decide +kernel
theorem dX12_text_27 : decode cX12_text 27 = .ok (.iload_n 1, 1) := by decide +kernel
theorem dX12_text_28 : decode cX12_text 28 = .ok (.iconst 1, 1) := by decide +kernel
theorem dX12_text_29 : decode cX12_text 29 = .ok (.if_icmp .ne 12, 3) := by decide +kernel
theorem dX12_text_32 : decode cX12_text 32 = .ok (.aload_n 0, 1) := by decide +kernel
theorem dX12_text_33 : decode cX12_text 33 = .ok (.getfield 219, 3) := by decide +kernel
theorem dX12_text_36 : decode cX12_text 36 = .ok (.bipush 10, 2) := by decide +kernel
theorem dX12_text_38 : decode cX12_text 38 = .ok (.if_icmp .eq 26, 3) := by decide +kernel
theorem dX12_text_41 : decode cX12_text 41 = .ok (.iload_n 1, 1) := by decide +kernel
theorem dX12_text_42 : decode cX12_text 42 = .ok (.iconst 2, 1) := by decide +kernel
theorem dX12_text_43 : decode cX12_text 43 = .ok (.if_icmp .ne 12, 3) := by decide +kernel
theorem dX12_text_46 : decode cX12_text 46 = .ok (.aload_n 0, 1) := by decide +kernel
theorem dX12_text_47 : decode cX12_text 47 = .ok (.getfield 222, 3) := by decide +kernel
theorem dX12_text_50 : decode cX12_text 50 = .ok (.bipush 6, 2) := by decide +kernel
theorem dX12_text_52 : decode cX12_text 52 = .ok (.if_icmp .eq 12, 3) := by decide +kernel
theorem dX12_text_55 : decode cX12_text 55 = .ok (.aload_n 0, 1) := by decide +kernel
theorem dX12_text_56 : decode cX12_text 56 = .ok (.iload_n 1, 1) := by decide +kernel
theorem dX12_text_57 : decode cX12_text 57 = .ok (.invokevirtual 225, 3) := by decide +kernel
theorem dX12_text_60 : decode cX12_text 60 = .ok (.iconst (-1), 1) := by decide +kernel
theorem dX12_text_61 : decode cX12_text 61 = .ok (.if_icmp .eq 5, 3) := by decide +kernel
theorem dX12_text_64 : decode cX12_text 64 = .ok (.iconst (-1), 1) := by decide +kernel
theorem dX12_text_65 : decode cX12_text 65 = .ok (.ireturn, 1) := by decide +kernel
theorem dX12_text_66 : decode cX12_text 66 = .ok (.iload_n 1, 1) := by decide +kernel
theorem dX12_text_67 : decode cX12_text 67 = .ok (.ifCond .ne 7, 3) := by decide +kernel
theorem dX12_text_70 : decode cX12_text 70 = .ok (.aload_n 0, 1) := by decide +kernel
theorem dX12_text_71 : decode cX12_text 71 = .ok (.invokevirtual 227, 3) := by decide +kernel
theorem dX12_text_74 : decode cX12_text 74 = .ok (.iload_n 1, 1) := by decide +kernel
theorem dX12_text_75 : decode cX12_text 75 = .ok (.iconst 1, 1) := by decide +kernel
theorem dX12_text_76 : decode cX12_text 76 = .ok (.if_icmp .ne 39, 3) := by decide +kernel
theorem dX12_text_79 : decode cX12_text 79 = .ok (.iconst 0, 1) := by decide +kernel
theorem dX12_text_80 : decode cX12_text 80 = .ok (.istore_n 2, 1) := by decide +kernel
theorem dX12_text_81 : decode cX12_text 81 = .ok (.iload_n 2, 1) := by decide +kernel
theorem dX12_text_82 : decode cX12_text 82 = .ok (.aload_n 0, 1) := by decide +kernel
theorem dX12_text_83 : decode cX12_text 83 = .ok (.getfield 111, 3) := by decide +kernel
theorem dX12_text_86 : decode cX12_text 86 = .ok (.if_icmp .ge 29, 3) := by decide +kernel
theorem dX12_text_89 : decode cX12_text 89 = .ok (.aload_n 0, 1) := by decide +kernel
theorem dX12_text_90 : decode cX12_text 90 = .ok (.getfield 47, 3) := by decide +kernel
theorem dX12_text_93 : decode cX12_text 93 = .ok (.sipush 512, 3) := by decide +kernel
theorem dX12_text_96 : decode cX12_text 96 = .ok (.aload_n 0, 1) := by decide +kernel
theorem dX12_text_97 : decode cX12_text 97 = .ok (.getfield 219, 3) := by decide +kernel
theorem dX12_text_100 : decode cX12_text 100 = .ok (.imul, 1) := by decide +kernel
theorem dX12_text_101 : decode cX12_text 101 = .ok (.iload_n 2, 1) := by decide +kernel
theorem dX12_text_102 : decode cX12_text 102 = .ok (.iadd, 1) := by decide +kernel
theorem dX12_text_103 : decode cX12_text 103 = .ok (.aload_n 0, 1) := by decide +kernel
theorem dX12_text_104 : decode cX12_text 104 = .ok (.iload_n 2, 1) := by decide +kernel
theorem dX12_text_105 : decode cX12_text 105 = .ok (.invokevirtual 206, 3) := by decide +kernel
theorem dX12_text_108 : decode cX12_text 108 = .ok (.bastore, 1) := by decide +kernel
theorem dX12_text_109 : decode cX12_text 109 = .ok (.iinc 2 1, 3) := by decide +kernel
theorem dX12_text_112 : decode cX12_text 112 = .ok (.goto (-31), 3) := by decide +kernel
theorem dX12_text_115 : decode cX12_text 115 = .ok (.iload_n 1, 1) := by decide +kernel
theorem dX12_text_116 : decode cX12_text 116 = .ok (.iconst 2, 1) := by decide +kernel
theorem dX12_text_117 : decode cX12_text 117 = .ok (.if_icmp .ne 11, 3) := by decide +kernel
theorem dX12_text_120 : decode cX12_text 120 = .ok (.aload_n 0, 1) := by decide +kernel
theorem dX12_text_121 : decode cX12_text 121 = .ok (.aload_n 0, 1) := by decide +kernel
theorem dX12_text_122 : decode cX12_text 122 = .ok (.getfield 222, 3) := by decide +kernel
theorem dX12_text_125 : decode cX12_text 125 = .ok (.invokevirtual 203, 3) := by decide +kernel
theorem dX12_text_128 : decode cX12_text 128 = .ok (.aload_n 0, 1) := by decide +kernel
theorem dX12_text_129 : decode cX12_text 129 = .ok (.iconst 0, 1) := by decide +kernel
theorem dX12_text_130 : decode cX12_text 130 = .ok (.putfield 123, 3) := by decide +kernel
theorem dX12_text_133 : decode cX12_text 133 = .ok (.iload_n 1, 1) := by decide +kernel
theorem dX12_text_134 : decode cX12_text 134 = .ok (.ifCond .ne 20, 3) := by decide +kernel
theorem dX12_text_137 : decode cX12_text 137 = .ok (.aload_n 0, 1) := by decide +kernel
theorem dX12_text_138 : decode cX12_text 138 = .ok (.dup, 1) := by decide +kernel
theorem dX12_text_139 : decode cX12_text 139 = .ok (.getfield 216, 3) := by decide +kernel
theorem dX12_text_142 : decode cX12_text 142 = .ok (.iconst 1, 1) := by decide +kernel
theorem dX12_text_143 : decode cX12_text 143 = .ok (.iadd, 1) := by decide +kernel
theorem dX12_text_144 : decode cX12_text 144 = .ok (.putfield 216, 3) := by decide +kernel
theorem dX12_text_147 : decode cX12_text 147 = .ok (.aload_n 0, 1) := by decide +kernel
theorem dX12_text_148 : decode cX12_text 148 = .ok (.getfield 216, 3) := by decide +kernel
theorem dX12_text_151 : decode cX12_text 151 = .ok (.iconst 1, 1) := by decide +kernel
theorem dX12_text_152 : decode cX12_text 152 = .ok (.isub, 1) := by decide +kernel
theorem dX12_text_153 : decode cX12_text 153 = .ok (.ireturn, 1) := by decide +kernel
theorem dX12_text_154 : decode cX12_text 154 = .ok (.iload_n 1, 1) := by decide +kernel
theorem dX12_text_155 : decode cX12_text 155 = .ok (.iconst 1, 1) := by decide +kernel
theorem dX12_text_156 : decode cX12_text 156 = .ok (.if_icmp .ne 20, 3) := by decide +kernel
theorem dX12_text_159 : decode cX12_text 159 = .ok (.aload_n 0, 1) := by decide +kernel
theorem dX12_text_160 : decode cX12_text 160 = .ok (.dup, 1) := by decide +kernel
theorem dX12_text_161 : decode cX12_text 161 = .ok (.getfield 219, 3) := by decide +kernel
theorem dX12_text_164 : decode cX12_text 164 = .ok (.iconst 1, 1) := by decide +kernel
theorem dX12_text_165 : decode cX12_text 165 = .ok (.iadd, 1) := by decide +kernel
theorem dX12_text_166 : decode cX12_text 166 = .ok (.putfield 219, 3) := by decide +kernel
theorem dX12_text_169 : decode cX12_text 169 = .ok (.aload_n 0, 1) := by decide +kernel
theorem dX12_text_170 : decode cX12_text 170 = .ok (.getfield 219, 3) := by decide +kernel
theorem dX12_text_173 : decode cX12_text 173 = .ok (.iconst 1, 1) := by decide +kernel
theorem dX12_text_174 : decode cX12_text 174 = .ok (.isub, 1) := by decide +kernel
theorem dX12_text_175 : decode cX12_text 175 = .ok (.ireturn, 1) := by decide +kernel
theorem dX12_text_176 : decode cX12_text 176 = .ok (.aload_n 0, 1) := by decide +kernel
theorem dX12_text_177 : decode cX12_text 177 = .ok (.dup, 1) := by decide +kernel
theorem dX12_text_178 : decode cX12_text 178 = .ok (.getfield 222, 3) := by decide +kernel
theorem dX12_text_181 : decode cX12_text 181 = .ok (.iconst 1, 1) := by decide +kernel
theorem dX12_text_182 : decode cX12_text 182 = .ok (.iadd, 1) := by decide +kernel
theorem dX12_text_183 : decode cX12_text 183 = .ok (.putfield 222, 3) := by decide +kernel
theorem dX12_text_186 : decode cX12_text 186 = .ok (.aload_n 0, 1) := by decide +kernel
theorem dX12_text_187 : decode cX12_text 187 = .ok (.getfield 222, 3) := by decide +kernel
theorem dX12_text_190 : decode cX12_text 190 = .ok (.iconst 1, 1) := by decide +kernel
theorem dX12_text_191 : decode cX12_text 191 = .ok (.isub, 1) := by decide +kernel
theorem dX12_text_192 : decode cX12_text 192 = .ok (.ireturn, 1) := by decide +kernel
theorem dX12_layLaw_0 : decode cX12_layLaw 0 = .ok (.iconst 0, 1) := by decide +kernel
theorem dX12_layLaw_1 : decode cX12_layLaw 1 = .ok (.istore_n 1, 1) := by decide +kernel
theorem dX12_layLaw_2 : decode cX12_layLaw 2 = .ok (.iload_n 1, 1) := by decide +kernel
theorem dX12_layLaw_3 : decode cX12_layLaw 3 = .ok (.aload_n 0, 1) := by decide +kernel
theorem dX12_layLaw_4 : decode cX12_layLaw 4 = .ok (.getfield 111, 3) := by decide +kernel
theorem dX12_layLaw_7 : decode cX12_layLaw 7 = .ok (.if_icmp .ge 73, 3) := by decide +kernel
theorem dX12_layLaw_10 : decode cX12_layLaw 10 = .ok (.aload_n 0, 1) := by decide +kernel
theorem dX12_layLaw_11 : decode cX12_layLaw 11 = .ok (.iload_n 1, 1) := by decide +kernel
theorem dX12_layLaw_12 : decode cX12_layLaw 12 = .ok (.invokevirtual 200, 3) := by decide +kernel
theorem dX12_layLaw_15 : decode cX12_layLaw 15 = .ok (.aload_n 0, 1) := by decide +kernel
theorem dX12_layLaw_16 : decode cX12_layLaw 16 = .ok (.getfield 188, 3) := by decide +kernel
theorem dX12_layLaw_19 : decode cX12_layLaw 19 = .ok (.invokestatic 230, 3) := by decide +kernel
theorem dX12_layLaw_22 : decode cX12_layLaw 22 = .ok (.istore_n 2, 1) := by decide +kernel
theorem dX12_layLaw_23 : decode cX12_layLaw 23 = .ok (.aload_n 0, 1) := by decide +kernel
theorem dX12_layLaw_24 : decode cX12_layLaw 24 = .ok (.getfield 32, 3) := by decide +kernel
theorem dX12_layLaw_27 : decode cX12_layLaw 27 = .ok (.sipush 512, 3) := by decide +kernel
theorem dX12_layLaw_30 : decode cX12_layLaw 30 = .ok (.aload_n 0, 1) := by decide +kernel
theorem dX12_layLaw_31 : decode cX12_layLaw 31 = .ok (.getfield 216, 3) := by decide +kernel
theorem dX12_layLaw_34 : decode cX12_layLaw 34 = .ok (.imul, 1) := by decide +kernel
theorem dX12_layLaw_35 : decode cX12_layLaw 35 = .ok (.iload_n 1, 1) := by decide +kernel
theorem dX12_layLaw_36 : decode cX12_layLaw 36 = .ok (.iadd, 1) := by decide +kernel
theorem dX12_layLaw_37 : decode cX12_layLaw 37 = .ok (.aload_n 0, 1) := by decide +kernel
theorem dX12_layLaw_38 : decode cX12_layLaw 38 = .ok (.getfield 188, 3) := by decide +kernel
theorem dX12_layLaw_41 : decode cX12_layLaw 41 = .ok (.iastore, 1) := by decide +kernel
theorem dX12_layLaw_42 : decode cX12_layLaw 42 = .ok (.aload_n 0, 1) := by decide +kernel
theorem dX12_layLaw_43 : decode cX12_layLaw 43 = .ok (.getfield 29, 3) := by decide +kernel
theorem dX12_layLaw_46 : decode cX12_layLaw 46 = .ok (.sipush 512, 3) := by decide +kernel
theorem dX12_layLaw_49 : decode cX12_layLaw 49 = .ok (.aload_n 0, 1) := by decide +kernel
theorem dX12_layLaw_50 : decode cX12_layLaw 50 = .ok (.getfield 216, 3) := by decide +kernel
theorem dX12_layLaw_53 : decode cX12_layLaw 53 = .ok (.imul, 1) := by decide +kernel
theorem dX12_layLaw_54 : decode cX12_layLaw 54 = .ok (.iload_n 1, 1) := by decide +kernel
theorem dX12_layLaw_55 : decode cX12_layLaw 55 = .ok (.iadd, 1) := by decide +kernel
theorem dX12_layLaw_56 : decode cX12_layLaw 56 = .ok (.aload_n 0, 1) := by decide +kernel
theorem dX12_layLaw_57 : decode cX12_layLaw 57 = .ok (.getfield 188, 3) := by decide +kernel
theorem dX12_layLaw_60 : decode cX12_layLaw 60 = .ok (.ifCond .ne 7, 3) := by decide +kernel
theorem dX12_layLaw_63 : decode cX12_layLaw 63 = .ok (.iconst (-1), 1) := by decide +kernel
theorem dX12_layLaw_64 : decode cX12_layLaw 64 = .ok (.goto 9, 3) := by decide +kernel
theorem dX12_layLaw_67 : decode cX12_layLaw 67 = .ok (.aload_n 0, 1) := by decide +kernel
theorem dX12_layLaw_68 : decode cX12_layLaw 68 = .ok (.getfield 13, 3) := by decide +kernel
theorem dX12_layLaw_71 : decode cX12_layLaw 71 = .ok (.iload_n 2, 1) := by decide +kernel
theorem dX12_layLaw_72 : decode cX12_layLaw 72 = .ok (.iaload, 1) := by decide +kernel
theorem dX12_layLaw_73 : decode cX12_layLaw 73 = .ok (.iastore, 1) := by decide +kernel
theorem dX12_layLaw_74 : decode cX12_layLaw 74 = .ok (.iinc 1 1, 3) := by decide +kernel
theorem dX12_layLaw_77 : decode cX12_layLaw 77 = .ok (.goto (-75), 3) := by decide +kernel
theorem dX12_layLaw_80 : decode cX12_layLaw 80 = .ok (.aload_n 0, 1) := by decide +kernel
theorem dX12_layLaw_81 : decode cX12_layLaw 81 = .ok (.getfield 35, 3) := by decide +kernel
theorem dX12_layLaw_84 : decode cX12_layLaw 84 = .ok (.aload_n 0, 1) := by decide +kernel
theorem dX12_layLaw_85 : decode cX12_layLaw 85 = .ok (.getfield 216, 3) := by decide +kernel
theorem dX12_layLaw_88 : decode cX12_layLaw 88 = .ok (.aload_n 0, 1) := by decide +kernel
theorem dX12_layLaw_89 : decode cX12_layLaw 89 = .ok (.getfield 185, 3) := by decide +kernel
theorem dX12_layLaw_92 : decode cX12_layLaw 92 = .ok (.iastore, 1) := by decide +kernel
theorem dX12_layLaw_93 : decode cX12_layLaw 93 = .ok (.iconst 0, 1) := by decide +kernel
theorem dX12_layLaw_94 : decode cX12_layLaw 94 = .ok (.istore_n 1, 1) := by decide +kernel
theorem dX12_layLaw_95 : decode cX12_layLaw 95 = .ok (.iload_n 1, 1) := by decide +kernel
theorem dX12_layLaw_96 : decode cX12_layLaw 96 = .ok (.aload_n 0, 1) := by decide +kernel
theorem dX12_layLaw_97 : decode cX12_layLaw 97 = .ok (.getfield 185, 3) := by decide +kernel
theorem dX12_layLaw_100 : decode cX12_layLaw 100 = .ok (.if_icmp .ge 29, 3) := by decide +kernel
theorem dX12_layLaw_103 : decode cX12_layLaw 103 = .ok (.aload_n 0, 1) := by decide +kernel
theorem dX12_layLaw_104 : decode cX12_layLaw 104 = .ok (.getfield 38, 3) := by decide +kernel
theorem dX12_layLaw_107 : decode cX12_layLaw 107 = .ok (.bipush 12, 2) := by decide +kernel
theorem dX12_layLaw_109 : decode cX12_layLaw 109 = .ok (.aload_n 0, 1) := by decide +kernel
theorem dX12_layLaw_110 : decode cX12_layLaw 110 = .ok (.getfield 216, 3) := by decide +kernel
theorem dX12_layLaw_113 : decode cX12_layLaw 113 = .ok (.imul, 1) := by decide +kernel
theorem dX12_layLaw_114 : decode cX12_layLaw 114 = .ok (.iload_n 1, 1) := by decide +kernel
theorem dX12_layLaw_115 : decode cX12_layLaw 115 = .ok (.iadd, 1) := by decide +kernel
theorem dX12_layLaw_116 : decode cX12_layLaw 116 = .ok (.aload_n 0, 1) := by decide +kernel
theorem dX12_layLaw_117 : decode cX12_layLaw 117 = .ok (.getfield 13, 3) := by decide +kernel
theorem dX12_layLaw_120 : decode cX12_layLaw 120 = .ok (.iload_n 1, 1) := by decide +kernel
theorem dX12_layLaw_121 : decode cX12_layLaw 121 = .ok (.iaload, 1) := by decide +kernel
theorem dX12_layLaw_122 : decode cX12_layLaw 122 = .ok (.iastore, 1) := by decide +kernel
theorem dX12_layLaw_123 : decode cX12_layLaw 123 = .ok (.iinc 1 1, 3) := by decide +kernel
theorem dX12_layLaw_126 : decode cX12_layLaw 126 = .ok (.goto (-31), 3) := by decide +kernel
theorem dX12_layLaw_129 : decode cX12_layLaw 129 = .ok (.return_, 1) := by decide +kernel
theorem dX12_isLaw_0 : decode cX12_isLaw 0 = .ok (.iload_n 1, 1) := by decide +kernel
theorem dX12_isLaw_1 : decode cX12_isLaw 1 = .ok (.ifCond .lt 15, 3) := by decide +kernel
theorem dX12_isLaw_4 : decode cX12_isLaw 4 = .ok (.iload_n 1, 1) := by decide +kernel
theorem dX12_isLaw_5 : decode cX12_isLaw 5 = .ok (.aload_n 0, 1) := by decide +kernel
theorem dX12_isLaw_6 : decode cX12_isLaw 6 = .ok (.getfield 216, 3) := by decide +kernel
theorem dX12_isLaw_9 : decode cX12_isLaw 9 = .ok (.if_icmp .ge 7, 3) := by decide +kernel
theorem dX12_isLaw_12 : decode cX12_isLaw 12 = .ok (.iconst 1, 1) := by decide +kernel
theorem dX12_isLaw_13 : decode cX12_isLaw 13 = .ok (.goto 4, 3) := by decide +kernel
theorem dX12_isLaw_16 : decode cX12_isLaw 16 = .ok (.iconst 0, 1) := by decide +kernel
theorem dX12_isLaw_17 : decode cX12_isLaw 17 = .ok (.ireturn, 1) := by decide +kernel
theorem dX12_isForm_0 : decode cX12_isForm 0 = .ok (.iload_n 1, 1) := by decide +kernel
theorem dX12_isForm_1 : decode cX12_isForm 1 = .ok (.ifCond .lt 15, 3) := by decide +kernel
theorem dX12_isForm_4 : decode cX12_isForm 4 = .ok (.iload_n 1, 1) := by decide +kernel
theorem dX12_isForm_5 : decode cX12_isForm 5 = .ok (.aload_n 0, 1) := by decide +kernel
theorem dX12_isForm_6 : decode cX12_isForm 6 = .ok (.getfield 222, 3) := by decide +kernel
theorem dX12_isForm_9 : decode cX12_isForm 9 = .ok (.if_icmp .ge 7, 3) := by decide +kernel
theorem dX12_isForm_12 : decode cX12_isForm 12 = .ok (.iconst 1, 1) := by decide +kernel
theorem dX12_isForm_13 : decode cX12_isForm 13 = .ok (.goto 4, 3) := by decide +kernel
theorem dX12_isForm_16 : decode cX12_isForm 16 = .ok (.iconst 0, 1) := by decide +kernel
theorem dX12_isForm_17 : decode cX12_isForm 17 = .ok (.ireturn, 1) := by decide +kernel
theorem dX12_isQuestion_0 : decode cX12_isQuestion 0 = .ok (.iload_n 1, 1) := by decide +kernel
theorem dX12_isQuestion_1 : decode cX12_isQuestion 1 = .ok (.ifCond .lt 15, 3) := by decide +kernel
theorem dX12_isQuestion_4 : decode cX12_isQuestion 4 = .ok (.iload_n 1, 1) := by decide +kernel
theorem dX12_isQuestion_5 : decode cX12_isQuestion 5 = .ok (.aload_n 0, 1) := by decide +kernel
theorem dX12_isQuestion_6 : decode cX12_isQuestion 6 = .ok (.getfield 219, 3) := by decide +kernel
theorem dX12_isQuestion_9 : decode cX12_isQuestion 9 = .ok (.if_icmp .ge 7, 3) := by decide +kernel
theorem dX12_isQuestion_12 : decode cX12_isQuestion 12 = .ok (.iconst 1, 1) := by decide +kernel
theorem dX12_isQuestion_13 : decode cX12_isQuestion 13 = .ok (.goto 4, 3) := by decide +kernel
theorem dX12_isQuestion_16 : decode cX12_isQuestion 16 = .ok (.iconst 0, 1) := by decide +kernel
theorem dX12_isQuestion_17 : decode cX12_isQuestion 17 = .ok (.ireturn, 1) := by decide +kernel
theorem dX12_isCase_0 : decode cX12_isCase 0 = .ok (.iload_n 1, 1) := by decide +kernel
theorem dX12_isCase_1 : decode cX12_isCase 1 = .ok (.ifCond .lt 15, 3) := by decide +kernel
theorem dX12_isCase_4 : decode cX12_isCase 4 = .ok (.iload_n 1, 1) := by decide +kernel
theorem dX12_isCase_5 : decode cX12_isCase 5 = .ok (.aload_n 0, 1) := by decide +kernel
theorem dX12_isCase_6 : decode cX12_isCase 6 = .ok (.getfield 111, 3) := by decide +kernel
theorem dX12_isCase_9 : decode cX12_isCase 9 = .ok (.if_icmp .ge 7, 3) := by decide +kernel
theorem dX12_isCase_12 : decode cX12_isCase 12 = .ok (.iconst 1, 1) := by decide +kernel
theorem dX12_isCase_13 : decode cX12_isCase 13 = .ok (.goto 4, 3) := by decide +kernel
theorem dX12_isCase_16 : decode cX12_isCase 16 = .ok (.iconst 0, 1) := by decide +kernel
theorem dX12_isCase_17 : decode cX12_isCase 17 = .ok (.ireturn, 1) := by decide +kernel
theorem dX12_isFactNumber_0 : decode cX12_isFactNumber 0 = .ok (.iload_n 1, 1) := by decide +kernel
theorem dX12_isFactNumber_1 : decode cX12_isFactNumber 1 = .ok (.ifCond .lt 15, 3) := by decide +kernel
theorem dX12_isFactNumber_4 : decode cX12_isFactNumber 4 = .ok (.iload_n 1, 1) := by decide +kernel
theorem dX12_isFactNumber_5 : decode cX12_isFactNumber 5 = .ok (.aload_n 0, 1) := by decide +kernel
theorem dX12_isFactNumber_6 : decode cX12_isFactNumber 6 = .ok (.getfield 107, 3) := by decide +kernel
theorem dX12_isFactNumber_9 : decode cX12_isFactNumber 9 = .ok (.if_icmp .ge 7, 3) := by decide +kernel
theorem dX12_isFactNumber_12 : decode cX12_isFactNumber 12 = .ok (.iconst 1, 1) := by decide +kernel
theorem dX12_isFactNumber_13 : decode cX12_isFactNumber 13 = .ok (.goto 4, 3) := by decide +kernel
theorem dX12_isFactNumber_16 : decode cX12_isFactNumber 16 = .ok (.iconst 0, 1) := by decide +kernel
theorem dX12_isFactNumber_17 : decode cX12_isFactNumber 17 = .ok (.ireturn, 1) := by decide +kernel
theorem dX12_saidOn_0 : decode cX12_saidOn 0 = .ok (.aload_n 0, 1) := by decide +kernel
theorem dX12_saidOn_1 : decode cX12_saidOn 1 = .ok (.getfield 29, 3) := by decide +kernel
theorem dX12_saidOn_4 : decode cX12_saidOn 4 = .ok (.sipush 512, 3) := by decide +kernel
theorem dX12_saidOn_7 : decode cX12_saidOn 7 = .ok (.iload_n 1, 1) := by decide +kernel
theorem dX12_saidOn_8 : decode cX12_saidOn 8 = .ok (.imul, 1) := by decide +kernel
theorem dX12_saidOn_9 : decode cX12_saidOn 9 = .ok (.iload_n 2, 1) := by decide +kernel
theorem dX12_saidOn_10 : decode cX12_saidOn 10 = .ok (.iadd, 1) := by decide +kernel
theorem dX12_saidOn_11 : decode cX12_saidOn 11 = .ok (.iaload, 1) := by decide +kernel
theorem dX12_saidOn_12 : decode cX12_saidOn 12 = .ok (.ireturn, 1) := by decide +kernel
theorem dX12_says_0 : decode cX12_says 0 = .ok (.aload_n 0, 1) := by decide +kernel
theorem dX12_says_1 : decode cX12_says 1 = .ok (.aload_n 0, 1) := by decide +kernel
theorem dX12_says_2 : decode cX12_says 2 = .ok (.iload_n 1, 1) := by decide +kernel
theorem dX12_says_3 : decode cX12_says 3 = .ok (.invokevirtual 233, 3) := by decide +kernel
theorem dX12_says_6 : decode cX12_says 6 = .ok (.ifCond .eq 15, 3) := by decide +kernel
theorem dX12_says_9 : decode cX12_says 9 = .ok (.aload_n 0, 1) := by decide +kernel
theorem dX12_says_10 : decode cX12_says 10 = .ok (.iload_n 2, 1) := by decide +kernel
theorem dX12_says_11 : decode cX12_says 11 = .ok (.invokevirtual 236, 3) := by decide +kernel
theorem dX12_says_14 : decode cX12_says 14 = .ok (.ifCond .eq 7, 3) := by decide +kernel
theorem dX12_says_17 : decode cX12_says 17 = .ok (.iconst 0, 1) := by decide +kernel
theorem dX12_says_18 : decode cX12_says 18 = .ok (.goto 4, 3) := by decide +kernel
theorem dX12_says_21 : decode cX12_says 21 = .ok (.iconst 1, 1) := by decide +kernel
theorem dX12_says_22 : decode cX12_says 22 = .ok (.putfield 114, 3) := by decide +kernel
theorem dX12_says_25 : decode cX12_says 25 = .ok (.aload_n 0, 1) := by decide +kernel
theorem dX12_says_26 : decode cX12_says 26 = .ok (.getfield 114, 3) := by decide +kernel
theorem dX12_says_29 : decode cX12_says 29 = .ok (.ifCond .le 7, 3) := by decide +kernel
theorem dX12_says_32 : decode cX12_says 32 = .ok (.iconst 0, 1) := by decide +kernel
theorem dX12_says_33 : decode cX12_says 33 = .ok (.goto 9, 3) := by decide +kernel
theorem dX12_says_36 : decode cX12_says 36 = .ok (.aload_n 0, 1) := by decide +kernel
theorem dX12_says_37 : decode cX12_says 37 = .ok (.iload_n 1, 1) := by decide +kernel
theorem dX12_says_38 : decode cX12_says 38 = .ok (.iload_n 2, 1) := by decide +kernel
theorem dX12_says_39 : decode cX12_says 39 = .ok (.invokevirtual 239, 3) := by decide +kernel
theorem dX12_says_42 : decode cX12_says 42 = .ok (.ireturn, 1) := by decide +kernel
theorem dX12_clauses_0 : decode cX12_clauses 0 = .ok (.aload_n 0, 1) := by decide +kernel
theorem dX12_clauses_1 : decode cX12_clauses 1 = .ok (.iconst 0, 1) := by decide +kernel
theorem dX12_clauses_2 : decode cX12_clauses 2 = .ok (.putfield 114, 3) := by decide +kernel
theorem dX12_clauses_5 : decode cX12_clauses 5 = .ok (.aload_n 0, 1) := by decide +kernel
theorem dX12_clauses_6 : decode cX12_clauses 6 = .ok (.iload_n 1, 1) := by decide +kernel
theorem dX12_clauses_7 : decode cX12_clauses 7 = .ok (.invokevirtual 233, 3) := by decide +kernel
theorem dX12_clauses_10 : decode cX12_clauses 10 = .ok (.ifCond .eq 26, 3) := by decide +kernel
theorem dX12_clauses_13 : decode cX12_clauses 13 = .ok (.aload_n 0, 1) := by decide +kernel
theorem dX12_clauses_14 : decode cX12_clauses 14 = .ok (.iload_n 2, 1) := by decide +kernel
theorem dX12_clauses_15 : decode cX12_clauses 15 = .ok (.invokevirtual 236, 3) := by decide +kernel
theorem dX12_clauses_18 : decode cX12_clauses 18 = .ok (.ifCond .eq 18, 3) := by decide +kernel
theorem dX12_clauses_21 : decode cX12_clauses 21 = .ok (.aload_n 0, 1) := by decide +kernel
theorem dX12_clauses_22 : decode cX12_clauses 22 = .ok (.getfield 32, 3) := by decide +kernel
theorem dX12_clauses_25 : decode cX12_clauses 25 = .ok (.sipush 512, 3) := by decide +kernel
theorem dX12_clauses_28 : decode cX12_clauses 28 = .ok (.iload_n 1, 1) := by decide +kernel
theorem dX12_clauses_29 : decode cX12_clauses 29 = .ok (.imul, 1) := by decide +kernel
theorem dX12_clauses_30 : decode cX12_clauses 30 = .ok (.iload_n 2, 1) := by decide +kernel
theorem dX12_clauses_31 : decode cX12_clauses 31 = .ok (.iadd, 1) := by decide +kernel
theorem dX12_clauses_32 : decode cX12_clauses 32 = .ok (.iaload, 1) := by decide +kernel
theorem dX12_clauses_33 : decode cX12_clauses 33 = .ok (.goto 4, 3) := by decide +kernel
theorem dX12_clauses_36 : decode cX12_clauses 36 = .ok (.iconst (-1), 1) := by decide +kernel
theorem dX12_clauses_37 : decode cX12_clauses 37 = .ok (.ireturn, 1) := by decide +kernel
theorem dX12_clashes_0 : decode cX12_clashes 0 = .ok (.iconst 0, 1) := by decide +kernel
theorem dX12_clashes_1 : decode cX12_clashes 1 = .ok (.istore_n 3, 1) := by decide +kernel
theorem dX12_clashes_2 : decode cX12_clashes 2 = .ok (.iconst 0, 1) := by decide +kernel
theorem dX12_clashes_3 : decode cX12_clashes 3 = .ok (.istore 4, 2) := by decide +kernel
theorem dX12_clashes_5 : decode cX12_clashes 5 = .ok (.iload 4, 2) := by decide +kernel
theorem dX12_clashes_7 : decode cX12_clashes 7 = .ok (.aload_n 0, 1) := by decide +kernel
theorem dX12_clashes_8 : decode cX12_clashes 8 = .ok (.getfield 35, 3) := by decide +kernel
theorem dX12_clashes_11 : decode cX12_clashes 11 = .ok (.iload_n 1, 1) := by decide +kernel
theorem dX12_clashes_12 : decode cX12_clashes 12 = .ok (.iaload, 1) := by decide +kernel
theorem dX12_clashes_13 : decode cX12_clashes 13 = .ok (.if_icmp .ge 50, 3) := by decide +kernel
theorem dX12_clashes_16 : decode cX12_clashes 16 = .ok (.iload_n 3, 1) := by decide +kernel
theorem dX12_clashes_17 : decode cX12_clashes 17 = .ok (.aload_n 0, 1) := by decide +kernel
theorem dX12_clashes_18 : decode cX12_clashes 18 = .ok (.getfield 32, 3) := by decide +kernel
theorem dX12_clashes_21 : decode cX12_clashes 21 = .ok (.sipush 512, 3) := by decide +kernel
theorem dX12_clashes_24 : decode cX12_clashes 24 = .ok (.iload_n 1, 1) := by decide +kernel
theorem dX12_clashes_25 : decode cX12_clashes 25 = .ok (.imul, 1) := by decide +kernel
theorem dX12_clashes_26 : decode cX12_clashes 26 = .ok (.iload_n 2, 1) := by decide +kernel
theorem dX12_clashes_27 : decode cX12_clashes 27 = .ok (.iadd, 1) := by decide +kernel
theorem dX12_clashes_28 : decode cX12_clashes 28 = .ok (.iaload, 1) := by decide +kernel
theorem dX12_clashes_29 : decode cX12_clashes 29 = .ok (.iload 4, 2) := by decide +kernel
theorem dX12_clashes_31 : decode cX12_clashes 31 = .ok (.invokestatic 157, 3) := by decide +kernel
theorem dX12_clashes_34 : decode cX12_clashes 34 = .ok (.ifCond .eq 20, 3) := by decide +kernel
theorem dX12_clashes_37 : decode cX12_clashes 37 = .ok (.iconst 1, 1) := by decide +kernel
theorem dX12_clashes_38 : decode cX12_clashes 38 = .ok (.aload_n 0, 1) := by decide +kernel
theorem dX12_clashes_39 : decode cX12_clashes 39 = .ok (.getfield 38, 3) := by decide +kernel
theorem dX12_clashes_42 : decode cX12_clashes 42 = .ok (.bipush 12, 2) := by decide +kernel
theorem dX12_clashes_44 : decode cX12_clashes 44 = .ok (.iload_n 1, 1) := by decide +kernel
theorem dX12_clashes_45 : decode cX12_clashes 45 = .ok (.imul, 1) := by decide +kernel
theorem dX12_clashes_46 : decode cX12_clashes 46 = .ok (.iload 4, 2) := by decide +kernel
theorem dX12_clashes_48 : decode cX12_clashes 48 = .ok (.iadd, 1) := by decide +kernel
theorem dX12_clashes_49 : decode cX12_clashes 49 = .ok (.iaload, 1) := by decide +kernel
theorem dX12_clashes_50 : decode cX12_clashes 50 = .ok (.ishl, 1) := by decide +kernel
theorem dX12_clashes_51 : decode cX12_clashes 51 = .ok (.goto 4, 3) := by decide +kernel
theorem dX12_clashes_54 : decode cX12_clashes 54 = .ok (.iconst 0, 1) := by decide +kernel
theorem dX12_clashes_55 : decode cX12_clashes 55 = .ok (.ior, 1) := by decide +kernel
theorem dX12_clashes_56 : decode cX12_clashes 56 = .ok (.istore_n 3, 1) := by decide +kernel
theorem dX12_clashes_57 : decode cX12_clashes 57 = .ok (.iinc 4 1, 3) := by decide +kernel
theorem dX12_clashes_60 : decode cX12_clashes 60 = .ok (.goto (-55), 3) := by decide +kernel
theorem dX12_clashes_63 : decode cX12_clashes 63 = .ok (.iload_n 3, 1) := by decide +kernel
theorem dX12_clashes_64 : decode cX12_clashes 64 = .ok (.invokestatic 117, 3) := by decide +kernel
theorem dX12_clashes_67 : decode cX12_clashes 67 = .ok (.iconst 1, 1) := by decide +kernel
theorem dX12_clashes_68 : decode cX12_clashes 68 = .ok (.if_icmp .le 7, 3) := by decide +kernel
theorem dX12_clashes_71 : decode cX12_clashes 71 = .ok (.iconst 1, 1) := by decide +kernel
theorem dX12_clashes_72 : decode cX12_clashes 72 = .ok (.goto 4, 3) := by decide +kernel
theorem dX12_clashes_75 : decode cX12_clashes 75 = .ok (.iconst 0, 1) := by decide +kernel
theorem dX12_clashes_76 : decode cX12_clashes 76 = .ok (.ireturn, 1) := by decide +kernel
theorem dX12_gap_0 : decode cX12_gap 0 = .ok (.aload_n 0, 1) := by decide +kernel
theorem dX12_gap_1 : decode cX12_gap 1 = .ok (.iconst 0, 1) := by decide +kernel
theorem dX12_gap_2 : decode cX12_gap 2 = .ok (.putfield 114, 3) := by decide +kernel
theorem dX12_gap_5 : decode cX12_gap 5 = .ok (.aload_n 0, 1) := by decide +kernel
theorem dX12_gap_6 : decode cX12_gap 6 = .ok (.iload_n 1, 1) := by decide +kernel
theorem dX12_gap_7 : decode cX12_gap 7 = .ok (.invokevirtual 233, 3) := by decide +kernel
theorem dX12_gap_10 : decode cX12_gap 10 = .ok (.ifCond .eq 12, 3) := by decide +kernel
theorem dX12_gap_13 : decode cX12_gap 13 = .ok (.iload_n 2, 1) := by decide +kernel
theorem dX12_gap_14 : decode cX12_gap 14 = .ok (.iconst 0, 1) := by decide +kernel
theorem dX12_gap_15 : decode cX12_gap 15 = .ok (.iconst 1, 1) := by decide +kernel
theorem dX12_gap_16 : decode cX12_gap 16 = .ok (.invokestatic 209, 3) := by decide +kernel
theorem dX12_gap_19 : decode cX12_gap 19 = .ok (.ifCond .ne 5, 3) := by decide +kernel
theorem dX12_gap_22 : decode cX12_gap 22 = .ok (.iconst (-1), 1) := by decide +kernel
theorem dX12_gap_23 : decode cX12_gap 23 = .ok (.ireturn, 1) := by decide +kernel
theorem dX12_gap_24 : decode cX12_gap 24 = .ok (.iconst 0, 1) := by decide +kernel
theorem dX12_gap_25 : decode cX12_gap 25 = .ok (.istore 4, 2) := by decide +kernel
theorem dX12_gap_27 : decode cX12_gap 27 = .ok (.iconst 0, 1) := by decide +kernel
theorem dX12_gap_28 : decode cX12_gap 28 = .ok (.istore 5, 2) := by decide +kernel
theorem dX12_gap_30 : decode cX12_gap 30 = .ok (.iload 5, 2) := by decide +kernel
theorem dX12_gap_32 : decode cX12_gap 32 = .ok (.aload_n 0, 1) := by decide +kernel
theorem dX12_gap_33 : decode cX12_gap 33 = .ok (.getfield 111, 3) := by decide +kernel
theorem dX12_gap_36 : decode cX12_gap 36 = .ok (.if_icmp .ge 52, 3) := by decide +kernel
theorem dX12_gap_39 : decode cX12_gap 39 = .ok (.iload_n 2, 1) := by decide +kernel
theorem dX12_gap_40 : decode cX12_gap 40 = .ok (.ifCond .ne 16, 3) := by decide +kernel
theorem dX12_gap_43 : decode cX12_gap 43 = .ok (.aload_n 0, 1) := by decide +kernel
theorem dX12_gap_44 : decode cX12_gap 44 = .ok (.iload_n 1, 1) := by decide +kernel
theorem dX12_gap_45 : decode cX12_gap 45 = .ok (.iload 5, 2) := by decide +kernel
theorem dX12_gap_47 : decode cX12_gap 47 = .ok (.invokevirtual 242, 3) := by decide +kernel
theorem dX12_gap_50 : decode cX12_gap 50 = .ok (.ifCond .eq 32, 3) := by decide +kernel
theorem dX12_gap_53 : decode cX12_gap 53 = .ok (.goto 17, 3) := by decide +kernel
theorem dX12_gap_56 : decode cX12_gap 56 = .ok (.aload_n 0, 1) := by decide +kernel
theorem dX12_gap_57 : decode cX12_gap 57 = .ok (.iload_n 1, 1) := by decide +kernel
theorem dX12_gap_58 : decode cX12_gap 58 = .ok (.iload 5, 2) := by decide +kernel
theorem dX12_gap_60 : decode cX12_gap 60 = .ok (.invokevirtual 239, 3) := by decide +kernel
theorem dX12_gap_63 : decode cX12_gap 63 = .ok (.iconst (-1), 1) := by decide +kernel
theorem dX12_gap_64 : decode cX12_gap 64 = .ok (.if_icmp .eq 6, 3) := by decide +kernel
theorem dX12_gap_67 : decode cX12_gap 67 = .ok (.goto 15, 3) := by decide +kernel
theorem dX12_gap_70 : decode cX12_gap 70 = .ok (.iload 4, 2) := by decide +kernel
theorem dX12_gap_72 : decode cX12_gap 72 = .ok (.iload_n 3, 1) := by decide +kernel
theorem dX12_gap_73 : decode cX12_gap 73 = .ok (.if_icmp .ne 6, 3) := by decide +kernel
theorem dX12_gap_76 : decode cX12_gap 76 = .ok (.iload 5, 2) := by decide +kernel
theorem dX12_gap_78 : decode cX12_gap 78 = .ok (.ireturn, 1) := by decide +kernel
theorem dX12_gap_79 : decode cX12_gap 79 = .ok (.iinc 4 1, 3) := by decide +kernel
theorem dX12_gap_82 : decode cX12_gap 82 = .ok (.iinc 5 1, 3) := by decide +kernel
theorem dX12_gap_85 : decode cX12_gap 85 = .ok (.goto (-55), 3) := by decide +kernel
theorem dX12_gap_88 : decode cX12_gap 88 = .ok (.iload_n 3, 1) := by decide +kernel
theorem dX12_gap_89 : decode cX12_gap 89 = .ok (.iconst (-1), 1) := by decide +kernel
theorem dX12_gap_90 : decode cX12_gap 90 = .ok (.if_icmp .ne 8, 3) := by decide +kernel
theorem dX12_gap_93 : decode cX12_gap 93 = .ok (.iload 4, 2) := by decide +kernel
theorem dX12_gap_95 : decode cX12_gap 95 = .ok (.goto 4, 3) := by decide +kernel
theorem dX12_gap_98 : decode cX12_gap 98 = .ok (.iconst (-1), 1) := by decide +kernel
theorem dX12_gap_99 : decode cX12_gap 99 = .ok (.ireturn, 1) := by decide +kernel
theorem dX12_isKnown_0 : decode cX12_isKnown 0 = .ok (.aload_n 0, 1) := by decide +kernel
theorem dX12_isKnown_1 : decode cX12_isKnown 1 = .ok (.iload_n 1, 1) := by decide +kernel
theorem dX12_isKnown_2 : decode cX12_isKnown 2 = .ok (.invokevirtual 236, 3) := by decide +kernel
theorem dX12_isKnown_5 : decode cX12_isKnown 5 = .ok (.ifCond .eq 23, 3) := by decide +kernel
theorem dX12_isKnown_8 : decode cX12_isKnown 8 = .ok (.aload_n 0, 1) := by decide +kernel
theorem dX12_isKnown_9 : decode cX12_isKnown 9 = .ok (.iload_n 2, 1) := by decide +kernel
theorem dX12_isKnown_10 : decode cX12_isKnown 10 = .ok (.invokevirtual 236, 3) := by decide +kernel
theorem dX12_isKnown_13 : decode cX12_isKnown 13 = .ok (.ifCond .eq 15, 3) := by decide +kernel
theorem dX12_isKnown_16 : decode cX12_isKnown 16 = .ok (.iload_n 2, 1) := by decide +kernel
theorem dX12_isKnown_17 : decode cX12_isKnown 17 = .ok (.iload_n 1, 1) := by decide +kernel
theorem dX12_isKnown_18 : decode cX12_isKnown 18 = .ok (.iconst (-1), 1) := by decide +kernel
theorem dX12_isKnown_19 : decode cX12_isKnown 19 = .ok (.ixor, 1) := by decide +kernel
theorem dX12_isKnown_20 : decode cX12_isKnown 20 = .ok (.iand, 1) := by decide +kernel
theorem dX12_isKnown_21 : decode cX12_isKnown 21 = .ok (.ifCond .ne 7, 3) := by decide +kernel
theorem dX12_isKnown_24 : decode cX12_isKnown 24 = .ok (.iconst 1, 1) := by decide +kernel
theorem dX12_isKnown_25 : decode cX12_isKnown 25 = .ok (.goto 4, 3) := by decide +kernel
theorem dX12_isKnown_28 : decode cX12_isKnown 28 = .ok (.iconst 0, 1) := by decide +kernel
theorem dX12_isKnown_29 : decode cX12_isKnown 29 = .ok (.ireturn, 1) := by decide +kernel
theorem dX12_sureOf_0 : decode cX12_sureOf 0 = .ok (.aload_n 0, 1) := by decide +kernel
theorem dX12_sureOf_1 : decode cX12_sureOf 1 = .ok (.iload_n 1, 1) := by decide +kernel
theorem dX12_sureOf_2 : decode cX12_sureOf 2 = .ok (.iload_n 3, 1) := by decide +kernel
theorem dX12_sureOf_3 : decode cX12_sureOf 3 = .ok (.invokevirtual 239, 3) := by decide +kernel
theorem dX12_sureOf_6 : decode cX12_sureOf 6 = .ok (.istore 4, 2) := by decide +kernel
theorem dX12_sureOf_8 : decode cX12_sureOf 8 = .ok (.iconst 0, 1) := by decide +kernel
theorem dX12_sureOf_9 : decode cX12_sureOf 9 = .ok (.istore 5, 2) := by decide +kernel
theorem dX12_sureOf_11 : decode cX12_sureOf 11 = .ok (.iload 5, 2) := by decide +kernel
theorem dX12_sureOf_13 : decode cX12_sureOf 13 = .ok (.aload_n 0, 1) := by decide +kernel
theorem dX12_sureOf_14 : decode cX12_sureOf 14 = .ok (.getfield 111, 3) := by decide +kernel
theorem dX12_sureOf_17 : decode cX12_sureOf 17 = .ok (.if_icmp .ge 32, 3) := by decide +kernel
theorem dX12_sureOf_20 : decode cX12_sureOf 20 = .ok (.iload 5, 2) := by decide +kernel
theorem dX12_sureOf_22 : decode cX12_sureOf 22 = .ok (.iload_n 2, 1) := by decide +kernel
theorem dX12_sureOf_23 : decode cX12_sureOf 23 = .ok (.iand, 1) := by decide +kernel
theorem dX12_sureOf_24 : decode cX12_sureOf 24 = .ok (.iload_n 3, 1) := by decide +kernel
theorem dX12_sureOf_25 : decode cX12_sureOf 25 = .ok (.if_icmp .ne 18, 3) := by decide +kernel
theorem dX12_sureOf_28 : decode cX12_sureOf 28 = .ok (.aload_n 0, 1) := by decide +kernel
theorem dX12_sureOf_29 : decode cX12_sureOf 29 = .ok (.iload_n 1, 1) := by decide +kernel
theorem dX12_sureOf_30 : decode cX12_sureOf 30 = .ok (.iload 5, 2) := by decide +kernel
theorem dX12_sureOf_32 : decode cX12_sureOf 32 = .ok (.invokevirtual 239, 3) := by decide +kernel
theorem dX12_sureOf_35 : decode cX12_sureOf 35 = .ok (.iload 4, 2) := by decide +kernel
theorem dX12_sureOf_37 : decode cX12_sureOf 37 = .ok (.if_icmp .eq 6, 3) := by decide +kernel
theorem dX12_sureOf_40 : decode cX12_sureOf 40 = .ok (.bipush (-2), 2) := by decide +kernel
theorem dX12_sureOf_42 : decode cX12_sureOf 42 = .ok (.ireturn, 1) := by decide +kernel
theorem dX12_sureOf_43 : decode cX12_sureOf 43 = .ok (.iinc 5 1, 3) := by decide +kernel
theorem dX12_sureOf_46 : decode cX12_sureOf 46 = .ok (.goto (-35), 3) := by decide +kernel
theorem dX12_sureOf_49 : decode cX12_sureOf 49 = .ok (.iload 4, 2) := by decide +kernel
theorem dX12_sureOf_51 : decode cX12_sureOf 51 = .ok (.ireturn, 1) := by decide +kernel
theorem dX12_sure_0 : decode cX12_sure 0 = .ok (.aload_n 0, 1) := by decide +kernel
theorem dX12_sure_1 : decode cX12_sure 1 = .ok (.iconst 0, 1) := by decide +kernel
theorem dX12_sure_2 : decode cX12_sure 2 = .ok (.putfield 114, 3) := by decide +kernel
theorem dX12_sure_5 : decode cX12_sure 5 = .ok (.aload_n 0, 1) := by decide +kernel
theorem dX12_sure_6 : decode cX12_sure 6 = .ok (.iload_n 1, 1) := by decide +kernel
theorem dX12_sure_7 : decode cX12_sure 7 = .ok (.invokevirtual 233, 3) := by decide +kernel
theorem dX12_sure_10 : decode cX12_sure 10 = .ok (.ifCond .eq 22, 3) := by decide +kernel
theorem dX12_sure_13 : decode cX12_sure 13 = .ok (.aload_n 0, 1) := by decide +kernel
theorem dX12_sure_14 : decode cX12_sure 14 = .ok (.iload_n 2, 1) := by decide +kernel
theorem dX12_sure_15 : decode cX12_sure 15 = .ok (.iload_n 3, 1) := by decide +kernel
theorem dX12_sure_16 : decode cX12_sure 16 = .ok (.invokevirtual 245, 3) := by decide +kernel
theorem dX12_sure_19 : decode cX12_sure 19 = .ok (.ifCond .eq 13, 3) := by decide +kernel
theorem dX12_sure_22 : decode cX12_sure 22 = .ok (.aload_n 0, 1) := by decide +kernel
theorem dX12_sure_23 : decode cX12_sure 23 = .ok (.iload_n 1, 1) := by decide +kernel
theorem dX12_sure_24 : decode cX12_sure 24 = .ok (.iload_n 2, 1) := by decide +kernel
theorem dX12_sure_25 : decode cX12_sure 25 = .ok (.iload_n 3, 1) := by decide +kernel
theorem dX12_sure_26 : decode cX12_sure 26 = .ok (.invokevirtual 248, 3) := by decide +kernel
theorem dX12_sure_29 : decode cX12_sure 29 = .ok (.goto 5, 3) := by decide +kernel
theorem dX12_sure_32 : decode cX12_sure 32 = .ok (.bipush (-2), 2) := by decide +kernel
theorem dX12_sure_34 : decode cX12_sure 34 = .ok (.ireturn, 1) := by decide +kernel
theorem dX12_matters_0 : decode cX12_matters 0 = .ok (.aload_n 0, 1) := by decide +kernel
theorem dX12_matters_1 : decode cX12_matters 1 = .ok (.iconst 0, 1) := by decide +kernel
theorem dX12_matters_2 : decode cX12_matters 2 = .ok (.putfield 114, 3) := by decide +kernel
theorem dX12_matters_5 : decode cX12_matters 5 = .ok (.aload_n 0, 1) := by decide +kernel
theorem dX12_matters_6 : decode cX12_matters 6 = .ok (.iload_n 1, 1) := by decide +kernel
theorem dX12_matters_7 : decode cX12_matters 7 = .ok (.invokevirtual 233, 3) := by decide +kernel
theorem dX12_matters_10 : decode cX12_matters 10 = .ok (.ifCond .eq 12, 3) := by decide +kernel
theorem dX12_matters_13 : decode cX12_matters 13 = .ok (.iload_n 2, 1) := by decide +kernel
theorem dX12_matters_14 : decode cX12_matters 14 = .ok (.iconst 0, 1) := by decide +kernel
theorem dX12_matters_15 : decode cX12_matters 15 = .ok (.iconst 1, 1) := by decide +kernel
theorem dX12_matters_16 : decode cX12_matters 16 = .ok (.invokestatic 209, 3) := by decide +kernel
theorem dX12_matters_19 : decode cX12_matters 19 = .ok (.ifCond .ne 5, 3) := by decide +kernel
theorem dX12_matters_22 : decode cX12_matters 22 = .ok (.iconst (-1), 1) := by decide +kernel
theorem dX12_matters_23 : decode cX12_matters 23 = .ok (.ireturn, 1) := by decide +kernel
theorem dX12_matters_24 : decode cX12_matters 24 = .ok (.iconst 0, 1) := by decide +kernel
theorem dX12_matters_25 : decode cX12_matters 25 = .ok (.istore_n 3, 1) := by decide +kernel
theorem dX12_matters_26 : decode cX12_matters 26 = .ok (.iconst 0, 1) := by decide +kernel
theorem dX12_matters_27 : decode cX12_matters 27 = .ok (.istore 4, 2) := by decide +kernel
theorem dX12_matters_29 : decode cX12_matters 29 = .ok (.iload 4, 2) := by decide +kernel
theorem dX12_matters_31 : decode cX12_matters 31 = .ok (.aload_n 0, 1) := by decide +kernel
theorem dX12_matters_32 : decode cX12_matters 32 = .ok (.getfield 107, 3) := by decide +kernel
theorem dX12_matters_35 : decode cX12_matters 35 = .ok (.if_icmp .ge 94, 3) := by decide +kernel
theorem dX12_matters_38 : decode cX12_matters 38 = .ok (.iconst 0, 1) := by decide +kernel
theorem dX12_matters_39 : decode cX12_matters 39 = .ok (.istore 5, 2) := by decide +kernel
theorem dX12_matters_41 : decode cX12_matters 41 = .ok (.iconst 0, 1) := by decide +kernel
theorem dX12_matters_42 : decode cX12_matters 42 = .ok (.istore 6, 2) := by decide +kernel
theorem dX12_matters_44 : decode cX12_matters 44 = .ok (.iload 6, 2) := by decide +kernel
theorem dX12_matters_46 : decode cX12_matters 46 = .ok (.aload_n 0, 1) := by decide +kernel
theorem dX12_matters_47 : decode cX12_matters 47 = .ok (.getfield 111, 3) := by decide +kernel
theorem dX12_matters_50 : decode cX12_matters 50 = .ok (.if_icmp .ge 41, 3) := by decide +kernel
theorem dX12_matters_53 : decode cX12_matters 53 = .ok (.iload 5, 2) := by decide +kernel
theorem dX12_matters_55 : decode cX12_matters 55 = .ok (.aload_n 0, 1) := by decide +kernel
theorem dX12_matters_56 : decode cX12_matters 56 = .ok (.iload_n 1, 1) := by decide +kernel
theorem dX12_matters_57 : decode cX12_matters 57 = .ok (.iload 6, 2) := by decide +kernel
theorem dX12_matters_59 : decode cX12_matters 59 = .ok (.invokevirtual 239, 3) := by decide +kernel
theorem dX12_matters_62 : decode cX12_matters 62 = .ok (.aload_n 0, 1) := by decide +kernel
theorem dX12_matters_63 : decode cX12_matters 63 = .ok (.iload_n 1, 1) := by decide +kernel
theorem dX12_matters_64 : decode cX12_matters 64 = .ok (.iload 6, 2) := by decide +kernel
theorem dX12_matters_66 : decode cX12_matters 66 = .ok (.iconst 1, 1) := by decide +kernel
theorem dX12_matters_67 : decode cX12_matters 67 = .ok (.iload 4, 2) := by decide +kernel
theorem dX12_matters_69 : decode cX12_matters 69 = .ok (.ishl, 1) := by decide +kernel
theorem dX12_matters_70 : decode cX12_matters 70 = .ok (.ixor, 1) := by decide +kernel
theorem dX12_matters_71 : decode cX12_matters 71 = .ok (.invokevirtual 239, 3) := by decide +kernel
theorem dX12_matters_74 : decode cX12_matters 74 = .ok (.if_icmp .eq 7, 3) := by decide +kernel
theorem dX12_matters_77 : decode cX12_matters 77 = .ok (.iconst 1, 1) := by decide +kernel
theorem dX12_matters_78 : decode cX12_matters 78 = .ok (.goto 4, 3) := by decide +kernel
theorem dX12_matters_81 : decode cX12_matters 81 = .ok (.iconst 0, 1) := by decide +kernel
theorem dX12_matters_82 : decode cX12_matters 82 = .ok (.iadd, 1) := by decide +kernel
theorem dX12_matters_83 : decode cX12_matters 83 = .ok (.istore 5, 2) := by decide +kernel
theorem dX12_matters_85 : decode cX12_matters 85 = .ok (.iinc 6 1, 3) := by decide +kernel
theorem dX12_matters_88 : decode cX12_matters 88 = .ok (.goto (-44), 3) := by decide +kernel
theorem dX12_matters_91 : decode cX12_matters 91 = .ok (.iload_n 3, 1) := by decide +kernel
theorem dX12_matters_92 : decode cX12_matters 92 = .ok (.iload_n 2, 1) := by decide +kernel
theorem dX12_matters_93 : decode cX12_matters 93 = .ok (.ifCond .ne 11, 3) := by decide +kernel
theorem dX12_matters_96 : decode cX12_matters 96 = .ok (.iload 5, 2) := by decide +kernel
theorem dX12_matters_98 : decode cX12_matters 98 = .ok (.ifCond .le 22, 3) := by decide +kernel
theorem dX12_matters_101 : decode cX12_matters 101 = .ok (.goto 12, 3) := by decide +kernel
theorem dX12_matters_104 : decode cX12_matters 104 = .ok (.iload 5, 2) := by decide +kernel
theorem dX12_matters_106 : decode cX12_matters 106 = .ok (.aload_n 0, 1) := by decide +kernel
theorem dX12_matters_107 : decode cX12_matters 107 = .ok (.getfield 111, 3) := by decide +kernel
theorem dX12_matters_110 : decode cX12_matters 110 = .ok (.if_icmp .ne 10, 3) := by decide +kernel
theorem dX12_matters_113 : decode cX12_matters 113 = .ok (.iconst 1, 1) := by decide +kernel
theorem dX12_matters_114 : decode cX12_matters 114 = .ok (.iload 4, 2) := by decide +kernel
theorem dX12_matters_116 : decode cX12_matters 116 = .ok (.ishl, 1) := by decide +kernel
theorem dX12_matters_117 : decode cX12_matters 117 = .ok (.goto 4, 3) := by decide +kernel
theorem dX12_matters_120 : decode cX12_matters 120 = .ok (.iconst 0, 1) := by decide +kernel
theorem dX12_matters_121 : decode cX12_matters 121 = .ok (.ior, 1) := by decide +kernel
theorem dX12_matters_122 : decode cX12_matters 122 = .ok (.istore_n 3, 1) := by decide +kernel
theorem dX12_matters_123 : decode cX12_matters 123 = .ok (.iinc 4 1, 3) := by decide +kernel
theorem dX12_matters_126 : decode cX12_matters 126 = .ok (.goto (-97), 3) := by decide +kernel
theorem dX12_matters_129 : decode cX12_matters 129 = .ok (.iload_n 3, 1) := by decide +kernel
theorem dX12_matters_130 : decode cX12_matters 130 = .ok (.ireturn, 1) := by decide +kernel
theorem dX12_proof_0 : decode cX12_proof 0 = .ok (.aload_n 0, 1) := by decide +kernel
theorem dX12_proof_1 : decode cX12_proof 1 = .ok (.iconst 0, 1) := by decide +kernel
theorem dX12_proof_2 : decode cX12_proof 2 = .ok (.putfield 114, 3) := by decide +kernel
theorem dX12_proof_5 : decode cX12_proof 5 = .ok (.aload_n 0, 1) := by decide +kernel
theorem dX12_proof_6 : decode cX12_proof 6 = .ok (.iload_n 1, 1) := by decide +kernel
theorem dX12_proof_7 : decode cX12_proof 7 = .ok (.invokevirtual 233, 3) := by decide +kernel
theorem dX12_proof_10 : decode cX12_proof 10 = .ok (.ifCond .eq 11, 3) := by decide +kernel
theorem dX12_proof_13 : decode cX12_proof 13 = .ok (.aload_n 0, 1) := by decide +kernel
theorem dX12_proof_14 : decode cX12_proof 14 = .ok (.iload_n 2, 1) := by decide +kernel
theorem dX12_proof_15 : decode cX12_proof 15 = .ok (.invokevirtual 236, 3) := by decide +kernel
theorem dX12_proof_18 : decode cX12_proof 18 = .ok (.ifCond .ne 5, 3) := by decide +kernel
theorem dX12_proof_21 : decode cX12_proof 21 = .ok (.iconst (-1), 1) := by decide +kernel
theorem dX12_proof_22 : decode cX12_proof 22 = .ok (.ireturn, 1) := by decide +kernel
theorem dX12_proof_23 : decode cX12_proof 23 = .ok (.aload_n 0, 1) := by decide +kernel
theorem dX12_proof_24 : decode cX12_proof 24 = .ok (.getfield 111, 3) := by decide +kernel
theorem dX12_proof_27 : decode cX12_proof 27 = .ok (.iconst 1, 1) := by decide +kernel
theorem dX12_proof_28 : decode cX12_proof 28 = .ok (.isub, 1) := by decide +kernel
theorem dX12_proof_29 : decode cX12_proof 29 = .ok (.istore_n 3, 1) := by decide +kernel
theorem dX12_proof_30 : decode cX12_proof 30 = .ok (.iconst 0, 1) := by decide +kernel
theorem dX12_proof_31 : decode cX12_proof 31 = .ok (.istore 4, 2) := by decide +kernel
theorem dX12_proof_33 : decode cX12_proof 33 = .ok (.iload 4, 2) := by decide +kernel
theorem dX12_proof_35 : decode cX12_proof 35 = .ok (.aload_n 0, 1) := by decide +kernel
theorem dX12_proof_36 : decode cX12_proof 36 = .ok (.getfield 111, 3) := by decide +kernel
theorem dX12_proof_39 : decode cX12_proof 39 = .ok (.if_icmp .ge 37, 3) := by decide +kernel
theorem dX12_proof_42 : decode cX12_proof 42 = .ok (.iload 4, 2) := by decide +kernel
theorem dX12_proof_44 : decode cX12_proof 44 = .ok (.iload_n 3, 1) := by decide +kernel
theorem dX12_proof_45 : decode cX12_proof 45 = .ok (.invokestatic 252, 3) := by decide +kernel
theorem dX12_proof_48 : decode cX12_proof 48 = .ok (.ifCond .eq 22, 3) := by decide +kernel
theorem dX12_proof_51 : decode cX12_proof 51 = .ok (.aload_n 0, 1) := by decide +kernel
theorem dX12_proof_52 : decode cX12_proof 52 = .ok (.iload_n 1, 1) := by decide +kernel
theorem dX12_proof_53 : decode cX12_proof 53 = .ok (.iload 4, 2) := by decide +kernel
theorem dX12_proof_55 : decode cX12_proof 55 = .ok (.iload_n 2, 1) := by decide +kernel
theorem dX12_proof_56 : decode cX12_proof 56 = .ok (.iload 4, 2) := by decide +kernel
theorem dX12_proof_58 : decode cX12_proof 58 = .ok (.iand, 1) := by decide +kernel
theorem dX12_proof_59 : decode cX12_proof 59 = .ok (.invokevirtual 248, 3) := by decide +kernel
theorem dX12_proof_62 : decode cX12_proof 62 = .ok (.bipush (-2), 2) := by decide +kernel
theorem dX12_proof_64 : decode cX12_proof 64 = .ok (.if_icmp .eq 6, 3) := by decide +kernel
theorem dX12_proof_67 : decode cX12_proof 67 = .ok (.iload 4, 2) := by decide +kernel
theorem dX12_proof_69 : decode cX12_proof 69 = .ok (.istore_n 3, 1) := by decide +kernel
theorem dX12_proof_70 : decode cX12_proof 70 = .ok (.iinc 4 1, 3) := by decide +kernel
theorem dX12_proof_73 : decode cX12_proof 73 = .ok (.goto (-40), 3) := by decide +kernel
theorem dX12_proof_76 : decode cX12_proof 76 = .ok (.iload_n 3, 1) := by decide +kernel
theorem dX12_proof_77 : decode cX12_proof 77 = .ok (.ireturn, 1) := by decide +kernel
theorem dX12_parts_0 : decode cX12_parts 0 = .ok (.aload_n 0, 1) := by decide +kernel
theorem dX12_parts_1 : decode cX12_parts 1 = .ok (.iconst 0, 1) := by decide +kernel
theorem dX12_parts_2 : decode cX12_parts 2 = .ok (.putfield 114, 3) := by decide +kernel
theorem dX12_parts_5 : decode cX12_parts 5 = .ok (.aload_n 0, 1) := by decide +kernel
theorem dX12_parts_6 : decode cX12_parts 6 = .ok (.iload_n 1, 1) := by decide +kernel
theorem dX12_parts_7 : decode cX12_parts 7 = .ok (.invokevirtual 233, 3) := by decide +kernel
theorem dX12_parts_10 : decode cX12_parts 10 = .ok (.ifCond .eq 11, 3) := by decide +kernel
theorem dX12_parts_13 : decode cX12_parts 13 = .ok (.aload_n 0, 1) := by decide +kernel
theorem dX12_parts_14 : decode cX12_parts 14 = .ok (.iload_n 2, 1) := by decide +kernel
theorem dX12_parts_15 : decode cX12_parts 15 = .ok (.invokevirtual 233, 3) := by decide +kernel
theorem dX12_parts_18 : decode cX12_parts 18 = .ok (.ifCond .ne 5, 3) := by decide +kernel
theorem dX12_parts_21 : decode cX12_parts 21 = .ok (.iconst (-1), 1) := by decide +kernel
theorem dX12_parts_22 : decode cX12_parts 22 = .ok (.ireturn, 1) := by decide +kernel
theorem dX12_parts_23 : decode cX12_parts 23 = .ok (.iconst 0, 1) := by decide +kernel
theorem dX12_parts_24 : decode cX12_parts 24 = .ok (.istore 4, 2) := by decide +kernel
theorem dX12_parts_26 : decode cX12_parts 26 = .ok (.iconst 0, 1) := by decide +kernel
theorem dX12_parts_27 : decode cX12_parts 27 = .ok (.istore 5, 2) := by decide +kernel
theorem dX12_parts_29 : decode cX12_parts 29 = .ok (.iload 5, 2) := by decide +kernel
theorem dX12_parts_31 : decode cX12_parts 31 = .ok (.aload_n 0, 1) := by decide +kernel
theorem dX12_parts_32 : decode cX12_parts 32 = .ok (.getfield 111, 3) := by decide +kernel
theorem dX12_parts_35 : decode cX12_parts 35 = .ok (.if_icmp .ge 41, 3) := by decide +kernel
theorem dX12_parts_38 : decode cX12_parts 38 = .ok (.aload_n 0, 1) := by decide +kernel
theorem dX12_parts_39 : decode cX12_parts 39 = .ok (.iload_n 1, 1) := by decide +kernel
theorem dX12_parts_40 : decode cX12_parts 40 = .ok (.iload 5, 2) := by decide +kernel
theorem dX12_parts_42 : decode cX12_parts 42 = .ok (.invokevirtual 239, 3) := by decide +kernel
theorem dX12_parts_45 : decode cX12_parts 45 = .ok (.aload_n 0, 1) := by decide +kernel
theorem dX12_parts_46 : decode cX12_parts 46 = .ok (.iload_n 2, 1) := by decide +kernel
theorem dX12_parts_47 : decode cX12_parts 47 = .ok (.iload 5, 2) := by decide +kernel
theorem dX12_parts_49 : decode cX12_parts 49 = .ok (.invokevirtual 239, 3) := by decide +kernel
theorem dX12_parts_52 : decode cX12_parts 52 = .ok (.if_icmp .ne 6, 3) := by decide +kernel
theorem dX12_parts_55 : decode cX12_parts 55 = .ok (.goto 15, 3) := by decide +kernel
theorem dX12_parts_58 : decode cX12_parts 58 = .ok (.iload 4, 2) := by decide +kernel
theorem dX12_parts_60 : decode cX12_parts 60 = .ok (.iload_n 3, 1) := by decide +kernel
theorem dX12_parts_61 : decode cX12_parts 61 = .ok (.if_icmp .ne 6, 3) := by decide +kernel
theorem dX12_parts_64 : decode cX12_parts 64 = .ok (.iload 5, 2) := by decide +kernel
theorem dX12_parts_66 : decode cX12_parts 66 = .ok (.ireturn, 1) := by decide +kernel
theorem dX12_parts_67 : decode cX12_parts 67 = .ok (.iinc 4 1, 3) := by decide +kernel
theorem dX12_parts_70 : decode cX12_parts 70 = .ok (.iinc 5 1, 3) := by decide +kernel
theorem dX12_parts_73 : decode cX12_parts 73 = .ok (.goto (-44), 3) := by decide +kernel
theorem dX12_parts_76 : decode cX12_parts 76 = .ok (.iload_n 3, 1) := by decide +kernel
theorem dX12_parts_77 : decode cX12_parts 77 = .ok (.iconst (-1), 1) := by decide +kernel
theorem dX12_parts_78 : decode cX12_parts 78 = .ok (.if_icmp .ne 8, 3) := by decide +kernel
theorem dX12_parts_81 : decode cX12_parts 81 = .ok (.iload 4, 2) := by decide +kernel
theorem dX12_parts_83 : decode cX12_parts 83 = .ok (.goto 4, 3) := by decide +kernel
theorem dX12_parts_86 : decode cX12_parts 86 = .ok (.iconst (-1), 1) := by decide +kernel
theorem dX12_parts_87 : decode cX12_parts 87 = .ok (.ireturn, 1) := by decide +kernel
theorem dX12_nextOf_0 : decode cX12_nextOf 0 = .ok (.iload_n 3, 1) := by decide +kernel
theorem dX12_nextOf_1 : decode cX12_nextOf 1 = .ok (.ifCond .eq 17, 3) := by decide +kernel
theorem dX12_nextOf_4 : decode cX12_nextOf 4 = .ok (.aload_n 0, 1) := by decide +kernel
theorem dX12_nextOf_5 : decode cX12_nextOf 5 = .ok (.getfield 20, 3) := by decide +kernel
theorem dX12_nextOf_8 : decode cX12_nextOf 8 = .ok (.bipush 12, 2) := by decide +kernel
theorem dX12_nextOf_10 : decode cX12_nextOf 10 = .ok (.iload_n 1, 1) := by decide +kernel
theorem dX12_nextOf_11 : decode cX12_nextOf 11 = .ok (.imul, 1) := by decide +kernel
theorem dX12_nextOf_12 : decode cX12_nextOf 12 = .ok (.iload_n 2, 1) := by decide +kernel
theorem dX12_nextOf_13 : decode cX12_nextOf 13 = .ok (.iadd, 1) := by decide +kernel
theorem dX12_nextOf_14 : decode cX12_nextOf 14 = .ok (.iaload, 1) := by decide +kernel
theorem dX12_nextOf_15 : decode cX12_nextOf 15 = .ok (.goto 14, 3) := by decide +kernel
theorem dX12_nextOf_18 : decode cX12_nextOf 18 = .ok (.aload_n 0, 1) := by decide +kernel
theorem dX12_nextOf_19 : decode cX12_nextOf 19 = .ok (.getfield 23, 3) := by decide +kernel
theorem dX12_nextOf_22 : decode cX12_nextOf 22 = .ok (.bipush 12, 2) := by decide +kernel
theorem dX12_nextOf_24 : decode cX12_nextOf 24 = .ok (.iload_n 1, 1) := by decide +kernel
theorem dX12_nextOf_25 : decode cX12_nextOf 25 = .ok (.imul, 1) := by decide +kernel
theorem dX12_nextOf_26 : decode cX12_nextOf 26 = .ok (.iload_n 2, 1) := by decide +kernel
theorem dX12_nextOf_27 : decode cX12_nextOf 27 = .ok (.iadd, 1) := by decide +kernel
theorem dX12_nextOf_28 : decode cX12_nextOf 28 = .ok (.iaload, 1) := by decide +kernel
theorem dX12_nextOf_29 : decode cX12_nextOf 29 = .ok (.ireturn, 1) := by decide +kernel
theorem dX12_factOf_0 : decode cX12_factOf 0 = .ok (.aload_n 0, 1) := by decide +kernel
theorem dX12_factOf_1 : decode cX12_factOf 1 = .ok (.getfield 17, 3) := by decide +kernel
theorem dX12_factOf_4 : decode cX12_factOf 4 = .ok (.bipush 12, 2) := by decide +kernel
theorem dX12_factOf_6 : decode cX12_factOf 6 = .ok (.iload_n 1, 1) := by decide +kernel
theorem dX12_factOf_7 : decode cX12_factOf 7 = .ok (.imul, 1) := by decide +kernel
theorem dX12_factOf_8 : decode cX12_factOf 8 = .ok (.iload_n 2, 1) := by decide +kernel
theorem dX12_factOf_9 : decode cX12_factOf 9 = .ok (.iadd, 1) := by decide +kernel
theorem dX12_factOf_10 : decode cX12_factOf 10 = .ok (.iaload, 1) := by decide +kernel
theorem dX12_factOf_11 : decode cX12_factOf 11 = .ok (.ireturn, 1) := by decide +kernel
theorem dX12_leadsOn_0 : decode cX12_leadsOn 0 = .ok (.iconst 0, 1) := by decide +kernel
theorem dX12_leadsOn_1 : decode cX12_leadsOn 1 = .ok (.istore_n 3, 1) := by decide +kernel
theorem dX12_leadsOn_2 : decode cX12_leadsOn 2 = .ok (.iload_n 3, 1) := by decide +kernel
theorem dX12_leadsOn_3 : decode cX12_leadsOn 3 = .ok (.bipush 12, 2) := by decide +kernel
theorem dX12_leadsOn_5 : decode cX12_leadsOn 5 = .ok (.if_icmp .ge 23, 3) := by decide +kernel
theorem dX12_leadsOn_8 : decode cX12_leadsOn 8 = .ok (.aload_n 0, 1) := by decide +kernel
theorem dX12_leadsOn_9 : decode cX12_leadsOn 9 = .ok (.iload_n 1, 1) := by decide +kernel
theorem dX12_leadsOn_10 : decode cX12_leadsOn 10 = .ok (.iload_n 3, 1) := by decide +kernel
theorem dX12_leadsOn_11 : decode cX12_leadsOn 11 = .ok (.iload_n 2, 1) := by decide +kernel
theorem dX12_leadsOn_12 : decode cX12_leadsOn 12 = .ok (.aload_n 0, 1) := by decide +kernel
theorem dX12_leadsOn_13 : decode cX12_leadsOn 13 = .ok (.iload_n 1, 1) := by decide +kernel
theorem dX12_leadsOn_14 : decode cX12_leadsOn 14 = .ok (.iload_n 3, 1) := by decide +kernel
theorem dX12_leadsOn_15 : decode cX12_leadsOn 15 = .ok (.invokevirtual 255, 3) := by decide +kernel
theorem dX12_leadsOn_18 : decode cX12_leadsOn 18 = .ok (.invokestatic 157, 3) := by decide +kernel
theorem dX12_leadsOn_21 : decode cX12_leadsOn 21 = .ok (.invokevirtual 258, 3) := by decide +kernel
theorem dX12_leadsOn_24 : decode cX12_leadsOn 24 = .ok (.istore_n 3, 1) := by decide +kernel
theorem dX12_leadsOn_25 : decode cX12_leadsOn 25 = .ok (.goto (-23), 3) := by decide +kernel
theorem dX12_leadsOn_28 : decode cX12_leadsOn 28 = .ok (.iload_n 3, 1) := by decide +kernel
theorem dX12_leadsOn_29 : decode cX12_leadsOn 29 = .ok (.bipush 100, 2) := by decide +kernel
theorem dX12_leadsOn_31 : decode cX12_leadsOn 31 = .ok (.isub, 1) := by decide +kernel
theorem dX12_leadsOn_32 : decode cX12_leadsOn 32 = .ok (.ireturn, 1) := by decide +kernel
theorem dX12_leads_0 : decode cX12_leads 0 = .ok (.aload_n 0, 1) := by decide +kernel
theorem dX12_leads_1 : decode cX12_leads 1 = .ok (.aload_n 0, 1) := by decide +kernel
theorem dX12_leads_2 : decode cX12_leads 2 = .ok (.iload_n 1, 1) := by decide +kernel
theorem dX12_leads_3 : decode cX12_leads 3 = .ok (.invokevirtual 262, 3) := by decide +kernel
theorem dX12_leads_6 : decode cX12_leads 6 = .ok (.ifCond .eq 15, 3) := by decide +kernel
theorem dX12_leads_9 : decode cX12_leads 9 = .ok (.aload_n 0, 1) := by decide +kernel
theorem dX12_leads_10 : decode cX12_leads 10 = .ok (.iload_n 2, 1) := by decide +kernel
theorem dX12_leads_11 : decode cX12_leads 11 = .ok (.invokevirtual 236, 3) := by decide +kernel
theorem dX12_leads_14 : decode cX12_leads 14 = .ok (.ifCond .eq 7, 3) := by decide +kernel
theorem dX12_leads_17 : decode cX12_leads 17 = .ok (.iconst 0, 1) := by decide +kernel
theorem dX12_leads_18 : decode cX12_leads 18 = .ok (.goto 4, 3) := by decide +kernel
theorem dX12_leads_21 : decode cX12_leads 21 = .ok (.iconst 1, 1) := by decide +kernel
theorem dX12_leads_22 : decode cX12_leads 22 = .ok (.putfield 114, 3) := by decide +kernel
theorem dX12_leads_25 : decode cX12_leads 25 = .ok (.aload_n 0, 1) := by decide +kernel
theorem dX12_leads_26 : decode cX12_leads 26 = .ok (.getfield 114, 3) := by decide +kernel
theorem dX12_leads_29 : decode cX12_leads 29 = .ok (.ifCond .le 7, 3) := by decide +kernel
theorem dX12_leads_32 : decode cX12_leads 32 = .ok (.iconst 0, 1) := by decide +kernel
theorem dX12_leads_33 : decode cX12_leads 33 = .ok (.goto 9, 3) := by decide +kernel
theorem dX12_leads_36 : decode cX12_leads 36 = .ok (.aload_n 0, 1) := by decide +kernel
theorem dX12_leads_37 : decode cX12_leads 37 = .ok (.iload_n 1, 1) := by decide +kernel
theorem dX12_leads_38 : decode cX12_leads 38 = .ok (.iload_n 2, 1) := by decide +kernel
theorem dX12_leads_39 : decode cX12_leads 39 = .ok (.invokevirtual 265, 3) := by decide +kernel
theorem dX12_leads_42 : decode cX12_leads 42 = .ok (.ireturn, 1) := by decide +kernel
theorem dX12_apart_0 : decode cX12_apart 0 = .ok (.aload_n 0, 1) := by decide +kernel
theorem dX12_apart_1 : decode cX12_apart 1 = .ok (.iconst 0, 1) := by decide +kernel
theorem dX12_apart_2 : decode cX12_apart 2 = .ok (.putfield 114, 3) := by decide +kernel
theorem dX12_apart_5 : decode cX12_apart 5 = .ok (.aload_n 0, 1) := by decide +kernel
theorem dX12_apart_6 : decode cX12_apart 6 = .ok (.iload_n 1, 1) := by decide +kernel
theorem dX12_apart_7 : decode cX12_apart 7 = .ok (.invokevirtual 262, 3) := by decide +kernel
theorem dX12_apart_10 : decode cX12_apart 10 = .ok (.ifCond .eq 11, 3) := by decide +kernel
theorem dX12_apart_13 : decode cX12_apart 13 = .ok (.aload_n 0, 1) := by decide +kernel
theorem dX12_apart_14 : decode cX12_apart 14 = .ok (.iload_n 2, 1) := by decide +kernel
theorem dX12_apart_15 : decode cX12_apart 15 = .ok (.invokevirtual 233, 3) := by decide +kernel
theorem dX12_apart_18 : decode cX12_apart 18 = .ok (.ifCond .ne 5, 3) := by decide +kernel
theorem dX12_apart_21 : decode cX12_apart 21 = .ok (.iconst (-1), 1) := by decide +kernel
theorem dX12_apart_22 : decode cX12_apart 22 = .ok (.ireturn, 1) := by decide +kernel
theorem dX12_apart_23 : decode cX12_apart 23 = .ok (.iconst 0, 1) := by decide +kernel
theorem dX12_apart_24 : decode cX12_apart 24 = .ok (.istore 4, 2) := by decide +kernel
theorem dX12_apart_26 : decode cX12_apart 26 = .ok (.iconst 0, 1) := by decide +kernel
theorem dX12_apart_27 : decode cX12_apart 27 = .ok (.istore 5, 2) := by decide +kernel
theorem dX12_apart_29 : decode cX12_apart 29 = .ok (.iload 5, 2) := by decide +kernel
theorem dX12_apart_31 : decode cX12_apart 31 = .ok (.aload_n 0, 1) := by decide +kernel
theorem dX12_apart_32 : decode cX12_apart 32 = .ok (.getfield 111, 3) := by decide +kernel
theorem dX12_apart_35 : decode cX12_apart 35 = .ok (.if_icmp .ge 41, 3) := by decide +kernel
theorem dX12_apart_38 : decode cX12_apart 38 = .ok (.aload_n 0, 1) := by decide +kernel
theorem dX12_apart_39 : decode cX12_apart 39 = .ok (.iload_n 1, 1) := by decide +kernel
theorem dX12_apart_40 : decode cX12_apart 40 = .ok (.iload 5, 2) := by decide +kernel
theorem dX12_apart_42 : decode cX12_apart 42 = .ok (.invokevirtual 265, 3) := by decide +kernel
theorem dX12_apart_45 : decode cX12_apart 45 = .ok (.aload_n 0, 1) := by decide +kernel
theorem dX12_apart_46 : decode cX12_apart 46 = .ok (.iload_n 2, 1) := by decide +kernel
theorem dX12_apart_47 : decode cX12_apart 47 = .ok (.iload 5, 2) := by decide +kernel
theorem dX12_apart_49 : decode cX12_apart 49 = .ok (.invokevirtual 239, 3) := by decide +kernel
theorem dX12_apart_52 : decode cX12_apart 52 = .ok (.if_icmp .ne 6, 3) := by decide +kernel
theorem dX12_apart_55 : decode cX12_apart 55 = .ok (.goto 15, 3) := by decide +kernel
theorem dX12_apart_58 : decode cX12_apart 58 = .ok (.iload 4, 2) := by decide +kernel
theorem dX12_apart_60 : decode cX12_apart 60 = .ok (.iload_n 3, 1) := by decide +kernel
theorem dX12_apart_61 : decode cX12_apart 61 = .ok (.if_icmp .ne 6, 3) := by decide +kernel
theorem dX12_apart_64 : decode cX12_apart 64 = .ok (.iload 5, 2) := by decide +kernel
theorem dX12_apart_66 : decode cX12_apart 66 = .ok (.ireturn, 1) := by decide +kernel
theorem dX12_apart_67 : decode cX12_apart 67 = .ok (.iinc 4 1, 3) := by decide +kernel
theorem dX12_apart_70 : decode cX12_apart 70 = .ok (.iinc 5 1, 3) := by decide +kernel
theorem dX12_apart_73 : decode cX12_apart 73 = .ok (.goto (-44), 3) := by decide +kernel
theorem dX12_apart_76 : decode cX12_apart 76 = .ok (.iload_n 3, 1) := by decide +kernel
theorem dX12_apart_77 : decode cX12_apart 77 = .ok (.iconst (-1), 1) := by decide +kernel
theorem dX12_apart_78 : decode cX12_apart 78 = .ok (.if_icmp .ne 8, 3) := by decide +kernel
theorem dX12_apart_81 : decode cX12_apart 81 = .ok (.iload 4, 2) := by decide +kernel
theorem dX12_apart_83 : decode cX12_apart 83 = .ok (.goto 4, 3) := by decide +kernel
theorem dX12_apart_86 : decode cX12_apart 86 = .ok (.iconst (-1), 1) := by decide +kernel
theorem dX12_apart_87 : decode cX12_apart 87 = .ok (.ireturn, 1) := by decide +kernel
theorem dX12_unlike_0 : decode cX12_unlike 0 = .ok (.aload_n 0, 1) := by decide +kernel
theorem dX12_unlike_1 : decode cX12_unlike 1 = .ok (.iconst 0, 1) := by decide +kernel
theorem dX12_unlike_2 : decode cX12_unlike 2 = .ok (.putfield 114, 3) := by decide +kernel
theorem dX12_unlike_5 : decode cX12_unlike 5 = .ok (.aload_n 0, 1) := by decide +kernel
theorem dX12_unlike_6 : decode cX12_unlike 6 = .ok (.iload_n 1, 1) := by decide +kernel
theorem dX12_unlike_7 : decode cX12_unlike 7 = .ok (.invokevirtual 262, 3) := by decide +kernel
theorem dX12_unlike_10 : decode cX12_unlike 10 = .ok (.ifCond .eq 11, 3) := by decide +kernel
theorem dX12_unlike_13 : decode cX12_unlike 13 = .ok (.aload_n 0, 1) := by decide +kernel
theorem dX12_unlike_14 : decode cX12_unlike 14 = .ok (.iload_n 2, 1) := by decide +kernel
theorem dX12_unlike_15 : decode cX12_unlike 15 = .ok (.invokevirtual 262, 3) := by decide +kernel
theorem dX12_unlike_18 : decode cX12_unlike 18 = .ok (.ifCond .ne 5, 3) := by decide +kernel
theorem dX12_unlike_21 : decode cX12_unlike 21 = .ok (.iconst (-1), 1) := by decide +kernel
theorem dX12_unlike_22 : decode cX12_unlike 22 = .ok (.ireturn, 1) := by decide +kernel
theorem dX12_unlike_23 : decode cX12_unlike 23 = .ok (.iconst 0, 1) := by decide +kernel
theorem dX12_unlike_24 : decode cX12_unlike 24 = .ok (.istore_n 3, 1) := by decide +kernel
theorem dX12_unlike_25 : decode cX12_unlike 25 = .ok (.iload_n 3, 1) := by decide +kernel
theorem dX12_unlike_26 : decode cX12_unlike 26 = .ok (.aload_n 0, 1) := by decide +kernel
theorem dX12_unlike_27 : decode cX12_unlike 27 = .ok (.getfield 111, 3) := by decide +kernel
theorem dX12_unlike_30 : decode cX12_unlike 30 = .ok (.if_icmp .ge 26, 3) := by decide +kernel
theorem dX12_unlike_33 : decode cX12_unlike 33 = .ok (.aload_n 0, 1) := by decide +kernel
theorem dX12_unlike_34 : decode cX12_unlike 34 = .ok (.iload_n 1, 1) := by decide +kernel
theorem dX12_unlike_35 : decode cX12_unlike 35 = .ok (.iload_n 3, 1) := by decide +kernel
theorem dX12_unlike_36 : decode cX12_unlike 36 = .ok (.invokevirtual 265, 3) := by decide +kernel
theorem dX12_unlike_39 : decode cX12_unlike 39 = .ok (.aload_n 0, 1) := by decide +kernel
theorem dX12_unlike_40 : decode cX12_unlike 40 = .ok (.iload_n 2, 1) := by decide +kernel
theorem dX12_unlike_41 : decode cX12_unlike 41 = .ok (.iload_n 3, 1) := by decide +kernel
theorem dX12_unlike_42 : decode cX12_unlike 42 = .ok (.invokevirtual 265, 3) := by decide +kernel
theorem dX12_unlike_45 : decode cX12_unlike 45 = .ok (.if_icmp .eq 5, 3) := by decide +kernel
theorem dX12_unlike_48 : decode cX12_unlike 48 = .ok (.iload_n 3, 1) := by decide +kernel
theorem dX12_unlike_49 : decode cX12_unlike 49 = .ok (.ireturn, 1) := by decide +kernel
theorem dX12_unlike_50 : decode cX12_unlike 50 = .ok (.iinc 3 1, 3) := by decide +kernel
theorem dX12_unlike_53 : decode cX12_unlike 53 = .ok (.goto (-28), 3) := by decide +kernel
theorem dX12_unlike_56 : decode cX12_unlike 56 = .ok (.iconst (-1), 1) := by decide +kernel
theorem dX12_unlike_57 : decode cX12_unlike 57 = .ok (.ireturn, 1) := by decide +kernel
theorem dX12_comesTo_0 : decode cX12_comesTo 0 = .ok (.iconst 0, 1) := by decide +kernel
theorem dX12_comesTo_1 : decode cX12_comesTo 1 = .ok (.istore_n 3, 1) := by decide +kernel
theorem dX12_comesTo_2 : decode cX12_comesTo 2 = .ok (.iconst 0, 1) := by decide +kernel
theorem dX12_comesTo_3 : decode cX12_comesTo 3 = .ok (.istore 4, 2) := by decide +kernel
theorem dX12_comesTo_5 : decode cX12_comesTo 5 = .ok (.iload 4, 2) := by decide +kernel
theorem dX12_comesTo_7 : decode cX12_comesTo 7 = .ok (.bipush 12, 2) := by decide +kernel
theorem dX12_comesTo_9 : decode cX12_comesTo 9 = .ok (.if_icmp .ge 33, 3) := by decide +kernel
theorem dX12_comesTo_12 : decode cX12_comesTo 12 = .ok (.iload_n 3, 1) := by decide +kernel
theorem dX12_comesTo_13 : decode cX12_comesTo 13 = .ok (.iconst 1, 1) := by decide +kernel
theorem dX12_comesTo_14 : decode cX12_comesTo 14 = .ok (.iload 4, 2) := by decide +kernel
theorem dX12_comesTo_16 : decode cX12_comesTo 16 = .ok (.ishl, 1) := by decide +kernel
theorem dX12_comesTo_17 : decode cX12_comesTo 17 = .ok (.ior, 1) := by decide +kernel
theorem dX12_comesTo_18 : decode cX12_comesTo 18 = .ok (.istore_n 3, 1) := by decide +kernel
theorem dX12_comesTo_19 : decode cX12_comesTo 19 = .ok (.aload_n 0, 1) := by decide +kernel
theorem dX12_comesTo_20 : decode cX12_comesTo 20 = .ok (.iload_n 1, 1) := by decide +kernel
theorem dX12_comesTo_21 : decode cX12_comesTo 21 = .ok (.iload 4, 2) := by decide +kernel
theorem dX12_comesTo_23 : decode cX12_comesTo 23 = .ok (.iload_n 2, 1) := by decide +kernel
theorem dX12_comesTo_24 : decode cX12_comesTo 24 = .ok (.aload_n 0, 1) := by decide +kernel
theorem dX12_comesTo_25 : decode cX12_comesTo 25 = .ok (.iload_n 1, 1) := by decide +kernel
theorem dX12_comesTo_26 : decode cX12_comesTo 26 = .ok (.iload 4, 2) := by decide +kernel
theorem dX12_comesTo_28 : decode cX12_comesTo 28 = .ok (.invokevirtual 255, 3) := by decide +kernel
theorem dX12_comesTo_31 : decode cX12_comesTo 31 = .ok (.invokestatic 157, 3) := by decide +kernel
theorem dX12_comesTo_34 : decode cX12_comesTo 34 = .ok (.invokevirtual 258, 3) := by decide +kernel
theorem dX12_comesTo_37 : decode cX12_comesTo 37 = .ok (.istore 4, 2) := by decide +kernel
theorem dX12_comesTo_39 : decode cX12_comesTo 39 = .ok (.goto (-34), 3) := by decide +kernel
theorem dX12_comesTo_42 : decode cX12_comesTo 42 = .ok (.iload_n 3, 1) := by decide +kernel
theorem dX12_comesTo_43 : decode cX12_comesTo 43 = .ok (.ireturn, 1) := by decide +kernel
theorem dX12_spoiled_0 : decode cX12_spoiled 0 = .ok (.aload_n 0, 1) := by decide +kernel
theorem dX12_spoiled_1 : decode cX12_spoiled 1 = .ok (.iconst 0, 1) := by decide +kernel
theorem dX12_spoiled_2 : decode cX12_spoiled 2 = .ok (.putfield 114, 3) := by decide +kernel
theorem dX12_spoiled_5 : decode cX12_spoiled 5 = .ok (.aload_n 0, 1) := by decide +kernel
theorem dX12_spoiled_6 : decode cX12_spoiled 6 = .ok (.iload_n 1, 1) := by decide +kernel
theorem dX12_spoiled_7 : decode cX12_spoiled 7 = .ok (.invokevirtual 262, 3) := by decide +kernel
theorem dX12_spoiled_10 : decode cX12_spoiled 10 = .ok (.ifCond .eq 11, 3) := by decide +kernel
theorem dX12_spoiled_13 : decode cX12_spoiled 13 = .ok (.aload_n 0, 1) := by decide +kernel
theorem dX12_spoiled_14 : decode cX12_spoiled 14 = .ok (.iload_n 2, 1) := by decide +kernel
theorem dX12_spoiled_15 : decode cX12_spoiled 15 = .ok (.invokevirtual 233, 3) := by decide +kernel
theorem dX12_spoiled_18 : decode cX12_spoiled 18 = .ok (.ifCond .ne 5, 3) := by decide +kernel
theorem dX12_spoiled_21 : decode cX12_spoiled 21 = .ok (.iconst (-1), 1) := by decide +kernel
theorem dX12_spoiled_22 : decode cX12_spoiled 22 = .ok (.ireturn, 1) := by decide +kernel
theorem dX12_spoiled_23 : decode cX12_spoiled 23 = .ok (.iconst 0, 1) := by decide +kernel
theorem dX12_spoiled_24 : decode cX12_spoiled 24 = .ok (.istore_n 3, 1) := by decide +kernel
theorem dX12_spoiled_25 : decode cX12_spoiled 25 = .ok (.iconst 0, 1) := by decide +kernel
theorem dX12_spoiled_26 : decode cX12_spoiled 26 = .ok (.istore 4, 2) := by decide +kernel
theorem dX12_spoiled_28 : decode cX12_spoiled 28 = .ok (.iload 4, 2) := by decide +kernel
theorem dX12_spoiled_30 : decode cX12_spoiled 30 = .ok (.aload_n 0, 1) := by decide +kernel
theorem dX12_spoiled_31 : decode cX12_spoiled 31 = .ok (.getfield 111, 3) := by decide +kernel
theorem dX12_spoiled_34 : decode cX12_spoiled 34 = .ok (.if_icmp .ge 52, 3) := by decide +kernel
theorem dX12_spoiled_37 : decode cX12_spoiled 37 = .ok (.bipush 31, 2) := by decide +kernel
theorem dX12_spoiled_39 : decode cX12_spoiled 39 = .ok (.aload_n 0, 1) := by decide +kernel
theorem dX12_spoiled_40 : decode cX12_spoiled 40 = .ok (.iload_n 1, 1) := by decide +kernel
theorem dX12_spoiled_41 : decode cX12_spoiled 41 = .ok (.iload 4, 2) := by decide +kernel
theorem dX12_spoiled_43 : decode cX12_spoiled 43 = .ok (.invokevirtual 268, 3) := by decide +kernel
theorem dX12_spoiled_46 : decode cX12_spoiled 46 = .ok (.invokestatic 271, 3) := by decide +kernel
theorem dX12_spoiled_49 : decode cX12_spoiled 49 = .ok (.isub, 1) := by decide +kernel
theorem dX12_spoiled_50 : decode cX12_spoiled 50 = .ok (.istore 5, 2) := by decide +kernel
theorem dX12_spoiled_52 : decode cX12_spoiled 52 = .ok (.iload_n 3, 1) := by decide +kernel
theorem dX12_spoiled_53 : decode cX12_spoiled 53 = .ok (.aload_n 0, 1) := by decide +kernel
theorem dX12_spoiled_54 : decode cX12_spoiled 54 = .ok (.iload_n 1, 1) := by decide +kernel
theorem dX12_spoiled_55 : decode cX12_spoiled 55 = .ok (.iload 4, 2) := by decide +kernel
theorem dX12_spoiled_57 : decode cX12_spoiled 57 = .ok (.invokevirtual 265, 3) := by decide +kernel
theorem dX12_spoiled_60 : decode cX12_spoiled 60 = .ok (.aload_n 0, 1) := by decide +kernel
theorem dX12_spoiled_61 : decode cX12_spoiled 61 = .ok (.iload_n 2, 1) := by decide +kernel
theorem dX12_spoiled_62 : decode cX12_spoiled 62 = .ok (.iload 4, 2) := by decide +kernel
theorem dX12_spoiled_64 : decode cX12_spoiled 64 = .ok (.invokevirtual 239, 3) := by decide +kernel
theorem dX12_spoiled_67 : decode cX12_spoiled 67 = .ok (.if_icmp .eq 10, 3) := by decide +kernel
theorem dX12_spoiled_70 : decode cX12_spoiled 70 = .ok (.iconst 1, 1) := by decide +kernel
theorem dX12_spoiled_71 : decode cX12_spoiled 71 = .ok (.iload 5, 2) := by decide +kernel
theorem dX12_spoiled_73 : decode cX12_spoiled 73 = .ok (.ishl, 1) := by decide +kernel
theorem dX12_spoiled_74 : decode cX12_spoiled 74 = .ok (.goto 4, 3) := by decide +kernel
theorem dX12_spoiled_77 : decode cX12_spoiled 77 = .ok (.iconst 0, 1) := by decide +kernel
theorem dX12_spoiled_78 : decode cX12_spoiled 78 = .ok (.ior, 1) := by decide +kernel
theorem dX12_spoiled_79 : decode cX12_spoiled 79 = .ok (.istore_n 3, 1) := by decide +kernel
theorem dX12_spoiled_80 : decode cX12_spoiled 80 = .ok (.iinc 4 1, 3) := by decide +kernel
theorem dX12_spoiled_83 : decode cX12_spoiled 83 = .ok (.goto (-55), 3) := by decide +kernel
theorem dX12_spoiled_86 : decode cX12_spoiled 86 = .ok (.iload_n 3, 1) := by decide +kernel
theorem dX12_spoiled_87 : decode cX12_spoiled 87 = .ok (.ireturn, 1) := by decide +kernel
theorem dX12_unused_0 : decode cX12_unused 0 = .ok (.aload_n 0, 1) := by decide +kernel
theorem dX12_unused_1 : decode cX12_unused 1 = .ok (.iconst 0, 1) := by decide +kernel
theorem dX12_unused_2 : decode cX12_unused 2 = .ok (.putfield 114, 3) := by decide +kernel
theorem dX12_unused_5 : decode cX12_unused 5 = .ok (.aload_n 0, 1) := by decide +kernel
theorem dX12_unused_6 : decode cX12_unused 6 = .ok (.iload_n 1, 1) := by decide +kernel
theorem dX12_unused_7 : decode cX12_unused 7 = .ok (.invokevirtual 262, 3) := by decide +kernel
theorem dX12_unused_10 : decode cX12_unused 10 = .ok (.ifCond .ne 5, 3) := by decide +kernel
theorem dX12_unused_13 : decode cX12_unused 13 = .ok (.iconst (-1), 1) := by decide +kernel
theorem dX12_unused_14 : decode cX12_unused 14 = .ok (.ireturn, 1) := by decide +kernel
theorem dX12_unused_15 : decode cX12_unused 15 = .ok (.iconst 1, 1) := by decide +kernel
theorem dX12_unused_16 : decode cX12_unused 16 = .ok (.aload_n 0, 1) := by decide +kernel
theorem dX12_unused_17 : decode cX12_unused 17 = .ok (.getfield 26, 3) := by decide +kernel
theorem dX12_unused_20 : decode cX12_unused 20 = .ok (.iload_n 1, 1) := by decide +kernel
theorem dX12_unused_21 : decode cX12_unused 21 = .ok (.iaload, 1) := by decide +kernel
theorem dX12_unused_22 : decode cX12_unused 22 = .ok (.ishl, 1) := by decide +kernel
theorem dX12_unused_23 : decode cX12_unused 23 = .ok (.iconst 1, 1) := by decide +kernel
theorem dX12_unused_24 : decode cX12_unused 24 = .ok (.isub, 1) := by decide +kernel
theorem dX12_unused_25 : decode cX12_unused 25 = .ok (.istore_n 2, 1) := by decide +kernel
theorem dX12_unused_26 : decode cX12_unused 26 = .ok (.iconst 0, 1) := by decide +kernel
theorem dX12_unused_27 : decode cX12_unused 27 = .ok (.istore_n 3, 1) := by decide +kernel
theorem dX12_unused_28 : decode cX12_unused 28 = .ok (.iload_n 3, 1) := by decide +kernel
theorem dX12_unused_29 : decode cX12_unused 29 = .ok (.aload_n 0, 1) := by decide +kernel
theorem dX12_unused_30 : decode cX12_unused 30 = .ok (.getfield 111, 3) := by decide +kernel
theorem dX12_unused_33 : decode cX12_unused 33 = .ok (.if_icmp .ge 20, 3) := by decide +kernel
theorem dX12_unused_36 : decode cX12_unused 36 = .ok (.iload_n 2, 1) := by decide +kernel
theorem dX12_unused_37 : decode cX12_unused 37 = .ok (.aload_n 0, 1) := by decide +kernel
theorem dX12_unused_38 : decode cX12_unused 38 = .ok (.iload_n 1, 1) := by decide +kernel
theorem dX12_unused_39 : decode cX12_unused 39 = .ok (.iload_n 3, 1) := by decide +kernel
theorem dX12_unused_40 : decode cX12_unused 40 = .ok (.invokevirtual 268, 3) := by decide +kernel
theorem dX12_unused_43 : decode cX12_unused 43 = .ok (.iconst (-1), 1) := by decide +kernel
theorem dX12_unused_44 : decode cX12_unused 44 = .ok (.ixor, 1) := by decide +kernel
theorem dX12_unused_45 : decode cX12_unused 45 = .ok (.iand, 1) := by decide +kernel
theorem dX12_unused_46 : decode cX12_unused 46 = .ok (.istore_n 2, 1) := by decide +kernel
theorem dX12_unused_47 : decode cX12_unused 47 = .ok (.iinc 3 1, 3) := by decide +kernel
theorem dX12_unused_50 : decode cX12_unused 50 = .ok (.goto (-22), 3) := by decide +kernel
theorem dX12_unused_53 : decode cX12_unused 53 = .ok (.iload_n 2, 1) := by decide +kernel
theorem dX12_unused_54 : decode cX12_unused 54 = .ok (.ireturn, 1) := by decide +kernel
theorem dX12_set_0 : decode cX12_set 0 = .ok (.aload_n 0, 1) := by decide +kernel
theorem dX12_set_1 : decode cX12_set 1 = .ok (.iconst 0, 1) := by decide +kernel
theorem dX12_set_2 : decode cX12_set 2 = .ok (.putfield 114, 3) := by decide +kernel
theorem dX12_set_5 : decode cX12_set 5 = .ok (.iload_n 1, 1) := by decide +kernel
theorem dX12_set_6 : decode cX12_set 6 = .ok (.iconst 0, 1) := by decide +kernel
theorem dX12_set_7 : decode cX12_set 7 = .ok (.iconst 3, 1) := by decide +kernel
theorem dX12_set_8 : decode cX12_set 8 = .ok (.invokestatic 209, 3) := by decide +kernel
theorem dX12_set_11 : decode cX12_set 11 = .ok (.ifCond .eq 27, 3) := by decide +kernel
theorem dX12_set_14 : decode cX12_set 14 = .ok (.iload_n 1, 1) := by decide +kernel
theorem dX12_set_15 : decode cX12_set 15 = .ok (.iconst 1, 1) := by decide +kernel
theorem dX12_set_16 : decode cX12_set 16 = .ok (.if_icmp .ne 14, 3) := by decide +kernel
theorem dX12_set_19 : decode cX12_set 19 = .ok (.aload_n 0, 1) := by decide +kernel
theorem dX12_set_20 : decode cX12_set 20 = .ok (.iload_n 2, 1) := by decide +kernel
theorem dX12_set_21 : decode cX12_set 21 = .ok (.invokevirtual 274, 3) := by decide +kernel
theorem dX12_set_24 : decode cX12_set 24 = .ok (.ifCond .ne 16, 3) := by decide +kernel
theorem dX12_set_27 : decode cX12_set 27 = .ok (.goto 11, 3) := by decide +kernel
theorem dX12_set_30 : decode cX12_set 30 = .ok (.aload_n 0, 1) := by decide +kernel
theorem dX12_set_31 : decode cX12_set 31 = .ok (.iload_n 2, 1) := by decide +kernel
theorem dX12_set_32 : decode cX12_set 32 = .ok (.invokevirtual 277, 3) := by decide +kernel
theorem dX12_set_35 : decode cX12_set 35 = .ok (.ifCond .ne 5, 3) := by decide +kernel
theorem dX12_set_38 : decode cX12_set 38 = .ok (.iconst 0, 1) := by decide +kernel
theorem dX12_set_39 : decode cX12_set 39 = .ok (.ireturn, 1) := by decide +kernel
theorem dX12_set_40 : decode cX12_set 40 = .ok (.iload_n 1, 1) := by decide +kernel
theorem dX12_set_41 : decode cX12_set 41 = .ok (.iconst 2, 1) := by decide +kernel
theorem dX12_set_42 : decode cX12_set 42 = .ok (.if_icmp .ge 16, 3) := by decide +kernel
theorem dX12_set_45 : decode cX12_set 45 = .ok (.iload_n 3, 1) := by decide +kernel
theorem dX12_set_46 : decode cX12_set 46 = .ok (.iconst 1, 1) := by decide +kernel
theorem dX12_set_47 : decode cX12_set 47 = .ok (.bipush 99, 2) := by decide +kernel
theorem dX12_set_49 : decode cX12_set 49 = .ok (.invokestatic 209, 3) := by decide +kernel
theorem dX12_set_52 : decode cX12_set 52 = .ok (.ifCond .eq 25, 3) := by decide +kernel
theorem dX12_set_55 : decode cX12_set 55 = .ok (.goto 24, 3) := by decide +kernel
theorem dX12_set_58 : decode cX12_set 58 = .ok (.iload_n 3, 1) := by decide +kernel
theorem dX12_set_59 : decode cX12_set 59 = .ok (.iconst 0, 1) := by decide +kernel
theorem dX12_set_60 : decode cX12_set 60 = .ok (.iload_n 1, 1) := by decide +kernel
theorem dX12_set_61 : decode cX12_set 61 = .ok (.iconst 2, 1) := by decide +kernel
theorem dX12_set_62 : decode cX12_set 62 = .ok (.if_icmp .ne 7, 3) := by decide +kernel
theorem dX12_set_65 : decode cX12_set 65 = .ok (.iconst 1, 1) := by decide +kernel
theorem dX12_set_66 : decode cX12_set 66 = .ok (.goto 5, 3) := by decide +kernel
theorem dX12_set_69 : decode cX12_set 69 = .ok (.bipush 10, 2) := by decide +kernel
theorem dX12_set_71 : decode cX12_set 71 = .ok (.invokestatic 209, 3) := by decide +kernel
theorem dX12_set_74 : decode cX12_set 74 = .ok (.ifCond .ne 5, 3) := by decide +kernel
theorem dX12_set_77 : decode cX12_set 77 = .ok (.iconst 0, 1) := by decide +kernel
theorem dX12_set_78 : decode cX12_set 78 = .ok (.ireturn, 1) := by decide +kernel
theorem dX12_set_79 : decode cX12_set 79 = .ok (.iload_n 1, 1) := by decide +kernel
theorem dX12_set_80 : decode cX12_set 80 = .ok (.ifCond .ne 10, 3) := by decide +kernel
theorem dX12_set_83 : decode cX12_set 83 = .ok (.aload_n 0, 1) := by decide +kernel
theorem dX12_set_84 : decode cX12_set 84 = .ok (.getfield 41, 3) := by decide +kernel
theorem dX12_set_87 : decode cX12_set 87 = .ok (.iload_n 2, 1) := by decide +kernel
theorem dX12_set_88 : decode cX12_set 88 = .ok (.iload_n 3, 1) := by decide +kernel
theorem dX12_set_89 : decode cX12_set 89 = .ok (.iastore, 1) := by decide +kernel
theorem dX12_set_90 : decode cX12_set 90 = .ok (.iload_n 1, 1) := by decide +kernel
theorem dX12_set_91 : decode cX12_set 91 = .ok (.iconst 1, 1) := by decide +kernel
theorem dX12_set_92 : decode cX12_set 92 = .ok (.if_icmp .ne 10, 3) := by decide +kernel
theorem dX12_set_95 : decode cX12_set 95 = .ok (.aload_n 0, 1) := by decide +kernel
theorem dX12_set_96 : decode cX12_set 96 = .ok (.getfield 44, 3) := by decide +kernel
theorem dX12_set_99 : decode cX12_set 99 = .ok (.iload_n 2, 1) := by decide +kernel
theorem dX12_set_100 : decode cX12_set 100 = .ok (.iload_n 3, 1) := by decide +kernel
theorem dX12_set_101 : decode cX12_set 101 = .ok (.iastore, 1) := by decide +kernel
theorem dX12_set_102 : decode cX12_set 102 = .ok (.iload_n 1, 1) := by decide +kernel
theorem dX12_set_103 : decode cX12_set 103 = .ok (.iconst 2, 1) := by decide +kernel
theorem dX12_set_104 : decode cX12_set 104 = .ok (.if_icmp .ne 19, 3) := by decide +kernel
theorem dX12_set_107 : decode cX12_set 107 = .ok (.aload_n 0, 1) := by decide +kernel
theorem dX12_set_108 : decode cX12_set 108 = .ok (.getfield 51, 3) := by decide +kernel
theorem dX12_set_111 : decode cX12_set 111 = .ok (.iload_n 2, 1) := by decide +kernel
theorem dX12_set_112 : decode cX12_set 112 = .ok (.iload_n 3, 1) := by decide +kernel
theorem dX12_set_113 : decode cX12_set 113 = .ok (.iconst 1, 1) := by decide +kernel
theorem dX12_set_114 : decode cX12_set 114 = .ok (.if_icmp .ne 7, 3) := by decide +kernel
theorem dX12_set_117 : decode cX12_set 117 = .ok (.iconst 1, 1) := by decide +kernel
theorem dX12_set_118 : decode cX12_set 118 = .ok (.goto 4, 3) := by decide +kernel
theorem dX12_set_121 : decode cX12_set 121 = .ok (.iconst 0, 1) := by decide +kernel
theorem dX12_set_122 : decode cX12_set 122 = .ok (.bastore, 1) := by decide +kernel
theorem dX12_set_123 : decode cX12_set 123 = .ok (.iload_n 1, 1) := by decide +kernel
theorem dX12_set_124 : decode cX12_set 124 = .ok (.iconst 3, 1) := by decide +kernel
theorem dX12_set_125 : decode cX12_set 125 = .ok (.if_icmp .ne 10, 3) := by decide +kernel
theorem dX12_set_128 : decode cX12_set 128 = .ok (.aload_n 0, 1) := by decide +kernel
theorem dX12_set_129 : decode cX12_set 129 = .ok (.getfield 54, 3) := by decide +kernel
theorem dX12_set_132 : decode cX12_set 132 = .ok (.iload_n 2, 1) := by decide +kernel
theorem dX12_set_133 : decode cX12_set 133 = .ok (.iload_n 3, 1) := by decide +kernel
theorem dX12_set_134 : decode cX12_set 134 = .ok (.iastore, 1) := by decide +kernel
theorem dX12_set_135 : decode cX12_set 135 = .ok (.iconst 1, 1) := by decide +kernel
theorem dX12_set_136 : decode cX12_set 136 = .ok (.ireturn, 1) := by decide +kernel
theorem dX12_sort_0 : decode cX12_sort 0 = .ok (.aload_n 0, 1) := by decide +kernel
theorem dX12_sort_1 : decode cX12_sort 1 = .ok (.iconst 0, 1) := by decide +kernel
theorem dX12_sort_2 : decode cX12_sort 2 = .ok (.putfield 114, 3) := by decide +kernel
theorem dX12_sort_5 : decode cX12_sort 5 = .ok (.aload_n 0, 1) := by decide +kernel
theorem dX12_sort_6 : decode cX12_sort 6 = .ok (.getfield 280, 3) := by decide +kernel
theorem dX12_sort_9 : decode cX12_sort 9 = .ok (.iconst 4, 1) := by decide +kernel
theorem dX12_sort_10 : decode cX12_sort 10 = .ok (.if_icmp .eq 13, 3) := by decide +kernel
theorem dX12_sort_13 : decode cX12_sort 13 = .ok (.iload_n 1, 1) := by decide +kernel
theorem dX12_sort_14 : decode cX12_sort 14 = .ok (.iconst 1, 1) := by decide +kernel
theorem dX12_sort_15 : decode cX12_sort 15 = .ok (.bipush 9, 2) := by decide +kernel
theorem dX12_sort_17 : decode cX12_sort 17 = .ok (.invokestatic 209, 3) := by decide +kernel
theorem dX12_sort_20 : decode cX12_sort 20 = .ok (.ifCond .ne 5, 3) := by decide +kernel
theorem dX12_sort_23 : decode cX12_sort 23 = .ok (.iconst (-1), 1) := by decide +kernel
theorem dX12_sort_24 : decode cX12_sort 24 = .ok (.ireturn, 1) := by decide +kernel
theorem dX12_sort_25 : decode cX12_sort 25 = .ok (.aload_n 0, 1) := by decide +kernel
theorem dX12_sort_26 : decode cX12_sort 26 = .ok (.getfield 57, 3) := by decide +kernel
theorem dX12_sort_29 : decode cX12_sort 29 = .ok (.aload_n 0, 1) := by decide +kernel
theorem dX12_sort_30 : decode cX12_sort 30 = .ok (.getfield 280, 3) := by decide +kernel
theorem dX12_sort_33 : decode cX12_sort 33 = .ok (.iload_n 1, 1) := by decide +kernel
theorem dX12_sort_34 : decode cX12_sort 34 = .ok (.iastore, 1) := by decide +kernel
theorem dX12_sort_35 : decode cX12_sort 35 = .ok (.iconst 0, 1) := by decide +kernel
theorem dX12_sort_36 : decode cX12_sort 36 = .ok (.istore_n 2, 1) := by decide +kernel
theorem dX12_sort_37 : decode cX12_sort 37 = .ok (.iload_n 2, 1) := by decide +kernel
theorem dX12_sort_38 : decode cX12_sort 38 = .ok (.bipush 9, 2) := by decide +kernel
theorem dX12_sort_40 : decode cX12_sort 40 = .ok (.if_icmp .ge 24, 3) := by decide +kernel
theorem dX12_sort_43 : decode cX12_sort 43 = .ok (.aload_n 0, 1) := by decide +kernel
theorem dX12_sort_44 : decode cX12_sort 44 = .ok (.getfield 60, 3) := by decide +kernel
theorem dX12_sort_47 : decode cX12_sort 47 = .ok (.bipush 9, 2) := by decide +kernel
theorem dX12_sort_49 : decode cX12_sort 49 = .ok (.aload_n 0, 1) := by decide +kernel
theorem dX12_sort_50 : decode cX12_sort 50 = .ok (.getfield 280, 3) := by decide +kernel
theorem dX12_sort_53 : decode cX12_sort 53 = .ok (.imul, 1) := by decide +kernel
theorem dX12_sort_54 : decode cX12_sort 54 = .ok (.iload_n 2, 1) := by decide +kernel
theorem dX12_sort_55 : decode cX12_sort 55 = .ok (.iadd, 1) := by decide +kernel
theorem dX12_sort_56 : decode cX12_sort 56 = .ok (.iconst 5, 1) := by decide +kernel
theorem dX12_sort_57 : decode cX12_sort 57 = .ok (.iastore, 1) := by decide +kernel
theorem dX12_sort_58 : decode cX12_sort 58 = .ok (.iinc 2 1, 3) := by decide +kernel
theorem dX12_sort_61 : decode cX12_sort 61 = .ok (.goto (-24), 3) := by decide +kernel
theorem dX12_sort_64 : decode cX12_sort 64 = .ok (.aload_n 0, 1) := by decide +kernel
theorem dX12_sort_65 : decode cX12_sort 65 = .ok (.dup, 1) := by decide +kernel
theorem dX12_sort_66 : decode cX12_sort 66 = .ok (.getfield 280, 3) := by decide +kernel
theorem dX12_sort_69 : decode cX12_sort 69 = .ok (.iconst 1, 1) := by decide +kernel
theorem dX12_sort_70 : decode cX12_sort 70 = .ok (.iadd, 1) := by decide +kernel
theorem dX12_sort_71 : decode cX12_sort 71 = .ok (.putfield 280, 3) := by decide +kernel
theorem dX12_sort_74 : decode cX12_sort 74 = .ok (.aload_n 0, 1) := by decide +kernel
theorem dX12_sort_75 : decode cX12_sort 75 = .ok (.getfield 280, 3) := by decide +kernel
theorem dX12_sort_78 : decode cX12_sort 78 = .ok (.iconst 1, 1) := by decide +kernel
theorem dX12_sort_79 : decode cX12_sort 79 = .ok (.isub, 1) := by decide +kernel
theorem dX12_sort_80 : decode cX12_sort 80 = .ok (.ireturn, 1) := by decide +kernel
theorem dX12_chance_0 : decode cX12_chance 0 = .ok (.aload_n 0, 1) := by decide +kernel
theorem dX12_chance_1 : decode cX12_chance 1 = .ok (.iconst 0, 1) := by decide +kernel
theorem dX12_chance_2 : decode cX12_chance 2 = .ok (.putfield 114, 3) := by decide +kernel
theorem dX12_chance_5 : decode cX12_chance 5 = .ok (.iload_n 1, 1) := by decide +kernel
theorem dX12_chance_6 : decode cX12_chance 6 = .ok (.iconst 0, 1) := by decide +kernel
theorem dX12_chance_7 : decode cX12_chance 7 = .ok (.aload_n 0, 1) := by decide +kernel
theorem dX12_chance_8 : decode cX12_chance 8 = .ok (.getfield 280, 3) := by decide +kernel
theorem dX12_chance_11 : decode cX12_chance 11 = .ok (.iconst 1, 1) := by decide +kernel
theorem dX12_chance_12 : decode cX12_chance 12 = .ok (.isub, 1) := by decide +kernel
theorem dX12_chance_13 : decode cX12_chance 13 = .ok (.invokestatic 209, 3) := by decide +kernel
theorem dX12_chance_16 : decode cX12_chance 16 = .ok (.ifCond .eq 21, 3) := by decide +kernel
theorem dX12_chance_19 : decode cX12_chance 19 = .ok (.aload_n 0, 1) := by decide +kernel
theorem dX12_chance_20 : decode cX12_chance 20 = .ok (.iload_n 2, 1) := by decide +kernel
theorem dX12_chance_21 : decode cX12_chance 21 = .ok (.invokevirtual 277, 3) := by decide +kernel
theorem dX12_chance_24 : decode cX12_chance 24 = .ok (.ifCond .eq 13, 3) := by decide +kernel
theorem dX12_chance_27 : decode cX12_chance 27 = .ok (.iload_n 3, 1) := by decide +kernel
theorem dX12_chance_28 : decode cX12_chance 28 = .ok (.iconst 0, 1) := by decide +kernel
theorem dX12_chance_29 : decode cX12_chance 29 = .ok (.bipush 10, 2) := by decide +kernel
theorem dX12_chance_31 : decode cX12_chance 31 = .ok (.invokestatic 209, 3) := by decide +kernel
theorem dX12_chance_34 : decode cX12_chance 34 = .ok (.ifCond .ne 5, 3) := by decide +kernel
theorem dX12_chance_37 : decode cX12_chance 37 = .ok (.iconst 0, 1) := by decide +kernel
theorem dX12_chance_38 : decode cX12_chance 38 = .ok (.ireturn, 1) := by decide +kernel
theorem dX12_chance_39 : decode cX12_chance 39 = .ok (.aload_n 0, 1) := by decide +kernel
theorem dX12_chance_40 : decode cX12_chance 40 = .ok (.getfield 60, 3) := by decide +kernel
theorem dX12_chance_43 : decode cX12_chance 43 = .ok (.bipush 9, 2) := by decide +kernel
theorem dX12_chance_45 : decode cX12_chance 45 = .ok (.iload_n 1, 1) := by decide +kernel
theorem dX12_chance_46 : decode cX12_chance 46 = .ok (.imul, 1) := by decide +kernel
theorem dX12_chance_47 : decode cX12_chance 47 = .ok (.iload_n 2, 1) := by decide +kernel
theorem dX12_chance_48 : decode cX12_chance 48 = .ok (.iadd, 1) := by decide +kernel
theorem dX12_chance_49 : decode cX12_chance 49 = .ok (.iload_n 3, 1) := by decide +kernel
theorem dX12_chance_50 : decode cX12_chance 50 = .ok (.iastore, 1) := by decide +kernel
theorem dX12_chance_51 : decode cX12_chance 51 = .ok (.iconst 1, 1) := by decide +kernel
theorem dX12_chance_52 : decode cX12_chance 52 = .ok (.ireturn, 1) := by decide +kernel
theorem dX12_shareOf_0 : decode cX12_shareOf 0 = .ok (.lconst 0, 1) := by decide +kernel
theorem dX12_shareOf_1 : decode cX12_shareOf 1 = .ok (.lstore_n 3, 1) := by decide +kernel
theorem dX12_shareOf_2 : decode cX12_shareOf 2 = .ok (.iconst 0, 1) := by decide +kernel
theorem dX12_shareOf_3 : decode cX12_shareOf 3 = .ok (.istore 5, 2) := by decide +kernel
theorem dX12_shareOf_5 : decode cX12_shareOf 5 = .ok (.iload 5, 2) := by decide +kernel
theorem dX12_shareOf_7 : decode cX12_shareOf 7 = .ok (.aload_n 0, 1) := by decide +kernel
theorem dX12_shareOf_8 : decode cX12_shareOf 8 = .ok (.getfield 280, 3) := by decide +kernel
theorem dX12_shareOf_11 : decode cX12_shareOf 11 = .ok (.if_icmp .ge 105, 3) := by decide +kernel
theorem dX12_shareOf_14 : decode cX12_shareOf 14 = .ok (.aload_n 0, 1) := by decide +kernel
theorem dX12_shareOf_15 : decode cX12_shareOf 15 = .ok (.getfield 57, 3) := by decide +kernel
theorem dX12_shareOf_18 : decode cX12_shareOf 18 = .ok (.iload 5, 2) := by decide +kernel
theorem dX12_shareOf_20 : decode cX12_shareOf 20 = .ok (.iaload, 1) := by decide +kernel
theorem dX12_shareOf_21 : decode cX12_shareOf 21 = .ok (.i2l, 1) := by decide +kernel
theorem dX12_shareOf_22 : decode cX12_shareOf 22 = .ok (.lstore 6, 2) := by decide +kernel
theorem dX12_shareOf_24 : decode cX12_shareOf 24 = .ok (.iconst 0, 1) := by decide +kernel
theorem dX12_shareOf_25 : decode cX12_shareOf 25 = .ok (.istore 8, 2) := by decide +kernel
theorem dX12_shareOf_27 : decode cX12_shareOf 27 = .ok (.iload 8, 2) := by decide +kernel
theorem dX12_shareOf_29 : decode cX12_shareOf 29 = .ok (.aload_n 0, 1) := by decide +kernel
theorem dX12_shareOf_30 : decode cX12_shareOf 30 = .ok (.getfield 107, 3) := by decide +kernel
theorem dX12_shareOf_33 : decode cX12_shareOf 33 = .ok (.if_icmp .ge 72, 3) := by decide +kernel
theorem dX12_shareOf_36 : decode cX12_shareOf 36 = .ok (.lload 6, 2) := by decide +kernel
theorem dX12_shareOf_38 : decode cX12_shareOf 38 = .ok (.iload_n 1, 1) := by decide +kernel
theorem dX12_shareOf_39 : decode cX12_shareOf 39 = .ok (.iload 8, 2) := by decide +kernel
theorem dX12_shareOf_41 : decode cX12_shareOf 41 = .ok (.invokestatic 157, 3) := by decide +kernel
theorem dX12_shareOf_44 : decode cX12_shareOf 44 = .ok (.ifCond .ne 9, 3) := by decide +kernel
theorem dX12_shareOf_47 : decode cX12_shareOf 47 = .ok (.ldc2_w 283, 3) := by decide +kernel
theorem dX12_shareOf_50 : decode cX12_shareOf 50 = .ok (.goto 46, 3) := by decide +kernel
theorem dX12_shareOf_53 : decode cX12_shareOf 53 = .ok (.iload_n 2, 1) := by decide +kernel
theorem dX12_shareOf_54 : decode cX12_shareOf 54 = .ok (.iload 8, 2) := by decide +kernel
theorem dX12_shareOf_56 : decode cX12_shareOf 56 = .ok (.invokestatic 157, 3) := by decide +kernel
theorem dX12_shareOf_59 : decode cX12_shareOf 59 = .ok (.ifCond .eq 20, 3) := by decide +kernel
theorem dX12_shareOf_62 : decode cX12_shareOf 62 = .ok (.aload_n 0, 1) := by decide +kernel
theorem dX12_shareOf_63 : decode cX12_shareOf 63 = .ok (.getfield 60, 3) := by decide +kernel
theorem dX12_shareOf_66 : decode cX12_shareOf 66 = .ok (.bipush 9, 2) := by decide +kernel
theorem dX12_shareOf_68 : decode cX12_shareOf 68 = .ok (.iload 5, 2) := by decide +kernel
theorem dX12_shareOf_70 : decode cX12_shareOf 70 = .ok (.imul, 1) := by decide +kernel
theorem dX12_shareOf_71 : decode cX12_shareOf 71 = .ok (.iload 8, 2) := by decide +kernel
theorem dX12_shareOf_73 : decode cX12_shareOf 73 = .ok (.iadd, 1) := by decide +kernel
theorem dX12_shareOf_74 : decode cX12_shareOf 74 = .ok (.iaload, 1) := by decide +kernel
theorem dX12_shareOf_75 : decode cX12_shareOf 75 = .ok (.i2l, 1) := by decide +kernel
theorem dX12_shareOf_76 : decode cX12_shareOf 76 = .ok (.goto 20, 3) := by decide +kernel
theorem dX12_shareOf_79 : decode cX12_shareOf 79 = .ok (.bipush 10, 2) := by decide +kernel
theorem dX12_shareOf_81 : decode cX12_shareOf 81 = .ok (.aload_n 0, 1) := by decide +kernel
theorem dX12_shareOf_82 : decode cX12_shareOf 82 = .ok (.getfield 60, 3) := by decide +kernel
theorem dX12_shareOf_85 : decode cX12_shareOf 85 = .ok (.bipush 9, 2) := by decide +kernel
theorem dX12_shareOf_87 : decode cX12_shareOf 87 = .ok (.iload 5, 2) := by decide +kernel
theorem dX12_shareOf_89 : decode cX12_shareOf 89 = .ok (.imul, 1) := by decide +kernel
theorem dX12_shareOf_90 : decode cX12_shareOf 90 = .ok (.iload 8, 2) := by decide +kernel
theorem dX12_shareOf_92 : decode cX12_shareOf 92 = .ok (.iadd, 1) := by decide +kernel
theorem dX12_shareOf_93 : decode cX12_shareOf 93 = .ok (.iaload, 1) := by decide +kernel
theorem dX12_shareOf_94 : decode cX12_shareOf 94 = .ok (.isub, 1) := by decide +kernel
theorem dX12_shareOf_95 : decode cX12_shareOf 95 = .ok (.i2l, 1) := by decide +kernel
theorem dX12_shareOf_96 : decode cX12_shareOf 96 = .ok (.lmul, 1) := by decide +kernel
theorem dX12_shareOf_97 : decode cX12_shareOf 97 = .ok (.lstore 6, 2) := by decide +kernel
theorem dX12_shareOf_99 : decode cX12_shareOf 99 = .ok (.iinc 8 1, 3) := by decide +kernel
theorem dX12_shareOf_102 : decode cX12_shareOf 102 = .ok (.goto (-75), 3) := by decide +kernel
theorem dX12_shareOf_105 : decode cX12_shareOf 105 = .ok (.lload_n 3, 1) := by decide +kernel
theorem dX12_shareOf_106 : decode cX12_shareOf 106 = .ok (.lload 6, 2) := by decide +kernel
theorem dX12_shareOf_108 : decode cX12_shareOf 108 = .ok (.ladd, 1) := by decide +kernel
theorem dX12_shareOf_109 : decode cX12_shareOf 109 = .ok (.lstore_n 3, 1) := by decide +kernel
theorem dX12_shareOf_110 : decode cX12_shareOf 110 = .ok (.iinc 5 1, 3) := by decide +kernel
theorem dX12_shareOf_113 : decode cX12_shareOf 113 = .ok (.goto (-108), 3) := by decide +kernel
theorem dX12_shareOf_116 : decode cX12_shareOf 116 = .ok (.lload_n 3, 1) := by decide +kernel
theorem dX12_shareOf_117 : decode cX12_shareOf 117 = .ok (.lreturn, 1) := by decide +kernel
theorem dX12_share_0 : decode cX12_share 0 = .ok (.aload_n 0, 1) := by decide +kernel
theorem dX12_share_1 : decode cX12_share 1 = .ok (.iconst 0, 1) := by decide +kernel
theorem dX12_share_2 : decode cX12_share 2 = .ok (.putfield 114, 3) := by decide +kernel
theorem dX12_share_5 : decode cX12_share 5 = .ok (.aload_n 0, 1) := by decide +kernel
theorem dX12_share_6 : decode cX12_share 6 = .ok (.iload_n 1, 1) := by decide +kernel
theorem dX12_share_7 : decode cX12_share 7 = .ok (.iload_n 2, 1) := by decide +kernel
theorem dX12_share_8 : decode cX12_share 8 = .ok (.invokevirtual 245, 3) := by decide +kernel
theorem dX12_share_11 : decode cX12_share 11 = .ok (.ifCond .eq 12, 3) := by decide +kernel
theorem dX12_share_14 : decode cX12_share 14 = .ok (.aload_n 0, 1) := by decide +kernel
theorem dX12_share_15 : decode cX12_share 15 = .ok (.iload_n 1, 1) := by decide +kernel
theorem dX12_share_16 : decode cX12_share 16 = .ok (.iload_n 2, 1) := by decide +kernel
theorem dX12_share_17 : decode cX12_share 17 = .ok (.invokevirtual 285, 3) := by decide +kernel
theorem dX12_share_20 : decode cX12_share 20 = .ok (.goto 6, 3) := by decide +kernel
theorem dX12_share_23 : decode cX12_share 23 = .ok (.ldc2_w 289, 3) := by decide +kernel
theorem dX12_share_26 : decode cX12_share 26 = .ok (.lreturn, 1) := by decide +kernel
theorem dX12_state_0 : decode cX12_state 0 = .ok (.iload_n 1, 1) := by decide +kernel
theorem dX12_state_1 : decode cX12_state 1 = .ok (.bipush 9, 2) := by decide +kernel
theorem dX12_state_3 : decode cX12_state 3 = .ok (.ishl, 1) := by decide +kernel
theorem dX12_state_4 : decode cX12_state 4 = .ok (.iload_n 2, 1) := by decide +kernel
theorem dX12_state_5 : decode cX12_state 5 = .ok (.ior, 1) := by decide +kernel
theorem dX12_state_6 : decode cX12_state 6 = .ok (.ireturn, 1) := by decide +kernel
theorem dX12_joined_0 : decode cX12_joined 0 = .ok (.aload_n 1, 1) := by decide +kernel
theorem dX12_joined_1 : decode cX12_joined 1 = .ok (.aload_n 0, 1) := by decide +kernel
theorem dX12_joined_2 : decode cX12_joined 2 = .ok (.iload_n 2, 1) := by decide +kernel
theorem dX12_joined_3 : decode cX12_joined 3 = .ok (.iconst 1, 1) := by decide +kernel
theorem dX12_joined_4 : decode cX12_joined 4 = .ok (.iload 4, 2) := by decide +kernel
theorem dX12_joined_6 : decode cX12_joined 6 = .ok (.ishl, 1) := by decide +kernel
theorem dX12_joined_7 : decode cX12_joined 7 = .ok (.ior, 1) := by decide +kernel
theorem dX12_joined_8 : decode cX12_joined 8 = .ok (.iload_n 3, 1) := by decide +kernel
theorem dX12_joined_9 : decode cX12_joined 9 = .ok (.invokevirtual 291, 3) := by decide +kernel
theorem dX12_joined_12 : decode cX12_joined 12 = .ok (.iaload, 1) := by decide +kernel
theorem dX12_joined_13 : decode cX12_joined 13 = .ok (.istore 5, 2) := by decide +kernel
theorem dX12_joined_15 : decode cX12_joined 15 = .ok (.aload_n 1, 1) := by decide +kernel
theorem dX12_joined_16 : decode cX12_joined 16 = .ok (.aload_n 0, 1) := by decide +kernel
theorem dX12_joined_17 : decode cX12_joined 17 = .ok (.iload_n 2, 1) := by decide +kernel
theorem dX12_joined_18 : decode cX12_joined 18 = .ok (.iconst 1, 1) := by decide +kernel
theorem dX12_joined_19 : decode cX12_joined 19 = .ok (.iload 4, 2) := by decide +kernel
theorem dX12_joined_21 : decode cX12_joined 21 = .ok (.ishl, 1) := by decide +kernel
theorem dX12_joined_22 : decode cX12_joined 22 = .ok (.ior, 1) := by decide +kernel
theorem dX12_joined_23 : decode cX12_joined 23 = .ok (.iload_n 3, 1) := by decide +kernel
theorem dX12_joined_24 : decode cX12_joined 24 = .ok (.iconst 1, 1) := by decide +kernel
theorem dX12_joined_25 : decode cX12_joined 25 = .ok (.iload 4, 2) := by decide +kernel
theorem dX12_joined_27 : decode cX12_joined 27 = .ok (.ishl, 1) := by decide +kernel
theorem dX12_joined_28 : decode cX12_joined 28 = .ok (.ior, 1) := by decide +kernel
theorem dX12_joined_29 : decode cX12_joined 29 = .ok (.invokevirtual 291, 3) := by decide +kernel
theorem dX12_joined_32 : decode cX12_joined 32 = .ok (.iaload, 1) := by decide +kernel
theorem dX12_joined_33 : decode cX12_joined 33 = .ok (.istore 6, 2) := by decide +kernel
theorem dX12_joined_35 : decode cX12_joined 35 = .ok (.iload 5, 2) := by decide +kernel
theorem dX12_joined_37 : decode cX12_joined 37 = .ok (.iload 6, 2) := by decide +kernel
theorem dX12_joined_39 : decode cX12_joined 39 = .ok (.if_icmp .ne 8, 3) := by decide +kernel
theorem dX12_joined_42 : decode cX12_joined 42 = .ok (.iload 5, 2) := by decide +kernel
theorem dX12_joined_44 : decode cX12_joined 44 = .ok (.goto 5, 3) := by decide +kernel
theorem dX12_joined_47 : decode cX12_joined 47 = .ok (.bipush (-2), 2) := by decide +kernel
theorem dX12_joined_49 : decode cX12_joined 49 = .ok (.ireturn, 1) := by decide +kernel
theorem dX12_isOut_0 : decode cX12_isOut 0 = .ok (.aload_n 0, 1) := by decide +kernel
theorem dX12_isOut_1 : decode cX12_isOut 1 = .ok (.getfield 64, 3) := by decide +kernel
theorem dX12_isOut_4 : decode cX12_isOut 4 = .ok (.iload_n 1, 1) := by decide +kernel
theorem dX12_isOut_5 : decode cX12_isOut 5 = .ok (.iaload, 1) := by decide +kernel
theorem dX12_isOut_6 : decode cX12_isOut 6 = .ok (.bipush (-2), 2) := by decide +kernel
theorem dX12_isOut_8 : decode cX12_isOut 8 = .ok (.if_icmp .eq 22, 3) := by decide +kernel
theorem dX12_isOut_11 : decode cX12_isOut 11 = .ok (.iload_n 2, 1) := by decide +kernel
theorem dX12_isOut_12 : decode cX12_isOut 12 = .ok (.ifCond .eq 14, 3) := by decide +kernel
theorem dX12_isOut_15 : decode cX12_isOut 15 = .ok (.aload_n 0, 1) := by decide +kernel
theorem dX12_isOut_16 : decode cX12_isOut 16 = .ok (.getfield 67, 3) := by decide +kernel
theorem dX12_isOut_19 : decode cX12_isOut 19 = .ok (.iload_n 1, 1) := by decide +kernel
theorem dX12_isOut_20 : decode cX12_isOut 20 = .ok (.iaload, 1) := by decide +kernel
theorem dX12_isOut_21 : decode cX12_isOut 21 = .ok (.bipush (-2), 2) := by decide +kernel
theorem dX12_isOut_23 : decode cX12_isOut 23 = .ok (.if_icmp .eq 7, 3) := by decide +kernel
theorem dX12_isOut_26 : decode cX12_isOut 26 = .ok (.iconst 1, 1) := by decide +kernel
theorem dX12_isOut_27 : decode cX12_isOut 27 = .ok (.goto 4, 3) := by decide +kernel
theorem dX12_isOut_30 : decode cX12_isOut 30 = .ok (.iconst 0, 1) := by decide +kernel
theorem dX12_isOut_31 : decode cX12_isOut 31 = .ok (.ireturn, 1) := by decide +kernel
theorem dX12_meanBy_0 : decode cX12_meanBy 0 = .ok (.aload_n 0, 1) := by decide +kernel
theorem dX12_meanBy_1 : decode cX12_meanBy 1 = .ok (.getfield 73, 3) := by decide +kernel
theorem dX12_meanBy_4 : decode cX12_meanBy 4 = .ok (.aload_n 0, 1) := by decide +kernel
theorem dX12_meanBy_5 : decode cX12_meanBy 5 = .ok (.iload_n 1, 1) := by decide +kernel
theorem dX12_meanBy_6 : decode cX12_meanBy 6 = .ok (.iconst 1, 1) := by decide +kernel
theorem dX12_meanBy_7 : decode cX12_meanBy 7 = .ok (.iload_n 3, 1) := by decide +kernel
theorem dX12_meanBy_8 : decode cX12_meanBy 8 = .ok (.ishl, 1) := by decide +kernel
theorem dX12_meanBy_9 : decode cX12_meanBy 9 = .ok (.ior, 1) := by decide +kernel
theorem dX12_meanBy_10 : decode cX12_meanBy 10 = .ok (.iload_n 2, 1) := by decide +kernel
theorem dX12_meanBy_11 : decode cX12_meanBy 11 = .ok (.invokevirtual 291, 3) := by decide +kernel
theorem dX12_meanBy_14 : decode cX12_meanBy 14 = .ok (.laload, 1) := by decide +kernel
theorem dX12_meanBy_15 : decode cX12_meanBy 15 = .ok (.lstore 4, 2) := by decide +kernel
theorem dX12_meanBy_17 : decode cX12_meanBy 17 = .ok (.aload_n 0, 1) := by decide +kernel
theorem dX12_meanBy_18 : decode cX12_meanBy 18 = .ok (.getfield 73, 3) := by decide +kernel
theorem dX12_meanBy_21 : decode cX12_meanBy 21 = .ok (.aload_n 0, 1) := by decide +kernel
theorem dX12_meanBy_22 : decode cX12_meanBy 22 = .ok (.iload_n 1, 1) := by decide +kernel
theorem dX12_meanBy_23 : decode cX12_meanBy 23 = .ok (.iconst 1, 1) := by decide +kernel
theorem dX12_meanBy_24 : decode cX12_meanBy 24 = .ok (.iload_n 3, 1) := by decide +kernel
theorem dX12_meanBy_25 : decode cX12_meanBy 25 = .ok (.ishl, 1) := by decide +kernel
theorem dX12_meanBy_26 : decode cX12_meanBy 26 = .ok (.ior, 1) := by decide +kernel
theorem dX12_meanBy_27 : decode cX12_meanBy 27 = .ok (.iload_n 2, 1) := by decide +kernel
theorem dX12_meanBy_28 : decode cX12_meanBy 28 = .ok (.iconst 1, 1) := by decide +kernel
theorem dX12_meanBy_29 : decode cX12_meanBy 29 = .ok (.iload_n 3, 1) := by decide +kernel
theorem dX12_meanBy_30 : decode cX12_meanBy 30 = .ok (.ishl, 1) := by decide +kernel
theorem dX12_meanBy_31 : decode cX12_meanBy 31 = .ok (.ior, 1) := by decide +kernel
theorem dX12_meanBy_32 : decode cX12_meanBy 32 = .ok (.invokevirtual 291, 3) := by decide +kernel
theorem dX12_meanBy_35 : decode cX12_meanBy 35 = .ok (.laload, 1) := by decide +kernel
theorem dX12_meanBy_36 : decode cX12_meanBy 36 = .ok (.lstore 6, 2) := by decide +kernel
theorem dX12_meanBy_38 : decode cX12_meanBy 38 = .ok (.lload 4, 2) := by decide +kernel
theorem dX12_meanBy_40 : decode cX12_meanBy 40 = .ok (.ldc2_w 294, 3) := by decide +kernel
theorem dX12_meanBy_43 : decode cX12_meanBy 43 = .ok (.lcmp, 1) := by decide +kernel
theorem dX12_meanBy_44 : decode cX12_meanBy 44 = .ok (.ifCond .ge 12, 3) := by decide +kernel
theorem dX12_meanBy_47 : decode cX12_meanBy 47 = .ok (.lload 6, 2) := by decide +kernel
theorem dX12_meanBy_49 : decode cX12_meanBy 49 = .ok (.ldc2_w 294, 3) := by decide +kernel
theorem dX12_meanBy_52 : decode cX12_meanBy 52 = .ok (.lcmp, 1) := by decide +kernel
theorem dX12_meanBy_53 : decode cX12_meanBy 53 = .ok (.ifCond .lt 9, 3) := by decide +kernel
theorem dX12_meanBy_56 : decode cX12_meanBy 56 = .ok (.ldc2_w 294, 3) := by decide +kernel
theorem dX12_meanBy_59 : decode cX12_meanBy 59 = .ok (.goto 23, 3) := by decide +kernel
theorem dX12_meanBy_62 : decode cX12_meanBy 62 = .ok (.aload_n 0, 1) := by decide +kernel
theorem dX12_meanBy_63 : decode cX12_meanBy 63 = .ok (.iload_n 1, 1) := by decide +kernel
theorem dX12_meanBy_64 : decode cX12_meanBy 64 = .ok (.iload_n 2, 1) := by decide +kernel
theorem dX12_meanBy_65 : decode cX12_meanBy 65 = .ok (.invokevirtual 285, 3) := by decide +kernel
theorem dX12_meanBy_68 : decode cX12_meanBy 68 = .ok (.aload_n 0, 1) := by decide +kernel
theorem dX12_meanBy_69 : decode cX12_meanBy 69 = .ok (.getfield 41, 3) := by decide +kernel
theorem dX12_meanBy_72 : decode cX12_meanBy 72 = .ok (.iload_n 3, 1) := by decide +kernel
theorem dX12_meanBy_73 : decode cX12_meanBy 73 = .ok (.iaload, 1) := by decide +kernel
theorem dX12_meanBy_74 : decode cX12_meanBy 74 = .ok (.i2l, 1) := by decide +kernel
theorem dX12_meanBy_75 : decode cX12_meanBy 75 = .ok (.lmul, 1) := by decide +kernel
theorem dX12_meanBy_76 : decode cX12_meanBy 76 = .ok (.lload 4, 2) := by decide +kernel
theorem dX12_meanBy_78 : decode cX12_meanBy 78 = .ok (.ladd, 1) := by decide +kernel
theorem dX12_meanBy_79 : decode cX12_meanBy 79 = .ok (.lload 6, 2) := by decide +kernel
theorem dX12_meanBy_81 : decode cX12_meanBy 81 = .ok (.ladd, 1) := by decide +kernel
theorem dX12_meanBy_82 : decode cX12_meanBy 82 = .ok (.lreturn, 1) := by decide +kernel
theorem dX12_worstBy_0 : decode cX12_worstBy 0 = .ok (.aload_n 0, 1) := by decide +kernel
theorem dX12_worstBy_1 : decode cX12_worstBy 1 = .ok (.getfield 70, 3) := by decide +kernel
theorem dX12_worstBy_4 : decode cX12_worstBy 4 = .ok (.aload_n 0, 1) := by decide +kernel
theorem dX12_worstBy_5 : decode cX12_worstBy 5 = .ok (.iload_n 1, 1) := by decide +kernel
theorem dX12_worstBy_6 : decode cX12_worstBy 6 = .ok (.iconst 1, 1) := by decide +kernel
theorem dX12_worstBy_7 : decode cX12_worstBy 7 = .ok (.iload_n 3, 1) := by decide +kernel
theorem dX12_worstBy_8 : decode cX12_worstBy 8 = .ok (.ishl, 1) := by decide +kernel
theorem dX12_worstBy_9 : decode cX12_worstBy 9 = .ok (.ior, 1) := by decide +kernel
theorem dX12_worstBy_10 : decode cX12_worstBy 10 = .ok (.iload_n 2, 1) := by decide +kernel
theorem dX12_worstBy_11 : decode cX12_worstBy 11 = .ok (.invokevirtual 291, 3) := by decide +kernel
theorem dX12_worstBy_14 : decode cX12_worstBy 14 = .ok (.iaload, 1) := by decide +kernel
theorem dX12_worstBy_15 : decode cX12_worstBy 15 = .ok (.aload_n 0, 1) := by decide +kernel
theorem dX12_worstBy_16 : decode cX12_worstBy 16 = .ok (.getfield 70, 3) := by decide +kernel
theorem dX12_worstBy_19 : decode cX12_worstBy 19 = .ok (.aload_n 0, 1) := by decide +kernel
theorem dX12_worstBy_20 : decode cX12_worstBy 20 = .ok (.iload_n 1, 1) := by decide +kernel
theorem dX12_worstBy_21 : decode cX12_worstBy 21 = .ok (.iconst 1, 1) := by decide +kernel
theorem dX12_worstBy_22 : decode cX12_worstBy 22 = .ok (.iload_n 3, 1) := by decide +kernel
theorem dX12_worstBy_23 : decode cX12_worstBy 23 = .ok (.ishl, 1) := by decide +kernel
theorem dX12_worstBy_24 : decode cX12_worstBy 24 = .ok (.ior, 1) := by decide +kernel
theorem dX12_worstBy_25 : decode cX12_worstBy 25 = .ok (.iload_n 2, 1) := by decide +kernel
theorem dX12_worstBy_26 : decode cX12_worstBy 26 = .ok (.iconst 1, 1) := by decide +kernel
theorem dX12_worstBy_27 : decode cX12_worstBy 27 = .ok (.iload_n 3, 1) := by decide +kernel
theorem dX12_worstBy_28 : decode cX12_worstBy 28 = .ok (.ishl, 1) := by decide +kernel
theorem dX12_worstBy_29 : decode cX12_worstBy 29 = .ok (.ior, 1) := by decide +kernel
theorem dX12_worstBy_30 : decode cX12_worstBy 30 = .ok (.invokevirtual 291, 3) := by decide +kernel
theorem dX12_worstBy_33 : decode cX12_worstBy 33 = .ok (.iaload, 1) := by decide +kernel
theorem dX12_worstBy_34 : decode cX12_worstBy 34 = .ok (.invokestatic 104, 3) := by decide +kernel
theorem dX12_worstBy_37 : decode cX12_worstBy 37 = .ok (.istore 4, 2) := by decide +kernel
theorem dX12_worstBy_39 : decode cX12_worstBy 39 = .ok (.iload 4, 2) := by decide +kernel
theorem dX12_worstBy_41 : decode cX12_worstBy 41 = .ok (.ldc_w 296, 3) := by decide +kernel
theorem dX12_worstBy_44 : decode cX12_worstBy 44 = .ok (.if_icmp .lt 9, 3) := by decide +kernel
theorem dX12_worstBy_47 : decode cX12_worstBy 47 = .ok (.ldc_w 296, 3) := by decide +kernel
theorem dX12_worstBy_50 : decode cX12_worstBy 50 = .ok (.goto 12, 3) := by decide +kernel
theorem dX12_worstBy_53 : decode cX12_worstBy 53 = .ok (.iload 4, 2) := by decide +kernel
theorem dX12_worstBy_55 : decode cX12_worstBy 55 = .ok (.aload_n 0, 1) := by decide +kernel
theorem dX12_worstBy_56 : decode cX12_worstBy 56 = .ok (.getfield 41, 3) := by decide +kernel
theorem dX12_worstBy_59 : decode cX12_worstBy 59 = .ok (.iload_n 3, 1) := by decide +kernel
theorem dX12_worstBy_60 : decode cX12_worstBy 60 = .ok (.iaload, 1) := by decide +kernel
theorem dX12_worstBy_61 : decode cX12_worstBy 61 = .ok (.iadd, 1) := by decide +kernel
theorem dX12_worstBy_62 : decode cX12_worstBy 62 = .ok (.ireturn, 1) := by decide +kernel
theorem dX12_layState_0 : decode cX12_layState 0 = .ok (.aload_n 0, 1) := by decide +kernel
theorem dX12_layState_1 : decode cX12_layState 1 = .ok (.iload_n 3, 1) := by decide +kernel
theorem dX12_layState_2 : decode cX12_layState 2 = .ok (.iload 4, 2) := by decide +kernel
theorem dX12_layState_4 : decode cX12_layState 4 = .ok (.invokevirtual 291, 3) := by decide +kernel
theorem dX12_layState_7 : decode cX12_layState 7 = .ok (.istore 5, 2) := by decide +kernel
theorem dX12_layState_9 : decode cX12_layState 9 = .ok (.iload_n 2, 1) := by decide +kernel
theorem dX12_layState_10 : decode cX12_layState 10 = .ok (.iconst (-1), 1) := by decide +kernel
theorem dX12_layState_11 : decode cX12_layState 11 = .ok (.if_icmp .eq 7, 3) := by decide +kernel
theorem dX12_layState_14 : decode cX12_layState 14 = .ok (.iconst 1, 1) := by decide +kernel
theorem dX12_layState_15 : decode cX12_layState 15 = .ok (.goto 4, 3) := by decide +kernel
theorem dX12_layState_18 : decode cX12_layState 18 = .ok (.iconst 0, 1) := by decide +kernel
theorem dX12_layState_19 : decode cX12_layState 19 = .ok (.istore 6, 2) := by decide +kernel
theorem dX12_layState_21 : decode cX12_layState 21 = .ok (.iload_n 3, 1) := by decide +kernel
theorem dX12_layState_22 : decode cX12_layState 22 = .ok (.aload_n 0, 1) := by decide +kernel
theorem dX12_layState_23 : decode cX12_layState 23 = .ok (.getfield 111, 3) := by decide +kernel
theorem dX12_layState_26 : decode cX12_layState 26 = .ok (.iconst 1, 1) := by decide +kernel
theorem dX12_layState_27 : decode cX12_layState 27 = .ok (.isub, 1) := by decide +kernel
theorem dX12_layState_28 : decode cX12_layState 28 = .ok (.if_icmp .ne 43, 3) := by decide +kernel
theorem dX12_layState_31 : decode cX12_layState 31 = .ok (.aload_n 0, 1) := by decide +kernel
theorem dX12_layState_32 : decode cX12_layState 32 = .ok (.getfield 64, 3) := by decide +kernel
theorem dX12_layState_35 : decode cX12_layState 35 = .ok (.iload 5, 2) := by decide +kernel
theorem dX12_layState_37 : decode cX12_layState 37 = .ok (.aload_n 0, 1) := by decide +kernel
theorem dX12_layState_38 : decode cX12_layState 38 = .ok (.iload_n 1, 1) := by decide +kernel
theorem dX12_layState_39 : decode cX12_layState 39 = .ok (.iload 4, 2) := by decide +kernel
theorem dX12_layState_41 : decode cX12_layState 41 = .ok (.invokevirtual 239, 3) := by decide +kernel
theorem dX12_layState_44 : decode cX12_layState 44 = .ok (.iastore, 1) := by decide +kernel
theorem dX12_layState_45 : decode cX12_layState 45 = .ok (.aload_n 0, 1) := by decide +kernel
theorem dX12_layState_46 : decode cX12_layState 46 = .ok (.getfield 67, 3) := by decide +kernel
theorem dX12_layState_49 : decode cX12_layState 49 = .ok (.iload 5, 2) := by decide +kernel
theorem dX12_layState_51 : decode cX12_layState 51 = .ok (.iload 6, 2) := by decide +kernel
theorem dX12_layState_53 : decode cX12_layState 53 = .ok (.ifCond .eq 13, 3) := by decide +kernel
theorem dX12_layState_56 : decode cX12_layState 56 = .ok (.aload_n 0, 1) := by decide +kernel
theorem dX12_layState_57 : decode cX12_layState 57 = .ok (.iload_n 2, 1) := by decide +kernel
theorem dX12_layState_58 : decode cX12_layState 58 = .ok (.iload 4, 2) := by decide +kernel
theorem dX12_layState_60 : decode cX12_layState 60 = .ok (.invokevirtual 239, 3) := by decide +kernel
theorem dX12_layState_63 : decode cX12_layState 63 = .ok (.goto 4, 3) := by decide +kernel
theorem dX12_layState_66 : decode cX12_layState 66 = .ok (.iconst 0, 1) := by decide +kernel
theorem dX12_layState_67 : decode cX12_layState 67 = .ok (.iastore, 1) := by decide +kernel
theorem dX12_layState_68 : decode cX12_layState 68 = .ok (.goto 51, 3) := by decide +kernel
theorem dX12_layState_71 : decode cX12_layState 71 = .ok (.iload_n 3, 1) := by decide +kernel
theorem dX12_layState_72 : decode cX12_layState 72 = .ok (.iconst (-1), 1) := by decide +kernel
theorem dX12_layState_73 : decode cX12_layState 73 = .ok (.ixor, 1) := by decide +kernel
theorem dX12_layState_74 : decode cX12_layState 74 = .ok (.invokestatic 230, 3) := by decide +kernel
theorem dX12_layState_77 : decode cX12_layState 77 = .ok (.istore 7, 2) := by decide +kernel
theorem dX12_layState_79 : decode cX12_layState 79 = .ok (.aload_n 0, 1) := by decide +kernel
theorem dX12_layState_80 : decode cX12_layState 80 = .ok (.getfield 64, 3) := by decide +kernel
theorem dX12_layState_83 : decode cX12_layState 83 = .ok (.iload 5, 2) := by decide +kernel
theorem dX12_layState_85 : decode cX12_layState 85 = .ok (.aload_n 0, 1) := by decide +kernel
theorem dX12_layState_86 : decode cX12_layState 86 = .ok (.aload_n 0, 1) := by decide +kernel
theorem dX12_layState_87 : decode cX12_layState 87 = .ok (.getfield 64, 3) := by decide +kernel
theorem dX12_layState_90 : decode cX12_layState 90 = .ok (.iload_n 3, 1) := by decide +kernel
theorem dX12_layState_91 : decode cX12_layState 91 = .ok (.iload 4, 2) := by decide +kernel
theorem dX12_layState_93 : decode cX12_layState 93 = .ok (.iload 7, 2) := by decide +kernel
theorem dX12_layState_95 : decode cX12_layState 95 = .ok (.invokevirtual 297, 3) := by decide +kernel
theorem dX12_layState_98 : decode cX12_layState 98 = .ok (.iastore, 1) := by decide +kernel
theorem dX12_layState_99 : decode cX12_layState 99 = .ok (.aload_n 0, 1) := by decide +kernel
theorem dX12_layState_100 : decode cX12_layState 100 = .ok (.getfield 67, 3) := by decide +kernel
theorem dX12_layState_103 : decode cX12_layState 103 = .ok (.iload 5, 2) := by decide +kernel
theorem dX12_layState_105 : decode cX12_layState 105 = .ok (.aload_n 0, 1) := by decide +kernel
theorem dX12_layState_106 : decode cX12_layState 106 = .ok (.aload_n 0, 1) := by decide +kernel
theorem dX12_layState_107 : decode cX12_layState 107 = .ok (.getfield 67, 3) := by decide +kernel
theorem dX12_layState_110 : decode cX12_layState 110 = .ok (.iload_n 3, 1) := by decide +kernel
theorem dX12_layState_111 : decode cX12_layState 111 = .ok (.iload 4, 2) := by decide +kernel
theorem dX12_layState_113 : decode cX12_layState 113 = .ok (.iload 7, 2) := by decide +kernel
theorem dX12_layState_115 : decode cX12_layState 115 = .ok (.invokevirtual 297, 3) := by decide +kernel
theorem dX12_layState_118 : decode cX12_layState 118 = .ok (.iastore, 1) := by decide +kernel
theorem dX12_layState_119 : decode cX12_layState 119 = .ok (.aload_n 0, 1) := by decide +kernel
theorem dX12_layState_120 : decode cX12_layState 120 = .ok (.getfield 73, 3) := by decide +kernel
theorem dX12_layState_123 : decode cX12_layState 123 = .ok (.iload 5, 2) := by decide +kernel
theorem dX12_layState_125 : decode cX12_layState 125 = .ok (.aload_n 0, 1) := by decide +kernel
theorem dX12_layState_126 : decode cX12_layState 126 = .ok (.iload 5, 2) := by decide +kernel
theorem dX12_layState_128 : decode cX12_layState 128 = .ok (.iload 6, 2) := by decide +kernel
theorem dX12_layState_130 : decode cX12_layState 130 = .ok (.invokevirtual 301, 3) := by decide +kernel
theorem dX12_layState_133 : decode cX12_layState 133 = .ok (.ifCond .eq 7, 3) := by decide +kernel
theorem dX12_layState_136 : decode cX12_layState 136 = .ok (.lconst 0, 1) := by decide +kernel
theorem dX12_layState_137 : decode cX12_layState 137 = .ok (.goto 6, 3) := by decide +kernel
theorem dX12_layState_140 : decode cX12_layState 140 = .ok (.ldc2_w 294, 3) := by decide +kernel
theorem dX12_layState_143 : decode cX12_layState 143 = .ok (.lastore, 1) := by decide +kernel
theorem dX12_layState_144 : decode cX12_layState 144 = .ok (.aload_n 0, 1) := by decide +kernel
theorem dX12_layState_145 : decode cX12_layState 145 = .ok (.getfield 70, 3) := by decide +kernel
theorem dX12_layState_148 : decode cX12_layState 148 = .ok (.iload 5, 2) := by decide +kernel
theorem dX12_layState_150 : decode cX12_layState 150 = .ok (.aload_n 0, 1) := by decide +kernel
theorem dX12_layState_151 : decode cX12_layState 151 = .ok (.iload 5, 2) := by decide +kernel
theorem dX12_layState_153 : decode cX12_layState 153 = .ok (.iload 6, 2) := by decide +kernel
theorem dX12_layState_155 : decode cX12_layState 155 = .ok (.invokevirtual 301, 3) := by decide +kernel
theorem dX12_layState_158 : decode cX12_layState 158 = .ok (.ifCond .eq 7, 3) := by decide +kernel
theorem dX12_layState_161 : decode cX12_layState 161 = .ok (.iconst 0, 1) := by decide +kernel
theorem dX12_layState_162 : decode cX12_layState 162 = .ok (.goto 6, 3) := by decide +kernel
theorem dX12_layState_165 : decode cX12_layState 165 = .ok (.ldc_w 296, 3) := by decide +kernel
theorem dX12_layState_168 : decode cX12_layState 168 = .ok (.iastore, 1) := by decide +kernel
theorem dX12_layState_169 : decode cX12_layState 169 = .ok (.iconst 0, 1) := by decide +kernel
theorem dX12_layState_170 : decode cX12_layState 170 = .ok (.istore 7, 2) := by decide +kernel
theorem dX12_layState_172 : decode cX12_layState 172 = .ok (.iload 7, 2) := by decide +kernel
theorem dX12_layState_174 : decode cX12_layState 174 = .ok (.aload_n 0, 1) := by decide +kernel
theorem dX12_layState_175 : decode cX12_layState 175 = .ok (.getfield 107, 3) := by decide +kernel
theorem dX12_layState_178 : decode cX12_layState 178 = .ok (.if_icmp .ge 94, 3) := by decide +kernel
theorem dX12_layState_181 : decode cX12_layState 181 = .ok (.aload_n 0, 1) := by decide +kernel
theorem dX12_layState_182 : decode cX12_layState 182 = .ok (.iload 5, 2) := by decide +kernel
theorem dX12_layState_184 : decode cX12_layState 184 = .ok (.iload 6, 2) := by decide +kernel
theorem dX12_layState_186 : decode cX12_layState 186 = .ok (.invokevirtual 301, 3) := by decide +kernel
theorem dX12_layState_189 : decode cX12_layState 189 = .ok (.ifCond .ne 83, 3) := by decide +kernel
theorem dX12_layState_192 : decode cX12_layState 192 = .ok (.iload_n 3, 1) := by decide +kernel
theorem dX12_layState_193 : decode cX12_layState 193 = .ok (.iload 7, 2) := by decide +kernel
theorem dX12_layState_195 : decode cX12_layState 195 = .ok (.invokestatic 157, 3) := by decide +kernel
theorem dX12_layState_198 : decode cX12_layState 198 = .ok (.ifCond .ne 68, 3) := by decide +kernel
theorem dX12_layState_201 : decode cX12_layState 201 = .ok (.aload_n 0, 1) := by decide +kernel
theorem dX12_layState_202 : decode cX12_layState 202 = .ok (.getfield 51, 3) := by decide +kernel
theorem dX12_layState_205 : decode cX12_layState 205 = .ok (.iload 7, 2) := by decide +kernel
theorem dX12_layState_207 : decode cX12_layState 207 = .ok (.baload, 1) := by decide +kernel
theorem dX12_layState_208 : decode cX12_layState 208 = .ok (.ifCond .eq 6, 3) := by decide +kernel
theorem dX12_layState_211 : decode cX12_layState 211 = .ok (.goto 55, 3) := by decide +kernel
theorem dX12_layState_214 : decode cX12_layState 214 = .ok (.aload_n 0, 1) := by decide +kernel
theorem dX12_layState_215 : decode cX12_layState 215 = .ok (.getfield 73, 3) := by decide +kernel
theorem dX12_layState_218 : decode cX12_layState 218 = .ok (.iload 5, 2) := by decide +kernel
theorem dX12_layState_220 : decode cX12_layState 220 = .ok (.aload_n 0, 1) := by decide +kernel
theorem dX12_layState_221 : decode cX12_layState 221 = .ok (.getfield 73, 3) := by decide +kernel
theorem dX12_layState_224 : decode cX12_layState 224 = .ok (.iload 5, 2) := by decide +kernel
theorem dX12_layState_226 : decode cX12_layState 226 = .ok (.laload, 1) := by decide +kernel
theorem dX12_layState_227 : decode cX12_layState 227 = .ok (.aload_n 0, 1) := by decide +kernel
theorem dX12_layState_228 : decode cX12_layState 228 = .ok (.iload_n 3, 1) := by decide +kernel
theorem dX12_layState_229 : decode cX12_layState 229 = .ok (.iload 4, 2) := by decide +kernel
theorem dX12_layState_231 : decode cX12_layState 231 = .ok (.iload 7, 2) := by decide +kernel
theorem dX12_layState_233 : decode cX12_layState 233 = .ok (.invokevirtual 305, 3) := by decide +kernel
theorem dX12_layState_236 : decode cX12_layState 236 = .ok (.invokestatic 309, 3) := by decide +kernel
theorem dX12_layState_239 : decode cX12_layState 239 = .ok (.lastore, 1) := by decide +kernel
theorem dX12_layState_240 : decode cX12_layState 240 = .ok (.aload_n 0, 1) := by decide +kernel
theorem dX12_layState_241 : decode cX12_layState 241 = .ok (.getfield 70, 3) := by decide +kernel
theorem dX12_layState_244 : decode cX12_layState 244 = .ok (.iload 5, 2) := by decide +kernel
theorem dX12_layState_246 : decode cX12_layState 246 = .ok (.aload_n 0, 1) := by decide +kernel
theorem dX12_layState_247 : decode cX12_layState 247 = .ok (.getfield 70, 3) := by decide +kernel
theorem dX12_layState_250 : decode cX12_layState 250 = .ok (.iload 5, 2) := by decide +kernel
theorem dX12_layState_252 : decode cX12_layState 252 = .ok (.iaload, 1) := by decide +kernel
theorem dX12_layState_253 : decode cX12_layState 253 = .ok (.aload_n 0, 1) := by decide +kernel
theorem dX12_layState_254 : decode cX12_layState 254 = .ok (.iload_n 3, 1) := by decide +kernel
theorem dX12_layState_255 : decode cX12_layState 255 = .ok (.iload 4, 2) := by decide +kernel
theorem dX12_layState_257 : decode cX12_layState 257 = .ok (.iload 7, 2) := by decide +kernel
theorem dX12_layState_259 : decode cX12_layState 259 = .ok (.invokevirtual 312, 3) := by decide +kernel
theorem dX12_layState_262 : decode cX12_layState 262 = .ok (.invokestatic 98, 3) := by decide +kernel
theorem dX12_layState_265 : decode cX12_layState 265 = .ok (.iastore, 1) := by decide +kernel
theorem dX12_layState_266 : decode cX12_layState 266 = .ok (.iinc 7 1, 3) := by decide +kernel
theorem dX12_layState_269 : decode cX12_layState 269 = .ok (.goto (-97), 3) := by decide +kernel
theorem dX12_layState_272 : decode cX12_layState 272 = .ok (.return_, 1) := by decide +kernel
theorem dX12_canAsk_0 : decode cX12_canAsk 0 = .ok (.aload_n 0, 1) := by decide +kernel
theorem dX12_canAsk_1 : decode cX12_canAsk 1 = .ok (.iload_n 1, 1) := by decide +kernel
theorem dX12_canAsk_2 : decode cX12_canAsk 2 = .ok (.invokevirtual 233, 3) := by decide +kernel
theorem dX12_canAsk_5 : decode cX12_canAsk 5 = .ok (.ifCond .eq 26, 3) := by decide +kernel
theorem dX12_canAsk_8 : decode cX12_canAsk 8 = .ok (.iload_n 2, 1) := by decide +kernel
theorem dX12_canAsk_9 : decode cX12_canAsk 9 = .ok (.iconst (-1), 1) := by decide +kernel
theorem dX12_canAsk_10 : decode cX12_canAsk 10 = .ok (.if_icmp .eq 11, 3) := by decide +kernel
theorem dX12_canAsk_13 : decode cX12_canAsk 13 = .ok (.aload_n 0, 1) := by decide +kernel
theorem dX12_canAsk_14 : decode cX12_canAsk 14 = .ok (.iload_n 2, 1) := by decide +kernel
theorem dX12_canAsk_15 : decode cX12_canAsk 15 = .ok (.invokevirtual 233, 3) := by decide +kernel
theorem dX12_canAsk_18 : decode cX12_canAsk 18 = .ok (.ifCond .eq 13, 3) := by decide +kernel
theorem dX12_canAsk_21 : decode cX12_canAsk 21 = .ok (.aload_n 0, 1) := by decide +kernel
theorem dX12_canAsk_22 : decode cX12_canAsk 22 = .ok (.iload_n 3, 1) := by decide +kernel
theorem dX12_canAsk_23 : decode cX12_canAsk 23 = .ok (.iload 4, 2) := by decide +kernel
theorem dX12_canAsk_25 : decode cX12_canAsk 25 = .ok (.invokevirtual 245, 3) := by decide +kernel
theorem dX12_canAsk_28 : decode cX12_canAsk 28 = .ok (.ifCond .ne 5, 3) := by decide +kernel
theorem dX12_canAsk_31 : decode cX12_canAsk 31 = .ok (.iconst 0, 1) := by decide +kernel
theorem dX12_canAsk_32 : decode cX12_canAsk 32 = .ok (.ireturn, 1) := by decide +kernel
theorem dX12_canAsk_33 : decode cX12_canAsk 33 = .ok (.aload_n 0, 1) := by decide +kernel
theorem dX12_canAsk_34 : decode cX12_canAsk 34 = .ok (.getfield 111, 3) := by decide +kernel
theorem dX12_canAsk_37 : decode cX12_canAsk 37 = .ok (.iconst 1, 1) := by decide +kernel
theorem dX12_canAsk_38 : decode cX12_canAsk 38 = .ok (.isub, 1) := by decide +kernel
theorem dX12_canAsk_39 : decode cX12_canAsk 39 = .ok (.istore 5, 2) := by decide +kernel
theorem dX12_canAsk_41 : decode cX12_canAsk 41 = .ok (.iload 5, 2) := by decide +kernel
theorem dX12_canAsk_43 : decode cX12_canAsk 43 = .ok (.ifCond .lt 45, 3) := by decide +kernel
theorem dX12_canAsk_46 : decode cX12_canAsk 46 = .ok (.iconst 0, 1) := by decide +kernel
theorem dX12_canAsk_47 : decode cX12_canAsk 47 = .ok (.istore 6, 2) := by decide +kernel
theorem dX12_canAsk_49 : decode cX12_canAsk 49 = .ok (.iload 6, 2) := by decide +kernel
theorem dX12_canAsk_51 : decode cX12_canAsk 51 = .ok (.iload 5, 2) := by decide +kernel
theorem dX12_canAsk_53 : decode cX12_canAsk 53 = .ok (.if_icmp .gt 29, 3) := by decide +kernel
theorem dX12_canAsk_56 : decode cX12_canAsk 56 = .ok (.iload 6, 2) := by decide +kernel
theorem dX12_canAsk_58 : decode cX12_canAsk 58 = .ok (.iload 5, 2) := by decide +kernel
theorem dX12_canAsk_60 : decode cX12_canAsk 60 = .ok (.iconst (-1), 1) := by decide +kernel
theorem dX12_canAsk_61 : decode cX12_canAsk 61 = .ok (.ixor, 1) := by decide +kernel
theorem dX12_canAsk_62 : decode cX12_canAsk 62 = .ok (.iand, 1) := by decide +kernel
theorem dX12_canAsk_63 : decode cX12_canAsk 63 = .ok (.ifCond .ne 13, 3) := by decide +kernel
theorem dX12_canAsk_66 : decode cX12_canAsk 66 = .ok (.aload_n 0, 1) := by decide +kernel
theorem dX12_canAsk_67 : decode cX12_canAsk 67 = .ok (.iload_n 1, 1) := by decide +kernel
theorem dX12_canAsk_68 : decode cX12_canAsk 68 = .ok (.iload_n 2, 1) := by decide +kernel
theorem dX12_canAsk_69 : decode cX12_canAsk 69 = .ok (.iload 5, 2) := by decide +kernel
theorem dX12_canAsk_71 : decode cX12_canAsk 71 = .ok (.iload 6, 2) := by decide +kernel
theorem dX12_canAsk_73 : decode cX12_canAsk 73 = .ok (.invokevirtual 315, 3) := by decide +kernel
theorem dX12_canAsk_76 : decode cX12_canAsk 76 = .ok (.iinc 6 1, 3) := by decide +kernel
theorem dX12_canAsk_79 : decode cX12_canAsk 79 = .ok (.goto (-30), 3) := by decide +kernel
theorem dX12_canAsk_82 : decode cX12_canAsk 82 = .ok (.iinc 5 (-1), 3) := by decide +kernel
theorem dX12_canAsk_85 : decode cX12_canAsk 85 = .ok (.goto (-44), 3) := by decide +kernel
theorem dX12_canAsk_88 : decode cX12_canAsk 88 = .ok (.iconst 1, 1) := by decide +kernel
theorem dX12_canAsk_89 : decode cX12_canAsk 89 = .ok (.ireturn, 1) := by decide +kernel
theorem dX12_mean_0 : decode cX12_mean 0 = .ok (.aload_n 0, 1) := by decide +kernel
theorem dX12_mean_1 : decode cX12_mean 1 = .ok (.iconst 0, 1) := by decide +kernel
theorem dX12_mean_2 : decode cX12_mean 2 = .ok (.putfield 114, 3) := by decide +kernel
theorem dX12_mean_5 : decode cX12_mean 5 = .ok (.aload_n 0, 1) := by decide +kernel
theorem dX12_mean_6 : decode cX12_mean 6 = .ok (.iload_n 1, 1) := by decide +kernel
theorem dX12_mean_7 : decode cX12_mean 7 = .ok (.iload_n 2, 1) := by decide +kernel
theorem dX12_mean_8 : decode cX12_mean 8 = .ok (.iload_n 3, 1) := by decide +kernel
theorem dX12_mean_9 : decode cX12_mean 9 = .ok (.iload 4, 2) := by decide +kernel
theorem dX12_mean_11 : decode cX12_mean 11 = .ok (.invokevirtual 319, 3) := by decide +kernel
theorem dX12_mean_14 : decode cX12_mean 14 = .ok (.ifCond .ne 7, 3) := by decide +kernel
theorem dX12_mean_17 : decode cX12_mean 17 = .ok (.ldc2_w 289, 3) := by decide +kernel
theorem dX12_mean_20 : decode cX12_mean 20 = .ok (.lreturn, 1) := by decide +kernel
theorem dX12_mean_21 : decode cX12_mean 21 = .ok (.aload_n 0, 1) := by decide +kernel
theorem dX12_mean_22 : decode cX12_mean 22 = .ok (.getfield 73, 3) := by decide +kernel
theorem dX12_mean_25 : decode cX12_mean 25 = .ok (.aload_n 0, 1) := by decide +kernel
theorem dX12_mean_26 : decode cX12_mean 26 = .ok (.iload_n 3, 1) := by decide +kernel
theorem dX12_mean_27 : decode cX12_mean 27 = .ok (.iload 4, 2) := by decide +kernel
theorem dX12_mean_29 : decode cX12_mean 29 = .ok (.invokevirtual 291, 3) := by decide +kernel
theorem dX12_mean_32 : decode cX12_mean 32 = .ok (.laload, 1) := by decide +kernel
theorem dX12_mean_33 : decode cX12_mean 33 = .ok (.lstore 5, 2) := by decide +kernel
theorem dX12_mean_35 : decode cX12_mean 35 = .ok (.lload 5, 2) := by decide +kernel
theorem dX12_mean_37 : decode cX12_mean 37 = .ok (.ldc2_w 294, 3) := by decide +kernel
theorem dX12_mean_40 : decode cX12_mean 40 = .ok (.lcmp, 1) := by decide +kernel
theorem dX12_mean_41 : decode cX12_mean 41 = .ok (.ifCond .lt 9, 3) := by decide +kernel
theorem dX12_mean_44 : decode cX12_mean 44 = .ok (.ldc2_w 289, 3) := by decide +kernel
theorem dX12_mean_47 : decode cX12_mean 47 = .ok (.goto 5, 3) := by decide +kernel
theorem dX12_mean_50 : decode cX12_mean 50 = .ok (.lload 5, 2) := by decide +kernel
theorem dX12_mean_52 : decode cX12_mean 52 = .ok (.lreturn, 1) := by decide +kernel
theorem dX12_worst_0 : decode cX12_worst 0 = .ok (.aload_n 0, 1) := by decide +kernel
theorem dX12_worst_1 : decode cX12_worst 1 = .ok (.iconst 0, 1) := by decide +kernel
theorem dX12_worst_2 : decode cX12_worst 2 = .ok (.putfield 114, 3) := by decide +kernel
theorem dX12_worst_5 : decode cX12_worst 5 = .ok (.aload_n 0, 1) := by decide +kernel
theorem dX12_worst_6 : decode cX12_worst 6 = .ok (.iload_n 1, 1) := by decide +kernel
theorem dX12_worst_7 : decode cX12_worst 7 = .ok (.iload_n 2, 1) := by decide +kernel
theorem dX12_worst_8 : decode cX12_worst 8 = .ok (.iload_n 3, 1) := by decide +kernel
theorem dX12_worst_9 : decode cX12_worst 9 = .ok (.iload 4, 2) := by decide +kernel
theorem dX12_worst_11 : decode cX12_worst 11 = .ok (.invokevirtual 319, 3) := by decide +kernel
theorem dX12_worst_14 : decode cX12_worst 14 = .ok (.ifCond .ne 5, 3) := by decide +kernel
theorem dX12_worst_17 : decode cX12_worst 17 = .ok (.iconst (-1), 1) := by decide +kernel
theorem dX12_worst_18 : decode cX12_worst 18 = .ok (.ireturn, 1) := by decide +kernel
theorem dX12_worst_19 : decode cX12_worst 19 = .ok (.aload_n 0, 1) := by decide +kernel
theorem dX12_worst_20 : decode cX12_worst 20 = .ok (.getfield 70, 3) := by decide +kernel
theorem dX12_worst_23 : decode cX12_worst 23 = .ok (.aload_n 0, 1) := by decide +kernel
theorem dX12_worst_24 : decode cX12_worst 24 = .ok (.iload_n 3, 1) := by decide +kernel
theorem dX12_worst_25 : decode cX12_worst 25 = .ok (.iload 4, 2) := by decide +kernel
theorem dX12_worst_27 : decode cX12_worst 27 = .ok (.invokevirtual 291, 3) := by decide +kernel
theorem dX12_worst_30 : decode cX12_worst 30 = .ok (.iaload, 1) := by decide +kernel
theorem dX12_worst_31 : decode cX12_worst 31 = .ok (.istore 5, 2) := by decide +kernel
theorem dX12_worst_33 : decode cX12_worst 33 = .ok (.iload 5, 2) := by decide +kernel
theorem dX12_worst_35 : decode cX12_worst 35 = .ok (.ldc_w 296, 3) := by decide +kernel
theorem dX12_worst_38 : decode cX12_worst 38 = .ok (.if_icmp .lt 7, 3) := by decide +kernel
theorem dX12_worst_41 : decode cX12_worst 41 = .ok (.iconst (-1), 1) := by decide +kernel
theorem dX12_worst_42 : decode cX12_worst 42 = .ok (.goto 5, 3) := by decide +kernel
theorem dX12_worst_45 : decode cX12_worst 45 = .ok (.iload 5, 2) := by decide +kernel
theorem dX12_worst_47 : decode cX12_worst 47 = .ok (.ireturn, 1) := by decide +kernel
theorem dX12_best_0 : decode cX12_best 0 = .ok (.aload_n 0, 1) := by decide +kernel
theorem dX12_best_1 : decode cX12_best 1 = .ok (.iconst 0, 1) := by decide +kernel
theorem dX12_best_2 : decode cX12_best 2 = .ok (.putfield 114, 3) := by decide +kernel
theorem dX12_best_5 : decode cX12_best 5 = .ok (.iload 5, 2) := by decide +kernel
theorem dX12_best_7 : decode cX12_best 7 = .ok (.iconst 0, 1) := by decide +kernel
theorem dX12_best_8 : decode cX12_best 8 = .ok (.iconst 1, 1) := by decide +kernel
theorem dX12_best_9 : decode cX12_best 9 = .ok (.invokestatic 209, 3) := by decide +kernel
theorem dX12_best_12 : decode cX12_best 12 = .ok (.ifCond .eq 15, 3) := by decide +kernel
theorem dX12_best_15 : decode cX12_best 15 = .ok (.aload_n 0, 1) := by decide +kernel
theorem dX12_best_16 : decode cX12_best 16 = .ok (.iload_n 1, 1) := by decide +kernel
theorem dX12_best_17 : decode cX12_best 17 = .ok (.iload_n 2, 1) := by decide +kernel
theorem dX12_best_18 : decode cX12_best 18 = .ok (.iload_n 3, 1) := by decide +kernel
theorem dX12_best_19 : decode cX12_best 19 = .ok (.iload 4, 2) := by decide +kernel
theorem dX12_best_21 : decode cX12_best 21 = .ok (.invokevirtual 319, 3) := by decide +kernel
theorem dX12_best_24 : decode cX12_best 24 = .ok (.ifCond .ne 5, 3) := by decide +kernel
theorem dX12_best_27 : decode cX12_best 27 = .ok (.iconst (-1), 1) := by decide +kernel
theorem dX12_best_28 : decode cX12_best 28 = .ok (.ireturn, 1) := by decide +kernel
theorem dX12_best_29 : decode cX12_best 29 = .ok (.aload_n 0, 1) := by decide +kernel
theorem dX12_best_30 : decode cX12_best 30 = .ok (.iload_n 3, 1) := by decide +kernel
theorem dX12_best_31 : decode cX12_best 31 = .ok (.iload 4, 2) := by decide +kernel
theorem dX12_best_33 : decode cX12_best 33 = .ok (.invokevirtual 291, 3) := by decide +kernel
theorem dX12_best_36 : decode cX12_best 36 = .ok (.istore 6, 2) := by decide +kernel
theorem dX12_best_38 : decode cX12_best 38 = .ok (.aload_n 0, 1) := by decide +kernel
theorem dX12_best_39 : decode cX12_best 39 = .ok (.iload 6, 2) := by decide +kernel
theorem dX12_best_41 : decode cX12_best 41 = .ok (.iload_n 2, 1) := by decide +kernel
theorem dX12_best_42 : decode cX12_best 42 = .ok (.iconst (-1), 1) := by decide +kernel
theorem dX12_best_43 : decode cX12_best 43 = .ok (.if_icmp .eq 7, 3) := by decide +kernel
theorem dX12_best_46 : decode cX12_best 46 = .ok (.iconst 1, 1) := by decide +kernel
theorem dX12_best_47 : decode cX12_best 47 = .ok (.goto 4, 3) := by decide +kernel
theorem dX12_best_50 : decode cX12_best 50 = .ok (.iconst 0, 1) := by decide +kernel
theorem dX12_best_51 : decode cX12_best 51 = .ok (.invokevirtual 301, 3) := by decide +kernel
theorem dX12_best_54 : decode cX12_best 54 = .ok (.ifCond .ne 17, 3) := by decide +kernel
theorem dX12_best_57 : decode cX12_best 57 = .ok (.aload_n 0, 1) := by decide +kernel
theorem dX12_best_58 : decode cX12_best 58 = .ok (.getfield 73, 3) := by decide +kernel
theorem dX12_best_61 : decode cX12_best 61 = .ok (.iload 6, 2) := by decide +kernel
theorem dX12_best_63 : decode cX12_best 63 = .ok (.laload, 1) := by decide +kernel
theorem dX12_best_64 : decode cX12_best 64 = .ok (.ldc2_w 294, 3) := by decide +kernel
theorem dX12_best_67 : decode cX12_best 67 = .ok (.lcmp, 1) := by decide +kernel
theorem dX12_best_68 : decode cX12_best 68 = .ok (.ifCond .lt 5, 3) := by decide +kernel
theorem dX12_best_71 : decode cX12_best 71 = .ok (.iconst (-1), 1) := by decide +kernel
theorem dX12_best_72 : decode cX12_best 72 = .ok (.ireturn, 1) := by decide +kernel
theorem dX12_best_73 : decode cX12_best 73 = .ok (.iconst 0, 1) := by decide +kernel
theorem dX12_best_74 : decode cX12_best 74 = .ok (.istore 7, 2) := by decide +kernel
theorem dX12_best_76 : decode cX12_best 76 = .ok (.iload 7, 2) := by decide +kernel
theorem dX12_best_78 : decode cX12_best 78 = .ok (.aload_n 0, 1) := by decide +kernel
theorem dX12_best_79 : decode cX12_best 79 = .ok (.getfield 107, 3) := by decide +kernel
theorem dX12_best_82 : decode cX12_best 82 = .ok (.if_icmp .ge 81, 3) := by decide +kernel
theorem dX12_best_85 : decode cX12_best 85 = .ok (.iload_n 3, 1) := by decide +kernel
theorem dX12_best_86 : decode cX12_best 86 = .ok (.iload 7, 2) := by decide +kernel
theorem dX12_best_88 : decode cX12_best 88 = .ok (.invokestatic 157, 3) := by decide +kernel
theorem dX12_best_91 : decode cX12_best 91 = .ok (.ifCond .ne 66, 3) := by decide +kernel
theorem dX12_best_94 : decode cX12_best 94 = .ok (.aload_n 0, 1) := by decide +kernel
theorem dX12_best_95 : decode cX12_best 95 = .ok (.getfield 51, 3) := by decide +kernel
theorem dX12_best_98 : decode cX12_best 98 = .ok (.iload 7, 2) := by decide +kernel
theorem dX12_best_100 : decode cX12_best 100 = .ok (.baload, 1) := by decide +kernel
theorem dX12_best_101 : decode cX12_best 101 = .ok (.ifCond .eq 6, 3) := by decide +kernel
theorem dX12_best_104 : decode cX12_best 104 = .ok (.goto 53, 3) := by decide +kernel
theorem dX12_best_107 : decode cX12_best 107 = .ok (.iload 5, 2) := by decide +kernel
theorem dX12_best_109 : decode cX12_best 109 = .ok (.ifCond .ne 26, 3) := by decide +kernel
theorem dX12_best_112 : decode cX12_best 112 = .ok (.aload_n 0, 1) := by decide +kernel
theorem dX12_best_113 : decode cX12_best 113 = .ok (.iload_n 3, 1) := by decide +kernel
theorem dX12_best_114 : decode cX12_best 114 = .ok (.iload 4, 2) := by decide +kernel
theorem dX12_best_116 : decode cX12_best 116 = .ok (.iload 7, 2) := by decide +kernel
theorem dX12_best_118 : decode cX12_best 118 = .ok (.invokevirtual 305, 3) := by decide +kernel
theorem dX12_best_121 : decode cX12_best 121 = .ok (.aload_n 0, 1) := by decide +kernel
theorem dX12_best_122 : decode cX12_best 122 = .ok (.getfield 73, 3) := by decide +kernel
theorem dX12_best_125 : decode cX12_best 125 = .ok (.iload 6, 2) := by decide +kernel
theorem dX12_best_127 : decode cX12_best 127 = .ok (.laload, 1) := by decide +kernel
theorem dX12_best_128 : decode cX12_best 128 = .ok (.lcmp, 1) := by decide +kernel
theorem dX12_best_129 : decode cX12_best 129 = .ok (.ifCond .ne 28, 3) := by decide +kernel
theorem dX12_best_132 : decode cX12_best 132 = .ok (.goto 22, 3) := by decide +kernel
theorem dX12_best_135 : decode cX12_best 135 = .ok (.aload_n 0, 1) := by decide +kernel
theorem dX12_best_136 : decode cX12_best 136 = .ok (.iload_n 3, 1) := by decide +kernel
theorem dX12_best_137 : decode cX12_best 137 = .ok (.iload 4, 2) := by decide +kernel
theorem dX12_best_139 : decode cX12_best 139 = .ok (.iload 7, 2) := by decide +kernel
theorem dX12_best_141 : decode cX12_best 141 = .ok (.invokevirtual 312, 3) := by decide +kernel
theorem dX12_best_144 : decode cX12_best 144 = .ok (.aload_n 0, 1) := by decide +kernel
theorem dX12_best_145 : decode cX12_best 145 = .ok (.getfield 70, 3) := by decide +kernel
theorem dX12_best_148 : decode cX12_best 148 = .ok (.iload 6, 2) := by decide +kernel
theorem dX12_best_150 : decode cX12_best 150 = .ok (.iaload, 1) := by decide +kernel
theorem dX12_best_151 : decode cX12_best 151 = .ok (.if_icmp .ne 6, 3) := by decide +kernel
theorem dX12_best_154 : decode cX12_best 154 = .ok (.iload 7, 2) := by decide +kernel
theorem dX12_best_156 : decode cX12_best 156 = .ok (.ireturn, 1) := by decide +kernel
theorem dX12_best_157 : decode cX12_best 157 = .ok (.iinc 7 1, 3) := by decide +kernel
theorem dX12_best_160 : decode cX12_best 160 = .ok (.goto (-84), 3) := by decide +kernel
theorem dX12_best_163 : decode cX12_best 163 = .ok (.iconst (-1), 1) := by decide +kernel
theorem dX12_best_164 : decode cX12_best 164 = .ok (.ireturn, 1) := by decide +kernel
theorem dX12_costFrom_0 : decode cX12_costFrom 0 = .ok (.iload_n 2, 1) := by decide +kernel
theorem dX12_costFrom_1 : decode cX12_costFrom 1 = .ok (.bipush 12, 2) := by decide +kernel
theorem dX12_costFrom_3 : decode cX12_costFrom 3 = .ok (.if_icmp .lt 5, 3) := by decide +kernel
theorem dX12_costFrom_6 : decode cX12_costFrom 6 = .ok (.lconst 0, 1) := by decide +kernel
theorem dX12_costFrom_7 : decode cX12_costFrom 7 = .ok (.lreturn, 1) := by decide +kernel
theorem dX12_costFrom_8 : decode cX12_costFrom 8 = .ok (.aload_n 0, 1) := by decide +kernel
theorem dX12_costFrom_9 : decode cX12_costFrom 9 = .ok (.iload_n 1, 1) := by decide +kernel
theorem dX12_costFrom_10 : decode cX12_costFrom 10 = .ok (.iload_n 2, 1) := by decide +kernel
theorem dX12_costFrom_11 : decode cX12_costFrom 11 = .ok (.invokevirtual 255, 3) := by decide +kernel
theorem dX12_costFrom_14 : decode cX12_costFrom 14 = .ok (.istore 5, 2) := by decide +kernel
theorem dX12_costFrom_16 : decode cX12_costFrom 16 = .ok (.aload_n 0, 1) := by decide +kernel
theorem dX12_costFrom_17 : decode cX12_costFrom 17 = .ok (.iload_n 3, 1) := by decide +kernel
theorem dX12_costFrom_18 : decode cX12_costFrom 18 = .ok (.iload 4, 2) := by decide +kernel
theorem dX12_costFrom_20 : decode cX12_costFrom 20 = .ok (.invokevirtual 285, 3) := by decide +kernel
theorem dX12_costFrom_23 : decode cX12_costFrom 23 = .ok (.aload_n 0, 1) := by decide +kernel
theorem dX12_costFrom_24 : decode cX12_costFrom 24 = .ok (.getfield 41, 3) := by decide +kernel
theorem dX12_costFrom_27 : decode cX12_costFrom 27 = .ok (.iload 5, 2) := by decide +kernel
theorem dX12_costFrom_29 : decode cX12_costFrom 29 = .ok (.iaload, 1) := by decide +kernel
theorem dX12_costFrom_30 : decode cX12_costFrom 30 = .ok (.i2l, 1) := by decide +kernel
theorem dX12_costFrom_31 : decode cX12_costFrom 31 = .ok (.lmul, 1) := by decide +kernel
theorem dX12_costFrom_32 : decode cX12_costFrom 32 = .ok (.lstore 6, 2) := by decide +kernel
theorem dX12_costFrom_34 : decode cX12_costFrom 34 = .ok (.iload_n 3, 1) := by decide +kernel
theorem dX12_costFrom_35 : decode cX12_costFrom 35 = .ok (.iload 5, 2) := by decide +kernel
theorem dX12_costFrom_37 : decode cX12_costFrom 37 = .ok (.invokestatic 157, 3) := by decide +kernel
theorem dX12_costFrom_40 : decode cX12_costFrom 40 = .ok (.ifCond .eq 28, 3) := by decide +kernel
theorem dX12_costFrom_43 : decode cX12_costFrom 43 = .ok (.lload 6, 2) := by decide +kernel
theorem dX12_costFrom_45 : decode cX12_costFrom 45 = .ok (.aload_n 0, 1) := by decide +kernel
theorem dX12_costFrom_46 : decode cX12_costFrom 46 = .ok (.iload_n 1, 1) := by decide +kernel
theorem dX12_costFrom_47 : decode cX12_costFrom 47 = .ok (.aload_n 0, 1) := by decide +kernel
theorem dX12_costFrom_48 : decode cX12_costFrom 48 = .ok (.iload_n 1, 1) := by decide +kernel
theorem dX12_costFrom_49 : decode cX12_costFrom 49 = .ok (.iload_n 2, 1) := by decide +kernel
theorem dX12_costFrom_50 : decode cX12_costFrom 50 = .ok (.iload 4, 2) := by decide +kernel
theorem dX12_costFrom_52 : decode cX12_costFrom 52 = .ok (.iload 5, 2) := by decide +kernel
theorem dX12_costFrom_54 : decode cX12_costFrom 54 = .ok (.invokestatic 157, 3) := by decide +kernel
theorem dX12_costFrom_57 : decode cX12_costFrom 57 = .ok (.invokevirtual 258, 3) := by decide +kernel
theorem dX12_costFrom_60 : decode cX12_costFrom 60 = .ok (.iload_n 3, 1) := by decide +kernel
theorem dX12_costFrom_61 : decode cX12_costFrom 61 = .ok (.iload 4, 2) := by decide +kernel
theorem dX12_costFrom_63 : decode cX12_costFrom 63 = .ok (.invokevirtual 323, 3) := by decide +kernel
theorem dX12_costFrom_66 : decode cX12_costFrom 66 = .ok (.ladd, 1) := by decide +kernel
theorem dX12_costFrom_67 : decode cX12_costFrom 67 = .ok (.lreturn, 1) := by decide +kernel
theorem dX12_costFrom_68 : decode cX12_costFrom 68 = .ok (.lload 6, 2) := by decide +kernel
theorem dX12_costFrom_70 : decode cX12_costFrom 70 = .ok (.aload_n 0, 1) := by decide +kernel
theorem dX12_costFrom_71 : decode cX12_costFrom 71 = .ok (.iload_n 1, 1) := by decide +kernel
theorem dX12_costFrom_72 : decode cX12_costFrom 72 = .ok (.aload_n 0, 1) := by decide +kernel
theorem dX12_costFrom_73 : decode cX12_costFrom 73 = .ok (.iload_n 1, 1) := by decide +kernel
theorem dX12_costFrom_74 : decode cX12_costFrom 74 = .ok (.iload_n 2, 1) := by decide +kernel
theorem dX12_costFrom_75 : decode cX12_costFrom 75 = .ok (.iconst 1, 1) := by decide +kernel
theorem dX12_costFrom_76 : decode cX12_costFrom 76 = .ok (.invokevirtual 258, 3) := by decide +kernel
theorem dX12_costFrom_79 : decode cX12_costFrom 79 = .ok (.iload_n 3, 1) := by decide +kernel
theorem dX12_costFrom_80 : decode cX12_costFrom 80 = .ok (.iconst 1, 1) := by decide +kernel
theorem dX12_costFrom_81 : decode cX12_costFrom 81 = .ok (.iload 5, 2) := by decide +kernel
theorem dX12_costFrom_83 : decode cX12_costFrom 83 = .ok (.ishl, 1) := by decide +kernel
theorem dX12_costFrom_84 : decode cX12_costFrom 84 = .ok (.ior, 1) := by decide +kernel
theorem dX12_costFrom_85 : decode cX12_costFrom 85 = .ok (.iload 4, 2) := by decide +kernel
theorem dX12_costFrom_87 : decode cX12_costFrom 87 = .ok (.iconst 1, 1) := by decide +kernel
theorem dX12_costFrom_88 : decode cX12_costFrom 88 = .ok (.iload 5, 2) := by decide +kernel
theorem dX12_costFrom_90 : decode cX12_costFrom 90 = .ok (.ishl, 1) := by decide +kernel
theorem dX12_costFrom_91 : decode cX12_costFrom 91 = .ok (.ior, 1) := by decide +kernel
theorem dX12_costFrom_92 : decode cX12_costFrom 92 = .ok (.invokevirtual 323, 3) := by decide +kernel
theorem dX12_costFrom_95 : decode cX12_costFrom 95 = .ok (.ladd, 1) := by decide +kernel
theorem dX12_costFrom_96 : decode cX12_costFrom 96 = .ok (.aload_n 0, 1) := by decide +kernel
theorem dX12_costFrom_97 : decode cX12_costFrom 97 = .ok (.iload_n 1, 1) := by decide +kernel
theorem dX12_costFrom_98 : decode cX12_costFrom 98 = .ok (.aload_n 0, 1) := by decide +kernel
theorem dX12_costFrom_99 : decode cX12_costFrom 99 = .ok (.iload_n 1, 1) := by decide +kernel
theorem dX12_costFrom_100 : decode cX12_costFrom 100 = .ok (.iload_n 2, 1) := by decide +kernel
theorem dX12_costFrom_101 : decode cX12_costFrom 101 = .ok (.iconst 0, 1) := by decide +kernel
theorem dX12_costFrom_102 : decode cX12_costFrom 102 = .ok (.invokevirtual 258, 3) := by decide +kernel
theorem dX12_costFrom_105 : decode cX12_costFrom 105 = .ok (.iload_n 3, 1) := by decide +kernel
theorem dX12_costFrom_106 : decode cX12_costFrom 106 = .ok (.iconst 1, 1) := by decide +kernel
theorem dX12_costFrom_107 : decode cX12_costFrom 107 = .ok (.iload 5, 2) := by decide +kernel
theorem dX12_costFrom_109 : decode cX12_costFrom 109 = .ok (.ishl, 1) := by decide +kernel
theorem dX12_costFrom_110 : decode cX12_costFrom 110 = .ok (.ior, 1) := by decide +kernel
theorem dX12_costFrom_111 : decode cX12_costFrom 111 = .ok (.iload 4, 2) := by decide +kernel
theorem dX12_costFrom_113 : decode cX12_costFrom 113 = .ok (.invokevirtual 323, 3) := by decide +kernel
theorem dX12_costFrom_116 : decode cX12_costFrom 116 = .ok (.ladd, 1) := by decide +kernel
theorem dX12_costFrom_117 : decode cX12_costFrom 117 = .ok (.lreturn, 1) := by decide +kernel
theorem dX12_cost_0 : decode cX12_cost 0 = .ok (.aload_n 0, 1) := by decide +kernel
theorem dX12_cost_1 : decode cX12_cost 1 = .ok (.iconst 0, 1) := by decide +kernel
theorem dX12_cost_2 : decode cX12_cost 2 = .ok (.putfield 114, 3) := by decide +kernel
theorem dX12_cost_5 : decode cX12_cost 5 = .ok (.aload_n 0, 1) := by decide +kernel
theorem dX12_cost_6 : decode cX12_cost 6 = .ok (.iload_n 1, 1) := by decide +kernel
theorem dX12_cost_7 : decode cX12_cost 7 = .ok (.invokevirtual 262, 3) := by decide +kernel
theorem dX12_cost_10 : decode cX12_cost 10 = .ok (.ifCond .eq 14, 3) := by decide +kernel
theorem dX12_cost_13 : decode cX12_cost 13 = .ok (.aload_n 0, 1) := by decide +kernel
theorem dX12_cost_14 : decode cX12_cost 14 = .ok (.iload_n 1, 1) := by decide +kernel
theorem dX12_cost_15 : decode cX12_cost 15 = .ok (.iconst 0, 1) := by decide +kernel
theorem dX12_cost_16 : decode cX12_cost 16 = .ok (.iconst 0, 1) := by decide +kernel
theorem dX12_cost_17 : decode cX12_cost 17 = .ok (.iconst 0, 1) := by decide +kernel
theorem dX12_cost_18 : decode cX12_cost 18 = .ok (.invokevirtual 323, 3) := by decide +kernel
theorem dX12_cost_21 : decode cX12_cost 21 = .ok (.goto 6, 3) := by decide +kernel
theorem dX12_cost_24 : decode cX12_cost 24 = .ok (.ldc2_w 289, 3) := by decide +kernel
theorem dX12_cost_27 : decode cX12_cost 27 = .ok (.lreturn, 1) := by decide +kernel
theorem dX12_longest_0 : decode cX12_longest 0 = .ok (.aload_n 0, 1) := by decide +kernel
theorem dX12_longest_1 : decode cX12_longest 1 = .ok (.iconst 0, 1) := by decide +kernel
theorem dX12_longest_2 : decode cX12_longest 2 = .ok (.putfield 114, 3) := by decide +kernel
theorem dX12_longest_5 : decode cX12_longest 5 = .ok (.aload_n 0, 1) := by decide +kernel
theorem dX12_longest_6 : decode cX12_longest 6 = .ok (.iload_n 1, 1) := by decide +kernel
theorem dX12_longest_7 : decode cX12_longest 7 = .ok (.invokevirtual 262, 3) := by decide +kernel
theorem dX12_longest_10 : decode cX12_longest 10 = .ok (.ifCond .ne 5, 3) := by decide +kernel
theorem dX12_longest_13 : decode cX12_longest 13 = .ok (.iconst (-1), 1) := by decide +kernel
theorem dX12_longest_14 : decode cX12_longest 14 = .ok (.ireturn, 1) := by decide +kernel
theorem dX12_longest_15 : decode cX12_longest 15 = .ok (.iconst 0, 1) := by decide +kernel
theorem dX12_longest_16 : decode cX12_longest 16 = .ok (.istore_n 2, 1) := by decide +kernel
theorem dX12_longest_17 : decode cX12_longest 17 = .ok (.iconst 0, 1) := by decide +kernel
theorem dX12_longest_18 : decode cX12_longest 18 = .ok (.istore_n 3, 1) := by decide +kernel
theorem dX12_longest_19 : decode cX12_longest 19 = .ok (.iload_n 3, 1) := by decide +kernel
theorem dX12_longest_20 : decode cX12_longest 20 = .ok (.aload_n 0, 1) := by decide +kernel
theorem dX12_longest_21 : decode cX12_longest 21 = .ok (.getfield 111, 3) := by decide +kernel
theorem dX12_longest_24 : decode cX12_longest 24 = .ok (.if_icmp .ge 69, 3) := by decide +kernel
theorem dX12_longest_27 : decode cX12_longest 27 = .ok (.iconst 0, 1) := by decide +kernel
theorem dX12_longest_28 : decode cX12_longest 28 = .ok (.istore 4, 2) := by decide +kernel
theorem dX12_longest_30 : decode cX12_longest 30 = .ok (.iconst 0, 1) := by decide +kernel
theorem dX12_longest_31 : decode cX12_longest 31 = .ok (.istore 5, 2) := by decide +kernel
theorem dX12_longest_33 : decode cX12_longest 33 = .ok (.iload 5, 2) := by decide +kernel
theorem dX12_longest_35 : decode cX12_longest 35 = .ok (.bipush 12, 2) := by decide +kernel
theorem dX12_longest_37 : decode cX12_longest 37 = .ok (.if_icmp .ge 43, 3) := by decide +kernel
theorem dX12_longest_40 : decode cX12_longest 40 = .ok (.iload 4, 2) := by decide +kernel
theorem dX12_longest_42 : decode cX12_longest 42 = .ok (.aload_n 0, 1) := by decide +kernel
theorem dX12_longest_43 : decode cX12_longest 43 = .ok (.getfield 41, 3) := by decide +kernel
theorem dX12_longest_46 : decode cX12_longest 46 = .ok (.aload_n 0, 1) := by decide +kernel
theorem dX12_longest_47 : decode cX12_longest 47 = .ok (.iload_n 1, 1) := by decide +kernel
theorem dX12_longest_48 : decode cX12_longest 48 = .ok (.iload 5, 2) := by decide +kernel
theorem dX12_longest_50 : decode cX12_longest 50 = .ok (.invokevirtual 255, 3) := by decide +kernel
theorem dX12_longest_53 : decode cX12_longest 53 = .ok (.iaload, 1) := by decide +kernel
theorem dX12_longest_54 : decode cX12_longest 54 = .ok (.iadd, 1) := by decide +kernel
theorem dX12_longest_55 : decode cX12_longest 55 = .ok (.istore 4, 2) := by decide +kernel
theorem dX12_longest_57 : decode cX12_longest 57 = .ok (.aload_n 0, 1) := by decide +kernel
theorem dX12_longest_58 : decode cX12_longest 58 = .ok (.iload_n 1, 1) := by decide +kernel
theorem dX12_longest_59 : decode cX12_longest 59 = .ok (.iload 5, 2) := by decide +kernel
theorem dX12_longest_61 : decode cX12_longest 61 = .ok (.iload_n 3, 1) := by decide +kernel
theorem dX12_longest_62 : decode cX12_longest 62 = .ok (.aload_n 0, 1) := by decide +kernel
theorem dX12_longest_63 : decode cX12_longest 63 = .ok (.iload_n 1, 1) := by decide +kernel
theorem dX12_longest_64 : decode cX12_longest 64 = .ok (.iload 5, 2) := by decide +kernel
theorem dX12_longest_66 : decode cX12_longest 66 = .ok (.invokevirtual 255, 3) := by decide +kernel
theorem dX12_longest_69 : decode cX12_longest 69 = .ok (.invokestatic 157, 3) := by decide +kernel
theorem dX12_longest_72 : decode cX12_longest 72 = .ok (.invokevirtual 258, 3) := by decide +kernel
theorem dX12_longest_75 : decode cX12_longest 75 = .ok (.istore 5, 2) := by decide +kernel
theorem dX12_longest_77 : decode cX12_longest 77 = .ok (.goto (-44), 3) := by decide +kernel
theorem dX12_longest_80 : decode cX12_longest 80 = .ok (.iload_n 2, 1) := by decide +kernel
theorem dX12_longest_81 : decode cX12_longest 81 = .ok (.iload 4, 2) := by decide +kernel
theorem dX12_longest_83 : decode cX12_longest 83 = .ok (.invokestatic 104, 3) := by decide +kernel
theorem dX12_longest_86 : decode cX12_longest 86 = .ok (.istore_n 2, 1) := by decide +kernel
theorem dX12_longest_87 : decode cX12_longest 87 = .ok (.iinc 3 1, 3) := by decide +kernel
theorem dX12_longest_90 : decode cX12_longest 90 = .ok (.goto (-71), 3) := by decide +kernel
theorem dX12_longest_93 : decode cX12_longest 93 = .ok (.iload_n 2, 1) := by decide +kernel
theorem dX12_longest_94 : decode cX12_longest 94 = .ok (.ireturn, 1) := by decide +kernel
theorem dX12_answersOf_0 : decode cX12_answersOf 0 = .ok (.iconst 0, 1) := by decide +kernel
theorem dX12_answersOf_1 : decode cX12_answersOf 1 = .ok (.istore_n 3, 1) := by decide +kernel
theorem dX12_answersOf_2 : decode cX12_answersOf 2 = .ok (.iconst 0, 1) := by decide +kernel
theorem dX12_answersOf_3 : decode cX12_answersOf 3 = .ok (.istore 4, 2) := by decide +kernel
theorem dX12_answersOf_5 : decode cX12_answersOf 5 = .ok (.iload 4, 2) := by decide +kernel
theorem dX12_answersOf_7 : decode cX12_answersOf 7 = .ok (.aload_n 0, 1) := by decide +kernel
theorem dX12_answersOf_8 : decode cX12_answersOf 8 = .ok (.getfield 219, 3) := by decide +kernel
theorem dX12_answersOf_11 : decode cX12_answersOf 11 = .ok (.if_icmp .ge 45, 3) := by decide +kernel
theorem dX12_answersOf_14 : decode cX12_answersOf 14 = .ok (.iload_n 3, 1) := by decide +kernel
theorem dX12_answersOf_15 : decode cX12_answersOf 15 = .ok (.iload_n 1, 1) := by decide +kernel
theorem dX12_answersOf_16 : decode cX12_answersOf 16 = .ok (.iload 4, 2) := by decide +kernel
theorem dX12_answersOf_18 : decode cX12_answersOf 18 = .ok (.invokestatic 157, 3) := by decide +kernel
theorem dX12_answersOf_21 : decode cX12_answersOf 21 = .ok (.ifCond .eq 26, 3) := by decide +kernel
theorem dX12_answersOf_24 : decode cX12_answersOf 24 = .ok (.aload_n 0, 1) := by decide +kernel
theorem dX12_answersOf_25 : decode cX12_answersOf 25 = .ok (.getfield 47, 3) := by decide +kernel
theorem dX12_answersOf_28 : decode cX12_answersOf 28 = .ok (.sipush 512, 3) := by decide +kernel
theorem dX12_answersOf_31 : decode cX12_answersOf 31 = .ok (.iload 4, 2) := by decide +kernel
theorem dX12_answersOf_33 : decode cX12_answersOf 33 = .ok (.imul, 1) := by decide +kernel
theorem dX12_answersOf_34 : decode cX12_answersOf 34 = .ok (.iload_n 2, 1) := by decide +kernel
theorem dX12_answersOf_35 : decode cX12_answersOf 35 = .ok (.iadd, 1) := by decide +kernel
theorem dX12_answersOf_36 : decode cX12_answersOf 36 = .ok (.baload, 1) := by decide +kernel
theorem dX12_answersOf_37 : decode cX12_answersOf 37 = .ok (.ifCond .eq 10, 3) := by decide +kernel
theorem dX12_answersOf_40 : decode cX12_answersOf 40 = .ok (.iconst 1, 1) := by decide +kernel
theorem dX12_answersOf_41 : decode cX12_answersOf 41 = .ok (.iload 4, 2) := by decide +kernel
theorem dX12_answersOf_43 : decode cX12_answersOf 43 = .ok (.ishl, 1) := by decide +kernel
theorem dX12_answersOf_44 : decode cX12_answersOf 44 = .ok (.goto 4, 3) := by decide +kernel
theorem dX12_answersOf_47 : decode cX12_answersOf 47 = .ok (.iconst 0, 1) := by decide +kernel
theorem dX12_answersOf_48 : decode cX12_answersOf 48 = .ok (.ior, 1) := by decide +kernel
theorem dX12_answersOf_49 : decode cX12_answersOf 49 = .ok (.istore_n 3, 1) := by decide +kernel
theorem dX12_answersOf_50 : decode cX12_answersOf 50 = .ok (.iinc 4 1, 3) := by decide +kernel
theorem dX12_answersOf_53 : decode cX12_answersOf 53 = .ok (.goto (-48), 3) := by decide +kernel
theorem dX12_answersOf_56 : decode cX12_answersOf 56 = .ok (.iload_n 3, 1) := by decide +kernel
theorem dX12_answersOf_57 : decode cX12_answersOf 57 = .ok (.ireturn, 1) := by decide +kernel
theorem dX12_isTold_0 : decode cX12_isTold 0 = .ok (.iconst 0, 1) := by decide +kernel
theorem dX12_isTold_1 : decode cX12_isTold 1 = .ok (.istore_n 3, 1) := by decide +kernel
theorem dX12_isTold_2 : decode cX12_isTold 2 = .ok (.iload_n 3, 1) := by decide +kernel
theorem dX12_isTold_3 : decode cX12_isTold 3 = .ok (.sipush 1024, 3) := by decide +kernel
theorem dX12_isTold_6 : decode cX12_isTold 6 = .ok (.if_icmp .ge 17, 3) := by decide +kernel
theorem dX12_isTold_9 : decode cX12_isTold 9 = .ok (.aload_n 0, 1) := by decide +kernel
theorem dX12_isTold_10 : decode cX12_isTold 10 = .ok (.getfield 77, 3) := by decide +kernel
theorem dX12_isTold_13 : decode cX12_isTold 13 = .ok (.iload_n 3, 1) := by decide +kernel
theorem dX12_isTold_14 : decode cX12_isTold 14 = .ok (.bipush (-2), 2) := by decide +kernel
theorem dX12_isTold_16 : decode cX12_isTold 16 = .ok (.iastore, 1) := by decide +kernel
theorem dX12_isTold_17 : decode cX12_isTold 17 = .ok (.iinc 3 1, 3) := by decide +kernel
theorem dX12_isTold_20 : decode cX12_isTold 20 = .ok (.goto (-18), 3) := by decide +kernel
theorem dX12_isTold_23 : decode cX12_isTold 23 = .ok (.iconst 0, 1) := by decide +kernel
theorem dX12_isTold_24 : decode cX12_isTold 24 = .ok (.istore_n 3, 1) := by decide +kernel
theorem dX12_isTold_25 : decode cX12_isTold 25 = .ok (.iload_n 3, 1) := by decide +kernel
theorem dX12_isTold_26 : decode cX12_isTold 26 = .ok (.aload_n 0, 1) := by decide +kernel
theorem dX12_isTold_27 : decode cX12_isTold 27 = .ok (.getfield 111, 3) := by decide +kernel
theorem dX12_isTold_30 : decode cX12_isTold 30 = .ok (.if_icmp .ge 60, 3) := by decide +kernel
theorem dX12_isTold_33 : decode cX12_isTold 33 = .ok (.aload_n 0, 1) := by decide +kernel
theorem dX12_isTold_34 : decode cX12_isTold 34 = .ok (.iload_n 2, 1) := by decide +kernel
theorem dX12_isTold_35 : decode cX12_isTold 35 = .ok (.iload_n 3, 1) := by decide +kernel
theorem dX12_isTold_36 : decode cX12_isTold 36 = .ok (.invokevirtual 327, 3) := by decide +kernel
theorem dX12_isTold_39 : decode cX12_isTold 39 = .ok (.istore 4, 2) := by decide +kernel
theorem dX12_isTold_41 : decode cX12_isTold 41 = .ok (.aload_n 0, 1) := by decide +kernel
theorem dX12_isTold_42 : decode cX12_isTold 42 = .ok (.getfield 77, 3) := by decide +kernel
theorem dX12_isTold_45 : decode cX12_isTold 45 = .ok (.iload 4, 2) := by decide +kernel
theorem dX12_isTold_47 : decode cX12_isTold 47 = .ok (.iaload, 1) := by decide +kernel
theorem dX12_isTold_48 : decode cX12_isTold 48 = .ok (.bipush (-2), 2) := by decide +kernel
theorem dX12_isTold_50 : decode cX12_isTold 50 = .ok (.if_icmp .eq 21, 3) := by decide +kernel
theorem dX12_isTold_53 : decode cX12_isTold 53 = .ok (.aload_n 0, 1) := by decide +kernel
theorem dX12_isTold_54 : decode cX12_isTold 54 = .ok (.getfield 77, 3) := by decide +kernel
theorem dX12_isTold_57 : decode cX12_isTold 57 = .ok (.iload 4, 2) := by decide +kernel
theorem dX12_isTold_59 : decode cX12_isTold 59 = .ok (.iaload, 1) := by decide +kernel
theorem dX12_isTold_60 : decode cX12_isTold 60 = .ok (.aload_n 0, 1) := by decide +kernel
theorem dX12_isTold_61 : decode cX12_isTold 61 = .ok (.iload_n 1, 1) := by decide +kernel
theorem dX12_isTold_62 : decode cX12_isTold 62 = .ok (.iload_n 3, 1) := by decide +kernel
theorem dX12_isTold_63 : decode cX12_isTold 63 = .ok (.invokevirtual 239, 3) := by decide +kernel
theorem dX12_isTold_66 : decode cX12_isTold 66 = .ok (.if_icmp .eq 5, 3) := by decide +kernel
theorem dX12_isTold_69 : decode cX12_isTold 69 = .ok (.iconst 0, 1) := by decide +kernel
theorem dX12_isTold_70 : decode cX12_isTold 70 = .ok (.ireturn, 1) := by decide +kernel
theorem dX12_isTold_71 : decode cX12_isTold 71 = .ok (.aload_n 0, 1) := by decide +kernel
theorem dX12_isTold_72 : decode cX12_isTold 72 = .ok (.getfield 77, 3) := by decide +kernel
theorem dX12_isTold_75 : decode cX12_isTold 75 = .ok (.iload 4, 2) := by decide +kernel
theorem dX12_isTold_77 : decode cX12_isTold 77 = .ok (.aload_n 0, 1) := by decide +kernel
theorem dX12_isTold_78 : decode cX12_isTold 78 = .ok (.iload_n 1, 1) := by decide +kernel
theorem dX12_isTold_79 : decode cX12_isTold 79 = .ok (.iload_n 3, 1) := by decide +kernel
theorem dX12_isTold_80 : decode cX12_isTold 80 = .ok (.invokevirtual 239, 3) := by decide +kernel
theorem dX12_isTold_83 : decode cX12_isTold 83 = .ok (.iastore, 1) := by decide +kernel
theorem dX12_isTold_84 : decode cX12_isTold 84 = .ok (.iinc 3 1, 3) := by decide +kernel
theorem dX12_isTold_87 : decode cX12_isTold 87 = .ok (.goto (-62), 3) := by decide +kernel
theorem dX12_isTold_90 : decode cX12_isTold 90 = .ok (.iconst 1, 1) := by decide +kernel
theorem dX12_isTold_91 : decode cX12_isTold 91 = .ok (.ireturn, 1) := by decide +kernel
theorem dX12_minutesOf_0 : decode cX12_minutesOf 0 = .ok (.iconst 0, 1) := by decide +kernel
theorem dX12_minutesOf_1 : decode cX12_minutesOf 1 = .ok (.istore_n 2, 1) := by decide +kernel
theorem dX12_minutesOf_2 : decode cX12_minutesOf 2 = .ok (.iconst 0, 1) := by decide +kernel
theorem dX12_minutesOf_3 : decode cX12_minutesOf 3 = .ok (.istore_n 3, 1) := by decide +kernel
theorem dX12_minutesOf_4 : decode cX12_minutesOf 4 = .ok (.iload_n 3, 1) := by decide +kernel
theorem dX12_minutesOf_5 : decode cX12_minutesOf 5 = .ok (.aload_n 0, 1) := by decide +kernel
theorem dX12_minutesOf_6 : decode cX12_minutesOf 6 = .ok (.getfield 219, 3) := by decide +kernel
theorem dX12_minutesOf_9 : decode cX12_minutesOf 9 = .ok (.if_icmp .ge 30, 3) := by decide +kernel
theorem dX12_minutesOf_12 : decode cX12_minutesOf 12 = .ok (.iload_n 2, 1) := by decide +kernel
theorem dX12_minutesOf_13 : decode cX12_minutesOf 13 = .ok (.iload_n 1, 1) := by decide +kernel
theorem dX12_minutesOf_14 : decode cX12_minutesOf 14 = .ok (.iload_n 3, 1) := by decide +kernel
theorem dX12_minutesOf_15 : decode cX12_minutesOf 15 = .ok (.invokestatic 157, 3) := by decide +kernel
theorem dX12_minutesOf_18 : decode cX12_minutesOf 18 = .ok (.ifCond .eq 12, 3) := by decide +kernel
theorem dX12_minutesOf_21 : decode cX12_minutesOf 21 = .ok (.aload_n 0, 1) := by decide +kernel
theorem dX12_minutesOf_22 : decode cX12_minutesOf 22 = .ok (.getfield 44, 3) := by decide +kernel
theorem dX12_minutesOf_25 : decode cX12_minutesOf 25 = .ok (.iload_n 3, 1) := by decide +kernel
theorem dX12_minutesOf_26 : decode cX12_minutesOf 26 = .ok (.iaload, 1) := by decide +kernel
theorem dX12_minutesOf_27 : decode cX12_minutesOf 27 = .ok (.goto 4, 3) := by decide +kernel
theorem dX12_minutesOf_30 : decode cX12_minutesOf 30 = .ok (.iconst 0, 1) := by decide +kernel
theorem dX12_minutesOf_31 : decode cX12_minutesOf 31 = .ok (.iadd, 1) := by decide +kernel
theorem dX12_minutesOf_32 : decode cX12_minutesOf 32 = .ok (.istore_n 2, 1) := by decide +kernel
theorem dX12_minutesOf_33 : decode cX12_minutesOf 33 = .ok (.iinc 3 1, 3) := by decide +kernel
theorem dX12_minutesOf_36 : decode cX12_minutesOf 36 = .ok (.goto (-32), 3) := by decide +kernel
theorem dX12_minutesOf_39 : decode cX12_minutesOf 39 = .ok (.iload_n 2, 1) := by decide +kernel
theorem dX12_minutesOf_40 : decode cX12_minutesOf 40 = .ok (.ireturn, 1) := by decide +kernel
theorem dX12_page_0 : decode cX12_page 0 = .ok (.aload_n 0, 1) := by decide +kernel
theorem dX12_page_1 : decode cX12_page 1 = .ok (.iconst 0, 1) := by decide +kernel
theorem dX12_page_2 : decode cX12_page 2 = .ok (.putfield 114, 3) := by decide +kernel
theorem dX12_page_5 : decode cX12_page 5 = .ok (.aload_n 0, 1) := by decide +kernel
theorem dX12_page_6 : decode cX12_page 6 = .ok (.iload_n 1, 1) := by decide +kernel
theorem dX12_page_7 : decode cX12_page 7 = .ok (.invokevirtual 233, 3) := by decide +kernel
theorem dX12_page_10 : decode cX12_page 10 = .ok (.ifCond .ne 5, 3) := by decide +kernel
theorem dX12_page_13 : decode cX12_page 13 = .ok (.iconst (-1), 1) := by decide +kernel
theorem dX12_page_14 : decode cX12_page 14 = .ok (.ireturn, 1) := by decide +kernel
theorem dX12_page_15 : decode cX12_page 15 = .ok (.iconst (-1), 1) := by decide +kernel
theorem dX12_page_16 : decode cX12_page 16 = .ok (.istore_n 2, 1) := by decide +kernel
theorem dX12_page_17 : decode cX12_page 17 = .ok (.iconst 0, 1) := by decide +kernel
theorem dX12_page_18 : decode cX12_page 18 = .ok (.istore_n 3, 1) := by decide +kernel
theorem dX12_page_19 : decode cX12_page 19 = .ok (.iload_n 3, 1) := by decide +kernel
theorem dX12_page_20 : decode cX12_page 20 = .ok (.iconst 1, 1) := by decide +kernel
theorem dX12_page_21 : decode cX12_page 21 = .ok (.aload_n 0, 1) := by decide +kernel
theorem dX12_page_22 : decode cX12_page 22 = .ok (.getfield 219, 3) := by decide +kernel
theorem dX12_page_25 : decode cX12_page 25 = .ok (.ishl, 1) := by decide +kernel
theorem dX12_page_26 : decode cX12_page 26 = .ok (.if_icmp .ge 60, 3) := by decide +kernel
theorem dX12_page_29 : decode cX12_page 29 = .ok (.iload_n 2, 1) := by decide +kernel
theorem dX12_page_30 : decode cX12_page 30 = .ok (.iconst (-1), 1) := by decide +kernel
theorem dX12_page_31 : decode cX12_page 31 = .ok (.if_icmp .ne 7, 3) := by decide +kernel
theorem dX12_page_34 : decode cX12_page 34 = .ok (.iconst (-1), 1) := by decide +kernel
theorem dX12_page_35 : decode cX12_page 35 = .ok (.goto 14, 3) := by decide +kernel
theorem dX12_page_38 : decode cX12_page 38 = .ok (.aload_n 0, 1) := by decide +kernel
theorem dX12_page_39 : decode cX12_page 39 = .ok (.iload_n 3, 1) := by decide +kernel
theorem dX12_page_40 : decode cX12_page 40 = .ok (.invokevirtual 330, 3) := by decide +kernel
theorem dX12_page_43 : decode cX12_page 43 = .ok (.aload_n 0, 1) := by decide +kernel
theorem dX12_page_44 : decode cX12_page 44 = .ok (.iload_n 2, 1) := by decide +kernel
theorem dX12_page_45 : decode cX12_page 45 = .ok (.invokevirtual 330, 3) := by decide +kernel
theorem dX12_page_48 : decode cX12_page 48 = .ok (.isub, 1) := by decide +kernel
theorem dX12_page_49 : decode cX12_page 49 = .ok (.istore 4, 2) := by decide +kernel
theorem dX12_page_51 : decode cX12_page 51 = .ok (.iload 4, 2) := by decide +kernel
theorem dX12_page_53 : decode cX12_page 53 = .ok (.ifCond .lt 16, 3) := by decide +kernel
theorem dX12_page_56 : decode cX12_page 56 = .ok (.iload 4, 2) := by decide +kernel
theorem dX12_page_58 : decode cX12_page 58 = .ok (.ifCond .ne 22, 3) := by decide +kernel
theorem dX12_page_61 : decode cX12_page 61 = .ok (.iload_n 3, 1) := by decide +kernel
theorem dX12_page_62 : decode cX12_page 62 = .ok (.iload_n 2, 1) := by decide +kernel
theorem dX12_page_63 : decode cX12_page 63 = .ok (.invokestatic 252, 3) := by decide +kernel
theorem dX12_page_66 : decode cX12_page 66 = .ok (.ifCond .eq 14, 3) := by decide +kernel
theorem dX12_page_69 : decode cX12_page 69 = .ok (.aload_n 0, 1) := by decide +kernel
theorem dX12_page_70 : decode cX12_page 70 = .ok (.iload_n 1, 1) := by decide +kernel
theorem dX12_page_71 : decode cX12_page 71 = .ok (.iload_n 3, 1) := by decide +kernel
theorem dX12_page_72 : decode cX12_page 72 = .ok (.invokevirtual 333, 3) := by decide +kernel
theorem dX12_page_75 : decode cX12_page 75 = .ok (.ifCond .eq 5, 3) := by decide +kernel
theorem dX12_page_78 : decode cX12_page 78 = .ok (.iload_n 3, 1) := by decide +kernel
theorem dX12_page_79 : decode cX12_page 79 = .ok (.istore_n 2, 1) := by decide +kernel
theorem dX12_page_80 : decode cX12_page 80 = .ok (.iinc 3 1, 3) := by decide +kernel
theorem dX12_page_83 : decode cX12_page 83 = .ok (.goto (-64), 3) := by decide +kernel
theorem dX12_page_86 : decode cX12_page 86 = .ok (.iload_n 2, 1) := by decide +kernel
theorem dX12_page_87 : decode cX12_page 87 = .ok (.ireturn, 1) := by decide +kernel
theorem dX12_tells_0 : decode cX12_tells 0 = .ok (.aload_n 0, 1) := by decide +kernel
theorem dX12_tells_1 : decode cX12_tells 1 = .ok (.iconst 0, 1) := by decide +kernel
theorem dX12_tells_2 : decode cX12_tells 2 = .ok (.putfield 114, 3) := by decide +kernel
theorem dX12_tells_5 : decode cX12_tells 5 = .ok (.aload_n 0, 1) := by decide +kernel
theorem dX12_tells_6 : decode cX12_tells 6 = .ok (.iload_n 1, 1) := by decide +kernel
theorem dX12_tells_7 : decode cX12_tells 7 = .ok (.invokevirtual 274, 3) := by decide +kernel
theorem dX12_tells_10 : decode cX12_tells 10 = .ok (.ifCond .eq 11, 3) := by decide +kernel
theorem dX12_tells_13 : decode cX12_tells 13 = .ok (.aload_n 0, 1) := by decide +kernel
theorem dX12_tells_14 : decode cX12_tells 14 = .ok (.iload_n 2, 1) := by decide +kernel
theorem dX12_tells_15 : decode cX12_tells 15 = .ok (.invokevirtual 233, 3) := by decide +kernel
theorem dX12_tells_18 : decode cX12_tells 18 = .ok (.ifCond .ne 5, 3) := by decide +kernel
theorem dX12_tells_21 : decode cX12_tells 21 = .ok (.iconst (-1), 1) := by decide +kernel
theorem dX12_tells_22 : decode cX12_tells 22 = .ok (.ireturn, 1) := by decide +kernel
theorem dX12_tells_23 : decode cX12_tells 23 = .ok (.iconst 0, 1) := by decide +kernel
theorem dX12_tells_24 : decode cX12_tells 24 = .ok (.istore_n 3, 1) := by decide +kernel
theorem dX12_tells_25 : decode cX12_tells 25 = .ok (.iconst 0, 1) := by decide +kernel
theorem dX12_tells_26 : decode cX12_tells 26 = .ok (.istore 4, 2) := by decide +kernel
theorem dX12_tells_28 : decode cX12_tells 28 = .ok (.iload 4, 2) := by decide +kernel
theorem dX12_tells_30 : decode cX12_tells 30 = .ok (.aload_n 0, 1) := by decide +kernel
theorem dX12_tells_31 : decode cX12_tells 31 = .ok (.getfield 111, 3) := by decide +kernel
theorem dX12_tells_34 : decode cX12_tells 34 = .ok (.if_icmp .ge 79, 3) := by decide +kernel
theorem dX12_tells_37 : decode cX12_tells 37 = .ok (.iconst 0, 1) := by decide +kernel
theorem dX12_tells_38 : decode cX12_tells 38 = .ok (.istore 5, 2) := by decide +kernel
theorem dX12_tells_40 : decode cX12_tells 40 = .ok (.iload 5, 2) := by decide +kernel
theorem dX12_tells_42 : decode cX12_tells 42 = .ok (.iload 4, 2) := by decide +kernel
theorem dX12_tells_44 : decode cX12_tells 44 = .ok (.if_icmp .ge 63, 3) := by decide +kernel
theorem dX12_tells_47 : decode cX12_tells 47 = .ok (.iload_n 3, 1) := by decide +kernel
theorem dX12_tells_48 : decode cX12_tells 48 = .ok (.aload_n 0, 1) := by decide +kernel
theorem dX12_tells_49 : decode cX12_tells 49 = .ok (.iload_n 2, 1) := by decide +kernel
theorem dX12_tells_50 : decode cX12_tells 50 = .ok (.iload 4, 2) := by decide +kernel
theorem dX12_tells_52 : decode cX12_tells 52 = .ok (.invokevirtual 239, 3) := by decide +kernel
theorem dX12_tells_55 : decode cX12_tells 55 = .ok (.aload_n 0, 1) := by decide +kernel
theorem dX12_tells_56 : decode cX12_tells 56 = .ok (.iload_n 2, 1) := by decide +kernel
theorem dX12_tells_57 : decode cX12_tells 57 = .ok (.iload 5, 2) := by decide +kernel
theorem dX12_tells_59 : decode cX12_tells 59 = .ok (.invokevirtual 239, 3) := by decide +kernel
theorem dX12_tells_62 : decode cX12_tells 62 = .ok (.if_icmp .eq 36, 3) := by decide +kernel
theorem dX12_tells_65 : decode cX12_tells 65 = .ok (.aload_n 0, 1) := by decide +kernel
theorem dX12_tells_66 : decode cX12_tells 66 = .ok (.getfield 47, 3) := by decide +kernel
theorem dX12_tells_69 : decode cX12_tells 69 = .ok (.sipush 512, 3) := by decide +kernel
theorem dX12_tells_72 : decode cX12_tells 72 = .ok (.iload_n 1, 1) := by decide +kernel
theorem dX12_tells_73 : decode cX12_tells 73 = .ok (.imul, 1) := by decide +kernel
theorem dX12_tells_74 : decode cX12_tells 74 = .ok (.iload 4, 2) := by decide +kernel
theorem dX12_tells_76 : decode cX12_tells 76 = .ok (.iadd, 1) := by decide +kernel
theorem dX12_tells_77 : decode cX12_tells 77 = .ok (.baload, 1) := by decide +kernel
theorem dX12_tells_78 : decode cX12_tells 78 = .ok (.aload_n 0, 1) := by decide +kernel
theorem dX12_tells_79 : decode cX12_tells 79 = .ok (.getfield 47, 3) := by decide +kernel
theorem dX12_tells_82 : decode cX12_tells 82 = .ok (.sipush 512, 3) := by decide +kernel
theorem dX12_tells_85 : decode cX12_tells 85 = .ok (.iload_n 1, 1) := by decide +kernel
theorem dX12_tells_86 : decode cX12_tells 86 = .ok (.imul, 1) := by decide +kernel
theorem dX12_tells_87 : decode cX12_tells 87 = .ok (.iload 5, 2) := by decide +kernel
theorem dX12_tells_89 : decode cX12_tells 89 = .ok (.iadd, 1) := by decide +kernel
theorem dX12_tells_90 : decode cX12_tells 90 = .ok (.baload, 1) := by decide +kernel
theorem dX12_tells_91 : decode cX12_tells 91 = .ok (.if_icmp .eq 7, 3) := by decide +kernel
theorem dX12_tells_94 : decode cX12_tells 94 = .ok (.iconst 1, 1) := by decide +kernel
theorem dX12_tells_95 : decode cX12_tells 95 = .ok (.goto 4, 3) := by decide +kernel
theorem dX12_tells_98 : decode cX12_tells 98 = .ok (.iconst 0, 1) := by decide +kernel
theorem dX12_tells_99 : decode cX12_tells 99 = .ok (.iadd, 1) := by decide +kernel
theorem dX12_tells_100 : decode cX12_tells 100 = .ok (.istore_n 3, 1) := by decide +kernel
theorem dX12_tells_101 : decode cX12_tells 101 = .ok (.iinc 5 1, 3) := by decide +kernel
theorem dX12_tells_104 : decode cX12_tells 104 = .ok (.goto (-64), 3) := by decide +kernel
theorem dX12_tells_107 : decode cX12_tells 107 = .ok (.iinc 4 1, 3) := by decide +kernel
theorem dX12_tells_110 : decode cX12_tells 110 = .ok (.goto (-82), 3) := by decide +kernel
theorem dX12_tells_113 : decode cX12_tells 113 = .ok (.iload_n 3, 1) := by decide +kernel
theorem dX12_tells_114 : decode cX12_tells 114 = .ok (.ireturn, 1) := by decide +kernel
theorem dX12_offFrom_0 : decode cX12_offFrom 0 = .ok (.lload 5, 2) := by decide +kernel
theorem dX12_offFrom_2 : decode cX12_offFrom 2 = .ok (.lconst 0, 1) := by decide +kernel
theorem dX12_offFrom_3 : decode cX12_offFrom 3 = .ok (.lcmp, 1) := by decide +kernel
theorem dX12_offFrom_4 : decode cX12_offFrom 4 = .ok (.ifCond .ne 5, 3) := by decide +kernel
theorem dX12_offFrom_7 : decode cX12_offFrom 7 = .ok (.lconst 0, 1) := by decide +kernel
theorem dX12_offFrom_8 : decode cX12_offFrom 8 = .ok (.lreturn, 1) := by decide +kernel
theorem dX12_offFrom_9 : decode cX12_offFrom 9 = .ok (.iload_n 2, 1) := by decide +kernel
theorem dX12_offFrom_10 : decode cX12_offFrom 10 = .ok (.bipush 12, 2) := by decide +kernel
theorem dX12_offFrom_12 : decode cX12_offFrom 12 = .ok (.if_icmp .lt 19, 3) := by decide +kernel
theorem dX12_offFrom_15 : decode cX12_offFrom 15 = .ok (.iload_n 2, 1) := by decide +kernel
theorem dX12_offFrom_16 : decode cX12_offFrom 16 = .ok (.bipush 100, 2) := by decide +kernel
theorem dX12_offFrom_18 : decode cX12_offFrom 18 = .ok (.isub, 1) := by decide +kernel
theorem dX12_offFrom_19 : decode cX12_offFrom 19 = .ok (.iload 4, 2) := by decide +kernel
theorem dX12_offFrom_21 : decode cX12_offFrom 21 = .ok (.if_icmp .eq 8, 3) := by decide +kernel
theorem dX12_offFrom_24 : decode cX12_offFrom 24 = .ok (.lload 5, 2) := by decide +kernel
theorem dX12_offFrom_26 : decode cX12_offFrom 26 = .ok (.goto 4, 3) := by decide +kernel
theorem dX12_offFrom_29 : decode cX12_offFrom 29 = .ok (.lconst 0, 1) := by decide +kernel
theorem dX12_offFrom_30 : decode cX12_offFrom 30 = .ok (.lreturn, 1) := by decide +kernel
theorem dX12_offFrom_31 : decode cX12_offFrom 31 = .ok (.aload_n 0, 1) := by decide +kernel
theorem dX12_offFrom_32 : decode cX12_offFrom 32 = .ok (.iload_n 1, 1) := by decide +kernel
theorem dX12_offFrom_33 : decode cX12_offFrom 33 = .ok (.iload_n 2, 1) := by decide +kernel
theorem dX12_offFrom_34 : decode cX12_offFrom 34 = .ok (.invokevirtual 255, 3) := by decide +kernel
theorem dX12_offFrom_37 : decode cX12_offFrom 37 = .ok (.istore 8, 2) := by decide +kernel
theorem dX12_offFrom_39 : decode cX12_offFrom 39 = .ok (.iload 8, 2) := by decide +kernel
theorem dX12_offFrom_41 : decode cX12_offFrom 41 = .ok (.iload 7, 2) := by decide +kernel
theorem dX12_offFrom_43 : decode cX12_offFrom 43 = .ok (.if_icmp .ne 7, 3) := by decide +kernel
theorem dX12_offFrom_46 : decode cX12_offFrom 46 = .ok (.lconst 0, 1) := by decide +kernel
theorem dX12_offFrom_47 : decode cX12_offFrom 47 = .ok (.goto 18, 3) := by decide +kernel
theorem dX12_offFrom_50 : decode cX12_offFrom 50 = .ok (.lload 5, 2) := by decide +kernel
theorem dX12_offFrom_52 : decode cX12_offFrom 52 = .ok (.ldc2_w 283, 3) := by decide +kernel
theorem dX12_offFrom_55 : decode cX12_offFrom 55 = .ok (.ldiv, 1) := by decide +kernel
theorem dX12_offFrom_56 : decode cX12_offFrom 56 = .ok (.aload_n 0, 1) := by decide +kernel
theorem dX12_offFrom_57 : decode cX12_offFrom 57 = .ok (.getfield 54, 3) := by decide +kernel
theorem dX12_offFrom_60 : decode cX12_offFrom 60 = .ok (.iload 8, 2) := by decide +kernel
theorem dX12_offFrom_62 : decode cX12_offFrom 62 = .ok (.iaload, 1) := by decide +kernel
theorem dX12_offFrom_63 : decode cX12_offFrom 63 = .ok (.i2l, 1) := by decide +kernel
theorem dX12_offFrom_64 : decode cX12_offFrom 64 = .ok (.lmul, 1) := by decide +kernel
theorem dX12_offFrom_65 : decode cX12_offFrom 65 = .ok (.lstore 9, 2) := by decide +kernel
theorem dX12_offFrom_67 : decode cX12_offFrom 67 = .ok (.aload_n 0, 1) := by decide +kernel
theorem dX12_offFrom_68 : decode cX12_offFrom 68 = .ok (.iload_n 1, 1) := by decide +kernel
theorem dX12_offFrom_69 : decode cX12_offFrom 69 = .ok (.aload_n 0, 1) := by decide +kernel
theorem dX12_offFrom_70 : decode cX12_offFrom 70 = .ok (.iload_n 1, 1) := by decide +kernel
theorem dX12_offFrom_71 : decode cX12_offFrom 71 = .ok (.iload_n 2, 1) := by decide +kernel
theorem dX12_offFrom_72 : decode cX12_offFrom 72 = .ok (.iload_n 3, 1) := by decide +kernel
theorem dX12_offFrom_73 : decode cX12_offFrom 73 = .ok (.iload 8, 2) := by decide +kernel
theorem dX12_offFrom_75 : decode cX12_offFrom 75 = .ok (.invokestatic 157, 3) := by decide +kernel
theorem dX12_offFrom_78 : decode cX12_offFrom 78 = .ok (.invokevirtual 258, 3) := by decide +kernel
theorem dX12_offFrom_81 : decode cX12_offFrom 81 = .ok (.iload_n 3, 1) := by decide +kernel
theorem dX12_offFrom_82 : decode cX12_offFrom 82 = .ok (.iload 4, 2) := by decide +kernel
theorem dX12_offFrom_84 : decode cX12_offFrom 84 = .ok (.lload 5, 2) := by decide +kernel
theorem dX12_offFrom_86 : decode cX12_offFrom 86 = .ok (.lload 9, 2) := by decide +kernel
theorem dX12_offFrom_88 : decode cX12_offFrom 88 = .ok (.lsub, 1) := by decide +kernel
theorem dX12_offFrom_89 : decode cX12_offFrom 89 = .ok (.iload 7, 2) := by decide +kernel
theorem dX12_offFrom_91 : decode cX12_offFrom 91 = .ok (.invokevirtual 336, 3) := by decide +kernel
theorem dX12_offFrom_94 : decode cX12_offFrom 94 = .ok (.aload_n 0, 1) := by decide +kernel
theorem dX12_offFrom_95 : decode cX12_offFrom 95 = .ok (.iload_n 1, 1) := by decide +kernel
theorem dX12_offFrom_96 : decode cX12_offFrom 96 = .ok (.aload_n 0, 1) := by decide +kernel
theorem dX12_offFrom_97 : decode cX12_offFrom 97 = .ok (.iload_n 1, 1) := by decide +kernel
theorem dX12_offFrom_98 : decode cX12_offFrom 98 = .ok (.iload_n 2, 1) := by decide +kernel
theorem dX12_offFrom_99 : decode cX12_offFrom 99 = .ok (.iload_n 3, 1) := by decide +kernel
theorem dX12_offFrom_100 : decode cX12_offFrom 100 = .ok (.iload 8, 2) := by decide +kernel
theorem dX12_offFrom_102 : decode cX12_offFrom 102 = .ok (.invokestatic 157, 3) := by decide +kernel
theorem dX12_offFrom_105 : decode cX12_offFrom 105 = .ok (.ifCond .ne 7, 3) := by decide +kernel
theorem dX12_offFrom_108 : decode cX12_offFrom 108 = .ok (.iconst 1, 1) := by decide +kernel
theorem dX12_offFrom_109 : decode cX12_offFrom 109 = .ok (.goto 4, 3) := by decide +kernel
theorem dX12_offFrom_112 : decode cX12_offFrom 112 = .ok (.iconst 0, 1) := by decide +kernel
theorem dX12_offFrom_113 : decode cX12_offFrom 113 = .ok (.invokevirtual 258, 3) := by decide +kernel
theorem dX12_offFrom_116 : decode cX12_offFrom 116 = .ok (.iload_n 3, 1) := by decide +kernel
theorem dX12_offFrom_117 : decode cX12_offFrom 117 = .ok (.iload 4, 2) := by decide +kernel
theorem dX12_offFrom_119 : decode cX12_offFrom 119 = .ok (.lload 9, 2) := by decide +kernel
theorem dX12_offFrom_121 : decode cX12_offFrom 121 = .ok (.iload 7, 2) := by decide +kernel
theorem dX12_offFrom_123 : decode cX12_offFrom 123 = .ok (.invokevirtual 336, 3) := by decide +kernel
theorem dX12_offFrom_126 : decode cX12_offFrom 126 = .ok (.ladd, 1) := by decide +kernel
theorem dX12_offFrom_127 : decode cX12_offFrom 127 = .ok (.lreturn, 1) := by decide +kernel
theorem dX12_off_0 : decode cX12_off 0 = .ok (.aload_n 0, 1) := by decide +kernel
theorem dX12_off_1 : decode cX12_off 1 = .ok (.iconst 0, 1) := by decide +kernel
theorem dX12_off_2 : decode cX12_off 2 = .ok (.putfield 114, 3) := by decide +kernel
theorem dX12_off_5 : decode cX12_off 5 = .ok (.aload_n 0, 1) := by decide +kernel
theorem dX12_off_6 : decode cX12_off 6 = .ok (.iload_n 1, 1) := by decide +kernel
theorem dX12_off_7 : decode cX12_off 7 = .ok (.invokevirtual 262, 3) := by decide +kernel
theorem dX12_off_10 : decode cX12_off 10 = .ok (.ifCond .eq 39, 3) := by decide +kernel
theorem dX12_off_13 : decode cX12_off 13 = .ok (.aload_n 0, 1) := by decide +kernel
theorem dX12_off_14 : decode cX12_off 14 = .ok (.iload_n 2, 1) := by decide +kernel
theorem dX12_off_15 : decode cX12_off 15 = .ok (.invokevirtual 233, 3) := by decide +kernel
theorem dX12_off_18 : decode cX12_off 18 = .ok (.ifCond .eq 31, 3) := by decide +kernel
theorem dX12_off_21 : decode cX12_off 21 = .ok (.aload_n 0, 1) := by decide +kernel
theorem dX12_off_22 : decode cX12_off 22 = .ok (.iload_n 3, 1) := by decide +kernel
theorem dX12_off_23 : decode cX12_off 23 = .ok (.invokevirtual 236, 3) := by decide +kernel
theorem dX12_off_26 : decode cX12_off 26 = .ok (.ifCond .eq 23, 3) := by decide +kernel
theorem dX12_off_29 : decode cX12_off 29 = .ok (.aload_n 0, 1) := by decide +kernel
theorem dX12_off_30 : decode cX12_off 30 = .ok (.iload_n 1, 1) := by decide +kernel
theorem dX12_off_31 : decode cX12_off 31 = .ok (.iconst 0, 1) := by decide +kernel
theorem dX12_off_32 : decode cX12_off 32 = .ok (.iload_n 3, 1) := by decide +kernel
theorem dX12_off_33 : decode cX12_off 33 = .ok (.aload_n 0, 1) := by decide +kernel
theorem dX12_off_34 : decode cX12_off 34 = .ok (.iload_n 2, 1) := by decide +kernel
theorem dX12_off_35 : decode cX12_off 35 = .ok (.iload_n 3, 1) := by decide +kernel
theorem dX12_off_36 : decode cX12_off 36 = .ok (.invokevirtual 239, 3) := by decide +kernel
theorem dX12_off_39 : decode cX12_off 39 = .ok (.ldc2_w 340, 3) := by decide +kernel
theorem dX12_off_42 : decode cX12_off 42 = .ok (.iconst (-1), 1) := by decide +kernel
theorem dX12_off_43 : decode cX12_off 43 = .ok (.invokevirtual 336, 3) := by decide +kernel
theorem dX12_off_46 : decode cX12_off 46 = .ok (.goto 6, 3) := by decide +kernel
theorem dX12_off_49 : decode cX12_off 49 = .ok (.ldc2_w 289, 3) := by decide +kernel
theorem dX12_off_52 : decode cX12_off 52 = .ok (.lreturn, 1) := by decide +kernel
theorem dX12_weak_0 : decode cX12_weak 0 = .ok (.aload_n 0, 1) := by decide +kernel
theorem dX12_weak_1 : decode cX12_weak 1 = .ok (.iconst 0, 1) := by decide +kernel
theorem dX12_weak_2 : decode cX12_weak 2 = .ok (.putfield 114, 3) := by decide +kernel
theorem dX12_weak_5 : decode cX12_weak 5 = .ok (.aload_n 0, 1) := by decide +kernel
theorem dX12_weak_6 : decode cX12_weak 6 = .ok (.iload_n 1, 1) := by decide +kernel
theorem dX12_weak_7 : decode cX12_weak 7 = .ok (.invokevirtual 262, 3) := by decide +kernel
theorem dX12_weak_10 : decode cX12_weak 10 = .ok (.ifCond .eq 11, 3) := by decide +kernel
theorem dX12_weak_13 : decode cX12_weak 13 = .ok (.aload_n 0, 1) := by decide +kernel
theorem dX12_weak_14 : decode cX12_weak 14 = .ok (.iload_n 2, 1) := by decide +kernel
theorem dX12_weak_15 : decode cX12_weak 15 = .ok (.invokevirtual 233, 3) := by decide +kernel
theorem dX12_weak_18 : decode cX12_weak 18 = .ok (.ifCond .ne 5, 3) := by decide +kernel
theorem dX12_weak_21 : decode cX12_weak 21 = .ok (.iconst (-1), 1) := by decide +kernel
theorem dX12_weak_22 : decode cX12_weak 22 = .ok (.ireturn, 1) := by decide +kernel
theorem dX12_weak_23 : decode cX12_weak 23 = .ok (.iconst (-1), 1) := by decide +kernel
theorem dX12_weak_24 : decode cX12_weak 24 = .ok (.istore_n 3, 1) := by decide +kernel
theorem dX12_weak_25 : decode cX12_weak 25 = .ok (.lconst 0, 1) := by decide +kernel
theorem dX12_weak_26 : decode cX12_weak 26 = .ok (.lstore 4, 2) := by decide +kernel
theorem dX12_weak_28 : decode cX12_weak 28 = .ok (.iconst 0, 1) := by decide +kernel
theorem dX12_weak_29 : decode cX12_weak 29 = .ok (.istore 6, 2) := by decide +kernel
theorem dX12_weak_31 : decode cX12_weak 31 = .ok (.iload 6, 2) := by decide +kernel
theorem dX12_weak_33 : decode cX12_weak 33 = .ok (.aload_n 0, 1) := by decide +kernel
theorem dX12_weak_34 : decode cX12_weak 34 = .ok (.getfield 107, 3) := by decide +kernel
theorem dX12_weak_37 : decode cX12_weak 37 = .ok (.if_icmp .ge 78, 3) := by decide +kernel
theorem dX12_weak_40 : decode cX12_weak 40 = .ok (.lconst 0, 1) := by decide +kernel
theorem dX12_weak_41 : decode cX12_weak 41 = .ok (.lstore 7, 2) := by decide +kernel
theorem dX12_weak_43 : decode cX12_weak 43 = .ok (.iconst 0, 1) := by decide +kernel
theorem dX12_weak_44 : decode cX12_weak 44 = .ok (.istore 9, 2) := by decide +kernel
theorem dX12_weak_46 : decode cX12_weak 46 = .ok (.iload 9, 2) := by decide +kernel
theorem dX12_weak_48 : decode cX12_weak 48 = .ok (.aload_n 0, 1) := by decide +kernel
theorem dX12_weak_49 : decode cX12_weak 49 = .ok (.getfield 111, 3) := by decide +kernel
theorem dX12_weak_52 : decode cX12_weak 52 = .ok (.if_icmp .ge 34, 3) := by decide +kernel
theorem dX12_weak_55 : decode cX12_weak 55 = .ok (.lload 7, 2) := by decide +kernel
theorem dX12_weak_57 : decode cX12_weak 57 = .ok (.aload_n 0, 1) := by decide +kernel
theorem dX12_weak_58 : decode cX12_weak 58 = .ok (.iload_n 1, 1) := by decide +kernel
theorem dX12_weak_59 : decode cX12_weak 59 = .ok (.iconst 0, 1) := by decide +kernel
theorem dX12_weak_60 : decode cX12_weak 60 = .ok (.iload 9, 2) := by decide +kernel
theorem dX12_weak_62 : decode cX12_weak 62 = .ok (.aload_n 0, 1) := by decide +kernel
theorem dX12_weak_63 : decode cX12_weak 63 = .ok (.iload_n 2, 1) := by decide +kernel
theorem dX12_weak_64 : decode cX12_weak 64 = .ok (.iload 9, 2) := by decide +kernel
theorem dX12_weak_66 : decode cX12_weak 66 = .ok (.invokevirtual 239, 3) := by decide +kernel
theorem dX12_weak_69 : decode cX12_weak 69 = .ok (.ldc2_w 340, 3) := by decide +kernel
theorem dX12_weak_72 : decode cX12_weak 72 = .ok (.iload 6, 2) := by decide +kernel
theorem dX12_weak_74 : decode cX12_weak 74 = .ok (.invokevirtual 336, 3) := by decide +kernel
theorem dX12_weak_77 : decode cX12_weak 77 = .ok (.ladd, 1) := by decide +kernel
theorem dX12_weak_78 : decode cX12_weak 78 = .ok (.lstore 7, 2) := by decide +kernel
theorem dX12_weak_80 : decode cX12_weak 80 = .ok (.iinc 9 1, 3) := by decide +kernel
theorem dX12_weak_83 : decode cX12_weak 83 = .ok (.goto (-37), 3) := by decide +kernel
theorem dX12_weak_86 : decode cX12_weak 86 = .ok (.iload_n 3, 1) := by decide +kernel
theorem dX12_weak_87 : decode cX12_weak 87 = .ok (.iconst (-1), 1) := by decide +kernel
theorem dX12_weak_88 : decode cX12_weak 88 = .ok (.if_icmp .eq 14, 3) := by decide +kernel
theorem dX12_weak_91 : decode cX12_weak 91 = .ok (.lload 7, 2) := by decide +kernel
theorem dX12_weak_93 : decode cX12_weak 93 = .ok (.lload 4, 2) := by decide +kernel
theorem dX12_weak_95 : decode cX12_weak 95 = .ok (.lcmp, 1) := by decide +kernel
theorem dX12_weak_96 : decode cX12_weak 96 = .ok (.ifCond .lt 6, 3) := by decide +kernel
theorem dX12_weak_99 : decode cX12_weak 99 = .ok (.goto 10, 3) := by decide +kernel
theorem dX12_weak_102 : decode cX12_weak 102 = .ok (.iload 6, 2) := by decide +kernel
theorem dX12_weak_104 : decode cX12_weak 104 = .ok (.istore_n 3, 1) := by decide +kernel
theorem dX12_weak_105 : decode cX12_weak 105 = .ok (.lload 7, 2) := by decide +kernel
theorem dX12_weak_107 : decode cX12_weak 107 = .ok (.lstore 4, 2) := by decide +kernel
theorem dX12_weak_109 : decode cX12_weak 109 = .ok (.iinc 6 1, 3) := by decide +kernel
theorem dX12_weak_112 : decode cX12_weak 112 = .ok (.goto (-81), 3) := by decide +kernel
theorem dX12_weak_115 : decode cX12_weak 115 = .ok (.iload_n 3, 1) := by decide +kernel
theorem dX12_weak_116 : decode cX12_weak 116 = .ok (.ireturn, 1) := by decide +kernel
theorem dX12_draw_0 : decode cX12_draw 0 = .ok (.aload_n 0, 1) := by decide +kernel
theorem dX12_draw_1 : decode cX12_draw 1 = .ok (.aload_n 0, 1) := by decide +kernel
theorem dX12_draw_2 : decode cX12_draw 2 = .ok (.getfield 342, 3) := by decide +kernel
theorem dX12_draw_5 : decode cX12_draw 5 = .ok (.ldc2_w 346, 3) := by decide +kernel
theorem dX12_draw_8 : decode cX12_draw 8 = .ok (.lmul, 1) := by decide +kernel
theorem dX12_draw_9 : decode cX12_draw 9 = .ok (.ldc2_w 348, 3) := by decide +kernel
theorem dX12_draw_12 : decode cX12_draw 12 = .ok (.ladd, 1) := by decide +kernel
theorem dX12_draw_13 : decode cX12_draw 13 = .ok (.putfield 342, 3) := by decide +kernel
theorem dX12_draw_16 : decode cX12_draw 16 = .ok (.aload_n 0, 1) := by decide +kernel
theorem dX12_draw_17 : decode cX12_draw 17 = .ok (.getfield 342, 3) := by decide +kernel
theorem dX12_draw_20 : decode cX12_draw 20 = .ok (.bipush 33, 2) := by decide +kernel
theorem dX12_draw_22 : decode cX12_draw 22 = .ok (.lushr, 1) := by decide +kernel
theorem dX12_draw_23 : decode cX12_draw 23 = .ok (.iload_n 1, 1) := by decide +kernel
theorem dX12_draw_24 : decode cX12_draw 24 = .ok (.i2l, 1) := by decide +kernel
theorem dX12_draw_25 : decode cX12_draw 25 = .ok (.lrem, 1) := by decide +kernel
theorem dX12_draw_26 : decode cX12_draw 26 = .ok (.l2i, 1) := by decide +kernel
theorem dX12_draw_27 : decode cX12_draw 27 = .ok (.ireturn, 1) := by decide +kernel
theorem dX12_person_0 : decode cX12_person 0 = .ok (.aload_n 0, 1) := by decide +kernel
theorem dX12_person_1 : decode cX12_person 1 = .ok (.iconst 0, 1) := by decide +kernel
theorem dX12_person_2 : decode cX12_person 2 = .ok (.putfield 114, 3) := by decide +kernel
theorem dX12_person_5 : decode cX12_person 5 = .ok (.aload_n 0, 1) := by decide +kernel
theorem dX12_person_6 : decode cX12_person 6 = .ok (.getfield 280, 3) := by decide +kernel
theorem dX12_person_9 : decode cX12_person 9 = .ok (.ifCond .eq 12, 3) := by decide +kernel
theorem dX12_person_12 : decode cX12_person 12 = .ok (.iload_n 3, 1) := by decide +kernel
theorem dX12_person_13 : decode cX12_person 13 = .ok (.iconst 0, 1) := by decide +kernel
theorem dX12_person_14 : decode cX12_person 14 = .ok (.iconst 1, 1) := by decide +kernel
theorem dX12_person_15 : decode cX12_person 15 = .ok (.invokestatic 209, 3) := by decide +kernel
theorem dX12_person_18 : decode cX12_person 18 = .ok (.ifCond .ne 5, 3) := by decide +kernel
theorem dX12_person_21 : decode cX12_person 21 = .ok (.iconst (-1), 1) := by decide +kernel
theorem dX12_person_22 : decode cX12_person 22 = .ok (.ireturn, 1) := by decide +kernel
theorem dX12_person_23 : decode cX12_person 23 = .ok (.aload_n 0, 1) := by decide +kernel
theorem dX12_person_24 : decode cX12_person 24 = .ok (.lload_n 1, 1) := by decide +kernel
theorem dX12_person_25 : decode cX12_person 25 = .ok (.putfield 342, 3) := by decide +kernel
theorem dX12_person_28 : decode cX12_person 28 = .ok (.iconst 0, 1) := by decide +kernel
theorem dX12_person_29 : decode cX12_person 29 = .ok (.istore 4, 2) := by decide +kernel
theorem dX12_person_31 : decode cX12_person 31 = .ok (.iconst 0, 1) := by decide +kernel
theorem dX12_person_32 : decode cX12_person 32 = .ok (.istore 5, 2) := by decide +kernel
theorem dX12_person_34 : decode cX12_person 34 = .ok (.iload 5, 2) := by decide +kernel
theorem dX12_person_36 : decode cX12_person 36 = .ok (.aload_n 0, 1) := by decide +kernel
theorem dX12_person_37 : decode cX12_person 37 = .ok (.getfield 280, 3) := by decide +kernel
theorem dX12_person_40 : decode cX12_person 40 = .ok (.if_icmp .ge 21, 3) := by decide +kernel
theorem dX12_person_43 : decode cX12_person 43 = .ok (.iload 4, 2) := by decide +kernel
theorem dX12_person_45 : decode cX12_person 45 = .ok (.aload_n 0, 1) := by decide +kernel
theorem dX12_person_46 : decode cX12_person 46 = .ok (.getfield 57, 3) := by decide +kernel
theorem dX12_person_49 : decode cX12_person 49 = .ok (.iload 5, 2) := by decide +kernel
theorem dX12_person_51 : decode cX12_person 51 = .ok (.iaload, 1) := by decide +kernel
theorem dX12_person_52 : decode cX12_person 52 = .ok (.iadd, 1) := by decide +kernel
theorem dX12_person_53 : decode cX12_person 53 = .ok (.istore 4, 2) := by decide +kernel
theorem dX12_person_55 : decode cX12_person 55 = .ok (.iinc 5 1, 3) := by decide +kernel
theorem dX12_person_58 : decode cX12_person 58 = .ok (.goto (-24), 3) := by decide +kernel
theorem dX12_person_61 : decode cX12_person 61 = .ok (.aload_n 0, 1) := by decide +kernel
theorem dX12_person_62 : decode cX12_person 62 = .ok (.iload 4, 2) := by decide +kernel
theorem dX12_person_64 : decode cX12_person 64 = .ok (.invokevirtual 350, 3) := by decide +kernel
theorem dX12_person_67 : decode cX12_person 67 = .ok (.istore 5, 2) := by decide +kernel
theorem dX12_person_69 : decode cX12_person 69 = .ok (.iconst 0, 1) := by decide +kernel
theorem dX12_person_70 : decode cX12_person 70 = .ok (.istore 6, 2) := by decide +kernel
theorem dX12_person_72 : decode cX12_person 72 = .ok (.iload 5, 2) := by decide +kernel
theorem dX12_person_74 : decode cX12_person 74 = .ok (.aload_n 0, 1) := by decide +kernel
theorem dX12_person_75 : decode cX12_person 75 = .ok (.getfield 57, 3) := by decide +kernel
theorem dX12_person_78 : decode cX12_person 78 = .ok (.iload 6, 2) := by decide +kernel
theorem dX12_person_80 : decode cX12_person 80 = .ok (.iaload, 1) := by decide +kernel
theorem dX12_person_81 : decode cX12_person 81 = .ok (.if_icmp .lt 21, 3) := by decide +kernel
theorem dX12_person_84 : decode cX12_person 84 = .ok (.iload 5, 2) := by decide +kernel
theorem dX12_person_86 : decode cX12_person 86 = .ok (.aload_n 0, 1) := by decide +kernel
theorem dX12_person_87 : decode cX12_person 87 = .ok (.getfield 57, 3) := by decide +kernel
theorem dX12_person_90 : decode cX12_person 90 = .ok (.iload 6, 2) := by decide +kernel
theorem dX12_person_92 : decode cX12_person 92 = .ok (.iaload, 1) := by decide +kernel
theorem dX12_person_93 : decode cX12_person 93 = .ok (.isub, 1) := by decide +kernel
theorem dX12_person_94 : decode cX12_person 94 = .ok (.istore 5, 2) := by decide +kernel
theorem dX12_person_96 : decode cX12_person 96 = .ok (.iinc 6 1, 3) := by decide +kernel
theorem dX12_person_99 : decode cX12_person 99 = .ok (.goto (-27), 3) := by decide +kernel
theorem dX12_person_102 : decode cX12_person 102 = .ok (.iconst 0, 1) := by decide +kernel
theorem dX12_person_103 : decode cX12_person 103 = .ok (.istore 7, 2) := by decide +kernel
theorem dX12_person_105 : decode cX12_person 105 = .ok (.iconst 0, 1) := by decide +kernel
theorem dX12_person_106 : decode cX12_person 106 = .ok (.istore 8, 2) := by decide +kernel
theorem dX12_person_108 : decode cX12_person 108 = .ok (.iload 8, 2) := by decide +kernel
theorem dX12_person_110 : decode cX12_person 110 = .ok (.aload_n 0, 1) := by decide +kernel
theorem dX12_person_111 : decode cX12_person 111 = .ok (.getfield 107, 3) := by decide +kernel
theorem dX12_person_114 : decode cX12_person 114 = .ok (.if_icmp .ge 44, 3) := by decide +kernel
theorem dX12_person_117 : decode cX12_person 117 = .ok (.iload 7, 2) := by decide +kernel
theorem dX12_person_119 : decode cX12_person 119 = .ok (.aload_n 0, 1) := by decide +kernel
theorem dX12_person_120 : decode cX12_person 120 = .ok (.bipush 10, 2) := by decide +kernel
theorem dX12_person_122 : decode cX12_person 122 = .ok (.invokevirtual 350, 3) := by decide +kernel
theorem dX12_person_125 : decode cX12_person 125 = .ok (.aload_n 0, 1) := by decide +kernel
theorem dX12_person_126 : decode cX12_person 126 = .ok (.getfield 60, 3) := by decide +kernel
theorem dX12_person_129 : decode cX12_person 129 = .ok (.bipush 9, 2) := by decide +kernel
theorem dX12_person_131 : decode cX12_person 131 = .ok (.iload 6, 2) := by decide +kernel
theorem dX12_person_133 : decode cX12_person 133 = .ok (.imul, 1) := by decide +kernel
theorem dX12_person_134 : decode cX12_person 134 = .ok (.iload 8, 2) := by decide +kernel
theorem dX12_person_136 : decode cX12_person 136 = .ok (.iadd, 1) := by decide +kernel
theorem dX12_person_137 : decode cX12_person 137 = .ok (.iaload, 1) := by decide +kernel
theorem dX12_person_138 : decode cX12_person 138 = .ok (.if_icmp .ge 10, 3) := by decide +kernel
theorem dX12_person_141 : decode cX12_person 141 = .ok (.iconst 1, 1) := by decide +kernel
theorem dX12_person_142 : decode cX12_person 142 = .ok (.iload 8, 2) := by decide +kernel
theorem dX12_person_144 : decode cX12_person 144 = .ok (.ishl, 1) := by decide +kernel
theorem dX12_person_145 : decode cX12_person 145 = .ok (.goto 4, 3) := by decide +kernel
theorem dX12_person_148 : decode cX12_person 148 = .ok (.iconst 0, 1) := by decide +kernel
theorem dX12_person_149 : decode cX12_person 149 = .ok (.ior, 1) := by decide +kernel
theorem dX12_person_150 : decode cX12_person 150 = .ok (.istore 7, 2) := by decide +kernel
theorem dX12_person_152 : decode cX12_person 152 = .ok (.iinc 8 1, 3) := by decide +kernel
theorem dX12_person_155 : decode cX12_person 155 = .ok (.goto (-47), 3) := by decide +kernel
theorem dX12_person_158 : decode cX12_person 158 = .ok (.iload_n 3, 1) := by decide +kernel
theorem dX12_person_159 : decode cX12_person 159 = .ok (.ifCond .ne 8, 3) := by decide +kernel
theorem dX12_person_162 : decode cX12_person 162 = .ok (.iload 7, 2) := by decide +kernel
theorem dX12_person_164 : decode cX12_person 164 = .ok (.goto 5, 3) := by decide +kernel
theorem dX12_person_167 : decode cX12_person 167 = .ok (.iload 6, 2) := by decide +kernel
theorem dX12_person_169 : decode cX12_person 169 = .ok (.ireturn, 1) := by decide +kernel
theorem dX12_isClauseAlike_0 : decode cX12_isClauseAlike 0 = .ok (.iload_n 3, 1) := by decide +kernel
theorem dX12_isClauseAlike_1 : decode cX12_isClauseAlike 1 = .ok (.aload_n 0, 1) := by decide +kernel
theorem dX12_isClauseAlike_2 : decode cX12_isClauseAlike 2 = .ok (.getfield 35, 3) := by decide +kernel
theorem dX12_isClauseAlike_5 : decode cX12_isClauseAlike 5 = .ok (.iload_n 1, 1) := by decide +kernel
theorem dX12_isClauseAlike_6 : decode cX12_isClauseAlike 6 = .ok (.iaload, 1) := by decide +kernel
theorem dX12_isClauseAlike_7 : decode cX12_isClauseAlike 7 = .ok (.if_icmp .ge 28, 3) := by decide +kernel
theorem dX12_isClauseAlike_10 : decode cX12_isClauseAlike 10 = .ok (.aload_n 0, 1) := by decide +kernel
theorem dX12_isClauseAlike_11 : decode cX12_isClauseAlike 11 = .ok (.getfield 38, 3) := by decide +kernel
theorem dX12_isClauseAlike_14 : decode cX12_isClauseAlike 14 = .ok (.bipush 12, 2) := by decide +kernel
theorem dX12_isClauseAlike_16 : decode cX12_isClauseAlike 16 = .ok (.iload_n 1, 1) := by decide +kernel
theorem dX12_isClauseAlike_17 : decode cX12_isClauseAlike 17 = .ok (.imul, 1) := by decide +kernel
theorem dX12_isClauseAlike_18 : decode cX12_isClauseAlike 18 = .ok (.iload_n 3, 1) := by decide +kernel
theorem dX12_isClauseAlike_19 : decode cX12_isClauseAlike 19 = .ok (.iadd, 1) := by decide +kernel
theorem dX12_isClauseAlike_20 : decode cX12_isClauseAlike 20 = .ok (.iaload, 1) := by decide +kernel
theorem dX12_isClauseAlike_21 : decode cX12_isClauseAlike 21 = .ok (.aload_n 0, 1) := by decide +kernel
theorem dX12_isClauseAlike_22 : decode cX12_isClauseAlike 22 = .ok (.getfield 38, 3) := by decide +kernel
theorem dX12_isClauseAlike_25 : decode cX12_isClauseAlike 25 = .ok (.bipush 12, 2) := by decide +kernel
theorem dX12_isClauseAlike_27 : decode cX12_isClauseAlike 27 = .ok (.iload_n 2, 1) := by decide +kernel
theorem dX12_isClauseAlike_28 : decode cX12_isClauseAlike 28 = .ok (.imul, 1) := by decide +kernel
theorem dX12_isClauseAlike_29 : decode cX12_isClauseAlike 29 = .ok (.iload_n 3, 1) := by decide +kernel
theorem dX12_isClauseAlike_30 : decode cX12_isClauseAlike 30 = .ok (.iadd, 1) := by decide +kernel
theorem dX12_isClauseAlike_31 : decode cX12_isClauseAlike 31 = .ok (.iaload, 1) := by decide +kernel
theorem dX12_isClauseAlike_32 : decode cX12_isClauseAlike 32 = .ok (.if_icmp .eq 5, 3) := by decide +kernel
theorem dX12_isClauseAlike_35 : decode cX12_isClauseAlike 35 = .ok (.iconst 0, 1) := by decide +kernel
theorem dX12_isClauseAlike_36 : decode cX12_isClauseAlike 36 = .ok (.ireturn, 1) := by decide +kernel
theorem dX12_isClauseAlike_37 : decode cX12_isClauseAlike 37 = .ok (.iconst 0, 1) := by decide +kernel
theorem dX12_isClauseAlike_38 : decode cX12_isClauseAlike 38 = .ok (.istore 4, 2) := by decide +kernel
theorem dX12_isClauseAlike_40 : decode cX12_isClauseAlike 40 = .ok (.iload 4, 2) := by decide +kernel
theorem dX12_isClauseAlike_42 : decode cX12_isClauseAlike 42 = .ok (.aload_n 0, 1) := by decide +kernel
theorem dX12_isClauseAlike_43 : decode cX12_isClauseAlike 43 = .ok (.getfield 111, 3) := by decide +kernel
theorem dX12_isClauseAlike_46 : decode cX12_isClauseAlike 46 = .ok (.if_icmp .ge 48, 3) := by decide +kernel
theorem dX12_isClauseAlike_49 : decode cX12_isClauseAlike 49 = .ok (.aload_n 0, 1) := by decide +kernel
theorem dX12_isClauseAlike_50 : decode cX12_isClauseAlike 50 = .ok (.getfield 32, 3) := by decide +kernel
theorem dX12_isClauseAlike_53 : decode cX12_isClauseAlike 53 = .ok (.sipush 512, 3) := by decide +kernel
theorem dX12_isClauseAlike_56 : decode cX12_isClauseAlike 56 = .ok (.iload_n 1, 1) := by decide +kernel
theorem dX12_isClauseAlike_57 : decode cX12_isClauseAlike 57 = .ok (.imul, 1) := by decide +kernel
theorem dX12_isClauseAlike_58 : decode cX12_isClauseAlike 58 = .ok (.iload 4, 2) := by decide +kernel
theorem dX12_isClauseAlike_60 : decode cX12_isClauseAlike 60 = .ok (.iadd, 1) := by decide +kernel
theorem dX12_isClauseAlike_61 : decode cX12_isClauseAlike 61 = .ok (.iaload, 1) := by decide +kernel
theorem dX12_isClauseAlike_62 : decode cX12_isClauseAlike 62 = .ok (.iload_n 3, 1) := by decide +kernel
theorem dX12_isClauseAlike_63 : decode cX12_isClauseAlike 63 = .ok (.invokestatic 157, 3) := by decide +kernel
theorem dX12_isClauseAlike_66 : decode cX12_isClauseAlike 66 = .ok (.aload_n 0, 1) := by decide +kernel
theorem dX12_isClauseAlike_67 : decode cX12_isClauseAlike 67 = .ok (.getfield 32, 3) := by decide +kernel
theorem dX12_isClauseAlike_70 : decode cX12_isClauseAlike 70 = .ok (.sipush 512, 3) := by decide +kernel
theorem dX12_isClauseAlike_73 : decode cX12_isClauseAlike 73 = .ok (.iload_n 2, 1) := by decide +kernel
theorem dX12_isClauseAlike_74 : decode cX12_isClauseAlike 74 = .ok (.imul, 1) := by decide +kernel
theorem dX12_isClauseAlike_75 : decode cX12_isClauseAlike 75 = .ok (.iload 4, 2) := by decide +kernel
theorem dX12_isClauseAlike_77 : decode cX12_isClauseAlike 77 = .ok (.iadd, 1) := by decide +kernel
theorem dX12_isClauseAlike_78 : decode cX12_isClauseAlike 78 = .ok (.iaload, 1) := by decide +kernel
theorem dX12_isClauseAlike_79 : decode cX12_isClauseAlike 79 = .ok (.iload_n 3, 1) := by decide +kernel
theorem dX12_isClauseAlike_80 : decode cX12_isClauseAlike 80 = .ok (.invokestatic 157, 3) := by decide +kernel
theorem dX12_isClauseAlike_83 : decode cX12_isClauseAlike 83 = .ok (.if_icmp .eq 5, 3) := by decide +kernel
theorem dX12_isClauseAlike_86 : decode cX12_isClauseAlike 86 = .ok (.iconst 0, 1) := by decide +kernel
theorem dX12_isClauseAlike_87 : decode cX12_isClauseAlike 87 = .ok (.ireturn, 1) := by decide +kernel
theorem dX12_isClauseAlike_88 : decode cX12_isClauseAlike 88 = .ok (.iinc 4 1, 3) := by decide +kernel
theorem dX12_isClauseAlike_91 : decode cX12_isClauseAlike 91 = .ok (.goto (-51), 3) := by decide +kernel
theorem dX12_isClauseAlike_94 : decode cX12_isClauseAlike 94 = .ok (.iconst 1, 1) := by decide +kernel
theorem dX12_isClauseAlike_95 : decode cX12_isClauseAlike 95 = .ok (.ireturn, 1) := by decide +kernel
theorem dX12_mend_0 : decode cX12_mend 0 = .ok (.aload_n 0, 1) := by decide +kernel
theorem dX12_mend_1 : decode cX12_mend 1 = .ok (.iconst 0, 1) := by decide +kernel
theorem dX12_mend_2 : decode cX12_mend 2 = .ok (.putfield 114, 3) := by decide +kernel
theorem dX12_mend_5 : decode cX12_mend 5 = .ok (.aload_n 0, 1) := by decide +kernel
theorem dX12_mend_6 : decode cX12_mend 6 = .ok (.iload_n 1, 1) := by decide +kernel
theorem dX12_mend_7 : decode cX12_mend 7 = .ok (.invokevirtual 233, 3) := by decide +kernel
theorem dX12_mend_10 : decode cX12_mend 10 = .ok (.ifCond .eq 11, 3) := by decide +kernel
theorem dX12_mend_13 : decode cX12_mend 13 = .ok (.aload_n 0, 1) := by decide +kernel
theorem dX12_mend_14 : decode cX12_mend 14 = .ok (.iload_n 2, 1) := by decide +kernel
theorem dX12_mend_15 : decode cX12_mend 15 = .ok (.invokevirtual 233, 3) := by decide +kernel
theorem dX12_mend_18 : decode cX12_mend 18 = .ok (.ifCond .ne 5, 3) := by decide +kernel
theorem dX12_mend_21 : decode cX12_mend 21 = .ok (.iconst (-1), 1) := by decide +kernel
theorem dX12_mend_22 : decode cX12_mend 22 = .ok (.ireturn, 1) := by decide +kernel
theorem dX12_mend_23 : decode cX12_mend 23 = .ok (.iconst 0, 1) := by decide +kernel
theorem dX12_mend_24 : decode cX12_mend 24 = .ok (.istore_n 3, 1) := by decide +kernel
theorem dX12_mend_25 : decode cX12_mend 25 = .ok (.iconst 0, 1) := by decide +kernel
theorem dX12_mend_26 : decode cX12_mend 26 = .ok (.istore 4, 2) := by decide +kernel
theorem dX12_mend_28 : decode cX12_mend 28 = .ok (.iload 4, 2) := by decide +kernel
theorem dX12_mend_30 : decode cX12_mend 30 = .ok (.aload_n 0, 1) := by decide +kernel
theorem dX12_mend_31 : decode cX12_mend 31 = .ok (.getfield 35, 3) := by decide +kernel
theorem dX12_mend_34 : decode cX12_mend 34 = .ok (.iload_n 2, 1) := by decide +kernel
theorem dX12_mend_35 : decode cX12_mend 35 = .ok (.iaload, 1) := by decide +kernel
theorem dX12_mend_36 : decode cX12_mend 36 = .ok (.if_icmp .ge 31, 3) := by decide +kernel
theorem dX12_mend_39 : decode cX12_mend 39 = .ok (.iload_n 3, 1) := by decide +kernel
theorem dX12_mend_40 : decode cX12_mend 40 = .ok (.aload_n 0, 1) := by decide +kernel
theorem dX12_mend_41 : decode cX12_mend 41 = .ok (.iload_n 1, 1) := by decide +kernel
theorem dX12_mend_42 : decode cX12_mend 42 = .ok (.iload_n 2, 1) := by decide +kernel
theorem dX12_mend_43 : decode cX12_mend 43 = .ok (.iload 4, 2) := by decide +kernel
theorem dX12_mend_45 : decode cX12_mend 45 = .ok (.invokevirtual 353, 3) := by decide +kernel
theorem dX12_mend_48 : decode cX12_mend 48 = .ok (.ifCond .eq 7, 3) := by decide +kernel
theorem dX12_mend_51 : decode cX12_mend 51 = .ok (.iconst 0, 1) := by decide +kernel
theorem dX12_mend_52 : decode cX12_mend 52 = .ok (.goto 7, 3) := by decide +kernel
theorem dX12_mend_55 : decode cX12_mend 55 = .ok (.iconst 1, 1) := by decide +kernel
theorem dX12_mend_56 : decode cX12_mend 56 = .ok (.iload 4, 2) := by decide +kernel
theorem dX12_mend_58 : decode cX12_mend 58 = .ok (.ishl, 1) := by decide +kernel
theorem dX12_mend_59 : decode cX12_mend 59 = .ok (.ior, 1) := by decide +kernel
theorem dX12_mend_60 : decode cX12_mend 60 = .ok (.istore_n 3, 1) := by decide +kernel
theorem dX12_mend_61 : decode cX12_mend 61 = .ok (.iinc 4 1, 3) := by decide +kernel
theorem dX12_mend_64 : decode cX12_mend 64 = .ok (.goto (-36), 3) := by decide +kernel
theorem dX12_mend_67 : decode cX12_mend 67 = .ok (.iload_n 3, 1) := by decide +kernel
theorem dX12_mend_68 : decode cX12_mend 68 = .ok (.ireturn, 1) := by decide +kernel
theorem dX12_swap_0 : decode cX12_swap 0 = .ok (.aload_n 0, 1) := by decide +kernel
theorem dX12_swap_1 : decode cX12_swap 1 = .ok (.iconst 0, 1) := by decide +kernel
theorem dX12_swap_2 : decode cX12_swap 2 = .ok (.putfield 114, 3) := by decide +kernel
theorem dX12_swap_5 : decode cX12_swap 5 = .ok (.aload_n 0, 1) := by decide +kernel
theorem dX12_swap_6 : decode cX12_swap 6 = .ok (.iload_n 1, 1) := by decide +kernel
theorem dX12_swap_7 : decode cX12_swap 7 = .ok (.invokevirtual 233, 3) := by decide +kernel
theorem dX12_swap_10 : decode cX12_swap 10 = .ok (.ifCond .eq 19, 3) := by decide +kernel
theorem dX12_swap_13 : decode cX12_swap 13 = .ok (.iload_n 2, 1) := by decide +kernel
theorem dX12_swap_14 : decode cX12_swap 14 = .ok (.iconst 0, 1) := by decide +kernel
theorem dX12_swap_15 : decode cX12_swap 15 = .ok (.aload_n 0, 1) := by decide +kernel
theorem dX12_swap_16 : decode cX12_swap 16 = .ok (.getfield 35, 3) := by decide +kernel
theorem dX12_swap_19 : decode cX12_swap 19 = .ok (.iload_n 1, 1) := by decide +kernel
theorem dX12_swap_20 : decode cX12_swap 20 = .ok (.iaload, 1) := by decide +kernel
theorem dX12_swap_21 : decode cX12_swap 21 = .ok (.iconst 2, 1) := by decide +kernel
theorem dX12_swap_22 : decode cX12_swap 22 = .ok (.isub, 1) := by decide +kernel
theorem dX12_swap_23 : decode cX12_swap 23 = .ok (.invokestatic 209, 3) := by decide +kernel
theorem dX12_swap_26 : decode cX12_swap 26 = .ok (.ifCond .ne 5, 3) := by decide +kernel
theorem dX12_swap_29 : decode cX12_swap 29 = .ok (.iconst (-1), 1) := by decide +kernel
theorem dX12_swap_30 : decode cX12_swap 30 = .ok (.ireturn, 1) := by decide +kernel
theorem dX12_swap_31 : decode cX12_swap 31 = .ok (.aload_n 0, 1) := by decide +kernel
theorem dX12_swap_32 : decode cX12_swap 32 = .ok (.getfield 38, 3) := by decide +kernel
theorem dX12_swap_35 : decode cX12_swap 35 = .ok (.bipush 12, 2) := by decide +kernel
theorem dX12_swap_37 : decode cX12_swap 37 = .ok (.iload_n 1, 1) := by decide +kernel
theorem dX12_swap_38 : decode cX12_swap 38 = .ok (.imul, 1) := by decide +kernel
theorem dX12_swap_39 : decode cX12_swap 39 = .ok (.iload_n 2, 1) := by decide +kernel
theorem dX12_swap_40 : decode cX12_swap 40 = .ok (.iadd, 1) := by decide +kernel
theorem dX12_swap_41 : decode cX12_swap 41 = .ok (.iaload, 1) := by decide +kernel
theorem dX12_swap_42 : decode cX12_swap 42 = .ok (.aload_n 0, 1) := by decide +kernel
theorem dX12_swap_43 : decode cX12_swap 43 = .ok (.getfield 38, 3) := by decide +kernel
theorem dX12_swap_46 : decode cX12_swap 46 = .ok (.bipush 12, 2) := by decide +kernel
theorem dX12_swap_48 : decode cX12_swap 48 = .ok (.iload_n 1, 1) := by decide +kernel
theorem dX12_swap_49 : decode cX12_swap 49 = .ok (.imul, 1) := by decide +kernel
theorem dX12_swap_50 : decode cX12_swap 50 = .ok (.iload_n 2, 1) := by decide +kernel
theorem dX12_swap_51 : decode cX12_swap 51 = .ok (.iadd, 1) := by decide +kernel
theorem dX12_swap_52 : decode cX12_swap 52 = .ok (.iconst 1, 1) := by decide +kernel
theorem dX12_swap_53 : decode cX12_swap 53 = .ok (.iadd, 1) := by decide +kernel
theorem dX12_swap_54 : decode cX12_swap 54 = .ok (.iaload, 1) := by decide +kernel
theorem dX12_swap_55 : decode cX12_swap 55 = .ok (.if_icmp .ne 5, 3) := by decide +kernel
theorem dX12_swap_58 : decode cX12_swap 58 = .ok (.iconst 1, 1) := by decide +kernel
theorem dX12_swap_59 : decode cX12_swap 59 = .ok (.ireturn, 1) := by decide +kernel
theorem dX12_swap_60 : decode cX12_swap 60 = .ok (.iconst 0, 1) := by decide +kernel
theorem dX12_swap_61 : decode cX12_swap 61 = .ok (.istore_n 3, 1) := by decide +kernel
theorem dX12_swap_62 : decode cX12_swap 62 = .ok (.iload_n 3, 1) := by decide +kernel
theorem dX12_swap_63 : decode cX12_swap 63 = .ok (.aload_n 0, 1) := by decide +kernel
theorem dX12_swap_64 : decode cX12_swap 64 = .ok (.getfield 111, 3) := by decide +kernel
theorem dX12_swap_67 : decode cX12_swap 67 = .ok (.if_icmp .ge 35, 3) := by decide +kernel
theorem dX12_swap_70 : decode cX12_swap 70 = .ok (.aload_n 0, 1) := by decide +kernel
theorem dX12_swap_71 : decode cX12_swap 71 = .ok (.getfield 32, 3) := by decide +kernel
theorem dX12_swap_74 : decode cX12_swap 74 = .ok (.sipush 512, 3) := by decide +kernel
theorem dX12_swap_77 : decode cX12_swap 77 = .ok (.iload_n 1, 1) := by decide +kernel
theorem dX12_swap_78 : decode cX12_swap 78 = .ok (.imul, 1) := by decide +kernel
theorem dX12_swap_79 : decode cX12_swap 79 = .ok (.iload_n 3, 1) := by decide +kernel
theorem dX12_swap_80 : decode cX12_swap 80 = .ok (.iadd, 1) := by decide +kernel
theorem dX12_swap_81 : decode cX12_swap 81 = .ok (.iaload, 1) := by decide +kernel
theorem dX12_swap_82 : decode cX12_swap 82 = .ok (.iconst 4, 1) := by decide +kernel
theorem dX12_swap_83 : decode cX12_swap 83 = .ok (.iload_n 2, 1) := by decide +kernel
theorem dX12_swap_84 : decode cX12_swap 84 = .ok (.ishl, 1) := by decide +kernel
theorem dX12_swap_85 : decode cX12_swap 85 = .ok (.iconst 1, 1) := by decide +kernel
theorem dX12_swap_86 : decode cX12_swap 86 = .ok (.isub, 1) := by decide +kernel
theorem dX12_swap_87 : decode cX12_swap 87 = .ok (.iand, 1) := by decide +kernel
theorem dX12_swap_88 : decode cX12_swap 88 = .ok (.iconst 3, 1) := by decide +kernel
theorem dX12_swap_89 : decode cX12_swap 89 = .ok (.iload_n 2, 1) := by decide +kernel
theorem dX12_swap_90 : decode cX12_swap 90 = .ok (.ishl, 1) := by decide +kernel
theorem dX12_swap_91 : decode cX12_swap 91 = .ok (.if_icmp .ne 5, 3) := by decide +kernel
theorem dX12_swap_94 : decode cX12_swap 94 = .ok (.iconst 0, 1) := by decide +kernel
theorem dX12_swap_95 : decode cX12_swap 95 = .ok (.ireturn, 1) := by decide +kernel
theorem dX12_swap_96 : decode cX12_swap 96 = .ok (.iinc 3 1, 3) := by decide +kernel
theorem dX12_swap_99 : decode cX12_swap 99 = .ok (.goto (-37), 3) := by decide +kernel
theorem dX12_swap_102 : decode cX12_swap 102 = .ok (.iconst 1, 1) := by decide +kernel
theorem dX12_swap_103 : decode cX12_swap 103 = .ok (.ireturn, 1) := by decide +kernel
theorem dX12_isOrder_0 : decode cX12_isOrder 0 = .ok (.iload_n 1, 1) := by decide +kernel
theorem dX12_isOrder_1 : decode cX12_isOrder 1 = .ok (.ifCond .ge 5, 3) := by decide +kernel
theorem dX12_isOrder_4 : decode cX12_isOrder 4 = .ok (.iconst 0, 1) := by decide +kernel
theorem dX12_isOrder_5 : decode cX12_isOrder 5 = .ok (.ireturn, 1) := by decide +kernel
theorem dX12_isOrder_6 : decode cX12_isOrder 6 = .ok (.iload_n 1, 1) := by decide +kernel
theorem dX12_isOrder_7 : decode cX12_isOrder 7 = .ok (.istore_n 2, 1) := by decide +kernel
theorem dX12_isOrder_8 : decode cX12_isOrder 8 = .ok (.iconst 0, 1) := by decide +kernel
theorem dX12_isOrder_9 : decode cX12_isOrder 9 = .ok (.istore_n 3, 1) := by decide +kernel
theorem dX12_isOrder_10 : decode cX12_isOrder 10 = .ok (.aload_n 0, 1) := by decide +kernel
theorem dX12_isOrder_11 : decode cX12_isOrder 11 = .ok (.getfield 107, 3) := by decide +kernel
theorem dX12_isOrder_14 : decode cX12_isOrder 14 = .ok (.iconst 1, 1) := by decide +kernel
theorem dX12_isOrder_15 : decode cX12_isOrder 15 = .ok (.isub, 1) := by decide +kernel
theorem dX12_isOrder_16 : decode cX12_isOrder 16 = .ok (.istore 4, 2) := by decide +kernel
theorem dX12_isOrder_18 : decode cX12_isOrder 18 = .ok (.iload 4, 2) := by decide +kernel
theorem dX12_isOrder_20 : decode cX12_isOrder 20 = .ok (.ifCond .lt 41, 3) := by decide +kernel
theorem dX12_isOrder_23 : decode cX12_isOrder 23 = .ok (.aload_n 0, 1) := by decide +kernel
theorem dX12_isOrder_24 : decode cX12_isOrder 24 = .ok (.getfield 80, 3) := by decide +kernel
theorem dX12_isOrder_27 : decode cX12_isOrder 27 = .ok (.iload 4, 2) := by decide +kernel
theorem dX12_isOrder_29 : decode cX12_isOrder 29 = .ok (.iload_n 2, 1) := by decide +kernel
theorem dX12_isOrder_30 : decode cX12_isOrder 30 = .ok (.aload_n 0, 1) := by decide +kernel
theorem dX12_isOrder_31 : decode cX12_isOrder 31 = .ok (.getfield 107, 3) := by decide +kernel
theorem dX12_isOrder_34 : decode cX12_isOrder 34 = .ok (.irem, 1) := by decide +kernel
theorem dX12_isOrder_35 : decode cX12_isOrder 35 = .ok (.iastore, 1) := by decide +kernel
theorem dX12_isOrder_36 : decode cX12_isOrder 36 = .ok (.iload_n 2, 1) := by decide +kernel
theorem dX12_isOrder_37 : decode cX12_isOrder 37 = .ok (.aload_n 0, 1) := by decide +kernel
theorem dX12_isOrder_38 : decode cX12_isOrder 38 = .ok (.getfield 107, 3) := by decide +kernel
theorem dX12_isOrder_41 : decode cX12_isOrder 41 = .ok (.idiv, 1) := by decide +kernel
theorem dX12_isOrder_42 : decode cX12_isOrder 42 = .ok (.istore_n 2, 1) := by decide +kernel
theorem dX12_isOrder_43 : decode cX12_isOrder 43 = .ok (.iload_n 3, 1) := by decide +kernel
theorem dX12_isOrder_44 : decode cX12_isOrder 44 = .ok (.iconst 1, 1) := by decide +kernel
theorem dX12_isOrder_45 : decode cX12_isOrder 45 = .ok (.aload_n 0, 1) := by decide +kernel
theorem dX12_isOrder_46 : decode cX12_isOrder 46 = .ok (.getfield 80, 3) := by decide +kernel
theorem dX12_isOrder_49 : decode cX12_isOrder 49 = .ok (.iload 4, 2) := by decide +kernel
theorem dX12_isOrder_51 : decode cX12_isOrder 51 = .ok (.iaload, 1) := by decide +kernel
theorem dX12_isOrder_52 : decode cX12_isOrder 52 = .ok (.ishl, 1) := by decide +kernel
theorem dX12_isOrder_53 : decode cX12_isOrder 53 = .ok (.ior, 1) := by decide +kernel
theorem dX12_isOrder_54 : decode cX12_isOrder 54 = .ok (.istore_n 3, 1) := by decide +kernel
theorem dX12_isOrder_55 : decode cX12_isOrder 55 = .ok (.iinc 4 (-1), 3) := by decide +kernel
theorem dX12_isOrder_58 : decode cX12_isOrder 58 = .ok (.goto (-40), 3) := by decide +kernel
theorem dX12_isOrder_61 : decode cX12_isOrder 61 = .ok (.iload_n 2, 1) := by decide +kernel
theorem dX12_isOrder_62 : decode cX12_isOrder 62 = .ok (.ifCond .ne 17, 3) := by decide +kernel
theorem dX12_isOrder_65 : decode cX12_isOrder 65 = .ok (.iload_n 3, 1) := by decide +kernel
theorem dX12_isOrder_66 : decode cX12_isOrder 66 = .ok (.aload_n 0, 1) := by decide +kernel
theorem dX12_isOrder_67 : decode cX12_isOrder 67 = .ok (.getfield 111, 3) := by decide +kernel
theorem dX12_isOrder_70 : decode cX12_isOrder 70 = .ok (.iconst 1, 1) := by decide +kernel
theorem dX12_isOrder_71 : decode cX12_isOrder 71 = .ok (.isub, 1) := by decide +kernel
theorem dX12_isOrder_72 : decode cX12_isOrder 72 = .ok (.if_icmp .ne 7, 3) := by decide +kernel
theorem dX12_isOrder_75 : decode cX12_isOrder 75 = .ok (.iconst 1, 1) := by decide +kernel
theorem dX12_isOrder_76 : decode cX12_isOrder 76 = .ok (.goto 4, 3) := by decide +kernel
theorem dX12_isOrder_79 : decode cX12_isOrder 79 = .ok (.iconst 0, 1) := by decide +kernel
theorem dX12_isOrder_80 : decode cX12_isOrder 80 = .ok (.ireturn, 1) := by decide +kernel
theorem dX12_goesAlike_0 : decode cX12_goesAlike 0 = .ok (.iconst 0, 1) := by decide +kernel
theorem dX12_goesAlike_1 : decode cX12_goesAlike 1 = .ok (.istore 5, 2) := by decide +kernel
theorem dX12_goesAlike_3 : decode cX12_goesAlike 3 = .ok (.iload 5, 2) := by decide +kernel
theorem dX12_goesAlike_5 : decode cX12_goesAlike 5 = .ok (.aload_n 0, 1) := by decide +kernel
theorem dX12_goesAlike_6 : decode cX12_goesAlike 6 = .ok (.getfield 111, 3) := by decide +kernel
theorem dX12_goesAlike_9 : decode cX12_goesAlike 9 = .ok (.if_icmp .ge 40, 3) := by decide +kernel
theorem dX12_goesAlike_12 : decode cX12_goesAlike 12 = .ok (.iload 5, 2) := by decide +kernel
theorem dX12_goesAlike_14 : decode cX12_goesAlike 14 = .ok (.iload_n 2, 1) := by decide +kernel
theorem dX12_goesAlike_15 : decode cX12_goesAlike 15 = .ok (.iand, 1) := by decide +kernel
theorem dX12_goesAlike_16 : decode cX12_goesAlike 16 = .ok (.ifCond .ne 27, 3) := by decide +kernel
theorem dX12_goesAlike_19 : decode cX12_goesAlike 19 = .ok (.aload_n 0, 1) := by decide +kernel
theorem dX12_goesAlike_20 : decode cX12_goesAlike 20 = .ok (.iload_n 1, 1) := by decide +kernel
theorem dX12_goesAlike_21 : decode cX12_goesAlike 21 = .ok (.iload 5, 2) := by decide +kernel
theorem dX12_goesAlike_23 : decode cX12_goesAlike 23 = .ok (.iload_n 3, 1) := by decide +kernel
theorem dX12_goesAlike_24 : decode cX12_goesAlike 24 = .ok (.ior, 1) := by decide +kernel
theorem dX12_goesAlike_25 : decode cX12_goesAlike 25 = .ok (.invokevirtual 239, 3) := by decide +kernel
theorem dX12_goesAlike_28 : decode cX12_goesAlike 28 = .ok (.aload_n 0, 1) := by decide +kernel
theorem dX12_goesAlike_29 : decode cX12_goesAlike 29 = .ok (.iload_n 1, 1) := by decide +kernel
theorem dX12_goesAlike_30 : decode cX12_goesAlike 30 = .ok (.iload 5, 2) := by decide +kernel
theorem dX12_goesAlike_32 : decode cX12_goesAlike 32 = .ok (.iload 4, 2) := by decide +kernel
theorem dX12_goesAlike_34 : decode cX12_goesAlike 34 = .ok (.ior, 1) := by decide +kernel
theorem dX12_goesAlike_35 : decode cX12_goesAlike 35 = .ok (.invokevirtual 239, 3) := by decide +kernel
theorem dX12_goesAlike_38 : decode cX12_goesAlike 38 = .ok (.if_icmp .eq 5, 3) := by decide +kernel
theorem dX12_goesAlike_41 : decode cX12_goesAlike 41 = .ok (.iconst 0, 1) := by decide +kernel
theorem dX12_goesAlike_42 : decode cX12_goesAlike 42 = .ok (.ireturn, 1) := by decide +kernel
theorem dX12_goesAlike_43 : decode cX12_goesAlike 43 = .ok (.iinc 5 1, 3) := by decide +kernel
theorem dX12_goesAlike_46 : decode cX12_goesAlike 46 = .ok (.goto (-43), 3) := by decide +kernel
theorem dX12_goesAlike_49 : decode cX12_goesAlike 49 = .ok (.iconst 1, 1) := by decide +kernel
theorem dX12_goesAlike_50 : decode cX12_goesAlike 50 = .ok (.ireturn, 1) := by decide +kernel
theorem dX12_hangsOn_0 : decode cX12_hangsOn 0 = .ok (.iconst 0, 1) := by decide +kernel
theorem dX12_hangsOn_1 : decode cX12_hangsOn 1 = .ok (.istore 5, 2) := by decide +kernel
theorem dX12_hangsOn_3 : decode cX12_hangsOn 3 = .ok (.iload 5, 2) := by decide +kernel
theorem dX12_hangsOn_5 : decode cX12_hangsOn 5 = .ok (.aload_n 0, 1) := by decide +kernel
theorem dX12_hangsOn_6 : decode cX12_hangsOn 6 = .ok (.getfield 111, 3) := by decide +kernel
theorem dX12_hangsOn_9 : decode cX12_hangsOn 9 = .ok (.if_icmp .ge 44, 3) := by decide +kernel
theorem dX12_hangsOn_12 : decode cX12_hangsOn 12 = .ok (.iload 5, 2) := by decide +kernel
theorem dX12_hangsOn_14 : decode cX12_hangsOn 14 = .ok (.iload_n 2, 1) := by decide +kernel
theorem dX12_hangsOn_15 : decode cX12_hangsOn 15 = .ok (.iand, 1) := by decide +kernel
theorem dX12_hangsOn_16 : decode cX12_hangsOn 16 = .ok (.ifCond .ne 31, 3) := by decide +kernel
theorem dX12_hangsOn_19 : decode cX12_hangsOn 19 = .ok (.aload_n 0, 1) := by decide +kernel
theorem dX12_hangsOn_20 : decode cX12_hangsOn 20 = .ok (.iload_n 1, 1) := by decide +kernel
theorem dX12_hangsOn_21 : decode cX12_hangsOn 21 = .ok (.iload 5, 2) := by decide +kernel
theorem dX12_hangsOn_23 : decode cX12_hangsOn 23 = .ok (.iload_n 3, 1) := by decide +kernel
theorem dX12_hangsOn_24 : decode cX12_hangsOn 24 = .ok (.ior, 1) := by decide +kernel
theorem dX12_hangsOn_25 : decode cX12_hangsOn 25 = .ok (.invokevirtual 239, 3) := by decide +kernel
theorem dX12_hangsOn_28 : decode cX12_hangsOn 28 = .ok (.aload_n 0, 1) := by decide +kernel
theorem dX12_hangsOn_29 : decode cX12_hangsOn 29 = .ok (.iload_n 1, 1) := by decide +kernel
theorem dX12_hangsOn_30 : decode cX12_hangsOn 30 = .ok (.iload 5, 2) := by decide +kernel
theorem dX12_hangsOn_32 : decode cX12_hangsOn 32 = .ok (.iload_n 3, 1) := by decide +kernel
theorem dX12_hangsOn_33 : decode cX12_hangsOn 33 = .ok (.iconst 1, 1) := by decide +kernel
theorem dX12_hangsOn_34 : decode cX12_hangsOn 34 = .ok (.iload 4, 2) := by decide +kernel
theorem dX12_hangsOn_36 : decode cX12_hangsOn 36 = .ok (.ishl, 1) := by decide +kernel
theorem dX12_hangsOn_37 : decode cX12_hangsOn 37 = .ok (.ixor, 1) := by decide +kernel
theorem dX12_hangsOn_38 : decode cX12_hangsOn 38 = .ok (.ior, 1) := by decide +kernel
theorem dX12_hangsOn_39 : decode cX12_hangsOn 39 = .ok (.invokevirtual 239, 3) := by decide +kernel
theorem dX12_hangsOn_42 : decode cX12_hangsOn 42 = .ok (.if_icmp .eq 5, 3) := by decide +kernel
theorem dX12_hangsOn_45 : decode cX12_hangsOn 45 = .ok (.iconst 1, 1) := by decide +kernel
theorem dX12_hangsOn_46 : decode cX12_hangsOn 46 = .ok (.ireturn, 1) := by decide +kernel
theorem dX12_hangsOn_47 : decode cX12_hangsOn 47 = .ok (.iinc 5 1, 3) := by decide +kernel
theorem dX12_hangsOn_50 : decode cX12_hangsOn 50 = .ok (.goto (-47), 3) := by decide +kernel
theorem dX12_hangsOn_53 : decode cX12_hangsOn 53 = .ok (.iconst 0, 1) := by decide +kernel
theorem dX12_hangsOn_54 : decode cX12_hangsOn 54 = .ok (.ireturn, 1) := by decide +kernel
theorem dX12_layBoxes_0 : decode cX12_layBoxes 0 = .ok (.iconst 0, 1) := by decide +kernel
theorem dX12_layBoxes_1 : decode cX12_layBoxes 1 = .ok (.istore_n 3, 1) := by decide +kernel
theorem dX12_layBoxes_2 : decode cX12_layBoxes 2 = .ok (.iload_n 3, 1) := by decide +kernel
theorem dX12_layBoxes_3 : decode cX12_layBoxes 3 = .ok (.aload_n 0, 1) := by decide +kernel
theorem dX12_layBoxes_4 : decode cX12_layBoxes 4 = .ok (.getfield 107, 3) := by decide +kernel
theorem dX12_layBoxes_7 : decode cX12_layBoxes 7 = .ok (.if_icmp .ge 21, 3) := by decide +kernel
theorem dX12_layBoxes_10 : decode cX12_layBoxes 10 = .ok (.aload_n 0, 1) := by decide +kernel
theorem dX12_layBoxes_11 : decode cX12_layBoxes 11 = .ok (.getfield 83, 3) := by decide +kernel
theorem dX12_layBoxes_14 : decode cX12_layBoxes 14 = .ok (.bipush 9, 2) := by decide +kernel
theorem dX12_layBoxes_16 : decode cX12_layBoxes 16 = .ok (.iload_n 2, 1) := by decide +kernel
theorem dX12_layBoxes_17 : decode cX12_layBoxes 17 = .ok (.imul, 1) := by decide +kernel
theorem dX12_layBoxes_18 : decode cX12_layBoxes 18 = .ok (.iload_n 3, 1) := by decide +kernel
theorem dX12_layBoxes_19 : decode cX12_layBoxes 19 = .ok (.iadd, 1) := by decide +kernel
theorem dX12_layBoxes_20 : decode cX12_layBoxes 20 = .ok (.iconst 0, 1) := by decide +kernel
theorem dX12_layBoxes_21 : decode cX12_layBoxes 21 = .ok (.iastore, 1) := by decide +kernel
theorem dX12_layBoxes_22 : decode cX12_layBoxes 22 = .ok (.iinc 3 1, 3) := by decide +kernel
theorem dX12_layBoxes_25 : decode cX12_layBoxes 25 = .ok (.goto (-23), 3) := by decide +kernel
theorem dX12_layBoxes_28 : decode cX12_layBoxes 28 = .ok (.iconst 0, 1) := by decide +kernel
theorem dX12_layBoxes_29 : decode cX12_layBoxes 29 = .ok (.istore_n 3, 1) := by decide +kernel
theorem dX12_layBoxes_30 : decode cX12_layBoxes 30 = .ok (.iload_n 3, 1) := by decide +kernel
theorem dX12_layBoxes_31 : decode cX12_layBoxes 31 = .ok (.aload_n 0, 1) := by decide +kernel
theorem dX12_layBoxes_32 : decode cX12_layBoxes 32 = .ok (.getfield 111, 3) := by decide +kernel
theorem dX12_layBoxes_35 : decode cX12_layBoxes 35 = .ok (.if_icmp .ge 157, 3) := by decide +kernel
theorem dX12_layBoxes_38 : decode cX12_layBoxes 38 = .ok (.iload_n 3, 1) := by decide +kernel
theorem dX12_layBoxes_39 : decode cX12_layBoxes 39 = .ok (.iload_n 2, 1) := by decide +kernel
theorem dX12_layBoxes_40 : decode cX12_layBoxes 40 = .ok (.iconst (-1), 1) := by decide +kernel
theorem dX12_layBoxes_41 : decode cX12_layBoxes 41 = .ok (.ixor, 1) := by decide +kernel
theorem dX12_layBoxes_42 : decode cX12_layBoxes 42 = .ok (.iand, 1) := by decide +kernel
theorem dX12_layBoxes_43 : decode cX12_layBoxes 43 = .ok (.ifCond .eq 6, 3) := by decide +kernel
theorem dX12_layBoxes_46 : decode cX12_layBoxes 46 = .ok (.goto 140, 3) := by decide +kernel
theorem dX12_layBoxes_49 : decode cX12_layBoxes 49 = .ok (.iconst 0, 1) := by decide +kernel
theorem dX12_layBoxes_50 : decode cX12_layBoxes 50 = .ok (.istore 4, 2) := by decide +kernel
theorem dX12_layBoxes_52 : decode cX12_layBoxes 52 = .ok (.iconst 0, 1) := by decide +kernel
theorem dX12_layBoxes_53 : decode cX12_layBoxes 53 = .ok (.istore 5, 2) := by decide +kernel
theorem dX12_layBoxes_55 : decode cX12_layBoxes 55 = .ok (.iload 5, 2) := by decide +kernel
theorem dX12_layBoxes_57 : decode cX12_layBoxes 57 = .ok (.iload_n 3, 1) := by decide +kernel
theorem dX12_layBoxes_58 : decode cX12_layBoxes 58 = .ok (.if_icmp .ge 52, 3) := by decide +kernel
theorem dX12_layBoxes_61 : decode cX12_layBoxes 61 = .ok (.iload 4, 2) := by decide +kernel
theorem dX12_layBoxes_63 : decode cX12_layBoxes 63 = .ok (.ifCond .ne 47, 3) := by decide +kernel
theorem dX12_layBoxes_66 : decode cX12_layBoxes 66 = .ok (.iload 5, 2) := by decide +kernel
theorem dX12_layBoxes_68 : decode cX12_layBoxes 68 = .ok (.iload_n 2, 1) := by decide +kernel
theorem dX12_layBoxes_69 : decode cX12_layBoxes 69 = .ok (.iconst (-1), 1) := by decide +kernel
theorem dX12_layBoxes_70 : decode cX12_layBoxes 70 = .ok (.ixor, 1) := by decide +kernel
theorem dX12_layBoxes_71 : decode cX12_layBoxes 71 = .ok (.iand, 1) := by decide +kernel
theorem dX12_layBoxes_72 : decode cX12_layBoxes 72 = .ok (.ifCond .ne 29, 3) := by decide +kernel
theorem dX12_layBoxes_75 : decode cX12_layBoxes 75 = .ok (.aload_n 0, 1) := by decide +kernel
theorem dX12_layBoxes_76 : decode cX12_layBoxes 76 = .ok (.getfield 89, 3) := by decide +kernel
theorem dX12_layBoxes_79 : decode cX12_layBoxes 79 = .ok (.iload 5, 2) := by decide +kernel
theorem dX12_layBoxes_81 : decode cX12_layBoxes 81 = .ok (.baload, 1) := by decide +kernel
theorem dX12_layBoxes_82 : decode cX12_layBoxes 82 = .ok (.ifCond .eq 19, 3) := by decide +kernel
theorem dX12_layBoxes_85 : decode cX12_layBoxes 85 = .ok (.aload_n 0, 1) := by decide +kernel
theorem dX12_layBoxes_86 : decode cX12_layBoxes 86 = .ok (.iload_n 1, 1) := by decide +kernel
theorem dX12_layBoxes_87 : decode cX12_layBoxes 87 = .ok (.iload_n 2, 1) := by decide +kernel
theorem dX12_layBoxes_88 : decode cX12_layBoxes 88 = .ok (.iload_n 3, 1) := by decide +kernel
theorem dX12_layBoxes_89 : decode cX12_layBoxes 89 = .ok (.iload 5, 2) := by decide +kernel
theorem dX12_layBoxes_91 : decode cX12_layBoxes 91 = .ok (.invokevirtual 356, 3) := by decide +kernel
theorem dX12_layBoxes_94 : decode cX12_layBoxes 94 = .ok (.ifCond .eq 7, 3) := by decide +kernel
theorem dX12_layBoxes_97 : decode cX12_layBoxes 97 = .ok (.iconst 1, 1) := by decide +kernel
theorem dX12_layBoxes_98 : decode cX12_layBoxes 98 = .ok (.goto 4, 3) := by decide +kernel
theorem dX12_layBoxes_101 : decode cX12_layBoxes 101 = .ok (.iconst 0, 1) := by decide +kernel
theorem dX12_layBoxes_102 : decode cX12_layBoxes 102 = .ok (.istore 4, 2) := by decide +kernel
theorem dX12_layBoxes_104 : decode cX12_layBoxes 104 = .ok (.iinc 5 1, 3) := by decide +kernel
theorem dX12_layBoxes_107 : decode cX12_layBoxes 107 = .ok (.goto (-52), 3) := by decide +kernel
theorem dX12_layBoxes_110 : decode cX12_layBoxes 110 = .ok (.aload_n 0, 1) := by decide +kernel
theorem dX12_layBoxes_111 : decode cX12_layBoxes 111 = .ok (.getfield 89, 3) := by decide +kernel
theorem dX12_layBoxes_114 : decode cX12_layBoxes 114 = .ok (.iload_n 3, 1) := by decide +kernel
theorem dX12_layBoxes_115 : decode cX12_layBoxes 115 = .ok (.iload 4, 2) := by decide +kernel
theorem dX12_layBoxes_117 : decode cX12_layBoxes 117 = .ok (.ifCond .ne 7, 3) := by decide +kernel
theorem dX12_layBoxes_120 : decode cX12_layBoxes 120 = .ok (.iconst 1, 1) := by decide +kernel
theorem dX12_layBoxes_121 : decode cX12_layBoxes 121 = .ok (.goto 4, 3) := by decide +kernel
theorem dX12_layBoxes_124 : decode cX12_layBoxes 124 = .ok (.iconst 0, 1) := by decide +kernel
theorem dX12_layBoxes_125 : decode cX12_layBoxes 125 = .ok (.bastore, 1) := by decide +kernel
theorem dX12_layBoxes_126 : decode cX12_layBoxes 126 = .ok (.iconst 0, 1) := by decide +kernel
theorem dX12_layBoxes_127 : decode cX12_layBoxes 127 = .ok (.istore 5, 2) := by decide +kernel
theorem dX12_layBoxes_129 : decode cX12_layBoxes 129 = .ok (.iload 5, 2) := by decide +kernel
theorem dX12_layBoxes_131 : decode cX12_layBoxes 131 = .ok (.aload_n 0, 1) := by decide +kernel
theorem dX12_layBoxes_132 : decode cX12_layBoxes 132 = .ok (.getfield 107, 3) := by decide +kernel
theorem dX12_layBoxes_135 : decode cX12_layBoxes 135 = .ok (.if_icmp .ge 51, 3) := by decide +kernel
theorem dX12_layBoxes_138 : decode cX12_layBoxes 138 = .ok (.iload 4, 2) := by decide +kernel
theorem dX12_layBoxes_140 : decode cX12_layBoxes 140 = .ok (.ifCond .ne 46, 3) := by decide +kernel
theorem dX12_layBoxes_143 : decode cX12_layBoxes 143 = .ok (.iload_n 2, 1) := by decide +kernel
theorem dX12_layBoxes_144 : decode cX12_layBoxes 144 = .ok (.iload 5, 2) := by decide +kernel
theorem dX12_layBoxes_146 : decode cX12_layBoxes 146 = .ok (.invokestatic 157, 3) := by decide +kernel
theorem dX12_layBoxes_149 : decode cX12_layBoxes 149 = .ok (.ifCond .ne 31, 3) := by decide +kernel
theorem dX12_layBoxes_152 : decode cX12_layBoxes 152 = .ok (.aload_n 0, 1) := by decide +kernel
theorem dX12_layBoxes_153 : decode cX12_layBoxes 153 = .ok (.iload_n 1, 1) := by decide +kernel
theorem dX12_layBoxes_154 : decode cX12_layBoxes 154 = .ok (.iload_n 2, 1) := by decide +kernel
theorem dX12_layBoxes_155 : decode cX12_layBoxes 155 = .ok (.iload_n 3, 1) := by decide +kernel
theorem dX12_layBoxes_156 : decode cX12_layBoxes 156 = .ok (.iload 5, 2) := by decide +kernel
theorem dX12_layBoxes_158 : decode cX12_layBoxes 158 = .ok (.invokevirtual 359, 3) := by decide +kernel
theorem dX12_layBoxes_161 : decode cX12_layBoxes 161 = .ok (.ifCond .eq 19, 3) := by decide +kernel
theorem dX12_layBoxes_164 : decode cX12_layBoxes 164 = .ok (.aload_n 0, 1) := by decide +kernel
theorem dX12_layBoxes_165 : decode cX12_layBoxes 165 = .ok (.getfield 83, 3) := by decide +kernel
theorem dX12_layBoxes_168 : decode cX12_layBoxes 168 = .ok (.bipush 9, 2) := by decide +kernel
theorem dX12_layBoxes_170 : decode cX12_layBoxes 170 = .ok (.iload_n 2, 1) := by decide +kernel
theorem dX12_layBoxes_171 : decode cX12_layBoxes 171 = .ok (.imul, 1) := by decide +kernel
theorem dX12_layBoxes_172 : decode cX12_layBoxes 172 = .ok (.iload 5, 2) := by decide +kernel
theorem dX12_layBoxes_174 : decode cX12_layBoxes 174 = .ok (.iadd, 1) := by decide +kernel
theorem dX12_layBoxes_175 : decode cX12_layBoxes 175 = .ok (.dup2, 1) := by decide +kernel
theorem dX12_layBoxes_176 : decode cX12_layBoxes 176 = .ok (.iaload, 1) := by decide +kernel
theorem dX12_layBoxes_177 : decode cX12_layBoxes 177 = .ok (.iconst 1, 1) := by decide +kernel
theorem dX12_layBoxes_178 : decode cX12_layBoxes 178 = .ok (.iadd, 1) := by decide +kernel
theorem dX12_layBoxes_179 : decode cX12_layBoxes 179 = .ok (.iastore, 1) := by decide +kernel
theorem dX12_layBoxes_180 : decode cX12_layBoxes 180 = .ok (.iinc 5 1, 3) := by decide +kernel
theorem dX12_layBoxes_183 : decode cX12_layBoxes 183 = .ok (.goto (-54), 3) := by decide +kernel
theorem dX12_layBoxes_186 : decode cX12_layBoxes 186 = .ok (.iinc 3 1, 3) := by decide +kernel
theorem dX12_layBoxes_189 : decode cX12_layBoxes 189 = .ok (.goto (-159), 3) := by decide +kernel
theorem dX12_layBoxes_192 : decode cX12_layBoxes 192 = .ok (.return_, 1) := by decide +kernel
theorem dX12_chart_0 : decode cX12_chart 0 = .ok (.aload_n 0, 1) := by decide +kernel
theorem dX12_chart_1 : decode cX12_chart 1 = .ok (.iconst 0, 1) := by decide +kernel
theorem dX12_chart_2 : decode cX12_chart 2 = .ok (.putfield 114, 3) := by decide +kernel
theorem dX12_chart_5 : decode cX12_chart 5 = .ok (.aload_n 0, 1) := by decide +kernel
theorem dX12_chart_6 : decode cX12_chart 6 = .ok (.iload_n 1, 1) := by decide +kernel
theorem dX12_chart_7 : decode cX12_chart 7 = .ok (.invokevirtual 233, 3) := by decide +kernel
theorem dX12_chart_10 : decode cX12_chart 10 = .ok (.ifCond .eq 20, 3) := by decide +kernel
theorem dX12_chart_13 : decode cX12_chart 13 = .ok (.iload_n 3, 1) := by decide +kernel
theorem dX12_chart_14 : decode cX12_chart 14 = .ok (.iconst 0, 1) := by decide +kernel
theorem dX12_chart_15 : decode cX12_chart 15 = .ok (.iconst 1, 1) := by decide +kernel
theorem dX12_chart_16 : decode cX12_chart 16 = .ok (.invokestatic 209, 3) := by decide +kernel
theorem dX12_chart_19 : decode cX12_chart 19 = .ok (.ifCond .eq 11, 3) := by decide +kernel
theorem dX12_chart_22 : decode cX12_chart 22 = .ok (.aload_n 0, 1) := by decide +kernel
theorem dX12_chart_23 : decode cX12_chart 23 = .ok (.iload_n 2, 1) := by decide +kernel
theorem dX12_chart_24 : decode cX12_chart 24 = .ok (.invokevirtual 362, 3) := by decide +kernel
theorem dX12_chart_27 : decode cX12_chart 27 = .ok (.ifCond .ne 5, 3) := by decide +kernel
theorem dX12_chart_30 : decode cX12_chart 30 = .ok (.iconst (-1), 1) := by decide +kernel
theorem dX12_chart_31 : decode cX12_chart 31 = .ok (.ireturn, 1) := by decide +kernel
theorem dX12_chart_32 : decode cX12_chart 32 = .ok (.iconst 0, 1) := by decide +kernel
theorem dX12_chart_33 : decode cX12_chart 33 = .ok (.istore 4, 2) := by decide +kernel
theorem dX12_chart_35 : decode cX12_chart 35 = .ok (.iconst 0, 1) := by decide +kernel
theorem dX12_chart_36 : decode cX12_chart 36 = .ok (.istore 5, 2) := by decide +kernel
theorem dX12_chart_38 : decode cX12_chart 38 = .ok (.iconst 0, 1) := by decide +kernel
theorem dX12_chart_39 : decode cX12_chart 39 = .ok (.istore 6, 2) := by decide +kernel
theorem dX12_chart_41 : decode cX12_chart 41 = .ok (.iconst 0, 1) := by decide +kernel
theorem dX12_chart_42 : decode cX12_chart 42 = .ok (.istore 7, 2) := by decide +kernel
theorem dX12_chart_44 : decode cX12_chart 44 = .ok (.iload 7, 2) := by decide +kernel
theorem dX12_chart_46 : decode cX12_chart 46 = .ok (.aload_n 0, 1) := by decide +kernel
theorem dX12_chart_47 : decode cX12_chart 47 = .ok (.getfield 107, 3) := by decide +kernel
theorem dX12_chart_50 : decode cX12_chart 50 = .ok (.if_icmp .ge 78, 3) := by decide +kernel
theorem dX12_chart_53 : decode cX12_chart 53 = .ok (.aload_n 0, 1) := by decide +kernel
theorem dX12_chart_54 : decode cX12_chart 54 = .ok (.iload_n 1, 1) := by decide +kernel
theorem dX12_chart_55 : decode cX12_chart 55 = .ok (.iload 4, 2) := by decide +kernel
theorem dX12_chart_57 : decode cX12_chart 57 = .ok (.invokevirtual 365, 3) := by decide +kernel
theorem dX12_chart_60 : decode cX12_chart 60 = .ok (.iload 5, 2) := by decide +kernel
theorem dX12_chart_62 : decode cX12_chart 62 = .ok (.aload_n 0, 1) := by decide +kernel
theorem dX12_chart_63 : decode cX12_chart 63 = .ok (.getfield 83, 3) := by decide +kernel
theorem dX12_chart_66 : decode cX12_chart 66 = .ok (.bipush 9, 2) := by decide +kernel
theorem dX12_chart_68 : decode cX12_chart 68 = .ok (.iload 4, 2) := by decide +kernel
theorem dX12_chart_70 : decode cX12_chart 70 = .ok (.imul, 1) := by decide +kernel
theorem dX12_chart_71 : decode cX12_chart 71 = .ok (.aload_n 0, 1) := by decide +kernel
theorem dX12_chart_72 : decode cX12_chart 72 = .ok (.getfield 80, 3) := by decide +kernel
theorem dX12_chart_75 : decode cX12_chart 75 = .ok (.iload 7, 2) := by decide +kernel
theorem dX12_chart_77 : decode cX12_chart 77 = .ok (.iaload, 1) := by decide +kernel
theorem dX12_chart_78 : decode cX12_chart 78 = .ok (.iadd, 1) := by decide +kernel
theorem dX12_chart_79 : decode cX12_chart 79 = .ok (.iaload, 1) := by decide +kernel
theorem dX12_chart_80 : decode cX12_chart 80 = .ok (.iadd, 1) := by decide +kernel
theorem dX12_chart_81 : decode cX12_chart 81 = .ok (.istore 5, 2) := by decide +kernel
theorem dX12_chart_83 : decode cX12_chart 83 = .ok (.iload 6, 2) := by decide +kernel
theorem dX12_chart_85 : decode cX12_chart 85 = .ok (.aload_n 0, 1) := by decide +kernel
theorem dX12_chart_86 : decode cX12_chart 86 = .ok (.getfield 83, 3) := by decide +kernel
theorem dX12_chart_89 : decode cX12_chart 89 = .ok (.bipush 9, 2) := by decide +kernel
theorem dX12_chart_91 : decode cX12_chart 91 = .ok (.iload 4, 2) := by decide +kernel
theorem dX12_chart_93 : decode cX12_chart 93 = .ok (.imul, 1) := by decide +kernel
theorem dX12_chart_94 : decode cX12_chart 94 = .ok (.aload_n 0, 1) := by decide +kernel
theorem dX12_chart_95 : decode cX12_chart 95 = .ok (.getfield 80, 3) := by decide +kernel
theorem dX12_chart_98 : decode cX12_chart 98 = .ok (.iload 7, 2) := by decide +kernel
theorem dX12_chart_100 : decode cX12_chart 100 = .ok (.iaload, 1) := by decide +kernel
theorem dX12_chart_101 : decode cX12_chart 101 = .ok (.iadd, 1) := by decide +kernel
theorem dX12_chart_102 : decode cX12_chart 102 = .ok (.iaload, 1) := by decide +kernel
theorem dX12_chart_103 : decode cX12_chart 103 = .ok (.invokestatic 104, 3) := by decide +kernel
theorem dX12_chart_106 : decode cX12_chart 106 = .ok (.istore 6, 2) := by decide +kernel
theorem dX12_chart_108 : decode cX12_chart 108 = .ok (.iload 4, 2) := by decide +kernel
theorem dX12_chart_110 : decode cX12_chart 110 = .ok (.iconst 1, 1) := by decide +kernel
theorem dX12_chart_111 : decode cX12_chart 111 = .ok (.aload_n 0, 1) := by decide +kernel
theorem dX12_chart_112 : decode cX12_chart 112 = .ok (.getfield 80, 3) := by decide +kernel
theorem dX12_chart_115 : decode cX12_chart 115 = .ok (.iload 7, 2) := by decide +kernel
theorem dX12_chart_117 : decode cX12_chart 117 = .ok (.iaload, 1) := by decide +kernel
theorem dX12_chart_118 : decode cX12_chart 118 = .ok (.ishl, 1) := by decide +kernel
theorem dX12_chart_119 : decode cX12_chart 119 = .ok (.ior, 1) := by decide +kernel
theorem dX12_chart_120 : decode cX12_chart 120 = .ok (.istore 4, 2) := by decide +kernel
theorem dX12_chart_122 : decode cX12_chart 122 = .ok (.iinc 7 1, 3) := by decide +kernel
theorem dX12_chart_125 : decode cX12_chart 125 = .ok (.goto (-81), 3) := by decide +kernel
theorem dX12_chart_128 : decode cX12_chart 128 = .ok (.iload_n 3, 1) := by decide +kernel
theorem dX12_chart_129 : decode cX12_chart 129 = .ok (.ifCond .ne 8, 3) := by decide +kernel
theorem dX12_chart_132 : decode cX12_chart 132 = .ok (.iload 5, 2) := by decide +kernel
theorem dX12_chart_134 : decode cX12_chart 134 = .ok (.goto 5, 3) := by decide +kernel
theorem dX12_chart_137 : decode cX12_chart 137 = .ok (.iload 6, 2) := by decide +kernel
theorem dX12_chart_139 : decode cX12_chart 139 = .ok (.ireturn, 1) := by decide +kernel
theorem dX12_least_0 : decode cX12_least 0 = .ok (.aload_n 0, 1) := by decide +kernel
theorem dX12_least_1 : decode cX12_least 1 = .ok (.iconst 0, 1) := by decide +kernel
theorem dX12_least_2 : decode cX12_least 2 = .ok (.putfield 114, 3) := by decide +kernel
theorem dX12_least_5 : decode cX12_least 5 = .ok (.aload_n 0, 1) := by decide +kernel
theorem dX12_least_6 : decode cX12_least 6 = .ok (.iload_n 1, 1) := by decide +kernel
theorem dX12_least_7 : decode cX12_least 7 = .ok (.invokevirtual 233, 3) := by decide +kernel
theorem dX12_least_10 : decode cX12_least 10 = .ok (.ifCond .eq 12, 3) := by decide +kernel
theorem dX12_least_13 : decode cX12_least 13 = .ok (.iload_n 2, 1) := by decide +kernel
theorem dX12_least_14 : decode cX12_least 14 = .ok (.iconst 0, 1) := by decide +kernel
theorem dX12_least_15 : decode cX12_least 15 = .ok (.iconst 1, 1) := by decide +kernel
theorem dX12_least_16 : decode cX12_least 16 = .ok (.invokestatic 209, 3) := by decide +kernel
theorem dX12_least_19 : decode cX12_least 19 = .ok (.ifCond .ne 5, 3) := by decide +kernel
theorem dX12_least_22 : decode cX12_least 22 = .ok (.iconst (-1), 1) := by decide +kernel
theorem dX12_least_23 : decode cX12_least 23 = .ok (.ireturn, 1) := by decide +kernel
theorem dX12_least_24 : decode cX12_least 24 = .ok (.aload_n 0, 1) := by decide +kernel
theorem dX12_least_25 : decode cX12_least 25 = .ok (.getfield 111, 3) := by decide +kernel
theorem dX12_least_28 : decode cX12_least 28 = .ok (.iconst 1, 1) := by decide +kernel
theorem dX12_least_29 : decode cX12_least 29 = .ok (.isub, 1) := by decide +kernel
theorem dX12_least_30 : decode cX12_least 30 = .ok (.istore_n 3, 1) := by decide +kernel
theorem dX12_least_31 : decode cX12_least 31 = .ok (.iload_n 3, 1) := by decide +kernel
theorem dX12_least_32 : decode cX12_least 32 = .ok (.ifCond .lt 104, 3) := by decide +kernel
theorem dX12_least_35 : decode cX12_least 35 = .ok (.aload_n 0, 1) := by decide +kernel
theorem dX12_least_36 : decode cX12_least 36 = .ok (.iload_n 1, 1) := by decide +kernel
theorem dX12_least_37 : decode cX12_least 37 = .ok (.iload_n 3, 1) := by decide +kernel
theorem dX12_least_38 : decode cX12_least 38 = .ok (.invokevirtual 365, 3) := by decide +kernel
theorem dX12_least_41 : decode cX12_least 41 = .ok (.aload_n 0, 1) := by decide +kernel
theorem dX12_least_42 : decode cX12_least 42 = .ok (.getfield 86, 3) := by decide +kernel
theorem dX12_least_45 : decode cX12_least 45 = .ok (.iload_n 3, 1) := by decide +kernel
theorem dX12_least_46 : decode cX12_least 46 = .ok (.iload_n 3, 1) := by decide +kernel
theorem dX12_least_47 : decode cX12_least 47 = .ok (.aload_n 0, 1) := by decide +kernel
theorem dX12_least_48 : decode cX12_least 48 = .ok (.getfield 111, 3) := by decide +kernel
theorem dX12_least_51 : decode cX12_least 51 = .ok (.iconst 1, 1) := by decide +kernel
theorem dX12_least_52 : decode cX12_least 52 = .ok (.isub, 1) := by decide +kernel
theorem dX12_least_53 : decode cX12_least 53 = .ok (.if_icmp .ne 7, 3) := by decide +kernel
theorem dX12_least_56 : decode cX12_least 56 = .ok (.iconst 0, 1) := by decide +kernel
theorem dX12_least_57 : decode cX12_least 57 = .ok (.goto 6, 3) := by decide +kernel
theorem dX12_least_60 : decode cX12_least 60 = .ok (.ldc_w 296, 3) := by decide +kernel
theorem dX12_least_63 : decode cX12_least 63 = .ok (.iastore, 1) := by decide +kernel
theorem dX12_least_64 : decode cX12_least 64 = .ok (.iconst 0, 1) := by decide +kernel
theorem dX12_least_65 : decode cX12_least 65 = .ok (.istore 4, 2) := by decide +kernel
theorem dX12_least_67 : decode cX12_least 67 = .ok (.iload 4, 2) := by decide +kernel
theorem dX12_least_69 : decode cX12_least 69 = .ok (.aload_n 0, 1) := by decide +kernel
theorem dX12_least_70 : decode cX12_least 70 = .ok (.getfield 107, 3) := by decide +kernel
theorem dX12_least_73 : decode cX12_least 73 = .ok (.if_icmp .ge 57, 3) := by decide +kernel
theorem dX12_least_76 : decode cX12_least 76 = .ok (.iload_n 3, 1) := by decide +kernel
theorem dX12_least_77 : decode cX12_least 77 = .ok (.iload 4, 2) := by decide +kernel
theorem dX12_least_79 : decode cX12_least 79 = .ok (.invokestatic 157, 3) := by decide +kernel
theorem dX12_least_82 : decode cX12_least 82 = .ok (.ifCond .ne 42, 3) := by decide +kernel
theorem dX12_least_85 : decode cX12_least 85 = .ok (.aload_n 0, 1) := by decide +kernel
theorem dX12_least_86 : decode cX12_least 86 = .ok (.getfield 86, 3) := by decide +kernel
theorem dX12_least_89 : decode cX12_least 89 = .ok (.iload_n 3, 1) := by decide +kernel
theorem dX12_least_90 : decode cX12_least 90 = .ok (.aload_n 0, 1) := by decide +kernel
theorem dX12_least_91 : decode cX12_least 91 = .ok (.getfield 86, 3) := by decide +kernel
theorem dX12_least_94 : decode cX12_least 94 = .ok (.iload_n 3, 1) := by decide +kernel
theorem dX12_least_95 : decode cX12_least 95 = .ok (.iaload, 1) := by decide +kernel
theorem dX12_least_96 : decode cX12_least 96 = .ok (.aload_n 0, 1) := by decide +kernel
theorem dX12_least_97 : decode cX12_least 97 = .ok (.getfield 83, 3) := by decide +kernel
theorem dX12_least_100 : decode cX12_least 100 = .ok (.bipush 9, 2) := by decide +kernel
theorem dX12_least_102 : decode cX12_least 102 = .ok (.iload_n 3, 1) := by decide +kernel
theorem dX12_least_103 : decode cX12_least 103 = .ok (.imul, 1) := by decide +kernel
theorem dX12_least_104 : decode cX12_least 104 = .ok (.iload 4, 2) := by decide +kernel
theorem dX12_least_106 : decode cX12_least 106 = .ok (.iadd, 1) := by decide +kernel
theorem dX12_least_107 : decode cX12_least 107 = .ok (.iaload, 1) := by decide +kernel
theorem dX12_least_108 : decode cX12_least 108 = .ok (.aload_n 0, 1) := by decide +kernel
theorem dX12_least_109 : decode cX12_least 109 = .ok (.getfield 86, 3) := by decide +kernel
theorem dX12_least_112 : decode cX12_least 112 = .ok (.iload_n 3, 1) := by decide +kernel
theorem dX12_least_113 : decode cX12_least 113 = .ok (.iconst 1, 1) := by decide +kernel
theorem dX12_least_114 : decode cX12_least 114 = .ok (.iload 4, 2) := by decide +kernel
theorem dX12_least_116 : decode cX12_least 116 = .ok (.ishl, 1) := by decide +kernel
theorem dX12_least_117 : decode cX12_least 117 = .ok (.ior, 1) := by decide +kernel
theorem dX12_least_118 : decode cX12_least 118 = .ok (.iaload, 1) := by decide +kernel
theorem dX12_least_119 : decode cX12_least 119 = .ok (.iadd, 1) := by decide +kernel
theorem dX12_least_120 : decode cX12_least 120 = .ok (.invokestatic 98, 3) := by decide +kernel
theorem dX12_least_123 : decode cX12_least 123 = .ok (.iastore, 1) := by decide +kernel
theorem dX12_least_124 : decode cX12_least 124 = .ok (.iinc 4 1, 3) := by decide +kernel
theorem dX12_least_127 : decode cX12_least 127 = .ok (.goto (-60), 3) := by decide +kernel
theorem dX12_least_130 : decode cX12_least 130 = .ok (.iinc 3 (-1), 3) := by decide +kernel
theorem dX12_least_133 : decode cX12_least 133 = .ok (.goto (-102), 3) := by decide +kernel
theorem dX12_least_136 : decode cX12_least 136 = .ok (.iload_n 2, 1) := by decide +kernel
theorem dX12_least_137 : decode cX12_least 137 = .ok (.ifCond .ne 10, 3) := by decide +kernel
theorem dX12_least_140 : decode cX12_least 140 = .ok (.aload_n 0, 1) := by decide +kernel
theorem dX12_least_141 : decode cX12_least 141 = .ok (.getfield 86, 3) := by decide +kernel
theorem dX12_least_144 : decode cX12_least 144 = .ok (.iconst 0, 1) := by decide +kernel
theorem dX12_least_145 : decode cX12_least 145 = .ok (.iaload, 1) := by decide +kernel
theorem dX12_least_146 : decode cX12_least 146 = .ok (.ireturn, 1) := by decide +kernel
theorem dX12_least_147 : decode cX12_least 147 = .ok (.iconst 0, 1) := by decide +kernel
theorem dX12_least_148 : decode cX12_least 148 = .ok (.istore_n 3, 1) := by decide +kernel
theorem dX12_least_149 : decode cX12_least 149 = .ok (.iconst 0, 1) := by decide +kernel
theorem dX12_least_150 : decode cX12_least 150 = .ok (.istore 4, 2) := by decide +kernel
theorem dX12_least_152 : decode cX12_least 152 = .ok (.iconst 0, 1) := by decide +kernel
theorem dX12_least_153 : decode cX12_least 153 = .ok (.istore 5, 2) := by decide +kernel
theorem dX12_least_155 : decode cX12_least 155 = .ok (.iload 5, 2) := by decide +kernel
theorem dX12_least_157 : decode cX12_least 157 = .ok (.aload_n 0, 1) := by decide +kernel
theorem dX12_least_158 : decode cX12_least 158 = .ok (.getfield 107, 3) := by decide +kernel
theorem dX12_least_161 : decode cX12_least 161 = .ok (.if_icmp .ge 83, 3) := by decide +kernel
theorem dX12_least_164 : decode cX12_least 164 = .ok (.iconst 0, 1) := by decide +kernel
theorem dX12_least_165 : decode cX12_least 165 = .ok (.istore 6, 2) := by decide +kernel
theorem dX12_least_167 : decode cX12_least 167 = .ok (.iload 4, 2) := by decide +kernel
theorem dX12_least_169 : decode cX12_least 169 = .ok (.iload 6, 2) := by decide +kernel
theorem dX12_least_171 : decode cX12_least 171 = .ok (.invokestatic 157, 3) := by decide +kernel
theorem dX12_least_174 : decode cX12_least 174 = .ok (.ifCond .ne 39, 3) := by decide +kernel
theorem dX12_least_177 : decode cX12_least 177 = .ok (.aload_n 0, 1) := by decide +kernel
theorem dX12_least_178 : decode cX12_least 178 = .ok (.getfield 83, 3) := by decide +kernel
theorem dX12_least_181 : decode cX12_least 181 = .ok (.bipush 9, 2) := by decide +kernel
theorem dX12_least_183 : decode cX12_least 183 = .ok (.iload 4, 2) := by decide +kernel
theorem dX12_least_185 : decode cX12_least 185 = .ok (.imul, 1) := by decide +kernel
theorem dX12_least_186 : decode cX12_least 186 = .ok (.iload 6, 2) := by decide +kernel
theorem dX12_least_188 : decode cX12_least 188 = .ok (.iadd, 1) := by decide +kernel
theorem dX12_least_189 : decode cX12_least 189 = .ok (.iaload, 1) := by decide +kernel
theorem dX12_least_190 : decode cX12_least 190 = .ok (.aload_n 0, 1) := by decide +kernel
theorem dX12_least_191 : decode cX12_least 191 = .ok (.getfield 86, 3) := by decide +kernel
theorem dX12_least_194 : decode cX12_least 194 = .ok (.iload 4, 2) := by decide +kernel
theorem dX12_least_196 : decode cX12_least 196 = .ok (.iconst 1, 1) := by decide +kernel
theorem dX12_least_197 : decode cX12_least 197 = .ok (.iload 6, 2) := by decide +kernel
theorem dX12_least_199 : decode cX12_least 199 = .ok (.ishl, 1) := by decide +kernel
theorem dX12_least_200 : decode cX12_least 200 = .ok (.ior, 1) := by decide +kernel
theorem dX12_least_201 : decode cX12_least 201 = .ok (.iaload, 1) := by decide +kernel
theorem dX12_least_202 : decode cX12_least 202 = .ok (.iadd, 1) := by decide +kernel
theorem dX12_least_203 : decode cX12_least 203 = .ok (.aload_n 0, 1) := by decide +kernel
theorem dX12_least_204 : decode cX12_least 204 = .ok (.getfield 86, 3) := by decide +kernel
theorem dX12_least_207 : decode cX12_least 207 = .ok (.iload 4, 2) := by decide +kernel
theorem dX12_least_209 : decode cX12_least 209 = .ok (.iaload, 1) := by decide +kernel
theorem dX12_least_210 : decode cX12_least 210 = .ok (.if_icmp .eq 9, 3) := by decide +kernel
theorem dX12_least_213 : decode cX12_least 213 = .ok (.iinc 6 1, 3) := by decide +kernel
theorem dX12_least_216 : decode cX12_least 216 = .ok (.goto (-49), 3) := by decide +kernel
theorem dX12_least_219 : decode cX12_least 219 = .ok (.aload_n 0, 1) := by decide +kernel
theorem dX12_least_220 : decode cX12_least 220 = .ok (.getfield 107, 3) := by decide +kernel
theorem dX12_least_223 : decode cX12_least 223 = .ok (.iload_n 3, 1) := by decide +kernel
theorem dX12_least_224 : decode cX12_least 224 = .ok (.imul, 1) := by decide +kernel
theorem dX12_least_225 : decode cX12_least 225 = .ok (.iload 6, 2) := by decide +kernel
theorem dX12_least_227 : decode cX12_least 227 = .ok (.iadd, 1) := by decide +kernel
theorem dX12_least_228 : decode cX12_least 228 = .ok (.istore_n 3, 1) := by decide +kernel
theorem dX12_least_229 : decode cX12_least 229 = .ok (.iload 4, 2) := by decide +kernel
theorem dX12_least_231 : decode cX12_least 231 = .ok (.iconst 1, 1) := by decide +kernel
theorem dX12_least_232 : decode cX12_least 232 = .ok (.iload 6, 2) := by decide +kernel
theorem dX12_least_234 : decode cX12_least 234 = .ok (.ishl, 1) := by decide +kernel
theorem dX12_least_235 : decode cX12_least 235 = .ok (.ior, 1) := by decide +kernel
theorem dX12_least_236 : decode cX12_least 236 = .ok (.istore 4, 2) := by decide +kernel
theorem dX12_least_238 : decode cX12_least 238 = .ok (.iinc 5 1, 3) := by decide +kernel
theorem dX12_least_241 : decode cX12_least 241 = .ok (.goto (-86), 3) := by decide +kernel
theorem dX12_least_244 : decode cX12_least 244 = .ok (.iload_n 3, 1) := by decide +kernel
theorem dX12_least_245 : decode cX12_least 245 = .ok (.ireturn, 1) := by decide +kernel
theorem dX12_isOutcome_0 : decode cX12_isOutcome 0 = .ok (.iload_n 0, 1) := by decide +kernel
theorem dX12_isOutcome_1 : decode cX12_isOutcome 1 = .ok (.iconst (-1), 1) := by decide +kernel
theorem dX12_isOutcome_2 : decode cX12_isOutcome 2 = .ok (.iconst 5, 1) := by decide +kernel
theorem dX12_isOutcome_3 : decode cX12_isOutcome 3 = .ok (.invokestatic 209, 3) := by decide +kernel
theorem dX12_isOutcome_6 : decode cX12_isOutcome 6 = .ok (.ireturn, 1) := by decide +kernel
theorem dX12_ruling_0 : decode cX12_ruling 0 = .ok (.aload_n 0, 1) := by decide +kernel
theorem dX12_ruling_1 : decode cX12_ruling 1 = .ok (.iconst 0, 1) := by decide +kernel
theorem dX12_ruling_2 : decode cX12_ruling 2 = .ok (.putfield 114, 3) := by decide +kernel
theorem dX12_ruling_5 : decode cX12_ruling 5 = .ok (.aload_n 0, 1) := by decide +kernel
theorem dX12_ruling_6 : decode cX12_ruling 6 = .ok (.getfield 369, 3) := by decide +kernel
theorem dX12_ruling_9 : decode cX12_ruling 9 = .ok (.bipush 20, 2) := by decide +kernel
theorem dX12_ruling_11 : decode cX12_ruling 11 = .ok (.if_icmp .eq 18, 3) := by decide +kernel
theorem dX12_ruling_14 : decode cX12_ruling 14 = .ok (.aload_n 0, 1) := by decide +kernel
theorem dX12_ruling_15 : decode cX12_ruling 15 = .ok (.iload_n 1, 1) := by decide +kernel
theorem dX12_ruling_16 : decode cX12_ruling 16 = .ok (.invokevirtual 236, 3) := by decide +kernel
theorem dX12_ruling_19 : decode cX12_ruling 19 = .ok (.ifCond .eq 10, 3) := by decide +kernel
theorem dX12_ruling_22 : decode cX12_ruling 22 = .ok (.iload_n 2, 1) := by decide +kernel
theorem dX12_ruling_23 : decode cX12_ruling 23 = .ok (.invokestatic 372, 3) := by decide +kernel
theorem dX12_ruling_26 : decode cX12_ruling 26 = .ok (.ifCond .ne 5, 3) := by decide +kernel
theorem dX12_ruling_29 : decode cX12_ruling 29 = .ok (.iconst (-1), 1) := by decide +kernel
theorem dX12_ruling_30 : decode cX12_ruling 30 = .ok (.ireturn, 1) := by decide +kernel
theorem dX12_ruling_31 : decode cX12_ruling 31 = .ok (.aload_n 0, 1) := by decide +kernel
theorem dX12_ruling_32 : decode cX12_ruling 32 = .ok (.getfield 92, 3) := by decide +kernel
theorem dX12_ruling_35 : decode cX12_ruling 35 = .ok (.aload_n 0, 1) := by decide +kernel
theorem dX12_ruling_36 : decode cX12_ruling 36 = .ok (.getfield 369, 3) := by decide +kernel
theorem dX12_ruling_39 : decode cX12_ruling 39 = .ok (.iload_n 1, 1) := by decide +kernel
theorem dX12_ruling_40 : decode cX12_ruling 40 = .ok (.iastore, 1) := by decide +kernel
theorem dX12_ruling_41 : decode cX12_ruling 41 = .ok (.aload_n 0, 1) := by decide +kernel
theorem dX12_ruling_42 : decode cX12_ruling 42 = .ok (.getfield 95, 3) := by decide +kernel
theorem dX12_ruling_45 : decode cX12_ruling 45 = .ok (.aload_n 0, 1) := by decide +kernel
theorem dX12_ruling_46 : decode cX12_ruling 46 = .ok (.getfield 369, 3) := by decide +kernel
theorem dX12_ruling_49 : decode cX12_ruling 49 = .ok (.iload_n 2, 1) := by decide +kernel
theorem dX12_ruling_50 : decode cX12_ruling 50 = .ok (.iastore, 1) := by decide +kernel
theorem dX12_ruling_51 : decode cX12_ruling 51 = .ok (.aload_n 0, 1) := by decide +kernel
theorem dX12_ruling_52 : decode cX12_ruling 52 = .ok (.dup, 1) := by decide +kernel
theorem dX12_ruling_53 : decode cX12_ruling 53 = .ok (.getfield 369, 3) := by decide +kernel
theorem dX12_ruling_56 : decode cX12_ruling 56 = .ok (.iconst 1, 1) := by decide +kernel
theorem dX12_ruling_57 : decode cX12_ruling 57 = .ok (.iadd, 1) := by decide +kernel
theorem dX12_ruling_58 : decode cX12_ruling 58 = .ok (.putfield 369, 3) := by decide +kernel
theorem dX12_ruling_61 : decode cX12_ruling 61 = .ok (.aload_n 0, 1) := by decide +kernel
theorem dX12_ruling_62 : decode cX12_ruling 62 = .ok (.getfield 369, 3) := by decide +kernel
theorem dX12_ruling_65 : decode cX12_ruling 65 = .ok (.ireturn, 1) := by decide +kernel
theorem dX12_saidWithout_0 : decode cX12_saidWithout 0 = .ok (.aload_n 0, 1) := by decide +kernel
theorem dX12_saidWithout_1 : decode cX12_saidWithout 1 = .ok (.getfield 32, 3) := by decide +kernel
theorem dX12_saidWithout_4 : decode cX12_saidWithout 4 = .ok (.sipush 512, 3) := by decide +kernel
theorem dX12_saidWithout_7 : decode cX12_saidWithout 7 = .ok (.iload_n 1, 1) := by decide +kernel
theorem dX12_saidWithout_8 : decode cX12_saidWithout 8 = .ok (.imul, 1) := by decide +kernel
theorem dX12_saidWithout_9 : decode cX12_saidWithout 9 = .ok (.iload_n 3, 1) := by decide +kernel
theorem dX12_saidWithout_10 : decode cX12_saidWithout 10 = .ok (.iadd, 1) := by decide +kernel
theorem dX12_saidWithout_11 : decode cX12_saidWithout 11 = .ok (.iaload, 1) := by decide +kernel
theorem dX12_saidWithout_12 : decode cX12_saidWithout 12 = .ok (.iload_n 2, 1) := by decide +kernel
theorem dX12_saidWithout_13 : decode cX12_saidWithout 13 = .ok (.iconst (-1), 1) := by decide +kernel
theorem dX12_saidWithout_14 : decode cX12_saidWithout 14 = .ok (.ixor, 1) := by decide +kernel
theorem dX12_saidWithout_15 : decode cX12_saidWithout 15 = .ok (.iand, 1) := by decide +kernel
theorem dX12_saidWithout_16 : decode cX12_saidWithout 16 = .ok (.istore 4, 2) := by decide +kernel
theorem dX12_saidWithout_18 : decode cX12_saidWithout 18 = .ok (.iload 4, 2) := by decide +kernel
theorem dX12_saidWithout_20 : decode cX12_saidWithout 20 = .ok (.ifCond .ne 7, 3) := by decide +kernel
theorem dX12_saidWithout_23 : decode cX12_saidWithout 23 = .ok (.iconst (-1), 1) := by decide +kernel
theorem dX12_saidWithout_24 : decode cX12_saidWithout 24 = .ok (.goto 18, 3) := by decide +kernel
theorem dX12_saidWithout_27 : decode cX12_saidWithout 27 = .ok (.aload_n 0, 1) := by decide +kernel
theorem dX12_saidWithout_28 : decode cX12_saidWithout 28 = .ok (.getfield 38, 3) := by decide +kernel
theorem dX12_saidWithout_31 : decode cX12_saidWithout 31 = .ok (.bipush 12, 2) := by decide +kernel
theorem dX12_saidWithout_33 : decode cX12_saidWithout 33 = .ok (.iload_n 1, 1) := by decide +kernel
theorem dX12_saidWithout_34 : decode cX12_saidWithout 34 = .ok (.imul, 1) := by decide +kernel
theorem dX12_saidWithout_35 : decode cX12_saidWithout 35 = .ok (.iload 4, 2) := by decide +kernel
theorem dX12_saidWithout_37 : decode cX12_saidWithout 37 = .ok (.invokestatic 230, 3) := by decide +kernel
theorem dX12_saidWithout_40 : decode cX12_saidWithout 40 = .ok (.iadd, 1) := by decide +kernel
theorem dX12_saidWithout_41 : decode cX12_saidWithout 41 = .ok (.iaload, 1) := by decide +kernel
theorem dX12_saidWithout_42 : decode cX12_saidWithout 42 = .ok (.ireturn, 1) := by decide +kernel
theorem dX12_againstWithout_0 : decode cX12_againstWithout 0 = .ok (.iconst 0, 1) := by decide +kernel
theorem dX12_againstWithout_1 : decode cX12_againstWithout 1 = .ok (.istore_n 3, 1) := by decide +kernel
theorem dX12_againstWithout_2 : decode cX12_againstWithout 2 = .ok (.iconst 0, 1) := by decide +kernel
theorem dX12_againstWithout_3 : decode cX12_againstWithout 3 = .ok (.istore 4, 2) := by decide +kernel
theorem dX12_againstWithout_5 : decode cX12_againstWithout 5 = .ok (.iload 4, 2) := by decide +kernel
theorem dX12_againstWithout_7 : decode cX12_againstWithout 7 = .ok (.aload_n 0, 1) := by decide +kernel
theorem dX12_againstWithout_8 : decode cX12_againstWithout 8 = .ok (.getfield 369, 3) := by decide +kernel
theorem dX12_againstWithout_11 : decode cX12_againstWithout 11 = .ok (.if_icmp .ge 43, 3) := by decide +kernel
theorem dX12_againstWithout_14 : decode cX12_againstWithout 14 = .ok (.iload_n 3, 1) := by decide +kernel
theorem dX12_againstWithout_15 : decode cX12_againstWithout 15 = .ok (.aload_n 0, 1) := by decide +kernel
theorem dX12_againstWithout_16 : decode cX12_againstWithout 16 = .ok (.iload_n 1, 1) := by decide +kernel
theorem dX12_againstWithout_17 : decode cX12_againstWithout 17 = .ok (.iload_n 2, 1) := by decide +kernel
theorem dX12_againstWithout_18 : decode cX12_againstWithout 18 = .ok (.aload_n 0, 1) := by decide +kernel
theorem dX12_againstWithout_19 : decode cX12_againstWithout 19 = .ok (.getfield 92, 3) := by decide +kernel
theorem dX12_againstWithout_22 : decode cX12_againstWithout 22 = .ok (.iload 4, 2) := by decide +kernel
theorem dX12_againstWithout_24 : decode cX12_againstWithout 24 = .ok (.iaload, 1) := by decide +kernel
theorem dX12_againstWithout_25 : decode cX12_againstWithout 25 = .ok (.invokevirtual 375, 3) := by decide +kernel
theorem dX12_againstWithout_28 : decode cX12_againstWithout 28 = .ok (.aload_n 0, 1) := by decide +kernel
theorem dX12_againstWithout_29 : decode cX12_againstWithout 29 = .ok (.getfield 95, 3) := by decide +kernel
theorem dX12_againstWithout_32 : decode cX12_againstWithout 32 = .ok (.iload 4, 2) := by decide +kernel
theorem dX12_againstWithout_34 : decode cX12_againstWithout 34 = .ok (.iaload, 1) := by decide +kernel
theorem dX12_againstWithout_35 : decode cX12_againstWithout 35 = .ok (.if_icmp .eq 10, 3) := by decide +kernel
theorem dX12_againstWithout_38 : decode cX12_againstWithout 38 = .ok (.iconst 1, 1) := by decide +kernel
theorem dX12_againstWithout_39 : decode cX12_againstWithout 39 = .ok (.iload 4, 2) := by decide +kernel
theorem dX12_againstWithout_41 : decode cX12_againstWithout 41 = .ok (.ishl, 1) := by decide +kernel
theorem dX12_againstWithout_42 : decode cX12_againstWithout 42 = .ok (.goto 4, 3) := by decide +kernel
theorem dX12_againstWithout_45 : decode cX12_againstWithout 45 = .ok (.iconst 0, 1) := by decide +kernel
theorem dX12_againstWithout_46 : decode cX12_againstWithout 46 = .ok (.ior, 1) := by decide +kernel
theorem dX12_againstWithout_47 : decode cX12_againstWithout 47 = .ok (.istore_n 3, 1) := by decide +kernel
theorem dX12_againstWithout_48 : decode cX12_againstWithout 48 = .ok (.iinc 4 1, 3) := by decide +kernel
theorem dX12_againstWithout_51 : decode cX12_againstWithout 51 = .ok (.goto (-46), 3) := by decide +kernel
theorem dX12_againstWithout_54 : decode cX12_againstWithout 54 = .ok (.iload_n 3, 1) := by decide +kernel
theorem dX12_againstWithout_55 : decode cX12_againstWithout 55 = .ok (.ireturn, 1) := by decide +kernel
theorem dX12_against_0 : decode cX12_against 0 = .ok (.aload_n 0, 1) := by decide +kernel
theorem dX12_against_1 : decode cX12_against 1 = .ok (.iconst 0, 1) := by decide +kernel
theorem dX12_against_2 : decode cX12_against 2 = .ok (.putfield 114, 3) := by decide +kernel
theorem dX12_against_5 : decode cX12_against 5 = .ok (.aload_n 0, 1) := by decide +kernel
theorem dX12_against_6 : decode cX12_against 6 = .ok (.iload_n 1, 1) := by decide +kernel
theorem dX12_against_7 : decode cX12_against 7 = .ok (.invokevirtual 233, 3) := by decide +kernel
theorem dX12_against_10 : decode cX12_against 10 = .ok (.ifCond .eq 12, 3) := by decide +kernel
theorem dX12_against_13 : decode cX12_against 13 = .ok (.aload_n 0, 1) := by decide +kernel
theorem dX12_against_14 : decode cX12_against 14 = .ok (.iload_n 1, 1) := by decide +kernel
theorem dX12_against_15 : decode cX12_against 15 = .ok (.iconst 0, 1) := by decide +kernel
theorem dX12_against_16 : decode cX12_against 16 = .ok (.invokevirtual 378, 3) := by decide +kernel
theorem dX12_against_19 : decode cX12_against 19 = .ok (.goto 4, 3) := by decide +kernel
theorem dX12_against_22 : decode cX12_against 22 = .ok (.iconst (-1), 1) := by decide +kernel
theorem dX12_against_23 : decode cX12_against 23 = .ok (.ireturn, 1) := by decide +kernel
theorem dX12_cure_0 : decode cX12_cure 0 = .ok (.aload_n 0, 1) := by decide +kernel
theorem dX12_cure_1 : decode cX12_cure 1 = .ok (.iconst 0, 1) := by decide +kernel
theorem dX12_cure_2 : decode cX12_cure 2 = .ok (.putfield 114, 3) := by decide +kernel
theorem dX12_cure_5 : decode cX12_cure 5 = .ok (.aload_n 0, 1) := by decide +kernel
theorem dX12_cure_6 : decode cX12_cure 6 = .ok (.iload_n 1, 1) := by decide +kernel
theorem dX12_cure_7 : decode cX12_cure 7 = .ok (.invokevirtual 233, 3) := by decide +kernel
theorem dX12_cure_10 : decode cX12_cure 10 = .ok (.ifCond .ne 5, 3) := by decide +kernel
theorem dX12_cure_13 : decode cX12_cure 13 = .ok (.iconst (-1), 1) := by decide +kernel
theorem dX12_cure_14 : decode cX12_cure 14 = .ok (.ireturn, 1) := by decide +kernel
theorem dX12_cure_15 : decode cX12_cure 15 = .ok (.iconst (-1), 1) := by decide +kernel
theorem dX12_cure_16 : decode cX12_cure 16 = .ok (.istore_n 2, 1) := by decide +kernel
theorem dX12_cure_17 : decode cX12_cure 17 = .ok (.iconst 0, 1) := by decide +kernel
theorem dX12_cure_18 : decode cX12_cure 18 = .ok (.istore_n 3, 1) := by decide +kernel
theorem dX12_cure_19 : decode cX12_cure 19 = .ok (.iload_n 3, 1) := by decide +kernel
theorem dX12_cure_20 : decode cX12_cure 20 = .ok (.iconst 1, 1) := by decide +kernel
theorem dX12_cure_21 : decode cX12_cure 21 = .ok (.aload_n 0, 1) := by decide +kernel
theorem dX12_cure_22 : decode cX12_cure 22 = .ok (.getfield 35, 3) := by decide +kernel
theorem dX12_cure_25 : decode cX12_cure 25 = .ok (.iload_n 1, 1) := by decide +kernel
theorem dX12_cure_26 : decode cX12_cure 26 = .ok (.iaload, 1) := by decide +kernel
theorem dX12_cure_27 : decode cX12_cure 27 = .ok (.ishl, 1) := by decide +kernel
theorem dX12_cure_28 : decode cX12_cure 28 = .ok (.if_icmp .ge 33, 3) := by decide +kernel
theorem dX12_cure_31 : decode cX12_cure 31 = .ok (.iload_n 2, 1) := by decide +kernel
theorem dX12_cure_32 : decode cX12_cure 32 = .ok (.iconst (-1), 1) := by decide +kernel
theorem dX12_cure_33 : decode cX12_cure 33 = .ok (.if_icmp .eq 11, 3) := by decide +kernel
theorem dX12_cure_36 : decode cX12_cure 36 = .ok (.iload_n 3, 1) := by decide +kernel
theorem dX12_cure_37 : decode cX12_cure 37 = .ok (.iload_n 2, 1) := by decide +kernel
theorem dX12_cure_38 : decode cX12_cure 38 = .ok (.invokestatic 252, 3) := by decide +kernel
theorem dX12_cure_41 : decode cX12_cure 41 = .ok (.ifCond .eq 14, 3) := by decide +kernel
theorem dX12_cure_44 : decode cX12_cure 44 = .ok (.aload_n 0, 1) := by decide +kernel
theorem dX12_cure_45 : decode cX12_cure 45 = .ok (.iload_n 1, 1) := by decide +kernel
theorem dX12_cure_46 : decode cX12_cure 46 = .ok (.iload_n 3, 1) := by decide +kernel
theorem dX12_cure_47 : decode cX12_cure 47 = .ok (.invokevirtual 378, 3) := by decide +kernel
theorem dX12_cure_50 : decode cX12_cure 50 = .ok (.ifCond .ne 5, 3) := by decide +kernel
theorem dX12_cure_53 : decode cX12_cure 53 = .ok (.iload_n 3, 1) := by decide +kernel
theorem dX12_cure_54 : decode cX12_cure 54 = .ok (.istore_n 2, 1) := by decide +kernel
theorem dX12_cure_55 : decode cX12_cure 55 = .ok (.iinc 3 1, 3) := by decide +kernel
theorem dX12_cure_58 : decode cX12_cure 58 = .ok (.goto (-39), 3) := by decide +kernel
theorem dX12_cure_61 : decode cX12_cure 61 = .ok (.iload_n 2, 1) := by decide +kernel
theorem dX12_cure_62 : decode cX12_cure 62 = .ok (.ireturn, 1) := by decide +kernel
theorem dX12_burdenOf_0 : decode cX12_burdenOf 0 = .ok (.iconst 0, 1) := by decide +kernel
theorem dX12_burdenOf_1 : decode cX12_burdenOf 1 = .ok (.istore_n 3, 1) := by decide +kernel
theorem dX12_burdenOf_2 : decode cX12_burdenOf 2 = .ok (.iconst 0, 1) := by decide +kernel
theorem dX12_burdenOf_3 : decode cX12_burdenOf 3 = .ok (.istore 4, 2) := by decide +kernel
theorem dX12_burdenOf_5 : decode cX12_burdenOf 5 = .ok (.iload 4, 2) := by decide +kernel
theorem dX12_burdenOf_7 : decode cX12_burdenOf 7 = .ok (.aload_n 0, 1) := by decide +kernel
theorem dX12_burdenOf_8 : decode cX12_burdenOf 8 = .ok (.getfield 111, 3) := by decide +kernel
theorem dX12_burdenOf_11 : decode cX12_burdenOf 11 = .ok (.if_icmp .ge 37, 3) := by decide +kernel
theorem dX12_burdenOf_14 : decode cX12_burdenOf 14 = .ok (.iload_n 3, 1) := by decide +kernel
theorem dX12_burdenOf_15 : decode cX12_burdenOf 15 = .ok (.aload_n 0, 1) := by decide +kernel
theorem dX12_burdenOf_16 : decode cX12_burdenOf 16 = .ok (.iload_n 1, 1) := by decide +kernel
theorem dX12_burdenOf_17 : decode cX12_burdenOf 17 = .ok (.iconst 1, 1) := by decide +kernel
theorem dX12_burdenOf_18 : decode cX12_burdenOf 18 = .ok (.iload_n 2, 1) := by decide +kernel
theorem dX12_burdenOf_19 : decode cX12_burdenOf 19 = .ok (.ishl, 1) := by decide +kernel
theorem dX12_burdenOf_20 : decode cX12_burdenOf 20 = .ok (.iload 4, 2) := by decide +kernel
theorem dX12_burdenOf_22 : decode cX12_burdenOf 22 = .ok (.invokevirtual 375, 3) := by decide +kernel
theorem dX12_burdenOf_25 : decode cX12_burdenOf 25 = .ok (.aload_n 0, 1) := by decide +kernel
theorem dX12_burdenOf_26 : decode cX12_burdenOf 26 = .ok (.iload_n 1, 1) := by decide +kernel
theorem dX12_burdenOf_27 : decode cX12_burdenOf 27 = .ok (.iload 4, 2) := by decide +kernel
theorem dX12_burdenOf_29 : decode cX12_burdenOf 29 = .ok (.invokevirtual 239, 3) := by decide +kernel
theorem dX12_burdenOf_32 : decode cX12_burdenOf 32 = .ok (.if_icmp .eq 7, 3) := by decide +kernel
theorem dX12_burdenOf_35 : decode cX12_burdenOf 35 = .ok (.iconst 1, 1) := by decide +kernel
theorem dX12_burdenOf_36 : decode cX12_burdenOf 36 = .ok (.goto 4, 3) := by decide +kernel
theorem dX12_burdenOf_39 : decode cX12_burdenOf 39 = .ok (.iconst 0, 1) := by decide +kernel
theorem dX12_burdenOf_40 : decode cX12_burdenOf 40 = .ok (.iadd, 1) := by decide +kernel
theorem dX12_burdenOf_41 : decode cX12_burdenOf 41 = .ok (.istore_n 3, 1) := by decide +kernel
theorem dX12_burdenOf_42 : decode cX12_burdenOf 42 = .ok (.iinc 4 1, 3) := by decide +kernel
theorem dX12_burdenOf_45 : decode cX12_burdenOf 45 = .ok (.goto (-40), 3) := by decide +kernel
theorem dX12_burdenOf_48 : decode cX12_burdenOf 48 = .ok (.iload_n 3, 1) := by decide +kernel
theorem dX12_burdenOf_49 : decode cX12_burdenOf 49 = .ok (.ireturn, 1) := by decide +kernel
theorem dX12_burden_0 : decode cX12_burden 0 = .ok (.aload_n 0, 1) := by decide +kernel
theorem dX12_burden_1 : decode cX12_burden 1 = .ok (.iconst 0, 1) := by decide +kernel
theorem dX12_burden_2 : decode cX12_burden 2 = .ok (.putfield 114, 3) := by decide +kernel
theorem dX12_burden_5 : decode cX12_burden 5 = .ok (.aload_n 0, 1) := by decide +kernel
theorem dX12_burden_6 : decode cX12_burden 6 = .ok (.iload_n 1, 1) := by decide +kernel
theorem dX12_burden_7 : decode cX12_burden 7 = .ok (.invokevirtual 233, 3) := by decide +kernel
theorem dX12_burden_10 : decode cX12_burden 10 = .ok (.ifCond .eq 24, 3) := by decide +kernel
theorem dX12_burden_13 : decode cX12_burden 13 = .ok (.iload_n 2, 1) := by decide +kernel
theorem dX12_burden_14 : decode cX12_burden 14 = .ok (.iconst (-1), 1) := by decide +kernel
theorem dX12_burden_15 : decode cX12_burden 15 = .ok (.if_icmp .eq 21, 3) := by decide +kernel
theorem dX12_burden_18 : decode cX12_burden 18 = .ok (.iload_n 2, 1) := by decide +kernel
theorem dX12_burden_19 : decode cX12_burden 19 = .ok (.iconst 0, 1) := by decide +kernel
theorem dX12_burden_20 : decode cX12_burden 20 = .ok (.aload_n 0, 1) := by decide +kernel
theorem dX12_burden_21 : decode cX12_burden 21 = .ok (.getfield 35, 3) := by decide +kernel
theorem dX12_burden_24 : decode cX12_burden 24 = .ok (.iload_n 1, 1) := by decide +kernel
theorem dX12_burden_25 : decode cX12_burden 25 = .ok (.iaload, 1) := by decide +kernel
theorem dX12_burden_26 : decode cX12_burden 26 = .ok (.iconst 1, 1) := by decide +kernel
theorem dX12_burden_27 : decode cX12_burden 27 = .ok (.isub, 1) := by decide +kernel
theorem dX12_burden_28 : decode cX12_burden 28 = .ok (.invokestatic 209, 3) := by decide +kernel
theorem dX12_burden_31 : decode cX12_burden 31 = .ok (.ifCond .ne 5, 3) := by decide +kernel
theorem dX12_burden_34 : decode cX12_burden 34 = .ok (.iconst (-1), 1) := by decide +kernel
theorem dX12_burden_35 : decode cX12_burden 35 = .ok (.ireturn, 1) := by decide +kernel
theorem dX12_burden_36 : decode cX12_burden 36 = .ok (.iload_n 2, 1) := by decide +kernel
theorem dX12_burden_37 : decode cX12_burden 37 = .ok (.iconst (-1), 1) := by decide +kernel
theorem dX12_burden_38 : decode cX12_burden 38 = .ok (.if_icmp .eq 10, 3) := by decide +kernel
theorem dX12_burden_41 : decode cX12_burden 41 = .ok (.aload_n 0, 1) := by decide +kernel
theorem dX12_burden_42 : decode cX12_burden 42 = .ok (.iload_n 1, 1) := by decide +kernel
theorem dX12_burden_43 : decode cX12_burden 43 = .ok (.iload_n 2, 1) := by decide +kernel
theorem dX12_burden_44 : decode cX12_burden 44 = .ok (.invokevirtual 381, 3) := by decide +kernel
theorem dX12_burden_47 : decode cX12_burden 47 = .ok (.ireturn, 1) := by decide +kernel
theorem dX12_burden_48 : decode cX12_burden 48 = .ok (.iconst 0, 1) := by decide +kernel
theorem dX12_burden_49 : decode cX12_burden 49 = .ok (.istore_n 3, 1) := by decide +kernel
theorem dX12_burden_50 : decode cX12_burden 50 = .ok (.iconst 0, 1) := by decide +kernel
theorem dX12_burden_51 : decode cX12_burden 51 = .ok (.istore 4, 2) := by decide +kernel
theorem dX12_burden_53 : decode cX12_burden 53 = .ok (.iload 4, 2) := by decide +kernel
theorem dX12_burden_55 : decode cX12_burden 55 = .ok (.aload_n 0, 1) := by decide +kernel
theorem dX12_burden_56 : decode cX12_burden 56 = .ok (.getfield 35, 3) := by decide +kernel
theorem dX12_burden_59 : decode cX12_burden 59 = .ok (.iload_n 1, 1) := by decide +kernel
theorem dX12_burden_60 : decode cX12_burden 60 = .ok (.iaload, 1) := by decide +kernel
theorem dX12_burden_61 : decode cX12_burden 61 = .ok (.if_icmp .ge 30, 3) := by decide +kernel
theorem dX12_burden_64 : decode cX12_burden 64 = .ok (.iload_n 3, 1) := by decide +kernel
theorem dX12_burden_65 : decode cX12_burden 65 = .ok (.aload_n 0, 1) := by decide +kernel
theorem dX12_burden_66 : decode cX12_burden 66 = .ok (.iload_n 1, 1) := by decide +kernel
theorem dX12_burden_67 : decode cX12_burden 67 = .ok (.iload 4, 2) := by decide +kernel
theorem dX12_burden_69 : decode cX12_burden 69 = .ok (.invokevirtual 381, 3) := by decide +kernel
theorem dX12_burden_72 : decode cX12_burden 72 = .ok (.ifCond .ne 10, 3) := by decide +kernel
theorem dX12_burden_75 : decode cX12_burden 75 = .ok (.iconst 1, 1) := by decide +kernel
theorem dX12_burden_76 : decode cX12_burden 76 = .ok (.iload 4, 2) := by decide +kernel
theorem dX12_burden_78 : decode cX12_burden 78 = .ok (.ishl, 1) := by decide +kernel
theorem dX12_burden_79 : decode cX12_burden 79 = .ok (.goto 4, 3) := by decide +kernel
theorem dX12_burden_82 : decode cX12_burden 82 = .ok (.iconst 0, 1) := by decide +kernel
theorem dX12_burden_83 : decode cX12_burden 83 = .ok (.ior, 1) := by decide +kernel
theorem dX12_burden_84 : decode cX12_burden 84 = .ok (.istore_n 3, 1) := by decide +kernel
theorem dX12_burden_85 : decode cX12_burden 85 = .ok (.iinc 4 1, 3) := by decide +kernel
theorem dX12_burden_88 : decode cX12_burden 88 = .ok (.goto (-35), 3) := by decide +kernel
theorem dX12_burden_91 : decode cX12_burden 91 = .ok (.iload_n 3, 1) := by decide +kernel
theorem dX12_burden_92 : decode cX12_burden 92 = .ok (.ireturn, 1) := by decide +kernel
theorem dX12_casesOf_0 : decode cX12_casesOf 0 = .ok (.iconst 0, 1) := by decide +kernel
theorem dX12_casesOf_1 : decode cX12_casesOf 1 = .ok (.istore_n 3, 1) := by decide +kernel
theorem dX12_casesOf_2 : decode cX12_casesOf 2 = .ok (.iconst 0, 1) := by decide +kernel
theorem dX12_casesOf_3 : decode cX12_casesOf 3 = .ok (.istore 4, 2) := by decide +kernel
theorem dX12_casesOf_5 : decode cX12_casesOf 5 = .ok (.iload 4, 2) := by decide +kernel
theorem dX12_casesOf_7 : decode cX12_casesOf 7 = .ok (.aload_n 0, 1) := by decide +kernel
theorem dX12_casesOf_8 : decode cX12_casesOf 8 = .ok (.getfield 111, 3) := by decide +kernel
theorem dX12_casesOf_11 : decode cX12_casesOf 11 = .ok (.if_icmp .ge 28, 3) := by decide +kernel
theorem dX12_casesOf_14 : decode cX12_casesOf 14 = .ok (.iload_n 3, 1) := by decide +kernel
theorem dX12_casesOf_15 : decode cX12_casesOf 15 = .ok (.aload_n 0, 1) := by decide +kernel
theorem dX12_casesOf_16 : decode cX12_casesOf 16 = .ok (.iload_n 1, 1) := by decide +kernel
theorem dX12_casesOf_17 : decode cX12_casesOf 17 = .ok (.iload 4, 2) := by decide +kernel
theorem dX12_casesOf_19 : decode cX12_casesOf 19 = .ok (.invokevirtual 327, 3) := by decide +kernel
theorem dX12_casesOf_22 : decode cX12_casesOf 22 = .ok (.iload_n 2, 1) := by decide +kernel
theorem dX12_casesOf_23 : decode cX12_casesOf 23 = .ok (.if_icmp .ne 7, 3) := by decide +kernel
theorem dX12_casesOf_26 : decode cX12_casesOf 26 = .ok (.iconst 1, 1) := by decide +kernel
theorem dX12_casesOf_27 : decode cX12_casesOf 27 = .ok (.goto 4, 3) := by decide +kernel
theorem dX12_casesOf_30 : decode cX12_casesOf 30 = .ok (.iconst 0, 1) := by decide +kernel
theorem dX12_casesOf_31 : decode cX12_casesOf 31 = .ok (.iadd, 1) := by decide +kernel
theorem dX12_casesOf_32 : decode cX12_casesOf 32 = .ok (.istore_n 3, 1) := by decide +kernel
theorem dX12_casesOf_33 : decode cX12_casesOf 33 = .ok (.iinc 4 1, 3) := by decide +kernel
theorem dX12_casesOf_36 : decode cX12_casesOf 36 = .ok (.goto (-31), 3) := by decide +kernel
theorem dX12_casesOf_39 : decode cX12_casesOf 39 = .ok (.iload_n 3, 1) := by decide +kernel
theorem dX12_casesOf_40 : decode cX12_casesOf 40 = .ok (.ireturn, 1) := by decide +kernel
theorem dX12_toldBy_0 : decode cX12_toldBy 0 = .ok (.bipush (-2), 2) := by decide +kernel
theorem dX12_toldBy_2 : decode cX12_toldBy 2 = .ok (.istore 4, 2) := by decide +kernel
theorem dX12_toldBy_4 : decode cX12_toldBy 4 = .ok (.iconst 0, 1) := by decide +kernel
theorem dX12_toldBy_5 : decode cX12_toldBy 5 = .ok (.istore 5, 2) := by decide +kernel
theorem dX12_toldBy_7 : decode cX12_toldBy 7 = .ok (.iload 5, 2) := by decide +kernel
theorem dX12_toldBy_9 : decode cX12_toldBy 9 = .ok (.aload_n 0, 1) := by decide +kernel
theorem dX12_toldBy_10 : decode cX12_toldBy 10 = .ok (.getfield 111, 3) := by decide +kernel
theorem dX12_toldBy_13 : decode cX12_toldBy 13 = .ok (.if_icmp .ge 54, 3) := by decide +kernel
theorem dX12_toldBy_16 : decode cX12_toldBy 16 = .ok (.aload_n 0, 1) := by decide +kernel
theorem dX12_toldBy_17 : decode cX12_toldBy 17 = .ok (.iload_n 2, 1) := by decide +kernel
theorem dX12_toldBy_18 : decode cX12_toldBy 18 = .ok (.iload 5, 2) := by decide +kernel
theorem dX12_toldBy_20 : decode cX12_toldBy 20 = .ok (.invokevirtual 327, 3) := by decide +kernel
theorem dX12_toldBy_23 : decode cX12_toldBy 23 = .ok (.iload_n 3, 1) := by decide +kernel
theorem dX12_toldBy_24 : decode cX12_toldBy 24 = .ok (.if_icmp .eq 6, 3) := by decide +kernel
theorem dX12_toldBy_27 : decode cX12_toldBy 27 = .ok (.goto 34, 3) := by decide +kernel
theorem dX12_toldBy_30 : decode cX12_toldBy 30 = .ok (.iload 4, 2) := by decide +kernel
theorem dX12_toldBy_32 : decode cX12_toldBy 32 = .ok (.bipush (-2), 2) := by decide +kernel
theorem dX12_toldBy_34 : decode cX12_toldBy 34 = .ok (.if_icmp .eq 18, 3) := by decide +kernel
theorem dX12_toldBy_37 : decode cX12_toldBy 37 = .ok (.iload 4, 2) := by decide +kernel
theorem dX12_toldBy_39 : decode cX12_toldBy 39 = .ok (.aload_n 0, 1) := by decide +kernel
theorem dX12_toldBy_40 : decode cX12_toldBy 40 = .ok (.iload_n 1, 1) := by decide +kernel
theorem dX12_toldBy_41 : decode cX12_toldBy 41 = .ok (.iload 5, 2) := by decide +kernel
theorem dX12_toldBy_43 : decode cX12_toldBy 43 = .ok (.invokevirtual 239, 3) := by decide +kernel
theorem dX12_toldBy_46 : decode cX12_toldBy 46 = .ok (.if_icmp .eq 6, 3) := by decide +kernel
theorem dX12_toldBy_49 : decode cX12_toldBy 49 = .ok (.bipush (-2), 2) := by decide +kernel
theorem dX12_toldBy_51 : decode cX12_toldBy 51 = .ok (.ireturn, 1) := by decide +kernel
theorem dX12_toldBy_52 : decode cX12_toldBy 52 = .ok (.aload_n 0, 1) := by decide +kernel
theorem dX12_toldBy_53 : decode cX12_toldBy 53 = .ok (.iload_n 1, 1) := by decide +kernel
theorem dX12_toldBy_54 : decode cX12_toldBy 54 = .ok (.iload 5, 2) := by decide +kernel
theorem dX12_toldBy_56 : decode cX12_toldBy 56 = .ok (.invokevirtual 239, 3) := by decide +kernel
theorem dX12_toldBy_59 : decode cX12_toldBy 59 = .ok (.istore 4, 2) := by decide +kernel
theorem dX12_toldBy_61 : decode cX12_toldBy 61 = .ok (.iinc 5 1, 3) := by decide +kernel
theorem dX12_toldBy_64 : decode cX12_toldBy 64 = .ok (.goto (-57), 3) := by decide +kernel
theorem dX12_toldBy_67 : decode cX12_toldBy 67 = .ok (.iload 4, 2) := by decide +kernel
theorem dX12_toldBy_69 : decode cX12_toldBy 69 = .ok (.ireturn, 1) := by decide +kernel
theorem dX12_askNext_0 : decode cX12_askNext 0 = .ok (.iconst (-1), 1) := by decide +kernel
theorem dX12_askNext_1 : decode cX12_askNext 1 = .ok (.istore_n 3, 1) := by decide +kernel
theorem dX12_askNext_2 : decode cX12_askNext 2 = .ok (.iconst 0, 1) := by decide +kernel
theorem dX12_askNext_3 : decode cX12_askNext 3 = .ok (.istore 4, 2) := by decide +kernel
theorem dX12_askNext_5 : decode cX12_askNext 5 = .ok (.iconst 0, 1) := by decide +kernel
theorem dX12_askNext_6 : decode cX12_askNext 6 = .ok (.istore 5, 2) := by decide +kernel
theorem dX12_askNext_8 : decode cX12_askNext 8 = .ok (.iload 5, 2) := by decide +kernel
theorem dX12_askNext_10 : decode cX12_askNext 10 = .ok (.aload_n 0, 1) := by decide +kernel
theorem dX12_askNext_11 : decode cX12_askNext 11 = .ok (.getfield 219, 3) := by decide +kernel
theorem dX12_askNext_14 : decode cX12_askNext 14 = .ok (.if_icmp .ge 75, 3) := by decide +kernel
theorem dX12_askNext_17 : decode cX12_askNext 17 = .ok (.iload_n 1, 1) := by decide +kernel
theorem dX12_askNext_18 : decode cX12_askNext 18 = .ok (.iload 5, 2) := by decide +kernel
theorem dX12_askNext_20 : decode cX12_askNext 20 = .ok (.invokestatic 157, 3) := by decide +kernel
theorem dX12_askNext_23 : decode cX12_askNext 23 = .ok (.ifCond .eq 6, 3) := by decide +kernel
theorem dX12_askNext_26 : decode cX12_askNext 26 = .ok (.goto 57, 3) := by decide +kernel
theorem dX12_askNext_29 : decode cX12_askNext 29 = .ok (.aload_n 0, 1) := by decide +kernel
theorem dX12_askNext_30 : decode cX12_askNext 30 = .ok (.iload_n 1, 1) := by decide +kernel
theorem dX12_askNext_31 : decode cX12_askNext 31 = .ok (.iconst 1, 1) := by decide +kernel
theorem dX12_askNext_32 : decode cX12_askNext 32 = .ok (.iload 5, 2) := by decide +kernel
theorem dX12_askNext_34 : decode cX12_askNext 34 = .ok (.ishl, 1) := by decide +kernel
theorem dX12_askNext_35 : decode cX12_askNext 35 = .ok (.ior, 1) := by decide +kernel
theorem dX12_askNext_36 : decode cX12_askNext 36 = .ok (.iload_n 2, 1) := by decide +kernel
theorem dX12_askNext_37 : decode cX12_askNext 37 = .ok (.invokevirtual 384, 3) := by decide +kernel
theorem dX12_askNext_40 : decode cX12_askNext 40 = .ok (.aload_n 0, 1) := by decide +kernel
theorem dX12_askNext_41 : decode cX12_askNext 41 = .ok (.iload_n 1, 1) := by decide +kernel
theorem dX12_askNext_42 : decode cX12_askNext 42 = .ok (.iconst 1, 1) := by decide +kernel
theorem dX12_askNext_43 : decode cX12_askNext 43 = .ok (.iload 5, 2) := by decide +kernel
theorem dX12_askNext_45 : decode cX12_askNext 45 = .ok (.ishl, 1) := by decide +kernel
theorem dX12_askNext_46 : decode cX12_askNext 46 = .ok (.ior, 1) := by decide +kernel
theorem dX12_askNext_47 : decode cX12_askNext 47 = .ok (.iload_n 2, 1) := by decide +kernel
theorem dX12_askNext_48 : decode cX12_askNext 48 = .ok (.iconst 1, 1) := by decide +kernel
theorem dX12_askNext_49 : decode cX12_askNext 49 = .ok (.iload 5, 2) := by decide +kernel
theorem dX12_askNext_51 : decode cX12_askNext 51 = .ok (.ishl, 1) := by decide +kernel
theorem dX12_askNext_52 : decode cX12_askNext 52 = .ok (.ior, 1) := by decide +kernel
theorem dX12_askNext_53 : decode cX12_askNext 53 = .ok (.invokevirtual 384, 3) := by decide +kernel
theorem dX12_askNext_56 : decode cX12_askNext 56 = .ok (.invokestatic 104, 3) := by decide +kernel
theorem dX12_askNext_59 : decode cX12_askNext 59 = .ok (.istore 6, 2) := by decide +kernel
theorem dX12_askNext_61 : decode cX12_askNext 61 = .ok (.iload_n 3, 1) := by decide +kernel
theorem dX12_askNext_62 : decode cX12_askNext 62 = .ok (.iconst (-1), 1) := by decide +kernel
theorem dX12_askNext_63 : decode cX12_askNext 63 = .ok (.if_icmp .eq 13, 3) := by decide +kernel
theorem dX12_askNext_66 : decode cX12_askNext 66 = .ok (.iload 6, 2) := by decide +kernel
theorem dX12_askNext_68 : decode cX12_askNext 68 = .ok (.iload 4, 2) := by decide +kernel
theorem dX12_askNext_70 : decode cX12_askNext 70 = .ok (.if_icmp .lt 6, 3) := by decide +kernel
theorem dX12_askNext_73 : decode cX12_askNext 73 = .ok (.goto 10, 3) := by decide +kernel
theorem dX12_askNext_76 : decode cX12_askNext 76 = .ok (.iload 5, 2) := by decide +kernel
theorem dX12_askNext_78 : decode cX12_askNext 78 = .ok (.istore_n 3, 1) := by decide +kernel
theorem dX12_askNext_79 : decode cX12_askNext 79 = .ok (.iload 6, 2) := by decide +kernel
theorem dX12_askNext_81 : decode cX12_askNext 81 = .ok (.istore 4, 2) := by decide +kernel
theorem dX12_askNext_83 : decode cX12_askNext 83 = .ok (.iinc 5 1, 3) := by decide +kernel
theorem dX12_askNext_86 : decode cX12_askNext 86 = .ok (.goto (-78), 3) := by decide +kernel
theorem dX12_askNext_89 : decode cX12_askNext 89 = .ok (.iload_n 3, 1) := by decide +kernel
theorem dX12_askNext_90 : decode cX12_askNext 90 = .ok (.ireturn, 1) := by decide +kernel
theorem dX12_given_0 : decode cX12_given 0 = .ok (.aload_n 0, 1) := by decide +kernel
theorem dX12_given_1 : decode cX12_given 1 = .ok (.iconst 0, 1) := by decide +kernel
theorem dX12_given_2 : decode cX12_given 2 = .ok (.putfield 114, 3) := by decide +kernel
theorem dX12_given_5 : decode cX12_given 5 = .ok (.aload_n 0, 1) := by decide +kernel
theorem dX12_given_6 : decode cX12_given 6 = .ok (.iload_n 1, 1) := by decide +kernel
theorem dX12_given_7 : decode cX12_given 7 = .ok (.invokevirtual 233, 3) := by decide +kernel
theorem dX12_given_10 : decode cX12_given 10 = .ok (.ifCond .eq 39, 3) := by decide +kernel
theorem dX12_given_13 : decode cX12_given 13 = .ok (.iload_n 2, 1) := by decide +kernel
theorem dX12_given_14 : decode cX12_given 14 = .ok (.ifCond .lt 35, 3) := by decide +kernel
theorem dX12_given_17 : decode cX12_given 17 = .ok (.iload_n 2, 1) := by decide +kernel
theorem dX12_given_18 : decode cX12_given 18 = .ok (.iconst 1, 1) := by decide +kernel
theorem dX12_given_19 : decode cX12_given 19 = .ok (.aload_n 0, 1) := by decide +kernel
theorem dX12_given_20 : decode cX12_given 20 = .ok (.getfield 219, 3) := by decide +kernel
theorem dX12_given_23 : decode cX12_given 23 = .ok (.ishl, 1) := by decide +kernel
theorem dX12_given_24 : decode cX12_given 24 = .ok (.if_icmp .ge 25, 3) := by decide +kernel
theorem dX12_given_27 : decode cX12_given 27 = .ok (.iload_n 3, 1) := by decide +kernel
theorem dX12_given_28 : decode cX12_given 28 = .ok (.ifCond .lt 21, 3) := by decide +kernel
theorem dX12_given_31 : decode cX12_given 31 = .ok (.iload_n 3, 1) := by decide +kernel
theorem dX12_given_32 : decode cX12_given 32 = .ok (.iload_n 2, 1) := by decide +kernel
theorem dX12_given_33 : decode cX12_given 33 = .ok (.iconst (-1), 1) := by decide +kernel
theorem dX12_given_34 : decode cX12_given 34 = .ok (.ixor, 1) := by decide +kernel
theorem dX12_given_35 : decode cX12_given 35 = .ok (.iand, 1) := by decide +kernel
theorem dX12_given_36 : decode cX12_given 36 = .ok (.ifCond .ne 13, 3) := by decide +kernel
theorem dX12_given_39 : decode cX12_given 39 = .ok (.iload 4, 2) := by decide +kernel
theorem dX12_given_41 : decode cX12_given 41 = .ok (.iconst 0, 1) := by decide +kernel
theorem dX12_given_42 : decode cX12_given 42 = .ok (.iconst 2, 1) := by decide +kernel
theorem dX12_given_43 : decode cX12_given 43 = .ok (.invokestatic 209, 3) := by decide +kernel
theorem dX12_given_46 : decode cX12_given 46 = .ok (.ifCond .ne 6, 3) := by decide +kernel
theorem dX12_given_49 : decode cX12_given 49 = .ok (.bipush (-2), 2) := by decide +kernel
theorem dX12_given_51 : decode cX12_given 51 = .ok (.ireturn, 1) := by decide +kernel
theorem dX12_given_52 : decode cX12_given 52 = .ok (.iload 4, 2) := by decide +kernel
theorem dX12_given_54 : decode cX12_given 54 = .ok (.iconst 1, 1) := by decide +kernel
theorem dX12_given_55 : decode cX12_given 55 = .ok (.if_icmp .ne 10, 3) := by decide +kernel
theorem dX12_given_58 : decode cX12_given 58 = .ok (.aload_n 0, 1) := by decide +kernel
theorem dX12_given_59 : decode cX12_given 59 = .ok (.iload_n 2, 1) := by decide +kernel
theorem dX12_given_60 : decode cX12_given 60 = .ok (.iload_n 3, 1) := by decide +kernel
theorem dX12_given_61 : decode cX12_given 61 = .ok (.invokevirtual 384, 3) := by decide +kernel
theorem dX12_given_64 : decode cX12_given 64 = .ok (.ireturn, 1) := by decide +kernel
theorem dX12_given_65 : decode cX12_given 65 = .ok (.aload_n 0, 1) := by decide +kernel
theorem dX12_given_66 : decode cX12_given 66 = .ok (.iload_n 1, 1) := by decide +kernel
theorem dX12_given_67 : decode cX12_given 67 = .ok (.iload_n 2, 1) := by decide +kernel
theorem dX12_given_68 : decode cX12_given 68 = .ok (.iload_n 3, 1) := by decide +kernel
theorem dX12_given_69 : decode cX12_given 69 = .ok (.invokevirtual 387, 3) := by decide +kernel
theorem dX12_given_72 : decode cX12_given 72 = .ok (.istore 5, 2) := by decide +kernel
theorem dX12_given_74 : decode cX12_given 74 = .ok (.iload 4, 2) := by decide +kernel
theorem dX12_given_76 : decode cX12_given 76 = .ok (.ifCond .ne 6, 3) := by decide +kernel
theorem dX12_given_79 : decode cX12_given 79 = .ok (.iload 5, 2) := by decide +kernel
theorem dX12_given_81 : decode cX12_given 81 = .ok (.ireturn, 1) := by decide +kernel
theorem dX12_given_82 : decode cX12_given 82 = .ok (.iload 5, 2) := by decide +kernel
theorem dX12_given_84 : decode cX12_given 84 = .ok (.bipush (-2), 2) := by decide +kernel
theorem dX12_given_86 : decode cX12_given 86 = .ok (.if_icmp .ne 12, 3) := by decide +kernel
theorem dX12_given_89 : decode cX12_given 89 = .ok (.aload_n 0, 1) := by decide +kernel
theorem dX12_given_90 : decode cX12_given 90 = .ok (.iload_n 2, 1) := by decide +kernel
theorem dX12_given_91 : decode cX12_given 91 = .ok (.iload_n 3, 1) := by decide +kernel
theorem dX12_given_92 : decode cX12_given 92 = .ok (.invokevirtual 384, 3) := by decide +kernel
theorem dX12_given_95 : decode cX12_given 95 = .ok (.ifCond .ne 7, 3) := by decide +kernel
theorem dX12_given_98 : decode cX12_given 98 = .ok (.iconst (-1), 1) := by decide +kernel
theorem dX12_given_99 : decode cX12_given 99 = .ok (.goto 9, 3) := by decide +kernel
theorem dX12_given_102 : decode cX12_given 102 = .ok (.aload_n 0, 1) := by decide +kernel
theorem dX12_given_103 : decode cX12_given 103 = .ok (.iload_n 2, 1) := by decide +kernel
theorem dX12_given_104 : decode cX12_given 104 = .ok (.iload_n 3, 1) := by decide +kernel
theorem dX12_given_105 : decode cX12_given 105 = .ok (.invokevirtual 390, 3) := by decide +kernel
theorem dX12_given_108 : decode cX12_given 108 = .ok (.ireturn, 1) := by decide +kernel
theorem dX12_office_0 : decode cX12_office 0 = .ok (.aload_n 0, 1) := by decide +kernel
theorem dX12_office_1 : decode cX12_office 1 = .ok (.iconst 0, 1) := by decide +kernel
theorem dX12_office_2 : decode cX12_office 2 = .ok (.putfield 114, 3) := by decide +kernel
theorem dX12_office_5 : decode cX12_office 5 = .ok (.aload_n 0, 1) := by decide +kernel
theorem dX12_office_6 : decode cX12_office 6 = .ok (.iload_n 1, 1) := by decide +kernel
theorem dX12_office_7 : decode cX12_office 7 = .ok (.invokevirtual 233, 3) := by decide +kernel
theorem dX12_office_10 : decode cX12_office 10 = .ok (.ifCond .eq 24, 3) := by decide +kernel
theorem dX12_office_13 : decode cX12_office 13 = .ok (.aload_n 0, 1) := by decide +kernel
theorem dX12_office_14 : decode cX12_office 14 = .ok (.iload_n 2, 1) := by decide +kernel
theorem dX12_office_15 : decode cX12_office 15 = .ok (.invokevirtual 277, 3) := by decide +kernel
theorem dX12_office_18 : decode cX12_office 18 = .ok (.ifCond .eq 16, 3) := by decide +kernel
theorem dX12_office_21 : decode cX12_office 21 = .ok (.aload_n 0, 1) := by decide +kernel
theorem dX12_office_22 : decode cX12_office 22 = .ok (.iload_n 3, 1) := by decide +kernel
theorem dX12_office_23 : decode cX12_office 23 = .ok (.invokevirtual 277, 3) := by decide +kernel
theorem dX12_office_26 : decode cX12_office 26 = .ok (.ifCond .eq 8, 3) := by decide +kernel
theorem dX12_office_29 : decode cX12_office 29 = .ok (.iload_n 2, 1) := by decide +kernel
theorem dX12_office_30 : decode cX12_office 30 = .ok (.iload_n 3, 1) := by decide +kernel
theorem dX12_office_31 : decode cX12_office 31 = .ok (.if_icmp .ne 5, 3) := by decide +kernel
theorem dX12_office_34 : decode cX12_office 34 = .ok (.iconst (-1), 1) := by decide +kernel
theorem dX12_office_35 : decode cX12_office 35 = .ok (.ireturn, 1) := by decide +kernel
theorem dX12_office_36 : decode cX12_office 36 = .ok (.iconst 0, 1) := by decide +kernel
theorem dX12_office_37 : decode cX12_office 37 = .ok (.istore 4, 2) := by decide +kernel
theorem dX12_office_39 : decode cX12_office 39 = .ok (.iconst 0, 1) := by decide +kernel
theorem dX12_office_40 : decode cX12_office 40 = .ok (.istore 5, 2) := by decide +kernel
theorem dX12_office_42 : decode cX12_office 42 = .ok (.iload 5, 2) := by decide +kernel
theorem dX12_office_44 : decode cX12_office 44 = .ok (.aload_n 0, 1) := by decide +kernel
theorem dX12_office_45 : decode cX12_office 45 = .ok (.getfield 111, 3) := by decide +kernel
theorem dX12_office_48 : decode cX12_office 48 = .ok (.if_icmp .ge 59, 3) := by decide +kernel
theorem dX12_office_51 : decode cX12_office 51 = .ok (.iload 4, 2) := by decide +kernel
theorem dX12_office_53 : decode cX12_office 53 = .ok (.iload 5, 2) := by decide +kernel
theorem dX12_office_55 : decode cX12_office 55 = .ok (.iload_n 2, 1) := by decide +kernel
theorem dX12_office_56 : decode cX12_office 56 = .ok (.invokestatic 157, 3) := by decide +kernel
theorem dX12_office_59 : decode cX12_office 59 = .ok (.iload 5, 2) := by decide +kernel
theorem dX12_office_61 : decode cX12_office 61 = .ok (.iload_n 3, 1) := by decide +kernel
theorem dX12_office_62 : decode cX12_office 62 = .ok (.invokestatic 157, 3) := by decide +kernel
theorem dX12_office_65 : decode cX12_office 65 = .ok (.if_icmp .eq 32, 3) := by decide +kernel
theorem dX12_office_68 : decode cX12_office 68 = .ok (.aload_n 0, 1) := by decide +kernel
theorem dX12_office_69 : decode cX12_office 69 = .ok (.iload_n 1, 1) := by decide +kernel
theorem dX12_office_70 : decode cX12_office 70 = .ok (.iload 5, 2) := by decide +kernel
theorem dX12_office_72 : decode cX12_office 72 = .ok (.invokevirtual 239, 3) := by decide +kernel
theorem dX12_office_75 : decode cX12_office 75 = .ok (.aload_n 0, 1) := by decide +kernel
theorem dX12_office_76 : decode cX12_office 76 = .ok (.iload_n 1, 1) := by decide +kernel
theorem dX12_office_77 : decode cX12_office 77 = .ok (.iload 5, 2) := by decide +kernel
theorem dX12_office_79 : decode cX12_office 79 = .ok (.iconst 1, 1) := by decide +kernel
theorem dX12_office_80 : decode cX12_office 80 = .ok (.iload_n 2, 1) := by decide +kernel
theorem dX12_office_81 : decode cX12_office 81 = .ok (.ishl, 1) := by decide +kernel
theorem dX12_office_82 : decode cX12_office 82 = .ok (.ixor, 1) := by decide +kernel
theorem dX12_office_83 : decode cX12_office 83 = .ok (.iconst 1, 1) := by decide +kernel
theorem dX12_office_84 : decode cX12_office 84 = .ok (.iload_n 3, 1) := by decide +kernel
theorem dX12_office_85 : decode cX12_office 85 = .ok (.ishl, 1) := by decide +kernel
theorem dX12_office_86 : decode cX12_office 86 = .ok (.ixor, 1) := by decide +kernel
theorem dX12_office_87 : decode cX12_office 87 = .ok (.invokevirtual 239, 3) := by decide +kernel
theorem dX12_office_90 : decode cX12_office 90 = .ok (.if_icmp .eq 7, 3) := by decide +kernel
theorem dX12_office_93 : decode cX12_office 93 = .ok (.iconst 1, 1) := by decide +kernel
theorem dX12_office_94 : decode cX12_office 94 = .ok (.goto 4, 3) := by decide +kernel
theorem dX12_office_97 : decode cX12_office 97 = .ok (.iconst 0, 1) := by decide +kernel
theorem dX12_office_98 : decode cX12_office 98 = .ok (.iadd, 1) := by decide +kernel
theorem dX12_office_99 : decode cX12_office 99 = .ok (.istore 4, 2) := by decide +kernel
theorem dX12_office_101 : decode cX12_office 101 = .ok (.iinc 5 1, 3) := by decide +kernel
theorem dX12_office_104 : decode cX12_office 104 = .ok (.goto (-62), 3) := by decide +kernel
theorem dX12_office_107 : decode cX12_office 107 = .ok (.iload 4, 2) := by decide +kernel
theorem dX12_office_109 : decode cX12_office 109 = .ok (.ireturn, 1) := by decide +kernel
theorem dX12_shareOfSort_0 : decode cX12_shareOfSort 0 = .ok (.aload_n 0, 1) := by decide +kernel
theorem dX12_shareOfSort_1 : decode cX12_shareOfSort 1 = .ok (.getfield 57, 3) := by decide +kernel
theorem dX12_shareOfSort_4 : decode cX12_shareOfSort 4 = .ok (.iload_n 1, 1) := by decide +kernel
theorem dX12_shareOfSort_5 : decode cX12_shareOfSort 5 = .ok (.iaload, 1) := by decide +kernel
theorem dX12_shareOfSort_6 : decode cX12_shareOfSort 6 = .ok (.i2l, 1) := by decide +kernel
theorem dX12_shareOfSort_7 : decode cX12_shareOfSort 7 = .ok (.lstore_n 3, 1) := by decide +kernel
theorem dX12_shareOfSort_8 : decode cX12_shareOfSort 8 = .ok (.iconst 0, 1) := by decide +kernel
theorem dX12_shareOfSort_9 : decode cX12_shareOfSort 9 = .ok (.istore 5, 2) := by decide +kernel
theorem dX12_shareOfSort_11 : decode cX12_shareOfSort 11 = .ok (.iload 5, 2) := by decide +kernel
theorem dX12_shareOfSort_13 : decode cX12_shareOfSort 13 = .ok (.aload_n 0, 1) := by decide +kernel
theorem dX12_shareOfSort_14 : decode cX12_shareOfSort 14 = .ok (.getfield 107, 3) := by decide +kernel
theorem dX12_shareOfSort_17 : decode cX12_shareOfSort 17 = .ok (.if_icmp .ge 53, 3) := by decide +kernel
theorem dX12_shareOfSort_20 : decode cX12_shareOfSort 20 = .ok (.lload_n 3, 1) := by decide +kernel
theorem dX12_shareOfSort_21 : decode cX12_shareOfSort 21 = .ok (.iload_n 2, 1) := by decide +kernel
theorem dX12_shareOfSort_22 : decode cX12_shareOfSort 22 = .ok (.iload 5, 2) := by decide +kernel
theorem dX12_shareOfSort_24 : decode cX12_shareOfSort 24 = .ok (.invokestatic 157, 3) := by decide +kernel
theorem dX12_shareOfSort_27 : decode cX12_shareOfSort 27 = .ok (.ifCond .eq 19, 3) := by decide +kernel
theorem dX12_shareOfSort_30 : decode cX12_shareOfSort 30 = .ok (.aload_n 0, 1) := by decide +kernel
theorem dX12_shareOfSort_31 : decode cX12_shareOfSort 31 = .ok (.getfield 60, 3) := by decide +kernel
theorem dX12_shareOfSort_34 : decode cX12_shareOfSort 34 = .ok (.bipush 9, 2) := by decide +kernel
theorem dX12_shareOfSort_36 : decode cX12_shareOfSort 36 = .ok (.iload_n 1, 1) := by decide +kernel
theorem dX12_shareOfSort_37 : decode cX12_shareOfSort 37 = .ok (.imul, 1) := by decide +kernel
theorem dX12_shareOfSort_38 : decode cX12_shareOfSort 38 = .ok (.iload 5, 2) := by decide +kernel
theorem dX12_shareOfSort_40 : decode cX12_shareOfSort 40 = .ok (.iadd, 1) := by decide +kernel
theorem dX12_shareOfSort_41 : decode cX12_shareOfSort 41 = .ok (.iaload, 1) := by decide +kernel
theorem dX12_shareOfSort_42 : decode cX12_shareOfSort 42 = .ok (.i2l, 1) := by decide +kernel
theorem dX12_shareOfSort_43 : decode cX12_shareOfSort 43 = .ok (.goto 19, 3) := by decide +kernel
theorem dX12_shareOfSort_46 : decode cX12_shareOfSort 46 = .ok (.bipush 10, 2) := by decide +kernel
theorem dX12_shareOfSort_48 : decode cX12_shareOfSort 48 = .ok (.aload_n 0, 1) := by decide +kernel
theorem dX12_shareOfSort_49 : decode cX12_shareOfSort 49 = .ok (.getfield 60, 3) := by decide +kernel
theorem dX12_shareOfSort_52 : decode cX12_shareOfSort 52 = .ok (.bipush 9, 2) := by decide +kernel
theorem dX12_shareOfSort_54 : decode cX12_shareOfSort 54 = .ok (.iload_n 1, 1) := by decide +kernel
theorem dX12_shareOfSort_55 : decode cX12_shareOfSort 55 = .ok (.imul, 1) := by decide +kernel
theorem dX12_shareOfSort_56 : decode cX12_shareOfSort 56 = .ok (.iload 5, 2) := by decide +kernel
theorem dX12_shareOfSort_58 : decode cX12_shareOfSort 58 = .ok (.iadd, 1) := by decide +kernel
theorem dX12_shareOfSort_59 : decode cX12_shareOfSort 59 = .ok (.iaload, 1) := by decide +kernel
theorem dX12_shareOfSort_60 : decode cX12_shareOfSort 60 = .ok (.isub, 1) := by decide +kernel
theorem dX12_shareOfSort_61 : decode cX12_shareOfSort 61 = .ok (.i2l, 1) := by decide +kernel
theorem dX12_shareOfSort_62 : decode cX12_shareOfSort 62 = .ok (.lmul, 1) := by decide +kernel
theorem dX12_shareOfSort_63 : decode cX12_shareOfSort 63 = .ok (.lstore_n 3, 1) := by decide +kernel
theorem dX12_shareOfSort_64 : decode cX12_shareOfSort 64 = .ok (.iinc 5 1, 3) := by decide +kernel
theorem dX12_shareOfSort_67 : decode cX12_shareOfSort 67 = .ok (.goto (-56), 3) := by decide +kernel
theorem dX12_shareOfSort_70 : decode cX12_shareOfSort 70 = .ok (.lload_n 3, 1) := by decide +kernel
theorem dX12_shareOfSort_71 : decode cX12_shareOfSort 71 = .ok (.lreturn, 1) := by decide +kernel
theorem dX12_likely_0 : decode cX12_likely 0 = .ok (.aload_n 0, 1) := by decide +kernel
theorem dX12_likely_1 : decode cX12_likely 1 = .ok (.iconst 0, 1) := by decide +kernel
theorem dX12_likely_2 : decode cX12_likely 2 = .ok (.putfield 114, 3) := by decide +kernel
theorem dX12_likely_5 : decode cX12_likely 5 = .ok (.aload_n 0, 1) := by decide +kernel
theorem dX12_likely_6 : decode cX12_likely 6 = .ok (.iload_n 1, 1) := by decide +kernel
theorem dX12_likely_7 : decode cX12_likely 7 = .ok (.invokevirtual 233, 3) := by decide +kernel
theorem dX12_likely_10 : decode cX12_likely 10 = .ok (.ifCond .eq 29, 3) := by decide +kernel
theorem dX12_likely_13 : decode cX12_likely 13 = .ok (.iload_n 2, 1) := by decide +kernel
theorem dX12_likely_14 : decode cX12_likely 14 = .ok (.invokestatic 372, 3) := by decide +kernel
theorem dX12_likely_17 : decode cX12_likely 17 = .ok (.ifCond .eq 22, 3) := by decide +kernel
theorem dX12_likely_20 : decode cX12_likely 20 = .ok (.iload_n 3, 1) := by decide +kernel
theorem dX12_likely_21 : decode cX12_likely 21 = .ok (.iconst (-1), 1) := by decide +kernel
theorem dX12_likely_22 : decode cX12_likely 22 = .ok (.if_icmp .eq 21, 3) := by decide +kernel
theorem dX12_likely_25 : decode cX12_likely 25 = .ok (.iload_n 3, 1) := by decide +kernel
theorem dX12_likely_26 : decode cX12_likely 26 = .ok (.iconst 0, 1) := by decide +kernel
theorem dX12_likely_27 : decode cX12_likely 27 = .ok (.aload_n 0, 1) := by decide +kernel
theorem dX12_likely_28 : decode cX12_likely 28 = .ok (.getfield 280, 3) := by decide +kernel
theorem dX12_likely_31 : decode cX12_likely 31 = .ok (.iconst 1, 1) := by decide +kernel
theorem dX12_likely_32 : decode cX12_likely 32 = .ok (.isub, 1) := by decide +kernel
theorem dX12_likely_33 : decode cX12_likely 33 = .ok (.invokestatic 209, 3) := by decide +kernel
theorem dX12_likely_36 : decode cX12_likely 36 = .ok (.ifCond .ne 7, 3) := by decide +kernel
theorem dX12_likely_39 : decode cX12_likely 39 = .ok (.ldc2_w 289, 3) := by decide +kernel
theorem dX12_likely_42 : decode cX12_likely 42 = .ok (.lreturn, 1) := by decide +kernel
theorem dX12_likely_43 : decode cX12_likely 43 = .ok (.lconst 0, 1) := by decide +kernel
theorem dX12_likely_44 : decode cX12_likely 44 = .ok (.lstore 4, 2) := by decide +kernel
theorem dX12_likely_46 : decode cX12_likely 46 = .ok (.iconst 0, 1) := by decide +kernel
theorem dX12_likely_47 : decode cX12_likely 47 = .ok (.istore 6, 2) := by decide +kernel
theorem dX12_likely_49 : decode cX12_likely 49 = .ok (.iload 6, 2) := by decide +kernel
theorem dX12_likely_51 : decode cX12_likely 51 = .ok (.aload_n 0, 1) := by decide +kernel
theorem dX12_likely_52 : decode cX12_likely 52 = .ok (.getfield 111, 3) := by decide +kernel
theorem dX12_likely_55 : decode cX12_likely 55 = .ok (.if_icmp .ge 52, 3) := by decide +kernel
theorem dX12_likely_58 : decode cX12_likely 58 = .ok (.aload_n 0, 1) := by decide +kernel
theorem dX12_likely_59 : decode cX12_likely 59 = .ok (.iload_n 1, 1) := by decide +kernel
theorem dX12_likely_60 : decode cX12_likely 60 = .ok (.iload 6, 2) := by decide +kernel
theorem dX12_likely_62 : decode cX12_likely 62 = .ok (.invokevirtual 239, 3) := by decide +kernel
theorem dX12_likely_65 : decode cX12_likely 65 = .ok (.iload_n 2, 1) := by decide +kernel
theorem dX12_likely_66 : decode cX12_likely 66 = .ok (.if_icmp .ne 35, 3) := by decide +kernel
theorem dX12_likely_69 : decode cX12_likely 69 = .ok (.lload 4, 2) := by decide +kernel
theorem dX12_likely_71 : decode cX12_likely 71 = .ok (.iload_n 3, 1) := by decide +kernel
theorem dX12_likely_72 : decode cX12_likely 72 = .ok (.iconst (-1), 1) := by decide +kernel
theorem dX12_likely_73 : decode cX12_likely 73 = .ok (.if_icmp .ne 18, 3) := by decide +kernel
theorem dX12_likely_76 : decode cX12_likely 76 = .ok (.aload_n 0, 1) := by decide +kernel
theorem dX12_likely_77 : decode cX12_likely 77 = .ok (.aload_n 0, 1) := by decide +kernel
theorem dX12_likely_78 : decode cX12_likely 78 = .ok (.getfield 111, 3) := by decide +kernel
theorem dX12_likely_81 : decode cX12_likely 81 = .ok (.iconst 1, 1) := by decide +kernel
theorem dX12_likely_82 : decode cX12_likely 82 = .ok (.isub, 1) := by decide +kernel
theorem dX12_likely_83 : decode cX12_likely 83 = .ok (.iload 6, 2) := by decide +kernel
theorem dX12_likely_85 : decode cX12_likely 85 = .ok (.invokevirtual 285, 3) := by decide +kernel
theorem dX12_likely_88 : decode cX12_likely 88 = .ok (.goto 10, 3) := by decide +kernel
theorem dX12_likely_91 : decode cX12_likely 91 = .ok (.aload_n 0, 1) := by decide +kernel
theorem dX12_likely_92 : decode cX12_likely 92 = .ok (.iload_n 3, 1) := by decide +kernel
theorem dX12_likely_93 : decode cX12_likely 93 = .ok (.iload 6, 2) := by decide +kernel
theorem dX12_likely_95 : decode cX12_likely 95 = .ok (.invokevirtual 393, 3) := by decide +kernel
theorem dX12_likely_98 : decode cX12_likely 98 = .ok (.ladd, 1) := by decide +kernel
theorem dX12_likely_99 : decode cX12_likely 99 = .ok (.lstore 4, 2) := by decide +kernel
theorem dX12_likely_101 : decode cX12_likely 101 = .ok (.iinc 6 1, 3) := by decide +kernel
theorem dX12_likely_104 : decode cX12_likely 104 = .ok (.goto (-55), 3) := by decide +kernel
theorem dX12_likely_107 : decode cX12_likely 107 = .ok (.lload 4, 2) := by decide +kernel
theorem dX12_likely_109 : decode cX12_likely 109 = .ok (.lreturn, 1) := by decide +kernel
theorem dX12_mattersYet_0 : decode cX12_mattersYet 0 = .ok (.iconst 0, 1) := by decide +kernel
theorem dX12_mattersYet_1 : decode cX12_mattersYet 1 = .ok (.istore 5, 2) := by decide +kernel
theorem dX12_mattersYet_3 : decode cX12_mattersYet 3 = .ok (.iload 5, 2) := by decide +kernel
theorem dX12_mattersYet_5 : decode cX12_mattersYet 5 = .ok (.aload_n 0, 1) := by decide +kernel
theorem dX12_mattersYet_6 : decode cX12_mattersYet 6 = .ok (.getfield 111, 3) := by decide +kernel
theorem dX12_mattersYet_9 : decode cX12_mattersYet 9 = .ok (.if_icmp .ge 41, 3) := by decide +kernel
theorem dX12_mattersYet_12 : decode cX12_mattersYet 12 = .ok (.iload 5, 2) := by decide +kernel
theorem dX12_mattersYet_14 : decode cX12_mattersYet 14 = .ok (.iload_n 2, 1) := by decide +kernel
theorem dX12_mattersYet_15 : decode cX12_mattersYet 15 = .ok (.iand, 1) := by decide +kernel
theorem dX12_mattersYet_16 : decode cX12_mattersYet 16 = .ok (.iload_n 3, 1) := by decide +kernel
theorem dX12_mattersYet_17 : decode cX12_mattersYet 17 = .ok (.if_icmp .ne 27, 3) := by decide +kernel
theorem dX12_mattersYet_20 : decode cX12_mattersYet 20 = .ok (.aload_n 0, 1) := by decide +kernel
theorem dX12_mattersYet_21 : decode cX12_mattersYet 21 = .ok (.iload_n 1, 1) := by decide +kernel
theorem dX12_mattersYet_22 : decode cX12_mattersYet 22 = .ok (.iload 5, 2) := by decide +kernel
theorem dX12_mattersYet_24 : decode cX12_mattersYet 24 = .ok (.invokevirtual 239, 3) := by decide +kernel
theorem dX12_mattersYet_27 : decode cX12_mattersYet 27 = .ok (.aload_n 0, 1) := by decide +kernel
theorem dX12_mattersYet_28 : decode cX12_mattersYet 28 = .ok (.iload_n 1, 1) := by decide +kernel
theorem dX12_mattersYet_29 : decode cX12_mattersYet 29 = .ok (.iload 5, 2) := by decide +kernel
theorem dX12_mattersYet_31 : decode cX12_mattersYet 31 = .ok (.iconst 1, 1) := by decide +kernel
theorem dX12_mattersYet_32 : decode cX12_mattersYet 32 = .ok (.iload 4, 2) := by decide +kernel
theorem dX12_mattersYet_34 : decode cX12_mattersYet 34 = .ok (.ishl, 1) := by decide +kernel
theorem dX12_mattersYet_35 : decode cX12_mattersYet 35 = .ok (.ixor, 1) := by decide +kernel
theorem dX12_mattersYet_36 : decode cX12_mattersYet 36 = .ok (.invokevirtual 239, 3) := by decide +kernel
theorem dX12_mattersYet_39 : decode cX12_mattersYet 39 = .ok (.if_icmp .eq 5, 3) := by decide +kernel
theorem dX12_mattersYet_42 : decode cX12_mattersYet 42 = .ok (.iconst 1, 1) := by decide +kernel
theorem dX12_mattersYet_43 : decode cX12_mattersYet 43 = .ok (.ireturn, 1) := by decide +kernel
theorem dX12_mattersYet_44 : decode cX12_mattersYet 44 = .ok (.iinc 5 1, 3) := by decide +kernel
theorem dX12_mattersYet_47 : decode cX12_mattersYet 47 = .ok (.goto (-44), 3) := by decide +kernel
theorem dX12_mattersYet_50 : decode cX12_mattersYet 50 = .ok (.iconst 0, 1) := by decide +kernel
theorem dX12_mattersYet_51 : decode cX12_mattersYet 51 = .ok (.ireturn, 1) := by decide +kernel
theorem dX12_askedOn_0 : decode cX12_askedOn 0 = .ok (.iconst 0, 1) := by decide +kernel
theorem dX12_askedOn_1 : decode cX12_askedOn 1 = .ok (.istore_n 3, 1) := by decide +kernel
theorem dX12_askedOn_2 : decode cX12_askedOn 2 = .ok (.iconst 0, 1) := by decide +kernel
theorem dX12_askedOn_3 : decode cX12_askedOn 3 = .ok (.istore 4, 2) := by decide +kernel
theorem dX12_askedOn_5 : decode cX12_askedOn 5 = .ok (.iload 4, 2) := by decide +kernel
theorem dX12_askedOn_7 : decode cX12_askedOn 7 = .ok (.aload_n 0, 1) := by decide +kernel
theorem dX12_askedOn_8 : decode cX12_askedOn 8 = .ok (.getfield 107, 3) := by decide +kernel
theorem dX12_askedOn_11 : decode cX12_askedOn 11 = .ok (.if_icmp .ge 40, 3) := by decide +kernel
theorem dX12_askedOn_14 : decode cX12_askedOn 14 = .ok (.aload_n 0, 1) := by decide +kernel
theorem dX12_askedOn_15 : decode cX12_askedOn 15 = .ok (.iload_n 1, 1) := by decide +kernel
theorem dX12_askedOn_16 : decode cX12_askedOn 16 = .ok (.iload_n 3, 1) := by decide +kernel
theorem dX12_askedOn_17 : decode cX12_askedOn 17 = .ok (.iload_n 2, 1) := by decide +kernel
theorem dX12_askedOn_18 : decode cX12_askedOn 18 = .ok (.iload_n 3, 1) := by decide +kernel
theorem dX12_askedOn_19 : decode cX12_askedOn 19 = .ok (.iand, 1) := by decide +kernel
theorem dX12_askedOn_20 : decode cX12_askedOn 20 = .ok (.aload_n 0, 1) := by decide +kernel
theorem dX12_askedOn_21 : decode cX12_askedOn 21 = .ok (.getfield 80, 3) := by decide +kernel
theorem dX12_askedOn_24 : decode cX12_askedOn 24 = .ok (.iload 4, 2) := by decide +kernel
theorem dX12_askedOn_26 : decode cX12_askedOn 26 = .ok (.iaload, 1) := by decide +kernel
theorem dX12_askedOn_27 : decode cX12_askedOn 27 = .ok (.invokevirtual 396, 3) := by decide +kernel
theorem dX12_askedOn_30 : decode cX12_askedOn 30 = .ok (.ifCond .eq 15, 3) := by decide +kernel
theorem dX12_askedOn_33 : decode cX12_askedOn 33 = .ok (.iload_n 3, 1) := by decide +kernel
theorem dX12_askedOn_34 : decode cX12_askedOn 34 = .ok (.iconst 1, 1) := by decide +kernel
theorem dX12_askedOn_35 : decode cX12_askedOn 35 = .ok (.aload_n 0, 1) := by decide +kernel
theorem dX12_askedOn_36 : decode cX12_askedOn 36 = .ok (.getfield 80, 3) := by decide +kernel
theorem dX12_askedOn_39 : decode cX12_askedOn 39 = .ok (.iload 4, 2) := by decide +kernel
theorem dX12_askedOn_41 : decode cX12_askedOn 41 = .ok (.iaload, 1) := by decide +kernel
theorem dX12_askedOn_42 : decode cX12_askedOn 42 = .ok (.ishl, 1) := by decide +kernel
theorem dX12_askedOn_43 : decode cX12_askedOn 43 = .ok (.ior, 1) := by decide +kernel
theorem dX12_askedOn_44 : decode cX12_askedOn 44 = .ok (.istore_n 3, 1) := by decide +kernel
theorem dX12_askedOn_45 : decode cX12_askedOn 45 = .ok (.iinc 4 1, 3) := by decide +kernel
theorem dX12_askedOn_48 : decode cX12_askedOn 48 = .ok (.goto (-43), 3) := by decide +kernel
theorem dX12_askedOn_51 : decode cX12_askedOn 51 = .ok (.iload_n 3, 1) := by decide +kernel
theorem dX12_askedOn_52 : decode cX12_askedOn 52 = .ok (.ireturn, 1) := by decide +kernel
theorem dX12_straight_0 : decode cX12_straight 0 = .ok (.aload_n 0, 1) := by decide +kernel
theorem dX12_straight_1 : decode cX12_straight 1 = .ok (.iconst 0, 1) := by decide +kernel
theorem dX12_straight_2 : decode cX12_straight 2 = .ok (.putfield 114, 3) := by decide +kernel
theorem dX12_straight_5 : decode cX12_straight 5 = .ok (.aload_n 0, 1) := by decide +kernel
theorem dX12_straight_6 : decode cX12_straight 6 = .ok (.iload_n 1, 1) := by decide +kernel
theorem dX12_straight_7 : decode cX12_straight 7 = .ok (.invokevirtual 233, 3) := by decide +kernel
theorem dX12_straight_10 : decode cX12_straight 10 = .ok (.ifCond .eq 24, 3) := by decide +kernel
theorem dX12_straight_13 : decode cX12_straight 13 = .ok (.iload_n 3, 1) := by decide +kernel
theorem dX12_straight_14 : decode cX12_straight 14 = .ok (.iconst (-1), 1) := by decide +kernel
theorem dX12_straight_15 : decode cX12_straight 15 = .ok (.if_icmp .eq 11, 3) := by decide +kernel
theorem dX12_straight_18 : decode cX12_straight 18 = .ok (.aload_n 0, 1) := by decide +kernel
theorem dX12_straight_19 : decode cX12_straight 19 = .ok (.iload_n 3, 1) := by decide +kernel
theorem dX12_straight_20 : decode cX12_straight 20 = .ok (.invokevirtual 236, 3) := by decide +kernel
theorem dX12_straight_23 : decode cX12_straight 23 = .ok (.ifCond .eq 11, 3) := by decide +kernel
theorem dX12_straight_26 : decode cX12_straight 26 = .ok (.aload_n 0, 1) := by decide +kernel
theorem dX12_straight_27 : decode cX12_straight 27 = .ok (.iload_n 2, 1) := by decide +kernel
theorem dX12_straight_28 : decode cX12_straight 28 = .ok (.invokevirtual 362, 3) := by decide +kernel
theorem dX12_straight_31 : decode cX12_straight 31 = .ok (.ifCond .ne 5, 3) := by decide +kernel
theorem dX12_straight_34 : decode cX12_straight 34 = .ok (.iconst (-1), 1) := by decide +kernel
theorem dX12_straight_35 : decode cX12_straight 35 = .ok (.ireturn, 1) := by decide +kernel
theorem dX12_straight_36 : decode cX12_straight 36 = .ok (.iload_n 3, 1) := by decide +kernel
theorem dX12_straight_37 : decode cX12_straight 37 = .ok (.iconst (-1), 1) := by decide +kernel
theorem dX12_straight_38 : decode cX12_straight 38 = .ok (.if_icmp .eq 13, 3) := by decide +kernel
theorem dX12_straight_41 : decode cX12_straight 41 = .ok (.aload_n 0, 1) := by decide +kernel
theorem dX12_straight_42 : decode cX12_straight 42 = .ok (.iload_n 1, 1) := by decide +kernel
theorem dX12_straight_43 : decode cX12_straight 43 = .ok (.iload_n 3, 1) := by decide +kernel
theorem dX12_straight_44 : decode cX12_straight 44 = .ok (.invokevirtual 399, 3) := by decide +kernel
theorem dX12_straight_47 : decode cX12_straight 47 = .ok (.invokestatic 117, 3) := by decide +kernel
theorem dX12_straight_50 : decode cX12_straight 50 = .ok (.ireturn, 1) := by decide +kernel
theorem dX12_straight_51 : decode cX12_straight 51 = .ok (.iconst 0, 1) := by decide +kernel
theorem dX12_straight_52 : decode cX12_straight 52 = .ok (.istore 4, 2) := by decide +kernel
theorem dX12_straight_54 : decode cX12_straight 54 = .ok (.iconst 0, 1) := by decide +kernel
theorem dX12_straight_55 : decode cX12_straight 55 = .ok (.istore 5, 2) := by decide +kernel
theorem dX12_straight_57 : decode cX12_straight 57 = .ok (.iload 5, 2) := by decide +kernel
theorem dX12_straight_59 : decode cX12_straight 59 = .ok (.aload_n 0, 1) := by decide +kernel
theorem dX12_straight_60 : decode cX12_straight 60 = .ok (.getfield 111, 3) := by decide +kernel
theorem dX12_straight_63 : decode cX12_straight 63 = .ok (.if_icmp .ge 74, 3) := by decide +kernel
theorem dX12_straight_66 : decode cX12_straight 66 = .ok (.aload_n 0, 1) := by decide +kernel
theorem dX12_straight_67 : decode cX12_straight 67 = .ok (.iload_n 1, 1) := by decide +kernel
theorem dX12_straight_68 : decode cX12_straight 68 = .ok (.iload 5, 2) := by decide +kernel
theorem dX12_straight_70 : decode cX12_straight 70 = .ok (.invokevirtual 399, 3) := by decide +kernel
theorem dX12_straight_73 : decode cX12_straight 73 = .ok (.istore 6, 2) := by decide +kernel
theorem dX12_straight_75 : decode cX12_straight 75 = .ok (.iconst 0, 1) := by decide +kernel
theorem dX12_straight_76 : decode cX12_straight 76 = .ok (.istore 7, 2) := by decide +kernel
theorem dX12_straight_78 : decode cX12_straight 78 = .ok (.iconst 0, 1) := by decide +kernel
theorem dX12_straight_79 : decode cX12_straight 79 = .ok (.istore 8, 2) := by decide +kernel
theorem dX12_straight_81 : decode cX12_straight 81 = .ok (.iload 8, 2) := by decide +kernel
theorem dX12_straight_83 : decode cX12_straight 83 = .ok (.aload_n 0, 1) := by decide +kernel
theorem dX12_straight_84 : decode cX12_straight 84 = .ok (.getfield 107, 3) := by decide +kernel
theorem dX12_straight_87 : decode cX12_straight 87 = .ok (.if_icmp .ge 35, 3) := by decide +kernel
theorem dX12_straight_90 : decode cX12_straight 90 = .ok (.iload 7, 2) := by decide +kernel
theorem dX12_straight_92 : decode cX12_straight 92 = .ok (.iload 6, 2) := by decide +kernel
theorem dX12_straight_94 : decode cX12_straight 94 = .ok (.iload 8, 2) := by decide +kernel
theorem dX12_straight_96 : decode cX12_straight 96 = .ok (.invokestatic 157, 3) := by decide +kernel
theorem dX12_straight_99 : decode cX12_straight 99 = .ok (.ifCond .eq 13, 3) := by decide +kernel
theorem dX12_straight_102 : decode cX12_straight 102 = .ok (.aload_n 0, 1) := by decide +kernel
theorem dX12_straight_103 : decode cX12_straight 103 = .ok (.getfield 41, 3) := by decide +kernel
theorem dX12_straight_106 : decode cX12_straight 106 = .ok (.iload 8, 2) := by decide +kernel
theorem dX12_straight_108 : decode cX12_straight 108 = .ok (.iaload, 1) := by decide +kernel
theorem dX12_straight_109 : decode cX12_straight 109 = .ok (.goto 4, 3) := by decide +kernel
theorem dX12_straight_112 : decode cX12_straight 112 = .ok (.iconst 0, 1) := by decide +kernel
theorem dX12_straight_113 : decode cX12_straight 113 = .ok (.iadd, 1) := by decide +kernel
theorem dX12_straight_114 : decode cX12_straight 114 = .ok (.istore 7, 2) := by decide +kernel
theorem dX12_straight_116 : decode cX12_straight 116 = .ok (.iinc 8 1, 3) := by decide +kernel
theorem dX12_straight_119 : decode cX12_straight 119 = .ok (.goto (-38), 3) := by decide +kernel
theorem dX12_straight_122 : decode cX12_straight 122 = .ok (.iload 4, 2) := by decide +kernel
theorem dX12_straight_124 : decode cX12_straight 124 = .ok (.iload 7, 2) := by decide +kernel
theorem dX12_straight_126 : decode cX12_straight 126 = .ok (.invokestatic 104, 3) := by decide +kernel
theorem dX12_straight_129 : decode cX12_straight 129 = .ok (.istore 4, 2) := by decide +kernel
theorem dX12_straight_131 : decode cX12_straight 131 = .ok (.iinc 5 1, 3) := by decide +kernel
theorem dX12_straight_134 : decode cX12_straight 134 = .ok (.goto (-77), 3) := by decide +kernel
theorem dX12_straight_137 : decode cX12_straight 137 = .ok (.iload 4, 2) := by decide +kernel
theorem dX12_straight_139 : decode cX12_straight 139 = .ok (.ireturn, 1) := by decide +kernel
theorem dX12_count_0 : decode cX12_count 0 = .ok (.aload_n 0, 1) := by decide +kernel
theorem dX12_count_1 : decode cX12_count 1 = .ok (.iconst 0, 1) := by decide +kernel
theorem dX12_count_2 : decode cX12_count 2 = .ok (.putfield 114, 3) := by decide +kernel
theorem dX12_count_5 : decode cX12_count 5 = .ok (.iload_n 1, 1) := by decide +kernel
theorem dX12_count_6 : decode cX12_count 6 = .ok (.tableswitch 77 0 6 #[42, 47, 52, 57, 62, 67, 72], 42) := by decide +kernel
theorem dX12_count_48 : decode cX12_count 48 = .ok (.aload_n 0, 1) := by decide +kernel
theorem dX12_count_49 : decode cX12_count 49 = .ok (.getfield 216, 3) := by decide +kernel
theorem dX12_count_52 : decode cX12_count 52 = .ok (.ireturn, 1) := by decide +kernel
theorem dX12_count_53 : decode cX12_count 53 = .ok (.aload_n 0, 1) := by decide +kernel
theorem dX12_count_54 : decode cX12_count 54 = .ok (.getfield 219, 3) := by decide +kernel
theorem dX12_count_57 : decode cX12_count 57 = .ok (.ireturn, 1) := by decide +kernel
theorem dX12_count_58 : decode cX12_count 58 = .ok (.aload_n 0, 1) := by decide +kernel
theorem dX12_count_59 : decode cX12_count 59 = .ok (.getfield 222, 3) := by decide +kernel
theorem dX12_count_62 : decode cX12_count 62 = .ok (.ireturn, 1) := by decide +kernel
theorem dX12_count_63 : decode cX12_count 63 = .ok (.aload_n 0, 1) := by decide +kernel
theorem dX12_count_64 : decode cX12_count 64 = .ok (.getfield 280, 3) := by decide +kernel
theorem dX12_count_67 : decode cX12_count 67 = .ok (.ireturn, 1) := by decide +kernel
theorem dX12_count_68 : decode cX12_count 68 = .ok (.aload_n 0, 1) := by decide +kernel
theorem dX12_count_69 : decode cX12_count 69 = .ok (.getfield 107, 3) := by decide +kernel
theorem dX12_count_72 : decode cX12_count 72 = .ok (.ireturn, 1) := by decide +kernel
theorem dX12_count_73 : decode cX12_count 73 = .ok (.aload_n 0, 1) := by decide +kernel
theorem dX12_count_74 : decode cX12_count 74 = .ok (.getfield 123, 3) := by decide +kernel
theorem dX12_count_77 : decode cX12_count 77 = .ok (.ireturn, 1) := by decide +kernel
theorem dX12_count_78 : decode cX12_count 78 = .ok (.aload_n 0, 1) := by decide +kernel
theorem dX12_count_79 : decode cX12_count 79 = .ok (.getfield 369, 3) := by decide +kernel
theorem dX12_count_82 : decode cX12_count 82 = .ok (.ireturn, 1) := by decide +kernel
theorem dX12_count_83 : decode cX12_count 83 = .ok (.iconst (-1), 1) := by decide +kernel
theorem dX12_count_84 : decode cX12_count 84 = .ok (.ireturn, 1) := by decide +kernel
