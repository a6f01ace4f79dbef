theorem dX7_send_27 : decode cX7_send 27 = .ok (.iload 4, 2) := by decide +kernel
theorem dX7_send_29 : decode cX7_send 29 = .ok (.ldc 111, 2) := by decide +kernel
theorem dX7_send_31 : decode cX7_send 31 = .ok (.if_icmp .gt 12, 3) := by decide +kernel
theorem dX7_send_34 : decode cX7_send 34 = .ok (.aload_n 0, 1) := by decide +kernel
theorem dX7_send_35 : decode cX7_send 35 = .ok (.getfield 93, 3) := by decide +kernel
theorem dX7_send_38 : decode cX7_send 38 = .ok (.bipush 40, 2) := by decide +kernel
theorem dX7_send_40 : decode cX7_send 40 = .ok (.if_icmp .le 5, 3) := by decide +kernel
theorem dX7_send_43 : decode cX7_send 43 = .ok (.iconst (-1), 1) := by decide +kernel
theorem dX7_send_44 : decode cX7_send 44 = .ok (.ireturn, 1) := by decide +kernel
theorem dX7_send_45 : decode cX7_send 45 = .ok (.aload_n 0, 1) := by decide +kernel
theorem dX7_send_46 : decode cX7_send 46 = .ok (.getfield 7, 3) := by decide +kernel
theorem dX7_send_49 : decode cX7_send 49 = .ok (.iload_n 1, 1) := by decide +kernel
theorem dX7_send_50 : decode cX7_send 50 = .ok (.iaload, 1) := by decide +kernel
theorem dX7_send_51 : decode cX7_send 51 = .ok (.istore 5, 2) := by decide +kernel
theorem dX7_send_53 : decode cX7_send 53 = .ok (.aload_n 0, 1) := by decide +kernel
theorem dX7_send_54 : decode cX7_send 54 = .ok (.getfield 13, 3) := by decide +kernel
theorem dX7_send_57 : decode cX7_send 57 = .ok (.iload_n 1, 1) := by decide +kernel
theorem dX7_send_58 : decode cX7_send 58 = .ok (.iaload, 1) := by decide +kernel
theorem dX7_send_59 : decode cX7_send 59 = .ok (.istore 6, 2) := by decide +kernel
theorem dX7_send_61 : decode cX7_send 61 = .ok (.ldc2_w 133, 3) := by decide +kernel
theorem dX7_send_64 : decode cX7_send 64 = .ok (.aload_n 0, 1) := by decide +kernel
theorem dX7_send_65 : decode cX7_send 65 = .ok (.getfield 16, 3) := by decide +kernel
theorem dX7_send_68 : decode cX7_send 68 = .ok (.iload_n 1, 1) := by decide +kernel
theorem dX7_send_69 : decode cX7_send 69 = .ok (.iaload, 1) := by decide +kernel
theorem dX7_send_70 : decode cX7_send 70 = .ok (.i2l, 1) := by decide +kernel
theorem dX7_send_71 : decode cX7_send 71 = .ok (.ldc2_w 135, 3) := by decide +kernel
theorem dX7_send_74 : decode cX7_send 74 = .ok (.land, 1) := by decide +kernel
theorem dX7_send_75 : decode cX7_send 75 = .ok (.lor, 1) := by decide +kernel
theorem dX7_send_76 : decode cX7_send 76 = .ok (.lstore 7, 2) := by decide +kernel
theorem dX7_send_78 : decode cX7_send 78 = .ok (.aload_n 0, 1) := by decide +kernel
theorem dX7_send_79 : decode cX7_send 79 = .ok (.iconst 0, 1) := by decide +kernel
theorem dX7_send_80 : decode cX7_send 80 = .ok (.putfield 104, 3) := by decide +kernel
theorem dX7_send_83 : decode cX7_send 83 = .ok (.bipush 40, 2) := by decide +kernel
theorem dX7_send_85 : decode cX7_send 85 = .ok (.istore 9, 2) := by decide +kernel
theorem dX7_send_87 : decode cX7_send 87 = .ok (.iload 9, 2) := by decide +kernel
theorem dX7_send_89 : decode cX7_send 89 = .ok (.ifCond .lt 53, 3) := by decide +kernel
theorem dX7_send_92 : decode cX7_send 92 = .ok (.aload_n 0, 1) := by decide +kernel
theorem dX7_send_93 : decode cX7_send 93 = .ok (.getfield 69, 3) := by decide +kernel
theorem dX7_send_96 : decode cX7_send 96 = .ok (.aload_n 0, 1) := by decide +kernel
theorem dX7_send_97 : decode cX7_send 97 = .ok (.getfield 104, 3) := by decide +kernel
theorem dX7_send_100 : decode cX7_send 100 = .ok (.lload_n 2, 1) := by decide +kernel
theorem dX7_send_101 : decode cX7_send 101 = .ok (.iload 9, 2) := by decide +kernel
theorem dX7_send_103 : decode cX7_send 103 = .ok (.lshr, 1) := by decide +kernel
theorem dX7_send_104 : decode cX7_send 104 = .ok (.l2i, 1) := by decide +kernel
theorem dX7_send_105 : decode cX7_send 105 = .ok (.i2b, 1) := by decide +kernel
theorem dX7_send_106 : decode cX7_send 106 = .ok (.bastore, 1) := by decide +kernel
theorem dX7_send_107 : decode cX7_send 107 = .ok (.aload_n 0, 1) := by decide +kernel
theorem dX7_send_108 : decode cX7_send 108 = .ok (.getfield 69, 3) := by decide +kernel
theorem dX7_send_111 : decode cX7_send 111 = .ok (.aload_n 0, 1) := by decide +kernel
theorem dX7_send_112 : decode cX7_send 112 = .ok (.getfield 104, 3) := by decide +kernel
theorem dX7_send_115 : decode cX7_send 115 = .ok (.bipush 6, 2) := by decide +kernel
theorem dX7_send_117 : decode cX7_send 117 = .ok (.iadd, 1) := by decide +kernel
theorem dX7_send_118 : decode cX7_send 118 = .ok (.lload 7, 2) := by decide +kernel
theorem dX7_send_120 : decode cX7_send 120 = .ok (.iload 9, 2) := by decide +kernel
theorem dX7_send_122 : decode cX7_send 122 = .ok (.lshr, 1) := by decide +kernel
theorem dX7_send_123 : decode cX7_send 123 = .ok (.l2i, 1) := by decide +kernel
theorem dX7_send_124 : decode cX7_send 124 = .ok (.i2b, 1) := by decide +kernel
theorem dX7_send_125 : decode cX7_send 125 = .ok (.bastore, 1) := by decide +kernel
theorem dX7_send_126 : decode cX7_send 126 = .ok (.aload_n 0, 1) := by decide +kernel
theorem dX7_send_127 : decode cX7_send 127 = .ok (.dup, 1) := by decide +kernel
theorem dX7_send_128 : decode cX7_send 128 = .ok (.getfield 104, 3) := by decide +kernel
theorem dX7_send_131 : decode cX7_send 131 = .ok (.iconst 1, 1) := by decide +kernel
theorem dX7_send_132 : decode cX7_send 132 = .ok (.iadd, 1) := by decide +kernel
theorem dX7_send_133 : decode cX7_send 133 = .ok (.putfield 104, 3) := by decide +kernel
theorem dX7_send_136 : decode cX7_send 136 = .ok (.iinc 9 (-8), 3) := by decide +kernel
theorem dX7_send_139 : decode cX7_send 139 = .ok (.goto (-52), 3) := by decide +kernel
theorem dX7_send_142 : decode cX7_send 142 = .ok (.aload_n 0, 1) := by decide +kernel
theorem dX7_send_143 : decode cX7_send 143 = .ok (.bipush 14, 2) := by decide +kernel
theorem dX7_send_145 : decode cX7_send 145 = .ok (.putfield 104, 3) := by decide +kernel
theorem dX7_send_148 : decode cX7_send 148 = .ok (.aload_n 0, 1) := by decide +kernel
theorem dX7_send_149 : decode cX7_send 149 = .ok (.getfield 69, 3) := by decide +kernel
theorem dX7_send_152 : decode cX7_send 152 = .ok (.bipush 12, 2) := by decide +kernel
theorem dX7_send_154 : decode cX7_send 154 = .ok (.iload 4, 2) := by decide +kernel
theorem dX7_send_156 : decode cX7_send 156 = .ok (.bipush 8, 2) := by decide +kernel
theorem dX7_send_158 : decode cX7_send 158 = .ok (.ishr, 1) := by decide +kernel
theorem dX7_send_159 : decode cX7_send 159 = .ok (.i2b, 1) := by decide +kernel
theorem dX7_send_160 : decode cX7_send 160 = .ok (.bastore, 1) := by decide +kernel
theorem dX7_send_161 : decode cX7_send 161 = .ok (.aload_n 0, 1) := by decide +kernel
theorem dX7_send_162 : decode cX7_send 162 = .ok (.getfield 69, 3) := by decide +kernel
theorem dX7_send_165 : decode cX7_send 165 = .ok (.bipush 13, 2) := by decide +kernel
theorem dX7_send_167 : decode cX7_send 167 = .ok (.iload 4, 2) := by decide +kernel
theorem dX7_send_169 : decode cX7_send 169 = .ok (.i2b, 1) := by decide +kernel
theorem dX7_send_170 : decode cX7_send 170 = .ok (.bastore, 1) := by decide +kernel
theorem dX7_send_171 : decode cX7_send 171 = .ok (.iconst 0, 1) := by decide +kernel
theorem dX7_send_172 : decode cX7_send 172 = .ok (.istore 9, 2) := by decide +kernel
theorem dX7_send_174 : decode cX7_send 174 = .ok (.iload 9, 2) := by decide +kernel
theorem dX7_send_176 : decode cX7_send 176 = .ok (.aload_n 0, 1) := by decide +kernel
theorem dX7_send_177 : decode cX7_send 177 = .ok (.getfield 93, 3) := by decide +kernel
theorem dX7_send_180 : decode cX7_send 180 = .ok (.if_icmp .ge 35, 3) := by decide +kernel
theorem dX7_send_183 : decode cX7_send 183 = .ok (.aload_n 0, 1) := by decide +kernel
theorem dX7_send_184 : decode cX7_send 184 = .ok (.getfield 69, 3) := by decide +kernel
theorem dX7_send_187 : decode cX7_send 187 = .ok (.aload_n 0, 1) := by decide +kernel
theorem dX7_send_188 : decode cX7_send 188 = .ok (.getfield 104, 3) := by decide +kernel
theorem dX7_send_191 : decode cX7_send 191 = .ok (.aload_n 0, 1) := by decide +kernel
theorem dX7_send_192 : decode cX7_send 192 = .ok (.getfield 51, 3) := by decide +kernel
theorem dX7_send_195 : decode cX7_send 195 = .ok (.iload 9, 2) := by decide +kernel
theorem dX7_send_197 : decode cX7_send 197 = .ok (.baload, 1) := by decide +kernel
theorem dX7_send_198 : decode cX7_send 198 = .ok (.bastore, 1) := by decide +kernel
theorem dX7_send_199 : decode cX7_send 199 = .ok (.aload_n 0, 1) := by decide +kernel
theorem dX7_send_200 : decode cX7_send 200 = .ok (.dup, 1) := by decide +kernel
theorem dX7_send_201 : decode cX7_send 201 = .ok (.getfield 104, 3) := by decide +kernel
theorem dX7_send_204 : decode cX7_send 204 = .ok (.iconst 1, 1) := by decide +kernel
theorem dX7_send_205 : decode cX7_send 205 = .ok (.iadd, 1) := by decide +kernel
theorem dX7_send_206 : decode cX7_send 206 = .ok (.putfield 104, 3) := by decide +kernel
theorem dX7_send_209 : decode cX7_send 209 = .ok (.iinc 9 1, 3) := by decide +kernel
theorem dX7_send_212 : decode cX7_send 212 = .ok (.goto (-38), 3) := by decide +kernel
theorem dX7_send_215 : decode cX7_send 215 = .ok (.aload_n 0, 1) := by decide +kernel
theorem dX7_send_216 : decode cX7_send 216 = .ok (.iconst 0, 1) := by decide +kernel
theorem dX7_send_217 : decode cX7_send 217 = .ok (.putfield 93, 3) := by decide +kernel
theorem dX7_send_220 : decode cX7_send 220 = .ok (.aload_n 0, 1) := by decide +kernel
theorem dX7_send_221 : decode cX7_send 221 = .ok (.iload 5, 2) := by decide +kernel
theorem dX7_send_223 : decode cX7_send 223 = .ok (.iload 6, 2) := by decide +kernel
theorem dX7_send_225 : decode cX7_send 225 = .ok (.lload 7, 2) := by decide +kernel
theorem dX7_send_227 : decode cX7_send 227 = .ok (.iload_n 1, 1) := by decide +kernel
theorem dX7_send_228 : decode cX7_send 228 = .ok (.invokevirtual 137, 3) := by decide +kernel
theorem dX7_send_231 : decode cX7_send 231 = .ok (.aload_n 0, 1) := by decide +kernel
theorem dX7_send_232 : decode cX7_send 232 = .ok (.iload 5, 2) := by decide +kernel
theorem dX7_send_234 : decode cX7_send 234 = .ok (.iload 6, 2) := by decide +kernel
theorem dX7_send_236 : decode cX7_send 236 = .ok (.lload_n 2, 1) := by decide +kernel
theorem dX7_send_237 : decode cX7_send 237 = .ok (.invokevirtual 96, 3) := by decide +kernel
theorem dX7_send_240 : decode cX7_send 240 = .ok (.istore 9, 2) := by decide +kernel
theorem dX7_send_242 : decode cX7_send 242 = .ok (.aload_n 0, 1) := by decide +kernel
theorem dX7_send_243 : decode cX7_send 243 = .ok (.getfield 63, 3) := by decide +kernel
theorem dX7_send_246 : decode cX7_send 246 = .ok (.iconst 0, 1) := by decide +kernel
theorem dX7_send_247 : decode cX7_send 247 = .ok (.iaload, 1) := by decide +kernel
theorem dX7_send_248 : decode cX7_send 248 = .ok (.istore 10, 2) := by decide +kernel
theorem dX7_send_250 : decode cX7_send 250 = .ok (.aload_n 0, 1) := by decide +kernel
theorem dX7_send_251 : decode cX7_send 251 = .ok (.getfield 69, 3) := by decide +kernel
theorem dX7_send_254 : decode cX7_send 254 = .ok (.iconst 0, 1) := by decide +kernel
theorem dX7_send_255 : decode cX7_send 255 = .ok (.baload, 1) := by decide +kernel
theorem dX7_send_256 : decode cX7_send 256 = .ok (.iconst 1, 1) := by decide +kernel
theorem dX7_send_257 : decode cX7_send 257 = .ok (.iand, 1) := by decide +kernel
theorem dX7_send_258 : decode cX7_send 258 = .ok (.iconst 1, 1) := by decide +kernel
theorem dX7_send_259 : decode cX7_send 259 = .ok (.if_icmp .eq 9, 3) := by decide +kernel
theorem dX7_send_262 : decode cX7_send 262 = .ok (.iload 9, 2) := by decide +kernel
theorem dX7_send_264 : decode cX7_send 264 = .ok (.iconst (-1), 1) := by decide +kernel
theorem dX7_send_265 : decode cX7_send 265 = .ok (.if_icmp .ne 61, 3) := by decide +kernel
theorem dX7_send_268 : decode cX7_send 268 = .ok (.aload_n 0, 1) := by decide +kernel
theorem dX7_send_269 : decode cX7_send 269 = .ok (.iload 5, 2) := by decide +kernel
theorem dX7_send_271 : decode cX7_send 271 = .ok (.iload 6, 2) := by decide +kernel
theorem dX7_send_273 : decode cX7_send 273 = .ok (.iload_n 1, 1) := by decide +kernel
theorem dX7_send_274 : decode cX7_send 274 = .ok (.invokevirtual 141, 3) := by decide +kernel
theorem dX7_send_277 : decode cX7_send 277 = .ok (.iconst 0, 1) := by decide +kernel
theorem dX7_send_278 : decode cX7_send 278 = .ok (.istore 11, 2) := by decide +kernel
theorem dX7_send_280 : decode cX7_send 280 = .ok (.iload 11, 2) := by decide +kernel
theorem dX7_send_282 : decode cX7_send 282 = .ok (.aload_n 0, 1) := by decide +kernel
theorem dX7_send_283 : decode cX7_send 283 = .ok (.getfield 76, 3) := by decide +kernel
theorem dX7_send_286 : decode cX7_send 286 = .ok (.if_icmp .ge 37, 3) := by decide +kernel
theorem dX7_send_289 : decode cX7_send 289 = .ok (.iload 11, 2) := by decide +kernel
theorem dX7_send_291 : decode cX7_send 291 = .ok (.iload 5, 2) := by decide +kernel
theorem dX7_send_293 : decode cX7_send 293 = .ok (.if_icmp .eq 24, 3) := by decide +kernel
theorem dX7_send_296 : decode cX7_send 296 = .ok (.aload_n 0, 1) := by decide +kernel
theorem dX7_send_297 : decode cX7_send 297 = .ok (.iload 11, 2) := by decide +kernel
theorem dX7_send_299 : decode cX7_send 299 = .ok (.iload 6, 2) := by decide +kernel
theorem dX7_send_301 : decode cX7_send 301 = .ok (.invokevirtual 145, 3) := by decide +kernel
theorem dX7_send_304 : decode cX7_send 304 = .ok (.ifCond .eq 13, 3) := by decide +kernel
theorem dX7_send_307 : decode cX7_send 307 = .ok (.aload_n 0, 1) := by decide +kernel
theorem dX7_send_308 : decode cX7_send 308 = .ok (.iload 5, 2) := by decide +kernel
theorem dX7_send_310 : decode cX7_send 310 = .ok (.iload 11, 2) := by decide +kernel
theorem dX7_send_312 : decode cX7_send 312 = .ok (.iload 6, 2) := by decide +kernel
theorem dX7_send_314 : decode cX7_send 314 = .ok (.invokevirtual 149, 3) := by decide +kernel
theorem dX7_send_317 : decode cX7_send 317 = .ok (.iinc 11 1, 3) := by decide +kernel
theorem dX7_send_320 : decode cX7_send 320 = .ok (.goto (-40), 3) := by decide +kernel
theorem dX7_send_323 : decode cX7_send 323 = .ok (.goto 72, 3) := by decide +kernel
theorem dX7_send_326 : decode cX7_send 326 = .ok (.aload_n 0, 1) := by decide +kernel
theorem dX7_send_327 : decode cX7_send 327 = .ok (.getfield 45, 3) := by decide +kernel
theorem dX7_send_330 : decode cX7_send 330 = .ok (.iload 9, 2) := by decide +kernel
theorem dX7_send_332 : decode cX7_send 332 = .ok (.iaload, 1) := by decide +kernel
theorem dX7_send_333 : decode cX7_send 333 = .ok (.ifCond .lt 45, 3) := by decide +kernel
theorem dX7_send_336 : decode cX7_send 336 = .ok (.aload_n 0, 1) := by decide +kernel
theorem dX7_send_337 : decode cX7_send 337 = .ok (.getfield 45, 3) := by decide +kernel
theorem dX7_send_340 : decode cX7_send 340 = .ok (.iload 9, 2) := by decide +kernel
theorem dX7_send_342 : decode cX7_send 342 = .ok (.iaload, 1) := by decide +kernel
theorem dX7_send_343 : decode cX7_send 343 = .ok (.iload_n 1, 1) := by decide +kernel
theorem dX7_send_344 : decode cX7_send 344 = .ok (.if_icmp .eq 51, 3) := by decide +kernel
theorem dX7_send_347 : decode cX7_send 347 = .ok (.aload_n 0, 1) := by decide +kernel
theorem dX7_send_348 : decode cX7_send 348 = .ok (.getfield 7, 3) := by decide +kernel
theorem dX7_send_351 : decode cX7_send 351 = .ok (.aload_n 0, 1) := by decide +kernel
theorem dX7_send_352 : decode cX7_send 352 = .ok (.getfield 45, 3) := by decide +kernel
theorem dX7_send_355 : decode cX7_send 355 = .ok (.iload 9, 2) := by decide +kernel
theorem dX7_send_357 : decode cX7_send 357 = .ok (.iaload, 1) := by decide +kernel
theorem dX7_send_358 : decode cX7_send 358 = .ok (.iaload, 1) := by decide +kernel
theorem dX7_send_359 : decode cX7_send 359 = .ok (.iload 5, 2) := by decide +kernel
theorem dX7_send_361 : decode cX7_send 361 = .ok (.if_icmp .ne 34, 3) := by decide +kernel
theorem dX7_send_364 : decode cX7_send 364 = .ok (.aload_n 0, 1) := by decide +kernel
theorem dX7_send_365 : decode cX7_send 365 = .ok (.aload_n 0, 1) := by decide +kernel
theorem dX7_send_366 : decode cX7_send 366 = .ok (.getfield 45, 3) := by decide +kernel
theorem dX7_send_369 : decode cX7_send 369 = .ok (.iload 9, 2) := by decide +kernel
theorem dX7_send_371 : decode cX7_send 371 = .ok (.iaload, 1) := by decide +kernel
theorem dX7_send_372 : decode cX7_send 372 = .ok (.invokevirtual 107, 3) := by decide +kernel
theorem dX7_send_375 : decode cX7_send 375 = .ok (.goto 20, 3) := by decide +kernel
theorem dX7_send_378 : decode cX7_send 378 = .ok (.aload_n 0, 1) := by decide +kernel
theorem dX7_send_379 : decode cX7_send 379 = .ok (.iload 5, 2) := by decide +kernel
theorem dX7_send_381 : decode cX7_send 381 = .ok (.iconst (-1), 1) := by decide +kernel
theorem dX7_send_382 : decode cX7_send 382 = .ok (.aload_n 0, 1) := by decide +kernel
theorem dX7_send_383 : decode cX7_send 383 = .ok (.getfield 45, 3) := by decide +kernel
theorem dX7_send_386 : decode cX7_send 386 = .ok (.iload 9, 2) := by decide +kernel
theorem dX7_send_388 : decode cX7_send 388 = .ok (.iaload, 1) := by decide +kernel
theorem dX7_send_389 : decode cX7_send 389 = .ok (.isub, 1) := by decide +kernel
theorem dX7_send_390 : decode cX7_send 390 = .ok (.iload 6, 2) := by decide +kernel
theorem dX7_send_392 : decode cX7_send 392 = .ok (.invokevirtual 149, 3) := by decide +kernel
theorem dX7_send_395 : decode cX7_send 395 = .ok (.aload_n 0, 1) := by decide +kernel
theorem dX7_send_396 : decode cX7_send 396 = .ok (.getfield 63, 3) := by decide +kernel
theorem dX7_send_399 : decode cX7_send 399 = .ok (.iconst 0, 1) := by decide +kernel
theorem dX7_send_400 : decode cX7_send 400 = .ok (.iaload, 1) := by decide +kernel
theorem dX7_send_401 : decode cX7_send 401 = .ok (.iload 10, 2) := by decide +kernel
theorem dX7_send_403 : decode cX7_send 403 = .ok (.isub, 1) := by decide +kernel
theorem dX7_send_404 : decode cX7_send 404 = .ok (.ireturn, 1) := by decide +kernel
theorem dX7_numberAt_0 : decode cX7_numberAt 0 = .ok (.iconst 0, 1) := by decide +kernel
theorem dX7_numberAt_1 : decode cX7_numberAt 1 = .ok (.istore_n 3, 1) := by decide +kernel
theorem dX7_numberAt_2 : decode cX7_numberAt 2 = .ok (.iload_n 1, 1) := by decide +kernel
theorem dX7_numberAt_3 : decode cX7_numberAt 3 = .ok (.istore 4, 2) := by decide +kernel
theorem dX7_numberAt_5 : decode cX7_numberAt 5 = .ok (.iload 4, 2) := by decide +kernel
theorem dX7_numberAt_7 : decode cX7_numberAt 7 = .ok (.iload_n 1, 1) := by decide +kernel
theorem dX7_numberAt_8 : decode cX7_numberAt 8 = .ok (.iload_n 2, 1) := by decide +kernel
theorem dX7_numberAt_9 : decode cX7_numberAt 9 = .ok (.iadd, 1) := by decide +kernel
theorem dX7_numberAt_10 : decode cX7_numberAt 10 = .ok (.if_icmp .ge 26, 3) := by decide +kernel
theorem dX7_numberAt_13 : decode cX7_numberAt 13 = .ok (.iload_n 3, 1) := by decide +kernel
theorem dX7_numberAt_14 : decode cX7_numberAt 14 = .ok (.bipush 8, 2) := by decide +kernel
theorem dX7_numberAt_16 : decode cX7_numberAt 16 = .ok (.ishl, 1) := by decide +kernel
theorem dX7_numberAt_17 : decode cX7_numberAt 17 = .ok (.aload_n 0, 1) := by decide +kernel
theorem dX7_numberAt_18 : decode cX7_numberAt 18 = .ok (.getfield 66, 3) := by decide +kernel
theorem dX7_numberAt_21 : decode cX7_numberAt 21 = .ok (.iload 4, 2) := by decide +kernel
theorem dX7_numberAt_23 : decode cX7_numberAt 23 = .ok (.baload, 1) := by decide +kernel
theorem dX7_numberAt_24 : decode cX7_numberAt 24 = .ok (.sipush 255, 3) := by decide +kernel
theorem dX7_numberAt_27 : decode cX7_numberAt 27 = .ok (.iand, 1) := by decide +kernel
theorem dX7_numberAt_28 : decode cX7_numberAt 28 = .ok (.ior, 1) := by decide +kernel
theorem dX7_numberAt_29 : decode cX7_numberAt 29 = .ok (.istore_n 3, 1) := by decide +kernel
theorem dX7_numberAt_30 : decode cX7_numberAt 30 = .ok (.iinc 4 1, 3) := by decide +kernel
theorem dX7_numberAt_33 : decode cX7_numberAt 33 = .ok (.goto (-28), 3) := by decide +kernel
theorem dX7_numberAt_36 : decode cX7_numberAt 36 = .ok (.iload_n 3, 1) := by decide +kernel
theorem dX7_numberAt_37 : decode cX7_numberAt 37 = .ok (.ireturn, 1) := by decide +kernel
theorem dX7_netPlace_0 : decode cX7_netPlace 0 = .ok (.aload_n 0, 1) := by decide +kernel
theorem dX7_netPlace_1 : decode cX7_netPlace 1 = .ok (.getfield 112, 3) := by decide +kernel
theorem dX7_netPlace_4 : decode cX7_netPlace 4 = .ok (.bipush 20, 2) := by decide +kernel
theorem dX7_netPlace_6 : decode cX7_netPlace 6 = .ok (.isub, 1) := by decide +kernel
theorem dX7_netPlace_7 : decode cX7_netPlace 7 = .ok (.istore_n 1, 1) := by decide +kernel
theorem dX7_netPlace_8 : decode cX7_netPlace 8 = .ok (.aload_n 0, 1) := by decide +kernel
theorem dX7_netPlace_9 : decode cX7_netPlace 9 = .ok (.getfield 66, 3) := by decide +kernel
theorem dX7_netPlace_12 : decode cX7_netPlace 12 = .ok (.bipush 9, 2) := by decide +kernel
theorem dX7_netPlace_14 : decode cX7_netPlace 14 = .ok (.baload, 1) := by decide +kernel
theorem dX7_netPlace_15 : decode cX7_netPlace 15 = .ok (.bipush 17, 2) := by decide +kernel
theorem dX7_netPlace_17 : decode cX7_netPlace 17 = .ok (.if_icmp .ne 73, 3) := by decide +kernel
theorem dX7_netPlace_20 : decode cX7_netPlace 20 = .ok (.iload_n 1, 1) := by decide +kernel
theorem dX7_netPlace_21 : decode cX7_netPlace 21 = .ok (.bipush 30, 2) := by decide +kernel
theorem dX7_netPlace_23 : decode cX7_netPlace 23 = .ok (.if_icmp .lt 54, 3) := by decide +kernel
theorem dX7_netPlace_26 : decode cX7_netPlace 26 = .ok (.aload_n 0, 1) := by decide +kernel
theorem dX7_netPlace_27 : decode cX7_netPlace 27 = .ok (.bipush 24, 2) := by decide +kernel
theorem dX7_netPlace_29 : decode cX7_netPlace 29 = .ok (.iconst 2, 1) := by decide +kernel
theorem dX7_netPlace_30 : decode cX7_netPlace 30 = .ok (.invokevirtual 152, 3) := by decide +kernel
theorem dX7_netPlace_33 : decode cX7_netPlace 33 = .ok (.iload_n 1, 1) := by decide +kernel
theorem dX7_netPlace_34 : decode cX7_netPlace 34 = .ok (.if_icmp .ne 43, 3) := by decide +kernel
theorem dX7_netPlace_37 : decode cX7_netPlace 37 = .ok (.aload_n 0, 1) := by decide +kernel
theorem dX7_netPlace_38 : decode cX7_netPlace 38 = .ok (.bipush 22, 2) := by decide +kernel
theorem dX7_netPlace_40 : decode cX7_netPlace 40 = .ok (.iconst 2, 1) := by decide +kernel
theorem dX7_netPlace_41 : decode cX7_netPlace 41 = .ok (.invokevirtual 152, 3) := by decide +kernel
theorem dX7_netPlace_44 : decode cX7_netPlace 44 = .ok (.sipush 4789, 3) := by decide +kernel
theorem dX7_netPlace_47 : decode cX7_netPlace 47 = .ok (.if_icmp .ne 30, 3) := by decide +kernel
theorem dX7_netPlace_50 : decode cX7_netPlace 50 = .ok (.aload_n 0, 1) := by decide +kernel
theorem dX7_netPlace_51 : decode cX7_netPlace 51 = .ok (.bipush 26, 2) := by decide +kernel
theorem dX7_netPlace_53 : decode cX7_netPlace 53 = .ok (.iconst 2, 1) := by decide +kernel
theorem dX7_netPlace_54 : decode cX7_netPlace 54 = .ok (.invokevirtual 152, 3) := by decide +kernel
theorem dX7_netPlace_57 : decode cX7_netPlace 57 = .ok (.ifCond .ne 20, 3) := by decide +kernel
theorem dX7_netPlace_60 : decode cX7_netPlace 60 = .ok (.aload_n 0, 1) := by decide +kernel
theorem dX7_netPlace_61 : decode cX7_netPlace 61 = .ok (.getfield 66, 3) := by decide +kernel
theorem dX7_netPlace_64 : decode cX7_netPlace 64 = .ok (.bipush 28, 2) := by decide +kernel
theorem dX7_netPlace_66 : decode cX7_netPlace 66 = .ok (.baload, 1) := by decide +kernel
theorem dX7_netPlace_67 : decode cX7_netPlace 67 = .ok (.bipush 8, 2) := by decide +kernel
theorem dX7_netPlace_69 : decode cX7_netPlace 69 = .ok (.iand, 1) := by decide +kernel
theorem dX7_netPlace_70 : decode cX7_netPlace 70 = .ok (.ifCond .eq 7, 3) := by decide +kernel
theorem dX7_netPlace_73 : decode cX7_netPlace 73 = .ok (.iconst 1, 1) := by decide +kernel
theorem dX7_netPlace_74 : decode cX7_netPlace 74 = .ok (.goto 4, 3) := by decide +kernel
theorem dX7_netPlace_77 : decode cX7_netPlace 77 = .ok (.iconst 0, 1) := by decide +kernel
theorem dX7_netPlace_78 : decode cX7_netPlace 78 = .ok (.istore_n 2, 1) := by decide +kernel
theorem dX7_netPlace_79 : decode cX7_netPlace 79 = .ok (.iload_n 2, 1) := by decide +kernel
theorem dX7_netPlace_80 : decode cX7_netPlace 80 = .ok (.ifCond .eq 8, 3) := by decide +kernel
theorem dX7_netPlace_83 : decode cX7_netPlace 83 = .ok (.bipush 32, 2) := by decide +kernel
theorem dX7_netPlace_85 : decode cX7_netPlace 85 = .ok (.goto 4, 3) := by decide +kernel
theorem dX7_netPlace_88 : decode cX7_netPlace 88 = .ok (.iconst (-1), 1) := by decide +kernel
theorem dX7_netPlace_89 : decode cX7_netPlace 89 = .ok (.ireturn, 1) := by decide +kernel
theorem dX7_netPlace_90 : decode cX7_netPlace 90 = .ok (.aload_n 0, 1) := by decide +kernel
theorem dX7_netPlace_91 : decode cX7_netPlace 91 = .ok (.getfield 66, 3) := by decide +kernel
theorem dX7_netPlace_94 : decode cX7_netPlace 94 = .ok (.bipush 9, 2) := by decide +kernel
theorem dX7_netPlace_96 : decode cX7_netPlace 96 = .ok (.baload, 1) := by decide +kernel
theorem dX7_netPlace_97 : decode cX7_netPlace 97 = .ok (.bipush 47, 2) := by decide +kernel
theorem dX7_netPlace_99 : decode cX7_netPlace 99 = .ok (.if_icmp .ne 9, 3) := by decide +kernel
theorem dX7_netPlace_102 : decode cX7_netPlace 102 = .ok (.iload_n 1, 1) := by decide +kernel
theorem dX7_netPlace_103 : decode cX7_netPlace 103 = .ok (.bipush 22, 2) := by decide +kernel
theorem dX7_netPlace_105 : decode cX7_netPlace 105 = .ok (.if_icmp .ge 5, 3) := by decide +kernel
theorem dX7_netPlace_108 : decode cX7_netPlace 108 = .ok (.iconst (-1), 1) := by decide +kernel
theorem dX7_netPlace_109 : decode cX7_netPlace 109 = .ok (.ireturn, 1) := by decide +kernel
theorem dX7_netPlace_110 : decode cX7_netPlace 110 = .ok (.aload_n 0, 1) := by decide +kernel
theorem dX7_netPlace_111 : decode cX7_netPlace 111 = .ok (.bipush 20, 2) := by decide +kernel
theorem dX7_netPlace_113 : decode cX7_netPlace 113 = .ok (.iconst 2, 1) := by decide +kernel
theorem dX7_netPlace_114 : decode cX7_netPlace 114 = .ok (.invokevirtual 152, 3) := by decide +kernel
theorem dX7_netPlace_117 : decode cX7_netPlace 117 = .ok (.ldc 120, 2) := by decide +kernel
theorem dX7_netPlace_119 : decode cX7_netPlace 119 = .ok (.if_icmp .ne 7, 3) := by decide +kernel
theorem dX7_netPlace_122 : decode cX7_netPlace 122 = .ok (.iconst 1, 1) := by decide +kernel
theorem dX7_netPlace_123 : decode cX7_netPlace 123 = .ok (.goto 4, 3) := by decide +kernel
theorem dX7_netPlace_126 : decode cX7_netPlace 126 = .ok (.iconst 0, 1) := by decide +kernel
theorem dX7_netPlace_127 : decode cX7_netPlace 127 = .ok (.istore_n 2, 1) := by decide +kernel
theorem dX7_netPlace_128 : decode cX7_netPlace 128 = .ok (.iload_n 2, 1) := by decide +kernel
theorem dX7_netPlace_129 : decode cX7_netPlace 129 = .ok (.ifCond .ne 16, 3) := by decide +kernel
theorem dX7_netPlace_132 : decode cX7_netPlace 132 = .ok (.aload_n 0, 1) := by decide +kernel
theorem dX7_netPlace_133 : decode cX7_netPlace 133 = .ok (.bipush 20, 2) := by decide +kernel
theorem dX7_netPlace_135 : decode cX7_netPlace 135 = .ok (.iconst 2, 1) := by decide +kernel
theorem dX7_netPlace_136 : decode cX7_netPlace 136 = .ok (.invokevirtual 152, 3) := by decide +kernel
theorem dX7_netPlace_139 : decode cX7_netPlace 139 = .ok (.sipush 8192, 3) := by decide +kernel
theorem dX7_netPlace_142 : decode cX7_netPlace 142 = .ok (.if_icmp .ne 16, 3) := by decide +kernel
theorem dX7_netPlace_145 : decode cX7_netPlace 145 = .ok (.aload_n 0, 1) := by decide +kernel
theorem dX7_netPlace_146 : decode cX7_netPlace 146 = .ok (.bipush 22, 2) := by decide +kernel
theorem dX7_netPlace_148 : decode cX7_netPlace 148 = .ok (.iconst 2, 1) := by decide +kernel
theorem dX7_netPlace_149 : decode cX7_netPlace 149 = .ok (.invokevirtual 152, 3) := by decide +kernel
theorem dX7_netPlace_152 : decode cX7_netPlace 152 = .ok (.sipush 25944, 3) := by decide +kernel
theorem dX7_netPlace_155 : decode cX7_netPlace 155 = .ok (.if_icmp .eq 5, 3) := by decide +kernel
theorem dX7_netPlace_158 : decode cX7_netPlace 158 = .ok (.iconst (-1), 1) := by decide +kernel
theorem dX7_netPlace_159 : decode cX7_netPlace 159 = .ok (.ireturn, 1) := by decide +kernel
theorem dX7_netPlace_160 : decode cX7_netPlace 160 = .ok (.iload_n 2, 1) := by decide +kernel
theorem dX7_netPlace_161 : decode cX7_netPlace 161 = .ok (.ifCond .eq 32, 3) := by decide +kernel
theorem dX7_netPlace_164 : decode cX7_netPlace 164 = .ok (.iload_n 1, 1) := by decide +kernel
theorem dX7_netPlace_165 : decode cX7_netPlace 165 = .ok (.bipush 26, 2) := by decide +kernel
theorem dX7_netPlace_167 : decode cX7_netPlace 167 = .ok (.if_icmp .lt 24, 3) := by decide +kernel
theorem dX7_netPlace_170 : decode cX7_netPlace 170 = .ok (.aload_n 0, 1) := by decide +kernel
theorem dX7_netPlace_171 : decode cX7_netPlace 171 = .ok (.getfield 66, 3) := by decide +kernel
theorem dX7_netPlace_174 : decode cX7_netPlace 174 = .ok (.bipush 20, 2) := by decide +kernel
theorem dX7_netPlace_176 : decode cX7_netPlace 176 = .ok (.aload_n 0, 1) := by decide +kernel
theorem dX7_netPlace_177 : decode cX7_netPlace 177 = .ok (.getfield 112, 3) := by decide +kernel
theorem dX7_netPlace_180 : decode cX7_netPlace 180 = .ok (.invokestatic 124, 3) := by decide +kernel
theorem dX7_netPlace_183 : decode cX7_netPlace 183 = .ok (.ifCond .ne 8, 3) := by decide +kernel
theorem dX7_netPlace_186 : decode cX7_netPlace 186 = .ok (.bipush 28, 2) := by decide +kernel
theorem dX7_netPlace_188 : decode cX7_netPlace 188 = .ok (.goto 4, 3) := by decide +kernel
theorem dX7_netPlace_191 : decode cX7_netPlace 191 = .ok (.iconst (-1), 1) := by decide +kernel
theorem dX7_netPlace_192 : decode cX7_netPlace 192 = .ok (.ireturn, 1) := by decide +kernel
theorem dX7_netPlace_193 : decode cX7_netPlace 193 = .ok (.bipush 24, 2) := by decide +kernel
theorem dX7_netPlace_195 : decode cX7_netPlace 195 = .ok (.ireturn, 1) := by decide +kernel
theorem dX7_comes_0 : decode cX7_comes 0 = .ok (.aload_n 0, 1) := by decide +kernel
theorem dX7_comes_1 : decode cX7_comes 1 = .ok (.iload_n 1, 1) := by decide +kernel
theorem dX7_comes_2 : decode cX7_comes 2 = .ok (.invokevirtual 156, 3) := by decide +kernel
theorem dX7_comes_5 : decode cX7_comes 5 = .ok (.istore_n 2, 1) := by decide +kernel
theorem dX7_comes_6 : decode cX7_comes 6 = .ok (.iload_n 2, 1) := by decide +kernel
theorem dX7_comes_7 : decode cX7_comes 7 = .ok (.ifCond .le 13, 3) := by decide +kernel
theorem dX7_comes_10 : decode cX7_comes 10 = .ok (.aload_n 0, 1) := by decide +kernel
theorem dX7_comes_11 : decode cX7_comes 11 = .ok (.getfield 63, 3) := by decide +kernel
theorem dX7_comes_14 : decode cX7_comes 14 = .ok (.iload_n 2, 1) := by decide +kernel
theorem dX7_comes_15 : decode cX7_comes 15 = .ok (.dup2, 1) := by decide +kernel
theorem dX7_comes_16 : decode cX7_comes 16 = .ok (.iaload, 1) := by decide +kernel
theorem dX7_comes_17 : decode cX7_comes 17 = .ok (.iconst 1, 1) := by decide +kernel
theorem dX7_comes_18 : decode cX7_comes 18 = .ok (.iadd, 1) := by decide +kernel
theorem dX7_comes_19 : decode cX7_comes 19 = .ok (.iastore, 1) := by decide +kernel
theorem dX7_comes_20 : decode cX7_comes 20 = .ok (.iload_n 2, 1) := by decide +kernel
theorem dX7_comes_21 : decode cX7_comes 21 = .ok (.ireturn, 1) := by decide +kernel
theorem dX7_look_0 : decode cX7_look 0 = .ok (.aload_n 0, 1) := by decide +kernel
theorem dX7_look_1 : decode cX7_look 1 = .ok (.getfield 112, 3) := by decide +kernel
theorem dX7_look_4 : decode cX7_look 4 = .ok (.bipush 20, 2) := by decide +kernel
theorem dX7_look_6 : decode cX7_look 6 = .ok (.if_icmp .lt 27, 3) := by decide +kernel
theorem dX7_look_9 : decode cX7_look 9 = .ok (.aload_n 0, 1) := by decide +kernel
theorem dX7_look_10 : decode cX7_look 10 = .ok (.getfield 66, 3) := by decide +kernel
theorem dX7_look_13 : decode cX7_look 13 = .ok (.iconst 0, 1) := by decide +kernel
theorem dX7_look_14 : decode cX7_look 14 = .ok (.baload, 1) := by decide +kernel
theorem dX7_look_15 : decode cX7_look 15 = .ok (.bipush 69, 2) := by decide +kernel
theorem dX7_look_17 : decode cX7_look 17 = .ok (.if_icmp .ne 16, 3) := by decide +kernel
theorem dX7_look_20 : decode cX7_look 20 = .ok (.aload_n 0, 1) := by decide +kernel
theorem dX7_look_21 : decode cX7_look 21 = .ok (.iconst 2, 1) := by decide +kernel
theorem dX7_look_22 : decode cX7_look 22 = .ok (.iconst 2, 1) := by decide +kernel
theorem dX7_look_23 : decode cX7_look 23 = .ok (.invokevirtual 152, 3) := by decide +kernel
theorem dX7_look_26 : decode cX7_look 26 = .ok (.aload_n 0, 1) := by decide +kernel
theorem dX7_look_27 : decode cX7_look 27 = .ok (.getfield 112, 3) := by decide +kernel
theorem dX7_look_30 : decode cX7_look 30 = .ok (.if_icmp .eq 5, 3) := by decide +kernel
theorem dX7_look_33 : decode cX7_look 33 = .ok (.iconst 1, 1) := by decide +kernel
theorem dX7_look_34 : decode cX7_look 34 = .ok (.ireturn, 1) := by decide +kernel
theorem dX7_look_35 : decode cX7_look 35 = .ok (.aload_n 0, 1) := by decide +kernel
theorem dX7_look_36 : decode cX7_look 36 = .ok (.getfield 66, 3) := by decide +kernel
theorem dX7_look_39 : decode cX7_look 39 = .ok (.iconst 0, 1) := by decide +kernel
theorem dX7_look_40 : decode cX7_look 40 = .ok (.bipush 20, 2) := by decide +kernel
theorem dX7_look_42 : decode cX7_look 42 = .ok (.invokestatic 124, 3) := by decide +kernel
theorem dX7_look_45 : decode cX7_look 45 = .ok (.ifCond .eq 5, 3) := by decide +kernel
theorem dX7_look_48 : decode cX7_look 48 = .ok (.iconst 2, 1) := by decide +kernel
theorem dX7_look_49 : decode cX7_look 49 = .ok (.ireturn, 1) := by decide +kernel
theorem dX7_look_50 : decode cX7_look 50 = .ok (.aload_n 0, 1) := by decide +kernel
theorem dX7_look_51 : decode cX7_look 51 = .ok (.bipush 16, 2) := by decide +kernel
theorem dX7_look_53 : decode cX7_look 53 = .ok (.iconst 4, 1) := by decide +kernel
theorem dX7_look_54 : decode cX7_look 54 = .ok (.invokevirtual 152, 3) := by decide +kernel
theorem dX7_look_57 : decode cX7_look 57 = .ok (.ldc 118, 2) := by decide +kernel
theorem dX7_look_59 : decode cX7_look 59 = .ok (.iload_n 1, 1) := by decide +kernel
theorem dX7_look_60 : decode cX7_look 60 = .ok (.iadd, 1) := by decide +kernel
theorem dX7_look_61 : decode cX7_look 61 = .ok (.if_icmp .eq 5, 3) := by decide +kernel
theorem dX7_look_64 : decode cX7_look 64 = .ok (.iconst 3, 1) := by decide +kernel
theorem dX7_look_65 : decode cX7_look 65 = .ok (.ireturn, 1) := by decide +kernel
theorem dX7_look_66 : decode cX7_look 66 = .ok (.aload_n 0, 1) := by decide +kernel
theorem dX7_look_67 : decode cX7_look 67 = .ok (.bipush 6, 2) := by decide +kernel
theorem dX7_look_69 : decode cX7_look 69 = .ok (.iconst 2, 1) := by decide +kernel
theorem dX7_look_70 : decode cX7_look 70 = .ok (.invokevirtual 152, 3) := by decide +kernel
theorem dX7_look_73 : decode cX7_look 73 = .ok (.ifCond .eq 18, 3) := by decide +kernel
theorem dX7_look_76 : decode cX7_look 76 = .ok (.aload_n 0, 1) := by decide +kernel
theorem dX7_look_77 : decode cX7_look 77 = .ok (.bipush 6, 2) := by decide +kernel
theorem dX7_look_79 : decode cX7_look 79 = .ok (.iconst 2, 1) := by decide +kernel
theorem dX7_look_80 : decode cX7_look 80 = .ok (.invokevirtual 152, 3) := by decide +kernel
theorem dX7_look_83 : decode cX7_look 83 = .ok (.sipush 16384, 3) := by decide +kernel
theorem dX7_look_86 : decode cX7_look 86 = .ok (.if_icmp .eq 5, 3) := by decide +kernel
theorem dX7_look_89 : decode cX7_look 89 = .ok (.iconst 4, 1) := by decide +kernel
theorem dX7_look_90 : decode cX7_look 90 = .ok (.ireturn, 1) := by decide +kernel
theorem dX7_look_91 : decode cX7_look 91 = .ok (.aload_n 0, 1) := by decide +kernel
theorem dX7_look_92 : decode cX7_look 92 = .ok (.invokevirtual 160, 3) := by decide +kernel
theorem dX7_look_95 : decode cX7_look 95 = .ok (.istore_n 2, 1) := by decide +kernel
theorem dX7_look_96 : decode cX7_look 96 = .ok (.iload_n 2, 1) := by decide +kernel
theorem dX7_look_97 : decode cX7_look 97 = .ok (.iconst (-1), 1) := by decide +kernel
theorem dX7_look_98 : decode cX7_look 98 = .ok (.if_icmp .ne 5, 3) := by decide +kernel
theorem dX7_look_101 : decode cX7_look 101 = .ok (.iconst 5, 1) := by decide +kernel
theorem dX7_look_102 : decode cX7_look 102 = .ok (.ireturn, 1) := by decide +kernel
theorem dX7_look_103 : decode cX7_look 103 = .ok (.aload_n 0, 1) := by decide +kernel
theorem dX7_look_104 : decode cX7_look 104 = .ok (.iload_n 2, 1) := by decide +kernel
theorem dX7_look_105 : decode cX7_look 105 = .ok (.iconst 3, 1) := by decide +kernel
theorem dX7_look_106 : decode cX7_look 106 = .ok (.invokevirtual 152, 3) := by decide +kernel
theorem dX7_look_109 : decode cX7_look 109 = .ok (.istore_n 3, 1) := by decide +kernel
theorem dX7_look_110 : decode cX7_look 110 = .ok (.aload_n 0, 1) := by decide +kernel
theorem dX7_look_111 : decode cX7_look 111 = .ok (.iload_n 1, 1) := by decide +kernel
theorem dX7_look_112 : decode cX7_look 112 = .ok (.iload_n 3, 1) := by decide +kernel
theorem dX7_look_113 : decode cX7_look 113 = .ok (.invokevirtual 145, 3) := by decide +kernel
theorem dX7_look_116 : decode cX7_look 116 = .ok (.ifCond .ne 6, 3) := by decide +kernel
theorem dX7_look_119 : decode cX7_look 119 = .ok (.bipush 6, 2) := by decide +kernel
theorem dX7_look_121 : decode cX7_look 121 = .ok (.ireturn, 1) := by decide +kernel
theorem dX7_look_122 : decode cX7_look 122 = .ok (.aload_n 0, 1) := by decide +kernel
theorem dX7_look_123 : decode cX7_look 123 = .ok (.bipush 12, 2) := by decide +kernel
theorem dX7_look_125 : decode cX7_look 125 = .ok (.iconst 4, 1) := by decide +kernel
theorem dX7_look_126 : decode cX7_look 126 = .ok (.invokevirtual 152, 3) := by decide +kernel
theorem dX7_look_129 : decode cX7_look 129 = .ok (.ldc 118, 2) := by decide +kernel
theorem dX7_look_131 : decode cX7_look 131 = .ok (.isub, 1) := by decide +kernel
theorem dX7_look_132 : decode cX7_look 132 = .ok (.istore 4, 2) := by decide +kernel
theorem dX7_look_134 : decode cX7_look 134 = .ok (.aload_n 0, 1) := by decide +kernel
theorem dX7_look_135 : decode cX7_look 135 = .ok (.iload 4, 2) := by decide +kernel
theorem dX7_look_137 : decode cX7_look 137 = .ok (.invokevirtual 86, 3) := by decide +kernel
theorem dX7_look_140 : decode cX7_look 140 = .ok (.ifCond .eq 19, 3) := by decide +kernel
theorem dX7_look_143 : decode cX7_look 143 = .ok (.iload 4, 2) := by decide +kernel
theorem dX7_look_145 : decode cX7_look 145 = .ok (.iload_n 1, 1) := by decide +kernel
theorem dX7_look_146 : decode cX7_look 146 = .ok (.if_icmp .eq 13, 3) := by decide +kernel
theorem dX7_look_149 : decode cX7_look 149 = .ok (.aload_n 0, 1) := by decide +kernel
theorem dX7_look_150 : decode cX7_look 150 = .ok (.iload 4, 2) := by decide +kernel
theorem dX7_look_152 : decode cX7_look 152 = .ok (.iload_n 3, 1) := by decide +kernel
theorem dX7_look_153 : decode cX7_look 153 = .ok (.invokevirtual 145, 3) := by decide +kernel
theorem dX7_look_156 : decode cX7_look 156 = .ok (.ifCond .ne 6, 3) := by decide +kernel
theorem dX7_look_159 : decode cX7_look 159 = .ok (.bipush 7, 2) := by decide +kernel
theorem dX7_look_161 : decode cX7_look 161 = .ok (.ireturn, 1) := by decide +kernel
theorem dX7_look_162 : decode cX7_look 162 = .ok (.aload_n 0, 1) := by decide +kernel
theorem dX7_look_163 : decode cX7_look 163 = .ok (.aload_n 0, 1) := by decide +kernel
theorem dX7_look_164 : decode cX7_look 164 = .ok (.getfield 112, 3) := by decide +kernel
theorem dX7_look_167 : decode cX7_look 167 = .ok (.iload_n 2, 1) := by decide +kernel
theorem dX7_look_168 : decode cX7_look 168 = .ok (.isub, 1) := by decide +kernel
theorem dX7_look_169 : decode cX7_look 169 = .ok (.iconst 4, 1) := by decide +kernel
theorem dX7_look_170 : decode cX7_look 170 = .ok (.isub, 1) := by decide +kernel
theorem dX7_look_171 : decode cX7_look 171 = .ok (.putfield 104, 3) := by decide +kernel
theorem dX7_look_174 : decode cX7_look 174 = .ok (.iconst 0, 1) := by decide +kernel
theorem dX7_look_175 : decode cX7_look 175 = .ok (.istore 5, 2) := by decide +kernel
theorem dX7_look_177 : decode cX7_look 177 = .ok (.iload 5, 2) := by decide +kernel
theorem dX7_look_179 : decode cX7_look 179 = .ok (.aload_n 0, 1) := by decide +kernel
theorem dX7_look_180 : decode cX7_look 180 = .ok (.getfield 104, 3) := by decide +kernel
theorem dX7_look_183 : decode cX7_look 183 = .ok (.if_icmp .ge 27, 3) := by decide +kernel
theorem dX7_look_186 : decode cX7_look 186 = .ok (.aload_n 0, 1) := by decide +kernel
theorem dX7_look_187 : decode cX7_look 187 = .ok (.getfield 69, 3) := by decide +kernel
theorem dX7_look_190 : decode cX7_look 190 = .ok (.iload 5, 2) := by decide +kernel
theorem dX7_look_192 : decode cX7_look 192 = .ok (.aload_n 0, 1) := by decide +kernel
theorem dX7_look_193 : decode cX7_look 193 = .ok (.getfield 66, 3) := by decide +kernel
theorem dX7_look_196 : decode cX7_look 196 = .ok (.iload_n 2, 1) := by decide +kernel
theorem dX7_look_197 : decode cX7_look 197 = .ok (.iconst 4, 1) := by decide +kernel
theorem dX7_look_198 : decode cX7_look 198 = .ok (.iadd, 1) := by decide +kernel
theorem dX7_look_199 : decode cX7_look 199 = .ok (.iload 5, 2) := by decide +kernel
theorem dX7_look_201 : decode cX7_look 201 = .ok (.iadd, 1) := by decide +kernel
theorem dX7_look_202 : decode cX7_look 202 = .ok (.baload, 1) := by decide +kernel
theorem dX7_look_203 : decode cX7_look 203 = .ok (.bastore, 1) := by decide +kernel
theorem dX7_look_204 : decode cX7_look 204 = .ok (.iinc 5 1, 3) := by decide +kernel
theorem dX7_look_207 : decode cX7_look 207 = .ok (.goto (-30), 3) := by decide +kernel
theorem dX7_look_210 : decode cX7_look 210 = .ok (.aload_n 0, 1) := by decide +kernel
theorem dX7_look_211 : decode cX7_look 211 = .ok (.getfield 69, 3) := by decide +kernel
theorem dX7_look_214 : decode cX7_look 214 = .ok (.bipush 6, 2) := by decide +kernel
theorem dX7_look_216 : decode cX7_look 216 = .ok (.baload, 1) := by decide +kernel
theorem dX7_look_217 : decode cX7_look 217 = .ok (.iconst 1, 1) := by decide +kernel
theorem dX7_look_218 : decode cX7_look 218 = .ok (.iand, 1) := by decide +kernel
theorem dX7_look_219 : decode cX7_look 219 = .ok (.iconst 1, 1) := by decide +kernel
theorem dX7_look_220 : decode cX7_look 220 = .ok (.if_icmp .ne 6, 3) := by decide +kernel
theorem dX7_look_223 : decode cX7_look 223 = .ok (.bipush 8, 2) := by decide +kernel
theorem dX7_look_225 : decode cX7_look 225 = .ok (.ireturn, 1) := by decide +kernel
theorem dX7_look_226 : decode cX7_look 226 = .ok (.aload_n 0, 1) := by decide +kernel
theorem dX7_look_227 : decode cX7_look 227 = .ok (.iload_n 1, 1) := by decide +kernel
theorem dX7_look_228 : decode cX7_look 228 = .ok (.iload_n 3, 1) := by decide +kernel
theorem dX7_look_229 : decode cX7_look 229 = .ok (.aload_n 0, 1) := by decide +kernel
theorem dX7_look_230 : decode cX7_look 230 = .ok (.aload_n 0, 1) := by decide +kernel
theorem dX7_look_231 : decode cX7_look 231 = .ok (.getfield 69, 3) := by decide +kernel
theorem dX7_look_234 : decode cX7_look 234 = .ok (.bipush 6, 2) := by decide +kernel
theorem dX7_look_236 : decode cX7_look 236 = .ok (.invokevirtual 164, 3) := by decide +kernel
theorem dX7_look_239 : decode cX7_look 239 = .ok (.iconst (-1), 1) := by decide +kernel
theorem dX7_look_240 : decode cX7_look 240 = .ok (.iload 4, 2) := by decide +kernel
theorem dX7_look_242 : decode cX7_look 242 = .ok (.isub, 1) := by decide +kernel
theorem dX7_look_243 : decode cX7_look 243 = .ok (.invokevirtual 137, 3) := by decide +kernel
theorem dX7_look_246 : decode cX7_look 246 = .ok (.aload_n 0, 1) := by decide +kernel
theorem dX7_look_247 : decode cX7_look 247 = .ok (.iload_n 1, 1) := by decide +kernel
theorem dX7_look_248 : decode cX7_look 248 = .ok (.iload_n 3, 1) := by decide +kernel
theorem dX7_look_249 : decode cX7_look 249 = .ok (.aload_n 0, 1) := by decide +kernel
theorem dX7_look_250 : decode cX7_look 250 = .ok (.aload_n 0, 1) := by decide +kernel
theorem dX7_look_251 : decode cX7_look 251 = .ok (.getfield 69, 3) := by decide +kernel
theorem dX7_look_254 : decode cX7_look 254 = .ok (.iconst 0, 1) := by decide +kernel
theorem dX7_look_255 : decode cX7_look 255 = .ok (.invokevirtual 164, 3) := by decide +kernel
theorem dX7_look_258 : decode cX7_look 258 = .ok (.invokevirtual 96, 3) := by decide +kernel
theorem dX7_look_261 : decode cX7_look 261 = .ok (.istore 5, 2) := by decide +kernel
theorem dX7_look_263 : decode cX7_look 263 = .ok (.aload_n 0, 1) := by decide +kernel
theorem dX7_look_264 : decode cX7_look 264 = .ok (.getfield 69, 3) := by decide +kernel
theorem dX7_look_267 : decode cX7_look 267 = .ok (.iconst 0, 1) := by decide +kernel
theorem dX7_look_268 : decode cX7_look 268 = .ok (.baload, 1) := by decide +kernel
theorem dX7_look_269 : decode cX7_look 269 = .ok (.iconst 1, 1) := by decide +kernel
theorem dX7_look_270 : decode cX7_look 270 = .ok (.iand, 1) := by decide +kernel
theorem dX7_look_271 : decode cX7_look 271 = .ok (.iconst 1, 1) := by decide +kernel
theorem dX7_look_272 : decode cX7_look 272 = .ok (.if_icmp .eq 9, 3) := by decide +kernel
theorem dX7_look_275 : decode cX7_look 275 = .ok (.iload 5, 2) := by decide +kernel
theorem dX7_look_277 : decode cX7_look 277 = .ok (.iconst (-1), 1) := by decide +kernel
theorem dX7_look_278 : decode cX7_look 278 = .ok (.if_icmp .ne 13, 3) := by decide +kernel
theorem dX7_look_281 : decode cX7_look 281 = .ok (.aload_n 0, 1) := by decide +kernel
theorem dX7_look_282 : decode cX7_look 282 = .ok (.iload_n 1, 1) := by decide +kernel
theorem dX7_look_283 : decode cX7_look 283 = .ok (.iload_n 3, 1) := by decide +kernel
theorem dX7_look_284 : decode cX7_look 284 = .ok (.iconst (-1), 1) := by decide +kernel
theorem dX7_look_285 : decode cX7_look 285 = .ok (.invokevirtual 141, 3) := by decide +kernel
theorem dX7_look_288 : decode cX7_look 288 = .ok (.goto 43, 3) := by decide +kernel
theorem dX7_look_291 : decode cX7_look 291 = .ok (.aload_n 0, 1) := by decide +kernel
theorem dX7_look_292 : decode cX7_look 292 = .ok (.getfield 45, 3) := by decide +kernel
theorem dX7_look_295 : decode cX7_look 295 = .ok (.iload 5, 2) := by decide +kernel
theorem dX7_look_297 : decode cX7_look 297 = .ok (.iaload, 1) := by decide +kernel
theorem dX7_look_298 : decode cX7_look 298 = .ok (.ifCond .ge 6, 3) := by decide +kernel
theorem dX7_look_301 : decode cX7_look 301 = .ok (.bipush 9, 2) := by decide +kernel
theorem dX7_look_303 : decode cX7_look 303 = .ok (.ireturn, 1) := by decide +kernel
theorem dX7_look_304 : decode cX7_look 304 = .ok (.aload_n 0, 1) := by decide +kernel
theorem dX7_look_305 : decode cX7_look 305 = .ok (.getfield 7, 3) := by decide +kernel
theorem dX7_look_308 : decode cX7_look 308 = .ok (.aload_n 0, 1) := by decide +kernel
theorem dX7_look_309 : decode cX7_look 309 = .ok (.getfield 45, 3) := by decide +kernel
theorem dX7_look_312 : decode cX7_look 312 = .ok (.iload 5, 2) := by decide +kernel
theorem dX7_look_314 : decode cX7_look 314 = .ok (.iaload, 1) := by decide +kernel
theorem dX7_look_315 : decode cX7_look 315 = .ok (.iaload, 1) := by decide +kernel
theorem dX7_look_316 : decode cX7_look 316 = .ok (.iload_n 1, 1) := by decide +kernel
theorem dX7_look_317 : decode cX7_look 317 = .ok (.if_icmp .ne 14, 3) := by decide +kernel
theorem dX7_look_320 : decode cX7_look 320 = .ok (.aload_n 0, 1) := by decide +kernel
theorem dX7_look_321 : decode cX7_look 321 = .ok (.aload_n 0, 1) := by decide +kernel
theorem dX7_look_322 : decode cX7_look 322 = .ok (.getfield 45, 3) := by decide +kernel
theorem dX7_look_325 : decode cX7_look 325 = .ok (.iload 5, 2) := by decide +kernel
theorem dX7_look_327 : decode cX7_look 327 = .ok (.iaload, 1) := by decide +kernel
theorem dX7_look_328 : decode cX7_look 328 = .ok (.invokevirtual 107, 3) := by decide +kernel
theorem dX7_look_331 : decode cX7_look 331 = .ok (.iconst 0, 1) := by decide +kernel
theorem dX7_look_332 : decode cX7_look 332 = .ok (.ireturn, 1) := by decide +kernel
theorem dX7_isPacket_0 : decode cX7_isPacket 0 = .ok (.iload_n 1, 1) := by decide +kernel
theorem dX7_isPacket_1 : decode cX7_isPacket 1 = .ok (.ifCond .lt 15, 3) := by decide +kernel
theorem dX7_isPacket_4 : decode cX7_isPacket 4 = .ok (.iload_n 1, 1) := by decide +kernel
theorem dX7_isPacket_5 : decode cX7_isPacket 5 = .ok (.aload_n 0, 1) := by decide +kernel
theorem dX7_isPacket_6 : decode cX7_isPacket 6 = .ok (.getfield 83, 3) := by decide +kernel
theorem dX7_isPacket_9 : decode cX7_isPacket 9 = .ok (.if_icmp .ge 7, 3) := by decide +kernel
theorem dX7_isPacket_12 : decode cX7_isPacket 12 = .ok (.iconst 1, 1) := by decide +kernel
theorem dX7_isPacket_13 : decode cX7_isPacket 13 = .ok (.goto 4, 3) := by decide +kernel
theorem dX7_isPacket_16 : decode cX7_isPacket 16 = .ok (.iconst 0, 1) := by decide +kernel
theorem dX7_isPacket_17 : decode cX7_isPacket 17 = .ok (.ireturn, 1) := by decide +kernel
theorem dX7_take_0 : decode cX7_take 0 = .ok (.aload_n 0, 1) := by decide +kernel
theorem dX7_take_1 : decode cX7_take 1 = .ok (.aload_n 0, 1) := by decide +kernel
theorem dX7_take_2 : decode cX7_take 2 = .ok (.getfield 57, 3) := by decide +kernel
theorem dX7_take_5 : decode cX7_take 5 = .ok (.iload_n 1, 1) := by decide +kernel
theorem dX7_take_6 : decode cX7_take 6 = .ok (.iaload, 1) := by decide +kernel
theorem dX7_take_7 : decode cX7_take 7 = .ok (.putfield 112, 3) := by decide +kernel
theorem dX7_take_10 : decode cX7_take 10 = .ok (.iconst 0, 1) := by decide +kernel
theorem dX7_take_11 : decode cX7_take 11 = .ok (.istore_n 3, 1) := by decide +kernel
theorem dX7_take_12 : decode cX7_take 12 = .ok (.iload_n 3, 1) := by decide +kernel
theorem dX7_take_13 : decode cX7_take 13 = .ok (.aload_n 0, 1) := by decide +kernel
theorem dX7_take_14 : decode cX7_take 14 = .ok (.getfield 112, 3) := by decide +kernel
theorem dX7_take_17 : decode cX7_take 17 = .ok (.if_icmp .ge 26, 3) := by decide +kernel
theorem dX7_take_20 : decode cX7_take 20 = .ok (.aload_n 0, 1) := by decide +kernel
theorem dX7_take_21 : decode cX7_take 21 = .ok (.getfield 66, 3) := by decide +kernel
theorem dX7_take_24 : decode cX7_take 24 = .ok (.iload_n 3, 1) := by decide +kernel
theorem dX7_take_25 : decode cX7_take 25 = .ok (.aload_n 0, 1) := by decide +kernel
theorem dX7_take_26 : decode cX7_take 26 = .ok (.getfield 54, 3) := by decide +kernel
theorem dX7_take_29 : decode cX7_take 29 = .ok (.bipush 120, 2) := by decide +kernel
theorem dX7_take_31 : decode cX7_take 31 = .ok (.iload_n 1, 1) := by decide +kernel
theorem dX7_take_32 : decode cX7_take 32 = .ok (.imul, 1) := by decide +kernel
theorem dX7_take_33 : decode cX7_take 33 = .ok (.iload_n 3, 1) := by decide +kernel
theorem dX7_take_34 : decode cX7_take 34 = .ok (.iadd, 1) := by decide +kernel
theorem dX7_take_35 : decode cX7_take 35 = .ok (.baload, 1) := by decide +kernel
theorem dX7_take_36 : decode cX7_take 36 = .ok (.bastore, 1) := by decide +kernel
theorem dX7_take_37 : decode cX7_take 37 = .ok (.iinc 3 1, 3) := by decide +kernel
theorem dX7_take_40 : decode cX7_take 40 = .ok (.goto (-28), 3) := by decide +kernel
theorem dX7_take_43 : decode cX7_take 43 = .ok (.aload_n 0, 1) := by decide +kernel
theorem dX7_take_44 : decode cX7_take 44 = .ok (.getfield 60, 3) := by decide +kernel
theorem dX7_take_47 : decode cX7_take 47 = .ok (.iload_n 1, 1) := by decide +kernel
theorem dX7_take_48 : decode cX7_take 48 = .ok (.iaload, 1) := by decide +kernel
theorem dX7_take_49 : decode cX7_take 49 = .ok (.istore_n 3, 1) := by decide +kernel
theorem dX7_take_50 : decode cX7_take 50 = .ok (.iload_n 2, 1) := by decide +kernel
theorem dX7_take_51 : decode cX7_take 51 = .ok (.ifCond .ne 8, 3) := by decide +kernel
theorem dX7_take_54 : decode cX7_take 54 = .ok (.aload_n 0, 1) := by decide +kernel
theorem dX7_take_55 : decode cX7_take 55 = .ok (.iload_n 1, 1) := by decide +kernel
theorem dX7_take_56 : decode cX7_take 56 = .ok (.invokevirtual 128, 3) := by decide +kernel
theorem dX7_take_59 : decode cX7_take 59 = .ok (.aload_n 0, 1) := by decide +kernel
theorem dX7_take_60 : decode cX7_take 60 = .ok (.iload_n 3, 1) := by decide +kernel
theorem dX7_take_61 : decode cX7_take 61 = .ok (.invokevirtual 168, 3) := by decide +kernel
theorem dX7_take_64 : decode cX7_take 64 = .ok (.ireturn, 1) := by decide +kernel
theorem dX7_deliver_0 : decode cX7_deliver 0 = .ok (.aload_n 0, 1) := by decide +kernel
theorem dX7_deliver_1 : decode cX7_deliver 1 = .ok (.iload_n 1, 1) := by decide +kernel
theorem dX7_deliver_2 : decode cX7_deliver 2 = .ok (.invokevirtual 171, 3) := by decide +kernel
theorem dX7_deliver_5 : decode cX7_deliver 5 = .ok (.ifCond .eq 12, 3) := by decide +kernel
theorem dX7_deliver_8 : decode cX7_deliver 8 = .ok (.aload_n 0, 1) := by decide +kernel
theorem dX7_deliver_9 : decode cX7_deliver 9 = .ok (.iload_n 1, 1) := by decide +kernel
theorem dX7_deliver_10 : decode cX7_deliver 10 = .ok (.iconst 0, 1) := by decide +kernel
theorem dX7_deliver_11 : decode cX7_deliver 11 = .ok (.invokevirtual 174, 3) := by decide +kernel
theorem dX7_deliver_14 : decode cX7_deliver 14 = .ok (.goto 4, 3) := by decide +kernel
theorem dX7_deliver_17 : decode cX7_deliver 17 = .ok (.iconst (-1), 1) := by decide +kernel
theorem dX7_deliver_18 : decode cX7_deliver 18 = .ok (.ireturn, 1) := by decide +kernel
theorem dX7_twice_0 : decode cX7_twice 0 = .ok (.aload_n 0, 1) := by decide +kernel
theorem dX7_twice_1 : decode cX7_twice 1 = .ok (.iload_n 1, 1) := by decide +kernel
theorem dX7_twice_2 : decode cX7_twice 2 = .ok (.invokevirtual 171, 3) := by decide +kernel
theorem dX7_twice_5 : decode cX7_twice 5 = .ok (.ifCond .eq 12, 3) := by decide +kernel
theorem dX7_twice_8 : decode cX7_twice 8 = .ok (.aload_n 0, 1) := by decide +kernel
theorem dX7_twice_9 : decode cX7_twice 9 = .ok (.iload_n 1, 1) := by decide +kernel
theorem dX7_twice_10 : decode cX7_twice 10 = .ok (.iconst 1, 1) := by decide +kernel
theorem dX7_twice_11 : decode cX7_twice 11 = .ok (.invokevirtual 174, 3) := by decide +kernel
theorem dX7_twice_14 : decode cX7_twice 14 = .ok (.goto 4, 3) := by decide +kernel
theorem dX7_twice_17 : decode cX7_twice 17 = .ok (.iconst (-1), 1) := by decide +kernel
theorem dX7_twice_18 : decode cX7_twice 18 = .ok (.ireturn, 1) := by decide +kernel
theorem dX7_lose_0 : decode cX7_lose 0 = .ok (.aload_n 0, 1) := by decide +kernel
theorem dX7_lose_1 : decode cX7_lose 1 = .ok (.iload_n 1, 1) := by decide +kernel
theorem dX7_lose_2 : decode cX7_lose 2 = .ok (.invokevirtual 171, 3) := by decide +kernel
theorem dX7_lose_5 : decode cX7_lose 5 = .ok (.ifCond .ne 5, 3) := by decide +kernel
theorem dX7_lose_8 : decode cX7_lose 8 = .ok (.iconst 0, 1) := by decide +kernel
theorem dX7_lose_9 : decode cX7_lose 9 = .ok (.ireturn, 1) := by decide +kernel
theorem dX7_lose_10 : decode cX7_lose 10 = .ok (.aload_n 0, 1) := by decide +kernel
theorem dX7_lose_11 : decode cX7_lose 11 = .ok (.iload_n 1, 1) := by decide +kernel
theorem dX7_lose_12 : decode cX7_lose 12 = .ok (.invokevirtual 128, 3) := by decide +kernel
theorem dX7_lose_15 : decode cX7_lose 15 = .ok (.iconst 1, 1) := by decide +kernel
theorem dX7_lose_16 : decode cX7_lose 16 = .ok (.ireturn, 1) := by decide +kernel
theorem dX7_inject_0 : decode cX7_inject 0 = .ok (.aload_n 0, 1) := by decide +kernel
theorem dX7_inject_1 : decode cX7_inject 1 = .ok (.iload_n 1, 1) := by decide +kernel
theorem dX7_inject_2 : decode cX7_inject 2 = .ok (.invokevirtual 86, 3) := by decide +kernel
theorem dX7_inject_5 : decode cX7_inject 5 = .ok (.ifCond .ne 5, 3) := by decide +kernel
theorem dX7_inject_8 : decode cX7_inject 8 = .ok (.iconst (-1), 1) := by decide +kernel
theorem dX7_inject_9 : decode cX7_inject 9 = .ok (.ireturn, 1) := by decide +kernel
theorem dX7_inject_10 : decode cX7_inject 10 = .ok (.aload_n 0, 1) := by decide +kernel
theorem dX7_inject_11 : decode cX7_inject 11 = .ok (.aload_n 0, 1) := by decide +kernel
theorem dX7_inject_12 : decode cX7_inject 12 = .ok (.getfield 93, 3) := by decide +kernel
theorem dX7_inject_15 : decode cX7_inject 15 = .ok (.putfield 112, 3) := by decide +kernel
theorem dX7_inject_18 : decode cX7_inject 18 = .ok (.iconst 0, 1) := by decide +kernel
theorem dX7_inject_19 : decode cX7_inject 19 = .ok (.istore_n 2, 1) := by decide +kernel
theorem dX7_inject_20 : decode cX7_inject 20 = .ok (.iload_n 2, 1) := by decide +kernel
theorem dX7_inject_21 : decode cX7_inject 21 = .ok (.aload_n 0, 1) := by decide +kernel
theorem dX7_inject_22 : decode cX7_inject 22 = .ok (.getfield 93, 3) := by decide +kernel
theorem dX7_inject_25 : decode cX7_inject 25 = .ok (.if_icmp .ge 21, 3) := by decide +kernel
theorem dX7_inject_28 : decode cX7_inject 28 = .ok (.aload_n 0, 1) := by decide +kernel
theorem dX7_inject_29 : decode cX7_inject 29 = .ok (.getfield 66, 3) := by decide +kernel
theorem dX7_inject_32 : decode cX7_inject 32 = .ok (.iload_n 2, 1) := by decide +kernel
theorem dX7_inject_33 : decode cX7_inject 33 = .ok (.aload_n 0, 1) := by decide +kernel
theorem dX7_inject_34 : decode cX7_inject 34 = .ok (.getfield 51, 3) := by decide +kernel
theorem dX7_inject_37 : decode cX7_inject 37 = .ok (.iload_n 2, 1) := by decide +kernel
theorem dX7_inject_38 : decode cX7_inject 38 = .ok (.baload, 1) := by decide +kernel
theorem dX7_inject_39 : decode cX7_inject 39 = .ok (.bastore, 1) := by decide +kernel
theorem dX7_inject_40 : decode cX7_inject 40 = .ok (.iinc 2 1, 3) := by decide +kernel
theorem dX7_inject_43 : decode cX7_inject 43 = .ok (.goto (-23), 3) := by decide +kernel
theorem dX7_inject_46 : decode cX7_inject 46 = .ok (.aload_n 0, 1) := by decide +kernel
theorem dX7_inject_47 : decode cX7_inject 47 = .ok (.iconst 0, 1) := by decide +kernel
theorem dX7_inject_48 : decode cX7_inject 48 = .ok (.putfield 93, 3) := by decide +kernel
theorem dX7_inject_51 : decode cX7_inject 51 = .ok (.aload_n 0, 1) := by decide +kernel
theorem dX7_inject_52 : decode cX7_inject 52 = .ok (.iload_n 1, 1) := by decide +kernel
theorem dX7_inject_53 : decode cX7_inject 53 = .ok (.invokevirtual 168, 3) := by decide +kernel
theorem dX7_inject_56 : decode cX7_inject 56 = .ok (.ireturn, 1) := by decide +kernel
theorem dX7_poke_0 : decode cX7_poke 0 = .ok (.aload_n 0, 1) := by decide +kernel
theorem dX7_poke_1 : decode cX7_poke 1 = .ok (.iload_n 1, 1) := by decide +kernel
theorem dX7_poke_2 : decode cX7_poke 2 = .ok (.invokevirtual 171, 3) := by decide +kernel
theorem dX7_poke_5 : decode cX7_poke 5 = .ok (.ifCond .eq 29, 3) := by decide +kernel
theorem dX7_poke_8 : decode cX7_poke 8 = .ok (.iload_n 2, 1) := by decide +kernel
theorem dX7_poke_9 : decode cX7_poke 9 = .ok (.ifCond .lt 25, 3) := by decide +kernel
theorem dX7_poke_12 : decode cX7_poke 12 = .ok (.iload_n 2, 1) := by decide +kernel
theorem dX7_poke_13 : decode cX7_poke 13 = .ok (.aload_n 0, 1) := by decide +kernel
theorem dX7_poke_14 : decode cX7_poke 14 = .ok (.getfield 57, 3) := by decide +kernel
theorem dX7_poke_17 : decode cX7_poke 17 = .ok (.iload_n 1, 1) := by decide +kernel
theorem dX7_poke_18 : decode cX7_poke 18 = .ok (.iaload, 1) := by decide +kernel
theorem dX7_poke_19 : decode cX7_poke 19 = .ok (.if_icmp .ge 15, 3) := by decide +kernel
theorem dX7_poke_22 : decode cX7_poke 22 = .ok (.iload_n 3, 1) := by decide +kernel
theorem dX7_poke_23 : decode cX7_poke 23 = .ok (.iconst 1, 1) := by decide +kernel
theorem dX7_poke_24 : decode cX7_poke 24 = .ok (.if_icmp .lt 10, 3) := by decide +kernel
theorem dX7_poke_27 : decode cX7_poke 27 = .ok (.iload_n 3, 1) := by decide +kernel
theorem dX7_poke_28 : decode cX7_poke 28 = .ok (.sipush 255, 3) := by decide +kernel
theorem dX7_poke_31 : decode cX7_poke 31 = .ok (.if_icmp .le 5, 3) := by decide +kernel
theorem dX7_poke_34 : decode cX7_poke 34 = .ok (.iconst 0, 1) := by decide +kernel
theorem dX7_poke_35 : decode cX7_poke 35 = .ok (.ireturn, 1) := by decide +kernel
theorem dX7_poke_36 : decode cX7_poke 36 = .ok (.aload_n 0, 1) := by decide +kernel
theorem dX7_poke_37 : decode cX7_poke 37 = .ok (.getfield 54, 3) := by decide +kernel
theorem dX7_poke_40 : decode cX7_poke 40 = .ok (.bipush 120, 2) := by decide +kernel
theorem dX7_poke_42 : decode cX7_poke 42 = .ok (.iload_n 1, 1) := by decide +kernel
theorem dX7_poke_43 : decode cX7_poke 43 = .ok (.imul, 1) := by decide +kernel
theorem dX7_poke_44 : decode cX7_poke 44 = .ok (.iload_n 2, 1) := by decide +kernel
theorem dX7_poke_45 : decode cX7_poke 45 = .ok (.iadd, 1) := by decide +kernel
theorem dX7_poke_46 : decode cX7_poke 46 = .ok (.dup2, 1) := by decide +kernel
theorem dX7_poke_47 : decode cX7_poke 47 = .ok (.baload, 1) := by decide +kernel
theorem dX7_poke_48 : decode cX7_poke 48 = .ok (.iload_n 3, 1) := by decide +kernel
theorem dX7_poke_49 : decode cX7_poke 49 = .ok (.ixor, 1) := by decide +kernel
theorem dX7_poke_50 : decode cX7_poke 50 = .ok (.i2b, 1) := by decide +kernel
theorem dX7_poke_51 : decode cX7_poke 51 = .ok (.bastore, 1) := by decide +kernel
theorem dX7_poke_52 : decode cX7_poke 52 = .ok (.iconst 1, 1) := by decide +kernel
theorem dX7_poke_53 : decode cX7_poke 53 = .ok (.ireturn, 1) := by decide +kernel
theorem dX7_flying_0 : decode cX7_flying 0 = .ok (.aload_n 0, 1) := by decide +kernel
theorem dX7_flying_1 : decode cX7_flying 1 = .ok (.getfield 83, 3) := by decide +kernel
theorem dX7_flying_4 : decode cX7_flying 4 = .ok (.ireturn, 1) := by decide +kernel
theorem dX7_packet_0 : decode cX7_packet 0 = .ok (.aload_n 0, 1) := by decide +kernel
theorem dX7_packet_1 : decode cX7_packet 1 = .ok (.iload_n 1, 1) := by decide +kernel
theorem dX7_packet_2 : decode cX7_packet 2 = .ok (.invokevirtual 171, 3) := by decide +kernel
theorem dX7_packet_5 : decode cX7_packet 5 = .ok (.ifCond .eq 35, 3) := by decide +kernel
theorem dX7_packet_8 : decode cX7_packet 8 = .ok (.iload_n 2, 1) := by decide +kernel
theorem dX7_packet_9 : decode cX7_packet 9 = .ok (.ifCond .lt 31, 3) := by decide +kernel
theorem dX7_packet_12 : decode cX7_packet 12 = .ok (.iload_n 2, 1) := by decide +kernel
theorem dX7_packet_13 : decode cX7_packet 13 = .ok (.aload_n 0, 1) := by decide +kernel
theorem dX7_packet_14 : decode cX7_packet 14 = .ok (.getfield 57, 3) := by decide +kernel
theorem dX7_packet_17 : decode cX7_packet 17 = .ok (.iload_n 1, 1) := by decide +kernel
theorem dX7_packet_18 : decode cX7_packet 18 = .ok (.iaload, 1) := by decide +kernel
theorem dX7_packet_19 : decode cX7_packet 19 = .ok (.if_icmp .ge 21, 3) := by decide +kernel
theorem dX7_packet_22 : decode cX7_packet 22 = .ok (.aload_n 0, 1) := by decide +kernel
theorem dX7_packet_23 : decode cX7_packet 23 = .ok (.getfield 54, 3) := by decide +kernel
theorem dX7_packet_26 : decode cX7_packet 26 = .ok (.bipush 120, 2) := by decide +kernel
theorem dX7_packet_28 : decode cX7_packet 28 = .ok (.iload_n 1, 1) := by decide +kernel
theorem dX7_packet_29 : decode cX7_packet 29 = .ok (.imul, 1) := by decide +kernel
theorem dX7_packet_30 : decode cX7_packet 30 = .ok (.iload_n 2, 1) := by decide +kernel
theorem dX7_packet_31 : decode cX7_packet 31 = .ok (.iadd, 1) := by decide +kernel
theorem dX7_packet_32 : decode cX7_packet 32 = .ok (.baload, 1) := by decide +kernel
theorem dX7_packet_33 : decode cX7_packet 33 = .ok (.sipush 255, 3) := by decide +kernel
theorem dX7_packet_36 : decode cX7_packet 36 = .ok (.iand, 1) := by decide +kernel
theorem dX7_packet_37 : decode cX7_packet 37 = .ok (.goto 4, 3) := by decide +kernel
theorem dX7_packet_40 : decode cX7_packet 40 = .ok (.iconst (-1), 1) := by decide +kernel
theorem dX7_packet_41 : decode cX7_packet 41 = .ok (.ireturn, 1) := by decide +kernel
theorem dX7_size_0 : decode cX7_size 0 = .ok (.aload_n 0, 1) := by decide +kernel
theorem dX7_size_1 : decode cX7_size 1 = .ok (.iload_n 1, 1) := by decide +kernel
theorem dX7_size_2 : decode cX7_size 2 = .ok (.invokevirtual 171, 3) := by decide +kernel
theorem dX7_size_5 : decode cX7_size 5 = .ok (.ifCond .eq 12, 3) := by decide +kernel
theorem dX7_size_8 : decode cX7_size 8 = .ok (.aload_n 0, 1) := by decide +kernel
theorem dX7_size_9 : decode cX7_size 9 = .ok (.getfield 57, 3) := by decide +kernel
theorem dX7_size_12 : decode cX7_size 12 = .ok (.iload_n 1, 1) := by decide +kernel
theorem dX7_size_13 : decode cX7_size 13 = .ok (.iaload, 1) := by decide +kernel
theorem dX7_size_14 : decode cX7_size 14 = .ok (.goto 4, 3) := by decide +kernel
theorem dX7_size_17 : decode cX7_size 17 = .ok (.iconst (-1), 1) := by decide +kernel
theorem dX7_size_18 : decode cX7_size 18 = .ok (.ireturn, 1) := by decide +kernel
theorem dX7_tick_0 : decode cX7_tick 0 = .ok (.iload_n 1, 1) := by decide +kernel
theorem dX7_tick_1 : decode cX7_tick 1 = .ok (.iconst 1, 1) := by decide +kernel
theorem dX7_tick_2 : decode cX7_tick 2 = .ok (.if_icmp .lt 10, 3) := by decide +kernel
theorem dX7_tick_5 : decode cX7_tick 5 = .ok (.iload_n 1, 1) := by decide +kernel
theorem dX7_tick_6 : decode cX7_tick 6 = .ok (.sipush 1000, 3) := by decide +kernel
theorem dX7_tick_9 : decode cX7_tick 9 = .ok (.if_icmp .le 5, 3) := by decide +kernel
theorem dX7_tick_12 : decode cX7_tick 12 = .ok (.iconst (-1), 1) := by decide +kernel
theorem dX7_tick_13 : decode cX7_tick 13 = .ok (.ireturn, 1) := by decide +kernel
theorem dX7_tick_14 : decode cX7_tick 14 = .ok (.iconst 0, 1) := by decide +kernel
theorem dX7_tick_15 : decode cX7_tick 15 = .ok (.istore_n 2, 1) := by decide +kernel
theorem dX7_tick_16 : decode cX7_tick 16 = .ok (.iconst 0, 1) := by decide +kernel
theorem dX7_tick_17 : decode cX7_tick 17 = .ok (.istore_n 3, 1) := by decide +kernel
theorem dX7_tick_18 : decode cX7_tick 18 = .ok (.iload_n 3, 1) := by decide +kernel
theorem dX7_tick_19 : decode cX7_tick 19 = .ok (.aload_n 0, 1) := by decide +kernel
theorem dX7_tick_20 : decode cX7_tick 20 = .ok (.getfield 76, 3) := by decide +kernel
theorem dX7_tick_23 : decode cX7_tick 23 = .ok (.if_icmp .ge 76, 3) := by decide +kernel
theorem dX7_tick_26 : decode cX7_tick 26 = .ok (.bipush 24, 2) := by decide +kernel
theorem dX7_tick_28 : decode cX7_tick 28 = .ok (.iload_n 3, 1) := by decide +kernel
theorem dX7_tick_29 : decode cX7_tick 29 = .ok (.imul, 1) := by decide +kernel
theorem dX7_tick_30 : decode cX7_tick 30 = .ok (.istore 4, 2) := by decide +kernel
theorem dX7_tick_32 : decode cX7_tick 32 = .ok (.iload 4, 2) := by decide +kernel
theorem dX7_tick_34 : decode cX7_tick 34 = .ok (.bipush 24, 2) := by decide +kernel
theorem dX7_tick_36 : decode cX7_tick 36 = .ok (.iload_n 3, 1) := by decide +kernel
theorem dX7_tick_37 : decode cX7_tick 37 = .ok (.imul, 1) := by decide +kernel
theorem dX7_tick_38 : decode cX7_tick 38 = .ok (.aload_n 0, 1) := by decide +kernel
theorem dX7_tick_39 : decode cX7_tick 39 = .ok (.getfield 35, 3) := by decide +kernel
theorem dX7_tick_42 : decode cX7_tick 42 = .ok (.iload_n 3, 1) := by decide +kernel
theorem dX7_tick_43 : decode cX7_tick 43 = .ok (.iaload, 1) := by decide +kernel
theorem dX7_tick_44 : decode cX7_tick 44 = .ok (.iadd, 1) := by decide +kernel
theorem dX7_tick_45 : decode cX7_tick 45 = .ok (.if_icmp .ge 48, 3) := by decide +kernel
theorem dX7_tick_48 : decode cX7_tick 48 = .ok (.aload_n 0, 1) := by decide +kernel
theorem dX7_tick_49 : decode cX7_tick 49 = .ok (.getfield 48, 3) := by decide +kernel
theorem dX7_tick_52 : decode cX7_tick 52 = .ok (.iload 4, 2) := by decide +kernel
theorem dX7_tick_54 : decode cX7_tick 54 = .ok (.dup2, 1) := by decide +kernel
theorem dX7_tick_55 : decode cX7_tick 55 = .ok (.laload, 1) := by decide +kernel
theorem dX7_tick_56 : decode cX7_tick 56 = .ok (.iload_n 1, 1) := by decide +kernel
theorem dX7_tick_57 : decode cX7_tick 57 = .ok (.i2l, 1) := by decide +kernel
theorem dX7_tick_58 : decode cX7_tick 58 = .ok (.ladd, 1) := by decide +kernel
theorem dX7_tick_59 : decode cX7_tick 59 = .ok (.lastore, 1) := by decide +kernel
theorem dX7_tick_60 : decode cX7_tick 60 = .ok (.aload_n 0, 1) := by decide +kernel
theorem dX7_tick_61 : decode cX7_tick 61 = .ok (.getfield 48, 3) := by decide +kernel
theorem dX7_tick_64 : decode cX7_tick 64 = .ok (.iload 4, 2) := by decide +kernel
theorem dX7_tick_66 : decode cX7_tick 66 = .ok (.laload, 1) := by decide +kernel
theorem dX7_tick_67 : decode cX7_tick 67 = .ok (.ldc2_w 178, 3) := by decide +kernel
theorem dX7_tick_70 : decode cX7_tick 70 = .ok (.lcmp, 1) := by decide +kernel
theorem dX7_tick_71 : decode cX7_tick 71 = .ok (.ifCond .le 16, 3) := by decide +kernel
theorem dX7_tick_74 : decode cX7_tick 74 = .ok (.aload_n 0, 1) := by decide +kernel
theorem dX7_tick_75 : decode cX7_tick 75 = .ok (.iload_n 3, 1) := by decide +kernel
theorem dX7_tick_76 : decode cX7_tick 76 = .ok (.iload 4, 2) := by decide +kernel
theorem dX7_tick_78 : decode cX7_tick 78 = .ok (.invokevirtual 100, 3) := by decide +kernel
theorem dX7_tick_81 : decode cX7_tick 81 = .ok (.iinc 2 1, 3) := by decide +kernel
theorem dX7_tick_84 : decode cX7_tick 84 = .ok (.goto (-52), 3) := by decide +kernel
theorem dX7_tick_87 : decode cX7_tick 87 = .ok (.iinc 4 1, 3) := by decide +kernel
theorem dX7_tick_90 : decode cX7_tick 90 = .ok (.goto (-58), 3) := by decide +kernel
theorem dX7_tick_93 : decode cX7_tick 93 = .ok (.iinc 3 1, 3) := by decide +kernel
theorem dX7_tick_96 : decode cX7_tick 96 = .ok (.goto (-78), 3) := by decide +kernel
theorem dX7_tick_99 : decode cX7_tick 99 = .ok (.iload_n 2, 1) := by decide +kernel
theorem dX7_tick_100 : decode cX7_tick 100 = .ok (.ireturn, 1) := by decide +kernel
theorem dX7_forget_0 : decode cX7_forget 0 = .ok (.aload_n 0, 1) := by decide +kernel
theorem dX7_forget_1 : decode cX7_forget 1 = .ok (.iload_n 1, 1) := by decide +kernel
theorem dX7_forget_2 : decode cX7_forget 2 = .ok (.invokevirtual 86, 3) := by decide +kernel
theorem dX7_forget_5 : decode cX7_forget 5 = .ok (.ifCond .ne 5, 3) := by decide +kernel
theorem dX7_forget_8 : decode cX7_forget 8 = .ok (.iconst (-1), 1) := by decide +kernel
theorem dX7_forget_9 : decode cX7_forget 9 = .ok (.ireturn, 1) := by decide +kernel
theorem dX7_forget_10 : decode cX7_forget 10 = .ok (.aload_n 0, 1) := by decide +kernel
theorem dX7_forget_11 : decode cX7_forget 11 = .ok (.getfield 35, 3) := by decide +kernel
theorem dX7_forget_14 : decode cX7_forget 14 = .ok (.iload_n 1, 1) := by decide +kernel
theorem dX7_forget_15 : decode cX7_forget 15 = .ok (.iaload, 1) := by decide +kernel
theorem dX7_forget_16 : decode cX7_forget 16 = .ok (.istore_n 2, 1) := by decide +kernel
theorem dX7_forget_17 : decode cX7_forget 17 = .ok (.aload_n 0, 1) := by decide +kernel
theorem dX7_forget_18 : decode cX7_forget 18 = .ok (.getfield 35, 3) := by decide +kernel
theorem dX7_forget_21 : decode cX7_forget 21 = .ok (.iload_n 1, 1) := by decide +kernel
theorem dX7_forget_22 : decode cX7_forget 22 = .ok (.iconst 0, 1) := by decide +kernel
theorem dX7_forget_23 : decode cX7_forget 23 = .ok (.iastore, 1) := by decide +kernel
theorem dX7_forget_24 : decode cX7_forget 24 = .ok (.iload_n 2, 1) := by decide +kernel
theorem dX7_forget_25 : decode cX7_forget 25 = .ok (.ireturn, 1) := by decide +kernel
theorem dX7_known_0 : decode cX7_known 0 = .ok (.aload_n 0, 1) := by decide +kernel
theorem dX7_known_1 : decode cX7_known 1 = .ok (.iload_n 1, 1) := by decide +kernel
theorem dX7_known_2 : decode cX7_known 2 = .ok (.invokevirtual 86, 3) := by decide +kernel
theorem dX7_known_5 : decode cX7_known 5 = .ok (.ifCond .eq 12, 3) := by decide +kernel
theorem dX7_known_8 : decode cX7_known 8 = .ok (.aload_n 0, 1) := by decide +kernel
theorem dX7_known_9 : decode cX7_known 9 = .ok (.getfield 35, 3) := by decide +kernel
theorem dX7_known_12 : decode cX7_known 12 = .ok (.iload_n 1, 1) := by decide +kernel
theorem dX7_known_13 : decode cX7_known 13 = .ok (.iaload, 1) := by decide +kernel
theorem dX7_known_14 : decode cX7_known 14 = .ok (.goto 4, 3) := by decide +kernel
theorem dX7_known_17 : decode cX7_known 17 = .ok (.iconst (-1), 1) := by decide +kernel
theorem dX7_known_18 : decode cX7_known 18 = .ok (.ireturn, 1) := by decide +kernel
theorem dX7_knows_0 : decode cX7_knows 0 = .ok (.aload_n 0, 1) := by decide +kernel
theorem dX7_knows_1 : decode cX7_knows 1 = .ok (.iload_n 1, 1) := by decide +kernel
theorem dX7_knows_2 : decode cX7_knows 2 = .ok (.invokevirtual 86, 3) := by decide +kernel
theorem dX7_knows_5 : decode cX7_knows 5 = .ok (.ifCond .eq 17, 3) := by decide +kernel
theorem dX7_knows_8 : decode cX7_knows 8 = .ok (.iload_n 2, 1) := by decide +kernel
theorem dX7_knows_9 : decode cX7_knows 9 = .ok (.ifCond .lt 13, 3) := by decide +kernel
theorem dX7_knows_12 : decode cX7_knows 12 = .ok (.iload_n 2, 1) := by decide +kernel
theorem dX7_knows_13 : decode cX7_knows 13 = .ok (.aload_n 0, 1) := by decide +kernel
theorem dX7_knows_14 : decode cX7_knows 14 = .ok (.getfield 35, 3) := by decide +kernel
theorem dX7_knows_17 : decode cX7_knows 17 = .ok (.iload_n 1, 1) := by decide +kernel
theorem dX7_knows_18 : decode cX7_knows 18 = .ok (.iaload, 1) := by decide +kernel
theorem dX7_knows_19 : decode cX7_knows 19 = .ok (.if_icmp .lt 7, 3) := by decide +kernel
theorem dX7_knows_22 : decode cX7_knows 22 = .ok (.ldc2_w 180, 3) := by decide +kernel
theorem dX7_knows_25 : decode cX7_knows 25 = .ok (.lreturn, 1) := by decide +kernel
theorem dX7_knows_26 : decode cX7_knows 26 = .ok (.bipush 24, 2) := by decide +kernel
theorem dX7_knows_28 : decode cX7_knows 28 = .ok (.iload_n 1, 1) := by decide +kernel
theorem dX7_knows_29 : decode cX7_knows 29 = .ok (.imul, 1) := by decide +kernel
theorem dX7_knows_30 : decode cX7_knows 30 = .ok (.iload_n 2, 1) := by decide +kernel
theorem dX7_knows_31 : decode cX7_knows 31 = .ok (.iadd, 1) := by decide +kernel
theorem dX7_knows_32 : decode cX7_knows 32 = .ok (.istore 4, 2) := by decide +kernel
theorem dX7_knows_34 : decode cX7_knows 34 = .ok (.iload_n 3, 1) := by decide +kernel
theorem dX7_knows_35 : decode cX7_knows 35 = .ok (.tableswitch 110 0 4 #[33, 42, 50, 77, 102], 33) := by decide +kernel
theorem dX7_knows_68 : decode cX7_knows 68 = .ok (.aload_n 0, 1) := by decide +kernel
theorem dX7_knows_69 : decode cX7_knows 69 = .ok (.getfield 38, 3) := by decide +kernel
theorem dX7_knows_72 : decode cX7_knows 72 = .ok (.iload 4, 2) := by decide +kernel
theorem dX7_knows_74 : decode cX7_knows 74 = .ok (.iaload, 1) := by decide +kernel
theorem dX7_knows_75 : decode cX7_knows 75 = .ok (.i2l, 1) := by decide +kernel
theorem dX7_knows_76 : decode cX7_knows 76 = .ok (.lreturn, 1) := by decide +kernel
theorem dX7_knows_77 : decode cX7_knows 77 = .ok (.aload_n 0, 1) := by decide +kernel
theorem dX7_knows_78 : decode cX7_knows 78 = .ok (.getfield 41, 3) := by decide +kernel
theorem dX7_knows_81 : decode cX7_knows 81 = .ok (.iload 4, 2) := by decide +kernel
theorem dX7_knows_83 : decode cX7_knows 83 = .ok (.laload, 1) := by decide +kernel
theorem dX7_knows_84 : decode cX7_knows 84 = .ok (.lreturn, 1) := by decide +kernel
theorem dX7_knows_85 : decode cX7_knows 85 = .ok (.aload_n 0, 1) := by decide +kernel
theorem dX7_knows_86 : decode cX7_knows 86 = .ok (.getfield 45, 3) := by decide +kernel
theorem dX7_knows_89 : decode cX7_knows 89 = .ok (.iload 4, 2) := by decide +kernel
theorem dX7_knows_91 : decode cX7_knows 91 = .ok (.iaload, 1) := by decide +kernel
theorem dX7_knows_92 : decode cX7_knows 92 = .ok (.ifCond .ge 16, 3) := by decide +kernel
theorem dX7_knows_95 : decode cX7_knows 95 = .ok (.iconst (-1), 1) := by decide +kernel
theorem dX7_knows_96 : decode cX7_knows 96 = .ok (.aload_n 0, 1) := by decide +kernel
theorem dX7_knows_97 : decode cX7_knows 97 = .ok (.getfield 45, 3) := by decide +kernel
theorem dX7_knows_100 : decode cX7_knows 100 = .ok (.iload 4, 2) := by decide +kernel
theorem dX7_knows_102 : decode cX7_knows 102 = .ok (.iaload, 1) := by decide +kernel
theorem dX7_knows_103 : decode cX7_knows 103 = .ok (.isub, 1) := by decide +kernel
theorem dX7_knows_104 : decode cX7_knows 104 = .ok (.i2l, 1) := by decide +kernel
theorem dX7_knows_105 : decode cX7_knows 105 = .ok (.goto 6, 3) := by decide +kernel
theorem dX7_knows_108 : decode cX7_knows 108 = .ok (.ldc2_w 180, 3) := by decide +kernel
theorem dX7_knows_111 : decode cX7_knows 111 = .ok (.lreturn, 1) := by decide +kernel
theorem dX7_knows_112 : decode cX7_knows 112 = .ok (.aload_n 0, 1) := by decide +kernel
theorem dX7_knows_113 : decode cX7_knows 113 = .ok (.getfield 45, 3) := by decide +kernel
theorem dX7_knows_116 : decode cX7_knows 116 = .ok (.iload 4, 2) := by decide +kernel
theorem dX7_knows_118 : decode cX7_knows 118 = .ok (.iaload, 1) := by decide +kernel
theorem dX7_knows_119 : decode cX7_knows 119 = .ok (.ifCond .ge 9, 3) := by decide +kernel
theorem dX7_knows_122 : decode cX7_knows 122 = .ok (.ldc2_w 180, 3) := by decide +kernel
theorem dX7_knows_125 : decode cX7_knows 125 = .ok (.goto 11, 3) := by decide +kernel
theorem dX7_knows_128 : decode cX7_knows 128 = .ok (.aload_n 0, 1) := by decide +kernel
theorem dX7_knows_129 : decode cX7_knows 129 = .ok (.getfield 45, 3) := by decide +kernel
theorem dX7_knows_132 : decode cX7_knows 132 = .ok (.iload 4, 2) := by decide +kernel
theorem dX7_knows_134 : decode cX7_knows 134 = .ok (.iaload, 1) := by decide +kernel
theorem dX7_knows_135 : decode cX7_knows 135 = .ok (.i2l, 1) := by decide +kernel
theorem dX7_knows_136 : decode cX7_knows 136 = .ok (.lreturn, 1) := by decide +kernel
theorem dX7_knows_137 : decode cX7_knows 137 = .ok (.aload_n 0, 1) := by decide +kernel
theorem dX7_knows_138 : decode cX7_knows 138 = .ok (.getfield 48, 3) := by decide +kernel
theorem dX7_knows_141 : decode cX7_knows 141 = .ok (.iload 4, 2) := by decide +kernel
theorem dX7_knows_143 : decode cX7_knows 143 = .ok (.laload, 1) := by decide +kernel
theorem dX7_knows_144 : decode cX7_knows 144 = .ok (.lreturn, 1) := by decide +kernel
theorem dX7_knows_145 : decode cX7_knows 145 = .ok (.ldc2_w 180, 3) := by decide +kernel
theorem dX7_knows_148 : decode cX7_knows 148 = .ok (.lreturn, 1) := by decide +kernel
theorem dX7_got_0 : decode cX7_got 0 = .ok (.aload_n 0, 1) := by decide +kernel
theorem dX7_got_1 : decode cX7_got 1 = .ok (.iload_n 1, 1) := by decide +kernel
theorem dX7_got_2 : decode cX7_got 2 = .ok (.invokevirtual 90, 3) := by decide +kernel
theorem dX7_got_5 : decode cX7_got 5 = .ok (.ifCond .eq 12, 3) := by decide +kernel
theorem dX7_got_8 : decode cX7_got 8 = .ok (.aload_n 0, 1) := by decide +kernel
theorem dX7_got_9 : decode cX7_got 9 = .ok (.getfield 19, 3) := by decide +kernel
theorem dX7_got_12 : decode cX7_got 12 = .ok (.iload_n 1, 1) := by decide +kernel
theorem dX7_got_13 : decode cX7_got 13 = .ok (.iaload, 1) := by decide +kernel
theorem dX7_got_14 : decode cX7_got 14 = .ok (.goto 4, 3) := by decide +kernel
theorem dX7_got_17 : decode cX7_got 17 = .ok (.iconst (-1), 1) := by decide +kernel
theorem dX7_got_18 : decode cX7_got 18 = .ok (.ireturn, 1) := by decide +kernel
theorem dX7_isFrame_0 : decode cX7_isFrame 0 = .ok (.aload_n 0, 1) := by decide +kernel
theorem dX7_isFrame_1 : decode cX7_isFrame 1 = .ok (.iload_n 1, 1) := by decide +kernel
theorem dX7_isFrame_2 : decode cX7_isFrame 2 = .ok (.invokevirtual 90, 3) := by decide +kernel
theorem dX7_isFrame_5 : decode cX7_isFrame 5 = .ok (.ifCond .eq 27, 3) := by decide +kernel
theorem dX7_isFrame_8 : decode cX7_isFrame 8 = .ok (.iload_n 2, 1) := by decide +kernel
theorem dX7_isFrame_9 : decode cX7_isFrame 9 = .ok (.ifCond .lt 23, 3) := by decide +kernel
theorem dX7_isFrame_12 : decode cX7_isFrame 12 = .ok (.iload_n 2, 1) := by decide +kernel
theorem dX7_isFrame_13 : decode cX7_isFrame 13 = .ok (.bipush 6, 2) := by decide +kernel
theorem dX7_isFrame_15 : decode cX7_isFrame 15 = .ok (.if_icmp .ge 17, 3) := by decide +kernel
theorem dX7_isFrame_18 : decode cX7_isFrame 18 = .ok (.iload_n 2, 1) := by decide +kernel
theorem dX7_isFrame_19 : decode cX7_isFrame 19 = .ok (.aload_n 0, 1) := by decide +kernel
theorem dX7_isFrame_20 : decode cX7_isFrame 20 = .ok (.getfield 19, 3) := by decide +kernel
theorem dX7_isFrame_23 : decode cX7_isFrame 23 = .ok (.iload_n 1, 1) := by decide +kernel
theorem dX7_isFrame_24 : decode cX7_isFrame 24 = .ok (.iaload, 1) := by decide +kernel
theorem dX7_isFrame_25 : decode cX7_isFrame 25 = .ok (.if_icmp .ge 7, 3) := by decide +kernel
theorem dX7_isFrame_28 : decode cX7_isFrame 28 = .ok (.iconst 1, 1) := by decide +kernel
theorem dX7_isFrame_29 : decode cX7_isFrame 29 = .ok (.goto 4, 3) := by decide +kernel
theorem dX7_isFrame_32 : decode cX7_isFrame 32 = .ok (.iconst 0, 1) := by decide +kernel
theorem dX7_isFrame_33 : decode cX7_isFrame 33 = .ok (.ireturn, 1) := by decide +kernel
theorem dX7_frame_0 : decode cX7_frame 0 = .ok (.iload_n 3, 1) := by decide +kernel
theorem dX7_frame_1 : decode cX7_frame 1 = .ok (.ifCond .lt 36, 3) := by decide +kernel
theorem dX7_frame_4 : decode cX7_frame 4 = .ok (.iload_n 3, 1) := by decide +kernel
theorem dX7_frame_5 : decode cX7_frame 5 = .ok (.aload_n 0, 1) := by decide +kernel
theorem dX7_frame_6 : decode cX7_frame 6 = .ok (.iload_n 1, 1) := by decide +kernel
theorem dX7_frame_7 : decode cX7_frame 7 = .ok (.iload_n 2, 1) := by decide +kernel
theorem dX7_frame_8 : decode cX7_frame 8 = .ok (.invokevirtual 182, 3) := by decide +kernel
theorem dX7_frame_11 : decode cX7_frame 11 = .ok (.if_icmp .ge 26, 3) := by decide +kernel
theorem dX7_frame_14 : decode cX7_frame 14 = .ok (.aload_n 0, 1) := by decide +kernel
theorem dX7_frame_15 : decode cX7_frame 15 = .ok (.getfield 22, 3) := by decide +kernel
theorem dX7_frame_18 : decode cX7_frame 18 = .ok (.bipush 120, 2) := by decide +kernel
theorem dX7_frame_20 : decode cX7_frame 20 = .ok (.bipush 6, 2) := by decide +kernel
theorem dX7_frame_22 : decode cX7_frame 22 = .ok (.iload_n 1, 1) := by decide +kernel
theorem dX7_frame_23 : decode cX7_frame 23 = .ok (.imul, 1) := by decide +kernel
theorem dX7_frame_24 : decode cX7_frame 24 = .ok (.iload_n 2, 1) := by decide +kernel
theorem dX7_frame_25 : decode cX7_frame 25 = .ok (.iadd, 1) := by decide +kernel
theorem dX7_frame_26 : decode cX7_frame 26 = .ok (.imul, 1) := by decide +kernel
theorem dX7_frame_27 : decode cX7_frame 27 = .ok (.iload_n 3, 1) := by decide +kernel
theorem dX7_frame_28 : decode cX7_frame 28 = .ok (.iadd, 1) := by decide +kernel
theorem dX7_frame_29 : decode cX7_frame 29 = .ok (.baload, 1) := by decide +kernel
theorem dX7_frame_30 : decode cX7_frame 30 = .ok (.sipush 255, 3) := by decide +kernel
theorem dX7_frame_33 : decode cX7_frame 33 = .ok (.iand, 1) := by decide +kernel
theorem dX7_frame_34 : decode cX7_frame 34 = .ok (.goto 4, 3) := by decide +kernel
theorem dX7_frame_37 : decode cX7_frame 37 = .ok (.iconst (-1), 1) := by decide +kernel
theorem dX7_frame_38 : decode cX7_frame 38 = .ok (.ireturn, 1) := by decide +kernel
theorem dX7_length_0 : decode cX7_length 0 = .ok (.aload_n 0, 1) := by decide +kernel
theorem dX7_length_1 : decode cX7_length 1 = .ok (.iload_n 1, 1) := by decide +kernel
theorem dX7_length_2 : decode cX7_length 2 = .ok (.iload_n 2, 1) := by decide +kernel
theorem dX7_length_3 : decode cX7_length 3 = .ok (.invokevirtual 185, 3) := by decide +kernel
theorem dX7_length_6 : decode cX7_length 6 = .ok (.ifCond .eq 17, 3) := by decide +kernel
theorem dX7_length_9 : decode cX7_length 9 = .ok (.aload_n 0, 1) := by decide +kernel
theorem dX7_length_10 : decode cX7_length 10 = .ok (.getfield 26, 3) := by decide +kernel
theorem dX7_length_13 : decode cX7_length 13 = .ok (.bipush 6, 2) := by decide +kernel
theorem dX7_length_15 : decode cX7_length 15 = .ok (.iload_n 1, 1) := by decide +kernel
theorem dX7_length_16 : decode cX7_length 16 = .ok (.imul, 1) := by decide +kernel
theorem dX7_length_17 : decode cX7_length 17 = .ok (.iload_n 2, 1) := by decide +kernel
theorem dX7_length_18 : decode cX7_length 18 = .ok (.iadd, 1) := by decide +kernel
theorem dX7_length_19 : decode cX7_length 19 = .ok (.iaload, 1) := by decide +kernel
theorem dX7_length_20 : decode cX7_length 20 = .ok (.goto 4, 3) := by decide +kernel
theorem dX7_length_23 : decode cX7_length 23 = .ok (.iconst (-1), 1) := by decide +kernel
theorem dX7_length_24 : decode cX7_length 24 = .ok (.ireturn, 1) := by decide +kernel
theorem dX7_count_0 : decode cX7_count 0 = .ok (.iload_n 1, 1) := by decide +kernel
theorem dX7_count_1 : decode cX7_count 1 = .ok (.ifCond .lt 18, 3) := by decide +kernel
theorem dX7_count_4 : decode cX7_count 4 = .ok (.iload_n 1, 1) := by decide +kernel
theorem dX7_count_5 : decode cX7_count 5 = .ok (.bipush 12, 2) := by decide +kernel
theorem dX7_count_7 : decode cX7_count 7 = .ok (.if_icmp .gt 12, 3) := by decide +kernel
theorem dX7_count_10 : decode cX7_count 10 = .ok (.aload_n 0, 1) := by decide +kernel
theorem dX7_count_11 : decode cX7_count 11 = .ok (.getfield 63, 3) := by decide +kernel
theorem dX7_count_14 : decode cX7_count 14 = .ok (.iload_n 1, 1) := by decide +kernel
theorem dX7_count_15 : decode cX7_count 15 = .ok (.iaload, 1) := by decide +kernel
theorem dX7_count_16 : decode cX7_count 16 = .ok (.goto 4, 3) := by decide +kernel
theorem dX7_count_19 : decode cX7_count 19 = .ok (.iconst (-1), 1) := by decide +kernel
theorem dX7_count_20 : decode cX7_count 20 = .ok (.ireturn, 1) := by decide +kernel
