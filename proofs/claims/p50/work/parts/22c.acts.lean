/-! THE LAW: acts (wip/p50/lawgen.py) -/
theorem wd_270 : Cond.instanceMethod yJ4_append_15ec4 ∈ xTB := xTB_in 270 (by decide +kernel) (by decide +kernel)
theorem wd_271 : Cond.selects RJ4 yJ4_append_15ec4 yJ4_append_15ec4 ∈ xTB := xTB_in 271 (by decide +kernel) (by decide +kernel)
theorem wd_272 : Cond.code yJ4_append_15ec4 cJ4_append_15ec4 2 (some (.object "java/lang/StringBuilder")) ∈ xTB := xTB_in 272 (by decide +kernel) (by decide +kernel)
theorem wd_413 : Cond.instanceMethod yJ4_toString_0e30d ∈ xTB := xTB_in 413 (by decide +kernel) (by decide +kernel)
theorem wd_414 : Cond.selects yJ4_toString_0e30d.cls yJ4_toString_0e30d yJ4_toString_0e30d ∈ xTB := xTB_in 414 (by decide +kernel) (by decide +kernel)
theorem wd_415 : Cond.code yJ4_toString_0e30d cJ4_toString_0e30d 1 (some (.object "java/lang/String")) ∈ xTB := xTB_in 415 (by decide +kernel) (by decide +kernel)
theorem wd_573 : Cond.methodLink RL 103 yL_light ∈ xTB := xTB_in 573 (by decide +kernel) (by decide +kernel)
theorem wd_574 : Cond.static yL_light ∈ xTB := xTB_in 574 (by decide +kernel) (by decide +kernel)
theorem wd_575 : Cond.codeWith yL_light cL_light 3 (some .int) [(0, 5, 6, 25), (0, 5, 10, 18), (0, 5, 14, 27)] ∈ xTB := xTB_in 575 (by decide +kernel) (by decide +kernel)
theorem wd_662 : Cond.methodLink RL 116 yL_snuff ∈ xTB := xTB_in 662 (by decide +kernel) (by decide +kernel)
theorem wd_663 : Cond.static yL_snuff ∈ xTB := xTB_in 663 (by decide +kernel) (by decide +kernel)
theorem wd_664 : Cond.codeWith yL_snuff cL_snuff 3 (some .int) [(0, 5, 6, 25), (0, 5, 10, 18)] ∈ xTB := xTB_in 664 (by decide +kernel) (by decide +kernel)
theorem wd_679 : Cond.methodLink RL 106 yL_setDraught ∈ xTB := xTB_in 679 (by decide +kernel) (by decide +kernel)
theorem wd_680 : Cond.static yL_setDraught ∈ xTB := xTB_in 680 (by decide +kernel) (by decide +kernel)
theorem wd_681 : Cond.codeWith yL_setDraught cL_setDraught 3 (some .int) [(0, 5, 6, 15)] ∈ xTB := xTB_in 681 (by decide +kernel) (by decide +kernel)
theorem wd_697 : Cond.methodLink RL 108 yL_schedule ∈ xTB := xTB_in 697 (by decide +kernel) (by decide +kernel)
theorem wd_698 : Cond.static yL_schedule ∈ xTB := xTB_in 698 (by decide +kernel) (by decide +kernel)
theorem wd_699 : Cond.codeWith yL_schedule cL_schedule 5 (some .int) [(0, 7, 8, 15), (0, 7, 13, 25), (0, 7, 18, 18)] ∈ xTB := xTB_in 699 (by decide +kernel) (by decide +kernel)
theorem wd_719 : Cond.methodLink RL 111 yL_pass ∈ xTB := xTB_in 719 (by decide +kernel) (by decide +kernel)
theorem wd_720 : Cond.static yL_pass ∈ xTB := xTB_in 720 (by decide +kernel) (by decide +kernel)
theorem wd_721 : Cond.codeWith yL_pass cL_pass 3 (some .int) [(0, 5, 6, 15)] ∈ xTB := xTB_in 721 (by decide +kernel) (by decide +kernel)
theorem wd_792 : Cond.methodLink RL 94 yL_in ∈ xTB := xTB_in 792 (by decide +kernel) (by decide +kernel)
theorem wd_793 : Cond.static yL_in ∈ xTB := xTB_in 793 (by decide +kernel) (by decide +kernel)
theorem wd_794 : Cond.code yL_in cL_in 3 (some .int) ∈ xTB := xTB_in 794 (by decide +kernel) (by decide +kernel)
theorem wd_1044 : Cond.methodLink RL 100 yL_addCandle ∈ xTB := xTB_in 1044 (by decide +kernel) (by decide +kernel)
theorem wd_1045 : Cond.static yL_addCandle ∈ xTB := xTB_in 1045 (by decide +kernel) (by decide +kernel)
theorem wd_1046 : Cond.codeWith yL_addCandle cL_addCandle 5 (some .int) [(0, 7, 8, 15), (0, 7, 13, 18)] ∈ xTB := xTB_in 1046 (by decide +kernel) (by decide +kernel)
theorem wd_1077 : Cond.methodLink RL 121 Lib.Math.max.name ∈ xTB := xTB_in 1077 (by decide +kernel) (by decide +kernel)
theorem wd_1078 : Cond.methodLink RL 126 yL_pour ∈ xTB := xTB_in 1078 (by decide +kernel) (by decide +kernel)
theorem wd_1079 : Cond.static yL_pour ∈ xTB := xTB_in 1079 (by decide +kernel) (by decide +kernel)
theorem wd_1080 : Cond.codeWith yL_pour cL_pour 4 (some .int) [(0, 6, 7, 25), (0, 6, 11, 15), (0, 6, 15, 18), (0, 6, 19, 27)] ∈ xTB := xTB_in 1080 (by decide +kernel) (by decide +kernel)
theorem wd_1098 : Cond.methodLink RL 132 yL_unschedule ∈ xTB := xTB_in 1098 (by decide +kernel) (by decide +kernel)
theorem wd_1099 : Cond.static yL_unschedule ∈ xTB := xTB_in 1099 (by decide +kernel) (by decide +kernel)
theorem wd_1100 : Cond.codeWith yL_unschedule cL_unschedule 3 (some .int) [(0, 5, 6, 25)] ∈ xTB := xTB_in 1100 (by decide +kernel) (by decide +kernel)
theorem wd_1112 : Cond.classLink RL 134 RJ4 ∈ xTB := xTB_in 1112 (by decide +kernel) (by decide +kernel)
theorem wd_1113 : Cond.methodLink RL 136 yJ4_init_da8c8 ∈ xTB := xTB_in 1113 (by decide +kernel) (by decide +kernel)
theorem wd_1115 : Cond.methodLink RL 139 yJ4_append_15ec4 ∈ xTB := xTB_in 1115 (by decide +kernel) (by decide +kernel)
theorem wd_1116 : Cond.methodLink RL 143 yJ4_append_bf812 ∈ xTB := xTB_in 1116 (by decide +kernel) (by decide +kernel)
theorem wd_1119 : Cond.methodLink RL 150 yJ4_toString_0e30d ∈ xTB := xTB_in 1119 (by decide +kernel) (by decide +kernel)
theorem wd_1127 : Cond.methodLink RL 168 yL_does ∈ xTB := xTB_in 1127 (by decide +kernel) (by decide +kernel)
theorem wd_1128 : Cond.static yL_does ∈ xTB := xTB_in 1128 (by decide +kernel) (by decide +kernel)
theorem wd_1129 : Cond.code yL_does cL_does 4 (some .int) ∈ xTB := xTB_in 1129 (by decide +kernel) (by decide +kernel)
theorem dL_acts_0 : decode cL_acts 0 = .ok (.aload_n 1, 1) := by decide +kernel
theorem dL_acts_1 : decode cL_acts 1 = .ok (.iload_n 2, 1) := by decide +kernel
theorem dL_acts_2 : decode cL_acts 2 = .ok (.iconst 1, 1) := by decide +kernel
theorem dL_acts_3 : decode cL_acts 3 = .ok (.iadd, 1) := by decide +kernel
theorem dL_acts_4 : decode cL_acts 4 = .ok (.bipush 8, 2) := by decide +kernel
theorem dL_acts_6 : decode cL_acts 6 = .ok (.invokestatic 94, 3) := by decide +kernel
theorem dL_acts_9 : decode cL_acts 9 = .ok (.istore_n 3, 1) := by decide +kernel
theorem dL_acts_10 : decode cL_acts 10 = .ok (.aload_n 1, 1) := by decide +kernel
theorem dL_acts_11 : decode cL_acts 11 = .ok (.iload_n 2, 1) := by decide +kernel
theorem dL_acts_12 : decode cL_acts 12 = .ok (.iconst 2, 1) := by decide +kernel
theorem dL_acts_13 : decode cL_acts 13 = .ok (.iadd, 1) := by decide +kernel
theorem dL_acts_14 : decode cL_acts 14 = .ok (.bipush 10, 2) := by decide +kernel
theorem dL_acts_16 : decode cL_acts 16 = .ok (.invokestatic 94, 3) := by decide +kernel
theorem dL_acts_19 : decode cL_acts 19 = .ok (.istore 4, 2) := by decide +kernel
theorem dL_acts_21 : decode cL_acts 21 = .ok (.aload_n 1, 1) := by decide +kernel
theorem dL_acts_22 : decode cL_acts 22 = .ok (.iload_n 2, 1) := by decide +kernel
theorem dL_acts_23 : decode cL_acts 23 = .ok (.iconst 3, 1) := by decide +kernel
theorem dL_acts_24 : decode cL_acts 24 = .ok (.iadd, 1) := by decide +kernel
theorem dL_acts_25 : decode cL_acts 25 = .ok (.bipush 60, 2) := by decide +kernel
theorem dL_acts_27 : decode cL_acts 27 = .ok (.invokestatic 94, 3) := by decide +kernel
theorem dL_acts_30 : decode cL_acts 30 = .ok (.istore 5, 2) := by decide +kernel
theorem dL_acts_32 : decode cL_acts 32 = .ok (.aload_n 1, 1) := by decide +kernel
theorem dL_acts_33 : decode cL_acts 33 = .ok (.iload_n 2, 1) := by decide +kernel
theorem dL_acts_34 : decode cL_acts 34 = .ok (.bipush 26, 2) := by decide +kernel
theorem dL_acts_36 : decode cL_acts 36 = .ok (.invokestatic 94, 3) := by decide +kernel
theorem dL_acts_39 : decode cL_acts 39 = .ok (.tableswitch 223 0 20 #[97, 118, 118, 118, 118, 124, 124, 130, 130, 156, 156, 165, 165, 165, 165, 192, 192, 199, 199, 199, 199], 97) := by decide +kernel
theorem dL_acts_136 : decode cL_acts 136 = .ok (.aload_n 0, 1) := by decide +kernel
theorem dL_acts_137 : decode cL_acts 137 = .ok (.ldc 114, 2) := by decide +kernel
theorem dL_acts_139 : decode cL_acts 139 = .ok (.iload 5, 2) := by decide +kernel
theorem dL_acts_141 : decode cL_acts 141 = .ok (.iconst 5, 1) := by decide +kernel
theorem dL_acts_142 : decode cL_acts 142 = .ok (.irem, 1) := by decide +kernel
theorem dL_acts_143 : decode cL_acts 143 = .ok (.invokevirtual 81, 3) := by decide +kernel
theorem dL_acts_146 : decode cL_acts 146 = .ok (.bipush 17, 2) := by decide +kernel
theorem dL_acts_148 : decode cL_acts 148 = .ok (.iload 5, 2) := by decide +kernel
theorem dL_acts_150 : decode cL_acts 150 = .ok (.imul, 1) := by decide +kernel
theorem dL_acts_151 : decode cL_acts 151 = .ok (.iload 4, 2) := by decide +kernel
theorem dL_acts_153 : decode cL_acts 153 = .ok (.invokestatic 100, 3) := by decide +kernel
theorem dL_acts_156 : decode cL_acts 156 = .ok (.ireturn, 1) := by decide +kernel
theorem dL_acts_157 : decode cL_acts 157 = .ok (.aload_n 0, 1) := by decide +kernel
theorem dL_acts_158 : decode cL_acts 158 = .ok (.iload_n 3, 1) := by decide +kernel
theorem dL_acts_159 : decode cL_acts 159 = .ok (.invokestatic 103, 3) := by decide +kernel
theorem dL_acts_162 : decode cL_acts 162 = .ok (.ireturn, 1) := by decide +kernel
theorem dL_acts_163 : decode cL_acts 163 = .ok (.aload_n 0, 1) := by decide +kernel
theorem dL_acts_164 : decode cL_acts 164 = .ok (.iload_n 3, 1) := by decide +kernel
theorem dL_acts_165 : decode cL_acts 165 = .ok (.invokestatic 116, 3) := by decide +kernel
theorem dL_acts_168 : decode cL_acts 168 = .ok (.ireturn, 1) := by decide +kernel
theorem dL_acts_169 : decode cL_acts 169 = .ok (.aload_n 0, 1) := by decide +kernel
theorem dL_acts_170 : decode cL_acts 170 = .ok (.iload_n 3, 1) := by decide +kernel
theorem dL_acts_171 : decode cL_acts 171 = .ok (.iload 5, 2) := by decide +kernel
theorem dL_acts_173 : decode cL_acts 173 = .ok (.iconst 3, 1) := by decide +kernel
theorem dL_acts_174 : decode cL_acts 174 = .ok (.irem, 1) := by decide +kernel
theorem dL_acts_175 : decode cL_acts 175 = .ok (.ifCond .ne 14, 3) := by decide +kernel
theorem dL_acts_178 : decode cL_acts 178 = .ok (.iconst 1, 1) := by decide +kernel
theorem dL_acts_179 : decode cL_acts 179 = .ok (.aload_n 0, 1) := by decide +kernel
theorem dL_acts_180 : decode cL_acts 180 = .ok (.invokevirtual 118, 3) := by decide +kernel
theorem dL_acts_183 : decode cL_acts 183 = .ok (.invokestatic 121, 3) := by decide +kernel
theorem dL_acts_186 : decode cL_acts 186 = .ok (.goto 5, 3) := by decide +kernel
theorem dL_acts_189 : decode cL_acts 189 = .ok (.iload 5, 2) := by decide +kernel
theorem dL_acts_191 : decode cL_acts 191 = .ok (.invokestatic 126, 3) := by decide +kernel
theorem dL_acts_194 : decode cL_acts 194 = .ok (.ireturn, 1) := by decide +kernel
theorem dL_acts_195 : decode cL_acts 195 = .ok (.aload_n 0, 1) := by decide +kernel
theorem dL_acts_196 : decode cL_acts 196 = .ok (.iload 5, 2) := by decide +kernel
theorem dL_acts_198 : decode cL_acts 198 = .ok (.iconst 5, 1) := by decide +kernel
theorem dL_acts_199 : decode cL_acts 199 = .ok (.irem, 1) := by decide +kernel
theorem dL_acts_200 : decode cL_acts 200 = .ok (.invokestatic 106, 3) := by decide +kernel
theorem dL_acts_203 : decode cL_acts 203 = .ok (.ireturn, 1) := by decide +kernel
theorem dL_acts_204 : decode cL_acts 204 = .ok (.aload_n 0, 1) := by decide +kernel
theorem dL_acts_205 : decode cL_acts 205 = .ok (.aload_n 0, 1) := by decide +kernel
theorem dL_acts_206 : decode cL_acts 206 = .ok (.invokevirtual 129, 3) := by decide +kernel
theorem dL_acts_209 : decode cL_acts 209 = .ok (.iload 5, 2) := by decide +kernel
theorem dL_acts_211 : decode cL_acts 211 = .ok (.bipush 20, 2) := by decide +kernel
theorem dL_acts_213 : decode cL_acts 213 = .ok (.irem, 1) := by decide +kernel
theorem dL_acts_214 : decode cL_acts 214 = .ok (.iadd, 1) := by decide +kernel
theorem dL_acts_215 : decode cL_acts 215 = .ok (.iload_n 3, 1) := by decide +kernel
theorem dL_acts_216 : decode cL_acts 216 = .ok (.iload 4, 2) := by decide +kernel
theorem dL_acts_218 : decode cL_acts 218 = .ok (.iconst 3, 1) := by decide +kernel
theorem dL_acts_219 : decode cL_acts 219 = .ok (.if_icmp .le 7, 3) := by decide +kernel
theorem dL_acts_222 : decode cL_acts 222 = .ok (.iconst 1, 1) := by decide +kernel
theorem dL_acts_223 : decode cL_acts 223 = .ok (.goto 4, 3) := by decide +kernel
theorem dL_acts_226 : decode cL_acts 226 = .ok (.iconst 0, 1) := by decide +kernel
theorem dL_acts_227 : decode cL_acts 227 = .ok (.invokestatic 108, 3) := by decide +kernel
theorem dL_acts_230 : decode cL_acts 230 = .ok (.ireturn, 1) := by decide +kernel
theorem dL_acts_231 : decode cL_acts 231 = .ok (.aload_n 0, 1) := by decide +kernel
theorem dL_acts_232 : decode cL_acts 232 = .ok (.iload 4, 2) := by decide +kernel
theorem dL_acts_234 : decode cL_acts 234 = .ok (.invokestatic 132, 3) := by decide +kernel
theorem dL_acts_237 : decode cL_acts 237 = .ok (.ireturn, 1) := by decide +kernel
theorem dL_acts_238 : decode cL_acts 238 = .ok (.aload_n 0, 1) := by decide +kernel
theorem dL_acts_239 : decode cL_acts 239 = .ok (.iload 5, 2) := by decide +kernel
theorem dL_acts_241 : decode cL_acts 241 = .ok (.iconst 3, 1) := by decide +kernel
theorem dL_acts_242 : decode cL_acts 242 = .ok (.irem, 1) := by decide +kernel
theorem dL_acts_243 : decode cL_acts 243 = .ok (.ifCond .ne 10, 3) := by decide +kernel
theorem dL_acts_246 : decode cL_acts 246 = .ok (.iconst 3, 1) := by decide +kernel
theorem dL_acts_247 : decode cL_acts 247 = .ok (.iload 5, 2) := by decide +kernel
theorem dL_acts_249 : decode cL_acts 249 = .ok (.imul, 1) := by decide +kernel
theorem dL_acts_250 : decode cL_acts 250 = .ok (.goto 8, 3) := by decide +kernel
theorem dL_acts_253 : decode cL_acts 253 = .ok (.iload 5, 2) := by decide +kernel
theorem dL_acts_255 : decode cL_acts 255 = .ok (.bipush 9, 2) := by decide +kernel
theorem dL_acts_257 : decode cL_acts 257 = .ok (.irem, 1) := by decide +kernel
theorem dL_acts_258 : decode cL_acts 258 = .ok (.invokestatic 111, 3) := by decide +kernel
theorem dL_acts_261 : decode cL_acts 261 = .ok (.ireturn, 1) := by decide +kernel
theorem dL_acts_262 : decode cL_acts 262 = .ok (.aload_n 0, 1) := by decide +kernel
theorem dL_acts_263 : decode cL_acts 263 = .ok (.new 134, 3) := by decide +kernel
theorem dL_acts_266 : decode cL_acts 266 = .ok (.dup, 1) := by decide +kernel
theorem dL_acts_267 : decode cL_acts 267 = .ok (.invokespecial 136, 3) := by decide +kernel
theorem dL_acts_270 : decode cL_acts 270 = .ok (.ldc 137, 2) := by decide +kernel
theorem dL_acts_272 : decode cL_acts 272 = .ok (.invokevirtual 139, 3) := by decide +kernel
theorem dL_acts_275 : decode cL_acts 275 = .ok (.iconst 1, 1) := by decide +kernel
theorem dL_acts_276 : decode cL_acts 276 = .ok (.iload 5, 2) := by decide +kernel
theorem dL_acts_278 : decode cL_acts 278 = .ok (.iadd, 1) := by decide +kernel
theorem dL_acts_279 : decode cL_acts 279 = .ok (.invokevirtual 143, 3) := by decide +kernel
theorem dL_acts_282 : decode cL_acts 282 = .ok (.iload 5, 2) := by decide +kernel
theorem dL_acts_284 : decode cL_acts 284 = .ok (.iconst 4, 1) := by decide +kernel
theorem dL_acts_285 : decode cL_acts 285 = .ok (.irem, 1) := by decide +kernel
theorem dL_acts_286 : decode cL_acts 286 = .ok (.ifCond .ne 34, 3) := by decide +kernel
theorem dL_acts_289 : decode cL_acts 289 = .ok (.new 134, 3) := by decide +kernel
theorem dL_acts_292 : decode cL_acts 292 = .ok (.dup, 1) := by decide +kernel
theorem dL_acts_293 : decode cL_acts 293 = .ok (.invokespecial 136, 3) := by decide +kernel
theorem dL_acts_296 : decode cL_acts 296 = .ok (.ldc 146, 2) := by decide +kernel
theorem dL_acts_298 : decode cL_acts 298 = .ok (.invokevirtual 139, 3) := by decide +kernel
theorem dL_acts_301 : decode cL_acts 301 = .ok (.iload_n 3, 1) := by decide +kernel
theorem dL_acts_302 : decode cL_acts 302 = .ok (.invokevirtual 143, 3) := by decide +kernel
theorem dL_acts_305 : decode cL_acts 305 = .ok (.ldc 148, 2) := by decide +kernel
theorem dL_acts_307 : decode cL_acts 307 = .ok (.invokevirtual 139, 3) := by decide +kernel
theorem dL_acts_310 : decode cL_acts 310 = .ok (.iload_n 3, 1) := by decide +kernel
theorem dL_acts_311 : decode cL_acts 311 = .ok (.invokevirtual 143, 3) := by decide +kernel
theorem dL_acts_314 : decode cL_acts 314 = .ok (.invokevirtual 150, 3) := by decide +kernel
theorem dL_acts_317 : decode cL_acts 317 = .ok (.goto 143, 3) := by decide +kernel
theorem dL_acts_320 : decode cL_acts 320 = .ok (.iload 5, 2) := by decide +kernel
theorem dL_acts_322 : decode cL_acts 322 = .ok (.iconst 4, 1) := by decide +kernel
theorem dL_acts_323 : decode cL_acts 323 = .ok (.irem, 1) := by decide +kernel
theorem dL_acts_324 : decode cL_acts 324 = .ok (.iconst 1, 1) := by decide +kernel
theorem dL_acts_325 : decode cL_acts 325 = .ok (.if_icmp .ne 54, 3) := by decide +kernel
theorem dL_acts_328 : decode cL_acts 328 = .ok (.new 134, 3) := by decide +kernel
theorem dL_acts_331 : decode cL_acts 331 = .ok (.dup, 1) := by decide +kernel
theorem dL_acts_332 : decode cL_acts 332 = .ok (.invokespecial 136, 3) := by decide +kernel
theorem dL_acts_335 : decode cL_acts 335 = .ok (.ldc 154, 2) := by decide +kernel
theorem dL_acts_337 : decode cL_acts 337 = .ok (.invokevirtual 139, 3) := by decide +kernel
theorem dL_acts_340 : decode cL_acts 340 = .ok (.iload 4, 2) := by decide +kernel
theorem dL_acts_342 : decode cL_acts 342 = .ok (.iconst 5, 1) := by decide +kernel
theorem dL_acts_343 : decode cL_acts 343 = .ok (.irem, 1) := by decide +kernel
theorem dL_acts_344 : decode cL_acts 344 = .ok (.invokevirtual 143, 3) := by decide +kernel
theorem dL_acts_347 : decode cL_acts 347 = .ok (.ldc 156, 2) := by decide +kernel
theorem dL_acts_349 : decode cL_acts 349 = .ok (.invokevirtual 139, 3) := by decide +kernel
theorem dL_acts_352 : decode cL_acts 352 = .ok (.aload_n 0, 1) := by decide +kernel
theorem dL_acts_353 : decode cL_acts 353 = .ok (.invokevirtual 129, 3) := by decide +kernel
theorem dL_acts_356 : decode cL_acts 356 = .ok (.iload 5, 2) := by decide +kernel
theorem dL_acts_358 : decode cL_acts 358 = .ok (.iadd, 1) := by decide +kernel
theorem dL_acts_359 : decode cL_acts 359 = .ok (.iconst 5, 1) := by decide +kernel
theorem dL_acts_360 : decode cL_acts 360 = .ok (.iadd, 1) := by decide +kernel
theorem dL_acts_361 : decode cL_acts 361 = .ok (.invokevirtual 143, 3) := by decide +kernel
theorem dL_acts_364 : decode cL_acts 364 = .ok (.ldc 158, 2) := by decide +kernel
theorem dL_acts_366 : decode cL_acts 366 = .ok (.invokevirtual 139, 3) := by decide +kernel
theorem dL_acts_369 : decode cL_acts 369 = .ok (.iload_n 3, 1) := by decide +kernel
theorem dL_acts_370 : decode cL_acts 370 = .ok (.invokevirtual 143, 3) := by decide +kernel
theorem dL_acts_373 : decode cL_acts 373 = .ok (.invokevirtual 150, 3) := by decide +kernel
theorem dL_acts_376 : decode cL_acts 376 = .ok (.goto 84, 3) := by decide +kernel
theorem dL_acts_379 : decode cL_acts 379 = .ok (.iload 5, 2) := by decide +kernel
theorem dL_acts_381 : decode cL_acts 381 = .ok (.iconst 4, 1) := by decide +kernel
theorem dL_acts_382 : decode cL_acts 382 = .ok (.irem, 1) := by decide +kernel
theorem dL_acts_383 : decode cL_acts 383 = .ok (.iconst 2, 1) := by decide +kernel
theorem dL_acts_384 : decode cL_acts 384 = .ok (.if_icmp .ne 35, 3) := by decide +kernel
theorem dL_acts_387 : decode cL_acts 387 = .ok (.new 134, 3) := by decide +kernel
theorem dL_acts_390 : decode cL_acts 390 = .ok (.dup, 1) := by decide +kernel
theorem dL_acts_391 : decode cL_acts 391 = .ok (.invokespecial 136, 3) := by decide +kernel
theorem dL_acts_394 : decode cL_acts 394 = .ok (.ldc 160, 2) := by decide +kernel
theorem dL_acts_396 : decode cL_acts 396 = .ok (.invokevirtual 139, 3) := by decide +kernel
theorem dL_acts_399 : decode cL_acts 399 = .ok (.iload_n 3, 1) := by decide +kernel
theorem dL_acts_400 : decode cL_acts 400 = .ok (.invokevirtual 143, 3) := by decide +kernel
theorem dL_acts_403 : decode cL_acts 403 = .ok (.ldc 162, 2) := by decide +kernel
theorem dL_acts_405 : decode cL_acts 405 = .ok (.invokevirtual 139, 3) := by decide +kernel
theorem dL_acts_408 : decode cL_acts 408 = .ok (.iload 4, 2) := by decide +kernel
theorem dL_acts_410 : decode cL_acts 410 = .ok (.invokevirtual 143, 3) := by decide +kernel
theorem dL_acts_413 : decode cL_acts 413 = .ok (.invokevirtual 150, 3) := by decide +kernel
theorem dL_acts_416 : decode cL_acts 416 = .ok (.goto 44, 3) := by decide +kernel
theorem dL_acts_419 : decode cL_acts 419 = .ok (.new 134, 3) := by decide +kernel
theorem dL_acts_422 : decode cL_acts 422 = .ok (.dup, 1) := by decide +kernel
theorem dL_acts_423 : decode cL_acts 423 = .ok (.invokespecial 136, 3) := by decide +kernel
theorem dL_acts_426 : decode cL_acts 426 = .ok (.ldc 156, 2) := by decide +kernel
theorem dL_acts_428 : decode cL_acts 428 = .ok (.invokevirtual 139, 3) := by decide +kernel
theorem dL_acts_431 : decode cL_acts 431 = .ok (.aload_n 0, 1) := by decide +kernel
theorem dL_acts_432 : decode cL_acts 432 = .ok (.invokevirtual 129, 3) := by decide +kernel
theorem dL_acts_435 : decode cL_acts 435 = .ok (.iload 5, 2) := by decide +kernel
theorem dL_acts_437 : decode cL_acts 437 = .ok (.iadd, 1) := by decide +kernel
theorem dL_acts_438 : decode cL_acts 438 = .ok (.iconst 3, 1) := by decide +kernel
theorem dL_acts_439 : decode cL_acts 439 = .ok (.iadd, 1) := by decide +kernel
theorem dL_acts_440 : decode cL_acts 440 = .ok (.invokevirtual 143, 3) := by decide +kernel
theorem dL_acts_443 : decode cL_acts 443 = .ok (.ldc 164, 2) := by decide +kernel
theorem dL_acts_445 : decode cL_acts 445 = .ok (.invokevirtual 139, 3) := by decide +kernel
theorem dL_acts_448 : decode cL_acts 448 = .ok (.iload_n 3, 1) := by decide +kernel
theorem dL_acts_449 : decode cL_acts 449 = .ok (.invokevirtual 143, 3) := by decide +kernel
theorem dL_acts_452 : decode cL_acts 452 = .ok (.ldc 166, 2) := by decide +kernel
theorem dL_acts_454 : decode cL_acts 454 = .ok (.invokevirtual 139, 3) := by decide +kernel
theorem dL_acts_457 : decode cL_acts 457 = .ok (.invokevirtual 150, 3) := by decide +kernel
theorem dL_acts_460 : decode cL_acts 460 = .ok (.invokevirtual 139, 3) := by decide +kernel
theorem dL_acts_463 : decode cL_acts 463 = .ok (.invokevirtual 150, 3) := by decide +kernel
theorem dL_acts_466 : decode cL_acts 466 = .ok (.invokestatic 168, 3) := by decide +kernel
theorem dL_acts_469 : decode cL_acts 469 = .ok (.ireturn, 1) := by decide +kernel
set_option maxHeartbeats 4000000 in
set_option maxRecDepth 100000 in
theorem c_Q_acts (g : xG) (l : Launch) (hl : l.stackTraces = false) (L : Nat) (xs : Nat → Int32) (hLg : L = g.2.2 7) (hxg : xs = xsG g) (a : Nat → Nat) (b : Nat → Nat) (y : Nat) (z : CcT) (v : StS) (c : CdT) (e : EvT) (v2 : StS) (c2 : CdT) (e2 : EvT) (h : HiT) (t : Unit) (vs : (Nat → StS)) (cs : (Nat → CdT)) (es : (Nat → EvT)) (q : PrT) (t2 : Unit) (ws : (Nat → CmT)) (x2 : Int32) {u : Int32 × CcT × StS × CdT × EvT × StS × CdT × EvT × HiT × (Nat → StS) × (Nat → CdT) × (Nat → EvT) × PrT × (Nat → CmT)} (hf : f_Q_acts L xs z v c e v2 c2 e2 h t vs cs es q t2 ws x2 = some u) : Con g l yL_acts cL_acts 6 (some .int) ({ frames := 12, cells := 82, slots := 3628, locals := 400 } : Room) [.ref (a 0), .ref (g.2.2 6), .int x2] ([ccO g a b y z, stO g a 10 v, cdW g a 10 c, evW g a 10 e, stO g a 20 v2, cdW g a 20 c2, evW g a 20 e2, hiO g a h, hrW g a t, stF g a vs, cdF g a cs, evF g a es, prO g b q, caW g b t2, cmF g b ws] : List va_W).flatten (fun v9 w9 => v9 = some (.int u.1) ∧ w9 = ([ccO g a b y u.2.1, stO g a 10 u.2.2.1, cdW g a 10 u.2.2.2.1, evW g a 10 u.2.2.2.2.1, stO g a 20 u.2.2.2.2.2.1, cdW g a 20 u.2.2.2.2.2.2.1, evW g a 20 u.2.2.2.2.2.2.2.1, hiO g a u.2.2.2.2.2.2.2.2.1, hrW g a t, stF g a u.2.2.2.2.2.2.2.2.2.1, cdF g a u.2.2.2.2.2.2.2.2.2.2.1, evF g a u.2.2.2.2.2.2.2.2.2.2.2.1, prO g b u.2.2.2.2.2.2.2.2.2.2.2.2.1, caW g b t2, cmF g b u.2.2.2.2.2.2.2.2.2.2.2.2.2] : List va_W).flatten) 82 3628 := by
  unfold f_Q_acts at hf
  refine Con_of [ccO g a b y z, stO g a 10 v, cdW g a 10 c, evW g a 10 e, stO g a 20 v2, cdW g a 20 c2, evW g a 20 e2, hiO g a h, hrW g a t, stF g a vs, cdF g a cs, evF g a es, prO g b q, caW g b t2, cmF g b ws] [(0, .ref (a 0)), (1, .ref (g.2.2 6)), (2, .int x2)] rfl rfl (by decide) (Nat.le_of_ble_eq_true rfl) ?_
  intro pW eW sW mW argsW belowW methW c9 C hnm hr
  have C : CX g RL cL_acts 6 _ pW sW mW argsW methW c9 := C
  refine x_aload_n C dL_acts_0 rfl 1 rfl ?_
  refine x_iload_n C dL_acts_1 rfl 2 rfl ?_
  refine x_iconst (v := 1) C dL_acts_2 (by decide) ?_
  refine x_iadd C dL_acts_3 ?_
  refine x_bipush (v := 8) C dL_acts_4 (by decide) ?_
  obtain ⟨u1, hu1, hf⟩ := x_b hf
  refine x_callS (n := 3) (As := [.ref (g.2.2 6), .int (x2 + (1 : Int32)), .int (8 : Int32)]) (rest := []) C (c_Q_in g l hl L xs hLg hxg (x2 + (1 : Int32)) (8 : Int32) hu1) ⟨⟨wd_794, wd_792, wd_24⟩, ⟨by decide, by decide, by decide⟩, rfl, rfl, Nat.le_of_ble_eq_true rfl, Nat.le_of_ble_eq_true rfl⟩ wd_793 [ccO g a b y z, stO g a 10 v, cdW g a 10 c, evW g a 10 e, stO g a 20 v2, cdW g a 20 c2, evW g a 20 e2, hiO g a h, hrW g a t, stF g a vs, cdF g a cs, evF g a es, prO g b q, caW g b t2, cmF g b ws] (x_pickD [0, 1, 2, 3, 4, 5, 6, 7, 8, 9, 10, 11, 12, 13, 14] 15 rfl rfl rfl) rfl rfl (Nat.le_of_ble_eq_true rfl) ⟨by show _ ≤ 82; omega, by show _ ≤ 3628; omega⟩ dL_acts_6 (x_goD (wss2 := [ccO g a b y z, stO g a 10 v, cdW g a 10 c, evW g a 10 e, stO g a 20 v2, cdW g a 20 c2, evW g a 20 e2, hiO g a h, hrW g a t, stF g a vs, cdF g a cs, evF g a es, prO g b q, caW g b t2, cmF g b ws]) (stk2 := [.int u1]) rfl rfl ?_)
  refine x_istore_n (lv' := [(3, .int u1), (0, .ref (a 0)), (1, .ref (g.2.2 6)), (2, .int x2)]) C dL_acts_9 rfl (by decide) rfl ?_
  refine x_aload_n C dL_acts_10 rfl 2 rfl ?_
  refine x_iload_n C dL_acts_11 rfl 3 rfl ?_
  refine x_iconst (v := 2) C dL_acts_12 (by decide) ?_
  refine x_iadd C dL_acts_13 ?_
  refine x_bipush (v := 10) C dL_acts_14 (by decide) ?_
  obtain ⟨u2, hu2, hf⟩ := x_b hf
  refine x_callS (n := 3) (As := [.ref (g.2.2 6), .int (x2 + (2 : Int32)), .int (10 : Int32)]) (rest := []) C (c_Q_in g l hl L xs hLg hxg (x2 + (2 : Int32)) (10 : Int32) hu2) ⟨⟨wd_794, wd_792, wd_24⟩, ⟨by decide, by decide, by decide⟩, rfl, rfl, Nat.le_of_ble_eq_true rfl, Nat.le_of_ble_eq_true rfl⟩ wd_793 [ccO g a b y z, stO g a 10 v, cdW g a 10 c, evW g a 10 e, stO g a 20 v2, cdW g a 20 c2, evW g a 20 e2, hiO g a h, hrW g a t, stF g a vs, cdF g a cs, evF g a es, prO g b q, caW g b t2, cmF g b ws] (x_pickD [0, 1, 2, 3, 4, 5, 6, 7, 8, 9, 10, 11, 12, 13, 14] 15 rfl rfl rfl) rfl rfl (Nat.le_of_ble_eq_true rfl) ⟨by show _ ≤ 82; omega, by show _ ≤ 3628; omega⟩ dL_acts_16 (x_goD (wss2 := [ccO g a b y z, stO g a 10 v, cdW g a 10 c, evW g a 10 e, stO g a 20 v2, cdW g a 20 c2, evW g a 20 e2, hiO g a h, hrW g a t, stF g a vs, cdF g a cs, evF g a es, prO g b q, caW g b t2, cmF g b ws]) (stk2 := [.int u2]) rfl rfl ?_)
  refine x_istore (lv' := [(4, .int u2), (3, .int u1), (0, .ref (a 0)), (1, .ref (g.2.2 6)), (2, .int x2)]) C dL_acts_19 (by decide) rfl ?_
  refine x_aload_n C dL_acts_21 rfl 3 rfl ?_
  refine x_iload_n C dL_acts_22 rfl 4 rfl ?_
  refine x_iconst (v := 3) C dL_acts_23 (by decide) ?_
  refine x_iadd C dL_acts_24 ?_
  refine x_bipush (v := 60) C dL_acts_25 (by decide) ?_
  obtain ⟨u3, hu3, hf⟩ := x_b hf
  refine x_callS (n := 3) (As := [.ref (g.2.2 6), .int (x2 + (3 : Int32)), .int (60 : Int32)]) (rest := []) C (c_Q_in g l hl L xs hLg hxg (x2 + (3 : Int32)) (60 : Int32) hu3) ⟨⟨wd_794, wd_792, wd_24⟩, ⟨by decide, by decide, by decide⟩, rfl, rfl, Nat.le_of_ble_eq_true rfl, Nat.le_of_ble_eq_true rfl⟩ wd_793 [ccO g a b y z, stO g a 10 v, cdW g a 10 c, evW g a 10 e, stO g a 20 v2, cdW g a 20 c2, evW g a 20 e2, hiO g a h, hrW g a t, stF g a vs, cdF g a cs, evF g a es, prO g b q, caW g b t2, cmF g b ws] (x_pickD [0, 1, 2, 3, 4, 5, 6, 7, 8, 9, 10, 11, 12, 13, 14] 15 rfl rfl rfl) rfl rfl (Nat.le_of_ble_eq_true rfl) ⟨by show _ ≤ 82; omega, by show _ ≤ 3628; omega⟩ dL_acts_27 (x_goD (wss2 := [ccO g a b y z, stO g a 10 v, cdW g a 10 c, evW g a 10 e, stO g a 20 v2, cdW g a 20 c2, evW g a 20 e2, hiO g a h, hrW g a t, stF g a vs, cdF g a cs, evF g a es, prO g b q, caW g b t2, cmF g b ws]) (stk2 := [.int u3]) rfl rfl ?_)
  refine x_istore (lv' := [(5, .int u3), (4, .int u2), (3, .int u1), (0, .ref (a 0)), (1, .ref (g.2.2 6)), (2, .int x2)]) C dL_acts_30 (by decide) rfl ?_
  refine x_aload_n C dL_acts_32 rfl 4 rfl ?_
  refine x_iload_n C dL_acts_33 rfl 5 rfl ?_
  refine x_bipush (v := 26) C dL_acts_34 (by decide) ?_
  obtain ⟨u4, hu4, hf⟩ := x_b hf
  refine x_callS (n := 3) (As := [.ref (g.2.2 6), .int x2, .int (26 : Int32)]) (rest := []) C (c_Q_in g l hl L xs hLg hxg x2 (26 : Int32) hu4) ⟨⟨wd_794, wd_792, wd_24⟩, ⟨by decide, by decide, by decide⟩, rfl, rfl, Nat.le_of_ble_eq_true rfl, Nat.le_of_ble_eq_true rfl⟩ wd_793 [ccO g a b y z, stO g a 10 v, cdW g a 10 c, evW g a 10 e, stO g a 20 v2, cdW g a 20 c2, evW g a 20 e2, hiO g a h, hrW g a t, stF g a vs, cdF g a cs, evF g a es, prO g b q, caW g b t2, cmF g b ws] (x_pickD [0, 1, 2, 3, 4, 5, 6, 7, 8, 9, 10, 11, 12, 13, 14] 15 rfl rfl rfl) rfl rfl (Nat.le_of_ble_eq_true rfl) ⟨by show _ ≤ 82; omega, by show _ ≤ 3628; omega⟩ dL_acts_36 (x_goD (wss2 := [ccO g a b y z, stO g a 10 v, cdW g a 10 c, evW g a 10 e, stO g a 20 v2, cdW g a 20 c2, evW g a 20 e2, hiO g a h, hrW g a t, stF g a vs, cdF g a cs, evF g a es, prO g b q, caW g b t2, cmF g b ws]) (stk2 := [.int u4]) rfl rfl ?_)
  by_cases h5 : u4 = 0
  · have hf := x_t h5 hf
    refine x_tableIn (off := 97) (tgt := 136) C dL_acts_39 (by rw [h5]; decide) (by rw [h5]; decide) (by rw [h5]; rfl) (by decide) ?_
    refine x_aload_n C dL_acts_136 rfl 3 rfl ?_
    refine x_ldcS (tx := "satbx") C (CX_str C ("CandleConcertLaw", 114, "satbx", 15) (by decide)) dL_acts_137 ?_
    refine x_iload C dL_acts_139 0 rfl ?_
    refine x_iconst (v := 5) C dL_acts_141 (by decide) ?_
    obtain ⟨h6, hf⟩ := x_n hf
    refine x_irem C dL_acts_142 h6 ?_
    obtain ⟨u7, hu7, hf⟩ := x_b hf
    obtain ⟨h8, hf⟩ := x_y hf
    refine x_callVR (n := 1) (As := [.int (u3 - u3 / (5 : Int32) * (5 : Int32))]) (rest := [.ref (a 0)]) C (c_J0_charAt_5068e g l 15 (u3 - u3 / (5 : Int32) * (5 : Int32)) hu7) ⟨⟨wd_1032, wd_1029, wd_36⟩, ⟨by decide, by decide, by decide⟩, rfl, rfl, Nat.le_of_ble_eq_true rfl, Nat.le_of_ble_eq_true rfl⟩ wd_1030 wd_1031 (CX_so C h8).1 [ccO g a b y z, stO g a 10 v, cdW g a 10 c, evW g a 10 e, stO g a 20 v2, cdW g a 20 c2, evW g a 20 e2, hiO g a h, hrW g a t, stF g a vs, cdF g a cs, evF g a es, prO g b q, caW g b t2, cmF g b ws] (x_pickD [0, 1, 2, 3, 4, 5, 6, 7, 8, 9, 10, 11, 12, 13, 14] 15 rfl rfl rfl) rfl rfl (Nat.le_of_ble_eq_true rfl) ⟨by show _ ≤ 82; omega, by show _ ≤ 3628; omega⟩ dL_acts_143 (x_goD (wss2 := [ccO g a b y z, stO g a 10 v, cdW g a 10 c, evW g a 10 e, stO g a 20 v2, cdW g a 20 c2, evW g a 20 e2, hiO g a h, hrW g a t, stF g a vs, cdF g a cs, evF g a es, prO g b q, caW g b t2, cmF g b ws]) (stk2 := [.int u7, .ref (a 0)]) rfl rfl ?_)
    refine x_bipush (v := 17) C dL_acts_146 (by decide) ?_
    refine x_iload C dL_acts_148 0 rfl ?_
    refine x_imul C dL_acts_150 ?_
    refine x_iload C dL_acts_151 1 rfl ?_
    obtain ⟨u9, hu9, hf⟩ := x_b hf
    refine x_hcallS (n := 4) (As := [.ref (a 0), .int u7, .int ((17 : Int32) * u3), .int u2]) (rest := []) C (c_Q_addCandle g l hl a b y z v c e h t vs cs es u7 ((17 : Int32) * u3) u2 hu9) ⟨⟨wd_1046, wd_1044, wd_24⟩, ⟨by decide, by decide, by decide⟩, rfl, rfl, Nat.le_of_ble_eq_true rfl, Nat.le_of_ble_eq_true rfl⟩ wd_1045 [stO g a 20 v2, cdW g a 20 c2, evW g a 20 e2, prO g b q, caW g b t2, cmF g b ws] (x_pickD [0, 1, 2, 3, 7, 8, 9, 10, 11, 4, 5, 6, 12, 13, 14] 15 rfl rfl rfl) rfl rfl (Nat.le_of_ble_eq_true rfl) ⟨by show _ ≤ 82; omega, by show _ ≤ 3628; omega⟩ dL_acts_153 (fun v9 w9 hQ9 => ?_)
    obtain ⟨rfl, rfl⟩ := hQ9
    refine x_goW (wss2 := [ccO g a b y z, stO g a 10 u9.2.1, cdW g a 10 u9.2.2.1, evW g a 10 e, hiO g a u9.2.2.2.1, hrW g a t, stF g a u9.2.2.2.2.1, cdF g a u9.2.2.2.2.2.1, evF g a u9.2.2.2.2.2.2, stO g a 20 v2, cdW g a 20 c2, evW g a 20 e2, prO g b q, caW g b t2, cmF g b ws]) (stk2 := [.int u9.1]) rfl rfl rfl ?_
    refine x_perm (wss' := [ccO g a b y z, stO g a 10 u9.2.1, cdW g a 10 u9.2.2.1, evW g a 10 e, stO g a 20 v2, cdW g a 20 c2, evW g a 20 e2, hiO g a u9.2.2.2.1, hrW g a t, stF g a u9.2.2.2.2.1, cdF g a u9.2.2.2.2.2.1, evF g a u9.2.2.2.2.2.2, prO g b q, caW g b t2, cmF g b ws]) (x_pick [0, 1, 2, 3, 9, 10, 11, 4, 5, 6, 7, 8, 12, 13, 14] 15 rfl rfl rfl) ?_
    refine x_widen (k := 82) (n := 3628) (by omega) (by omega) ?_
    obtain rfl := Option.some.inj hf
    exact x_iret C hr ⟨rfl, rfl⟩ dL_acts_156
  · have hf := x_f h5 hf
    by_cases h10 : u4 = 1
    · have hf := x_t h10 hf
      refine x_tableIn (off := 118) (tgt := 157) C dL_acts_39 (by rw [h10]; decide) (by rw [h10]; decide) (by rw [h10]; rfl) (by decide) ?_
      refine x_aload_n C dL_acts_157 rfl 3 rfl ?_
      refine x_iload_n C dL_acts_158 rfl 2 rfl ?_
      obtain ⟨u11, hu11, hf⟩ := x_b hf
      refine x_hcallS (n := 2) (As := [.ref (a 0), .int u1]) (rest := []) C (c_Q_light g l hl a b y z v c e h t vs cs es u1 hu11) ⟨⟨wd_575, wd_573, wd_24⟩, ⟨by decide, by decide, by decide⟩, rfl, rfl, Nat.le_of_ble_eq_true rfl, Nat.le_of_ble_eq_true rfl⟩ wd_574 [stO g a 20 v2, cdW g a 20 c2, evW g a 20 e2, prO g b q, caW g b t2, cmF g b ws] (x_pickD [0, 1, 2, 3, 7, 8, 9, 10, 11, 4, 5, 6, 12, 13, 14] 15 rfl rfl rfl) rfl rfl (Nat.le_of_ble_eq_true rfl) ⟨by show _ ≤ 82; omega, by show _ ≤ 3628; omega⟩ dL_acts_159 (fun v9 w9 hQ9 => ?_)
      obtain ⟨rfl, rfl⟩ := hQ9
      refine x_goW (wss2 := [ccO g a b y z, stO g a 10 v, cdW g a 10 u11.2.1, evW g a 10 e, hiO g a u11.2.2.1, hrW g a t, stF g a u11.2.2.2.1, cdF g a u11.2.2.2.2.1, evF g a u11.2.2.2.2.2, stO g a 20 v2, cdW g a 20 c2, evW g a 20 e2, prO g b q, caW g b t2, cmF g b ws]) (stk2 := [.int u11.1]) rfl rfl rfl ?_
      refine x_perm (wss' := [ccO g a b y z, stO g a 10 v, cdW g a 10 u11.2.1, evW g a 10 e, stO g a 20 v2, cdW g a 20 c2, evW g a 20 e2, hiO g a u11.2.2.1, hrW g a t, stF g a u11.2.2.2.1, cdF g a u11.2.2.2.2.1, evF g a u11.2.2.2.2.2, prO g b q, caW g b t2, cmF g b ws]) (x_pick [0, 1, 2, 3, 9, 10, 11, 4, 5, 6, 7, 8, 12, 13, 14] 15 rfl rfl rfl) ?_
      refine x_widen (k := 82) (n := 3628) (by omega) (by omega) ?_
      obtain rfl := Option.some.inj hf
      exact x_iret C hr ⟨rfl, rfl⟩ dL_acts_162
    · have hf := x_f h10 hf
      by_cases h12 : u4 = 2
      · have hf := x_t h12 hf
        refine x_tableIn (off := 118) (tgt := 157) C dL_acts_39 (by rw [h12]; decide) (by rw [h12]; decide) (by rw [h12]; rfl) (by decide) ?_
        refine x_aload_n C dL_acts_157 rfl 3 rfl ?_
        refine x_iload_n C dL_acts_158 rfl 2 rfl ?_
        obtain ⟨u13, hu13, hf⟩ := x_b hf
        refine x_hcallS (n := 2) (As := [.ref (a 0), .int u1]) (rest := []) C (c_Q_light g l hl a b y z v c e h t vs cs es u1 hu13) ⟨⟨wd_575, wd_573, wd_24⟩, ⟨by decide, by decide, by decide⟩, rfl, rfl, Nat.le_of_ble_eq_true rfl, Nat.le_of_ble_eq_true rfl⟩ wd_574 [stO g a 20 v2, cdW g a 20 c2, evW g a 20 e2, prO g b q, caW g b t2, cmF g b ws] (x_pickD [0, 1, 2, 3, 7, 8, 9, 10, 11, 4, 5, 6, 12, 13, 14] 15 rfl rfl rfl) rfl rfl (Nat.le_of_ble_eq_true rfl) ⟨by show _ ≤ 82; omega, by show _ ≤ 3628; omega⟩ dL_acts_159 (fun v9 w9 hQ9 => ?_)
        obtain ⟨rfl, rfl⟩ := hQ9
        refine x_goW (wss2 := [ccO g a b y z, stO g a 10 v, cdW g a 10 u13.2.1, evW g a 10 e, hiO g a u13.2.2.1, hrW g a t, stF g a u13.2.2.2.1, cdF g a u13.2.2.2.2.1, evF g a u13.2.2.2.2.2, stO g a 20 v2, cdW g a 20 c2, evW g a 20 e2, prO g b q, caW g b t2, cmF g b ws]) (stk2 := [.int u13.1]) rfl rfl rfl ?_
        refine x_perm (wss' := [ccO g a b y z, stO g a 10 v, cdW g a 10 u13.2.1, evW g a 10 e, stO g a 20 v2, cdW g a 20 c2, evW g a 20 e2, hiO g a u13.2.2.1, hrW g a t, stF g a u13.2.2.2.1, cdF g a u13.2.2.2.2.1, evF g a u13.2.2.2.2.2, prO g b q, caW g b t2, cmF g b ws]) (x_pick [0, 1, 2, 3, 9, 10, 11, 4, 5, 6, 7, 8, 12, 13, 14] 15 rfl rfl rfl) ?_
        refine x_widen (k := 82) (n := 3628) (by omega) (by omega) ?_
        obtain rfl := Option.some.inj hf
        exact x_iret C hr ⟨rfl, rfl⟩ dL_acts_162
      · have hf := x_f h12 hf
        by_cases h14 : u4 = 3
        · have hf := x_t h14 hf
          refine x_tableIn (off := 118) (tgt := 157) C dL_acts_39 (by rw [h14]; decide) (by rw [h14]; decide) (by rw [h14]; rfl) (by decide) ?_
          refine x_aload_n C dL_acts_157 rfl 3 rfl ?_
          refine x_iload_n C dL_acts_158 rfl 2 rfl ?_
          obtain ⟨u15, hu15, hf⟩ := x_b hf
          refine x_hcallS (n := 2) (As := [.ref (a 0), .int u1]) (rest := []) C (c_Q_light g l hl a b y z v c e h t vs cs es u1 hu15) ⟨⟨wd_575, wd_573, wd_24⟩, ⟨by decide, by decide, by decide⟩, rfl, rfl, Nat.le_of_ble_eq_true rfl, Nat.le_of_ble_eq_true rfl⟩ wd_574 [stO g a 20 v2, cdW g a 20 c2, evW g a 20 e2, prO g b q, caW g b t2, cmF g b ws] (x_pickD [0, 1, 2, 3, 7, 8, 9, 10, 11, 4, 5, 6, 12, 13, 14] 15 rfl rfl rfl) rfl rfl (Nat.le_of_ble_eq_true rfl) ⟨by show _ ≤ 82; omega, by show _ ≤ 3628; omega⟩ dL_acts_159 (fun v9 w9 hQ9 => ?_)
          obtain ⟨rfl, rfl⟩ := hQ9
          refine x_goW (wss2 := [ccO g a b y z, stO g a 10 v, cdW g a 10 u15.2.1, evW g a 10 e, hiO g a u15.2.2.1, hrW g a t, stF g a u15.2.2.2.1, cdF g a u15.2.2.2.2.1, evF g a u15.2.2.2.2.2, stO g a 20 v2, cdW g a 20 c2, evW g a 20 e2, prO g b q, caW g b t2, cmF g b ws]) (stk2 := [.int u15.1]) rfl rfl rfl ?_
          refine x_perm (wss' := [ccO g a b y z, stO g a 10 v, cdW g a 10 u15.2.1, evW g a 10 e, stO g a 20 v2, cdW g a 20 c2, evW g a 20 e2, hiO g a u15.2.2.1, hrW g a t, stF g a u15.2.2.2.1, cdF g a u15.2.2.2.2.1, evF g a u15.2.2.2.2.2, prO g b q, caW g b t2, cmF g b ws]) (x_pick [0, 1, 2, 3, 9, 10, 11, 4, 5, 6, 7, 8, 12, 13, 14] 15 rfl rfl rfl) ?_
          refine x_widen (k := 82) (n := 3628) (by omega) (by omega) ?_
          obtain rfl := Option.some.inj hf
          exact x_iret C hr ⟨rfl, rfl⟩ dL_acts_162
        · have hf := x_f h14 hf
          by_cases h16 : u4 = 4
          · have hf := x_t h16 hf
            refine x_tableIn (off := 118) (tgt := 157) C dL_acts_39 (by rw [h16]; decide) (by rw [h16]; decide) (by rw [h16]; rfl) (by decide) ?_
            refine x_aload_n C dL_acts_157 rfl 3 rfl ?_
            refine x_iload_n C dL_acts_158 rfl 2 rfl ?_
            obtain ⟨u17, hu17, hf⟩ := x_b hf
            refine x_hcallS (n := 2) (As := [.ref (a 0), .int u1]) (rest := []) C (c_Q_light g l hl a b y z v c e h t vs cs es u1 hu17) ⟨⟨wd_575, wd_573, wd_24⟩, ⟨by decide, by decide, by decide⟩, rfl, rfl, Nat.le_of_ble_eq_true rfl, Nat.le_of_ble_eq_true rfl⟩ wd_574 [stO g a 20 v2, cdW g a 20 c2, evW g a 20 e2, prO g b q, caW g b t2, cmF g b ws] (x_pickD [0, 1, 2, 3, 7, 8, 9, 10, 11, 4, 5, 6, 12, 13, 14] 15 rfl rfl rfl) rfl rfl (Nat.le_of_ble_eq_true rfl) ⟨by show _ ≤ 82; omega, by show _ ≤ 3628; omega⟩ dL_acts_159 (fun v9 w9 hQ9 => ?_)
            obtain ⟨rfl, rfl⟩ := hQ9
            refine x_goW (wss2 := [ccO g a b y z, stO g a 10 v, cdW g a 10 u17.2.1, evW g a 10 e, hiO g a u17.2.2.1, hrW g a t, stF g a u17.2.2.2.1, cdF g a u17.2.2.2.2.1, evF g a u17.2.2.2.2.2, stO g a 20 v2, cdW g a 20 c2, evW g a 20 e2, prO g b q, caW g b t2, cmF g b ws]) (stk2 := [.int u17.1]) rfl rfl rfl ?_
            refine x_perm (wss' := [ccO g a b y z, stO g a 10 v, cdW g a 10 u17.2.1, evW g a 10 e, stO g a 20 v2, cdW g a 20 c2, evW g a 20 e2, hiO g a u17.2.2.1, hrW g a t, stF g a u17.2.2.2.1, cdF g a u17.2.2.2.2.1, evF g a u17.2.2.2.2.2, prO g b q, caW g b t2, cmF g b ws]) (x_pick [0, 1, 2, 3, 9, 10, 11, 4, 5, 6, 7, 8, 12, 13, 14] 15 rfl rfl rfl) ?_
            refine x_widen (k := 82) (n := 3628) (by omega) (by omega) ?_
            obtain rfl := Option.some.inj hf
            exact x_iret C hr ⟨rfl, rfl⟩ dL_acts_162
          · have hf := x_f h16 hf
            by_cases h18 : u4 = 5
            · have hf := x_t h18 hf
              refine x_tableIn (off := 124) (tgt := 163) C dL_acts_39 (by rw [h18]; decide) (by rw [h18]; decide) (by rw [h18]; rfl) (by decide) ?_
              refine x_aload_n C dL_acts_163 rfl 3 rfl ?_
              refine x_iload_n C dL_acts_164 rfl 2 rfl ?_
              obtain ⟨u19, hu19, hf⟩ := x_b hf
              refine x_hcallS (n := 2) (As := [.ref (a 0), .int u1]) (rest := []) C (c_Q_snuff g l hl a b y z v c e h t vs cs es u1 hu19) ⟨⟨wd_664, wd_662, wd_24⟩, ⟨by decide, by decide, by decide⟩, rfl, rfl, Nat.le_of_ble_eq_true rfl, Nat.le_of_ble_eq_true rfl⟩ wd_663 [stO g a 20 v2, cdW g a 20 c2, evW g a 20 e2, prO g b q, caW g b t2, cmF g b ws] (x_pickD [0, 1, 2, 3, 7, 8, 9, 10, 11, 4, 5, 6, 12, 13, 14] 15 rfl rfl rfl) rfl rfl (Nat.le_of_ble_eq_true rfl) ⟨by show _ ≤ 82; omega, by show _ ≤ 3628; omega⟩ dL_acts_165 (fun v9 w9 hQ9 => ?_)
              obtain ⟨rfl, rfl⟩ := hQ9
              refine x_goW (wss2 := [ccO g a b y z, stO g a 10 v, cdW g a 10 u19.2.1, evW g a 10 e, hiO g a u19.2.2.1, hrW g a t, stF g a u19.2.2.2.1, cdF g a u19.2.2.2.2.1, evF g a u19.2.2.2.2.2, stO g a 20 v2, cdW g a 20 c2, evW g a 20 e2, prO g b q, caW g b t2, cmF g b ws]) (stk2 := [.int u19.1]) rfl rfl rfl ?_
              refine x_perm (wss' := [ccO g a b y z, stO g a 10 v, cdW g a 10 u19.2.1, evW g a 10 e, stO g a 20 v2, cdW g a 20 c2, evW g a 20 e2, hiO g a u19.2.2.1, hrW g a t, stF g a u19.2.2.2.1, cdF g a u19.2.2.2.2.1, evF g a u19.2.2.2.2.2, prO g b q, caW g b t2, cmF g b ws]) (x_pick [0, 1, 2, 3, 9, 10, 11, 4, 5, 6, 7, 8, 12, 13, 14] 15 rfl rfl rfl) ?_
              refine x_widen (k := 82) (n := 3628) (by omega) (by omega) ?_
              obtain rfl := Option.some.inj hf
              exact x_iret C hr ⟨rfl, rfl⟩ dL_acts_168
            · have hf := x_f h18 hf
              by_cases h20 : u4 = 6
              · have hf := x_t h20 hf
                refine x_tableIn (off := 124) (tgt := 163) C dL_acts_39 (by rw [h20]; decide) (by rw [h20]; decide) (by rw [h20]; rfl) (by decide) ?_
                refine x_aload_n C dL_acts_163 rfl 3 rfl ?_
                refine x_iload_n C dL_acts_164 rfl 2 rfl ?_
                obtain ⟨u21, hu21, hf⟩ := x_b hf
                refine x_hcallS (n := 2) (As := [.ref (a 0), .int u1]) (rest := []) C (c_Q_snuff g l hl a b y z v c e h t vs cs es u1 hu21) ⟨⟨wd_664, wd_662, wd_24⟩, ⟨by decide, by decide, by decide⟩, rfl, rfl, Nat.le_of_ble_eq_true rfl, Nat.le_of_ble_eq_true rfl⟩ wd_663 [stO g a 20 v2, cdW g a 20 c2, evW g a 20 e2, prO g b q, caW g b t2, cmF g b ws] (x_pickD [0, 1, 2, 3, 7, 8, 9, 10, 11, 4, 5, 6, 12, 13, 14] 15 rfl rfl rfl) rfl rfl (Nat.le_of_ble_eq_true rfl) ⟨by show _ ≤ 82; omega, by show _ ≤ 3628; omega⟩ dL_acts_165 (fun v9 w9 hQ9 => ?_)
                obtain ⟨rfl, rfl⟩ := hQ9
                refine x_goW (wss2 := [ccO g a b y z, stO g a 10 v, cdW g a 10 u21.2.1, evW g a 10 e, hiO g a u21.2.2.1, hrW g a t, stF g a u21.2.2.2.1, cdF g a u21.2.2.2.2.1, evF g a u21.2.2.2.2.2, stO g a 20 v2, cdW g a 20 c2, evW g a 20 e2, prO g b q, caW g b t2, cmF g b ws]) (stk2 := [.int u21.1]) rfl rfl rfl ?_
                refine x_perm (wss' := [ccO g a b y z, stO g a 10 v, cdW g a 10 u21.2.1, evW g a 10 e, stO g a 20 v2, cdW g a 20 c2, evW g a 20 e2, hiO g a u21.2.2.1, hrW g a t, stF g a u21.2.2.2.1, cdF g a u21.2.2.2.2.1, evF g a u21.2.2.2.2.2, prO g b q, caW g b t2, cmF g b ws]) (x_pick [0, 1, 2, 3, 9, 10, 11, 4, 5, 6, 7, 8, 12, 13, 14] 15 rfl rfl rfl) ?_
                refine x_widen (k := 82) (n := 3628) (by omega) (by omega) ?_
                obtain rfl := Option.some.inj hf
                exact x_iret C hr ⟨rfl, rfl⟩ dL_acts_168
              · have hf := x_f h20 hf
                by_cases h22 : u4 = 7
                · have hf := x_t h22 hf
                  refine x_tableIn (off := 130) (tgt := 169) C dL_acts_39 (by rw [h22]; decide) (by rw [h22]; decide) (by rw [h22]; rfl) (by decide) ?_
                  refine x_aload_n C dL_acts_169 rfl 3 rfl ?_
                  refine x_iload_n C dL_acts_170 rfl 2 rfl ?_
                  refine x_iload C dL_acts_171 0 rfl ?_
                  refine x_iconst (v := 3) C dL_acts_173 (by decide) ?_
                  obtain ⟨h23, hf⟩ := x_n hf
                  refine x_irem C dL_acts_174 h23 ?_
                  refine x_if_ne (tgt := 189) C dL_acts_175 (by decide) (fun h24 => ?_) (fun h24 => ?_)
                  · have hf := x_f h24 hf
                    refine x_iload C dL_acts_189 0 rfl ?_
                    obtain ⟨u25, hu25, hf⟩ := x_b hf
                    refine x_hcallS (n := 3) (As := [.ref (a 0), .int u1, .int u3]) (rest := []) C (c_Q_pour g l hl a b y z v c e h t vs cs es u1 u3 hu25) ⟨⟨wd_1080, wd_1078, wd_24⟩, ⟨by decide, by decide, by decide⟩, rfl, rfl, Nat.le_of_ble_eq_true rfl, Nat.le_of_ble_eq_true rfl⟩ wd_1079 [stO g a 20 v2, cdW g a 20 c2, evW g a 20 e2, prO g b q, caW g b t2, cmF g b ws] (x_pickD [0, 1, 2, 3, 7, 8, 9, 10, 11, 4, 5, 6, 12, 13, 14] 15 rfl rfl rfl) rfl rfl (Nat.le_of_ble_eq_true rfl) ⟨by show _ ≤ 82; omega, by show _ ≤ 3628; omega⟩ dL_acts_191 (fun v9 w9 hQ9 => ?_)
                    obtain ⟨rfl, rfl⟩ := hQ9
                    refine x_goW (wss2 := [ccO g a b y z, stO g a 10 u25.2.1, cdW g a 10 u25.2.2.1, evW g a 10 e, hiO g a u25.2.2.2.1, hrW g a t, stF g a u25.2.2.2.2.1, cdF g a u25.2.2.2.2.2.1, evF g a u25.2.2.2.2.2.2, stO g a 20 v2, cdW g a 20 c2, evW g a 20 e2, prO g b q, caW g b t2, cmF g b ws]) (stk2 := [.int u25.1]) rfl rfl rfl ?_
                    refine x_perm (wss' := [ccO g a b y z, stO g a 10 u25.2.1, cdW g a 10 u25.2.2.1, evW g a 10 e, stO g a 20 v2, cdW g a 20 c2, evW g a 20 e2, hiO g a u25.2.2.2.1, hrW g a t, stF g a u25.2.2.2.2.1, cdF g a u25.2.2.2.2.2.1, evF g a u25.2.2.2.2.2.2, prO g b q, caW g b t2, cmF g b ws]) (x_pick [0, 1, 2, 3, 9, 10, 11, 4, 5, 6, 7, 8, 12, 13, 14] 15 rfl rfl rfl) ?_
                    refine x_widen (k := 82) (n := 3628) (by omega) (by omega) ?_
                    obtain rfl := Option.some.inj hf
                    exact x_iret C hr ⟨rfl, rfl⟩ dL_acts_194
                  · have hf := x_t h24 hf
                    refine x_iconst (v := 1) C dL_acts_178 (by decide) ?_
                    refine x_aload_n C dL_acts_179 rfl 3 rfl ?_
                    obtain ⟨u26, hu26, hf⟩ := x_b hf
                    refine x_callV (n := 0) (As := []) (rest := [.int (1 : Int32), .int u1, .ref (a 0)]) C (c_X9_dish g l a b y z v hu26) ⟨⟨wd_1076, wd_1073, wd_25⟩, ⟨by decide, by decide, by decide⟩, rfl, rfl, Nat.le_of_ble_eq_true rfl, Nat.le_of_ble_eq_true rfl⟩ wd_1074 wd_1075 ⟨0, 10, _, _, rfl, rfl, rfl⟩ [cdW g a 10 c, evW g a 10 e, stO g a 20 v2, cdW g a 20 c2, evW g a 20 e2, hiO g a h, hrW g a t, stF g a vs, cdF g a cs, evF g a es, prO g b q, caW g b t2, cmF g b ws] (x_pickD [0, 1, 2, 3, 4, 5, 6, 7, 8, 9, 10, 11, 12, 13, 14] 15 rfl rfl rfl) rfl rfl (Nat.le_of_ble_eq_true rfl) ⟨by show _ ≤ 82; omega, by show _ ≤ 3628; omega⟩ dL_acts_180 (x_goD (wss2 := [ccO g a b y z, stO g a 10 v, cdW g a 10 c, evW g a 10 e, stO g a 20 v2, cdW g a 20 c2, evW g a 20 e2, hiO g a h, hrW g a t, stF g a vs, cdF g a cs, evF g a es, prO g b q, caW g b t2, cmF g b ws]) (stk2 := [.int u26, .int (1 : Int32), .int u1, .ref (a 0)]) rfl rfl ?_)
                    refine x_max C wd_1077 wd_292 wd_49 wd_293 ⟨Nat.le_of_ble_eq_true rfl, Nat.le_of_ble_eq_true rfl⟩ ⟨Nat.le_of_ble_eq_true rfl, Nat.le_of_ble_eq_true rfl⟩ dL_acts_183 ?_
                    refine x_goto (tgt := 191) C dL_acts_186 (by decide) ?_
                    obtain ⟨u27, hu27, hf⟩ := x_b hf
                    refine x_hcallS (n := 3) (As := [.ref (a 0), .int u1, .int (jmax (1 : Int32) u26)]) (rest := []) C (c_Q_pour g l hl a b y z v c e h t vs cs es u1 (jmax (1 : Int32) u26) hu27) ⟨⟨wd_1080, wd_1078, wd_24⟩, ⟨by decide, by decide, by decide⟩, rfl, rfl, Nat.le_of_ble_eq_true rfl, Nat.le_of_ble_eq_true rfl⟩ wd_1079 [stO g a 20 v2, cdW g a 20 c2, evW g a 20 e2, prO g b q, caW g b t2, cmF g b ws] (x_pickD [0, 1, 2, 3, 7, 8, 9, 10, 11, 4, 5, 6, 12, 13, 14] 15 rfl rfl rfl) rfl rfl (Nat.le_of_ble_eq_true rfl) ⟨by show _ ≤ 82; omega, by show _ ≤ 3628; omega⟩ dL_acts_191 (fun v9 w9 hQ9 => ?_)
                    obtain ⟨rfl, rfl⟩ := hQ9
                    refine x_goW (wss2 := [ccO g a b y z, stO g a 10 u27.2.1, cdW g a 10 u27.2.2.1, evW g a 10 e, hiO g a u27.2.2.2.1, hrW g a t, stF g a u27.2.2.2.2.1, cdF g a u27.2.2.2.2.2.1, evF g a u27.2.2.2.2.2.2, stO g a 20 v2, cdW g a 20 c2, evW g a 20 e2, prO g b q, caW g b t2, cmF g b ws]) (stk2 := [.int u27.1]) rfl rfl rfl ?_
                    refine x_perm (wss' := [ccO g a b y z, stO g a 10 u27.2.1, cdW g a 10 u27.2.2.1, evW g a 10 e, stO g a 20 v2, cdW g a 20 c2, evW g a 20 e2, hiO g a u27.2.2.2.1, hrW g a t, stF g a u27.2.2.2.2.1, cdF g a u27.2.2.2.2.2.1, evF g a u27.2.2.2.2.2.2, prO g b q, caW g b t2, cmF g b ws]) (x_pick [0, 1, 2, 3, 9, 10, 11, 4, 5, 6, 7, 8, 12, 13, 14] 15 rfl rfl rfl) ?_
                    refine x_widen (k := 82) (n := 3628) (by omega) (by omega) ?_
                    obtain rfl := Option.some.inj hf
                    exact x_iret C hr ⟨rfl, rfl⟩ dL_acts_194
                · have hf := x_f h22 hf
                  by_cases h28 : u4 = 8
                  · have hf := x_t h28 hf
                    refine x_tableIn (off := 130) (tgt := 169) C dL_acts_39 (by rw [h28]; decide) (by rw [h28]; decide) (by rw [h28]; rfl) (by decide) ?_
                    refine x_aload_n C dL_acts_169 rfl 3 rfl ?_
                    refine x_iload_n C dL_acts_170 rfl 2 rfl ?_
                    refine x_iload C dL_acts_171 0 rfl ?_
                    refine x_iconst (v := 3) C dL_acts_173 (by decide) ?_
                    obtain ⟨h29, hf⟩ := x_n hf
                    refine x_irem C dL_acts_174 h29 ?_
                    refine x_if_ne (tgt := 189) C dL_acts_175 (by decide) (fun h30 => ?_) (fun h30 => ?_)
                    · have hf := x_f h30 hf
                      refine x_iload C dL_acts_189 0 rfl ?_
                      obtain ⟨u31, hu31, hf⟩ := x_b hf
                      refine x_hcallS (n := 3) (As := [.ref (a 0), .int u1, .int u3]) (rest := []) C (c_Q_pour g l hl a b y z v c e h t vs cs es u1 u3 hu31) ⟨⟨wd_1080, wd_1078, wd_24⟩, ⟨by decide, by decide, by decide⟩, rfl, rfl, Nat.le_of_ble_eq_true rfl, Nat.le_of_ble_eq_true rfl⟩ wd_1079 [stO g a 20 v2, cdW g a 20 c2, evW g a 20 e2, prO g b q, caW g b t2, cmF g b ws] (x_pickD [0, 1, 2, 3, 7, 8, 9, 10, 11, 4, 5, 6, 12, 13, 14] 15 rfl rfl rfl) rfl rfl (Nat.le_of_ble_eq_true rfl) ⟨by show _ ≤ 82; omega, by show _ ≤ 3628; omega⟩ dL_acts_191 (fun v9 w9 hQ9 => ?_)
                      obtain ⟨rfl, rfl⟩ := hQ9
                      refine x_goW (wss2 := [ccO g a b y z, stO g a 10 u31.2.1, cdW g a 10 u31.2.2.1, evW g a 10 e, hiO g a u31.2.2.2.1, hrW g a t, stF g a u31.2.2.2.2.1, cdF g a u31.2.2.2.2.2.1, evF g a u31.2.2.2.2.2.2, stO g a 20 v2, cdW g a 20 c2, evW g a 20 e2, prO g b q, caW g b t2, cmF g b ws]) (stk2 := [.int u31.1]) rfl rfl rfl ?_
                      refine x_perm (wss' := [ccO g a b y z, stO g a 10 u31.2.1, cdW g a 10 u31.2.2.1, evW g a 10 e, stO g a 20 v2, cdW g a 20 c2, evW g a 20 e2, hiO g a u31.2.2.2.1, hrW g a t, stF g a u31.2.2.2.2.1, cdF g a u31.2.2.2.2.2.1, evF g a u31.2.2.2.2.2.2, prO g b q, caW g b t2, cmF g b ws]) (x_pick [0, 1, 2, 3, 9, 10, 11, 4, 5, 6, 7, 8, 12, 13, 14] 15 rfl rfl rfl) ?_
                      refine x_widen (k := 82) (n := 3628) (by omega) (by omega) ?_
                      obtain rfl := Option.some.inj hf
                      exact x_iret C hr ⟨rfl, rfl⟩ dL_acts_194
                    · have hf := x_t h30 hf
                      refine x_iconst (v := 1) C dL_acts_178 (by decide) ?_
                      refine x_aload_n C dL_acts_179 rfl 3 rfl ?_
                      obtain ⟨u32, hu32, hf⟩ := x_b hf
                      refine x_callV (n := 0) (As := []) (rest := [.int (1 : Int32), .int u1, .ref (a 0)]) C (c_X9_dish g l a b y z v hu32) ⟨⟨wd_1076, wd_1073, wd_25⟩, ⟨by decide, by decide, by decide⟩, rfl, rfl, Nat.le_of_ble_eq_true rfl, Nat.le_of_ble_eq_true rfl⟩ wd_1074 wd_1075 ⟨0, 10, _, _, rfl, rfl, rfl⟩ [cdW g a 10 c, evW g a 10 e, stO g a 20 v2, cdW g a 20 c2, evW g a 20 e2, hiO g a h, hrW g a t, stF g a vs, cdF g a cs, evF g a es, prO g b q, caW g b t2, cmF g b ws] (x_pickD [0, 1, 2, 3, 4, 5, 6, 7, 8, 9, 10, 11, 12, 13, 14] 15 rfl rfl rfl) rfl rfl (Nat.le_of_ble_eq_true rfl) ⟨by show _ ≤ 82; omega, by show _ ≤ 3628; omega⟩ dL_acts_180 (x_goD (wss2 := [ccO g a b y z, stO g a 10 v, cdW g a 10 c, evW g a 10 e, stO g a 20 v2, cdW g a 20 c2, evW g a 20 e2, hiO g a h, hrW g a t, stF g a vs, cdF g a cs, evF g a es, prO g b q, caW g b t2, cmF g b ws]) (stk2 := [.int u32, .int (1 : Int32), .int u1, .ref (a 0)]) rfl rfl ?_)
                      refine x_max C wd_1077 wd_292 wd_49 wd_293 ⟨Nat.le_of_ble_eq_true rfl, Nat.le_of_ble_eq_true rfl⟩ ⟨Nat.le_of_ble_eq_true rfl, Nat.le_of_ble_eq_true rfl⟩ dL_acts_183 ?_
                      refine x_goto (tgt := 191) C dL_acts_186 (by decide) ?_
                      obtain ⟨u33, hu33, hf⟩ := x_b hf
                      refine x_hcallS (n := 3) (As := [.ref (a 0), .int u1, .int (jmax (1 : Int32) u32)]) (rest := []) C (c_Q_pour g l hl a b y z v c e h t vs cs es u1 (jmax (1 : Int32) u32) hu33) ⟨⟨wd_1080, wd_1078, wd_24⟩, ⟨by decide, by decide, by decide⟩, rfl, rfl, Nat.le_of_ble_eq_true rfl, Nat.le_of_ble_eq_true rfl⟩ wd_1079 [stO g a 20 v2, cdW g a 20 c2, evW g a 20 e2, prO g b q, caW g b t2, cmF g b ws] (x_pickD [0, 1, 2, 3, 7, 8, 9, 10, 11, 4, 5, 6, 12, 13, 14] 15 rfl rfl rfl) rfl rfl (Nat.le_of_ble_eq_true rfl) ⟨by show _ ≤ 82; omega, by show _ ≤ 3628; omega⟩ dL_acts_191 (fun v9 w9 hQ9 => ?_)
                      obtain ⟨rfl, rfl⟩ := hQ9
                      refine x_goW (wss2 := [ccO g a b y z, stO g a 10 u33.2.1, cdW g a 10 u33.2.2.1, evW g a 10 e, hiO g a u33.2.2.2.1, hrW g a t, stF g a u33.2.2.2.2.1, cdF g a u33.2.2.2.2.2.1, evF g a u33.2.2.2.2.2.2, stO g a 20 v2, cdW g a 20 c2, evW g a 20 e2, prO g b q, caW g b t2, cmF g b ws]) (stk2 := [.int u33.1]) rfl rfl rfl ?_
                      refine x_perm (wss' := [ccO g a b y z, stO g a 10 u33.2.1, cdW g a 10 u33.2.2.1, evW g a 10 e, stO g a 20 v2, cdW g a 20 c2, evW g a 20 e2, hiO g a u33.2.2.2.1, hrW g a t, stF g a u33.2.2.2.2.1, cdF g a u33.2.2.2.2.2.1, evF g a u33.2.2.2.2.2.2, prO g b q, caW g b t2, cmF g b ws]) (x_pick [0, 1, 2, 3, 9, 10, 11, 4, 5, 6, 7, 8, 12, 13, 14] 15 rfl rfl rfl) ?_
                      refine x_widen (k := 82) (n := 3628) (by omega) (by omega) ?_
                      obtain rfl := Option.some.inj hf
                      exact x_iret C hr ⟨rfl, rfl⟩ dL_acts_194
                  · have hf := x_f h28 hf
                    by_cases h34 : u4 = 9
                    · have hf := x_t h34 hf
                      refine x_tableIn (off := 156) (tgt := 195) C dL_acts_39 (by rw [h34]; decide) (by rw [h34]; decide) (by rw [h34]; rfl) (by decide) ?_
                      refine x_aload_n C dL_acts_195 rfl 3 rfl ?_
                      refine x_iload C dL_acts_196 0 rfl ?_
                      refine x_iconst (v := 5) C dL_acts_198 (by decide) ?_
                      obtain ⟨h35, hf⟩ := x_n hf
                      refine x_irem C dL_acts_199 h35 ?_
                      obtain ⟨u36, hu36, hf⟩ := x_b hf
                      refine x_hcallS (n := 2) (As := [.ref (a 0), .int (u3 - u3 / (5 : Int32) * (5 : Int32))]) (rest := []) C (c_Q_setDraught g l hl a b y z v c e h t vs cs es (u3 - u3 / (5 : Int32) * (5 : Int32)) hu36) ⟨⟨wd_681, wd_679, wd_24⟩, ⟨by decide, by decide, by decide⟩, rfl, rfl, Nat.le_of_ble_eq_true rfl, Nat.le_of_ble_eq_true rfl⟩ wd_680 [stO g a 20 v2, cdW g a 20 c2, evW g a 20 e2, prO g b q, caW g b t2, cmF g b ws] (x_pickD [0, 1, 2, 3, 7, 8, 9, 10, 11, 4, 5, 6, 12, 13, 14] 15 rfl rfl rfl) rfl rfl (Nat.le_of_ble_eq_true rfl) ⟨by show _ ≤ 82; omega, by show _ ≤ 3628; omega⟩ dL_acts_200 (fun v9 w9 hQ9 => ?_)
                      obtain ⟨rfl, rfl⟩ := hQ9
                      refine x_goW (wss2 := [ccO g a b y z, stO g a 10 u36.2.1, cdW g a 10 c, evW g a 10 e, hiO g a u36.2.2.1, hrW g a t, stF g a u36.2.2.2.1, cdF g a u36.2.2.2.2.1, evF g a u36.2.2.2.2.2, stO g a 20 v2, cdW g a 20 c2, evW g a 20 e2, prO g b q, caW g b t2, cmF g b ws]) (stk2 := [.int u36.1]) rfl rfl rfl ?_
                      refine x_perm (wss' := [ccO g a b y z, stO g a 10 u36.2.1, cdW g a 10 c, evW g a 10 e, stO g a 20 v2, cdW g a 20 c2, evW g a 20 e2, hiO g a u36.2.2.1, hrW g a t, stF g a u36.2.2.2.1, cdF g a u36.2.2.2.2.1, evF g a u36.2.2.2.2.2, prO g b q, caW g b t2, cmF g b ws]) (x_pick [0, 1, 2, 3, 9, 10, 11, 4, 5, 6, 7, 8, 12, 13, 14] 15 rfl rfl rfl) ?_
                      refine x_widen (k := 82) (n := 3628) (by omega) (by omega) ?_
                      obtain rfl := Option.some.inj hf
                      exact x_iret C hr ⟨rfl, rfl⟩ dL_acts_203
                    · have hf := x_f h34 hf
                      by_cases h37 : u4 = 10
                      · have hf := x_t h37 hf
                        refine x_tableIn (off := 156) (tgt := 195) C dL_acts_39 (by rw [h37]; decide) (by rw [h37]; decide) (by rw [h37]; rfl) (by decide) ?_
                        refine x_aload_n C dL_acts_195 rfl 3 rfl ?_
                        refine x_iload C dL_acts_196 0 rfl ?_
                        refine x_iconst (v := 5) C dL_acts_198 (by decide) ?_
                        obtain ⟨h38, hf⟩ := x_n hf
                        refine x_irem C dL_acts_199 h38 ?_
                        obtain ⟨u39, hu39, hf⟩ := x_b hf
                        refine x_hcallS (n := 2) (As := [.ref (a 0), .int (u3 - u3 / (5 : Int32) * (5 : Int32))]) (rest := []) C (c_Q_setDraught g l hl a b y z v c e h t vs cs es (u3 - u3 / (5 : Int32) * (5 : Int32)) hu39) ⟨⟨wd_681, wd_679, wd_24⟩, ⟨by decide, by decide, by decide⟩, rfl, rfl, Nat.le_of_ble_eq_true rfl, Nat.le_of_ble_eq_true rfl⟩ wd_680 [stO g a 20 v2, cdW g a 20 c2, evW g a 20 e2, prO g b q, caW g b t2, cmF g b ws] (x_pickD [0, 1, 2, 3, 7, 8, 9, 10, 11, 4, 5, 6, 12, 13, 14] 15 rfl rfl rfl) rfl rfl (Nat.le_of_ble_eq_true rfl) ⟨by show _ ≤ 82; omega, by show _ ≤ 3628; omega⟩ dL_acts_200 (fun v9 w9 hQ9 => ?_)
                        obtain ⟨rfl, rfl⟩ := hQ9
                        refine x_goW (wss2 := [ccO g a b y z, stO g a 10 u39.2.1, cdW g a 10 c, evW g a 10 e, hiO g a u39.2.2.1, hrW g a t, stF g a u39.2.2.2.1, cdF g a u39.2.2.2.2.1, evF g a u39.2.2.2.2.2, stO g a 20 v2, cdW g a 20 c2, evW g a 20 e2, prO g b q, caW g b t2, cmF g b ws]) (stk2 := [.int u39.1]) rfl rfl rfl ?_
                        refine x_perm (wss' := [ccO g a b y z, stO g a 10 u39.2.1, cdW g a 10 c, evW g a 10 e, stO g a 20 v2, cdW g a 20 c2, evW g a 20 e2, hiO g a u39.2.2.1, hrW g a t, stF g a u39.2.2.2.1, cdF g a u39.2.2.2.2.1, evF g a u39.2.2.2.2.2, prO g b q, caW g b t2, cmF g b ws]) (x_pick [0, 1, 2, 3, 9, 10, 11, 4, 5, 6, 7, 8, 12, 13, 14] 15 rfl rfl rfl) ?_
                        refine x_widen (k := 82) (n := 3628) (by omega) (by omega) ?_
                        obtain rfl := Option.some.inj hf
                        exact x_iret C hr ⟨rfl, rfl⟩ dL_acts_203
                      · have hf := x_f h37 hf
                        by_cases h40 : u4 = 11
                        · have hf := x_t h40 hf
                          refine x_tableIn (off := 165) (tgt := 204) C dL_acts_39 (by rw [h40]; decide) (by rw [h40]; decide) (by rw [h40]; rfl) (by decide) ?_
                          refine x_aload_n C dL_acts_204 rfl 3 rfl ?_
                          refine x_aload_n C dL_acts_205 rfl 3 rfl ?_
                          obtain ⟨u41, hu41, hf⟩ := x_b hf
                          refine x_callV (n := 0) (As := []) (rest := [.ref (a 0)]) C (c_X9_time g l a b y z v hu41) ⟨⟨wd_156, wd_153, wd_25⟩, ⟨by decide, by decide, by decide⟩, rfl, rfl, Nat.le_of_ble_eq_true rfl, Nat.le_of_ble_eq_true rfl⟩ wd_154 wd_155 ⟨0, 10, _, _, rfl, rfl, rfl⟩ [cdW g a 10 c, evW g a 10 e, stO g a 20 v2, cdW g a 20 c2, evW g a 20 e2, hiO g a h, hrW g a t, stF g a vs, cdF g a cs, evF g a es, prO g b q, caW g b t2, cmF g b ws] (x_pickD [0, 1, 2, 3, 4, 5, 6, 7, 8, 9, 10, 11, 12, 13, 14] 15 rfl rfl rfl) rfl rfl (Nat.le_of_ble_eq_true rfl) ⟨by show _ ≤ 82; omega, by show _ ≤ 3628; omega⟩ dL_acts_206 (x_goD (wss2 := [ccO g a b y z, stO g a 10 v, cdW g a 10 c, evW g a 10 e, stO g a 20 v2, cdW g a 20 c2, evW g a 20 e2, hiO g a h, hrW g a t, stF g a vs, cdF g a cs, evF g a es, prO g b q, caW g b t2, cmF g b ws]) (stk2 := [.int u41, .ref (a 0)]) rfl rfl ?_)
                          refine x_iload C dL_acts_209 0 rfl ?_
                          refine x_bipush (v := 20) C dL_acts_211 (by decide) ?_
                          obtain ⟨h42, hf⟩ := x_n hf
                          refine x_irem C dL_acts_213 h42 ?_
                          refine x_iadd C dL_acts_214 ?_
                          refine x_iload_n C dL_acts_215 rfl 2 rfl ?_
                          refine x_iload C dL_acts_216 1 rfl ?_
                          refine x_iconst (v := 3) C dL_acts_218 (by decide) ?_
                          refine x_icmp_le (tgt := 226) C dL_acts_219 (by decide) (fun h43 => ?_) (fun h43 => ?_)
                          · have hf := x_t h43 hf
                            refine x_iconst (v := 0) C dL_acts_226 (by decide) ?_
                            obtain ⟨u44, hu44, hf⟩ := x_b hf
                            refine x_hcallS (n := 4) (As := [.ref (a 0), .int (u41 + (u3 - u3 / (20 : Int32) * (20 : Int32))), .int u1, .int (0 : Int32)]) (rest := []) C (c_Q_schedule g l hl a b y z v c e h t vs cs es (u41 + (u3 - u3 / (20 : Int32) * (20 : Int32))) u1 (0 : Int32) hu44) ⟨⟨wd_699, wd_697, wd_24⟩, ⟨by decide, by decide, by decide⟩, rfl, rfl, Nat.le_of_ble_eq_true rfl, Nat.le_of_ble_eq_true rfl⟩ wd_698 [stO g a 20 v2, cdW g a 20 c2, evW g a 20 e2, prO g b q, caW g b t2, cmF g b ws] (x_pickD [0, 1, 2, 3, 7, 8, 9, 10, 11, 4, 5, 6, 12, 13, 14] 15 rfl rfl rfl) rfl rfl (Nat.le_of_ble_eq_true rfl) ⟨by show _ ≤ 82; omega, by show _ ≤ 3628; omega⟩ dL_acts_227 (fun v9 w9 hQ9 => ?_)
                            obtain ⟨rfl, rfl⟩ := hQ9
                            refine x_goW (wss2 := [ccO g a b y z, stO g a 10 v, cdW g a 10 c, evW g a 10 u44.2.1, hiO g a u44.2.2.1, hrW g a t, stF g a u44.2.2.2.1, cdF g a u44.2.2.2.2.1, evF g a u44.2.2.2.2.2, stO g a 20 v2, cdW g a 20 c2, evW g a 20 e2, prO g b q, caW g b t2, cmF g b ws]) (stk2 := [.int u44.1]) rfl rfl rfl ?_
                            refine x_perm (wss' := [ccO g a b y z, stO g a 10 v, cdW g a 10 c, evW g a 10 u44.2.1, stO g a 20 v2, cdW g a 20 c2, evW g a 20 e2, hiO g a u44.2.2.1, hrW g a t, stF g a u44.2.2.2.1, cdF g a u44.2.2.2.2.1, evF g a u44.2.2.2.2.2, prO g b q, caW g b t2, cmF g b ws]) (x_pick [0, 1, 2, 3, 9, 10, 11, 4, 5, 6, 7, 8, 12, 13, 14] 15 rfl rfl rfl) ?_
                            refine x_widen (k := 82) (n := 3628) (by omega) (by omega) ?_
                            obtain rfl := Option.some.inj hf
                            exact x_iret C hr ⟨rfl, rfl⟩ dL_acts_230
                          · have hf := x_f h43 hf
                            refine x_iconst (v := 1) C dL_acts_222 (by decide) ?_
                            refine x_goto (tgt := 227) C dL_acts_223 (by decide) ?_
                            obtain ⟨u45, hu45, hf⟩ := x_b hf
                            refine x_hcallS (n := 4) (As := [.ref (a 0), .int (u41 + (u3 - u3 / (20 : Int32) * (20 : Int32))), .int u1, .int (1 : Int32)]) (rest := []) C (c_Q_schedule g l hl a b y z v c e h t vs cs es (u41 + (u3 - u3 / (20 : Int32) * (20 : Int32))) u1 (1 : Int32) hu45) ⟨⟨wd_699, wd_697, wd_24⟩, ⟨by decide, by decide, by decide⟩, rfl, rfl, Nat.le_of_ble_eq_true rfl, Nat.le_of_ble_eq_true rfl⟩ wd_698 [stO g a 20 v2, cdW g a 20 c2, evW g a 20 e2, prO g b q, caW g b t2, cmF g b ws] (x_pickD [0, 1, 2, 3, 7, 8, 9, 10, 11, 4, 5, 6, 12, 13, 14] 15 rfl rfl rfl) rfl rfl (Nat.le_of_ble_eq_true rfl) ⟨by show _ ≤ 82; omega, by show _ ≤ 3628; omega⟩ dL_acts_227 (fun v9 w9 hQ9 => ?_)
                            obtain ⟨rfl, rfl⟩ := hQ9
                            refine x_goW (wss2 := [ccO g a b y z, stO g a 10 v, cdW g a 10 c, evW g a 10 u45.2.1, hiO g a u45.2.2.1, hrW g a t, stF g a u45.2.2.2.1, cdF g a u45.2.2.2.2.1, evF g a u45.2.2.2.2.2, stO g a 20 v2, cdW g a 20 c2, evW g a 20 e2, prO g b q, caW g b t2, cmF g b ws]) (stk2 := [.int u45.1]) rfl rfl rfl ?_
                            refine x_perm (wss' := [ccO g a b y z, stO g a 10 v, cdW g a 10 c, evW g a 10 u45.2.1, stO g a 20 v2, cdW g a 20 c2, evW g a 20 e2, hiO g a u45.2.2.1, hrW g a t, stF g a u45.2.2.2.1, cdF g a u45.2.2.2.2.1, evF g a u45.2.2.2.2.2, prO g b q, caW g b t2, cmF g b ws]) (x_pick [0, 1, 2, 3, 9, 10, 11, 4, 5, 6, 7, 8, 12, 13, 14] 15 rfl rfl rfl) ?_
                            refine x_widen (k := 82) (n := 3628) (by omega) (by omega) ?_
                            obtain rfl := Option.some.inj hf
                            exact x_iret C hr ⟨rfl, rfl⟩ dL_acts_230
                        · have hf := x_f h40 hf
                          by_cases h46 : u4 = 12
                          · have hf := x_t h46 hf
                            refine x_tableIn (off := 165) (tgt := 204) C dL_acts_39 (by rw [h46]; decide) (by rw [h46]; decide) (by rw [h46]; rfl) (by decide) ?_
                            refine x_aload_n C dL_acts_204 rfl 3 rfl ?_
                            refine x_aload_n C dL_acts_205 rfl 3 rfl ?_
                            obtain ⟨u47, hu47, hf⟩ := x_b hf
                            refine x_callV (n := 0) (As := []) (rest := [.ref (a 0)]) C (c_X9_time g l a b y z v hu47) ⟨⟨wd_156, wd_153, wd_25⟩, ⟨by decide, by decide, by decide⟩, rfl, rfl, Nat.le_of_ble_eq_true rfl, Nat.le_of_ble_eq_true rfl⟩ wd_154 wd_155 ⟨0, 10, _, _, rfl, rfl, rfl⟩ [cdW g a 10 c, evW g a 10 e, stO g a 20 v2, cdW g a 20 c2, evW g a 20 e2, hiO g a h, hrW g a t, stF g a vs, cdF g a cs, evF g a es, prO g b q, caW g b t2, cmF g b ws] (x_pickD [0, 1, 2, 3, 4, 5, 6, 7, 8, 9, 10, 11, 12, 13, 14] 15 rfl rfl rfl) rfl rfl (Nat.le_of_ble_eq_true rfl) ⟨by show _ ≤ 82; omega, by show _ ≤ 3628; omega⟩ dL_acts_206 (x_goD (wss2 := [ccO g a b y z, stO g a 10 v, cdW g a 10 c, evW g a 10 e, stO g a 20 v2, cdW g a 20 c2, evW g a 20 e2, hiO g a h, hrW g a t, stF g a vs, cdF g a cs, evF g a es, prO g b q, caW g b t2, cmF g b ws]) (stk2 := [.int u47, .ref (a 0)]) rfl rfl ?_)
                            refine x_iload C dL_acts_209 0 rfl ?_
                            refine x_bipush (v := 20) C dL_acts_211 (by decide) ?_
                            obtain ⟨h48, hf⟩ := x_n hf
                            refine x_irem C dL_acts_213 h48 ?_
                            refine x_iadd C dL_acts_214 ?_
                            refine x_iload_n C dL_acts_215 rfl 2 rfl ?_
                            refine x_iload C dL_acts_216 1 rfl ?_
                            refine x_iconst (v := 3) C dL_acts_218 (by decide) ?_
                            refine x_icmp_le (tgt := 226) C dL_acts_219 (by decide) (fun h49 => ?_) (fun h49 => ?_)
                            · have hf := x_t h49 hf
                              refine x_iconst (v := 0) C dL_acts_226 (by decide) ?_
                              obtain ⟨u50, hu50, hf⟩ := x_b hf
                              refine x_hcallS (n := 4) (As := [.ref (a 0), .int (u47 + (u3 - u3 / (20 : Int32) * (20 : Int32))), .int u1, .int (0 : Int32)]) (rest := []) C (c_Q_schedule g l hl a b y z v c e h t vs cs es (u47 + (u3 - u3 / (20 : Int32) * (20 : Int32))) u1 (0 : Int32) hu50) ⟨⟨wd_699, wd_697, wd_24⟩, ⟨by decide, by decide, by decide⟩, rfl, rfl, Nat.le_of_ble_eq_true rfl, Nat.le_of_ble_eq_true rfl⟩ wd_698 [stO g a 20 v2, cdW g a 20 c2, evW g a 20 e2, prO g b q, caW g b t2, cmF g b ws] (x_pickD [0, 1, 2, 3, 7, 8, 9, 10, 11, 4, 5, 6, 12, 13, 14] 15 rfl rfl rfl) rfl rfl (Nat.le_of_ble_eq_true rfl) ⟨by show _ ≤ 82; omega, by show _ ≤ 3628; omega⟩ dL_acts_227 (fun v9 w9 hQ9 => ?_)
                              obtain ⟨rfl, rfl⟩ := hQ9
                              refine x_goW (wss2 := [ccO g a b y z, stO g a 10 v, cdW g a 10 c, evW g a 10 u50.2.1, hiO g a u50.2.2.1, hrW g a t, stF g a u50.2.2.2.1, cdF g a u50.2.2.2.2.1, evF g a u50.2.2.2.2.2, stO g a 20 v2, cdW g a 20 c2, evW g a 20 e2, prO g b q, caW g b t2, cmF g b ws]) (stk2 := [.int u50.1]) rfl rfl rfl ?_
                              refine x_perm (wss' := [ccO g a b y z, stO g a 10 v, cdW g a 10 c, evW g a 10 u50.2.1, stO g a 20 v2, cdW g a 20 c2, evW g a 20 e2, hiO g a u50.2.2.1, hrW g a t, stF g a u50.2.2.2.1, cdF g a u50.2.2.2.2.1, evF g a u50.2.2.2.2.2, prO g b q, caW g b t2, cmF g b ws]) (x_pick [0, 1, 2, 3, 9, 10, 11, 4, 5, 6, 7, 8, 12, 13, 14] 15 rfl rfl rfl) ?_
                              refine x_widen (k := 82) (n := 3628) (by omega) (by omega) ?_
                              obtain rfl := Option.some.inj hf
                              exact x_iret C hr ⟨rfl, rfl⟩ dL_acts_230
                            · have hf := x_f h49 hf
                              refine x_iconst (v := 1) C dL_acts_222 (by decide) ?_
                              refine x_goto (tgt := 227) C dL_acts_223 (by decide) ?_
                              obtain ⟨u51, hu51, hf⟩ := x_b hf
                              refine x_hcallS (n := 4) (As := [.ref (a 0), .int (u47 + (u3 - u3 / (20 : Int32) * (20 : Int32))), .int u1, .int (1 : Int32)]) (rest := []) C (c_Q_schedule g l hl a b y z v c e h t vs cs es (u47 + (u3 - u3 / (20 : Int32) * (20 : Int32))) u1 (1 : Int32) hu51) ⟨⟨wd_699, wd_697, wd_24⟩, ⟨by decide, by decide, by decide⟩, rfl, rfl, Nat.le_of_ble_eq_true rfl, Nat.le_of_ble_eq_true rfl⟩ wd_698 [stO g a 20 v2, cdW g a 20 c2, evW g a 20 e2, prO g b q, caW g b t2, cmF g b ws] (x_pickD [0, 1, 2, 3, 7, 8, 9, 10, 11, 4, 5, 6, 12, 13, 14] 15 rfl rfl rfl) rfl rfl (Nat.le_of_ble_eq_true rfl) ⟨by show _ ≤ 82; omega, by show _ ≤ 3628; omega⟩ dL_acts_227 (fun v9 w9 hQ9 => ?_)
                              obtain ⟨rfl, rfl⟩ := hQ9
                              refine x_goW (wss2 := [ccO g a b y z, stO g a 10 v, cdW g a 10 c, evW g a 10 u51.2.1, hiO g a u51.2.2.1, hrW g a t, stF g a u51.2.2.2.1, cdF g a u51.2.2.2.2.1, evF g a u51.2.2.2.2.2, stO g a 20 v2, cdW g a 20 c2, evW g a 20 e2, prO g b q, caW g b t2, cmF g b ws]) (stk2 := [.int u51.1]) rfl rfl rfl ?_
                              refine x_perm (wss' := [ccO g a b y z, stO g a 10 v, cdW g a 10 c, evW g a 10 u51.2.1, stO g a 20 v2, cdW g a 20 c2, evW g a 20 e2, hiO g a u51.2.2.1, hrW g a t, stF g a u51.2.2.2.1, cdF g a u51.2.2.2.2.1, evF g a u51.2.2.2.2.2, prO g b q, caW g b t2, cmF g b ws]) (x_pick [0, 1, 2, 3, 9, 10, 11, 4, 5, 6, 7, 8, 12, 13, 14] 15 rfl rfl rfl) ?_
                              refine x_widen (k := 82) (n := 3628) (by omega) (by omega) ?_
                              obtain rfl := Option.some.inj hf
                              exact x_iret C hr ⟨rfl, rfl⟩ dL_acts_230
                          · have hf := x_f h46 hf
                            by_cases h52 : u4 = 13
                            · have hf := x_t h52 hf
                              refine x_tableIn (off := 165) (tgt := 204) C dL_acts_39 (by rw [h52]; decide) (by rw [h52]; decide) (by rw [h52]; rfl) (by decide) ?_
                              refine x_aload_n C dL_acts_204 rfl 3 rfl ?_
                              refine x_aload_n C dL_acts_205 rfl 3 rfl ?_
                              obtain ⟨u53, hu53, hf⟩ := x_b hf
                              refine x_callV (n := 0) (As := []) (rest := [.ref (a 0)]) C (c_X9_time g l a b y z v hu53) ⟨⟨wd_156, wd_153, wd_25⟩, ⟨by decide, by decide, by decide⟩, rfl, rfl, Nat.le_of_ble_eq_true rfl, Nat.le_of_ble_eq_true rfl⟩ wd_154 wd_155 ⟨0, 10, _, _, rfl, rfl, rfl⟩ [cdW g a 10 c, evW g a 10 e, stO g a 20 v2, cdW g a 20 c2, evW g a 20 e2, hiO g a h, hrW g a t, stF g a vs, cdF g a cs, evF g a es, prO g b q, caW g b t2, cmF g b ws] (x_pickD [0, 1, 2, 3, 4, 5, 6, 7, 8, 9, 10, 11, 12, 13, 14] 15 rfl rfl rfl) rfl rfl (Nat.le_of_ble_eq_true rfl) ⟨by show _ ≤ 82; omega, by show _ ≤ 3628; omega⟩ dL_acts_206 (x_goD (wss2 := [ccO g a b y z, stO g a 10 v, cdW g a 10 c, evW g a 10 e, stO g a 20 v2, cdW g a 20 c2, evW g a 20 e2, hiO g a h, hrW g a t, stF g a vs, cdF g a cs, evF g a es, prO g b q, caW g b t2, cmF g b ws]) (stk2 := [.int u53, .ref (a 0)]) rfl rfl ?_)
                              refine x_iload C dL_acts_209 0 rfl ?_
                              refine x_bipush (v := 20) C dL_acts_211 (by decide) ?_
                              obtain ⟨h54, hf⟩ := x_n hf
                              refine x_irem C dL_acts_213 h54 ?_
                              refine x_iadd C dL_acts_214 ?_
                              refine x_iload_n C dL_acts_215 rfl 2 rfl ?_
                              refine x_iload C dL_acts_216 1 rfl ?_
                              refine x_iconst (v := 3) C dL_acts_218 (by decide) ?_
                              refine x_icmp_le (tgt := 226) C dL_acts_219 (by decide) (fun h55 => ?_) (fun h55 => ?_)
                              · have hf := x_t h55 hf
                                refine x_iconst (v := 0) C dL_acts_226 (by decide) ?_
                                obtain ⟨u56, hu56, hf⟩ := x_b hf
                                refine x_hcallS (n := 4) (As := [.ref (a 0), .int (u53 + (u3 - u3 / (20 : Int32) * (20 : Int32))), .int u1, .int (0 : Int32)]) (rest := []) C (c_Q_schedule g l hl a b y z v c e h t vs cs es (u53 + (u3 - u3 / (20 : Int32) * (20 : Int32))) u1 (0 : Int32) hu56) ⟨⟨wd_699, wd_697, wd_24⟩, ⟨by decide, by decide, by decide⟩, rfl, rfl, Nat.le_of_ble_eq_true rfl, Nat.le_of_ble_eq_true rfl⟩ wd_698 [stO g a 20 v2, cdW g a 20 c2, evW g a 20 e2, prO g b q, caW g b t2, cmF g b ws] (x_pickD [0, 1, 2, 3, 7, 8, 9, 10, 11, 4, 5, 6, 12, 13, 14] 15 rfl rfl rfl) rfl rfl (Nat.le_of_ble_eq_true rfl) ⟨by show _ ≤ 82; omega, by show _ ≤ 3628; omega⟩ dL_acts_227 (fun v9 w9 hQ9 => ?_)
                                obtain ⟨rfl, rfl⟩ := hQ9
                                refine x_goW (wss2 := [ccO g a b y z, stO g a 10 v, cdW g a 10 c, evW g a 10 u56.2.1, hiO g a u56.2.2.1, hrW g a t, stF g a u56.2.2.2.1, cdF g a u56.2.2.2.2.1, evF g a u56.2.2.2.2.2, stO g a 20 v2, cdW g a 20 c2, evW g a 20 e2, prO g b q, caW g b t2, cmF g b ws]) (stk2 := [.int u56.1]) rfl rfl rfl ?_
                                refine x_perm (wss' := [ccO g a b y z, stO g a 10 v, cdW g a 10 c, evW g a 10 u56.2.1, stO g a 20 v2, cdW g a 20 c2, evW g a 20 e2, hiO g a u56.2.2.1, hrW g a t, stF g a u56.2.2.2.1, cdF g a u56.2.2.2.2.1, evF g a u56.2.2.2.2.2, prO g b q, caW g b t2, cmF g b ws]) (x_pick [0, 1, 2, 3, 9, 10, 11, 4, 5, 6, 7, 8, 12, 13, 14] 15 rfl rfl rfl) ?_
                                refine x_widen (k := 82) (n := 3628) (by omega) (by omega) ?_
                                obtain rfl := Option.some.inj hf
                                exact x_iret C hr ⟨rfl, rfl⟩ dL_acts_230
                              · have hf := x_f h55 hf
                                refine x_iconst (v := 1) C dL_acts_222 (by decide) ?_
                                refine x_goto (tgt := 227) C dL_acts_223 (by decide) ?_
                                obtain ⟨u57, hu57, hf⟩ := x_b hf
                                refine x_hcallS (n := 4) (As := [.ref (a 0), .int (u53 + (u3 - u3 / (20 : Int32) * (20 : Int32))), .int u1, .int (1 : Int32)]) (rest := []) C (c_Q_schedule g l hl a b y z v c e h t vs cs es (u53 + (u3 - u3 / (20 : Int32) * (20 : Int32))) u1 (1 : Int32) hu57) ⟨⟨wd_699, wd_697, wd_24⟩, ⟨by decide, by decide, by decide⟩, rfl, rfl, Nat.le_of_ble_eq_true rfl, Nat.le_of_ble_eq_true rfl⟩ wd_698 [stO g a 20 v2, cdW g a 20 c2, evW g a 20 e2, prO g b q, caW g b t2, cmF g b ws] (x_pickD [0, 1, 2, 3, 7, 8, 9, 10, 11, 4, 5, 6, 12, 13, 14] 15 rfl rfl rfl) rfl rfl (Nat.le_of_ble_eq_true rfl) ⟨by show _ ≤ 82; omega, by show _ ≤ 3628; omega⟩ dL_acts_227 (fun v9 w9 hQ9 => ?_)
                                obtain ⟨rfl, rfl⟩ := hQ9
                                refine x_goW (wss2 := [ccO g a b y z, stO g a 10 v, cdW g a 10 c, evW g a 10 u57.2.1, hiO g a u57.2.2.1, hrW g a t, stF g a u57.2.2.2.1, cdF g a u57.2.2.2.2.1, evF g a u57.2.2.2.2.2, stO g a 20 v2, cdW g a 20 c2, evW g a 20 e2, prO g b q, caW g b t2, cmF g b ws]) (stk2 := [.int u57.1]) rfl rfl rfl ?_
                                refine x_perm (wss' := [ccO g a b y z, stO g a 10 v, cdW g a 10 c, evW g a 10 u57.2.1, stO g a 20 v2, cdW g a 20 c2, evW g a 20 e2, hiO g a u57.2.2.1, hrW g a t, stF g a u57.2.2.2.1, cdF g a u57.2.2.2.2.1, evF g a u57.2.2.2.2.2, prO g b q, caW g b t2, cmF g b ws]) (x_pick [0, 1, 2, 3, 9, 10, 11, 4, 5, 6, 7, 8, 12, 13, 14] 15 rfl rfl rfl) ?_
                                refine x_widen (k := 82) (n := 3628) (by omega) (by omega) ?_
                                obtain rfl := Option.some.inj hf
                                exact x_iret C hr ⟨rfl, rfl⟩ dL_acts_230
                            · have hf := x_f h52 hf
                              by_cases h58 : u4 = 14
                              · have hf := x_t h58 hf
                                refine x_tableIn (off := 165) (tgt := 204) C dL_acts_39 (by rw [h58]; decide) (by rw [h58]; decide) (by rw [h58]; rfl) (by decide) ?_
                                refine x_aload_n C dL_acts_204 rfl 3 rfl ?_
                                refine x_aload_n C dL_acts_205 rfl 3 rfl ?_
                                obtain ⟨u59, hu59, hf⟩ := x_b hf
                                refine x_callV (n := 0) (As := []) (rest := [.ref (a 0)]) C (c_X9_time g l a b y z v hu59) ⟨⟨wd_156, wd_153, wd_25⟩, ⟨by decide, by decide, by decide⟩, rfl, rfl, Nat.le_of_ble_eq_true rfl, Nat.le_of_ble_eq_true rfl⟩ wd_154 wd_155 ⟨0, 10, _, _, rfl, rfl, rfl⟩ [cdW g a 10 c, evW g a 10 e, stO g a 20 v2, cdW g a 20 c2, evW g a 20 e2, hiO g a h, hrW g a t, stF g a vs, cdF g a cs, evF g a es, prO g b q, caW g b t2, cmF g b ws] (x_pickD [0, 1, 2, 3, 4, 5, 6, 7, 8, 9, 10, 11, 12, 13, 14] 15 rfl rfl rfl) rfl rfl (Nat.le_of_ble_eq_true rfl) ⟨by show _ ≤ 82; omega, by show _ ≤ 3628; omega⟩ dL_acts_206 (x_goD (wss2 := [ccO g a b y z, stO g a 10 v, cdW g a 10 c, evW g a 10 e, stO g a 20 v2, cdW g a 20 c2, evW g a 20 e2, hiO g a h, hrW g a t, stF g a vs, cdF g a cs, evF g a es, prO g b q, caW g b t2, cmF g b ws]) (stk2 := [.int u59, .ref (a 0)]) rfl rfl ?_)
                                refine x_iload C dL_acts_209 0 rfl ?_
                                refine x_bipush (v := 20) C dL_acts_211 (by decide) ?_
                                obtain ⟨h60, hf⟩ := x_n hf
                                refine x_irem C dL_acts_213 h60 ?_
                                refine x_iadd C dL_acts_214 ?_
                                refine x_iload_n C dL_acts_215 rfl 2 rfl ?_
                                refine x_iload C dL_acts_216 1 rfl ?_
                                refine x_iconst (v := 3) C dL_acts_218 (by decide) ?_
                                refine x_icmp_le (tgt := 226) C dL_acts_219 (by decide) (fun h61 => ?_) (fun h61 => ?_)
                                · have hf := x_t h61 hf
                                  refine x_iconst (v := 0) C dL_acts_226 (by decide) ?_
                                  obtain ⟨u62, hu62, hf⟩ := x_b hf
                                  refine x_hcallS (n := 4) (As := [.ref (a 0), .int (u59 + (u3 - u3 / (20 : Int32) * (20 : Int32))), .int u1, .int (0 : Int32)]) (rest := []) C (c_Q_schedule g l hl a b y z v c e h t vs cs es (u59 + (u3 - u3 / (20 : Int32) * (20 : Int32))) u1 (0 : Int32) hu62) ⟨⟨wd_699, wd_697, wd_24⟩, ⟨by decide, by decide, by decide⟩, rfl, rfl, Nat.le_of_ble_eq_true rfl, Nat.le_of_ble_eq_true rfl⟩ wd_698 [stO g a 20 v2, cdW g a 20 c2, evW g a 20 e2, prO g b q, caW g b t2, cmF g b ws] (x_pickD [0, 1, 2, 3, 7, 8, 9, 10, 11, 4, 5, 6, 12, 13, 14] 15 rfl rfl rfl) rfl rfl (Nat.le_of_ble_eq_true rfl) ⟨by show _ ≤ 82; omega, by show _ ≤ 3628; omega⟩ dL_acts_227 (fun v9 w9 hQ9 => ?_)
                                  obtain ⟨rfl, rfl⟩ := hQ9
                                  refine x_goW (wss2 := [ccO g a b y z, stO g a 10 v, cdW g a 10 c, evW g a 10 u62.2.1, hiO g a u62.2.2.1, hrW g a t, stF g a u62.2.2.2.1, cdF g a u62.2.2.2.2.1, evF g a u62.2.2.2.2.2, stO g a 20 v2, cdW g a 20 c2, evW g a 20 e2, prO g b q, caW g b t2, cmF g b ws]) (stk2 := [.int u62.1]) rfl rfl rfl ?_
                                  refine x_perm (wss' := [ccO g a b y z, stO g a 10 v, cdW g a 10 c, evW g a 10 u62.2.1, stO g a 20 v2, cdW g a 20 c2, evW g a 20 e2, hiO g a u62.2.2.1, hrW g a t, stF g a u62.2.2.2.1, cdF g a u62.2.2.2.2.1, evF g a u62.2.2.2.2.2, prO g b q, caW g b t2, cmF g b ws]) (x_pick [0, 1, 2, 3, 9, 10, 11, 4, 5, 6, 7, 8, 12, 13, 14] 15 rfl rfl rfl) ?_
                                  refine x_widen (k := 82) (n := 3628) (by omega) (by omega) ?_
                                  obtain rfl := Option.some.inj hf
                                  exact x_iret C hr ⟨rfl, rfl⟩ dL_acts_230
                                · have hf := x_f h61 hf
                                  refine x_iconst (v := 1) C dL_acts_222 (by decide) ?_
                                  refine x_goto (tgt := 227) C dL_acts_223 (by decide) ?_
                                  obtain ⟨u63, hu63, hf⟩ := x_b hf
                                  refine x_hcallS (n := 4) (As := [.ref (a 0), .int (u59 + (u3 - u3 / (20 : Int32) * (20 : Int32))), .int u1, .int (1 : Int32)]) (rest := []) C (c_Q_schedule g l hl a b y z v c e h t vs cs es (u59 + (u3 - u3 / (20 : Int32) * (20 : Int32))) u1 (1 : Int32) hu63) ⟨⟨wd_699, wd_697, wd_24⟩, ⟨by decide, by decide, by decide⟩, rfl, rfl, Nat.le_of_ble_eq_true rfl, Nat.le_of_ble_eq_true rfl⟩ wd_698 [stO g a 20 v2, cdW g a 20 c2, evW g a 20 e2, prO g b q, caW g b t2, cmF g b ws] (x_pickD [0, 1, 2, 3, 7, 8, 9, 10, 11, 4, 5, 6, 12, 13, 14] 15 rfl rfl rfl) rfl rfl (Nat.le_of_ble_eq_true rfl) ⟨by show _ ≤ 82; omega, by show _ ≤ 3628; omega⟩ dL_acts_227 (fun v9 w9 hQ9 => ?_)
                                  obtain ⟨rfl, rfl⟩ := hQ9
                                  refine x_goW (wss2 := [ccO g a b y z, stO g a 10 v, cdW g a 10 c, evW g a 10 u63.2.1, hiO g a u63.2.2.1, hrW g a t, stF g a u63.2.2.2.1, cdF g a u63.2.2.2.2.1, evF g a u63.2.2.2.2.2, stO g a 20 v2, cdW g a 20 c2, evW g a 20 e2, prO g b q, caW g b t2, cmF g b ws]) (stk2 := [.int u63.1]) rfl rfl rfl ?_
                                  refine x_perm (wss' := [ccO g a b y z, stO g a 10 v, cdW g a 10 c, evW g a 10 u63.2.1, stO g a 20 v2, cdW g a 20 c2, evW g a 20 e2, hiO g a u63.2.2.1, hrW g a t, stF g a u63.2.2.2.1, cdF g a u63.2.2.2.2.1, evF g a u63.2.2.2.2.2, prO g b q, caW g b t2, cmF g b ws]) (x_pick [0, 1, 2, 3, 9, 10, 11, 4, 5, 6, 7, 8, 12, 13, 14] 15 rfl rfl rfl) ?_
                                  refine x_widen (k := 82) (n := 3628) (by omega) (by omega) ?_
                                  obtain rfl := Option.some.inj hf
                                  exact x_iret C hr ⟨rfl, rfl⟩ dL_acts_230
                              · have hf := x_f h58 hf
                                by_cases h64 : u4 = 15
                                · have hf := x_t h64 hf
                                  refine x_tableIn (off := 192) (tgt := 231) C dL_acts_39 (by rw [h64]; decide) (by rw [h64]; decide) (by rw [h64]; rfl) (by decide) ?_
                                  refine x_aload_n C dL_acts_231 rfl 3 rfl ?_
                                  refine x_iload C dL_acts_232 1 rfl ?_
                                  obtain ⟨u65, hu65, hf⟩ := x_b hf
                                  refine x_hcallS (n := 2) (As := [.ref (a 0), .int u2]) (rest := []) C (c_Q_unschedule g l hl a b y z v c e h t vs cs es u2 hu65) ⟨⟨wd_1100, wd_1098, wd_24⟩, ⟨by decide, by decide, by decide⟩, rfl, rfl, Nat.le_of_ble_eq_true rfl, Nat.le_of_ble_eq_true rfl⟩ wd_1099 [stO g a 20 v2, cdW g a 20 c2, evW g a 20 e2, prO g b q, caW g b t2, cmF g b ws] (x_pickD [0, 1, 2, 3, 7, 8, 9, 10, 11, 4, 5, 6, 12, 13, 14] 15 rfl rfl rfl) rfl rfl (Nat.le_of_ble_eq_true rfl) ⟨by show _ ≤ 82; omega, by show _ ≤ 3628; omega⟩ dL_acts_234 (fun v9 w9 hQ9 => ?_)
                                  obtain ⟨rfl, rfl⟩ := hQ9
                                  refine x_goW (wss2 := [ccO g a b y z, stO g a 10 v, cdW g a 10 c, evW g a 10 u65.2.1, hiO g a u65.2.2.1, hrW g a t, stF g a u65.2.2.2.1, cdF g a u65.2.2.2.2.1, evF g a u65.2.2.2.2.2, stO g a 20 v2, cdW g a 20 c2, evW g a 20 e2, prO g b q, caW g b t2, cmF g b ws]) (stk2 := [.int u65.1]) rfl rfl rfl ?_
                                  refine x_perm (wss' := [ccO g a b y z, stO g a 10 v, cdW g a 10 c, evW g a 10 u65.2.1, stO g a 20 v2, cdW g a 20 c2, evW g a 20 e2, hiO g a u65.2.2.1, hrW g a t, stF g a u65.2.2.2.1, cdF g a u65.2.2.2.2.1, evF g a u65.2.2.2.2.2, prO g b q, caW g b t2, cmF g b ws]) (x_pick [0, 1, 2, 3, 9, 10, 11, 4, 5, 6, 7, 8, 12, 13, 14] 15 rfl rfl rfl) ?_
                                  refine x_widen (k := 82) (n := 3628) (by omega) (by omega) ?_
                                  obtain rfl := Option.some.inj hf
                                  exact x_iret C hr ⟨rfl, rfl⟩ dL_acts_237
                                · have hf := x_f h64 hf
                                  by_cases h66 : u4 = 16
                                  · have hf := x_t h66 hf
                                    refine x_tableIn (off := 192) (tgt := 231) C dL_acts_39 (by rw [h66]; decide) (by rw [h66]; decide) (by rw [h66]; rfl) (by decide) ?_
                                    refine x_aload_n C dL_acts_231 rfl 3 rfl ?_
                                    refine x_iload C dL_acts_232 1 rfl ?_
                                    obtain ⟨u67, hu67, hf⟩ := x_b hf
                                    refine x_hcallS (n := 2) (As := [.ref (a 0), .int u2]) (rest := []) C (c_Q_unschedule g l hl a b y z v c e h t vs cs es u2 hu67) ⟨⟨wd_1100, wd_1098, wd_24⟩, ⟨by decide, by decide, by decide⟩, rfl, rfl, Nat.le_of_ble_eq_true rfl, Nat.le_of_ble_eq_true rfl⟩ wd_1099 [stO g a 20 v2, cdW g a 20 c2, evW g a 20 e2, prO g b q, caW g b t2, cmF g b ws] (x_pickD [0, 1, 2, 3, 7, 8, 9, 10, 11, 4, 5, 6, 12, 13, 14] 15 rfl rfl rfl) rfl rfl (Nat.le_of_ble_eq_true rfl) ⟨by show _ ≤ 82; omega, by show _ ≤ 3628; omega⟩ dL_acts_234 (fun v9 w9 hQ9 => ?_)
                                    obtain ⟨rfl, rfl⟩ := hQ9
                                    refine x_goW (wss2 := [ccO g a b y z, stO g a 10 v, cdW g a 10 c, evW g a 10 u67.2.1, hiO g a u67.2.2.1, hrW g a t, stF g a u67.2.2.2.1, cdF g a u67.2.2.2.2.1, evF g a u67.2.2.2.2.2, stO g a 20 v2, cdW g a 20 c2, evW g a 20 e2, prO g b q, caW g b t2, cmF g b ws]) (stk2 := [.int u67.1]) rfl rfl rfl ?_
                                    refine x_perm (wss' := [ccO g a b y z, stO g a 10 v, cdW g a 10 c, evW g a 10 u67.2.1, stO g a 20 v2, cdW g a 20 c2, evW g a 20 e2, hiO g a u67.2.2.1, hrW g a t, stF g a u67.2.2.2.1, cdF g a u67.2.2.2.2.1, evF g a u67.2.2.2.2.2, prO g b q, caW g b t2, cmF g b ws]) (x_pick [0, 1, 2, 3, 9, 10, 11, 4, 5, 6, 7, 8, 12, 13, 14] 15 rfl rfl rfl) ?_
                                    refine x_widen (k := 82) (n := 3628) (by omega) (by omega) ?_
                                    obtain rfl := Option.some.inj hf
                                    exact x_iret C hr ⟨rfl, rfl⟩ dL_acts_237
                                  · have hf := x_f h66 hf
                                    by_cases h68 : u4 = 17
                                    · have hf := x_t h68 hf
                                      refine x_tableIn (off := 199) (tgt := 238) C dL_acts_39 (by rw [h68]; decide) (by rw [h68]; decide) (by rw [h68]; rfl) (by decide) ?_
                                      refine x_aload_n C dL_acts_238 rfl 3 rfl ?_
                                      refine x_iload C dL_acts_239 0 rfl ?_
                                      refine x_iconst (v := 3) C dL_acts_241 (by decide) ?_
                                      obtain ⟨h69, hf⟩ := x_n hf
                                      refine x_irem C dL_acts_242 h69 ?_
                                      refine x_if_ne (tgt := 253) C dL_acts_243 (by decide) (fun h70 => ?_) (fun h70 => ?_)
                                      · have hf := x_f h70 hf
                                        refine x_iload C dL_acts_253 0 rfl ?_
                                        refine x_bipush (v := 9) C dL_acts_255 (by decide) ?_
                                        obtain ⟨h71, hf⟩ := x_n hf
                                        refine x_irem C dL_acts_257 h71 ?_
                                        obtain ⟨u72, hu72, hf⟩ := x_b hf
                                        refine x_hcallS (n := 2) (As := [.ref (a 0), .int (u3 - u3 / (9 : Int32) * (9 : Int32))]) (rest := []) C (c_Q_pass g l hl a b y z v c e h t vs cs es (u3 - u3 / (9 : Int32) * (9 : Int32)) hu72) ⟨⟨wd_721, wd_719, wd_24⟩, ⟨by decide, by decide, by decide⟩, rfl, rfl, Nat.le_of_ble_eq_true rfl, Nat.le_of_ble_eq_true rfl⟩ wd_720 [stO g a 20 v2, cdW g a 20 c2, evW g a 20 e2, prO g b q, caW g b t2, cmF g b ws] (x_pickD [0, 1, 2, 3, 7, 8, 9, 10, 11, 4, 5, 6, 12, 13, 14] 15 rfl rfl rfl) rfl rfl (Nat.le_of_ble_eq_true rfl) ⟨by show _ ≤ 82; omega, by show _ ≤ 3628; omega⟩ dL_acts_258 (fun v9 w9 hQ9 => ?_)
                                        obtain ⟨rfl, rfl⟩ := hQ9
                                        refine x_goW (wss2 := [ccO g a b y z, stO g a 10 u72.2.1, cdW g a 10 u72.2.2.1, evW g a 10 u72.2.2.2.1, hiO g a u72.2.2.2.2.1, hrW g a t, stF g a u72.2.2.2.2.2.1, cdF g a u72.2.2.2.2.2.2.1, evF g a u72.2.2.2.2.2.2.2, stO g a 20 v2, cdW g a 20 c2, evW g a 20 e2, prO g b q, caW g b t2, cmF g b ws]) (stk2 := [.int u72.1]) rfl rfl rfl ?_
                                        refine x_perm (wss' := [ccO g a b y z, stO g a 10 u72.2.1, cdW g a 10 u72.2.2.1, evW g a 10 u72.2.2.2.1, stO g a 20 v2, cdW g a 20 c2, evW g a 20 e2, hiO g a u72.2.2.2.2.1, hrW g a t, stF g a u72.2.2.2.2.2.1, cdF g a u72.2.2.2.2.2.2.1, evF g a u72.2.2.2.2.2.2.2, prO g b q, caW g b t2, cmF g b ws]) (x_pick [0, 1, 2, 3, 9, 10, 11, 4, 5, 6, 7, 8, 12, 13, 14] 15 rfl rfl rfl) ?_
                                        refine x_widen (k := 82) (n := 3628) (by omega) (by omega) ?_
                                        obtain rfl := Option.some.inj hf
                                        exact x_iret C hr ⟨rfl, rfl⟩ dL_acts_261
                                      · have hf := x_t h70 hf
                                        refine x_iconst (v := 3) C dL_acts_246 (by decide) ?_
                                        refine x_iload C dL_acts_247 0 rfl ?_
                                        refine x_imul C dL_acts_249 ?_
                                        refine x_goto (tgt := 258) C dL_acts_250 (by decide) ?_
                                        obtain ⟨u73, hu73, hf⟩ := x_b hf
                                        refine x_hcallS (n := 2) (As := [.ref (a 0), .int ((3 : Int32) * u3)]) (rest := []) C (c_Q_pass g l hl a b y z v c e h t vs cs es ((3 : Int32) * u3) hu73) ⟨⟨wd_721, wd_719, wd_24⟩, ⟨by decide, by decide, by decide⟩, rfl, rfl, Nat.le_of_ble_eq_true rfl, Nat.le_of_ble_eq_true rfl⟩ wd_720 [stO g a 20 v2, cdW g a 20 c2, evW g a 20 e2, prO g b q, caW g b t2, cmF g b ws] (x_pickD [0, 1, 2, 3, 7, 8, 9, 10, 11, 4, 5, 6, 12, 13, 14] 15 rfl rfl rfl) rfl rfl (Nat.le_of_ble_eq_true rfl) ⟨by show _ ≤ 82; omega, by show _ ≤ 3628; omega⟩ dL_acts_258 (fun v9 w9 hQ9 => ?_)
                                        obtain ⟨rfl, rfl⟩ := hQ9
                                        refine x_goW (wss2 := [ccO g a b y z, stO g a 10 u73.2.1, cdW g a 10 u73.2.2.1, evW g a 10 u73.2.2.2.1, hiO g a u73.2.2.2.2.1, hrW g a t, stF g a u73.2.2.2.2.2.1, cdF g a u73.2.2.2.2.2.2.1, evF g a u73.2.2.2.2.2.2.2, stO g a 20 v2, cdW g a 20 c2, evW g a 20 e2, prO g b q, caW g b t2, cmF g b ws]) (stk2 := [.int u73.1]) rfl rfl rfl ?_
                                        refine x_perm (wss' := [ccO g a b y z, stO g a 10 u73.2.1, cdW g a 10 u73.2.2.1, evW g a 10 u73.2.2.2.1, stO g a 20 v2, cdW g a 20 c2, evW g a 20 e2, hiO g a u73.2.2.2.2.1, hrW g a t, stF g a u73.2.2.2.2.2.1, cdF g a u73.2.2.2.2.2.2.1, evF g a u73.2.2.2.2.2.2.2, prO g b q, caW g b t2, cmF g b ws]) (x_pick [0, 1, 2, 3, 9, 10, 11, 4, 5, 6, 7, 8, 12, 13, 14] 15 rfl rfl rfl) ?_
                                        refine x_widen (k := 82) (n := 3628) (by omega) (by omega) ?_
                                        obtain rfl := Option.some.inj hf
                                        exact x_iret C hr ⟨rfl, rfl⟩ dL_acts_261
                                    · have hf := x_f h68 hf
                                      by_cases h74 : u4 = 18
                                      · have hf := x_t h74 hf
                                        refine x_tableIn (off := 199) (tgt := 238) C dL_acts_39 (by rw [h74]; decide) (by rw [h74]; decide) (by rw [h74]; rfl) (by decide) ?_
                                        refine x_aload_n C dL_acts_238 rfl 3 rfl ?_
                                        refine x_iload C dL_acts_239 0 rfl ?_
                                        refine x_iconst (v := 3) C dL_acts_241 (by decide) ?_
                                        obtain ⟨h75, hf⟩ := x_n hf
                                        refine x_irem C dL_acts_242 h75 ?_
                                        refine x_if_ne (tgt := 253) C dL_acts_243 (by decide) (fun h76 => ?_) (fun h76 => ?_)
                                        · have hf := x_f h76 hf
                                          refine x_iload C dL_acts_253 0 rfl ?_
                                          refine x_bipush (v := 9) C dL_acts_255 (by decide) ?_
                                          obtain ⟨h77, hf⟩ := x_n hf
                                          refine x_irem C dL_acts_257 h77 ?_
                                          obtain ⟨u78, hu78, hf⟩ := x_b hf
                                          refine x_hcallS (n := 2) (As := [.ref (a 0), .int (u3 - u3 / (9 : Int32) * (9 : Int32))]) (rest := []) C (c_Q_pass g l hl a b y z v c e h t vs cs es (u3 - u3 / (9 : Int32) * (9 : Int32)) hu78) ⟨⟨wd_721, wd_719, wd_24⟩, ⟨by decide, by decide, by decide⟩, rfl, rfl, Nat.le_of_ble_eq_true rfl, Nat.le_of_ble_eq_true rfl⟩ wd_720 [stO g a 20 v2, cdW g a 20 c2, evW g a 20 e2, prO g b q, caW g b t2, cmF g b ws] (x_pickD [0, 1, 2, 3, 7, 8, 9, 10, 11, 4, 5, 6, 12, 13, 14] 15 rfl rfl rfl) rfl rfl (Nat.le_of_ble_eq_true rfl) ⟨by show _ ≤ 82; omega, by show _ ≤ 3628; omega⟩ dL_acts_258 (fun v9 w9 hQ9 => ?_)
                                          obtain ⟨rfl, rfl⟩ := hQ9
                                          refine x_goW (wss2 := [ccO g a b y z, stO g a 10 u78.2.1, cdW g a 10 u78.2.2.1, evW g a 10 u78.2.2.2.1, hiO g a u78.2.2.2.2.1, hrW g a t, stF g a u78.2.2.2.2.2.1, cdF g a u78.2.2.2.2.2.2.1, evF g a u78.2.2.2.2.2.2.2, stO g a 20 v2, cdW g a 20 c2, evW g a 20 e2, prO g b q, caW g b t2, cmF g b ws]) (stk2 := [.int u78.1]) rfl rfl rfl ?_
                                          refine x_perm (wss' := [ccO g a b y z, stO g a 10 u78.2.1, cdW g a 10 u78.2.2.1, evW g a 10 u78.2.2.2.1, stO g a 20 v2, cdW g a 20 c2, evW g a 20 e2, hiO g a u78.2.2.2.2.1, hrW g a t, stF g a u78.2.2.2.2.2.1, cdF g a u78.2.2.2.2.2.2.1, evF g a u78.2.2.2.2.2.2.2, prO g b q, caW g b t2, cmF g b ws]) (x_pick [0, 1, 2, 3, 9, 10, 11, 4, 5, 6, 7, 8, 12, 13, 14] 15 rfl rfl rfl) ?_
                                          refine x_widen (k := 82) (n := 3628) (by omega) (by omega) ?_
                                          obtain rfl := Option.some.inj hf
                                          exact x_iret C hr ⟨rfl, rfl⟩ dL_acts_261
                                        · have hf := x_t h76 hf
                                          refine x_iconst (v := 3) C dL_acts_246 (by decide) ?_
                                          refine x_iload C dL_acts_247 0 rfl ?_
                                          refine x_imul C dL_acts_249 ?_
                                          refine x_goto (tgt := 258) C dL_acts_250 (by decide) ?_
                                          obtain ⟨u79, hu79, hf⟩ := x_b hf
                                          refine x_hcallS (n := 2) (As := [.ref (a 0), .int ((3 : Int32) * u3)]) (rest := []) C (c_Q_pass g l hl a b y z v c e h t vs cs es ((3 : Int32) * u3) hu79) ⟨⟨wd_721, wd_719, wd_24⟩, ⟨by decide, by decide, by decide⟩, rfl, rfl, Nat.le_of_ble_eq_true rfl, Nat.le_of_ble_eq_true rfl⟩ wd_720 [stO g a 20 v2, cdW g a 20 c2, evW g a 20 e2, prO g b q, caW g b t2, cmF g b ws] (x_pickD [0, 1, 2, 3, 7, 8, 9, 10, 11, 4, 5, 6, 12, 13, 14] 15 rfl rfl rfl) rfl rfl (Nat.le_of_ble_eq_true rfl) ⟨by show _ ≤ 82; omega, by show _ ≤ 3628; omega⟩ dL_acts_258 (fun v9 w9 hQ9 => ?_)
                                          obtain ⟨rfl, rfl⟩ := hQ9
                                          refine x_goW (wss2 := [ccO g a b y z, stO g a 10 u79.2.1, cdW g a 10 u79.2.2.1, evW g a 10 u79.2.2.2.1, hiO g a u79.2.2.2.2.1, hrW g a t, stF g a u79.2.2.2.2.2.1, cdF g a u79.2.2.2.2.2.2.1, evF g a u79.2.2.2.2.2.2.2, stO g a 20 v2, cdW g a 20 c2, evW g a 20 e2, prO g b q, caW g b t2, cmF g b ws]) (stk2 := [.int u79.1]) rfl rfl rfl ?_
                                          refine x_perm (wss' := [ccO g a b y z, stO g a 10 u79.2.1, cdW g a 10 u79.2.2.1, evW g a 10 u79.2.2.2.1, stO g a 20 v2, cdW g a 20 c2, evW g a 20 e2, hiO g a u79.2.2.2.2.1, hrW g a t, stF g a u79.2.2.2.2.2.1, cdF g a u79.2.2.2.2.2.2.1, evF g a u79.2.2.2.2.2.2.2, prO g b q, caW g b t2, cmF g b ws]) (x_pick [0, 1, 2, 3, 9, 10, 11, 4, 5, 6, 7, 8, 12, 13, 14] 15 rfl rfl rfl) ?_
                                          refine x_widen (k := 82) (n := 3628) (by omega) (by omega) ?_
                                          obtain rfl := Option.some.inj hf
                                          exact x_iret C hr ⟨rfl, rfl⟩ dL_acts_261
                                      · have hf := x_f h74 hf
                                        by_cases h80 : u4 = 19
                                        · have hf := x_t h80 hf
                                          refine x_tableIn (off := 199) (tgt := 238) C dL_acts_39 (by rw [h80]; decide) (by rw [h80]; decide) (by rw [h80]; rfl) (by decide) ?_
                                          refine x_aload_n C dL_acts_238 rfl 3 rfl ?_
                                          refine x_iload C dL_acts_239 0 rfl ?_
                                          refine x_iconst (v := 3) C dL_acts_241 (by decide) ?_
                                          obtain ⟨h81, hf⟩ := x_n hf
                                          refine x_irem C dL_acts_242 h81 ?_
                                          refine x_if_ne (tgt := 253) C dL_acts_243 (by decide) (fun h82 => ?_) (fun h82 => ?_)
                                          · have hf := x_f h82 hf
                                            refine x_iload C dL_acts_253 0 rfl ?_
                                            refine x_bipush (v := 9) C dL_acts_255 (by decide) ?_
                                            obtain ⟨h83, hf⟩ := x_n hf
                                            refine x_irem C dL_acts_257 h83 ?_
                                            obtain ⟨u84, hu84, hf⟩ := x_b hf
                                            refine x_hcallS (n := 2) (As := [.ref (a 0), .int (u3 - u3 / (9 : Int32) * (9 : Int32))]) (rest := []) C (c_Q_pass g l hl a b y z v c e h t vs cs es (u3 - u3 / (9 : Int32) * (9 : Int32)) hu84) ⟨⟨wd_721, wd_719, wd_24⟩, ⟨by decide, by decide, by decide⟩, rfl, rfl, Nat.le_of_ble_eq_true rfl, Nat.le_of_ble_eq_true rfl⟩ wd_720 [stO g a 20 v2, cdW g a 20 c2, evW g a 20 e2, prO g b q, caW g b t2, cmF g b ws] (x_pickD [0, 1, 2, 3, 7, 8, 9, 10, 11, 4, 5, 6, 12, 13, 14] 15 rfl rfl rfl) rfl rfl (Nat.le_of_ble_eq_true rfl) ⟨by show _ ≤ 82; omega, by show _ ≤ 3628; omega⟩ dL_acts_258 (fun v9 w9 hQ9 => ?_)
                                            obtain ⟨rfl, rfl⟩ := hQ9
                                            refine x_goW (wss2 := [ccO g a b y z, stO g a 10 u84.2.1, cdW g a 10 u84.2.2.1, evW g a 10 u84.2.2.2.1, hiO g a u84.2.2.2.2.1, hrW g a t, stF g a u84.2.2.2.2.2.1, cdF g a u84.2.2.2.2.2.2.1, evF g a u84.2.2.2.2.2.2.2, stO g a 20 v2, cdW g a 20 c2, evW g a 20 e2, prO g b q, caW g b t2, cmF g b ws]) (stk2 := [.int u84.1]) rfl rfl rfl ?_
                                            refine x_perm (wss' := [ccO g a b y z, stO g a 10 u84.2.1, cdW g a 10 u84.2.2.1, evW g a 10 u84.2.2.2.1, stO g a 20 v2, cdW g a 20 c2, evW g a 20 e2, hiO g a u84.2.2.2.2.1, hrW g a t, stF g a u84.2.2.2.2.2.1, cdF g a u84.2.2.2.2.2.2.1, evF g a u84.2.2.2.2.2.2.2, prO g b q, caW g b t2, cmF g b ws]) (x_pick [0, 1, 2, 3, 9, 10, 11, 4, 5, 6, 7, 8, 12, 13, 14] 15 rfl rfl rfl) ?_
                                            refine x_widen (k := 82) (n := 3628) (by omega) (by omega) ?_
                                            obtain rfl := Option.some.inj hf
                                            exact x_iret C hr ⟨rfl, rfl⟩ dL_acts_261
                                          · have hf := x_t h82 hf
                                            refine x_iconst (v := 3) C dL_acts_246 (by decide) ?_
                                            refine x_iload C dL_acts_247 0 rfl ?_
                                            refine x_imul C dL_acts_249 ?_
                                            refine x_goto (tgt := 258) C dL_acts_250 (by decide) ?_
                                            obtain ⟨u85, hu85, hf⟩ := x_b hf
                                            refine x_hcallS (n := 2) (As := [.ref (a 0), .int ((3 : Int32) * u3)]) (rest := []) C (c_Q_pass g l hl a b y z v c e h t vs cs es ((3 : Int32) * u3) hu85) ⟨⟨wd_721, wd_719, wd_24⟩, ⟨by decide, by decide, by decide⟩, rfl, rfl, Nat.le_of_ble_eq_true rfl, Nat.le_of_ble_eq_true rfl⟩ wd_720 [stO g a 20 v2, cdW g a 20 c2, evW g a 20 e2, prO g b q, caW g b t2, cmF g b ws] (x_pickD [0, 1, 2, 3, 7, 8, 9, 10, 11, 4, 5, 6, 12, 13, 14] 15 rfl rfl rfl) rfl rfl (Nat.le_of_ble_eq_true rfl) ⟨by show _ ≤ 82; omega, by show _ ≤ 3628; omega⟩ dL_acts_258 (fun v9 w9 hQ9 => ?_)
                                            obtain ⟨rfl, rfl⟩ := hQ9
                                            refine x_goW (wss2 := [ccO g a b y z, stO g a 10 u85.2.1, cdW g a 10 u85.2.2.1, evW g a 10 u85.2.2.2.1, hiO g a u85.2.2.2.2.1, hrW g a t, stF g a u85.2.2.2.2.2.1, cdF g a u85.2.2.2.2.2.2.1, evF g a u85.2.2.2.2.2.2.2, stO g a 20 v2, cdW g a 20 c2, evW g a 20 e2, prO g b q, caW g b t2, cmF g b ws]) (stk2 := [.int u85.1]) rfl rfl rfl ?_
                                            refine x_perm (wss' := [ccO g a b y z, stO g a 10 u85.2.1, cdW g a 10 u85.2.2.1, evW g a 10 u85.2.2.2.1, stO g a 20 v2, cdW g a 20 c2, evW g a 20 e2, hiO g a u85.2.2.2.2.1, hrW g a t, stF g a u85.2.2.2.2.2.1, cdF g a u85.2.2.2.2.2.2.1, evF g a u85.2.2.2.2.2.2.2, prO g b q, caW g b t2, cmF g b ws]) (x_pick [0, 1, 2, 3, 9, 10, 11, 4, 5, 6, 7, 8, 12, 13, 14] 15 rfl rfl rfl) ?_
                                            refine x_widen (k := 82) (n := 3628) (by omega) (by omega) ?_
                                            obtain rfl := Option.some.inj hf
                                            exact x_iret C hr ⟨rfl, rfl⟩ dL_acts_261
                                        · have hf := x_f h80 hf
                                          by_cases h86 : u4 = 20
                                          · have hf := x_t h86 hf
                                            refine x_tableIn (off := 199) (tgt := 238) C dL_acts_39 (by rw [h86]; decide) (by rw [h86]; decide) (by rw [h86]; rfl) (by decide) ?_
                                            refine x_aload_n C dL_acts_238 rfl 3 rfl ?_
                                            refine x_iload C dL_acts_239 0 rfl ?_
                                            refine x_iconst (v := 3) C dL_acts_241 (by decide) ?_
                                            obtain ⟨h87, hf⟩ := x_n hf
                                            refine x_irem C dL_acts_242 h87 ?_
                                            refine x_if_ne (tgt := 253) C dL_acts_243 (by decide) (fun h88 => ?_) (fun h88 => ?_)
                                            · have hf := x_f h88 hf
                                              refine x_iload C dL_acts_253 0 rfl ?_
                                              refine x_bipush (v := 9) C dL_acts_255 (by decide) ?_
                                              obtain ⟨h89, hf⟩ := x_n hf
                                              refine x_irem C dL_acts_257 h89 ?_
                                              obtain ⟨u90, hu90, hf⟩ := x_b hf
                                              refine x_hcallS (n := 2) (As := [.ref (a 0), .int (u3 - u3 / (9 : Int32) * (9 : Int32))]) (rest := []) C (c_Q_pass g l hl a b y z v c e h t vs cs es (u3 - u3 / (9 : Int32) * (9 : Int32)) hu90) ⟨⟨wd_721, wd_719, wd_24⟩, ⟨by decide, by decide, by decide⟩, rfl, rfl, Nat.le_of_ble_eq_true rfl, Nat.le_of_ble_eq_true rfl⟩ wd_720 [stO g a 20 v2, cdW g a 20 c2, evW g a 20 e2, prO g b q, caW g b t2, cmF g b ws] (x_pickD [0, 1, 2, 3, 7, 8, 9, 10, 11, 4, 5, 6, 12, 13, 14] 15 rfl rfl rfl) rfl rfl (Nat.le_of_ble_eq_true rfl) ⟨by show _ ≤ 82; omega, by show _ ≤ 3628; omega⟩ dL_acts_258 (fun v9 w9 hQ9 => ?_)
                                              obtain ⟨rfl, rfl⟩ := hQ9
                                              refine x_goW (wss2 := [ccO g a b y z, stO g a 10 u90.2.1, cdW g a 10 u90.2.2.1, evW g a 10 u90.2.2.2.1, hiO g a u90.2.2.2.2.1, hrW g a t, stF g a u90.2.2.2.2.2.1, cdF g a u90.2.2.2.2.2.2.1, evF g a u90.2.2.2.2.2.2.2, stO g a 20 v2, cdW g a 20 c2, evW g a 20 e2, prO g b q, caW g b t2, cmF g b ws]) (stk2 := [.int u90.1]) rfl rfl rfl ?_
                                              refine x_perm (wss' := [ccO g a b y z, stO g a 10 u90.2.1, cdW g a 10 u90.2.2.1, evW g a 10 u90.2.2.2.1, stO g a 20 v2, cdW g a 20 c2, evW g a 20 e2, hiO g a u90.2.2.2.2.1, hrW g a t, stF g a u90.2.2.2.2.2.1, cdF g a u90.2.2.2.2.2.2.1, evF g a u90.2.2.2.2.2.2.2, prO g b q, caW g b t2, cmF g b ws]) (x_pick [0, 1, 2, 3, 9, 10, 11, 4, 5, 6, 7, 8, 12, 13, 14] 15 rfl rfl rfl) ?_
                                              refine x_widen (k := 82) (n := 3628) (by omega) (by omega) ?_
                                              obtain rfl := Option.some.inj hf
                                              exact x_iret C hr ⟨rfl, rfl⟩ dL_acts_261
                                            · have hf := x_t h88 hf
                                              refine x_iconst (v := 3) C dL_acts_246 (by decide) ?_
                                              refine x_iload C dL_acts_247 0 rfl ?_
                                              refine x_imul C dL_acts_249 ?_
                                              refine x_goto (tgt := 258) C dL_acts_250 (by decide) ?_
                                              obtain ⟨u91, hu91, hf⟩ := x_b hf
                                              refine x_hcallS (n := 2) (As := [.ref (a 0), .int ((3 : Int32) * u3)]) (rest := []) C (c_Q_pass g l hl a b y z v c e h t vs cs es ((3 : Int32) * u3) hu91) ⟨⟨wd_721, wd_719, wd_24⟩, ⟨by decide, by decide, by decide⟩, rfl, rfl, Nat.le_of_ble_eq_true rfl, Nat.le_of_ble_eq_true rfl⟩ wd_720 [stO g a 20 v2, cdW g a 20 c2, evW g a 20 e2, prO g b q, caW g b t2, cmF g b ws] (x_pickD [0, 1, 2, 3, 7, 8, 9, 10, 11, 4, 5, 6, 12, 13, 14] 15 rfl rfl rfl) rfl rfl (Nat.le_of_ble_eq_true rfl) ⟨by show _ ≤ 82; omega, by show _ ≤ 3628; omega⟩ dL_acts_258 (fun v9 w9 hQ9 => ?_)
                                              obtain ⟨rfl, rfl⟩ := hQ9
                                              refine x_goW (wss2 := [ccO g a b y z, stO g a 10 u91.2.1, cdW g a 10 u91.2.2.1, evW g a 10 u91.2.2.2.1, hiO g a u91.2.2.2.2.1, hrW g a t, stF g a u91.2.2.2.2.2.1, cdF g a u91.2.2.2.2.2.2.1, evF g a u91.2.2.2.2.2.2.2, stO g a 20 v2, cdW g a 20 c2, evW g a 20 e2, prO g b q, caW g b t2, cmF g b ws]) (stk2 := [.int u91.1]) rfl rfl rfl ?_
                                              refine x_perm (wss' := [ccO g a b y z, stO g a 10 u91.2.1, cdW g a 10 u91.2.2.1, evW g a 10 u91.2.2.2.1, stO g a 20 v2, cdW g a 20 c2, evW g a 20 e2, hiO g a u91.2.2.2.2.1, hrW g a t, stF g a u91.2.2.2.2.2.1, cdF g a u91.2.2.2.2.2.2.1, evF g a u91.2.2.2.2.2.2.2, prO g b q, caW g b t2, cmF g b ws]) (x_pick [0, 1, 2, 3, 9, 10, 11, 4, 5, 6, 7, 8, 12, 13, 14] 15 rfl rfl rfl) ?_
                                              refine x_widen (k := 82) (n := 3628) (by omega) (by omega) ?_
                                              obtain rfl := Option.some.inj hf
                                              exact x_iret C hr ⟨rfl, rfl⟩ dL_acts_261
                                          · have hf := x_f h86 hf
                                            refine x_tableOut (tgt := 262) C dL_acts_39 (by have q0 := lv_neT (a := 0) h5 (by decide); have q1 := lv_neT (a := 1) h10 (by decide); have q2 := lv_neT (a := 2) h12 (by decide); have q3 := lv_neT (a := 3) h14 (by decide); have q4 := lv_neT (a := 4) h16 (by decide); have q5 := lv_neT (a := 5) h18 (by decide); have q6 := lv_neT (a := 6) h20 (by decide); have q7 := lv_neT (a := 7) h22 (by decide); have q8 := lv_neT (a := 8) h28 (by decide); have q9 := lv_neT (a := 9) h34 (by decide); have q10 := lv_neT (a := 10) h37 (by decide); have q11 := lv_neT (a := 11) h40 (by decide); have q12 := lv_neT (a := 12) h46 (by decide); have q13 := lv_neT (a := 13) h52 (by decide); have q14 := lv_neT (a := 14) h58 (by decide); have q15 := lv_neT (a := 15) h64 (by decide); have q16 := lv_neT (a := 16) h66 (by decide); have q17 := lv_neT (a := 17) h68 (by decide); have q18 := lv_neT (a := 18) h74 (by decide); have q19 := lv_neT (a := 19) h80 (by decide); have q20 := lv_neT (a := 20) h86 (by decide); omega) (by decide) ?_
                                            refine x_aload_n C dL_acts_262 rfl 3 rfl ?_
                                            refine x_new (ci := 1) (fs := [.null, .int 0, .int 0, .int 0]) C ixJ4 tyJ4 tyJ4_ok rfl wd_1112 wd_238 wd_35 dfJ4 (by show _ ≤ 82; omega) (by show _ ≤ 3628; omega) dL_acts_263 (fun q92 => ?_)
                                            refine x_same (wss' := [ccO g a b y z, stO g a 10 v, cdW g a 10 c, evW g a 10 e, stO g a 20 v2, cdW g a 20 c2, evW g a 20 e2, hiO g a h, hrW g a t, stF g a vs, cdF g a cs, evF g a es, prO g b q, caW g b t2, cmF g b ws, [(q92, .inr (1, [.null, .int 0, .int 0, .int 0]))]]) rfl ?_
                                            refine x_dup C dL_acts_266 rfl ?_
                                            refine x_callI (n := 0) (As := []) (rest := [.ref q92, .ref (a 0)]) C (c_J4_init_da8c8 g l q92) ⟨⟨wd_241, wd_1113, wd_35⟩, ⟨by decide, by decide, by decide⟩, rfl, rfl, Nat.le_of_ble_eq_true rfl, Nat.le_of_ble_eq_true rfl⟩ wd_240 rfl [ccO g a b y z, stO g a 10 v, cdW g a 10 c, evW g a 10 e, stO g a 20 v2, cdW g a 20 c2, evW g a 20 e2, hiO g a h, hrW g a t, stF g a vs, cdF g a cs, evF g a es, prO g b q, caW g b t2, cmF g b ws] (x_pickD [15, 0, 1, 2, 3, 4, 5, 6, 7, 8, 9, 10, 11, 12, 13, 14] 16 rfl rfl rfl) rfl rfl (Nat.le_of_ble_eq_true rfl) ⟨by show _ ≤ 82; omega, by show _ ≤ 3628; omega⟩ dL_acts_267 (fun v9 w9 hQ9 => ?_)
                                            obtain ⟨rfl, z93, rfl⟩ := hQ9
                                            refine x_goW (wss2 := [sbO g q92 z93 (0, 0), baW g z93 16 (fun _ => 0), ccO g a b y z, stO g a 10 v, cdW g a 10 c, evW g a 10 e, stO g a 20 v2, cdW g a 20 c2, evW g a 20 e2, hiO g a h, hrW g a t, stF g a vs, cdF g a cs, evF g a es, prO g b q, caW g b t2, cmF g b ws]) (stk2 := [.ref q92, .ref (a 0)]) rfl rfl rfl ?_
                                            refine x_ldcS (tx := "wait ") C (CX_str C ("CandleConcertLaw", 137, "wait ", 16) (by decide)) dL_acts_270 ?_
                                            obtain ⟨u94, hu94, hf⟩ := x_b hf
                                            refine x_xpS (z := z93) (n := 16) (k := (0, 0)) (f := (fun _ => 0)) (x1 := 16) (wr := [ccO g a b y z, stO g a 10 v, cdW g a 10 c, evW g a 10 e, stO g a 20 v2, cdW g a 20 c2, evW g a 20 e2, hiO g a h, hrW g a t, stF g a vs, cdF g a cs, evF g a es, prO g b q, caW g b t2, cmF g b ws]) (rest := [.ref (a 0)]) C hu94 wd_272 wd_1115 wd_35 wd_270 wd_271 ⟨Nat.le_of_ble_eq_true rfl, Nat.le_of_ble_eq_true rfl⟩ (by show _ ≤ 82; omega) (by show _ ≤ 3628; omega) (x_pickD [0, 1, 2, 3, 4, 5, 6, 7, 8, 9, 10, 11, 12, 13, 14, 15, 16] 17 rfl rfl rfl) (Nat.le_of_ble_eq_true rfl) dL_acts_272 (fun z95 => ?_)
                                            refine x_iconst (v := 1) C dL_acts_275 (by decide) ?_
                                            refine x_iload C dL_acts_276 0 rfl ?_
                                            refine x_iadd C dL_acts_278 ?_
                                            obtain ⟨u96, hu96, hf⟩ := x_b hf
                                            refine x_xpI (z := z95) (n := u94.1) (k := u94.2.1) (f := u94.2.2) (x1 := (1 : Int32) + u3) (wr := [ccO g a b y z, stO g a 10 v, cdW g a 10 c, evW g a 10 e, stO g a 20 v2, cdW g a 20 c2, evW g a 20 e2, hiO g a h, hrW g a t, stF g a vs, cdF g a cs, evF g a es, prO g b q, caW g b t2, cmF g b ws]) (rest := [.ref (a 0)]) C hu96 wd_390 wd_1116 wd_35 wd_388 wd_389 ⟨Nat.le_of_ble_eq_true rfl, Nat.le_of_ble_eq_true rfl⟩ (by show _ ≤ 82; omega) (by show _ ≤ 3628; omega) (x_pickD [0, 1, 2, 3, 4, 5, 6, 7, 8, 9, 10, 11, 12, 13, 14, 15, 16] 17 rfl rfl rfl) (Nat.le_of_ble_eq_true rfl) dL_acts_279 (fun z97 => ?_)
                                            refine x_iload C dL_acts_282 0 rfl ?_
                                            refine x_iconst (v := 4) C dL_acts_284 (by decide) ?_
                                            obtain ⟨h98, hf⟩ := x_n hf
                                            refine x_irem C dL_acts_285 h98 ?_
                                            refine x_if_ne (tgt := 320) C dL_acts_286 (by decide) (fun h99 => ?_) (fun h99 => ?_)
                                            · have hf := x_f h99 hf
                                              refine x_iload C dL_acts_320 0 rfl ?_
                                              refine x_iconst (v := 4) C dL_acts_322 (by decide) ?_
                                              obtain ⟨h100, hf⟩ := x_n hf
                                              refine x_irem C dL_acts_323 h100 ?_
                                              refine x_iconst (v := 1) C dL_acts_324 (by decide) ?_
                                              refine x_icmp_ne (tgt := 379) C dL_acts_325 (by decide) (fun h101 => ?_) (fun h101 => ?_)
                                              · have hf := x_f h101 hf
                                                refine x_iload C dL_acts_379 0 rfl ?_
                                                refine x_iconst (v := 4) C dL_acts_381 (by decide) ?_
                                                obtain ⟨h102, hf⟩ := x_n hf
                                                refine x_irem C dL_acts_382 h102 ?_
                                                refine x_iconst (v := 2) C dL_acts_383 (by decide) ?_
                                                refine x_icmp_ne (tgt := 419) C dL_acts_384 (by decide) (fun h103 => ?_) (fun h103 => ?_)
                                                · have hf := x_f h103 hf
                                                  refine x_new (ci := 1) (fs := [.null, .int 0, .int 0, .int 0]) C ixJ4 tyJ4 tyJ4_ok rfl wd_1112 wd_238 wd_35 dfJ4 (by show _ ≤ 82; omega) (by show _ ≤ 3628; omega) dL_acts_419 (fun q104 => ?_)
                                                  refine x_same (wss' := [sbO g q92 z97 u96.2.1, baW g z97 u96.1 u96.2.2, ccO g a b y z, stO g a 10 v, cdW g a 10 c, evW g a 10 e, stO g a 20 v2, cdW g a 20 c2, evW g a 20 e2, hiO g a h, hrW g a t, stF g a vs, cdF g a cs, evF g a es, prO g b q, caW g b t2, cmF g b ws, [(q104, .inr (1, [.null, .int 0, .int 0, .int 0]))]]) rfl ?_
                                                  refine x_dup C dL_acts_422 rfl ?_
                                                  refine x_callI (n := 0) (As := []) (rest := [.ref q104, .ref q92, .ref (a 0)]) C (c_J4_init_da8c8 g l q104) ⟨⟨wd_241, wd_1113, wd_35⟩, ⟨by decide, by decide, by decide⟩, rfl, rfl, Nat.le_of_ble_eq_true rfl, Nat.le_of_ble_eq_true rfl⟩ wd_240 rfl [sbO g q92 z97 u96.2.1, baW g z97 u96.1 u96.2.2, ccO g a b y z, stO g a 10 v, cdW g a 10 c, evW g a 10 e, stO g a 20 v2, cdW g a 20 c2, evW g a 20 e2, hiO g a h, hrW g a t, stF g a vs, cdF g a cs, evF g a es, prO g b q, caW g b t2, cmF g b ws] (x_pickD [17, 0, 1, 2, 3, 4, 5, 6, 7, 8, 9, 10, 11, 12, 13, 14, 15, 16] 18 rfl rfl rfl) rfl rfl (Nat.le_of_ble_eq_true rfl) ⟨by show _ ≤ 82; omega, by show _ ≤ 3628; omega⟩ dL_acts_423 (fun v9 w9 hQ9 => ?_)
                                                  obtain ⟨rfl, z105, rfl⟩ := hQ9
                                                  refine x_goW (wss2 := [sbO g q104 z105 (0, 0), baW g z105 16 (fun _ => 0), sbO g q92 z97 u96.2.1, baW g z97 u96.1 u96.2.2, ccO g a b y z, stO g a 10 v, cdW g a 10 c, evW g a 10 e, stO g a 20 v2, cdW g a 20 c2, evW g a 20 e2, hiO g a h, hrW g a t, stF g a vs, cdF g a cs, evF g a es, prO g b q, caW g b t2, cmF g b ws]) (stk2 := [.ref q104, .ref q92, .ref (a 0)]) rfl rfl rfl ?_
                                                  refine x_ldcS (tx := ";plan ") C (CX_str C ("CandleConcertLaw", 156, ";plan ", 33) (by decide)) dL_acts_426 ?_
                                                  obtain ⟨u106, hu106, hf⟩ := x_b hf
                                                  refine x_xpS (z := z105) (n := 16) (k := (0, 0)) (f := (fun _ => 0)) (x1 := 33) (wr := [sbO g q92 z97 u96.2.1, baW g z97 u96.1 u96.2.2, ccO g a b y z, stO g a 10 v, cdW g a 10 c, evW g a 10 e, stO g a 20 v2, cdW g a 20 c2, evW g a 20 e2, hiO g a h, hrW g a t, stF g a vs, cdF g a cs, evF g a es, prO g b q, caW g b t2, cmF g b ws]) (rest := [.ref q92, .ref (a 0)]) C hu106 wd_272 wd_1115 wd_35 wd_270 wd_271 ⟨Nat.le_of_ble_eq_true rfl, Nat.le_of_ble_eq_true rfl⟩ (by show _ ≤ 82; omega) (by show _ ≤ 3628; omega) (x_pickD [0, 1, 2, 3, 4, 5, 6, 7, 8, 9, 10, 11, 12, 13, 14, 15, 16, 17, 18] 19 rfl rfl rfl) (Nat.le_of_ble_eq_true rfl) dL_acts_428 (fun z107 => ?_)
                                                  refine x_aload_n C dL_acts_431 rfl 3 rfl ?_
                                                  obtain ⟨u108, hu108, hf⟩ := x_b hf
                                                  refine x_callV (n := 0) (As := []) (rest := [.ref q104, .ref q92, .ref (a 0)]) C (c_X9_time g l a b y z v hu108) ⟨⟨wd_156, wd_153, wd_25⟩, ⟨by decide, by decide, by decide⟩, rfl, rfl, Nat.le_of_ble_eq_true rfl, Nat.le_of_ble_eq_true rfl⟩ wd_154 wd_155 ⟨0, 10, _, _, rfl, rfl, rfl⟩ [sbO g q104 z107 u106.2.1, baW g z107 u106.1 u106.2.2, sbO g q92 z97 u96.2.1, baW g z97 u96.1 u96.2.2, cdW g a 10 c, evW g a 10 e, stO g a 20 v2, cdW g a 20 c2, evW g a 20 e2, hiO g a h, hrW g a t, stF g a vs, cdF g a cs, evF g a es, prO g b q, caW g b t2, cmF g b ws] (x_pickD [4, 5, 0, 1, 2, 3, 6, 7, 8, 9, 10, 11, 12, 13, 14, 15, 16, 17, 18] 19 rfl rfl rfl) rfl rfl (Nat.le_of_ble_eq_true rfl) ⟨by show _ ≤ 82; omega, by show _ ≤ 3628; omega⟩ dL_acts_432 (x_goD (wss2 := [ccO g a b y z, stO g a 10 v, sbO g q104 z107 u106.2.1, baW g z107 u106.1 u106.2.2, sbO g q92 z97 u96.2.1, baW g z97 u96.1 u96.2.2, cdW g a 10 c, evW g a 10 e, stO g a 20 v2, cdW g a 20 c2, evW g a 20 e2, hiO g a h, hrW g a t, stF g a vs, cdF g a cs, evF g a es, prO g b q, caW g b t2, cmF g b ws]) (stk2 := [.int u108, .ref q104, .ref q92, .ref (a 0)]) rfl rfl ?_)
                                                  refine x_iload C dL_acts_435 0 rfl ?_
                                                  refine x_iadd C dL_acts_437 ?_
                                                  refine x_iconst (v := 3) C dL_acts_438 (by decide) ?_
                                                  refine x_iadd C dL_acts_439 ?_
                                                  obtain ⟨u109, hu109, hf⟩ := x_b hf
                                                  refine x_xpI (z := z107) (n := u106.1) (k := u106.2.1) (f := u106.2.2) (x1 := (u108 + u3) + (3 : Int32)) (wr := [ccO g a b y z, stO g a 10 v, sbO g q92 z97 u96.2.1, baW g z97 u96.1 u96.2.2, cdW g a 10 c, evW g a 10 e, stO g a 20 v2, cdW g a 20 c2, evW g a 20 e2, hiO g a h, hrW g a t, stF g a vs, cdF g a cs, evF g a es, prO g b q, caW g b t2, cmF g b ws]) (rest := [.ref q92, .ref (a 0)]) C hu109 wd_390 wd_1116 wd_35 wd_388 wd_389 ⟨Nat.le_of_ble_eq_true rfl, Nat.le_of_ble_eq_true rfl⟩ (by show _ ≤ 82; omega) (by show _ ≤ 3628; omega) (x_pickD [2, 3, 0, 1, 4, 5, 6, 7, 8, 9, 10, 11, 12, 13, 14, 15, 16, 17, 18] 19 rfl rfl rfl) (Nat.le_of_ble_eq_true rfl) dL_acts_440 (fun z110 => ?_)
                                                  refine x_ldcS (tx := " s") C (CX_str C ("CandleConcertLaw", 164, " s", 37) (by decide)) dL_acts_443 ?_
                                                  obtain ⟨u111, hu111, hf⟩ := x_b hf
                                                  refine x_xpS (z := z110) (n := u109.1) (k := u109.2.1) (f := u109.2.2) (x1 := 37) (wr := [ccO g a b y z, stO g a 10 v, sbO g q92 z97 u96.2.1, baW g z97 u96.1 u96.2.2, cdW g a 10 c, evW g a 10 e, stO g a 20 v2, cdW g a 20 c2, evW g a 20 e2, hiO g a h, hrW g a t, stF g a vs, cdF g a cs, evF g a es, prO g b q, caW g b t2, cmF g b ws]) (rest := [.ref q92, .ref (a 0)]) C hu111 wd_272 wd_1115 wd_35 wd_270 wd_271 ⟨Nat.le_of_ble_eq_true rfl, Nat.le_of_ble_eq_true rfl⟩ (by show _ ≤ 82; omega) (by show _ ≤ 3628; omega) (x_pickD [0, 1, 2, 3, 4, 5, 6, 7, 8, 9, 10, 11, 12, 13, 14, 15, 16, 17, 18] 19 rfl rfl rfl) (Nat.le_of_ble_eq_true rfl) dL_acts_445 (fun z112 => ?_)
                                                  refine x_iload_n C dL_acts_448 rfl 2 rfl ?_
                                                  obtain ⟨u113, hu113, hf⟩ := x_b hf
                                                  refine x_xpI (z := z112) (n := u111.1) (k := u111.2.1) (f := u111.2.2) (x1 := u1) (wr := [ccO g a b y z, stO g a 10 v, sbO g q92 z97 u96.2.1, baW g z97 u96.1 u96.2.2, cdW g a 10 c, evW g a 10 e, stO g a 20 v2, cdW g a 20 c2, evW g a 20 e2, hiO g a h, hrW g a t, stF g a vs, cdF g a cs, evF g a es, prO g b q, caW g b t2, cmF g b ws]) (rest := [.ref q92, .ref (a 0)]) C hu113 wd_390 wd_1116 wd_35 wd_388 wd_389 ⟨Nat.le_of_ble_eq_true rfl, Nat.le_of_ble_eq_true rfl⟩ (by show _ ≤ 82; omega) (by show _ ≤ 3628; omega) (x_pickD [0, 1, 2, 3, 4, 5, 6, 7, 8, 9, 10, 11, 12, 13, 14, 15, 16, 17, 18] 19 rfl rfl rfl) (Nat.le_of_ble_eq_true rfl) dL_acts_449 (fun z114 => ?_)
                                                  refine x_ldcS (tx := ";wait") C (CX_str C ("CandleConcertLaw", 166, ";wait", 38) (by decide)) dL_acts_452 ?_
                                                  obtain ⟨u115, hu115, hf⟩ := x_b hf
                                                  refine x_xpS (z := z114) (n := u113.1) (k := u113.2.1) (f := u113.2.2) (x1 := 38) (wr := [ccO g a b y z, stO g a 10 v, sbO g q92 z97 u96.2.1, baW g z97 u96.1 u96.2.2, cdW g a 10 c, evW g a 10 e, stO g a 20 v2, cdW g a 20 c2, evW g a 20 e2, hiO g a h, hrW g a t, stF g a vs, cdF g a cs, evF g a es, prO g b q, caW g b t2, cmF g b ws]) (rest := [.ref q92, .ref (a 0)]) C hu115 wd_272 wd_1115 wd_35 wd_270 wd_271 ⟨Nat.le_of_ble_eq_true rfl, Nat.le_of_ble_eq_true rfl⟩ (by show _ ≤ 82; omega) (by show _ ≤ 3628; omega) (x_pickD [0, 1, 2, 3, 4, 5, 6, 7, 8, 9, 10, 11, 12, 13, 14, 15, 16, 17, 18] 19 rfl rfl rfl) (Nat.le_of_ble_eq_true rfl) dL_acts_454 (fun z116 => ?_)
                                                  obtain ⟨u117, hu117, hf⟩ := x_b hf
                                                  refine x_callV (n := 0) (As := []) (rest := [.ref q92, .ref (a 0)]) C (c_J4_toString g l q104 z116 u115.1 u115.2.1 u115.2.2 hu117) ⟨⟨wd_415, wd_1119, wd_35⟩, ⟨by decide, by decide, by decide⟩, rfl, rfl, Nat.le_of_ble_eq_true rfl, Nat.le_of_ble_eq_true rfl⟩ wd_413 wd_414 ⟨0, 1, _, _, rfl, rfl, rfl⟩ [ccO g a b y z, stO g a 10 v, sbO g q92 z97 u96.2.1, baW g z97 u96.1 u96.2.2, cdW g a 10 c, evW g a 10 e, stO g a 20 v2, cdW g a 20 c2, evW g a 20 e2, hiO g a h, hrW g a t, stF g a vs, cdF g a cs, evF g a es, prO g b q, caW g b t2, cmF g b ws] (x_pickD [0, 1, 2, 3, 4, 5, 6, 7, 8, 9, 10, 11, 12, 13, 14, 15, 16, 17, 18] 19 rfl rfl rfl) rfl rfl (Nat.le_of_ble_eq_true rfl) ⟨by show _ ≤ 82; omega, by show _ ≤ 3628; omega⟩ dL_acts_457 (fun v9 w9 hQ9 => ?_)
                                                  obtain ⟨n118, n119, rfl, rfl⟩ := hQ9
                                                  refine x_goW (wss2 := [stgO g n118 n119 (), sbO g q104 z116 u115.2.1, baW g z116 u115.1 u115.2.2, baW g n119 u117.1 u117.2, ccO g a b y z, stO g a 10 v, sbO g q92 z97 u96.2.1, baW g z97 u96.1 u96.2.2, cdW g a 10 c, evW g a 10 e, stO g a 20 v2, cdW g a 20 c2, evW g a 20 e2, hiO g a h, hrW g a t, stF g a vs, cdF g a cs, evF g a es, prO g b q, caW g b t2, cmF g b ws]) (stk2 := [.ref n118, .ref q92, .ref (a 0)]) rfl rfl rfl ?_
                                                  obtain ⟨u120, hu120, hf⟩ := x_b hf
                                                  refine x_xpT (z := z97) (n := u96.1) (k := u96.2.1) (f := u96.2.2) (x := n118) (w := n119) (m := u117.1) (h := u117.2) (wr := [sbO g q104 z116 u115.2.1, baW g z116 u115.1 u115.2.2, ccO g a b y z, stO g a 10 v, cdW g a 10 c, evW g a 10 e, stO g a 20 v2, cdW g a 20 c2, evW g a 20 e2, hiO g a h, hrW g a t, stF g a vs, cdF g a cs, evF g a es, prO g b q, caW g b t2, cmF g b ws]) (rest := [.ref (a 0)]) C hu120 wd_272 wd_1115 wd_35 wd_270 wd_271 ⟨Nat.le_of_ble_eq_true rfl, Nat.le_of_ble_eq_true rfl⟩ (by show _ ≤ 82; omega) (by show _ ≤ 3628; omega) (x_pickD [6, 7, 0, 3, 1, 2, 4, 5, 8, 9, 10, 11, 12, 13, 14, 15, 16, 17, 18, 19, 20] 21 rfl rfl rfl) (Nat.le_of_ble_eq_true rfl) dL_acts_460 (fun z121 => ?_)
                                                  obtain ⟨u122, hu122, hf⟩ := x_b hf
                                                  refine x_callV (n := 0) (As := []) (rest := [.ref (a 0)]) C (c_J4_toString g l q92 z121 u120.1 u120.2.1 u120.2.2 hu122) ⟨⟨wd_415, wd_1119, wd_35⟩, ⟨by decide, by decide, by decide⟩, rfl, rfl, Nat.le_of_ble_eq_true rfl, Nat.le_of_ble_eq_true rfl⟩ wd_413 wd_414 ⟨0, 1, _, _, rfl, rfl, rfl⟩ [stgO g n118 n119 (), baW g n119 u117.1 u117.2, sbO g q104 z116 u115.2.1, baW g z116 u115.1 u115.2.2, ccO g a b y z, stO g a 10 v, cdW g a 10 c, evW g a 10 e, stO g a 20 v2, cdW g a 20 c2, evW g a 20 e2, hiO g a h, hrW g a t, stF g a vs, cdF g a cs, evF g a es, prO g b q, caW g b t2, cmF g b ws] (x_pickD [0, 1, 2, 3, 4, 5, 6, 7, 8, 9, 10, 11, 12, 13, 14, 15, 16, 17, 18, 19, 20] 21 rfl rfl rfl) rfl rfl (Nat.le_of_ble_eq_true rfl) ⟨by show _ ≤ 82; omega, by show _ ≤ 3628; omega⟩ dL_acts_463 (fun v9 w9 hQ9 => ?_)
                                                  obtain ⟨n123, n124, rfl, rfl⟩ := hQ9
                                                  refine x_goW (wss2 := [stgO g n123 n124 (), sbO g q92 z121 u120.2.1, baW g z121 u120.1 u120.2.2, baW g n124 u122.1 u122.2, stgO g n118 n119 (), baW g n119 u117.1 u117.2, sbO g q104 z116 u115.2.1, baW g z116 u115.1 u115.2.2, ccO g a b y z, stO g a 10 v, cdW g a 10 c, evW g a 10 e, stO g a 20 v2, cdW g a 20 c2, evW g a 20 e2, hiO g a h, hrW g a t, stF g a vs, cdF g a cs, evF g a es, prO g b q, caW g b t2, cmF g b ws]) (stk2 := [.ref n123, .ref (a 0)]) rfl rfl rfl ?_
                                                  obtain ⟨u125, hu125, hf⟩ := x_b hf
                                                  refine x_callS (n := 2) (As := [.ref (a 0), .ref n123]) (rest := []) C (c_Q_does g l hl a b y n123 n124 u122.1 z v c e v2 c2 e2 h t vs cs es q t2 ws () u122.2 hu125) ⟨⟨wd_1129, wd_1127, wd_24⟩, ⟨by decide, by decide, by decide⟩, rfl, rfl, Nat.le_of_ble_eq_true rfl, Nat.le_of_ble_eq_true rfl⟩ wd_1128 [sbO g q92 z121 u120.2.1, baW g z121 u120.1 u120.2.2, stgO g n118 n119 (), baW g n119 u117.1 u117.2, sbO g q104 z116 u115.2.1, baW g z116 u115.1 u115.2.2] (x_pickD [8, 9, 10, 11, 12, 13, 14, 15, 16, 17, 18, 19, 20, 21, 22, 0, 3, 1, 2, 4, 5, 6, 7] 23 rfl rfl rfl) rfl rfl (Nat.le_of_ble_eq_true rfl) ⟨by show _ ≤ 82; omega, by show _ ≤ 3628; omega⟩ dL_acts_466 (x_goD (wss2 := [ccO g a b y u125.2.1, stO g a 10 u125.2.2.1, cdW g a 10 u125.2.2.2.1, evW g a 10 u125.2.2.2.2.1, stO g a 20 u125.2.2.2.2.2.1, cdW g a 20 u125.2.2.2.2.2.2.1, evW g a 20 u125.2.2.2.2.2.2.2.1, hiO g a u125.2.2.2.2.2.2.2.2.1, hrW g a t, stF g a u125.2.2.2.2.2.2.2.2.2.1, cdF g a u125.2.2.2.2.2.2.2.2.2.2.1, evF g a u125.2.2.2.2.2.2.2.2.2.2.2.1, prO g b u125.2.2.2.2.2.2.2.2.2.2.2.2.1, caW g b t2, cmF g b u125.2.2.2.2.2.2.2.2.2.2.2.2.2, stgO g n123 n124 (), baW g n124 u122.1 u122.2, sbO g q92 z121 u120.2.1, baW g z121 u120.1 u120.2.2, stgO g n118 n119 (), baW g n119 u117.1 u117.2, sbO g q104 z116 u115.2.1, baW g z116 u115.1 u115.2.2]) (stk2 := [.int u125.1]) rfl rfl ?_)
                                                  refine x_dropE (wss' := [ccO g a b y u125.2.1, stO g a 10 u125.2.2.1, cdW g a 10 u125.2.2.2.1, evW g a 10 u125.2.2.2.2.1, stO g a 20 u125.2.2.2.2.2.1, cdW g a 20 u125.2.2.2.2.2.2.1, evW g a 20 u125.2.2.2.2.2.2.2.1, hiO g a u125.2.2.2.2.2.2.2.2.1, hrW g a t, stF g a u125.2.2.2.2.2.2.2.2.2.1, cdF g a u125.2.2.2.2.2.2.2.2.2.2.1, evF g a u125.2.2.2.2.2.2.2.2.2.2.2.1, prO g b u125.2.2.2.2.2.2.2.2.2.2.2.2.1, caW g b t2, cmF g b u125.2.2.2.2.2.2.2.2.2.2.2.2.2]) [stgO g n123 n124 (), baW g n124 u122.1 u122.2, sbO g q92 z121 u120.2.1, baW g z121 u120.1 u120.2.2, stgO g n118 n119 (), baW g n119 u117.1 u117.2, sbO g q104 z116 u115.2.1, baW g z116 u115.1 u115.2.2] (x_pickD [0, 1, 2, 3, 4, 5, 6, 7, 8, 9, 10, 11, 12, 13, 14, 15, 16, 17, 18, 19, 20, 21, 22] 23 rfl rfl rfl) ?_
                                                  refine x_widen (k := 82) (n := 3628) (by omega) (by omega) ?_
                                                  obtain rfl := Option.some.inj hf
                                                  exact x_iret C hr ⟨rfl, rfl⟩ dL_acts_469
                                                · have hf := x_t h103 hf
                                                  refine x_new (ci := 1) (fs := [.null, .int 0, .int 0, .int 0]) C ixJ4 tyJ4 tyJ4_ok rfl wd_1112 wd_238 wd_35 dfJ4 (by show _ ≤ 82; omega) (by show _ ≤ 3628; omega) dL_acts_387 (fun q126 => ?_)
                                                  refine x_same (wss' := [sbO g q92 z97 u96.2.1, baW g z97 u96.1 u96.2.2, ccO g a b y z, stO g a 10 v, cdW g a 10 c, evW g a 10 e, stO g a 20 v2, cdW g a 20 c2, evW g a 20 e2, hiO g a h, hrW g a t, stF g a vs, cdF g a cs, evF g a es, prO g b q, caW g b t2, cmF g b ws, [(q126, .inr (1, [.null, .int 0, .int 0, .int 0]))]]) rfl ?_
                                                  refine x_dup C dL_acts_390 rfl ?_
                                                  refine x_callI (n := 0) (As := []) (rest := [.ref q126, .ref q92, .ref (a 0)]) C (c_J4_init_da8c8 g l q126) ⟨⟨wd_241, wd_1113, wd_35⟩, ⟨by decide, by decide, by decide⟩, rfl, rfl, Nat.le_of_ble_eq_true rfl, Nat.le_of_ble_eq_true rfl⟩ wd_240 rfl [sbO g q92 z97 u96.2.1, baW g z97 u96.1 u96.2.2, ccO g a b y z, stO g a 10 v, cdW g a 10 c, evW g a 10 e, stO g a 20 v2, cdW g a 20 c2, evW g a 20 e2, hiO g a h, hrW g a t, stF g a vs, cdF g a cs, evF g a es, prO g b q, caW g b t2, cmF g b ws] (x_pickD [17, 0, 1, 2, 3, 4, 5, 6, 7, 8, 9, 10, 11, 12, 13, 14, 15, 16] 18 rfl rfl rfl) rfl rfl (Nat.le_of_ble_eq_true rfl) ⟨by show _ ≤ 82; omega, by show _ ≤ 3628; omega⟩ dL_acts_391 (fun v9 w9 hQ9 => ?_)
                                                  obtain ⟨rfl, z127, rfl⟩ := hQ9
                                                  refine x_goW (wss2 := [sbO g q126 z127 (0, 0), baW g z127 16 (fun _ => 0), sbO g q92 z97 u96.2.1, baW g z97 u96.1 u96.2.2, ccO g a b y z, stO g a 10 v, cdW g a 10 c, evW g a 10 e, stO g a 20 v2, cdW g a 20 c2, evW g a 20 e2, hiO g a h, hrW g a t, stF g a vs, cdF g a cs, evF g a es, prO g b q, caW g b t2, cmF g b ws]) (stk2 := [.ref q126, .ref q92, .ref (a 0)]) rfl rfl rfl ?_
                                                  refine x_ldcS (tx := ";pour ") C (CX_str C ("CandleConcertLaw", 160, ";pour ", 35) (by decide)) dL_acts_394 ?_
                                                  obtain ⟨u128, hu128, hf⟩ := x_b hf
                                                  refine x_xpS (z := z127) (n := 16) (k := (0, 0)) (f := (fun _ => 0)) (x1 := 35) (wr := [sbO g q92 z97 u96.2.1, baW g z97 u96.1 u96.2.2, ccO g a b y z, stO g a 10 v, cdW g a 10 c, evW g a 10 e, stO g a 20 v2, cdW g a 20 c2, evW g a 20 e2, hiO g a h, hrW g a t, stF g a vs, cdF g a cs, evF g a es, prO g b q, caW g b t2, cmF g b ws]) (rest := [.ref q92, .ref (a 0)]) C hu128 wd_272 wd_1115 wd_35 wd_270 wd_271 ⟨Nat.le_of_ble_eq_true rfl, Nat.le_of_ble_eq_true rfl⟩ (by show _ ≤ 82; omega) (by show _ ≤ 3628; omega) (x_pickD [0, 1, 2, 3, 4, 5, 6, 7, 8, 9, 10, 11, 12, 13, 14, 15, 16, 17, 18] 19 rfl rfl rfl) (Nat.le_of_ble_eq_true rfl) dL_acts_396 (fun z129 => ?_)
                                                  refine x_iload_n C dL_acts_399 rfl 2 rfl ?_
                                                  obtain ⟨u130, hu130, hf⟩ := x_b hf
                                                  refine x_xpI (z := z129) (n := u128.1) (k := u128.2.1) (f := u128.2.2) (x1 := u1) (wr := [sbO g q92 z97 u96.2.1, baW g z97 u96.1 u96.2.2, ccO g a b y z, stO g a 10 v, cdW g a 10 c, evW g a 10 e, stO g a 20 v2, cdW g a 20 c2, evW g a 20 e2, hiO g a h, hrW g a t, stF g a vs, cdF g a cs, evF g a es, prO g b q, caW g b t2, cmF g b ws]) (rest := [.ref q92, .ref (a 0)]) C hu130 wd_390 wd_1116 wd_35 wd_388 wd_389 ⟨Nat.le_of_ble_eq_true rfl, Nat.le_of_ble_eq_true rfl⟩ (by show _ ≤ 82; omega) (by show _ ≤ 3628; omega) (x_pickD [0, 1, 2, 3, 4, 5, 6, 7, 8, 9, 10, 11, 12, 13, 14, 15, 16, 17, 18] 19 rfl rfl rfl) (Nat.le_of_ble_eq_true rfl) dL_acts_400 (fun z131 => ?_)
                                                  refine x_ldcS (tx := "+1;drop ") C (CX_str C ("CandleConcertLaw", 162, "+1;drop ", 36) (by decide)) dL_acts_403 ?_
                                                  obtain ⟨u132, hu132, hf⟩ := x_b hf
                                                  refine x_xpS (z := z131) (n := u130.1) (k := u130.2.1) (f := u130.2.2) (x1 := 36) (wr := [sbO g q92 z97 u96.2.1, baW g z97 u96.1 u96.2.2, ccO g a b y z, stO g a 10 v, cdW g a 10 c, evW g a 10 e, stO g a 20 v2, cdW g a 20 c2, evW g a 20 e2, hiO g a h, hrW g a t, stF g a vs, cdF g a cs, evF g a es, prO g b q, caW g b t2, cmF g b ws]) (rest := [.ref q92, .ref (a 0)]) C hu132 wd_272 wd_1115 wd_35 wd_270 wd_271 ⟨Nat.le_of_ble_eq_true rfl, Nat.le_of_ble_eq_true rfl⟩ (by show _ ≤ 82; omega) (by show _ ≤ 3628; omega) (x_pickD [0, 1, 2, 3, 4, 5, 6, 7, 8, 9, 10, 11, 12, 13, 14, 15, 16, 17, 18] 19 rfl rfl rfl) (Nat.le_of_ble_eq_true rfl) dL_acts_405 (fun z133 => ?_)
                                                  refine x_iload C dL_acts_408 1 rfl ?_
                                                  obtain ⟨u134, hu134, hf⟩ := x_b hf
                                                  refine x_xpI (z := z133) (n := u132.1) (k := u132.2.1) (f := u132.2.2) (x1 := u2) (wr := [sbO g q92 z97 u96.2.1, baW g z97 u96.1 u96.2.2, ccO g a b y z, stO g a 10 v, cdW g a 10 c, evW g a 10 e, stO g a 20 v2, cdW g a 20 c2, evW g a 20 e2, hiO g a h, hrW g a t, stF g a vs, cdF g a cs, evF g a es, prO g b q, caW g b t2, cmF g b ws]) (rest := [.ref q92, .ref (a 0)]) C hu134 wd_390 wd_1116 wd_35 wd_388 wd_389 ⟨Nat.le_of_ble_eq_true rfl, Nat.le_of_ble_eq_true rfl⟩ (by show _ ≤ 82; omega) (by show _ ≤ 3628; omega) (x_pickD [0, 1, 2, 3, 4, 5, 6, 7, 8, 9, 10, 11, 12, 13, 14, 15, 16, 17, 18] 19 rfl rfl rfl) (Nat.le_of_ble_eq_true rfl) dL_acts_410 (fun z135 => ?_)
                                                  obtain ⟨u136, hu136, hf⟩ := x_b hf
                                                  refine x_callV (n := 0) (As := []) (rest := [.ref q92, .ref (a 0)]) C (c_J4_toString g l q126 z135 u134.1 u134.2.1 u134.2.2 hu136) ⟨⟨wd_415, wd_1119, wd_35⟩, ⟨by decide, by decide, by decide⟩, rfl, rfl, Nat.le_of_ble_eq_true rfl, Nat.le_of_ble_eq_true rfl⟩ wd_413 wd_414 ⟨0, 1, _, _, rfl, rfl, rfl⟩ [sbO g q92 z97 u96.2.1, baW g z97 u96.1 u96.2.2, ccO g a b y z, stO g a 10 v, cdW g a 10 c, evW g a 10 e, stO g a 20 v2, cdW g a 20 c2, evW g a 20 e2, hiO g a h, hrW g a t, stF g a vs, cdF g a cs, evF g a es, prO g b q, caW g b t2, cmF g b ws] (x_pickD [0, 1, 2, 3, 4, 5, 6, 7, 8, 9, 10, 11, 12, 13, 14, 15, 16, 17, 18] 19 rfl rfl rfl) rfl rfl (Nat.le_of_ble_eq_true rfl) ⟨by show _ ≤ 82; omega, by show _ ≤ 3628; omega⟩ dL_acts_413 (fun v9 w9 hQ9 => ?_)
                                                  obtain ⟨n137, n138, rfl, rfl⟩ := hQ9
                                                  refine x_goW (wss2 := [stgO g n137 n138 (), sbO g q126 z135 u134.2.1, baW g z135 u134.1 u134.2.2, baW g n138 u136.1 u136.2, sbO g q92 z97 u96.2.1, baW g z97 u96.1 u96.2.2, ccO g a b y z, stO g a 10 v, cdW g a 10 c, evW g a 10 e, stO g a 20 v2, cdW g a 20 c2, evW g a 20 e2, hiO g a h, hrW g a t, stF g a vs, cdF g a cs, evF g a es, prO g b q, caW g b t2, cmF g b ws]) (stk2 := [.ref n137, .ref q92, .ref (a 0)]) rfl rfl rfl ?_
                                                  refine x_goto (tgt := 460) C dL_acts_416 (by decide) ?_
                                                  obtain ⟨u139, hu139, hf⟩ := x_b hf
                                                  refine x_xpT (z := z97) (n := u96.1) (k := u96.2.1) (f := u96.2.2) (x := n137) (w := n138) (m := u136.1) (h := u136.2) (wr := [sbO g q126 z135 u134.2.1, baW g z135 u134.1 u134.2.2, ccO g a b y z, stO g a 10 v, cdW g a 10 c, evW g a 10 e, stO g a 20 v2, cdW g a 20 c2, evW g a 20 e2, hiO g a h, hrW g a t, stF g a vs, cdF g a cs, evF g a es, prO g b q, caW g b t2, cmF g b ws]) (rest := [.ref (a 0)]) C hu139 wd_272 wd_1115 wd_35 wd_270 wd_271 ⟨Nat.le_of_ble_eq_true rfl, Nat.le_of_ble_eq_true rfl⟩ (by show _ ≤ 82; omega) (by show _ ≤ 3628; omega) (x_pickD [4, 5, 0, 3, 1, 2, 6, 7, 8, 9, 10, 11, 12, 13, 14, 15, 16, 17, 18, 19, 20] 21 rfl rfl rfl) (Nat.le_of_ble_eq_true rfl) dL_acts_460 (fun z140 => ?_)
                                                  obtain ⟨u141, hu141, hf⟩ := x_b hf
                                                  refine x_callV (n := 0) (As := []) (rest := [.ref (a 0)]) C (c_J4_toString g l q92 z140 u139.1 u139.2.1 u139.2.2 hu141) ⟨⟨wd_415, wd_1119, wd_35⟩, ⟨by decide, by decide, by decide⟩, rfl, rfl, Nat.le_of_ble_eq_true rfl, Nat.le_of_ble_eq_true rfl⟩ wd_413 wd_414 ⟨0, 1, _, _, rfl, rfl, rfl⟩ [stgO g n137 n138 (), baW g n138 u136.1 u136.2, sbO g q126 z135 u134.2.1, baW g z135 u134.1 u134.2.2, ccO g a b y z, stO g a 10 v, cdW g a 10 c, evW g a 10 e, stO g a 20 v2, cdW g a 20 c2, evW g a 20 e2, hiO g a h, hrW g a t, stF g a vs, cdF g a cs, evF g a es, prO g b q, caW g b t2, cmF g b ws] (x_pickD [0, 1, 2, 3, 4, 5, 6, 7, 8, 9, 10, 11, 12, 13, 14, 15, 16, 17, 18, 19, 20] 21 rfl rfl rfl) rfl rfl (Nat.le_of_ble_eq_true rfl) ⟨by show _ ≤ 82; omega, by show _ ≤ 3628; omega⟩ dL_acts_463 (fun v9 w9 hQ9 => ?_)
                                                  obtain ⟨n142, n143, rfl, rfl⟩ := hQ9
                                                  refine x_goW (wss2 := [stgO g n142 n143 (), sbO g q92 z140 u139.2.1, baW g z140 u139.1 u139.2.2, baW g n143 u141.1 u141.2, stgO g n137 n138 (), baW g n138 u136.1 u136.2, sbO g q126 z135 u134.2.1, baW g z135 u134.1 u134.2.2, ccO g a b y z, stO g a 10 v, cdW g a 10 c, evW g a 10 e, stO g a 20 v2, cdW g a 20 c2, evW g a 20 e2, hiO g a h, hrW g a t, stF g a vs, cdF g a cs, evF g a es, prO g b q, caW g b t2, cmF g b ws]) (stk2 := [.ref n142, .ref (a 0)]) rfl rfl rfl ?_
                                                  obtain ⟨u144, hu144, hf⟩ := x_b hf
                                                  refine x_callS (n := 2) (As := [.ref (a 0), .ref n142]) (rest := []) C (c_Q_does g l hl a b y n142 n143 u141.1 z v c e v2 c2 e2 h t vs cs es q t2 ws () u141.2 hu144) ⟨⟨wd_1129, wd_1127, wd_24⟩, ⟨by decide, by decide, by decide⟩, rfl, rfl, Nat.le_of_ble_eq_true rfl, Nat.le_of_ble_eq_true rfl⟩ wd_1128 [sbO g q92 z140 u139.2.1, baW g z140 u139.1 u139.2.2, stgO g n137 n138 (), baW g n138 u136.1 u136.2, sbO g q126 z135 u134.2.1, baW g z135 u134.1 u134.2.2] (x_pickD [8, 9, 10, 11, 12, 13, 14, 15, 16, 17, 18, 19, 20, 21, 22, 0, 3, 1, 2, 4, 5, 6, 7] 23 rfl rfl rfl) rfl rfl (Nat.le_of_ble_eq_true rfl) ⟨by show _ ≤ 82; omega, by show _ ≤ 3628; omega⟩ dL_acts_466 (x_goD (wss2 := [ccO g a b y u144.2.1, stO g a 10 u144.2.2.1, cdW g a 10 u144.2.2.2.1, evW g a 10 u144.2.2.2.2.1, stO g a 20 u144.2.2.2.2.2.1, cdW g a 20 u144.2.2.2.2.2.2.1, evW g a 20 u144.2.2.2.2.2.2.2.1, hiO g a u144.2.2.2.2.2.2.2.2.1, hrW g a t, stF g a u144.2.2.2.2.2.2.2.2.2.1, cdF g a u144.2.2.2.2.2.2.2.2.2.2.1, evF g a u144.2.2.2.2.2.2.2.2.2.2.2.1, prO g b u144.2.2.2.2.2.2.2.2.2.2.2.2.1, caW g b t2, cmF g b u144.2.2.2.2.2.2.2.2.2.2.2.2.2, stgO g n142 n143 (), baW g n143 u141.1 u141.2, sbO g q92 z140 u139.2.1, baW g z140 u139.1 u139.2.2, stgO g n137 n138 (), baW g n138 u136.1 u136.2, sbO g q126 z135 u134.2.1, baW g z135 u134.1 u134.2.2]) (stk2 := [.int u144.1]) rfl rfl ?_)
                                                  refine x_dropE (wss' := [ccO g a b y u144.2.1, stO g a 10 u144.2.2.1, cdW g a 10 u144.2.2.2.1, evW g a 10 u144.2.2.2.2.1, stO g a 20 u144.2.2.2.2.2.1, cdW g a 20 u144.2.2.2.2.2.2.1, evW g a 20 u144.2.2.2.2.2.2.2.1, hiO g a u144.2.2.2.2.2.2.2.2.1, hrW g a t, stF g a u144.2.2.2.2.2.2.2.2.2.1, cdF g a u144.2.2.2.2.2.2.2.2.2.2.1, evF g a u144.2.2.2.2.2.2.2.2.2.2.2.1, prO g b u144.2.2.2.2.2.2.2.2.2.2.2.2.1, caW g b t2, cmF g b u144.2.2.2.2.2.2.2.2.2.2.2.2.2]) [stgO g n142 n143 (), baW g n143 u141.1 u141.2, sbO g q92 z140 u139.2.1, baW g z140 u139.1 u139.2.2, stgO g n137 n138 (), baW g n138 u136.1 u136.2, sbO g q126 z135 u134.2.1, baW g z135 u134.1 u134.2.2] (x_pickD [0, 1, 2, 3, 4, 5, 6, 7, 8, 9, 10, 11, 12, 13, 14, 15, 16, 17, 18, 19, 20, 21, 22] 23 rfl rfl rfl) ?_
                                                  refine x_widen (k := 82) (n := 3628) (by omega) (by omega) ?_
                                                  obtain rfl := Option.some.inj hf
                                                  exact x_iret C hr ⟨rfl, rfl⟩ dL_acts_469
                                              · have hf := x_t h101 hf
                                                refine x_new (ci := 1) (fs := [.null, .int 0, .int 0, .int 0]) C ixJ4 tyJ4 tyJ4_ok rfl wd_1112 wd_238 wd_35 dfJ4 (by show _ ≤ 82; omega) (by show _ ≤ 3628; omega) dL_acts_328 (fun q145 => ?_)
                                                refine x_same (wss' := [sbO g q92 z97 u96.2.1, baW g z97 u96.1 u96.2.2, ccO g a b y z, stO g a 10 v, cdW g a 10 c, evW g a 10 e, stO g a 20 v2, cdW g a 20 c2, evW g a 20 e2, hiO g a h, hrW g a t, stF g a vs, cdF g a cs, evF g a es, prO g b q, caW g b t2, cmF g b ws, [(q145, .inr (1, [.null, .int 0, .int 0, .int 0]))]]) rfl ?_
                                                refine x_dup C dL_acts_331 rfl ?_
                                                refine x_callI (n := 0) (As := []) (rest := [.ref q145, .ref q92, .ref (a 0)]) C (c_J4_init_da8c8 g l q145) ⟨⟨wd_241, wd_1113, wd_35⟩, ⟨by decide, by decide, by decide⟩, rfl, rfl, Nat.le_of_ble_eq_true rfl, Nat.le_of_ble_eq_true rfl⟩ wd_240 rfl [sbO g q92 z97 u96.2.1, baW g z97 u96.1 u96.2.2, ccO g a b y z, stO g a 10 v, cdW g a 10 c, evW g a 10 e, stO g a 20 v2, cdW g a 20 c2, evW g a 20 e2, hiO g a h, hrW g a t, stF g a vs, cdF g a cs, evF g a es, prO g b q, caW g b t2, cmF g b ws] (x_pickD [17, 0, 1, 2, 3, 4, 5, 6, 7, 8, 9, 10, 11, 12, 13, 14, 15, 16] 18 rfl rfl rfl) rfl rfl (Nat.le_of_ble_eq_true rfl) ⟨by show _ ≤ 82; omega, by show _ ≤ 3628; omega⟩ dL_acts_332 (fun v9 w9 hQ9 => ?_)
                                                obtain ⟨rfl, z146, rfl⟩ := hQ9
                                                refine x_goW (wss2 := [sbO g q145 z146 (0, 0), baW g z146 16 (fun _ => 0), sbO g q92 z97 u96.2.1, baW g z97 u96.1 u96.2.2, ccO g a b y z, stO g a 10 v, cdW g a 10 c, evW g a 10 e, stO g a 20 v2, cdW g a 20 c2, evW g a 20 e2, hiO g a h, hrW g a t, stF g a vs, cdF g a cs, evF g a es, prO g b q, caW g b t2, cmF g b ws]) (stk2 := [.ref q145, .ref q92, .ref (a 0)]) rfl rfl rfl ?_
                                                refine x_ldcS (tx := ";draught ") C (CX_str C ("CandleConcertLaw", 154, ";draught ", 32) (by decide)) dL_acts_335 ?_
                                                obtain ⟨u147, hu147, hf⟩ := x_b hf
                                                refine x_xpS (z := z146) (n := 16) (k := (0, 0)) (f := (fun _ => 0)) (x1 := 32) (wr := [sbO g q92 z97 u96.2.1, baW g z97 u96.1 u96.2.2, ccO g a b y z, stO g a 10 v, cdW g a 10 c, evW g a 10 e, stO g a 20 v2, cdW g a 20 c2, evW g a 20 e2, hiO g a h, hrW g a t, stF g a vs, cdF g a cs, evF g a es, prO g b q, caW g b t2, cmF g b ws]) (rest := [.ref q92, .ref (a 0)]) C hu147 wd_272 wd_1115 wd_35 wd_270 wd_271 ⟨Nat.le_of_ble_eq_true rfl, Nat.le_of_ble_eq_true rfl⟩ (by show _ ≤ 82; omega) (by show _ ≤ 3628; omega) (x_pickD [0, 1, 2, 3, 4, 5, 6, 7, 8, 9, 10, 11, 12, 13, 14, 15, 16, 17, 18] 19 rfl rfl rfl) (Nat.le_of_ble_eq_true rfl) dL_acts_337 (fun z148 => ?_)
                                                refine x_iload C dL_acts_340 1 rfl ?_
                                                refine x_iconst (v := 5) C dL_acts_342 (by decide) ?_
                                                obtain ⟨h149, hf⟩ := x_n hf
                                                refine x_irem C dL_acts_343 h149 ?_
                                                obtain ⟨u150, hu150, hf⟩ := x_b hf
                                                refine x_xpI (z := z148) (n := u147.1) (k := u147.2.1) (f := u147.2.2) (x1 := u2 - u2 / (5 : Int32) * (5 : Int32)) (wr := [sbO g q92 z97 u96.2.1, baW g z97 u96.1 u96.2.2, ccO g a b y z, stO g a 10 v, cdW g a 10 c, evW g a 10 e, stO g a 20 v2, cdW g a 20 c2, evW g a 20 e2, hiO g a h, hrW g a t, stF g a vs, cdF g a cs, evF g a es, prO g b q, caW g b t2, cmF g b ws]) (rest := [.ref q92, .ref (a 0)]) C hu150 wd_390 wd_1116 wd_35 wd_388 wd_389 ⟨Nat.le_of_ble_eq_true rfl, Nat.le_of_ble_eq_true rfl⟩ (by show _ ≤ 82; omega) (by show _ ≤ 3628; omega) (x_pickD [0, 1, 2, 3, 4, 5, 6, 7, 8, 9, 10, 11, 12, 13, 14, 15, 16, 17, 18] 19 rfl rfl rfl) (Nat.le_of_ble_eq_true rfl) dL_acts_344 (fun z151 => ?_)
                                                refine x_ldcS (tx := ";plan ") C (CX_str C ("CandleConcertLaw", 156, ";plan ", 33) (by decide)) dL_acts_347 ?_
                                                obtain ⟨u152, hu152, hf⟩ := x_b hf
                                                refine x_xpS (z := z151) (n := u150.1) (k := u150.2.1) (f := u150.2.2) (x1 := 33) (wr := [sbO g q92 z97 u96.2.1, baW g z97 u96.1 u96.2.2, ccO g a b y z, stO g a 10 v, cdW g a 10 c, evW g a 10 e, stO g a 20 v2, cdW g a 20 c2, evW g a 20 e2, hiO g a h, hrW g a t, stF g a vs, cdF g a cs, evF g a es, prO g b q, caW g b t2, cmF g b ws]) (rest := [.ref q92, .ref (a 0)]) C hu152 wd_272 wd_1115 wd_35 wd_270 wd_271 ⟨Nat.le_of_ble_eq_true rfl, Nat.le_of_ble_eq_true rfl⟩ (by show _ ≤ 82; omega) (by show _ ≤ 3628; omega) (x_pickD [0, 1, 2, 3, 4, 5, 6, 7, 8, 9, 10, 11, 12, 13, 14, 15, 16, 17, 18] 19 rfl rfl rfl) (Nat.le_of_ble_eq_true rfl) dL_acts_349 (fun z153 => ?_)
                                                refine x_aload_n C dL_acts_352 rfl 3 rfl ?_
                                                obtain ⟨u154, hu154, hf⟩ := x_b hf
                                                refine x_callV (n := 0) (As := []) (rest := [.ref q145, .ref q92, .ref (a 0)]) C (c_X9_time g l a b y z v hu154) ⟨⟨wd_156, wd_153, wd_25⟩, ⟨by decide, by decide, by decide⟩, rfl, rfl, Nat.le_of_ble_eq_true rfl, Nat.le_of_ble_eq_true rfl⟩ wd_154 wd_155 ⟨0, 10, _, _, rfl, rfl, rfl⟩ [sbO g q145 z153 u152.2.1, baW g z153 u152.1 u152.2.2, sbO g q92 z97 u96.2.1, baW g z97 u96.1 u96.2.2, cdW g a 10 c, evW g a 10 e, stO g a 20 v2, cdW g a 20 c2, evW g a 20 e2, hiO g a h, hrW g a t, stF g a vs, cdF g a cs, evF g a es, prO g b q, caW g b t2, cmF g b ws] (x_pickD [4, 5, 0, 1, 2, 3, 6, 7, 8, 9, 10, 11, 12, 13, 14, 15, 16, 17, 18] 19 rfl rfl rfl) rfl rfl (Nat.le_of_ble_eq_true rfl) ⟨by show _ ≤ 82; omega, by show _ ≤ 3628; omega⟩ dL_acts_353 (x_goD (wss2 := [ccO g a b y z, stO g a 10 v, sbO g q145 z153 u152.2.1, baW g z153 u152.1 u152.2.2, sbO g q92 z97 u96.2.1, baW g z97 u96.1 u96.2.2, cdW g a 10 c, evW g a 10 e, stO g a 20 v2, cdW g a 20 c2, evW g a 20 e2, hiO g a h, hrW g a t, stF g a vs, cdF g a cs, evF g a es, prO g b q, caW g b t2, cmF g b ws]) (stk2 := [.int u154, .ref q145, .ref q92, .ref (a 0)]) rfl rfl ?_)
                                                refine x_iload C dL_acts_356 0 rfl ?_
                                                refine x_iadd C dL_acts_358 ?_
                                                refine x_iconst (v := 5) C dL_acts_359 (by decide) ?_
                                                refine x_iadd C dL_acts_360 ?_
                                                obtain ⟨u155, hu155, hf⟩ := x_b hf
                                                refine x_xpI (z := z153) (n := u152.1) (k := u152.2.1) (f := u152.2.2) (x1 := (u154 + u3) + (5 : Int32)) (wr := [ccO g a b y z, stO g a 10 v, sbO g q92 z97 u96.2.1, baW g z97 u96.1 u96.2.2, cdW g a 10 c, evW g a 10 e, stO g a 20 v2, cdW g a 20 c2, evW g a 20 e2, hiO g a h, hrW g a t, stF g a vs, cdF g a cs, evF g a es, prO g b q, caW g b t2, cmF g b ws]) (rest := [.ref q92, .ref (a 0)]) C hu155 wd_390 wd_1116 wd_35 wd_388 wd_389 ⟨Nat.le_of_ble_eq_true rfl, Nat.le_of_ble_eq_true rfl⟩ (by show _ ≤ 82; omega) (by show _ ≤ 3628; omega) (x_pickD [2, 3, 0, 1, 4, 5, 6, 7, 8, 9, 10, 11, 12, 13, 14, 15, 16, 17, 18] 19 rfl rfl rfl) (Nat.le_of_ble_eq_true rfl) dL_acts_361 (fun z156 => ?_)
                                                refine x_ldcS (tx := " l") C (CX_str C ("CandleConcertLaw", 158, " l", 34) (by decide)) dL_acts_364 ?_
                                                obtain ⟨u157, hu157, hf⟩ := x_b hf
                                                refine x_xpS (z := z156) (n := u155.1) (k := u155.2.1) (f := u155.2.2) (x1 := 34) (wr := [ccO g a b y z, stO g a 10 v, sbO g q92 z97 u96.2.1, baW g z97 u96.1 u96.2.2, cdW g a 10 c, evW g a 10 e, stO g a 20 v2, cdW g a 20 c2, evW g a 20 e2, hiO g a h, hrW g a t, stF g a vs, cdF g a cs, evF g a es, prO g b q, caW g b t2, cmF g b ws]) (rest := [.ref q92, .ref (a 0)]) C hu157 wd_272 wd_1115 wd_35 wd_270 wd_271 ⟨Nat.le_of_ble_eq_true rfl, Nat.le_of_ble_eq_true rfl⟩ (by show _ ≤ 82; omega) (by show _ ≤ 3628; omega) (x_pickD [0, 1, 2, 3, 4, 5, 6, 7, 8, 9, 10, 11, 12, 13, 14, 15, 16, 17, 18] 19 rfl rfl rfl) (Nat.le_of_ble_eq_true rfl) dL_acts_366 (fun z158 => ?_)
                                                refine x_iload_n C dL_acts_369 rfl 2 rfl ?_
                                                obtain ⟨u159, hu159, hf⟩ := x_b hf
                                                refine x_xpI (z := z158) (n := u157.1) (k := u157.2.1) (f := u157.2.2) (x1 := u1) (wr := [ccO g a b y z, stO g a 10 v, sbO g q92 z97 u96.2.1, baW g z97 u96.1 u96.2.2, cdW g a 10 c, evW g a 10 e, stO g a 20 v2, cdW g a 20 c2, evW g a 20 e2, hiO g a h, hrW g a t, stF g a vs, cdF g a cs, evF g a es, prO g b q, caW g b t2, cmF g b ws]) (rest := [.ref q92, .ref (a 0)]) C hu159 wd_390 wd_1116 wd_35 wd_388 wd_389 ⟨Nat.le_of_ble_eq_true rfl, Nat.le_of_ble_eq_true rfl⟩ (by show _ ≤ 82; omega) (by show _ ≤ 3628; omega) (x_pickD [0, 1, 2, 3, 4, 5, 6, 7, 8, 9, 10, 11, 12, 13, 14, 15, 16, 17, 18] 19 rfl rfl rfl) (Nat.le_of_ble_eq_true rfl) dL_acts_370 (fun z160 => ?_)
                                                obtain ⟨u161, hu161, hf⟩ := x_b hf
                                                refine x_callV (n := 0) (As := []) (rest := [.ref q92, .ref (a 0)]) C (c_J4_toString g l q145 z160 u159.1 u159.2.1 u159.2.2 hu161) ⟨⟨wd_415, wd_1119, wd_35⟩, ⟨by decide, by decide, by decide⟩, rfl, rfl, Nat.le_of_ble_eq_true rfl, Nat.le_of_ble_eq_true rfl⟩ wd_413 wd_414 ⟨0, 1, _, _, rfl, rfl, rfl⟩ [ccO g a b y z, stO g a 10 v, sbO g q92 z97 u96.2.1, baW g z97 u96.1 u96.2.2, cdW g a 10 c, evW g a 10 e, stO g a 20 v2, cdW g a 20 c2, evW g a 20 e2, hiO g a h, hrW g a t, stF g a vs, cdF g a cs, evF g a es, prO g b q, caW g b t2, cmF g b ws] (x_pickD [0, 1, 2, 3, 4, 5, 6, 7, 8, 9, 10, 11, 12, 13, 14, 15, 16, 17, 18] 19 rfl rfl rfl) rfl rfl (Nat.le_of_ble_eq_true rfl) ⟨by show _ ≤ 82; omega, by show _ ≤ 3628; omega⟩ dL_acts_373 (fun v9 w9 hQ9 => ?_)
                                                obtain ⟨n162, n163, rfl, rfl⟩ := hQ9
                                                refine x_goW (wss2 := [stgO g n162 n163 (), sbO g q145 z160 u159.2.1, baW g z160 u159.1 u159.2.2, baW g n163 u161.1 u161.2, ccO g a b y z, stO g a 10 v, sbO g q92 z97 u96.2.1, baW g z97 u96.1 u96.2.2, cdW g a 10 c, evW g a 10 e, stO g a 20 v2, cdW g a 20 c2, evW g a 20 e2, hiO g a h, hrW g a t, stF g a vs, cdF g a cs, evF g a es, prO g b q, caW g b t2, cmF g b ws]) (stk2 := [.ref n162, .ref q92, .ref (a 0)]) rfl rfl rfl ?_
                                                refine x_goto (tgt := 460) C dL_acts_376 (by decide) ?_
                                                obtain ⟨u164, hu164, hf⟩ := x_b hf
                                                refine x_xpT (z := z97) (n := u96.1) (k := u96.2.1) (f := u96.2.2) (x := n162) (w := n163) (m := u161.1) (h := u161.2) (wr := [sbO g q145 z160 u159.2.1, baW g z160 u159.1 u159.2.2, ccO g a b y z, stO g a 10 v, cdW g a 10 c, evW g a 10 e, stO g a 20 v2, cdW g a 20 c2, evW g a 20 e2, hiO g a h, hrW g a t, stF g a vs, cdF g a cs, evF g a es, prO g b q, caW g b t2, cmF g b ws]) (rest := [.ref (a 0)]) C hu164 wd_272 wd_1115 wd_35 wd_270 wd_271 ⟨Nat.le_of_ble_eq_true rfl, Nat.le_of_ble_eq_true rfl⟩ (by show _ ≤ 82; omega) (by show _ ≤ 3628; omega) (x_pickD [6, 7, 0, 3, 1, 2, 4, 5, 8, 9, 10, 11, 12, 13, 14, 15, 16, 17, 18, 19, 20] 21 rfl rfl rfl) (Nat.le_of_ble_eq_true rfl) dL_acts_460 (fun z165 => ?_)
                                                obtain ⟨u166, hu166, hf⟩ := x_b hf
                                                refine x_callV (n := 0) (As := []) (rest := [.ref (a 0)]) C (c_J4_toString g l q92 z165 u164.1 u164.2.1 u164.2.2 hu166) ⟨⟨wd_415, wd_1119, wd_35⟩, ⟨by decide, by decide, by decide⟩, rfl, rfl, Nat.le_of_ble_eq_true rfl, Nat.le_of_ble_eq_true rfl⟩ wd_413 wd_414 ⟨0, 1, _, _, rfl, rfl, rfl⟩ [stgO g n162 n163 (), baW g n163 u161.1 u161.2, sbO g q145 z160 u159.2.1, baW g z160 u159.1 u159.2.2, ccO g a b y z, stO g a 10 v, cdW g a 10 c, evW g a 10 e, stO g a 20 v2, cdW g a 20 c2, evW g a 20 e2, hiO g a h, hrW g a t, stF g a vs, cdF g a cs, evF g a es, prO g b q, caW g b t2, cmF g b ws] (x_pickD [0, 1, 2, 3, 4, 5, 6, 7, 8, 9, 10, 11, 12, 13, 14, 15, 16, 17, 18, 19, 20] 21 rfl rfl rfl) rfl rfl (Nat.le_of_ble_eq_true rfl) ⟨by show _ ≤ 82; omega, by show _ ≤ 3628; omega⟩ dL_acts_463 (fun v9 w9 hQ9 => ?_)
                                                obtain ⟨n167, n168, rfl, rfl⟩ := hQ9
                                                refine x_goW (wss2 := [stgO g n167 n168 (), sbO g q92 z165 u164.2.1, baW g z165 u164.1 u164.2.2, baW g n168 u166.1 u166.2, stgO g n162 n163 (), baW g n163 u161.1 u161.2, sbO g q145 z160 u159.2.1, baW g z160 u159.1 u159.2.2, ccO g a b y z, stO g a 10 v, cdW g a 10 c, evW g a 10 e, stO g a 20 v2, cdW g a 20 c2, evW g a 20 e2, hiO g a h, hrW g a t, stF g a vs, cdF g a cs, evF g a es, prO g b q, caW g b t2, cmF g b ws]) (stk2 := [.ref n167, .ref (a 0)]) rfl rfl rfl ?_
                                                obtain ⟨u169, hu169, hf⟩ := x_b hf
                                                refine x_callS (n := 2) (As := [.ref (a 0), .ref n167]) (rest := []) C (c_Q_does g l hl a b y n167 n168 u166.1 z v c e v2 c2 e2 h t vs cs es q t2 ws () u166.2 hu169) ⟨⟨wd_1129, wd_1127, wd_24⟩, ⟨by decide, by decide, by decide⟩, rfl, rfl, Nat.le_of_ble_eq_true rfl, Nat.le_of_ble_eq_true rfl⟩ wd_1128 [sbO g q92 z165 u164.2.1, baW g z165 u164.1 u164.2.2, stgO g n162 n163 (), baW g n163 u161.1 u161.2, sbO g q145 z160 u159.2.1, baW g z160 u159.1 u159.2.2] (x_pickD [8, 9, 10, 11, 12, 13, 14, 15, 16, 17, 18, 19, 20, 21, 22, 0, 3, 1, 2, 4, 5, 6, 7] 23 rfl rfl rfl) rfl rfl (Nat.le_of_ble_eq_true rfl) ⟨by show _ ≤ 82; omega, by show _ ≤ 3628; omega⟩ dL_acts_466 (x_goD (wss2 := [ccO g a b y u169.2.1, stO g a 10 u169.2.2.1, cdW g a 10 u169.2.2.2.1, evW g a 10 u169.2.2.2.2.1, stO g a 20 u169.2.2.2.2.2.1, cdW g a 20 u169.2.2.2.2.2.2.1, evW g a 20 u169.2.2.2.2.2.2.2.1, hiO g a u169.2.2.2.2.2.2.2.2.1, hrW g a t, stF g a u169.2.2.2.2.2.2.2.2.2.1, cdF g a u169.2.2.2.2.2.2.2.2.2.2.1, evF g a u169.2.2.2.2.2.2.2.2.2.2.2.1, prO g b u169.2.2.2.2.2.2.2.2.2.2.2.2.1, caW g b t2, cmF g b u169.2.2.2.2.2.2.2.2.2.2.2.2.2, stgO g n167 n168 (), baW g n168 u166.1 u166.2, sbO g q92 z165 u164.2.1, baW g z165 u164.1 u164.2.2, stgO g n162 n163 (), baW g n163 u161.1 u161.2, sbO g q145 z160 u159.2.1, baW g z160 u159.1 u159.2.2]) (stk2 := [.int u169.1]) rfl rfl ?_)
                                                refine x_dropE (wss' := [ccO g a b y u169.2.1, stO g a 10 u169.2.2.1, cdW g a 10 u169.2.2.2.1, evW g a 10 u169.2.2.2.2.1, stO g a 20 u169.2.2.2.2.2.1, cdW g a 20 u169.2.2.2.2.2.2.1, evW g a 20 u169.2.2.2.2.2.2.2.1, hiO g a u169.2.2.2.2.2.2.2.2.1, hrW g a t, stF g a u169.2.2.2.2.2.2.2.2.2.1, cdF g a u169.2.2.2.2.2.2.2.2.2.2.1, evF g a u169.2.2.2.2.2.2.2.2.2.2.2.1, prO g b u169.2.2.2.2.2.2.2.2.2.2.2.2.1, caW g b t2, cmF g b u169.2.2.2.2.2.2.2.2.2.2.2.2.2]) [stgO g n167 n168 (), baW g n168 u166.1 u166.2, sbO g q92 z165 u164.2.1, baW g z165 u164.1 u164.2.2, stgO g n162 n163 (), baW g n163 u161.1 u161.2, sbO g q145 z160 u159.2.1, baW g z160 u159.1 u159.2.2] (x_pickD [0, 1, 2, 3, 4, 5, 6, 7, 8, 9, 10, 11, 12, 13, 14, 15, 16, 17, 18, 19, 20, 21, 22] 23 rfl rfl rfl) ?_
                                                refine x_widen (k := 82) (n := 3628) (by omega) (by omega) ?_
                                                obtain rfl := Option.some.inj hf
                                                exact x_iret C hr ⟨rfl, rfl⟩ dL_acts_469
                                            · have hf := x_t h99 hf
                                              refine x_new (ci := 1) (fs := [.null, .int 0, .int 0, .int 0]) C ixJ4 tyJ4 tyJ4_ok rfl wd_1112 wd_238 wd_35 dfJ4 (by show _ ≤ 82; omega) (by show _ ≤ 3628; omega) dL_acts_289 (fun q170 => ?_)
                                              refine x_same (wss' := [sbO g q92 z97 u96.2.1, baW g z97 u96.1 u96.2.2, ccO g a b y z, stO g a 10 v, cdW g a 10 c, evW g a 10 e, stO g a 20 v2, cdW g a 20 c2, evW g a 20 e2, hiO g a h, hrW g a t, stF g a vs, cdF g a cs, evF g a es, prO g b q, caW g b t2, cmF g b ws, [(q170, .inr (1, [.null, .int 0, .int 0, .int 0]))]]) rfl ?_
                                              refine x_dup C dL_acts_292 rfl ?_
                                              refine x_callI (n := 0) (As := []) (rest := [.ref q170, .ref q92, .ref (a 0)]) C (c_J4_init_da8c8 g l q170) ⟨⟨wd_241, wd_1113, wd_35⟩, ⟨by decide, by decide, by decide⟩, rfl, rfl, Nat.le_of_ble_eq_true rfl, Nat.le_of_ble_eq_true rfl⟩ wd_240 rfl [sbO g q92 z97 u96.2.1, baW g z97 u96.1 u96.2.2, ccO g a b y z, stO g a 10 v, cdW g a 10 c, evW g a 10 e, stO g a 20 v2, cdW g a 20 c2, evW g a 20 e2, hiO g a h, hrW g a t, stF g a vs, cdF g a cs, evF g a es, prO g b q, caW g b t2, cmF g b ws] (x_pickD [17, 0, 1, 2, 3, 4, 5, 6, 7, 8, 9, 10, 11, 12, 13, 14, 15, 16] 18 rfl rfl rfl) rfl rfl (Nat.le_of_ble_eq_true rfl) ⟨by show _ ≤ 82; omega, by show _ ≤ 3628; omega⟩ dL_acts_293 (fun v9 w9 hQ9 => ?_)
                                              obtain ⟨rfl, z171, rfl⟩ := hQ9
                                              refine x_goW (wss2 := [sbO g q170 z171 (0, 0), baW g z171 16 (fun _ => 0), sbO g q92 z97 u96.2.1, baW g z97 u96.1 u96.2.2, ccO g a b y z, stO g a 10 v, cdW g a 10 c, evW g a 10 e, stO g a 20 v2, cdW g a 20 c2, evW g a 20 e2, hiO g a h, hrW g a t, stF g a vs, cdF g a cs, evF g a es, prO g b q, caW g b t2, cmF g b ws]) (stk2 := [.ref q170, .ref q92, .ref (a 0)]) rfl rfl rfl ?_
                                              refine x_ldcS (tx := ";light ") C (CX_str C ("CandleConcertLaw", 146, ";light ", 28) (by decide)) dL_acts_296 ?_
                                              obtain ⟨u172, hu172, hf⟩ := x_b hf
                                              refine x_xpS (z := z171) (n := 16) (k := (0, 0)) (f := (fun _ => 0)) (x1 := 28) (wr := [sbO g q92 z97 u96.2.1, baW g z97 u96.1 u96.2.2, ccO g a b y z, stO g a 10 v, cdW g a 10 c, evW g a 10 e, stO g a 20 v2, cdW g a 20 c2, evW g a 20 e2, hiO g a h, hrW g a t, stF g a vs, cdF g a cs, evF g a es, prO g b q, caW g b t2, cmF g b ws]) (rest := [.ref q92, .ref (a 0)]) C hu172 wd_272 wd_1115 wd_35 wd_270 wd_271 ⟨Nat.le_of_ble_eq_true rfl, Nat.le_of_ble_eq_true rfl⟩ (by show _ ≤ 82; omega) (by show _ ≤ 3628; omega) (x_pickD [0, 1, 2, 3, 4, 5, 6, 7, 8, 9, 10, 11, 12, 13, 14, 15, 16, 17, 18] 19 rfl rfl rfl) (Nat.le_of_ble_eq_true rfl) dL_acts_298 (fun z173 => ?_)
                                              refine x_iload_n C dL_acts_301 rfl 2 rfl ?_
                                              obtain ⟨u174, hu174, hf⟩ := x_b hf
                                              refine x_xpI (z := z173) (n := u172.1) (k := u172.2.1) (f := u172.2.2) (x1 := u1) (wr := [sbO g q92 z97 u96.2.1, baW g z97 u96.1 u96.2.2, ccO g a b y z, stO g a 10 v, cdW g a 10 c, evW g a 10 e, stO g a 20 v2, cdW g a 20 c2, evW g a 20 e2, hiO g a h, hrW g a t, stF g a vs, cdF g a cs, evF g a es, prO g b q, caW g b t2, cmF g b ws]) (rest := [.ref q92, .ref (a 0)]) C hu174 wd_390 wd_1116 wd_35 wd_388 wd_389 ⟨Nat.le_of_ble_eq_true rfl, Nat.le_of_ble_eq_true rfl⟩ (by show _ ≤ 82; omega) (by show _ ≤ 3628; omega) (x_pickD [0, 1, 2, 3, 4, 5, 6, 7, 8, 9, 10, 11, 12, 13, 14, 15, 16, 17, 18] 19 rfl rfl rfl) (Nat.le_of_ble_eq_true rfl) dL_acts_302 (fun z175 => ?_)
                                              refine x_ldcS (tx := ";snuff ") C (CX_str C ("CandleConcertLaw", 148, ";snuff ", 29) (by decide)) dL_acts_305 ?_
                                              obtain ⟨u176, hu176, hf⟩ := x_b hf
                                              refine x_xpS (z := z175) (n := u174.1) (k := u174.2.1) (f := u174.2.2) (x1 := 29) (wr := [sbO g q92 z97 u96.2.1, baW g z97 u96.1 u96.2.2, ccO g a b y z, stO g a 10 v, cdW g a 10 c, evW g a 10 e, stO g a 20 v2, cdW g a 20 c2, evW g a 20 e2, hiO g a h, hrW g a t, stF g a vs, cdF g a cs, evF g a es, prO g b q, caW g b t2, cmF g b ws]) (rest := [.ref q92, .ref (a 0)]) C hu176 wd_272 wd_1115 wd_35 wd_270 wd_271 ⟨Nat.le_of_ble_eq_true rfl, Nat.le_of_ble_eq_true rfl⟩ (by show _ ≤ 82; omega) (by show _ ≤ 3628; omega) (x_pickD [0, 1, 2, 3, 4, 5, 6, 7, 8, 9, 10, 11, 12, 13, 14, 15, 16, 17, 18] 19 rfl rfl rfl) (Nat.le_of_ble_eq_true rfl) dL_acts_307 (fun z177 => ?_)
                                              refine x_iload_n C dL_acts_310 rfl 2 rfl ?_
                                              obtain ⟨u178, hu178, hf⟩ := x_b hf
                                              refine x_xpI (z := z177) (n := u176.1) (k := u176.2.1) (f := u176.2.2) (x1 := u1) (wr := [sbO g q92 z97 u96.2.1, baW g z97 u96.1 u96.2.2, ccO g a b y z, stO g a 10 v, cdW g a 10 c, evW g a 10 e, stO g a 20 v2, cdW g a 20 c2, evW g a 20 e2, hiO g a h, hrW g a t, stF g a vs, cdF g a cs, evF g a es, prO g b q, caW g b t2, cmF g b ws]) (rest := [.ref q92, .ref (a 0)]) C hu178 wd_390 wd_1116 wd_35 wd_388 wd_389 ⟨Nat.le_of_ble_eq_true rfl, Nat.le_of_ble_eq_true rfl⟩ (by show _ ≤ 82; omega) (by show _ ≤ 3628; omega) (x_pickD [0, 1, 2, 3, 4, 5, 6, 7, 8, 9, 10, 11, 12, 13, 14, 15, 16, 17, 18] 19 rfl rfl rfl) (Nat.le_of_ble_eq_true rfl) dL_acts_311 (fun z179 => ?_)
                                              obtain ⟨u180, hu180, hf⟩ := x_b hf
                                              refine x_callV (n := 0) (As := []) (rest := [.ref q92, .ref (a 0)]) C (c_J4_toString g l q170 z179 u178.1 u178.2.1 u178.2.2 hu180) ⟨⟨wd_415, wd_1119, wd_35⟩, ⟨by decide, by decide, by decide⟩, rfl, rfl, Nat.le_of_ble_eq_true rfl, Nat.le_of_ble_eq_true rfl⟩ wd_413 wd_414 ⟨0, 1, _, _, rfl, rfl, rfl⟩ [sbO g q92 z97 u96.2.1, baW g z97 u96.1 u96.2.2, ccO g a b y z, stO g a 10 v, cdW g a 10 c, evW g a 10 e, stO g a 20 v2, cdW g a 20 c2, evW g a 20 e2, hiO g a h, hrW g a t, stF g a vs, cdF g a cs, evF g a es, prO g b q, caW g b t2, cmF g b ws] (x_pickD [0, 1, 2, 3, 4, 5, 6, 7, 8, 9, 10, 11, 12, 13, 14, 15, 16, 17, 18] 19 rfl rfl rfl) rfl rfl (Nat.le_of_ble_eq_true rfl) ⟨by show _ ≤ 82; omega, by show _ ≤ 3628; omega⟩ dL_acts_314 (fun v9 w9 hQ9 => ?_)
                                              obtain ⟨n181, n182, rfl, rfl⟩ := hQ9
                                              refine x_goW (wss2 := [stgO g n181 n182 (), sbO g q170 z179 u178.2.1, baW g z179 u178.1 u178.2.2, baW g n182 u180.1 u180.2, sbO g q92 z97 u96.2.1, baW g z97 u96.1 u96.2.2, ccO g a b y z, stO g a 10 v, cdW g a 10 c, evW g a 10 e, stO g a 20 v2, cdW g a 20 c2, evW g a 20 e2, hiO g a h, hrW g a t, stF g a vs, cdF g a cs, evF g a es, prO g b q, caW g b t2, cmF g b ws]) (stk2 := [.ref n181, .ref q92, .ref (a 0)]) rfl rfl rfl ?_
                                              refine x_goto (tgt := 460) C dL_acts_317 (by decide) ?_
                                              obtain ⟨u183, hu183, hf⟩ := x_b hf
                                              refine x_xpT (z := z97) (n := u96.1) (k := u96.2.1) (f := u96.2.2) (x := n181) (w := n182) (m := u180.1) (h := u180.2) (wr := [sbO g q170 z179 u178.2.1, baW g z179 u178.1 u178.2.2, ccO g a b y z, stO g a 10 v, cdW g a 10 c, evW g a 10 e, stO g a 20 v2, cdW g a 20 c2, evW g a 20 e2, hiO g a h, hrW g a t, stF g a vs, cdF g a cs, evF g a es, prO g b q, caW g b t2, cmF g b ws]) (rest := [.ref (a 0)]) C hu183 wd_272 wd_1115 wd_35 wd_270 wd_271 ⟨Nat.le_of_ble_eq_true rfl, Nat.le_of_ble_eq_true rfl⟩ (by show _ ≤ 82; omega) (by show _ ≤ 3628; omega) (x_pickD [4, 5, 0, 3, 1, 2, 6, 7, 8, 9, 10, 11, 12, 13, 14, 15, 16, 17, 18, 19, 20] 21 rfl rfl rfl) (Nat.le_of_ble_eq_true rfl) dL_acts_460 (fun z184 => ?_)
                                              obtain ⟨u185, hu185, hf⟩ := x_b hf
                                              refine x_callV (n := 0) (As := []) (rest := [.ref (a 0)]) C (c_J4_toString g l q92 z184 u183.1 u183.2.1 u183.2.2 hu185) ⟨⟨wd_415, wd_1119, wd_35⟩, ⟨by decide, by decide, by decide⟩, rfl, rfl, Nat.le_of_ble_eq_true rfl, Nat.le_of_ble_eq_true rfl⟩ wd_413 wd_414 ⟨0, 1, _, _, rfl, rfl, rfl⟩ [stgO g n181 n182 (), baW g n182 u180.1 u180.2, sbO g q170 z179 u178.2.1, baW g z179 u178.1 u178.2.2, ccO g a b y z, stO g a 10 v, cdW g a 10 c, evW g a 10 e, stO g a 20 v2, cdW g a 20 c2, evW g a 20 e2, hiO g a h, hrW g a t, stF g a vs, cdF g a cs, evF g a es, prO g b q, caW g b t2, cmF g b ws] (x_pickD [0, 1, 2, 3, 4, 5, 6, 7, 8, 9, 10, 11, 12, 13, 14, 15, 16, 17, 18, 19, 20] 21 rfl rfl rfl) rfl rfl (Nat.le_of_ble_eq_true rfl) ⟨by show _ ≤ 82; omega, by show _ ≤ 3628; omega⟩ dL_acts_463 (fun v9 w9 hQ9 => ?_)
                                              obtain ⟨n186, n187, rfl, rfl⟩ := hQ9
                                              refine x_goW (wss2 := [stgO g n186 n187 (), sbO g q92 z184 u183.2.1, baW g z184 u183.1 u183.2.2, baW g n187 u185.1 u185.2, stgO g n181 n182 (), baW g n182 u180.1 u180.2, sbO g q170 z179 u178.2.1, baW g z179 u178.1 u178.2.2, ccO g a b y z, stO g a 10 v, cdW g a 10 c, evW g a 10 e, stO g a 20 v2, cdW g a 20 c2, evW g a 20 e2, hiO g a h, hrW g a t, stF g a vs, cdF g a cs, evF g a es, prO g b q, caW g b t2, cmF g b ws]) (stk2 := [.ref n186, .ref (a 0)]) rfl rfl rfl ?_
                                              obtain ⟨u188, hu188, hf⟩ := x_b hf
                                              refine x_callS (n := 2) (As := [.ref (a 0), .ref n186]) (rest := []) C (c_Q_does g l hl a b y n186 n187 u185.1 z v c e v2 c2 e2 h t vs cs es q t2 ws () u185.2 hu188) ⟨⟨wd_1129, wd_1127, wd_24⟩, ⟨by decide, by decide, by decide⟩, rfl, rfl, Nat.le_of_ble_eq_true rfl, Nat.le_of_ble_eq_true rfl⟩ wd_1128 [sbO g q92 z184 u183.2.1, baW g z184 u183.1 u183.2.2, stgO g n181 n182 (), baW g n182 u180.1 u180.2, sbO g q170 z179 u178.2.1, baW g z179 u178.1 u178.2.2] (x_pickD [8, 9, 10, 11, 12, 13, 14, 15, 16, 17, 18, 19, 20, 21, 22, 0, 3, 1, 2, 4, 5, 6, 7] 23 rfl rfl rfl) rfl rfl (Nat.le_of_ble_eq_true rfl) ⟨by show _ ≤ 82; omega, by show _ ≤ 3628; omega⟩ dL_acts_466 (x_goD (wss2 := [ccO g a b y u188.2.1, stO g a 10 u188.2.2.1, cdW g a 10 u188.2.2.2.1, evW g a 10 u188.2.2.2.2.1, stO g a 20 u188.2.2.2.2.2.1, cdW g a 20 u188.2.2.2.2.2.2.1, evW g a 20 u188.2.2.2.2.2.2.2.1, hiO g a u188.2.2.2.2.2.2.2.2.1, hrW g a t, stF g a u188.2.2.2.2.2.2.2.2.2.1, cdF g a u188.2.2.2.2.2.2.2.2.2.2.1, evF g a u188.2.2.2.2.2.2.2.2.2.2.2.1, prO g b u188.2.2.2.2.2.2.2.2.2.2.2.2.1, caW g b t2, cmF g b u188.2.2.2.2.2.2.2.2.2.2.2.2.2, stgO g n186 n187 (), baW g n187 u185.1 u185.2, sbO g q92 z184 u183.2.1, baW g z184 u183.1 u183.2.2, stgO g n181 n182 (), baW g n182 u180.1 u180.2, sbO g q170 z179 u178.2.1, baW g z179 u178.1 u178.2.2]) (stk2 := [.int u188.1]) rfl rfl ?_)
                                              refine x_dropE (wss' := [ccO g a b y u188.2.1, stO g a 10 u188.2.2.1, cdW g a 10 u188.2.2.2.1, evW g a 10 u188.2.2.2.2.1, stO g a 20 u188.2.2.2.2.2.1, cdW g a 20 u188.2.2.2.2.2.2.1, evW g a 20 u188.2.2.2.2.2.2.2.1, hiO g a u188.2.2.2.2.2.2.2.2.1, hrW g a t, stF g a u188.2.2.2.2.2.2.2.2.2.1, cdF g a u188.2.2.2.2.2.2.2.2.2.2.1, evF g a u188.2.2.2.2.2.2.2.2.2.2.2.1, prO g b u188.2.2.2.2.2.2.2.2.2.2.2.2.1, caW g b t2, cmF g b u188.2.2.2.2.2.2.2.2.2.2.2.2.2]) [stgO g n186 n187 (), baW g n187 u185.1 u185.2, sbO g q92 z184 u183.2.1, baW g z184 u183.1 u183.2.2, stgO g n181 n182 (), baW g n182 u180.1 u180.2, sbO g q170 z179 u178.2.1, baW g z179 u178.1 u178.2.2] (x_pickD [0, 1, 2, 3, 4, 5, 6, 7, 8, 9, 10, 11, 12, 13, 14, 15, 16, 17, 18, 19, 20, 21, 22] 23 rfl rfl rfl) ?_
                                              refine x_widen (k := 82) (n := 3628) (by omega) (by omega) ?_
                                              obtain rfl := Option.some.inj hf
                                              exact x_iret C hr ⟨rfl, rfl⟩ dL_acts_469
