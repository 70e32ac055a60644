/-! THE LAW: isWell (wip/p50/lawgen.py) -/
theorem wd_58 : Cond.methodLink RL 215 yX9_minutesLeft ∈ xTB := xTB_in 58 (by decide +kernel) (by decide +kernel)
theorem wd_59 : Cond.instanceMethod yX9_minutesLeft ∈ xTB := xTB_in 59 (by decide +kernel) (by decide +kernel)
theorem wd_60 : Cond.selects yX9_minutesLeft.cls yX9_minutesLeft yX9_minutesLeft ∈ xTB := xTB_in 60 (by decide +kernel) (by decide +kernel)
theorem wd_61 : Cond.code yX9_minutesLeft cX9_minutesLeft 2 (some .int) ∈ xTB := xTB_in 61 (by decide +kernel) (by decide +kernel)
theorem wd_157 : Cond.methodLink RL 224 yX9_minutesUntilDark ∈ xTB := xTB_in 157 (by decide +kernel) (by decide +kernel)
theorem wd_1320 : Cond.methodLink RL 218 yX9_minutesLeftByBurning ∈ xTB := xTB_in 1320 (by decide +kernel) (by decide +kernel)
theorem wd_1321 : Cond.instanceMethod yX9_minutesLeftByBurning ∈ xTB := xTB_in 1321 (by decide +kernel) (by decide +kernel)
theorem wd_1322 : Cond.selects yX9_minutesLeftByBurning.cls yX9_minutesLeftByBurning yX9_minutesLeftByBurning ∈ xTB := xTB_in 1322 (by decide +kernel) (by decide +kernel)
theorem wd_1323 : Cond.code yX9_minutesLeftByBurning cX9_minutesLeftByBurning 2 (some .int) ∈ xTB := xTB_in 1323 (by decide +kernel) (by decide +kernel)
theorem wd_1329 : Cond.methodLink RL 221 yX9_sounding ∈ xTB := xTB_in 1329 (by decide +kernel) (by decide +kernel)
theorem wd_1330 : Cond.instanceMethod yX9_sounding ∈ xTB := xTB_in 1330 (by decide +kernel) (by decide +kernel)
theorem wd_1331 : Cond.selects yX9_sounding.cls yX9_sounding yX9_sounding ∈ xTB := xTB_in 1331 (by decide +kernel) (by decide +kernel)
theorem wd_1332 : Cond.code yX9_sounding cX9_sounding 2 (some .int) ∈ xTB := xTB_in 1332 (by decide +kernel) (by decide +kernel)
theorem wd_1338 : Cond.methodLink RL 227 yX9_addedWaxByParts ∈ xTB := xTB_in 1338 (by decide +kernel) (by decide +kernel)
theorem wd_1346 : Cond.methodLink RL 230 yX9_litCandles ∈ xTB := xTB_in 1346 (by decide +kernel) (by decide +kernel)
theorem wd_1347 : Cond.instanceMethod yX9_litCandles ∈ xTB := xTB_in 1347 (by decide +kernel) (by decide +kernel)
theorem wd_1348 : Cond.selects yX9_litCandles.cls yX9_litCandles yX9_litCandles ∈ xTB := xTB_in 1348 (by decide +kernel) (by decide +kernel)
theorem wd_1349 : Cond.code yX9_litCandles cX9_litCandles 1 (some .int) ∈ xTB := xTB_in 1349 (by decide +kernel) (by decide +kernel)
theorem wd_1351 : Cond.methodLink RL 233 yX9_minutesUntilDarkByLeaps ∈ xTB := xTB_in 1351 (by decide +kernel) (by decide +kernel)
theorem wd_1364 : Cond.methodLink RL 236 yX9_loudestVoice ∈ xTB := xTB_in 1364 (by decide +kernel) (by decide +kernel)
theorem wd_1365 : Cond.instanceMethod yX9_loudestVoice ∈ xTB := xTB_in 1365 (by decide +kernel) (by decide +kernel)
theorem wd_1366 : Cond.selects yX9_loudestVoice.cls yX9_loudestVoice yX9_loudestVoice ∈ xTB := xTB_in 1366 (by decide +kernel) (by decide +kernel)
theorem wd_1367 : Cond.code yX9_loudestVoice cX9_loudestVoice 1 (some .char) ∈ xTB := xTB_in 1367 (by decide +kernel) (by decide +kernel)
theorem wd_1375 : Cond.methodLink RL 240 yX9_isConsistent ∈ xTB := xTB_in 1375 (by decide +kernel) (by decide +kernel)
theorem wd_1376 : Cond.instanceMethod yX9_isConsistent ∈ xTB := xTB_in 1376 (by decide +kernel) (by decide +kernel)
theorem wd_1377 : Cond.selects yX9_isConsistent.cls yX9_isConsistent yX9_isConsistent ∈ xTB := xTB_in 1377 (by decide +kernel) (by decide +kernel)
theorem wd_1378 : Cond.code yX9_isConsistent cX9_isConsistent 4 (some .boolean) ∈ xTB := xTB_in 1378 (by decide +kernel) (by decide +kernel)
theorem dL_isWell_0 : decode cL_isWell 0 = .ok (.aload_n 0, 1) := by decide +kernel
theorem dL_isWell_1 : decode cL_isWell 1 = .ok (.invokevirtual 118, 3) := by decide +kernel
theorem dL_isWell_4 : decode cL_isWell 4 = .ok (.aload_n 0, 1) := by decide +kernel
theorem dL_isWell_5 : decode cL_isWell 5 = .ok (.invokevirtual 184, 3) := by decide +kernel
theorem dL_isWell_8 : decode cL_isWell 8 = .ok (.iadd, 1) := by decide +kernel
theorem dL_isWell_9 : decode cL_isWell 9 = .ok (.i2l, 1) := by decide +kernel
theorem dL_isWell_10 : decode cL_isWell 10 = .ok (.lstore_n 1, 1) := by decide +kernel
theorem dL_isWell_11 : decode cL_isWell 11 = .ok (.iconst 0, 1) := by decide +kernel
theorem dL_isWell_12 : decode cL_isWell 12 = .ok (.istore_n 3, 1) := by decide +kernel
theorem dL_isWell_13 : decode cL_isWell 13 = .ok (.iconst 0, 1) := by decide +kernel
theorem dL_isWell_14 : decode cL_isWell 14 = .ok (.istore 4, 2) := by decide +kernel
theorem dL_isWell_16 : decode cL_isWell 16 = .ok (.iconst 0, 1) := by decide +kernel
theorem dL_isWell_17 : decode cL_isWell 17 = .ok (.istore 5, 2) := by decide +kernel
theorem dL_isWell_19 : decode cL_isWell 19 = .ok (.iload 5, 2) := by decide +kernel
theorem dL_isWell_21 : decode cL_isWell 21 = .ok (.aload_n 0, 1) := by decide +kernel
theorem dL_isWell_22 : decode cL_isWell 22 = .ok (.invokevirtual 175, 3) := by decide +kernel
theorem dL_isWell_25 : decode cL_isWell 25 = .ok (.if_icmp .ge 139, 3) := by decide +kernel
theorem dL_isWell_28 : decode cL_isWell 28 = .ok (.aload_n 0, 1) := by decide +kernel
theorem dL_isWell_29 : decode cL_isWell 29 = .ok (.iload 5, 2) := by decide +kernel
theorem dL_isWell_31 : decode cL_isWell 31 = .ok (.invokevirtual 215, 3) := by decide +kernel
theorem dL_isWell_34 : decode cL_isWell 34 = .ok (.istore 6, 2) := by decide +kernel
theorem dL_isWell_36 : decode cL_isWell 36 = .ok (.lload_n 1, 1) := by decide +kernel
theorem dL_isWell_37 : decode cL_isWell 37 = .ok (.aload_n 0, 1) := by decide +kernel
theorem dL_isWell_38 : decode cL_isWell 38 = .ok (.iload 5, 2) := by decide +kernel
theorem dL_isWell_40 : decode cL_isWell 40 = .ok (.invokevirtual 196, 3) := by decide +kernel
theorem dL_isWell_43 : decode cL_isWell 43 = .ok (.i2l, 1) := by decide +kernel
theorem dL_isWell_44 : decode cL_isWell 44 = .ok (.ladd, 1) := by decide +kernel
theorem dL_isWell_45 : decode cL_isWell 45 = .ok (.lstore_n 1, 1) := by decide +kernel
theorem dL_isWell_46 : decode cL_isWell 46 = .ok (.iload_n 3, 1) := by decide +kernel
theorem dL_isWell_47 : decode cL_isWell 47 = .ok (.aload_n 0, 1) := by decide +kernel
theorem dL_isWell_48 : decode cL_isWell 48 = .ok (.iload 5, 2) := by decide +kernel
theorem dL_isWell_50 : decode cL_isWell 50 = .ok (.invokevirtual 202, 3) := by decide +kernel
theorem dL_isWell_53 : decode cL_isWell 53 = .ok (.ifCond .eq 7, 3) := by decide +kernel
theorem dL_isWell_56 : decode cL_isWell 56 = .ok (.iconst 1, 1) := by decide +kernel
theorem dL_isWell_57 : decode cL_isWell 57 = .ok (.goto 4, 3) := by decide +kernel
theorem dL_isWell_60 : decode cL_isWell 60 = .ok (.iconst 0, 1) := by decide +kernel
theorem dL_isWell_61 : decode cL_isWell 61 = .ok (.iadd, 1) := by decide +kernel
theorem dL_isWell_62 : decode cL_isWell 62 = .ok (.istore_n 3, 1) := by decide +kernel
theorem dL_isWell_63 : decode cL_isWell 63 = .ok (.aload_n 0, 1) := by decide +kernel
theorem dL_isWell_64 : decode cL_isWell 64 = .ok (.iload 5, 2) := by decide +kernel
theorem dL_isWell_66 : decode cL_isWell 66 = .ok (.invokevirtual 196, 3) := by decide +kernel
theorem dL_isWell_69 : decode cL_isWell 69 = .ok (.ifCond .lt 87, 3) := by decide +kernel
theorem dL_isWell_72 : decode cL_isWell 72 = .ok (.aload_n 0, 1) := by decide +kernel
theorem dL_isWell_73 : decode cL_isWell 73 = .ok (.iload 5, 2) := by decide +kernel
theorem dL_isWell_75 : decode cL_isWell 75 = .ok (.invokevirtual 196, 3) := by decide +kernel
theorem dL_isWell_78 : decode cL_isWell 78 = .ok (.sipush 999, 3) := by decide +kernel
theorem dL_isWell_81 : decode cL_isWell 81 = .ok (.if_icmp .gt 75, 3) := by decide +kernel
theorem dL_isWell_84 : decode cL_isWell 84 = .ok (.aload_n 0, 1) := by decide +kernel
theorem dL_isWell_85 : decode cL_isWell 85 = .ok (.iload 5, 2) := by decide +kernel
theorem dL_isWell_87 : decode cL_isWell 87 = .ok (.invokevirtual 202, 3) := by decide +kernel
theorem dL_isWell_90 : decode cL_isWell 90 = .ok (.ifCond .eq 12, 3) := by decide +kernel
theorem dL_isWell_93 : decode cL_isWell 93 = .ok (.aload_n 0, 1) := by decide +kernel
theorem dL_isWell_94 : decode cL_isWell 94 = .ok (.iload 5, 2) := by decide +kernel
theorem dL_isWell_96 : decode cL_isWell 96 = .ok (.invokevirtual 196, 3) := by decide +kernel
theorem dL_isWell_99 : decode cL_isWell 99 = .ok (.ifCond .eq 57, 3) := by decide +kernel
theorem dL_isWell_102 : decode cL_isWell 102 = .ok (.iload 6, 2) := by decide +kernel
theorem dL_isWell_104 : decode cL_isWell 104 = .ok (.aload_n 0, 1) := by decide +kernel
theorem dL_isWell_105 : decode cL_isWell 105 = .ok (.iload 5, 2) := by decide +kernel
theorem dL_isWell_107 : decode cL_isWell 107 = .ok (.invokevirtual 218, 3) := by decide +kernel
theorem dL_isWell_110 : decode cL_isWell 110 = .ok (.if_icmp .ne 46, 3) := by decide +kernel
theorem dL_isWell_113 : decode cL_isWell 113 = .ok (.iload 6, 2) := by decide +kernel
theorem dL_isWell_115 : decode cL_isWell 115 = .ok (.aload_n 0, 1) := by decide +kernel
theorem dL_isWell_116 : decode cL_isWell 116 = .ok (.iload 5, 2) := by decide +kernel
theorem dL_isWell_118 : decode cL_isWell 118 = .ok (.invokevirtual 199, 3) := by decide +kernel
theorem dL_isWell_121 : decode cL_isWell 121 = .ok (.imul, 1) := by decide +kernel
theorem dL_isWell_122 : decode cL_isWell 122 = .ok (.aload_n 0, 1) := by decide +kernel
theorem dL_isWell_123 : decode cL_isWell 123 = .ok (.iload 5, 2) := by decide +kernel
theorem dL_isWell_125 : decode cL_isWell 125 = .ok (.invokevirtual 196, 3) := by decide +kernel
theorem dL_isWell_128 : decode cL_isWell 128 = .ok (.if_icmp .lt 28, 3) := by decide +kernel
theorem dL_isWell_131 : decode cL_isWell 131 = .ok (.iload 6, 2) := by decide +kernel
theorem dL_isWell_133 : decode cL_isWell 133 = .ok (.iconst 1, 1) := by decide +kernel
theorem dL_isWell_134 : decode cL_isWell 134 = .ok (.isub, 1) := by decide +kernel
theorem dL_isWell_135 : decode cL_isWell 135 = .ok (.aload_n 0, 1) := by decide +kernel
theorem dL_isWell_136 : decode cL_isWell 136 = .ok (.iload 5, 2) := by decide +kernel
theorem dL_isWell_138 : decode cL_isWell 138 = .ok (.invokevirtual 199, 3) := by decide +kernel
theorem dL_isWell_141 : decode cL_isWell 141 = .ok (.imul, 1) := by decide +kernel
theorem dL_isWell_142 : decode cL_isWell 142 = .ok (.aload_n 0, 1) := by decide +kernel
theorem dL_isWell_143 : decode cL_isWell 143 = .ok (.iload 5, 2) := by decide +kernel
theorem dL_isWell_145 : decode cL_isWell 145 = .ok (.invokevirtual 196, 3) := by decide +kernel
theorem dL_isWell_148 : decode cL_isWell 148 = .ok (.if_icmp .lt 10, 3) := by decide +kernel
theorem dL_isWell_151 : decode cL_isWell 151 = .ok (.iload 6, 2) := by decide +kernel
theorem dL_isWell_153 : decode cL_isWell 153 = .ok (.ifCond .le 5, 3) := by decide +kernel
theorem dL_isWell_156 : decode cL_isWell 156 = .ok (.iconst 0, 1) := by decide +kernel
theorem dL_isWell_157 : decode cL_isWell 157 = .ok (.ireturn, 1) := by decide +kernel
theorem dL_isWell_158 : decode cL_isWell 158 = .ok (.iinc 5 1, 3) := by decide +kernel
theorem dL_isWell_161 : decode cL_isWell 161 = .ok (.goto (-142), 3) := by decide +kernel
theorem dL_isWell_164 : decode cL_isWell 164 = .ok (.iconst 0, 1) := by decide +kernel
theorem dL_isWell_165 : decode cL_isWell 165 = .ok (.istore 5, 2) := by decide +kernel
theorem dL_isWell_167 : decode cL_isWell 167 = .ok (.iload 5, 2) := by decide +kernel
theorem dL_isWell_169 : decode cL_isWell 169 = .ok (.iconst 4, 1) := by decide +kernel
theorem dL_isWell_170 : decode cL_isWell 170 = .ok (.if_icmp .ge 25, 3) := by decide +kernel
theorem dL_isWell_173 : decode cL_isWell 173 = .ok (.iload 4, 2) := by decide +kernel
theorem dL_isWell_175 : decode cL_isWell 175 = .ok (.aload_n 0, 1) := by decide +kernel
theorem dL_isWell_176 : decode cL_isWell 176 = .ok (.ldc 98, 2) := by decide +kernel
theorem dL_isWell_178 : decode cL_isWell 178 = .ok (.iload 5, 2) := by decide +kernel
theorem dL_isWell_180 : decode cL_isWell 180 = .ok (.invokevirtual 81, 3) := by decide +kernel
theorem dL_isWell_183 : decode cL_isWell 183 = .ok (.invokevirtual 221, 3) := by decide +kernel
theorem dL_isWell_186 : decode cL_isWell 186 = .ok (.iadd, 1) := by decide +kernel
theorem dL_isWell_187 : decode cL_isWell 187 = .ok (.istore 4, 2) := by decide +kernel
theorem dL_isWell_189 : decode cL_isWell 189 = .ok (.iinc 5 1, 3) := by decide +kernel
theorem dL_isWell_192 : decode cL_isWell 192 = .ok (.goto (-25), 3) := by decide +kernel
theorem dL_isWell_195 : decode cL_isWell 195 = .ok (.iconst 0, 1) := by decide +kernel
theorem dL_isWell_196 : decode cL_isWell 196 = .ok (.istore 5, 2) := by decide +kernel
theorem dL_isWell_198 : decode cL_isWell 198 = .ok (.iload 5, 2) := by decide +kernel
theorem dL_isWell_200 : decode cL_isWell 200 = .ok (.aload_n 0, 1) := by decide +kernel
theorem dL_isWell_201 : decode cL_isWell 201 = .ok (.invokevirtual 178, 3) := by decide +kernel
theorem dL_isWell_204 : decode cL_isWell 204 = .ok (.if_icmp .ge 59, 3) := by decide +kernel
theorem dL_isWell_207 : decode cL_isWell 207 = .ok (.aload_n 0, 1) := by decide +kernel
theorem dL_isWell_208 : decode cL_isWell 208 = .ok (.iload 5, 2) := by decide +kernel
theorem dL_isWell_210 : decode cL_isWell 210 = .ok (.invokevirtual 206, 3) := by decide +kernel
theorem dL_isWell_213 : decode cL_isWell 213 = .ok (.aload_n 0, 1) := by decide +kernel
theorem dL_isWell_214 : decode cL_isWell 214 = .ok (.invokevirtual 129, 3) := by decide +kernel
theorem dL_isWell_217 : decode cL_isWell 217 = .ok (.if_icmp .le 38, 3) := by decide +kernel
theorem dL_isWell_220 : decode cL_isWell 220 = .ok (.iload 5, 2) := by decide +kernel
theorem dL_isWell_222 : decode cL_isWell 222 = .ok (.ifCond .le 20, 3) := by decide +kernel
theorem dL_isWell_225 : decode cL_isWell 225 = .ok (.aload_n 0, 1) := by decide +kernel
theorem dL_isWell_226 : decode cL_isWell 226 = .ok (.iload 5, 2) := by decide +kernel
theorem dL_isWell_228 : decode cL_isWell 228 = .ok (.invokevirtual 206, 3) := by decide +kernel
theorem dL_isWell_231 : decode cL_isWell 231 = .ok (.aload_n 0, 1) := by decide +kernel
theorem dL_isWell_232 : decode cL_isWell 232 = .ok (.iload 5, 2) := by decide +kernel
theorem dL_isWell_234 : decode cL_isWell 234 = .ok (.iconst 1, 1) := by decide +kernel
theorem dL_isWell_235 : decode cL_isWell 235 = .ok (.isub, 1) := by decide +kernel
theorem dL_isWell_236 : decode cL_isWell 236 = .ok (.invokevirtual 206, 3) := by decide +kernel
theorem dL_isWell_239 : decode cL_isWell 239 = .ok (.if_icmp .lt 16, 3) := by decide +kernel
theorem dL_isWell_242 : decode cL_isWell 242 = .ok (.aload_n 0, 1) := by decide +kernel
theorem dL_isWell_243 : decode cL_isWell 243 = .ok (.iload 5, 2) := by decide +kernel
theorem dL_isWell_245 : decode cL_isWell 245 = .ok (.invokevirtual 209, 3) := by decide +kernel
theorem dL_isWell_248 : decode cL_isWell 248 = .ok (.aload_n 0, 1) := by decide +kernel
theorem dL_isWell_249 : decode cL_isWell 249 = .ok (.invokevirtual 175, 3) := by decide +kernel
theorem dL_isWell_252 : decode cL_isWell 252 = .ok (.if_icmp .lt 5, 3) := by decide +kernel
theorem dL_isWell_255 : decode cL_isWell 255 = .ok (.iconst 0, 1) := by decide +kernel
theorem dL_isWell_256 : decode cL_isWell 256 = .ok (.ireturn, 1) := by decide +kernel
theorem dL_isWell_257 : decode cL_isWell 257 = .ok (.iinc 5 1, 3) := by decide +kernel
theorem dL_isWell_260 : decode cL_isWell 260 = .ok (.goto (-62), 3) := by decide +kernel
theorem dL_isWell_263 : decode cL_isWell 263 = .ok (.aload_n 0, 1) := by decide +kernel
theorem dL_isWell_264 : decode cL_isWell 264 = .ok (.invokevirtual 224, 3) := by decide +kernel
theorem dL_isWell_267 : decode cL_isWell 267 = .ok (.istore 5, 2) := by decide +kernel
theorem dL_isWell_269 : decode cL_isWell 269 = .ok (.lload_n 1, 1) := by decide +kernel
theorem dL_isWell_270 : decode cL_isWell 270 = .ok (.aload_n 0, 1) := by decide +kernel
theorem dL_isWell_271 : decode cL_isWell 271 = .ok (.invokevirtual 187, 3) := by decide +kernel
theorem dL_isWell_274 : decode cL_isWell 274 = .ok (.lcmp, 1) := by decide +kernel
theorem dL_isWell_275 : decode cL_isWell 275 = .ok (.ifCond .ne 93, 3) := by decide +kernel
theorem dL_isWell_278 : decode cL_isWell 278 = .ok (.lload_n 1, 1) := by decide +kernel
theorem dL_isWell_279 : decode cL_isWell 279 = .ok (.aload_n 0, 1) := by decide +kernel
theorem dL_isWell_280 : decode cL_isWell 280 = .ok (.invokevirtual 227, 3) := by decide +kernel
theorem dL_isWell_283 : decode cL_isWell 283 = .ok (.lcmp, 1) := by decide +kernel
theorem dL_isWell_284 : decode cL_isWell 284 = .ok (.ifCond .ne 84, 3) := by decide +kernel
theorem dL_isWell_287 : decode cL_isWell 287 = .ok (.iload_n 3, 1) := by decide +kernel
theorem dL_isWell_288 : decode cL_isWell 288 = .ok (.aload_n 0, 1) := by decide +kernel
theorem dL_isWell_289 : decode cL_isWell 289 = .ok (.invokevirtual 230, 3) := by decide +kernel
theorem dL_isWell_292 : decode cL_isWell 292 = .ok (.if_icmp .ne 76, 3) := by decide +kernel
theorem dL_isWell_295 : decode cL_isWell 295 = .ok (.iload 4, 2) := by decide +kernel
theorem dL_isWell_297 : decode cL_isWell 297 = .ok (.iload_n 3, 1) := by decide +kernel
theorem dL_isWell_298 : decode cL_isWell 298 = .ok (.if_icmp .ne 70, 3) := by decide +kernel
theorem dL_isWell_301 : decode cL_isWell 301 = .ok (.iload 5, 2) := by decide +kernel
theorem dL_isWell_303 : decode cL_isWell 303 = .ok (.aload_n 0, 1) := by decide +kernel
theorem dL_isWell_304 : decode cL_isWell 304 = .ok (.invokevirtual 233, 3) := by decide +kernel
theorem dL_isWell_307 : decode cL_isWell 307 = .ok (.if_icmp .ne 61, 3) := by decide +kernel
theorem dL_isWell_310 : decode cL_isWell 310 = .ok (.iload 5, 2) := by decide +kernel
theorem dL_isWell_312 : decode cL_isWell 312 = .ok (.ifCond .ne 7, 3) := by decide +kernel
theorem dL_isWell_315 : decode cL_isWell 315 = .ok (.iconst 1, 1) := by decide +kernel
theorem dL_isWell_316 : decode cL_isWell 316 = .ok (.goto 4, 3) := by decide +kernel
theorem dL_isWell_319 : decode cL_isWell 319 = .ok (.iconst 0, 1) := by decide +kernel
theorem dL_isWell_320 : decode cL_isWell 320 = .ok (.iload_n 3, 1) := by decide +kernel
theorem dL_isWell_321 : decode cL_isWell 321 = .ok (.ifCond .ne 14, 3) := by decide +kernel
theorem dL_isWell_324 : decode cL_isWell 324 = .ok (.aload_n 0, 1) := by decide +kernel
theorem dL_isWell_325 : decode cL_isWell 325 = .ok (.invokevirtual 178, 3) := by decide +kernel
theorem dL_isWell_328 : decode cL_isWell 328 = .ok (.ifCond .ne 7, 3) := by decide +kernel
theorem dL_isWell_331 : decode cL_isWell 331 = .ok (.iconst 1, 1) := by decide +kernel
theorem dL_isWell_332 : decode cL_isWell 332 = .ok (.goto 4, 3) := by decide +kernel
theorem dL_isWell_335 : decode cL_isWell 335 = .ok (.iconst 0, 1) := by decide +kernel
theorem dL_isWell_336 : decode cL_isWell 336 = .ok (.if_icmp .ne 32, 3) := by decide +kernel
theorem dL_isWell_339 : decode cL_isWell 339 = .ok (.iload_n 3, 1) := by decide +kernel
theorem dL_isWell_340 : decode cL_isWell 340 = .ok (.ifCond .eq 17, 3) := by decide +kernel
theorem dL_isWell_343 : decode cL_isWell 343 = .ok (.aload_n 0, 1) := by decide +kernel
theorem dL_isWell_344 : decode cL_isWell 344 = .ok (.aload_n 0, 1) := by decide +kernel
theorem dL_isWell_345 : decode cL_isWell 345 = .ok (.invokevirtual 236, 3) := by decide +kernel
theorem dL_isWell_348 : decode cL_isWell 348 = .ok (.invokevirtual 221, 3) := by decide +kernel
theorem dL_isWell_351 : decode cL_isWell 351 = .ok (.iconst 4, 1) := by decide +kernel
theorem dL_isWell_352 : decode cL_isWell 352 = .ok (.imul, 1) := by decide +kernel
theorem dL_isWell_353 : decode cL_isWell 353 = .ok (.iload_n 3, 1) := by decide +kernel
theorem dL_isWell_354 : decode cL_isWell 354 = .ok (.if_icmp .lt 14, 3) := by decide +kernel
theorem dL_isWell_357 : decode cL_isWell 357 = .ok (.aload_n 0, 1) := by decide +kernel
theorem dL_isWell_358 : decode cL_isWell 358 = .ok (.invokevirtual 240, 3) := by decide +kernel
theorem dL_isWell_361 : decode cL_isWell 361 = .ok (.ifCond .eq 7, 3) := by decide +kernel
theorem dL_isWell_364 : decode cL_isWell 364 = .ok (.iconst 1, 1) := by decide +kernel
theorem dL_isWell_365 : decode cL_isWell 365 = .ok (.goto 4, 3) := by decide +kernel
theorem dL_isWell_368 : decode cL_isWell 368 = .ok (.iconst 0, 1) := by decide +kernel
theorem dL_isWell_369 : decode cL_isWell 369 = .ok (.ireturn, 1) := by decide +kernel
set_option maxHeartbeats 4000000 in
set_option maxRecDepth 100000 in
theorem c_Q_isWell (g : xG) (l : Launch) (hl : l.stackTraces = false) (a : Nat → Nat) (b : Nat → Nat) (y : Nat) (z : CcT) (v : StS) (c : CdT) (e : EvT) (v2 : StS) (c2 : CdT) (e2 : EvT)  {u : Int32 × StS × CdT × EvT} (hf : f_Q_isWell z v c e v2 c2 e2 = some u) : Con g l yL_isWell cL_isWell 7 (some .boolean) ({ frames := 8, cells := 548, slots := 3288, locals := 153 } : Room) [.ref (a 0)] ([ccO g a b y z, stO g a 10 v, cdW g a 10 c, evW g a 10 e, stO g a 20 v2, cdW g a 20 c2, evW g a 20 e2] : List va_W).flatten (fun v9 w9 => v9 = some (.int u.1) ∧ w9 = ([ccO g a b y z, stO g a 10 v, cdW g a 10 c, evW g a 10 e, stO g a 20 u.2.1, cdW g a 20 u.2.2.1, evW g a 20 u.2.2.2] : List va_W).flatten) 548 3288 := by
  unfold f_Q_isWell at hf
  refine Con_of [ccO g a b y z, stO g a 10 v, cdW g a 10 c, evW g a 10 e, stO g a 20 v2, cdW g a 20 c2, evW g a 20 e2] [(0, .ref (a 0))] rfl rfl (by decide) (Nat.le_of_ble_eq_true rfl) ?_
  intro pW eW sW mW argsW belowW methW c9 C hnm hr
  have C : CX g RL cL_isWell 7 _ pW sW mW argsW methW c9 := C
  refine x_aload_n C dL_isWell_0 rfl 0 rfl ?_
  obtain ⟨u1, hu1, hf⟩ := x_b hf
  refine x_callV (n := 0) (As := []) (rest := []) C (c_X9_dish g l a b y z v hu1) ⟨⟨wd_1076, wd_1073, wd_25⟩, ⟨by decide, by decide, by decide⟩, rfl, rfl, Nat.le_of_ble_eq_true rfl, Nat.le_of_ble_eq_true rfl⟩ wd_1074 wd_1075 ⟨0, 10, _, _, rfl, rfl, rfl⟩ [cdW g a 10 c, evW g a 10 e, stO g a 20 v2, cdW g a 20 c2, evW g a 20 e2] (x_pickD [0, 1, 2, 3, 4, 5, 6] 7 rfl rfl rfl) rfl rfl (Nat.le_of_ble_eq_true rfl) ⟨by show _ ≤ 548; omega, by show _ ≤ 3288; omega⟩ dL_isWell_1 (x_goD (wss2 := [ccO g a b y z, stO g a 10 v, cdW g a 10 c, evW g a 10 e, stO g a 20 v2, cdW g a 20 c2, evW g a 20 e2]) (stk2 := [.int u1]) rfl rfl ?_)
  refine x_aload_n C dL_isWell_4 rfl 0 rfl ?_
  obtain ⟨u2, hu2, hf⟩ := x_b hf
  refine x_callV (n := 0) (As := []) (rest := [.int u1]) C (c_X9_burnt g l a b y z v hu2) ⟨⟨wd_1273, wd_1270, wd_25⟩, ⟨by decide, by decide, by decide⟩, rfl, rfl, Nat.le_of_ble_eq_true rfl, Nat.le_of_ble_eq_true rfl⟩ wd_1271 wd_1272 ⟨0, 10, _, _, rfl, rfl, rfl⟩ [cdW g a 10 c, evW g a 10 e, stO g a 20 v2, cdW g a 20 c2, evW g a 20 e2] (x_pickD [0, 1, 2, 3, 4, 5, 6] 7 rfl rfl rfl) rfl rfl (Nat.le_of_ble_eq_true rfl) ⟨by show _ ≤ 548; omega, by show _ ≤ 3288; omega⟩ dL_isWell_5 (x_goD (wss2 := [ccO g a b y z, stO g a 10 v, cdW g a 10 c, evW g a 10 e, stO g a 20 v2, cdW g a 20 c2, evW g a 20 e2]) (stk2 := [.int u2, .int u1]) rfl rfl ?_)
  refine x_iadd C dL_isWell_8 ?_
  refine x_i2l C dL_isWell_9 rfl ?_
  refine x_lstore_n (lv' := [(1, .long ((u1 + u2).toInt64)), (0, .ref (a 0))]) C dL_isWell_10 rfl (by decide) rfl ?_
  refine x_iconst (v := 0) C dL_isWell_11 (by decide) ?_
  refine x_istore_n (lv' := [(3, .int (0 : Int32)), (1, .long ((u1 + u2).toInt64)), (0, .ref (a 0))]) C dL_isWell_12 rfl (by decide) rfl ?_
  refine x_iconst (v := 0) C dL_isWell_13 (by decide) ?_
  refine x_istore (lv' := [(4, .int (0 : Int32)), (3, .int (0 : Int32)), (1, .long ((u1 + u2).toInt64)), (0, .ref (a 0))]) C dL_isWell_14 (by decide) rfl ?_
  refine x_iconst (v := 0) C dL_isWell_16 (by decide) ?_
  refine x_istore (lv' := [(5, .int (0 : Int32)), (4, .int (0 : Int32)), (3, .int (0 : Int32)), (1, .long ((u1 + u2).toInt64)), (0, .ref (a 0))]) C dL_isWell_17 (by decide) rfl ?_
  refine x_locals (lv' := [(0, .ref (a 0)), (1, .long ((u1 + u2).toInt64)), (3, .int (0 : Int32)), (4, .int (0 : Int32)), (5, .int (0 : Int32))]) [4, 3, 2, 1, 0] rfl ?_
  refine x_widen (k := 0) (n := 0) (by omega) (by omega) ?_
  have hL198 : ∀ (nW kW tW : Nat) (v2L : StS) (c2L : CdT) (e2L : EvT) (x1 : Int64) (x3 : Int32) (x4 : Int32) (x5 : Int32), kW + 4 * nW + 4 ≤ 548 → tW + 24 * nW + 24 ≤ 3288 → f_Q_isWell_198 nW z v c e v2L c2L e2L x1 x3 x4 x5 = some u → VW g (va_A ([ccO g a b y z, stO g a 10 v, cdW g a 10 c, evW g a 10 e, stO g a 20 v2, cdW g a 20 c2, evW g a 20 e2] : List va_W).flatten sW.heap.size) 7 pW l eW ({ frames := 8, cells := 548, slots := 3288, locals := 153 } : Room) sW mW argsW belowW methW c9 kW tW (MQ belowW (xQc g ([ccO g a b y z, stO g a 10 v, cdW g a 10 c, evW g a 10 e, stO g a 20 v2, cdW g a 20 c2, evW g a 20 e2] : List va_W).flatten sW.heap.size (fun v9 w9 => v9 = some (.int u.1) ∧ w9 = ([ccO g a b y z, stO g a 10 v, cdW g a 10 c, evW g a 10 e, stO g a 20 u.2.1, cdW g a 20 u.2.2.1, evW g a 20 u.2.2.2] : List va_W).flatten)) argsW sW 548 3288 (va_A ([ccO g a b y z, stO g a 10 v, cdW g a 10 c, evW g a 10 e, stO g a 20 v2, cdW g a 20 c2, evW g a 20 e2] : List va_W).flatten sW.heap.size)) [ccO g a b y z, stO g a 10 v, cdW g a 10 c, evW g a 10 e, stO g a 20 v2L, cdW g a 20 c2L, evW g a 20 e2L] [(0, .ref (a 0)), (1, .long x1), (3, .int x3), (4, .int x4), (5, .int x5)] 198 [] := by
    intro nW
    induction nW with
    | zero => intro kW tW v2L c2L e2L x1 x3 x4 x5 hkW htW hf; rw [f_Q_isWell_198] at hf; cases hf
    | succ nW ih =>
      intro kW tW v2L c2L e2L x1 x3 x4 x5 hkW htW hf
      rw [f_Q_isWell_198] at hf
      refine x_iload C dL_isWell_198 4 rfl ?_
      refine x_aload_n C dL_isWell_200 rfl 0 rfl ?_
      obtain ⟨u3001, hu3001, hf⟩ := x_b hf
      refine x_callV (n := 0) (As := []) (rest := [.int x5]) C (c_X9_events g l a b y z v e hu3001) ⟨⟨wd_1265, wd_1262, wd_25⟩, ⟨by decide, by decide, by decide⟩, rfl, rfl, Nat.le_of_ble_eq_true rfl, Nat.le_of_ble_eq_true rfl⟩ wd_1263 wd_1264 ⟨0, 10, _, _, rfl, rfl, rfl⟩ [cdW g a 10 c, stO g a 20 v2L, cdW g a 20 c2L, evW g a 20 e2L] (x_pickD [0, 1, 3, 2, 4, 5, 6] 7 rfl rfl rfl) rfl rfl (Nat.le_of_ble_eq_true rfl) ⟨by show _ ≤ 548; omega, by show _ ≤ 3288; omega⟩ dL_isWell_201 (x_goD (wss2 := [ccO g a b y z, stO g a 10 v, evW g a 10 e, cdW g a 10 c, stO g a 20 v2L, cdW g a 20 c2L, evW g a 20 e2L]) (stk2 := [.int u3001, .int x5]) rfl rfl ?_)
      refine x_icmp_ge (tgt := 263) C dL_isWell_204 (by decide) (fun h3002 => ?_) (fun h3002 => ?_)
      · have hf := x_t h3002 hf
        refine x_aload_n C dL_isWell_263 rfl 0 rfl ?_
        obtain ⟨u3003, hu3003, hf⟩ := x_b hf
        refine x_callV (n := 0) (As := []) (rest := []) C (c_X9_minutesUntilDark g l a b y z v c e v2L c2L e2L hu3003) ⟨⟨wd_160, wd_157, wd_25⟩, ⟨by decide, by decide, by decide⟩, rfl, rfl, Nat.le_of_ble_eq_true rfl, Nat.le_of_ble_eq_true rfl⟩ wd_158 wd_159 ⟨0, 10, _, _, rfl, rfl, rfl⟩ [] (x_pickD [0, 1, 3, 2, 4, 5, 6] 7 rfl rfl rfl) rfl rfl (Nat.le_of_ble_eq_true rfl) ⟨by show _ ≤ 548; omega, by show _ ≤ 3288; omega⟩ dL_isWell_264 (x_goD (wss2 := [ccO g a b y z, stO g a 10 v, cdW g a 10 c, evW g a 10 e, stO g a 20 u3003.2.1, cdW g a 20 u3003.2.2.1, evW g a 20 u3003.2.2.2]) (stk2 := [.int u3003.1]) rfl rfl ?_)
        refine x_istore (lv' := [(5, .int u3003.1), (0, .ref (a 0)), (1, .long x1), (3, .int x3), (4, .int x4)]) C dL_isWell_267 (by decide) rfl ?_
        refine x_lload_n C dL_isWell_269 rfl 2 rfl ?_
        refine x_aload_n C dL_isWell_270 rfl 1 rfl ?_
        obtain ⟨u3004, hu3004, hf⟩ := x_b hf
        refine x_callV (n := 0) (As := []) (rest := [.long x1]) C (c_X9_addedWax g l a b y z v hu3004) ⟨⟨wd_1277, wd_1274, wd_25⟩, ⟨by decide, by decide, by decide⟩, rfl, rfl, Nat.le_of_ble_eq_true rfl, Nat.le_of_ble_eq_true rfl⟩ wd_1275 wd_1276 ⟨0, 10, _, _, rfl, rfl, rfl⟩ [cdW g a 10 c, evW g a 10 e, stO g a 20 u3003.2.1, cdW g a 20 u3003.2.2.1, evW g a 20 u3003.2.2.2] (x_pickD [0, 1, 2, 3, 4, 5, 6] 7 rfl rfl rfl) rfl rfl (Nat.le_of_ble_eq_true rfl) ⟨by show _ ≤ 548; omega, by show _ ≤ 3288; omega⟩ dL_isWell_271 (x_goD (wss2 := [ccO g a b y z, stO g a 10 v, cdW g a 10 c, evW g a 10 e, stO g a 20 u3003.2.1, cdW g a 20 u3003.2.2.1, evW g a 20 u3003.2.2.2]) (stk2 := [.long u3004, .long x1]) rfl rfl ?_)
        refine x_lcmp C dL_isWell_274 ?_
        refine x_if_ne (tgt := 368) C dL_isWell_275 (by decide) (fun h3005 => ?_) (fun h3005 => ?_)
        · have hf := x_f h3005 hf
          refine x_iconst (v := 0) C dL_isWell_368 (by decide) ?_
          refine x_widen (k := 548) (n := 3288) (by omega) (by omega) ?_
          obtain rfl := Option.some.inj hf
          exact x_zret C hr rfl ⟨rfl, rfl⟩ dL_isWell_369
        · have hf := x_t h3005 hf
          refine x_lload_n C dL_isWell_278 rfl 2 rfl ?_
          refine x_aload_n C dL_isWell_279 rfl 1 rfl ?_
          obtain ⟨u3006, hu3006, hf⟩ := x_b hf
          refine x_callV (n := 0) (As := []) (rest := [.long x1]) C (c_X9_addedWaxByParts g l a b y z v c hu3006) ⟨⟨wd_1341, wd_1338, wd_25⟩, ⟨by decide, by decide, by decide⟩, rfl, rfl, Nat.le_of_ble_eq_true rfl, Nat.le_of_ble_eq_true rfl⟩ wd_1339 wd_1340 ⟨0, 10, _, _, rfl, rfl, rfl⟩ [evW g a 10 e, stO g a 20 u3003.2.1, cdW g a 20 u3003.2.2.1, evW g a 20 u3003.2.2.2] (x_pickD [0, 1, 2, 3, 4, 5, 6] 7 rfl rfl rfl) rfl rfl (Nat.le_of_ble_eq_true rfl) ⟨by show _ ≤ 548; omega, by show _ ≤ 3288; omega⟩ dL_isWell_280 (x_goD (wss2 := [ccO g a b y z, stO g a 10 v, cdW g a 10 c, evW g a 10 e, stO g a 20 u3003.2.1, cdW g a 20 u3003.2.2.1, evW g a 20 u3003.2.2.2]) (stk2 := [.long u3006, .long x1]) rfl rfl ?_)
          refine x_lcmp C dL_isWell_283 ?_
          refine x_if_ne (tgt := 368) C dL_isWell_284 (by decide) (fun h3007 => ?_) (fun h3007 => ?_)
          · have hf := x_f h3007 hf
            refine x_iconst (v := 0) C dL_isWell_368 (by decide) ?_
            refine x_widen (k := 548) (n := 3288) (by omega) (by omega) ?_
            obtain rfl := Option.some.inj hf
            exact x_zret C hr rfl ⟨rfl, rfl⟩ dL_isWell_369
          · have hf := x_t h3007 hf
            refine x_iload_n C dL_isWell_287 rfl 3 rfl ?_
            refine x_aload_n C dL_isWell_288 rfl 1 rfl ?_
            obtain ⟨u3008, hu3008, hf⟩ := x_b hf
            refine x_callV (n := 0) (As := []) (rest := [.int x3]) C (c_X9_litCandles g l a b y z v c hu3008) ⟨⟨wd_1349, wd_1346, wd_25⟩, ⟨by decide, by decide, by decide⟩, rfl, rfl, Nat.le_of_ble_eq_true rfl, Nat.le_of_ble_eq_true rfl⟩ wd_1347 wd_1348 ⟨0, 10, _, _, rfl, rfl, rfl⟩ [evW g a 10 e, stO g a 20 u3003.2.1, cdW g a 20 u3003.2.2.1, evW g a 20 u3003.2.2.2] (x_pickD [0, 1, 2, 3, 4, 5, 6] 7 rfl rfl rfl) rfl rfl (Nat.le_of_ble_eq_true rfl) ⟨by show _ ≤ 548; omega, by show _ ≤ 3288; omega⟩ dL_isWell_289 (x_goD (wss2 := [ccO g a b y z, stO g a 10 v, cdW g a 10 c, evW g a 10 e, stO g a 20 u3003.2.1, cdW g a 20 u3003.2.2.1, evW g a 20 u3003.2.2.2]) (stk2 := [.int u3008, .int x3]) rfl rfl ?_)
            refine x_icmp_ne (tgt := 368) C dL_isWell_292 (by decide) (fun h3009 => ?_) (fun h3009 => ?_)
            · have hf := x_f h3009 hf
              refine x_iconst (v := 0) C dL_isWell_368 (by decide) ?_
              refine x_widen (k := 548) (n := 3288) (by omega) (by omega) ?_
              obtain rfl := Option.some.inj hf
              exact x_zret C hr rfl ⟨rfl, rfl⟩ dL_isWell_369
            · have hf := x_t h3009 hf
              refine x_iload C dL_isWell_295 4 rfl ?_
              refine x_iload_n C dL_isWell_297 rfl 3 rfl ?_
              refine x_icmp_ne (tgt := 368) C dL_isWell_298 (by decide) (fun h3010 => ?_) (fun h3010 => ?_)
              · have hf := x_f h3010 hf
                refine x_iconst (v := 0) C dL_isWell_368 (by decide) ?_
                refine x_widen (k := 548) (n := 3288) (by omega) (by omega) ?_
                obtain rfl := Option.some.inj hf
                exact x_zret C hr rfl ⟨rfl, rfl⟩ dL_isWell_369
              · have hf := x_t h3010 hf
                refine x_iload C dL_isWell_301 0 rfl ?_
                refine x_aload_n C dL_isWell_303 rfl 1 rfl ?_
                obtain ⟨u3011, hu3011, hf⟩ := x_b hf
                refine x_callV (n := 0) (As := []) (rest := [.int u3003.1]) C (c_X9_minutesUntilDarkByLeaps g l a b y z v c e u3003.2.1 u3003.2.2.1 u3003.2.2.2 hu3011) ⟨⟨wd_1354, wd_1351, wd_25⟩, ⟨by decide, by decide, by decide⟩, rfl, rfl, Nat.le_of_ble_eq_true rfl, Nat.le_of_ble_eq_true rfl⟩ wd_1352 wd_1353 ⟨0, 10, _, _, rfl, rfl, rfl⟩ [] (x_pickD [0, 1, 2, 3, 4, 5, 6] 7 rfl rfl rfl) rfl rfl (Nat.le_of_ble_eq_true rfl) ⟨by show _ ≤ 548; omega, by show _ ≤ 3288; omega⟩ dL_isWell_304 (x_goD (wss2 := [ccO g a b y z, stO g a 10 v, cdW g a 10 c, evW g a 10 e, stO g a 20 u3011.2.1, cdW g a 20 u3011.2.2.1, evW g a 20 u3011.2.2.2]) (stk2 := [.int u3011.1, .int u3003.1]) rfl rfl ?_)
                refine x_icmp_ne (tgt := 368) C dL_isWell_307 (by decide) (fun h3012 => ?_) (fun h3012 => ?_)
                · have hf := x_f h3012 hf
                  refine x_iconst (v := 0) C dL_isWell_368 (by decide) ?_
                  refine x_widen (k := 548) (n := 3288) (by omega) (by omega) ?_
                  obtain rfl := Option.some.inj hf
                  exact x_zret C hr rfl ⟨rfl, rfl⟩ dL_isWell_369
                · have hf := x_t h3012 hf
                  refine x_iload C dL_isWell_310 0 rfl ?_
                  refine x_if_ne (tgt := 319) C dL_isWell_312 (by decide) (fun h3013 => ?_) (fun h3013 => ?_)
                  · have hf := x_f h3013 hf
                    refine x_iconst (v := 0) C dL_isWell_319 (by decide) ?_
                    refine x_iload_n C dL_isWell_320 rfl 3 rfl ?_
                    refine x_if_ne (tgt := 335) C dL_isWell_321 (by decide) (fun h3014 => ?_) (fun h3014 => ?_)
                    · have hf := x_f h3014 hf
                      refine x_iconst (v := 0) C dL_isWell_335 (by decide) ?_
                      refine x_icmp_ne (tgt := 368) C dL_isWell_336 (by decide) (fun h3015 => ?_) (fun h3015 => ?_)
                      · have hf := x_f h3015 hf
                        refine x_iconst (v := 0) C dL_isWell_368 (by decide) ?_
                        refine x_widen (k := 548) (n := 3288) (by omega) (by omega) ?_
                        obtain rfl := Option.some.inj hf
                        exact x_zret C hr rfl ⟨rfl, rfl⟩ dL_isWell_369
                      · have hf := x_t h3015 hf
                        refine x_iload_n C dL_isWell_339 rfl 3 rfl ?_
                        refine x_if_eq (tgt := 357) C dL_isWell_340 (by decide) (fun h3016 => ?_) (fun h3016 => ?_)
                        · have hf := x_t h3016 hf
                          refine x_aload_n C dL_isWell_357 rfl 1 rfl ?_
                          obtain ⟨u3017, hu3017, hf⟩ := x_b hf
                          refine x_callV (n := 0) (As := []) (rest := []) C (c_X9_isConsistent g l a b y z v c e u3011.2.1 u3011.2.2.1 u3011.2.2.2 hu3017) ⟨⟨wd_1378, wd_1375, wd_25⟩, ⟨by decide, by decide, by decide⟩, rfl, rfl, Nat.le_of_ble_eq_true rfl, Nat.le_of_ble_eq_true rfl⟩ wd_1376 wd_1377 ⟨0, 10, _, _, rfl, rfl, rfl⟩ [] (x_pickD [0, 1, 2, 3, 4, 5, 6] 7 rfl rfl rfl) rfl rfl (Nat.le_of_ble_eq_true rfl) ⟨by show _ ≤ 548; omega, by show _ ≤ 3288; omega⟩ dL_isWell_358 (x_goD (wss2 := [ccO g a b y z, stO g a 10 v, cdW g a 10 c, evW g a 10 e, stO g a 20 u3017.2.1, cdW g a 20 u3017.2.2.1, evW g a 20 u3017.2.2.2]) (stk2 := [.int u3017.1]) rfl rfl ?_)
                          refine x_if_eq (tgt := 368) C dL_isWell_361 (by decide) (fun h3018 => ?_) (fun h3018 => ?_)
                          · have hf := x_t h3018 hf
                            refine x_iconst (v := 0) C dL_isWell_368 (by decide) ?_
                            refine x_widen (k := 548) (n := 3288) (by omega) (by omega) ?_
                            obtain rfl := Option.some.inj hf
                            exact x_zret C hr rfl ⟨rfl, rfl⟩ dL_isWell_369
                          · have hf := x_f h3018 hf
                            refine x_iconst (v := 1) C dL_isWell_364 (by decide) ?_
                            refine x_goto (tgt := 369) C dL_isWell_365 (by decide) ?_
                            refine x_widen (k := 548) (n := 3288) (by omega) (by omega) ?_
                            obtain rfl := Option.some.inj hf
                            exact x_zret C hr rfl ⟨rfl, rfl⟩ dL_isWell_369
                        · have hf := x_f h3016 hf
                          refine x_aload_n C dL_isWell_343 rfl 1 rfl ?_
                          refine x_aload_n C dL_isWell_344 rfl 1 rfl ?_
                          obtain ⟨u3019, hu3019, hf⟩ := x_b hf
                          refine x_xcallV (n := 0) (As := []) (rest := [.ref (a 0)]) C (c_X9_loudestVoice g l hl a b y z v c hu3019) ⟨⟨wd_1367, wd_1364, wd_25⟩, ⟨by decide, by decide, by decide⟩, rfl, rfl, Nat.le_of_ble_eq_true rfl, Nat.le_of_ble_eq_true rfl⟩ wd_1365 wd_1366 ⟨0, 10, _, _, rfl, rfl, rfl⟩ [evW g a 10 e, stO g a 20 u3011.2.1, cdW g a 20 u3011.2.2.1, evW g a 20 u3011.2.2.2] (x_pickD [0, 1, 2, 3, 4, 5, 6] 7 rfl rfl rfl) rfl rfl (Nat.le_of_ble_eq_true rfl) ⟨by show _ ≤ 548; omega, by show _ ≤ 3288; omega⟩ dL_isWell_345 (fun E9 w9 hX9 => ?_) (fun v9 w9 hQ9 => ?_)
                          · obtain ⟨k9, hk9, -⟩ := hX9
                            cases x_sl hk9 hf
                          · obtain ⟨r3020, hr9, rfl, rfl⟩ := hQ9
                            have hf := x_sr hr9 hf
                            refine x_goW (wss2 := [ccO g a b y z, stO g a 10 v, cdW g a 10 c, evW g a 10 e, stO g a 20 u3011.2.1, cdW g a 20 u3011.2.2.1, evW g a 20 u3011.2.2.2]) (stk2 := [.int r3020, .ref (a 0)]) rfl rfl rfl ?_
                            obtain ⟨u3021, hu3021, hf⟩ := x_b hf
                            refine x_xcallV (n := 1) (As := [.int r3020]) (rest := []) C (c_X9_sounding g l hl a b y z v c r3020 hu3021) ⟨⟨wd_1332, wd_1329, wd_25⟩, ⟨by decide, by decide, by decide⟩, rfl, rfl, Nat.le_of_ble_eq_true rfl, Nat.le_of_ble_eq_true rfl⟩ wd_1330 wd_1331 ⟨0, 10, _, _, rfl, rfl, rfl⟩ [evW g a 10 e, stO g a 20 u3011.2.1, cdW g a 20 u3011.2.2.1, evW g a 20 u3011.2.2.2] (x_pickD [0, 1, 2, 3, 4, 5, 6] 7 rfl rfl rfl) rfl rfl (Nat.le_of_ble_eq_true rfl) ⟨by show _ ≤ 548; omega, by show _ ≤ 3288; omega⟩ dL_isWell_348 (fun E9 w9 hX9 => ?_) (fun v9 w9 hQ9 => ?_)
                            · obtain ⟨k9, hk9, -⟩ := hX9
                              cases x_sl hk9 hf
                            · obtain ⟨r3022, hr9, rfl, rfl⟩ := hQ9
                              have hf := x_sr hr9 hf
                              refine x_goW (wss2 := [ccO g a b y z, stO g a 10 v, cdW g a 10 c, evW g a 10 e, stO g a 20 u3011.2.1, cdW g a 20 u3011.2.2.1, evW g a 20 u3011.2.2.2]) (stk2 := [.int r3022]) rfl rfl rfl ?_
                              refine x_iconst (v := 4) C dL_isWell_351 (by decide) ?_
                              refine x_imul C dL_isWell_352 ?_
                              refine x_iload_n C dL_isWell_353 rfl 3 rfl ?_
                              refine x_icmp_lt (tgt := 368) C dL_isWell_354 (by decide) (fun h3023 => ?_) (fun h3023 => ?_)
                              · have hf := x_t h3023 hf
                                refine x_iconst (v := 0) C dL_isWell_368 (by decide) ?_
                                refine x_widen (k := 548) (n := 3288) (by omega) (by omega) ?_
                                obtain rfl := Option.some.inj hf
                                exact x_zret C hr rfl ⟨rfl, rfl⟩ dL_isWell_369
                              · have hf := x_f h3023 hf
                                refine x_aload_n C dL_isWell_357 rfl 1 rfl ?_
                                obtain ⟨u3024, hu3024, hf⟩ := x_b hf
                                refine x_callV (n := 0) (As := []) (rest := []) C (c_X9_isConsistent g l a b y z v c e u3011.2.1 u3011.2.2.1 u3011.2.2.2 hu3024) ⟨⟨wd_1378, wd_1375, wd_25⟩, ⟨by decide, by decide, by decide⟩, rfl, rfl, Nat.le_of_ble_eq_true rfl, Nat.le_of_ble_eq_true rfl⟩ wd_1376 wd_1377 ⟨0, 10, _, _, rfl, rfl, rfl⟩ [] (x_pickD [0, 1, 2, 3, 4, 5, 6] 7 rfl rfl rfl) rfl rfl (Nat.le_of_ble_eq_true rfl) ⟨by show _ ≤ 548; omega, by show _ ≤ 3288; omega⟩ dL_isWell_358 (x_goD (wss2 := [ccO g a b y z, stO g a 10 v, cdW g a 10 c, evW g a 10 e, stO g a 20 u3024.2.1, cdW g a 20 u3024.2.2.1, evW g a 20 u3024.2.2.2]) (stk2 := [.int u3024.1]) rfl rfl ?_)
                                refine x_if_eq (tgt := 368) C dL_isWell_361 (by decide) (fun h3025 => ?_) (fun h3025 => ?_)
                                · have hf := x_t h3025 hf
                                  refine x_iconst (v := 0) C dL_isWell_368 (by decide) ?_
                                  refine x_widen (k := 548) (n := 3288) (by omega) (by omega) ?_
                                  obtain rfl := Option.some.inj hf
                                  exact x_zret C hr rfl ⟨rfl, rfl⟩ dL_isWell_369
                                · have hf := x_f h3025 hf
                                  refine x_iconst (v := 1) C dL_isWell_364 (by decide) ?_
                                  refine x_goto (tgt := 369) C dL_isWell_365 (by decide) ?_
                                  refine x_widen (k := 548) (n := 3288) (by omega) (by omega) ?_
                                  obtain rfl := Option.some.inj hf
                                  exact x_zret C hr rfl ⟨rfl, rfl⟩ dL_isWell_369
                    · have hf := x_t h3014 hf
                      refine x_aload_n C dL_isWell_324 rfl 1 rfl ?_
                      obtain ⟨u3026, hu3026, hf⟩ := x_b hf
                      refine x_callV (n := 0) (As := []) (rest := [.int (0 : Int32)]) C (c_X9_events g l a b y z v e hu3026) ⟨⟨wd_1265, wd_1262, wd_25⟩, ⟨by decide, by decide, by decide⟩, rfl, rfl, Nat.le_of_ble_eq_true rfl, Nat.le_of_ble_eq_true rfl⟩ wd_1263 wd_1264 ⟨0, 10, _, _, rfl, rfl, rfl⟩ [cdW g a 10 c, stO g a 20 u3011.2.1, cdW g a 20 u3011.2.2.1, evW g a 20 u3011.2.2.2] (x_pickD [0, 1, 3, 2, 4, 5, 6] 7 rfl rfl rfl) rfl rfl (Nat.le_of_ble_eq_true rfl) ⟨by show _ ≤ 548; omega, by show _ ≤ 3288; omega⟩ dL_isWell_325 (x_goD (wss2 := [ccO g a b y z, stO g a 10 v, evW g a 10 e, cdW g a 10 c, stO g a 20 u3011.2.1, cdW g a 20 u3011.2.2.1, evW g a 20 u3011.2.2.2]) (stk2 := [.int u3026, .int (0 : Int32)]) rfl rfl ?_)
                      refine x_if_ne (tgt := 335) C dL_isWell_328 (by decide) (fun h3027 => ?_) (fun h3027 => ?_)
                      · have hf := x_f h3027 hf
                        refine x_iconst (v := 0) C dL_isWell_335 (by decide) ?_
                        refine x_icmp_ne (tgt := 368) C dL_isWell_336 (by decide) (fun h3028 => ?_) (fun h3028 => ?_)
                        · have hf := x_f h3028 hf
                          refine x_iconst (v := 0) C dL_isWell_368 (by decide) ?_
                          refine x_perm (wss' := [ccO g a b y z, stO g a 10 v, cdW g a 10 c, evW g a 10 e, stO g a 20 u3011.2.1, cdW g a 20 u3011.2.2.1, evW g a 20 u3011.2.2.2]) (x_pick [0, 1, 3, 2, 4, 5, 6] 7 rfl rfl rfl) ?_
                          refine x_widen (k := 548) (n := 3288) (by omega) (by omega) ?_
                          obtain rfl := Option.some.inj hf
                          exact x_zret C hr rfl ⟨rfl, rfl⟩ dL_isWell_369
                        · have hf := x_t h3028 hf
                          refine x_iload_n C dL_isWell_339 rfl 3 rfl ?_
                          refine x_if_eq (tgt := 357) C dL_isWell_340 (by decide) (fun h3029 => ?_) (fun h3029 => ?_)
                          · have hf := x_t h3029 hf
                            refine x_aload_n C dL_isWell_357 rfl 1 rfl ?_
                            obtain ⟨u3030, hu3030, hf⟩ := x_b hf
                            refine x_callV (n := 0) (As := []) (rest := []) C (c_X9_isConsistent g l a b y z v c e u3011.2.1 u3011.2.2.1 u3011.2.2.2 hu3030) ⟨⟨wd_1378, wd_1375, wd_25⟩, ⟨by decide, by decide, by decide⟩, rfl, rfl, Nat.le_of_ble_eq_true rfl, Nat.le_of_ble_eq_true rfl⟩ wd_1376 wd_1377 ⟨0, 10, _, _, rfl, rfl, rfl⟩ [] (x_pickD [0, 1, 3, 2, 4, 5, 6] 7 rfl rfl rfl) rfl rfl (Nat.le_of_ble_eq_true rfl) ⟨by show _ ≤ 548; omega, by show _ ≤ 3288; omega⟩ dL_isWell_358 (x_goD (wss2 := [ccO g a b y z, stO g a 10 v, cdW g a 10 c, evW g a 10 e, stO g a 20 u3030.2.1, cdW g a 20 u3030.2.2.1, evW g a 20 u3030.2.2.2]) (stk2 := [.int u3030.1]) rfl rfl ?_)
                            refine x_if_eq (tgt := 368) C dL_isWell_361 (by decide) (fun h3031 => ?_) (fun h3031 => ?_)
                            · have hf := x_t h3031 hf
                              refine x_iconst (v := 0) C dL_isWell_368 (by decide) ?_
                              refine x_widen (k := 548) (n := 3288) (by omega) (by omega) ?_
                              obtain rfl := Option.some.inj hf
                              exact x_zret C hr rfl ⟨rfl, rfl⟩ dL_isWell_369
                            · have hf := x_f h3031 hf
                              refine x_iconst (v := 1) C dL_isWell_364 (by decide) ?_
                              refine x_goto (tgt := 369) C dL_isWell_365 (by decide) ?_
                              refine x_widen (k := 548) (n := 3288) (by omega) (by omega) ?_
                              obtain rfl := Option.some.inj hf
                              exact x_zret C hr rfl ⟨rfl, rfl⟩ dL_isWell_369
                          · have hf := x_f h3029 hf
                            refine x_aload_n C dL_isWell_343 rfl 1 rfl ?_
                            refine x_aload_n C dL_isWell_344 rfl 1 rfl ?_
                            obtain ⟨u3032, hu3032, hf⟩ := x_b hf
                            refine x_xcallV (n := 0) (As := []) (rest := [.ref (a 0)]) C (c_X9_loudestVoice g l hl a b y z v c hu3032) ⟨⟨wd_1367, wd_1364, wd_25⟩, ⟨by decide, by decide, by decide⟩, rfl, rfl, Nat.le_of_ble_eq_true rfl, Nat.le_of_ble_eq_true rfl⟩ wd_1365 wd_1366 ⟨0, 10, _, _, rfl, rfl, rfl⟩ [evW g a 10 e, stO g a 20 u3011.2.1, cdW g a 20 u3011.2.2.1, evW g a 20 u3011.2.2.2] (x_pickD [0, 1, 3, 2, 4, 5, 6] 7 rfl rfl rfl) rfl rfl (Nat.le_of_ble_eq_true rfl) ⟨by show _ ≤ 548; omega, by show _ ≤ 3288; omega⟩ dL_isWell_345 (fun E9 w9 hX9 => ?_) (fun v9 w9 hQ9 => ?_)
                            · obtain ⟨k9, hk9, -⟩ := hX9
                              cases x_sl hk9 hf
                            · obtain ⟨r3033, hr9, rfl, rfl⟩ := hQ9
                              have hf := x_sr hr9 hf
                              refine x_goW (wss2 := [ccO g a b y z, stO g a 10 v, cdW g a 10 c, evW g a 10 e, stO g a 20 u3011.2.1, cdW g a 20 u3011.2.2.1, evW g a 20 u3011.2.2.2]) (stk2 := [.int r3033, .ref (a 0)]) rfl rfl rfl ?_
                              obtain ⟨u3034, hu3034, hf⟩ := x_b hf
                              refine x_xcallV (n := 1) (As := [.int r3033]) (rest := []) C (c_X9_sounding g l hl a b y z v c r3033 hu3034) ⟨⟨wd_1332, wd_1329, wd_25⟩, ⟨by decide, by decide, by decide⟩, rfl, rfl, Nat.le_of_ble_eq_true rfl, Nat.le_of_ble_eq_true rfl⟩ wd_1330 wd_1331 ⟨0, 10, _, _, rfl, rfl, rfl⟩ [evW g a 10 e, stO g a 20 u3011.2.1, cdW g a 20 u3011.2.2.1, evW g a 20 u3011.2.2.2] (x_pickD [0, 1, 2, 3, 4, 5, 6] 7 rfl rfl rfl) rfl rfl (Nat.le_of_ble_eq_true rfl) ⟨by show _ ≤ 548; omega, by show _ ≤ 3288; omega⟩ dL_isWell_348 (fun E9 w9 hX9 => ?_) (fun v9 w9 hQ9 => ?_)
                              · obtain ⟨k9, hk9, -⟩ := hX9
                                cases x_sl hk9 hf
                              · obtain ⟨r3035, hr9, rfl, rfl⟩ := hQ9
                                have hf := x_sr hr9 hf
                                refine x_goW (wss2 := [ccO g a b y z, stO g a 10 v, cdW g a 10 c, evW g a 10 e, stO g a 20 u3011.2.1, cdW g a 20 u3011.2.2.1, evW g a 20 u3011.2.2.2]) (stk2 := [.int r3035]) rfl rfl rfl ?_
                                refine x_iconst (v := 4) C dL_isWell_351 (by decide) ?_
                                refine x_imul C dL_isWell_352 ?_
                                refine x_iload_n C dL_isWell_353 rfl 3 rfl ?_
                                refine x_icmp_lt (tgt := 368) C dL_isWell_354 (by decide) (fun h3036 => ?_) (fun h3036 => ?_)
                                · have hf := x_t h3036 hf
                                  refine x_iconst (v := 0) C dL_isWell_368 (by decide) ?_
                                  refine x_widen (k := 548) (n := 3288) (by omega) (by omega) ?_
                                  obtain rfl := Option.some.inj hf
                                  exact x_zret C hr rfl ⟨rfl, rfl⟩ dL_isWell_369
                                · have hf := x_f h3036 hf
                                  refine x_aload_n C dL_isWell_357 rfl 1 rfl ?_
                                  obtain ⟨u3037, hu3037, hf⟩ := x_b hf
                                  refine x_callV (n := 0) (As := []) (rest := []) C (c_X9_isConsistent g l a b y z v c e u3011.2.1 u3011.2.2.1 u3011.2.2.2 hu3037) ⟨⟨wd_1378, wd_1375, wd_25⟩, ⟨by decide, by decide, by decide⟩, rfl, rfl, Nat.le_of_ble_eq_true rfl, Nat.le_of_ble_eq_true rfl⟩ wd_1376 wd_1377 ⟨0, 10, _, _, rfl, rfl, rfl⟩ [] (x_pickD [0, 1, 2, 3, 4, 5, 6] 7 rfl rfl rfl) rfl rfl (Nat.le_of_ble_eq_true rfl) ⟨by show _ ≤ 548; omega, by show _ ≤ 3288; omega⟩ dL_isWell_358 (x_goD (wss2 := [ccO g a b y z, stO g a 10 v, cdW g a 10 c, evW g a 10 e, stO g a 20 u3037.2.1, cdW g a 20 u3037.2.2.1, evW g a 20 u3037.2.2.2]) (stk2 := [.int u3037.1]) rfl rfl ?_)
                                  refine x_if_eq (tgt := 368) C dL_isWell_361 (by decide) (fun h3038 => ?_) (fun h3038 => ?_)
                                  · have hf := x_t h3038 hf
                                    refine x_iconst (v := 0) C dL_isWell_368 (by decide) ?_
                                    refine x_widen (k := 548) (n := 3288) (by omega) (by omega) ?_
                                    obtain rfl := Option.some.inj hf
                                    exact x_zret C hr rfl ⟨rfl, rfl⟩ dL_isWell_369
                                  · have hf := x_f h3038 hf
                                    refine x_iconst (v := 1) C dL_isWell_364 (by decide) ?_
                                    refine x_goto (tgt := 369) C dL_isWell_365 (by decide) ?_
                                    refine x_widen (k := 548) (n := 3288) (by omega) (by omega) ?_
                                    obtain rfl := Option.some.inj hf
                                    exact x_zret C hr rfl ⟨rfl, rfl⟩ dL_isWell_369
                      · have hf := x_t h3027 hf
                        refine x_iconst (v := 1) C dL_isWell_331 (by decide) ?_
                        refine x_goto (tgt := 336) C dL_isWell_332 (by decide) ?_
                        refine x_icmp_ne (tgt := 368) C dL_isWell_336 (by decide) (fun h3039 => ?_) (fun h3039 => ?_)
                        · have hf := x_f h3039 hf
                          refine x_iconst (v := 0) C dL_isWell_368 (by decide) ?_
                          refine x_perm (wss' := [ccO g a b y z, stO g a 10 v, cdW g a 10 c, evW g a 10 e, stO g a 20 u3011.2.1, cdW g a 20 u3011.2.2.1, evW g a 20 u3011.2.2.2]) (x_pick [0, 1, 3, 2, 4, 5, 6] 7 rfl rfl rfl) ?_
                          refine x_widen (k := 548) (n := 3288) (by omega) (by omega) ?_
                          obtain rfl := Option.some.inj hf
                          exact x_zret C hr rfl ⟨rfl, rfl⟩ dL_isWell_369
                        · have hf := x_t h3039 hf
                          refine x_iload_n C dL_isWell_339 rfl 3 rfl ?_
                          refine x_if_eq (tgt := 357) C dL_isWell_340 (by decide) (fun h3040 => ?_) (fun h3040 => ?_)
                          · have hf := x_t h3040 hf
                            refine x_aload_n C dL_isWell_357 rfl 1 rfl ?_
                            obtain ⟨u3041, hu3041, hf⟩ := x_b hf
                            refine x_callV (n := 0) (As := []) (rest := []) C (c_X9_isConsistent g l a b y z v c e u3011.2.1 u3011.2.2.1 u3011.2.2.2 hu3041) ⟨⟨wd_1378, wd_1375, wd_25⟩, ⟨by decide, by decide, by decide⟩, rfl, rfl, Nat.le_of_ble_eq_true rfl, Nat.le_of_ble_eq_true rfl⟩ wd_1376 wd_1377 ⟨0, 10, _, _, rfl, rfl, rfl⟩ [] (x_pickD [0, 1, 3, 2, 4, 5, 6] 7 rfl rfl rfl) rfl rfl (Nat.le_of_ble_eq_true rfl) ⟨by show _ ≤ 548; omega, by show _ ≤ 3288; omega⟩ dL_isWell_358 (x_goD (wss2 := [ccO g a b y z, stO g a 10 v, cdW g a 10 c, evW g a 10 e, stO g a 20 u3041.2.1, cdW g a 20 u3041.2.2.1, evW g a 20 u3041.2.2.2]) (stk2 := [.int u3041.1]) rfl rfl ?_)
                            refine x_if_eq (tgt := 368) C dL_isWell_361 (by decide) (fun h3042 => ?_) (fun h3042 => ?_)
                            · have hf := x_t h3042 hf
                              refine x_iconst (v := 0) C dL_isWell_368 (by decide) ?_
                              refine x_widen (k := 548) (n := 3288) (by omega) (by omega) ?_
                              obtain rfl := Option.some.inj hf
                              exact x_zret C hr rfl ⟨rfl, rfl⟩ dL_isWell_369
                            · have hf := x_f h3042 hf
                              refine x_iconst (v := 1) C dL_isWell_364 (by decide) ?_
                              refine x_goto (tgt := 369) C dL_isWell_365 (by decide) ?_
                              refine x_widen (k := 548) (n := 3288) (by omega) (by omega) ?_
                              obtain rfl := Option.some.inj hf
                              exact x_zret C hr rfl ⟨rfl, rfl⟩ dL_isWell_369
                          · have hf := x_f h3040 hf
                            refine x_aload_n C dL_isWell_343 rfl 1 rfl ?_
                            refine x_aload_n C dL_isWell_344 rfl 1 rfl ?_
                            obtain ⟨u3043, hu3043, hf⟩ := x_b hf
                            refine x_xcallV (n := 0) (As := []) (rest := [.ref (a 0)]) C (c_X9_loudestVoice g l hl a b y z v c hu3043) ⟨⟨wd_1367, wd_1364, wd_25⟩, ⟨by decide, by decide, by decide⟩, rfl, rfl, Nat.le_of_ble_eq_true rfl, Nat.le_of_ble_eq_true rfl⟩ wd_1365 wd_1366 ⟨0, 10, _, _, rfl, rfl, rfl⟩ [evW g a 10 e, stO g a 20 u3011.2.1, cdW g a 20 u3011.2.2.1, evW g a 20 u3011.2.2.2] (x_pickD [0, 1, 3, 2, 4, 5, 6] 7 rfl rfl rfl) rfl rfl (Nat.le_of_ble_eq_true rfl) ⟨by show _ ≤ 548; omega, by show _ ≤ 3288; omega⟩ dL_isWell_345 (fun E9 w9 hX9 => ?_) (fun v9 w9 hQ9 => ?_)
                            · obtain ⟨k9, hk9, -⟩ := hX9
                              cases x_sl hk9 hf
                            · obtain ⟨r3044, hr9, rfl, rfl⟩ := hQ9
                              have hf := x_sr hr9 hf
                              refine x_goW (wss2 := [ccO g a b y z, stO g a 10 v, cdW g a 10 c, evW g a 10 e, stO g a 20 u3011.2.1, cdW g a 20 u3011.2.2.1, evW g a 20 u3011.2.2.2]) (stk2 := [.int r3044, .ref (a 0)]) rfl rfl rfl ?_
                              obtain ⟨u3045, hu3045, hf⟩ := x_b hf
                              refine x_xcallV (n := 1) (As := [.int r3044]) (rest := []) C (c_X9_sounding g l hl a b y z v c r3044 hu3045) ⟨⟨wd_1332, wd_1329, wd_25⟩, ⟨by decide, by decide, by decide⟩, rfl, rfl, Nat.le_of_ble_eq_true rfl, Nat.le_of_ble_eq_true rfl⟩ wd_1330 wd_1331 ⟨0, 10, _, _, rfl, rfl, rfl⟩ [evW g a 10 e, stO g a 20 u3011.2.1, cdW g a 20 u3011.2.2.1, evW g a 20 u3011.2.2.2] (x_pickD [0, 1, 2, 3, 4, 5, 6] 7 rfl rfl rfl) rfl rfl (Nat.le_of_ble_eq_true rfl) ⟨by show _ ≤ 548; omega, by show _ ≤ 3288; omega⟩ dL_isWell_348 (fun E9 w9 hX9 => ?_) (fun v9 w9 hQ9 => ?_)
                              · obtain ⟨k9, hk9, -⟩ := hX9
                                cases x_sl hk9 hf
                              · obtain ⟨r3046, hr9, rfl, rfl⟩ := hQ9
                                have hf := x_sr hr9 hf
                                refine x_goW (wss2 := [ccO g a b y z, stO g a 10 v, cdW g a 10 c, evW g a 10 e, stO g a 20 u3011.2.1, cdW g a 20 u3011.2.2.1, evW g a 20 u3011.2.2.2]) (stk2 := [.int r3046]) rfl rfl rfl ?_
                                refine x_iconst (v := 4) C dL_isWell_351 (by decide) ?_
                                refine x_imul C dL_isWell_352 ?_
                                refine x_iload_n C dL_isWell_353 rfl 3 rfl ?_
                                refine x_icmp_lt (tgt := 368) C dL_isWell_354 (by decide) (fun h3047 => ?_) (fun h3047 => ?_)
                                · have hf := x_t h3047 hf
                                  refine x_iconst (v := 0) C dL_isWell_368 (by decide) ?_
                                  refine x_widen (k := 548) (n := 3288) (by omega) (by omega) ?_
                                  obtain rfl := Option.some.inj hf
                                  exact x_zret C hr rfl ⟨rfl, rfl⟩ dL_isWell_369
                                · have hf := x_f h3047 hf
                                  refine x_aload_n C dL_isWell_357 rfl 1 rfl ?_
                                  obtain ⟨u3048, hu3048, hf⟩ := x_b hf
                                  refine x_callV (n := 0) (As := []) (rest := []) C (c_X9_isConsistent g l a b y z v c e u3011.2.1 u3011.2.2.1 u3011.2.2.2 hu3048) ⟨⟨wd_1378, wd_1375, wd_25⟩, ⟨by decide, by decide, by decide⟩, rfl, rfl, Nat.le_of_ble_eq_true rfl, Nat.le_of_ble_eq_true rfl⟩ wd_1376 wd_1377 ⟨0, 10, _, _, rfl, rfl, rfl⟩ [] (x_pickD [0, 1, 2, 3, 4, 5, 6] 7 rfl rfl rfl) rfl rfl (Nat.le_of_ble_eq_true rfl) ⟨by show _ ≤ 548; omega, by show _ ≤ 3288; omega⟩ dL_isWell_358 (x_goD (wss2 := [ccO g a b y z, stO g a 10 v, cdW g a 10 c, evW g a 10 e, stO g a 20 u3048.2.1, cdW g a 20 u3048.2.2.1, evW g a 20 u3048.2.2.2]) (stk2 := [.int u3048.1]) rfl rfl ?_)
                                  refine x_if_eq (tgt := 368) C dL_isWell_361 (by decide) (fun h3049 => ?_) (fun h3049 => ?_)
                                  · have hf := x_t h3049 hf
                                    refine x_iconst (v := 0) C dL_isWell_368 (by decide) ?_
                                    refine x_widen (k := 548) (n := 3288) (by omega) (by omega) ?_
                                    obtain rfl := Option.some.inj hf
                                    exact x_zret C hr rfl ⟨rfl, rfl⟩ dL_isWell_369
                                  · have hf := x_f h3049 hf
                                    refine x_iconst (v := 1) C dL_isWell_364 (by decide) ?_
                                    refine x_goto (tgt := 369) C dL_isWell_365 (by decide) ?_
                                    refine x_widen (k := 548) (n := 3288) (by omega) (by omega) ?_
                                    obtain rfl := Option.some.inj hf
                                    exact x_zret C hr rfl ⟨rfl, rfl⟩ dL_isWell_369
                  · have hf := x_t h3013 hf
                    refine x_iconst (v := 1) C dL_isWell_315 (by decide) ?_
                    refine x_goto (tgt := 320) C dL_isWell_316 (by decide) ?_
                    refine x_iload_n C dL_isWell_320 rfl 3 rfl ?_
                    refine x_if_ne (tgt := 335) C dL_isWell_321 (by decide) (fun h3050 => ?_) (fun h3050 => ?_)
                    · have hf := x_f h3050 hf
                      refine x_iconst (v := 0) C dL_isWell_335 (by decide) ?_
                      refine x_icmp_ne (tgt := 368) C dL_isWell_336 (by decide) (fun h3051 => ?_) (fun h3051 => ?_)
                      · have hf := x_f h3051 hf
                        refine x_iconst (v := 0) C dL_isWell_368 (by decide) ?_
                        refine x_widen (k := 548) (n := 3288) (by omega) (by omega) ?_
                        obtain rfl := Option.some.inj hf
                        exact x_zret C hr rfl ⟨rfl, rfl⟩ dL_isWell_369
                      · have hf := x_t h3051 hf
                        refine x_iload_n C dL_isWell_339 rfl 3 rfl ?_
                        refine x_if_eq (tgt := 357) C dL_isWell_340 (by decide) (fun h3052 => ?_) (fun h3052 => ?_)
                        · have hf := x_t h3052 hf
                          refine x_aload_n C dL_isWell_357 rfl 1 rfl ?_
                          obtain ⟨u3053, hu3053, hf⟩ := x_b hf
                          refine x_callV (n := 0) (As := []) (rest := []) C (c_X9_isConsistent g l a b y z v c e u3011.2.1 u3011.2.2.1 u3011.2.2.2 hu3053) ⟨⟨wd_1378, wd_1375, wd_25⟩, ⟨by decide, by decide, by decide⟩, rfl, rfl, Nat.le_of_ble_eq_true rfl, Nat.le_of_ble_eq_true rfl⟩ wd_1376 wd_1377 ⟨0, 10, _, _, rfl, rfl, rfl⟩ [] (x_pickD [0, 1, 2, 3, 4, 5, 6] 7 rfl rfl rfl) rfl rfl (Nat.le_of_ble_eq_true rfl) ⟨by show _ ≤ 548; omega, by show _ ≤ 3288; omega⟩ dL_isWell_358 (x_goD (wss2 := [ccO g a b y z, stO g a 10 v, cdW g a 10 c, evW g a 10 e, stO g a 20 u3053.2.1, cdW g a 20 u3053.2.2.1, evW g a 20 u3053.2.2.2]) (stk2 := [.int u3053.1]) rfl rfl ?_)
                          refine x_if_eq (tgt := 368) C dL_isWell_361 (by decide) (fun h3054 => ?_) (fun h3054 => ?_)
                          · have hf := x_t h3054 hf
                            refine x_iconst (v := 0) C dL_isWell_368 (by decide) ?_
                            refine x_widen (k := 548) (n := 3288) (by omega) (by omega) ?_
                            obtain rfl := Option.some.inj hf
                            exact x_zret C hr rfl ⟨rfl, rfl⟩ dL_isWell_369
                          · have hf := x_f h3054 hf
                            refine x_iconst (v := 1) C dL_isWell_364 (by decide) ?_
                            refine x_goto (tgt := 369) C dL_isWell_365 (by decide) ?_
                            refine x_widen (k := 548) (n := 3288) (by omega) (by omega) ?_
                            obtain rfl := Option.some.inj hf
                            exact x_zret C hr rfl ⟨rfl, rfl⟩ dL_isWell_369
                        · have hf := x_f h3052 hf
                          refine x_aload_n C dL_isWell_343 rfl 1 rfl ?_
                          refine x_aload_n C dL_isWell_344 rfl 1 rfl ?_
                          obtain ⟨u3055, hu3055, hf⟩ := x_b hf
                          refine x_xcallV (n := 0) (As := []) (rest := [.ref (a 0)]) C (c_X9_loudestVoice g l hl a b y z v c hu3055) ⟨⟨wd_1367, wd_1364, wd_25⟩, ⟨by decide, by decide, by decide⟩, rfl, rfl, Nat.le_of_ble_eq_true rfl, Nat.le_of_ble_eq_true rfl⟩ wd_1365 wd_1366 ⟨0, 10, _, _, rfl, rfl, rfl⟩ [evW g a 10 e, stO g a 20 u3011.2.1, cdW g a 20 u3011.2.2.1, evW g a 20 u3011.2.2.2] (x_pickD [0, 1, 2, 3, 4, 5, 6] 7 rfl rfl rfl) rfl rfl (Nat.le_of_ble_eq_true rfl) ⟨by show _ ≤ 548; omega, by show _ ≤ 3288; omega⟩ dL_isWell_345 (fun E9 w9 hX9 => ?_) (fun v9 w9 hQ9 => ?_)
                          · obtain ⟨k9, hk9, -⟩ := hX9
                            cases x_sl hk9 hf
                          · obtain ⟨r3056, hr9, rfl, rfl⟩ := hQ9
                            have hf := x_sr hr9 hf
                            refine x_goW (wss2 := [ccO g a b y z, stO g a 10 v, cdW g a 10 c, evW g a 10 e, stO g a 20 u3011.2.1, cdW g a 20 u3011.2.2.1, evW g a 20 u3011.2.2.2]) (stk2 := [.int r3056, .ref (a 0)]) rfl rfl rfl ?_
                            obtain ⟨u3057, hu3057, hf⟩ := x_b hf
                            refine x_xcallV (n := 1) (As := [.int r3056]) (rest := []) C (c_X9_sounding g l hl a b y z v c r3056 hu3057) ⟨⟨wd_1332, wd_1329, wd_25⟩, ⟨by decide, by decide, by decide⟩, rfl, rfl, Nat.le_of_ble_eq_true rfl, Nat.le_of_ble_eq_true rfl⟩ wd_1330 wd_1331 ⟨0, 10, _, _, rfl, rfl, rfl⟩ [evW g a 10 e, stO g a 20 u3011.2.1, cdW g a 20 u3011.2.2.1, evW g a 20 u3011.2.2.2] (x_pickD [0, 1, 2, 3, 4, 5, 6] 7 rfl rfl rfl) rfl rfl (Nat.le_of_ble_eq_true rfl) ⟨by show _ ≤ 548; omega, by show _ ≤ 3288; omega⟩ dL_isWell_348 (fun E9 w9 hX9 => ?_) (fun v9 w9 hQ9 => ?_)
                            · obtain ⟨k9, hk9, -⟩ := hX9
                              cases x_sl hk9 hf
                            · obtain ⟨r3058, hr9, rfl, rfl⟩ := hQ9
                              have hf := x_sr hr9 hf
                              refine x_goW (wss2 := [ccO g a b y z, stO g a 10 v, cdW g a 10 c, evW g a 10 e, stO g a 20 u3011.2.1, cdW g a 20 u3011.2.2.1, evW g a 20 u3011.2.2.2]) (stk2 := [.int r3058]) rfl rfl rfl ?_
                              refine x_iconst (v := 4) C dL_isWell_351 (by decide) ?_
                              refine x_imul C dL_isWell_352 ?_
                              refine x_iload_n C dL_isWell_353 rfl 3 rfl ?_
                              refine x_icmp_lt (tgt := 368) C dL_isWell_354 (by decide) (fun h3059 => ?_) (fun h3059 => ?_)
                              · have hf := x_t h3059 hf
                                refine x_iconst (v := 0) C dL_isWell_368 (by decide) ?_
                                refine x_widen (k := 548) (n := 3288) (by omega) (by omega) ?_
                                obtain rfl := Option.some.inj hf
                                exact x_zret C hr rfl ⟨rfl, rfl⟩ dL_isWell_369
                              · have hf := x_f h3059 hf
                                refine x_aload_n C dL_isWell_357 rfl 1 rfl ?_
                                obtain ⟨u3060, hu3060, hf⟩ := x_b hf
                                refine x_callV (n := 0) (As := []) (rest := []) C (c_X9_isConsistent g l a b y z v c e u3011.2.1 u3011.2.2.1 u3011.2.2.2 hu3060) ⟨⟨wd_1378, wd_1375, wd_25⟩, ⟨by decide, by decide, by decide⟩, rfl, rfl, Nat.le_of_ble_eq_true rfl, Nat.le_of_ble_eq_true rfl⟩ wd_1376 wd_1377 ⟨0, 10, _, _, rfl, rfl, rfl⟩ [] (x_pickD [0, 1, 2, 3, 4, 5, 6] 7 rfl rfl rfl) rfl rfl (Nat.le_of_ble_eq_true rfl) ⟨by show _ ≤ 548; omega, by show _ ≤ 3288; omega⟩ dL_isWell_358 (x_goD (wss2 := [ccO g a b y z, stO g a 10 v, cdW g a 10 c, evW g a 10 e, stO g a 20 u3060.2.1, cdW g a 20 u3060.2.2.1, evW g a 20 u3060.2.2.2]) (stk2 := [.int u3060.1]) rfl rfl ?_)
                                refine x_if_eq (tgt := 368) C dL_isWell_361 (by decide) (fun h3061 => ?_) (fun h3061 => ?_)
                                · have hf := x_t h3061 hf
                                  refine x_iconst (v := 0) C dL_isWell_368 (by decide) ?_
                                  refine x_widen (k := 548) (n := 3288) (by omega) (by omega) ?_
                                  obtain rfl := Option.some.inj hf
                                  exact x_zret C hr rfl ⟨rfl, rfl⟩ dL_isWell_369
                                · have hf := x_f h3061 hf
                                  refine x_iconst (v := 1) C dL_isWell_364 (by decide) ?_
                                  refine x_goto (tgt := 369) C dL_isWell_365 (by decide) ?_
                                  refine x_widen (k := 548) (n := 3288) (by omega) (by omega) ?_
                                  obtain rfl := Option.some.inj hf
                                  exact x_zret C hr rfl ⟨rfl, rfl⟩ dL_isWell_369
                    · have hf := x_t h3050 hf
                      refine x_aload_n C dL_isWell_324 rfl 1 rfl ?_
                      obtain ⟨u3062, hu3062, hf⟩ := x_b hf
                      refine x_callV (n := 0) (As := []) (rest := [.int (1 : Int32)]) C (c_X9_events g l a b y z v e hu3062) ⟨⟨wd_1265, wd_1262, wd_25⟩, ⟨by decide, by decide, by decide⟩, rfl, rfl, Nat.le_of_ble_eq_true rfl, Nat.le_of_ble_eq_true rfl⟩ wd_1263 wd_1264 ⟨0, 10, _, _, rfl, rfl, rfl⟩ [cdW g a 10 c, stO g a 20 u3011.2.1, cdW g a 20 u3011.2.2.1, evW g a 20 u3011.2.2.2] (x_pickD [0, 1, 3, 2, 4, 5, 6] 7 rfl rfl rfl) rfl rfl (Nat.le_of_ble_eq_true rfl) ⟨by show _ ≤ 548; omega, by show _ ≤ 3288; omega⟩ dL_isWell_325 (x_goD (wss2 := [ccO g a b y z, stO g a 10 v, evW g a 10 e, cdW g a 10 c, stO g a 20 u3011.2.1, cdW g a 20 u3011.2.2.1, evW g a 20 u3011.2.2.2]) (stk2 := [.int u3062, .int (1 : Int32)]) rfl rfl ?_)
                      refine x_if_ne (tgt := 335) C dL_isWell_328 (by decide) (fun h3063 => ?_) (fun h3063 => ?_)
                      · have hf := x_f h3063 hf
                        refine x_iconst (v := 0) C dL_isWell_335 (by decide) ?_
                        refine x_icmp_ne (tgt := 368) C dL_isWell_336 (by decide) (fun h3064 => ?_) (fun h3064 => ?_)
                        · have hf := x_f h3064 hf
                          refine x_iconst (v := 0) C dL_isWell_368 (by decide) ?_
                          refine x_perm (wss' := [ccO g a b y z, stO g a 10 v, cdW g a 10 c, evW g a 10 e, stO g a 20 u3011.2.1, cdW g a 20 u3011.2.2.1, evW g a 20 u3011.2.2.2]) (x_pick [0, 1, 3, 2, 4, 5, 6] 7 rfl rfl rfl) ?_
                          refine x_widen (k := 548) (n := 3288) (by omega) (by omega) ?_
                          obtain rfl := Option.some.inj hf
                          exact x_zret C hr rfl ⟨rfl, rfl⟩ dL_isWell_369
                        · have hf := x_t h3064 hf
                          refine x_iload_n C dL_isWell_339 rfl 3 rfl ?_
                          refine x_if_eq (tgt := 357) C dL_isWell_340 (by decide) (fun h3065 => ?_) (fun h3065 => ?_)
                          · have hf := x_t h3065 hf
                            refine x_aload_n C dL_isWell_357 rfl 1 rfl ?_
                            obtain ⟨u3066, hu3066, hf⟩ := x_b hf
                            refine x_callV (n := 0) (As := []) (rest := []) C (c_X9_isConsistent g l a b y z v c e u3011.2.1 u3011.2.2.1 u3011.2.2.2 hu3066) ⟨⟨wd_1378, wd_1375, wd_25⟩, ⟨by decide, by decide, by decide⟩, rfl, rfl, Nat.le_of_ble_eq_true rfl, Nat.le_of_ble_eq_true rfl⟩ wd_1376 wd_1377 ⟨0, 10, _, _, rfl, rfl, rfl⟩ [] (x_pickD [0, 1, 3, 2, 4, 5, 6] 7 rfl rfl rfl) rfl rfl (Nat.le_of_ble_eq_true rfl) ⟨by show _ ≤ 548; omega, by show _ ≤ 3288; omega⟩ dL_isWell_358 (x_goD (wss2 := [ccO g a b y z, stO g a 10 v, cdW g a 10 c, evW g a 10 e, stO g a 20 u3066.2.1, cdW g a 20 u3066.2.2.1, evW g a 20 u3066.2.2.2]) (stk2 := [.int u3066.1]) rfl rfl ?_)
                            refine x_if_eq (tgt := 368) C dL_isWell_361 (by decide) (fun h3067 => ?_) (fun h3067 => ?_)
                            · have hf := x_t h3067 hf
                              refine x_iconst (v := 0) C dL_isWell_368 (by decide) ?_
                              refine x_widen (k := 548) (n := 3288) (by omega) (by omega) ?_
                              obtain rfl := Option.some.inj hf
                              exact x_zret C hr rfl ⟨rfl, rfl⟩ dL_isWell_369
                            · have hf := x_f h3067 hf
                              refine x_iconst (v := 1) C dL_isWell_364 (by decide) ?_
                              refine x_goto (tgt := 369) C dL_isWell_365 (by decide) ?_
                              refine x_widen (k := 548) (n := 3288) (by omega) (by omega) ?_
                              obtain rfl := Option.some.inj hf
                              exact x_zret C hr rfl ⟨rfl, rfl⟩ dL_isWell_369
                          · have hf := x_f h3065 hf
                            refine x_aload_n C dL_isWell_343 rfl 1 rfl ?_
                            refine x_aload_n C dL_isWell_344 rfl 1 rfl ?_
                            obtain ⟨u3068, hu3068, hf⟩ := x_b hf
                            refine x_xcallV (n := 0) (As := []) (rest := [.ref (a 0)]) C (c_X9_loudestVoice g l hl a b y z v c hu3068) ⟨⟨wd_1367, wd_1364, wd_25⟩, ⟨by decide, by decide, by decide⟩, rfl, rfl, Nat.le_of_ble_eq_true rfl, Nat.le_of_ble_eq_true rfl⟩ wd_1365 wd_1366 ⟨0, 10, _, _, rfl, rfl, rfl⟩ [evW g a 10 e, stO g a 20 u3011.2.1, cdW g a 20 u3011.2.2.1, evW g a 20 u3011.2.2.2] (x_pickD [0, 1, 3, 2, 4, 5, 6] 7 rfl rfl rfl) rfl rfl (Nat.le_of_ble_eq_true rfl) ⟨by show _ ≤ 548; omega, by show _ ≤ 3288; omega⟩ dL_isWell_345 (fun E9 w9 hX9 => ?_) (fun v9 w9 hQ9 => ?_)
                            · obtain ⟨k9, hk9, -⟩ := hX9
                              cases x_sl hk9 hf
                            · obtain ⟨r3069, hr9, rfl, rfl⟩ := hQ9
                              have hf := x_sr hr9 hf
                              refine x_goW (wss2 := [ccO g a b y z, stO g a 10 v, cdW g a 10 c, evW g a 10 e, stO g a 20 u3011.2.1, cdW g a 20 u3011.2.2.1, evW g a 20 u3011.2.2.2]) (stk2 := [.int r3069, .ref (a 0)]) rfl rfl rfl ?_
                              obtain ⟨u3070, hu3070, hf⟩ := x_b hf
                              refine x_xcallV (n := 1) (As := [.int r3069]) (rest := []) C (c_X9_sounding g l hl a b y z v c r3069 hu3070) ⟨⟨wd_1332, wd_1329, wd_25⟩, ⟨by decide, by decide, by decide⟩, rfl, rfl, Nat.le_of_ble_eq_true rfl, Nat.le_of_ble_eq_true rfl⟩ wd_1330 wd_1331 ⟨0, 10, _, _, rfl, rfl, rfl⟩ [evW g a 10 e, stO g a 20 u3011.2.1, cdW g a 20 u3011.2.2.1, evW g a 20 u3011.2.2.2] (x_pickD [0, 1, 2, 3, 4, 5, 6] 7 rfl rfl rfl) rfl rfl (Nat.le_of_ble_eq_true rfl) ⟨by show _ ≤ 548; omega, by show _ ≤ 3288; omega⟩ dL_isWell_348 (fun E9 w9 hX9 => ?_) (fun v9 w9 hQ9 => ?_)
                              · obtain ⟨k9, hk9, -⟩ := hX9
                                cases x_sl hk9 hf
                              · obtain ⟨r3071, hr9, rfl, rfl⟩ := hQ9
                                have hf := x_sr hr9 hf
                                refine x_goW (wss2 := [ccO g a b y z, stO g a 10 v, cdW g a 10 c, evW g a 10 e, stO g a 20 u3011.2.1, cdW g a 20 u3011.2.2.1, evW g a 20 u3011.2.2.2]) (stk2 := [.int r3071]) rfl rfl rfl ?_
                                refine x_iconst (v := 4) C dL_isWell_351 (by decide) ?_
                                refine x_imul C dL_isWell_352 ?_
                                refine x_iload_n C dL_isWell_353 rfl 3 rfl ?_
                                refine x_icmp_lt (tgt := 368) C dL_isWell_354 (by decide) (fun h3072 => ?_) (fun h3072 => ?_)
                                · have hf := x_t h3072 hf
                                  refine x_iconst (v := 0) C dL_isWell_368 (by decide) ?_
                                  refine x_widen (k := 548) (n := 3288) (by omega) (by omega) ?_
                                  obtain rfl := Option.some.inj hf
                                  exact x_zret C hr rfl ⟨rfl, rfl⟩ dL_isWell_369
                                · have hf := x_f h3072 hf
                                  refine x_aload_n C dL_isWell_357 rfl 1 rfl ?_
                                  obtain ⟨u3073, hu3073, hf⟩ := x_b hf
                                  refine x_callV (n := 0) (As := []) (rest := []) C (c_X9_isConsistent g l a b y z v c e u3011.2.1 u3011.2.2.1 u3011.2.2.2 hu3073) ⟨⟨wd_1378, wd_1375, wd_25⟩, ⟨by decide, by decide, by decide⟩, rfl, rfl, Nat.le_of_ble_eq_true rfl, Nat.le_of_ble_eq_true rfl⟩ wd_1376 wd_1377 ⟨0, 10, _, _, rfl, rfl, rfl⟩ [] (x_pickD [0, 1, 2, 3, 4, 5, 6] 7 rfl rfl rfl) rfl rfl (Nat.le_of_ble_eq_true rfl) ⟨by show _ ≤ 548; omega, by show _ ≤ 3288; omega⟩ dL_isWell_358 (x_goD (wss2 := [ccO g a b y z, stO g a 10 v, cdW g a 10 c, evW g a 10 e, stO g a 20 u3073.2.1, cdW g a 20 u3073.2.2.1, evW g a 20 u3073.2.2.2]) (stk2 := [.int u3073.1]) rfl rfl ?_)
                                  refine x_if_eq (tgt := 368) C dL_isWell_361 (by decide) (fun h3074 => ?_) (fun h3074 => ?_)
                                  · have hf := x_t h3074 hf
                                    refine x_iconst (v := 0) C dL_isWell_368 (by decide) ?_
                                    refine x_widen (k := 548) (n := 3288) (by omega) (by omega) ?_
                                    obtain rfl := Option.some.inj hf
                                    exact x_zret C hr rfl ⟨rfl, rfl⟩ dL_isWell_369
                                  · have hf := x_f h3074 hf
                                    refine x_iconst (v := 1) C dL_isWell_364 (by decide) ?_
                                    refine x_goto (tgt := 369) C dL_isWell_365 (by decide) ?_
                                    refine x_widen (k := 548) (n := 3288) (by omega) (by omega) ?_
                                    obtain rfl := Option.some.inj hf
                                    exact x_zret C hr rfl ⟨rfl, rfl⟩ dL_isWell_369
                      · have hf := x_t h3063 hf
                        refine x_iconst (v := 1) C dL_isWell_331 (by decide) ?_
                        refine x_goto (tgt := 336) C dL_isWell_332 (by decide) ?_
                        refine x_icmp_ne (tgt := 368) C dL_isWell_336 (by decide) (fun h3075 => ?_) (fun h3075 => ?_)
                        · have hf := x_f h3075 hf
                          refine x_iconst (v := 0) C dL_isWell_368 (by decide) ?_
                          refine x_perm (wss' := [ccO g a b y z, stO g a 10 v, cdW g a 10 c, evW g a 10 e, stO g a 20 u3011.2.1, cdW g a 20 u3011.2.2.1, evW g a 20 u3011.2.2.2]) (x_pick [0, 1, 3, 2, 4, 5, 6] 7 rfl rfl rfl) ?_
                          refine x_widen (k := 548) (n := 3288) (by omega) (by omega) ?_
                          obtain rfl := Option.some.inj hf
                          exact x_zret C hr rfl ⟨rfl, rfl⟩ dL_isWell_369
                        · have hf := x_t h3075 hf
                          refine x_iload_n C dL_isWell_339 rfl 3 rfl ?_
                          refine x_if_eq (tgt := 357) C dL_isWell_340 (by decide) (fun h3076 => ?_) (fun h3076 => ?_)
                          · have hf := x_t h3076 hf
                            refine x_aload_n C dL_isWell_357 rfl 1 rfl ?_
                            obtain ⟨u3077, hu3077, hf⟩ := x_b hf
                            refine x_callV (n := 0) (As := []) (rest := []) C (c_X9_isConsistent g l a b y z v c e u3011.2.1 u3011.2.2.1 u3011.2.2.2 hu3077) ⟨⟨wd_1378, wd_1375, wd_25⟩, ⟨by decide, by decide, by decide⟩, rfl, rfl, Nat.le_of_ble_eq_true rfl, Nat.le_of_ble_eq_true rfl⟩ wd_1376 wd_1377 ⟨0, 10, _, _, rfl, rfl, rfl⟩ [] (x_pickD [0, 1, 3, 2, 4, 5, 6] 7 rfl rfl rfl) rfl rfl (Nat.le_of_ble_eq_true rfl) ⟨by show _ ≤ 548; omega, by show _ ≤ 3288; omega⟩ dL_isWell_358 (x_goD (wss2 := [ccO g a b y z, stO g a 10 v, cdW g a 10 c, evW g a 10 e, stO g a 20 u3077.2.1, cdW g a 20 u3077.2.2.1, evW g a 20 u3077.2.2.2]) (stk2 := [.int u3077.1]) rfl rfl ?_)
                            refine x_if_eq (tgt := 368) C dL_isWell_361 (by decide) (fun h3078 => ?_) (fun h3078 => ?_)
                            · have hf := x_t h3078 hf
                              refine x_iconst (v := 0) C dL_isWell_368 (by decide) ?_
                              refine x_widen (k := 548) (n := 3288) (by omega) (by omega) ?_
                              obtain rfl := Option.some.inj hf
                              exact x_zret C hr rfl ⟨rfl, rfl⟩ dL_isWell_369
                            · have hf := x_f h3078 hf
                              refine x_iconst (v := 1) C dL_isWell_364 (by decide) ?_
                              refine x_goto (tgt := 369) C dL_isWell_365 (by decide) ?_
                              refine x_widen (k := 548) (n := 3288) (by omega) (by omega) ?_
                              obtain rfl := Option.some.inj hf
                              exact x_zret C hr rfl ⟨rfl, rfl⟩ dL_isWell_369
                          · have hf := x_f h3076 hf
                            refine x_aload_n C dL_isWell_343 rfl 1 rfl ?_
                            refine x_aload_n C dL_isWell_344 rfl 1 rfl ?_
                            obtain ⟨u3079, hu3079, hf⟩ := x_b hf
                            refine x_xcallV (n := 0) (As := []) (rest := [.ref (a 0)]) C (c_X9_loudestVoice g l hl a b y z v c hu3079) ⟨⟨wd_1367, wd_1364, wd_25⟩, ⟨by decide, by decide, by decide⟩, rfl, rfl, Nat.le_of_ble_eq_true rfl, Nat.le_of_ble_eq_true rfl⟩ wd_1365 wd_1366 ⟨0, 10, _, _, rfl, rfl, rfl⟩ [evW g a 10 e, stO g a 20 u3011.2.1, cdW g a 20 u3011.2.2.1, evW g a 20 u3011.2.2.2] (x_pickD [0, 1, 3, 2, 4, 5, 6] 7 rfl rfl rfl) rfl rfl (Nat.le_of_ble_eq_true rfl) ⟨by show _ ≤ 548; omega, by show _ ≤ 3288; omega⟩ dL_isWell_345 (fun E9 w9 hX9 => ?_) (fun v9 w9 hQ9 => ?_)
                            · obtain ⟨k9, hk9, -⟩ := hX9
                              cases x_sl hk9 hf
                            · obtain ⟨r3080, hr9, rfl, rfl⟩ := hQ9
                              have hf := x_sr hr9 hf
                              refine x_goW (wss2 := [ccO g a b y z, stO g a 10 v, cdW g a 10 c, evW g a 10 e, stO g a 20 u3011.2.1, cdW g a 20 u3011.2.2.1, evW g a 20 u3011.2.2.2]) (stk2 := [.int r3080, .ref (a 0)]) rfl rfl rfl ?_
                              obtain ⟨u3081, hu3081, hf⟩ := x_b hf
                              refine x_xcallV (n := 1) (As := [.int r3080]) (rest := []) C (c_X9_sounding g l hl a b y z v c r3080 hu3081) ⟨⟨wd_1332, wd_1329, wd_25⟩, ⟨by decide, by decide, by decide⟩, rfl, rfl, Nat.le_of_ble_eq_true rfl, Nat.le_of_ble_eq_true rfl⟩ wd_1330 wd_1331 ⟨0, 10, _, _, rfl, rfl, rfl⟩ [evW g a 10 e, stO g a 20 u3011.2.1, cdW g a 20 u3011.2.2.1, evW g a 20 u3011.2.2.2] (x_pickD [0, 1, 2, 3, 4, 5, 6] 7 rfl rfl rfl) rfl rfl (Nat.le_of_ble_eq_true rfl) ⟨by show _ ≤ 548; omega, by show _ ≤ 3288; omega⟩ dL_isWell_348 (fun E9 w9 hX9 => ?_) (fun v9 w9 hQ9 => ?_)
                              · obtain ⟨k9, hk9, -⟩ := hX9
                                cases x_sl hk9 hf
                              · obtain ⟨r3082, hr9, rfl, rfl⟩ := hQ9
                                have hf := x_sr hr9 hf
                                refine x_goW (wss2 := [ccO g a b y z, stO g a 10 v, cdW g a 10 c, evW g a 10 e, stO g a 20 u3011.2.1, cdW g a 20 u3011.2.2.1, evW g a 20 u3011.2.2.2]) (stk2 := [.int r3082]) rfl rfl rfl ?_
                                refine x_iconst (v := 4) C dL_isWell_351 (by decide) ?_
                                refine x_imul C dL_isWell_352 ?_
                                refine x_iload_n C dL_isWell_353 rfl 3 rfl ?_
                                refine x_icmp_lt (tgt := 368) C dL_isWell_354 (by decide) (fun h3083 => ?_) (fun h3083 => ?_)
                                · have hf := x_t h3083 hf
                                  refine x_iconst (v := 0) C dL_isWell_368 (by decide) ?_
                                  refine x_widen (k := 548) (n := 3288) (by omega) (by omega) ?_
                                  obtain rfl := Option.some.inj hf
                                  exact x_zret C hr rfl ⟨rfl, rfl⟩ dL_isWell_369
                                · have hf := x_f h3083 hf
                                  refine x_aload_n C dL_isWell_357 rfl 1 rfl ?_
                                  obtain ⟨u3084, hu3084, hf⟩ := x_b hf
                                  refine x_callV (n := 0) (As := []) (rest := []) C (c_X9_isConsistent g l a b y z v c e u3011.2.1 u3011.2.2.1 u3011.2.2.2 hu3084) ⟨⟨wd_1378, wd_1375, wd_25⟩, ⟨by decide, by decide, by decide⟩, rfl, rfl, Nat.le_of_ble_eq_true rfl, Nat.le_of_ble_eq_true rfl⟩ wd_1376 wd_1377 ⟨0, 10, _, _, rfl, rfl, rfl⟩ [] (x_pickD [0, 1, 2, 3, 4, 5, 6] 7 rfl rfl rfl) rfl rfl (Nat.le_of_ble_eq_true rfl) ⟨by show _ ≤ 548; omega, by show _ ≤ 3288; omega⟩ dL_isWell_358 (x_goD (wss2 := [ccO g a b y z, stO g a 10 v, cdW g a 10 c, evW g a 10 e, stO g a 20 u3084.2.1, cdW g a 20 u3084.2.2.1, evW g a 20 u3084.2.2.2]) (stk2 := [.int u3084.1]) rfl rfl ?_)
                                  refine x_if_eq (tgt := 368) C dL_isWell_361 (by decide) (fun h3085 => ?_) (fun h3085 => ?_)
                                  · have hf := x_t h3085 hf
                                    refine x_iconst (v := 0) C dL_isWell_368 (by decide) ?_
                                    refine x_widen (k := 548) (n := 3288) (by omega) (by omega) ?_
                                    obtain rfl := Option.some.inj hf
                                    exact x_zret C hr rfl ⟨rfl, rfl⟩ dL_isWell_369
                                  · have hf := x_f h3085 hf
                                    refine x_iconst (v := 1) C dL_isWell_364 (by decide) ?_
                                    refine x_goto (tgt := 369) C dL_isWell_365 (by decide) ?_
                                    refine x_widen (k := 548) (n := 3288) (by omega) (by omega) ?_
                                    obtain rfl := Option.some.inj hf
                                    exact x_zret C hr rfl ⟨rfl, rfl⟩ dL_isWell_369
      · have hf := x_f h3002 hf
        refine x_aload_n C dL_isWell_207 rfl 0 rfl ?_
        refine x_iload C dL_isWell_208 4 rfl ?_
        obtain ⟨u3086, hu3086, hf⟩ := x_b hf
        refine x_xcallV (n := 1) (As := [.int x5]) (rest := []) C (c_X9_eventMinute g l hl a b y z v e x5 hu3086) ⟨⟨wd_1305, wd_1302, wd_25⟩, ⟨by decide, by decide, by decide⟩, rfl, rfl, Nat.le_of_ble_eq_true rfl, Nat.le_of_ble_eq_true rfl⟩ wd_1303 wd_1304 ⟨0, 10, _, _, rfl, rfl, rfl⟩ [cdW g a 10 c, stO g a 20 v2L, cdW g a 20 c2L, evW g a 20 e2L] (x_pickD [0, 1, 2, 3, 4, 5, 6] 7 rfl rfl rfl) rfl rfl (Nat.le_of_ble_eq_true rfl) ⟨by show _ ≤ 548; omega, by show _ ≤ 3288; omega⟩ dL_isWell_210 (fun E9 w9 hX9 => ?_) (fun v9 w9 hQ9 => ?_)
        · obtain ⟨k9, hk9, -⟩ := hX9
          cases x_sl hk9 hf
        · obtain ⟨r3087, hr9, rfl, rfl⟩ := hQ9
          have hf := x_sr hr9 hf
          refine x_goW (wss2 := [ccO g a b y z, stO g a 10 v, evW g a 10 e, cdW g a 10 c, stO g a 20 v2L, cdW g a 20 c2L, evW g a 20 e2L]) (stk2 := [.int r3087]) rfl rfl rfl ?_
          refine x_aload_n C dL_isWell_213 rfl 0 rfl ?_
          obtain ⟨u3088, hu3088, hf⟩ := x_b hf
          refine x_callV (n := 0) (As := []) (rest := [.int r3087]) C (c_X9_time g l a b y z v hu3088) ⟨⟨wd_156, wd_153, wd_25⟩, ⟨by decide, by decide, by decide⟩, rfl, rfl, Nat.le_of_ble_eq_true rfl, Nat.le_of_ble_eq_true rfl⟩ wd_154 wd_155 ⟨0, 10, _, _, rfl, rfl, rfl⟩ [evW g a 10 e, cdW g a 10 c, stO g a 20 v2L, cdW g a 20 c2L, evW g a 20 e2L] (x_pickD [0, 1, 2, 3, 4, 5, 6] 7 rfl rfl rfl) rfl rfl (Nat.le_of_ble_eq_true rfl) ⟨by show _ ≤ 548; omega, by show _ ≤ 3288; omega⟩ dL_isWell_214 (x_goD (wss2 := [ccO g a b y z, stO g a 10 v, evW g a 10 e, cdW g a 10 c, stO g a 20 v2L, cdW g a 20 c2L, evW g a 20 e2L]) (stk2 := [.int u3088, .int r3087]) rfl rfl ?_)
          refine x_icmp_le (tgt := 255) C dL_isWell_217 (by decide) (fun h3089 => ?_) (fun h3089 => ?_)
          · have hf := x_t h3089 hf
            refine x_iconst (v := 0) C dL_isWell_255 (by decide) ?_
            refine x_perm (wss' := [ccO g a b y z, stO g a 10 v, cdW g a 10 c, evW g a 10 e, stO g a 20 v2L, cdW g a 20 c2L, evW g a 20 e2L]) (x_pick [0, 1, 3, 2, 4, 5, 6] 7 rfl rfl rfl) ?_
            refine x_widen (k := 548) (n := 3288) (by omega) (by omega) ?_
            obtain rfl := Option.some.inj hf
            exact x_zret C hr rfl ⟨rfl, rfl⟩ dL_isWell_256
          · have hf := x_f h3089 hf
            refine x_iload C dL_isWell_220 4 rfl ?_
            refine x_if_le (tgt := 242) C dL_isWell_222 (by decide) (fun h3090 => ?_) (fun h3090 => ?_)
            · have hf := x_t h3090 hf
              refine x_aload_n C dL_isWell_242 rfl 0 rfl ?_
              refine x_iload C dL_isWell_243 4 rfl ?_
              obtain ⟨u3091, hu3091, hf⟩ := x_b hf
              refine x_xcallV (n := 1) (As := [.int x5]) (rest := []) C (c_X9_eventCandle g l hl a b y z v e x5 hu3091) ⟨⟨wd_1309, wd_1306, wd_25⟩, ⟨by decide, by decide, by decide⟩, rfl, rfl, Nat.le_of_ble_eq_true rfl, Nat.le_of_ble_eq_true rfl⟩ wd_1307 wd_1308 ⟨0, 10, _, _, rfl, rfl, rfl⟩ [cdW g a 10 c, stO g a 20 v2L, cdW g a 20 c2L, evW g a 20 e2L] (x_pickD [0, 1, 2, 3, 4, 5, 6] 7 rfl rfl rfl) rfl rfl (Nat.le_of_ble_eq_true rfl) ⟨by show _ ≤ 548; omega, by show _ ≤ 3288; omega⟩ dL_isWell_245 (fun E9 w9 hX9 => ?_) (fun v9 w9 hQ9 => ?_)
              · obtain ⟨k9, hk9, -⟩ := hX9
                cases x_sl hk9 hf
              · obtain ⟨r3092, hr9, rfl, rfl⟩ := hQ9
                have hf := x_sr hr9 hf
                refine x_goW (wss2 := [ccO g a b y z, stO g a 10 v, evW g a 10 e, cdW g a 10 c, stO g a 20 v2L, cdW g a 20 c2L, evW g a 20 e2L]) (stk2 := [.int r3092]) rfl rfl rfl ?_
                refine x_aload_n C dL_isWell_248 rfl 0 rfl ?_
                obtain ⟨u3093, hu3093, hf⟩ := x_b hf
                refine x_callV (n := 0) (As := []) (rest := [.int r3092]) C (c_X9_candles g l a b y z v c hu3093) ⟨⟨wd_1261, wd_1258, wd_25⟩, ⟨by decide, by decide, by decide⟩, rfl, rfl, Nat.le_of_ble_eq_true rfl, Nat.le_of_ble_eq_true rfl⟩ wd_1259 wd_1260 ⟨0, 10, _, _, rfl, rfl, rfl⟩ [evW g a 10 e, stO g a 20 v2L, cdW g a 20 c2L, evW g a 20 e2L] (x_pickD [0, 1, 3, 2, 4, 5, 6] 7 rfl rfl rfl) rfl rfl (Nat.le_of_ble_eq_true rfl) ⟨by show _ ≤ 548; omega, by show _ ≤ 3288; omega⟩ dL_isWell_249 (x_goD (wss2 := [ccO g a b y z, stO g a 10 v, cdW g a 10 c, evW g a 10 e, stO g a 20 v2L, cdW g a 20 c2L, evW g a 20 e2L]) (stk2 := [.int u3093, .int r3092]) rfl rfl ?_)
                refine x_icmp_lt (tgt := 257) C dL_isWell_252 (by decide) (fun h3094 => ?_) (fun h3094 => ?_)
                · have hf := x_t h3094 hf
                  refine x_iinc (v := x5 + 1) (lv' := [(5, .int (x5 + 1)), (0, .ref (a 0)), (1, .long x1), (3, .int x3), (4, .int x4)]) C dL_isWell_257 4 rfl rfl (by decide) rfl ?_
                  refine x_goto (tgt := 198) C dL_isWell_260 (by decide) ?_
                  refine x_locals (lv' := [(0, .ref (a 0)), (1, .long x1), (3, .int x3), (4, .int x4), (5, .int (x5 + 1))]) [1, 2, 3, 4, 0] rfl ?_
                  refine x_widen (k := kW + 4) (n := tW + 24) (by omega) (by omega) ?_
                  exact ih (kW + 4) (tW + 24) v2L c2L e2L x1 x3 x4 (x5 + 1) (by omega) (by omega) hf
                · have hf := x_f h3094 hf
                  refine x_iconst (v := 0) C dL_isWell_255 (by decide) ?_
                  refine x_widen (k := 548) (n := 3288) (by omega) (by omega) ?_
                  obtain rfl := Option.some.inj hf
                  exact x_zret C hr rfl ⟨rfl, rfl⟩ dL_isWell_256
            · have hf := x_f h3090 hf
              refine x_aload_n C dL_isWell_225 rfl 0 rfl ?_
              refine x_iload C dL_isWell_226 4 rfl ?_
              obtain ⟨u3095, hu3095, hf⟩ := x_b hf
              refine x_xcallV (n := 1) (As := [.int x5]) (rest := []) C (c_X9_eventMinute g l hl a b y z v e x5 hu3095) ⟨⟨wd_1305, wd_1302, wd_25⟩, ⟨by decide, by decide, by decide⟩, rfl, rfl, Nat.le_of_ble_eq_true rfl, Nat.le_of_ble_eq_true rfl⟩ wd_1303 wd_1304 ⟨0, 10, _, _, rfl, rfl, rfl⟩ [cdW g a 10 c, stO g a 20 v2L, cdW g a 20 c2L, evW g a 20 e2L] (x_pickD [0, 1, 2, 3, 4, 5, 6] 7 rfl rfl rfl) rfl rfl (Nat.le_of_ble_eq_true rfl) ⟨by show _ ≤ 548; omega, by show _ ≤ 3288; omega⟩ dL_isWell_228 (fun E9 w9 hX9 => ?_) (fun v9 w9 hQ9 => ?_)
              · obtain ⟨k9, hk9, -⟩ := hX9
                cases x_sl hk9 hf
              · obtain ⟨r3096, hr9, rfl, rfl⟩ := hQ9
                have hf := x_sr hr9 hf
                refine x_goW (wss2 := [ccO g a b y z, stO g a 10 v, evW g a 10 e, cdW g a 10 c, stO g a 20 v2L, cdW g a 20 c2L, evW g a 20 e2L]) (stk2 := [.int r3096]) rfl rfl rfl ?_
                refine x_aload_n C dL_isWell_231 rfl 0 rfl ?_
                refine x_iload C dL_isWell_232 4 rfl ?_
                refine x_iconst (v := 1) C dL_isWell_234 (by decide) ?_
                refine x_isub C dL_isWell_235 ?_
                obtain ⟨u3097, hu3097, hf⟩ := x_b hf
                refine x_xcallV (n := 1) (As := [.int (x5 - (1 : Int32))]) (rest := [.int r3096]) C (c_X9_eventMinute g l hl a b y z v e (x5 - (1 : Int32)) hu3097) ⟨⟨wd_1305, wd_1302, wd_25⟩, ⟨by decide, by decide, by decide⟩, rfl, rfl, Nat.le_of_ble_eq_true rfl, Nat.le_of_ble_eq_true rfl⟩ wd_1303 wd_1304 ⟨0, 10, _, _, rfl, rfl, rfl⟩ [cdW g a 10 c, stO g a 20 v2L, cdW g a 20 c2L, evW g a 20 e2L] (x_pickD [0, 1, 2, 3, 4, 5, 6] 7 rfl rfl rfl) rfl rfl (Nat.le_of_ble_eq_true rfl) ⟨by show _ ≤ 548; omega, by show _ ≤ 3288; omega⟩ dL_isWell_236 (fun E9 w9 hX9 => ?_) (fun v9 w9 hQ9 => ?_)
                · obtain ⟨k9, hk9, -⟩ := hX9
                  cases x_sl hk9 hf
                · obtain ⟨r3098, hr9, rfl, rfl⟩ := hQ9
                  have hf := x_sr hr9 hf
                  refine x_goW (wss2 := [ccO g a b y z, stO g a 10 v, evW g a 10 e, cdW g a 10 c, stO g a 20 v2L, cdW g a 20 c2L, evW g a 20 e2L]) (stk2 := [.int r3098, .int r3096]) rfl rfl rfl ?_
                  refine x_icmp_lt (tgt := 255) C dL_isWell_239 (by decide) (fun h3099 => ?_) (fun h3099 => ?_)
                  · have hf := x_t h3099 hf
                    refine x_iconst (v := 0) C dL_isWell_255 (by decide) ?_
                    refine x_perm (wss' := [ccO g a b y z, stO g a 10 v, cdW g a 10 c, evW g a 10 e, stO g a 20 v2L, cdW g a 20 c2L, evW g a 20 e2L]) (x_pick [0, 1, 3, 2, 4, 5, 6] 7 rfl rfl rfl) ?_
                    refine x_widen (k := 548) (n := 3288) (by omega) (by omega) ?_
                    obtain rfl := Option.some.inj hf
                    exact x_zret C hr rfl ⟨rfl, rfl⟩ dL_isWell_256
                  · have hf := x_f h3099 hf
                    refine x_aload_n C dL_isWell_242 rfl 0 rfl ?_
                    refine x_iload C dL_isWell_243 4 rfl ?_
                    obtain ⟨u3100, hu3100, hf⟩ := x_b hf
                    refine x_xcallV (n := 1) (As := [.int x5]) (rest := []) C (c_X9_eventCandle g l hl a b y z v e x5 hu3100) ⟨⟨wd_1309, wd_1306, wd_25⟩, ⟨by decide, by decide, by decide⟩, rfl, rfl, Nat.le_of_ble_eq_true rfl, Nat.le_of_ble_eq_true rfl⟩ wd_1307 wd_1308 ⟨0, 10, _, _, rfl, rfl, rfl⟩ [cdW g a 10 c, stO g a 20 v2L, cdW g a 20 c2L, evW g a 20 e2L] (x_pickD [0, 1, 2, 3, 4, 5, 6] 7 rfl rfl rfl) rfl rfl (Nat.le_of_ble_eq_true rfl) ⟨by show _ ≤ 548; omega, by show _ ≤ 3288; omega⟩ dL_isWell_245 (fun E9 w9 hX9 => ?_) (fun v9 w9 hQ9 => ?_)
                    · obtain ⟨k9, hk9, -⟩ := hX9
                      cases x_sl hk9 hf
                    · obtain ⟨r3101, hr9, rfl, rfl⟩ := hQ9
                      have hf := x_sr hr9 hf
                      refine x_goW (wss2 := [ccO g a b y z, stO g a 10 v, evW g a 10 e, cdW g a 10 c, stO g a 20 v2L, cdW g a 20 c2L, evW g a 20 e2L]) (stk2 := [.int r3101]) rfl rfl rfl ?_
                      refine x_aload_n C dL_isWell_248 rfl 0 rfl ?_
                      obtain ⟨u3102, hu3102, hf⟩ := x_b hf
                      refine x_callV (n := 0) (As := []) (rest := [.int r3101]) C (c_X9_candles g l a b y z v c hu3102) ⟨⟨wd_1261, wd_1258, wd_25⟩, ⟨by decide, by decide, by decide⟩, rfl, rfl, Nat.le_of_ble_eq_true rfl, Nat.le_of_ble_eq_true rfl⟩ wd_1259 wd_1260 ⟨0, 10, _, _, rfl, rfl, rfl⟩ [evW g a 10 e, stO g a 20 v2L, cdW g a 20 c2L, evW g a 20 e2L] (x_pickD [0, 1, 3, 2, 4, 5, 6] 7 rfl rfl rfl) rfl rfl (Nat.le_of_ble_eq_true rfl) ⟨by show _ ≤ 548; omega, by show _ ≤ 3288; omega⟩ dL_isWell_249 (x_goD (wss2 := [ccO g a b y z, stO g a 10 v, cdW g a 10 c, evW g a 10 e, stO g a 20 v2L, cdW g a 20 c2L, evW g a 20 e2L]) (stk2 := [.int u3102, .int r3101]) rfl rfl ?_)
                      refine x_icmp_lt (tgt := 257) C dL_isWell_252 (by decide) (fun h3103 => ?_) (fun h3103 => ?_)
                      · have hf := x_t h3103 hf
                        refine x_iinc (v := x5 + 1) (lv' := [(5, .int (x5 + 1)), (0, .ref (a 0)), (1, .long x1), (3, .int x3), (4, .int x4)]) C dL_isWell_257 4 rfl rfl (by decide) rfl ?_
                        refine x_goto (tgt := 198) C dL_isWell_260 (by decide) ?_
                        refine x_locals (lv' := [(0, .ref (a 0)), (1, .long x1), (3, .int x3), (4, .int x4), (5, .int (x5 + 1))]) [1, 2, 3, 4, 0] rfl ?_
                        refine x_widen (k := kW + 4) (n := tW + 24) (by omega) (by omega) ?_
                        exact ih (kW + 4) (tW + 24) v2L c2L e2L x1 x3 x4 (x5 + 1) (by omega) (by omega) hf
                      · have hf := x_f h3103 hf
                        refine x_iconst (v := 0) C dL_isWell_255 (by decide) ?_
                        refine x_widen (k := 548) (n := 3288) (by omega) (by omega) ?_
                        obtain rfl := Option.some.inj hf
                        exact x_zret C hr rfl ⟨rfl, rfl⟩ dL_isWell_256
  have hL167 : ∀ (nW kW tW : Nat) (v2L : StS) (c2L : CdT) (e2L : EvT) (x1 : Int64) (x3 : Int32) (x4 : Int32) (x5 : Int32), kW + 1 * nW + 132 ≤ 548 → tW + 6 * nW + 792 ≤ 3288 → f_Q_isWell_167 nW z v c e v2L c2L e2L x1 x3 x4 x5 = some u → VW g (va_A ([ccO g a b y z, stO g a 10 v, cdW g a 10 c, evW g a 10 e, stO g a 20 v2, cdW g a 20 c2, evW g a 20 e2] : List va_W).flatten sW.heap.size) 7 pW l eW ({ frames := 8, cells := 548, slots := 3288, locals := 153 } : Room) sW mW argsW belowW methW c9 kW tW (MQ belowW (xQc g ([ccO g a b y z, stO g a 10 v, cdW g a 10 c, evW g a 10 e, stO g a 20 v2, cdW g a 20 c2, evW g a 20 e2] : List va_W).flatten sW.heap.size (fun v9 w9 => v9 = some (.int u.1) ∧ w9 = ([ccO g a b y z, stO g a 10 v, cdW g a 10 c, evW g a 10 e, stO g a 20 u.2.1, cdW g a 20 u.2.2.1, evW g a 20 u.2.2.2] : List va_W).flatten)) argsW sW 548 3288 (va_A ([ccO g a b y z, stO g a 10 v, cdW g a 10 c, evW g a 10 e, stO g a 20 v2, cdW g a 20 c2, evW g a 20 e2] : List va_W).flatten sW.heap.size)) [ccO g a b y z, stO g a 10 v, cdW g a 10 c, evW g a 10 e, stO g a 20 v2L, cdW g a 20 c2L, evW g a 20 e2L] [(0, .ref (a 0)), (1, .long x1), (3, .int x3), (4, .int x4), (5, .int x5)] 167 [] := by
    intro nW
    induction nW with
    | zero => intro kW tW v2L c2L e2L x1 x3 x4 x5 hkW htW hf; rw [f_Q_isWell_167] at hf; cases hf
    | succ nW ih =>
      intro kW tW v2L c2L e2L x1 x3 x4 x5 hkW htW hf
      rw [f_Q_isWell_167] at hf
      refine x_iload C dL_isWell_167 4 rfl ?_
      refine x_iconst (v := 4) C dL_isWell_169 (by decide) ?_
      refine x_icmp_ge (tgt := 195) C dL_isWell_170 (by decide) (fun h2001 => ?_) (fun h2001 => ?_)
      · have hf := x_t h2001 hf
        refine x_iconst (v := 0) C dL_isWell_195 (by decide) ?_
        refine x_istore (lv' := [(5, .int (0 : Int32)), (0, .ref (a 0)), (1, .long x1), (3, .int x3), (4, .int x4)]) C dL_isWell_196 (by decide) rfl ?_
        refine x_locals (lv' := [(0, .ref (a 0)), (1, .long x1), (3, .int x3), (4, .int x4), (5, .int (0 : Int32))]) [1, 2, 3, 4, 0] rfl ?_
        refine x_widen (k := kW + 0) (n := tW + 0) (by omega) (by omega) ?_
        exact hL198 32 (kW + 0) (tW + 0) v2L c2L e2L x1 x3 x4 (0 : Int32) (by omega) (by omega) hf
      · have hf := x_f h2001 hf
        refine x_iload C dL_isWell_173 3 rfl ?_
        refine x_aload_n C dL_isWell_175 rfl 0 rfl ?_
        refine x_ldcS (tx := "satb") C (CX_str C ("CandleConcertLaw", 98, "satb", 12) (by decide)) dL_isWell_176 ?_
        refine x_iload C dL_isWell_178 4 rfl ?_
        obtain ⟨u2002, hu2002, hf⟩ := x_b hf
        obtain ⟨h2003, hf⟩ := x_y hf
        refine x_callVR (n := 1) (As := [.int x5]) (rest := [.ref (a 0), .int x4]) C (c_J0_charAt_5068e g l 12 x5 hu2002) ⟨⟨wd_1032, wd_1029, wd_36⟩, ⟨by decide, by decide, by decide⟩, rfl, rfl, Nat.le_of_ble_eq_true rfl, Nat.le_of_ble_eq_true rfl⟩ wd_1030 wd_1031 (CX_so C h2003).1 [ccO g a b y z, stO g a 10 v, cdW g a 10 c, evW g a 10 e, stO g a 20 v2L, cdW g a 20 c2L, evW g a 20 e2L] (x_pickD [0, 1, 2, 3, 4, 5, 6] 7 rfl rfl rfl) rfl rfl (Nat.le_of_ble_eq_true rfl) ⟨by show _ ≤ 548; omega, by show _ ≤ 3288; omega⟩ dL_isWell_180 (x_goD (wss2 := [ccO g a b y z, stO g a 10 v, cdW g a 10 c, evW g a 10 e, stO g a 20 v2L, cdW g a 20 c2L, evW g a 20 e2L]) (stk2 := [.int u2002, .ref (a 0), .int x4]) rfl rfl ?_)
        obtain ⟨u2004, hu2004, hf⟩ := x_b hf
        refine x_xcallV (n := 1) (As := [.int u2002]) (rest := [.int x4]) C (c_X9_sounding g l hl a b y z v c u2002 hu2004) ⟨⟨wd_1332, wd_1329, wd_25⟩, ⟨by decide, by decide, by decide⟩, rfl, rfl, Nat.le_of_ble_eq_true rfl, Nat.le_of_ble_eq_true rfl⟩ wd_1330 wd_1331 ⟨0, 10, _, _, rfl, rfl, rfl⟩ [evW g a 10 e, stO g a 20 v2L, cdW g a 20 c2L, evW g a 20 e2L] (x_pickD [0, 1, 2, 3, 4, 5, 6] 7 rfl rfl rfl) rfl rfl (Nat.le_of_ble_eq_true rfl) ⟨by show _ ≤ 548; omega, by show _ ≤ 3288; omega⟩ dL_isWell_183 (fun E9 w9 hX9 => ?_) (fun v9 w9 hQ9 => ?_)
        · obtain ⟨k9, hk9, -⟩ := hX9
          cases x_sl hk9 hf
        · obtain ⟨r2005, hr9, rfl, rfl⟩ := hQ9
          have hf := x_sr hr9 hf
          refine x_goW (wss2 := [ccO g a b y z, stO g a 10 v, cdW g a 10 c, evW g a 10 e, stO g a 20 v2L, cdW g a 20 c2L, evW g a 20 e2L]) (stk2 := [.int r2005, .int x4]) rfl rfl rfl ?_
          refine x_iadd C dL_isWell_186 ?_
          refine x_istore (lv' := [(4, .int (x4 + r2005)), (0, .ref (a 0)), (1, .long x1), (3, .int x3), (5, .int x5)]) C dL_isWell_187 (by decide) rfl ?_
          refine x_iinc (v := x5 + 1) (lv' := [(5, .int (x5 + 1)), (4, .int (x4 + r2005)), (0, .ref (a 0)), (1, .long x1), (3, .int x3)]) C dL_isWell_189 4 rfl rfl (by decide) rfl ?_
          refine x_goto (tgt := 167) C dL_isWell_192 (by decide) ?_
          refine x_locals (lv' := [(0, .ref (a 0)), (1, .long x1), (3, .int x3), (4, .int (x4 + r2005)), (5, .int (x5 + 1))]) [2, 3, 4, 1, 0] rfl ?_
          refine x_widen (k := kW + 1) (n := tW + 6) (by omega) (by omega) ?_
          exact ih (kW + 1) (tW + 6) v2L c2L e2L x1 x3 (x4 + r2005) (x5 + 1) (by omega) (by omega) hf
  have hL19 : ∀ (nW kW tW : Nat) (v2L : StS) (c2L : CdT) (e2L : EvT) (x1 : Int64) (x3 : Int32) (x4 : Int32) (x5 : Int32), kW + 12 * nW + 164 ≤ 548 → tW + 72 * nW + 984 ≤ 3288 → f_Q_isWell_19 nW z v c e v2L c2L e2L x1 x3 x4 x5 = some u → VW g (va_A ([ccO g a b y z, stO g a 10 v, cdW g a 10 c, evW g a 10 e, stO g a 20 v2, cdW g a 20 c2, evW g a 20 e2] : List va_W).flatten sW.heap.size) 7 pW l eW ({ frames := 8, cells := 548, slots := 3288, locals := 153 } : Room) sW mW argsW belowW methW c9 kW tW (MQ belowW (xQc g ([ccO g a b y z, stO g a 10 v, cdW g a 10 c, evW g a 10 e, stO g a 20 v2, cdW g a 20 c2, evW g a 20 e2] : List va_W).flatten sW.heap.size (fun v9 w9 => v9 = some (.int u.1) ∧ w9 = ([ccO g a b y z, stO g a 10 v, cdW g a 10 c, evW g a 10 e, stO g a 20 u.2.1, cdW g a 20 u.2.2.1, evW g a 20 u.2.2.2] : List va_W).flatten)) argsW sW 548 3288 (va_A ([ccO g a b y z, stO g a 10 v, cdW g a 10 c, evW g a 10 e, stO g a 20 v2, cdW g a 20 c2, evW g a 20 e2] : List va_W).flatten sW.heap.size)) [ccO g a b y z, stO g a 10 v, cdW g a 10 c, evW g a 10 e, stO g a 20 v2L, cdW g a 20 c2L, evW g a 20 e2L] [(0, .ref (a 0)), (1, .long x1), (3, .int x3), (4, .int x4), (5, .int x5)] 19 [] := by
    intro nW
    induction nW with
    | zero => intro kW tW v2L c2L e2L x1 x3 x4 x5 hkW htW hf; rw [f_Q_isWell_19] at hf; cases hf
    | succ nW ih =>
      intro kW tW v2L c2L e2L x1 x3 x4 x5 hkW htW hf
      rw [f_Q_isWell_19] at hf
      refine x_iload C dL_isWell_19 4 rfl ?_
      refine x_aload_n C dL_isWell_21 rfl 0 rfl ?_
      obtain ⟨u1001, hu1001, hf⟩ := x_b hf
      refine x_callV (n := 0) (As := []) (rest := [.int x5]) C (c_X9_candles g l a b y z v c hu1001) ⟨⟨wd_1261, wd_1258, wd_25⟩, ⟨by decide, by decide, by decide⟩, rfl, rfl, Nat.le_of_ble_eq_true rfl, Nat.le_of_ble_eq_true rfl⟩ wd_1259 wd_1260 ⟨0, 10, _, _, rfl, rfl, rfl⟩ [evW g a 10 e, stO g a 20 v2L, cdW g a 20 c2L, evW g a 20 e2L] (x_pickD [0, 1, 2, 3, 4, 5, 6] 7 rfl rfl rfl) rfl rfl (Nat.le_of_ble_eq_true rfl) ⟨by show _ ≤ 548; omega, by show _ ≤ 3288; omega⟩ dL_isWell_22 (x_goD (wss2 := [ccO g a b y z, stO g a 10 v, cdW g a 10 c, evW g a 10 e, stO g a 20 v2L, cdW g a 20 c2L, evW g a 20 e2L]) (stk2 := [.int u1001, .int x5]) rfl rfl ?_)
      refine x_icmp_ge (tgt := 164) C dL_isWell_25 (by decide) (fun h1002 => ?_) (fun h1002 => ?_)
      · have hf := x_t h1002 hf
        refine x_iconst (v := 0) C dL_isWell_164 (by decide) ?_
        refine x_istore (lv' := [(5, .int (0 : Int32)), (0, .ref (a 0)), (1, .long x1), (3, .int x3), (4, .int x4)]) C dL_isWell_165 (by decide) rfl ?_
        refine x_locals (lv' := [(0, .ref (a 0)), (1, .long x1), (3, .int x3), (4, .int x4), (5, .int (0 : Int32))]) [1, 2, 3, 4, 0] rfl ?_
        refine x_widen (k := kW + 0) (n := tW + 0) (by omega) (by omega) ?_
        exact hL167 32 (kW + 0) (tW + 0) v2L c2L e2L x1 x3 x4 (0 : Int32) (by omega) (by omega) hf
      · have hf := x_f h1002 hf
        refine x_aload_n C dL_isWell_28 rfl 0 rfl ?_
        refine x_iload C dL_isWell_29 4 rfl ?_
        obtain ⟨u1003, hu1003, hf⟩ := x_b hf
        refine x_xcallV (n := 1) (As := [.int x5]) (rest := []) C (c_X9_minutesLeft g l hl a b y z v c x5 hu1003) ⟨⟨wd_61, wd_58, wd_25⟩, ⟨by decide, by decide, by decide⟩, rfl, rfl, Nat.le_of_ble_eq_true rfl, Nat.le_of_ble_eq_true rfl⟩ wd_59 wd_60 ⟨0, 10, _, _, rfl, rfl, rfl⟩ [evW g a 10 e, stO g a 20 v2L, cdW g a 20 c2L, evW g a 20 e2L] (x_pickD [0, 1, 2, 3, 4, 5, 6] 7 rfl rfl rfl) rfl rfl (Nat.le_of_ble_eq_true rfl) ⟨by show _ ≤ 548; omega, by show _ ≤ 3288; omega⟩ dL_isWell_31 (fun E9 w9 hX9 => ?_) (fun v9 w9 hQ9 => ?_)
        · obtain ⟨k9, hk9, -⟩ := hX9
          cases x_sl hk9 hf
        · obtain ⟨r1004, hr9, rfl, rfl⟩ := hQ9
          have hf := x_sr hr9 hf
          refine x_goW (wss2 := [ccO g a b y z, stO g a 10 v, cdW g a 10 c, evW g a 10 e, stO g a 20 v2L, cdW g a 20 c2L, evW g a 20 e2L]) (stk2 := [.int r1004]) rfl rfl rfl ?_
          refine x_istore (lv' := [(6, .int r1004), (0, .ref (a 0)), (1, .long x1), (3, .int x3), (4, .int x4), (5, .int x5)]) C dL_isWell_34 (by decide) rfl ?_
          refine x_lload_n C dL_isWell_36 rfl 2 rfl ?_
          refine x_aload_n C dL_isWell_37 rfl 1 rfl ?_
          refine x_iload C dL_isWell_38 5 rfl ?_
          obtain ⟨u1005, hu1005, hf⟩ := x_b hf
          refine x_xcallV (n := 1) (As := [.int x5]) (rest := [.long x1]) C (c_X9_wax g l hl a b y z v c x5 hu1005) ⟨⟨wd_1293, wd_1290, wd_25⟩, ⟨by decide, by decide, by decide⟩, rfl, rfl, Nat.le_of_ble_eq_true rfl, Nat.le_of_ble_eq_true rfl⟩ wd_1291 wd_1292 ⟨0, 10, _, _, rfl, rfl, rfl⟩ [evW g a 10 e, stO g a 20 v2L, cdW g a 20 c2L, evW g a 20 e2L] (x_pickD [0, 1, 2, 3, 4, 5, 6] 7 rfl rfl rfl) rfl rfl (Nat.le_of_ble_eq_true rfl) ⟨by show _ ≤ 548; omega, by show _ ≤ 3288; omega⟩ dL_isWell_40 (fun E9 w9 hX9 => ?_) (fun v9 w9 hQ9 => ?_)
          · obtain ⟨k9, hk9, -⟩ := hX9
            cases x_sl hk9 hf
          · obtain ⟨r1006, hr9, rfl, rfl⟩ := hQ9
            have hf := x_sr hr9 hf
            refine x_goW (wss2 := [ccO g a b y z, stO g a 10 v, cdW g a 10 c, evW g a 10 e, stO g a 20 v2L, cdW g a 20 c2L, evW g a 20 e2L]) (stk2 := [.int r1006, .long x1]) rfl rfl rfl ?_
            refine x_i2l C dL_isWell_43 rfl ?_
            refine x_ladd C dL_isWell_44 ?_
            refine x_lstore_n (lv' := [(1, .long (x1 + r1006.toInt64)), (6, .int r1004), (0, .ref (a 0)), (3, .int x3), (4, .int x4), (5, .int x5)]) C dL_isWell_45 rfl (by decide) rfl ?_
            refine x_iload_n C dL_isWell_46 rfl 3 rfl ?_
            refine x_aload_n C dL_isWell_47 rfl 2 rfl ?_
            refine x_iload C dL_isWell_48 5 rfl ?_
            obtain ⟨u1007, hu1007, hf⟩ := x_b hf
            refine x_xcallV (n := 1) (As := [.int x5]) (rest := [.int x3]) C (c_X9_isLit g l hl a b y z v c x5 hu1007) ⟨⟨wd_1301, wd_1298, wd_25⟩, ⟨by decide, by decide, by decide⟩, rfl, rfl, Nat.le_of_ble_eq_true rfl, Nat.le_of_ble_eq_true rfl⟩ wd_1299 wd_1300 ⟨0, 10, _, _, rfl, rfl, rfl⟩ [evW g a 10 e, stO g a 20 v2L, cdW g a 20 c2L, evW g a 20 e2L] (x_pickD [0, 1, 2, 3, 4, 5, 6] 7 rfl rfl rfl) rfl rfl (Nat.le_of_ble_eq_true rfl) ⟨by show _ ≤ 548; omega, by show _ ≤ 3288; omega⟩ dL_isWell_50 (fun E9 w9 hX9 => ?_) (fun v9 w9 hQ9 => ?_)
            · obtain ⟨k9, hk9, -⟩ := hX9
              cases x_sl hk9 hf
            · obtain ⟨r1008, hr9, rfl, rfl⟩ := hQ9
              have hf := x_sr hr9 hf
              refine x_goW (wss2 := [ccO g a b y z, stO g a 10 v, cdW g a 10 c, evW g a 10 e, stO g a 20 v2L, cdW g a 20 c2L, evW g a 20 e2L]) (stk2 := [.int r1008, .int x3]) rfl rfl rfl ?_
              refine x_if_eq (tgt := 60) C dL_isWell_53 (by decide) (fun h1009 => ?_) (fun h1009 => ?_)
              · have hf := x_t h1009 hf
                refine x_iconst (v := 0) C dL_isWell_60 (by decide) ?_
                refine x_iadd C dL_isWell_61 ?_
                refine x_istore_n (lv' := [(3, .int (x3 + (0 : Int32))), (1, .long (x1 + r1006.toInt64)), (6, .int r1004), (0, .ref (a 0)), (4, .int x4), (5, .int x5)]) C dL_isWell_62 rfl (by decide) rfl ?_
                refine x_aload_n C dL_isWell_63 rfl 3 rfl ?_
                refine x_iload C dL_isWell_64 5 rfl ?_
                obtain ⟨u1010, hu1010, hf⟩ := x_b hf
                refine x_xcallV (n := 1) (As := [.int x5]) (rest := []) C (c_X9_wax g l hl a b y z v c x5 hu1010) ⟨⟨wd_1293, wd_1290, wd_25⟩, ⟨by decide, by decide, by decide⟩, rfl, rfl, Nat.le_of_ble_eq_true rfl, Nat.le_of_ble_eq_true rfl⟩ wd_1291 wd_1292 ⟨0, 10, _, _, rfl, rfl, rfl⟩ [evW g a 10 e, stO g a 20 v2L, cdW g a 20 c2L, evW g a 20 e2L] (x_pickD [0, 1, 2, 3, 4, 5, 6] 7 rfl rfl rfl) rfl rfl (Nat.le_of_ble_eq_true rfl) ⟨by show _ ≤ 548; omega, by show _ ≤ 3288; omega⟩ dL_isWell_66 (fun E9 w9 hX9 => ?_) (fun v9 w9 hQ9 => ?_)
                · obtain ⟨k9, hk9, -⟩ := hX9
                  cases x_sl hk9 hf
                · obtain ⟨r1011, hr9, rfl, rfl⟩ := hQ9
                  have hf := x_sr hr9 hf
                  refine x_goW (wss2 := [ccO g a b y z, stO g a 10 v, cdW g a 10 c, evW g a 10 e, stO g a 20 v2L, cdW g a 20 c2L, evW g a 20 e2L]) (stk2 := [.int r1011]) rfl rfl rfl ?_
                  refine x_if_lt (tgt := 156) C dL_isWell_69 (by decide) (fun h1012 => ?_) (fun h1012 => ?_)
                  · have hf := x_t h1012 hf
                    refine x_iconst (v := 0) C dL_isWell_156 (by decide) ?_
                    refine x_widen (k := 548) (n := 3288) (by omega) (by omega) ?_
                    obtain rfl := Option.some.inj hf
                    exact x_zret C hr rfl ⟨rfl, rfl⟩ dL_isWell_157
                  · have hf := x_f h1012 hf
                    refine x_aload_n C dL_isWell_72 rfl 3 rfl ?_
                    refine x_iload C dL_isWell_73 5 rfl ?_
                    obtain ⟨u1013, hu1013, hf⟩ := x_b hf
                    refine x_xcallV (n := 1) (As := [.int x5]) (rest := []) C (c_X9_wax g l hl a b y z v c x5 hu1013) ⟨⟨wd_1293, wd_1290, wd_25⟩, ⟨by decide, by decide, by decide⟩, rfl, rfl, Nat.le_of_ble_eq_true rfl, Nat.le_of_ble_eq_true rfl⟩ wd_1291 wd_1292 ⟨0, 10, _, _, rfl, rfl, rfl⟩ [evW g a 10 e, stO g a 20 v2L, cdW g a 20 c2L, evW g a 20 e2L] (x_pickD [0, 1, 2, 3, 4, 5, 6] 7 rfl rfl rfl) rfl rfl (Nat.le_of_ble_eq_true rfl) ⟨by show _ ≤ 548; omega, by show _ ≤ 3288; omega⟩ dL_isWell_75 (fun E9 w9 hX9 => ?_) (fun v9 w9 hQ9 => ?_)
                    · obtain ⟨k9, hk9, -⟩ := hX9
                      cases x_sl hk9 hf
                    · obtain ⟨r1014, hr9, rfl, rfl⟩ := hQ9
                      have hf := x_sr hr9 hf
                      refine x_goW (wss2 := [ccO g a b y z, stO g a 10 v, cdW g a 10 c, evW g a 10 e, stO g a 20 v2L, cdW g a 20 c2L, evW g a 20 e2L]) (stk2 := [.int r1014]) rfl rfl rfl ?_
                      refine x_sipush (v := 999) C dL_isWell_78 (by decide) ?_
                      refine x_icmp_gt (tgt := 156) C dL_isWell_81 (by decide) (fun h1015 => ?_) (fun h1015 => ?_)
                      · have hf := x_t h1015 hf
                        refine x_iconst (v := 0) C dL_isWell_156 (by decide) ?_
                        refine x_widen (k := 548) (n := 3288) (by omega) (by omega) ?_
                        obtain rfl := Option.some.inj hf
                        exact x_zret C hr rfl ⟨rfl, rfl⟩ dL_isWell_157
                      · have hf := x_f h1015 hf
                        refine x_aload_n C dL_isWell_84 rfl 3 rfl ?_
                        refine x_iload C dL_isWell_85 5 rfl ?_
                        obtain ⟨u1016, hu1016, hf⟩ := x_b hf
                        refine x_xcallV (n := 1) (As := [.int x5]) (rest := []) C (c_X9_isLit g l hl a b y z v c x5 hu1016) ⟨⟨wd_1301, wd_1298, wd_25⟩, ⟨by decide, by decide, by decide⟩, rfl, rfl, Nat.le_of_ble_eq_true rfl, Nat.le_of_ble_eq_true rfl⟩ wd_1299 wd_1300 ⟨0, 10, _, _, rfl, rfl, rfl⟩ [evW g a 10 e, stO g a 20 v2L, cdW g a 20 c2L, evW g a 20 e2L] (x_pickD [0, 1, 2, 3, 4, 5, 6] 7 rfl rfl rfl) rfl rfl (Nat.le_of_ble_eq_true rfl) ⟨by show _ ≤ 548; omega, by show _ ≤ 3288; omega⟩ dL_isWell_87 (fun E9 w9 hX9 => ?_) (fun v9 w9 hQ9 => ?_)
                        · obtain ⟨k9, hk9, -⟩ := hX9
                          cases x_sl hk9 hf
                        · obtain ⟨r1017, hr9, rfl, rfl⟩ := hQ9
                          have hf := x_sr hr9 hf
                          refine x_goW (wss2 := [ccO g a b y z, stO g a 10 v, cdW g a 10 c, evW g a 10 e, stO g a 20 v2L, cdW g a 20 c2L, evW g a 20 e2L]) (stk2 := [.int r1017]) rfl rfl rfl ?_
                          refine x_if_eq (tgt := 102) C dL_isWell_90 (by decide) (fun h1018 => ?_) (fun h1018 => ?_)
                          · have hf := x_t h1018 hf
                            refine x_iload C dL_isWell_102 2 rfl ?_
                            refine x_aload_n C dL_isWell_104 rfl 3 rfl ?_
                            refine x_iload C dL_isWell_105 5 rfl ?_
                            obtain ⟨u1019, hu1019, hf⟩ := x_b hf
                            refine x_xcallV (n := 1) (As := [.int x5]) (rest := [.int r1004]) C (c_X9_minutesLeftByBurning g l hl a b y z v c x5 hu1019) ⟨⟨wd_1323, wd_1320, wd_25⟩, ⟨by decide, by decide, by decide⟩, rfl, rfl, Nat.le_of_ble_eq_true rfl, Nat.le_of_ble_eq_true rfl⟩ wd_1321 wd_1322 ⟨0, 10, _, _, rfl, rfl, rfl⟩ [evW g a 10 e, stO g a 20 v2L, cdW g a 20 c2L, evW g a 20 e2L] (x_pickD [0, 1, 2, 3, 4, 5, 6] 7 rfl rfl rfl) rfl rfl (Nat.le_of_ble_eq_true rfl) ⟨by show _ ≤ 548; omega, by show _ ≤ 3288; omega⟩ dL_isWell_107 (fun E9 w9 hX9 => ?_) (fun v9 w9 hQ9 => ?_)
                            · obtain ⟨k9, hk9, -⟩ := hX9
                              cases x_sl hk9 hf
                            · obtain ⟨r1020, hr9, rfl, rfl⟩ := hQ9
                              have hf := x_sr hr9 hf
                              refine x_goW (wss2 := [ccO g a b y z, stO g a 10 v, cdW g a 10 c, evW g a 10 e, stO g a 20 v2L, cdW g a 20 c2L, evW g a 20 e2L]) (stk2 := [.int r1020, .int r1004]) rfl rfl rfl ?_
                              refine x_icmp_ne (tgt := 156) C dL_isWell_110 (by decide) (fun h1021 => ?_) (fun h1021 => ?_)
                              · have hf := x_f h1021 hf
                                refine x_iconst (v := 0) C dL_isWell_156 (by decide) ?_
                                refine x_widen (k := 548) (n := 3288) (by omega) (by omega) ?_
                                obtain rfl := Option.some.inj hf
                                exact x_zret C hr rfl ⟨rfl, rfl⟩ dL_isWell_157
                              · have hf := x_t h1021 hf
                                refine x_iload C dL_isWell_113 2 rfl ?_
                                refine x_aload_n C dL_isWell_115 rfl 3 rfl ?_
                                refine x_iload C dL_isWell_116 5 rfl ?_
                                obtain ⟨u1022, hu1022, hf⟩ := x_b hf
                                refine x_xcallV (n := 1) (As := [.int x5]) (rest := [.int r1004]) C (c_X9_consumption g l hl a b y z v c x5 hu1022) ⟨⟨wd_1297, wd_1294, wd_25⟩, ⟨by decide, by decide, by decide⟩, rfl, rfl, Nat.le_of_ble_eq_true rfl, Nat.le_of_ble_eq_true rfl⟩ wd_1295 wd_1296 ⟨0, 10, _, _, rfl, rfl, rfl⟩ [evW g a 10 e, stO g a 20 v2L, cdW g a 20 c2L, evW g a 20 e2L] (x_pickD [0, 1, 2, 3, 4, 5, 6] 7 rfl rfl rfl) rfl rfl (Nat.le_of_ble_eq_true rfl) ⟨by show _ ≤ 548; omega, by show _ ≤ 3288; omega⟩ dL_isWell_118 (fun E9 w9 hX9 => ?_) (fun v9 w9 hQ9 => ?_)
                                · obtain ⟨k9, hk9, -⟩ := hX9
                                  cases x_sl hk9 hf
                                · obtain ⟨r1023, hr9, rfl, rfl⟩ := hQ9
                                  have hf := x_sr hr9 hf
                                  refine x_goW (wss2 := [ccO g a b y z, stO g a 10 v, cdW g a 10 c, evW g a 10 e, stO g a 20 v2L, cdW g a 20 c2L, evW g a 20 e2L]) (stk2 := [.int r1023, .int r1004]) rfl rfl rfl ?_
                                  refine x_imul C dL_isWell_121 ?_
                                  refine x_aload_n C dL_isWell_122 rfl 3 rfl ?_
                                  refine x_iload C dL_isWell_123 5 rfl ?_
                                  obtain ⟨u1024, hu1024, hf⟩ := x_b hf
                                  refine x_xcallV (n := 1) (As := [.int x5]) (rest := [.int (r1004 * r1023)]) C (c_X9_wax g l hl a b y z v c x5 hu1024) ⟨⟨wd_1293, wd_1290, wd_25⟩, ⟨by decide, by decide, by decide⟩, rfl, rfl, Nat.le_of_ble_eq_true rfl, Nat.le_of_ble_eq_true rfl⟩ wd_1291 wd_1292 ⟨0, 10, _, _, rfl, rfl, rfl⟩ [evW g a 10 e, stO g a 20 v2L, cdW g a 20 c2L, evW g a 20 e2L] (x_pickD [0, 1, 2, 3, 4, 5, 6] 7 rfl rfl rfl) rfl rfl (Nat.le_of_ble_eq_true rfl) ⟨by show _ ≤ 548; omega, by show _ ≤ 3288; omega⟩ dL_isWell_125 (fun E9 w9 hX9 => ?_) (fun v9 w9 hQ9 => ?_)
                                  · obtain ⟨k9, hk9, -⟩ := hX9
                                    cases x_sl hk9 hf
                                  · obtain ⟨r1025, hr9, rfl, rfl⟩ := hQ9
                                    have hf := x_sr hr9 hf
                                    refine x_goW (wss2 := [ccO g a b y z, stO g a 10 v, cdW g a 10 c, evW g a 10 e, stO g a 20 v2L, cdW g a 20 c2L, evW g a 20 e2L]) (stk2 := [.int r1025, .int (r1004 * r1023)]) rfl rfl rfl ?_
                                    refine x_icmp_lt (tgt := 156) C dL_isWell_128 (by decide) (fun h1026 => ?_) (fun h1026 => ?_)
                                    · have hf := x_t h1026 hf
                                      refine x_iconst (v := 0) C dL_isWell_156 (by decide) ?_
                                      refine x_widen (k := 548) (n := 3288) (by omega) (by omega) ?_
                                      obtain rfl := Option.some.inj hf
                                      exact x_zret C hr rfl ⟨rfl, rfl⟩ dL_isWell_157
                                    · have hf := x_f h1026 hf
                                      refine x_iload C dL_isWell_131 2 rfl ?_
                                      refine x_iconst (v := 1) C dL_isWell_133 (by decide) ?_
                                      refine x_isub C dL_isWell_134 ?_
                                      refine x_aload_n C dL_isWell_135 rfl 3 rfl ?_
                                      refine x_iload C dL_isWell_136 5 rfl ?_
                                      obtain ⟨u1027, hu1027, hf⟩ := x_b hf
                                      refine x_xcallV (n := 1) (As := [.int x5]) (rest := [.int (r1004 - (1 : Int32))]) C (c_X9_consumption g l hl a b y z v c x5 hu1027) ⟨⟨wd_1297, wd_1294, wd_25⟩, ⟨by decide, by decide, by decide⟩, rfl, rfl, Nat.le_of_ble_eq_true rfl, Nat.le_of_ble_eq_true rfl⟩ wd_1295 wd_1296 ⟨0, 10, _, _, rfl, rfl, rfl⟩ [evW g a 10 e, stO g a 20 v2L, cdW g a 20 c2L, evW g a 20 e2L] (x_pickD [0, 1, 2, 3, 4, 5, 6] 7 rfl rfl rfl) rfl rfl (Nat.le_of_ble_eq_true rfl) ⟨by show _ ≤ 548; omega, by show _ ≤ 3288; omega⟩ dL_isWell_138 (fun E9 w9 hX9 => ?_) (fun v9 w9 hQ9 => ?_)
                                      · obtain ⟨k9, hk9, -⟩ := hX9
                                        cases x_sl hk9 hf
                                      · obtain ⟨r1028, hr9, rfl, rfl⟩ := hQ9
                                        have hf := x_sr hr9 hf
                                        refine x_goW (wss2 := [ccO g a b y z, stO g a 10 v, cdW g a 10 c, evW g a 10 e, stO g a 20 v2L, cdW g a 20 c2L, evW g a 20 e2L]) (stk2 := [.int r1028, .int (r1004 - (1 : Int32))]) rfl rfl rfl ?_
                                        refine x_imul C dL_isWell_141 ?_
                                        refine x_aload_n C dL_isWell_142 rfl 3 rfl ?_
                                        refine x_iload C dL_isWell_143 5 rfl ?_
                                        obtain ⟨u1029, hu1029, hf⟩ := x_b hf
                                        refine x_xcallV (n := 1) (As := [.int x5]) (rest := [.int ((r1004 - (1 : Int32)) * r1028)]) C (c_X9_wax g l hl a b y z v c x5 hu1029) ⟨⟨wd_1293, wd_1290, wd_25⟩, ⟨by decide, by decide, by decide⟩, rfl, rfl, Nat.le_of_ble_eq_true rfl, Nat.le_of_ble_eq_true rfl⟩ wd_1291 wd_1292 ⟨0, 10, _, _, rfl, rfl, rfl⟩ [evW g a 10 e, stO g a 20 v2L, cdW g a 20 c2L, evW g a 20 e2L] (x_pickD [0, 1, 2, 3, 4, 5, 6] 7 rfl rfl rfl) rfl rfl (Nat.le_of_ble_eq_true rfl) ⟨by show _ ≤ 548; omega, by show _ ≤ 3288; omega⟩ dL_isWell_145 (fun E9 w9 hX9 => ?_) (fun v9 w9 hQ9 => ?_)
                                        · obtain ⟨k9, hk9, -⟩ := hX9
                                          cases x_sl hk9 hf
                                        · obtain ⟨r1030, hr9, rfl, rfl⟩ := hQ9
                                          have hf := x_sr hr9 hf
                                          refine x_goW (wss2 := [ccO g a b y z, stO g a 10 v, cdW g a 10 c, evW g a 10 e, stO g a 20 v2L, cdW g a 20 c2L, evW g a 20 e2L]) (stk2 := [.int r1030, .int ((r1004 - (1 : Int32)) * r1028)]) rfl rfl rfl ?_
                                          refine x_icmp_lt (tgt := 158) C dL_isWell_148 (by decide) (fun h1031 => ?_) (fun h1031 => ?_)
                                          · have hf := x_t h1031 hf
                                            refine x_iinc (v := x5 + 1) (lv' := [(5, .int (x5 + 1)), (3, .int (x3 + (0 : Int32))), (1, .long (x1 + r1006.toInt64)), (6, .int r1004), (0, .ref (a 0)), (4, .int x4)]) C dL_isWell_158 5 rfl rfl (by decide) rfl ?_
                                            refine x_goto (tgt := 19) C dL_isWell_161 (by decide) ?_
                                            refine x_locals (lv' := [(0, .ref (a 0)), (1, .long (x1 + r1006.toInt64)), (3, .int (x3 + (0 : Int32))), (4, .int x4), (5, .int (x5 + 1))]) [4, 2, 1, 5, 0] rfl ?_
                                            refine x_widen (k := kW + 12) (n := tW + 72) (by omega) (by omega) ?_
                                            exact ih (kW + 12) (tW + 72) v2L c2L e2L (x1 + r1006.toInt64) (x3 + (0 : Int32)) x4 (x5 + 1) (by omega) (by omega) hf
                                          · have hf := x_f h1031 hf
                                            refine x_iload C dL_isWell_151 2 rfl ?_
                                            refine x_if_le (tgt := 158) C dL_isWell_153 (by decide) (fun h1032 => ?_) (fun h1032 => ?_)
                                            · have hf := x_t h1032 hf
                                              refine x_iinc (v := x5 + 1) (lv' := [(5, .int (x5 + 1)), (3, .int (x3 + (0 : Int32))), (1, .long (x1 + r1006.toInt64)), (6, .int r1004), (0, .ref (a 0)), (4, .int x4)]) C dL_isWell_158 5 rfl rfl (by decide) rfl ?_
                                              refine x_goto (tgt := 19) C dL_isWell_161 (by decide) ?_
                                              refine x_locals (lv' := [(0, .ref (a 0)), (1, .long (x1 + r1006.toInt64)), (3, .int (x3 + (0 : Int32))), (4, .int x4), (5, .int (x5 + 1))]) [4, 2, 1, 5, 0] rfl ?_
                                              refine x_widen (k := kW + 12) (n := tW + 72) (by omega) (by omega) ?_
                                              exact ih (kW + 12) (tW + 72) v2L c2L e2L (x1 + r1006.toInt64) (x3 + (0 : Int32)) x4 (x5 + 1) (by omega) (by omega) hf
                                            · have hf := x_f h1032 hf
                                              refine x_iconst (v := 0) C dL_isWell_156 (by decide) ?_
                                              refine x_widen (k := 548) (n := 3288) (by omega) (by omega) ?_
                                              obtain rfl := Option.some.inj hf
                                              exact x_zret C hr rfl ⟨rfl, rfl⟩ dL_isWell_157
                          · have hf := x_f h1018 hf
                            refine x_aload_n C dL_isWell_93 rfl 3 rfl ?_
                            refine x_iload C dL_isWell_94 5 rfl ?_
                            obtain ⟨u1033, hu1033, hf⟩ := x_b hf
                            refine x_xcallV (n := 1) (As := [.int x5]) (rest := []) C (c_X9_wax g l hl a b y z v c x5 hu1033) ⟨⟨wd_1293, wd_1290, wd_25⟩, ⟨by decide, by decide, by decide⟩, rfl, rfl, Nat.le_of_ble_eq_true rfl, Nat.le_of_ble_eq_true rfl⟩ wd_1291 wd_1292 ⟨0, 10, _, _, rfl, rfl, rfl⟩ [evW g a 10 e, stO g a 20 v2L, cdW g a 20 c2L, evW g a 20 e2L] (x_pickD [0, 1, 2, 3, 4, 5, 6] 7 rfl rfl rfl) rfl rfl (Nat.le_of_ble_eq_true rfl) ⟨by show _ ≤ 548; omega, by show _ ≤ 3288; omega⟩ dL_isWell_96 (fun E9 w9 hX9 => ?_) (fun v9 w9 hQ9 => ?_)
                            · obtain ⟨k9, hk9, -⟩ := hX9
                              cases x_sl hk9 hf
                            · obtain ⟨r1034, hr9, rfl, rfl⟩ := hQ9
                              have hf := x_sr hr9 hf
                              refine x_goW (wss2 := [ccO g a b y z, stO g a 10 v, cdW g a 10 c, evW g a 10 e, stO g a 20 v2L, cdW g a 20 c2L, evW g a 20 e2L]) (stk2 := [.int r1034]) rfl rfl rfl ?_
                              refine x_if_eq (tgt := 156) C dL_isWell_99 (by decide) (fun h1035 => ?_) (fun h1035 => ?_)
                              · have hf := x_t h1035 hf
                                refine x_iconst (v := 0) C dL_isWell_156 (by decide) ?_
                                refine x_widen (k := 548) (n := 3288) (by omega) (by omega) ?_
                                obtain rfl := Option.some.inj hf
                                exact x_zret C hr rfl ⟨rfl, rfl⟩ dL_isWell_157
                              · have hf := x_f h1035 hf
                                refine x_iload C dL_isWell_102 2 rfl ?_
                                refine x_aload_n C dL_isWell_104 rfl 3 rfl ?_
                                refine x_iload C dL_isWell_105 5 rfl ?_
                                obtain ⟨u1036, hu1036, hf⟩ := x_b hf
                                refine x_xcallV (n := 1) (As := [.int x5]) (rest := [.int r1004]) C (c_X9_minutesLeftByBurning g l hl a b y z v c x5 hu1036) ⟨⟨wd_1323, wd_1320, wd_25⟩, ⟨by decide, by decide, by decide⟩, rfl, rfl, Nat.le_of_ble_eq_true rfl, Nat.le_of_ble_eq_true rfl⟩ wd_1321 wd_1322 ⟨0, 10, _, _, rfl, rfl, rfl⟩ [evW g a 10 e, stO g a 20 v2L, cdW g a 20 c2L, evW g a 20 e2L] (x_pickD [0, 1, 2, 3, 4, 5, 6] 7 rfl rfl rfl) rfl rfl (Nat.le_of_ble_eq_true rfl) ⟨by show _ ≤ 548; omega, by show _ ≤ 3288; omega⟩ dL_isWell_107 (fun E9 w9 hX9 => ?_) (fun v9 w9 hQ9 => ?_)
                                · obtain ⟨k9, hk9, -⟩ := hX9
                                  cases x_sl hk9 hf
                                · obtain ⟨r1037, hr9, rfl, rfl⟩ := hQ9
                                  have hf := x_sr hr9 hf
                                  refine x_goW (wss2 := [ccO g a b y z, stO g a 10 v, cdW g a 10 c, evW g a 10 e, stO g a 20 v2L, cdW g a 20 c2L, evW g a 20 e2L]) (stk2 := [.int r1037, .int r1004]) rfl rfl rfl ?_
                                  refine x_icmp_ne (tgt := 156) C dL_isWell_110 (by decide) (fun h1038 => ?_) (fun h1038 => ?_)
                                  · have hf := x_f h1038 hf
                                    refine x_iconst (v := 0) C dL_isWell_156 (by decide) ?_
                                    refine x_widen (k := 548) (n := 3288) (by omega) (by omega) ?_
                                    obtain rfl := Option.some.inj hf
                                    exact x_zret C hr rfl ⟨rfl, rfl⟩ dL_isWell_157
                                  · have hf := x_t h1038 hf
                                    refine x_iload C dL_isWell_113 2 rfl ?_
                                    refine x_aload_n C dL_isWell_115 rfl 3 rfl ?_
                                    refine x_iload C dL_isWell_116 5 rfl ?_
                                    obtain ⟨u1039, hu1039, hf⟩ := x_b hf
                                    refine x_xcallV (n := 1) (As := [.int x5]) (rest := [.int r1004]) C (c_X9_consumption g l hl a b y z v c x5 hu1039) ⟨⟨wd_1297, wd_1294, wd_25⟩, ⟨by decide, by decide, by decide⟩, rfl, rfl, Nat.le_of_ble_eq_true rfl, Nat.le_of_ble_eq_true rfl⟩ wd_1295 wd_1296 ⟨0, 10, _, _, rfl, rfl, rfl⟩ [evW g a 10 e, stO g a 20 v2L, cdW g a 20 c2L, evW g a 20 e2L] (x_pickD [0, 1, 2, 3, 4, 5, 6] 7 rfl rfl rfl) rfl rfl (Nat.le_of_ble_eq_true rfl) ⟨by show _ ≤ 548; omega, by show _ ≤ 3288; omega⟩ dL_isWell_118 (fun E9 w9 hX9 => ?_) (fun v9 w9 hQ9 => ?_)
                                    · obtain ⟨k9, hk9, -⟩ := hX9
                                      cases x_sl hk9 hf
                                    · obtain ⟨r1040, hr9, rfl, rfl⟩ := hQ9
                                      have hf := x_sr hr9 hf
                                      refine x_goW (wss2 := [ccO g a b y z, stO g a 10 v, cdW g a 10 c, evW g a 10 e, stO g a 20 v2L, cdW g a 20 c2L, evW g a 20 e2L]) (stk2 := [.int r1040, .int r1004]) rfl rfl rfl ?_
                                      refine x_imul C dL_isWell_121 ?_
                                      refine x_aload_n C dL_isWell_122 rfl 3 rfl ?_
                                      refine x_iload C dL_isWell_123 5 rfl ?_
                                      obtain ⟨u1041, hu1041, hf⟩ := x_b hf
                                      refine x_xcallV (n := 1) (As := [.int x5]) (rest := [.int (r1004 * r1040)]) C (c_X9_wax g l hl a b y z v c x5 hu1041) ⟨⟨wd_1293, wd_1290, wd_25⟩, ⟨by decide, by decide, by decide⟩, rfl, rfl, Nat.le_of_ble_eq_true rfl, Nat.le_of_ble_eq_true rfl⟩ wd_1291 wd_1292 ⟨0, 10, _, _, rfl, rfl, rfl⟩ [evW g a 10 e, stO g a 20 v2L, cdW g a 20 c2L, evW g a 20 e2L] (x_pickD [0, 1, 2, 3, 4, 5, 6] 7 rfl rfl rfl) rfl rfl (Nat.le_of_ble_eq_true rfl) ⟨by show _ ≤ 548; omega, by show _ ≤ 3288; omega⟩ dL_isWell_125 (fun E9 w9 hX9 => ?_) (fun v9 w9 hQ9 => ?_)
                                      · obtain ⟨k9, hk9, -⟩ := hX9
                                        cases x_sl hk9 hf
                                      · obtain ⟨r1042, hr9, rfl, rfl⟩ := hQ9
                                        have hf := x_sr hr9 hf
                                        refine x_goW (wss2 := [ccO g a b y z, stO g a 10 v, cdW g a 10 c, evW g a 10 e, stO g a 20 v2L, cdW g a 20 c2L, evW g a 20 e2L]) (stk2 := [.int r1042, .int (r1004 * r1040)]) rfl rfl rfl ?_
                                        refine x_icmp_lt (tgt := 156) C dL_isWell_128 (by decide) (fun h1043 => ?_) (fun h1043 => ?_)
                                        · have hf := x_t h1043 hf
                                          refine x_iconst (v := 0) C dL_isWell_156 (by decide) ?_
                                          refine x_widen (k := 548) (n := 3288) (by omega) (by omega) ?_
                                          obtain rfl := Option.some.inj hf
                                          exact x_zret C hr rfl ⟨rfl, rfl⟩ dL_isWell_157
                                        · have hf := x_f h1043 hf
                                          refine x_iload C dL_isWell_131 2 rfl ?_
                                          refine x_iconst (v := 1) C dL_isWell_133 (by decide) ?_
                                          refine x_isub C dL_isWell_134 ?_
                                          refine x_aload_n C dL_isWell_135 rfl 3 rfl ?_
                                          refine x_iload C dL_isWell_136 5 rfl ?_
                                          obtain ⟨u1044, hu1044, hf⟩ := x_b hf
                                          refine x_xcallV (n := 1) (As := [.int x5]) (rest := [.int (r1004 - (1 : Int32))]) C (c_X9_consumption g l hl a b y z v c x5 hu1044) ⟨⟨wd_1297, wd_1294, wd_25⟩, ⟨by decide, by decide, by decide⟩, rfl, rfl, Nat.le_of_ble_eq_true rfl, Nat.le_of_ble_eq_true rfl⟩ wd_1295 wd_1296 ⟨0, 10, _, _, rfl, rfl, rfl⟩ [evW g a 10 e, stO g a 20 v2L, cdW g a 20 c2L, evW g a 20 e2L] (x_pickD [0, 1, 2, 3, 4, 5, 6] 7 rfl rfl rfl) rfl rfl (Nat.le_of_ble_eq_true rfl) ⟨by show _ ≤ 548; omega, by show _ ≤ 3288; omega⟩ dL_isWell_138 (fun E9 w9 hX9 => ?_) (fun v9 w9 hQ9 => ?_)
                                          · obtain ⟨k9, hk9, -⟩ := hX9
                                            cases x_sl hk9 hf
                                          · obtain ⟨r1045, hr9, rfl, rfl⟩ := hQ9
                                            have hf := x_sr hr9 hf
                                            refine x_goW (wss2 := [ccO g a b y z, stO g a 10 v, cdW g a 10 c, evW g a 10 e, stO g a 20 v2L, cdW g a 20 c2L, evW g a 20 e2L]) (stk2 := [.int r1045, .int (r1004 - (1 : Int32))]) rfl rfl rfl ?_
                                            refine x_imul C dL_isWell_141 ?_
                                            refine x_aload_n C dL_isWell_142 rfl 3 rfl ?_
                                            refine x_iload C dL_isWell_143 5 rfl ?_
                                            obtain ⟨u1046, hu1046, hf⟩ := x_b hf
                                            refine x_xcallV (n := 1) (As := [.int x5]) (rest := [.int ((r1004 - (1 : Int32)) * r1045)]) C (c_X9_wax g l hl a b y z v c x5 hu1046) ⟨⟨wd_1293, wd_1290, wd_25⟩, ⟨by decide, by decide, by decide⟩, rfl, rfl, Nat.le_of_ble_eq_true rfl, Nat.le_of_ble_eq_true rfl⟩ wd_1291 wd_1292 ⟨0, 10, _, _, rfl, rfl, rfl⟩ [evW g a 10 e, stO g a 20 v2L, cdW g a 20 c2L, evW g a 20 e2L] (x_pickD [0, 1, 2, 3, 4, 5, 6] 7 rfl rfl rfl) rfl rfl (Nat.le_of_ble_eq_true rfl) ⟨by show _ ≤ 548; omega, by show _ ≤ 3288; omega⟩ dL_isWell_145 (fun E9 w9 hX9 => ?_) (fun v9 w9 hQ9 => ?_)
                                            · obtain ⟨k9, hk9, -⟩ := hX9
                                              cases x_sl hk9 hf
                                            · obtain ⟨r1047, hr9, rfl, rfl⟩ := hQ9
                                              have hf := x_sr hr9 hf
                                              refine x_goW (wss2 := [ccO g a b y z, stO g a 10 v, cdW g a 10 c, evW g a 10 e, stO g a 20 v2L, cdW g a 20 c2L, evW g a 20 e2L]) (stk2 := [.int r1047, .int ((r1004 - (1 : Int32)) * r1045)]) rfl rfl rfl ?_
                                              refine x_icmp_lt (tgt := 158) C dL_isWell_148 (by decide) (fun h1048 => ?_) (fun h1048 => ?_)
                                              · have hf := x_t h1048 hf
                                                refine x_iinc (v := x5 + 1) (lv' := [(5, .int (x5 + 1)), (3, .int (x3 + (0 : Int32))), (1, .long (x1 + r1006.toInt64)), (6, .int r1004), (0, .ref (a 0)), (4, .int x4)]) C dL_isWell_158 5 rfl rfl (by decide) rfl ?_
                                                refine x_goto (tgt := 19) C dL_isWell_161 (by decide) ?_
                                                refine x_locals (lv' := [(0, .ref (a 0)), (1, .long (x1 + r1006.toInt64)), (3, .int (x3 + (0 : Int32))), (4, .int x4), (5, .int (x5 + 1))]) [4, 2, 1, 5, 0] rfl ?_
                                                refine x_widen (k := kW + 12) (n := tW + 72) (by omega) (by omega) ?_
                                                exact ih (kW + 12) (tW + 72) v2L c2L e2L (x1 + r1006.toInt64) (x3 + (0 : Int32)) x4 (x5 + 1) (by omega) (by omega) hf
                                              · have hf := x_f h1048 hf
                                                refine x_iload C dL_isWell_151 2 rfl ?_
                                                refine x_if_le (tgt := 158) C dL_isWell_153 (by decide) (fun h1049 => ?_) (fun h1049 => ?_)
                                                · have hf := x_t h1049 hf
                                                  refine x_iinc (v := x5 + 1) (lv' := [(5, .int (x5 + 1)), (3, .int (x3 + (0 : Int32))), (1, .long (x1 + r1006.toInt64)), (6, .int r1004), (0, .ref (a 0)), (4, .int x4)]) C dL_isWell_158 5 rfl rfl (by decide) rfl ?_
                                                  refine x_goto (tgt := 19) C dL_isWell_161 (by decide) ?_
                                                  refine x_locals (lv' := [(0, .ref (a 0)), (1, .long (x1 + r1006.toInt64)), (3, .int (x3 + (0 : Int32))), (4, .int x4), (5, .int (x5 + 1))]) [4, 2, 1, 5, 0] rfl ?_
                                                  refine x_widen (k := kW + 12) (n := tW + 72) (by omega) (by omega) ?_
                                                  exact ih (kW + 12) (tW + 72) v2L c2L e2L (x1 + r1006.toInt64) (x3 + (0 : Int32)) x4 (x5 + 1) (by omega) (by omega) hf
                                                · have hf := x_f h1049 hf
                                                  refine x_iconst (v := 0) C dL_isWell_156 (by decide) ?_
                                                  refine x_widen (k := 548) (n := 3288) (by omega) (by omega) ?_
                                                  obtain rfl := Option.some.inj hf
                                                  exact x_zret C hr rfl ⟨rfl, rfl⟩ dL_isWell_157
              · have hf := x_f h1009 hf
                refine x_iconst (v := 1) C dL_isWell_56 (by decide) ?_
                refine x_goto (tgt := 61) C dL_isWell_57 (by decide) ?_
                refine x_iadd C dL_isWell_61 ?_
                refine x_istore_n (lv' := [(3, .int (x3 + (1 : Int32))), (1, .long (x1 + r1006.toInt64)), (6, .int r1004), (0, .ref (a 0)), (4, .int x4), (5, .int x5)]) C dL_isWell_62 rfl (by decide) rfl ?_
                refine x_aload_n C dL_isWell_63 rfl 3 rfl ?_
                refine x_iload C dL_isWell_64 5 rfl ?_
                obtain ⟨u1050, hu1050, hf⟩ := x_b hf
                refine x_xcallV (n := 1) (As := [.int x5]) (rest := []) C (c_X9_wax g l hl a b y z v c x5 hu1050) ⟨⟨wd_1293, wd_1290, wd_25⟩, ⟨by decide, by decide, by decide⟩, rfl, rfl, Nat.le_of_ble_eq_true rfl, Nat.le_of_ble_eq_true rfl⟩ wd_1291 wd_1292 ⟨0, 10, _, _, rfl, rfl, rfl⟩ [evW g a 10 e, stO g a 20 v2L, cdW g a 20 c2L, evW g a 20 e2L] (x_pickD [0, 1, 2, 3, 4, 5, 6] 7 rfl rfl rfl) rfl rfl (Nat.le_of_ble_eq_true rfl) ⟨by show _ ≤ 548; omega, by show _ ≤ 3288; omega⟩ dL_isWell_66 (fun E9 w9 hX9 => ?_) (fun v9 w9 hQ9 => ?_)
                · obtain ⟨k9, hk9, -⟩ := hX9
                  cases x_sl hk9 hf
                · obtain ⟨r1051, hr9, rfl, rfl⟩ := hQ9
                  have hf := x_sr hr9 hf
                  refine x_goW (wss2 := [ccO g a b y z, stO g a 10 v, cdW g a 10 c, evW g a 10 e, stO g a 20 v2L, cdW g a 20 c2L, evW g a 20 e2L]) (stk2 := [.int r1051]) rfl rfl rfl ?_
                  refine x_if_lt (tgt := 156) C dL_isWell_69 (by decide) (fun h1052 => ?_) (fun h1052 => ?_)
                  · have hf := x_t h1052 hf
                    refine x_iconst (v := 0) C dL_isWell_156 (by decide) ?_
                    refine x_widen (k := 548) (n := 3288) (by omega) (by omega) ?_
                    obtain rfl := Option.some.inj hf
                    exact x_zret C hr rfl ⟨rfl, rfl⟩ dL_isWell_157
                  · have hf := x_f h1052 hf
                    refine x_aload_n C dL_isWell_72 rfl 3 rfl ?_
                    refine x_iload C dL_isWell_73 5 rfl ?_
                    obtain ⟨u1053, hu1053, hf⟩ := x_b hf
                    refine x_xcallV (n := 1) (As := [.int x5]) (rest := []) C (c_X9_wax g l hl a b y z v c x5 hu1053) ⟨⟨wd_1293, wd_1290, wd_25⟩, ⟨by decide, by decide, by decide⟩, rfl, rfl, Nat.le_of_ble_eq_true rfl, Nat.le_of_ble_eq_true rfl⟩ wd_1291 wd_1292 ⟨0, 10, _, _, rfl, rfl, rfl⟩ [evW g a 10 e, stO g a 20 v2L, cdW g a 20 c2L, evW g a 20 e2L] (x_pickD [0, 1, 2, 3, 4, 5, 6] 7 rfl rfl rfl) rfl rfl (Nat.le_of_ble_eq_true rfl) ⟨by show _ ≤ 548; omega, by show _ ≤ 3288; omega⟩ dL_isWell_75 (fun E9 w9 hX9 => ?_) (fun v9 w9 hQ9 => ?_)
                    · obtain ⟨k9, hk9, -⟩ := hX9
                      cases x_sl hk9 hf
                    · obtain ⟨r1054, hr9, rfl, rfl⟩ := hQ9
                      have hf := x_sr hr9 hf
                      refine x_goW (wss2 := [ccO g a b y z, stO g a 10 v, cdW g a 10 c, evW g a 10 e, stO g a 20 v2L, cdW g a 20 c2L, evW g a 20 e2L]) (stk2 := [.int r1054]) rfl rfl rfl ?_
                      refine x_sipush (v := 999) C dL_isWell_78 (by decide) ?_
                      refine x_icmp_gt (tgt := 156) C dL_isWell_81 (by decide) (fun h1055 => ?_) (fun h1055 => ?_)
                      · have hf := x_t h1055 hf
                        refine x_iconst (v := 0) C dL_isWell_156 (by decide) ?_
                        refine x_widen (k := 548) (n := 3288) (by omega) (by omega) ?_
                        obtain rfl := Option.some.inj hf
                        exact x_zret C hr rfl ⟨rfl, rfl⟩ dL_isWell_157
                      · have hf := x_f h1055 hf
                        refine x_aload_n C dL_isWell_84 rfl 3 rfl ?_
                        refine x_iload C dL_isWell_85 5 rfl ?_
                        obtain ⟨u1056, hu1056, hf⟩ := x_b hf
                        refine x_xcallV (n := 1) (As := [.int x5]) (rest := []) C (c_X9_isLit g l hl a b y z v c x5 hu1056) ⟨⟨wd_1301, wd_1298, wd_25⟩, ⟨by decide, by decide, by decide⟩, rfl, rfl, Nat.le_of_ble_eq_true rfl, Nat.le_of_ble_eq_true rfl⟩ wd_1299 wd_1300 ⟨0, 10, _, _, rfl, rfl, rfl⟩ [evW g a 10 e, stO g a 20 v2L, cdW g a 20 c2L, evW g a 20 e2L] (x_pickD [0, 1, 2, 3, 4, 5, 6] 7 rfl rfl rfl) rfl rfl (Nat.le_of_ble_eq_true rfl) ⟨by show _ ≤ 548; omega, by show _ ≤ 3288; omega⟩ dL_isWell_87 (fun E9 w9 hX9 => ?_) (fun v9 w9 hQ9 => ?_)
                        · obtain ⟨k9, hk9, -⟩ := hX9
                          cases x_sl hk9 hf
                        · obtain ⟨r1057, hr9, rfl, rfl⟩ := hQ9
                          have hf := x_sr hr9 hf
                          refine x_goW (wss2 := [ccO g a b y z, stO g a 10 v, cdW g a 10 c, evW g a 10 e, stO g a 20 v2L, cdW g a 20 c2L, evW g a 20 e2L]) (stk2 := [.int r1057]) rfl rfl rfl ?_
                          refine x_if_eq (tgt := 102) C dL_isWell_90 (by decide) (fun h1058 => ?_) (fun h1058 => ?_)
                          · have hf := x_t h1058 hf
                            refine x_iload C dL_isWell_102 2 rfl ?_
                            refine x_aload_n C dL_isWell_104 rfl 3 rfl ?_
                            refine x_iload C dL_isWell_105 5 rfl ?_
                            obtain ⟨u1059, hu1059, hf⟩ := x_b hf
                            refine x_xcallV (n := 1) (As := [.int x5]) (rest := [.int r1004]) C (c_X9_minutesLeftByBurning g l hl a b y z v c x5 hu1059) ⟨⟨wd_1323, wd_1320, wd_25⟩, ⟨by decide, by decide, by decide⟩, rfl, rfl, Nat.le_of_ble_eq_true rfl, Nat.le_of_ble_eq_true rfl⟩ wd_1321 wd_1322 ⟨0, 10, _, _, rfl, rfl, rfl⟩ [evW g a 10 e, stO g a 20 v2L, cdW g a 20 c2L, evW g a 20 e2L] (x_pickD [0, 1, 2, 3, 4, 5, 6] 7 rfl rfl rfl) rfl rfl (Nat.le_of_ble_eq_true rfl) ⟨by show _ ≤ 548; omega, by show _ ≤ 3288; omega⟩ dL_isWell_107 (fun E9 w9 hX9 => ?_) (fun v9 w9 hQ9 => ?_)
                            · obtain ⟨k9, hk9, -⟩ := hX9
                              cases x_sl hk9 hf
                            · obtain ⟨r1060, hr9, rfl, rfl⟩ := hQ9
                              have hf := x_sr hr9 hf
                              refine x_goW (wss2 := [ccO g a b y z, stO g a 10 v, cdW g a 10 c, evW g a 10 e, stO g a 20 v2L, cdW g a 20 c2L, evW g a 20 e2L]) (stk2 := [.int r1060, .int r1004]) rfl rfl rfl ?_
                              refine x_icmp_ne (tgt := 156) C dL_isWell_110 (by decide) (fun h1061 => ?_) (fun h1061 => ?_)
                              · have hf := x_f h1061 hf
                                refine x_iconst (v := 0) C dL_isWell_156 (by decide) ?_
                                refine x_widen (k := 548) (n := 3288) (by omega) (by omega) ?_
                                obtain rfl := Option.some.inj hf
                                exact x_zret C hr rfl ⟨rfl, rfl⟩ dL_isWell_157
                              · have hf := x_t h1061 hf
                                refine x_iload C dL_isWell_113 2 rfl ?_
                                refine x_aload_n C dL_isWell_115 rfl 3 rfl ?_
                                refine x_iload C dL_isWell_116 5 rfl ?_
                                obtain ⟨u1062, hu1062, hf⟩ := x_b hf
                                refine x_xcallV (n := 1) (As := [.int x5]) (rest := [.int r1004]) C (c_X9_consumption g l hl a b y z v c x5 hu1062) ⟨⟨wd_1297, wd_1294, wd_25⟩, ⟨by decide, by decide, by decide⟩, rfl, rfl, Nat.le_of_ble_eq_true rfl, Nat.le_of_ble_eq_true rfl⟩ wd_1295 wd_1296 ⟨0, 10, _, _, rfl, rfl, rfl⟩ [evW g a 10 e, stO g a 20 v2L, cdW g a 20 c2L, evW g a 20 e2L] (x_pickD [0, 1, 2, 3, 4, 5, 6] 7 rfl rfl rfl) rfl rfl (Nat.le_of_ble_eq_true rfl) ⟨by show _ ≤ 548; omega, by show _ ≤ 3288; omega⟩ dL_isWell_118 (fun E9 w9 hX9 => ?_) (fun v9 w9 hQ9 => ?_)
                                · obtain ⟨k9, hk9, -⟩ := hX9
                                  cases x_sl hk9 hf
                                · obtain ⟨r1063, hr9, rfl, rfl⟩ := hQ9
                                  have hf := x_sr hr9 hf
                                  refine x_goW (wss2 := [ccO g a b y z, stO g a 10 v, cdW g a 10 c, evW g a 10 e, stO g a 20 v2L, cdW g a 20 c2L, evW g a 20 e2L]) (stk2 := [.int r1063, .int r1004]) rfl rfl rfl ?_
                                  refine x_imul C dL_isWell_121 ?_
                                  refine x_aload_n C dL_isWell_122 rfl 3 rfl ?_
                                  refine x_iload C dL_isWell_123 5 rfl ?_
                                  obtain ⟨u1064, hu1064, hf⟩ := x_b hf
                                  refine x_xcallV (n := 1) (As := [.int x5]) (rest := [.int (r1004 * r1063)]) C (c_X9_wax g l hl a b y z v c x5 hu1064) ⟨⟨wd_1293, wd_1290, wd_25⟩, ⟨by decide, by decide, by decide⟩, rfl, rfl, Nat.le_of_ble_eq_true rfl, Nat.le_of_ble_eq_true rfl⟩ wd_1291 wd_1292 ⟨0, 10, _, _, rfl, rfl, rfl⟩ [evW g a 10 e, stO g a 20 v2L, cdW g a 20 c2L, evW g a 20 e2L] (x_pickD [0, 1, 2, 3, 4, 5, 6] 7 rfl rfl rfl) rfl rfl (Nat.le_of_ble_eq_true rfl) ⟨by show _ ≤ 548; omega, by show _ ≤ 3288; omega⟩ dL_isWell_125 (fun E9 w9 hX9 => ?_) (fun v9 w9 hQ9 => ?_)
                                  · obtain ⟨k9, hk9, -⟩ := hX9
                                    cases x_sl hk9 hf
                                  · obtain ⟨r1065, hr9, rfl, rfl⟩ := hQ9
                                    have hf := x_sr hr9 hf
                                    refine x_goW (wss2 := [ccO g a b y z, stO g a 10 v, cdW g a 10 c, evW g a 10 e, stO g a 20 v2L, cdW g a 20 c2L, evW g a 20 e2L]) (stk2 := [.int r1065, .int (r1004 * r1063)]) rfl rfl rfl ?_
                                    refine x_icmp_lt (tgt := 156) C dL_isWell_128 (by decide) (fun h1066 => ?_) (fun h1066 => ?_)
                                    · have hf := x_t h1066 hf
                                      refine x_iconst (v := 0) C dL_isWell_156 (by decide) ?_
                                      refine x_widen (k := 548) (n := 3288) (by omega) (by omega) ?_
                                      obtain rfl := Option.some.inj hf
                                      exact x_zret C hr rfl ⟨rfl, rfl⟩ dL_isWell_157
                                    · have hf := x_f h1066 hf
                                      refine x_iload C dL_isWell_131 2 rfl ?_
                                      refine x_iconst (v := 1) C dL_isWell_133 (by decide) ?_
                                      refine x_isub C dL_isWell_134 ?_
                                      refine x_aload_n C dL_isWell_135 rfl 3 rfl ?_
                                      refine x_iload C dL_isWell_136 5 rfl ?_
                                      obtain ⟨u1067, hu1067, hf⟩ := x_b hf
                                      refine x_xcallV (n := 1) (As := [.int x5]) (rest := [.int (r1004 - (1 : Int32))]) C (c_X9_consumption g l hl a b y z v c x5 hu1067) ⟨⟨wd_1297, wd_1294, wd_25⟩, ⟨by decide, by decide, by decide⟩, rfl, rfl, Nat.le_of_ble_eq_true rfl, Nat.le_of_ble_eq_true rfl⟩ wd_1295 wd_1296 ⟨0, 10, _, _, rfl, rfl, rfl⟩ [evW g a 10 e, stO g a 20 v2L, cdW g a 20 c2L, evW g a 20 e2L] (x_pickD [0, 1, 2, 3, 4, 5, 6] 7 rfl rfl rfl) rfl rfl (Nat.le_of_ble_eq_true rfl) ⟨by show _ ≤ 548; omega, by show _ ≤ 3288; omega⟩ dL_isWell_138 (fun E9 w9 hX9 => ?_) (fun v9 w9 hQ9 => ?_)
                                      · obtain ⟨k9, hk9, -⟩ := hX9
                                        cases x_sl hk9 hf
                                      · obtain ⟨r1068, hr9, rfl, rfl⟩ := hQ9
                                        have hf := x_sr hr9 hf
                                        refine x_goW (wss2 := [ccO g a b y z, stO g a 10 v, cdW g a 10 c, evW g a 10 e, stO g a 20 v2L, cdW g a 20 c2L, evW g a 20 e2L]) (stk2 := [.int r1068, .int (r1004 - (1 : Int32))]) rfl rfl rfl ?_
                                        refine x_imul C dL_isWell_141 ?_
                                        refine x_aload_n C dL_isWell_142 rfl 3 rfl ?_
                                        refine x_iload C dL_isWell_143 5 rfl ?_
                                        obtain ⟨u1069, hu1069, hf⟩ := x_b hf
                                        refine x_xcallV (n := 1) (As := [.int x5]) (rest := [.int ((r1004 - (1 : Int32)) * r1068)]) C (c_X9_wax g l hl a b y z v c x5 hu1069) ⟨⟨wd_1293, wd_1290, wd_25⟩, ⟨by decide, by decide, by decide⟩, rfl, rfl, Nat.le_of_ble_eq_true rfl, Nat.le_of_ble_eq_true rfl⟩ wd_1291 wd_1292 ⟨0, 10, _, _, rfl, rfl, rfl⟩ [evW g a 10 e, stO g a 20 v2L, cdW g a 20 c2L, evW g a 20 e2L] (x_pickD [0, 1, 2, 3, 4, 5, 6] 7 rfl rfl rfl) rfl rfl (Nat.le_of_ble_eq_true rfl) ⟨by show _ ≤ 548; omega, by show _ ≤ 3288; omega⟩ dL_isWell_145 (fun E9 w9 hX9 => ?_) (fun v9 w9 hQ9 => ?_)
                                        · obtain ⟨k9, hk9, -⟩ := hX9
                                          cases x_sl hk9 hf
                                        · obtain ⟨r1070, hr9, rfl, rfl⟩ := hQ9
                                          have hf := x_sr hr9 hf
                                          refine x_goW (wss2 := [ccO g a b y z, stO g a 10 v, cdW g a 10 c, evW g a 10 e, stO g a 20 v2L, cdW g a 20 c2L, evW g a 20 e2L]) (stk2 := [.int r1070, .int ((r1004 - (1 : Int32)) * r1068)]) rfl rfl rfl ?_
                                          refine x_icmp_lt (tgt := 158) C dL_isWell_148 (by decide) (fun h1071 => ?_) (fun h1071 => ?_)
                                          · have hf := x_t h1071 hf
                                            refine x_iinc (v := x5 + 1) (lv' := [(5, .int (x5 + 1)), (3, .int (x3 + (1 : Int32))), (1, .long (x1 + r1006.toInt64)), (6, .int r1004), (0, .ref (a 0)), (4, .int x4)]) C dL_isWell_158 5 rfl rfl (by decide) rfl ?_
                                            refine x_goto (tgt := 19) C dL_isWell_161 (by decide) ?_
                                            refine x_locals (lv' := [(0, .ref (a 0)), (1, .long (x1 + r1006.toInt64)), (3, .int (x3 + (1 : Int32))), (4, .int x4), (5, .int (x5 + 1))]) [4, 2, 1, 5, 0] rfl ?_
                                            refine x_widen (k := kW + 12) (n := tW + 72) (by omega) (by omega) ?_
                                            exact ih (kW + 12) (tW + 72) v2L c2L e2L (x1 + r1006.toInt64) (x3 + (1 : Int32)) x4 (x5 + 1) (by omega) (by omega) hf
                                          · have hf := x_f h1071 hf
                                            refine x_iload C dL_isWell_151 2 rfl ?_
                                            refine x_if_le (tgt := 158) C dL_isWell_153 (by decide) (fun h1072 => ?_) (fun h1072 => ?_)
                                            · have hf := x_t h1072 hf
                                              refine x_iinc (v := x5 + 1) (lv' := [(5, .int (x5 + 1)), (3, .int (x3 + (1 : Int32))), (1, .long (x1 + r1006.toInt64)), (6, .int r1004), (0, .ref (a 0)), (4, .int x4)]) C dL_isWell_158 5 rfl rfl (by decide) rfl ?_
                                              refine x_goto (tgt := 19) C dL_isWell_161 (by decide) ?_
                                              refine x_locals (lv' := [(0, .ref (a 0)), (1, .long (x1 + r1006.toInt64)), (3, .int (x3 + (1 : Int32))), (4, .int x4), (5, .int (x5 + 1))]) [4, 2, 1, 5, 0] rfl ?_
                                              refine x_widen (k := kW + 12) (n := tW + 72) (by omega) (by omega) ?_
                                              exact ih (kW + 12) (tW + 72) v2L c2L e2L (x1 + r1006.toInt64) (x3 + (1 : Int32)) x4 (x5 + 1) (by omega) (by omega) hf
                                            · have hf := x_f h1072 hf
                                              refine x_iconst (v := 0) C dL_isWell_156 (by decide) ?_
                                              refine x_widen (k := 548) (n := 3288) (by omega) (by omega) ?_
                                              obtain rfl := Option.some.inj hf
                                              exact x_zret C hr rfl ⟨rfl, rfl⟩ dL_isWell_157
                          · have hf := x_f h1058 hf
                            refine x_aload_n C dL_isWell_93 rfl 3 rfl ?_
                            refine x_iload C dL_isWell_94 5 rfl ?_
                            obtain ⟨u1073, hu1073, hf⟩ := x_b hf
                            refine x_xcallV (n := 1) (As := [.int x5]) (rest := []) C (c_X9_wax g l hl a b y z v c x5 hu1073) ⟨⟨wd_1293, wd_1290, wd_25⟩, ⟨by decide, by decide, by decide⟩, rfl, rfl, Nat.le_of_ble_eq_true rfl, Nat.le_of_ble_eq_true rfl⟩ wd_1291 wd_1292 ⟨0, 10, _, _, rfl, rfl, rfl⟩ [evW g a 10 e, stO g a 20 v2L, cdW g a 20 c2L, evW g a 20 e2L] (x_pickD [0, 1, 2, 3, 4, 5, 6] 7 rfl rfl rfl) rfl rfl (Nat.le_of_ble_eq_true rfl) ⟨by show _ ≤ 548; omega, by show _ ≤ 3288; omega⟩ dL_isWell_96 (fun E9 w9 hX9 => ?_) (fun v9 w9 hQ9 => ?_)
                            · obtain ⟨k9, hk9, -⟩ := hX9
                              cases x_sl hk9 hf
                            · obtain ⟨r1074, hr9, rfl, rfl⟩ := hQ9
                              have hf := x_sr hr9 hf
                              refine x_goW (wss2 := [ccO g a b y z, stO g a 10 v, cdW g a 10 c, evW g a 10 e, stO g a 20 v2L, cdW g a 20 c2L, evW g a 20 e2L]) (stk2 := [.int r1074]) rfl rfl rfl ?_
                              refine x_if_eq (tgt := 156) C dL_isWell_99 (by decide) (fun h1075 => ?_) (fun h1075 => ?_)
                              · have hf := x_t h1075 hf
                                refine x_iconst (v := 0) C dL_isWell_156 (by decide) ?_
                                refine x_widen (k := 548) (n := 3288) (by omega) (by omega) ?_
                                obtain rfl := Option.some.inj hf
                                exact x_zret C hr rfl ⟨rfl, rfl⟩ dL_isWell_157
                              · have hf := x_f h1075 hf
                                refine x_iload C dL_isWell_102 2 rfl ?_
                                refine x_aload_n C dL_isWell_104 rfl 3 rfl ?_
                                refine x_iload C dL_isWell_105 5 rfl ?_
                                obtain ⟨u1076, hu1076, hf⟩ := x_b hf
                                refine x_xcallV (n := 1) (As := [.int x5]) (rest := [.int r1004]) C (c_X9_minutesLeftByBurning g l hl a b y z v c x5 hu1076) ⟨⟨wd_1323, wd_1320, wd_25⟩, ⟨by decide, by decide, by decide⟩, rfl, rfl, Nat.le_of_ble_eq_true rfl, Nat.le_of_ble_eq_true rfl⟩ wd_1321 wd_1322 ⟨0, 10, _, _, rfl, rfl, rfl⟩ [evW g a 10 e, stO g a 20 v2L, cdW g a 20 c2L, evW g a 20 e2L] (x_pickD [0, 1, 2, 3, 4, 5, 6] 7 rfl rfl rfl) rfl rfl (Nat.le_of_ble_eq_true rfl) ⟨by show _ ≤ 548; omega, by show _ ≤ 3288; omega⟩ dL_isWell_107 (fun E9 w9 hX9 => ?_) (fun v9 w9 hQ9 => ?_)
                                · obtain ⟨k9, hk9, -⟩ := hX9
                                  cases x_sl hk9 hf
                                · obtain ⟨r1077, hr9, rfl, rfl⟩ := hQ9
                                  have hf := x_sr hr9 hf
                                  refine x_goW (wss2 := [ccO g a b y z, stO g a 10 v, cdW g a 10 c, evW g a 10 e, stO g a 20 v2L, cdW g a 20 c2L, evW g a 20 e2L]) (stk2 := [.int r1077, .int r1004]) rfl rfl rfl ?_
                                  refine x_icmp_ne (tgt := 156) C dL_isWell_110 (by decide) (fun h1078 => ?_) (fun h1078 => ?_)
                                  · have hf := x_f h1078 hf
                                    refine x_iconst (v := 0) C dL_isWell_156 (by decide) ?_
                                    refine x_widen (k := 548) (n := 3288) (by omega) (by omega) ?_
                                    obtain rfl := Option.some.inj hf
                                    exact x_zret C hr rfl ⟨rfl, rfl⟩ dL_isWell_157
                                  · have hf := x_t h1078 hf
                                    refine x_iload C dL_isWell_113 2 rfl ?_
                                    refine x_aload_n C dL_isWell_115 rfl 3 rfl ?_
                                    refine x_iload C dL_isWell_116 5 rfl ?_
                                    obtain ⟨u1079, hu1079, hf⟩ := x_b hf
                                    refine x_xcallV (n := 1) (As := [.int x5]) (rest := [.int r1004]) C (c_X9_consumption g l hl a b y z v c x5 hu1079) ⟨⟨wd_1297, wd_1294, wd_25⟩, ⟨by decide, by decide, by decide⟩, rfl, rfl, Nat.le_of_ble_eq_true rfl, Nat.le_of_ble_eq_true rfl⟩ wd_1295 wd_1296 ⟨0, 10, _, _, rfl, rfl, rfl⟩ [evW g a 10 e, stO g a 20 v2L, cdW g a 20 c2L, evW g a 20 e2L] (x_pickD [0, 1, 2, 3, 4, 5, 6] 7 rfl rfl rfl) rfl rfl (Nat.le_of_ble_eq_true rfl) ⟨by show _ ≤ 548; omega, by show _ ≤ 3288; omega⟩ dL_isWell_118 (fun E9 w9 hX9 => ?_) (fun v9 w9 hQ9 => ?_)
                                    · obtain ⟨k9, hk9, -⟩ := hX9
                                      cases x_sl hk9 hf
                                    · obtain ⟨r1080, hr9, rfl, rfl⟩ := hQ9
                                      have hf := x_sr hr9 hf
                                      refine x_goW (wss2 := [ccO g a b y z, stO g a 10 v, cdW g a 10 c, evW g a 10 e, stO g a 20 v2L, cdW g a 20 c2L, evW g a 20 e2L]) (stk2 := [.int r1080, .int r1004]) rfl rfl rfl ?_
                                      refine x_imul C dL_isWell_121 ?_
                                      refine x_aload_n C dL_isWell_122 rfl 3 rfl ?_
                                      refine x_iload C dL_isWell_123 5 rfl ?_
                                      obtain ⟨u1081, hu1081, hf⟩ := x_b hf
                                      refine x_xcallV (n := 1) (As := [.int x5]) (rest := [.int (r1004 * r1080)]) C (c_X9_wax g l hl a b y z v c x5 hu1081) ⟨⟨wd_1293, wd_1290, wd_25⟩, ⟨by decide, by decide, by decide⟩, rfl, rfl, Nat.le_of_ble_eq_true rfl, Nat.le_of_ble_eq_true rfl⟩ wd_1291 wd_1292 ⟨0, 10, _, _, rfl, rfl, rfl⟩ [evW g a 10 e, stO g a 20 v2L, cdW g a 20 c2L, evW g a 20 e2L] (x_pickD [0, 1, 2, 3, 4, 5, 6] 7 rfl rfl rfl) rfl rfl (Nat.le_of_ble_eq_true rfl) ⟨by show _ ≤ 548; omega, by show _ ≤ 3288; omega⟩ dL_isWell_125 (fun E9 w9 hX9 => ?_) (fun v9 w9 hQ9 => ?_)
                                      · obtain ⟨k9, hk9, -⟩ := hX9
                                        cases x_sl hk9 hf
                                      · obtain ⟨r1082, hr9, rfl, rfl⟩ := hQ9
                                        have hf := x_sr hr9 hf
                                        refine x_goW (wss2 := [ccO g a b y z, stO g a 10 v, cdW g a 10 c, evW g a 10 e, stO g a 20 v2L, cdW g a 20 c2L, evW g a 20 e2L]) (stk2 := [.int r1082, .int (r1004 * r1080)]) rfl rfl rfl ?_
                                        refine x_icmp_lt (tgt := 156) C dL_isWell_128 (by decide) (fun h1083 => ?_) (fun h1083 => ?_)
                                        · have hf := x_t h1083 hf
                                          refine x_iconst (v := 0) C dL_isWell_156 (by decide) ?_
                                          refine x_widen (k := 548) (n := 3288) (by omega) (by omega) ?_
                                          obtain rfl := Option.some.inj hf
                                          exact x_zret C hr rfl ⟨rfl, rfl⟩ dL_isWell_157
                                        · have hf := x_f h1083 hf
                                          refine x_iload C dL_isWell_131 2 rfl ?_
                                          refine x_iconst (v := 1) C dL_isWell_133 (by decide) ?_
                                          refine x_isub C dL_isWell_134 ?_
                                          refine x_aload_n C dL_isWell_135 rfl 3 rfl ?_
                                          refine x_iload C dL_isWell_136 5 rfl ?_
                                          obtain ⟨u1084, hu1084, hf⟩ := x_b hf
                                          refine x_xcallV (n := 1) (As := [.int x5]) (rest := [.int (r1004 - (1 : Int32))]) C (c_X9_consumption g l hl a b y z v c x5 hu1084) ⟨⟨wd_1297, wd_1294, wd_25⟩, ⟨by decide, by decide, by decide⟩, rfl, rfl, Nat.le_of_ble_eq_true rfl, Nat.le_of_ble_eq_true rfl⟩ wd_1295 wd_1296 ⟨0, 10, _, _, rfl, rfl, rfl⟩ [evW g a 10 e, stO g a 20 v2L, cdW g a 20 c2L, evW g a 20 e2L] (x_pickD [0, 1, 2, 3, 4, 5, 6] 7 rfl rfl rfl) rfl rfl (Nat.le_of_ble_eq_true rfl) ⟨by show _ ≤ 548; omega, by show _ ≤ 3288; omega⟩ dL_isWell_138 (fun E9 w9 hX9 => ?_) (fun v9 w9 hQ9 => ?_)
                                          · obtain ⟨k9, hk9, -⟩ := hX9
                                            cases x_sl hk9 hf
                                          · obtain ⟨r1085, hr9, rfl, rfl⟩ := hQ9
                                            have hf := x_sr hr9 hf
                                            refine x_goW (wss2 := [ccO g a b y z, stO g a 10 v, cdW g a 10 c, evW g a 10 e, stO g a 20 v2L, cdW g a 20 c2L, evW g a 20 e2L]) (stk2 := [.int r1085, .int (r1004 - (1 : Int32))]) rfl rfl rfl ?_
                                            refine x_imul C dL_isWell_141 ?_
                                            refine x_aload_n C dL_isWell_142 rfl 3 rfl ?_
                                            refine x_iload C dL_isWell_143 5 rfl ?_
                                            obtain ⟨u1086, hu1086, hf⟩ := x_b hf
                                            refine x_xcallV (n := 1) (As := [.int x5]) (rest := [.int ((r1004 - (1 : Int32)) * r1085)]) C (c_X9_wax g l hl a b y z v c x5 hu1086) ⟨⟨wd_1293, wd_1290, wd_25⟩, ⟨by decide, by decide, by decide⟩, rfl, rfl, Nat.le_of_ble_eq_true rfl, Nat.le_of_ble_eq_true rfl⟩ wd_1291 wd_1292 ⟨0, 10, _, _, rfl, rfl, rfl⟩ [evW g a 10 e, stO g a 20 v2L, cdW g a 20 c2L, evW g a 20 e2L] (x_pickD [0, 1, 2, 3, 4, 5, 6] 7 rfl rfl rfl) rfl rfl (Nat.le_of_ble_eq_true rfl) ⟨by show _ ≤ 548; omega, by show _ ≤ 3288; omega⟩ dL_isWell_145 (fun E9 w9 hX9 => ?_) (fun v9 w9 hQ9 => ?_)
                                            · obtain ⟨k9, hk9, -⟩ := hX9
                                              cases x_sl hk9 hf
                                            · obtain ⟨r1087, hr9, rfl, rfl⟩ := hQ9
                                              have hf := x_sr hr9 hf
                                              refine x_goW (wss2 := [ccO g a b y z, stO g a 10 v, cdW g a 10 c, evW g a 10 e, stO g a 20 v2L, cdW g a 20 c2L, evW g a 20 e2L]) (stk2 := [.int r1087, .int ((r1004 - (1 : Int32)) * r1085)]) rfl rfl rfl ?_
                                              refine x_icmp_lt (tgt := 158) C dL_isWell_148 (by decide) (fun h1088 => ?_) (fun h1088 => ?_)
                                              · have hf := x_t h1088 hf
                                                refine x_iinc (v := x5 + 1) (lv' := [(5, .int (x5 + 1)), (3, .int (x3 + (1 : Int32))), (1, .long (x1 + r1006.toInt64)), (6, .int r1004), (0, .ref (a 0)), (4, .int x4)]) C dL_isWell_158 5 rfl rfl (by decide) rfl ?_
                                                refine x_goto (tgt := 19) C dL_isWell_161 (by decide) ?_
                                                refine x_locals (lv' := [(0, .ref (a 0)), (1, .long (x1 + r1006.toInt64)), (3, .int (x3 + (1 : Int32))), (4, .int x4), (5, .int (x5 + 1))]) [4, 2, 1, 5, 0] rfl ?_
                                                refine x_widen (k := kW + 12) (n := tW + 72) (by omega) (by omega) ?_
                                                exact ih (kW + 12) (tW + 72) v2L c2L e2L (x1 + r1006.toInt64) (x3 + (1 : Int32)) x4 (x5 + 1) (by omega) (by omega) hf
                                              · have hf := x_f h1088 hf
                                                refine x_iload C dL_isWell_151 2 rfl ?_
                                                refine x_if_le (tgt := 158) C dL_isWell_153 (by decide) (fun h1089 => ?_) (fun h1089 => ?_)
                                                · have hf := x_t h1089 hf
                                                  refine x_iinc (v := x5 + 1) (lv' := [(5, .int (x5 + 1)), (3, .int (x3 + (1 : Int32))), (1, .long (x1 + r1006.toInt64)), (6, .int r1004), (0, .ref (a 0)), (4, .int x4)]) C dL_isWell_158 5 rfl rfl (by decide) rfl ?_
                                                  refine x_goto (tgt := 19) C dL_isWell_161 (by decide) ?_
                                                  refine x_locals (lv' := [(0, .ref (a 0)), (1, .long (x1 + r1006.toInt64)), (3, .int (x3 + (1 : Int32))), (4, .int x4), (5, .int (x5 + 1))]) [4, 2, 1, 5, 0] rfl ?_
                                                  refine x_widen (k := kW + 12) (n := tW + 72) (by omega) (by omega) ?_
                                                  exact ih (kW + 12) (tW + 72) v2L c2L e2L (x1 + r1006.toInt64) (x3 + (1 : Int32)) x4 (x5 + 1) (by omega) (by omega) hf
                                                · have hf := x_f h1089 hf
                                                  refine x_iconst (v := 0) C dL_isWell_156 (by decide) ?_
                                                  refine x_widen (k := 548) (n := 3288) (by omega) (by omega) ?_
                                                  obtain rfl := Option.some.inj hf
                                                  exact x_zret C hr rfl ⟨rfl, rfl⟩ dL_isWell_157
  exact hL19 32 (0) (0) v2 c2 e2 ((u1 + u2).toInt64) (0 : Int32) (0 : Int32) (0 : Int32) (by omega) (by omega) hf
