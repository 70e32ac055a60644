/-! THE LAW'S CASES, by program (wip/whole/build_law.py) -/
theorem wd_64 : Cond.initialized RL ∈ xTB := xTB_in 64 (by decide +kernel) (by decide +kernel)
theorem wd_362 : Cond.methodLink RL 165 yX9_candles ∈ xTB := xTB_in 362 (by decide +kernel) (by decide +kernel)
theorem wd_363 : Cond.instanceMethod yX9_candles ∈ xTB := xTB_in 363 (by decide +kernel) (by decide +kernel)
theorem wd_364 : Cond.selects yX9_candles.cls yX9_candles yX9_candles ∈ xTB := xTB_in 364 (by decide +kernel) (by decide +kernel)
theorem wd_365 : Cond.code yX9_candles cX9_candles 1 (some .int) ∈ xTB := xTB_in 365 (by decide +kernel) (by decide +kernel)
theorem wd_366 : Cond.methodLink RL 181 yX9_litCandles ∈ xTB := xTB_in 366 (by decide +kernel) (by decide +kernel)
theorem wd_367 : Cond.instanceMethod yX9_litCandles ∈ xTB := xTB_in 367 (by decide +kernel) (by decide +kernel)
theorem wd_368 : Cond.selects yX9_litCandles.cls yX9_litCandles yX9_litCandles ∈ xTB := xTB_in 368 (by decide +kernel) (by decide +kernel)
theorem wd_369 : Cond.code yX9_litCandles cX9_litCandles 1 (some .int) ∈ xTB := xTB_in 369 (by decide +kernel) (by decide +kernel)
theorem wd_374 : Cond.methodLink RL 198 yX9_events ∈ xTB := xTB_in 374 (by decide +kernel) (by decide +kernel)
theorem wd_375 : Cond.instanceMethod yX9_events ∈ xTB := xTB_in 375 (by decide +kernel) (by decide +kernel)
theorem wd_376 : Cond.selects yX9_events.cls yX9_events yX9_events ∈ xTB := xTB_in 376 (by decide +kernel) (by decide +kernel)
theorem wd_377 : Cond.code yX9_events cX9_events 1 (some .int) ∈ xTB := xTB_in 377 (by decide +kernel) (by decide +kernel)
theorem wd_378 : Cond.methodLink RL 211 yX9_failedEvents ∈ xTB := xTB_in 378 (by decide +kernel) (by decide +kernel)
theorem wd_379 : Cond.instanceMethod yX9_failedEvents ∈ xTB := xTB_in 379 (by decide +kernel) (by decide +kernel)
theorem wd_380 : Cond.selects yX9_failedEvents.cls yX9_failedEvents yX9_failedEvents ∈ xTB := xTB_in 380 (by decide +kernel) (by decide +kernel)
theorem wd_381 : Cond.code yX9_failedEvents cX9_failedEvents 1 (some .int) ∈ xTB := xTB_in 381 (by decide +kernel) (by decide +kernel)
theorem wd_382 : Cond.methodLink RL 219 yX9_time ∈ xTB := xTB_in 382 (by decide +kernel) (by decide +kernel)
theorem wd_383 : Cond.instanceMethod yX9_time ∈ xTB := xTB_in 383 (by decide +kernel) (by decide +kernel)
theorem wd_384 : Cond.selects yX9_time.cls yX9_time yX9_time ∈ xTB := xTB_in 384 (by decide +kernel) (by decide +kernel)
theorem wd_385 : Cond.code yX9_time cX9_time 1 (some .int) ∈ xTB := xTB_in 385 (by decide +kernel) (by decide +kernel)
theorem wd_386 : Cond.methodLink RL 223 yX9_draught ∈ xTB := xTB_in 386 (by decide +kernel) (by decide +kernel)
theorem wd_387 : Cond.instanceMethod yX9_draught ∈ xTB := xTB_in 387 (by decide +kernel) (by decide +kernel)
theorem wd_388 : Cond.selects yX9_draught.cls yX9_draught yX9_draught ∈ xTB := xTB_in 388 (by decide +kernel) (by decide +kernel)
theorem wd_389 : Cond.code yX9_draught cX9_draught 1 (some .int) ∈ xTB := xTB_in 389 (by decide +kernel) (by decide +kernel)
theorem wd_390 : Cond.methodLink RL 227 yX9_dish ∈ xTB := xTB_in 390 (by decide +kernel) (by decide +kernel)
theorem wd_391 : Cond.instanceMethod yX9_dish ∈ xTB := xTB_in 391 (by decide +kernel) (by decide +kernel)
theorem wd_392 : Cond.selects yX9_dish.cls yX9_dish yX9_dish ∈ xTB := xTB_in 392 (by decide +kernel) (by decide +kernel)
theorem wd_393 : Cond.code yX9_dish cX9_dish 1 (some .int) ∈ xTB := xTB_in 393 (by decide +kernel) (by decide +kernel)
theorem wd_394 : Cond.methodLink RL 231 yX9_minutesUntilDark ∈ xTB := xTB_in 394 (by decide +kernel) (by decide +kernel)
theorem wd_459 : Cond.methodLink RL 235 yX9_minutesUntilDarkByLeaps ∈ xTB := xTB_in 459 (by decide +kernel) (by decide +kernel)
theorem wd_477 : Cond.methodLink RL 245 yX9_addedWax ∈ xTB := xTB_in 477 (by decide +kernel) (by decide +kernel)
theorem wd_481 : Cond.methodLink RL 250 yX9_addedWaxByParts ∈ xTB := xTB_in 481 (by decide +kernel) (by decide +kernel)
theorem wd_489 : Cond.methodLink RL 254 yX9_burnt ∈ xTB := xTB_in 489 (by decide +kernel) (by decide +kernel)
theorem wd_490 : Cond.instanceMethod yX9_burnt ∈ xTB := xTB_in 490 (by decide +kernel) (by decide +kernel)
theorem wd_491 : Cond.selects yX9_burnt.cls yX9_burnt yX9_burnt ∈ xTB := xTB_in 491 (by decide +kernel) (by decide +kernel)
theorem wd_492 : Cond.code yX9_burnt cX9_burnt 1 (some .int) ∈ xTB := xTB_in 492 (by decide +kernel) (by decide +kernel)
theorem wd_493 : Cond.methodLink RL 265 yX9_isConsistent ∈ xTB := xTB_in 493 (by decide +kernel) (by decide +kernel)
theorem wd_494 : Cond.instanceMethod yX9_isConsistent ∈ xTB := xTB_in 494 (by decide +kernel) (by decide +kernel)
theorem wd_495 : Cond.selects yX9_isConsistent.cls yX9_isConsistent yX9_isConsistent ∈ xTB := xTB_in 495 (by decide +kernel) (by decide +kernel)
theorem wd_496 : Cond.code yX9_isConsistent cX9_isConsistent 4 (some .boolean) ∈ xTB := xTB_in 496 (by decide +kernel) (by decide +kernel)
theorem wd_506 : Cond.methodLink RL 273 yX9_writeEvents ∈ xTB := xTB_in 506 (by decide +kernel) (by decide +kernel)
theorem wd_507 : Cond.instanceMethod yX9_writeEvents ∈ xTB := xTB_in 507 (by decide +kernel) (by decide +kernel)
theorem wd_508 : Cond.selects yX9_writeEvents.cls yX9_writeEvents yX9_writeEvents ∈ xTB := xTB_in 508 (by decide +kernel) (by decide +kernel)
theorem wd_509 : Cond.code yX9_writeEvents cX9_writeEvents 2 (some .int) ∈ xTB := xTB_in 509 (by decide +kernel) (by decide +kernel)
theorem wd_879 : Cond.methodLink RL 295 yX9_save ∈ xTB := xTB_in 879 (by decide +kernel) (by decide +kernel)
theorem wd_880 : Cond.instanceMethod yX9_save ∈ xTB := xTB_in 880 (by decide +kernel) (by decide +kernel)
theorem wd_881 : Cond.selects yX9_save.cls yX9_save yX9_save ∈ xTB := xTB_in 881 (by decide +kernel) (by decide +kernel)
theorem wd_882 : Cond.code yX9_save cX9_save 1 (some .int) ∈ xTB := xTB_in 882 (by decide +kernel) (by decide +kernel)
theorem wd_883 : Cond.methodLink RL 132 yL_addCandle ∈ xTB := xTB_in 883 (by decide +kernel) (by decide +kernel)
theorem wd_884 : Cond.static yL_addCandle ∈ xTB := xTB_in 884 (by decide +kernel) (by decide +kernel)
theorem wd_885 : Cond.codeWith yL_addCandle cL_addCandle 6 (some .int) [(0, 12, 15, 13), (0, 12, 19, 15)] ∈ xTB := xTB_in 885 (by decide +kernel) (by decide +kernel)
theorem wd_984 : Cond.methodLink RL 141 yL_light ∈ xTB := xTB_in 984 (by decide +kernel) (by decide +kernel)
theorem wd_985 : Cond.static yL_light ∈ xTB := xTB_in 985 (by decide +kernel) (by decide +kernel)
theorem wd_986 : Cond.codeWith yL_light cL_light 4 (some .int) [(0, 9, 12, 21), (0, 9, 15, 15), (0, 9, 18, 23)] ∈ xTB := xTB_in 986 (by decide +kernel) (by decide +kernel)
theorem wd_1009 : Cond.methodLink RL 145 yL_snuff ∈ xTB := xTB_in 1009 (by decide +kernel) (by decide +kernel)
theorem wd_1010 : Cond.static yL_snuff ∈ xTB := xTB_in 1010 (by decide +kernel) (by decide +kernel)
theorem wd_1011 : Cond.codeWith yL_snuff cL_snuff 4 (some .int) [(0, 9, 12, 21), (0, 9, 15, 15)] ∈ xTB := xTB_in 1011 (by decide +kernel) (by decide +kernel)
theorem wd_1026 : Cond.methodLink RL 148 yL_pour ∈ xTB := xTB_in 1026 (by decide +kernel) (by decide +kernel)
theorem wd_1027 : Cond.static yL_pour ∈ xTB := xTB_in 1027 (by decide +kernel) (by decide +kernel)
theorem wd_1028 : Cond.codeWith yL_pour cL_pour 5 (some .int) [(0, 10, 13, 21), (0, 10, 17, 13), (0, 10, 21, 15), (0, 10, 25, 23)] ∈ xTB := xTB_in 1028 (by decide +kernel) (by decide +kernel)
theorem wd_1045 : Cond.methodLink RL 152 yL_setDraught ∈ xTB := xTB_in 1045 (by decide +kernel) (by decide +kernel)
theorem wd_1046 : Cond.static yL_setDraught ∈ xTB := xTB_in 1046 (by decide +kernel) (by decide +kernel)
theorem wd_1047 : Cond.codeWith yL_setDraught cL_setDraught 4 (some .int) [(0, 9, 12, 13)] ∈ xTB := xTB_in 1047 (by decide +kernel) (by decide +kernel)
theorem wd_1060 : Cond.methodLink RL 155 yL_schedule ∈ xTB := xTB_in 1060 (by decide +kernel) (by decide +kernel)
theorem wd_1061 : Cond.static yL_schedule ∈ xTB := xTB_in 1061 (by decide +kernel) (by decide +kernel)
theorem wd_1062 : Cond.codeWith yL_schedule cL_schedule 6 (some .int) [(0, 12, 15, 13), (0, 12, 19, 21), (0, 12, 23, 15)] ∈ xTB := xTB_in 1062 (by decide +kernel) (by decide +kernel)
theorem wd_1082 : Cond.methodLink RL 159 yL_unschedule ∈ xTB := xTB_in 1082 (by decide +kernel) (by decide +kernel)
theorem wd_1083 : Cond.static yL_unschedule ∈ xTB := xTB_in 1083 (by decide +kernel) (by decide +kernel)
theorem wd_1084 : Cond.codeWith yL_unschedule cL_unschedule 4 (some .int) [(0, 9, 12, 21)] ∈ xTB := xTB_in 1084 (by decide +kernel) (by decide +kernel)
theorem wd_1096 : Cond.methodLink RL 162 yL_pass ∈ xTB := xTB_in 1096 (by decide +kernel) (by decide +kernel)
theorem wd_1097 : Cond.static yL_pass ∈ xTB := xTB_in 1097 (by decide +kernel) (by decide +kernel)
theorem wd_1098 : Cond.codeWith yL_pass cL_pass 4 (some .int) [(0, 9, 12, 13)] ∈ xTB := xTB_in 1098 (by decide +kernel) (by decide +kernel)
theorem wd_1111 : Cond.methodLink RL 169 yL_voice ∈ xTB := xTB_in 1111 (by decide +kernel) (by decide +kernel)
theorem wd_1112 : Cond.static yL_voice ∈ xTB := xTB_in 1112 (by decide +kernel) (by decide +kernel)
theorem wd_1113 : Cond.codeWith yL_voice cL_voice 4 (some .int) [(0, 9, 12, 21)] ∈ xTB := xTB_in 1113 (by decide +kernel) (by decide +kernel)
theorem wd_1123 : Cond.methodLink RL 172 yL_wax ∈ xTB := xTB_in 1123 (by decide +kernel) (by decide +kernel)
theorem wd_1124 : Cond.static yL_wax ∈ xTB := xTB_in 1124 (by decide +kernel) (by decide +kernel)
theorem wd_1125 : Cond.codeWith yL_wax cL_wax 4 (some .int) [(0, 9, 12, 21)] ∈ xTB := xTB_in 1125 (by decide +kernel) (by decide +kernel)
theorem wd_1130 : Cond.methodLink RL 175 yL_consumption ∈ xTB := xTB_in 1130 (by decide +kernel) (by decide +kernel)
theorem wd_1131 : Cond.static yL_consumption ∈ xTB := xTB_in 1131 (by decide +kernel) (by decide +kernel)
theorem wd_1132 : Cond.codeWith yL_consumption cL_consumption 4 (some .int) [(0, 9, 12, 21)] ∈ xTB := xTB_in 1132 (by decide +kernel) (by decide +kernel)
theorem wd_1138 : Cond.methodLink RL 178 yL_isLit ∈ xTB := xTB_in 1138 (by decide +kernel) (by decide +kernel)
theorem wd_1139 : Cond.static yL_isLit ∈ xTB := xTB_in 1139 (by decide +kernel) (by decide +kernel)
theorem wd_1140 : Cond.codeWith yL_isLit cL_isLit 4 (some .int) [(0, 16, 19, 21)] ∈ xTB := xTB_in 1140 (by decide +kernel) (by decide +kernel)
theorem wd_1145 : Cond.methodLink RL 185 yL_sounding ∈ xTB := xTB_in 1145 (by decide +kernel) (by decide +kernel)
theorem wd_1146 : Cond.static yL_sounding ∈ xTB := xTB_in 1146 (by decide +kernel) (by decide +kernel)
theorem wd_1147 : Cond.codeWith yL_sounding cL_sounding 4 (some .int) [(0, 9, 12, 13)] ∈ xTB := xTB_in 1147 (by decide +kernel) (by decide +kernel)
theorem wd_1157 : Cond.methodLink RL 189 yL_minutesLeft ∈ xTB := xTB_in 1157 (by decide +kernel) (by decide +kernel)
theorem wd_1158 : Cond.static yL_minutesLeft ∈ xTB := xTB_in 1158 (by decide +kernel) (by decide +kernel)
theorem wd_1159 : Cond.codeWith yL_minutesLeft cL_minutesLeft 4 (some .int) [(0, 9, 12, 21)] ∈ xTB := xTB_in 1159 (by decide +kernel) (by decide +kernel)
theorem wd_1164 : Cond.methodLink RL 192 yL_minutesLeftByBurning ∈ xTB := xTB_in 1164 (by decide +kernel) (by decide +kernel)
theorem wd_1165 : Cond.static yL_minutesLeftByBurning ∈ xTB := xTB_in 1165 (by decide +kernel) (by decide +kernel)
theorem wd_1166 : Cond.codeWith yL_minutesLeftByBurning cL_minutesLeftByBurning 4 (some .int) [(0, 9, 12, 21)] ∈ xTB := xTB_in 1166 (by decide +kernel) (by decide +kernel)
theorem wd_1171 : Cond.methodLink RL 195 yL_candleByWax ∈ xTB := xTB_in 1171 (by decide +kernel) (by decide +kernel)
theorem wd_1172 : Cond.static yL_candleByWax ∈ xTB := xTB_in 1172 (by decide +kernel) (by decide +kernel)
theorem wd_1173 : Cond.codeWith yL_candleByWax cL_candleByWax 4 (some .int) [(0, 9, 12, 72)] ∈ xTB := xTB_in 1173 (by decide +kernel) (by decide +kernel)
theorem wd_1203 : Cond.methodLink RL 202 yL_eventMinute ∈ xTB := xTB_in 1203 (by decide +kernel) (by decide +kernel)
theorem wd_1204 : Cond.static yL_eventMinute ∈ xTB := xTB_in 1204 (by decide +kernel) (by decide +kernel)
theorem wd_1205 : Cond.codeWith yL_eventMinute cL_eventMinute 4 (some .int) [(0, 9, 12, 21)] ∈ xTB := xTB_in 1205 (by decide +kernel) (by decide +kernel)
theorem wd_1210 : Cond.methodLink RL 205 yL_eventCandle ∈ xTB := xTB_in 1210 (by decide +kernel) (by decide +kernel)
theorem wd_1211 : Cond.static yL_eventCandle ∈ xTB := xTB_in 1211 (by decide +kernel) (by decide +kernel)
theorem wd_1212 : Cond.codeWith yL_eventCandle cL_eventCandle 4 (some .int) [(0, 9, 12, 21)] ∈ xTB := xTB_in 1212 (by decide +kernel) (by decide +kernel)
theorem wd_1217 : Cond.methodLink RL 208 yL_isLighting ∈ xTB := xTB_in 1217 (by decide +kernel) (by decide +kernel)
theorem wd_1218 : Cond.static yL_isLighting ∈ xTB := xTB_in 1218 (by decide +kernel) (by decide +kernel)
theorem wd_1219 : Cond.codeWith yL_isLighting cL_isLighting 4 (some .int) [(0, 16, 19, 21)] ∈ xTB := xTB_in 1219 (by decide +kernel) (by decide +kernel)
theorem wd_1224 : Cond.methodLink RL 215 yL_failureReason ∈ xTB := xTB_in 1224 (by decide +kernel) (by decide +kernel)
theorem wd_1225 : Cond.static yL_failureReason ∈ xTB := xTB_in 1225 (by decide +kernel) (by decide +kernel)
theorem wd_1226 : Cond.codeWith yL_failureReason cL_failureReason 3 (some .int) [(0, 8, 11, 72)] ∈ xTB := xTB_in 1226 (by decide +kernel) (by decide +kernel)
theorem wd_1232 : Cond.methodLink RL 239 yL_lastCandle ∈ xTB := xTB_in 1232 (by decide +kernel) (by decide +kernel)
theorem wd_1233 : Cond.static yL_lastCandle ∈ xTB := xTB_in 1233 (by decide +kernel) (by decide +kernel)
theorem wd_1234 : Cond.codeWith yL_lastCandle cL_lastCandle 3 (some .int) [(0, 8, 11, 72)] ∈ xTB := xTB_in 1234 (by decide +kernel) (by decide +kernel)
theorem wd_1240 : Cond.methodLink RL 242 yL_loudestVoice ∈ xTB := xTB_in 1240 (by decide +kernel) (by decide +kernel)
theorem wd_1241 : Cond.static yL_loudestVoice ∈ xTB := xTB_in 1241 (by decide +kernel) (by decide +kernel)
theorem wd_1242 : Cond.codeWith yL_loudestVoice cL_loudestVoice 3 (some .int) [(0, 8, 11, 72)] ∈ xTB := xTB_in 1242 (by decide +kernel) (by decide +kernel)
theorem wd_1254 : Cond.methodLink RL 258 yL_meanWax ∈ xTB := xTB_in 1254 (by decide +kernel) (by decide +kernel)
theorem wd_1255 : Cond.static yL_meanWax ∈ xTB := xTB_in 1255 (by decide +kernel) (by decide +kernel)
theorem wd_1256 : Cond.codeWith yL_meanWax cL_meanWax 3 (some .int) [(0, 7, 10, 98)] ∈ xTB := xTB_in 1256 (by decide +kernel) (by decide +kernel)
theorem wd_1278 : Cond.methodLink RL 262 yL_litShare ∈ xTB := xTB_in 1278 (by decide +kernel) (by decide +kernel)
theorem wd_1279 : Cond.static yL_litShare ∈ xTB := xTB_in 1279 (by decide +kernel) (by decide +kernel)
theorem wd_1280 : Cond.codeWith yL_litShare cL_litShare 3 (some .int) [(0, 8, 11, 98)] ∈ xTB := xTB_in 1280 (by decide +kernel) (by decide +kernel)
theorem wd_1285 : Cond.methodLink RL 270 yL_writeCandle ∈ xTB := xTB_in 1285 (by decide +kernel) (by decide +kernel)
theorem wd_1286 : Cond.static yL_writeCandle ∈ xTB := xTB_in 1286 (by decide +kernel) (by decide +kernel)
theorem wd_1287 : Cond.codeWith yL_writeCandle cL_writeCandle 4 (some .int) [(0, 9, 12, 21)] ∈ xTB := xTB_in 1287 (by decide +kernel) (by decide +kernel)
theorem wd_1292 : Cond.methodLink RL 277 yL_charAt ∈ xTB := xTB_in 1292 (by decide +kernel) (by decide +kernel)
theorem wd_1293 : Cond.static yL_charAt ∈ xTB := xTB_in 1293 (by decide +kernel) (by decide +kernel)
theorem wd_1294 : Cond.codeWith yL_charAt cL_charAt 4 (some .int) [(0, 9, 12, 21)] ∈ xTB := xTB_in 1294 (by decide +kernel) (by decide +kernel)
theorem wd_1310 : Cond.methodLink RL 280 yL_type ∈ xTB := xTB_in 1310 (by decide +kernel) (by decide +kernel)
theorem wd_1311 : Cond.static yL_type ∈ xTB := xTB_in 1311 (by decide +kernel) (by decide +kernel)
theorem wd_1312 : Cond.codeWith yL_type cL_type 4 (some .int) [(0, 9, 12, 15)] ∈ xTB := xTB_in 1312 (by decide +kernel) (by decide +kernel)
theorem wd_1327 : Cond.methodLink RL 283 yL_run ∈ xTB := xTB_in 1327 (by decide +kernel) (by decide +kernel)
theorem wd_1328 : Cond.static yL_run ∈ xTB := xTB_in 1328 (by decide +kernel) (by decide +kernel)
theorem wd_1329 : Cond.codeWith yL_run cL_run 3 (some .int) [(0, 8, 11, 13), (0, 8, 14, 23)] ∈ xTB := xTB_in 1329 (by decide +kernel) (by decide +kernel)
theorem wd_1446 : Cond.methodLink RL 286 yL_errorPosition ∈ xTB := xTB_in 1446 (by decide +kernel) (by decide +kernel)
theorem wd_1447 : Cond.static yL_errorPosition ∈ xTB := xTB_in 1447 (by decide +kernel) (by decide +kernel)
theorem wd_1448 : Cond.codeWith yL_errorPosition cL_errorPosition 3 (some .int) [(0, 8, 11, 72)] ∈ xTB := xTB_in 1448 (by decide +kernel) (by decide +kernel)
theorem wd_1454 : Cond.methodLink RL 289 yL_failedCommand ∈ xTB := xTB_in 1454 (by decide +kernel) (by decide +kernel)
theorem wd_1455 : Cond.static yL_failedCommand ∈ xTB := xTB_in 1455 (by decide +kernel) (by decide +kernel)
theorem wd_1456 : Cond.codeWith yL_failedCommand cL_failedCommand 3 (some .int) [(0, 8, 11, 72)] ∈ xTB := xTB_in 1456 (by decide +kernel) (by decide +kernel)
theorem wd_1462 : Cond.methodLink RL 292 yL_undo ∈ xTB := xTB_in 1462 (by decide +kernel) (by decide +kernel)
theorem wd_1463 : Cond.static yL_undo ∈ xTB := xTB_in 1463 (by decide +kernel) (by decide +kernel)
theorem wd_1464 : Cond.codeWith yL_undo cL_undo 3 (some .int) [(0, 8, 11, 15)] ∈ xTB := xTB_in 1464 (by decide +kernel) (by decide +kernel)
theorem wd_1474 : Cond.methodLink RL 299 yL_restore ∈ xTB := xTB_in 1474 (by decide +kernel) (by decide +kernel)
theorem wd_1475 : Cond.static yL_restore ∈ xTB := xTB_in 1475 (by decide +kernel) (by decide +kernel)
theorem wd_1476 : Cond.codeWith yL_restore cL_restore 3 (some .int) [(0, 8, 11, 15)] ∈ xTB := xTB_in 1476 (by decide +kernel) (by decide +kernel)
theorem wd_1547 : Cond.methodLink RL 138 yX10_thrown ∈ xTB := xTB_in 1547 (by decide +kernel) (by decide +kernel)
theorem wd_1548 : Cond.instanceMethod yX10_thrown ∈ xTB := xTB_in 1548 (by decide +kernel) (by decide +kernel)
theorem wd_1549 : Cond.selects yX10_thrown.cls yX10_thrown yX10_thrown ∈ xTB := xTB_in 1549 (by decide +kernel) (by decide +kernel)
theorem wd_1550 : Cond.code yX10_thrown cX10_thrown 1 (some .int) ∈ xTB := xTB_in 1550 (by decide +kernel) (by decide +kernel)
theorem wd_1551 : Cond.methodLink RL 137 yX10_addCandle ∈ xTB := xTB_in 1551 (by decide +kernel) (by decide +kernel)
theorem wd_1552 : Cond.instanceMethod yX10_addCandle ∈ xTB := xTB_in 1552 (by decide +kernel) (by decide +kernel)
theorem wd_1553 : Cond.selects yX10_addCandle.cls yX10_addCandle yX10_addCandle ∈ xTB := xTB_in 1553 (by decide +kernel) (by decide +kernel)
theorem wd_1554 : Cond.code yX10_addCandle cX10_addCandle 4 (some .int) ∈ xTB := xTB_in 1554 (by decide +kernel) (by decide +kernel)
theorem wd_1584 : Cond.methodLink RL 144 yX10_light ∈ xTB := xTB_in 1584 (by decide +kernel) (by decide +kernel)
theorem wd_1585 : Cond.instanceMethod yX10_light ∈ xTB := xTB_in 1585 (by decide +kernel) (by decide +kernel)
theorem wd_1586 : Cond.selects yX10_light.cls yX10_light yX10_light ∈ xTB := xTB_in 1586 (by decide +kernel) (by decide +kernel)
theorem wd_1587 : Cond.code yX10_light cX10_light 2 (some .int) ∈ xTB := xTB_in 1587 (by decide +kernel) (by decide +kernel)
theorem wd_1604 : Cond.methodLink RL 147 yX10_snuff ∈ xTB := xTB_in 1604 (by decide +kernel) (by decide +kernel)
theorem wd_1605 : Cond.instanceMethod yX10_snuff ∈ xTB := xTB_in 1605 (by decide +kernel) (by decide +kernel)
theorem wd_1606 : Cond.selects yX10_snuff.cls yX10_snuff yX10_snuff ∈ xTB := xTB_in 1606 (by decide +kernel) (by decide +kernel)
theorem wd_1607 : Cond.code yX10_snuff cX10_snuff 2 (some .int) ∈ xTB := xTB_in 1607 (by decide +kernel) (by decide +kernel)
theorem wd_1612 : Cond.methodLink RL 151 yX10_pour ∈ xTB := xTB_in 1612 (by decide +kernel) (by decide +kernel)
theorem wd_1613 : Cond.instanceMethod yX10_pour ∈ xTB := xTB_in 1613 (by decide +kernel) (by decide +kernel)
theorem wd_1614 : Cond.selects yX10_pour.cls yX10_pour yX10_pour ∈ xTB := xTB_in 1614 (by decide +kernel) (by decide +kernel)
theorem wd_1615 : Cond.code yX10_pour cX10_pour 3 (some .int) ∈ xTB := xTB_in 1615 (by decide +kernel) (by decide +kernel)
theorem wd_1620 : Cond.methodLink RL 154 yX10_setDraught ∈ xTB := xTB_in 1620 (by decide +kernel) (by decide +kernel)
theorem wd_1621 : Cond.instanceMethod yX10_setDraught ∈ xTB := xTB_in 1621 (by decide +kernel) (by decide +kernel)
theorem wd_1622 : Cond.selects yX10_setDraught.cls yX10_setDraught yX10_setDraught ∈ xTB := xTB_in 1622 (by decide +kernel) (by decide +kernel)
theorem wd_1623 : Cond.code yX10_setDraught cX10_setDraught 2 (some .int) ∈ xTB := xTB_in 1623 (by decide +kernel) (by decide +kernel)
theorem wd_1628 : Cond.methodLink RL 158 yX10_schedule ∈ xTB := xTB_in 1628 (by decide +kernel) (by decide +kernel)
theorem wd_1629 : Cond.instanceMethod yX10_schedule ∈ xTB := xTB_in 1629 (by decide +kernel) (by decide +kernel)
theorem wd_1630 : Cond.selects yX10_schedule.cls yX10_schedule yX10_schedule ∈ xTB := xTB_in 1630 (by decide +kernel) (by decide +kernel)
theorem wd_1631 : Cond.code yX10_schedule cX10_schedule 4 (some .int) ∈ xTB := xTB_in 1631 (by decide +kernel) (by decide +kernel)
theorem wd_1640 : Cond.methodLink RL 161 yX10_unschedule ∈ xTB := xTB_in 1640 (by decide +kernel) (by decide +kernel)
theorem wd_1641 : Cond.instanceMethod yX10_unschedule ∈ xTB := xTB_in 1641 (by decide +kernel) (by decide +kernel)
theorem wd_1642 : Cond.selects yX10_unschedule.cls yX10_unschedule yX10_unschedule ∈ xTB := xTB_in 1642 (by decide +kernel) (by decide +kernel)
theorem wd_1643 : Cond.code yX10_unschedule cX10_unschedule 2 (some .int) ∈ xTB := xTB_in 1643 (by decide +kernel) (by decide +kernel)
theorem wd_1656 : Cond.methodLink RL 164 yX10_pass ∈ xTB := xTB_in 1656 (by decide +kernel) (by decide +kernel)
theorem wd_1657 : Cond.instanceMethod yX10_pass ∈ xTB := xTB_in 1657 (by decide +kernel) (by decide +kernel)
theorem wd_1658 : Cond.selects yX10_pass.cls yX10_pass yX10_pass ∈ xTB := xTB_in 1658 (by decide +kernel) (by decide +kernel)
theorem wd_1659 : Cond.code yX10_pass cX10_pass 2 (some .int) ∈ xTB := xTB_in 1659 (by decide +kernel) (by decide +kernel)
theorem wd_1684 : Cond.methodLink RL 168 yX10_candles ∈ xTB := xTB_in 1684 (by decide +kernel) (by decide +kernel)
theorem wd_1685 : Cond.instanceMethod yX10_candles ∈ xTB := xTB_in 1685 (by decide +kernel) (by decide +kernel)
theorem wd_1686 : Cond.selects yX10_candles.cls yX10_candles yX10_candles ∈ xTB := xTB_in 1686 (by decide +kernel) (by decide +kernel)
theorem wd_1687 : Cond.code yX10_candles cX10_candles 1 (some .int) ∈ xTB := xTB_in 1687 (by decide +kernel) (by decide +kernel)
theorem wd_1688 : Cond.methodLink RL 171 yX10_voice ∈ xTB := xTB_in 1688 (by decide +kernel) (by decide +kernel)
theorem wd_1689 : Cond.instanceMethod yX10_voice ∈ xTB := xTB_in 1689 (by decide +kernel) (by decide +kernel)
theorem wd_1690 : Cond.selects yX10_voice.cls yX10_voice yX10_voice ∈ xTB := xTB_in 1690 (by decide +kernel) (by decide +kernel)
theorem wd_1691 : Cond.code yX10_voice cX10_voice 2 (some .char) ∈ xTB := xTB_in 1691 (by decide +kernel) (by decide +kernel)
theorem wd_1692 : Cond.methodLink RL 174 yX10_wax ∈ xTB := xTB_in 1692 (by decide +kernel) (by decide +kernel)
theorem wd_1693 : Cond.instanceMethod yX10_wax ∈ xTB := xTB_in 1693 (by decide +kernel) (by decide +kernel)
theorem wd_1694 : Cond.selects yX10_wax.cls yX10_wax yX10_wax ∈ xTB := xTB_in 1694 (by decide +kernel) (by decide +kernel)
theorem wd_1695 : Cond.code yX10_wax cX10_wax 2 (some .int) ∈ xTB := xTB_in 1695 (by decide +kernel) (by decide +kernel)
theorem wd_1696 : Cond.methodLink RL 177 yX10_consumption ∈ xTB := xTB_in 1696 (by decide +kernel) (by decide +kernel)
theorem wd_1697 : Cond.instanceMethod yX10_consumption ∈ xTB := xTB_in 1697 (by decide +kernel) (by decide +kernel)
theorem wd_1698 : Cond.selects yX10_consumption.cls yX10_consumption yX10_consumption ∈ xTB := xTB_in 1698 (by decide +kernel) (by decide +kernel)
theorem wd_1699 : Cond.code yX10_consumption cX10_consumption 2 (some .int) ∈ xTB := xTB_in 1699 (by decide +kernel) (by decide +kernel)
theorem wd_1700 : Cond.methodLink RL 180 yX10_isLit ∈ xTB := xTB_in 1700 (by decide +kernel) (by decide +kernel)
theorem wd_1701 : Cond.instanceMethod yX10_isLit ∈ xTB := xTB_in 1701 (by decide +kernel) (by decide +kernel)
theorem wd_1702 : Cond.selects yX10_isLit.cls yX10_isLit yX10_isLit ∈ xTB := xTB_in 1702 (by decide +kernel) (by decide +kernel)
theorem wd_1703 : Cond.code yX10_isLit cX10_isLit 2 (some .boolean) ∈ xTB := xTB_in 1703 (by decide +kernel) (by decide +kernel)
theorem wd_1704 : Cond.methodLink RL 184 yX10_litCandles ∈ xTB := xTB_in 1704 (by decide +kernel) (by decide +kernel)
theorem wd_1705 : Cond.instanceMethod yX10_litCandles ∈ xTB := xTB_in 1705 (by decide +kernel) (by decide +kernel)
theorem wd_1706 : Cond.selects yX10_litCandles.cls yX10_litCandles yX10_litCandles ∈ xTB := xTB_in 1706 (by decide +kernel) (by decide +kernel)
theorem wd_1707 : Cond.code yX10_litCandles cX10_litCandles 1 (some .int) ∈ xTB := xTB_in 1707 (by decide +kernel) (by decide +kernel)
theorem wd_1708 : Cond.methodLink RL 188 yX10_sounding ∈ xTB := xTB_in 1708 (by decide +kernel) (by decide +kernel)
theorem wd_1709 : Cond.instanceMethod yX10_sounding ∈ xTB := xTB_in 1709 (by decide +kernel) (by decide +kernel)
theorem wd_1710 : Cond.selects yX10_sounding.cls yX10_sounding yX10_sounding ∈ xTB := xTB_in 1710 (by decide +kernel) (by decide +kernel)
theorem wd_1711 : Cond.code yX10_sounding cX10_sounding 2 (some .int) ∈ xTB := xTB_in 1711 (by decide +kernel) (by decide +kernel)
theorem wd_1716 : Cond.methodLink RL 191 yX10_minutesLeft ∈ xTB := xTB_in 1716 (by decide +kernel) (by decide +kernel)
theorem wd_1720 : Cond.methodLink RL 194 yX10_minutesLeftByBurning ∈ xTB := xTB_in 1720 (by decide +kernel) (by decide +kernel)
theorem wd_1721 : Cond.instanceMethod yX10_minutesLeftByBurning ∈ xTB := xTB_in 1721 (by decide +kernel) (by decide +kernel)
theorem wd_1722 : Cond.selects yX10_minutesLeftByBurning.cls yX10_minutesLeftByBurning yX10_minutesLeftByBurning ∈ xTB := xTB_in 1722 (by decide +kernel) (by decide +kernel)
theorem wd_1723 : Cond.code yX10_minutesLeftByBurning cX10_minutesLeftByBurning 2 (some .int) ∈ xTB := xTB_in 1723 (by decide +kernel) (by decide +kernel)
theorem wd_1725 : Cond.methodLink RL 197 yX10_candleByWax ∈ xTB := xTB_in 1725 (by decide +kernel) (by decide +kernel)
theorem wd_1726 : Cond.instanceMethod yX10_candleByWax ∈ xTB := xTB_in 1726 (by decide +kernel) (by decide +kernel)
theorem wd_1727 : Cond.selects yX10_candleByWax.cls yX10_candleByWax yX10_candleByWax ∈ xTB := xTB_in 1727 (by decide +kernel) (by decide +kernel)
theorem wd_1728 : Cond.code yX10_candleByWax cX10_candleByWax 6 (some .int) ∈ xTB := xTB_in 1728 (by decide +kernel) (by decide +kernel)
theorem wd_1729 : Cond.methodLink RL 201 yX10_events ∈ xTB := xTB_in 1729 (by decide +kernel) (by decide +kernel)
theorem wd_1730 : Cond.instanceMethod yX10_events ∈ xTB := xTB_in 1730 (by decide +kernel) (by decide +kernel)
theorem wd_1731 : Cond.selects yX10_events.cls yX10_events yX10_events ∈ xTB := xTB_in 1731 (by decide +kernel) (by decide +kernel)
theorem wd_1732 : Cond.code yX10_events cX10_events 1 (some .int) ∈ xTB := xTB_in 1732 (by decide +kernel) (by decide +kernel)
theorem wd_1733 : Cond.methodLink RL 204 yX10_eventMinute ∈ xTB := xTB_in 1733 (by decide +kernel) (by decide +kernel)
theorem wd_1734 : Cond.instanceMethod yX10_eventMinute ∈ xTB := xTB_in 1734 (by decide +kernel) (by decide +kernel)
theorem wd_1735 : Cond.selects yX10_eventMinute.cls yX10_eventMinute yX10_eventMinute ∈ xTB := xTB_in 1735 (by decide +kernel) (by decide +kernel)
theorem wd_1736 : Cond.code yX10_eventMinute cX10_eventMinute 2 (some .int) ∈ xTB := xTB_in 1736 (by decide +kernel) (by decide +kernel)
theorem wd_1737 : Cond.methodLink RL 207 yX10_eventCandle ∈ xTB := xTB_in 1737 (by decide +kernel) (by decide +kernel)
theorem wd_1738 : Cond.instanceMethod yX10_eventCandle ∈ xTB := xTB_in 1738 (by decide +kernel) (by decide +kernel)
theorem wd_1739 : Cond.selects yX10_eventCandle.cls yX10_eventCandle yX10_eventCandle ∈ xTB := xTB_in 1739 (by decide +kernel) (by decide +kernel)
theorem wd_1740 : Cond.code yX10_eventCandle cX10_eventCandle 2 (some .int) ∈ xTB := xTB_in 1740 (by decide +kernel) (by decide +kernel)
theorem wd_1741 : Cond.methodLink RL 210 yX10_isLighting ∈ xTB := xTB_in 1741 (by decide +kernel) (by decide +kernel)
theorem wd_1742 : Cond.instanceMethod yX10_isLighting ∈ xTB := xTB_in 1742 (by decide +kernel) (by decide +kernel)
theorem wd_1743 : Cond.selects yX10_isLighting.cls yX10_isLighting yX10_isLighting ∈ xTB := xTB_in 1743 (by decide +kernel) (by decide +kernel)
theorem wd_1744 : Cond.code yX10_isLighting cX10_isLighting 2 (some .boolean) ∈ xTB := xTB_in 1744 (by decide +kernel) (by decide +kernel)
theorem wd_1745 : Cond.methodLink RL 214 yX10_failedEvents ∈ xTB := xTB_in 1745 (by decide +kernel) (by decide +kernel)
theorem wd_1746 : Cond.instanceMethod yX10_failedEvents ∈ xTB := xTB_in 1746 (by decide +kernel) (by decide +kernel)
theorem wd_1747 : Cond.selects yX10_failedEvents.cls yX10_failedEvents yX10_failedEvents ∈ xTB := xTB_in 1747 (by decide +kernel) (by decide +kernel)
theorem wd_1748 : Cond.code yX10_failedEvents cX10_failedEvents 1 (some .int) ∈ xTB := xTB_in 1748 (by decide +kernel) (by decide +kernel)
theorem wd_1749 : Cond.methodLink RL 218 yX10_failureReason ∈ xTB := xTB_in 1749 (by decide +kernel) (by decide +kernel)
theorem wd_1750 : Cond.instanceMethod yX10_failureReason ∈ xTB := xTB_in 1750 (by decide +kernel) (by decide +kernel)
theorem wd_1751 : Cond.selects yX10_failureReason.cls yX10_failureReason yX10_failureReason ∈ xTB := xTB_in 1751 (by decide +kernel) (by decide +kernel)
theorem wd_1752 : Cond.code yX10_failureReason cX10_failureReason 1 (some .char) ∈ xTB := xTB_in 1752 (by decide +kernel) (by decide +kernel)
theorem wd_1753 : Cond.methodLink RL 222 yX10_time ∈ xTB := xTB_in 1753 (by decide +kernel) (by decide +kernel)
theorem wd_1754 : Cond.instanceMethod yX10_time ∈ xTB := xTB_in 1754 (by decide +kernel) (by decide +kernel)
theorem wd_1755 : Cond.selects yX10_time.cls yX10_time yX10_time ∈ xTB := xTB_in 1755 (by decide +kernel) (by decide +kernel)
theorem wd_1756 : Cond.code yX10_time cX10_time 1 (some .int) ∈ xTB := xTB_in 1756 (by decide +kernel) (by decide +kernel)
theorem wd_1757 : Cond.methodLink RL 226 yX10_draught ∈ xTB := xTB_in 1757 (by decide +kernel) (by decide +kernel)
theorem wd_1758 : Cond.instanceMethod yX10_draught ∈ xTB := xTB_in 1758 (by decide +kernel) (by decide +kernel)
theorem wd_1759 : Cond.selects yX10_draught.cls yX10_draught yX10_draught ∈ xTB := xTB_in 1759 (by decide +kernel) (by decide +kernel)
theorem wd_1760 : Cond.code yX10_draught cX10_draught 1 (some .int) ∈ xTB := xTB_in 1760 (by decide +kernel) (by decide +kernel)
theorem wd_1761 : Cond.methodLink RL 230 yX10_dish ∈ xTB := xTB_in 1761 (by decide +kernel) (by decide +kernel)
theorem wd_1762 : Cond.instanceMethod yX10_dish ∈ xTB := xTB_in 1762 (by decide +kernel) (by decide +kernel)
theorem wd_1763 : Cond.selects yX10_dish.cls yX10_dish yX10_dish ∈ xTB := xTB_in 1763 (by decide +kernel) (by decide +kernel)
theorem wd_1764 : Cond.code yX10_dish cX10_dish 1 (some .int) ∈ xTB := xTB_in 1764 (by decide +kernel) (by decide +kernel)
theorem wd_1765 : Cond.methodLink RL 234 yX10_minutesUntilDark ∈ xTB := xTB_in 1765 (by decide +kernel) (by decide +kernel)
theorem wd_1769 : Cond.methodLink RL 238 yX10_minutesUntilDarkByLeaps ∈ xTB := xTB_in 1769 (by decide +kernel) (by decide +kernel)
theorem wd_1770 : Cond.instanceMethod yX10_minutesUntilDarkByLeaps ∈ xTB := xTB_in 1770 (by decide +kernel) (by decide +kernel)
theorem wd_1771 : Cond.selects yX10_minutesUntilDarkByLeaps.cls yX10_minutesUntilDarkByLeaps yX10_minutesUntilDarkByLeaps ∈ xTB := xTB_in 1771 (by decide +kernel) (by decide +kernel)
theorem wd_1772 : Cond.code yX10_minutesUntilDarkByLeaps cX10_minutesUntilDarkByLeaps 1 (some .int) ∈ xTB := xTB_in 1772 (by decide +kernel) (by decide +kernel)
theorem wd_1774 : Cond.methodLink RL 241 yX10_lastCandle ∈ xTB := xTB_in 1774 (by decide +kernel) (by decide +kernel)
theorem wd_1775 : Cond.instanceMethod yX10_lastCandle ∈ xTB := xTB_in 1775 (by decide +kernel) (by decide +kernel)
theorem wd_1776 : Cond.selects yX10_lastCandle.cls yX10_lastCandle yX10_lastCandle ∈ xTB := xTB_in 1776 (by decide +kernel) (by decide +kernel)
theorem wd_1777 : Cond.code yX10_lastCandle cX10_lastCandle 1 (some .int) ∈ xTB := xTB_in 1777 (by decide +kernel) (by decide +kernel)
theorem wd_1778 : Cond.methodLink RL 244 yX10_loudestVoice ∈ xTB := xTB_in 1778 (by decide +kernel) (by decide +kernel)
theorem wd_1779 : Cond.instanceMethod yX10_loudestVoice ∈ xTB := xTB_in 1779 (by decide +kernel) (by decide +kernel)
theorem wd_1780 : Cond.selects yX10_loudestVoice.cls yX10_loudestVoice yX10_loudestVoice ∈ xTB := xTB_in 1780 (by decide +kernel) (by decide +kernel)
theorem wd_1781 : Cond.code yX10_loudestVoice cX10_loudestVoice 2 (some .char) ∈ xTB := xTB_in 1781 (by decide +kernel) (by decide +kernel)
theorem wd_1782 : Cond.methodLink RL 249 yX10_addedWax ∈ xTB := xTB_in 1782 (by decide +kernel) (by decide +kernel)
theorem wd_1786 : Cond.methodLink RL 253 yX10_addedWaxByParts ∈ xTB := xTB_in 1786 (by decide +kernel) (by decide +kernel)
theorem wd_1787 : Cond.instanceMethod yX10_addedWaxByParts ∈ xTB := xTB_in 1787 (by decide +kernel) (by decide +kernel)
theorem wd_1788 : Cond.selects yX10_addedWaxByParts.cls yX10_addedWaxByParts yX10_addedWaxByParts ∈ xTB := xTB_in 1788 (by decide +kernel) (by decide +kernel)
theorem wd_1789 : Cond.code yX10_addedWaxByParts cX10_addedWaxByParts 1 (some .long) ∈ xTB := xTB_in 1789 (by decide +kernel) (by decide +kernel)
theorem wd_1791 : Cond.methodLink RL 257 yX10_burnt ∈ xTB := xTB_in 1791 (by decide +kernel) (by decide +kernel)
theorem wd_1792 : Cond.instanceMethod yX10_burnt ∈ xTB := xTB_in 1792 (by decide +kernel) (by decide +kernel)
theorem wd_1793 : Cond.selects yX10_burnt.cls yX10_burnt yX10_burnt ∈ xTB := xTB_in 1793 (by decide +kernel) (by decide +kernel)
theorem wd_1794 : Cond.code yX10_burnt cX10_burnt 1 (some .int) ∈ xTB := xTB_in 1794 (by decide +kernel) (by decide +kernel)
theorem wd_1795 : Cond.methodLink RL 261 yX10_meanWax ∈ xTB := xTB_in 1795 (by decide +kernel) (by decide +kernel)
theorem wd_1796 : Cond.instanceMethod yX10_meanWax ∈ xTB := xTB_in 1796 (by decide +kernel) (by decide +kernel)
theorem wd_1797 : Cond.selects yX10_meanWax.cls yX10_meanWax yX10_meanWax ∈ xTB := xTB_in 1797 (by decide +kernel) (by decide +kernel)
theorem wd_1798 : Cond.code yX10_meanWax cX10_meanWax 1 (some .double) ∈ xTB := xTB_in 1798 (by decide +kernel) (by decide +kernel)
theorem wd_1803 : Cond.methodLink RL 264 yX10_litShare ∈ xTB := xTB_in 1803 (by decide +kernel) (by decide +kernel)
theorem wd_1804 : Cond.instanceMethod yX10_litShare ∈ xTB := xTB_in 1804 (by decide +kernel) (by decide +kernel)
theorem wd_1805 : Cond.selects yX10_litShare.cls yX10_litShare yX10_litShare ∈ xTB := xTB_in 1805 (by decide +kernel) (by decide +kernel)
theorem wd_1806 : Cond.code yX10_litShare cX10_litShare 1 (some .float) ∈ xTB := xTB_in 1806 (by decide +kernel) (by decide +kernel)
theorem wd_1807 : Cond.methodLink RL 269 yX10_isConsistent ∈ xTB := xTB_in 1807 (by decide +kernel) (by decide +kernel)
theorem wd_1808 : Cond.instanceMethod yX10_isConsistent ∈ xTB := xTB_in 1808 (by decide +kernel) (by decide +kernel)
theorem wd_1809 : Cond.selects yX10_isConsistent.cls yX10_isConsistent yX10_isConsistent ∈ xTB := xTB_in 1809 (by decide +kernel) (by decide +kernel)
theorem wd_1810 : Cond.code yX10_isConsistent cX10_isConsistent 3 (some .boolean) ∈ xTB := xTB_in 1810 (by decide +kernel) (by decide +kernel)
theorem wd_1811 : Cond.methodLink RL 272 yX10_writeCandle ∈ xTB := xTB_in 1811 (by decide +kernel) (by decide +kernel)
theorem wd_1812 : Cond.instanceMethod yX10_writeCandle ∈ xTB := xTB_in 1812 (by decide +kernel) (by decide +kernel)
theorem wd_1813 : Cond.selects yX10_writeCandle.cls yX10_writeCandle yX10_writeCandle ∈ xTB := xTB_in 1813 (by decide +kernel) (by decide +kernel)
theorem wd_1814 : Cond.code yX10_writeCandle cX10_writeCandle 2 (some .int) ∈ xTB := xTB_in 1814 (by decide +kernel) (by decide +kernel)
theorem wd_1823 : Cond.methodLink RL 276 yX10_writeEvents ∈ xTB := xTB_in 1823 (by decide +kernel) (by decide +kernel)
theorem wd_1824 : Cond.instanceMethod yX10_writeEvents ∈ xTB := xTB_in 1824 (by decide +kernel) (by decide +kernel)
theorem wd_1825 : Cond.selects yX10_writeEvents.cls yX10_writeEvents yX10_writeEvents ∈ xTB := xTB_in 1825 (by decide +kernel) (by decide +kernel)
theorem wd_1826 : Cond.code yX10_writeEvents cX10_writeEvents 2 (some .int) ∈ xTB := xTB_in 1826 (by decide +kernel) (by decide +kernel)
theorem wd_1827 : Cond.methodLink RL 279 yX10_charAt ∈ xTB := xTB_in 1827 (by decide +kernel) (by decide +kernel)
theorem wd_1828 : Cond.instanceMethod yX10_charAt ∈ xTB := xTB_in 1828 (by decide +kernel) (by decide +kernel)
theorem wd_1829 : Cond.selects yX10_charAt.cls yX10_charAt yX10_charAt ∈ xTB := xTB_in 1829 (by decide +kernel) (by decide +kernel)
theorem wd_1830 : Cond.code yX10_charAt cX10_charAt 2 (some .char) ∈ xTB := xTB_in 1830 (by decide +kernel) (by decide +kernel)
theorem wd_1831 : Cond.methodLink RL 282 yX10_type ∈ xTB := xTB_in 1831 (by decide +kernel) (by decide +kernel)
theorem wd_1832 : Cond.instanceMethod yX10_type ∈ xTB := xTB_in 1832 (by decide +kernel) (by decide +kernel)
theorem wd_1833 : Cond.selects yX10_type.cls yX10_type yX10_type ∈ xTB := xTB_in 1833 (by decide +kernel) (by decide +kernel)
theorem wd_1834 : Cond.code yX10_type cX10_type 2 (some .int) ∈ xTB := xTB_in 1834 (by decide +kernel) (by decide +kernel)
theorem wd_1835 : Cond.methodLink RL 285 yX10_run ∈ xTB := xTB_in 1835 (by decide +kernel) (by decide +kernel)
theorem wd_1836 : Cond.instanceMethod yX10_run ∈ xTB := xTB_in 1836 (by decide +kernel) (by decide +kernel)
theorem wd_1837 : Cond.selects yX10_run.cls yX10_run yX10_run ∈ xTB := xTB_in 1837 (by decide +kernel) (by decide +kernel)
theorem wd_1838 : Cond.code yX10_run cX10_run 3 (some .int) ∈ xTB := xTB_in 1838 (by decide +kernel) (by decide +kernel)
theorem wd_1904 : Cond.methodLink RL 288 yX10_errorPosition ∈ xTB := xTB_in 1904 (by decide +kernel) (by decide +kernel)
theorem wd_1905 : Cond.instanceMethod yX10_errorPosition ∈ xTB := xTB_in 1905 (by decide +kernel) (by decide +kernel)
theorem wd_1906 : Cond.selects yX10_errorPosition.cls yX10_errorPosition yX10_errorPosition ∈ xTB := xTB_in 1906 (by decide +kernel) (by decide +kernel)
theorem wd_1907 : Cond.code yX10_errorPosition cX10_errorPosition 1 (some .int) ∈ xTB := xTB_in 1907 (by decide +kernel) (by decide +kernel)
theorem wd_1908 : Cond.methodLink RL 291 yX10_failedCommand ∈ xTB := xTB_in 1908 (by decide +kernel) (by decide +kernel)
theorem wd_1909 : Cond.instanceMethod yX10_failedCommand ∈ xTB := xTB_in 1909 (by decide +kernel) (by decide +kernel)
theorem wd_1910 : Cond.selects yX10_failedCommand.cls yX10_failedCommand yX10_failedCommand ∈ xTB := xTB_in 1910 (by decide +kernel) (by decide +kernel)
theorem wd_1911 : Cond.code yX10_failedCommand cX10_failedCommand 1 (some .int) ∈ xTB := xTB_in 1911 (by decide +kernel) (by decide +kernel)
theorem wd_1912 : Cond.methodLink RL 294 yX10_undo ∈ xTB := xTB_in 1912 (by decide +kernel) (by decide +kernel)
theorem wd_1913 : Cond.instanceMethod yX10_undo ∈ xTB := xTB_in 1913 (by decide +kernel) (by decide +kernel)
theorem wd_1914 : Cond.selects yX10_undo.cls yX10_undo yX10_undo ∈ xTB := xTB_in 1914 (by decide +kernel) (by decide +kernel)
theorem wd_1915 : Cond.code yX10_undo cX10_undo 1 (some .int) ∈ xTB := xTB_in 1915 (by decide +kernel) (by decide +kernel)
theorem wd_1916 : Cond.methodLink RL 298 yX10_save ∈ xTB := xTB_in 1916 (by decide +kernel) (by decide +kernel)
theorem wd_1917 : Cond.instanceMethod yX10_save ∈ xTB := xTB_in 1917 (by decide +kernel) (by decide +kernel)
theorem wd_1918 : Cond.selects yX10_save.cls yX10_save yX10_save ∈ xTB := xTB_in 1918 (by decide +kernel) (by decide +kernel)
theorem wd_1919 : Cond.code yX10_save cX10_save 1 (some .int) ∈ xTB := xTB_in 1919 (by decide +kernel) (by decide +kernel)
theorem wd_1920 : Cond.methodLink RL 301 yX10_restore ∈ xTB := xTB_in 1920 (by decide +kernel) (by decide +kernel)
theorem wd_1921 : Cond.instanceMethod yX10_restore ∈ xTB := xTB_in 1921 (by decide +kernel) (by decide +kernel)
theorem wd_1922 : Cond.selects yX10_restore.cls yX10_restore yX10_restore ∈ xTB := xTB_in 1922 (by decide +kernel) (by decide +kernel)
theorem wd_1923 : Cond.code yX10_restore cX10_restore 1 (some .int) ∈ xTB := xTB_in 1923 (by decide +kernel) (by decide +kernel)
theorem dL_law_0 : decode cL_law 0 = .ok (.new 8, 3) := by decide +kernel
theorem dL_law_3 : decode cL_law 3 = .ok (.dup, 1) := by decide +kernel
theorem dL_law_4 : decode cL_law 4 = .ok (.invokespecial 128, 3) := by decide +kernel
theorem dL_law_7 : decode cL_law 7 = .ok (.astore_n 1, 1) := by decide +kernel
theorem dL_law_8 : decode cL_law 8 = .ok (.new 129, 3) := by decide +kernel
theorem dL_law_11 : decode cL_law 11 = .ok (.dup, 1) := by decide +kernel
theorem dL_law_12 : decode cL_law 12 = .ok (.invokespecial 131, 3) := by decide +kernel
theorem dL_law_15 : decode cL_law 15 = .ok (.astore_n 2, 1) := by decide +kernel
theorem dL_law_16 : decode cL_law 16 = .ok (.iconst 1, 1) := by decide +kernel
theorem dL_law_17 : decode cL_law 17 = .ok (.newarray .long, 2) := by decide +kernel
theorem dL_law_19 : decode cL_law 19 = .ok (.astore_n 3, 1) := by decide +kernel
theorem dL_law_20 : decode cL_law 20 = .ok (.iconst 1, 1) := by decide +kernel
theorem dL_law_21 : decode cL_law 21 = .ok (.newarray .double, 2) := by decide +kernel
theorem dL_law_23 : decode cL_law 23 = .ok (.astore 4, 2) := by decide +kernel
theorem dL_law_25 : decode cL_law 25 = .ok (.iconst 0, 1) := by decide +kernel
theorem dL_law_26 : decode cL_law 26 = .ok (.istore 5, 2) := by decide +kernel
theorem dL_law_28 : decode cL_law 28 = .ok (.iload 5, 2) := by decide +kernel
theorem dL_law_30 : decode cL_law 30 = .ok (.aload_n 0, 1) := by decide +kernel
theorem dL_law_31 : decode cL_law 31 = .ok (.arraylength, 1) := by decide +kernel
theorem dL_law_32 : decode cL_law 32 = .ok (.iconst 4, 1) := by decide +kernel
theorem dL_law_33 : decode cL_law 33 = .ok (.isub, 1) := by decide +kernel
theorem dL_law_34 : decode cL_law 34 = .ok (.if_icmp .gt 2228, 3) := by decide +kernel
theorem dL_law_37 : decode cL_law 37 = .ok (.aload_n 0, 1) := by decide +kernel
theorem dL_law_38 : decode cL_law 38 = .ok (.iload 5, 2) := by decide +kernel
theorem dL_law_40 : decode cL_law 40 = .ok (.iaload, 1) := by decide +kernel
theorem dL_law_41 : decode cL_law 41 = .ok (.bipush 63, 2) := by decide +kernel
theorem dL_law_43 : decode cL_law 43 = .ok (.iand, 1) := by decide +kernel
theorem dL_law_44 : decode cL_law 44 = .ok (.tableswitch 2212 0 46 #[204, 286, 342, 398, 466, 522, 618, 674, 730, 743, 799, 855, 911, 974, 987, 1045, 1101, 1157, 1213, 1226, 1282, 1338, 1401, 1414, 1458, 1471, 1484, 1497, 1510, 1523, 1567, 1611, 1625, 1639, 1652, 1717, 1783, 1796, 1852, 1865, 1921, 1979, 2023, 2067, 2111, 2155, 2168], 204) := by decide +kernel
theorem dL_law_248 : decode cL_law 248 = .ok (.aload_n 1, 1) := by decide +kernel
theorem dL_law_249 : decode cL_law 249 = .ok (.aload_n 0, 1) := by decide +kernel
theorem dL_law_250 : decode cL_law 250 = .ok (.iload 5, 2) := by decide +kernel
theorem dL_law_252 : decode cL_law 252 = .ok (.iconst 1, 1) := by decide +kernel
theorem dL_law_253 : decode cL_law 253 = .ok (.iadd, 1) := by decide +kernel
theorem dL_law_254 : decode cL_law 254 = .ok (.iaload, 1) := by decide +kernel
theorem dL_law_255 : decode cL_law 255 = .ok (.i2c, 1) := by decide +kernel
theorem dL_law_256 : decode cL_law 256 = .ok (.aload_n 0, 1) := by decide +kernel
theorem dL_law_257 : decode cL_law 257 = .ok (.iload 5, 2) := by decide +kernel
theorem dL_law_259 : decode cL_law 259 = .ok (.iconst 2, 1) := by decide +kernel
theorem dL_law_260 : decode cL_law 260 = .ok (.iadd, 1) := by decide +kernel
theorem dL_law_261 : decode cL_law 261 = .ok (.iaload, 1) := by decide +kernel
theorem dL_law_262 : decode cL_law 262 = .ok (.aload_n 0, 1) := by decide +kernel
theorem dL_law_263 : decode cL_law 263 = .ok (.iload 5, 2) := by decide +kernel
theorem dL_law_265 : decode cL_law 265 = .ok (.iconst 3, 1) := by decide +kernel
theorem dL_law_266 : decode cL_law 266 = .ok (.iadd, 1) := by decide +kernel
theorem dL_law_267 : decode cL_law 267 = .ok (.iaload, 1) := by decide +kernel
theorem dL_law_268 : decode cL_law 268 = .ok (.aload_n 3, 1) := by decide +kernel
theorem dL_law_269 : decode cL_law 269 = .ok (.invokestatic 132, 3) := by decide +kernel
theorem dL_law_272 : decode cL_law 272 = .ok (.istore 6, 2) := by decide +kernel
theorem dL_law_274 : decode cL_law 274 = .ok (.aload_n 2, 1) := by decide +kernel
theorem dL_law_275 : decode cL_law 275 = .ok (.aload_n 0, 1) := by decide +kernel
theorem dL_law_276 : decode cL_law 276 = .ok (.iload 5, 2) := by decide +kernel
theorem dL_law_278 : decode cL_law 278 = .ok (.iconst 1, 1) := by decide +kernel
theorem dL_law_279 : decode cL_law 279 = .ok (.iadd, 1) := by decide +kernel
theorem dL_law_280 : decode cL_law 280 = .ok (.iaload, 1) := by decide +kernel
theorem dL_law_281 : decode cL_law 281 = .ok (.i2c, 1) := by decide +kernel
theorem dL_law_282 : decode cL_law 282 = .ok (.aload_n 0, 1) := by decide +kernel
theorem dL_law_283 : decode cL_law 283 = .ok (.iload 5, 2) := by decide +kernel
theorem dL_law_285 : decode cL_law 285 = .ok (.iconst 2, 1) := by decide +kernel
theorem dL_law_286 : decode cL_law 286 = .ok (.iadd, 1) := by decide +kernel
theorem dL_law_287 : decode cL_law 287 = .ok (.iaload, 1) := by decide +kernel
theorem dL_law_288 : decode cL_law 288 = .ok (.aload_n 0, 1) := by decide +kernel
theorem dL_law_289 : decode cL_law 289 = .ok (.iload 5, 2) := by decide +kernel
theorem dL_law_291 : decode cL_law 291 = .ok (.iconst 3, 1) := by decide +kernel
theorem dL_law_292 : decode cL_law 292 = .ok (.iadd, 1) := by decide +kernel
theorem dL_law_293 : decode cL_law 293 = .ok (.iaload, 1) := by decide +kernel
theorem dL_law_294 : decode cL_law 294 = .ok (.invokevirtual 137, 3) := by decide +kernel
theorem dL_law_297 : decode cL_law 297 = .ok (.istore 7, 2) := by decide +kernel
theorem dL_law_299 : decode cL_law 299 = .ok (.aload_n 2, 1) := by decide +kernel
theorem dL_law_300 : decode cL_law 300 = .ok (.invokevirtual 138, 3) := by decide +kernel
theorem dL_law_303 : decode cL_law 303 = .ok (.iload 6, 2) := by decide +kernel
theorem dL_law_305 : decode cL_law 305 = .ok (.if_icmp .eq 5, 3) := by decide +kernel
theorem dL_law_308 : decode cL_law 308 = .ok (.iconst 0, 1) := by decide +kernel
theorem dL_law_309 : decode cL_law 309 = .ok (.ireturn, 1) := by decide +kernel
theorem dL_law_310 : decode cL_law 310 = .ok (.iload 6, 2) := by decide +kernel
theorem dL_law_312 : decode cL_law 312 = .ok (.ifCond .ne 15, 3) := by decide +kernel
theorem dL_law_315 : decode cL_law 315 = .ok (.aload_n 3, 1) := by decide +kernel
theorem dL_law_316 : decode cL_law 316 = .ok (.iconst 0, 1) := by decide +kernel
theorem dL_law_317 : decode cL_law 317 = .ok (.laload, 1) := by decide +kernel
theorem dL_law_318 : decode cL_law 318 = .ok (.iload 7, 2) := by decide +kernel
theorem dL_law_320 : decode cL_law 320 = .ok (.i2l, 1) := by decide +kernel
theorem dL_law_321 : decode cL_law 321 = .ok (.lcmp, 1) := by decide +kernel
theorem dL_law_322 : decode cL_law 322 = .ok (.ifCond .eq 5, 3) := by decide +kernel
theorem dL_law_325 : decode cL_law 325 = .ok (.iconst 0, 1) := by decide +kernel
theorem dL_law_326 : decode cL_law 326 = .ok (.ireturn, 1) := by decide +kernel
theorem dL_law_327 : decode cL_law 327 = .ok (.goto 1929, 3) := by decide +kernel
theorem dL_law_330 : decode cL_law 330 = .ok (.aload_n 1, 1) := by decide +kernel
theorem dL_law_331 : decode cL_law 331 = .ok (.aload_n 0, 1) := by decide +kernel
theorem dL_law_332 : decode cL_law 332 = .ok (.iload 5, 2) := by decide +kernel
theorem dL_law_334 : decode cL_law 334 = .ok (.iconst 1, 1) := by decide +kernel
theorem dL_law_335 : decode cL_law 335 = .ok (.iadd, 1) := by decide +kernel
theorem dL_law_336 : decode cL_law 336 = .ok (.iaload, 1) := by decide +kernel
theorem dL_law_337 : decode cL_law 337 = .ok (.aload_n 3, 1) := by decide +kernel
theorem dL_law_338 : decode cL_law 338 = .ok (.invokestatic 141, 3) := by decide +kernel
theorem dL_law_341 : decode cL_law 341 = .ok (.istore 6, 2) := by decide +kernel
theorem dL_law_343 : decode cL_law 343 = .ok (.aload_n 2, 1) := by decide +kernel
theorem dL_law_344 : decode cL_law 344 = .ok (.aload_n 0, 1) := by decide +kernel
theorem dL_law_345 : decode cL_law 345 = .ok (.iload 5, 2) := by decide +kernel
theorem dL_law_347 : decode cL_law 347 = .ok (.iconst 1, 1) := by decide +kernel
theorem dL_law_348 : decode cL_law 348 = .ok (.iadd, 1) := by decide +kernel
theorem dL_law_349 : decode cL_law 349 = .ok (.iaload, 1) := by decide +kernel
theorem dL_law_350 : decode cL_law 350 = .ok (.invokevirtual 144, 3) := by decide +kernel
theorem dL_law_353 : decode cL_law 353 = .ok (.istore 7, 2) := by decide +kernel
theorem dL_law_355 : decode cL_law 355 = .ok (.aload_n 2, 1) := by decide +kernel
theorem dL_law_356 : decode cL_law 356 = .ok (.invokevirtual 138, 3) := by decide +kernel
theorem dL_law_359 : decode cL_law 359 = .ok (.iload 6, 2) := by decide +kernel
theorem dL_law_361 : decode cL_law 361 = .ok (.if_icmp .eq 5, 3) := by decide +kernel
theorem dL_law_364 : decode cL_law 364 = .ok (.iconst 0, 1) := by decide +kernel
theorem dL_law_365 : decode cL_law 365 = .ok (.ireturn, 1) := by decide +kernel
theorem dL_law_366 : decode cL_law 366 = .ok (.iload 6, 2) := by decide +kernel
theorem dL_law_368 : decode cL_law 368 = .ok (.ifCond .ne 15, 3) := by decide +kernel
theorem dL_law_371 : decode cL_law 371 = .ok (.aload_n 3, 1) := by decide +kernel
theorem dL_law_372 : decode cL_law 372 = .ok (.iconst 0, 1) := by decide +kernel
theorem dL_law_373 : decode cL_law 373 = .ok (.laload, 1) := by decide +kernel
theorem dL_law_374 : decode cL_law 374 = .ok (.iload 7, 2) := by decide +kernel
theorem dL_law_376 : decode cL_law 376 = .ok (.i2l, 1) := by decide +kernel
theorem dL_law_377 : decode cL_law 377 = .ok (.lcmp, 1) := by decide +kernel
theorem dL_law_378 : decode cL_law 378 = .ok (.ifCond .eq 5, 3) := by decide +kernel
theorem dL_law_381 : decode cL_law 381 = .ok (.iconst 0, 1) := by decide +kernel
theorem dL_law_382 : decode cL_law 382 = .ok (.ireturn, 1) := by decide +kernel
theorem dL_law_383 : decode cL_law 383 = .ok (.goto 1873, 3) := by decide +kernel
theorem dL_law_386 : decode cL_law 386 = .ok (.aload_n 1, 1) := by decide +kernel
theorem dL_law_387 : decode cL_law 387 = .ok (.aload_n 0, 1) := by decide +kernel
theorem dL_law_388 : decode cL_law 388 = .ok (.iload 5, 2) := by decide +kernel
theorem dL_law_390 : decode cL_law 390 = .ok (.iconst 1, 1) := by decide +kernel
theorem dL_law_391 : decode cL_law 391 = .ok (.iadd, 1) := by decide +kernel
theorem dL_law_392 : decode cL_law 392 = .ok (.iaload, 1) := by decide +kernel
theorem dL_law_393 : decode cL_law 393 = .ok (.aload_n 3, 1) := by decide +kernel
theorem dL_law_394 : decode cL_law 394 = .ok (.invokestatic 145, 3) := by decide +kernel
theorem dL_law_397 : decode cL_law 397 = .ok (.istore 6, 2) := by decide +kernel
theorem dL_law_399 : decode cL_law 399 = .ok (.aload_n 2, 1) := by decide +kernel
theorem dL_law_400 : decode cL_law 400 = .ok (.aload_n 0, 1) := by decide +kernel
theorem dL_law_401 : decode cL_law 401 = .ok (.iload 5, 2) := by decide +kernel
theorem dL_law_403 : decode cL_law 403 = .ok (.iconst 1, 1) := by decide +kernel
theorem dL_law_404 : decode cL_law 404 = .ok (.iadd, 1) := by decide +kernel
theorem dL_law_405 : decode cL_law 405 = .ok (.iaload, 1) := by decide +kernel
theorem dL_law_406 : decode cL_law 406 = .ok (.invokevirtual 147, 3) := by decide +kernel
theorem dL_law_409 : decode cL_law 409 = .ok (.istore 7, 2) := by decide +kernel
theorem dL_law_411 : decode cL_law 411 = .ok (.aload_n 2, 1) := by decide +kernel
theorem dL_law_412 : decode cL_law 412 = .ok (.invokevirtual 138, 3) := by decide +kernel
theorem dL_law_415 : decode cL_law 415 = .ok (.iload 6, 2) := by decide +kernel
theorem dL_law_417 : decode cL_law 417 = .ok (.if_icmp .eq 5, 3) := by decide +kernel
theorem dL_law_420 : decode cL_law 420 = .ok (.iconst 0, 1) := by decide +kernel
theorem dL_law_421 : decode cL_law 421 = .ok (.ireturn, 1) := by decide +kernel
theorem dL_law_422 : decode cL_law 422 = .ok (.iload 6, 2) := by decide +kernel
theorem dL_law_424 : decode cL_law 424 = .ok (.ifCond .ne 15, 3) := by decide +kernel
theorem dL_law_427 : decode cL_law 427 = .ok (.aload_n 3, 1) := by decide +kernel
theorem dL_law_428 : decode cL_law 428 = .ok (.iconst 0, 1) := by decide +kernel
theorem dL_law_429 : decode cL_law 429 = .ok (.laload, 1) := by decide +kernel
theorem dL_law_430 : decode cL_law 430 = .ok (.iload 7, 2) := by decide +kernel
theorem dL_law_432 : decode cL_law 432 = .ok (.i2l, 1) := by decide +kernel
theorem dL_law_433 : decode cL_law 433 = .ok (.lcmp, 1) := by decide +kernel
theorem dL_law_434 : decode cL_law 434 = .ok (.ifCond .eq 5, 3) := by decide +kernel
theorem dL_law_437 : decode cL_law 437 = .ok (.iconst 0, 1) := by decide +kernel
theorem dL_law_438 : decode cL_law 438 = .ok (.ireturn, 1) := by decide +kernel
theorem dL_law_439 : decode cL_law 439 = .ok (.goto 1817, 3) := by decide +kernel
theorem dL_law_442 : decode cL_law 442 = .ok (.aload_n 1, 1) := by decide +kernel
theorem dL_law_443 : decode cL_law 443 = .ok (.aload_n 0, 1) := by decide +kernel
theorem dL_law_444 : decode cL_law 444 = .ok (.iload 5, 2) := by decide +kernel
theorem dL_law_446 : decode cL_law 446 = .ok (.iconst 1, 1) := by decide +kernel
theorem dL_law_447 : decode cL_law 447 = .ok (.iadd, 1) := by decide +kernel
theorem dL_law_448 : decode cL_law 448 = .ok (.iaload, 1) := by decide +kernel
theorem dL_law_449 : decode cL_law 449 = .ok (.aload_n 0, 1) := by decide +kernel
theorem dL_law_450 : decode cL_law 450 = .ok (.iload 5, 2) := by decide +kernel
theorem dL_law_452 : decode cL_law 452 = .ok (.iconst 2, 1) := by decide +kernel
theorem dL_law_453 : decode cL_law 453 = .ok (.iadd, 1) := by decide +kernel
theorem dL_law_454 : decode cL_law 454 = .ok (.iaload, 1) := by decide +kernel
theorem dL_law_455 : decode cL_law 455 = .ok (.aload_n 3, 1) := by decide +kernel
theorem dL_law_456 : decode cL_law 456 = .ok (.invokestatic 148, 3) := by decide +kernel
theorem dL_law_459 : decode cL_law 459 = .ok (.istore 6, 2) := by decide +kernel
theorem dL_law_461 : decode cL_law 461 = .ok (.aload_n 2, 1) := by decide +kernel
theorem dL_law_462 : decode cL_law 462 = .ok (.aload_n 0, 1) := by decide +kernel
theorem dL_law_463 : decode cL_law 463 = .ok (.iload 5, 2) := by decide +kernel
theorem dL_law_465 : decode cL_law 465 = .ok (.iconst 1, 1) := by decide +kernel
theorem dL_law_466 : decode cL_law 466 = .ok (.iadd, 1) := by decide +kernel
theorem dL_law_467 : decode cL_law 467 = .ok (.iaload, 1) := by decide +kernel
theorem dL_law_468 : decode cL_law 468 = .ok (.aload_n 0, 1) := by decide +kernel
theorem dL_law_469 : decode cL_law 469 = .ok (.iload 5, 2) := by decide +kernel
theorem dL_law_471 : decode cL_law 471 = .ok (.iconst 2, 1) := by decide +kernel
theorem dL_law_472 : decode cL_law 472 = .ok (.iadd, 1) := by decide +kernel
theorem dL_law_473 : decode cL_law 473 = .ok (.iaload, 1) := by decide +kernel
theorem dL_law_474 : decode cL_law 474 = .ok (.invokevirtual 151, 3) := by decide +kernel
theorem dL_law_477 : decode cL_law 477 = .ok (.istore 7, 2) := by decide +kernel
theorem dL_law_479 : decode cL_law 479 = .ok (.aload_n 2, 1) := by decide +kernel
theorem dL_law_480 : decode cL_law 480 = .ok (.invokevirtual 138, 3) := by decide +kernel
theorem dL_law_483 : decode cL_law 483 = .ok (.iload 6, 2) := by decide +kernel
theorem dL_law_485 : decode cL_law 485 = .ok (.if_icmp .eq 5, 3) := by decide +kernel
theorem dL_law_488 : decode cL_law 488 = .ok (.iconst 0, 1) := by decide +kernel
theorem dL_law_489 : decode cL_law 489 = .ok (.ireturn, 1) := by decide +kernel
theorem dL_law_490 : decode cL_law 490 = .ok (.iload 6, 2) := by decide +kernel
theorem dL_law_492 : decode cL_law 492 = .ok (.ifCond .ne 15, 3) := by decide +kernel
theorem dL_law_495 : decode cL_law 495 = .ok (.aload_n 3, 1) := by decide +kernel
theorem dL_law_496 : decode cL_law 496 = .ok (.iconst 0, 1) := by decide +kernel
theorem dL_law_497 : decode cL_law 497 = .ok (.laload, 1) := by decide +kernel
theorem dL_law_498 : decode cL_law 498 = .ok (.iload 7, 2) := by decide +kernel
theorem dL_law_500 : decode cL_law 500 = .ok (.i2l, 1) := by decide +kernel
theorem dL_law_501 : decode cL_law 501 = .ok (.lcmp, 1) := by decide +kernel
theorem dL_law_502 : decode cL_law 502 = .ok (.ifCond .eq 5, 3) := by decide +kernel
theorem dL_law_505 : decode cL_law 505 = .ok (.iconst 0, 1) := by decide +kernel
theorem dL_law_506 : decode cL_law 506 = .ok (.ireturn, 1) := by decide +kernel
theorem dL_law_507 : decode cL_law 507 = .ok (.goto 1749, 3) := by decide +kernel
theorem dL_law_510 : decode cL_law 510 = .ok (.aload_n 1, 1) := by decide +kernel
theorem dL_law_511 : decode cL_law 511 = .ok (.aload_n 0, 1) := by decide +kernel
theorem dL_law_512 : decode cL_law 512 = .ok (.iload 5, 2) := by decide +kernel
theorem dL_law_514 : decode cL_law 514 = .ok (.iconst 1, 1) := by decide +kernel
theorem dL_law_515 : decode cL_law 515 = .ok (.iadd, 1) := by decide +kernel
theorem dL_law_516 : decode cL_law 516 = .ok (.iaload, 1) := by decide +kernel
theorem dL_law_517 : decode cL_law 517 = .ok (.aload_n 3, 1) := by decide +kernel
theorem dL_law_518 : decode cL_law 518 = .ok (.invokestatic 152, 3) := by decide +kernel
theorem dL_law_521 : decode cL_law 521 = .ok (.istore 6, 2) := by decide +kernel
theorem dL_law_523 : decode cL_law 523 = .ok (.aload_n 2, 1) := by decide +kernel
theorem dL_law_524 : decode cL_law 524 = .ok (.aload_n 0, 1) := by decide +kernel
theorem dL_law_525 : decode cL_law 525 = .ok (.iload 5, 2) := by decide +kernel
theorem dL_law_527 : decode cL_law 527 = .ok (.iconst 1, 1) := by decide +kernel
theorem dL_law_528 : decode cL_law 528 = .ok (.iadd, 1) := by decide +kernel
theorem dL_law_529 : decode cL_law 529 = .ok (.iaload, 1) := by decide +kernel
theorem dL_law_530 : decode cL_law 530 = .ok (.invokevirtual 154, 3) := by decide +kernel
theorem dL_law_533 : decode cL_law 533 = .ok (.istore 7, 2) := by decide +kernel
theorem dL_law_535 : decode cL_law 535 = .ok (.aload_n 2, 1) := by decide +kernel
theorem dL_law_536 : decode cL_law 536 = .ok (.invokevirtual 138, 3) := by decide +kernel
theorem dL_law_539 : decode cL_law 539 = .ok (.iload 6, 2) := by decide +kernel
theorem dL_law_541 : decode cL_law 541 = .ok (.if_icmp .eq 5, 3) := by decide +kernel
theorem dL_law_544 : decode cL_law 544 = .ok (.iconst 0, 1) := by decide +kernel
theorem dL_law_545 : decode cL_law 545 = .ok (.ireturn, 1) := by decide +kernel
theorem dL_law_546 : decode cL_law 546 = .ok (.iload 6, 2) := by decide +kernel
theorem dL_law_548 : decode cL_law 548 = .ok (.ifCond .ne 15, 3) := by decide +kernel
theorem dL_law_551 : decode cL_law 551 = .ok (.aload_n 3, 1) := by decide +kernel
theorem dL_law_552 : decode cL_law 552 = .ok (.iconst 0, 1) := by decide +kernel
theorem dL_law_553 : decode cL_law 553 = .ok (.laload, 1) := by decide +kernel
theorem dL_law_554 : decode cL_law 554 = .ok (.iload 7, 2) := by decide +kernel
theorem dL_law_556 : decode cL_law 556 = .ok (.i2l, 1) := by decide +kernel
theorem dL_law_557 : decode cL_law 557 = .ok (.lcmp, 1) := by decide +kernel
theorem dL_law_558 : decode cL_law 558 = .ok (.ifCond .eq 5, 3) := by decide +kernel
theorem dL_law_561 : decode cL_law 561 = .ok (.iconst 0, 1) := by decide +kernel
theorem dL_law_562 : decode cL_law 562 = .ok (.ireturn, 1) := by decide +kernel
theorem dL_law_563 : decode cL_law 563 = .ok (.goto 1693, 3) := by decide +kernel
theorem dL_law_566 : decode cL_law 566 = .ok (.aload_n 1, 1) := by decide +kernel
theorem dL_law_567 : decode cL_law 567 = .ok (.aload_n 0, 1) := by decide +kernel
theorem dL_law_568 : decode cL_law 568 = .ok (.iload 5, 2) := by decide +kernel
theorem dL_law_570 : decode cL_law 570 = .ok (.iconst 1, 1) := by decide +kernel
theorem dL_law_571 : decode cL_law 571 = .ok (.iadd, 1) := by decide +kernel
theorem dL_law_572 : decode cL_law 572 = .ok (.iaload, 1) := by decide +kernel
theorem dL_law_573 : decode cL_law 573 = .ok (.aload_n 0, 1) := by decide +kernel
theorem dL_law_574 : decode cL_law 574 = .ok (.iload 5, 2) := by decide +kernel
theorem dL_law_576 : decode cL_law 576 = .ok (.iconst 2, 1) := by decide +kernel
theorem dL_law_577 : decode cL_law 577 = .ok (.iadd, 1) := by decide +kernel
theorem dL_law_578 : decode cL_law 578 = .ok (.iaload, 1) := by decide +kernel
theorem dL_law_579 : decode cL_law 579 = .ok (.aload_n 0, 1) := by decide +kernel
theorem dL_law_580 : decode cL_law 580 = .ok (.iload 5, 2) := by decide +kernel
theorem dL_law_582 : decode cL_law 582 = .ok (.iconst 3, 1) := by decide +kernel
theorem dL_law_583 : decode cL_law 583 = .ok (.iadd, 1) := by decide +kernel
theorem dL_law_584 : decode cL_law 584 = .ok (.iaload, 1) := by decide +kernel
theorem dL_law_585 : decode cL_law 585 = .ok (.ifCond .eq 7, 3) := by decide +kernel
theorem dL_law_588 : decode cL_law 588 = .ok (.iconst 1, 1) := by decide +kernel
theorem dL_law_589 : decode cL_law 589 = .ok (.goto 4, 3) := by decide +kernel
theorem dL_law_592 : decode cL_law 592 = .ok (.iconst 0, 1) := by decide +kernel
theorem dL_law_593 : decode cL_law 593 = .ok (.aload_n 3, 1) := by decide +kernel
theorem dL_law_594 : decode cL_law 594 = .ok (.invokestatic 155, 3) := by decide +kernel
theorem dL_law_597 : decode cL_law 597 = .ok (.istore 6, 2) := by decide +kernel
theorem dL_law_599 : decode cL_law 599 = .ok (.aload_n 2, 1) := by decide +kernel
theorem dL_law_600 : decode cL_law 600 = .ok (.aload_n 0, 1) := by decide +kernel
theorem dL_law_601 : decode cL_law 601 = .ok (.iload 5, 2) := by decide +kernel
theorem dL_law_603 : decode cL_law 603 = .ok (.iconst 1, 1) := by decide +kernel
theorem dL_law_604 : decode cL_law 604 = .ok (.iadd, 1) := by decide +kernel
theorem dL_law_605 : decode cL_law 605 = .ok (.iaload, 1) := by decide +kernel
theorem dL_law_606 : decode cL_law 606 = .ok (.aload_n 0, 1) := by decide +kernel
theorem dL_law_607 : decode cL_law 607 = .ok (.iload 5, 2) := by decide +kernel
theorem dL_law_609 : decode cL_law 609 = .ok (.iconst 2, 1) := by decide +kernel
theorem dL_law_610 : decode cL_law 610 = .ok (.iadd, 1) := by decide +kernel
theorem dL_law_611 : decode cL_law 611 = .ok (.iaload, 1) := by decide +kernel
theorem dL_law_612 : decode cL_law 612 = .ok (.aload_n 0, 1) := by decide +kernel
theorem dL_law_613 : decode cL_law 613 = .ok (.iload 5, 2) := by decide +kernel
theorem dL_law_615 : decode cL_law 615 = .ok (.iconst 3, 1) := by decide +kernel
theorem dL_law_616 : decode cL_law 616 = .ok (.iadd, 1) := by decide +kernel
theorem dL_law_617 : decode cL_law 617 = .ok (.iaload, 1) := by decide +kernel
theorem dL_law_618 : decode cL_law 618 = .ok (.ifCond .eq 7, 3) := by decide +kernel
theorem dL_law_621 : decode cL_law 621 = .ok (.iconst 1, 1) := by decide +kernel
theorem dL_law_622 : decode cL_law 622 = .ok (.goto 4, 3) := by decide +kernel
theorem dL_law_625 : decode cL_law 625 = .ok (.iconst 0, 1) := by decide +kernel
theorem dL_law_626 : decode cL_law 626 = .ok (.invokevirtual 158, 3) := by decide +kernel
theorem dL_law_629 : decode cL_law 629 = .ok (.istore 7, 2) := by decide +kernel
theorem dL_law_631 : decode cL_law 631 = .ok (.aload_n 2, 1) := by decide +kernel
theorem dL_law_632 : decode cL_law 632 = .ok (.invokevirtual 138, 3) := by decide +kernel
theorem dL_law_635 : decode cL_law 635 = .ok (.iload 6, 2) := by decide +kernel
theorem dL_law_637 : decode cL_law 637 = .ok (.if_icmp .eq 5, 3) := by decide +kernel
theorem dL_law_640 : decode cL_law 640 = .ok (.iconst 0, 1) := by decide +kernel
theorem dL_law_641 : decode cL_law 641 = .ok (.ireturn, 1) := by decide +kernel
theorem dL_law_642 : decode cL_law 642 = .ok (.iload 6, 2) := by decide +kernel
theorem dL_law_644 : decode cL_law 644 = .ok (.ifCond .ne 15, 3) := by decide +kernel
theorem dL_law_647 : decode cL_law 647 = .ok (.aload_n 3, 1) := by decide +kernel
theorem dL_law_648 : decode cL_law 648 = .ok (.iconst 0, 1) := by decide +kernel
theorem dL_law_649 : decode cL_law 649 = .ok (.laload, 1) := by decide +kernel
theorem dL_law_650 : decode cL_law 650 = .ok (.iload 7, 2) := by decide +kernel
theorem dL_law_652 : decode cL_law 652 = .ok (.i2l, 1) := by decide +kernel
theorem dL_law_653 : decode cL_law 653 = .ok (.lcmp, 1) := by decide +kernel
theorem dL_law_654 : decode cL_law 654 = .ok (.ifCond .eq 5, 3) := by decide +kernel
theorem dL_law_657 : decode cL_law 657 = .ok (.iconst 0, 1) := by decide +kernel
theorem dL_law_658 : decode cL_law 658 = .ok (.ireturn, 1) := by decide +kernel
theorem dL_law_659 : decode cL_law 659 = .ok (.goto 1597, 3) := by decide +kernel
theorem dL_law_662 : decode cL_law 662 = .ok (.aload_n 1, 1) := by decide +kernel
theorem dL_law_663 : decode cL_law 663 = .ok (.aload_n 0, 1) := by decide +kernel
theorem dL_law_664 : decode cL_law 664 = .ok (.iload 5, 2) := by decide +kernel
theorem dL_law_666 : decode cL_law 666 = .ok (.iconst 1, 1) := by decide +kernel
theorem dL_law_667 : decode cL_law 667 = .ok (.iadd, 1) := by decide +kernel
theorem dL_law_668 : decode cL_law 668 = .ok (.iaload, 1) := by decide +kernel
theorem dL_law_669 : decode cL_law 669 = .ok (.aload_n 3, 1) := by decide +kernel
theorem dL_law_670 : decode cL_law 670 = .ok (.invokestatic 159, 3) := by decide +kernel
theorem dL_law_673 : decode cL_law 673 = .ok (.istore 6, 2) := by decide +kernel
theorem dL_law_675 : decode cL_law 675 = .ok (.aload_n 2, 1) := by decide +kernel
theorem dL_law_676 : decode cL_law 676 = .ok (.aload_n 0, 1) := by decide +kernel
theorem dL_law_677 : decode cL_law 677 = .ok (.iload 5, 2) := by decide +kernel
theorem dL_law_679 : decode cL_law 679 = .ok (.iconst 1, 1) := by decide +kernel
theorem dL_law_680 : decode cL_law 680 = .ok (.iadd, 1) := by decide +kernel
theorem dL_law_681 : decode cL_law 681 = .ok (.iaload, 1) := by decide +kernel
theorem dL_law_682 : decode cL_law 682 = .ok (.invokevirtual 161, 3) := by decide +kernel
theorem dL_law_685 : decode cL_law 685 = .ok (.istore 7, 2) := by decide +kernel
theorem dL_law_687 : decode cL_law 687 = .ok (.aload_n 2, 1) := by decide +kernel
theorem dL_law_688 : decode cL_law 688 = .ok (.invokevirtual 138, 3) := by decide +kernel
theorem dL_law_691 : decode cL_law 691 = .ok (.iload 6, 2) := by decide +kernel
theorem dL_law_693 : decode cL_law 693 = .ok (.if_icmp .eq 5, 3) := by decide +kernel
theorem dL_law_696 : decode cL_law 696 = .ok (.iconst 0, 1) := by decide +kernel
theorem dL_law_697 : decode cL_law 697 = .ok (.ireturn, 1) := by decide +kernel
theorem dL_law_698 : decode cL_law 698 = .ok (.iload 6, 2) := by decide +kernel
theorem dL_law_700 : decode cL_law 700 = .ok (.ifCond .ne 15, 3) := by decide +kernel
theorem dL_law_703 : decode cL_law 703 = .ok (.aload_n 3, 1) := by decide +kernel
theorem dL_law_704 : decode cL_law 704 = .ok (.iconst 0, 1) := by decide +kernel
theorem dL_law_705 : decode cL_law 705 = .ok (.laload, 1) := by decide +kernel
theorem dL_law_706 : decode cL_law 706 = .ok (.iload 7, 2) := by decide +kernel
theorem dL_law_708 : decode cL_law 708 = .ok (.i2l, 1) := by decide +kernel
theorem dL_law_709 : decode cL_law 709 = .ok (.lcmp, 1) := by decide +kernel
theorem dL_law_710 : decode cL_law 710 = .ok (.ifCond .eq 5, 3) := by decide +kernel
theorem dL_law_713 : decode cL_law 713 = .ok (.iconst 0, 1) := by decide +kernel
theorem dL_law_714 : decode cL_law 714 = .ok (.ireturn, 1) := by decide +kernel
theorem dL_law_715 : decode cL_law 715 = .ok (.goto 1541, 3) := by decide +kernel
theorem dL_law_718 : decode cL_law 718 = .ok (.aload_n 1, 1) := by decide +kernel
theorem dL_law_719 : decode cL_law 719 = .ok (.aload_n 0, 1) := by decide +kernel
theorem dL_law_720 : decode cL_law 720 = .ok (.iload 5, 2) := by decide +kernel
theorem dL_law_722 : decode cL_law 722 = .ok (.iconst 1, 1) := by decide +kernel
theorem dL_law_723 : decode cL_law 723 = .ok (.iadd, 1) := by decide +kernel
theorem dL_law_724 : decode cL_law 724 = .ok (.iaload, 1) := by decide +kernel
theorem dL_law_725 : decode cL_law 725 = .ok (.aload_n 3, 1) := by decide +kernel
theorem dL_law_726 : decode cL_law 726 = .ok (.invokestatic 162, 3) := by decide +kernel
theorem dL_law_729 : decode cL_law 729 = .ok (.istore 6, 2) := by decide +kernel
theorem dL_law_731 : decode cL_law 731 = .ok (.aload_n 2, 1) := by decide +kernel
theorem dL_law_732 : decode cL_law 732 = .ok (.aload_n 0, 1) := by decide +kernel
theorem dL_law_733 : decode cL_law 733 = .ok (.iload 5, 2) := by decide +kernel
theorem dL_law_735 : decode cL_law 735 = .ok (.iconst 1, 1) := by decide +kernel
theorem dL_law_736 : decode cL_law 736 = .ok (.iadd, 1) := by decide +kernel
theorem dL_law_737 : decode cL_law 737 = .ok (.iaload, 1) := by decide +kernel
theorem dL_law_738 : decode cL_law 738 = .ok (.invokevirtual 164, 3) := by decide +kernel
theorem dL_law_741 : decode cL_law 741 = .ok (.istore 7, 2) := by decide +kernel
theorem dL_law_743 : decode cL_law 743 = .ok (.aload_n 2, 1) := by decide +kernel
theorem dL_law_744 : decode cL_law 744 = .ok (.invokevirtual 138, 3) := by decide +kernel
theorem dL_law_747 : decode cL_law 747 = .ok (.iload 6, 2) := by decide +kernel
theorem dL_law_749 : decode cL_law 749 = .ok (.if_icmp .eq 5, 3) := by decide +kernel
theorem dL_law_752 : decode cL_law 752 = .ok (.iconst 0, 1) := by decide +kernel
theorem dL_law_753 : decode cL_law 753 = .ok (.ireturn, 1) := by decide +kernel
theorem dL_law_754 : decode cL_law 754 = .ok (.iload 6, 2) := by decide +kernel
theorem dL_law_756 : decode cL_law 756 = .ok (.ifCond .ne 15, 3) := by decide +kernel
theorem dL_law_759 : decode cL_law 759 = .ok (.aload_n 3, 1) := by decide +kernel
theorem dL_law_760 : decode cL_law 760 = .ok (.iconst 0, 1) := by decide +kernel
theorem dL_law_761 : decode cL_law 761 = .ok (.laload, 1) := by decide +kernel
theorem dL_law_762 : decode cL_law 762 = .ok (.iload 7, 2) := by decide +kernel
theorem dL_law_764 : decode cL_law 764 = .ok (.i2l, 1) := by decide +kernel
theorem dL_law_765 : decode cL_law 765 = .ok (.lcmp, 1) := by decide +kernel
theorem dL_law_766 : decode cL_law 766 = .ok (.ifCond .eq 5, 3) := by decide +kernel
theorem dL_law_769 : decode cL_law 769 = .ok (.iconst 0, 1) := by decide +kernel
theorem dL_law_770 : decode cL_law 770 = .ok (.ireturn, 1) := by decide +kernel
theorem dL_law_771 : decode cL_law 771 = .ok (.goto 1485, 3) := by decide +kernel
theorem dL_law_774 : decode cL_law 774 = .ok (.aload_n 1, 1) := by decide +kernel
theorem dL_law_775 : decode cL_law 775 = .ok (.invokevirtual 165, 3) := by decide +kernel
theorem dL_law_778 : decode cL_law 778 = .ok (.aload_n 2, 1) := by decide +kernel
theorem dL_law_779 : decode cL_law 779 = .ok (.invokevirtual 168, 3) := by decide +kernel
theorem dL_law_782 : decode cL_law 782 = .ok (.if_icmp .eq 1474, 3) := by decide +kernel
theorem dL_law_785 : decode cL_law 785 = .ok (.iconst 0, 1) := by decide +kernel
theorem dL_law_786 : decode cL_law 786 = .ok (.ireturn, 1) := by decide +kernel
theorem dL_law_787 : decode cL_law 787 = .ok (.aload_n 1, 1) := by decide +kernel
theorem dL_law_788 : decode cL_law 788 = .ok (.aload_n 0, 1) := by decide +kernel
theorem dL_law_789 : decode cL_law 789 = .ok (.iload 5, 2) := by decide +kernel
theorem dL_law_791 : decode cL_law 791 = .ok (.iconst 1, 1) := by decide +kernel
theorem dL_law_792 : decode cL_law 792 = .ok (.iadd, 1) := by decide +kernel
theorem dL_law_793 : decode cL_law 793 = .ok (.iaload, 1) := by decide +kernel
theorem dL_law_794 : decode cL_law 794 = .ok (.aload_n 3, 1) := by decide +kernel
theorem dL_law_795 : decode cL_law 795 = .ok (.invokestatic 169, 3) := by decide +kernel
theorem dL_law_798 : decode cL_law 798 = .ok (.istore 6, 2) := by decide +kernel
theorem dL_law_800 : decode cL_law 800 = .ok (.aload_n 2, 1) := by decide +kernel
theorem dL_law_801 : decode cL_law 801 = .ok (.aload_n 0, 1) := by decide +kernel
theorem dL_law_802 : decode cL_law 802 = .ok (.iload 5, 2) := by decide +kernel
theorem dL_law_804 : decode cL_law 804 = .ok (.iconst 1, 1) := by decide +kernel
theorem dL_law_805 : decode cL_law 805 = .ok (.iadd, 1) := by decide +kernel
theorem dL_law_806 : decode cL_law 806 = .ok (.iaload, 1) := by decide +kernel
theorem dL_law_807 : decode cL_law 807 = .ok (.invokevirtual 171, 3) := by decide +kernel
theorem dL_law_810 : decode cL_law 810 = .ok (.istore 7, 2) := by decide +kernel
theorem dL_law_812 : decode cL_law 812 = .ok (.aload_n 2, 1) := by decide +kernel
theorem dL_law_813 : decode cL_law 813 = .ok (.invokevirtual 138, 3) := by decide +kernel
theorem dL_law_816 : decode cL_law 816 = .ok (.iload 6, 2) := by decide +kernel
theorem dL_law_818 : decode cL_law 818 = .ok (.if_icmp .eq 5, 3) := by decide +kernel
theorem dL_law_821 : decode cL_law 821 = .ok (.iconst 0, 1) := by decide +kernel
theorem dL_law_822 : decode cL_law 822 = .ok (.ireturn, 1) := by decide +kernel
theorem dL_law_823 : decode cL_law 823 = .ok (.iload 6, 2) := by decide +kernel
theorem dL_law_825 : decode cL_law 825 = .ok (.ifCond .ne 15, 3) := by decide +kernel
theorem dL_law_828 : decode cL_law 828 = .ok (.aload_n 3, 1) := by decide +kernel
theorem dL_law_829 : decode cL_law 829 = .ok (.iconst 0, 1) := by decide +kernel
theorem dL_law_830 : decode cL_law 830 = .ok (.laload, 1) := by decide +kernel
theorem dL_law_831 : decode cL_law 831 = .ok (.iload 7, 2) := by decide +kernel
theorem dL_law_833 : decode cL_law 833 = .ok (.i2l, 1) := by decide +kernel
theorem dL_law_834 : decode cL_law 834 = .ok (.lcmp, 1) := by decide +kernel
theorem dL_law_835 : decode cL_law 835 = .ok (.ifCond .eq 5, 3) := by decide +kernel
theorem dL_law_838 : decode cL_law 838 = .ok (.iconst 0, 1) := by decide +kernel
theorem dL_law_839 : decode cL_law 839 = .ok (.ireturn, 1) := by decide +kernel
theorem dL_law_840 : decode cL_law 840 = .ok (.goto 1416, 3) := by decide +kernel
theorem dL_law_843 : decode cL_law 843 = .ok (.aload_n 1, 1) := by decide +kernel
theorem dL_law_844 : decode cL_law 844 = .ok (.aload_n 0, 1) := by decide +kernel
theorem dL_law_845 : decode cL_law 845 = .ok (.iload 5, 2) := by decide +kernel
theorem dL_law_847 : decode cL_law 847 = .ok (.iconst 1, 1) := by decide +kernel
theorem dL_law_848 : decode cL_law 848 = .ok (.iadd, 1) := by decide +kernel
theorem dL_law_849 : decode cL_law 849 = .ok (.iaload, 1) := by decide +kernel
theorem dL_law_850 : decode cL_law 850 = .ok (.aload_n 3, 1) := by decide +kernel
theorem dL_law_851 : decode cL_law 851 = .ok (.invokestatic 172, 3) := by decide +kernel
theorem dL_law_854 : decode cL_law 854 = .ok (.istore 6, 2) := by decide +kernel
theorem dL_law_856 : decode cL_law 856 = .ok (.aload_n 2, 1) := by decide +kernel
theorem dL_law_857 : decode cL_law 857 = .ok (.aload_n 0, 1) := by decide +kernel
theorem dL_law_858 : decode cL_law 858 = .ok (.iload 5, 2) := by decide +kernel
theorem dL_law_860 : decode cL_law 860 = .ok (.iconst 1, 1) := by decide +kernel
theorem dL_law_861 : decode cL_law 861 = .ok (.iadd, 1) := by decide +kernel
theorem dL_law_862 : decode cL_law 862 = .ok (.iaload, 1) := by decide +kernel
theorem dL_law_863 : decode cL_law 863 = .ok (.invokevirtual 174, 3) := by decide +kernel
theorem dL_law_866 : decode cL_law 866 = .ok (.istore 7, 2) := by decide +kernel
theorem dL_law_868 : decode cL_law 868 = .ok (.aload_n 2, 1) := by decide +kernel
theorem dL_law_869 : decode cL_law 869 = .ok (.invokevirtual 138, 3) := by decide +kernel
theorem dL_law_872 : decode cL_law 872 = .ok (.iload 6, 2) := by decide +kernel
theorem dL_law_874 : decode cL_law 874 = .ok (.if_icmp .eq 5, 3) := by decide +kernel
theorem dL_law_877 : decode cL_law 877 = .ok (.iconst 0, 1) := by decide +kernel
theorem dL_law_878 : decode cL_law 878 = .ok (.ireturn, 1) := by decide +kernel
theorem dL_law_879 : decode cL_law 879 = .ok (.iload 6, 2) := by decide +kernel
theorem dL_law_881 : decode cL_law 881 = .ok (.ifCond .ne 15, 3) := by decide +kernel
theorem dL_law_884 : decode cL_law 884 = .ok (.aload_n 3, 1) := by decide +kernel
theorem dL_law_885 : decode cL_law 885 = .ok (.iconst 0, 1) := by decide +kernel
theorem dL_law_886 : decode cL_law 886 = .ok (.laload, 1) := by decide +kernel
theorem dL_law_887 : decode cL_law 887 = .ok (.iload 7, 2) := by decide +kernel
theorem dL_law_889 : decode cL_law 889 = .ok (.i2l, 1) := by decide +kernel
theorem dL_law_890 : decode cL_law 890 = .ok (.lcmp, 1) := by decide +kernel
theorem dL_law_891 : decode cL_law 891 = .ok (.ifCond .eq 5, 3) := by decide +kernel
theorem dL_law_894 : decode cL_law 894 = .ok (.iconst 0, 1) := by decide +kernel
theorem dL_law_895 : decode cL_law 895 = .ok (.ireturn, 1) := by decide +kernel
theorem dL_law_896 : decode cL_law 896 = .ok (.goto 1360, 3) := by decide +kernel
theorem dL_law_899 : decode cL_law 899 = .ok (.aload_n 1, 1) := by decide +kernel
theorem dL_law_900 : decode cL_law 900 = .ok (.aload_n 0, 1) := by decide +kernel
theorem dL_law_901 : decode cL_law 901 = .ok (.iload 5, 2) := by decide +kernel
theorem dL_law_903 : decode cL_law 903 = .ok (.iconst 1, 1) := by decide +kernel
theorem dL_law_904 : decode cL_law 904 = .ok (.iadd, 1) := by decide +kernel
theorem dL_law_905 : decode cL_law 905 = .ok (.iaload, 1) := by decide +kernel
theorem dL_law_906 : decode cL_law 906 = .ok (.aload_n 3, 1) := by decide +kernel
theorem dL_law_907 : decode cL_law 907 = .ok (.invokestatic 175, 3) := by decide +kernel
theorem dL_law_910 : decode cL_law 910 = .ok (.istore 6, 2) := by decide +kernel
theorem dL_law_912 : decode cL_law 912 = .ok (.aload_n 2, 1) := by decide +kernel
theorem dL_law_913 : decode cL_law 913 = .ok (.aload_n 0, 1) := by decide +kernel
theorem dL_law_914 : decode cL_law 914 = .ok (.iload 5, 2) := by decide +kernel
theorem dL_law_916 : decode cL_law 916 = .ok (.iconst 1, 1) := by decide +kernel
theorem dL_law_917 : decode cL_law 917 = .ok (.iadd, 1) := by decide +kernel
theorem dL_law_918 : decode cL_law 918 = .ok (.iaload, 1) := by decide +kernel
theorem dL_law_919 : decode cL_law 919 = .ok (.invokevirtual 177, 3) := by decide +kernel
theorem dL_law_922 : decode cL_law 922 = .ok (.istore 7, 2) := by decide +kernel
theorem dL_law_924 : decode cL_law 924 = .ok (.aload_n 2, 1) := by decide +kernel
theorem dL_law_925 : decode cL_law 925 = .ok (.invokevirtual 138, 3) := by decide +kernel
theorem dL_law_928 : decode cL_law 928 = .ok (.iload 6, 2) := by decide +kernel
theorem dL_law_930 : decode cL_law 930 = .ok (.if_icmp .eq 5, 3) := by decide +kernel
theorem dL_law_933 : decode cL_law 933 = .ok (.iconst 0, 1) := by decide +kernel
theorem dL_law_934 : decode cL_law 934 = .ok (.ireturn, 1) := by decide +kernel
theorem dL_law_935 : decode cL_law 935 = .ok (.iload 6, 2) := by decide +kernel
theorem dL_law_937 : decode cL_law 937 = .ok (.ifCond .ne 15, 3) := by decide +kernel
theorem dL_law_940 : decode cL_law 940 = .ok (.aload_n 3, 1) := by decide +kernel
theorem dL_law_941 : decode cL_law 941 = .ok (.iconst 0, 1) := by decide +kernel
theorem dL_law_942 : decode cL_law 942 = .ok (.laload, 1) := by decide +kernel
theorem dL_law_943 : decode cL_law 943 = .ok (.iload 7, 2) := by decide +kernel
theorem dL_law_945 : decode cL_law 945 = .ok (.i2l, 1) := by decide +kernel
theorem dL_law_946 : decode cL_law 946 = .ok (.lcmp, 1) := by decide +kernel
theorem dL_law_947 : decode cL_law 947 = .ok (.ifCond .eq 5, 3) := by decide +kernel
theorem dL_law_950 : decode cL_law 950 = .ok (.iconst 0, 1) := by decide +kernel
theorem dL_law_951 : decode cL_law 951 = .ok (.ireturn, 1) := by decide +kernel
theorem dL_law_952 : decode cL_law 952 = .ok (.goto 1304, 3) := by decide +kernel
theorem dL_law_955 : decode cL_law 955 = .ok (.aload_n 1, 1) := by decide +kernel
theorem dL_law_956 : decode cL_law 956 = .ok (.aload_n 0, 1) := by decide +kernel
theorem dL_law_957 : decode cL_law 957 = .ok (.iload 5, 2) := by decide +kernel
theorem dL_law_959 : decode cL_law 959 = .ok (.iconst 1, 1) := by decide +kernel
theorem dL_law_960 : decode cL_law 960 = .ok (.iadd, 1) := by decide +kernel
theorem dL_law_961 : decode cL_law 961 = .ok (.iaload, 1) := by decide +kernel
theorem dL_law_962 : decode cL_law 962 = .ok (.aload_n 3, 1) := by decide +kernel
theorem dL_law_963 : decode cL_law 963 = .ok (.invokestatic 178, 3) := by decide +kernel
theorem dL_law_966 : decode cL_law 966 = .ok (.istore 6, 2) := by decide +kernel
theorem dL_law_968 : decode cL_law 968 = .ok (.aload_n 2, 1) := by decide +kernel
theorem dL_law_969 : decode cL_law 969 = .ok (.aload_n 0, 1) := by decide +kernel
theorem dL_law_970 : decode cL_law 970 = .ok (.iload 5, 2) := by decide +kernel
theorem dL_law_972 : decode cL_law 972 = .ok (.iconst 1, 1) := by decide +kernel
theorem dL_law_973 : decode cL_law 973 = .ok (.iadd, 1) := by decide +kernel
theorem dL_law_974 : decode cL_law 974 = .ok (.iaload, 1) := by decide +kernel
theorem dL_law_975 : decode cL_law 975 = .ok (.invokevirtual 180, 3) := by decide +kernel
theorem dL_law_978 : decode cL_law 978 = .ok (.istore 7, 2) := by decide +kernel
theorem dL_law_980 : decode cL_law 980 = .ok (.aload_n 2, 1) := by decide +kernel
theorem dL_law_981 : decode cL_law 981 = .ok (.invokevirtual 138, 3) := by decide +kernel
theorem dL_law_984 : decode cL_law 984 = .ok (.iload 6, 2) := by decide +kernel
theorem dL_law_986 : decode cL_law 986 = .ok (.if_icmp .eq 5, 3) := by decide +kernel
theorem dL_law_989 : decode cL_law 989 = .ok (.iconst 0, 1) := by decide +kernel
theorem dL_law_990 : decode cL_law 990 = .ok (.ireturn, 1) := by decide +kernel
theorem dL_law_991 : decode cL_law 991 = .ok (.iload 6, 2) := by decide +kernel
theorem dL_law_993 : decode cL_law 993 = .ok (.ifCond .ne 22, 3) := by decide +kernel
theorem dL_law_996 : decode cL_law 996 = .ok (.aload_n 3, 1) := by decide +kernel
theorem dL_law_997 : decode cL_law 997 = .ok (.iconst 0, 1) := by decide +kernel
theorem dL_law_998 : decode cL_law 998 = .ok (.laload, 1) := by decide +kernel
theorem dL_law_999 : decode cL_law 999 = .ok (.iload 7, 2) := by decide +kernel
theorem dL_law_1001 : decode cL_law 1001 = .ok (.ifCond .eq 7, 3) := by decide +kernel
theorem dL_law_1004 : decode cL_law 1004 = .ok (.lconst 1, 1) := by decide +kernel
theorem dL_law_1005 : decode cL_law 1005 = .ok (.goto 4, 3) := by decide +kernel
theorem dL_law_1008 : decode cL_law 1008 = .ok (.lconst 0, 1) := by decide +kernel
theorem dL_law_1009 : decode cL_law 1009 = .ok (.lcmp, 1) := by decide +kernel
theorem dL_law_1010 : decode cL_law 1010 = .ok (.ifCond .eq 5, 3) := by decide +kernel
theorem dL_law_1013 : decode cL_law 1013 = .ok (.iconst 0, 1) := by decide +kernel
theorem dL_law_1014 : decode cL_law 1014 = .ok (.ireturn, 1) := by decide +kernel
theorem dL_law_1015 : decode cL_law 1015 = .ok (.goto 1241, 3) := by decide +kernel
theorem dL_law_1018 : decode cL_law 1018 = .ok (.aload_n 1, 1) := by decide +kernel
theorem dL_law_1019 : decode cL_law 1019 = .ok (.invokevirtual 181, 3) := by decide +kernel
theorem dL_law_1022 : decode cL_law 1022 = .ok (.aload_n 2, 1) := by decide +kernel
theorem dL_law_1023 : decode cL_law 1023 = .ok (.invokevirtual 184, 3) := by decide +kernel
theorem dL_law_1026 : decode cL_law 1026 = .ok (.if_icmp .eq 1230, 3) := by decide +kernel
theorem dL_law_1029 : decode cL_law 1029 = .ok (.iconst 0, 1) := by decide +kernel
theorem dL_law_1030 : decode cL_law 1030 = .ok (.ireturn, 1) := by decide +kernel
theorem dL_law_1031 : decode cL_law 1031 = .ok (.aload_n 1, 1) := by decide +kernel
theorem dL_law_1032 : decode cL_law 1032 = .ok (.aload_n 0, 1) := by decide +kernel
theorem dL_law_1033 : decode cL_law 1033 = .ok (.iload 5, 2) := by decide +kernel
theorem dL_law_1035 : decode cL_law 1035 = .ok (.iconst 1, 1) := by decide +kernel
theorem dL_law_1036 : decode cL_law 1036 = .ok (.iadd, 1) := by decide +kernel
theorem dL_law_1037 : decode cL_law 1037 = .ok (.iaload, 1) := by decide +kernel
theorem dL_law_1038 : decode cL_law 1038 = .ok (.i2c, 1) := by decide +kernel
theorem dL_law_1039 : decode cL_law 1039 = .ok (.aload_n 3, 1) := by decide +kernel
theorem dL_law_1040 : decode cL_law 1040 = .ok (.invokestatic 185, 3) := by decide +kernel
theorem dL_law_1043 : decode cL_law 1043 = .ok (.istore 6, 2) := by decide +kernel
theorem dL_law_1045 : decode cL_law 1045 = .ok (.aload_n 2, 1) := by decide +kernel
theorem dL_law_1046 : decode cL_law 1046 = .ok (.aload_n 0, 1) := by decide +kernel
theorem dL_law_1047 : decode cL_law 1047 = .ok (.iload 5, 2) := by decide +kernel
theorem dL_law_1049 : decode cL_law 1049 = .ok (.iconst 1, 1) := by decide +kernel
theorem dL_law_1050 : decode cL_law 1050 = .ok (.iadd, 1) := by decide +kernel
theorem dL_law_1051 : decode cL_law 1051 = .ok (.iaload, 1) := by decide +kernel
theorem dL_law_1052 : decode cL_law 1052 = .ok (.i2c, 1) := by decide +kernel
theorem dL_law_1053 : decode cL_law 1053 = .ok (.invokevirtual 188, 3) := by decide +kernel
theorem dL_law_1056 : decode cL_law 1056 = .ok (.istore 7, 2) := by decide +kernel
theorem dL_law_1058 : decode cL_law 1058 = .ok (.aload_n 2, 1) := by decide +kernel
theorem dL_law_1059 : decode cL_law 1059 = .ok (.invokevirtual 138, 3) := by decide +kernel
theorem dL_law_1062 : decode cL_law 1062 = .ok (.iload 6, 2) := by decide +kernel
theorem dL_law_1064 : decode cL_law 1064 = .ok (.if_icmp .eq 5, 3) := by decide +kernel
theorem dL_law_1067 : decode cL_law 1067 = .ok (.iconst 0, 1) := by decide +kernel
theorem dL_law_1068 : decode cL_law 1068 = .ok (.ireturn, 1) := by decide +kernel
theorem dL_law_1069 : decode cL_law 1069 = .ok (.iload 6, 2) := by decide +kernel
theorem dL_law_1071 : decode cL_law 1071 = .ok (.ifCond .ne 15, 3) := by decide +kernel
theorem dL_law_1074 : decode cL_law 1074 = .ok (.aload_n 3, 1) := by decide +kernel
theorem dL_law_1075 : decode cL_law 1075 = .ok (.iconst 0, 1) := by decide +kernel
theorem dL_law_1076 : decode cL_law 1076 = .ok (.laload, 1) := by decide +kernel
theorem dL_law_1077 : decode cL_law 1077 = .ok (.iload 7, 2) := by decide +kernel
theorem dL_law_1079 : decode cL_law 1079 = .ok (.i2l, 1) := by decide +kernel
theorem dL_law_1080 : decode cL_law 1080 = .ok (.lcmp, 1) := by decide +kernel
theorem dL_law_1081 : decode cL_law 1081 = .ok (.ifCond .eq 5, 3) := by decide +kernel
theorem dL_law_1084 : decode cL_law 1084 = .ok (.iconst 0, 1) := by decide +kernel
theorem dL_law_1085 : decode cL_law 1085 = .ok (.ireturn, 1) := by decide +kernel
theorem dL_law_1086 : decode cL_law 1086 = .ok (.goto 1170, 3) := by decide +kernel
theorem dL_law_1089 : decode cL_law 1089 = .ok (.aload_n 1, 1) := by decide +kernel
theorem dL_law_1090 : decode cL_law 1090 = .ok (.aload_n 0, 1) := by decide +kernel
theorem dL_law_1091 : decode cL_law 1091 = .ok (.iload 5, 2) := by decide +kernel
theorem dL_law_1093 : decode cL_law 1093 = .ok (.iconst 1, 1) := by decide +kernel
theorem dL_law_1094 : decode cL_law 1094 = .ok (.iadd, 1) := by decide +kernel
theorem dL_law_1095 : decode cL_law 1095 = .ok (.iaload, 1) := by decide +kernel
theorem dL_law_1096 : decode cL_law 1096 = .ok (.aload_n 3, 1) := by decide +kernel
theorem dL_law_1097 : decode cL_law 1097 = .ok (.invokestatic 189, 3) := by decide +kernel
theorem dL_law_1100 : decode cL_law 1100 = .ok (.istore 6, 2) := by decide +kernel
theorem dL_law_1102 : decode cL_law 1102 = .ok (.aload_n 2, 1) := by decide +kernel
theorem dL_law_1103 : decode cL_law 1103 = .ok (.aload_n 0, 1) := by decide +kernel
theorem dL_law_1104 : decode cL_law 1104 = .ok (.iload 5, 2) := by decide +kernel
theorem dL_law_1106 : decode cL_law 1106 = .ok (.iconst 1, 1) := by decide +kernel
theorem dL_law_1107 : decode cL_law 1107 = .ok (.iadd, 1) := by decide +kernel
theorem dL_law_1108 : decode cL_law 1108 = .ok (.iaload, 1) := by decide +kernel
theorem dL_law_1109 : decode cL_law 1109 = .ok (.invokevirtual 191, 3) := by decide +kernel
theorem dL_law_1112 : decode cL_law 1112 = .ok (.istore 7, 2) := by decide +kernel
theorem dL_law_1114 : decode cL_law 1114 = .ok (.aload_n 2, 1) := by decide +kernel
theorem dL_law_1115 : decode cL_law 1115 = .ok (.invokevirtual 138, 3) := by decide +kernel
theorem dL_law_1118 : decode cL_law 1118 = .ok (.iload 6, 2) := by decide +kernel
theorem dL_law_1120 : decode cL_law 1120 = .ok (.if_icmp .eq 5, 3) := by decide +kernel
theorem dL_law_1123 : decode cL_law 1123 = .ok (.iconst 0, 1) := by decide +kernel
theorem dL_law_1124 : decode cL_law 1124 = .ok (.ireturn, 1) := by decide +kernel
theorem dL_law_1125 : decode cL_law 1125 = .ok (.iload 6, 2) := by decide +kernel
theorem dL_law_1127 : decode cL_law 1127 = .ok (.ifCond .ne 15, 3) := by decide +kernel
theorem dL_law_1130 : decode cL_law 1130 = .ok (.aload_n 3, 1) := by decide +kernel
theorem dL_law_1131 : decode cL_law 1131 = .ok (.iconst 0, 1) := by decide +kernel
theorem dL_law_1132 : decode cL_law 1132 = .ok (.laload, 1) := by decide +kernel
theorem dL_law_1133 : decode cL_law 1133 = .ok (.iload 7, 2) := by decide +kernel
theorem dL_law_1135 : decode cL_law 1135 = .ok (.i2l, 1) := by decide +kernel
theorem dL_law_1136 : decode cL_law 1136 = .ok (.lcmp, 1) := by decide +kernel
theorem dL_law_1137 : decode cL_law 1137 = .ok (.ifCond .eq 5, 3) := by decide +kernel
theorem dL_law_1140 : decode cL_law 1140 = .ok (.iconst 0, 1) := by decide +kernel
theorem dL_law_1141 : decode cL_law 1141 = .ok (.ireturn, 1) := by decide +kernel
theorem dL_law_1142 : decode cL_law 1142 = .ok (.goto 1114, 3) := by decide +kernel
theorem dL_law_1145 : decode cL_law 1145 = .ok (.aload_n 1, 1) := by decide +kernel
theorem dL_law_1146 : decode cL_law 1146 = .ok (.aload_n 0, 1) := by decide +kernel
theorem dL_law_1147 : decode cL_law 1147 = .ok (.iload 5, 2) := by decide +kernel
theorem dL_law_1149 : decode cL_law 1149 = .ok (.iconst 1, 1) := by decide +kernel
theorem dL_law_1150 : decode cL_law 1150 = .ok (.iadd, 1) := by decide +kernel
theorem dL_law_1151 : decode cL_law 1151 = .ok (.iaload, 1) := by decide +kernel
theorem dL_law_1152 : decode cL_law 1152 = .ok (.aload_n 3, 1) := by decide +kernel
theorem dL_law_1153 : decode cL_law 1153 = .ok (.invokestatic 192, 3) := by decide +kernel
theorem dL_law_1156 : decode cL_law 1156 = .ok (.istore 6, 2) := by decide +kernel
theorem dL_law_1158 : decode cL_law 1158 = .ok (.aload_n 2, 1) := by decide +kernel
theorem dL_law_1159 : decode cL_law 1159 = .ok (.aload_n 0, 1) := by decide +kernel
theorem dL_law_1160 : decode cL_law 1160 = .ok (.iload 5, 2) := by decide +kernel
theorem dL_law_1162 : decode cL_law 1162 = .ok (.iconst 1, 1) := by decide +kernel
theorem dL_law_1163 : decode cL_law 1163 = .ok (.iadd, 1) := by decide +kernel
theorem dL_law_1164 : decode cL_law 1164 = .ok (.iaload, 1) := by decide +kernel
theorem dL_law_1165 : decode cL_law 1165 = .ok (.invokevirtual 194, 3) := by decide +kernel
theorem dL_law_1168 : decode cL_law 1168 = .ok (.istore 7, 2) := by decide +kernel
theorem dL_law_1170 : decode cL_law 1170 = .ok (.aload_n 2, 1) := by decide +kernel
theorem dL_law_1171 : decode cL_law 1171 = .ok (.invokevirtual 138, 3) := by decide +kernel
theorem dL_law_1174 : decode cL_law 1174 = .ok (.iload 6, 2) := by decide +kernel
theorem dL_law_1176 : decode cL_law 1176 = .ok (.if_icmp .eq 5, 3) := by decide +kernel
theorem dL_law_1179 : decode cL_law 1179 = .ok (.iconst 0, 1) := by decide +kernel
theorem dL_law_1180 : decode cL_law 1180 = .ok (.ireturn, 1) := by decide +kernel
theorem dL_law_1181 : decode cL_law 1181 = .ok (.iload 6, 2) := by decide +kernel
theorem dL_law_1183 : decode cL_law 1183 = .ok (.ifCond .ne 15, 3) := by decide +kernel
theorem dL_law_1186 : decode cL_law 1186 = .ok (.aload_n 3, 1) := by decide +kernel
theorem dL_law_1187 : decode cL_law 1187 = .ok (.iconst 0, 1) := by decide +kernel
theorem dL_law_1188 : decode cL_law 1188 = .ok (.laload, 1) := by decide +kernel
theorem dL_law_1189 : decode cL_law 1189 = .ok (.iload 7, 2) := by decide +kernel
theorem dL_law_1191 : decode cL_law 1191 = .ok (.i2l, 1) := by decide +kernel
theorem dL_law_1192 : decode cL_law 1192 = .ok (.lcmp, 1) := by decide +kernel
theorem dL_law_1193 : decode cL_law 1193 = .ok (.ifCond .eq 5, 3) := by decide +kernel
theorem dL_law_1196 : decode cL_law 1196 = .ok (.iconst 0, 1) := by decide +kernel
theorem dL_law_1197 : decode cL_law 1197 = .ok (.ireturn, 1) := by decide +kernel
theorem dL_law_1198 : decode cL_law 1198 = .ok (.goto 1058, 3) := by decide +kernel
theorem dL_law_1201 : decode cL_law 1201 = .ok (.aload_n 1, 1) := by decide +kernel
theorem dL_law_1202 : decode cL_law 1202 = .ok (.aload_n 0, 1) := by decide +kernel
theorem dL_law_1203 : decode cL_law 1203 = .ok (.iload 5, 2) := by decide +kernel
theorem dL_law_1205 : decode cL_law 1205 = .ok (.iconst 1, 1) := by decide +kernel
theorem dL_law_1206 : decode cL_law 1206 = .ok (.iadd, 1) := by decide +kernel
theorem dL_law_1207 : decode cL_law 1207 = .ok (.iaload, 1) := by decide +kernel
theorem dL_law_1208 : decode cL_law 1208 = .ok (.aload_n 3, 1) := by decide +kernel
theorem dL_law_1209 : decode cL_law 1209 = .ok (.invokestatic 195, 3) := by decide +kernel
theorem dL_law_1212 : decode cL_law 1212 = .ok (.istore 6, 2) := by decide +kernel
theorem dL_law_1214 : decode cL_law 1214 = .ok (.aload_n 2, 1) := by decide +kernel
theorem dL_law_1215 : decode cL_law 1215 = .ok (.aload_n 0, 1) := by decide +kernel
theorem dL_law_1216 : decode cL_law 1216 = .ok (.iload 5, 2) := by decide +kernel
theorem dL_law_1218 : decode cL_law 1218 = .ok (.iconst 1, 1) := by decide +kernel
theorem dL_law_1219 : decode cL_law 1219 = .ok (.iadd, 1) := by decide +kernel
theorem dL_law_1220 : decode cL_law 1220 = .ok (.iaload, 1) := by decide +kernel
theorem dL_law_1221 : decode cL_law 1221 = .ok (.invokevirtual 197, 3) := by decide +kernel
theorem dL_law_1224 : decode cL_law 1224 = .ok (.istore 7, 2) := by decide +kernel
theorem dL_law_1226 : decode cL_law 1226 = .ok (.aload_n 2, 1) := by decide +kernel
theorem dL_law_1227 : decode cL_law 1227 = .ok (.invokevirtual 138, 3) := by decide +kernel
theorem dL_law_1230 : decode cL_law 1230 = .ok (.iload 6, 2) := by decide +kernel
theorem dL_law_1232 : decode cL_law 1232 = .ok (.if_icmp .eq 5, 3) := by decide +kernel
theorem dL_law_1235 : decode cL_law 1235 = .ok (.iconst 0, 1) := by decide +kernel
theorem dL_law_1236 : decode cL_law 1236 = .ok (.ireturn, 1) := by decide +kernel
theorem dL_law_1237 : decode cL_law 1237 = .ok (.iload 6, 2) := by decide +kernel
theorem dL_law_1239 : decode cL_law 1239 = .ok (.ifCond .ne 15, 3) := by decide +kernel
theorem dL_law_1242 : decode cL_law 1242 = .ok (.aload_n 3, 1) := by decide +kernel
theorem dL_law_1243 : decode cL_law 1243 = .ok (.iconst 0, 1) := by decide +kernel
theorem dL_law_1244 : decode cL_law 1244 = .ok (.laload, 1) := by decide +kernel
theorem dL_law_1245 : decode cL_law 1245 = .ok (.iload 7, 2) := by decide +kernel
theorem dL_law_1247 : decode cL_law 1247 = .ok (.i2l, 1) := by decide +kernel
theorem dL_law_1248 : decode cL_law 1248 = .ok (.lcmp, 1) := by decide +kernel
theorem dL_law_1249 : decode cL_law 1249 = .ok (.ifCond .eq 5, 3) := by decide +kernel
theorem dL_law_1252 : decode cL_law 1252 = .ok (.iconst 0, 1) := by decide +kernel
theorem dL_law_1253 : decode cL_law 1253 = .ok (.ireturn, 1) := by decide +kernel
theorem dL_law_1254 : decode cL_law 1254 = .ok (.goto 1002, 3) := by decide +kernel
theorem dL_law_1257 : decode cL_law 1257 = .ok (.aload_n 1, 1) := by decide +kernel
theorem dL_law_1258 : decode cL_law 1258 = .ok (.invokevirtual 198, 3) := by decide +kernel
theorem dL_law_1261 : decode cL_law 1261 = .ok (.aload_n 2, 1) := by decide +kernel
theorem dL_law_1262 : decode cL_law 1262 = .ok (.invokevirtual 201, 3) := by decide +kernel
theorem dL_law_1265 : decode cL_law 1265 = .ok (.if_icmp .eq 991, 3) := by decide +kernel
theorem dL_law_1268 : decode cL_law 1268 = .ok (.iconst 0, 1) := by decide +kernel
theorem dL_law_1269 : decode cL_law 1269 = .ok (.ireturn, 1) := by decide +kernel
theorem dL_law_1270 : decode cL_law 1270 = .ok (.aload_n 1, 1) := by decide +kernel
theorem dL_law_1271 : decode cL_law 1271 = .ok (.aload_n 0, 1) := by decide +kernel
theorem dL_law_1272 : decode cL_law 1272 = .ok (.iload 5, 2) := by decide +kernel
theorem dL_law_1274 : decode cL_law 1274 = .ok (.iconst 1, 1) := by decide +kernel
theorem dL_law_1275 : decode cL_law 1275 = .ok (.iadd, 1) := by decide +kernel
theorem dL_law_1276 : decode cL_law 1276 = .ok (.iaload, 1) := by decide +kernel
theorem dL_law_1277 : decode cL_law 1277 = .ok (.aload_n 3, 1) := by decide +kernel
theorem dL_law_1278 : decode cL_law 1278 = .ok (.invokestatic 202, 3) := by decide +kernel
theorem dL_law_1281 : decode cL_law 1281 = .ok (.istore 6, 2) := by decide +kernel
theorem dL_law_1283 : decode cL_law 1283 = .ok (.aload_n 2, 1) := by decide +kernel
theorem dL_law_1284 : decode cL_law 1284 = .ok (.aload_n 0, 1) := by decide +kernel
theorem dL_law_1285 : decode cL_law 1285 = .ok (.iload 5, 2) := by decide +kernel
theorem dL_law_1287 : decode cL_law 1287 = .ok (.iconst 1, 1) := by decide +kernel
theorem dL_law_1288 : decode cL_law 1288 = .ok (.iadd, 1) := by decide +kernel
theorem dL_law_1289 : decode cL_law 1289 = .ok (.iaload, 1) := by decide +kernel
theorem dL_law_1290 : decode cL_law 1290 = .ok (.invokevirtual 204, 3) := by decide +kernel
theorem dL_law_1293 : decode cL_law 1293 = .ok (.istore 7, 2) := by decide +kernel
theorem dL_law_1295 : decode cL_law 1295 = .ok (.aload_n 2, 1) := by decide +kernel
theorem dL_law_1296 : decode cL_law 1296 = .ok (.invokevirtual 138, 3) := by decide +kernel
theorem dL_law_1299 : decode cL_law 1299 = .ok (.iload 6, 2) := by decide +kernel
theorem dL_law_1301 : decode cL_law 1301 = .ok (.if_icmp .eq 5, 3) := by decide +kernel
theorem dL_law_1304 : decode cL_law 1304 = .ok (.iconst 0, 1) := by decide +kernel
theorem dL_law_1305 : decode cL_law 1305 = .ok (.ireturn, 1) := by decide +kernel
theorem dL_law_1306 : decode cL_law 1306 = .ok (.iload 6, 2) := by decide +kernel
theorem dL_law_1308 : decode cL_law 1308 = .ok (.ifCond .ne 15, 3) := by decide +kernel
theorem dL_law_1311 : decode cL_law 1311 = .ok (.aload_n 3, 1) := by decide +kernel
theorem dL_law_1312 : decode cL_law 1312 = .ok (.iconst 0, 1) := by decide +kernel
theorem dL_law_1313 : decode cL_law 1313 = .ok (.laload, 1) := by decide +kernel
theorem dL_law_1314 : decode cL_law 1314 = .ok (.iload 7, 2) := by decide +kernel
theorem dL_law_1316 : decode cL_law 1316 = .ok (.i2l, 1) := by decide +kernel
theorem dL_law_1317 : decode cL_law 1317 = .ok (.lcmp, 1) := by decide +kernel
theorem dL_law_1318 : decode cL_law 1318 = .ok (.ifCond .eq 5, 3) := by decide +kernel
theorem dL_law_1321 : decode cL_law 1321 = .ok (.iconst 0, 1) := by decide +kernel
theorem dL_law_1322 : decode cL_law 1322 = .ok (.ireturn, 1) := by decide +kernel
theorem dL_law_1323 : decode cL_law 1323 = .ok (.goto 933, 3) := by decide +kernel
theorem dL_law_1326 : decode cL_law 1326 = .ok (.aload_n 1, 1) := by decide +kernel
theorem dL_law_1327 : decode cL_law 1327 = .ok (.aload_n 0, 1) := by decide +kernel
theorem dL_law_1328 : decode cL_law 1328 = .ok (.iload 5, 2) := by decide +kernel
theorem dL_law_1330 : decode cL_law 1330 = .ok (.iconst 1, 1) := by decide +kernel
theorem dL_law_1331 : decode cL_law 1331 = .ok (.iadd, 1) := by decide +kernel
theorem dL_law_1332 : decode cL_law 1332 = .ok (.iaload, 1) := by decide +kernel
theorem dL_law_1333 : decode cL_law 1333 = .ok (.aload_n 3, 1) := by decide +kernel
theorem dL_law_1334 : decode cL_law 1334 = .ok (.invokestatic 205, 3) := by decide +kernel
theorem dL_law_1337 : decode cL_law 1337 = .ok (.istore 6, 2) := by decide +kernel
theorem dL_law_1339 : decode cL_law 1339 = .ok (.aload_n 2, 1) := by decide +kernel
theorem dL_law_1340 : decode cL_law 1340 = .ok (.aload_n 0, 1) := by decide +kernel
theorem dL_law_1341 : decode cL_law 1341 = .ok (.iload 5, 2) := by decide +kernel
theorem dL_law_1343 : decode cL_law 1343 = .ok (.iconst 1, 1) := by decide +kernel
theorem dL_law_1344 : decode cL_law 1344 = .ok (.iadd, 1) := by decide +kernel
theorem dL_law_1345 : decode cL_law 1345 = .ok (.iaload, 1) := by decide +kernel
theorem dL_law_1346 : decode cL_law 1346 = .ok (.invokevirtual 207, 3) := by decide +kernel
theorem dL_law_1349 : decode cL_law 1349 = .ok (.istore 7, 2) := by decide +kernel
theorem dL_law_1351 : decode cL_law 1351 = .ok (.aload_n 2, 1) := by decide +kernel
theorem dL_law_1352 : decode cL_law 1352 = .ok (.invokevirtual 138, 3) := by decide +kernel
theorem dL_law_1355 : decode cL_law 1355 = .ok (.iload 6, 2) := by decide +kernel
theorem dL_law_1357 : decode cL_law 1357 = .ok (.if_icmp .eq 5, 3) := by decide +kernel
theorem dL_law_1360 : decode cL_law 1360 = .ok (.iconst 0, 1) := by decide +kernel
theorem dL_law_1361 : decode cL_law 1361 = .ok (.ireturn, 1) := by decide +kernel
theorem dL_law_1362 : decode cL_law 1362 = .ok (.iload 6, 2) := by decide +kernel
theorem dL_law_1364 : decode cL_law 1364 = .ok (.ifCond .ne 15, 3) := by decide +kernel
theorem dL_law_1367 : decode cL_law 1367 = .ok (.aload_n 3, 1) := by decide +kernel
theorem dL_law_1368 : decode cL_law 1368 = .ok (.iconst 0, 1) := by decide +kernel
theorem dL_law_1369 : decode cL_law 1369 = .ok (.laload, 1) := by decide +kernel
theorem dL_law_1370 : decode cL_law 1370 = .ok (.iload 7, 2) := by decide +kernel
theorem dL_law_1372 : decode cL_law 1372 = .ok (.i2l, 1) := by decide +kernel
theorem dL_law_1373 : decode cL_law 1373 = .ok (.lcmp, 1) := by decide +kernel
theorem dL_law_1374 : decode cL_law 1374 = .ok (.ifCond .eq 5, 3) := by decide +kernel
theorem dL_law_1377 : decode cL_law 1377 = .ok (.iconst 0, 1) := by decide +kernel
theorem dL_law_1378 : decode cL_law 1378 = .ok (.ireturn, 1) := by decide +kernel
theorem dL_law_1379 : decode cL_law 1379 = .ok (.goto 877, 3) := by decide +kernel
theorem dL_law_1382 : decode cL_law 1382 = .ok (.aload_n 1, 1) := by decide +kernel
theorem dL_law_1383 : decode cL_law 1383 = .ok (.aload_n 0, 1) := by decide +kernel
theorem dL_law_1384 : decode cL_law 1384 = .ok (.iload 5, 2) := by decide +kernel
theorem dL_law_1386 : decode cL_law 1386 = .ok (.iconst 1, 1) := by decide +kernel
theorem dL_law_1387 : decode cL_law 1387 = .ok (.iadd, 1) := by decide +kernel
theorem dL_law_1388 : decode cL_law 1388 = .ok (.iaload, 1) := by decide +kernel
theorem dL_law_1389 : decode cL_law 1389 = .ok (.aload_n 3, 1) := by decide +kernel
theorem dL_law_1390 : decode cL_law 1390 = .ok (.invokestatic 208, 3) := by decide +kernel
theorem dL_law_1393 : decode cL_law 1393 = .ok (.istore 6, 2) := by decide +kernel
theorem dL_law_1395 : decode cL_law 1395 = .ok (.aload_n 2, 1) := by decide +kernel
theorem dL_law_1396 : decode cL_law 1396 = .ok (.aload_n 0, 1) := by decide +kernel
theorem dL_law_1397 : decode cL_law 1397 = .ok (.iload 5, 2) := by decide +kernel
theorem dL_law_1399 : decode cL_law 1399 = .ok (.iconst 1, 1) := by decide +kernel
theorem dL_law_1400 : decode cL_law 1400 = .ok (.iadd, 1) := by decide +kernel
theorem dL_law_1401 : decode cL_law 1401 = .ok (.iaload, 1) := by decide +kernel
theorem dL_law_1402 : decode cL_law 1402 = .ok (.invokevirtual 210, 3) := by decide +kernel
theorem dL_law_1405 : decode cL_law 1405 = .ok (.istore 7, 2) := by decide +kernel
theorem dL_law_1407 : decode cL_law 1407 = .ok (.aload_n 2, 1) := by decide +kernel
theorem dL_law_1408 : decode cL_law 1408 = .ok (.invokevirtual 138, 3) := by decide +kernel
theorem dL_law_1411 : decode cL_law 1411 = .ok (.iload 6, 2) := by decide +kernel
theorem dL_law_1413 : decode cL_law 1413 = .ok (.if_icmp .eq 5, 3) := by decide +kernel
theorem dL_law_1416 : decode cL_law 1416 = .ok (.iconst 0, 1) := by decide +kernel
theorem dL_law_1417 : decode cL_law 1417 = .ok (.ireturn, 1) := by decide +kernel
theorem dL_law_1418 : decode cL_law 1418 = .ok (.iload 6, 2) := by decide +kernel
theorem dL_law_1420 : decode cL_law 1420 = .ok (.ifCond .ne 22, 3) := by decide +kernel
theorem dL_law_1423 : decode cL_law 1423 = .ok (.aload_n 3, 1) := by decide +kernel
theorem dL_law_1424 : decode cL_law 1424 = .ok (.iconst 0, 1) := by decide +kernel
theorem dL_law_1425 : decode cL_law 1425 = .ok (.laload, 1) := by decide +kernel
theorem dL_law_1426 : decode cL_law 1426 = .ok (.iload 7, 2) := by decide +kernel
theorem dL_law_1428 : decode cL_law 1428 = .ok (.ifCond .eq 7, 3) := by decide +kernel
theorem dL_law_1431 : decode cL_law 1431 = .ok (.lconst 1, 1) := by decide +kernel
theorem dL_law_1432 : decode cL_law 1432 = .ok (.goto 4, 3) := by decide +kernel
theorem dL_law_1435 : decode cL_law 1435 = .ok (.lconst 0, 1) := by decide +kernel
theorem dL_law_1436 : decode cL_law 1436 = .ok (.lcmp, 1) := by decide +kernel
theorem dL_law_1437 : decode cL_law 1437 = .ok (.ifCond .eq 5, 3) := by decide +kernel
theorem dL_law_1440 : decode cL_law 1440 = .ok (.iconst 0, 1) := by decide +kernel
theorem dL_law_1441 : decode cL_law 1441 = .ok (.ireturn, 1) := by decide +kernel
theorem dL_law_1442 : decode cL_law 1442 = .ok (.goto 814, 3) := by decide +kernel
theorem dL_law_1445 : decode cL_law 1445 = .ok (.aload_n 1, 1) := by decide +kernel
theorem dL_law_1446 : decode cL_law 1446 = .ok (.invokevirtual 211, 3) := by decide +kernel
theorem dL_law_1449 : decode cL_law 1449 = .ok (.aload_n 2, 1) := by decide +kernel
theorem dL_law_1450 : decode cL_law 1450 = .ok (.invokevirtual 214, 3) := by decide +kernel
theorem dL_law_1453 : decode cL_law 1453 = .ok (.if_icmp .eq 803, 3) := by decide +kernel
theorem dL_law_1456 : decode cL_law 1456 = .ok (.iconst 0, 1) := by decide +kernel
theorem dL_law_1457 : decode cL_law 1457 = .ok (.ireturn, 1) := by decide +kernel
theorem dL_law_1458 : decode cL_law 1458 = .ok (.aload_n 1, 1) := by decide +kernel
theorem dL_law_1459 : decode cL_law 1459 = .ok (.aload_n 3, 1) := by decide +kernel
theorem dL_law_1460 : decode cL_law 1460 = .ok (.invokestatic 215, 3) := by decide +kernel
theorem dL_law_1463 : decode cL_law 1463 = .ok (.istore 6, 2) := by decide +kernel
theorem dL_law_1465 : decode cL_law 1465 = .ok (.aload_n 2, 1) := by decide +kernel
theorem dL_law_1466 : decode cL_law 1466 = .ok (.invokevirtual 218, 3) := by decide +kernel
theorem dL_law_1469 : decode cL_law 1469 = .ok (.istore 7, 2) := by decide +kernel
theorem dL_law_1471 : decode cL_law 1471 = .ok (.aload_n 2, 1) := by decide +kernel
theorem dL_law_1472 : decode cL_law 1472 = .ok (.invokevirtual 138, 3) := by decide +kernel
theorem dL_law_1475 : decode cL_law 1475 = .ok (.iload 6, 2) := by decide +kernel
theorem dL_law_1477 : decode cL_law 1477 = .ok (.if_icmp .eq 5, 3) := by decide +kernel
theorem dL_law_1480 : decode cL_law 1480 = .ok (.iconst 0, 1) := by decide +kernel
theorem dL_law_1481 : decode cL_law 1481 = .ok (.ireturn, 1) := by decide +kernel
theorem dL_law_1482 : decode cL_law 1482 = .ok (.iload 6, 2) := by decide +kernel
theorem dL_law_1484 : decode cL_law 1484 = .ok (.ifCond .ne 15, 3) := by decide +kernel
theorem dL_law_1487 : decode cL_law 1487 = .ok (.aload_n 3, 1) := by decide +kernel
theorem dL_law_1488 : decode cL_law 1488 = .ok (.iconst 0, 1) := by decide +kernel
theorem dL_law_1489 : decode cL_law 1489 = .ok (.laload, 1) := by decide +kernel
theorem dL_law_1490 : decode cL_law 1490 = .ok (.iload 7, 2) := by decide +kernel
theorem dL_law_1492 : decode cL_law 1492 = .ok (.i2l, 1) := by decide +kernel
theorem dL_law_1493 : decode cL_law 1493 = .ok (.lcmp, 1) := by decide +kernel
theorem dL_law_1494 : decode cL_law 1494 = .ok (.ifCond .eq 5, 3) := by decide +kernel
theorem dL_law_1497 : decode cL_law 1497 = .ok (.iconst 0, 1) := by decide +kernel
theorem dL_law_1498 : decode cL_law 1498 = .ok (.ireturn, 1) := by decide +kernel
theorem dL_law_1499 : decode cL_law 1499 = .ok (.goto 757, 3) := by decide +kernel
theorem dL_law_1502 : decode cL_law 1502 = .ok (.aload_n 1, 1) := by decide +kernel
theorem dL_law_1503 : decode cL_law 1503 = .ok (.invokevirtual 219, 3) := by decide +kernel
theorem dL_law_1506 : decode cL_law 1506 = .ok (.aload_n 2, 1) := by decide +kernel
theorem dL_law_1507 : decode cL_law 1507 = .ok (.invokevirtual 222, 3) := by decide +kernel
theorem dL_law_1510 : decode cL_law 1510 = .ok (.if_icmp .eq 746, 3) := by decide +kernel
theorem dL_law_1513 : decode cL_law 1513 = .ok (.iconst 0, 1) := by decide +kernel
theorem dL_law_1514 : decode cL_law 1514 = .ok (.ireturn, 1) := by decide +kernel
theorem dL_law_1515 : decode cL_law 1515 = .ok (.aload_n 1, 1) := by decide +kernel
theorem dL_law_1516 : decode cL_law 1516 = .ok (.invokevirtual 223, 3) := by decide +kernel
theorem dL_law_1519 : decode cL_law 1519 = .ok (.aload_n 2, 1) := by decide +kernel
theorem dL_law_1520 : decode cL_law 1520 = .ok (.invokevirtual 226, 3) := by decide +kernel
theorem dL_law_1523 : decode cL_law 1523 = .ok (.if_icmp .eq 733, 3) := by decide +kernel
theorem dL_law_1526 : decode cL_law 1526 = .ok (.iconst 0, 1) := by decide +kernel
theorem dL_law_1527 : decode cL_law 1527 = .ok (.ireturn, 1) := by decide +kernel
theorem dL_law_1528 : decode cL_law 1528 = .ok (.aload_n 1, 1) := by decide +kernel
theorem dL_law_1529 : decode cL_law 1529 = .ok (.invokevirtual 227, 3) := by decide +kernel
theorem dL_law_1532 : decode cL_law 1532 = .ok (.aload_n 2, 1) := by decide +kernel
theorem dL_law_1533 : decode cL_law 1533 = .ok (.invokevirtual 230, 3) := by decide +kernel
theorem dL_law_1536 : decode cL_law 1536 = .ok (.if_icmp .eq 720, 3) := by decide +kernel
theorem dL_law_1539 : decode cL_law 1539 = .ok (.iconst 0, 1) := by decide +kernel
theorem dL_law_1540 : decode cL_law 1540 = .ok (.ireturn, 1) := by decide +kernel
theorem dL_law_1541 : decode cL_law 1541 = .ok (.aload_n 1, 1) := by decide +kernel
theorem dL_law_1542 : decode cL_law 1542 = .ok (.invokevirtual 231, 3) := by decide +kernel
theorem dL_law_1545 : decode cL_law 1545 = .ok (.aload_n 2, 1) := by decide +kernel
theorem dL_law_1546 : decode cL_law 1546 = .ok (.invokevirtual 234, 3) := by decide +kernel
theorem dL_law_1549 : decode cL_law 1549 = .ok (.if_icmp .eq 707, 3) := by decide +kernel
theorem dL_law_1552 : decode cL_law 1552 = .ok (.iconst 0, 1) := by decide +kernel
theorem dL_law_1553 : decode cL_law 1553 = .ok (.ireturn, 1) := by decide +kernel
theorem dL_law_1554 : decode cL_law 1554 = .ok (.aload_n 1, 1) := by decide +kernel
theorem dL_law_1555 : decode cL_law 1555 = .ok (.invokevirtual 235, 3) := by decide +kernel
theorem dL_law_1558 : decode cL_law 1558 = .ok (.aload_n 2, 1) := by decide +kernel
theorem dL_law_1559 : decode cL_law 1559 = .ok (.invokevirtual 238, 3) := by decide +kernel
theorem dL_law_1562 : decode cL_law 1562 = .ok (.if_icmp .eq 694, 3) := by decide +kernel
theorem dL_law_1565 : decode cL_law 1565 = .ok (.iconst 0, 1) := by decide +kernel
theorem dL_law_1566 : decode cL_law 1566 = .ok (.ireturn, 1) := by decide +kernel
theorem dL_law_1567 : decode cL_law 1567 = .ok (.aload_n 1, 1) := by decide +kernel
theorem dL_law_1568 : decode cL_law 1568 = .ok (.aload_n 3, 1) := by decide +kernel
theorem dL_law_1569 : decode cL_law 1569 = .ok (.invokestatic 239, 3) := by decide +kernel
theorem dL_law_1572 : decode cL_law 1572 = .ok (.istore 6, 2) := by decide +kernel
theorem dL_law_1574 : decode cL_law 1574 = .ok (.aload_n 2, 1) := by decide +kernel
theorem dL_law_1575 : decode cL_law 1575 = .ok (.invokevirtual 241, 3) := by decide +kernel
theorem dL_law_1578 : decode cL_law 1578 = .ok (.istore 7, 2) := by decide +kernel
theorem dL_law_1580 : decode cL_law 1580 = .ok (.aload_n 2, 1) := by decide +kernel
theorem dL_law_1581 : decode cL_law 1581 = .ok (.invokevirtual 138, 3) := by decide +kernel
theorem dL_law_1584 : decode cL_law 1584 = .ok (.iload 6, 2) := by decide +kernel
theorem dL_law_1586 : decode cL_law 1586 = .ok (.if_icmp .eq 5, 3) := by decide +kernel
theorem dL_law_1589 : decode cL_law 1589 = .ok (.iconst 0, 1) := by decide +kernel
theorem dL_law_1590 : decode cL_law 1590 = .ok (.ireturn, 1) := by decide +kernel
theorem dL_law_1591 : decode cL_law 1591 = .ok (.iload 6, 2) := by decide +kernel
theorem dL_law_1593 : decode cL_law 1593 = .ok (.ifCond .ne 15, 3) := by decide +kernel
theorem dL_law_1596 : decode cL_law 1596 = .ok (.aload_n 3, 1) := by decide +kernel
theorem dL_law_1597 : decode cL_law 1597 = .ok (.iconst 0, 1) := by decide +kernel
theorem dL_law_1598 : decode cL_law 1598 = .ok (.laload, 1) := by decide +kernel
theorem dL_law_1599 : decode cL_law 1599 = .ok (.iload 7, 2) := by decide +kernel
theorem dL_law_1601 : decode cL_law 1601 = .ok (.i2l, 1) := by decide +kernel
theorem dL_law_1602 : decode cL_law 1602 = .ok (.lcmp, 1) := by decide +kernel
theorem dL_law_1603 : decode cL_law 1603 = .ok (.ifCond .eq 5, 3) := by decide +kernel
theorem dL_law_1606 : decode cL_law 1606 = .ok (.iconst 0, 1) := by decide +kernel
theorem dL_law_1607 : decode cL_law 1607 = .ok (.ireturn, 1) := by decide +kernel
theorem dL_law_1608 : decode cL_law 1608 = .ok (.goto 648, 3) := by decide +kernel
theorem dL_law_1611 : decode cL_law 1611 = .ok (.aload_n 1, 1) := by decide +kernel
theorem dL_law_1612 : decode cL_law 1612 = .ok (.aload_n 3, 1) := by decide +kernel
theorem dL_law_1613 : decode cL_law 1613 = .ok (.invokestatic 242, 3) := by decide +kernel
theorem dL_law_1616 : decode cL_law 1616 = .ok (.istore 6, 2) := by decide +kernel
theorem dL_law_1618 : decode cL_law 1618 = .ok (.aload_n 2, 1) := by decide +kernel
theorem dL_law_1619 : decode cL_law 1619 = .ok (.invokevirtual 244, 3) := by decide +kernel
theorem dL_law_1622 : decode cL_law 1622 = .ok (.istore 7, 2) := by decide +kernel
theorem dL_law_1624 : decode cL_law 1624 = .ok (.aload_n 2, 1) := by decide +kernel
theorem dL_law_1625 : decode cL_law 1625 = .ok (.invokevirtual 138, 3) := by decide +kernel
theorem dL_law_1628 : decode cL_law 1628 = .ok (.iload 6, 2) := by decide +kernel
theorem dL_law_1630 : decode cL_law 1630 = .ok (.if_icmp .eq 5, 3) := by decide +kernel
theorem dL_law_1633 : decode cL_law 1633 = .ok (.iconst 0, 1) := by decide +kernel
theorem dL_law_1634 : decode cL_law 1634 = .ok (.ireturn, 1) := by decide +kernel
theorem dL_law_1635 : decode cL_law 1635 = .ok (.iload 6, 2) := by decide +kernel
theorem dL_law_1637 : decode cL_law 1637 = .ok (.ifCond .ne 15, 3) := by decide +kernel
theorem dL_law_1640 : decode cL_law 1640 = .ok (.aload_n 3, 1) := by decide +kernel
theorem dL_law_1641 : decode cL_law 1641 = .ok (.iconst 0, 1) := by decide +kernel
theorem dL_law_1642 : decode cL_law 1642 = .ok (.laload, 1) := by decide +kernel
theorem dL_law_1643 : decode cL_law 1643 = .ok (.iload 7, 2) := by decide +kernel
theorem dL_law_1645 : decode cL_law 1645 = .ok (.i2l, 1) := by decide +kernel
theorem dL_law_1646 : decode cL_law 1646 = .ok (.lcmp, 1) := by decide +kernel
theorem dL_law_1647 : decode cL_law 1647 = .ok (.ifCond .eq 5, 3) := by decide +kernel
theorem dL_law_1650 : decode cL_law 1650 = .ok (.iconst 0, 1) := by decide +kernel
theorem dL_law_1651 : decode cL_law 1651 = .ok (.ireturn, 1) := by decide +kernel
theorem dL_law_1652 : decode cL_law 1652 = .ok (.goto 604, 3) := by decide +kernel
theorem dL_law_1655 : decode cL_law 1655 = .ok (.aload_n 1, 1) := by decide +kernel
theorem dL_law_1656 : decode cL_law 1656 = .ok (.invokevirtual 245, 3) := by decide +kernel
theorem dL_law_1659 : decode cL_law 1659 = .ok (.aload_n 2, 1) := by decide +kernel
theorem dL_law_1660 : decode cL_law 1660 = .ok (.invokevirtual 249, 3) := by decide +kernel
theorem dL_law_1663 : decode cL_law 1663 = .ok (.lcmp, 1) := by decide +kernel
theorem dL_law_1664 : decode cL_law 1664 = .ok (.ifCond .eq 592, 3) := by decide +kernel
theorem dL_law_1667 : decode cL_law 1667 = .ok (.iconst 0, 1) := by decide +kernel
theorem dL_law_1668 : decode cL_law 1668 = .ok (.ireturn, 1) := by decide +kernel
theorem dL_law_1669 : decode cL_law 1669 = .ok (.aload_n 1, 1) := by decide +kernel
theorem dL_law_1670 : decode cL_law 1670 = .ok (.invokevirtual 250, 3) := by decide +kernel
theorem dL_law_1673 : decode cL_law 1673 = .ok (.aload_n 2, 1) := by decide +kernel
theorem dL_law_1674 : decode cL_law 1674 = .ok (.invokevirtual 253, 3) := by decide +kernel
theorem dL_law_1677 : decode cL_law 1677 = .ok (.lcmp, 1) := by decide +kernel
theorem dL_law_1678 : decode cL_law 1678 = .ok (.ifCond .eq 578, 3) := by decide +kernel
theorem dL_law_1681 : decode cL_law 1681 = .ok (.iconst 0, 1) := by decide +kernel
theorem dL_law_1682 : decode cL_law 1682 = .ok (.ireturn, 1) := by decide +kernel
theorem dL_law_1683 : decode cL_law 1683 = .ok (.aload_n 1, 1) := by decide +kernel
theorem dL_law_1684 : decode cL_law 1684 = .ok (.invokevirtual 254, 3) := by decide +kernel
theorem dL_law_1687 : decode cL_law 1687 = .ok (.aload_n 2, 1) := by decide +kernel
theorem dL_law_1688 : decode cL_law 1688 = .ok (.invokevirtual 257, 3) := by decide +kernel
theorem dL_law_1691 : decode cL_law 1691 = .ok (.if_icmp .eq 565, 3) := by decide +kernel
theorem dL_law_1694 : decode cL_law 1694 = .ok (.iconst 0, 1) := by decide +kernel
theorem dL_law_1695 : decode cL_law 1695 = .ok (.ireturn, 1) := by decide +kernel
theorem dL_law_1696 : decode cL_law 1696 = .ok (.aload_n 1, 1) := by decide +kernel
theorem dL_law_1697 : decode cL_law 1697 = .ok (.aload 4, 2) := by decide +kernel
theorem dL_law_1699 : decode cL_law 1699 = .ok (.invokestatic 258, 3) := by decide +kernel
theorem dL_law_1702 : decode cL_law 1702 = .ok (.istore 6, 2) := by decide +kernel
theorem dL_law_1704 : decode cL_law 1704 = .ok (.aload_n 2, 1) := by decide +kernel
theorem dL_law_1705 : decode cL_law 1705 = .ok (.invokevirtual 261, 3) := by decide +kernel
theorem dL_law_1708 : decode cL_law 1708 = .ok (.dstore 7, 2) := by decide +kernel
theorem dL_law_1710 : decode cL_law 1710 = .ok (.aload_n 2, 1) := by decide +kernel
theorem dL_law_1711 : decode cL_law 1711 = .ok (.invokevirtual 138, 3) := by decide +kernel
theorem dL_law_1714 : decode cL_law 1714 = .ok (.iload 6, 2) := by decide +kernel
theorem dL_law_1716 : decode cL_law 1716 = .ok (.if_icmp .eq 5, 3) := by decide +kernel
theorem dL_law_1719 : decode cL_law 1719 = .ok (.iconst 0, 1) := by decide +kernel
theorem dL_law_1720 : decode cL_law 1720 = .ok (.ireturn, 1) := by decide +kernel
theorem dL_law_1721 : decode cL_law 1721 = .ok (.iload 6, 2) := by decide +kernel
theorem dL_law_1723 : decode cL_law 1723 = .ok (.ifCond .ne 35, 3) := by decide +kernel
theorem dL_law_1726 : decode cL_law 1726 = .ok (.aload 4, 2) := by decide +kernel
theorem dL_law_1728 : decode cL_law 1728 = .ok (.iconst 0, 1) := by decide +kernel
theorem dL_law_1729 : decode cL_law 1729 = .ok (.daload, 1) := by decide +kernel
theorem dL_law_1730 : decode cL_law 1730 = .ok (.dload 7, 2) := by decide +kernel
theorem dL_law_1732 : decode cL_law 1732 = .ok (.dcmp .l, 1) := by decide +kernel
theorem dL_law_1733 : decode cL_law 1733 = .ok (.ifCond .eq 25, 3) := by decide +kernel
theorem dL_law_1736 : decode cL_law 1736 = .ok (.aload 4, 2) := by decide +kernel
theorem dL_law_1738 : decode cL_law 1738 = .ok (.iconst 0, 1) := by decide +kernel
theorem dL_law_1739 : decode cL_law 1739 = .ok (.daload, 1) := by decide +kernel
theorem dL_law_1740 : decode cL_law 1740 = .ok (.aload 4, 2) := by decide +kernel
theorem dL_law_1742 : decode cL_law 1742 = .ok (.iconst 0, 1) := by decide +kernel
theorem dL_law_1743 : decode cL_law 1743 = .ok (.daload, 1) := by decide +kernel
theorem dL_law_1744 : decode cL_law 1744 = .ok (.dcmp .l, 1) := by decide +kernel
theorem dL_law_1745 : decode cL_law 1745 = .ok (.ifCond .eq 11, 3) := by decide +kernel
theorem dL_law_1748 : decode cL_law 1748 = .ok (.dload 7, 2) := by decide +kernel
theorem dL_law_1750 : decode cL_law 1750 = .ok (.dload 7, 2) := by decide +kernel
theorem dL_law_1752 : decode cL_law 1752 = .ok (.dcmp .l, 1) := by decide +kernel
theorem dL_law_1753 : decode cL_law 1753 = .ok (.ifCond .ne 5, 3) := by decide +kernel
theorem dL_law_1756 : decode cL_law 1756 = .ok (.iconst 0, 1) := by decide +kernel
theorem dL_law_1757 : decode cL_law 1757 = .ok (.ireturn, 1) := by decide +kernel
theorem dL_law_1758 : decode cL_law 1758 = .ok (.goto 498, 3) := by decide +kernel
theorem dL_law_1761 : decode cL_law 1761 = .ok (.aload_n 1, 1) := by decide +kernel
theorem dL_law_1762 : decode cL_law 1762 = .ok (.aload 4, 2) := by decide +kernel
theorem dL_law_1764 : decode cL_law 1764 = .ok (.invokestatic 262, 3) := by decide +kernel
theorem dL_law_1767 : decode cL_law 1767 = .ok (.istore 6, 2) := by decide +kernel
theorem dL_law_1769 : decode cL_law 1769 = .ok (.aload_n 2, 1) := by decide +kernel
theorem dL_law_1770 : decode cL_law 1770 = .ok (.invokevirtual 264, 3) := by decide +kernel
theorem dL_law_1773 : decode cL_law 1773 = .ok (.fstore 7, 2) := by decide +kernel
theorem dL_law_1775 : decode cL_law 1775 = .ok (.aload_n 2, 1) := by decide +kernel
theorem dL_law_1776 : decode cL_law 1776 = .ok (.invokevirtual 138, 3) := by decide +kernel
theorem dL_law_1779 : decode cL_law 1779 = .ok (.iload 6, 2) := by decide +kernel
theorem dL_law_1781 : decode cL_law 1781 = .ok (.if_icmp .eq 5, 3) := by decide +kernel
theorem dL_law_1784 : decode cL_law 1784 = .ok (.iconst 0, 1) := by decide +kernel
theorem dL_law_1785 : decode cL_law 1785 = .ok (.ireturn, 1) := by decide +kernel
theorem dL_law_1786 : decode cL_law 1786 = .ok (.iload 6, 2) := by decide +kernel
theorem dL_law_1788 : decode cL_law 1788 = .ok (.ifCond .ne 36, 3) := by decide +kernel
theorem dL_law_1791 : decode cL_law 1791 = .ok (.aload 4, 2) := by decide +kernel
theorem dL_law_1793 : decode cL_law 1793 = .ok (.iconst 0, 1) := by decide +kernel
theorem dL_law_1794 : decode cL_law 1794 = .ok (.daload, 1) := by decide +kernel
theorem dL_law_1795 : decode cL_law 1795 = .ok (.fload 7, 2) := by decide +kernel
theorem dL_law_1797 : decode cL_law 1797 = .ok (.f2d, 1) := by decide +kernel
theorem dL_law_1798 : decode cL_law 1798 = .ok (.dcmp .l, 1) := by decide +kernel
theorem dL_law_1799 : decode cL_law 1799 = .ok (.ifCond .eq 25, 3) := by decide +kernel
theorem dL_law_1802 : decode cL_law 1802 = .ok (.aload 4, 2) := by decide +kernel
theorem dL_law_1804 : decode cL_law 1804 = .ok (.iconst 0, 1) := by decide +kernel
theorem dL_law_1805 : decode cL_law 1805 = .ok (.daload, 1) := by decide +kernel
theorem dL_law_1806 : decode cL_law 1806 = .ok (.aload 4, 2) := by decide +kernel
theorem dL_law_1808 : decode cL_law 1808 = .ok (.iconst 0, 1) := by decide +kernel
theorem dL_law_1809 : decode cL_law 1809 = .ok (.daload, 1) := by decide +kernel
theorem dL_law_1810 : decode cL_law 1810 = .ok (.dcmp .l, 1) := by decide +kernel
theorem dL_law_1811 : decode cL_law 1811 = .ok (.ifCond .eq 11, 3) := by decide +kernel
theorem dL_law_1814 : decode cL_law 1814 = .ok (.fload 7, 2) := by decide +kernel
theorem dL_law_1816 : decode cL_law 1816 = .ok (.fload 7, 2) := by decide +kernel
theorem dL_law_1818 : decode cL_law 1818 = .ok (.fcmp .l, 1) := by decide +kernel
theorem dL_law_1819 : decode cL_law 1819 = .ok (.ifCond .ne 5, 3) := by decide +kernel
theorem dL_law_1822 : decode cL_law 1822 = .ok (.iconst 0, 1) := by decide +kernel
theorem dL_law_1823 : decode cL_law 1823 = .ok (.ireturn, 1) := by decide +kernel
theorem dL_law_1824 : decode cL_law 1824 = .ok (.goto 432, 3) := by decide +kernel
theorem dL_law_1827 : decode cL_law 1827 = .ok (.aload_n 1, 1) := by decide +kernel
theorem dL_law_1828 : decode cL_law 1828 = .ok (.invokevirtual 265, 3) := by decide +kernel
theorem dL_law_1831 : decode cL_law 1831 = .ok (.aload_n 2, 1) := by decide +kernel
theorem dL_law_1832 : decode cL_law 1832 = .ok (.invokevirtual 269, 3) := by decide +kernel
theorem dL_law_1835 : decode cL_law 1835 = .ok (.if_icmp .eq 421, 3) := by decide +kernel
theorem dL_law_1838 : decode cL_law 1838 = .ok (.iconst 0, 1) := by decide +kernel
theorem dL_law_1839 : decode cL_law 1839 = .ok (.ireturn, 1) := by decide +kernel
theorem dL_law_1840 : decode cL_law 1840 = .ok (.aload_n 1, 1) := by decide +kernel
theorem dL_law_1841 : decode cL_law 1841 = .ok (.aload_n 0, 1) := by decide +kernel
theorem dL_law_1842 : decode cL_law 1842 = .ok (.iload 5, 2) := by decide +kernel
theorem dL_law_1844 : decode cL_law 1844 = .ok (.iconst 1, 1) := by decide +kernel
theorem dL_law_1845 : decode cL_law 1845 = .ok (.iadd, 1) := by decide +kernel
theorem dL_law_1846 : decode cL_law 1846 = .ok (.iaload, 1) := by decide +kernel
theorem dL_law_1847 : decode cL_law 1847 = .ok (.aload_n 3, 1) := by decide +kernel
theorem dL_law_1848 : decode cL_law 1848 = .ok (.invokestatic 270, 3) := by decide +kernel
theorem dL_law_1851 : decode cL_law 1851 = .ok (.istore 6, 2) := by decide +kernel
theorem dL_law_1853 : decode cL_law 1853 = .ok (.aload_n 2, 1) := by decide +kernel
theorem dL_law_1854 : decode cL_law 1854 = .ok (.aload_n 0, 1) := by decide +kernel
theorem dL_law_1855 : decode cL_law 1855 = .ok (.iload 5, 2) := by decide +kernel
theorem dL_law_1857 : decode cL_law 1857 = .ok (.iconst 1, 1) := by decide +kernel
theorem dL_law_1858 : decode cL_law 1858 = .ok (.iadd, 1) := by decide +kernel
theorem dL_law_1859 : decode cL_law 1859 = .ok (.iaload, 1) := by decide +kernel
theorem dL_law_1860 : decode cL_law 1860 = .ok (.invokevirtual 272, 3) := by decide +kernel
theorem dL_law_1863 : decode cL_law 1863 = .ok (.istore 7, 2) := by decide +kernel
theorem dL_law_1865 : decode cL_law 1865 = .ok (.aload_n 2, 1) := by decide +kernel
theorem dL_law_1866 : decode cL_law 1866 = .ok (.invokevirtual 138, 3) := by decide +kernel
theorem dL_law_1869 : decode cL_law 1869 = .ok (.iload 6, 2) := by decide +kernel
theorem dL_law_1871 : decode cL_law 1871 = .ok (.if_icmp .eq 5, 3) := by decide +kernel
theorem dL_law_1874 : decode cL_law 1874 = .ok (.iconst 0, 1) := by decide +kernel
theorem dL_law_1875 : decode cL_law 1875 = .ok (.ireturn, 1) := by decide +kernel
theorem dL_law_1876 : decode cL_law 1876 = .ok (.iload 6, 2) := by decide +kernel
theorem dL_law_1878 : decode cL_law 1878 = .ok (.ifCond .ne 15, 3) := by decide +kernel
theorem dL_law_1881 : decode cL_law 1881 = .ok (.aload_n 3, 1) := by decide +kernel
theorem dL_law_1882 : decode cL_law 1882 = .ok (.iconst 0, 1) := by decide +kernel
theorem dL_law_1883 : decode cL_law 1883 = .ok (.laload, 1) := by decide +kernel
theorem dL_law_1884 : decode cL_law 1884 = .ok (.iload 7, 2) := by decide +kernel
theorem dL_law_1886 : decode cL_law 1886 = .ok (.i2l, 1) := by decide +kernel
theorem dL_law_1887 : decode cL_law 1887 = .ok (.lcmp, 1) := by decide +kernel
theorem dL_law_1888 : decode cL_law 1888 = .ok (.ifCond .eq 5, 3) := by decide +kernel
theorem dL_law_1891 : decode cL_law 1891 = .ok (.iconst 0, 1) := by decide +kernel
theorem dL_law_1892 : decode cL_law 1892 = .ok (.ireturn, 1) := by decide +kernel
theorem dL_law_1893 : decode cL_law 1893 = .ok (.goto 363, 3) := by decide +kernel
theorem dL_law_1896 : decode cL_law 1896 = .ok (.aload_n 1, 1) := by decide +kernel
theorem dL_law_1897 : decode cL_law 1897 = .ok (.invokevirtual 273, 3) := by decide +kernel
theorem dL_law_1900 : decode cL_law 1900 = .ok (.aload_n 2, 1) := by decide +kernel
theorem dL_law_1901 : decode cL_law 1901 = .ok (.invokevirtual 276, 3) := by decide +kernel
theorem dL_law_1904 : decode cL_law 1904 = .ok (.if_icmp .eq 352, 3) := by decide +kernel
theorem dL_law_1907 : decode cL_law 1907 = .ok (.iconst 0, 1) := by decide +kernel
theorem dL_law_1908 : decode cL_law 1908 = .ok (.ireturn, 1) := by decide +kernel
theorem dL_law_1909 : decode cL_law 1909 = .ok (.aload_n 1, 1) := by decide +kernel
theorem dL_law_1910 : decode cL_law 1910 = .ok (.aload_n 0, 1) := by decide +kernel
theorem dL_law_1911 : decode cL_law 1911 = .ok (.iload 5, 2) := by decide +kernel
theorem dL_law_1913 : decode cL_law 1913 = .ok (.iconst 1, 1) := by decide +kernel
theorem dL_law_1914 : decode cL_law 1914 = .ok (.iadd, 1) := by decide +kernel
theorem dL_law_1915 : decode cL_law 1915 = .ok (.iaload, 1) := by decide +kernel
theorem dL_law_1916 : decode cL_law 1916 = .ok (.aload_n 3, 1) := by decide +kernel
theorem dL_law_1917 : decode cL_law 1917 = .ok (.invokestatic 277, 3) := by decide +kernel
theorem dL_law_1920 : decode cL_law 1920 = .ok (.istore 6, 2) := by decide +kernel
theorem dL_law_1922 : decode cL_law 1922 = .ok (.aload_n 2, 1) := by decide +kernel
theorem dL_law_1923 : decode cL_law 1923 = .ok (.aload_n 0, 1) := by decide +kernel
theorem dL_law_1924 : decode cL_law 1924 = .ok (.iload 5, 2) := by decide +kernel
theorem dL_law_1926 : decode cL_law 1926 = .ok (.iconst 1, 1) := by decide +kernel
theorem dL_law_1927 : decode cL_law 1927 = .ok (.iadd, 1) := by decide +kernel
theorem dL_law_1928 : decode cL_law 1928 = .ok (.iaload, 1) := by decide +kernel
theorem dL_law_1929 : decode cL_law 1929 = .ok (.invokevirtual 279, 3) := by decide +kernel
theorem dL_law_1932 : decode cL_law 1932 = .ok (.istore 7, 2) := by decide +kernel
theorem dL_law_1934 : decode cL_law 1934 = .ok (.aload_n 2, 1) := by decide +kernel
theorem dL_law_1935 : decode cL_law 1935 = .ok (.invokevirtual 138, 3) := by decide +kernel
theorem dL_law_1938 : decode cL_law 1938 = .ok (.iload 6, 2) := by decide +kernel
theorem dL_law_1940 : decode cL_law 1940 = .ok (.if_icmp .eq 5, 3) := by decide +kernel
theorem dL_law_1943 : decode cL_law 1943 = .ok (.iconst 0, 1) := by decide +kernel
theorem dL_law_1944 : decode cL_law 1944 = .ok (.ireturn, 1) := by decide +kernel
theorem dL_law_1945 : decode cL_law 1945 = .ok (.iload 6, 2) := by decide +kernel
theorem dL_law_1947 : decode cL_law 1947 = .ok (.ifCond .ne 15, 3) := by decide +kernel
theorem dL_law_1950 : decode cL_law 1950 = .ok (.aload_n 3, 1) := by decide +kernel
theorem dL_law_1951 : decode cL_law 1951 = .ok (.iconst 0, 1) := by decide +kernel
theorem dL_law_1952 : decode cL_law 1952 = .ok (.laload, 1) := by decide +kernel
theorem dL_law_1953 : decode cL_law 1953 = .ok (.iload 7, 2) := by decide +kernel
theorem dL_law_1955 : decode cL_law 1955 = .ok (.i2l, 1) := by decide +kernel
theorem dL_law_1956 : decode cL_law 1956 = .ok (.lcmp, 1) := by decide +kernel
theorem dL_law_1957 : decode cL_law 1957 = .ok (.ifCond .eq 5, 3) := by decide +kernel
theorem dL_law_1960 : decode cL_law 1960 = .ok (.iconst 0, 1) := by decide +kernel
theorem dL_law_1961 : decode cL_law 1961 = .ok (.ireturn, 1) := by decide +kernel
theorem dL_law_1962 : decode cL_law 1962 = .ok (.goto 294, 3) := by decide +kernel
theorem dL_law_1965 : decode cL_law 1965 = .ok (.aload_n 1, 1) := by decide +kernel
theorem dL_law_1966 : decode cL_law 1966 = .ok (.aload_n 0, 1) := by decide +kernel
theorem dL_law_1967 : decode cL_law 1967 = .ok (.iload 5, 2) := by decide +kernel
theorem dL_law_1969 : decode cL_law 1969 = .ok (.iconst 1, 1) := by decide +kernel
theorem dL_law_1970 : decode cL_law 1970 = .ok (.iadd, 1) := by decide +kernel
theorem dL_law_1971 : decode cL_law 1971 = .ok (.iaload, 1) := by decide +kernel
theorem dL_law_1972 : decode cL_law 1972 = .ok (.i2c, 1) := by decide +kernel
theorem dL_law_1973 : decode cL_law 1973 = .ok (.aload_n 3, 1) := by decide +kernel
theorem dL_law_1974 : decode cL_law 1974 = .ok (.invokestatic 280, 3) := by decide +kernel
theorem dL_law_1977 : decode cL_law 1977 = .ok (.istore 6, 2) := by decide +kernel
theorem dL_law_1979 : decode cL_law 1979 = .ok (.aload_n 2, 1) := by decide +kernel
theorem dL_law_1980 : decode cL_law 1980 = .ok (.aload_n 0, 1) := by decide +kernel
theorem dL_law_1981 : decode cL_law 1981 = .ok (.iload 5, 2) := by decide +kernel
theorem dL_law_1983 : decode cL_law 1983 = .ok (.iconst 1, 1) := by decide +kernel
theorem dL_law_1984 : decode cL_law 1984 = .ok (.iadd, 1) := by decide +kernel
theorem dL_law_1985 : decode cL_law 1985 = .ok (.iaload, 1) := by decide +kernel
theorem dL_law_1986 : decode cL_law 1986 = .ok (.i2c, 1) := by decide +kernel
theorem dL_law_1987 : decode cL_law 1987 = .ok (.invokevirtual 282, 3) := by decide +kernel
theorem dL_law_1990 : decode cL_law 1990 = .ok (.istore 7, 2) := by decide +kernel
theorem dL_law_1992 : decode cL_law 1992 = .ok (.aload_n 2, 1) := by decide +kernel
theorem dL_law_1993 : decode cL_law 1993 = .ok (.invokevirtual 138, 3) := by decide +kernel
theorem dL_law_1996 : decode cL_law 1996 = .ok (.iload 6, 2) := by decide +kernel
theorem dL_law_1998 : decode cL_law 1998 = .ok (.if_icmp .eq 5, 3) := by decide +kernel
theorem dL_law_2001 : decode cL_law 2001 = .ok (.iconst 0, 1) := by decide +kernel
theorem dL_law_2002 : decode cL_law 2002 = .ok (.ireturn, 1) := by decide +kernel
theorem dL_law_2003 : decode cL_law 2003 = .ok (.iload 6, 2) := by decide +kernel
theorem dL_law_2005 : decode cL_law 2005 = .ok (.ifCond .ne 15, 3) := by decide +kernel
theorem dL_law_2008 : decode cL_law 2008 = .ok (.aload_n 3, 1) := by decide +kernel
theorem dL_law_2009 : decode cL_law 2009 = .ok (.iconst 0, 1) := by decide +kernel
theorem dL_law_2010 : decode cL_law 2010 = .ok (.laload, 1) := by decide +kernel
theorem dL_law_2011 : decode cL_law 2011 = .ok (.iload 7, 2) := by decide +kernel
theorem dL_law_2013 : decode cL_law 2013 = .ok (.i2l, 1) := by decide +kernel
theorem dL_law_2014 : decode cL_law 2014 = .ok (.lcmp, 1) := by decide +kernel
theorem dL_law_2015 : decode cL_law 2015 = .ok (.ifCond .eq 5, 3) := by decide +kernel
theorem dL_law_2018 : decode cL_law 2018 = .ok (.iconst 0, 1) := by decide +kernel
theorem dL_law_2019 : decode cL_law 2019 = .ok (.ireturn, 1) := by decide +kernel
theorem dL_law_2020 : decode cL_law 2020 = .ok (.goto 236, 3) := by decide +kernel
theorem dL_law_2023 : decode cL_law 2023 = .ok (.aload_n 1, 1) := by decide +kernel
theorem dL_law_2024 : decode cL_law 2024 = .ok (.aload_n 3, 1) := by decide +kernel
theorem dL_law_2025 : decode cL_law 2025 = .ok (.invokestatic 283, 3) := by decide +kernel
theorem dL_law_2028 : decode cL_law 2028 = .ok (.istore 6, 2) := by decide +kernel
theorem dL_law_2030 : decode cL_law 2030 = .ok (.aload_n 2, 1) := by decide +kernel
theorem dL_law_2031 : decode cL_law 2031 = .ok (.invokevirtual 285, 3) := by decide +kernel
theorem dL_law_2034 : decode cL_law 2034 = .ok (.istore 7, 2) := by decide +kernel
theorem dL_law_2036 : decode cL_law 2036 = .ok (.aload_n 2, 1) := by decide +kernel
theorem dL_law_2037 : decode cL_law 2037 = .ok (.invokevirtual 138, 3) := by decide +kernel
theorem dL_law_2040 : decode cL_law 2040 = .ok (.iload 6, 2) := by decide +kernel
theorem dL_law_2042 : decode cL_law 2042 = .ok (.if_icmp .eq 5, 3) := by decide +kernel
theorem dL_law_2045 : decode cL_law 2045 = .ok (.iconst 0, 1) := by decide +kernel
theorem dL_law_2046 : decode cL_law 2046 = .ok (.ireturn, 1) := by decide +kernel
theorem dL_law_2047 : decode cL_law 2047 = .ok (.iload 6, 2) := by decide +kernel
theorem dL_law_2049 : decode cL_law 2049 = .ok (.ifCond .ne 15, 3) := by decide +kernel
theorem dL_law_2052 : decode cL_law 2052 = .ok (.aload_n 3, 1) := by decide +kernel
theorem dL_law_2053 : decode cL_law 2053 = .ok (.iconst 0, 1) := by decide +kernel
theorem dL_law_2054 : decode cL_law 2054 = .ok (.laload, 1) := by decide +kernel
theorem dL_law_2055 : decode cL_law 2055 = .ok (.iload 7, 2) := by decide +kernel
theorem dL_law_2057 : decode cL_law 2057 = .ok (.i2l, 1) := by decide +kernel
theorem dL_law_2058 : decode cL_law 2058 = .ok (.lcmp, 1) := by decide +kernel
theorem dL_law_2059 : decode cL_law 2059 = .ok (.ifCond .eq 5, 3) := by decide +kernel
theorem dL_law_2062 : decode cL_law 2062 = .ok (.iconst 0, 1) := by decide +kernel
theorem dL_law_2063 : decode cL_law 2063 = .ok (.ireturn, 1) := by decide +kernel
theorem dL_law_2064 : decode cL_law 2064 = .ok (.goto 192, 3) := by decide +kernel
theorem dL_law_2067 : decode cL_law 2067 = .ok (.aload_n 1, 1) := by decide +kernel
theorem dL_law_2068 : decode cL_law 2068 = .ok (.aload_n 3, 1) := by decide +kernel
theorem dL_law_2069 : decode cL_law 2069 = .ok (.invokestatic 286, 3) := by decide +kernel
theorem dL_law_2072 : decode cL_law 2072 = .ok (.istore 6, 2) := by decide +kernel
theorem dL_law_2074 : decode cL_law 2074 = .ok (.aload_n 2, 1) := by decide +kernel
theorem dL_law_2075 : decode cL_law 2075 = .ok (.invokevirtual 288, 3) := by decide +kernel
theorem dL_law_2078 : decode cL_law 2078 = .ok (.istore 7, 2) := by decide +kernel
theorem dL_law_2080 : decode cL_law 2080 = .ok (.aload_n 2, 1) := by decide +kernel
theorem dL_law_2081 : decode cL_law 2081 = .ok (.invokevirtual 138, 3) := by decide +kernel
theorem dL_law_2084 : decode cL_law 2084 = .ok (.iload 6, 2) := by decide +kernel
theorem dL_law_2086 : decode cL_law 2086 = .ok (.if_icmp .eq 5, 3) := by decide +kernel
theorem dL_law_2089 : decode cL_law 2089 = .ok (.iconst 0, 1) := by decide +kernel
theorem dL_law_2090 : decode cL_law 2090 = .ok (.ireturn, 1) := by decide +kernel
theorem dL_law_2091 : decode cL_law 2091 = .ok (.iload 6, 2) := by decide +kernel
theorem dL_law_2093 : decode cL_law 2093 = .ok (.ifCond .ne 15, 3) := by decide +kernel
theorem dL_law_2096 : decode cL_law 2096 = .ok (.aload_n 3, 1) := by decide +kernel
theorem dL_law_2097 : decode cL_law 2097 = .ok (.iconst 0, 1) := by decide +kernel
theorem dL_law_2098 : decode cL_law 2098 = .ok (.laload, 1) := by decide +kernel
theorem dL_law_2099 : decode cL_law 2099 = .ok (.iload 7, 2) := by decide +kernel
theorem dL_law_2101 : decode cL_law 2101 = .ok (.i2l, 1) := by decide +kernel
theorem dL_law_2102 : decode cL_law 2102 = .ok (.lcmp, 1) := by decide +kernel
theorem dL_law_2103 : decode cL_law 2103 = .ok (.ifCond .eq 5, 3) := by decide +kernel
theorem dL_law_2106 : decode cL_law 2106 = .ok (.iconst 0, 1) := by decide +kernel
theorem dL_law_2107 : decode cL_law 2107 = .ok (.ireturn, 1) := by decide +kernel
theorem dL_law_2108 : decode cL_law 2108 = .ok (.goto 148, 3) := by decide +kernel
theorem dL_law_2111 : decode cL_law 2111 = .ok (.aload_n 1, 1) := by decide +kernel
theorem dL_law_2112 : decode cL_law 2112 = .ok (.aload_n 3, 1) := by decide +kernel
theorem dL_law_2113 : decode cL_law 2113 = .ok (.invokestatic 289, 3) := by decide +kernel
theorem dL_law_2116 : decode cL_law 2116 = .ok (.istore 6, 2) := by decide +kernel
theorem dL_law_2118 : decode cL_law 2118 = .ok (.aload_n 2, 1) := by decide +kernel
theorem dL_law_2119 : decode cL_law 2119 = .ok (.invokevirtual 291, 3) := by decide +kernel
theorem dL_law_2122 : decode cL_law 2122 = .ok (.istore 7, 2) := by decide +kernel
theorem dL_law_2124 : decode cL_law 2124 = .ok (.aload_n 2, 1) := by decide +kernel
theorem dL_law_2125 : decode cL_law 2125 = .ok (.invokevirtual 138, 3) := by decide +kernel
theorem dL_law_2128 : decode cL_law 2128 = .ok (.iload 6, 2) := by decide +kernel
theorem dL_law_2130 : decode cL_law 2130 = .ok (.if_icmp .eq 5, 3) := by decide +kernel
theorem dL_law_2133 : decode cL_law 2133 = .ok (.iconst 0, 1) := by decide +kernel
theorem dL_law_2134 : decode cL_law 2134 = .ok (.ireturn, 1) := by decide +kernel
theorem dL_law_2135 : decode cL_law 2135 = .ok (.iload 6, 2) := by decide +kernel
theorem dL_law_2137 : decode cL_law 2137 = .ok (.ifCond .ne 15, 3) := by decide +kernel
theorem dL_law_2140 : decode cL_law 2140 = .ok (.aload_n 3, 1) := by decide +kernel
theorem dL_law_2141 : decode cL_law 2141 = .ok (.iconst 0, 1) := by decide +kernel
theorem dL_law_2142 : decode cL_law 2142 = .ok (.laload, 1) := by decide +kernel
theorem dL_law_2143 : decode cL_law 2143 = .ok (.iload 7, 2) := by decide +kernel
theorem dL_law_2145 : decode cL_law 2145 = .ok (.i2l, 1) := by decide +kernel
theorem dL_law_2146 : decode cL_law 2146 = .ok (.lcmp, 1) := by decide +kernel
theorem dL_law_2147 : decode cL_law 2147 = .ok (.ifCond .eq 5, 3) := by decide +kernel
theorem dL_law_2150 : decode cL_law 2150 = .ok (.iconst 0, 1) := by decide +kernel
theorem dL_law_2151 : decode cL_law 2151 = .ok (.ireturn, 1) := by decide +kernel
theorem dL_law_2152 : decode cL_law 2152 = .ok (.goto 104, 3) := by decide +kernel
theorem dL_law_2155 : decode cL_law 2155 = .ok (.aload_n 1, 1) := by decide +kernel
theorem dL_law_2156 : decode cL_law 2156 = .ok (.aload_n 3, 1) := by decide +kernel
theorem dL_law_2157 : decode cL_law 2157 = .ok (.invokestatic 292, 3) := by decide +kernel
theorem dL_law_2160 : decode cL_law 2160 = .ok (.istore 6, 2) := by decide +kernel
theorem dL_law_2162 : decode cL_law 2162 = .ok (.aload_n 2, 1) := by decide +kernel
theorem dL_law_2163 : decode cL_law 2163 = .ok (.invokevirtual 294, 3) := by decide +kernel
theorem dL_law_2166 : decode cL_law 2166 = .ok (.istore 7, 2) := by decide +kernel
theorem dL_law_2168 : decode cL_law 2168 = .ok (.aload_n 2, 1) := by decide +kernel
theorem dL_law_2169 : decode cL_law 2169 = .ok (.invokevirtual 138, 3) := by decide +kernel
theorem dL_law_2172 : decode cL_law 2172 = .ok (.iload 6, 2) := by decide +kernel
theorem dL_law_2174 : decode cL_law 2174 = .ok (.if_icmp .eq 5, 3) := by decide +kernel
theorem dL_law_2177 : decode cL_law 2177 = .ok (.iconst 0, 1) := by decide +kernel
theorem dL_law_2178 : decode cL_law 2178 = .ok (.ireturn, 1) := by decide +kernel
theorem dL_law_2179 : decode cL_law 2179 = .ok (.iload 6, 2) := by decide +kernel
theorem dL_law_2181 : decode cL_law 2181 = .ok (.ifCond .ne 15, 3) := by decide +kernel
theorem dL_law_2184 : decode cL_law 2184 = .ok (.aload_n 3, 1) := by decide +kernel
theorem dL_law_2185 : decode cL_law 2185 = .ok (.iconst 0, 1) := by decide +kernel
theorem dL_law_2186 : decode cL_law 2186 = .ok (.laload, 1) := by decide +kernel
theorem dL_law_2187 : decode cL_law 2187 = .ok (.iload 7, 2) := by decide +kernel
theorem dL_law_2189 : decode cL_law 2189 = .ok (.i2l, 1) := by decide +kernel
theorem dL_law_2190 : decode cL_law 2190 = .ok (.lcmp, 1) := by decide +kernel
theorem dL_law_2191 : decode cL_law 2191 = .ok (.ifCond .eq 5, 3) := by decide +kernel
theorem dL_law_2194 : decode cL_law 2194 = .ok (.iconst 0, 1) := by decide +kernel
theorem dL_law_2195 : decode cL_law 2195 = .ok (.ireturn, 1) := by decide +kernel
theorem dL_law_2196 : decode cL_law 2196 = .ok (.goto 60, 3) := by decide +kernel
theorem dL_law_2199 : decode cL_law 2199 = .ok (.aload_n 1, 1) := by decide +kernel
theorem dL_law_2200 : decode cL_law 2200 = .ok (.invokevirtual 295, 3) := by decide +kernel
theorem dL_law_2203 : decode cL_law 2203 = .ok (.aload_n 2, 1) := by decide +kernel
theorem dL_law_2204 : decode cL_law 2204 = .ok (.invokevirtual 298, 3) := by decide +kernel
theorem dL_law_2207 : decode cL_law 2207 = .ok (.if_icmp .eq 49, 3) := by decide +kernel
theorem dL_law_2210 : decode cL_law 2210 = .ok (.iconst 0, 1) := by decide +kernel
theorem dL_law_2211 : decode cL_law 2211 = .ok (.ireturn, 1) := by decide +kernel
theorem dL_law_2212 : decode cL_law 2212 = .ok (.aload_n 1, 1) := by decide +kernel
theorem dL_law_2213 : decode cL_law 2213 = .ok (.aload_n 3, 1) := by decide +kernel
theorem dL_law_2214 : decode cL_law 2214 = .ok (.invokestatic 299, 3) := by decide +kernel
theorem dL_law_2217 : decode cL_law 2217 = .ok (.istore 6, 2) := by decide +kernel
theorem dL_law_2219 : decode cL_law 2219 = .ok (.aload_n 2, 1) := by decide +kernel
theorem dL_law_2220 : decode cL_law 2220 = .ok (.invokevirtual 301, 3) := by decide +kernel
theorem dL_law_2223 : decode cL_law 2223 = .ok (.istore 7, 2) := by decide +kernel
theorem dL_law_2225 : decode cL_law 2225 = .ok (.aload_n 2, 1) := by decide +kernel
theorem dL_law_2226 : decode cL_law 2226 = .ok (.invokevirtual 138, 3) := by decide +kernel
theorem dL_law_2229 : decode cL_law 2229 = .ok (.iload 6, 2) := by decide +kernel
theorem dL_law_2231 : decode cL_law 2231 = .ok (.if_icmp .eq 5, 3) := by decide +kernel
theorem dL_law_2234 : decode cL_law 2234 = .ok (.iconst 0, 1) := by decide +kernel
theorem dL_law_2235 : decode cL_law 2235 = .ok (.ireturn, 1) := by decide +kernel
theorem dL_law_2236 : decode cL_law 2236 = .ok (.iload 6, 2) := by decide +kernel
theorem dL_law_2238 : decode cL_law 2238 = .ok (.ifCond .ne 15, 3) := by decide +kernel
theorem dL_law_2241 : decode cL_law 2241 = .ok (.aload_n 3, 1) := by decide +kernel
theorem dL_law_2242 : decode cL_law 2242 = .ok (.iconst 0, 1) := by decide +kernel
theorem dL_law_2243 : decode cL_law 2243 = .ok (.laload, 1) := by decide +kernel
theorem dL_law_2244 : decode cL_law 2244 = .ok (.iload 7, 2) := by decide +kernel
theorem dL_law_2246 : decode cL_law 2246 = .ok (.i2l, 1) := by decide +kernel
theorem dL_law_2247 : decode cL_law 2247 = .ok (.lcmp, 1) := by decide +kernel
theorem dL_law_2248 : decode cL_law 2248 = .ok (.ifCond .eq 5, 3) := by decide +kernel
theorem dL_law_2251 : decode cL_law 2251 = .ok (.iconst 0, 1) := by decide +kernel
theorem dL_law_2252 : decode cL_law 2252 = .ok (.ireturn, 1) := by decide +kernel
theorem dL_law_2253 : decode cL_law 2253 = .ok (.goto 3, 3) := by decide +kernel
theorem dL_law_2256 : decode cL_law 2256 = .ok (.iinc 5 4, 3) := by decide +kernel
theorem dL_law_2259 : decode cL_law 2259 = .ok (.goto (-2231), 3) := by decide +kernel
theorem dL_law_2262 : decode cL_law 2262 = .ok (.iconst 1, 1) := by decide +kernel
theorem dL_law_2263 : decode cL_law 2263 = .ok (.ireturn, 1) := by decide +kernel
section XL
variable {pW : Program} {l : Launch} {eW : Env} {sW : State} {mW : MethodId} {argsW : Array Value} {belowW : List Frame} {methW : Method} {c9 : Code} {cells slots : Nat} {Q : State → Prop}
variable {g : xG} {A : Nat → Prop} {sb L : Nat} {xs : Nat → Int32}
set_option maxHeartbeats 4000000 in
set_option maxRecDepth 100000 in
theorem c_law_248 (a : Nat → Nat) (b : Nat → Nat) (y : Nat) (zz : Nat) (n : Nat) (d : Nat → Nat) (w : Nat) (w2 : Nat) (C : CX g RL cL_law 9 A pW sW mW argsW methW c9) (hl : l.stackTraces = false) (hX : va_X sb L xs sW sW.heap) (hbl : sb < sW.heap.size) (hbA : ¬ A sb) (hc : cells + 292 ≤ room_1.cells) (hs : slots + 5516 ≤ room_1.slots) (z : CcT) (v : StS) (c : CdT) (e : EvT) (v2 : StS) (c2 : CdT) (e2 : EvT) (v3 : StS) (c3 : CdT) (e3 : EvT) (h : HiT) (t : Unit) (vs : (Nat → StS)) (cs : (Nat → CdT)) (es : (Nat → EvT)) (q : PrT) (t2 : Unit) (ws : (Nat → CmT)) (k : SbT) (f : (Nat → Int32)) (m : MdT) (r1 : (Nat → Int32)) (r2 : (Nat → Int32)) (r3 : (Nat → Int32)) (r4 : (Nat → Int32)) (r5 : (Nat → Int32)) (r6 : (Nat → Int32)) (r7 : (Nat → Int32)) (r8 : (Nat → Int32)) (lo : (Nat → Int64)) (dd : (Nat → UInt64)) (i : Int32) {u : LwT} (hf : f_law_248 n L xs z v c e v2 c2 e2 v3 c3 e3 h t vs cs es q t2 ws k f m r1 r2 r3 r4 r5 r6 r7 r8 lo dd i = some u)
    (kk : ∀ zz' : Nat, VW g A 9 pW l eW room_1 sW mW argsW belowW methW c9 (cells + 292) (slots + 5516) Q [ccO g a b y u.1, stO g a 10 u.2.1, cdW g a 10 u.2.2.1, evW g a 10 u.2.2.2.1, stO g a 20 u.2.2.2.2.1, cdW g a 20 u.2.2.2.2.2.1, evW g a 20 u.2.2.2.2.2.2.1, stO g a 30 u.2.2.2.2.2.2.2.1, cdW g a 30 u.2.2.2.2.2.2.2.2.1, evW g a 30 u.2.2.2.2.2.2.2.2.2.1, hiO g a u.2.2.2.2.2.2.2.2.2.2.1, hrW g a u.2.2.2.2.2.2.2.2.2.2.2.1, stF g a u.2.2.2.2.2.2.2.2.2.2.2.2.1, cdF g a u.2.2.2.2.2.2.2.2.2.2.2.2.2.1, evF g a u.2.2.2.2.2.2.2.2.2.2.2.2.2.2.1, prO g b u.2.2.2.2.2.2.2.2.2.2.2.2.2.2.2.1, caW g b u.2.2.2.2.2.2.2.2.2.2.2.2.2.2.2.2.1, cmF g b u.2.2.2.2.2.2.2.2.2.2.2.2.2.2.2.2.2.1, sbO g y zz' u.2.2.2.2.2.2.2.2.2.2.2.2.2.2.2.2.2.2.1, baW g zz' u.2.2.2.2.2.2.2.2.2.2.2.2.2.2.2.2.2.2.2.2.2.2.2.2.2.2.2.2.2.2.2 u.2.2.2.2.2.2.2.2.2.2.2.2.2.2.2.2.2.2.2.1, mdO g d u.2.2.2.2.2.2.2.2.2.2.2.2.2.2.2.2.2.2.2.2.1, iaW g (d 1) 110 u.2.2.2.2.2.2.2.2.2.2.2.2.2.2.2.2.2.2.2.2.2.1, iaW g (d 2) 110 u.2.2.2.2.2.2.2.2.2.2.2.2.2.2.2.2.2.2.2.2.2.2.1, iaW g (d 3) 110 u.2.2.2.2.2.2.2.2.2.2.2.2.2.2.2.2.2.2.2.2.2.2.2.1, iaW g (d 4) 110 u.2.2.2.2.2.2.2.2.2.2.2.2.2.2.2.2.2.2.2.2.2.2.2.2.1, iaW g (d 5) 880 u.2.2.2.2.2.2.2.2.2.2.2.2.2.2.2.2.2.2.2.2.2.2.2.2.2.1, iaW g (d 6) 200 u.2.2.2.2.2.2.2.2.2.2.2.2.2.2.2.2.2.2.2.2.2.2.2.2.2.2.1, iaW g (d 7) 60 u.2.2.2.2.2.2.2.2.2.2.2.2.2.2.2.2.2.2.2.2.2.2.2.2.2.2.2.1, iaW g (d 8) 124 u.2.2.2.2.2.2.2.2.2.2.2.2.2.2.2.2.2.2.2.2.2.2.2.2.2.2.2.2.1, loW g w u.2.2.2.2.2.2.2.2.2.2.2.2.2.2.2.2.2.2.2.2.2.2.2.2.2.2.2.2.2.1, doW g w2 u.2.2.2.2.2.2.2.2.2.2.2.2.2.2.2.2.2.2.2.2.2.2.2.2.2.2.2.2.2.2.1] [(0, .ref sb), (1, .ref (a 0)), (2, .ref (d 0)), (3, .ref w), (4, .ref w2), (5, .int i)] 2256 []) : VW g A 9 pW l eW room_1 sW mW argsW belowW methW c9 cells slots Q [ccO g a b y z, stO g a 10 v, cdW g a 10 c, evW g a 10 e, stO g a 20 v2, cdW g a 20 c2, evW g a 20 e2, stO g a 30 v3, cdW g a 30 c3, evW g a 30 e3, hiO g a h, hrW g a t, stF g a vs, cdF g a cs, evF g a es, prO g b q, caW g b t2, cmF g b ws, sbO g y zz k, baW g zz n f, mdO g d m, iaW g (d 1) 110 r1, iaW g (d 2) 110 r2, iaW g (d 3) 110 r3, iaW g (d 4) 110 r4, iaW g (d 5) 880 r5, iaW g (d 6) 200 r6, iaW g (d 7) 60 r7, iaW g (d 8) 124 r8, loW g w lo, doW g w2 dd] [(0, .ref sb), (1, .ref (a 0)), (2, .ref (d 0)), (3, .ref w), (4, .ref w2), (5, .int i)] 248 [] := by
  unfold f_law_248 at hf
  have C : CX g RL cL_law 9 A pW sW mW argsW methW c9 := C
  refine x_aload_n C dL_law_248 rfl 1 rfl ?_
  refine x_aload_n C dL_law_249 rfl 0 rfl ?_
  refine x_iload C dL_law_250 5 rfl ?_
  refine x_iconst (v := 1) C dL_law_252 (by decide) ?_
  refine x_iadd C dL_law_253 ?_
  obtain ⟨h1, hf⟩ := x_n hf
  refine x_sld C hX hbl hbA h1 dL_law_254 ?_
  refine x_i2c C dL_law_255 rfl ?_
  refine x_aload_n C dL_law_256 rfl 0 rfl ?_
  refine x_iload C dL_law_257 5 rfl ?_
  refine x_iconst (v := 2) C dL_law_259 (by decide) ?_
  refine x_iadd C dL_law_260 ?_
  obtain ⟨h2, hf⟩ := x_n hf
  refine x_sld C hX hbl hbA h2 dL_law_261 ?_
  refine x_aload_n C dL_law_262 rfl 0 rfl ?_
  refine x_iload C dL_law_263 5 rfl ?_
  refine x_iconst (v := 3) C dL_law_265 (by decide) ?_
  refine x_iadd C dL_law_266 ?_
  obtain ⟨h3, hf⟩ := x_n hf
  refine x_sld C hX hbl hbA h3 dL_law_267 ?_
  refine x_aload_n C dL_law_268 rfl 3 rfl ?_
  obtain ⟨u4, hu4, hf⟩ := x_b hf
  refine x_hcallS (n := 5) (As := [.ref (a 0), .int (((xs (i + (1 : Int32)).toNatClampNeg).toUInt32 % 65536).toInt32), .int (xs (i + (2 : Int32)).toNatClampNeg), .int (xs (i + (3 : Int32)).toNatClampNeg), .ref w]) (rest := []) C (c_L_addCandle g l hl a b y w z v c e h t vs cs es lo (((xs (i + (1 : Int32)).toNatClampNeg).toUInt32 % 65536).toInt32) (xs (i + (2 : Int32)).toNatClampNeg) (xs (i + (3 : Int32)).toNatClampNeg) hu4) ⟨⟨wd_885, wd_883, wd_64⟩, ⟨by decide, by decide, by decide⟩, rfl, rfl, Nat.le_of_ble_eq_true rfl, Nat.le_of_ble_eq_true rfl⟩ wd_884 [stO g a 20 v2, cdW g a 20 c2, evW g a 20 e2, stO g a 30 v3, cdW g a 30 c3, evW g a 30 e3, prO g b q, caW g b t2, cmF g b ws, sbO g y zz k, baW g zz n f, mdO g d m, iaW g (d 1) 110 r1, iaW g (d 2) 110 r2, iaW g (d 3) 110 r3, iaW g (d 4) 110 r4, iaW g (d 5) 880 r5, iaW g (d 6) 200 r6, iaW g (d 7) 60 r7, iaW g (d 8) 124 r8, doW g w2 dd] (x_pickD [0, 1, 2, 3, 10, 11, 12, 13, 14, 29, 4, 5, 6, 7, 8, 9, 15, 16, 17, 18, 19, 20, 21, 22, 23, 24, 25, 26, 27, 28, 30] 31 rfl rfl rfl) rfl rfl (Nat.le_of_ble_eq_true rfl) ⟨by omega, by omega⟩ dL_law_269 (fun v9 w9 hQ9 => ?_)
  obtain ⟨rfl, rfl⟩ := hQ9
  refine x_goW (wss2 := [ccO g a b y z, stO g a 10 u4.2.1, cdW g a 10 u4.2.2.1, evW g a 10 e, hiO g a u4.2.2.2.1, hrW g a t, stF g a u4.2.2.2.2.1, cdF g a u4.2.2.2.2.2.1, evF g a u4.2.2.2.2.2.2.1, loW g w u4.2.2.2.2.2.2.2, stO g a 20 v2, cdW g a 20 c2, evW g a 20 e2, stO g a 30 v3, cdW g a 30 c3, evW g a 30 e3, prO g b q, caW g b t2, cmF g b ws, sbO g y zz k, baW g zz n f, mdO g d m, iaW g (d 1) 110 r1, iaW g (d 2) 110 r2, iaW g (d 3) 110 r3, iaW g (d 4) 110 r4, iaW g (d 5) 880 r5, iaW g (d 6) 200 r6, iaW g (d 7) 60 r7, iaW g (d 8) 124 r8, doW g w2 dd]) (stk2 := [.int u4.1]) rfl rfl rfl ?_
  refine x_istore (lv' := [(6, .int u4.1), (0, .ref sb), (1, .ref (a 0)), (2, .ref (d 0)), (3, .ref w), (4, .ref w2), (5, .int i)]) C dL_law_272 (by decide) rfl ?_
  refine x_aload_n C dL_law_274 rfl 3 rfl ?_
  refine x_aload_n C dL_law_275 rfl 1 rfl ?_
  refine x_iload C dL_law_276 6 rfl ?_
  refine x_iconst (v := 1) C dL_law_278 (by decide) ?_
  refine x_iadd C dL_law_279 ?_
  obtain ⟨h5, hf⟩ := x_n hf
  refine x_sld C hX hbl hbA h5 dL_law_280 ?_
  refine x_i2c C dL_law_281 rfl ?_
  refine x_aload_n C dL_law_282 rfl 1 rfl ?_
  refine x_iload C dL_law_283 6 rfl ?_
  refine x_iconst (v := 2) C dL_law_285 (by decide) ?_
  refine x_iadd C dL_law_286 ?_
  obtain ⟨h6, hf⟩ := x_n hf
  refine x_sld C hX hbl hbA h6 dL_law_287 ?_
  refine x_aload_n C dL_law_288 rfl 1 rfl ?_
  refine x_iload C dL_law_289 6 rfl ?_
  refine x_iconst (v := 3) C dL_law_291 (by decide) ?_
  refine x_iadd C dL_law_292 ?_
  obtain ⟨h7, hf⟩ := x_n hf
  refine x_sld C hX hbl hbA h7 dL_law_293 ?_
  obtain ⟨u8, hu8, hf⟩ := x_b hf
  refine x_callV (n := 3) (As := [.int (((xs (i + (1 : Int32)).toNatClampNeg).toUInt32 % 65536).toInt32), .int (xs (i + (2 : Int32)).toNatClampNeg), .int (xs (i + (3 : Int32)).toNatClampNeg)]) (rest := []) C (c_X10_addCandle g l d m r1 r2 r5 (((xs (i + (1 : Int32)).toNatClampNeg).toUInt32 % 65536).toInt32) (xs (i + (2 : Int32)).toNatClampNeg) (xs (i + (3 : Int32)).toNatClampNeg) hu8) ⟨⟨wd_1554, wd_1551, wd_78⟩, ⟨by decide, by decide, by decide⟩, rfl, rfl, Nat.le_of_ble_eq_true rfl, Nat.le_of_ble_eq_true rfl⟩ wd_1552 wd_1553 ⟨0, 11, _, _, rfl, rfl, rfl⟩ [ccO g a b y z, stO g a 10 u4.2.1, cdW g a 10 u4.2.2.1, evW g a 10 e, hiO g a u4.2.2.2.1, hrW g a t, stF g a u4.2.2.2.2.1, cdF g a u4.2.2.2.2.2.1, evF g a u4.2.2.2.2.2.2.1, loW g w u4.2.2.2.2.2.2.2, stO g a 20 v2, cdW g a 20 c2, evW g a 20 e2, stO g a 30 v3, cdW g a 30 c3, evW g a 30 e3, prO g b q, caW g b t2, cmF g b ws, sbO g y zz k, baW g zz n f, iaW g (d 3) 110 r3, iaW g (d 4) 110 r4, iaW g (d 6) 200 r6, iaW g (d 7) 60 r7, iaW g (d 8) 124 r8, doW g w2 dd] (x_pickD [21, 22, 23, 26, 0, 1, 2, 3, 4, 5, 6, 7, 8, 9, 10, 11, 12, 13, 14, 15, 16, 17, 18, 19, 20, 24, 25, 27, 28, 29, 30] 31 rfl rfl rfl) rfl rfl (Nat.le_of_ble_eq_true rfl) ⟨by omega, by omega⟩ dL_law_294 (x_goD (wss2 := [mdO g d u8.2.1, iaW g (d 1) 110 u8.2.2.1, iaW g (d 2) 110 u8.2.2.2.1, iaW g (d 5) 880 u8.2.2.2.2, ccO g a b y z, stO g a 10 u4.2.1, cdW g a 10 u4.2.2.1, evW g a 10 e, hiO g a u4.2.2.2.1, hrW g a t, stF g a u4.2.2.2.2.1, cdF g a u4.2.2.2.2.2.1, evF g a u4.2.2.2.2.2.2.1, loW g w u4.2.2.2.2.2.2.2, stO g a 20 v2, cdW g a 20 c2, evW g a 20 e2, stO g a 30 v3, cdW g a 30 c3, evW g a 30 e3, prO g b q, caW g b t2, cmF g b ws, sbO g y zz k, baW g zz n f, iaW g (d 3) 110 r3, iaW g (d 4) 110 r4, iaW g (d 6) 200 r6, iaW g (d 7) 60 r7, iaW g (d 8) 124 r8, doW g w2 dd]) (stk2 := [.int u8.1]) rfl rfl ?_)
  refine x_istore (lv' := [(7, .int u8.1), (6, .int u4.1), (0, .ref sb), (1, .ref (a 0)), (2, .ref (d 0)), (3, .ref w), (4, .ref w2), (5, .int i)]) C dL_law_297 (by decide) rfl ?_
  refine x_aload_n C dL_law_299 rfl 4 rfl ?_
  obtain ⟨u9, hu9, hf⟩ := x_b hf
  refine x_callV (n := 0) (As := []) (rest := []) C (c_X10_thrown g l d u8.2.1 hu9) ⟨⟨wd_1550, wd_1547, wd_78⟩, ⟨by decide, by decide, by decide⟩, rfl, rfl, Nat.le_of_ble_eq_true rfl, Nat.le_of_ble_eq_true rfl⟩ wd_1548 wd_1549 ⟨0, 11, _, _, rfl, rfl, rfl⟩ [iaW g (d 1) 110 u8.2.2.1, iaW g (d 2) 110 u8.2.2.2.1, iaW g (d 5) 880 u8.2.2.2.2, ccO g a b y z, stO g a 10 u4.2.1, cdW g a 10 u4.2.2.1, evW g a 10 e, hiO g a u4.2.2.2.1, hrW g a t, stF g a u4.2.2.2.2.1, cdF g a u4.2.2.2.2.2.1, evF g a u4.2.2.2.2.2.2.1, loW g w u4.2.2.2.2.2.2.2, stO g a 20 v2, cdW g a 20 c2, evW g a 20 e2, stO g a 30 v3, cdW g a 30 c3, evW g a 30 e3, prO g b q, caW g b t2, cmF g b ws, sbO g y zz k, baW g zz n f, iaW g (d 3) 110 r3, iaW g (d 4) 110 r4, iaW g (d 6) 200 r6, iaW g (d 7) 60 r7, iaW g (d 8) 124 r8, doW g w2 dd] (x_pickD [0, 1, 2, 3, 4, 5, 6, 7, 8, 9, 10, 11, 12, 13, 14, 15, 16, 17, 18, 19, 20, 21, 22, 23, 24, 25, 26, 27, 28, 29, 30] 31 rfl rfl rfl) rfl rfl (Nat.le_of_ble_eq_true rfl) ⟨by omega, by omega⟩ dL_law_300 (x_goD (wss2 := [mdO g d u8.2.1, iaW g (d 1) 110 u8.2.2.1, iaW g (d 2) 110 u8.2.2.2.1, iaW g (d 5) 880 u8.2.2.2.2, ccO g a b y z, stO g a 10 u4.2.1, cdW g a 10 u4.2.2.1, evW g a 10 e, hiO g a u4.2.2.2.1, hrW g a t, stF g a u4.2.2.2.2.1, cdF g a u4.2.2.2.2.2.1, evF g a u4.2.2.2.2.2.2.1, loW g w u4.2.2.2.2.2.2.2, stO g a 20 v2, cdW g a 20 c2, evW g a 20 e2, stO g a 30 v3, cdW g a 30 c3, evW g a 30 e3, prO g b q, caW g b t2, cmF g b ws, sbO g y zz k, baW g zz n f, iaW g (d 3) 110 r3, iaW g (d 4) 110 r4, iaW g (d 6) 200 r6, iaW g (d 7) 60 r7, iaW g (d 8) 124 r8, doW g w2 dd]) (stk2 := [.int u9]) rfl rfl ?_)
  refine x_iload C dL_law_303 1 rfl ?_
  refine x_icmp_eq (tgt := 310) C dL_law_305 (by decide) (fun h10 => ?_) (fun h10 => ?_)
  · have hf := x_t h10 hf
    refine x_iload C dL_law_310 1 rfl ?_
    refine x_if_ne (tgt := 327) C dL_law_312 (by decide) (fun h11 => ?_) (fun h11 => ?_)
    · have hf := x_f h11 hf
      refine x_goto (tgt := 2256) C dL_law_327 (by decide) ?_
      refine x_perm (wss' := [ccO g a b y z, stO g a 10 u4.2.1, cdW g a 10 u4.2.2.1, evW g a 10 e, stO g a 20 v2, cdW g a 20 c2, evW g a 20 e2, stO g a 30 v3, cdW g a 30 c3, evW g a 30 e3, hiO g a u4.2.2.2.1, hrW g a t, stF g a u4.2.2.2.2.1, cdF g a u4.2.2.2.2.2.1, evF g a u4.2.2.2.2.2.2.1, prO g b q, caW g b t2, cmF g b ws, sbO g y zz k, baW g zz n f, mdO g d u8.2.1, iaW g (d 1) 110 u8.2.2.1, iaW g (d 2) 110 u8.2.2.2.1, iaW g (d 3) 110 r3, iaW g (d 4) 110 r4, iaW g (d 5) 880 u8.2.2.2.2, iaW g (d 6) 200 r6, iaW g (d 7) 60 r7, iaW g (d 8) 124 r8, loW g w u4.2.2.2.2.2.2.2, doW g w2 dd]) (x_pick [4, 5, 6, 7, 14, 15, 16, 17, 18, 19, 8, 9, 10, 11, 12, 20, 21, 22, 23, 24, 0, 1, 2, 25, 26, 3, 27, 28, 29, 13, 30] 31 rfl rfl rfl) ?_
      refine x_locals (lv' := [(0, .ref sb), (1, .ref (a 0)), (2, .ref (d 0)), (3, .ref w), (4, .ref w2), (5, .int i)]) [2, 3, 4, 5, 6, 7] rfl ?_
      refine x_widen (k := cells + 292) (n := slots + 5516) (by omega) (by omega) ?_
      obtain rfl := Option.some.inj hf
      exact kk zz
    · have hf := x_t h11 hf
      refine x_aload_n C dL_law_315 rfl 5 rfl ?_
      refine x_iconst (v := 0) C dL_law_316 (by decide) ?_
      obtain ⟨h12, hf⟩ := x_n hf
      refine x_lald (b := loW g w u4.2.2.2.2.2.2.2) C 13 rfl 0 (loW_at0 g w _) h12 dL_law_317 ?_
      refine x_iload C dL_law_318 0 rfl ?_
      refine x_i2l C dL_law_320 rfl ?_
      refine x_lcmp C dL_law_321 ?_
      refine x_if_eq (tgt := 327) C dL_law_322 (by decide) (fun h13 => ?_) (fun h13 => ?_)
      · have hf := x_t h13 hf
        refine x_goto (tgt := 2256) C dL_law_327 (by decide) ?_
        refine x_perm (wss' := [ccO g a b y z, stO g a 10 u4.2.1, cdW g a 10 u4.2.2.1, evW g a 10 e, stO g a 20 v2, cdW g a 20 c2, evW g a 20 e2, stO g a 30 v3, cdW g a 30 c3, evW g a 30 e3, hiO g a u4.2.2.2.1, hrW g a t, stF g a u4.2.2.2.2.1, cdF g a u4.2.2.2.2.2.1, evF g a u4.2.2.2.2.2.2.1, prO g b q, caW g b t2, cmF g b ws, sbO g y zz k, baW g zz n f, mdO g d u8.2.1, iaW g (d 1) 110 u8.2.2.1, iaW g (d 2) 110 u8.2.2.2.1, iaW g (d 3) 110 r3, iaW g (d 4) 110 r4, iaW g (d 5) 880 u8.2.2.2.2, iaW g (d 6) 200 r6, iaW g (d 7) 60 r7, iaW g (d 8) 124 r8, loW g w u4.2.2.2.2.2.2.2, doW g w2 dd]) (x_pick [4, 5, 6, 7, 14, 15, 16, 17, 18, 19, 8, 9, 10, 11, 12, 20, 21, 22, 23, 24, 0, 1, 2, 25, 26, 3, 27, 28, 29, 13, 30] 31 rfl rfl rfl) ?_
        refine x_locals (lv' := [(0, .ref sb), (1, .ref (a 0)), (2, .ref (d 0)), (3, .ref w), (4, .ref w2), (5, .int i)]) [2, 3, 4, 5, 6, 7] rfl ?_
        refine x_widen (k := cells + 292) (n := slots + 5516) (by omega) (by omega) ?_
        obtain rfl := Option.some.inj hf
        exact kk zz
      · have hf := x_f h13 hf
        cases hf
  · have hf := x_f h10 hf
    cases hf
set_option maxHeartbeats 4000000 in
set_option maxRecDepth 100000 in
theorem c_law_330 (a : Nat → Nat) (b : Nat → Nat) (y : Nat) (zz : Nat) (n : Nat) (d : Nat → Nat) (w : Nat) (w2 : Nat) (C : CX g RL cL_law 9 A pW sW mW argsW methW c9) (hl : l.stackTraces = false) (hX : va_X sb L xs sW sW.heap) (hbl : sb < sW.heap.size) (hbA : ¬ A sb) (hc : cells + 292 ≤ room_1.cells) (hs : slots + 5516 ≤ room_1.slots) (z : CcT) (v : StS) (c : CdT) (e : EvT) (v2 : StS) (c2 : CdT) (e2 : EvT) (v3 : StS) (c3 : CdT) (e3 : EvT) (h : HiT) (t : Unit) (vs : (Nat → StS)) (cs : (Nat → CdT)) (es : (Nat → EvT)) (q : PrT) (t2 : Unit) (ws : (Nat → CmT)) (k : SbT) (f : (Nat → Int32)) (m : MdT) (r1 : (Nat → Int32)) (r2 : (Nat → Int32)) (r3 : (Nat → Int32)) (r4 : (Nat → Int32)) (r5 : (Nat → Int32)) (r6 : (Nat → Int32)) (r7 : (Nat → Int32)) (r8 : (Nat → Int32)) (lo : (Nat → Int64)) (dd : (Nat → UInt64)) (i : Int32) {u : LwT} (hf : f_law_330 n L xs z v c e v2 c2 e2 v3 c3 e3 h t vs cs es q t2 ws k f m r1 r2 r3 r4 r5 r6 r7 r8 lo dd i = some u)
    (kk : ∀ zz' : Nat, VW g A 9 pW l eW room_1 sW mW argsW belowW methW c9 (cells + 292) (slots + 5516) Q [ccO g a b y u.1, stO g a 10 u.2.1, cdW g a 10 u.2.2.1, evW g a 10 u.2.2.2.1, stO g a 20 u.2.2.2.2.1, cdW g a 20 u.2.2.2.2.2.1, evW g a 20 u.2.2.2.2.2.2.1, stO g a 30 u.2.2.2.2.2.2.2.1, cdW g a 30 u.2.2.2.2.2.2.2.2.1, evW g a 30 u.2.2.2.2.2.2.2.2.2.1, hiO g a u.2.2.2.2.2.2.2.2.2.2.1, hrW g a u.2.2.2.2.2.2.2.2.2.2.2.1, stF g a u.2.2.2.2.2.2.2.2.2.2.2.2.1, cdF g a u.2.2.2.2.2.2.2.2.2.2.2.2.2.1, evF g a u.2.2.2.2.2.2.2.2.2.2.2.2.2.2.1, prO g b u.2.2.2.2.2.2.2.2.2.2.2.2.2.2.2.1, caW g b u.2.2.2.2.2.2.2.2.2.2.2.2.2.2.2.2.1, cmF g b u.2.2.2.2.2.2.2.2.2.2.2.2.2.2.2.2.2.1, sbO g y zz' u.2.2.2.2.2.2.2.2.2.2.2.2.2.2.2.2.2.2.1, baW g zz' u.2.2.2.2.2.2.2.2.2.2.2.2.2.2.2.2.2.2.2.2.2.2.2.2.2.2.2.2.2.2.2 u.2.2.2.2.2.2.2.2.2.2.2.2.2.2.2.2.2.2.2.1, mdO g d u.2.2.2.2.2.2.2.2.2.2.2.2.2.2.2.2.2.2.2.2.1, iaW g (d 1) 110 u.2.2.2.2.2.2.2.2.2.2.2.2.2.2.2.2.2.2.2.2.2.1, iaW g (d 2) 110 u.2.2.2.2.2.2.2.2.2.2.2.2.2.2.2.2.2.2.2.2.2.2.1, iaW g (d 3) 110 u.2.2.2.2.2.2.2.2.2.2.2.2.2.2.2.2.2.2.2.2.2.2.2.1, iaW g (d 4) 110 u.2.2.2.2.2.2.2.2.2.2.2.2.2.2.2.2.2.2.2.2.2.2.2.2.1, iaW g (d 5) 880 u.2.2.2.2.2.2.2.2.2.2.2.2.2.2.2.2.2.2.2.2.2.2.2.2.2.1, iaW g (d 6) 200 u.2.2.2.2.2.2.2.2.2.2.2.2.2.2.2.2.2.2.2.2.2.2.2.2.2.2.1, iaW g (d 7) 60 u.2.2.2.2.2.2.2.2.2.2.2.2.2.2.2.2.2.2.2.2.2.2.2.2.2.2.2.1, iaW g (d 8) 124 u.2.2.2.2.2.2.2.2.2.2.2.2.2.2.2.2.2.2.2.2.2.2.2.2.2.2.2.2.1, loW g w u.2.2.2.2.2.2.2.2.2.2.2.2.2.2.2.2.2.2.2.2.2.2.2.2.2.2.2.2.2.1, doW g w2 u.2.2.2.2.2.2.2.2.2.2.2.2.2.2.2.2.2.2.2.2.2.2.2.2.2.2.2.2.2.2.1] [(0, .ref sb), (1, .ref (a 0)), (2, .ref (d 0)), (3, .ref w), (4, .ref w2), (5, .int i)] 2256 []) : VW g A 9 pW l eW room_1 sW mW argsW belowW methW c9 cells slots Q [ccO g a b y z, stO g a 10 v, cdW g a 10 c, evW g a 10 e, stO g a 20 v2, cdW g a 20 c2, evW g a 20 e2, stO g a 30 v3, cdW g a 30 c3, evW g a 30 e3, hiO g a h, hrW g a t, stF g a vs, cdF g a cs, evF g a es, prO g b q, caW g b t2, cmF g b ws, sbO g y zz k, baW g zz n f, mdO g d m, iaW g (d 1) 110 r1, iaW g (d 2) 110 r2, iaW g (d 3) 110 r3, iaW g (d 4) 110 r4, iaW g (d 5) 880 r5, iaW g (d 6) 200 r6, iaW g (d 7) 60 r7, iaW g (d 8) 124 r8, loW g w lo, doW g w2 dd] [(0, .ref sb), (1, .ref (a 0)), (2, .ref (d 0)), (3, .ref w), (4, .ref w2), (5, .int i)] 330 [] := by
  unfold f_law_330 at hf
  have C : CX g RL cL_law 9 A pW sW mW argsW methW c9 := C
  refine x_aload_n C dL_law_330 rfl 1 rfl ?_
  refine x_aload_n C dL_law_331 rfl 0 rfl ?_
  refine x_iload C dL_law_332 5 rfl ?_
  refine x_iconst (v := 1) C dL_law_334 (by decide) ?_
  refine x_iadd C dL_law_335 ?_
  obtain ⟨h1, hf⟩ := x_n hf
  refine x_sld C hX hbl hbA h1 dL_law_336 ?_
  refine x_aload_n C dL_law_337 rfl 3 rfl ?_
  obtain ⟨u2, hu2, hf⟩ := x_b hf
  refine x_hcallS (n := 3) (As := [.ref (a 0), .int (xs (i + (1 : Int32)).toNatClampNeg), .ref w]) (rest := []) C (c_L_light g l hl a b y w z v c e h t vs cs es lo (xs (i + (1 : Int32)).toNatClampNeg) hu2) ⟨⟨wd_986, wd_984, wd_64⟩, ⟨by decide, by decide, by decide⟩, rfl, rfl, Nat.le_of_ble_eq_true rfl, Nat.le_of_ble_eq_true rfl⟩ wd_985 [stO g a 20 v2, cdW g a 20 c2, evW g a 20 e2, stO g a 30 v3, cdW g a 30 c3, evW g a 30 e3, prO g b q, caW g b t2, cmF g b ws, sbO g y zz k, baW g zz n f, mdO g d m, iaW g (d 1) 110 r1, iaW g (d 2) 110 r2, iaW g (d 3) 110 r3, iaW g (d 4) 110 r4, iaW g (d 5) 880 r5, iaW g (d 6) 200 r6, iaW g (d 7) 60 r7, iaW g (d 8) 124 r8, doW g w2 dd] (x_pickD [0, 1, 2, 3, 10, 11, 12, 13, 14, 29, 4, 5, 6, 7, 8, 9, 15, 16, 17, 18, 19, 20, 21, 22, 23, 24, 25, 26, 27, 28, 30] 31 rfl rfl rfl) rfl rfl (Nat.le_of_ble_eq_true rfl) ⟨by omega, by omega⟩ dL_law_338 (fun v9 w9 hQ9 => ?_)
  obtain ⟨rfl, rfl⟩ := hQ9
  refine x_goW (wss2 := [ccO g a b y z, stO g a 10 v, cdW g a 10 u2.2.1, evW g a 10 e, hiO g a u2.2.2.1, hrW g a t, stF g a u2.2.2.2.1, cdF g a u2.2.2.2.2.1, evF g a u2.2.2.2.2.2.1, loW g w u2.2.2.2.2.2.2, stO g a 20 v2, cdW g a 20 c2, evW g a 20 e2, stO g a 30 v3, cdW g a 30 c3, evW g a 30 e3, prO g b q, caW g b t2, cmF g b ws, sbO g y zz k, baW g zz n f, mdO g d m, iaW g (d 1) 110 r1, iaW g (d 2) 110 r2, iaW g (d 3) 110 r3, iaW g (d 4) 110 r4, iaW g (d 5) 880 r5, iaW g (d 6) 200 r6, iaW g (d 7) 60 r7, iaW g (d 8) 124 r8, doW g w2 dd]) (stk2 := [.int u2.1]) rfl rfl rfl ?_
  refine x_istore (lv' := [(6, .int u2.1), (0, .ref sb), (1, .ref (a 0)), (2, .ref (d 0)), (3, .ref w), (4, .ref w2), (5, .int i)]) C dL_law_341 (by decide) rfl ?_
  refine x_aload_n C dL_law_343 rfl 3 rfl ?_
  refine x_aload_n C dL_law_344 rfl 1 rfl ?_
  refine x_iload C dL_law_345 6 rfl ?_
  refine x_iconst (v := 1) C dL_law_347 (by decide) ?_
  refine x_iadd C dL_law_348 ?_
  obtain ⟨h3, hf⟩ := x_n hf
  refine x_sld C hX hbl hbA h3 dL_law_349 ?_
  obtain ⟨u4, hu4, hf⟩ := x_b hf
  refine x_callV (n := 1) (As := [.int (xs (i + (1 : Int32)).toNatClampNeg)]) (rest := []) C (c_X10_light g l d m r1 r2 r5 (xs (i + (1 : Int32)).toNatClampNeg) hu4) ⟨⟨wd_1587, wd_1584, wd_78⟩, ⟨by decide, by decide, by decide⟩, rfl, rfl, Nat.le_of_ble_eq_true rfl, Nat.le_of_ble_eq_true rfl⟩ wd_1585 wd_1586 ⟨0, 11, _, _, rfl, rfl, rfl⟩ [ccO g a b y z, stO g a 10 v, cdW g a 10 u2.2.1, evW g a 10 e, hiO g a u2.2.2.1, hrW g a t, stF g a u2.2.2.2.1, cdF g a u2.2.2.2.2.1, evF g a u2.2.2.2.2.2.1, loW g w u2.2.2.2.2.2.2, stO g a 20 v2, cdW g a 20 c2, evW g a 20 e2, stO g a 30 v3, cdW g a 30 c3, evW g a 30 e3, prO g b q, caW g b t2, cmF g b ws, sbO g y zz k, baW g zz n f, iaW g (d 3) 110 r3, iaW g (d 4) 110 r4, iaW g (d 6) 200 r6, iaW g (d 7) 60 r7, iaW g (d 8) 124 r8, doW g w2 dd] (x_pickD [21, 22, 23, 26, 0, 1, 2, 3, 4, 5, 6, 7, 8, 9, 10, 11, 12, 13, 14, 15, 16, 17, 18, 19, 20, 24, 25, 27, 28, 29, 30] 31 rfl rfl rfl) rfl rfl (Nat.le_of_ble_eq_true rfl) ⟨by omega, by omega⟩ dL_law_350 (x_goD (wss2 := [mdO g d u4.2.1, iaW g (d 1) 110 u4.2.2.1, iaW g (d 2) 110 u4.2.2.2.1, iaW g (d 5) 880 u4.2.2.2.2, ccO g a b y z, stO g a 10 v, cdW g a 10 u2.2.1, evW g a 10 e, hiO g a u2.2.2.1, hrW g a t, stF g a u2.2.2.2.1, cdF g a u2.2.2.2.2.1, evF g a u2.2.2.2.2.2.1, loW g w u2.2.2.2.2.2.2, stO g a 20 v2, cdW g a 20 c2, evW g a 20 e2, stO g a 30 v3, cdW g a 30 c3, evW g a 30 e3, prO g b q, caW g b t2, cmF g b ws, sbO g y zz k, baW g zz n f, iaW g (d 3) 110 r3, iaW g (d 4) 110 r4, iaW g (d 6) 200 r6, iaW g (d 7) 60 r7, iaW g (d 8) 124 r8, doW g w2 dd]) (stk2 := [.int u4.1]) rfl rfl ?_)
  refine x_istore (lv' := [(7, .int u4.1), (6, .int u2.1), (0, .ref sb), (1, .ref (a 0)), (2, .ref (d 0)), (3, .ref w), (4, .ref w2), (5, .int i)]) C dL_law_353 (by decide) rfl ?_
  refine x_aload_n C dL_law_355 rfl 4 rfl ?_
  obtain ⟨u5, hu5, hf⟩ := x_b hf
  refine x_callV (n := 0) (As := []) (rest := []) C (c_X10_thrown g l d u4.2.1 hu5) ⟨⟨wd_1550, wd_1547, wd_78⟩, ⟨by decide, by decide, by decide⟩, rfl, rfl, Nat.le_of_ble_eq_true rfl, Nat.le_of_ble_eq_true rfl⟩ wd_1548 wd_1549 ⟨0, 11, _, _, rfl, rfl, rfl⟩ [iaW g (d 1) 110 u4.2.2.1, iaW g (d 2) 110 u4.2.2.2.1, iaW g (d 5) 880 u4.2.2.2.2, ccO g a b y z, stO g a 10 v, cdW g a 10 u2.2.1, evW g a 10 e, hiO g a u2.2.2.1, hrW g a t, stF g a u2.2.2.2.1, cdF g a u2.2.2.2.2.1, evF g a u2.2.2.2.2.2.1, loW g w u2.2.2.2.2.2.2, stO g a 20 v2, cdW g a 20 c2, evW g a 20 e2, stO g a 30 v3, cdW g a 30 c3, evW g a 30 e3, prO g b q, caW g b t2, cmF g b ws, sbO g y zz k, baW g zz n f, iaW g (d 3) 110 r3, iaW g (d 4) 110 r4, iaW g (d 6) 200 r6, iaW g (d 7) 60 r7, iaW g (d 8) 124 r8, doW g w2 dd] (x_pickD [0, 1, 2, 3, 4, 5, 6, 7, 8, 9, 10, 11, 12, 13, 14, 15, 16, 17, 18, 19, 20, 21, 22, 23, 24, 25, 26, 27, 28, 29, 30] 31 rfl rfl rfl) rfl rfl (Nat.le_of_ble_eq_true rfl) ⟨by omega, by omega⟩ dL_law_356 (x_goD (wss2 := [mdO g d u4.2.1, iaW g (d 1) 110 u4.2.2.1, iaW g (d 2) 110 u4.2.2.2.1, iaW g (d 5) 880 u4.2.2.2.2, ccO g a b y z, stO g a 10 v, cdW g a 10 u2.2.1, evW g a 10 e, hiO g a u2.2.2.1, hrW g a t, stF g a u2.2.2.2.1, cdF g a u2.2.2.2.2.1, evF g a u2.2.2.2.2.2.1, loW g w u2.2.2.2.2.2.2, stO g a 20 v2, cdW g a 20 c2, evW g a 20 e2, stO g a 30 v3, cdW g a 30 c3, evW g a 30 e3, prO g b q, caW g b t2, cmF g b ws, sbO g y zz k, baW g zz n f, iaW g (d 3) 110 r3, iaW g (d 4) 110 r4, iaW g (d 6) 200 r6, iaW g (d 7) 60 r7, iaW g (d 8) 124 r8, doW g w2 dd]) (stk2 := [.int u5]) rfl rfl ?_)
  refine x_iload C dL_law_359 1 rfl ?_
  refine x_icmp_eq (tgt := 366) C dL_law_361 (by decide) (fun h6 => ?_) (fun h6 => ?_)
  · have hf := x_t h6 hf
    refine x_iload C dL_law_366 1 rfl ?_
    refine x_if_ne (tgt := 383) C dL_law_368 (by decide) (fun h7 => ?_) (fun h7 => ?_)
    · have hf := x_f h7 hf
      refine x_goto (tgt := 2256) C dL_law_383 (by decide) ?_
      refine x_perm (wss' := [ccO g a b y z, stO g a 10 v, cdW g a 10 u2.2.1, evW g a 10 e, stO g a 20 v2, cdW g a 20 c2, evW g a 20 e2, stO g a 30 v3, cdW g a 30 c3, evW g a 30 e3, hiO g a u2.2.2.1, hrW g a t, stF g a u2.2.2.2.1, cdF g a u2.2.2.2.2.1, evF g a u2.2.2.2.2.2.1, prO g b q, caW g b t2, cmF g b ws, sbO g y zz k, baW g zz n f, mdO g d u4.2.1, iaW g (d 1) 110 u4.2.2.1, iaW g (d 2) 110 u4.2.2.2.1, iaW g (d 3) 110 r3, iaW g (d 4) 110 r4, iaW g (d 5) 880 u4.2.2.2.2, iaW g (d 6) 200 r6, iaW g (d 7) 60 r7, iaW g (d 8) 124 r8, loW g w u2.2.2.2.2.2.2, doW g w2 dd]) (x_pick [4, 5, 6, 7, 14, 15, 16, 17, 18, 19, 8, 9, 10, 11, 12, 20, 21, 22, 23, 24, 0, 1, 2, 25, 26, 3, 27, 28, 29, 13, 30] 31 rfl rfl rfl) ?_
      refine x_locals (lv' := [(0, .ref sb), (1, .ref (a 0)), (2, .ref (d 0)), (3, .ref w), (4, .ref w2), (5, .int i)]) [2, 3, 4, 5, 6, 7] rfl ?_
      refine x_widen (k := cells + 292) (n := slots + 5516) (by omega) (by omega) ?_
      obtain rfl := Option.some.inj hf
      exact kk zz
    · have hf := x_t h7 hf
      refine x_aload_n C dL_law_371 rfl 5 rfl ?_
      refine x_iconst (v := 0) C dL_law_372 (by decide) ?_
      obtain ⟨h8, hf⟩ := x_n hf
      refine x_lald (b := loW g w u2.2.2.2.2.2.2) C 13 rfl 0 (loW_at0 g w _) h8 dL_law_373 ?_
      refine x_iload C dL_law_374 0 rfl ?_
      refine x_i2l C dL_law_376 rfl ?_
      refine x_lcmp C dL_law_377 ?_
      refine x_if_eq (tgt := 383) C dL_law_378 (by decide) (fun h9 => ?_) (fun h9 => ?_)
      · have hf := x_t h9 hf
        refine x_goto (tgt := 2256) C dL_law_383 (by decide) ?_
        refine x_perm (wss' := [ccO g a b y z, stO g a 10 v, cdW g a 10 u2.2.1, evW g a 10 e, stO g a 20 v2, cdW g a 20 c2, evW g a 20 e2, stO g a 30 v3, cdW g a 30 c3, evW g a 30 e3, hiO g a u2.2.2.1, hrW g a t, stF g a u2.2.2.2.1, cdF g a u2.2.2.2.2.1, evF g a u2.2.2.2.2.2.1, prO g b q, caW g b t2, cmF g b ws, sbO g y zz k, baW g zz n f, mdO g d u4.2.1, iaW g (d 1) 110 u4.2.2.1, iaW g (d 2) 110 u4.2.2.2.1, iaW g (d 3) 110 r3, iaW g (d 4) 110 r4, iaW g (d 5) 880 u4.2.2.2.2, iaW g (d 6) 200 r6, iaW g (d 7) 60 r7, iaW g (d 8) 124 r8, loW g w u2.2.2.2.2.2.2, doW g w2 dd]) (x_pick [4, 5, 6, 7, 14, 15, 16, 17, 18, 19, 8, 9, 10, 11, 12, 20, 21, 22, 23, 24, 0, 1, 2, 25, 26, 3, 27, 28, 29, 13, 30] 31 rfl rfl rfl) ?_
        refine x_locals (lv' := [(0, .ref sb), (1, .ref (a 0)), (2, .ref (d 0)), (3, .ref w), (4, .ref w2), (5, .int i)]) [2, 3, 4, 5, 6, 7] rfl ?_
        refine x_widen (k := cells + 292) (n := slots + 5516) (by omega) (by omega) ?_
        obtain rfl := Option.some.inj hf
        exact kk zz
      · have hf := x_f h9 hf
        cases hf
  · have hf := x_f h6 hf
    cases hf
set_option maxHeartbeats 4000000 in
set_option maxRecDepth 100000 in
theorem c_law_386 (a : Nat → Nat) (b : Nat → Nat) (y : Nat) (zz : Nat) (n : Nat) (d : Nat → Nat) (w : Nat) (w2 : Nat) (C : CX g RL cL_law 9 A pW sW mW argsW methW c9) (hl : l.stackTraces = false) (hX : va_X sb L xs sW sW.heap) (hbl : sb < sW.heap.size) (hbA : ¬ A sb) (hc : cells + 292 ≤ room_1.cells) (hs : slots + 5516 ≤ room_1.slots) (z : CcT) (v : StS) (c : CdT) (e : EvT) (v2 : StS) (c2 : CdT) (e2 : EvT) (v3 : StS) (c3 : CdT) (e3 : EvT) (h : HiT) (t : Unit) (vs : (Nat → StS)) (cs : (Nat → CdT)) (es : (Nat → EvT)) (q : PrT) (t2 : Unit) (ws : (Nat → CmT)) (k : SbT) (f : (Nat → Int32)) (m : MdT) (r1 : (Nat → Int32)) (r2 : (Nat → Int32)) (r3 : (Nat → Int32)) (r4 : (Nat → Int32)) (r5 : (Nat → Int32)) (r6 : (Nat → Int32)) (r7 : (Nat → Int32)) (r8 : (Nat → Int32)) (lo : (Nat → Int64)) (dd : (Nat → UInt64)) (i : Int32) {u : LwT} (hf : f_law_386 n L xs z v c e v2 c2 e2 v3 c3 e3 h t vs cs es q t2 ws k f m r1 r2 r3 r4 r5 r6 r7 r8 lo dd i = some u)
    (kk : ∀ zz' : Nat, VW g A 9 pW l eW room_1 sW mW argsW belowW methW c9 (cells + 292) (slots + 5516) Q [ccO g a b y u.1, stO g a 10 u.2.1, cdW g a 10 u.2.2.1, evW g a 10 u.2.2.2.1, stO g a 20 u.2.2.2.2.1, cdW g a 20 u.2.2.2.2.2.1, evW g a 20 u.2.2.2.2.2.2.1, stO g a 30 u.2.2.2.2.2.2.2.1, cdW g a 30 u.2.2.2.2.2.2.2.2.1, evW g a 30 u.2.2.2.2.2.2.2.2.2.1, hiO g a u.2.2.2.2.2.2.2.2.2.2.1, hrW g a u.2.2.2.2.2.2.2.2.2.2.2.1, stF g a u.2.2.2.2.2.2.2.2.2.2.2.2.1, cdF g a u.2.2.2.2.2.2.2.2.2.2.2.2.2.1, evF g a u.2.2.2.2.2.2.2.2.2.2.2.2.2.2.1, prO g b u.2.2.2.2.2.2.2.2.2.2.2.2.2.2.2.1, caW g b u.2.2.2.2.2.2.2.2.2.2.2.2.2.2.2.2.1, cmF g b u.2.2.2.2.2.2.2.2.2.2.2.2.2.2.2.2.2.1, sbO g y zz' u.2.2.2.2.2.2.2.2.2.2.2.2.2.2.2.2.2.2.1, baW g zz' u.2.2.2.2.2.2.2.2.2.2.2.2.2.2.2.2.2.2.2.2.2.2.2.2.2.2.2.2.2.2.2 u.2.2.2.2.2.2.2.2.2.2.2.2.2.2.2.2.2.2.2.1, mdO g d u.2.2.2.2.2.2.2.2.2.2.2.2.2.2.2.2.2.2.2.2.1, iaW g (d 1) 110 u.2.2.2.2.2.2.2.2.2.2.2.2.2.2.2.2.2.2.2.2.2.1, iaW g (d 2) 110 u.2.2.2.2.2.2.2.2.2.2.2.2.2.2.2.2.2.2.2.2.2.2.1, iaW g (d 3) 110 u.2.2.2.2.2.2.2.2.2.2.2.2.2.2.2.2.2.2.2.2.2.2.2.1, iaW g (d 4) 110 u.2.2.2.2.2.2.2.2.2.2.2.2.2.2.2.2.2.2.2.2.2.2.2.2.1, iaW g (d 5) 880 u.2.2.2.2.2.2.2.2.2.2.2.2.2.2.2.2.2.2.2.2.2.2.2.2.2.1, iaW g (d 6) 200 u.2.2.2.2.2.2.2.2.2.2.2.2.2.2.2.2.2.2.2.2.2.2.2.2.2.2.1, iaW g (d 7) 60 u.2.2.2.2.2.2.2.2.2.2.2.2.2.2.2.2.2.2.2.2.2.2.2.2.2.2.2.1, iaW g (d 8) 124 u.2.2.2.2.2.2.2.2.2.2.2.2.2.2.2.2.2.2.2.2.2.2.2.2.2.2.2.2.1, loW g w u.2.2.2.2.2.2.2.2.2.2.2.2.2.2.2.2.2.2.2.2.2.2.2.2.2.2.2.2.2.1, doW g w2 u.2.2.2.2.2.2.2.2.2.2.2.2.2.2.2.2.2.2.2.2.2.2.2.2.2.2.2.2.2.2.1] [(0, .ref sb), (1, .ref (a 0)), (2, .ref (d 0)), (3, .ref w), (4, .ref w2), (5, .int i)] 2256 []) : VW g A 9 pW l eW room_1 sW mW argsW belowW methW c9 cells slots Q [ccO g a b y z, stO g a 10 v, cdW g a 10 c, evW g a 10 e, stO g a 20 v2, cdW g a 20 c2, evW g a 20 e2, stO g a 30 v3, cdW g a 30 c3, evW g a 30 e3, hiO g a h, hrW g a t, stF g a vs, cdF g a cs, evF g a es, prO g b q, caW g b t2, cmF g b ws, sbO g y zz k, baW g zz n f, mdO g d m, iaW g (d 1) 110 r1, iaW g (d 2) 110 r2, iaW g (d 3) 110 r3, iaW g (d 4) 110 r4, iaW g (d 5) 880 r5, iaW g (d 6) 200 r6, iaW g (d 7) 60 r7, iaW g (d 8) 124 r8, loW g w lo, doW g w2 dd] [(0, .ref sb), (1, .ref (a 0)), (2, .ref (d 0)), (3, .ref w), (4, .ref w2), (5, .int i)] 386 [] := by
  unfold f_law_386 at hf
  have C : CX g RL cL_law 9 A pW sW mW argsW methW c9 := C
  refine x_aload_n C dL_law_386 rfl 1 rfl ?_
  refine x_aload_n C dL_law_387 rfl 0 rfl ?_
  refine x_iload C dL_law_388 5 rfl ?_
  refine x_iconst (v := 1) C dL_law_390 (by decide) ?_
  refine x_iadd C dL_law_391 ?_
  obtain ⟨h1, hf⟩ := x_n hf
  refine x_sld C hX hbl hbA h1 dL_law_392 ?_
  refine x_aload_n C dL_law_393 rfl 3 rfl ?_
  obtain ⟨u2, hu2, hf⟩ := x_b hf
  refine x_hcallS (n := 3) (As := [.ref (a 0), .int (xs (i + (1 : Int32)).toNatClampNeg), .ref w]) (rest := []) C (c_L_snuff g l hl a b y w z v c e h t vs cs es lo (xs (i + (1 : Int32)).toNatClampNeg) hu2) ⟨⟨wd_1011, wd_1009, wd_64⟩, ⟨by decide, by decide, by decide⟩, rfl, rfl, Nat.le_of_ble_eq_true rfl, Nat.le_of_ble_eq_true rfl⟩ wd_1010 [stO g a 20 v2, cdW g a 20 c2, evW g a 20 e2, stO g a 30 v3, cdW g a 30 c3, evW g a 30 e3, prO g b q, caW g b t2, cmF g b ws, sbO g y zz k, baW g zz n f, mdO g d m, iaW g (d 1) 110 r1, iaW g (d 2) 110 r2, iaW g (d 3) 110 r3, iaW g (d 4) 110 r4, iaW g (d 5) 880 r5, iaW g (d 6) 200 r6, iaW g (d 7) 60 r7, iaW g (d 8) 124 r8, doW g w2 dd] (x_pickD [0, 1, 2, 3, 10, 11, 12, 13, 14, 29, 4, 5, 6, 7, 8, 9, 15, 16, 17, 18, 19, 20, 21, 22, 23, 24, 25, 26, 27, 28, 30] 31 rfl rfl rfl) rfl rfl (Nat.le_of_ble_eq_true rfl) ⟨by omega, by omega⟩ dL_law_394 (fun v9 w9 hQ9 => ?_)
  obtain ⟨rfl, rfl⟩ := hQ9
  refine x_goW (wss2 := [ccO g a b y z, stO g a 10 v, cdW g a 10 u2.2.1, evW g a 10 e, hiO g a u2.2.2.1, hrW g a t, stF g a u2.2.2.2.1, cdF g a u2.2.2.2.2.1, evF g a u2.2.2.2.2.2.1, loW g w u2.2.2.2.2.2.2, stO g a 20 v2, cdW g a 20 c2, evW g a 20 e2, stO g a 30 v3, cdW g a 30 c3, evW g a 30 e3, prO g b q, caW g b t2, cmF g b ws, sbO g y zz k, baW g zz n f, mdO g d m, iaW g (d 1) 110 r1, iaW g (d 2) 110 r2, iaW g (d 3) 110 r3, iaW g (d 4) 110 r4, iaW g (d 5) 880 r5, iaW g (d 6) 200 r6, iaW g (d 7) 60 r7, iaW g (d 8) 124 r8, doW g w2 dd]) (stk2 := [.int u2.1]) rfl rfl rfl ?_
  refine x_istore (lv' := [(6, .int u2.1), (0, .ref sb), (1, .ref (a 0)), (2, .ref (d 0)), (3, .ref w), (4, .ref w2), (5, .int i)]) C dL_law_397 (by decide) rfl ?_
  refine x_aload_n C dL_law_399 rfl 3 rfl ?_
  refine x_aload_n C dL_law_400 rfl 1 rfl ?_
  refine x_iload C dL_law_401 6 rfl ?_
  refine x_iconst (v := 1) C dL_law_403 (by decide) ?_
  refine x_iadd C dL_law_404 ?_
  obtain ⟨h3, hf⟩ := x_n hf
  refine x_sld C hX hbl hbA h3 dL_law_405 ?_
  obtain ⟨u4, hu4, hf⟩ := x_b hf
  refine x_callV (n := 1) (As := [.int (xs (i + (1 : Int32)).toNatClampNeg)]) (rest := []) C (c_X10_snuff g l d m r1 r2 r5 (xs (i + (1 : Int32)).toNatClampNeg) hu4) ⟨⟨wd_1607, wd_1604, wd_78⟩, ⟨by decide, by decide, by decide⟩, rfl, rfl, Nat.le_of_ble_eq_true rfl, Nat.le_of_ble_eq_true rfl⟩ wd_1605 wd_1606 ⟨0, 11, _, _, rfl, rfl, rfl⟩ [ccO g a b y z, stO g a 10 v, cdW g a 10 u2.2.1, evW g a 10 e, hiO g a u2.2.2.1, hrW g a t, stF g a u2.2.2.2.1, cdF g a u2.2.2.2.2.1, evF g a u2.2.2.2.2.2.1, loW g w u2.2.2.2.2.2.2, stO g a 20 v2, cdW g a 20 c2, evW g a 20 e2, stO g a 30 v3, cdW g a 30 c3, evW g a 30 e3, prO g b q, caW g b t2, cmF g b ws, sbO g y zz k, baW g zz n f, iaW g (d 3) 110 r3, iaW g (d 4) 110 r4, iaW g (d 6) 200 r6, iaW g (d 7) 60 r7, iaW g (d 8) 124 r8, doW g w2 dd] (x_pickD [21, 22, 23, 26, 0, 1, 2, 3, 4, 5, 6, 7, 8, 9, 10, 11, 12, 13, 14, 15, 16, 17, 18, 19, 20, 24, 25, 27, 28, 29, 30] 31 rfl rfl rfl) rfl rfl (Nat.le_of_ble_eq_true rfl) ⟨by omega, by omega⟩ dL_law_406 (x_goD (wss2 := [mdO g d u4.2.1, iaW g (d 1) 110 u4.2.2.1, iaW g (d 2) 110 u4.2.2.2.1, iaW g (d 5) 880 u4.2.2.2.2, ccO g a b y z, stO g a 10 v, cdW g a 10 u2.2.1, evW g a 10 e, hiO g a u2.2.2.1, hrW g a t, stF g a u2.2.2.2.1, cdF g a u2.2.2.2.2.1, evF g a u2.2.2.2.2.2.1, loW g w u2.2.2.2.2.2.2, stO g a 20 v2, cdW g a 20 c2, evW g a 20 e2, stO g a 30 v3, cdW g a 30 c3, evW g a 30 e3, prO g b q, caW g b t2, cmF g b ws, sbO g y zz k, baW g zz n f, iaW g (d 3) 110 r3, iaW g (d 4) 110 r4, iaW g (d 6) 200 r6, iaW g (d 7) 60 r7, iaW g (d 8) 124 r8, doW g w2 dd]) (stk2 := [.int u4.1]) rfl rfl ?_)
  refine x_istore (lv' := [(7, .int u4.1), (6, .int u2.1), (0, .ref sb), (1, .ref (a 0)), (2, .ref (d 0)), (3, .ref w), (4, .ref w2), (5, .int i)]) C dL_law_409 (by decide) rfl ?_
  refine x_aload_n C dL_law_411 rfl 4 rfl ?_
  obtain ⟨u5, hu5, hf⟩ := x_b hf
  refine x_callV (n := 0) (As := []) (rest := []) C (c_X10_thrown g l d u4.2.1 hu5) ⟨⟨wd_1550, wd_1547, wd_78⟩, ⟨by decide, by decide, by decide⟩, rfl, rfl, Nat.le_of_ble_eq_true rfl, Nat.le_of_ble_eq_true rfl⟩ wd_1548 wd_1549 ⟨0, 11, _, _, rfl, rfl, rfl⟩ [iaW g (d 1) 110 u4.2.2.1, iaW g (d 2) 110 u4.2.2.2.1, iaW g (d 5) 880 u4.2.2.2.2, ccO g a b y z, stO g a 10 v, cdW g a 10 u2.2.1, evW g a 10 e, hiO g a u2.2.2.1, hrW g a t, stF g a u2.2.2.2.1, cdF g a u2.2.2.2.2.1, evF g a u2.2.2.2.2.2.1, loW g w u2.2.2.2.2.2.2, stO g a 20 v2, cdW g a 20 c2, evW g a 20 e2, stO g a 30 v3, cdW g a 30 c3, evW g a 30 e3, prO g b q, caW g b t2, cmF g b ws, sbO g y zz k, baW g zz n f, iaW g (d 3) 110 r3, iaW g (d 4) 110 r4, iaW g (d 6) 200 r6, iaW g (d 7) 60 r7, iaW g (d 8) 124 r8, doW g w2 dd] (x_pickD [0, 1, 2, 3, 4, 5, 6, 7, 8, 9, 10, 11, 12, 13, 14, 15, 16, 17, 18, 19, 20, 21, 22, 23, 24, 25, 26, 27, 28, 29, 30] 31 rfl rfl rfl) rfl rfl (Nat.le_of_ble_eq_true rfl) ⟨by omega, by omega⟩ dL_law_412 (x_goD (wss2 := [mdO g d u4.2.1, iaW g (d 1) 110 u4.2.2.1, iaW g (d 2) 110 u4.2.2.2.1, iaW g (d 5) 880 u4.2.2.2.2, ccO g a b y z, stO g a 10 v, cdW g a 10 u2.2.1, evW g a 10 e, hiO g a u2.2.2.1, hrW g a t, stF g a u2.2.2.2.1, cdF g a u2.2.2.2.2.1, evF g a u2.2.2.2.2.2.1, loW g w u2.2.2.2.2.2.2, stO g a 20 v2, cdW g a 20 c2, evW g a 20 e2, stO g a 30 v3, cdW g a 30 c3, evW g a 30 e3, prO g b q, caW g b t2, cmF g b ws, sbO g y zz k, baW g zz n f, iaW g (d 3) 110 r3, iaW g (d 4) 110 r4, iaW g (d 6) 200 r6, iaW g (d 7) 60 r7, iaW g (d 8) 124 r8, doW g w2 dd]) (stk2 := [.int u5]) rfl rfl ?_)
  refine x_iload C dL_law_415 1 rfl ?_
  refine x_icmp_eq (tgt := 422) C dL_law_417 (by decide) (fun h6 => ?_) (fun h6 => ?_)
  · have hf := x_t h6 hf
    refine x_iload C dL_law_422 1 rfl ?_
    refine x_if_ne (tgt := 439) C dL_law_424 (by decide) (fun h7 => ?_) (fun h7 => ?_)
    · have hf := x_f h7 hf
      refine x_goto (tgt := 2256) C dL_law_439 (by decide) ?_
      refine x_perm (wss' := [ccO g a b y z, stO g a 10 v, cdW g a 10 u2.2.1, evW g a 10 e, stO g a 20 v2, cdW g a 20 c2, evW g a 20 e2, stO g a 30 v3, cdW g a 30 c3, evW g a 30 e3, hiO g a u2.2.2.1, hrW g a t, stF g a u2.2.2.2.1, cdF g a u2.2.2.2.2.1, evF g a u2.2.2.2.2.2.1, prO g b q, caW g b t2, cmF g b ws, sbO g y zz k, baW g zz n f, mdO g d u4.2.1, iaW g (d 1) 110 u4.2.2.1, iaW g (d 2) 110 u4.2.2.2.1, iaW g (d 3) 110 r3, iaW g (d 4) 110 r4, iaW g (d 5) 880 u4.2.2.2.2, iaW g (d 6) 200 r6, iaW g (d 7) 60 r7, iaW g (d 8) 124 r8, loW g w u2.2.2.2.2.2.2, doW g w2 dd]) (x_pick [4, 5, 6, 7, 14, 15, 16, 17, 18, 19, 8, 9, 10, 11, 12, 20, 21, 22, 23, 24, 0, 1, 2, 25, 26, 3, 27, 28, 29, 13, 30] 31 rfl rfl rfl) ?_
      refine x_locals (lv' := [(0, .ref sb), (1, .ref (a 0)), (2, .ref (d 0)), (3, .ref w), (4, .ref w2), (5, .int i)]) [2, 3, 4, 5, 6, 7] rfl ?_
      refine x_widen (k := cells + 292) (n := slots + 5516) (by omega) (by omega) ?_
      obtain rfl := Option.some.inj hf
      exact kk zz
    · have hf := x_t h7 hf
      refine x_aload_n C dL_law_427 rfl 5 rfl ?_
      refine x_iconst (v := 0) C dL_law_428 (by decide) ?_
      obtain ⟨h8, hf⟩ := x_n hf
      refine x_lald (b := loW g w u2.2.2.2.2.2.2) C 13 rfl 0 (loW_at0 g w _) h8 dL_law_429 ?_
      refine x_iload C dL_law_430 0 rfl ?_
      refine x_i2l C dL_law_432 rfl ?_
      refine x_lcmp C dL_law_433 ?_
      refine x_if_eq (tgt := 439) C dL_law_434 (by decide) (fun h9 => ?_) (fun h9 => ?_)
      · have hf := x_t h9 hf
        refine x_goto (tgt := 2256) C dL_law_439 (by decide) ?_
        refine x_perm (wss' := [ccO g a b y z, stO g a 10 v, cdW g a 10 u2.2.1, evW g a 10 e, stO g a 20 v2, cdW g a 20 c2, evW g a 20 e2, stO g a 30 v3, cdW g a 30 c3, evW g a 30 e3, hiO g a u2.2.2.1, hrW g a t, stF g a u2.2.2.2.1, cdF g a u2.2.2.2.2.1, evF g a u2.2.2.2.2.2.1, prO g b q, caW g b t2, cmF g b ws, sbO g y zz k, baW g zz n f, mdO g d u4.2.1, iaW g (d 1) 110 u4.2.2.1, iaW g (d 2) 110 u4.2.2.2.1, iaW g (d 3) 110 r3, iaW g (d 4) 110 r4, iaW g (d 5) 880 u4.2.2.2.2, iaW g (d 6) 200 r6, iaW g (d 7) 60 r7, iaW g (d 8) 124 r8, loW g w u2.2.2.2.2.2.2, doW g w2 dd]) (x_pick [4, 5, 6, 7, 14, 15, 16, 17, 18, 19, 8, 9, 10, 11, 12, 20, 21, 22, 23, 24, 0, 1, 2, 25, 26, 3, 27, 28, 29, 13, 30] 31 rfl rfl rfl) ?_
        refine x_locals (lv' := [(0, .ref sb), (1, .ref (a 0)), (2, .ref (d 0)), (3, .ref w), (4, .ref w2), (5, .int i)]) [2, 3, 4, 5, 6, 7] rfl ?_
        refine x_widen (k := cells + 292) (n := slots + 5516) (by omega) (by omega) ?_
        obtain rfl := Option.some.inj hf
        exact kk zz
      · have hf := x_f h9 hf
        cases hf
  · have hf := x_f h6 hf
    cases hf
set_option maxHeartbeats 4000000 in
set_option maxRecDepth 100000 in
theorem c_law_442 (a : Nat → Nat) (b : Nat → Nat) (y : Nat) (zz : Nat) (n : Nat) (d : Nat → Nat) (w : Nat) (w2 : Nat) (C : CX g RL cL_law 9 A pW sW mW argsW methW c9) (hl : l.stackTraces = false) (hX : va_X sb L xs sW sW.heap) (hbl : sb < sW.heap.size) (hbA : ¬ A sb) (hc : cells + 292 ≤ room_1.cells) (hs : slots + 5516 ≤ room_1.slots) (z : CcT) (v : StS) (c : CdT) (e : EvT) (v2 : StS) (c2 : CdT) (e2 : EvT) (v3 : StS) (c3 : CdT) (e3 : EvT) (h : HiT) (t : Unit) (vs : (Nat → StS)) (cs : (Nat → CdT)) (es : (Nat → EvT)) (q : PrT) (t2 : Unit) (ws : (Nat → CmT)) (k : SbT) (f : (Nat → Int32)) (m : MdT) (r1 : (Nat → Int32)) (r2 : (Nat → Int32)) (r3 : (Nat → Int32)) (r4 : (Nat → Int32)) (r5 : (Nat → Int32)) (r6 : (Nat → Int32)) (r7 : (Nat → Int32)) (r8 : (Nat → Int32)) (lo : (Nat → Int64)) (dd : (Nat → UInt64)) (i : Int32) {u : LwT} (hf : f_law_442 n L xs z v c e v2 c2 e2 v3 c3 e3 h t vs cs es q t2 ws k f m r1 r2 r3 r4 r5 r6 r7 r8 lo dd i = some u)
    (kk : ∀ zz' : Nat, VW g A 9 pW l eW room_1 sW mW argsW belowW methW c9 (cells + 292) (slots + 5516) Q [ccO g a b y u.1, stO g a 10 u.2.1, cdW g a 10 u.2.2.1, evW g a 10 u.2.2.2.1, stO g a 20 u.2.2.2.2.1, cdW g a 20 u.2.2.2.2.2.1, evW g a 20 u.2.2.2.2.2.2.1, stO g a 30 u.2.2.2.2.2.2.2.1, cdW g a 30 u.2.2.2.2.2.2.2.2.1, evW g a 30 u.2.2.2.2.2.2.2.2.2.1, hiO g a u.2.2.2.2.2.2.2.2.2.2.1, hrW g a u.2.2.2.2.2.2.2.2.2.2.2.1, stF g a u.2.2.2.2.2.2.2.2.2.2.2.2.1, cdF g a u.2.2.2.2.2.2.2.2.2.2.2.2.2.1, evF g a u.2.2.2.2.2.2.2.2.2.2.2.2.2.2.1, prO g b u.2.2.2.2.2.2.2.2.2.2.2.2.2.2.2.1, caW g b u.2.2.2.2.2.2.2.2.2.2.2.2.2.2.2.2.1, cmF g b u.2.2.2.2.2.2.2.2.2.2.2.2.2.2.2.2.2.1, sbO g y zz' u.2.2.2.2.2.2.2.2.2.2.2.2.2.2.2.2.2.2.1, baW g zz' u.2.2.2.2.2.2.2.2.2.2.2.2.2.2.2.2.2.2.2.2.2.2.2.2.2.2.2.2.2.2.2 u.2.2.2.2.2.2.2.2.2.2.2.2.2.2.2.2.2.2.2.1, mdO g d u.2.2.2.2.2.2.2.2.2.2.2.2.2.2.2.2.2.2.2.2.1, iaW g (d 1) 110 u.2.2.2.2.2.2.2.2.2.2.2.2.2.2.2.2.2.2.2.2.2.1, iaW g (d 2) 110 u.2.2.2.2.2.2.2.2.2.2.2.2.2.2.2.2.2.2.2.2.2.2.1, iaW g (d 3) 110 u.2.2.2.2.2.2.2.2.2.2.2.2.2.2.2.2.2.2.2.2.2.2.2.1, iaW g (d 4) 110 u.2.2.2.2.2.2.2.2.2.2.2.2.2.2.2.2.2.2.2.2.2.2.2.2.1, iaW g (d 5) 880 u.2.2.2.2.2.2.2.2.2.2.2.2.2.2.2.2.2.2.2.2.2.2.2.2.2.1, iaW g (d 6) 200 u.2.2.2.2.2.2.2.2.2.2.2.2.2.2.2.2.2.2.2.2.2.2.2.2.2.2.1, iaW g (d 7) 60 u.2.2.2.2.2.2.2.2.2.2.2.2.2.2.2.2.2.2.2.2.2.2.2.2.2.2.2.1, iaW g (d 8) 124 u.2.2.2.2.2.2.2.2.2.2.2.2.2.2.2.2.2.2.2.2.2.2.2.2.2.2.2.2.1, loW g w u.2.2.2.2.2.2.2.2.2.2.2.2.2.2.2.2.2.2.2.2.2.2.2.2.2.2.2.2.2.1, doW g w2 u.2.2.2.2.2.2.2.2.2.2.2.2.2.2.2.2.2.2.2.2.2.2.2.2.2.2.2.2.2.2.1] [(0, .ref sb), (1, .ref (a 0)), (2, .ref (d 0)), (3, .ref w), (4, .ref w2), (5, .int i)] 2256 []) : VW g A 9 pW l eW room_1 sW mW argsW belowW methW c9 cells slots Q [ccO g a b y z, stO g a 10 v, cdW g a 10 c, evW g a 10 e, stO g a 20 v2, cdW g a 20 c2, evW g a 20 e2, stO g a 30 v3, cdW g a 30 c3, evW g a 30 e3, hiO g a h, hrW g a t, stF g a vs, cdF g a cs, evF g a es, prO g b q, caW g b t2, cmF g b ws, sbO g y zz k, baW g zz n f, mdO g d m, iaW g (d 1) 110 r1, iaW g (d 2) 110 r2, iaW g (d 3) 110 r3, iaW g (d 4) 110 r4, iaW g (d 5) 880 r5, iaW g (d 6) 200 r6, iaW g (d 7) 60 r7, iaW g (d 8) 124 r8, loW g w lo, doW g w2 dd] [(0, .ref sb), (1, .ref (a 0)), (2, .ref (d 0)), (3, .ref w), (4, .ref w2), (5, .int i)] 442 [] := by
  unfold f_law_442 at hf
  have C : CX g RL cL_law 9 A pW sW mW argsW methW c9 := C
  refine x_aload_n C dL_law_442 rfl 1 rfl ?_
  refine x_aload_n C dL_law_443 rfl 0 rfl ?_
  refine x_iload C dL_law_444 5 rfl ?_
  refine x_iconst (v := 1) C dL_law_446 (by decide) ?_
  refine x_iadd C dL_law_447 ?_
  obtain ⟨h1, hf⟩ := x_n hf
  refine x_sld C hX hbl hbA h1 dL_law_448 ?_
  refine x_aload_n C dL_law_449 rfl 0 rfl ?_
  refine x_iload C dL_law_450 5 rfl ?_
  refine x_iconst (v := 2) C dL_law_452 (by decide) ?_
  refine x_iadd C dL_law_453 ?_
  obtain ⟨h2, hf⟩ := x_n hf
  refine x_sld C hX hbl hbA h2 dL_law_454 ?_
  refine x_aload_n C dL_law_455 rfl 3 rfl ?_
  obtain ⟨u3, hu3, hf⟩ := x_b hf
  refine x_hcallS (n := 4) (As := [.ref (a 0), .int (xs (i + (1 : Int32)).toNatClampNeg), .int (xs (i + (2 : Int32)).toNatClampNeg), .ref w]) (rest := []) C (c_L_pour g l hl a b y w z v c e h t vs cs es lo (xs (i + (1 : Int32)).toNatClampNeg) (xs (i + (2 : Int32)).toNatClampNeg) hu3) ⟨⟨wd_1028, wd_1026, wd_64⟩, ⟨by decide, by decide, by decide⟩, rfl, rfl, Nat.le_of_ble_eq_true rfl, Nat.le_of_ble_eq_true rfl⟩ wd_1027 [stO g a 20 v2, cdW g a 20 c2, evW g a 20 e2, stO g a 30 v3, cdW g a 30 c3, evW g a 30 e3, prO g b q, caW g b t2, cmF g b ws, sbO g y zz k, baW g zz n f, mdO g d m, iaW g (d 1) 110 r1, iaW g (d 2) 110 r2, iaW g (d 3) 110 r3, iaW g (d 4) 110 r4, iaW g (d 5) 880 r5, iaW g (d 6) 200 r6, iaW g (d 7) 60 r7, iaW g (d 8) 124 r8, doW g w2 dd] (x_pickD [0, 1, 2, 3, 10, 11, 12, 13, 14, 29, 4, 5, 6, 7, 8, 9, 15, 16, 17, 18, 19, 20, 21, 22, 23, 24, 25, 26, 27, 28, 30] 31 rfl rfl rfl) rfl rfl (Nat.le_of_ble_eq_true rfl) ⟨by omega, by omega⟩ dL_law_456 (fun v9 w9 hQ9 => ?_)
  obtain ⟨rfl, rfl⟩ := hQ9
  refine x_goW (wss2 := [ccO g a b y z, stO g a 10 u3.2.1, cdW g a 10 u3.2.2.1, evW g a 10 e, hiO g a u3.2.2.2.1, hrW g a t, stF g a u3.2.2.2.2.1, cdF g a u3.2.2.2.2.2.1, evF g a u3.2.2.2.2.2.2.1, loW g w u3.2.2.2.2.2.2.2, stO g a 20 v2, cdW g a 20 c2, evW g a 20 e2, stO g a 30 v3, cdW g a 30 c3, evW g a 30 e3, prO g b q, caW g b t2, cmF g b ws, sbO g y zz k, baW g zz n f, mdO g d m, iaW g (d 1) 110 r1, iaW g (d 2) 110 r2, iaW g (d 3) 110 r3, iaW g (d 4) 110 r4, iaW g (d 5) 880 r5, iaW g (d 6) 200 r6, iaW g (d 7) 60 r7, iaW g (d 8) 124 r8, doW g w2 dd]) (stk2 := [.int u3.1]) rfl rfl rfl ?_
  refine x_istore (lv' := [(6, .int u3.1), (0, .ref sb), (1, .ref (a 0)), (2, .ref (d 0)), (3, .ref w), (4, .ref w2), (5, .int i)]) C dL_law_459 (by decide) rfl ?_
  refine x_aload_n C dL_law_461 rfl 3 rfl ?_
  refine x_aload_n C dL_law_462 rfl 1 rfl ?_
  refine x_iload C dL_law_463 6 rfl ?_
  refine x_iconst (v := 1) C dL_law_465 (by decide) ?_
  refine x_iadd C dL_law_466 ?_
  obtain ⟨h4, hf⟩ := x_n hf
  refine x_sld C hX hbl hbA h4 dL_law_467 ?_
  refine x_aload_n C dL_law_468 rfl 1 rfl ?_
  refine x_iload C dL_law_469 6 rfl ?_
  refine x_iconst (v := 2) C dL_law_471 (by decide) ?_
  refine x_iadd C dL_law_472 ?_
  obtain ⟨h5, hf⟩ := x_n hf
  refine x_sld C hX hbl hbA h5 dL_law_473 ?_
  obtain ⟨u6, hu6, hf⟩ := x_b hf
  refine x_callV (n := 2) (As := [.int (xs (i + (1 : Int32)).toNatClampNeg), .int (xs (i + (2 : Int32)).toNatClampNeg)]) (rest := []) C (c_X10_pour g l d m r1 r2 r5 (xs (i + (1 : Int32)).toNatClampNeg) (xs (i + (2 : Int32)).toNatClampNeg) hu6) ⟨⟨wd_1615, wd_1612, wd_78⟩, ⟨by decide, by decide, by decide⟩, rfl, rfl, Nat.le_of_ble_eq_true rfl, Nat.le_of_ble_eq_true rfl⟩ wd_1613 wd_1614 ⟨0, 11, _, _, rfl, rfl, rfl⟩ [ccO g a b y z, stO g a 10 u3.2.1, cdW g a 10 u3.2.2.1, evW g a 10 e, hiO g a u3.2.2.2.1, hrW g a t, stF g a u3.2.2.2.2.1, cdF g a u3.2.2.2.2.2.1, evF g a u3.2.2.2.2.2.2.1, loW g w u3.2.2.2.2.2.2.2, stO g a 20 v2, cdW g a 20 c2, evW g a 20 e2, stO g a 30 v3, cdW g a 30 c3, evW g a 30 e3, prO g b q, caW g b t2, cmF g b ws, sbO g y zz k, baW g zz n f, iaW g (d 3) 110 r3, iaW g (d 4) 110 r4, iaW g (d 6) 200 r6, iaW g (d 7) 60 r7, iaW g (d 8) 124 r8, doW g w2 dd] (x_pickD [21, 22, 23, 26, 0, 1, 2, 3, 4, 5, 6, 7, 8, 9, 10, 11, 12, 13, 14, 15, 16, 17, 18, 19, 20, 24, 25, 27, 28, 29, 30] 31 rfl rfl rfl) rfl rfl (Nat.le_of_ble_eq_true rfl) ⟨by omega, by omega⟩ dL_law_474 (x_goD (wss2 := [mdO g d u6.2.1, iaW g (d 1) 110 u6.2.2.1, iaW g (d 2) 110 u6.2.2.2.1, iaW g (d 5) 880 u6.2.2.2.2, ccO g a b y z, stO g a 10 u3.2.1, cdW g a 10 u3.2.2.1, evW g a 10 e, hiO g a u3.2.2.2.1, hrW g a t, stF g a u3.2.2.2.2.1, cdF g a u3.2.2.2.2.2.1, evF g a u3.2.2.2.2.2.2.1, loW g w u3.2.2.2.2.2.2.2, stO g a 20 v2, cdW g a 20 c2, evW g a 20 e2, stO g a 30 v3, cdW g a 30 c3, evW g a 30 e3, prO g b q, caW g b t2, cmF g b ws, sbO g y zz k, baW g zz n f, iaW g (d 3) 110 r3, iaW g (d 4) 110 r4, iaW g (d 6) 200 r6, iaW g (d 7) 60 r7, iaW g (d 8) 124 r8, doW g w2 dd]) (stk2 := [.int u6.1]) rfl rfl ?_)
  refine x_istore (lv' := [(7, .int u6.1), (6, .int u3.1), (0, .ref sb), (1, .ref (a 0)), (2, .ref (d 0)), (3, .ref w), (4, .ref w2), (5, .int i)]) C dL_law_477 (by decide) rfl ?_
  refine x_aload_n C dL_law_479 rfl 4 rfl ?_
  obtain ⟨u7, hu7, hf⟩ := x_b hf
  refine x_callV (n := 0) (As := []) (rest := []) C (c_X10_thrown g l d u6.2.1 hu7) ⟨⟨wd_1550, wd_1547, wd_78⟩, ⟨by decide, by decide, by decide⟩, rfl, rfl, Nat.le_of_ble_eq_true rfl, Nat.le_of_ble_eq_true rfl⟩ wd_1548 wd_1549 ⟨0, 11, _, _, rfl, rfl, rfl⟩ [iaW g (d 1) 110 u6.2.2.1, iaW g (d 2) 110 u6.2.2.2.1, iaW g (d 5) 880 u6.2.2.2.2, ccO g a b y z, stO g a 10 u3.2.1, cdW g a 10 u3.2.2.1, evW g a 10 e, hiO g a u3.2.2.2.1, hrW g a t, stF g a u3.2.2.2.2.1, cdF g a u3.2.2.2.2.2.1, evF g a u3.2.2.2.2.2.2.1, loW g w u3.2.2.2.2.2.2.2, stO g a 20 v2, cdW g a 20 c2, evW g a 20 e2, stO g a 30 v3, cdW g a 30 c3, evW g a 30 e3, prO g b q, caW g b t2, cmF g b ws, sbO g y zz k, baW g zz n f, iaW g (d 3) 110 r3, iaW g (d 4) 110 r4, iaW g (d 6) 200 r6, iaW g (d 7) 60 r7, iaW g (d 8) 124 r8, doW g w2 dd] (x_pickD [0, 1, 2, 3, 4, 5, 6, 7, 8, 9, 10, 11, 12, 13, 14, 15, 16, 17, 18, 19, 20, 21, 22, 23, 24, 25, 26, 27, 28, 29, 30] 31 rfl rfl rfl) rfl rfl (Nat.le_of_ble_eq_true rfl) ⟨by omega, by omega⟩ dL_law_480 (x_goD (wss2 := [mdO g d u6.2.1, iaW g (d 1) 110 u6.2.2.1, iaW g (d 2) 110 u6.2.2.2.1, iaW g (d 5) 880 u6.2.2.2.2, ccO g a b y z, stO g a 10 u3.2.1, cdW g a 10 u3.2.2.1, evW g a 10 e, hiO g a u3.2.2.2.1, hrW g a t, stF g a u3.2.2.2.2.1, cdF g a u3.2.2.2.2.2.1, evF g a u3.2.2.2.2.2.2.1, loW g w u3.2.2.2.2.2.2.2, stO g a 20 v2, cdW g a 20 c2, evW g a 20 e2, stO g a 30 v3, cdW g a 30 c3, evW g a 30 e3, prO g b q, caW g b t2, cmF g b ws, sbO g y zz k, baW g zz n f, iaW g (d 3) 110 r3, iaW g (d 4) 110 r4, iaW g (d 6) 200 r6, iaW g (d 7) 60 r7, iaW g (d 8) 124 r8, doW g w2 dd]) (stk2 := [.int u7]) rfl rfl ?_)
  refine x_iload C dL_law_483 1 rfl ?_
  refine x_icmp_eq (tgt := 490) C dL_law_485 (by decide) (fun h8 => ?_) (fun h8 => ?_)
  · have hf := x_t h8 hf
    refine x_iload C dL_law_490 1 rfl ?_
    refine x_if_ne (tgt := 507) C dL_law_492 (by decide) (fun h9 => ?_) (fun h9 => ?_)
    · have hf := x_f h9 hf
      refine x_goto (tgt := 2256) C dL_law_507 (by decide) ?_
      refine x_perm (wss' := [ccO g a b y z, stO g a 10 u3.2.1, cdW g a 10 u3.2.2.1, evW g a 10 e, stO g a 20 v2, cdW g a 20 c2, evW g a 20 e2, stO g a 30 v3, cdW g a 30 c3, evW g a 30 e3, hiO g a u3.2.2.2.1, hrW g a t, stF g a u3.2.2.2.2.1, cdF g a u3.2.2.2.2.2.1, evF g a u3.2.2.2.2.2.2.1, prO g b q, caW g b t2, cmF g b ws, sbO g y zz k, baW g zz n f, mdO g d u6.2.1, iaW g (d 1) 110 u6.2.2.1, iaW g (d 2) 110 u6.2.2.2.1, iaW g (d 3) 110 r3, iaW g (d 4) 110 r4, iaW g (d 5) 880 u6.2.2.2.2, iaW g (d 6) 200 r6, iaW g (d 7) 60 r7, iaW g (d 8) 124 r8, loW g w u3.2.2.2.2.2.2.2, doW g w2 dd]) (x_pick [4, 5, 6, 7, 14, 15, 16, 17, 18, 19, 8, 9, 10, 11, 12, 20, 21, 22, 23, 24, 0, 1, 2, 25, 26, 3, 27, 28, 29, 13, 30] 31 rfl rfl rfl) ?_
      refine x_locals (lv' := [(0, .ref sb), (1, .ref (a 0)), (2, .ref (d 0)), (3, .ref w), (4, .ref w2), (5, .int i)]) [2, 3, 4, 5, 6, 7] rfl ?_
      refine x_widen (k := cells + 292) (n := slots + 5516) (by omega) (by omega) ?_
      obtain rfl := Option.some.inj hf
      exact kk zz
    · have hf := x_t h9 hf
      refine x_aload_n C dL_law_495 rfl 5 rfl ?_
      refine x_iconst (v := 0) C dL_law_496 (by decide) ?_
      obtain ⟨h10, hf⟩ := x_n hf
      refine x_lald (b := loW g w u3.2.2.2.2.2.2.2) C 13 rfl 0 (loW_at0 g w _) h10 dL_law_497 ?_
      refine x_iload C dL_law_498 0 rfl ?_
      refine x_i2l C dL_law_500 rfl ?_
      refine x_lcmp C dL_law_501 ?_
      refine x_if_eq (tgt := 507) C dL_law_502 (by decide) (fun h11 => ?_) (fun h11 => ?_)
      · have hf := x_t h11 hf
        refine x_goto (tgt := 2256) C dL_law_507 (by decide) ?_
        refine x_perm (wss' := [ccO g a b y z, stO g a 10 u3.2.1, cdW g a 10 u3.2.2.1, evW g a 10 e, stO g a 20 v2, cdW g a 20 c2, evW g a 20 e2, stO g a 30 v3, cdW g a 30 c3, evW g a 30 e3, hiO g a u3.2.2.2.1, hrW g a t, stF g a u3.2.2.2.2.1, cdF g a u3.2.2.2.2.2.1, evF g a u3.2.2.2.2.2.2.1, prO g b q, caW g b t2, cmF g b ws, sbO g y zz k, baW g zz n f, mdO g d u6.2.1, iaW g (d 1) 110 u6.2.2.1, iaW g (d 2) 110 u6.2.2.2.1, iaW g (d 3) 110 r3, iaW g (d 4) 110 r4, iaW g (d 5) 880 u6.2.2.2.2, iaW g (d 6) 200 r6, iaW g (d 7) 60 r7, iaW g (d 8) 124 r8, loW g w u3.2.2.2.2.2.2.2, doW g w2 dd]) (x_pick [4, 5, 6, 7, 14, 15, 16, 17, 18, 19, 8, 9, 10, 11, 12, 20, 21, 22, 23, 24, 0, 1, 2, 25, 26, 3, 27, 28, 29, 13, 30] 31 rfl rfl rfl) ?_
        refine x_locals (lv' := [(0, .ref sb), (1, .ref (a 0)), (2, .ref (d 0)), (3, .ref w), (4, .ref w2), (5, .int i)]) [2, 3, 4, 5, 6, 7] rfl ?_
        refine x_widen (k := cells + 292) (n := slots + 5516) (by omega) (by omega) ?_
        obtain rfl := Option.some.inj hf
        exact kk zz
      · have hf := x_f h11 hf
        cases hf
  · have hf := x_f h8 hf
    cases hf
set_option maxHeartbeats 4000000 in
set_option maxRecDepth 100000 in
theorem c_law_510 (a : Nat → Nat) (b : Nat → Nat) (y : Nat) (zz : Nat) (n : Nat) (d : Nat → Nat) (w : Nat) (w2 : Nat) (C : CX g RL cL_law 9 A pW sW mW argsW methW c9) (hl : l.stackTraces = false) (hX : va_X sb L xs sW sW.heap) (hbl : sb < sW.heap.size) (hbA : ¬ A sb) (hc : cells + 292 ≤ room_1.cells) (hs : slots + 5516 ≤ room_1.slots) (z : CcT) (v : StS) (c : CdT) (e : EvT) (v2 : StS) (c2 : CdT) (e2 : EvT) (v3 : StS) (c3 : CdT) (e3 : EvT) (h : HiT) (t : Unit) (vs : (Nat → StS)) (cs : (Nat → CdT)) (es : (Nat → EvT)) (q : PrT) (t2 : Unit) (ws : (Nat → CmT)) (k : SbT) (f : (Nat → Int32)) (m : MdT) (r1 : (Nat → Int32)) (r2 : (Nat → Int32)) (r3 : (Nat → Int32)) (r4 : (Nat → Int32)) (r5 : (Nat → Int32)) (r6 : (Nat → Int32)) (r7 : (Nat → Int32)) (r8 : (Nat → Int32)) (lo : (Nat → Int64)) (dd : (Nat → UInt64)) (i : Int32) {u : LwT} (hf : f_law_510 n L xs z v c e v2 c2 e2 v3 c3 e3 h t vs cs es q t2 ws k f m r1 r2 r3 r4 r5 r6 r7 r8 lo dd i = some u)
    (kk : ∀ zz' : Nat, VW g A 9 pW l eW room_1 sW mW argsW belowW methW c9 (cells + 292) (slots + 5516) Q [ccO g a b y u.1, stO g a 10 u.2.1, cdW g a 10 u.2.2.1, evW g a 10 u.2.2.2.1, stO g a 20 u.2.2.2.2.1, cdW g a 20 u.2.2.2.2.2.1, evW g a 20 u.2.2.2.2.2.2.1, stO g a 30 u.2.2.2.2.2.2.2.1, cdW g a 30 u.2.2.2.2.2.2.2.2.1, evW g a 30 u.2.2.2.2.2.2.2.2.2.1, hiO g a u.2.2.2.2.2.2.2.2.2.2.1, hrW g a u.2.2.2.2.2.2.2.2.2.2.2.1, stF g a u.2.2.2.2.2.2.2.2.2.2.2.2.1, cdF g a u.2.2.2.2.2.2.2.2.2.2.2.2.2.1, evF g a u.2.2.2.2.2.2.2.2.2.2.2.2.2.2.1, prO g b u.2.2.2.2.2.2.2.2.2.2.2.2.2.2.2.1, caW g b u.2.2.2.2.2.2.2.2.2.2.2.2.2.2.2.2.1, cmF g b u.2.2.2.2.2.2.2.2.2.2.2.2.2.2.2.2.2.1, sbO g y zz' u.2.2.2.2.2.2.2.2.2.2.2.2.2.2.2.2.2.2.1, baW g zz' u.2.2.2.2.2.2.2.2.2.2.2.2.2.2.2.2.2.2.2.2.2.2.2.2.2.2.2.2.2.2.2 u.2.2.2.2.2.2.2.2.2.2.2.2.2.2.2.2.2.2.2.1, mdO g d u.2.2.2.2.2.2.2.2.2.2.2.2.2.2.2.2.2.2.2.2.1, iaW g (d 1) 110 u.2.2.2.2.2.2.2.2.2.2.2.2.2.2.2.2.2.2.2.2.2.1, iaW g (d 2) 110 u.2.2.2.2.2.2.2.2.2.2.2.2.2.2.2.2.2.2.2.2.2.2.1, iaW g (d 3) 110 u.2.2.2.2.2.2.2.2.2.2.2.2.2.2.2.2.2.2.2.2.2.2.2.1, iaW g (d 4) 110 u.2.2.2.2.2.2.2.2.2.2.2.2.2.2.2.2.2.2.2.2.2.2.2.2.1, iaW g (d 5) 880 u.2.2.2.2.2.2.2.2.2.2.2.2.2.2.2.2.2.2.2.2.2.2.2.2.2.1, iaW g (d 6) 200 u.2.2.2.2.2.2.2.2.2.2.2.2.2.2.2.2.2.2.2.2.2.2.2.2.2.2.1, iaW g (d 7) 60 u.2.2.2.2.2.2.2.2.2.2.2.2.2.2.2.2.2.2.2.2.2.2.2.2.2.2.2.1, iaW g (d 8) 124 u.2.2.2.2.2.2.2.2.2.2.2.2.2.2.2.2.2.2.2.2.2.2.2.2.2.2.2.2.1, loW g w u.2.2.2.2.2.2.2.2.2.2.2.2.2.2.2.2.2.2.2.2.2.2.2.2.2.2.2.2.2.1, doW g w2 u.2.2.2.2.2.2.2.2.2.2.2.2.2.2.2.2.2.2.2.2.2.2.2.2.2.2.2.2.2.2.1] [(0, .ref sb), (1, .ref (a 0)), (2, .ref (d 0)), (3, .ref w), (4, .ref w2), (5, .int i)] 2256 []) : VW g A 9 pW l eW room_1 sW mW argsW belowW methW c9 cells slots Q [ccO g a b y z, stO g a 10 v, cdW g a 10 c, evW g a 10 e, stO g a 20 v2, cdW g a 20 c2, evW g a 20 e2, stO g a 30 v3, cdW g a 30 c3, evW g a 30 e3, hiO g a h, hrW g a t, stF g a vs, cdF g a cs, evF g a es, prO g b q, caW g b t2, cmF g b ws, sbO g y zz k, baW g zz n f, mdO g d m, iaW g (d 1) 110 r1, iaW g (d 2) 110 r2, iaW g (d 3) 110 r3, iaW g (d 4) 110 r4, iaW g (d 5) 880 r5, iaW g (d 6) 200 r6, iaW g (d 7) 60 r7, iaW g (d 8) 124 r8, loW g w lo, doW g w2 dd] [(0, .ref sb), (1, .ref (a 0)), (2, .ref (d 0)), (3, .ref w), (4, .ref w2), (5, .int i)] 510 [] := by
  unfold f_law_510 at hf
  have C : CX g RL cL_law 9 A pW sW mW argsW methW c9 := C
  refine x_aload_n C dL_law_510 rfl 1 rfl ?_
  refine x_aload_n C dL_law_511 rfl 0 rfl ?_
  refine x_iload C dL_law_512 5 rfl ?_
  refine x_iconst (v := 1) C dL_law_514 (by decide) ?_
  refine x_iadd C dL_law_515 ?_
  obtain ⟨h1, hf⟩ := x_n hf
  refine x_sld C hX hbl hbA h1 dL_law_516 ?_
  refine x_aload_n C dL_law_517 rfl 3 rfl ?_
  obtain ⟨u2, hu2, hf⟩ := x_b hf
  refine x_hcallS (n := 3) (As := [.ref (a 0), .int (xs (i + (1 : Int32)).toNatClampNeg), .ref w]) (rest := []) C (c_L_setDraught g l hl a b y w z v c e h t vs cs es lo (xs (i + (1 : Int32)).toNatClampNeg) hu2) ⟨⟨wd_1047, wd_1045, wd_64⟩, ⟨by decide, by decide, by decide⟩, rfl, rfl, Nat.le_of_ble_eq_true rfl, Nat.le_of_ble_eq_true rfl⟩ wd_1046 [stO g a 20 v2, cdW g a 20 c2, evW g a 20 e2, stO g a 30 v3, cdW g a 30 c3, evW g a 30 e3, prO g b q, caW g b t2, cmF g b ws, sbO g y zz k, baW g zz n f, mdO g d m, iaW g (d 1) 110 r1, iaW g (d 2) 110 r2, iaW g (d 3) 110 r3, iaW g (d 4) 110 r4, iaW g (d 5) 880 r5, iaW g (d 6) 200 r6, iaW g (d 7) 60 r7, iaW g (d 8) 124 r8, doW g w2 dd] (x_pickD [0, 1, 2, 3, 10, 11, 12, 13, 14, 29, 4, 5, 6, 7, 8, 9, 15, 16, 17, 18, 19, 20, 21, 22, 23, 24, 25, 26, 27, 28, 30] 31 rfl rfl rfl) rfl rfl (Nat.le_of_ble_eq_true rfl) ⟨by omega, by omega⟩ dL_law_518 (fun v9 w9 hQ9 => ?_)
  obtain ⟨rfl, rfl⟩ := hQ9
  refine x_goW (wss2 := [ccO g a b y z, stO g a 10 u2.2.1, cdW g a 10 c, evW g a 10 e, hiO g a u2.2.2.1, hrW g a t, stF g a u2.2.2.2.1, cdF g a u2.2.2.2.2.1, evF g a u2.2.2.2.2.2.1, loW g w u2.2.2.2.2.2.2, stO g a 20 v2, cdW g a 20 c2, evW g a 20 e2, stO g a 30 v3, cdW g a 30 c3, evW g a 30 e3, prO g b q, caW g b t2, cmF g b ws, sbO g y zz k, baW g zz n f, mdO g d m, iaW g (d 1) 110 r1, iaW g (d 2) 110 r2, iaW g (d 3) 110 r3, iaW g (d 4) 110 r4, iaW g (d 5) 880 r5, iaW g (d 6) 200 r6, iaW g (d 7) 60 r7, iaW g (d 8) 124 r8, doW g w2 dd]) (stk2 := [.int u2.1]) rfl rfl rfl ?_
  refine x_istore (lv' := [(6, .int u2.1), (0, .ref sb), (1, .ref (a 0)), (2, .ref (d 0)), (3, .ref w), (4, .ref w2), (5, .int i)]) C dL_law_521 (by decide) rfl ?_
  refine x_aload_n C dL_law_523 rfl 3 rfl ?_
  refine x_aload_n C dL_law_524 rfl 1 rfl ?_
  refine x_iload C dL_law_525 6 rfl ?_
  refine x_iconst (v := 1) C dL_law_527 (by decide) ?_
  refine x_iadd C dL_law_528 ?_
  obtain ⟨h3, hf⟩ := x_n hf
  refine x_sld C hX hbl hbA h3 dL_law_529 ?_
  obtain ⟨u4, hu4, hf⟩ := x_b hf
  refine x_callV (n := 1) (As := [.int (xs (i + (1 : Int32)).toNatClampNeg)]) (rest := []) C (c_X10_setDraught g l d m r1 r2 r5 (xs (i + (1 : Int32)).toNatClampNeg) hu4) ⟨⟨wd_1623, wd_1620, wd_78⟩, ⟨by decide, by decide, by decide⟩, rfl, rfl, Nat.le_of_ble_eq_true rfl, Nat.le_of_ble_eq_true rfl⟩ wd_1621 wd_1622 ⟨0, 11, _, _, rfl, rfl, rfl⟩ [ccO g a b y z, stO g a 10 u2.2.1, cdW g a 10 c, evW g a 10 e, hiO g a u2.2.2.1, hrW g a t, stF g a u2.2.2.2.1, cdF g a u2.2.2.2.2.1, evF g a u2.2.2.2.2.2.1, loW g w u2.2.2.2.2.2.2, stO g a 20 v2, cdW g a 20 c2, evW g a 20 e2, stO g a 30 v3, cdW g a 30 c3, evW g a 30 e3, prO g b q, caW g b t2, cmF g b ws, sbO g y zz k, baW g zz n f, iaW g (d 3) 110 r3, iaW g (d 4) 110 r4, iaW g (d 6) 200 r6, iaW g (d 7) 60 r7, iaW g (d 8) 124 r8, doW g w2 dd] (x_pickD [21, 22, 23, 26, 0, 1, 2, 3, 4, 5, 6, 7, 8, 9, 10, 11, 12, 13, 14, 15, 16, 17, 18, 19, 20, 24, 25, 27, 28, 29, 30] 31 rfl rfl rfl) rfl rfl (Nat.le_of_ble_eq_true rfl) ⟨by omega, by omega⟩ dL_law_530 (x_goD (wss2 := [mdO g d u4.2.1, iaW g (d 1) 110 u4.2.2.1, iaW g (d 2) 110 u4.2.2.2.1, iaW g (d 5) 880 u4.2.2.2.2, ccO g a b y z, stO g a 10 u2.2.1, cdW g a 10 c, evW g a 10 e, hiO g a u2.2.2.1, hrW g a t, stF g a u2.2.2.2.1, cdF g a u2.2.2.2.2.1, evF g a u2.2.2.2.2.2.1, loW g w u2.2.2.2.2.2.2, stO g a 20 v2, cdW g a 20 c2, evW g a 20 e2, stO g a 30 v3, cdW g a 30 c3, evW g a 30 e3, prO g b q, caW g b t2, cmF g b ws, sbO g y zz k, baW g zz n f, iaW g (d 3) 110 r3, iaW g (d 4) 110 r4, iaW g (d 6) 200 r6, iaW g (d 7) 60 r7, iaW g (d 8) 124 r8, doW g w2 dd]) (stk2 := [.int u4.1]) rfl rfl ?_)
  refine x_istore (lv' := [(7, .int u4.1), (6, .int u2.1), (0, .ref sb), (1, .ref (a 0)), (2, .ref (d 0)), (3, .ref w), (4, .ref w2), (5, .int i)]) C dL_law_533 (by decide) rfl ?_
  refine x_aload_n C dL_law_535 rfl 4 rfl ?_
  obtain ⟨u5, hu5, hf⟩ := x_b hf
  refine x_callV (n := 0) (As := []) (rest := []) C (c_X10_thrown g l d u4.2.1 hu5) ⟨⟨wd_1550, wd_1547, wd_78⟩, ⟨by decide, by decide, by decide⟩, rfl, rfl, Nat.le_of_ble_eq_true rfl, Nat.le_of_ble_eq_true rfl⟩ wd_1548 wd_1549 ⟨0, 11, _, _, rfl, rfl, rfl⟩ [iaW g (d 1) 110 u4.2.2.1, iaW g (d 2) 110 u4.2.2.2.1, iaW g (d 5) 880 u4.2.2.2.2, ccO g a b y z, stO g a 10 u2.2.1, cdW g a 10 c, evW g a 10 e, hiO g a u2.2.2.1, hrW g a t, stF g a u2.2.2.2.1, cdF g a u2.2.2.2.2.1, evF g a u2.2.2.2.2.2.1, loW g w u2.2.2.2.2.2.2, stO g a 20 v2, cdW g a 20 c2, evW g a 20 e2, stO g a 30 v3, cdW g a 30 c3, evW g a 30 e3, prO g b q, caW g b t2, cmF g b ws, sbO g y zz k, baW g zz n f, iaW g (d 3) 110 r3, iaW g (d 4) 110 r4, iaW g (d 6) 200 r6, iaW g (d 7) 60 r7, iaW g (d 8) 124 r8, doW g w2 dd] (x_pickD [0, 1, 2, 3, 4, 5, 6, 7, 8, 9, 10, 11, 12, 13, 14, 15, 16, 17, 18, 19, 20, 21, 22, 23, 24, 25, 26, 27, 28, 29, 30] 31 rfl rfl rfl) rfl rfl (Nat.le_of_ble_eq_true rfl) ⟨by omega, by omega⟩ dL_law_536 (x_goD (wss2 := [mdO g d u4.2.1, iaW g (d 1) 110 u4.2.2.1, iaW g (d 2) 110 u4.2.2.2.1, iaW g (d 5) 880 u4.2.2.2.2, ccO g a b y z, stO g a 10 u2.2.1, cdW g a 10 c, evW g a 10 e, hiO g a u2.2.2.1, hrW g a t, stF g a u2.2.2.2.1, cdF g a u2.2.2.2.2.1, evF g a u2.2.2.2.2.2.1, loW g w u2.2.2.2.2.2.2, stO g a 20 v2, cdW g a 20 c2, evW g a 20 e2, stO g a 30 v3, cdW g a 30 c3, evW g a 30 e3, prO g b q, caW g b t2, cmF g b ws, sbO g y zz k, baW g zz n f, iaW g (d 3) 110 r3, iaW g (d 4) 110 r4, iaW g (d 6) 200 r6, iaW g (d 7) 60 r7, iaW g (d 8) 124 r8, doW g w2 dd]) (stk2 := [.int u5]) rfl rfl ?_)
  refine x_iload C dL_law_539 1 rfl ?_
  refine x_icmp_eq (tgt := 546) C dL_law_541 (by decide) (fun h6 => ?_) (fun h6 => ?_)
  · have hf := x_t h6 hf
    refine x_iload C dL_law_546 1 rfl ?_
    refine x_if_ne (tgt := 563) C dL_law_548 (by decide) (fun h7 => ?_) (fun h7 => ?_)
    · have hf := x_f h7 hf
      refine x_goto (tgt := 2256) C dL_law_563 (by decide) ?_
      refine x_perm (wss' := [ccO g a b y z, stO g a 10 u2.2.1, cdW g a 10 c, evW g a 10 e, stO g a 20 v2, cdW g a 20 c2, evW g a 20 e2, stO g a 30 v3, cdW g a 30 c3, evW g a 30 e3, hiO g a u2.2.2.1, hrW g a t, stF g a u2.2.2.2.1, cdF g a u2.2.2.2.2.1, evF g a u2.2.2.2.2.2.1, prO g b q, caW g b t2, cmF g b ws, sbO g y zz k, baW g zz n f, mdO g d u4.2.1, iaW g (d 1) 110 u4.2.2.1, iaW g (d 2) 110 u4.2.2.2.1, iaW g (d 3) 110 r3, iaW g (d 4) 110 r4, iaW g (d 5) 880 u4.2.2.2.2, iaW g (d 6) 200 r6, iaW g (d 7) 60 r7, iaW g (d 8) 124 r8, loW g w u2.2.2.2.2.2.2, doW g w2 dd]) (x_pick [4, 5, 6, 7, 14, 15, 16, 17, 18, 19, 8, 9, 10, 11, 12, 20, 21, 22, 23, 24, 0, 1, 2, 25, 26, 3, 27, 28, 29, 13, 30] 31 rfl rfl rfl) ?_
      refine x_locals (lv' := [(0, .ref sb), (1, .ref (a 0)), (2, .ref (d 0)), (3, .ref w), (4, .ref w2), (5, .int i)]) [2, 3, 4, 5, 6, 7] rfl ?_
      refine x_widen (k := cells + 292) (n := slots + 5516) (by omega) (by omega) ?_
      obtain rfl := Option.some.inj hf
      exact kk zz
    · have hf := x_t h7 hf
      refine x_aload_n C dL_law_551 rfl 5 rfl ?_
      refine x_iconst (v := 0) C dL_law_552 (by decide) ?_
      obtain ⟨h8, hf⟩ := x_n hf
      refine x_lald (b := loW g w u2.2.2.2.2.2.2) C 13 rfl 0 (loW_at0 g w _) h8 dL_law_553 ?_
      refine x_iload C dL_law_554 0 rfl ?_
      refine x_i2l C dL_law_556 rfl ?_
      refine x_lcmp C dL_law_557 ?_
      refine x_if_eq (tgt := 563) C dL_law_558 (by decide) (fun h9 => ?_) (fun h9 => ?_)
      · have hf := x_t h9 hf
        refine x_goto (tgt := 2256) C dL_law_563 (by decide) ?_
        refine x_perm (wss' := [ccO g a b y z, stO g a 10 u2.2.1, cdW g a 10 c, evW g a 10 e, stO g a 20 v2, cdW g a 20 c2, evW g a 20 e2, stO g a 30 v3, cdW g a 30 c3, evW g a 30 e3, hiO g a u2.2.2.1, hrW g a t, stF g a u2.2.2.2.1, cdF g a u2.2.2.2.2.1, evF g a u2.2.2.2.2.2.1, prO g b q, caW g b t2, cmF g b ws, sbO g y zz k, baW g zz n f, mdO g d u4.2.1, iaW g (d 1) 110 u4.2.2.1, iaW g (d 2) 110 u4.2.2.2.1, iaW g (d 3) 110 r3, iaW g (d 4) 110 r4, iaW g (d 5) 880 u4.2.2.2.2, iaW g (d 6) 200 r6, iaW g (d 7) 60 r7, iaW g (d 8) 124 r8, loW g w u2.2.2.2.2.2.2, doW g w2 dd]) (x_pick [4, 5, 6, 7, 14, 15, 16, 17, 18, 19, 8, 9, 10, 11, 12, 20, 21, 22, 23, 24, 0, 1, 2, 25, 26, 3, 27, 28, 29, 13, 30] 31 rfl rfl rfl) ?_
        refine x_locals (lv' := [(0, .ref sb), (1, .ref (a 0)), (2, .ref (d 0)), (3, .ref w), (4, .ref w2), (5, .int i)]) [2, 3, 4, 5, 6, 7] rfl ?_
        refine x_widen (k := cells + 292) (n := slots + 5516) (by omega) (by omega) ?_
        obtain rfl := Option.some.inj hf
        exact kk zz
      · have hf := x_f h9 hf
        cases hf
  · have hf := x_f h6 hf
    cases hf
set_option maxHeartbeats 4000000 in
set_option maxRecDepth 100000 in
theorem c_law_566 (a : Nat → Nat) (b : Nat → Nat) (y : Nat) (zz : Nat) (n : Nat) (d : Nat → Nat) (w : Nat) (w2 : Nat) (C : CX g RL cL_law 9 A pW sW mW argsW methW c9) (hl : l.stackTraces = false) (hX : va_X sb L xs sW sW.heap) (hbl : sb < sW.heap.size) (hbA : ¬ A sb) (hc : cells + 292 ≤ room_1.cells) (hs : slots + 5516 ≤ room_1.slots) (z : CcT) (v : StS) (c : CdT) (e : EvT) (v2 : StS) (c2 : CdT) (e2 : EvT) (v3 : StS) (c3 : CdT) (e3 : EvT) (h : HiT) (t : Unit) (vs : (Nat → StS)) (cs : (Nat → CdT)) (es : (Nat → EvT)) (q : PrT) (t2 : Unit) (ws : (Nat → CmT)) (k : SbT) (f : (Nat → Int32)) (m : MdT) (r1 : (Nat → Int32)) (r2 : (Nat → Int32)) (r3 : (Nat → Int32)) (r4 : (Nat → Int32)) (r5 : (Nat → Int32)) (r6 : (Nat → Int32)) (r7 : (Nat → Int32)) (r8 : (Nat → Int32)) (lo : (Nat → Int64)) (dd : (Nat → UInt64)) (i : Int32) {u : LwT} (hf : f_law_566 n L xs z v c e v2 c2 e2 v3 c3 e3 h t vs cs es q t2 ws k f m r1 r2 r3 r4 r5 r6 r7 r8 lo dd i = some u)
    (kk : ∀ zz' : Nat, VW g A 9 pW l eW room_1 sW mW argsW belowW methW c9 (cells + 292) (slots + 5516) Q [ccO g a b y u.1, stO g a 10 u.2.1, cdW g a 10 u.2.2.1, evW g a 10 u.2.2.2.1, stO g a 20 u.2.2.2.2.1, cdW g a 20 u.2.2.2.2.2.1, evW g a 20 u.2.2.2.2.2.2.1, stO g a 30 u.2.2.2.2.2.2.2.1, cdW g a 30 u.2.2.2.2.2.2.2.2.1, evW g a 30 u.2.2.2.2.2.2.2.2.2.1, hiO g a u.2.2.2.2.2.2.2.2.2.2.1, hrW g a u.2.2.2.2.2.2.2.2.2.2.2.1, stF g a u.2.2.2.2.2.2.2.2.2.2.2.2.1, cdF g a u.2.2.2.2.2.2.2.2.2.2.2.2.2.1, evF g a u.2.2.2.2.2.2.2.2.2.2.2.2.2.2.1, prO g b u.2.2.2.2.2.2.2.2.2.2.2.2.2.2.2.1, caW g b u.2.2.2.2.2.2.2.2.2.2.2.2.2.2.2.2.1, cmF g b u.2.2.2.2.2.2.2.2.2.2.2.2.2.2.2.2.2.1, sbO g y zz' u.2.2.2.2.2.2.2.2.2.2.2.2.2.2.2.2.2.2.1, baW g zz' u.2.2.2.2.2.2.2.2.2.2.2.2.2.2.2.2.2.2.2.2.2.2.2.2.2.2.2.2.2.2.2 u.2.2.2.2.2.2.2.2.2.2.2.2.2.2.2.2.2.2.2.1, mdO g d u.2.2.2.2.2.2.2.2.2.2.2.2.2.2.2.2.2.2.2.2.1, iaW g (d 1) 110 u.2.2.2.2.2.2.2.2.2.2.2.2.2.2.2.2.2.2.2.2.2.1, iaW g (d 2) 110 u.2.2.2.2.2.2.2.2.2.2.2.2.2.2.2.2.2.2.2.2.2.2.1, iaW g (d 3) 110 u.2.2.2.2.2.2.2.2.2.2.2.2.2.2.2.2.2.2.2.2.2.2.2.1, iaW g (d 4) 110 u.2.2.2.2.2.2.2.2.2.2.2.2.2.2.2.2.2.2.2.2.2.2.2.2.1, iaW g (d 5) 880 u.2.2.2.2.2.2.2.2.2.2.2.2.2.2.2.2.2.2.2.2.2.2.2.2.2.1, iaW g (d 6) 200 u.2.2.2.2.2.2.2.2.2.2.2.2.2.2.2.2.2.2.2.2.2.2.2.2.2.2.1, iaW g (d 7) 60 u.2.2.2.2.2.2.2.2.2.2.2.2.2.2.2.2.2.2.2.2.2.2.2.2.2.2.2.1, iaW g (d 8) 124 u.2.2.2.2.2.2.2.2.2.2.2.2.2.2.2.2.2.2.2.2.2.2.2.2.2.2.2.2.1, loW g w u.2.2.2.2.2.2.2.2.2.2.2.2.2.2.2.2.2.2.2.2.2.2.2.2.2.2.2.2.2.1, doW g w2 u.2.2.2.2.2.2.2.2.2.2.2.2.2.2.2.2.2.2.2.2.2.2.2.2.2.2.2.2.2.2.1] [(0, .ref sb), (1, .ref (a 0)), (2, .ref (d 0)), (3, .ref w), (4, .ref w2), (5, .int i)] 2256 []) : VW g A 9 pW l eW room_1 sW mW argsW belowW methW c9 cells slots Q [ccO g a b y z, stO g a 10 v, cdW g a 10 c, evW g a 10 e, stO g a 20 v2, cdW g a 20 c2, evW g a 20 e2, stO g a 30 v3, cdW g a 30 c3, evW g a 30 e3, hiO g a h, hrW g a t, stF g a vs, cdF g a cs, evF g a es, prO g b q, caW g b t2, cmF g b ws, sbO g y zz k, baW g zz n f, mdO g d m, iaW g (d 1) 110 r1, iaW g (d 2) 110 r2, iaW g (d 3) 110 r3, iaW g (d 4) 110 r4, iaW g (d 5) 880 r5, iaW g (d 6) 200 r6, iaW g (d 7) 60 r7, iaW g (d 8) 124 r8, loW g w lo, doW g w2 dd] [(0, .ref sb), (1, .ref (a 0)), (2, .ref (d 0)), (3, .ref w), (4, .ref w2), (5, .int i)] 566 [] := by
  unfold f_law_566 at hf
  have C : CX g RL cL_law 9 A pW sW mW argsW methW c9 := C
  refine x_aload_n C dL_law_566 rfl 1 rfl ?_
  refine x_aload_n C dL_law_567 rfl 0 rfl ?_
  refine x_iload C dL_law_568 5 rfl ?_
  refine x_iconst (v := 1) C dL_law_570 (by decide) ?_
  refine x_iadd C dL_law_571 ?_
  obtain ⟨h1, hf⟩ := x_n hf
  refine x_sld C hX hbl hbA h1 dL_law_572 ?_
  refine x_aload_n C dL_law_573 rfl 0 rfl ?_
  refine x_iload C dL_law_574 5 rfl ?_
  refine x_iconst (v := 2) C dL_law_576 (by decide) ?_
  refine x_iadd C dL_law_577 ?_
  obtain ⟨h2, hf⟩ := x_n hf
  refine x_sld C hX hbl hbA h2 dL_law_578 ?_
  refine x_aload_n C dL_law_579 rfl 0 rfl ?_
  refine x_iload C dL_law_580 5 rfl ?_
  refine x_iconst (v := 3) C dL_law_582 (by decide) ?_
  refine x_iadd C dL_law_583 ?_
  obtain ⟨h3, hf⟩ := x_n hf
  refine x_sld C hX hbl hbA h3 dL_law_584 ?_
  refine x_if_eq (tgt := 592) C dL_law_585 (by decide) (fun h4 => ?_) (fun h4 => ?_)
  · have hf := x_t h4 hf
    refine x_iconst (v := 0) C dL_law_592 (by decide) ?_
    refine x_aload_n C dL_law_593 rfl 3 rfl ?_
    obtain ⟨u5, hu5, hf⟩ := x_b hf
    refine x_hcallS (n := 5) (As := [.ref (a 0), .int (xs (i + (1 : Int32)).toNatClampNeg), .int (xs (i + (2 : Int32)).toNatClampNeg), .int (0 : Int32), .ref w]) (rest := []) C (c_L_schedule g l hl a b y w z v c e h t vs cs es lo (xs (i + (1 : Int32)).toNatClampNeg) (xs (i + (2 : Int32)).toNatClampNeg) (0 : Int32) hu5) ⟨⟨wd_1062, wd_1060, wd_64⟩, ⟨by decide, by decide, by decide⟩, rfl, rfl, Nat.le_of_ble_eq_true rfl, Nat.le_of_ble_eq_true rfl⟩ wd_1061 [stO g a 20 v2, cdW g a 20 c2, evW g a 20 e2, stO g a 30 v3, cdW g a 30 c3, evW g a 30 e3, prO g b q, caW g b t2, cmF g b ws, sbO g y zz k, baW g zz n f, mdO g d m, iaW g (d 1) 110 r1, iaW g (d 2) 110 r2, iaW g (d 3) 110 r3, iaW g (d 4) 110 r4, iaW g (d 5) 880 r5, iaW g (d 6) 200 r6, iaW g (d 7) 60 r7, iaW g (d 8) 124 r8, doW g w2 dd] (x_pickD [0, 1, 2, 3, 10, 11, 12, 13, 14, 29, 4, 5, 6, 7, 8, 9, 15, 16, 17, 18, 19, 20, 21, 22, 23, 24, 25, 26, 27, 28, 30] 31 rfl rfl rfl) rfl rfl (Nat.le_of_ble_eq_true rfl) ⟨by omega, by omega⟩ dL_law_594 (fun v9 w9 hQ9 => ?_)
    obtain ⟨rfl, rfl⟩ := hQ9
    refine x_goW (wss2 := [ccO g a b y z, stO g a 10 v, cdW g a 10 c, evW g a 10 u5.2.1, hiO g a u5.2.2.1, hrW g a t, stF g a u5.2.2.2.1, cdF g a u5.2.2.2.2.1, evF g a u5.2.2.2.2.2.1, loW g w u5.2.2.2.2.2.2, stO g a 20 v2, cdW g a 20 c2, evW g a 20 e2, stO g a 30 v3, cdW g a 30 c3, evW g a 30 e3, prO g b q, caW g b t2, cmF g b ws, sbO g y zz k, baW g zz n f, mdO g d m, iaW g (d 1) 110 r1, iaW g (d 2) 110 r2, iaW g (d 3) 110 r3, iaW g (d 4) 110 r4, iaW g (d 5) 880 r5, iaW g (d 6) 200 r6, iaW g (d 7) 60 r7, iaW g (d 8) 124 r8, doW g w2 dd]) (stk2 := [.int u5.1]) rfl rfl rfl ?_
    refine x_istore (lv' := [(6, .int u5.1), (0, .ref sb), (1, .ref (a 0)), (2, .ref (d 0)), (3, .ref w), (4, .ref w2), (5, .int i)]) C dL_law_597 (by decide) rfl ?_
    refine x_aload_n C dL_law_599 rfl 3 rfl ?_
    refine x_aload_n C dL_law_600 rfl 1 rfl ?_
    refine x_iload C dL_law_601 6 rfl ?_
    refine x_iconst (v := 1) C dL_law_603 (by decide) ?_
    refine x_iadd C dL_law_604 ?_
    obtain ⟨h6, hf⟩ := x_n hf
    refine x_sld C hX hbl hbA h6 dL_law_605 ?_
    refine x_aload_n C dL_law_606 rfl 1 rfl ?_
    refine x_iload C dL_law_607 6 rfl ?_
    refine x_iconst (v := 2) C dL_law_609 (by decide) ?_
    refine x_iadd C dL_law_610 ?_
    obtain ⟨h7, hf⟩ := x_n hf
    refine x_sld C hX hbl hbA h7 dL_law_611 ?_
    refine x_aload_n C dL_law_612 rfl 1 rfl ?_
    refine x_iload C dL_law_613 6 rfl ?_
    refine x_iconst (v := 3) C dL_law_615 (by decide) ?_
    refine x_iadd C dL_law_616 ?_
    obtain ⟨h8, hf⟩ := x_n hf
    refine x_sld C hX hbl hbA h8 dL_law_617 ?_
    refine x_if_eq (tgt := 625) C dL_law_618 (by decide) (fun h9 => ?_) (fun h9 => ?_)
    · have hf := x_t h9 hf
      refine x_iconst (v := 0) C dL_law_625 (by decide) ?_
      obtain ⟨u10, hu10, hf⟩ := x_b hf
      refine x_callV (n := 3) (As := [.int (xs (i + (1 : Int32)).toNatClampNeg), .int (xs (i + (2 : Int32)).toNatClampNeg), .int (0 : Int32)]) (rest := []) C (c_X10_schedule g l d m r1 r2 r5 (xs (i + (1 : Int32)).toNatClampNeg) (xs (i + (2 : Int32)).toNatClampNeg) (0 : Int32) hu10) ⟨⟨wd_1631, wd_1628, wd_78⟩, ⟨by decide, by decide, by decide⟩, rfl, rfl, Nat.le_of_ble_eq_true rfl, Nat.le_of_ble_eq_true rfl⟩ wd_1629 wd_1630 ⟨0, 11, _, _, rfl, rfl, rfl⟩ [ccO g a b y z, stO g a 10 v, cdW g a 10 c, evW g a 10 u5.2.1, hiO g a u5.2.2.1, hrW g a t, stF g a u5.2.2.2.1, cdF g a u5.2.2.2.2.1, evF g a u5.2.2.2.2.2.1, loW g w u5.2.2.2.2.2.2, stO g a 20 v2, cdW g a 20 c2, evW g a 20 e2, stO g a 30 v3, cdW g a 30 c3, evW g a 30 e3, prO g b q, caW g b t2, cmF g b ws, sbO g y zz k, baW g zz n f, iaW g (d 3) 110 r3, iaW g (d 4) 110 r4, iaW g (d 6) 200 r6, iaW g (d 7) 60 r7, iaW g (d 8) 124 r8, doW g w2 dd] (x_pickD [21, 22, 23, 26, 0, 1, 2, 3, 4, 5, 6, 7, 8, 9, 10, 11, 12, 13, 14, 15, 16, 17, 18, 19, 20, 24, 25, 27, 28, 29, 30] 31 rfl rfl rfl) rfl rfl (Nat.le_of_ble_eq_true rfl) ⟨by omega, by omega⟩ dL_law_626 (x_goD (wss2 := [mdO g d u10.2.1, iaW g (d 1) 110 u10.2.2.1, iaW g (d 2) 110 u10.2.2.2.1, iaW g (d 5) 880 u10.2.2.2.2, ccO g a b y z, stO g a 10 v, cdW g a 10 c, evW g a 10 u5.2.1, hiO g a u5.2.2.1, hrW g a t, stF g a u5.2.2.2.1, cdF g a u5.2.2.2.2.1, evF g a u5.2.2.2.2.2.1, loW g w u5.2.2.2.2.2.2, stO g a 20 v2, cdW g a 20 c2, evW g a 20 e2, stO g a 30 v3, cdW g a 30 c3, evW g a 30 e3, prO g b q, caW g b t2, cmF g b ws, sbO g y zz k, baW g zz n f, iaW g (d 3) 110 r3, iaW g (d 4) 110 r4, iaW g (d 6) 200 r6, iaW g (d 7) 60 r7, iaW g (d 8) 124 r8, doW g w2 dd]) (stk2 := [.int u10.1]) rfl rfl ?_)
      refine x_istore (lv' := [(7, .int u10.1), (6, .int u5.1), (0, .ref sb), (1, .ref (a 0)), (2, .ref (d 0)), (3, .ref w), (4, .ref w2), (5, .int i)]) C dL_law_629 (by decide) rfl ?_
      refine x_aload_n C dL_law_631 rfl 4 rfl ?_
      obtain ⟨u11, hu11, hf⟩ := x_b hf
      refine x_callV (n := 0) (As := []) (rest := []) C (c_X10_thrown g l d u10.2.1 hu11) ⟨⟨wd_1550, wd_1547, wd_78⟩, ⟨by decide, by decide, by decide⟩, rfl, rfl, Nat.le_of_ble_eq_true rfl, Nat.le_of_ble_eq_true rfl⟩ wd_1548 wd_1549 ⟨0, 11, _, _, rfl, rfl, rfl⟩ [iaW g (d 1) 110 u10.2.2.1, iaW g (d 2) 110 u10.2.2.2.1, iaW g (d 5) 880 u10.2.2.2.2, ccO g a b y z, stO g a 10 v, cdW g a 10 c, evW g a 10 u5.2.1, hiO g a u5.2.2.1, hrW g a t, stF g a u5.2.2.2.1, cdF g a u5.2.2.2.2.1, evF g a u5.2.2.2.2.2.1, loW g w u5.2.2.2.2.2.2, stO g a 20 v2, cdW g a 20 c2, evW g a 20 e2, stO g a 30 v3, cdW g a 30 c3, evW g a 30 e3, prO g b q, caW g b t2, cmF g b ws, sbO g y zz k, baW g zz n f, iaW g (d 3) 110 r3, iaW g (d 4) 110 r4, iaW g (d 6) 200 r6, iaW g (d 7) 60 r7, iaW g (d 8) 124 r8, doW g w2 dd] (x_pickD [0, 1, 2, 3, 4, 5, 6, 7, 8, 9, 10, 11, 12, 13, 14, 15, 16, 17, 18, 19, 20, 21, 22, 23, 24, 25, 26, 27, 28, 29, 30] 31 rfl rfl rfl) rfl rfl (Nat.le_of_ble_eq_true rfl) ⟨by omega, by omega⟩ dL_law_632 (x_goD (wss2 := [mdO g d u10.2.1, iaW g (d 1) 110 u10.2.2.1, iaW g (d 2) 110 u10.2.2.2.1, iaW g (d 5) 880 u10.2.2.2.2, ccO g a b y z, stO g a 10 v, cdW g a 10 c, evW g a 10 u5.2.1, hiO g a u5.2.2.1, hrW g a t, stF g a u5.2.2.2.1, cdF g a u5.2.2.2.2.1, evF g a u5.2.2.2.2.2.1, loW g w u5.2.2.2.2.2.2, stO g a 20 v2, cdW g a 20 c2, evW g a 20 e2, stO g a 30 v3, cdW g a 30 c3, evW g a 30 e3, prO g b q, caW g b t2, cmF g b ws, sbO g y zz k, baW g zz n f, iaW g (d 3) 110 r3, iaW g (d 4) 110 r4, iaW g (d 6) 200 r6, iaW g (d 7) 60 r7, iaW g (d 8) 124 r8, doW g w2 dd]) (stk2 := [.int u11]) rfl rfl ?_)
      refine x_iload C dL_law_635 1 rfl ?_
      refine x_icmp_eq (tgt := 642) C dL_law_637 (by decide) (fun h12 => ?_) (fun h12 => ?_)
      · have hf := x_t h12 hf
        refine x_iload C dL_law_642 1 rfl ?_
        refine x_if_ne (tgt := 659) C dL_law_644 (by decide) (fun h13 => ?_) (fun h13 => ?_)
        · have hf := x_f h13 hf
          refine x_goto (tgt := 2256) C dL_law_659 (by decide) ?_
          refine x_perm (wss' := [ccO g a b y z, stO g a 10 v, cdW g a 10 c, evW g a 10 u5.2.1, stO g a 20 v2, cdW g a 20 c2, evW g a 20 e2, stO g a 30 v3, cdW g a 30 c3, evW g a 30 e3, hiO g a u5.2.2.1, hrW g a t, stF g a u5.2.2.2.1, cdF g a u5.2.2.2.2.1, evF g a u5.2.2.2.2.2.1, prO g b q, caW g b t2, cmF g b ws, sbO g y zz k, baW g zz n f, mdO g d u10.2.1, iaW g (d 1) 110 u10.2.2.1, iaW g (d 2) 110 u10.2.2.2.1, iaW g (d 3) 110 r3, iaW g (d 4) 110 r4, iaW g (d 5) 880 u10.2.2.2.2, iaW g (d 6) 200 r6, iaW g (d 7) 60 r7, iaW g (d 8) 124 r8, loW g w u5.2.2.2.2.2.2, doW g w2 dd]) (x_pick [4, 5, 6, 7, 14, 15, 16, 17, 18, 19, 8, 9, 10, 11, 12, 20, 21, 22, 23, 24, 0, 1, 2, 25, 26, 3, 27, 28, 29, 13, 30] 31 rfl rfl rfl) ?_
          refine x_locals (lv' := [(0, .ref sb), (1, .ref (a 0)), (2, .ref (d 0)), (3, .ref w), (4, .ref w2), (5, .int i)]) [2, 3, 4, 5, 6, 7] rfl ?_
          refine x_widen (k := cells + 292) (n := slots + 5516) (by omega) (by omega) ?_
          obtain rfl := Option.some.inj hf
          exact kk zz
        · have hf := x_t h13 hf
          refine x_aload_n C dL_law_647 rfl 5 rfl ?_
          refine x_iconst (v := 0) C dL_law_648 (by decide) ?_
          obtain ⟨h14, hf⟩ := x_n hf
          refine x_lald (b := loW g w u5.2.2.2.2.2.2) C 13 rfl 0 (loW_at0 g w _) h14 dL_law_649 ?_
          refine x_iload C dL_law_650 0 rfl ?_
          refine x_i2l C dL_law_652 rfl ?_
          refine x_lcmp C dL_law_653 ?_
          refine x_if_eq (tgt := 659) C dL_law_654 (by decide) (fun h15 => ?_) (fun h15 => ?_)
          · have hf := x_t h15 hf
            refine x_goto (tgt := 2256) C dL_law_659 (by decide) ?_
            refine x_perm (wss' := [ccO g a b y z, stO g a 10 v, cdW g a 10 c, evW g a 10 u5.2.1, stO g a 20 v2, cdW g a 20 c2, evW g a 20 e2, stO g a 30 v3, cdW g a 30 c3, evW g a 30 e3, hiO g a u5.2.2.1, hrW g a t, stF g a u5.2.2.2.1, cdF g a u5.2.2.2.2.1, evF g a u5.2.2.2.2.2.1, prO g b q, caW g b t2, cmF g b ws, sbO g y zz k, baW g zz n f, mdO g d u10.2.1, iaW g (d 1) 110 u10.2.2.1, iaW g (d 2) 110 u10.2.2.2.1, iaW g (d 3) 110 r3, iaW g (d 4) 110 r4, iaW g (d 5) 880 u10.2.2.2.2, iaW g (d 6) 200 r6, iaW g (d 7) 60 r7, iaW g (d 8) 124 r8, loW g w u5.2.2.2.2.2.2, doW g w2 dd]) (x_pick [4, 5, 6, 7, 14, 15, 16, 17, 18, 19, 8, 9, 10, 11, 12, 20, 21, 22, 23, 24, 0, 1, 2, 25, 26, 3, 27, 28, 29, 13, 30] 31 rfl rfl rfl) ?_
            refine x_locals (lv' := [(0, .ref sb), (1, .ref (a 0)), (2, .ref (d 0)), (3, .ref w), (4, .ref w2), (5, .int i)]) [2, 3, 4, 5, 6, 7] rfl ?_
            refine x_widen (k := cells + 292) (n := slots + 5516) (by omega) (by omega) ?_
            obtain rfl := Option.some.inj hf
            exact kk zz
          · have hf := x_f h15 hf
            cases hf
      · have hf := x_f h12 hf
        cases hf
    · have hf := x_f h9 hf
      refine x_iconst (v := 1) C dL_law_621 (by decide) ?_
      refine x_goto (tgt := 626) C dL_law_622 (by decide) ?_
      obtain ⟨u16, hu16, hf⟩ := x_b hf
      refine x_callV (n := 3) (As := [.int (xs (i + (1 : Int32)).toNatClampNeg), .int (xs (i + (2 : Int32)).toNatClampNeg), .int (1 : Int32)]) (rest := []) C (c_X10_schedule g l d m r1 r2 r5 (xs (i + (1 : Int32)).toNatClampNeg) (xs (i + (2 : Int32)).toNatClampNeg) (1 : Int32) hu16) ⟨⟨wd_1631, wd_1628, wd_78⟩, ⟨by decide, by decide, by decide⟩, rfl, rfl, Nat.le_of_ble_eq_true rfl, Nat.le_of_ble_eq_true rfl⟩ wd_1629 wd_1630 ⟨0, 11, _, _, rfl, rfl, rfl⟩ [ccO g a b y z, stO g a 10 v, cdW g a 10 c, evW g a 10 u5.2.1, hiO g a u5.2.2.1, hrW g a t, stF g a u5.2.2.2.1, cdF g a u5.2.2.2.2.1, evF g a u5.2.2.2.2.2.1, loW g w u5.2.2.2.2.2.2, stO g a 20 v2, cdW g a 20 c2, evW g a 20 e2, stO g a 30 v3, cdW g a 30 c3, evW g a 30 e3, prO g b q, caW g b t2, cmF g b ws, sbO g y zz k, baW g zz n f, iaW g (d 3) 110 r3, iaW g (d 4) 110 r4, iaW g (d 6) 200 r6, iaW g (d 7) 60 r7, iaW g (d 8) 124 r8, doW g w2 dd] (x_pickD [21, 22, 23, 26, 0, 1, 2, 3, 4, 5, 6, 7, 8, 9, 10, 11, 12, 13, 14, 15, 16, 17, 18, 19, 20, 24, 25, 27, 28, 29, 30] 31 rfl rfl rfl) rfl rfl (Nat.le_of_ble_eq_true rfl) ⟨by omega, by omega⟩ dL_law_626 (x_goD (wss2 := [mdO g d u16.2.1, iaW g (d 1) 110 u16.2.2.1, iaW g (d 2) 110 u16.2.2.2.1, iaW g (d 5) 880 u16.2.2.2.2, ccO g a b y z, stO g a 10 v, cdW g a 10 c, evW g a 10 u5.2.1, hiO g a u5.2.2.1, hrW g a t, stF g a u5.2.2.2.1, cdF g a u5.2.2.2.2.1, evF g a u5.2.2.2.2.2.1, loW g w u5.2.2.2.2.2.2, stO g a 20 v2, cdW g a 20 c2, evW g a 20 e2, stO g a 30 v3, cdW g a 30 c3, evW g a 30 e3, prO g b q, caW g b t2, cmF g b ws, sbO g y zz k, baW g zz n f, iaW g (d 3) 110 r3, iaW g (d 4) 110 r4, iaW g (d 6) 200 r6, iaW g (d 7) 60 r7, iaW g (d 8) 124 r8, doW g w2 dd]) (stk2 := [.int u16.1]) rfl rfl ?_)
      refine x_istore (lv' := [(7, .int u16.1), (6, .int u5.1), (0, .ref sb), (1, .ref (a 0)), (2, .ref (d 0)), (3, .ref w), (4, .ref w2), (5, .int i)]) C dL_law_629 (by decide) rfl ?_
      refine x_aload_n C dL_law_631 rfl 4 rfl ?_
      obtain ⟨u17, hu17, hf⟩ := x_b hf
      refine x_callV (n := 0) (As := []) (rest := []) C (c_X10_thrown g l d u16.2.1 hu17) ⟨⟨wd_1550, wd_1547, wd_78⟩, ⟨by decide, by decide, by decide⟩, rfl, rfl, Nat.le_of_ble_eq_true rfl, Nat.le_of_ble_eq_true rfl⟩ wd_1548 wd_1549 ⟨0, 11, _, _, rfl, rfl, rfl⟩ [iaW g (d 1) 110 u16.2.2.1, iaW g (d 2) 110 u16.2.2.2.1, iaW g (d 5) 880 u16.2.2.2.2, ccO g a b y z, stO g a 10 v, cdW g a 10 c, evW g a 10 u5.2.1, hiO g a u5.2.2.1, hrW g a t, stF g a u5.2.2.2.1, cdF g a u5.2.2.2.2.1, evF g a u5.2.2.2.2.2.1, loW g w u5.2.2.2.2.2.2, stO g a 20 v2, cdW g a 20 c2, evW g a 20 e2, stO g a 30 v3, cdW g a 30 c3, evW g a 30 e3, prO g b q, caW g b t2, cmF g b ws, sbO g y zz k, baW g zz n f, iaW g (d 3) 110 r3, iaW g (d 4) 110 r4, iaW g (d 6) 200 r6, iaW g (d 7) 60 r7, iaW g (d 8) 124 r8, doW g w2 dd] (x_pickD [0, 1, 2, 3, 4, 5, 6, 7, 8, 9, 10, 11, 12, 13, 14, 15, 16, 17, 18, 19, 20, 21, 22, 23, 24, 25, 26, 27, 28, 29, 30] 31 rfl rfl rfl) rfl rfl (Nat.le_of_ble_eq_true rfl) ⟨by omega, by omega⟩ dL_law_632 (x_goD (wss2 := [mdO g d u16.2.1, iaW g (d 1) 110 u16.2.2.1, iaW g (d 2) 110 u16.2.2.2.1, iaW g (d 5) 880 u16.2.2.2.2, ccO g a b y z, stO g a 10 v, cdW g a 10 c, evW g a 10 u5.2.1, hiO g a u5.2.2.1, hrW g a t, stF g a u5.2.2.2.1, cdF g a u5.2.2.2.2.1, evF g a u5.2.2.2.2.2.1, loW g w u5.2.2.2.2.2.2, stO g a 20 v2, cdW g a 20 c2, evW g a 20 e2, stO g a 30 v3, cdW g a 30 c3, evW g a 30 e3, prO g b q, caW g b t2, cmF g b ws, sbO g y zz k, baW g zz n f, iaW g (d 3) 110 r3, iaW g (d 4) 110 r4, iaW g (d 6) 200 r6, iaW g (d 7) 60 r7, iaW g (d 8) 124 r8, doW g w2 dd]) (stk2 := [.int u17]) rfl rfl ?_)
      refine x_iload C dL_law_635 1 rfl ?_
      refine x_icmp_eq (tgt := 642) C dL_law_637 (by decide) (fun h18 => ?_) (fun h18 => ?_)
      · have hf := x_t h18 hf
        refine x_iload C dL_law_642 1 rfl ?_
        refine x_if_ne (tgt := 659) C dL_law_644 (by decide) (fun h19 => ?_) (fun h19 => ?_)
        · have hf := x_f h19 hf
          refine x_goto (tgt := 2256) C dL_law_659 (by decide) ?_
          refine x_perm (wss' := [ccO g a b y z, stO g a 10 v, cdW g a 10 c, evW g a 10 u5.2.1, stO g a 20 v2, cdW g a 20 c2, evW g a 20 e2, stO g a 30 v3, cdW g a 30 c3, evW g a 30 e3, hiO g a u5.2.2.1, hrW g a t, stF g a u5.2.2.2.1, cdF g a u5.2.2.2.2.1, evF g a u5.2.2.2.2.2.1, prO g b q, caW g b t2, cmF g b ws, sbO g y zz k, baW g zz n f, mdO g d u16.2.1, iaW g (d 1) 110 u16.2.2.1, iaW g (d 2) 110 u16.2.2.2.1, iaW g (d 3) 110 r3, iaW g (d 4) 110 r4, iaW g (d 5) 880 u16.2.2.2.2, iaW g (d 6) 200 r6, iaW g (d 7) 60 r7, iaW g (d 8) 124 r8, loW g w u5.2.2.2.2.2.2, doW g w2 dd]) (x_pick [4, 5, 6, 7, 14, 15, 16, 17, 18, 19, 8, 9, 10, 11, 12, 20, 21, 22, 23, 24, 0, 1, 2, 25, 26, 3, 27, 28, 29, 13, 30] 31 rfl rfl rfl) ?_
          refine x_locals (lv' := [(0, .ref sb), (1, .ref (a 0)), (2, .ref (d 0)), (3, .ref w), (4, .ref w2), (5, .int i)]) [2, 3, 4, 5, 6, 7] rfl ?_
          refine x_widen (k := cells + 292) (n := slots + 5516) (by omega) (by omega) ?_
          obtain rfl := Option.some.inj hf
          exact kk zz
        · have hf := x_t h19 hf
          refine x_aload_n C dL_law_647 rfl 5 rfl ?_
          refine x_iconst (v := 0) C dL_law_648 (by decide) ?_
          obtain ⟨h20, hf⟩ := x_n hf
          refine x_lald (b := loW g w u5.2.2.2.2.2.2) C 13 rfl 0 (loW_at0 g w _) h20 dL_law_649 ?_
          refine x_iload C dL_law_650 0 rfl ?_
          refine x_i2l C dL_law_652 rfl ?_
          refine x_lcmp C dL_law_653 ?_
          refine x_if_eq (tgt := 659) C dL_law_654 (by decide) (fun h21 => ?_) (fun h21 => ?_)
          · have hf := x_t h21 hf
            refine x_goto (tgt := 2256) C dL_law_659 (by decide) ?_
            refine x_perm (wss' := [ccO g a b y z, stO g a 10 v, cdW g a 10 c, evW g a 10 u5.2.1, stO g a 20 v2, cdW g a 20 c2, evW g a 20 e2, stO g a 30 v3, cdW g a 30 c3, evW g a 30 e3, hiO g a u5.2.2.1, hrW g a t, stF g a u5.2.2.2.1, cdF g a u5.2.2.2.2.1, evF g a u5.2.2.2.2.2.1, prO g b q, caW g b t2, cmF g b ws, sbO g y zz k, baW g zz n f, mdO g d u16.2.1, iaW g (d 1) 110 u16.2.2.1, iaW g (d 2) 110 u16.2.2.2.1, iaW g (d 3) 110 r3, iaW g (d 4) 110 r4, iaW g (d 5) 880 u16.2.2.2.2, iaW g (d 6) 200 r6, iaW g (d 7) 60 r7, iaW g (d 8) 124 r8, loW g w u5.2.2.2.2.2.2, doW g w2 dd]) (x_pick [4, 5, 6, 7, 14, 15, 16, 17, 18, 19, 8, 9, 10, 11, 12, 20, 21, 22, 23, 24, 0, 1, 2, 25, 26, 3, 27, 28, 29, 13, 30] 31 rfl rfl rfl) ?_
            refine x_locals (lv' := [(0, .ref sb), (1, .ref (a 0)), (2, .ref (d 0)), (3, .ref w), (4, .ref w2), (5, .int i)]) [2, 3, 4, 5, 6, 7] rfl ?_
            refine x_widen (k := cells + 292) (n := slots + 5516) (by omega) (by omega) ?_
            obtain rfl := Option.some.inj hf
            exact kk zz
          · have hf := x_f h21 hf
            cases hf
      · have hf := x_f h18 hf
        cases hf
  · have hf := x_f h4 hf
    refine x_iconst (v := 1) C dL_law_588 (by decide) ?_
    refine x_goto (tgt := 593) C dL_law_589 (by decide) ?_
    refine x_aload_n C dL_law_593 rfl 3 rfl ?_
    obtain ⟨u22, hu22, hf⟩ := x_b hf
    refine x_hcallS (n := 5) (As := [.ref (a 0), .int (xs (i + (1 : Int32)).toNatClampNeg), .int (xs (i + (2 : Int32)).toNatClampNeg), .int (1 : Int32), .ref w]) (rest := []) C (c_L_schedule g l hl a b y w z v c e h t vs cs es lo (xs (i + (1 : Int32)).toNatClampNeg) (xs (i + (2 : Int32)).toNatClampNeg) (1 : Int32) hu22) ⟨⟨wd_1062, wd_1060, wd_64⟩, ⟨by decide, by decide, by decide⟩, rfl, rfl, Nat.le_of_ble_eq_true rfl, Nat.le_of_ble_eq_true rfl⟩ wd_1061 [stO g a 20 v2, cdW g a 20 c2, evW g a 20 e2, stO g a 30 v3, cdW g a 30 c3, evW g a 30 e3, prO g b q, caW g b t2, cmF g b ws, sbO g y zz k, baW g zz n f, mdO g d m, iaW g (d 1) 110 r1, iaW g (d 2) 110 r2, iaW g (d 3) 110 r3, iaW g (d 4) 110 r4, iaW g (d 5) 880 r5, iaW g (d 6) 200 r6, iaW g (d 7) 60 r7, iaW g (d 8) 124 r8, doW g w2 dd] (x_pickD [0, 1, 2, 3, 10, 11, 12, 13, 14, 29, 4, 5, 6, 7, 8, 9, 15, 16, 17, 18, 19, 20, 21, 22, 23, 24, 25, 26, 27, 28, 30] 31 rfl rfl rfl) rfl rfl (Nat.le_of_ble_eq_true rfl) ⟨by omega, by omega⟩ dL_law_594 (fun v9 w9 hQ9 => ?_)
    obtain ⟨rfl, rfl⟩ := hQ9
    refine x_goW (wss2 := [ccO g a b y z, stO g a 10 v, cdW g a 10 c, evW g a 10 u22.2.1, hiO g a u22.2.2.1, hrW g a t, stF g a u22.2.2.2.1, cdF g a u22.2.2.2.2.1, evF g a u22.2.2.2.2.2.1, loW g w u22.2.2.2.2.2.2, stO g a 20 v2, cdW g a 20 c2, evW g a 20 e2, stO g a 30 v3, cdW g a 30 c3, evW g a 30 e3, prO g b q, caW g b t2, cmF g b ws, sbO g y zz k, baW g zz n f, mdO g d m, iaW g (d 1) 110 r1, iaW g (d 2) 110 r2, iaW g (d 3) 110 r3, iaW g (d 4) 110 r4, iaW g (d 5) 880 r5, iaW g (d 6) 200 r6, iaW g (d 7) 60 r7, iaW g (d 8) 124 r8, doW g w2 dd]) (stk2 := [.int u22.1]) rfl rfl rfl ?_
    refine x_istore (lv' := [(6, .int u22.1), (0, .ref sb), (1, .ref (a 0)), (2, .ref (d 0)), (3, .ref w), (4, .ref w2), (5, .int i)]) C dL_law_597 (by decide) rfl ?_
    refine x_aload_n C dL_law_599 rfl 3 rfl ?_
    refine x_aload_n C dL_law_600 rfl 1 rfl ?_
    refine x_iload C dL_law_601 6 rfl ?_
    refine x_iconst (v := 1) C dL_law_603 (by decide) ?_
    refine x_iadd C dL_law_604 ?_
    obtain ⟨h23, hf⟩ := x_n hf
    refine x_sld C hX hbl hbA h23 dL_law_605 ?_
    refine x_aload_n C dL_law_606 rfl 1 rfl ?_
    refine x_iload C dL_law_607 6 rfl ?_
    refine x_iconst (v := 2) C dL_law_609 (by decide) ?_
    refine x_iadd C dL_law_610 ?_
    obtain ⟨h24, hf⟩ := x_n hf
    refine x_sld C hX hbl hbA h24 dL_law_611 ?_
    refine x_aload_n C dL_law_612 rfl 1 rfl ?_
    refine x_iload C dL_law_613 6 rfl ?_
    refine x_iconst (v := 3) C dL_law_615 (by decide) ?_
    refine x_iadd C dL_law_616 ?_
    obtain ⟨h25, hf⟩ := x_n hf
    refine x_sld C hX hbl hbA h25 dL_law_617 ?_
    refine x_if_eq (tgt := 625) C dL_law_618 (by decide) (fun h26 => ?_) (fun h26 => ?_)
    · have hf := x_t h26 hf
      refine x_iconst (v := 0) C dL_law_625 (by decide) ?_
      obtain ⟨u27, hu27, hf⟩ := x_b hf
      refine x_callV (n := 3) (As := [.int (xs (i + (1 : Int32)).toNatClampNeg), .int (xs (i + (2 : Int32)).toNatClampNeg), .int (0 : Int32)]) (rest := []) C (c_X10_schedule g l d m r1 r2 r5 (xs (i + (1 : Int32)).toNatClampNeg) (xs (i + (2 : Int32)).toNatClampNeg) (0 : Int32) hu27) ⟨⟨wd_1631, wd_1628, wd_78⟩, ⟨by decide, by decide, by decide⟩, rfl, rfl, Nat.le_of_ble_eq_true rfl, Nat.le_of_ble_eq_true rfl⟩ wd_1629 wd_1630 ⟨0, 11, _, _, rfl, rfl, rfl⟩ [ccO g a b y z, stO g a 10 v, cdW g a 10 c, evW g a 10 u22.2.1, hiO g a u22.2.2.1, hrW g a t, stF g a u22.2.2.2.1, cdF g a u22.2.2.2.2.1, evF g a u22.2.2.2.2.2.1, loW g w u22.2.2.2.2.2.2, stO g a 20 v2, cdW g a 20 c2, evW g a 20 e2, stO g a 30 v3, cdW g a 30 c3, evW g a 30 e3, prO g b q, caW g b t2, cmF g b ws, sbO g y zz k, baW g zz n f, iaW g (d 3) 110 r3, iaW g (d 4) 110 r4, iaW g (d 6) 200 r6, iaW g (d 7) 60 r7, iaW g (d 8) 124 r8, doW g w2 dd] (x_pickD [21, 22, 23, 26, 0, 1, 2, 3, 4, 5, 6, 7, 8, 9, 10, 11, 12, 13, 14, 15, 16, 17, 18, 19, 20, 24, 25, 27, 28, 29, 30] 31 rfl rfl rfl) rfl rfl (Nat.le_of_ble_eq_true rfl) ⟨by omega, by omega⟩ dL_law_626 (x_goD (wss2 := [mdO g d u27.2.1, iaW g (d 1) 110 u27.2.2.1, iaW g (d 2) 110 u27.2.2.2.1, iaW g (d 5) 880 u27.2.2.2.2, ccO g a b y z, stO g a 10 v, cdW g a 10 c, evW g a 10 u22.2.1, hiO g a u22.2.2.1, hrW g a t, stF g a u22.2.2.2.1, cdF g a u22.2.2.2.2.1, evF g a u22.2.2.2.2.2.1, loW g w u22.2.2.2.2.2.2, stO g a 20 v2, cdW g a 20 c2, evW g a 20 e2, stO g a 30 v3, cdW g a 30 c3, evW g a 30 e3, prO g b q, caW g b t2, cmF g b ws, sbO g y zz k, baW g zz n f, iaW g (d 3) 110 r3, iaW g (d 4) 110 r4, iaW g (d 6) 200 r6, iaW g (d 7) 60 r7, iaW g (d 8) 124 r8, doW g w2 dd]) (stk2 := [.int u27.1]) rfl rfl ?_)
      refine x_istore (lv' := [(7, .int u27.1), (6, .int u22.1), (0, .ref sb), (1, .ref (a 0)), (2, .ref (d 0)), (3, .ref w), (4, .ref w2), (5, .int i)]) C dL_law_629 (by decide) rfl ?_
      refine x_aload_n C dL_law_631 rfl 4 rfl ?_
      obtain ⟨u28, hu28, hf⟩ := x_b hf
      refine x_callV (n := 0) (As := []) (rest := []) C (c_X10_thrown g l d u27.2.1 hu28) ⟨⟨wd_1550, wd_1547, wd_78⟩, ⟨by decide, by decide, by decide⟩, rfl, rfl, Nat.le_of_ble_eq_true rfl, Nat.le_of_ble_eq_true rfl⟩ wd_1548 wd_1549 ⟨0, 11, _, _, rfl, rfl, rfl⟩ [iaW g (d 1) 110 u27.2.2.1, iaW g (d 2) 110 u27.2.2.2.1, iaW g (d 5) 880 u27.2.2.2.2, ccO g a b y z, stO g a 10 v, cdW g a 10 c, evW g a 10 u22.2.1, hiO g a u22.2.2.1, hrW g a t, stF g a u22.2.2.2.1, cdF g a u22.2.2.2.2.1, evF g a u22.2.2.2.2.2.1, loW g w u22.2.2.2.2.2.2, stO g a 20 v2, cdW g a 20 c2, evW g a 20 e2, stO g a 30 v3, cdW g a 30 c3, evW g a 30 e3, prO g b q, caW g b t2, cmF g b ws, sbO g y zz k, baW g zz n f, iaW g (d 3) 110 r3, iaW g (d 4) 110 r4, iaW g (d 6) 200 r6, iaW g (d 7) 60 r7, iaW g (d 8) 124 r8, doW g w2 dd] (x_pickD [0, 1, 2, 3, 4, 5, 6, 7, 8, 9, 10, 11, 12, 13, 14, 15, 16, 17, 18, 19, 20, 21, 22, 23, 24, 25, 26, 27, 28, 29, 30] 31 rfl rfl rfl) rfl rfl (Nat.le_of_ble_eq_true rfl) ⟨by omega, by omega⟩ dL_law_632 (x_goD (wss2 := [mdO g d u27.2.1, iaW g (d 1) 110 u27.2.2.1, iaW g (d 2) 110 u27.2.2.2.1, iaW g (d 5) 880 u27.2.2.2.2, ccO g a b y z, stO g a 10 v, cdW g a 10 c, evW g a 10 u22.2.1, hiO g a u22.2.2.1, hrW g a t, stF g a u22.2.2.2.1, cdF g a u22.2.2.2.2.1, evF g a u22.2.2.2.2.2.1, loW g w u22.2.2.2.2.2.2, stO g a 20 v2, cdW g a 20 c2, evW g a 20 e2, stO g a 30 v3, cdW g a 30 c3, evW g a 30 e3, prO g b q, caW g b t2, cmF g b ws, sbO g y zz k, baW g zz n f, iaW g (d 3) 110 r3, iaW g (d 4) 110 r4, iaW g (d 6) 200 r6, iaW g (d 7) 60 r7, iaW g (d 8) 124 r8, doW g w2 dd]) (stk2 := [.int u28]) rfl rfl ?_)
      refine x_iload C dL_law_635 1 rfl ?_
      refine x_icmp_eq (tgt := 642) C dL_law_637 (by decide) (fun h29 => ?_) (fun h29 => ?_)
      · have hf := x_t h29 hf
        refine x_iload C dL_law_642 1 rfl ?_
        refine x_if_ne (tgt := 659) C dL_law_644 (by decide) (fun h30 => ?_) (fun h30 => ?_)
        · have hf := x_f h30 hf
          refine x_goto (tgt := 2256) C dL_law_659 (by decide) ?_
          refine x_perm (wss' := [ccO g a b y z, stO g a 10 v, cdW g a 10 c, evW g a 10 u22.2.1, stO g a 20 v2, cdW g a 20 c2, evW g a 20 e2, stO g a 30 v3, cdW g a 30 c3, evW g a 30 e3, hiO g a u22.2.2.1, hrW g a t, stF g a u22.2.2.2.1, cdF g a u22.2.2.2.2.1, evF g a u22.2.2.2.2.2.1, prO g b q, caW g b t2, cmF g b ws, sbO g y zz k, baW g zz n f, mdO g d u27.2.1, iaW g (d 1) 110 u27.2.2.1, iaW g (d 2) 110 u27.2.2.2.1, iaW g (d 3) 110 r3, iaW g (d 4) 110 r4, iaW g (d 5) 880 u27.2.2.2.2, iaW g (d 6) 200 r6, iaW g (d 7) 60 r7, iaW g (d 8) 124 r8, loW g w u22.2.2.2.2.2.2, doW g w2 dd]) (x_pick [4, 5, 6, 7, 14, 15, 16, 17, 18, 19, 8, 9, 10, 11, 12, 20, 21, 22, 23, 24, 0, 1, 2, 25, 26, 3, 27, 28, 29, 13, 30] 31 rfl rfl rfl) ?_
          refine x_locals (lv' := [(0, .ref sb), (1, .ref (a 0)), (2, .ref (d 0)), (3, .ref w), (4, .ref w2), (5, .int i)]) [2, 3, 4, 5, 6, 7] rfl ?_
          refine x_widen (k := cells + 292) (n := slots + 5516) (by omega) (by omega) ?_
          obtain rfl := Option.some.inj hf
          exact kk zz
        · have hf := x_t h30 hf
          refine x_aload_n C dL_law_647 rfl 5 rfl ?_
          refine x_iconst (v := 0) C dL_law_648 (by decide) ?_
          obtain ⟨h31, hf⟩ := x_n hf
          refine x_lald (b := loW g w u22.2.2.2.2.2.2) C 13 rfl 0 (loW_at0 g w _) h31 dL_law_649 ?_
          refine x_iload C dL_law_650 0 rfl ?_
          refine x_i2l C dL_law_652 rfl ?_
          refine x_lcmp C dL_law_653 ?_
          refine x_if_eq (tgt := 659) C dL_law_654 (by decide) (fun h32 => ?_) (fun h32 => ?_)
          · have hf := x_t h32 hf
            refine x_goto (tgt := 2256) C dL_law_659 (by decide) ?_
            refine x_perm (wss' := [ccO g a b y z, stO g a 10 v, cdW g a 10 c, evW g a 10 u22.2.1, stO g a 20 v2, cdW g a 20 c2, evW g a 20 e2, stO g a 30 v3, cdW g a 30 c3, evW g a 30 e3, hiO g a u22.2.2.1, hrW g a t, stF g a u22.2.2.2.1, cdF g a u22.2.2.2.2.1, evF g a u22.2.2.2.2.2.1, prO g b q, caW g b t2, cmF g b ws, sbO g y zz k, baW g zz n f, mdO g d u27.2.1, iaW g (d 1) 110 u27.2.2.1, iaW g (d 2) 110 u27.2.2.2.1, iaW g (d 3) 110 r3, iaW g (d 4) 110 r4, iaW g (d 5) 880 u27.2.2.2.2, iaW g (d 6) 200 r6, iaW g (d 7) 60 r7, iaW g (d 8) 124 r8, loW g w u22.2.2.2.2.2.2, doW g w2 dd]) (x_pick [4, 5, 6, 7, 14, 15, 16, 17, 18, 19, 8, 9, 10, 11, 12, 20, 21, 22, 23, 24, 0, 1, 2, 25, 26, 3, 27, 28, 29, 13, 30] 31 rfl rfl rfl) ?_
            refine x_locals (lv' := [(0, .ref sb), (1, .ref (a 0)), (2, .ref (d 0)), (3, .ref w), (4, .ref w2), (5, .int i)]) [2, 3, 4, 5, 6, 7] rfl ?_
            refine x_widen (k := cells + 292) (n := slots + 5516) (by omega) (by omega) ?_
            obtain rfl := Option.some.inj hf
            exact kk zz
          · have hf := x_f h32 hf
            cases hf
      · have hf := x_f h29 hf
        cases hf
    · have hf := x_f h26 hf
      refine x_iconst (v := 1) C dL_law_621 (by decide) ?_
      refine x_goto (tgt := 626) C dL_law_622 (by decide) ?_
      obtain ⟨u33, hu33, hf⟩ := x_b hf
      refine x_callV (n := 3) (As := [.int (xs (i + (1 : Int32)).toNatClampNeg), .int (xs (i + (2 : Int32)).toNatClampNeg), .int (1 : Int32)]) (rest := []) C (c_X10_schedule g l d m r1 r2 r5 (xs (i + (1 : Int32)).toNatClampNeg) (xs (i + (2 : Int32)).toNatClampNeg) (1 : Int32) hu33) ⟨⟨wd_1631, wd_1628, wd_78⟩, ⟨by decide, by decide, by decide⟩, rfl, rfl, Nat.le_of_ble_eq_true rfl, Nat.le_of_ble_eq_true rfl⟩ wd_1629 wd_1630 ⟨0, 11, _, _, rfl, rfl, rfl⟩ [ccO g a b y z, stO g a 10 v, cdW g a 10 c, evW g a 10 u22.2.1, hiO g a u22.2.2.1, hrW g a t, stF g a u22.2.2.2.1, cdF g a u22.2.2.2.2.1, evF g a u22.2.2.2.2.2.1, loW g w u22.2.2.2.2.2.2, stO g a 20 v2, cdW g a 20 c2, evW g a 20 e2, stO g a 30 v3, cdW g a 30 c3, evW g a 30 e3, prO g b q, caW g b t2, cmF g b ws, sbO g y zz k, baW g zz n f, iaW g (d 3) 110 r3, iaW g (d 4) 110 r4, iaW g (d 6) 200 r6, iaW g (d 7) 60 r7, iaW g (d 8) 124 r8, doW g w2 dd] (x_pickD [21, 22, 23, 26, 0, 1, 2, 3, 4, 5, 6, 7, 8, 9, 10, 11, 12, 13, 14, 15, 16, 17, 18, 19, 20, 24, 25, 27, 28, 29, 30] 31 rfl rfl rfl) rfl rfl (Nat.le_of_ble_eq_true rfl) ⟨by omega, by omega⟩ dL_law_626 (x_goD (wss2 := [mdO g d u33.2.1, iaW g (d 1) 110 u33.2.2.1, iaW g (d 2) 110 u33.2.2.2.1, iaW g (d 5) 880 u33.2.2.2.2, ccO g a b y z, stO g a 10 v, cdW g a 10 c, evW g a 10 u22.2.1, hiO g a u22.2.2.1, hrW g a t, stF g a u22.2.2.2.1, cdF g a u22.2.2.2.2.1, evF g a u22.2.2.2.2.2.1, loW g w u22.2.2.2.2.2.2, stO g a 20 v2, cdW g a 20 c2, evW g a 20 e2, stO g a 30 v3, cdW g a 30 c3, evW g a 30 e3, prO g b q, caW g b t2, cmF g b ws, sbO g y zz k, baW g zz n f, iaW g (d 3) 110 r3, iaW g (d 4) 110 r4, iaW g (d 6) 200 r6, iaW g (d 7) 60 r7, iaW g (d 8) 124 r8, doW g w2 dd]) (stk2 := [.int u33.1]) rfl rfl ?_)
      refine x_istore (lv' := [(7, .int u33.1), (6, .int u22.1), (0, .ref sb), (1, .ref (a 0)), (2, .ref (d 0)), (3, .ref w), (4, .ref w2), (5, .int i)]) C dL_law_629 (by decide) rfl ?_
      refine x_aload_n C dL_law_631 rfl 4 rfl ?_
      obtain ⟨u34, hu34, hf⟩ := x_b hf
      refine x_callV (n := 0) (As := []) (rest := []) C (c_X10_thrown g l d u33.2.1 hu34) ⟨⟨wd_1550, wd_1547, wd_78⟩, ⟨by decide, by decide, by decide⟩, rfl, rfl, Nat.le_of_ble_eq_true rfl, Nat.le_of_ble_eq_true rfl⟩ wd_1548 wd_1549 ⟨0, 11, _, _, rfl, rfl, rfl⟩ [iaW g (d 1) 110 u33.2.2.1, iaW g (d 2) 110 u33.2.2.2.1, iaW g (d 5) 880 u33.2.2.2.2, ccO g a b y z, stO g a 10 v, cdW g a 10 c, evW g a 10 u22.2.1, hiO g a u22.2.2.1, hrW g a t, stF g a u22.2.2.2.1, cdF g a u22.2.2.2.2.1, evF g a u22.2.2.2.2.2.1, loW g w u22.2.2.2.2.2.2, stO g a 20 v2, cdW g a 20 c2, evW g a 20 e2, stO g a 30 v3, cdW g a 30 c3, evW g a 30 e3, prO g b q, caW g b t2, cmF g b ws, sbO g y zz k, baW g zz n f, iaW g (d 3) 110 r3, iaW g (d 4) 110 r4, iaW g (d 6) 200 r6, iaW g (d 7) 60 r7, iaW g (d 8) 124 r8, doW g w2 dd] (x_pickD [0, 1, 2, 3, 4, 5, 6, 7, 8, 9, 10, 11, 12, 13, 14, 15, 16, 17, 18, 19, 20, 21, 22, 23, 24, 25, 26, 27, 28, 29, 30] 31 rfl rfl rfl) rfl rfl (Nat.le_of_ble_eq_true rfl) ⟨by omega, by omega⟩ dL_law_632 (x_goD (wss2 := [mdO g d u33.2.1, iaW g (d 1) 110 u33.2.2.1, iaW g (d 2) 110 u33.2.2.2.1, iaW g (d 5) 880 u33.2.2.2.2, ccO g a b y z, stO g a 10 v, cdW g a 10 c, evW g a 10 u22.2.1, hiO g a u22.2.2.1, hrW g a t, stF g a u22.2.2.2.1, cdF g a u22.2.2.2.2.1, evF g a u22.2.2.2.2.2.1, loW g w u22.2.2.2.2.2.2, stO g a 20 v2, cdW g a 20 c2, evW g a 20 e2, stO g a 30 v3, cdW g a 30 c3, evW g a 30 e3, prO g b q, caW g b t2, cmF g b ws, sbO g y zz k, baW g zz n f, iaW g (d 3) 110 r3, iaW g (d 4) 110 r4, iaW g (d 6) 200 r6, iaW g (d 7) 60 r7, iaW g (d 8) 124 r8, doW g w2 dd]) (stk2 := [.int u34]) rfl rfl ?_)
      refine x_iload C dL_law_635 1 rfl ?_
      refine x_icmp_eq (tgt := 642) C dL_law_637 (by decide) (fun h35 => ?_) (fun h35 => ?_)
      · have hf := x_t h35 hf
        refine x_iload C dL_law_642 1 rfl ?_
        refine x_if_ne (tgt := 659) C dL_law_644 (by decide) (fun h36 => ?_) (fun h36 => ?_)
        · have hf := x_f h36 hf
          refine x_goto (tgt := 2256) C dL_law_659 (by decide) ?_
          refine x_perm (wss' := [ccO g a b y z, stO g a 10 v, cdW g a 10 c, evW g a 10 u22.2.1, stO g a 20 v2, cdW g a 20 c2, evW g a 20 e2, stO g a 30 v3, cdW g a 30 c3, evW g a 30 e3, hiO g a u22.2.2.1, hrW g a t, stF g a u22.2.2.2.1, cdF g a u22.2.2.2.2.1, evF g a u22.2.2.2.2.2.1, prO g b q, caW g b t2, cmF g b ws, sbO g y zz k, baW g zz n f, mdO g d u33.2.1, iaW g (d 1) 110 u33.2.2.1, iaW g (d 2) 110 u33.2.2.2.1, iaW g (d 3) 110 r3, iaW g (d 4) 110 r4, iaW g (d 5) 880 u33.2.2.2.2, iaW g (d 6) 200 r6, iaW g (d 7) 60 r7, iaW g (d 8) 124 r8, loW g w u22.2.2.2.2.2.2, doW g w2 dd]) (x_pick [4, 5, 6, 7, 14, 15, 16, 17, 18, 19, 8, 9, 10, 11, 12, 20, 21, 22, 23, 24, 0, 1, 2, 25, 26, 3, 27, 28, 29, 13, 30] 31 rfl rfl rfl) ?_
          refine x_locals (lv' := [(0, .ref sb), (1, .ref (a 0)), (2, .ref (d 0)), (3, .ref w), (4, .ref w2), (5, .int i)]) [2, 3, 4, 5, 6, 7] rfl ?_
          refine x_widen (k := cells + 292) (n := slots + 5516) (by omega) (by omega) ?_
          obtain rfl := Option.some.inj hf
          exact kk zz
        · have hf := x_t h36 hf
          refine x_aload_n C dL_law_647 rfl 5 rfl ?_
          refine x_iconst (v := 0) C dL_law_648 (by decide) ?_
          obtain ⟨h37, hf⟩ := x_n hf
          refine x_lald (b := loW g w u22.2.2.2.2.2.2) C 13 rfl 0 (loW_at0 g w _) h37 dL_law_649 ?_
          refine x_iload C dL_law_650 0 rfl ?_
          refine x_i2l C dL_law_652 rfl ?_
          refine x_lcmp C dL_law_653 ?_
          refine x_if_eq (tgt := 659) C dL_law_654 (by decide) (fun h38 => ?_) (fun h38 => ?_)
          · have hf := x_t h38 hf
            refine x_goto (tgt := 2256) C dL_law_659 (by decide) ?_
            refine x_perm (wss' := [ccO g a b y z, stO g a 10 v, cdW g a 10 c, evW g a 10 u22.2.1, stO g a 20 v2, cdW g a 20 c2, evW g a 20 e2, stO g a 30 v3, cdW g a 30 c3, evW g a 30 e3, hiO g a u22.2.2.1, hrW g a t, stF g a u22.2.2.2.1, cdF g a u22.2.2.2.2.1, evF g a u22.2.2.2.2.2.1, prO g b q, caW g b t2, cmF g b ws, sbO g y zz k, baW g zz n f, mdO g d u33.2.1, iaW g (d 1) 110 u33.2.2.1, iaW g (d 2) 110 u33.2.2.2.1, iaW g (d 3) 110 r3, iaW g (d 4) 110 r4, iaW g (d 5) 880 u33.2.2.2.2, iaW g (d 6) 200 r6, iaW g (d 7) 60 r7, iaW g (d 8) 124 r8, loW g w u22.2.2.2.2.2.2, doW g w2 dd]) (x_pick [4, 5, 6, 7, 14, 15, 16, 17, 18, 19, 8, 9, 10, 11, 12, 20, 21, 22, 23, 24, 0, 1, 2, 25, 26, 3, 27, 28, 29, 13, 30] 31 rfl rfl rfl) ?_
            refine x_locals (lv' := [(0, .ref sb), (1, .ref (a 0)), (2, .ref (d 0)), (3, .ref w), (4, .ref w2), (5, .int i)]) [2, 3, 4, 5, 6, 7] rfl ?_
            refine x_widen (k := cells + 292) (n := slots + 5516) (by omega) (by omega) ?_
            obtain rfl := Option.some.inj hf
            exact kk zz
          · have hf := x_f h38 hf
            cases hf
      · have hf := x_f h35 hf
        cases hf
set_option maxHeartbeats 4000000 in
set_option maxRecDepth 100000 in
theorem c_law_662 (a : Nat → Nat) (b : Nat → Nat) (y : Nat) (zz : Nat) (n : Nat) (d : Nat → Nat) (w : Nat) (w2 : Nat) (C : CX g RL cL_law 9 A pW sW mW argsW methW c9) (hl : l.stackTraces = false) (hX : va_X sb L xs sW sW.heap) (hbl : sb < sW.heap.size) (hbA : ¬ A sb) (hc : cells + 292 ≤ room_1.cells) (hs : slots + 5516 ≤ room_1.slots) (z : CcT) (v : StS) (c : CdT) (e : EvT) (v2 : StS) (c2 : CdT) (e2 : EvT) (v3 : StS) (c3 : CdT) (e3 : EvT) (h : HiT) (t : Unit) (vs : (Nat → StS)) (cs : (Nat → CdT)) (es : (Nat → EvT)) (q : PrT) (t2 : Unit) (ws : (Nat → CmT)) (k : SbT) (f : (Nat → Int32)) (m : MdT) (r1 : (Nat → Int32)) (r2 : (Nat → Int32)) (r3 : (Nat → Int32)) (r4 : (Nat → Int32)) (r5 : (Nat → Int32)) (r6 : (Nat → Int32)) (r7 : (Nat → Int32)) (r8 : (Nat → Int32)) (lo : (Nat → Int64)) (dd : (Nat → UInt64)) (i : Int32) {u : LwT} (hf : f_law_662 n L xs z v c e v2 c2 e2 v3 c3 e3 h t vs cs es q t2 ws k f m r1 r2 r3 r4 r5 r6 r7 r8 lo dd i = some u)
    (kk : ∀ zz' : Nat, VW g A 9 pW l eW room_1 sW mW argsW belowW methW c9 (cells + 292) (slots + 5516) Q [ccO g a b y u.1, stO g a 10 u.2.1, cdW g a 10 u.2.2.1, evW g a 10 u.2.2.2.1, stO g a 20 u.2.2.2.2.1, cdW g a 20 u.2.2.2.2.2.1, evW g a 20 u.2.2.2.2.2.2.1, stO g a 30 u.2.2.2.2.2.2.2.1, cdW g a 30 u.2.2.2.2.2.2.2.2.1, evW g a 30 u.2.2.2.2.2.2.2.2.2.1, hiO g a u.2.2.2.2.2.2.2.2.2.2.1, hrW g a u.2.2.2.2.2.2.2.2.2.2.2.1, stF g a u.2.2.2.2.2.2.2.2.2.2.2.2.1, cdF g a u.2.2.2.2.2.2.2.2.2.2.2.2.2.1, evF g a u.2.2.2.2.2.2.2.2.2.2.2.2.2.2.1, prO g b u.2.2.2.2.2.2.2.2.2.2.2.2.2.2.2.1, caW g b u.2.2.2.2.2.2.2.2.2.2.2.2.2.2.2.2.1, cmF g b u.2.2.2.2.2.2.2.2.2.2.2.2.2.2.2.2.2.1, sbO g y zz' u.2.2.2.2.2.2.2.2.2.2.2.2.2.2.2.2.2.2.1, baW g zz' u.2.2.2.2.2.2.2.2.2.2.2.2.2.2.2.2.2.2.2.2.2.2.2.2.2.2.2.2.2.2.2 u.2.2.2.2.2.2.2.2.2.2.2.2.2.2.2.2.2.2.2.1, mdO g d u.2.2.2.2.2.2.2.2.2.2.2.2.2.2.2.2.2.2.2.2.1, iaW g (d 1) 110 u.2.2.2.2.2.2.2.2.2.2.2.2.2.2.2.2.2.2.2.2.2.1, iaW g (d 2) 110 u.2.2.2.2.2.2.2.2.2.2.2.2.2.2.2.2.2.2.2.2.2.2.1, iaW g (d 3) 110 u.2.2.2.2.2.2.2.2.2.2.2.2.2.2.2.2.2.2.2.2.2.2.2.1, iaW g (d 4) 110 u.2.2.2.2.2.2.2.2.2.2.2.2.2.2.2.2.2.2.2.2.2.2.2.2.1, iaW g (d 5) 880 u.2.2.2.2.2.2.2.2.2.2.2.2.2.2.2.2.2.2.2.2.2.2.2.2.2.1, iaW g (d 6) 200 u.2.2.2.2.2.2.2.2.2.2.2.2.2.2.2.2.2.2.2.2.2.2.2.2.2.2.1, iaW g (d 7) 60 u.2.2.2.2.2.2.2.2.2.2.2.2.2.2.2.2.2.2.2.2.2.2.2.2.2.2.2.1, iaW g (d 8) 124 u.2.2.2.2.2.2.2.2.2.2.2.2.2.2.2.2.2.2.2.2.2.2.2.2.2.2.2.2.1, loW g w u.2.2.2.2.2.2.2.2.2.2.2.2.2.2.2.2.2.2.2.2.2.2.2.2.2.2.2.2.2.1, doW g w2 u.2.2.2.2.2.2.2.2.2.2.2.2.2.2.2.2.2.2.2.2.2.2.2.2.2.2.2.2.2.2.1] [(0, .ref sb), (1, .ref (a 0)), (2, .ref (d 0)), (3, .ref w), (4, .ref w2), (5, .int i)] 2256 []) : VW g A 9 pW l eW room_1 sW mW argsW belowW methW c9 cells slots Q [ccO g a b y z, stO g a 10 v, cdW g a 10 c, evW g a 10 e, stO g a 20 v2, cdW g a 20 c2, evW g a 20 e2, stO g a 30 v3, cdW g a 30 c3, evW g a 30 e3, hiO g a h, hrW g a t, stF g a vs, cdF g a cs, evF g a es, prO g b q, caW g b t2, cmF g b ws, sbO g y zz k, baW g zz n f, mdO g d m, iaW g (d 1) 110 r1, iaW g (d 2) 110 r2, iaW g (d 3) 110 r3, iaW g (d 4) 110 r4, iaW g (d 5) 880 r5, iaW g (d 6) 200 r6, iaW g (d 7) 60 r7, iaW g (d 8) 124 r8, loW g w lo, doW g w2 dd] [(0, .ref sb), (1, .ref (a 0)), (2, .ref (d 0)), (3, .ref w), (4, .ref w2), (5, .int i)] 662 [] := by
  unfold f_law_662 at hf
  have C : CX g RL cL_law 9 A pW sW mW argsW methW c9 := C
  refine x_aload_n C dL_law_662 rfl 1 rfl ?_
  refine x_aload_n C dL_law_663 rfl 0 rfl ?_
  refine x_iload C dL_law_664 5 rfl ?_
  refine x_iconst (v := 1) C dL_law_666 (by decide) ?_
  refine x_iadd C dL_law_667 ?_
  obtain ⟨h1, hf⟩ := x_n hf
  refine x_sld C hX hbl hbA h1 dL_law_668 ?_
  refine x_aload_n C dL_law_669 rfl 3 rfl ?_
  obtain ⟨u2, hu2, hf⟩ := x_b hf
  refine x_hcallS (n := 3) (As := [.ref (a 0), .int (xs (i + (1 : Int32)).toNatClampNeg), .ref w]) (rest := []) C (c_L_unschedule g l hl a b y w z v c e h t vs cs es lo (xs (i + (1 : Int32)).toNatClampNeg) hu2) ⟨⟨wd_1084, wd_1082, wd_64⟩, ⟨by decide, by decide, by decide⟩, rfl, rfl, Nat.le_of_ble_eq_true rfl, Nat.le_of_ble_eq_true rfl⟩ wd_1083 [stO g a 20 v2, cdW g a 20 c2, evW g a 20 e2, stO g a 30 v3, cdW g a 30 c3, evW g a 30 e3, prO g b q, caW g b t2, cmF g b ws, sbO g y zz k, baW g zz n f, mdO g d m, iaW g (d 1) 110 r1, iaW g (d 2) 110 r2, iaW g (d 3) 110 r3, iaW g (d 4) 110 r4, iaW g (d 5) 880 r5, iaW g (d 6) 200 r6, iaW g (d 7) 60 r7, iaW g (d 8) 124 r8, doW g w2 dd] (x_pickD [0, 1, 2, 3, 10, 11, 12, 13, 14, 29, 4, 5, 6, 7, 8, 9, 15, 16, 17, 18, 19, 20, 21, 22, 23, 24, 25, 26, 27, 28, 30] 31 rfl rfl rfl) rfl rfl (Nat.le_of_ble_eq_true rfl) ⟨by omega, by omega⟩ dL_law_670 (fun v9 w9 hQ9 => ?_)
  obtain ⟨rfl, rfl⟩ := hQ9
  refine x_goW (wss2 := [ccO g a b y z, stO g a 10 v, cdW g a 10 c, evW g a 10 u2.2.1, hiO g a u2.2.2.1, hrW g a t, stF g a u2.2.2.2.1, cdF g a u2.2.2.2.2.1, evF g a u2.2.2.2.2.2.1, loW g w u2.2.2.2.2.2.2, stO g a 20 v2, cdW g a 20 c2, evW g a 20 e2, stO g a 30 v3, cdW g a 30 c3, evW g a 30 e3, prO g b q, caW g b t2, cmF g b ws, sbO g y zz k, baW g zz n f, mdO g d m, iaW g (d 1) 110 r1, iaW g (d 2) 110 r2, iaW g (d 3) 110 r3, iaW g (d 4) 110 r4, iaW g (d 5) 880 r5, iaW g (d 6) 200 r6, iaW g (d 7) 60 r7, iaW g (d 8) 124 r8, doW g w2 dd]) (stk2 := [.int u2.1]) rfl rfl rfl ?_
  refine x_istore (lv' := [(6, .int u2.1), (0, .ref sb), (1, .ref (a 0)), (2, .ref (d 0)), (3, .ref w), (4, .ref w2), (5, .int i)]) C dL_law_673 (by decide) rfl ?_
  refine x_aload_n C dL_law_675 rfl 3 rfl ?_
  refine x_aload_n C dL_law_676 rfl 1 rfl ?_
  refine x_iload C dL_law_677 6 rfl ?_
  refine x_iconst (v := 1) C dL_law_679 (by decide) ?_
  refine x_iadd C dL_law_680 ?_
  obtain ⟨h3, hf⟩ := x_n hf
  refine x_sld C hX hbl hbA h3 dL_law_681 ?_
  obtain ⟨u4, hu4, hf⟩ := x_b hf
  refine x_callV (n := 1) (As := [.int (xs (i + (1 : Int32)).toNatClampNeg)]) (rest := []) C (c_X10_unschedule g l d m r1 r2 r5 (xs (i + (1 : Int32)).toNatClampNeg) hu4) ⟨⟨wd_1643, wd_1640, wd_78⟩, ⟨by decide, by decide, by decide⟩, rfl, rfl, Nat.le_of_ble_eq_true rfl, Nat.le_of_ble_eq_true rfl⟩ wd_1641 wd_1642 ⟨0, 11, _, _, rfl, rfl, rfl⟩ [ccO g a b y z, stO g a 10 v, cdW g a 10 c, evW g a 10 u2.2.1, hiO g a u2.2.2.1, hrW g a t, stF g a u2.2.2.2.1, cdF g a u2.2.2.2.2.1, evF g a u2.2.2.2.2.2.1, loW g w u2.2.2.2.2.2.2, stO g a 20 v2, cdW g a 20 c2, evW g a 20 e2, stO g a 30 v3, cdW g a 30 c3, evW g a 30 e3, prO g b q, caW g b t2, cmF g b ws, sbO g y zz k, baW g zz n f, iaW g (d 3) 110 r3, iaW g (d 4) 110 r4, iaW g (d 6) 200 r6, iaW g (d 7) 60 r7, iaW g (d 8) 124 r8, doW g w2 dd] (x_pickD [21, 22, 23, 26, 0, 1, 2, 3, 4, 5, 6, 7, 8, 9, 10, 11, 12, 13, 14, 15, 16, 17, 18, 19, 20, 24, 25, 27, 28, 29, 30] 31 rfl rfl rfl) rfl rfl (Nat.le_of_ble_eq_true rfl) ⟨by omega, by omega⟩ dL_law_682 (x_goD (wss2 := [mdO g d u4.2.1, iaW g (d 1) 110 u4.2.2.1, iaW g (d 2) 110 u4.2.2.2.1, iaW g (d 5) 880 u4.2.2.2.2, ccO g a b y z, stO g a 10 v, cdW g a 10 c, evW g a 10 u2.2.1, hiO g a u2.2.2.1, hrW g a t, stF g a u2.2.2.2.1, cdF g a u2.2.2.2.2.1, evF g a u2.2.2.2.2.2.1, loW g w u2.2.2.2.2.2.2, stO g a 20 v2, cdW g a 20 c2, evW g a 20 e2, stO g a 30 v3, cdW g a 30 c3, evW g a 30 e3, prO g b q, caW g b t2, cmF g b ws, sbO g y zz k, baW g zz n f, iaW g (d 3) 110 r3, iaW g (d 4) 110 r4, iaW g (d 6) 200 r6, iaW g (d 7) 60 r7, iaW g (d 8) 124 r8, doW g w2 dd]) (stk2 := [.int u4.1]) rfl rfl ?_)
  refine x_istore (lv' := [(7, .int u4.1), (6, .int u2.1), (0, .ref sb), (1, .ref (a 0)), (2, .ref (d 0)), (3, .ref w), (4, .ref w2), (5, .int i)]) C dL_law_685 (by decide) rfl ?_
  refine x_aload_n C dL_law_687 rfl 4 rfl ?_
  obtain ⟨u5, hu5, hf⟩ := x_b hf
  refine x_callV (n := 0) (As := []) (rest := []) C (c_X10_thrown g l d u4.2.1 hu5) ⟨⟨wd_1550, wd_1547, wd_78⟩, ⟨by decide, by decide, by decide⟩, rfl, rfl, Nat.le_of_ble_eq_true rfl, Nat.le_of_ble_eq_true rfl⟩ wd_1548 wd_1549 ⟨0, 11, _, _, rfl, rfl, rfl⟩ [iaW g (d 1) 110 u4.2.2.1, iaW g (d 2) 110 u4.2.2.2.1, iaW g (d 5) 880 u4.2.2.2.2, ccO g a b y z, stO g a 10 v, cdW g a 10 c, evW g a 10 u2.2.1, hiO g a u2.2.2.1, hrW g a t, stF g a u2.2.2.2.1, cdF g a u2.2.2.2.2.1, evF g a u2.2.2.2.2.2.1, loW g w u2.2.2.2.2.2.2, stO g a 20 v2, cdW g a 20 c2, evW g a 20 e2, stO g a 30 v3, cdW g a 30 c3, evW g a 30 e3, prO g b q, caW g b t2, cmF g b ws, sbO g y zz k, baW g zz n f, iaW g (d 3) 110 r3, iaW g (d 4) 110 r4, iaW g (d 6) 200 r6, iaW g (d 7) 60 r7, iaW g (d 8) 124 r8, doW g w2 dd] (x_pickD [0, 1, 2, 3, 4, 5, 6, 7, 8, 9, 10, 11, 12, 13, 14, 15, 16, 17, 18, 19, 20, 21, 22, 23, 24, 25, 26, 27, 28, 29, 30] 31 rfl rfl rfl) rfl rfl (Nat.le_of_ble_eq_true rfl) ⟨by omega, by omega⟩ dL_law_688 (x_goD (wss2 := [mdO g d u4.2.1, iaW g (d 1) 110 u4.2.2.1, iaW g (d 2) 110 u4.2.2.2.1, iaW g (d 5) 880 u4.2.2.2.2, ccO g a b y z, stO g a 10 v, cdW g a 10 c, evW g a 10 u2.2.1, hiO g a u2.2.2.1, hrW g a t, stF g a u2.2.2.2.1, cdF g a u2.2.2.2.2.1, evF g a u2.2.2.2.2.2.1, loW g w u2.2.2.2.2.2.2, stO g a 20 v2, cdW g a 20 c2, evW g a 20 e2, stO g a 30 v3, cdW g a 30 c3, evW g a 30 e3, prO g b q, caW g b t2, cmF g b ws, sbO g y zz k, baW g zz n f, iaW g (d 3) 110 r3, iaW g (d 4) 110 r4, iaW g (d 6) 200 r6, iaW g (d 7) 60 r7, iaW g (d 8) 124 r8, doW g w2 dd]) (stk2 := [.int u5]) rfl rfl ?_)
  refine x_iload C dL_law_691 1 rfl ?_
  refine x_icmp_eq (tgt := 698) C dL_law_693 (by decide) (fun h6 => ?_) (fun h6 => ?_)
  · have hf := x_t h6 hf
    refine x_iload C dL_law_698 1 rfl ?_
    refine x_if_ne (tgt := 715) C dL_law_700 (by decide) (fun h7 => ?_) (fun h7 => ?_)
    · have hf := x_f h7 hf
      refine x_goto (tgt := 2256) C dL_law_715 (by decide) ?_
      refine x_perm (wss' := [ccO g a b y z, stO g a 10 v, cdW g a 10 c, evW g a 10 u2.2.1, stO g a 20 v2, cdW g a 20 c2, evW g a 20 e2, stO g a 30 v3, cdW g a 30 c3, evW g a 30 e3, hiO g a u2.2.2.1, hrW g a t, stF g a u2.2.2.2.1, cdF g a u2.2.2.2.2.1, evF g a u2.2.2.2.2.2.1, prO g b q, caW g b t2, cmF g b ws, sbO g y zz k, baW g zz n f, mdO g d u4.2.1, iaW g (d 1) 110 u4.2.2.1, iaW g (d 2) 110 u4.2.2.2.1, iaW g (d 3) 110 r3, iaW g (d 4) 110 r4, iaW g (d 5) 880 u4.2.2.2.2, iaW g (d 6) 200 r6, iaW g (d 7) 60 r7, iaW g (d 8) 124 r8, loW g w u2.2.2.2.2.2.2, doW g w2 dd]) (x_pick [4, 5, 6, 7, 14, 15, 16, 17, 18, 19, 8, 9, 10, 11, 12, 20, 21, 22, 23, 24, 0, 1, 2, 25, 26, 3, 27, 28, 29, 13, 30] 31 rfl rfl rfl) ?_
      refine x_locals (lv' := [(0, .ref sb), (1, .ref (a 0)), (2, .ref (d 0)), (3, .ref w), (4, .ref w2), (5, .int i)]) [2, 3, 4, 5, 6, 7] rfl ?_
      refine x_widen (k := cells + 292) (n := slots + 5516) (by omega) (by omega) ?_
      obtain rfl := Option.some.inj hf
      exact kk zz
    · have hf := x_t h7 hf
      refine x_aload_n C dL_law_703 rfl 5 rfl ?_
      refine x_iconst (v := 0) C dL_law_704 (by decide) ?_
      obtain ⟨h8, hf⟩ := x_n hf
      refine x_lald (b := loW g w u2.2.2.2.2.2.2) C 13 rfl 0 (loW_at0 g w _) h8 dL_law_705 ?_
      refine x_iload C dL_law_706 0 rfl ?_
      refine x_i2l C dL_law_708 rfl ?_
      refine x_lcmp C dL_law_709 ?_
      refine x_if_eq (tgt := 715) C dL_law_710 (by decide) (fun h9 => ?_) (fun h9 => ?_)
      · have hf := x_t h9 hf
        refine x_goto (tgt := 2256) C dL_law_715 (by decide) ?_
        refine x_perm (wss' := [ccO g a b y z, stO g a 10 v, cdW g a 10 c, evW g a 10 u2.2.1, stO g a 20 v2, cdW g a 20 c2, evW g a 20 e2, stO g a 30 v3, cdW g a 30 c3, evW g a 30 e3, hiO g a u2.2.2.1, hrW g a t, stF g a u2.2.2.2.1, cdF g a u2.2.2.2.2.1, evF g a u2.2.2.2.2.2.1, prO g b q, caW g b t2, cmF g b ws, sbO g y zz k, baW g zz n f, mdO g d u4.2.1, iaW g (d 1) 110 u4.2.2.1, iaW g (d 2) 110 u4.2.2.2.1, iaW g (d 3) 110 r3, iaW g (d 4) 110 r4, iaW g (d 5) 880 u4.2.2.2.2, iaW g (d 6) 200 r6, iaW g (d 7) 60 r7, iaW g (d 8) 124 r8, loW g w u2.2.2.2.2.2.2, doW g w2 dd]) (x_pick [4, 5, 6, 7, 14, 15, 16, 17, 18, 19, 8, 9, 10, 11, 12, 20, 21, 22, 23, 24, 0, 1, 2, 25, 26, 3, 27, 28, 29, 13, 30] 31 rfl rfl rfl) ?_
        refine x_locals (lv' := [(0, .ref sb), (1, .ref (a 0)), (2, .ref (d 0)), (3, .ref w), (4, .ref w2), (5, .int i)]) [2, 3, 4, 5, 6, 7] rfl ?_
        refine x_widen (k := cells + 292) (n := slots + 5516) (by omega) (by omega) ?_
        obtain rfl := Option.some.inj hf
        exact kk zz
      · have hf := x_f h9 hf
        cases hf
  · have hf := x_f h6 hf
    cases hf
set_option maxHeartbeats 4000000 in
set_option maxRecDepth 100000 in
theorem c_law_718 (a : Nat → Nat) (b : Nat → Nat) (y : Nat) (zz : Nat) (n : Nat) (d : Nat → Nat) (w : Nat) (w2 : Nat) (C : CX g RL cL_law 9 A pW sW mW argsW methW c9) (hl : l.stackTraces = false) (hX : va_X sb L xs sW sW.heap) (hbl : sb < sW.heap.size) (hbA : ¬ A sb) (hc : cells + 292 ≤ room_1.cells) (hs : slots + 5516 ≤ room_1.slots) (z : CcT) (v : StS) (c : CdT) (e : EvT) (v2 : StS) (c2 : CdT) (e2 : EvT) (v3 : StS) (c3 : CdT) (e3 : EvT) (h : HiT) (t : Unit) (vs : (Nat → StS)) (cs : (Nat → CdT)) (es : (Nat → EvT)) (q : PrT) (t2 : Unit) (ws : (Nat → CmT)) (k : SbT) (f : (Nat → Int32)) (m : MdT) (r1 : (Nat → Int32)) (r2 : (Nat → Int32)) (r3 : (Nat → Int32)) (r4 : (Nat → Int32)) (r5 : (Nat → Int32)) (r6 : (Nat → Int32)) (r7 : (Nat → Int32)) (r8 : (Nat → Int32)) (lo : (Nat → Int64)) (dd : (Nat → UInt64)) (i : Int32) {u : LwT} (hf : f_law_718 n L xs z v c e v2 c2 e2 v3 c3 e3 h t vs cs es q t2 ws k f m r1 r2 r3 r4 r5 r6 r7 r8 lo dd i = some u)
    (kk : ∀ zz' : Nat, VW g A 9 pW l eW room_1 sW mW argsW belowW methW c9 (cells + 292) (slots + 5516) Q [ccO g a b y u.1, stO g a 10 u.2.1, cdW g a 10 u.2.2.1, evW g a 10 u.2.2.2.1, stO g a 20 u.2.2.2.2.1, cdW g a 20 u.2.2.2.2.2.1, evW g a 20 u.2.2.2.2.2.2.1, stO g a 30 u.2.2.2.2.2.2.2.1, cdW g a 30 u.2.2.2.2.2.2.2.2.1, evW g a 30 u.2.2.2.2.2.2.2.2.2.1, hiO g a u.2.2.2.2.2.2.2.2.2.2.1, hrW g a u.2.2.2.2.2.2.2.2.2.2.2.1, stF g a u.2.2.2.2.2.2.2.2.2.2.2.2.1, cdF g a u.2.2.2.2.2.2.2.2.2.2.2.2.2.1, evF g a u.2.2.2.2.2.2.2.2.2.2.2.2.2.2.1, prO g b u.2.2.2.2.2.2.2.2.2.2.2.2.2.2.2.1, caW g b u.2.2.2.2.2.2.2.2.2.2.2.2.2.2.2.2.1, cmF g b u.2.2.2.2.2.2.2.2.2.2.2.2.2.2.2.2.2.1, sbO g y zz' u.2.2.2.2.2.2.2.2.2.2.2.2.2.2.2.2.2.2.1, baW g zz' u.2.2.2.2.2.2.2.2.2.2.2.2.2.2.2.2.2.2.2.2.2.2.2.2.2.2.2.2.2.2.2 u.2.2.2.2.2.2.2.2.2.2.2.2.2.2.2.2.2.2.2.1, mdO g d u.2.2.2.2.2.2.2.2.2.2.2.2.2.2.2.2.2.2.2.2.1, iaW g (d 1) 110 u.2.2.2.2.2.2.2.2.2.2.2.2.2.2.2.2.2.2.2.2.2.1, iaW g (d 2) 110 u.2.2.2.2.2.2.2.2.2.2.2.2.2.2.2.2.2.2.2.2.2.2.1, iaW g (d 3) 110 u.2.2.2.2.2.2.2.2.2.2.2.2.2.2.2.2.2.2.2.2.2.2.2.1, iaW g (d 4) 110 u.2.2.2.2.2.2.2.2.2.2.2.2.2.2.2.2.2.2.2.2.2.2.2.2.1, iaW g (d 5) 880 u.2.2.2.2.2.2.2.2.2.2.2.2.2.2.2.2.2.2.2.2.2.2.2.2.2.1, iaW g (d 6) 200 u.2.2.2.2.2.2.2.2.2.2.2.2.2.2.2.2.2.2.2.2.2.2.2.2.2.2.1, iaW g (d 7) 60 u.2.2.2.2.2.2.2.2.2.2.2.2.2.2.2.2.2.2.2.2.2.2.2.2.2.2.2.1, iaW g (d 8) 124 u.2.2.2.2.2.2.2.2.2.2.2.2.2.2.2.2.2.2.2.2.2.2.2.2.2.2.2.2.1, loW g w u.2.2.2.2.2.2.2.2.2.2.2.2.2.2.2.2.2.2.2.2.2.2.2.2.2.2.2.2.2.1, doW g w2 u.2.2.2.2.2.2.2.2.2.2.2.2.2.2.2.2.2.2.2.2.2.2.2.2.2.2.2.2.2.2.1] [(0, .ref sb), (1, .ref (a 0)), (2, .ref (d 0)), (3, .ref w), (4, .ref w2), (5, .int i)] 2256 []) : VW g A 9 pW l eW room_1 sW mW argsW belowW methW c9 cells slots Q [ccO g a b y z, stO g a 10 v, cdW g a 10 c, evW g a 10 e, stO g a 20 v2, cdW g a 20 c2, evW g a 20 e2, stO g a 30 v3, cdW g a 30 c3, evW g a 30 e3, hiO g a h, hrW g a t, stF g a vs, cdF g a cs, evF g a es, prO g b q, caW g b t2, cmF g b ws, sbO g y zz k, baW g zz n f, mdO g d m, iaW g (d 1) 110 r1, iaW g (d 2) 110 r2, iaW g (d 3) 110 r3, iaW g (d 4) 110 r4, iaW g (d 5) 880 r5, iaW g (d 6) 200 r6, iaW g (d 7) 60 r7, iaW g (d 8) 124 r8, loW g w lo, doW g w2 dd] [(0, .ref sb), (1, .ref (a 0)), (2, .ref (d 0)), (3, .ref w), (4, .ref w2), (5, .int i)] 718 [] := by
  unfold f_law_718 at hf
  have C : CX g RL cL_law 9 A pW sW mW argsW methW c9 := C
  refine x_aload_n C dL_law_718 rfl 1 rfl ?_
  refine x_aload_n C dL_law_719 rfl 0 rfl ?_
  refine x_iload C dL_law_720 5 rfl ?_
  refine x_iconst (v := 1) C dL_law_722 (by decide) ?_
  refine x_iadd C dL_law_723 ?_
  obtain ⟨h1, hf⟩ := x_n hf
  refine x_sld C hX hbl hbA h1 dL_law_724 ?_
  refine x_aload_n C dL_law_725 rfl 3 rfl ?_
  obtain ⟨u2, hu2, hf⟩ := x_b hf
  refine x_hcallS (n := 3) (As := [.ref (a 0), .int (xs (i + (1 : Int32)).toNatClampNeg), .ref w]) (rest := []) C (c_L_pass g l hl a b y w z v c e h t vs cs es lo (xs (i + (1 : Int32)).toNatClampNeg) hu2) ⟨⟨wd_1098, wd_1096, wd_64⟩, ⟨by decide, by decide, by decide⟩, rfl, rfl, Nat.le_of_ble_eq_true rfl, Nat.le_of_ble_eq_true rfl⟩ wd_1097 [stO g a 20 v2, cdW g a 20 c2, evW g a 20 e2, stO g a 30 v3, cdW g a 30 c3, evW g a 30 e3, prO g b q, caW g b t2, cmF g b ws, sbO g y zz k, baW g zz n f, mdO g d m, iaW g (d 1) 110 r1, iaW g (d 2) 110 r2, iaW g (d 3) 110 r3, iaW g (d 4) 110 r4, iaW g (d 5) 880 r5, iaW g (d 6) 200 r6, iaW g (d 7) 60 r7, iaW g (d 8) 124 r8, doW g w2 dd] (x_pickD [0, 1, 2, 3, 10, 11, 12, 13, 14, 29, 4, 5, 6, 7, 8, 9, 15, 16, 17, 18, 19, 20, 21, 22, 23, 24, 25, 26, 27, 28, 30] 31 rfl rfl rfl) rfl rfl (Nat.le_of_ble_eq_true rfl) ⟨by omega, by omega⟩ dL_law_726 (fun v9 w9 hQ9 => ?_)
  obtain ⟨rfl, rfl⟩ := hQ9
  refine x_goW (wss2 := [ccO g a b y z, stO g a 10 u2.2.1, cdW g a 10 u2.2.2.1, evW g a 10 u2.2.2.2.1, hiO g a u2.2.2.2.2.1, hrW g a t, stF g a u2.2.2.2.2.2.1, cdF g a u2.2.2.2.2.2.2.1, evF g a u2.2.2.2.2.2.2.2.1, loW g w u2.2.2.2.2.2.2.2.2, stO g a 20 v2, cdW g a 20 c2, evW g a 20 e2, stO g a 30 v3, cdW g a 30 c3, evW g a 30 e3, prO g b q, caW g b t2, cmF g b ws, sbO g y zz k, baW g zz n f, mdO g d m, iaW g (d 1) 110 r1, iaW g (d 2) 110 r2, iaW g (d 3) 110 r3, iaW g (d 4) 110 r4, iaW g (d 5) 880 r5, iaW g (d 6) 200 r6, iaW g (d 7) 60 r7, iaW g (d 8) 124 r8, doW g w2 dd]) (stk2 := [.int u2.1]) rfl rfl rfl ?_
  refine x_istore (lv' := [(6, .int u2.1), (0, .ref sb), (1, .ref (a 0)), (2, .ref (d 0)), (3, .ref w), (4, .ref w2), (5, .int i)]) C dL_law_729 (by decide) rfl ?_
  refine x_aload_n C dL_law_731 rfl 3 rfl ?_
  refine x_aload_n C dL_law_732 rfl 1 rfl ?_
  refine x_iload C dL_law_733 6 rfl ?_
  refine x_iconst (v := 1) C dL_law_735 (by decide) ?_
  refine x_iadd C dL_law_736 ?_
  obtain ⟨h3, hf⟩ := x_n hf
  refine x_sld C hX hbl hbA h3 dL_law_737 ?_
  obtain ⟨u4, hu4, hf⟩ := x_b hf
  refine x_callV (n := 1) (As := [.int (xs (i + (1 : Int32)).toNatClampNeg)]) (rest := []) C (c_X10_pass g l d m r1 r2 r5 (xs (i + (1 : Int32)).toNatClampNeg) hu4) ⟨⟨wd_1659, wd_1656, wd_78⟩, ⟨by decide, by decide, by decide⟩, rfl, rfl, Nat.le_of_ble_eq_true rfl, Nat.le_of_ble_eq_true rfl⟩ wd_1657 wd_1658 ⟨0, 11, _, _, rfl, rfl, rfl⟩ [ccO g a b y z, stO g a 10 u2.2.1, cdW g a 10 u2.2.2.1, evW g a 10 u2.2.2.2.1, hiO g a u2.2.2.2.2.1, hrW g a t, stF g a u2.2.2.2.2.2.1, cdF g a u2.2.2.2.2.2.2.1, evF g a u2.2.2.2.2.2.2.2.1, loW g w u2.2.2.2.2.2.2.2.2, stO g a 20 v2, cdW g a 20 c2, evW g a 20 e2, stO g a 30 v3, cdW g a 30 c3, evW g a 30 e3, prO g b q, caW g b t2, cmF g b ws, sbO g y zz k, baW g zz n f, iaW g (d 3) 110 r3, iaW g (d 4) 110 r4, iaW g (d 6) 200 r6, iaW g (d 7) 60 r7, iaW g (d 8) 124 r8, doW g w2 dd] (x_pickD [21, 22, 23, 26, 0, 1, 2, 3, 4, 5, 6, 7, 8, 9, 10, 11, 12, 13, 14, 15, 16, 17, 18, 19, 20, 24, 25, 27, 28, 29, 30] 31 rfl rfl rfl) rfl rfl (Nat.le_of_ble_eq_true rfl) ⟨by omega, by omega⟩ dL_law_738 (x_goD (wss2 := [mdO g d u4.2.1, iaW g (d 1) 110 u4.2.2.1, iaW g (d 2) 110 u4.2.2.2.1, iaW g (d 5) 880 u4.2.2.2.2, ccO g a b y z, stO g a 10 u2.2.1, cdW g a 10 u2.2.2.1, evW g a 10 u2.2.2.2.1, hiO g a u2.2.2.2.2.1, hrW g a t, stF g a u2.2.2.2.2.2.1, cdF g a u2.2.2.2.2.2.2.1, evF g a u2.2.2.2.2.2.2.2.1, loW g w u2.2.2.2.2.2.2.2.2, stO g a 20 v2, cdW g a 20 c2, evW g a 20 e2, stO g a 30 v3, cdW g a 30 c3, evW g a 30 e3, prO g b q, caW g b t2, cmF g b ws, sbO g y zz k, baW g zz n f, iaW g (d 3) 110 r3, iaW g (d 4) 110 r4, iaW g (d 6) 200 r6, iaW g (d 7) 60 r7, iaW g (d 8) 124 r8, doW g w2 dd]) (stk2 := [.int u4.1]) rfl rfl ?_)
  refine x_istore (lv' := [(7, .int u4.1), (6, .int u2.1), (0, .ref sb), (1, .ref (a 0)), (2, .ref (d 0)), (3, .ref w), (4, .ref w2), (5, .int i)]) C dL_law_741 (by decide) rfl ?_
  refine x_aload_n C dL_law_743 rfl 4 rfl ?_
  obtain ⟨u5, hu5, hf⟩ := x_b hf
  refine x_callV (n := 0) (As := []) (rest := []) C (c_X10_thrown g l d u4.2.1 hu5) ⟨⟨wd_1550, wd_1547, wd_78⟩, ⟨by decide, by decide, by decide⟩, rfl, rfl, Nat.le_of_ble_eq_true rfl, Nat.le_of_ble_eq_true rfl⟩ wd_1548 wd_1549 ⟨0, 11, _, _, rfl, rfl, rfl⟩ [iaW g (d 1) 110 u4.2.2.1, iaW g (d 2) 110 u4.2.2.2.1, iaW g (d 5) 880 u4.2.2.2.2, ccO g a b y z, stO g a 10 u2.2.1, cdW g a 10 u2.2.2.1, evW g a 10 u2.2.2.2.1, hiO g a u2.2.2.2.2.1, hrW g a t, stF g a u2.2.2.2.2.2.1, cdF g a u2.2.2.2.2.2.2.1, evF g a u2.2.2.2.2.2.2.2.1, loW g w u2.2.2.2.2.2.2.2.2, stO g a 20 v2, cdW g a 20 c2, evW g a 20 e2, stO g a 30 v3, cdW g a 30 c3, evW g a 30 e3, prO g b q, caW g b t2, cmF g b ws, sbO g y zz k, baW g zz n f, iaW g (d 3) 110 r3, iaW g (d 4) 110 r4, iaW g (d 6) 200 r6, iaW g (d 7) 60 r7, iaW g (d 8) 124 r8, doW g w2 dd] (x_pickD [0, 1, 2, 3, 4, 5, 6, 7, 8, 9, 10, 11, 12, 13, 14, 15, 16, 17, 18, 19, 20, 21, 22, 23, 24, 25, 26, 27, 28, 29, 30] 31 rfl rfl rfl) rfl rfl (Nat.le_of_ble_eq_true rfl) ⟨by omega, by omega⟩ dL_law_744 (x_goD (wss2 := [mdO g d u4.2.1, iaW g (d 1) 110 u4.2.2.1, iaW g (d 2) 110 u4.2.2.2.1, iaW g (d 5) 880 u4.2.2.2.2, ccO g a b y z, stO g a 10 u2.2.1, cdW g a 10 u2.2.2.1, evW g a 10 u2.2.2.2.1, hiO g a u2.2.2.2.2.1, hrW g a t, stF g a u2.2.2.2.2.2.1, cdF g a u2.2.2.2.2.2.2.1, evF g a u2.2.2.2.2.2.2.2.1, loW g w u2.2.2.2.2.2.2.2.2, stO g a 20 v2, cdW g a 20 c2, evW g a 20 e2, stO g a 30 v3, cdW g a 30 c3, evW g a 30 e3, prO g b q, caW g b t2, cmF g b ws, sbO g y zz k, baW g zz n f, iaW g (d 3) 110 r3, iaW g (d 4) 110 r4, iaW g (d 6) 200 r6, iaW g (d 7) 60 r7, iaW g (d 8) 124 r8, doW g w2 dd]) (stk2 := [.int u5]) rfl rfl ?_)
  refine x_iload C dL_law_747 1 rfl ?_
  refine x_icmp_eq (tgt := 754) C dL_law_749 (by decide) (fun h6 => ?_) (fun h6 => ?_)
  · have hf := x_t h6 hf
    refine x_iload C dL_law_754 1 rfl ?_
    refine x_if_ne (tgt := 771) C dL_law_756 (by decide) (fun h7 => ?_) (fun h7 => ?_)
    · have hf := x_f h7 hf
      refine x_goto (tgt := 2256) C dL_law_771 (by decide) ?_
      refine x_perm (wss' := [ccO g a b y z, stO g a 10 u2.2.1, cdW g a 10 u2.2.2.1, evW g a 10 u2.2.2.2.1, stO g a 20 v2, cdW g a 20 c2, evW g a 20 e2, stO g a 30 v3, cdW g a 30 c3, evW g a 30 e3, hiO g a u2.2.2.2.2.1, hrW g a t, stF g a u2.2.2.2.2.2.1, cdF g a u2.2.2.2.2.2.2.1, evF g a u2.2.2.2.2.2.2.2.1, prO g b q, caW g b t2, cmF g b ws, sbO g y zz k, baW g zz n f, mdO g d u4.2.1, iaW g (d 1) 110 u4.2.2.1, iaW g (d 2) 110 u4.2.2.2.1, iaW g (d 3) 110 r3, iaW g (d 4) 110 r4, iaW g (d 5) 880 u4.2.2.2.2, iaW g (d 6) 200 r6, iaW g (d 7) 60 r7, iaW g (d 8) 124 r8, loW g w u2.2.2.2.2.2.2.2.2, doW g w2 dd]) (x_pick [4, 5, 6, 7, 14, 15, 16, 17, 18, 19, 8, 9, 10, 11, 12, 20, 21, 22, 23, 24, 0, 1, 2, 25, 26, 3, 27, 28, 29, 13, 30] 31 rfl rfl rfl) ?_
      refine x_locals (lv' := [(0, .ref sb), (1, .ref (a 0)), (2, .ref (d 0)), (3, .ref w), (4, .ref w2), (5, .int i)]) [2, 3, 4, 5, 6, 7] rfl ?_
      refine x_widen (k := cells + 292) (n := slots + 5516) (by omega) (by omega) ?_
      obtain rfl := Option.some.inj hf
      exact kk zz
    · have hf := x_t h7 hf
      refine x_aload_n C dL_law_759 rfl 5 rfl ?_
      refine x_iconst (v := 0) C dL_law_760 (by decide) ?_
      obtain ⟨h8, hf⟩ := x_n hf
      refine x_lald (b := loW g w u2.2.2.2.2.2.2.2.2) C 13 rfl 0 (loW_at0 g w _) h8 dL_law_761 ?_
      refine x_iload C dL_law_762 0 rfl ?_
      refine x_i2l C dL_law_764 rfl ?_
      refine x_lcmp C dL_law_765 ?_
      refine x_if_eq (tgt := 771) C dL_law_766 (by decide) (fun h9 => ?_) (fun h9 => ?_)
      · have hf := x_t h9 hf
        refine x_goto (tgt := 2256) C dL_law_771 (by decide) ?_
        refine x_perm (wss' := [ccO g a b y z, stO g a 10 u2.2.1, cdW g a 10 u2.2.2.1, evW g a 10 u2.2.2.2.1, stO g a 20 v2, cdW g a 20 c2, evW g a 20 e2, stO g a 30 v3, cdW g a 30 c3, evW g a 30 e3, hiO g a u2.2.2.2.2.1, hrW g a t, stF g a u2.2.2.2.2.2.1, cdF g a u2.2.2.2.2.2.2.1, evF g a u2.2.2.2.2.2.2.2.1, prO g b q, caW g b t2, cmF g b ws, sbO g y zz k, baW g zz n f, mdO g d u4.2.1, iaW g (d 1) 110 u4.2.2.1, iaW g (d 2) 110 u4.2.2.2.1, iaW g (d 3) 110 r3, iaW g (d 4) 110 r4, iaW g (d 5) 880 u4.2.2.2.2, iaW g (d 6) 200 r6, iaW g (d 7) 60 r7, iaW g (d 8) 124 r8, loW g w u2.2.2.2.2.2.2.2.2, doW g w2 dd]) (x_pick [4, 5, 6, 7, 14, 15, 16, 17, 18, 19, 8, 9, 10, 11, 12, 20, 21, 22, 23, 24, 0, 1, 2, 25, 26, 3, 27, 28, 29, 13, 30] 31 rfl rfl rfl) ?_
        refine x_locals (lv' := [(0, .ref sb), (1, .ref (a 0)), (2, .ref (d 0)), (3, .ref w), (4, .ref w2), (5, .int i)]) [2, 3, 4, 5, 6, 7] rfl ?_
        refine x_widen (k := cells + 292) (n := slots + 5516) (by omega) (by omega) ?_
        obtain rfl := Option.some.inj hf
        exact kk zz
      · have hf := x_f h9 hf
        cases hf
  · have hf := x_f h6 hf
    cases hf
set_option maxHeartbeats 4000000 in
set_option maxRecDepth 100000 in
theorem c_law_774 (a : Nat → Nat) (b : Nat → Nat) (y : Nat) (zz : Nat) (n : Nat) (d : Nat → Nat) (w : Nat) (w2 : Nat) (C : CX g RL cL_law 9 A pW sW mW argsW methW c9) (hl : l.stackTraces = false) (hX : va_X sb L xs sW sW.heap) (hbl : sb < sW.heap.size) (hbA : ¬ A sb) (hc : cells + 292 ≤ room_1.cells) (hs : slots + 5516 ≤ room_1.slots) (z : CcT) (v : StS) (c : CdT) (e : EvT) (v2 : StS) (c2 : CdT) (e2 : EvT) (v3 : StS) (c3 : CdT) (e3 : EvT) (h : HiT) (t : Unit) (vs : (Nat → StS)) (cs : (Nat → CdT)) (es : (Nat → EvT)) (q : PrT) (t2 : Unit) (ws : (Nat → CmT)) (k : SbT) (f : (Nat → Int32)) (m : MdT) (r1 : (Nat → Int32)) (r2 : (Nat → Int32)) (r3 : (Nat → Int32)) (r4 : (Nat → Int32)) (r5 : (Nat → Int32)) (r6 : (Nat → Int32)) (r7 : (Nat → Int32)) (r8 : (Nat → Int32)) (lo : (Nat → Int64)) (dd : (Nat → UInt64)) (i : Int32) {u : LwT} (hf : f_law_774 n L xs z v c e v2 c2 e2 v3 c3 e3 h t vs cs es q t2 ws k f m r1 r2 r3 r4 r5 r6 r7 r8 lo dd i = some u)
    (kk : ∀ zz' : Nat, VW g A 9 pW l eW room_1 sW mW argsW belowW methW c9 (cells + 292) (slots + 5516) Q [ccO g a b y u.1, stO g a 10 u.2.1, cdW g a 10 u.2.2.1, evW g a 10 u.2.2.2.1, stO g a 20 u.2.2.2.2.1, cdW g a 20 u.2.2.2.2.2.1, evW g a 20 u.2.2.2.2.2.2.1, stO g a 30 u.2.2.2.2.2.2.2.1, cdW g a 30 u.2.2.2.2.2.2.2.2.1, evW g a 30 u.2.2.2.2.2.2.2.2.2.1, hiO g a u.2.2.2.2.2.2.2.2.2.2.1, hrW g a u.2.2.2.2.2.2.2.2.2.2.2.1, stF g a u.2.2.2.2.2.2.2.2.2.2.2.2.1, cdF g a u.2.2.2.2.2.2.2.2.2.2.2.2.2.1, evF g a u.2.2.2.2.2.2.2.2.2.2.2.2.2.2.1, prO g b u.2.2.2.2.2.2.2.2.2.2.2.2.2.2.2.1, caW g b u.2.2.2.2.2.2.2.2.2.2.2.2.2.2.2.2.1, cmF g b u.2.2.2.2.2.2.2.2.2.2.2.2.2.2.2.2.2.1, sbO g y zz' u.2.2.2.2.2.2.2.2.2.2.2.2.2.2.2.2.2.2.1, baW g zz' u.2.2.2.2.2.2.2.2.2.2.2.2.2.2.2.2.2.2.2.2.2.2.2.2.2.2.2.2.2.2.2 u.2.2.2.2.2.2.2.2.2.2.2.2.2.2.2.2.2.2.2.1, mdO g d u.2.2.2.2.2.2.2.2.2.2.2.2.2.2.2.2.2.2.2.2.1, iaW g (d 1) 110 u.2.2.2.2.2.2.2.2.2.2.2.2.2.2.2.2.2.2.2.2.2.1, iaW g (d 2) 110 u.2.2.2.2.2.2.2.2.2.2.2.2.2.2.2.2.2.2.2.2.2.2.1, iaW g (d 3) 110 u.2.2.2.2.2.2.2.2.2.2.2.2.2.2.2.2.2.2.2.2.2.2.2.1, iaW g (d 4) 110 u.2.2.2.2.2.2.2.2.2.2.2.2.2.2.2.2.2.2.2.2.2.2.2.2.1, iaW g (d 5) 880 u.2.2.2.2.2.2.2.2.2.2.2.2.2.2.2.2.2.2.2.2.2.2.2.2.2.1, iaW g (d 6) 200 u.2.2.2.2.2.2.2.2.2.2.2.2.2.2.2.2.2.2.2.2.2.2.2.2.2.2.1, iaW g (d 7) 60 u.2.2.2.2.2.2.2.2.2.2.2.2.2.2.2.2.2.2.2.2.2.2.2.2.2.2.2.1, iaW g (d 8) 124 u.2.2.2.2.2.2.2.2.2.2.2.2.2.2.2.2.2.2.2.2.2.2.2.2.2.2.2.2.1, loW g w u.2.2.2.2.2.2.2.2.2.2.2.2.2.2.2.2.2.2.2.2.2.2.2.2.2.2.2.2.2.1, doW g w2 u.2.2.2.2.2.2.2.2.2.2.2.2.2.2.2.2.2.2.2.2.2.2.2.2.2.2.2.2.2.2.1] [(0, .ref sb), (1, .ref (a 0)), (2, .ref (d 0)), (3, .ref w), (4, .ref w2), (5, .int i)] 2256 []) : VW g A 9 pW l eW room_1 sW mW argsW belowW methW c9 cells slots Q [ccO g a b y z, stO g a 10 v, cdW g a 10 c, evW g a 10 e, stO g a 20 v2, cdW g a 20 c2, evW g a 20 e2, stO g a 30 v3, cdW g a 30 c3, evW g a 30 e3, hiO g a h, hrW g a t, stF g a vs, cdF g a cs, evF g a es, prO g b q, caW g b t2, cmF g b ws, sbO g y zz k, baW g zz n f, mdO g d m, iaW g (d 1) 110 r1, iaW g (d 2) 110 r2, iaW g (d 3) 110 r3, iaW g (d 4) 110 r4, iaW g (d 5) 880 r5, iaW g (d 6) 200 r6, iaW g (d 7) 60 r7, iaW g (d 8) 124 r8, loW g w lo, doW g w2 dd] [(0, .ref sb), (1, .ref (a 0)), (2, .ref (d 0)), (3, .ref w), (4, .ref w2), (5, .int i)] 774 [] := by
  unfold f_law_774 at hf
  have C : CX g RL cL_law 9 A pW sW mW argsW methW c9 := C
  refine x_aload_n C dL_law_774 rfl 1 rfl ?_
  obtain ⟨u1, hu1, hf⟩ := x_b hf
  refine x_callV (n := 0) (As := []) (rest := []) C (c_X9_candles g l a b y z v c hu1) ⟨⟨wd_365, wd_362, wd_65⟩, ⟨by decide, by decide, by decide⟩, rfl, rfl, Nat.le_of_ble_eq_true rfl, Nat.le_of_ble_eq_true rfl⟩ wd_363 wd_364 ⟨0, 10, _, _, rfl, rfl, rfl⟩ [evW g a 10 e, stO g a 20 v2, cdW g a 20 c2, evW g a 20 e2, stO g a 30 v3, cdW g a 30 c3, evW g a 30 e3, hiO g a h, hrW g a t, stF g a vs, cdF g a cs, evF g a es, prO g b q, caW g b t2, cmF g b ws, sbO g y zz k, baW g zz n f, mdO g d m, iaW g (d 1) 110 r1, iaW g (d 2) 110 r2, iaW g (d 3) 110 r3, iaW g (d 4) 110 r4, iaW g (d 5) 880 r5, iaW g (d 6) 200 r6, iaW g (d 7) 60 r7, iaW g (d 8) 124 r8, loW g w lo, doW g w2 dd] (x_pickD [0, 1, 2, 3, 4, 5, 6, 7, 8, 9, 10, 11, 12, 13, 14, 15, 16, 17, 18, 19, 20, 21, 22, 23, 24, 25, 26, 27, 28, 29, 30] 31 rfl rfl rfl) rfl rfl (Nat.le_of_ble_eq_true rfl) ⟨by omega, by omega⟩ dL_law_775 (x_goD (wss2 := [ccO g a b y z, stO g a 10 v, cdW g a 10 c, evW g a 10 e, stO g a 20 v2, cdW g a 20 c2, evW g a 20 e2, stO g a 30 v3, cdW g a 30 c3, evW g a 30 e3, hiO g a h, hrW g a t, stF g a vs, cdF g a cs, evF g a es, prO g b q, caW g b t2, cmF g b ws, sbO g y zz k, baW g zz n f, mdO g d m, iaW g (d 1) 110 r1, iaW g (d 2) 110 r2, iaW g (d 3) 110 r3, iaW g (d 4) 110 r4, iaW g (d 5) 880 r5, iaW g (d 6) 200 r6, iaW g (d 7) 60 r7, iaW g (d 8) 124 r8, loW g w lo, doW g w2 dd]) (stk2 := [.int u1]) rfl rfl ?_)
  refine x_aload_n C dL_law_778 rfl 2 rfl ?_
  obtain ⟨u2, hu2, hf⟩ := x_b hf
  refine x_callV (n := 0) (As := []) (rest := [.int u1]) C (c_X10_candles g l d m r1 hu2) ⟨⟨wd_1687, wd_1684, wd_78⟩, ⟨by decide, by decide, by decide⟩, rfl, rfl, Nat.le_of_ble_eq_true rfl, Nat.le_of_ble_eq_true rfl⟩ wd_1685 wd_1686 ⟨0, 11, _, _, rfl, rfl, rfl⟩ [ccO g a b y z, stO g a 10 v, cdW g a 10 c, evW g a 10 e, stO g a 20 v2, cdW g a 20 c2, evW g a 20 e2, stO g a 30 v3, cdW g a 30 c3, evW g a 30 e3, hiO g a h, hrW g a t, stF g a vs, cdF g a cs, evF g a es, prO g b q, caW g b t2, cmF g b ws, sbO g y zz k, baW g zz n f, iaW g (d 2) 110 r2, iaW g (d 3) 110 r3, iaW g (d 4) 110 r4, iaW g (d 5) 880 r5, iaW g (d 6) 200 r6, iaW g (d 7) 60 r7, iaW g (d 8) 124 r8, loW g w lo, doW g w2 dd] (x_pickD [20, 21, 0, 1, 2, 3, 4, 5, 6, 7, 8, 9, 10, 11, 12, 13, 14, 15, 16, 17, 18, 19, 22, 23, 24, 25, 26, 27, 28, 29, 30] 31 rfl rfl rfl) rfl rfl (Nat.le_of_ble_eq_true rfl) ⟨by omega, by omega⟩ dL_law_779 (x_goD (wss2 := [mdO g d u2.2, iaW g (d 1) 110 r1, ccO g a b y z, stO g a 10 v, cdW g a 10 c, evW g a 10 e, stO g a 20 v2, cdW g a 20 c2, evW g a 20 e2, stO g a 30 v3, cdW g a 30 c3, evW g a 30 e3, hiO g a h, hrW g a t, stF g a vs, cdF g a cs, evF g a es, prO g b q, caW g b t2, cmF g b ws, sbO g y zz k, baW g zz n f, iaW g (d 2) 110 r2, iaW g (d 3) 110 r3, iaW g (d 4) 110 r4, iaW g (d 5) 880 r5, iaW g (d 6) 200 r6, iaW g (d 7) 60 r7, iaW g (d 8) 124 r8, loW g w lo, doW g w2 dd]) (stk2 := [.int u2.1, .int u1]) rfl rfl ?_)
  refine x_icmp_eq (tgt := 2256) C dL_law_782 (by decide) (fun h3 => ?_) (fun h3 => ?_)
  · have hf := x_t h3 hf
    refine x_perm (wss' := [ccO g a b y z, stO g a 10 v, cdW g a 10 c, evW g a 10 e, stO g a 20 v2, cdW g a 20 c2, evW g a 20 e2, stO g a 30 v3, cdW g a 30 c3, evW g a 30 e3, hiO g a h, hrW g a t, stF g a vs, cdF g a cs, evF g a es, prO g b q, caW g b t2, cmF g b ws, sbO g y zz k, baW g zz n f, mdO g d u2.2, iaW g (d 1) 110 r1, iaW g (d 2) 110 r2, iaW g (d 3) 110 r3, iaW g (d 4) 110 r4, iaW g (d 5) 880 r5, iaW g (d 6) 200 r6, iaW g (d 7) 60 r7, iaW g (d 8) 124 r8, loW g w lo, doW g w2 dd]) (x_pick [2, 3, 4, 5, 6, 7, 8, 9, 10, 11, 12, 13, 14, 15, 16, 17, 18, 19, 20, 21, 0, 1, 22, 23, 24, 25, 26, 27, 28, 29, 30] 31 rfl rfl rfl) ?_
    refine x_locals (lv' := [(0, .ref sb), (1, .ref (a 0)), (2, .ref (d 0)), (3, .ref w), (4, .ref w2), (5, .int i)]) [0, 1, 2, 3, 4, 5] rfl ?_
    refine x_widen (k := cells + 292) (n := slots + 5516) (by omega) (by omega) ?_
    obtain rfl := Option.some.inj hf
    exact kk zz
  · have hf := x_f h3 hf
    cases hf
set_option maxHeartbeats 4000000 in
set_option maxRecDepth 100000 in
theorem c_law_787 (a : Nat → Nat) (b : Nat → Nat) (y : Nat) (zz : Nat) (n : Nat) (d : Nat → Nat) (w : Nat) (w2 : Nat) (C : CX g RL cL_law 9 A pW sW mW argsW methW c9) (hl : l.stackTraces = false) (hX : va_X sb L xs sW sW.heap) (hbl : sb < sW.heap.size) (hbA : ¬ A sb) (hc : cells + 292 ≤ room_1.cells) (hs : slots + 5516 ≤ room_1.slots) (z : CcT) (v : StS) (c : CdT) (e : EvT) (v2 : StS) (c2 : CdT) (e2 : EvT) (v3 : StS) (c3 : CdT) (e3 : EvT) (h : HiT) (t : Unit) (vs : (Nat → StS)) (cs : (Nat → CdT)) (es : (Nat → EvT)) (q : PrT) (t2 : Unit) (ws : (Nat → CmT)) (k : SbT) (f : (Nat → Int32)) (m : MdT) (r1 : (Nat → Int32)) (r2 : (Nat → Int32)) (r3 : (Nat → Int32)) (r4 : (Nat → Int32)) (r5 : (Nat → Int32)) (r6 : (Nat → Int32)) (r7 : (Nat → Int32)) (r8 : (Nat → Int32)) (lo : (Nat → Int64)) (dd : (Nat → UInt64)) (i : Int32) {u : LwT} (hf : f_law_787 n L xs z v c e v2 c2 e2 v3 c3 e3 h t vs cs es q t2 ws k f m r1 r2 r3 r4 r5 r6 r7 r8 lo dd i = some u)
    (kk : ∀ zz' : Nat, VW g A 9 pW l eW room_1 sW mW argsW belowW methW c9 (cells + 292) (slots + 5516) Q [ccO g a b y u.1, stO g a 10 u.2.1, cdW g a 10 u.2.2.1, evW g a 10 u.2.2.2.1, stO g a 20 u.2.2.2.2.1, cdW g a 20 u.2.2.2.2.2.1, evW g a 20 u.2.2.2.2.2.2.1, stO g a 30 u.2.2.2.2.2.2.2.1, cdW g a 30 u.2.2.2.2.2.2.2.2.1, evW g a 30 u.2.2.2.2.2.2.2.2.2.1, hiO g a u.2.2.2.2.2.2.2.2.2.2.1, hrW g a u.2.2.2.2.2.2.2.2.2.2.2.1, stF g a u.2.2.2.2.2.2.2.2.2.2.2.2.1, cdF g a u.2.2.2.2.2.2.2.2.2.2.2.2.2.1, evF g a u.2.2.2.2.2.2.2.2.2.2.2.2.2.2.1, prO g b u.2.2.2.2.2.2.2.2.2.2.2.2.2.2.2.1, caW g b u.2.2.2.2.2.2.2.2.2.2.2.2.2.2.2.2.1, cmF g b u.2.2.2.2.2.2.2.2.2.2.2.2.2.2.2.2.2.1, sbO g y zz' u.2.2.2.2.2.2.2.2.2.2.2.2.2.2.2.2.2.2.1, baW g zz' u.2.2.2.2.2.2.2.2.2.2.2.2.2.2.2.2.2.2.2.2.2.2.2.2.2.2.2.2.2.2.2 u.2.2.2.2.2.2.2.2.2.2.2.2.2.2.2.2.2.2.2.1, mdO g d u.2.2.2.2.2.2.2.2.2.2.2.2.2.2.2.2.2.2.2.2.1, iaW g (d 1) 110 u.2.2.2.2.2.2.2.2.2.2.2.2.2.2.2.2.2.2.2.2.2.1, iaW g (d 2) 110 u.2.2.2.2.2.2.2.2.2.2.2.2.2.2.2.2.2.2.2.2.2.2.1, iaW g (d 3) 110 u.2.2.2.2.2.2.2.2.2.2.2.2.2.2.2.2.2.2.2.2.2.2.2.1, iaW g (d 4) 110 u.2.2.2.2.2.2.2.2.2.2.2.2.2.2.2.2.2.2.2.2.2.2.2.2.1, iaW g (d 5) 880 u.2.2.2.2.2.2.2.2.2.2.2.2.2.2.2.2.2.2.2.2.2.2.2.2.2.1, iaW g (d 6) 200 u.2.2.2.2.2.2.2.2.2.2.2.2.2.2.2.2.2.2.2.2.2.2.2.2.2.2.1, iaW g (d 7) 60 u.2.2.2.2.2.2.2.2.2.2.2.2.2.2.2.2.2.2.2.2.2.2.2.2.2.2.2.1, iaW g (d 8) 124 u.2.2.2.2.2.2.2.2.2.2.2.2.2.2.2.2.2.2.2.2.2.2.2.2.2.2.2.2.1, loW g w u.2.2.2.2.2.2.2.2.2.2.2.2.2.2.2.2.2.2.2.2.2.2.2.2.2.2.2.2.2.1, doW g w2 u.2.2.2.2.2.2.2.2.2.2.2.2.2.2.2.2.2.2.2.2.2.2.2.2.2.2.2.2.2.2.1] [(0, .ref sb), (1, .ref (a 0)), (2, .ref (d 0)), (3, .ref w), (4, .ref w2), (5, .int i)] 2256 []) : VW g A 9 pW l eW room_1 sW mW argsW belowW methW c9 cells slots Q [ccO g a b y z, stO g a 10 v, cdW g a 10 c, evW g a 10 e, stO g a 20 v2, cdW g a 20 c2, evW g a 20 e2, stO g a 30 v3, cdW g a 30 c3, evW g a 30 e3, hiO g a h, hrW g a t, stF g a vs, cdF g a cs, evF g a es, prO g b q, caW g b t2, cmF g b ws, sbO g y zz k, baW g zz n f, mdO g d m, iaW g (d 1) 110 r1, iaW g (d 2) 110 r2, iaW g (d 3) 110 r3, iaW g (d 4) 110 r4, iaW g (d 5) 880 r5, iaW g (d 6) 200 r6, iaW g (d 7) 60 r7, iaW g (d 8) 124 r8, loW g w lo, doW g w2 dd] [(0, .ref sb), (1, .ref (a 0)), (2, .ref (d 0)), (3, .ref w), (4, .ref w2), (5, .int i)] 787 [] := by
  unfold f_law_787 at hf
  have C : CX g RL cL_law 9 A pW sW mW argsW methW c9 := C
  refine x_aload_n C dL_law_787 rfl 1 rfl ?_
  refine x_aload_n C dL_law_788 rfl 0 rfl ?_
  refine x_iload C dL_law_789 5 rfl ?_
  refine x_iconst (v := 1) C dL_law_791 (by decide) ?_
  refine x_iadd C dL_law_792 ?_
  obtain ⟨h1, hf⟩ := x_n hf
  refine x_sld C hX hbl hbA h1 dL_law_793 ?_
  refine x_aload_n C dL_law_794 rfl 3 rfl ?_
  obtain ⟨u2, hu2, hf⟩ := x_b hf
  refine x_hcallS (n := 3) (As := [.ref (a 0), .int (xs (i + (1 : Int32)).toNatClampNeg), .ref w]) (rest := []) C (c_L_voice g l hl a b y w z v c lo (xs (i + (1 : Int32)).toNatClampNeg) hu2) ⟨⟨wd_1113, wd_1111, wd_64⟩, ⟨by decide, by decide, by decide⟩, rfl, rfl, Nat.le_of_ble_eq_true rfl, Nat.le_of_ble_eq_true rfl⟩ wd_1112 [evW g a 10 e, stO g a 20 v2, cdW g a 20 c2, evW g a 20 e2, stO g a 30 v3, cdW g a 30 c3, evW g a 30 e3, hiO g a h, hrW g a t, stF g a vs, cdF g a cs, evF g a es, prO g b q, caW g b t2, cmF g b ws, sbO g y zz k, baW g zz n f, mdO g d m, iaW g (d 1) 110 r1, iaW g (d 2) 110 r2, iaW g (d 3) 110 r3, iaW g (d 4) 110 r4, iaW g (d 5) 880 r5, iaW g (d 6) 200 r6, iaW g (d 7) 60 r7, iaW g (d 8) 124 r8, doW g w2 dd] (x_pickD [0, 1, 2, 29, 3, 4, 5, 6, 7, 8, 9, 10, 11, 12, 13, 14, 15, 16, 17, 18, 19, 20, 21, 22, 23, 24, 25, 26, 27, 28, 30] 31 rfl rfl rfl) rfl rfl (Nat.le_of_ble_eq_true rfl) ⟨by omega, by omega⟩ dL_law_795 (fun v9 w9 hQ9 => ?_)
  obtain ⟨rfl, rfl⟩ := hQ9
  refine x_goW (wss2 := [ccO g a b y z, stO g a 10 v, cdW g a 10 c, loW g w u2.2, evW g a 10 e, stO g a 20 v2, cdW g a 20 c2, evW g a 20 e2, stO g a 30 v3, cdW g a 30 c3, evW g a 30 e3, hiO g a h, hrW g a t, stF g a vs, cdF g a cs, evF g a es, prO g b q, caW g b t2, cmF g b ws, sbO g y zz k, baW g zz n f, mdO g d m, iaW g (d 1) 110 r1, iaW g (d 2) 110 r2, iaW g (d 3) 110 r3, iaW g (d 4) 110 r4, iaW g (d 5) 880 r5, iaW g (d 6) 200 r6, iaW g (d 7) 60 r7, iaW g (d 8) 124 r8, doW g w2 dd]) (stk2 := [.int u2.1]) rfl rfl rfl ?_
  refine x_istore (lv' := [(6, .int u2.1), (0, .ref sb), (1, .ref (a 0)), (2, .ref (d 0)), (3, .ref w), (4, .ref w2), (5, .int i)]) C dL_law_798 (by decide) rfl ?_
  refine x_aload_n C dL_law_800 rfl 3 rfl ?_
  refine x_aload_n C dL_law_801 rfl 1 rfl ?_
  refine x_iload C dL_law_802 6 rfl ?_
  refine x_iconst (v := 1) C dL_law_804 (by decide) ?_
  refine x_iadd C dL_law_805 ?_
  obtain ⟨h3, hf⟩ := x_n hf
  refine x_sld C hX hbl hbA h3 dL_law_806 ?_
  obtain ⟨u4, hu4, hf⟩ := x_b hf
  refine x_callV (n := 1) (As := [.int (xs (i + (1 : Int32)).toNatClampNeg)]) (rest := []) C (c_X10_voice g l d m r1 (xs (i + (1 : Int32)).toNatClampNeg) hu4) ⟨⟨wd_1691, wd_1688, wd_78⟩, ⟨by decide, by decide, by decide⟩, rfl, rfl, Nat.le_of_ble_eq_true rfl, Nat.le_of_ble_eq_true rfl⟩ wd_1689 wd_1690 ⟨0, 11, _, _, rfl, rfl, rfl⟩ [ccO g a b y z, stO g a 10 v, cdW g a 10 c, loW g w u2.2, evW g a 10 e, stO g a 20 v2, cdW g a 20 c2, evW g a 20 e2, stO g a 30 v3, cdW g a 30 c3, evW g a 30 e3, hiO g a h, hrW g a t, stF g a vs, cdF g a cs, evF g a es, prO g b q, caW g b t2, cmF g b ws, sbO g y zz k, baW g zz n f, iaW g (d 2) 110 r2, iaW g (d 3) 110 r3, iaW g (d 4) 110 r4, iaW g (d 5) 880 r5, iaW g (d 6) 200 r6, iaW g (d 7) 60 r7, iaW g (d 8) 124 r8, doW g w2 dd] (x_pickD [21, 22, 0, 1, 2, 3, 4, 5, 6, 7, 8, 9, 10, 11, 12, 13, 14, 15, 16, 17, 18, 19, 20, 23, 24, 25, 26, 27, 28, 29, 30] 31 rfl rfl rfl) rfl rfl (Nat.le_of_ble_eq_true rfl) ⟨by omega, by omega⟩ dL_law_807 (x_goD (wss2 := [mdO g d u4.2, iaW g (d 1) 110 r1, ccO g a b y z, stO g a 10 v, cdW g a 10 c, loW g w u2.2, evW g a 10 e, stO g a 20 v2, cdW g a 20 c2, evW g a 20 e2, stO g a 30 v3, cdW g a 30 c3, evW g a 30 e3, hiO g a h, hrW g a t, stF g a vs, cdF g a cs, evF g a es, prO g b q, caW g b t2, cmF g b ws, sbO g y zz k, baW g zz n f, iaW g (d 2) 110 r2, iaW g (d 3) 110 r3, iaW g (d 4) 110 r4, iaW g (d 5) 880 r5, iaW g (d 6) 200 r6, iaW g (d 7) 60 r7, iaW g (d 8) 124 r8, doW g w2 dd]) (stk2 := [.int u4.1]) rfl rfl ?_)
  refine x_istore (lv' := [(7, .int u4.1), (6, .int u2.1), (0, .ref sb), (1, .ref (a 0)), (2, .ref (d 0)), (3, .ref w), (4, .ref w2), (5, .int i)]) C dL_law_810 (by decide) rfl ?_
  refine x_aload_n C dL_law_812 rfl 4 rfl ?_
  obtain ⟨u5, hu5, hf⟩ := x_b hf
  refine x_callV (n := 0) (As := []) (rest := []) C (c_X10_thrown g l d u4.2 hu5) ⟨⟨wd_1550, wd_1547, wd_78⟩, ⟨by decide, by decide, by decide⟩, rfl, rfl, Nat.le_of_ble_eq_true rfl, Nat.le_of_ble_eq_true rfl⟩ wd_1548 wd_1549 ⟨0, 11, _, _, rfl, rfl, rfl⟩ [iaW g (d 1) 110 r1, ccO g a b y z, stO g a 10 v, cdW g a 10 c, loW g w u2.2, evW g a 10 e, stO g a 20 v2, cdW g a 20 c2, evW g a 20 e2, stO g a 30 v3, cdW g a 30 c3, evW g a 30 e3, hiO g a h, hrW g a t, stF g a vs, cdF g a cs, evF g a es, prO g b q, caW g b t2, cmF g b ws, sbO g y zz k, baW g zz n f, iaW g (d 2) 110 r2, iaW g (d 3) 110 r3, iaW g (d 4) 110 r4, iaW g (d 5) 880 r5, iaW g (d 6) 200 r6, iaW g (d 7) 60 r7, iaW g (d 8) 124 r8, doW g w2 dd] (x_pickD [0, 1, 2, 3, 4, 5, 6, 7, 8, 9, 10, 11, 12, 13, 14, 15, 16, 17, 18, 19, 20, 21, 22, 23, 24, 25, 26, 27, 28, 29, 30] 31 rfl rfl rfl) rfl rfl (Nat.le_of_ble_eq_true rfl) ⟨by omega, by omega⟩ dL_law_813 (x_goD (wss2 := [mdO g d u4.2, iaW g (d 1) 110 r1, ccO g a b y z, stO g a 10 v, cdW g a 10 c, loW g w u2.2, evW g a 10 e, stO g a 20 v2, cdW g a 20 c2, evW g a 20 e2, stO g a 30 v3, cdW g a 30 c3, evW g a 30 e3, hiO g a h, hrW g a t, stF g a vs, cdF g a cs, evF g a es, prO g b q, caW g b t2, cmF g b ws, sbO g y zz k, baW g zz n f, iaW g (d 2) 110 r2, iaW g (d 3) 110 r3, iaW g (d 4) 110 r4, iaW g (d 5) 880 r5, iaW g (d 6) 200 r6, iaW g (d 7) 60 r7, iaW g (d 8) 124 r8, doW g w2 dd]) (stk2 := [.int u5]) rfl rfl ?_)
  refine x_iload C dL_law_816 1 rfl ?_
  refine x_icmp_eq (tgt := 823) C dL_law_818 (by decide) (fun h6 => ?_) (fun h6 => ?_)
  · have hf := x_t h6 hf
    refine x_iload C dL_law_823 1 rfl ?_
    refine x_if_ne (tgt := 840) C dL_law_825 (by decide) (fun h7 => ?_) (fun h7 => ?_)
    · have hf := x_f h7 hf
      refine x_goto (tgt := 2256) C dL_law_840 (by decide) ?_
      refine x_perm (wss' := [ccO g a b y z, stO g a 10 v, cdW g a 10 c, evW g a 10 e, stO g a 20 v2, cdW g a 20 c2, evW g a 20 e2, stO g a 30 v3, cdW g a 30 c3, evW g a 30 e3, hiO g a h, hrW g a t, stF g a vs, cdF g a cs, evF g a es, prO g b q, caW g b t2, cmF g b ws, sbO g y zz k, baW g zz n f, mdO g d u4.2, iaW g (d 1) 110 r1, iaW g (d 2) 110 r2, iaW g (d 3) 110 r3, iaW g (d 4) 110 r4, iaW g (d 5) 880 r5, iaW g (d 6) 200 r6, iaW g (d 7) 60 r7, iaW g (d 8) 124 r8, loW g w u2.2, doW g w2 dd]) (x_pick [2, 3, 4, 6, 7, 8, 9, 10, 11, 12, 13, 14, 15, 16, 17, 18, 19, 20, 21, 22, 0, 1, 23, 24, 25, 26, 27, 28, 29, 5, 30] 31 rfl rfl rfl) ?_
      refine x_locals (lv' := [(0, .ref sb), (1, .ref (a 0)), (2, .ref (d 0)), (3, .ref w), (4, .ref w2), (5, .int i)]) [2, 3, 4, 5, 6, 7] rfl ?_
      refine x_widen (k := cells + 292) (n := slots + 5516) (by omega) (by omega) ?_
      obtain rfl := Option.some.inj hf
      exact kk zz
    · have hf := x_t h7 hf
      refine x_aload_n C dL_law_828 rfl 5 rfl ?_
      refine x_iconst (v := 0) C dL_law_829 (by decide) ?_
      obtain ⟨h8, hf⟩ := x_n hf
      refine x_lald (b := loW g w u2.2) C 5 rfl 0 (loW_at0 g w _) h8 dL_law_830 ?_
      refine x_iload C dL_law_831 0 rfl ?_
      refine x_i2l C dL_law_833 rfl ?_
      refine x_lcmp C dL_law_834 ?_
      refine x_if_eq (tgt := 840) C dL_law_835 (by decide) (fun h9 => ?_) (fun h9 => ?_)
      · have hf := x_t h9 hf
        refine x_goto (tgt := 2256) C dL_law_840 (by decide) ?_
        refine x_perm (wss' := [ccO g a b y z, stO g a 10 v, cdW g a 10 c, evW g a 10 e, stO g a 20 v2, cdW g a 20 c2, evW g a 20 e2, stO g a 30 v3, cdW g a 30 c3, evW g a 30 e3, hiO g a h, hrW g a t, stF g a vs, cdF g a cs, evF g a es, prO g b q, caW g b t2, cmF g b ws, sbO g y zz k, baW g zz n f, mdO g d u4.2, iaW g (d 1) 110 r1, iaW g (d 2) 110 r2, iaW g (d 3) 110 r3, iaW g (d 4) 110 r4, iaW g (d 5) 880 r5, iaW g (d 6) 200 r6, iaW g (d 7) 60 r7, iaW g (d 8) 124 r8, loW g w u2.2, doW g w2 dd]) (x_pick [2, 3, 4, 6, 7, 8, 9, 10, 11, 12, 13, 14, 15, 16, 17, 18, 19, 20, 21, 22, 0, 1, 23, 24, 25, 26, 27, 28, 29, 5, 30] 31 rfl rfl rfl) ?_
        refine x_locals (lv' := [(0, .ref sb), (1, .ref (a 0)), (2, .ref (d 0)), (3, .ref w), (4, .ref w2), (5, .int i)]) [2, 3, 4, 5, 6, 7] rfl ?_
        refine x_widen (k := cells + 292) (n := slots + 5516) (by omega) (by omega) ?_
        obtain rfl := Option.some.inj hf
        exact kk zz
      · have hf := x_f h9 hf
        cases hf
  · have hf := x_f h6 hf
    cases hf
set_option maxHeartbeats 4000000 in
set_option maxRecDepth 100000 in
theorem c_law_843 (a : Nat → Nat) (b : Nat → Nat) (y : Nat) (zz : Nat) (n : Nat) (d : Nat → Nat) (w : Nat) (w2 : Nat) (C : CX g RL cL_law 9 A pW sW mW argsW methW c9) (hl : l.stackTraces = false) (hX : va_X sb L xs sW sW.heap) (hbl : sb < sW.heap.size) (hbA : ¬ A sb) (hc : cells + 292 ≤ room_1.cells) (hs : slots + 5516 ≤ room_1.slots) (z : CcT) (v : StS) (c : CdT) (e : EvT) (v2 : StS) (c2 : CdT) (e2 : EvT) (v3 : StS) (c3 : CdT) (e3 : EvT) (h : HiT) (t : Unit) (vs : (Nat → StS)) (cs : (Nat → CdT)) (es : (Nat → EvT)) (q : PrT) (t2 : Unit) (ws : (Nat → CmT)) (k : SbT) (f : (Nat → Int32)) (m : MdT) (r1 : (Nat → Int32)) (r2 : (Nat → Int32)) (r3 : (Nat → Int32)) (r4 : (Nat → Int32)) (r5 : (Nat → Int32)) (r6 : (Nat → Int32)) (r7 : (Nat → Int32)) (r8 : (Nat → Int32)) (lo : (Nat → Int64)) (dd : (Nat → UInt64)) (i : Int32) {u : LwT} (hf : f_law_843 n L xs z v c e v2 c2 e2 v3 c3 e3 h t vs cs es q t2 ws k f m r1 r2 r3 r4 r5 r6 r7 r8 lo dd i = some u)
    (kk : ∀ zz' : Nat, VW g A 9 pW l eW room_1 sW mW argsW belowW methW c9 (cells + 292) (slots + 5516) Q [ccO g a b y u.1, stO g a 10 u.2.1, cdW g a 10 u.2.2.1, evW g a 10 u.2.2.2.1, stO g a 20 u.2.2.2.2.1, cdW g a 20 u.2.2.2.2.2.1, evW g a 20 u.2.2.2.2.2.2.1, stO g a 30 u.2.2.2.2.2.2.2.1, cdW g a 30 u.2.2.2.2.2.2.2.2.1, evW g a 30 u.2.2.2.2.2.2.2.2.2.1, hiO g a u.2.2.2.2.2.2.2.2.2.2.1, hrW g a u.2.2.2.2.2.2.2.2.2.2.2.1, stF g a u.2.2.2.2.2.2.2.2.2.2.2.2.1, cdF g a u.2.2.2.2.2.2.2.2.2.2.2.2.2.1, evF g a u.2.2.2.2.2.2.2.2.2.2.2.2.2.2.1, prO g b u.2.2.2.2.2.2.2.2.2.2.2.2.2.2.2.1, caW g b u.2.2.2.2.2.2.2.2.2.2.2.2.2.2.2.2.1, cmF g b u.2.2.2.2.2.2.2.2.2.2.2.2.2.2.2.2.2.1, sbO g y zz' u.2.2.2.2.2.2.2.2.2.2.2.2.2.2.2.2.2.2.1, baW g zz' u.2.2.2.2.2.2.2.2.2.2.2.2.2.2.2.2.2.2.2.2.2.2.2.2.2.2.2.2.2.2.2 u.2.2.2.2.2.2.2.2.2.2.2.2.2.2.2.2.2.2.2.1, mdO g d u.2.2.2.2.2.2.2.2.2.2.2.2.2.2.2.2.2.2.2.2.1, iaW g (d 1) 110 u.2.2.2.2.2.2.2.2.2.2.2.2.2.2.2.2.2.2.2.2.2.1, iaW g (d 2) 110 u.2.2.2.2.2.2.2.2.2.2.2.2.2.2.2.2.2.2.2.2.2.2.1, iaW g (d 3) 110 u.2.2.2.2.2.2.2.2.2.2.2.2.2.2.2.2.2.2.2.2.2.2.2.1, iaW g (d 4) 110 u.2.2.2.2.2.2.2.2.2.2.2.2.2.2.2.2.2.2.2.2.2.2.2.2.1, iaW g (d 5) 880 u.2.2.2.2.2.2.2.2.2.2.2.2.2.2.2.2.2.2.2.2.2.2.2.2.2.1, iaW g (d 6) 200 u.2.2.2.2.2.2.2.2.2.2.2.2.2.2.2.2.2.2.2.2.2.2.2.2.2.2.1, iaW g (d 7) 60 u.2.2.2.2.2.2.2.2.2.2.2.2.2.2.2.2.2.2.2.2.2.2.2.2.2.2.2.1, iaW g (d 8) 124 u.2.2.2.2.2.2.2.2.2.2.2.2.2.2.2.2.2.2.2.2.2.2.2.2.2.2.2.2.1, loW g w u.2.2.2.2.2.2.2.2.2.2.2.2.2.2.2.2.2.2.2.2.2.2.2.2.2.2.2.2.2.1, doW g w2 u.2.2.2.2.2.2.2.2.2.2.2.2.2.2.2.2.2.2.2.2.2.2.2.2.2.2.2.2.2.2.1] [(0, .ref sb), (1, .ref (a 0)), (2, .ref (d 0)), (3, .ref w), (4, .ref w2), (5, .int i)] 2256 []) : VW g A 9 pW l eW room_1 sW mW argsW belowW methW c9 cells slots Q [ccO g a b y z, stO g a 10 v, cdW g a 10 c, evW g a 10 e, stO g a 20 v2, cdW g a 20 c2, evW g a 20 e2, stO g a 30 v3, cdW g a 30 c3, evW g a 30 e3, hiO g a h, hrW g a t, stF g a vs, cdF g a cs, evF g a es, prO g b q, caW g b t2, cmF g b ws, sbO g y zz k, baW g zz n f, mdO g d m, iaW g (d 1) 110 r1, iaW g (d 2) 110 r2, iaW g (d 3) 110 r3, iaW g (d 4) 110 r4, iaW g (d 5) 880 r5, iaW g (d 6) 200 r6, iaW g (d 7) 60 r7, iaW g (d 8) 124 r8, loW g w lo, doW g w2 dd] [(0, .ref sb), (1, .ref (a 0)), (2, .ref (d 0)), (3, .ref w), (4, .ref w2), (5, .int i)] 843 [] := by
  unfold f_law_843 at hf
  have C : CX g RL cL_law 9 A pW sW mW argsW methW c9 := C
  refine x_aload_n C dL_law_843 rfl 1 rfl ?_
  refine x_aload_n C dL_law_844 rfl 0 rfl ?_
  refine x_iload C dL_law_845 5 rfl ?_
  refine x_iconst (v := 1) C dL_law_847 (by decide) ?_
  refine x_iadd C dL_law_848 ?_
  obtain ⟨h1, hf⟩ := x_n hf
  refine x_sld C hX hbl hbA h1 dL_law_849 ?_
  refine x_aload_n C dL_law_850 rfl 3 rfl ?_
  obtain ⟨u2, hu2, hf⟩ := x_b hf
  refine x_hcallS (n := 3) (As := [.ref (a 0), .int (xs (i + (1 : Int32)).toNatClampNeg), .ref w]) (rest := []) C (c_L_wax g l hl a b y w z v c lo (xs (i + (1 : Int32)).toNatClampNeg) hu2) ⟨⟨wd_1125, wd_1123, wd_64⟩, ⟨by decide, by decide, by decide⟩, rfl, rfl, Nat.le_of_ble_eq_true rfl, Nat.le_of_ble_eq_true rfl⟩ wd_1124 [evW g a 10 e, stO g a 20 v2, cdW g a 20 c2, evW g a 20 e2, stO g a 30 v3, cdW g a 30 c3, evW g a 30 e3, hiO g a h, hrW g a t, stF g a vs, cdF g a cs, evF g a es, prO g b q, caW g b t2, cmF g b ws, sbO g y zz k, baW g zz n f, mdO g d m, iaW g (d 1) 110 r1, iaW g (d 2) 110 r2, iaW g (d 3) 110 r3, iaW g (d 4) 110 r4, iaW g (d 5) 880 r5, iaW g (d 6) 200 r6, iaW g (d 7) 60 r7, iaW g (d 8) 124 r8, doW g w2 dd] (x_pickD [0, 1, 2, 29, 3, 4, 5, 6, 7, 8, 9, 10, 11, 12, 13, 14, 15, 16, 17, 18, 19, 20, 21, 22, 23, 24, 25, 26, 27, 28, 30] 31 rfl rfl rfl) rfl rfl (Nat.le_of_ble_eq_true rfl) ⟨by omega, by omega⟩ dL_law_851 (fun v9 w9 hQ9 => ?_)
  obtain ⟨rfl, rfl⟩ := hQ9
  refine x_goW (wss2 := [ccO g a b y z, stO g a 10 v, cdW g a 10 c, loW g w u2.2, evW g a 10 e, stO g a 20 v2, cdW g a 20 c2, evW g a 20 e2, stO g a 30 v3, cdW g a 30 c3, evW g a 30 e3, hiO g a h, hrW g a t, stF g a vs, cdF g a cs, evF g a es, prO g b q, caW g b t2, cmF g b ws, sbO g y zz k, baW g zz n f, mdO g d m, iaW g (d 1) 110 r1, iaW g (d 2) 110 r2, iaW g (d 3) 110 r3, iaW g (d 4) 110 r4, iaW g (d 5) 880 r5, iaW g (d 6) 200 r6, iaW g (d 7) 60 r7, iaW g (d 8) 124 r8, doW g w2 dd]) (stk2 := [.int u2.1]) rfl rfl rfl ?_
  refine x_istore (lv' := [(6, .int u2.1), (0, .ref sb), (1, .ref (a 0)), (2, .ref (d 0)), (3, .ref w), (4, .ref w2), (5, .int i)]) C dL_law_854 (by decide) rfl ?_
  refine x_aload_n C dL_law_856 rfl 3 rfl ?_
  refine x_aload_n C dL_law_857 rfl 1 rfl ?_
  refine x_iload C dL_law_858 6 rfl ?_
  refine x_iconst (v := 1) C dL_law_860 (by decide) ?_
  refine x_iadd C dL_law_861 ?_
  obtain ⟨h3, hf⟩ := x_n hf
  refine x_sld C hX hbl hbA h3 dL_law_862 ?_
  obtain ⟨u4, hu4, hf⟩ := x_b hf
  refine x_callV (n := 1) (As := [.int (xs (i + (1 : Int32)).toNatClampNeg)]) (rest := []) C (c_X10_wax g l d m r1 (xs (i + (1 : Int32)).toNatClampNeg) hu4) ⟨⟨wd_1695, wd_1692, wd_78⟩, ⟨by decide, by decide, by decide⟩, rfl, rfl, Nat.le_of_ble_eq_true rfl, Nat.le_of_ble_eq_true rfl⟩ wd_1693 wd_1694 ⟨0, 11, _, _, rfl, rfl, rfl⟩ [ccO g a b y z, stO g a 10 v, cdW g a 10 c, loW g w u2.2, evW g a 10 e, stO g a 20 v2, cdW g a 20 c2, evW g a 20 e2, stO g a 30 v3, cdW g a 30 c3, evW g a 30 e3, hiO g a h, hrW g a t, stF g a vs, cdF g a cs, evF g a es, prO g b q, caW g b t2, cmF g b ws, sbO g y zz k, baW g zz n f, iaW g (d 2) 110 r2, iaW g (d 3) 110 r3, iaW g (d 4) 110 r4, iaW g (d 5) 880 r5, iaW g (d 6) 200 r6, iaW g (d 7) 60 r7, iaW g (d 8) 124 r8, doW g w2 dd] (x_pickD [21, 22, 0, 1, 2, 3, 4, 5, 6, 7, 8, 9, 10, 11, 12, 13, 14, 15, 16, 17, 18, 19, 20, 23, 24, 25, 26, 27, 28, 29, 30] 31 rfl rfl rfl) rfl rfl (Nat.le_of_ble_eq_true rfl) ⟨by omega, by omega⟩ dL_law_863 (x_goD (wss2 := [mdO g d u4.2, iaW g (d 1) 110 r1, ccO g a b y z, stO g a 10 v, cdW g a 10 c, loW g w u2.2, evW g a 10 e, stO g a 20 v2, cdW g a 20 c2, evW g a 20 e2, stO g a 30 v3, cdW g a 30 c3, evW g a 30 e3, hiO g a h, hrW g a t, stF g a vs, cdF g a cs, evF g a es, prO g b q, caW g b t2, cmF g b ws, sbO g y zz k, baW g zz n f, iaW g (d 2) 110 r2, iaW g (d 3) 110 r3, iaW g (d 4) 110 r4, iaW g (d 5) 880 r5, iaW g (d 6) 200 r6, iaW g (d 7) 60 r7, iaW g (d 8) 124 r8, doW g w2 dd]) (stk2 := [.int u4.1]) rfl rfl ?_)
  refine x_istore (lv' := [(7, .int u4.1), (6, .int u2.1), (0, .ref sb), (1, .ref (a 0)), (2, .ref (d 0)), (3, .ref w), (4, .ref w2), (5, .int i)]) C dL_law_866 (by decide) rfl ?_
  refine x_aload_n C dL_law_868 rfl 4 rfl ?_
  obtain ⟨u5, hu5, hf⟩ := x_b hf
  refine x_callV (n := 0) (As := []) (rest := []) C (c_X10_thrown g l d u4.2 hu5) ⟨⟨wd_1550, wd_1547, wd_78⟩, ⟨by decide, by decide, by decide⟩, rfl, rfl, Nat.le_of_ble_eq_true rfl, Nat.le_of_ble_eq_true rfl⟩ wd_1548 wd_1549 ⟨0, 11, _, _, rfl, rfl, rfl⟩ [iaW g (d 1) 110 r1, ccO g a b y z, stO g a 10 v, cdW g a 10 c, loW g w u2.2, evW g a 10 e, stO g a 20 v2, cdW g a 20 c2, evW g a 20 e2, stO g a 30 v3, cdW g a 30 c3, evW g a 30 e3, hiO g a h, hrW g a t, stF g a vs, cdF g a cs, evF g a es, prO g b q, caW g b t2, cmF g b ws, sbO g y zz k, baW g zz n f, iaW g (d 2) 110 r2, iaW g (d 3) 110 r3, iaW g (d 4) 110 r4, iaW g (d 5) 880 r5, iaW g (d 6) 200 r6, iaW g (d 7) 60 r7, iaW g (d 8) 124 r8, doW g w2 dd] (x_pickD [0, 1, 2, 3, 4, 5, 6, 7, 8, 9, 10, 11, 12, 13, 14, 15, 16, 17, 18, 19, 20, 21, 22, 23, 24, 25, 26, 27, 28, 29, 30] 31 rfl rfl rfl) rfl rfl (Nat.le_of_ble_eq_true rfl) ⟨by omega, by omega⟩ dL_law_869 (x_goD (wss2 := [mdO g d u4.2, iaW g (d 1) 110 r1, ccO g a b y z, stO g a 10 v, cdW g a 10 c, loW g w u2.2, evW g a 10 e, stO g a 20 v2, cdW g a 20 c2, evW g a 20 e2, stO g a 30 v3, cdW g a 30 c3, evW g a 30 e3, hiO g a h, hrW g a t, stF g a vs, cdF g a cs, evF g a es, prO g b q, caW g b t2, cmF g b ws, sbO g y zz k, baW g zz n f, iaW g (d 2) 110 r2, iaW g (d 3) 110 r3, iaW g (d 4) 110 r4, iaW g (d 5) 880 r5, iaW g (d 6) 200 r6, iaW g (d 7) 60 r7, iaW g (d 8) 124 r8, doW g w2 dd]) (stk2 := [.int u5]) rfl rfl ?_)
  refine x_iload C dL_law_872 1 rfl ?_
  refine x_icmp_eq (tgt := 879) C dL_law_874 (by decide) (fun h6 => ?_) (fun h6 => ?_)
  · have hf := x_t h6 hf
    refine x_iload C dL_law_879 1 rfl ?_
    refine x_if_ne (tgt := 896) C dL_law_881 (by decide) (fun h7 => ?_) (fun h7 => ?_)
    · have hf := x_f h7 hf
      refine x_goto (tgt := 2256) C dL_law_896 (by decide) ?_
      refine x_perm (wss' := [ccO g a b y z, stO g a 10 v, cdW g a 10 c, evW g a 10 e, stO g a 20 v2, cdW g a 20 c2, evW g a 20 e2, stO g a 30 v3, cdW g a 30 c3, evW g a 30 e3, hiO g a h, hrW g a t, stF g a vs, cdF g a cs, evF g a es, prO g b q, caW g b t2, cmF g b ws, sbO g y zz k, baW g zz n f, mdO g d u4.2, iaW g (d 1) 110 r1, iaW g (d 2) 110 r2, iaW g (d 3) 110 r3, iaW g (d 4) 110 r4, iaW g (d 5) 880 r5, iaW g (d 6) 200 r6, iaW g (d 7) 60 r7, iaW g (d 8) 124 r8, loW g w u2.2, doW g w2 dd]) (x_pick [2, 3, 4, 6, 7, 8, 9, 10, 11, 12, 13, 14, 15, 16, 17, 18, 19, 20, 21, 22, 0, 1, 23, 24, 25, 26, 27, 28, 29, 5, 30] 31 rfl rfl rfl) ?_
      refine x_locals (lv' := [(0, .ref sb), (1, .ref (a 0)), (2, .ref (d 0)), (3, .ref w), (4, .ref w2), (5, .int i)]) [2, 3, 4, 5, 6, 7] rfl ?_
      refine x_widen (k := cells + 292) (n := slots + 5516) (by omega) (by omega) ?_
      obtain rfl := Option.some.inj hf
      exact kk zz
    · have hf := x_t h7 hf
      refine x_aload_n C dL_law_884 rfl 5 rfl ?_
      refine x_iconst (v := 0) C dL_law_885 (by decide) ?_
      obtain ⟨h8, hf⟩ := x_n hf
      refine x_lald (b := loW g w u2.2) C 5 rfl 0 (loW_at0 g w _) h8 dL_law_886 ?_
      refine x_iload C dL_law_887 0 rfl ?_
      refine x_i2l C dL_law_889 rfl ?_
      refine x_lcmp C dL_law_890 ?_
      refine x_if_eq (tgt := 896) C dL_law_891 (by decide) (fun h9 => ?_) (fun h9 => ?_)
      · have hf := x_t h9 hf
        refine x_goto (tgt := 2256) C dL_law_896 (by decide) ?_
        refine x_perm (wss' := [ccO g a b y z, stO g a 10 v, cdW g a 10 c, evW g a 10 e, stO g a 20 v2, cdW g a 20 c2, evW g a 20 e2, stO g a 30 v3, cdW g a 30 c3, evW g a 30 e3, hiO g a h, hrW g a t, stF g a vs, cdF g a cs, evF g a es, prO g b q, caW g b t2, cmF g b ws, sbO g y zz k, baW g zz n f, mdO g d u4.2, iaW g (d 1) 110 r1, iaW g (d 2) 110 r2, iaW g (d 3) 110 r3, iaW g (d 4) 110 r4, iaW g (d 5) 880 r5, iaW g (d 6) 200 r6, iaW g (d 7) 60 r7, iaW g (d 8) 124 r8, loW g w u2.2, doW g w2 dd]) (x_pick [2, 3, 4, 6, 7, 8, 9, 10, 11, 12, 13, 14, 15, 16, 17, 18, 19, 20, 21, 22, 0, 1, 23, 24, 25, 26, 27, 28, 29, 5, 30] 31 rfl rfl rfl) ?_
        refine x_locals (lv' := [(0, .ref sb), (1, .ref (a 0)), (2, .ref (d 0)), (3, .ref w), (4, .ref w2), (5, .int i)]) [2, 3, 4, 5, 6, 7] rfl ?_
        refine x_widen (k := cells + 292) (n := slots + 5516) (by omega) (by omega) ?_
        obtain rfl := Option.some.inj hf
        exact kk zz
      · have hf := x_f h9 hf
        cases hf
  · have hf := x_f h6 hf
    cases hf
set_option maxHeartbeats 4000000 in
set_option maxRecDepth 100000 in
theorem c_law_899 (a : Nat → Nat) (b : Nat → Nat) (y : Nat) (zz : Nat) (n : Nat) (d : Nat → Nat) (w : Nat) (w2 : Nat) (C : CX g RL cL_law 9 A pW sW mW argsW methW c9) (hl : l.stackTraces = false) (hX : va_X sb L xs sW sW.heap) (hbl : sb < sW.heap.size) (hbA : ¬ A sb) (hc : cells + 292 ≤ room_1.cells) (hs : slots + 5516 ≤ room_1.slots) (z : CcT) (v : StS) (c : CdT) (e : EvT) (v2 : StS) (c2 : CdT) (e2 : EvT) (v3 : StS) (c3 : CdT) (e3 : EvT) (h : HiT) (t : Unit) (vs : (Nat → StS)) (cs : (Nat → CdT)) (es : (Nat → EvT)) (q : PrT) (t2 : Unit) (ws : (Nat → CmT)) (k : SbT) (f : (Nat → Int32)) (m : MdT) (r1 : (Nat → Int32)) (r2 : (Nat → Int32)) (r3 : (Nat → Int32)) (r4 : (Nat → Int32)) (r5 : (Nat → Int32)) (r6 : (Nat → Int32)) (r7 : (Nat → Int32)) (r8 : (Nat → Int32)) (lo : (Nat → Int64)) (dd : (Nat → UInt64)) (i : Int32) {u : LwT} (hf : f_law_899 n L xs z v c e v2 c2 e2 v3 c3 e3 h t vs cs es q t2 ws k f m r1 r2 r3 r4 r5 r6 r7 r8 lo dd i = some u)
    (kk : ∀ zz' : Nat, VW g A 9 pW l eW room_1 sW mW argsW belowW methW c9 (cells + 292) (slots + 5516) Q [ccO g a b y u.1, stO g a 10 u.2.1, cdW g a 10 u.2.2.1, evW g a 10 u.2.2.2.1, stO g a 20 u.2.2.2.2.1, cdW g a 20 u.2.2.2.2.2.1, evW g a 20 u.2.2.2.2.2.2.1, stO g a 30 u.2.2.2.2.2.2.2.1, cdW g a 30 u.2.2.2.2.2.2.2.2.1, evW g a 30 u.2.2.2.2.2.2.2.2.2.1, hiO g a u.2.2.2.2.2.2.2.2.2.2.1, hrW g a u.2.2.2.2.2.2.2.2.2.2.2.1, stF g a u.2.2.2.2.2.2.2.2.2.2.2.2.1, cdF g a u.2.2.2.2.2.2.2.2.2.2.2.2.2.1, evF g a u.2.2.2.2.2.2.2.2.2.2.2.2.2.2.1, prO g b u.2.2.2.2.2.2.2.2.2.2.2.2.2.2.2.1, caW g b u.2.2.2.2.2.2.2.2.2.2.2.2.2.2.2.2.1, cmF g b u.2.2.2.2.2.2.2.2.2.2.2.2.2.2.2.2.2.1, sbO g y zz' u.2.2.2.2.2.2.2.2.2.2.2.2.2.2.2.2.2.2.1, baW g zz' u.2.2.2.2.2.2.2.2.2.2.2.2.2.2.2.2.2.2.2.2.2.2.2.2.2.2.2.2.2.2.2 u.2.2.2.2.2.2.2.2.2.2.2.2.2.2.2.2.2.2.2.1, mdO g d u.2.2.2.2.2.2.2.2.2.2.2.2.2.2.2.2.2.2.2.2.1, iaW g (d 1) 110 u.2.2.2.2.2.2.2.2.2.2.2.2.2.2.2.2.2.2.2.2.2.1, iaW g (d 2) 110 u.2.2.2.2.2.2.2.2.2.2.2.2.2.2.2.2.2.2.2.2.2.2.1, iaW g (d 3) 110 u.2.2.2.2.2.2.2.2.2.2.2.2.2.2.2.2.2.2.2.2.2.2.2.1, iaW g (d 4) 110 u.2.2.2.2.2.2.2.2.2.2.2.2.2.2.2.2.2.2.2.2.2.2.2.2.1, iaW g (d 5) 880 u.2.2.2.2.2.2.2.2.2.2.2.2.2.2.2.2.2.2.2.2.2.2.2.2.2.1, iaW g (d 6) 200 u.2.2.2.2.2.2.2.2.2.2.2.2.2.2.2.2.2.2.2.2.2.2.2.2.2.2.1, iaW g (d 7) 60 u.2.2.2.2.2.2.2.2.2.2.2.2.2.2.2.2.2.2.2.2.2.2.2.2.2.2.2.1, iaW g (d 8) 124 u.2.2.2.2.2.2.2.2.2.2.2.2.2.2.2.2.2.2.2.2.2.2.2.2.2.2.2.2.1, loW g w u.2.2.2.2.2.2.2.2.2.2.2.2.2.2.2.2.2.2.2.2.2.2.2.2.2.2.2.2.2.1, doW g w2 u.2.2.2.2.2.2.2.2.2.2.2.2.2.2.2.2.2.2.2.2.2.2.2.2.2.2.2.2.2.2.1] [(0, .ref sb), (1, .ref (a 0)), (2, .ref (d 0)), (3, .ref w), (4, .ref w2), (5, .int i)] 2256 []) : VW g A 9 pW l eW room_1 sW mW argsW belowW methW c9 cells slots Q [ccO g a b y z, stO g a 10 v, cdW g a 10 c, evW g a 10 e, stO g a 20 v2, cdW g a 20 c2, evW g a 20 e2, stO g a 30 v3, cdW g a 30 c3, evW g a 30 e3, hiO g a h, hrW g a t, stF g a vs, cdF g a cs, evF g a es, prO g b q, caW g b t2, cmF g b ws, sbO g y zz k, baW g zz n f, mdO g d m, iaW g (d 1) 110 r1, iaW g (d 2) 110 r2, iaW g (d 3) 110 r3, iaW g (d 4) 110 r4, iaW g (d 5) 880 r5, iaW g (d 6) 200 r6, iaW g (d 7) 60 r7, iaW g (d 8) 124 r8, loW g w lo, doW g w2 dd] [(0, .ref sb), (1, .ref (a 0)), (2, .ref (d 0)), (3, .ref w), (4, .ref w2), (5, .int i)] 899 [] := by
  unfold f_law_899 at hf
  have C : CX g RL cL_law 9 A pW sW mW argsW methW c9 := C
  refine x_aload_n C dL_law_899 rfl 1 rfl ?_
  refine x_aload_n C dL_law_900 rfl 0 rfl ?_
  refine x_iload C dL_law_901 5 rfl ?_
  refine x_iconst (v := 1) C dL_law_903 (by decide) ?_
  refine x_iadd C dL_law_904 ?_
  obtain ⟨h1, hf⟩ := x_n hf
  refine x_sld C hX hbl hbA h1 dL_law_905 ?_
  refine x_aload_n C dL_law_906 rfl 3 rfl ?_
  obtain ⟨u2, hu2, hf⟩ := x_b hf
  refine x_hcallS (n := 3) (As := [.ref (a 0), .int (xs (i + (1 : Int32)).toNatClampNeg), .ref w]) (rest := []) C (c_L_consumption g l hl a b y w z v c lo (xs (i + (1 : Int32)).toNatClampNeg) hu2) ⟨⟨wd_1132, wd_1130, wd_64⟩, ⟨by decide, by decide, by decide⟩, rfl, rfl, Nat.le_of_ble_eq_true rfl, Nat.le_of_ble_eq_true rfl⟩ wd_1131 [evW g a 10 e, stO g a 20 v2, cdW g a 20 c2, evW g a 20 e2, stO g a 30 v3, cdW g a 30 c3, evW g a 30 e3, hiO g a h, hrW g a t, stF g a vs, cdF g a cs, evF g a es, prO g b q, caW g b t2, cmF g b ws, sbO g y zz k, baW g zz n f, mdO g d m, iaW g (d 1) 110 r1, iaW g (d 2) 110 r2, iaW g (d 3) 110 r3, iaW g (d 4) 110 r4, iaW g (d 5) 880 r5, iaW g (d 6) 200 r6, iaW g (d 7) 60 r7, iaW g (d 8) 124 r8, doW g w2 dd] (x_pickD [0, 1, 2, 29, 3, 4, 5, 6, 7, 8, 9, 10, 11, 12, 13, 14, 15, 16, 17, 18, 19, 20, 21, 22, 23, 24, 25, 26, 27, 28, 30] 31 rfl rfl rfl) rfl rfl (Nat.le_of_ble_eq_true rfl) ⟨by omega, by omega⟩ dL_law_907 (fun v9 w9 hQ9 => ?_)
  obtain ⟨rfl, rfl⟩ := hQ9
  refine x_goW (wss2 := [ccO g a b y z, stO g a 10 v, cdW g a 10 c, loW g w u2.2, evW g a 10 e, stO g a 20 v2, cdW g a 20 c2, evW g a 20 e2, stO g a 30 v3, cdW g a 30 c3, evW g a 30 e3, hiO g a h, hrW g a t, stF g a vs, cdF g a cs, evF g a es, prO g b q, caW g b t2, cmF g b ws, sbO g y zz k, baW g zz n f, mdO g d m, iaW g (d 1) 110 r1, iaW g (d 2) 110 r2, iaW g (d 3) 110 r3, iaW g (d 4) 110 r4, iaW g (d 5) 880 r5, iaW g (d 6) 200 r6, iaW g (d 7) 60 r7, iaW g (d 8) 124 r8, doW g w2 dd]) (stk2 := [.int u2.1]) rfl rfl rfl ?_
  refine x_istore (lv' := [(6, .int u2.1), (0, .ref sb), (1, .ref (a 0)), (2, .ref (d 0)), (3, .ref w), (4, .ref w2), (5, .int i)]) C dL_law_910 (by decide) rfl ?_
  refine x_aload_n C dL_law_912 rfl 3 rfl ?_
  refine x_aload_n C dL_law_913 rfl 1 rfl ?_
  refine x_iload C dL_law_914 6 rfl ?_
  refine x_iconst (v := 1) C dL_law_916 (by decide) ?_
  refine x_iadd C dL_law_917 ?_
  obtain ⟨h3, hf⟩ := x_n hf
  refine x_sld C hX hbl hbA h3 dL_law_918 ?_
  obtain ⟨u4, hu4, hf⟩ := x_b hf
  refine x_callV (n := 1) (As := [.int (xs (i + (1 : Int32)).toNatClampNeg)]) (rest := []) C (c_X10_consumption g l d m r1 (xs (i + (1 : Int32)).toNatClampNeg) hu4) ⟨⟨wd_1699, wd_1696, wd_78⟩, ⟨by decide, by decide, by decide⟩, rfl, rfl, Nat.le_of_ble_eq_true rfl, Nat.le_of_ble_eq_true rfl⟩ wd_1697 wd_1698 ⟨0, 11, _, _, rfl, rfl, rfl⟩ [ccO g a b y z, stO g a 10 v, cdW g a 10 c, loW g w u2.2, evW g a 10 e, stO g a 20 v2, cdW g a 20 c2, evW g a 20 e2, stO g a 30 v3, cdW g a 30 c3, evW g a 30 e3, hiO g a h, hrW g a t, stF g a vs, cdF g a cs, evF g a es, prO g b q, caW g b t2, cmF g b ws, sbO g y zz k, baW g zz n f, iaW g (d 2) 110 r2, iaW g (d 3) 110 r3, iaW g (d 4) 110 r4, iaW g (d 5) 880 r5, iaW g (d 6) 200 r6, iaW g (d 7) 60 r7, iaW g (d 8) 124 r8, doW g w2 dd] (x_pickD [21, 22, 0, 1, 2, 3, 4, 5, 6, 7, 8, 9, 10, 11, 12, 13, 14, 15, 16, 17, 18, 19, 20, 23, 24, 25, 26, 27, 28, 29, 30] 31 rfl rfl rfl) rfl rfl (Nat.le_of_ble_eq_true rfl) ⟨by omega, by omega⟩ dL_law_919 (x_goD (wss2 := [mdO g d u4.2, iaW g (d 1) 110 r1, ccO g a b y z, stO g a 10 v, cdW g a 10 c, loW g w u2.2, evW g a 10 e, stO g a 20 v2, cdW g a 20 c2, evW g a 20 e2, stO g a 30 v3, cdW g a 30 c3, evW g a 30 e3, hiO g a h, hrW g a t, stF g a vs, cdF g a cs, evF g a es, prO g b q, caW g b t2, cmF g b ws, sbO g y zz k, baW g zz n f, iaW g (d 2) 110 r2, iaW g (d 3) 110 r3, iaW g (d 4) 110 r4, iaW g (d 5) 880 r5, iaW g (d 6) 200 r6, iaW g (d 7) 60 r7, iaW g (d 8) 124 r8, doW g w2 dd]) (stk2 := [.int u4.1]) rfl rfl ?_)
  refine x_istore (lv' := [(7, .int u4.1), (6, .int u2.1), (0, .ref sb), (1, .ref (a 0)), (2, .ref (d 0)), (3, .ref w), (4, .ref w2), (5, .int i)]) C dL_law_922 (by decide) rfl ?_
  refine x_aload_n C dL_law_924 rfl 4 rfl ?_
  obtain ⟨u5, hu5, hf⟩ := x_b hf
  refine x_callV (n := 0) (As := []) (rest := []) C (c_X10_thrown g l d u4.2 hu5) ⟨⟨wd_1550, wd_1547, wd_78⟩, ⟨by decide, by decide, by decide⟩, rfl, rfl, Nat.le_of_ble_eq_true rfl, Nat.le_of_ble_eq_true rfl⟩ wd_1548 wd_1549 ⟨0, 11, _, _, rfl, rfl, rfl⟩ [iaW g (d 1) 110 r1, ccO g a b y z, stO g a 10 v, cdW g a 10 c, loW g w u2.2, evW g a 10 e, stO g a 20 v2, cdW g a 20 c2, evW g a 20 e2, stO g a 30 v3, cdW g a 30 c3, evW g a 30 e3, hiO g a h, hrW g a t, stF g a vs, cdF g a cs, evF g a es, prO g b q, caW g b t2, cmF g b ws, sbO g y zz k, baW g zz n f, iaW g (d 2) 110 r2, iaW g (d 3) 110 r3, iaW g (d 4) 110 r4, iaW g (d 5) 880 r5, iaW g (d 6) 200 r6, iaW g (d 7) 60 r7, iaW g (d 8) 124 r8, doW g w2 dd] (x_pickD [0, 1, 2, 3, 4, 5, 6, 7, 8, 9, 10, 11, 12, 13, 14, 15, 16, 17, 18, 19, 20, 21, 22, 23, 24, 25, 26, 27, 28, 29, 30] 31 rfl rfl rfl) rfl rfl (Nat.le_of_ble_eq_true rfl) ⟨by omega, by omega⟩ dL_law_925 (x_goD (wss2 := [mdO g d u4.2, iaW g (d 1) 110 r1, ccO g a b y z, stO g a 10 v, cdW g a 10 c, loW g w u2.2, evW g a 10 e, stO g a 20 v2, cdW g a 20 c2, evW g a 20 e2, stO g a 30 v3, cdW g a 30 c3, evW g a 30 e3, hiO g a h, hrW g a t, stF g a vs, cdF g a cs, evF g a es, prO g b q, caW g b t2, cmF g b ws, sbO g y zz k, baW g zz n f, iaW g (d 2) 110 r2, iaW g (d 3) 110 r3, iaW g (d 4) 110 r4, iaW g (d 5) 880 r5, iaW g (d 6) 200 r6, iaW g (d 7) 60 r7, iaW g (d 8) 124 r8, doW g w2 dd]) (stk2 := [.int u5]) rfl rfl ?_)
  refine x_iload C dL_law_928 1 rfl ?_
  refine x_icmp_eq (tgt := 935) C dL_law_930 (by decide) (fun h6 => ?_) (fun h6 => ?_)
  · have hf := x_t h6 hf
    refine x_iload C dL_law_935 1 rfl ?_
    refine x_if_ne (tgt := 952) C dL_law_937 (by decide) (fun h7 => ?_) (fun h7 => ?_)
    · have hf := x_f h7 hf
      refine x_goto (tgt := 2256) C dL_law_952 (by decide) ?_
      refine x_perm (wss' := [ccO g a b y z, stO g a 10 v, cdW g a 10 c, evW g a 10 e, stO g a 20 v2, cdW g a 20 c2, evW g a 20 e2, stO g a 30 v3, cdW g a 30 c3, evW g a 30 e3, hiO g a h, hrW g a t, stF g a vs, cdF g a cs, evF g a es, prO g b q, caW g b t2, cmF g b ws, sbO g y zz k, baW g zz n f, mdO g d u4.2, iaW g (d 1) 110 r1, iaW g (d 2) 110 r2, iaW g (d 3) 110 r3, iaW g (d 4) 110 r4, iaW g (d 5) 880 r5, iaW g (d 6) 200 r6, iaW g (d 7) 60 r7, iaW g (d 8) 124 r8, loW g w u2.2, doW g w2 dd]) (x_pick [2, 3, 4, 6, 7, 8, 9, 10, 11, 12, 13, 14, 15, 16, 17, 18, 19, 20, 21, 22, 0, 1, 23, 24, 25, 26, 27, 28, 29, 5, 30] 31 rfl rfl rfl) ?_
      refine x_locals (lv' := [(0, .ref sb), (1, .ref (a 0)), (2, .ref (d 0)), (3, .ref w), (4, .ref w2), (5, .int i)]) [2, 3, 4, 5, 6, 7] rfl ?_
      refine x_widen (k := cells + 292) (n := slots + 5516) (by omega) (by omega) ?_
      obtain rfl := Option.some.inj hf
      exact kk zz
    · have hf := x_t h7 hf
      refine x_aload_n C dL_law_940 rfl 5 rfl ?_
      refine x_iconst (v := 0) C dL_law_941 (by decide) ?_
      obtain ⟨h8, hf⟩ := x_n hf
      refine x_lald (b := loW g w u2.2) C 5 rfl 0 (loW_at0 g w _) h8 dL_law_942 ?_
      refine x_iload C dL_law_943 0 rfl ?_
      refine x_i2l C dL_law_945 rfl ?_
      refine x_lcmp C dL_law_946 ?_
      refine x_if_eq (tgt := 952) C dL_law_947 (by decide) (fun h9 => ?_) (fun h9 => ?_)
      · have hf := x_t h9 hf
        refine x_goto (tgt := 2256) C dL_law_952 (by decide) ?_
        refine x_perm (wss' := [ccO g a b y z, stO g a 10 v, cdW g a 10 c, evW g a 10 e, stO g a 20 v2, cdW g a 20 c2, evW g a 20 e2, stO g a 30 v3, cdW g a 30 c3, evW g a 30 e3, hiO g a h, hrW g a t, stF g a vs, cdF g a cs, evF g a es, prO g b q, caW g b t2, cmF g b ws, sbO g y zz k, baW g zz n f, mdO g d u4.2, iaW g (d 1) 110 r1, iaW g (d 2) 110 r2, iaW g (d 3) 110 r3, iaW g (d 4) 110 r4, iaW g (d 5) 880 r5, iaW g (d 6) 200 r6, iaW g (d 7) 60 r7, iaW g (d 8) 124 r8, loW g w u2.2, doW g w2 dd]) (x_pick [2, 3, 4, 6, 7, 8, 9, 10, 11, 12, 13, 14, 15, 16, 17, 18, 19, 20, 21, 22, 0, 1, 23, 24, 25, 26, 27, 28, 29, 5, 30] 31 rfl rfl rfl) ?_
        refine x_locals (lv' := [(0, .ref sb), (1, .ref (a 0)), (2, .ref (d 0)), (3, .ref w), (4, .ref w2), (5, .int i)]) [2, 3, 4, 5, 6, 7] rfl ?_
        refine x_widen (k := cells + 292) (n := slots + 5516) (by omega) (by omega) ?_
        obtain rfl := Option.some.inj hf
        exact kk zz
      · have hf := x_f h9 hf
        cases hf
  · have hf := x_f h6 hf
    cases hf
set_option maxHeartbeats 4000000 in
set_option maxRecDepth 100000 in
theorem c_law_955 (a : Nat → Nat) (b : Nat → Nat) (y : Nat) (zz : Nat) (n : Nat) (d : Nat → Nat) (w : Nat) (w2 : Nat) (C : CX g RL cL_law 9 A pW sW mW argsW methW c9) (hl : l.stackTraces = false) (hX : va_X sb L xs sW sW.heap) (hbl : sb < sW.heap.size) (hbA : ¬ A sb) (hc : cells + 292 ≤ room_1.cells) (hs : slots + 5516 ≤ room_1.slots) (z : CcT) (v : StS) (c : CdT) (e : EvT) (v2 : StS) (c2 : CdT) (e2 : EvT) (v3 : StS) (c3 : CdT) (e3 : EvT) (h : HiT) (t : Unit) (vs : (Nat → StS)) (cs : (Nat → CdT)) (es : (Nat → EvT)) (q : PrT) (t2 : Unit) (ws : (Nat → CmT)) (k : SbT) (f : (Nat → Int32)) (m : MdT) (r1 : (Nat → Int32)) (r2 : (Nat → Int32)) (r3 : (Nat → Int32)) (r4 : (Nat → Int32)) (r5 : (Nat → Int32)) (r6 : (Nat → Int32)) (r7 : (Nat → Int32)) (r8 : (Nat → Int32)) (lo : (Nat → Int64)) (dd : (Nat → UInt64)) (i : Int32) {u : LwT} (hf : f_law_955 n L xs z v c e v2 c2 e2 v3 c3 e3 h t vs cs es q t2 ws k f m r1 r2 r3 r4 r5 r6 r7 r8 lo dd i = some u)
    (kk : ∀ zz' : Nat, VW g A 9 pW l eW room_1 sW mW argsW belowW methW c9 (cells + 292) (slots + 5516) Q [ccO g a b y u.1, stO g a 10 u.2.1, cdW g a 10 u.2.2.1, evW g a 10 u.2.2.2.1, stO g a 20 u.2.2.2.2.1, cdW g a 20 u.2.2.2.2.2.1, evW g a 20 u.2.2.2.2.2.2.1, stO g a 30 u.2.2.2.2.2.2.2.1, cdW g a 30 u.2.2.2.2.2.2.2.2.1, evW g a 30 u.2.2.2.2.2.2.2.2.2.1, hiO g a u.2.2.2.2.2.2.2.2.2.2.1, hrW g a u.2.2.2.2.2.2.2.2.2.2.2.1, stF g a u.2.2.2.2.2.2.2.2.2.2.2.2.1, cdF g a u.2.2.2.2.2.2.2.2.2.2.2.2.2.1, evF g a u.2.2.2.2.2.2.2.2.2.2.2.2.2.2.1, prO g b u.2.2.2.2.2.2.2.2.2.2.2.2.2.2.2.1, caW g b u.2.2.2.2.2.2.2.2.2.2.2.2.2.2.2.2.1, cmF g b u.2.2.2.2.2.2.2.2.2.2.2.2.2.2.2.2.2.1, sbO g y zz' u.2.2.2.2.2.2.2.2.2.2.2.2.2.2.2.2.2.2.1, baW g zz' u.2.2.2.2.2.2.2.2.2.2.2.2.2.2.2.2.2.2.2.2.2.2.2.2.2.2.2.2.2.2.2 u.2.2.2.2.2.2.2.2.2.2.2.2.2.2.2.2.2.2.2.1, mdO g d u.2.2.2.2.2.2.2.2.2.2.2.2.2.2.2.2.2.2.2.2.1, iaW g (d 1) 110 u.2.2.2.2.2.2.2.2.2.2.2.2.2.2.2.2.2.2.2.2.2.1, iaW g (d 2) 110 u.2.2.2.2.2.2.2.2.2.2.2.2.2.2.2.2.2.2.2.2.2.2.1, iaW g (d 3) 110 u.2.2.2.2.2.2.2.2.2.2.2.2.2.2.2.2.2.2.2.2.2.2.2.1, iaW g (d 4) 110 u.2.2.2.2.2.2.2.2.2.2.2.2.2.2.2.2.2.2.2.2.2.2.2.2.1, iaW g (d 5) 880 u.2.2.2.2.2.2.2.2.2.2.2.2.2.2.2.2.2.2.2.2.2.2.2.2.2.1, iaW g (d 6) 200 u.2.2.2.2.2.2.2.2.2.2.2.2.2.2.2.2.2.2.2.2.2.2.2.2.2.2.1, iaW g (d 7) 60 u.2.2.2.2.2.2.2.2.2.2.2.2.2.2.2.2.2.2.2.2.2.2.2.2.2.2.2.1, iaW g (d 8) 124 u.2.2.2.2.2.2.2.2.2.2.2.2.2.2.2.2.2.2.2.2.2.2.2.2.2.2.2.2.1, loW g w u.2.2.2.2.2.2.2.2.2.2.2.2.2.2.2.2.2.2.2.2.2.2.2.2.2.2.2.2.2.1, doW g w2 u.2.2.2.2.2.2.2.2.2.2.2.2.2.2.2.2.2.2.2.2.2.2.2.2.2.2.2.2.2.2.1] [(0, .ref sb), (1, .ref (a 0)), (2, .ref (d 0)), (3, .ref w), (4, .ref w2), (5, .int i)] 2256 []) : VW g A 9 pW l eW room_1 sW mW argsW belowW methW c9 cells slots Q [ccO g a b y z, stO g a 10 v, cdW g a 10 c, evW g a 10 e, stO g a 20 v2, cdW g a 20 c2, evW g a 20 e2, stO g a 30 v3, cdW g a 30 c3, evW g a 30 e3, hiO g a h, hrW g a t, stF g a vs, cdF g a cs, evF g a es, prO g b q, caW g b t2, cmF g b ws, sbO g y zz k, baW g zz n f, mdO g d m, iaW g (d 1) 110 r1, iaW g (d 2) 110 r2, iaW g (d 3) 110 r3, iaW g (d 4) 110 r4, iaW g (d 5) 880 r5, iaW g (d 6) 200 r6, iaW g (d 7) 60 r7, iaW g (d 8) 124 r8, loW g w lo, doW g w2 dd] [(0, .ref sb), (1, .ref (a 0)), (2, .ref (d 0)), (3, .ref w), (4, .ref w2), (5, .int i)] 955 [] := by
  unfold f_law_955 at hf
  have C : CX g RL cL_law 9 A pW sW mW argsW methW c9 := C
  refine x_aload_n C dL_law_955 rfl 1 rfl ?_
  refine x_aload_n C dL_law_956 rfl 0 rfl ?_
  refine x_iload C dL_law_957 5 rfl ?_
  refine x_iconst (v := 1) C dL_law_959 (by decide) ?_
  refine x_iadd C dL_law_960 ?_
  obtain ⟨h1, hf⟩ := x_n hf
  refine x_sld C hX hbl hbA h1 dL_law_961 ?_
  refine x_aload_n C dL_law_962 rfl 3 rfl ?_
  obtain ⟨u2, hu2, hf⟩ := x_b hf
  refine x_hcallS (n := 3) (As := [.ref (a 0), .int (xs (i + (1 : Int32)).toNatClampNeg), .ref w]) (rest := []) C (c_L_isLit g l hl a b y w z v c lo (xs (i + (1 : Int32)).toNatClampNeg) hu2) ⟨⟨wd_1140, wd_1138, wd_64⟩, ⟨by decide, by decide, by decide⟩, rfl, rfl, Nat.le_of_ble_eq_true rfl, Nat.le_of_ble_eq_true rfl⟩ wd_1139 [evW g a 10 e, stO g a 20 v2, cdW g a 20 c2, evW g a 20 e2, stO g a 30 v3, cdW g a 30 c3, evW g a 30 e3, hiO g a h, hrW g a t, stF g a vs, cdF g a cs, evF g a es, prO g b q, caW g b t2, cmF g b ws, sbO g y zz k, baW g zz n f, mdO g d m, iaW g (d 1) 110 r1, iaW g (d 2) 110 r2, iaW g (d 3) 110 r3, iaW g (d 4) 110 r4, iaW g (d 5) 880 r5, iaW g (d 6) 200 r6, iaW g (d 7) 60 r7, iaW g (d 8) 124 r8, doW g w2 dd] (x_pickD [0, 1, 2, 29, 3, 4, 5, 6, 7, 8, 9, 10, 11, 12, 13, 14, 15, 16, 17, 18, 19, 20, 21, 22, 23, 24, 25, 26, 27, 28, 30] 31 rfl rfl rfl) rfl rfl (Nat.le_of_ble_eq_true rfl) ⟨by omega, by omega⟩ dL_law_963 (fun v9 w9 hQ9 => ?_)
  obtain ⟨rfl, rfl⟩ := hQ9
  refine x_goW (wss2 := [ccO g a b y z, stO g a 10 v, cdW g a 10 c, loW g w u2.2, evW g a 10 e, stO g a 20 v2, cdW g a 20 c2, evW g a 20 e2, stO g a 30 v3, cdW g a 30 c3, evW g a 30 e3, hiO g a h, hrW g a t, stF g a vs, cdF g a cs, evF g a es, prO g b q, caW g b t2, cmF g b ws, sbO g y zz k, baW g zz n f, mdO g d m, iaW g (d 1) 110 r1, iaW g (d 2) 110 r2, iaW g (d 3) 110 r3, iaW g (d 4) 110 r4, iaW g (d 5) 880 r5, iaW g (d 6) 200 r6, iaW g (d 7) 60 r7, iaW g (d 8) 124 r8, doW g w2 dd]) (stk2 := [.int u2.1]) rfl rfl rfl ?_
  refine x_istore (lv' := [(6, .int u2.1), (0, .ref sb), (1, .ref (a 0)), (2, .ref (d 0)), (3, .ref w), (4, .ref w2), (5, .int i)]) C dL_law_966 (by decide) rfl ?_
  refine x_aload_n C dL_law_968 rfl 3 rfl ?_
  refine x_aload_n C dL_law_969 rfl 1 rfl ?_
  refine x_iload C dL_law_970 6 rfl ?_
  refine x_iconst (v := 1) C dL_law_972 (by decide) ?_
  refine x_iadd C dL_law_973 ?_
  obtain ⟨h3, hf⟩ := x_n hf
  refine x_sld C hX hbl hbA h3 dL_law_974 ?_
  obtain ⟨u4, hu4, hf⟩ := x_b hf
  refine x_callV (n := 1) (As := [.int (xs (i + (1 : Int32)).toNatClampNeg)]) (rest := []) C (c_X10_isLit g l d m r1 (xs (i + (1 : Int32)).toNatClampNeg) hu4) ⟨⟨wd_1703, wd_1700, wd_78⟩, ⟨by decide, by decide, by decide⟩, rfl, rfl, Nat.le_of_ble_eq_true rfl, Nat.le_of_ble_eq_true rfl⟩ wd_1701 wd_1702 ⟨0, 11, _, _, rfl, rfl, rfl⟩ [ccO g a b y z, stO g a 10 v, cdW g a 10 c, loW g w u2.2, evW g a 10 e, stO g a 20 v2, cdW g a 20 c2, evW g a 20 e2, stO g a 30 v3, cdW g a 30 c3, evW g a 30 e3, hiO g a h, hrW g a t, stF g a vs, cdF g a cs, evF g a es, prO g b q, caW g b t2, cmF g b ws, sbO g y zz k, baW g zz n f, iaW g (d 2) 110 r2, iaW g (d 3) 110 r3, iaW g (d 4) 110 r4, iaW g (d 5) 880 r5, iaW g (d 6) 200 r6, iaW g (d 7) 60 r7, iaW g (d 8) 124 r8, doW g w2 dd] (x_pickD [21, 22, 0, 1, 2, 3, 4, 5, 6, 7, 8, 9, 10, 11, 12, 13, 14, 15, 16, 17, 18, 19, 20, 23, 24, 25, 26, 27, 28, 29, 30] 31 rfl rfl rfl) rfl rfl (Nat.le_of_ble_eq_true rfl) ⟨by omega, by omega⟩ dL_law_975 (x_goD (wss2 := [mdO g d u4.2, iaW g (d 1) 110 r1, ccO g a b y z, stO g a 10 v, cdW g a 10 c, loW g w u2.2, evW g a 10 e, stO g a 20 v2, cdW g a 20 c2, evW g a 20 e2, stO g a 30 v3, cdW g a 30 c3, evW g a 30 e3, hiO g a h, hrW g a t, stF g a vs, cdF g a cs, evF g a es, prO g b q, caW g b t2, cmF g b ws, sbO g y zz k, baW g zz n f, iaW g (d 2) 110 r2, iaW g (d 3) 110 r3, iaW g (d 4) 110 r4, iaW g (d 5) 880 r5, iaW g (d 6) 200 r6, iaW g (d 7) 60 r7, iaW g (d 8) 124 r8, doW g w2 dd]) (stk2 := [.int u4.1]) rfl rfl ?_)
  refine x_istore (lv' := [(7, .int u4.1), (6, .int u2.1), (0, .ref sb), (1, .ref (a 0)), (2, .ref (d 0)), (3, .ref w), (4, .ref w2), (5, .int i)]) C dL_law_978 (by decide) rfl ?_
  refine x_aload_n C dL_law_980 rfl 4 rfl ?_
  obtain ⟨u5, hu5, hf⟩ := x_b hf
  refine x_callV (n := 0) (As := []) (rest := []) C (c_X10_thrown g l d u4.2 hu5) ⟨⟨wd_1550, wd_1547, wd_78⟩, ⟨by decide, by decide, by decide⟩, rfl, rfl, Nat.le_of_ble_eq_true rfl, Nat.le_of_ble_eq_true rfl⟩ wd_1548 wd_1549 ⟨0, 11, _, _, rfl, rfl, rfl⟩ [iaW g (d 1) 110 r1, ccO g a b y z, stO g a 10 v, cdW g a 10 c, loW g w u2.2, evW g a 10 e, stO g a 20 v2, cdW g a 20 c2, evW g a 20 e2, stO g a 30 v3, cdW g a 30 c3, evW g a 30 e3, hiO g a h, hrW g a t, stF g a vs, cdF g a cs, evF g a es, prO g b q, caW g b t2, cmF g b ws, sbO g y zz k, baW g zz n f, iaW g (d 2) 110 r2, iaW g (d 3) 110 r3, iaW g (d 4) 110 r4, iaW g (d 5) 880 r5, iaW g (d 6) 200 r6, iaW g (d 7) 60 r7, iaW g (d 8) 124 r8, doW g w2 dd] (x_pickD [0, 1, 2, 3, 4, 5, 6, 7, 8, 9, 10, 11, 12, 13, 14, 15, 16, 17, 18, 19, 20, 21, 22, 23, 24, 25, 26, 27, 28, 29, 30] 31 rfl rfl rfl) rfl rfl (Nat.le_of_ble_eq_true rfl) ⟨by omega, by omega⟩ dL_law_981 (x_goD (wss2 := [mdO g d u4.2, iaW g (d 1) 110 r1, ccO g a b y z, stO g a 10 v, cdW g a 10 c, loW g w u2.2, evW g a 10 e, stO g a 20 v2, cdW g a 20 c2, evW g a 20 e2, stO g a 30 v3, cdW g a 30 c3, evW g a 30 e3, hiO g a h, hrW g a t, stF g a vs, cdF g a cs, evF g a es, prO g b q, caW g b t2, cmF g b ws, sbO g y zz k, baW g zz n f, iaW g (d 2) 110 r2, iaW g (d 3) 110 r3, iaW g (d 4) 110 r4, iaW g (d 5) 880 r5, iaW g (d 6) 200 r6, iaW g (d 7) 60 r7, iaW g (d 8) 124 r8, doW g w2 dd]) (stk2 := [.int u5]) rfl rfl ?_)
  refine x_iload C dL_law_984 1 rfl ?_
  refine x_icmp_eq (tgt := 991) C dL_law_986 (by decide) (fun h6 => ?_) (fun h6 => ?_)
  · have hf := x_t h6 hf
    refine x_iload C dL_law_991 1 rfl ?_
    refine x_if_ne (tgt := 1015) C dL_law_993 (by decide) (fun h7 => ?_) (fun h7 => ?_)
    · have hf := x_f h7 hf
      refine x_goto (tgt := 2256) C dL_law_1015 (by decide) ?_
      refine x_perm (wss' := [ccO g a b y z, stO g a 10 v, cdW g a 10 c, evW g a 10 e, stO g a 20 v2, cdW g a 20 c2, evW g a 20 e2, stO g a 30 v3, cdW g a 30 c3, evW g a 30 e3, hiO g a h, hrW g a t, stF g a vs, cdF g a cs, evF g a es, prO g b q, caW g b t2, cmF g b ws, sbO g y zz k, baW g zz n f, mdO g d u4.2, iaW g (d 1) 110 r1, iaW g (d 2) 110 r2, iaW g (d 3) 110 r3, iaW g (d 4) 110 r4, iaW g (d 5) 880 r5, iaW g (d 6) 200 r6, iaW g (d 7) 60 r7, iaW g (d 8) 124 r8, loW g w u2.2, doW g w2 dd]) (x_pick [2, 3, 4, 6, 7, 8, 9, 10, 11, 12, 13, 14, 15, 16, 17, 18, 19, 20, 21, 22, 0, 1, 23, 24, 25, 26, 27, 28, 29, 5, 30] 31 rfl rfl rfl) ?_
      refine x_locals (lv' := [(0, .ref sb), (1, .ref (a 0)), (2, .ref (d 0)), (3, .ref w), (4, .ref w2), (5, .int i)]) [2, 3, 4, 5, 6, 7] rfl ?_
      refine x_widen (k := cells + 292) (n := slots + 5516) (by omega) (by omega) ?_
      obtain rfl := Option.some.inj hf
      exact kk zz
    · have hf := x_t h7 hf
      refine x_aload_n C dL_law_996 rfl 5 rfl ?_
      refine x_iconst (v := 0) C dL_law_997 (by decide) ?_
      obtain ⟨h8, hf⟩ := x_n hf
      refine x_lald (b := loW g w u2.2) C 5 rfl 0 (loW_at0 g w _) h8 dL_law_998 ?_
      refine x_iload C dL_law_999 0 rfl ?_
      refine x_if_eq (tgt := 1008) C dL_law_1001 (by decide) (fun h9 => ?_) (fun h9 => ?_)
      · have hf := x_t h9 hf
        refine x_lconst (v := 0) C dL_law_1008 (by decide) ?_
        refine x_lcmp C dL_law_1009 ?_
        refine x_if_eq (tgt := 1015) C dL_law_1010 (by decide) (fun h10 => ?_) (fun h10 => ?_)
        · have hf := x_t h10 hf
          refine x_goto (tgt := 2256) C dL_law_1015 (by decide) ?_
          refine x_perm (wss' := [ccO g a b y z, stO g a 10 v, cdW g a 10 c, evW g a 10 e, stO g a 20 v2, cdW g a 20 c2, evW g a 20 e2, stO g a 30 v3, cdW g a 30 c3, evW g a 30 e3, hiO g a h, hrW g a t, stF g a vs, cdF g a cs, evF g a es, prO g b q, caW g b t2, cmF g b ws, sbO g y zz k, baW g zz n f, mdO g d u4.2, iaW g (d 1) 110 r1, iaW g (d 2) 110 r2, iaW g (d 3) 110 r3, iaW g (d 4) 110 r4, iaW g (d 5) 880 r5, iaW g (d 6) 200 r6, iaW g (d 7) 60 r7, iaW g (d 8) 124 r8, loW g w u2.2, doW g w2 dd]) (x_pick [2, 3, 4, 6, 7, 8, 9, 10, 11, 12, 13, 14, 15, 16, 17, 18, 19, 20, 21, 22, 0, 1, 23, 24, 25, 26, 27, 28, 29, 5, 30] 31 rfl rfl rfl) ?_
          refine x_locals (lv' := [(0, .ref sb), (1, .ref (a 0)), (2, .ref (d 0)), (3, .ref w), (4, .ref w2), (5, .int i)]) [2, 3, 4, 5, 6, 7] rfl ?_
          refine x_widen (k := cells + 292) (n := slots + 5516) (by omega) (by omega) ?_
          obtain rfl := Option.some.inj hf
          exact kk zz
        · have hf := x_f h10 hf
          cases hf
      · have hf := x_f h9 hf
        refine x_lconst (v := 1) C dL_law_1004 (by decide) ?_
        refine x_goto (tgt := 1009) C dL_law_1005 (by decide) ?_
        refine x_lcmp C dL_law_1009 ?_
        refine x_if_eq (tgt := 1015) C dL_law_1010 (by decide) (fun h11 => ?_) (fun h11 => ?_)
        · have hf := x_t h11 hf
          refine x_goto (tgt := 2256) C dL_law_1015 (by decide) ?_
          refine x_perm (wss' := [ccO g a b y z, stO g a 10 v, cdW g a 10 c, evW g a 10 e, stO g a 20 v2, cdW g a 20 c2, evW g a 20 e2, stO g a 30 v3, cdW g a 30 c3, evW g a 30 e3, hiO g a h, hrW g a t, stF g a vs, cdF g a cs, evF g a es, prO g b q, caW g b t2, cmF g b ws, sbO g y zz k, baW g zz n f, mdO g d u4.2, iaW g (d 1) 110 r1, iaW g (d 2) 110 r2, iaW g (d 3) 110 r3, iaW g (d 4) 110 r4, iaW g (d 5) 880 r5, iaW g (d 6) 200 r6, iaW g (d 7) 60 r7, iaW g (d 8) 124 r8, loW g w u2.2, doW g w2 dd]) (x_pick [2, 3, 4, 6, 7, 8, 9, 10, 11, 12, 13, 14, 15, 16, 17, 18, 19, 20, 21, 22, 0, 1, 23, 24, 25, 26, 27, 28, 29, 5, 30] 31 rfl rfl rfl) ?_
          refine x_locals (lv' := [(0, .ref sb), (1, .ref (a 0)), (2, .ref (d 0)), (3, .ref w), (4, .ref w2), (5, .int i)]) [2, 3, 4, 5, 6, 7] rfl ?_
          refine x_widen (k := cells + 292) (n := slots + 5516) (by omega) (by omega) ?_
          obtain rfl := Option.some.inj hf
          exact kk zz
        · have hf := x_f h11 hf
          cases hf
  · have hf := x_f h6 hf
    cases hf
set_option maxHeartbeats 4000000 in
set_option maxRecDepth 100000 in
theorem c_law_1018 (a : Nat → Nat) (b : Nat → Nat) (y : Nat) (zz : Nat) (n : Nat) (d : Nat → Nat) (w : Nat) (w2 : Nat) (C : CX g RL cL_law 9 A pW sW mW argsW methW c9) (hl : l.stackTraces = false) (hX : va_X sb L xs sW sW.heap) (hbl : sb < sW.heap.size) (hbA : ¬ A sb) (hc : cells + 292 ≤ room_1.cells) (hs : slots + 5516 ≤ room_1.slots) (z : CcT) (v : StS) (c : CdT) (e : EvT) (v2 : StS) (c2 : CdT) (e2 : EvT) (v3 : StS) (c3 : CdT) (e3 : EvT) (h : HiT) (t : Unit) (vs : (Nat → StS)) (cs : (Nat → CdT)) (es : (Nat → EvT)) (q : PrT) (t2 : Unit) (ws : (Nat → CmT)) (k : SbT) (f : (Nat → Int32)) (m : MdT) (r1 : (Nat → Int32)) (r2 : (Nat → Int32)) (r3 : (Nat → Int32)) (r4 : (Nat → Int32)) (r5 : (Nat → Int32)) (r6 : (Nat → Int32)) (r7 : (Nat → Int32)) (r8 : (Nat → Int32)) (lo : (Nat → Int64)) (dd : (Nat → UInt64)) (i : Int32) {u : LwT} (hf : f_law_1018 n L xs z v c e v2 c2 e2 v3 c3 e3 h t vs cs es q t2 ws k f m r1 r2 r3 r4 r5 r6 r7 r8 lo dd i = some u)
    (kk : ∀ zz' : Nat, VW g A 9 pW l eW room_1 sW mW argsW belowW methW c9 (cells + 292) (slots + 5516) Q [ccO g a b y u.1, stO g a 10 u.2.1, cdW g a 10 u.2.2.1, evW g a 10 u.2.2.2.1, stO g a 20 u.2.2.2.2.1, cdW g a 20 u.2.2.2.2.2.1, evW g a 20 u.2.2.2.2.2.2.1, stO g a 30 u.2.2.2.2.2.2.2.1, cdW g a 30 u.2.2.2.2.2.2.2.2.1, evW g a 30 u.2.2.2.2.2.2.2.2.2.1, hiO g a u.2.2.2.2.2.2.2.2.2.2.1, hrW g a u.2.2.2.2.2.2.2.2.2.2.2.1, stF g a u.2.2.2.2.2.2.2.2.2.2.2.2.1, cdF g a u.2.2.2.2.2.2.2.2.2.2.2.2.2.1, evF g a u.2.2.2.2.2.2.2.2.2.2.2.2.2.2.1, prO g b u.2.2.2.2.2.2.2.2.2.2.2.2.2.2.2.1, caW g b u.2.2.2.2.2.2.2.2.2.2.2.2.2.2.2.2.1, cmF g b u.2.2.2.2.2.2.2.2.2.2.2.2.2.2.2.2.2.1, sbO g y zz' u.2.2.2.2.2.2.2.2.2.2.2.2.2.2.2.2.2.2.1, baW g zz' u.2.2.2.2.2.2.2.2.2.2.2.2.2.2.2.2.2.2.2.2.2.2.2.2.2.2.2.2.2.2.2 u.2.2.2.2.2.2.2.2.2.2.2.2.2.2.2.2.2.2.2.1, mdO g d u.2.2.2.2.2.2.2.2.2.2.2.2.2.2.2.2.2.2.2.2.1, iaW g (d 1) 110 u.2.2.2.2.2.2.2.2.2.2.2.2.2.2.2.2.2.2.2.2.2.1, iaW g (d 2) 110 u.2.2.2.2.2.2.2.2.2.2.2.2.2.2.2.2.2.2.2.2.2.2.1, iaW g (d 3) 110 u.2.2.2.2.2.2.2.2.2.2.2.2.2.2.2.2.2.2.2.2.2.2.2.1, iaW g (d 4) 110 u.2.2.2.2.2.2.2.2.2.2.2.2.2.2.2.2.2.2.2.2.2.2.2.2.1, iaW g (d 5) 880 u.2.2.2.2.2.2.2.2.2.2.2.2.2.2.2.2.2.2.2.2.2.2.2.2.2.1, iaW g (d 6) 200 u.2.2.2.2.2.2.2.2.2.2.2.2.2.2.2.2.2.2.2.2.2.2.2.2.2.2.1, iaW g (d 7) 60 u.2.2.2.2.2.2.2.2.2.2.2.2.2.2.2.2.2.2.2.2.2.2.2.2.2.2.2.1, iaW g (d 8) 124 u.2.2.2.2.2.2.2.2.2.2.2.2.2.2.2.2.2.2.2.2.2.2.2.2.2.2.2.2.1, loW g w u.2.2.2.2.2.2.2.2.2.2.2.2.2.2.2.2.2.2.2.2.2.2.2.2.2.2.2.2.2.1, doW g w2 u.2.2.2.2.2.2.2.2.2.2.2.2.2.2.2.2.2.2.2.2.2.2.2.2.2.2.2.2.2.2.1] [(0, .ref sb), (1, .ref (a 0)), (2, .ref (d 0)), (3, .ref w), (4, .ref w2), (5, .int i)] 2256 []) : VW g A 9 pW l eW room_1 sW mW argsW belowW methW c9 cells slots Q [ccO g a b y z, stO g a 10 v, cdW g a 10 c, evW g a 10 e, stO g a 20 v2, cdW g a 20 c2, evW g a 20 e2, stO g a 30 v3, cdW g a 30 c3, evW g a 30 e3, hiO g a h, hrW g a t, stF g a vs, cdF g a cs, evF g a es, prO g b q, caW g b t2, cmF g b ws, sbO g y zz k, baW g zz n f, mdO g d m, iaW g (d 1) 110 r1, iaW g (d 2) 110 r2, iaW g (d 3) 110 r3, iaW g (d 4) 110 r4, iaW g (d 5) 880 r5, iaW g (d 6) 200 r6, iaW g (d 7) 60 r7, iaW g (d 8) 124 r8, loW g w lo, doW g w2 dd] [(0, .ref sb), (1, .ref (a 0)), (2, .ref (d 0)), (3, .ref w), (4, .ref w2), (5, .int i)] 1018 [] := by
  unfold f_law_1018 at hf
  have C : CX g RL cL_law 9 A pW sW mW argsW methW c9 := C
  refine x_aload_n C dL_law_1018 rfl 1 rfl ?_
  obtain ⟨u1, hu1, hf⟩ := x_b hf
  refine x_callV (n := 0) (As := []) (rest := []) C (c_X9_litCandles g l a b y z v c hu1) ⟨⟨wd_369, wd_366, wd_65⟩, ⟨by decide, by decide, by decide⟩, rfl, rfl, Nat.le_of_ble_eq_true rfl, Nat.le_of_ble_eq_true rfl⟩ wd_367 wd_368 ⟨0, 10, _, _, rfl, rfl, rfl⟩ [evW g a 10 e, stO g a 20 v2, cdW g a 20 c2, evW g a 20 e2, stO g a 30 v3, cdW g a 30 c3, evW g a 30 e3, hiO g a h, hrW g a t, stF g a vs, cdF g a cs, evF g a es, prO g b q, caW g b t2, cmF g b ws, sbO g y zz k, baW g zz n f, mdO g d m, iaW g (d 1) 110 r1, iaW g (d 2) 110 r2, iaW g (d 3) 110 r3, iaW g (d 4) 110 r4, iaW g (d 5) 880 r5, iaW g (d 6) 200 r6, iaW g (d 7) 60 r7, iaW g (d 8) 124 r8, loW g w lo, doW g w2 dd] (x_pickD [0, 1, 2, 3, 4, 5, 6, 7, 8, 9, 10, 11, 12, 13, 14, 15, 16, 17, 18, 19, 20, 21, 22, 23, 24, 25, 26, 27, 28, 29, 30] 31 rfl rfl rfl) rfl rfl (Nat.le_of_ble_eq_true rfl) ⟨by omega, by omega⟩ dL_law_1019 (x_goD (wss2 := [ccO g a b y z, stO g a 10 v, cdW g a 10 c, evW g a 10 e, stO g a 20 v2, cdW g a 20 c2, evW g a 20 e2, stO g a 30 v3, cdW g a 30 c3, evW g a 30 e3, hiO g a h, hrW g a t, stF g a vs, cdF g a cs, evF g a es, prO g b q, caW g b t2, cmF g b ws, sbO g y zz k, baW g zz n f, mdO g d m, iaW g (d 1) 110 r1, iaW g (d 2) 110 r2, iaW g (d 3) 110 r3, iaW g (d 4) 110 r4, iaW g (d 5) 880 r5, iaW g (d 6) 200 r6, iaW g (d 7) 60 r7, iaW g (d 8) 124 r8, loW g w lo, doW g w2 dd]) (stk2 := [.int u1]) rfl rfl ?_)
  refine x_aload_n C dL_law_1022 rfl 2 rfl ?_
  obtain ⟨u2, hu2, hf⟩ := x_b hf
  refine x_callV (n := 0) (As := []) (rest := [.int u1]) C (c_X10_litCandles g l d m r1 hu2) ⟨⟨wd_1707, wd_1704, wd_78⟩, ⟨by decide, by decide, by decide⟩, rfl, rfl, Nat.le_of_ble_eq_true rfl, Nat.le_of_ble_eq_true rfl⟩ wd_1705 wd_1706 ⟨0, 11, _, _, rfl, rfl, rfl⟩ [ccO g a b y z, stO g a 10 v, cdW g a 10 c, evW g a 10 e, stO g a 20 v2, cdW g a 20 c2, evW g a 20 e2, stO g a 30 v3, cdW g a 30 c3, evW g a 30 e3, hiO g a h, hrW g a t, stF g a vs, cdF g a cs, evF g a es, prO g b q, caW g b t2, cmF g b ws, sbO g y zz k, baW g zz n f, iaW g (d 2) 110 r2, iaW g (d 3) 110 r3, iaW g (d 4) 110 r4, iaW g (d 5) 880 r5, iaW g (d 6) 200 r6, iaW g (d 7) 60 r7, iaW g (d 8) 124 r8, loW g w lo, doW g w2 dd] (x_pickD [20, 21, 0, 1, 2, 3, 4, 5, 6, 7, 8, 9, 10, 11, 12, 13, 14, 15, 16, 17, 18, 19, 22, 23, 24, 25, 26, 27, 28, 29, 30] 31 rfl rfl rfl) rfl rfl (Nat.le_of_ble_eq_true rfl) ⟨by omega, by omega⟩ dL_law_1023 (x_goD (wss2 := [mdO g d u2.2, iaW g (d 1) 110 r1, ccO g a b y z, stO g a 10 v, cdW g a 10 c, evW g a 10 e, stO g a 20 v2, cdW g a 20 c2, evW g a 20 e2, stO g a 30 v3, cdW g a 30 c3, evW g a 30 e3, hiO g a h, hrW g a t, stF g a vs, cdF g a cs, evF g a es, prO g b q, caW g b t2, cmF g b ws, sbO g y zz k, baW g zz n f, iaW g (d 2) 110 r2, iaW g (d 3) 110 r3, iaW g (d 4) 110 r4, iaW g (d 5) 880 r5, iaW g (d 6) 200 r6, iaW g (d 7) 60 r7, iaW g (d 8) 124 r8, loW g w lo, doW g w2 dd]) (stk2 := [.int u2.1, .int u1]) rfl rfl ?_)
  refine x_icmp_eq (tgt := 2256) C dL_law_1026 (by decide) (fun h3 => ?_) (fun h3 => ?_)
  · have hf := x_t h3 hf
    refine x_perm (wss' := [ccO g a b y z, stO g a 10 v, cdW g a 10 c, evW g a 10 e, stO g a 20 v2, cdW g a 20 c2, evW g a 20 e2, stO g a 30 v3, cdW g a 30 c3, evW g a 30 e3, hiO g a h, hrW g a t, stF g a vs, cdF g a cs, evF g a es, prO g b q, caW g b t2, cmF g b ws, sbO g y zz k, baW g zz n f, mdO g d u2.2, iaW g (d 1) 110 r1, iaW g (d 2) 110 r2, iaW g (d 3) 110 r3, iaW g (d 4) 110 r4, iaW g (d 5) 880 r5, iaW g (d 6) 200 r6, iaW g (d 7) 60 r7, iaW g (d 8) 124 r8, loW g w lo, doW g w2 dd]) (x_pick [2, 3, 4, 5, 6, 7, 8, 9, 10, 11, 12, 13, 14, 15, 16, 17, 18, 19, 20, 21, 0, 1, 22, 23, 24, 25, 26, 27, 28, 29, 30] 31 rfl rfl rfl) ?_
    refine x_locals (lv' := [(0, .ref sb), (1, .ref (a 0)), (2, .ref (d 0)), (3, .ref w), (4, .ref w2), (5, .int i)]) [0, 1, 2, 3, 4, 5] rfl ?_
    refine x_widen (k := cells + 292) (n := slots + 5516) (by omega) (by omega) ?_
    obtain rfl := Option.some.inj hf
    exact kk zz
  · have hf := x_f h3 hf
    cases hf
set_option maxHeartbeats 4000000 in
set_option maxRecDepth 100000 in
theorem c_law_1031 (a : Nat → Nat) (b : Nat → Nat) (y : Nat) (zz : Nat) (n : Nat) (d : Nat → Nat) (w : Nat) (w2 : Nat) (C : CX g RL cL_law 9 A pW sW mW argsW methW c9) (hl : l.stackTraces = false) (hX : va_X sb L xs sW sW.heap) (hbl : sb < sW.heap.size) (hbA : ¬ A sb) (hc : cells + 292 ≤ room_1.cells) (hs : slots + 5516 ≤ room_1.slots) (z : CcT) (v : StS) (c : CdT) (e : EvT) (v2 : StS) (c2 : CdT) (e2 : EvT) (v3 : StS) (c3 : CdT) (e3 : EvT) (h : HiT) (t : Unit) (vs : (Nat → StS)) (cs : (Nat → CdT)) (es : (Nat → EvT)) (q : PrT) (t2 : Unit) (ws : (Nat → CmT)) (k : SbT) (f : (Nat → Int32)) (m : MdT) (r1 : (Nat → Int32)) (r2 : (Nat → Int32)) (r3 : (Nat → Int32)) (r4 : (Nat → Int32)) (r5 : (Nat → Int32)) (r6 : (Nat → Int32)) (r7 : (Nat → Int32)) (r8 : (Nat → Int32)) (lo : (Nat → Int64)) (dd : (Nat → UInt64)) (i : Int32) {u : LwT} (hf : f_law_1031 n L xs z v c e v2 c2 e2 v3 c3 e3 h t vs cs es q t2 ws k f m r1 r2 r3 r4 r5 r6 r7 r8 lo dd i = some u)
    (kk : ∀ zz' : Nat, VW g A 9 pW l eW room_1 sW mW argsW belowW methW c9 (cells + 292) (slots + 5516) Q [ccO g a b y u.1, stO g a 10 u.2.1, cdW g a 10 u.2.2.1, evW g a 10 u.2.2.2.1, stO g a 20 u.2.2.2.2.1, cdW g a 20 u.2.2.2.2.2.1, evW g a 20 u.2.2.2.2.2.2.1, stO g a 30 u.2.2.2.2.2.2.2.1, cdW g a 30 u.2.2.2.2.2.2.2.2.1, evW g a 30 u.2.2.2.2.2.2.2.2.2.1, hiO g a u.2.2.2.2.2.2.2.2.2.2.1, hrW g a u.2.2.2.2.2.2.2.2.2.2.2.1, stF g a u.2.2.2.2.2.2.2.2.2.2.2.2.1, cdF g a u.2.2.2.2.2.2.2.2.2.2.2.2.2.1, evF g a u.2.2.2.2.2.2.2.2.2.2.2.2.2.2.1, prO g b u.2.2.2.2.2.2.2.2.2.2.2.2.2.2.2.1, caW g b u.2.2.2.2.2.2.2.2.2.2.2.2.2.2.2.2.1, cmF g b u.2.2.2.2.2.2.2.2.2.2.2.2.2.2.2.2.2.1, sbO g y zz' u.2.2.2.2.2.2.2.2.2.2.2.2.2.2.2.2.2.2.1, baW g zz' u.2.2.2.2.2.2.2.2.2.2.2.2.2.2.2.2.2.2.2.2.2.2.2.2.2.2.2.2.2.2.2 u.2.2.2.2.2.2.2.2.2.2.2.2.2.2.2.2.2.2.2.1, mdO g d u.2.2.2.2.2.2.2.2.2.2.2.2.2.2.2.2.2.2.2.2.1, iaW g (d 1) 110 u.2.2.2.2.2.2.2.2.2.2.2.2.2.2.2.2.2.2.2.2.2.1, iaW g (d 2) 110 u.2.2.2.2.2.2.2.2.2.2.2.2.2.2.2.2.2.2.2.2.2.2.1, iaW g (d 3) 110 u.2.2.2.2.2.2.2.2.2.2.2.2.2.2.2.2.2.2.2.2.2.2.2.1, iaW g (d 4) 110 u.2.2.2.2.2.2.2.2.2.2.2.2.2.2.2.2.2.2.2.2.2.2.2.2.1, iaW g (d 5) 880 u.2.2.2.2.2.2.2.2.2.2.2.2.2.2.2.2.2.2.2.2.2.2.2.2.2.1, iaW g (d 6) 200 u.2.2.2.2.2.2.2.2.2.2.2.2.2.2.2.2.2.2.2.2.2.2.2.2.2.2.1, iaW g (d 7) 60 u.2.2.2.2.2.2.2.2.2.2.2.2.2.2.2.2.2.2.2.2.2.2.2.2.2.2.2.1, iaW g (d 8) 124 u.2.2.2.2.2.2.2.2.2.2.2.2.2.2.2.2.2.2.2.2.2.2.2.2.2.2.2.2.1, loW g w u.2.2.2.2.2.2.2.2.2.2.2.2.2.2.2.2.2.2.2.2.2.2.2.2.2.2.2.2.2.1, doW g w2 u.2.2.2.2.2.2.2.2.2.2.2.2.2.2.2.2.2.2.2.2.2.2.2.2.2.2.2.2.2.2.1] [(0, .ref sb), (1, .ref (a 0)), (2, .ref (d 0)), (3, .ref w), (4, .ref w2), (5, .int i)] 2256 []) : VW g A 9 pW l eW room_1 sW mW argsW belowW methW c9 cells slots Q [ccO g a b y z, stO g a 10 v, cdW g a 10 c, evW g a 10 e, stO g a 20 v2, cdW g a 20 c2, evW g a 20 e2, stO g a 30 v3, cdW g a 30 c3, evW g a 30 e3, hiO g a h, hrW g a t, stF g a vs, cdF g a cs, evF g a es, prO g b q, caW g b t2, cmF g b ws, sbO g y zz k, baW g zz n f, mdO g d m, iaW g (d 1) 110 r1, iaW g (d 2) 110 r2, iaW g (d 3) 110 r3, iaW g (d 4) 110 r4, iaW g (d 5) 880 r5, iaW g (d 6) 200 r6, iaW g (d 7) 60 r7, iaW g (d 8) 124 r8, loW g w lo, doW g w2 dd] [(0, .ref sb), (1, .ref (a 0)), (2, .ref (d 0)), (3, .ref w), (4, .ref w2), (5, .int i)] 1031 [] := by
  unfold f_law_1031 at hf
  have C : CX g RL cL_law 9 A pW sW mW argsW methW c9 := C
  refine x_aload_n C dL_law_1031 rfl 1 rfl ?_
  refine x_aload_n C dL_law_1032 rfl 0 rfl ?_
  refine x_iload C dL_law_1033 5 rfl ?_
  refine x_iconst (v := 1) C dL_law_1035 (by decide) ?_
  refine x_iadd C dL_law_1036 ?_
  obtain ⟨h1, hf⟩ := x_n hf
  refine x_sld C hX hbl hbA h1 dL_law_1037 ?_
  refine x_i2c C dL_law_1038 rfl ?_
  refine x_aload_n C dL_law_1039 rfl 3 rfl ?_
  obtain ⟨u2, hu2, hf⟩ := x_b hf
  refine x_hcallS (n := 3) (As := [.ref (a 0), .int (((xs (i + (1 : Int32)).toNatClampNeg).toUInt32 % 65536).toInt32), .ref w]) (rest := []) C (c_L_sounding g l hl a b y w z v c lo (((xs (i + (1 : Int32)).toNatClampNeg).toUInt32 % 65536).toInt32) hu2) ⟨⟨wd_1147, wd_1145, wd_64⟩, ⟨by decide, by decide, by decide⟩, rfl, rfl, Nat.le_of_ble_eq_true rfl, Nat.le_of_ble_eq_true rfl⟩ wd_1146 [evW g a 10 e, stO g a 20 v2, cdW g a 20 c2, evW g a 20 e2, stO g a 30 v3, cdW g a 30 c3, evW g a 30 e3, hiO g a h, hrW g a t, stF g a vs, cdF g a cs, evF g a es, prO g b q, caW g b t2, cmF g b ws, sbO g y zz k, baW g zz n f, mdO g d m, iaW g (d 1) 110 r1, iaW g (d 2) 110 r2, iaW g (d 3) 110 r3, iaW g (d 4) 110 r4, iaW g (d 5) 880 r5, iaW g (d 6) 200 r6, iaW g (d 7) 60 r7, iaW g (d 8) 124 r8, doW g w2 dd] (x_pickD [0, 1, 2, 29, 3, 4, 5, 6, 7, 8, 9, 10, 11, 12, 13, 14, 15, 16, 17, 18, 19, 20, 21, 22, 23, 24, 25, 26, 27, 28, 30] 31 rfl rfl rfl) rfl rfl (Nat.le_of_ble_eq_true rfl) ⟨by omega, by omega⟩ dL_law_1040 (fun v9 w9 hQ9 => ?_)
  obtain ⟨rfl, rfl⟩ := hQ9
  refine x_goW (wss2 := [ccO g a b y z, stO g a 10 v, cdW g a 10 c, loW g w u2.2, evW g a 10 e, stO g a 20 v2, cdW g a 20 c2, evW g a 20 e2, stO g a 30 v3, cdW g a 30 c3, evW g a 30 e3, hiO g a h, hrW g a t, stF g a vs, cdF g a cs, evF g a es, prO g b q, caW g b t2, cmF g b ws, sbO g y zz k, baW g zz n f, mdO g d m, iaW g (d 1) 110 r1, iaW g (d 2) 110 r2, iaW g (d 3) 110 r3, iaW g (d 4) 110 r4, iaW g (d 5) 880 r5, iaW g (d 6) 200 r6, iaW g (d 7) 60 r7, iaW g (d 8) 124 r8, doW g w2 dd]) (stk2 := [.int u2.1]) rfl rfl rfl ?_
  refine x_istore (lv' := [(6, .int u2.1), (0, .ref sb), (1, .ref (a 0)), (2, .ref (d 0)), (3, .ref w), (4, .ref w2), (5, .int i)]) C dL_law_1043 (by decide) rfl ?_
  refine x_aload_n C dL_law_1045 rfl 3 rfl ?_
  refine x_aload_n C dL_law_1046 rfl 1 rfl ?_
  refine x_iload C dL_law_1047 6 rfl ?_
  refine x_iconst (v := 1) C dL_law_1049 (by decide) ?_
  refine x_iadd C dL_law_1050 ?_
  obtain ⟨h3, hf⟩ := x_n hf
  refine x_sld C hX hbl hbA h3 dL_law_1051 ?_
  refine x_i2c C dL_law_1052 rfl ?_
  obtain ⟨u4, hu4, hf⟩ := x_b hf
  refine x_callV (n := 1) (As := [.int (((xs (i + (1 : Int32)).toNatClampNeg).toUInt32 % 65536).toInt32)]) (rest := []) C (c_X10_sounding g l d m r1 (((xs (i + (1 : Int32)).toNatClampNeg).toUInt32 % 65536).toInt32) hu4) ⟨⟨wd_1711, wd_1708, wd_78⟩, ⟨by decide, by decide, by decide⟩, rfl, rfl, Nat.le_of_ble_eq_true rfl, Nat.le_of_ble_eq_true rfl⟩ wd_1709 wd_1710 ⟨0, 11, _, _, rfl, rfl, rfl⟩ [ccO g a b y z, stO g a 10 v, cdW g a 10 c, loW g w u2.2, evW g a 10 e, stO g a 20 v2, cdW g a 20 c2, evW g a 20 e2, stO g a 30 v3, cdW g a 30 c3, evW g a 30 e3, hiO g a h, hrW g a t, stF g a vs, cdF g a cs, evF g a es, prO g b q, caW g b t2, cmF g b ws, sbO g y zz k, baW g zz n f, iaW g (d 2) 110 r2, iaW g (d 3) 110 r3, iaW g (d 4) 110 r4, iaW g (d 5) 880 r5, iaW g (d 6) 200 r6, iaW g (d 7) 60 r7, iaW g (d 8) 124 r8, doW g w2 dd] (x_pickD [21, 22, 0, 1, 2, 3, 4, 5, 6, 7, 8, 9, 10, 11, 12, 13, 14, 15, 16, 17, 18, 19, 20, 23, 24, 25, 26, 27, 28, 29, 30] 31 rfl rfl rfl) rfl rfl (Nat.le_of_ble_eq_true rfl) ⟨by omega, by omega⟩ dL_law_1053 (x_goD (wss2 := [mdO g d u4.2, iaW g (d 1) 110 r1, ccO g a b y z, stO g a 10 v, cdW g a 10 c, loW g w u2.2, evW g a 10 e, stO g a 20 v2, cdW g a 20 c2, evW g a 20 e2, stO g a 30 v3, cdW g a 30 c3, evW g a 30 e3, hiO g a h, hrW g a t, stF g a vs, cdF g a cs, evF g a es, prO g b q, caW g b t2, cmF g b ws, sbO g y zz k, baW g zz n f, iaW g (d 2) 110 r2, iaW g (d 3) 110 r3, iaW g (d 4) 110 r4, iaW g (d 5) 880 r5, iaW g (d 6) 200 r6, iaW g (d 7) 60 r7, iaW g (d 8) 124 r8, doW g w2 dd]) (stk2 := [.int u4.1]) rfl rfl ?_)
  refine x_istore (lv' := [(7, .int u4.1), (6, .int u2.1), (0, .ref sb), (1, .ref (a 0)), (2, .ref (d 0)), (3, .ref w), (4, .ref w2), (5, .int i)]) C dL_law_1056 (by decide) rfl ?_
  refine x_aload_n C dL_law_1058 rfl 4 rfl ?_
  obtain ⟨u5, hu5, hf⟩ := x_b hf
  refine x_callV (n := 0) (As := []) (rest := []) C (c_X10_thrown g l d u4.2 hu5) ⟨⟨wd_1550, wd_1547, wd_78⟩, ⟨by decide, by decide, by decide⟩, rfl, rfl, Nat.le_of_ble_eq_true rfl, Nat.le_of_ble_eq_true rfl⟩ wd_1548 wd_1549 ⟨0, 11, _, _, rfl, rfl, rfl⟩ [iaW g (d 1) 110 r1, ccO g a b y z, stO g a 10 v, cdW g a 10 c, loW g w u2.2, evW g a 10 e, stO g a 20 v2, cdW g a 20 c2, evW g a 20 e2, stO g a 30 v3, cdW g a 30 c3, evW g a 30 e3, hiO g a h, hrW g a t, stF g a vs, cdF g a cs, evF g a es, prO g b q, caW g b t2, cmF g b ws, sbO g y zz k, baW g zz n f, iaW g (d 2) 110 r2, iaW g (d 3) 110 r3, iaW g (d 4) 110 r4, iaW g (d 5) 880 r5, iaW g (d 6) 200 r6, iaW g (d 7) 60 r7, iaW g (d 8) 124 r8, doW g w2 dd] (x_pickD [0, 1, 2, 3, 4, 5, 6, 7, 8, 9, 10, 11, 12, 13, 14, 15, 16, 17, 18, 19, 20, 21, 22, 23, 24, 25, 26, 27, 28, 29, 30] 31 rfl rfl rfl) rfl rfl (Nat.le_of_ble_eq_true rfl) ⟨by omega, by omega⟩ dL_law_1059 (x_goD (wss2 := [mdO g d u4.2, iaW g (d 1) 110 r1, ccO g a b y z, stO g a 10 v, cdW g a 10 c, loW g w u2.2, evW g a 10 e, stO g a 20 v2, cdW g a 20 c2, evW g a 20 e2, stO g a 30 v3, cdW g a 30 c3, evW g a 30 e3, hiO g a h, hrW g a t, stF g a vs, cdF g a cs, evF g a es, prO g b q, caW g b t2, cmF g b ws, sbO g y zz k, baW g zz n f, iaW g (d 2) 110 r2, iaW g (d 3) 110 r3, iaW g (d 4) 110 r4, iaW g (d 5) 880 r5, iaW g (d 6) 200 r6, iaW g (d 7) 60 r7, iaW g (d 8) 124 r8, doW g w2 dd]) (stk2 := [.int u5]) rfl rfl ?_)
  refine x_iload C dL_law_1062 1 rfl ?_
  refine x_icmp_eq (tgt := 1069) C dL_law_1064 (by decide) (fun h6 => ?_) (fun h6 => ?_)
  · have hf := x_t h6 hf
    refine x_iload C dL_law_1069 1 rfl ?_
    refine x_if_ne (tgt := 1086) C dL_law_1071 (by decide) (fun h7 => ?_) (fun h7 => ?_)
    · have hf := x_f h7 hf
      refine x_goto (tgt := 2256) C dL_law_1086 (by decide) ?_
      refine x_perm (wss' := [ccO g a b y z, stO g a 10 v, cdW g a 10 c, evW g a 10 e, stO g a 20 v2, cdW g a 20 c2, evW g a 20 e2, stO g a 30 v3, cdW g a 30 c3, evW g a 30 e3, hiO g a h, hrW g a t, stF g a vs, cdF g a cs, evF g a es, prO g b q, caW g b t2, cmF g b ws, sbO g y zz k, baW g zz n f, mdO g d u4.2, iaW g (d 1) 110 r1, iaW g (d 2) 110 r2, iaW g (d 3) 110 r3, iaW g (d 4) 110 r4, iaW g (d 5) 880 r5, iaW g (d 6) 200 r6, iaW g (d 7) 60 r7, iaW g (d 8) 124 r8, loW g w u2.2, doW g w2 dd]) (x_pick [2, 3, 4, 6, 7, 8, 9, 10, 11, 12, 13, 14, 15, 16, 17, 18, 19, 20, 21, 22, 0, 1, 23, 24, 25, 26, 27, 28, 29, 5, 30] 31 rfl rfl rfl) ?_
      refine x_locals (lv' := [(0, .ref sb), (1, .ref (a 0)), (2, .ref (d 0)), (3, .ref w), (4, .ref w2), (5, .int i)]) [2, 3, 4, 5, 6, 7] rfl ?_
      refine x_widen (k := cells + 292) (n := slots + 5516) (by omega) (by omega) ?_
      obtain rfl := Option.some.inj hf
      exact kk zz
    · have hf := x_t h7 hf
      refine x_aload_n C dL_law_1074 rfl 5 rfl ?_
      refine x_iconst (v := 0) C dL_law_1075 (by decide) ?_
      obtain ⟨h8, hf⟩ := x_n hf
      refine x_lald (b := loW g w u2.2) C 5 rfl 0 (loW_at0 g w _) h8 dL_law_1076 ?_
      refine x_iload C dL_law_1077 0 rfl ?_
      refine x_i2l C dL_law_1079 rfl ?_
      refine x_lcmp C dL_law_1080 ?_
      refine x_if_eq (tgt := 1086) C dL_law_1081 (by decide) (fun h9 => ?_) (fun h9 => ?_)
      · have hf := x_t h9 hf
        refine x_goto (tgt := 2256) C dL_law_1086 (by decide) ?_
        refine x_perm (wss' := [ccO g a b y z, stO g a 10 v, cdW g a 10 c, evW g a 10 e, stO g a 20 v2, cdW g a 20 c2, evW g a 20 e2, stO g a 30 v3, cdW g a 30 c3, evW g a 30 e3, hiO g a h, hrW g a t, stF g a vs, cdF g a cs, evF g a es, prO g b q, caW g b t2, cmF g b ws, sbO g y zz k, baW g zz n f, mdO g d u4.2, iaW g (d 1) 110 r1, iaW g (d 2) 110 r2, iaW g (d 3) 110 r3, iaW g (d 4) 110 r4, iaW g (d 5) 880 r5, iaW g (d 6) 200 r6, iaW g (d 7) 60 r7, iaW g (d 8) 124 r8, loW g w u2.2, doW g w2 dd]) (x_pick [2, 3, 4, 6, 7, 8, 9, 10, 11, 12, 13, 14, 15, 16, 17, 18, 19, 20, 21, 22, 0, 1, 23, 24, 25, 26, 27, 28, 29, 5, 30] 31 rfl rfl rfl) ?_
        refine x_locals (lv' := [(0, .ref sb), (1, .ref (a 0)), (2, .ref (d 0)), (3, .ref w), (4, .ref w2), (5, .int i)]) [2, 3, 4, 5, 6, 7] rfl ?_
        refine x_widen (k := cells + 292) (n := slots + 5516) (by omega) (by omega) ?_
        obtain rfl := Option.some.inj hf
        exact kk zz
      · have hf := x_f h9 hf
        cases hf
  · have hf := x_f h6 hf
    cases hf
set_option maxHeartbeats 4000000 in
set_option maxRecDepth 100000 in
theorem c_law_1089 (a : Nat → Nat) (b : Nat → Nat) (y : Nat) (zz : Nat) (n : Nat) (d : Nat → Nat) (w : Nat) (w2 : Nat) (C : CX g RL cL_law 9 A pW sW mW argsW methW c9) (hl : l.stackTraces = false) (hX : va_X sb L xs sW sW.heap) (hbl : sb < sW.heap.size) (hbA : ¬ A sb) (hc : cells + 292 ≤ room_1.cells) (hs : slots + 5516 ≤ room_1.slots) (z : CcT) (v : StS) (c : CdT) (e : EvT) (v2 : StS) (c2 : CdT) (e2 : EvT) (v3 : StS) (c3 : CdT) (e3 : EvT) (h : HiT) (t : Unit) (vs : (Nat → StS)) (cs : (Nat → CdT)) (es : (Nat → EvT)) (q : PrT) (t2 : Unit) (ws : (Nat → CmT)) (k : SbT) (f : (Nat → Int32)) (m : MdT) (r1 : (Nat → Int32)) (r2 : (Nat → Int32)) (r3 : (Nat → Int32)) (r4 : (Nat → Int32)) (r5 : (Nat → Int32)) (r6 : (Nat → Int32)) (r7 : (Nat → Int32)) (r8 : (Nat → Int32)) (lo : (Nat → Int64)) (dd : (Nat → UInt64)) (i : Int32) {u : LwT} (hf : f_law_1089 n L xs z v c e v2 c2 e2 v3 c3 e3 h t vs cs es q t2 ws k f m r1 r2 r3 r4 r5 r6 r7 r8 lo dd i = some u)
    (kk : ∀ zz' : Nat, VW g A 9 pW l eW room_1 sW mW argsW belowW methW c9 (cells + 292) (slots + 5516) Q [ccO g a b y u.1, stO g a 10 u.2.1, cdW g a 10 u.2.2.1, evW g a 10 u.2.2.2.1, stO g a 20 u.2.2.2.2.1, cdW g a 20 u.2.2.2.2.2.1, evW g a 20 u.2.2.2.2.2.2.1, stO g a 30 u.2.2.2.2.2.2.2.1, cdW g a 30 u.2.2.2.2.2.2.2.2.1, evW g a 30 u.2.2.2.2.2.2.2.2.2.1, hiO g a u.2.2.2.2.2.2.2.2.2.2.1, hrW g a u.2.2.2.2.2.2.2.2.2.2.2.1, stF g a u.2.2.2.2.2.2.2.2.2.2.2.2.1, cdF g a u.2.2.2.2.2.2.2.2.2.2.2.2.2.1, evF g a u.2.2.2.2.2.2.2.2.2.2.2.2.2.2.1, prO g b u.2.2.2.2.2.2.2.2.2.2.2.2.2.2.2.1, caW g b u.2.2.2.2.2.2.2.2.2.2.2.2.2.2.2.2.1, cmF g b u.2.2.2.2.2.2.2.2.2.2.2.2.2.2.2.2.2.1, sbO g y zz' u.2.2.2.2.2.2.2.2.2.2.2.2.2.2.2.2.2.2.1, baW g zz' u.2.2.2.2.2.2.2.2.2.2.2.2.2.2.2.2.2.2.2.2.2.2.2.2.2.2.2.2.2.2.2 u.2.2.2.2.2.2.2.2.2.2.2.2.2.2.2.2.2.2.2.1, mdO g d u.2.2.2.2.2.2.2.2.2.2.2.2.2.2.2.2.2.2.2.2.1, iaW g (d 1) 110 u.2.2.2.2.2.2.2.2.2.2.2.2.2.2.2.2.2.2.2.2.2.1, iaW g (d 2) 110 u.2.2.2.2.2.2.2.2.2.2.2.2.2.2.2.2.2.2.2.2.2.2.1, iaW g (d 3) 110 u.2.2.2.2.2.2.2.2.2.2.2.2.2.2.2.2.2.2.2.2.2.2.2.1, iaW g (d 4) 110 u.2.2.2.2.2.2.2.2.2.2.2.2.2.2.2.2.2.2.2.2.2.2.2.2.1, iaW g (d 5) 880 u.2.2.2.2.2.2.2.2.2.2.2.2.2.2.2.2.2.2.2.2.2.2.2.2.2.1, iaW g (d 6) 200 u.2.2.2.2.2.2.2.2.2.2.2.2.2.2.2.2.2.2.2.2.2.2.2.2.2.2.1, iaW g (d 7) 60 u.2.2.2.2.2.2.2.2.2.2.2.2.2.2.2.2.2.2.2.2.2.2.2.2.2.2.2.1, iaW g (d 8) 124 u.2.2.2.2.2.2.2.2.2.2.2.2.2.2.2.2.2.2.2.2.2.2.2.2.2.2.2.2.1, loW g w u.2.2.2.2.2.2.2.2.2.2.2.2.2.2.2.2.2.2.2.2.2.2.2.2.2.2.2.2.2.1, doW g w2 u.2.2.2.2.2.2.2.2.2.2.2.2.2.2.2.2.2.2.2.2.2.2.2.2.2.2.2.2.2.2.1] [(0, .ref sb), (1, .ref (a 0)), (2, .ref (d 0)), (3, .ref w), (4, .ref w2), (5, .int i)] 2256 []) : VW g A 9 pW l eW room_1 sW mW argsW belowW methW c9 cells slots Q [ccO g a b y z, stO g a 10 v, cdW g a 10 c, evW g a 10 e, stO g a 20 v2, cdW g a 20 c2, evW g a 20 e2, stO g a 30 v3, cdW g a 30 c3, evW g a 30 e3, hiO g a h, hrW g a t, stF g a vs, cdF g a cs, evF g a es, prO g b q, caW g b t2, cmF g b ws, sbO g y zz k, baW g zz n f, mdO g d m, iaW g (d 1) 110 r1, iaW g (d 2) 110 r2, iaW g (d 3) 110 r3, iaW g (d 4) 110 r4, iaW g (d 5) 880 r5, iaW g (d 6) 200 r6, iaW g (d 7) 60 r7, iaW g (d 8) 124 r8, loW g w lo, doW g w2 dd] [(0, .ref sb), (1, .ref (a 0)), (2, .ref (d 0)), (3, .ref w), (4, .ref w2), (5, .int i)] 1089 [] := by
  unfold f_law_1089 at hf
  have C : CX g RL cL_law 9 A pW sW mW argsW methW c9 := C
  refine x_aload_n C dL_law_1089 rfl 1 rfl ?_
  refine x_aload_n C dL_law_1090 rfl 0 rfl ?_
  refine x_iload C dL_law_1091 5 rfl ?_
  refine x_iconst (v := 1) C dL_law_1093 (by decide) ?_
  refine x_iadd C dL_law_1094 ?_
  obtain ⟨h1, hf⟩ := x_n hf
  refine x_sld C hX hbl hbA h1 dL_law_1095 ?_
  refine x_aload_n C dL_law_1096 rfl 3 rfl ?_
  obtain ⟨u2, hu2, hf⟩ := x_b hf
  refine x_hcallS (n := 3) (As := [.ref (a 0), .int (xs (i + (1 : Int32)).toNatClampNeg), .ref w]) (rest := []) C (c_L_minutesLeft g l hl a b y w z v c lo (xs (i + (1 : Int32)).toNatClampNeg) hu2) ⟨⟨wd_1159, wd_1157, wd_64⟩, ⟨by decide, by decide, by decide⟩, rfl, rfl, Nat.le_of_ble_eq_true rfl, Nat.le_of_ble_eq_true rfl⟩ wd_1158 [evW g a 10 e, stO g a 20 v2, cdW g a 20 c2, evW g a 20 e2, stO g a 30 v3, cdW g a 30 c3, evW g a 30 e3, hiO g a h, hrW g a t, stF g a vs, cdF g a cs, evF g a es, prO g b q, caW g b t2, cmF g b ws, sbO g y zz k, baW g zz n f, mdO g d m, iaW g (d 1) 110 r1, iaW g (d 2) 110 r2, iaW g (d 3) 110 r3, iaW g (d 4) 110 r4, iaW g (d 5) 880 r5, iaW g (d 6) 200 r6, iaW g (d 7) 60 r7, iaW g (d 8) 124 r8, doW g w2 dd] (x_pickD [0, 1, 2, 29, 3, 4, 5, 6, 7, 8, 9, 10, 11, 12, 13, 14, 15, 16, 17, 18, 19, 20, 21, 22, 23, 24, 25, 26, 27, 28, 30] 31 rfl rfl rfl) rfl rfl (Nat.le_of_ble_eq_true rfl) ⟨by omega, by omega⟩ dL_law_1097 (fun v9 w9 hQ9 => ?_)
  obtain ⟨rfl, rfl⟩ := hQ9
  refine x_goW (wss2 := [ccO g a b y z, stO g a 10 v, cdW g a 10 c, loW g w u2.2, evW g a 10 e, stO g a 20 v2, cdW g a 20 c2, evW g a 20 e2, stO g a 30 v3, cdW g a 30 c3, evW g a 30 e3, hiO g a h, hrW g a t, stF g a vs, cdF g a cs, evF g a es, prO g b q, caW g b t2, cmF g b ws, sbO g y zz k, baW g zz n f, mdO g d m, iaW g (d 1) 110 r1, iaW g (d 2) 110 r2, iaW g (d 3) 110 r3, iaW g (d 4) 110 r4, iaW g (d 5) 880 r5, iaW g (d 6) 200 r6, iaW g (d 7) 60 r7, iaW g (d 8) 124 r8, doW g w2 dd]) (stk2 := [.int u2.1]) rfl rfl rfl ?_
  refine x_istore (lv' := [(6, .int u2.1), (0, .ref sb), (1, .ref (a 0)), (2, .ref (d 0)), (3, .ref w), (4, .ref w2), (5, .int i)]) C dL_law_1100 (by decide) rfl ?_
  refine x_aload_n C dL_law_1102 rfl 3 rfl ?_
  refine x_aload_n C dL_law_1103 rfl 1 rfl ?_
  refine x_iload C dL_law_1104 6 rfl ?_
  refine x_iconst (v := 1) C dL_law_1106 (by decide) ?_
  refine x_iadd C dL_law_1107 ?_
  obtain ⟨h3, hf⟩ := x_n hf
  refine x_sld C hX hbl hbA h3 dL_law_1108 ?_
  obtain ⟨u4, hu4, hf⟩ := x_b hf
  refine x_callV (n := 1) (As := [.int (xs (i + (1 : Int32)).toNatClampNeg)]) (rest := []) C (c_X10_minutesLeft g l d m r1 (xs (i + (1 : Int32)).toNatClampNeg) hu4) ⟨⟨wd_1719, wd_1716, wd_78⟩, ⟨by decide, by decide, by decide⟩, rfl, rfl, Nat.le_of_ble_eq_true rfl, Nat.le_of_ble_eq_true rfl⟩ wd_1717 wd_1718 ⟨0, 11, _, _, rfl, rfl, rfl⟩ [ccO g a b y z, stO g a 10 v, cdW g a 10 c, loW g w u2.2, evW g a 10 e, stO g a 20 v2, cdW g a 20 c2, evW g a 20 e2, stO g a 30 v3, cdW g a 30 c3, evW g a 30 e3, hiO g a h, hrW g a t, stF g a vs, cdF g a cs, evF g a es, prO g b q, caW g b t2, cmF g b ws, sbO g y zz k, baW g zz n f, iaW g (d 2) 110 r2, iaW g (d 3) 110 r3, iaW g (d 4) 110 r4, iaW g (d 5) 880 r5, iaW g (d 6) 200 r6, iaW g (d 7) 60 r7, iaW g (d 8) 124 r8, doW g w2 dd] (x_pickD [21, 22, 0, 1, 2, 3, 4, 5, 6, 7, 8, 9, 10, 11, 12, 13, 14, 15, 16, 17, 18, 19, 20, 23, 24, 25, 26, 27, 28, 29, 30] 31 rfl rfl rfl) rfl rfl (Nat.le_of_ble_eq_true rfl) ⟨by omega, by omega⟩ dL_law_1109 (x_goD (wss2 := [mdO g d u4.2, iaW g (d 1) 110 r1, ccO g a b y z, stO g a 10 v, cdW g a 10 c, loW g w u2.2, evW g a 10 e, stO g a 20 v2, cdW g a 20 c2, evW g a 20 e2, stO g a 30 v3, cdW g a 30 c3, evW g a 30 e3, hiO g a h, hrW g a t, stF g a vs, cdF g a cs, evF g a es, prO g b q, caW g b t2, cmF g b ws, sbO g y zz k, baW g zz n f, iaW g (d 2) 110 r2, iaW g (d 3) 110 r3, iaW g (d 4) 110 r4, iaW g (d 5) 880 r5, iaW g (d 6) 200 r6, iaW g (d 7) 60 r7, iaW g (d 8) 124 r8, doW g w2 dd]) (stk2 := [.int u4.1]) rfl rfl ?_)
  refine x_istore (lv' := [(7, .int u4.1), (6, .int u2.1), (0, .ref sb), (1, .ref (a 0)), (2, .ref (d 0)), (3, .ref w), (4, .ref w2), (5, .int i)]) C dL_law_1112 (by decide) rfl ?_
  refine x_aload_n C dL_law_1114 rfl 4 rfl ?_
  obtain ⟨u5, hu5, hf⟩ := x_b hf
  refine x_callV (n := 0) (As := []) (rest := []) C (c_X10_thrown g l d u4.2 hu5) ⟨⟨wd_1550, wd_1547, wd_78⟩, ⟨by decide, by decide, by decide⟩, rfl, rfl, Nat.le_of_ble_eq_true rfl, Nat.le_of_ble_eq_true rfl⟩ wd_1548 wd_1549 ⟨0, 11, _, _, rfl, rfl, rfl⟩ [iaW g (d 1) 110 r1, ccO g a b y z, stO g a 10 v, cdW g a 10 c, loW g w u2.2, evW g a 10 e, stO g a 20 v2, cdW g a 20 c2, evW g a 20 e2, stO g a 30 v3, cdW g a 30 c3, evW g a 30 e3, hiO g a h, hrW g a t, stF g a vs, cdF g a cs, evF g a es, prO g b q, caW g b t2, cmF g b ws, sbO g y zz k, baW g zz n f, iaW g (d 2) 110 r2, iaW g (d 3) 110 r3, iaW g (d 4) 110 r4, iaW g (d 5) 880 r5, iaW g (d 6) 200 r6, iaW g (d 7) 60 r7, iaW g (d 8) 124 r8, doW g w2 dd] (x_pickD [0, 1, 2, 3, 4, 5, 6, 7, 8, 9, 10, 11, 12, 13, 14, 15, 16, 17, 18, 19, 20, 21, 22, 23, 24, 25, 26, 27, 28, 29, 30] 31 rfl rfl rfl) rfl rfl (Nat.le_of_ble_eq_true rfl) ⟨by omega, by omega⟩ dL_law_1115 (x_goD (wss2 := [mdO g d u4.2, iaW g (d 1) 110 r1, ccO g a b y z, stO g a 10 v, cdW g a 10 c, loW g w u2.2, evW g a 10 e, stO g a 20 v2, cdW g a 20 c2, evW g a 20 e2, stO g a 30 v3, cdW g a 30 c3, evW g a 30 e3, hiO g a h, hrW g a t, stF g a vs, cdF g a cs, evF g a es, prO g b q, caW g b t2, cmF g b ws, sbO g y zz k, baW g zz n f, iaW g (d 2) 110 r2, iaW g (d 3) 110 r3, iaW g (d 4) 110 r4, iaW g (d 5) 880 r5, iaW g (d 6) 200 r6, iaW g (d 7) 60 r7, iaW g (d 8) 124 r8, doW g w2 dd]) (stk2 := [.int u5]) rfl rfl ?_)
  refine x_iload C dL_law_1118 1 rfl ?_
  refine x_icmp_eq (tgt := 1125) C dL_law_1120 (by decide) (fun h6 => ?_) (fun h6 => ?_)
  · have hf := x_t h6 hf
    refine x_iload C dL_law_1125 1 rfl ?_
    refine x_if_ne (tgt := 1142) C dL_law_1127 (by decide) (fun h7 => ?_) (fun h7 => ?_)
    · have hf := x_f h7 hf
      refine x_goto (tgt := 2256) C dL_law_1142 (by decide) ?_
      refine x_perm (wss' := [ccO g a b y z, stO g a 10 v, cdW g a 10 c, evW g a 10 e, stO g a 20 v2, cdW g a 20 c2, evW g a 20 e2, stO g a 30 v3, cdW g a 30 c3, evW g a 30 e3, hiO g a h, hrW g a t, stF g a vs, cdF g a cs, evF g a es, prO g b q, caW g b t2, cmF g b ws, sbO g y zz k, baW g zz n f, mdO g d u4.2, iaW g (d 1) 110 r1, iaW g (d 2) 110 r2, iaW g (d 3) 110 r3, iaW g (d 4) 110 r4, iaW g (d 5) 880 r5, iaW g (d 6) 200 r6, iaW g (d 7) 60 r7, iaW g (d 8) 124 r8, loW g w u2.2, doW g w2 dd]) (x_pick [2, 3, 4, 6, 7, 8, 9, 10, 11, 12, 13, 14, 15, 16, 17, 18, 19, 20, 21, 22, 0, 1, 23, 24, 25, 26, 27, 28, 29, 5, 30] 31 rfl rfl rfl) ?_
      refine x_locals (lv' := [(0, .ref sb), (1, .ref (a 0)), (2, .ref (d 0)), (3, .ref w), (4, .ref w2), (5, .int i)]) [2, 3, 4, 5, 6, 7] rfl ?_
      refine x_widen (k := cells + 292) (n := slots + 5516) (by omega) (by omega) ?_
      obtain rfl := Option.some.inj hf
      exact kk zz
    · have hf := x_t h7 hf
      refine x_aload_n C dL_law_1130 rfl 5 rfl ?_
      refine x_iconst (v := 0) C dL_law_1131 (by decide) ?_
      obtain ⟨h8, hf⟩ := x_n hf
      refine x_lald (b := loW g w u2.2) C 5 rfl 0 (loW_at0 g w _) h8 dL_law_1132 ?_
      refine x_iload C dL_law_1133 0 rfl ?_
      refine x_i2l C dL_law_1135 rfl ?_
      refine x_lcmp C dL_law_1136 ?_
      refine x_if_eq (tgt := 1142) C dL_law_1137 (by decide) (fun h9 => ?_) (fun h9 => ?_)
      · have hf := x_t h9 hf
        refine x_goto (tgt := 2256) C dL_law_1142 (by decide) ?_
        refine x_perm (wss' := [ccO g a b y z, stO g a 10 v, cdW g a 10 c, evW g a 10 e, stO g a 20 v2, cdW g a 20 c2, evW g a 20 e2, stO g a 30 v3, cdW g a 30 c3, evW g a 30 e3, hiO g a h, hrW g a t, stF g a vs, cdF g a cs, evF g a es, prO g b q, caW g b t2, cmF g b ws, sbO g y zz k, baW g zz n f, mdO g d u4.2, iaW g (d 1) 110 r1, iaW g (d 2) 110 r2, iaW g (d 3) 110 r3, iaW g (d 4) 110 r4, iaW g (d 5) 880 r5, iaW g (d 6) 200 r6, iaW g (d 7) 60 r7, iaW g (d 8) 124 r8, loW g w u2.2, doW g w2 dd]) (x_pick [2, 3, 4, 6, 7, 8, 9, 10, 11, 12, 13, 14, 15, 16, 17, 18, 19, 20, 21, 22, 0, 1, 23, 24, 25, 26, 27, 28, 29, 5, 30] 31 rfl rfl rfl) ?_
        refine x_locals (lv' := [(0, .ref sb), (1, .ref (a 0)), (2, .ref (d 0)), (3, .ref w), (4, .ref w2), (5, .int i)]) [2, 3, 4, 5, 6, 7] rfl ?_
        refine x_widen (k := cells + 292) (n := slots + 5516) (by omega) (by omega) ?_
        obtain rfl := Option.some.inj hf
        exact kk zz
      · have hf := x_f h9 hf
        cases hf
  · have hf := x_f h6 hf
    cases hf
set_option maxHeartbeats 4000000 in
set_option maxRecDepth 100000 in
theorem c_law_1145 (a : Nat → Nat) (b : Nat → Nat) (y : Nat) (zz : Nat) (n : Nat) (d : Nat → Nat) (w : Nat) (w2 : Nat) (C : CX g RL cL_law 9 A pW sW mW argsW methW c9) (hl : l.stackTraces = false) (hX : va_X sb L xs sW sW.heap) (hbl : sb < sW.heap.size) (hbA : ¬ A sb) (hc : cells + 292 ≤ room_1.cells) (hs : slots + 5516 ≤ room_1.slots) (z : CcT) (v : StS) (c : CdT) (e : EvT) (v2 : StS) (c2 : CdT) (e2 : EvT) (v3 : StS) (c3 : CdT) (e3 : EvT) (h : HiT) (t : Unit) (vs : (Nat → StS)) (cs : (Nat → CdT)) (es : (Nat → EvT)) (q : PrT) (t2 : Unit) (ws : (Nat → CmT)) (k : SbT) (f : (Nat → Int32)) (m : MdT) (r1 : (Nat → Int32)) (r2 : (Nat → Int32)) (r3 : (Nat → Int32)) (r4 : (Nat → Int32)) (r5 : (Nat → Int32)) (r6 : (Nat → Int32)) (r7 : (Nat → Int32)) (r8 : (Nat → Int32)) (lo : (Nat → Int64)) (dd : (Nat → UInt64)) (i : Int32) {u : LwT} (hf : f_law_1145 n L xs z v c e v2 c2 e2 v3 c3 e3 h t vs cs es q t2 ws k f m r1 r2 r3 r4 r5 r6 r7 r8 lo dd i = some u)
    (kk : ∀ zz' : Nat, VW g A 9 pW l eW room_1 sW mW argsW belowW methW c9 (cells + 292) (slots + 5516) Q [ccO g a b y u.1, stO g a 10 u.2.1, cdW g a 10 u.2.2.1, evW g a 10 u.2.2.2.1, stO g a 20 u.2.2.2.2.1, cdW g a 20 u.2.2.2.2.2.1, evW g a 20 u.2.2.2.2.2.2.1, stO g a 30 u.2.2.2.2.2.2.2.1, cdW g a 30 u.2.2.2.2.2.2.2.2.1, evW g a 30 u.2.2.2.2.2.2.2.2.2.1, hiO g a u.2.2.2.2.2.2.2.2.2.2.1, hrW g a u.2.2.2.2.2.2.2.2.2.2.2.1, stF g a u.2.2.2.2.2.2.2.2.2.2.2.2.1, cdF g a u.2.2.2.2.2.2.2.2.2.2.2.2.2.1, evF g a u.2.2.2.2.2.2.2.2.2.2.2.2.2.2.1, prO g b u.2.2.2.2.2.2.2.2.2.2.2.2.2.2.2.1, caW g b u.2.2.2.2.2.2.2.2.2.2.2.2.2.2.2.2.1, cmF g b u.2.2.2.2.2.2.2.2.2.2.2.2.2.2.2.2.2.1, sbO g y zz' u.2.2.2.2.2.2.2.2.2.2.2.2.2.2.2.2.2.2.1, baW g zz' u.2.2.2.2.2.2.2.2.2.2.2.2.2.2.2.2.2.2.2.2.2.2.2.2.2.2.2.2.2.2.2 u.2.2.2.2.2.2.2.2.2.2.2.2.2.2.2.2.2.2.2.1, mdO g d u.2.2.2.2.2.2.2.2.2.2.2.2.2.2.2.2.2.2.2.2.1, iaW g (d 1) 110 u.2.2.2.2.2.2.2.2.2.2.2.2.2.2.2.2.2.2.2.2.2.1, iaW g (d 2) 110 u.2.2.2.2.2.2.2.2.2.2.2.2.2.2.2.2.2.2.2.2.2.2.1, iaW g (d 3) 110 u.2.2.2.2.2.2.2.2.2.2.2.2.2.2.2.2.2.2.2.2.2.2.2.1, iaW g (d 4) 110 u.2.2.2.2.2.2.2.2.2.2.2.2.2.2.2.2.2.2.2.2.2.2.2.2.1, iaW g (d 5) 880 u.2.2.2.2.2.2.2.2.2.2.2.2.2.2.2.2.2.2.2.2.2.2.2.2.2.1, iaW g (d 6) 200 u.2.2.2.2.2.2.2.2.2.2.2.2.2.2.2.2.2.2.2.2.2.2.2.2.2.2.1, iaW g (d 7) 60 u.2.2.2.2.2.2.2.2.2.2.2.2.2.2.2.2.2.2.2.2.2.2.2.2.2.2.2.1, iaW g (d 8) 124 u.2.2.2.2.2.2.2.2.2.2.2.2.2.2.2.2.2.2.2.2.2.2.2.2.2.2.2.2.1, loW g w u.2.2.2.2.2.2.2.2.2.2.2.2.2.2.2.2.2.2.2.2.2.2.2.2.2.2.2.2.2.1, doW g w2 u.2.2.2.2.2.2.2.2.2.2.2.2.2.2.2.2.2.2.2.2.2.2.2.2.2.2.2.2.2.2.1] [(0, .ref sb), (1, .ref (a 0)), (2, .ref (d 0)), (3, .ref w), (4, .ref w2), (5, .int i)] 2256 []) : VW g A 9 pW l eW room_1 sW mW argsW belowW methW c9 cells slots Q [ccO g a b y z, stO g a 10 v, cdW g a 10 c, evW g a 10 e, stO g a 20 v2, cdW g a 20 c2, evW g a 20 e2, stO g a 30 v3, cdW g a 30 c3, evW g a 30 e3, hiO g a h, hrW g a t, stF g a vs, cdF g a cs, evF g a es, prO g b q, caW g b t2, cmF g b ws, sbO g y zz k, baW g zz n f, mdO g d m, iaW g (d 1) 110 r1, iaW g (d 2) 110 r2, iaW g (d 3) 110 r3, iaW g (d 4) 110 r4, iaW g (d 5) 880 r5, iaW g (d 6) 200 r6, iaW g (d 7) 60 r7, iaW g (d 8) 124 r8, loW g w lo, doW g w2 dd] [(0, .ref sb), (1, .ref (a 0)), (2, .ref (d 0)), (3, .ref w), (4, .ref w2), (5, .int i)] 1145 [] := by
  unfold f_law_1145 at hf
  have C : CX g RL cL_law 9 A pW sW mW argsW methW c9 := C
  refine x_aload_n C dL_law_1145 rfl 1 rfl ?_
  refine x_aload_n C dL_law_1146 rfl 0 rfl ?_
  refine x_iload C dL_law_1147 5 rfl ?_
  refine x_iconst (v := 1) C dL_law_1149 (by decide) ?_
  refine x_iadd C dL_law_1150 ?_
  obtain ⟨h1, hf⟩ := x_n hf
  refine x_sld C hX hbl hbA h1 dL_law_1151 ?_
  refine x_aload_n C dL_law_1152 rfl 3 rfl ?_
  obtain ⟨u2, hu2, hf⟩ := x_b hf
  refine x_hcallS (n := 3) (As := [.ref (a 0), .int (xs (i + (1 : Int32)).toNatClampNeg), .ref w]) (rest := []) C (c_L_minutesLeftByBurning g l hl a b y w z v c lo (xs (i + (1 : Int32)).toNatClampNeg) hu2) ⟨⟨wd_1166, wd_1164, wd_64⟩, ⟨by decide, by decide, by decide⟩, rfl, rfl, Nat.le_of_ble_eq_true rfl, Nat.le_of_ble_eq_true rfl⟩ wd_1165 [evW g a 10 e, stO g a 20 v2, cdW g a 20 c2, evW g a 20 e2, stO g a 30 v3, cdW g a 30 c3, evW g a 30 e3, hiO g a h, hrW g a t, stF g a vs, cdF g a cs, evF g a es, prO g b q, caW g b t2, cmF g b ws, sbO g y zz k, baW g zz n f, mdO g d m, iaW g (d 1) 110 r1, iaW g (d 2) 110 r2, iaW g (d 3) 110 r3, iaW g (d 4) 110 r4, iaW g (d 5) 880 r5, iaW g (d 6) 200 r6, iaW g (d 7) 60 r7, iaW g (d 8) 124 r8, doW g w2 dd] (x_pickD [0, 1, 2, 29, 3, 4, 5, 6, 7, 8, 9, 10, 11, 12, 13, 14, 15, 16, 17, 18, 19, 20, 21, 22, 23, 24, 25, 26, 27, 28, 30] 31 rfl rfl rfl) rfl rfl (Nat.le_of_ble_eq_true rfl) ⟨by omega, by omega⟩ dL_law_1153 (fun v9 w9 hQ9 => ?_)
  obtain ⟨rfl, rfl⟩ := hQ9
  refine x_goW (wss2 := [ccO g a b y z, stO g a 10 v, cdW g a 10 c, loW g w u2.2, evW g a 10 e, stO g a 20 v2, cdW g a 20 c2, evW g a 20 e2, stO g a 30 v3, cdW g a 30 c3, evW g a 30 e3, hiO g a h, hrW g a t, stF g a vs, cdF g a cs, evF g a es, prO g b q, caW g b t2, cmF g b ws, sbO g y zz k, baW g zz n f, mdO g d m, iaW g (d 1) 110 r1, iaW g (d 2) 110 r2, iaW g (d 3) 110 r3, iaW g (d 4) 110 r4, iaW g (d 5) 880 r5, iaW g (d 6) 200 r6, iaW g (d 7) 60 r7, iaW g (d 8) 124 r8, doW g w2 dd]) (stk2 := [.int u2.1]) rfl rfl rfl ?_
  refine x_istore (lv' := [(6, .int u2.1), (0, .ref sb), (1, .ref (a 0)), (2, .ref (d 0)), (3, .ref w), (4, .ref w2), (5, .int i)]) C dL_law_1156 (by decide) rfl ?_
  refine x_aload_n C dL_law_1158 rfl 3 rfl ?_
  refine x_aload_n C dL_law_1159 rfl 1 rfl ?_
  refine x_iload C dL_law_1160 6 rfl ?_
  refine x_iconst (v := 1) C dL_law_1162 (by decide) ?_
  refine x_iadd C dL_law_1163 ?_
  obtain ⟨h3, hf⟩ := x_n hf
  refine x_sld C hX hbl hbA h3 dL_law_1164 ?_
  obtain ⟨u4, hu4, hf⟩ := x_b hf
  refine x_callV (n := 1) (As := [.int (xs (i + (1 : Int32)).toNatClampNeg)]) (rest := []) C (c_X10_minutesLeftByBurning g l d m r1 (xs (i + (1 : Int32)).toNatClampNeg) hu4) ⟨⟨wd_1723, wd_1720, wd_78⟩, ⟨by decide, by decide, by decide⟩, rfl, rfl, Nat.le_of_ble_eq_true rfl, Nat.le_of_ble_eq_true rfl⟩ wd_1721 wd_1722 ⟨0, 11, _, _, rfl, rfl, rfl⟩ [ccO g a b y z, stO g a 10 v, cdW g a 10 c, loW g w u2.2, evW g a 10 e, stO g a 20 v2, cdW g a 20 c2, evW g a 20 e2, stO g a 30 v3, cdW g a 30 c3, evW g a 30 e3, hiO g a h, hrW g a t, stF g a vs, cdF g a cs, evF g a es, prO g b q, caW g b t2, cmF g b ws, sbO g y zz k, baW g zz n f, iaW g (d 2) 110 r2, iaW g (d 3) 110 r3, iaW g (d 4) 110 r4, iaW g (d 5) 880 r5, iaW g (d 6) 200 r6, iaW g (d 7) 60 r7, iaW g (d 8) 124 r8, doW g w2 dd] (x_pickD [21, 22, 0, 1, 2, 3, 4, 5, 6, 7, 8, 9, 10, 11, 12, 13, 14, 15, 16, 17, 18, 19, 20, 23, 24, 25, 26, 27, 28, 29, 30] 31 rfl rfl rfl) rfl rfl (Nat.le_of_ble_eq_true rfl) ⟨by omega, by omega⟩ dL_law_1165 (x_goD (wss2 := [mdO g d u4.2, iaW g (d 1) 110 r1, ccO g a b y z, stO g a 10 v, cdW g a 10 c, loW g w u2.2, evW g a 10 e, stO g a 20 v2, cdW g a 20 c2, evW g a 20 e2, stO g a 30 v3, cdW g a 30 c3, evW g a 30 e3, hiO g a h, hrW g a t, stF g a vs, cdF g a cs, evF g a es, prO g b q, caW g b t2, cmF g b ws, sbO g y zz k, baW g zz n f, iaW g (d 2) 110 r2, iaW g (d 3) 110 r3, iaW g (d 4) 110 r4, iaW g (d 5) 880 r5, iaW g (d 6) 200 r6, iaW g (d 7) 60 r7, iaW g (d 8) 124 r8, doW g w2 dd]) (stk2 := [.int u4.1]) rfl rfl ?_)
  refine x_istore (lv' := [(7, .int u4.1), (6, .int u2.1), (0, .ref sb), (1, .ref (a 0)), (2, .ref (d 0)), (3, .ref w), (4, .ref w2), (5, .int i)]) C dL_law_1168 (by decide) rfl ?_
  refine x_aload_n C dL_law_1170 rfl 4 rfl ?_
  obtain ⟨u5, hu5, hf⟩ := x_b hf
  refine x_callV (n := 0) (As := []) (rest := []) C (c_X10_thrown g l d u4.2 hu5) ⟨⟨wd_1550, wd_1547, wd_78⟩, ⟨by decide, by decide, by decide⟩, rfl, rfl, Nat.le_of_ble_eq_true rfl, Nat.le_of_ble_eq_true rfl⟩ wd_1548 wd_1549 ⟨0, 11, _, _, rfl, rfl, rfl⟩ [iaW g (d 1) 110 r1, ccO g a b y z, stO g a 10 v, cdW g a 10 c, loW g w u2.2, evW g a 10 e, stO g a 20 v2, cdW g a 20 c2, evW g a 20 e2, stO g a 30 v3, cdW g a 30 c3, evW g a 30 e3, hiO g a h, hrW g a t, stF g a vs, cdF g a cs, evF g a es, prO g b q, caW g b t2, cmF g b ws, sbO g y zz k, baW g zz n f, iaW g (d 2) 110 r2, iaW g (d 3) 110 r3, iaW g (d 4) 110 r4, iaW g (d 5) 880 r5, iaW g (d 6) 200 r6, iaW g (d 7) 60 r7, iaW g (d 8) 124 r8, doW g w2 dd] (x_pickD [0, 1, 2, 3, 4, 5, 6, 7, 8, 9, 10, 11, 12, 13, 14, 15, 16, 17, 18, 19, 20, 21, 22, 23, 24, 25, 26, 27, 28, 29, 30] 31 rfl rfl rfl) rfl rfl (Nat.le_of_ble_eq_true rfl) ⟨by omega, by omega⟩ dL_law_1171 (x_goD (wss2 := [mdO g d u4.2, iaW g (d 1) 110 r1, ccO g a b y z, stO g a 10 v, cdW g a 10 c, loW g w u2.2, evW g a 10 e, stO g a 20 v2, cdW g a 20 c2, evW g a 20 e2, stO g a 30 v3, cdW g a 30 c3, evW g a 30 e3, hiO g a h, hrW g a t, stF g a vs, cdF g a cs, evF g a es, prO g b q, caW g b t2, cmF g b ws, sbO g y zz k, baW g zz n f, iaW g (d 2) 110 r2, iaW g (d 3) 110 r3, iaW g (d 4) 110 r4, iaW g (d 5) 880 r5, iaW g (d 6) 200 r6, iaW g (d 7) 60 r7, iaW g (d 8) 124 r8, doW g w2 dd]) (stk2 := [.int u5]) rfl rfl ?_)
  refine x_iload C dL_law_1174 1 rfl ?_
  refine x_icmp_eq (tgt := 1181) C dL_law_1176 (by decide) (fun h6 => ?_) (fun h6 => ?_)
  · have hf := x_t h6 hf
    refine x_iload C dL_law_1181 1 rfl ?_
    refine x_if_ne (tgt := 1198) C dL_law_1183 (by decide) (fun h7 => ?_) (fun h7 => ?_)
    · have hf := x_f h7 hf
      refine x_goto (tgt := 2256) C dL_law_1198 (by decide) ?_
      refine x_perm (wss' := [ccO g a b y z, stO g a 10 v, cdW g a 10 c, evW g a 10 e, stO g a 20 v2, cdW g a 20 c2, evW g a 20 e2, stO g a 30 v3, cdW g a 30 c3, evW g a 30 e3, hiO g a h, hrW g a t, stF g a vs, cdF g a cs, evF g a es, prO g b q, caW g b t2, cmF g b ws, sbO g y zz k, baW g zz n f, mdO g d u4.2, iaW g (d 1) 110 r1, iaW g (d 2) 110 r2, iaW g (d 3) 110 r3, iaW g (d 4) 110 r4, iaW g (d 5) 880 r5, iaW g (d 6) 200 r6, iaW g (d 7) 60 r7, iaW g (d 8) 124 r8, loW g w u2.2, doW g w2 dd]) (x_pick [2, 3, 4, 6, 7, 8, 9, 10, 11, 12, 13, 14, 15, 16, 17, 18, 19, 20, 21, 22, 0, 1, 23, 24, 25, 26, 27, 28, 29, 5, 30] 31 rfl rfl rfl) ?_
      refine x_locals (lv' := [(0, .ref sb), (1, .ref (a 0)), (2, .ref (d 0)), (3, .ref w), (4, .ref w2), (5, .int i)]) [2, 3, 4, 5, 6, 7] rfl ?_
      refine x_widen (k := cells + 292) (n := slots + 5516) (by omega) (by omega) ?_
      obtain rfl := Option.some.inj hf
      exact kk zz
    · have hf := x_t h7 hf
      refine x_aload_n C dL_law_1186 rfl 5 rfl ?_
      refine x_iconst (v := 0) C dL_law_1187 (by decide) ?_
      obtain ⟨h8, hf⟩ := x_n hf
      refine x_lald (b := loW g w u2.2) C 5 rfl 0 (loW_at0 g w _) h8 dL_law_1188 ?_
      refine x_iload C dL_law_1189 0 rfl ?_
      refine x_i2l C dL_law_1191 rfl ?_
      refine x_lcmp C dL_law_1192 ?_
      refine x_if_eq (tgt := 1198) C dL_law_1193 (by decide) (fun h9 => ?_) (fun h9 => ?_)
      · have hf := x_t h9 hf
        refine x_goto (tgt := 2256) C dL_law_1198 (by decide) ?_
        refine x_perm (wss' := [ccO g a b y z, stO g a 10 v, cdW g a 10 c, evW g a 10 e, stO g a 20 v2, cdW g a 20 c2, evW g a 20 e2, stO g a 30 v3, cdW g a 30 c3, evW g a 30 e3, hiO g a h, hrW g a t, stF g a vs, cdF g a cs, evF g a es, prO g b q, caW g b t2, cmF g b ws, sbO g y zz k, baW g zz n f, mdO g d u4.2, iaW g (d 1) 110 r1, iaW g (d 2) 110 r2, iaW g (d 3) 110 r3, iaW g (d 4) 110 r4, iaW g (d 5) 880 r5, iaW g (d 6) 200 r6, iaW g (d 7) 60 r7, iaW g (d 8) 124 r8, loW g w u2.2, doW g w2 dd]) (x_pick [2, 3, 4, 6, 7, 8, 9, 10, 11, 12, 13, 14, 15, 16, 17, 18, 19, 20, 21, 22, 0, 1, 23, 24, 25, 26, 27, 28, 29, 5, 30] 31 rfl rfl rfl) ?_
        refine x_locals (lv' := [(0, .ref sb), (1, .ref (a 0)), (2, .ref (d 0)), (3, .ref w), (4, .ref w2), (5, .int i)]) [2, 3, 4, 5, 6, 7] rfl ?_
        refine x_widen (k := cells + 292) (n := slots + 5516) (by omega) (by omega) ?_
        obtain rfl := Option.some.inj hf
        exact kk zz
      · have hf := x_f h9 hf
        cases hf
  · have hf := x_f h6 hf
    cases hf
set_option maxHeartbeats 4000000 in
set_option maxRecDepth 100000 in
theorem c_law_1201 (a : Nat → Nat) (b : Nat → Nat) (y : Nat) (zz : Nat) (n : Nat) (d : Nat → Nat) (w : Nat) (w2 : Nat) (C : CX g RL cL_law 9 A pW sW mW argsW methW c9) (hl : l.stackTraces = false) (hX : va_X sb L xs sW sW.heap) (hbl : sb < sW.heap.size) (hbA : ¬ A sb) (hc : cells + 292 ≤ room_1.cells) (hs : slots + 5516 ≤ room_1.slots) (z : CcT) (v : StS) (c : CdT) (e : EvT) (v2 : StS) (c2 : CdT) (e2 : EvT) (v3 : StS) (c3 : CdT) (e3 : EvT) (h : HiT) (t : Unit) (vs : (Nat → StS)) (cs : (Nat → CdT)) (es : (Nat → EvT)) (q : PrT) (t2 : Unit) (ws : (Nat → CmT)) (k : SbT) (f : (Nat → Int32)) (m : MdT) (r1 : (Nat → Int32)) (r2 : (Nat → Int32)) (r3 : (Nat → Int32)) (r4 : (Nat → Int32)) (r5 : (Nat → Int32)) (r6 : (Nat → Int32)) (r7 : (Nat → Int32)) (r8 : (Nat → Int32)) (lo : (Nat → Int64)) (dd : (Nat → UInt64)) (i : Int32) {u : LwT} (hf : f_law_1201 n L xs z v c e v2 c2 e2 v3 c3 e3 h t vs cs es q t2 ws k f m r1 r2 r3 r4 r5 r6 r7 r8 lo dd i = some u)
    (kk : ∀ zz' : Nat, VW g A 9 pW l eW room_1 sW mW argsW belowW methW c9 (cells + 292) (slots + 5516) Q [ccO g a b y u.1, stO g a 10 u.2.1, cdW g a 10 u.2.2.1, evW g a 10 u.2.2.2.1, stO g a 20 u.2.2.2.2.1, cdW g a 20 u.2.2.2.2.2.1, evW g a 20 u.2.2.2.2.2.2.1, stO g a 30 u.2.2.2.2.2.2.2.1, cdW g a 30 u.2.2.2.2.2.2.2.2.1, evW g a 30 u.2.2.2.2.2.2.2.2.2.1, hiO g a u.2.2.2.2.2.2.2.2.2.2.1, hrW g a u.2.2.2.2.2.2.2.2.2.2.2.1, stF g a u.2.2.2.2.2.2.2.2.2.2.2.2.1, cdF g a u.2.2.2.2.2.2.2.2.2.2.2.2.2.1, evF g a u.2.2.2.2.2.2.2.2.2.2.2.2.2.2.1, prO g b u.2.2.2.2.2.2.2.2.2.2.2.2.2.2.2.1, caW g b u.2.2.2.2.2.2.2.2.2.2.2.2.2.2.2.2.1, cmF g b u.2.2.2.2.2.2.2.2.2.2.2.2.2.2.2.2.2.1, sbO g y zz' u.2.2.2.2.2.2.2.2.2.2.2.2.2.2.2.2.2.2.1, baW g zz' u.2.2.2.2.2.2.2.2.2.2.2.2.2.2.2.2.2.2.2.2.2.2.2.2.2.2.2.2.2.2.2 u.2.2.2.2.2.2.2.2.2.2.2.2.2.2.2.2.2.2.2.1, mdO g d u.2.2.2.2.2.2.2.2.2.2.2.2.2.2.2.2.2.2.2.2.1, iaW g (d 1) 110 u.2.2.2.2.2.2.2.2.2.2.2.2.2.2.2.2.2.2.2.2.2.1, iaW g (d 2) 110 u.2.2.2.2.2.2.2.2.2.2.2.2.2.2.2.2.2.2.2.2.2.2.1, iaW g (d 3) 110 u.2.2.2.2.2.2.2.2.2.2.2.2.2.2.2.2.2.2.2.2.2.2.2.1, iaW g (d 4) 110 u.2.2.2.2.2.2.2.2.2.2.2.2.2.2.2.2.2.2.2.2.2.2.2.2.1, iaW g (d 5) 880 u.2.2.2.2.2.2.2.2.2.2.2.2.2.2.2.2.2.2.2.2.2.2.2.2.2.1, iaW g (d 6) 200 u.2.2.2.2.2.2.2.2.2.2.2.2.2.2.2.2.2.2.2.2.2.2.2.2.2.2.1, iaW g (d 7) 60 u.2.2.2.2.2.2.2.2.2.2.2.2.2.2.2.2.2.2.2.2.2.2.2.2.2.2.2.1, iaW g (d 8) 124 u.2.2.2.2.2.2.2.2.2.2.2.2.2.2.2.2.2.2.2.2.2.2.2.2.2.2.2.2.1, loW g w u.2.2.2.2.2.2.2.2.2.2.2.2.2.2.2.2.2.2.2.2.2.2.2.2.2.2.2.2.2.1, doW g w2 u.2.2.2.2.2.2.2.2.2.2.2.2.2.2.2.2.2.2.2.2.2.2.2.2.2.2.2.2.2.2.1] [(0, .ref sb), (1, .ref (a 0)), (2, .ref (d 0)), (3, .ref w), (4, .ref w2), (5, .int i)] 2256 []) : VW g A 9 pW l eW room_1 sW mW argsW belowW methW c9 cells slots Q [ccO g a b y z, stO g a 10 v, cdW g a 10 c, evW g a 10 e, stO g a 20 v2, cdW g a 20 c2, evW g a 20 e2, stO g a 30 v3, cdW g a 30 c3, evW g a 30 e3, hiO g a h, hrW g a t, stF g a vs, cdF g a cs, evF g a es, prO g b q, caW g b t2, cmF g b ws, sbO g y zz k, baW g zz n f, mdO g d m, iaW g (d 1) 110 r1, iaW g (d 2) 110 r2, iaW g (d 3) 110 r3, iaW g (d 4) 110 r4, iaW g (d 5) 880 r5, iaW g (d 6) 200 r6, iaW g (d 7) 60 r7, iaW g (d 8) 124 r8, loW g w lo, doW g w2 dd] [(0, .ref sb), (1, .ref (a 0)), (2, .ref (d 0)), (3, .ref w), (4, .ref w2), (5, .int i)] 1201 [] := by
  unfold f_law_1201 at hf
  have C : CX g RL cL_law 9 A pW sW mW argsW methW c9 := C
  refine x_aload_n C dL_law_1201 rfl 1 rfl ?_
  refine x_aload_n C dL_law_1202 rfl 0 rfl ?_
  refine x_iload C dL_law_1203 5 rfl ?_
  refine x_iconst (v := 1) C dL_law_1205 (by decide) ?_
  refine x_iadd C dL_law_1206 ?_
  obtain ⟨h1, hf⟩ := x_n hf
  refine x_sld C hX hbl hbA h1 dL_law_1207 ?_
  refine x_aload_n C dL_law_1208 rfl 3 rfl ?_
  obtain ⟨u2, hu2, hf⟩ := x_b hf
  refine x_hcallS (n := 3) (As := [.ref (a 0), .int (xs (i + (1 : Int32)).toNatClampNeg), .ref w]) (rest := []) C (c_L_candleByWax g l hl a b y w z v c lo (xs (i + (1 : Int32)).toNatClampNeg) hu2) ⟨⟨wd_1173, wd_1171, wd_64⟩, ⟨by decide, by decide, by decide⟩, rfl, rfl, Nat.le_of_ble_eq_true rfl, Nat.le_of_ble_eq_true rfl⟩ wd_1172 [evW g a 10 e, stO g a 20 v2, cdW g a 20 c2, evW g a 20 e2, stO g a 30 v3, cdW g a 30 c3, evW g a 30 e3, hiO g a h, hrW g a t, stF g a vs, cdF g a cs, evF g a es, prO g b q, caW g b t2, cmF g b ws, sbO g y zz k, baW g zz n f, mdO g d m, iaW g (d 1) 110 r1, iaW g (d 2) 110 r2, iaW g (d 3) 110 r3, iaW g (d 4) 110 r4, iaW g (d 5) 880 r5, iaW g (d 6) 200 r6, iaW g (d 7) 60 r7, iaW g (d 8) 124 r8, doW g w2 dd] (x_pickD [0, 1, 2, 29, 3, 4, 5, 6, 7, 8, 9, 10, 11, 12, 13, 14, 15, 16, 17, 18, 19, 20, 21, 22, 23, 24, 25, 26, 27, 28, 30] 31 rfl rfl rfl) rfl rfl (Nat.le_of_ble_eq_true rfl) ⟨by omega, by omega⟩ dL_law_1209 (fun v9 w9 hQ9 => ?_)
  obtain ⟨rfl, rfl⟩ := hQ9
  refine x_goW (wss2 := [ccO g a b y z, stO g a 10 v, cdW g a 10 c, loW g w u2.2, evW g a 10 e, stO g a 20 v2, cdW g a 20 c2, evW g a 20 e2, stO g a 30 v3, cdW g a 30 c3, evW g a 30 e3, hiO g a h, hrW g a t, stF g a vs, cdF g a cs, evF g a es, prO g b q, caW g b t2, cmF g b ws, sbO g y zz k, baW g zz n f, mdO g d m, iaW g (d 1) 110 r1, iaW g (d 2) 110 r2, iaW g (d 3) 110 r3, iaW g (d 4) 110 r4, iaW g (d 5) 880 r5, iaW g (d 6) 200 r6, iaW g (d 7) 60 r7, iaW g (d 8) 124 r8, doW g w2 dd]) (stk2 := [.int u2.1]) rfl rfl rfl ?_
  refine x_istore (lv' := [(6, .int u2.1), (0, .ref sb), (1, .ref (a 0)), (2, .ref (d 0)), (3, .ref w), (4, .ref w2), (5, .int i)]) C dL_law_1212 (by decide) rfl ?_
  refine x_aload_n C dL_law_1214 rfl 3 rfl ?_
  refine x_aload_n C dL_law_1215 rfl 1 rfl ?_
  refine x_iload C dL_law_1216 6 rfl ?_
  refine x_iconst (v := 1) C dL_law_1218 (by decide) ?_
  refine x_iadd C dL_law_1219 ?_
  obtain ⟨h3, hf⟩ := x_n hf
  refine x_sld C hX hbl hbA h3 dL_law_1220 ?_
  obtain ⟨u4, hu4, hf⟩ := x_b hf
  refine x_callV (n := 1) (As := [.int (xs (i + (1 : Int32)).toNatClampNeg)]) (rest := []) C (c_X10_candleByWax g l d m r1 (xs (i + (1 : Int32)).toNatClampNeg) hu4) ⟨⟨wd_1728, wd_1725, wd_78⟩, ⟨by decide, by decide, by decide⟩, rfl, rfl, Nat.le_of_ble_eq_true rfl, Nat.le_of_ble_eq_true rfl⟩ wd_1726 wd_1727 ⟨0, 11, _, _, rfl, rfl, rfl⟩ [ccO g a b y z, stO g a 10 v, cdW g a 10 c, loW g w u2.2, evW g a 10 e, stO g a 20 v2, cdW g a 20 c2, evW g a 20 e2, stO g a 30 v3, cdW g a 30 c3, evW g a 30 e3, hiO g a h, hrW g a t, stF g a vs, cdF g a cs, evF g a es, prO g b q, caW g b t2, cmF g b ws, sbO g y zz k, baW g zz n f, iaW g (d 2) 110 r2, iaW g (d 3) 110 r3, iaW g (d 4) 110 r4, iaW g (d 5) 880 r5, iaW g (d 6) 200 r6, iaW g (d 7) 60 r7, iaW g (d 8) 124 r8, doW g w2 dd] (x_pickD [21, 22, 0, 1, 2, 3, 4, 5, 6, 7, 8, 9, 10, 11, 12, 13, 14, 15, 16, 17, 18, 19, 20, 23, 24, 25, 26, 27, 28, 29, 30] 31 rfl rfl rfl) rfl rfl (Nat.le_of_ble_eq_true rfl) ⟨by omega, by omega⟩ dL_law_1221 (x_goD (wss2 := [mdO g d u4.2, iaW g (d 1) 110 r1, ccO g a b y z, stO g a 10 v, cdW g a 10 c, loW g w u2.2, evW g a 10 e, stO g a 20 v2, cdW g a 20 c2, evW g a 20 e2, stO g a 30 v3, cdW g a 30 c3, evW g a 30 e3, hiO g a h, hrW g a t, stF g a vs, cdF g a cs, evF g a es, prO g b q, caW g b t2, cmF g b ws, sbO g y zz k, baW g zz n f, iaW g (d 2) 110 r2, iaW g (d 3) 110 r3, iaW g (d 4) 110 r4, iaW g (d 5) 880 r5, iaW g (d 6) 200 r6, iaW g (d 7) 60 r7, iaW g (d 8) 124 r8, doW g w2 dd]) (stk2 := [.int u4.1]) rfl rfl ?_)
  refine x_istore (lv' := [(7, .int u4.1), (6, .int u2.1), (0, .ref sb), (1, .ref (a 0)), (2, .ref (d 0)), (3, .ref w), (4, .ref w2), (5, .int i)]) C dL_law_1224 (by decide) rfl ?_
  refine x_aload_n C dL_law_1226 rfl 4 rfl ?_
  obtain ⟨u5, hu5, hf⟩ := x_b hf
  refine x_callV (n := 0) (As := []) (rest := []) C (c_X10_thrown g l d u4.2 hu5) ⟨⟨wd_1550, wd_1547, wd_78⟩, ⟨by decide, by decide, by decide⟩, rfl, rfl, Nat.le_of_ble_eq_true rfl, Nat.le_of_ble_eq_true rfl⟩ wd_1548 wd_1549 ⟨0, 11, _, _, rfl, rfl, rfl⟩ [iaW g (d 1) 110 r1, ccO g a b y z, stO g a 10 v, cdW g a 10 c, loW g w u2.2, evW g a 10 e, stO g a 20 v2, cdW g a 20 c2, evW g a 20 e2, stO g a 30 v3, cdW g a 30 c3, evW g a 30 e3, hiO g a h, hrW g a t, stF g a vs, cdF g a cs, evF g a es, prO g b q, caW g b t2, cmF g b ws, sbO g y zz k, baW g zz n f, iaW g (d 2) 110 r2, iaW g (d 3) 110 r3, iaW g (d 4) 110 r4, iaW g (d 5) 880 r5, iaW g (d 6) 200 r6, iaW g (d 7) 60 r7, iaW g (d 8) 124 r8, doW g w2 dd] (x_pickD [0, 1, 2, 3, 4, 5, 6, 7, 8, 9, 10, 11, 12, 13, 14, 15, 16, 17, 18, 19, 20, 21, 22, 23, 24, 25, 26, 27, 28, 29, 30] 31 rfl rfl rfl) rfl rfl (Nat.le_of_ble_eq_true rfl) ⟨by omega, by omega⟩ dL_law_1227 (x_goD (wss2 := [mdO g d u4.2, iaW g (d 1) 110 r1, ccO g a b y z, stO g a 10 v, cdW g a 10 c, loW g w u2.2, evW g a 10 e, stO g a 20 v2, cdW g a 20 c2, evW g a 20 e2, stO g a 30 v3, cdW g a 30 c3, evW g a 30 e3, hiO g a h, hrW g a t, stF g a vs, cdF g a cs, evF g a es, prO g b q, caW g b t2, cmF g b ws, sbO g y zz k, baW g zz n f, iaW g (d 2) 110 r2, iaW g (d 3) 110 r3, iaW g (d 4) 110 r4, iaW g (d 5) 880 r5, iaW g (d 6) 200 r6, iaW g (d 7) 60 r7, iaW g (d 8) 124 r8, doW g w2 dd]) (stk2 := [.int u5]) rfl rfl ?_)
  refine x_iload C dL_law_1230 1 rfl ?_
  refine x_icmp_eq (tgt := 1237) C dL_law_1232 (by decide) (fun h6 => ?_) (fun h6 => ?_)
  · have hf := x_t h6 hf
    refine x_iload C dL_law_1237 1 rfl ?_
    refine x_if_ne (tgt := 1254) C dL_law_1239 (by decide) (fun h7 => ?_) (fun h7 => ?_)
    · have hf := x_f h7 hf
      refine x_goto (tgt := 2256) C dL_law_1254 (by decide) ?_
      refine x_perm (wss' := [ccO g a b y z, stO g a 10 v, cdW g a 10 c, evW g a 10 e, stO g a 20 v2, cdW g a 20 c2, evW g a 20 e2, stO g a 30 v3, cdW g a 30 c3, evW g a 30 e3, hiO g a h, hrW g a t, stF g a vs, cdF g a cs, evF g a es, prO g b q, caW g b t2, cmF g b ws, sbO g y zz k, baW g zz n f, mdO g d u4.2, iaW g (d 1) 110 r1, iaW g (d 2) 110 r2, iaW g (d 3) 110 r3, iaW g (d 4) 110 r4, iaW g (d 5) 880 r5, iaW g (d 6) 200 r6, iaW g (d 7) 60 r7, iaW g (d 8) 124 r8, loW g w u2.2, doW g w2 dd]) (x_pick [2, 3, 4, 6, 7, 8, 9, 10, 11, 12, 13, 14, 15, 16, 17, 18, 19, 20, 21, 22, 0, 1, 23, 24, 25, 26, 27, 28, 29, 5, 30] 31 rfl rfl rfl) ?_
      refine x_locals (lv' := [(0, .ref sb), (1, .ref (a 0)), (2, .ref (d 0)), (3, .ref w), (4, .ref w2), (5, .int i)]) [2, 3, 4, 5, 6, 7] rfl ?_
      refine x_widen (k := cells + 292) (n := slots + 5516) (by omega) (by omega) ?_
      obtain rfl := Option.some.inj hf
      exact kk zz
    · have hf := x_t h7 hf
      refine x_aload_n C dL_law_1242 rfl 5 rfl ?_
      refine x_iconst (v := 0) C dL_law_1243 (by decide) ?_
      obtain ⟨h8, hf⟩ := x_n hf
      refine x_lald (b := loW g w u2.2) C 5 rfl 0 (loW_at0 g w _) h8 dL_law_1244 ?_
      refine x_iload C dL_law_1245 0 rfl ?_
      refine x_i2l C dL_law_1247 rfl ?_
      refine x_lcmp C dL_law_1248 ?_
      refine x_if_eq (tgt := 1254) C dL_law_1249 (by decide) (fun h9 => ?_) (fun h9 => ?_)
      · have hf := x_t h9 hf
        refine x_goto (tgt := 2256) C dL_law_1254 (by decide) ?_
        refine x_perm (wss' := [ccO g a b y z, stO g a 10 v, cdW g a 10 c, evW g a 10 e, stO g a 20 v2, cdW g a 20 c2, evW g a 20 e2, stO g a 30 v3, cdW g a 30 c3, evW g a 30 e3, hiO g a h, hrW g a t, stF g a vs, cdF g a cs, evF g a es, prO g b q, caW g b t2, cmF g b ws, sbO g y zz k, baW g zz n f, mdO g d u4.2, iaW g (d 1) 110 r1, iaW g (d 2) 110 r2, iaW g (d 3) 110 r3, iaW g (d 4) 110 r4, iaW g (d 5) 880 r5, iaW g (d 6) 200 r6, iaW g (d 7) 60 r7, iaW g (d 8) 124 r8, loW g w u2.2, doW g w2 dd]) (x_pick [2, 3, 4, 6, 7, 8, 9, 10, 11, 12, 13, 14, 15, 16, 17, 18, 19, 20, 21, 22, 0, 1, 23, 24, 25, 26, 27, 28, 29, 5, 30] 31 rfl rfl rfl) ?_
        refine x_locals (lv' := [(0, .ref sb), (1, .ref (a 0)), (2, .ref (d 0)), (3, .ref w), (4, .ref w2), (5, .int i)]) [2, 3, 4, 5, 6, 7] rfl ?_
        refine x_widen (k := cells + 292) (n := slots + 5516) (by omega) (by omega) ?_
        obtain rfl := Option.some.inj hf
        exact kk zz
      · have hf := x_f h9 hf
        cases hf
  · have hf := x_f h6 hf
    cases hf
set_option maxHeartbeats 4000000 in
set_option maxRecDepth 100000 in
theorem c_law_1257 (a : Nat → Nat) (b : Nat → Nat) (y : Nat) (zz : Nat) (n : Nat) (d : Nat → Nat) (w : Nat) (w2 : Nat) (C : CX g RL cL_law 9 A pW sW mW argsW methW c9) (hl : l.stackTraces = false) (hX : va_X sb L xs sW sW.heap) (hbl : sb < sW.heap.size) (hbA : ¬ A sb) (hc : cells + 292 ≤ room_1.cells) (hs : slots + 5516 ≤ room_1.slots) (z : CcT) (v : StS) (c : CdT) (e : EvT) (v2 : StS) (c2 : CdT) (e2 : EvT) (v3 : StS) (c3 : CdT) (e3 : EvT) (h : HiT) (t : Unit) (vs : (Nat → StS)) (cs : (Nat → CdT)) (es : (Nat → EvT)) (q : PrT) (t2 : Unit) (ws : (Nat → CmT)) (k : SbT) (f : (Nat → Int32)) (m : MdT) (r1 : (Nat → Int32)) (r2 : (Nat → Int32)) (r3 : (Nat → Int32)) (r4 : (Nat → Int32)) (r5 : (Nat → Int32)) (r6 : (Nat → Int32)) (r7 : (Nat → Int32)) (r8 : (Nat → Int32)) (lo : (Nat → Int64)) (dd : (Nat → UInt64)) (i : Int32) {u : LwT} (hf : f_law_1257 n L xs z v c e v2 c2 e2 v3 c3 e3 h t vs cs es q t2 ws k f m r1 r2 r3 r4 r5 r6 r7 r8 lo dd i = some u)
    (kk : ∀ zz' : Nat, VW g A 9 pW l eW room_1 sW mW argsW belowW methW c9 (cells + 292) (slots + 5516) Q [ccO g a b y u.1, stO g a 10 u.2.1, cdW g a 10 u.2.2.1, evW g a 10 u.2.2.2.1, stO g a 20 u.2.2.2.2.1, cdW g a 20 u.2.2.2.2.2.1, evW g a 20 u.2.2.2.2.2.2.1, stO g a 30 u.2.2.2.2.2.2.2.1, cdW g a 30 u.2.2.2.2.2.2.2.2.1, evW g a 30 u.2.2.2.2.2.2.2.2.2.1, hiO g a u.2.2.2.2.2.2.2.2.2.2.1, hrW g a u.2.2.2.2.2.2.2.2.2.2.2.1, stF g a u.2.2.2.2.2.2.2.2.2.2.2.2.1, cdF g a u.2.2.2.2.2.2.2.2.2.2.2.2.2.1, evF g a u.2.2.2.2.2.2.2.2.2.2.2.2.2.2.1, prO g b u.2.2.2.2.2.2.2.2.2.2.2.2.2.2.2.1, caW g b u.2.2.2.2.2.2.2.2.2.2.2.2.2.2.2.2.1, cmF g b u.2.2.2.2.2.2.2.2.2.2.2.2.2.2.2.2.2.1, sbO g y zz' u.2.2.2.2.2.2.2.2.2.2.2.2.2.2.2.2.2.2.1, baW g zz' u.2.2.2.2.2.2.2.2.2.2.2.2.2.2.2.2.2.2.2.2.2.2.2.2.2.2.2.2.2.2.2 u.2.2.2.2.2.2.2.2.2.2.2.2.2.2.2.2.2.2.2.1, mdO g d u.2.2.2.2.2.2.2.2.2.2.2.2.2.2.2.2.2.2.2.2.1, iaW g (d 1) 110 u.2.2.2.2.2.2.2.2.2.2.2.2.2.2.2.2.2.2.2.2.2.1, iaW g (d 2) 110 u.2.2.2.2.2.2.2.2.2.2.2.2.2.2.2.2.2.2.2.2.2.2.1, iaW g (d 3) 110 u.2.2.2.2.2.2.2.2.2.2.2.2.2.2.2.2.2.2.2.2.2.2.2.1, iaW g (d 4) 110 u.2.2.2.2.2.2.2.2.2.2.2.2.2.2.2.2.2.2.2.2.2.2.2.2.1, iaW g (d 5) 880 u.2.2.2.2.2.2.2.2.2.2.2.2.2.2.2.2.2.2.2.2.2.2.2.2.2.1, iaW g (d 6) 200 u.2.2.2.2.2.2.2.2.2.2.2.2.2.2.2.2.2.2.2.2.2.2.2.2.2.2.1, iaW g (d 7) 60 u.2.2.2.2.2.2.2.2.2.2.2.2.2.2.2.2.2.2.2.2.2.2.2.2.2.2.2.1, iaW g (d 8) 124 u.2.2.2.2.2.2.2.2.2.2.2.2.2.2.2.2.2.2.2.2.2.2.2.2.2.2.2.2.1, loW g w u.2.2.2.2.2.2.2.2.2.2.2.2.2.2.2.2.2.2.2.2.2.2.2.2.2.2.2.2.2.1, doW g w2 u.2.2.2.2.2.2.2.2.2.2.2.2.2.2.2.2.2.2.2.2.2.2.2.2.2.2.2.2.2.2.1] [(0, .ref sb), (1, .ref (a 0)), (2, .ref (d 0)), (3, .ref w), (4, .ref w2), (5, .int i)] 2256 []) : VW g A 9 pW l eW room_1 sW mW argsW belowW methW c9 cells slots Q [ccO g a b y z, stO g a 10 v, cdW g a 10 c, evW g a 10 e, stO g a 20 v2, cdW g a 20 c2, evW g a 20 e2, stO g a 30 v3, cdW g a 30 c3, evW g a 30 e3, hiO g a h, hrW g a t, stF g a vs, cdF g a cs, evF g a es, prO g b q, caW g b t2, cmF g b ws, sbO g y zz k, baW g zz n f, mdO g d m, iaW g (d 1) 110 r1, iaW g (d 2) 110 r2, iaW g (d 3) 110 r3, iaW g (d 4) 110 r4, iaW g (d 5) 880 r5, iaW g (d 6) 200 r6, iaW g (d 7) 60 r7, iaW g (d 8) 124 r8, loW g w lo, doW g w2 dd] [(0, .ref sb), (1, .ref (a 0)), (2, .ref (d 0)), (3, .ref w), (4, .ref w2), (5, .int i)] 1257 [] := by
  unfold f_law_1257 at hf
  have C : CX g RL cL_law 9 A pW sW mW argsW methW c9 := C
  refine x_aload_n C dL_law_1257 rfl 1 rfl ?_
  obtain ⟨u1, hu1, hf⟩ := x_b hf
  refine x_callV (n := 0) (As := []) (rest := []) C (c_X9_events g l a b y z v e hu1) ⟨⟨wd_377, wd_374, wd_65⟩, ⟨by decide, by decide, by decide⟩, rfl, rfl, Nat.le_of_ble_eq_true rfl, Nat.le_of_ble_eq_true rfl⟩ wd_375 wd_376 ⟨0, 10, _, _, rfl, rfl, rfl⟩ [cdW g a 10 c, stO g a 20 v2, cdW g a 20 c2, evW g a 20 e2, stO g a 30 v3, cdW g a 30 c3, evW g a 30 e3, hiO g a h, hrW g a t, stF g a vs, cdF g a cs, evF g a es, prO g b q, caW g b t2, cmF g b ws, sbO g y zz k, baW g zz n f, mdO g d m, iaW g (d 1) 110 r1, iaW g (d 2) 110 r2, iaW g (d 3) 110 r3, iaW g (d 4) 110 r4, iaW g (d 5) 880 r5, iaW g (d 6) 200 r6, iaW g (d 7) 60 r7, iaW g (d 8) 124 r8, loW g w lo, doW g w2 dd] (x_pickD [0, 1, 3, 2, 4, 5, 6, 7, 8, 9, 10, 11, 12, 13, 14, 15, 16, 17, 18, 19, 20, 21, 22, 23, 24, 25, 26, 27, 28, 29, 30] 31 rfl rfl rfl) rfl rfl (Nat.le_of_ble_eq_true rfl) ⟨by omega, by omega⟩ dL_law_1258 (x_goD (wss2 := [ccO g a b y z, stO g a 10 v, evW g a 10 e, cdW g a 10 c, stO g a 20 v2, cdW g a 20 c2, evW g a 20 e2, stO g a 30 v3, cdW g a 30 c3, evW g a 30 e3, hiO g a h, hrW g a t, stF g a vs, cdF g a cs, evF g a es, prO g b q, caW g b t2, cmF g b ws, sbO g y zz k, baW g zz n f, mdO g d m, iaW g (d 1) 110 r1, iaW g (d 2) 110 r2, iaW g (d 3) 110 r3, iaW g (d 4) 110 r4, iaW g (d 5) 880 r5, iaW g (d 6) 200 r6, iaW g (d 7) 60 r7, iaW g (d 8) 124 r8, loW g w lo, doW g w2 dd]) (stk2 := [.int u1]) rfl rfl ?_)
  refine x_aload_n C dL_law_1261 rfl 2 rfl ?_
  obtain ⟨u2, hu2, hf⟩ := x_b hf
  refine x_callV (n := 0) (As := []) (rest := [.int u1]) C (c_X10_events g l d m r1 hu2) ⟨⟨wd_1732, wd_1729, wd_78⟩, ⟨by decide, by decide, by decide⟩, rfl, rfl, Nat.le_of_ble_eq_true rfl, Nat.le_of_ble_eq_true rfl⟩ wd_1730 wd_1731 ⟨0, 11, _, _, rfl, rfl, rfl⟩ [ccO g a b y z, stO g a 10 v, evW g a 10 e, cdW g a 10 c, stO g a 20 v2, cdW g a 20 c2, evW g a 20 e2, stO g a 30 v3, cdW g a 30 c3, evW g a 30 e3, hiO g a h, hrW g a t, stF g a vs, cdF g a cs, evF g a es, prO g b q, caW g b t2, cmF g b ws, sbO g y zz k, baW g zz n f, iaW g (d 2) 110 r2, iaW g (d 3) 110 r3, iaW g (d 4) 110 r4, iaW g (d 5) 880 r5, iaW g (d 6) 200 r6, iaW g (d 7) 60 r7, iaW g (d 8) 124 r8, loW g w lo, doW g w2 dd] (x_pickD [20, 21, 0, 1, 2, 3, 4, 5, 6, 7, 8, 9, 10, 11, 12, 13, 14, 15, 16, 17, 18, 19, 22, 23, 24, 25, 26, 27, 28, 29, 30] 31 rfl rfl rfl) rfl rfl (Nat.le_of_ble_eq_true rfl) ⟨by omega, by omega⟩ dL_law_1262 (x_goD (wss2 := [mdO g d u2.2, iaW g (d 1) 110 r1, ccO g a b y z, stO g a 10 v, evW g a 10 e, cdW g a 10 c, stO g a 20 v2, cdW g a 20 c2, evW g a 20 e2, stO g a 30 v3, cdW g a 30 c3, evW g a 30 e3, hiO g a h, hrW g a t, stF g a vs, cdF g a cs, evF g a es, prO g b q, caW g b t2, cmF g b ws, sbO g y zz k, baW g zz n f, iaW g (d 2) 110 r2, iaW g (d 3) 110 r3, iaW g (d 4) 110 r4, iaW g (d 5) 880 r5, iaW g (d 6) 200 r6, iaW g (d 7) 60 r7, iaW g (d 8) 124 r8, loW g w lo, doW g w2 dd]) (stk2 := [.int u2.1, .int u1]) rfl rfl ?_)
  refine x_icmp_eq (tgt := 2256) C dL_law_1265 (by decide) (fun h3 => ?_) (fun h3 => ?_)
  · have hf := x_t h3 hf
    refine x_perm (wss' := [ccO g a b y z, stO g a 10 v, cdW g a 10 c, evW g a 10 e, stO g a 20 v2, cdW g a 20 c2, evW g a 20 e2, stO g a 30 v3, cdW g a 30 c3, evW g a 30 e3, hiO g a h, hrW g a t, stF g a vs, cdF g a cs, evF g a es, prO g b q, caW g b t2, cmF g b ws, sbO g y zz k, baW g zz n f, mdO g d u2.2, iaW g (d 1) 110 r1, iaW g (d 2) 110 r2, iaW g (d 3) 110 r3, iaW g (d 4) 110 r4, iaW g (d 5) 880 r5, iaW g (d 6) 200 r6, iaW g (d 7) 60 r7, iaW g (d 8) 124 r8, loW g w lo, doW g w2 dd]) (x_pick [2, 3, 5, 4, 6, 7, 8, 9, 10, 11, 12, 13, 14, 15, 16, 17, 18, 19, 20, 21, 0, 1, 22, 23, 24, 25, 26, 27, 28, 29, 30] 31 rfl rfl rfl) ?_
    refine x_locals (lv' := [(0, .ref sb), (1, .ref (a 0)), (2, .ref (d 0)), (3, .ref w), (4, .ref w2), (5, .int i)]) [0, 1, 2, 3, 4, 5] rfl ?_
    refine x_widen (k := cells + 292) (n := slots + 5516) (by omega) (by omega) ?_
    obtain rfl := Option.some.inj hf
    exact kk zz
  · have hf := x_f h3 hf
    cases hf
set_option maxHeartbeats 4000000 in
set_option maxRecDepth 100000 in
theorem c_law_1270 (a : Nat → Nat) (b : Nat → Nat) (y : Nat) (zz : Nat) (n : Nat) (d : Nat → Nat) (w : Nat) (w2 : Nat) (C : CX g RL cL_law 9 A pW sW mW argsW methW c9) (hl : l.stackTraces = false) (hX : va_X sb L xs sW sW.heap) (hbl : sb < sW.heap.size) (hbA : ¬ A sb) (hc : cells + 292 ≤ room_1.cells) (hs : slots + 5516 ≤ room_1.slots) (z : CcT) (v : StS) (c : CdT) (e : EvT) (v2 : StS) (c2 : CdT) (e2 : EvT) (v3 : StS) (c3 : CdT) (e3 : EvT) (h : HiT) (t : Unit) (vs : (Nat → StS)) (cs : (Nat → CdT)) (es : (Nat → EvT)) (q : PrT) (t2 : Unit) (ws : (Nat → CmT)) (k : SbT) (f : (Nat → Int32)) (m : MdT) (r1 : (Nat → Int32)) (r2 : (Nat → Int32)) (r3 : (Nat → Int32)) (r4 : (Nat → Int32)) (r5 : (Nat → Int32)) (r6 : (Nat → Int32)) (r7 : (Nat → Int32)) (r8 : (Nat → Int32)) (lo : (Nat → Int64)) (dd : (Nat → UInt64)) (i : Int32) {u : LwT} (hf : f_law_1270 n L xs z v c e v2 c2 e2 v3 c3 e3 h t vs cs es q t2 ws k f m r1 r2 r3 r4 r5 r6 r7 r8 lo dd i = some u)
    (kk : ∀ zz' : Nat, VW g A 9 pW l eW room_1 sW mW argsW belowW methW c9 (cells + 292) (slots + 5516) Q [ccO g a b y u.1, stO g a 10 u.2.1, cdW g a 10 u.2.2.1, evW g a 10 u.2.2.2.1, stO g a 20 u.2.2.2.2.1, cdW g a 20 u.2.2.2.2.2.1, evW g a 20 u.2.2.2.2.2.2.1, stO g a 30 u.2.2.2.2.2.2.2.1, cdW g a 30 u.2.2.2.2.2.2.2.2.1, evW g a 30 u.2.2.2.2.2.2.2.2.2.1, hiO g a u.2.2.2.2.2.2.2.2.2.2.1, hrW g a u.2.2.2.2.2.2.2.2.2.2.2.1, stF g a u.2.2.2.2.2.2.2.2.2.2.2.2.1, cdF g a u.2.2.2.2.2.2.2.2.2.2.2.2.2.1, evF g a u.2.2.2.2.2.2.2.2.2.2.2.2.2.2.1, prO g b u.2.2.2.2.2.2.2.2.2.2.2.2.2.2.2.1, caW g b u.2.2.2.2.2.2.2.2.2.2.2.2.2.2.2.2.1, cmF g b u.2.2.2.2.2.2.2.2.2.2.2.2.2.2.2.2.2.1, sbO g y zz' u.2.2.2.2.2.2.2.2.2.2.2.2.2.2.2.2.2.2.1, baW g zz' u.2.2.2.2.2.2.2.2.2.2.2.2.2.2.2.2.2.2.2.2.2.2.2.2.2.2.2.2.2.2.2 u.2.2.2.2.2.2.2.2.2.2.2.2.2.2.2.2.2.2.2.1, mdO g d u.2.2.2.2.2.2.2.2.2.2.2.2.2.2.2.2.2.2.2.2.1, iaW g (d 1) 110 u.2.2.2.2.2.2.2.2.2.2.2.2.2.2.2.2.2.2.2.2.2.1, iaW g (d 2) 110 u.2.2.2.2.2.2.2.2.2.2.2.2.2.2.2.2.2.2.2.2.2.2.1, iaW g (d 3) 110 u.2.2.2.2.2.2.2.2.2.2.2.2.2.2.2.2.2.2.2.2.2.2.2.1, iaW g (d 4) 110 u.2.2.2.2.2.2.2.2.2.2.2.2.2.2.2.2.2.2.2.2.2.2.2.2.1, iaW g (d 5) 880 u.2.2.2.2.2.2.2.2.2.2.2.2.2.2.2.2.2.2.2.2.2.2.2.2.2.1, iaW g (d 6) 200 u.2.2.2.2.2.2.2.2.2.2.2.2.2.2.2.2.2.2.2.2.2.2.2.2.2.2.1, iaW g (d 7) 60 u.2.2.2.2.2.2.2.2.2.2.2.2.2.2.2.2.2.2.2.2.2.2.2.2.2.2.2.1, iaW g (d 8) 124 u.2.2.2.2.2.2.2.2.2.2.2.2.2.2.2.2.2.2.2.2.2.2.2.2.2.2.2.2.1, loW g w u.2.2.2.2.2.2.2.2.2.2.2.2.2.2.2.2.2.2.2.2.2.2.2.2.2.2.2.2.2.1, doW g w2 u.2.2.2.2.2.2.2.2.2.2.2.2.2.2.2.2.2.2.2.2.2.2.2.2.2.2.2.2.2.2.1] [(0, .ref sb), (1, .ref (a 0)), (2, .ref (d 0)), (3, .ref w), (4, .ref w2), (5, .int i)] 2256 []) : VW g A 9 pW l eW room_1 sW mW argsW belowW methW c9 cells slots Q [ccO g a b y z, stO g a 10 v, cdW g a 10 c, evW g a 10 e, stO g a 20 v2, cdW g a 20 c2, evW g a 20 e2, stO g a 30 v3, cdW g a 30 c3, evW g a 30 e3, hiO g a h, hrW g a t, stF g a vs, cdF g a cs, evF g a es, prO g b q, caW g b t2, cmF g b ws, sbO g y zz k, baW g zz n f, mdO g d m, iaW g (d 1) 110 r1, iaW g (d 2) 110 r2, iaW g (d 3) 110 r3, iaW g (d 4) 110 r4, iaW g (d 5) 880 r5, iaW g (d 6) 200 r6, iaW g (d 7) 60 r7, iaW g (d 8) 124 r8, loW g w lo, doW g w2 dd] [(0, .ref sb), (1, .ref (a 0)), (2, .ref (d 0)), (3, .ref w), (4, .ref w2), (5, .int i)] 1270 [] := by
  unfold f_law_1270 at hf
  have C : CX g RL cL_law 9 A pW sW mW argsW methW c9 := C
  refine x_aload_n C dL_law_1270 rfl 1 rfl ?_
  refine x_aload_n C dL_law_1271 rfl 0 rfl ?_
  refine x_iload C dL_law_1272 5 rfl ?_
  refine x_iconst (v := 1) C dL_law_1274 (by decide) ?_
  refine x_iadd C dL_law_1275 ?_
  obtain ⟨h1, hf⟩ := x_n hf
  refine x_sld C hX hbl hbA h1 dL_law_1276 ?_
  refine x_aload_n C dL_law_1277 rfl 3 rfl ?_
  obtain ⟨u2, hu2, hf⟩ := x_b hf
  refine x_hcallS (n := 3) (As := [.ref (a 0), .int (xs (i + (1 : Int32)).toNatClampNeg), .ref w]) (rest := []) C (c_L_eventMinute g l hl a b y w z v e lo (xs (i + (1 : Int32)).toNatClampNeg) hu2) ⟨⟨wd_1205, wd_1203, wd_64⟩, ⟨by decide, by decide, by decide⟩, rfl, rfl, Nat.le_of_ble_eq_true rfl, Nat.le_of_ble_eq_true rfl⟩ wd_1204 [cdW g a 10 c, stO g a 20 v2, cdW g a 20 c2, evW g a 20 e2, stO g a 30 v3, cdW g a 30 c3, evW g a 30 e3, hiO g a h, hrW g a t, stF g a vs, cdF g a cs, evF g a es, prO g b q, caW g b t2, cmF g b ws, sbO g y zz k, baW g zz n f, mdO g d m, iaW g (d 1) 110 r1, iaW g (d 2) 110 r2, iaW g (d 3) 110 r3, iaW g (d 4) 110 r4, iaW g (d 5) 880 r5, iaW g (d 6) 200 r6, iaW g (d 7) 60 r7, iaW g (d 8) 124 r8, doW g w2 dd] (x_pickD [0, 1, 3, 29, 2, 4, 5, 6, 7, 8, 9, 10, 11, 12, 13, 14, 15, 16, 17, 18, 19, 20, 21, 22, 23, 24, 25, 26, 27, 28, 30] 31 rfl rfl rfl) rfl rfl (Nat.le_of_ble_eq_true rfl) ⟨by omega, by omega⟩ dL_law_1278 (fun v9 w9 hQ9 => ?_)
  obtain ⟨rfl, rfl⟩ := hQ9
  refine x_goW (wss2 := [ccO g a b y z, stO g a 10 v, evW g a 10 e, loW g w u2.2, cdW g a 10 c, stO g a 20 v2, cdW g a 20 c2, evW g a 20 e2, stO g a 30 v3, cdW g a 30 c3, evW g a 30 e3, hiO g a h, hrW g a t, stF g a vs, cdF g a cs, evF g a es, prO g b q, caW g b t2, cmF g b ws, sbO g y zz k, baW g zz n f, mdO g d m, iaW g (d 1) 110 r1, iaW g (d 2) 110 r2, iaW g (d 3) 110 r3, iaW g (d 4) 110 r4, iaW g (d 5) 880 r5, iaW g (d 6) 200 r6, iaW g (d 7) 60 r7, iaW g (d 8) 124 r8, doW g w2 dd]) (stk2 := [.int u2.1]) rfl rfl rfl ?_
  refine x_istore (lv' := [(6, .int u2.1), (0, .ref sb), (1, .ref (a 0)), (2, .ref (d 0)), (3, .ref w), (4, .ref w2), (5, .int i)]) C dL_law_1281 (by decide) rfl ?_
  refine x_aload_n C dL_law_1283 rfl 3 rfl ?_
  refine x_aload_n C dL_law_1284 rfl 1 rfl ?_
  refine x_iload C dL_law_1285 6 rfl ?_
  refine x_iconst (v := 1) C dL_law_1287 (by decide) ?_
  refine x_iadd C dL_law_1288 ?_
  obtain ⟨h3, hf⟩ := x_n hf
  refine x_sld C hX hbl hbA h3 dL_law_1289 ?_
  obtain ⟨u4, hu4, hf⟩ := x_b hf
  refine x_callV (n := 1) (As := [.int (xs (i + (1 : Int32)).toNatClampNeg)]) (rest := []) C (c_X10_eventMinute g l d m r1 (xs (i + (1 : Int32)).toNatClampNeg) hu4) ⟨⟨wd_1736, wd_1733, wd_78⟩, ⟨by decide, by decide, by decide⟩, rfl, rfl, Nat.le_of_ble_eq_true rfl, Nat.le_of_ble_eq_true rfl⟩ wd_1734 wd_1735 ⟨0, 11, _, _, rfl, rfl, rfl⟩ [ccO g a b y z, stO g a 10 v, evW g a 10 e, loW g w u2.2, cdW g a 10 c, stO g a 20 v2, cdW g a 20 c2, evW g a 20 e2, stO g a 30 v3, cdW g a 30 c3, evW g a 30 e3, hiO g a h, hrW g a t, stF g a vs, cdF g a cs, evF g a es, prO g b q, caW g b t2, cmF g b ws, sbO g y zz k, baW g zz n f, iaW g (d 2) 110 r2, iaW g (d 3) 110 r3, iaW g (d 4) 110 r4, iaW g (d 5) 880 r5, iaW g (d 6) 200 r6, iaW g (d 7) 60 r7, iaW g (d 8) 124 r8, doW g w2 dd] (x_pickD [21, 22, 0, 1, 2, 3, 4, 5, 6, 7, 8, 9, 10, 11, 12, 13, 14, 15, 16, 17, 18, 19, 20, 23, 24, 25, 26, 27, 28, 29, 30] 31 rfl rfl rfl) rfl rfl (Nat.le_of_ble_eq_true rfl) ⟨by omega, by omega⟩ dL_law_1290 (x_goD (wss2 := [mdO g d u4.2, iaW g (d 1) 110 r1, ccO g a b y z, stO g a 10 v, evW g a 10 e, loW g w u2.2, cdW g a 10 c, stO g a 20 v2, cdW g a 20 c2, evW g a 20 e2, stO g a 30 v3, cdW g a 30 c3, evW g a 30 e3, hiO g a h, hrW g a t, stF g a vs, cdF g a cs, evF g a es, prO g b q, caW g b t2, cmF g b ws, sbO g y zz k, baW g zz n f, iaW g (d 2) 110 r2, iaW g (d 3) 110 r3, iaW g (d 4) 110 r4, iaW g (d 5) 880 r5, iaW g (d 6) 200 r6, iaW g (d 7) 60 r7, iaW g (d 8) 124 r8, doW g w2 dd]) (stk2 := [.int u4.1]) rfl rfl ?_)
  refine x_istore (lv' := [(7, .int u4.1), (6, .int u2.1), (0, .ref sb), (1, .ref (a 0)), (2, .ref (d 0)), (3, .ref w), (4, .ref w2), (5, .int i)]) C dL_law_1293 (by decide) rfl ?_
  refine x_aload_n C dL_law_1295 rfl 4 rfl ?_
  obtain ⟨u5, hu5, hf⟩ := x_b hf
  refine x_callV (n := 0) (As := []) (rest := []) C (c_X10_thrown g l d u4.2 hu5) ⟨⟨wd_1550, wd_1547, wd_78⟩, ⟨by decide, by decide, by decide⟩, rfl, rfl, Nat.le_of_ble_eq_true rfl, Nat.le_of_ble_eq_true rfl⟩ wd_1548 wd_1549 ⟨0, 11, _, _, rfl, rfl, rfl⟩ [iaW g (d 1) 110 r1, ccO g a b y z, stO g a 10 v, evW g a 10 e, loW g w u2.2, cdW g a 10 c, stO g a 20 v2, cdW g a 20 c2, evW g a 20 e2, stO g a 30 v3, cdW g a 30 c3, evW g a 30 e3, hiO g a h, hrW g a t, stF g a vs, cdF g a cs, evF g a es, prO g b q, caW g b t2, cmF g b ws, sbO g y zz k, baW g zz n f, iaW g (d 2) 110 r2, iaW g (d 3) 110 r3, iaW g (d 4) 110 r4, iaW g (d 5) 880 r5, iaW g (d 6) 200 r6, iaW g (d 7) 60 r7, iaW g (d 8) 124 r8, doW g w2 dd] (x_pickD [0, 1, 2, 3, 4, 5, 6, 7, 8, 9, 10, 11, 12, 13, 14, 15, 16, 17, 18, 19, 20, 21, 22, 23, 24, 25, 26, 27, 28, 29, 30] 31 rfl rfl rfl) rfl rfl (Nat.le_of_ble_eq_true rfl) ⟨by omega, by omega⟩ dL_law_1296 (x_goD (wss2 := [mdO g d u4.2, iaW g (d 1) 110 r1, ccO g a b y z, stO g a 10 v, evW g a 10 e, loW g w u2.2, cdW g a 10 c, stO g a 20 v2, cdW g a 20 c2, evW g a 20 e2, stO g a 30 v3, cdW g a 30 c3, evW g a 30 e3, hiO g a h, hrW g a t, stF g a vs, cdF g a cs, evF g a es, prO g b q, caW g b t2, cmF g b ws, sbO g y zz k, baW g zz n f, iaW g (d 2) 110 r2, iaW g (d 3) 110 r3, iaW g (d 4) 110 r4, iaW g (d 5) 880 r5, iaW g (d 6) 200 r6, iaW g (d 7) 60 r7, iaW g (d 8) 124 r8, doW g w2 dd]) (stk2 := [.int u5]) rfl rfl ?_)
  refine x_iload C dL_law_1299 1 rfl ?_
  refine x_icmp_eq (tgt := 1306) C dL_law_1301 (by decide) (fun h6 => ?_) (fun h6 => ?_)
  · have hf := x_t h6 hf
    refine x_iload C dL_law_1306 1 rfl ?_
    refine x_if_ne (tgt := 1323) C dL_law_1308 (by decide) (fun h7 => ?_) (fun h7 => ?_)
    · have hf := x_f h7 hf
      refine x_goto (tgt := 2256) C dL_law_1323 (by decide) ?_
      refine x_perm (wss' := [ccO g a b y z, stO g a 10 v, cdW g a 10 c, evW g a 10 e, stO g a 20 v2, cdW g a 20 c2, evW g a 20 e2, stO g a 30 v3, cdW g a 30 c3, evW g a 30 e3, hiO g a h, hrW g a t, stF g a vs, cdF g a cs, evF g a es, prO g b q, caW g b t2, cmF g b ws, sbO g y zz k, baW g zz n f, mdO g d u4.2, iaW g (d 1) 110 r1, iaW g (d 2) 110 r2, iaW g (d 3) 110 r3, iaW g (d 4) 110 r4, iaW g (d 5) 880 r5, iaW g (d 6) 200 r6, iaW g (d 7) 60 r7, iaW g (d 8) 124 r8, loW g w u2.2, doW g w2 dd]) (x_pick [2, 3, 6, 4, 7, 8, 9, 10, 11, 12, 13, 14, 15, 16, 17, 18, 19, 20, 21, 22, 0, 1, 23, 24, 25, 26, 27, 28, 29, 5, 30] 31 rfl rfl rfl) ?_
      refine x_locals (lv' := [(0, .ref sb), (1, .ref (a 0)), (2, .ref (d 0)), (3, .ref w), (4, .ref w2), (5, .int i)]) [2, 3, 4, 5, 6, 7] rfl ?_
      refine x_widen (k := cells + 292) (n := slots + 5516) (by omega) (by omega) ?_
      obtain rfl := Option.some.inj hf
      exact kk zz
    · have hf := x_t h7 hf
      refine x_aload_n C dL_law_1311 rfl 5 rfl ?_
      refine x_iconst (v := 0) C dL_law_1312 (by decide) ?_
      obtain ⟨h8, hf⟩ := x_n hf
      refine x_lald (b := loW g w u2.2) C 5 rfl 0 (loW_at0 g w _) h8 dL_law_1313 ?_
      refine x_iload C dL_law_1314 0 rfl ?_
      refine x_i2l C dL_law_1316 rfl ?_
      refine x_lcmp C dL_law_1317 ?_
      refine x_if_eq (tgt := 1323) C dL_law_1318 (by decide) (fun h9 => ?_) (fun h9 => ?_)
      · have hf := x_t h9 hf
        refine x_goto (tgt := 2256) C dL_law_1323 (by decide) ?_
        refine x_perm (wss' := [ccO g a b y z, stO g a 10 v, cdW g a 10 c, evW g a 10 e, stO g a 20 v2, cdW g a 20 c2, evW g a 20 e2, stO g a 30 v3, cdW g a 30 c3, evW g a 30 e3, hiO g a h, hrW g a t, stF g a vs, cdF g a cs, evF g a es, prO g b q, caW g b t2, cmF g b ws, sbO g y zz k, baW g zz n f, mdO g d u4.2, iaW g (d 1) 110 r1, iaW g (d 2) 110 r2, iaW g (d 3) 110 r3, iaW g (d 4) 110 r4, iaW g (d 5) 880 r5, iaW g (d 6) 200 r6, iaW g (d 7) 60 r7, iaW g (d 8) 124 r8, loW g w u2.2, doW g w2 dd]) (x_pick [2, 3, 6, 4, 7, 8, 9, 10, 11, 12, 13, 14, 15, 16, 17, 18, 19, 20, 21, 22, 0, 1, 23, 24, 25, 26, 27, 28, 29, 5, 30] 31 rfl rfl rfl) ?_
        refine x_locals (lv' := [(0, .ref sb), (1, .ref (a 0)), (2, .ref (d 0)), (3, .ref w), (4, .ref w2), (5, .int i)]) [2, 3, 4, 5, 6, 7] rfl ?_
        refine x_widen (k := cells + 292) (n := slots + 5516) (by omega) (by omega) ?_
        obtain rfl := Option.some.inj hf
        exact kk zz
      · have hf := x_f h9 hf
        cases hf
  · have hf := x_f h6 hf
    cases hf
set_option maxHeartbeats 4000000 in
set_option maxRecDepth 100000 in
theorem c_law_1326 (a : Nat → Nat) (b : Nat → Nat) (y : Nat) (zz : Nat) (n : Nat) (d : Nat → Nat) (w : Nat) (w2 : Nat) (C : CX g RL cL_law 9 A pW sW mW argsW methW c9) (hl : l.stackTraces = false) (hX : va_X sb L xs sW sW.heap) (hbl : sb < sW.heap.size) (hbA : ¬ A sb) (hc : cells + 292 ≤ room_1.cells) (hs : slots + 5516 ≤ room_1.slots) (z : CcT) (v : StS) (c : CdT) (e : EvT) (v2 : StS) (c2 : CdT) (e2 : EvT) (v3 : StS) (c3 : CdT) (e3 : EvT) (h : HiT) (t : Unit) (vs : (Nat → StS)) (cs : (Nat → CdT)) (es : (Nat → EvT)) (q : PrT) (t2 : Unit) (ws : (Nat → CmT)) (k : SbT) (f : (Nat → Int32)) (m : MdT) (r1 : (Nat → Int32)) (r2 : (Nat → Int32)) (r3 : (Nat → Int32)) (r4 : (Nat → Int32)) (r5 : (Nat → Int32)) (r6 : (Nat → Int32)) (r7 : (Nat → Int32)) (r8 : (Nat → Int32)) (lo : (Nat → Int64)) (dd : (Nat → UInt64)) (i : Int32) {u : LwT} (hf : f_law_1326 n L xs z v c e v2 c2 e2 v3 c3 e3 h t vs cs es q t2 ws k f m r1 r2 r3 r4 r5 r6 r7 r8 lo dd i = some u)
    (kk : ∀ zz' : Nat, VW g A 9 pW l eW room_1 sW mW argsW belowW methW c9 (cells + 292) (slots + 5516) Q [ccO g a b y u.1, stO g a 10 u.2.1, cdW g a 10 u.2.2.1, evW g a 10 u.2.2.2.1, stO g a 20 u.2.2.2.2.1, cdW g a 20 u.2.2.2.2.2.1, evW g a 20 u.2.2.2.2.2.2.1, stO g a 30 u.2.2.2.2.2.2.2.1, cdW g a 30 u.2.2.2.2.2.2.2.2.1, evW g a 30 u.2.2.2.2.2.2.2.2.2.1, hiO g a u.2.2.2.2.2.2.2.2.2.2.1, hrW g a u.2.2.2.2.2.2.2.2.2.2.2.1, stF g a u.2.2.2.2.2.2.2.2.2.2.2.2.1, cdF g a u.2.2.2.2.2.2.2.2.2.2.2.2.2.1, evF g a u.2.2.2.2.2.2.2.2.2.2.2.2.2.2.1, prO g b u.2.2.2.2.2.2.2.2.2.2.2.2.2.2.2.1, caW g b u.2.2.2.2.2.2.2.2.2.2.2.2.2.2.2.2.1, cmF g b u.2.2.2.2.2.2.2.2.2.2.2.2.2.2.2.2.2.1, sbO g y zz' u.2.2.2.2.2.2.2.2.2.2.2.2.2.2.2.2.2.2.1, baW g zz' u.2.2.2.2.2.2.2.2.2.2.2.2.2.2.2.2.2.2.2.2.2.2.2.2.2.2.2.2.2.2.2 u.2.2.2.2.2.2.2.2.2.2.2.2.2.2.2.2.2.2.2.1, mdO g d u.2.2.2.2.2.2.2.2.2.2.2.2.2.2.2.2.2.2.2.2.1, iaW g (d 1) 110 u.2.2.2.2.2.2.2.2.2.2.2.2.2.2.2.2.2.2.2.2.2.1, iaW g (d 2) 110 u.2.2.2.2.2.2.2.2.2.2.2.2.2.2.2.2.2.2.2.2.2.2.1, iaW g (d 3) 110 u.2.2.2.2.2.2.2.2.2.2.2.2.2.2.2.2.2.2.2.2.2.2.2.1, iaW g (d 4) 110 u.2.2.2.2.2.2.2.2.2.2.2.2.2.2.2.2.2.2.2.2.2.2.2.2.1, iaW g (d 5) 880 u.2.2.2.2.2.2.2.2.2.2.2.2.2.2.2.2.2.2.2.2.2.2.2.2.2.1, iaW g (d 6) 200 u.2.2.2.2.2.2.2.2.2.2.2.2.2.2.2.2.2.2.2.2.2.2.2.2.2.2.1, iaW g (d 7) 60 u.2.2.2.2.2.2.2.2.2.2.2.2.2.2.2.2.2.2.2.2.2.2.2.2.2.2.2.1, iaW g (d 8) 124 u.2.2.2.2.2.2.2.2.2.2.2.2.2.2.2.2.2.2.2.2.2.2.2.2.2.2.2.2.1, loW g w u.2.2.2.2.2.2.2.2.2.2.2.2.2.2.2.2.2.2.2.2.2.2.2.2.2.2.2.2.2.1, doW g w2 u.2.2.2.2.2.2.2.2.2.2.2.2.2.2.2.2.2.2.2.2.2.2.2.2.2.2.2.2.2.2.1] [(0, .ref sb), (1, .ref (a 0)), (2, .ref (d 0)), (3, .ref w), (4, .ref w2), (5, .int i)] 2256 []) : VW g A 9 pW l eW room_1 sW mW argsW belowW methW c9 cells slots Q [ccO g a b y z, stO g a 10 v, cdW g a 10 c, evW g a 10 e, stO g a 20 v2, cdW g a 20 c2, evW g a 20 e2, stO g a 30 v3, cdW g a 30 c3, evW g a 30 e3, hiO g a h, hrW g a t, stF g a vs, cdF g a cs, evF g a es, prO g b q, caW g b t2, cmF g b ws, sbO g y zz k, baW g zz n f, mdO g d m, iaW g (d 1) 110 r1, iaW g (d 2) 110 r2, iaW g (d 3) 110 r3, iaW g (d 4) 110 r4, iaW g (d 5) 880 r5, iaW g (d 6) 200 r6, iaW g (d 7) 60 r7, iaW g (d 8) 124 r8, loW g w lo, doW g w2 dd] [(0, .ref sb), (1, .ref (a 0)), (2, .ref (d 0)), (3, .ref w), (4, .ref w2), (5, .int i)] 1326 [] := by
  unfold f_law_1326 at hf
  have C : CX g RL cL_law 9 A pW sW mW argsW methW c9 := C
  refine x_aload_n C dL_law_1326 rfl 1 rfl ?_
  refine x_aload_n C dL_law_1327 rfl 0 rfl ?_
  refine x_iload C dL_law_1328 5 rfl ?_
  refine x_iconst (v := 1) C dL_law_1330 (by decide) ?_
  refine x_iadd C dL_law_1331 ?_
  obtain ⟨h1, hf⟩ := x_n hf
  refine x_sld C hX hbl hbA h1 dL_law_1332 ?_
  refine x_aload_n C dL_law_1333 rfl 3 rfl ?_
  obtain ⟨u2, hu2, hf⟩ := x_b hf
  refine x_hcallS (n := 3) (As := [.ref (a 0), .int (xs (i + (1 : Int32)).toNatClampNeg), .ref w]) (rest := []) C (c_L_eventCandle g l hl a b y w z v e lo (xs (i + (1 : Int32)).toNatClampNeg) hu2) ⟨⟨wd_1212, wd_1210, wd_64⟩, ⟨by decide, by decide, by decide⟩, rfl, rfl, Nat.le_of_ble_eq_true rfl, Nat.le_of_ble_eq_true rfl⟩ wd_1211 [cdW g a 10 c, stO g a 20 v2, cdW g a 20 c2, evW g a 20 e2, stO g a 30 v3, cdW g a 30 c3, evW g a 30 e3, hiO g a h, hrW g a t, stF g a vs, cdF g a cs, evF g a es, prO g b q, caW g b t2, cmF g b ws, sbO g y zz k, baW g zz n f, mdO g d m, iaW g (d 1) 110 r1, iaW g (d 2) 110 r2, iaW g (d 3) 110 r3, iaW g (d 4) 110 r4, iaW g (d 5) 880 r5, iaW g (d 6) 200 r6, iaW g (d 7) 60 r7, iaW g (d 8) 124 r8, doW g w2 dd] (x_pickD [0, 1, 3, 29, 2, 4, 5, 6, 7, 8, 9, 10, 11, 12, 13, 14, 15, 16, 17, 18, 19, 20, 21, 22, 23, 24, 25, 26, 27, 28, 30] 31 rfl rfl rfl) rfl rfl (Nat.le_of_ble_eq_true rfl) ⟨by omega, by omega⟩ dL_law_1334 (fun v9 w9 hQ9 => ?_)
  obtain ⟨rfl, rfl⟩ := hQ9
  refine x_goW (wss2 := [ccO g a b y z, stO g a 10 v, evW g a 10 e, loW g w u2.2, cdW g a 10 c, stO g a 20 v2, cdW g a 20 c2, evW g a 20 e2, stO g a 30 v3, cdW g a 30 c3, evW g a 30 e3, hiO g a h, hrW g a t, stF g a vs, cdF g a cs, evF g a es, prO g b q, caW g b t2, cmF g b ws, sbO g y zz k, baW g zz n f, mdO g d m, iaW g (d 1) 110 r1, iaW g (d 2) 110 r2, iaW g (d 3) 110 r3, iaW g (d 4) 110 r4, iaW g (d 5) 880 r5, iaW g (d 6) 200 r6, iaW g (d 7) 60 r7, iaW g (d 8) 124 r8, doW g w2 dd]) (stk2 := [.int u2.1]) rfl rfl rfl ?_
  refine x_istore (lv' := [(6, .int u2.1), (0, .ref sb), (1, .ref (a 0)), (2, .ref (d 0)), (3, .ref w), (4, .ref w2), (5, .int i)]) C dL_law_1337 (by decide) rfl ?_
  refine x_aload_n C dL_law_1339 rfl 3 rfl ?_
  refine x_aload_n C dL_law_1340 rfl 1 rfl ?_
  refine x_iload C dL_law_1341 6 rfl ?_
  refine x_iconst (v := 1) C dL_law_1343 (by decide) ?_
  refine x_iadd C dL_law_1344 ?_
  obtain ⟨h3, hf⟩ := x_n hf
  refine x_sld C hX hbl hbA h3 dL_law_1345 ?_
  obtain ⟨u4, hu4, hf⟩ := x_b hf
  refine x_callV (n := 1) (As := [.int (xs (i + (1 : Int32)).toNatClampNeg)]) (rest := []) C (c_X10_eventCandle g l d m r1 (xs (i + (1 : Int32)).toNatClampNeg) hu4) ⟨⟨wd_1740, wd_1737, wd_78⟩, ⟨by decide, by decide, by decide⟩, rfl, rfl, Nat.le_of_ble_eq_true rfl, Nat.le_of_ble_eq_true rfl⟩ wd_1738 wd_1739 ⟨0, 11, _, _, rfl, rfl, rfl⟩ [ccO g a b y z, stO g a 10 v, evW g a 10 e, loW g w u2.2, cdW g a 10 c, stO g a 20 v2, cdW g a 20 c2, evW g a 20 e2, stO g a 30 v3, cdW g a 30 c3, evW g a 30 e3, hiO g a h, hrW g a t, stF g a vs, cdF g a cs, evF g a es, prO g b q, caW g b t2, cmF g b ws, sbO g y zz k, baW g zz n f, iaW g (d 2) 110 r2, iaW g (d 3) 110 r3, iaW g (d 4) 110 r4, iaW g (d 5) 880 r5, iaW g (d 6) 200 r6, iaW g (d 7) 60 r7, iaW g (d 8) 124 r8, doW g w2 dd] (x_pickD [21, 22, 0, 1, 2, 3, 4, 5, 6, 7, 8, 9, 10, 11, 12, 13, 14, 15, 16, 17, 18, 19, 20, 23, 24, 25, 26, 27, 28, 29, 30] 31 rfl rfl rfl) rfl rfl (Nat.le_of_ble_eq_true rfl) ⟨by omega, by omega⟩ dL_law_1346 (x_goD (wss2 := [mdO g d u4.2, iaW g (d 1) 110 r1, ccO g a b y z, stO g a 10 v, evW g a 10 e, loW g w u2.2, cdW g a 10 c, stO g a 20 v2, cdW g a 20 c2, evW g a 20 e2, stO g a 30 v3, cdW g a 30 c3, evW g a 30 e3, hiO g a h, hrW g a t, stF g a vs, cdF g a cs, evF g a es, prO g b q, caW g b t2, cmF g b ws, sbO g y zz k, baW g zz n f, iaW g (d 2) 110 r2, iaW g (d 3) 110 r3, iaW g (d 4) 110 r4, iaW g (d 5) 880 r5, iaW g (d 6) 200 r6, iaW g (d 7) 60 r7, iaW g (d 8) 124 r8, doW g w2 dd]) (stk2 := [.int u4.1]) rfl rfl ?_)
  refine x_istore (lv' := [(7, .int u4.1), (6, .int u2.1), (0, .ref sb), (1, .ref (a 0)), (2, .ref (d 0)), (3, .ref w), (4, .ref w2), (5, .int i)]) C dL_law_1349 (by decide) rfl ?_
  refine x_aload_n C dL_law_1351 rfl 4 rfl ?_
  obtain ⟨u5, hu5, hf⟩ := x_b hf
  refine x_callV (n := 0) (As := []) (rest := []) C (c_X10_thrown g l d u4.2 hu5) ⟨⟨wd_1550, wd_1547, wd_78⟩, ⟨by decide, by decide, by decide⟩, rfl, rfl, Nat.le_of_ble_eq_true rfl, Nat.le_of_ble_eq_true rfl⟩ wd_1548 wd_1549 ⟨0, 11, _, _, rfl, rfl, rfl⟩ [iaW g (d 1) 110 r1, ccO g a b y z, stO g a 10 v, evW g a 10 e, loW g w u2.2, cdW g a 10 c, stO g a 20 v2, cdW g a 20 c2, evW g a 20 e2, stO g a 30 v3, cdW g a 30 c3, evW g a 30 e3, hiO g a h, hrW g a t, stF g a vs, cdF g a cs, evF g a es, prO g b q, caW g b t2, cmF g b ws, sbO g y zz k, baW g zz n f, iaW g (d 2) 110 r2, iaW g (d 3) 110 r3, iaW g (d 4) 110 r4, iaW g (d 5) 880 r5, iaW g (d 6) 200 r6, iaW g (d 7) 60 r7, iaW g (d 8) 124 r8, doW g w2 dd] (x_pickD [0, 1, 2, 3, 4, 5, 6, 7, 8, 9, 10, 11, 12, 13, 14, 15, 16, 17, 18, 19, 20, 21, 22, 23, 24, 25, 26, 27, 28, 29, 30] 31 rfl rfl rfl) rfl rfl (Nat.le_of_ble_eq_true rfl) ⟨by omega, by omega⟩ dL_law_1352 (x_goD (wss2 := [mdO g d u4.2, iaW g (d 1) 110 r1, ccO g a b y z, stO g a 10 v, evW g a 10 e, loW g w u2.2, cdW g a 10 c, stO g a 20 v2, cdW g a 20 c2, evW g a 20 e2, stO g a 30 v3, cdW g a 30 c3, evW g a 30 e3, hiO g a h, hrW g a t, stF g a vs, cdF g a cs, evF g a es, prO g b q, caW g b t2, cmF g b ws, sbO g y zz k, baW g zz n f, iaW g (d 2) 110 r2, iaW g (d 3) 110 r3, iaW g (d 4) 110 r4, iaW g (d 5) 880 r5, iaW g (d 6) 200 r6, iaW g (d 7) 60 r7, iaW g (d 8) 124 r8, doW g w2 dd]) (stk2 := [.int u5]) rfl rfl ?_)
  refine x_iload C dL_law_1355 1 rfl ?_
  refine x_icmp_eq (tgt := 1362) C dL_law_1357 (by decide) (fun h6 => ?_) (fun h6 => ?_)
  · have hf := x_t h6 hf
    refine x_iload C dL_law_1362 1 rfl ?_
    refine x_if_ne (tgt := 1379) C dL_law_1364 (by decide) (fun h7 => ?_) (fun h7 => ?_)
    · have hf := x_f h7 hf
      refine x_goto (tgt := 2256) C dL_law_1379 (by decide) ?_
      refine x_perm (wss' := [ccO g a b y z, stO g a 10 v, cdW g a 10 c, evW g a 10 e, stO g a 20 v2, cdW g a 20 c2, evW g a 20 e2, stO g a 30 v3, cdW g a 30 c3, evW g a 30 e3, hiO g a h, hrW g a t, stF g a vs, cdF g a cs, evF g a es, prO g b q, caW g b t2, cmF g b ws, sbO g y zz k, baW g zz n f, mdO g d u4.2, iaW g (d 1) 110 r1, iaW g (d 2) 110 r2, iaW g (d 3) 110 r3, iaW g (d 4) 110 r4, iaW g (d 5) 880 r5, iaW g (d 6) 200 r6, iaW g (d 7) 60 r7, iaW g (d 8) 124 r8, loW g w u2.2, doW g w2 dd]) (x_pick [2, 3, 6, 4, 7, 8, 9, 10, 11, 12, 13, 14, 15, 16, 17, 18, 19, 20, 21, 22, 0, 1, 23, 24, 25, 26, 27, 28, 29, 5, 30] 31 rfl rfl rfl) ?_
      refine x_locals (lv' := [(0, .ref sb), (1, .ref (a 0)), (2, .ref (d 0)), (3, .ref w), (4, .ref w2), (5, .int i)]) [2, 3, 4, 5, 6, 7] rfl ?_
      refine x_widen (k := cells + 292) (n := slots + 5516) (by omega) (by omega) ?_
      obtain rfl := Option.some.inj hf
      exact kk zz
    · have hf := x_t h7 hf
      refine x_aload_n C dL_law_1367 rfl 5 rfl ?_
      refine x_iconst (v := 0) C dL_law_1368 (by decide) ?_
      obtain ⟨h8, hf⟩ := x_n hf
      refine x_lald (b := loW g w u2.2) C 5 rfl 0 (loW_at0 g w _) h8 dL_law_1369 ?_
      refine x_iload C dL_law_1370 0 rfl ?_
      refine x_i2l C dL_law_1372 rfl ?_
      refine x_lcmp C dL_law_1373 ?_
      refine x_if_eq (tgt := 1379) C dL_law_1374 (by decide) (fun h9 => ?_) (fun h9 => ?_)
      · have hf := x_t h9 hf
        refine x_goto (tgt := 2256) C dL_law_1379 (by decide) ?_
        refine x_perm (wss' := [ccO g a b y z, stO g a 10 v, cdW g a 10 c, evW g a 10 e, stO g a 20 v2, cdW g a 20 c2, evW g a 20 e2, stO g a 30 v3, cdW g a 30 c3, evW g a 30 e3, hiO g a h, hrW g a t, stF g a vs, cdF g a cs, evF g a es, prO g b q, caW g b t2, cmF g b ws, sbO g y zz k, baW g zz n f, mdO g d u4.2, iaW g (d 1) 110 r1, iaW g (d 2) 110 r2, iaW g (d 3) 110 r3, iaW g (d 4) 110 r4, iaW g (d 5) 880 r5, iaW g (d 6) 200 r6, iaW g (d 7) 60 r7, iaW g (d 8) 124 r8, loW g w u2.2, doW g w2 dd]) (x_pick [2, 3, 6, 4, 7, 8, 9, 10, 11, 12, 13, 14, 15, 16, 17, 18, 19, 20, 21, 22, 0, 1, 23, 24, 25, 26, 27, 28, 29, 5, 30] 31 rfl rfl rfl) ?_
        refine x_locals (lv' := [(0, .ref sb), (1, .ref (a 0)), (2, .ref (d 0)), (3, .ref w), (4, .ref w2), (5, .int i)]) [2, 3, 4, 5, 6, 7] rfl ?_
        refine x_widen (k := cells + 292) (n := slots + 5516) (by omega) (by omega) ?_
        obtain rfl := Option.some.inj hf
        exact kk zz
      · have hf := x_f h9 hf
        cases hf
  · have hf := x_f h6 hf
    cases hf
set_option maxHeartbeats 4000000 in
set_option maxRecDepth 100000 in
theorem c_law_1382 (a : Nat → Nat) (b : Nat → Nat) (y : Nat) (zz : Nat) (n : Nat) (d : Nat → Nat) (w : Nat) (w2 : Nat) (C : CX g RL cL_law 9 A pW sW mW argsW methW c9) (hl : l.stackTraces = false) (hX : va_X sb L xs sW sW.heap) (hbl : sb < sW.heap.size) (hbA : ¬ A sb) (hc : cells + 292 ≤ room_1.cells) (hs : slots + 5516 ≤ room_1.slots) (z : CcT) (v : StS) (c : CdT) (e : EvT) (v2 : StS) (c2 : CdT) (e2 : EvT) (v3 : StS) (c3 : CdT) (e3 : EvT) (h : HiT) (t : Unit) (vs : (Nat → StS)) (cs : (Nat → CdT)) (es : (Nat → EvT)) (q : PrT) (t2 : Unit) (ws : (Nat → CmT)) (k : SbT) (f : (Nat → Int32)) (m : MdT) (r1 : (Nat → Int32)) (r2 : (Nat → Int32)) (r3 : (Nat → Int32)) (r4 : (Nat → Int32)) (r5 : (Nat → Int32)) (r6 : (Nat → Int32)) (r7 : (Nat → Int32)) (r8 : (Nat → Int32)) (lo : (Nat → Int64)) (dd : (Nat → UInt64)) (i : Int32) {u : LwT} (hf : f_law_1382 n L xs z v c e v2 c2 e2 v3 c3 e3 h t vs cs es q t2 ws k f m r1 r2 r3 r4 r5 r6 r7 r8 lo dd i = some u)
    (kk : ∀ zz' : Nat, VW g A 9 pW l eW room_1 sW mW argsW belowW methW c9 (cells + 292) (slots + 5516) Q [ccO g a b y u.1, stO g a 10 u.2.1, cdW g a 10 u.2.2.1, evW g a 10 u.2.2.2.1, stO g a 20 u.2.2.2.2.1, cdW g a 20 u.2.2.2.2.2.1, evW g a 20 u.2.2.2.2.2.2.1, stO g a 30 u.2.2.2.2.2.2.2.1, cdW g a 30 u.2.2.2.2.2.2.2.2.1, evW g a 30 u.2.2.2.2.2.2.2.2.2.1, hiO g a u.2.2.2.2.2.2.2.2.2.2.1, hrW g a u.2.2.2.2.2.2.2.2.2.2.2.1, stF g a u.2.2.2.2.2.2.2.2.2.2.2.2.1, cdF g a u.2.2.2.2.2.2.2.2.2.2.2.2.2.1, evF g a u.2.2.2.2.2.2.2.2.2.2.2.2.2.2.1, prO g b u.2.2.2.2.2.2.2.2.2.2.2.2.2.2.2.1, caW g b u.2.2.2.2.2.2.2.2.2.2.2.2.2.2.2.2.1, cmF g b u.2.2.2.2.2.2.2.2.2.2.2.2.2.2.2.2.2.1, sbO g y zz' u.2.2.2.2.2.2.2.2.2.2.2.2.2.2.2.2.2.2.1, baW g zz' u.2.2.2.2.2.2.2.2.2.2.2.2.2.2.2.2.2.2.2.2.2.2.2.2.2.2.2.2.2.2.2 u.2.2.2.2.2.2.2.2.2.2.2.2.2.2.2.2.2.2.2.1, mdO g d u.2.2.2.2.2.2.2.2.2.2.2.2.2.2.2.2.2.2.2.2.1, iaW g (d 1) 110 u.2.2.2.2.2.2.2.2.2.2.2.2.2.2.2.2.2.2.2.2.2.1, iaW g (d 2) 110 u.2.2.2.2.2.2.2.2.2.2.2.2.2.2.2.2.2.2.2.2.2.2.1, iaW g (d 3) 110 u.2.2.2.2.2.2.2.2.2.2.2.2.2.2.2.2.2.2.2.2.2.2.2.1, iaW g (d 4) 110 u.2.2.2.2.2.2.2.2.2.2.2.2.2.2.2.2.2.2.2.2.2.2.2.2.1, iaW g (d 5) 880 u.2.2.2.2.2.2.2.2.2.2.2.2.2.2.2.2.2.2.2.2.2.2.2.2.2.1, iaW g (d 6) 200 u.2.2.2.2.2.2.2.2.2.2.2.2.2.2.2.2.2.2.2.2.2.2.2.2.2.2.1, iaW g (d 7) 60 u.2.2.2.2.2.2.2.2.2.2.2.2.2.2.2.2.2.2.2.2.2.2.2.2.2.2.2.1, iaW g (d 8) 124 u.2.2.2.2.2.2.2.2.2.2.2.2.2.2.2.2.2.2.2.2.2.2.2.2.2.2.2.2.1, loW g w u.2.2.2.2.2.2.2.2.2.2.2.2.2.2.2.2.2.2.2.2.2.2.2.2.2.2.2.2.2.1, doW g w2 u.2.2.2.2.2.2.2.2.2.2.2.2.2.2.2.2.2.2.2.2.2.2.2.2.2.2.2.2.2.2.1] [(0, .ref sb), (1, .ref (a 0)), (2, .ref (d 0)), (3, .ref w), (4, .ref w2), (5, .int i)] 2256 []) : VW g A 9 pW l eW room_1 sW mW argsW belowW methW c9 cells slots Q [ccO g a b y z, stO g a 10 v, cdW g a 10 c, evW g a 10 e, stO g a 20 v2, cdW g a 20 c2, evW g a 20 e2, stO g a 30 v3, cdW g a 30 c3, evW g a 30 e3, hiO g a h, hrW g a t, stF g a vs, cdF g a cs, evF g a es, prO g b q, caW g b t2, cmF g b ws, sbO g y zz k, baW g zz n f, mdO g d m, iaW g (d 1) 110 r1, iaW g (d 2) 110 r2, iaW g (d 3) 110 r3, iaW g (d 4) 110 r4, iaW g (d 5) 880 r5, iaW g (d 6) 200 r6, iaW g (d 7) 60 r7, iaW g (d 8) 124 r8, loW g w lo, doW g w2 dd] [(0, .ref sb), (1, .ref (a 0)), (2, .ref (d 0)), (3, .ref w), (4, .ref w2), (5, .int i)] 1382 [] := by
  unfold f_law_1382 at hf
  have C : CX g RL cL_law 9 A pW sW mW argsW methW c9 := C
  refine x_aload_n C dL_law_1382 rfl 1 rfl ?_
  refine x_aload_n C dL_law_1383 rfl 0 rfl ?_
  refine x_iload C dL_law_1384 5 rfl ?_
  refine x_iconst (v := 1) C dL_law_1386 (by decide) ?_
  refine x_iadd C dL_law_1387 ?_
  obtain ⟨h1, hf⟩ := x_n hf
  refine x_sld C hX hbl hbA h1 dL_law_1388 ?_
  refine x_aload_n C dL_law_1389 rfl 3 rfl ?_
  obtain ⟨u2, hu2, hf⟩ := x_b hf
  refine x_hcallS (n := 3) (As := [.ref (a 0), .int (xs (i + (1 : Int32)).toNatClampNeg), .ref w]) (rest := []) C (c_L_isLighting g l hl a b y w z v e lo (xs (i + (1 : Int32)).toNatClampNeg) hu2) ⟨⟨wd_1219, wd_1217, wd_64⟩, ⟨by decide, by decide, by decide⟩, rfl, rfl, Nat.le_of_ble_eq_true rfl, Nat.le_of_ble_eq_true rfl⟩ wd_1218 [cdW g a 10 c, stO g a 20 v2, cdW g a 20 c2, evW g a 20 e2, stO g a 30 v3, cdW g a 30 c3, evW g a 30 e3, hiO g a h, hrW g a t, stF g a vs, cdF g a cs, evF g a es, prO g b q, caW g b t2, cmF g b ws, sbO g y zz k, baW g zz n f, mdO g d m, iaW g (d 1) 110 r1, iaW g (d 2) 110 r2, iaW g (d 3) 110 r3, iaW g (d 4) 110 r4, iaW g (d 5) 880 r5, iaW g (d 6) 200 r6, iaW g (d 7) 60 r7, iaW g (d 8) 124 r8, doW g w2 dd] (x_pickD [0, 1, 3, 29, 2, 4, 5, 6, 7, 8, 9, 10, 11, 12, 13, 14, 15, 16, 17, 18, 19, 20, 21, 22, 23, 24, 25, 26, 27, 28, 30] 31 rfl rfl rfl) rfl rfl (Nat.le_of_ble_eq_true rfl) ⟨by omega, by omega⟩ dL_law_1390 (fun v9 w9 hQ9 => ?_)
  obtain ⟨rfl, rfl⟩ := hQ9
  refine x_goW (wss2 := [ccO g a b y z, stO g a 10 v, evW g a 10 e, loW g w u2.2, cdW g a 10 c, stO g a 20 v2, cdW g a 20 c2, evW g a 20 e2, stO g a 30 v3, cdW g a 30 c3, evW g a 30 e3, hiO g a h, hrW g a t, stF g a vs, cdF g a cs, evF g a es, prO g b q, caW g b t2, cmF g b ws, sbO g y zz k, baW g zz n f, mdO g d m, iaW g (d 1) 110 r1, iaW g (d 2) 110 r2, iaW g (d 3) 110 r3, iaW g (d 4) 110 r4, iaW g (d 5) 880 r5, iaW g (d 6) 200 r6, iaW g (d 7) 60 r7, iaW g (d 8) 124 r8, doW g w2 dd]) (stk2 := [.int u2.1]) rfl rfl rfl ?_
  refine x_istore (lv' := [(6, .int u2.1), (0, .ref sb), (1, .ref (a 0)), (2, .ref (d 0)), (3, .ref w), (4, .ref w2), (5, .int i)]) C dL_law_1393 (by decide) rfl ?_
  refine x_aload_n C dL_law_1395 rfl 3 rfl ?_
  refine x_aload_n C dL_law_1396 rfl 1 rfl ?_
  refine x_iload C dL_law_1397 6 rfl ?_
  refine x_iconst (v := 1) C dL_law_1399 (by decide) ?_
  refine x_iadd C dL_law_1400 ?_
  obtain ⟨h3, hf⟩ := x_n hf
  refine x_sld C hX hbl hbA h3 dL_law_1401 ?_
  obtain ⟨u4, hu4, hf⟩ := x_b hf
  refine x_callV (n := 1) (As := [.int (xs (i + (1 : Int32)).toNatClampNeg)]) (rest := []) C (c_X10_isLighting g l d m r1 (xs (i + (1 : Int32)).toNatClampNeg) hu4) ⟨⟨wd_1744, wd_1741, wd_78⟩, ⟨by decide, by decide, by decide⟩, rfl, rfl, Nat.le_of_ble_eq_true rfl, Nat.le_of_ble_eq_true rfl⟩ wd_1742 wd_1743 ⟨0, 11, _, _, rfl, rfl, rfl⟩ [ccO g a b y z, stO g a 10 v, evW g a 10 e, loW g w u2.2, cdW g a 10 c, stO g a 20 v2, cdW g a 20 c2, evW g a 20 e2, stO g a 30 v3, cdW g a 30 c3, evW g a 30 e3, hiO g a h, hrW g a t, stF g a vs, cdF g a cs, evF g a es, prO g b q, caW g b t2, cmF g b ws, sbO g y zz k, baW g zz n f, iaW g (d 2) 110 r2, iaW g (d 3) 110 r3, iaW g (d 4) 110 r4, iaW g (d 5) 880 r5, iaW g (d 6) 200 r6, iaW g (d 7) 60 r7, iaW g (d 8) 124 r8, doW g w2 dd] (x_pickD [21, 22, 0, 1, 2, 3, 4, 5, 6, 7, 8, 9, 10, 11, 12, 13, 14, 15, 16, 17, 18, 19, 20, 23, 24, 25, 26, 27, 28, 29, 30] 31 rfl rfl rfl) rfl rfl (Nat.le_of_ble_eq_true rfl) ⟨by omega, by omega⟩ dL_law_1402 (x_goD (wss2 := [mdO g d u4.2, iaW g (d 1) 110 r1, ccO g a b y z, stO g a 10 v, evW g a 10 e, loW g w u2.2, cdW g a 10 c, stO g a 20 v2, cdW g a 20 c2, evW g a 20 e2, stO g a 30 v3, cdW g a 30 c3, evW g a 30 e3, hiO g a h, hrW g a t, stF g a vs, cdF g a cs, evF g a es, prO g b q, caW g b t2, cmF g b ws, sbO g y zz k, baW g zz n f, iaW g (d 2) 110 r2, iaW g (d 3) 110 r3, iaW g (d 4) 110 r4, iaW g (d 5) 880 r5, iaW g (d 6) 200 r6, iaW g (d 7) 60 r7, iaW g (d 8) 124 r8, doW g w2 dd]) (stk2 := [.int u4.1]) rfl rfl ?_)
  refine x_istore (lv' := [(7, .int u4.1), (6, .int u2.1), (0, .ref sb), (1, .ref (a 0)), (2, .ref (d 0)), (3, .ref w), (4, .ref w2), (5, .int i)]) C dL_law_1405 (by decide) rfl ?_
  refine x_aload_n C dL_law_1407 rfl 4 rfl ?_
  obtain ⟨u5, hu5, hf⟩ := x_b hf
  refine x_callV (n := 0) (As := []) (rest := []) C (c_X10_thrown g l d u4.2 hu5) ⟨⟨wd_1550, wd_1547, wd_78⟩, ⟨by decide, by decide, by decide⟩, rfl, rfl, Nat.le_of_ble_eq_true rfl, Nat.le_of_ble_eq_true rfl⟩ wd_1548 wd_1549 ⟨0, 11, _, _, rfl, rfl, rfl⟩ [iaW g (d 1) 110 r1, ccO g a b y z, stO g a 10 v, evW g a 10 e, loW g w u2.2, cdW g a 10 c, stO g a 20 v2, cdW g a 20 c2, evW g a 20 e2, stO g a 30 v3, cdW g a 30 c3, evW g a 30 e3, hiO g a h, hrW g a t, stF g a vs, cdF g a cs, evF g a es, prO g b q, caW g b t2, cmF g b ws, sbO g y zz k, baW g zz n f, iaW g (d 2) 110 r2, iaW g (d 3) 110 r3, iaW g (d 4) 110 r4, iaW g (d 5) 880 r5, iaW g (d 6) 200 r6, iaW g (d 7) 60 r7, iaW g (d 8) 124 r8, doW g w2 dd] (x_pickD [0, 1, 2, 3, 4, 5, 6, 7, 8, 9, 10, 11, 12, 13, 14, 15, 16, 17, 18, 19, 20, 21, 22, 23, 24, 25, 26, 27, 28, 29, 30] 31 rfl rfl rfl) rfl rfl (Nat.le_of_ble_eq_true rfl) ⟨by omega, by omega⟩ dL_law_1408 (x_goD (wss2 := [mdO g d u4.2, iaW g (d 1) 110 r1, ccO g a b y z, stO g a 10 v, evW g a 10 e, loW g w u2.2, cdW g a 10 c, stO g a 20 v2, cdW g a 20 c2, evW g a 20 e2, stO g a 30 v3, cdW g a 30 c3, evW g a 30 e3, hiO g a h, hrW g a t, stF g a vs, cdF g a cs, evF g a es, prO g b q, caW g b t2, cmF g b ws, sbO g y zz k, baW g zz n f, iaW g (d 2) 110 r2, iaW g (d 3) 110 r3, iaW g (d 4) 110 r4, iaW g (d 5) 880 r5, iaW g (d 6) 200 r6, iaW g (d 7) 60 r7, iaW g (d 8) 124 r8, doW g w2 dd]) (stk2 := [.int u5]) rfl rfl ?_)
  refine x_iload C dL_law_1411 1 rfl ?_
  refine x_icmp_eq (tgt := 1418) C dL_law_1413 (by decide) (fun h6 => ?_) (fun h6 => ?_)
  · have hf := x_t h6 hf
    refine x_iload C dL_law_1418 1 rfl ?_
    refine x_if_ne (tgt := 1442) C dL_law_1420 (by decide) (fun h7 => ?_) (fun h7 => ?_)
    · have hf := x_f h7 hf
      refine x_goto (tgt := 2256) C dL_law_1442 (by decide) ?_
      refine x_perm (wss' := [ccO g a b y z, stO g a 10 v, cdW g a 10 c, evW g a 10 e, stO g a 20 v2, cdW g a 20 c2, evW g a 20 e2, stO g a 30 v3, cdW g a 30 c3, evW g a 30 e3, hiO g a h, hrW g a t, stF g a vs, cdF g a cs, evF g a es, prO g b q, caW g b t2, cmF g b ws, sbO g y zz k, baW g zz n f, mdO g d u4.2, iaW g (d 1) 110 r1, iaW g (d 2) 110 r2, iaW g (d 3) 110 r3, iaW g (d 4) 110 r4, iaW g (d 5) 880 r5, iaW g (d 6) 200 r6, iaW g (d 7) 60 r7, iaW g (d 8) 124 r8, loW g w u2.2, doW g w2 dd]) (x_pick [2, 3, 6, 4, 7, 8, 9, 10, 11, 12, 13, 14, 15, 16, 17, 18, 19, 20, 21, 22, 0, 1, 23, 24, 25, 26, 27, 28, 29, 5, 30] 31 rfl rfl rfl) ?_
      refine x_locals (lv' := [(0, .ref sb), (1, .ref (a 0)), (2, .ref (d 0)), (3, .ref w), (4, .ref w2), (5, .int i)]) [2, 3, 4, 5, 6, 7] rfl ?_
      refine x_widen (k := cells + 292) (n := slots + 5516) (by omega) (by omega) ?_
      obtain rfl := Option.some.inj hf
      exact kk zz
    · have hf := x_t h7 hf
      refine x_aload_n C dL_law_1423 rfl 5 rfl ?_
      refine x_iconst (v := 0) C dL_law_1424 (by decide) ?_
      obtain ⟨h8, hf⟩ := x_n hf
      refine x_lald (b := loW g w u2.2) C 5 rfl 0 (loW_at0 g w _) h8 dL_law_1425 ?_
      refine x_iload C dL_law_1426 0 rfl ?_
      refine x_if_eq (tgt := 1435) C dL_law_1428 (by decide) (fun h9 => ?_) (fun h9 => ?_)
      · have hf := x_t h9 hf
        refine x_lconst (v := 0) C dL_law_1435 (by decide) ?_
        refine x_lcmp C dL_law_1436 ?_
        refine x_if_eq (tgt := 1442) C dL_law_1437 (by decide) (fun h10 => ?_) (fun h10 => ?_)
        · have hf := x_t h10 hf
          refine x_goto (tgt := 2256) C dL_law_1442 (by decide) ?_
          refine x_perm (wss' := [ccO g a b y z, stO g a 10 v, cdW g a 10 c, evW g a 10 e, stO g a 20 v2, cdW g a 20 c2, evW g a 20 e2, stO g a 30 v3, cdW g a 30 c3, evW g a 30 e3, hiO g a h, hrW g a t, stF g a vs, cdF g a cs, evF g a es, prO g b q, caW g b t2, cmF g b ws, sbO g y zz k, baW g zz n f, mdO g d u4.2, iaW g (d 1) 110 r1, iaW g (d 2) 110 r2, iaW g (d 3) 110 r3, iaW g (d 4) 110 r4, iaW g (d 5) 880 r5, iaW g (d 6) 200 r6, iaW g (d 7) 60 r7, iaW g (d 8) 124 r8, loW g w u2.2, doW g w2 dd]) (x_pick [2, 3, 6, 4, 7, 8, 9, 10, 11, 12, 13, 14, 15, 16, 17, 18, 19, 20, 21, 22, 0, 1, 23, 24, 25, 26, 27, 28, 29, 5, 30] 31 rfl rfl rfl) ?_
          refine x_locals (lv' := [(0, .ref sb), (1, .ref (a 0)), (2, .ref (d 0)), (3, .ref w), (4, .ref w2), (5, .int i)]) [2, 3, 4, 5, 6, 7] rfl ?_
          refine x_widen (k := cells + 292) (n := slots + 5516) (by omega) (by omega) ?_
          obtain rfl := Option.some.inj hf
          exact kk zz
        · have hf := x_f h10 hf
          cases hf
      · have hf := x_f h9 hf
        refine x_lconst (v := 1) C dL_law_1431 (by decide) ?_
        refine x_goto (tgt := 1436) C dL_law_1432 (by decide) ?_
        refine x_lcmp C dL_law_1436 ?_
        refine x_if_eq (tgt := 1442) C dL_law_1437 (by decide) (fun h11 => ?_) (fun h11 => ?_)
        · have hf := x_t h11 hf
          refine x_goto (tgt := 2256) C dL_law_1442 (by decide) ?_
          refine x_perm (wss' := [ccO g a b y z, stO g a 10 v, cdW g a 10 c, evW g a 10 e, stO g a 20 v2, cdW g a 20 c2, evW g a 20 e2, stO g a 30 v3, cdW g a 30 c3, evW g a 30 e3, hiO g a h, hrW g a t, stF g a vs, cdF g a cs, evF g a es, prO g b q, caW g b t2, cmF g b ws, sbO g y zz k, baW g zz n f, mdO g d u4.2, iaW g (d 1) 110 r1, iaW g (d 2) 110 r2, iaW g (d 3) 110 r3, iaW g (d 4) 110 r4, iaW g (d 5) 880 r5, iaW g (d 6) 200 r6, iaW g (d 7) 60 r7, iaW g (d 8) 124 r8, loW g w u2.2, doW g w2 dd]) (x_pick [2, 3, 6, 4, 7, 8, 9, 10, 11, 12, 13, 14, 15, 16, 17, 18, 19, 20, 21, 22, 0, 1, 23, 24, 25, 26, 27, 28, 29, 5, 30] 31 rfl rfl rfl) ?_
          refine x_locals (lv' := [(0, .ref sb), (1, .ref (a 0)), (2, .ref (d 0)), (3, .ref w), (4, .ref w2), (5, .int i)]) [2, 3, 4, 5, 6, 7] rfl ?_
          refine x_widen (k := cells + 292) (n := slots + 5516) (by omega) (by omega) ?_
          obtain rfl := Option.some.inj hf
          exact kk zz
        · have hf := x_f h11 hf
          cases hf
  · have hf := x_f h6 hf
    cases hf
set_option maxHeartbeats 4000000 in
set_option maxRecDepth 100000 in
theorem c_law_1445 (a : Nat → Nat) (b : Nat → Nat) (y : Nat) (zz : Nat) (n : Nat) (d : Nat → Nat) (w : Nat) (w2 : Nat) (C : CX g RL cL_law 9 A pW sW mW argsW methW c9) (hl : l.stackTraces = false) (hX : va_X sb L xs sW sW.heap) (hbl : sb < sW.heap.size) (hbA : ¬ A sb) (hc : cells + 292 ≤ room_1.cells) (hs : slots + 5516 ≤ room_1.slots) (z : CcT) (v : StS) (c : CdT) (e : EvT) (v2 : StS) (c2 : CdT) (e2 : EvT) (v3 : StS) (c3 : CdT) (e3 : EvT) (h : HiT) (t : Unit) (vs : (Nat → StS)) (cs : (Nat → CdT)) (es : (Nat → EvT)) (q : PrT) (t2 : Unit) (ws : (Nat → CmT)) (k : SbT) (f : (Nat → Int32)) (m : MdT) (r1 : (Nat → Int32)) (r2 : (Nat → Int32)) (r3 : (Nat → Int32)) (r4 : (Nat → Int32)) (r5 : (Nat → Int32)) (r6 : (Nat → Int32)) (r7 : (Nat → Int32)) (r8 : (Nat → Int32)) (lo : (Nat → Int64)) (dd : (Nat → UInt64)) (i : Int32) {u : LwT} (hf : f_law_1445 n L xs z v c e v2 c2 e2 v3 c3 e3 h t vs cs es q t2 ws k f m r1 r2 r3 r4 r5 r6 r7 r8 lo dd i = some u)
    (kk : ∀ zz' : Nat, VW g A 9 pW l eW room_1 sW mW argsW belowW methW c9 (cells + 292) (slots + 5516) Q [ccO g a b y u.1, stO g a 10 u.2.1, cdW g a 10 u.2.2.1, evW g a 10 u.2.2.2.1, stO g a 20 u.2.2.2.2.1, cdW g a 20 u.2.2.2.2.2.1, evW g a 20 u.2.2.2.2.2.2.1, stO g a 30 u.2.2.2.2.2.2.2.1, cdW g a 30 u.2.2.2.2.2.2.2.2.1, evW g a 30 u.2.2.2.2.2.2.2.2.2.1, hiO g a u.2.2.2.2.2.2.2.2.2.2.1, hrW g a u.2.2.2.2.2.2.2.2.2.2.2.1, stF g a u.2.2.2.2.2.2.2.2.2.2.2.2.1, cdF g a u.2.2.2.2.2.2.2.2.2.2.2.2.2.1, evF g a u.2.2.2.2.2.2.2.2.2.2.2.2.2.2.1, prO g b u.2.2.2.2.2.2.2.2.2.2.2.2.2.2.2.1, caW g b u.2.2.2.2.2.2.2.2.2.2.2.2.2.2.2.2.1, cmF g b u.2.2.2.2.2.2.2.2.2.2.2.2.2.2.2.2.2.1, sbO g y zz' u.2.2.2.2.2.2.2.2.2.2.2.2.2.2.2.2.2.2.1, baW g zz' u.2.2.2.2.2.2.2.2.2.2.2.2.2.2.2.2.2.2.2.2.2.2.2.2.2.2.2.2.2.2.2 u.2.2.2.2.2.2.2.2.2.2.2.2.2.2.2.2.2.2.2.1, mdO g d u.2.2.2.2.2.2.2.2.2.2.2.2.2.2.2.2.2.2.2.2.1, iaW g (d 1) 110 u.2.2.2.2.2.2.2.2.2.2.2.2.2.2.2.2.2.2.2.2.2.1, iaW g (d 2) 110 u.2.2.2.2.2.2.2.2.2.2.2.2.2.2.2.2.2.2.2.2.2.2.1, iaW g (d 3) 110 u.2.2.2.2.2.2.2.2.2.2.2.2.2.2.2.2.2.2.2.2.2.2.2.1, iaW g (d 4) 110 u.2.2.2.2.2.2.2.2.2.2.2.2.2.2.2.2.2.2.2.2.2.2.2.2.1, iaW g (d 5) 880 u.2.2.2.2.2.2.2.2.2.2.2.2.2.2.2.2.2.2.2.2.2.2.2.2.2.1, iaW g (d 6) 200 u.2.2.2.2.2.2.2.2.2.2.2.2.2.2.2.2.2.2.2.2.2.2.2.2.2.2.1, iaW g (d 7) 60 u.2.2.2.2.2.2.2.2.2.2.2.2.2.2.2.2.2.2.2.2.2.2.2.2.2.2.2.1, iaW g (d 8) 124 u.2.2.2.2.2.2.2.2.2.2.2.2.2.2.2.2.2.2.2.2.2.2.2.2.2.2.2.2.1, loW g w u.2.2.2.2.2.2.2.2.2.2.2.2.2.2.2.2.2.2.2.2.2.2.2.2.2.2.2.2.2.1, doW g w2 u.2.2.2.2.2.2.2.2.2.2.2.2.2.2.2.2.2.2.2.2.2.2.2.2.2.2.2.2.2.2.1] [(0, .ref sb), (1, .ref (a 0)), (2, .ref (d 0)), (3, .ref w), (4, .ref w2), (5, .int i)] 2256 []) : VW g A 9 pW l eW room_1 sW mW argsW belowW methW c9 cells slots Q [ccO g a b y z, stO g a 10 v, cdW g a 10 c, evW g a 10 e, stO g a 20 v2, cdW g a 20 c2, evW g a 20 e2, stO g a 30 v3, cdW g a 30 c3, evW g a 30 e3, hiO g a h, hrW g a t, stF g a vs, cdF g a cs, evF g a es, prO g b q, caW g b t2, cmF g b ws, sbO g y zz k, baW g zz n f, mdO g d m, iaW g (d 1) 110 r1, iaW g (d 2) 110 r2, iaW g (d 3) 110 r3, iaW g (d 4) 110 r4, iaW g (d 5) 880 r5, iaW g (d 6) 200 r6, iaW g (d 7) 60 r7, iaW g (d 8) 124 r8, loW g w lo, doW g w2 dd] [(0, .ref sb), (1, .ref (a 0)), (2, .ref (d 0)), (3, .ref w), (4, .ref w2), (5, .int i)] 1445 [] := by
  unfold f_law_1445 at hf
  have C : CX g RL cL_law 9 A pW sW mW argsW methW c9 := C
  refine x_aload_n C dL_law_1445 rfl 1 rfl ?_
  obtain ⟨u1, hu1, hf⟩ := x_b hf
  refine x_callV (n := 0) (As := []) (rest := []) C (c_X9_failedEvents g l a b y z v hu1) ⟨⟨wd_381, wd_378, wd_65⟩, ⟨by decide, by decide, by decide⟩, rfl, rfl, Nat.le_of_ble_eq_true rfl, Nat.le_of_ble_eq_true rfl⟩ wd_379 wd_380 ⟨0, 10, _, _, rfl, rfl, rfl⟩ [cdW g a 10 c, evW g a 10 e, stO g a 20 v2, cdW g a 20 c2, evW g a 20 e2, stO g a 30 v3, cdW g a 30 c3, evW g a 30 e3, hiO g a h, hrW g a t, stF g a vs, cdF g a cs, evF g a es, prO g b q, caW g b t2, cmF g b ws, sbO g y zz k, baW g zz n f, mdO g d m, iaW g (d 1) 110 r1, iaW g (d 2) 110 r2, iaW g (d 3) 110 r3, iaW g (d 4) 110 r4, iaW g (d 5) 880 r5, iaW g (d 6) 200 r6, iaW g (d 7) 60 r7, iaW g (d 8) 124 r8, loW g w lo, doW g w2 dd] (x_pickD [0, 1, 2, 3, 4, 5, 6, 7, 8, 9, 10, 11, 12, 13, 14, 15, 16, 17, 18, 19, 20, 21, 22, 23, 24, 25, 26, 27, 28, 29, 30] 31 rfl rfl rfl) rfl rfl (Nat.le_of_ble_eq_true rfl) ⟨by omega, by omega⟩ dL_law_1446 (x_goD (wss2 := [ccO g a b y z, stO g a 10 v, cdW g a 10 c, evW g a 10 e, stO g a 20 v2, cdW g a 20 c2, evW g a 20 e2, stO g a 30 v3, cdW g a 30 c3, evW g a 30 e3, hiO g a h, hrW g a t, stF g a vs, cdF g a cs, evF g a es, prO g b q, caW g b t2, cmF g b ws, sbO g y zz k, baW g zz n f, mdO g d m, iaW g (d 1) 110 r1, iaW g (d 2) 110 r2, iaW g (d 3) 110 r3, iaW g (d 4) 110 r4, iaW g (d 5) 880 r5, iaW g (d 6) 200 r6, iaW g (d 7) 60 r7, iaW g (d 8) 124 r8, loW g w lo, doW g w2 dd]) (stk2 := [.int u1]) rfl rfl ?_)
  refine x_aload_n C dL_law_1449 rfl 2 rfl ?_
  obtain ⟨u2, hu2, hf⟩ := x_b hf
  refine x_callV (n := 0) (As := []) (rest := [.int u1]) C (c_X10_failedEvents g l d m r1 hu2) ⟨⟨wd_1748, wd_1745, wd_78⟩, ⟨by decide, by decide, by decide⟩, rfl, rfl, Nat.le_of_ble_eq_true rfl, Nat.le_of_ble_eq_true rfl⟩ wd_1746 wd_1747 ⟨0, 11, _, _, rfl, rfl, rfl⟩ [ccO g a b y z, stO g a 10 v, cdW g a 10 c, evW g a 10 e, stO g a 20 v2, cdW g a 20 c2, evW g a 20 e2, stO g a 30 v3, cdW g a 30 c3, evW g a 30 e3, hiO g a h, hrW g a t, stF g a vs, cdF g a cs, evF g a es, prO g b q, caW g b t2, cmF g b ws, sbO g y zz k, baW g zz n f, iaW g (d 2) 110 r2, iaW g (d 3) 110 r3, iaW g (d 4) 110 r4, iaW g (d 5) 880 r5, iaW g (d 6) 200 r6, iaW g (d 7) 60 r7, iaW g (d 8) 124 r8, loW g w lo, doW g w2 dd] (x_pickD [20, 21, 0, 1, 2, 3, 4, 5, 6, 7, 8, 9, 10, 11, 12, 13, 14, 15, 16, 17, 18, 19, 22, 23, 24, 25, 26, 27, 28, 29, 30] 31 rfl rfl rfl) rfl rfl (Nat.le_of_ble_eq_true rfl) ⟨by omega, by omega⟩ dL_law_1450 (x_goD (wss2 := [mdO g d u2.2, iaW g (d 1) 110 r1, ccO g a b y z, stO g a 10 v, cdW g a 10 c, evW g a 10 e, stO g a 20 v2, cdW g a 20 c2, evW g a 20 e2, stO g a 30 v3, cdW g a 30 c3, evW g a 30 e3, hiO g a h, hrW g a t, stF g a vs, cdF g a cs, evF g a es, prO g b q, caW g b t2, cmF g b ws, sbO g y zz k, baW g zz n f, iaW g (d 2) 110 r2, iaW g (d 3) 110 r3, iaW g (d 4) 110 r4, iaW g (d 5) 880 r5, iaW g (d 6) 200 r6, iaW g (d 7) 60 r7, iaW g (d 8) 124 r8, loW g w lo, doW g w2 dd]) (stk2 := [.int u2.1, .int u1]) rfl rfl ?_)
  refine x_icmp_eq (tgt := 2256) C dL_law_1453 (by decide) (fun h3 => ?_) (fun h3 => ?_)
  · have hf := x_t h3 hf
    refine x_perm (wss' := [ccO g a b y z, stO g a 10 v, cdW g a 10 c, evW g a 10 e, stO g a 20 v2, cdW g a 20 c2, evW g a 20 e2, stO g a 30 v3, cdW g a 30 c3, evW g a 30 e3, hiO g a h, hrW g a t, stF g a vs, cdF g a cs, evF g a es, prO g b q, caW g b t2, cmF g b ws, sbO g y zz k, baW g zz n f, mdO g d u2.2, iaW g (d 1) 110 r1, iaW g (d 2) 110 r2, iaW g (d 3) 110 r3, iaW g (d 4) 110 r4, iaW g (d 5) 880 r5, iaW g (d 6) 200 r6, iaW g (d 7) 60 r7, iaW g (d 8) 124 r8, loW g w lo, doW g w2 dd]) (x_pick [2, 3, 4, 5, 6, 7, 8, 9, 10, 11, 12, 13, 14, 15, 16, 17, 18, 19, 20, 21, 0, 1, 22, 23, 24, 25, 26, 27, 28, 29, 30] 31 rfl rfl rfl) ?_
    refine x_locals (lv' := [(0, .ref sb), (1, .ref (a 0)), (2, .ref (d 0)), (3, .ref w), (4, .ref w2), (5, .int i)]) [0, 1, 2, 3, 4, 5] rfl ?_
    refine x_widen (k := cells + 292) (n := slots + 5516) (by omega) (by omega) ?_
    obtain rfl := Option.some.inj hf
    exact kk zz
  · have hf := x_f h3 hf
    cases hf
set_option maxHeartbeats 4000000 in
set_option maxRecDepth 100000 in
theorem c_law_1458 (a : Nat → Nat) (b : Nat → Nat) (y : Nat) (zz : Nat) (n : Nat) (d : Nat → Nat) (w : Nat) (w2 : Nat) (C : CX g RL cL_law 9 A pW sW mW argsW methW c9) (hl : l.stackTraces = false) (hX : va_X sb L xs sW sW.heap) (hbl : sb < sW.heap.size) (hbA : ¬ A sb) (hc : cells + 292 ≤ room_1.cells) (hs : slots + 5516 ≤ room_1.slots) (z : CcT) (v : StS) (c : CdT) (e : EvT) (v2 : StS) (c2 : CdT) (e2 : EvT) (v3 : StS) (c3 : CdT) (e3 : EvT) (h : HiT) (t : Unit) (vs : (Nat → StS)) (cs : (Nat → CdT)) (es : (Nat → EvT)) (q : PrT) (t2 : Unit) (ws : (Nat → CmT)) (k : SbT) (f : (Nat → Int32)) (m : MdT) (r1 : (Nat → Int32)) (r2 : (Nat → Int32)) (r3 : (Nat → Int32)) (r4 : (Nat → Int32)) (r5 : (Nat → Int32)) (r6 : (Nat → Int32)) (r7 : (Nat → Int32)) (r8 : (Nat → Int32)) (lo : (Nat → Int64)) (dd : (Nat → UInt64)) (i : Int32) {u : LwT} (hf : f_law_1458 n L xs z v c e v2 c2 e2 v3 c3 e3 h t vs cs es q t2 ws k f m r1 r2 r3 r4 r5 r6 r7 r8 lo dd i = some u)
    (kk : ∀ zz' : Nat, VW g A 9 pW l eW room_1 sW mW argsW belowW methW c9 (cells + 292) (slots + 5516) Q [ccO g a b y u.1, stO g a 10 u.2.1, cdW g a 10 u.2.2.1, evW g a 10 u.2.2.2.1, stO g a 20 u.2.2.2.2.1, cdW g a 20 u.2.2.2.2.2.1, evW g a 20 u.2.2.2.2.2.2.1, stO g a 30 u.2.2.2.2.2.2.2.1, cdW g a 30 u.2.2.2.2.2.2.2.2.1, evW g a 30 u.2.2.2.2.2.2.2.2.2.1, hiO g a u.2.2.2.2.2.2.2.2.2.2.1, hrW g a u.2.2.2.2.2.2.2.2.2.2.2.1, stF g a u.2.2.2.2.2.2.2.2.2.2.2.2.1, cdF g a u.2.2.2.2.2.2.2.2.2.2.2.2.2.1, evF g a u.2.2.2.2.2.2.2.2.2.2.2.2.2.2.1, prO g b u.2.2.2.2.2.2.2.2.2.2.2.2.2.2.2.1, caW g b u.2.2.2.2.2.2.2.2.2.2.2.2.2.2.2.2.1, cmF g b u.2.2.2.2.2.2.2.2.2.2.2.2.2.2.2.2.2.1, sbO g y zz' u.2.2.2.2.2.2.2.2.2.2.2.2.2.2.2.2.2.2.1, baW g zz' u.2.2.2.2.2.2.2.2.2.2.2.2.2.2.2.2.2.2.2.2.2.2.2.2.2.2.2.2.2.2.2 u.2.2.2.2.2.2.2.2.2.2.2.2.2.2.2.2.2.2.2.1, mdO g d u.2.2.2.2.2.2.2.2.2.2.2.2.2.2.2.2.2.2.2.2.1, iaW g (d 1) 110 u.2.2.2.2.2.2.2.2.2.2.2.2.2.2.2.2.2.2.2.2.2.1, iaW g (d 2) 110 u.2.2.2.2.2.2.2.2.2.2.2.2.2.2.2.2.2.2.2.2.2.2.1, iaW g (d 3) 110 u.2.2.2.2.2.2.2.2.2.2.2.2.2.2.2.2.2.2.2.2.2.2.2.1, iaW g (d 4) 110 u.2.2.2.2.2.2.2.2.2.2.2.2.2.2.2.2.2.2.2.2.2.2.2.2.1, iaW g (d 5) 880 u.2.2.2.2.2.2.2.2.2.2.2.2.2.2.2.2.2.2.2.2.2.2.2.2.2.1, iaW g (d 6) 200 u.2.2.2.2.2.2.2.2.2.2.2.2.2.2.2.2.2.2.2.2.2.2.2.2.2.2.1, iaW g (d 7) 60 u.2.2.2.2.2.2.2.2.2.2.2.2.2.2.2.2.2.2.2.2.2.2.2.2.2.2.2.1, iaW g (d 8) 124 u.2.2.2.2.2.2.2.2.2.2.2.2.2.2.2.2.2.2.2.2.2.2.2.2.2.2.2.2.1, loW g w u.2.2.2.2.2.2.2.2.2.2.2.2.2.2.2.2.2.2.2.2.2.2.2.2.2.2.2.2.2.1, doW g w2 u.2.2.2.2.2.2.2.2.2.2.2.2.2.2.2.2.2.2.2.2.2.2.2.2.2.2.2.2.2.2.1] [(0, .ref sb), (1, .ref (a 0)), (2, .ref (d 0)), (3, .ref w), (4, .ref w2), (5, .int i)] 2256 []) : VW g A 9 pW l eW room_1 sW mW argsW belowW methW c9 cells slots Q [ccO g a b y z, stO g a 10 v, cdW g a 10 c, evW g a 10 e, stO g a 20 v2, cdW g a 20 c2, evW g a 20 e2, stO g a 30 v3, cdW g a 30 c3, evW g a 30 e3, hiO g a h, hrW g a t, stF g a vs, cdF g a cs, evF g a es, prO g b q, caW g b t2, cmF g b ws, sbO g y zz k, baW g zz n f, mdO g d m, iaW g (d 1) 110 r1, iaW g (d 2) 110 r2, iaW g (d 3) 110 r3, iaW g (d 4) 110 r4, iaW g (d 5) 880 r5, iaW g (d 6) 200 r6, iaW g (d 7) 60 r7, iaW g (d 8) 124 r8, loW g w lo, doW g w2 dd] [(0, .ref sb), (1, .ref (a 0)), (2, .ref (d 0)), (3, .ref w), (4, .ref w2), (5, .int i)] 1458 [] := by
  unfold f_law_1458 at hf
  have C : CX g RL cL_law 9 A pW sW mW argsW methW c9 := C
  refine x_aload_n C dL_law_1458 rfl 1 rfl ?_
  refine x_aload_n C dL_law_1459 rfl 3 rfl ?_
  obtain ⟨u1, hu1, hf⟩ := x_b hf
  refine x_hcallS (n := 2) (As := [.ref (a 0), .ref w]) (rest := []) C (c_L_failureReason g l hl a b y w z v lo hu1) ⟨⟨wd_1226, wd_1224, wd_64⟩, ⟨by decide, by decide, by decide⟩, rfl, rfl, Nat.le_of_ble_eq_true rfl, Nat.le_of_ble_eq_true rfl⟩ wd_1225 [cdW g a 10 c, evW g a 10 e, stO g a 20 v2, cdW g a 20 c2, evW g a 20 e2, stO g a 30 v3, cdW g a 30 c3, evW g a 30 e3, hiO g a h, hrW g a t, stF g a vs, cdF g a cs, evF g a es, prO g b q, caW g b t2, cmF g b ws, sbO g y zz k, baW g zz n f, mdO g d m, iaW g (d 1) 110 r1, iaW g (d 2) 110 r2, iaW g (d 3) 110 r3, iaW g (d 4) 110 r4, iaW g (d 5) 880 r5, iaW g (d 6) 200 r6, iaW g (d 7) 60 r7, iaW g (d 8) 124 r8, doW g w2 dd] (x_pickD [0, 1, 29, 2, 3, 4, 5, 6, 7, 8, 9, 10, 11, 12, 13, 14, 15, 16, 17, 18, 19, 20, 21, 22, 23, 24, 25, 26, 27, 28, 30] 31 rfl rfl rfl) rfl rfl (Nat.le_of_ble_eq_true rfl) ⟨by omega, by omega⟩ dL_law_1460 (fun v9 w9 hQ9 => ?_)
  obtain ⟨rfl, rfl⟩ := hQ9
  refine x_goW (wss2 := [ccO g a b y z, stO g a 10 v, loW g w u1.2, cdW g a 10 c, evW g a 10 e, stO g a 20 v2, cdW g a 20 c2, evW g a 20 e2, stO g a 30 v3, cdW g a 30 c3, evW g a 30 e3, hiO g a h, hrW g a t, stF g a vs, cdF g a cs, evF g a es, prO g b q, caW g b t2, cmF g b ws, sbO g y zz k, baW g zz n f, mdO g d m, iaW g (d 1) 110 r1, iaW g (d 2) 110 r2, iaW g (d 3) 110 r3, iaW g (d 4) 110 r4, iaW g (d 5) 880 r5, iaW g (d 6) 200 r6, iaW g (d 7) 60 r7, iaW g (d 8) 124 r8, doW g w2 dd]) (stk2 := [.int u1.1]) rfl rfl rfl ?_
  refine x_istore (lv' := [(6, .int u1.1), (0, .ref sb), (1, .ref (a 0)), (2, .ref (d 0)), (3, .ref w), (4, .ref w2), (5, .int i)]) C dL_law_1463 (by decide) rfl ?_
  refine x_aload_n C dL_law_1465 rfl 3 rfl ?_
  obtain ⟨u2, hu2, hf⟩ := x_b hf
  refine x_callV (n := 0) (As := []) (rest := []) C (c_X10_failureReason g l d m r1 hu2) ⟨⟨wd_1752, wd_1749, wd_78⟩, ⟨by decide, by decide, by decide⟩, rfl, rfl, Nat.le_of_ble_eq_true rfl, Nat.le_of_ble_eq_true rfl⟩ wd_1750 wd_1751 ⟨0, 11, _, _, rfl, rfl, rfl⟩ [ccO g a b y z, stO g a 10 v, loW g w u1.2, cdW g a 10 c, evW g a 10 e, stO g a 20 v2, cdW g a 20 c2, evW g a 20 e2, stO g a 30 v3, cdW g a 30 c3, evW g a 30 e3, hiO g a h, hrW g a t, stF g a vs, cdF g a cs, evF g a es, prO g b q, caW g b t2, cmF g b ws, sbO g y zz k, baW g zz n f, iaW g (d 2) 110 r2, iaW g (d 3) 110 r3, iaW g (d 4) 110 r4, iaW g (d 5) 880 r5, iaW g (d 6) 200 r6, iaW g (d 7) 60 r7, iaW g (d 8) 124 r8, doW g w2 dd] (x_pickD [21, 22, 0, 1, 2, 3, 4, 5, 6, 7, 8, 9, 10, 11, 12, 13, 14, 15, 16, 17, 18, 19, 20, 23, 24, 25, 26, 27, 28, 29, 30] 31 rfl rfl rfl) rfl rfl (Nat.le_of_ble_eq_true rfl) ⟨by omega, by omega⟩ dL_law_1466 (x_goD (wss2 := [mdO g d u2.2, iaW g (d 1) 110 r1, ccO g a b y z, stO g a 10 v, loW g w u1.2, cdW g a 10 c, evW g a 10 e, stO g a 20 v2, cdW g a 20 c2, evW g a 20 e2, stO g a 30 v3, cdW g a 30 c3, evW g a 30 e3, hiO g a h, hrW g a t, stF g a vs, cdF g a cs, evF g a es, prO g b q, caW g b t2, cmF g b ws, sbO g y zz k, baW g zz n f, iaW g (d 2) 110 r2, iaW g (d 3) 110 r3, iaW g (d 4) 110 r4, iaW g (d 5) 880 r5, iaW g (d 6) 200 r6, iaW g (d 7) 60 r7, iaW g (d 8) 124 r8, doW g w2 dd]) (stk2 := [.int u2.1]) rfl rfl ?_)
  refine x_istore (lv' := [(7, .int u2.1), (6, .int u1.1), (0, .ref sb), (1, .ref (a 0)), (2, .ref (d 0)), (3, .ref w), (4, .ref w2), (5, .int i)]) C dL_law_1469 (by decide) rfl ?_
  refine x_aload_n C dL_law_1471 rfl 4 rfl ?_
  obtain ⟨u3, hu3, hf⟩ := x_b hf
  refine x_callV (n := 0) (As := []) (rest := []) C (c_X10_thrown g l d u2.2 hu3) ⟨⟨wd_1550, wd_1547, wd_78⟩, ⟨by decide, by decide, by decide⟩, rfl, rfl, Nat.le_of_ble_eq_true rfl, Nat.le_of_ble_eq_true rfl⟩ wd_1548 wd_1549 ⟨0, 11, _, _, rfl, rfl, rfl⟩ [iaW g (d 1) 110 r1, ccO g a b y z, stO g a 10 v, loW g w u1.2, cdW g a 10 c, evW g a 10 e, stO g a 20 v2, cdW g a 20 c2, evW g a 20 e2, stO g a 30 v3, cdW g a 30 c3, evW g a 30 e3, hiO g a h, hrW g a t, stF g a vs, cdF g a cs, evF g a es, prO g b q, caW g b t2, cmF g b ws, sbO g y zz k, baW g zz n f, iaW g (d 2) 110 r2, iaW g (d 3) 110 r3, iaW g (d 4) 110 r4, iaW g (d 5) 880 r5, iaW g (d 6) 200 r6, iaW g (d 7) 60 r7, iaW g (d 8) 124 r8, doW g w2 dd] (x_pickD [0, 1, 2, 3, 4, 5, 6, 7, 8, 9, 10, 11, 12, 13, 14, 15, 16, 17, 18, 19, 20, 21, 22, 23, 24, 25, 26, 27, 28, 29, 30] 31 rfl rfl rfl) rfl rfl (Nat.le_of_ble_eq_true rfl) ⟨by omega, by omega⟩ dL_law_1472 (x_goD (wss2 := [mdO g d u2.2, iaW g (d 1) 110 r1, ccO g a b y z, stO g a 10 v, loW g w u1.2, cdW g a 10 c, evW g a 10 e, stO g a 20 v2, cdW g a 20 c2, evW g a 20 e2, stO g a 30 v3, cdW g a 30 c3, evW g a 30 e3, hiO g a h, hrW g a t, stF g a vs, cdF g a cs, evF g a es, prO g b q, caW g b t2, cmF g b ws, sbO g y zz k, baW g zz n f, iaW g (d 2) 110 r2, iaW g (d 3) 110 r3, iaW g (d 4) 110 r4, iaW g (d 5) 880 r5, iaW g (d 6) 200 r6, iaW g (d 7) 60 r7, iaW g (d 8) 124 r8, doW g w2 dd]) (stk2 := [.int u3]) rfl rfl ?_)
  refine x_iload C dL_law_1475 1 rfl ?_
  refine x_icmp_eq (tgt := 1482) C dL_law_1477 (by decide) (fun h4 => ?_) (fun h4 => ?_)
  · have hf := x_t h4 hf
    refine x_iload C dL_law_1482 1 rfl ?_
    refine x_if_ne (tgt := 1499) C dL_law_1484 (by decide) (fun h5 => ?_) (fun h5 => ?_)
    · have hf := x_f h5 hf
      refine x_goto (tgt := 2256) C dL_law_1499 (by decide) ?_
      refine x_perm (wss' := [ccO g a b y z, stO g a 10 v, cdW g a 10 c, evW g a 10 e, stO g a 20 v2, cdW g a 20 c2, evW g a 20 e2, stO g a 30 v3, cdW g a 30 c3, evW g a 30 e3, hiO g a h, hrW g a t, stF g a vs, cdF g a cs, evF g a es, prO g b q, caW g b t2, cmF g b ws, sbO g y zz k, baW g zz n f, mdO g d u2.2, iaW g (d 1) 110 r1, iaW g (d 2) 110 r2, iaW g (d 3) 110 r3, iaW g (d 4) 110 r4, iaW g (d 5) 880 r5, iaW g (d 6) 200 r6, iaW g (d 7) 60 r7, iaW g (d 8) 124 r8, loW g w u1.2, doW g w2 dd]) (x_pick [2, 3, 5, 6, 7, 8, 9, 10, 11, 12, 13, 14, 15, 16, 17, 18, 19, 20, 21, 22, 0, 1, 23, 24, 25, 26, 27, 28, 29, 4, 30] 31 rfl rfl rfl) ?_
      refine x_locals (lv' := [(0, .ref sb), (1, .ref (a 0)), (2, .ref (d 0)), (3, .ref w), (4, .ref w2), (5, .int i)]) [2, 3, 4, 5, 6, 7] rfl ?_
      refine x_widen (k := cells + 292) (n := slots + 5516) (by omega) (by omega) ?_
      obtain rfl := Option.some.inj hf
      exact kk zz
    · have hf := x_t h5 hf
      refine x_aload_n C dL_law_1487 rfl 5 rfl ?_
      refine x_iconst (v := 0) C dL_law_1488 (by decide) ?_
      obtain ⟨h6, hf⟩ := x_n hf
      refine x_lald (b := loW g w u1.2) C 4 rfl 0 (loW_at0 g w _) h6 dL_law_1489 ?_
      refine x_iload C dL_law_1490 0 rfl ?_
      refine x_i2l C dL_law_1492 rfl ?_
      refine x_lcmp C dL_law_1493 ?_
      refine x_if_eq (tgt := 1499) C dL_law_1494 (by decide) (fun h7 => ?_) (fun h7 => ?_)
      · have hf := x_t h7 hf
        refine x_goto (tgt := 2256) C dL_law_1499 (by decide) ?_
        refine x_perm (wss' := [ccO g a b y z, stO g a 10 v, cdW g a 10 c, evW g a 10 e, stO g a 20 v2, cdW g a 20 c2, evW g a 20 e2, stO g a 30 v3, cdW g a 30 c3, evW g a 30 e3, hiO g a h, hrW g a t, stF g a vs, cdF g a cs, evF g a es, prO g b q, caW g b t2, cmF g b ws, sbO g y zz k, baW g zz n f, mdO g d u2.2, iaW g (d 1) 110 r1, iaW g (d 2) 110 r2, iaW g (d 3) 110 r3, iaW g (d 4) 110 r4, iaW g (d 5) 880 r5, iaW g (d 6) 200 r6, iaW g (d 7) 60 r7, iaW g (d 8) 124 r8, loW g w u1.2, doW g w2 dd]) (x_pick [2, 3, 5, 6, 7, 8, 9, 10, 11, 12, 13, 14, 15, 16, 17, 18, 19, 20, 21, 22, 0, 1, 23, 24, 25, 26, 27, 28, 29, 4, 30] 31 rfl rfl rfl) ?_
        refine x_locals (lv' := [(0, .ref sb), (1, .ref (a 0)), (2, .ref (d 0)), (3, .ref w), (4, .ref w2), (5, .int i)]) [2, 3, 4, 5, 6, 7] rfl ?_
        refine x_widen (k := cells + 292) (n := slots + 5516) (by omega) (by omega) ?_
        obtain rfl := Option.some.inj hf
        exact kk zz
      · have hf := x_f h7 hf
        cases hf
  · have hf := x_f h4 hf
    cases hf
set_option maxHeartbeats 4000000 in
set_option maxRecDepth 100000 in
theorem c_law_1502 (a : Nat → Nat) (b : Nat → Nat) (y : Nat) (zz : Nat) (n : Nat) (d : Nat → Nat) (w : Nat) (w2 : Nat) (C : CX g RL cL_law 9 A pW sW mW argsW methW c9) (hl : l.stackTraces = false) (hX : va_X sb L xs sW sW.heap) (hbl : sb < sW.heap.size) (hbA : ¬ A sb) (hc : cells + 292 ≤ room_1.cells) (hs : slots + 5516 ≤ room_1.slots) (z : CcT) (v : StS) (c : CdT) (e : EvT) (v2 : StS) (c2 : CdT) (e2 : EvT) (v3 : StS) (c3 : CdT) (e3 : EvT) (h : HiT) (t : Unit) (vs : (Nat → StS)) (cs : (Nat → CdT)) (es : (Nat → EvT)) (q : PrT) (t2 : Unit) (ws : (Nat → CmT)) (k : SbT) (f : (Nat → Int32)) (m : MdT) (r1 : (Nat → Int32)) (r2 : (Nat → Int32)) (r3 : (Nat → Int32)) (r4 : (Nat → Int32)) (r5 : (Nat → Int32)) (r6 : (Nat → Int32)) (r7 : (Nat → Int32)) (r8 : (Nat → Int32)) (lo : (Nat → Int64)) (dd : (Nat → UInt64)) (i : Int32) {u : LwT} (hf : f_law_1502 n L xs z v c e v2 c2 e2 v3 c3 e3 h t vs cs es q t2 ws k f m r1 r2 r3 r4 r5 r6 r7 r8 lo dd i = some u)
    (kk : ∀ zz' : Nat, VW g A 9 pW l eW room_1 sW mW argsW belowW methW c9 (cells + 292) (slots + 5516) Q [ccO g a b y u.1, stO g a 10 u.2.1, cdW g a 10 u.2.2.1, evW g a 10 u.2.2.2.1, stO g a 20 u.2.2.2.2.1, cdW g a 20 u.2.2.2.2.2.1, evW g a 20 u.2.2.2.2.2.2.1, stO g a 30 u.2.2.2.2.2.2.2.1, cdW g a 30 u.2.2.2.2.2.2.2.2.1, evW g a 30 u.2.2.2.2.2.2.2.2.2.1, hiO g a u.2.2.2.2.2.2.2.2.2.2.1, hrW g a u.2.2.2.2.2.2.2.2.2.2.2.1, stF g a u.2.2.2.2.2.2.2.2.2.2.2.2.1, cdF g a u.2.2.2.2.2.2.2.2.2.2.2.2.2.1, evF g a u.2.2.2.2.2.2.2.2.2.2.2.2.2.2.1, prO g b u.2.2.2.2.2.2.2.2.2.2.2.2.2.2.2.1, caW g b u.2.2.2.2.2.2.2.2.2.2.2.2.2.2.2.2.1, cmF g b u.2.2.2.2.2.2.2.2.2.2.2.2.2.2.2.2.2.1, sbO g y zz' u.2.2.2.2.2.2.2.2.2.2.2.2.2.2.2.2.2.2.1, baW g zz' u.2.2.2.2.2.2.2.2.2.2.2.2.2.2.2.2.2.2.2.2.2.2.2.2.2.2.2.2.2.2.2 u.2.2.2.2.2.2.2.2.2.2.2.2.2.2.2.2.2.2.2.1, mdO g d u.2.2.2.2.2.2.2.2.2.2.2.2.2.2.2.2.2.2.2.2.1, iaW g (d 1) 110 u.2.2.2.2.2.2.2.2.2.2.2.2.2.2.2.2.2.2.2.2.2.1, iaW g (d 2) 110 u.2.2.2.2.2.2.2.2.2.2.2.2.2.2.2.2.2.2.2.2.2.2.1, iaW g (d 3) 110 u.2.2.2.2.2.2.2.2.2.2.2.2.2.2.2.2.2.2.2.2.2.2.2.1, iaW g (d 4) 110 u.2.2.2.2.2.2.2.2.2.2.2.2.2.2.2.2.2.2.2.2.2.2.2.2.1, iaW g (d 5) 880 u.2.2.2.2.2.2.2.2.2.2.2.2.2.2.2.2.2.2.2.2.2.2.2.2.2.1, iaW g (d 6) 200 u.2.2.2.2.2.2.2.2.2.2.2.2.2.2.2.2.2.2.2.2.2.2.2.2.2.2.1, iaW g (d 7) 60 u.2.2.2.2.2.2.2.2.2.2.2.2.2.2.2.2.2.2.2.2.2.2.2.2.2.2.2.1, iaW g (d 8) 124 u.2.2.2.2.2.2.2.2.2.2.2.2.2.2.2.2.2.2.2.2.2.2.2.2.2.2.2.2.1, loW g w u.2.2.2.2.2.2.2.2.2.2.2.2.2.2.2.2.2.2.2.2.2.2.2.2.2.2.2.2.2.1, doW g w2 u.2.2.2.2.2.2.2.2.2.2.2.2.2.2.2.2.2.2.2.2.2.2.2.2.2.2.2.2.2.2.1] [(0, .ref sb), (1, .ref (a 0)), (2, .ref (d 0)), (3, .ref w), (4, .ref w2), (5, .int i)] 2256 []) : VW g A 9 pW l eW room_1 sW mW argsW belowW methW c9 cells slots Q [ccO g a b y z, stO g a 10 v, cdW g a 10 c, evW g a 10 e, stO g a 20 v2, cdW g a 20 c2, evW g a 20 e2, stO g a 30 v3, cdW g a 30 c3, evW g a 30 e3, hiO g a h, hrW g a t, stF g a vs, cdF g a cs, evF g a es, prO g b q, caW g b t2, cmF g b ws, sbO g y zz k, baW g zz n f, mdO g d m, iaW g (d 1) 110 r1, iaW g (d 2) 110 r2, iaW g (d 3) 110 r3, iaW g (d 4) 110 r4, iaW g (d 5) 880 r5, iaW g (d 6) 200 r6, iaW g (d 7) 60 r7, iaW g (d 8) 124 r8, loW g w lo, doW g w2 dd] [(0, .ref sb), (1, .ref (a 0)), (2, .ref (d 0)), (3, .ref w), (4, .ref w2), (5, .int i)] 1502 [] := by
  unfold f_law_1502 at hf
  have C : CX g RL cL_law 9 A pW sW mW argsW methW c9 := C
  refine x_aload_n C dL_law_1502 rfl 1 rfl ?_
  obtain ⟨u1, hu1, hf⟩ := x_b hf
  refine x_callV (n := 0) (As := []) (rest := []) C (c_X9_time g l a b y z v hu1) ⟨⟨wd_385, wd_382, wd_65⟩, ⟨by decide, by decide, by decide⟩, rfl, rfl, Nat.le_of_ble_eq_true rfl, Nat.le_of_ble_eq_true rfl⟩ wd_383 wd_384 ⟨0, 10, _, _, rfl, rfl, rfl⟩ [cdW g a 10 c, evW g a 10 e, stO g a 20 v2, cdW g a 20 c2, evW g a 20 e2, stO g a 30 v3, cdW g a 30 c3, evW g a 30 e3, hiO g a h, hrW g a t, stF g a vs, cdF g a cs, evF g a es, prO g b q, caW g b t2, cmF g b ws, sbO g y zz k, baW g zz n f, mdO g d m, iaW g (d 1) 110 r1, iaW g (d 2) 110 r2, iaW g (d 3) 110 r3, iaW g (d 4) 110 r4, iaW g (d 5) 880 r5, iaW g (d 6) 200 r6, iaW g (d 7) 60 r7, iaW g (d 8) 124 r8, loW g w lo, doW g w2 dd] (x_pickD [0, 1, 2, 3, 4, 5, 6, 7, 8, 9, 10, 11, 12, 13, 14, 15, 16, 17, 18, 19, 20, 21, 22, 23, 24, 25, 26, 27, 28, 29, 30] 31 rfl rfl rfl) rfl rfl (Nat.le_of_ble_eq_true rfl) ⟨by omega, by omega⟩ dL_law_1503 (x_goD (wss2 := [ccO g a b y z, stO g a 10 v, cdW g a 10 c, evW g a 10 e, stO g a 20 v2, cdW g a 20 c2, evW g a 20 e2, stO g a 30 v3, cdW g a 30 c3, evW g a 30 e3, hiO g a h, hrW g a t, stF g a vs, cdF g a cs, evF g a es, prO g b q, caW g b t2, cmF g b ws, sbO g y zz k, baW g zz n f, mdO g d m, iaW g (d 1) 110 r1, iaW g (d 2) 110 r2, iaW g (d 3) 110 r3, iaW g (d 4) 110 r4, iaW g (d 5) 880 r5, iaW g (d 6) 200 r6, iaW g (d 7) 60 r7, iaW g (d 8) 124 r8, loW g w lo, doW g w2 dd]) (stk2 := [.int u1]) rfl rfl ?_)
  refine x_aload_n C dL_law_1506 rfl 2 rfl ?_
  obtain ⟨u2, hu2, hf⟩ := x_b hf
  refine x_callV (n := 0) (As := []) (rest := [.int u1]) C (c_X10_time g l d m r1 hu2) ⟨⟨wd_1756, wd_1753, wd_78⟩, ⟨by decide, by decide, by decide⟩, rfl, rfl, Nat.le_of_ble_eq_true rfl, Nat.le_of_ble_eq_true rfl⟩ wd_1754 wd_1755 ⟨0, 11, _, _, rfl, rfl, rfl⟩ [ccO g a b y z, stO g a 10 v, cdW g a 10 c, evW g a 10 e, stO g a 20 v2, cdW g a 20 c2, evW g a 20 e2, stO g a 30 v3, cdW g a 30 c3, evW g a 30 e3, hiO g a h, hrW g a t, stF g a vs, cdF g a cs, evF g a es, prO g b q, caW g b t2, cmF g b ws, sbO g y zz k, baW g zz n f, iaW g (d 2) 110 r2, iaW g (d 3) 110 r3, iaW g (d 4) 110 r4, iaW g (d 5) 880 r5, iaW g (d 6) 200 r6, iaW g (d 7) 60 r7, iaW g (d 8) 124 r8, loW g w lo, doW g w2 dd] (x_pickD [20, 21, 0, 1, 2, 3, 4, 5, 6, 7, 8, 9, 10, 11, 12, 13, 14, 15, 16, 17, 18, 19, 22, 23, 24, 25, 26, 27, 28, 29, 30] 31 rfl rfl rfl) rfl rfl (Nat.le_of_ble_eq_true rfl) ⟨by omega, by omega⟩ dL_law_1507 (x_goD (wss2 := [mdO g d u2.2, iaW g (d 1) 110 r1, ccO g a b y z, stO g a 10 v, cdW g a 10 c, evW g a 10 e, stO g a 20 v2, cdW g a 20 c2, evW g a 20 e2, stO g a 30 v3, cdW g a 30 c3, evW g a 30 e3, hiO g a h, hrW g a t, stF g a vs, cdF g a cs, evF g a es, prO g b q, caW g b t2, cmF g b ws, sbO g y zz k, baW g zz n f, iaW g (d 2) 110 r2, iaW g (d 3) 110 r3, iaW g (d 4) 110 r4, iaW g (d 5) 880 r5, iaW g (d 6) 200 r6, iaW g (d 7) 60 r7, iaW g (d 8) 124 r8, loW g w lo, doW g w2 dd]) (stk2 := [.int u2.1, .int u1]) rfl rfl ?_)
  refine x_icmp_eq (tgt := 2256) C dL_law_1510 (by decide) (fun h3 => ?_) (fun h3 => ?_)
  · have hf := x_t h3 hf
    refine x_perm (wss' := [ccO g a b y z, stO g a 10 v, cdW g a 10 c, evW g a 10 e, stO g a 20 v2, cdW g a 20 c2, evW g a 20 e2, stO g a 30 v3, cdW g a 30 c3, evW g a 30 e3, hiO g a h, hrW g a t, stF g a vs, cdF g a cs, evF g a es, prO g b q, caW g b t2, cmF g b ws, sbO g y zz k, baW g zz n f, mdO g d u2.2, iaW g (d 1) 110 r1, iaW g (d 2) 110 r2, iaW g (d 3) 110 r3, iaW g (d 4) 110 r4, iaW g (d 5) 880 r5, iaW g (d 6) 200 r6, iaW g (d 7) 60 r7, iaW g (d 8) 124 r8, loW g w lo, doW g w2 dd]) (x_pick [2, 3, 4, 5, 6, 7, 8, 9, 10, 11, 12, 13, 14, 15, 16, 17, 18, 19, 20, 21, 0, 1, 22, 23, 24, 25, 26, 27, 28, 29, 30] 31 rfl rfl rfl) ?_
    refine x_locals (lv' := [(0, .ref sb), (1, .ref (a 0)), (2, .ref (d 0)), (3, .ref w), (4, .ref w2), (5, .int i)]) [0, 1, 2, 3, 4, 5] rfl ?_
    refine x_widen (k := cells + 292) (n := slots + 5516) (by omega) (by omega) ?_
    obtain rfl := Option.some.inj hf
    exact kk zz
  · have hf := x_f h3 hf
    cases hf
set_option maxHeartbeats 4000000 in
set_option maxRecDepth 100000 in
theorem c_law_1515 (a : Nat → Nat) (b : Nat → Nat) (y : Nat) (zz : Nat) (n : Nat) (d : Nat → Nat) (w : Nat) (w2 : Nat) (C : CX g RL cL_law 9 A pW sW mW argsW methW c9) (hl : l.stackTraces = false) (hX : va_X sb L xs sW sW.heap) (hbl : sb < sW.heap.size) (hbA : ¬ A sb) (hc : cells + 292 ≤ room_1.cells) (hs : slots + 5516 ≤ room_1.slots) (z : CcT) (v : StS) (c : CdT) (e : EvT) (v2 : StS) (c2 : CdT) (e2 : EvT) (v3 : StS) (c3 : CdT) (e3 : EvT) (h : HiT) (t : Unit) (vs : (Nat → StS)) (cs : (Nat → CdT)) (es : (Nat → EvT)) (q : PrT) (t2 : Unit) (ws : (Nat → CmT)) (k : SbT) (f : (Nat → Int32)) (m : MdT) (r1 : (Nat → Int32)) (r2 : (Nat → Int32)) (r3 : (Nat → Int32)) (r4 : (Nat → Int32)) (r5 : (Nat → Int32)) (r6 : (Nat → Int32)) (r7 : (Nat → Int32)) (r8 : (Nat → Int32)) (lo : (Nat → Int64)) (dd : (Nat → UInt64)) (i : Int32) {u : LwT} (hf : f_law_1515 n L xs z v c e v2 c2 e2 v3 c3 e3 h t vs cs es q t2 ws k f m r1 r2 r3 r4 r5 r6 r7 r8 lo dd i = some u)
    (kk : ∀ zz' : Nat, VW g A 9 pW l eW room_1 sW mW argsW belowW methW c9 (cells + 292) (slots + 5516) Q [ccO g a b y u.1, stO g a 10 u.2.1, cdW g a 10 u.2.2.1, evW g a 10 u.2.2.2.1, stO g a 20 u.2.2.2.2.1, cdW g a 20 u.2.2.2.2.2.1, evW g a 20 u.2.2.2.2.2.2.1, stO g a 30 u.2.2.2.2.2.2.2.1, cdW g a 30 u.2.2.2.2.2.2.2.2.1, evW g a 30 u.2.2.2.2.2.2.2.2.2.1, hiO g a u.2.2.2.2.2.2.2.2.2.2.1, hrW g a u.2.2.2.2.2.2.2.2.2.2.2.1, stF g a u.2.2.2.2.2.2.2.2.2.2.2.2.1, cdF g a u.2.2.2.2.2.2.2.2.2.2.2.2.2.1, evF g a u.2.2.2.2.2.2.2.2.2.2.2.2.2.2.1, prO g b u.2.2.2.2.2.2.2.2.2.2.2.2.2.2.2.1, caW g b u.2.2.2.2.2.2.2.2.2.2.2.2.2.2.2.2.1, cmF g b u.2.2.2.2.2.2.2.2.2.2.2.2.2.2.2.2.2.1, sbO g y zz' u.2.2.2.2.2.2.2.2.2.2.2.2.2.2.2.2.2.2.1, baW g zz' u.2.2.2.2.2.2.2.2.2.2.2.2.2.2.2.2.2.2.2.2.2.2.2.2.2.2.2.2.2.2.2 u.2.2.2.2.2.2.2.2.2.2.2.2.2.2.2.2.2.2.2.1, mdO g d u.2.2.2.2.2.2.2.2.2.2.2.2.2.2.2.2.2.2.2.2.1, iaW g (d 1) 110 u.2.2.2.2.2.2.2.2.2.2.2.2.2.2.2.2.2.2.2.2.2.1, iaW g (d 2) 110 u.2.2.2.2.2.2.2.2.2.2.2.2.2.2.2.2.2.2.2.2.2.2.1, iaW g (d 3) 110 u.2.2.2.2.2.2.2.2.2.2.2.2.2.2.2.2.2.2.2.2.2.2.2.1, iaW g (d 4) 110 u.2.2.2.2.2.2.2.2.2.2.2.2.2.2.2.2.2.2.2.2.2.2.2.2.1, iaW g (d 5) 880 u.2.2.2.2.2.2.2.2.2.2.2.2.2.2.2.2.2.2.2.2.2.2.2.2.2.1, iaW g (d 6) 200 u.2.2.2.2.2.2.2.2.2.2.2.2.2.2.2.2.2.2.2.2.2.2.2.2.2.2.1, iaW g (d 7) 60 u.2.2.2.2.2.2.2.2.2.2.2.2.2.2.2.2.2.2.2.2.2.2.2.2.2.2.2.1, iaW g (d 8) 124 u.2.2.2.2.2.2.2.2.2.2.2.2.2.2.2.2.2.2.2.2.2.2.2.2.2.2.2.2.1, loW g w u.2.2.2.2.2.2.2.2.2.2.2.2.2.2.2.2.2.2.2.2.2.2.2.2.2.2.2.2.2.1, doW g w2 u.2.2.2.2.2.2.2.2.2.2.2.2.2.2.2.2.2.2.2.2.2.2.2.2.2.2.2.2.2.2.1] [(0, .ref sb), (1, .ref (a 0)), (2, .ref (d 0)), (3, .ref w), (4, .ref w2), (5, .int i)] 2256 []) : VW g A 9 pW l eW room_1 sW mW argsW belowW methW c9 cells slots Q [ccO g a b y z, stO g a 10 v, cdW g a 10 c, evW g a 10 e, stO g a 20 v2, cdW g a 20 c2, evW g a 20 e2, stO g a 30 v3, cdW g a 30 c3, evW g a 30 e3, hiO g a h, hrW g a t, stF g a vs, cdF g a cs, evF g a es, prO g b q, caW g b t2, cmF g b ws, sbO g y zz k, baW g zz n f, mdO g d m, iaW g (d 1) 110 r1, iaW g (d 2) 110 r2, iaW g (d 3) 110 r3, iaW g (d 4) 110 r4, iaW g (d 5) 880 r5, iaW g (d 6) 200 r6, iaW g (d 7) 60 r7, iaW g (d 8) 124 r8, loW g w lo, doW g w2 dd] [(0, .ref sb), (1, .ref (a 0)), (2, .ref (d 0)), (3, .ref w), (4, .ref w2), (5, .int i)] 1515 [] := by
  unfold f_law_1515 at hf
  have C : CX g RL cL_law 9 A pW sW mW argsW methW c9 := C
  refine x_aload_n C dL_law_1515 rfl 1 rfl ?_
  obtain ⟨u1, hu1, hf⟩ := x_b hf
  refine x_callV (n := 0) (As := []) (rest := []) C (c_X9_draught g l a b y z v hu1) ⟨⟨wd_389, wd_386, wd_65⟩, ⟨by decide, by decide, by decide⟩, rfl, rfl, Nat.le_of_ble_eq_true rfl, Nat.le_of_ble_eq_true rfl⟩ wd_387 wd_388 ⟨0, 10, _, _, rfl, rfl, rfl⟩ [cdW g a 10 c, evW g a 10 e, stO g a 20 v2, cdW g a 20 c2, evW g a 20 e2, stO g a 30 v3, cdW g a 30 c3, evW g a 30 e3, hiO g a h, hrW g a t, stF g a vs, cdF g a cs, evF g a es, prO g b q, caW g b t2, cmF g b ws, sbO g y zz k, baW g zz n f, mdO g d m, iaW g (d 1) 110 r1, iaW g (d 2) 110 r2, iaW g (d 3) 110 r3, iaW g (d 4) 110 r4, iaW g (d 5) 880 r5, iaW g (d 6) 200 r6, iaW g (d 7) 60 r7, iaW g (d 8) 124 r8, loW g w lo, doW g w2 dd] (x_pickD [0, 1, 2, 3, 4, 5, 6, 7, 8, 9, 10, 11, 12, 13, 14, 15, 16, 17, 18, 19, 20, 21, 22, 23, 24, 25, 26, 27, 28, 29, 30] 31 rfl rfl rfl) rfl rfl (Nat.le_of_ble_eq_true rfl) ⟨by omega, by omega⟩ dL_law_1516 (x_goD (wss2 := [ccO g a b y z, stO g a 10 v, cdW g a 10 c, evW g a 10 e, stO g a 20 v2, cdW g a 20 c2, evW g a 20 e2, stO g a 30 v3, cdW g a 30 c3, evW g a 30 e3, hiO g a h, hrW g a t, stF g a vs, cdF g a cs, evF g a es, prO g b q, caW g b t2, cmF g b ws, sbO g y zz k, baW g zz n f, mdO g d m, iaW g (d 1) 110 r1, iaW g (d 2) 110 r2, iaW g (d 3) 110 r3, iaW g (d 4) 110 r4, iaW g (d 5) 880 r5, iaW g (d 6) 200 r6, iaW g (d 7) 60 r7, iaW g (d 8) 124 r8, loW g w lo, doW g w2 dd]) (stk2 := [.int u1]) rfl rfl ?_)
  refine x_aload_n C dL_law_1519 rfl 2 rfl ?_
  obtain ⟨u2, hu2, hf⟩ := x_b hf
  refine x_callV (n := 0) (As := []) (rest := [.int u1]) C (c_X10_draught g l d m r1 hu2) ⟨⟨wd_1760, wd_1757, wd_78⟩, ⟨by decide, by decide, by decide⟩, rfl, rfl, Nat.le_of_ble_eq_true rfl, Nat.le_of_ble_eq_true rfl⟩ wd_1758 wd_1759 ⟨0, 11, _, _, rfl, rfl, rfl⟩ [ccO g a b y z, stO g a 10 v, cdW g a 10 c, evW g a 10 e, stO g a 20 v2, cdW g a 20 c2, evW g a 20 e2, stO g a 30 v3, cdW g a 30 c3, evW g a 30 e3, hiO g a h, hrW g a t, stF g a vs, cdF g a cs, evF g a es, prO g b q, caW g b t2, cmF g b ws, sbO g y zz k, baW g zz n f, iaW g (d 2) 110 r2, iaW g (d 3) 110 r3, iaW g (d 4) 110 r4, iaW g (d 5) 880 r5, iaW g (d 6) 200 r6, iaW g (d 7) 60 r7, iaW g (d 8) 124 r8, loW g w lo, doW g w2 dd] (x_pickD [20, 21, 0, 1, 2, 3, 4, 5, 6, 7, 8, 9, 10, 11, 12, 13, 14, 15, 16, 17, 18, 19, 22, 23, 24, 25, 26, 27, 28, 29, 30] 31 rfl rfl rfl) rfl rfl (Nat.le_of_ble_eq_true rfl) ⟨by omega, by omega⟩ dL_law_1520 (x_goD (wss2 := [mdO g d u2.2, iaW g (d 1) 110 r1, ccO g a b y z, stO g a 10 v, cdW g a 10 c, evW g a 10 e, stO g a 20 v2, cdW g a 20 c2, evW g a 20 e2, stO g a 30 v3, cdW g a 30 c3, evW g a 30 e3, hiO g a h, hrW g a t, stF g a vs, cdF g a cs, evF g a es, prO g b q, caW g b t2, cmF g b ws, sbO g y zz k, baW g zz n f, iaW g (d 2) 110 r2, iaW g (d 3) 110 r3, iaW g (d 4) 110 r4, iaW g (d 5) 880 r5, iaW g (d 6) 200 r6, iaW g (d 7) 60 r7, iaW g (d 8) 124 r8, loW g w lo, doW g w2 dd]) (stk2 := [.int u2.1, .int u1]) rfl rfl ?_)
  refine x_icmp_eq (tgt := 2256) C dL_law_1523 (by decide) (fun h3 => ?_) (fun h3 => ?_)
  · have hf := x_t h3 hf
    refine x_perm (wss' := [ccO g a b y z, stO g a 10 v, cdW g a 10 c, evW g a 10 e, stO g a 20 v2, cdW g a 20 c2, evW g a 20 e2, stO g a 30 v3, cdW g a 30 c3, evW g a 30 e3, hiO g a h, hrW g a t, stF g a vs, cdF g a cs, evF g a es, prO g b q, caW g b t2, cmF g b ws, sbO g y zz k, baW g zz n f, mdO g d u2.2, iaW g (d 1) 110 r1, iaW g (d 2) 110 r2, iaW g (d 3) 110 r3, iaW g (d 4) 110 r4, iaW g (d 5) 880 r5, iaW g (d 6) 200 r6, iaW g (d 7) 60 r7, iaW g (d 8) 124 r8, loW g w lo, doW g w2 dd]) (x_pick [2, 3, 4, 5, 6, 7, 8, 9, 10, 11, 12, 13, 14, 15, 16, 17, 18, 19, 20, 21, 0, 1, 22, 23, 24, 25, 26, 27, 28, 29, 30] 31 rfl rfl rfl) ?_
    refine x_locals (lv' := [(0, .ref sb), (1, .ref (a 0)), (2, .ref (d 0)), (3, .ref w), (4, .ref w2), (5, .int i)]) [0, 1, 2, 3, 4, 5] rfl ?_
    refine x_widen (k := cells + 292) (n := slots + 5516) (by omega) (by omega) ?_
    obtain rfl := Option.some.inj hf
    exact kk zz
  · have hf := x_f h3 hf
    cases hf
set_option maxHeartbeats 4000000 in
set_option maxRecDepth 100000 in
theorem c_law_1528 (a : Nat → Nat) (b : Nat → Nat) (y : Nat) (zz : Nat) (n : Nat) (d : Nat → Nat) (w : Nat) (w2 : Nat) (C : CX g RL cL_law 9 A pW sW mW argsW methW c9) (hl : l.stackTraces = false) (hX : va_X sb L xs sW sW.heap) (hbl : sb < sW.heap.size) (hbA : ¬ A sb) (hc : cells + 292 ≤ room_1.cells) (hs : slots + 5516 ≤ room_1.slots) (z : CcT) (v : StS) (c : CdT) (e : EvT) (v2 : StS) (c2 : CdT) (e2 : EvT) (v3 : StS) (c3 : CdT) (e3 : EvT) (h : HiT) (t : Unit) (vs : (Nat → StS)) (cs : (Nat → CdT)) (es : (Nat → EvT)) (q : PrT) (t2 : Unit) (ws : (Nat → CmT)) (k : SbT) (f : (Nat → Int32)) (m : MdT) (r1 : (Nat → Int32)) (r2 : (Nat → Int32)) (r3 : (Nat → Int32)) (r4 : (Nat → Int32)) (r5 : (Nat → Int32)) (r6 : (Nat → Int32)) (r7 : (Nat → Int32)) (r8 : (Nat → Int32)) (lo : (Nat → Int64)) (dd : (Nat → UInt64)) (i : Int32) {u : LwT} (hf : f_law_1528 n L xs z v c e v2 c2 e2 v3 c3 e3 h t vs cs es q t2 ws k f m r1 r2 r3 r4 r5 r6 r7 r8 lo dd i = some u)
    (kk : ∀ zz' : Nat, VW g A 9 pW l eW room_1 sW mW argsW belowW methW c9 (cells + 292) (slots + 5516) Q [ccO g a b y u.1, stO g a 10 u.2.1, cdW g a 10 u.2.2.1, evW g a 10 u.2.2.2.1, stO g a 20 u.2.2.2.2.1, cdW g a 20 u.2.2.2.2.2.1, evW g a 20 u.2.2.2.2.2.2.1, stO g a 30 u.2.2.2.2.2.2.2.1, cdW g a 30 u.2.2.2.2.2.2.2.2.1, evW g a 30 u.2.2.2.2.2.2.2.2.2.1, hiO g a u.2.2.2.2.2.2.2.2.2.2.1, hrW g a u.2.2.2.2.2.2.2.2.2.2.2.1, stF g a u.2.2.2.2.2.2.2.2.2.2.2.2.1, cdF g a u.2.2.2.2.2.2.2.2.2.2.2.2.2.1, evF g a u.2.2.2.2.2.2.2.2.2.2.2.2.2.2.1, prO g b u.2.2.2.2.2.2.2.2.2.2.2.2.2.2.2.1, caW g b u.2.2.2.2.2.2.2.2.2.2.2.2.2.2.2.2.1, cmF g b u.2.2.2.2.2.2.2.2.2.2.2.2.2.2.2.2.2.1, sbO g y zz' u.2.2.2.2.2.2.2.2.2.2.2.2.2.2.2.2.2.2.1, baW g zz' u.2.2.2.2.2.2.2.2.2.2.2.2.2.2.2.2.2.2.2.2.2.2.2.2.2.2.2.2.2.2.2 u.2.2.2.2.2.2.2.2.2.2.2.2.2.2.2.2.2.2.2.1, mdO g d u.2.2.2.2.2.2.2.2.2.2.2.2.2.2.2.2.2.2.2.2.1, iaW g (d 1) 110 u.2.2.2.2.2.2.2.2.2.2.2.2.2.2.2.2.2.2.2.2.2.1, iaW g (d 2) 110 u.2.2.2.2.2.2.2.2.2.2.2.2.2.2.2.2.2.2.2.2.2.2.1, iaW g (d 3) 110 u.2.2.2.2.2.2.2.2.2.2.2.2.2.2.2.2.2.2.2.2.2.2.2.1, iaW g (d 4) 110 u.2.2.2.2.2.2.2.2.2.2.2.2.2.2.2.2.2.2.2.2.2.2.2.2.1, iaW g (d 5) 880 u.2.2.2.2.2.2.2.2.2.2.2.2.2.2.2.2.2.2.2.2.2.2.2.2.2.1, iaW g (d 6) 200 u.2.2.2.2.2.2.2.2.2.2.2.2.2.2.2.2.2.2.2.2.2.2.2.2.2.2.1, iaW g (d 7) 60 u.2.2.2.2.2.2.2.2.2.2.2.2.2.2.2.2.2.2.2.2.2.2.2.2.2.2.2.1, iaW g (d 8) 124 u.2.2.2.2.2.2.2.2.2.2.2.2.2.2.2.2.2.2.2.2.2.2.2.2.2.2.2.2.1, loW g w u.2.2.2.2.2.2.2.2.2.2.2.2.2.2.2.2.2.2.2.2.2.2.2.2.2.2.2.2.2.1, doW g w2 u.2.2.2.2.2.2.2.2.2.2.2.2.2.2.2.2.2.2.2.2.2.2.2.2.2.2.2.2.2.2.1] [(0, .ref sb), (1, .ref (a 0)), (2, .ref (d 0)), (3, .ref w), (4, .ref w2), (5, .int i)] 2256 []) : VW g A 9 pW l eW room_1 sW mW argsW belowW methW c9 cells slots Q [ccO g a b y z, stO g a 10 v, cdW g a 10 c, evW g a 10 e, stO g a 20 v2, cdW g a 20 c2, evW g a 20 e2, stO g a 30 v3, cdW g a 30 c3, evW g a 30 e3, hiO g a h, hrW g a t, stF g a vs, cdF g a cs, evF g a es, prO g b q, caW g b t2, cmF g b ws, sbO g y zz k, baW g zz n f, mdO g d m, iaW g (d 1) 110 r1, iaW g (d 2) 110 r2, iaW g (d 3) 110 r3, iaW g (d 4) 110 r4, iaW g (d 5) 880 r5, iaW g (d 6) 200 r6, iaW g (d 7) 60 r7, iaW g (d 8) 124 r8, loW g w lo, doW g w2 dd] [(0, .ref sb), (1, .ref (a 0)), (2, .ref (d 0)), (3, .ref w), (4, .ref w2), (5, .int i)] 1528 [] := by
  unfold f_law_1528 at hf
  have C : CX g RL cL_law 9 A pW sW mW argsW methW c9 := C
  refine x_aload_n C dL_law_1528 rfl 1 rfl ?_
  obtain ⟨u1, hu1, hf⟩ := x_b hf
  refine x_callV (n := 0) (As := []) (rest := []) C (c_X9_dish g l a b y z v hu1) ⟨⟨wd_393, wd_390, wd_65⟩, ⟨by decide, by decide, by decide⟩, rfl, rfl, Nat.le_of_ble_eq_true rfl, Nat.le_of_ble_eq_true rfl⟩ wd_391 wd_392 ⟨0, 10, _, _, rfl, rfl, rfl⟩ [cdW g a 10 c, evW g a 10 e, stO g a 20 v2, cdW g a 20 c2, evW g a 20 e2, stO g a 30 v3, cdW g a 30 c3, evW g a 30 e3, hiO g a h, hrW g a t, stF g a vs, cdF g a cs, evF g a es, prO g b q, caW g b t2, cmF g b ws, sbO g y zz k, baW g zz n f, mdO g d m, iaW g (d 1) 110 r1, iaW g (d 2) 110 r2, iaW g (d 3) 110 r3, iaW g (d 4) 110 r4, iaW g (d 5) 880 r5, iaW g (d 6) 200 r6, iaW g (d 7) 60 r7, iaW g (d 8) 124 r8, loW g w lo, doW g w2 dd] (x_pickD [0, 1, 2, 3, 4, 5, 6, 7, 8, 9, 10, 11, 12, 13, 14, 15, 16, 17, 18, 19, 20, 21, 22, 23, 24, 25, 26, 27, 28, 29, 30] 31 rfl rfl rfl) rfl rfl (Nat.le_of_ble_eq_true rfl) ⟨by omega, by omega⟩ dL_law_1529 (x_goD (wss2 := [ccO g a b y z, stO g a 10 v, cdW g a 10 c, evW g a 10 e, stO g a 20 v2, cdW g a 20 c2, evW g a 20 e2, stO g a 30 v3, cdW g a 30 c3, evW g a 30 e3, hiO g a h, hrW g a t, stF g a vs, cdF g a cs, evF g a es, prO g b q, caW g b t2, cmF g b ws, sbO g y zz k, baW g zz n f, mdO g d m, iaW g (d 1) 110 r1, iaW g (d 2) 110 r2, iaW g (d 3) 110 r3, iaW g (d 4) 110 r4, iaW g (d 5) 880 r5, iaW g (d 6) 200 r6, iaW g (d 7) 60 r7, iaW g (d 8) 124 r8, loW g w lo, doW g w2 dd]) (stk2 := [.int u1]) rfl rfl ?_)
  refine x_aload_n C dL_law_1532 rfl 2 rfl ?_
  obtain ⟨u2, hu2, hf⟩ := x_b hf
  refine x_callV (n := 0) (As := []) (rest := [.int u1]) C (c_X10_dish g l d m r1 hu2) ⟨⟨wd_1764, wd_1761, wd_78⟩, ⟨by decide, by decide, by decide⟩, rfl, rfl, Nat.le_of_ble_eq_true rfl, Nat.le_of_ble_eq_true rfl⟩ wd_1762 wd_1763 ⟨0, 11, _, _, rfl, rfl, rfl⟩ [ccO g a b y z, stO g a 10 v, cdW g a 10 c, evW g a 10 e, stO g a 20 v2, cdW g a 20 c2, evW g a 20 e2, stO g a 30 v3, cdW g a 30 c3, evW g a 30 e3, hiO g a h, hrW g a t, stF g a vs, cdF g a cs, evF g a es, prO g b q, caW g b t2, cmF g b ws, sbO g y zz k, baW g zz n f, iaW g (d 2) 110 r2, iaW g (d 3) 110 r3, iaW g (d 4) 110 r4, iaW g (d 5) 880 r5, iaW g (d 6) 200 r6, iaW g (d 7) 60 r7, iaW g (d 8) 124 r8, loW g w lo, doW g w2 dd] (x_pickD [20, 21, 0, 1, 2, 3, 4, 5, 6, 7, 8, 9, 10, 11, 12, 13, 14, 15, 16, 17, 18, 19, 22, 23, 24, 25, 26, 27, 28, 29, 30] 31 rfl rfl rfl) rfl rfl (Nat.le_of_ble_eq_true rfl) ⟨by omega, by omega⟩ dL_law_1533 (x_goD (wss2 := [mdO g d u2.2, iaW g (d 1) 110 r1, ccO g a b y z, stO g a 10 v, cdW g a 10 c, evW g a 10 e, stO g a 20 v2, cdW g a 20 c2, evW g a 20 e2, stO g a 30 v3, cdW g a 30 c3, evW g a 30 e3, hiO g a h, hrW g a t, stF g a vs, cdF g a cs, evF g a es, prO g b q, caW g b t2, cmF g b ws, sbO g y zz k, baW g zz n f, iaW g (d 2) 110 r2, iaW g (d 3) 110 r3, iaW g (d 4) 110 r4, iaW g (d 5) 880 r5, iaW g (d 6) 200 r6, iaW g (d 7) 60 r7, iaW g (d 8) 124 r8, loW g w lo, doW g w2 dd]) (stk2 := [.int u2.1, .int u1]) rfl rfl ?_)
  refine x_icmp_eq (tgt := 2256) C dL_law_1536 (by decide) (fun h3 => ?_) (fun h3 => ?_)
  · have hf := x_t h3 hf
    refine x_perm (wss' := [ccO g a b y z, stO g a 10 v, cdW g a 10 c, evW g a 10 e, stO g a 20 v2, cdW g a 20 c2, evW g a 20 e2, stO g a 30 v3, cdW g a 30 c3, evW g a 30 e3, hiO g a h, hrW g a t, stF g a vs, cdF g a cs, evF g a es, prO g b q, caW g b t2, cmF g b ws, sbO g y zz k, baW g zz n f, mdO g d u2.2, iaW g (d 1) 110 r1, iaW g (d 2) 110 r2, iaW g (d 3) 110 r3, iaW g (d 4) 110 r4, iaW g (d 5) 880 r5, iaW g (d 6) 200 r6, iaW g (d 7) 60 r7, iaW g (d 8) 124 r8, loW g w lo, doW g w2 dd]) (x_pick [2, 3, 4, 5, 6, 7, 8, 9, 10, 11, 12, 13, 14, 15, 16, 17, 18, 19, 20, 21, 0, 1, 22, 23, 24, 25, 26, 27, 28, 29, 30] 31 rfl rfl rfl) ?_
    refine x_locals (lv' := [(0, .ref sb), (1, .ref (a 0)), (2, .ref (d 0)), (3, .ref w), (4, .ref w2), (5, .int i)]) [0, 1, 2, 3, 4, 5] rfl ?_
    refine x_widen (k := cells + 292) (n := slots + 5516) (by omega) (by omega) ?_
    obtain rfl := Option.some.inj hf
    exact kk zz
  · have hf := x_f h3 hf
    cases hf
set_option maxHeartbeats 4000000 in
set_option maxRecDepth 100000 in
theorem c_law_1541 (a : Nat → Nat) (b : Nat → Nat) (y : Nat) (zz : Nat) (n : Nat) (d : Nat → Nat) (w : Nat) (w2 : Nat) (C : CX g RL cL_law 9 A pW sW mW argsW methW c9) (hl : l.stackTraces = false) (hX : va_X sb L xs sW sW.heap) (hbl : sb < sW.heap.size) (hbA : ¬ A sb) (hc : cells + 292 ≤ room_1.cells) (hs : slots + 5516 ≤ room_1.slots) (z : CcT) (v : StS) (c : CdT) (e : EvT) (v2 : StS) (c2 : CdT) (e2 : EvT) (v3 : StS) (c3 : CdT) (e3 : EvT) (h : HiT) (t : Unit) (vs : (Nat → StS)) (cs : (Nat → CdT)) (es : (Nat → EvT)) (q : PrT) (t2 : Unit) (ws : (Nat → CmT)) (k : SbT) (f : (Nat → Int32)) (m : MdT) (r1 : (Nat → Int32)) (r2 : (Nat → Int32)) (r3 : (Nat → Int32)) (r4 : (Nat → Int32)) (r5 : (Nat → Int32)) (r6 : (Nat → Int32)) (r7 : (Nat → Int32)) (r8 : (Nat → Int32)) (lo : (Nat → Int64)) (dd : (Nat → UInt64)) (i : Int32) {u : LwT} (hf : f_law_1541 n L xs z v c e v2 c2 e2 v3 c3 e3 h t vs cs es q t2 ws k f m r1 r2 r3 r4 r5 r6 r7 r8 lo dd i = some u)
    (kk : ∀ zz' : Nat, VW g A 9 pW l eW room_1 sW mW argsW belowW methW c9 (cells + 292) (slots + 5516) Q [ccO g a b y u.1, stO g a 10 u.2.1, cdW g a 10 u.2.2.1, evW g a 10 u.2.2.2.1, stO g a 20 u.2.2.2.2.1, cdW g a 20 u.2.2.2.2.2.1, evW g a 20 u.2.2.2.2.2.2.1, stO g a 30 u.2.2.2.2.2.2.2.1, cdW g a 30 u.2.2.2.2.2.2.2.2.1, evW g a 30 u.2.2.2.2.2.2.2.2.2.1, hiO g a u.2.2.2.2.2.2.2.2.2.2.1, hrW g a u.2.2.2.2.2.2.2.2.2.2.2.1, stF g a u.2.2.2.2.2.2.2.2.2.2.2.2.1, cdF g a u.2.2.2.2.2.2.2.2.2.2.2.2.2.1, evF g a u.2.2.2.2.2.2.2.2.2.2.2.2.2.2.1, prO g b u.2.2.2.2.2.2.2.2.2.2.2.2.2.2.2.1, caW g b u.2.2.2.2.2.2.2.2.2.2.2.2.2.2.2.2.1, cmF g b u.2.2.2.2.2.2.2.2.2.2.2.2.2.2.2.2.2.1, sbO g y zz' u.2.2.2.2.2.2.2.2.2.2.2.2.2.2.2.2.2.2.1, baW g zz' u.2.2.2.2.2.2.2.2.2.2.2.2.2.2.2.2.2.2.2.2.2.2.2.2.2.2.2.2.2.2.2 u.2.2.2.2.2.2.2.2.2.2.2.2.2.2.2.2.2.2.2.1, mdO g d u.2.2.2.2.2.2.2.2.2.2.2.2.2.2.2.2.2.2.2.2.1, iaW g (d 1) 110 u.2.2.2.2.2.2.2.2.2.2.2.2.2.2.2.2.2.2.2.2.2.1, iaW g (d 2) 110 u.2.2.2.2.2.2.2.2.2.2.2.2.2.2.2.2.2.2.2.2.2.2.1, iaW g (d 3) 110 u.2.2.2.2.2.2.2.2.2.2.2.2.2.2.2.2.2.2.2.2.2.2.2.1, iaW g (d 4) 110 u.2.2.2.2.2.2.2.2.2.2.2.2.2.2.2.2.2.2.2.2.2.2.2.2.1, iaW g (d 5) 880 u.2.2.2.2.2.2.2.2.2.2.2.2.2.2.2.2.2.2.2.2.2.2.2.2.2.1, iaW g (d 6) 200 u.2.2.2.2.2.2.2.2.2.2.2.2.2.2.2.2.2.2.2.2.2.2.2.2.2.2.1, iaW g (d 7) 60 u.2.2.2.2.2.2.2.2.2.2.2.2.2.2.2.2.2.2.2.2.2.2.2.2.2.2.2.1, iaW g (d 8) 124 u.2.2.2.2.2.2.2.2.2.2.2.2.2.2.2.2.2.2.2.2.2.2.2.2.2.2.2.2.1, loW g w u.2.2.2.2.2.2.2.2.2.2.2.2.2.2.2.2.2.2.2.2.2.2.2.2.2.2.2.2.2.1, doW g w2 u.2.2.2.2.2.2.2.2.2.2.2.2.2.2.2.2.2.2.2.2.2.2.2.2.2.2.2.2.2.2.1] [(0, .ref sb), (1, .ref (a 0)), (2, .ref (d 0)), (3, .ref w), (4, .ref w2), (5, .int i)] 2256 []) : VW g A 9 pW l eW room_1 sW mW argsW belowW methW c9 cells slots Q [ccO g a b y z, stO g a 10 v, cdW g a 10 c, evW g a 10 e, stO g a 20 v2, cdW g a 20 c2, evW g a 20 e2, stO g a 30 v3, cdW g a 30 c3, evW g a 30 e3, hiO g a h, hrW g a t, stF g a vs, cdF g a cs, evF g a es, prO g b q, caW g b t2, cmF g b ws, sbO g y zz k, baW g zz n f, mdO g d m, iaW g (d 1) 110 r1, iaW g (d 2) 110 r2, iaW g (d 3) 110 r3, iaW g (d 4) 110 r4, iaW g (d 5) 880 r5, iaW g (d 6) 200 r6, iaW g (d 7) 60 r7, iaW g (d 8) 124 r8, loW g w lo, doW g w2 dd] [(0, .ref sb), (1, .ref (a 0)), (2, .ref (d 0)), (3, .ref w), (4, .ref w2), (5, .int i)] 1541 [] := by
  unfold f_law_1541 at hf
  have C : CX g RL cL_law 9 A pW sW mW argsW methW c9 := C
  refine x_aload_n C dL_law_1541 rfl 1 rfl ?_
  obtain ⟨u1, hu1, hf⟩ := x_b hf
  refine x_callV (n := 0) (As := []) (rest := []) C (c_X9_minutesUntilDark g l a b y z v c e v2 c2 e2 hu1) ⟨⟨wd_397, wd_394, wd_65⟩, ⟨by decide, by decide, by decide⟩, rfl, rfl, Nat.le_of_ble_eq_true rfl, Nat.le_of_ble_eq_true rfl⟩ wd_395 wd_396 ⟨0, 10, _, _, rfl, rfl, rfl⟩ [stO g a 30 v3, cdW g a 30 c3, evW g a 30 e3, hiO g a h, hrW g a t, stF g a vs, cdF g a cs, evF g a es, prO g b q, caW g b t2, cmF g b ws, sbO g y zz k, baW g zz n f, mdO g d m, iaW g (d 1) 110 r1, iaW g (d 2) 110 r2, iaW g (d 3) 110 r3, iaW g (d 4) 110 r4, iaW g (d 5) 880 r5, iaW g (d 6) 200 r6, iaW g (d 7) 60 r7, iaW g (d 8) 124 r8, loW g w lo, doW g w2 dd] (x_pickD [0, 1, 2, 3, 4, 5, 6, 7, 8, 9, 10, 11, 12, 13, 14, 15, 16, 17, 18, 19, 20, 21, 22, 23, 24, 25, 26, 27, 28, 29, 30] 31 rfl rfl rfl) rfl rfl (Nat.le_of_ble_eq_true rfl) ⟨by omega, by omega⟩ dL_law_1542 (x_goD (wss2 := [ccO g a b y z, stO g a 10 v, cdW g a 10 c, evW g a 10 e, stO g a 20 u1.2.1, cdW g a 20 u1.2.2.1, evW g a 20 u1.2.2.2, stO g a 30 v3, cdW g a 30 c3, evW g a 30 e3, hiO g a h, hrW g a t, stF g a vs, cdF g a cs, evF g a es, prO g b q, caW g b t2, cmF g b ws, sbO g y zz k, baW g zz n f, mdO g d m, iaW g (d 1) 110 r1, iaW g (d 2) 110 r2, iaW g (d 3) 110 r3, iaW g (d 4) 110 r4, iaW g (d 5) 880 r5, iaW g (d 6) 200 r6, iaW g (d 7) 60 r7, iaW g (d 8) 124 r8, loW g w lo, doW g w2 dd]) (stk2 := [.int u1.1]) rfl rfl ?_)
  refine x_aload_n C dL_law_1545 rfl 2 rfl ?_
  obtain ⟨u2, hu2, hf⟩ := x_b hf
  refine x_callV (n := 0) (As := []) (rest := [.int u1.1]) C (c_X10_minutesUntilDark g l d m r1 r3 hu2) ⟨⟨wd_1768, wd_1765, wd_78⟩, ⟨by decide, by decide, by decide⟩, rfl, rfl, Nat.le_of_ble_eq_true rfl, Nat.le_of_ble_eq_true rfl⟩ wd_1766 wd_1767 ⟨0, 11, _, _, rfl, rfl, rfl⟩ [ccO g a b y z, stO g a 10 v, cdW g a 10 c, evW g a 10 e, stO g a 20 u1.2.1, cdW g a 20 u1.2.2.1, evW g a 20 u1.2.2.2, stO g a 30 v3, cdW g a 30 c3, evW g a 30 e3, hiO g a h, hrW g a t, stF g a vs, cdF g a cs, evF g a es, prO g b q, caW g b t2, cmF g b ws, sbO g y zz k, baW g zz n f, iaW g (d 2) 110 r2, iaW g (d 4) 110 r4, iaW g (d 5) 880 r5, iaW g (d 6) 200 r6, iaW g (d 7) 60 r7, iaW g (d 8) 124 r8, loW g w lo, doW g w2 dd] (x_pickD [20, 21, 23, 0, 1, 2, 3, 4, 5, 6, 7, 8, 9, 10, 11, 12, 13, 14, 15, 16, 17, 18, 19, 22, 24, 25, 26, 27, 28, 29, 30] 31 rfl rfl rfl) rfl rfl (Nat.le_of_ble_eq_true rfl) ⟨by omega, by omega⟩ dL_law_1546 (x_goD (wss2 := [mdO g d u2.2.1, iaW g (d 1) 110 u2.2.2.1, iaW g (d 3) 110 u2.2.2.2, ccO g a b y z, stO g a 10 v, cdW g a 10 c, evW g a 10 e, stO g a 20 u1.2.1, cdW g a 20 u1.2.2.1, evW g a 20 u1.2.2.2, stO g a 30 v3, cdW g a 30 c3, evW g a 30 e3, hiO g a h, hrW g a t, stF g a vs, cdF g a cs, evF g a es, prO g b q, caW g b t2, cmF g b ws, sbO g y zz k, baW g zz n f, iaW g (d 2) 110 r2, iaW g (d 4) 110 r4, iaW g (d 5) 880 r5, iaW g (d 6) 200 r6, iaW g (d 7) 60 r7, iaW g (d 8) 124 r8, loW g w lo, doW g w2 dd]) (stk2 := [.int u2.1, .int u1.1]) rfl rfl ?_)
  refine x_icmp_eq (tgt := 2256) C dL_law_1549 (by decide) (fun h3 => ?_) (fun h3 => ?_)
  · have hf := x_t h3 hf
    refine x_perm (wss' := [ccO g a b y z, stO g a 10 v, cdW g a 10 c, evW g a 10 e, stO g a 20 u1.2.1, cdW g a 20 u1.2.2.1, evW g a 20 u1.2.2.2, stO g a 30 v3, cdW g a 30 c3, evW g a 30 e3, hiO g a h, hrW g a t, stF g a vs, cdF g a cs, evF g a es, prO g b q, caW g b t2, cmF g b ws, sbO g y zz k, baW g zz n f, mdO g d u2.2.1, iaW g (d 1) 110 u2.2.2.1, iaW g (d 2) 110 r2, iaW g (d 3) 110 u2.2.2.2, iaW g (d 4) 110 r4, iaW g (d 5) 880 r5, iaW g (d 6) 200 r6, iaW g (d 7) 60 r7, iaW g (d 8) 124 r8, loW g w lo, doW g w2 dd]) (x_pick [3, 4, 5, 6, 7, 8, 9, 10, 11, 12, 13, 14, 15, 16, 17, 18, 19, 20, 21, 22, 0, 1, 23, 2, 24, 25, 26, 27, 28, 29, 30] 31 rfl rfl rfl) ?_
    refine x_locals (lv' := [(0, .ref sb), (1, .ref (a 0)), (2, .ref (d 0)), (3, .ref w), (4, .ref w2), (5, .int i)]) [0, 1, 2, 3, 4, 5] rfl ?_
    refine x_widen (k := cells + 292) (n := slots + 5516) (by omega) (by omega) ?_
    obtain rfl := Option.some.inj hf
    exact kk zz
  · have hf := x_f h3 hf
    cases hf
set_option maxHeartbeats 4000000 in
set_option maxRecDepth 100000 in
theorem c_law_1554 (a : Nat → Nat) (b : Nat → Nat) (y : Nat) (zz : Nat) (n : Nat) (d : Nat → Nat) (w : Nat) (w2 : Nat) (C : CX g RL cL_law 9 A pW sW mW argsW methW c9) (hl : l.stackTraces = false) (hX : va_X sb L xs sW sW.heap) (hbl : sb < sW.heap.size) (hbA : ¬ A sb) (hc : cells + 292 ≤ room_1.cells) (hs : slots + 5516 ≤ room_1.slots) (z : CcT) (v : StS) (c : CdT) (e : EvT) (v2 : StS) (c2 : CdT) (e2 : EvT) (v3 : StS) (c3 : CdT) (e3 : EvT) (h : HiT) (t : Unit) (vs : (Nat → StS)) (cs : (Nat → CdT)) (es : (Nat → EvT)) (q : PrT) (t2 : Unit) (ws : (Nat → CmT)) (k : SbT) (f : (Nat → Int32)) (m : MdT) (r1 : (Nat → Int32)) (r2 : (Nat → Int32)) (r3 : (Nat → Int32)) (r4 : (Nat → Int32)) (r5 : (Nat → Int32)) (r6 : (Nat → Int32)) (r7 : (Nat → Int32)) (r8 : (Nat → Int32)) (lo : (Nat → Int64)) (dd : (Nat → UInt64)) (i : Int32) {u : LwT} (hf : f_law_1554 n L xs z v c e v2 c2 e2 v3 c3 e3 h t vs cs es q t2 ws k f m r1 r2 r3 r4 r5 r6 r7 r8 lo dd i = some u)
    (kk : ∀ zz' : Nat, VW g A 9 pW l eW room_1 sW mW argsW belowW methW c9 (cells + 292) (slots + 5516) Q [ccO g a b y u.1, stO g a 10 u.2.1, cdW g a 10 u.2.2.1, evW g a 10 u.2.2.2.1, stO g a 20 u.2.2.2.2.1, cdW g a 20 u.2.2.2.2.2.1, evW g a 20 u.2.2.2.2.2.2.1, stO g a 30 u.2.2.2.2.2.2.2.1, cdW g a 30 u.2.2.2.2.2.2.2.2.1, evW g a 30 u.2.2.2.2.2.2.2.2.2.1, hiO g a u.2.2.2.2.2.2.2.2.2.2.1, hrW g a u.2.2.2.2.2.2.2.2.2.2.2.1, stF g a u.2.2.2.2.2.2.2.2.2.2.2.2.1, cdF g a u.2.2.2.2.2.2.2.2.2.2.2.2.2.1, evF g a u.2.2.2.2.2.2.2.2.2.2.2.2.2.2.1, prO g b u.2.2.2.2.2.2.2.2.2.2.2.2.2.2.2.1, caW g b u.2.2.2.2.2.2.2.2.2.2.2.2.2.2.2.2.1, cmF g b u.2.2.2.2.2.2.2.2.2.2.2.2.2.2.2.2.2.1, sbO g y zz' u.2.2.2.2.2.2.2.2.2.2.2.2.2.2.2.2.2.2.1, baW g zz' u.2.2.2.2.2.2.2.2.2.2.2.2.2.2.2.2.2.2.2.2.2.2.2.2.2.2.2.2.2.2.2 u.2.2.2.2.2.2.2.2.2.2.2.2.2.2.2.2.2.2.2.1, mdO g d u.2.2.2.2.2.2.2.2.2.2.2.2.2.2.2.2.2.2.2.2.1, iaW g (d 1) 110 u.2.2.2.2.2.2.2.2.2.2.2.2.2.2.2.2.2.2.2.2.2.1, iaW g (d 2) 110 u.2.2.2.2.2.2.2.2.2.2.2.2.2.2.2.2.2.2.2.2.2.2.1, iaW g (d 3) 110 u.2.2.2.2.2.2.2.2.2.2.2.2.2.2.2.2.2.2.2.2.2.2.2.1, iaW g (d 4) 110 u.2.2.2.2.2.2.2.2.2.2.2.2.2.2.2.2.2.2.2.2.2.2.2.2.1, iaW g (d 5) 880 u.2.2.2.2.2.2.2.2.2.2.2.2.2.2.2.2.2.2.2.2.2.2.2.2.2.1, iaW g (d 6) 200 u.2.2.2.2.2.2.2.2.2.2.2.2.2.2.2.2.2.2.2.2.2.2.2.2.2.2.1, iaW g (d 7) 60 u.2.2.2.2.2.2.2.2.2.2.2.2.2.2.2.2.2.2.2.2.2.2.2.2.2.2.2.1, iaW g (d 8) 124 u.2.2.2.2.2.2.2.2.2.2.2.2.2.2.2.2.2.2.2.2.2.2.2.2.2.2.2.2.1, loW g w u.2.2.2.2.2.2.2.2.2.2.2.2.2.2.2.2.2.2.2.2.2.2.2.2.2.2.2.2.2.1, doW g w2 u.2.2.2.2.2.2.2.2.2.2.2.2.2.2.2.2.2.2.2.2.2.2.2.2.2.2.2.2.2.2.1] [(0, .ref sb), (1, .ref (a 0)), (2, .ref (d 0)), (3, .ref w), (4, .ref w2), (5, .int i)] 2256 []) : VW g A 9 pW l eW room_1 sW mW argsW belowW methW c9 cells slots Q [ccO g a b y z, stO g a 10 v, cdW g a 10 c, evW g a 10 e, stO g a 20 v2, cdW g a 20 c2, evW g a 20 e2, stO g a 30 v3, cdW g a 30 c3, evW g a 30 e3, hiO g a h, hrW g a t, stF g a vs, cdF g a cs, evF g a es, prO g b q, caW g b t2, cmF g b ws, sbO g y zz k, baW g zz n f, mdO g d m, iaW g (d 1) 110 r1, iaW g (d 2) 110 r2, iaW g (d 3) 110 r3, iaW g (d 4) 110 r4, iaW g (d 5) 880 r5, iaW g (d 6) 200 r6, iaW g (d 7) 60 r7, iaW g (d 8) 124 r8, loW g w lo, doW g w2 dd] [(0, .ref sb), (1, .ref (a 0)), (2, .ref (d 0)), (3, .ref w), (4, .ref w2), (5, .int i)] 1554 [] := by
  unfold f_law_1554 at hf
  have C : CX g RL cL_law 9 A pW sW mW argsW methW c9 := C
  refine x_aload_n C dL_law_1554 rfl 1 rfl ?_
  obtain ⟨u1, hu1, hf⟩ := x_b hf
  refine x_callV (n := 0) (As := []) (rest := []) C (c_X9_minutesUntilDarkByLeaps g l a b y z v c e v2 c2 e2 hu1) ⟨⟨wd_462, wd_459, wd_65⟩, ⟨by decide, by decide, by decide⟩, rfl, rfl, Nat.le_of_ble_eq_true rfl, Nat.le_of_ble_eq_true rfl⟩ wd_460 wd_461 ⟨0, 10, _, _, rfl, rfl, rfl⟩ [stO g a 30 v3, cdW g a 30 c3, evW g a 30 e3, hiO g a h, hrW g a t, stF g a vs, cdF g a cs, evF g a es, prO g b q, caW g b t2, cmF g b ws, sbO g y zz k, baW g zz n f, mdO g d m, iaW g (d 1) 110 r1, iaW g (d 2) 110 r2, iaW g (d 3) 110 r3, iaW g (d 4) 110 r4, iaW g (d 5) 880 r5, iaW g (d 6) 200 r6, iaW g (d 7) 60 r7, iaW g (d 8) 124 r8, loW g w lo, doW g w2 dd] (x_pickD [0, 1, 2, 3, 4, 5, 6, 7, 8, 9, 10, 11, 12, 13, 14, 15, 16, 17, 18, 19, 20, 21, 22, 23, 24, 25, 26, 27, 28, 29, 30] 31 rfl rfl rfl) rfl rfl (Nat.le_of_ble_eq_true rfl) ⟨by omega, by omega⟩ dL_law_1555 (x_goD (wss2 := [ccO g a b y z, stO g a 10 v, cdW g a 10 c, evW g a 10 e, stO g a 20 u1.2.1, cdW g a 20 u1.2.2.1, evW g a 20 u1.2.2.2, stO g a 30 v3, cdW g a 30 c3, evW g a 30 e3, hiO g a h, hrW g a t, stF g a vs, cdF g a cs, evF g a es, prO g b q, caW g b t2, cmF g b ws, sbO g y zz k, baW g zz n f, mdO g d m, iaW g (d 1) 110 r1, iaW g (d 2) 110 r2, iaW g (d 3) 110 r3, iaW g (d 4) 110 r4, iaW g (d 5) 880 r5, iaW g (d 6) 200 r6, iaW g (d 7) 60 r7, iaW g (d 8) 124 r8, loW g w lo, doW g w2 dd]) (stk2 := [.int u1.1]) rfl rfl ?_)
  refine x_aload_n C dL_law_1558 rfl 2 rfl ?_
  obtain ⟨u2, hu2, hf⟩ := x_b hf
  refine x_callV (n := 0) (As := []) (rest := [.int u1.1]) C (c_X10_minutesUntilDarkByLeaps g l d m r1 r3 hu2) ⟨⟨wd_1772, wd_1769, wd_78⟩, ⟨by decide, by decide, by decide⟩, rfl, rfl, Nat.le_of_ble_eq_true rfl, Nat.le_of_ble_eq_true rfl⟩ wd_1770 wd_1771 ⟨0, 11, _, _, rfl, rfl, rfl⟩ [ccO g a b y z, stO g a 10 v, cdW g a 10 c, evW g a 10 e, stO g a 20 u1.2.1, cdW g a 20 u1.2.2.1, evW g a 20 u1.2.2.2, stO g a 30 v3, cdW g a 30 c3, evW g a 30 e3, hiO g a h, hrW g a t, stF g a vs, cdF g a cs, evF g a es, prO g b q, caW g b t2, cmF g b ws, sbO g y zz k, baW g zz n f, iaW g (d 2) 110 r2, iaW g (d 4) 110 r4, iaW g (d 5) 880 r5, iaW g (d 6) 200 r6, iaW g (d 7) 60 r7, iaW g (d 8) 124 r8, loW g w lo, doW g w2 dd] (x_pickD [20, 21, 23, 0, 1, 2, 3, 4, 5, 6, 7, 8, 9, 10, 11, 12, 13, 14, 15, 16, 17, 18, 19, 22, 24, 25, 26, 27, 28, 29, 30] 31 rfl rfl rfl) rfl rfl (Nat.le_of_ble_eq_true rfl) ⟨by omega, by omega⟩ dL_law_1559 (x_goD (wss2 := [mdO g d u2.2.1, iaW g (d 1) 110 u2.2.2.1, iaW g (d 3) 110 u2.2.2.2, ccO g a b y z, stO g a 10 v, cdW g a 10 c, evW g a 10 e, stO g a 20 u1.2.1, cdW g a 20 u1.2.2.1, evW g a 20 u1.2.2.2, stO g a 30 v3, cdW g a 30 c3, evW g a 30 e3, hiO g a h, hrW g a t, stF g a vs, cdF g a cs, evF g a es, prO g b q, caW g b t2, cmF g b ws, sbO g y zz k, baW g zz n f, iaW g (d 2) 110 r2, iaW g (d 4) 110 r4, iaW g (d 5) 880 r5, iaW g (d 6) 200 r6, iaW g (d 7) 60 r7, iaW g (d 8) 124 r8, loW g w lo, doW g w2 dd]) (stk2 := [.int u2.1, .int u1.1]) rfl rfl ?_)
  refine x_icmp_eq (tgt := 2256) C dL_law_1562 (by decide) (fun h3 => ?_) (fun h3 => ?_)
  · have hf := x_t h3 hf
    refine x_perm (wss' := [ccO g a b y z, stO g a 10 v, cdW g a 10 c, evW g a 10 e, stO g a 20 u1.2.1, cdW g a 20 u1.2.2.1, evW g a 20 u1.2.2.2, stO g a 30 v3, cdW g a 30 c3, evW g a 30 e3, hiO g a h, hrW g a t, stF g a vs, cdF g a cs, evF g a es, prO g b q, caW g b t2, cmF g b ws, sbO g y zz k, baW g zz n f, mdO g d u2.2.1, iaW g (d 1) 110 u2.2.2.1, iaW g (d 2) 110 r2, iaW g (d 3) 110 u2.2.2.2, iaW g (d 4) 110 r4, iaW g (d 5) 880 r5, iaW g (d 6) 200 r6, iaW g (d 7) 60 r7, iaW g (d 8) 124 r8, loW g w lo, doW g w2 dd]) (x_pick [3, 4, 5, 6, 7, 8, 9, 10, 11, 12, 13, 14, 15, 16, 17, 18, 19, 20, 21, 22, 0, 1, 23, 2, 24, 25, 26, 27, 28, 29, 30] 31 rfl rfl rfl) ?_
    refine x_locals (lv' := [(0, .ref sb), (1, .ref (a 0)), (2, .ref (d 0)), (3, .ref w), (4, .ref w2), (5, .int i)]) [0, 1, 2, 3, 4, 5] rfl ?_
    refine x_widen (k := cells + 292) (n := slots + 5516) (by omega) (by omega) ?_
    obtain rfl := Option.some.inj hf
    exact kk zz
  · have hf := x_f h3 hf
    cases hf
set_option maxHeartbeats 4000000 in
set_option maxRecDepth 100000 in
theorem c_law_1567 (a : Nat → Nat) (b : Nat → Nat) (y : Nat) (zz : Nat) (n : Nat) (d : Nat → Nat) (w : Nat) (w2 : Nat) (C : CX g RL cL_law 9 A pW sW mW argsW methW c9) (hl : l.stackTraces = false) (hX : va_X sb L xs sW sW.heap) (hbl : sb < sW.heap.size) (hbA : ¬ A sb) (hc : cells + 292 ≤ room_1.cells) (hs : slots + 5516 ≤ room_1.slots) (z : CcT) (v : StS) (c : CdT) (e : EvT) (v2 : StS) (c2 : CdT) (e2 : EvT) (v3 : StS) (c3 : CdT) (e3 : EvT) (h : HiT) (t : Unit) (vs : (Nat → StS)) (cs : (Nat → CdT)) (es : (Nat → EvT)) (q : PrT) (t2 : Unit) (ws : (Nat → CmT)) (k : SbT) (f : (Nat → Int32)) (m : MdT) (r1 : (Nat → Int32)) (r2 : (Nat → Int32)) (r3 : (Nat → Int32)) (r4 : (Nat → Int32)) (r5 : (Nat → Int32)) (r6 : (Nat → Int32)) (r7 : (Nat → Int32)) (r8 : (Nat → Int32)) (lo : (Nat → Int64)) (dd : (Nat → UInt64)) (i : Int32) {u : LwT} (hf : f_law_1567 n L xs z v c e v2 c2 e2 v3 c3 e3 h t vs cs es q t2 ws k f m r1 r2 r3 r4 r5 r6 r7 r8 lo dd i = some u)
    (kk : ∀ zz' : Nat, VW g A 9 pW l eW room_1 sW mW argsW belowW methW c9 (cells + 292) (slots + 5516) Q [ccO g a b y u.1, stO g a 10 u.2.1, cdW g a 10 u.2.2.1, evW g a 10 u.2.2.2.1, stO g a 20 u.2.2.2.2.1, cdW g a 20 u.2.2.2.2.2.1, evW g a 20 u.2.2.2.2.2.2.1, stO g a 30 u.2.2.2.2.2.2.2.1, cdW g a 30 u.2.2.2.2.2.2.2.2.1, evW g a 30 u.2.2.2.2.2.2.2.2.2.1, hiO g a u.2.2.2.2.2.2.2.2.2.2.1, hrW g a u.2.2.2.2.2.2.2.2.2.2.2.1, stF g a u.2.2.2.2.2.2.2.2.2.2.2.2.1, cdF g a u.2.2.2.2.2.2.2.2.2.2.2.2.2.1, evF g a u.2.2.2.2.2.2.2.2.2.2.2.2.2.2.1, prO g b u.2.2.2.2.2.2.2.2.2.2.2.2.2.2.2.1, caW g b u.2.2.2.2.2.2.2.2.2.2.2.2.2.2.2.2.1, cmF g b u.2.2.2.2.2.2.2.2.2.2.2.2.2.2.2.2.2.1, sbO g y zz' u.2.2.2.2.2.2.2.2.2.2.2.2.2.2.2.2.2.2.1, baW g zz' u.2.2.2.2.2.2.2.2.2.2.2.2.2.2.2.2.2.2.2.2.2.2.2.2.2.2.2.2.2.2.2 u.2.2.2.2.2.2.2.2.2.2.2.2.2.2.2.2.2.2.2.1, mdO g d u.2.2.2.2.2.2.2.2.2.2.2.2.2.2.2.2.2.2.2.2.1, iaW g (d 1) 110 u.2.2.2.2.2.2.2.2.2.2.2.2.2.2.2.2.2.2.2.2.2.1, iaW g (d 2) 110 u.2.2.2.2.2.2.2.2.2.2.2.2.2.2.2.2.2.2.2.2.2.2.1, iaW g (d 3) 110 u.2.2.2.2.2.2.2.2.2.2.2.2.2.2.2.2.2.2.2.2.2.2.2.1, iaW g (d 4) 110 u.2.2.2.2.2.2.2.2.2.2.2.2.2.2.2.2.2.2.2.2.2.2.2.2.1, iaW g (d 5) 880 u.2.2.2.2.2.2.2.2.2.2.2.2.2.2.2.2.2.2.2.2.2.2.2.2.2.1, iaW g (d 6) 200 u.2.2.2.2.2.2.2.2.2.2.2.2.2.2.2.2.2.2.2.2.2.2.2.2.2.2.1, iaW g (d 7) 60 u.2.2.2.2.2.2.2.2.2.2.2.2.2.2.2.2.2.2.2.2.2.2.2.2.2.2.2.1, iaW g (d 8) 124 u.2.2.2.2.2.2.2.2.2.2.2.2.2.2.2.2.2.2.2.2.2.2.2.2.2.2.2.2.1, loW g w u.2.2.2.2.2.2.2.2.2.2.2.2.2.2.2.2.2.2.2.2.2.2.2.2.2.2.2.2.2.1, doW g w2 u.2.2.2.2.2.2.2.2.2.2.2.2.2.2.2.2.2.2.2.2.2.2.2.2.2.2.2.2.2.2.1] [(0, .ref sb), (1, .ref (a 0)), (2, .ref (d 0)), (3, .ref w), (4, .ref w2), (5, .int i)] 2256 []) : VW g A 9 pW l eW room_1 sW mW argsW belowW methW c9 cells slots Q [ccO g a b y z, stO g a 10 v, cdW g a 10 c, evW g a 10 e, stO g a 20 v2, cdW g a 20 c2, evW g a 20 e2, stO g a 30 v3, cdW g a 30 c3, evW g a 30 e3, hiO g a h, hrW g a t, stF g a vs, cdF g a cs, evF g a es, prO g b q, caW g b t2, cmF g b ws, sbO g y zz k, baW g zz n f, mdO g d m, iaW g (d 1) 110 r1, iaW g (d 2) 110 r2, iaW g (d 3) 110 r3, iaW g (d 4) 110 r4, iaW g (d 5) 880 r5, iaW g (d 6) 200 r6, iaW g (d 7) 60 r7, iaW g (d 8) 124 r8, loW g w lo, doW g w2 dd] [(0, .ref sb), (1, .ref (a 0)), (2, .ref (d 0)), (3, .ref w), (4, .ref w2), (5, .int i)] 1567 [] := by
  unfold f_law_1567 at hf
  have C : CX g RL cL_law 9 A pW sW mW argsW methW c9 := C
  refine x_aload_n C dL_law_1567 rfl 1 rfl ?_
  refine x_aload_n C dL_law_1568 rfl 3 rfl ?_
  obtain ⟨u1, hu1, hf⟩ := x_b hf
  refine x_hcallS (n := 2) (As := [.ref (a 0), .ref w]) (rest := []) C (c_L_lastCandle g l hl a b y w z v lo hu1) ⟨⟨wd_1234, wd_1232, wd_64⟩, ⟨by decide, by decide, by decide⟩, rfl, rfl, Nat.le_of_ble_eq_true rfl, Nat.le_of_ble_eq_true rfl⟩ wd_1233 [cdW g a 10 c, evW g a 10 e, stO g a 20 v2, cdW g a 20 c2, evW g a 20 e2, stO g a 30 v3, cdW g a 30 c3, evW g a 30 e3, hiO g a h, hrW g a t, stF g a vs, cdF g a cs, evF g a es, prO g b q, caW g b t2, cmF g b ws, sbO g y zz k, baW g zz n f, mdO g d m, iaW g (d 1) 110 r1, iaW g (d 2) 110 r2, iaW g (d 3) 110 r3, iaW g (d 4) 110 r4, iaW g (d 5) 880 r5, iaW g (d 6) 200 r6, iaW g (d 7) 60 r7, iaW g (d 8) 124 r8, doW g w2 dd] (x_pickD [0, 1, 29, 2, 3, 4, 5, 6, 7, 8, 9, 10, 11, 12, 13, 14, 15, 16, 17, 18, 19, 20, 21, 22, 23, 24, 25, 26, 27, 28, 30] 31 rfl rfl rfl) rfl rfl (Nat.le_of_ble_eq_true rfl) ⟨by omega, by omega⟩ dL_law_1569 (fun v9 w9 hQ9 => ?_)
  obtain ⟨rfl, rfl⟩ := hQ9
  refine x_goW (wss2 := [ccO g a b y z, stO g a 10 v, loW g w u1.2, cdW g a 10 c, evW g a 10 e, stO g a 20 v2, cdW g a 20 c2, evW g a 20 e2, stO g a 30 v3, cdW g a 30 c3, evW g a 30 e3, hiO g a h, hrW g a t, stF g a vs, cdF g a cs, evF g a es, prO g b q, caW g b t2, cmF g b ws, sbO g y zz k, baW g zz n f, mdO g d m, iaW g (d 1) 110 r1, iaW g (d 2) 110 r2, iaW g (d 3) 110 r3, iaW g (d 4) 110 r4, iaW g (d 5) 880 r5, iaW g (d 6) 200 r6, iaW g (d 7) 60 r7, iaW g (d 8) 124 r8, doW g w2 dd]) (stk2 := [.int u1.1]) rfl rfl rfl ?_
  refine x_istore (lv' := [(6, .int u1.1), (0, .ref sb), (1, .ref (a 0)), (2, .ref (d 0)), (3, .ref w), (4, .ref w2), (5, .int i)]) C dL_law_1572 (by decide) rfl ?_
  refine x_aload_n C dL_law_1574 rfl 3 rfl ?_
  obtain ⟨u2, hu2, hf⟩ := x_b hf
  refine x_callV (n := 0) (As := []) (rest := []) C (c_X10_lastCandle g l d m r1 hu2) ⟨⟨wd_1777, wd_1774, wd_78⟩, ⟨by decide, by decide, by decide⟩, rfl, rfl, Nat.le_of_ble_eq_true rfl, Nat.le_of_ble_eq_true rfl⟩ wd_1775 wd_1776 ⟨0, 11, _, _, rfl, rfl, rfl⟩ [ccO g a b y z, stO g a 10 v, loW g w u1.2, cdW g a 10 c, evW g a 10 e, stO g a 20 v2, cdW g a 20 c2, evW g a 20 e2, stO g a 30 v3, cdW g a 30 c3, evW g a 30 e3, hiO g a h, hrW g a t, stF g a vs, cdF g a cs, evF g a es, prO g b q, caW g b t2, cmF g b ws, sbO g y zz k, baW g zz n f, iaW g (d 2) 110 r2, iaW g (d 3) 110 r3, iaW g (d 4) 110 r4, iaW g (d 5) 880 r5, iaW g (d 6) 200 r6, iaW g (d 7) 60 r7, iaW g (d 8) 124 r8, doW g w2 dd] (x_pickD [21, 22, 0, 1, 2, 3, 4, 5, 6, 7, 8, 9, 10, 11, 12, 13, 14, 15, 16, 17, 18, 19, 20, 23, 24, 25, 26, 27, 28, 29, 30] 31 rfl rfl rfl) rfl rfl (Nat.le_of_ble_eq_true rfl) ⟨by omega, by omega⟩ dL_law_1575 (x_goD (wss2 := [mdO g d u2.2, iaW g (d 1) 110 r1, ccO g a b y z, stO g a 10 v, loW g w u1.2, cdW g a 10 c, evW g a 10 e, stO g a 20 v2, cdW g a 20 c2, evW g a 20 e2, stO g a 30 v3, cdW g a 30 c3, evW g a 30 e3, hiO g a h, hrW g a t, stF g a vs, cdF g a cs, evF g a es, prO g b q, caW g b t2, cmF g b ws, sbO g y zz k, baW g zz n f, iaW g (d 2) 110 r2, iaW g (d 3) 110 r3, iaW g (d 4) 110 r4, iaW g (d 5) 880 r5, iaW g (d 6) 200 r6, iaW g (d 7) 60 r7, iaW g (d 8) 124 r8, doW g w2 dd]) (stk2 := [.int u2.1]) rfl rfl ?_)
  refine x_istore (lv' := [(7, .int u2.1), (6, .int u1.1), (0, .ref sb), (1, .ref (a 0)), (2, .ref (d 0)), (3, .ref w), (4, .ref w2), (5, .int i)]) C dL_law_1578 (by decide) rfl ?_
  refine x_aload_n C dL_law_1580 rfl 4 rfl ?_
  obtain ⟨u3, hu3, hf⟩ := x_b hf
  refine x_callV (n := 0) (As := []) (rest := []) C (c_X10_thrown g l d u2.2 hu3) ⟨⟨wd_1550, wd_1547, wd_78⟩, ⟨by decide, by decide, by decide⟩, rfl, rfl, Nat.le_of_ble_eq_true rfl, Nat.le_of_ble_eq_true rfl⟩ wd_1548 wd_1549 ⟨0, 11, _, _, rfl, rfl, rfl⟩ [iaW g (d 1) 110 r1, ccO g a b y z, stO g a 10 v, loW g w u1.2, cdW g a 10 c, evW g a 10 e, stO g a 20 v2, cdW g a 20 c2, evW g a 20 e2, stO g a 30 v3, cdW g a 30 c3, evW g a 30 e3, hiO g a h, hrW g a t, stF g a vs, cdF g a cs, evF g a es, prO g b q, caW g b t2, cmF g b ws, sbO g y zz k, baW g zz n f, iaW g (d 2) 110 r2, iaW g (d 3) 110 r3, iaW g (d 4) 110 r4, iaW g (d 5) 880 r5, iaW g (d 6) 200 r6, iaW g (d 7) 60 r7, iaW g (d 8) 124 r8, doW g w2 dd] (x_pickD [0, 1, 2, 3, 4, 5, 6, 7, 8, 9, 10, 11, 12, 13, 14, 15, 16, 17, 18, 19, 20, 21, 22, 23, 24, 25, 26, 27, 28, 29, 30] 31 rfl rfl rfl) rfl rfl (Nat.le_of_ble_eq_true rfl) ⟨by omega, by omega⟩ dL_law_1581 (x_goD (wss2 := [mdO g d u2.2, iaW g (d 1) 110 r1, ccO g a b y z, stO g a 10 v, loW g w u1.2, cdW g a 10 c, evW g a 10 e, stO g a 20 v2, cdW g a 20 c2, evW g a 20 e2, stO g a 30 v3, cdW g a 30 c3, evW g a 30 e3, hiO g a h, hrW g a t, stF g a vs, cdF g a cs, evF g a es, prO g b q, caW g b t2, cmF g b ws, sbO g y zz k, baW g zz n f, iaW g (d 2) 110 r2, iaW g (d 3) 110 r3, iaW g (d 4) 110 r4, iaW g (d 5) 880 r5, iaW g (d 6) 200 r6, iaW g (d 7) 60 r7, iaW g (d 8) 124 r8, doW g w2 dd]) (stk2 := [.int u3]) rfl rfl ?_)
  refine x_iload C dL_law_1584 1 rfl ?_
  refine x_icmp_eq (tgt := 1591) C dL_law_1586 (by decide) (fun h4 => ?_) (fun h4 => ?_)
  · have hf := x_t h4 hf
    refine x_iload C dL_law_1591 1 rfl ?_
    refine x_if_ne (tgt := 1608) C dL_law_1593 (by decide) (fun h5 => ?_) (fun h5 => ?_)
    · have hf := x_f h5 hf
      refine x_goto (tgt := 2256) C dL_law_1608 (by decide) ?_
      refine x_perm (wss' := [ccO g a b y z, stO g a 10 v, cdW g a 10 c, evW g a 10 e, stO g a 20 v2, cdW g a 20 c2, evW g a 20 e2, stO g a 30 v3, cdW g a 30 c3, evW g a 30 e3, hiO g a h, hrW g a t, stF g a vs, cdF g a cs, evF g a es, prO g b q, caW g b t2, cmF g b ws, sbO g y zz k, baW g zz n f, mdO g d u2.2, iaW g (d 1) 110 r1, iaW g (d 2) 110 r2, iaW g (d 3) 110 r3, iaW g (d 4) 110 r4, iaW g (d 5) 880 r5, iaW g (d 6) 200 r6, iaW g (d 7) 60 r7, iaW g (d 8) 124 r8, loW g w u1.2, doW g w2 dd]) (x_pick [2, 3, 5, 6, 7, 8, 9, 10, 11, 12, 13, 14, 15, 16, 17, 18, 19, 20, 21, 22, 0, 1, 23, 24, 25, 26, 27, 28, 29, 4, 30] 31 rfl rfl rfl) ?_
      refine x_locals (lv' := [(0, .ref sb), (1, .ref (a 0)), (2, .ref (d 0)), (3, .ref w), (4, .ref w2), (5, .int i)]) [2, 3, 4, 5, 6, 7] rfl ?_
      refine x_widen (k := cells + 292) (n := slots + 5516) (by omega) (by omega) ?_
      obtain rfl := Option.some.inj hf
      exact kk zz
    · have hf := x_t h5 hf
      refine x_aload_n C dL_law_1596 rfl 5 rfl ?_
      refine x_iconst (v := 0) C dL_law_1597 (by decide) ?_
      obtain ⟨h6, hf⟩ := x_n hf
      refine x_lald (b := loW g w u1.2) C 4 rfl 0 (loW_at0 g w _) h6 dL_law_1598 ?_
      refine x_iload C dL_law_1599 0 rfl ?_
      refine x_i2l C dL_law_1601 rfl ?_
      refine x_lcmp C dL_law_1602 ?_
      refine x_if_eq (tgt := 1608) C dL_law_1603 (by decide) (fun h7 => ?_) (fun h7 => ?_)
      · have hf := x_t h7 hf
        refine x_goto (tgt := 2256) C dL_law_1608 (by decide) ?_
        refine x_perm (wss' := [ccO g a b y z, stO g a 10 v, cdW g a 10 c, evW g a 10 e, stO g a 20 v2, cdW g a 20 c2, evW g a 20 e2, stO g a 30 v3, cdW g a 30 c3, evW g a 30 e3, hiO g a h, hrW g a t, stF g a vs, cdF g a cs, evF g a es, prO g b q, caW g b t2, cmF g b ws, sbO g y zz k, baW g zz n f, mdO g d u2.2, iaW g (d 1) 110 r1, iaW g (d 2) 110 r2, iaW g (d 3) 110 r3, iaW g (d 4) 110 r4, iaW g (d 5) 880 r5, iaW g (d 6) 200 r6, iaW g (d 7) 60 r7, iaW g (d 8) 124 r8, loW g w u1.2, doW g w2 dd]) (x_pick [2, 3, 5, 6, 7, 8, 9, 10, 11, 12, 13, 14, 15, 16, 17, 18, 19, 20, 21, 22, 0, 1, 23, 24, 25, 26, 27, 28, 29, 4, 30] 31 rfl rfl rfl) ?_
        refine x_locals (lv' := [(0, .ref sb), (1, .ref (a 0)), (2, .ref (d 0)), (3, .ref w), (4, .ref w2), (5, .int i)]) [2, 3, 4, 5, 6, 7] rfl ?_
        refine x_widen (k := cells + 292) (n := slots + 5516) (by omega) (by omega) ?_
        obtain rfl := Option.some.inj hf
        exact kk zz
      · have hf := x_f h7 hf
        cases hf
  · have hf := x_f h4 hf
    cases hf
set_option maxHeartbeats 4000000 in
set_option maxRecDepth 100000 in
theorem c_law_1611 (a : Nat → Nat) (b : Nat → Nat) (y : Nat) (zz : Nat) (n : Nat) (d : Nat → Nat) (w : Nat) (w2 : Nat) (C : CX g RL cL_law 9 A pW sW mW argsW methW c9) (hl : l.stackTraces = false) (hX : va_X sb L xs sW sW.heap) (hbl : sb < sW.heap.size) (hbA : ¬ A sb) (hc : cells + 292 ≤ room_1.cells) (hs : slots + 5516 ≤ room_1.slots) (z : CcT) (v : StS) (c : CdT) (e : EvT) (v2 : StS) (c2 : CdT) (e2 : EvT) (v3 : StS) (c3 : CdT) (e3 : EvT) (h : HiT) (t : Unit) (vs : (Nat → StS)) (cs : (Nat → CdT)) (es : (Nat → EvT)) (q : PrT) (t2 : Unit) (ws : (Nat → CmT)) (k : SbT) (f : (Nat → Int32)) (m : MdT) (r1 : (Nat → Int32)) (r2 : (Nat → Int32)) (r3 : (Nat → Int32)) (r4 : (Nat → Int32)) (r5 : (Nat → Int32)) (r6 : (Nat → Int32)) (r7 : (Nat → Int32)) (r8 : (Nat → Int32)) (lo : (Nat → Int64)) (dd : (Nat → UInt64)) (i : Int32) {u : LwT} (hf : f_law_1611 n L xs z v c e v2 c2 e2 v3 c3 e3 h t vs cs es q t2 ws k f m r1 r2 r3 r4 r5 r6 r7 r8 lo dd i = some u)
    (kk : ∀ zz' : Nat, VW g A 9 pW l eW room_1 sW mW argsW belowW methW c9 (cells + 292) (slots + 5516) Q [ccO g a b y u.1, stO g a 10 u.2.1, cdW g a 10 u.2.2.1, evW g a 10 u.2.2.2.1, stO g a 20 u.2.2.2.2.1, cdW g a 20 u.2.2.2.2.2.1, evW g a 20 u.2.2.2.2.2.2.1, stO g a 30 u.2.2.2.2.2.2.2.1, cdW g a 30 u.2.2.2.2.2.2.2.2.1, evW g a 30 u.2.2.2.2.2.2.2.2.2.1, hiO g a u.2.2.2.2.2.2.2.2.2.2.1, hrW g a u.2.2.2.2.2.2.2.2.2.2.2.1, stF g a u.2.2.2.2.2.2.2.2.2.2.2.2.1, cdF g a u.2.2.2.2.2.2.2.2.2.2.2.2.2.1, evF g a u.2.2.2.2.2.2.2.2.2.2.2.2.2.2.1, prO g b u.2.2.2.2.2.2.2.2.2.2.2.2.2.2.2.1, caW g b u.2.2.2.2.2.2.2.2.2.2.2.2.2.2.2.2.1, cmF g b u.2.2.2.2.2.2.2.2.2.2.2.2.2.2.2.2.2.1, sbO g y zz' u.2.2.2.2.2.2.2.2.2.2.2.2.2.2.2.2.2.2.1, baW g zz' u.2.2.2.2.2.2.2.2.2.2.2.2.2.2.2.2.2.2.2.2.2.2.2.2.2.2.2.2.2.2.2 u.2.2.2.2.2.2.2.2.2.2.2.2.2.2.2.2.2.2.2.1, mdO g d u.2.2.2.2.2.2.2.2.2.2.2.2.2.2.2.2.2.2.2.2.1, iaW g (d 1) 110 u.2.2.2.2.2.2.2.2.2.2.2.2.2.2.2.2.2.2.2.2.2.1, iaW g (d 2) 110 u.2.2.2.2.2.2.2.2.2.2.2.2.2.2.2.2.2.2.2.2.2.2.1, iaW g (d 3) 110 u.2.2.2.2.2.2.2.2.2.2.2.2.2.2.2.2.2.2.2.2.2.2.2.1, iaW g (d 4) 110 u.2.2.2.2.2.2.2.2.2.2.2.2.2.2.2.2.2.2.2.2.2.2.2.2.1, iaW g (d 5) 880 u.2.2.2.2.2.2.2.2.2.2.2.2.2.2.2.2.2.2.2.2.2.2.2.2.2.1, iaW g (d 6) 200 u.2.2.2.2.2.2.2.2.2.2.2.2.2.2.2.2.2.2.2.2.2.2.2.2.2.2.1, iaW g (d 7) 60 u.2.2.2.2.2.2.2.2.2.2.2.2.2.2.2.2.2.2.2.2.2.2.2.2.2.2.2.1, iaW g (d 8) 124 u.2.2.2.2.2.2.2.2.2.2.2.2.2.2.2.2.2.2.2.2.2.2.2.2.2.2.2.2.1, loW g w u.2.2.2.2.2.2.2.2.2.2.2.2.2.2.2.2.2.2.2.2.2.2.2.2.2.2.2.2.2.1, doW g w2 u.2.2.2.2.2.2.2.2.2.2.2.2.2.2.2.2.2.2.2.2.2.2.2.2.2.2.2.2.2.2.1] [(0, .ref sb), (1, .ref (a 0)), (2, .ref (d 0)), (3, .ref w), (4, .ref w2), (5, .int i)] 2256 []) : VW g A 9 pW l eW room_1 sW mW argsW belowW methW c9 cells slots Q [ccO g a b y z, stO g a 10 v, cdW g a 10 c, evW g a 10 e, stO g a 20 v2, cdW g a 20 c2, evW g a 20 e2, stO g a 30 v3, cdW g a 30 c3, evW g a 30 e3, hiO g a h, hrW g a t, stF g a vs, cdF g a cs, evF g a es, prO g b q, caW g b t2, cmF g b ws, sbO g y zz k, baW g zz n f, mdO g d m, iaW g (d 1) 110 r1, iaW g (d 2) 110 r2, iaW g (d 3) 110 r3, iaW g (d 4) 110 r4, iaW g (d 5) 880 r5, iaW g (d 6) 200 r6, iaW g (d 7) 60 r7, iaW g (d 8) 124 r8, loW g w lo, doW g w2 dd] [(0, .ref sb), (1, .ref (a 0)), (2, .ref (d 0)), (3, .ref w), (4, .ref w2), (5, .int i)] 1611 [] := by
  unfold f_law_1611 at hf
  have C : CX g RL cL_law 9 A pW sW mW argsW methW c9 := C
  refine x_aload_n C dL_law_1611 rfl 1 rfl ?_
  refine x_aload_n C dL_law_1612 rfl 3 rfl ?_
  obtain ⟨u1, hu1, hf⟩ := x_b hf
  refine x_hcallS (n := 2) (As := [.ref (a 0), .ref w]) (rest := []) C (c_L_loudestVoice g l hl a b y w z v c lo hu1) ⟨⟨wd_1242, wd_1240, wd_64⟩, ⟨by decide, by decide, by decide⟩, rfl, rfl, Nat.le_of_ble_eq_true rfl, Nat.le_of_ble_eq_true rfl⟩ wd_1241 [evW g a 10 e, stO g a 20 v2, cdW g a 20 c2, evW g a 20 e2, stO g a 30 v3, cdW g a 30 c3, evW g a 30 e3, hiO g a h, hrW g a t, stF g a vs, cdF g a cs, evF g a es, prO g b q, caW g b t2, cmF g b ws, sbO g y zz k, baW g zz n f, mdO g d m, iaW g (d 1) 110 r1, iaW g (d 2) 110 r2, iaW g (d 3) 110 r3, iaW g (d 4) 110 r4, iaW g (d 5) 880 r5, iaW g (d 6) 200 r6, iaW g (d 7) 60 r7, iaW g (d 8) 124 r8, doW g w2 dd] (x_pickD [0, 1, 2, 29, 3, 4, 5, 6, 7, 8, 9, 10, 11, 12, 13, 14, 15, 16, 17, 18, 19, 20, 21, 22, 23, 24, 25, 26, 27, 28, 30] 31 rfl rfl rfl) rfl rfl (Nat.le_of_ble_eq_true rfl) ⟨by omega, by omega⟩ dL_law_1613 (fun v9 w9 hQ9 => ?_)
  obtain ⟨rfl, rfl⟩ := hQ9
  refine x_goW (wss2 := [ccO g a b y z, stO g a 10 v, cdW g a 10 c, loW g w u1.2, evW g a 10 e, stO g a 20 v2, cdW g a 20 c2, evW g a 20 e2, stO g a 30 v3, cdW g a 30 c3, evW g a 30 e3, hiO g a h, hrW g a t, stF g a vs, cdF g a cs, evF g a es, prO g b q, caW g b t2, cmF g b ws, sbO g y zz k, baW g zz n f, mdO g d m, iaW g (d 1) 110 r1, iaW g (d 2) 110 r2, iaW g (d 3) 110 r3, iaW g (d 4) 110 r4, iaW g (d 5) 880 r5, iaW g (d 6) 200 r6, iaW g (d 7) 60 r7, iaW g (d 8) 124 r8, doW g w2 dd]) (stk2 := [.int u1.1]) rfl rfl rfl ?_
  refine x_istore (lv' := [(6, .int u1.1), (0, .ref sb), (1, .ref (a 0)), (2, .ref (d 0)), (3, .ref w), (4, .ref w2), (5, .int i)]) C dL_law_1616 (by decide) rfl ?_
  refine x_aload_n C dL_law_1618 rfl 3 rfl ?_
  obtain ⟨u2, hu2, hf⟩ := x_b hf
  refine x_callV (n := 0) (As := []) (rest := []) C (c_X10_loudestVoice g l d m r1 hu2) ⟨⟨wd_1781, wd_1778, wd_78⟩, ⟨by decide, by decide, by decide⟩, rfl, rfl, Nat.le_of_ble_eq_true rfl, Nat.le_of_ble_eq_true rfl⟩ wd_1779 wd_1780 ⟨0, 11, _, _, rfl, rfl, rfl⟩ [ccO g a b y z, stO g a 10 v, cdW g a 10 c, loW g w u1.2, evW g a 10 e, stO g a 20 v2, cdW g a 20 c2, evW g a 20 e2, stO g a 30 v3, cdW g a 30 c3, evW g a 30 e3, hiO g a h, hrW g a t, stF g a vs, cdF g a cs, evF g a es, prO g b q, caW g b t2, cmF g b ws, sbO g y zz k, baW g zz n f, iaW g (d 2) 110 r2, iaW g (d 3) 110 r3, iaW g (d 4) 110 r4, iaW g (d 5) 880 r5, iaW g (d 6) 200 r6, iaW g (d 7) 60 r7, iaW g (d 8) 124 r8, doW g w2 dd] (x_pickD [21, 22, 0, 1, 2, 3, 4, 5, 6, 7, 8, 9, 10, 11, 12, 13, 14, 15, 16, 17, 18, 19, 20, 23, 24, 25, 26, 27, 28, 29, 30] 31 rfl rfl rfl) rfl rfl (Nat.le_of_ble_eq_true rfl) ⟨by omega, by omega⟩ dL_law_1619 (x_goD (wss2 := [mdO g d u2.2, iaW g (d 1) 110 r1, ccO g a b y z, stO g a 10 v, cdW g a 10 c, loW g w u1.2, evW g a 10 e, stO g a 20 v2, cdW g a 20 c2, evW g a 20 e2, stO g a 30 v3, cdW g a 30 c3, evW g a 30 e3, hiO g a h, hrW g a t, stF g a vs, cdF g a cs, evF g a es, prO g b q, caW g b t2, cmF g b ws, sbO g y zz k, baW g zz n f, iaW g (d 2) 110 r2, iaW g (d 3) 110 r3, iaW g (d 4) 110 r4, iaW g (d 5) 880 r5, iaW g (d 6) 200 r6, iaW g (d 7) 60 r7, iaW g (d 8) 124 r8, doW g w2 dd]) (stk2 := [.int u2.1]) rfl rfl ?_)
  refine x_istore (lv' := [(7, .int u2.1), (6, .int u1.1), (0, .ref sb), (1, .ref (a 0)), (2, .ref (d 0)), (3, .ref w), (4, .ref w2), (5, .int i)]) C dL_law_1622 (by decide) rfl ?_
  refine x_aload_n C dL_law_1624 rfl 4 rfl ?_
  obtain ⟨u3, hu3, hf⟩ := x_b hf
  refine x_callV (n := 0) (As := []) (rest := []) C (c_X10_thrown g l d u2.2 hu3) ⟨⟨wd_1550, wd_1547, wd_78⟩, ⟨by decide, by decide, by decide⟩, rfl, rfl, Nat.le_of_ble_eq_true rfl, Nat.le_of_ble_eq_true rfl⟩ wd_1548 wd_1549 ⟨0, 11, _, _, rfl, rfl, rfl⟩ [iaW g (d 1) 110 r1, ccO g a b y z, stO g a 10 v, cdW g a 10 c, loW g w u1.2, evW g a 10 e, stO g a 20 v2, cdW g a 20 c2, evW g a 20 e2, stO g a 30 v3, cdW g a 30 c3, evW g a 30 e3, hiO g a h, hrW g a t, stF g a vs, cdF g a cs, evF g a es, prO g b q, caW g b t2, cmF g b ws, sbO g y zz k, baW g zz n f, iaW g (d 2) 110 r2, iaW g (d 3) 110 r3, iaW g (d 4) 110 r4, iaW g (d 5) 880 r5, iaW g (d 6) 200 r6, iaW g (d 7) 60 r7, iaW g (d 8) 124 r8, doW g w2 dd] (x_pickD [0, 1, 2, 3, 4, 5, 6, 7, 8, 9, 10, 11, 12, 13, 14, 15, 16, 17, 18, 19, 20, 21, 22, 23, 24, 25, 26, 27, 28, 29, 30] 31 rfl rfl rfl) rfl rfl (Nat.le_of_ble_eq_true rfl) ⟨by omega, by omega⟩ dL_law_1625 (x_goD (wss2 := [mdO g d u2.2, iaW g (d 1) 110 r1, ccO g a b y z, stO g a 10 v, cdW g a 10 c, loW g w u1.2, evW g a 10 e, stO g a 20 v2, cdW g a 20 c2, evW g a 20 e2, stO g a 30 v3, cdW g a 30 c3, evW g a 30 e3, hiO g a h, hrW g a t, stF g a vs, cdF g a cs, evF g a es, prO g b q, caW g b t2, cmF g b ws, sbO g y zz k, baW g zz n f, iaW g (d 2) 110 r2, iaW g (d 3) 110 r3, iaW g (d 4) 110 r4, iaW g (d 5) 880 r5, iaW g (d 6) 200 r6, iaW g (d 7) 60 r7, iaW g (d 8) 124 r8, doW g w2 dd]) (stk2 := [.int u3]) rfl rfl ?_)
  refine x_iload C dL_law_1628 1 rfl ?_
  refine x_icmp_eq (tgt := 1635) C dL_law_1630 (by decide) (fun h4 => ?_) (fun h4 => ?_)
  · have hf := x_t h4 hf
    refine x_iload C dL_law_1635 1 rfl ?_
    refine x_if_ne (tgt := 1652) C dL_law_1637 (by decide) (fun h5 => ?_) (fun h5 => ?_)
    · have hf := x_f h5 hf
      refine x_goto (tgt := 2256) C dL_law_1652 (by decide) ?_
      refine x_perm (wss' := [ccO g a b y z, stO g a 10 v, cdW g a 10 c, evW g a 10 e, stO g a 20 v2, cdW g a 20 c2, evW g a 20 e2, stO g a 30 v3, cdW g a 30 c3, evW g a 30 e3, hiO g a h, hrW g a t, stF g a vs, cdF g a cs, evF g a es, prO g b q, caW g b t2, cmF g b ws, sbO g y zz k, baW g zz n f, mdO g d u2.2, iaW g (d 1) 110 r1, iaW g (d 2) 110 r2, iaW g (d 3) 110 r3, iaW g (d 4) 110 r4, iaW g (d 5) 880 r5, iaW g (d 6) 200 r6, iaW g (d 7) 60 r7, iaW g (d 8) 124 r8, loW g w u1.2, doW g w2 dd]) (x_pick [2, 3, 4, 6, 7, 8, 9, 10, 11, 12, 13, 14, 15, 16, 17, 18, 19, 20, 21, 22, 0, 1, 23, 24, 25, 26, 27, 28, 29, 5, 30] 31 rfl rfl rfl) ?_
      refine x_locals (lv' := [(0, .ref sb), (1, .ref (a 0)), (2, .ref (d 0)), (3, .ref w), (4, .ref w2), (5, .int i)]) [2, 3, 4, 5, 6, 7] rfl ?_
      refine x_widen (k := cells + 292) (n := slots + 5516) (by omega) (by omega) ?_
      obtain rfl := Option.some.inj hf
      exact kk zz
    · have hf := x_t h5 hf
      refine x_aload_n C dL_law_1640 rfl 5 rfl ?_
      refine x_iconst (v := 0) C dL_law_1641 (by decide) ?_
      obtain ⟨h6, hf⟩ := x_n hf
      refine x_lald (b := loW g w u1.2) C 5 rfl 0 (loW_at0 g w _) h6 dL_law_1642 ?_
      refine x_iload C dL_law_1643 0 rfl ?_
      refine x_i2l C dL_law_1645 rfl ?_
      refine x_lcmp C dL_law_1646 ?_
      refine x_if_eq (tgt := 1652) C dL_law_1647 (by decide) (fun h7 => ?_) (fun h7 => ?_)
      · have hf := x_t h7 hf
        refine x_goto (tgt := 2256) C dL_law_1652 (by decide) ?_
        refine x_perm (wss' := [ccO g a b y z, stO g a 10 v, cdW g a 10 c, evW g a 10 e, stO g a 20 v2, cdW g a 20 c2, evW g a 20 e2, stO g a 30 v3, cdW g a 30 c3, evW g a 30 e3, hiO g a h, hrW g a t, stF g a vs, cdF g a cs, evF g a es, prO g b q, caW g b t2, cmF g b ws, sbO g y zz k, baW g zz n f, mdO g d u2.2, iaW g (d 1) 110 r1, iaW g (d 2) 110 r2, iaW g (d 3) 110 r3, iaW g (d 4) 110 r4, iaW g (d 5) 880 r5, iaW g (d 6) 200 r6, iaW g (d 7) 60 r7, iaW g (d 8) 124 r8, loW g w u1.2, doW g w2 dd]) (x_pick [2, 3, 4, 6, 7, 8, 9, 10, 11, 12, 13, 14, 15, 16, 17, 18, 19, 20, 21, 22, 0, 1, 23, 24, 25, 26, 27, 28, 29, 5, 30] 31 rfl rfl rfl) ?_
        refine x_locals (lv' := [(0, .ref sb), (1, .ref (a 0)), (2, .ref (d 0)), (3, .ref w), (4, .ref w2), (5, .int i)]) [2, 3, 4, 5, 6, 7] rfl ?_
        refine x_widen (k := cells + 292) (n := slots + 5516) (by omega) (by omega) ?_
        obtain rfl := Option.some.inj hf
        exact kk zz
      · have hf := x_f h7 hf
        cases hf
  · have hf := x_f h4 hf
    cases hf
set_option maxHeartbeats 4000000 in
set_option maxRecDepth 100000 in
theorem c_law_1655 (a : Nat → Nat) (b : Nat → Nat) (y : Nat) (zz : Nat) (n : Nat) (d : Nat → Nat) (w : Nat) (w2 : Nat) (C : CX g RL cL_law 9 A pW sW mW argsW methW c9) (hl : l.stackTraces = false) (hX : va_X sb L xs sW sW.heap) (hbl : sb < sW.heap.size) (hbA : ¬ A sb) (hc : cells + 292 ≤ room_1.cells) (hs : slots + 5516 ≤ room_1.slots) (z : CcT) (v : StS) (c : CdT) (e : EvT) (v2 : StS) (c2 : CdT) (e2 : EvT) (v3 : StS) (c3 : CdT) (e3 : EvT) (h : HiT) (t : Unit) (vs : (Nat → StS)) (cs : (Nat → CdT)) (es : (Nat → EvT)) (q : PrT) (t2 : Unit) (ws : (Nat → CmT)) (k : SbT) (f : (Nat → Int32)) (m : MdT) (r1 : (Nat → Int32)) (r2 : (Nat → Int32)) (r3 : (Nat → Int32)) (r4 : (Nat → Int32)) (r5 : (Nat → Int32)) (r6 : (Nat → Int32)) (r7 : (Nat → Int32)) (r8 : (Nat → Int32)) (lo : (Nat → Int64)) (dd : (Nat → UInt64)) (i : Int32) {u : LwT} (hf : f_law_1655 n L xs z v c e v2 c2 e2 v3 c3 e3 h t vs cs es q t2 ws k f m r1 r2 r3 r4 r5 r6 r7 r8 lo dd i = some u)
    (kk : ∀ zz' : Nat, VW g A 9 pW l eW room_1 sW mW argsW belowW methW c9 (cells + 292) (slots + 5516) Q [ccO g a b y u.1, stO g a 10 u.2.1, cdW g a 10 u.2.2.1, evW g a 10 u.2.2.2.1, stO g a 20 u.2.2.2.2.1, cdW g a 20 u.2.2.2.2.2.1, evW g a 20 u.2.2.2.2.2.2.1, stO g a 30 u.2.2.2.2.2.2.2.1, cdW g a 30 u.2.2.2.2.2.2.2.2.1, evW g a 30 u.2.2.2.2.2.2.2.2.2.1, hiO g a u.2.2.2.2.2.2.2.2.2.2.1, hrW g a u.2.2.2.2.2.2.2.2.2.2.2.1, stF g a u.2.2.2.2.2.2.2.2.2.2.2.2.1, cdF g a u.2.2.2.2.2.2.2.2.2.2.2.2.2.1, evF g a u.2.2.2.2.2.2.2.2.2.2.2.2.2.2.1, prO g b u.2.2.2.2.2.2.2.2.2.2.2.2.2.2.2.1, caW g b u.2.2.2.2.2.2.2.2.2.2.2.2.2.2.2.2.1, cmF g b u.2.2.2.2.2.2.2.2.2.2.2.2.2.2.2.2.2.1, sbO g y zz' u.2.2.2.2.2.2.2.2.2.2.2.2.2.2.2.2.2.2.1, baW g zz' u.2.2.2.2.2.2.2.2.2.2.2.2.2.2.2.2.2.2.2.2.2.2.2.2.2.2.2.2.2.2.2 u.2.2.2.2.2.2.2.2.2.2.2.2.2.2.2.2.2.2.2.1, mdO g d u.2.2.2.2.2.2.2.2.2.2.2.2.2.2.2.2.2.2.2.2.1, iaW g (d 1) 110 u.2.2.2.2.2.2.2.2.2.2.2.2.2.2.2.2.2.2.2.2.2.1, iaW g (d 2) 110 u.2.2.2.2.2.2.2.2.2.2.2.2.2.2.2.2.2.2.2.2.2.2.1, iaW g (d 3) 110 u.2.2.2.2.2.2.2.2.2.2.2.2.2.2.2.2.2.2.2.2.2.2.2.1, iaW g (d 4) 110 u.2.2.2.2.2.2.2.2.2.2.2.2.2.2.2.2.2.2.2.2.2.2.2.2.1, iaW g (d 5) 880 u.2.2.2.2.2.2.2.2.2.2.2.2.2.2.2.2.2.2.2.2.2.2.2.2.2.1, iaW g (d 6) 200 u.2.2.2.2.2.2.2.2.2.2.2.2.2.2.2.2.2.2.2.2.2.2.2.2.2.2.1, iaW g (d 7) 60 u.2.2.2.2.2.2.2.2.2.2.2.2.2.2.2.2.2.2.2.2.2.2.2.2.2.2.2.1, iaW g (d 8) 124 u.2.2.2.2.2.2.2.2.2.2.2.2.2.2.2.2.2.2.2.2.2.2.2.2.2.2.2.2.1, loW g w u.2.2.2.2.2.2.2.2.2.2.2.2.2.2.2.2.2.2.2.2.2.2.2.2.2.2.2.2.2.1, doW g w2 u.2.2.2.2.2.2.2.2.2.2.2.2.2.2.2.2.2.2.2.2.2.2.2.2.2.2.2.2.2.2.1] [(0, .ref sb), (1, .ref (a 0)), (2, .ref (d 0)), (3, .ref w), (4, .ref w2), (5, .int i)] 2256 []) : VW g A 9 pW l eW room_1 sW mW argsW belowW methW c9 cells slots Q [ccO g a b y z, stO g a 10 v, cdW g a 10 c, evW g a 10 e, stO g a 20 v2, cdW g a 20 c2, evW g a 20 e2, stO g a 30 v3, cdW g a 30 c3, evW g a 30 e3, hiO g a h, hrW g a t, stF g a vs, cdF g a cs, evF g a es, prO g b q, caW g b t2, cmF g b ws, sbO g y zz k, baW g zz n f, mdO g d m, iaW g (d 1) 110 r1, iaW g (d 2) 110 r2, iaW g (d 3) 110 r3, iaW g (d 4) 110 r4, iaW g (d 5) 880 r5, iaW g (d 6) 200 r6, iaW g (d 7) 60 r7, iaW g (d 8) 124 r8, loW g w lo, doW g w2 dd] [(0, .ref sb), (1, .ref (a 0)), (2, .ref (d 0)), (3, .ref w), (4, .ref w2), (5, .int i)] 1655 [] := by
  unfold f_law_1655 at hf
  have C : CX g RL cL_law 9 A pW sW mW argsW methW c9 := C
  refine x_aload_n C dL_law_1655 rfl 1 rfl ?_
  obtain ⟨u1, hu1, hf⟩ := x_b hf
  refine x_callV (n := 0) (As := []) (rest := []) C (c_X9_addedWax g l a b y z v hu1) ⟨⟨wd_480, wd_477, wd_65⟩, ⟨by decide, by decide, by decide⟩, rfl, rfl, Nat.le_of_ble_eq_true rfl, Nat.le_of_ble_eq_true rfl⟩ wd_478 wd_479 ⟨0, 10, _, _, rfl, rfl, rfl⟩ [cdW g a 10 c, evW g a 10 e, stO g a 20 v2, cdW g a 20 c2, evW g a 20 e2, stO g a 30 v3, cdW g a 30 c3, evW g a 30 e3, hiO g a h, hrW g a t, stF g a vs, cdF g a cs, evF g a es, prO g b q, caW g b t2, cmF g b ws, sbO g y zz k, baW g zz n f, mdO g d m, iaW g (d 1) 110 r1, iaW g (d 2) 110 r2, iaW g (d 3) 110 r3, iaW g (d 4) 110 r4, iaW g (d 5) 880 r5, iaW g (d 6) 200 r6, iaW g (d 7) 60 r7, iaW g (d 8) 124 r8, loW g w lo, doW g w2 dd] (x_pickD [0, 1, 2, 3, 4, 5, 6, 7, 8, 9, 10, 11, 12, 13, 14, 15, 16, 17, 18, 19, 20, 21, 22, 23, 24, 25, 26, 27, 28, 29, 30] 31 rfl rfl rfl) rfl rfl (Nat.le_of_ble_eq_true rfl) ⟨by omega, by omega⟩ dL_law_1656 (x_goD (wss2 := [ccO g a b y z, stO g a 10 v, cdW g a 10 c, evW g a 10 e, stO g a 20 v2, cdW g a 20 c2, evW g a 20 e2, stO g a 30 v3, cdW g a 30 c3, evW g a 30 e3, hiO g a h, hrW g a t, stF g a vs, cdF g a cs, evF g a es, prO g b q, caW g b t2, cmF g b ws, sbO g y zz k, baW g zz n f, mdO g d m, iaW g (d 1) 110 r1, iaW g (d 2) 110 r2, iaW g (d 3) 110 r3, iaW g (d 4) 110 r4, iaW g (d 5) 880 r5, iaW g (d 6) 200 r6, iaW g (d 7) 60 r7, iaW g (d 8) 124 r8, loW g w lo, doW g w2 dd]) (stk2 := [.long u1]) rfl rfl ?_)
  refine x_aload_n C dL_law_1659 rfl 2 rfl ?_
  obtain ⟨u2, hu2, hf⟩ := x_b hf
  refine x_callV (n := 0) (As := []) (rest := [.long u1]) C (c_X10_addedWax g l d m r1 hu2) ⟨⟨wd_1785, wd_1782, wd_78⟩, ⟨by decide, by decide, by decide⟩, rfl, rfl, Nat.le_of_ble_eq_true rfl, Nat.le_of_ble_eq_true rfl⟩ wd_1783 wd_1784 ⟨0, 11, _, _, rfl, rfl, rfl⟩ [ccO g a b y z, stO g a 10 v, cdW g a 10 c, evW g a 10 e, stO g a 20 v2, cdW g a 20 c2, evW g a 20 e2, stO g a 30 v3, cdW g a 30 c3, evW g a 30 e3, hiO g a h, hrW g a t, stF g a vs, cdF g a cs, evF g a es, prO g b q, caW g b t2, cmF g b ws, sbO g y zz k, baW g zz n f, iaW g (d 2) 110 r2, iaW g (d 3) 110 r3, iaW g (d 4) 110 r4, iaW g (d 5) 880 r5, iaW g (d 6) 200 r6, iaW g (d 7) 60 r7, iaW g (d 8) 124 r8, loW g w lo, doW g w2 dd] (x_pickD [20, 21, 0, 1, 2, 3, 4, 5, 6, 7, 8, 9, 10, 11, 12, 13, 14, 15, 16, 17, 18, 19, 22, 23, 24, 25, 26, 27, 28, 29, 30] 31 rfl rfl rfl) rfl rfl (Nat.le_of_ble_eq_true rfl) ⟨by omega, by omega⟩ dL_law_1660 (x_goD (wss2 := [mdO g d u2.2, iaW g (d 1) 110 r1, ccO g a b y z, stO g a 10 v, cdW g a 10 c, evW g a 10 e, stO g a 20 v2, cdW g a 20 c2, evW g a 20 e2, stO g a 30 v3, cdW g a 30 c3, evW g a 30 e3, hiO g a h, hrW g a t, stF g a vs, cdF g a cs, evF g a es, prO g b q, caW g b t2, cmF g b ws, sbO g y zz k, baW g zz n f, iaW g (d 2) 110 r2, iaW g (d 3) 110 r3, iaW g (d 4) 110 r4, iaW g (d 5) 880 r5, iaW g (d 6) 200 r6, iaW g (d 7) 60 r7, iaW g (d 8) 124 r8, loW g w lo, doW g w2 dd]) (stk2 := [.long u2.1, .long u1]) rfl rfl ?_)
  refine x_lcmp C dL_law_1663 ?_
  refine x_if_eq (tgt := 2256) C dL_law_1664 (by decide) (fun h3 => ?_) (fun h3 => ?_)
  · have hf := x_t h3 hf
    refine x_perm (wss' := [ccO g a b y z, stO g a 10 v, cdW g a 10 c, evW g a 10 e, stO g a 20 v2, cdW g a 20 c2, evW g a 20 e2, stO g a 30 v3, cdW g a 30 c3, evW g a 30 e3, hiO g a h, hrW g a t, stF g a vs, cdF g a cs, evF g a es, prO g b q, caW g b t2, cmF g b ws, sbO g y zz k, baW g zz n f, mdO g d u2.2, iaW g (d 1) 110 r1, iaW g (d 2) 110 r2, iaW g (d 3) 110 r3, iaW g (d 4) 110 r4, iaW g (d 5) 880 r5, iaW g (d 6) 200 r6, iaW g (d 7) 60 r7, iaW g (d 8) 124 r8, loW g w lo, doW g w2 dd]) (x_pick [2, 3, 4, 5, 6, 7, 8, 9, 10, 11, 12, 13, 14, 15, 16, 17, 18, 19, 20, 21, 0, 1, 22, 23, 24, 25, 26, 27, 28, 29, 30] 31 rfl rfl rfl) ?_
    refine x_locals (lv' := [(0, .ref sb), (1, .ref (a 0)), (2, .ref (d 0)), (3, .ref w), (4, .ref w2), (5, .int i)]) [0, 1, 2, 3, 4, 5] rfl ?_
    refine x_widen (k := cells + 292) (n := slots + 5516) (by omega) (by omega) ?_
    obtain rfl := Option.some.inj hf
    exact kk zz
  · have hf := x_f h3 hf
    cases hf
set_option maxHeartbeats 4000000 in
set_option maxRecDepth 100000 in
theorem c_law_1669 (a : Nat → Nat) (b : Nat → Nat) (y : Nat) (zz : Nat) (n : Nat) (d : Nat → Nat) (w : Nat) (w2 : Nat) (C : CX g RL cL_law 9 A pW sW mW argsW methW c9) (hl : l.stackTraces = false) (hX : va_X sb L xs sW sW.heap) (hbl : sb < sW.heap.size) (hbA : ¬ A sb) (hc : cells + 292 ≤ room_1.cells) (hs : slots + 5516 ≤ room_1.slots) (z : CcT) (v : StS) (c : CdT) (e : EvT) (v2 : StS) (c2 : CdT) (e2 : EvT) (v3 : StS) (c3 : CdT) (e3 : EvT) (h : HiT) (t : Unit) (vs : (Nat → StS)) (cs : (Nat → CdT)) (es : (Nat → EvT)) (q : PrT) (t2 : Unit) (ws : (Nat → CmT)) (k : SbT) (f : (Nat → Int32)) (m : MdT) (r1 : (Nat → Int32)) (r2 : (Nat → Int32)) (r3 : (Nat → Int32)) (r4 : (Nat → Int32)) (r5 : (Nat → Int32)) (r6 : (Nat → Int32)) (r7 : (Nat → Int32)) (r8 : (Nat → Int32)) (lo : (Nat → Int64)) (dd : (Nat → UInt64)) (i : Int32) {u : LwT} (hf : f_law_1669 n L xs z v c e v2 c2 e2 v3 c3 e3 h t vs cs es q t2 ws k f m r1 r2 r3 r4 r5 r6 r7 r8 lo dd i = some u)
    (kk : ∀ zz' : Nat, VW g A 9 pW l eW room_1 sW mW argsW belowW methW c9 (cells + 292) (slots + 5516) Q [ccO g a b y u.1, stO g a 10 u.2.1, cdW g a 10 u.2.2.1, evW g a 10 u.2.2.2.1, stO g a 20 u.2.2.2.2.1, cdW g a 20 u.2.2.2.2.2.1, evW g a 20 u.2.2.2.2.2.2.1, stO g a 30 u.2.2.2.2.2.2.2.1, cdW g a 30 u.2.2.2.2.2.2.2.2.1, evW g a 30 u.2.2.2.2.2.2.2.2.2.1, hiO g a u.2.2.2.2.2.2.2.2.2.2.1, hrW g a u.2.2.2.2.2.2.2.2.2.2.2.1, stF g a u.2.2.2.2.2.2.2.2.2.2.2.2.1, cdF g a u.2.2.2.2.2.2.2.2.2.2.2.2.2.1, evF g a u.2.2.2.2.2.2.2.2.2.2.2.2.2.2.1, prO g b u.2.2.2.2.2.2.2.2.2.2.2.2.2.2.2.1, caW g b u.2.2.2.2.2.2.2.2.2.2.2.2.2.2.2.2.1, cmF g b u.2.2.2.2.2.2.2.2.2.2.2.2.2.2.2.2.2.1, sbO g y zz' u.2.2.2.2.2.2.2.2.2.2.2.2.2.2.2.2.2.2.1, baW g zz' u.2.2.2.2.2.2.2.2.2.2.2.2.2.2.2.2.2.2.2.2.2.2.2.2.2.2.2.2.2.2.2 u.2.2.2.2.2.2.2.2.2.2.2.2.2.2.2.2.2.2.2.1, mdO g d u.2.2.2.2.2.2.2.2.2.2.2.2.2.2.2.2.2.2.2.2.1, iaW g (d 1) 110 u.2.2.2.2.2.2.2.2.2.2.2.2.2.2.2.2.2.2.2.2.2.1, iaW g (d 2) 110 u.2.2.2.2.2.2.2.2.2.2.2.2.2.2.2.2.2.2.2.2.2.2.1, iaW g (d 3) 110 u.2.2.2.2.2.2.2.2.2.2.2.2.2.2.2.2.2.2.2.2.2.2.2.1, iaW g (d 4) 110 u.2.2.2.2.2.2.2.2.2.2.2.2.2.2.2.2.2.2.2.2.2.2.2.2.1, iaW g (d 5) 880 u.2.2.2.2.2.2.2.2.2.2.2.2.2.2.2.2.2.2.2.2.2.2.2.2.2.1, iaW g (d 6) 200 u.2.2.2.2.2.2.2.2.2.2.2.2.2.2.2.2.2.2.2.2.2.2.2.2.2.2.1, iaW g (d 7) 60 u.2.2.2.2.2.2.2.2.2.2.2.2.2.2.2.2.2.2.2.2.2.2.2.2.2.2.2.1, iaW g (d 8) 124 u.2.2.2.2.2.2.2.2.2.2.2.2.2.2.2.2.2.2.2.2.2.2.2.2.2.2.2.2.1, loW g w u.2.2.2.2.2.2.2.2.2.2.2.2.2.2.2.2.2.2.2.2.2.2.2.2.2.2.2.2.2.1, doW g w2 u.2.2.2.2.2.2.2.2.2.2.2.2.2.2.2.2.2.2.2.2.2.2.2.2.2.2.2.2.2.2.1] [(0, .ref sb), (1, .ref (a 0)), (2, .ref (d 0)), (3, .ref w), (4, .ref w2), (5, .int i)] 2256 []) : VW g A 9 pW l eW room_1 sW mW argsW belowW methW c9 cells slots Q [ccO g a b y z, stO g a 10 v, cdW g a 10 c, evW g a 10 e, stO g a 20 v2, cdW g a 20 c2, evW g a 20 e2, stO g a 30 v3, cdW g a 30 c3, evW g a 30 e3, hiO g a h, hrW g a t, stF g a vs, cdF g a cs, evF g a es, prO g b q, caW g b t2, cmF g b ws, sbO g y zz k, baW g zz n f, mdO g d m, iaW g (d 1) 110 r1, iaW g (d 2) 110 r2, iaW g (d 3) 110 r3, iaW g (d 4) 110 r4, iaW g (d 5) 880 r5, iaW g (d 6) 200 r6, iaW g (d 7) 60 r7, iaW g (d 8) 124 r8, loW g w lo, doW g w2 dd] [(0, .ref sb), (1, .ref (a 0)), (2, .ref (d 0)), (3, .ref w), (4, .ref w2), (5, .int i)] 1669 [] := by
  unfold f_law_1669 at hf
  have C : CX g RL cL_law 9 A pW sW mW argsW methW c9 := C
  refine x_aload_n C dL_law_1669 rfl 1 rfl ?_
  obtain ⟨u1, hu1, hf⟩ := x_b hf
  refine x_callV (n := 0) (As := []) (rest := []) C (c_X9_addedWaxByParts g l a b y z v c hu1) ⟨⟨wd_484, wd_481, wd_65⟩, ⟨by decide, by decide, by decide⟩, rfl, rfl, Nat.le_of_ble_eq_true rfl, Nat.le_of_ble_eq_true rfl⟩ wd_482 wd_483 ⟨0, 10, _, _, rfl, rfl, rfl⟩ [evW g a 10 e, stO g a 20 v2, cdW g a 20 c2, evW g a 20 e2, stO g a 30 v3, cdW g a 30 c3, evW g a 30 e3, hiO g a h, hrW g a t, stF g a vs, cdF g a cs, evF g a es, prO g b q, caW g b t2, cmF g b ws, sbO g y zz k, baW g zz n f, mdO g d m, iaW g (d 1) 110 r1, iaW g (d 2) 110 r2, iaW g (d 3) 110 r3, iaW g (d 4) 110 r4, iaW g (d 5) 880 r5, iaW g (d 6) 200 r6, iaW g (d 7) 60 r7, iaW g (d 8) 124 r8, loW g w lo, doW g w2 dd] (x_pickD [0, 1, 2, 3, 4, 5, 6, 7, 8, 9, 10, 11, 12, 13, 14, 15, 16, 17, 18, 19, 20, 21, 22, 23, 24, 25, 26, 27, 28, 29, 30] 31 rfl rfl rfl) rfl rfl (Nat.le_of_ble_eq_true rfl) ⟨by omega, by omega⟩ dL_law_1670 (x_goD (wss2 := [ccO g a b y z, stO g a 10 v, cdW g a 10 c, evW g a 10 e, stO g a 20 v2, cdW g a 20 c2, evW g a 20 e2, stO g a 30 v3, cdW g a 30 c3, evW g a 30 e3, hiO g a h, hrW g a t, stF g a vs, cdF g a cs, evF g a es, prO g b q, caW g b t2, cmF g b ws, sbO g y zz k, baW g zz n f, mdO g d m, iaW g (d 1) 110 r1, iaW g (d 2) 110 r2, iaW g (d 3) 110 r3, iaW g (d 4) 110 r4, iaW g (d 5) 880 r5, iaW g (d 6) 200 r6, iaW g (d 7) 60 r7, iaW g (d 8) 124 r8, loW g w lo, doW g w2 dd]) (stk2 := [.long u1]) rfl rfl ?_)
  refine x_aload_n C dL_law_1673 rfl 2 rfl ?_
  obtain ⟨u2, hu2, hf⟩ := x_b hf
  refine x_callV (n := 0) (As := []) (rest := [.long u1]) C (c_X10_addedWaxByParts g l d m r1 hu2) ⟨⟨wd_1789, wd_1786, wd_78⟩, ⟨by decide, by decide, by decide⟩, rfl, rfl, Nat.le_of_ble_eq_true rfl, Nat.le_of_ble_eq_true rfl⟩ wd_1787 wd_1788 ⟨0, 11, _, _, rfl, rfl, rfl⟩ [ccO g a b y z, stO g a 10 v, cdW g a 10 c, evW g a 10 e, stO g a 20 v2, cdW g a 20 c2, evW g a 20 e2, stO g a 30 v3, cdW g a 30 c3, evW g a 30 e3, hiO g a h, hrW g a t, stF g a vs, cdF g a cs, evF g a es, prO g b q, caW g b t2, cmF g b ws, sbO g y zz k, baW g zz n f, iaW g (d 2) 110 r2, iaW g (d 3) 110 r3, iaW g (d 4) 110 r4, iaW g (d 5) 880 r5, iaW g (d 6) 200 r6, iaW g (d 7) 60 r7, iaW g (d 8) 124 r8, loW g w lo, doW g w2 dd] (x_pickD [20, 21, 0, 1, 2, 3, 4, 5, 6, 7, 8, 9, 10, 11, 12, 13, 14, 15, 16, 17, 18, 19, 22, 23, 24, 25, 26, 27, 28, 29, 30] 31 rfl rfl rfl) rfl rfl (Nat.le_of_ble_eq_true rfl) ⟨by omega, by omega⟩ dL_law_1674 (x_goD (wss2 := [mdO g d u2.2, iaW g (d 1) 110 r1, ccO g a b y z, stO g a 10 v, cdW g a 10 c, evW g a 10 e, stO g a 20 v2, cdW g a 20 c2, evW g a 20 e2, stO g a 30 v3, cdW g a 30 c3, evW g a 30 e3, hiO g a h, hrW g a t, stF g a vs, cdF g a cs, evF g a es, prO g b q, caW g b t2, cmF g b ws, sbO g y zz k, baW g zz n f, iaW g (d 2) 110 r2, iaW g (d 3) 110 r3, iaW g (d 4) 110 r4, iaW g (d 5) 880 r5, iaW g (d 6) 200 r6, iaW g (d 7) 60 r7, iaW g (d 8) 124 r8, loW g w lo, doW g w2 dd]) (stk2 := [.long u2.1, .long u1]) rfl rfl ?_)
  refine x_lcmp C dL_law_1677 ?_
  refine x_if_eq (tgt := 2256) C dL_law_1678 (by decide) (fun h3 => ?_) (fun h3 => ?_)
  · have hf := x_t h3 hf
    refine x_perm (wss' := [ccO g a b y z, stO g a 10 v, cdW g a 10 c, evW g a 10 e, stO g a 20 v2, cdW g a 20 c2, evW g a 20 e2, stO g a 30 v3, cdW g a 30 c3, evW g a 30 e3, hiO g a h, hrW g a t, stF g a vs, cdF g a cs, evF g a es, prO g b q, caW g b t2, cmF g b ws, sbO g y zz k, baW g zz n f, mdO g d u2.2, iaW g (d 1) 110 r1, iaW g (d 2) 110 r2, iaW g (d 3) 110 r3, iaW g (d 4) 110 r4, iaW g (d 5) 880 r5, iaW g (d 6) 200 r6, iaW g (d 7) 60 r7, iaW g (d 8) 124 r8, loW g w lo, doW g w2 dd]) (x_pick [2, 3, 4, 5, 6, 7, 8, 9, 10, 11, 12, 13, 14, 15, 16, 17, 18, 19, 20, 21, 0, 1, 22, 23, 24, 25, 26, 27, 28, 29, 30] 31 rfl rfl rfl) ?_
    refine x_locals (lv' := [(0, .ref sb), (1, .ref (a 0)), (2, .ref (d 0)), (3, .ref w), (4, .ref w2), (5, .int i)]) [0, 1, 2, 3, 4, 5] rfl ?_
    refine x_widen (k := cells + 292) (n := slots + 5516) (by omega) (by omega) ?_
    obtain rfl := Option.some.inj hf
    exact kk zz
  · have hf := x_f h3 hf
    cases hf
set_option maxHeartbeats 4000000 in
set_option maxRecDepth 100000 in
theorem c_law_1683 (a : Nat → Nat) (b : Nat → Nat) (y : Nat) (zz : Nat) (n : Nat) (d : Nat → Nat) (w : Nat) (w2 : Nat) (C : CX g RL cL_law 9 A pW sW mW argsW methW c9) (hl : l.stackTraces = false) (hX : va_X sb L xs sW sW.heap) (hbl : sb < sW.heap.size) (hbA : ¬ A sb) (hc : cells + 292 ≤ room_1.cells) (hs : slots + 5516 ≤ room_1.slots) (z : CcT) (v : StS) (c : CdT) (e : EvT) (v2 : StS) (c2 : CdT) (e2 : EvT) (v3 : StS) (c3 : CdT) (e3 : EvT) (h : HiT) (t : Unit) (vs : (Nat → StS)) (cs : (Nat → CdT)) (es : (Nat → EvT)) (q : PrT) (t2 : Unit) (ws : (Nat → CmT)) (k : SbT) (f : (Nat → Int32)) (m : MdT) (r1 : (Nat → Int32)) (r2 : (Nat → Int32)) (r3 : (Nat → Int32)) (r4 : (Nat → Int32)) (r5 : (Nat → Int32)) (r6 : (Nat → Int32)) (r7 : (Nat → Int32)) (r8 : (Nat → Int32)) (lo : (Nat → Int64)) (dd : (Nat → UInt64)) (i : Int32) {u : LwT} (hf : f_law_1683 n L xs z v c e v2 c2 e2 v3 c3 e3 h t vs cs es q t2 ws k f m r1 r2 r3 r4 r5 r6 r7 r8 lo dd i = some u)
    (kk : ∀ zz' : Nat, VW g A 9 pW l eW room_1 sW mW argsW belowW methW c9 (cells + 292) (slots + 5516) Q [ccO g a b y u.1, stO g a 10 u.2.1, cdW g a 10 u.2.2.1, evW g a 10 u.2.2.2.1, stO g a 20 u.2.2.2.2.1, cdW g a 20 u.2.2.2.2.2.1, evW g a 20 u.2.2.2.2.2.2.1, stO g a 30 u.2.2.2.2.2.2.2.1, cdW g a 30 u.2.2.2.2.2.2.2.2.1, evW g a 30 u.2.2.2.2.2.2.2.2.2.1, hiO g a u.2.2.2.2.2.2.2.2.2.2.1, hrW g a u.2.2.2.2.2.2.2.2.2.2.2.1, stF g a u.2.2.2.2.2.2.2.2.2.2.2.2.1, cdF g a u.2.2.2.2.2.2.2.2.2.2.2.2.2.1, evF g a u.2.2.2.2.2.2.2.2.2.2.2.2.2.2.1, prO g b u.2.2.2.2.2.2.2.2.2.2.2.2.2.2.2.1, caW g b u.2.2.2.2.2.2.2.2.2.2.2.2.2.2.2.2.1, cmF g b u.2.2.2.2.2.2.2.2.2.2.2.2.2.2.2.2.2.1, sbO g y zz' u.2.2.2.2.2.2.2.2.2.2.2.2.2.2.2.2.2.2.1, baW g zz' u.2.2.2.2.2.2.2.2.2.2.2.2.2.2.2.2.2.2.2.2.2.2.2.2.2.2.2.2.2.2.2 u.2.2.2.2.2.2.2.2.2.2.2.2.2.2.2.2.2.2.2.1, mdO g d u.2.2.2.2.2.2.2.2.2.2.2.2.2.2.2.2.2.2.2.2.1, iaW g (d 1) 110 u.2.2.2.2.2.2.2.2.2.2.2.2.2.2.2.2.2.2.2.2.2.1, iaW g (d 2) 110 u.2.2.2.2.2.2.2.2.2.2.2.2.2.2.2.2.2.2.2.2.2.2.1, iaW g (d 3) 110 u.2.2.2.2.2.2.2.2.2.2.2.2.2.2.2.2.2.2.2.2.2.2.2.1, iaW g (d 4) 110 u.2.2.2.2.2.2.2.2.2.2.2.2.2.2.2.2.2.2.2.2.2.2.2.2.1, iaW g (d 5) 880 u.2.2.2.2.2.2.2.2.2.2.2.2.2.2.2.2.2.2.2.2.2.2.2.2.2.1, iaW g (d 6) 200 u.2.2.2.2.2.2.2.2.2.2.2.2.2.2.2.2.2.2.2.2.2.2.2.2.2.2.1, iaW g (d 7) 60 u.2.2.2.2.2.2.2.2.2.2.2.2.2.2.2.2.2.2.2.2.2.2.2.2.2.2.2.1, iaW g (d 8) 124 u.2.2.2.2.2.2.2.2.2.2.2.2.2.2.2.2.2.2.2.2.2.2.2.2.2.2.2.2.1, loW g w u.2.2.2.2.2.2.2.2.2.2.2.2.2.2.2.2.2.2.2.2.2.2.2.2.2.2.2.2.2.1, doW g w2 u.2.2.2.2.2.2.2.2.2.2.2.2.2.2.2.2.2.2.2.2.2.2.2.2.2.2.2.2.2.2.1] [(0, .ref sb), (1, .ref (a 0)), (2, .ref (d 0)), (3, .ref w), (4, .ref w2), (5, .int i)] 2256 []) : VW g A 9 pW l eW room_1 sW mW argsW belowW methW c9 cells slots Q [ccO g a b y z, stO g a 10 v, cdW g a 10 c, evW g a 10 e, stO g a 20 v2, cdW g a 20 c2, evW g a 20 e2, stO g a 30 v3, cdW g a 30 c3, evW g a 30 e3, hiO g a h, hrW g a t, stF g a vs, cdF g a cs, evF g a es, prO g b q, caW g b t2, cmF g b ws, sbO g y zz k, baW g zz n f, mdO g d m, iaW g (d 1) 110 r1, iaW g (d 2) 110 r2, iaW g (d 3) 110 r3, iaW g (d 4) 110 r4, iaW g (d 5) 880 r5, iaW g (d 6) 200 r6, iaW g (d 7) 60 r7, iaW g (d 8) 124 r8, loW g w lo, doW g w2 dd] [(0, .ref sb), (1, .ref (a 0)), (2, .ref (d 0)), (3, .ref w), (4, .ref w2), (5, .int i)] 1683 [] := by
  unfold f_law_1683 at hf
  have C : CX g RL cL_law 9 A pW sW mW argsW methW c9 := C
  refine x_aload_n C dL_law_1683 rfl 1 rfl ?_
  obtain ⟨u1, hu1, hf⟩ := x_b hf
  refine x_callV (n := 0) (As := []) (rest := []) C (c_X9_burnt g l a b y z v hu1) ⟨⟨wd_492, wd_489, wd_65⟩, ⟨by decide, by decide, by decide⟩, rfl, rfl, Nat.le_of_ble_eq_true rfl, Nat.le_of_ble_eq_true rfl⟩ wd_490 wd_491 ⟨0, 10, _, _, rfl, rfl, rfl⟩ [cdW g a 10 c, evW g a 10 e, stO g a 20 v2, cdW g a 20 c2, evW g a 20 e2, stO g a 30 v3, cdW g a 30 c3, evW g a 30 e3, hiO g a h, hrW g a t, stF g a vs, cdF g a cs, evF g a es, prO g b q, caW g b t2, cmF g b ws, sbO g y zz k, baW g zz n f, mdO g d m, iaW g (d 1) 110 r1, iaW g (d 2) 110 r2, iaW g (d 3) 110 r3, iaW g (d 4) 110 r4, iaW g (d 5) 880 r5, iaW g (d 6) 200 r6, iaW g (d 7) 60 r7, iaW g (d 8) 124 r8, loW g w lo, doW g w2 dd] (x_pickD [0, 1, 2, 3, 4, 5, 6, 7, 8, 9, 10, 11, 12, 13, 14, 15, 16, 17, 18, 19, 20, 21, 22, 23, 24, 25, 26, 27, 28, 29, 30] 31 rfl rfl rfl) rfl rfl (Nat.le_of_ble_eq_true rfl) ⟨by omega, by omega⟩ dL_law_1684 (x_goD (wss2 := [ccO g a b y z, stO g a 10 v, cdW g a 10 c, evW g a 10 e, stO g a 20 v2, cdW g a 20 c2, evW g a 20 e2, stO g a 30 v3, cdW g a 30 c3, evW g a 30 e3, hiO g a h, hrW g a t, stF g a vs, cdF g a cs, evF g a es, prO g b q, caW g b t2, cmF g b ws, sbO g y zz k, baW g zz n f, mdO g d m, iaW g (d 1) 110 r1, iaW g (d 2) 110 r2, iaW g (d 3) 110 r3, iaW g (d 4) 110 r4, iaW g (d 5) 880 r5, iaW g (d 6) 200 r6, iaW g (d 7) 60 r7, iaW g (d 8) 124 r8, loW g w lo, doW g w2 dd]) (stk2 := [.int u1]) rfl rfl ?_)
  refine x_aload_n C dL_law_1687 rfl 2 rfl ?_
  obtain ⟨u2, hu2, hf⟩ := x_b hf
  refine x_callV (n := 0) (As := []) (rest := [.int u1]) C (c_X10_burnt g l d m r1 hu2) ⟨⟨wd_1794, wd_1791, wd_78⟩, ⟨by decide, by decide, by decide⟩, rfl, rfl, Nat.le_of_ble_eq_true rfl, Nat.le_of_ble_eq_true rfl⟩ wd_1792 wd_1793 ⟨0, 11, _, _, rfl, rfl, rfl⟩ [ccO g a b y z, stO g a 10 v, cdW g a 10 c, evW g a 10 e, stO g a 20 v2, cdW g a 20 c2, evW g a 20 e2, stO g a 30 v3, cdW g a 30 c3, evW g a 30 e3, hiO g a h, hrW g a t, stF g a vs, cdF g a cs, evF g a es, prO g b q, caW g b t2, cmF g b ws, sbO g y zz k, baW g zz n f, iaW g (d 2) 110 r2, iaW g (d 3) 110 r3, iaW g (d 4) 110 r4, iaW g (d 5) 880 r5, iaW g (d 6) 200 r6, iaW g (d 7) 60 r7, iaW g (d 8) 124 r8, loW g w lo, doW g w2 dd] (x_pickD [20, 21, 0, 1, 2, 3, 4, 5, 6, 7, 8, 9, 10, 11, 12, 13, 14, 15, 16, 17, 18, 19, 22, 23, 24, 25, 26, 27, 28, 29, 30] 31 rfl rfl rfl) rfl rfl (Nat.le_of_ble_eq_true rfl) ⟨by omega, by omega⟩ dL_law_1688 (x_goD (wss2 := [mdO g d u2.2, iaW g (d 1) 110 r1, ccO g a b y z, stO g a 10 v, cdW g a 10 c, evW g a 10 e, stO g a 20 v2, cdW g a 20 c2, evW g a 20 e2, stO g a 30 v3, cdW g a 30 c3, evW g a 30 e3, hiO g a h, hrW g a t, stF g a vs, cdF g a cs, evF g a es, prO g b q, caW g b t2, cmF g b ws, sbO g y zz k, baW g zz n f, iaW g (d 2) 110 r2, iaW g (d 3) 110 r3, iaW g (d 4) 110 r4, iaW g (d 5) 880 r5, iaW g (d 6) 200 r6, iaW g (d 7) 60 r7, iaW g (d 8) 124 r8, loW g w lo, doW g w2 dd]) (stk2 := [.int u2.1, .int u1]) rfl rfl ?_)
  refine x_icmp_eq (tgt := 2256) C dL_law_1691 (by decide) (fun h3 => ?_) (fun h3 => ?_)
  · have hf := x_t h3 hf
    refine x_perm (wss' := [ccO g a b y z, stO g a 10 v, cdW g a 10 c, evW g a 10 e, stO g a 20 v2, cdW g a 20 c2, evW g a 20 e2, stO g a 30 v3, cdW g a 30 c3, evW g a 30 e3, hiO g a h, hrW g a t, stF g a vs, cdF g a cs, evF g a es, prO g b q, caW g b t2, cmF g b ws, sbO g y zz k, baW g zz n f, mdO g d u2.2, iaW g (d 1) 110 r1, iaW g (d 2) 110 r2, iaW g (d 3) 110 r3, iaW g (d 4) 110 r4, iaW g (d 5) 880 r5, iaW g (d 6) 200 r6, iaW g (d 7) 60 r7, iaW g (d 8) 124 r8, loW g w lo, doW g w2 dd]) (x_pick [2, 3, 4, 5, 6, 7, 8, 9, 10, 11, 12, 13, 14, 15, 16, 17, 18, 19, 20, 21, 0, 1, 22, 23, 24, 25, 26, 27, 28, 29, 30] 31 rfl rfl rfl) ?_
    refine x_locals (lv' := [(0, .ref sb), (1, .ref (a 0)), (2, .ref (d 0)), (3, .ref w), (4, .ref w2), (5, .int i)]) [0, 1, 2, 3, 4, 5] rfl ?_
    refine x_widen (k := cells + 292) (n := slots + 5516) (by omega) (by omega) ?_
    obtain rfl := Option.some.inj hf
    exact kk zz
  · have hf := x_f h3 hf
    cases hf
set_option maxHeartbeats 4000000 in
set_option maxRecDepth 100000 in
theorem c_law_1696 (a : Nat → Nat) (b : Nat → Nat) (y : Nat) (zz : Nat) (n : Nat) (d : Nat → Nat) (w : Nat) (w2 : Nat) (C : CX g RL cL_law 9 A pW sW mW argsW methW c9) (hl : l.stackTraces = false) (hX : va_X sb L xs sW sW.heap) (hbl : sb < sW.heap.size) (hbA : ¬ A sb) (hc : cells + 292 ≤ room_1.cells) (hs : slots + 5516 ≤ room_1.slots) (z : CcT) (v : StS) (c : CdT) (e : EvT) (v2 : StS) (c2 : CdT) (e2 : EvT) (v3 : StS) (c3 : CdT) (e3 : EvT) (h : HiT) (t : Unit) (vs : (Nat → StS)) (cs : (Nat → CdT)) (es : (Nat → EvT)) (q : PrT) (t2 : Unit) (ws : (Nat → CmT)) (k : SbT) (f : (Nat → Int32)) (m : MdT) (r1 : (Nat → Int32)) (r2 : (Nat → Int32)) (r3 : (Nat → Int32)) (r4 : (Nat → Int32)) (r5 : (Nat → Int32)) (r6 : (Nat → Int32)) (r7 : (Nat → Int32)) (r8 : (Nat → Int32)) (lo : (Nat → Int64)) (dd : (Nat → UInt64)) (i : Int32) {u : LwT} (hf : f_law_1696 n L xs z v c e v2 c2 e2 v3 c3 e3 h t vs cs es q t2 ws k f m r1 r2 r3 r4 r5 r6 r7 r8 lo dd i = some u)
    (kk : ∀ zz' : Nat, VW g A 9 pW l eW room_1 sW mW argsW belowW methW c9 (cells + 292) (slots + 5516) Q [ccO g a b y u.1, stO g a 10 u.2.1, cdW g a 10 u.2.2.1, evW g a 10 u.2.2.2.1, stO g a 20 u.2.2.2.2.1, cdW g a 20 u.2.2.2.2.2.1, evW g a 20 u.2.2.2.2.2.2.1, stO g a 30 u.2.2.2.2.2.2.2.1, cdW g a 30 u.2.2.2.2.2.2.2.2.1, evW g a 30 u.2.2.2.2.2.2.2.2.2.1, hiO g a u.2.2.2.2.2.2.2.2.2.2.1, hrW g a u.2.2.2.2.2.2.2.2.2.2.2.1, stF g a u.2.2.2.2.2.2.2.2.2.2.2.2.1, cdF g a u.2.2.2.2.2.2.2.2.2.2.2.2.2.1, evF g a u.2.2.2.2.2.2.2.2.2.2.2.2.2.2.1, prO g b u.2.2.2.2.2.2.2.2.2.2.2.2.2.2.2.1, caW g b u.2.2.2.2.2.2.2.2.2.2.2.2.2.2.2.2.1, cmF g b u.2.2.2.2.2.2.2.2.2.2.2.2.2.2.2.2.2.1, sbO g y zz' u.2.2.2.2.2.2.2.2.2.2.2.2.2.2.2.2.2.2.1, baW g zz' u.2.2.2.2.2.2.2.2.2.2.2.2.2.2.2.2.2.2.2.2.2.2.2.2.2.2.2.2.2.2.2 u.2.2.2.2.2.2.2.2.2.2.2.2.2.2.2.2.2.2.2.1, mdO g d u.2.2.2.2.2.2.2.2.2.2.2.2.2.2.2.2.2.2.2.2.1, iaW g (d 1) 110 u.2.2.2.2.2.2.2.2.2.2.2.2.2.2.2.2.2.2.2.2.2.1, iaW g (d 2) 110 u.2.2.2.2.2.2.2.2.2.2.2.2.2.2.2.2.2.2.2.2.2.2.1, iaW g (d 3) 110 u.2.2.2.2.2.2.2.2.2.2.2.2.2.2.2.2.2.2.2.2.2.2.2.1, iaW g (d 4) 110 u.2.2.2.2.2.2.2.2.2.2.2.2.2.2.2.2.2.2.2.2.2.2.2.2.1, iaW g (d 5) 880 u.2.2.2.2.2.2.2.2.2.2.2.2.2.2.2.2.2.2.2.2.2.2.2.2.2.1, iaW g (d 6) 200 u.2.2.2.2.2.2.2.2.2.2.2.2.2.2.2.2.2.2.2.2.2.2.2.2.2.2.1, iaW g (d 7) 60 u.2.2.2.2.2.2.2.2.2.2.2.2.2.2.2.2.2.2.2.2.2.2.2.2.2.2.2.1, iaW g (d 8) 124 u.2.2.2.2.2.2.2.2.2.2.2.2.2.2.2.2.2.2.2.2.2.2.2.2.2.2.2.2.1, loW g w u.2.2.2.2.2.2.2.2.2.2.2.2.2.2.2.2.2.2.2.2.2.2.2.2.2.2.2.2.2.1, doW g w2 u.2.2.2.2.2.2.2.2.2.2.2.2.2.2.2.2.2.2.2.2.2.2.2.2.2.2.2.2.2.2.1] [(0, .ref sb), (1, .ref (a 0)), (2, .ref (d 0)), (3, .ref w), (4, .ref w2), (5, .int i)] 2256 []) : VW g A 9 pW l eW room_1 sW mW argsW belowW methW c9 cells slots Q [ccO g a b y z, stO g a 10 v, cdW g a 10 c, evW g a 10 e, stO g a 20 v2, cdW g a 20 c2, evW g a 20 e2, stO g a 30 v3, cdW g a 30 c3, evW g a 30 e3, hiO g a h, hrW g a t, stF g a vs, cdF g a cs, evF g a es, prO g b q, caW g b t2, cmF g b ws, sbO g y zz k, baW g zz n f, mdO g d m, iaW g (d 1) 110 r1, iaW g (d 2) 110 r2, iaW g (d 3) 110 r3, iaW g (d 4) 110 r4, iaW g (d 5) 880 r5, iaW g (d 6) 200 r6, iaW g (d 7) 60 r7, iaW g (d 8) 124 r8, loW g w lo, doW g w2 dd] [(0, .ref sb), (1, .ref (a 0)), (2, .ref (d 0)), (3, .ref w), (4, .ref w2), (5, .int i)] 1696 [] := by
  unfold f_law_1696 at hf
  have C : CX g RL cL_law 9 A pW sW mW argsW methW c9 := C
  refine x_aload_n C dL_law_1696 rfl 1 rfl ?_
  refine x_aload C dL_law_1697 4 rfl ?_
  obtain ⟨u1, hu1, hf⟩ := x_b hf
  refine x_hcallS (n := 2) (As := [.ref (a 0), .ref w2]) (rest := []) C (c_L_meanWax g l hl a b y w2 z v c dd hu1) ⟨⟨wd_1256, wd_1254, wd_64⟩, ⟨by decide, by decide, by decide⟩, rfl, rfl, Nat.le_of_ble_eq_true rfl, Nat.le_of_ble_eq_true rfl⟩ wd_1255 [evW g a 10 e, stO g a 20 v2, cdW g a 20 c2, evW g a 20 e2, stO g a 30 v3, cdW g a 30 c3, evW g a 30 e3, hiO g a h, hrW g a t, stF g a vs, cdF g a cs, evF g a es, prO g b q, caW g b t2, cmF g b ws, sbO g y zz k, baW g zz n f, mdO g d m, iaW g (d 1) 110 r1, iaW g (d 2) 110 r2, iaW g (d 3) 110 r3, iaW g (d 4) 110 r4, iaW g (d 5) 880 r5, iaW g (d 6) 200 r6, iaW g (d 7) 60 r7, iaW g (d 8) 124 r8, loW g w lo] (x_pickD [0, 1, 2, 30, 3, 4, 5, 6, 7, 8, 9, 10, 11, 12, 13, 14, 15, 16, 17, 18, 19, 20, 21, 22, 23, 24, 25, 26, 27, 28, 29] 31 rfl rfl rfl) rfl rfl (Nat.le_of_ble_eq_true rfl) ⟨by omega, by omega⟩ dL_law_1699 (fun v9 w9 hQ9 => ?_)
  obtain ⟨rfl, rfl⟩ := hQ9
  refine x_goW (wss2 := [ccO g a b y z, stO g a 10 v, cdW g a 10 c, doW g w2 u1.2, evW g a 10 e, stO g a 20 v2, cdW g a 20 c2, evW g a 20 e2, stO g a 30 v3, cdW g a 30 c3, evW g a 30 e3, hiO g a h, hrW g a t, stF g a vs, cdF g a cs, evF g a es, prO g b q, caW g b t2, cmF g b ws, sbO g y zz k, baW g zz n f, mdO g d m, iaW g (d 1) 110 r1, iaW g (d 2) 110 r2, iaW g (d 3) 110 r3, iaW g (d 4) 110 r4, iaW g (d 5) 880 r5, iaW g (d 6) 200 r6, iaW g (d 7) 60 r7, iaW g (d 8) 124 r8, loW g w lo]) (stk2 := [.int u1.1]) rfl rfl rfl ?_
  refine x_istore (lv' := [(6, .int u1.1), (0, .ref sb), (1, .ref (a 0)), (2, .ref (d 0)), (3, .ref w), (4, .ref w2), (5, .int i)]) C dL_law_1702 (by decide) rfl ?_
  refine x_aload_n C dL_law_1704 rfl 3 rfl ?_
  obtain ⟨u2, hu2, hf⟩ := x_b hf
  refine x_callV (n := 0) (As := []) (rest := []) C (c_X10_meanWax g l d m r1 hu2) ⟨⟨wd_1798, wd_1795, wd_78⟩, ⟨by decide, by decide, by decide⟩, rfl, rfl, Nat.le_of_ble_eq_true rfl, Nat.le_of_ble_eq_true rfl⟩ wd_1796 wd_1797 ⟨0, 11, _, _, rfl, rfl, rfl⟩ [ccO g a b y z, stO g a 10 v, cdW g a 10 c, doW g w2 u1.2, evW g a 10 e, stO g a 20 v2, cdW g a 20 c2, evW g a 20 e2, stO g a 30 v3, cdW g a 30 c3, evW g a 30 e3, hiO g a h, hrW g a t, stF g a vs, cdF g a cs, evF g a es, prO g b q, caW g b t2, cmF g b ws, sbO g y zz k, baW g zz n f, iaW g (d 2) 110 r2, iaW g (d 3) 110 r3, iaW g (d 4) 110 r4, iaW g (d 5) 880 r5, iaW g (d 6) 200 r6, iaW g (d 7) 60 r7, iaW g (d 8) 124 r8, loW g w lo] (x_pickD [21, 22, 0, 1, 2, 3, 4, 5, 6, 7, 8, 9, 10, 11, 12, 13, 14, 15, 16, 17, 18, 19, 20, 23, 24, 25, 26, 27, 28, 29, 30] 31 rfl rfl rfl) rfl rfl (Nat.le_of_ble_eq_true rfl) ⟨by omega, by omega⟩ dL_law_1705 (x_goD (wss2 := [mdO g d u2.2, iaW g (d 1) 110 r1, ccO g a b y z, stO g a 10 v, cdW g a 10 c, doW g w2 u1.2, evW g a 10 e, stO g a 20 v2, cdW g a 20 c2, evW g a 20 e2, stO g a 30 v3, cdW g a 30 c3, evW g a 30 e3, hiO g a h, hrW g a t, stF g a vs, cdF g a cs, evF g a es, prO g b q, caW g b t2, cmF g b ws, sbO g y zz k, baW g zz n f, iaW g (d 2) 110 r2, iaW g (d 3) 110 r3, iaW g (d 4) 110 r4, iaW g (d 5) 880 r5, iaW g (d 6) 200 r6, iaW g (d 7) 60 r7, iaW g (d 8) 124 r8, loW g w lo]) (stk2 := [.double u2.1]) rfl rfl ?_)
  refine x_dstore (lv' := [(7, .double u2.1), (6, .int u1.1), (0, .ref sb), (1, .ref (a 0)), (2, .ref (d 0)), (3, .ref w), (4, .ref w2), (5, .int i)]) C dL_law_1708 (by decide) rfl ?_
  refine x_aload_n C dL_law_1710 rfl 4 rfl ?_
  obtain ⟨u3, hu3, hf⟩ := x_b hf
  refine x_callV (n := 0) (As := []) (rest := []) C (c_X10_thrown g l d u2.2 hu3) ⟨⟨wd_1550, wd_1547, wd_78⟩, ⟨by decide, by decide, by decide⟩, rfl, rfl, Nat.le_of_ble_eq_true rfl, Nat.le_of_ble_eq_true rfl⟩ wd_1548 wd_1549 ⟨0, 11, _, _, rfl, rfl, rfl⟩ [iaW g (d 1) 110 r1, ccO g a b y z, stO g a 10 v, cdW g a 10 c, doW g w2 u1.2, evW g a 10 e, stO g a 20 v2, cdW g a 20 c2, evW g a 20 e2, stO g a 30 v3, cdW g a 30 c3, evW g a 30 e3, hiO g a h, hrW g a t, stF g a vs, cdF g a cs, evF g a es, prO g b q, caW g b t2, cmF g b ws, sbO g y zz k, baW g zz n f, iaW g (d 2) 110 r2, iaW g (d 3) 110 r3, iaW g (d 4) 110 r4, iaW g (d 5) 880 r5, iaW g (d 6) 200 r6, iaW g (d 7) 60 r7, iaW g (d 8) 124 r8, loW g w lo] (x_pickD [0, 1, 2, 3, 4, 5, 6, 7, 8, 9, 10, 11, 12, 13, 14, 15, 16, 17, 18, 19, 20, 21, 22, 23, 24, 25, 26, 27, 28, 29, 30] 31 rfl rfl rfl) rfl rfl (Nat.le_of_ble_eq_true rfl) ⟨by omega, by omega⟩ dL_law_1711 (x_goD (wss2 := [mdO g d u2.2, iaW g (d 1) 110 r1, ccO g a b y z, stO g a 10 v, cdW g a 10 c, doW g w2 u1.2, evW g a 10 e, stO g a 20 v2, cdW g a 20 c2, evW g a 20 e2, stO g a 30 v3, cdW g a 30 c3, evW g a 30 e3, hiO g a h, hrW g a t, stF g a vs, cdF g a cs, evF g a es, prO g b q, caW g b t2, cmF g b ws, sbO g y zz k, baW g zz n f, iaW g (d 2) 110 r2, iaW g (d 3) 110 r3, iaW g (d 4) 110 r4, iaW g (d 5) 880 r5, iaW g (d 6) 200 r6, iaW g (d 7) 60 r7, iaW g (d 8) 124 r8, loW g w lo]) (stk2 := [.int u3]) rfl rfl ?_)
  refine x_iload C dL_law_1714 1 rfl ?_
  refine x_icmp_eq (tgt := 1721) C dL_law_1716 (by decide) (fun h4 => ?_) (fun h4 => ?_)
  · have hf := x_t h4 hf
    refine x_iload C dL_law_1721 1 rfl ?_
    refine x_if_ne (tgt := 1758) C dL_law_1723 (by decide) (fun h5 => ?_) (fun h5 => ?_)
    · have hf := x_f h5 hf
      refine x_goto (tgt := 2256) C dL_law_1758 (by decide) ?_
      refine x_perm (wss' := [ccO g a b y z, stO g a 10 v, cdW g a 10 c, evW g a 10 e, stO g a 20 v2, cdW g a 20 c2, evW g a 20 e2, stO g a 30 v3, cdW g a 30 c3, evW g a 30 e3, hiO g a h, hrW g a t, stF g a vs, cdF g a cs, evF g a es, prO g b q, caW g b t2, cmF g b ws, sbO g y zz k, baW g zz n f, mdO g d u2.2, iaW g (d 1) 110 r1, iaW g (d 2) 110 r2, iaW g (d 3) 110 r3, iaW g (d 4) 110 r4, iaW g (d 5) 880 r5, iaW g (d 6) 200 r6, iaW g (d 7) 60 r7, iaW g (d 8) 124 r8, loW g w lo, doW g w2 u1.2]) (x_pick [2, 3, 4, 6, 7, 8, 9, 10, 11, 12, 13, 14, 15, 16, 17, 18, 19, 20, 21, 22, 0, 1, 23, 24, 25, 26, 27, 28, 29, 30, 5] 31 rfl rfl rfl) ?_
      refine x_locals (lv' := [(0, .ref sb), (1, .ref (a 0)), (2, .ref (d 0)), (3, .ref w), (4, .ref w2), (5, .int i)]) [2, 3, 4, 5, 6, 7] rfl ?_
      refine x_widen (k := cells + 292) (n := slots + 5516) (by omega) (by omega) ?_
      obtain rfl := Option.some.inj hf
      exact kk zz
    · have hf := x_t h5 hf
      refine x_aload C dL_law_1726 6 rfl ?_
      refine x_iconst (v := 0) C dL_law_1728 (by decide) ?_
      obtain ⟨h6, hf⟩ := x_n hf
      refine x_dald (b := doW g w2 u1.2) C 5 rfl 0 (doW_at0 g w2 _) h6 dL_law_1729 ?_
      refine x_dload C dL_law_1730 0 rfl ?_
      refine x_dcmp C dL_law_1732 ?_
      refine x_if_eq (tgt := 1758) C dL_law_1733 (by decide) (fun h7 => ?_) (fun h7 => ?_)
      · have hf := x_t h7 hf
        refine x_goto (tgt := 2256) C dL_law_1758 (by decide) ?_
        refine x_perm (wss' := [ccO g a b y z, stO g a 10 v, cdW g a 10 c, evW g a 10 e, stO g a 20 v2, cdW g a 20 c2, evW g a 20 e2, stO g a 30 v3, cdW g a 30 c3, evW g a 30 e3, hiO g a h, hrW g a t, stF g a vs, cdF g a cs, evF g a es, prO g b q, caW g b t2, cmF g b ws, sbO g y zz k, baW g zz n f, mdO g d u2.2, iaW g (d 1) 110 r1, iaW g (d 2) 110 r2, iaW g (d 3) 110 r3, iaW g (d 4) 110 r4, iaW g (d 5) 880 r5, iaW g (d 6) 200 r6, iaW g (d 7) 60 r7, iaW g (d 8) 124 r8, loW g w lo, doW g w2 u1.2]) (x_pick [2, 3, 4, 6, 7, 8, 9, 10, 11, 12, 13, 14, 15, 16, 17, 18, 19, 20, 21, 22, 0, 1, 23, 24, 25, 26, 27, 28, 29, 30, 5] 31 rfl rfl rfl) ?_
        refine x_locals (lv' := [(0, .ref sb), (1, .ref (a 0)), (2, .ref (d 0)), (3, .ref w), (4, .ref w2), (5, .int i)]) [2, 3, 4, 5, 6, 7] rfl ?_
        refine x_widen (k := cells + 292) (n := slots + 5516) (by omega) (by omega) ?_
        obtain rfl := Option.some.inj hf
        exact kk zz
      · have hf := x_f h7 hf
        refine x_aload C dL_law_1736 6 rfl ?_
        refine x_iconst (v := 0) C dL_law_1738 (by decide) ?_
        obtain ⟨h8, hf⟩ := x_n hf
        refine x_dald (b := doW g w2 u1.2) C 5 rfl 0 (doW_at0 g w2 _) h8 dL_law_1739 ?_
        refine x_aload C dL_law_1740 6 rfl ?_
        refine x_iconst (v := 0) C dL_law_1742 (by decide) ?_
        obtain ⟨h9, hf⟩ := x_n hf
        refine x_dald (b := doW g w2 u1.2) C 5 rfl 0 (doW_at0 g w2 _) h9 dL_law_1743 ?_
        refine x_dcmp C dL_law_1744 ?_
        refine x_if_eq (tgt := 1756) C dL_law_1745 (by decide) (fun h10 => ?_) (fun h10 => ?_)
        · have hf := x_t h10 hf
          cases hf
        · have hf := x_f h10 hf
          refine x_dload C dL_law_1748 0 rfl ?_
          refine x_dload C dL_law_1750 0 rfl ?_
          refine x_dcmp C dL_law_1752 ?_
          refine x_if_ne (tgt := 1758) C dL_law_1753 (by decide) (fun h11 => ?_) (fun h11 => ?_)
          · have hf := x_f h11 hf
            refine x_goto (tgt := 2256) C dL_law_1758 (by decide) ?_
            refine x_perm (wss' := [ccO g a b y z, stO g a 10 v, cdW g a 10 c, evW g a 10 e, stO g a 20 v2, cdW g a 20 c2, evW g a 20 e2, stO g a 30 v3, cdW g a 30 c3, evW g a 30 e3, hiO g a h, hrW g a t, stF g a vs, cdF g a cs, evF g a es, prO g b q, caW g b t2, cmF g b ws, sbO g y zz k, baW g zz n f, mdO g d u2.2, iaW g (d 1) 110 r1, iaW g (d 2) 110 r2, iaW g (d 3) 110 r3, iaW g (d 4) 110 r4, iaW g (d 5) 880 r5, iaW g (d 6) 200 r6, iaW g (d 7) 60 r7, iaW g (d 8) 124 r8, loW g w lo, doW g w2 u1.2]) (x_pick [2, 3, 4, 6, 7, 8, 9, 10, 11, 12, 13, 14, 15, 16, 17, 18, 19, 20, 21, 22, 0, 1, 23, 24, 25, 26, 27, 28, 29, 30, 5] 31 rfl rfl rfl) ?_
            refine x_locals (lv' := [(0, .ref sb), (1, .ref (a 0)), (2, .ref (d 0)), (3, .ref w), (4, .ref w2), (5, .int i)]) [2, 3, 4, 5, 6, 7] rfl ?_
            refine x_widen (k := cells + 292) (n := slots + 5516) (by omega) (by omega) ?_
            obtain rfl := Option.some.inj hf
            exact kk zz
          · have hf := x_t h11 hf
            cases hf
  · have hf := x_f h4 hf
    cases hf
set_option maxHeartbeats 4000000 in
set_option maxRecDepth 100000 in
theorem c_law_1761 (a : Nat → Nat) (b : Nat → Nat) (y : Nat) (zz : Nat) (n : Nat) (d : Nat → Nat) (w : Nat) (w2 : Nat) (C : CX g RL cL_law 9 A pW sW mW argsW methW c9) (hl : l.stackTraces = false) (hX : va_X sb L xs sW sW.heap) (hbl : sb < sW.heap.size) (hbA : ¬ A sb) (hc : cells + 292 ≤ room_1.cells) (hs : slots + 5516 ≤ room_1.slots) (z : CcT) (v : StS) (c : CdT) (e : EvT) (v2 : StS) (c2 : CdT) (e2 : EvT) (v3 : StS) (c3 : CdT) (e3 : EvT) (h : HiT) (t : Unit) (vs : (Nat → StS)) (cs : (Nat → CdT)) (es : (Nat → EvT)) (q : PrT) (t2 : Unit) (ws : (Nat → CmT)) (k : SbT) (f : (Nat → Int32)) (m : MdT) (r1 : (Nat → Int32)) (r2 : (Nat → Int32)) (r3 : (Nat → Int32)) (r4 : (Nat → Int32)) (r5 : (Nat → Int32)) (r6 : (Nat → Int32)) (r7 : (Nat → Int32)) (r8 : (Nat → Int32)) (lo : (Nat → Int64)) (dd : (Nat → UInt64)) (i : Int32) {u : LwT} (hf : f_law_1761 n L xs z v c e v2 c2 e2 v3 c3 e3 h t vs cs es q t2 ws k f m r1 r2 r3 r4 r5 r6 r7 r8 lo dd i = some u)
    (kk : ∀ zz' : Nat, VW g A 9 pW l eW room_1 sW mW argsW belowW methW c9 (cells + 292) (slots + 5516) Q [ccO g a b y u.1, stO g a 10 u.2.1, cdW g a 10 u.2.2.1, evW g a 10 u.2.2.2.1, stO g a 20 u.2.2.2.2.1, cdW g a 20 u.2.2.2.2.2.1, evW g a 20 u.2.2.2.2.2.2.1, stO g a 30 u.2.2.2.2.2.2.2.1, cdW g a 30 u.2.2.2.2.2.2.2.2.1, evW g a 30 u.2.2.2.2.2.2.2.2.2.1, hiO g a u.2.2.2.2.2.2.2.2.2.2.1, hrW g a u.2.2.2.2.2.2.2.2.2.2.2.1, stF g a u.2.2.2.2.2.2.2.2.2.2.2.2.1, cdF g a u.2.2.2.2.2.2.2.2.2.2.2.2.2.1, evF g a u.2.2.2.2.2.2.2.2.2.2.2.2.2.2.1, prO g b u.2.2.2.2.2.2.2.2.2.2.2.2.2.2.2.1, caW g b u.2.2.2.2.2.2.2.2.2.2.2.2.2.2.2.2.1, cmF g b u.2.2.2.2.2.2.2.2.2.2.2.2.2.2.2.2.2.1, sbO g y zz' u.2.2.2.2.2.2.2.2.2.2.2.2.2.2.2.2.2.2.1, baW g zz' u.2.2.2.2.2.2.2.2.2.2.2.2.2.2.2.2.2.2.2.2.2.2.2.2.2.2.2.2.2.2.2 u.2.2.2.2.2.2.2.2.2.2.2.2.2.2.2.2.2.2.2.1, mdO g d u.2.2.2.2.2.2.2.2.2.2.2.2.2.2.2.2.2.2.2.2.1, iaW g (d 1) 110 u.2.2.2.2.2.2.2.2.2.2.2.2.2.2.2.2.2.2.2.2.2.1, iaW g (d 2) 110 u.2.2.2.2.2.2.2.2.2.2.2.2.2.2.2.2.2.2.2.2.2.2.1, iaW g (d 3) 110 u.2.2.2.2.2.2.2.2.2.2.2.2.2.2.2.2.2.2.2.2.2.2.2.1, iaW g (d 4) 110 u.2.2.2.2.2.2.2.2.2.2.2.2.2.2.2.2.2.2.2.2.2.2.2.2.1, iaW g (d 5) 880 u.2.2.2.2.2.2.2.2.2.2.2.2.2.2.2.2.2.2.2.2.2.2.2.2.2.1, iaW g (d 6) 200 u.2.2.2.2.2.2.2.2.2.2.2.2.2.2.2.2.2.2.2.2.2.2.2.2.2.2.1, iaW g (d 7) 60 u.2.2.2.2.2.2.2.2.2.2.2.2.2.2.2.2.2.2.2.2.2.2.2.2.2.2.2.1, iaW g (d 8) 124 u.2.2.2.2.2.2.2.2.2.2.2.2.2.2.2.2.2.2.2.2.2.2.2.2.2.2.2.2.1, loW g w u.2.2.2.2.2.2.2.2.2.2.2.2.2.2.2.2.2.2.2.2.2.2.2.2.2.2.2.2.2.1, doW g w2 u.2.2.2.2.2.2.2.2.2.2.2.2.2.2.2.2.2.2.2.2.2.2.2.2.2.2.2.2.2.2.1] [(0, .ref sb), (1, .ref (a 0)), (2, .ref (d 0)), (3, .ref w), (4, .ref w2), (5, .int i)] 2256 []) : VW g A 9 pW l eW room_1 sW mW argsW belowW methW c9 cells slots Q [ccO g a b y z, stO g a 10 v, cdW g a 10 c, evW g a 10 e, stO g a 20 v2, cdW g a 20 c2, evW g a 20 e2, stO g a 30 v3, cdW g a 30 c3, evW g a 30 e3, hiO g a h, hrW g a t, stF g a vs, cdF g a cs, evF g a es, prO g b q, caW g b t2, cmF g b ws, sbO g y zz k, baW g zz n f, mdO g d m, iaW g (d 1) 110 r1, iaW g (d 2) 110 r2, iaW g (d 3) 110 r3, iaW g (d 4) 110 r4, iaW g (d 5) 880 r5, iaW g (d 6) 200 r6, iaW g (d 7) 60 r7, iaW g (d 8) 124 r8, loW g w lo, doW g w2 dd] [(0, .ref sb), (1, .ref (a 0)), (2, .ref (d 0)), (3, .ref w), (4, .ref w2), (5, .int i)] 1761 [] := by
  unfold f_law_1761 at hf
  have C : CX g RL cL_law 9 A pW sW mW argsW methW c9 := C
  refine x_aload_n C dL_law_1761 rfl 1 rfl ?_
  refine x_aload C dL_law_1762 4 rfl ?_
  obtain ⟨u1, hu1, hf⟩ := x_b hf
  refine x_hcallS (n := 2) (As := [.ref (a 0), .ref w2]) (rest := []) C (c_L_litShare g l hl a b y w2 z v c dd hu1) ⟨⟨wd_1280, wd_1278, wd_64⟩, ⟨by decide, by decide, by decide⟩, rfl, rfl, Nat.le_of_ble_eq_true rfl, Nat.le_of_ble_eq_true rfl⟩ wd_1279 [evW g a 10 e, stO g a 20 v2, cdW g a 20 c2, evW g a 20 e2, stO g a 30 v3, cdW g a 30 c3, evW g a 30 e3, hiO g a h, hrW g a t, stF g a vs, cdF g a cs, evF g a es, prO g b q, caW g b t2, cmF g b ws, sbO g y zz k, baW g zz n f, mdO g d m, iaW g (d 1) 110 r1, iaW g (d 2) 110 r2, iaW g (d 3) 110 r3, iaW g (d 4) 110 r4, iaW g (d 5) 880 r5, iaW g (d 6) 200 r6, iaW g (d 7) 60 r7, iaW g (d 8) 124 r8, loW g w lo] (x_pickD [0, 1, 2, 30, 3, 4, 5, 6, 7, 8, 9, 10, 11, 12, 13, 14, 15, 16, 17, 18, 19, 20, 21, 22, 23, 24, 25, 26, 27, 28, 29] 31 rfl rfl rfl) rfl rfl (Nat.le_of_ble_eq_true rfl) ⟨by omega, by omega⟩ dL_law_1764 (fun v9 w9 hQ9 => ?_)
  obtain ⟨rfl, rfl⟩ := hQ9
  refine x_goW (wss2 := [ccO g a b y z, stO g a 10 v, cdW g a 10 c, doW g w2 u1.2, evW g a 10 e, stO g a 20 v2, cdW g a 20 c2, evW g a 20 e2, stO g a 30 v3, cdW g a 30 c3, evW g a 30 e3, hiO g a h, hrW g a t, stF g a vs, cdF g a cs, evF g a es, prO g b q, caW g b t2, cmF g b ws, sbO g y zz k, baW g zz n f, mdO g d m, iaW g (d 1) 110 r1, iaW g (d 2) 110 r2, iaW g (d 3) 110 r3, iaW g (d 4) 110 r4, iaW g (d 5) 880 r5, iaW g (d 6) 200 r6, iaW g (d 7) 60 r7, iaW g (d 8) 124 r8, loW g w lo]) (stk2 := [.int u1.1]) rfl rfl rfl ?_
  refine x_istore (lv' := [(6, .int u1.1), (0, .ref sb), (1, .ref (a 0)), (2, .ref (d 0)), (3, .ref w), (4, .ref w2), (5, .int i)]) C dL_law_1767 (by decide) rfl ?_
  refine x_aload_n C dL_law_1769 rfl 3 rfl ?_
  obtain ⟨u2, hu2, hf⟩ := x_b hf
  refine x_callV (n := 0) (As := []) (rest := []) C (c_X10_litShare g l d m r1 hu2) ⟨⟨wd_1806, wd_1803, wd_78⟩, ⟨by decide, by decide, by decide⟩, rfl, rfl, Nat.le_of_ble_eq_true rfl, Nat.le_of_ble_eq_true rfl⟩ wd_1804 wd_1805 ⟨0, 11, _, _, rfl, rfl, rfl⟩ [ccO g a b y z, stO g a 10 v, cdW g a 10 c, doW g w2 u1.2, evW g a 10 e, stO g a 20 v2, cdW g a 20 c2, evW g a 20 e2, stO g a 30 v3, cdW g a 30 c3, evW g a 30 e3, hiO g a h, hrW g a t, stF g a vs, cdF g a cs, evF g a es, prO g b q, caW g b t2, cmF g b ws, sbO g y zz k, baW g zz n f, iaW g (d 2) 110 r2, iaW g (d 3) 110 r3, iaW g (d 4) 110 r4, iaW g (d 5) 880 r5, iaW g (d 6) 200 r6, iaW g (d 7) 60 r7, iaW g (d 8) 124 r8, loW g w lo] (x_pickD [21, 22, 0, 1, 2, 3, 4, 5, 6, 7, 8, 9, 10, 11, 12, 13, 14, 15, 16, 17, 18, 19, 20, 23, 24, 25, 26, 27, 28, 29, 30] 31 rfl rfl rfl) rfl rfl (Nat.le_of_ble_eq_true rfl) ⟨by omega, by omega⟩ dL_law_1770 (x_goD (wss2 := [mdO g d u2.2, iaW g (d 1) 110 r1, ccO g a b y z, stO g a 10 v, cdW g a 10 c, doW g w2 u1.2, evW g a 10 e, stO g a 20 v2, cdW g a 20 c2, evW g a 20 e2, stO g a 30 v3, cdW g a 30 c3, evW g a 30 e3, hiO g a h, hrW g a t, stF g a vs, cdF g a cs, evF g a es, prO g b q, caW g b t2, cmF g b ws, sbO g y zz k, baW g zz n f, iaW g (d 2) 110 r2, iaW g (d 3) 110 r3, iaW g (d 4) 110 r4, iaW g (d 5) 880 r5, iaW g (d 6) 200 r6, iaW g (d 7) 60 r7, iaW g (d 8) 124 r8, loW g w lo]) (stk2 := [.float u2.1]) rfl rfl ?_)
  refine x_fstore (lv' := [(7, .float u2.1), (6, .int u1.1), (0, .ref sb), (1, .ref (a 0)), (2, .ref (d 0)), (3, .ref w), (4, .ref w2), (5, .int i)]) C dL_law_1773 (by decide) rfl ?_
  refine x_aload_n C dL_law_1775 rfl 4 rfl ?_
  obtain ⟨u3, hu3, hf⟩ := x_b hf
  refine x_callV (n := 0) (As := []) (rest := []) C (c_X10_thrown g l d u2.2 hu3) ⟨⟨wd_1550, wd_1547, wd_78⟩, ⟨by decide, by decide, by decide⟩, rfl, rfl, Nat.le_of_ble_eq_true rfl, Nat.le_of_ble_eq_true rfl⟩ wd_1548 wd_1549 ⟨0, 11, _, _, rfl, rfl, rfl⟩ [iaW g (d 1) 110 r1, ccO g a b y z, stO g a 10 v, cdW g a 10 c, doW g w2 u1.2, evW g a 10 e, stO g a 20 v2, cdW g a 20 c2, evW g a 20 e2, stO g a 30 v3, cdW g a 30 c3, evW g a 30 e3, hiO g a h, hrW g a t, stF g a vs, cdF g a cs, evF g a es, prO g b q, caW g b t2, cmF g b ws, sbO g y zz k, baW g zz n f, iaW g (d 2) 110 r2, iaW g (d 3) 110 r3, iaW g (d 4) 110 r4, iaW g (d 5) 880 r5, iaW g (d 6) 200 r6, iaW g (d 7) 60 r7, iaW g (d 8) 124 r8, loW g w lo] (x_pickD [0, 1, 2, 3, 4, 5, 6, 7, 8, 9, 10, 11, 12, 13, 14, 15, 16, 17, 18, 19, 20, 21, 22, 23, 24, 25, 26, 27, 28, 29, 30] 31 rfl rfl rfl) rfl rfl (Nat.le_of_ble_eq_true rfl) ⟨by omega, by omega⟩ dL_law_1776 (x_goD (wss2 := [mdO g d u2.2, iaW g (d 1) 110 r1, ccO g a b y z, stO g a 10 v, cdW g a 10 c, doW g w2 u1.2, evW g a 10 e, stO g a 20 v2, cdW g a 20 c2, evW g a 20 e2, stO g a 30 v3, cdW g a 30 c3, evW g a 30 e3, hiO g a h, hrW g a t, stF g a vs, cdF g a cs, evF g a es, prO g b q, caW g b t2, cmF g b ws, sbO g y zz k, baW g zz n f, iaW g (d 2) 110 r2, iaW g (d 3) 110 r3, iaW g (d 4) 110 r4, iaW g (d 5) 880 r5, iaW g (d 6) 200 r6, iaW g (d 7) 60 r7, iaW g (d 8) 124 r8, loW g w lo]) (stk2 := [.int u3]) rfl rfl ?_)
  refine x_iload C dL_law_1779 1 rfl ?_
  refine x_icmp_eq (tgt := 1786) C dL_law_1781 (by decide) (fun h4 => ?_) (fun h4 => ?_)
  · have hf := x_t h4 hf
    refine x_iload C dL_law_1786 1 rfl ?_
    refine x_if_ne (tgt := 1824) C dL_law_1788 (by decide) (fun h5 => ?_) (fun h5 => ?_)
    · have hf := x_f h5 hf
      refine x_goto (tgt := 2256) C dL_law_1824 (by decide) ?_
      refine x_perm (wss' := [ccO g a b y z, stO g a 10 v, cdW g a 10 c, evW g a 10 e, stO g a 20 v2, cdW g a 20 c2, evW g a 20 e2, stO g a 30 v3, cdW g a 30 c3, evW g a 30 e3, hiO g a h, hrW g a t, stF g a vs, cdF g a cs, evF g a es, prO g b q, caW g b t2, cmF g b ws, sbO g y zz k, baW g zz n f, mdO g d u2.2, iaW g (d 1) 110 r1, iaW g (d 2) 110 r2, iaW g (d 3) 110 r3, iaW g (d 4) 110 r4, iaW g (d 5) 880 r5, iaW g (d 6) 200 r6, iaW g (d 7) 60 r7, iaW g (d 8) 124 r8, loW g w lo, doW g w2 u1.2]) (x_pick [2, 3, 4, 6, 7, 8, 9, 10, 11, 12, 13, 14, 15, 16, 17, 18, 19, 20, 21, 22, 0, 1, 23, 24, 25, 26, 27, 28, 29, 30, 5] 31 rfl rfl rfl) ?_
      refine x_locals (lv' := [(0, .ref sb), (1, .ref (a 0)), (2, .ref (d 0)), (3, .ref w), (4, .ref w2), (5, .int i)]) [2, 3, 4, 5, 6, 7] rfl ?_
      refine x_widen (k := cells + 292) (n := slots + 5516) (by omega) (by omega) ?_
      obtain rfl := Option.some.inj hf
      exact kk zz
    · have hf := x_t h5 hf
      refine x_aload C dL_law_1791 6 rfl ?_
      refine x_iconst (v := 0) C dL_law_1793 (by decide) ?_
      obtain ⟨h6, hf⟩ := x_n hf
      refine x_dald (b := doW g w2 u1.2) C 5 rfl 0 (doW_at0 g w2 _) h6 dL_law_1794 ?_
      refine x_fload C dL_law_1795 0 rfl ?_
      obtain ⟨h7, hf⟩ := x_y hf
      refine x_f2d C dL_law_1797 h7 ?_
      refine x_dcmp C dL_law_1798 ?_
      refine x_if_eq (tgt := 1824) C dL_law_1799 (by decide) (fun h8 => ?_) (fun h8 => ?_)
      · have hf := x_t h8 hf
        refine x_goto (tgt := 2256) C dL_law_1824 (by decide) ?_
        refine x_perm (wss' := [ccO g a b y z, stO g a 10 v, cdW g a 10 c, evW g a 10 e, stO g a 20 v2, cdW g a 20 c2, evW g a 20 e2, stO g a 30 v3, cdW g a 30 c3, evW g a 30 e3, hiO g a h, hrW g a t, stF g a vs, cdF g a cs, evF g a es, prO g b q, caW g b t2, cmF g b ws, sbO g y zz k, baW g zz n f, mdO g d u2.2, iaW g (d 1) 110 r1, iaW g (d 2) 110 r2, iaW g (d 3) 110 r3, iaW g (d 4) 110 r4, iaW g (d 5) 880 r5, iaW g (d 6) 200 r6, iaW g (d 7) 60 r7, iaW g (d 8) 124 r8, loW g w lo, doW g w2 u1.2]) (x_pick [2, 3, 4, 6, 7, 8, 9, 10, 11, 12, 13, 14, 15, 16, 17, 18, 19, 20, 21, 22, 0, 1, 23, 24, 25, 26, 27, 28, 29, 30, 5] 31 rfl rfl rfl) ?_
        refine x_locals (lv' := [(0, .ref sb), (1, .ref (a 0)), (2, .ref (d 0)), (3, .ref w), (4, .ref w2), (5, .int i)]) [2, 3, 4, 5, 6, 7] rfl ?_
        refine x_widen (k := cells + 292) (n := slots + 5516) (by omega) (by omega) ?_
        obtain rfl := Option.some.inj hf
        exact kk zz
      · have hf := x_f h8 hf
        refine x_aload C dL_law_1802 6 rfl ?_
        refine x_iconst (v := 0) C dL_law_1804 (by decide) ?_
        obtain ⟨h9, hf⟩ := x_n hf
        refine x_dald (b := doW g w2 u1.2) C 5 rfl 0 (doW_at0 g w2 _) h9 dL_law_1805 ?_
        refine x_aload C dL_law_1806 6 rfl ?_
        refine x_iconst (v := 0) C dL_law_1808 (by decide) ?_
        obtain ⟨h10, hf⟩ := x_n hf
        refine x_dald (b := doW g w2 u1.2) C 5 rfl 0 (doW_at0 g w2 _) h10 dL_law_1809 ?_
        refine x_dcmp C dL_law_1810 ?_
        refine x_if_eq (tgt := 1822) C dL_law_1811 (by decide) (fun h11 => ?_) (fun h11 => ?_)
        · have hf := x_t h11 hf
          cases hf
        · have hf := x_f h11 hf
          refine x_fload C dL_law_1814 0 rfl ?_
          refine x_fload C dL_law_1816 0 rfl ?_
          refine x_fcmp C dL_law_1818 ?_
          refine x_if_ne (tgt := 1824) C dL_law_1819 (by decide) (fun h12 => ?_) (fun h12 => ?_)
          · have hf := x_f h12 hf
            refine x_goto (tgt := 2256) C dL_law_1824 (by decide) ?_
            refine x_perm (wss' := [ccO g a b y z, stO g a 10 v, cdW g a 10 c, evW g a 10 e, stO g a 20 v2, cdW g a 20 c2, evW g a 20 e2, stO g a 30 v3, cdW g a 30 c3, evW g a 30 e3, hiO g a h, hrW g a t, stF g a vs, cdF g a cs, evF g a es, prO g b q, caW g b t2, cmF g b ws, sbO g y zz k, baW g zz n f, mdO g d u2.2, iaW g (d 1) 110 r1, iaW g (d 2) 110 r2, iaW g (d 3) 110 r3, iaW g (d 4) 110 r4, iaW g (d 5) 880 r5, iaW g (d 6) 200 r6, iaW g (d 7) 60 r7, iaW g (d 8) 124 r8, loW g w lo, doW g w2 u1.2]) (x_pick [2, 3, 4, 6, 7, 8, 9, 10, 11, 12, 13, 14, 15, 16, 17, 18, 19, 20, 21, 22, 0, 1, 23, 24, 25, 26, 27, 28, 29, 30, 5] 31 rfl rfl rfl) ?_
            refine x_locals (lv' := [(0, .ref sb), (1, .ref (a 0)), (2, .ref (d 0)), (3, .ref w), (4, .ref w2), (5, .int i)]) [2, 3, 4, 5, 6, 7] rfl ?_
            refine x_widen (k := cells + 292) (n := slots + 5516) (by omega) (by omega) ?_
            obtain rfl := Option.some.inj hf
            exact kk zz
          · have hf := x_t h12 hf
            cases hf
  · have hf := x_f h4 hf
    cases hf
set_option maxHeartbeats 4000000 in
set_option maxRecDepth 100000 in
theorem c_law_1827 (a : Nat → Nat) (b : Nat → Nat) (y : Nat) (zz : Nat) (n : Nat) (d : Nat → Nat) (w : Nat) (w2 : Nat) (C : CX g RL cL_law 9 A pW sW mW argsW methW c9) (hl : l.stackTraces = false) (hX : va_X sb L xs sW sW.heap) (hbl : sb < sW.heap.size) (hbA : ¬ A sb) (hc : cells + 292 ≤ room_1.cells) (hs : slots + 5516 ≤ room_1.slots) (z : CcT) (v : StS) (c : CdT) (e : EvT) (v2 : StS) (c2 : CdT) (e2 : EvT) (v3 : StS) (c3 : CdT) (e3 : EvT) (h : HiT) (t : Unit) (vs : (Nat → StS)) (cs : (Nat → CdT)) (es : (Nat → EvT)) (q : PrT) (t2 : Unit) (ws : (Nat → CmT)) (k : SbT) (f : (Nat → Int32)) (m : MdT) (r1 : (Nat → Int32)) (r2 : (Nat → Int32)) (r3 : (Nat → Int32)) (r4 : (Nat → Int32)) (r5 : (Nat → Int32)) (r6 : (Nat → Int32)) (r7 : (Nat → Int32)) (r8 : (Nat → Int32)) (lo : (Nat → Int64)) (dd : (Nat → UInt64)) (i : Int32) {u : LwT} (hf : f_law_1827 n L xs z v c e v2 c2 e2 v3 c3 e3 h t vs cs es q t2 ws k f m r1 r2 r3 r4 r5 r6 r7 r8 lo dd i = some u)
    (kk : ∀ zz' : Nat, VW g A 9 pW l eW room_1 sW mW argsW belowW methW c9 (cells + 292) (slots + 5516) Q [ccO g a b y u.1, stO g a 10 u.2.1, cdW g a 10 u.2.2.1, evW g a 10 u.2.2.2.1, stO g a 20 u.2.2.2.2.1, cdW g a 20 u.2.2.2.2.2.1, evW g a 20 u.2.2.2.2.2.2.1, stO g a 30 u.2.2.2.2.2.2.2.1, cdW g a 30 u.2.2.2.2.2.2.2.2.1, evW g a 30 u.2.2.2.2.2.2.2.2.2.1, hiO g a u.2.2.2.2.2.2.2.2.2.2.1, hrW g a u.2.2.2.2.2.2.2.2.2.2.2.1, stF g a u.2.2.2.2.2.2.2.2.2.2.2.2.1, cdF g a u.2.2.2.2.2.2.2.2.2.2.2.2.2.1, evF g a u.2.2.2.2.2.2.2.2.2.2.2.2.2.2.1, prO g b u.2.2.2.2.2.2.2.2.2.2.2.2.2.2.2.1, caW g b u.2.2.2.2.2.2.2.2.2.2.2.2.2.2.2.2.1, cmF g b u.2.2.2.2.2.2.2.2.2.2.2.2.2.2.2.2.2.1, sbO g y zz' u.2.2.2.2.2.2.2.2.2.2.2.2.2.2.2.2.2.2.1, baW g zz' u.2.2.2.2.2.2.2.2.2.2.2.2.2.2.2.2.2.2.2.2.2.2.2.2.2.2.2.2.2.2.2 u.2.2.2.2.2.2.2.2.2.2.2.2.2.2.2.2.2.2.2.1, mdO g d u.2.2.2.2.2.2.2.2.2.2.2.2.2.2.2.2.2.2.2.2.1, iaW g (d 1) 110 u.2.2.2.2.2.2.2.2.2.2.2.2.2.2.2.2.2.2.2.2.2.1, iaW g (d 2) 110 u.2.2.2.2.2.2.2.2.2.2.2.2.2.2.2.2.2.2.2.2.2.2.1, iaW g (d 3) 110 u.2.2.2.2.2.2.2.2.2.2.2.2.2.2.2.2.2.2.2.2.2.2.2.1, iaW g (d 4) 110 u.2.2.2.2.2.2.2.2.2.2.2.2.2.2.2.2.2.2.2.2.2.2.2.2.1, iaW g (d 5) 880 u.2.2.2.2.2.2.2.2.2.2.2.2.2.2.2.2.2.2.2.2.2.2.2.2.2.1, iaW g (d 6) 200 u.2.2.2.2.2.2.2.2.2.2.2.2.2.2.2.2.2.2.2.2.2.2.2.2.2.2.1, iaW g (d 7) 60 u.2.2.2.2.2.2.2.2.2.2.2.2.2.2.2.2.2.2.2.2.2.2.2.2.2.2.2.1, iaW g (d 8) 124 u.2.2.2.2.2.2.2.2.2.2.2.2.2.2.2.2.2.2.2.2.2.2.2.2.2.2.2.2.1, loW g w u.2.2.2.2.2.2.2.2.2.2.2.2.2.2.2.2.2.2.2.2.2.2.2.2.2.2.2.2.2.1, doW g w2 u.2.2.2.2.2.2.2.2.2.2.2.2.2.2.2.2.2.2.2.2.2.2.2.2.2.2.2.2.2.2.1] [(0, .ref sb), (1, .ref (a 0)), (2, .ref (d 0)), (3, .ref w), (4, .ref w2), (5, .int i)] 2256 []) : VW g A 9 pW l eW room_1 sW mW argsW belowW methW c9 cells slots Q [ccO g a b y z, stO g a 10 v, cdW g a 10 c, evW g a 10 e, stO g a 20 v2, cdW g a 20 c2, evW g a 20 e2, stO g a 30 v3, cdW g a 30 c3, evW g a 30 e3, hiO g a h, hrW g a t, stF g a vs, cdF g a cs, evF g a es, prO g b q, caW g b t2, cmF g b ws, sbO g y zz k, baW g zz n f, mdO g d m, iaW g (d 1) 110 r1, iaW g (d 2) 110 r2, iaW g (d 3) 110 r3, iaW g (d 4) 110 r4, iaW g (d 5) 880 r5, iaW g (d 6) 200 r6, iaW g (d 7) 60 r7, iaW g (d 8) 124 r8, loW g w lo, doW g w2 dd] [(0, .ref sb), (1, .ref (a 0)), (2, .ref (d 0)), (3, .ref w), (4, .ref w2), (5, .int i)] 1827 [] := by
  unfold f_law_1827 at hf
  have C : CX g RL cL_law 9 A pW sW mW argsW methW c9 := C
  refine x_aload_n C dL_law_1827 rfl 1 rfl ?_
  obtain ⟨u1, hu1, hf⟩ := x_b hf
  refine x_callV (n := 0) (As := []) (rest := []) C (c_X9_isConsistent g l a b y z v c e v2 c2 e2 hu1) ⟨⟨wd_496, wd_493, wd_65⟩, ⟨by decide, by decide, by decide⟩, rfl, rfl, Nat.le_of_ble_eq_true rfl, Nat.le_of_ble_eq_true rfl⟩ wd_494 wd_495 ⟨0, 10, _, _, rfl, rfl, rfl⟩ [stO g a 30 v3, cdW g a 30 c3, evW g a 30 e3, hiO g a h, hrW g a t, stF g a vs, cdF g a cs, evF g a es, prO g b q, caW g b t2, cmF g b ws, sbO g y zz k, baW g zz n f, mdO g d m, iaW g (d 1) 110 r1, iaW g (d 2) 110 r2, iaW g (d 3) 110 r3, iaW g (d 4) 110 r4, iaW g (d 5) 880 r5, iaW g (d 6) 200 r6, iaW g (d 7) 60 r7, iaW g (d 8) 124 r8, loW g w lo, doW g w2 dd] (x_pickD [0, 1, 2, 3, 4, 5, 6, 7, 8, 9, 10, 11, 12, 13, 14, 15, 16, 17, 18, 19, 20, 21, 22, 23, 24, 25, 26, 27, 28, 29, 30] 31 rfl rfl rfl) rfl rfl (Nat.le_of_ble_eq_true rfl) ⟨by omega, by omega⟩ dL_law_1828 (x_goD (wss2 := [ccO g a b y z, stO g a 10 v, cdW g a 10 c, evW g a 10 e, stO g a 20 u1.2.1, cdW g a 20 u1.2.2.1, evW g a 20 u1.2.2.2, stO g a 30 v3, cdW g a 30 c3, evW g a 30 e3, hiO g a h, hrW g a t, stF g a vs, cdF g a cs, evF g a es, prO g b q, caW g b t2, cmF g b ws, sbO g y zz k, baW g zz n f, mdO g d m, iaW g (d 1) 110 r1, iaW g (d 2) 110 r2, iaW g (d 3) 110 r3, iaW g (d 4) 110 r4, iaW g (d 5) 880 r5, iaW g (d 6) 200 r6, iaW g (d 7) 60 r7, iaW g (d 8) 124 r8, loW g w lo, doW g w2 dd]) (stk2 := [.int u1.1]) rfl rfl ?_)
  refine x_aload_n C dL_law_1831 rfl 2 rfl ?_
  obtain ⟨u2, hu2, hf⟩ := x_b hf
  refine x_callV (n := 0) (As := []) (rest := [.int u1.1]) C (c_X10_isConsistent g l d m r1 hu2) ⟨⟨wd_1810, wd_1807, wd_78⟩, ⟨by decide, by decide, by decide⟩, rfl, rfl, Nat.le_of_ble_eq_true rfl, Nat.le_of_ble_eq_true rfl⟩ wd_1808 wd_1809 ⟨0, 11, _, _, rfl, rfl, rfl⟩ [ccO g a b y z, stO g a 10 v, cdW g a 10 c, evW g a 10 e, stO g a 20 u1.2.1, cdW g a 20 u1.2.2.1, evW g a 20 u1.2.2.2, stO g a 30 v3, cdW g a 30 c3, evW g a 30 e3, hiO g a h, hrW g a t, stF g a vs, cdF g a cs, evF g a es, prO g b q, caW g b t2, cmF g b ws, sbO g y zz k, baW g zz n f, iaW g (d 2) 110 r2, iaW g (d 3) 110 r3, iaW g (d 4) 110 r4, iaW g (d 5) 880 r5, iaW g (d 6) 200 r6, iaW g (d 7) 60 r7, iaW g (d 8) 124 r8, loW g w lo, doW g w2 dd] (x_pickD [20, 21, 0, 1, 2, 3, 4, 5, 6, 7, 8, 9, 10, 11, 12, 13, 14, 15, 16, 17, 18, 19, 22, 23, 24, 25, 26, 27, 28, 29, 30] 31 rfl rfl rfl) rfl rfl (Nat.le_of_ble_eq_true rfl) ⟨by omega, by omega⟩ dL_law_1832 (x_goD (wss2 := [mdO g d u2.2, iaW g (d 1) 110 r1, ccO g a b y z, stO g a 10 v, cdW g a 10 c, evW g a 10 e, stO g a 20 u1.2.1, cdW g a 20 u1.2.2.1, evW g a 20 u1.2.2.2, stO g a 30 v3, cdW g a 30 c3, evW g a 30 e3, hiO g a h, hrW g a t, stF g a vs, cdF g a cs, evF g a es, prO g b q, caW g b t2, cmF g b ws, sbO g y zz k, baW g zz n f, iaW g (d 2) 110 r2, iaW g (d 3) 110 r3, iaW g (d 4) 110 r4, iaW g (d 5) 880 r5, iaW g (d 6) 200 r6, iaW g (d 7) 60 r7, iaW g (d 8) 124 r8, loW g w lo, doW g w2 dd]) (stk2 := [.int u2.1, .int u1.1]) rfl rfl ?_)
  refine x_icmp_eq (tgt := 2256) C dL_law_1835 (by decide) (fun h3 => ?_) (fun h3 => ?_)
  · have hf := x_t h3 hf
    refine x_perm (wss' := [ccO g a b y z, stO g a 10 v, cdW g a 10 c, evW g a 10 e, stO g a 20 u1.2.1, cdW g a 20 u1.2.2.1, evW g a 20 u1.2.2.2, stO g a 30 v3, cdW g a 30 c3, evW g a 30 e3, hiO g a h, hrW g a t, stF g a vs, cdF g a cs, evF g a es, prO g b q, caW g b t2, cmF g b ws, sbO g y zz k, baW g zz n f, mdO g d u2.2, iaW g (d 1) 110 r1, iaW g (d 2) 110 r2, iaW g (d 3) 110 r3, iaW g (d 4) 110 r4, iaW g (d 5) 880 r5, iaW g (d 6) 200 r6, iaW g (d 7) 60 r7, iaW g (d 8) 124 r8, loW g w lo, doW g w2 dd]) (x_pick [2, 3, 4, 5, 6, 7, 8, 9, 10, 11, 12, 13, 14, 15, 16, 17, 18, 19, 20, 21, 0, 1, 22, 23, 24, 25, 26, 27, 28, 29, 30] 31 rfl rfl rfl) ?_
    refine x_locals (lv' := [(0, .ref sb), (1, .ref (a 0)), (2, .ref (d 0)), (3, .ref w), (4, .ref w2), (5, .int i)]) [0, 1, 2, 3, 4, 5] rfl ?_
    refine x_widen (k := cells + 292) (n := slots + 5516) (by omega) (by omega) ?_
    obtain rfl := Option.some.inj hf
    exact kk zz
  · have hf := x_f h3 hf
    cases hf
set_option maxHeartbeats 4000000 in
set_option maxRecDepth 100000 in
theorem c_law_1840 (a : Nat → Nat) (b : Nat → Nat) (y : Nat) (zz : Nat) (n : Nat) (d : Nat → Nat) (w : Nat) (w2 : Nat) (C : CX g RL cL_law 9 A pW sW mW argsW methW c9) (hl : l.stackTraces = false) (hX : va_X sb L xs sW sW.heap) (hbl : sb < sW.heap.size) (hbA : ¬ A sb) (hc : cells + 292 ≤ room_1.cells) (hs : slots + 5516 ≤ room_1.slots) (z : CcT) (v : StS) (c : CdT) (e : EvT) (v2 : StS) (c2 : CdT) (e2 : EvT) (v3 : StS) (c3 : CdT) (e3 : EvT) (h : HiT) (t : Unit) (vs : (Nat → StS)) (cs : (Nat → CdT)) (es : (Nat → EvT)) (q : PrT) (t2 : Unit) (ws : (Nat → CmT)) (k : SbT) (f : (Nat → Int32)) (m : MdT) (r1 : (Nat → Int32)) (r2 : (Nat → Int32)) (r3 : (Nat → Int32)) (r4 : (Nat → Int32)) (r5 : (Nat → Int32)) (r6 : (Nat → Int32)) (r7 : (Nat → Int32)) (r8 : (Nat → Int32)) (lo : (Nat → Int64)) (dd : (Nat → UInt64)) (i : Int32) {u : LwT} (hf : f_law_1840 n L xs z v c e v2 c2 e2 v3 c3 e3 h t vs cs es q t2 ws k f m r1 r2 r3 r4 r5 r6 r7 r8 lo dd i = some u)
    (kk : ∀ zz' : Nat, VW g A 9 pW l eW room_1 sW mW argsW belowW methW c9 (cells + 292) (slots + 5516) Q [ccO g a b y u.1, stO g a 10 u.2.1, cdW g a 10 u.2.2.1, evW g a 10 u.2.2.2.1, stO g a 20 u.2.2.2.2.1, cdW g a 20 u.2.2.2.2.2.1, evW g a 20 u.2.2.2.2.2.2.1, stO g a 30 u.2.2.2.2.2.2.2.1, cdW g a 30 u.2.2.2.2.2.2.2.2.1, evW g a 30 u.2.2.2.2.2.2.2.2.2.1, hiO g a u.2.2.2.2.2.2.2.2.2.2.1, hrW g a u.2.2.2.2.2.2.2.2.2.2.2.1, stF g a u.2.2.2.2.2.2.2.2.2.2.2.2.1, cdF g a u.2.2.2.2.2.2.2.2.2.2.2.2.2.1, evF g a u.2.2.2.2.2.2.2.2.2.2.2.2.2.2.1, prO g b u.2.2.2.2.2.2.2.2.2.2.2.2.2.2.2.1, caW g b u.2.2.2.2.2.2.2.2.2.2.2.2.2.2.2.2.1, cmF g b u.2.2.2.2.2.2.2.2.2.2.2.2.2.2.2.2.2.1, sbO g y zz' u.2.2.2.2.2.2.2.2.2.2.2.2.2.2.2.2.2.2.1, baW g zz' u.2.2.2.2.2.2.2.2.2.2.2.2.2.2.2.2.2.2.2.2.2.2.2.2.2.2.2.2.2.2.2 u.2.2.2.2.2.2.2.2.2.2.2.2.2.2.2.2.2.2.2.1, mdO g d u.2.2.2.2.2.2.2.2.2.2.2.2.2.2.2.2.2.2.2.2.1, iaW g (d 1) 110 u.2.2.2.2.2.2.2.2.2.2.2.2.2.2.2.2.2.2.2.2.2.1, iaW g (d 2) 110 u.2.2.2.2.2.2.2.2.2.2.2.2.2.2.2.2.2.2.2.2.2.2.1, iaW g (d 3) 110 u.2.2.2.2.2.2.2.2.2.2.2.2.2.2.2.2.2.2.2.2.2.2.2.1, iaW g (d 4) 110 u.2.2.2.2.2.2.2.2.2.2.2.2.2.2.2.2.2.2.2.2.2.2.2.2.1, iaW g (d 5) 880 u.2.2.2.2.2.2.2.2.2.2.2.2.2.2.2.2.2.2.2.2.2.2.2.2.2.1, iaW g (d 6) 200 u.2.2.2.2.2.2.2.2.2.2.2.2.2.2.2.2.2.2.2.2.2.2.2.2.2.2.1, iaW g (d 7) 60 u.2.2.2.2.2.2.2.2.2.2.2.2.2.2.2.2.2.2.2.2.2.2.2.2.2.2.2.1, iaW g (d 8) 124 u.2.2.2.2.2.2.2.2.2.2.2.2.2.2.2.2.2.2.2.2.2.2.2.2.2.2.2.2.1, loW g w u.2.2.2.2.2.2.2.2.2.2.2.2.2.2.2.2.2.2.2.2.2.2.2.2.2.2.2.2.2.1, doW g w2 u.2.2.2.2.2.2.2.2.2.2.2.2.2.2.2.2.2.2.2.2.2.2.2.2.2.2.2.2.2.2.1] [(0, .ref sb), (1, .ref (a 0)), (2, .ref (d 0)), (3, .ref w), (4, .ref w2), (5, .int i)] 2256 []) : VW g A 9 pW l eW room_1 sW mW argsW belowW methW c9 cells slots Q [ccO g a b y z, stO g a 10 v, cdW g a 10 c, evW g a 10 e, stO g a 20 v2, cdW g a 20 c2, evW g a 20 e2, stO g a 30 v3, cdW g a 30 c3, evW g a 30 e3, hiO g a h, hrW g a t, stF g a vs, cdF g a cs, evF g a es, prO g b q, caW g b t2, cmF g b ws, sbO g y zz k, baW g zz n f, mdO g d m, iaW g (d 1) 110 r1, iaW g (d 2) 110 r2, iaW g (d 3) 110 r3, iaW g (d 4) 110 r4, iaW g (d 5) 880 r5, iaW g (d 6) 200 r6, iaW g (d 7) 60 r7, iaW g (d 8) 124 r8, loW g w lo, doW g w2 dd] [(0, .ref sb), (1, .ref (a 0)), (2, .ref (d 0)), (3, .ref w), (4, .ref w2), (5, .int i)] 1840 [] := by
  unfold f_law_1840 at hf
  have C : CX g RL cL_law 9 A pW sW mW argsW methW c9 := C
  refine x_aload_n C dL_law_1840 rfl 1 rfl ?_
  refine x_aload_n C dL_law_1841 rfl 0 rfl ?_
  refine x_iload C dL_law_1842 5 rfl ?_
  refine x_iconst (v := 1) C dL_law_1844 (by decide) ?_
  refine x_iadd C dL_law_1845 ?_
  obtain ⟨h1, hf⟩ := x_n hf
  refine x_sld C hX hbl hbA h1 dL_law_1846 ?_
  refine x_aload_n C dL_law_1847 rfl 3 rfl ?_
  obtain ⟨u2, hu2, hf⟩ := x_b hf
  refine x_hcallS (n := 3) (As := [.ref (a 0), .int (xs (i + (1 : Int32)).toNatClampNeg), .ref w]) (rest := []) C (c_L_writeCandle g l hl a b y zz n w z v c k f lo (xs (i + (1 : Int32)).toNatClampNeg) hu2) ⟨⟨wd_1287, wd_1285, wd_64⟩, ⟨by decide, by decide, by decide⟩, rfl, rfl, Nat.le_of_ble_eq_true rfl, Nat.le_of_ble_eq_true rfl⟩ wd_1286 [evW g a 10 e, stO g a 20 v2, cdW g a 20 c2, evW g a 20 e2, stO g a 30 v3, cdW g a 30 c3, evW g a 30 e3, hiO g a h, hrW g a t, stF g a vs, cdF g a cs, evF g a es, prO g b q, caW g b t2, cmF g b ws, mdO g d m, iaW g (d 1) 110 r1, iaW g (d 2) 110 r2, iaW g (d 3) 110 r3, iaW g (d 4) 110 r4, iaW g (d 5) 880 r5, iaW g (d 6) 200 r6, iaW g (d 7) 60 r7, iaW g (d 8) 124 r8, doW g w2 dd] (x_pickD [0, 1, 2, 18, 19, 29, 3, 4, 5, 6, 7, 8, 9, 10, 11, 12, 13, 14, 15, 16, 17, 20, 21, 22, 23, 24, 25, 26, 27, 28, 30] 31 rfl rfl rfl) rfl rfl (Nat.le_of_ble_eq_true rfl) ⟨by omega, by omega⟩ dL_law_1848 (fun v9 w9 hQ9 => ?_)
  obtain ⟨rfl, z3, rfl⟩ := hQ9
  refine x_goW (wss2 := [ccO g a b y z, stO g a 10 v, cdW g a 10 c, sbO g y z3 u2.2.1, baW g z3 u2.2.2.2.2 u2.2.2.1, loW g w u2.2.2.2.1, evW g a 10 e, stO g a 20 v2, cdW g a 20 c2, evW g a 20 e2, stO g a 30 v3, cdW g a 30 c3, evW g a 30 e3, hiO g a h, hrW g a t, stF g a vs, cdF g a cs, evF g a es, prO g b q, caW g b t2, cmF g b ws, mdO g d m, iaW g (d 1) 110 r1, iaW g (d 2) 110 r2, iaW g (d 3) 110 r3, iaW g (d 4) 110 r4, iaW g (d 5) 880 r5, iaW g (d 6) 200 r6, iaW g (d 7) 60 r7, iaW g (d 8) 124 r8, doW g w2 dd]) (stk2 := [.int u2.1]) rfl rfl rfl ?_
  refine x_istore (lv' := [(6, .int u2.1), (0, .ref sb), (1, .ref (a 0)), (2, .ref (d 0)), (3, .ref w), (4, .ref w2), (5, .int i)]) C dL_law_1851 (by decide) rfl ?_
  refine x_aload_n C dL_law_1853 rfl 3 rfl ?_
  refine x_aload_n C dL_law_1854 rfl 1 rfl ?_
  refine x_iload C dL_law_1855 6 rfl ?_
  refine x_iconst (v := 1) C dL_law_1857 (by decide) ?_
  refine x_iadd C dL_law_1858 ?_
  obtain ⟨h4, hf⟩ := x_n hf
  refine x_sld C hX hbl hbA h4 dL_law_1859 ?_
  obtain ⟨u5, hu5, hf⟩ := x_b hf
  refine x_callV (n := 1) (As := [.int (xs (i + (1 : Int32)).toNatClampNeg)]) (rest := []) C (c_X10_writeCandle g l d m r1 r6 (xs (i + (1 : Int32)).toNatClampNeg) hu5) ⟨⟨wd_1814, wd_1811, wd_78⟩, ⟨by decide, by decide, by decide⟩, rfl, rfl, Nat.le_of_ble_eq_true rfl, Nat.le_of_ble_eq_true rfl⟩ wd_1812 wd_1813 ⟨0, 11, _, _, rfl, rfl, rfl⟩ [ccO g a b y z, stO g a 10 v, cdW g a 10 c, sbO g y z3 u2.2.1, baW g z3 u2.2.2.2.2 u2.2.2.1, loW g w u2.2.2.2.1, evW g a 10 e, stO g a 20 v2, cdW g a 20 c2, evW g a 20 e2, stO g a 30 v3, cdW g a 30 c3, evW g a 30 e3, hiO g a h, hrW g a t, stF g a vs, cdF g a cs, evF g a es, prO g b q, caW g b t2, cmF g b ws, iaW g (d 2) 110 r2, iaW g (d 3) 110 r3, iaW g (d 4) 110 r4, iaW g (d 5) 880 r5, iaW g (d 7) 60 r7, iaW g (d 8) 124 r8, doW g w2 dd] (x_pickD [21, 22, 27, 0, 1, 2, 3, 4, 5, 6, 7, 8, 9, 10, 11, 12, 13, 14, 15, 16, 17, 18, 19, 20, 23, 24, 25, 26, 28, 29, 30] 31 rfl rfl rfl) rfl rfl (Nat.le_of_ble_eq_true rfl) ⟨by omega, by omega⟩ dL_law_1860 (x_goD (wss2 := [mdO g d u5.2.1, iaW g (d 1) 110 r1, iaW g (d 6) 200 u5.2.2, ccO g a b y z, stO g a 10 v, cdW g a 10 c, sbO g y z3 u2.2.1, baW g z3 u2.2.2.2.2 u2.2.2.1, loW g w u2.2.2.2.1, evW g a 10 e, stO g a 20 v2, cdW g a 20 c2, evW g a 20 e2, stO g a 30 v3, cdW g a 30 c3, evW g a 30 e3, hiO g a h, hrW g a t, stF g a vs, cdF g a cs, evF g a es, prO g b q, caW g b t2, cmF g b ws, iaW g (d 2) 110 r2, iaW g (d 3) 110 r3, iaW g (d 4) 110 r4, iaW g (d 5) 880 r5, iaW g (d 7) 60 r7, iaW g (d 8) 124 r8, doW g w2 dd]) (stk2 := [.int u5.1]) rfl rfl ?_)
  refine x_istore (lv' := [(7, .int u5.1), (6, .int u2.1), (0, .ref sb), (1, .ref (a 0)), (2, .ref (d 0)), (3, .ref w), (4, .ref w2), (5, .int i)]) C dL_law_1863 (by decide) rfl ?_
  refine x_aload_n C dL_law_1865 rfl 4 rfl ?_
  obtain ⟨u6, hu6, hf⟩ := x_b hf
  refine x_callV (n := 0) (As := []) (rest := []) C (c_X10_thrown g l d u5.2.1 hu6) ⟨⟨wd_1550, wd_1547, wd_78⟩, ⟨by decide, by decide, by decide⟩, rfl, rfl, Nat.le_of_ble_eq_true rfl, Nat.le_of_ble_eq_true rfl⟩ wd_1548 wd_1549 ⟨0, 11, _, _, rfl, rfl, rfl⟩ [iaW g (d 1) 110 r1, iaW g (d 6) 200 u5.2.2, ccO g a b y z, stO g a 10 v, cdW g a 10 c, sbO g y z3 u2.2.1, baW g z3 u2.2.2.2.2 u2.2.2.1, loW g w u2.2.2.2.1, evW g a 10 e, stO g a 20 v2, cdW g a 20 c2, evW g a 20 e2, stO g a 30 v3, cdW g a 30 c3, evW g a 30 e3, hiO g a h, hrW g a t, stF g a vs, cdF g a cs, evF g a es, prO g b q, caW g b t2, cmF g b ws, iaW g (d 2) 110 r2, iaW g (d 3) 110 r3, iaW g (d 4) 110 r4, iaW g (d 5) 880 r5, iaW g (d 7) 60 r7, iaW g (d 8) 124 r8, doW g w2 dd] (x_pickD [0, 1, 2, 3, 4, 5, 6, 7, 8, 9, 10, 11, 12, 13, 14, 15, 16, 17, 18, 19, 20, 21, 22, 23, 24, 25, 26, 27, 28, 29, 30] 31 rfl rfl rfl) rfl rfl (Nat.le_of_ble_eq_true rfl) ⟨by omega, by omega⟩ dL_law_1866 (x_goD (wss2 := [mdO g d u5.2.1, iaW g (d 1) 110 r1, iaW g (d 6) 200 u5.2.2, ccO g a b y z, stO g a 10 v, cdW g a 10 c, sbO g y z3 u2.2.1, baW g z3 u2.2.2.2.2 u2.2.2.1, loW g w u2.2.2.2.1, evW g a 10 e, stO g a 20 v2, cdW g a 20 c2, evW g a 20 e2, stO g a 30 v3, cdW g a 30 c3, evW g a 30 e3, hiO g a h, hrW g a t, stF g a vs, cdF g a cs, evF g a es, prO g b q, caW g b t2, cmF g b ws, iaW g (d 2) 110 r2, iaW g (d 3) 110 r3, iaW g (d 4) 110 r4, iaW g (d 5) 880 r5, iaW g (d 7) 60 r7, iaW g (d 8) 124 r8, doW g w2 dd]) (stk2 := [.int u6]) rfl rfl ?_)
  refine x_iload C dL_law_1869 1 rfl ?_
  refine x_icmp_eq (tgt := 1876) C dL_law_1871 (by decide) (fun h7 => ?_) (fun h7 => ?_)
  · have hf := x_t h7 hf
    refine x_iload C dL_law_1876 1 rfl ?_
    refine x_if_ne (tgt := 1893) C dL_law_1878 (by decide) (fun h8 => ?_) (fun h8 => ?_)
    · have hf := x_f h8 hf
      refine x_goto (tgt := 2256) C dL_law_1893 (by decide) ?_
      refine x_perm (wss' := [ccO g a b y z, stO g a 10 v, cdW g a 10 c, evW g a 10 e, stO g a 20 v2, cdW g a 20 c2, evW g a 20 e2, stO g a 30 v3, cdW g a 30 c3, evW g a 30 e3, hiO g a h, hrW g a t, stF g a vs, cdF g a cs, evF g a es, prO g b q, caW g b t2, cmF g b ws, sbO g y z3 u2.2.1, baW g z3 u2.2.2.2.2 u2.2.2.1, mdO g d u5.2.1, iaW g (d 1) 110 r1, iaW g (d 2) 110 r2, iaW g (d 3) 110 r3, iaW g (d 4) 110 r4, iaW g (d 5) 880 r5, iaW g (d 6) 200 u5.2.2, iaW g (d 7) 60 r7, iaW g (d 8) 124 r8, loW g w u2.2.2.2.1, doW g w2 dd]) (x_pick [3, 4, 5, 9, 10, 11, 12, 13, 14, 15, 16, 17, 18, 19, 20, 21, 22, 23, 6, 7, 0, 1, 24, 25, 26, 27, 2, 28, 29, 8, 30] 31 rfl rfl rfl) ?_
      refine x_locals (lv' := [(0, .ref sb), (1, .ref (a 0)), (2, .ref (d 0)), (3, .ref w), (4, .ref w2), (5, .int i)]) [2, 3, 4, 5, 6, 7] rfl ?_
      refine x_widen (k := cells + 292) (n := slots + 5516) (by omega) (by omega) ?_
      obtain rfl := Option.some.inj hf
      exact kk z3
    · have hf := x_t h8 hf
      refine x_aload_n C dL_law_1881 rfl 5 rfl ?_
      refine x_iconst (v := 0) C dL_law_1882 (by decide) ?_
      obtain ⟨h9, hf⟩ := x_n hf
      refine x_lald (b := loW g w u2.2.2.2.1) C 8 rfl 0 (loW_at0 g w _) h9 dL_law_1883 ?_
      refine x_iload C dL_law_1884 0 rfl ?_
      refine x_i2l C dL_law_1886 rfl ?_
      refine x_lcmp C dL_law_1887 ?_
      refine x_if_eq (tgt := 1893) C dL_law_1888 (by decide) (fun h10 => ?_) (fun h10 => ?_)
      · have hf := x_t h10 hf
        refine x_goto (tgt := 2256) C dL_law_1893 (by decide) ?_
        refine x_perm (wss' := [ccO g a b y z, stO g a 10 v, cdW g a 10 c, evW g a 10 e, stO g a 20 v2, cdW g a 20 c2, evW g a 20 e2, stO g a 30 v3, cdW g a 30 c3, evW g a 30 e3, hiO g a h, hrW g a t, stF g a vs, cdF g a cs, evF g a es, prO g b q, caW g b t2, cmF g b ws, sbO g y z3 u2.2.1, baW g z3 u2.2.2.2.2 u2.2.2.1, mdO g d u5.2.1, iaW g (d 1) 110 r1, iaW g (d 2) 110 r2, iaW g (d 3) 110 r3, iaW g (d 4) 110 r4, iaW g (d 5) 880 r5, iaW g (d 6) 200 u5.2.2, iaW g (d 7) 60 r7, iaW g (d 8) 124 r8, loW g w u2.2.2.2.1, doW g w2 dd]) (x_pick [3, 4, 5, 9, 10, 11, 12, 13, 14, 15, 16, 17, 18, 19, 20, 21, 22, 23, 6, 7, 0, 1, 24, 25, 26, 27, 2, 28, 29, 8, 30] 31 rfl rfl rfl) ?_
        refine x_locals (lv' := [(0, .ref sb), (1, .ref (a 0)), (2, .ref (d 0)), (3, .ref w), (4, .ref w2), (5, .int i)]) [2, 3, 4, 5, 6, 7] rfl ?_
        refine x_widen (k := cells + 292) (n := slots + 5516) (by omega) (by omega) ?_
        obtain rfl := Option.some.inj hf
        exact kk z3
      · have hf := x_f h10 hf
        cases hf
  · have hf := x_f h7 hf
    cases hf
set_option maxHeartbeats 4000000 in
set_option maxRecDepth 100000 in
theorem c_law_1896 (a : Nat → Nat) (b : Nat → Nat) (y : Nat) (zz : Nat) (n : Nat) (d : Nat → Nat) (w : Nat) (w2 : Nat) (C : CX g RL cL_law 9 A pW sW mW argsW methW c9) (hl : l.stackTraces = false) (hX : va_X sb L xs sW sW.heap) (hbl : sb < sW.heap.size) (hbA : ¬ A sb) (hc : cells + 292 ≤ room_1.cells) (hs : slots + 5516 ≤ room_1.slots) (z : CcT) (v : StS) (c : CdT) (e : EvT) (v2 : StS) (c2 : CdT) (e2 : EvT) (v3 : StS) (c3 : CdT) (e3 : EvT) (h : HiT) (t : Unit) (vs : (Nat → StS)) (cs : (Nat → CdT)) (es : (Nat → EvT)) (q : PrT) (t2 : Unit) (ws : (Nat → CmT)) (k : SbT) (f : (Nat → Int32)) (m : MdT) (r1 : (Nat → Int32)) (r2 : (Nat → Int32)) (r3 : (Nat → Int32)) (r4 : (Nat → Int32)) (r5 : (Nat → Int32)) (r6 : (Nat → Int32)) (r7 : (Nat → Int32)) (r8 : (Nat → Int32)) (lo : (Nat → Int64)) (dd : (Nat → UInt64)) (i : Int32) {u : LwT} (hf : f_law_1896 n L xs z v c e v2 c2 e2 v3 c3 e3 h t vs cs es q t2 ws k f m r1 r2 r3 r4 r5 r6 r7 r8 lo dd i = some u)
    (kk : ∀ zz' : Nat, VW g A 9 pW l eW room_1 sW mW argsW belowW methW c9 (cells + 292) (slots + 5516) Q [ccO g a b y u.1, stO g a 10 u.2.1, cdW g a 10 u.2.2.1, evW g a 10 u.2.2.2.1, stO g a 20 u.2.2.2.2.1, cdW g a 20 u.2.2.2.2.2.1, evW g a 20 u.2.2.2.2.2.2.1, stO g a 30 u.2.2.2.2.2.2.2.1, cdW g a 30 u.2.2.2.2.2.2.2.2.1, evW g a 30 u.2.2.2.2.2.2.2.2.2.1, hiO g a u.2.2.2.2.2.2.2.2.2.2.1, hrW g a u.2.2.2.2.2.2.2.2.2.2.2.1, stF g a u.2.2.2.2.2.2.2.2.2.2.2.2.1, cdF g a u.2.2.2.2.2.2.2.2.2.2.2.2.2.1, evF g a u.2.2.2.2.2.2.2.2.2.2.2.2.2.2.1, prO g b u.2.2.2.2.2.2.2.2.2.2.2.2.2.2.2.1, caW g b u.2.2.2.2.2.2.2.2.2.2.2.2.2.2.2.2.1, cmF g b u.2.2.2.2.2.2.2.2.2.2.2.2.2.2.2.2.2.1, sbO g y zz' u.2.2.2.2.2.2.2.2.2.2.2.2.2.2.2.2.2.2.1, baW g zz' u.2.2.2.2.2.2.2.2.2.2.2.2.2.2.2.2.2.2.2.2.2.2.2.2.2.2.2.2.2.2.2 u.2.2.2.2.2.2.2.2.2.2.2.2.2.2.2.2.2.2.2.1, mdO g d u.2.2.2.2.2.2.2.2.2.2.2.2.2.2.2.2.2.2.2.2.1, iaW g (d 1) 110 u.2.2.2.2.2.2.2.2.2.2.2.2.2.2.2.2.2.2.2.2.2.1, iaW g (d 2) 110 u.2.2.2.2.2.2.2.2.2.2.2.2.2.2.2.2.2.2.2.2.2.2.1, iaW g (d 3) 110 u.2.2.2.2.2.2.2.2.2.2.2.2.2.2.2.2.2.2.2.2.2.2.2.1, iaW g (d 4) 110 u.2.2.2.2.2.2.2.2.2.2.2.2.2.2.2.2.2.2.2.2.2.2.2.2.1, iaW g (d 5) 880 u.2.2.2.2.2.2.2.2.2.2.2.2.2.2.2.2.2.2.2.2.2.2.2.2.2.1, iaW g (d 6) 200 u.2.2.2.2.2.2.2.2.2.2.2.2.2.2.2.2.2.2.2.2.2.2.2.2.2.2.1, iaW g (d 7) 60 u.2.2.2.2.2.2.2.2.2.2.2.2.2.2.2.2.2.2.2.2.2.2.2.2.2.2.2.1, iaW g (d 8) 124 u.2.2.2.2.2.2.2.2.2.2.2.2.2.2.2.2.2.2.2.2.2.2.2.2.2.2.2.2.1, loW g w u.2.2.2.2.2.2.2.2.2.2.2.2.2.2.2.2.2.2.2.2.2.2.2.2.2.2.2.2.2.1, doW g w2 u.2.2.2.2.2.2.2.2.2.2.2.2.2.2.2.2.2.2.2.2.2.2.2.2.2.2.2.2.2.2.1] [(0, .ref sb), (1, .ref (a 0)), (2, .ref (d 0)), (3, .ref w), (4, .ref w2), (5, .int i)] 2256 []) : VW g A 9 pW l eW room_1 sW mW argsW belowW methW c9 cells slots Q [ccO g a b y z, stO g a 10 v, cdW g a 10 c, evW g a 10 e, stO g a 20 v2, cdW g a 20 c2, evW g a 20 e2, stO g a 30 v3, cdW g a 30 c3, evW g a 30 e3, hiO g a h, hrW g a t, stF g a vs, cdF g a cs, evF g a es, prO g b q, caW g b t2, cmF g b ws, sbO g y zz k, baW g zz n f, mdO g d m, iaW g (d 1) 110 r1, iaW g (d 2) 110 r2, iaW g (d 3) 110 r3, iaW g (d 4) 110 r4, iaW g (d 5) 880 r5, iaW g (d 6) 200 r6, iaW g (d 7) 60 r7, iaW g (d 8) 124 r8, loW g w lo, doW g w2 dd] [(0, .ref sb), (1, .ref (a 0)), (2, .ref (d 0)), (3, .ref w), (4, .ref w2), (5, .int i)] 1896 [] := by
  unfold f_law_1896 at hf
  have C : CX g RL cL_law 9 A pW sW mW argsW methW c9 := C
  refine x_aload_n C dL_law_1896 rfl 1 rfl ?_
  obtain ⟨u1, hu1, hf⟩ := x_b hf
  refine x_callV (n := 0) (As := []) (rest := []) C (c_X9_writeEvents g l a b y zz n z v e k f hu1) ⟨⟨wd_509, wd_506, wd_65⟩, ⟨by decide, by decide, by decide⟩, rfl, rfl, Nat.le_of_ble_eq_true rfl, Nat.le_of_ble_eq_true rfl⟩ wd_507 wd_508 ⟨0, 10, _, _, rfl, rfl, rfl⟩ [cdW g a 10 c, stO g a 20 v2, cdW g a 20 c2, evW g a 20 e2, stO g a 30 v3, cdW g a 30 c3, evW g a 30 e3, hiO g a h, hrW g a t, stF g a vs, cdF g a cs, evF g a es, prO g b q, caW g b t2, cmF g b ws, mdO g d m, iaW g (d 1) 110 r1, iaW g (d 2) 110 r2, iaW g (d 3) 110 r3, iaW g (d 4) 110 r4, iaW g (d 5) 880 r5, iaW g (d 6) 200 r6, iaW g (d 7) 60 r7, iaW g (d 8) 124 r8, loW g w lo, doW g w2 dd] (x_pickD [0, 1, 3, 18, 19, 2, 4, 5, 6, 7, 8, 9, 10, 11, 12, 13, 14, 15, 16, 17, 20, 21, 22, 23, 24, 25, 26, 27, 28, 29, 30] 31 rfl rfl rfl) rfl rfl (Nat.le_of_ble_eq_true rfl) ⟨by omega, by omega⟩ dL_law_1897 (fun v9 w9 hQ9 => ?_)
  obtain ⟨rfl, z2, rfl⟩ := hQ9
  refine x_goW (wss2 := [ccO g a b y z, stO g a 10 v, evW g a 10 e, sbO g y z2 u1.2.1, baW g z2 u1.2.2.2 u1.2.2.1, cdW g a 10 c, stO g a 20 v2, cdW g a 20 c2, evW g a 20 e2, stO g a 30 v3, cdW g a 30 c3, evW g a 30 e3, hiO g a h, hrW g a t, stF g a vs, cdF g a cs, evF g a es, prO g b q, caW g b t2, cmF g b ws, mdO g d m, iaW g (d 1) 110 r1, iaW g (d 2) 110 r2, iaW g (d 3) 110 r3, iaW g (d 4) 110 r4, iaW g (d 5) 880 r5, iaW g (d 6) 200 r6, iaW g (d 7) 60 r7, iaW g (d 8) 124 r8, loW g w lo, doW g w2 dd]) (stk2 := [.int u1.1]) rfl rfl rfl ?_
  refine x_aload_n C dL_law_1900 rfl 2 rfl ?_
  obtain ⟨u3, hu3, hf⟩ := x_b hf
  refine x_callV (n := 0) (As := []) (rest := [.int u1.1]) C (c_X10_writeEvents g l d m r1 r6 hu3) ⟨⟨wd_1826, wd_1823, wd_78⟩, ⟨by decide, by decide, by decide⟩, rfl, rfl, Nat.le_of_ble_eq_true rfl, Nat.le_of_ble_eq_true rfl⟩ wd_1824 wd_1825 ⟨0, 11, _, _, rfl, rfl, rfl⟩ [ccO g a b y z, stO g a 10 v, evW g a 10 e, sbO g y z2 u1.2.1, baW g z2 u1.2.2.2 u1.2.2.1, cdW g a 10 c, stO g a 20 v2, cdW g a 20 c2, evW g a 20 e2, stO g a 30 v3, cdW g a 30 c3, evW g a 30 e3, hiO g a h, hrW g a t, stF g a vs, cdF g a cs, evF g a es, prO g b q, caW g b t2, cmF g b ws, iaW g (d 2) 110 r2, iaW g (d 3) 110 r3, iaW g (d 4) 110 r4, iaW g (d 5) 880 r5, iaW g (d 7) 60 r7, iaW g (d 8) 124 r8, loW g w lo, doW g w2 dd] (x_pickD [20, 21, 26, 0, 1, 2, 3, 4, 5, 6, 7, 8, 9, 10, 11, 12, 13, 14, 15, 16, 17, 18, 19, 22, 23, 24, 25, 27, 28, 29, 30] 31 rfl rfl rfl) rfl rfl (Nat.le_of_ble_eq_true rfl) ⟨by omega, by omega⟩ dL_law_1901 (x_goD (wss2 := [mdO g d u3.2.1, iaW g (d 1) 110 r1, iaW g (d 6) 200 u3.2.2, ccO g a b y z, stO g a 10 v, evW g a 10 e, sbO g y z2 u1.2.1, baW g z2 u1.2.2.2 u1.2.2.1, cdW g a 10 c, stO g a 20 v2, cdW g a 20 c2, evW g a 20 e2, stO g a 30 v3, cdW g a 30 c3, evW g a 30 e3, hiO g a h, hrW g a t, stF g a vs, cdF g a cs, evF g a es, prO g b q, caW g b t2, cmF g b ws, iaW g (d 2) 110 r2, iaW g (d 3) 110 r3, iaW g (d 4) 110 r4, iaW g (d 5) 880 r5, iaW g (d 7) 60 r7, iaW g (d 8) 124 r8, loW g w lo, doW g w2 dd]) (stk2 := [.int u3.1, .int u1.1]) rfl rfl ?_)
  refine x_icmp_eq (tgt := 2256) C dL_law_1904 (by decide) (fun h4 => ?_) (fun h4 => ?_)
  · have hf := x_t h4 hf
    refine x_perm (wss' := [ccO g a b y z, stO g a 10 v, cdW g a 10 c, evW g a 10 e, stO g a 20 v2, cdW g a 20 c2, evW g a 20 e2, stO g a 30 v3, cdW g a 30 c3, evW g a 30 e3, hiO g a h, hrW g a t, stF g a vs, cdF g a cs, evF g a es, prO g b q, caW g b t2, cmF g b ws, sbO g y z2 u1.2.1, baW g z2 u1.2.2.2 u1.2.2.1, mdO g d u3.2.1, iaW g (d 1) 110 r1, iaW g (d 2) 110 r2, iaW g (d 3) 110 r3, iaW g (d 4) 110 r4, iaW g (d 5) 880 r5, iaW g (d 6) 200 u3.2.2, iaW g (d 7) 60 r7, iaW g (d 8) 124 r8, loW g w lo, doW g w2 dd]) (x_pick [3, 4, 8, 5, 9, 10, 11, 12, 13, 14, 15, 16, 17, 18, 19, 20, 21, 22, 6, 7, 0, 1, 23, 24, 25, 26, 2, 27, 28, 29, 30] 31 rfl rfl rfl) ?_
    refine x_locals (lv' := [(0, .ref sb), (1, .ref (a 0)), (2, .ref (d 0)), (3, .ref w), (4, .ref w2), (5, .int i)]) [0, 1, 2, 3, 4, 5] rfl ?_
    refine x_widen (k := cells + 292) (n := slots + 5516) (by omega) (by omega) ?_
    obtain rfl := Option.some.inj hf
    exact kk z2
  · have hf := x_f h4 hf
    cases hf
set_option maxHeartbeats 4000000 in
set_option maxRecDepth 100000 in
theorem c_law_1909 (a : Nat → Nat) (b : Nat → Nat) (y : Nat) (zz : Nat) (n : Nat) (d : Nat → Nat) (w : Nat) (w2 : Nat) (C : CX g RL cL_law 9 A pW sW mW argsW methW c9) (hl : l.stackTraces = false) (hX : va_X sb L xs sW sW.heap) (hbl : sb < sW.heap.size) (hbA : ¬ A sb) (hc : cells + 292 ≤ room_1.cells) (hs : slots + 5516 ≤ room_1.slots) (z : CcT) (v : StS) (c : CdT) (e : EvT) (v2 : StS) (c2 : CdT) (e2 : EvT) (v3 : StS) (c3 : CdT) (e3 : EvT) (h : HiT) (t : Unit) (vs : (Nat → StS)) (cs : (Nat → CdT)) (es : (Nat → EvT)) (q : PrT) (t2 : Unit) (ws : (Nat → CmT)) (k : SbT) (f : (Nat → Int32)) (m : MdT) (r1 : (Nat → Int32)) (r2 : (Nat → Int32)) (r3 : (Nat → Int32)) (r4 : (Nat → Int32)) (r5 : (Nat → Int32)) (r6 : (Nat → Int32)) (r7 : (Nat → Int32)) (r8 : (Nat → Int32)) (lo : (Nat → Int64)) (dd : (Nat → UInt64)) (i : Int32) {u : LwT} (hf : f_law_1909 n L xs z v c e v2 c2 e2 v3 c3 e3 h t vs cs es q t2 ws k f m r1 r2 r3 r4 r5 r6 r7 r8 lo dd i = some u)
    (kk : ∀ zz' : Nat, VW g A 9 pW l eW room_1 sW mW argsW belowW methW c9 (cells + 292) (slots + 5516) Q [ccO g a b y u.1, stO g a 10 u.2.1, cdW g a 10 u.2.2.1, evW g a 10 u.2.2.2.1, stO g a 20 u.2.2.2.2.1, cdW g a 20 u.2.2.2.2.2.1, evW g a 20 u.2.2.2.2.2.2.1, stO g a 30 u.2.2.2.2.2.2.2.1, cdW g a 30 u.2.2.2.2.2.2.2.2.1, evW g a 30 u.2.2.2.2.2.2.2.2.2.1, hiO g a u.2.2.2.2.2.2.2.2.2.2.1, hrW g a u.2.2.2.2.2.2.2.2.2.2.2.1, stF g a u.2.2.2.2.2.2.2.2.2.2.2.2.1, cdF g a u.2.2.2.2.2.2.2.2.2.2.2.2.2.1, evF g a u.2.2.2.2.2.2.2.2.2.2.2.2.2.2.1, prO g b u.2.2.2.2.2.2.2.2.2.2.2.2.2.2.2.1, caW g b u.2.2.2.2.2.2.2.2.2.2.2.2.2.2.2.2.1, cmF g b u.2.2.2.2.2.2.2.2.2.2.2.2.2.2.2.2.2.1, sbO g y zz' u.2.2.2.2.2.2.2.2.2.2.2.2.2.2.2.2.2.2.1, baW g zz' u.2.2.2.2.2.2.2.2.2.2.2.2.2.2.2.2.2.2.2.2.2.2.2.2.2.2.2.2.2.2.2 u.2.2.2.2.2.2.2.2.2.2.2.2.2.2.2.2.2.2.2.1, mdO g d u.2.2.2.2.2.2.2.2.2.2.2.2.2.2.2.2.2.2.2.2.1, iaW g (d 1) 110 u.2.2.2.2.2.2.2.2.2.2.2.2.2.2.2.2.2.2.2.2.2.1, iaW g (d 2) 110 u.2.2.2.2.2.2.2.2.2.2.2.2.2.2.2.2.2.2.2.2.2.2.1, iaW g (d 3) 110 u.2.2.2.2.2.2.2.2.2.2.2.2.2.2.2.2.2.2.2.2.2.2.2.1, iaW g (d 4) 110 u.2.2.2.2.2.2.2.2.2.2.2.2.2.2.2.2.2.2.2.2.2.2.2.2.1, iaW g (d 5) 880 u.2.2.2.2.2.2.2.2.2.2.2.2.2.2.2.2.2.2.2.2.2.2.2.2.2.1, iaW g (d 6) 200 u.2.2.2.2.2.2.2.2.2.2.2.2.2.2.2.2.2.2.2.2.2.2.2.2.2.2.1, iaW g (d 7) 60 u.2.2.2.2.2.2.2.2.2.2.2.2.2.2.2.2.2.2.2.2.2.2.2.2.2.2.2.1, iaW g (d 8) 124 u.2.2.2.2.2.2.2.2.2.2.2.2.2.2.2.2.2.2.2.2.2.2.2.2.2.2.2.2.1, loW g w u.2.2.2.2.2.2.2.2.2.2.2.2.2.2.2.2.2.2.2.2.2.2.2.2.2.2.2.2.2.1, doW g w2 u.2.2.2.2.2.2.2.2.2.2.2.2.2.2.2.2.2.2.2.2.2.2.2.2.2.2.2.2.2.2.1] [(0, .ref sb), (1, .ref (a 0)), (2, .ref (d 0)), (3, .ref w), (4, .ref w2), (5, .int i)] 2256 []) : VW g A 9 pW l eW room_1 sW mW argsW belowW methW c9 cells slots Q [ccO g a b y z, stO g a 10 v, cdW g a 10 c, evW g a 10 e, stO g a 20 v2, cdW g a 20 c2, evW g a 20 e2, stO g a 30 v3, cdW g a 30 c3, evW g a 30 e3, hiO g a h, hrW g a t, stF g a vs, cdF g a cs, evF g a es, prO g b q, caW g b t2, cmF g b ws, sbO g y zz k, baW g zz n f, mdO g d m, iaW g (d 1) 110 r1, iaW g (d 2) 110 r2, iaW g (d 3) 110 r3, iaW g (d 4) 110 r4, iaW g (d 5) 880 r5, iaW g (d 6) 200 r6, iaW g (d 7) 60 r7, iaW g (d 8) 124 r8, loW g w lo, doW g w2 dd] [(0, .ref sb), (1, .ref (a 0)), (2, .ref (d 0)), (3, .ref w), (4, .ref w2), (5, .int i)] 1909 [] := by
  unfold f_law_1909 at hf
  have C : CX g RL cL_law 9 A pW sW mW argsW methW c9 := C
  refine x_aload_n C dL_law_1909 rfl 1 rfl ?_
  refine x_aload_n C dL_law_1910 rfl 0 rfl ?_
  refine x_iload C dL_law_1911 5 rfl ?_
  refine x_iconst (v := 1) C dL_law_1913 (by decide) ?_
  refine x_iadd C dL_law_1914 ?_
  obtain ⟨h1, hf⟩ := x_n hf
  refine x_sld C hX hbl hbA h1 dL_law_1915 ?_
  refine x_aload_n C dL_law_1916 rfl 3 rfl ?_
  obtain ⟨u2, hu2, hf⟩ := x_b hf
  refine x_hcallS (n := 3) (As := [.ref (a 0), .int (xs (i + (1 : Int32)).toNatClampNeg), .ref w]) (rest := []) C (c_L_charAt g l hl a b y zz n w z k f lo (xs (i + (1 : Int32)).toNatClampNeg) hu2) ⟨⟨wd_1294, wd_1292, wd_64⟩, ⟨by decide, by decide, by decide⟩, rfl, rfl, Nat.le_of_ble_eq_true rfl, Nat.le_of_ble_eq_true rfl⟩ wd_1293 [stO g a 10 v, cdW g a 10 c, evW g a 10 e, stO g a 20 v2, cdW g a 20 c2, evW g a 20 e2, stO g a 30 v3, cdW g a 30 c3, evW g a 30 e3, hiO g a h, hrW g a t, stF g a vs, cdF g a cs, evF g a es, prO g b q, caW g b t2, cmF g b ws, mdO g d m, iaW g (d 1) 110 r1, iaW g (d 2) 110 r2, iaW g (d 3) 110 r3, iaW g (d 4) 110 r4, iaW g (d 5) 880 r5, iaW g (d 6) 200 r6, iaW g (d 7) 60 r7, iaW g (d 8) 124 r8, doW g w2 dd] (x_pickD [0, 18, 19, 29, 1, 2, 3, 4, 5, 6, 7, 8, 9, 10, 11, 12, 13, 14, 15, 16, 17, 20, 21, 22, 23, 24, 25, 26, 27, 28, 30] 31 rfl rfl rfl) rfl rfl (Nat.le_of_ble_eq_true rfl) ⟨by omega, by omega⟩ dL_law_1917 (fun v9 w9 hQ9 => ?_)
  obtain ⟨rfl, rfl⟩ := hQ9
  refine x_goW (wss2 := [ccO g a b y z, sbO g y zz k, baW g zz n f, loW g w u2.2, stO g a 10 v, cdW g a 10 c, evW g a 10 e, stO g a 20 v2, cdW g a 20 c2, evW g a 20 e2, stO g a 30 v3, cdW g a 30 c3, evW g a 30 e3, hiO g a h, hrW g a t, stF g a vs, cdF g a cs, evF g a es, prO g b q, caW g b t2, cmF g b ws, mdO g d m, iaW g (d 1) 110 r1, iaW g (d 2) 110 r2, iaW g (d 3) 110 r3, iaW g (d 4) 110 r4, iaW g (d 5) 880 r5, iaW g (d 6) 200 r6, iaW g (d 7) 60 r7, iaW g (d 8) 124 r8, doW g w2 dd]) (stk2 := [.int u2.1]) rfl rfl rfl ?_
  refine x_istore (lv' := [(6, .int u2.1), (0, .ref sb), (1, .ref (a 0)), (2, .ref (d 0)), (3, .ref w), (4, .ref w2), (5, .int i)]) C dL_law_1920 (by decide) rfl ?_
  refine x_aload_n C dL_law_1922 rfl 3 rfl ?_
  refine x_aload_n C dL_law_1923 rfl 1 rfl ?_
  refine x_iload C dL_law_1924 6 rfl ?_
  refine x_iconst (v := 1) C dL_law_1926 (by decide) ?_
  refine x_iadd C dL_law_1927 ?_
  obtain ⟨h3, hf⟩ := x_n hf
  refine x_sld C hX hbl hbA h3 dL_law_1928 ?_
  obtain ⟨u4, hu4, hf⟩ := x_b hf
  refine x_callV (n := 1) (As := [.int (xs (i + (1 : Int32)).toNatClampNeg)]) (rest := []) C (c_X10_charAt g l d m r6 (xs (i + (1 : Int32)).toNatClampNeg) hu4) ⟨⟨wd_1830, wd_1827, wd_78⟩, ⟨by decide, by decide, by decide⟩, rfl, rfl, Nat.le_of_ble_eq_true rfl, Nat.le_of_ble_eq_true rfl⟩ wd_1828 wd_1829 ⟨0, 11, _, _, rfl, rfl, rfl⟩ [ccO g a b y z, sbO g y zz k, baW g zz n f, loW g w u2.2, stO g a 10 v, cdW g a 10 c, evW g a 10 e, stO g a 20 v2, cdW g a 20 c2, evW g a 20 e2, stO g a 30 v3, cdW g a 30 c3, evW g a 30 e3, hiO g a h, hrW g a t, stF g a vs, cdF g a cs, evF g a es, prO g b q, caW g b t2, cmF g b ws, iaW g (d 1) 110 r1, iaW g (d 2) 110 r2, iaW g (d 3) 110 r3, iaW g (d 4) 110 r4, iaW g (d 5) 880 r5, iaW g (d 7) 60 r7, iaW g (d 8) 124 r8, doW g w2 dd] (x_pickD [21, 27, 0, 1, 2, 3, 4, 5, 6, 7, 8, 9, 10, 11, 12, 13, 14, 15, 16, 17, 18, 19, 20, 22, 23, 24, 25, 26, 28, 29, 30] 31 rfl rfl rfl) rfl rfl (Nat.le_of_ble_eq_true rfl) ⟨by omega, by omega⟩ dL_law_1929 (x_goD (wss2 := [mdO g d u4.2, iaW g (d 6) 200 r6, ccO g a b y z, sbO g y zz k, baW g zz n f, loW g w u2.2, stO g a 10 v, cdW g a 10 c, evW g a 10 e, stO g a 20 v2, cdW g a 20 c2, evW g a 20 e2, stO g a 30 v3, cdW g a 30 c3, evW g a 30 e3, hiO g a h, hrW g a t, stF g a vs, cdF g a cs, evF g a es, prO g b q, caW g b t2, cmF g b ws, iaW g (d 1) 110 r1, iaW g (d 2) 110 r2, iaW g (d 3) 110 r3, iaW g (d 4) 110 r4, iaW g (d 5) 880 r5, iaW g (d 7) 60 r7, iaW g (d 8) 124 r8, doW g w2 dd]) (stk2 := [.int u4.1]) rfl rfl ?_)
  refine x_istore (lv' := [(7, .int u4.1), (6, .int u2.1), (0, .ref sb), (1, .ref (a 0)), (2, .ref (d 0)), (3, .ref w), (4, .ref w2), (5, .int i)]) C dL_law_1932 (by decide) rfl ?_
  refine x_aload_n C dL_law_1934 rfl 4 rfl ?_
  obtain ⟨u5, hu5, hf⟩ := x_b hf
  refine x_callV (n := 0) (As := []) (rest := []) C (c_X10_thrown g l d u4.2 hu5) ⟨⟨wd_1550, wd_1547, wd_78⟩, ⟨by decide, by decide, by decide⟩, rfl, rfl, Nat.le_of_ble_eq_true rfl, Nat.le_of_ble_eq_true rfl⟩ wd_1548 wd_1549 ⟨0, 11, _, _, rfl, rfl, rfl⟩ [iaW g (d 6) 200 r6, ccO g a b y z, sbO g y zz k, baW g zz n f, loW g w u2.2, stO g a 10 v, cdW g a 10 c, evW g a 10 e, stO g a 20 v2, cdW g a 20 c2, evW g a 20 e2, stO g a 30 v3, cdW g a 30 c3, evW g a 30 e3, hiO g a h, hrW g a t, stF g a vs, cdF g a cs, evF g a es, prO g b q, caW g b t2, cmF g b ws, iaW g (d 1) 110 r1, iaW g (d 2) 110 r2, iaW g (d 3) 110 r3, iaW g (d 4) 110 r4, iaW g (d 5) 880 r5, iaW g (d 7) 60 r7, iaW g (d 8) 124 r8, doW g w2 dd] (x_pickD [0, 1, 2, 3, 4, 5, 6, 7, 8, 9, 10, 11, 12, 13, 14, 15, 16, 17, 18, 19, 20, 21, 22, 23, 24, 25, 26, 27, 28, 29, 30] 31 rfl rfl rfl) rfl rfl (Nat.le_of_ble_eq_true rfl) ⟨by omega, by omega⟩ dL_law_1935 (x_goD (wss2 := [mdO g d u4.2, iaW g (d 6) 200 r6, ccO g a b y z, sbO g y zz k, baW g zz n f, loW g w u2.2, stO g a 10 v, cdW g a 10 c, evW g a 10 e, stO g a 20 v2, cdW g a 20 c2, evW g a 20 e2, stO g a 30 v3, cdW g a 30 c3, evW g a 30 e3, hiO g a h, hrW g a t, stF g a vs, cdF g a cs, evF g a es, prO g b q, caW g b t2, cmF g b ws, iaW g (d 1) 110 r1, iaW g (d 2) 110 r2, iaW g (d 3) 110 r3, iaW g (d 4) 110 r4, iaW g (d 5) 880 r5, iaW g (d 7) 60 r7, iaW g (d 8) 124 r8, doW g w2 dd]) (stk2 := [.int u5]) rfl rfl ?_)
  refine x_iload C dL_law_1938 1 rfl ?_
  refine x_icmp_eq (tgt := 1945) C dL_law_1940 (by decide) (fun h6 => ?_) (fun h6 => ?_)
  · have hf := x_t h6 hf
    refine x_iload C dL_law_1945 1 rfl ?_
    refine x_if_ne (tgt := 1962) C dL_law_1947 (by decide) (fun h7 => ?_) (fun h7 => ?_)
    · have hf := x_f h7 hf
      refine x_goto (tgt := 2256) C dL_law_1962 (by decide) ?_
      refine x_perm (wss' := [ccO g a b y z, stO g a 10 v, cdW g a 10 c, evW g a 10 e, stO g a 20 v2, cdW g a 20 c2, evW g a 20 e2, stO g a 30 v3, cdW g a 30 c3, evW g a 30 e3, hiO g a h, hrW g a t, stF g a vs, cdF g a cs, evF g a es, prO g b q, caW g b t2, cmF g b ws, sbO g y zz k, baW g zz n f, mdO g d u4.2, iaW g (d 1) 110 r1, iaW g (d 2) 110 r2, iaW g (d 3) 110 r3, iaW g (d 4) 110 r4, iaW g (d 5) 880 r5, iaW g (d 6) 200 r6, iaW g (d 7) 60 r7, iaW g (d 8) 124 r8, loW g w u2.2, doW g w2 dd]) (x_pick [2, 6, 7, 8, 9, 10, 11, 12, 13, 14, 15, 16, 17, 18, 19, 20, 21, 22, 3, 4, 0, 23, 24, 25, 26, 27, 1, 28, 29, 5, 30] 31 rfl rfl rfl) ?_
      refine x_locals (lv' := [(0, .ref sb), (1, .ref (a 0)), (2, .ref (d 0)), (3, .ref w), (4, .ref w2), (5, .int i)]) [2, 3, 4, 5, 6, 7] rfl ?_
      refine x_widen (k := cells + 292) (n := slots + 5516) (by omega) (by omega) ?_
      obtain rfl := Option.some.inj hf
      exact kk zz
    · have hf := x_t h7 hf
      refine x_aload_n C dL_law_1950 rfl 5 rfl ?_
      refine x_iconst (v := 0) C dL_law_1951 (by decide) ?_
      obtain ⟨h8, hf⟩ := x_n hf
      refine x_lald (b := loW g w u2.2) C 5 rfl 0 (loW_at0 g w _) h8 dL_law_1952 ?_
      refine x_iload C dL_law_1953 0 rfl ?_
      refine x_i2l C dL_law_1955 rfl ?_
      refine x_lcmp C dL_law_1956 ?_
      refine x_if_eq (tgt := 1962) C dL_law_1957 (by decide) (fun h9 => ?_) (fun h9 => ?_)
      · have hf := x_t h9 hf
        refine x_goto (tgt := 2256) C dL_law_1962 (by decide) ?_
        refine x_perm (wss' := [ccO g a b y z, stO g a 10 v, cdW g a 10 c, evW g a 10 e, stO g a 20 v2, cdW g a 20 c2, evW g a 20 e2, stO g a 30 v3, cdW g a 30 c3, evW g a 30 e3, hiO g a h, hrW g a t, stF g a vs, cdF g a cs, evF g a es, prO g b q, caW g b t2, cmF g b ws, sbO g y zz k, baW g zz n f, mdO g d u4.2, iaW g (d 1) 110 r1, iaW g (d 2) 110 r2, iaW g (d 3) 110 r3, iaW g (d 4) 110 r4, iaW g (d 5) 880 r5, iaW g (d 6) 200 r6, iaW g (d 7) 60 r7, iaW g (d 8) 124 r8, loW g w u2.2, doW g w2 dd]) (x_pick [2, 6, 7, 8, 9, 10, 11, 12, 13, 14, 15, 16, 17, 18, 19, 20, 21, 22, 3, 4, 0, 23, 24, 25, 26, 27, 1, 28, 29, 5, 30] 31 rfl rfl rfl) ?_
        refine x_locals (lv' := [(0, .ref sb), (1, .ref (a 0)), (2, .ref (d 0)), (3, .ref w), (4, .ref w2), (5, .int i)]) [2, 3, 4, 5, 6, 7] rfl ?_
        refine x_widen (k := cells + 292) (n := slots + 5516) (by omega) (by omega) ?_
        obtain rfl := Option.some.inj hf
        exact kk zz
      · have hf := x_f h9 hf
        cases hf
  · have hf := x_f h6 hf
    cases hf
set_option maxHeartbeats 4000000 in
set_option maxRecDepth 100000 in
theorem c_law_1965 (a : Nat → Nat) (b : Nat → Nat) (y : Nat) (zz : Nat) (n : Nat) (d : Nat → Nat) (w : Nat) (w2 : Nat) (C : CX g RL cL_law 9 A pW sW mW argsW methW c9) (hl : l.stackTraces = false) (hX : va_X sb L xs sW sW.heap) (hbl : sb < sW.heap.size) (hbA : ¬ A sb) (hc : cells + 292 ≤ room_1.cells) (hs : slots + 5516 ≤ room_1.slots) (z : CcT) (v : StS) (c : CdT) (e : EvT) (v2 : StS) (c2 : CdT) (e2 : EvT) (v3 : StS) (c3 : CdT) (e3 : EvT) (h : HiT) (t : Unit) (vs : (Nat → StS)) (cs : (Nat → CdT)) (es : (Nat → EvT)) (q : PrT) (t2 : Unit) (ws : (Nat → CmT)) (k : SbT) (f : (Nat → Int32)) (m : MdT) (r1 : (Nat → Int32)) (r2 : (Nat → Int32)) (r3 : (Nat → Int32)) (r4 : (Nat → Int32)) (r5 : (Nat → Int32)) (r6 : (Nat → Int32)) (r7 : (Nat → Int32)) (r8 : (Nat → Int32)) (lo : (Nat → Int64)) (dd : (Nat → UInt64)) (i : Int32) {u : LwT} (hf : f_law_1965 n L xs z v c e v2 c2 e2 v3 c3 e3 h t vs cs es q t2 ws k f m r1 r2 r3 r4 r5 r6 r7 r8 lo dd i = some u)
    (kk : ∀ zz' : Nat, VW g A 9 pW l eW room_1 sW mW argsW belowW methW c9 (cells + 292) (slots + 5516) Q [ccO g a b y u.1, stO g a 10 u.2.1, cdW g a 10 u.2.2.1, evW g a 10 u.2.2.2.1, stO g a 20 u.2.2.2.2.1, cdW g a 20 u.2.2.2.2.2.1, evW g a 20 u.2.2.2.2.2.2.1, stO g a 30 u.2.2.2.2.2.2.2.1, cdW g a 30 u.2.2.2.2.2.2.2.2.1, evW g a 30 u.2.2.2.2.2.2.2.2.2.1, hiO g a u.2.2.2.2.2.2.2.2.2.2.1, hrW g a u.2.2.2.2.2.2.2.2.2.2.2.1, stF g a u.2.2.2.2.2.2.2.2.2.2.2.2.1, cdF g a u.2.2.2.2.2.2.2.2.2.2.2.2.2.1, evF g a u.2.2.2.2.2.2.2.2.2.2.2.2.2.2.1, prO g b u.2.2.2.2.2.2.2.2.2.2.2.2.2.2.2.1, caW g b u.2.2.2.2.2.2.2.2.2.2.2.2.2.2.2.2.1, cmF g b u.2.2.2.2.2.2.2.2.2.2.2.2.2.2.2.2.2.1, sbO g y zz' u.2.2.2.2.2.2.2.2.2.2.2.2.2.2.2.2.2.2.1, baW g zz' u.2.2.2.2.2.2.2.2.2.2.2.2.2.2.2.2.2.2.2.2.2.2.2.2.2.2.2.2.2.2.2 u.2.2.2.2.2.2.2.2.2.2.2.2.2.2.2.2.2.2.2.1, mdO g d u.2.2.2.2.2.2.2.2.2.2.2.2.2.2.2.2.2.2.2.2.1, iaW g (d 1) 110 u.2.2.2.2.2.2.2.2.2.2.2.2.2.2.2.2.2.2.2.2.2.1, iaW g (d 2) 110 u.2.2.2.2.2.2.2.2.2.2.2.2.2.2.2.2.2.2.2.2.2.2.1, iaW g (d 3) 110 u.2.2.2.2.2.2.2.2.2.2.2.2.2.2.2.2.2.2.2.2.2.2.2.1, iaW g (d 4) 110 u.2.2.2.2.2.2.2.2.2.2.2.2.2.2.2.2.2.2.2.2.2.2.2.2.1, iaW g (d 5) 880 u.2.2.2.2.2.2.2.2.2.2.2.2.2.2.2.2.2.2.2.2.2.2.2.2.2.1, iaW g (d 6) 200 u.2.2.2.2.2.2.2.2.2.2.2.2.2.2.2.2.2.2.2.2.2.2.2.2.2.2.1, iaW g (d 7) 60 u.2.2.2.2.2.2.2.2.2.2.2.2.2.2.2.2.2.2.2.2.2.2.2.2.2.2.2.1, iaW g (d 8) 124 u.2.2.2.2.2.2.2.2.2.2.2.2.2.2.2.2.2.2.2.2.2.2.2.2.2.2.2.2.1, loW g w u.2.2.2.2.2.2.2.2.2.2.2.2.2.2.2.2.2.2.2.2.2.2.2.2.2.2.2.2.2.1, doW g w2 u.2.2.2.2.2.2.2.2.2.2.2.2.2.2.2.2.2.2.2.2.2.2.2.2.2.2.2.2.2.2.1] [(0, .ref sb), (1, .ref (a 0)), (2, .ref (d 0)), (3, .ref w), (4, .ref w2), (5, .int i)] 2256 []) : VW g A 9 pW l eW room_1 sW mW argsW belowW methW c9 cells slots Q [ccO g a b y z, stO g a 10 v, cdW g a 10 c, evW g a 10 e, stO g a 20 v2, cdW g a 20 c2, evW g a 20 e2, stO g a 30 v3, cdW g a 30 c3, evW g a 30 e3, hiO g a h, hrW g a t, stF g a vs, cdF g a cs, evF g a es, prO g b q, caW g b t2, cmF g b ws, sbO g y zz k, baW g zz n f, mdO g d m, iaW g (d 1) 110 r1, iaW g (d 2) 110 r2, iaW g (d 3) 110 r3, iaW g (d 4) 110 r4, iaW g (d 5) 880 r5, iaW g (d 6) 200 r6, iaW g (d 7) 60 r7, iaW g (d 8) 124 r8, loW g w lo, doW g w2 dd] [(0, .ref sb), (1, .ref (a 0)), (2, .ref (d 0)), (3, .ref w), (4, .ref w2), (5, .int i)] 1965 [] := by
  unfold f_law_1965 at hf
  have C : CX g RL cL_law 9 A pW sW mW argsW methW c9 := C
  refine x_aload_n C dL_law_1965 rfl 1 rfl ?_
  refine x_aload_n C dL_law_1966 rfl 0 rfl ?_
  refine x_iload C dL_law_1967 5 rfl ?_
  refine x_iconst (v := 1) C dL_law_1969 (by decide) ?_
  refine x_iadd C dL_law_1970 ?_
  obtain ⟨h1, hf⟩ := x_n hf
  refine x_sld C hX hbl hbA h1 dL_law_1971 ?_
  refine x_i2c C dL_law_1972 rfl ?_
  refine x_aload_n C dL_law_1973 rfl 3 rfl ?_
  obtain ⟨u2, hu2, hf⟩ := x_b hf
  refine x_hcallS (n := 3) (As := [.ref (a 0), .int (((xs (i + (1 : Int32)).toNatClampNeg).toUInt32 % 65536).toInt32), .ref w]) (rest := []) C (c_L_type g l hl a b y w z q lo (((xs (i + (1 : Int32)).toNatClampNeg).toUInt32 % 65536).toInt32) hu2) ⟨⟨wd_1312, wd_1310, wd_64⟩, ⟨by decide, by decide, by decide⟩, rfl, rfl, Nat.le_of_ble_eq_true rfl, Nat.le_of_ble_eq_true rfl⟩ wd_1311 [stO g a 10 v, cdW g a 10 c, evW g a 10 e, stO g a 20 v2, cdW g a 20 c2, evW g a 20 e2, stO g a 30 v3, cdW g a 30 c3, evW g a 30 e3, hiO g a h, hrW g a t, stF g a vs, cdF g a cs, evF g a es, caW g b t2, cmF g b ws, sbO g y zz k, baW g zz n f, mdO g d m, iaW g (d 1) 110 r1, iaW g (d 2) 110 r2, iaW g (d 3) 110 r3, iaW g (d 4) 110 r4, iaW g (d 5) 880 r5, iaW g (d 6) 200 r6, iaW g (d 7) 60 r7, iaW g (d 8) 124 r8, doW g w2 dd] (x_pickD [0, 15, 29, 1, 2, 3, 4, 5, 6, 7, 8, 9, 10, 11, 12, 13, 14, 16, 17, 18, 19, 20, 21, 22, 23, 24, 25, 26, 27, 28, 30] 31 rfl rfl rfl) rfl rfl (Nat.le_of_ble_eq_true rfl) ⟨by omega, by omega⟩ dL_law_1974 (fun v9 w9 hQ9 => ?_)
  obtain ⟨rfl, rfl⟩ := hQ9
  refine x_goW (wss2 := [ccO g a b y z, prO g b u2.2.1, loW g w u2.2.2, stO g a 10 v, cdW g a 10 c, evW g a 10 e, stO g a 20 v2, cdW g a 20 c2, evW g a 20 e2, stO g a 30 v3, cdW g a 30 c3, evW g a 30 e3, hiO g a h, hrW g a t, stF g a vs, cdF g a cs, evF g a es, caW g b t2, cmF g b ws, sbO g y zz k, baW g zz n f, mdO g d m, iaW g (d 1) 110 r1, iaW g (d 2) 110 r2, iaW g (d 3) 110 r3, iaW g (d 4) 110 r4, iaW g (d 5) 880 r5, iaW g (d 6) 200 r6, iaW g (d 7) 60 r7, iaW g (d 8) 124 r8, doW g w2 dd]) (stk2 := [.int u2.1]) rfl rfl rfl ?_
  refine x_istore (lv' := [(6, .int u2.1), (0, .ref sb), (1, .ref (a 0)), (2, .ref (d 0)), (3, .ref w), (4, .ref w2), (5, .int i)]) C dL_law_1977 (by decide) rfl ?_
  refine x_aload_n C dL_law_1979 rfl 3 rfl ?_
  refine x_aload_n C dL_law_1980 rfl 1 rfl ?_
  refine x_iload C dL_law_1981 6 rfl ?_
  refine x_iconst (v := 1) C dL_law_1983 (by decide) ?_
  refine x_iadd C dL_law_1984 ?_
  obtain ⟨h3, hf⟩ := x_n hf
  refine x_sld C hX hbl hbA h3 dL_law_1985 ?_
  refine x_i2c C dL_law_1986 rfl ?_
  obtain ⟨u4, hu4, hf⟩ := x_b hf
  refine x_callV (n := 1) (As := [.int (((xs (i + (1 : Int32)).toNatClampNeg).toUInt32 % 65536).toInt32)]) (rest := []) C (c_X10_type g l d m r7 (((xs (i + (1 : Int32)).toNatClampNeg).toUInt32 % 65536).toInt32) hu4) ⟨⟨wd_1834, wd_1831, wd_78⟩, ⟨by decide, by decide, by decide⟩, rfl, rfl, Nat.le_of_ble_eq_true rfl, Nat.le_of_ble_eq_true rfl⟩ wd_1832 wd_1833 ⟨0, 11, _, _, rfl, rfl, rfl⟩ [ccO g a b y z, prO g b u2.2.1, loW g w u2.2.2, stO g a 10 v, cdW g a 10 c, evW g a 10 e, stO g a 20 v2, cdW g a 20 c2, evW g a 20 e2, stO g a 30 v3, cdW g a 30 c3, evW g a 30 e3, hiO g a h, hrW g a t, stF g a vs, cdF g a cs, evF g a es, caW g b t2, cmF g b ws, sbO g y zz k, baW g zz n f, iaW g (d 1) 110 r1, iaW g (d 2) 110 r2, iaW g (d 3) 110 r3, iaW g (d 4) 110 r4, iaW g (d 5) 880 r5, iaW g (d 6) 200 r6, iaW g (d 8) 124 r8, doW g w2 dd] (x_pickD [21, 28, 0, 1, 2, 3, 4, 5, 6, 7, 8, 9, 10, 11, 12, 13, 14, 15, 16, 17, 18, 19, 20, 22, 23, 24, 25, 26, 27, 29, 30] 31 rfl rfl rfl) rfl rfl (Nat.le_of_ble_eq_true rfl) ⟨by omega, by omega⟩ dL_law_1987 (x_goD (wss2 := [mdO g d u4.2.1, iaW g (d 7) 60 u4.2.2, ccO g a b y z, prO g b u2.2.1, loW g w u2.2.2, stO g a 10 v, cdW g a 10 c, evW g a 10 e, stO g a 20 v2, cdW g a 20 c2, evW g a 20 e2, stO g a 30 v3, cdW g a 30 c3, evW g a 30 e3, hiO g a h, hrW g a t, stF g a vs, cdF g a cs, evF g a es, caW g b t2, cmF g b ws, sbO g y zz k, baW g zz n f, iaW g (d 1) 110 r1, iaW g (d 2) 110 r2, iaW g (d 3) 110 r3, iaW g (d 4) 110 r4, iaW g (d 5) 880 r5, iaW g (d 6) 200 r6, iaW g (d 8) 124 r8, doW g w2 dd]) (stk2 := [.int u4.1]) rfl rfl ?_)
  refine x_istore (lv' := [(7, .int u4.1), (6, .int u2.1), (0, .ref sb), (1, .ref (a 0)), (2, .ref (d 0)), (3, .ref w), (4, .ref w2), (5, .int i)]) C dL_law_1990 (by decide) rfl ?_
  refine x_aload_n C dL_law_1992 rfl 4 rfl ?_
  obtain ⟨u5, hu5, hf⟩ := x_b hf
  refine x_callV (n := 0) (As := []) (rest := []) C (c_X10_thrown g l d u4.2.1 hu5) ⟨⟨wd_1550, wd_1547, wd_78⟩, ⟨by decide, by decide, by decide⟩, rfl, rfl, Nat.le_of_ble_eq_true rfl, Nat.le_of_ble_eq_true rfl⟩ wd_1548 wd_1549 ⟨0, 11, _, _, rfl, rfl, rfl⟩ [iaW g (d 7) 60 u4.2.2, ccO g a b y z, prO g b u2.2.1, loW g w u2.2.2, stO g a 10 v, cdW g a 10 c, evW g a 10 e, stO g a 20 v2, cdW g a 20 c2, evW g a 20 e2, stO g a 30 v3, cdW g a 30 c3, evW g a 30 e3, hiO g a h, hrW g a t, stF g a vs, cdF g a cs, evF g a es, caW g b t2, cmF g b ws, sbO g y zz k, baW g zz n f, iaW g (d 1) 110 r1, iaW g (d 2) 110 r2, iaW g (d 3) 110 r3, iaW g (d 4) 110 r4, iaW g (d 5) 880 r5, iaW g (d 6) 200 r6, iaW g (d 8) 124 r8, doW g w2 dd] (x_pickD [0, 1, 2, 3, 4, 5, 6, 7, 8, 9, 10, 11, 12, 13, 14, 15, 16, 17, 18, 19, 20, 21, 22, 23, 24, 25, 26, 27, 28, 29, 30] 31 rfl rfl rfl) rfl rfl (Nat.le_of_ble_eq_true rfl) ⟨by omega, by omega⟩ dL_law_1993 (x_goD (wss2 := [mdO g d u4.2.1, iaW g (d 7) 60 u4.2.2, ccO g a b y z, prO g b u2.2.1, loW g w u2.2.2, stO g a 10 v, cdW g a 10 c, evW g a 10 e, stO g a 20 v2, cdW g a 20 c2, evW g a 20 e2, stO g a 30 v3, cdW g a 30 c3, evW g a 30 e3, hiO g a h, hrW g a t, stF g a vs, cdF g a cs, evF g a es, caW g b t2, cmF g b ws, sbO g y zz k, baW g zz n f, iaW g (d 1) 110 r1, iaW g (d 2) 110 r2, iaW g (d 3) 110 r3, iaW g (d 4) 110 r4, iaW g (d 5) 880 r5, iaW g (d 6) 200 r6, iaW g (d 8) 124 r8, doW g w2 dd]) (stk2 := [.int u5]) rfl rfl ?_)
  refine x_iload C dL_law_1996 1 rfl ?_
  refine x_icmp_eq (tgt := 2003) C dL_law_1998 (by decide) (fun h6 => ?_) (fun h6 => ?_)
  · have hf := x_t h6 hf
    refine x_iload C dL_law_2003 1 rfl ?_
    refine x_if_ne (tgt := 2020) C dL_law_2005 (by decide) (fun h7 => ?_) (fun h7 => ?_)
    · have hf := x_f h7 hf
      refine x_goto (tgt := 2256) C dL_law_2020 (by decide) ?_
      refine x_perm (wss' := [ccO g a b y z, stO g a 10 v, cdW g a 10 c, evW g a 10 e, stO g a 20 v2, cdW g a 20 c2, evW g a 20 e2, stO g a 30 v3, cdW g a 30 c3, evW g a 30 e3, hiO g a h, hrW g a t, stF g a vs, cdF g a cs, evF g a es, prO g b u2.2.1, caW g b t2, cmF g b ws, sbO g y zz k, baW g zz n f, mdO g d u4.2.1, iaW g (d 1) 110 r1, iaW g (d 2) 110 r2, iaW g (d 3) 110 r3, iaW g (d 4) 110 r4, iaW g (d 5) 880 r5, iaW g (d 6) 200 r6, iaW g (d 7) 60 u4.2.2, iaW g (d 8) 124 r8, loW g w u2.2.2, doW g w2 dd]) (x_pick [2, 5, 6, 7, 8, 9, 10, 11, 12, 13, 14, 15, 16, 17, 18, 3, 19, 20, 21, 22, 0, 23, 24, 25, 26, 27, 28, 1, 29, 4, 30] 31 rfl rfl rfl) ?_
      refine x_locals (lv' := [(0, .ref sb), (1, .ref (a 0)), (2, .ref (d 0)), (3, .ref w), (4, .ref w2), (5, .int i)]) [2, 3, 4, 5, 6, 7] rfl ?_
      refine x_widen (k := cells + 292) (n := slots + 5516) (by omega) (by omega) ?_
      obtain rfl := Option.some.inj hf
      exact kk zz
    · have hf := x_t h7 hf
      refine x_aload_n C dL_law_2008 rfl 5 rfl ?_
      refine x_iconst (v := 0) C dL_law_2009 (by decide) ?_
      obtain ⟨h8, hf⟩ := x_n hf
      refine x_lald (b := loW g w u2.2.2) C 4 rfl 0 (loW_at0 g w _) h8 dL_law_2010 ?_
      refine x_iload C dL_law_2011 0 rfl ?_
      refine x_i2l C dL_law_2013 rfl ?_
      refine x_lcmp C dL_law_2014 ?_
      refine x_if_eq (tgt := 2020) C dL_law_2015 (by decide) (fun h9 => ?_) (fun h9 => ?_)
      · have hf := x_t h9 hf
        refine x_goto (tgt := 2256) C dL_law_2020 (by decide) ?_
        refine x_perm (wss' := [ccO g a b y z, stO g a 10 v, cdW g a 10 c, evW g a 10 e, stO g a 20 v2, cdW g a 20 c2, evW g a 20 e2, stO g a 30 v3, cdW g a 30 c3, evW g a 30 e3, hiO g a h, hrW g a t, stF g a vs, cdF g a cs, evF g a es, prO g b u2.2.1, caW g b t2, cmF g b ws, sbO g y zz k, baW g zz n f, mdO g d u4.2.1, iaW g (d 1) 110 r1, iaW g (d 2) 110 r2, iaW g (d 3) 110 r3, iaW g (d 4) 110 r4, iaW g (d 5) 880 r5, iaW g (d 6) 200 r6, iaW g (d 7) 60 u4.2.2, iaW g (d 8) 124 r8, loW g w u2.2.2, doW g w2 dd]) (x_pick [2, 5, 6, 7, 8, 9, 10, 11, 12, 13, 14, 15, 16, 17, 18, 3, 19, 20, 21, 22, 0, 23, 24, 25, 26, 27, 28, 1, 29, 4, 30] 31 rfl rfl rfl) ?_
        refine x_locals (lv' := [(0, .ref sb), (1, .ref (a 0)), (2, .ref (d 0)), (3, .ref w), (4, .ref w2), (5, .int i)]) [2, 3, 4, 5, 6, 7] rfl ?_
        refine x_widen (k := cells + 292) (n := slots + 5516) (by omega) (by omega) ?_
        obtain rfl := Option.some.inj hf
        exact kk zz
      · have hf := x_f h9 hf
        cases hf
  · have hf := x_f h6 hf
    cases hf
set_option maxHeartbeats 4000000 in
set_option maxRecDepth 100000 in
theorem c_law_2023 (a : Nat → Nat) (b : Nat → Nat) (y : Nat) (zz : Nat) (n : Nat) (d : Nat → Nat) (w : Nat) (w2 : Nat) (C : CX g RL cL_law 9 A pW sW mW argsW methW c9) (hl : l.stackTraces = false) (hX : va_X sb L xs sW sW.heap) (hbl : sb < sW.heap.size) (hbA : ¬ A sb) (hc : cells + 292 ≤ room_1.cells) (hs : slots + 5516 ≤ room_1.slots) (z : CcT) (v : StS) (c : CdT) (e : EvT) (v2 : StS) (c2 : CdT) (e2 : EvT) (v3 : StS) (c3 : CdT) (e3 : EvT) (h : HiT) (t : Unit) (vs : (Nat → StS)) (cs : (Nat → CdT)) (es : (Nat → EvT)) (q : PrT) (t2 : Unit) (ws : (Nat → CmT)) (k : SbT) (f : (Nat → Int32)) (m : MdT) (r1 : (Nat → Int32)) (r2 : (Nat → Int32)) (r3 : (Nat → Int32)) (r4 : (Nat → Int32)) (r5 : (Nat → Int32)) (r6 : (Nat → Int32)) (r7 : (Nat → Int32)) (r8 : (Nat → Int32)) (lo : (Nat → Int64)) (dd : (Nat → UInt64)) (i : Int32) {u : LwT} (hf : f_law_2023 n L xs z v c e v2 c2 e2 v3 c3 e3 h t vs cs es q t2 ws k f m r1 r2 r3 r4 r5 r6 r7 r8 lo dd i = some u)
    (kk : ∀ zz' : Nat, VW g A 9 pW l eW room_1 sW mW argsW belowW methW c9 (cells + 292) (slots + 5516) Q [ccO g a b y u.1, stO g a 10 u.2.1, cdW g a 10 u.2.2.1, evW g a 10 u.2.2.2.1, stO g a 20 u.2.2.2.2.1, cdW g a 20 u.2.2.2.2.2.1, evW g a 20 u.2.2.2.2.2.2.1, stO g a 30 u.2.2.2.2.2.2.2.1, cdW g a 30 u.2.2.2.2.2.2.2.2.1, evW g a 30 u.2.2.2.2.2.2.2.2.2.1, hiO g a u.2.2.2.2.2.2.2.2.2.2.1, hrW g a u.2.2.2.2.2.2.2.2.2.2.2.1, stF g a u.2.2.2.2.2.2.2.2.2.2.2.2.1, cdF g a u.2.2.2.2.2.2.2.2.2.2.2.2.2.1, evF g a u.2.2.2.2.2.2.2.2.2.2.2.2.2.2.1, prO g b u.2.2.2.2.2.2.2.2.2.2.2.2.2.2.2.1, caW g b u.2.2.2.2.2.2.2.2.2.2.2.2.2.2.2.2.1, cmF g b u.2.2.2.2.2.2.2.2.2.2.2.2.2.2.2.2.2.1, sbO g y zz' u.2.2.2.2.2.2.2.2.2.2.2.2.2.2.2.2.2.2.1, baW g zz' u.2.2.2.2.2.2.2.2.2.2.2.2.2.2.2.2.2.2.2.2.2.2.2.2.2.2.2.2.2.2.2 u.2.2.2.2.2.2.2.2.2.2.2.2.2.2.2.2.2.2.2.1, mdO g d u.2.2.2.2.2.2.2.2.2.2.2.2.2.2.2.2.2.2.2.2.1, iaW g (d 1) 110 u.2.2.2.2.2.2.2.2.2.2.2.2.2.2.2.2.2.2.2.2.2.1, iaW g (d 2) 110 u.2.2.2.2.2.2.2.2.2.2.2.2.2.2.2.2.2.2.2.2.2.2.1, iaW g (d 3) 110 u.2.2.2.2.2.2.2.2.2.2.2.2.2.2.2.2.2.2.2.2.2.2.2.1, iaW g (d 4) 110 u.2.2.2.2.2.2.2.2.2.2.2.2.2.2.2.2.2.2.2.2.2.2.2.2.1, iaW g (d 5) 880 u.2.2.2.2.2.2.2.2.2.2.2.2.2.2.2.2.2.2.2.2.2.2.2.2.2.1, iaW g (d 6) 200 u.2.2.2.2.2.2.2.2.2.2.2.2.2.2.2.2.2.2.2.2.2.2.2.2.2.2.1, iaW g (d 7) 60 u.2.2.2.2.2.2.2.2.2.2.2.2.2.2.2.2.2.2.2.2.2.2.2.2.2.2.2.1, iaW g (d 8) 124 u.2.2.2.2.2.2.2.2.2.2.2.2.2.2.2.2.2.2.2.2.2.2.2.2.2.2.2.2.1, loW g w u.2.2.2.2.2.2.2.2.2.2.2.2.2.2.2.2.2.2.2.2.2.2.2.2.2.2.2.2.2.1, doW g w2 u.2.2.2.2.2.2.2.2.2.2.2.2.2.2.2.2.2.2.2.2.2.2.2.2.2.2.2.2.2.2.1] [(0, .ref sb), (1, .ref (a 0)), (2, .ref (d 0)), (3, .ref w), (4, .ref w2), (5, .int i)] 2256 []) : VW g A 9 pW l eW room_1 sW mW argsW belowW methW c9 cells slots Q [ccO g a b y z, stO g a 10 v, cdW g a 10 c, evW g a 10 e, stO g a 20 v2, cdW g a 20 c2, evW g a 20 e2, stO g a 30 v3, cdW g a 30 c3, evW g a 30 e3, hiO g a h, hrW g a t, stF g a vs, cdF g a cs, evF g a es, prO g b q, caW g b t2, cmF g b ws, sbO g y zz k, baW g zz n f, mdO g d m, iaW g (d 1) 110 r1, iaW g (d 2) 110 r2, iaW g (d 3) 110 r3, iaW g (d 4) 110 r4, iaW g (d 5) 880 r5, iaW g (d 6) 200 r6, iaW g (d 7) 60 r7, iaW g (d 8) 124 r8, loW g w lo, doW g w2 dd] [(0, .ref sb), (1, .ref (a 0)), (2, .ref (d 0)), (3, .ref w), (4, .ref w2), (5, .int i)] 2023 [] := by
  unfold f_law_2023 at hf
  have C : CX g RL cL_law 9 A pW sW mW argsW methW c9 := C
  refine x_aload_n C dL_law_2023 rfl 1 rfl ?_
  refine x_aload_n C dL_law_2024 rfl 3 rfl ?_
  obtain ⟨u1, hu1, hf⟩ := x_b hf
  refine x_hcallS (n := 2) (As := [.ref (a 0), .ref w]) (rest := []) C (c_L_run g l hl a b y w z v c e v2 c2 e2 h t vs cs es q t2 ws lo hu1) ⟨⟨wd_1329, wd_1327, wd_64⟩, ⟨by decide, by decide, by decide⟩, rfl, rfl, Nat.le_of_ble_eq_true rfl, Nat.le_of_ble_eq_true rfl⟩ wd_1328 [stO g a 30 v3, cdW g a 30 c3, evW g a 30 e3, sbO g y zz k, baW g zz n f, mdO g d m, iaW g (d 1) 110 r1, iaW g (d 2) 110 r2, iaW g (d 3) 110 r3, iaW g (d 4) 110 r4, iaW g (d 5) 880 r5, iaW g (d 6) 200 r6, iaW g (d 7) 60 r7, iaW g (d 8) 124 r8, doW g w2 dd] (x_pickD [0, 1, 2, 3, 4, 5, 6, 10, 11, 12, 13, 14, 15, 16, 17, 29, 7, 8, 9, 18, 19, 20, 21, 22, 23, 24, 25, 26, 27, 28, 30] 31 rfl rfl rfl) rfl rfl (Nat.le_of_ble_eq_true rfl) ⟨by omega, by omega⟩ dL_law_2025 (fun v9 w9 hQ9 => ?_)
  obtain ⟨rfl, rfl⟩ := hQ9
  refine x_goW (wss2 := [ccO g a b y u1.2.1, stO g a 10 u1.2.2.1, cdW g a 10 u1.2.2.2.1, evW g a 10 u1.2.2.2.2.1, stO g a 20 u1.2.2.2.2.2.1, cdW g a 20 u1.2.2.2.2.2.2.1, evW g a 20 u1.2.2.2.2.2.2.2.1, hiO g a u1.2.2.2.2.2.2.2.2.1, hrW g a t, stF g a u1.2.2.2.2.2.2.2.2.2.1, cdF g a u1.2.2.2.2.2.2.2.2.2.2.1, evF g a u1.2.2.2.2.2.2.2.2.2.2.2.1, prO g b u1.2.2.2.2.2.2.2.2.2.2.2.2.1, caW g b t2, cmF g b u1.2.2.2.2.2.2.2.2.2.2.2.2.2.1, loW g w u1.2.2.2.2.2.2.2.2.2.2.2.2.2.2, stO g a 30 v3, cdW g a 30 c3, evW g a 30 e3, sbO g y zz k, baW g zz n f, mdO g d m, iaW g (d 1) 110 r1, iaW g (d 2) 110 r2, iaW g (d 3) 110 r3, iaW g (d 4) 110 r4, iaW g (d 5) 880 r5, iaW g (d 6) 200 r6, iaW g (d 7) 60 r7, iaW g (d 8) 124 r8, doW g w2 dd]) (stk2 := [.int u1.1]) rfl rfl rfl ?_
  refine x_istore (lv' := [(6, .int u1.1), (0, .ref sb), (1, .ref (a 0)), (2, .ref (d 0)), (3, .ref w), (4, .ref w2), (5, .int i)]) C dL_law_2028 (by decide) rfl ?_
  refine x_aload_n C dL_law_2030 rfl 3 rfl ?_
  obtain ⟨u2, hu2, hf⟩ := x_b hf
  refine x_callV (n := 0) (As := []) (rest := []) C (c_X10_run g l d m r1 r2 r5 r7 r8 hu2) ⟨⟨wd_1838, wd_1835, wd_78⟩, ⟨by decide, by decide, by decide⟩, rfl, rfl, Nat.le_of_ble_eq_true rfl, Nat.le_of_ble_eq_true rfl⟩ wd_1836 wd_1837 ⟨0, 11, _, _, rfl, rfl, rfl⟩ [ccO g a b y u1.2.1, stO g a 10 u1.2.2.1, cdW g a 10 u1.2.2.2.1, evW g a 10 u1.2.2.2.2.1, stO g a 20 u1.2.2.2.2.2.1, cdW g a 20 u1.2.2.2.2.2.2.1, evW g a 20 u1.2.2.2.2.2.2.2.1, hiO g a u1.2.2.2.2.2.2.2.2.1, hrW g a t, stF g a u1.2.2.2.2.2.2.2.2.2.1, cdF g a u1.2.2.2.2.2.2.2.2.2.2.1, evF g a u1.2.2.2.2.2.2.2.2.2.2.2.1, prO g b u1.2.2.2.2.2.2.2.2.2.2.2.2.1, caW g b t2, cmF g b u1.2.2.2.2.2.2.2.2.2.2.2.2.2.1, loW g w u1.2.2.2.2.2.2.2.2.2.2.2.2.2.2, stO g a 30 v3, cdW g a 30 c3, evW g a 30 e3, sbO g y zz k, baW g zz n f, iaW g (d 3) 110 r3, iaW g (d 4) 110 r4, iaW g (d 6) 200 r6, doW g w2 dd] (x_pickD [21, 22, 23, 26, 28, 29, 0, 1, 2, 3, 4, 5, 6, 7, 8, 9, 10, 11, 12, 13, 14, 15, 16, 17, 18, 19, 20, 24, 25, 27, 30] 31 rfl rfl rfl) rfl rfl (Nat.le_of_ble_eq_true rfl) ⟨by omega, by omega⟩ dL_law_2031 (x_goD (wss2 := [mdO g d u2.2.1, iaW g (d 1) 110 u2.2.2.1, iaW g (d 2) 110 u2.2.2.2.1, iaW g (d 5) 880 u2.2.2.2.2.1, iaW g (d 7) 60 r7, iaW g (d 8) 124 u2.2.2.2.2.2, ccO g a b y u1.2.1, stO g a 10 u1.2.2.1, cdW g a 10 u1.2.2.2.1, evW g a 10 u1.2.2.2.2.1, stO g a 20 u1.2.2.2.2.2.1, cdW g a 20 u1.2.2.2.2.2.2.1, evW g a 20 u1.2.2.2.2.2.2.2.1, hiO g a u1.2.2.2.2.2.2.2.2.1, hrW g a t, stF g a u1.2.2.2.2.2.2.2.2.2.1, cdF g a u1.2.2.2.2.2.2.2.2.2.2.1, evF g a u1.2.2.2.2.2.2.2.2.2.2.2.1, prO g b u1.2.2.2.2.2.2.2.2.2.2.2.2.1, caW g b t2, cmF g b u1.2.2.2.2.2.2.2.2.2.2.2.2.2.1, loW g w u1.2.2.2.2.2.2.2.2.2.2.2.2.2.2, stO g a 30 v3, cdW g a 30 c3, evW g a 30 e3, sbO g y zz k, baW g zz n f, iaW g (d 3) 110 r3, iaW g (d 4) 110 r4, iaW g (d 6) 200 r6, doW g w2 dd]) (stk2 := [.int u2.1]) rfl rfl ?_)
  refine x_istore (lv' := [(7, .int u2.1), (6, .int u1.1), (0, .ref sb), (1, .ref (a 0)), (2, .ref (d 0)), (3, .ref w), (4, .ref w2), (5, .int i)]) C dL_law_2034 (by decide) rfl ?_
  refine x_aload_n C dL_law_2036 rfl 4 rfl ?_
  obtain ⟨u3, hu3, hf⟩ := x_b hf
  refine x_callV (n := 0) (As := []) (rest := []) C (c_X10_thrown g l d u2.2.1 hu3) ⟨⟨wd_1550, wd_1547, wd_78⟩, ⟨by decide, by decide, by decide⟩, rfl, rfl, Nat.le_of_ble_eq_true rfl, Nat.le_of_ble_eq_true rfl⟩ wd_1548 wd_1549 ⟨0, 11, _, _, rfl, rfl, rfl⟩ [iaW g (d 1) 110 u2.2.2.1, iaW g (d 2) 110 u2.2.2.2.1, iaW g (d 5) 880 u2.2.2.2.2.1, iaW g (d 7) 60 r7, iaW g (d 8) 124 u2.2.2.2.2.2, ccO g a b y u1.2.1, stO g a 10 u1.2.2.1, cdW g a 10 u1.2.2.2.1, evW g a 10 u1.2.2.2.2.1, stO g a 20 u1.2.2.2.2.2.1, cdW g a 20 u1.2.2.2.2.2.2.1, evW g a 20 u1.2.2.2.2.2.2.2.1, hiO g a u1.2.2.2.2.2.2.2.2.1, hrW g a t, stF g a u1.2.2.2.2.2.2.2.2.2.1, cdF g a u1.2.2.2.2.2.2.2.2.2.2.1, evF g a u1.2.2.2.2.2.2.2.2.2.2.2.1, prO g b u1.2.2.2.2.2.2.2.2.2.2.2.2.1, caW g b t2, cmF g b u1.2.2.2.2.2.2.2.2.2.2.2.2.2.1, loW g w u1.2.2.2.2.2.2.2.2.2.2.2.2.2.2, stO g a 30 v3, cdW g a 30 c3, evW g a 30 e3, sbO g y zz k, baW g zz n f, iaW g (d 3) 110 r3, iaW g (d 4) 110 r4, iaW g (d 6) 200 r6, doW g w2 dd] (x_pickD [0, 1, 2, 3, 4, 5, 6, 7, 8, 9, 10, 11, 12, 13, 14, 15, 16, 17, 18, 19, 20, 21, 22, 23, 24, 25, 26, 27, 28, 29, 30] 31 rfl rfl rfl) rfl rfl (Nat.le_of_ble_eq_true rfl) ⟨by omega, by omega⟩ dL_law_2037 (x_goD (wss2 := [mdO g d u2.2.1, iaW g (d 1) 110 u2.2.2.1, iaW g (d 2) 110 u2.2.2.2.1, iaW g (d 5) 880 u2.2.2.2.2.1, iaW g (d 7) 60 r7, iaW g (d 8) 124 u2.2.2.2.2.2, ccO g a b y u1.2.1, stO g a 10 u1.2.2.1, cdW g a 10 u1.2.2.2.1, evW g a 10 u1.2.2.2.2.1, stO g a 20 u1.2.2.2.2.2.1, cdW g a 20 u1.2.2.2.2.2.2.1, evW g a 20 u1.2.2.2.2.2.2.2.1, hiO g a u1.2.2.2.2.2.2.2.2.1, hrW g a t, stF g a u1.2.2.2.2.2.2.2.2.2.1, cdF g a u1.2.2.2.2.2.2.2.2.2.2.1, evF g a u1.2.2.2.2.2.2.2.2.2.2.2.1, prO g b u1.2.2.2.2.2.2.2.2.2.2.2.2.1, caW g b t2, cmF g b u1.2.2.2.2.2.2.2.2.2.2.2.2.2.1, loW g w u1.2.2.2.2.2.2.2.2.2.2.2.2.2.2, stO g a 30 v3, cdW g a 30 c3, evW g a 30 e3, sbO g y zz k, baW g zz n f, iaW g (d 3) 110 r3, iaW g (d 4) 110 r4, iaW g (d 6) 200 r6, doW g w2 dd]) (stk2 := [.int u3]) rfl rfl ?_)
  refine x_iload C dL_law_2040 1 rfl ?_
  refine x_icmp_eq (tgt := 2047) C dL_law_2042 (by decide) (fun h4 => ?_) (fun h4 => ?_)
  · have hf := x_t h4 hf
    refine x_iload C dL_law_2047 1 rfl ?_
    refine x_if_ne (tgt := 2064) C dL_law_2049 (by decide) (fun h5 => ?_) (fun h5 => ?_)
    · have hf := x_f h5 hf
      refine x_goto (tgt := 2256) C dL_law_2064 (by decide) ?_
      refine x_perm (wss' := [ccO g a b y u1.2.1, stO g a 10 u1.2.2.1, cdW g a 10 u1.2.2.2.1, evW g a 10 u1.2.2.2.2.1, stO g a 20 u1.2.2.2.2.2.1, cdW g a 20 u1.2.2.2.2.2.2.1, evW g a 20 u1.2.2.2.2.2.2.2.1, stO g a 30 v3, cdW g a 30 c3, evW g a 30 e3, hiO g a u1.2.2.2.2.2.2.2.2.1, hrW g a t, stF g a u1.2.2.2.2.2.2.2.2.2.1, cdF g a u1.2.2.2.2.2.2.2.2.2.2.1, evF g a u1.2.2.2.2.2.2.2.2.2.2.2.1, prO g b u1.2.2.2.2.2.2.2.2.2.2.2.2.1, caW g b t2, cmF g b u1.2.2.2.2.2.2.2.2.2.2.2.2.2.1, sbO g y zz k, baW g zz n f, mdO g d u2.2.1, iaW g (d 1) 110 u2.2.2.1, iaW g (d 2) 110 u2.2.2.2.1, iaW g (d 3) 110 r3, iaW g (d 4) 110 r4, iaW g (d 5) 880 u2.2.2.2.2.1, iaW g (d 6) 200 r6, iaW g (d 7) 60 r7, iaW g (d 8) 124 u2.2.2.2.2.2, loW g w u1.2.2.2.2.2.2.2.2.2.2.2.2.2.2, doW g w2 dd]) (x_pick [6, 7, 8, 9, 10, 11, 12, 22, 23, 24, 13, 14, 15, 16, 17, 18, 19, 20, 25, 26, 0, 1, 2, 27, 28, 3, 29, 4, 5, 21, 30] 31 rfl rfl rfl) ?_
      refine x_locals (lv' := [(0, .ref sb), (1, .ref (a 0)), (2, .ref (d 0)), (3, .ref w), (4, .ref w2), (5, .int i)]) [2, 3, 4, 5, 6, 7] rfl ?_
      refine x_widen (k := cells + 292) (n := slots + 5516) (by omega) (by omega) ?_
      obtain rfl := Option.some.inj hf
      exact kk zz
    · have hf := x_t h5 hf
      refine x_aload_n C dL_law_2052 rfl 5 rfl ?_
      refine x_iconst (v := 0) C dL_law_2053 (by decide) ?_
      obtain ⟨h6, hf⟩ := x_n hf
      refine x_lald (b := loW g w u1.2.2.2.2.2.2.2.2.2.2.2.2.2.2) C 21 rfl 0 (loW_at0 g w _) h6 dL_law_2054 ?_
      refine x_iload C dL_law_2055 0 rfl ?_
      refine x_i2l C dL_law_2057 rfl ?_
      refine x_lcmp C dL_law_2058 ?_
      refine x_if_eq (tgt := 2064) C dL_law_2059 (by decide) (fun h7 => ?_) (fun h7 => ?_)
      · have hf := x_t h7 hf
        refine x_goto (tgt := 2256) C dL_law_2064 (by decide) ?_
        refine x_perm (wss' := [ccO g a b y u1.2.1, stO g a 10 u1.2.2.1, cdW g a 10 u1.2.2.2.1, evW g a 10 u1.2.2.2.2.1, stO g a 20 u1.2.2.2.2.2.1, cdW g a 20 u1.2.2.2.2.2.2.1, evW g a 20 u1.2.2.2.2.2.2.2.1, stO g a 30 v3, cdW g a 30 c3, evW g a 30 e3, hiO g a u1.2.2.2.2.2.2.2.2.1, hrW g a t, stF g a u1.2.2.2.2.2.2.2.2.2.1, cdF g a u1.2.2.2.2.2.2.2.2.2.2.1, evF g a u1.2.2.2.2.2.2.2.2.2.2.2.1, prO g b u1.2.2.2.2.2.2.2.2.2.2.2.2.1, caW g b t2, cmF g b u1.2.2.2.2.2.2.2.2.2.2.2.2.2.1, sbO g y zz k, baW g zz n f, mdO g d u2.2.1, iaW g (d 1) 110 u2.2.2.1, iaW g (d 2) 110 u2.2.2.2.1, iaW g (d 3) 110 r3, iaW g (d 4) 110 r4, iaW g (d 5) 880 u2.2.2.2.2.1, iaW g (d 6) 200 r6, iaW g (d 7) 60 r7, iaW g (d 8) 124 u2.2.2.2.2.2, loW g w u1.2.2.2.2.2.2.2.2.2.2.2.2.2.2, doW g w2 dd]) (x_pick [6, 7, 8, 9, 10, 11, 12, 22, 23, 24, 13, 14, 15, 16, 17, 18, 19, 20, 25, 26, 0, 1, 2, 27, 28, 3, 29, 4, 5, 21, 30] 31 rfl rfl rfl) ?_
        refine x_locals (lv' := [(0, .ref sb), (1, .ref (a 0)), (2, .ref (d 0)), (3, .ref w), (4, .ref w2), (5, .int i)]) [2, 3, 4, 5, 6, 7] rfl ?_
        refine x_widen (k := cells + 292) (n := slots + 5516) (by omega) (by omega) ?_
        obtain rfl := Option.some.inj hf
        exact kk zz
      · have hf := x_f h7 hf
        cases hf
  · have hf := x_f h4 hf
    cases hf
set_option maxHeartbeats 4000000 in
set_option maxRecDepth 100000 in
theorem c_law_2067 (a : Nat → Nat) (b : Nat → Nat) (y : Nat) (zz : Nat) (n : Nat) (d : Nat → Nat) (w : Nat) (w2 : Nat) (C : CX g RL cL_law 9 A pW sW mW argsW methW c9) (hl : l.stackTraces = false) (hX : va_X sb L xs sW sW.heap) (hbl : sb < sW.heap.size) (hbA : ¬ A sb) (hc : cells + 292 ≤ room_1.cells) (hs : slots + 5516 ≤ room_1.slots) (z : CcT) (v : StS) (c : CdT) (e : EvT) (v2 : StS) (c2 : CdT) (e2 : EvT) (v3 : StS) (c3 : CdT) (e3 : EvT) (h : HiT) (t : Unit) (vs : (Nat → StS)) (cs : (Nat → CdT)) (es : (Nat → EvT)) (q : PrT) (t2 : Unit) (ws : (Nat → CmT)) (k : SbT) (f : (Nat → Int32)) (m : MdT) (r1 : (Nat → Int32)) (r2 : (Nat → Int32)) (r3 : (Nat → Int32)) (r4 : (Nat → Int32)) (r5 : (Nat → Int32)) (r6 : (Nat → Int32)) (r7 : (Nat → Int32)) (r8 : (Nat → Int32)) (lo : (Nat → Int64)) (dd : (Nat → UInt64)) (i : Int32) {u : LwT} (hf : f_law_2067 n L xs z v c e v2 c2 e2 v3 c3 e3 h t vs cs es q t2 ws k f m r1 r2 r3 r4 r5 r6 r7 r8 lo dd i = some u)
    (kk : ∀ zz' : Nat, VW g A 9 pW l eW room_1 sW mW argsW belowW methW c9 (cells + 292) (slots + 5516) Q [ccO g a b y u.1, stO g a 10 u.2.1, cdW g a 10 u.2.2.1, evW g a 10 u.2.2.2.1, stO g a 20 u.2.2.2.2.1, cdW g a 20 u.2.2.2.2.2.1, evW g a 20 u.2.2.2.2.2.2.1, stO g a 30 u.2.2.2.2.2.2.2.1, cdW g a 30 u.2.2.2.2.2.2.2.2.1, evW g a 30 u.2.2.2.2.2.2.2.2.2.1, hiO g a u.2.2.2.2.2.2.2.2.2.2.1, hrW g a u.2.2.2.2.2.2.2.2.2.2.2.1, stF g a u.2.2.2.2.2.2.2.2.2.2.2.2.1, cdF g a u.2.2.2.2.2.2.2.2.2.2.2.2.2.1, evF g a u.2.2.2.2.2.2.2.2.2.2.2.2.2.2.1, prO g b u.2.2.2.2.2.2.2.2.2.2.2.2.2.2.2.1, caW g b u.2.2.2.2.2.2.2.2.2.2.2.2.2.2.2.2.1, cmF g b u.2.2.2.2.2.2.2.2.2.2.2.2.2.2.2.2.2.1, sbO g y zz' u.2.2.2.2.2.2.2.2.2.2.2.2.2.2.2.2.2.2.1, baW g zz' u.2.2.2.2.2.2.2.2.2.2.2.2.2.2.2.2.2.2.2.2.2.2.2.2.2.2.2.2.2.2.2 u.2.2.2.2.2.2.2.2.2.2.2.2.2.2.2.2.2.2.2.1, mdO g d u.2.2.2.2.2.2.2.2.2.2.2.2.2.2.2.2.2.2.2.2.1, iaW g (d 1) 110 u.2.2.2.2.2.2.2.2.2.2.2.2.2.2.2.2.2.2.2.2.2.1, iaW g (d 2) 110 u.2.2.2.2.2.2.2.2.2.2.2.2.2.2.2.2.2.2.2.2.2.2.1, iaW g (d 3) 110 u.2.2.2.2.2.2.2.2.2.2.2.2.2.2.2.2.2.2.2.2.2.2.2.1, iaW g (d 4) 110 u.2.2.2.2.2.2.2.2.2.2.2.2.2.2.2.2.2.2.2.2.2.2.2.2.1, iaW g (d 5) 880 u.2.2.2.2.2.2.2.2.2.2.2.2.2.2.2.2.2.2.2.2.2.2.2.2.2.1, iaW g (d 6) 200 u.2.2.2.2.2.2.2.2.2.2.2.2.2.2.2.2.2.2.2.2.2.2.2.2.2.2.1, iaW g (d 7) 60 u.2.2.2.2.2.2.2.2.2.2.2.2.2.2.2.2.2.2.2.2.2.2.2.2.2.2.2.1, iaW g (d 8) 124 u.2.2.2.2.2.2.2.2.2.2.2.2.2.2.2.2.2.2.2.2.2.2.2.2.2.2.2.2.1, loW g w u.2.2.2.2.2.2.2.2.2.2.2.2.2.2.2.2.2.2.2.2.2.2.2.2.2.2.2.2.2.1, doW g w2 u.2.2.2.2.2.2.2.2.2.2.2.2.2.2.2.2.2.2.2.2.2.2.2.2.2.2.2.2.2.2.1] [(0, .ref sb), (1, .ref (a 0)), (2, .ref (d 0)), (3, .ref w), (4, .ref w2), (5, .int i)] 2256 []) : VW g A 9 pW l eW room_1 sW mW argsW belowW methW c9 cells slots Q [ccO g a b y z, stO g a 10 v, cdW g a 10 c, evW g a 10 e, stO g a 20 v2, cdW g a 20 c2, evW g a 20 e2, stO g a 30 v3, cdW g a 30 c3, evW g a 30 e3, hiO g a h, hrW g a t, stF g a vs, cdF g a cs, evF g a es, prO g b q, caW g b t2, cmF g b ws, sbO g y zz k, baW g zz n f, mdO g d m, iaW g (d 1) 110 r1, iaW g (d 2) 110 r2, iaW g (d 3) 110 r3, iaW g (d 4) 110 r4, iaW g (d 5) 880 r5, iaW g (d 6) 200 r6, iaW g (d 7) 60 r7, iaW g (d 8) 124 r8, loW g w lo, doW g w2 dd] [(0, .ref sb), (1, .ref (a 0)), (2, .ref (d 0)), (3, .ref w), (4, .ref w2), (5, .int i)] 2067 [] := by
  unfold f_law_2067 at hf
  have C : CX g RL cL_law 9 A pW sW mW argsW methW c9 := C
  refine x_aload_n C dL_law_2067 rfl 1 rfl ?_
  refine x_aload_n C dL_law_2068 rfl 3 rfl ?_
  obtain ⟨u1, hu1, hf⟩ := x_b hf
  refine x_hcallS (n := 2) (As := [.ref (a 0), .ref w]) (rest := []) C (c_L_errorPosition g l hl a b y w z lo hu1) ⟨⟨wd_1448, wd_1446, wd_64⟩, ⟨by decide, by decide, by decide⟩, rfl, rfl, Nat.le_of_ble_eq_true rfl, Nat.le_of_ble_eq_true rfl⟩ wd_1447 [stO g a 10 v, cdW g a 10 c, evW g a 10 e, stO g a 20 v2, cdW g a 20 c2, evW g a 20 e2, stO g a 30 v3, cdW g a 30 c3, evW g a 30 e3, hiO g a h, hrW g a t, stF g a vs, cdF g a cs, evF g a es, prO g b q, caW g b t2, cmF g b ws, sbO g y zz k, baW g zz n f, mdO g d m, iaW g (d 1) 110 r1, iaW g (d 2) 110 r2, iaW g (d 3) 110 r3, iaW g (d 4) 110 r4, iaW g (d 5) 880 r5, iaW g (d 6) 200 r6, iaW g (d 7) 60 r7, iaW g (d 8) 124 r8, doW g w2 dd] (x_pickD [0, 29, 1, 2, 3, 4, 5, 6, 7, 8, 9, 10, 11, 12, 13, 14, 15, 16, 17, 18, 19, 20, 21, 22, 23, 24, 25, 26, 27, 28, 30] 31 rfl rfl rfl) rfl rfl (Nat.le_of_ble_eq_true rfl) ⟨by omega, by omega⟩ dL_law_2069 (fun v9 w9 hQ9 => ?_)
  obtain ⟨rfl, rfl⟩ := hQ9
  refine x_goW (wss2 := [ccO g a b y z, loW g w u1.2, stO g a 10 v, cdW g a 10 c, evW g a 10 e, stO g a 20 v2, cdW g a 20 c2, evW g a 20 e2, stO g a 30 v3, cdW g a 30 c3, evW g a 30 e3, hiO g a h, hrW g a t, stF g a vs, cdF g a cs, evF g a es, prO g b q, caW g b t2, cmF g b ws, sbO g y zz k, baW g zz n f, mdO g d m, iaW g (d 1) 110 r1, iaW g (d 2) 110 r2, iaW g (d 3) 110 r3, iaW g (d 4) 110 r4, iaW g (d 5) 880 r5, iaW g (d 6) 200 r6, iaW g (d 7) 60 r7, iaW g (d 8) 124 r8, doW g w2 dd]) (stk2 := [.int u1.1]) rfl rfl rfl ?_
  refine x_istore (lv' := [(6, .int u1.1), (0, .ref sb), (1, .ref (a 0)), (2, .ref (d 0)), (3, .ref w), (4, .ref w2), (5, .int i)]) C dL_law_2072 (by decide) rfl ?_
  refine x_aload_n C dL_law_2074 rfl 3 rfl ?_
  obtain ⟨u2, hu2, hf⟩ := x_b hf
  refine x_callV (n := 0) (As := []) (rest := []) C (c_X10_errorPosition g l d m hu2) ⟨⟨wd_1907, wd_1904, wd_78⟩, ⟨by decide, by decide, by decide⟩, rfl, rfl, Nat.le_of_ble_eq_true rfl, Nat.le_of_ble_eq_true rfl⟩ wd_1905 wd_1906 ⟨0, 11, _, _, rfl, rfl, rfl⟩ [ccO g a b y z, loW g w u1.2, stO g a 10 v, cdW g a 10 c, evW g a 10 e, stO g a 20 v2, cdW g a 20 c2, evW g a 20 e2, stO g a 30 v3, cdW g a 30 c3, evW g a 30 e3, hiO g a h, hrW g a t, stF g a vs, cdF g a cs, evF g a es, prO g b q, caW g b t2, cmF g b ws, sbO g y zz k, baW g zz n f, iaW g (d 1) 110 r1, iaW g (d 2) 110 r2, iaW g (d 3) 110 r3, iaW g (d 4) 110 r4, iaW g (d 5) 880 r5, iaW g (d 6) 200 r6, iaW g (d 7) 60 r7, iaW g (d 8) 124 r8, doW g w2 dd] (x_pickD [21, 0, 1, 2, 3, 4, 5, 6, 7, 8, 9, 10, 11, 12, 13, 14, 15, 16, 17, 18, 19, 20, 22, 23, 24, 25, 26, 27, 28, 29, 30] 31 rfl rfl rfl) rfl rfl (Nat.le_of_ble_eq_true rfl) ⟨by omega, by omega⟩ dL_law_2075 (x_goD (wss2 := [mdO g d u2.2, ccO g a b y z, loW g w u1.2, stO g a 10 v, cdW g a 10 c, evW g a 10 e, stO g a 20 v2, cdW g a 20 c2, evW g a 20 e2, stO g a 30 v3, cdW g a 30 c3, evW g a 30 e3, hiO g a h, hrW g a t, stF g a vs, cdF g a cs, evF g a es, prO g b q, caW g b t2, cmF g b ws, sbO g y zz k, baW g zz n f, iaW g (d 1) 110 r1, iaW g (d 2) 110 r2, iaW g (d 3) 110 r3, iaW g (d 4) 110 r4, iaW g (d 5) 880 r5, iaW g (d 6) 200 r6, iaW g (d 7) 60 r7, iaW g (d 8) 124 r8, doW g w2 dd]) (stk2 := [.int u2.1]) rfl rfl ?_)
  refine x_istore (lv' := [(7, .int u2.1), (6, .int u1.1), (0, .ref sb), (1, .ref (a 0)), (2, .ref (d 0)), (3, .ref w), (4, .ref w2), (5, .int i)]) C dL_law_2078 (by decide) rfl ?_
  refine x_aload_n C dL_law_2080 rfl 4 rfl ?_
  obtain ⟨u3, hu3, hf⟩ := x_b hf
  refine x_callV (n := 0) (As := []) (rest := []) C (c_X10_thrown g l d u2.2 hu3) ⟨⟨wd_1550, wd_1547, wd_78⟩, ⟨by decide, by decide, by decide⟩, rfl, rfl, Nat.le_of_ble_eq_true rfl, Nat.le_of_ble_eq_true rfl⟩ wd_1548 wd_1549 ⟨0, 11, _, _, rfl, rfl, rfl⟩ [ccO g a b y z, loW g w u1.2, stO g a 10 v, cdW g a 10 c, evW g a 10 e, stO g a 20 v2, cdW g a 20 c2, evW g a 20 e2, stO g a 30 v3, cdW g a 30 c3, evW g a 30 e3, hiO g a h, hrW g a t, stF g a vs, cdF g a cs, evF g a es, prO g b q, caW g b t2, cmF g b ws, sbO g y zz k, baW g zz n f, iaW g (d 1) 110 r1, iaW g (d 2) 110 r2, iaW g (d 3) 110 r3, iaW g (d 4) 110 r4, iaW g (d 5) 880 r5, iaW g (d 6) 200 r6, iaW g (d 7) 60 r7, iaW g (d 8) 124 r8, doW g w2 dd] (x_pickD [0, 1, 2, 3, 4, 5, 6, 7, 8, 9, 10, 11, 12, 13, 14, 15, 16, 17, 18, 19, 20, 21, 22, 23, 24, 25, 26, 27, 28, 29, 30] 31 rfl rfl rfl) rfl rfl (Nat.le_of_ble_eq_true rfl) ⟨by omega, by omega⟩ dL_law_2081 (x_goD (wss2 := [mdO g d u2.2, ccO g a b y z, loW g w u1.2, stO g a 10 v, cdW g a 10 c, evW g a 10 e, stO g a 20 v2, cdW g a 20 c2, evW g a 20 e2, stO g a 30 v3, cdW g a 30 c3, evW g a 30 e3, hiO g a h, hrW g a t, stF g a vs, cdF g a cs, evF g a es, prO g b q, caW g b t2, cmF g b ws, sbO g y zz k, baW g zz n f, iaW g (d 1) 110 r1, iaW g (d 2) 110 r2, iaW g (d 3) 110 r3, iaW g (d 4) 110 r4, iaW g (d 5) 880 r5, iaW g (d 6) 200 r6, iaW g (d 7) 60 r7, iaW g (d 8) 124 r8, doW g w2 dd]) (stk2 := [.int u3]) rfl rfl ?_)
  refine x_iload C dL_law_2084 1 rfl ?_
  refine x_icmp_eq (tgt := 2091) C dL_law_2086 (by decide) (fun h4 => ?_) (fun h4 => ?_)
  · have hf := x_t h4 hf
    refine x_iload C dL_law_2091 1 rfl ?_
    refine x_if_ne (tgt := 2108) C dL_law_2093 (by decide) (fun h5 => ?_) (fun h5 => ?_)
    · have hf := x_f h5 hf
      refine x_goto (tgt := 2256) C dL_law_2108 (by decide) ?_
      refine x_perm (wss' := [ccO g a b y z, stO g a 10 v, cdW g a 10 c, evW g a 10 e, stO g a 20 v2, cdW g a 20 c2, evW g a 20 e2, stO g a 30 v3, cdW g a 30 c3, evW g a 30 e3, hiO g a h, hrW g a t, stF g a vs, cdF g a cs, evF g a es, prO g b q, caW g b t2, cmF g b ws, sbO g y zz k, baW g zz n f, mdO g d u2.2, iaW g (d 1) 110 r1, iaW g (d 2) 110 r2, iaW g (d 3) 110 r3, iaW g (d 4) 110 r4, iaW g (d 5) 880 r5, iaW g (d 6) 200 r6, iaW g (d 7) 60 r7, iaW g (d 8) 124 r8, loW g w u1.2, doW g w2 dd]) (x_pick [1, 3, 4, 5, 6, 7, 8, 9, 10, 11, 12, 13, 14, 15, 16, 17, 18, 19, 20, 21, 0, 22, 23, 24, 25, 26, 27, 28, 29, 2, 30] 31 rfl rfl rfl) ?_
      refine x_locals (lv' := [(0, .ref sb), (1, .ref (a 0)), (2, .ref (d 0)), (3, .ref w), (4, .ref w2), (5, .int i)]) [2, 3, 4, 5, 6, 7] rfl ?_
      refine x_widen (k := cells + 292) (n := slots + 5516) (by omega) (by omega) ?_
      obtain rfl := Option.some.inj hf
      exact kk zz
    · have hf := x_t h5 hf
      refine x_aload_n C dL_law_2096 rfl 5 rfl ?_
      refine x_iconst (v := 0) C dL_law_2097 (by decide) ?_
      obtain ⟨h6, hf⟩ := x_n hf
      refine x_lald (b := loW g w u1.2) C 2 rfl 0 (loW_at0 g w _) h6 dL_law_2098 ?_
      refine x_iload C dL_law_2099 0 rfl ?_
      refine x_i2l C dL_law_2101 rfl ?_
      refine x_lcmp C dL_law_2102 ?_
      refine x_if_eq (tgt := 2108) C dL_law_2103 (by decide) (fun h7 => ?_) (fun h7 => ?_)
      · have hf := x_t h7 hf
        refine x_goto (tgt := 2256) C dL_law_2108 (by decide) ?_
        refine x_perm (wss' := [ccO g a b y z, stO g a 10 v, cdW g a 10 c, evW g a 10 e, stO g a 20 v2, cdW g a 20 c2, evW g a 20 e2, stO g a 30 v3, cdW g a 30 c3, evW g a 30 e3, hiO g a h, hrW g a t, stF g a vs, cdF g a cs, evF g a es, prO g b q, caW g b t2, cmF g b ws, sbO g y zz k, baW g zz n f, mdO g d u2.2, iaW g (d 1) 110 r1, iaW g (d 2) 110 r2, iaW g (d 3) 110 r3, iaW g (d 4) 110 r4, iaW g (d 5) 880 r5, iaW g (d 6) 200 r6, iaW g (d 7) 60 r7, iaW g (d 8) 124 r8, loW g w u1.2, doW g w2 dd]) (x_pick [1, 3, 4, 5, 6, 7, 8, 9, 10, 11, 12, 13, 14, 15, 16, 17, 18, 19, 20, 21, 0, 22, 23, 24, 25, 26, 27, 28, 29, 2, 30] 31 rfl rfl rfl) ?_
        refine x_locals (lv' := [(0, .ref sb), (1, .ref (a 0)), (2, .ref (d 0)), (3, .ref w), (4, .ref w2), (5, .int i)]) [2, 3, 4, 5, 6, 7] rfl ?_
        refine x_widen (k := cells + 292) (n := slots + 5516) (by omega) (by omega) ?_
        obtain rfl := Option.some.inj hf
        exact kk zz
      · have hf := x_f h7 hf
        cases hf
  · have hf := x_f h4 hf
    cases hf
set_option maxHeartbeats 4000000 in
set_option maxRecDepth 100000 in
theorem c_law_2111 (a : Nat → Nat) (b : Nat → Nat) (y : Nat) (zz : Nat) (n : Nat) (d : Nat → Nat) (w : Nat) (w2 : Nat) (C : CX g RL cL_law 9 A pW sW mW argsW methW c9) (hl : l.stackTraces = false) (hX : va_X sb L xs sW sW.heap) (hbl : sb < sW.heap.size) (hbA : ¬ A sb) (hc : cells + 292 ≤ room_1.cells) (hs : slots + 5516 ≤ room_1.slots) (z : CcT) (v : StS) (c : CdT) (e : EvT) (v2 : StS) (c2 : CdT) (e2 : EvT) (v3 : StS) (c3 : CdT) (e3 : EvT) (h : HiT) (t : Unit) (vs : (Nat → StS)) (cs : (Nat → CdT)) (es : (Nat → EvT)) (q : PrT) (t2 : Unit) (ws : (Nat → CmT)) (k : SbT) (f : (Nat → Int32)) (m : MdT) (r1 : (Nat → Int32)) (r2 : (Nat → Int32)) (r3 : (Nat → Int32)) (r4 : (Nat → Int32)) (r5 : (Nat → Int32)) (r6 : (Nat → Int32)) (r7 : (Nat → Int32)) (r8 : (Nat → Int32)) (lo : (Nat → Int64)) (dd : (Nat → UInt64)) (i : Int32) {u : LwT} (hf : f_law_2111 n L xs z v c e v2 c2 e2 v3 c3 e3 h t vs cs es q t2 ws k f m r1 r2 r3 r4 r5 r6 r7 r8 lo dd i = some u)
    (kk : ∀ zz' : Nat, VW g A 9 pW l eW room_1 sW mW argsW belowW methW c9 (cells + 292) (slots + 5516) Q [ccO g a b y u.1, stO g a 10 u.2.1, cdW g a 10 u.2.2.1, evW g a 10 u.2.2.2.1, stO g a 20 u.2.2.2.2.1, cdW g a 20 u.2.2.2.2.2.1, evW g a 20 u.2.2.2.2.2.2.1, stO g a 30 u.2.2.2.2.2.2.2.1, cdW g a 30 u.2.2.2.2.2.2.2.2.1, evW g a 30 u.2.2.2.2.2.2.2.2.2.1, hiO g a u.2.2.2.2.2.2.2.2.2.2.1, hrW g a u.2.2.2.2.2.2.2.2.2.2.2.1, stF g a u.2.2.2.2.2.2.2.2.2.2.2.2.1, cdF g a u.2.2.2.2.2.2.2.2.2.2.2.2.2.1, evF g a u.2.2.2.2.2.2.2.2.2.2.2.2.2.2.1, prO g b u.2.2.2.2.2.2.2.2.2.2.2.2.2.2.2.1, caW g b u.2.2.2.2.2.2.2.2.2.2.2.2.2.2.2.2.1, cmF g b u.2.2.2.2.2.2.2.2.2.2.2.2.2.2.2.2.2.1, sbO g y zz' u.2.2.2.2.2.2.2.2.2.2.2.2.2.2.2.2.2.2.1, baW g zz' u.2.2.2.2.2.2.2.2.2.2.2.2.2.2.2.2.2.2.2.2.2.2.2.2.2.2.2.2.2.2.2 u.2.2.2.2.2.2.2.2.2.2.2.2.2.2.2.2.2.2.2.1, mdO g d u.2.2.2.2.2.2.2.2.2.2.2.2.2.2.2.2.2.2.2.2.1, iaW g (d 1) 110 u.2.2.2.2.2.2.2.2.2.2.2.2.2.2.2.2.2.2.2.2.2.1, iaW g (d 2) 110 u.2.2.2.2.2.2.2.2.2.2.2.2.2.2.2.2.2.2.2.2.2.2.1, iaW g (d 3) 110 u.2.2.2.2.2.2.2.2.2.2.2.2.2.2.2.2.2.2.2.2.2.2.2.1, iaW g (d 4) 110 u.2.2.2.2.2.2.2.2.2.2.2.2.2.2.2.2.2.2.2.2.2.2.2.2.1, iaW g (d 5) 880 u.2.2.2.2.2.2.2.2.2.2.2.2.2.2.2.2.2.2.2.2.2.2.2.2.2.1, iaW g (d 6) 200 u.2.2.2.2.2.2.2.2.2.2.2.2.2.2.2.2.2.2.2.2.2.2.2.2.2.2.1, iaW g (d 7) 60 u.2.2.2.2.2.2.2.2.2.2.2.2.2.2.2.2.2.2.2.2.2.2.2.2.2.2.2.1, iaW g (d 8) 124 u.2.2.2.2.2.2.2.2.2.2.2.2.2.2.2.2.2.2.2.2.2.2.2.2.2.2.2.2.1, loW g w u.2.2.2.2.2.2.2.2.2.2.2.2.2.2.2.2.2.2.2.2.2.2.2.2.2.2.2.2.2.1, doW g w2 u.2.2.2.2.2.2.2.2.2.2.2.2.2.2.2.2.2.2.2.2.2.2.2.2.2.2.2.2.2.2.1] [(0, .ref sb), (1, .ref (a 0)), (2, .ref (d 0)), (3, .ref w), (4, .ref w2), (5, .int i)] 2256 []) : VW g A 9 pW l eW room_1 sW mW argsW belowW methW c9 cells slots Q [ccO g a b y z, stO g a 10 v, cdW g a 10 c, evW g a 10 e, stO g a 20 v2, cdW g a 20 c2, evW g a 20 e2, stO g a 30 v3, cdW g a 30 c3, evW g a 30 e3, hiO g a h, hrW g a t, stF g a vs, cdF g a cs, evF g a es, prO g b q, caW g b t2, cmF g b ws, sbO g y zz k, baW g zz n f, mdO g d m, iaW g (d 1) 110 r1, iaW g (d 2) 110 r2, iaW g (d 3) 110 r3, iaW g (d 4) 110 r4, iaW g (d 5) 880 r5, iaW g (d 6) 200 r6, iaW g (d 7) 60 r7, iaW g (d 8) 124 r8, loW g w lo, doW g w2 dd] [(0, .ref sb), (1, .ref (a 0)), (2, .ref (d 0)), (3, .ref w), (4, .ref w2), (5, .int i)] 2111 [] := by
  unfold f_law_2111 at hf
  have C : CX g RL cL_law 9 A pW sW mW argsW methW c9 := C
  refine x_aload_n C dL_law_2111 rfl 1 rfl ?_
  refine x_aload_n C dL_law_2112 rfl 3 rfl ?_
  obtain ⟨u1, hu1, hf⟩ := x_b hf
  refine x_hcallS (n := 2) (As := [.ref (a 0), .ref w]) (rest := []) C (c_L_failedCommand g l hl a b y w z lo hu1) ⟨⟨wd_1456, wd_1454, wd_64⟩, ⟨by decide, by decide, by decide⟩, rfl, rfl, Nat.le_of_ble_eq_true rfl, Nat.le_of_ble_eq_true rfl⟩ wd_1455 [stO g a 10 v, cdW g a 10 c, evW g a 10 e, stO g a 20 v2, cdW g a 20 c2, evW g a 20 e2, stO g a 30 v3, cdW g a 30 c3, evW g a 30 e3, hiO g a h, hrW g a t, stF g a vs, cdF g a cs, evF g a es, prO g b q, caW g b t2, cmF g b ws, sbO g y zz k, baW g zz n f, mdO g d m, iaW g (d 1) 110 r1, iaW g (d 2) 110 r2, iaW g (d 3) 110 r3, iaW g (d 4) 110 r4, iaW g (d 5) 880 r5, iaW g (d 6) 200 r6, iaW g (d 7) 60 r7, iaW g (d 8) 124 r8, doW g w2 dd] (x_pickD [0, 29, 1, 2, 3, 4, 5, 6, 7, 8, 9, 10, 11, 12, 13, 14, 15, 16, 17, 18, 19, 20, 21, 22, 23, 24, 25, 26, 27, 28, 30] 31 rfl rfl rfl) rfl rfl (Nat.le_of_ble_eq_true rfl) ⟨by omega, by omega⟩ dL_law_2113 (fun v9 w9 hQ9 => ?_)
  obtain ⟨rfl, rfl⟩ := hQ9
  refine x_goW (wss2 := [ccO g a b y z, loW g w u1.2, stO g a 10 v, cdW g a 10 c, evW g a 10 e, stO g a 20 v2, cdW g a 20 c2, evW g a 20 e2, stO g a 30 v3, cdW g a 30 c3, evW g a 30 e3, hiO g a h, hrW g a t, stF g a vs, cdF g a cs, evF g a es, prO g b q, caW g b t2, cmF g b ws, sbO g y zz k, baW g zz n f, mdO g d m, iaW g (d 1) 110 r1, iaW g (d 2) 110 r2, iaW g (d 3) 110 r3, iaW g (d 4) 110 r4, iaW g (d 5) 880 r5, iaW g (d 6) 200 r6, iaW g (d 7) 60 r7, iaW g (d 8) 124 r8, doW g w2 dd]) (stk2 := [.int u1.1]) rfl rfl rfl ?_
  refine x_istore (lv' := [(6, .int u1.1), (0, .ref sb), (1, .ref (a 0)), (2, .ref (d 0)), (3, .ref w), (4, .ref w2), (5, .int i)]) C dL_law_2116 (by decide) rfl ?_
  refine x_aload_n C dL_law_2118 rfl 3 rfl ?_
  obtain ⟨u2, hu2, hf⟩ := x_b hf
  refine x_callV (n := 0) (As := []) (rest := []) C (c_X10_failedCommand g l d m hu2) ⟨⟨wd_1911, wd_1908, wd_78⟩, ⟨by decide, by decide, by decide⟩, rfl, rfl, Nat.le_of_ble_eq_true rfl, Nat.le_of_ble_eq_true rfl⟩ wd_1909 wd_1910 ⟨0, 11, _, _, rfl, rfl, rfl⟩ [ccO g a b y z, loW g w u1.2, stO g a 10 v, cdW g a 10 c, evW g a 10 e, stO g a 20 v2, cdW g a 20 c2, evW g a 20 e2, stO g a 30 v3, cdW g a 30 c3, evW g a 30 e3, hiO g a h, hrW g a t, stF g a vs, cdF g a cs, evF g a es, prO g b q, caW g b t2, cmF g b ws, sbO g y zz k, baW g zz n f, iaW g (d 1) 110 r1, iaW g (d 2) 110 r2, iaW g (d 3) 110 r3, iaW g (d 4) 110 r4, iaW g (d 5) 880 r5, iaW g (d 6) 200 r6, iaW g (d 7) 60 r7, iaW g (d 8) 124 r8, doW g w2 dd] (x_pickD [21, 0, 1, 2, 3, 4, 5, 6, 7, 8, 9, 10, 11, 12, 13, 14, 15, 16, 17, 18, 19, 20, 22, 23, 24, 25, 26, 27, 28, 29, 30] 31 rfl rfl rfl) rfl rfl (Nat.le_of_ble_eq_true rfl) ⟨by omega, by omega⟩ dL_law_2119 (x_goD (wss2 := [mdO g d u2.2, ccO g a b y z, loW g w u1.2, stO g a 10 v, cdW g a 10 c, evW g a 10 e, stO g a 20 v2, cdW g a 20 c2, evW g a 20 e2, stO g a 30 v3, cdW g a 30 c3, evW g a 30 e3, hiO g a h, hrW g a t, stF g a vs, cdF g a cs, evF g a es, prO g b q, caW g b t2, cmF g b ws, sbO g y zz k, baW g zz n f, iaW g (d 1) 110 r1, iaW g (d 2) 110 r2, iaW g (d 3) 110 r3, iaW g (d 4) 110 r4, iaW g (d 5) 880 r5, iaW g (d 6) 200 r6, iaW g (d 7) 60 r7, iaW g (d 8) 124 r8, doW g w2 dd]) (stk2 := [.int u2.1]) rfl rfl ?_)
  refine x_istore (lv' := [(7, .int u2.1), (6, .int u1.1), (0, .ref sb), (1, .ref (a 0)), (2, .ref (d 0)), (3, .ref w), (4, .ref w2), (5, .int i)]) C dL_law_2122 (by decide) rfl ?_
  refine x_aload_n C dL_law_2124 rfl 4 rfl ?_
  obtain ⟨u3, hu3, hf⟩ := x_b hf
  refine x_callV (n := 0) (As := []) (rest := []) C (c_X10_thrown g l d u2.2 hu3) ⟨⟨wd_1550, wd_1547, wd_78⟩, ⟨by decide, by decide, by decide⟩, rfl, rfl, Nat.le_of_ble_eq_true rfl, Nat.le_of_ble_eq_true rfl⟩ wd_1548 wd_1549 ⟨0, 11, _, _, rfl, rfl, rfl⟩ [ccO g a b y z, loW g w u1.2, stO g a 10 v, cdW g a 10 c, evW g a 10 e, stO g a 20 v2, cdW g a 20 c2, evW g a 20 e2, stO g a 30 v3, cdW g a 30 c3, evW g a 30 e3, hiO g a h, hrW g a t, stF g a vs, cdF g a cs, evF g a es, prO g b q, caW g b t2, cmF g b ws, sbO g y zz k, baW g zz n f, iaW g (d 1) 110 r1, iaW g (d 2) 110 r2, iaW g (d 3) 110 r3, iaW g (d 4) 110 r4, iaW g (d 5) 880 r5, iaW g (d 6) 200 r6, iaW g (d 7) 60 r7, iaW g (d 8) 124 r8, doW g w2 dd] (x_pickD [0, 1, 2, 3, 4, 5, 6, 7, 8, 9, 10, 11, 12, 13, 14, 15, 16, 17, 18, 19, 20, 21, 22, 23, 24, 25, 26, 27, 28, 29, 30] 31 rfl rfl rfl) rfl rfl (Nat.le_of_ble_eq_true rfl) ⟨by omega, by omega⟩ dL_law_2125 (x_goD (wss2 := [mdO g d u2.2, ccO g a b y z, loW g w u1.2, stO g a 10 v, cdW g a 10 c, evW g a 10 e, stO g a 20 v2, cdW g a 20 c2, evW g a 20 e2, stO g a 30 v3, cdW g a 30 c3, evW g a 30 e3, hiO g a h, hrW g a t, stF g a vs, cdF g a cs, evF g a es, prO g b q, caW g b t2, cmF g b ws, sbO g y zz k, baW g zz n f, iaW g (d 1) 110 r1, iaW g (d 2) 110 r2, iaW g (d 3) 110 r3, iaW g (d 4) 110 r4, iaW g (d 5) 880 r5, iaW g (d 6) 200 r6, iaW g (d 7) 60 r7, iaW g (d 8) 124 r8, doW g w2 dd]) (stk2 := [.int u3]) rfl rfl ?_)
  refine x_iload C dL_law_2128 1 rfl ?_
  refine x_icmp_eq (tgt := 2135) C dL_law_2130 (by decide) (fun h4 => ?_) (fun h4 => ?_)
  · have hf := x_t h4 hf
    refine x_iload C dL_law_2135 1 rfl ?_
    refine x_if_ne (tgt := 2152) C dL_law_2137 (by decide) (fun h5 => ?_) (fun h5 => ?_)
    · have hf := x_f h5 hf
      refine x_goto (tgt := 2256) C dL_law_2152 (by decide) ?_
      refine x_perm (wss' := [ccO g a b y z, stO g a 10 v, cdW g a 10 c, evW g a 10 e, stO g a 20 v2, cdW g a 20 c2, evW g a 20 e2, stO g a 30 v3, cdW g a 30 c3, evW g a 30 e3, hiO g a h, hrW g a t, stF g a vs, cdF g a cs, evF g a es, prO g b q, caW g b t2, cmF g b ws, sbO g y zz k, baW g zz n f, mdO g d u2.2, iaW g (d 1) 110 r1, iaW g (d 2) 110 r2, iaW g (d 3) 110 r3, iaW g (d 4) 110 r4, iaW g (d 5) 880 r5, iaW g (d 6) 200 r6, iaW g (d 7) 60 r7, iaW g (d 8) 124 r8, loW g w u1.2, doW g w2 dd]) (x_pick [1, 3, 4, 5, 6, 7, 8, 9, 10, 11, 12, 13, 14, 15, 16, 17, 18, 19, 20, 21, 0, 22, 23, 24, 25, 26, 27, 28, 29, 2, 30] 31 rfl rfl rfl) ?_
      refine x_locals (lv' := [(0, .ref sb), (1, .ref (a 0)), (2, .ref (d 0)), (3, .ref w), (4, .ref w2), (5, .int i)]) [2, 3, 4, 5, 6, 7] rfl ?_
      refine x_widen (k := cells + 292) (n := slots + 5516) (by omega) (by omega) ?_
      obtain rfl := Option.some.inj hf
      exact kk zz
    · have hf := x_t h5 hf
      refine x_aload_n C dL_law_2140 rfl 5 rfl ?_
      refine x_iconst (v := 0) C dL_law_2141 (by decide) ?_
      obtain ⟨h6, hf⟩ := x_n hf
      refine x_lald (b := loW g w u1.2) C 2 rfl 0 (loW_at0 g w _) h6 dL_law_2142 ?_
      refine x_iload C dL_law_2143 0 rfl ?_
      refine x_i2l C dL_law_2145 rfl ?_
      refine x_lcmp C dL_law_2146 ?_
      refine x_if_eq (tgt := 2152) C dL_law_2147 (by decide) (fun h7 => ?_) (fun h7 => ?_)
      · have hf := x_t h7 hf
        refine x_goto (tgt := 2256) C dL_law_2152 (by decide) ?_
        refine x_perm (wss' := [ccO g a b y z, stO g a 10 v, cdW g a 10 c, evW g a 10 e, stO g a 20 v2, cdW g a 20 c2, evW g a 20 e2, stO g a 30 v3, cdW g a 30 c3, evW g a 30 e3, hiO g a h, hrW g a t, stF g a vs, cdF g a cs, evF g a es, prO g b q, caW g b t2, cmF g b ws, sbO g y zz k, baW g zz n f, mdO g d u2.2, iaW g (d 1) 110 r1, iaW g (d 2) 110 r2, iaW g (d 3) 110 r3, iaW g (d 4) 110 r4, iaW g (d 5) 880 r5, iaW g (d 6) 200 r6, iaW g (d 7) 60 r7, iaW g (d 8) 124 r8, loW g w u1.2, doW g w2 dd]) (x_pick [1, 3, 4, 5, 6, 7, 8, 9, 10, 11, 12, 13, 14, 15, 16, 17, 18, 19, 20, 21, 0, 22, 23, 24, 25, 26, 27, 28, 29, 2, 30] 31 rfl rfl rfl) ?_
        refine x_locals (lv' := [(0, .ref sb), (1, .ref (a 0)), (2, .ref (d 0)), (3, .ref w), (4, .ref w2), (5, .int i)]) [2, 3, 4, 5, 6, 7] rfl ?_
        refine x_widen (k := cells + 292) (n := slots + 5516) (by omega) (by omega) ?_
        obtain rfl := Option.some.inj hf
        exact kk zz
      · have hf := x_f h7 hf
        cases hf
  · have hf := x_f h4 hf
    cases hf
set_option maxHeartbeats 4000000 in
set_option maxRecDepth 100000 in
theorem c_law_2155 (a : Nat → Nat) (b : Nat → Nat) (y : Nat) (zz : Nat) (n : Nat) (d : Nat → Nat) (w : Nat) (w2 : Nat) (C : CX g RL cL_law 9 A pW sW mW argsW methW c9) (hl : l.stackTraces = false) (hX : va_X sb L xs sW sW.heap) (hbl : sb < sW.heap.size) (hbA : ¬ A sb) (hc : cells + 292 ≤ room_1.cells) (hs : slots + 5516 ≤ room_1.slots) (z : CcT) (v : StS) (c : CdT) (e : EvT) (v2 : StS) (c2 : CdT) (e2 : EvT) (v3 : StS) (c3 : CdT) (e3 : EvT) (h : HiT) (t : Unit) (vs : (Nat → StS)) (cs : (Nat → CdT)) (es : (Nat → EvT)) (q : PrT) (t2 : Unit) (ws : (Nat → CmT)) (k : SbT) (f : (Nat → Int32)) (m : MdT) (r1 : (Nat → Int32)) (r2 : (Nat → Int32)) (r3 : (Nat → Int32)) (r4 : (Nat → Int32)) (r5 : (Nat → Int32)) (r6 : (Nat → Int32)) (r7 : (Nat → Int32)) (r8 : (Nat → Int32)) (lo : (Nat → Int64)) (dd : (Nat → UInt64)) (i : Int32) {u : LwT} (hf : f_law_2155 n L xs z v c e v2 c2 e2 v3 c3 e3 h t vs cs es q t2 ws k f m r1 r2 r3 r4 r5 r6 r7 r8 lo dd i = some u)
    (kk : ∀ zz' : Nat, VW g A 9 pW l eW room_1 sW mW argsW belowW methW c9 (cells + 292) (slots + 5516) Q [ccO g a b y u.1, stO g a 10 u.2.1, cdW g a 10 u.2.2.1, evW g a 10 u.2.2.2.1, stO g a 20 u.2.2.2.2.1, cdW g a 20 u.2.2.2.2.2.1, evW g a 20 u.2.2.2.2.2.2.1, stO g a 30 u.2.2.2.2.2.2.2.1, cdW g a 30 u.2.2.2.2.2.2.2.2.1, evW g a 30 u.2.2.2.2.2.2.2.2.2.1, hiO g a u.2.2.2.2.2.2.2.2.2.2.1, hrW g a u.2.2.2.2.2.2.2.2.2.2.2.1, stF g a u.2.2.2.2.2.2.2.2.2.2.2.2.1, cdF g a u.2.2.2.2.2.2.2.2.2.2.2.2.2.1, evF g a u.2.2.2.2.2.2.2.2.2.2.2.2.2.2.1, prO g b u.2.2.2.2.2.2.2.2.2.2.2.2.2.2.2.1, caW g b u.2.2.2.2.2.2.2.2.2.2.2.2.2.2.2.2.1, cmF g b u.2.2.2.2.2.2.2.2.2.2.2.2.2.2.2.2.2.1, sbO g y zz' u.2.2.2.2.2.2.2.2.2.2.2.2.2.2.2.2.2.2.1, baW g zz' u.2.2.2.2.2.2.2.2.2.2.2.2.2.2.2.2.2.2.2.2.2.2.2.2.2.2.2.2.2.2.2 u.2.2.2.2.2.2.2.2.2.2.2.2.2.2.2.2.2.2.2.1, mdO g d u.2.2.2.2.2.2.2.2.2.2.2.2.2.2.2.2.2.2.2.2.1, iaW g (d 1) 110 u.2.2.2.2.2.2.2.2.2.2.2.2.2.2.2.2.2.2.2.2.2.1, iaW g (d 2) 110 u.2.2.2.2.2.2.2.2.2.2.2.2.2.2.2.2.2.2.2.2.2.2.1, iaW g (d 3) 110 u.2.2.2.2.2.2.2.2.2.2.2.2.2.2.2.2.2.2.2.2.2.2.2.1, iaW g (d 4) 110 u.2.2.2.2.2.2.2.2.2.2.2.2.2.2.2.2.2.2.2.2.2.2.2.2.1, iaW g (d 5) 880 u.2.2.2.2.2.2.2.2.2.2.2.2.2.2.2.2.2.2.2.2.2.2.2.2.2.1, iaW g (d 6) 200 u.2.2.2.2.2.2.2.2.2.2.2.2.2.2.2.2.2.2.2.2.2.2.2.2.2.2.1, iaW g (d 7) 60 u.2.2.2.2.2.2.2.2.2.2.2.2.2.2.2.2.2.2.2.2.2.2.2.2.2.2.2.1, iaW g (d 8) 124 u.2.2.2.2.2.2.2.2.2.2.2.2.2.2.2.2.2.2.2.2.2.2.2.2.2.2.2.2.1, loW g w u.2.2.2.2.2.2.2.2.2.2.2.2.2.2.2.2.2.2.2.2.2.2.2.2.2.2.2.2.2.1, doW g w2 u.2.2.2.2.2.2.2.2.2.2.2.2.2.2.2.2.2.2.2.2.2.2.2.2.2.2.2.2.2.2.1] [(0, .ref sb), (1, .ref (a 0)), (2, .ref (d 0)), (3, .ref w), (4, .ref w2), (5, .int i)] 2256 []) : VW g A 9 pW l eW room_1 sW mW argsW belowW methW c9 cells slots Q [ccO g a b y z, stO g a 10 v, cdW g a 10 c, evW g a 10 e, stO g a 20 v2, cdW g a 20 c2, evW g a 20 e2, stO g a 30 v3, cdW g a 30 c3, evW g a 30 e3, hiO g a h, hrW g a t, stF g a vs, cdF g a cs, evF g a es, prO g b q, caW g b t2, cmF g b ws, sbO g y zz k, baW g zz n f, mdO g d m, iaW g (d 1) 110 r1, iaW g (d 2) 110 r2, iaW g (d 3) 110 r3, iaW g (d 4) 110 r4, iaW g (d 5) 880 r5, iaW g (d 6) 200 r6, iaW g (d 7) 60 r7, iaW g (d 8) 124 r8, loW g w lo, doW g w2 dd] [(0, .ref sb), (1, .ref (a 0)), (2, .ref (d 0)), (3, .ref w), (4, .ref w2), (5, .int i)] 2155 [] := by
  unfold f_law_2155 at hf
  have C : CX g RL cL_law 9 A pW sW mW argsW methW c9 := C
  refine x_aload_n C dL_law_2155 rfl 1 rfl ?_
  refine x_aload_n C dL_law_2156 rfl 3 rfl ?_
  obtain ⟨u1, hu1, hf⟩ := x_b hf
  refine x_hcallS (n := 2) (As := [.ref (a 0), .ref w]) (rest := []) C (c_L_undo g l hl a b y w z v c e h t vs cs es lo hu1) ⟨⟨wd_1464, wd_1462, wd_64⟩, ⟨by decide, by decide, by decide⟩, rfl, rfl, Nat.le_of_ble_eq_true rfl, Nat.le_of_ble_eq_true rfl⟩ wd_1463 [stO g a 20 v2, cdW g a 20 c2, evW g a 20 e2, stO g a 30 v3, cdW g a 30 c3, evW g a 30 e3, prO g b q, caW g b t2, cmF g b ws, sbO g y zz k, baW g zz n f, mdO g d m, iaW g (d 1) 110 r1, iaW g (d 2) 110 r2, iaW g (d 3) 110 r3, iaW g (d 4) 110 r4, iaW g (d 5) 880 r5, iaW g (d 6) 200 r6, iaW g (d 7) 60 r7, iaW g (d 8) 124 r8, doW g w2 dd] (x_pickD [0, 1, 2, 3, 10, 11, 12, 13, 14, 29, 4, 5, 6, 7, 8, 9, 15, 16, 17, 18, 19, 20, 21, 22, 23, 24, 25, 26, 27, 28, 30] 31 rfl rfl rfl) rfl rfl (Nat.le_of_ble_eq_true rfl) ⟨by omega, by omega⟩ dL_law_2157 (fun v9 w9 hQ9 => ?_)
  obtain ⟨rfl, rfl⟩ := hQ9
  refine x_goW (wss2 := [ccO g a b y z, stO g a 10 u1.2.1, cdW g a 10 u1.2.2.1, evW g a 10 u1.2.2.2.1, hiO g a u1.2.2.2.2.1, hrW g a t, stF g a vs, cdF g a cs, evF g a es, loW g w u1.2.2.2.2.2, stO g a 20 v2, cdW g a 20 c2, evW g a 20 e2, stO g a 30 v3, cdW g a 30 c3, evW g a 30 e3, prO g b q, caW g b t2, cmF g b ws, sbO g y zz k, baW g zz n f, mdO g d m, iaW g (d 1) 110 r1, iaW g (d 2) 110 r2, iaW g (d 3) 110 r3, iaW g (d 4) 110 r4, iaW g (d 5) 880 r5, iaW g (d 6) 200 r6, iaW g (d 7) 60 r7, iaW g (d 8) 124 r8, doW g w2 dd]) (stk2 := [.int u1.1]) rfl rfl rfl ?_
  refine x_istore (lv' := [(6, .int u1.1), (0, .ref sb), (1, .ref (a 0)), (2, .ref (d 0)), (3, .ref w), (4, .ref w2), (5, .int i)]) C dL_law_2160 (by decide) rfl ?_
  refine x_aload_n C dL_law_2162 rfl 3 rfl ?_
  obtain ⟨u2, hu2, hf⟩ := x_b hf
  refine x_callV (n := 0) (As := []) (rest := []) C (c_X10_undo g l d m r1 r5 hu2) ⟨⟨wd_1915, wd_1912, wd_78⟩, ⟨by decide, by decide, by decide⟩, rfl, rfl, Nat.le_of_ble_eq_true rfl, Nat.le_of_ble_eq_true rfl⟩ wd_1913 wd_1914 ⟨0, 11, _, _, rfl, rfl, rfl⟩ [ccO g a b y z, stO g a 10 u1.2.1, cdW g a 10 u1.2.2.1, evW g a 10 u1.2.2.2.1, hiO g a u1.2.2.2.2.1, hrW g a t, stF g a vs, cdF g a cs, evF g a es, loW g w u1.2.2.2.2.2, stO g a 20 v2, cdW g a 20 c2, evW g a 20 e2, stO g a 30 v3, cdW g a 30 c3, evW g a 30 e3, prO g b q, caW g b t2, cmF g b ws, sbO g y zz k, baW g zz n f, iaW g (d 2) 110 r2, iaW g (d 3) 110 r3, iaW g (d 4) 110 r4, iaW g (d 6) 200 r6, iaW g (d 7) 60 r7, iaW g (d 8) 124 r8, doW g w2 dd] (x_pickD [21, 22, 26, 0, 1, 2, 3, 4, 5, 6, 7, 8, 9, 10, 11, 12, 13, 14, 15, 16, 17, 18, 19, 20, 23, 24, 25, 27, 28, 29, 30] 31 rfl rfl rfl) rfl rfl (Nat.le_of_ble_eq_true rfl) ⟨by omega, by omega⟩ dL_law_2163 (x_goD (wss2 := [mdO g d u2.2.1, iaW g (d 1) 110 u2.2.2, iaW g (d 5) 880 r5, ccO g a b y z, stO g a 10 u1.2.1, cdW g a 10 u1.2.2.1, evW g a 10 u1.2.2.2.1, hiO g a u1.2.2.2.2.1, hrW g a t, stF g a vs, cdF g a cs, evF g a es, loW g w u1.2.2.2.2.2, stO g a 20 v2, cdW g a 20 c2, evW g a 20 e2, stO g a 30 v3, cdW g a 30 c3, evW g a 30 e3, prO g b q, caW g b t2, cmF g b ws, sbO g y zz k, baW g zz n f, iaW g (d 2) 110 r2, iaW g (d 3) 110 r3, iaW g (d 4) 110 r4, iaW g (d 6) 200 r6, iaW g (d 7) 60 r7, iaW g (d 8) 124 r8, doW g w2 dd]) (stk2 := [.int u2.1]) rfl rfl ?_)
  refine x_istore (lv' := [(7, .int u2.1), (6, .int u1.1), (0, .ref sb), (1, .ref (a 0)), (2, .ref (d 0)), (3, .ref w), (4, .ref w2), (5, .int i)]) C dL_law_2166 (by decide) rfl ?_
  refine x_aload_n C dL_law_2168 rfl 4 rfl ?_
  obtain ⟨u3, hu3, hf⟩ := x_b hf
  refine x_callV (n := 0) (As := []) (rest := []) C (c_X10_thrown g l d u2.2.1 hu3) ⟨⟨wd_1550, wd_1547, wd_78⟩, ⟨by decide, by decide, by decide⟩, rfl, rfl, Nat.le_of_ble_eq_true rfl, Nat.le_of_ble_eq_true rfl⟩ wd_1548 wd_1549 ⟨0, 11, _, _, rfl, rfl, rfl⟩ [iaW g (d 1) 110 u2.2.2, iaW g (d 5) 880 r5, ccO g a b y z, stO g a 10 u1.2.1, cdW g a 10 u1.2.2.1, evW g a 10 u1.2.2.2.1, hiO g a u1.2.2.2.2.1, hrW g a t, stF g a vs, cdF g a cs, evF g a es, loW g w u1.2.2.2.2.2, stO g a 20 v2, cdW g a 20 c2, evW g a 20 e2, stO g a 30 v3, cdW g a 30 c3, evW g a 30 e3, prO g b q, caW g b t2, cmF g b ws, sbO g y zz k, baW g zz n f, iaW g (d 2) 110 r2, iaW g (d 3) 110 r3, iaW g (d 4) 110 r4, iaW g (d 6) 200 r6, iaW g (d 7) 60 r7, iaW g (d 8) 124 r8, doW g w2 dd] (x_pickD [0, 1, 2, 3, 4, 5, 6, 7, 8, 9, 10, 11, 12, 13, 14, 15, 16, 17, 18, 19, 20, 21, 22, 23, 24, 25, 26, 27, 28, 29, 30] 31 rfl rfl rfl) rfl rfl (Nat.le_of_ble_eq_true rfl) ⟨by omega, by omega⟩ dL_law_2169 (x_goD (wss2 := [mdO g d u2.2.1, iaW g (d 1) 110 u2.2.2, iaW g (d 5) 880 r5, ccO g a b y z, stO g a 10 u1.2.1, cdW g a 10 u1.2.2.1, evW g a 10 u1.2.2.2.1, hiO g a u1.2.2.2.2.1, hrW g a t, stF g a vs, cdF g a cs, evF g a es, loW g w u1.2.2.2.2.2, stO g a 20 v2, cdW g a 20 c2, evW g a 20 e2, stO g a 30 v3, cdW g a 30 c3, evW g a 30 e3, prO g b q, caW g b t2, cmF g b ws, sbO g y zz k, baW g zz n f, iaW g (d 2) 110 r2, iaW g (d 3) 110 r3, iaW g (d 4) 110 r4, iaW g (d 6) 200 r6, iaW g (d 7) 60 r7, iaW g (d 8) 124 r8, doW g w2 dd]) (stk2 := [.int u3]) rfl rfl ?_)
  refine x_iload C dL_law_2172 1 rfl ?_
  refine x_icmp_eq (tgt := 2179) C dL_law_2174 (by decide) (fun h4 => ?_) (fun h4 => ?_)
  · have hf := x_t h4 hf
    refine x_iload C dL_law_2179 1 rfl ?_
    refine x_if_ne (tgt := 2196) C dL_law_2181 (by decide) (fun h5 => ?_) (fun h5 => ?_)
    · have hf := x_f h5 hf
      refine x_goto (tgt := 2256) C dL_law_2196 (by decide) ?_
      refine x_perm (wss' := [ccO g a b y z, stO g a 10 u1.2.1, cdW g a 10 u1.2.2.1, evW g a 10 u1.2.2.2.1, stO g a 20 v2, cdW g a 20 c2, evW g a 20 e2, stO g a 30 v3, cdW g a 30 c3, evW g a 30 e3, hiO g a u1.2.2.2.2.1, hrW g a t, stF g a vs, cdF g a cs, evF g a es, prO g b q, caW g b t2, cmF g b ws, sbO g y zz k, baW g zz n f, mdO g d u2.2.1, iaW g (d 1) 110 u2.2.2, iaW g (d 2) 110 r2, iaW g (d 3) 110 r3, iaW g (d 4) 110 r4, iaW g (d 5) 880 r5, iaW g (d 6) 200 r6, iaW g (d 7) 60 r7, iaW g (d 8) 124 r8, loW g w u1.2.2.2.2.2, doW g w2 dd]) (x_pick [3, 4, 5, 6, 13, 14, 15, 16, 17, 18, 7, 8, 9, 10, 11, 19, 20, 21, 22, 23, 0, 1, 24, 25, 26, 2, 27, 28, 29, 12, 30] 31 rfl rfl rfl) ?_
      refine x_locals (lv' := [(0, .ref sb), (1, .ref (a 0)), (2, .ref (d 0)), (3, .ref w), (4, .ref w2), (5, .int i)]) [2, 3, 4, 5, 6, 7] rfl ?_
      refine x_widen (k := cells + 292) (n := slots + 5516) (by omega) (by omega) ?_
      obtain rfl := Option.some.inj hf
      exact kk zz
    · have hf := x_t h5 hf
      refine x_aload_n C dL_law_2184 rfl 5 rfl ?_
      refine x_iconst (v := 0) C dL_law_2185 (by decide) ?_
      obtain ⟨h6, hf⟩ := x_n hf
      refine x_lald (b := loW g w u1.2.2.2.2.2) C 12 rfl 0 (loW_at0 g w _) h6 dL_law_2186 ?_
      refine x_iload C dL_law_2187 0 rfl ?_
      refine x_i2l C dL_law_2189 rfl ?_
      refine x_lcmp C dL_law_2190 ?_
      refine x_if_eq (tgt := 2196) C dL_law_2191 (by decide) (fun h7 => ?_) (fun h7 => ?_)
      · have hf := x_t h7 hf
        refine x_goto (tgt := 2256) C dL_law_2196 (by decide) ?_
        refine x_perm (wss' := [ccO g a b y z, stO g a 10 u1.2.1, cdW g a 10 u1.2.2.1, evW g a 10 u1.2.2.2.1, stO g a 20 v2, cdW g a 20 c2, evW g a 20 e2, stO g a 30 v3, cdW g a 30 c3, evW g a 30 e3, hiO g a u1.2.2.2.2.1, hrW g a t, stF g a vs, cdF g a cs, evF g a es, prO g b q, caW g b t2, cmF g b ws, sbO g y zz k, baW g zz n f, mdO g d u2.2.1, iaW g (d 1) 110 u2.2.2, iaW g (d 2) 110 r2, iaW g (d 3) 110 r3, iaW g (d 4) 110 r4, iaW g (d 5) 880 r5, iaW g (d 6) 200 r6, iaW g (d 7) 60 r7, iaW g (d 8) 124 r8, loW g w u1.2.2.2.2.2, doW g w2 dd]) (x_pick [3, 4, 5, 6, 13, 14, 15, 16, 17, 18, 7, 8, 9, 10, 11, 19, 20, 21, 22, 23, 0, 1, 24, 25, 26, 2, 27, 28, 29, 12, 30] 31 rfl rfl rfl) ?_
        refine x_locals (lv' := [(0, .ref sb), (1, .ref (a 0)), (2, .ref (d 0)), (3, .ref w), (4, .ref w2), (5, .int i)]) [2, 3, 4, 5, 6, 7] rfl ?_
        refine x_widen (k := cells + 292) (n := slots + 5516) (by omega) (by omega) ?_
        obtain rfl := Option.some.inj hf
        exact kk zz
      · have hf := x_f h7 hf
        cases hf
  · have hf := x_f h4 hf
    cases hf
set_option maxHeartbeats 4000000 in
set_option maxRecDepth 100000 in
theorem c_law_2199 (a : Nat → Nat) (b : Nat → Nat) (y : Nat) (zz : Nat) (n : Nat) (d : Nat → Nat) (w : Nat) (w2 : Nat) (C : CX g RL cL_law 9 A pW sW mW argsW methW c9) (hl : l.stackTraces = false) (hX : va_X sb L xs sW sW.heap) (hbl : sb < sW.heap.size) (hbA : ¬ A sb) (hc : cells + 292 ≤ room_1.cells) (hs : slots + 5516 ≤ room_1.slots) (z : CcT) (v : StS) (c : CdT) (e : EvT) (v2 : StS) (c2 : CdT) (e2 : EvT) (v3 : StS) (c3 : CdT) (e3 : EvT) (h : HiT) (t : Unit) (vs : (Nat → StS)) (cs : (Nat → CdT)) (es : (Nat → EvT)) (q : PrT) (t2 : Unit) (ws : (Nat → CmT)) (k : SbT) (f : (Nat → Int32)) (m : MdT) (r1 : (Nat → Int32)) (r2 : (Nat → Int32)) (r3 : (Nat → Int32)) (r4 : (Nat → Int32)) (r5 : (Nat → Int32)) (r6 : (Nat → Int32)) (r7 : (Nat → Int32)) (r8 : (Nat → Int32)) (lo : (Nat → Int64)) (dd : (Nat → UInt64)) (i : Int32) {u : LwT} (hf : f_law_2199 n L xs z v c e v2 c2 e2 v3 c3 e3 h t vs cs es q t2 ws k f m r1 r2 r3 r4 r5 r6 r7 r8 lo dd i = some u)
    (kk : ∀ zz' : Nat, VW g A 9 pW l eW room_1 sW mW argsW belowW methW c9 (cells + 292) (slots + 5516) Q [ccO g a b y u.1, stO g a 10 u.2.1, cdW g a 10 u.2.2.1, evW g a 10 u.2.2.2.1, stO g a 20 u.2.2.2.2.1, cdW g a 20 u.2.2.2.2.2.1, evW g a 20 u.2.2.2.2.2.2.1, stO g a 30 u.2.2.2.2.2.2.2.1, cdW g a 30 u.2.2.2.2.2.2.2.2.1, evW g a 30 u.2.2.2.2.2.2.2.2.2.1, hiO g a u.2.2.2.2.2.2.2.2.2.2.1, hrW g a u.2.2.2.2.2.2.2.2.2.2.2.1, stF g a u.2.2.2.2.2.2.2.2.2.2.2.2.1, cdF g a u.2.2.2.2.2.2.2.2.2.2.2.2.2.1, evF g a u.2.2.2.2.2.2.2.2.2.2.2.2.2.2.1, prO g b u.2.2.2.2.2.2.2.2.2.2.2.2.2.2.2.1, caW g b u.2.2.2.2.2.2.2.2.2.2.2.2.2.2.2.2.1, cmF g b u.2.2.2.2.2.2.2.2.2.2.2.2.2.2.2.2.2.1, sbO g y zz' u.2.2.2.2.2.2.2.2.2.2.2.2.2.2.2.2.2.2.1, baW g zz' u.2.2.2.2.2.2.2.2.2.2.2.2.2.2.2.2.2.2.2.2.2.2.2.2.2.2.2.2.2.2.2 u.2.2.2.2.2.2.2.2.2.2.2.2.2.2.2.2.2.2.2.1, mdO g d u.2.2.2.2.2.2.2.2.2.2.2.2.2.2.2.2.2.2.2.2.1, iaW g (d 1) 110 u.2.2.2.2.2.2.2.2.2.2.2.2.2.2.2.2.2.2.2.2.2.1, iaW g (d 2) 110 u.2.2.2.2.2.2.2.2.2.2.2.2.2.2.2.2.2.2.2.2.2.2.1, iaW g (d 3) 110 u.2.2.2.2.2.2.2.2.2.2.2.2.2.2.2.2.2.2.2.2.2.2.2.1, iaW g (d 4) 110 u.2.2.2.2.2.2.2.2.2.2.2.2.2.2.2.2.2.2.2.2.2.2.2.2.1, iaW g (d 5) 880 u.2.2.2.2.2.2.2.2.2.2.2.2.2.2.2.2.2.2.2.2.2.2.2.2.2.1, iaW g (d 6) 200 u.2.2.2.2.2.2.2.2.2.2.2.2.2.2.2.2.2.2.2.2.2.2.2.2.2.2.1, iaW g (d 7) 60 u.2.2.2.2.2.2.2.2.2.2.2.2.2.2.2.2.2.2.2.2.2.2.2.2.2.2.2.1, iaW g (d 8) 124 u.2.2.2.2.2.2.2.2.2.2.2.2.2.2.2.2.2.2.2.2.2.2.2.2.2.2.2.2.1, loW g w u.2.2.2.2.2.2.2.2.2.2.2.2.2.2.2.2.2.2.2.2.2.2.2.2.2.2.2.2.2.1, doW g w2 u.2.2.2.2.2.2.2.2.2.2.2.2.2.2.2.2.2.2.2.2.2.2.2.2.2.2.2.2.2.2.1] [(0, .ref sb), (1, .ref (a 0)), (2, .ref (d 0)), (3, .ref w), (4, .ref w2), (5, .int i)] 2256 []) : VW g A 9 pW l eW room_1 sW mW argsW belowW methW c9 cells slots Q [ccO g a b y z, stO g a 10 v, cdW g a 10 c, evW g a 10 e, stO g a 20 v2, cdW g a 20 c2, evW g a 20 e2, stO g a 30 v3, cdW g a 30 c3, evW g a 30 e3, hiO g a h, hrW g a t, stF g a vs, cdF g a cs, evF g a es, prO g b q, caW g b t2, cmF g b ws, sbO g y zz k, baW g zz n f, mdO g d m, iaW g (d 1) 110 r1, iaW g (d 2) 110 r2, iaW g (d 3) 110 r3, iaW g (d 4) 110 r4, iaW g (d 5) 880 r5, iaW g (d 6) 200 r6, iaW g (d 7) 60 r7, iaW g (d 8) 124 r8, loW g w lo, doW g w2 dd] [(0, .ref sb), (1, .ref (a 0)), (2, .ref (d 0)), (3, .ref w), (4, .ref w2), (5, .int i)] 2199 [] := by
  unfold f_law_2199 at hf
  have C : CX g RL cL_law 9 A pW sW mW argsW methW c9 := C
  refine x_aload_n C dL_law_2199 rfl 1 rfl ?_
  obtain ⟨u1, hu1, hf⟩ := x_b hf
  refine x_callV (n := 0) (As := []) (rest := []) C (c_X9_save g l a b y z v c e v3 c3 e3 hu1) ⟨⟨wd_882, wd_879, wd_65⟩, ⟨by decide, by decide, by decide⟩, rfl, rfl, Nat.le_of_ble_eq_true rfl, Nat.le_of_ble_eq_true rfl⟩ wd_880 wd_881 ⟨0, 10, _, _, rfl, rfl, rfl⟩ [stO g a 20 v2, cdW g a 20 c2, evW g a 20 e2, hiO g a h, hrW g a t, stF g a vs, cdF g a cs, evF g a es, prO g b q, caW g b t2, cmF g b ws, sbO g y zz k, baW g zz n f, mdO g d m, iaW g (d 1) 110 r1, iaW g (d 2) 110 r2, iaW g (d 3) 110 r3, iaW g (d 4) 110 r4, iaW g (d 5) 880 r5, iaW g (d 6) 200 r6, iaW g (d 7) 60 r7, iaW g (d 8) 124 r8, loW g w lo, doW g w2 dd] (x_pickD [0, 1, 2, 3, 7, 8, 9, 4, 5, 6, 10, 11, 12, 13, 14, 15, 16, 17, 18, 19, 20, 21, 22, 23, 24, 25, 26, 27, 28, 29, 30] 31 rfl rfl rfl) rfl rfl (Nat.le_of_ble_eq_true rfl) ⟨by omega, by omega⟩ dL_law_2200 (x_goD (wss2 := [ccO g a b y u1.2.1, stO g a 10 v, cdW g a 10 c, evW g a 10 e, stO g a 30 u1.2.2.1, cdW g a 30 u1.2.2.2.1, evW g a 30 u1.2.2.2.2, stO g a 20 v2, cdW g a 20 c2, evW g a 20 e2, hiO g a h, hrW g a t, stF g a vs, cdF g a cs, evF g a es, prO g b q, caW g b t2, cmF g b ws, sbO g y zz k, baW g zz n f, mdO g d m, iaW g (d 1) 110 r1, iaW g (d 2) 110 r2, iaW g (d 3) 110 r3, iaW g (d 4) 110 r4, iaW g (d 5) 880 r5, iaW g (d 6) 200 r6, iaW g (d 7) 60 r7, iaW g (d 8) 124 r8, loW g w lo, doW g w2 dd]) (stk2 := [.int u1.1]) rfl rfl ?_)
  refine x_aload_n C dL_law_2203 rfl 2 rfl ?_
  obtain ⟨u2, hu2, hf⟩ := x_b hf
  refine x_callV (n := 0) (As := []) (rest := [.int u1.1]) C (c_X10_save g l d m r1 r4 hu2) ⟨⟨wd_1919, wd_1916, wd_78⟩, ⟨by decide, by decide, by decide⟩, rfl, rfl, Nat.le_of_ble_eq_true rfl, Nat.le_of_ble_eq_true rfl⟩ wd_1917 wd_1918 ⟨0, 11, _, _, rfl, rfl, rfl⟩ [ccO g a b y u1.2.1, stO g a 10 v, cdW g a 10 c, evW g a 10 e, stO g a 30 u1.2.2.1, cdW g a 30 u1.2.2.2.1, evW g a 30 u1.2.2.2.2, stO g a 20 v2, cdW g a 20 c2, evW g a 20 e2, hiO g a h, hrW g a t, stF g a vs, cdF g a cs, evF g a es, prO g b q, caW g b t2, cmF g b ws, sbO g y zz k, baW g zz n f, iaW g (d 2) 110 r2, iaW g (d 3) 110 r3, iaW g (d 5) 880 r5, iaW g (d 6) 200 r6, iaW g (d 7) 60 r7, iaW g (d 8) 124 r8, loW g w lo, doW g w2 dd] (x_pickD [20, 21, 24, 0, 1, 2, 3, 4, 5, 6, 7, 8, 9, 10, 11, 12, 13, 14, 15, 16, 17, 18, 19, 22, 23, 25, 26, 27, 28, 29, 30] 31 rfl rfl rfl) rfl rfl (Nat.le_of_ble_eq_true rfl) ⟨by omega, by omega⟩ dL_law_2204 (x_goD (wss2 := [mdO g d u2.2.1, iaW g (d 1) 110 r1, iaW g (d 4) 110 u2.2.2, ccO g a b y u1.2.1, stO g a 10 v, cdW g a 10 c, evW g a 10 e, stO g a 30 u1.2.2.1, cdW g a 30 u1.2.2.2.1, evW g a 30 u1.2.2.2.2, stO g a 20 v2, cdW g a 20 c2, evW g a 20 e2, hiO g a h, hrW g a t, stF g a vs, cdF g a cs, evF g a es, prO g b q, caW g b t2, cmF g b ws, sbO g y zz k, baW g zz n f, iaW g (d 2) 110 r2, iaW g (d 3) 110 r3, iaW g (d 5) 880 r5, iaW g (d 6) 200 r6, iaW g (d 7) 60 r7, iaW g (d 8) 124 r8, loW g w lo, doW g w2 dd]) (stk2 := [.int u2.1, .int u1.1]) rfl rfl ?_)
  refine x_icmp_eq (tgt := 2256) C dL_law_2207 (by decide) (fun h3 => ?_) (fun h3 => ?_)
  · have hf := x_t h3 hf
    refine x_perm (wss' := [ccO g a b y u1.2.1, stO g a 10 v, cdW g a 10 c, evW g a 10 e, stO g a 20 v2, cdW g a 20 c2, evW g a 20 e2, stO g a 30 u1.2.2.1, cdW g a 30 u1.2.2.2.1, evW g a 30 u1.2.2.2.2, hiO g a h, hrW g a t, stF g a vs, cdF g a cs, evF g a es, prO g b q, caW g b t2, cmF g b ws, sbO g y zz k, baW g zz n f, mdO g d u2.2.1, iaW g (d 1) 110 r1, iaW g (d 2) 110 r2, iaW g (d 3) 110 r3, iaW g (d 4) 110 u2.2.2, iaW g (d 5) 880 r5, iaW g (d 6) 200 r6, iaW g (d 7) 60 r7, iaW g (d 8) 124 r8, loW g w lo, doW g w2 dd]) (x_pick [3, 4, 5, 6, 10, 11, 12, 7, 8, 9, 13, 14, 15, 16, 17, 18, 19, 20, 21, 22, 0, 1, 23, 24, 2, 25, 26, 27, 28, 29, 30] 31 rfl rfl rfl) ?_
    refine x_locals (lv' := [(0, .ref sb), (1, .ref (a 0)), (2, .ref (d 0)), (3, .ref w), (4, .ref w2), (5, .int i)]) [0, 1, 2, 3, 4, 5] rfl ?_
    refine x_widen (k := cells + 292) (n := slots + 5516) (by omega) (by omega) ?_
    obtain rfl := Option.some.inj hf
    exact kk zz
  · have hf := x_f h3 hf
    cases hf
set_option maxHeartbeats 4000000 in
set_option maxRecDepth 100000 in
theorem c_law_2212 (a : Nat → Nat) (b : Nat → Nat) (y : Nat) (zz : Nat) (n : Nat) (d : Nat → Nat) (w : Nat) (w2 : Nat) (C : CX g RL cL_law 9 A pW sW mW argsW methW c9) (hl : l.stackTraces = false) (hX : va_X sb L xs sW sW.heap) (hbl : sb < sW.heap.size) (hbA : ¬ A sb) (hc : cells + 292 ≤ room_1.cells) (hs : slots + 5516 ≤ room_1.slots) (z : CcT) (v : StS) (c : CdT) (e : EvT) (v2 : StS) (c2 : CdT) (e2 : EvT) (v3 : StS) (c3 : CdT) (e3 : EvT) (h : HiT) (t : Unit) (vs : (Nat → StS)) (cs : (Nat → CdT)) (es : (Nat → EvT)) (q : PrT) (t2 : Unit) (ws : (Nat → CmT)) (k : SbT) (f : (Nat → Int32)) (m : MdT) (r1 : (Nat → Int32)) (r2 : (Nat → Int32)) (r3 : (Nat → Int32)) (r4 : (Nat → Int32)) (r5 : (Nat → Int32)) (r6 : (Nat → Int32)) (r7 : (Nat → Int32)) (r8 : (Nat → Int32)) (lo : (Nat → Int64)) (dd : (Nat → UInt64)) (i : Int32) {u : LwT} (hf : f_law_2212 n L xs z v c e v2 c2 e2 v3 c3 e3 h t vs cs es q t2 ws k f m r1 r2 r3 r4 r5 r6 r7 r8 lo dd i = some u)
    (kk : ∀ zz' : Nat, VW g A 9 pW l eW room_1 sW mW argsW belowW methW c9 (cells + 292) (slots + 5516) Q [ccO g a b y u.1, stO g a 10 u.2.1, cdW g a 10 u.2.2.1, evW g a 10 u.2.2.2.1, stO g a 20 u.2.2.2.2.1, cdW g a 20 u.2.2.2.2.2.1, evW g a 20 u.2.2.2.2.2.2.1, stO g a 30 u.2.2.2.2.2.2.2.1, cdW g a 30 u.2.2.2.2.2.2.2.2.1, evW g a 30 u.2.2.2.2.2.2.2.2.2.1, hiO g a u.2.2.2.2.2.2.2.2.2.2.1, hrW g a u.2.2.2.2.2.2.2.2.2.2.2.1, stF g a u.2.2.2.2.2.2.2.2.2.2.2.2.1, cdF g a u.2.2.2.2.2.2.2.2.2.2.2.2.2.1, evF g a u.2.2.2.2.2.2.2.2.2.2.2.2.2.2.1, prO g b u.2.2.2.2.2.2.2.2.2.2.2.2.2.2.2.1, caW g b u.2.2.2.2.2.2.2.2.2.2.2.2.2.2.2.2.1, cmF g b u.2.2.2.2.2.2.2.2.2.2.2.2.2.2.2.2.2.1, sbO g y zz' u.2.2.2.2.2.2.2.2.2.2.2.2.2.2.2.2.2.2.1, baW g zz' u.2.2.2.2.2.2.2.2.2.2.2.2.2.2.2.2.2.2.2.2.2.2.2.2.2.2.2.2.2.2.2 u.2.2.2.2.2.2.2.2.2.2.2.2.2.2.2.2.2.2.2.1, mdO g d u.2.2.2.2.2.2.2.2.2.2.2.2.2.2.2.2.2.2.2.2.1, iaW g (d 1) 110 u.2.2.2.2.2.2.2.2.2.2.2.2.2.2.2.2.2.2.2.2.2.1, iaW g (d 2) 110 u.2.2.2.2.2.2.2.2.2.2.2.2.2.2.2.2.2.2.2.2.2.2.1, iaW g (d 3) 110 u.2.2.2.2.2.2.2.2.2.2.2.2.2.2.2.2.2.2.2.2.2.2.2.1, iaW g (d 4) 110 u.2.2.2.2.2.2.2.2.2.2.2.2.2.2.2.2.2.2.2.2.2.2.2.2.1, iaW g (d 5) 880 u.2.2.2.2.2.2.2.2.2.2.2.2.2.2.2.2.2.2.2.2.2.2.2.2.2.1, iaW g (d 6) 200 u.2.2.2.2.2.2.2.2.2.2.2.2.2.2.2.2.2.2.2.2.2.2.2.2.2.2.1, iaW g (d 7) 60 u.2.2.2.2.2.2.2.2.2.2.2.2.2.2.2.2.2.2.2.2.2.2.2.2.2.2.2.1, iaW g (d 8) 124 u.2.2.2.2.2.2.2.2.2.2.2.2.2.2.2.2.2.2.2.2.2.2.2.2.2.2.2.2.1, loW g w u.2.2.2.2.2.2.2.2.2.2.2.2.2.2.2.2.2.2.2.2.2.2.2.2.2.2.2.2.2.1, doW g w2 u.2.2.2.2.2.2.2.2.2.2.2.2.2.2.2.2.2.2.2.2.2.2.2.2.2.2.2.2.2.2.1] [(0, .ref sb), (1, .ref (a 0)), (2, .ref (d 0)), (3, .ref w), (4, .ref w2), (5, .int i)] 2256 []) : VW g A 9 pW l eW room_1 sW mW argsW belowW methW c9 cells slots Q [ccO g a b y z, stO g a 10 v, cdW g a 10 c, evW g a 10 e, stO g a 20 v2, cdW g a 20 c2, evW g a 20 e2, stO g a 30 v3, cdW g a 30 c3, evW g a 30 e3, hiO g a h, hrW g a t, stF g a vs, cdF g a cs, evF g a es, prO g b q, caW g b t2, cmF g b ws, sbO g y zz k, baW g zz n f, mdO g d m, iaW g (d 1) 110 r1, iaW g (d 2) 110 r2, iaW g (d 3) 110 r3, iaW g (d 4) 110 r4, iaW g (d 5) 880 r5, iaW g (d 6) 200 r6, iaW g (d 7) 60 r7, iaW g (d 8) 124 r8, loW g w lo, doW g w2 dd] [(0, .ref sb), (1, .ref (a 0)), (2, .ref (d 0)), (3, .ref w), (4, .ref w2), (5, .int i)] 2212 [] := by
  unfold f_law_2212 at hf
  have C : CX g RL cL_law 9 A pW sW mW argsW methW c9 := C
  refine x_aload_n C dL_law_2212 rfl 1 rfl ?_
  refine x_aload_n C dL_law_2213 rfl 3 rfl ?_
  obtain ⟨u1, hu1, hf⟩ := x_b hf
  refine x_hcallS (n := 2) (As := [.ref (a 0), .ref w]) (rest := []) C (c_L_restore g l hl a b y w z v c e v3 c3 e3 h lo hu1) ⟨⟨wd_1476, wd_1474, wd_64⟩, ⟨by decide, by decide, by decide⟩, rfl, rfl, Nat.le_of_ble_eq_true rfl, Nat.le_of_ble_eq_true rfl⟩ wd_1475 [stO g a 20 v2, cdW g a 20 c2, evW g a 20 e2, hrW g a t, stF g a vs, cdF g a cs, evF g a es, prO g b q, caW g b t2, cmF g b ws, sbO g y zz k, baW g zz n f, mdO g d m, iaW g (d 1) 110 r1, iaW g (d 2) 110 r2, iaW g (d 3) 110 r3, iaW g (d 4) 110 r4, iaW g (d 5) 880 r5, iaW g (d 6) 200 r6, iaW g (d 7) 60 r7, iaW g (d 8) 124 r8, doW g w2 dd] (x_pickD [0, 1, 2, 3, 7, 8, 9, 10, 29, 4, 5, 6, 11, 12, 13, 14, 15, 16, 17, 18, 19, 20, 21, 22, 23, 24, 25, 26, 27, 28, 30] 31 rfl rfl rfl) rfl rfl (Nat.le_of_ble_eq_true rfl) ⟨by omega, by omega⟩ dL_law_2214 (fun v9 w9 hQ9 => ?_)
  obtain ⟨rfl, rfl⟩ := hQ9
  refine x_goW (wss2 := [ccO g a b y z, stO g a 10 u1.2.1, cdW g a 10 u1.2.2.1, evW g a 10 u1.2.2.2.1, stO g a 30 v3, cdW g a 30 c3, evW g a 30 e3, hiO g a u1.2.2.2.2.1, loW g w u1.2.2.2.2.2, stO g a 20 v2, cdW g a 20 c2, evW g a 20 e2, hrW g a t, stF g a vs, cdF g a cs, evF g a es, prO g b q, caW g b t2, cmF g b ws, sbO g y zz k, baW g zz n f, mdO g d m, iaW g (d 1) 110 r1, iaW g (d 2) 110 r2, iaW g (d 3) 110 r3, iaW g (d 4) 110 r4, iaW g (d 5) 880 r5, iaW g (d 6) 200 r6, iaW g (d 7) 60 r7, iaW g (d 8) 124 r8, doW g w2 dd]) (stk2 := [.int u1.1]) rfl rfl rfl ?_
  refine x_istore (lv' := [(6, .int u1.1), (0, .ref sb), (1, .ref (a 0)), (2, .ref (d 0)), (3, .ref w), (4, .ref w2), (5, .int i)]) C dL_law_2217 (by decide) rfl ?_
  refine x_aload_n C dL_law_2219 rfl 3 rfl ?_
  obtain ⟨u2, hu2, hf⟩ := x_b hf
  refine x_callV (n := 0) (As := []) (rest := []) C (c_X10_restore g l d m r1 r4 hu2) ⟨⟨wd_1923, wd_1920, wd_78⟩, ⟨by decide, by decide, by decide⟩, rfl, rfl, Nat.le_of_ble_eq_true rfl, Nat.le_of_ble_eq_true rfl⟩ wd_1921 wd_1922 ⟨0, 11, _, _, rfl, rfl, rfl⟩ [ccO g a b y z, stO g a 10 u1.2.1, cdW g a 10 u1.2.2.1, evW g a 10 u1.2.2.2.1, stO g a 30 v3, cdW g a 30 c3, evW g a 30 e3, hiO g a u1.2.2.2.2.1, loW g w u1.2.2.2.2.2, stO g a 20 v2, cdW g a 20 c2, evW g a 20 e2, hrW g a t, stF g a vs, cdF g a cs, evF g a es, prO g b q, caW g b t2, cmF g b ws, sbO g y zz k, baW g zz n f, iaW g (d 2) 110 r2, iaW g (d 3) 110 r3, iaW g (d 5) 880 r5, iaW g (d 6) 200 r6, iaW g (d 7) 60 r7, iaW g (d 8) 124 r8, doW g w2 dd] (x_pickD [21, 22, 25, 0, 1, 2, 3, 4, 5, 6, 7, 8, 9, 10, 11, 12, 13, 14, 15, 16, 17, 18, 19, 20, 23, 24, 26, 27, 28, 29, 30] 31 rfl rfl rfl) rfl rfl (Nat.le_of_ble_eq_true rfl) ⟨by omega, by omega⟩ dL_law_2220 (x_goD (wss2 := [mdO g d u2.2.1, iaW g (d 1) 110 u2.2.2, iaW g (d 4) 110 r4, ccO g a b y z, stO g a 10 u1.2.1, cdW g a 10 u1.2.2.1, evW g a 10 u1.2.2.2.1, stO g a 30 v3, cdW g a 30 c3, evW g a 30 e3, hiO g a u1.2.2.2.2.1, loW g w u1.2.2.2.2.2, stO g a 20 v2, cdW g a 20 c2, evW g a 20 e2, hrW g a t, stF g a vs, cdF g a cs, evF g a es, prO g b q, caW g b t2, cmF g b ws, sbO g y zz k, baW g zz n f, iaW g (d 2) 110 r2, iaW g (d 3) 110 r3, iaW g (d 5) 880 r5, iaW g (d 6) 200 r6, iaW g (d 7) 60 r7, iaW g (d 8) 124 r8, doW g w2 dd]) (stk2 := [.int u2.1]) rfl rfl ?_)
  refine x_istore (lv' := [(7, .int u2.1), (6, .int u1.1), (0, .ref sb), (1, .ref (a 0)), (2, .ref (d 0)), (3, .ref w), (4, .ref w2), (5, .int i)]) C dL_law_2223 (by decide) rfl ?_
  refine x_aload_n C dL_law_2225 rfl 4 rfl ?_
  obtain ⟨u3, hu3, hf⟩ := x_b hf
  refine x_callV (n := 0) (As := []) (rest := []) C (c_X10_thrown g l d u2.2.1 hu3) ⟨⟨wd_1550, wd_1547, wd_78⟩, ⟨by decide, by decide, by decide⟩, rfl, rfl, Nat.le_of_ble_eq_true rfl, Nat.le_of_ble_eq_true rfl⟩ wd_1548 wd_1549 ⟨0, 11, _, _, rfl, rfl, rfl⟩ [iaW g (d 1) 110 u2.2.2, iaW g (d 4) 110 r4, ccO g a b y z, stO g a 10 u1.2.1, cdW g a 10 u1.2.2.1, evW g a 10 u1.2.2.2.1, stO g a 30 v3, cdW g a 30 c3, evW g a 30 e3, hiO g a u1.2.2.2.2.1, loW g w u1.2.2.2.2.2, stO g a 20 v2, cdW g a 20 c2, evW g a 20 e2, hrW g a t, stF g a vs, cdF g a cs, evF g a es, prO g b q, caW g b t2, cmF g b ws, sbO g y zz k, baW g zz n f, iaW g (d 2) 110 r2, iaW g (d 3) 110 r3, iaW g (d 5) 880 r5, iaW g (d 6) 200 r6, iaW g (d 7) 60 r7, iaW g (d 8) 124 r8, doW g w2 dd] (x_pickD [0, 1, 2, 3, 4, 5, 6, 7, 8, 9, 10, 11, 12, 13, 14, 15, 16, 17, 18, 19, 20, 21, 22, 23, 24, 25, 26, 27, 28, 29, 30] 31 rfl rfl rfl) rfl rfl (Nat.le_of_ble_eq_true rfl) ⟨by omega, by omega⟩ dL_law_2226 (x_goD (wss2 := [mdO g d u2.2.1, iaW g (d 1) 110 u2.2.2, iaW g (d 4) 110 r4, ccO g a b y z, stO g a 10 u1.2.1, cdW g a 10 u1.2.2.1, evW g a 10 u1.2.2.2.1, stO g a 30 v3, cdW g a 30 c3, evW g a 30 e3, hiO g a u1.2.2.2.2.1, loW g w u1.2.2.2.2.2, stO g a 20 v2, cdW g a 20 c2, evW g a 20 e2, hrW g a t, stF g a vs, cdF g a cs, evF g a es, prO g b q, caW g b t2, cmF g b ws, sbO g y zz k, baW g zz n f, iaW g (d 2) 110 r2, iaW g (d 3) 110 r3, iaW g (d 5) 880 r5, iaW g (d 6) 200 r6, iaW g (d 7) 60 r7, iaW g (d 8) 124 r8, doW g w2 dd]) (stk2 := [.int u3]) rfl rfl ?_)
  refine x_iload C dL_law_2229 1 rfl ?_
  refine x_icmp_eq (tgt := 2236) C dL_law_2231 (by decide) (fun h4 => ?_) (fun h4 => ?_)
  · have hf := x_t h4 hf
    refine x_iload C dL_law_2236 1 rfl ?_
    refine x_if_ne (tgt := 2253) C dL_law_2238 (by decide) (fun h5 => ?_) (fun h5 => ?_)
    · have hf := x_f h5 hf
      refine x_goto (tgt := 2256) C dL_law_2253 (by decide) ?_
      refine x_perm (wss' := [ccO g a b y z, stO g a 10 u1.2.1, cdW g a 10 u1.2.2.1, evW g a 10 u1.2.2.2.1, stO g a 20 v2, cdW g a 20 c2, evW g a 20 e2, stO g a 30 v3, cdW g a 30 c3, evW g a 30 e3, hiO g a u1.2.2.2.2.1, hrW g a t, stF g a vs, cdF g a cs, evF g a es, prO g b q, caW g b t2, cmF g b ws, sbO g y zz k, baW g zz n f, mdO g d u2.2.1, iaW g (d 1) 110 u2.2.2, iaW g (d 2) 110 r2, iaW g (d 3) 110 r3, iaW g (d 4) 110 r4, iaW g (d 5) 880 r5, iaW g (d 6) 200 r6, iaW g (d 7) 60 r7, iaW g (d 8) 124 r8, loW g w u1.2.2.2.2.2, doW g w2 dd]) (x_pick [3, 4, 5, 6, 12, 13, 14, 7, 8, 9, 10, 15, 16, 17, 18, 19, 20, 21, 22, 23, 0, 1, 24, 25, 2, 26, 27, 28, 29, 11, 30] 31 rfl rfl rfl) ?_
      refine x_locals (lv' := [(0, .ref sb), (1, .ref (a 0)), (2, .ref (d 0)), (3, .ref w), (4, .ref w2), (5, .int i)]) [2, 3, 4, 5, 6, 7] rfl ?_
      refine x_widen (k := cells + 292) (n := slots + 5516) (by omega) (by omega) ?_
      obtain rfl := Option.some.inj hf
      exact kk zz
    · have hf := x_t h5 hf
      refine x_aload_n C dL_law_2241 rfl 5 rfl ?_
      refine x_iconst (v := 0) C dL_law_2242 (by decide) ?_
      obtain ⟨h6, hf⟩ := x_n hf
      refine x_lald (b := loW g w u1.2.2.2.2.2) C 11 rfl 0 (loW_at0 g w _) h6 dL_law_2243 ?_
      refine x_iload C dL_law_2244 0 rfl ?_
      refine x_i2l C dL_law_2246 rfl ?_
      refine x_lcmp C dL_law_2247 ?_
      refine x_if_eq (tgt := 2253) C dL_law_2248 (by decide) (fun h7 => ?_) (fun h7 => ?_)
      · have hf := x_t h7 hf
        refine x_goto (tgt := 2256) C dL_law_2253 (by decide) ?_
        refine x_perm (wss' := [ccO g a b y z, stO g a 10 u1.2.1, cdW g a 10 u1.2.2.1, evW g a 10 u1.2.2.2.1, stO g a 20 v2, cdW g a 20 c2, evW g a 20 e2, stO g a 30 v3, cdW g a 30 c3, evW g a 30 e3, hiO g a u1.2.2.2.2.1, hrW g a t, stF g a vs, cdF g a cs, evF g a es, prO g b q, caW g b t2, cmF g b ws, sbO g y zz k, baW g zz n f, mdO g d u2.2.1, iaW g (d 1) 110 u2.2.2, iaW g (d 2) 110 r2, iaW g (d 3) 110 r3, iaW g (d 4) 110 r4, iaW g (d 5) 880 r5, iaW g (d 6) 200 r6, iaW g (d 7) 60 r7, iaW g (d 8) 124 r8, loW g w u1.2.2.2.2.2, doW g w2 dd]) (x_pick [3, 4, 5, 6, 12, 13, 14, 7, 8, 9, 10, 15, 16, 17, 18, 19, 20, 21, 22, 23, 0, 1, 24, 25, 2, 26, 27, 28, 29, 11, 30] 31 rfl rfl rfl) ?_
        refine x_locals (lv' := [(0, .ref sb), (1, .ref (a 0)), (2, .ref (d 0)), (3, .ref w), (4, .ref w2), (5, .int i)]) [2, 3, 4, 5, 6, 7] rfl ?_
        refine x_widen (k := cells + 292) (n := slots + 5516) (by omega) (by omega) ?_
        obtain rfl := Option.some.inj hf
        exact kk zz
      · have hf := x_f h7 hf
        cases hf
  · have hf := x_f h4 hf
    cases hf
end XL
