/-! THE LAW: law (wip/p50/lawgen.py) -/
theorem wd_220 : Cond.methodLink RL 272 yX9_writeCandle ∈ xTB := xTB_in 220 (by decide +kernel) (by decide +kernel)
theorem wd_221 : Cond.instanceMethod yX9_writeCandle ∈ xTB := xTB_in 221 (by decide +kernel) (by decide +kernel)
theorem wd_222 : Cond.selects yX9_writeCandle.cls yX9_writeCandle yX9_writeCandle ∈ xTB := xTB_in 222 (by decide +kernel) (by decide +kernel)
theorem wd_223 : Cond.code yX9_writeCandle cX9_writeCandle 2 (some .int) ∈ xTB := xTB_in 223 (by decide +kernel) (by decide +kernel)
theorem wd_565 : Cond.methodLink RL 275 yX9_writeEvents ∈ xTB := xTB_in 565 (by decide +kernel) (by decide +kernel)
theorem wd_566 : Cond.instanceMethod yX9_writeEvents ∈ xTB := xTB_in 566 (by decide +kernel) (by decide +kernel)
theorem wd_567 : Cond.selects yX9_writeEvents.cls yX9_writeEvents yX9_writeEvents ∈ xTB := xTB_in 567 (by decide +kernel) (by decide +kernel)
theorem wd_568 : Cond.code yX9_writeEvents cX9_writeEvents 2 (some .int) ∈ xTB := xTB_in 568 (by decide +kernel) (by decide +kernel)
theorem wd_569 : Cond.methodLink RL 267 yX9_save ∈ xTB := xTB_in 569 (by decide +kernel) (by decide +kernel)
theorem wd_570 : Cond.instanceMethod yX9_save ∈ xTB := xTB_in 570 (by decide +kernel) (by decide +kernel)
theorem wd_571 : Cond.selects yX9_save.cls yX9_save yX9_save ∈ xTB := xTB_in 571 (by decide +kernel) (by decide +kernel)
theorem wd_572 : Cond.code yX9_save cX9_save 1 (some .int) ∈ xTB := xTB_in 572 (by decide +kernel) (by decide +kernel)
theorem wd_735 : Cond.methodLink RL 270 yL_candleByWax ∈ xTB := xTB_in 735 (by decide +kernel) (by decide +kernel)
theorem wd_736 : Cond.static yL_candleByWax ∈ xTB := xTB_in 736 (by decide +kernel) (by decide +kernel)
theorem wd_737 : Cond.codeWith yL_candleByWax cL_candleByWax 3 (some .int) [(0, 5, 6, 54)] ∈ xTB := xTB_in 737 (by decide +kernel) (by decide +kernel)
theorem wd_768 : Cond.methodLink RL 265 yL_undo ∈ xTB := xTB_in 768 (by decide +kernel) (by decide +kernel)
theorem wd_769 : Cond.static yL_undo ∈ xTB := xTB_in 769 (by decide +kernel) (by decide +kernel)
theorem wd_770 : Cond.codeWith yL_undo cL_undo 2 (some .int) [(0, 4, 5, 18)] ∈ xTB := xTB_in 770 (by decide +kernel) (by decide +kernel)
theorem wd_780 : Cond.methodLink RL 278 yL_restore ∈ xTB := xTB_in 780 (by decide +kernel) (by decide +kernel)
theorem wd_781 : Cond.static yL_restore ∈ xTB := xTB_in 781 (by decide +kernel) (by decide +kernel)
theorem wd_782 : Cond.codeWith yL_restore cL_restore 2 (some .int) [(0, 4, 5, 18)] ∈ xTB := xTB_in 782 (by decide +kernel) (by decide +kernel)
theorem wd_801 : Cond.methodLink RL 244 yL_begun ∈ xTB := xTB_in 801 (by decide +kernel) (by decide +kernel)
theorem wd_802 : Cond.static yL_begun ∈ xTB := xTB_in 802 (by decide +kernel) (by decide +kernel)
theorem wd_803 : Cond.code yL_begun cL_begun 5 (some (.object "CandleConcert")) ∈ xTB := xTB_in 803 (by decide +kernel) (by decide +kernel)
theorem wd_1069 : Cond.methodLink RL 256 yL_acts ∈ xTB := xTB_in 1069 (by decide +kernel) (by decide +kernel)
theorem wd_1070 : Cond.static yL_acts ∈ xTB := xTB_in 1070 (by decide +kernel) (by decide +kernel)
theorem wd_1071 : Cond.code yL_acts cL_acts 6 (some .int) ∈ xTB := xTB_in 1071 (by decide +kernel) (by decide +kernel)
theorem wd_1251 : Cond.methodLink RL 252 yL_seen ∈ xTB := xTB_in 1251 (by decide +kernel) (by decide +kernel)
theorem wd_1252 : Cond.static yL_seen ∈ xTB := xTB_in 1252 (by decide +kernel) (by decide +kernel)
theorem wd_1253 : Cond.code yL_seen cL_seen 3 (some (.array .int)) ∈ xTB := xTB_in 1253 (by decide +kernel) (by decide +kernel)
theorem wd_1314 : Cond.methodLink RL 261 yL_areAlike ∈ xTB := xTB_in 1314 (by decide +kernel) (by decide +kernel)
theorem wd_1315 : Cond.static yL_areAlike ∈ xTB := xTB_in 1315 (by decide +kernel) (by decide +kernel)
theorem wd_1316 : Cond.code yL_areAlike cL_areAlike 3 (some .boolean) ∈ xTB := xTB_in 1316 (by decide +kernel) (by decide +kernel)
theorem wd_1317 : Cond.methodLink RL 248 yL_isWell ∈ xTB := xTB_in 1317 (by decide +kernel) (by decide +kernel)
theorem wd_1318 : Cond.static yL_isWell ∈ xTB := xTB_in 1318 (by decide +kernel) (by decide +kernel)
theorem wd_1319 : Cond.code yL_isWell cL_isWell 7 (some .boolean) ∈ xTB := xTB_in 1319 (by decide +kernel) (by decide +kernel)
theorem wd_1383 : Cond.constant RL 260 (-900000) ∈ xTB := xTB_in 1383 (by decide +kernel) (by decide +kernel)
theorem dL_law_0 : decode cL_law 0 = .ok (.aload_n 0, 1) := by decide +kernel
theorem dL_law_1 : decode cL_law 1 = .ok (.invokestatic 244, 3) := by decide +kernel
theorem dL_law_4 : decode cL_law 4 = .ok (.astore_n 1, 1) := by decide +kernel
theorem dL_law_5 : decode cL_law 5 = .ok (.aload_n 1, 1) := by decide +kernel
theorem dL_law_6 : decode cL_law 6 = .ok (.ifnull 10, 3) := by decide +kernel
theorem dL_law_9 : decode cL_law 9 = .ok (.aload_n 1, 1) := by decide +kernel
theorem dL_law_10 : decode cL_law 10 = .ok (.invokestatic 248, 3) := by decide +kernel
theorem dL_law_13 : decode cL_law 13 = .ok (.ifCond .ne 5, 3) := by decide +kernel
theorem dL_law_16 : decode cL_law 16 = .ok (.iconst 0, 1) := by decide +kernel
theorem dL_law_17 : decode cL_law 17 = .ok (.ireturn, 1) := by decide +kernel
theorem dL_law_18 : decode cL_law 18 = .ok (.iconst 0, 1) := by decide +kernel
theorem dL_law_19 : decode cL_law 19 = .ok (.istore_n 2, 1) := by decide +kernel
theorem dL_law_20 : decode cL_law 20 = .ok (.iload_n 2, 1) := by decide +kernel
theorem dL_law_21 : decode cL_law 21 = .ok (.bipush 10, 2) := by decide +kernel
theorem dL_law_23 : decode cL_law 23 = .ok (.if_icmp .ge 102, 3) := by decide +kernel
theorem dL_law_26 : decode cL_law 26 = .ok (.aload_n 1, 1) := by decide +kernel
theorem dL_law_27 : decode cL_law 27 = .ok (.invokestatic 252, 3) := by decide +kernel
theorem dL_law_30 : decode cL_law 30 = .ok (.astore_n 3, 1) := by decide +kernel
theorem dL_law_31 : decode cL_law 31 = .ok (.aload_n 1, 1) := by decide +kernel
theorem dL_law_32 : decode cL_law 32 = .ok (.aload_n 0, 1) := by decide +kernel
theorem dL_law_33 : decode cL_law 33 = .ok (.bipush 61, 2) := by decide +kernel
theorem dL_law_35 : decode cL_law 35 = .ok (.iconst 4, 1) := by decide +kernel
theorem dL_law_36 : decode cL_law 36 = .ok (.iload_n 2, 1) := by decide +kernel
theorem dL_law_37 : decode cL_law 37 = .ok (.imul, 1) := by decide +kernel
theorem dL_law_38 : decode cL_law 38 = .ok (.iadd, 1) := by decide +kernel
theorem dL_law_39 : decode cL_law 39 = .ok (.invokestatic 256, 3) := by decide +kernel
theorem dL_law_42 : decode cL_law 42 = .ok (.istore 4, 2) := by decide +kernel
theorem dL_law_44 : decode cL_law 44 = .ok (.aload_n 1, 1) := by decide +kernel
theorem dL_law_45 : decode cL_law 45 = .ok (.invokestatic 248, 3) := by decide +kernel
theorem dL_law_48 : decode cL_law 48 = .ok (.ifCond .eq 29, 3) := by decide +kernel
theorem dL_law_51 : decode cL_law 51 = .ok (.iload 4, 2) := by decide +kernel
theorem dL_law_53 : decode cL_law 53 = .ok (.ldc 89, 2) := by decide +kernel
theorem dL_law_55 : decode cL_law 55 = .ok (.if_icmp .eq 22, 3) := by decide +kernel
theorem dL_law_58 : decode cL_law 58 = .ok (.iload 4, 2) := by decide +kernel
theorem dL_law_60 : decode cL_law 60 = .ok (.ldc_w 260, 3) := by decide +kernel
theorem dL_law_63 : decode cL_law 63 = .ok (.if_icmp .gt 16, 3) := by decide +kernel
theorem dL_law_66 : decode cL_law 66 = .ok (.aload_n 3, 1) := by decide +kernel
theorem dL_law_67 : decode cL_law 67 = .ok (.aload_n 1, 1) := by decide +kernel
theorem dL_law_68 : decode cL_law 68 = .ok (.invokestatic 252, 3) := by decide +kernel
theorem dL_law_71 : decode cL_law 71 = .ok (.invokestatic 261, 3) := by decide +kernel
theorem dL_law_74 : decode cL_law 74 = .ok (.ifCond .ne 5, 3) := by decide +kernel
theorem dL_law_77 : decode cL_law 77 = .ok (.iconst 0, 1) := by decide +kernel
theorem dL_law_78 : decode cL_law 78 = .ok (.ireturn, 1) := by decide +kernel
theorem dL_law_79 : decode cL_law 79 = .ok (.iload 4, 2) := by decide +kernel
theorem dL_law_81 : decode cL_law 81 = .ok (.ldc_w 260, 3) := by decide +kernel
theorem dL_law_84 : decode cL_law 84 = .ok (.if_icmp .le 35, 3) := by decide +kernel
theorem dL_law_87 : decode cL_law 87 = .ok (.aload_n 0, 1) := by decide +kernel
theorem dL_law_88 : decode cL_law 88 = .ok (.bipush 102, 2) := by decide +kernel
theorem dL_law_90 : decode cL_law 90 = .ok (.iload_n 2, 1) := by decide +kernel
theorem dL_law_91 : decode cL_law 91 = .ok (.iadd, 1) := by decide +kernel
theorem dL_law_92 : decode cL_law 92 = .ok (.iconst 5, 1) := by decide +kernel
theorem dL_law_93 : decode cL_law 93 = .ok (.invokestatic 94, 3) := by decide +kernel
theorem dL_law_96 : decode cL_law 96 = .ok (.ifCond .ne 23, 3) := by decide +kernel
theorem dL_law_99 : decode cL_law 99 = .ok (.aload_n 1, 1) := by decide +kernel
theorem dL_law_100 : decode cL_law 100 = .ok (.invokestatic 265, 3) := by decide +kernel
theorem dL_law_103 : decode cL_law 103 = .ok (.ifCond .lt 14, 3) := by decide +kernel
theorem dL_law_106 : decode cL_law 106 = .ok (.aload_n 3, 1) := by decide +kernel
theorem dL_law_107 : decode cL_law 107 = .ok (.aload_n 1, 1) := by decide +kernel
theorem dL_law_108 : decode cL_law 108 = .ok (.invokestatic 252, 3) := by decide +kernel
theorem dL_law_111 : decode cL_law 111 = .ok (.invokestatic 261, 3) := by decide +kernel
theorem dL_law_114 : decode cL_law 114 = .ok (.ifCond .ne 5, 3) := by decide +kernel
theorem dL_law_117 : decode cL_law 117 = .ok (.iconst 0, 1) := by decide +kernel
theorem dL_law_118 : decode cL_law 118 = .ok (.ireturn, 1) := by decide +kernel
theorem dL_law_119 : decode cL_law 119 = .ok (.iinc 2 1, 3) := by decide +kernel
theorem dL_law_122 : decode cL_law 122 = .ok (.goto (-102), 3) := by decide +kernel
theorem dL_law_125 : decode cL_law 125 = .ok (.aload_n 1, 1) := by decide +kernel
theorem dL_law_126 : decode cL_law 126 = .ok (.invokestatic 252, 3) := by decide +kernel
theorem dL_law_129 : decode cL_law 129 = .ok (.astore_n 2, 1) := by decide +kernel
theorem dL_law_130 : decode cL_law 130 = .ok (.aload_n 1, 1) := by decide +kernel
theorem dL_law_131 : decode cL_law 131 = .ok (.invokevirtual 267, 3) := by decide +kernel
theorem dL_law_134 : decode cL_law 134 = .ok (.istore_n 3, 1) := by decide +kernel
theorem dL_law_135 : decode cL_law 135 = .ok (.aload_n 1, 1) := by decide +kernel
theorem dL_law_136 : decode cL_law 136 = .ok (.invokevirtual 224, 3) := by decide +kernel
theorem dL_law_139 : decode cL_law 139 = .ok (.aload_n 1, 1) := by decide +kernel
theorem dL_law_140 : decode cL_law 140 = .ok (.iconst 0, 1) := by decide +kernel
theorem dL_law_141 : decode cL_law 141 = .ok (.invokestatic 270, 3) := by decide +kernel
theorem dL_law_144 : decode cL_law 144 = .ok (.iadd, 1) := by decide +kernel
theorem dL_law_145 : decode cL_law 145 = .ok (.aload_n 1, 1) := by decide +kernel
theorem dL_law_146 : decode cL_law 146 = .ok (.iconst 0, 1) := by decide +kernel
theorem dL_law_147 : decode cL_law 147 = .ok (.invokevirtual 272, 3) := by decide +kernel
theorem dL_law_150 : decode cL_law 150 = .ok (.iadd, 1) := by decide +kernel
theorem dL_law_151 : decode cL_law 151 = .ok (.aload_n 1, 1) := by decide +kernel
theorem dL_law_152 : decode cL_law 152 = .ok (.invokevirtual 275, 3) := by decide +kernel
theorem dL_law_155 : decode cL_law 155 = .ok (.iadd, 1) := by decide +kernel
theorem dL_law_156 : decode cL_law 156 = .ok (.aload_n 1, 1) := by decide +kernel
theorem dL_law_157 : decode cL_law 157 = .ok (.iconst 0, 1) := by decide +kernel
theorem dL_law_158 : decode cL_law 158 = .ok (.invokevirtual 215, 3) := by decide +kernel
theorem dL_law_161 : decode cL_law 161 = .ok (.iadd, 1) := by decide +kernel
theorem dL_law_162 : decode cL_law 162 = .ok (.istore 4, 2) := by decide +kernel
theorem dL_law_164 : decode cL_law 164 = .ok (.aload_n 2, 1) := by decide +kernel
theorem dL_law_165 : decode cL_law 165 = .ok (.aload_n 1, 1) := by decide +kernel
theorem dL_law_166 : decode cL_law 166 = .ok (.invokestatic 252, 3) := by decide +kernel
theorem dL_law_169 : decode cL_law 169 = .ok (.invokestatic 261, 3) := by decide +kernel
theorem dL_law_172 : decode cL_law 172 = .ok (.ifCond .ne 5, 3) := by decide +kernel
theorem dL_law_175 : decode cL_law 175 = .ok (.iconst 0, 1) := by decide +kernel
theorem dL_law_176 : decode cL_law 176 = .ok (.ireturn, 1) := by decide +kernel
theorem dL_law_177 : decode cL_law 177 = .ok (.iload 4, 2) := by decide +kernel
theorem dL_law_179 : decode cL_law 179 = .ok (.aload_n 1, 1) := by decide +kernel
theorem dL_law_180 : decode cL_law 180 = .ok (.bipush 12, 2) := by decide +kernel
theorem dL_law_182 : decode cL_law 182 = .ok (.invokestatic 111, 3) := by decide +kernel
theorem dL_law_185 : decode cL_law 185 = .ok (.aload_n 1, 1) := by decide +kernel
theorem dL_law_186 : decode cL_law 186 = .ok (.iconst 0, 1) := by decide +kernel
theorem dL_law_187 : decode cL_law 187 = .ok (.invokestatic 103, 3) := by decide +kernel
theorem dL_law_190 : decode cL_law 190 = .ok (.iadd, 1) := by decide +kernel
theorem dL_law_191 : decode cL_law 191 = .ok (.aload_n 1, 1) := by decide +kernel
theorem dL_law_192 : decode cL_law 192 = .ok (.iconst 2, 1) := by decide +kernel
theorem dL_law_193 : decode cL_law 193 = .ok (.invokestatic 106, 3) := by decide +kernel
theorem dL_law_196 : decode cL_law 196 = .ok (.iadd, 1) := by decide +kernel
theorem dL_law_197 : decode cL_law 197 = .ok (.aload_n 1, 1) := by decide +kernel
theorem dL_law_198 : decode cL_law 198 = .ok (.aload_n 1, 1) := by decide +kernel
theorem dL_law_199 : decode cL_law 199 = .ok (.invokevirtual 129, 3) := by decide +kernel
theorem dL_law_202 : decode cL_law 202 = .ok (.iconst 5, 1) := by decide +kernel
theorem dL_law_203 : decode cL_law 203 = .ok (.iadd, 1) := by decide +kernel
theorem dL_law_204 : decode cL_law 204 = .ok (.iconst 1, 1) := by decide +kernel
theorem dL_law_205 : decode cL_law 205 = .ok (.iconst 1, 1) := by decide +kernel
theorem dL_law_206 : decode cL_law 206 = .ok (.invokestatic 108, 3) := by decide +kernel
theorem dL_law_209 : decode cL_law 209 = .ok (.iadd, 1) := by decide +kernel
theorem dL_law_210 : decode cL_law 210 = .ok (.aload_n 1, 1) := by decide +kernel
theorem dL_law_211 : decode cL_law 211 = .ok (.iconst 0, 1) := by decide +kernel
theorem dL_law_212 : decode cL_law 212 = .ok (.invokestatic 116, 3) := by decide +kernel
theorem dL_law_215 : decode cL_law 215 = .ok (.iadd, 1) := by decide +kernel
theorem dL_law_216 : decode cL_law 216 = .ok (.iadd, 1) := by decide +kernel
theorem dL_law_217 : decode cL_law 217 = .ok (.istore 4, 2) := by decide +kernel
theorem dL_law_219 : decode cL_law 219 = .ok (.iload 4, 2) := by decide +kernel
theorem dL_law_221 : decode cL_law 221 = .ok (.ldc 113, 2) := by decide +kernel
theorem dL_law_223 : decode cL_law 223 = .ok (.if_icmp .le 35, 3) := by decide +kernel
theorem dL_law_226 : decode cL_law 226 = .ok (.aload_n 1, 1) := by decide +kernel
theorem dL_law_227 : decode cL_law 227 = .ok (.invokestatic 278, 3) := by decide +kernel
theorem dL_law_230 : decode cL_law 230 = .ok (.iload_n 3, 1) := by decide +kernel
theorem dL_law_231 : decode cL_law 231 = .ok (.if_icmp .ne 27, 3) := by decide +kernel
theorem dL_law_234 : decode cL_law 234 = .ok (.aload_n 2, 1) := by decide +kernel
theorem dL_law_235 : decode cL_law 235 = .ok (.aload_n 1, 1) := by decide +kernel
theorem dL_law_236 : decode cL_law 236 = .ok (.invokestatic 252, 3) := by decide +kernel
theorem dL_law_239 : decode cL_law 239 = .ok (.invokestatic 261, 3) := by decide +kernel
theorem dL_law_242 : decode cL_law 242 = .ok (.ifCond .eq 16, 3) := by decide +kernel
theorem dL_law_245 : decode cL_law 245 = .ok (.aload_n 1, 1) := by decide +kernel
theorem dL_law_246 : decode cL_law 246 = .ok (.invokestatic 265, 3) := by decide +kernel
theorem dL_law_249 : decode cL_law 249 = .ok (.ldc 17, 2) := by decide +kernel
theorem dL_law_251 : decode cL_law 251 = .ok (.if_icmp .ne 7, 3) := by decide +kernel
theorem dL_law_254 : decode cL_law 254 = .ok (.iconst 1, 1) := by decide +kernel
theorem dL_law_255 : decode cL_law 255 = .ok (.goto 4, 3) := by decide +kernel
theorem dL_law_258 : decode cL_law 258 = .ok (.iconst 0, 1) := by decide +kernel
theorem dL_law_259 : decode cL_law 259 = .ok (.ireturn, 1) := by decide +kernel
set_option maxHeartbeats 4000000 in
set_option maxRecDepth 100000 in
theorem c_Q_law {pW : Program} {l : Launch} {eW : Env} {sW : State} {mW : MethodId} {argsW : Array Value} {belowW : List Frame} {methW : Method} {c9 : Code} {Q : State → Prop} {g : xG} {A : Nat → Prop} {L : Nat} {xs : Nat → Int32} (C : CX g RL cL_law 5 A pW sW mW argsW methW c9) (hl : l.stackTraces = false) (hLg : L = g.2.2 7) (hxg : xs = xsG g)
    (kend : ∀ (cells slots : Nat) (wss : List va_W) (lv : List (Nat × Value)), cells ≤ room_1.cells → slots ≤ room_1.slots → VW g A 5 pW l eW room_1 sW mW argsW belowW methW c9 cells slots Q wss lv 259 [.int 1]) {u : Unit} (hf : f_Q_law L xs = some u) : VW g A 5 pW l eW room_1 sW mW argsW belowW methW c9 0 0 Q [] [(0, .ref (g.2.2 6))] 0 [] := by
  unfold f_Q_law at hf
  refine x_aload_n C dL_law_0 rfl 0 rfl ?_
  obtain ⟨u1, hu1, hf⟩ := x_b hf
  refine x_callS (n := 1) (As := [.ref (g.2.2 6)]) (rest := []) C (c_Q_begun g l hl L xs hLg hxg hu1) ⟨⟨wd_803, wd_801, wd_24⟩, ⟨by decide, by decide, by decide⟩, rfl, rfl, Nat.le_of_ble_eq_true rfl, Nat.le_of_ble_eq_true rfl⟩ wd_802 [] (x_pickD [] 0 rfl rfl rfl) rfl rfl (Nat.le_of_ble_eq_true rfl) ⟨by show _ ≤ 600390; omega, by show _ ≤ 7289640; omega⟩ dL_law_1 (fun v9 w9 hQ9 => ?_)
  obtain ⟨n2, n3, n4, n5, rfl, rfl⟩ := hQ9
  refine x_goW (wss2 := [ccO g n2 n3 n4 u1.1, stO g n2 10 u1.2.1, cdW g n2 10 u1.2.2.1, evW g n2 10 u1.2.2.2.1, stO g n2 20 u1.2.2.2.2.1, cdW g n2 20 u1.2.2.2.2.2.1, evW g n2 20 u1.2.2.2.2.2.2.1, stO g n2 30 u1.2.2.2.2.2.2.2.1, cdW g n2 30 u1.2.2.2.2.2.2.2.2.1, evW g n2 30 u1.2.2.2.2.2.2.2.2.2.1, hiO g n2 u1.2.2.2.2.2.2.2.2.2.2.1, hrW g n2 u1.2.2.2.2.2.2.2.2.2.2.2.1, stF g n2 u1.2.2.2.2.2.2.2.2.2.2.2.2.1, cdF g n2 u1.2.2.2.2.2.2.2.2.2.2.2.2.2.1, evF g n2 u1.2.2.2.2.2.2.2.2.2.2.2.2.2.2.1, prO g n3 u1.2.2.2.2.2.2.2.2.2.2.2.2.2.2.2.1, caW g n3 u1.2.2.2.2.2.2.2.2.2.2.2.2.2.2.2.2.1, cmF g n3 u1.2.2.2.2.2.2.2.2.2.2.2.2.2.2.2.2.2.1, sbO g n4 n5 u1.2.2.2.2.2.2.2.2.2.2.2.2.2.2.2.2.2.2.1, baW g n5 16 u1.2.2.2.2.2.2.2.2.2.2.2.2.2.2.2.2.2.2.2]) (stk2 := [.ref (n2 0)]) rfl rfl rfl ?_
  refine x_astore_n (lv' := [(1, .ref (n2 0)), (0, .ref (g.2.2 6))]) C dL_law_4 rfl (by decide) rfl ?_
  refine x_aload_n C dL_law_5 rfl 0 rfl ?_
  refine x_ifnull C dL_law_6 ?_
  refine x_aload_n C dL_law_9 rfl 0 rfl ?_
  obtain ⟨u6, hu6, hf⟩ := x_b hf
  refine x_callS (n := 1) (As := [.ref (n2 0)]) (rest := []) C (c_Q_isWell g l hl n2 n3 n4 u1.1 u1.2.1 u1.2.2.1 u1.2.2.2.1 u1.2.2.2.2.1 u1.2.2.2.2.2.1 u1.2.2.2.2.2.2.1 hu6) ⟨⟨wd_1319, wd_1317, wd_24⟩, ⟨by decide, by decide, by decide⟩, rfl, rfl, Nat.le_of_ble_eq_true rfl, Nat.le_of_ble_eq_true rfl⟩ wd_1318 [stO g n2 30 u1.2.2.2.2.2.2.2.1, cdW g n2 30 u1.2.2.2.2.2.2.2.2.1, evW g n2 30 u1.2.2.2.2.2.2.2.2.2.1, hiO g n2 u1.2.2.2.2.2.2.2.2.2.2.1, hrW g n2 u1.2.2.2.2.2.2.2.2.2.2.2.1, stF g n2 u1.2.2.2.2.2.2.2.2.2.2.2.2.1, cdF g n2 u1.2.2.2.2.2.2.2.2.2.2.2.2.2.1, evF g n2 u1.2.2.2.2.2.2.2.2.2.2.2.2.2.2.1, prO g n3 u1.2.2.2.2.2.2.2.2.2.2.2.2.2.2.2.1, caW g n3 u1.2.2.2.2.2.2.2.2.2.2.2.2.2.2.2.2.1, cmF g n3 u1.2.2.2.2.2.2.2.2.2.2.2.2.2.2.2.2.2.1, sbO g n4 n5 u1.2.2.2.2.2.2.2.2.2.2.2.2.2.2.2.2.2.2.1, baW g n5 16 u1.2.2.2.2.2.2.2.2.2.2.2.2.2.2.2.2.2.2.2] (x_pickD [0, 1, 2, 3, 4, 5, 6, 7, 8, 9, 10, 11, 12, 13, 14, 15, 16, 17, 18, 19] 20 rfl rfl rfl) rfl rfl (Nat.le_of_ble_eq_true rfl) ⟨by show _ ≤ 600390; omega, by show _ ≤ 7289640; omega⟩ dL_law_10 (x_goD (wss2 := [ccO g n2 n3 n4 u1.1, stO g n2 10 u1.2.1, cdW g n2 10 u1.2.2.1, evW g n2 10 u1.2.2.2.1, stO g n2 20 u6.2.1, cdW g n2 20 u6.2.2.1, evW g n2 20 u6.2.2.2, stO g n2 30 u1.2.2.2.2.2.2.2.1, cdW g n2 30 u1.2.2.2.2.2.2.2.2.1, evW g n2 30 u1.2.2.2.2.2.2.2.2.2.1, hiO g n2 u1.2.2.2.2.2.2.2.2.2.2.1, hrW g n2 u1.2.2.2.2.2.2.2.2.2.2.2.1, stF g n2 u1.2.2.2.2.2.2.2.2.2.2.2.2.1, cdF g n2 u1.2.2.2.2.2.2.2.2.2.2.2.2.2.1, evF g n2 u1.2.2.2.2.2.2.2.2.2.2.2.2.2.2.1, prO g n3 u1.2.2.2.2.2.2.2.2.2.2.2.2.2.2.2.1, caW g n3 u1.2.2.2.2.2.2.2.2.2.2.2.2.2.2.2.2.1, cmF g n3 u1.2.2.2.2.2.2.2.2.2.2.2.2.2.2.2.2.2.1, sbO g n4 n5 u1.2.2.2.2.2.2.2.2.2.2.2.2.2.2.2.2.2.2.1, baW g n5 16 u1.2.2.2.2.2.2.2.2.2.2.2.2.2.2.2.2.2.2.2]) (stk2 := [.int u6.1]) rfl rfl ?_)
  refine x_if_ne (tgt := 18) C dL_law_13 (by decide) (fun h7 => ?_) (fun h7 => ?_)
  · have hf := x_f h7 hf
    refine x_iconst (v := 0) C dL_law_18 (by decide) ?_
    refine x_istore_n (lv' := [(2, .int (0 : Int32)), (1, .ref (n2 0)), (0, .ref (g.2.2 6))]) C dL_law_19 rfl (by decide) rfl ?_
    refine x_locals (lv' := [(0, .ref (g.2.2 6)), (1, .ref (n2 0)), (2, .int (0 : Int32))]) [2, 1, 0] rfl ?_
    refine x_widen (k := 777) (n := 5381) (by omega) (by omega) ?_
    have hL20 : ∀ (nW kW tW : Nat) (zL : CcT) (vL : StS) (cL : CdT) (eL : EvT) (v2L : StS) (c2L : CdT) (e2L : EvT) (v3L : StS) (c3L : CdT) (e3L : EvT) (hL : HiT) (tL : Unit) (vsL : (Nat → StS)) (csL : (Nat → CdT)) (esL : (Nat → EvT)) (qL : PrT) (t2L : Unit) (wsL : (Nat → CmT)) (kL : SbT) (fL : (Nat → Int32)) (x2 : Int32), kW + 1309 * nW + 1270 ≤ 600390 → tW + 11362 * nW + 15520 ≤ 7289640 → f_Q_law_20 L xs nW zL vL cL eL v2L c2L e2L v3L c3L e3L hL tL vsL csL esL qL t2L wsL kL fL x2 = some u → VW g A 5 pW l eW room_1 sW mW argsW belowW methW c9 kW tW Q [ccO g n2 n3 n4 zL, stO g n2 10 vL, cdW g n2 10 cL, evW g n2 10 eL, stO g n2 20 v2L, cdW g n2 20 c2L, evW g n2 20 e2L, stO g n2 30 v3L, cdW g n2 30 c3L, evW g n2 30 e3L, hiO g n2 hL, hrW g n2 tL, stF g n2 vsL, cdF g n2 csL, evF g n2 esL, prO g n3 qL, caW g n3 t2L, cmF g n3 wsL, sbO g n4 n5 kL, baW g n5 16 fL] [(0, .ref (g.2.2 6)), (1, .ref (n2 0)), (2, .int x2)] 20 [] := by
      intro nW
      induction nW with
      | zero => intro kW tW zL vL cL eL v2L c2L e2L v3L c3L e3L hL tL vsL csL esL qL t2L wsL kL fL x2 hkW htW hf; rw [f_Q_law_20] at hf; cases hf
      | succ nW ih =>
        intro kW tW zL vL cL eL v2L c2L e2L v3L c3L e3L hL tL vsL csL esL qL t2L wsL kL fL x2 hkW htW hf
        rw [f_Q_law_20] at hf
        refine x_iload_n C dL_law_20 rfl 2 rfl ?_
        refine x_bipush (v := 10) C dL_law_21 (by decide) ?_
        refine x_icmp_ge (tgt := 125) C dL_law_23 (by decide) (fun h1001 => ?_) (fun h1001 => ?_)
        · have hf := x_t h1001 hf
          refine x_aload_n C dL_law_125 rfl 1 rfl ?_
          obtain ⟨u1002, hu1002, hf⟩ := x_b hf
          refine x_callS (n := 1) (As := [.ref (n2 0)]) (rest := []) C (c_Q_seen g l hl n2 n3 n4 zL vL cL eL hu1002) ⟨⟨wd_1253, wd_1251, wd_24⟩, ⟨by decide, by decide, by decide⟩, rfl, rfl, Nat.le_of_ble_eq_true rfl, Nat.le_of_ble_eq_true rfl⟩ wd_1252 [stO g n2 20 v2L, cdW g n2 20 c2L, evW g n2 20 e2L, stO g n2 30 v3L, cdW g n2 30 c3L, evW g n2 30 e3L, hiO g n2 hL, hrW g n2 tL, stF g n2 vsL, cdF g n2 csL, evF g n2 esL, prO g n3 qL, caW g n3 t2L, cmF g n3 wsL, sbO g n4 n5 kL, baW g n5 16 fL] (x_pickD [0, 1, 2, 3, 4, 5, 6, 7, 8, 9, 10, 11, 12, 13, 14, 15, 16, 17, 18, 19] 20 rfl rfl rfl) rfl rfl (Nat.le_of_ble_eq_true rfl) ⟨by show _ ≤ 600390; omega, by show _ ≤ 7289640; omega⟩ dL_law_126 (fun v9 w9 hQ9 => ?_)
          obtain ⟨n1003, rfl, rfl⟩ := hQ9
          refine x_goW (wss2 := [ccO g n2 n3 n4 zL, stO g n2 10 vL, cdW g n2 10 cL, evW g n2 10 eL, iaW g n1003 130 u1002, stO g n2 20 v2L, cdW g n2 20 c2L, evW g n2 20 e2L, stO g n2 30 v3L, cdW g n2 30 c3L, evW g n2 30 e3L, hiO g n2 hL, hrW g n2 tL, stF g n2 vsL, cdF g n2 csL, evF g n2 esL, prO g n3 qL, caW g n3 t2L, cmF g n3 wsL, sbO g n4 n5 kL, baW g n5 16 fL]) (stk2 := [.ref n1003]) rfl rfl rfl ?_
          refine x_astore_n (lv' := [(2, .ref n1003), (0, .ref (g.2.2 6)), (1, .ref (n2 0))]) C dL_law_129 rfl (by decide) rfl ?_
          refine x_aload_n C dL_law_130 rfl 2 rfl ?_
          obtain ⟨u1004, hu1004, hf⟩ := x_b hf
          refine x_callV (n := 0) (As := []) (rest := []) C (c_X9_save g l n2 n3 n4 zL vL cL eL v3L c3L e3L hu1004) ⟨⟨wd_572, wd_569, wd_25⟩, ⟨by decide, by decide, by decide⟩, rfl, rfl, Nat.le_of_ble_eq_true rfl, Nat.le_of_ble_eq_true rfl⟩ wd_570 wd_571 ⟨0, 10, _, _, rfl, rfl, rfl⟩ [iaW g n1003 130 u1002, stO g n2 20 v2L, cdW g n2 20 c2L, evW g n2 20 e2L, hiO g n2 hL, hrW g n2 tL, stF g n2 vsL, cdF g n2 csL, evF g n2 esL, prO g n3 qL, caW g n3 t2L, cmF g n3 wsL, sbO g n4 n5 kL, baW g n5 16 fL] (x_pickD [0, 1, 2, 3, 8, 9, 10, 4, 5, 6, 7, 11, 12, 13, 14, 15, 16, 17, 18, 19, 20] 21 rfl rfl rfl) rfl rfl (Nat.le_of_ble_eq_true rfl) ⟨by show _ ≤ 600390; omega, by show _ ≤ 7289640; omega⟩ dL_law_131 (x_goD (wss2 := [ccO g n2 n3 n4 u1004.2.1, stO g n2 10 vL, cdW g n2 10 cL, evW g n2 10 eL, stO g n2 30 u1004.2.2.1, cdW g n2 30 u1004.2.2.2.1, evW g n2 30 u1004.2.2.2.2, iaW g n1003 130 u1002, stO g n2 20 v2L, cdW g n2 20 c2L, evW g n2 20 e2L, hiO g n2 hL, hrW g n2 tL, stF g n2 vsL, cdF g n2 csL, evF g n2 esL, prO g n3 qL, caW g n3 t2L, cmF g n3 wsL, sbO g n4 n5 kL, baW g n5 16 fL]) (stk2 := [.int u1004.1]) rfl rfl ?_)
          refine x_istore_n (lv' := [(3, .int u1004.1), (2, .ref n1003), (0, .ref (g.2.2 6)), (1, .ref (n2 0))]) C dL_law_134 rfl (by decide) rfl ?_
          refine x_aload_n C dL_law_135 rfl 3 rfl ?_
          obtain ⟨u1005, hu1005, hf⟩ := x_b hf
          refine x_callV (n := 0) (As := []) (rest := []) C (c_X9_minutesUntilDark g l n2 n3 n4 u1004.2.1 vL cL eL v2L c2L e2L hu1005) ⟨⟨wd_160, wd_157, wd_25⟩, ⟨by decide, by decide, by decide⟩, rfl, rfl, Nat.le_of_ble_eq_true rfl, Nat.le_of_ble_eq_true rfl⟩ wd_158 wd_159 ⟨0, 10, _, _, rfl, rfl, rfl⟩ [stO g n2 30 u1004.2.2.1, cdW g n2 30 u1004.2.2.2.1, evW g n2 30 u1004.2.2.2.2, iaW g n1003 130 u1002, hiO g n2 hL, hrW g n2 tL, stF g n2 vsL, cdF g n2 csL, evF g n2 esL, prO g n3 qL, caW g n3 t2L, cmF g n3 wsL, sbO g n4 n5 kL, baW g n5 16 fL] (x_pickD [0, 1, 2, 3, 8, 9, 10, 4, 5, 6, 7, 11, 12, 13, 14, 15, 16, 17, 18, 19, 20] 21 rfl rfl rfl) rfl rfl (Nat.le_of_ble_eq_true rfl) ⟨by show _ ≤ 600390; omega, by show _ ≤ 7289640; omega⟩ dL_law_136 (x_goD (wss2 := [ccO g n2 n3 n4 u1004.2.1, stO g n2 10 vL, cdW g n2 10 cL, evW g n2 10 eL, stO g n2 20 u1005.2.1, cdW g n2 20 u1005.2.2.1, evW g n2 20 u1005.2.2.2, stO g n2 30 u1004.2.2.1, cdW g n2 30 u1004.2.2.2.1, evW g n2 30 u1004.2.2.2.2, iaW g n1003 130 u1002, hiO g n2 hL, hrW g n2 tL, stF g n2 vsL, cdF g n2 csL, evF g n2 esL, prO g n3 qL, caW g n3 t2L, cmF g n3 wsL, sbO g n4 n5 kL, baW g n5 16 fL]) (stk2 := [.int u1005.1]) rfl rfl ?_)
          refine x_aload_n C dL_law_139 rfl 3 rfl ?_
          refine x_iconst (v := 0) C dL_law_140 (by decide) ?_
          obtain ⟨u1006, hu1006, hf⟩ := x_b hf
          refine x_hcallS (n := 2) (As := [.ref (n2 0), .int (0 : Int32)]) (rest := [.int u1005.1]) C (c_Q_candleByWax g l hl n2 n3 n4 u1004.2.1 vL cL (0 : Int32) hu1006) ⟨⟨wd_737, wd_735, wd_24⟩, ⟨by decide, by decide, by decide⟩, rfl, rfl, Nat.le_of_ble_eq_true rfl, Nat.le_of_ble_eq_true rfl⟩ wd_736 [evW g n2 10 eL, stO g n2 20 u1005.2.1, cdW g n2 20 u1005.2.2.1, evW g n2 20 u1005.2.2.2, stO g n2 30 u1004.2.2.1, cdW g n2 30 u1004.2.2.2.1, evW g n2 30 u1004.2.2.2.2, iaW g n1003 130 u1002, hiO g n2 hL, hrW g n2 tL, stF g n2 vsL, cdF g n2 csL, evF g n2 esL, prO g n3 qL, caW g n3 t2L, cmF g n3 wsL, sbO g n4 n5 kL, baW g n5 16 fL] (x_pickD [0, 1, 2, 3, 4, 5, 6, 7, 8, 9, 10, 11, 12, 13, 14, 15, 16, 17, 18, 19, 20] 21 rfl rfl rfl) rfl rfl (Nat.le_of_ble_eq_true rfl) ⟨by show _ ≤ 600390; omega, by show _ ≤ 7289640; omega⟩ dL_law_141 (fun v9 w9 hQ9 => ?_)
          obtain ⟨rfl, rfl⟩ := hQ9
          refine x_goW (wss2 := [ccO g n2 n3 n4 u1004.2.1, stO g n2 10 vL, cdW g n2 10 cL, evW g n2 10 eL, stO g n2 20 u1005.2.1, cdW g n2 20 u1005.2.2.1, evW g n2 20 u1005.2.2.2, stO g n2 30 u1004.2.2.1, cdW g n2 30 u1004.2.2.2.1, evW g n2 30 u1004.2.2.2.2, iaW g n1003 130 u1002, hiO g n2 hL, hrW g n2 tL, stF g n2 vsL, cdF g n2 csL, evF g n2 esL, prO g n3 qL, caW g n3 t2L, cmF g n3 wsL, sbO g n4 n5 kL, baW g n5 16 fL]) (stk2 := [.int u1006, .int u1005.1]) rfl rfl rfl ?_
          refine x_iadd C dL_law_144 ?_
          refine x_aload_n C dL_law_145 rfl 3 rfl ?_
          refine x_iconst (v := 0) C dL_law_146 (by decide) ?_
          obtain ⟨u1007, hu1007, hf⟩ := x_b hf
          refine x_xcallV (n := 1) (As := [.int (0 : Int32)]) (rest := [.int (u1005.1 + u1006)]) C (c_X9_writeCandle g l hl n2 n3 n4 n5 16 u1004.2.1 vL cL kL fL (0 : Int32) hu1007) ⟨⟨wd_223, wd_220, wd_25⟩, ⟨by decide, by decide, by decide⟩, rfl, rfl, Nat.le_of_ble_eq_true rfl, Nat.le_of_ble_eq_true rfl⟩ wd_221 wd_222 ⟨0, 10, _, _, rfl, rfl, rfl⟩ [evW g n2 10 eL, stO g n2 20 u1005.2.1, cdW g n2 20 u1005.2.2.1, evW g n2 20 u1005.2.2.2, stO g n2 30 u1004.2.2.1, cdW g n2 30 u1004.2.2.2.1, evW g n2 30 u1004.2.2.2.2, iaW g n1003 130 u1002, hiO g n2 hL, hrW g n2 tL, stF g n2 vsL, cdF g n2 csL, evF g n2 esL, prO g n3 qL, caW g n3 t2L, cmF g n3 wsL] (x_pickD [0, 1, 2, 19, 20, 3, 4, 5, 6, 7, 8, 9, 10, 11, 12, 13, 14, 15, 16, 17, 18] 21 rfl rfl rfl) rfl rfl (Nat.le_of_ble_eq_true rfl) ⟨by show _ ≤ 600390; omega, by show _ ≤ 7289640; omega⟩ dL_law_147 (fun E9 w9 hX9 => ?_) (fun v9 w9 hQ9 => ?_)
          · obtain ⟨k9, hk9, -⟩ := hX9
            cases x_sl hk9 hf
          · obtain ⟨r1009, hr9, rfl, z1008, rfl⟩ := hQ9
            have hf := x_sr hr9 hf
            refine x_goW (wss2 := [ccO g n2 n3 n4 u1004.2.1, stO g n2 10 vL, cdW g n2 10 cL, sbO g n4 z1008 u1007.2.1, baW g z1008 u1007.2.2.2 u1007.2.2.1, evW g n2 10 eL, stO g n2 20 u1005.2.1, cdW g n2 20 u1005.2.2.1, evW g n2 20 u1005.2.2.2, stO g n2 30 u1004.2.2.1, cdW g n2 30 u1004.2.2.2.1, evW g n2 30 u1004.2.2.2.2, iaW g n1003 130 u1002, hiO g n2 hL, hrW g n2 tL, stF g n2 vsL, cdF g n2 csL, evF g n2 esL, prO g n3 qL, caW g n3 t2L, cmF g n3 wsL]) (stk2 := [.int r1009, .int (u1005.1 + u1006)]) rfl rfl rfl ?_
            refine x_iadd C dL_law_150 ?_
            refine x_aload_n C dL_law_151 rfl 3 rfl ?_
            obtain ⟨u1010, hu1010, hf⟩ := x_b hf
            refine x_callV (n := 0) (As := []) (rest := [.int ((u1005.1 + u1006) + r1009)]) C (c_X9_writeEvents g l n2 n3 n4 z1008 u1007.2.2.2 u1004.2.1 vL eL u1007.2.1 u1007.2.2.1 hu1010) ⟨⟨wd_568, wd_565, wd_25⟩, ⟨by decide, by decide, by decide⟩, rfl, rfl, Nat.le_of_ble_eq_true rfl, Nat.le_of_ble_eq_true rfl⟩ wd_566 wd_567 ⟨0, 10, _, _, rfl, rfl, rfl⟩ [cdW g n2 10 cL, stO g n2 20 u1005.2.1, cdW g n2 20 u1005.2.2.1, evW g n2 20 u1005.2.2.2, stO g n2 30 u1004.2.2.1, cdW g n2 30 u1004.2.2.2.1, evW g n2 30 u1004.2.2.2.2, iaW g n1003 130 u1002, hiO g n2 hL, hrW g n2 tL, stF g n2 vsL, cdF g n2 csL, evF g n2 esL, prO g n3 qL, caW g n3 t2L, cmF g n3 wsL] (x_pickD [0, 1, 5, 3, 4, 2, 6, 7, 8, 9, 10, 11, 12, 13, 14, 15, 16, 17, 18, 19, 20] 21 rfl rfl rfl) rfl rfl (Nat.le_of_ble_eq_true rfl) ⟨by show _ ≤ 600390; omega, by show _ ≤ 7289640; omega⟩ dL_law_152 (fun v9 w9 hQ9 => ?_)
            obtain ⟨rfl, z1011, rfl⟩ := hQ9
            refine x_goW (wss2 := [ccO g n2 n3 n4 u1004.2.1, stO g n2 10 vL, evW g n2 10 eL, sbO g n4 z1011 u1010.2.1, baW g z1011 u1010.2.2.2 u1010.2.2.1, cdW g n2 10 cL, stO g n2 20 u1005.2.1, cdW g n2 20 u1005.2.2.1, evW g n2 20 u1005.2.2.2, stO g n2 30 u1004.2.2.1, cdW g n2 30 u1004.2.2.2.1, evW g n2 30 u1004.2.2.2.2, iaW g n1003 130 u1002, hiO g n2 hL, hrW g n2 tL, stF g n2 vsL, cdF g n2 csL, evF g n2 esL, prO g n3 qL, caW g n3 t2L, cmF g n3 wsL]) (stk2 := [.int u1010.1, .int ((u1005.1 + u1006) + r1009)]) rfl rfl rfl ?_
            refine x_iadd C dL_law_155 ?_
            refine x_aload_n C dL_law_156 rfl 3 rfl ?_
            refine x_iconst (v := 0) C dL_law_157 (by decide) ?_
            obtain ⟨u1012, hu1012, hf⟩ := x_b hf
            refine x_xcallV (n := 1) (As := [.int (0 : Int32)]) (rest := [.int (((u1005.1 + u1006) + r1009) + u1010.1)]) C (c_X9_minutesLeft g l hl n2 n3 n4 u1004.2.1 vL cL (0 : Int32) hu1012) ⟨⟨wd_61, wd_58, wd_25⟩, ⟨by decide, by decide, by decide⟩, rfl, rfl, Nat.le_of_ble_eq_true rfl, Nat.le_of_ble_eq_true rfl⟩ wd_59 wd_60 ⟨0, 10, _, _, rfl, rfl, rfl⟩ [evW g n2 10 eL, sbO g n4 z1011 u1010.2.1, baW g z1011 u1010.2.2.2 u1010.2.2.1, stO g n2 20 u1005.2.1, cdW g n2 20 u1005.2.2.1, evW g n2 20 u1005.2.2.2, stO g n2 30 u1004.2.2.1, cdW g n2 30 u1004.2.2.2.1, evW g n2 30 u1004.2.2.2.2, iaW g n1003 130 u1002, hiO g n2 hL, hrW g n2 tL, stF g n2 vsL, cdF g n2 csL, evF g n2 esL, prO g n3 qL, caW g n3 t2L, cmF g n3 wsL] (x_pickD [0, 1, 5, 2, 3, 4, 6, 7, 8, 9, 10, 11, 12, 13, 14, 15, 16, 17, 18, 19, 20] 21 rfl rfl rfl) rfl rfl (Nat.le_of_ble_eq_true rfl) ⟨by show _ ≤ 600390; omega, by show _ ≤ 7289640; omega⟩ dL_law_158 (fun E9 w9 hX9 => ?_) (fun v9 w9 hQ9 => ?_)
            · obtain ⟨k9, hk9, -⟩ := hX9
              cases x_sl hk9 hf
            · obtain ⟨r1013, hr9, rfl, rfl⟩ := hQ9
              have hf := x_sr hr9 hf
              refine x_goW (wss2 := [ccO g n2 n3 n4 u1004.2.1, stO g n2 10 vL, cdW g n2 10 cL, evW g n2 10 eL, sbO g n4 z1011 u1010.2.1, baW g z1011 u1010.2.2.2 u1010.2.2.1, stO g n2 20 u1005.2.1, cdW g n2 20 u1005.2.2.1, evW g n2 20 u1005.2.2.2, stO g n2 30 u1004.2.2.1, cdW g n2 30 u1004.2.2.2.1, evW g n2 30 u1004.2.2.2.2, iaW g n1003 130 u1002, hiO g n2 hL, hrW g n2 tL, stF g n2 vsL, cdF g n2 csL, evF g n2 esL, prO g n3 qL, caW g n3 t2L, cmF g n3 wsL]) (stk2 := [.int r1013, .int (((u1005.1 + u1006) + r1009) + u1010.1)]) rfl rfl rfl ?_
              refine x_iadd C dL_law_161 ?_
              refine x_istore (lv' := [(4, .int ((((u1005.1 + u1006) + r1009) + u1010.1) + r1013)), (3, .int u1004.1), (2, .ref n1003), (0, .ref (g.2.2 6)), (1, .ref (n2 0))]) C dL_law_162 (by decide) rfl ?_
              refine x_aload_n C dL_law_164 rfl 2 rfl ?_
              refine x_aload_n C dL_law_165 rfl 4 rfl ?_
              obtain ⟨u1014, hu1014, hf⟩ := x_b hf
              refine x_callS (n := 1) (As := [.ref (n2 0)]) (rest := [.ref n1003]) C (c_Q_seen g l hl n2 n3 n4 u1004.2.1 vL cL eL hu1014) ⟨⟨wd_1253, wd_1251, wd_24⟩, ⟨by decide, by decide, by decide⟩, rfl, rfl, Nat.le_of_ble_eq_true rfl, Nat.le_of_ble_eq_true rfl⟩ wd_1252 [sbO g n4 z1011 u1010.2.1, baW g z1011 u1010.2.2.2 u1010.2.2.1, stO g n2 20 u1005.2.1, cdW g n2 20 u1005.2.2.1, evW g n2 20 u1005.2.2.2, stO g n2 30 u1004.2.2.1, cdW g n2 30 u1004.2.2.2.1, evW g n2 30 u1004.2.2.2.2, iaW g n1003 130 u1002, hiO g n2 hL, hrW g n2 tL, stF g n2 vsL, cdF g n2 csL, evF g n2 esL, prO g n3 qL, caW g n3 t2L, cmF g n3 wsL] (x_pickD [0, 1, 2, 3, 4, 5, 6, 7, 8, 9, 10, 11, 12, 13, 14, 15, 16, 17, 18, 19, 20] 21 rfl rfl rfl) rfl rfl (Nat.le_of_ble_eq_true rfl) ⟨by show _ ≤ 600390; omega, by show _ ≤ 7289640; omega⟩ dL_law_166 (fun v9 w9 hQ9 => ?_)
              obtain ⟨n1015, rfl, rfl⟩ := hQ9
              refine x_goW (wss2 := [ccO g n2 n3 n4 u1004.2.1, stO g n2 10 vL, cdW g n2 10 cL, evW g n2 10 eL, iaW g n1015 130 u1014, sbO g n4 z1011 u1010.2.1, baW g z1011 u1010.2.2.2 u1010.2.2.1, stO g n2 20 u1005.2.1, cdW g n2 20 u1005.2.2.1, evW g n2 20 u1005.2.2.2, stO g n2 30 u1004.2.2.1, cdW g n2 30 u1004.2.2.2.1, evW g n2 30 u1004.2.2.2.2, iaW g n1003 130 u1002, hiO g n2 hL, hrW g n2 tL, stF g n2 vsL, cdF g n2 csL, evF g n2 esL, prO g n3 qL, caW g n3 t2L, cmF g n3 wsL]) (stk2 := [.ref n1015, .ref n1003]) rfl rfl rfl ?_
              obtain ⟨u1016, hu1016, hf⟩ := x_b hf
              refine x_callS (n := 2) (As := [.ref n1003, .ref n1015]) (rest := []) C (c_Q_areAlike g l hl n1003 n1015 u1002 u1014 hu1016) ⟨⟨wd_1316, wd_1314, wd_24⟩, ⟨by decide, by decide, by decide⟩, rfl, rfl, Nat.le_of_ble_eq_true rfl, Nat.le_of_ble_eq_true rfl⟩ wd_1315 [ccO g n2 n3 n4 u1004.2.1, stO g n2 10 vL, cdW g n2 10 cL, evW g n2 10 eL, sbO g n4 z1011 u1010.2.1, baW g z1011 u1010.2.2.2 u1010.2.2.1, stO g n2 20 u1005.2.1, cdW g n2 20 u1005.2.2.1, evW g n2 20 u1005.2.2.2, stO g n2 30 u1004.2.2.1, cdW g n2 30 u1004.2.2.2.1, evW g n2 30 u1004.2.2.2.2, hiO g n2 hL, hrW g n2 tL, stF g n2 vsL, cdF g n2 csL, evF g n2 esL, prO g n3 qL, caW g n3 t2L, cmF g n3 wsL] (x_pickD [13, 4, 0, 1, 2, 3, 5, 6, 7, 8, 9, 10, 11, 12, 14, 15, 16, 17, 18, 19, 20, 21] 22 rfl rfl rfl) rfl rfl (Nat.le_of_ble_eq_true rfl) ⟨by show _ ≤ 600390; omega, by show _ ≤ 7289640; omega⟩ dL_law_169 (x_goD (wss2 := [iaW g n1003 130 u1002, iaW g n1015 130 u1014, ccO g n2 n3 n4 u1004.2.1, stO g n2 10 vL, cdW g n2 10 cL, evW g n2 10 eL, sbO g n4 z1011 u1010.2.1, baW g z1011 u1010.2.2.2 u1010.2.2.1, stO g n2 20 u1005.2.1, cdW g n2 20 u1005.2.2.1, evW g n2 20 u1005.2.2.2, stO g n2 30 u1004.2.2.1, cdW g n2 30 u1004.2.2.2.1, evW g n2 30 u1004.2.2.2.2, hiO g n2 hL, hrW g n2 tL, stF g n2 vsL, cdF g n2 csL, evF g n2 esL, prO g n3 qL, caW g n3 t2L, cmF g n3 wsL]) (stk2 := [.int u1016]) rfl rfl ?_)
              refine x_if_ne (tgt := 177) C dL_law_172 (by decide) (fun h1017 => ?_) (fun h1017 => ?_)
              · have hf := x_f h1017 hf
                refine x_iload C dL_law_177 0 rfl ?_
                refine x_aload_n C dL_law_179 rfl 4 rfl ?_
                refine x_bipush (v := 12) C dL_law_180 (by decide) ?_
                obtain ⟨u1018, hu1018, hf⟩ := x_b hf
                refine x_hcallS (n := 2) (As := [.ref (n2 0), .int (12 : Int32)]) (rest := [.int ((((u1005.1 + u1006) + r1009) + u1010.1) + r1013)]) C (c_Q_pass g l hl n2 n3 n4 u1004.2.1 vL cL eL hL tL vsL csL esL (12 : Int32) hu1018) ⟨⟨wd_721, wd_719, wd_24⟩, ⟨by decide, by decide, by decide⟩, rfl, rfl, Nat.le_of_ble_eq_true rfl, Nat.le_of_ble_eq_true rfl⟩ wd_720 [iaW g n1003 130 u1002, iaW g n1015 130 u1014, sbO g n4 z1011 u1010.2.1, baW g z1011 u1010.2.2.2 u1010.2.2.1, stO g n2 20 u1005.2.1, cdW g n2 20 u1005.2.2.1, evW g n2 20 u1005.2.2.2, stO g n2 30 u1004.2.2.1, cdW g n2 30 u1004.2.2.2.1, evW g n2 30 u1004.2.2.2.2, prO g n3 qL, caW g n3 t2L, cmF g n3 wsL] (x_pickD [2, 3, 4, 5, 14, 15, 16, 17, 18, 0, 1, 6, 7, 8, 9, 10, 11, 12, 13, 19, 20, 21] 22 rfl rfl rfl) rfl rfl (Nat.le_of_ble_eq_true rfl) ⟨by show _ ≤ 600390; omega, by show _ ≤ 7289640; omega⟩ dL_law_182 (fun v9 w9 hQ9 => ?_)
                obtain ⟨rfl, rfl⟩ := hQ9
                refine x_goW (wss2 := [ccO g n2 n3 n4 u1004.2.1, stO g n2 10 u1018.2.1, cdW g n2 10 u1018.2.2.1, evW g n2 10 u1018.2.2.2.1, hiO g n2 u1018.2.2.2.2.1, hrW g n2 tL, stF g n2 u1018.2.2.2.2.2.1, cdF g n2 u1018.2.2.2.2.2.2.1, evF g n2 u1018.2.2.2.2.2.2.2, iaW g n1003 130 u1002, iaW g n1015 130 u1014, sbO g n4 z1011 u1010.2.1, baW g z1011 u1010.2.2.2 u1010.2.2.1, stO g n2 20 u1005.2.1, cdW g n2 20 u1005.2.2.1, evW g n2 20 u1005.2.2.2, stO g n2 30 u1004.2.2.1, cdW g n2 30 u1004.2.2.2.1, evW g n2 30 u1004.2.2.2.2, prO g n3 qL, caW g n3 t2L, cmF g n3 wsL]) (stk2 := [.int u1018.1, .int ((((u1005.1 + u1006) + r1009) + u1010.1) + r1013)]) rfl rfl rfl ?_
                refine x_aload_n C dL_law_185 rfl 4 rfl ?_
                refine x_iconst (v := 0) C dL_law_186 (by decide) ?_
                obtain ⟨u1019, hu1019, hf⟩ := x_b hf
                refine x_hcallS (n := 2) (As := [.ref (n2 0), .int (0 : Int32)]) (rest := [.int u1018.1, .int ((((u1005.1 + u1006) + r1009) + u1010.1) + r1013)]) C (c_Q_light g l hl n2 n3 n4 u1004.2.1 u1018.2.1 u1018.2.2.1 u1018.2.2.2.1 u1018.2.2.2.2.1 tL u1018.2.2.2.2.2.1 u1018.2.2.2.2.2.2.1 u1018.2.2.2.2.2.2.2 (0 : Int32) hu1019) ⟨⟨wd_575, wd_573, wd_24⟩, ⟨by decide, by decide, by decide⟩, rfl, rfl, Nat.le_of_ble_eq_true rfl, Nat.le_of_ble_eq_true rfl⟩ wd_574 [iaW g n1003 130 u1002, iaW g n1015 130 u1014, sbO g n4 z1011 u1010.2.1, baW g z1011 u1010.2.2.2 u1010.2.2.1, stO g n2 20 u1005.2.1, cdW g n2 20 u1005.2.2.1, evW g n2 20 u1005.2.2.2, stO g n2 30 u1004.2.2.1, cdW g n2 30 u1004.2.2.2.1, evW g n2 30 u1004.2.2.2.2, prO g n3 qL, caW g n3 t2L, cmF g n3 wsL] (x_pickD [0, 1, 2, 3, 4, 5, 6, 7, 8, 9, 10, 11, 12, 13, 14, 15, 16, 17, 18, 19, 20, 21] 22 rfl rfl rfl) rfl rfl (Nat.le_of_ble_eq_true rfl) ⟨by show _ ≤ 600390; omega, by show _ ≤ 7289640; omega⟩ dL_law_187 (fun v9 w9 hQ9 => ?_)
                obtain ⟨rfl, rfl⟩ := hQ9
                refine x_goW (wss2 := [ccO g n2 n3 n4 u1004.2.1, stO g n2 10 u1018.2.1, cdW g n2 10 u1019.2.1, evW g n2 10 u1018.2.2.2.1, hiO g n2 u1019.2.2.1, hrW g n2 tL, stF g n2 u1019.2.2.2.1, cdF g n2 u1019.2.2.2.2.1, evF g n2 u1019.2.2.2.2.2, iaW g n1003 130 u1002, iaW g n1015 130 u1014, sbO g n4 z1011 u1010.2.1, baW g z1011 u1010.2.2.2 u1010.2.2.1, stO g n2 20 u1005.2.1, cdW g n2 20 u1005.2.2.1, evW g n2 20 u1005.2.2.2, stO g n2 30 u1004.2.2.1, cdW g n2 30 u1004.2.2.2.1, evW g n2 30 u1004.2.2.2.2, prO g n3 qL, caW g n3 t2L, cmF g n3 wsL]) (stk2 := [.int u1019.1, .int u1018.1, .int ((((u1005.1 + u1006) + r1009) + u1010.1) + r1013)]) rfl rfl rfl ?_
                refine x_iadd C dL_law_190 ?_
                refine x_aload_n C dL_law_191 rfl 4 rfl ?_
                refine x_iconst (v := 2) C dL_law_192 (by decide) ?_
                obtain ⟨u1020, hu1020, hf⟩ := x_b hf
                refine x_hcallS (n := 2) (As := [.ref (n2 0), .int (2 : Int32)]) (rest := [.int (u1018.1 + u1019.1), .int ((((u1005.1 + u1006) + r1009) + u1010.1) + r1013)]) C (c_Q_setDraught g l hl n2 n3 n4 u1004.2.1 u1018.2.1 u1019.2.1 u1018.2.2.2.1 u1019.2.2.1 tL u1019.2.2.2.1 u1019.2.2.2.2.1 u1019.2.2.2.2.2 (2 : Int32) hu1020) ⟨⟨wd_681, wd_679, wd_24⟩, ⟨by decide, by decide, by decide⟩, rfl, rfl, Nat.le_of_ble_eq_true rfl, Nat.le_of_ble_eq_true rfl⟩ wd_680 [iaW g n1003 130 u1002, iaW g n1015 130 u1014, sbO g n4 z1011 u1010.2.1, baW g z1011 u1010.2.2.2 u1010.2.2.1, stO g n2 20 u1005.2.1, cdW g n2 20 u1005.2.2.1, evW g n2 20 u1005.2.2.2, stO g n2 30 u1004.2.2.1, cdW g n2 30 u1004.2.2.2.1, evW g n2 30 u1004.2.2.2.2, prO g n3 qL, caW g n3 t2L, cmF g n3 wsL] (x_pickD [0, 1, 2, 3, 4, 5, 6, 7, 8, 9, 10, 11, 12, 13, 14, 15, 16, 17, 18, 19, 20, 21] 22 rfl rfl rfl) rfl rfl (Nat.le_of_ble_eq_true rfl) ⟨by show _ ≤ 600390; omega, by show _ ≤ 7289640; omega⟩ dL_law_193 (fun v9 w9 hQ9 => ?_)
                obtain ⟨rfl, rfl⟩ := hQ9
                refine x_goW (wss2 := [ccO g n2 n3 n4 u1004.2.1, stO g n2 10 u1020.2.1, cdW g n2 10 u1019.2.1, evW g n2 10 u1018.2.2.2.1, hiO g n2 u1020.2.2.1, hrW g n2 tL, stF g n2 u1020.2.2.2.1, cdF g n2 u1020.2.2.2.2.1, evF g n2 u1020.2.2.2.2.2, iaW g n1003 130 u1002, iaW g n1015 130 u1014, sbO g n4 z1011 u1010.2.1, baW g z1011 u1010.2.2.2 u1010.2.2.1, stO g n2 20 u1005.2.1, cdW g n2 20 u1005.2.2.1, evW g n2 20 u1005.2.2.2, stO g n2 30 u1004.2.2.1, cdW g n2 30 u1004.2.2.2.1, evW g n2 30 u1004.2.2.2.2, prO g n3 qL, caW g n3 t2L, cmF g n3 wsL]) (stk2 := [.int u1020.1, .int (u1018.1 + u1019.1), .int ((((u1005.1 + u1006) + r1009) + u1010.1) + r1013)]) rfl rfl rfl ?_
                refine x_iadd C dL_law_196 ?_
                refine x_aload_n C dL_law_197 rfl 4 rfl ?_
                refine x_aload_n C dL_law_198 rfl 4 rfl ?_
                obtain ⟨u1021, hu1021, hf⟩ := x_b hf
                refine x_callV (n := 0) (As := []) (rest := [.ref (n2 0), .int ((u1018.1 + u1019.1) + u1020.1), .int ((((u1005.1 + u1006) + r1009) + u1010.1) + r1013)]) C (c_X9_time g l n2 n3 n4 u1004.2.1 u1020.2.1 hu1021) ⟨⟨wd_156, wd_153, wd_25⟩, ⟨by decide, by decide, by decide⟩, rfl, rfl, Nat.le_of_ble_eq_true rfl, Nat.le_of_ble_eq_true rfl⟩ wd_154 wd_155 ⟨0, 10, _, _, rfl, rfl, rfl⟩ [cdW g n2 10 u1019.2.1, evW g n2 10 u1018.2.2.2.1, hiO g n2 u1020.2.2.1, hrW g n2 tL, stF g n2 u1020.2.2.2.1, cdF g n2 u1020.2.2.2.2.1, evF g n2 u1020.2.2.2.2.2, iaW g n1003 130 u1002, iaW g n1015 130 u1014, sbO g n4 z1011 u1010.2.1, baW g z1011 u1010.2.2.2 u1010.2.2.1, stO g n2 20 u1005.2.1, cdW g n2 20 u1005.2.2.1, evW g n2 20 u1005.2.2.2, stO g n2 30 u1004.2.2.1, cdW g n2 30 u1004.2.2.2.1, evW g n2 30 u1004.2.2.2.2, prO g n3 qL, caW g n3 t2L, cmF g n3 wsL] (x_pickD [0, 1, 2, 3, 4, 5, 6, 7, 8, 9, 10, 11, 12, 13, 14, 15, 16, 17, 18, 19, 20, 21] 22 rfl rfl rfl) rfl rfl (Nat.le_of_ble_eq_true rfl) ⟨by show _ ≤ 600390; omega, by show _ ≤ 7289640; omega⟩ dL_law_199 (x_goD (wss2 := [ccO g n2 n3 n4 u1004.2.1, stO g n2 10 u1020.2.1, cdW g n2 10 u1019.2.1, evW g n2 10 u1018.2.2.2.1, hiO g n2 u1020.2.2.1, hrW g n2 tL, stF g n2 u1020.2.2.2.1, cdF g n2 u1020.2.2.2.2.1, evF g n2 u1020.2.2.2.2.2, iaW g n1003 130 u1002, iaW g n1015 130 u1014, sbO g n4 z1011 u1010.2.1, baW g z1011 u1010.2.2.2 u1010.2.2.1, stO g n2 20 u1005.2.1, cdW g n2 20 u1005.2.2.1, evW g n2 20 u1005.2.2.2, stO g n2 30 u1004.2.2.1, cdW g n2 30 u1004.2.2.2.1, evW g n2 30 u1004.2.2.2.2, prO g n3 qL, caW g n3 t2L, cmF g n3 wsL]) (stk2 := [.int u1021, .ref (n2 0), .int ((u1018.1 + u1019.1) + u1020.1), .int ((((u1005.1 + u1006) + r1009) + u1010.1) + r1013)]) rfl rfl ?_)
                refine x_iconst (v := 5) C dL_law_202 (by decide) ?_
                refine x_iadd C dL_law_203 ?_
                refine x_iconst (v := 1) C dL_law_204 (by decide) ?_
                refine x_iconst (v := 1) C dL_law_205 (by decide) ?_
                obtain ⟨u1022, hu1022, hf⟩ := x_b hf
                refine x_hcallS (n := 4) (As := [.ref (n2 0), .int (u1021 + (5 : Int32)), .int (1 : Int32), .int (1 : Int32)]) (rest := [.int ((u1018.1 + u1019.1) + u1020.1), .int ((((u1005.1 + u1006) + r1009) + u1010.1) + r1013)]) C (c_Q_schedule g l hl n2 n3 n4 u1004.2.1 u1020.2.1 u1019.2.1 u1018.2.2.2.1 u1020.2.2.1 tL u1020.2.2.2.1 u1020.2.2.2.2.1 u1020.2.2.2.2.2 (u1021 + (5 : Int32)) (1 : Int32) (1 : Int32) hu1022) ⟨⟨wd_699, wd_697, wd_24⟩, ⟨by decide, by decide, by decide⟩, rfl, rfl, Nat.le_of_ble_eq_true rfl, Nat.le_of_ble_eq_true rfl⟩ wd_698 [iaW g n1003 130 u1002, iaW g n1015 130 u1014, sbO g n4 z1011 u1010.2.1, baW g z1011 u1010.2.2.2 u1010.2.2.1, stO g n2 20 u1005.2.1, cdW g n2 20 u1005.2.2.1, evW g n2 20 u1005.2.2.2, stO g n2 30 u1004.2.2.1, cdW g n2 30 u1004.2.2.2.1, evW g n2 30 u1004.2.2.2.2, prO g n3 qL, caW g n3 t2L, cmF g n3 wsL] (x_pickD [0, 1, 2, 3, 4, 5, 6, 7, 8, 9, 10, 11, 12, 13, 14, 15, 16, 17, 18, 19, 20, 21] 22 rfl rfl rfl) rfl rfl (Nat.le_of_ble_eq_true rfl) ⟨by show _ ≤ 600390; omega, by show _ ≤ 7289640; omega⟩ dL_law_206 (fun v9 w9 hQ9 => ?_)
                obtain ⟨rfl, rfl⟩ := hQ9
                refine x_goW (wss2 := [ccO g n2 n3 n4 u1004.2.1, stO g n2 10 u1020.2.1, cdW g n2 10 u1019.2.1, evW g n2 10 u1022.2.1, hiO g n2 u1022.2.2.1, hrW g n2 tL, stF g n2 u1022.2.2.2.1, cdF g n2 u1022.2.2.2.2.1, evF g n2 u1022.2.2.2.2.2, iaW g n1003 130 u1002, iaW g n1015 130 u1014, sbO g n4 z1011 u1010.2.1, baW g z1011 u1010.2.2.2 u1010.2.2.1, stO g n2 20 u1005.2.1, cdW g n2 20 u1005.2.2.1, evW g n2 20 u1005.2.2.2, stO g n2 30 u1004.2.2.1, cdW g n2 30 u1004.2.2.2.1, evW g n2 30 u1004.2.2.2.2, prO g n3 qL, caW g n3 t2L, cmF g n3 wsL]) (stk2 := [.int u1022.1, .int ((u1018.1 + u1019.1) + u1020.1), .int ((((u1005.1 + u1006) + r1009) + u1010.1) + r1013)]) rfl rfl rfl ?_
                refine x_iadd C dL_law_209 ?_
                refine x_aload_n C dL_law_210 rfl 4 rfl ?_
                refine x_iconst (v := 0) C dL_law_211 (by decide) ?_
                obtain ⟨u1023, hu1023, hf⟩ := x_b hf
                refine x_hcallS (n := 2) (As := [.ref (n2 0), .int (0 : Int32)]) (rest := [.int (((u1018.1 + u1019.1) + u1020.1) + u1022.1), .int ((((u1005.1 + u1006) + r1009) + u1010.1) + r1013)]) C (c_Q_snuff g l hl n2 n3 n4 u1004.2.1 u1020.2.1 u1019.2.1 u1022.2.1 u1022.2.2.1 tL u1022.2.2.2.1 u1022.2.2.2.2.1 u1022.2.2.2.2.2 (0 : Int32) hu1023) ⟨⟨wd_664, wd_662, wd_24⟩, ⟨by decide, by decide, by decide⟩, rfl, rfl, Nat.le_of_ble_eq_true rfl, Nat.le_of_ble_eq_true rfl⟩ wd_663 [iaW g n1003 130 u1002, iaW g n1015 130 u1014, sbO g n4 z1011 u1010.2.1, baW g z1011 u1010.2.2.2 u1010.2.2.1, stO g n2 20 u1005.2.1, cdW g n2 20 u1005.2.2.1, evW g n2 20 u1005.2.2.2, stO g n2 30 u1004.2.2.1, cdW g n2 30 u1004.2.2.2.1, evW g n2 30 u1004.2.2.2.2, prO g n3 qL, caW g n3 t2L, cmF g n3 wsL] (x_pickD [0, 1, 2, 3, 4, 5, 6, 7, 8, 9, 10, 11, 12, 13, 14, 15, 16, 17, 18, 19, 20, 21] 22 rfl rfl rfl) rfl rfl (Nat.le_of_ble_eq_true rfl) ⟨by show _ ≤ 600390; omega, by show _ ≤ 7289640; omega⟩ dL_law_212 (fun v9 w9 hQ9 => ?_)
                obtain ⟨rfl, rfl⟩ := hQ9
                refine x_goW (wss2 := [ccO g n2 n3 n4 u1004.2.1, stO g n2 10 u1020.2.1, cdW g n2 10 u1023.2.1, evW g n2 10 u1022.2.1, hiO g n2 u1023.2.2.1, hrW g n2 tL, stF g n2 u1023.2.2.2.1, cdF g n2 u1023.2.2.2.2.1, evF g n2 u1023.2.2.2.2.2, iaW g n1003 130 u1002, iaW g n1015 130 u1014, sbO g n4 z1011 u1010.2.1, baW g z1011 u1010.2.2.2 u1010.2.2.1, stO g n2 20 u1005.2.1, cdW g n2 20 u1005.2.2.1, evW g n2 20 u1005.2.2.2, stO g n2 30 u1004.2.2.1, cdW g n2 30 u1004.2.2.2.1, evW g n2 30 u1004.2.2.2.2, prO g n3 qL, caW g n3 t2L, cmF g n3 wsL]) (stk2 := [.int u1023.1, .int (((u1018.1 + u1019.1) + u1020.1) + u1022.1), .int ((((u1005.1 + u1006) + r1009) + u1010.1) + r1013)]) rfl rfl rfl ?_
                refine x_iadd C dL_law_215 ?_
                refine x_iadd C dL_law_216 ?_
                refine x_istore (lv' := [(4, .int (((((u1005.1 + u1006) + r1009) + u1010.1) + r1013) + ((((u1018.1 + u1019.1) + u1020.1) + u1022.1) + u1023.1))), (3, .int u1004.1), (2, .ref n1003), (0, .ref (g.2.2 6)), (1, .ref (n2 0))]) C dL_law_217 (by decide) rfl ?_
                refine x_iload C dL_law_219 0 rfl ?_
                refine x_ldc C wd_1068 dL_law_221 ?_
                refine x_icmp_le (tgt := 258) C dL_law_223 (by decide) (fun h1024 => ?_) (fun h1024 => ?_)
                · have hf := x_t h1024 hf
                  cases hf
                · have hf := x_f h1024 hf
                  refine x_aload_n C dL_law_226 rfl 4 rfl ?_
                  obtain ⟨u1025, hu1025, hf⟩ := x_b hf
                  refine x_hcallS (n := 1) (As := [.ref (n2 0)]) (rest := []) C (c_Q_restore g l hl n2 n3 n4 u1004.2.1 u1020.2.1 u1023.2.1 u1022.2.1 u1004.2.2.1 u1004.2.2.2.1 u1004.2.2.2.2 u1023.2.2.1 hu1025) ⟨⟨wd_782, wd_780, wd_24⟩, ⟨by decide, by decide, by decide⟩, rfl, rfl, Nat.le_of_ble_eq_true rfl, Nat.le_of_ble_eq_true rfl⟩ wd_781 [hrW g n2 tL, stF g n2 u1023.2.2.2.1, cdF g n2 u1023.2.2.2.2.1, evF g n2 u1023.2.2.2.2.2, iaW g n1003 130 u1002, iaW g n1015 130 u1014, sbO g n4 z1011 u1010.2.1, baW g z1011 u1010.2.2.2 u1010.2.2.1, stO g n2 20 u1005.2.1, cdW g n2 20 u1005.2.2.1, evW g n2 20 u1005.2.2.2, prO g n3 qL, caW g n3 t2L, cmF g n3 wsL] (x_pickD [0, 1, 2, 3, 16, 17, 18, 4, 5, 6, 7, 8, 9, 10, 11, 12, 13, 14, 15, 19, 20, 21] 22 rfl rfl rfl) rfl rfl (Nat.le_of_ble_eq_true rfl) ⟨by show _ ≤ 600390; omega, by show _ ≤ 7289640; omega⟩ dL_law_227 (fun v9 w9 hQ9 => ?_)
                  obtain ⟨rfl, rfl⟩ := hQ9
                  refine x_goW (wss2 := [ccO g n2 n3 n4 u1004.2.1, stO g n2 10 u1025.2.1, cdW g n2 10 u1025.2.2.1, evW g n2 10 u1025.2.2.2.1, stO g n2 30 u1004.2.2.1, cdW g n2 30 u1004.2.2.2.1, evW g n2 30 u1004.2.2.2.2, hiO g n2 u1025.2.2.2.2, hrW g n2 tL, stF g n2 u1023.2.2.2.1, cdF g n2 u1023.2.2.2.2.1, evF g n2 u1023.2.2.2.2.2, iaW g n1003 130 u1002, iaW g n1015 130 u1014, sbO g n4 z1011 u1010.2.1, baW g z1011 u1010.2.2.2 u1010.2.2.1, stO g n2 20 u1005.2.1, cdW g n2 20 u1005.2.2.1, evW g n2 20 u1005.2.2.2, prO g n3 qL, caW g n3 t2L, cmF g n3 wsL]) (stk2 := [.int u1025.1]) rfl rfl rfl ?_
                  refine x_iload_n C dL_law_230 rfl 1 rfl ?_
                  refine x_icmp_ne (tgt := 258) C dL_law_231 (by decide) (fun h1026 => ?_) (fun h1026 => ?_)
                  · have hf := x_f h1026 hf
                    cases hf
                  · have hf := x_t h1026 hf
                    refine x_aload_n C dL_law_234 rfl 2 rfl ?_
                    refine x_aload_n C dL_law_235 rfl 4 rfl ?_
                    obtain ⟨u1027, hu1027, hf⟩ := x_b hf
                    refine x_callS (n := 1) (As := [.ref (n2 0)]) (rest := [.ref n1003]) C (c_Q_seen g l hl n2 n3 n4 u1004.2.1 u1025.2.1 u1025.2.2.1 u1025.2.2.2.1 hu1027) ⟨⟨wd_1253, wd_1251, wd_24⟩, ⟨by decide, by decide, by decide⟩, rfl, rfl, Nat.le_of_ble_eq_true rfl, Nat.le_of_ble_eq_true rfl⟩ wd_1252 [stO g n2 30 u1004.2.2.1, cdW g n2 30 u1004.2.2.2.1, evW g n2 30 u1004.2.2.2.2, hiO g n2 u1025.2.2.2.2, hrW g n2 tL, stF g n2 u1023.2.2.2.1, cdF g n2 u1023.2.2.2.2.1, evF g n2 u1023.2.2.2.2.2, iaW g n1003 130 u1002, iaW g n1015 130 u1014, sbO g n4 z1011 u1010.2.1, baW g z1011 u1010.2.2.2 u1010.2.2.1, stO g n2 20 u1005.2.1, cdW g n2 20 u1005.2.2.1, evW g n2 20 u1005.2.2.2, prO g n3 qL, caW g n3 t2L, cmF g n3 wsL] (x_pickD [0, 1, 2, 3, 4, 5, 6, 7, 8, 9, 10, 11, 12, 13, 14, 15, 16, 17, 18, 19, 20, 21] 22 rfl rfl rfl) rfl rfl (Nat.le_of_ble_eq_true rfl) ⟨by show _ ≤ 600390; omega, by show _ ≤ 7289640; omega⟩ dL_law_236 (fun v9 w9 hQ9 => ?_)
                    obtain ⟨n1028, rfl, rfl⟩ := hQ9
                    refine x_goW (wss2 := [ccO g n2 n3 n4 u1004.2.1, stO g n2 10 u1025.2.1, cdW g n2 10 u1025.2.2.1, evW g n2 10 u1025.2.2.2.1, iaW g n1028 130 u1027, stO g n2 30 u1004.2.2.1, cdW g n2 30 u1004.2.2.2.1, evW g n2 30 u1004.2.2.2.2, hiO g n2 u1025.2.2.2.2, hrW g n2 tL, stF g n2 u1023.2.2.2.1, cdF g n2 u1023.2.2.2.2.1, evF g n2 u1023.2.2.2.2.2, iaW g n1003 130 u1002, iaW g n1015 130 u1014, sbO g n4 z1011 u1010.2.1, baW g z1011 u1010.2.2.2 u1010.2.2.1, stO g n2 20 u1005.2.1, cdW g n2 20 u1005.2.2.1, evW g n2 20 u1005.2.2.2, prO g n3 qL, caW g n3 t2L, cmF g n3 wsL]) (stk2 := [.ref n1028, .ref n1003]) rfl rfl rfl ?_
                    obtain ⟨u1029, hu1029, hf⟩ := x_b hf
                    refine x_callS (n := 2) (As := [.ref n1003, .ref n1028]) (rest := []) C (c_Q_areAlike g l hl n1003 n1028 u1002 u1027 hu1029) ⟨⟨wd_1316, wd_1314, wd_24⟩, ⟨by decide, by decide, by decide⟩, rfl, rfl, Nat.le_of_ble_eq_true rfl, Nat.le_of_ble_eq_true rfl⟩ wd_1315 [ccO g n2 n3 n4 u1004.2.1, stO g n2 10 u1025.2.1, cdW g n2 10 u1025.2.2.1, evW g n2 10 u1025.2.2.2.1, stO g n2 30 u1004.2.2.1, cdW g n2 30 u1004.2.2.2.1, evW g n2 30 u1004.2.2.2.2, hiO g n2 u1025.2.2.2.2, hrW g n2 tL, stF g n2 u1023.2.2.2.1, cdF g n2 u1023.2.2.2.2.1, evF g n2 u1023.2.2.2.2.2, iaW g n1015 130 u1014, sbO g n4 z1011 u1010.2.1, baW g z1011 u1010.2.2.2 u1010.2.2.1, stO g n2 20 u1005.2.1, cdW g n2 20 u1005.2.2.1, evW g n2 20 u1005.2.2.2, prO g n3 qL, caW g n3 t2L, cmF g n3 wsL] (x_pickD [13, 4, 0, 1, 2, 3, 5, 6, 7, 8, 9, 10, 11, 12, 14, 15, 16, 17, 18, 19, 20, 21, 22] 23 rfl rfl rfl) rfl rfl (Nat.le_of_ble_eq_true rfl) ⟨by show _ ≤ 600390; omega, by show _ ≤ 7289640; omega⟩ dL_law_239 (x_goD (wss2 := [iaW g n1003 130 u1002, iaW g n1028 130 u1027, ccO g n2 n3 n4 u1004.2.1, stO g n2 10 u1025.2.1, cdW g n2 10 u1025.2.2.1, evW g n2 10 u1025.2.2.2.1, stO g n2 30 u1004.2.2.1, cdW g n2 30 u1004.2.2.2.1, evW g n2 30 u1004.2.2.2.2, hiO g n2 u1025.2.2.2.2, hrW g n2 tL, stF g n2 u1023.2.2.2.1, cdF g n2 u1023.2.2.2.2.1, evF g n2 u1023.2.2.2.2.2, iaW g n1015 130 u1014, sbO g n4 z1011 u1010.2.1, baW g z1011 u1010.2.2.2 u1010.2.2.1, stO g n2 20 u1005.2.1, cdW g n2 20 u1005.2.2.1, evW g n2 20 u1005.2.2.2, prO g n3 qL, caW g n3 t2L, cmF g n3 wsL]) (stk2 := [.int u1029]) rfl rfl ?_)
                    refine x_if_eq (tgt := 258) C dL_law_242 (by decide) (fun h1030 => ?_) (fun h1030 => ?_)
                    · have hf := x_t h1030 hf
                      cases hf
                    · have hf := x_f h1030 hf
                      refine x_aload_n C dL_law_245 rfl 4 rfl ?_
                      obtain ⟨u1031, hu1031, hf⟩ := x_b hf
                      refine x_hcallS (n := 1) (As := [.ref (n2 0)]) (rest := []) C (c_Q_undo g l hl n2 n3 n4 u1004.2.1 u1025.2.1 u1025.2.2.1 u1025.2.2.2.1 u1025.2.2.2.2 tL u1023.2.2.2.1 u1023.2.2.2.2.1 u1023.2.2.2.2.2 hu1031) ⟨⟨wd_770, wd_768, wd_24⟩, ⟨by decide, by decide, by decide⟩, rfl, rfl, Nat.le_of_ble_eq_true rfl, Nat.le_of_ble_eq_true rfl⟩ wd_769 [iaW g n1003 130 u1002, iaW g n1028 130 u1027, stO g n2 30 u1004.2.2.1, cdW g n2 30 u1004.2.2.2.1, evW g n2 30 u1004.2.2.2.2, iaW g n1015 130 u1014, sbO g n4 z1011 u1010.2.1, baW g z1011 u1010.2.2.2 u1010.2.2.1, stO g n2 20 u1005.2.1, cdW g n2 20 u1005.2.2.1, evW g n2 20 u1005.2.2.2, prO g n3 qL, caW g n3 t2L, cmF g n3 wsL] (x_pickD [2, 3, 4, 5, 9, 10, 11, 12, 13, 0, 1, 6, 7, 8, 14, 15, 16, 17, 18, 19, 20, 21, 22] 23 rfl rfl rfl) rfl rfl (Nat.le_of_ble_eq_true rfl) ⟨by show _ ≤ 600390; omega, by show _ ≤ 7289640; omega⟩ dL_law_246 (fun v9 w9 hQ9 => ?_)
                      obtain ⟨rfl, rfl⟩ := hQ9
                      refine x_goW (wss2 := [ccO g n2 n3 n4 u1004.2.1, stO g n2 10 u1031.2.1, cdW g n2 10 u1031.2.2.1, evW g n2 10 u1031.2.2.2.1, hiO g n2 u1031.2.2.2.2, hrW g n2 tL, stF g n2 u1023.2.2.2.1, cdF g n2 u1023.2.2.2.2.1, evF g n2 u1023.2.2.2.2.2, iaW g n1003 130 u1002, iaW g n1028 130 u1027, stO g n2 30 u1004.2.2.1, cdW g n2 30 u1004.2.2.2.1, evW g n2 30 u1004.2.2.2.2, iaW g n1015 130 u1014, sbO g n4 z1011 u1010.2.1, baW g z1011 u1010.2.2.2 u1010.2.2.1, stO g n2 20 u1005.2.1, cdW g n2 20 u1005.2.2.1, evW g n2 20 u1005.2.2.2, prO g n3 qL, caW g n3 t2L, cmF g n3 wsL]) (stk2 := [.int u1031.1]) rfl rfl rfl ?_
                      refine x_ldc C wd_659 dL_law_249 ?_
                      refine x_icmp_ne (tgt := 258) C dL_law_251 (by decide) (fun h1032 => ?_) (fun h1032 => ?_)
                      · have hf := x_f h1032 hf
                        cases hf
                      · have hf := x_t h1032 hf
                        refine x_iconst (v := 1) C dL_law_254 (by decide) ?_
                        refine x_goto (tgt := 259) C dL_law_255 (by decide) ?_
                        exact kend _ _ _ _ (by show _ ≤ 600390; omega) (by show _ ≤ 7289640; omega)
              · have hf := x_t h1017 hf
                cases hf
        · have hf := x_f h1001 hf
          refine x_aload_n C dL_law_26 rfl 1 rfl ?_
          obtain ⟨u1033, hu1033, hf⟩ := x_b hf
          refine x_callS (n := 1) (As := [.ref (n2 0)]) (rest := []) C (c_Q_seen g l hl n2 n3 n4 zL vL cL eL hu1033) ⟨⟨wd_1253, wd_1251, wd_24⟩, ⟨by decide, by decide, by decide⟩, rfl, rfl, Nat.le_of_ble_eq_true rfl, Nat.le_of_ble_eq_true rfl⟩ wd_1252 [stO g n2 20 v2L, cdW g n2 20 c2L, evW g n2 20 e2L, stO g n2 30 v3L, cdW g n2 30 c3L, evW g n2 30 e3L, hiO g n2 hL, hrW g n2 tL, stF g n2 vsL, cdF g n2 csL, evF g n2 esL, prO g n3 qL, caW g n3 t2L, cmF g n3 wsL, sbO g n4 n5 kL, baW g n5 16 fL] (x_pickD [0, 1, 2, 3, 4, 5, 6, 7, 8, 9, 10, 11, 12, 13, 14, 15, 16, 17, 18, 19] 20 rfl rfl rfl) rfl rfl (Nat.le_of_ble_eq_true rfl) ⟨by show _ ≤ 600390; omega, by show _ ≤ 7289640; omega⟩ dL_law_27 (fun v9 w9 hQ9 => ?_)
          obtain ⟨n1034, rfl, rfl⟩ := hQ9
          refine x_goW (wss2 := [ccO g n2 n3 n4 zL, stO g n2 10 vL, cdW g n2 10 cL, evW g n2 10 eL, iaW g n1034 130 u1033, stO g n2 20 v2L, cdW g n2 20 c2L, evW g n2 20 e2L, stO g n2 30 v3L, cdW g n2 30 c3L, evW g n2 30 e3L, hiO g n2 hL, hrW g n2 tL, stF g n2 vsL, cdF g n2 csL, evF g n2 esL, prO g n3 qL, caW g n3 t2L, cmF g n3 wsL, sbO g n4 n5 kL, baW g n5 16 fL]) (stk2 := [.ref n1034]) rfl rfl rfl ?_
          refine x_astore_n (lv' := [(3, .ref n1034), (0, .ref (g.2.2 6)), (1, .ref (n2 0)), (2, .int x2)]) C dL_law_30 rfl (by decide) rfl ?_
          refine x_aload_n C dL_law_31 rfl 2 rfl ?_
          refine x_aload_n C dL_law_32 rfl 1 rfl ?_
          refine x_bipush (v := 61) C dL_law_33 (by decide) ?_
          refine x_iconst (v := 4) C dL_law_35 (by decide) ?_
          refine x_iload_n C dL_law_36 rfl 3 rfl ?_
          refine x_imul C dL_law_37 ?_
          refine x_iadd C dL_law_38 ?_
          obtain ⟨u1035, hu1035, hf⟩ := x_b hf
          refine x_callS (n := 3) (As := [.ref (n2 0), .ref (g.2.2 6), .int ((61 : Int32) + ((4 : Int32) * x2))]) (rest := []) C (c_Q_acts g l hl L xs hLg hxg n2 n3 n4 zL vL cL eL v2L c2L e2L hL tL vsL csL esL qL t2L wsL ((61 : Int32) + ((4 : Int32) * x2)) hu1035) ⟨⟨wd_1071, wd_1069, wd_24⟩, ⟨by decide, by decide, by decide⟩, rfl, rfl, Nat.le_of_ble_eq_true rfl, Nat.le_of_ble_eq_true rfl⟩ wd_1070 [iaW g n1034 130 u1033, stO g n2 30 v3L, cdW g n2 30 c3L, evW g n2 30 e3L, sbO g n4 n5 kL, baW g n5 16 fL] (x_pickD [0, 1, 2, 3, 5, 6, 7, 11, 12, 13, 14, 15, 16, 17, 18, 4, 8, 9, 10, 19, 20] 21 rfl rfl rfl) rfl rfl (Nat.le_of_ble_eq_true rfl) ⟨by show _ ≤ 600390; omega, by show _ ≤ 7289640; omega⟩ dL_law_39 (x_goD (wss2 := [ccO g n2 n3 n4 u1035.2.1, stO g n2 10 u1035.2.2.1, cdW g n2 10 u1035.2.2.2.1, evW g n2 10 u1035.2.2.2.2.1, stO g n2 20 u1035.2.2.2.2.2.1, cdW g n2 20 u1035.2.2.2.2.2.2.1, evW g n2 20 u1035.2.2.2.2.2.2.2.1, hiO g n2 u1035.2.2.2.2.2.2.2.2.1, hrW g n2 tL, stF g n2 u1035.2.2.2.2.2.2.2.2.2.1, cdF g n2 u1035.2.2.2.2.2.2.2.2.2.2.1, evF g n2 u1035.2.2.2.2.2.2.2.2.2.2.2.1, prO g n3 u1035.2.2.2.2.2.2.2.2.2.2.2.2.1, caW g n3 t2L, cmF g n3 u1035.2.2.2.2.2.2.2.2.2.2.2.2.2, iaW g n1034 130 u1033, stO g n2 30 v3L, cdW g n2 30 c3L, evW g n2 30 e3L, sbO g n4 n5 kL, baW g n5 16 fL]) (stk2 := [.int u1035.1]) rfl rfl ?_)
          refine x_istore (lv' := [(4, .int u1035.1), (3, .ref n1034), (0, .ref (g.2.2 6)), (1, .ref (n2 0)), (2, .int x2)]) C dL_law_42 (by decide) rfl ?_
          refine x_aload_n C dL_law_44 rfl 3 rfl ?_
          obtain ⟨u1036, hu1036, hf⟩ := x_b hf
          refine x_callS (n := 1) (As := [.ref (n2 0)]) (rest := []) C (c_Q_isWell g l hl n2 n3 n4 u1035.2.1 u1035.2.2.1 u1035.2.2.2.1 u1035.2.2.2.2.1 u1035.2.2.2.2.2.1 u1035.2.2.2.2.2.2.1 u1035.2.2.2.2.2.2.2.1 hu1036) ⟨⟨wd_1319, wd_1317, wd_24⟩, ⟨by decide, by decide, by decide⟩, rfl, rfl, Nat.le_of_ble_eq_true rfl, Nat.le_of_ble_eq_true rfl⟩ wd_1318 [hiO g n2 u1035.2.2.2.2.2.2.2.2.1, hrW g n2 tL, stF g n2 u1035.2.2.2.2.2.2.2.2.2.1, cdF g n2 u1035.2.2.2.2.2.2.2.2.2.2.1, evF g n2 u1035.2.2.2.2.2.2.2.2.2.2.2.1, prO g n3 u1035.2.2.2.2.2.2.2.2.2.2.2.2.1, caW g n3 t2L, cmF g n3 u1035.2.2.2.2.2.2.2.2.2.2.2.2.2, iaW g n1034 130 u1033, stO g n2 30 v3L, cdW g n2 30 c3L, evW g n2 30 e3L, sbO g n4 n5 kL, baW g n5 16 fL] (x_pickD [0, 1, 2, 3, 4, 5, 6, 7, 8, 9, 10, 11, 12, 13, 14, 15, 16, 17, 18, 19, 20] 21 rfl rfl rfl) rfl rfl (Nat.le_of_ble_eq_true rfl) ⟨by show _ ≤ 600390; omega, by show _ ≤ 7289640; omega⟩ dL_law_45 (x_goD (wss2 := [ccO g n2 n3 n4 u1035.2.1, stO g n2 10 u1035.2.2.1, cdW g n2 10 u1035.2.2.2.1, evW g n2 10 u1035.2.2.2.2.1, stO g n2 20 u1036.2.1, cdW g n2 20 u1036.2.2.1, evW g n2 20 u1036.2.2.2, hiO g n2 u1035.2.2.2.2.2.2.2.2.1, hrW g n2 tL, stF g n2 u1035.2.2.2.2.2.2.2.2.2.1, cdF g n2 u1035.2.2.2.2.2.2.2.2.2.2.1, evF g n2 u1035.2.2.2.2.2.2.2.2.2.2.2.1, prO g n3 u1035.2.2.2.2.2.2.2.2.2.2.2.2.1, caW g n3 t2L, cmF g n3 u1035.2.2.2.2.2.2.2.2.2.2.2.2.2, iaW g n1034 130 u1033, stO g n2 30 v3L, cdW g n2 30 c3L, evW g n2 30 e3L, sbO g n4 n5 kL, baW g n5 16 fL]) (stk2 := [.int u1036.1]) rfl rfl ?_)
          refine x_if_eq (tgt := 77) C dL_law_48 (by decide) (fun h1037 => ?_) (fun h1037 => ?_)
          · have hf := x_t h1037 hf
            cases hf
          · have hf := x_f h1037 hf
            refine x_iload C dL_law_51 0 rfl ?_
            refine x_ldc C wd_1145 dL_law_53 ?_
            refine x_icmp_eq (tgt := 77) C dL_law_55 (by decide) (fun h1038 => ?_) (fun h1038 => ?_)
            · have hf := x_t h1038 hf
              cases hf
            · have hf := x_f h1038 hf
              refine x_iload C dL_law_58 0 rfl ?_
              refine x_ldcw C wd_1383 dL_law_60 ?_
              refine x_icmp_gt (tgt := 79) C dL_law_63 (by decide) (fun h1039 => ?_) (fun h1039 => ?_)
              · have hf := x_t h1039 hf
                refine x_iload C dL_law_79 0 rfl ?_
                refine x_ldcw C wd_1383 dL_law_81 ?_
                refine x_icmp_le (tgt := 119) C dL_law_84 (by decide) (fun h1040 => ?_) (fun h1040 => ?_)
                · have hf := x_t h1040 hf
                  refine x_iinc (v := x2 + 1) (lv' := [(2, .int (x2 + 1)), (4, .int u1035.1), (3, .ref n1034), (0, .ref (g.2.2 6)), (1, .ref (n2 0))]) C dL_law_119 4 rfl rfl (by decide) rfl ?_
                  refine x_goto (tgt := 20) C dL_law_122 (by decide) ?_
                  refine x_dropE (wss' := [ccO g n2 n3 n4 u1035.2.1, stO g n2 10 u1035.2.2.1, cdW g n2 10 u1035.2.2.2.1, evW g n2 10 u1035.2.2.2.2.1, stO g n2 20 u1036.2.1, cdW g n2 20 u1036.2.2.1, evW g n2 20 u1036.2.2.2, stO g n2 30 v3L, cdW g n2 30 c3L, evW g n2 30 e3L, hiO g n2 u1035.2.2.2.2.2.2.2.2.1, hrW g n2 tL, stF g n2 u1035.2.2.2.2.2.2.2.2.2.1, cdF g n2 u1035.2.2.2.2.2.2.2.2.2.2.1, evF g n2 u1035.2.2.2.2.2.2.2.2.2.2.2.1, prO g n3 u1035.2.2.2.2.2.2.2.2.2.2.2.2.1, caW g n3 t2L, cmF g n3 u1035.2.2.2.2.2.2.2.2.2.2.2.2.2, sbO g n4 n5 kL, baW g n5 16 fL]) [iaW g n1034 130 u1033] (x_pickD [0, 1, 2, 3, 4, 5, 6, 16, 17, 18, 7, 8, 9, 10, 11, 12, 13, 14, 19, 20, 15] 21 rfl rfl rfl) ?_
                  refine x_locals (lv' := [(0, .ref (g.2.2 6)), (1, .ref (n2 0)), (2, .int (x2 + 1))]) [3, 4, 0] rfl ?_
                  refine x_widen (k := kW + 1309) (n := tW + 11362) (by omega) (by omega) ?_
                  exact ih (kW + 1309) (tW + 11362) u1035.2.1 u1035.2.2.1 u1035.2.2.2.1 u1035.2.2.2.2.1 u1036.2.1 u1036.2.2.1 u1036.2.2.2 v3L c3L e3L u1035.2.2.2.2.2.2.2.2.1 tL u1035.2.2.2.2.2.2.2.2.2.1 u1035.2.2.2.2.2.2.2.2.2.2.1 u1035.2.2.2.2.2.2.2.2.2.2.2.1 u1035.2.2.2.2.2.2.2.2.2.2.2.2.1 t2L u1035.2.2.2.2.2.2.2.2.2.2.2.2.2 kL fL (x2 + 1) (by omega) (by omega) hf
                · have hf := x_f h1040 hf
                  refine x_aload_n C dL_law_87 rfl 2 rfl ?_
                  refine x_bipush (v := 102) C dL_law_88 (by decide) ?_
                  refine x_iload_n C dL_law_90 rfl 4 rfl ?_
                  refine x_iadd C dL_law_91 ?_
                  refine x_iconst (v := 5) C dL_law_92 (by decide) ?_
                  obtain ⟨u1041, hu1041, hf⟩ := x_b hf
                  refine x_callS (n := 3) (As := [.ref (g.2.2 6), .int ((102 : Int32) + x2), .int (5 : Int32)]) (rest := []) C (c_Q_in g l hl L xs hLg hxg ((102 : Int32) + x2) (5 : Int32) hu1041) ⟨⟨wd_794, wd_792, wd_24⟩, ⟨by decide, by decide, by decide⟩, rfl, rfl, Nat.le_of_ble_eq_true rfl, Nat.le_of_ble_eq_true rfl⟩ wd_793 [ccO g n2 n3 n4 u1035.2.1, stO g n2 10 u1035.2.2.1, cdW g n2 10 u1035.2.2.2.1, evW g n2 10 u1035.2.2.2.2.1, stO g n2 20 u1036.2.1, cdW g n2 20 u1036.2.2.1, evW g n2 20 u1036.2.2.2, hiO g n2 u1035.2.2.2.2.2.2.2.2.1, hrW g n2 tL, stF g n2 u1035.2.2.2.2.2.2.2.2.2.1, cdF g n2 u1035.2.2.2.2.2.2.2.2.2.2.1, evF g n2 u1035.2.2.2.2.2.2.2.2.2.2.2.1, prO g n3 u1035.2.2.2.2.2.2.2.2.2.2.2.2.1, caW g n3 t2L, cmF g n3 u1035.2.2.2.2.2.2.2.2.2.2.2.2.2, iaW g n1034 130 u1033, stO g n2 30 v3L, cdW g n2 30 c3L, evW g n2 30 e3L, sbO g n4 n5 kL, baW g n5 16 fL] (x_pickD [0, 1, 2, 3, 4, 5, 6, 7, 8, 9, 10, 11, 12, 13, 14, 15, 16, 17, 18, 19, 20] 21 rfl rfl rfl) rfl rfl (Nat.le_of_ble_eq_true rfl) ⟨by show _ ≤ 600390; omega, by show _ ≤ 7289640; omega⟩ dL_law_93 (x_goD (wss2 := [ccO g n2 n3 n4 u1035.2.1, stO g n2 10 u1035.2.2.1, cdW g n2 10 u1035.2.2.2.1, evW g n2 10 u1035.2.2.2.2.1, stO g n2 20 u1036.2.1, cdW g n2 20 u1036.2.2.1, evW g n2 20 u1036.2.2.2, hiO g n2 u1035.2.2.2.2.2.2.2.2.1, hrW g n2 tL, stF g n2 u1035.2.2.2.2.2.2.2.2.2.1, cdF g n2 u1035.2.2.2.2.2.2.2.2.2.2.1, evF g n2 u1035.2.2.2.2.2.2.2.2.2.2.2.1, prO g n3 u1035.2.2.2.2.2.2.2.2.2.2.2.2.1, caW g n3 t2L, cmF g n3 u1035.2.2.2.2.2.2.2.2.2.2.2.2.2, iaW g n1034 130 u1033, stO g n2 30 v3L, cdW g n2 30 c3L, evW g n2 30 e3L, sbO g n4 n5 kL, baW g n5 16 fL]) (stk2 := [.int u1041]) rfl rfl ?_)
                  refine x_if_ne (tgt := 119) C dL_law_96 (by decide) (fun h1042 => ?_) (fun h1042 => ?_)
                  · have hf := x_f h1042 hf
                    refine x_iinc (v := x2 + 1) (lv' := [(2, .int (x2 + 1)), (4, .int u1035.1), (3, .ref n1034), (0, .ref (g.2.2 6)), (1, .ref (n2 0))]) C dL_law_119 4 rfl rfl (by decide) rfl ?_
                    refine x_goto (tgt := 20) C dL_law_122 (by decide) ?_
                    refine x_dropE (wss' := [ccO g n2 n3 n4 u1035.2.1, stO g n2 10 u1035.2.2.1, cdW g n2 10 u1035.2.2.2.1, evW g n2 10 u1035.2.2.2.2.1, stO g n2 20 u1036.2.1, cdW g n2 20 u1036.2.2.1, evW g n2 20 u1036.2.2.2, stO g n2 30 v3L, cdW g n2 30 c3L, evW g n2 30 e3L, hiO g n2 u1035.2.2.2.2.2.2.2.2.1, hrW g n2 tL, stF g n2 u1035.2.2.2.2.2.2.2.2.2.1, cdF g n2 u1035.2.2.2.2.2.2.2.2.2.2.1, evF g n2 u1035.2.2.2.2.2.2.2.2.2.2.2.1, prO g n3 u1035.2.2.2.2.2.2.2.2.2.2.2.2.1, caW g n3 t2L, cmF g n3 u1035.2.2.2.2.2.2.2.2.2.2.2.2.2, sbO g n4 n5 kL, baW g n5 16 fL]) [iaW g n1034 130 u1033] (x_pickD [0, 1, 2, 3, 4, 5, 6, 16, 17, 18, 7, 8, 9, 10, 11, 12, 13, 14, 19, 20, 15] 21 rfl rfl rfl) ?_
                    refine x_locals (lv' := [(0, .ref (g.2.2 6)), (1, .ref (n2 0)), (2, .int (x2 + 1))]) [3, 4, 0] rfl ?_
                    refine x_widen (k := kW + 1309) (n := tW + 11362) (by omega) (by omega) ?_
                    exact ih (kW + 1309) (tW + 11362) u1035.2.1 u1035.2.2.1 u1035.2.2.2.1 u1035.2.2.2.2.1 u1036.2.1 u1036.2.2.1 u1036.2.2.2 v3L c3L e3L u1035.2.2.2.2.2.2.2.2.1 tL u1035.2.2.2.2.2.2.2.2.2.1 u1035.2.2.2.2.2.2.2.2.2.2.1 u1035.2.2.2.2.2.2.2.2.2.2.2.1 u1035.2.2.2.2.2.2.2.2.2.2.2.2.1 t2L u1035.2.2.2.2.2.2.2.2.2.2.2.2.2 kL fL (x2 + 1) (by omega) (by omega) hf
                  · have hf := x_t h1042 hf
                    refine x_aload_n C dL_law_99 rfl 3 rfl ?_
                    obtain ⟨u1043, hu1043, hf⟩ := x_b hf
                    refine x_hcallS (n := 1) (As := [.ref (n2 0)]) (rest := []) C (c_Q_undo g l hl n2 n3 n4 u1035.2.1 u1035.2.2.1 u1035.2.2.2.1 u1035.2.2.2.2.1 u1035.2.2.2.2.2.2.2.2.1 tL u1035.2.2.2.2.2.2.2.2.2.1 u1035.2.2.2.2.2.2.2.2.2.2.1 u1035.2.2.2.2.2.2.2.2.2.2.2.1 hu1043) ⟨⟨wd_770, wd_768, wd_24⟩, ⟨by decide, by decide, by decide⟩, rfl, rfl, Nat.le_of_ble_eq_true rfl, Nat.le_of_ble_eq_true rfl⟩ wd_769 [stO g n2 20 u1036.2.1, cdW g n2 20 u1036.2.2.1, evW g n2 20 u1036.2.2.2, prO g n3 u1035.2.2.2.2.2.2.2.2.2.2.2.2.1, caW g n3 t2L, cmF g n3 u1035.2.2.2.2.2.2.2.2.2.2.2.2.2, iaW g n1034 130 u1033, stO g n2 30 v3L, cdW g n2 30 c3L, evW g n2 30 e3L, sbO g n4 n5 kL, baW g n5 16 fL] (x_pickD [0, 1, 2, 3, 7, 8, 9, 10, 11, 4, 5, 6, 12, 13, 14, 15, 16, 17, 18, 19, 20] 21 rfl rfl rfl) rfl rfl (Nat.le_of_ble_eq_true rfl) ⟨by show _ ≤ 600390; omega, by show _ ≤ 7289640; omega⟩ dL_law_100 (fun v9 w9 hQ9 => ?_)
                    obtain ⟨rfl, rfl⟩ := hQ9
                    refine x_goW (wss2 := [ccO g n2 n3 n4 u1035.2.1, stO g n2 10 u1043.2.1, cdW g n2 10 u1043.2.2.1, evW g n2 10 u1043.2.2.2.1, hiO g n2 u1043.2.2.2.2, hrW g n2 tL, stF g n2 u1035.2.2.2.2.2.2.2.2.2.1, cdF g n2 u1035.2.2.2.2.2.2.2.2.2.2.1, evF g n2 u1035.2.2.2.2.2.2.2.2.2.2.2.1, stO g n2 20 u1036.2.1, cdW g n2 20 u1036.2.2.1, evW g n2 20 u1036.2.2.2, prO g n3 u1035.2.2.2.2.2.2.2.2.2.2.2.2.1, caW g n3 t2L, cmF g n3 u1035.2.2.2.2.2.2.2.2.2.2.2.2.2, iaW g n1034 130 u1033, stO g n2 30 v3L, cdW g n2 30 c3L, evW g n2 30 e3L, sbO g n4 n5 kL, baW g n5 16 fL]) (stk2 := [.int u1043.1]) rfl rfl rfl ?_
                    refine x_if_lt (tgt := 117) C dL_law_103 (by decide) (fun h1044 => ?_) (fun h1044 => ?_)
                    · have hf := x_t h1044 hf
                      cases hf
                    · have hf := x_f h1044 hf
                      refine x_aload_n C dL_law_106 rfl 1 rfl ?_
                      refine x_aload_n C dL_law_107 rfl 3 rfl ?_
                      obtain ⟨u1045, hu1045, hf⟩ := x_b hf
                      refine x_callS (n := 1) (As := [.ref (n2 0)]) (rest := [.ref n1034]) C (c_Q_seen g l hl n2 n3 n4 u1035.2.1 u1043.2.1 u1043.2.2.1 u1043.2.2.2.1 hu1045) ⟨⟨wd_1253, wd_1251, wd_24⟩, ⟨by decide, by decide, by decide⟩, rfl, rfl, Nat.le_of_ble_eq_true rfl, Nat.le_of_ble_eq_true rfl⟩ wd_1252 [hiO g n2 u1043.2.2.2.2, hrW g n2 tL, stF g n2 u1035.2.2.2.2.2.2.2.2.2.1, cdF g n2 u1035.2.2.2.2.2.2.2.2.2.2.1, evF g n2 u1035.2.2.2.2.2.2.2.2.2.2.2.1, stO g n2 20 u1036.2.1, cdW g n2 20 u1036.2.2.1, evW g n2 20 u1036.2.2.2, prO g n3 u1035.2.2.2.2.2.2.2.2.2.2.2.2.1, caW g n3 t2L, cmF g n3 u1035.2.2.2.2.2.2.2.2.2.2.2.2.2, iaW g n1034 130 u1033, stO g n2 30 v3L, cdW g n2 30 c3L, evW g n2 30 e3L, sbO g n4 n5 kL, baW g n5 16 fL] (x_pickD [0, 1, 2, 3, 4, 5, 6, 7, 8, 9, 10, 11, 12, 13, 14, 15, 16, 17, 18, 19, 20] 21 rfl rfl rfl) rfl rfl (Nat.le_of_ble_eq_true rfl) ⟨by show _ ≤ 600390; omega, by show _ ≤ 7289640; omega⟩ dL_law_108 (fun v9 w9 hQ9 => ?_)
                      obtain ⟨n1046, rfl, rfl⟩ := hQ9
                      refine x_goW (wss2 := [ccO g n2 n3 n4 u1035.2.1, stO g n2 10 u1043.2.1, cdW g n2 10 u1043.2.2.1, evW g n2 10 u1043.2.2.2.1, iaW g n1046 130 u1045, hiO g n2 u1043.2.2.2.2, hrW g n2 tL, stF g n2 u1035.2.2.2.2.2.2.2.2.2.1, cdF g n2 u1035.2.2.2.2.2.2.2.2.2.2.1, evF g n2 u1035.2.2.2.2.2.2.2.2.2.2.2.1, stO g n2 20 u1036.2.1, cdW g n2 20 u1036.2.2.1, evW g n2 20 u1036.2.2.2, prO g n3 u1035.2.2.2.2.2.2.2.2.2.2.2.2.1, caW g n3 t2L, cmF g n3 u1035.2.2.2.2.2.2.2.2.2.2.2.2.2, iaW g n1034 130 u1033, stO g n2 30 v3L, cdW g n2 30 c3L, evW g n2 30 e3L, sbO g n4 n5 kL, baW g n5 16 fL]) (stk2 := [.ref n1046, .ref n1034]) rfl rfl rfl ?_
                      obtain ⟨u1047, hu1047, hf⟩ := x_b hf
                      refine x_callS (n := 2) (As := [.ref n1034, .ref n1046]) (rest := []) C (c_Q_areAlike g l hl n1034 n1046 u1033 u1045 hu1047) ⟨⟨wd_1316, wd_1314, wd_24⟩, ⟨by decide, by decide, by decide⟩, rfl, rfl, Nat.le_of_ble_eq_true rfl, Nat.le_of_ble_eq_true rfl⟩ wd_1315 [ccO g n2 n3 n4 u1035.2.1, stO g n2 10 u1043.2.1, cdW g n2 10 u1043.2.2.1, evW g n2 10 u1043.2.2.2.1, hiO g n2 u1043.2.2.2.2, hrW g n2 tL, stF g n2 u1035.2.2.2.2.2.2.2.2.2.1, cdF g n2 u1035.2.2.2.2.2.2.2.2.2.2.1, evF g n2 u1035.2.2.2.2.2.2.2.2.2.2.2.1, stO g n2 20 u1036.2.1, cdW g n2 20 u1036.2.2.1, evW g n2 20 u1036.2.2.2, prO g n3 u1035.2.2.2.2.2.2.2.2.2.2.2.2.1, caW g n3 t2L, cmF g n3 u1035.2.2.2.2.2.2.2.2.2.2.2.2.2, stO g n2 30 v3L, cdW g n2 30 c3L, evW g n2 30 e3L, sbO g n4 n5 kL, baW g n5 16 fL] (x_pickD [16, 4, 0, 1, 2, 3, 5, 6, 7, 8, 9, 10, 11, 12, 13, 14, 15, 17, 18, 19, 20, 21] 22 rfl rfl rfl) rfl rfl (Nat.le_of_ble_eq_true rfl) ⟨by show _ ≤ 600390; omega, by show _ ≤ 7289640; omega⟩ dL_law_111 (x_goD (wss2 := [iaW g n1034 130 u1033, iaW g n1046 130 u1045, ccO g n2 n3 n4 u1035.2.1, stO g n2 10 u1043.2.1, cdW g n2 10 u1043.2.2.1, evW g n2 10 u1043.2.2.2.1, hiO g n2 u1043.2.2.2.2, hrW g n2 tL, stF g n2 u1035.2.2.2.2.2.2.2.2.2.1, cdF g n2 u1035.2.2.2.2.2.2.2.2.2.2.1, evF g n2 u1035.2.2.2.2.2.2.2.2.2.2.2.1, stO g n2 20 u1036.2.1, cdW g n2 20 u1036.2.2.1, evW g n2 20 u1036.2.2.2, prO g n3 u1035.2.2.2.2.2.2.2.2.2.2.2.2.1, caW g n3 t2L, cmF g n3 u1035.2.2.2.2.2.2.2.2.2.2.2.2.2, stO g n2 30 v3L, cdW g n2 30 c3L, evW g n2 30 e3L, sbO g n4 n5 kL, baW g n5 16 fL]) (stk2 := [.int u1047]) rfl rfl ?_)
                      refine x_if_ne (tgt := 119) C dL_law_114 (by decide) (fun h1048 => ?_) (fun h1048 => ?_)
                      · have hf := x_f h1048 hf
                        refine x_iinc (v := x2 + 1) (lv' := [(2, .int (x2 + 1)), (4, .int u1035.1), (3, .ref n1034), (0, .ref (g.2.2 6)), (1, .ref (n2 0))]) C dL_law_119 4 rfl rfl (by decide) rfl ?_
                        refine x_goto (tgt := 20) C dL_law_122 (by decide) ?_
                        refine x_dropE (wss' := [ccO g n2 n3 n4 u1035.2.1, stO g n2 10 u1043.2.1, cdW g n2 10 u1043.2.2.1, evW g n2 10 u1043.2.2.2.1, stO g n2 20 u1036.2.1, cdW g n2 20 u1036.2.2.1, evW g n2 20 u1036.2.2.2, stO g n2 30 v3L, cdW g n2 30 c3L, evW g n2 30 e3L, hiO g n2 u1043.2.2.2.2, hrW g n2 tL, stF g n2 u1035.2.2.2.2.2.2.2.2.2.1, cdF g n2 u1035.2.2.2.2.2.2.2.2.2.2.1, evF g n2 u1035.2.2.2.2.2.2.2.2.2.2.2.1, prO g n3 u1035.2.2.2.2.2.2.2.2.2.2.2.2.1, caW g n3 t2L, cmF g n3 u1035.2.2.2.2.2.2.2.2.2.2.2.2.2, sbO g n4 n5 kL, baW g n5 16 fL]) [iaW g n1034 130 u1033, iaW g n1046 130 u1045] (x_pickD [2, 3, 4, 5, 11, 12, 13, 17, 18, 19, 6, 7, 8, 9, 10, 14, 15, 16, 20, 21, 0, 1] 22 rfl rfl rfl) ?_
                        refine x_locals (lv' := [(0, .ref (g.2.2 6)), (1, .ref (n2 0)), (2, .int (x2 + 1))]) [3, 4, 0] rfl ?_
                        refine x_widen (k := kW + 1309) (n := tW + 11362) (by omega) (by omega) ?_
                        exact ih (kW + 1309) (tW + 11362) u1035.2.1 u1043.2.1 u1043.2.2.1 u1043.2.2.2.1 u1036.2.1 u1036.2.2.1 u1036.2.2.2 v3L c3L e3L u1043.2.2.2.2 tL u1035.2.2.2.2.2.2.2.2.2.1 u1035.2.2.2.2.2.2.2.2.2.2.1 u1035.2.2.2.2.2.2.2.2.2.2.2.1 u1035.2.2.2.2.2.2.2.2.2.2.2.2.1 t2L u1035.2.2.2.2.2.2.2.2.2.2.2.2.2 kL fL (x2 + 1) (by omega) (by omega) hf
                      · have hf := x_t h1048 hf
                        cases hf
              · have hf := x_f h1039 hf
                refine x_aload_n C dL_law_66 rfl 1 rfl ?_
                refine x_aload_n C dL_law_67 rfl 3 rfl ?_
                obtain ⟨u1049, hu1049, hf⟩ := x_b hf
                refine x_callS (n := 1) (As := [.ref (n2 0)]) (rest := [.ref n1034]) C (c_Q_seen g l hl n2 n3 n4 u1035.2.1 u1035.2.2.1 u1035.2.2.2.1 u1035.2.2.2.2.1 hu1049) ⟨⟨wd_1253, wd_1251, wd_24⟩, ⟨by decide, by decide, by decide⟩, rfl, rfl, Nat.le_of_ble_eq_true rfl, Nat.le_of_ble_eq_true rfl⟩ wd_1252 [stO g n2 20 u1036.2.1, cdW g n2 20 u1036.2.2.1, evW g n2 20 u1036.2.2.2, hiO g n2 u1035.2.2.2.2.2.2.2.2.1, hrW g n2 tL, stF g n2 u1035.2.2.2.2.2.2.2.2.2.1, cdF g n2 u1035.2.2.2.2.2.2.2.2.2.2.1, evF g n2 u1035.2.2.2.2.2.2.2.2.2.2.2.1, prO g n3 u1035.2.2.2.2.2.2.2.2.2.2.2.2.1, caW g n3 t2L, cmF g n3 u1035.2.2.2.2.2.2.2.2.2.2.2.2.2, iaW g n1034 130 u1033, stO g n2 30 v3L, cdW g n2 30 c3L, evW g n2 30 e3L, sbO g n4 n5 kL, baW g n5 16 fL] (x_pickD [0, 1, 2, 3, 4, 5, 6, 7, 8, 9, 10, 11, 12, 13, 14, 15, 16, 17, 18, 19, 20] 21 rfl rfl rfl) rfl rfl (Nat.le_of_ble_eq_true rfl) ⟨by show _ ≤ 600390; omega, by show _ ≤ 7289640; omega⟩ dL_law_68 (fun v9 w9 hQ9 => ?_)
                obtain ⟨n1050, rfl, rfl⟩ := hQ9
                refine x_goW (wss2 := [ccO g n2 n3 n4 u1035.2.1, stO g n2 10 u1035.2.2.1, cdW g n2 10 u1035.2.2.2.1, evW g n2 10 u1035.2.2.2.2.1, iaW g n1050 130 u1049, stO g n2 20 u1036.2.1, cdW g n2 20 u1036.2.2.1, evW g n2 20 u1036.2.2.2, hiO g n2 u1035.2.2.2.2.2.2.2.2.1, hrW g n2 tL, stF g n2 u1035.2.2.2.2.2.2.2.2.2.1, cdF g n2 u1035.2.2.2.2.2.2.2.2.2.2.1, evF g n2 u1035.2.2.2.2.2.2.2.2.2.2.2.1, prO g n3 u1035.2.2.2.2.2.2.2.2.2.2.2.2.1, caW g n3 t2L, cmF g n3 u1035.2.2.2.2.2.2.2.2.2.2.2.2.2, iaW g n1034 130 u1033, stO g n2 30 v3L, cdW g n2 30 c3L, evW g n2 30 e3L, sbO g n4 n5 kL, baW g n5 16 fL]) (stk2 := [.ref n1050, .ref n1034]) rfl rfl rfl ?_
                obtain ⟨u1051, hu1051, hf⟩ := x_b hf
                refine x_callS (n := 2) (As := [.ref n1034, .ref n1050]) (rest := []) C (c_Q_areAlike g l hl n1034 n1050 u1033 u1049 hu1051) ⟨⟨wd_1316, wd_1314, wd_24⟩, ⟨by decide, by decide, by decide⟩, rfl, rfl, Nat.le_of_ble_eq_true rfl, Nat.le_of_ble_eq_true rfl⟩ wd_1315 [ccO g n2 n3 n4 u1035.2.1, stO g n2 10 u1035.2.2.1, cdW g n2 10 u1035.2.2.2.1, evW g n2 10 u1035.2.2.2.2.1, stO g n2 20 u1036.2.1, cdW g n2 20 u1036.2.2.1, evW g n2 20 u1036.2.2.2, hiO g n2 u1035.2.2.2.2.2.2.2.2.1, hrW g n2 tL, stF g n2 u1035.2.2.2.2.2.2.2.2.2.1, cdF g n2 u1035.2.2.2.2.2.2.2.2.2.2.1, evF g n2 u1035.2.2.2.2.2.2.2.2.2.2.2.1, prO g n3 u1035.2.2.2.2.2.2.2.2.2.2.2.2.1, caW g n3 t2L, cmF g n3 u1035.2.2.2.2.2.2.2.2.2.2.2.2.2, stO g n2 30 v3L, cdW g n2 30 c3L, evW g n2 30 e3L, sbO g n4 n5 kL, baW g n5 16 fL] (x_pickD [16, 4, 0, 1, 2, 3, 5, 6, 7, 8, 9, 10, 11, 12, 13, 14, 15, 17, 18, 19, 20, 21] 22 rfl rfl rfl) rfl rfl (Nat.le_of_ble_eq_true rfl) ⟨by show _ ≤ 600390; omega, by show _ ≤ 7289640; omega⟩ dL_law_71 (x_goD (wss2 := [iaW g n1034 130 u1033, iaW g n1050 130 u1049, ccO g n2 n3 n4 u1035.2.1, stO g n2 10 u1035.2.2.1, cdW g n2 10 u1035.2.2.2.1, evW g n2 10 u1035.2.2.2.2.1, stO g n2 20 u1036.2.1, cdW g n2 20 u1036.2.2.1, evW g n2 20 u1036.2.2.2, hiO g n2 u1035.2.2.2.2.2.2.2.2.1, hrW g n2 tL, stF g n2 u1035.2.2.2.2.2.2.2.2.2.1, cdF g n2 u1035.2.2.2.2.2.2.2.2.2.2.1, evF g n2 u1035.2.2.2.2.2.2.2.2.2.2.2.1, prO g n3 u1035.2.2.2.2.2.2.2.2.2.2.2.2.1, caW g n3 t2L, cmF g n3 u1035.2.2.2.2.2.2.2.2.2.2.2.2.2, stO g n2 30 v3L, cdW g n2 30 c3L, evW g n2 30 e3L, sbO g n4 n5 kL, baW g n5 16 fL]) (stk2 := [.int u1051]) rfl rfl ?_)
                refine x_if_ne (tgt := 79) C dL_law_74 (by decide) (fun h1052 => ?_) (fun h1052 => ?_)
                · have hf := x_f h1052 hf
                  refine x_iload C dL_law_79 0 rfl ?_
                  refine x_ldcw C wd_1383 dL_law_81 ?_
                  refine x_icmp_le (tgt := 119) C dL_law_84 (by decide) (fun h1053 => ?_) (fun h1053 => ?_)
                  · have hf := x_t h1053 hf
                    refine x_iinc (v := x2 + 1) (lv' := [(2, .int (x2 + 1)), (4, .int u1035.1), (3, .ref n1034), (0, .ref (g.2.2 6)), (1, .ref (n2 0))]) C dL_law_119 4 rfl rfl (by decide) rfl ?_
                    refine x_goto (tgt := 20) C dL_law_122 (by decide) ?_
                    refine x_dropE (wss' := [ccO g n2 n3 n4 u1035.2.1, stO g n2 10 u1035.2.2.1, cdW g n2 10 u1035.2.2.2.1, evW g n2 10 u1035.2.2.2.2.1, stO g n2 20 u1036.2.1, cdW g n2 20 u1036.2.2.1, evW g n2 20 u1036.2.2.2, stO g n2 30 v3L, cdW g n2 30 c3L, evW g n2 30 e3L, hiO g n2 u1035.2.2.2.2.2.2.2.2.1, hrW g n2 tL, stF g n2 u1035.2.2.2.2.2.2.2.2.2.1, cdF g n2 u1035.2.2.2.2.2.2.2.2.2.2.1, evF g n2 u1035.2.2.2.2.2.2.2.2.2.2.2.1, prO g n3 u1035.2.2.2.2.2.2.2.2.2.2.2.2.1, caW g n3 t2L, cmF g n3 u1035.2.2.2.2.2.2.2.2.2.2.2.2.2, sbO g n4 n5 kL, baW g n5 16 fL]) [iaW g n1034 130 u1033, iaW g n1050 130 u1049] (x_pickD [2, 3, 4, 5, 6, 7, 8, 17, 18, 19, 9, 10, 11, 12, 13, 14, 15, 16, 20, 21, 0, 1] 22 rfl rfl rfl) ?_
                    refine x_locals (lv' := [(0, .ref (g.2.2 6)), (1, .ref (n2 0)), (2, .int (x2 + 1))]) [3, 4, 0] rfl ?_
                    refine x_widen (k := kW + 1309) (n := tW + 11362) (by omega) (by omega) ?_
                    exact ih (kW + 1309) (tW + 11362) u1035.2.1 u1035.2.2.1 u1035.2.2.2.1 u1035.2.2.2.2.1 u1036.2.1 u1036.2.2.1 u1036.2.2.2 v3L c3L e3L u1035.2.2.2.2.2.2.2.2.1 tL u1035.2.2.2.2.2.2.2.2.2.1 u1035.2.2.2.2.2.2.2.2.2.2.1 u1035.2.2.2.2.2.2.2.2.2.2.2.1 u1035.2.2.2.2.2.2.2.2.2.2.2.2.1 t2L u1035.2.2.2.2.2.2.2.2.2.2.2.2.2 kL fL (x2 + 1) (by omega) (by omega) hf
                  · have hf := x_f h1053 hf
                    refine x_aload_n C dL_law_87 rfl 2 rfl ?_
                    refine x_bipush (v := 102) C dL_law_88 (by decide) ?_
                    refine x_iload_n C dL_law_90 rfl 4 rfl ?_
                    refine x_iadd C dL_law_91 ?_
                    refine x_iconst (v := 5) C dL_law_92 (by decide) ?_
                    obtain ⟨u1054, hu1054, hf⟩ := x_b hf
                    refine x_callS (n := 3) (As := [.ref (g.2.2 6), .int ((102 : Int32) + x2), .int (5 : Int32)]) (rest := []) C (c_Q_in g l hl L xs hLg hxg ((102 : Int32) + x2) (5 : Int32) hu1054) ⟨⟨wd_794, wd_792, wd_24⟩, ⟨by decide, by decide, by decide⟩, rfl, rfl, Nat.le_of_ble_eq_true rfl, Nat.le_of_ble_eq_true rfl⟩ wd_793 [iaW g n1034 130 u1033, iaW g n1050 130 u1049, ccO g n2 n3 n4 u1035.2.1, stO g n2 10 u1035.2.2.1, cdW g n2 10 u1035.2.2.2.1, evW g n2 10 u1035.2.2.2.2.1, stO g n2 20 u1036.2.1, cdW g n2 20 u1036.2.2.1, evW g n2 20 u1036.2.2.2, hiO g n2 u1035.2.2.2.2.2.2.2.2.1, hrW g n2 tL, stF g n2 u1035.2.2.2.2.2.2.2.2.2.1, cdF g n2 u1035.2.2.2.2.2.2.2.2.2.2.1, evF g n2 u1035.2.2.2.2.2.2.2.2.2.2.2.1, prO g n3 u1035.2.2.2.2.2.2.2.2.2.2.2.2.1, caW g n3 t2L, cmF g n3 u1035.2.2.2.2.2.2.2.2.2.2.2.2.2, stO g n2 30 v3L, cdW g n2 30 c3L, evW g n2 30 e3L, sbO g n4 n5 kL, baW g n5 16 fL] (x_pickD [0, 1, 2, 3, 4, 5, 6, 7, 8, 9, 10, 11, 12, 13, 14, 15, 16, 17, 18, 19, 20, 21] 22 rfl rfl rfl) rfl rfl (Nat.le_of_ble_eq_true rfl) ⟨by show _ ≤ 600390; omega, by show _ ≤ 7289640; omega⟩ dL_law_93 (x_goD (wss2 := [iaW g n1034 130 u1033, iaW g n1050 130 u1049, ccO g n2 n3 n4 u1035.2.1, stO g n2 10 u1035.2.2.1, cdW g n2 10 u1035.2.2.2.1, evW g n2 10 u1035.2.2.2.2.1, stO g n2 20 u1036.2.1, cdW g n2 20 u1036.2.2.1, evW g n2 20 u1036.2.2.2, hiO g n2 u1035.2.2.2.2.2.2.2.2.1, hrW g n2 tL, stF g n2 u1035.2.2.2.2.2.2.2.2.2.1, cdF g n2 u1035.2.2.2.2.2.2.2.2.2.2.1, evF g n2 u1035.2.2.2.2.2.2.2.2.2.2.2.1, prO g n3 u1035.2.2.2.2.2.2.2.2.2.2.2.2.1, caW g n3 t2L, cmF g n3 u1035.2.2.2.2.2.2.2.2.2.2.2.2.2, stO g n2 30 v3L, cdW g n2 30 c3L, evW g n2 30 e3L, sbO g n4 n5 kL, baW g n5 16 fL]) (stk2 := [.int u1054]) rfl rfl ?_)
                    refine x_if_ne (tgt := 119) C dL_law_96 (by decide) (fun h1055 => ?_) (fun h1055 => ?_)
                    · have hf := x_f h1055 hf
                      refine x_iinc (v := x2 + 1) (lv' := [(2, .int (x2 + 1)), (4, .int u1035.1), (3, .ref n1034), (0, .ref (g.2.2 6)), (1, .ref (n2 0))]) C dL_law_119 4 rfl rfl (by decide) rfl ?_
                      refine x_goto (tgt := 20) C dL_law_122 (by decide) ?_
                      refine x_dropE (wss' := [ccO g n2 n3 n4 u1035.2.1, stO g n2 10 u1035.2.2.1, cdW g n2 10 u1035.2.2.2.1, evW g n2 10 u1035.2.2.2.2.1, stO g n2 20 u1036.2.1, cdW g n2 20 u1036.2.2.1, evW g n2 20 u1036.2.2.2, stO g n2 30 v3L, cdW g n2 30 c3L, evW g n2 30 e3L, hiO g n2 u1035.2.2.2.2.2.2.2.2.1, hrW g n2 tL, stF g n2 u1035.2.2.2.2.2.2.2.2.2.1, cdF g n2 u1035.2.2.2.2.2.2.2.2.2.2.1, evF g n2 u1035.2.2.2.2.2.2.2.2.2.2.2.1, prO g n3 u1035.2.2.2.2.2.2.2.2.2.2.2.2.1, caW g n3 t2L, cmF g n3 u1035.2.2.2.2.2.2.2.2.2.2.2.2.2, sbO g n4 n5 kL, baW g n5 16 fL]) [iaW g n1034 130 u1033, iaW g n1050 130 u1049] (x_pickD [2, 3, 4, 5, 6, 7, 8, 17, 18, 19, 9, 10, 11, 12, 13, 14, 15, 16, 20, 21, 0, 1] 22 rfl rfl rfl) ?_
                      refine x_locals (lv' := [(0, .ref (g.2.2 6)), (1, .ref (n2 0)), (2, .int (x2 + 1))]) [3, 4, 0] rfl ?_
                      refine x_widen (k := kW + 1309) (n := tW + 11362) (by omega) (by omega) ?_
                      exact ih (kW + 1309) (tW + 11362) u1035.2.1 u1035.2.2.1 u1035.2.2.2.1 u1035.2.2.2.2.1 u1036.2.1 u1036.2.2.1 u1036.2.2.2 v3L c3L e3L u1035.2.2.2.2.2.2.2.2.1 tL u1035.2.2.2.2.2.2.2.2.2.1 u1035.2.2.2.2.2.2.2.2.2.2.1 u1035.2.2.2.2.2.2.2.2.2.2.2.1 u1035.2.2.2.2.2.2.2.2.2.2.2.2.1 t2L u1035.2.2.2.2.2.2.2.2.2.2.2.2.2 kL fL (x2 + 1) (by omega) (by omega) hf
                    · have hf := x_t h1055 hf
                      refine x_aload_n C dL_law_99 rfl 3 rfl ?_
                      obtain ⟨u1056, hu1056, hf⟩ := x_b hf
                      refine x_hcallS (n := 1) (As := [.ref (n2 0)]) (rest := []) C (c_Q_undo g l hl n2 n3 n4 u1035.2.1 u1035.2.2.1 u1035.2.2.2.1 u1035.2.2.2.2.1 u1035.2.2.2.2.2.2.2.2.1 tL u1035.2.2.2.2.2.2.2.2.2.1 u1035.2.2.2.2.2.2.2.2.2.2.1 u1035.2.2.2.2.2.2.2.2.2.2.2.1 hu1056) ⟨⟨wd_770, wd_768, wd_24⟩, ⟨by decide, by decide, by decide⟩, rfl, rfl, Nat.le_of_ble_eq_true rfl, Nat.le_of_ble_eq_true rfl⟩ wd_769 [iaW g n1034 130 u1033, iaW g n1050 130 u1049, stO g n2 20 u1036.2.1, cdW g n2 20 u1036.2.2.1, evW g n2 20 u1036.2.2.2, prO g n3 u1035.2.2.2.2.2.2.2.2.2.2.2.2.1, caW g n3 t2L, cmF g n3 u1035.2.2.2.2.2.2.2.2.2.2.2.2.2, stO g n2 30 v3L, cdW g n2 30 c3L, evW g n2 30 e3L, sbO g n4 n5 kL, baW g n5 16 fL] (x_pickD [2, 3, 4, 5, 9, 10, 11, 12, 13, 0, 1, 6, 7, 8, 14, 15, 16, 17, 18, 19, 20, 21] 22 rfl rfl rfl) rfl rfl (Nat.le_of_ble_eq_true rfl) ⟨by show _ ≤ 600390; omega, by show _ ≤ 7289640; omega⟩ dL_law_100 (fun v9 w9 hQ9 => ?_)
                      obtain ⟨rfl, rfl⟩ := hQ9
                      refine x_goW (wss2 := [ccO g n2 n3 n4 u1035.2.1, stO g n2 10 u1056.2.1, cdW g n2 10 u1056.2.2.1, evW g n2 10 u1056.2.2.2.1, hiO g n2 u1056.2.2.2.2, hrW g n2 tL, stF g n2 u1035.2.2.2.2.2.2.2.2.2.1, cdF g n2 u1035.2.2.2.2.2.2.2.2.2.2.1, evF g n2 u1035.2.2.2.2.2.2.2.2.2.2.2.1, iaW g n1034 130 u1033, iaW g n1050 130 u1049, stO g n2 20 u1036.2.1, cdW g n2 20 u1036.2.2.1, evW g n2 20 u1036.2.2.2, prO g n3 u1035.2.2.2.2.2.2.2.2.2.2.2.2.1, caW g n3 t2L, cmF g n3 u1035.2.2.2.2.2.2.2.2.2.2.2.2.2, stO g n2 30 v3L, cdW g n2 30 c3L, evW g n2 30 e3L, sbO g n4 n5 kL, baW g n5 16 fL]) (stk2 := [.int u1056.1]) rfl rfl rfl ?_
                      refine x_if_lt (tgt := 117) C dL_law_103 (by decide) (fun h1057 => ?_) (fun h1057 => ?_)
                      · have hf := x_t h1057 hf
                        cases hf
                      · have hf := x_f h1057 hf
                        refine x_aload_n C dL_law_106 rfl 1 rfl ?_
                        refine x_aload_n C dL_law_107 rfl 3 rfl ?_
                        obtain ⟨u1058, hu1058, hf⟩ := x_b hf
                        refine x_callS (n := 1) (As := [.ref (n2 0)]) (rest := [.ref n1034]) C (c_Q_seen g l hl n2 n3 n4 u1035.2.1 u1056.2.1 u1056.2.2.1 u1056.2.2.2.1 hu1058) ⟨⟨wd_1253, wd_1251, wd_24⟩, ⟨by decide, by decide, by decide⟩, rfl, rfl, Nat.le_of_ble_eq_true rfl, Nat.le_of_ble_eq_true rfl⟩ wd_1252 [hiO g n2 u1056.2.2.2.2, hrW g n2 tL, stF g n2 u1035.2.2.2.2.2.2.2.2.2.1, cdF g n2 u1035.2.2.2.2.2.2.2.2.2.2.1, evF g n2 u1035.2.2.2.2.2.2.2.2.2.2.2.1, iaW g n1034 130 u1033, iaW g n1050 130 u1049, stO g n2 20 u1036.2.1, cdW g n2 20 u1036.2.2.1, evW g n2 20 u1036.2.2.2, prO g n3 u1035.2.2.2.2.2.2.2.2.2.2.2.2.1, caW g n3 t2L, cmF g n3 u1035.2.2.2.2.2.2.2.2.2.2.2.2.2, stO g n2 30 v3L, cdW g n2 30 c3L, evW g n2 30 e3L, sbO g n4 n5 kL, baW g n5 16 fL] (x_pickD [0, 1, 2, 3, 4, 5, 6, 7, 8, 9, 10, 11, 12, 13, 14, 15, 16, 17, 18, 19, 20, 21] 22 rfl rfl rfl) rfl rfl (Nat.le_of_ble_eq_true rfl) ⟨by show _ ≤ 600390; omega, by show _ ≤ 7289640; omega⟩ dL_law_108 (fun v9 w9 hQ9 => ?_)
                        obtain ⟨n1059, rfl, rfl⟩ := hQ9
                        refine x_goW (wss2 := [ccO g n2 n3 n4 u1035.2.1, stO g n2 10 u1056.2.1, cdW g n2 10 u1056.2.2.1, evW g n2 10 u1056.2.2.2.1, iaW g n1059 130 u1058, hiO g n2 u1056.2.2.2.2, hrW g n2 tL, stF g n2 u1035.2.2.2.2.2.2.2.2.2.1, cdF g n2 u1035.2.2.2.2.2.2.2.2.2.2.1, evF g n2 u1035.2.2.2.2.2.2.2.2.2.2.2.1, iaW g n1034 130 u1033, iaW g n1050 130 u1049, stO g n2 20 u1036.2.1, cdW g n2 20 u1036.2.2.1, evW g n2 20 u1036.2.2.2, prO g n3 u1035.2.2.2.2.2.2.2.2.2.2.2.2.1, caW g n3 t2L, cmF g n3 u1035.2.2.2.2.2.2.2.2.2.2.2.2.2, stO g n2 30 v3L, cdW g n2 30 c3L, evW g n2 30 e3L, sbO g n4 n5 kL, baW g n5 16 fL]) (stk2 := [.ref n1059, .ref n1034]) rfl rfl rfl ?_
                        obtain ⟨u1060, hu1060, hf⟩ := x_b hf
                        refine x_callS (n := 2) (As := [.ref n1034, .ref n1059]) (rest := []) C (c_Q_areAlike g l hl n1034 n1059 u1033 u1058 hu1060) ⟨⟨wd_1316, wd_1314, wd_24⟩, ⟨by decide, by decide, by decide⟩, rfl, rfl, Nat.le_of_ble_eq_true rfl, Nat.le_of_ble_eq_true rfl⟩ wd_1315 [ccO g n2 n3 n4 u1035.2.1, stO g n2 10 u1056.2.1, cdW g n2 10 u1056.2.2.1, evW g n2 10 u1056.2.2.2.1, hiO g n2 u1056.2.2.2.2, hrW g n2 tL, stF g n2 u1035.2.2.2.2.2.2.2.2.2.1, cdF g n2 u1035.2.2.2.2.2.2.2.2.2.2.1, evF g n2 u1035.2.2.2.2.2.2.2.2.2.2.2.1, iaW g n1050 130 u1049, stO g n2 20 u1036.2.1, cdW g n2 20 u1036.2.2.1, evW g n2 20 u1036.2.2.2, prO g n3 u1035.2.2.2.2.2.2.2.2.2.2.2.2.1, caW g n3 t2L, cmF g n3 u1035.2.2.2.2.2.2.2.2.2.2.2.2.2, stO g n2 30 v3L, cdW g n2 30 c3L, evW g n2 30 e3L, sbO g n4 n5 kL, baW g n5 16 fL] (x_pickD [10, 4, 0, 1, 2, 3, 5, 6, 7, 8, 9, 11, 12, 13, 14, 15, 16, 17, 18, 19, 20, 21, 22] 23 rfl rfl rfl) rfl rfl (Nat.le_of_ble_eq_true rfl) ⟨by show _ ≤ 600390; omega, by show _ ≤ 7289640; omega⟩ dL_law_111 (x_goD (wss2 := [iaW g n1034 130 u1033, iaW g n1059 130 u1058, ccO g n2 n3 n4 u1035.2.1, stO g n2 10 u1056.2.1, cdW g n2 10 u1056.2.2.1, evW g n2 10 u1056.2.2.2.1, hiO g n2 u1056.2.2.2.2, hrW g n2 tL, stF g n2 u1035.2.2.2.2.2.2.2.2.2.1, cdF g n2 u1035.2.2.2.2.2.2.2.2.2.2.1, evF g n2 u1035.2.2.2.2.2.2.2.2.2.2.2.1, iaW g n1050 130 u1049, stO g n2 20 u1036.2.1, cdW g n2 20 u1036.2.2.1, evW g n2 20 u1036.2.2.2, prO g n3 u1035.2.2.2.2.2.2.2.2.2.2.2.2.1, caW g n3 t2L, cmF g n3 u1035.2.2.2.2.2.2.2.2.2.2.2.2.2, stO g n2 30 v3L, cdW g n2 30 c3L, evW g n2 30 e3L, sbO g n4 n5 kL, baW g n5 16 fL]) (stk2 := [.int u1060]) rfl rfl ?_)
                        refine x_if_ne (tgt := 119) C dL_law_114 (by decide) (fun h1061 => ?_) (fun h1061 => ?_)
                        · have hf := x_f h1061 hf
                          refine x_iinc (v := x2 + 1) (lv' := [(2, .int (x2 + 1)), (4, .int u1035.1), (3, .ref n1034), (0, .ref (g.2.2 6)), (1, .ref (n2 0))]) C dL_law_119 4 rfl rfl (by decide) rfl ?_
                          refine x_goto (tgt := 20) C dL_law_122 (by decide) ?_
                          refine x_dropE (wss' := [ccO g n2 n3 n4 u1035.2.1, stO g n2 10 u1056.2.1, cdW g n2 10 u1056.2.2.1, evW g n2 10 u1056.2.2.2.1, stO g n2 20 u1036.2.1, cdW g n2 20 u1036.2.2.1, evW g n2 20 u1036.2.2.2, stO g n2 30 v3L, cdW g n2 30 c3L, evW g n2 30 e3L, hiO g n2 u1056.2.2.2.2, hrW g n2 tL, stF g n2 u1035.2.2.2.2.2.2.2.2.2.1, cdF g n2 u1035.2.2.2.2.2.2.2.2.2.2.1, evF g n2 u1035.2.2.2.2.2.2.2.2.2.2.2.1, prO g n3 u1035.2.2.2.2.2.2.2.2.2.2.2.2.1, caW g n3 t2L, cmF g n3 u1035.2.2.2.2.2.2.2.2.2.2.2.2.2, sbO g n4 n5 kL, baW g n5 16 fL]) [iaW g n1034 130 u1033, iaW g n1059 130 u1058, iaW g n1050 130 u1049] (x_pickD [2, 3, 4, 5, 12, 13, 14, 18, 19, 20, 6, 7, 8, 9, 10, 15, 16, 17, 21, 22, 0, 1, 11] 23 rfl rfl rfl) ?_
                          refine x_locals (lv' := [(0, .ref (g.2.2 6)), (1, .ref (n2 0)), (2, .int (x2 + 1))]) [3, 4, 0] rfl ?_
                          refine x_widen (k := kW + 1309) (n := tW + 11362) (by omega) (by omega) ?_
                          exact ih (kW + 1309) (tW + 11362) u1035.2.1 u1056.2.1 u1056.2.2.1 u1056.2.2.2.1 u1036.2.1 u1036.2.2.1 u1036.2.2.2 v3L c3L e3L u1056.2.2.2.2 tL u1035.2.2.2.2.2.2.2.2.2.1 u1035.2.2.2.2.2.2.2.2.2.2.1 u1035.2.2.2.2.2.2.2.2.2.2.2.1 u1035.2.2.2.2.2.2.2.2.2.2.2.2.1 t2L u1035.2.2.2.2.2.2.2.2.2.2.2.2.2 kL fL (x2 + 1) (by omega) (by omega) hf
                        · have hf := x_t h1061 hf
                          cases hf
                · have hf := x_t h1052 hf
                  cases hf
    exact hL20 16 (777) (5381) u1.1 u1.2.1 u1.2.2.1 u1.2.2.2.1 u6.2.1 u6.2.2.1 u6.2.2.2 u1.2.2.2.2.2.2.2.1 u1.2.2.2.2.2.2.2.2.1 u1.2.2.2.2.2.2.2.2.2.1 u1.2.2.2.2.2.2.2.2.2.2.1 u1.2.2.2.2.2.2.2.2.2.2.2.1 u1.2.2.2.2.2.2.2.2.2.2.2.2.1 u1.2.2.2.2.2.2.2.2.2.2.2.2.2.1 u1.2.2.2.2.2.2.2.2.2.2.2.2.2.2.1 u1.2.2.2.2.2.2.2.2.2.2.2.2.2.2.2.1 u1.2.2.2.2.2.2.2.2.2.2.2.2.2.2.2.2.1 u1.2.2.2.2.2.2.2.2.2.2.2.2.2.2.2.2.2.1 u1.2.2.2.2.2.2.2.2.2.2.2.2.2.2.2.2.2.2.1 u1.2.2.2.2.2.2.2.2.2.2.2.2.2.2.2.2.2.2.2 (0 : Int32) (by omega) (by omega) hf
  · have hf := x_t h7 hf
    cases hf
