/-! THE LAW: begun (wip/p50/lawgen.py) -/
theorem wd_65 : Cond.instantiable RX9 9 ∈ xTB := xTB_in 65 (by decide +kernel) (by decide +kernel)
theorem wd_804 : Cond.classLink RL 10 RX9 ∈ xTB := xTB_in 804 (by decide +kernel) (by decide +kernel)
theorem wd_805 : Cond.methodLink RL 93 yX9_init ∈ xTB := xTB_in 805 (by decide +kernel) (by decide +kernel)
theorem wd_806 : Cond.instanceMethod yX9_init ∈ xTB := xTB_in 806 (by decide +kernel) (by decide +kernel)
theorem wd_807 : Cond.code yX9_init cX9_init 1 none ∈ xTB := xTB_in 807 (by decide +kernel) (by decide +kernel)
theorem wd_1068 : Cond.constant RL 113 (-90000000) ∈ xTB := xTB_in 1068 (by decide +kernel) (by decide +kernel)
theorem dL_begun_0 : decode cL_begun 0 = .ok (.new 10, 3) := by decide +kernel
theorem dL_begun_3 : decode cL_begun 3 = .ok (.dup, 1) := by decide +kernel
theorem dL_begun_4 : decode cL_begun 4 = .ok (.invokespecial 93, 3) := by decide +kernel
theorem dL_begun_7 : decode cL_begun 7 = .ok (.astore_n 1, 1) := by decide +kernel
theorem dL_begun_8 : decode cL_begun 8 = .ok (.iconst 2, 1) := by decide +kernel
theorem dL_begun_9 : decode cL_begun 9 = .ok (.aload_n 0, 1) := by decide +kernel
theorem dL_begun_10 : decode cL_begun 10 = .ok (.iconst 0, 1) := by decide +kernel
theorem dL_begun_11 : decode cL_begun 11 = .ok (.iconst 5, 1) := by decide +kernel
theorem dL_begun_12 : decode cL_begun 12 = .ok (.invokestatic 94, 3) := by decide +kernel
theorem dL_begun_15 : decode cL_begun 15 = .ok (.iadd, 1) := by decide +kernel
theorem dL_begun_16 : decode cL_begun 16 = .ok (.istore_n 2, 1) := by decide +kernel
theorem dL_begun_17 : decode cL_begun 17 = .ok (.iconst 0, 1) := by decide +kernel
theorem dL_begun_18 : decode cL_begun 18 = .ok (.istore_n 3, 1) := by decide +kernel
theorem dL_begun_19 : decode cL_begun 19 = .ok (.iconst 0, 1) := by decide +kernel
theorem dL_begun_20 : decode cL_begun 20 = .ok (.istore 4, 2) := by decide +kernel
theorem dL_begun_22 : decode cL_begun 22 = .ok (.iload 4, 2) := by decide +kernel
theorem dL_begun_24 : decode cL_begun 24 = .ok (.iload_n 2, 1) := by decide +kernel
theorem dL_begun_25 : decode cL_begun 25 = .ok (.if_icmp .ge 101, 3) := by decide +kernel
theorem dL_begun_28 : decode cL_begun 28 = .ok (.iload_n 3, 1) := by decide +kernel
theorem dL_begun_29 : decode cL_begun 29 = .ok (.aload_n 1, 1) := by decide +kernel
theorem dL_begun_30 : decode cL_begun 30 = .ok (.ldc 98, 2) := by decide +kernel
theorem dL_begun_32 : decode cL_begun 32 = .ok (.aload_n 0, 1) := by decide +kernel
theorem dL_begun_33 : decode cL_begun 33 = .ok (.iconst 1, 1) := by decide +kernel
theorem dL_begun_34 : decode cL_begun 34 = .ok (.iload 4, 2) := by decide +kernel
theorem dL_begun_36 : decode cL_begun 36 = .ok (.iadd, 1) := by decide +kernel
theorem dL_begun_37 : decode cL_begun 37 = .ok (.iconst 4, 1) := by decide +kernel
theorem dL_begun_38 : decode cL_begun 38 = .ok (.invokestatic 94, 3) := by decide +kernel
theorem dL_begun_41 : decode cL_begun 41 = .ok (.invokevirtual 81, 3) := by decide +kernel
theorem dL_begun_44 : decode cL_begun 44 = .ok (.iconst 1, 1) := by decide +kernel
theorem dL_begun_45 : decode cL_begun 45 = .ok (.aload_n 0, 1) := by decide +kernel
theorem dL_begun_46 : decode cL_begun 46 = .ok (.bipush 8, 2) := by decide +kernel
theorem dL_begun_48 : decode cL_begun 48 = .ok (.iload 4, 2) := by decide +kernel
theorem dL_begun_50 : decode cL_begun 50 = .ok (.iadd, 1) := by decide +kernel
theorem dL_begun_51 : decode cL_begun 51 = .ok (.aload_n 0, 1) := by decide +kernel
theorem dL_begun_52 : decode cL_begun 52 = .ok (.bipush 15, 2) := by decide +kernel
theorem dL_begun_54 : decode cL_begun 54 = .ok (.iload 4, 2) := by decide +kernel
theorem dL_begun_56 : decode cL_begun 56 = .ok (.iadd, 1) := by decide +kernel
theorem dL_begun_57 : decode cL_begun 57 = .ok (.iconst 3, 1) := by decide +kernel
theorem dL_begun_58 : decode cL_begun 58 = .ok (.invokestatic 94, 3) := by decide +kernel
theorem dL_begun_61 : decode cL_begun 61 = .ok (.ifCond .ne 9, 3) := by decide +kernel
theorem dL_begun_64 : decode cL_begun 64 = .ok (.sipush 300, 3) := by decide +kernel
theorem dL_begun_67 : decode cL_begun 67 = .ok (.goto 5, 3) := by decide +kernel
theorem dL_begun_70 : decode cL_begun 70 = .ok (.bipush 40, 2) := by decide +kernel
theorem dL_begun_72 : decode cL_begun 72 = .ok (.invokestatic 94, 3) := by decide +kernel
theorem dL_begun_75 : decode cL_begun 75 = .ok (.iadd, 1) := by decide +kernel
theorem dL_begun_76 : decode cL_begun 76 = .ok (.iconst 1, 1) := by decide +kernel
theorem dL_begun_77 : decode cL_begun 77 = .ok (.aload_n 0, 1) := by decide +kernel
theorem dL_begun_78 : decode cL_begun 78 = .ok (.bipush 22, 2) := by decide +kernel
theorem dL_begun_80 : decode cL_begun 80 = .ok (.iload 4, 2) := by decide +kernel
theorem dL_begun_82 : decode cL_begun 82 = .ok (.iadd, 1) := by decide +kernel
theorem dL_begun_83 : decode cL_begun 83 = .ok (.bipush 9, 2) := by decide +kernel
theorem dL_begun_85 : decode cL_begun 85 = .ok (.invokestatic 94, 3) := by decide +kernel
theorem dL_begun_88 : decode cL_begun 88 = .ok (.iadd, 1) := by decide +kernel
theorem dL_begun_89 : decode cL_begun 89 = .ok (.invokestatic 100, 3) := by decide +kernel
theorem dL_begun_92 : decode cL_begun 92 = .ok (.iadd, 1) := by decide +kernel
theorem dL_begun_93 : decode cL_begun 93 = .ok (.istore_n 3, 1) := by decide +kernel
theorem dL_begun_94 : decode cL_begun 94 = .ok (.iload_n 3, 1) := by decide +kernel
theorem dL_begun_95 : decode cL_begun 95 = .ok (.aload_n 0, 1) := by decide +kernel
theorem dL_begun_96 : decode cL_begun 96 = .ok (.bipush 29, 2) := by decide +kernel
theorem dL_begun_98 : decode cL_begun 98 = .ok (.iload 4, 2) := by decide +kernel
theorem dL_begun_100 : decode cL_begun 100 = .ok (.iadd, 1) := by decide +kernel
theorem dL_begun_101 : decode cL_begun 101 = .ok (.iconst 2, 1) := by decide +kernel
theorem dL_begun_102 : decode cL_begun 102 = .ok (.invokestatic 94, 3) := by decide +kernel
theorem dL_begun_105 : decode cL_begun 105 = .ok (.ifCond .ne 12, 3) := by decide +kernel
theorem dL_begun_108 : decode cL_begun 108 = .ok (.aload_n 1, 1) := by decide +kernel
theorem dL_begun_109 : decode cL_begun 109 = .ok (.iload 4, 2) := by decide +kernel
theorem dL_begun_111 : decode cL_begun 111 = .ok (.invokestatic 103, 3) := by decide +kernel
theorem dL_begun_114 : decode cL_begun 114 = .ok (.goto 4, 3) := by decide +kernel
theorem dL_begun_117 : decode cL_begun 117 = .ok (.iconst 0, 1) := by decide +kernel
theorem dL_begun_118 : decode cL_begun 118 = .ok (.iadd, 1) := by decide +kernel
theorem dL_begun_119 : decode cL_begun 119 = .ok (.istore_n 3, 1) := by decide +kernel
theorem dL_begun_120 : decode cL_begun 120 = .ok (.iinc 4 1, 3) := by decide +kernel
theorem dL_begun_123 : decode cL_begun 123 = .ok (.goto (-101), 3) := by decide +kernel
theorem dL_begun_126 : decode cL_begun 126 = .ok (.iload_n 3, 1) := by decide +kernel
theorem dL_begun_127 : decode cL_begun 127 = .ok (.aload_n 1, 1) := by decide +kernel
theorem dL_begun_128 : decode cL_begun 128 = .ok (.aload_n 0, 1) := by decide +kernel
theorem dL_begun_129 : decode cL_begun 129 = .ok (.bipush 36, 2) := by decide +kernel
theorem dL_begun_131 : decode cL_begun 131 = .ok (.iconst 4, 1) := by decide +kernel
theorem dL_begun_132 : decode cL_begun 132 = .ok (.invokestatic 94, 3) := by decide +kernel
theorem dL_begun_135 : decode cL_begun 135 = .ok (.invokestatic 106, 3) := by decide +kernel
theorem dL_begun_138 : decode cL_begun 138 = .ok (.iadd, 1) := by decide +kernel
theorem dL_begun_139 : decode cL_begun 139 = .ok (.istore_n 3, 1) := by decide +kernel
theorem dL_begun_140 : decode cL_begun 140 = .ok (.iconst 0, 1) := by decide +kernel
theorem dL_begun_141 : decode cL_begun 141 = .ok (.istore 4, 2) := by decide +kernel
theorem dL_begun_143 : decode cL_begun 143 = .ok (.iload 4, 2) := by decide +kernel
theorem dL_begun_145 : decode cL_begun 145 = .ok (.aload_n 0, 1) := by decide +kernel
theorem dL_begun_146 : decode cL_begun 146 = .ok (.bipush 37, 2) := by decide +kernel
theorem dL_begun_148 : decode cL_begun 148 = .ok (.bipush 7, 2) := by decide +kernel
theorem dL_begun_150 : decode cL_begun 150 = .ok (.invokestatic 94, 3) := by decide +kernel
theorem dL_begun_153 : decode cL_begun 153 = .ok (.if_icmp .ge 57, 3) := by decide +kernel
theorem dL_begun_156 : decode cL_begun 156 = .ok (.iload_n 3, 1) := by decide +kernel
theorem dL_begun_157 : decode cL_begun 157 = .ok (.aload_n 1, 1) := by decide +kernel
theorem dL_begun_158 : decode cL_begun 158 = .ok (.iconst 1, 1) := by decide +kernel
theorem dL_begun_159 : decode cL_begun 159 = .ok (.aload_n 0, 1) := by decide +kernel
theorem dL_begun_160 : decode cL_begun 160 = .ok (.bipush 38, 2) := by decide +kernel
theorem dL_begun_162 : decode cL_begun 162 = .ok (.iload 4, 2) := by decide +kernel
theorem dL_begun_164 : decode cL_begun 164 = .ok (.iadd, 1) := by decide +kernel
theorem dL_begun_165 : decode cL_begun 165 = .ok (.bipush 30, 2) := by decide +kernel
theorem dL_begun_167 : decode cL_begun 167 = .ok (.invokestatic 94, 3) := by decide +kernel
theorem dL_begun_170 : decode cL_begun 170 = .ok (.iadd, 1) := by decide +kernel
theorem dL_begun_171 : decode cL_begun 171 = .ok (.aload_n 0, 1) := by decide +kernel
theorem dL_begun_172 : decode cL_begun 172 = .ok (.bipush 45, 2) := by decide +kernel
theorem dL_begun_174 : decode cL_begun 174 = .ok (.iload 4, 2) := by decide +kernel
theorem dL_begun_176 : decode cL_begun 176 = .ok (.iadd, 1) := by decide +kernel
theorem dL_begun_177 : decode cL_begun 177 = .ok (.iload_n 2, 1) := by decide +kernel
theorem dL_begun_178 : decode cL_begun 178 = .ok (.invokestatic 94, 3) := by decide +kernel
theorem dL_begun_181 : decode cL_begun 181 = .ok (.aload_n 0, 1) := by decide +kernel
theorem dL_begun_182 : decode cL_begun 182 = .ok (.bipush 52, 2) := by decide +kernel
theorem dL_begun_184 : decode cL_begun 184 = .ok (.iload 4, 2) := by decide +kernel
theorem dL_begun_186 : decode cL_begun 186 = .ok (.iadd, 1) := by decide +kernel
theorem dL_begun_187 : decode cL_begun 187 = .ok (.iconst 3, 1) := by decide +kernel
theorem dL_begun_188 : decode cL_begun 188 = .ok (.invokestatic 94, 3) := by decide +kernel
theorem dL_begun_191 : decode cL_begun 191 = .ok (.ifCond .le 7, 3) := by decide +kernel
theorem dL_begun_194 : decode cL_begun 194 = .ok (.iconst 1, 1) := by decide +kernel
theorem dL_begun_195 : decode cL_begun 195 = .ok (.goto 4, 3) := by decide +kernel
theorem dL_begun_198 : decode cL_begun 198 = .ok (.iconst 0, 1) := by decide +kernel
theorem dL_begun_199 : decode cL_begun 199 = .ok (.invokestatic 108, 3) := by decide +kernel
theorem dL_begun_202 : decode cL_begun 202 = .ok (.iadd, 1) := by decide +kernel
theorem dL_begun_203 : decode cL_begun 203 = .ok (.istore_n 3, 1) := by decide +kernel
theorem dL_begun_204 : decode cL_begun 204 = .ok (.iinc 4 1, 3) := by decide +kernel
theorem dL_begun_207 : decode cL_begun 207 = .ok (.goto (-64), 3) := by decide +kernel
theorem dL_begun_210 : decode cL_begun 210 = .ok (.iload_n 3, 1) := by decide +kernel
theorem dL_begun_211 : decode cL_begun 211 = .ok (.aload_n 0, 1) := by decide +kernel
theorem dL_begun_212 : decode cL_begun 212 = .ok (.bipush 59, 2) := by decide +kernel
theorem dL_begun_214 : decode cL_begun 214 = .ok (.iconst 2, 1) := by decide +kernel
theorem dL_begun_215 : decode cL_begun 215 = .ok (.invokestatic 94, 3) := by decide +kernel
theorem dL_begun_218 : decode cL_begun 218 = .ok (.ifCond .ne 20, 3) := by decide +kernel
theorem dL_begun_221 : decode cL_begun 221 = .ok (.aload_n 1, 1) := by decide +kernel
theorem dL_begun_222 : decode cL_begun 222 = .ok (.iconst 1, 1) := by decide +kernel
theorem dL_begun_223 : decode cL_begun 223 = .ok (.aload_n 0, 1) := by decide +kernel
theorem dL_begun_224 : decode cL_begun 224 = .ok (.bipush 60, 2) := by decide +kernel
theorem dL_begun_226 : decode cL_begun 226 = .ok (.bipush 9, 2) := by decide +kernel
theorem dL_begun_228 : decode cL_begun 228 = .ok (.invokestatic 94, 3) := by decide +kernel
theorem dL_begun_231 : decode cL_begun 231 = .ok (.iadd, 1) := by decide +kernel
theorem dL_begun_232 : decode cL_begun 232 = .ok (.invokestatic 111, 3) := by decide +kernel
theorem dL_begun_235 : decode cL_begun 235 = .ok (.goto 4, 3) := by decide +kernel
theorem dL_begun_238 : decode cL_begun 238 = .ok (.iconst 0, 1) := by decide +kernel
theorem dL_begun_239 : decode cL_begun 239 = .ok (.iadd, 1) := by decide +kernel
theorem dL_begun_240 : decode cL_begun 240 = .ok (.istore_n 3, 1) := by decide +kernel
theorem dL_begun_241 : decode cL_begun 241 = .ok (.iload_n 3, 1) := by decide +kernel
theorem dL_begun_242 : decode cL_begun 242 = .ok (.ldc 113, 2) := by decide +kernel
theorem dL_begun_244 : decode cL_begun 244 = .ok (.if_icmp .ge 7, 3) := by decide +kernel
theorem dL_begun_247 : decode cL_begun 247 = .ok (.aconst_null, 1) := by decide +kernel
theorem dL_begun_248 : decode cL_begun 248 = .ok (.goto 4, 3) := by decide +kernel
theorem dL_begun_251 : decode cL_begun 251 = .ok (.aload_n 1, 1) := by decide +kernel
theorem dL_begun_252 : decode cL_begun 252 = .ok (.areturn, 1) := by decide +kernel
set_option maxHeartbeats 4000000 in
set_option maxRecDepth 100000 in
theorem c_Q_begun (g : xG) (l : Launch) (hl : l.stackTraces = false) (L : Nat) (xs : Nat → Int32) (hLg : L = g.2.2 7) (hxg : xs = xsG g)    {u : CcT × StS × CdT × EvT × StS × CdT × EvT × StS × CdT × EvT × HiT × Unit × (Nat → StS) × (Nat → CdT) × (Nat → EvT) × PrT × Unit × (Nat → CmT) × SbT × (Nat → Int32)} (hf : f_Q_begun L xs  = some u) : Con g l yL_begun cL_begun 5 (some (.object "CandleConcert")) ({ frames := 9, cells := 229, slots := 2093, locals := 157 } : Room) [.ref (g.2.2 6)] ([] : List va_W).flatten (fun v9 w9 => ∃ a9 : Nat → Nat, ∃ b9 : Nat → Nat, ∃ y9 : Nat, ∃ z9 : Nat, v9 = some (.ref (a9 0)) ∧ w9 = ([ccO g a9 b9 y9 u.1, stO g a9 10 u.2.1, cdW g a9 10 u.2.2.1, evW g a9 10 u.2.2.2.1, stO g a9 20 u.2.2.2.2.1, cdW g a9 20 u.2.2.2.2.2.1, evW g a9 20 u.2.2.2.2.2.2.1, stO g a9 30 u.2.2.2.2.2.2.2.1, cdW g a9 30 u.2.2.2.2.2.2.2.2.1, evW g a9 30 u.2.2.2.2.2.2.2.2.2.1, hiO g a9 u.2.2.2.2.2.2.2.2.2.2.1, hrW g a9 u.2.2.2.2.2.2.2.2.2.2.2.1, stF g a9 u.2.2.2.2.2.2.2.2.2.2.2.2.1, cdF g a9 u.2.2.2.2.2.2.2.2.2.2.2.2.2.1, evF g a9 u.2.2.2.2.2.2.2.2.2.2.2.2.2.2.1, prO g b9 u.2.2.2.2.2.2.2.2.2.2.2.2.2.2.2.1, caW g b9 u.2.2.2.2.2.2.2.2.2.2.2.2.2.2.2.2.1, cmF g b9 u.2.2.2.2.2.2.2.2.2.2.2.2.2.2.2.2.2.1, sbO g y9 z9 u.2.2.2.2.2.2.2.2.2.2.2.2.2.2.2.2.2.2.1, baW g z9 16 u.2.2.2.2.2.2.2.2.2.2.2.2.2.2.2.2.2.2.2] : List va_W).flatten) 229 2093 := by
  unfold f_Q_begun at hf
  refine Con_of [] [(0, .ref (g.2.2 6))] rfl rfl (by decide) (Nat.le_of_ble_eq_true rfl) ?_
  intro pW eW sW mW argsW belowW methW c9 C hnm hr
  have C : CX g RL cL_begun 5 _ pW sW mW argsW methW c9 := C
  refine x_new (ci := 10) (fs := [.null, .null, .null, .null, .null, .null, .int 0, .int 0, .int 0]) C ixX9 tyX9 tyX9_ok rfl wd_804 wd_65 wd_25 dfX9 (by show _ ≤ 229; omega) (by show _ ≤ 2093; omega) dL_begun_0 (fun q1 => ?_)
  refine x_same (wss' := [[(q1, .inr (10, [.null, .null, .null, .null, .null, .null, .int 0, .int 0, .int 0]))]]) rfl ?_
  refine x_dup C dL_begun_3 rfl ?_
  refine x_callI (n := 0) (As := []) (rest := [.ref q1]) C (c_X9_init g l q1) ⟨⟨wd_807, wd_805, wd_25⟩, ⟨by decide, by decide, by decide⟩, rfl, rfl, Nat.le_of_ble_eq_true rfl, Nat.le_of_ble_eq_true rfl⟩ wd_806 rfl [] (x_pickD [0] 1 rfl rfl rfl) rfl rfl (Nat.le_of_ble_eq_true rfl) ⟨by show _ ≤ 229; omega, by show _ ≤ 2093; omega⟩ dL_begun_4 (fun v9 w9 hQ9 => ?_)
  obtain ⟨rfl, a2, b3, y4, z5, rfl, rfl⟩ := hQ9
  refine x_goW (wss2 := [ccO g a2 b3 y4 (0, (-1), (-1)), stO g a2 10 (0, 0, 0, 0, 0, 0, 32, (-1)), cdW g a2 10 (fun _ => 0, fun _ => 0, fun _ => 0, fun _ => 0, 0), evW g a2 10 (fun _ => 0, fun _ => 0, fun _ => 0, 0), stO g a2 20 (0, 0, 0, 0, 0, 0, 32, (-1)), cdW g a2 20 (fun _ => 0, fun _ => 0, fun _ => 0, fun _ => 0, 0), evW g a2 20 (fun _ => 0, fun _ => 0, fun _ => 0, 0), stO g a2 30 (0, 0, 0, 0, 0, 0, 32, (-1)), cdW g a2 30 (fun _ => 0, fun _ => 0, fun _ => 0, fun _ => 0, 0), evW g a2 30 (fun _ => 0, fun _ => 0, fun _ => 0, 0), hiO g a2 (0, 0), hrW g a2 (), stF g a2 (fun _ => (0, 0, 0, 0, 0, 0, 32, (-1))), cdF g a2 (fun _ => (fun _ => 0, fun _ => 0, fun _ => 0, fun _ => 0, 0)), evF g a2 (fun _ => (fun _ => 0, fun _ => 0, fun _ => 0, 0)), prO g b3 ((fun _ => 0), 0, 0, 0), caW g b3 (), cmF g b3 (fun _ => (7, 0, 0, 0, 32, 0)), sbO g y4 z5 (0, 0), baW g z5 16 (fun _ => 0)]) (stk2 := [.ref (a2 0)]) rfl rfl rfl ?_
  refine x_astore_n (lv' := [(1, .ref (a2 0)), (0, .ref (g.2.2 6))]) C dL_begun_7 rfl (by decide) rfl ?_
  refine x_iconst (v := 2) C dL_begun_8 (by decide) ?_
  refine x_aload_n C dL_begun_9 rfl 1 rfl ?_
  refine x_iconst (v := 0) C dL_begun_10 (by decide) ?_
  refine x_iconst (v := 5) C dL_begun_11 (by decide) ?_
  obtain ⟨u6, hu6, hf⟩ := x_b hf
  refine x_callS (n := 3) (As := [.ref (g.2.2 6), .int (0 : Int32), .int (5 : Int32)]) (rest := [.int (2 : Int32)]) C (c_Q_in g l hl L xs hLg hxg (0 : Int32) (5 : Int32) hu6) ⟨⟨wd_794, wd_792, wd_24⟩, ⟨by decide, by decide, by decide⟩, rfl, rfl, Nat.le_of_ble_eq_true rfl, Nat.le_of_ble_eq_true rfl⟩ wd_793 [ccO g a2 b3 y4 (0, (-1), (-1)), stO g a2 10 (0, 0, 0, 0, 0, 0, 32, (-1)), cdW g a2 10 (fun _ => 0, fun _ => 0, fun _ => 0, fun _ => 0, 0), evW g a2 10 (fun _ => 0, fun _ => 0, fun _ => 0, 0), stO g a2 20 (0, 0, 0, 0, 0, 0, 32, (-1)), cdW g a2 20 (fun _ => 0, fun _ => 0, fun _ => 0, fun _ => 0, 0), evW g a2 20 (fun _ => 0, fun _ => 0, fun _ => 0, 0), stO g a2 30 (0, 0, 0, 0, 0, 0, 32, (-1)), cdW g a2 30 (fun _ => 0, fun _ => 0, fun _ => 0, fun _ => 0, 0), evW g a2 30 (fun _ => 0, fun _ => 0, fun _ => 0, 0), hiO g a2 (0, 0), hrW g a2 (), stF g a2 (fun _ => (0, 0, 0, 0, 0, 0, 32, (-1))), cdF g a2 (fun _ => (fun _ => 0, fun _ => 0, fun _ => 0, fun _ => 0, 0)), evF g a2 (fun _ => (fun _ => 0, fun _ => 0, fun _ => 0, 0)), prO g b3 ((fun _ => 0), 0, 0, 0), caW g b3 (), cmF g b3 (fun _ => (7, 0, 0, 0, 32, 0)), sbO g y4 z5 (0, 0), baW g z5 16 (fun _ => 0)] (x_pickD [0, 1, 2, 3, 4, 5, 6, 7, 8, 9, 10, 11, 12, 13, 14, 15, 16, 17, 18, 19] 20 rfl rfl rfl) rfl rfl (Nat.le_of_ble_eq_true rfl) ⟨by show _ ≤ 229; omega, by show _ ≤ 2093; omega⟩ dL_begun_12 (x_goD (wss2 := [ccO g a2 b3 y4 (0, (-1), (-1)), stO g a2 10 (0, 0, 0, 0, 0, 0, 32, (-1)), cdW g a2 10 (fun _ => 0, fun _ => 0, fun _ => 0, fun _ => 0, 0), evW g a2 10 (fun _ => 0, fun _ => 0, fun _ => 0, 0), stO g a2 20 (0, 0, 0, 0, 0, 0, 32, (-1)), cdW g a2 20 (fun _ => 0, fun _ => 0, fun _ => 0, fun _ => 0, 0), evW g a2 20 (fun _ => 0, fun _ => 0, fun _ => 0, 0), stO g a2 30 (0, 0, 0, 0, 0, 0, 32, (-1)), cdW g a2 30 (fun _ => 0, fun _ => 0, fun _ => 0, fun _ => 0, 0), evW g a2 30 (fun _ => 0, fun _ => 0, fun _ => 0, 0), hiO g a2 (0, 0), hrW g a2 (), stF g a2 (fun _ => (0, 0, 0, 0, 0, 0, 32, (-1))), cdF g a2 (fun _ => (fun _ => 0, fun _ => 0, fun _ => 0, fun _ => 0, 0)), evF g a2 (fun _ => (fun _ => 0, fun _ => 0, fun _ => 0, 0)), prO g b3 ((fun _ => 0), 0, 0, 0), caW g b3 (), cmF g b3 (fun _ => (7, 0, 0, 0, 32, 0)), sbO g y4 z5 (0, 0), baW g z5 16 (fun _ => 0)]) (stk2 := [.int u6, .int (2 : Int32)]) rfl rfl ?_)
  refine x_iadd C dL_begun_15 ?_
  refine x_istore_n (lv' := [(2, .int ((2 : Int32) + u6)), (1, .ref (a2 0)), (0, .ref (g.2.2 6))]) C dL_begun_16 rfl (by decide) rfl ?_
  refine x_iconst (v := 0) C dL_begun_17 (by decide) ?_
  refine x_istore_n (lv' := [(3, .int (0 : Int32)), (2, .int ((2 : Int32) + u6)), (1, .ref (a2 0)), (0, .ref (g.2.2 6))]) C dL_begun_18 rfl (by decide) rfl ?_
  refine x_iconst (v := 0) C dL_begun_19 (by decide) ?_
  refine x_istore (lv' := [(4, .int (0 : Int32)), (3, .int (0 : Int32)), (2, .int ((2 : Int32) + u6)), (1, .ref (a2 0)), (0, .ref (g.2.2 6))]) C dL_begun_20 (by decide) rfl ?_
  refine x_locals (lv' := [(0, .ref (g.2.2 6)), (1, .ref (a2 0)), (2, .int ((2 : Int32) + u6)), (3, .int (0 : Int32)), (4, .int (0 : Int32))]) [4, 3, 2, 1, 0] rfl ?_
  refine x_widen (k := 131) (n := 1505) (by omega) (by omega) ?_
  have hL143 : ∀ (nW kW tW : Nat) (zL : CcT) (vL : StS) (cL : CdT) (eL : EvT) (v2L : StS) (c2L : CdT) (e2L : EvT) (v3L : StS) (c3L : CdT) (e3L : EvT) (hL : HiT) (tL : Unit) (vsL : (Nat → StS)) (csL : (Nat → CdT)) (esL : (Nat → EvT)) (qL : PrT) (t2L : Unit) (wsL : (Nat → CmT)) (kL : SbT) (fL : (Nat → Int32)) (x2 : Int32) (x3 : Int32) (x4 : Int32), kW + 1 * nW + 1 ≤ 229 → tW + 6 * nW + 6 ≤ 2093 → f_Q_begun_143 L xs nW zL vL cL eL v2L c2L e2L v3L c3L e3L hL tL vsL csL esL qL t2L wsL kL fL x2 x3 x4 = some u → VW g (va_A ([] : List va_W).flatten sW.heap.size) 5 pW l eW ({ frames := 9, cells := 229, slots := 2093, locals := 157 } : Room) sW mW argsW belowW methW c9 kW tW (MQ belowW (xQc g ([] : List va_W).flatten sW.heap.size (fun v9 w9 => ∃ a9 : Nat → Nat, ∃ b9 : Nat → Nat, ∃ y9 : Nat, ∃ z9 : Nat, v9 = some (.ref (a9 0)) ∧ w9 = ([ccO g a9 b9 y9 u.1, stO g a9 10 u.2.1, cdW g a9 10 u.2.2.1, evW g a9 10 u.2.2.2.1, stO g a9 20 u.2.2.2.2.1, cdW g a9 20 u.2.2.2.2.2.1, evW g a9 20 u.2.2.2.2.2.2.1, stO g a9 30 u.2.2.2.2.2.2.2.1, cdW g a9 30 u.2.2.2.2.2.2.2.2.1, evW g a9 30 u.2.2.2.2.2.2.2.2.2.1, hiO g a9 u.2.2.2.2.2.2.2.2.2.2.1, hrW g a9 u.2.2.2.2.2.2.2.2.2.2.2.1, stF g a9 u.2.2.2.2.2.2.2.2.2.2.2.2.1, cdF g a9 u.2.2.2.2.2.2.2.2.2.2.2.2.2.1, evF g a9 u.2.2.2.2.2.2.2.2.2.2.2.2.2.2.1, prO g b9 u.2.2.2.2.2.2.2.2.2.2.2.2.2.2.2.1, caW g b9 u.2.2.2.2.2.2.2.2.2.2.2.2.2.2.2.2.1, cmF g b9 u.2.2.2.2.2.2.2.2.2.2.2.2.2.2.2.2.2.1, sbO g y9 z9 u.2.2.2.2.2.2.2.2.2.2.2.2.2.2.2.2.2.2.1, baW g z9 16 u.2.2.2.2.2.2.2.2.2.2.2.2.2.2.2.2.2.2.2] : List va_W).flatten)) argsW sW 229 2093 (va_A ([] : List va_W).flatten sW.heap.size)) [ccO g a2 b3 y4 zL, stO g a2 10 vL, cdW g a2 10 cL, evW g a2 10 eL, stO g a2 20 v2L, cdW g a2 20 c2L, evW g a2 20 e2L, stO g a2 30 v3L, cdW g a2 30 c3L, evW g a2 30 e3L, hiO g a2 hL, hrW g a2 tL, stF g a2 vsL, cdF g a2 csL, evF g a2 esL, prO g b3 qL, caW g b3 t2L, cmF g b3 wsL, sbO g y4 z5 kL, baW g z5 16 fL] [(0, .ref (g.2.2 6)), (1, .ref (a2 0)), (2, .int x2), (3, .int x3), (4, .int x4)] 143 [] := by
    intro nW
    induction nW with
    | zero => intro kW tW zL vL cL eL v2L c2L e2L v3L c3L e3L hL tL vsL csL esL qL t2L wsL kL fL x2 x3 x4 hkW htW hf; rw [f_Q_begun_143] at hf; cases hf
    | succ nW ih =>
      intro kW tW zL vL cL eL v2L c2L e2L v3L c3L e3L hL tL vsL csL esL qL t2L wsL kL fL x2 x3 x4 hkW htW hf
      rw [f_Q_begun_143] at hf
      refine x_iload C dL_begun_143 4 rfl ?_
      refine x_aload_n C dL_begun_145 rfl 0 rfl ?_
      refine x_bipush (v := 37) C dL_begun_146 (by decide) ?_
      refine x_bipush (v := 7) C dL_begun_148 (by decide) ?_
      obtain ⟨u2001, hu2001, hf⟩ := x_b hf
      refine x_callS (n := 3) (As := [.ref (g.2.2 6), .int (37 : Int32), .int (7 : Int32)]) (rest := [.int x4]) C (c_Q_in g l hl L xs hLg hxg (37 : Int32) (7 : Int32) hu2001) ⟨⟨wd_794, wd_792, wd_24⟩, ⟨by decide, by decide, by decide⟩, rfl, rfl, Nat.le_of_ble_eq_true rfl, Nat.le_of_ble_eq_true rfl⟩ wd_793 [ccO g a2 b3 y4 zL, stO g a2 10 vL, cdW g a2 10 cL, evW g a2 10 eL, stO g a2 20 v2L, cdW g a2 20 c2L, evW g a2 20 e2L, stO g a2 30 v3L, cdW g a2 30 c3L, evW g a2 30 e3L, hiO g a2 hL, hrW g a2 tL, stF g a2 vsL, cdF g a2 csL, evF g a2 esL, prO g b3 qL, caW g b3 t2L, cmF g b3 wsL, sbO g y4 z5 kL, baW g z5 16 fL] (x_pickD [0, 1, 2, 3, 4, 5, 6, 7, 8, 9, 10, 11, 12, 13, 14, 15, 16, 17, 18, 19] 20 rfl rfl rfl) rfl rfl (Nat.le_of_ble_eq_true rfl) ⟨by show _ ≤ 229; omega, by show _ ≤ 2093; omega⟩ dL_begun_150 (x_goD (wss2 := [ccO g a2 b3 y4 zL, stO g a2 10 vL, cdW g a2 10 cL, evW g a2 10 eL, stO g a2 20 v2L, cdW g a2 20 c2L, evW g a2 20 e2L, stO g a2 30 v3L, cdW g a2 30 c3L, evW g a2 30 e3L, hiO g a2 hL, hrW g a2 tL, stF g a2 vsL, cdF g a2 csL, evF g a2 esL, prO g b3 qL, caW g b3 t2L, cmF g b3 wsL, sbO g y4 z5 kL, baW g z5 16 fL]) (stk2 := [.int u2001, .int x4]) rfl rfl ?_)
      refine x_icmp_ge (tgt := 210) C dL_begun_153 (by decide) (fun h2002 => ?_) (fun h2002 => ?_)
      · have hf := x_t h2002 hf
        refine x_iload_n C dL_begun_210 rfl 3 rfl ?_
        refine x_aload_n C dL_begun_211 rfl 0 rfl ?_
        refine x_bipush (v := 59) C dL_begun_212 (by decide) ?_
        refine x_iconst (v := 2) C dL_begun_214 (by decide) ?_
        obtain ⟨u2003, hu2003, hf⟩ := x_b hf
        refine x_callS (n := 3) (As := [.ref (g.2.2 6), .int (59 : Int32), .int (2 : Int32)]) (rest := [.int x3]) C (c_Q_in g l hl L xs hLg hxg (59 : Int32) (2 : Int32) hu2003) ⟨⟨wd_794, wd_792, wd_24⟩, ⟨by decide, by decide, by decide⟩, rfl, rfl, Nat.le_of_ble_eq_true rfl, Nat.le_of_ble_eq_true rfl⟩ wd_793 [ccO g a2 b3 y4 zL, stO g a2 10 vL, cdW g a2 10 cL, evW g a2 10 eL, stO g a2 20 v2L, cdW g a2 20 c2L, evW g a2 20 e2L, stO g a2 30 v3L, cdW g a2 30 c3L, evW g a2 30 e3L, hiO g a2 hL, hrW g a2 tL, stF g a2 vsL, cdF g a2 csL, evF g a2 esL, prO g b3 qL, caW g b3 t2L, cmF g b3 wsL, sbO g y4 z5 kL, baW g z5 16 fL] (x_pickD [0, 1, 2, 3, 4, 5, 6, 7, 8, 9, 10, 11, 12, 13, 14, 15, 16, 17, 18, 19] 20 rfl rfl rfl) rfl rfl (Nat.le_of_ble_eq_true rfl) ⟨by show _ ≤ 229; omega, by show _ ≤ 2093; omega⟩ dL_begun_215 (x_goD (wss2 := [ccO g a2 b3 y4 zL, stO g a2 10 vL, cdW g a2 10 cL, evW g a2 10 eL, stO g a2 20 v2L, cdW g a2 20 c2L, evW g a2 20 e2L, stO g a2 30 v3L, cdW g a2 30 c3L, evW g a2 30 e3L, hiO g a2 hL, hrW g a2 tL, stF g a2 vsL, cdF g a2 csL, evF g a2 esL, prO g b3 qL, caW g b3 t2L, cmF g b3 wsL, sbO g y4 z5 kL, baW g z5 16 fL]) (stk2 := [.int u2003, .int x3]) rfl rfl ?_)
        refine x_if_ne (tgt := 238) C dL_begun_218 (by decide) (fun h2004 => ?_) (fun h2004 => ?_)
        · have hf := x_f h2004 hf
          refine x_iconst (v := 0) C dL_begun_238 (by decide) ?_
          refine x_iadd C dL_begun_239 ?_
          refine x_istore_n (lv' := [(3, .int (x3 + (0 : Int32))), (0, .ref (g.2.2 6)), (1, .ref (a2 0)), (2, .int x2), (4, .int x4)]) C dL_begun_240 rfl (by decide) rfl ?_
          refine x_iload_n C dL_begun_241 rfl 0 rfl ?_
          refine x_ldc C wd_1068 dL_begun_242 ?_
          refine x_icmp_ge (tgt := 251) C dL_begun_244 (by decide) (fun h2005 => ?_) (fun h2005 => ?_)
          · have hf := x_t h2005 hf
            refine x_aload_n C dL_begun_251 rfl 2 rfl ?_
            refine x_widen (k := 229) (n := 2093) (by omega) (by omega) ?_
            obtain rfl := Option.some.inj hf
            exact x_aret C hr (Or.inl ⟨_, rfl⟩) ⟨a2, b3, y4, z5, rfl, rfl⟩ dL_begun_252
          · have hf := x_f h2005 hf
            cases hf
        · have hf := x_t h2004 hf
          refine x_aload_n C dL_begun_221 rfl 1 rfl ?_
          refine x_iconst (v := 1) C dL_begun_222 (by decide) ?_
          refine x_aload_n C dL_begun_223 rfl 0 rfl ?_
          refine x_bipush (v := 60) C dL_begun_224 (by decide) ?_
          refine x_bipush (v := 9) C dL_begun_226 (by decide) ?_
          obtain ⟨u2006, hu2006, hf⟩ := x_b hf
          refine x_callS (n := 3) (As := [.ref (g.2.2 6), .int (60 : Int32), .int (9 : Int32)]) (rest := [.int (1 : Int32), .ref (a2 0), .int x3]) C (c_Q_in g l hl L xs hLg hxg (60 : Int32) (9 : Int32) hu2006) ⟨⟨wd_794, wd_792, wd_24⟩, ⟨by decide, by decide, by decide⟩, rfl, rfl, Nat.le_of_ble_eq_true rfl, Nat.le_of_ble_eq_true rfl⟩ wd_793 [ccO g a2 b3 y4 zL, stO g a2 10 vL, cdW g a2 10 cL, evW g a2 10 eL, stO g a2 20 v2L, cdW g a2 20 c2L, evW g a2 20 e2L, stO g a2 30 v3L, cdW g a2 30 c3L, evW g a2 30 e3L, hiO g a2 hL, hrW g a2 tL, stF g a2 vsL, cdF g a2 csL, evF g a2 esL, prO g b3 qL, caW g b3 t2L, cmF g b3 wsL, sbO g y4 z5 kL, baW g z5 16 fL] (x_pickD [0, 1, 2, 3, 4, 5, 6, 7, 8, 9, 10, 11, 12, 13, 14, 15, 16, 17, 18, 19] 20 rfl rfl rfl) rfl rfl (Nat.le_of_ble_eq_true rfl) ⟨by show _ ≤ 229; omega, by show _ ≤ 2093; omega⟩ dL_begun_228 (x_goD (wss2 := [ccO g a2 b3 y4 zL, stO g a2 10 vL, cdW g a2 10 cL, evW g a2 10 eL, stO g a2 20 v2L, cdW g a2 20 c2L, evW g a2 20 e2L, stO g a2 30 v3L, cdW g a2 30 c3L, evW g a2 30 e3L, hiO g a2 hL, hrW g a2 tL, stF g a2 vsL, cdF g a2 csL, evF g a2 esL, prO g b3 qL, caW g b3 t2L, cmF g b3 wsL, sbO g y4 z5 kL, baW g z5 16 fL]) (stk2 := [.int u2006, .int (1 : Int32), .ref (a2 0), .int x3]) rfl rfl ?_)
          refine x_iadd C dL_begun_231 ?_
          obtain ⟨u2007, hu2007, hf⟩ := x_b hf
          refine x_hcallS (n := 2) (As := [.ref (a2 0), .int ((1 : Int32) + u2006)]) (rest := [.int x3]) C (c_Q_pass g l hl a2 b3 y4 zL vL cL eL hL tL vsL csL esL ((1 : Int32) + u2006) hu2007) ⟨⟨wd_721, wd_719, wd_24⟩, ⟨by decide, by decide, by decide⟩, rfl, rfl, Nat.le_of_ble_eq_true rfl, Nat.le_of_ble_eq_true rfl⟩ wd_720 [stO g a2 20 v2L, cdW g a2 20 c2L, evW g a2 20 e2L, stO g a2 30 v3L, cdW g a2 30 c3L, evW g a2 30 e3L, prO g b3 qL, caW g b3 t2L, cmF g b3 wsL, sbO g y4 z5 kL, baW g z5 16 fL] (x_pickD [0, 1, 2, 3, 10, 11, 12, 13, 14, 4, 5, 6, 7, 8, 9, 15, 16, 17, 18, 19] 20 rfl rfl rfl) rfl rfl (Nat.le_of_ble_eq_true rfl) ⟨by show _ ≤ 229; omega, by show _ ≤ 2093; omega⟩ dL_begun_232 (fun v9 w9 hQ9 => ?_)
          obtain ⟨rfl, rfl⟩ := hQ9
          refine x_goW (wss2 := [ccO g a2 b3 y4 zL, stO g a2 10 u2007.2.1, cdW g a2 10 u2007.2.2.1, evW g a2 10 u2007.2.2.2.1, hiO g a2 u2007.2.2.2.2.1, hrW g a2 tL, stF g a2 u2007.2.2.2.2.2.1, cdF g a2 u2007.2.2.2.2.2.2.1, evF g a2 u2007.2.2.2.2.2.2.2, stO g a2 20 v2L, cdW g a2 20 c2L, evW g a2 20 e2L, stO g a2 30 v3L, cdW g a2 30 c3L, evW g a2 30 e3L, prO g b3 qL, caW g b3 t2L, cmF g b3 wsL, sbO g y4 z5 kL, baW g z5 16 fL]) (stk2 := [.int u2007.1, .int x3]) rfl rfl rfl ?_
          refine x_goto (tgt := 239) C dL_begun_235 (by decide) ?_
          refine x_iadd C dL_begun_239 ?_
          refine x_istore_n (lv' := [(3, .int (x3 + u2007.1)), (0, .ref (g.2.2 6)), (1, .ref (a2 0)), (2, .int x2), (4, .int x4)]) C dL_begun_240 rfl (by decide) rfl ?_
          refine x_iload_n C dL_begun_241 rfl 0 rfl ?_
          refine x_ldc C wd_1068 dL_begun_242 ?_
          refine x_icmp_ge (tgt := 251) C dL_begun_244 (by decide) (fun h2008 => ?_) (fun h2008 => ?_)
          · have hf := x_t h2008 hf
            refine x_aload_n C dL_begun_251 rfl 2 rfl ?_
            refine x_perm (wss' := [ccO g a2 b3 y4 zL, stO g a2 10 u2007.2.1, cdW g a2 10 u2007.2.2.1, evW g a2 10 u2007.2.2.2.1, stO g a2 20 v2L, cdW g a2 20 c2L, evW g a2 20 e2L, stO g a2 30 v3L, cdW g a2 30 c3L, evW g a2 30 e3L, hiO g a2 u2007.2.2.2.2.1, hrW g a2 tL, stF g a2 u2007.2.2.2.2.2.1, cdF g a2 u2007.2.2.2.2.2.2.1, evF g a2 u2007.2.2.2.2.2.2.2, prO g b3 qL, caW g b3 t2L, cmF g b3 wsL, sbO g y4 z5 kL, baW g z5 16 fL]) (x_pick [0, 1, 2, 3, 9, 10, 11, 12, 13, 14, 4, 5, 6, 7, 8, 15, 16, 17, 18, 19] 20 rfl rfl rfl) ?_
            refine x_widen (k := 229) (n := 2093) (by omega) (by omega) ?_
            obtain rfl := Option.some.inj hf
            exact x_aret C hr (Or.inl ⟨_, rfl⟩) ⟨a2, b3, y4, z5, rfl, rfl⟩ dL_begun_252
          · have hf := x_f h2008 hf
            cases hf
      · have hf := x_f h2002 hf
        refine x_iload_n C dL_begun_156 rfl 3 rfl ?_
        refine x_aload_n C dL_begun_157 rfl 1 rfl ?_
        refine x_iconst (v := 1) C dL_begun_158 (by decide) ?_
        refine x_aload_n C dL_begun_159 rfl 0 rfl ?_
        refine x_bipush (v := 38) C dL_begun_160 (by decide) ?_
        refine x_iload C dL_begun_162 4 rfl ?_
        refine x_iadd C dL_begun_164 ?_
        refine x_bipush (v := 30) C dL_begun_165 (by decide) ?_
        obtain ⟨u2009, hu2009, hf⟩ := x_b hf
        refine x_callS (n := 3) (As := [.ref (g.2.2 6), .int ((38 : Int32) + x4), .int (30 : Int32)]) (rest := [.int (1 : Int32), .ref (a2 0), .int x3]) C (c_Q_in g l hl L xs hLg hxg ((38 : Int32) + x4) (30 : Int32) hu2009) ⟨⟨wd_794, wd_792, wd_24⟩, ⟨by decide, by decide, by decide⟩, rfl, rfl, Nat.le_of_ble_eq_true rfl, Nat.le_of_ble_eq_true rfl⟩ wd_793 [ccO g a2 b3 y4 zL, stO g a2 10 vL, cdW g a2 10 cL, evW g a2 10 eL, stO g a2 20 v2L, cdW g a2 20 c2L, evW g a2 20 e2L, stO g a2 30 v3L, cdW g a2 30 c3L, evW g a2 30 e3L, hiO g a2 hL, hrW g a2 tL, stF g a2 vsL, cdF g a2 csL, evF g a2 esL, prO g b3 qL, caW g b3 t2L, cmF g b3 wsL, sbO g y4 z5 kL, baW g z5 16 fL] (x_pickD [0, 1, 2, 3, 4, 5, 6, 7, 8, 9, 10, 11, 12, 13, 14, 15, 16, 17, 18, 19] 20 rfl rfl rfl) rfl rfl (Nat.le_of_ble_eq_true rfl) ⟨by show _ ≤ 229; omega, by show _ ≤ 2093; omega⟩ dL_begun_167 (x_goD (wss2 := [ccO g a2 b3 y4 zL, stO g a2 10 vL, cdW g a2 10 cL, evW g a2 10 eL, stO g a2 20 v2L, cdW g a2 20 c2L, evW g a2 20 e2L, stO g a2 30 v3L, cdW g a2 30 c3L, evW g a2 30 e3L, hiO g a2 hL, hrW g a2 tL, stF g a2 vsL, cdF g a2 csL, evF g a2 esL, prO g b3 qL, caW g b3 t2L, cmF g b3 wsL, sbO g y4 z5 kL, baW g z5 16 fL]) (stk2 := [.int u2009, .int (1 : Int32), .ref (a2 0), .int x3]) rfl rfl ?_)
        refine x_iadd C dL_begun_170 ?_
        refine x_aload_n C dL_begun_171 rfl 0 rfl ?_
        refine x_bipush (v := 45) C dL_begun_172 (by decide) ?_
        refine x_iload C dL_begun_174 4 rfl ?_
        refine x_iadd C dL_begun_176 ?_
        refine x_iload_n C dL_begun_177 rfl 2 rfl ?_
        obtain ⟨u2010, hu2010, hf⟩ := x_b hf
        refine x_callS (n := 3) (As := [.ref (g.2.2 6), .int ((45 : Int32) + x4), .int x2]) (rest := [.int ((1 : Int32) + u2009), .ref (a2 0), .int x3]) C (c_Q_in g l hl L xs hLg hxg ((45 : Int32) + x4) x2 hu2010) ⟨⟨wd_794, wd_792, wd_24⟩, ⟨by decide, by decide, by decide⟩, rfl, rfl, Nat.le_of_ble_eq_true rfl, Nat.le_of_ble_eq_true rfl⟩ wd_793 [ccO g a2 b3 y4 zL, stO g a2 10 vL, cdW g a2 10 cL, evW g a2 10 eL, stO g a2 20 v2L, cdW g a2 20 c2L, evW g a2 20 e2L, stO g a2 30 v3L, cdW g a2 30 c3L, evW g a2 30 e3L, hiO g a2 hL, hrW g a2 tL, stF g a2 vsL, cdF g a2 csL, evF g a2 esL, prO g b3 qL, caW g b3 t2L, cmF g b3 wsL, sbO g y4 z5 kL, baW g z5 16 fL] (x_pickD [0, 1, 2, 3, 4, 5, 6, 7, 8, 9, 10, 11, 12, 13, 14, 15, 16, 17, 18, 19] 20 rfl rfl rfl) rfl rfl (Nat.le_of_ble_eq_true rfl) ⟨by show _ ≤ 229; omega, by show _ ≤ 2093; omega⟩ dL_begun_178 (x_goD (wss2 := [ccO g a2 b3 y4 zL, stO g a2 10 vL, cdW g a2 10 cL, evW g a2 10 eL, stO g a2 20 v2L, cdW g a2 20 c2L, evW g a2 20 e2L, stO g a2 30 v3L, cdW g a2 30 c3L, evW g a2 30 e3L, hiO g a2 hL, hrW g a2 tL, stF g a2 vsL, cdF g a2 csL, evF g a2 esL, prO g b3 qL, caW g b3 t2L, cmF g b3 wsL, sbO g y4 z5 kL, baW g z5 16 fL]) (stk2 := [.int u2010, .int ((1 : Int32) + u2009), .ref (a2 0), .int x3]) rfl rfl ?_)
        refine x_aload_n C dL_begun_181 rfl 0 rfl ?_
        refine x_bipush (v := 52) C dL_begun_182 (by decide) ?_
        refine x_iload C dL_begun_184 4 rfl ?_
        refine x_iadd C dL_begun_186 ?_
        refine x_iconst (v := 3) C dL_begun_187 (by decide) ?_
        obtain ⟨u2011, hu2011, hf⟩ := x_b hf
        refine x_callS (n := 3) (As := [.ref (g.2.2 6), .int ((52 : Int32) + x4), .int (3 : Int32)]) (rest := [.int u2010, .int ((1 : Int32) + u2009), .ref (a2 0), .int x3]) C (c_Q_in g l hl L xs hLg hxg ((52 : Int32) + x4) (3 : Int32) hu2011) ⟨⟨wd_794, wd_792, wd_24⟩, ⟨by decide, by decide, by decide⟩, rfl, rfl, Nat.le_of_ble_eq_true rfl, Nat.le_of_ble_eq_true rfl⟩ wd_793 [ccO g a2 b3 y4 zL, stO g a2 10 vL, cdW g a2 10 cL, evW g a2 10 eL, stO g a2 20 v2L, cdW g a2 20 c2L, evW g a2 20 e2L, stO g a2 30 v3L, cdW g a2 30 c3L, evW g a2 30 e3L, hiO g a2 hL, hrW g a2 tL, stF g a2 vsL, cdF g a2 csL, evF g a2 esL, prO g b3 qL, caW g b3 t2L, cmF g b3 wsL, sbO g y4 z5 kL, baW g z5 16 fL] (x_pickD [0, 1, 2, 3, 4, 5, 6, 7, 8, 9, 10, 11, 12, 13, 14, 15, 16, 17, 18, 19] 20 rfl rfl rfl) rfl rfl (Nat.le_of_ble_eq_true rfl) ⟨by show _ ≤ 229; omega, by show _ ≤ 2093; omega⟩ dL_begun_188 (x_goD (wss2 := [ccO g a2 b3 y4 zL, stO g a2 10 vL, cdW g a2 10 cL, evW g a2 10 eL, stO g a2 20 v2L, cdW g a2 20 c2L, evW g a2 20 e2L, stO g a2 30 v3L, cdW g a2 30 c3L, evW g a2 30 e3L, hiO g a2 hL, hrW g a2 tL, stF g a2 vsL, cdF g a2 csL, evF g a2 esL, prO g b3 qL, caW g b3 t2L, cmF g b3 wsL, sbO g y4 z5 kL, baW g z5 16 fL]) (stk2 := [.int u2011, .int u2010, .int ((1 : Int32) + u2009), .ref (a2 0), .int x3]) rfl rfl ?_)
        refine x_if_le (tgt := 198) C dL_begun_191 (by decide) (fun h2012 => ?_) (fun h2012 => ?_)
        · have hf := x_t h2012 hf
          refine x_iconst (v := 0) C dL_begun_198 (by decide) ?_
          obtain ⟨u2013, hu2013, hf⟩ := x_b hf
          refine x_hcallS (n := 4) (As := [.ref (a2 0), .int ((1 : Int32) + u2009), .int u2010, .int (0 : Int32)]) (rest := [.int x3]) C (c_Q_schedule g l hl a2 b3 y4 zL vL cL eL hL tL vsL csL esL ((1 : Int32) + u2009) u2010 (0 : Int32) hu2013) ⟨⟨wd_699, wd_697, wd_24⟩, ⟨by decide, by decide, by decide⟩, rfl, rfl, Nat.le_of_ble_eq_true rfl, Nat.le_of_ble_eq_true rfl⟩ wd_698 [stO g a2 20 v2L, cdW g a2 20 c2L, evW g a2 20 e2L, stO g a2 30 v3L, cdW g a2 30 c3L, evW g a2 30 e3L, prO g b3 qL, caW g b3 t2L, cmF g b3 wsL, sbO g y4 z5 kL, baW g z5 16 fL] (x_pickD [0, 1, 2, 3, 10, 11, 12, 13, 14, 4, 5, 6, 7, 8, 9, 15, 16, 17, 18, 19] 20 rfl rfl rfl) rfl rfl (Nat.le_of_ble_eq_true rfl) ⟨by show _ ≤ 229; omega, by show _ ≤ 2093; omega⟩ dL_begun_199 (fun v9 w9 hQ9 => ?_)
          obtain ⟨rfl, rfl⟩ := hQ9
          refine x_goW (wss2 := [ccO g a2 b3 y4 zL, stO g a2 10 vL, cdW g a2 10 cL, evW g a2 10 u2013.2.1, hiO g a2 u2013.2.2.1, hrW g a2 tL, stF g a2 u2013.2.2.2.1, cdF g a2 u2013.2.2.2.2.1, evF g a2 u2013.2.2.2.2.2, stO g a2 20 v2L, cdW g a2 20 c2L, evW g a2 20 e2L, stO g a2 30 v3L, cdW g a2 30 c3L, evW g a2 30 e3L, prO g b3 qL, caW g b3 t2L, cmF g b3 wsL, sbO g y4 z5 kL, baW g z5 16 fL]) (stk2 := [.int u2013.1, .int x3]) rfl rfl rfl ?_
          refine x_iadd C dL_begun_202 ?_
          refine x_istore_n (lv' := [(3, .int (x3 + u2013.1)), (0, .ref (g.2.2 6)), (1, .ref (a2 0)), (2, .int x2), (4, .int x4)]) C dL_begun_203 rfl (by decide) rfl ?_
          refine x_iinc (v := x4 + 1) (lv' := [(4, .int (x4 + 1)), (3, .int (x3 + u2013.1)), (0, .ref (g.2.2 6)), (1, .ref (a2 0)), (2, .int x2)]) C dL_begun_204 4 rfl rfl (by decide) rfl ?_
          refine x_goto (tgt := 143) C dL_begun_207 (by decide) ?_
          refine x_perm (wss' := [ccO g a2 b3 y4 zL, stO g a2 10 vL, cdW g a2 10 cL, evW g a2 10 u2013.2.1, stO g a2 20 v2L, cdW g a2 20 c2L, evW g a2 20 e2L, stO g a2 30 v3L, cdW g a2 30 c3L, evW g a2 30 e3L, hiO g a2 u2013.2.2.1, hrW g a2 tL, stF g a2 u2013.2.2.2.1, cdF g a2 u2013.2.2.2.2.1, evF g a2 u2013.2.2.2.2.2, prO g b3 qL, caW g b3 t2L, cmF g b3 wsL, sbO g y4 z5 kL, baW g z5 16 fL]) (x_pick [0, 1, 2, 3, 9, 10, 11, 12, 13, 14, 4, 5, 6, 7, 8, 15, 16, 17, 18, 19] 20 rfl rfl rfl) ?_
          refine x_locals (lv' := [(0, .ref (g.2.2 6)), (1, .ref (a2 0)), (2, .int x2), (3, .int (x3 + u2013.1)), (4, .int (x4 + 1))]) [2, 3, 4, 1, 0] rfl ?_
          refine x_widen (k := kW + 1) (n := tW + 6) (by omega) (by omega) ?_
          exact ih (kW + 1) (tW + 6) zL vL cL u2013.2.1 v2L c2L e2L v3L c3L e3L u2013.2.2.1 tL u2013.2.2.2.1 u2013.2.2.2.2.1 u2013.2.2.2.2.2 qL t2L wsL kL fL x2 (x3 + u2013.1) (x4 + 1) (by omega) (by omega) hf
        · have hf := x_f h2012 hf
          refine x_iconst (v := 1) C dL_begun_194 (by decide) ?_
          refine x_goto (tgt := 199) C dL_begun_195 (by decide) ?_
          obtain ⟨u2014, hu2014, hf⟩ := x_b hf
          refine x_hcallS (n := 4) (As := [.ref (a2 0), .int ((1 : Int32) + u2009), .int u2010, .int (1 : Int32)]) (rest := [.int x3]) C (c_Q_schedule g l hl a2 b3 y4 zL vL cL eL hL tL vsL csL esL ((1 : Int32) + u2009) u2010 (1 : Int32) hu2014) ⟨⟨wd_699, wd_697, wd_24⟩, ⟨by decide, by decide, by decide⟩, rfl, rfl, Nat.le_of_ble_eq_true rfl, Nat.le_of_ble_eq_true rfl⟩ wd_698 [stO g a2 20 v2L, cdW g a2 20 c2L, evW g a2 20 e2L, stO g a2 30 v3L, cdW g a2 30 c3L, evW g a2 30 e3L, prO g b3 qL, caW g b3 t2L, cmF g b3 wsL, sbO g y4 z5 kL, baW g z5 16 fL] (x_pickD [0, 1, 2, 3, 10, 11, 12, 13, 14, 4, 5, 6, 7, 8, 9, 15, 16, 17, 18, 19] 20 rfl rfl rfl) rfl rfl (Nat.le_of_ble_eq_true rfl) ⟨by show _ ≤ 229; omega, by show _ ≤ 2093; omega⟩ dL_begun_199 (fun v9 w9 hQ9 => ?_)
          obtain ⟨rfl, rfl⟩ := hQ9
          refine x_goW (wss2 := [ccO g a2 b3 y4 zL, stO g a2 10 vL, cdW g a2 10 cL, evW g a2 10 u2014.2.1, hiO g a2 u2014.2.2.1, hrW g a2 tL, stF g a2 u2014.2.2.2.1, cdF g a2 u2014.2.2.2.2.1, evF g a2 u2014.2.2.2.2.2, stO g a2 20 v2L, cdW g a2 20 c2L, evW g a2 20 e2L, stO g a2 30 v3L, cdW g a2 30 c3L, evW g a2 30 e3L, prO g b3 qL, caW g b3 t2L, cmF g b3 wsL, sbO g y4 z5 kL, baW g z5 16 fL]) (stk2 := [.int u2014.1, .int x3]) rfl rfl rfl ?_
          refine x_iadd C dL_begun_202 ?_
          refine x_istore_n (lv' := [(3, .int (x3 + u2014.1)), (0, .ref (g.2.2 6)), (1, .ref (a2 0)), (2, .int x2), (4, .int x4)]) C dL_begun_203 rfl (by decide) rfl ?_
          refine x_iinc (v := x4 + 1) (lv' := [(4, .int (x4 + 1)), (3, .int (x3 + u2014.1)), (0, .ref (g.2.2 6)), (1, .ref (a2 0)), (2, .int x2)]) C dL_begun_204 4 rfl rfl (by decide) rfl ?_
          refine x_goto (tgt := 143) C dL_begun_207 (by decide) ?_
          refine x_perm (wss' := [ccO g a2 b3 y4 zL, stO g a2 10 vL, cdW g a2 10 cL, evW g a2 10 u2014.2.1, stO g a2 20 v2L, cdW g a2 20 c2L, evW g a2 20 e2L, stO g a2 30 v3L, cdW g a2 30 c3L, evW g a2 30 e3L, hiO g a2 u2014.2.2.1, hrW g a2 tL, stF g a2 u2014.2.2.2.1, cdF g a2 u2014.2.2.2.2.1, evF g a2 u2014.2.2.2.2.2, prO g b3 qL, caW g b3 t2L, cmF g b3 wsL, sbO g y4 z5 kL, baW g z5 16 fL]) (x_pick [0, 1, 2, 3, 9, 10, 11, 12, 13, 14, 4, 5, 6, 7, 8, 15, 16, 17, 18, 19] 20 rfl rfl rfl) ?_
          refine x_locals (lv' := [(0, .ref (g.2.2 6)), (1, .ref (a2 0)), (2, .int x2), (3, .int (x3 + u2014.1)), (4, .int (x4 + 1))]) [2, 3, 4, 1, 0] rfl ?_
          refine x_widen (k := kW + 1) (n := tW + 6) (by omega) (by omega) ?_
          exact ih (kW + 1) (tW + 6) zL vL cL u2014.2.1 v2L c2L e2L v3L c3L e3L u2014.2.2.1 tL u2014.2.2.2.1 u2014.2.2.2.2.1 u2014.2.2.2.2.2 qL t2L wsL kL fL x2 (x3 + u2014.1) (x4 + 1) (by omega) (by omega) hf
  have hL22 : ∀ (nW kW tW : Nat) (zL : CcT) (vL : StS) (cL : CdT) (eL : EvT) (v2L : StS) (c2L : CdT) (e2L : EvT) (v3L : StS) (c3L : CdT) (e3L : EvT) (hL : HiT) (tL : Unit) (vsL : (Nat → StS)) (csL : (Nat → CdT)) (esL : (Nat → EvT)) (qL : PrT) (t2L : Unit) (wsL : (Nat → CmT)) (kL : SbT) (fL : (Nat → Int32)) (x2 : Int32) (x3 : Int32) (x4 : Int32), kW + 2 * nW + 34 ≤ 229 → tW + 12 * nW + 204 ≤ 2093 → f_Q_begun_22 L xs nW zL vL cL eL v2L c2L e2L v3L c3L e3L hL tL vsL csL esL qL t2L wsL kL fL x2 x3 x4 = some u → VW g (va_A ([] : List va_W).flatten sW.heap.size) 5 pW l eW ({ frames := 9, cells := 229, slots := 2093, locals := 157 } : Room) sW mW argsW belowW methW c9 kW tW (MQ belowW (xQc g ([] : List va_W).flatten sW.heap.size (fun v9 w9 => ∃ a9 : Nat → Nat, ∃ b9 : Nat → Nat, ∃ y9 : Nat, ∃ z9 : Nat, v9 = some (.ref (a9 0)) ∧ w9 = ([ccO g a9 b9 y9 u.1, stO g a9 10 u.2.1, cdW g a9 10 u.2.2.1, evW g a9 10 u.2.2.2.1, stO g a9 20 u.2.2.2.2.1, cdW g a9 20 u.2.2.2.2.2.1, evW g a9 20 u.2.2.2.2.2.2.1, stO g a9 30 u.2.2.2.2.2.2.2.1, cdW g a9 30 u.2.2.2.2.2.2.2.2.1, evW g a9 30 u.2.2.2.2.2.2.2.2.2.1, hiO g a9 u.2.2.2.2.2.2.2.2.2.2.1, hrW g a9 u.2.2.2.2.2.2.2.2.2.2.2.1, stF g a9 u.2.2.2.2.2.2.2.2.2.2.2.2.1, cdF g a9 u.2.2.2.2.2.2.2.2.2.2.2.2.2.1, evF g a9 u.2.2.2.2.2.2.2.2.2.2.2.2.2.2.1, prO g b9 u.2.2.2.2.2.2.2.2.2.2.2.2.2.2.2.1, caW g b9 u.2.2.2.2.2.2.2.2.2.2.2.2.2.2.2.2.1, cmF g b9 u.2.2.2.2.2.2.2.2.2.2.2.2.2.2.2.2.2.1, sbO g y9 z9 u.2.2.2.2.2.2.2.2.2.2.2.2.2.2.2.2.2.2.1, baW g z9 16 u.2.2.2.2.2.2.2.2.2.2.2.2.2.2.2.2.2.2.2] : List va_W).flatten)) argsW sW 229 2093 (va_A ([] : List va_W).flatten sW.heap.size)) [ccO g a2 b3 y4 zL, stO g a2 10 vL, cdW g a2 10 cL, evW g a2 10 eL, stO g a2 20 v2L, cdW g a2 20 c2L, evW g a2 20 e2L, stO g a2 30 v3L, cdW g a2 30 c3L, evW g a2 30 e3L, hiO g a2 hL, hrW g a2 tL, stF g a2 vsL, cdF g a2 csL, evF g a2 esL, prO g b3 qL, caW g b3 t2L, cmF g b3 wsL, sbO g y4 z5 kL, baW g z5 16 fL] [(0, .ref (g.2.2 6)), (1, .ref (a2 0)), (2, .int x2), (3, .int x3), (4, .int x4)] 22 [] := by
    intro nW
    induction nW with
    | zero => intro kW tW zL vL cL eL v2L c2L e2L v3L c3L e3L hL tL vsL csL esL qL t2L wsL kL fL x2 x3 x4 hkW htW hf; rw [f_Q_begun_22] at hf; cases hf
    | succ nW ih =>
      intro kW tW zL vL cL eL v2L c2L e2L v3L c3L e3L hL tL vsL csL esL qL t2L wsL kL fL x2 x3 x4 hkW htW hf
      rw [f_Q_begun_22] at hf
      refine x_iload C dL_begun_22 4 rfl ?_
      refine x_iload_n C dL_begun_24 rfl 2 rfl ?_
      refine x_icmp_ge (tgt := 126) C dL_begun_25 (by decide) (fun h1001 => ?_) (fun h1001 => ?_)
      · have hf := x_t h1001 hf
        refine x_iload_n C dL_begun_126 rfl 3 rfl ?_
        refine x_aload_n C dL_begun_127 rfl 1 rfl ?_
        refine x_aload_n C dL_begun_128 rfl 0 rfl ?_
        refine x_bipush (v := 36) C dL_begun_129 (by decide) ?_
        refine x_iconst (v := 4) C dL_begun_131 (by decide) ?_
        obtain ⟨u1002, hu1002, hf⟩ := x_b hf
        refine x_callS (n := 3) (As := [.ref (g.2.2 6), .int (36 : Int32), .int (4 : Int32)]) (rest := [.ref (a2 0), .int x3]) C (c_Q_in g l hl L xs hLg hxg (36 : Int32) (4 : Int32) hu1002) ⟨⟨wd_794, wd_792, wd_24⟩, ⟨by decide, by decide, by decide⟩, rfl, rfl, Nat.le_of_ble_eq_true rfl, Nat.le_of_ble_eq_true rfl⟩ wd_793 [ccO g a2 b3 y4 zL, stO g a2 10 vL, cdW g a2 10 cL, evW g a2 10 eL, stO g a2 20 v2L, cdW g a2 20 c2L, evW g a2 20 e2L, stO g a2 30 v3L, cdW g a2 30 c3L, evW g a2 30 e3L, hiO g a2 hL, hrW g a2 tL, stF g a2 vsL, cdF g a2 csL, evF g a2 esL, prO g b3 qL, caW g b3 t2L, cmF g b3 wsL, sbO g y4 z5 kL, baW g z5 16 fL] (x_pickD [0, 1, 2, 3, 4, 5, 6, 7, 8, 9, 10, 11, 12, 13, 14, 15, 16, 17, 18, 19] 20 rfl rfl rfl) rfl rfl (Nat.le_of_ble_eq_true rfl) ⟨by show _ ≤ 229; omega, by show _ ≤ 2093; omega⟩ dL_begun_132 (x_goD (wss2 := [ccO g a2 b3 y4 zL, stO g a2 10 vL, cdW g a2 10 cL, evW g a2 10 eL, stO g a2 20 v2L, cdW g a2 20 c2L, evW g a2 20 e2L, stO g a2 30 v3L, cdW g a2 30 c3L, evW g a2 30 e3L, hiO g a2 hL, hrW g a2 tL, stF g a2 vsL, cdF g a2 csL, evF g a2 esL, prO g b3 qL, caW g b3 t2L, cmF g b3 wsL, sbO g y4 z5 kL, baW g z5 16 fL]) (stk2 := [.int u1002, .ref (a2 0), .int x3]) rfl rfl ?_)
        obtain ⟨u1003, hu1003, hf⟩ := x_b hf
        refine x_hcallS (n := 2) (As := [.ref (a2 0), .int u1002]) (rest := [.int x3]) C (c_Q_setDraught g l hl a2 b3 y4 zL vL cL eL hL tL vsL csL esL u1002 hu1003) ⟨⟨wd_681, wd_679, wd_24⟩, ⟨by decide, by decide, by decide⟩, rfl, rfl, Nat.le_of_ble_eq_true rfl, Nat.le_of_ble_eq_true rfl⟩ wd_680 [stO g a2 20 v2L, cdW g a2 20 c2L, evW g a2 20 e2L, stO g a2 30 v3L, cdW g a2 30 c3L, evW g a2 30 e3L, prO g b3 qL, caW g b3 t2L, cmF g b3 wsL, sbO g y4 z5 kL, baW g z5 16 fL] (x_pickD [0, 1, 2, 3, 10, 11, 12, 13, 14, 4, 5, 6, 7, 8, 9, 15, 16, 17, 18, 19] 20 rfl rfl rfl) rfl rfl (Nat.le_of_ble_eq_true rfl) ⟨by show _ ≤ 229; omega, by show _ ≤ 2093; omega⟩ dL_begun_135 (fun v9 w9 hQ9 => ?_)
        obtain ⟨rfl, rfl⟩ := hQ9
        refine x_goW (wss2 := [ccO g a2 b3 y4 zL, stO g a2 10 u1003.2.1, cdW g a2 10 cL, evW g a2 10 eL, hiO g a2 u1003.2.2.1, hrW g a2 tL, stF g a2 u1003.2.2.2.1, cdF g a2 u1003.2.2.2.2.1, evF g a2 u1003.2.2.2.2.2, stO g a2 20 v2L, cdW g a2 20 c2L, evW g a2 20 e2L, stO g a2 30 v3L, cdW g a2 30 c3L, evW g a2 30 e3L, prO g b3 qL, caW g b3 t2L, cmF g b3 wsL, sbO g y4 z5 kL, baW g z5 16 fL]) (stk2 := [.int u1003.1, .int x3]) rfl rfl rfl ?_
        refine x_iadd C dL_begun_138 ?_
        refine x_istore_n (lv' := [(3, .int (x3 + u1003.1)), (0, .ref (g.2.2 6)), (1, .ref (a2 0)), (2, .int x2), (4, .int x4)]) C dL_begun_139 rfl (by decide) rfl ?_
        refine x_iconst (v := 0) C dL_begun_140 (by decide) ?_
        refine x_istore (lv' := [(4, .int (0 : Int32)), (3, .int (x3 + u1003.1)), (0, .ref (g.2.2 6)), (1, .ref (a2 0)), (2, .int x2)]) C dL_begun_141 (by decide) rfl ?_
        refine x_perm (wss' := [ccO g a2 b3 y4 zL, stO g a2 10 u1003.2.1, cdW g a2 10 cL, evW g a2 10 eL, stO g a2 20 v2L, cdW g a2 20 c2L, evW g a2 20 e2L, stO g a2 30 v3L, cdW g a2 30 c3L, evW g a2 30 e3L, hiO g a2 u1003.2.2.1, hrW g a2 tL, stF g a2 u1003.2.2.2.1, cdF g a2 u1003.2.2.2.2.1, evF g a2 u1003.2.2.2.2.2, prO g b3 qL, caW g b3 t2L, cmF g b3 wsL, sbO g y4 z5 kL, baW g z5 16 fL]) (x_pick [0, 1, 2, 3, 9, 10, 11, 12, 13, 14, 4, 5, 6, 7, 8, 15, 16, 17, 18, 19] 20 rfl rfl rfl) ?_
        refine x_locals (lv' := [(0, .ref (g.2.2 6)), (1, .ref (a2 0)), (2, .int x2), (3, .int (x3 + u1003.1)), (4, .int (0 : Int32))]) [2, 3, 4, 1, 0] rfl ?_
        refine x_widen (k := kW + 1) (n := tW + 6) (by omega) (by omega) ?_
        exact hL143 32 (kW + 1) (tW + 6) zL u1003.2.1 cL eL v2L c2L e2L v3L c3L e3L u1003.2.2.1 tL u1003.2.2.2.1 u1003.2.2.2.2.1 u1003.2.2.2.2.2 qL t2L wsL kL fL x2 (x3 + u1003.1) (0 : Int32) (by omega) (by omega) hf
      · have hf := x_f h1001 hf
        refine x_iload_n C dL_begun_28 rfl 3 rfl ?_
        refine x_aload_n C dL_begun_29 rfl 1 rfl ?_
        refine x_ldcS (tx := "satb") C (CX_str C ("CandleConcertLaw", 98, "satb", 12) (by decide)) dL_begun_30 ?_
        refine x_aload_n C dL_begun_32 rfl 0 rfl ?_
        refine x_iconst (v := 1) C dL_begun_33 (by decide) ?_
        refine x_iload C dL_begun_34 4 rfl ?_
        refine x_iadd C dL_begun_36 ?_
        refine x_iconst (v := 4) C dL_begun_37 (by decide) ?_
        obtain ⟨u1004, hu1004, hf⟩ := x_b hf
        refine x_callS (n := 3) (As := [.ref (g.2.2 6), .int ((1 : Int32) + x4), .int (4 : Int32)]) (rest := [.ref (g.2.2 (300 + 12)), .ref (a2 0), .int x3]) C (c_Q_in g l hl L xs hLg hxg ((1 : Int32) + x4) (4 : Int32) hu1004) ⟨⟨wd_794, wd_792, wd_24⟩, ⟨by decide, by decide, by decide⟩, rfl, rfl, Nat.le_of_ble_eq_true rfl, Nat.le_of_ble_eq_true rfl⟩ wd_793 [ccO g a2 b3 y4 zL, stO g a2 10 vL, cdW g a2 10 cL, evW g a2 10 eL, stO g a2 20 v2L, cdW g a2 20 c2L, evW g a2 20 e2L, stO g a2 30 v3L, cdW g a2 30 c3L, evW g a2 30 e3L, hiO g a2 hL, hrW g a2 tL, stF g a2 vsL, cdF g a2 csL, evF g a2 esL, prO g b3 qL, caW g b3 t2L, cmF g b3 wsL, sbO g y4 z5 kL, baW g z5 16 fL] (x_pickD [0, 1, 2, 3, 4, 5, 6, 7, 8, 9, 10, 11, 12, 13, 14, 15, 16, 17, 18, 19] 20 rfl rfl rfl) rfl rfl (Nat.le_of_ble_eq_true rfl) ⟨by show _ ≤ 229; omega, by show _ ≤ 2093; omega⟩ dL_begun_38 (x_goD (wss2 := [ccO g a2 b3 y4 zL, stO g a2 10 vL, cdW g a2 10 cL, evW g a2 10 eL, stO g a2 20 v2L, cdW g a2 20 c2L, evW g a2 20 e2L, stO g a2 30 v3L, cdW g a2 30 c3L, evW g a2 30 e3L, hiO g a2 hL, hrW g a2 tL, stF g a2 vsL, cdF g a2 csL, evF g a2 esL, prO g b3 qL, caW g b3 t2L, cmF g b3 wsL, sbO g y4 z5 kL, baW g z5 16 fL]) (stk2 := [.int u1004, .ref (g.2.2 (300 + 12)), .ref (a2 0), .int x3]) rfl rfl ?_)
        obtain ⟨u1005, hu1005, hf⟩ := x_b hf
        obtain ⟨h1006, hf⟩ := x_y hf
        refine x_callVR (n := 1) (As := [.int u1004]) (rest := [.ref (a2 0), .int x3]) C (c_J0_charAt_5068e g l 12 u1004 hu1005) ⟨⟨wd_1032, wd_1029, wd_36⟩, ⟨by decide, by decide, by decide⟩, rfl, rfl, Nat.le_of_ble_eq_true rfl, Nat.le_of_ble_eq_true rfl⟩ wd_1030 wd_1031 (CX_so C h1006).1 [ccO g a2 b3 y4 zL, stO g a2 10 vL, cdW g a2 10 cL, evW g a2 10 eL, stO g a2 20 v2L, cdW g a2 20 c2L, evW g a2 20 e2L, stO g a2 30 v3L, cdW g a2 30 c3L, evW g a2 30 e3L, hiO g a2 hL, hrW g a2 tL, stF g a2 vsL, cdF g a2 csL, evF g a2 esL, prO g b3 qL, caW g b3 t2L, cmF g b3 wsL, sbO g y4 z5 kL, baW g z5 16 fL] (x_pickD [0, 1, 2, 3, 4, 5, 6, 7, 8, 9, 10, 11, 12, 13, 14, 15, 16, 17, 18, 19] 20 rfl rfl rfl) rfl rfl (Nat.le_of_ble_eq_true rfl) ⟨by show _ ≤ 229; omega, by show _ ≤ 2093; omega⟩ dL_begun_41 (x_goD (wss2 := [ccO g a2 b3 y4 zL, stO g a2 10 vL, cdW g a2 10 cL, evW g a2 10 eL, stO g a2 20 v2L, cdW g a2 20 c2L, evW g a2 20 e2L, stO g a2 30 v3L, cdW g a2 30 c3L, evW g a2 30 e3L, hiO g a2 hL, hrW g a2 tL, stF g a2 vsL, cdF g a2 csL, evF g a2 esL, prO g b3 qL, caW g b3 t2L, cmF g b3 wsL, sbO g y4 z5 kL, baW g z5 16 fL]) (stk2 := [.int u1005, .ref (a2 0), .int x3]) rfl rfl ?_)
        refine x_iconst (v := 1) C dL_begun_44 (by decide) ?_
        refine x_aload_n C dL_begun_45 rfl 0 rfl ?_
        refine x_bipush (v := 8) C dL_begun_46 (by decide) ?_
        refine x_iload C dL_begun_48 4 rfl ?_
        refine x_iadd C dL_begun_50 ?_
        refine x_aload_n C dL_begun_51 rfl 0 rfl ?_
        refine x_bipush (v := 15) C dL_begun_52 (by decide) ?_
        refine x_iload C dL_begun_54 4 rfl ?_
        refine x_iadd C dL_begun_56 ?_
        refine x_iconst (v := 3) C dL_begun_57 (by decide) ?_
        obtain ⟨u1007, hu1007, hf⟩ := x_b hf
        refine x_callS (n := 3) (As := [.ref (g.2.2 6), .int ((15 : Int32) + x4), .int (3 : Int32)]) (rest := [.int ((8 : Int32) + x4), .ref (g.2.2 6), .int (1 : Int32), .int u1005, .ref (a2 0), .int x3]) C (c_Q_in g l hl L xs hLg hxg ((15 : Int32) + x4) (3 : Int32) hu1007) ⟨⟨wd_794, wd_792, wd_24⟩, ⟨by decide, by decide, by decide⟩, rfl, rfl, Nat.le_of_ble_eq_true rfl, Nat.le_of_ble_eq_true rfl⟩ wd_793 [ccO g a2 b3 y4 zL, stO g a2 10 vL, cdW g a2 10 cL, evW g a2 10 eL, stO g a2 20 v2L, cdW g a2 20 c2L, evW g a2 20 e2L, stO g a2 30 v3L, cdW g a2 30 c3L, evW g a2 30 e3L, hiO g a2 hL, hrW g a2 tL, stF g a2 vsL, cdF g a2 csL, evF g a2 esL, prO g b3 qL, caW g b3 t2L, cmF g b3 wsL, sbO g y4 z5 kL, baW g z5 16 fL] (x_pickD [0, 1, 2, 3, 4, 5, 6, 7, 8, 9, 10, 11, 12, 13, 14, 15, 16, 17, 18, 19] 20 rfl rfl rfl) rfl rfl (Nat.le_of_ble_eq_true rfl) ⟨by show _ ≤ 229; omega, by show _ ≤ 2093; omega⟩ dL_begun_58 (x_goD (wss2 := [ccO g a2 b3 y4 zL, stO g a2 10 vL, cdW g a2 10 cL, evW g a2 10 eL, stO g a2 20 v2L, cdW g a2 20 c2L, evW g a2 20 e2L, stO g a2 30 v3L, cdW g a2 30 c3L, evW g a2 30 e3L, hiO g a2 hL, hrW g a2 tL, stF g a2 vsL, cdF g a2 csL, evF g a2 esL, prO g b3 qL, caW g b3 t2L, cmF g b3 wsL, sbO g y4 z5 kL, baW g z5 16 fL]) (stk2 := [.int u1007, .int ((8 : Int32) + x4), .ref (g.2.2 6), .int (1 : Int32), .int u1005, .ref (a2 0), .int x3]) rfl rfl ?_)
        refine x_if_ne (tgt := 70) C dL_begun_61 (by decide) (fun h1008 => ?_) (fun h1008 => ?_)
        · have hf := x_f h1008 hf
          refine x_bipush (v := 40) C dL_begun_70 (by decide) ?_
          obtain ⟨u1009, hu1009, hf⟩ := x_b hf
          refine x_callS (n := 3) (As := [.ref (g.2.2 6), .int ((8 : Int32) + x4), .int (40 : Int32)]) (rest := [.int (1 : Int32), .int u1005, .ref (a2 0), .int x3]) C (c_Q_in g l hl L xs hLg hxg ((8 : Int32) + x4) (40 : Int32) hu1009) ⟨⟨wd_794, wd_792, wd_24⟩, ⟨by decide, by decide, by decide⟩, rfl, rfl, Nat.le_of_ble_eq_true rfl, Nat.le_of_ble_eq_true rfl⟩ wd_793 [ccO g a2 b3 y4 zL, stO g a2 10 vL, cdW g a2 10 cL, evW g a2 10 eL, stO g a2 20 v2L, cdW g a2 20 c2L, evW g a2 20 e2L, stO g a2 30 v3L, cdW g a2 30 c3L, evW g a2 30 e3L, hiO g a2 hL, hrW g a2 tL, stF g a2 vsL, cdF g a2 csL, evF g a2 esL, prO g b3 qL, caW g b3 t2L, cmF g b3 wsL, sbO g y4 z5 kL, baW g z5 16 fL] (x_pickD [0, 1, 2, 3, 4, 5, 6, 7, 8, 9, 10, 11, 12, 13, 14, 15, 16, 17, 18, 19] 20 rfl rfl rfl) rfl rfl (Nat.le_of_ble_eq_true rfl) ⟨by show _ ≤ 229; omega, by show _ ≤ 2093; omega⟩ dL_begun_72 (x_goD (wss2 := [ccO g a2 b3 y4 zL, stO g a2 10 vL, cdW g a2 10 cL, evW g a2 10 eL, stO g a2 20 v2L, cdW g a2 20 c2L, evW g a2 20 e2L, stO g a2 30 v3L, cdW g a2 30 c3L, evW g a2 30 e3L, hiO g a2 hL, hrW g a2 tL, stF g a2 vsL, cdF g a2 csL, evF g a2 esL, prO g b3 qL, caW g b3 t2L, cmF g b3 wsL, sbO g y4 z5 kL, baW g z5 16 fL]) (stk2 := [.int u1009, .int (1 : Int32), .int u1005, .ref (a2 0), .int x3]) rfl rfl ?_)
          refine x_iadd C dL_begun_75 ?_
          refine x_iconst (v := 1) C dL_begun_76 (by decide) ?_
          refine x_aload_n C dL_begun_77 rfl 0 rfl ?_
          refine x_bipush (v := 22) C dL_begun_78 (by decide) ?_
          refine x_iload C dL_begun_80 4 rfl ?_
          refine x_iadd C dL_begun_82 ?_
          refine x_bipush (v := 9) C dL_begun_83 (by decide) ?_
          obtain ⟨u1010, hu1010, hf⟩ := x_b hf
          refine x_callS (n := 3) (As := [.ref (g.2.2 6), .int ((22 : Int32) + x4), .int (9 : Int32)]) (rest := [.int (1 : Int32), .int ((1 : Int32) + u1009), .int u1005, .ref (a2 0), .int x3]) C (c_Q_in g l hl L xs hLg hxg ((22 : Int32) + x4) (9 : Int32) hu1010) ⟨⟨wd_794, wd_792, wd_24⟩, ⟨by decide, by decide, by decide⟩, rfl, rfl, Nat.le_of_ble_eq_true rfl, Nat.le_of_ble_eq_true rfl⟩ wd_793 [ccO g a2 b3 y4 zL, stO g a2 10 vL, cdW g a2 10 cL, evW g a2 10 eL, stO g a2 20 v2L, cdW g a2 20 c2L, evW g a2 20 e2L, stO g a2 30 v3L, cdW g a2 30 c3L, evW g a2 30 e3L, hiO g a2 hL, hrW g a2 tL, stF g a2 vsL, cdF g a2 csL, evF g a2 esL, prO g b3 qL, caW g b3 t2L, cmF g b3 wsL, sbO g y4 z5 kL, baW g z5 16 fL] (x_pickD [0, 1, 2, 3, 4, 5, 6, 7, 8, 9, 10, 11, 12, 13, 14, 15, 16, 17, 18, 19] 20 rfl rfl rfl) rfl rfl (Nat.le_of_ble_eq_true rfl) ⟨by show _ ≤ 229; omega, by show _ ≤ 2093; omega⟩ dL_begun_85 (x_goD (wss2 := [ccO g a2 b3 y4 zL, stO g a2 10 vL, cdW g a2 10 cL, evW g a2 10 eL, stO g a2 20 v2L, cdW g a2 20 c2L, evW g a2 20 e2L, stO g a2 30 v3L, cdW g a2 30 c3L, evW g a2 30 e3L, hiO g a2 hL, hrW g a2 tL, stF g a2 vsL, cdF g a2 csL, evF g a2 esL, prO g b3 qL, caW g b3 t2L, cmF g b3 wsL, sbO g y4 z5 kL, baW g z5 16 fL]) (stk2 := [.int u1010, .int (1 : Int32), .int ((1 : Int32) + u1009), .int u1005, .ref (a2 0), .int x3]) rfl rfl ?_)
          refine x_iadd C dL_begun_88 ?_
          obtain ⟨u1011, hu1011, hf⟩ := x_b hf
          refine x_hcallS (n := 4) (As := [.ref (a2 0), .int u1005, .int ((1 : Int32) + u1009), .int ((1 : Int32) + u1010)]) (rest := [.int x3]) C (c_Q_addCandle g l hl a2 b3 y4 zL vL cL eL hL tL vsL csL esL u1005 ((1 : Int32) + u1009) ((1 : Int32) + u1010) hu1011) ⟨⟨wd_1046, wd_1044, wd_24⟩, ⟨by decide, by decide, by decide⟩, rfl, rfl, Nat.le_of_ble_eq_true rfl, Nat.le_of_ble_eq_true rfl⟩ wd_1045 [stO g a2 20 v2L, cdW g a2 20 c2L, evW g a2 20 e2L, stO g a2 30 v3L, cdW g a2 30 c3L, evW g a2 30 e3L, prO g b3 qL, caW g b3 t2L, cmF g b3 wsL, sbO g y4 z5 kL, baW g z5 16 fL] (x_pickD [0, 1, 2, 3, 10, 11, 12, 13, 14, 4, 5, 6, 7, 8, 9, 15, 16, 17, 18, 19] 20 rfl rfl rfl) rfl rfl (Nat.le_of_ble_eq_true rfl) ⟨by show _ ≤ 229; omega, by show _ ≤ 2093; omega⟩ dL_begun_89 (fun v9 w9 hQ9 => ?_)
          obtain ⟨rfl, rfl⟩ := hQ9
          refine x_goW (wss2 := [ccO g a2 b3 y4 zL, stO g a2 10 u1011.2.1, cdW g a2 10 u1011.2.2.1, evW g a2 10 eL, hiO g a2 u1011.2.2.2.1, hrW g a2 tL, stF g a2 u1011.2.2.2.2.1, cdF g a2 u1011.2.2.2.2.2.1, evF g a2 u1011.2.2.2.2.2.2, stO g a2 20 v2L, cdW g a2 20 c2L, evW g a2 20 e2L, stO g a2 30 v3L, cdW g a2 30 c3L, evW g a2 30 e3L, prO g b3 qL, caW g b3 t2L, cmF g b3 wsL, sbO g y4 z5 kL, baW g z5 16 fL]) (stk2 := [.int u1011.1, .int x3]) rfl rfl rfl ?_
          refine x_iadd C dL_begun_92 ?_
          refine x_istore_n (lv' := [(3, .int (x3 + u1011.1)), (0, .ref (g.2.2 6)), (1, .ref (a2 0)), (2, .int x2), (4, .int x4)]) C dL_begun_93 rfl (by decide) rfl ?_
          refine x_iload_n C dL_begun_94 rfl 0 rfl ?_
          refine x_aload_n C dL_begun_95 rfl 1 rfl ?_
          refine x_bipush (v := 29) C dL_begun_96 (by decide) ?_
          refine x_iload C dL_begun_98 4 rfl ?_
          refine x_iadd C dL_begun_100 ?_
          refine x_iconst (v := 2) C dL_begun_101 (by decide) ?_
          obtain ⟨u1012, hu1012, hf⟩ := x_b hf
          refine x_callS (n := 3) (As := [.ref (g.2.2 6), .int ((29 : Int32) + x4), .int (2 : Int32)]) (rest := [.int (x3 + u1011.1)]) C (c_Q_in g l hl L xs hLg hxg ((29 : Int32) + x4) (2 : Int32) hu1012) ⟨⟨wd_794, wd_792, wd_24⟩, ⟨by decide, by decide, by decide⟩, rfl, rfl, Nat.le_of_ble_eq_true rfl, Nat.le_of_ble_eq_true rfl⟩ wd_793 [ccO g a2 b3 y4 zL, stO g a2 10 u1011.2.1, cdW g a2 10 u1011.2.2.1, evW g a2 10 eL, hiO g a2 u1011.2.2.2.1, hrW g a2 tL, stF g a2 u1011.2.2.2.2.1, cdF g a2 u1011.2.2.2.2.2.1, evF g a2 u1011.2.2.2.2.2.2, stO g a2 20 v2L, cdW g a2 20 c2L, evW g a2 20 e2L, stO g a2 30 v3L, cdW g a2 30 c3L, evW g a2 30 e3L, prO g b3 qL, caW g b3 t2L, cmF g b3 wsL, sbO g y4 z5 kL, baW g z5 16 fL] (x_pickD [0, 1, 2, 3, 4, 5, 6, 7, 8, 9, 10, 11, 12, 13, 14, 15, 16, 17, 18, 19] 20 rfl rfl rfl) rfl rfl (Nat.le_of_ble_eq_true rfl) ⟨by show _ ≤ 229; omega, by show _ ≤ 2093; omega⟩ dL_begun_102 (x_goD (wss2 := [ccO g a2 b3 y4 zL, stO g a2 10 u1011.2.1, cdW g a2 10 u1011.2.2.1, evW g a2 10 eL, hiO g a2 u1011.2.2.2.1, hrW g a2 tL, stF g a2 u1011.2.2.2.2.1, cdF g a2 u1011.2.2.2.2.2.1, evF g a2 u1011.2.2.2.2.2.2, stO g a2 20 v2L, cdW g a2 20 c2L, evW g a2 20 e2L, stO g a2 30 v3L, cdW g a2 30 c3L, evW g a2 30 e3L, prO g b3 qL, caW g b3 t2L, cmF g b3 wsL, sbO g y4 z5 kL, baW g z5 16 fL]) (stk2 := [.int u1012, .int (x3 + u1011.1)]) rfl rfl ?_)
          refine x_if_ne (tgt := 117) C dL_begun_105 (by decide) (fun h1013 => ?_) (fun h1013 => ?_)
          · have hf := x_f h1013 hf
            refine x_iconst (v := 0) C dL_begun_117 (by decide) ?_
            refine x_iadd C dL_begun_118 ?_
            refine x_istore_n (lv' := [(3, .int ((x3 + u1011.1) + (0 : Int32))), (0, .ref (g.2.2 6)), (1, .ref (a2 0)), (2, .int x2), (4, .int x4)]) C dL_begun_119 rfl (by decide) rfl ?_
            refine x_iinc (v := x4 + 1) (lv' := [(4, .int (x4 + 1)), (3, .int ((x3 + u1011.1) + (0 : Int32))), (0, .ref (g.2.2 6)), (1, .ref (a2 0)), (2, .int x2)]) C dL_begun_120 4 rfl rfl (by decide) rfl ?_
            refine x_goto (tgt := 22) C dL_begun_123 (by decide) ?_
            refine x_perm (wss' := [ccO g a2 b3 y4 zL, stO g a2 10 u1011.2.1, cdW g a2 10 u1011.2.2.1, evW g a2 10 eL, stO g a2 20 v2L, cdW g a2 20 c2L, evW g a2 20 e2L, stO g a2 30 v3L, cdW g a2 30 c3L, evW g a2 30 e3L, hiO g a2 u1011.2.2.2.1, hrW g a2 tL, stF g a2 u1011.2.2.2.2.1, cdF g a2 u1011.2.2.2.2.2.1, evF g a2 u1011.2.2.2.2.2.2, prO g b3 qL, caW g b3 t2L, cmF g b3 wsL, sbO g y4 z5 kL, baW g z5 16 fL]) (x_pick [0, 1, 2, 3, 9, 10, 11, 12, 13, 14, 4, 5, 6, 7, 8, 15, 16, 17, 18, 19] 20 rfl rfl rfl) ?_
            refine x_locals (lv' := [(0, .ref (g.2.2 6)), (1, .ref (a2 0)), (2, .int x2), (3, .int ((x3 + u1011.1) + (0 : Int32))), (4, .int (x4 + 1))]) [2, 3, 4, 1, 0] rfl ?_
            refine x_widen (k := kW + 2) (n := tW + 12) (by omega) (by omega) ?_
            exact ih (kW + 2) (tW + 12) zL u1011.2.1 u1011.2.2.1 eL v2L c2L e2L v3L c3L e3L u1011.2.2.2.1 tL u1011.2.2.2.2.1 u1011.2.2.2.2.2.1 u1011.2.2.2.2.2.2 qL t2L wsL kL fL x2 ((x3 + u1011.1) + (0 : Int32)) (x4 + 1) (by omega) (by omega) hf
          · have hf := x_t h1013 hf
            refine x_aload_n C dL_begun_108 rfl 2 rfl ?_
            refine x_iload C dL_begun_109 4 rfl ?_
            obtain ⟨u1014, hu1014, hf⟩ := x_b hf
            refine x_hcallS (n := 2) (As := [.ref (a2 0), .int x4]) (rest := [.int (x3 + u1011.1)]) C (c_Q_light g l hl a2 b3 y4 zL u1011.2.1 u1011.2.2.1 eL u1011.2.2.2.1 tL u1011.2.2.2.2.1 u1011.2.2.2.2.2.1 u1011.2.2.2.2.2.2 x4 hu1014) ⟨⟨wd_575, wd_573, wd_24⟩, ⟨by decide, by decide, by decide⟩, rfl, rfl, Nat.le_of_ble_eq_true rfl, Nat.le_of_ble_eq_true rfl⟩ wd_574 [stO g a2 20 v2L, cdW g a2 20 c2L, evW g a2 20 e2L, stO g a2 30 v3L, cdW g a2 30 c3L, evW g a2 30 e3L, prO g b3 qL, caW g b3 t2L, cmF g b3 wsL, sbO g y4 z5 kL, baW g z5 16 fL] (x_pickD [0, 1, 2, 3, 4, 5, 6, 7, 8, 9, 10, 11, 12, 13, 14, 15, 16, 17, 18, 19] 20 rfl rfl rfl) rfl rfl (Nat.le_of_ble_eq_true rfl) ⟨by show _ ≤ 229; omega, by show _ ≤ 2093; omega⟩ dL_begun_111 (fun v9 w9 hQ9 => ?_)
            obtain ⟨rfl, rfl⟩ := hQ9
            refine x_goW (wss2 := [ccO g a2 b3 y4 zL, stO g a2 10 u1011.2.1, cdW g a2 10 u1014.2.1, evW g a2 10 eL, hiO g a2 u1014.2.2.1, hrW g a2 tL, stF g a2 u1014.2.2.2.1, cdF g a2 u1014.2.2.2.2.1, evF g a2 u1014.2.2.2.2.2, stO g a2 20 v2L, cdW g a2 20 c2L, evW g a2 20 e2L, stO g a2 30 v3L, cdW g a2 30 c3L, evW g a2 30 e3L, prO g b3 qL, caW g b3 t2L, cmF g b3 wsL, sbO g y4 z5 kL, baW g z5 16 fL]) (stk2 := [.int u1014.1, .int (x3 + u1011.1)]) rfl rfl rfl ?_
            refine x_goto (tgt := 118) C dL_begun_114 (by decide) ?_
            refine x_iadd C dL_begun_118 ?_
            refine x_istore_n (lv' := [(3, .int ((x3 + u1011.1) + u1014.1)), (0, .ref (g.2.2 6)), (1, .ref (a2 0)), (2, .int x2), (4, .int x4)]) C dL_begun_119 rfl (by decide) rfl ?_
            refine x_iinc (v := x4 + 1) (lv' := [(4, .int (x4 + 1)), (3, .int ((x3 + u1011.1) + u1014.1)), (0, .ref (g.2.2 6)), (1, .ref (a2 0)), (2, .int x2)]) C dL_begun_120 4 rfl rfl (by decide) rfl ?_
            refine x_goto (tgt := 22) C dL_begun_123 (by decide) ?_
            refine x_perm (wss' := [ccO g a2 b3 y4 zL, stO g a2 10 u1011.2.1, cdW g a2 10 u1014.2.1, evW g a2 10 eL, stO g a2 20 v2L, cdW g a2 20 c2L, evW g a2 20 e2L, stO g a2 30 v3L, cdW g a2 30 c3L, evW g a2 30 e3L, hiO g a2 u1014.2.2.1, hrW g a2 tL, stF g a2 u1014.2.2.2.1, cdF g a2 u1014.2.2.2.2.1, evF g a2 u1014.2.2.2.2.2, prO g b3 qL, caW g b3 t2L, cmF g b3 wsL, sbO g y4 z5 kL, baW g z5 16 fL]) (x_pick [0, 1, 2, 3, 9, 10, 11, 12, 13, 14, 4, 5, 6, 7, 8, 15, 16, 17, 18, 19] 20 rfl rfl rfl) ?_
            refine x_locals (lv' := [(0, .ref (g.2.2 6)), (1, .ref (a2 0)), (2, .int x2), (3, .int ((x3 + u1011.1) + u1014.1)), (4, .int (x4 + 1))]) [2, 3, 4, 1, 0] rfl ?_
            refine x_widen (k := kW + 2) (n := tW + 12) (by omega) (by omega) ?_
            exact ih (kW + 2) (tW + 12) zL u1011.2.1 u1014.2.1 eL v2L c2L e2L v3L c3L e3L u1014.2.2.1 tL u1014.2.2.2.1 u1014.2.2.2.2.1 u1014.2.2.2.2.2 qL t2L wsL kL fL x2 ((x3 + u1011.1) + u1014.1) (x4 + 1) (by omega) (by omega) hf
        · have hf := x_t h1008 hf
          refine x_sipush (v := 300) C dL_begun_64 (by decide) ?_
          refine x_goto (tgt := 72) C dL_begun_67 (by decide) ?_
          obtain ⟨u1015, hu1015, hf⟩ := x_b hf
          refine x_callS (n := 3) (As := [.ref (g.2.2 6), .int ((8 : Int32) + x4), .int (300 : Int32)]) (rest := [.int (1 : Int32), .int u1005, .ref (a2 0), .int x3]) C (c_Q_in g l hl L xs hLg hxg ((8 : Int32) + x4) (300 : Int32) hu1015) ⟨⟨wd_794, wd_792, wd_24⟩, ⟨by decide, by decide, by decide⟩, rfl, rfl, Nat.le_of_ble_eq_true rfl, Nat.le_of_ble_eq_true rfl⟩ wd_793 [ccO g a2 b3 y4 zL, stO g a2 10 vL, cdW g a2 10 cL, evW g a2 10 eL, stO g a2 20 v2L, cdW g a2 20 c2L, evW g a2 20 e2L, stO g a2 30 v3L, cdW g a2 30 c3L, evW g a2 30 e3L, hiO g a2 hL, hrW g a2 tL, stF g a2 vsL, cdF g a2 csL, evF g a2 esL, prO g b3 qL, caW g b3 t2L, cmF g b3 wsL, sbO g y4 z5 kL, baW g z5 16 fL] (x_pickD [0, 1, 2, 3, 4, 5, 6, 7, 8, 9, 10, 11, 12, 13, 14, 15, 16, 17, 18, 19] 20 rfl rfl rfl) rfl rfl (Nat.le_of_ble_eq_true rfl) ⟨by show _ ≤ 229; omega, by show _ ≤ 2093; omega⟩ dL_begun_72 (x_goD (wss2 := [ccO g a2 b3 y4 zL, stO g a2 10 vL, cdW g a2 10 cL, evW g a2 10 eL, stO g a2 20 v2L, cdW g a2 20 c2L, evW g a2 20 e2L, stO g a2 30 v3L, cdW g a2 30 c3L, evW g a2 30 e3L, hiO g a2 hL, hrW g a2 tL, stF g a2 vsL, cdF g a2 csL, evF g a2 esL, prO g b3 qL, caW g b3 t2L, cmF g b3 wsL, sbO g y4 z5 kL, baW g z5 16 fL]) (stk2 := [.int u1015, .int (1 : Int32), .int u1005, .ref (a2 0), .int x3]) rfl rfl ?_)
          refine x_iadd C dL_begun_75 ?_
          refine x_iconst (v := 1) C dL_begun_76 (by decide) ?_
          refine x_aload_n C dL_begun_77 rfl 0 rfl ?_
          refine x_bipush (v := 22) C dL_begun_78 (by decide) ?_
          refine x_iload C dL_begun_80 4 rfl ?_
          refine x_iadd C dL_begun_82 ?_
          refine x_bipush (v := 9) C dL_begun_83 (by decide) ?_
          obtain ⟨u1016, hu1016, hf⟩ := x_b hf
          refine x_callS (n := 3) (As := [.ref (g.2.2 6), .int ((22 : Int32) + x4), .int (9 : Int32)]) (rest := [.int (1 : Int32), .int ((1 : Int32) + u1015), .int u1005, .ref (a2 0), .int x3]) C (c_Q_in g l hl L xs hLg hxg ((22 : Int32) + x4) (9 : Int32) hu1016) ⟨⟨wd_794, wd_792, wd_24⟩, ⟨by decide, by decide, by decide⟩, rfl, rfl, Nat.le_of_ble_eq_true rfl, Nat.le_of_ble_eq_true rfl⟩ wd_793 [ccO g a2 b3 y4 zL, stO g a2 10 vL, cdW g a2 10 cL, evW g a2 10 eL, stO g a2 20 v2L, cdW g a2 20 c2L, evW g a2 20 e2L, stO g a2 30 v3L, cdW g a2 30 c3L, evW g a2 30 e3L, hiO g a2 hL, hrW g a2 tL, stF g a2 vsL, cdF g a2 csL, evF g a2 esL, prO g b3 qL, caW g b3 t2L, cmF g b3 wsL, sbO g y4 z5 kL, baW g z5 16 fL] (x_pickD [0, 1, 2, 3, 4, 5, 6, 7, 8, 9, 10, 11, 12, 13, 14, 15, 16, 17, 18, 19] 20 rfl rfl rfl) rfl rfl (Nat.le_of_ble_eq_true rfl) ⟨by show _ ≤ 229; omega, by show _ ≤ 2093; omega⟩ dL_begun_85 (x_goD (wss2 := [ccO g a2 b3 y4 zL, stO g a2 10 vL, cdW g a2 10 cL, evW g a2 10 eL, stO g a2 20 v2L, cdW g a2 20 c2L, evW g a2 20 e2L, stO g a2 30 v3L, cdW g a2 30 c3L, evW g a2 30 e3L, hiO g a2 hL, hrW g a2 tL, stF g a2 vsL, cdF g a2 csL, evF g a2 esL, prO g b3 qL, caW g b3 t2L, cmF g b3 wsL, sbO g y4 z5 kL, baW g z5 16 fL]) (stk2 := [.int u1016, .int (1 : Int32), .int ((1 : Int32) + u1015), .int u1005, .ref (a2 0), .int x3]) rfl rfl ?_)
          refine x_iadd C dL_begun_88 ?_
          obtain ⟨u1017, hu1017, hf⟩ := x_b hf
          refine x_hcallS (n := 4) (As := [.ref (a2 0), .int u1005, .int ((1 : Int32) + u1015), .int ((1 : Int32) + u1016)]) (rest := [.int x3]) C (c_Q_addCandle g l hl a2 b3 y4 zL vL cL eL hL tL vsL csL esL u1005 ((1 : Int32) + u1015) ((1 : Int32) + u1016) hu1017) ⟨⟨wd_1046, wd_1044, wd_24⟩, ⟨by decide, by decide, by decide⟩, rfl, rfl, Nat.le_of_ble_eq_true rfl, Nat.le_of_ble_eq_true rfl⟩ wd_1045 [stO g a2 20 v2L, cdW g a2 20 c2L, evW g a2 20 e2L, stO g a2 30 v3L, cdW g a2 30 c3L, evW g a2 30 e3L, prO g b3 qL, caW g b3 t2L, cmF g b3 wsL, sbO g y4 z5 kL, baW g z5 16 fL] (x_pickD [0, 1, 2, 3, 10, 11, 12, 13, 14, 4, 5, 6, 7, 8, 9, 15, 16, 17, 18, 19] 20 rfl rfl rfl) rfl rfl (Nat.le_of_ble_eq_true rfl) ⟨by show _ ≤ 229; omega, by show _ ≤ 2093; omega⟩ dL_begun_89 (fun v9 w9 hQ9 => ?_)
          obtain ⟨rfl, rfl⟩ := hQ9
          refine x_goW (wss2 := [ccO g a2 b3 y4 zL, stO g a2 10 u1017.2.1, cdW g a2 10 u1017.2.2.1, evW g a2 10 eL, hiO g a2 u1017.2.2.2.1, hrW g a2 tL, stF g a2 u1017.2.2.2.2.1, cdF g a2 u1017.2.2.2.2.2.1, evF g a2 u1017.2.2.2.2.2.2, stO g a2 20 v2L, cdW g a2 20 c2L, evW g a2 20 e2L, stO g a2 30 v3L, cdW g a2 30 c3L, evW g a2 30 e3L, prO g b3 qL, caW g b3 t2L, cmF g b3 wsL, sbO g y4 z5 kL, baW g z5 16 fL]) (stk2 := [.int u1017.1, .int x3]) rfl rfl rfl ?_
          refine x_iadd C dL_begun_92 ?_
          refine x_istore_n (lv' := [(3, .int (x3 + u1017.1)), (0, .ref (g.2.2 6)), (1, .ref (a2 0)), (2, .int x2), (4, .int x4)]) C dL_begun_93 rfl (by decide) rfl ?_
          refine x_iload_n C dL_begun_94 rfl 0 rfl ?_
          refine x_aload_n C dL_begun_95 rfl 1 rfl ?_
          refine x_bipush (v := 29) C dL_begun_96 (by decide) ?_
          refine x_iload C dL_begun_98 4 rfl ?_
          refine x_iadd C dL_begun_100 ?_
          refine x_iconst (v := 2) C dL_begun_101 (by decide) ?_
          obtain ⟨u1018, hu1018, hf⟩ := x_b hf
          refine x_callS (n := 3) (As := [.ref (g.2.2 6), .int ((29 : Int32) + x4), .int (2 : Int32)]) (rest := [.int (x3 + u1017.1)]) C (c_Q_in g l hl L xs hLg hxg ((29 : Int32) + x4) (2 : Int32) hu1018) ⟨⟨wd_794, wd_792, wd_24⟩, ⟨by decide, by decide, by decide⟩, rfl, rfl, Nat.le_of_ble_eq_true rfl, Nat.le_of_ble_eq_true rfl⟩ wd_793 [ccO g a2 b3 y4 zL, stO g a2 10 u1017.2.1, cdW g a2 10 u1017.2.2.1, evW g a2 10 eL, hiO g a2 u1017.2.2.2.1, hrW g a2 tL, stF g a2 u1017.2.2.2.2.1, cdF g a2 u1017.2.2.2.2.2.1, evF g a2 u1017.2.2.2.2.2.2, stO g a2 20 v2L, cdW g a2 20 c2L, evW g a2 20 e2L, stO g a2 30 v3L, cdW g a2 30 c3L, evW g a2 30 e3L, prO g b3 qL, caW g b3 t2L, cmF g b3 wsL, sbO g y4 z5 kL, baW g z5 16 fL] (x_pickD [0, 1, 2, 3, 4, 5, 6, 7, 8, 9, 10, 11, 12, 13, 14, 15, 16, 17, 18, 19] 20 rfl rfl rfl) rfl rfl (Nat.le_of_ble_eq_true rfl) ⟨by show _ ≤ 229; omega, by show _ ≤ 2093; omega⟩ dL_begun_102 (x_goD (wss2 := [ccO g a2 b3 y4 zL, stO g a2 10 u1017.2.1, cdW g a2 10 u1017.2.2.1, evW g a2 10 eL, hiO g a2 u1017.2.2.2.1, hrW g a2 tL, stF g a2 u1017.2.2.2.2.1, cdF g a2 u1017.2.2.2.2.2.1, evF g a2 u1017.2.2.2.2.2.2, stO g a2 20 v2L, cdW g a2 20 c2L, evW g a2 20 e2L, stO g a2 30 v3L, cdW g a2 30 c3L, evW g a2 30 e3L, prO g b3 qL, caW g b3 t2L, cmF g b3 wsL, sbO g y4 z5 kL, baW g z5 16 fL]) (stk2 := [.int u1018, .int (x3 + u1017.1)]) rfl rfl ?_)
          refine x_if_ne (tgt := 117) C dL_begun_105 (by decide) (fun h1019 => ?_) (fun h1019 => ?_)
          · have hf := x_f h1019 hf
            refine x_iconst (v := 0) C dL_begun_117 (by decide) ?_
            refine x_iadd C dL_begun_118 ?_
            refine x_istore_n (lv' := [(3, .int ((x3 + u1017.1) + (0 : Int32))), (0, .ref (g.2.2 6)), (1, .ref (a2 0)), (2, .int x2), (4, .int x4)]) C dL_begun_119 rfl (by decide) rfl ?_
            refine x_iinc (v := x4 + 1) (lv' := [(4, .int (x4 + 1)), (3, .int ((x3 + u1017.1) + (0 : Int32))), (0, .ref (g.2.2 6)), (1, .ref (a2 0)), (2, .int x2)]) C dL_begun_120 4 rfl rfl (by decide) rfl ?_
            refine x_goto (tgt := 22) C dL_begun_123 (by decide) ?_
            refine x_perm (wss' := [ccO g a2 b3 y4 zL, stO g a2 10 u1017.2.1, cdW g a2 10 u1017.2.2.1, evW g a2 10 eL, stO g a2 20 v2L, cdW g a2 20 c2L, evW g a2 20 e2L, stO g a2 30 v3L, cdW g a2 30 c3L, evW g a2 30 e3L, hiO g a2 u1017.2.2.2.1, hrW g a2 tL, stF g a2 u1017.2.2.2.2.1, cdF g a2 u1017.2.2.2.2.2.1, evF g a2 u1017.2.2.2.2.2.2, prO g b3 qL, caW g b3 t2L, cmF g b3 wsL, sbO g y4 z5 kL, baW g z5 16 fL]) (x_pick [0, 1, 2, 3, 9, 10, 11, 12, 13, 14, 4, 5, 6, 7, 8, 15, 16, 17, 18, 19] 20 rfl rfl rfl) ?_
            refine x_locals (lv' := [(0, .ref (g.2.2 6)), (1, .ref (a2 0)), (2, .int x2), (3, .int ((x3 + u1017.1) + (0 : Int32))), (4, .int (x4 + 1))]) [2, 3, 4, 1, 0] rfl ?_
            refine x_widen (k := kW + 2) (n := tW + 12) (by omega) (by omega) ?_
            exact ih (kW + 2) (tW + 12) zL u1017.2.1 u1017.2.2.1 eL v2L c2L e2L v3L c3L e3L u1017.2.2.2.1 tL u1017.2.2.2.2.1 u1017.2.2.2.2.2.1 u1017.2.2.2.2.2.2 qL t2L wsL kL fL x2 ((x3 + u1017.1) + (0 : Int32)) (x4 + 1) (by omega) (by omega) hf
          · have hf := x_t h1019 hf
            refine x_aload_n C dL_begun_108 rfl 2 rfl ?_
            refine x_iload C dL_begun_109 4 rfl ?_
            obtain ⟨u1020, hu1020, hf⟩ := x_b hf
            refine x_hcallS (n := 2) (As := [.ref (a2 0), .int x4]) (rest := [.int (x3 + u1017.1)]) C (c_Q_light g l hl a2 b3 y4 zL u1017.2.1 u1017.2.2.1 eL u1017.2.2.2.1 tL u1017.2.2.2.2.1 u1017.2.2.2.2.2.1 u1017.2.2.2.2.2.2 x4 hu1020) ⟨⟨wd_575, wd_573, wd_24⟩, ⟨by decide, by decide, by decide⟩, rfl, rfl, Nat.le_of_ble_eq_true rfl, Nat.le_of_ble_eq_true rfl⟩ wd_574 [stO g a2 20 v2L, cdW g a2 20 c2L, evW g a2 20 e2L, stO g a2 30 v3L, cdW g a2 30 c3L, evW g a2 30 e3L, prO g b3 qL, caW g b3 t2L, cmF g b3 wsL, sbO g y4 z5 kL, baW g z5 16 fL] (x_pickD [0, 1, 2, 3, 4, 5, 6, 7, 8, 9, 10, 11, 12, 13, 14, 15, 16, 17, 18, 19] 20 rfl rfl rfl) rfl rfl (Nat.le_of_ble_eq_true rfl) ⟨by show _ ≤ 229; omega, by show _ ≤ 2093; omega⟩ dL_begun_111 (fun v9 w9 hQ9 => ?_)
            obtain ⟨rfl, rfl⟩ := hQ9
            refine x_goW (wss2 := [ccO g a2 b3 y4 zL, stO g a2 10 u1017.2.1, cdW g a2 10 u1020.2.1, evW g a2 10 eL, hiO g a2 u1020.2.2.1, hrW g a2 tL, stF g a2 u1020.2.2.2.1, cdF g a2 u1020.2.2.2.2.1, evF g a2 u1020.2.2.2.2.2, stO g a2 20 v2L, cdW g a2 20 c2L, evW g a2 20 e2L, stO g a2 30 v3L, cdW g a2 30 c3L, evW g a2 30 e3L, prO g b3 qL, caW g b3 t2L, cmF g b3 wsL, sbO g y4 z5 kL, baW g z5 16 fL]) (stk2 := [.int u1020.1, .int (x3 + u1017.1)]) rfl rfl rfl ?_
            refine x_goto (tgt := 118) C dL_begun_114 (by decide) ?_
            refine x_iadd C dL_begun_118 ?_
            refine x_istore_n (lv' := [(3, .int ((x3 + u1017.1) + u1020.1)), (0, .ref (g.2.2 6)), (1, .ref (a2 0)), (2, .int x2), (4, .int x4)]) C dL_begun_119 rfl (by decide) rfl ?_
            refine x_iinc (v := x4 + 1) (lv' := [(4, .int (x4 + 1)), (3, .int ((x3 + u1017.1) + u1020.1)), (0, .ref (g.2.2 6)), (1, .ref (a2 0)), (2, .int x2)]) C dL_begun_120 4 rfl rfl (by decide) rfl ?_
            refine x_goto (tgt := 22) C dL_begun_123 (by decide) ?_
            refine x_perm (wss' := [ccO g a2 b3 y4 zL, stO g a2 10 u1017.2.1, cdW g a2 10 u1020.2.1, evW g a2 10 eL, stO g a2 20 v2L, cdW g a2 20 c2L, evW g a2 20 e2L, stO g a2 30 v3L, cdW g a2 30 c3L, evW g a2 30 e3L, hiO g a2 u1020.2.2.1, hrW g a2 tL, stF g a2 u1020.2.2.2.1, cdF g a2 u1020.2.2.2.2.1, evF g a2 u1020.2.2.2.2.2, prO g b3 qL, caW g b3 t2L, cmF g b3 wsL, sbO g y4 z5 kL, baW g z5 16 fL]) (x_pick [0, 1, 2, 3, 9, 10, 11, 12, 13, 14, 4, 5, 6, 7, 8, 15, 16, 17, 18, 19] 20 rfl rfl rfl) ?_
            refine x_locals (lv' := [(0, .ref (g.2.2 6)), (1, .ref (a2 0)), (2, .int x2), (3, .int ((x3 + u1017.1) + u1020.1)), (4, .int (x4 + 1))]) [2, 3, 4, 1, 0] rfl ?_
            refine x_widen (k := kW + 2) (n := tW + 12) (by omega) (by omega) ?_
            exact ih (kW + 2) (tW + 12) zL u1017.2.1 u1020.2.1 eL v2L c2L e2L v3L c3L e3L u1020.2.2.1 tL u1020.2.2.2.1 u1020.2.2.2.2.1 u1020.2.2.2.2.2 qL t2L wsL kL fL x2 ((x3 + u1017.1) + u1020.1) (x4 + 1) (by omega) (by omega) hf
  exact hL22 32 (131) (1505) (0, (-1), (-1)) (0, 0, 0, 0, 0, 0, 32, (-1)) (fun _ => 0, fun _ => 0, fun _ => 0, fun _ => 0, 0) (fun _ => 0, fun _ => 0, fun _ => 0, 0) (0, 0, 0, 0, 0, 0, 32, (-1)) (fun _ => 0, fun _ => 0, fun _ => 0, fun _ => 0, 0) (fun _ => 0, fun _ => 0, fun _ => 0, 0) (0, 0, 0, 0, 0, 0, 32, (-1)) (fun _ => 0, fun _ => 0, fun _ => 0, fun _ => 0, 0) (fun _ => 0, fun _ => 0, fun _ => 0, 0) (0, 0) () (fun _ => (0, 0, 0, 0, 0, 0, 32, (-1))) (fun _ => (fun _ => 0, fun _ => 0, fun _ => 0, fun _ => 0, 0)) (fun _ => (fun _ => 0, fun _ => 0, fun _ => 0, 0)) ((fun _ => 0), 0, 0, 0) () (fun _ => (7, 0, 0, 0, 32, 0)) (0, 0) (fun _ => 0) ((2 : Int32) + u6) (0 : Int32) (0 : Int32) (by omega) (by omega) hf
