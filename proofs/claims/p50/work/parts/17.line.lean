/-! THE OUTPUT LINE of the class, by program -/
theorem wd_35 : Cond.initialized RJ4 ∈ xTB := xTB_in 35 (by decide +kernel) (by decide +kernel)
theorem wd_224 : Cond.methodLink RX9 268 yJ4_setLength_d00df ∈ xTB := xTB_in 224 (by decide +kernel) (by decide +kernel)
theorem wd_225 : Cond.instanceMethod yJ4_setLength_d00df ∈ xTB := xTB_in 225 (by decide +kernel) (by decide +kernel)
theorem wd_226 : Cond.selects yJ4_setLength_d00df.cls yJ4_setLength_d00df yJ4_setLength_d00df ∈ xTB := xTB_in 226 (by decide +kernel) (by decide +kernel)
theorem wd_227 : Cond.code yJ4_setLength_d00df cJ4_setLength_d00df 2 none ∈ xTB := xTB_in 227 (by decide +kernel) (by decide +kernel)
theorem wd_388 : Cond.instanceMethod yJ4_append_bf812 ∈ xTB := xTB_in 388 (by decide +kernel) (by decide +kernel)
theorem wd_389 : Cond.selects RJ4 yJ4_append_bf812 yJ4_append_bf812 ∈ xTB := xTB_in 389 (by decide +kernel) (by decide +kernel)
theorem wd_390 : Cond.code yJ4_append_bf812 cJ4_append_bf812 2 (some (.object "java/lang/StringBuilder")) ∈ xTB := xTB_in 390 (by decide +kernel) (by decide +kernel)
theorem wd_434 : Cond.instanceMethod yJ4_length_8abf5 ∈ xTB := xTB_in 434 (by decide +kernel) (by decide +kernel)
theorem wd_435 : Cond.code yJ4_length_8abf5 cJ4_length_8abf5 1 (some .int) ∈ xTB := xTB_in 435 (by decide +kernel) (by decide +kernel)
theorem wd_540 : Cond.methodLink RX9 271 yJ4_append_bf812 ∈ xTB := xTB_in 540 (by decide +kernel) (by decide +kernel)
theorem wd_541 : Cond.methodLink RX9 275 yJ4_append_cf468 ∈ xTB := xTB_in 541 (by decide +kernel) (by decide +kernel)
theorem wd_542 : Cond.instanceMethod yJ4_append_cf468 ∈ xTB := xTB_in 542 (by decide +kernel) (by decide +kernel)
theorem wd_543 : Cond.selects RJ4 yJ4_append_cf468 yJ4_append_cf468 ∈ xTB := xTB_in 543 (by decide +kernel) (by decide +kernel)
theorem wd_544 : Cond.code yJ4_append_cf468 cJ4_append_cf468 2 (some (.object "java/lang/StringBuilder")) ∈ xTB := xTB_in 544 (by decide +kernel) (by decide +kernel)
theorem wd_564 : Cond.methodLink RX9 278 yJ4_length_8abf5 ∈ xTB := xTB_in 564 (by decide +kernel) (by decide +kernel)
theorem wd_1005 : Cond.fieldLink RX9 39 "CandleConcert" "line" "Ljava/lang/StringBuilder;" ∈ xTB := xTB_in 1005 (by decide +kernel) (by decide +kernel)
theorem wd_1395 : Cond.selects yJ4_length_8abf5.cls yJ4_length_8abf5 yJ4_length_8abf5 ∈ xTB := xTB_in 1395 (by decide +kernel) (by decide +kernel)
theorem dX9_writeCandle_0 : decode cX9_writeCandle 0 = .ok (.aload_n 0, 1) := by decide +kernel
theorem dX9_writeCandle_1 : decode cX9_writeCandle 1 = .ok (.iload_n 1, 1) := by decide +kernel
theorem dX9_writeCandle_2 : decode cX9_writeCandle 2 = .ok (.invokevirtual 134, 3) := by decide +kernel
theorem dX9_writeCandle_5 : decode cX9_writeCandle 5 = .ok (.aload_n 0, 1) := by decide +kernel
theorem dX9_writeCandle_6 : decode cX9_writeCandle 6 = .ok (.getfield 39, 3) := by decide +kernel
theorem dX9_writeCandle_9 : decode cX9_writeCandle 9 = .ok (.iconst 0, 1) := by decide +kernel
theorem dX9_writeCandle_10 : decode cX9_writeCandle 10 = .ok (.invokevirtual 268, 3) := by decide +kernel
theorem dX9_writeCandle_13 : decode cX9_writeCandle 13 = .ok (.aload_n 0, 1) := by decide +kernel
theorem dX9_writeCandle_14 : decode cX9_writeCandle 14 = .ok (.getfield 39, 3) := by decide +kernel
theorem dX9_writeCandle_17 : decode cX9_writeCandle 17 = .ok (.iload_n 1, 1) := by decide +kernel
theorem dX9_writeCandle_18 : decode cX9_writeCandle 18 = .ok (.invokevirtual 271, 3) := by decide +kernel
theorem dX9_writeCandle_21 : decode cX9_writeCandle 21 = .ok (.pop, 1) := by decide +kernel
theorem dX9_writeCandle_22 : decode cX9_writeCandle 22 = .ok (.aload_n 0, 1) := by decide +kernel
theorem dX9_writeCandle_23 : decode cX9_writeCandle 23 = .ok (.getfield 39, 3) := by decide +kernel
theorem dX9_writeCandle_26 : decode cX9_writeCandle 26 = .ok (.aload_n 0, 1) := by decide +kernel
theorem dX9_writeCandle_27 : decode cX9_writeCandle 27 = .ok (.getfield 12, 3) := by decide +kernel
theorem dX9_writeCandle_30 : decode cX9_writeCandle 30 = .ok (.getfield 127, 3) := by decide +kernel
theorem dX9_writeCandle_33 : decode cX9_writeCandle 33 = .ok (.getfield 137, 3) := by decide +kernel
theorem dX9_writeCandle_36 : decode cX9_writeCandle 36 = .ok (.iload_n 1, 1) := by decide +kernel
theorem dX9_writeCandle_37 : decode cX9_writeCandle 37 = .ok (.caload, 1) := by decide +kernel
theorem dX9_writeCandle_38 : decode cX9_writeCandle 38 = .ok (.invokevirtual 275, 3) := by decide +kernel
theorem dX9_writeCandle_41 : decode cX9_writeCandle 41 = .ok (.pop, 1) := by decide +kernel
theorem dX9_writeCandle_42 : decode cX9_writeCandle 42 = .ok (.aload_n 0, 1) := by decide +kernel
theorem dX9_writeCandle_43 : decode cX9_writeCandle 43 = .ok (.getfield 39, 3) := by decide +kernel
theorem dX9_writeCandle_46 : decode cX9_writeCandle 46 = .ok (.bipush 61, 2) := by decide +kernel
theorem dX9_writeCandle_48 : decode cX9_writeCandle 48 = .ok (.invokevirtual 275, 3) := by decide +kernel
theorem dX9_writeCandle_51 : decode cX9_writeCandle 51 = .ok (.pop, 1) := by decide +kernel
theorem dX9_writeCandle_52 : decode cX9_writeCandle 52 = .ok (.aload_n 0, 1) := by decide +kernel
theorem dX9_writeCandle_53 : decode cX9_writeCandle 53 = .ok (.getfield 39, 3) := by decide +kernel
theorem dX9_writeCandle_56 : decode cX9_writeCandle 56 = .ok (.aload_n 0, 1) := by decide +kernel
theorem dX9_writeCandle_57 : decode cX9_writeCandle 57 = .ok (.getfield 12, 3) := by decide +kernel
theorem dX9_writeCandle_60 : decode cX9_writeCandle 60 = .ok (.getfield 127, 3) := by decide +kernel
theorem dX9_writeCandle_63 : decode cX9_writeCandle 63 = .ok (.getfield 141, 3) := by decide +kernel
theorem dX9_writeCandle_66 : decode cX9_writeCandle 66 = .ok (.iload_n 1, 1) := by decide +kernel
theorem dX9_writeCandle_67 : decode cX9_writeCandle 67 = .ok (.iaload, 1) := by decide +kernel
theorem dX9_writeCandle_68 : decode cX9_writeCandle 68 = .ok (.invokevirtual 271, 3) := by decide +kernel
theorem dX9_writeCandle_71 : decode cX9_writeCandle 71 = .ok (.pop, 1) := by decide +kernel
theorem dX9_writeCandle_72 : decode cX9_writeCandle 72 = .ok (.aload_n 0, 1) := by decide +kernel
theorem dX9_writeCandle_73 : decode cX9_writeCandle 73 = .ok (.getfield 39, 3) := by decide +kernel
theorem dX9_writeCandle_76 : decode cX9_writeCandle 76 = .ok (.bipush 47, 2) := by decide +kernel
theorem dX9_writeCandle_78 : decode cX9_writeCandle 78 = .ok (.invokevirtual 275, 3) := by decide +kernel
theorem dX9_writeCandle_81 : decode cX9_writeCandle 81 = .ok (.pop, 1) := by decide +kernel
theorem dX9_writeCandle_82 : decode cX9_writeCandle 82 = .ok (.aload_n 0, 1) := by decide +kernel
theorem dX9_writeCandle_83 : decode cX9_writeCandle 83 = .ok (.getfield 39, 3) := by decide +kernel
theorem dX9_writeCandle_86 : decode cX9_writeCandle 86 = .ok (.aload_n 0, 1) := by decide +kernel
theorem dX9_writeCandle_87 : decode cX9_writeCandle 87 = .ok (.getfield 12, 3) := by decide +kernel
theorem dX9_writeCandle_90 : decode cX9_writeCandle 90 = .ok (.iload_n 1, 1) := by decide +kernel
theorem dX9_writeCandle_91 : decode cX9_writeCandle 91 = .ok (.invokevirtual 145, 3) := by decide +kernel
theorem dX9_writeCandle_94 : decode cX9_writeCandle 94 = .ok (.invokevirtual 271, 3) := by decide +kernel
theorem dX9_writeCandle_97 : decode cX9_writeCandle 97 = .ok (.pop, 1) := by decide +kernel
theorem dX9_writeCandle_98 : decode cX9_writeCandle 98 = .ok (.aload_n 0, 1) := by decide +kernel
theorem dX9_writeCandle_99 : decode cX9_writeCandle 99 = .ok (.getfield 12, 3) := by decide +kernel
theorem dX9_writeCandle_102 : decode cX9_writeCandle 102 = .ok (.getfield 127, 3) := by decide +kernel
theorem dX9_writeCandle_105 : decode cX9_writeCandle 105 = .ok (.getfield 148, 3) := by decide +kernel
theorem dX9_writeCandle_108 : decode cX9_writeCandle 108 = .ok (.iload_n 1, 1) := by decide +kernel
theorem dX9_writeCandle_109 : decode cX9_writeCandle 109 = .ok (.baload, 1) := by decide +kernel
theorem dX9_writeCandle_110 : decode cX9_writeCandle 110 = .ok (.ifCond .eq 13, 3) := by decide +kernel
theorem dX9_writeCandle_113 : decode cX9_writeCandle 113 = .ok (.aload_n 0, 1) := by decide +kernel
theorem dX9_writeCandle_114 : decode cX9_writeCandle 114 = .ok (.getfield 39, 3) := by decide +kernel
theorem dX9_writeCandle_117 : decode cX9_writeCandle 117 = .ok (.bipush 42, 2) := by decide +kernel
theorem dX9_writeCandle_119 : decode cX9_writeCandle 119 = .ok (.invokevirtual 275, 3) := by decide +kernel
theorem dX9_writeCandle_122 : decode cX9_writeCandle 122 = .ok (.pop, 1) := by decide +kernel
theorem dX9_writeCandle_123 : decode cX9_writeCandle 123 = .ok (.aload_n 0, 1) := by decide +kernel
theorem dX9_writeCandle_124 : decode cX9_writeCandle 124 = .ok (.getfield 39, 3) := by decide +kernel
theorem dX9_writeCandle_127 : decode cX9_writeCandle 127 = .ok (.invokevirtual 278, 3) := by decide +kernel
theorem dX9_writeCandle_130 : decode cX9_writeCandle 130 = .ok (.ireturn, 1) := by decide +kernel
set_option maxHeartbeats 4000000 in
set_option maxRecDepth 100000 in
theorem c_X9_writeCandle (g : xG) (l : Launch) (hl : l.stackTraces = false) (a : Nat → Nat) (b : Nat → Nat) (y : Nat) (zz : Nat) (n : Nat) (z : CcT) (v : StS) (c : CdT) (k : SbT) (f : (Nat → Int32)) (x1 : Int32) {u : (Nat ⊕ Int32) × SbT × (Nat → Int32) × Nat} (hf : f_X9_writeCandle n z v c k f x1 = some u) : ConX g l yX9_writeCandle cX9_writeCandle 2 (some .int) ({ frames := 10, cells := 292, slots := 5516, locals := 300 } : Room) [.ref (a 0), .int x1] ([ccO g a b y z, stO g a 10 v, cdW g a 10 c, sbO g y zz k, baW g zz n f] : List va_W).flatten (fun v9 w9 => ∃ r9, u.1 = Sum.inr r9 ∧ v9 = some (.int r9) ∧ ∃ z9 : Nat, w9 = ([ccO g a b y z, stO g a 10 v, cdW g a 10 c, sbO g y z9 u.2.1, baW g z9 u.2.2.2 u.2.2.1] : List va_W).flatten) (fun e9 w9 => ∃ k9, u.1 = Sum.inl k9 ∧ e9 = xcE k9 ∧ ∃ z9 : Nat, w9 = ([ccO g a b y z, stO g a 10 v, cdW g a 10 c, sbO g y z9 u.2.1, baW g z9 u.2.2.2 u.2.2.1] : List va_W).flatten) 292 5516 := by
  unfold f_X9_writeCandle at hf
  refine ConX_of [ccO g a b y z, stO g a 10 v, cdW g a 10 c, sbO g y zz k, baW g zz n f] [(0, .ref (a 0)), (1, .int x1)] rfl rfl (by decide) (Nat.le_of_ble_eq_true rfl) ?_
  intro pW eW sW mW argsW belowW methW c9 C hnm hr hout
  have C : CX g RX9 cX9_writeCandle 2 _ pW sW mW argsW methW c9 := C
  refine x_aload_n C dX9_writeCandle_0 rfl 0 rfl ?_
  refine x_iload_n C dX9_writeCandle_1 rfl 1 rfl ?_
  obtain ⟨u1, hu1, hf⟩ := x_b hf
  refine x_xcallV (n := 1) (As := [.int x1]) (rest := []) C (c_X9_requireCandle g l hl a b y z v c x1 hu1) ⟨⟨wd_66, wd_62, wd_25⟩, ⟨by decide, by decide, by decide⟩, rfl, rfl, Nat.le_of_ble_eq_true rfl, Nat.le_of_ble_eq_true rfl⟩ wd_64 wd_0 ⟨0, 10, _, _, rfl, rfl, rfl⟩ [sbO g y zz k, baW g zz n f] (x_pickD [0, 1, 2, 3, 4] 5 rfl rfl rfl) rfl rfl (Nat.le_of_ble_eq_true rfl) ⟨Nat.le_of_ble_eq_true rfl, Nat.le_of_ble_eq_true rfl⟩ dX9_writeCandle_2 (fun E9 w9 hX9 => ?_) (fun v9 w9 hQ9 => ?_)
  · obtain ⟨k9, hk9, rfl, rfl⟩ := hX9
    have hf := x_sl hk9 hf
    refine x_goX (wss2 := [ccO g a b y z, stO g a 10 v, cdW g a 10 c, sbO g y zz k, baW g zz n f]) rfl rfl ?_
    exact x_prop C hout ⟨k9, by cases hf; rfl, rfl, zz, by cases hf; rfl⟩ (Nat.le_of_ble_eq_true rfl) (Nat.le_of_ble_eq_true rfl)
  · obtain ⟨r2, hr9, rfl, rfl⟩ := hQ9
    have hf := x_sr hr9 hf
    refine x_goW (wss2 := [ccO g a b y z, stO g a 10 v, cdW g a 10 c, sbO g y zz k, baW g zz n f]) (stk2 := []) rfl rfl rfl ?_
    refine x_aload_n C dX9_writeCandle_5 rfl 0 rfl ?_
    refine x_get (ci := 10) (v := .ref y) (b := ccO g a b y z) C ixX9 rfl 5 (by decide) wd_1005 (fun _ h => h) 0 rfl 0 (ccO_at0 g a b y _) rfl dX9_writeCandle_6 ?_
    refine x_iconst (v := 0) C dX9_writeCandle_9 (by decide) ?_
    obtain ⟨u3, hu3, hf⟩ := x_b hf
    refine x_callV (n := 1) (As := [.int (0 : Int32)]) (rest := []) C (c_J4_setLength_d00df g l y zz n k f (0 : Int32) hu3) ⟨⟨wd_227, wd_224, wd_35⟩, ⟨by decide, by decide, by decide⟩, rfl, rfl, Nat.le_of_ble_eq_true rfl, Nat.le_of_ble_eq_true rfl⟩ wd_225 wd_226 ⟨0, 1, _, _, rfl, rfl, rfl⟩ [ccO g a b y z, stO g a 10 v, cdW g a 10 c] (x_pickD [3, 4, 0, 1, 2] 5 rfl rfl rfl) rfl rfl (Nat.le_of_ble_eq_true rfl) ⟨Nat.le_of_ble_eq_true rfl, Nat.le_of_ble_eq_true rfl⟩ dX9_writeCandle_10 (x_goD (wss2 := [sbO g y zz u3, baW g zz n f, ccO g a b y z, stO g a 10 v, cdW g a 10 c]) (stk2 := []) rfl rfl (x_widen (k := n + 1) (n := 18 * n + 6) (by omega) (by omega) ?_))
    refine x_aload_n C dX9_writeCandle_13 rfl 0 rfl ?_
    refine x_get (ci := 10) (v := .ref y) (b := ccO g a b y z) C ixX9 rfl 5 (by decide) wd_1005 (fun _ h => h) 2 rfl 0 (ccO_at0 g a b y _) rfl dX9_writeCandle_14 ?_
    refine x_iload_n C dX9_writeCandle_17 rfl 1 rfl ?_
    obtain ⟨u4, hu4, hf⟩ := x_b hf
    refine x_apI (z := zz) (n := n) (k := u3) (f := f) (c0 := 1) (s0 := 6) (wr := [ccO g a b y z, stO g a 10 v, cdW g a 10 c]) (rest := []) C hu4 wd_390 wd_540 wd_35 wd_388 wd_389 ⟨Nat.le_of_ble_eq_true rfl, Nat.le_of_ble_eq_true rfl, Nat.le_of_ble_eq_true rfl, Nat.le_of_ble_eq_true rfl⟩ (x_pickD [0, 1, 2, 3, 4] 5 rfl rfl rfl) (Nat.le_of_ble_eq_true rfl) dX9_writeCandle_18 (fun z5 => ?_)
    refine x_pop C dX9_writeCandle_21 rfl ?_
    refine x_aload_n C dX9_writeCandle_22 rfl 0 rfl ?_
    refine x_get (ci := 10) (v := .ref y) (b := ccO g a b y z) C ixX9 rfl 5 (by decide) wd_1005 (fun _ h => h) 2 rfl 0 (ccO_at0 g a b y _) rfl dX9_writeCandle_23 ?_
    refine x_aload_n C dX9_writeCandle_26 rfl 0 rfl ?_
    refine x_get (ci := 10) (v := .ref (a (10 + 0))) (b := ccO g a b y z) C ixX9 rfl 0 (by decide) wd_1000 (fun _ h => h) 2 rfl 0 (ccO_at0 g a b y _) rfl dX9_writeCandle_27 ?_
    refine x_get (ci := 9) (v := .ref (a (10 + 1))) (b := stO g a 10 v) C ixX8 rfl 0 (by decide) wd_874 (fun _ h => h) 3 rfl 0 (stO_at0 g a 10 _) rfl dX9_writeCandle_30 ?_
    refine x_get (ci := 4) (v := .ref (a (10 + 2))) (b := cdW g a 10 c) C ixX1 rfl 0 (by decide) wd_821 (fun _ h => h) 4 rfl 0 (cdW_at0 g a 10 _) rfl dX9_writeCandle_33 ?_
    refine x_iload_n C dX9_writeCandle_36 rfl 1 rfl ?_
    obtain ⟨h6, hf⟩ := x_n hf
    refine x_cald (b := cdW g a 10 c) C 4 rfl 1 (cdW_at1 g a 10 _) h6 dX9_writeCandle_37 ?_
    obtain ⟨u7, hu7, hf⟩ := x_b hf
    refine x_apC (z := z5) (n := u4.1) (k := u4.2.1) (f := u4.2.2) (c0 := 1) (s0 := 6) (wr := [ccO g a b y z, stO g a 10 v, cdW g a 10 c]) (rest := []) C hu7 wd_544 wd_541 wd_35 wd_542 wd_543 ⟨Nat.le_of_ble_eq_true rfl, Nat.le_of_ble_eq_true rfl, Nat.le_of_ble_eq_true rfl, Nat.le_of_ble_eq_true rfl⟩ (x_pickD [0, 1, 2, 3, 4] 5 rfl rfl rfl) (Nat.le_of_ble_eq_true rfl) dX9_writeCandle_38 (fun z8 => ?_)
    refine x_pop C dX9_writeCandle_41 rfl ?_
    refine x_aload_n C dX9_writeCandle_42 rfl 0 rfl ?_
    refine x_get (ci := 10) (v := .ref y) (b := ccO g a b y z) C ixX9 rfl 5 (by decide) wd_1005 (fun _ h => h) 2 rfl 0 (ccO_at0 g a b y _) rfl dX9_writeCandle_43 ?_
    refine x_bipush (v := 61) C dX9_writeCandle_46 (by decide) ?_
    obtain ⟨u9, hu9, hf⟩ := x_b hf
    refine x_apC (z := z8) (n := u7.1) (k := u7.2.1) (f := u7.2.2) (c0 := 1) (s0 := 6) (wr := [ccO g a b y z, stO g a 10 v, cdW g a 10 c]) (rest := []) C hu9 wd_544 wd_541 wd_35 wd_542 wd_543 ⟨Nat.le_of_ble_eq_true rfl, Nat.le_of_ble_eq_true rfl, Nat.le_of_ble_eq_true rfl, Nat.le_of_ble_eq_true rfl⟩ (x_pickD [0, 1, 2, 3, 4] 5 rfl rfl rfl) (Nat.le_of_ble_eq_true rfl) dX9_writeCandle_48 (fun z10 => ?_)
    refine x_pop C dX9_writeCandle_51 rfl ?_
    refine x_aload_n C dX9_writeCandle_52 rfl 0 rfl ?_
    refine x_get (ci := 10) (v := .ref y) (b := ccO g a b y z) C ixX9 rfl 5 (by decide) wd_1005 (fun _ h => h) 2 rfl 0 (ccO_at0 g a b y _) rfl dX9_writeCandle_53 ?_
    refine x_aload_n C dX9_writeCandle_56 rfl 0 rfl ?_
    refine x_get (ci := 10) (v := .ref (a (10 + 0))) (b := ccO g a b y z) C ixX9 rfl 0 (by decide) wd_1000 (fun _ h => h) 2 rfl 0 (ccO_at0 g a b y _) rfl dX9_writeCandle_57 ?_
    refine x_get (ci := 9) (v := .ref (a (10 + 1))) (b := stO g a 10 v) C ixX8 rfl 0 (by decide) wd_874 (fun _ h => h) 3 rfl 0 (stO_at0 g a 10 _) rfl dX9_writeCandle_60 ?_
    refine x_get (ci := 4) (v := .ref (a (10 + 3))) (b := cdW g a 10 c) C ixX1 rfl 1 (by decide) wd_824 (fun _ h => h) 4 rfl 0 (cdW_at0 g a 10 _) rfl dX9_writeCandle_63 ?_
    refine x_iload_n C dX9_writeCandle_66 rfl 1 rfl ?_
    obtain ⟨h11, hf⟩ := x_n hf
    refine x_iald (b := cdW g a 10 c) C 4 rfl 2 (cdW_at2 g a 10 _) h11 dX9_writeCandle_67 ?_
    obtain ⟨u12, hu12, hf⟩ := x_b hf
    refine x_apI (z := z10) (n := u9.1) (k := u9.2.1) (f := u9.2.2) (c0 := 1) (s0 := 6) (wr := [ccO g a b y z, stO g a 10 v, cdW g a 10 c]) (rest := []) C hu12 wd_390 wd_540 wd_35 wd_388 wd_389 ⟨Nat.le_of_ble_eq_true rfl, Nat.le_of_ble_eq_true rfl, Nat.le_of_ble_eq_true rfl, Nat.le_of_ble_eq_true rfl⟩ (x_pickD [0, 1, 2, 3, 4] 5 rfl rfl rfl) (Nat.le_of_ble_eq_true rfl) dX9_writeCandle_68 (fun z13 => ?_)
    refine x_pop C dX9_writeCandle_71 rfl ?_
    refine x_aload_n C dX9_writeCandle_72 rfl 0 rfl ?_
    refine x_get (ci := 10) (v := .ref y) (b := ccO g a b y z) C ixX9 rfl 5 (by decide) wd_1005 (fun _ h => h) 2 rfl 0 (ccO_at0 g a b y _) rfl dX9_writeCandle_73 ?_
    refine x_bipush (v := 47) C dX9_writeCandle_76 (by decide) ?_
    obtain ⟨u14, hu14, hf⟩ := x_b hf
    refine x_apC (z := z13) (n := u12.1) (k := u12.2.1) (f := u12.2.2) (c0 := 1) (s0 := 6) (wr := [ccO g a b y z, stO g a 10 v, cdW g a 10 c]) (rest := []) C hu14 wd_544 wd_541 wd_35 wd_542 wd_543 ⟨Nat.le_of_ble_eq_true rfl, Nat.le_of_ble_eq_true rfl, Nat.le_of_ble_eq_true rfl, Nat.le_of_ble_eq_true rfl⟩ (x_pickD [0, 1, 2, 3, 4] 5 rfl rfl rfl) (Nat.le_of_ble_eq_true rfl) dX9_writeCandle_78 (fun z15 => ?_)
    refine x_pop C dX9_writeCandle_81 rfl ?_
    refine x_aload_n C dX9_writeCandle_82 rfl 0 rfl ?_
    refine x_get (ci := 10) (v := .ref y) (b := ccO g a b y z) C ixX9 rfl 5 (by decide) wd_1005 (fun _ h => h) 2 rfl 0 (ccO_at0 g a b y _) rfl dX9_writeCandle_83 ?_
    refine x_aload_n C dX9_writeCandle_86 rfl 0 rfl ?_
    refine x_get (ci := 10) (v := .ref (a (10 + 0))) (b := ccO g a b y z) C ixX9 rfl 0 (by decide) wd_1000 (fun _ h => h) 2 rfl 0 (ccO_at0 g a b y _) rfl dX9_writeCandle_87 ?_
    refine x_iload_n C dX9_writeCandle_90 rfl 1 rfl ?_
    obtain ⟨u16, hu16, hf⟩ := x_b hf
    obtain ⟨h17, hf⟩ := x_y hf
    refine x_callV (n := 1) (As := [.int x1]) (rest := [.ref y]) C (c_X8_consumptionOf g l a 10 v c x1 hu16) ⟨⟨wd_152, wd_563, wd_26⟩, ⟨by decide, by decide, by decide⟩, rfl, rfl, Nat.le_of_ble_eq_true rfl, Nat.le_of_ble_eq_true rfl⟩ wd_150 wd_151 ⟨0, 9, _, _, rfl, rfl, rfl⟩ [sbO g y z15 u14.2.1, baW g z15 u14.1 u14.2.2, ccO g a b y z] (x_pickD [3, 4, 0, 1, 2] 5 rfl rfl rfl) rfl rfl (Nat.le_of_ble_eq_true rfl) ⟨by show u14.1 + 1 + 0 ≤ 292; omega, by show 18 * u14.1 + 6 + 0 ≤ 5516; omega⟩ dX9_writeCandle_91 (x_goD (wss2 := [stO g a 10 v, cdW g a 10 c, sbO g y z15 u14.2.1, baW g z15 u14.1 u14.2.2, ccO g a b y z]) (stk2 := [.int u16, .ref y]) rfl rfl ?_)
    obtain ⟨u18, hu18, hf⟩ := x_b hf
    refine x_apI (z := z15) (n := u14.1) (k := u14.2.1) (f := u14.2.2) (c0 := 1) (s0 := 6) (wr := [stO g a 10 v, cdW g a 10 c, ccO g a b y z]) (rest := []) C hu18 wd_390 wd_540 wd_35 wd_388 wd_389 ⟨Nat.le_of_ble_eq_true rfl, Nat.le_of_ble_eq_true rfl, Nat.le_of_ble_eq_true rfl, Nat.le_of_ble_eq_true rfl⟩ (x_pickD [2, 3, 0, 1, 4] 5 rfl rfl rfl) (Nat.le_of_ble_eq_true rfl) dX9_writeCandle_94 (fun z19 => ?_)
    refine x_pop C dX9_writeCandle_97 rfl ?_
    refine x_aload_n C dX9_writeCandle_98 rfl 0 rfl ?_
    refine x_get (ci := 10) (v := .ref (a (10 + 0))) (b := ccO g a b y z) C ixX9 rfl 0 (by decide) wd_1000 (fun _ h => h) 4 rfl 0 (ccO_at0 g a b y _) rfl dX9_writeCandle_99 ?_
    refine x_get (ci := 9) (v := .ref (a (10 + 1))) (b := stO g a 10 v) C ixX8 rfl 0 (by decide) wd_874 (fun _ h => h) 2 rfl 0 (stO_at0 g a 10 _) rfl dX9_writeCandle_102 ?_
    refine x_get (ci := 4) (v := .ref (a (10 + 5))) (b := cdW g a 10 c) C ixX1 rfl 3 (by decide) wd_829 (fun _ h => h) 3 rfl 0 (cdW_at0 g a 10 _) rfl dX9_writeCandle_105 ?_
    refine x_iload_n C dX9_writeCandle_108 rfl 1 rfl ?_
    obtain ⟨h20, hf⟩ := x_n hf
    refine x_zald (b := cdW g a 10 c) C 3 rfl 4 (cdW_at4 g a 10 _) h20 dX9_writeCandle_109 ?_
    refine x_if_eq (tgt := 123) C dX9_writeCandle_110 (by decide) (fun h21 => ?_) (fun h21 => ?_)
    · have hf := x_t h21 hf
      refine x_aload_n C dX9_writeCandle_123 rfl 0 rfl ?_
      refine x_get (ci := 10) (v := .ref y) (b := ccO g a b y z) C ixX9 rfl 5 (by decide) wd_1005 (fun _ h => h) 4 rfl 0 (ccO_at0 g a b y _) rfl dX9_writeCandle_124 ?_
      obtain ⟨u22, hu22, hf⟩ := x_b hf
      obtain ⟨h23, hf⟩ := x_y hf
      refine x_callV (n := 0) (As := []) (rest := []) C (c_J4_length_8abf5 g l y z19 u18.2.1 hu22) ⟨⟨wd_435, wd_564, wd_35⟩, ⟨by decide, by decide, by decide⟩, rfl, rfl, Nat.le_of_ble_eq_true rfl, Nat.le_of_ble_eq_true rfl⟩ wd_434 wd_1395 ⟨0, 1, _, _, rfl, rfl, rfl⟩ [baW g z19 u18.1 u18.2.2, stO g a 10 v, cdW g a 10 c, ccO g a b y z] (x_pickD [0, 1, 2, 3, 4] 5 rfl rfl rfl) rfl rfl (Nat.le_of_ble_eq_true rfl) ⟨by show u18.1 + 1 + 0 ≤ 292; omega, by show 18 * u18.1 + 6 + 0 ≤ 5516; omega⟩ dX9_writeCandle_127 (x_goD (wss2 := [sbO g y z19 u18.2.1, baW g z19 u18.1 u18.2.2, stO g a 10 v, cdW g a 10 c, ccO g a b y z]) (stk2 := [.int u22]) rfl rfl ?_)
      obtain ⟨h24, hf⟩ := x_y hf
      refine x_perm (wss' := [ccO g a b y z, stO g a 10 v, cdW g a 10 c, sbO g y z19 u18.2.1, baW g z19 u18.1 u18.2.2]) (x_pick [4, 2, 3, 0, 1] 5 rfl rfl rfl) ?_
      refine x_widen (k := 292) (n := 5516) (by omega) (by omega) ?_
      refine x_vx ?_
      exact x_iret C hr ⟨u22, by cases hf; rfl, rfl, z19, by cases hf; rfl⟩ dX9_writeCandle_130
    · have hf := x_f h21 hf
      refine x_aload_n C dX9_writeCandle_113 rfl 0 rfl ?_
      refine x_get (ci := 10) (v := .ref y) (b := ccO g a b y z) C ixX9 rfl 5 (by decide) wd_1005 (fun _ h => h) 4 rfl 0 (ccO_at0 g a b y _) rfl dX9_writeCandle_114 ?_
      refine x_bipush (v := 42) C dX9_writeCandle_117 (by decide) ?_
      obtain ⟨u25, hu25, hf⟩ := x_b hf
      refine x_apC (z := z19) (n := u18.1) (k := u18.2.1) (f := u18.2.2) (c0 := 1) (s0 := 6) (wr := [stO g a 10 v, cdW g a 10 c, ccO g a b y z]) (rest := []) C hu25 wd_544 wd_541 wd_35 wd_542 wd_543 ⟨Nat.le_of_ble_eq_true rfl, Nat.le_of_ble_eq_true rfl, Nat.le_of_ble_eq_true rfl, Nat.le_of_ble_eq_true rfl⟩ (x_pickD [0, 1, 2, 3, 4] 5 rfl rfl rfl) (Nat.le_of_ble_eq_true rfl) dX9_writeCandle_119 (fun z26 => ?_)
      refine x_pop C dX9_writeCandle_122 rfl ?_
      refine x_aload_n C dX9_writeCandle_123 rfl 0 rfl ?_
      refine x_get (ci := 10) (v := .ref y) (b := ccO g a b y z) C ixX9 rfl 5 (by decide) wd_1005 (fun _ h => h) 4 rfl 0 (ccO_at0 g a b y _) rfl dX9_writeCandle_124 ?_
      obtain ⟨u27, hu27, hf⟩ := x_b hf
      obtain ⟨h28, hf⟩ := x_y hf
      refine x_callV (n := 0) (As := []) (rest := []) C (c_J4_length_8abf5 g l y z26 u25.2.1 hu27) ⟨⟨wd_435, wd_564, wd_35⟩, ⟨by decide, by decide, by decide⟩, rfl, rfl, Nat.le_of_ble_eq_true rfl, Nat.le_of_ble_eq_true rfl⟩ wd_434 wd_1395 ⟨0, 1, _, _, rfl, rfl, rfl⟩ [baW g z26 u25.1 u25.2.2, stO g a 10 v, cdW g a 10 c, ccO g a b y z] (x_pickD [0, 1, 2, 3, 4] 5 rfl rfl rfl) rfl rfl (Nat.le_of_ble_eq_true rfl) ⟨by show u25.1 + 1 + 0 ≤ 292; omega, by show 18 * u25.1 + 6 + 0 ≤ 5516; omega⟩ dX9_writeCandle_127 (x_goD (wss2 := [sbO g y z26 u25.2.1, baW g z26 u25.1 u25.2.2, stO g a 10 v, cdW g a 10 c, ccO g a b y z]) (stk2 := [.int u27]) rfl rfl ?_)
      obtain ⟨h29, hf⟩ := x_y hf
      refine x_perm (wss' := [ccO g a b y z, stO g a 10 v, cdW g a 10 c, sbO g y z26 u25.2.1, baW g z26 u25.1 u25.2.2]) (x_pick [4, 2, 3, 0, 1] 5 rfl rfl rfl) ?_
      refine x_widen (k := 292) (n := 5516) (by omega) (by omega) ?_
      refine x_vx ?_
      exact x_iret C hr ⟨u27, by cases hf; rfl, rfl, z26, by cases hf; rfl⟩ dX9_writeCandle_130
theorem dX9_writeEvents_0 : decode cX9_writeEvents 0 = .ok (.aload_n 0, 1) := by decide +kernel
theorem dX9_writeEvents_1 : decode cX9_writeEvents 1 = .ok (.getfield 39, 3) := by decide +kernel
theorem dX9_writeEvents_4 : decode cX9_writeEvents 4 = .ok (.iconst 0, 1) := by decide +kernel
theorem dX9_writeEvents_5 : decode cX9_writeEvents 5 = .ok (.invokevirtual 268, 3) := by decide +kernel
theorem dX9_writeEvents_8 : decode cX9_writeEvents 8 = .ok (.iconst 0, 1) := by decide +kernel
theorem dX9_writeEvents_9 : decode cX9_writeEvents 9 = .ok (.istore_n 1, 1) := by decide +kernel
theorem dX9_writeEvents_10 : decode cX9_writeEvents 10 = .ok (.iload_n 1, 1) := by decide +kernel
theorem dX9_writeEvents_11 : decode cX9_writeEvents 11 = .ok (.aload_n 0, 1) := by decide +kernel
theorem dX9_writeEvents_12 : decode cX9_writeEvents 12 = .ok (.getfield 12, 3) := by decide +kernel
theorem dX9_writeEvents_15 : decode cX9_writeEvents 15 = .ok (.getfield 101, 3) := by decide +kernel
theorem dX9_writeEvents_18 : decode cX9_writeEvents 18 = .ok (.getfield 118, 3) := by decide +kernel
theorem dX9_writeEvents_21 : decode cX9_writeEvents 21 = .ok (.if_icmp .ge 93, 3) := by decide +kernel
theorem dX9_writeEvents_24 : decode cX9_writeEvents 24 = .ok (.iload_n 1, 1) := by decide +kernel
theorem dX9_writeEvents_25 : decode cX9_writeEvents 25 = .ok (.ifCond .le 13, 3) := by decide +kernel
theorem dX9_writeEvents_28 : decode cX9_writeEvents 28 = .ok (.aload_n 0, 1) := by decide +kernel
theorem dX9_writeEvents_29 : decode cX9_writeEvents 29 = .ok (.getfield 39, 3) := by decide +kernel
theorem dX9_writeEvents_32 : decode cX9_writeEvents 32 = .ok (.bipush 32, 2) := by decide +kernel
theorem dX9_writeEvents_34 : decode cX9_writeEvents 34 = .ok (.invokevirtual 275, 3) := by decide +kernel
theorem dX9_writeEvents_37 : decode cX9_writeEvents 37 = .ok (.pop, 1) := by decide +kernel
theorem dX9_writeEvents_38 : decode cX9_writeEvents 38 = .ok (.aload_n 0, 1) := by decide +kernel
theorem dX9_writeEvents_39 : decode cX9_writeEvents 39 = .ok (.getfield 39, 3) := by decide +kernel
theorem dX9_writeEvents_42 : decode cX9_writeEvents 42 = .ok (.aload_n 0, 1) := by decide +kernel
theorem dX9_writeEvents_43 : decode cX9_writeEvents 43 = .ok (.getfield 12, 3) := by decide +kernel
theorem dX9_writeEvents_46 : decode cX9_writeEvents 46 = .ok (.getfield 101, 3) := by decide +kernel
theorem dX9_writeEvents_49 : decode cX9_writeEvents 49 = .ok (.getfield 189, 3) := by decide +kernel
theorem dX9_writeEvents_52 : decode cX9_writeEvents 52 = .ok (.iload_n 1, 1) := by decide +kernel
theorem dX9_writeEvents_53 : decode cX9_writeEvents 53 = .ok (.iaload, 1) := by decide +kernel
theorem dX9_writeEvents_54 : decode cX9_writeEvents 54 = .ok (.invokevirtual 271, 3) := by decide +kernel
theorem dX9_writeEvents_57 : decode cX9_writeEvents 57 = .ok (.pop, 1) := by decide +kernel
theorem dX9_writeEvents_58 : decode cX9_writeEvents 58 = .ok (.aload_n 0, 1) := by decide +kernel
theorem dX9_writeEvents_59 : decode cX9_writeEvents 59 = .ok (.getfield 39, 3) := by decide +kernel
theorem dX9_writeEvents_62 : decode cX9_writeEvents 62 = .ok (.aload_n 0, 1) := by decide +kernel
theorem dX9_writeEvents_63 : decode cX9_writeEvents 63 = .ok (.getfield 12, 3) := by decide +kernel
theorem dX9_writeEvents_66 : decode cX9_writeEvents 66 = .ok (.getfield 101, 3) := by decide +kernel
theorem dX9_writeEvents_69 : decode cX9_writeEvents 69 = .ok (.getfield 195, 3) := by decide +kernel
theorem dX9_writeEvents_72 : decode cX9_writeEvents 72 = .ok (.iload_n 1, 1) := by decide +kernel
theorem dX9_writeEvents_73 : decode cX9_writeEvents 73 = .ok (.baload, 1) := by decide +kernel
theorem dX9_writeEvents_74 : decode cX9_writeEvents 74 = .ok (.ifCond .eq 8, 3) := by decide +kernel
theorem dX9_writeEvents_77 : decode cX9_writeEvents 77 = .ok (.bipush 108, 2) := by decide +kernel
theorem dX9_writeEvents_79 : decode cX9_writeEvents 79 = .ok (.goto 5, 3) := by decide +kernel
theorem dX9_writeEvents_82 : decode cX9_writeEvents 82 = .ok (.bipush 115, 2) := by decide +kernel
theorem dX9_writeEvents_84 : decode cX9_writeEvents 84 = .ok (.invokevirtual 275, 3) := by decide +kernel
theorem dX9_writeEvents_87 : decode cX9_writeEvents 87 = .ok (.pop, 1) := by decide +kernel
theorem dX9_writeEvents_88 : decode cX9_writeEvents 88 = .ok (.aload_n 0, 1) := by decide +kernel
theorem dX9_writeEvents_89 : decode cX9_writeEvents 89 = .ok (.getfield 39, 3) := by decide +kernel
theorem dX9_writeEvents_92 : decode cX9_writeEvents 92 = .ok (.aload_n 0, 1) := by decide +kernel
theorem dX9_writeEvents_93 : decode cX9_writeEvents 93 = .ok (.getfield 12, 3) := by decide +kernel
theorem dX9_writeEvents_96 : decode cX9_writeEvents 96 = .ok (.getfield 101, 3) := by decide +kernel
theorem dX9_writeEvents_99 : decode cX9_writeEvents 99 = .ok (.getfield 192, 3) := by decide +kernel
theorem dX9_writeEvents_102 : decode cX9_writeEvents 102 = .ok (.iload_n 1, 1) := by decide +kernel
theorem dX9_writeEvents_103 : decode cX9_writeEvents 103 = .ok (.iaload, 1) := by decide +kernel
theorem dX9_writeEvents_104 : decode cX9_writeEvents 104 = .ok (.invokevirtual 271, 3) := by decide +kernel
theorem dX9_writeEvents_107 : decode cX9_writeEvents 107 = .ok (.pop, 1) := by decide +kernel
theorem dX9_writeEvents_108 : decode cX9_writeEvents 108 = .ok (.iinc 1 1, 3) := by decide +kernel
theorem dX9_writeEvents_111 : decode cX9_writeEvents 111 = .ok (.goto (-101), 3) := by decide +kernel
theorem dX9_writeEvents_114 : decode cX9_writeEvents 114 = .ok (.aload_n 0, 1) := by decide +kernel
theorem dX9_writeEvents_115 : decode cX9_writeEvents 115 = .ok (.getfield 39, 3) := by decide +kernel
theorem dX9_writeEvents_118 : decode cX9_writeEvents 118 = .ok (.invokevirtual 278, 3) := by decide +kernel
theorem dX9_writeEvents_121 : decode cX9_writeEvents 121 = .ok (.ireturn, 1) := by decide +kernel
set_option maxHeartbeats 4000000 in
set_option maxRecDepth 100000 in
theorem c_X9_writeEvents (g : xG) (l : Launch) (a : Nat → Nat) (b : Nat → Nat) (y : Nat) (zz : Nat) (n : Nat) (z : CcT) (v : StS) (e : EvT) (k : SbT) (f : (Nat → Int32))  {u : Int32 × SbT × (Nat → Int32) × Nat} (hf : f_X9_writeEvents n z v e k f = some u) : Con g l yX9_writeEvents cX9_writeEvents 2 (some .int) ({ frames := 10, cells := 291, slots := 5510, locals := 300 } : Room) [.ref (a 0)] ([ccO g a b y z, stO g a 10 v, evW g a 10 e, sbO g y zz k, baW g zz n f] : List va_W).flatten (fun v9 w9 => v9 = some (.int u.1) ∧ ∃ z9 : Nat, w9 = ([ccO g a b y z, stO g a 10 v, evW g a 10 e, sbO g y z9 u.2.1, baW g z9 u.2.2.2 u.2.2.1] : List va_W).flatten) 291 5510 := by
  unfold f_X9_writeEvents at hf
  refine Con_of [ccO g a b y z, stO g a 10 v, evW g a 10 e, sbO g y zz k, baW g zz n f] [(0, .ref (a 0))] rfl rfl (by decide) (Nat.le_of_ble_eq_true rfl) ?_
  intro pW eW sW mW argsW belowW methW c9 C hnm hr
  have C : CX g RX9 cX9_writeEvents 2 _ pW sW mW argsW methW c9 := C
  have hL10 : ∀ (nW : Nat) (zL : Nat) (nL : Nat) (kL : SbT) (fL : (Nat → Int32)) (x1 : Int32), f_X9_writeEvents_10 nW nL z v e kL fL x1 = some u → VW g (va_A ([ccO g a b y z, stO g a 10 v, evW g a 10 e, sbO g y zz k, baW g zz n f] : List va_W).flatten sW.heap.size) 2 pW l eW ({ frames := 10, cells := 291, slots := 5510, locals := 300 } : Room) sW mW argsW belowW methW c9 (nL + 0) (18 * nL + 0) (MQ belowW (xQc g ([ccO g a b y z, stO g a 10 v, evW g a 10 e, sbO g y zz k, baW g zz n f] : List va_W).flatten sW.heap.size (fun v9 w9 => v9 = some (.int u.1) ∧ ∃ z9 : Nat, w9 = ([ccO g a b y z, stO g a 10 v, evW g a 10 e, sbO g y z9 u.2.1, baW g z9 u.2.2.2 u.2.2.1] : List va_W).flatten)) argsW sW 291 5510 (va_A ([ccO g a b y z, stO g a 10 v, evW g a 10 e, sbO g y zz k, baW g zz n f] : List va_W).flatten sW.heap.size)) [ccO g a b y z, stO g a 10 v, evW g a 10 e, sbO g y zL kL, baW g zL nL fL] [(0, .ref (a 0)), (1, .int x1)] 10 [] := by
    intro nW
    induction nW with
    | zero => intro zL nL kL fL x1 hf; rw [f_X9_writeEvents_10] at hf; cases hf
    | succ nW ih =>
      intro zL nL kL fL x1 hf
      rw [f_X9_writeEvents_10] at hf
      refine x_iload_n C dX9_writeEvents_10 rfl 1 rfl ?_
      refine x_aload_n C dX9_writeEvents_11 rfl 0 rfl ?_
      refine x_get (ci := 10) (v := .ref (a (10 + 0))) (b := ccO g a b y z) C ixX9 rfl 0 (by decide) wd_1000 (fun _ h => h) 0 rfl 0 (ccO_at0 g a b y _) rfl dX9_writeEvents_12 ?_
      refine x_get (ci := 9) (v := .ref (a (10 + 6))) (b := stO g a 10 v) C ixX8 rfl 1 (by decide) wd_876 (fun _ h => h) 1 rfl 0 (stO_at0 g a 10 _) rfl dX9_writeEvents_15 ?_
      refine x_get (ci := 6) (v := .int e.2.2.2) (b := evW g a 10 e) C ixX3 rfl 3 (by decide) wd_862 (fun _ h => h) 2 rfl 0 (evW_at0 g a 10 _) rfl dX9_writeEvents_18 ?_
      refine x_icmp_ge (tgt := 114) C dX9_writeEvents_21 (by decide) (fun h1 => ?_) (fun h1 => ?_)
      · have hf := x_t h1 hf
        refine x_aload_n C dX9_writeEvents_114 rfl 0 rfl ?_
        refine x_get (ci := 10) (v := .ref y) (b := ccO g a b y z) C ixX9 rfl 5 (by decide) wd_1005 (fun _ h => h) 0 rfl 0 (ccO_at0 g a b y _) rfl dX9_writeEvents_115 ?_
        obtain ⟨u2, hu2, hf⟩ := x_b hf
        obtain ⟨h3, hf⟩ := x_y hf
        refine x_callV (n := 0) (As := []) (rest := []) C (c_J4_length_8abf5 g l y zL kL hu2) ⟨⟨wd_435, wd_564, wd_35⟩, ⟨by decide, by decide, by decide⟩, rfl, rfl, Nat.le_of_ble_eq_true rfl, Nat.le_of_ble_eq_true rfl⟩ wd_434 wd_1395 ⟨0, 1, _, _, rfl, rfl, rfl⟩ [ccO g a b y z, stO g a 10 v, evW g a 10 e, baW g zL nL fL] (x_pickD [3, 0, 1, 2, 4] 5 rfl rfl rfl) rfl rfl (Nat.le_of_ble_eq_true rfl) ⟨by show nL + 0 + 0 ≤ 291; omega, by show 18 * nL + 0 + 0 ≤ 5510; omega⟩ dX9_writeEvents_118 (x_goD (wss2 := [sbO g y zL kL, ccO g a b y z, stO g a 10 v, evW g a 10 e, baW g zL nL fL]) (stk2 := [.int u2]) rfl rfl ?_)
        obtain ⟨h4, hf⟩ := x_y hf
        refine x_perm (wss' := [ccO g a b y z, stO g a 10 v, evW g a 10 e, sbO g y zL kL, baW g zL nL fL]) (x_pick [1, 2, 3, 0, 4] 5 rfl rfl rfl) ?_
        refine x_widen (k := 291) (n := 5510) (by omega) (by omega) ?_
        exact x_iret C hr ⟨by cases hf; rfl, zL, by cases hf; rfl⟩ dX9_writeEvents_121
      · have hf := x_f h1 hf
        refine x_iload_n C dX9_writeEvents_24 rfl 1 rfl ?_
        refine x_if_le (tgt := 38) C dX9_writeEvents_25 (by decide) (fun h5 => ?_) (fun h5 => ?_)
        · have hf := x_t h5 hf
          refine x_aload_n C dX9_writeEvents_38 rfl 0 rfl ?_
          refine x_get (ci := 10) (v := .ref y) (b := ccO g a b y z) C ixX9 rfl 5 (by decide) wd_1005 (fun _ h => h) 0 rfl 0 (ccO_at0 g a b y _) rfl dX9_writeEvents_39 ?_
          refine x_aload_n C dX9_writeEvents_42 rfl 0 rfl ?_
          refine x_get (ci := 10) (v := .ref (a (10 + 0))) (b := ccO g a b y z) C ixX9 rfl 0 (by decide) wd_1000 (fun _ h => h) 0 rfl 0 (ccO_at0 g a b y _) rfl dX9_writeEvents_43 ?_
          refine x_get (ci := 9) (v := .ref (a (10 + 6))) (b := stO g a 10 v) C ixX8 rfl 1 (by decide) wd_876 (fun _ h => h) 1 rfl 0 (stO_at0 g a 10 _) rfl dX9_writeEvents_46 ?_
          refine x_get (ci := 6) (v := .ref (a (10 + 7))) (b := evW g a 10 e) C ixX3 rfl 0 (by decide) wd_854 (fun _ h => h) 2 rfl 0 (evW_at0 g a 10 _) rfl dX9_writeEvents_49 ?_
          refine x_iload_n C dX9_writeEvents_52 rfl 1 rfl ?_
          obtain ⟨h6, hf⟩ := x_n hf
          refine x_iald (b := evW g a 10 e) C 2 rfl 1 (evW_at1 g a 10 _) h6 dX9_writeEvents_53 ?_
          obtain ⟨u7, hu7, hf⟩ := x_b hf
          refine x_apI (z := zL) (n := nL) (k := kL) (f := fL) (c0 := 0) (s0 := 0) (wr := [ccO g a b y z, stO g a 10 v, evW g a 10 e]) (rest := []) C hu7 wd_390 wd_540 wd_35 wd_388 wd_389 ⟨Nat.le_of_ble_eq_true rfl, Nat.le_of_ble_eq_true rfl, Nat.le_of_ble_eq_true rfl, Nat.le_of_ble_eq_true rfl⟩ (x_pickD [3, 4, 0, 1, 2] 5 rfl rfl rfl) (Nat.le_of_ble_eq_true rfl) dX9_writeEvents_54 (fun z8 => ?_)
          refine x_pop C dX9_writeEvents_57 rfl ?_
          refine x_aload_n C dX9_writeEvents_58 rfl 0 rfl ?_
          refine x_get (ci := 10) (v := .ref y) (b := ccO g a b y z) C ixX9 rfl 5 (by decide) wd_1005 (fun _ h => h) 2 rfl 0 (ccO_at0 g a b y _) rfl dX9_writeEvents_59 ?_
          refine x_aload_n C dX9_writeEvents_62 rfl 0 rfl ?_
          refine x_get (ci := 10) (v := .ref (a (10 + 0))) (b := ccO g a b y z) C ixX9 rfl 0 (by decide) wd_1000 (fun _ h => h) 2 rfl 0 (ccO_at0 g a b y _) rfl dX9_writeEvents_63 ?_
          refine x_get (ci := 9) (v := .ref (a (10 + 6))) (b := stO g a 10 v) C ixX8 rfl 1 (by decide) wd_876 (fun _ h => h) 3 rfl 0 (stO_at0 g a 10 _) rfl dX9_writeEvents_66 ?_
          refine x_get (ci := 6) (v := .ref (a (10 + 9))) (b := evW g a 10 e) C ixX3 rfl 2 (by decide) wd_860 (fun _ h => h) 4 rfl 0 (evW_at0 g a 10 _) rfl dX9_writeEvents_69 ?_
          refine x_iload_n C dX9_writeEvents_72 rfl 1 rfl ?_
          obtain ⟨h9, hf⟩ := x_n hf
          refine x_zald (b := evW g a 10 e) C 4 rfl 3 (evW_at3 g a 10 _) h9 dX9_writeEvents_73 ?_
          refine x_if_eq (tgt := 82) C dX9_writeEvents_74 (by decide) (fun h10 => ?_) (fun h10 => ?_)
          · have hf := x_t h10 hf
            refine x_bipush (v := 115) C dX9_writeEvents_82 (by decide) ?_
            obtain ⟨u11, hu11, hf⟩ := x_b hf
            refine x_apC (z := z8) (n := u7.1) (k := u7.2.1) (f := u7.2.2) (c0 := 0) (s0 := 0) (wr := [ccO g a b y z, stO g a 10 v, evW g a 10 e]) (rest := []) C hu11 wd_544 wd_541 wd_35 wd_542 wd_543 ⟨Nat.le_of_ble_eq_true rfl, Nat.le_of_ble_eq_true rfl, Nat.le_of_ble_eq_true rfl, Nat.le_of_ble_eq_true rfl⟩ (x_pickD [0, 1, 2, 3, 4] 5 rfl rfl rfl) (Nat.le_of_ble_eq_true rfl) dX9_writeEvents_84 (fun z12 => ?_)
            refine x_pop C dX9_writeEvents_87 rfl ?_
            refine x_aload_n C dX9_writeEvents_88 rfl 0 rfl ?_
            refine x_get (ci := 10) (v := .ref y) (b := ccO g a b y z) C ixX9 rfl 5 (by decide) wd_1005 (fun _ h => h) 2 rfl 0 (ccO_at0 g a b y _) rfl dX9_writeEvents_89 ?_
            refine x_aload_n C dX9_writeEvents_92 rfl 0 rfl ?_
            refine x_get (ci := 10) (v := .ref (a (10 + 0))) (b := ccO g a b y z) C ixX9 rfl 0 (by decide) wd_1000 (fun _ h => h) 2 rfl 0 (ccO_at0 g a b y _) rfl dX9_writeEvents_93 ?_
            refine x_get (ci := 9) (v := .ref (a (10 + 6))) (b := stO g a 10 v) C ixX8 rfl 1 (by decide) wd_876 (fun _ h => h) 3 rfl 0 (stO_at0 g a 10 _) rfl dX9_writeEvents_96 ?_
            refine x_get (ci := 6) (v := .ref (a (10 + 8))) (b := evW g a 10 e) C ixX3 rfl 1 (by decide) wd_857 (fun _ h => h) 4 rfl 0 (evW_at0 g a 10 _) rfl dX9_writeEvents_99 ?_
            refine x_iload_n C dX9_writeEvents_102 rfl 1 rfl ?_
            obtain ⟨h13, hf⟩ := x_n hf
            refine x_iald (b := evW g a 10 e) C 4 rfl 2 (evW_at2 g a 10 _) h13 dX9_writeEvents_103 ?_
            obtain ⟨u14, hu14, hf⟩ := x_b hf
            refine x_apI (z := z12) (n := u11.1) (k := u11.2.1) (f := u11.2.2) (c0 := 0) (s0 := 0) (wr := [ccO g a b y z, stO g a 10 v, evW g a 10 e]) (rest := []) C hu14 wd_390 wd_540 wd_35 wd_388 wd_389 ⟨Nat.le_of_ble_eq_true rfl, Nat.le_of_ble_eq_true rfl, Nat.le_of_ble_eq_true rfl, Nat.le_of_ble_eq_true rfl⟩ (x_pickD [0, 1, 2, 3, 4] 5 rfl rfl rfl) (Nat.le_of_ble_eq_true rfl) dX9_writeEvents_104 (fun z15 => ?_)
            refine x_pop C dX9_writeEvents_107 rfl ?_
            refine x_iinc (v := x1 + 1) (lv' := [(1, .int (x1 + 1)), (0, .ref (a 0))]) C dX9_writeEvents_108 1 rfl rfl (by decide) rfl ?_
            refine x_goto (tgt := 10) C dX9_writeEvents_111 (by decide) ?_
            refine x_perm (wss' := [ccO g a b y z, stO g a 10 v, evW g a 10 e, sbO g y z15 u14.2.1, baW g z15 u14.1 u14.2.2]) (x_pick [2, 3, 4, 0, 1] 5 rfl rfl rfl) ?_
            refine x_locals (lv' := [(0, .ref (a 0)), (1, .int (x1 + 1))]) [1, 0] rfl ?_
            exact ih z15 u14.1 u14.2.1 u14.2.2 (x1 + 1) hf
          · have hf := x_f h10 hf
            refine x_bipush (v := 108) C dX9_writeEvents_77 (by decide) ?_
            refine x_goto (tgt := 84) C dX9_writeEvents_79 (by decide) ?_
            obtain ⟨u16, hu16, hf⟩ := x_b hf
            refine x_apC (z := z8) (n := u7.1) (k := u7.2.1) (f := u7.2.2) (c0 := 0) (s0 := 0) (wr := [ccO g a b y z, stO g a 10 v, evW g a 10 e]) (rest := []) C hu16 wd_544 wd_541 wd_35 wd_542 wd_543 ⟨Nat.le_of_ble_eq_true rfl, Nat.le_of_ble_eq_true rfl, Nat.le_of_ble_eq_true rfl, Nat.le_of_ble_eq_true rfl⟩ (x_pickD [0, 1, 2, 3, 4] 5 rfl rfl rfl) (Nat.le_of_ble_eq_true rfl) dX9_writeEvents_84 (fun z17 => ?_)
            refine x_pop C dX9_writeEvents_87 rfl ?_
            refine x_aload_n C dX9_writeEvents_88 rfl 0 rfl ?_
            refine x_get (ci := 10) (v := .ref y) (b := ccO g a b y z) C ixX9 rfl 5 (by decide) wd_1005 (fun _ h => h) 2 rfl 0 (ccO_at0 g a b y _) rfl dX9_writeEvents_89 ?_
            refine x_aload_n C dX9_writeEvents_92 rfl 0 rfl ?_
            refine x_get (ci := 10) (v := .ref (a (10 + 0))) (b := ccO g a b y z) C ixX9 rfl 0 (by decide) wd_1000 (fun _ h => h) 2 rfl 0 (ccO_at0 g a b y _) rfl dX9_writeEvents_93 ?_
            refine x_get (ci := 9) (v := .ref (a (10 + 6))) (b := stO g a 10 v) C ixX8 rfl 1 (by decide) wd_876 (fun _ h => h) 3 rfl 0 (stO_at0 g a 10 _) rfl dX9_writeEvents_96 ?_
            refine x_get (ci := 6) (v := .ref (a (10 + 8))) (b := evW g a 10 e) C ixX3 rfl 1 (by decide) wd_857 (fun _ h => h) 4 rfl 0 (evW_at0 g a 10 _) rfl dX9_writeEvents_99 ?_
            refine x_iload_n C dX9_writeEvents_102 rfl 1 rfl ?_
            obtain ⟨h18, hf⟩ := x_n hf
            refine x_iald (b := evW g a 10 e) C 4 rfl 2 (evW_at2 g a 10 _) h18 dX9_writeEvents_103 ?_
            obtain ⟨u19, hu19, hf⟩ := x_b hf
            refine x_apI (z := z17) (n := u16.1) (k := u16.2.1) (f := u16.2.2) (c0 := 0) (s0 := 0) (wr := [ccO g a b y z, stO g a 10 v, evW g a 10 e]) (rest := []) C hu19 wd_390 wd_540 wd_35 wd_388 wd_389 ⟨Nat.le_of_ble_eq_true rfl, Nat.le_of_ble_eq_true rfl, Nat.le_of_ble_eq_true rfl, Nat.le_of_ble_eq_true rfl⟩ (x_pickD [0, 1, 2, 3, 4] 5 rfl rfl rfl) (Nat.le_of_ble_eq_true rfl) dX9_writeEvents_104 (fun z20 => ?_)
            refine x_pop C dX9_writeEvents_107 rfl ?_
            refine x_iinc (v := x1 + 1) (lv' := [(1, .int (x1 + 1)), (0, .ref (a 0))]) C dX9_writeEvents_108 1 rfl rfl (by decide) rfl ?_
            refine x_goto (tgt := 10) C dX9_writeEvents_111 (by decide) ?_
            refine x_perm (wss' := [ccO g a b y z, stO g a 10 v, evW g a 10 e, sbO g y z20 u19.2.1, baW g z20 u19.1 u19.2.2]) (x_pick [2, 3, 4, 0, 1] 5 rfl rfl rfl) ?_
            refine x_locals (lv' := [(0, .ref (a 0)), (1, .int (x1 + 1))]) [1, 0] rfl ?_
            exact ih z20 u19.1 u19.2.1 u19.2.2 (x1 + 1) hf
        · have hf := x_f h5 hf
          refine x_aload_n C dX9_writeEvents_28 rfl 0 rfl ?_
          refine x_get (ci := 10) (v := .ref y) (b := ccO g a b y z) C ixX9 rfl 5 (by decide) wd_1005 (fun _ h => h) 0 rfl 0 (ccO_at0 g a b y _) rfl dX9_writeEvents_29 ?_
          refine x_bipush (v := 32) C dX9_writeEvents_32 (by decide) ?_
          obtain ⟨u21, hu21, hf⟩ := x_b hf
          refine x_apC (z := zL) (n := nL) (k := kL) (f := fL) (c0 := 0) (s0 := 0) (wr := [ccO g a b y z, stO g a 10 v, evW g a 10 e]) (rest := []) C hu21 wd_544 wd_541 wd_35 wd_542 wd_543 ⟨Nat.le_of_ble_eq_true rfl, Nat.le_of_ble_eq_true rfl, Nat.le_of_ble_eq_true rfl, Nat.le_of_ble_eq_true rfl⟩ (x_pickD [3, 4, 0, 1, 2] 5 rfl rfl rfl) (Nat.le_of_ble_eq_true rfl) dX9_writeEvents_34 (fun z22 => ?_)
          refine x_pop C dX9_writeEvents_37 rfl ?_
          refine x_aload_n C dX9_writeEvents_38 rfl 0 rfl ?_
          refine x_get (ci := 10) (v := .ref y) (b := ccO g a b y z) C ixX9 rfl 5 (by decide) wd_1005 (fun _ h => h) 2 rfl 0 (ccO_at0 g a b y _) rfl dX9_writeEvents_39 ?_
          refine x_aload_n C dX9_writeEvents_42 rfl 0 rfl ?_
          refine x_get (ci := 10) (v := .ref (a (10 + 0))) (b := ccO g a b y z) C ixX9 rfl 0 (by decide) wd_1000 (fun _ h => h) 2 rfl 0 (ccO_at0 g a b y _) rfl dX9_writeEvents_43 ?_
          refine x_get (ci := 9) (v := .ref (a (10 + 6))) (b := stO g a 10 v) C ixX8 rfl 1 (by decide) wd_876 (fun _ h => h) 3 rfl 0 (stO_at0 g a 10 _) rfl dX9_writeEvents_46 ?_
          refine x_get (ci := 6) (v := .ref (a (10 + 7))) (b := evW g a 10 e) C ixX3 rfl 0 (by decide) wd_854 (fun _ h => h) 4 rfl 0 (evW_at0 g a 10 _) rfl dX9_writeEvents_49 ?_
          refine x_iload_n C dX9_writeEvents_52 rfl 1 rfl ?_
          obtain ⟨h23, hf⟩ := x_n hf
          refine x_iald (b := evW g a 10 e) C 4 rfl 1 (evW_at1 g a 10 _) h23 dX9_writeEvents_53 ?_
          obtain ⟨u24, hu24, hf⟩ := x_b hf
          refine x_apI (z := z22) (n := u21.1) (k := u21.2.1) (f := u21.2.2) (c0 := 0) (s0 := 0) (wr := [ccO g a b y z, stO g a 10 v, evW g a 10 e]) (rest := []) C hu24 wd_390 wd_540 wd_35 wd_388 wd_389 ⟨Nat.le_of_ble_eq_true rfl, Nat.le_of_ble_eq_true rfl, Nat.le_of_ble_eq_true rfl, Nat.le_of_ble_eq_true rfl⟩ (x_pickD [0, 1, 2, 3, 4] 5 rfl rfl rfl) (Nat.le_of_ble_eq_true rfl) dX9_writeEvents_54 (fun z25 => ?_)
          refine x_pop C dX9_writeEvents_57 rfl ?_
          refine x_aload_n C dX9_writeEvents_58 rfl 0 rfl ?_
          refine x_get (ci := 10) (v := .ref y) (b := ccO g a b y z) C ixX9 rfl 5 (by decide) wd_1005 (fun _ h => h) 2 rfl 0 (ccO_at0 g a b y _) rfl dX9_writeEvents_59 ?_
          refine x_aload_n C dX9_writeEvents_62 rfl 0 rfl ?_
          refine x_get (ci := 10) (v := .ref (a (10 + 0))) (b := ccO g a b y z) C ixX9 rfl 0 (by decide) wd_1000 (fun _ h => h) 2 rfl 0 (ccO_at0 g a b y _) rfl dX9_writeEvents_63 ?_
          refine x_get (ci := 9) (v := .ref (a (10 + 6))) (b := stO g a 10 v) C ixX8 rfl 1 (by decide) wd_876 (fun _ h => h) 3 rfl 0 (stO_at0 g a 10 _) rfl dX9_writeEvents_66 ?_
          refine x_get (ci := 6) (v := .ref (a (10 + 9))) (b := evW g a 10 e) C ixX3 rfl 2 (by decide) wd_860 (fun _ h => h) 4 rfl 0 (evW_at0 g a 10 _) rfl dX9_writeEvents_69 ?_
          refine x_iload_n C dX9_writeEvents_72 rfl 1 rfl ?_
          obtain ⟨h26, hf⟩ := x_n hf
          refine x_zald (b := evW g a 10 e) C 4 rfl 3 (evW_at3 g a 10 _) h26 dX9_writeEvents_73 ?_
          refine x_if_eq (tgt := 82) C dX9_writeEvents_74 (by decide) (fun h27 => ?_) (fun h27 => ?_)
          · have hf := x_t h27 hf
            refine x_bipush (v := 115) C dX9_writeEvents_82 (by decide) ?_
            obtain ⟨u28, hu28, hf⟩ := x_b hf
            refine x_apC (z := z25) (n := u24.1) (k := u24.2.1) (f := u24.2.2) (c0 := 0) (s0 := 0) (wr := [ccO g a b y z, stO g a 10 v, evW g a 10 e]) (rest := []) C hu28 wd_544 wd_541 wd_35 wd_542 wd_543 ⟨Nat.le_of_ble_eq_true rfl, Nat.le_of_ble_eq_true rfl, Nat.le_of_ble_eq_true rfl, Nat.le_of_ble_eq_true rfl⟩ (x_pickD [0, 1, 2, 3, 4] 5 rfl rfl rfl) (Nat.le_of_ble_eq_true rfl) dX9_writeEvents_84 (fun z29 => ?_)
            refine x_pop C dX9_writeEvents_87 rfl ?_
            refine x_aload_n C dX9_writeEvents_88 rfl 0 rfl ?_
            refine x_get (ci := 10) (v := .ref y) (b := ccO g a b y z) C ixX9 rfl 5 (by decide) wd_1005 (fun _ h => h) 2 rfl 0 (ccO_at0 g a b y _) rfl dX9_writeEvents_89 ?_
            refine x_aload_n C dX9_writeEvents_92 rfl 0 rfl ?_
            refine x_get (ci := 10) (v := .ref (a (10 + 0))) (b := ccO g a b y z) C ixX9 rfl 0 (by decide) wd_1000 (fun _ h => h) 2 rfl 0 (ccO_at0 g a b y _) rfl dX9_writeEvents_93 ?_
            refine x_get (ci := 9) (v := .ref (a (10 + 6))) (b := stO g a 10 v) C ixX8 rfl 1 (by decide) wd_876 (fun _ h => h) 3 rfl 0 (stO_at0 g a 10 _) rfl dX9_writeEvents_96 ?_
            refine x_get (ci := 6) (v := .ref (a (10 + 8))) (b := evW g a 10 e) C ixX3 rfl 1 (by decide) wd_857 (fun _ h => h) 4 rfl 0 (evW_at0 g a 10 _) rfl dX9_writeEvents_99 ?_
            refine x_iload_n C dX9_writeEvents_102 rfl 1 rfl ?_
            obtain ⟨h30, hf⟩ := x_n hf
            refine x_iald (b := evW g a 10 e) C 4 rfl 2 (evW_at2 g a 10 _) h30 dX9_writeEvents_103 ?_
            obtain ⟨u31, hu31, hf⟩ := x_b hf
            refine x_apI (z := z29) (n := u28.1) (k := u28.2.1) (f := u28.2.2) (c0 := 0) (s0 := 0) (wr := [ccO g a b y z, stO g a 10 v, evW g a 10 e]) (rest := []) C hu31 wd_390 wd_540 wd_35 wd_388 wd_389 ⟨Nat.le_of_ble_eq_true rfl, Nat.le_of_ble_eq_true rfl, Nat.le_of_ble_eq_true rfl, Nat.le_of_ble_eq_true rfl⟩ (x_pickD [0, 1, 2, 3, 4] 5 rfl rfl rfl) (Nat.le_of_ble_eq_true rfl) dX9_writeEvents_104 (fun z32 => ?_)
            refine x_pop C dX9_writeEvents_107 rfl ?_
            refine x_iinc (v := x1 + 1) (lv' := [(1, .int (x1 + 1)), (0, .ref (a 0))]) C dX9_writeEvents_108 1 rfl rfl (by decide) rfl ?_
            refine x_goto (tgt := 10) C dX9_writeEvents_111 (by decide) ?_
            refine x_perm (wss' := [ccO g a b y z, stO g a 10 v, evW g a 10 e, sbO g y z32 u31.2.1, baW g z32 u31.1 u31.2.2]) (x_pick [2, 3, 4, 0, 1] 5 rfl rfl rfl) ?_
            refine x_locals (lv' := [(0, .ref (a 0)), (1, .int (x1 + 1))]) [1, 0] rfl ?_
            exact ih z32 u31.1 u31.2.1 u31.2.2 (x1 + 1) hf
          · have hf := x_f h27 hf
            refine x_bipush (v := 108) C dX9_writeEvents_77 (by decide) ?_
            refine x_goto (tgt := 84) C dX9_writeEvents_79 (by decide) ?_
            obtain ⟨u33, hu33, hf⟩ := x_b hf
            refine x_apC (z := z25) (n := u24.1) (k := u24.2.1) (f := u24.2.2) (c0 := 0) (s0 := 0) (wr := [ccO g a b y z, stO g a 10 v, evW g a 10 e]) (rest := []) C hu33 wd_544 wd_541 wd_35 wd_542 wd_543 ⟨Nat.le_of_ble_eq_true rfl, Nat.le_of_ble_eq_true rfl, Nat.le_of_ble_eq_true rfl, Nat.le_of_ble_eq_true rfl⟩ (x_pickD [0, 1, 2, 3, 4] 5 rfl rfl rfl) (Nat.le_of_ble_eq_true rfl) dX9_writeEvents_84 (fun z34 => ?_)
            refine x_pop C dX9_writeEvents_87 rfl ?_
            refine x_aload_n C dX9_writeEvents_88 rfl 0 rfl ?_
            refine x_get (ci := 10) (v := .ref y) (b := ccO g a b y z) C ixX9 rfl 5 (by decide) wd_1005 (fun _ h => h) 2 rfl 0 (ccO_at0 g a b y _) rfl dX9_writeEvents_89 ?_
            refine x_aload_n C dX9_writeEvents_92 rfl 0 rfl ?_
            refine x_get (ci := 10) (v := .ref (a (10 + 0))) (b := ccO g a b y z) C ixX9 rfl 0 (by decide) wd_1000 (fun _ h => h) 2 rfl 0 (ccO_at0 g a b y _) rfl dX9_writeEvents_93 ?_
            refine x_get (ci := 9) (v := .ref (a (10 + 6))) (b := stO g a 10 v) C ixX8 rfl 1 (by decide) wd_876 (fun _ h => h) 3 rfl 0 (stO_at0 g a 10 _) rfl dX9_writeEvents_96 ?_
            refine x_get (ci := 6) (v := .ref (a (10 + 8))) (b := evW g a 10 e) C ixX3 rfl 1 (by decide) wd_857 (fun _ h => h) 4 rfl 0 (evW_at0 g a 10 _) rfl dX9_writeEvents_99 ?_
            refine x_iload_n C dX9_writeEvents_102 rfl 1 rfl ?_
            obtain ⟨h35, hf⟩ := x_n hf
            refine x_iald (b := evW g a 10 e) C 4 rfl 2 (evW_at2 g a 10 _) h35 dX9_writeEvents_103 ?_
            obtain ⟨u36, hu36, hf⟩ := x_b hf
            refine x_apI (z := z34) (n := u33.1) (k := u33.2.1) (f := u33.2.2) (c0 := 0) (s0 := 0) (wr := [ccO g a b y z, stO g a 10 v, evW g a 10 e]) (rest := []) C hu36 wd_390 wd_540 wd_35 wd_388 wd_389 ⟨Nat.le_of_ble_eq_true rfl, Nat.le_of_ble_eq_true rfl, Nat.le_of_ble_eq_true rfl, Nat.le_of_ble_eq_true rfl⟩ (x_pickD [0, 1, 2, 3, 4] 5 rfl rfl rfl) (Nat.le_of_ble_eq_true rfl) dX9_writeEvents_104 (fun z37 => ?_)
            refine x_pop C dX9_writeEvents_107 rfl ?_
            refine x_iinc (v := x1 + 1) (lv' := [(1, .int (x1 + 1)), (0, .ref (a 0))]) C dX9_writeEvents_108 1 rfl rfl (by decide) rfl ?_
            refine x_goto (tgt := 10) C dX9_writeEvents_111 (by decide) ?_
            refine x_perm (wss' := [ccO g a b y z, stO g a 10 v, evW g a 10 e, sbO g y z37 u36.2.1, baW g z37 u36.1 u36.2.2]) (x_pick [2, 3, 4, 0, 1] 5 rfl rfl rfl) ?_
            refine x_locals (lv' := [(0, .ref (a 0)), (1, .int (x1 + 1))]) [1, 0] rfl ?_
            exact ih z37 u36.1 u36.2.1 u36.2.2 (x1 + 1) hf
  refine x_aload_n C dX9_writeEvents_0 rfl 0 rfl ?_
  refine x_get (ci := 10) (v := .ref y) (b := ccO g a b y z) C ixX9 rfl 5 (by decide) wd_1005 (fun _ h => h) 0 rfl 0 (ccO_at0 g a b y _) rfl dX9_writeEvents_1 ?_
  refine x_iconst (v := 0) C dX9_writeEvents_4 (by decide) ?_
  obtain ⟨u1, hu1, hf⟩ := x_b hf
  refine x_callV (n := 1) (As := [.int (0 : Int32)]) (rest := []) C (c_J4_setLength_d00df g l y zz n k f (0 : Int32) hu1) ⟨⟨wd_227, wd_224, wd_35⟩, ⟨by decide, by decide, by decide⟩, rfl, rfl, Nat.le_of_ble_eq_true rfl, Nat.le_of_ble_eq_true rfl⟩ wd_225 wd_226 ⟨0, 1, _, _, rfl, rfl, rfl⟩ [ccO g a b y z, stO g a 10 v, evW g a 10 e] (x_pickD [3, 4, 0, 1, 2] 5 rfl rfl rfl) rfl rfl (Nat.le_of_ble_eq_true rfl) ⟨Nat.le_of_ble_eq_true rfl, Nat.le_of_ble_eq_true rfl⟩ dX9_writeEvents_5 (x_goD (wss2 := [sbO g y zz u1, baW g zz n f, ccO g a b y z, stO g a 10 v, evW g a 10 e]) (stk2 := []) rfl rfl (x_widen (k := n + 0) (n := 18 * n + 0) (by omega) (by omega) ?_))
  refine x_iconst (v := 0) C dX9_writeEvents_8 (by decide) ?_
  refine x_istore_n (lv' := [(1, .int (0 : Int32)), (0, .ref (a 0))]) C dX9_writeEvents_9 rfl (by decide) rfl ?_
  refine x_perm (wss' := [ccO g a b y z, stO g a 10 v, evW g a 10 e, sbO g y zz u1, baW g zz n f]) (x_pick [2, 3, 4, 0, 1] 5 rfl rfl rfl) ?_
  refine x_locals (lv' := [(0, .ref (a 0)), (1, .int (0 : Int32))]) [1, 0] rfl ?_
  exact hL10 xFuel zz n u1 f (0 : Int32) hf
