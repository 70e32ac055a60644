/-! THE LAW: cell, in, does, areAlike, seen (wip/p50/lawgen.py) -/
theorem wd_798 : Cond.constant RL 7 69069 ∈ xTB := xTB_in 798 (by decide +kernel) (by decide +kernel)
theorem wd_799 : Cond.constant RL 8 1103515245 ∈ xTB := xTB_in 799 (by decide +kernel) (by decide +kernel)
theorem dL_cell_0 : decode cL_cell 0 = .ok (.ldc 7, 2) := by decide +kernel
theorem dL_cell_2 : decode cL_cell 2 = .ok (.iload_n 1, 1) := by decide +kernel
theorem dL_cell_3 : decode cL_cell 3 = .ok (.aload_n 0, 1) := by decide +kernel
theorem dL_cell_4 : decode cL_cell 4 = .ok (.arraylength, 1) := by decide +kernel
theorem dL_cell_5 : decode cL_cell 5 = .ok (.if_icmp .ge 9, 3) := by decide +kernel
theorem dL_cell_8 : decode cL_cell 8 = .ok (.aload_n 0, 1) := by decide +kernel
theorem dL_cell_9 : decode cL_cell 9 = .ok (.iload_n 1, 1) := by decide +kernel
theorem dL_cell_10 : decode cL_cell 10 = .ok (.iaload, 1) := by decide +kernel
theorem dL_cell_11 : decode cL_cell 11 = .ok (.goto 4, 3) := by decide +kernel
theorem dL_cell_14 : decode cL_cell 14 = .ok (.iconst 0, 1) := by decide +kernel
theorem dL_cell_15 : decode cL_cell 15 = .ok (.sipush 1009, 3) := by decide +kernel
theorem dL_cell_18 : decode cL_cell 18 = .ok (.iload_n 1, 1) := by decide +kernel
theorem dL_cell_19 : decode cL_cell 19 = .ok (.imul, 1) := by decide +kernel
theorem dL_cell_20 : decode cL_cell 20 = .ok (.iadd, 1) := by decide +kernel
theorem dL_cell_21 : decode cL_cell 21 = .ok (.imul, 1) := by decide +kernel
theorem dL_cell_22 : decode cL_cell 22 = .ok (.sipush 12345, 3) := by decide +kernel
theorem dL_cell_25 : decode cL_cell 25 = .ok (.iadd, 1) := by decide +kernel
theorem dL_cell_26 : decode cL_cell 26 = .ok (.istore_n 2, 1) := by decide +kernel
theorem dL_cell_27 : decode cL_cell 27 = .ok (.iload_n 2, 1) := by decide +kernel
theorem dL_cell_28 : decode cL_cell 28 = .ok (.iload_n 2, 1) := by decide +kernel
theorem dL_cell_29 : decode cL_cell 29 = .ok (.bipush 13, 2) := by decide +kernel
theorem dL_cell_31 : decode cL_cell 31 = .ok (.iushr, 1) := by decide +kernel
theorem dL_cell_32 : decode cL_cell 32 = .ok (.ixor, 1) := by decide +kernel
theorem dL_cell_33 : decode cL_cell 33 = .ok (.ldc 8, 2) := by decide +kernel
theorem dL_cell_35 : decode cL_cell 35 = .ok (.imul, 1) := by decide +kernel
theorem dL_cell_36 : decode cL_cell 36 = .ok (.istore_n 2, 1) := by decide +kernel
theorem dL_cell_37 : decode cL_cell 37 = .ok (.iload_n 2, 1) := by decide +kernel
theorem dL_cell_38 : decode cL_cell 38 = .ok (.iload_n 2, 1) := by decide +kernel
theorem dL_cell_39 : decode cL_cell 39 = .ok (.bipush 16, 2) := by decide +kernel
theorem dL_cell_41 : decode cL_cell 41 = .ok (.iushr, 1) := by decide +kernel
theorem dL_cell_42 : decode cL_cell 42 = .ok (.ixor, 1) := by decide +kernel
theorem dL_cell_43 : decode cL_cell 43 = .ok (.ireturn, 1) := by decide +kernel
set_option maxHeartbeats 4000000 in
set_option maxRecDepth 100000 in
theorem c_Q_cell (g : xG) (l : Launch) (hl : l.stackTraces = false) (L : Nat) (xs : Nat → Int32) (hLg : L = g.2.2 7) (hxg : xs = xsG g)   (x1 : Int32) {u : Int32} (hf : f_Q_cell L xs x1 = some u) : Con g l yL_cell cL_cell 3 (some .int) ({ frames := 0, cells := 0, slots := 0, locals := 0 } : Room) [.ref (g.2.2 6), .int x1] ([] : List va_W).flatten (fun v9 w9 => v9 = some (.int u) ∧ w9 = ([] : List va_W).flatten) 0 0 := by
  unfold f_Q_cell at hf
  refine Con_of [] [(0, .ref (g.2.2 6)), (1, .int x1)] rfl rfl (by decide) (Nat.le_of_ble_eq_true rfl) ?_
  intro pW eW sW mW argsW belowW methW c9 C hnm hr
  have C : CX g RL cL_cell 3 _ pW sW mW argsW methW c9 := C
  refine x_ldc C wd_798 dL_cell_0 ?_
  refine x_iload_n C dL_cell_2 rfl 1 rfl ?_
  refine x_aload_n C dL_cell_3 rfl 0 rfl ?_
  refine x_slen C hLg dL_cell_4 ?_
  refine x_icmp_ge (tgt := 14) C dL_cell_5 (by decide) (fun h1 => ?_) (fun h1 => ?_)
  · have hf := x_t h1 hf
    refine x_iconst (v := 0) C dL_cell_14 (by decide) ?_
    refine x_sipush (v := 1009) C dL_cell_15 (by decide) ?_
    refine x_iload_n C dL_cell_18 rfl 1 rfl ?_
    refine x_imul C dL_cell_19 ?_
    refine x_iadd C dL_cell_20 ?_
    refine x_imul C dL_cell_21 ?_
    refine x_sipush (v := 12345) C dL_cell_22 (by decide) ?_
    refine x_iadd C dL_cell_25 ?_
    refine x_istore_n (lv' := [(2, .int (((69069 : Int32) * ((0 : Int32) + ((1009 : Int32) * x1))) + (12345 : Int32))), (0, .ref (g.2.2 6)), (1, .int x1)]) C dL_cell_26 rfl (by decide) rfl ?_
    refine x_iload_n C dL_cell_27 rfl 0 rfl ?_
    refine x_iload_n C dL_cell_28 rfl 0 rfl ?_
    refine x_bipush (v := 13) C dL_cell_29 (by decide) ?_
    refine x_iushr C dL_cell_31 ?_
    refine x_ixor C dL_cell_32 ?_
    refine x_ldc C wd_799 dL_cell_33 ?_
    refine x_imul C dL_cell_35 ?_
    refine x_istore_n (lv' := [(2, .int (((((69069 : Int32) * ((0 : Int32) + ((1009 : Int32) * x1))) + (12345 : Int32)) ^^^ (((((69069 : Int32) * ((0 : Int32) + ((1009 : Int32) * x1))) + (12345 : Int32)).toUInt32 >>> ((13 : Int32).toUInt32 &&& Int32.toUInt32 31)).toInt32)) * (1103515245 : Int32))), (0, .ref (g.2.2 6)), (1, .int x1)]) C dL_cell_36 rfl (by decide) rfl ?_
    refine x_iload_n C dL_cell_37 rfl 0 rfl ?_
    refine x_iload_n C dL_cell_38 rfl 0 rfl ?_
    refine x_bipush (v := 16) C dL_cell_39 (by decide) ?_
    refine x_iushr C dL_cell_41 ?_
    refine x_ixor C dL_cell_42 ?_
    refine x_widen (k := 0) (n := 0) (by omega) (by omega) ?_
    obtain rfl := Option.some.inj hf
    exact x_iret C hr ⟨rfl, rfl⟩ dL_cell_43
  · have hf := x_f h1 hf
    refine x_aload_n C dL_cell_8 rfl 0 rfl ?_
    refine x_iload_n C dL_cell_9 rfl 1 rfl ?_
    obtain ⟨h2, hf⟩ := x_n hf
    refine x_sld C hLg hxg h2 dL_cell_10 ?_
    refine x_goto (tgt := 15) C dL_cell_11 (by decide) ?_
    refine x_sipush (v := 1009) C dL_cell_15 (by decide) ?_
    refine x_iload_n C dL_cell_18 rfl 1 rfl ?_
    refine x_imul C dL_cell_19 ?_
    refine x_iadd C dL_cell_20 ?_
    refine x_imul C dL_cell_21 ?_
    refine x_sipush (v := 12345) C dL_cell_22 (by decide) ?_
    refine x_iadd C dL_cell_25 ?_
    refine x_istore_n (lv' := [(2, .int (((69069 : Int32) * ((xs x1.toNatClampNeg) + ((1009 : Int32) * x1))) + (12345 : Int32))), (0, .ref (g.2.2 6)), (1, .int x1)]) C dL_cell_26 rfl (by decide) rfl ?_
    refine x_iload_n C dL_cell_27 rfl 0 rfl ?_
    refine x_iload_n C dL_cell_28 rfl 0 rfl ?_
    refine x_bipush (v := 13) C dL_cell_29 (by decide) ?_
    refine x_iushr C dL_cell_31 ?_
    refine x_ixor C dL_cell_32 ?_
    refine x_ldc C wd_799 dL_cell_33 ?_
    refine x_imul C dL_cell_35 ?_
    refine x_istore_n (lv' := [(2, .int (((((69069 : Int32) * ((xs x1.toNatClampNeg) + ((1009 : Int32) * x1))) + (12345 : Int32)) ^^^ (((((69069 : Int32) * ((xs x1.toNatClampNeg) + ((1009 : Int32) * x1))) + (12345 : Int32)).toUInt32 >>> ((13 : Int32).toUInt32 &&& Int32.toUInt32 31)).toInt32)) * (1103515245 : Int32))), (0, .ref (g.2.2 6)), (1, .int x1)]) C dL_cell_36 rfl (by decide) rfl ?_
    refine x_iload_n C dL_cell_37 rfl 0 rfl ?_
    refine x_iload_n C dL_cell_38 rfl 0 rfl ?_
    refine x_bipush (v := 16) C dL_cell_39 (by decide) ?_
    refine x_iushr C dL_cell_41 ?_
    refine x_ixor C dL_cell_42 ?_
    refine x_widen (k := 0) (n := 0) (by omega) (by omega) ?_
    obtain rfl := Option.some.inj hf
    exact x_iret C hr ⟨rfl, rfl⟩ dL_cell_43
theorem wd_24 : Cond.initialized RL ∈ xTB := xTB_in 24 (by decide +kernel) (by decide +kernel)
theorem wd_795 : Cond.methodLink RL 69 yL_cell ∈ xTB := xTB_in 795 (by decide +kernel) (by decide +kernel)
theorem wd_796 : Cond.static yL_cell ∈ xTB := xTB_in 796 (by decide +kernel) (by decide +kernel)
theorem wd_797 : Cond.code yL_cell cL_cell 3 (some .int) ∈ xTB := xTB_in 797 (by decide +kernel) (by decide +kernel)
theorem wd_800 : Cond.constant RL 75 2147483647 ∈ xTB := xTB_in 800 (by decide +kernel) (by decide +kernel)
theorem dL_in_0 : decode cL_in 0 = .ok (.aload_n 0, 1) := by decide +kernel
theorem dL_in_1 : decode cL_in 1 = .ok (.iload_n 1, 1) := by decide +kernel
theorem dL_in_2 : decode cL_in 2 = .ok (.invokestatic 69, 3) := by decide +kernel
theorem dL_in_5 : decode cL_in 5 = .ok (.ldc 75, 2) := by decide +kernel
theorem dL_in_7 : decode cL_in 7 = .ok (.iand, 1) := by decide +kernel
theorem dL_in_8 : decode cL_in 8 = .ok (.iload_n 2, 1) := by decide +kernel
theorem dL_in_9 : decode cL_in 9 = .ok (.irem, 1) := by decide +kernel
theorem dL_in_10 : decode cL_in 10 = .ok (.ireturn, 1) := by decide +kernel
set_option maxHeartbeats 4000000 in
set_option maxRecDepth 100000 in
theorem c_Q_in (g : xG) (l : Launch) (hl : l.stackTraces = false) (L : Nat) (xs : Nat → Int32) (hLg : L = g.2.2 7) (hxg : xs = xsG g)   (x1 : Int32) (x2 : Int32) {u : Int32} (hf : f_Q_in L xs x1 x2 = some u) : Con g l yL_in cL_in 3 (some .int) ({ frames := 1, cells := 0, slots := 0, locals := 22 } : Room) [.ref (g.2.2 6), .int x1, .int x2] ([] : List va_W).flatten (fun v9 w9 => v9 = some (.int u) ∧ w9 = ([] : List va_W).flatten) 0 0 := by
  unfold f_Q_in at hf
  refine Con_of [] [(0, .ref (g.2.2 6)), (1, .int x1), (2, .int x2)] rfl rfl (by decide) (Nat.le_of_ble_eq_true rfl) ?_
  intro pW eW sW mW argsW belowW methW c9 C hnm hr
  have C : CX g RL cL_in 3 _ pW sW mW argsW methW c9 := C
  refine x_aload_n C dL_in_0 rfl 0 rfl ?_
  refine x_iload_n C dL_in_1 rfl 1 rfl ?_
  obtain ⟨u1, hu1, hf⟩ := x_b hf
  refine x_callS (n := 2) (As := [.ref (g.2.2 6), .int x1]) (rest := []) C (c_Q_cell g l hl L xs hLg hxg x1 hu1) ⟨⟨wd_797, wd_795, wd_24⟩, ⟨by decide, by decide, by decide⟩, rfl, rfl, Nat.le_of_ble_eq_true rfl, Nat.le_of_ble_eq_true rfl⟩ wd_796 [] (x_pickD [] 0 rfl rfl rfl) rfl rfl (Nat.le_of_ble_eq_true rfl) ⟨by show _ ≤ 0; omega, by show _ ≤ 0; omega⟩ dL_in_2 (x_goD (wss2 := []) (stk2 := [.int u1]) rfl rfl ?_)
  refine x_ldc C wd_800 dL_in_5 ?_
  refine x_iand C dL_in_7 ?_
  refine x_iload_n C dL_in_8 rfl 2 rfl ?_
  obtain ⟨h2, hf⟩ := x_n hf
  refine x_irem C dL_in_9 h2 ?_
  refine x_widen (k := 0) (n := 0) (by omega) (by omega) ?_
  obtain rfl := Option.some.inj hf
  exact x_iret C hr ⟨rfl, rfl⟩ dL_in_10
theorem wd_1029 : Cond.methodLink RL 81 yJ0_charAt_5068e ∈ xTB := xTB_in 1029 (by decide +kernel) (by decide +kernel)
theorem wd_1130 : Cond.methodLink RL 76 yJ0_length_8abf5 ∈ xTB := xTB_in 1130 (by decide +kernel) (by decide +kernel)
theorem wd_1131 : Cond.methodLink RL 85 yX9_type ∈ xTB := xTB_in 1131 (by decide +kernel) (by decide +kernel)
theorem wd_1132 : Cond.instanceMethod yX9_type ∈ xTB := xTB_in 1132 (by decide +kernel) (by decide +kernel)
theorem wd_1133 : Cond.selects yX9_type.cls yX9_type yX9_type ∈ xTB := xTB_in 1133 (by decide +kernel) (by decide +kernel)
theorem wd_1134 : Cond.code yX9_type cX9_type 2 (some .int) ∈ xTB := xTB_in 1134 (by decide +kernel) (by decide +kernel)
theorem wd_1145 : Cond.constant RL 89 (-900009) ∈ xTB := xTB_in 1145 (by decide +kernel) (by decide +kernel)
theorem wd_1146 : Cond.methodLink RL 90 yL_run ∈ xTB := xTB_in 1146 (by decide +kernel) (by decide +kernel)
theorem wd_1147 : Cond.static yL_run ∈ xTB := xTB_in 1147 (by decide +kernel) (by decide +kernel)
theorem wd_1148 : Cond.codeWith yL_run cL_run 2 (some .int) [(0, 4, 5, 15), (0, 4, 9, 27)] ∈ xTB := xTB_in 1148 (by decide +kernel) (by decide +kernel)
theorem dL_does_0 : decode cL_does 0 = .ok (.iconst 0, 1) := by decide +kernel
theorem dL_does_1 : decode cL_does 1 = .ok (.istore_n 2, 1) := by decide +kernel
theorem dL_does_2 : decode cL_does 2 = .ok (.iconst 0, 1) := by decide +kernel
theorem dL_does_3 : decode cL_does 3 = .ok (.istore_n 3, 1) := by decide +kernel
theorem dL_does_4 : decode cL_does 4 = .ok (.iload_n 3, 1) := by decide +kernel
theorem dL_does_5 : decode cL_does 5 = .ok (.aload_n 1, 1) := by decide +kernel
theorem dL_does_6 : decode cL_does 6 = .ok (.invokevirtual 76, 3) := by decide +kernel
theorem dL_does_9 : decode cL_does 9 = .ok (.if_icmp .ge 21, 3) := by decide +kernel
theorem dL_does_12 : decode cL_does 12 = .ok (.iload_n 2, 1) := by decide +kernel
theorem dL_does_13 : decode cL_does 13 = .ok (.aload_n 0, 1) := by decide +kernel
theorem dL_does_14 : decode cL_does 14 = .ok (.aload_n 1, 1) := by decide +kernel
theorem dL_does_15 : decode cL_does 15 = .ok (.iload_n 3, 1) := by decide +kernel
theorem dL_does_16 : decode cL_does 16 = .ok (.invokevirtual 81, 3) := by decide +kernel
theorem dL_does_19 : decode cL_does 19 = .ok (.invokevirtual 85, 3) := by decide +kernel
theorem dL_does_22 : decode cL_does 22 = .ok (.iadd, 1) := by decide +kernel
theorem dL_does_23 : decode cL_does 23 = .ok (.istore_n 2, 1) := by decide +kernel
theorem dL_does_24 : decode cL_does 24 = .ok (.iinc 3 1, 3) := by decide +kernel
theorem dL_does_27 : decode cL_does 27 = .ok (.goto (-23), 3) := by decide +kernel
theorem dL_does_30 : decode cL_does 30 = .ok (.iload_n 2, 1) := by decide +kernel
theorem dL_does_31 : decode cL_does 31 = .ok (.ifCond .ge 8, 3) := by decide +kernel
theorem dL_does_34 : decode cL_does 34 = .ok (.ldc 89, 2) := by decide +kernel
theorem dL_does_36 : decode cL_does 36 = .ok (.goto 7, 3) := by decide +kernel
theorem dL_does_39 : decode cL_does 39 = .ok (.aload_n 0, 1) := by decide +kernel
theorem dL_does_40 : decode cL_does 40 = .ok (.invokestatic 90, 3) := by decide +kernel
theorem dL_does_43 : decode cL_does 43 = .ok (.ireturn, 1) := by decide +kernel
set_option maxHeartbeats 4000000 in
set_option maxRecDepth 100000 in
theorem c_Q_does (g : xG) (l : Launch) (hl : l.stackTraces = false) (a : Nat → Nat) (b : Nat → Nat) (y : Nat) (x : Nat) (w : Nat) (m : Nat) (z : CcT) (v : StS) (c : CdT) (e : EvT) (v2 : StS) (c2 : CdT) (e2 : EvT) (h : HiT) (t : Unit) (vs : (Nat → StS)) (cs : (Nat → CdT)) (es : (Nat → EvT)) (q : PrT) (t2 : Unit) (ws : (Nat → CmT)) (t3 : Unit) (tx : (Nat → Int32))  {u : Int32 × CcT × StS × CdT × EvT × StS × CdT × EvT × HiT × (Nat → StS) × (Nat → CdT) × (Nat → EvT) × PrT × (Nat → CmT)} (hf : f_Q_does m z v c e v2 c2 e2 h t vs cs es q t2 ws t3 tx = some u) : Con g l yL_does cL_does 4 (some .int) ({ frames := 10, cells := 65, slots := 390, locals := 213 } : Room) [.ref (a 0), .ref x] ([ccO g a b y z, stO g a 10 v, cdW g a 10 c, evW g a 10 e, stO g a 20 v2, cdW g a 20 c2, evW g a 20 e2, hiO g a h, hrW g a t, stF g a vs, cdF g a cs, evF g a es, prO g b q, caW g b t2, cmF g b ws, stgO g x w t3, baW g w m tx] : List va_W).flatten (fun v9 w9 => v9 = some (.int u.1) ∧ w9 = ([ccO g a b y u.2.1, stO g a 10 u.2.2.1, cdW g a 10 u.2.2.2.1, evW g a 10 u.2.2.2.2.1, stO g a 20 u.2.2.2.2.2.1, cdW g a 20 u.2.2.2.2.2.2.1, evW g a 20 u.2.2.2.2.2.2.2.1, hiO g a u.2.2.2.2.2.2.2.2.1, hrW g a t, stF g a u.2.2.2.2.2.2.2.2.2.1, cdF g a u.2.2.2.2.2.2.2.2.2.2.1, evF g a u.2.2.2.2.2.2.2.2.2.2.2.1, prO g b u.2.2.2.2.2.2.2.2.2.2.2.2.1, caW g b t2, cmF g b u.2.2.2.2.2.2.2.2.2.2.2.2.2, stgO g x w t3, baW g w m tx] : List va_W).flatten) 65 390 := by
  unfold f_Q_does at hf
  refine Con_of [ccO g a b y z, stO g a 10 v, cdW g a 10 c, evW g a 10 e, stO g a 20 v2, cdW g a 20 c2, evW g a 20 e2, hiO g a h, hrW g a t, stF g a vs, cdF g a cs, evF g a es, prO g b q, caW g b t2, cmF g b ws, stgO g x w t3, baW g w m tx] [(0, .ref (a 0)), (1, .ref x)] rfl rfl (by decide) (Nat.le_of_ble_eq_true rfl) ?_
  intro pW eW sW mW argsW belowW methW c9 C hnm hr
  have C : CX g RL cL_does 4 _ pW sW mW argsW methW c9 := C
  refine x_iconst (v := 0) C dL_does_0 (by decide) ?_
  refine x_istore_n (lv' := [(2, .int (0 : Int32)), (0, .ref (a 0)), (1, .ref x)]) C dL_does_1 rfl (by decide) rfl ?_
  refine x_iconst (v := 0) C dL_does_2 (by decide) ?_
  refine x_istore_n (lv' := [(3, .int (0 : Int32)), (2, .int (0 : Int32)), (0, .ref (a 0)), (1, .ref x)]) C dL_does_3 rfl (by decide) rfl ?_
  refine x_locals (lv' := [(0, .ref (a 0)), (1, .ref x), (2, .int (0 : Int32)), (3, .int (0 : Int32))]) [2, 3, 1, 0] rfl ?_
  refine x_widen (k := 0) (n := 0) (by omega) (by omega) ?_
  have hL4 : ∀ (nW kW tW : Nat) (zL : CcT) (vL : StS) (cL : CdT) (eL : EvT) (v2L : StS) (c2L : CdT) (e2L : EvT) (hL : HiT) (vsL : (Nat → StS)) (csL : (Nat → CdT)) (esL : (Nat → EvT)) (qL : PrT) (wsL : (Nat → CmT)) (x2 : Int32) (x3 : Int32), kW + 1 * nW + 1 ≤ 65 → tW + 6 * nW + 6 ≤ 390 → f_Q_does_4 m nW zL vL cL eL v2L c2L e2L hL t vsL csL esL qL t2 wsL t3 tx x2 x3 = some u → VW g (va_A ([ccO g a b y z, stO g a 10 v, cdW g a 10 c, evW g a 10 e, stO g a 20 v2, cdW g a 20 c2, evW g a 20 e2, hiO g a h, hrW g a t, stF g a vs, cdF g a cs, evF g a es, prO g b q, caW g b t2, cmF g b ws, stgO g x w t3, baW g w m tx] : List va_W).flatten sW.heap.size) 4 pW l eW ({ frames := 10, cells := 65, slots := 390, locals := 213 } : Room) sW mW argsW belowW methW c9 kW tW (MQ belowW (xQc g ([ccO g a b y z, stO g a 10 v, cdW g a 10 c, evW g a 10 e, stO g a 20 v2, cdW g a 20 c2, evW g a 20 e2, hiO g a h, hrW g a t, stF g a vs, cdF g a cs, evF g a es, prO g b q, caW g b t2, cmF g b ws, stgO g x w t3, baW g w m tx] : List va_W).flatten sW.heap.size (fun v9 w9 => v9 = some (.int u.1) ∧ w9 = ([ccO g a b y u.2.1, stO g a 10 u.2.2.1, cdW g a 10 u.2.2.2.1, evW g a 10 u.2.2.2.2.1, stO g a 20 u.2.2.2.2.2.1, cdW g a 20 u.2.2.2.2.2.2.1, evW g a 20 u.2.2.2.2.2.2.2.1, hiO g a u.2.2.2.2.2.2.2.2.1, hrW g a t, stF g a u.2.2.2.2.2.2.2.2.2.1, cdF g a u.2.2.2.2.2.2.2.2.2.2.1, evF g a u.2.2.2.2.2.2.2.2.2.2.2.1, prO g b u.2.2.2.2.2.2.2.2.2.2.2.2.1, caW g b t2, cmF g b u.2.2.2.2.2.2.2.2.2.2.2.2.2, stgO g x w t3, baW g w m tx] : List va_W).flatten)) argsW sW 65 390 (va_A ([ccO g a b y z, stO g a 10 v, cdW g a 10 c, evW g a 10 e, stO g a 20 v2, cdW g a 20 c2, evW g a 20 e2, hiO g a h, hrW g a t, stF g a vs, cdF g a cs, evF g a es, prO g b q, caW g b t2, cmF g b ws, stgO g x w t3, baW g w m tx] : List va_W).flatten sW.heap.size)) [ccO g a b y zL, stO g a 10 vL, cdW g a 10 cL, evW g a 10 eL, stO g a 20 v2L, cdW g a 20 c2L, evW g a 20 e2L, hiO g a hL, hrW g a t, stF g a vsL, cdF g a csL, evF g a esL, prO g b qL, caW g b t2, cmF g b wsL, stgO g x w t3, baW g w m tx] [(0, .ref (a 0)), (1, .ref x), (2, .int x2), (3, .int x3)] 4 [] := by
    intro nW
    induction nW with
    | zero => intro kW tW zL vL cL eL v2L c2L e2L hL vsL csL esL qL wsL x2 x3 hkW htW hf; rw [f_Q_does_4] at hf; cases hf
    | succ nW ih =>
      intro kW tW zL vL cL eL v2L c2L e2L hL vsL csL esL qL wsL x2 x3 hkW htW hf
      rw [f_Q_does_4] at hf
      refine x_iload_n C dL_does_4 rfl 3 rfl ?_
      refine x_aload_n C dL_does_5 rfl 1 rfl ?_
      obtain ⟨u1001, hu1001, hf⟩ := x_b hf
      refine x_callV (n := 0) (As := []) (rest := [.int x3]) C (c_J0_length_8abf5_D g l x w m t3 tx hu1001) ⟨⟨wd_347, wd_1130, wd_36⟩, ⟨by decide, by decide, by decide⟩, rfl, rfl, Nat.le_of_ble_eq_true rfl, Nat.le_of_ble_eq_true rfl⟩ wd_345 wd_346 ⟨0, 0, _, _, rfl, rfl, rfl⟩ [ccO g a b y zL, stO g a 10 vL, cdW g a 10 cL, evW g a 10 eL, stO g a 20 v2L, cdW g a 20 c2L, evW g a 20 e2L, hiO g a hL, hrW g a t, stF g a vsL, cdF g a csL, evF g a esL, prO g b qL, caW g b t2, cmF g b wsL] (x_pickD [15, 16, 0, 1, 2, 3, 4, 5, 6, 7, 8, 9, 10, 11, 12, 13, 14] 17 rfl rfl rfl) rfl rfl (Nat.le_of_ble_eq_true rfl) ⟨by show _ ≤ 65; omega, by show _ ≤ 390; omega⟩ dL_does_6 (x_goD (wss2 := [stgO g x w t3, baW g w m tx, ccO g a b y zL, stO g a 10 vL, cdW g a 10 cL, evW g a 10 eL, stO g a 20 v2L, cdW g a 20 c2L, evW g a 20 e2L, hiO g a hL, hrW g a t, stF g a vsL, cdF g a csL, evF g a esL, prO g b qL, caW g b t2, cmF g b wsL]) (stk2 := [.int u1001, .int x3]) rfl rfl ?_)
      refine x_icmp_ge (tgt := 30) C dL_does_9 (by decide) (fun h1002 => ?_) (fun h1002 => ?_)
      · have hf := x_t h1002 hf
        refine x_iload_n C dL_does_30 rfl 2 rfl ?_
        refine x_if_ge (tgt := 39) C dL_does_31 (by decide) (fun h1003 => ?_) (fun h1003 => ?_)
        · have hf := x_t h1003 hf
          refine x_aload_n C dL_does_39 rfl 0 rfl ?_
          obtain ⟨u1004, hu1004, hf⟩ := x_b hf
          refine x_hcallS (n := 1) (As := [.ref (a 0)]) (rest := []) C (c_Q_run g l hl a b y zL vL cL eL v2L c2L e2L hL t vsL csL esL qL t2 wsL hu1004) ⟨⟨wd_1148, wd_1146, wd_24⟩, ⟨by decide, by decide, by decide⟩, rfl, rfl, Nat.le_of_ble_eq_true rfl, Nat.le_of_ble_eq_true rfl⟩ wd_1147 [stgO g x w t3, baW g w m tx] (x_pickD [2, 3, 4, 5, 6, 7, 8, 9, 10, 11, 12, 13, 14, 15, 16, 0, 1] 17 rfl rfl rfl) rfl rfl (Nat.le_of_ble_eq_true rfl) ⟨by show _ ≤ 65; omega, by show _ ≤ 390; omega⟩ dL_does_40 (fun v9 w9 hQ9 => ?_)
          obtain ⟨rfl, rfl⟩ := hQ9
          refine x_goW (wss2 := [ccO g a b y u1004.2.1, stO g a 10 u1004.2.2.1, cdW g a 10 u1004.2.2.2.1, evW g a 10 u1004.2.2.2.2.1, stO g a 20 u1004.2.2.2.2.2.1, cdW g a 20 u1004.2.2.2.2.2.2.1, evW g a 20 u1004.2.2.2.2.2.2.2.1, hiO g a u1004.2.2.2.2.2.2.2.2.1, hrW g a t, stF g a u1004.2.2.2.2.2.2.2.2.2.1, cdF g a u1004.2.2.2.2.2.2.2.2.2.2.1, evF g a u1004.2.2.2.2.2.2.2.2.2.2.2.1, prO g b u1004.2.2.2.2.2.2.2.2.2.2.2.2.1, caW g b t2, cmF g b u1004.2.2.2.2.2.2.2.2.2.2.2.2.2, stgO g x w t3, baW g w m tx]) (stk2 := [.int u1004.1]) rfl rfl rfl ?_
          refine x_widen (k := 65) (n := 390) (by omega) (by omega) ?_
          obtain rfl := Option.some.inj hf
          exact x_iret C hr ⟨rfl, rfl⟩ dL_does_43
        · have hf := x_f h1003 hf
          refine x_ldc C wd_1145 dL_does_34 ?_
          refine x_goto (tgt := 43) C dL_does_36 (by decide) ?_
          refine x_perm (wss' := [ccO g a b y zL, stO g a 10 vL, cdW g a 10 cL, evW g a 10 eL, stO g a 20 v2L, cdW g a 20 c2L, evW g a 20 e2L, hiO g a hL, hrW g a t, stF g a vsL, cdF g a csL, evF g a esL, prO g b qL, caW g b t2, cmF g b wsL, stgO g x w t3, baW g w m tx]) (x_pick [2, 3, 4, 5, 6, 7, 8, 9, 10, 11, 12, 13, 14, 15, 16, 0, 1] 17 rfl rfl rfl) ?_
          refine x_widen (k := 65) (n := 390) (by omega) (by omega) ?_
          obtain rfl := Option.some.inj hf
          exact x_iret C hr ⟨rfl, rfl⟩ dL_does_43
      · have hf := x_f h1002 hf
        refine x_iload_n C dL_does_12 rfl 2 rfl ?_
        refine x_aload_n C dL_does_13 rfl 0 rfl ?_
        refine x_aload_n C dL_does_14 rfl 1 rfl ?_
        refine x_iload_n C dL_does_15 rfl 3 rfl ?_
        obtain ⟨u1005, hu1005, hf⟩ := x_b hf
        refine x_callV (n := 1) (As := [.int x3]) (rest := [.ref (a 0), .int x2]) C (c_J0_charAt_5068e_D g l x w m t3 tx x3 hu1005) ⟨⟨wd_1032, wd_1029, wd_36⟩, ⟨by decide, by decide, by decide⟩, rfl, rfl, Nat.le_of_ble_eq_true rfl, Nat.le_of_ble_eq_true rfl⟩ wd_1030 wd_1031 ⟨0, 0, _, _, rfl, rfl, rfl⟩ [ccO g a b y zL, stO g a 10 vL, cdW g a 10 cL, evW g a 10 eL, stO g a 20 v2L, cdW g a 20 c2L, evW g a 20 e2L, hiO g a hL, hrW g a t, stF g a vsL, cdF g a csL, evF g a esL, prO g b qL, caW g b t2, cmF g b wsL] (x_pickD [0, 1, 2, 3, 4, 5, 6, 7, 8, 9, 10, 11, 12, 13, 14, 15, 16] 17 rfl rfl rfl) rfl rfl (Nat.le_of_ble_eq_true rfl) ⟨by show _ ≤ 65; omega, by show _ ≤ 390; omega⟩ dL_does_16 (x_goD (wss2 := [stgO g x w t3, baW g w m tx, ccO g a b y zL, stO g a 10 vL, cdW g a 10 cL, evW g a 10 eL, stO g a 20 v2L, cdW g a 20 c2L, evW g a 20 e2L, hiO g a hL, hrW g a t, stF g a vsL, cdF g a csL, evF g a esL, prO g b qL, caW g b t2, cmF g b wsL]) (stk2 := [.int u1005, .ref (a 0), .int x2]) rfl rfl ?_)
        obtain ⟨u1006, hu1006, hf⟩ := x_b hf
        refine x_xcallV (n := 1) (As := [.int u1005]) (rest := [.int x2]) C (c_X9_type g l hl a b y zL qL u1005 hu1006) ⟨⟨wd_1134, wd_1131, wd_25⟩, ⟨by decide, by decide, by decide⟩, rfl, rfl, Nat.le_of_ble_eq_true rfl, Nat.le_of_ble_eq_true rfl⟩ wd_1132 wd_1133 ⟨0, 10, _, _, rfl, rfl, rfl⟩ [stgO g x w t3, baW g w m tx, stO g a 10 vL, cdW g a 10 cL, evW g a 10 eL, stO g a 20 v2L, cdW g a 20 c2L, evW g a 20 e2L, hiO g a hL, hrW g a t, stF g a vsL, cdF g a csL, evF g a esL, caW g b t2, cmF g b wsL] (x_pickD [2, 14, 0, 1, 3, 4, 5, 6, 7, 8, 9, 10, 11, 12, 13, 15, 16] 17 rfl rfl rfl) rfl rfl (Nat.le_of_ble_eq_true rfl) ⟨by show _ ≤ 65; omega, by show _ ≤ 390; omega⟩ dL_does_19 (fun E9 w9 hX9 => ?_) (fun v9 w9 hQ9 => ?_)
        · obtain ⟨k9, hk9, -⟩ := hX9
          cases x_sl hk9 hf
        · obtain ⟨r1007, hr9, rfl, rfl⟩ := hQ9
          have hf := x_sr hr9 hf
          refine x_goW (wss2 := [ccO g a b y zL, prO g b u1006.2, stgO g x w t3, baW g w m tx, stO g a 10 vL, cdW g a 10 cL, evW g a 10 eL, stO g a 20 v2L, cdW g a 20 c2L, evW g a 20 e2L, hiO g a hL, hrW g a t, stF g a vsL, cdF g a csL, evF g a esL, caW g b t2, cmF g b wsL]) (stk2 := [.int r1007, .int x2]) rfl rfl rfl ?_
          refine x_iadd C dL_does_22 ?_
          refine x_istore_n (lv' := [(2, .int (x2 + r1007)), (0, .ref (a 0)), (1, .ref x), (3, .int x3)]) C dL_does_23 rfl (by decide) rfl ?_
          refine x_iinc (v := x3 + 1) (lv' := [(3, .int (x3 + 1)), (2, .int (x2 + r1007)), (0, .ref (a 0)), (1, .ref x)]) C dL_does_24 3 rfl rfl (by decide) rfl ?_
          refine x_goto (tgt := 4) C dL_does_27 (by decide) ?_
          refine x_perm (wss' := [ccO g a b y zL, stO g a 10 vL, cdW g a 10 cL, evW g a 10 eL, stO g a 20 v2L, cdW g a 20 c2L, evW g a 20 e2L, hiO g a hL, hrW g a t, stF g a vsL, cdF g a csL, evF g a esL, prO g b u1006.2, caW g b t2, cmF g b wsL, stgO g x w t3, baW g w m tx]) (x_pick [0, 4, 5, 6, 7, 8, 9, 10, 11, 12, 13, 14, 1, 15, 16, 2, 3] 17 rfl rfl rfl) ?_
          refine x_locals (lv' := [(0, .ref (a 0)), (1, .ref x), (2, .int (x2 + r1007)), (3, .int (x3 + 1))]) [2, 3, 1, 0] rfl ?_
          refine x_widen (k := kW + 1) (n := tW + 6) (by omega) (by omega) ?_
          exact ih (kW + 1) (tW + 6) zL vL cL eL v2L c2L e2L hL vsL csL esL u1006.2 wsL (x2 + r1007) (x3 + 1) (by omega) (by omega) hf
  exact hL4 64 (0) (0) z v c e v2 c2 e2 h vs cs es q ws (0 : Int32) (0 : Int32) (by omega) (by omega) hf
theorem dL_areAlike_0 : decode cL_areAlike 0 = .ok (.iconst 0, 1) := by decide +kernel
theorem dL_areAlike_1 : decode cL_areAlike 1 = .ok (.istore_n 2, 1) := by decide +kernel
theorem dL_areAlike_2 : decode cL_areAlike 2 = .ok (.iload_n 2, 1) := by decide +kernel
theorem dL_areAlike_3 : decode cL_areAlike 3 = .ok (.aload_n 0, 1) := by decide +kernel
theorem dL_areAlike_4 : decode cL_areAlike 4 = .ok (.arraylength, 1) := by decide +kernel
theorem dL_areAlike_5 : decode cL_areAlike 5 = .ok (.if_icmp .ge 20, 3) := by decide +kernel
theorem dL_areAlike_8 : decode cL_areAlike 8 = .ok (.aload_n 0, 1) := by decide +kernel
theorem dL_areAlike_9 : decode cL_areAlike 9 = .ok (.iload_n 2, 1) := by decide +kernel
theorem dL_areAlike_10 : decode cL_areAlike 10 = .ok (.iaload, 1) := by decide +kernel
theorem dL_areAlike_11 : decode cL_areAlike 11 = .ok (.aload_n 1, 1) := by decide +kernel
theorem dL_areAlike_12 : decode cL_areAlike 12 = .ok (.iload_n 2, 1) := by decide +kernel
theorem dL_areAlike_13 : decode cL_areAlike 13 = .ok (.iaload, 1) := by decide +kernel
theorem dL_areAlike_14 : decode cL_areAlike 14 = .ok (.if_icmp .eq 5, 3) := by decide +kernel
theorem dL_areAlike_17 : decode cL_areAlike 17 = .ok (.iconst 0, 1) := by decide +kernel
theorem dL_areAlike_18 : decode cL_areAlike 18 = .ok (.ireturn, 1) := by decide +kernel
theorem dL_areAlike_19 : decode cL_areAlike 19 = .ok (.iinc 2 1, 3) := by decide +kernel
theorem dL_areAlike_22 : decode cL_areAlike 22 = .ok (.goto (-20), 3) := by decide +kernel
theorem dL_areAlike_25 : decode cL_areAlike 25 = .ok (.iconst 1, 1) := by decide +kernel
theorem dL_areAlike_26 : decode cL_areAlike 26 = .ok (.ireturn, 1) := by decide +kernel
set_option maxHeartbeats 4000000 in
set_option maxRecDepth 100000 in
theorem c_Q_areAlike (g : xG) (l : Launch) (hl : l.stackTraces = false) (x : Nat) (w : Nat) (f : (Nat → Int32)) (h : (Nat → Int32))  {u : Int32} (hf : f_Q_areAlike f h = some u) : Con g l yL_areAlike cL_areAlike 3 (some .boolean) ({ frames := 0, cells := 0, slots := 0, locals := 0 } : Room) [.ref x, .ref w] ([iaW g x 130 f, iaW g w 130 h] : List va_W).flatten (fun v9 w9 => v9 = some (.int u) ∧ w9 = ([iaW g x 130 f, iaW g w 130 h] : List va_W).flatten) 0 0 := by
  unfold f_Q_areAlike at hf
  refine Con_of [iaW g x 130 f, iaW g w 130 h] [(0, .ref x), (1, .ref w)] rfl rfl (by decide) (Nat.le_of_ble_eq_true rfl) ?_
  intro pW eW sW mW argsW belowW methW c9 C hnm hr
  have C : CX g RL cL_areAlike 3 _ pW sW mW argsW methW c9 := C
  refine x_iconst (v := 0) C dL_areAlike_0 (by decide) ?_
  refine x_istore_n (lv' := [(2, .int (0 : Int32)), (0, .ref x), (1, .ref w)]) C dL_areAlike_1 rfl (by decide) rfl ?_
  refine x_locals (lv' := [(0, .ref x), (1, .ref w), (2, .int (0 : Int32))]) [1, 2, 0] rfl ?_
  refine x_widen (k := 0) (n := 0) (by omega) (by omega) ?_
  have hL2 : ∀ (nW kW tW : Nat) (x2 : Int32), kW + 0 * nW + 0 ≤ 0 → tW + 0 * nW + 0 ≤ 0 → f_Q_areAlike_2 nW f h x2 = some u → VW g (va_A ([iaW g x 130 f, iaW g w 130 h] : List va_W).flatten sW.heap.size) 3 pW l eW ({ frames := 0, cells := 0, slots := 0, locals := 0 } : Room) sW mW argsW belowW methW c9 kW tW (MQ belowW (xQc g ([iaW g x 130 f, iaW g w 130 h] : List va_W).flatten sW.heap.size (fun v9 w9 => v9 = some (.int u) ∧ w9 = ([iaW g x 130 f, iaW g w 130 h] : List va_W).flatten)) argsW sW 0 0 (va_A ([iaW g x 130 f, iaW g w 130 h] : List va_W).flatten sW.heap.size)) [iaW g x 130 f, iaW g w 130 h] [(0, .ref x), (1, .ref w), (2, .int x2)] 2 [] := by
    intro nW
    induction nW with
    | zero => intro kW tW x2 hkW htW hf; rw [f_Q_areAlike_2] at hf; cases hf
    | succ nW ih =>
      intro kW tW x2 hkW htW hf
      rw [f_Q_areAlike_2] at hf
      refine x_iload_n C dL_areAlike_2 rfl 2 rfl ?_
      refine x_aload_n C dL_areAlike_3 rfl 0 rfl ?_
      refine x_alen (v := (130 : Int32)) C 1 rfl 0 rfl 0 (iaW_at0 g x 130 _) rfl dL_areAlike_4 ?_
      refine x_icmp_ge (tgt := 25) C dL_areAlike_5 (by decide) (fun h1001 => ?_) (fun h1001 => ?_)
      · have hf := x_t h1001 hf
        refine x_iconst (v := 1) C dL_areAlike_25 (by decide) ?_
        refine x_widen (k := 0) (n := 0) (by omega) (by omega) ?_
        obtain rfl := Option.some.inj hf
        exact x_zret C hr rfl ⟨rfl, rfl⟩ dL_areAlike_26
      · have hf := x_f h1001 hf
        refine x_aload_n C dL_areAlike_8 rfl 0 rfl ?_
        refine x_iload_n C dL_areAlike_9 rfl 2 rfl ?_
        obtain ⟨h1002, hf⟩ := x_n hf
        refine x_iald (b := iaW g x 130 f) C 0 rfl 0 (iaW_at0 g x 130 _) h1002 dL_areAlike_10 ?_
        refine x_aload_n C dL_areAlike_11 rfl 1 rfl ?_
        refine x_iload_n C dL_areAlike_12 rfl 2 rfl ?_
        obtain ⟨h1003, hf⟩ := x_n hf
        refine x_iald (b := iaW g w 130 h) C 1 rfl 0 (iaW_at0 g w 130 _) h1003 dL_areAlike_13 ?_
        refine x_icmp_eq (tgt := 19) C dL_areAlike_14 (by decide) (fun h1004 => ?_) (fun h1004 => ?_)
        · have hf := x_t h1004 hf
          refine x_iinc (v := x2 + 1) (lv' := [(2, .int (x2 + 1)), (0, .ref x), (1, .ref w)]) C dL_areAlike_19 2 rfl rfl (by decide) rfl ?_
          refine x_goto (tgt := 2) C dL_areAlike_22 (by decide) ?_
          refine x_locals (lv' := [(0, .ref x), (1, .ref w), (2, .int (x2 + 1))]) [1, 2, 0] rfl ?_
          refine x_widen (k := kW + 0) (n := tW + 0) (by omega) (by omega) ?_
          exact ih (kW + 0) (tW + 0) (x2 + 1) (by omega) (by omega) hf
        · have hf := x_f h1004 hf
          refine x_iconst (v := 0) C dL_areAlike_17 (by decide) ?_
          refine x_widen (k := 0) (n := 0) (by omega) (by omega) ?_
          obtain rfl := Option.some.inj hf
          exact x_zret C hr rfl ⟨rfl, rfl⟩ dL_areAlike_18
  exact hL2 140 (0) (0) (0 : Int32) (by omega) (by omega) hf
theorem wd_153 : Cond.methodLink RL 129 yX9_time ∈ xTB := xTB_in 153 (by decide +kernel) (by decide +kernel)
theorem wd_154 : Cond.instanceMethod yX9_time ∈ xTB := xTB_in 154 (by decide +kernel) (by decide +kernel)
theorem wd_155 : Cond.selects yX9_time.cls yX9_time yX9_time ∈ xTB := xTB_in 155 (by decide +kernel) (by decide +kernel)
theorem wd_156 : Cond.code yX9_time cX9_time 1 (some .int) ∈ xTB := xTB_in 156 (by decide +kernel) (by decide +kernel)
theorem wd_1073 : Cond.methodLink RL 118 yX9_dish ∈ xTB := xTB_in 1073 (by decide +kernel) (by decide +kernel)
theorem wd_1074 : Cond.instanceMethod yX9_dish ∈ xTB := xTB_in 1074 (by decide +kernel) (by decide +kernel)
theorem wd_1075 : Cond.selects yX9_dish.cls yX9_dish yX9_dish ∈ xTB := xTB_in 1075 (by decide +kernel) (by decide +kernel)
theorem wd_1076 : Cond.code yX9_dish cX9_dish 1 (some .int) ∈ xTB := xTB_in 1076 (by decide +kernel) (by decide +kernel)
theorem wd_1254 : Cond.methodLink RL 172 yX9_draught ∈ xTB := xTB_in 1254 (by decide +kernel) (by decide +kernel)
theorem wd_1255 : Cond.instanceMethod yX9_draught ∈ xTB := xTB_in 1255 (by decide +kernel) (by decide +kernel)
theorem wd_1256 : Cond.selects yX9_draught.cls yX9_draught yX9_draught ∈ xTB := xTB_in 1256 (by decide +kernel) (by decide +kernel)
theorem wd_1257 : Cond.code yX9_draught cX9_draught 1 (some .int) ∈ xTB := xTB_in 1257 (by decide +kernel) (by decide +kernel)
theorem wd_1258 : Cond.methodLink RL 175 yX9_candles ∈ xTB := xTB_in 1258 (by decide +kernel) (by decide +kernel)
theorem wd_1259 : Cond.instanceMethod yX9_candles ∈ xTB := xTB_in 1259 (by decide +kernel) (by decide +kernel)
theorem wd_1260 : Cond.selects yX9_candles.cls yX9_candles yX9_candles ∈ xTB := xTB_in 1260 (by decide +kernel) (by decide +kernel)
theorem wd_1261 : Cond.code yX9_candles cX9_candles 1 (some .int) ∈ xTB := xTB_in 1261 (by decide +kernel) (by decide +kernel)
theorem wd_1262 : Cond.methodLink RL 178 yX9_events ∈ xTB := xTB_in 1262 (by decide +kernel) (by decide +kernel)
theorem wd_1263 : Cond.instanceMethod yX9_events ∈ xTB := xTB_in 1263 (by decide +kernel) (by decide +kernel)
theorem wd_1264 : Cond.selects yX9_events.cls yX9_events yX9_events ∈ xTB := xTB_in 1264 (by decide +kernel) (by decide +kernel)
theorem wd_1265 : Cond.code yX9_events cX9_events 1 (some .int) ∈ xTB := xTB_in 1265 (by decide +kernel) (by decide +kernel)
theorem wd_1266 : Cond.methodLink RL 181 yX9_failedEvents ∈ xTB := xTB_in 1266 (by decide +kernel) (by decide +kernel)
theorem wd_1267 : Cond.instanceMethod yX9_failedEvents ∈ xTB := xTB_in 1267 (by decide +kernel) (by decide +kernel)
theorem wd_1268 : Cond.selects yX9_failedEvents.cls yX9_failedEvents yX9_failedEvents ∈ xTB := xTB_in 1268 (by decide +kernel) (by decide +kernel)
theorem wd_1269 : Cond.code yX9_failedEvents cX9_failedEvents 1 (some .int) ∈ xTB := xTB_in 1269 (by decide +kernel) (by decide +kernel)
theorem wd_1270 : Cond.methodLink RL 184 yX9_burnt ∈ xTB := xTB_in 1270 (by decide +kernel) (by decide +kernel)
theorem wd_1271 : Cond.instanceMethod yX9_burnt ∈ xTB := xTB_in 1271 (by decide +kernel) (by decide +kernel)
theorem wd_1272 : Cond.selects yX9_burnt.cls yX9_burnt yX9_burnt ∈ xTB := xTB_in 1272 (by decide +kernel) (by decide +kernel)
theorem wd_1273 : Cond.code yX9_burnt cX9_burnt 1 (some .int) ∈ xTB := xTB_in 1273 (by decide +kernel) (by decide +kernel)
theorem wd_1274 : Cond.methodLink RL 187 yX9_addedWax ∈ xTB := xTB_in 1274 (by decide +kernel) (by decide +kernel)
theorem wd_1278 : Cond.methodLink RL 191 yL_lastCandle ∈ xTB := xTB_in 1278 (by decide +kernel) (by decide +kernel)
theorem wd_1279 : Cond.static yL_lastCandle ∈ xTB := xTB_in 1279 (by decide +kernel) (by decide +kernel)
theorem wd_1280 : Cond.codeWith yL_lastCandle cL_lastCandle 2 (some .int) [(0, 4, 5, 54)] ∈ xTB := xTB_in 1280 (by decide +kernel) (by decide +kernel)
theorem wd_1286 : Cond.methodLink RL 193 yX9_voice ∈ xTB := xTB_in 1286 (by decide +kernel) (by decide +kernel)
theorem wd_1287 : Cond.instanceMethod yX9_voice ∈ xTB := xTB_in 1287 (by decide +kernel) (by decide +kernel)
theorem wd_1288 : Cond.selects yX9_voice.cls yX9_voice yX9_voice ∈ xTB := xTB_in 1288 (by decide +kernel) (by decide +kernel)
theorem wd_1289 : Cond.code yX9_voice cX9_voice 2 (some .char) ∈ xTB := xTB_in 1289 (by decide +kernel) (by decide +kernel)
theorem wd_1290 : Cond.methodLink RL 196 yX9_wax ∈ xTB := xTB_in 1290 (by decide +kernel) (by decide +kernel)
theorem wd_1291 : Cond.instanceMethod yX9_wax ∈ xTB := xTB_in 1291 (by decide +kernel) (by decide +kernel)
theorem wd_1292 : Cond.selects yX9_wax.cls yX9_wax yX9_wax ∈ xTB := xTB_in 1292 (by decide +kernel) (by decide +kernel)
theorem wd_1293 : Cond.code yX9_wax cX9_wax 2 (some .int) ∈ xTB := xTB_in 1293 (by decide +kernel) (by decide +kernel)
theorem wd_1294 : Cond.methodLink RL 199 yX9_consumption ∈ xTB := xTB_in 1294 (by decide +kernel) (by decide +kernel)
theorem wd_1295 : Cond.instanceMethod yX9_consumption ∈ xTB := xTB_in 1295 (by decide +kernel) (by decide +kernel)
theorem wd_1296 : Cond.selects yX9_consumption.cls yX9_consumption yX9_consumption ∈ xTB := xTB_in 1296 (by decide +kernel) (by decide +kernel)
theorem wd_1297 : Cond.code yX9_consumption cX9_consumption 2 (some .int) ∈ xTB := xTB_in 1297 (by decide +kernel) (by decide +kernel)
theorem wd_1298 : Cond.methodLink RL 202 yX9_isLit ∈ xTB := xTB_in 1298 (by decide +kernel) (by decide +kernel)
theorem wd_1299 : Cond.instanceMethod yX9_isLit ∈ xTB := xTB_in 1299 (by decide +kernel) (by decide +kernel)
theorem wd_1300 : Cond.selects yX9_isLit.cls yX9_isLit yX9_isLit ∈ xTB := xTB_in 1300 (by decide +kernel) (by decide +kernel)
theorem wd_1301 : Cond.code yX9_isLit cX9_isLit 2 (some .boolean) ∈ xTB := xTB_in 1301 (by decide +kernel) (by decide +kernel)
theorem wd_1302 : Cond.methodLink RL 206 yX9_eventMinute ∈ xTB := xTB_in 1302 (by decide +kernel) (by decide +kernel)
theorem wd_1303 : Cond.instanceMethod yX9_eventMinute ∈ xTB := xTB_in 1303 (by decide +kernel) (by decide +kernel)
theorem wd_1304 : Cond.selects yX9_eventMinute.cls yX9_eventMinute yX9_eventMinute ∈ xTB := xTB_in 1304 (by decide +kernel) (by decide +kernel)
theorem wd_1305 : Cond.code yX9_eventMinute cX9_eventMinute 2 (some .int) ∈ xTB := xTB_in 1305 (by decide +kernel) (by decide +kernel)
theorem wd_1306 : Cond.methodLink RL 209 yX9_eventCandle ∈ xTB := xTB_in 1306 (by decide +kernel) (by decide +kernel)
theorem wd_1307 : Cond.instanceMethod yX9_eventCandle ∈ xTB := xTB_in 1307 (by decide +kernel) (by decide +kernel)
theorem wd_1308 : Cond.selects yX9_eventCandle.cls yX9_eventCandle yX9_eventCandle ∈ xTB := xTB_in 1308 (by decide +kernel) (by decide +kernel)
theorem wd_1309 : Cond.code yX9_eventCandle cX9_eventCandle 2 (some .int) ∈ xTB := xTB_in 1309 (by decide +kernel) (by decide +kernel)
theorem wd_1310 : Cond.methodLink RL 212 yX9_isLighting ∈ xTB := xTB_in 1310 (by decide +kernel) (by decide +kernel)
theorem wd_1311 : Cond.instanceMethod yX9_isLighting ∈ xTB := xTB_in 1311 (by decide +kernel) (by decide +kernel)
theorem wd_1312 : Cond.selects yX9_isLighting.cls yX9_isLighting yX9_isLighting ∈ xTB := xTB_in 1312 (by decide +kernel) (by decide +kernel)
theorem wd_1313 : Cond.code yX9_isLighting cX9_isLighting 2 (some .boolean) ∈ xTB := xTB_in 1313 (by decide +kernel) (by decide +kernel)
theorem dL_seen_0 : decode cL_seen 0 = .ok (.sipush 130, 3) := by decide +kernel
theorem dL_seen_3 : decode cL_seen 3 = .ok (.newarray .int, 2) := by decide +kernel
theorem dL_seen_5 : decode cL_seen 5 = .ok (.astore_n 1, 1) := by decide +kernel
theorem dL_seen_6 : decode cL_seen 6 = .ok (.aload_n 1, 1) := by decide +kernel
theorem dL_seen_7 : decode cL_seen 7 = .ok (.iconst 0, 1) := by decide +kernel
theorem dL_seen_8 : decode cL_seen 8 = .ok (.aload_n 0, 1) := by decide +kernel
theorem dL_seen_9 : decode cL_seen 9 = .ok (.invokevirtual 129, 3) := by decide +kernel
theorem dL_seen_12 : decode cL_seen 12 = .ok (.iastore, 1) := by decide +kernel
theorem dL_seen_13 : decode cL_seen 13 = .ok (.aload_n 1, 1) := by decide +kernel
theorem dL_seen_14 : decode cL_seen 14 = .ok (.iconst 1, 1) := by decide +kernel
theorem dL_seen_15 : decode cL_seen 15 = .ok (.aload_n 0, 1) := by decide +kernel
theorem dL_seen_16 : decode cL_seen 16 = .ok (.invokevirtual 172, 3) := by decide +kernel
theorem dL_seen_19 : decode cL_seen 19 = .ok (.iastore, 1) := by decide +kernel
theorem dL_seen_20 : decode cL_seen 20 = .ok (.aload_n 1, 1) := by decide +kernel
theorem dL_seen_21 : decode cL_seen 21 = .ok (.iconst 2, 1) := by decide +kernel
theorem dL_seen_22 : decode cL_seen 22 = .ok (.aload_n 0, 1) := by decide +kernel
theorem dL_seen_23 : decode cL_seen 23 = .ok (.invokevirtual 118, 3) := by decide +kernel
theorem dL_seen_26 : decode cL_seen 26 = .ok (.iastore, 1) := by decide +kernel
theorem dL_seen_27 : decode cL_seen 27 = .ok (.aload_n 1, 1) := by decide +kernel
theorem dL_seen_28 : decode cL_seen 28 = .ok (.iconst 3, 1) := by decide +kernel
theorem dL_seen_29 : decode cL_seen 29 = .ok (.aload_n 0, 1) := by decide +kernel
theorem dL_seen_30 : decode cL_seen 30 = .ok (.invokevirtual 175, 3) := by decide +kernel
theorem dL_seen_33 : decode cL_seen 33 = .ok (.iastore, 1) := by decide +kernel
theorem dL_seen_34 : decode cL_seen 34 = .ok (.aload_n 1, 1) := by decide +kernel
theorem dL_seen_35 : decode cL_seen 35 = .ok (.iconst 4, 1) := by decide +kernel
theorem dL_seen_36 : decode cL_seen 36 = .ok (.aload_n 0, 1) := by decide +kernel
theorem dL_seen_37 : decode cL_seen 37 = .ok (.invokevirtual 178, 3) := by decide +kernel
theorem dL_seen_40 : decode cL_seen 40 = .ok (.iastore, 1) := by decide +kernel
theorem dL_seen_41 : decode cL_seen 41 = .ok (.aload_n 1, 1) := by decide +kernel
theorem dL_seen_42 : decode cL_seen 42 = .ok (.iconst 5, 1) := by decide +kernel
theorem dL_seen_43 : decode cL_seen 43 = .ok (.aload_n 0, 1) := by decide +kernel
theorem dL_seen_44 : decode cL_seen 44 = .ok (.invokevirtual 181, 3) := by decide +kernel
theorem dL_seen_47 : decode cL_seen 47 = .ok (.iastore, 1) := by decide +kernel
theorem dL_seen_48 : decode cL_seen 48 = .ok (.aload_n 1, 1) := by decide +kernel
theorem dL_seen_49 : decode cL_seen 49 = .ok (.bipush 6, 2) := by decide +kernel
theorem dL_seen_51 : decode cL_seen 51 = .ok (.aload_n 0, 1) := by decide +kernel
theorem dL_seen_52 : decode cL_seen 52 = .ok (.invokevirtual 184, 3) := by decide +kernel
theorem dL_seen_55 : decode cL_seen 55 = .ok (.iastore, 1) := by decide +kernel
theorem dL_seen_56 : decode cL_seen 56 = .ok (.aload_n 1, 1) := by decide +kernel
theorem dL_seen_57 : decode cL_seen 57 = .ok (.bipush 7, 2) := by decide +kernel
theorem dL_seen_59 : decode cL_seen 59 = .ok (.aload_n 0, 1) := by decide +kernel
theorem dL_seen_60 : decode cL_seen 60 = .ok (.invokevirtual 187, 3) := by decide +kernel
theorem dL_seen_63 : decode cL_seen 63 = .ok (.l2i, 1) := by decide +kernel
theorem dL_seen_64 : decode cL_seen 64 = .ok (.iastore, 1) := by decide +kernel
theorem dL_seen_65 : decode cL_seen 65 = .ok (.aload_n 1, 1) := by decide +kernel
theorem dL_seen_66 : decode cL_seen 66 = .ok (.bipush 8, 2) := by decide +kernel
theorem dL_seen_68 : decode cL_seen 68 = .ok (.aload_n 0, 1) := by decide +kernel
theorem dL_seen_69 : decode cL_seen 69 = .ok (.invokestatic 191, 3) := by decide +kernel
theorem dL_seen_72 : decode cL_seen 72 = .ok (.iastore, 1) := by decide +kernel
theorem dL_seen_73 : decode cL_seen 73 = .ok (.iconst 0, 1) := by decide +kernel
theorem dL_seen_74 : decode cL_seen 74 = .ok (.istore_n 2, 1) := by decide +kernel
theorem dL_seen_75 : decode cL_seen 75 = .ok (.iload_n 2, 1) := by decide +kernel
theorem dL_seen_76 : decode cL_seen 76 = .ok (.aload_n 0, 1) := by decide +kernel
theorem dL_seen_77 : decode cL_seen 77 = .ok (.invokevirtual 175, 3) := by decide +kernel
theorem dL_seen_80 : decode cL_seen 80 = .ok (.if_icmp .ge 69, 3) := by decide +kernel
theorem dL_seen_83 : decode cL_seen 83 = .ok (.aload_n 1, 1) := by decide +kernel
theorem dL_seen_84 : decode cL_seen 84 = .ok (.bipush 10, 2) := by decide +kernel
theorem dL_seen_86 : decode cL_seen 86 = .ok (.iconst 5, 1) := by decide +kernel
theorem dL_seen_87 : decode cL_seen 87 = .ok (.iload_n 2, 1) := by decide +kernel
theorem dL_seen_88 : decode cL_seen 88 = .ok (.imul, 1) := by decide +kernel
theorem dL_seen_89 : decode cL_seen 89 = .ok (.iadd, 1) := by decide +kernel
theorem dL_seen_90 : decode cL_seen 90 = .ok (.aload_n 0, 1) := by decide +kernel
theorem dL_seen_91 : decode cL_seen 91 = .ok (.iload_n 2, 1) := by decide +kernel
theorem dL_seen_92 : decode cL_seen 92 = .ok (.invokevirtual 193, 3) := by decide +kernel
theorem dL_seen_95 : decode cL_seen 95 = .ok (.iastore, 1) := by decide +kernel
theorem dL_seen_96 : decode cL_seen 96 = .ok (.aload_n 1, 1) := by decide +kernel
theorem dL_seen_97 : decode cL_seen 97 = .ok (.bipush 11, 2) := by decide +kernel
theorem dL_seen_99 : decode cL_seen 99 = .ok (.iconst 5, 1) := by decide +kernel
theorem dL_seen_100 : decode cL_seen 100 = .ok (.iload_n 2, 1) := by decide +kernel
theorem dL_seen_101 : decode cL_seen 101 = .ok (.imul, 1) := by decide +kernel
theorem dL_seen_102 : decode cL_seen 102 = .ok (.iadd, 1) := by decide +kernel
theorem dL_seen_103 : decode cL_seen 103 = .ok (.aload_n 0, 1) := by decide +kernel
theorem dL_seen_104 : decode cL_seen 104 = .ok (.iload_n 2, 1) := by decide +kernel
theorem dL_seen_105 : decode cL_seen 105 = .ok (.invokevirtual 196, 3) := by decide +kernel
theorem dL_seen_108 : decode cL_seen 108 = .ok (.iastore, 1) := by decide +kernel
theorem dL_seen_109 : decode cL_seen 109 = .ok (.aload_n 1, 1) := by decide +kernel
theorem dL_seen_110 : decode cL_seen 110 = .ok (.bipush 12, 2) := by decide +kernel
theorem dL_seen_112 : decode cL_seen 112 = .ok (.iconst 5, 1) := by decide +kernel
theorem dL_seen_113 : decode cL_seen 113 = .ok (.iload_n 2, 1) := by decide +kernel
theorem dL_seen_114 : decode cL_seen 114 = .ok (.imul, 1) := by decide +kernel
theorem dL_seen_115 : decode cL_seen 115 = .ok (.iadd, 1) := by decide +kernel
theorem dL_seen_116 : decode cL_seen 116 = .ok (.aload_n 0, 1) := by decide +kernel
theorem dL_seen_117 : decode cL_seen 117 = .ok (.iload_n 2, 1) := by decide +kernel
theorem dL_seen_118 : decode cL_seen 118 = .ok (.invokevirtual 199, 3) := by decide +kernel
theorem dL_seen_121 : decode cL_seen 121 = .ok (.iastore, 1) := by decide +kernel
theorem dL_seen_122 : decode cL_seen 122 = .ok (.aload_n 1, 1) := by decide +kernel
theorem dL_seen_123 : decode cL_seen 123 = .ok (.bipush 13, 2) := by decide +kernel
theorem dL_seen_125 : decode cL_seen 125 = .ok (.iconst 5, 1) := by decide +kernel
theorem dL_seen_126 : decode cL_seen 126 = .ok (.iload_n 2, 1) := by decide +kernel
theorem dL_seen_127 : decode cL_seen 127 = .ok (.imul, 1) := by decide +kernel
theorem dL_seen_128 : decode cL_seen 128 = .ok (.iadd, 1) := by decide +kernel
theorem dL_seen_129 : decode cL_seen 129 = .ok (.aload_n 0, 1) := by decide +kernel
theorem dL_seen_130 : decode cL_seen 130 = .ok (.iload_n 2, 1) := by decide +kernel
theorem dL_seen_131 : decode cL_seen 131 = .ok (.invokevirtual 202, 3) := by decide +kernel
theorem dL_seen_134 : decode cL_seen 134 = .ok (.ifCond .eq 7, 3) := by decide +kernel
theorem dL_seen_137 : decode cL_seen 137 = .ok (.iconst 1, 1) := by decide +kernel
theorem dL_seen_138 : decode cL_seen 138 = .ok (.goto 4, 3) := by decide +kernel
theorem dL_seen_141 : decode cL_seen 141 = .ok (.iconst 0, 1) := by decide +kernel
theorem dL_seen_142 : decode cL_seen 142 = .ok (.iastore, 1) := by decide +kernel
theorem dL_seen_143 : decode cL_seen 143 = .ok (.iinc 2 1, 3) := by decide +kernel
theorem dL_seen_146 : decode cL_seen 146 = .ok (.goto (-71), 3) := by decide +kernel
theorem dL_seen_149 : decode cL_seen 149 = .ok (.iconst 0, 1) := by decide +kernel
theorem dL_seen_150 : decode cL_seen 150 = .ok (.istore_n 2, 1) := by decide +kernel
theorem dL_seen_151 : decode cL_seen 151 = .ok (.iload_n 2, 1) := by decide +kernel
theorem dL_seen_152 : decode cL_seen 152 = .ok (.aload_n 0, 1) := by decide +kernel
theorem dL_seen_153 : decode cL_seen 153 = .ok (.invokevirtual 178, 3) := by decide +kernel
theorem dL_seen_156 : decode cL_seen 156 = .ok (.if_icmp .ge 56, 3) := by decide +kernel
theorem dL_seen_159 : decode cL_seen 159 = .ok (.aload_n 1, 1) := by decide +kernel
theorem dL_seen_160 : decode cL_seen 160 = .ok (.bipush 66, 2) := by decide +kernel
theorem dL_seen_162 : decode cL_seen 162 = .ok (.iconst 3, 1) := by decide +kernel
theorem dL_seen_163 : decode cL_seen 163 = .ok (.iload_n 2, 1) := by decide +kernel
theorem dL_seen_164 : decode cL_seen 164 = .ok (.imul, 1) := by decide +kernel
theorem dL_seen_165 : decode cL_seen 165 = .ok (.iadd, 1) := by decide +kernel
theorem dL_seen_166 : decode cL_seen 166 = .ok (.aload_n 0, 1) := by decide +kernel
theorem dL_seen_167 : decode cL_seen 167 = .ok (.iload_n 2, 1) := by decide +kernel
theorem dL_seen_168 : decode cL_seen 168 = .ok (.invokevirtual 206, 3) := by decide +kernel
theorem dL_seen_171 : decode cL_seen 171 = .ok (.iastore, 1) := by decide +kernel
theorem dL_seen_172 : decode cL_seen 172 = .ok (.aload_n 1, 1) := by decide +kernel
theorem dL_seen_173 : decode cL_seen 173 = .ok (.bipush 67, 2) := by decide +kernel
theorem dL_seen_175 : decode cL_seen 175 = .ok (.iconst 3, 1) := by decide +kernel
theorem dL_seen_176 : decode cL_seen 176 = .ok (.iload_n 2, 1) := by decide +kernel
theorem dL_seen_177 : decode cL_seen 177 = .ok (.imul, 1) := by decide +kernel
theorem dL_seen_178 : decode cL_seen 178 = .ok (.iadd, 1) := by decide +kernel
theorem dL_seen_179 : decode cL_seen 179 = .ok (.aload_n 0, 1) := by decide +kernel
theorem dL_seen_180 : decode cL_seen 180 = .ok (.iload_n 2, 1) := by decide +kernel
theorem dL_seen_181 : decode cL_seen 181 = .ok (.invokevirtual 209, 3) := by decide +kernel
theorem dL_seen_184 : decode cL_seen 184 = .ok (.iastore, 1) := by decide +kernel
theorem dL_seen_185 : decode cL_seen 185 = .ok (.aload_n 1, 1) := by decide +kernel
theorem dL_seen_186 : decode cL_seen 186 = .ok (.bipush 68, 2) := by decide +kernel
theorem dL_seen_188 : decode cL_seen 188 = .ok (.iconst 3, 1) := by decide +kernel
theorem dL_seen_189 : decode cL_seen 189 = .ok (.iload_n 2, 1) := by decide +kernel
theorem dL_seen_190 : decode cL_seen 190 = .ok (.imul, 1) := by decide +kernel
theorem dL_seen_191 : decode cL_seen 191 = .ok (.iadd, 1) := by decide +kernel
theorem dL_seen_192 : decode cL_seen 192 = .ok (.aload_n 0, 1) := by decide +kernel
theorem dL_seen_193 : decode cL_seen 193 = .ok (.iload_n 2, 1) := by decide +kernel
theorem dL_seen_194 : decode cL_seen 194 = .ok (.invokevirtual 212, 3) := by decide +kernel
theorem dL_seen_197 : decode cL_seen 197 = .ok (.ifCond .eq 7, 3) := by decide +kernel
theorem dL_seen_200 : decode cL_seen 200 = .ok (.iconst 1, 1) := by decide +kernel
theorem dL_seen_201 : decode cL_seen 201 = .ok (.goto 4, 3) := by decide +kernel
theorem dL_seen_204 : decode cL_seen 204 = .ok (.iconst 0, 1) := by decide +kernel
theorem dL_seen_205 : decode cL_seen 205 = .ok (.iastore, 1) := by decide +kernel
theorem dL_seen_206 : decode cL_seen 206 = .ok (.iinc 2 1, 3) := by decide +kernel
theorem dL_seen_209 : decode cL_seen 209 = .ok (.goto (-58), 3) := by decide +kernel
theorem dL_seen_212 : decode cL_seen 212 = .ok (.aload_n 1, 1) := by decide +kernel
theorem dL_seen_213 : decode cL_seen 213 = .ok (.areturn, 1) := by decide +kernel
set_option maxHeartbeats 4000000 in
set_option maxRecDepth 100000 in
theorem c_Q_seen (g : xG) (l : Launch) (hl : l.stackTraces = false) (a : Nat → Nat) (b : Nat → Nat) (y : Nat) (z : CcT) (v : StS) (c : CdT) (e : EvT)  {u : (Nat → Int32)} (hf : f_Q_seen z v c e = some u) : Con g l yL_seen cL_seen 3 (some (.array .int)) ({ frames := 8, cells := 226, slots := 1480, locals := 132 } : Room) [.ref (a 0)] ([ccO g a b y z, stO g a 10 v, cdW g a 10 c, evW g a 10 e] : List va_W).flatten (fun v9 w9 => ∃ q9 : Nat, v9 = some (.ref q9) ∧ w9 = ([ccO g a b y z, stO g a 10 v, cdW g a 10 c, evW g a 10 e, iaW g q9 130 u] : List va_W).flatten) 226 1480 := by
  unfold f_Q_seen at hf
  refine Con_of [ccO g a b y z, stO g a 10 v, cdW g a 10 c, evW g a 10 e] [(0, .ref (a 0))] rfl rfl (by decide) (Nat.le_of_ble_eq_true rfl) ?_
  intro pW eW sW mW argsW belowW methW c9 C hnm hr
  have C : CX g RL cL_seen 3 _ pW sW mW argsW methW c9 := C
  refine x_sipush (v := 130) C dL_seen_0 (by decide) ?_
  refine x_newa (atype := .int) (a0 := (130, .inl (fun _ => 0))) (N := 130) C 1 rfl wd_845 (fun _ => rfl) (by decide) (by decide) (by decide) (by show _ ≤ 226; omega) (by show _ ≤ 1480; omega) dL_seen_3 (fun q1 => ?_)
  refine x_same (wss' := [ccO g a b y z, stO g a 10 v, cdW g a 10 c, evW g a 10 e, iaW g q1 130 (fun _ => 0)]) rfl ?_
  refine x_astore_n (lv' := [(1, .ref q1), (0, .ref (a 0))]) C dL_seen_5 rfl (by decide) rfl ?_
  refine x_aload_n C dL_seen_6 rfl 0 rfl ?_
  refine x_iconst (v := 0) C dL_seen_7 (by decide) ?_
  refine x_aload_n C dL_seen_8 rfl 1 rfl ?_
  obtain ⟨u2, hu2, hf⟩ := x_b hf
  refine x_callV (n := 0) (As := []) (rest := [.int (0 : Int32), .ref q1]) C (c_X9_time g l a b y z v hu2) ⟨⟨wd_156, wd_153, wd_25⟩, ⟨by decide, by decide, by decide⟩, rfl, rfl, Nat.le_of_ble_eq_true rfl, Nat.le_of_ble_eq_true rfl⟩ wd_154 wd_155 ⟨0, 10, _, _, rfl, rfl, rfl⟩ [cdW g a 10 c, evW g a 10 e, iaW g q1 130 (fun _ => 0)] (x_pickD [0, 1, 2, 3, 4] 5 rfl rfl rfl) rfl rfl (Nat.le_of_ble_eq_true rfl) ⟨by show _ ≤ 226; omega, by show _ ≤ 1480; omega⟩ dL_seen_9 (x_goD (wss2 := [ccO g a b y z, stO g a 10 v, cdW g a 10 c, evW g a 10 e, iaW g q1 130 (fun _ => 0)]) (stk2 := [.int u2, .int (0 : Int32), .ref q1]) rfl rfl ?_)
  obtain ⟨h3, hf⟩ := x_n hf
  refine x_iast (b := iaW g q1 130 (fun _ => 0)) (b' := iaW g q1 130 (upd (fun _ => 0) (0 : Int32).toNatClampNeg u2)) (wss' := [ccO g a b y z, stO g a 10 v, cdW g a 10 c, evW g a 10 e, iaW g q1 130 (upd (fun _ => 0) (0 : Int32).toNatClampNeg u2)]) C 4 rfl 0 (iaW_at0 g q1 130 _) h3 rfl rfl dL_seen_12 ?_
  refine x_aload_n C dL_seen_13 rfl 0 rfl ?_
  refine x_iconst (v := 1) C dL_seen_14 (by decide) ?_
  refine x_aload_n C dL_seen_15 rfl 1 rfl ?_
  obtain ⟨u4, hu4, hf⟩ := x_b hf
  refine x_callV (n := 0) (As := []) (rest := [.int (1 : Int32), .ref q1]) C (c_X9_draught g l a b y z v hu4) ⟨⟨wd_1257, wd_1254, wd_25⟩, ⟨by decide, by decide, by decide⟩, rfl, rfl, Nat.le_of_ble_eq_true rfl, Nat.le_of_ble_eq_true rfl⟩ wd_1255 wd_1256 ⟨0, 10, _, _, rfl, rfl, rfl⟩ [cdW g a 10 c, evW g a 10 e, iaW g q1 130 (upd (fun _ => 0) (0 : Int32).toNatClampNeg u2)] (x_pickD [0, 1, 2, 3, 4] 5 rfl rfl rfl) rfl rfl (Nat.le_of_ble_eq_true rfl) ⟨by show _ ≤ 226; omega, by show _ ≤ 1480; omega⟩ dL_seen_16 (x_goD (wss2 := [ccO g a b y z, stO g a 10 v, cdW g a 10 c, evW g a 10 e, iaW g q1 130 (upd (fun _ => 0) (0 : Int32).toNatClampNeg u2)]) (stk2 := [.int u4, .int (1 : Int32), .ref q1]) rfl rfl ?_)
  obtain ⟨h5, hf⟩ := x_n hf
  refine x_iast (b := iaW g q1 130 (upd (fun _ => 0) (0 : Int32).toNatClampNeg u2)) (b' := iaW g q1 130 (upd (upd (fun _ => 0) (0 : Int32).toNatClampNeg u2) (1 : Int32).toNatClampNeg u4)) (wss' := [ccO g a b y z, stO g a 10 v, cdW g a 10 c, evW g a 10 e, iaW g q1 130 (upd (upd (fun _ => 0) (0 : Int32).toNatClampNeg u2) (1 : Int32).toNatClampNeg u4)]) C 4 rfl 0 (iaW_at0 g q1 130 _) h5 rfl rfl dL_seen_19 ?_
  refine x_aload_n C dL_seen_20 rfl 0 rfl ?_
  refine x_iconst (v := 2) C dL_seen_21 (by decide) ?_
  refine x_aload_n C dL_seen_22 rfl 1 rfl ?_
  obtain ⟨u6, hu6, hf⟩ := x_b hf
  refine x_callV (n := 0) (As := []) (rest := [.int (2 : Int32), .ref q1]) C (c_X9_dish g l a b y z v hu6) ⟨⟨wd_1076, wd_1073, wd_25⟩, ⟨by decide, by decide, by decide⟩, rfl, rfl, Nat.le_of_ble_eq_true rfl, Nat.le_of_ble_eq_true rfl⟩ wd_1074 wd_1075 ⟨0, 10, _, _, rfl, rfl, rfl⟩ [cdW g a 10 c, evW g a 10 e, iaW g q1 130 (upd (upd (fun _ => 0) (0 : Int32).toNatClampNeg u2) (1 : Int32).toNatClampNeg u4)] (x_pickD [0, 1, 2, 3, 4] 5 rfl rfl rfl) rfl rfl (Nat.le_of_ble_eq_true rfl) ⟨by show _ ≤ 226; omega, by show _ ≤ 1480; omega⟩ dL_seen_23 (x_goD (wss2 := [ccO g a b y z, stO g a 10 v, cdW g a 10 c, evW g a 10 e, iaW g q1 130 (upd (upd (fun _ => 0) (0 : Int32).toNatClampNeg u2) (1 : Int32).toNatClampNeg u4)]) (stk2 := [.int u6, .int (2 : Int32), .ref q1]) rfl rfl ?_)
  obtain ⟨h7, hf⟩ := x_n hf
  refine x_iast (b := iaW g q1 130 (upd (upd (fun _ => 0) (0 : Int32).toNatClampNeg u2) (1 : Int32).toNatClampNeg u4)) (b' := iaW g q1 130 (upd (upd (upd (fun _ => 0) (0 : Int32).toNatClampNeg u2) (1 : Int32).toNatClampNeg u4) (2 : Int32).toNatClampNeg u6)) (wss' := [ccO g a b y z, stO g a 10 v, cdW g a 10 c, evW g a 10 e, iaW g q1 130 (upd (upd (upd (fun _ => 0) (0 : Int32).toNatClampNeg u2) (1 : Int32).toNatClampNeg u4) (2 : Int32).toNatClampNeg u6)]) C 4 rfl 0 (iaW_at0 g q1 130 _) h7 rfl rfl dL_seen_26 ?_
  refine x_aload_n C dL_seen_27 rfl 0 rfl ?_
  refine x_iconst (v := 3) C dL_seen_28 (by decide) ?_
  refine x_aload_n C dL_seen_29 rfl 1 rfl ?_
  obtain ⟨u8, hu8, hf⟩ := x_b hf
  refine x_callV (n := 0) (As := []) (rest := [.int (3 : Int32), .ref q1]) C (c_X9_candles g l a b y z v c hu8) ⟨⟨wd_1261, wd_1258, wd_25⟩, ⟨by decide, by decide, by decide⟩, rfl, rfl, Nat.le_of_ble_eq_true rfl, Nat.le_of_ble_eq_true rfl⟩ wd_1259 wd_1260 ⟨0, 10, _, _, rfl, rfl, rfl⟩ [evW g a 10 e, iaW g q1 130 (upd (upd (upd (fun _ => 0) (0 : Int32).toNatClampNeg u2) (1 : Int32).toNatClampNeg u4) (2 : Int32).toNatClampNeg u6)] (x_pickD [0, 1, 2, 3, 4] 5 rfl rfl rfl) rfl rfl (Nat.le_of_ble_eq_true rfl) ⟨by show _ ≤ 226; omega, by show _ ≤ 1480; omega⟩ dL_seen_30 (x_goD (wss2 := [ccO g a b y z, stO g a 10 v, cdW g a 10 c, evW g a 10 e, iaW g q1 130 (upd (upd (upd (fun _ => 0) (0 : Int32).toNatClampNeg u2) (1 : Int32).toNatClampNeg u4) (2 : Int32).toNatClampNeg u6)]) (stk2 := [.int u8, .int (3 : Int32), .ref q1]) rfl rfl ?_)
  obtain ⟨h9, hf⟩ := x_n hf
  refine x_iast (b := iaW g q1 130 (upd (upd (upd (fun _ => 0) (0 : Int32).toNatClampNeg u2) (1 : Int32).toNatClampNeg u4) (2 : Int32).toNatClampNeg u6)) (b' := iaW g q1 130 (upd (upd (upd (upd (fun _ => 0) (0 : Int32).toNatClampNeg u2) (1 : Int32).toNatClampNeg u4) (2 : Int32).toNatClampNeg u6) (3 : Int32).toNatClampNeg u8)) (wss' := [ccO g a b y z, stO g a 10 v, cdW g a 10 c, evW g a 10 e, iaW g q1 130 (upd (upd (upd (upd (fun _ => 0) (0 : Int32).toNatClampNeg u2) (1 : Int32).toNatClampNeg u4) (2 : Int32).toNatClampNeg u6) (3 : Int32).toNatClampNeg u8)]) C 4 rfl 0 (iaW_at0 g q1 130 _) h9 rfl rfl dL_seen_33 ?_
  refine x_aload_n C dL_seen_34 rfl 0 rfl ?_
  refine x_iconst (v := 4) C dL_seen_35 (by decide) ?_
  refine x_aload_n C dL_seen_36 rfl 1 rfl ?_
  obtain ⟨u10, hu10, hf⟩ := x_b hf
  refine x_callV (n := 0) (As := []) (rest := [.int (4 : Int32), .ref q1]) C (c_X9_events g l a b y z v e hu10) ⟨⟨wd_1265, wd_1262, wd_25⟩, ⟨by decide, by decide, by decide⟩, rfl, rfl, Nat.le_of_ble_eq_true rfl, Nat.le_of_ble_eq_true rfl⟩ wd_1263 wd_1264 ⟨0, 10, _, _, rfl, rfl, rfl⟩ [cdW g a 10 c, iaW g q1 130 (upd (upd (upd (upd (fun _ => 0) (0 : Int32).toNatClampNeg u2) (1 : Int32).toNatClampNeg u4) (2 : Int32).toNatClampNeg u6) (3 : Int32).toNatClampNeg u8)] (x_pickD [0, 1, 3, 2, 4] 5 rfl rfl rfl) rfl rfl (Nat.le_of_ble_eq_true rfl) ⟨by show _ ≤ 226; omega, by show _ ≤ 1480; omega⟩ dL_seen_37 (x_goD (wss2 := [ccO g a b y z, stO g a 10 v, evW g a 10 e, cdW g a 10 c, iaW g q1 130 (upd (upd (upd (upd (fun _ => 0) (0 : Int32).toNatClampNeg u2) (1 : Int32).toNatClampNeg u4) (2 : Int32).toNatClampNeg u6) (3 : Int32).toNatClampNeg u8)]) (stk2 := [.int u10, .int (4 : Int32), .ref q1]) rfl rfl ?_)
  obtain ⟨h11, hf⟩ := x_n hf
  refine x_iast (b := iaW g q1 130 (upd (upd (upd (upd (fun _ => 0) (0 : Int32).toNatClampNeg u2) (1 : Int32).toNatClampNeg u4) (2 : Int32).toNatClampNeg u6) (3 : Int32).toNatClampNeg u8)) (b' := iaW g q1 130 (upd (upd (upd (upd (upd (fun _ => 0) (0 : Int32).toNatClampNeg u2) (1 : Int32).toNatClampNeg u4) (2 : Int32).toNatClampNeg u6) (3 : Int32).toNatClampNeg u8) (4 : Int32).toNatClampNeg u10)) (wss' := [ccO g a b y z, stO g a 10 v, evW g a 10 e, cdW g a 10 c, iaW g q1 130 (upd (upd (upd (upd (upd (fun _ => 0) (0 : Int32).toNatClampNeg u2) (1 : Int32).toNatClampNeg u4) (2 : Int32).toNatClampNeg u6) (3 : Int32).toNatClampNeg u8) (4 : Int32).toNatClampNeg u10)]) C 4 rfl 0 (iaW_at0 g q1 130 _) h11 rfl rfl dL_seen_40 ?_
  refine x_aload_n C dL_seen_41 rfl 0 rfl ?_
  refine x_iconst (v := 5) C dL_seen_42 (by decide) ?_
  refine x_aload_n C dL_seen_43 rfl 1 rfl ?_
  obtain ⟨u12, hu12, hf⟩ := x_b hf
  refine x_callV (n := 0) (As := []) (rest := [.int (5 : Int32), .ref q1]) C (c_X9_failedEvents g l a b y z v hu12) ⟨⟨wd_1269, wd_1266, wd_25⟩, ⟨by decide, by decide, by decide⟩, rfl, rfl, Nat.le_of_ble_eq_true rfl, Nat.le_of_ble_eq_true rfl⟩ wd_1267 wd_1268 ⟨0, 10, _, _, rfl, rfl, rfl⟩ [evW g a 10 e, cdW g a 10 c, iaW g q1 130 (upd (upd (upd (upd (upd (fun _ => 0) (0 : Int32).toNatClampNeg u2) (1 : Int32).toNatClampNeg u4) (2 : Int32).toNatClampNeg u6) (3 : Int32).toNatClampNeg u8) (4 : Int32).toNatClampNeg u10)] (x_pickD [0, 1, 2, 3, 4] 5 rfl rfl rfl) rfl rfl (Nat.le_of_ble_eq_true rfl) ⟨by show _ ≤ 226; omega, by show _ ≤ 1480; omega⟩ dL_seen_44 (x_goD (wss2 := [ccO g a b y z, stO g a 10 v, evW g a 10 e, cdW g a 10 c, iaW g q1 130 (upd (upd (upd (upd (upd (fun _ => 0) (0 : Int32).toNatClampNeg u2) (1 : Int32).toNatClampNeg u4) (2 : Int32).toNatClampNeg u6) (3 : Int32).toNatClampNeg u8) (4 : Int32).toNatClampNeg u10)]) (stk2 := [.int u12, .int (5 : Int32), .ref q1]) rfl rfl ?_)
  obtain ⟨h13, hf⟩ := x_n hf
  refine x_iast (b := iaW g q1 130 (upd (upd (upd (upd (upd (fun _ => 0) (0 : Int32).toNatClampNeg u2) (1 : Int32).toNatClampNeg u4) (2 : Int32).toNatClampNeg u6) (3 : Int32).toNatClampNeg u8) (4 : Int32).toNatClampNeg u10)) (b' := iaW g q1 130 (upd (upd (upd (upd (upd (upd (fun _ => 0) (0 : Int32).toNatClampNeg u2) (1 : Int32).toNatClampNeg u4) (2 : Int32).toNatClampNeg u6) (3 : Int32).toNatClampNeg u8) (4 : Int32).toNatClampNeg u10) (5 : Int32).toNatClampNeg u12)) (wss' := [ccO g a b y z, stO g a 10 v, evW g a 10 e, cdW g a 10 c, iaW g q1 130 (upd (upd (upd (upd (upd (upd (fun _ => 0) (0 : Int32).toNatClampNeg u2) (1 : Int32).toNatClampNeg u4) (2 : Int32).toNatClampNeg u6) (3 : Int32).toNatClampNeg u8) (4 : Int32).toNatClampNeg u10) (5 : Int32).toNatClampNeg u12)]) C 4 rfl 0 (iaW_at0 g q1 130 _) h13 rfl rfl dL_seen_47 ?_
  refine x_aload_n C dL_seen_48 rfl 0 rfl ?_
  refine x_bipush (v := 6) C dL_seen_49 (by decide) ?_
  refine x_aload_n C dL_seen_51 rfl 1 rfl ?_
  obtain ⟨u14, hu14, hf⟩ := x_b hf
  refine x_callV (n := 0) (As := []) (rest := [.int (6 : Int32), .ref q1]) C (c_X9_burnt g l a b y z v hu14) ⟨⟨wd_1273, wd_1270, wd_25⟩, ⟨by decide, by decide, by decide⟩, rfl, rfl, Nat.le_of_ble_eq_true rfl, Nat.le_of_ble_eq_true rfl⟩ wd_1271 wd_1272 ⟨0, 10, _, _, rfl, rfl, rfl⟩ [evW g a 10 e, cdW g a 10 c, iaW g q1 130 (upd (upd (upd (upd (upd (upd (fun _ => 0) (0 : Int32).toNatClampNeg u2) (1 : Int32).toNatClampNeg u4) (2 : Int32).toNatClampNeg u6) (3 : Int32).toNatClampNeg u8) (4 : Int32).toNatClampNeg u10) (5 : Int32).toNatClampNeg u12)] (x_pickD [0, 1, 2, 3, 4] 5 rfl rfl rfl) rfl rfl (Nat.le_of_ble_eq_true rfl) ⟨by show _ ≤ 226; omega, by show _ ≤ 1480; omega⟩ dL_seen_52 (x_goD (wss2 := [ccO g a b y z, stO g a 10 v, evW g a 10 e, cdW g a 10 c, iaW g q1 130 (upd (upd (upd (upd (upd (upd (fun _ => 0) (0 : Int32).toNatClampNeg u2) (1 : Int32).toNatClampNeg u4) (2 : Int32).toNatClampNeg u6) (3 : Int32).toNatClampNeg u8) (4 : Int32).toNatClampNeg u10) (5 : Int32).toNatClampNeg u12)]) (stk2 := [.int u14, .int (6 : Int32), .ref q1]) rfl rfl ?_)
  obtain ⟨h15, hf⟩ := x_n hf
  refine x_iast (b := iaW g q1 130 (upd (upd (upd (upd (upd (upd (fun _ => 0) (0 : Int32).toNatClampNeg u2) (1 : Int32).toNatClampNeg u4) (2 : Int32).toNatClampNeg u6) (3 : Int32).toNatClampNeg u8) (4 : Int32).toNatClampNeg u10) (5 : Int32).toNatClampNeg u12)) (b' := iaW g q1 130 (upd (upd (upd (upd (upd (upd (upd (fun _ => 0) (0 : Int32).toNatClampNeg u2) (1 : Int32).toNatClampNeg u4) (2 : Int32).toNatClampNeg u6) (3 : Int32).toNatClampNeg u8) (4 : Int32).toNatClampNeg u10) (5 : Int32).toNatClampNeg u12) (6 : Int32).toNatClampNeg u14)) (wss' := [ccO g a b y z, stO g a 10 v, evW g a 10 e, cdW g a 10 c, iaW g q1 130 (upd (upd (upd (upd (upd (upd (upd (fun _ => 0) (0 : Int32).toNatClampNeg u2) (1 : Int32).toNatClampNeg u4) (2 : Int32).toNatClampNeg u6) (3 : Int32).toNatClampNeg u8) (4 : Int32).toNatClampNeg u10) (5 : Int32).toNatClampNeg u12) (6 : Int32).toNatClampNeg u14)]) C 4 rfl 0 (iaW_at0 g q1 130 _) h15 rfl rfl dL_seen_55 ?_
  refine x_aload_n C dL_seen_56 rfl 0 rfl ?_
  refine x_bipush (v := 7) C dL_seen_57 (by decide) ?_
  refine x_aload_n C dL_seen_59 rfl 1 rfl ?_
  obtain ⟨u16, hu16, hf⟩ := x_b hf
  refine x_callV (n := 0) (As := []) (rest := [.int (7 : Int32), .ref q1]) C (c_X9_addedWax g l a b y z v hu16) ⟨⟨wd_1277, wd_1274, wd_25⟩, ⟨by decide, by decide, by decide⟩, rfl, rfl, Nat.le_of_ble_eq_true rfl, Nat.le_of_ble_eq_true rfl⟩ wd_1275 wd_1276 ⟨0, 10, _, _, rfl, rfl, rfl⟩ [evW g a 10 e, cdW g a 10 c, iaW g q1 130 (upd (upd (upd (upd (upd (upd (upd (fun _ => 0) (0 : Int32).toNatClampNeg u2) (1 : Int32).toNatClampNeg u4) (2 : Int32).toNatClampNeg u6) (3 : Int32).toNatClampNeg u8) (4 : Int32).toNatClampNeg u10) (5 : Int32).toNatClampNeg u12) (6 : Int32).toNatClampNeg u14)] (x_pickD [0, 1, 2, 3, 4] 5 rfl rfl rfl) rfl rfl (Nat.le_of_ble_eq_true rfl) ⟨by show _ ≤ 226; omega, by show _ ≤ 1480; omega⟩ dL_seen_60 (x_goD (wss2 := [ccO g a b y z, stO g a 10 v, evW g a 10 e, cdW g a 10 c, iaW g q1 130 (upd (upd (upd (upd (upd (upd (upd (fun _ => 0) (0 : Int32).toNatClampNeg u2) (1 : Int32).toNatClampNeg u4) (2 : Int32).toNatClampNeg u6) (3 : Int32).toNatClampNeg u8) (4 : Int32).toNatClampNeg u10) (5 : Int32).toNatClampNeg u12) (6 : Int32).toNatClampNeg u14)]) (stk2 := [.long u16, .int (7 : Int32), .ref q1]) rfl rfl ?_)
  refine x_l2i C dL_seen_63 ?_
  obtain ⟨h17, hf⟩ := x_n hf
  refine x_iast (b := iaW g q1 130 (upd (upd (upd (upd (upd (upd (upd (fun _ => 0) (0 : Int32).toNatClampNeg u2) (1 : Int32).toNatClampNeg u4) (2 : Int32).toNatClampNeg u6) (3 : Int32).toNatClampNeg u8) (4 : Int32).toNatClampNeg u10) (5 : Int32).toNatClampNeg u12) (6 : Int32).toNatClampNeg u14)) (b' := iaW g q1 130 (upd (upd (upd (upd (upd (upd (upd (upd (fun _ => 0) (0 : Int32).toNatClampNeg u2) (1 : Int32).toNatClampNeg u4) (2 : Int32).toNatClampNeg u6) (3 : Int32).toNatClampNeg u8) (4 : Int32).toNatClampNeg u10) (5 : Int32).toNatClampNeg u12) (6 : Int32).toNatClampNeg u14) (7 : Int32).toNatClampNeg u16.toInt32)) (wss' := [ccO g a b y z, stO g a 10 v, evW g a 10 e, cdW g a 10 c, iaW g q1 130 (upd (upd (upd (upd (upd (upd (upd (upd (fun _ => 0) (0 : Int32).toNatClampNeg u2) (1 : Int32).toNatClampNeg u4) (2 : Int32).toNatClampNeg u6) (3 : Int32).toNatClampNeg u8) (4 : Int32).toNatClampNeg u10) (5 : Int32).toNatClampNeg u12) (6 : Int32).toNatClampNeg u14) (7 : Int32).toNatClampNeg u16.toInt32)]) C 4 rfl 0 (iaW_at0 g q1 130 _) h17 rfl rfl dL_seen_64 ?_
  refine x_aload_n C dL_seen_65 rfl 0 rfl ?_
  refine x_bipush (v := 8) C dL_seen_66 (by decide) ?_
  refine x_aload_n C dL_seen_68 rfl 1 rfl ?_
  obtain ⟨u18, hu18, hf⟩ := x_b hf
  refine x_hcallS (n := 1) (As := [.ref (a 0)]) (rest := [.int (8 : Int32), .ref q1]) C (c_Q_lastCandle g l hl a b y z v hu18) ⟨⟨wd_1280, wd_1278, wd_24⟩, ⟨by decide, by decide, by decide⟩, rfl, rfl, Nat.le_of_ble_eq_true rfl, Nat.le_of_ble_eq_true rfl⟩ wd_1279 [evW g a 10 e, cdW g a 10 c, iaW g q1 130 (upd (upd (upd (upd (upd (upd (upd (upd (fun _ => 0) (0 : Int32).toNatClampNeg u2) (1 : Int32).toNatClampNeg u4) (2 : Int32).toNatClampNeg u6) (3 : Int32).toNatClampNeg u8) (4 : Int32).toNatClampNeg u10) (5 : Int32).toNatClampNeg u12) (6 : Int32).toNatClampNeg u14) (7 : Int32).toNatClampNeg u16.toInt32)] (x_pickD [0, 1, 2, 3, 4] 5 rfl rfl rfl) rfl rfl (Nat.le_of_ble_eq_true rfl) ⟨by show _ ≤ 226; omega, by show _ ≤ 1480; omega⟩ dL_seen_69 (fun v9 w9 hQ9 => ?_)
  obtain ⟨rfl, rfl⟩ := hQ9
  refine x_goW (wss2 := [ccO g a b y z, stO g a 10 v, evW g a 10 e, cdW g a 10 c, iaW g q1 130 (upd (upd (upd (upd (upd (upd (upd (upd (fun _ => 0) (0 : Int32).toNatClampNeg u2) (1 : Int32).toNatClampNeg u4) (2 : Int32).toNatClampNeg u6) (3 : Int32).toNatClampNeg u8) (4 : Int32).toNatClampNeg u10) (5 : Int32).toNatClampNeg u12) (6 : Int32).toNatClampNeg u14) (7 : Int32).toNatClampNeg u16.toInt32)]) (stk2 := [.int u18, .int (8 : Int32), .ref q1]) rfl rfl rfl ?_
  obtain ⟨h19, hf⟩ := x_n hf
  refine x_iast (b := iaW g q1 130 (upd (upd (upd (upd (upd (upd (upd (upd (fun _ => 0) (0 : Int32).toNatClampNeg u2) (1 : Int32).toNatClampNeg u4) (2 : Int32).toNatClampNeg u6) (3 : Int32).toNatClampNeg u8) (4 : Int32).toNatClampNeg u10) (5 : Int32).toNatClampNeg u12) (6 : Int32).toNatClampNeg u14) (7 : Int32).toNatClampNeg u16.toInt32)) (b' := iaW g q1 130 (upd (upd (upd (upd (upd (upd (upd (upd (upd (fun _ => 0) (0 : Int32).toNatClampNeg u2) (1 : Int32).toNatClampNeg u4) (2 : Int32).toNatClampNeg u6) (3 : Int32).toNatClampNeg u8) (4 : Int32).toNatClampNeg u10) (5 : Int32).toNatClampNeg u12) (6 : Int32).toNatClampNeg u14) (7 : Int32).toNatClampNeg u16.toInt32) (8 : Int32).toNatClampNeg u18)) (wss' := [ccO g a b y z, stO g a 10 v, evW g a 10 e, cdW g a 10 c, iaW g q1 130 (upd (upd (upd (upd (upd (upd (upd (upd (upd (fun _ => 0) (0 : Int32).toNatClampNeg u2) (1 : Int32).toNatClampNeg u4) (2 : Int32).toNatClampNeg u6) (3 : Int32).toNatClampNeg u8) (4 : Int32).toNatClampNeg u10) (5 : Int32).toNatClampNeg u12) (6 : Int32).toNatClampNeg u14) (7 : Int32).toNatClampNeg u16.toInt32) (8 : Int32).toNatClampNeg u18)]) C 4 rfl 0 (iaW_at0 g q1 130 _) h19 rfl rfl dL_seen_72 ?_
  refine x_iconst (v := 0) C dL_seen_73 (by decide) ?_
  refine x_istore_n (lv' := [(2, .int (0 : Int32)), (1, .ref q1), (0, .ref (a 0))]) C dL_seen_74 rfl (by decide) rfl ?_
  refine x_perm (wss' := [ccO g a b y z, stO g a 10 v, cdW g a 10 c, evW g a 10 e, iaW g q1 130 (upd (upd (upd (upd (upd (upd (upd (upd (upd (fun _ => 0) (0 : Int32).toNatClampNeg u2) (1 : Int32).toNatClampNeg u4) (2 : Int32).toNatClampNeg u6) (3 : Int32).toNatClampNeg u8) (4 : Int32).toNatClampNeg u10) (5 : Int32).toNatClampNeg u12) (6 : Int32).toNatClampNeg u14) (7 : Int32).toNatClampNeg u16.toInt32) (8 : Int32).toNatClampNeg u18)]) (x_pick [0, 1, 3, 2, 4] 5 rfl rfl rfl) ?_
  refine x_locals (lv' := [(0, .ref (a 0)), (1, .ref q1), (2, .int (0 : Int32))]) [2, 1, 0] rfl ?_
  refine x_widen (k := 2) (n := 136) (by omega) (by omega) ?_
  have hL151 : ∀ (nW kW tW : Nat) (rL : (Nat → Int32)) (x2 : Int32), kW + 3 * nW + 0 ≤ 226 → tW + 18 * nW + 0 ≤ 1480 → f_Q_seen_151 nW z v c e rL x2 = some u → VW g (va_A ([ccO g a b y z, stO g a 10 v, cdW g a 10 c, evW g a 10 e] : List va_W).flatten sW.heap.size) 3 pW l eW ({ frames := 8, cells := 226, slots := 1480, locals := 132 } : Room) sW mW argsW belowW methW c9 kW tW (MQ belowW (xQc g ([ccO g a b y z, stO g a 10 v, cdW g a 10 c, evW g a 10 e] : List va_W).flatten sW.heap.size (fun v9 w9 => ∃ q9 : Nat, v9 = some (.ref q9) ∧ w9 = ([ccO g a b y z, stO g a 10 v, cdW g a 10 c, evW g a 10 e, iaW g q9 130 u] : List va_W).flatten)) argsW sW 226 1480 (va_A ([ccO g a b y z, stO g a 10 v, cdW g a 10 c, evW g a 10 e] : List va_W).flatten sW.heap.size)) [ccO g a b y z, stO g a 10 v, cdW g a 10 c, evW g a 10 e, iaW g q1 130 rL] [(0, .ref (a 0)), (1, .ref q1), (2, .int x2)] 151 [] := by
    intro nW
    induction nW with
    | zero => intro kW tW rL x2 hkW htW hf; rw [f_Q_seen_151] at hf; cases hf
    | succ nW ih =>
      intro kW tW rL x2 hkW htW hf
      rw [f_Q_seen_151] at hf
      refine x_iload_n C dL_seen_151 rfl 2 rfl ?_
      refine x_aload_n C dL_seen_152 rfl 0 rfl ?_
      obtain ⟨u2001, hu2001, hf⟩ := x_b hf
      refine x_callV (n := 0) (As := []) (rest := [.int x2]) C (c_X9_events g l a b y z v e hu2001) ⟨⟨wd_1265, wd_1262, wd_25⟩, ⟨by decide, by decide, by decide⟩, rfl, rfl, Nat.le_of_ble_eq_true rfl, Nat.le_of_ble_eq_true rfl⟩ wd_1263 wd_1264 ⟨0, 10, _, _, rfl, rfl, rfl⟩ [cdW g a 10 c, iaW g q1 130 rL] (x_pickD [0, 1, 3, 2, 4] 5 rfl rfl rfl) rfl rfl (Nat.le_of_ble_eq_true rfl) ⟨by show _ ≤ 226; omega, by show _ ≤ 1480; omega⟩ dL_seen_153 (x_goD (wss2 := [ccO g a b y z, stO g a 10 v, evW g a 10 e, cdW g a 10 c, iaW g q1 130 rL]) (stk2 := [.int u2001, .int x2]) rfl rfl ?_)
      refine x_icmp_ge (tgt := 212) C dL_seen_156 (by decide) (fun h2002 => ?_) (fun h2002 => ?_)
      · have hf := x_t h2002 hf
        refine x_aload_n C dL_seen_212 rfl 1 rfl ?_
        refine x_perm (wss' := [ccO g a b y z, stO g a 10 v, cdW g a 10 c, evW g a 10 e, iaW g q1 130 rL]) (x_pick [0, 1, 3, 2, 4] 5 rfl rfl rfl) ?_
        refine x_widen (k := 226) (n := 1480) (by omega) (by omega) ?_
        obtain rfl := Option.some.inj hf
        exact x_aret C hr (Or.inr ⟨_, rfl⟩) ⟨q1, rfl, rfl⟩ dL_seen_213
      · have hf := x_f h2002 hf
        refine x_aload_n C dL_seen_159 rfl 1 rfl ?_
        refine x_bipush (v := 66) C dL_seen_160 (by decide) ?_
        refine x_iconst (v := 3) C dL_seen_162 (by decide) ?_
        refine x_iload_n C dL_seen_163 rfl 2 rfl ?_
        refine x_imul C dL_seen_164 ?_
        refine x_iadd C dL_seen_165 ?_
        refine x_aload_n C dL_seen_166 rfl 0 rfl ?_
        refine x_iload_n C dL_seen_167 rfl 2 rfl ?_
        obtain ⟨u2003, hu2003, hf⟩ := x_b hf
        refine x_xcallV (n := 1) (As := [.int x2]) (rest := [.int ((66 : Int32) + ((3 : Int32) * x2)), .ref q1]) C (c_X9_eventMinute g l hl a b y z v e x2 hu2003) ⟨⟨wd_1305, wd_1302, wd_25⟩, ⟨by decide, by decide, by decide⟩, rfl, rfl, Nat.le_of_ble_eq_true rfl, Nat.le_of_ble_eq_true rfl⟩ wd_1303 wd_1304 ⟨0, 10, _, _, rfl, rfl, rfl⟩ [cdW g a 10 c, iaW g q1 130 rL] (x_pickD [0, 1, 2, 3, 4] 5 rfl rfl rfl) rfl rfl (Nat.le_of_ble_eq_true rfl) ⟨by show _ ≤ 226; omega, by show _ ≤ 1480; omega⟩ dL_seen_168 (fun E9 w9 hX9 => ?_) (fun v9 w9 hQ9 => ?_)
        · obtain ⟨k9, hk9, -⟩ := hX9
          cases x_sl hk9 hf
        · obtain ⟨r2004, hr9, rfl, rfl⟩ := hQ9
          have hf := x_sr hr9 hf
          refine x_goW (wss2 := [ccO g a b y z, stO g a 10 v, evW g a 10 e, cdW g a 10 c, iaW g q1 130 rL]) (stk2 := [.int r2004, .int ((66 : Int32) + ((3 : Int32) * x2)), .ref q1]) rfl rfl rfl ?_
          obtain ⟨h2005, hf⟩ := x_n hf
          refine x_iast (b := iaW g q1 130 rL) (b' := iaW g q1 130 (upd rL ((66 : Int32) + ((3 : Int32) * x2)).toNatClampNeg r2004)) (wss' := [ccO g a b y z, stO g a 10 v, evW g a 10 e, cdW g a 10 c, iaW g q1 130 (upd rL ((66 : Int32) + ((3 : Int32) * x2)).toNatClampNeg r2004)]) C 4 rfl 0 (iaW_at0 g q1 130 _) h2005 rfl rfl dL_seen_171 ?_
          refine x_aload_n C dL_seen_172 rfl 1 rfl ?_
          refine x_bipush (v := 67) C dL_seen_173 (by decide) ?_
          refine x_iconst (v := 3) C dL_seen_175 (by decide) ?_
          refine x_iload_n C dL_seen_176 rfl 2 rfl ?_
          refine x_imul C dL_seen_177 ?_
          refine x_iadd C dL_seen_178 ?_
          refine x_aload_n C dL_seen_179 rfl 0 rfl ?_
          refine x_iload_n C dL_seen_180 rfl 2 rfl ?_
          obtain ⟨u2006, hu2006, hf⟩ := x_b hf
          refine x_xcallV (n := 1) (As := [.int x2]) (rest := [.int ((67 : Int32) + ((3 : Int32) * x2)), .ref q1]) C (c_X9_eventCandle g l hl a b y z v e x2 hu2006) ⟨⟨wd_1309, wd_1306, wd_25⟩, ⟨by decide, by decide, by decide⟩, rfl, rfl, Nat.le_of_ble_eq_true rfl, Nat.le_of_ble_eq_true rfl⟩ wd_1307 wd_1308 ⟨0, 10, _, _, rfl, rfl, rfl⟩ [cdW g a 10 c, iaW g q1 130 (upd rL ((66 : Int32) + ((3 : Int32) * x2)).toNatClampNeg r2004)] (x_pickD [0, 1, 2, 3, 4] 5 rfl rfl rfl) rfl rfl (Nat.le_of_ble_eq_true rfl) ⟨by show _ ≤ 226; omega, by show _ ≤ 1480; omega⟩ dL_seen_181 (fun E9 w9 hX9 => ?_) (fun v9 w9 hQ9 => ?_)
          · obtain ⟨k9, hk9, -⟩ := hX9
            cases x_sl hk9 hf
          · obtain ⟨r2007, hr9, rfl, rfl⟩ := hQ9
            have hf := x_sr hr9 hf
            refine x_goW (wss2 := [ccO g a b y z, stO g a 10 v, evW g a 10 e, cdW g a 10 c, iaW g q1 130 (upd rL ((66 : Int32) + ((3 : Int32) * x2)).toNatClampNeg r2004)]) (stk2 := [.int r2007, .int ((67 : Int32) + ((3 : Int32) * x2)), .ref q1]) rfl rfl rfl ?_
            obtain ⟨h2008, hf⟩ := x_n hf
            refine x_iast (b := iaW g q1 130 (upd rL ((66 : Int32) + ((3 : Int32) * x2)).toNatClampNeg r2004)) (b' := iaW g q1 130 (upd (upd rL ((66 : Int32) + ((3 : Int32) * x2)).toNatClampNeg r2004) ((67 : Int32) + ((3 : Int32) * x2)).toNatClampNeg r2007)) (wss' := [ccO g a b y z, stO g a 10 v, evW g a 10 e, cdW g a 10 c, iaW g q1 130 (upd (upd rL ((66 : Int32) + ((3 : Int32) * x2)).toNatClampNeg r2004) ((67 : Int32) + ((3 : Int32) * x2)).toNatClampNeg r2007)]) C 4 rfl 0 (iaW_at0 g q1 130 _) h2008 rfl rfl dL_seen_184 ?_
            refine x_aload_n C dL_seen_185 rfl 1 rfl ?_
            refine x_bipush (v := 68) C dL_seen_186 (by decide) ?_
            refine x_iconst (v := 3) C dL_seen_188 (by decide) ?_
            refine x_iload_n C dL_seen_189 rfl 2 rfl ?_
            refine x_imul C dL_seen_190 ?_
            refine x_iadd C dL_seen_191 ?_
            refine x_aload_n C dL_seen_192 rfl 0 rfl ?_
            refine x_iload_n C dL_seen_193 rfl 2 rfl ?_
            obtain ⟨u2009, hu2009, hf⟩ := x_b hf
            refine x_xcallV (n := 1) (As := [.int x2]) (rest := [.int ((68 : Int32) + ((3 : Int32) * x2)), .ref q1]) C (c_X9_isLighting g l hl a b y z v e x2 hu2009) ⟨⟨wd_1313, wd_1310, wd_25⟩, ⟨by decide, by decide, by decide⟩, rfl, rfl, Nat.le_of_ble_eq_true rfl, Nat.le_of_ble_eq_true rfl⟩ wd_1311 wd_1312 ⟨0, 10, _, _, rfl, rfl, rfl⟩ [cdW g a 10 c, iaW g q1 130 (upd (upd rL ((66 : Int32) + ((3 : Int32) * x2)).toNatClampNeg r2004) ((67 : Int32) + ((3 : Int32) * x2)).toNatClampNeg r2007)] (x_pickD [0, 1, 2, 3, 4] 5 rfl rfl rfl) rfl rfl (Nat.le_of_ble_eq_true rfl) ⟨by show _ ≤ 226; omega, by show _ ≤ 1480; omega⟩ dL_seen_194 (fun E9 w9 hX9 => ?_) (fun v9 w9 hQ9 => ?_)
            · obtain ⟨k9, hk9, -⟩ := hX9
              cases x_sl hk9 hf
            · obtain ⟨r2010, hr9, rfl, rfl⟩ := hQ9
              have hf := x_sr hr9 hf
              refine x_goW (wss2 := [ccO g a b y z, stO g a 10 v, evW g a 10 e, cdW g a 10 c, iaW g q1 130 (upd (upd rL ((66 : Int32) + ((3 : Int32) * x2)).toNatClampNeg r2004) ((67 : Int32) + ((3 : Int32) * x2)).toNatClampNeg r2007)]) (stk2 := [.int r2010, .int ((68 : Int32) + ((3 : Int32) * x2)), .ref q1]) rfl rfl rfl ?_
              refine x_if_eq (tgt := 204) C dL_seen_197 (by decide) (fun h2011 => ?_) (fun h2011 => ?_)
              · have hf := x_t h2011 hf
                refine x_iconst (v := 0) C dL_seen_204 (by decide) ?_
                obtain ⟨h2012, hf⟩ := x_n hf
                refine x_iast (b := iaW g q1 130 (upd (upd rL ((66 : Int32) + ((3 : Int32) * x2)).toNatClampNeg r2004) ((67 : Int32) + ((3 : Int32) * x2)).toNatClampNeg r2007)) (b' := iaW g q1 130 (upd (upd (upd rL ((66 : Int32) + ((3 : Int32) * x2)).toNatClampNeg r2004) ((67 : Int32) + ((3 : Int32) * x2)).toNatClampNeg r2007) ((68 : Int32) + ((3 : Int32) * x2)).toNatClampNeg (0 : Int32))) (wss' := [ccO g a b y z, stO g a 10 v, evW g a 10 e, cdW g a 10 c, iaW g q1 130 (upd (upd (upd rL ((66 : Int32) + ((3 : Int32) * x2)).toNatClampNeg r2004) ((67 : Int32) + ((3 : Int32) * x2)).toNatClampNeg r2007) ((68 : Int32) + ((3 : Int32) * x2)).toNatClampNeg (0 : Int32))]) C 4 rfl 0 (iaW_at0 g q1 130 _) h2012 rfl rfl dL_seen_205 ?_
                refine x_iinc (v := x2 + 1) (lv' := [(2, .int (x2 + 1)), (0, .ref (a 0)), (1, .ref q1)]) C dL_seen_206 2 rfl rfl (by decide) rfl ?_
                refine x_goto (tgt := 151) C dL_seen_209 (by decide) ?_
                refine x_perm (wss' := [ccO g a b y z, stO g a 10 v, cdW g a 10 c, evW g a 10 e, iaW g q1 130 (upd (upd (upd rL ((66 : Int32) + ((3 : Int32) * x2)).toNatClampNeg r2004) ((67 : Int32) + ((3 : Int32) * x2)).toNatClampNeg r2007) ((68 : Int32) + ((3 : Int32) * x2)).toNatClampNeg (0 : Int32))]) (x_pick [0, 1, 3, 2, 4] 5 rfl rfl rfl) ?_
                refine x_locals (lv' := [(0, .ref (a 0)), (1, .ref q1), (2, .int (x2 + 1))]) [1, 2, 0] rfl ?_
                refine x_widen (k := kW + 3) (n := tW + 18) (by omega) (by omega) ?_
                exact ih (kW + 3) (tW + 18) (upd (upd (upd rL ((66 : Int32) + ((3 : Int32) * x2)).toNatClampNeg r2004) ((67 : Int32) + ((3 : Int32) * x2)).toNatClampNeg r2007) ((68 : Int32) + ((3 : Int32) * x2)).toNatClampNeg (0 : Int32)) (x2 + 1) (by omega) (by omega) hf
              · have hf := x_f h2011 hf
                refine x_iconst (v := 1) C dL_seen_200 (by decide) ?_
                refine x_goto (tgt := 205) C dL_seen_201 (by decide) ?_
                obtain ⟨h2013, hf⟩ := x_n hf
                refine x_iast (b := iaW g q1 130 (upd (upd rL ((66 : Int32) + ((3 : Int32) * x2)).toNatClampNeg r2004) ((67 : Int32) + ((3 : Int32) * x2)).toNatClampNeg r2007)) (b' := iaW g q1 130 (upd (upd (upd rL ((66 : Int32) + ((3 : Int32) * x2)).toNatClampNeg r2004) ((67 : Int32) + ((3 : Int32) * x2)).toNatClampNeg r2007) ((68 : Int32) + ((3 : Int32) * x2)).toNatClampNeg (1 : Int32))) (wss' := [ccO g a b y z, stO g a 10 v, evW g a 10 e, cdW g a 10 c, iaW g q1 130 (upd (upd (upd rL ((66 : Int32) + ((3 : Int32) * x2)).toNatClampNeg r2004) ((67 : Int32) + ((3 : Int32) * x2)).toNatClampNeg r2007) ((68 : Int32) + ((3 : Int32) * x2)).toNatClampNeg (1 : Int32))]) C 4 rfl 0 (iaW_at0 g q1 130 _) h2013 rfl rfl dL_seen_205 ?_
                refine x_iinc (v := x2 + 1) (lv' := [(2, .int (x2 + 1)), (0, .ref (a 0)), (1, .ref q1)]) C dL_seen_206 2 rfl rfl (by decide) rfl ?_
                refine x_goto (tgt := 151) C dL_seen_209 (by decide) ?_
                refine x_perm (wss' := [ccO g a b y z, stO g a 10 v, cdW g a 10 c, evW g a 10 e, iaW g q1 130 (upd (upd (upd rL ((66 : Int32) + ((3 : Int32) * x2)).toNatClampNeg r2004) ((67 : Int32) + ((3 : Int32) * x2)).toNatClampNeg r2007) ((68 : Int32) + ((3 : Int32) * x2)).toNatClampNeg (1 : Int32))]) (x_pick [0, 1, 3, 2, 4] 5 rfl rfl rfl) ?_
                refine x_locals (lv' := [(0, .ref (a 0)), (1, .ref q1), (2, .int (x2 + 1))]) [1, 2, 0] rfl ?_
                refine x_widen (k := kW + 3) (n := tW + 18) (by omega) (by omega) ?_
                exact ih (kW + 3) (tW + 18) (upd (upd (upd rL ((66 : Int32) + ((3 : Int32) * x2)).toNatClampNeg r2004) ((67 : Int32) + ((3 : Int32) * x2)).toNatClampNeg r2007) ((68 : Int32) + ((3 : Int32) * x2)).toNatClampNeg (1 : Int32)) (x2 + 1) (by omega) (by omega) hf
  have hL75 : ∀ (nW kW tW : Nat) (rL : (Nat → Int32)) (x2 : Int32), kW + 4 * nW + 96 ≤ 226 → tW + 24 * nW + 576 ≤ 1480 → f_Q_seen_75 nW z v c e rL x2 = some u → VW g (va_A ([ccO g a b y z, stO g a 10 v, cdW g a 10 c, evW g a 10 e] : List va_W).flatten sW.heap.size) 3 pW l eW ({ frames := 8, cells := 226, slots := 1480, locals := 132 } : Room) sW mW argsW belowW methW c9 kW tW (MQ belowW (xQc g ([ccO g a b y z, stO g a 10 v, cdW g a 10 c, evW g a 10 e] : List va_W).flatten sW.heap.size (fun v9 w9 => ∃ q9 : Nat, v9 = some (.ref q9) ∧ w9 = ([ccO g a b y z, stO g a 10 v, cdW g a 10 c, evW g a 10 e, iaW g q9 130 u] : List va_W).flatten)) argsW sW 226 1480 (va_A ([ccO g a b y z, stO g a 10 v, cdW g a 10 c, evW g a 10 e] : List va_W).flatten sW.heap.size)) [ccO g a b y z, stO g a 10 v, cdW g a 10 c, evW g a 10 e, iaW g q1 130 rL] [(0, .ref (a 0)), (1, .ref q1), (2, .int x2)] 75 [] := by
    intro nW
    induction nW with
    | zero => intro kW tW rL x2 hkW htW hf; rw [f_Q_seen_75] at hf; cases hf
    | succ nW ih =>
      intro kW tW rL x2 hkW htW hf
      rw [f_Q_seen_75] at hf
      refine x_iload_n C dL_seen_75 rfl 2 rfl ?_
      refine x_aload_n C dL_seen_76 rfl 0 rfl ?_
      obtain ⟨u1001, hu1001, hf⟩ := x_b hf
      refine x_callV (n := 0) (As := []) (rest := [.int x2]) C (c_X9_candles g l a b y z v c hu1001) ⟨⟨wd_1261, wd_1258, wd_25⟩, ⟨by decide, by decide, by decide⟩, rfl, rfl, Nat.le_of_ble_eq_true rfl, Nat.le_of_ble_eq_true rfl⟩ wd_1259 wd_1260 ⟨0, 10, _, _, rfl, rfl, rfl⟩ [evW g a 10 e, iaW g q1 130 rL] (x_pickD [0, 1, 2, 3, 4] 5 rfl rfl rfl) rfl rfl (Nat.le_of_ble_eq_true rfl) ⟨by show _ ≤ 226; omega, by show _ ≤ 1480; omega⟩ dL_seen_77 (x_goD (wss2 := [ccO g a b y z, stO g a 10 v, cdW g a 10 c, evW g a 10 e, iaW g q1 130 rL]) (stk2 := [.int u1001, .int x2]) rfl rfl ?_)
      refine x_icmp_ge (tgt := 149) C dL_seen_80 (by decide) (fun h1002 => ?_) (fun h1002 => ?_)
      · have hf := x_t h1002 hf
        refine x_iconst (v := 0) C dL_seen_149 (by decide) ?_
        refine x_istore_n (lv' := [(2, .int (0 : Int32)), (0, .ref (a 0)), (1, .ref q1)]) C dL_seen_150 rfl (by decide) rfl ?_
        refine x_locals (lv' := [(0, .ref (a 0)), (1, .ref q1), (2, .int (0 : Int32))]) [1, 2, 0] rfl ?_
        refine x_widen (k := kW + 0) (n := tW + 0) (by omega) (by omega) ?_
        exact hL151 32 (kW + 0) (tW + 0) rL (0 : Int32) (by omega) (by omega) hf
      · have hf := x_f h1002 hf
        refine x_aload_n C dL_seen_83 rfl 1 rfl ?_
        refine x_bipush (v := 10) C dL_seen_84 (by decide) ?_
        refine x_iconst (v := 5) C dL_seen_86 (by decide) ?_
        refine x_iload_n C dL_seen_87 rfl 2 rfl ?_
        refine x_imul C dL_seen_88 ?_
        refine x_iadd C dL_seen_89 ?_
        refine x_aload_n C dL_seen_90 rfl 0 rfl ?_
        refine x_iload_n C dL_seen_91 rfl 2 rfl ?_
        obtain ⟨u1003, hu1003, hf⟩ := x_b hf
        refine x_xcallV (n := 1) (As := [.int x2]) (rest := [.int ((10 : Int32) + ((5 : Int32) * x2)), .ref q1]) C (c_X9_voice g l hl a b y z v c x2 hu1003) ⟨⟨wd_1289, wd_1286, wd_25⟩, ⟨by decide, by decide, by decide⟩, rfl, rfl, Nat.le_of_ble_eq_true rfl, Nat.le_of_ble_eq_true rfl⟩ wd_1287 wd_1288 ⟨0, 10, _, _, rfl, rfl, rfl⟩ [evW g a 10 e, iaW g q1 130 rL] (x_pickD [0, 1, 2, 3, 4] 5 rfl rfl rfl) rfl rfl (Nat.le_of_ble_eq_true rfl) ⟨by show _ ≤ 226; omega, by show _ ≤ 1480; omega⟩ dL_seen_92 (fun E9 w9 hX9 => ?_) (fun v9 w9 hQ9 => ?_)
        · obtain ⟨k9, hk9, -⟩ := hX9
          cases x_sl hk9 hf
        · obtain ⟨r1004, hr9, rfl, rfl⟩ := hQ9
          have hf := x_sr hr9 hf
          refine x_goW (wss2 := [ccO g a b y z, stO g a 10 v, cdW g a 10 c, evW g a 10 e, iaW g q1 130 rL]) (stk2 := [.int r1004, .int ((10 : Int32) + ((5 : Int32) * x2)), .ref q1]) rfl rfl rfl ?_
          obtain ⟨h1005, hf⟩ := x_n hf
          refine x_iast (b := iaW g q1 130 rL) (b' := iaW g q1 130 (upd rL ((10 : Int32) + ((5 : Int32) * x2)).toNatClampNeg r1004)) (wss' := [ccO g a b y z, stO g a 10 v, cdW g a 10 c, evW g a 10 e, iaW g q1 130 (upd rL ((10 : Int32) + ((5 : Int32) * x2)).toNatClampNeg r1004)]) C 4 rfl 0 (iaW_at0 g q1 130 _) h1005 rfl rfl dL_seen_95 ?_
          refine x_aload_n C dL_seen_96 rfl 1 rfl ?_
          refine x_bipush (v := 11) C dL_seen_97 (by decide) ?_
          refine x_iconst (v := 5) C dL_seen_99 (by decide) ?_
          refine x_iload_n C dL_seen_100 rfl 2 rfl ?_
          refine x_imul C dL_seen_101 ?_
          refine x_iadd C dL_seen_102 ?_
          refine x_aload_n C dL_seen_103 rfl 0 rfl ?_
          refine x_iload_n C dL_seen_104 rfl 2 rfl ?_
          obtain ⟨u1006, hu1006, hf⟩ := x_b hf
          refine x_xcallV (n := 1) (As := [.int x2]) (rest := [.int ((11 : Int32) + ((5 : Int32) * x2)), .ref q1]) C (c_X9_wax g l hl a b y z v c x2 hu1006) ⟨⟨wd_1293, wd_1290, wd_25⟩, ⟨by decide, by decide, by decide⟩, rfl, rfl, Nat.le_of_ble_eq_true rfl, Nat.le_of_ble_eq_true rfl⟩ wd_1291 wd_1292 ⟨0, 10, _, _, rfl, rfl, rfl⟩ [evW g a 10 e, iaW g q1 130 (upd rL ((10 : Int32) + ((5 : Int32) * x2)).toNatClampNeg r1004)] (x_pickD [0, 1, 2, 3, 4] 5 rfl rfl rfl) rfl rfl (Nat.le_of_ble_eq_true rfl) ⟨by show _ ≤ 226; omega, by show _ ≤ 1480; omega⟩ dL_seen_105 (fun E9 w9 hX9 => ?_) (fun v9 w9 hQ9 => ?_)
          · obtain ⟨k9, hk9, -⟩ := hX9
            cases x_sl hk9 hf
          · obtain ⟨r1007, hr9, rfl, rfl⟩ := hQ9
            have hf := x_sr hr9 hf
            refine x_goW (wss2 := [ccO g a b y z, stO g a 10 v, cdW g a 10 c, evW g a 10 e, iaW g q1 130 (upd rL ((10 : Int32) + ((5 : Int32) * x2)).toNatClampNeg r1004)]) (stk2 := [.int r1007, .int ((11 : Int32) + ((5 : Int32) * x2)), .ref q1]) rfl rfl rfl ?_
            obtain ⟨h1008, hf⟩ := x_n hf
            refine x_iast (b := iaW g q1 130 (upd rL ((10 : Int32) + ((5 : Int32) * x2)).toNatClampNeg r1004)) (b' := iaW g q1 130 (upd (upd rL ((10 : Int32) + ((5 : Int32) * x2)).toNatClampNeg r1004) ((11 : Int32) + ((5 : Int32) * x2)).toNatClampNeg r1007)) (wss' := [ccO g a b y z, stO g a 10 v, cdW g a 10 c, evW g a 10 e, iaW g q1 130 (upd (upd rL ((10 : Int32) + ((5 : Int32) * x2)).toNatClampNeg r1004) ((11 : Int32) + ((5 : Int32) * x2)).toNatClampNeg r1007)]) C 4 rfl 0 (iaW_at0 g q1 130 _) h1008 rfl rfl dL_seen_108 ?_
            refine x_aload_n C dL_seen_109 rfl 1 rfl ?_
            refine x_bipush (v := 12) C dL_seen_110 (by decide) ?_
            refine x_iconst (v := 5) C dL_seen_112 (by decide) ?_
            refine x_iload_n C dL_seen_113 rfl 2 rfl ?_
            refine x_imul C dL_seen_114 ?_
            refine x_iadd C dL_seen_115 ?_
            refine x_aload_n C dL_seen_116 rfl 0 rfl ?_
            refine x_iload_n C dL_seen_117 rfl 2 rfl ?_
            obtain ⟨u1009, hu1009, hf⟩ := x_b hf
            refine x_xcallV (n := 1) (As := [.int x2]) (rest := [.int ((12 : Int32) + ((5 : Int32) * x2)), .ref q1]) C (c_X9_consumption g l hl a b y z v c x2 hu1009) ⟨⟨wd_1297, wd_1294, wd_25⟩, ⟨by decide, by decide, by decide⟩, rfl, rfl, Nat.le_of_ble_eq_true rfl, Nat.le_of_ble_eq_true rfl⟩ wd_1295 wd_1296 ⟨0, 10, _, _, rfl, rfl, rfl⟩ [evW g a 10 e, iaW g q1 130 (upd (upd rL ((10 : Int32) + ((5 : Int32) * x2)).toNatClampNeg r1004) ((11 : Int32) + ((5 : Int32) * x2)).toNatClampNeg r1007)] (x_pickD [0, 1, 2, 3, 4] 5 rfl rfl rfl) rfl rfl (Nat.le_of_ble_eq_true rfl) ⟨by show _ ≤ 226; omega, by show _ ≤ 1480; omega⟩ dL_seen_118 (fun E9 w9 hX9 => ?_) (fun v9 w9 hQ9 => ?_)
            · obtain ⟨k9, hk9, -⟩ := hX9
              cases x_sl hk9 hf
            · obtain ⟨r1010, hr9, rfl, rfl⟩ := hQ9
              have hf := x_sr hr9 hf
              refine x_goW (wss2 := [ccO g a b y z, stO g a 10 v, cdW g a 10 c, evW g a 10 e, iaW g q1 130 (upd (upd rL ((10 : Int32) + ((5 : Int32) * x2)).toNatClampNeg r1004) ((11 : Int32) + ((5 : Int32) * x2)).toNatClampNeg r1007)]) (stk2 := [.int r1010, .int ((12 : Int32) + ((5 : Int32) * x2)), .ref q1]) rfl rfl rfl ?_
              obtain ⟨h1011, hf⟩ := x_n hf
              refine x_iast (b := iaW g q1 130 (upd (upd rL ((10 : Int32) + ((5 : Int32) * x2)).toNatClampNeg r1004) ((11 : Int32) + ((5 : Int32) * x2)).toNatClampNeg r1007)) (b' := iaW g q1 130 (upd (upd (upd rL ((10 : Int32) + ((5 : Int32) * x2)).toNatClampNeg r1004) ((11 : Int32) + ((5 : Int32) * x2)).toNatClampNeg r1007) ((12 : Int32) + ((5 : Int32) * x2)).toNatClampNeg r1010)) (wss' := [ccO g a b y z, stO g a 10 v, cdW g a 10 c, evW g a 10 e, iaW g q1 130 (upd (upd (upd rL ((10 : Int32) + ((5 : Int32) * x2)).toNatClampNeg r1004) ((11 : Int32) + ((5 : Int32) * x2)).toNatClampNeg r1007) ((12 : Int32) + ((5 : Int32) * x2)).toNatClampNeg r1010)]) C 4 rfl 0 (iaW_at0 g q1 130 _) h1011 rfl rfl dL_seen_121 ?_
              refine x_aload_n C dL_seen_122 rfl 1 rfl ?_
              refine x_bipush (v := 13) C dL_seen_123 (by decide) ?_
              refine x_iconst (v := 5) C dL_seen_125 (by decide) ?_
              refine x_iload_n C dL_seen_126 rfl 2 rfl ?_
              refine x_imul C dL_seen_127 ?_
              refine x_iadd C dL_seen_128 ?_
              refine x_aload_n C dL_seen_129 rfl 0 rfl ?_
              refine x_iload_n C dL_seen_130 rfl 2 rfl ?_
              obtain ⟨u1012, hu1012, hf⟩ := x_b hf
              refine x_xcallV (n := 1) (As := [.int x2]) (rest := [.int ((13 : Int32) + ((5 : Int32) * x2)), .ref q1]) C (c_X9_isLit g l hl a b y z v c x2 hu1012) ⟨⟨wd_1301, wd_1298, wd_25⟩, ⟨by decide, by decide, by decide⟩, rfl, rfl, Nat.le_of_ble_eq_true rfl, Nat.le_of_ble_eq_true rfl⟩ wd_1299 wd_1300 ⟨0, 10, _, _, rfl, rfl, rfl⟩ [evW g a 10 e, iaW g q1 130 (upd (upd (upd rL ((10 : Int32) + ((5 : Int32) * x2)).toNatClampNeg r1004) ((11 : Int32) + ((5 : Int32) * x2)).toNatClampNeg r1007) ((12 : Int32) + ((5 : Int32) * x2)).toNatClampNeg r1010)] (x_pickD [0, 1, 2, 3, 4] 5 rfl rfl rfl) rfl rfl (Nat.le_of_ble_eq_true rfl) ⟨by show _ ≤ 226; omega, by show _ ≤ 1480; omega⟩ dL_seen_131 (fun E9 w9 hX9 => ?_) (fun v9 w9 hQ9 => ?_)
              · obtain ⟨k9, hk9, -⟩ := hX9
                cases x_sl hk9 hf
              · obtain ⟨r1013, hr9, rfl, rfl⟩ := hQ9
                have hf := x_sr hr9 hf
                refine x_goW (wss2 := [ccO g a b y z, stO g a 10 v, cdW g a 10 c, evW g a 10 e, iaW g q1 130 (upd (upd (upd rL ((10 : Int32) + ((5 : Int32) * x2)).toNatClampNeg r1004) ((11 : Int32) + ((5 : Int32) * x2)).toNatClampNeg r1007) ((12 : Int32) + ((5 : Int32) * x2)).toNatClampNeg r1010)]) (stk2 := [.int r1013, .int ((13 : Int32) + ((5 : Int32) * x2)), .ref q1]) rfl rfl rfl ?_
                refine x_if_eq (tgt := 141) C dL_seen_134 (by decide) (fun h1014 => ?_) (fun h1014 => ?_)
                · have hf := x_t h1014 hf
                  refine x_iconst (v := 0) C dL_seen_141 (by decide) ?_
                  obtain ⟨h1015, hf⟩ := x_n hf
                  refine x_iast (b := iaW g q1 130 (upd (upd (upd rL ((10 : Int32) + ((5 : Int32) * x2)).toNatClampNeg r1004) ((11 : Int32) + ((5 : Int32) * x2)).toNatClampNeg r1007) ((12 : Int32) + ((5 : Int32) * x2)).toNatClampNeg r1010)) (b' := iaW g q1 130 (upd (upd (upd (upd rL ((10 : Int32) + ((5 : Int32) * x2)).toNatClampNeg r1004) ((11 : Int32) + ((5 : Int32) * x2)).toNatClampNeg r1007) ((12 : Int32) + ((5 : Int32) * x2)).toNatClampNeg r1010) ((13 : Int32) + ((5 : Int32) * x2)).toNatClampNeg (0 : Int32))) (wss' := [ccO g a b y z, stO g a 10 v, cdW g a 10 c, evW g a 10 e, iaW g q1 130 (upd (upd (upd (upd rL ((10 : Int32) + ((5 : Int32) * x2)).toNatClampNeg r1004) ((11 : Int32) + ((5 : Int32) * x2)).toNatClampNeg r1007) ((12 : Int32) + ((5 : Int32) * x2)).toNatClampNeg r1010) ((13 : Int32) + ((5 : Int32) * x2)).toNatClampNeg (0 : Int32))]) C 4 rfl 0 (iaW_at0 g q1 130 _) h1015 rfl rfl dL_seen_142 ?_
                  refine x_iinc (v := x2 + 1) (lv' := [(2, .int (x2 + 1)), (0, .ref (a 0)), (1, .ref q1)]) C dL_seen_143 2 rfl rfl (by decide) rfl ?_
                  refine x_goto (tgt := 75) C dL_seen_146 (by decide) ?_
                  refine x_locals (lv' := [(0, .ref (a 0)), (1, .ref q1), (2, .int (x2 + 1))]) [1, 2, 0] rfl ?_
                  refine x_widen (k := kW + 4) (n := tW + 24) (by omega) (by omega) ?_
                  exact ih (kW + 4) (tW + 24) (upd (upd (upd (upd rL ((10 : Int32) + ((5 : Int32) * x2)).toNatClampNeg r1004) ((11 : Int32) + ((5 : Int32) * x2)).toNatClampNeg r1007) ((12 : Int32) + ((5 : Int32) * x2)).toNatClampNeg r1010) ((13 : Int32) + ((5 : Int32) * x2)).toNatClampNeg (0 : Int32)) (x2 + 1) (by omega) (by omega) hf
                · have hf := x_f h1014 hf
                  refine x_iconst (v := 1) C dL_seen_137 (by decide) ?_
                  refine x_goto (tgt := 142) C dL_seen_138 (by decide) ?_
                  obtain ⟨h1016, hf⟩ := x_n hf
                  refine x_iast (b := iaW g q1 130 (upd (upd (upd rL ((10 : Int32) + ((5 : Int32) * x2)).toNatClampNeg r1004) ((11 : Int32) + ((5 : Int32) * x2)).toNatClampNeg r1007) ((12 : Int32) + ((5 : Int32) * x2)).toNatClampNeg r1010)) (b' := iaW g q1 130 (upd (upd (upd (upd rL ((10 : Int32) + ((5 : Int32) * x2)).toNatClampNeg r1004) ((11 : Int32) + ((5 : Int32) * x2)).toNatClampNeg r1007) ((12 : Int32) + ((5 : Int32) * x2)).toNatClampNeg r1010) ((13 : Int32) + ((5 : Int32) * x2)).toNatClampNeg (1 : Int32))) (wss' := [ccO g a b y z, stO g a 10 v, cdW g a 10 c, evW g a 10 e, iaW g q1 130 (upd (upd (upd (upd rL ((10 : Int32) + ((5 : Int32) * x2)).toNatClampNeg r1004) ((11 : Int32) + ((5 : Int32) * x2)).toNatClampNeg r1007) ((12 : Int32) + ((5 : Int32) * x2)).toNatClampNeg r1010) ((13 : Int32) + ((5 : Int32) * x2)).toNatClampNeg (1 : Int32))]) C 4 rfl 0 (iaW_at0 g q1 130 _) h1016 rfl rfl dL_seen_142 ?_
                  refine x_iinc (v := x2 + 1) (lv' := [(2, .int (x2 + 1)), (0, .ref (a 0)), (1, .ref q1)]) C dL_seen_143 2 rfl rfl (by decide) rfl ?_
                  refine x_goto (tgt := 75) C dL_seen_146 (by decide) ?_
                  refine x_locals (lv' := [(0, .ref (a 0)), (1, .ref q1), (2, .int (x2 + 1))]) [1, 2, 0] rfl ?_
                  refine x_widen (k := kW + 4) (n := tW + 24) (by omega) (by omega) ?_
                  exact ih (kW + 4) (tW + 24) (upd (upd (upd (upd rL ((10 : Int32) + ((5 : Int32) * x2)).toNatClampNeg r1004) ((11 : Int32) + ((5 : Int32) * x2)).toNatClampNeg r1007) ((12 : Int32) + ((5 : Int32) * x2)).toNatClampNeg r1010) ((13 : Int32) + ((5 : Int32) * x2)).toNatClampNeg (1 : Int32)) (x2 + 1) (by omega) (by omega) hf
  exact hL75 32 (2) (136) (upd (upd (upd (upd (upd (upd (upd (upd (upd (fun _ => 0) (0 : Int32).toNatClampNeg u2) (1 : Int32).toNatClampNeg u4) (2 : Int32).toNatClampNeg u6) (3 : Int32).toNatClampNeg u8) (4 : Int32).toNatClampNeg u10) (5 : Int32).toNatClampNeg u12) (6 : Int32).toNatClampNeg u14) (7 : Int32).toNatClampNeg u16.toInt32) (8 : Int32).toNatClampNeg u18) (0 : Int32) (by omega) (by omega) hf
